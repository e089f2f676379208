theorem T_lp_X0_allLifted_4 (L : Nat)     : ∀ (n : Nat) (l1 : Int) (l2 : Int) (μ : ivM) (r : Int) (μ' : ivM), lp_X0_allLifted_4  n l1 l2 μ = some (r, μ') → iv_Ret L 1 4 [ivR 99, ivI l1, ivI l2] [] (ivST μ) (some (ivI r)) (ivST μ') := by
  intro n
  induction n with
  | zero => intro l1 l2 μ r μ' h; unfold lp_X0_allLifted_4 at h; cases h
  | succ n ih =>
    intro l1 l2 μ r μ' h
    unfold lp_X0_allLifted_4 at h
    refine iv_Ret.stl [5, 7] (ls' := [ivR 99, ivI l1, ivI l2]) (st' := [ivI 6, ivI l2]) (w' := (135, μ, iv_rho)) rfl ?_
    rcases iv_iteE h with ⟨c1, h⟩ | ⟨c1, h⟩
    · refine iv_Ret.icT (t := 25) rfl (decide_eq_true c1) rfl ?_
      refine iv_Ret.stl [26] (ls' := [ivR 99, ivI l1, ivI l2]) (st' := [ivI l1]) (w' := (135, μ, iv_rho)) rfl ?_
      obtain ⟨rfl, rfl⟩ := iv_retE h
      exact ⟨1, rfl⟩
    · refine iv_Ret.icF (t := 10) rfl (decide_eq_false c1) rfl ?_
      refine iv_Ret.stl [11, 12, 15] (ls' := [ivR 99, ivI l1, ivI l2]) (st' := [ivR 100, ivI l1]) (w' := (135, μ, iv_rho)) rfl ?_
      refine iv_Ret.stl [16] (ls' := [ivR 99, ivI l1, ivI l2]) (st' := [ivI l2, ivR 100, ivI l1]) (w' := (135, μ, iv_rho)) rfl ?_
      obtain ⟨c2, h⟩ := iv_ckE h
      refine iv_Ret.iald (len := 6) rfl rfl rfl c2.1 c2.2 ?_
      show iv_Ret L 1 17 [ivR 99, ivI l1, ivI l2] [ivI (μ 100 l2.toNat), ivI l1] (ivST μ) (some (ivI r)) (ivST μ')
      refine iv_Ret.stl [18, 19, 22, 4] (ls' := [ivR 99, ivI (iv_or l1 (μ 100 l2.toNat)), ivI (iv_wr (l2 + 1))]) (st' := []) (w' := (135, μ, iv_rho)) rfl ?_
      exact ih (iv_or l1 (μ 100 l2.toNat)) (iv_wr (l2 + 1)) μ _ _ h
theorem T_X0_allLifted (L : Nat)   {μ μ' : ivM} {r : Int} (h : f_X0_allLifted  μ = some (r, μ')) : iv_Ret L 1 0 [ivR 99, ivU, ivU] [] (ivST μ) (some (ivI r)) (ivST μ') := by
  unfold f_X0_allLifted at h
  refine iv_Ret.stl [1, 2, 3, 4] (ls' := [ivR 99, ivI 0, ivI 0]) (st' := []) (w' := (135, μ, iv_rho)) rfl ?_
  exact T_lp_X0_allLifted_4 L  iv_fuel 0 0 μ _ _ h
theorem T_X9_isSet (L : Nat) (p0 : Int)  {μ μ' : ivM} {r : Int} (h : f_X9_isSet p0 μ = some (r, μ')) : iv_Ret L 99 0 [ivI p0] [] (ivST μ) (some (ivI r)) (ivST μ') := by
  unfold f_X9_isSet at h
  refine iv_Ret.stl [1] (ls' := [ivI p0]) (st' := [ivI p0]) (w' := (135, μ, iv_rho)) rfl ?_
  refine iv_letE (fun j1 => ∀ (v3 : Int) (μ4 : ivM) (r5 : Int) (μ6 : ivM) (z2 : ivV), j1 v3 μ4 = some (r5, μ6) → iv_Ret L 99 16 [z2] [ivI v3] (ivST μ4) (some (ivI r5)) (ivST μ6)) h (fun v3 μ4 r5 μ6 z2 h => ?_) (fun j1 hj1 h => ?_)
  · obtain ⟨c7, h⟩ := iv_ckE h
    obtain ⟨rfl, rfl⟩ := iv_retE h
    exact iv_Ret.zret rfl c7
  · refine iv_letE (fun j8 => ∀ (μ10 : ivM) (r11 : Int) (μ12 : ivM) (z9 : ivV), j8 μ10 = some (r11, μ12) → iv_Ret L 99 15 [z9] [] (ivST μ10) (some (ivI r11)) (ivST μ12)) h (fun μ10 r11 μ12 z9 h => ?_) (fun j8 hj8 h => ?_)
    · refine iv_Ret.stl [16] (ls' := [z9]) (st' := [ivI 0]) (w' := (135, μ10, iv_rho)) rfl ?_
      exact hj1 0 μ10 _ _ z9 h
    · rcases iv_iteE h with ⟨c13, h⟩ | ⟨c13, h⟩
      · refine iv_Ret.ifT (t := 15) rfl (decide_eq_true c13) rfl ?_
        exact hj8 μ _ _ (ivI p0) h
      · refine iv_Ret.ifF (t := 4) rfl (decide_eq_false c13) rfl ?_
        refine iv_Ret.stl [5, 8] (ls' := [ivI p0]) (st' := [ivI 256, ivI p0]) (w' := (135, μ, iv_rho)) rfl ?_
        rcases iv_iteE h with ⟨c14, h⟩ | ⟨c14, h⟩
        · refine iv_Ret.icT (t := 15) rfl (decide_eq_true c14) rfl ?_
          exact hj8 μ _ _ (ivI p0) h
        · refine iv_Ret.icF (t := 11) rfl (decide_eq_false c14) rfl ?_
          refine iv_Ret.stl [12, 16] (ls' := [ivI p0]) (st' := [ivI 1]) (w' := (135, μ, iv_rho)) rfl ?_
          exact hj1 1 μ _ _ (ivI p0) h
theorem T_X9_has (L : Nat) (p0 : Int) (p1 : Int)  {μ μ' : ivM} {r : Int} (h : f_X9_has p0 p1 μ = some (r, μ')) : iv_Ret L 98 0 [ivI p0, ivI p1] [] (ivST μ) (some (ivI r)) (ivST μ') := by
  unfold f_X9_has at h
  refine iv_Ret.stl [1, 2, 3, 4, 5] (ls' := [ivI p0, ivI p1]) (st' := [ivI (iv_and (iv_shr p0 p1) 1)]) (w' := (135, μ, iv_rho)) rfl ?_
  refine iv_letE (fun j1 => ∀ (v4 : Int) (μ5 : ivM) (r6 : Int) (μ7 : ivM) (z2 : ivV) (z3 : ivV), j1 v4 μ5 = some (r6, μ7) → iv_Ret L 98 13 [z2, z3] [ivI v4] (ivST μ5) (some (ivI r6)) (ivST μ7)) h (fun v4 μ5 r6 μ7 z2 z3 h => ?_) (fun j1 hj1 h => ?_)
  · obtain ⟨c8, h⟩ := iv_ckE h
    obtain ⟨rfl, rfl⟩ := iv_retE h
    exact iv_Ret.zret rfl c8
  · rcases iv_iteE h with ⟨c9, h⟩ | ⟨c9, h⟩
    · refine iv_Ret.ifT (t := 12) rfl (decide_eq_true c9) rfl ?_
      refine iv_Ret.stl [13] (ls' := [ivI p0, ivI p1]) (st' := [ivI 0]) (w' := (135, μ, iv_rho)) rfl ?_
      exact hj1 0 μ _ _ (ivI p0) (ivI p1) h
    · refine iv_Ret.ifF (t := 8) rfl (decide_eq_false c9) rfl ?_
      refine iv_Ret.stl [9, 13] (ls' := [ivI p0, ivI p1]) (st' := [ivI 1]) (w' := (135, μ, iv_rho)) rfl ?_
      exact hj1 1 μ _ _ (ivI p0) (ivI p1) h
theorem T_X0_canTake (L : Nat) (p1 : Int) (p2 : Int) (p3 : Int)  {μ μ' : ivM} {r : Int} (h : f_X0_canTake p1 p2 p3 μ = some (r, μ')) : iv_Ret L 6 0 [ivR 99, ivI p1, ivI p2, ivI p3, ivU] [] (ivST μ) (some (ivI r)) (ivST μ') := by
  unfold f_X0_canTake at h
  refine iv_Ret.stl [1, 2, 3, 4, 6, 7, 8, 10, 12] (ls' := [ivR 99, ivI p1, ivI p2, ivI p3, ivI (iv_wr (5 - (iv_rem (iv_wr (p1 - 1)) 6)))]) (st' := [ivI (iv_wr (5 - (iv_rem (iv_wr (p1 - 1)) 6)))]) (w' := (135, μ, iv_rho)) rfl ?_
  refine iv_letE (fun j1 => ∀ (v7 : Int) (μ8 : ivM) (r9 : Int) (μ10 : ivM) (z2 : ivV) (z3 : ivV) (z4 : ivV) (z5 : ivV) (z6 : ivV), j1 v7 μ8 = some (r9, μ10) → iv_Ret L 6 52 [z2, z3, z4, z5, z6] [ivI v7] (ivST μ8) (some (ivI r9)) (ivST μ10)) h (fun v7 μ8 r9 μ10 z2 z3 z4 z5 z6 h => ?_) (fun j1 hj1 h => ?_)
  · obtain ⟨c11, h⟩ := iv_ckE h
    obtain ⟨rfl, rfl⟩ := iv_retE h
    exact iv_Ret.zret rfl c11
  · refine iv_letE (fun j12 => ∀ (μ18 : ivM) (r19 : Int) (μ20 : ivM) (z13 : ivV) (z14 : ivV) (z15 : ivV) (z16 : ivV) (z17 : ivV), j12 μ18 = some (r19, μ20) → iv_Ret L 6 51 [z13, z14, z15, z16, z17] [] (ivST μ18) (some (ivI r19)) (ivST μ20)) h (fun μ18 r19 μ20 z13 z14 z15 z16 z17 h => ?_) (fun j12 hj12 h => ?_)
    · refine iv_Ret.stl [52] (ls' := [z13, z14, z15, z16, z17]) (st' := [ivI 0]) (w' := (135, μ18, iv_rho)) rfl ?_
      exact hj1 0 μ18 _ _ z13 z14 z15 z16 z17 h
    · rcases iv_iteE h with ⟨c21, h⟩ | ⟨c21, h⟩
      · refine iv_Ret.ifT (t := 51) rfl (decide_eq_true c21) rfl ?_
        exact hj12 μ _ _ (ivR 99) (ivI p1) (ivI p2) (ivI p3) (ivI (iv_wr (5 - (iv_rem (iv_wr (p1 - 1)) 6)))) h
      · refine iv_Ret.ifF (t := 15) rfl (decide_eq_false c21) rfl ?_
        refine iv_Ret.stl [17, 19] (ls' := [ivR 99, ivI p1, ivI p2, ivI p3, ivI (iv_wr (5 - (iv_rem (iv_wr (p1 - 1)) 6)))]) (st' := [ivI 6, ivI (iv_wr (5 - (iv_rem (iv_wr (p1 - 1)) 6)))]) (w' := (135, μ, iv_rho)) rfl ?_
        rcases iv_iteE h with ⟨c22, h⟩ | ⟨c22, h⟩
        · refine iv_Ret.icT (t := 51) rfl (decide_eq_true c22) rfl ?_
          exact hj12 μ _ _ (ivR 99) (ivI p1) (ivI p2) (ivI p3) (ivI (iv_wr (5 - (iv_rem (iv_wr (p1 - 1)) 6)))) h
        · refine iv_Ret.icF (t := 22) rfl (decide_eq_false c22) rfl ?_
          refine iv_Ret.stl [23, 26] (ls' := [ivR 99, ivI p1, ivI p2, ivI p3, ivI (iv_wr (5 - (iv_rem (iv_wr (p1 - 1)) 6)))]) (st' := [ivR 100]) (w' := (135, μ, iv_rho)) rfl ?_
          refine iv_Ret.stl [28] (ls' := [ivR 99, ivI p1, ivI p2, ivI p3, ivI (iv_wr (5 - (iv_rem (iv_wr (p1 - 1)) 6)))]) (st' := [ivI (iv_wr (5 - (iv_rem (iv_wr (p1 - 1)) 6))), ivR 100]) (w' := (135, μ, iv_rho)) rfl ?_
          obtain ⟨c23, h⟩ := iv_ckE h
          refine iv_Ret.iald (len := 6) rfl rfl rfl c23.1 c23.2 ?_
          show iv_Ret L 6 29 [ivR 99, ivI p1, ivI p2, ivI p3, ivI (iv_wr (5 - (iv_rem (iv_wr (p1 - 1)) 6)))] [ivI (μ 100 (iv_wr (5 - (iv_rem (iv_wr (p1 - 1)) 6))).toNat)] (ivST μ) (some (ivI r)) (ivST μ')
          refine iv_Ret.stl [30] (ls' := [ivR 99, ivI p1, ivI p2, ivI p3, ivI (iv_wr (5 - (iv_rem (iv_wr (p1 - 1)) 6)))]) (st' := [ivI p2, ivI (μ 100 (iv_wr (5 - (iv_rem (iv_wr (p1 - 1)) 6))).toNat)]) (w' := (135, μ, iv_rho)) rfl ?_
          obtain ⟨r24, μ25, e26, h⟩ := iv_bndE h
          refine iv_Ret.calls rfl rfl (T_X9_has L (μ 100 (iv_wr (5 - (iv_rem (iv_wr (p1 - 1)) 6))).toNat) p2 e26) ?_
          show iv_Ret L 6 33 [ivR 99, ivI p1, ivI p2, ivI p3, ivI (iv_wr (5 - (iv_rem (iv_wr (p1 - 1)) 6)))] [ivI r24] (ivST μ25) (some (ivI r)) (ivST μ')
          rcases iv_iteE h with ⟨c27, h⟩ | ⟨c27, h⟩
          · refine iv_Ret.ifT (t := 51) rfl (decide_eq_true c27) rfl ?_
            exact hj12 μ25 _ _ (ivR 99) (ivI p1) (ivI p2) (ivI p3) (ivI (iv_wr (5 - (iv_rem (iv_wr (p1 - 1)) 6)))) h
          · refine iv_Ret.ifF (t := 36) rfl (decide_eq_false c27) rfl ?_
            refine iv_Ret.stl [37, 38, 41] (ls' := [ivR 99, ivI p1, ivI p2, ivI p3, ivI (iv_wr (5 - (iv_rem (iv_wr (p1 - 1)) 6)))]) (st' := [ivR 101, ivI p3]) (w' := (135, μ25, iv_rho)) rfl ?_
            refine iv_Ret.stl [43] (ls' := [ivR 99, ivI p1, ivI p2, ivI p3, ivI (iv_wr (5 - (iv_rem (iv_wr (p1 - 1)) 6)))]) (st' := [ivI (iv_wr (5 - (iv_rem (iv_wr (p1 - 1)) 6))), ivR 101, ivI p3]) (w' := (135, μ25, iv_rho)) rfl ?_
            obtain ⟨c28, h⟩ := iv_ckE h
            refine iv_Ret.iald (len := 6) rfl rfl rfl c28.1 c28.2 ?_
            show iv_Ret L 6 44 [ivR 99, ivI p1, ivI p2, ivI p3, ivI (iv_wr (5 - (iv_rem (iv_wr (p1 - 1)) 6)))] [ivI (μ25 101 (iv_wr (5 - (iv_rem (iv_wr (p1 - 1)) 6))).toNat), ivI p3] (ivST μ25) (some (ivI r)) (ivST μ')
            rcases iv_iteE h with ⟨c29, h⟩ | ⟨c29, h⟩
            · refine iv_Ret.icT (t := 51) rfl (decide_eq_true c29) rfl ?_
              exact hj12 μ25 _ _ (ivR 99) (ivI p1) (ivI p2) (ivI p3) (ivI (iv_wr (5 - (iv_rem (iv_wr (p1 - 1)) 6)))) h
            · refine iv_Ret.icF (t := 47) rfl (decide_eq_false c29) rfl ?_
              refine iv_Ret.stl [48, 52] (ls' := [ivR 99, ivI p1, ivI p2, ivI p3, ivI (iv_wr (5 - (iv_rem (iv_wr (p1 - 1)) 6)))]) (st' := [ivI 1]) (w' := (135, μ25, iv_rho)) rfl ?_
              exact hj1 1 μ25 _ _ (ivR 99) (ivI p1) (ivI p2) (ivI p3) (ivI (iv_wr (5 - (iv_rem (iv_wr (p1 - 1)) 6)))) h
theorem T_X0_holdBetter (L : Nat) (p1 : Int) (p2 : Int) (p3 : Int)  {μ μ' : ivM} {r : Int} (h : f_X0_holdBetter p1 p2 p3 μ = some (r, μ')) : iv_Ret L 5 0 [ivR 99, ivI p1, ivI p2, ivI p3] [] (ivST μ) none (ivST μ') := by
  unfold f_X0_holdBetter at h
  refine iv_Ret.stl [1] (ls' := [ivR 99, ivI p1, ivI p2, ivI p3]) (st' := [ivI p1]) (w' := (135, μ, iv_rho)) rfl ?_
  obtain ⟨r1, μ2, e3, h⟩ := iv_bndE h
  refine iv_Ret.calls rfl rfl (T_X9_isSet L p1 e3) ?_
  show iv_Ret L 5 4 [ivR 99, ivI p1, ivI p2, ivI p3] [ivI r1] (ivST μ2) none (ivST μ')
  rcases iv_iteE h with ⟨c4, h⟩ | ⟨c4, h⟩
  · refine iv_Ret.ifF (t := 7) rfl (decide_eq_false (not_not_intro c4)) rfl ?_
    obtain ⟨rfl, rfl⟩ := iv_retE h
    exact ⟨1, rfl⟩
  · refine iv_Ret.ifT (t := 8) rfl (decide_eq_true c4) rfl ?_
    refine iv_Ret.stl [9, 12] (ls' := [ivR 99, ivI p1, ivI p2, ivI p3]) (st' := [ivR 103]) (w' := (135, μ2, iv_rho)) rfl ?_
    refine iv_Ret.stl [13] (ls' := [ivR 99, ivI p1, ivI p2, ivI p3]) (st' := [ivI p1, ivR 103]) (w' := (135, μ2, iv_rho)) rfl ?_
    obtain ⟨c5, h⟩ := iv_ckE h
    refine iv_Ret.iald (len := 256) rfl rfl rfl c5.1 c5.2 ?_
    show iv_Ret L 5 14 [ivR 99, ivI p1, ivI p2, ivI p3] [ivI (μ2 103 p1.toNat)] (ivST μ2) none (ivST μ')
    refine iv_Ret.stl [16] (ls' := [ivR 99, ivI p1, ivI p2, ivI p3]) (st' := [ivI (-9), ivI (μ2 103 p1.toNat)]) (w' := (135, μ2, iv_rho)) rfl ?_
    refine iv_letE (fun j6 => ∀ (μ11 : ivM) (r12 : Int) (μ13 : ivM) (z7 : ivV) (z8 : ivV) (z9 : ivV) (z10 : ivV), j6 μ11 = some (r12, μ13) → iv_Ret L 5 63 [z7, z8, z9, z10] [] (ivST μ11) none (ivST μ13)) h (fun μ11 r12 μ13 z7 z8 z9 z10 h => ?_) (fun j6 hj6 h => ?_)
    · obtain ⟨rfl, rfl⟩ := iv_retE h
      exact ⟨1, rfl⟩
    · refine iv_letE (fun j14 => ∀ (μ15 : ivM) (r16 : Int) (μ17 : ivM), j14 μ15 = some (r16, μ17) → iv_Ret L 5 49 [ivR 99, ivI p1, ivI p2, ivI p3] [] (ivST μ15) none (ivST μ17)) h (fun μ15 r16 μ17 h => ?_) (fun j14 hj14 h => ?_)
      · refine iv_Ret.stl [50, 53] (ls' := [ivR 99, ivI p1, ivI p2, ivI p3]) (st' := [ivR 103]) (w' := (135, μ15, iv_rho)) rfl ?_
        refine iv_Ret.stl [54, 55] (ls' := [ivR 99, ivI p1, ivI p2, ivI p3]) (st' := [ivI p2, ivI p1, ivR 103]) (w' := (135, μ15, iv_rho)) rfl ?_
        obtain ⟨c18, h⟩ := iv_ckE h
        refine iv_Ret.iast (len := 256) rfl rfl rfl rfl c18.1 c18.2 ?_
        show iv_Ret L 5 56 [ivR 99, ivI p1, ivI p2, ivI p3] [] (ivST (iv_upd μ15 103 p1.toNat p2)) none (ivST μ17)
        refine iv_Ret.stl [57, 60] (ls' := [ivR 99, ivI p1, ivI p2, ivI p3]) (st' := [ivR 104]) (w' := (135, (iv_upd μ15 103 p1.toNat p2), iv_rho)) rfl ?_
        refine iv_Ret.stl [61, 62] (ls' := [ivR 99, ivI p1, ivI p2, ivI p3]) (st' := [ivI p3, ivI p1, ivR 104]) (w' := (135, (iv_upd μ15 103 p1.toNat p2), iv_rho)) rfl ?_
        obtain ⟨c19, h⟩ := iv_ckE h
        refine iv_Ret.iast (len := 256) rfl rfl rfl rfl c19.1 c19.2 ?_
        show iv_Ret L 5 63 [ivR 99, ivI p1, ivI p2, ivI p3] [] (ivST (iv_upd (iv_upd μ15 103 p1.toNat p2) 104 p1.toNat p3)) none (ivST μ17)
        exact hj6 (iv_upd (iv_upd μ15 103 p1.toNat p2) 104 p1.toNat p3) _ _ (ivR 99) (ivI p1) (ivI p2) (ivI p3) h
      · rcases iv_iteE h with ⟨c20, h⟩ | ⟨c20, h⟩
        · refine iv_Ret.icT (t := 49) rfl (decide_eq_true c20) rfl ?_
          exact hj14 μ2 _ _ h
        · refine iv_Ret.icF (t := 19) rfl (decide_eq_false c20) rfl ?_
          refine iv_Ret.stl [20, 21, 24] (ls' := [ivR 99, ivI p1, ivI p2, ivI p3]) (st' := [ivR 103, ivI p2]) (w' := (135, μ2, iv_rho)) rfl ?_
          refine iv_Ret.stl [25] (ls' := [ivR 99, ivI p1, ivI p2, ivI p3]) (st' := [ivI p1, ivR 103, ivI p2]) (w' := (135, μ2, iv_rho)) rfl ?_
          obtain ⟨c21, h⟩ := iv_ckE h
          refine iv_Ret.iald (len := 256) rfl rfl rfl c21.1 c21.2 ?_
          show iv_Ret L 5 26 [ivR 99, ivI p1, ivI p2, ivI p3] [ivI (μ2 103 p1.toNat), ivI p2] (ivST μ2) none (ivST μ')
          rcases iv_iteE h with ⟨c22, h⟩ | ⟨c22, h⟩
          · refine iv_Ret.icT (t := 49) rfl (decide_eq_true c22) rfl ?_
            exact hj14 μ2 _ _ h
          · refine iv_Ret.icF (t := 29) rfl (decide_eq_false c22) rfl ?_
            refine iv_Ret.stl [30, 31, 34] (ls' := [ivR 99, ivI p1, ivI p2, ivI p3]) (st' := [ivR 103, ivI p2]) (w' := (135, μ2, iv_rho)) rfl ?_
            refine iv_Ret.stl [35] (ls' := [ivR 99, ivI p1, ivI p2, ivI p3]) (st' := [ivI p1, ivR 103, ivI p2]) (w' := (135, μ2, iv_rho)) rfl ?_
            obtain ⟨c23, h⟩ := iv_ckE h
            refine iv_Ret.iald (len := 256) rfl rfl rfl c23.1 c23.2 ?_
            show iv_Ret L 5 36 [ivR 99, ivI p1, ivI p2, ivI p3] [ivI (μ2 103 p1.toNat), ivI p2] (ivST μ2) none (ivST μ')
            rcases iv_iteE h with ⟨c24, h⟩ | ⟨c24, h⟩
            · refine iv_Ret.icF (t := 39) rfl (decide_eq_false (not_not_intro c24)) rfl ?_
              refine iv_Ret.stl [40, 41, 44] (ls' := [ivR 99, ivI p1, ivI p2, ivI p3]) (st' := [ivR 104, ivI p3]) (w' := (135, μ2, iv_rho)) rfl ?_
              refine iv_Ret.stl [45] (ls' := [ivR 99, ivI p1, ivI p2, ivI p3]) (st' := [ivI p1, ivR 104, ivI p3]) (w' := (135, μ2, iv_rho)) rfl ?_
              obtain ⟨c25, h⟩ := iv_ckE h
              refine iv_Ret.iald (len := 256) rfl rfl rfl c25.1 c25.2 ?_
              show iv_Ret L 5 46 [ivR 99, ivI p1, ivI p2, ivI p3] [ivI (μ2 104 p1.toNat), ivI p3] (ivST μ2) none (ivST μ')
              rcases iv_iteE h with ⟨c26, h⟩ | ⟨c26, h⟩
              · refine iv_Ret.icT (t := 63) rfl (decide_eq_true c26) rfl ?_
                exact hj6 μ2 _ _ (ivR 99) (ivI p1) (ivI p2) (ivI p3) h
              · refine iv_Ret.icF (t := 49) rfl (decide_eq_false c26) rfl ?_
                exact hj14 μ2 _ _ h
            · refine iv_Ret.icT (t := 63) rfl (decide_eq_true c24) rfl ?_
              exact hj6 μ2 _ _ (ivR 99) (ivI p1) (ivI p2) (ivI p3) h
theorem T_lp_X0_putLast_85 (L : Nat) (l1 : Int) (l2 : Int) (l4 : Int)  {k111 : Int → ivM → Option (Int × ivM)} (hk111 : ∀ (l6 : Int) (μ : ivM) (r : Int) (μ' : ivM) (d3 : ivV) (d5 : ivV), k111 l6 μ = some (r, μ') → iv_Ret L 4 111 [ivR 99, ivI l1, ivI l2, d3, ivI l4, d5, ivI l6] [] (ivST μ) none (ivST μ')) : ∀ (n : Nat) (l6 : Int) (μ : ivM) (r : Int) (μ' : ivM) (d3 : ivV) (d5 : ivV), lp_X0_putLast_85 l1 l2 l4 k111 n l6 μ = some (r, μ') → iv_Ret L 4 85 [ivR 99, ivI l1, ivI l2, d3, ivI l4, d5, ivI l6] [] (ivST μ) none (ivST μ') := by
  intro n
  induction n with
  | zero => intro l6 μ r μ' d3 d5 h; unfold lp_X0_putLast_85 at h; cases h
  | succ n ih =>
    intro l6 μ r μ' d3 d5 h
    unfold lp_X0_putLast_85 at h
    refine iv_Ret.stl [87, 89] (ls' := [ivR 99, ivI l1, ivI l2, d3, ivI l4, d5, ivI l6]) (st' := [ivI 6, ivI l6]) (w' := (135, μ, iv_rho)) rfl ?_
    rcases iv_iteE h with ⟨c32, h⟩ | ⟨c32, h⟩
    · refine iv_Ret.icT (t := 134) rfl (decide_eq_true c32) rfl ?_
      obtain ⟨rfl, rfl⟩ := iv_retE h
      exact ⟨1, rfl⟩
    · refine iv_Ret.icF (t := 92) rfl (decide_eq_false c32) rfl ?_
      refine iv_Ret.stl [93, 95, 97, 98, 99, 100, 103] (ls' := [ivR 99, ivI l1, ivI l2, d3, ivI l4, d5, ivI l6]) (st' := [ivR 102, ivI l2, ivI (iv_wr (l4 + l6)), ivR 99]) (w' := (135, μ, iv_rho)) rfl ?_
      refine iv_Ret.stl [104] (ls' := [ivR 99, ivI l1, ivI l2, d3, ivI l4, d5, ivI l6]) (st' := [ivI l2, ivR 102, ivI l2, ivI (iv_wr (l4 + l6)), ivR 99]) (w' := (135, μ, iv_rho)) rfl ?_
      obtain ⟨c33, h⟩ := iv_ckE h
      refine iv_Ret.iald (len := 8) rfl rfl rfl c33.1 c33.2 ?_
      show iv_Ret L 4 105 [ivR 99, ivI l1, ivI l2, d3, ivI l4, d5, ivI l6] [ivI (μ 102 l2.toNat), ivI l2, ivI (iv_wr (l4 + l6)), ivR 99] (ivST μ) none (ivST μ')
      obtain ⟨r34, μ35, e36, h⟩ := iv_bndE h
      refine iv_Ret.callv rfl rfl rfl (T_X0_canTake L (iv_wr (l4 + l6)) l2 (μ 102 l2.toNat) e36) ?_
      show iv_Ret L 4 108 [ivR 99, ivI l1, ivI l2, d3, ivI l4, d5, ivI l6] [ivI r34] (ivST μ35) none (ivST μ')
      rcases iv_iteE h with ⟨c37, h⟩ | ⟨c37, h⟩
      · refine iv_Ret.ifT (t := 128) rfl (decide_eq_true c37) rfl ?_
        refine iv_Ret.stl [131, 85] (ls' := [ivR 99, ivI l1, ivI l2, d3, ivI l4, (iv_un d5), ivI (iv_wr (l6 + 1))]) (st' := []) (w' := (135, μ35, iv_rho)) rfl ?_
        exact ih (iv_wr (l6 + 1)) μ35 _ _ d3 (iv_un d5) h
      · refine iv_Ret.ifF (t := 111) rfl (decide_eq_false c37) rfl ?_
        exact hk111 l6 μ35 _ _ d3 d5 h
theorem T_X0_putLast (L : Nat) (p1 : Int) (p2 : Int)  {μ μ' : ivM} {r : Int} (h : f_X0_putLast p1 p2 μ = some (r, μ')) : iv_Ret L 4 0 [ivR 99, ivI p1, ivI p2, ivU, ivU, ivU, ivU] [] (ivST μ) none (ivST μ') := by
  unfold f_X0_putLast at h
  refine iv_Ret.stl [1] (ls' := [ivR 99, ivI p1, ivI p2, ivU, ivU, ivU, ivU]) (st' := [ivI p1]) (w' := (135, μ, iv_rho)) rfl ?_
  obtain ⟨r1, μ2, e3, h⟩ := iv_bndE h
  refine iv_Ret.calls rfl rfl (T_X9_isSet L p1 e3) ?_
  show iv_Ret L 4 4 [ivR 99, ivI p1, ivI p2, ivU, ivU, ivU, ivU] [ivI r1] (ivST μ2) none (ivST μ')
  refine iv_letE (fun j4 => ∀ (μ12 : ivM) (r13 : Int) (μ14 : ivM) (z5 : ivV) (z6 : ivV) (z7 : ivV) (z8 : ivV) (z9 : ivV) (z10 : ivV) (z11 : ivV), j4 μ12 = some (r13, μ14) → iv_Ret L 4 25 [z5, z6, z7, z8, z9, z10, z11] [] (ivST μ12) none (ivST μ14)) h (fun μ12 r13 μ14 z5 z6 z7 z8 z9 z10 z11 h => ?_) (fun j4 hj4 h => ?_)
  · obtain ⟨rfl, rfl⟩ := iv_retE h
    exact ⟨1, rfl⟩
  · rcases iv_iteE h with ⟨c15, h⟩ | ⟨c15, h⟩
    · refine iv_Ret.ifT (t := 25) rfl (decide_eq_true c15) rfl ?_
      exact hj4 μ2 _ _ (ivR 99) (ivI p1) (ivI p2) ivU ivU ivU ivU h
    · refine iv_Ret.ifF (t := 7) rfl (decide_eq_false c15) rfl ?_
      refine iv_Ret.stl [8] (ls' := [ivR 99, ivI p1, ivI p2, ivU, ivU, ivU, ivU]) (st' := [ivI p2]) (w' := (135, μ2, iv_rho)) rfl ?_
      rcases iv_iteE h with ⟨c16, h⟩ | ⟨c16, h⟩
      · refine iv_Ret.ifT (t := 25) rfl (decide_eq_true c16) rfl ?_
        exact hj4 μ2 _ _ (ivR 99) (ivI p1) (ivI p2) ivU ivU ivU ivU h
      · refine iv_Ret.ifF (t := 11) rfl (decide_eq_false c16) rfl ?_
        refine iv_Ret.stl [12, 14] (ls' := [ivR 99, ivI p1, ivI p2, ivU, ivU, ivU, ivU]) (st' := [ivI 8, ivI p2]) (w' := (135, μ2, iv_rho)) rfl ?_
        rcases iv_iteE h with ⟨c17, h⟩ | ⟨c17, h⟩
        · refine iv_Ret.icT (t := 25) rfl (decide_eq_true c17) rfl ?_
          exact hj4 μ2 _ _ (ivR 99) (ivI p1) (ivI p2) ivU ivU ivU ivU h
        · refine iv_Ret.icF (t := 17) rfl (decide_eq_false c17) rfl ?_
          refine iv_Ret.stl [18, 19] (ls' := [ivR 99, ivI p1, ivI p2, ivU, ivU, ivU, ivU]) (st' := [ivI p2, ivI p1]) (w' := (135, μ2, iv_rho)) rfl ?_
          obtain ⟨r18, μ19, e20, h⟩ := iv_bndE h
          refine iv_Ret.calls rfl rfl (T_X9_has L p1 p2 e20) ?_
          show iv_Ret L 4 22 [ivR 99, ivI p1, ivI p2, ivU, ivU, ivU, ivU] [ivI r18] (ivST μ19) none (ivST μ')
          rcases iv_iteE h with ⟨c21, h⟩ | ⟨c21, h⟩
          · refine iv_Ret.ifF (t := 25) rfl (decide_eq_false (not_not_intro c21)) rfl ?_
            exact hj4 μ19 _ _ (ivR 99) (ivI p1) (ivI p2) ivU ivU ivU ivU h
          · refine iv_Ret.ifT (t := 26) rfl (decide_eq_true c21) rfl ?_
            refine iv_Ret.stl [27, 28, 29, 30, 31, 32, 33, 36] (ls' := [ivR 99, ivI p1, ivI p2, ivI (iv_xor p1 (iv_shl 1 p2)), ivU, ivU, ivU]) (st' := [ivR 103]) (w' := (135, μ19, iv_rho)) rfl ?_
            refine iv_Ret.stl [37] (ls' := [ivR 99, ivI p1, ivI p2, ivI (iv_xor p1 (iv_shl 1 p2)), ivU, ivU, ivU]) (st' := [ivI (iv_xor p1 (iv_shl 1 p2)), ivR 103]) (w' := (135, μ19, iv_rho)) rfl ?_
            obtain ⟨c22, h⟩ := iv_ckE h
            refine iv_Ret.iald (len := 256) rfl rfl rfl c22.1 c22.2 ?_
            show iv_Ret L 4 38 [ivR 99, ivI p1, ivI p2, ivI (iv_xor p1 (iv_shl 1 p2)), ivU, ivU, ivU] [ivI (μ19 103 (iv_xor p1 (iv_shl 1 p2)).toNat)] (ivST μ19) none (ivST μ')
            refine iv_Ret.stl [40, 41, 44] (ls' := [ivR 99, ivI p1, ivI p2, ivI (iv_xor p1 (iv_shl 1 p2)), ivI (μ19 103 (iv_xor p1 (iv_shl 1 p2)).toNat), ivU, ivU]) (st' := [ivR 104]) (w' := (135, μ19, iv_rho)) rfl ?_
            refine iv_Ret.stl [45] (ls' := [ivR 99, ivI p1, ivI p2, ivI (iv_xor p1 (iv_shl 1 p2)), ivI (μ19 103 (iv_xor p1 (iv_shl 1 p2)).toNat), ivU, ivU]) (st' := [ivI (iv_xor p1 (iv_shl 1 p2)), ivR 104]) (w' := (135, μ19, iv_rho)) rfl ?_
            obtain ⟨c23, h⟩ := iv_ckE h
            refine iv_Ret.iald (len := 256) rfl rfl rfl c23.1 c23.2 ?_
            show iv_Ret L 4 46 [ivR 99, ivI p1, ivI p2, ivI (iv_xor p1 (iv_shl 1 p2)), ivI (μ19 103 (iv_xor p1 (iv_shl 1 p2)).toNat), ivU, ivU] [ivI (μ19 104 (iv_xor p1 (iv_shl 1 p2)).toNat)] (ivST μ19) none (ivST μ')
            refine iv_Ret.stl [47, 50] (ls' := [ivR 99, ivI p1, ivI p2, ivI (iv_xor p1 (iv_shl 1 p2)), ivI (μ19 103 (iv_xor p1 (iv_shl 1 p2)).toNat), ivU, ivU]) (st' := [ivR 102, ivI (μ19 104 (iv_xor p1 (iv_shl 1 p2)).toNat)]) (w' := (135, μ19, iv_rho)) rfl ?_
            refine iv_Ret.stl [51] (ls' := [ivR 99, ivI p1, ivI p2, ivI (iv_xor p1 (iv_shl 1 p2)), ivI (μ19 103 (iv_xor p1 (iv_shl 1 p2)).toNat), ivU, ivU]) (st' := [ivI p2, ivR 102, ivI (μ19 104 (iv_xor p1 (iv_shl 1 p2)).toNat)]) (w' := (135, μ19, iv_rho)) rfl ?_
            obtain ⟨c24, h⟩ := iv_ckE h
            refine iv_Ret.iald (len := 8) rfl rfl rfl c24.1 c24.2 ?_
            show iv_Ret L 4 52 [ivR 99, ivI p1, ivI p2, ivI (iv_xor p1 (iv_shl 1 p2)), ivI (μ19 103 (iv_xor p1 (iv_shl 1 p2)).toNat), ivU, ivU] [ivI (μ19 102 p2.toNat), ivI (μ19 104 (iv_xor p1 (iv_shl 1 p2)).toNat)] (ivST μ19) none (ivST μ')
            refine iv_Ret.stl [53, 55, 57] (ls' := [ivR 99, ivI p1, ivI p2, ivI (iv_xor p1 (iv_shl 1 p2)), ivI (μ19 103 (iv_xor p1 (iv_shl 1 p2)).toNat), ivI (iv_wr ((μ19 104 (iv_xor p1 (iv_shl 1 p2)).toNat) + (μ19 102 p2.toNat))), ivU]) (st' := [ivI (μ19 103 (iv_xor p1 (iv_shl 1 p2)).toNat)]) (w' := (135, μ19, iv_rho)) rfl ?_
            refine iv_letE (fun j25 => ∀ (μ29 : ivM) (r30 : Int) (μ31 : ivM) (z26 : ivV) (z27 : ivV) (z28 : ivV), j25 μ29 = some (r30, μ31) → iv_Ret L 4 82 [ivR 99, ivI p1, ivI p2, z26, ivI (μ19 103 (iv_xor p1 (iv_shl 1 p2)).toNat), z27, z28] [] (ivST μ29) none (ivST μ31)) h (fun μ29 r30 μ31 z26 z27 z28 h => ?_) (fun j25 hj25 h => ?_)
            · refine iv_Ret.stl [83, 85] (ls' := [ivR 99, ivI p1, ivI p2, z26, ivI (μ19 103 (iv_xor p1 (iv_shl 1 p2)).toNat), (iv_un z27), ivI 1]) (st' := []) (w' := (135, μ29, iv_rho)) rfl ?_
              refine T_lp_X0_putLast_85 L p1 p2 (μ19 103 (iv_xor p1 (iv_shl 1 p2)).toNat) (fun w40 μ41 r42 μ43 z38 z39 h => ?_) iv_fuel 1 μ29 _ _ z26 (iv_un z27) h
              refine iv_Ret.stl [112, 113, 115, 117, 118, 119, 122] (ls' := [ivR 99, ivI p1, ivI p2, z38, ivI (μ19 103 (iv_xor p1 (iv_shl 1 p2)).toNat), z39, ivI w40]) (st' := [ivR 102, ivI (iv_wr ((μ19 103 (iv_xor p1 (iv_shl 1 p2)).toNat) + w40)), ivI p1, ivR 99]) (w' := (135, μ41, iv_rho)) rfl ?_
              refine iv_Ret.stl [123] (ls' := [ivR 99, ivI p1, ivI p2, z38, ivI (μ19 103 (iv_xor p1 (iv_shl 1 p2)).toNat), z39, ivI w40]) (st' := [ivI p2, ivR 102, ivI (iv_wr ((μ19 103 (iv_xor p1 (iv_shl 1 p2)).toNat) + w40)), ivI p1, ivR 99]) (w' := (135, μ41, iv_rho)) rfl ?_
              obtain ⟨c44, h⟩ := iv_ckE h
              refine iv_Ret.iald (len := 8) rfl rfl rfl c44.1 c44.2 ?_
              show iv_Ret L 4 124 [ivR 99, ivI p1, ivI p2, z38, ivI (μ19 103 (iv_xor p1 (iv_shl 1 p2)).toNat), z39, ivI w40] [ivI (μ41 102 p2.toNat), ivI (iv_wr ((μ19 103 (iv_xor p1 (iv_shl 1 p2)).toNat) + w40)), ivI p1, ivR 99] (ivST μ41) none (ivST μ43)
              obtain ⟨r45, μ46, e47, h⟩ := iv_bndE h
              refine iv_Ret.callv rfl rfl rfl (T_X0_holdBetter L p1 (iv_wr ((μ19 103 (iv_xor p1 (iv_shl 1 p2)).toNat) + w40)) (μ41 102 p2.toNat) e47) ?_
              show iv_Ret L 4 127 [ivR 99, ivI p1, ivI p2, z38, ivI (μ19 103 (iv_xor p1 (iv_shl 1 p2)).toNat), z39, ivI w40] [] (ivST μ46) none (ivST μ43)
              obtain ⟨rfl, rfl⟩ := iv_retE h
              exact ⟨1, rfl⟩
            · rcases iv_iteE h with ⟨c48, h⟩ | ⟨c48, h⟩
              · refine iv_Ret.ifT (t := 82) rfl (decide_eq_true c48) rfl ?_
                exact hj25 μ19 _ _ (ivI (iv_xor p1 (iv_shl 1 p2))) (ivI (iv_wr ((μ19 104 (iv_xor p1 (iv_shl 1 p2)).toNat) + (μ19 102 p2.toNat)))) ivU h
              · refine iv_Ret.ifF (t := 60) rfl (decide_eq_false c48) rfl ?_
                refine iv_Ret.stl [61, 63, 64, 66] (ls' := [ivR 99, ivI p1, ivI p2, ivI (iv_xor p1 (iv_shl 1 p2)), ivI (μ19 103 (iv_xor p1 (iv_shl 1 p2)).toNat), ivI (iv_wr ((μ19 104 (iv_xor p1 (iv_shl 1 p2)).toNat) + (μ19 102 p2.toNat))), ivU]) (st' := [ivI (iv_wr ((μ19 104 (iv_xor p1 (iv_shl 1 p2)).toNat) + (μ19 102 p2.toNat))), ivI p2, ivI (μ19 103 (iv_xor p1 (iv_shl 1 p2)).toNat), ivR 99]) (w' := (135, μ19, iv_rho)) rfl ?_
                obtain ⟨r49, μ50, e51, h⟩ := iv_bndE h
                refine iv_Ret.callv rfl rfl rfl (T_X0_canTake L (μ19 103 (iv_xor p1 (iv_shl 1 p2)).toNat) p2 (iv_wr ((μ19 104 (iv_xor p1 (iv_shl 1 p2)).toNat) + (μ19 102 p2.toNat))) e51) ?_
                show iv_Ret L 4 69 [ivR 99, ivI p1, ivI p2, ivI (iv_xor p1 (iv_shl 1 p2)), ivI (μ19 103 (iv_xor p1 (iv_shl 1 p2)).toNat), ivI (iv_wr ((μ19 104 (iv_xor p1 (iv_shl 1 p2)).toNat) + (μ19 102 p2.toNat))), ivU] [ivI r49] (ivST μ50) none (ivST μ')
                rcases iv_iteE h with ⟨c52, h⟩ | ⟨c52, h⟩
                · refine iv_Ret.ifT (t := 82) rfl (decide_eq_true c52) rfl ?_
                  exact hj25 μ50 _ _ (ivI (iv_xor p1 (iv_shl 1 p2))) (ivI (iv_wr ((μ19 104 (iv_xor p1 (iv_shl 1 p2)).toNat) + (μ19 102 p2.toNat)))) ivU h
                · refine iv_Ret.ifF (t := 72) rfl (decide_eq_false c52) rfl ?_
                  refine iv_Ret.stl [73, 74, 76, 78] (ls' := [ivR 99, ivI p1, ivI p2, ivI (iv_xor p1 (iv_shl 1 p2)), ivI (μ19 103 (iv_xor p1 (iv_shl 1 p2)).toNat), ivI (iv_wr ((μ19 104 (iv_xor p1 (iv_shl 1 p2)).toNat) + (μ19 102 p2.toNat))), ivU]) (st' := [ivI (iv_wr ((μ19 104 (iv_xor p1 (iv_shl 1 p2)).toNat) + (μ19 102 p2.toNat))), ivI (μ19 103 (iv_xor p1 (iv_shl 1 p2)).toNat), ivI p1, ivR 99]) (w' := (135, μ50, iv_rho)) rfl ?_
                  obtain ⟨r53, μ54, e55, h⟩ := iv_bndE h
                  refine iv_Ret.callv rfl rfl rfl (T_X0_holdBetter L p1 (μ19 103 (iv_xor p1 (iv_shl 1 p2)).toNat) (iv_wr ((μ19 104 (iv_xor p1 (iv_shl 1 p2)).toNat) + (μ19 102 p2.toNat))) e55) ?_
                  show iv_Ret L 4 81 [ivR 99, ivI p1, ivI p2, ivI (iv_xor p1 (iv_shl 1 p2)), ivI (μ19 103 (iv_xor p1 (iv_shl 1 p2)).toNat), ivI (iv_wr ((μ19 104 (iv_xor p1 (iv_shl 1 p2)).toNat) + (μ19 102 p2.toNat))), ivU] [] (ivST μ54) none (ivST μ')
                  obtain ⟨rfl, rfl⟩ := iv_retE h
                  exact ⟨1, rfl⟩
theorem T_lp_X0_packSet_10 (L : Nat) (l1 : Int)    : ∀ (n : Nat) (l2 : Int) (μ : ivM) (r : Int) (μ' : ivM), lp_X0_packSet_10 l1 n l2 μ = some (r, μ') → iv_Ret L 3 10 [ivR 99, ivI l1, ivI l2] [] (ivST μ) none (ivST μ') := by
  intro n
  induction n with
  | zero => intro l2 μ r μ' h; unfold lp_X0_packSet_10 at h; cases h
  | succ n ih =>
    intro l2 μ r μ' h
    unfold lp_X0_packSet_10 at h
    refine iv_Ret.stl [11, 13] (ls' := [ivR 99, ivI l1, ivI l2]) (st' := [ivI 8, ivI l2]) (w' := (135, μ, iv_rho)) rfl ?_
    rcases iv_iteE h with ⟨c5, h⟩ | ⟨c5, h⟩
    · refine iv_Ret.icT (t := 51) rfl (decide_eq_true c5) rfl ?_
      obtain ⟨rfl, rfl⟩ := iv_retE h
      exact ⟨1, rfl⟩
    · refine iv_Ret.icF (t := 16) rfl (decide_eq_false c5) rfl ?_
      refine iv_Ret.stl [17, 18] (ls' := [ivR 99, ivI l1, ivI l2]) (st' := [ivI l2, ivI l1]) (w' := (135, μ, iv_rho)) rfl ?_
      obtain ⟨r6, μ7, e8, h⟩ := iv_bndE h
      refine iv_Ret.calls rfl rfl (T_X9_has L l1 l2 e8) ?_
      show iv_Ret L 3 21 [ivR 99, ivI l1, ivI l2] [ivI r6] (ivST μ7) none (ivST μ')
      refine iv_letE (fun j9 => ∀ (μ10 : ivM) (r11 : Int) (μ12 : ivM), j9 μ10 = some (r11, μ12) → iv_Ret L 3 45 [ivR 99, ivI l1, ivI l2] [] (ivST μ10) none (ivST μ12)) h (fun μ10 r11 μ12 h => ?_) (fun j9 hj9 h => ?_)
      · refine iv_Ret.stl [48, 10] (ls' := [ivR 99, ivI l1, ivI (iv_wr (l2 + 1))]) (st' := []) (w' := (135, μ10, iv_rho)) rfl ?_
        exact ih (iv_wr (l2 + 1)) μ10 _ _ h
      · rcases iv_iteE h with ⟨c13, h⟩ | ⟨c13, h⟩
        · refine iv_Ret.ifT (t := 45) rfl (decide_eq_true c13) rfl ?_
          exact hj9 μ7 _ _ h
        · refine iv_Ret.ifF (t := 24) rfl (decide_eq_false c13) rfl ?_
          refine iv_Ret.stl [25, 28] (ls' := [ivR 99, ivI l1, ivI l2]) (st' := [ivR 103]) (w' := (135, μ7, iv_rho)) rfl ?_
          refine iv_Ret.stl [29, 30, 31, 32, 33] (ls' := [ivR 99, ivI l1, ivI l2]) (st' := [ivI (iv_xor l1 (iv_shl 1 l2)), ivR 103]) (w' := (135, μ7, iv_rho)) rfl ?_
          obtain ⟨c14, h⟩ := iv_ckE h
          refine iv_Ret.iald (len := 256) rfl rfl rfl c14.1 c14.2 ?_
          show iv_Ret L 3 34 [ivR 99, ivI l1, ivI l2] [ivI (μ7 103 (iv_xor l1 (iv_shl 1 l2)).toNat)] (ivST μ7) none (ivST μ')
          refine iv_Ret.stl [36] (ls' := [ivR 99, ivI l1, ivI l2]) (st' := [ivI (-9), ivI (μ7 103 (iv_xor l1 (iv_shl 1 l2)).toNat)]) (w' := (135, μ7, iv_rho)) rfl ?_
          rcases iv_iteE h with ⟨c15, h⟩ | ⟨c15, h⟩
          · refine iv_Ret.icT (t := 45) rfl (decide_eq_true c15) rfl ?_
            exact hj9 μ7 _ _ h
          · refine iv_Ret.icF (t := 39) rfl (decide_eq_false c15) rfl ?_
            refine iv_Ret.stl [40, 41, 42] (ls' := [ivR 99, ivI l1, ivI l2]) (st' := [ivI l2, ivI l1, ivR 99]) (w' := (135, μ7, iv_rho)) rfl ?_
            obtain ⟨r16, μ17, e18, h⟩ := iv_bndE h
            refine iv_Ret.callv rfl rfl rfl (T_X0_putLast L l1 l2 e18) ?_
            show iv_Ret L 3 45 [ivR 99, ivI l1, ivI l2] [] (ivST μ17) none (ivST μ')
            exact hj9 μ17 _ _ h
theorem T_X0_packSet (L : Nat) (p1 : Int)  {μ μ' : ivM} {r : Int} (h : f_X0_packSet p1 μ = some (r, μ')) : iv_Ret L 3 0 [ivR 99, ivI p1, ivU] [] (ivST μ) none (ivST μ') := by
  unfold f_X0_packSet at h
  refine iv_Ret.stl [1] (ls' := [ivR 99, ivI p1, ivU]) (st' := [ivI p1]) (w' := (135, μ, iv_rho)) rfl ?_
  obtain ⟨r1, μ2, e3, h⟩ := iv_bndE h
  refine iv_Ret.calls rfl rfl (T_X9_isSet L p1 e3) ?_
  show iv_Ret L 3 4 [ivR 99, ivI p1, ivU] [ivI r1] (ivST μ2) none (ivST μ')
  rcases iv_iteE h with ⟨c4, h⟩ | ⟨c4, h⟩
  · refine iv_Ret.ifF (t := 7) rfl (decide_eq_false (not_not_intro c4)) rfl ?_
    obtain ⟨rfl, rfl⟩ := iv_retE h
    exact ⟨1, rfl⟩
  · refine iv_Ret.ifT (t := 8) rfl (decide_eq_true c4) rfl ?_
    refine iv_Ret.stl [9, 10] (ls' := [ivR 99, ivI p1, ivI 0]) (st' := []) (w' := (135, μ2, iv_rho)) rfl ?_
    exact T_lp_X0_packSet_10 L p1 iv_fuel 0 μ2 _ _ h
theorem T_lp_X0_pack_16 (L : Nat) (l1 : Int)  {k55 : ivM → Option (Int × ivM)} (hk55 : ∀  (μ : ivM) (r : Int) (μ' : ivM) (d0 : ivV) (d1 : ivV) (d2 : ivV), k55 μ = some (r, μ') → iv_Ret L 2 55 [d0, d1, d2] [] (ivST μ) none (ivST μ')) : ∀ (n : Nat) (l2 : Int) (μ : ivM) (r : Int) (μ' : ivM), lp_X0_pack_16 l1 k55 n l2 μ = some (r, μ') → iv_Ret L 2 16 [ivR 99, ivI l1, ivI l2] [] (ivST μ) none (ivST μ') := by
  intro n
  induction n with
  | zero => intro l2 μ r μ' h; unfold lp_X0_pack_16 at h; cases h
  | succ n ih =>
    intro l2 μ r μ' h
    unfold lp_X0_pack_16 at h
    refine iv_Ret.stl [17, 18] (ls' := [ivR 99, ivI l1, ivI l2]) (st' := [ivI l1, ivI l2]) (w' := (135, μ, iv_rho)) rfl ?_
    rcases iv_iteE h with ⟨c1, h⟩ | ⟨c1, h⟩
    · refine iv_Ret.icT (t := 55) rfl (decide_eq_true c1) rfl ?_
      exact hk55 μ _ _ (ivR 99) (ivI l1) (ivI l2) h
    · refine iv_Ret.icF (t := 21) rfl (decide_eq_false c1) rfl ?_
      refine iv_Ret.stl [22, 25] (ls' := [ivR 99, ivI l1, ivI l2]) (st' := [ivI 256, ivI l2]) (w' := (135, μ, iv_rho)) rfl ?_
      rcases iv_iteE h with ⟨c2, h⟩ | ⟨c2, h⟩
      · refine iv_Ret.icT (t := 55) rfl (decide_eq_true c2) rfl ?_
        exact hk55 μ _ _ (ivR 99) (ivI l1) (ivI l2) h
      · refine iv_Ret.icF (t := 28) rfl (decide_eq_false c2) rfl ?_
        refine iv_Ret.stl [29, 30, 31, 32, 33] (ls' := [ivR 99, ivI l1, ivI l2]) (st' := [ivI (iv_and l2 (iv_xor l1 (-1)))]) (w' := (135, μ, iv_rho)) rfl ?_
        refine iv_letE (fun j3 => ∀ (μ4 : ivM) (r5 : Int) (μ6 : ivM), j3 μ4 = some (r5, μ6) → iv_Ret L 2 49 [ivR 99, ivI l1, ivI l2] [] (ivST μ4) none (ivST μ6)) h (fun μ4 r5 μ6 h => ?_) (fun j3 hj3 h => ?_)
        · refine iv_Ret.stl [52, 16] (ls' := [ivR 99, ivI l1, ivI (iv_wr (l2 + 1))]) (st' := []) (w' := (135, μ4, iv_rho)) rfl ?_
          exact ih (iv_wr (l2 + 1)) μ4 _ _ h
        · rcases iv_iteE h with ⟨c7, h⟩ | ⟨c7, h⟩
          · refine iv_Ret.ifF (t := 36) rfl (decide_eq_false (not_not_intro c7)) rfl ?_
            refine iv_Ret.stl [37, 40] (ls' := [ivR 99, ivI l1, ivI l2]) (st' := [ivR 103]) (w' := (135, μ, iv_rho)) rfl ?_
            refine iv_Ret.stl [41, 43] (ls' := [ivR 99, ivI l1, ivI l2]) (st' := [ivI (-9), ivI l2, ivR 103]) (w' := (135, μ, iv_rho)) rfl ?_
            obtain ⟨c8, h⟩ := iv_ckE h
            refine iv_Ret.iast (len := 256) rfl rfl rfl rfl c8.1 c8.2 ?_
            show iv_Ret L 2 44 [ivR 99, ivI l1, ivI l2] [] (ivST (iv_upd μ 103 l2.toNat (-9))) none (ivST μ')
            refine iv_Ret.stl [45, 46] (ls' := [ivR 99, ivI l1, ivI l2]) (st' := [ivI l2, ivR 99]) (w' := (135, (iv_upd μ 103 l2.toNat (-9)), iv_rho)) rfl ?_
            obtain ⟨r9, μ10, e11, h⟩ := iv_bndE h
            refine iv_Ret.callv rfl rfl rfl (T_X0_packSet L l2 e11) ?_
            show iv_Ret L 2 49 [ivR 99, ivI l1, ivI l2] [] (ivST μ10) none (ivST μ')
            exact hj3 μ10 _ _ h
          · refine iv_Ret.ifT (t := 49) rfl (decide_eq_true c7) rfl ?_
            exact hj3 μ _ _ h
theorem T_X0_pack (L : Nat) (p1 : Int)  {μ μ' : ivM} {r : Int} (h : f_X0_pack p1 μ = some (r, μ')) : iv_Ret L 2 0 [ivR 99, ivI p1, ivU] [] (ivST μ) none (ivST μ') := by
  unfold f_X0_pack at h
  refine iv_Ret.stl [1, 4] (ls' := [ivR 99, ivI p1, ivU]) (st' := [ivR 103]) (w' := (135, μ, iv_rho)) rfl ?_
  refine iv_Ret.stl [5, 6] (ls' := [ivR 99, ivI p1, ivU]) (st' := [ivI 0, ivI 0, ivR 103]) (w' := (135, μ, iv_rho)) rfl ?_
  refine iv_Ret.iast (len := 256) rfl rfl rfl rfl (by decide) (by decide) ?_
  show iv_Ret L 2 7 [ivR 99, ivI p1, ivU] [] (ivST (iv_upd μ 103 0 0)) none (ivST μ')
  refine iv_Ret.stl [8, 11] (ls' := [ivR 99, ivI p1, ivU]) (st' := [ivR 104]) (w' := (135, (iv_upd μ 103 0 0), iv_rho)) rfl ?_
  refine iv_Ret.stl [12, 13] (ls' := [ivR 99, ivI p1, ivU]) (st' := [ivI 0, ivI 0, ivR 104]) (w' := (135, (iv_upd μ 103 0 0), iv_rho)) rfl ?_
  refine iv_Ret.iast (len := 256) rfl rfl rfl rfl (by decide) (by decide) ?_
  show iv_Ret L 2 14 [ivR 99, ivI p1, ivU] [] (ivST (iv_upd (iv_upd μ 103 0 0) 104 0 0)) none (ivST μ')
  refine iv_Ret.stl [15, 16] (ls' := [ivR 99, ivI p1, ivI 1]) (st' := []) (w' := (135, (iv_upd (iv_upd μ 103 0 0) 104 0 0), iv_rho)) rfl ?_
  refine T_lp_X0_pack_16 L p1 (fun μ15 r16 μ17 z12 z13 z14 h => ?_) iv_fuel 1 (iv_upd (iv_upd μ 103 0 0) 104 0 0) _ _ h
  obtain ⟨rfl, rfl⟩ := iv_retE h
  exact ⟨1, rfl⟩
theorem T_X0_timesFor (L : Nat) (p1 : Int)  {μ μ' : ivM} {r : Int} (h : f_X0_timesFor p1 μ = some (r, μ')) : iv_Ret L 7 0 [ivR 99, ivI p1] [] (ivST μ) (some (ivI r)) (ivST μ') := by
  unfold f_X0_timesFor at h
  refine iv_Ret.stl [1] (ls' := [ivR 99, ivI p1]) (st' := [ivI p1]) (w' := (135, μ, iv_rho)) rfl ?_
  obtain ⟨r1, μ2, e3, h⟩ := iv_bndE h
  refine iv_Ret.calls rfl rfl (T_X9_isSet L p1 e3) ?_
  show iv_Ret L 7 4 [ivR 99, ivI p1] [ivI r1] (ivST μ2) (some (ivI r)) (ivST μ')
  refine iv_letE (fun j4 => ∀ (μ7 : ivM) (r8 : Int) (μ9 : ivM) (z5 : ivV) (z6 : ivV), j4 μ7 = some (r8, μ9) → iv_Ret L 7 18 [z5, z6] [] (ivST μ7) (some (ivI r8)) (ivST μ9)) h (fun μ7 r8 μ9 z5 z6 h => ?_) (fun j4 hj4 h => ?_)
  · refine iv_Ret.stl [20] (ls' := [z5, z6]) (st' := [ivI (-9)]) (w' := (135, μ7, iv_rho)) rfl ?_
    obtain ⟨rfl, rfl⟩ := iv_retE h
    exact ⟨1, rfl⟩
  · rcases iv_iteE h with ⟨c10, h⟩ | ⟨c10, h⟩
    · refine iv_Ret.ifT (t := 18) rfl (decide_eq_true c10) rfl ?_
      exact hj4 μ2 _ _ (ivR 99) (ivI p1) h
    · refine iv_Ret.ifF (t := 7) rfl (decide_eq_false c10) rfl ?_
      refine iv_Ret.stl [8, 11] (ls' := [ivR 99, ivI p1]) (st' := [ivR 103]) (w' := (135, μ2, iv_rho)) rfl ?_
      refine iv_Ret.stl [12] (ls' := [ivR 99, ivI p1]) (st' := [ivI p1, ivR 103]) (w' := (135, μ2, iv_rho)) rfl ?_
      obtain ⟨c11, h⟩ := iv_ckE h
      refine iv_Ret.iald (len := 256) rfl rfl rfl c11.1 c11.2 ?_
      show iv_Ret L 7 13 [ivR 99, ivI p1] [ivI (μ2 103 p1.toNat)] (ivST μ2) (some (ivI r)) (ivST μ')
      refine iv_Ret.stl [15] (ls' := [ivR 99, ivI p1]) (st' := [ivI (-9), ivI (μ2 103 p1.toNat)]) (w' := (135, μ2, iv_rho)) rfl ?_
      rcases iv_iteE h with ⟨c12, h⟩ | ⟨c12, h⟩
      · refine iv_Ret.icF (t := 18) rfl (decide_eq_false (not_not_intro c12)) rfl ?_
        exact hj4 μ2 _ _ (ivR 99) (ivI p1) h
      · refine iv_Ret.icT (t := 21) rfl (decide_eq_true c12) rfl ?_
        refine iv_Ret.stl [22, 25] (ls' := [ivR 99, ivI p1]) (st' := [ivR 103]) (w' := (135, μ2, iv_rho)) rfl ?_
        refine iv_Ret.stl [26] (ls' := [ivR 99, ivI p1]) (st' := [ivI p1, ivR 103]) (w' := (135, μ2, iv_rho)) rfl ?_
        obtain ⟨c13, h⟩ := iv_ckE h
        refine iv_Ret.iald (len := 256) rfl rfl rfl c13.1 c13.2 ?_
        show iv_Ret L 7 27 [ivR 99, ivI p1] [ivI (μ2 103 p1.toNat)] (ivST μ2) (some (ivI r)) (ivST μ')
        refine iv_Ret.stl [29, 30, 31, 32, 34, 35] (ls' := [ivR 99, ivI p1]) (st' := [ivI (iv_div (iv_wr ((iv_wr ((μ2 103 p1.toNat) + 6)) - 1)) 6)]) (w' := (135, μ2, iv_rho)) rfl ?_
        obtain ⟨rfl, rfl⟩ := iv_retE h
        exact ⟨1, rfl⟩
theorem T_lp_X0_bearsLoad_30 (L : Nat) (l1 : Int) (l2 : Int)  {k62 : Int → ivM → Option (Int × ivM)} (hk62 : ∀ (l3 : Int) (μ : ivM) (r : Int) (μ' : ivM) (d2 : ivV) (d4 : ivV), k62 l3 μ = some (r, μ') → iv_Ret L 10 62 [ivR 99, ivI l1, d2, ivI l3, d4] [] (ivST μ) (some (ivI r)) (ivST μ')) : ∀ (n : Nat) (l3 : Int) (l4 : Int) (μ : ivM) (r : Int) (μ' : ivM), lp_X0_bearsLoad_30 l1 l2 k62 n l3 l4 μ = some (r, μ') → iv_Ret L 10 30 [ivR 99, ivI l1, ivI l2, ivI l3, ivI l4] [] (ivST μ) (some (ivI r)) (ivST μ') := by
  intro n
  induction n with
  | zero => intro l3 l4 μ r μ' h; unfold lp_X0_bearsLoad_30 at h; cases h
  | succ n ih =>
    intro l3 l4 μ r μ' h
    unfold lp_X0_bearsLoad_30 at h
    refine iv_Ret.stl [32, 34] (ls' := [ivR 99, ivI l1, ivI l2, ivI l3, ivI l4]) (st' := [ivI 8, ivI l4]) (w' := (135, μ, iv_rho)) rfl ?_
    rcases iv_iteE h with ⟨c14, h⟩ | ⟨c14, h⟩
    · refine iv_Ret.icT (t := 62) rfl (decide_eq_true c14) rfl ?_
      exact hk62 l3 μ _ _ (ivI l2) (ivI l4) h
    · refine iv_Ret.icF (t := 37) rfl (decide_eq_false c14) rfl ?_
      refine iv_Ret.stl [38, 40] (ls' := [ivR 99, ivI l1, ivI l2, ivI l3, ivI l4]) (st' := [ivI l4, ivI l2]) (w' := (135, μ, iv_rho)) rfl ?_
      obtain ⟨r15, μ16, e17, h⟩ := iv_bndE h
      refine iv_Ret.calls rfl rfl (T_X9_has L l2 l4 e17) ?_
      show iv_Ret L 10 43 [ivR 99, ivI l1, ivI l2, ivI l3, ivI l4] [ivI r15] (ivST μ16) (some (ivI r)) (ivST μ')
      refine iv_letE (fun j18 => ∀ (w19 : Int) (μ20 : ivM) (r21 : Int) (μ22 : ivM), j18 w19 μ20 = some (r21, μ22) → iv_Ret L 10 56 [ivR 99, ivI l1, ivI l2, ivI w19, ivI l4] [] (ivST μ20) (some (ivI r21)) (ivST μ22)) h (fun w19 μ20 r21 μ22 h => ?_) (fun j18 hj18 h => ?_)
      · refine iv_Ret.stl [59, 30] (ls' := [ivR 99, ivI l1, ivI l2, ivI w19, ivI (iv_wr (l4 + 1))]) (st' := []) (w' := (135, μ20, iv_rho)) rfl ?_
        exact ih w19 (iv_wr (l4 + 1)) μ20 _ _ h
      · rcases iv_iteE h with ⟨c23, h⟩ | ⟨c23, h⟩
        · refine iv_Ret.ifT (t := 56) rfl (decide_eq_true c23) rfl ?_
          exact hj18 l3 μ16 _ _ h
        · refine iv_Ret.ifF (t := 46) rfl (decide_eq_false c23) rfl ?_
          refine iv_Ret.stl [47, 48, 51] (ls' := [ivR 99, ivI l1, ivI l2, ivI l3, ivI l4]) (st' := [ivR 102, ivI l3]) (w' := (135, μ16, iv_rho)) rfl ?_
          refine iv_Ret.stl [53] (ls' := [ivR 99, ivI l1, ivI l2, ivI l3, ivI l4]) (st' := [ivI l4, ivR 102, ivI l3]) (w' := (135, μ16, iv_rho)) rfl ?_
          obtain ⟨c24, h⟩ := iv_ckE h
          refine iv_Ret.iald (len := 8) rfl rfl rfl c24.1 c24.2 ?_
          show iv_Ret L 10 54 [ivR 99, ivI l1, ivI l2, ivI l3, ivI l4] [ivI (μ16 102 l4.toNat), ivI l3] (ivST μ16) (some (ivI r)) (ivST μ')
          refine iv_Ret.stl [55, 56] (ls' := [ivR 99, ivI l1, ivI l2, ivI (iv_wr (l3 + (μ16 102 l4.toNat))), ivI l4]) (st' := []) (w' := (135, μ16, iv_rho)) rfl ?_
          exact hj18 (iv_wr (l3 + (μ16 102 l4.toNat))) μ16 _ _ h
theorem T_X0_bearsLoad (L : Nat) (p1 : Int) (p2 : Int)  {μ μ' : ivM} {r : Int} (h : f_X0_bearsLoad p1 p2 μ = some (r, μ')) : iv_Ret L 10 0 [ivR 99, ivI p1, ivI p2, ivU, ivU] [] (ivST μ) (some (ivI r)) (ivST μ') := by
  unfold f_X0_bearsLoad at h
  refine iv_Ret.stl [1] (ls' := [ivR 99, ivI p1, ivI p2, ivU, ivU]) (st' := [ivI p1]) (w' := (135, μ, iv_rho)) rfl ?_
  refine iv_letE (fun j1 => ∀ (μ7 : ivM) (r8 : Int) (μ9 : ivM) (z2 : ivV) (z3 : ivV) (z4 : ivV) (z5 : ivV) (z6 : ivV), j1 μ7 = some (r8, μ9) → iv_Ret L 10 23 [z2, z3, z4, z5, z6] [] (ivST μ7) (some (ivI r8)) (ivST μ9)) h (fun μ7 r8 μ9 z2 z3 z4 z5 z6 h => ?_) (fun j1 hj1 h => ?_)
  · refine iv_Ret.stl [24] (ls' := [z2, z3, z4, z5, z6]) (st' := [ivI 0]) (w' := (135, μ7, iv_rho)) rfl ?_
    obtain ⟨rfl, rfl⟩ := iv_retE h
    exact ⟨1, rfl⟩
  · rcases iv_iteE h with ⟨c10, h⟩ | ⟨c10, h⟩
    · refine iv_Ret.ifT (t := 23) rfl (decide_eq_true c10) rfl ?_
      exact hj1 μ _ _ (ivR 99) (ivI p1) (ivI p2) ivU ivU h
    · refine iv_Ret.ifF (t := 4) rfl (decide_eq_false c10) rfl ?_
      refine iv_Ret.stl [5, 7] (ls' := [ivR 99, ivI p1, ivI p2, ivU, ivU]) (st' := [ivI 6, ivI p1]) (w' := (135, μ, iv_rho)) rfl ?_
      rcases iv_iteE h with ⟨c11, h⟩ | ⟨c11, h⟩
      · refine iv_Ret.icT (t := 23) rfl (decide_eq_true c11) rfl ?_
        exact hj1 μ _ _ (ivR 99) (ivI p1) (ivI p2) ivU ivU h
      · refine iv_Ret.icF (t := 10) rfl (decide_eq_false c11) rfl ?_
        refine iv_Ret.stl [11, 12, 15] (ls' := [ivR 99, ivI p1, ivI p2, ivU, ivU]) (st' := [ivR 100, ivI p2]) (w' := (135, μ, iv_rho)) rfl ?_
        refine iv_Ret.stl [16] (ls' := [ivR 99, ivI p1, ivI p2, ivU, ivU]) (st' := [ivI p1, ivR 100, ivI p2]) (w' := (135, μ, iv_rho)) rfl ?_
        obtain ⟨c12, h⟩ := iv_ckE h
        refine iv_Ret.iald (len := 6) rfl rfl rfl c12.1 c12.2 ?_
        show iv_Ret L 10 17 [ivR 99, ivI p1, ivI p2, ivU, ivU] [ivI (μ 100 p1.toNat), ivI p2] (ivST μ) (some (ivI r)) (ivST μ')
        refine iv_Ret.stl [18, 19, 20] (ls' := [ivR 99, ivI p1, ivI p2, ivU, ivU]) (st' := [ivI (iv_and p2 (iv_xor (μ 100 p1.toNat) (-1)))]) (w' := (135, μ, iv_rho)) rfl ?_
        rcases iv_iteE h with ⟨c13, h⟩ | ⟨c13, h⟩
        · refine iv_Ret.ifT (t := 25) rfl (decide_eq_true c13) rfl ?_
          refine iv_Ret.stl [26, 27, 28, 30] (ls' := [ivR 99, ivI p1, ivI p2, ivI 0, ivI 0]) (st' := []) (w' := (135, μ, iv_rho)) rfl ?_
          refine T_lp_X0_bearsLoad_30 L p1 p2 (fun w26 μ28 r29 μ30 z25 z27 h => ?_) iv_fuel 0 0 μ _ _ h
          refine iv_Ret.stl [63, 64, 67] (ls' := [ivR 99, ivI p1, z25, ivI w26, z27]) (st' := [ivR 101, ivI w26]) (w' := (135, μ28, iv_rho)) rfl ?_
          refine iv_Ret.stl [68] (ls' := [ivR 99, ivI p1, z25, ivI w26, z27]) (st' := [ivI p1, ivR 101, ivI w26]) (w' := (135, μ28, iv_rho)) rfl ?_
          obtain ⟨c31, h⟩ := iv_ckE h
          refine iv_Ret.iald (len := 6) rfl rfl rfl c31.1 c31.2 ?_
          show iv_Ret L 10 69 [ivR 99, ivI p1, z25, ivI w26, z27] [ivI (μ28 101 p1.toNat), ivI w26] (ivST μ28) (some (ivI r29)) (ivST μ30)
          refine iv_letE (fun j32 => ∀ (v38 : Int) (μ39 : ivM) (r40 : Int) (μ41 : ivM) (z33 : ivV) (z34 : ivV) (z35 : ivV) (z36 : ivV) (z37 : ivV), j32 v38 μ39 = some (r40, μ41) → iv_Ret L 10 77 [z33, z34, z35, z36, z37] [ivI v38] (ivST μ39) (some (ivI r40)) (ivST μ41)) h (fun v38 μ39 r40 μ41 z33 z34 z35 z36 z37 h => ?_) (fun j32 hj32 h => ?_)
          · obtain ⟨c42, h⟩ := iv_ckE h
            obtain ⟨rfl, rfl⟩ := iv_retE h
            exact iv_Ret.zret rfl c42
          · rcases iv_iteE h with ⟨c43, h⟩ | ⟨c43, h⟩
            · refine iv_Ret.icT (t := 76) rfl (decide_eq_true c43) rfl ?_
              refine iv_Ret.stl [77] (ls' := [ivR 99, ivI p1, z25, ivI w26, z27]) (st' := [ivI 0]) (w' := (135, μ28, iv_rho)) rfl ?_
              exact hj32 0 μ28 _ _ (ivR 99) (ivI p1) z25 (ivI w26) z27 h
            · refine iv_Ret.icF (t := 72) rfl (decide_eq_false c43) rfl ?_
              refine iv_Ret.stl [73, 77] (ls' := [ivR 99, ivI p1, z25, ivI w26, z27]) (st' := [ivI 1]) (w' := (135, μ28, iv_rho)) rfl ?_
              exact hj32 1 μ28 _ _ (ivR 99) (ivI p1) z25 (ivI w26) z27 h
        · refine iv_Ret.ifF (t := 23) rfl (decide_eq_false c13) rfl ?_
          exact hj1 μ _ _ (ivR 99) (ivI p1) (ivI p2) ivU ivU h
theorem T_lp_X0_leastLoad_7 (L : Nat) (l1 : Int) (l2 : Int) (l3 : Int)  {k75 : ivM → Option (Int × ivM)} (hk75 : ∀  (μ : ivM) (r : Int) (μ' : ivM) (d0 : ivV) (d1 : ivV) (d2 : ivV) (d3 : ivV) (d4 : ivV), k75 μ = some (r, μ') → iv_Ret L 9 75 [d0, d1, d2, d3, d4] [] (ivST μ) (some (ivI r)) (ivST μ')) : ∀ (n : Nat) (l4 : Int) (μ : ivM) (r : Int) (μ' : ivM), lp_X0_leastLoad_7 l1 l2 l3 k75 n l4 μ = some (r, μ') → iv_Ret L 9 7 [ivR 99, ivI l1, ivI l2, ivI l3, ivI l4] [] (ivST μ) (some (ivI r)) (ivST μ') := by
  intro n
  induction n with
  | zero => intro l4 μ r μ' h; unfold lp_X0_leastLoad_7 at h; cases h
  | succ n ih =>
    intro l4 μ r μ' h
    unfold lp_X0_leastLoad_7 at h
    refine iv_Ret.stl [9, 10] (ls' := [ivR 99, ivI l1, ivI l2, ivI l3, ivI l4]) (st' := [ivI l2, ivI l4]) (w' := (135, μ, iv_rho)) rfl ?_
    rcases iv_iteE h with ⟨c1, h⟩ | ⟨c1, h⟩
    · refine iv_Ret.icT (t := 75) rfl (decide_eq_true c1) rfl ?_
      exact hk75 μ _ _ (ivR 99) (ivI l1) (ivI l2) (ivI l3) (ivI l4) h
    · refine iv_Ret.icF (t := 13) rfl (decide_eq_false c1) rfl ?_
      refine iv_Ret.stl [14] (ls' := [ivR 99, ivI l1, ivI l2, ivI l3, ivI l4]) (st' := [ivI l2]) (w' := (135, μ, iv_rho)) rfl ?_
      obtain ⟨r2, μ3, e4, h⟩ := iv_bndE h
      refine iv_Ret.calls rfl rfl (T_X9_isSet L l2 e4) ?_
      show iv_Ret L 9 17 [ivR 99, ivI l1, ivI l2, ivI l3, ivI l4] [ivI r2] (ivST μ3) (some (ivI r)) (ivST μ')
      rcases iv_iteE h with ⟨c5, h⟩ | ⟨c5, h⟩
      · refine iv_Ret.ifT (t := 75) rfl (decide_eq_true c5) rfl ?_
        exact hk75 μ3 _ _ (ivR 99) (ivI l1) (ivI l2) (ivI l3) (ivI l4) h
      · refine iv_Ret.ifF (t := 20) rfl (decide_eq_false c5) rfl ?_
        refine iv_Ret.stl [22, 23, 24, 25, 26] (ls' := [ivR 99, ivI l1, ivI l2, ivI l3, ivI l4]) (st' := [ivI (iv_and l4 (iv_xor l2 (-1)))]) (w' := (135, μ3, iv_rho)) rfl ?_
        refine iv_letE (fun j6 => ∀ (μ7 : ivM) (r8 : Int) (μ9 : ivM), j6 μ7 = some (r8, μ9) → iv_Ret L 9 69 [ivR 99, ivI l1, ivI l2, ivI l3, ivI l4] [] (ivST μ7) (some (ivI r8)) (ivST μ9)) h (fun μ7 r8 μ9 h => ?_) (fun j6 hj6 h => ?_)
        · refine iv_Ret.stl [72, 7] (ls' := [ivR 99, ivI l1, ivI l2, ivI l3, ivI (iv_wr (l4 + 1))]) (st' := []) (w' := (135, μ7, iv_rho)) rfl ?_
          exact ih (iv_wr (l4 + 1)) μ7 _ _ h
        · rcases iv_iteE h with ⟨c10, h⟩ | ⟨c10, h⟩
          · refine iv_Ret.ifF (t := 29) rfl (decide_eq_false (not_not_intro c10)) rfl ?_
            refine iv_Ret.stl [30, 33] (ls' := [ivR 99, ivI l1, ivI l2, ivI l3, ivI l4]) (st' := [ivR 103]) (w' := (135, μ3, iv_rho)) rfl ?_
            refine iv_Ret.stl [34, 36, 37] (ls' := [ivR 99, ivI l1, ivI l2, ivI l3, ivI l4]) (st' := [ivI (iv_xor l2 l4), ivR 103]) (w' := (135, μ3, iv_rho)) rfl ?_
            obtain ⟨c11, h⟩ := iv_ckE h
            refine iv_Ret.iald (len := 256) rfl rfl rfl c11.1 c11.2 ?_
            show iv_Ret L 9 38 [ivR 99, ivI l1, ivI l2, ivI l3, ivI l4] [ivI (μ3 103 (iv_xor l2 l4).toNat)] (ivST μ3) (some (ivI r)) (ivST μ')
            refine iv_Ret.stl [40] (ls' := [ivR 99, ivI l1, ivI l2, ivI l3, ivI l4]) (st' := [ivI (-9), ivI (μ3 103 (iv_xor l2 l4).toNat)]) (w' := (135, μ3, iv_rho)) rfl ?_
            rcases iv_iteE h with ⟨c12, h⟩ | ⟨c12, h⟩
            · refine iv_Ret.icT (t := 69) rfl (decide_eq_true c12) rfl ?_
              exact hj6 μ3 _ _ h
            · refine iv_Ret.icF (t := 43) rfl (decide_eq_false c12) rfl ?_
              refine iv_Ret.stl [44, 47] (ls' := [ivR 99, ivI l1, ivI l2, ivI l3, ivI l4]) (st' := [ivR 103]) (w' := (135, μ3, iv_rho)) rfl ?_
              refine iv_Ret.stl [48, 50, 51] (ls' := [ivR 99, ivI l1, ivI l2, ivI l3, ivI l4]) (st' := [ivI (iv_xor l2 l4), ivR 103]) (w' := (135, μ3, iv_rho)) rfl ?_
              obtain ⟨c13, h⟩ := iv_ckE h
              refine iv_Ret.iald (len := 256) rfl rfl rfl c13.1 c13.2 ?_
              show iv_Ret L 9 52 [ivR 99, ivI l1, ivI l2, ivI l3, ivI l4] [ivI (μ3 103 (iv_xor l2 l4).toNat)] (ivST μ3) (some (ivI r)) (ivST μ')
              refine iv_Ret.stl [53] (ls' := [ivR 99, ivI l1, ivI l2, ivI l3, ivI l4]) (st' := [ivI l3, ivI (μ3 103 (iv_xor l2 l4).toNat)]) (w' := (135, μ3, iv_rho)) rfl ?_
              rcases iv_iteE h with ⟨c14, h⟩ | ⟨c14, h⟩
              · refine iv_Ret.icT (t := 69) rfl (decide_eq_true c14) rfl ?_
                exact hj6 μ3 _ _ h
              · refine iv_Ret.icF (t := 56) rfl (decide_eq_false c14) rfl ?_
                refine iv_Ret.stl [57, 58, 60] (ls' := [ivR 99, ivI l1, ivI l2, ivI l3, ivI l4]) (st' := [ivI l4, ivI l1, ivR 99]) (w' := (135, μ3, iv_rho)) rfl ?_
                obtain ⟨r15, μ16, e17, h⟩ := iv_bndE h
                refine iv_Ret.callv rfl rfl rfl (T_X0_bearsLoad L l1 l4 e17) ?_
                show iv_Ret L 9 63 [ivR 99, ivI l1, ivI l2, ivI l3, ivI l4] [ivI r15] (ivST μ16) (some (ivI r)) (ivST μ')
                rcases iv_iteE h with ⟨c18, h⟩ | ⟨c18, h⟩
                · refine iv_Ret.ifT (t := 69) rfl (decide_eq_true c18) rfl ?_
                  exact hj6 μ16 _ _ h
                · refine iv_Ret.ifF (t := 66) rfl (decide_eq_false c18) rfl ?_
                  refine iv_Ret.stl [68] (ls' := [ivR 99, ivI l1, ivI l2, ivI l3, ivI l4]) (st' := [ivI l4]) (w' := (135, μ16, iv_rho)) rfl ?_
                  obtain ⟨rfl, rfl⟩ := iv_retE h
                  exact ⟨1, rfl⟩
          · refine iv_Ret.ifT (t := 69) rfl (decide_eq_true c10) rfl ?_
            exact hj6 μ3 _ _ h
theorem T_X0_leastLoad (L : Nat) (p1 : Int) (p2 : Int)  {μ μ' : ivM} {r : Int} (h : f_X0_leastLoad p1 p2 μ = some (r, μ')) : iv_Ret L 9 0 [ivR 99, ivI p1, ivI p2, ivU, ivU] [] (ivST μ) (some (ivI r)) (ivST μ') := by
  unfold f_X0_leastLoad at h
  refine iv_Ret.stl [1, 2, 3, 4, 5, 7] (ls' := [ivR 99, ivI p1, ivI p2, ivI (iv_wr (5 - p1)), ivI 0]) (st' := []) (w' := (135, μ, iv_rho)) rfl ?_
  refine T_lp_X0_leastLoad_7 L p1 p2 (iv_wr (5 - p1)) (fun μ24 r25 μ26 z19 z20 z21 z22 z23 h => ?_) iv_fuel 0 μ _ _ h
  refine iv_Ret.stl [76] (ls' := [z19, z20, z21, z22, z23]) (st' := [ivI 0]) (w' := (135, μ24, iv_rho)) rfl ?_
  obtain ⟨rfl, rfl⟩ := iv_retE h
  exact ⟨1, rfl⟩
theorem T_lp_X0_firstWay_8 (L : Nat) (l1 : Int)  {k43 : Int → ivM → Option (Int × ivM)} (hk43 : ∀ (l4 : Int) (μ : ivM) (r : Int) (μ' : ivM) (d0 : ivV) (d1 : ivV) (d2 : ivV) (d3 : ivV) (d5 : ivV), k43 l4 μ = some (r, μ') → iv_Ret L 8 43 [d0, d1, d2, d3, ivI l4, d5] [] (ivST μ) (some (ivI r)) (ivST μ')) : ∀ (n : Nat) (l3 : Int) (l4 : Int) (l5 : Int) (μ : ivM) (r : Int) (μ' : ivM) (d2 : ivV), lp_X0_firstWay_8 l1 k43 n l3 l4 l5 μ = some (r, μ') → iv_Ret L 8 8 [ivR 99, ivI l1, d2, ivI l3, ivI l4, ivI l5] [] (ivST μ) (some (ivI r)) (ivST μ') := by
  intro n
  induction n with
  | zero => intro l3 l4 l5 μ r μ' d2 h; unfold lp_X0_firstWay_8 at h; cases h
  | succ n ih =>
    intro l3 l4 l5 μ r μ' d2 h
    unfold lp_X0_firstWay_8 at h
    refine iv_Ret.stl [10, 11] (ls' := [ivR 99, ivI l1, d2, ivI l3, ivI l4, ivI l5]) (st' := [ivI l1, ivI l5]) (w' := (135, μ, iv_rho)) rfl ?_
    rcases iv_iteE h with ⟨c1, h⟩ | ⟨c1, h⟩
    · refine iv_Ret.icT (t := 43) rfl (decide_eq_true c1) rfl ?_
      exact hk43 l4 μ _ _ (ivR 99) (ivI l1) d2 (ivI l3) (ivI l5) h
    · refine iv_Ret.icF (t := 14) rfl (decide_eq_false c1) rfl ?_
      refine iv_Ret.stl [16, 18] (ls' := [ivR 99, ivI l1, d2, ivI l3, ivI l4, ivI l5]) (st' := [ivI 6, ivI l5]) (w' := (135, μ, iv_rho)) rfl ?_
      rcases iv_iteE h with ⟨c2, h⟩ | ⟨c2, h⟩
      · refine iv_Ret.icT (t := 43) rfl (decide_eq_true c2) rfl ?_
        exact hk43 l4 μ _ _ (ivR 99) (ivI l1) d2 (ivI l3) (ivI l5) h
      · refine iv_Ret.icF (t := 21) rfl (decide_eq_false c2) rfl ?_
        refine iv_Ret.stl [22, 24, 25] (ls' := [ivR 99, ivI l1, d2, ivI l3, ivI l4, ivI l5]) (st' := [ivI l3, ivI l5, ivR 99]) (w' := (135, μ, iv_rho)) rfl ?_
        obtain ⟨r3, μ4, e5, h⟩ := iv_bndE h
        refine iv_Ret.callv rfl rfl rfl (T_X0_leastLoad L l5 l3 e5) ?_
        show iv_Ret L 8 28 [ivR 99, ivI l1, d2, ivI l3, ivI l4, ivI l5] [ivI r3] (ivST μ4) (some (ivI r)) (ivST μ')
        refine iv_Ret.stl [30, 31, 33, 34, 35, 36, 37, 40, 8] (ls' := [ivR 99, ivI l1, (iv_un d2), ivI (iv_and l3 (iv_xor r3 (-1))), ivI r3, ivI (iv_wr (l5 + 1))]) (st' := []) (w' := (135, μ4, iv_rho)) rfl ?_
        exact ih (iv_and l3 (iv_xor r3 (-1))) r3 (iv_wr (l5 + 1)) μ4 _ _ (iv_un d2) h
theorem T_X0_firstWay (L : Nat) (p1 : Int) (p2 : Int)  {μ μ' : ivM} {r : Int} (h : f_X0_firstWay p1 p2 μ = some (r, μ')) : iv_Ret L 8 0 [ivR 99, ivI p1, ivI p2, ivU, ivU, ivU] [] (ivST μ) (some (ivI r)) (ivST μ') := by
  unfold f_X0_firstWay at h
  refine iv_Ret.stl [1, 2, 3, 5, 6, 8] (ls' := [ivR 99, ivI p1, ivI p2, ivI p2, ivI 0, ivI 0]) (st' := []) (w' := (135, μ, iv_rho)) rfl ?_
  refine T_lp_X0_firstWay_8 L p1 (fun w10 μ12 r13 μ14 z6 z7 z8 z9 z11 h => ?_) iv_fuel p2 0 0 μ _ _ (ivI p2) h
  refine iv_Ret.stl [45] (ls' := [z6, z7, z8, z9, ivI w10, z11]) (st' := [ivI w10]) (w' := (135, μ12, iv_rho)) rfl ?_
  obtain ⟨rfl, rfl⟩ := iv_retE h
  exact ⟨1, rfl⟩
theorem T_lp_X1_settle_26 (L : Nat)     : ∀ (n : Nat) (l2 : Int) (μ : ivM) (r : Int) (μ' : ivM), lp_X1_settle_26  n l2 μ = some (r, μ') → iv_Ret L 12 26 [ivR 9, ivR 5, ivI l2] [] (ivST μ) none (ivST μ') := by
  intro n
  induction n with
  | zero => intro l2 μ r μ' h; unfold lp_X1_settle_26 at h; cases h
  | succ n ih =>
    intro l2 μ r μ' h
    unfold lp_X1_settle_26 at h
    refine iv_Ret.stl [27, 29] (ls' := [ivR 9, ivR 5, ivI l2]) (st' := [ivI 6, ivI l2]) (w' := (135, μ, iv_rho)) rfl ?_
    rcases iv_iteE h with ⟨c1, h⟩ | ⟨c1, h⟩
    · refine iv_Ret.icT (t := 62) rfl (decide_eq_true c1) rfl ?_
      obtain ⟨rfl, rfl⟩ := iv_retE h
      exact ⟨1, rfl⟩
    · refine iv_Ret.icF (t := 32) rfl (decide_eq_false c1) rfl ?_
      refine iv_Ret.stl [33, 36] (ls' := [ivR 9, ivR 5, ivI l2]) (st' := [ivR 10]) (w' := (135, μ, iv_rho)) rfl ?_
      refine iv_Ret.stl [37, 38, 39, 42] (ls' := [ivR 9, ivR 5, ivI l2]) (st' := [ivI (μ 9 3), ivI l2, ivI l2, ivR 10]) (w' := (135, μ, iv_rho)) rfl ?_
      refine iv_letE (fun j2 => ∀ (v3 : Int) (μ4 : ivM) (r5 : Int) (μ6 : ivM), j2 v3 μ4 = some (r5, μ6) → iv_Ret L 12 55 [ivR 9, ivR 5, ivI l2] [ivI v3, ivI l2, ivR 10] (ivST μ4) none (ivST μ6)) h (fun v3 μ4 r5 μ6 h => ?_) (fun j2 hj2 h => ?_)
      · obtain ⟨c7, h⟩ := iv_ckE h
        refine iv_Ret.iast (len := 6) rfl rfl rfl rfl c7.1 c7.2 ?_
        show iv_Ret L 12 56 [ivR 9, ivR 5, ivI l2] [] (ivST (iv_upd μ4 10 l2.toNat v3)) none (ivST μ6)
        refine iv_Ret.stl [59, 26] (ls' := [ivR 9, ivR 5, ivI (iv_wr (l2 + 1))]) (st' := []) (w' := (135, (iv_upd μ4 10 l2.toNat v3), iv_rho)) rfl ?_
        exact ih (iv_wr (l2 + 1)) (iv_upd μ4 10 l2.toNat v3) _ _ h
      · rcases iv_iteE h with ⟨c8, h⟩ | ⟨c8, h⟩
        · refine iv_Ret.icT (t := 54) rfl (decide_eq_true c8) rfl ?_
          refine iv_Ret.stl [55] (ls' := [ivR 9, ivR 5, ivI l2]) (st' := [ivI 0, ivI l2, ivR 10]) (w' := (135, μ, iv_rho)) rfl ?_
          exact hj2 0 μ _ _ h
        · refine iv_Ret.icF (t := 45) rfl (decide_eq_false c8) rfl ?_
          refine iv_Ret.stl [46, 49] (ls' := [ivR 9, ivR 5, ivI l2]) (st' := [ivR 8, ivI l2, ivR 10]) (w' := (135, μ, iv_rho)) rfl ?_
          refine iv_Ret.stl [50] (ls' := [ivR 9, ivR 5, ivI l2]) (st' := [ivI l2, ivR 8, ivI l2, ivR 10]) (w' := (135, μ, iv_rho)) rfl ?_
          obtain ⟨c9, h⟩ := iv_ckE h
          refine iv_Ret.iald (len := 6) rfl rfl rfl c9.1 c9.2 ?_
          show iv_Ret L 12 51 [ivR 9, ivR 5, ivI l2] [ivI (μ 8 l2.toNat), ivI l2, ivR 10] (ivST μ) none (ivST μ')
          refine iv_Ret.stl [55] (ls' := [ivR 9, ivR 5, ivI l2]) (st' := [ivI (μ 8 l2.toNat), ivI l2, ivR 10]) (w' := (135, μ, iv_rho)) rfl ?_
          exact hj2 (μ 8 l2.toNat) μ _ _ h
theorem T_X1_settle (L : Nat)   {μ μ' : ivM} {r : Int} (h : f_X1_settle  μ = some (r, μ')) : iv_Ret L 12 0 [ivR 9, ivR 5, ivU] [] (ivST μ) none (ivST μ') := by
  unfold f_X1_settle at h
  refine iv_Ret.stl [1, 2, 5, 8, 9, 10, 13, 16, 17, 18, 21, 24, 25, 26] (ls' := [ivR 9, ivR 5, ivI 0]) (st' := []) (w' := (135, (iv_upd (iv_upd (iv_upd μ 9 1 (μ 5 3)) 9 2 ((iv_upd μ 9 1 (μ 5 3)) 5 4)) 9 3 ((iv_upd (iv_upd μ 9 1 (μ 5 3)) 9 2 ((iv_upd μ 9 1 (μ 5 3)) 5 4)) 5 5)), iv_rho)) rfl ?_
  exact T_lp_X1_settle_26 L  iv_fuel 0 (iv_upd (iv_upd (iv_upd μ 9 1 (μ 5 3)) 9 2 ((iv_upd μ 9 1 (μ 5 3)) 5 4)) 9 3 ((iv_upd (iv_upd μ 9 1 (μ 5 3)) 9 2 ((iv_upd μ 9 1 (μ 5 3)) 5 4)) 5 5)) _ _ h
theorem T_X1_hasThing (L : Nat) (p1 : Int)  {μ μ' : ivM} {r : Int} (h : f_X1_hasThing p1 μ = some (r, μ')) : iv_Ret L 13 0 [ivR 9, ivI p1] [] (ivST μ) (some (ivI r)) (ivST μ') := by
  unfold f_X1_hasThing at h
  refine iv_Ret.stl [1] (ls' := [ivR 9, ivI p1]) (st' := [ivI p1]) (w' := (135, μ, iv_rho)) rfl ?_
  refine iv_letE (fun j1 => ∀ (v4 : Int) (μ5 : ivM) (r6 : Int) (μ7 : ivM) (z2 : ivV) (z3 : ivV), j1 v4 μ5 = some (r6, μ7) → iv_Ret L 13 23 [z2, z3] [ivI v4] (ivST μ5) (some (ivI r6)) (ivST μ7)) h (fun v4 μ5 r6 μ7 z2 z3 h => ?_) (fun j1 hj1 h => ?_)
  · obtain ⟨c8, h⟩ := iv_ckE h
    obtain ⟨rfl, rfl⟩ := iv_retE h
    exact iv_Ret.zret rfl c8
  · refine iv_letE (fun j9 => ∀ (μ12 : ivM) (r13 : Int) (μ14 : ivM) (z10 : ivV) (z11 : ivV), j9 μ12 = some (r13, μ14) → iv_Ret L 13 22 [z10, z11] [] (ivST μ12) (some (ivI r13)) (ivST μ14)) h (fun μ12 r13 μ14 z10 z11 h => ?_) (fun j9 hj9 h => ?_)
    · refine iv_Ret.stl [23] (ls' := [z10, z11]) (st' := [ivI 0]) (w' := (135, μ12, iv_rho)) rfl ?_
      exact hj1 0 μ12 _ _ z10 z11 h
    · rcases iv_iteE h with ⟨c15, h⟩ | ⟨c15, h⟩
      · refine iv_Ret.ifT (t := 22) rfl (decide_eq_true c15) rfl ?_
        exact hj9 μ _ _ (ivR 9) (ivI p1) h
      · refine iv_Ret.ifF (t := 4) rfl (decide_eq_false c15) rfl ?_
        refine iv_Ret.stl [5, 6, 9] (ls' := [ivR 9, ivI p1]) (st' := [ivI (μ 9 2), ivI p1]) (w' := (135, μ, iv_rho)) rfl ?_
        rcases iv_iteE h with ⟨c16, h⟩ | ⟨c16, h⟩
        · refine iv_Ret.icT (t := 22) rfl (decide_eq_true c16) rfl ?_
          exact hj9 μ _ _ (ivR 9) (ivI p1) h
        · refine iv_Ret.icF (t := 12) rfl (decide_eq_false c16) rfl ?_
          refine iv_Ret.stl [13, 15] (ls' := [ivR 9, ivI p1]) (st' := [ivI 8, ivI p1]) (w' := (135, μ, iv_rho)) rfl ?_
          rcases iv_iteE h with ⟨c17, h⟩ | ⟨c17, h⟩
          · refine iv_Ret.icT (t := 22) rfl (decide_eq_true c17) rfl ?_
            exact hj9 μ _ _ (ivR 9) (ivI p1) h
          · refine iv_Ret.icF (t := 18) rfl (decide_eq_false c17) rfl ?_
            refine iv_Ret.stl [19, 23] (ls' := [ivR 9, ivI p1]) (st' := [ivI 1]) (w' := (135, μ, iv_rho)) rfl ?_
            exact hj1 1 μ _ _ (ivR 9) (ivI p1) h
theorem T_X1_hasPerson (L : Nat) (p1 : Int)  {μ μ' : ivM} {r : Int} (h : f_X1_hasPerson p1 μ = some (r, μ')) : iv_Ret L 14 0 [ivR 9, ivI p1] [] (ivST μ) (some (ivI r)) (ivST μ') := by
  unfold f_X1_hasPerson at h
  refine iv_Ret.stl [1] (ls' := [ivR 9, ivI p1]) (st' := [ivI p1]) (w' := (135, μ, iv_rho)) rfl ?_
  refine iv_letE (fun j1 => ∀ (v4 : Int) (μ5 : ivM) (r6 : Int) (μ7 : ivM) (z2 : ivV) (z3 : ivV), j1 v4 μ5 = some (r6, μ7) → iv_Ret L 14 23 [z2, z3] [ivI v4] (ivST μ5) (some (ivI r6)) (ivST μ7)) h (fun v4 μ5 r6 μ7 z2 z3 h => ?_) (fun j1 hj1 h => ?_)
  · obtain ⟨c8, h⟩ := iv_ckE h
    obtain ⟨rfl, rfl⟩ := iv_retE h
    exact iv_Ret.zret rfl c8
  · refine iv_letE (fun j9 => ∀ (μ12 : ivM) (r13 : Int) (μ14 : ivM) (z10 : ivV) (z11 : ivV), j9 μ12 = some (r13, μ14) → iv_Ret L 14 22 [z10, z11] [] (ivST μ12) (some (ivI r13)) (ivST μ14)) h (fun μ12 r13 μ14 z10 z11 h => ?_) (fun j9 hj9 h => ?_)
    · refine iv_Ret.stl [23] (ls' := [z10, z11]) (st' := [ivI 0]) (w' := (135, μ12, iv_rho)) rfl ?_
      exact hj1 0 μ12 _ _ z10 z11 h
    · rcases iv_iteE h with ⟨c15, h⟩ | ⟨c15, h⟩
      · refine iv_Ret.ifT (t := 22) rfl (decide_eq_true c15) rfl ?_
        exact hj9 μ _ _ (ivR 9) (ivI p1) h
      · refine iv_Ret.ifF (t := 4) rfl (decide_eq_false c15) rfl ?_
        refine iv_Ret.stl [5, 6, 9] (ls' := [ivR 9, ivI p1]) (st' := [ivI (μ 9 3), ivI p1]) (w' := (135, μ, iv_rho)) rfl ?_
        rcases iv_iteE h with ⟨c16, h⟩ | ⟨c16, h⟩
        · refine iv_Ret.icT (t := 22) rfl (decide_eq_true c16) rfl ?_
          exact hj9 μ _ _ (ivR 9) (ivI p1) h
        · refine iv_Ret.icF (t := 12) rfl (decide_eq_false c16) rfl ?_
          refine iv_Ret.stl [13, 15] (ls' := [ivR 9, ivI p1]) (st' := [ivI 6, ivI p1]) (w' := (135, μ, iv_rho)) rfl ?_
          rcases iv_iteE h with ⟨c17, h⟩ | ⟨c17, h⟩
          · refine iv_Ret.icT (t := 22) rfl (decide_eq_true c17) rfl ?_
            exact hj9 μ _ _ (ivR 9) (ivI p1) h
          · refine iv_Ret.icF (t := 18) rfl (decide_eq_false c17) rfl ?_
            refine iv_Ret.stl [19, 23] (ls' := [ivR 9, ivI p1]) (st' := [ivI 1]) (w' := (135, μ, iv_rho)) rfl ?_
            exact hj1 1 μ _ _ (ivR 9) (ivI p1) h
theorem T_X1_areThings (L : Nat) (p1 : Int)  {μ μ' : ivM} {r : Int} (h : f_X1_areThings p1 μ = some (r, μ')) : iv_Ret L 15 0 [ivR 9, ivI p1] [] (ivST μ) (some (ivI r)) (ivST μ') := by
  unfold f_X1_areThings at h
  refine iv_Ret.stl [1] (ls' := [ivR 9, ivI p1]) (st' := [ivI p1]) (w' := (135, μ, iv_rho)) rfl ?_
  refine iv_letE (fun j1 => ∀ (v4 : Int) (μ5 : ivM) (r6 : Int) (μ7 : ivM) (z2 : ivV) (z3 : ivV), j1 v4 μ5 = some (r6, μ7) → iv_Ret L 15 19 [z2, z3] [ivI v4] (ivST μ5) (some (ivI r6)) (ivST μ7)) h (fun v4 μ5 r6 μ7 z2 z3 h => ?_) (fun j1 hj1 h => ?_)
  · obtain ⟨c8, h⟩ := iv_ckE h
    obtain ⟨rfl, rfl⟩ := iv_retE h
    exact iv_Ret.zret rfl c8
  · refine iv_letE (fun j9 => ∀ (μ12 : ivM) (r13 : Int) (μ14 : ivM) (z10 : ivV) (z11 : ivV), j9 μ12 = some (r13, μ14) → iv_Ret L 15 18 [z10, z11] [] (ivST μ12) (some (ivI r13)) (ivST μ14)) h (fun μ12 r13 μ14 z10 z11 h => ?_) (fun j9 hj9 h => ?_)
    · refine iv_Ret.stl [19] (ls' := [z10, z11]) (st' := [ivI 0]) (w' := (135, μ12, iv_rho)) rfl ?_
      exact hj1 0 μ12 _ _ z10 z11 h
    · rcases iv_iteE h with ⟨c15, h⟩ | ⟨c15, h⟩
      · refine iv_Ret.ifT (t := 18) rfl (decide_eq_true c15) rfl ?_
        exact hj9 μ _ _ (ivR 9) (ivI p1) h
      · refine iv_Ret.ifF (t := 4) rfl (decide_eq_false c15) rfl ?_
        refine iv_Ret.stl [5, 6, 7, 10, 11] (ls' := [ivR 9, ivI p1]) (st' := [ivI (iv_shl 1 (μ 9 2)), ivI p1]) (w' := (135, μ, iv_rho)) rfl ?_
        rcases iv_iteE h with ⟨c16, h⟩ | ⟨c16, h⟩
        · refine iv_Ret.icT (t := 18) rfl (decide_eq_true c16) rfl ?_
          exact hj9 μ _ _ (ivR 9) (ivI p1) h
        · refine iv_Ret.icF (t := 14) rfl (decide_eq_false c16) rfl ?_
          refine iv_Ret.stl [15, 19] (ls' := [ivR 9, ivI p1]) (st' := [ivI 1]) (w' := (135, μ, iv_rho)) rfl ?_
          exact hj1 1 μ _ _ (ivR 9) (ivI p1) h
theorem T_X1_arePeople (L : Nat) (p1 : Int)  {μ μ' : ivM} {r : Int} (h : f_X1_arePeople p1 μ = some (r, μ')) : iv_Ret L 16 0 [ivR 9, ivI p1] [] (ivST μ) (some (ivI r)) (ivST μ') := by
  unfold f_X1_arePeople at h
  refine iv_Ret.stl [1] (ls' := [ivR 9, ivI p1]) (st' := [ivI p1]) (w' := (135, μ, iv_rho)) rfl ?_
  refine iv_letE (fun j1 => ∀ (v4 : Int) (μ5 : ivM) (r6 : Int) (μ7 : ivM) (z2 : ivV) (z3 : ivV), j1 v4 μ5 = some (r6, μ7) → iv_Ret L 16 19 [z2, z3] [ivI v4] (ivST μ5) (some (ivI r6)) (ivST μ7)) h (fun v4 μ5 r6 μ7 z2 z3 h => ?_) (fun j1 hj1 h => ?_)
  · obtain ⟨c8, h⟩ := iv_ckE h
    obtain ⟨rfl, rfl⟩ := iv_retE h
    exact iv_Ret.zret rfl c8
  · refine iv_letE (fun j9 => ∀ (μ12 : ivM) (r13 : Int) (μ14 : ivM) (z10 : ivV) (z11 : ivV), j9 μ12 = some (r13, μ14) → iv_Ret L 16 18 [z10, z11] [] (ivST μ12) (some (ivI r13)) (ivST μ14)) h (fun μ12 r13 μ14 z10 z11 h => ?_) (fun j9 hj9 h => ?_)
    · refine iv_Ret.stl [19] (ls' := [z10, z11]) (st' := [ivI 0]) (w' := (135, μ12, iv_rho)) rfl ?_
      exact hj1 0 μ12 _ _ z10 z11 h
    · rcases iv_iteE h with ⟨c15, h⟩ | ⟨c15, h⟩
      · refine iv_Ret.ifT (t := 18) rfl (decide_eq_true c15) rfl ?_
        exact hj9 μ _ _ (ivR 9) (ivI p1) h
      · refine iv_Ret.ifF (t := 4) rfl (decide_eq_false c15) rfl ?_
        refine iv_Ret.stl [5, 6, 7, 10, 11] (ls' := [ivR 9, ivI p1]) (st' := [ivI (iv_shl 1 (μ 9 3)), ivI p1]) (w' := (135, μ, iv_rho)) rfl ?_
        rcases iv_iteE h with ⟨c16, h⟩ | ⟨c16, h⟩
        · refine iv_Ret.icT (t := 18) rfl (decide_eq_true c16) rfl ?_
          exact hj9 μ _ _ (ivR 9) (ivI p1) h
        · refine iv_Ret.icF (t := 14) rfl (decide_eq_false c16) rfl ?_
          refine iv_Ret.stl [15, 19] (ls' := [ivR 9, ivI p1]) (st' := [ivI 1]) (w' := (135, μ, iv_rho)) rfl ?_
          exact hj1 1 μ _ _ (ivR 9) (ivI p1) h
theorem T_lp_X2_begin_7 (L : Nat)     : ∀ (n : Nat) (l2 : Int) (μ : ivM) (r : Int) (μ' : ivM) (d3 : ivV), lp_X2_begin_7  n l2 μ = some (r, μ') → iv_Ret L 18 7 [ivR 11, ivR 5, ivI l2, d3] [] (ivST μ) none (ivST μ') := by
  intro n
  induction n with
  | zero => intro l2 μ r μ' d3 h; unfold lp_X2_begin_7 at h; cases h
  | succ n ih =>
    intro l2 μ r μ' d3 h
    unfold lp_X2_begin_7 at h
    refine iv_Ret.stl [8, 10] (ls' := [ivR 11, ivR 5, ivI l2, d3]) (st' := [ivI 8, ivI l2]) (w' := (135, μ, iv_rho)) rfl ?_
    rcases iv_iteE h with ⟨c1, h⟩ | ⟨c1, h⟩
    · refine iv_Ret.icT (t := 80) rfl (decide_eq_true c1) rfl ?_
      obtain ⟨rfl, rfl⟩ := iv_retE h
      exact ⟨1, rfl⟩
    · refine iv_Ret.icF (t := 13) rfl (decide_eq_false c1) rfl ?_
      refine iv_Ret.stl [14, 15, 18] (ls' := [ivR 11, ivR 5, ivI l2, d3]) (st' := [ivI (μ 5 4), ivI l2]) (w' := (135, μ, iv_rho)) rfl ?_
      refine iv_letE (fun j2 => ∀ (v4 : Int) (μ5 : ivM) (r6 : Int) (μ7 : ivM) (z3 : ivV), j2 v4 μ5 = some (r6, μ7) → iv_Ret L 18 26 [ivR 11, ivR 5, ivI l2, z3] [ivI v4] (ivST μ5) none (ivST μ7)) h (fun v4 μ5 r6 μ7 z3 h => ?_) (fun j2 hj2 h => ?_)
      · refine iv_Ret.stl [27, 28, 31] (ls' := [ivR 11, ivR 5, ivI l2, ivI v4]) (st' := [ivR 12]) (w' := (135, μ5, iv_rho)) rfl ?_
        refine iv_Ret.stl [32, 33] (ls' := [ivR 11, ivR 5, ivI l2, ivI v4]) (st' := [ivI v4, ivI l2, ivR 12]) (w' := (135, μ5, iv_rho)) rfl ?_
        refine iv_letE (fun j8 => ∀ (v9 : Int) (μ10 : ivM) (r11 : Int) (μ12 : ivM), j8 v9 μ10 = some (r11, μ12) → iv_Ret L 18 46 [ivR 11, ivR 5, ivI l2, ivI v4] [ivI v9, ivI l2, ivR 12] (ivST μ10) none (ivST μ12)) h (fun v9 μ10 r11 μ12 h => ?_) (fun j8 hj8 h => ?_)
        · obtain ⟨c13, h⟩ := iv_ckE h
          refine iv_Ret.iast (len := 8) rfl rfl rfl rfl c13.1 c13.2 ?_
          show iv_Ret L 18 47 [ivR 11, ivR 5, ivI l2, ivI v4] [] (ivST (iv_upd μ10 12 l2.toNat v9)) none (ivST μ12)
          refine iv_Ret.stl [48, 51] (ls' := [ivR 11, ivR 5, ivI l2, ivI v4]) (st' := [ivR 13]) (w' := (135, (iv_upd μ10 12 l2.toNat v9), iv_rho)) rfl ?_
          refine iv_Ret.stl [52, 53] (ls' := [ivR 11, ivR 5, ivI l2, ivI v4]) (st' := [ivI 0, ivI l2, ivR 13]) (w' := (135, (iv_upd μ10 12 l2.toNat v9), iv_rho)) rfl ?_
          obtain ⟨c14, h⟩ := iv_ckE h
          refine iv_Ret.iast (len := 8) rfl rfl rfl rfl c14.1 c14.2 ?_
          show iv_Ret L 18 54 [ivR 11, ivR 5, ivI l2, ivI v4] [] (ivST (iv_upd (iv_upd μ10 12 l2.toNat v9) 13 l2.toNat 0)) none (ivST μ12)
          refine iv_Ret.stl [55, 58] (ls' := [ivR 11, ivR 5, ivI l2, ivI v4]) (st' := [ivR 14]) (w' := (135, (iv_upd (iv_upd μ10 12 l2.toNat v9) 13 l2.toNat 0), iv_rho)) rfl ?_
          refine iv_Ret.stl [59, 60] (ls' := [ivR 11, ivR 5, ivI l2, ivI v4]) (st' := [ivI v4, ivI l2, ivR 14]) (w' := (135, (iv_upd (iv_upd μ10 12 l2.toNat v9) 13 l2.toNat 0), iv_rho)) rfl ?_
          refine iv_letE (fun j15 => ∀ (v17 : Int) (μ18 : ivM) (r19 : Int) (μ20 : ivM) (z16 : ivV), j15 v17 μ18 = some (r19, μ20) → iv_Ret L 18 73 [ivR 11, ivR 5, ivI l2, z16] [ivI v17, ivI l2, ivR 14] (ivST μ18) none (ivST μ20)) h (fun v17 μ18 r19 μ20 z16 h => ?_) (fun j15 hj15 h => ?_)
          · obtain ⟨c21, h⟩ := iv_ckE h
            refine iv_Ret.iast (len := 8) rfl rfl rfl rfl c21.1 c21.2 ?_
            show iv_Ret L 18 74 [ivR 11, ivR 5, ivI l2, z16] [] (ivST (iv_upd μ18 14 l2.toNat v17)) none (ivST μ20)
            refine iv_Ret.stl [77, 7] (ls' := [ivR 11, ivR 5, ivI (iv_wr (l2 + 1)), z16]) (st' := []) (w' := (135, (iv_upd μ18 14 l2.toNat v17), iv_rho)) rfl ?_
            exact ih (iv_wr (l2 + 1)) (iv_upd μ18 14 l2.toNat v17) _ _ z16 h
          · rcases iv_iteE h with ⟨c22, h⟩ | ⟨c22, h⟩
            · refine iv_Ret.ifT (t := 72) rfl (decide_eq_true c22) rfl ?_
              refine iv_Ret.stl [73] (ls' := [ivR 11, ivR 5, ivI l2, ivI v4]) (st' := [ivI 0, ivI l2, ivR 14]) (w' := (135, (iv_upd (iv_upd μ10 12 l2.toNat v9) 13 l2.toNat 0), iv_rho)) rfl ?_
              exact hj15 0 (iv_upd (iv_upd μ10 12 l2.toNat v9) 13 l2.toNat 0) _ _ (ivI v4) h
            · refine iv_Ret.ifF (t := 63) rfl (decide_eq_false c22) rfl ?_
              refine iv_Ret.stl [64, 67] (ls' := [ivR 11, ivR 5, ivI l2, ivI v4]) (st' := [ivR 7, ivI l2, ivR 14]) (w' := (135, (iv_upd (iv_upd μ10 12 l2.toNat v9) 13 l2.toNat 0), iv_rho)) rfl ?_
              refine iv_Ret.stl [68] (ls' := [ivR 11, ivR 5, ivI l2, ivI v4]) (st' := [ivI l2, ivR 7, ivI l2, ivR 14]) (w' := (135, (iv_upd (iv_upd μ10 12 l2.toNat v9) 13 l2.toNat 0), iv_rho)) rfl ?_
              obtain ⟨c23, h⟩ := iv_ckE h
              refine iv_Ret.iald (len := 8) rfl rfl rfl c23.1 c23.2 ?_
              show iv_Ret L 18 69 [ivR 11, ivR 5, ivI l2, ivI v4] [ivI ((iv_upd (iv_upd μ10 12 l2.toNat v9) 13 l2.toNat 0) 7 l2.toNat), ivI l2, ivR 14] (ivST (iv_upd (iv_upd μ10 12 l2.toNat v9) 13 l2.toNat 0)) none (ivST μ12)
              refine iv_Ret.stl [73] (ls' := [ivR 11, ivR 5, ivI l2, ivI v4]) (st' := [ivI ((iv_upd (iv_upd μ10 12 l2.toNat v9) 13 l2.toNat 0) 7 l2.toNat), ivI l2, ivR 14]) (w' := (135, (iv_upd (iv_upd μ10 12 l2.toNat v9) 13 l2.toNat 0), iv_rho)) rfl ?_
              exact hj15 ((iv_upd (iv_upd μ10 12 l2.toNat v9) 13 l2.toNat 0) 7 l2.toNat) (iv_upd (iv_upd μ10 12 l2.toNat v9) 13 l2.toNat 0) _ _ (ivI v4) h
        · rcases iv_iteE h with ⟨c24, h⟩ | ⟨c24, h⟩
          · refine iv_Ret.ifT (t := 45) rfl (decide_eq_true c24) rfl ?_
            refine iv_Ret.stl [46] (ls' := [ivR 11, ivR 5, ivI l2, ivI v4]) (st' := [ivI 0, ivI l2, ivR 12]) (w' := (135, μ5, iv_rho)) rfl ?_
            exact hj8 0 μ5 _ _ h
          · refine iv_Ret.ifF (t := 36) rfl (decide_eq_false c24) rfl ?_
            refine iv_Ret.stl [37, 40] (ls' := [ivR 11, ivR 5, ivI l2, ivI v4]) (st' := [ivR 6, ivI l2, ivR 12]) (w' := (135, μ5, iv_rho)) rfl ?_
            refine iv_Ret.stl [41] (ls' := [ivR 11, ivR 5, ivI l2, ivI v4]) (st' := [ivI l2, ivR 6, ivI l2, ivR 12]) (w' := (135, μ5, iv_rho)) rfl ?_
            obtain ⟨c25, h⟩ := iv_ckE h
            refine iv_Ret.iald (len := 8) rfl rfl rfl c25.1 c25.2 ?_
            show iv_Ret L 18 42 [ivR 11, ivR 5, ivI l2, ivI v4] [ivI (μ5 6 l2.toNat), ivI l2, ivR 12] (ivST μ5) none (ivST μ7)
            refine iv_Ret.stl [46] (ls' := [ivR 11, ivR 5, ivI l2, ivI v4]) (st' := [ivI (μ5 6 l2.toNat), ivI l2, ivR 12]) (w' := (135, μ5, iv_rho)) rfl ?_
            exact hj8 (μ5 6 l2.toNat) μ5 _ _ h
      · rcases iv_iteE h with ⟨c26, h⟩ | ⟨c26, h⟩
        · refine iv_Ret.icT (t := 25) rfl (decide_eq_true c26) rfl ?_
          refine iv_Ret.stl [26] (ls' := [ivR 11, ivR 5, ivI l2, d3]) (st' := [ivI 0]) (w' := (135, μ, iv_rho)) rfl ?_
          exact hj2 0 μ _ _ d3 h
        · refine iv_Ret.icF (t := 21) rfl (decide_eq_false c26) rfl ?_
          refine iv_Ret.stl [22, 26] (ls' := [ivR 11, ivR 5, ivI l2, d3]) (st' := [ivI 1]) (w' := (135, μ, iv_rho)) rfl ?_
          exact hj2 1 μ _ _ d3 h
theorem T_X2_begin (L : Nat)   {μ μ' : ivM} {r : Int} (h : f_X2_begin  μ = some (r, μ')) : iv_Ret L 18 0 [ivR 11, ivR 5, ivU, ivU] [] (ivST μ) none (ivST μ') := by
  unfold f_X2_begin at h
  refine iv_Ret.stl [1, 2, 5, 6, 7] (ls' := [ivR 11, ivR 5, ivI 0, ivU]) (st' := []) (w' := (135, (iv_upd μ 11 3 0), iv_rho)) rfl ?_
  exact T_lp_X2_begin_7 L  iv_fuel 0 (iv_upd μ 11 3 0) _ _ ivU h
theorem T_lp_X2_copy_10 (L : Nat) (a : Nat) (b : Nat) (ha : iv_isMem a = true) (hb : iv_isMem b = true)   : ∀ (n : Nat) (l2 : Int) (μ : ivM) (r : Int) (μ' : ivM), lp_X2_copy_10 a b n l2 μ = some (r, μ') → iv_Ret L 19 10 [ivR a, ivR b, ivI l2] [] (ivST μ) none (ivST μ') := by
  intro n
  induction n with
  | zero => intro l2 μ r μ' h; unfold lp_X2_copy_10 at h; cases h
  | succ n ih =>
    intro l2 μ r μ' h
    unfold lp_X2_copy_10 at h
    refine iv_Ret.stl [11, 13] (ls' := [ivR a, ivR b, ivI l2]) (st' := [ivI 8, ivI l2]) (w' := (135, μ, iv_rho)) rfl ?_
    rcases iv_iteE h with ⟨c1, h⟩ | ⟨c1, h⟩
    · refine iv_Ret.icT (t := 58) rfl (decide_eq_true c1) rfl ?_
      obtain ⟨rfl, rfl⟩ := iv_retE h
      exact ⟨1, rfl⟩
    · refine iv_Ret.icF (t := 16) rfl (decide_eq_false c1) rfl ?_
      refine iv_Ret.stl [17] (ls' := [ivR a, ivR b, ivI l2]) (st' := [ivR a]) (w' := (135, μ, iv_rho)) rfl ?_
      refine iv_Ret.getr (y := a + 1) rfl (iv_mm_lay L ha) (iv_mm_n ha) rfl (iv_mm_rho0 ha) ?_
      show iv_Ret L 19 20 [ivR a, ivR b, ivI l2] [ivR (a + 1)] (ivST μ) none (ivST μ')
      refine iv_Ret.stl [21, 22] (ls' := [ivR a, ivR b, ivI l2]) (st' := [ivR b, ivI l2, ivR (a + 1)]) (w' := (135, μ, iv_rho)) rfl ?_
      refine iv_Ret.getr (y := b + 1) rfl (iv_mm_lay L hb) (iv_mm_n hb) rfl (iv_mm_rho0 hb) ?_
      show iv_Ret L 19 25 [ivR a, ivR b, ivI l2] [ivR (b + 1), ivI l2, ivR (a + 1)] (ivST μ) none (ivST μ')
      refine iv_Ret.stl [26] (ls' := [ivR a, ivR b, ivI l2]) (st' := [ivI l2, ivR (b + 1), ivI l2, ivR (a + 1)]) (w' := (135, μ, iv_rho)) rfl ?_
      obtain ⟨c2, h⟩ := iv_ckE h
      refine iv_Ret.iald (len := 8) rfl (iv_mm_arr0 L hb) (iv_mm_n0 hb) c2.1 c2.2 ?_
      show iv_Ret L 19 27 [ivR a, ivR b, ivI l2] [ivI (μ (b + 1) l2.toNat), ivI l2, ivR (a + 1)] (ivST μ) none (ivST μ')
      obtain ⟨c3, h⟩ := iv_ckE h
      refine iv_Ret.iast (len := 8) rfl (iv_mm_20 ha) (iv_mm_arr0 L ha) (iv_mm_n0 ha) c3.1 c3.2 ?_
      show iv_Ret L 19 28 [ivR a, ivR b, ivI l2] [] (ivST (iv_upd μ (a + 1) l2.toNat (μ (b + 1) l2.toNat))) none (ivST μ')
      refine iv_Ret.stl [29] (ls' := [ivR a, ivR b, ivI l2]) (st' := [ivR a]) (w' := (135, (iv_upd μ (a + 1) l2.toNat (μ (b + 1) l2.toNat)), iv_rho)) rfl ?_
      refine iv_Ret.getr (y := a + 2) rfl (iv_mm_lay L ha) (iv_mm_n ha) rfl (iv_mm_rho1 ha) ?_
      show iv_Ret L 19 32 [ivR a, ivR b, ivI l2] [ivR (a + 2)] (ivST (iv_upd μ (a + 1) l2.toNat (μ (b + 1) l2.toNat))) none (ivST μ')
      refine iv_Ret.stl [33, 34] (ls' := [ivR a, ivR b, ivI l2]) (st' := [ivR b, ivI l2, ivR (a + 2)]) (w' := (135, (iv_upd μ (a + 1) l2.toNat (μ (b + 1) l2.toNat)), iv_rho)) rfl ?_
      refine iv_Ret.getr (y := b + 2) rfl (iv_mm_lay L hb) (iv_mm_n hb) rfl (iv_mm_rho1 hb) ?_
      show iv_Ret L 19 37 [ivR a, ivR b, ivI l2] [ivR (b + 2), ivI l2, ivR (a + 2)] (ivST (iv_upd μ (a + 1) l2.toNat (μ (b + 1) l2.toNat))) none (ivST μ')
      refine iv_Ret.stl [38] (ls' := [ivR a, ivR b, ivI l2]) (st' := [ivI l2, ivR (b + 2), ivI l2, ivR (a + 2)]) (w' := (135, (iv_upd μ (a + 1) l2.toNat (μ (b + 1) l2.toNat)), iv_rho)) rfl ?_
      obtain ⟨c4, h⟩ := iv_ckE h
      refine iv_Ret.iald (len := 8) rfl (iv_mm_arr1 L hb) (iv_mm_n1 hb) c4.1 c4.2 ?_
      show iv_Ret L 19 39 [ivR a, ivR b, ivI l2] [ivI ((iv_upd μ (a + 1) l2.toNat (μ (b + 1) l2.toNat)) (b + 2) l2.toNat), ivI l2, ivR (a + 2)] (ivST (iv_upd μ (a + 1) l2.toNat (μ (b + 1) l2.toNat))) none (ivST μ')
      obtain ⟨c5, h⟩ := iv_ckE h
      refine iv_Ret.iast (len := 8) rfl (iv_mm_21 ha) (iv_mm_arr1 L ha) (iv_mm_n1 ha) c5.1 c5.2 ?_
      show iv_Ret L 19 40 [ivR a, ivR b, ivI l2] [] (ivST (iv_upd (iv_upd μ (a + 1) l2.toNat (μ (b + 1) l2.toNat)) (a + 2) l2.toNat ((iv_upd μ (a + 1) l2.toNat (μ (b + 1) l2.toNat)) (b + 2) l2.toNat))) none (ivST μ')
      refine iv_Ret.stl [41] (ls' := [ivR a, ivR b, ivI l2]) (st' := [ivR a]) (w' := (135, (iv_upd (iv_upd μ (a + 1) l2.toNat (μ (b + 1) l2.toNat)) (a + 2) l2.toNat ((iv_upd μ (a + 1) l2.toNat (μ (b + 1) l2.toNat)) (b + 2) l2.toNat)), iv_rho)) rfl ?_
      refine iv_Ret.getr (y := a + 3) rfl (iv_mm_lay L ha) (iv_mm_n ha) rfl (iv_mm_rho2 ha) ?_
      show iv_Ret L 19 44 [ivR a, ivR b, ivI l2] [ivR (a + 3)] (ivST (iv_upd (iv_upd μ (a + 1) l2.toNat (μ (b + 1) l2.toNat)) (a + 2) l2.toNat ((iv_upd μ (a + 1) l2.toNat (μ (b + 1) l2.toNat)) (b + 2) l2.toNat))) none (ivST μ')
      refine iv_Ret.stl [45, 46] (ls' := [ivR a, ivR b, ivI l2]) (st' := [ivR b, ivI l2, ivR (a + 3)]) (w' := (135, (iv_upd (iv_upd μ (a + 1) l2.toNat (μ (b + 1) l2.toNat)) (a + 2) l2.toNat ((iv_upd μ (a + 1) l2.toNat (μ (b + 1) l2.toNat)) (b + 2) l2.toNat)), iv_rho)) rfl ?_
      refine iv_Ret.getr (y := b + 3) rfl (iv_mm_lay L hb) (iv_mm_n hb) rfl (iv_mm_rho2 hb) ?_
      show iv_Ret L 19 49 [ivR a, ivR b, ivI l2] [ivR (b + 3), ivI l2, ivR (a + 3)] (ivST (iv_upd (iv_upd μ (a + 1) l2.toNat (μ (b + 1) l2.toNat)) (a + 2) l2.toNat ((iv_upd μ (a + 1) l2.toNat (μ (b + 1) l2.toNat)) (b + 2) l2.toNat))) none (ivST μ')
      refine iv_Ret.stl [50] (ls' := [ivR a, ivR b, ivI l2]) (st' := [ivI l2, ivR (b + 3), ivI l2, ivR (a + 3)]) (w' := (135, (iv_upd (iv_upd μ (a + 1) l2.toNat (μ (b + 1) l2.toNat)) (a + 2) l2.toNat ((iv_upd μ (a + 1) l2.toNat (μ (b + 1) l2.toNat)) (b + 2) l2.toNat)), iv_rho)) rfl ?_
      obtain ⟨c6, h⟩ := iv_ckE h
      refine iv_Ret.iald (len := 8) rfl (iv_mm_arr2 L hb) (iv_mm_n2 hb) c6.1 c6.2 ?_
      show iv_Ret L 19 51 [ivR a, ivR b, ivI l2] [ivI ((iv_upd (iv_upd μ (a + 1) l2.toNat (μ (b + 1) l2.toNat)) (a + 2) l2.toNat ((iv_upd μ (a + 1) l2.toNat (μ (b + 1) l2.toNat)) (b + 2) l2.toNat)) (b + 3) l2.toNat), ivI l2, ivR (a + 3)] (ivST (iv_upd (iv_upd μ (a + 1) l2.toNat (μ (b + 1) l2.toNat)) (a + 2) l2.toNat ((iv_upd μ (a + 1) l2.toNat (μ (b + 1) l2.toNat)) (b + 2) l2.toNat))) none (ivST μ')
      obtain ⟨c7, h⟩ := iv_ckE h
      refine iv_Ret.iast (len := 8) rfl (iv_mm_22 ha) (iv_mm_arr2 L ha) (iv_mm_n2 ha) c7.1 c7.2 ?_
      show iv_Ret L 19 52 [ivR a, ivR b, ivI l2] [] (ivST (iv_upd (iv_upd (iv_upd μ (a + 1) l2.toNat (μ (b + 1) l2.toNat)) (a + 2) l2.toNat ((iv_upd μ (a + 1) l2.toNat (μ (b + 1) l2.toNat)) (b + 2) l2.toNat)) (a + 3) l2.toNat ((iv_upd (iv_upd μ (a + 1) l2.toNat (μ (b + 1) l2.toNat)) (a + 2) l2.toNat ((iv_upd μ (a + 1) l2.toNat (μ (b + 1) l2.toNat)) (b + 2) l2.toNat)) (b + 3) l2.toNat))) none (ivST μ')
      refine iv_Ret.stl [55, 10] (ls' := [ivR a, ivR b, ivI (iv_wr (l2 + 1))]) (st' := []) (w' := (135, (iv_upd (iv_upd (iv_upd μ (a + 1) l2.toNat (μ (b + 1) l2.toNat)) (a + 2) l2.toNat ((iv_upd μ (a + 1) l2.toNat (μ (b + 1) l2.toNat)) (b + 2) l2.toNat)) (a + 3) l2.toNat ((iv_upd (iv_upd μ (a + 1) l2.toNat (μ (b + 1) l2.toNat)) (a + 2) l2.toNat ((iv_upd μ (a + 1) l2.toNat (μ (b + 1) l2.toNat)) (b + 2) l2.toNat)) (b + 3) l2.toNat)), iv_rho)) rfl ?_
      exact ih (iv_wr (l2 + 1)) (iv_upd (iv_upd (iv_upd μ (a + 1) l2.toNat (μ (b + 1) l2.toNat)) (a + 2) l2.toNat ((iv_upd μ (a + 1) l2.toNat (μ (b + 1) l2.toNat)) (b + 2) l2.toNat)) (a + 3) l2.toNat ((iv_upd (iv_upd μ (a + 1) l2.toNat (μ (b + 1) l2.toNat)) (a + 2) l2.toNat ((iv_upd μ (a + 1) l2.toNat (μ (b + 1) l2.toNat)) (b + 2) l2.toNat)) (b + 3) l2.toNat)) _ _ h
theorem T_X2_copy (L : Nat) (a : Nat) (b : Nat) (ha : iv_isMem a = true) (hb : iv_isMem b = true) {μ μ' : ivM} {r : Int} (h : f_X2_copy a b μ = some (r, μ')) : iv_Ret L 19 0 [ivR a, ivR b, ivU] [] (ivST μ) none (ivST μ') := by
  unfold f_X2_copy at h
  refine iv_Ret.stl [1, 2] (ls' := [ivR a, ivR b, ivU]) (st' := [ivR b, ivR a]) (w' := (135, μ, iv_rho)) rfl ?_
  refine iv_Ret.geti rfl (iv_mm_lay L hb) (iv_mm_n hb) rfl ?_
  show iv_Ret L 19 5 [ivR a, ivR b, ivU] [ivI (μ b 3), ivR a] (ivST μ) none (ivST μ')
  refine iv_Ret.puti rfl (iv_mm_lay L ha) (iv_mm_n ha) rfl ?_
  show iv_Ret L 19 8 [ivR a, ivR b, ivU] [] (ivST (iv_upd μ a 3 (μ b 3))) none (ivST μ')
  refine iv_Ret.stl [9, 10] (ls' := [ivR a, ivR b, ivI 0]) (st' := []) (w' := (135, (iv_upd μ a 3 (μ b 3)), iv_rho)) rfl ?_
  exact T_lp_X2_copy_10 L a b ha hb iv_fuel 0 (iv_upd μ a 3 (μ b 3)) _ _ h
theorem T_X2_isLive (L : Nat) (p1 : Int)  {μ μ' : ivM} {r : Int} (h : f_X2_isLive p1 μ = some (r, μ')) : iv_Ret L 20 0 [ivR 11, ivI p1] [] (ivST μ) (some (ivI r)) (ivST μ') := by
  unfold f_X2_isLive at h
  refine iv_Ret.stl [1] (ls' := [ivR 11, ivI p1]) (st' := [ivI p1]) (w' := (135, μ, iv_rho)) rfl ?_
  refine iv_letE (fun j1 => ∀ (v4 : Int) (μ5 : ivM) (r6 : Int) (μ7 : ivM) (z2 : ivV) (z3 : ivV), j1 v4 μ5 = some (r6, μ7) → iv_Ret L 20 40 [z2, z3] [ivI v4] (ivST μ5) (some (ivI r6)) (ivST μ7)) h (fun v4 μ5 r6 μ7 z2 z3 h => ?_) (fun j1 hj1 h => ?_)
  · obtain ⟨c8, h⟩ := iv_ckE h
    obtain ⟨rfl, rfl⟩ := iv_retE h
    exact iv_Ret.zret rfl c8
  · refine iv_letE (fun j9 => ∀ (μ12 : ivM) (r13 : Int) (μ14 : ivM) (z10 : ivV) (z11 : ivV), j9 μ12 = some (r13, μ14) → iv_Ret L 20 39 [z10, z11] [] (ivST μ12) (some (ivI r13)) (ivST μ14)) h (fun μ12 r13 μ14 z10 z11 h => ?_) (fun j9 hj9 h => ?_)
    · refine iv_Ret.stl [40] (ls' := [z10, z11]) (st' := [ivI 0]) (w' := (135, μ12, iv_rho)) rfl ?_
      exact hj1 0 μ12 _ _ z10 z11 h
    · rcases iv_iteE h with ⟨c15, h⟩ | ⟨c15, h⟩
      · refine iv_Ret.ifT (t := 39) rfl (decide_eq_true c15) rfl ?_
        exact hj9 μ _ _ (ivR 11) (ivI p1) h
      · refine iv_Ret.ifF (t := 4) rfl (decide_eq_false c15) rfl ?_
        refine iv_Ret.stl [5, 7] (ls' := [ivR 11, ivI p1]) (st' := [ivI 8, ivI p1]) (w' := (135, μ, iv_rho)) rfl ?_
        rcases iv_iteE h with ⟨c16, h⟩ | ⟨c16, h⟩
        · refine iv_Ret.icT (t := 39) rfl (decide_eq_true c16) rfl ?_
          exact hj9 μ _ _ (ivR 11) (ivI p1) h
        · refine iv_Ret.icF (t := 10) rfl (decide_eq_false c16) rfl ?_
          refine iv_Ret.stl [11, 14] (ls' := [ivR 11, ivI p1]) (st' := [ivR 12]) (w' := (135, μ, iv_rho)) rfl ?_
          refine iv_Ret.stl [15] (ls' := [ivR 11, ivI p1]) (st' := [ivI p1, ivR 12]) (w' := (135, μ, iv_rho)) rfl ?_
          obtain ⟨c17, h⟩ := iv_ckE h
          refine iv_Ret.iald (len := 8) rfl rfl rfl c17.1 c17.2 ?_
          show iv_Ret L 20 16 [ivR 11, ivI p1] [ivI (μ 12 p1.toNat)] (ivST μ) (some (ivI r)) (ivST μ')
          rcases iv_iteE h with ⟨c18, h⟩ | ⟨c18, h⟩
          · refine iv_Ret.ifT (t := 39) rfl (decide_eq_true c18) rfl ?_
            exact hj9 μ _ _ (ivR 11) (ivI p1) h
          · refine iv_Ret.ifF (t := 19) rfl (decide_eq_false c18) rfl ?_
            refine iv_Ret.stl [20, 23, 24, 27] (ls' := [ivR 11, ivI p1]) (st' := [ivR 13, ivI (μ 11 3)]) (w' := (135, μ, iv_rho)) rfl ?_
            refine iv_Ret.stl [28] (ls' := [ivR 11, ivI p1]) (st' := [ivI p1, ivR 13, ivI (μ 11 3)]) (w' := (135, μ, iv_rho)) rfl ?_
            obtain ⟨c19, h⟩ := iv_ckE h
            refine iv_Ret.iald (len := 8) rfl rfl rfl c19.1 c19.2 ?_
            show iv_Ret L 20 29 [ivR 11, ivI p1] [ivI (μ 13 p1.toNat), ivI (μ 11 3)] (ivST μ) (some (ivI r)) (ivST μ')
            refine iv_Ret.stl [30, 32] (ls' := [ivR 11, ivI p1]) (st' := [ivI 9, ivI (iv_wr ((μ 11 3) - (μ 13 p1.toNat)))]) (w' := (135, μ, iv_rho)) rfl ?_
            rcases iv_iteE h with ⟨c20, h⟩ | ⟨c20, h⟩
            · refine iv_Ret.icT (t := 39) rfl (decide_eq_true c20) rfl ?_
              exact hj9 μ _ _ (ivR 11) (ivI p1) h
            · refine iv_Ret.icF (t := 35) rfl (decide_eq_false c20) rfl ?_
              refine iv_Ret.stl [36, 40] (ls' := [ivR 11, ivI p1]) (st' := [ivI 1]) (w' := (135, μ, iv_rho)) rfl ?_
              exact hj1 1 μ _ _ (ivR 11) (ivI p1) h
theorem T_lp_X2_liveOnes_4 (L : Nat)     : ∀ (n : Nat) (l1 : Int) (l2 : Int) (μ : ivM) (r : Int) (μ' : ivM), lp_X2_liveOnes_4  n l1 l2 μ = some (r, μ') → iv_Ret L 21 4 [ivR 11, ivI l1, ivI l2] [] (ivST μ) (some (ivI r)) (ivST μ') := by
  intro n
  induction n with
  | zero => intro l1 l2 μ r μ' h; unfold lp_X2_liveOnes_4 at h; cases h
  | succ n ih =>
    intro l1 l2 μ r μ' h
    unfold lp_X2_liveOnes_4 at h
    refine iv_Ret.stl [5, 7] (ls' := [ivR 11, ivI l1, ivI l2]) (st' := [ivI 8, ivI l2]) (w' := (135, μ, iv_rho)) rfl ?_
    rcases iv_iteE h with ⟨c1, h⟩ | ⟨c1, h⟩
    · refine iv_Ret.icT (t := 30) rfl (decide_eq_true c1) rfl ?_
      refine iv_Ret.stl [31] (ls' := [ivR 11, ivI l1, ivI l2]) (st' := [ivI l1]) (w' := (135, μ, iv_rho)) rfl ?_
      obtain ⟨rfl, rfl⟩ := iv_retE h
      exact ⟨1, rfl⟩
    · refine iv_Ret.icF (t := 10) rfl (decide_eq_false c1) rfl ?_
      refine iv_Ret.stl [11, 12] (ls' := [ivR 11, ivI l1, ivI l2]) (st' := [ivI l2, ivR 11]) (w' := (135, μ, iv_rho)) rfl ?_
      obtain ⟨r2, μ3, e4, h⟩ := iv_bndE h
      refine iv_Ret.callv rfl rfl rfl (T_X2_isLive L l2 e4) ?_
      show iv_Ret L 21 15 [ivR 11, ivI l1, ivI l2] [ivI r2] (ivST μ3) (some (ivI r)) (ivST μ')
      refine iv_letE (fun j5 => ∀ (w6 : Int) (μ7 : ivM) (r8 : Int) (μ9 : ivM), j5 w6 μ7 = some (r8, μ9) → iv_Ret L 21 24 [ivR 11, ivI w6, ivI l2] [] (ivST μ7) (some (ivI r8)) (ivST μ9)) h (fun w6 μ7 r8 μ9 h => ?_) (fun j5 hj5 h => ?_)
      · refine iv_Ret.stl [27, 4] (ls' := [ivR 11, ivI w6, ivI (iv_wr (l2 + 1))]) (st' := []) (w' := (135, μ7, iv_rho)) rfl ?_
        exact ih w6 (iv_wr (l2 + 1)) μ7 _ _ h
      · rcases iv_iteE h with ⟨c10, h⟩ | ⟨c10, h⟩
        · refine iv_Ret.ifT (t := 24) rfl (decide_eq_true c10) rfl ?_
          exact hj5 l1 μ3 _ _ h
        · refine iv_Ret.ifF (t := 18) rfl (decide_eq_false c10) rfl ?_
          refine iv_Ret.stl [19, 20, 21, 22, 23, 24] (ls' := [ivR 11, ivI (iv_or l1 (iv_shl 1 l2)), ivI l2]) (st' := []) (w' := (135, μ3, iv_rho)) rfl ?_
          exact hj5 (iv_or l1 (iv_shl 1 l2)) μ3 _ _ h
theorem T_X2_liveOnes (L : Nat)   {μ μ' : ivM} {r : Int} (h : f_X2_liveOnes  μ = some (r, μ')) : iv_Ret L 21 0 [ivR 11, ivU, ivU] [] (ivST μ) (some (ivI r)) (ivST μ') := by
  unfold f_X2_liveOnes at h
  refine iv_Ret.stl [1, 2, 3, 4] (ls' := [ivR 11, ivI 0, ivI 0]) (st' := []) (w' := (135, μ, iv_rho)) rfl ?_
  exact T_lp_X2_liveOnes_4 L  iv_fuel 0 0 μ _ _ h
theorem T_lp_X2_pass_27 (L : Nat) (l3 : Int)    : ∀ (n : Nat) (l4 : Int) (μ : ivM) (r : Int) (μ' : ivM) (d1 : ivV) (d2 : ivV), lp_X2_pass_27 l3 n l4 μ = some (r, μ') → iv_Ret L 22 27 [ivR 11, d1, d2, ivI l3, ivI l4] [] (ivST μ) (some (ivI r)) (ivST μ') := by
  intro n
  induction n with
  | zero => intro l4 μ r μ' d1 d2 h; unfold lp_X2_pass_27 at h; cases h
  | succ n ih =>
    intro l4 μ r μ' d1 d2 h
    unfold lp_X2_pass_27 at h
    refine iv_Ret.stl [29, 31] (ls' := [ivR 11, d1, d2, ivI l3, ivI l4]) (st' := [ivI 8, ivI l4]) (w' := (135, μ, iv_rho)) rfl ?_
    rcases iv_iteE h with ⟨c7, h⟩ | ⟨c7, h⟩
    · refine iv_Ret.icT (t := 57) rfl (decide_eq_true c7) rfl ?_
      refine iv_Ret.stl [58] (ls' := [ivR 11, d1, d2, ivI l3, ivI l4]) (st' := [ivI l3]) (w' := (135, μ, iv_rho)) rfl ?_
      obtain ⟨rfl, rfl⟩ := iv_retE h
      exact ⟨1, rfl⟩
    · refine iv_Ret.icF (t := 34) rfl (decide_eq_false c7) rfl ?_
      refine iv_Ret.stl [35, 37] (ls' := [ivR 11, d1, d2, ivI l3, ivI l4]) (st' := [ivI l4, ivI l3]) (w' := (135, μ, iv_rho)) rfl ?_
      obtain ⟨r8, μ9, e10, h⟩ := iv_bndE h
      refine iv_Ret.calls rfl rfl (T_X9_has L l3 l4 e10) ?_
      show iv_Ret L 22 40 [ivR 11, d1, d2, ivI l3, ivI l4] [ivI r8] (ivST μ9) (some (ivI r)) (ivST μ')
      refine iv_letE (fun j11 => ∀ (μ14 : ivM) (r15 : Int) (μ16 : ivM) (z12 : ivV) (z13 : ivV), j11 μ14 = some (r15, μ16) → iv_Ret L 22 51 [ivR 11, z12, z13, ivI l3, ivI l4] [] (ivST μ14) (some (ivI r15)) (ivST μ16)) h (fun μ14 r15 μ16 z12 z13 h => ?_) (fun j11 hj11 h => ?_)
      · refine iv_Ret.stl [54, 27] (ls' := [ivR 11, z12, z13, ivI l3, ivI (iv_wr (l4 + 1))]) (st' := []) (w' := (135, μ14, iv_rho)) rfl ?_
        exact ih (iv_wr (l4 + 1)) μ14 _ _ z12 z13 h
      · rcases iv_iteE h with ⟨c17, h⟩ | ⟨c17, h⟩
        · refine iv_Ret.ifT (t := 51) rfl (decide_eq_true c17) rfl ?_
          exact hj11 μ9 _ _ d1 d2 h
        · refine iv_Ret.ifF (t := 43) rfl (decide_eq_false c17) rfl ?_
          refine iv_Ret.stl [44, 47] (ls' := [ivR 11, d1, d2, ivI l3, ivI l4]) (st' := [ivR 14]) (w' := (135, μ9, iv_rho)) rfl ?_
          refine iv_Ret.stl [49, 50] (ls' := [ivR 11, d1, d2, ivI l3, ivI l4]) (st' := [ivI 0, ivI l4, ivR 14]) (w' := (135, μ9, iv_rho)) rfl ?_
          obtain ⟨c18, h⟩ := iv_ckE h
          refine iv_Ret.iast (len := 8) rfl rfl rfl rfl c18.1 c18.2 ?_
          show iv_Ret L 22 51 [ivR 11, d1, d2, ivI l3, ivI l4] [] (ivST (iv_upd μ9 14 l4.toNat 0)) (some (ivI r)) (ivST μ')
          exact hj11 (iv_upd μ9 14 l4.toNat 0) _ _ d1 d2 h
theorem T_X2_pass (L : Nat) (p1 : Int)  {μ μ' : ivM} {r : Int} (h : f_X2_pass p1 μ = some (r, μ')) : iv_Ret L 22 0 [ivR 11, ivI p1, ivU, ivU, ivU] [] (ivST μ) (some (ivI r)) (ivST μ') := by
  unfold f_X2_pass at h
  refine iv_Ret.stl [1] (ls' := [ivR 11, ivI p1, ivU, ivU, ivU]) (st' := [ivR 11]) (w' := (135, μ, iv_rho)) rfl ?_
  obtain ⟨r1, μ2, e3, h⟩ := iv_bndE h
  refine iv_Ret.callv rfl rfl rfl (T_X2_liveOnes L  e3) ?_
  show iv_Ret L 22 4 [ivR 11, ivI p1, ivU, ivU, ivU] [ivI r1] (ivST μ2) (some (ivI r)) (ivST μ')
  refine iv_Ret.stl [5, 6, 7, 10, 11, 12, 15, 16, 17] (ls' := [ivR 11, ivI p1, ivI r1, ivU, ivU]) (st' := [ivR 11, ivI r1]) (w' := (135, (iv_upd μ2 11 3 (iv_wr ((μ2 11 3) + p1))), iv_rho)) rfl ?_
  obtain ⟨r4, μ5, e6, h⟩ := iv_bndE h
  refine iv_Ret.callv rfl rfl rfl (T_X2_liveOnes L  e6) ?_
  show iv_Ret L 22 20 [ivR 11, ivI p1, ivI r1, ivU, ivU] [ivI r4, ivI r1] (ivST μ5) (some (ivI r)) (ivST μ')
  refine iv_Ret.stl [21, 22, 23, 24, 25, 27] (ls' := [ivR 11, ivI p1, ivI r1, ivI (iv_and r1 (iv_xor r4 (-1))), ivI 0]) (st' := []) (w' := (135, μ5, iv_rho)) rfl ?_
  exact T_lp_X2_pass_27 L (iv_and r1 (iv_xor r4 (-1))) iv_fuel 0 μ5 _ _ (ivI p1) (ivI r1) h
theorem T_lp_X2_sayingsFor_5 (L : Nat) (l1 : Int) (l2 : Int)    : ∀ (n : Nat) (l3 : Int) (l4 : Int) (μ : ivM) (r : Int) (μ' : ivM) (d5 : ivV), lp_X2_sayingsFor_5 l1 l2 n l3 l4 μ = some (r, μ') → iv_Ret L 23 5 [ivR 11, ivI l1, ivI l2, ivI l3, ivI l4, d5] [] (ivST μ) (some (ivI r)) (ivST μ') := by
  intro n
  induction n with
  | zero => intro l3 l4 μ r μ' d5 h; unfold lp_X2_sayingsFor_5 at h; cases h
  | succ n ih =>
    intro l3 l4 μ r μ' d5 h
    unfold lp_X2_sayingsFor_5 at h
    refine iv_Ret.stl [7, 9] (ls' := [ivR 11, ivI l1, ivI l2, ivI l3, ivI l4, d5]) (st' := [ivI 8, ivI l4]) (w' := (135, μ, iv_rho)) rfl ?_
    rcases iv_iteE h with ⟨c1, h⟩ | ⟨c1, h⟩
    · refine iv_Ret.icT (t := 64) rfl (decide_eq_true c1) rfl ?_
      refine iv_Ret.stl [65] (ls' := [ivR 11, ivI l1, ivI l2, ivI l3, ivI l4, d5]) (st' := [ivI l3]) (w' := (135, μ, iv_rho)) rfl ?_
      obtain ⟨rfl, rfl⟩ := iv_retE h
      exact ⟨1, rfl⟩
    · refine iv_Ret.icF (t := 12) rfl (decide_eq_false c1) rfl ?_
      refine iv_Ret.stl [13, 16, 17, 18, 19, 22] (ls' := [ivR 11, ivI l1, ivI l2, ivI l3, ivI l4, d5]) (st' := [ivR 13, ivI (iv_wr ((μ 11 3) + l2))]) (w' := (135, μ, iv_rho)) rfl ?_
      refine iv_Ret.stl [24] (ls' := [ivR 11, ivI l1, ivI l2, ivI l3, ivI l4, d5]) (st' := [ivI l4, ivR 13, ivI (iv_wr ((μ 11 3) + l2))]) (w' := (135, μ, iv_rho)) rfl ?_
      obtain ⟨c2, h⟩ := iv_ckE h
      refine iv_Ret.iald (len := 8) rfl rfl rfl c2.1 c2.2 ?_
      show iv_Ret L 23 25 [ivR 11, ivI l1, ivI l2, ivI l3, ivI l4, d5] [ivI (μ 13 l4.toNat), ivI (iv_wr ((μ 11 3) + l2))] (ivST μ) (some (ivI r)) (ivST μ')
      refine iv_Ret.stl [26, 28, 29, 31, 32, 34] (ls' := [ivR 11, ivI l1, ivI l2, ivI l3, ivI l4, ivI (iv_wr ((iv_wr ((iv_wr ((μ 11 3) + l2)) - (μ 13 l4.toNat))) - 9))]) (st' := [ivI l4, ivI l1]) (w' := (135, μ, iv_rho)) rfl ?_
      obtain ⟨r3, μ4, e5, h⟩ := iv_bndE h
      refine iv_Ret.calls rfl rfl (T_X9_has L l1 l4 e5) ?_
      show iv_Ret L 23 37 [ivR 11, ivI l1, ivI l2, ivI l3, ivI l4, ivI (iv_wr ((iv_wr ((iv_wr ((μ 11 3) + l2)) - (μ 13 l4.toNat))) - 9))] [ivI r3] (ivST μ4) (some (ivI r)) (ivST μ')
      refine iv_letE (fun j6 => ∀ (w7 : Int) (μ9 : ivM) (r10 : Int) (μ11 : ivM) (z8 : ivV), j6 w7 μ9 = some (r10, μ11) → iv_Ret L 23 58 [ivR 11, ivI l1, ivI l2, ivI w7, ivI l4, z8] [] (ivST μ9) (some (ivI r10)) (ivST μ11)) h (fun w7 μ9 r10 μ11 z8 h => ?_) (fun j6 hj6 h => ?_)
      · refine iv_Ret.stl [61, 5] (ls' := [ivR 11, ivI l1, ivI l2, ivI w7, ivI (iv_wr (l4 + 1)), z8]) (st' := []) (w' := (135, μ9, iv_rho)) rfl ?_
        exact ih w7 (iv_wr (l4 + 1)) μ9 _ _ z8 h
      · rcases iv_iteE h with ⟨c12, h⟩ | ⟨c12, h⟩
        · refine iv_Ret.ifT (t := 58) rfl (decide_eq_true c12) rfl ?_
          exact hj6 l3 μ4 _ _ (ivI (iv_wr ((iv_wr ((iv_wr ((μ 11 3) + l2)) - (μ 13 l4.toNat))) - 9))) h
        · refine iv_Ret.ifF (t := 40) rfl (decide_eq_false c12) rfl ?_
          refine iv_Ret.stl [42] (ls' := [ivR 11, ivI l1, ivI l2, ivI l3, ivI l4, ivI (iv_wr ((iv_wr ((iv_wr ((μ 11 3) + l2)) - (μ 13 l4.toNat))) - 9))]) (st' := [ivI (iv_wr ((iv_wr ((iv_wr ((μ 11 3) + l2)) - (μ 13 l4.toNat))) - 9))]) (w' := (135, μ4, iv_rho)) rfl ?_
          rcases iv_iteE h with ⟨c13, h⟩ | ⟨c13, h⟩
          · refine iv_Ret.ifT (t := 58) rfl (decide_eq_true c13) rfl ?_
            exact hj6 l3 μ4 _ _ (ivI (iv_wr ((iv_wr ((iv_wr ((μ 11 3) + l2)) - (μ 13 l4.toNat))) - 9))) h
          · refine iv_Ret.ifF (t := 45) rfl (decide_eq_false c13) rfl ?_
            refine iv_Ret.stl [46, 48, 50, 51, 52, 53, 55, 56, 57, 58] (ls' := [ivR 11, ivI l1, ivI l2, ivI (iv_wr (l3 + (iv_div (iv_wr ((iv_wr ((iv_wr ((iv_wr ((iv_wr ((μ 11 3) + l2)) - (μ 13 l4.toNat))) - 9)) + 9)) - 1)) 9))), ivI l4, ivI (iv_wr ((iv_wr ((iv_wr ((μ 11 3) + l2)) - (μ 13 l4.toNat))) - 9))]) (st' := []) (w' := (135, μ4, iv_rho)) rfl ?_
            exact hj6 (iv_wr (l3 + (iv_div (iv_wr ((iv_wr ((iv_wr ((iv_wr ((iv_wr ((μ 11 3) + l2)) - (μ 13 l4.toNat))) - 9)) + 9)) - 1)) 9))) μ4 _ _ (ivI (iv_wr ((iv_wr ((iv_wr ((μ 11 3) + l2)) - (μ 13 l4.toNat))) - 9))) h
theorem T_X2_sayingsFor (L : Nat) (p1 : Int) (p2 : Int)  {μ μ' : ivM} {r : Int} (h : f_X2_sayingsFor p1 p2 μ = some (r, μ')) : iv_Ret L 23 0 [ivR 11, ivI p1, ivI p2, ivU, ivU, ivU] [] (ivST μ) (some (ivI r)) (ivST μ') := by
  unfold f_X2_sayingsFor at h
  refine iv_Ret.stl [1, 2, 3, 5] (ls' := [ivR 11, ivI p1, ivI p2, ivI 0, ivI 0, ivU]) (st' := []) (w' := (135, μ, iv_rho)) rfl ?_
  exact T_lp_X2_sayingsFor_5 L p1 p2 iv_fuel 0 0 μ _ _ ivU h
theorem T_X3_soundAt (L : Nat) (p0 : Int) (p1 : Int)  {μ μ' : ivM} {r : Int} (h : f_X3_soundAt p0 p1 μ = some (r, μ')) : iv_Ret L 24 0 [ivI p0, ivI p1, ivU] [] (ivST μ) (some (ivI r)) (ivST μ') := by
  unfold f_X3_soundAt at h
  refine iv_Ret.stl [1] (ls' := [ivI p0, ivI p1, ivU]) (st' := [ivI p1]) (w' := (135, μ, iv_rho)) rfl ?_
  refine iv_letE (fun j1 => ∀ (μ5 : ivM) (r6 : Int) (μ7 : ivM) (z2 : ivV) (z3 : ivV) (z4 : ivV), j1 μ5 = some (r6, μ7) → iv_Ret L 24 9 [z2, z3, z4] [] (ivST μ5) (some (ivI r6)) (ivST μ7)) h (fun μ5 r6 μ7 z2 z3 z4 h => ?_) (fun j1 hj1 h => ?_)
  · refine iv_Ret.stl [11] (ls' := [z2, z3, z4]) (st' := [ivI (-9)]) (w' := (135, μ5, iv_rho)) rfl ?_
    obtain ⟨rfl, rfl⟩ := iv_retE h
    exact ⟨1, rfl⟩
  · rcases iv_iteE h with ⟨c8, h⟩ | ⟨c8, h⟩
    · refine iv_Ret.ifT (t := 9) rfl (decide_eq_true c8) rfl ?_
      exact hj1 μ _ _ (ivI p0) (ivI p1) ivU h
    · refine iv_Ret.ifF (t := 4) rfl (decide_eq_false c8) rfl ?_
      refine iv_Ret.stl [5, 6] (ls' := [ivI p0, ivI p1, ivU]) (st' := [ivI 5, ivI p1]) (w' := (135, μ, iv_rho)) rfl ?_
      rcases iv_iteE h with ⟨c9, h⟩ | ⟨c9, h⟩
      · refine iv_Ret.icT (t := 12) rfl (decide_eq_true c9) rfl ?_
        refine iv_Ret.stl [13, 14, 15, 16, 17, 19, 20, 21, 22] (ls' := [ivI p0, ivI p1, ivI (iv_and (iv_shr p0 (iv_wr (3 * p1))) 7)]) (st' := [ivI (iv_and (iv_shr p0 (iv_wr (3 * p1))) 7)]) (w' := (135, μ, iv_rho)) rfl ?_
        refine iv_letE (fun j10 => ∀ (v14 : Int) (μ15 : ivM) (r16 : Int) (μ17 : ivM) (z11 : ivV) (z12 : ivV) (z13 : ivV), j10 v14 μ15 = some (r16, μ17) → iv_Ret L 24 33 [z11, z12, z13] [ivI v14] (ivST μ15) (some (ivI r16)) (ivST μ17)) h (fun v14 μ15 r16 μ17 z11 z12 z13 h => ?_) (fun j10 hj10 h => ?_)
        · obtain ⟨rfl, rfl⟩ := iv_retE h
          exact ⟨1, rfl⟩
        · rcases iv_iteE h with ⟨c18, h⟩ | ⟨c18, h⟩
          · refine iv_Ret.ifF (t := 25) rfl (decide_eq_false (not_not_intro c18)) rfl ?_
            refine iv_Ret.stl [27, 33] (ls' := [ivI p0, ivI p1, ivI (iv_and (iv_shr p0 (iv_wr (3 * p1))) 7)]) (st' := [ivI (-9)]) (w' := (135, μ, iv_rho)) rfl ?_
            exact hj10 (-9) μ _ _ (ivI p0) (ivI p1) (ivI (iv_and (iv_shr p0 (iv_wr (3 * p1))) 7)) h
          · refine iv_Ret.ifT (t := 30) rfl (decide_eq_true c18) rfl ?_
            refine iv_Ret.stl [31, 32, 33] (ls' := [ivI p0, ivI p1, ivI (iv_and (iv_shr p0 (iv_wr (3 * p1))) 7)]) (st' := [ivI (iv_wr ((iv_and (iv_shr p0 (iv_wr (3 * p1))) 7) - 1))]) (w' := (135, μ, iv_rho)) rfl ?_
            exact hj10 (iv_wr ((iv_and (iv_shr p0 (iv_wr (3 * p1))) 7) - 1)) μ _ _ (ivI p0) (ivI p1) (ivI (iv_and (iv_shr p0 (iv_wr (3 * p1))) 7)) h
      · refine iv_Ret.icF (t := 9) rfl (decide_eq_false c9) rfl ?_
        exact hj1 μ _ _ (ivI p0) (ivI p1) ivU h
