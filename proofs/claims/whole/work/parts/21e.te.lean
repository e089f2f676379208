theorem T_X9_again (L : Nat) (p1 : Int)  {μ μ' : ivM} {r : Int} (h : f_X9_again p1 μ = some (r, μ')) : iv_Ret L 96 0 [ivR 2, ivI p1, ivU] [] (ivST μ) (some (ivI r)) (ivST μ') := by
  unfold f_X9_again at h
  refine iv_Ret.stl [1, 2] (ls' := [ivR 2, ivI p1, ivU]) (st' := [ivI p1, ivR 2]) (w' := (135, μ, iv_rho)) rfl ?_
  obtain ⟨r1, μ2, e3, h⟩ := iv_bndE h
  refine iv_Ret.callv rfl rfl rfl (T_X9_slotAt L p1 e3) ?_
  show iv_Ret L 96 5 [ivR 2, ivI p1, ivU] [ivR (r1.toNat)] (ivST μ2) (some (ivI r)) (ivST μ')
  refine iv_Ret.stl [6, 7] (ls' := [ivR 2, ivI p1, ivR (r1.toNat)]) (st' := [ivR (r1.toNat)]) (w' := (135, μ2, iv_rho)) rfl ?_
  rcases iv_iteE h with ⟨c4, h⟩ | ⟨c4, h⟩
  · refine iv_Ret.nnF (t := 10) rfl c4 rfl ?_
    refine iv_Ret.stl [11] (ls' := [ivR 2, ivI p1, ivR (r1.toNat)]) (st' := [ivI (-1)]) (w' := (135, μ2, iv_rho)) rfl ?_
    obtain ⟨rfl, rfl⟩ := iv_retE h
    exact ⟨1, rfl⟩
  · obtain ⟨c5, h⟩ := iv_ckE h
    refine iv_Ret.nnT (t := 12) rfl c4 rfl ?_
    refine iv_Ret.stl [13] (ls' := [ivR 2, ivI p1, ivR (r1.toNat)]) (st' := [ivR (r1.toNat)]) (w' := (135, μ2, iv_rho)) rfl ?_
    refine iv_Ret.geti rfl (iv_mm_lay L c5) (iv_mm_n c5) rfl ?_
    show iv_Ret L 96 16 [ivR 2, ivI p1, ivR (r1.toNat)] [ivI (μ2 (r1.toNat) 4)] (ivST μ2) (some (ivI r)) (ivST μ')
    rcases iv_iteE h with ⟨c6, h⟩ | ⟨c6, h⟩
    · refine iv_Ret.ifF (t := 19) rfl (decide_eq_false (not_not_intro c6)) rfl ?_
      refine iv_Ret.stl [21] (ls' := [ivR 2, ivI p1, ivR (r1.toNat)]) (st' := [ivI (-3)]) (w' := (135, μ2, iv_rho)) rfl ?_
      obtain ⟨rfl, rfl⟩ := iv_retE h
      exact ⟨1, rfl⟩
    · refine iv_Ret.ifT (t := 22) rfl (decide_eq_true c6) rfl ?_
      refine iv_Ret.stl [23, 26] (ls' := [ivR 2, ivI p1, ivR (r1.toNat)]) (st' := [ivR 11]) (w' := (135, μ2, iv_rho)) rfl ?_
      refine iv_Ret.stl [27] (ls' := [ivR 2, ivI p1, ivR (r1.toNat)]) (st' := [ivR (r1.toNat), ivR 11]) (w' := (135, μ2, iv_rho)) rfl ?_
      obtain ⟨r7, μ8, e9, h⟩ := iv_bndE h
      refine iv_Ret.callv rfl rfl rfl (T_X2_copy L 11 (r1.toNat) rfl c5 e9) ?_
      show iv_Ret L 96 30 [ivR 2, ivI p1, ivR (r1.toNat)] [] (ivST μ8) (some (ivI r)) (ivST μ')
      refine iv_Ret.stl [31, 34] (ls' := [ivR 2, ivI p1, ivR (r1.toNat)]) (st' := [ivR 11]) (w' := (135, μ8, iv_rho)) rfl ?_
      refine iv_Ret.stl [37] (ls' := [ivR 2, ivI p1, ivR (r1.toNat)]) (st' := [ivI (μ8 11 3)]) (w' := (135, μ8, iv_rho)) rfl ?_
      obtain ⟨rfl, rfl⟩ := iv_retE h
      exact ⟨1, rfl⟩
theorem T_lp_X9_soundsOfAll_4 (L : Nat)     : ∀ (n : Nat) (l1 : Int) (l2 : Int) (μ : ivM) (r : Int) (μ' : ivM), lp_X9_soundsOfAll_4  n l1 l2 μ = some (r, μ') → iv_Ret L 102 4 [ivR 2, ivI l1, ivI l2] [] (ivST μ) (some (ivI r)) (ivST μ') := by
  intro n
  induction n with
  | zero => intro l1 l2 μ r μ' h; unfold lp_X9_soundsOfAll_4 at h; cases h
  | succ n ih =>
    intro l1 l2 μ r μ' h
    unfold lp_X9_soundsOfAll_4 at h
    refine iv_Ret.stl [5, 7] (ls' := [ivR 2, ivI l1, ivI l2]) (st' := [ivI 8, ivI l2]) (w' := (135, μ, iv_rho)) rfl ?_
    rcases iv_iteE h with ⟨c1, h⟩ | ⟨c1, h⟩
    · refine iv_Ret.icT (t := 31) rfl (decide_eq_true c1) rfl ?_
      refine iv_Ret.stl [32] (ls' := [ivR 2, ivI l1, ivI l2]) (st' := [ivI l1]) (w' := (135, μ, iv_rho)) rfl ?_
      obtain ⟨rfl, rfl⟩ := iv_retE h
      exact ⟨1, rfl⟩
    · refine iv_Ret.icF (t := 10) rfl (decide_eq_false c1) rfl ?_
      refine iv_Ret.stl [11, 12, 15] (ls' := [ivR 2, ivI l1, ivI l2]) (st' := [ivR 11, ivI l1]) (w' := (135, μ, iv_rho)) rfl ?_
      refine iv_Ret.stl [18] (ls' := [ivR 2, ivI l1, ivI l2]) (st' := [ivR 12, ivI l1]) (w' := (135, μ, iv_rho)) rfl ?_
      refine iv_Ret.stl [19] (ls' := [ivR 2, ivI l1, ivI l2]) (st' := [ivI l2, ivR 12, ivI l1]) (w' := (135, μ, iv_rho)) rfl ?_
      obtain ⟨c2, h⟩ := iv_ckE h
      refine iv_Ret.iald (len := 8) rfl rfl rfl c2.1 c2.2 ?_
      show iv_Ret L 102 20 [ivR 2, ivI l1, ivI l2] [ivI (μ 12 l2.toNat), ivI l1] (ivST μ) (some (ivI r)) (ivST μ')
      obtain ⟨r3, μ4, e5, h⟩ := iv_bndE h
      refine iv_Ret.calls rfl rfl (T_X3_lengthOf L (μ 12 l2.toNat) e5) ?_
      show iv_Ret L 102 23 [ivR 2, ivI l1, ivI l2] [ivI r3, ivI l1] (ivST μ4) (some (ivI r)) (ivST μ')
      refine iv_Ret.stl [24, 25, 28, 4] (ls' := [ivR 2, ivI (iv_wr (l1 + r3)), ivI (iv_wr (l2 + 1))]) (st' := []) (w' := (135, μ4, iv_rho)) rfl ?_
      exact ih (iv_wr (l1 + r3)) (iv_wr (l2 + 1)) μ4 _ _ h
theorem T_X9_soundsOfAll (L : Nat)   {μ μ' : ivM} {r : Int} (h : f_X9_soundsOfAll  μ = some (r, μ')) : iv_Ret L 102 0 [ivR 2, ivU, ivU] [] (ivST μ) (some (ivI r)) (ivST μ') := by
  unfold f_X9_soundsOfAll at h
  refine iv_Ret.stl [1, 2, 3, 4] (ls' := [ivR 2, ivI 0, ivI 0]) (st' := []) (w' := (135, μ, iv_rho)) rfl ?_
  exact T_lp_X9_soundsOfAll_4 L  iv_fuel 0 0 μ _ _ h
theorem T_X9_count (L : Nat) (p1 : Int)  {μ μ' : ivM} {r : Int} (h : f_X9_count p1 μ = some (r, μ')) : iv_Ret L 97 0 [ivR 2, ivI p1] [] (ivST μ) (some (ivI r)) (ivST μ') := by
  unfold f_X9_count at h
  refine iv_Ret.stl [1] (ls' := [ivR 2, ivI p1]) (st' := [ivI p1]) (w' := (135, μ, iv_rho)) rfl ?_
  rcases iv_iteE h with ⟨c1, h⟩ | ⟨c1, h⟩
  · refine iv_Ret.tsI (t := 48) rfl c1 rfl ?_
    refine iv_Ret.stl [49, 52] (ls' := [ivR 2, ivI p1]) (st' := [ivR 3]) (w' := (135, μ, iv_rho)) rfl ?_
    refine iv_Ret.stl [55] (ls' := [ivR 2, ivI p1]) (st' := [ivI (μ 3 1)]) (w' := (135, μ, iv_rho)) rfl ?_
    obtain ⟨rfl, rfl⟩ := iv_retE h
    exact ⟨1, rfl⟩
  rcases iv_iteE h with ⟨c2, h⟩ | ⟨c2, h⟩
  · refine iv_Ret.tsI (t := 56) rfl c2 rfl ?_
    refine iv_Ret.stl [57, 60] (ls' := [ivR 2, ivI p1]) (st' := [ivR 9]) (w' := (135, μ, iv_rho)) rfl ?_
    refine iv_Ret.stl [63] (ls' := [ivR 2, ivI p1]) (st' := [ivI (μ 9 2)]) (w' := (135, μ, iv_rho)) rfl ?_
    obtain ⟨rfl, rfl⟩ := iv_retE h
    exact ⟨1, rfl⟩
  rcases iv_iteE h with ⟨c3, h⟩ | ⟨c3, h⟩
  · refine iv_Ret.tsI (t := 64) rfl c3 rfl ?_
    refine iv_Ret.stl [65, 68] (ls' := [ivR 2, ivI p1]) (st' := [ivR 9]) (w' := (135, μ, iv_rho)) rfl ?_
    refine iv_Ret.stl [71] (ls' := [ivR 2, ivI p1]) (st' := [ivI (μ 9 3)]) (w' := (135, μ, iv_rho)) rfl ?_
    obtain ⟨rfl, rfl⟩ := iv_retE h
    exact ⟨1, rfl⟩
  rcases iv_iteE h with ⟨c4, h⟩ | ⟨c4, h⟩
  · refine iv_Ret.tsI (t := 72) rfl c4 rfl ?_
    refine iv_Ret.stl [73, 76] (ls' := [ivR 2, ivI p1]) (st' := [ivR 9]) (w' := (135, μ, iv_rho)) rfl ?_
    refine iv_Ret.stl [79] (ls' := [ivR 2, ivI p1]) (st' := [ivI (μ 9 1)]) (w' := (135, μ, iv_rho)) rfl ?_
    obtain ⟨rfl, rfl⟩ := iv_retE h
    exact ⟨1, rfl⟩
  rcases iv_iteE h with ⟨c5, h⟩ | ⟨c5, h⟩
  · refine iv_Ret.tsI (t := 80) rfl c5 rfl ?_
    refine iv_Ret.stl [81, 84] (ls' := [ivR 2, ivI p1]) (st' := [ivR 11]) (w' := (135, μ, iv_rho)) rfl ?_
    refine iv_Ret.stl [87] (ls' := [ivR 2, ivI p1]) (st' := [ivI (μ 11 3)]) (w' := (135, μ, iv_rho)) rfl ?_
    obtain ⟨rfl, rfl⟩ := iv_retE h
    exact ⟨1, rfl⟩
  rcases iv_iteE h with ⟨c6, h⟩ | ⟨c6, h⟩
  · refine iv_Ret.tsI (t := 88) rfl c6 rfl ?_
    refine iv_Ret.stl [89, 92] (ls' := [ivR 2, ivI p1]) (st' := [ivR 105]) (w' := (135, μ, iv_rho)) rfl ?_
    refine iv_Ret.stl [95] (ls' := [ivR 2, ivI p1]) (st' := [ivI (μ 105 0)]) (w' := (135, μ, iv_rho)) rfl ?_
    obtain ⟨rfl, rfl⟩ := iv_retE h
    exact ⟨1, rfl⟩
  rcases iv_iteE h with ⟨c7, h⟩ | ⟨c7, h⟩
  · refine iv_Ret.tsI (t := 96) rfl c7 rfl ?_
    refine iv_Ret.stl [97, 100] (ls' := [ivR 2, ivI p1]) (st' := [ivR 11]) (w' := (135, μ, iv_rho)) rfl ?_
    obtain ⟨r9, μ10, e11, h⟩ := iv_bndE h
    refine iv_Ret.callv rfl rfl rfl (T_X2_liveOnes L  e11) ?_
    show iv_Ret L 97 103 [ivR 2, ivI p1] [ivI r9] (ivST μ10) (some (ivI r)) (ivST μ')
    obtain ⟨r12, μ13, e14, h⟩ := iv_bndE h
    refine iv_Ret.calls rfl rfl (T_J6_bitCount_0f7a4 L r9 e14) ?_
    show iv_Ret L 97 106 [ivR 2, ivI p1] [ivI r12] (ivST μ13) (some (ivI r)) (ivST μ')
    obtain ⟨rfl, rfl⟩ := iv_retE h
    exact ⟨1, rfl⟩
  rcases iv_iteE h with ⟨c8, h⟩ | ⟨c8, h⟩
  · refine iv_Ret.tsI (t := 107) rfl c8 rfl ?_
    refine iv_Ret.stl [108] (ls' := [ivR 2, ivI p1]) (st' := [ivR 2]) (w' := (135, μ, iv_rho)) rfl ?_
    obtain ⟨r15, μ16, e17, h⟩ := iv_bndE h
    refine iv_Ret.callv rfl rfl rfl (T_X9_soundsOfAll L  e17) ?_
    show iv_Ret L 97 111 [ivR 2, ivI p1] [ivI r15] (ivST μ16) (some (ivI r)) (ivST μ')
    obtain ⟨rfl, rfl⟩ := iv_retE h
    exact ⟨1, rfl⟩
  have o18 : (decide (p1 < 0) || decide (7 < p1)) = true := by
    rw [Bool.or_eq_true, decide_eq_true_eq, decide_eq_true_eq]; omega
  refine iv_Ret.tsO (t := 112) rfl o18 rfl ?_
  refine iv_Ret.stl [114] (ls' := [ivR 2, ivI p1]) (st' := [ivI (-2)]) (w' := (135, μ, iv_rho)) rfl ?_
  obtain ⟨rfl, rfl⟩ := iv_retE h
  exact ⟨1, rfl⟩
theorem T_X10_in (L : Nat) (p0 : Int) (p2 : Int) (p4 : Int)  {μ μ' : ivM} {r : Int} (h : f_X10_in p0 p2 p4 μ = some (r, μ')) : iv_Ret L 110 0 [ivJ p0, ivU, ivJ p2, ivU, ivJ p4, ivU] [] (ivST μ) (some (ivI r)) (ivST μ') := by
  unfold f_X10_in at h
  refine iv_Ret.stl [1, 2, 3] (ls' := [ivJ p0, ivU, ivJ p2, ivU, ivJ p4, ivU]) (st' := [ivI (iv_lcmp p0 p2)]) (w' := (135, μ, iv_rho)) rfl ?_
  refine iv_letE (fun j1 => ∀ (v8 : Int) (μ9 : ivM) (r10 : Int) (μ11 : ivM) (z2 : ivV) (z3 : ivV) (z4 : ivV) (z5 : ivV) (z6 : ivV) (z7 : ivV), j1 v8 μ9 = some (r10, μ11) → iv_Ret L 110 18 [z2, z3, z4, z5, z6, z7] [ivI v8] (ivST μ9) (some (ivI r10)) (ivST μ11)) h (fun v8 μ9 r10 μ11 z2 z3 z4 z5 z6 z7 h => ?_) (fun j1 hj1 h => ?_)
  · obtain ⟨c12, h⟩ := iv_ckE h
    obtain ⟨rfl, rfl⟩ := iv_retE h
    exact iv_Ret.zret rfl c12
  · refine iv_letE (fun j13 => ∀ (μ20 : ivM) (r21 : Int) (μ22 : ivM) (z14 : ivV) (z15 : ivV) (z16 : ivV) (z17 : ivV) (z18 : ivV) (z19 : ivV), j13 μ20 = some (r21, μ22) → iv_Ret L 110 17 [z14, z15, z16, z17, z18, z19] [] (ivST μ20) (some (ivI r21)) (ivST μ22)) h (fun μ20 r21 μ22 z14 z15 z16 z17 z18 z19 h => ?_) (fun j13 hj13 h => ?_)
    · refine iv_Ret.stl [18] (ls' := [z14, z15, z16, z17, z18, z19]) (st' := [ivI 0]) (w' := (135, μ20, iv_rho)) rfl ?_
      exact hj1 0 μ20 _ _ z14 z15 z16 z17 z18 z19 h
    · rcases iv_iteE h with ⟨c23, h⟩ | ⟨c23, h⟩
      · refine iv_Ret.ifT (t := 17) rfl (decide_eq_true c23) rfl ?_
        exact hj13 μ _ _ (ivJ p0) ivU (ivJ p2) ivU (ivJ p4) ivU h
      · refine iv_Ret.ifF (t := 6) rfl (decide_eq_false c23) rfl ?_
        refine iv_Ret.stl [7, 9, 10] (ls' := [ivJ p0, ivU, ivJ p2, ivU, ivJ p4, ivU]) (st' := [ivI (iv_lcmp p0 p4)]) (w' := (135, μ, iv_rho)) rfl ?_
        rcases iv_iteE h with ⟨c24, h⟩ | ⟨c24, h⟩
        · refine iv_Ret.ifT (t := 17) rfl (decide_eq_true c24) rfl ?_
          exact hj13 μ _ _ (ivJ p0) ivU (ivJ p2) ivU (ivJ p4) ivU h
        · refine iv_Ret.ifF (t := 13) rfl (decide_eq_false c24) rfl ?_
          refine iv_Ret.stl [14, 18] (ls' := [ivJ p0, ivU, ivJ p2, ivU, ivJ p4, ivU]) (st' := [ivI 1]) (w' := (135, μ, iv_rho)) rfl ?_
          exact hj1 1 μ _ _ (ivJ p0) ivU (ivJ p2) ivU (ivJ p4) ivU h
theorem T_lp_X10_write_34 (L : Nat) (l2 : Int)    : ∀ (n : Nat) (l4 : Int) (μ : ivM) (r : Int) (μ' : ivM) (d1 : ivV) (d3 : ivV), lp_X10_write_34 l2 n l4 μ = some (r, μ') → iv_Ret L 111 34 [ivR 110, d1, ivJ l2, d3, ivI l4] [] (ivST μ) (some (ivI r)) (ivST μ') := by
  intro n
  induction n with
  | zero => intro l4 μ r μ' d1 d3 h; unfold lp_X10_write_34 at h; cases h
  | succ n ih =>
    intro l4 μ r μ' d1 d3 h
    unfold lp_X10_write_34 at h
    refine iv_Ret.stl [36] (ls' := [ivR 110, d1, ivJ l2, d3, ivI l4]) (st' := [ivI l4]) (w' := (135, μ, iv_rho)) rfl ?_
    rcases iv_iteE h with ⟨c6, h⟩ | ⟨c6, h⟩
    · refine iv_Ret.ifT (t := 76) rfl (decide_eq_true c6) rfl ?_
      refine iv_Ret.stl [77, 80] (ls' := [ivR 110, d1, ivJ l2, d3, ivI l4]) (st' := [ivI (μ 110 17)]) (w' := (135, μ, iv_rho)) rfl ?_
      obtain ⟨rfl, rfl⟩ := iv_retE h
      exact ⟨1, rfl⟩
    · refine iv_Ret.ifF (t := 39) rfl (decide_eq_false c6) rfl ?_
      refine iv_Ret.stl [40, 43] (ls' := [ivR 110, d1, ivJ l2, d3, ivI l4]) (st' := [ivR 120]) (w' := (135, μ, iv_rho)) rfl ?_
      refine iv_Ret.stl [44, 47, 48, 50, 52, 53, 54, 57, 58, 59] (ls' := [ivR 110, d1, ivJ l2, d3, ivI l4]) (st' := [ivI (iv_wr (iv_land (iv_lshr l2 (iv_wr (8 * l4))) 255)), ivI (μ 110 17), ivR 120]) (w' := (135, μ, iv_rho)) rfl ?_
      obtain ⟨c7, h⟩ := iv_ckE h
      refine iv_Ret.iast (len := 96) rfl rfl rfl rfl c7.1 c7.2 ?_
      show iv_Ret L 111 60 [ivR 110, d1, ivJ l2, d3, ivI l4] [] (ivST (iv_upd μ 120 (μ 110 17).toNat (iv_wr (iv_land (iv_lshr l2 (iv_wr (8 * l4))) 255)))) (some (ivI r)) (ivST μ')
      refine iv_Ret.stl [61, 62, 65, 66, 67, 70, 73, 34] (ls' := [ivR 110, d1, ivJ l2, (iv_un d3), ivI (iv_wr (l4 + (-1)))]) (st' := []) (w' := (135, (iv_upd (iv_upd μ 120 (μ 110 17).toNat (iv_wr (iv_land (iv_lshr l2 (iv_wr (8 * l4))) 255))) 110 17 (iv_wr (((iv_upd μ 120 (μ 110 17).toNat (iv_wr (iv_land (iv_lshr l2 (iv_wr (8 * l4))) 255))) 110 17) + 1))), iv_rho)) rfl ?_
      exact ih (iv_wr (l4 + (-1))) (iv_upd (iv_upd μ 120 (μ 110 17).toNat (iv_wr (iv_land (iv_lshr l2 (iv_wr (8 * l4))) 255))) 110 17 (iv_wr (((iv_upd μ 120 (μ 110 17).toNat (iv_wr (iv_land (iv_lshr l2 (iv_wr (8 * l4))) 255))) 110 17) + 1))) _ _ d1 (iv_un d3) h
theorem T_X10_write (L : Nat) (p1 : Int) (p2 : Int)  {μ μ' : ivM} {r : Int} (h : f_X10_write p1 p2 μ = some (r, μ')) : iv_Ret L 111 0 [ivR 110, ivI p1, ivJ p2, ivU, ivU] [] (ivST μ) (some (ivI r)) (ivST μ') := by
  unfold f_X10_write at h
  refine iv_Ret.stl [1, 2, 3, 6] (ls' := [ivR 110, ivI p1, ivJ p2, ivU, ivU]) (st' := [ivJ 8, ivJ 1, ivJ p1]) (w' := (135, μ, iv_rho)) rfl ?_
  obtain ⟨r1, μ2, e3, h⟩ := iv_bndE h
  refine iv_Ret.calls rfl rfl (T_X10_in L p1 1 8 e3) ?_
  show iv_Ret L 111 9 [ivR 110, ivI p1, ivJ p2, ivU, ivU] [ivI r1] (ivST μ2) (some (ivI r)) (ivST μ')
  rcases iv_iteE h with ⟨c4, h⟩ | ⟨c4, h⟩
  · refine iv_Ret.ifF (t := 12) rfl (decide_eq_false (not_not_intro c4)) rfl ?_
    refine iv_Ret.stl [14] (ls' := [ivR 110, ivI p1, ivJ p2, ivU, ivU]) (st' := [ivI (-2)]) (w' := (135, μ2, iv_rho)) rfl ?_
    obtain ⟨rfl, rfl⟩ := iv_retE h
    exact ⟨1, rfl⟩
  · refine iv_Ret.ifT (t := 15) rfl (decide_eq_true c4) rfl ?_
    refine iv_Ret.stl [16, 19, 20, 21, 23] (ls' := [ivR 110, ivI p1, ivJ p2, ivU, ivU]) (st' := [ivI 96, ivI (iv_wr ((μ2 110 17) + p1))]) (w' := (135, μ2, iv_rho)) rfl ?_
    rcases iv_iteE h with ⟨c5, h⟩ | ⟨c5, h⟩
    · refine iv_Ret.icT (t := 29) rfl (decide_eq_true c5) rfl ?_
      refine iv_Ret.stl [30, 31, 32, 34] (ls' := [ivR 110, ivI p1, ivJ p2, ivU, ivI (iv_wr (p1 - 1))]) (st' := []) (w' := (135, μ2, iv_rho)) rfl ?_
      exact T_lp_X10_write_34 L p2 iv_fuel (iv_wr (p1 - 1)) μ2 _ _ (ivI p1) ivU h
    · refine iv_Ret.icF (t := 26) rfl (decide_eq_false c5) rfl ?_
      refine iv_Ret.stl [28] (ls' := [ivR 110, ivI p1, ivJ p2, ivU, ivU]) (st' := [ivI (-4)]) (w' := (135, μ2, iv_rho)) rfl ?_
      obtain ⟨rfl, rfl⟩ := iv_retE h
      exact ⟨1, rfl⟩
theorem T_X10_wipe (L : Nat)   {μ μ' : ivM} {r : Int} (h : f_X10_wipe  μ = some (r, μ')) : iv_Ret L 112 0 [ivR 110, ivU] [] (ivST μ) (some (ivI r)) (ivST μ') := by
  unfold f_X10_wipe at h
  refine iv_Ret.stl [1, 4, 5, 6, 7, 10, 11] (ls' := [ivR 110, ivI (μ 110 17)]) (st' := [ivI (μ 110 17)]) (w' := (135, (iv_upd μ 110 17 0), iv_rho)) rfl ?_
  obtain ⟨rfl, rfl⟩ := iv_retE h
  exact ⟨1, rfl⟩
theorem T_X10_here (L : Nat)   {μ μ' : ivM} {r : Int} (h : f_X10_here  μ = some (r, μ')) : iv_Ret L 113 0 [ivR 110] [] (ivST μ) (some (ivI r)) (ivST μ') := by
  unfold f_X10_here at h
  refine iv_Ret.stl [1, 4, 6] (ls' := [ivR 110]) (st' := [ivI (-9), ivI (μ 110 19)]) (w' := (135, μ, iv_rho)) rfl ?_
  refine iv_letE (fun j1 => ∀ (v3 : Int) (μ4 : ivM) (r5 : Int) (μ6 : ivM) (z2 : ivV), j1 v3 μ4 = some (r5, μ6) → iv_Ret L 113 33 [z2] [ivI v3] (ivST μ4) (some (ivI r5)) (ivST μ6)) h (fun v3 μ4 r5 μ6 z2 h => ?_) (fun j1 hj1 h => ?_)
  · obtain ⟨rfl, rfl⟩ := iv_retE h
    exact ⟨1, rfl⟩
  · refine iv_letE (fun j7 => ∀ (μ9 : ivM) (r10 : Int) (μ11 : ivM) (z8 : ivV), j7 μ9 = some (r10, μ11) → iv_Ret L 113 32 [z8] [] (ivST μ9) (some (ivI r10)) (ivST μ11)) h (fun μ9 r10 μ11 z8 h => ?_) (fun j7 hj7 h => ?_)
    · refine iv_Ret.stl [33] (ls' := [z8]) (st' := [ivI (-1)]) (w' := (135, μ9, iv_rho)) rfl ?_
      exact hj1 (-1) μ9 _ _ z8 h
    · rcases iv_iteE h with ⟨c12, h⟩ | ⟨c12, h⟩
      · refine iv_Ret.icF (t := 9) rfl (decide_eq_false (not_not_intro c12)) rfl ?_
        refine iv_Ret.stl [10, 13, 14, 17] (ls' := [ivR 110]) (st' := [ivI (μ 110 17), ivI (μ 110 18)]) (w' := (135, μ, iv_rho)) rfl ?_
        rcases iv_iteE h with ⟨c13, h⟩ | ⟨c13, h⟩
        · refine iv_Ret.icT (t := 32) rfl (decide_eq_true c13) rfl ?_
          exact hj7 μ _ _ (ivR 110) h
        · refine iv_Ret.icF (t := 20) rfl (decide_eq_false c13) rfl ?_
          refine iv_Ret.stl [21, 24] (ls' := [ivR 110]) (st' := [ivR 120]) (w' := (135, μ, iv_rho)) rfl ?_
          refine iv_Ret.stl [25, 28] (ls' := [ivR 110]) (st' := [ivI (μ 110 18), ivR 120]) (w' := (135, μ, iv_rho)) rfl ?_
          obtain ⟨c14, h⟩ := iv_ckE h
          refine iv_Ret.iald (len := 96) rfl rfl rfl c14.1 c14.2 ?_
          show iv_Ret L 113 29 [ivR 110] [ivI (μ 120 (μ 110 18).toNat)] (ivST μ) (some (ivI r)) (ivST μ')
          refine iv_Ret.stl [33] (ls' := [ivR 110]) (st' := [ivI (μ 120 (μ 110 18).toNat)]) (w' := (135, μ, iv_rho)) rfl ?_
          exact hj1 (μ 120 (μ 110 18).toNat) μ _ _ (ivR 110) h
      · refine iv_Ret.icT (t := 32) rfl (decide_eq_true c12) rfl ?_
        exact hj7 μ _ _ (ivR 110) h
theorem T_X10_fail (L : Nat)   {μ μ' : ivM} {r : Int} (h : f_X10_fail  μ = some (r, μ')) : iv_Ret L 114 0 [ivR 110] [] (ivST μ) none (ivST μ') := by
  unfold f_X10_fail at h
  refine iv_Ret.stl [1, 2, 5, 7] (ls' := [ivR 110]) (st' := [ivI (-9), ivI (μ 110 19), ivR 110]) (w' := (135, μ, iv_rho)) rfl ?_
  refine iv_letE (fun j1 => ∀ (v3 : Int) (μ4 : ivM) (r5 : Int) (μ6 : ivM) (z2 : ivV), j1 v3 μ4 = some (r5, μ6) → iv_Ret L 114 21 [z2] [ivI v3, ivR 110] (ivST μ4) none (ivST μ6)) h (fun v3 μ4 r5 μ6 z2 h => ?_) (fun j1 hj1 h => ?_)
  · refine iv_Ret.stl [24] (ls' := [z2]) (st' := []) (w' := (135, (iv_upd μ4 110 19 v3), iv_rho)) rfl ?_
    obtain ⟨rfl, rfl⟩ := iv_retE h
    exact ⟨1, rfl⟩
  · rcases iv_iteE h with ⟨c7, h⟩ | ⟨c7, h⟩
    · refine iv_Ret.icF (t := 10) rfl (decide_eq_false (not_not_intro c7)) rfl ?_
      refine iv_Ret.stl [11, 14, 21] (ls' := [ivR 110]) (st' := [ivI (μ 110 18), ivR 110]) (w' := (135, μ, iv_rho)) rfl ?_
      exact hj1 (μ 110 18) μ _ _ (ivR 110) h
    · refine iv_Ret.icT (t := 17) rfl (decide_eq_true c7) rfl ?_
      refine iv_Ret.stl [18, 21] (ls' := [ivR 110]) (st' := [ivI (μ 110 19), ivR 110]) (w' := (135, μ, iv_rho)) rfl ?_
      exact hj1 (μ 110 19) μ _ _ (ivR 110) h
theorem T_X10_figure (L : Nat) (p1 : Int)  {μ μ' : ivM} {r : Int} (h : f_X10_figure p1 μ = some (r, μ')) : iv_Ret L 115 0 [ivR 110, ivI p1, ivU] [] (ivST μ) (some (ivI r)) (ivST μ') := by
  unfold f_X10_figure at h
  refine iv_Ret.stl [1] (ls' := [ivR 110, ivI p1, ivU]) (st' := [ivR 110]) (w' := (135, μ, iv_rho)) rfl ?_
  obtain ⟨r1, μ2, e3, h⟩ := iv_bndE h
  refine iv_Ret.callv rfl rfl rfl (T_X10_here L  e3) ?_
  show iv_Ret L 115 4 [ivR 110, ivI p1, ivU] [ivI r1] (ivST μ2) (some (ivI r)) (ivST μ')
  refine iv_Ret.stl [6, 7, 8, 9, 10, 11, 14] (ls' := [ivR 110, ivI p1, ivI (iv_wr (r1 - 48))]) (st' := [ivJ 9, ivJ 0, ivJ (iv_wr (r1 - 48))]) (w' := (135, μ2, iv_rho)) rfl ?_
  obtain ⟨r4, μ5, e6, h⟩ := iv_bndE h
  refine iv_Ret.calls rfl rfl (T_X10_in L (iv_wr (r1 - 48)) 0 9 e6) ?_
  show iv_Ret L 115 17 [ivR 110, ivI p1, ivI (iv_wr (r1 - 48))] [ivI r4] (ivST μ5) (some (ivI r)) (ivST μ')
  refine iv_letE (fun j7 => ∀ (μ10 : ivM) (r11 : Int) (μ12 : ivM) (z8 : ivV) (z9 : ivV), j7 μ10 = some (r11, μ12) → iv_Ret L 115 28 [ivR 110, z8, z9] [] (ivST μ10) (some (ivI r11)) (ivST μ12)) h (fun μ10 r11 μ12 z8 z9 h => ?_) (fun j7 hj7 h => ?_)
  · refine iv_Ret.stl [29] (ls' := [ivR 110, z8, z9]) (st' := [ivR 110]) (w' := (135, μ10, iv_rho)) rfl ?_
    obtain ⟨r13, μ14, e15, h⟩ := iv_bndE h
    refine iv_Ret.callv rfl rfl rfl (T_X10_fail L  e15) ?_
    show iv_Ret L 115 32 [ivR 110, z8, z9] [] (ivST μ14) (some (ivI r11)) (ivST μ12)
    refine iv_Ret.stl [33] (ls' := [ivR 110, z8, z9]) (st' := [ivI 0]) (w' := (135, μ14, iv_rho)) rfl ?_
    obtain ⟨rfl, rfl⟩ := iv_retE h
    exact ⟨1, rfl⟩
  · rcases iv_iteE h with ⟨c16, h⟩ | ⟨c16, h⟩
    · refine iv_Ret.ifT (t := 28) rfl (decide_eq_true c16) rfl ?_
      exact hj7 μ5 _ _ (ivI p1) (ivI (iv_wr (r1 - 48))) h
    · refine iv_Ret.ifF (t := 20) rfl (decide_eq_false c16) rfl ?_
      refine iv_Ret.stl [21, 22, 23, 24, 25] (ls' := [ivR 110, ivI p1, ivI (iv_wr (r1 - 48))]) (st' := [ivI (iv_and (iv_shr p1 (iv_wr (r1 - 48))) 1)]) (w' := (135, μ5, iv_rho)) rfl ?_
      rcases iv_iteE h with ⟨c17, h⟩ | ⟨c17, h⟩
      · refine iv_Ret.ifF (t := 28) rfl (decide_eq_false (not_not_intro c17)) rfl ?_
        exact hj7 μ5 _ _ (ivI p1) (ivI (iv_wr (r1 - 48))) h
      · refine iv_Ret.ifT (t := 34) rfl (decide_eq_true c17) rfl ?_
        refine iv_Ret.stl [35, 36, 39, 40, 41, 44, 45] (ls' := [ivR 110, ivI p1, ivI (iv_wr (r1 - 48))]) (st' := [ivI (iv_wr (r1 - 48))]) (w' := (135, (iv_upd μ5 110 18 (iv_wr ((μ5 110 18) + 1))), iv_rho)) rfl ?_
        obtain ⟨rfl, rfl⟩ := iv_retE h
        exact ⟨1, rfl⟩
theorem T_lp_X10_unknown_4 (L : Nat) (l1 : Int)    : ∀ (n : Nat) (l2 : Int) (l3 : Int) (μ : ivM) (r : Int) (μ' : ivM), lp_X10_unknown_4 l1 n l2 l3 μ = some (r, μ') → iv_Ret L 117 4 [ivR 110, ivI l1, ivI l2, ivI l3] [] (ivST μ) (some (ivI r)) (ivST μ') := by
  intro n
  induction n with
  | zero => intro l2 l3 μ r μ' h; unfold lp_X10_unknown_4 at h; cases h
  | succ n ih =>
    intro l2 l3 μ r μ' h
    unfold lp_X10_unknown_4 at h
    refine iv_Ret.stl [5, 6, 9] (ls' := [ivR 110, ivI l1, ivI l2, ivI l3]) (st' := [ivI (μ 110 5), ivI l3]) (w' := (135, μ, iv_rho)) rfl ?_
    rcases iv_iteE h with ⟨c1, h⟩ | ⟨c1, h⟩
    · refine iv_Ret.icT (t := 41) rfl (decide_eq_true c1) rfl ?_
      refine iv_Ret.stl [42] (ls' := [ivR 110, ivI l1, ivI l2, ivI l3]) (st' := [ivI l2]) (w' := (135, μ, iv_rho)) rfl ?_
      obtain ⟨rfl, rfl⟩ := iv_retE h
      exact ⟨1, rfl⟩
    · refine iv_Ret.icF (t := 12) rfl (decide_eq_false c1) rfl ?_
      refine iv_Ret.stl [13, 14, 17] (ls' := [ivR 110, ivI l1, ivI l2, ivI l3]) (st' := [ivR 113, ivI l2]) (w' := (135, μ, iv_rho)) rfl ?_
      refine iv_Ret.stl [18] (ls' := [ivR 110, ivI l1, ivI l2, ivI l3]) (st' := [ivI l3, ivR 113, ivI l2]) (w' := (135, μ, iv_rho)) rfl ?_
      obtain ⟨c2, h⟩ := iv_ckE h
      refine iv_Ret.iald (len := 8) rfl rfl rfl c2.1 c2.2 ?_
      show iv_Ret L 117 19 [ivR 110, ivI l1, ivI l2, ivI l3] [ivI (μ 113 l3.toNat), ivI l2] (ivST μ) (some (ivI r)) (ivST μ')
      refine iv_Ret.stl [20, 21, 22, 23] (ls' := [ivR 110, ivI l1, ivI l2, ivI l3]) (st' := [ivI (iv_and (iv_shr (μ 113 l3.toNat) l1) 1), ivI l2]) (w' := (135, μ, iv_rho)) rfl ?_
      refine iv_letE (fun j3 => ∀ (v5 : Int) (μ6 : ivM) (r7 : Int) (μ8 : ivM) (z4 : ivV), j3 v5 μ6 = some (r7, μ8) → iv_Ret L 117 33 [ivR 110, ivI l1, z4, ivI l3] [ivI v5, ivI l2] (ivST μ6) (some (ivI r7)) (ivST μ8)) h (fun v5 μ6 r7 μ8 z4 h => ?_) (fun j3 hj3 h => ?_)
      · refine iv_Ret.stl [34, 35, 38, 4] (ls' := [ivR 110, ivI l1, ivI (iv_or l2 v5), ivI (iv_wr (l3 + 1))]) (st' := []) (w' := (135, μ6, iv_rho)) rfl ?_
        exact ih (iv_or l2 v5) (iv_wr (l3 + 1)) μ6 _ _ h
      · rcases iv_iteE h with ⟨c9, h⟩ | ⟨c9, h⟩
        · refine iv_Ret.ifF (t := 26) rfl (decide_eq_false (not_not_intro c9)) rfl ?_
          refine iv_Ret.stl [27, 28, 29, 33] (ls' := [ivR 110, ivI l1, ivI l2, ivI l3]) (st' := [ivI (iv_shl 1 l3), ivI l2]) (w' := (135, μ, iv_rho)) rfl ?_
          exact hj3 (iv_shl 1 l3) μ _ _ (ivI l2) h
        · refine iv_Ret.ifT (t := 32) rfl (decide_eq_true c9) rfl ?_
          refine iv_Ret.stl [33] (ls' := [ivR 110, ivI l1, ivI l2, ivI l3]) (st' := [ivI 0, ivI l2]) (w' := (135, μ, iv_rho)) rfl ?_
          exact hj3 0 μ _ _ (ivI l2) h
theorem T_X10_unknown (L : Nat) (p1 : Int)  {μ μ' : ivM} {r : Int} (h : f_X10_unknown p1 μ = some (r, μ')) : iv_Ret L 117 0 [ivR 110, ivI p1, ivU, ivU] [] (ivST μ) (some (ivI r)) (ivST μ') := by
  unfold f_X10_unknown at h
  refine iv_Ret.stl [1, 2, 3, 4] (ls' := [ivR 110, ivI p1, ivI 0, ivI 0]) (st' := []) (w' := (135, μ, iv_rho)) rfl ?_
  exact T_lp_X10_unknown_4 L p1 iv_fuel 0 0 μ _ _ h
theorem T_lp_X10_open_4 (L : Nat)     : ∀ (n : Nat) (l1 : Int) (l2 : Int) (μ : ivM) (r : Int) (μ' : ivM), lp_X10_open_4  n l1 l2 μ = some (r, μ') → iv_Ret L 116 4 [ivR 110, ivI l1, ivI l2] [] (ivST μ) (some (ivI r)) (ivST μ') := by
  intro n
  induction n with
  | zero => intro l1 l2 μ r μ' h; unfold lp_X10_open_4 at h; cases h
  | succ n ih =>
    intro l1 l2 μ r μ' h
    unfold lp_X10_open_4 at h
    refine iv_Ret.stl [5, 6, 9] (ls' := [ivR 110, ivI l1, ivI l2]) (st' := [ivI (μ 110 6), ivI l2]) (w' := (135, μ, iv_rho)) rfl ?_
    rcases iv_iteE h with ⟨c1, h⟩ | ⟨c1, h⟩
    · refine iv_Ret.icT (t := 36) rfl (decide_eq_true c1) rfl ?_
      refine iv_Ret.stl [37] (ls' := [ivR 110, ivI l1, ivI l2]) (st' := [ivI l1]) (w' := (135, μ, iv_rho)) rfl ?_
      obtain ⟨rfl, rfl⟩ := iv_retE h
      exact ⟨1, rfl⟩
    · refine iv_Ret.icF (t := 12) rfl (decide_eq_false c1) rfl ?_
      refine iv_Ret.stl [13, 14, 15] (ls' := [ivR 110, ivI l1, ivI l2]) (st' := [ivI l2, ivR 110, ivI l1]) (w' := (135, μ, iv_rho)) rfl ?_
      obtain ⟨r2, μ3, e4, h⟩ := iv_bndE h
      refine iv_Ret.callv rfl rfl rfl (T_X10_unknown L l2 e4) ?_
      show iv_Ret L 116 18 [ivR 110, ivI l1, ivI l2] [ivI r2, ivI l1] (ivST μ3) (some (ivI r)) (ivST μ')
      refine iv_letE (fun j5 => ∀ (v7 : Int) (μ8 : ivM) (r9 : Int) (μ10 : ivM) (z6 : ivV), j5 v7 μ8 = some (r9, μ10) → iv_Ret L 116 28 [ivR 110, z6, ivI l2] [ivI v7, ivI l1] (ivST μ8) (some (ivI r9)) (ivST μ10)) h (fun v7 μ8 r9 μ10 z6 h => ?_) (fun j5 hj5 h => ?_)
      · refine iv_Ret.stl [29, 30, 33, 4] (ls' := [ivR 110, ivI (iv_or l1 v7), ivI (iv_wr (l2 + 1))]) (st' := []) (w' := (135, μ8, iv_rho)) rfl ?_
        exact ih (iv_or l1 v7) (iv_wr (l2 + 1)) μ8 _ _ h
      · rcases iv_iteE h with ⟨c11, h⟩ | ⟨c11, h⟩
        · refine iv_Ret.ifT (t := 27) rfl (decide_eq_true c11) rfl ?_
          refine iv_Ret.stl [28] (ls' := [ivR 110, ivI l1, ivI l2]) (st' := [ivI 0, ivI l1]) (w' := (135, μ3, iv_rho)) rfl ?_
          exact hj5 0 μ3 _ _ (ivI l1) h
        · refine iv_Ret.ifF (t := 21) rfl (decide_eq_false c11) rfl ?_
          refine iv_Ret.stl [22, 23, 24, 28] (ls' := [ivR 110, ivI l1, ivI l2]) (st' := [ivI (iv_shl 1 l2), ivI l1]) (w' := (135, μ3, iv_rho)) rfl ?_
          exact hj5 (iv_shl 1 l2) μ3 _ _ (ivI l1) h
theorem T_X10_open (L : Nat)   {μ μ' : ivM} {r : Int} (h : f_X10_open  μ = some (r, μ')) : iv_Ret L 116 0 [ivR 110, ivU, ivU] [] (ivST μ) (some (ivI r)) (ivST μ') := by
  unfold f_X10_open at h
  refine iv_Ret.stl [1, 2, 3, 4] (ls' := [ivR 110, ivI 0, ivI 0]) (st' := []) (w' := (135, μ, iv_rho)) rfl ?_
  exact T_lp_X10_open_4 L  iv_fuel 0 0 μ _ _ h
theorem T_lp_X10_isTold_39 (L : Nat) (l1 : Int) (l2 : Int)  {k94 : Int → ivM → Option (Int × ivM)} (hk94 : ∀ (l3 : Int) (μ : ivM) (r : Int) (μ' : ivM) (d4 : ivV), k94 l3 μ = some (r, μ') → iv_Ret L 119 94 [ivR 110, ivI l1, ivI l2, ivI l3, d4] [] (ivST μ) (some (ivI r)) (ivST μ')) : ∀ (n : Nat) (l3 : Int) (l4 : Int) (μ : ivM) (r : Int) (μ' : ivM), lp_X10_isTold_39 l1 l2 k94 n l3 l4 μ = some (r, μ') → iv_Ret L 119 39 [ivR 110, ivI l1, ivI l2, ivI l3, ivI l4] [] (ivST μ) (some (ivI r)) (ivST μ') := by
  intro n
  induction n with
  | zero => intro l3 l4 μ r μ' h; unfold lp_X10_isTold_39 at h; cases h
  | succ n ih =>
    intro l3 l4 μ r μ' h
    unfold lp_X10_isTold_39 at h
    refine iv_Ret.stl [41, 42, 45] (ls' := [ivR 110, ivI l1, ivI l2, ivI l3, ivI l4]) (st' := [ivR 112, ivI l4]) (w' := (135, μ, iv_rho)) rfl ?_
    refine iv_Ret.stl [46] (ls' := [ivR 110, ivI l1, ivI l2, ivI l3, ivI l4]) (st' := [ivI l2, ivR 112, ivI l4]) (w' := (135, μ, iv_rho)) rfl ?_
    obtain ⟨c12, h⟩ := iv_ckE h
    refine iv_Ret.iald (len := 8) rfl rfl rfl c12.1 c12.2 ?_
    show iv_Ret L 119 47 [ivR 110, ivI l1, ivI l2, ivI l3, ivI l4] [ivI (μ 112 l2.toNat), ivI l4] (ivST μ) (some (ivI r)) (ivST μ')
    rcases iv_iteE h with ⟨c13, h⟩ | ⟨c13, h⟩
    · refine iv_Ret.icT (t := 94) rfl (decide_eq_true c13) rfl ?_
      exact hk94 l3 μ _ _ (ivI l4) h
    · refine iv_Ret.icF (t := 50) rfl (decide_eq_false c13) rfl ?_
      refine iv_Ret.stl [51] (ls' := [ivR 110, ivI l1, ivI l2, ivI l3, ivI l4]) (st' := [ivI l3]) (w' := (135, μ, iv_rho)) rfl ?_
      rcases iv_iteE h with ⟨c14, h⟩ | ⟨c14, h⟩
      · refine iv_Ret.ifT (t := 94) rfl (decide_eq_true c14) rfl ?_
        exact hk94 l3 μ _ _ (ivI l4) h
      · refine iv_Ret.ifF (t := 54) rfl (decide_eq_false c14) rfl ?_
        refine iv_Ret.stl [55, 58] (ls' := [ivR 110, ivI l1, ivI l2, ivI l3, ivI l4]) (st' := [ivR 111]) (w' := (135, μ, iv_rho)) rfl ?_
        refine iv_Ret.stl [59, 60, 61, 63, 64] (ls' := [ivR 110, ivI l1, ivI l2, ivI l3, ivI l4]) (st' := [ivI (iv_wr ((iv_wr (5 * l2)) + l4)), ivR 111]) (w' := (135, μ, iv_rho)) rfl ?_
        obtain ⟨c15, h⟩ := iv_ckE h
        refine iv_Ret.iald (len := 40) rfl rfl rfl c15.1 c15.2 ?_
        show iv_Ret L 119 65 [ivR 110, ivI l1, ivI l2, ivI l3, ivI l4] [ivI (μ 111 (iv_wr ((iv_wr (5 * l2)) + l4)).toNat)] (ivST μ) (some (ivI r)) (ivST μ')
        refine iv_Ret.stl [66, 69] (ls' := [ivR 110, ivI l1, ivI l2, ivI l3, ivI l4]) (st' := [ivR 111, ivI (μ 111 (iv_wr ((iv_wr (5 * l2)) + l4)).toNat)]) (w' := (135, μ, iv_rho)) rfl ?_
        refine iv_Ret.stl [70, 71, 74, 75, 77, 78] (ls' := [ivR 110, ivI l1, ivI l2, ivI l3, ivI l4]) (st' := [ivI (iv_wr ((iv_wr (5 * (μ 110 5))) + l4)), ivR 111, ivI (μ 111 (iv_wr ((iv_wr (5 * l2)) + l4)).toNat)]) (w' := (135, μ, iv_rho)) rfl ?_
        obtain ⟨c16, h⟩ := iv_ckE h
        refine iv_Ret.iald (len := 40) rfl rfl rfl c16.1 c16.2 ?_
        show iv_Ret L 119 79 [ivR 110, ivI l1, ivI l2, ivI l3, ivI l4] [ivI (μ 111 (iv_wr ((iv_wr (5 * (μ 110 5))) + l4)).toNat), ivI (μ 111 (iv_wr ((iv_wr (5 * l2)) + l4)).toNat)] (ivST μ) (some (ivI r)) (ivST μ')
        refine iv_letE (fun j17 => ∀ (v19 : Int) (μ20 : ivM) (r21 : Int) (μ22 : ivM) (z18 : ivV), j17 v19 μ20 = some (r21, μ22) → iv_Ret L 119 87 [ivR 110, ivI l1, ivI l2, z18, ivI l4] [ivI v19] (ivST μ20) (some (ivI r21)) (ivST μ22)) h (fun v19 μ20 r21 μ22 z18 h => ?_) (fun j17 hj17 h => ?_)
        · refine iv_Ret.stl [88, 91, 39] (ls' := [ivR 110, ivI l1, ivI l2, ivI v19, ivI (iv_wr (l4 + 1))]) (st' := []) (w' := (135, μ20, iv_rho)) rfl ?_
          exact ih v19 (iv_wr (l4 + 1)) μ20 _ _ h
        · rcases iv_iteE h with ⟨c23, h⟩ | ⟨c23, h⟩
          · refine iv_Ret.icF (t := 82) rfl (decide_eq_false (not_not_intro c23)) rfl ?_
            refine iv_Ret.stl [83, 87] (ls' := [ivR 110, ivI l1, ivI l2, ivI l3, ivI l4]) (st' := [ivI 1]) (w' := (135, μ, iv_rho)) rfl ?_
            exact hj17 1 μ _ _ (ivI l3) h
          · refine iv_Ret.icT (t := 86) rfl (decide_eq_true c23) rfl ?_
            refine iv_Ret.stl [87] (ls' := [ivR 110, ivI l1, ivI l2, ivI l3, ivI l4]) (st' := [ivI 0]) (w' := (135, μ, iv_rho)) rfl ?_
            exact hj17 0 μ _ _ (ivI l3) h
theorem T_lp_X10_isTold_4 (L : Nat)     : ∀ (n : Nat) (l1 : Int) (l2 : Int) (μ : ivM) (r : Int) (μ' : ivM) (d3 : ivV) (d4 : ivV), lp_X10_isTold_4  n l1 l2 μ = some (r, μ') → iv_Ret L 119 4 [ivR 110, ivI l1, ivI l2, d3, d4] [] (ivST μ) (some (ivI r)) (ivST μ') := by
  intro n
  induction n with
  | zero => intro l1 l2 μ r μ' d3 d4 h; unfold lp_X10_isTold_4 at h; cases h
  | succ n ih =>
    intro l1 l2 μ r μ' d3 d4 h
    unfold lp_X10_isTold_4 at h
    refine iv_Ret.stl [5, 6, 9] (ls' := [ivR 110, ivI l1, ivI l2, d3, d4]) (st' := [ivI (μ 110 5), ivI l2]) (w' := (135, μ, iv_rho)) rfl ?_
    rcases iv_iteE h with ⟨c1, h⟩ | ⟨c1, h⟩
    · refine iv_Ret.icT (t := 114) rfl (decide_eq_true c1) rfl ?_
      refine iv_Ret.stl [115] (ls' := [ivR 110, ivI l1, ivI l2, d3, d4]) (st' := [ivI l1]) (w' := (135, μ, iv_rho)) rfl ?_
      obtain ⟨c2, h⟩ := iv_ckE h
      obtain ⟨rfl, rfl⟩ := iv_retE h
      exact iv_Ret.zret rfl c2
    · refine iv_Ret.icF (t := 12) rfl (decide_eq_false c1) rfl ?_
      refine iv_Ret.stl [13, 16] (ls' := [ivR 110, ivI l1, ivI l2, d3, d4]) (st' := [ivR 112]) (w' := (135, μ, iv_rho)) rfl ?_
      refine iv_Ret.stl [17] (ls' := [ivR 110, ivI l1, ivI l2, d3, d4]) (st' := [ivI l2, ivR 112]) (w' := (135, μ, iv_rho)) rfl ?_
      obtain ⟨c3, h⟩ := iv_ckE h
      refine iv_Ret.iald (len := 8) rfl rfl rfl c3.1 c3.2 ?_
      show iv_Ret L 119 18 [ivR 110, ivI l1, ivI l2, d3, d4] [ivI (μ 112 l2.toNat)] (ivST μ) (some (ivI r)) (ivST μ')
      refine iv_Ret.stl [19, 22] (ls' := [ivR 110, ivI l1, ivI l2, d3, d4]) (st' := [ivR 112, ivI (μ 112 l2.toNat)]) (w' := (135, μ, iv_rho)) rfl ?_
      refine iv_Ret.stl [23, 26] (ls' := [ivR 110, ivI l1, ivI l2, d3, d4]) (st' := [ivI (μ 110 5), ivR 112, ivI (μ 112 l2.toNat)]) (w' := (135, μ, iv_rho)) rfl ?_
      obtain ⟨c4, h⟩ := iv_ckE h
      refine iv_Ret.iald (len := 8) rfl rfl rfl c4.1 c4.2 ?_
      show iv_Ret L 119 27 [ivR 110, ivI l1, ivI l2, d3, d4] [ivI (μ 112 (μ 110 5).toNat), ivI (μ 112 l2.toNat)] (ivST μ) (some (ivI r)) (ivST μ')
      refine iv_letE (fun j5 => ∀ (v8 : Int) (μ9 : ivM) (r10 : Int) (μ11 : ivM) (z6 : ivV) (z7 : ivV), j5 v8 μ9 = some (r10, μ11) → iv_Ret L 119 35 [ivR 110, ivI l1, ivI l2, z6, z7] [ivI v8] (ivST μ9) (some (ivI r10)) (ivST μ11)) h (fun v8 μ9 r10 μ11 z6 z7 h => ?_) (fun j5 hj5 h => ?_)
      · refine iv_Ret.stl [36, 37, 39] (ls' := [ivR 110, ivI l1, ivI l2, ivI v8, ivI 0]) (st' := []) (w' := (135, μ9, iv_rho)) rfl ?_
        refine T_lp_X10_isTold_39 L l1 l2 (fun w24 μ26 r27 μ28 z25 h => ?_) iv_fuel v8 0 μ9 _ _ h
        refine iv_Ret.stl [95] (ls' := [ivR 110, ivI l1, ivI l2, ivI w24, z25]) (st' := [ivI l1]) (w' := (135, μ26, iv_rho)) rfl ?_
        refine iv_letE (fun j29 => ∀ (v33 : Int) (μ34 : ivM) (r35 : Int) (μ36 : ivM) (z30 : ivV) (z31 : ivV) (z32 : ivV), j29 v33 μ34 = some (r35, μ36) → iv_Ret L 119 107 [ivR 110, z30, ivI l2, z31, z32] [ivI v33] (ivST μ34) (some (ivI r35)) (ivST μ36)) h (fun v33 μ34 r35 μ36 z30 z31 z32 h => ?_) (fun j29 hj29 h => ?_)
        · refine iv_Ret.stl [108, 111, 4] (ls' := [ivR 110, ivI v33, ivI (iv_wr (l2 + 1)), z31, z32]) (st' := []) (w' := (135, μ34, iv_rho)) rfl ?_
          exact ih v33 (iv_wr (l2 + 1)) μ34 _ _ z31 z32 h
        · refine iv_letE (fun j37 => ∀ (μ41 : ivM) (r42 : Int) (μ43 : ivM) (z38 : ivV) (z39 : ivV) (z40 : ivV), j37 μ41 = some (r42, μ43) → iv_Ret L 119 102 [ivR 110, z38, ivI l2, z39, z40] [] (ivST μ41) (some (ivI r42)) (ivST μ43)) h (fun μ41 r42 μ43 z38 z39 z40 h => ?_) (fun j37 hj37 h => ?_)
          · refine iv_Ret.stl [103, 107] (ls' := [ivR 110, z38, ivI l2, z39, z40]) (st' := [ivI 1]) (w' := (135, μ41, iv_rho)) rfl ?_
            exact hj29 1 μ41 _ _ z38 z39 z40 h
          · rcases iv_iteE h with ⟨c44, h⟩ | ⟨c44, h⟩
            · refine iv_Ret.ifF (t := 98) rfl (decide_eq_false (not_not_intro c44)) rfl ?_
              refine iv_Ret.stl [99] (ls' := [ivR 110, ivI l1, ivI l2, ivI w24, z25]) (st' := [ivI w24]) (w' := (135, μ26, iv_rho)) rfl ?_
              rcases iv_iteE h with ⟨c45, h⟩ | ⟨c45, h⟩
              · refine iv_Ret.ifT (t := 106) rfl (decide_eq_true c45) rfl ?_
                refine iv_Ret.stl [107] (ls' := [ivR 110, ivI l1, ivI l2, ivI w24, z25]) (st' := [ivI 0]) (w' := (135, μ26, iv_rho)) rfl ?_
                exact hj29 0 μ26 _ _ (ivI l1) (ivI w24) z25 h
              · refine iv_Ret.ifF (t := 102) rfl (decide_eq_false c45) rfl ?_
                exact hj37 μ26 _ _ (ivI l1) (ivI w24) z25 h
            · refine iv_Ret.ifT (t := 102) rfl (decide_eq_true c44) rfl ?_
              exact hj37 μ26 _ _ (ivI l1) (ivI w24) z25 h
      · rcases iv_iteE h with ⟨c46, h⟩ | ⟨c46, h⟩
        · refine iv_Ret.icF (t := 30) rfl (decide_eq_false (not_not_intro c46)) rfl ?_
          refine iv_Ret.stl [31, 35] (ls' := [ivR 110, ivI l1, ivI l2, d3, d4]) (st' := [ivI 1]) (w' := (135, μ, iv_rho)) rfl ?_
          exact hj5 1 μ _ _ d3 d4 h
        · refine iv_Ret.icT (t := 34) rfl (decide_eq_true c46) rfl ?_
          refine iv_Ret.stl [35] (ls' := [ivR 110, ivI l1, ivI l2, d3, d4]) (st' := [ivI 0]) (w' := (135, μ, iv_rho)) rfl ?_
          exact hj5 0 μ _ _ d3 d4 h
theorem T_X10_isTold (L : Nat)   {μ μ' : ivM} {r : Int} (h : f_X10_isTold  μ = some (r, μ')) : iv_Ret L 119 0 [ivR 110, ivU, ivU, ivU, ivU] [] (ivST μ) (some (ivI r)) (ivST μ') := by
  unfold f_X10_isTold at h
  refine iv_Ret.stl [1, 2, 3, 4] (ls' := [ivR 110, ivI 0, ivI 0, ivU, ivU]) (st' := []) (w' := (135, μ, iv_rho)) rfl ?_
  exact T_lp_X10_isTold_4 L  iv_fuel 0 0 μ _ _ ivU ivU h
theorem T_lp_X10_readName_12 (L : Nat)   {k70 : Int → ivM → Option (Int × ivM)} (hk70 : ∀ (l1 : Int) (μ : ivM) (r : Int) (μ' : ivM) , k70 l1 μ = some (r, μ') → iv_Ret L 120 70 [ivR 110, ivI l1] [] (ivST μ) none (ivST μ')) : ∀ (n : Nat) (l1 : Int) (μ : ivM) (r : Int) (μ' : ivM), lp_X10_readName_12 k70 n l1 μ = some (r, μ') → iv_Ret L 120 12 [ivR 110, ivI l1] [] (ivST μ) none (ivST μ') := by
  intro n
  induction n with
  | zero => intro l1 μ r μ' h; unfold lp_X10_readName_12 at h; cases h
  | succ n ih =>
    intro l1 μ r μ' h
    unfold lp_X10_readName_12 at h
    refine iv_Ret.stl [13, 14] (ls' := [ivR 110, ivI l1]) (st' := [ivI 5, ivI l1]) (w' := (135, μ, iv_rho)) rfl ?_
    rcases iv_iteE h with ⟨c1, h⟩ | ⟨c1, h⟩
    · refine iv_Ret.icT (t := 70) rfl (decide_eq_true c1) rfl ?_
      exact hk70 l1 μ _ _ h
    · refine iv_Ret.icF (t := 17) rfl (decide_eq_false c1) rfl ?_
      refine iv_Ret.stl [18] (ls' := [ivR 110, ivI l1]) (st' := [ivR 110]) (w' := (135, μ, iv_rho)) rfl ?_
      obtain ⟨r2, μ3, e4, h⟩ := iv_bndE h
      refine iv_Ret.callv rfl rfl rfl (T_X10_here L  e4) ?_
      show iv_Ret L 120 21 [ivR 110, ivI l1] [ivI r2] (ivST μ3) none (ivST μ')
      refine iv_Ret.stl [22, 25, 28] (ls' := [ivR 110, ivI l1]) (st' := [ivJ 102, ivJ 97, ivJ r2]) (w' := (135, μ3, iv_rho)) rfl ?_
      obtain ⟨r5, μ6, e7, h⟩ := iv_bndE h
      refine iv_Ret.calls rfl rfl (T_X10_in L r2 97 102 e7) ?_
      show iv_Ret L 120 31 [ivR 110, ivI l1] [ivI r5] (ivST μ6) none (ivST μ')
      rcases iv_iteE h with ⟨c8, h⟩ | ⟨c8, h⟩
      · refine iv_Ret.ifT (t := 70) rfl (decide_eq_true c8) rfl ?_
        exact hk70 l1 μ6 _ _ h
      · refine iv_Ret.ifF (t := 34) rfl (decide_eq_false c8) rfl ?_
        refine iv_Ret.stl [35, 38] (ls' := [ivR 110, ivI l1]) (st' := [ivR 111]) (w' := (135, μ6, iv_rho)) rfl ?_
        refine iv_Ret.stl [39, 40, 43, 44, 45, 46, 47] (ls' := [ivR 110, ivI l1]) (st' := [ivR 110, ivI (iv_wr ((iv_wr (5 * (μ6 110 5))) + l1)), ivR 111]) (w' := (135, μ6, iv_rho)) rfl ?_
        obtain ⟨r9, μ10, e11, h⟩ := iv_bndE h
        refine iv_Ret.callv rfl rfl rfl (T_X10_here L  e11) ?_
        show iv_Ret L 120 50 [ivR 110, ivI l1] [ivI r9, ivI (iv_wr ((iv_wr (5 * (μ6 110 5))) + l1)), ivR 111] (ivST μ10) none (ivST μ')
        refine iv_Ret.stl [52, 53] (ls' := [ivR 110, ivI l1]) (st' := [ivI (iv_wr (r9 - 97)), ivI (iv_wr ((iv_wr (5 * (μ6 110 5))) + l1)), ivR 111]) (w' := (135, μ10, iv_rho)) rfl ?_
        obtain ⟨c12, h⟩ := iv_ckE h
        refine iv_Ret.iast (len := 40) rfl rfl rfl rfl c12.1 c12.2 ?_
        show iv_Ret L 120 54 [ivR 110, ivI l1] [] (ivST (iv_upd μ10 111 (iv_wr ((iv_wr (5 * (μ6 110 5))) + l1)).toNat (iv_wr (r9 - 97)))) none (ivST μ')
        refine iv_Ret.stl [57, 58, 59, 62, 63, 64, 67, 12] (ls' := [ivR 110, ivI (iv_wr (l1 + 1))]) (st' := []) (w' := (135, (iv_upd (iv_upd μ10 111 (iv_wr ((iv_wr (5 * (μ6 110 5))) + l1)).toNat (iv_wr (r9 - 97))) 110 18 (iv_wr (((iv_upd μ10 111 (iv_wr ((iv_wr (5 * (μ6 110 5))) + l1)).toNat (iv_wr (r9 - 97))) 110 18) + 1))), iv_rho)) rfl ?_
        exact ih (iv_wr (l1 + 1)) (iv_upd (iv_upd μ10 111 (iv_wr ((iv_wr (5 * (μ6 110 5))) + l1)).toNat (iv_wr (r9 - 97))) 110 18 (iv_wr (((iv_upd μ10 111 (iv_wr ((iv_wr (5 * (μ6 110 5))) + l1)).toNat (iv_wr (r9 - 97))) 110 18) + 1))) _ _ h
theorem T_X10_readName (L : Nat)   {μ μ' : ivM} {r : Int} (h : f_X10_readName  μ = some (r, μ')) : iv_Ret L 120 0 [ivR 110, ivU] [] (ivST μ) none (ivST μ') := by
  unfold f_X10_readName at h
  refine iv_Ret.stl [1, 2, 5, 6, 7, 10, 11, 12] (ls' := [ivR 110, ivI 0]) (st' := []) (w' := (135, (iv_upd μ 110 18 (iv_wr ((μ 110 18) + 1))), iv_rho)) rfl ?_
  refine T_lp_X10_readName_12 L  (fun w13 μ14 r15 μ16 h => ?_) iv_fuel 0 (iv_upd μ 110 18 (iv_wr ((μ 110 18) + 1))) _ _ h
  refine iv_Ret.stl [71, 74] (ls' := [ivR 110, ivI w13]) (st' := [ivR 112]) (w' := (135, μ14, iv_rho)) rfl ?_
  refine iv_Ret.stl [75, 78, 79] (ls' := [ivR 110, ivI w13]) (st' := [ivI w13, ivI (μ14 110 5), ivR 112]) (w' := (135, μ14, iv_rho)) rfl ?_
  obtain ⟨c17, h⟩ := iv_ckE h
  refine iv_Ret.iast (len := 8) rfl rfl rfl rfl c17.1 c17.2 ?_
  show iv_Ret L 120 80 [ivR 110, ivI w13] [] (ivST (iv_upd μ14 112 (μ14 110 5).toNat w13)) none (ivST μ16)
  refine iv_Ret.stl [81, 84] (ls' := [ivR 110, ivI w13]) (st' := [ivR 113]) (w' := (135, (iv_upd μ14 112 (μ14 110 5).toNat w13), iv_rho)) rfl ?_
  refine iv_Ret.stl [85, 88, 89] (ls' := [ivR 110, ivI w13]) (st' := [ivI 0, ivI ((iv_upd μ14 112 (μ14 110 5).toNat w13) 110 5), ivR 113]) (w' := (135, (iv_upd μ14 112 (μ14 110 5).toNat w13), iv_rho)) rfl ?_
  obtain ⟨c18, h⟩ := iv_ckE h
  refine iv_Ret.iast (len := 8) rfl rfl rfl rfl c18.1 c18.2 ?_
  show iv_Ret L 120 90 [ivR 110, ivI w13] [] (ivST (iv_upd (iv_upd μ14 112 (μ14 110 5).toNat w13) 113 ((iv_upd μ14 112 (μ14 110 5).toNat w13) 110 5).toNat 0)) none (ivST μ16)
  refine iv_Ret.stl [91] (ls' := [ivR 110, ivI w13]) (st' := [ivI w13]) (w' := (135, (iv_upd (iv_upd μ14 112 (μ14 110 5).toNat w13) 113 ((iv_upd μ14 112 (μ14 110 5).toNat w13) 110 5).toNat 0), iv_rho)) rfl ?_
  refine iv_letE (fun j19 => ∀ (μ21 : ivM) (r22 : Int) (μ23 : ivM) (z20 : ivV), j19 μ21 = some (r22, μ23) → iv_Ret L 120 131 [ivR 110, z20] [] (ivST μ21) none (ivST μ23)) h (fun μ21 r22 μ23 z20 h => ?_) (fun j19 hj19 h => ?_)
  · refine iv_Ret.stl [132, 133, 136, 137, 138, 141] (ls' := [ivR 110, z20]) (st' := []) (w' := (135, (iv_upd μ21 110 5 (iv_wr ((μ21 110 5) + 1))), iv_rho)) rfl ?_
    obtain ⟨rfl, rfl⟩ := iv_retE h
    exact ⟨1, rfl⟩
  · rcases iv_iteE h with ⟨c24, h⟩ | ⟨c24, h⟩
    · refine iv_Ret.ifF (t := 94) rfl (decide_eq_false (not_not_intro c24)) rfl ?_
      refine iv_Ret.stl [95] (ls' := [ivR 110, ivI w13]) (st' := [ivR 110]) (w' := (135, (iv_upd (iv_upd μ14 112 (μ14 110 5).toNat w13) 113 ((iv_upd μ14 112 (μ14 110 5).toNat w13) 110 5).toNat 0), iv_rho)) rfl ?_
      obtain ⟨r25, μ26, e27, h⟩ := iv_bndE h
      refine iv_Ret.callv rfl rfl rfl (T_X10_fail L  e27) ?_
      show iv_Ret L 120 98 [ivR 110, ivI w13] [] (ivST μ26) none (ivST μ16)
      refine iv_Ret.stl [131] (ls' := [ivR 110, ivI w13]) (st' := []) (w' := (135, μ26, iv_rho)) rfl ?_
      exact hj19 μ26 _ _ (ivI w13) h
    · refine iv_Ret.ifT (t := 101) rfl (decide_eq_true c24) rfl ?_
      refine iv_Ret.stl [102] (ls' := [ivR 110, ivI w13]) (st' := [ivR 110]) (w' := (135, (iv_upd (iv_upd μ14 112 (μ14 110 5).toNat w13) 113 ((iv_upd μ14 112 (μ14 110 5).toNat w13) 110 5).toNat 0), iv_rho)) rfl ?_
      obtain ⟨r28, μ29, e30, h⟩ := iv_bndE h
      refine iv_Ret.callv rfl rfl rfl (T_X10_isTold L  e30) ?_
      show iv_Ret L 120 105 [ivR 110, ivI w13] [ivI r28] (ivST μ29) none (ivST μ16)
      rcases iv_iteE h with ⟨c31, h⟩ | ⟨c31, h⟩
      · refine iv_Ret.ifT (t := 131) rfl (decide_eq_true c31) rfl ?_
        exact hj19 μ29 _ _ (ivI w13) h
      · refine iv_Ret.ifF (t := 108) rfl (decide_eq_false c31) rfl ?_
        refine iv_Ret.stl [109, 110, 113, 114, 115] (ls' := [ivR 110, ivI w13]) (st' := [ivI 5, ivI w13, ivI (μ29 110 18), ivR 110]) (w' := (135, μ29, iv_rho)) rfl ?_
        refine iv_letE (fun j32 => ∀ (v34 : Int) (μ35 : ivM) (r36 : Int) (μ37 : ivM) (z33 : ivV), j32 v34 μ35 = some (r36, μ37) → iv_Ret L 120 123 [ivR 110, z33] [ivI v34, ivI (μ29 110 18), ivR 110] (ivST μ35) none (ivST μ37)) h (fun v34 μ35 r36 μ37 z33 h => ?_) (fun j32 hj32 h => ?_)
        · refine iv_Ret.stl [124, 127, 128] (ls' := [ivR 110, z33]) (st' := [ivR 110]) (w' := (135, (iv_upd μ35 110 18 (iv_wr ((μ29 110 18) - v34))), iv_rho)) rfl ?_
          obtain ⟨r38, μ39, e40, h⟩ := iv_bndE h
          refine iv_Ret.callv rfl rfl rfl (T_X10_fail L  e40) ?_
          show iv_Ret L 120 131 [ivR 110, z33] [] (ivST μ39) none (ivST μ37)
          exact hj19 μ39 _ _ z33 h
        · rcases iv_iteE h with ⟨c41, h⟩ | ⟨c41, h⟩
          · refine iv_Ret.icF (t := 118) rfl (decide_eq_false (not_not_intro c41)) rfl ?_
            refine iv_Ret.stl [119, 123] (ls' := [ivR 110, ivI w13]) (st' := [ivI 1, ivI (μ29 110 18), ivR 110]) (w' := (135, μ29, iv_rho)) rfl ?_
            exact hj32 1 μ29 _ _ (ivI w13) h
          · refine iv_Ret.icT (t := 122) rfl (decide_eq_true c41) rfl ?_
            refine iv_Ret.stl [123] (ls' := [ivR 110, ivI w13]) (st' := [ivI 0, ivI (μ29 110 18), ivR 110]) (w' := (135, μ29, iv_rho)) rfl ?_
            exact hj32 0 μ29 _ _ (ivI w13) h
theorem T_lp_X10_readText_47 (L : Nat)   {k225 : ivM → Option (Int × ivM)} (hk225 : ∀  (μ : ivM) (r : Int) (μ' : ivM) (d1 : ivV) (d2 : ivV) (d3 : ivV), k225 μ = some (r, μ') → iv_Ret L 118 225 [ivR 110, d1, d2, d3] [] (ivST μ) (some (ivI r)) (ivST μ')) : ∀ (n : Nat) (μ : ivM) (r : Int) (μ' : ivM) (d1 : ivV) (d2 : ivV) (d3 : ivV), lp_X10_readText_47 k225 n μ = some (r, μ') → iv_Ret L 118 47 [ivR 110, d1, d2, d3] [] (ivST μ) (some (ivI r)) (ivST μ') := by
  intro n
  induction n with
  | zero => intro μ r μ' d1 d2 d3 h; unfold lp_X10_readText_47 at h; cases h
  | succ n ih =>
    intro μ r μ' d1 d2 d3 h
    unfold lp_X10_readText_47 at h
    refine iv_Ret.stl [48, 51, 53] (ls' := [ivR 110, d1, d2, d3]) (st' := [ivI (-9), ivI (μ 110 19)]) (w' := (135, μ, iv_rho)) rfl ?_
    rcases iv_iteE h with ⟨c8, h⟩ | ⟨c8, h⟩
    · refine iv_Ret.icF (t := 56) rfl (decide_eq_false (not_not_intro c8)) rfl ?_
      refine iv_Ret.stl [57, 60, 61, 64] (ls' := [ivR 110, d1, d2, d3]) (st' := [ivI (μ 110 17), ivI (μ 110 18)]) (w' := (135, μ, iv_rho)) rfl ?_
      rcases iv_iteE h with ⟨c9, h⟩ | ⟨c9, h⟩
      · refine iv_Ret.icT (t := 225) rfl (decide_eq_true c9) rfl ?_
        exact hk225 μ _ _ d1 d2 d3 h
      · refine iv_Ret.icF (t := 67) rfl (decide_eq_false c9) rfl ?_
        refine iv_Ret.stl [68] (ls' := [ivR 110, d1, d2, d3]) (st' := [ivR 110]) (w' := (135, μ, iv_rho)) rfl ?_
        obtain ⟨r10, μ11, e12, h⟩ := iv_bndE h
        refine iv_Ret.callv rfl rfl rfl (T_X10_here L  e12) ?_
        show iv_Ret L 118 71 [ivR 110, d1, d2, d3] [ivI r10] (ivST μ11) (some (ivI r)) (ivST μ')
        refine iv_Ret.stl [72, 73, 75] (ls' := [ivR 110, ivI r10, d2, d3]) (st' := [ivI 78, ivI r10]) (w' := (135, μ11, iv_rho)) rfl ?_
        refine iv_letE (fun j13 => ∀ (μ17 : ivM) (r18 : Int) (μ19 : ivM) (z14 : ivV) (z15 : ivV) (z16 : ivV), j13 μ17 = some (r18, μ19) → iv_Ret L 118 222 [ivR 110, z14, z15, z16] [] (ivST μ17) (some (ivI r18)) (ivST μ19)) h (fun μ17 r18 μ19 z14 z15 z16 h => ?_) (fun j13 hj13 h => ?_)
        · refine iv_Ret.stl [47] (ls' := [ivR 110, z14, z15, z16]) (st' := []) (w' := (135, μ17, iv_rho)) rfl ?_
          exact ih μ17 _ _ z14 z15 z16 h
        · refine iv_letE (fun j20 => ∀ (μ23 : ivM) (r24 : Int) (μ25 : ivM) (z21 : ivV) (z22 : ivV), j20 μ23 = some (r24, μ25) → iv_Ret L 118 94 [ivR 110, ivI r10, z21, z22] [] (ivST μ23) (some (ivI r24)) (ivST μ25)) h (fun μ23 r24 μ25 z21 z22 h => ?_) (fun j20 hj20 h => ?_)
          · refine iv_Ret.stl [95, 97] (ls' := [ivR 110, ivI r10, z21, z22]) (st' := [ivI 80, ivI r10]) (w' := (135, μ23, iv_rho)) rfl ?_
            refine iv_letE (fun j26 => ∀ (μ29 : ivM) (r30 : Int) (μ31 : ivM) (z27 : ivV) (z28 : ivV), j26 μ29 = some (r30, μ31) → iv_Ret L 118 148 [ivR 110, ivI r10, z27, z28] [] (ivST μ29) (some (ivI r30)) (ivST μ31)) h (fun μ29 r30 μ31 z27 z28 h => ?_) (fun j26 hj26 h => ?_)
            · refine iv_Ret.stl [149, 151] (ls' := [ivR 110, ivI r10, z27, z28]) (st' := [ivI 75, ivI r10]) (w' := (135, μ29, iv_rho)) rfl ?_
              refine iv_letE (fun j32 => ∀ (μ36 : ivM) (r37 : Int) (μ38 : ivM) (z33 : ivV) (z34 : ivV) (z35 : ivV), j32 μ36 = some (r37, μ38) → iv_Ret L 118 218 [ivR 110, z33, z34, z35] [] (ivST μ36) (some (ivI r37)) (ivST μ38)) h (fun μ36 r37 μ38 z33 z34 z35 h => ?_) (fun j32 hj32 h => ?_)
              · refine iv_Ret.stl [219] (ls' := [ivR 110, z33, z34, z35]) (st' := [ivR 110]) (w' := (135, μ36, iv_rho)) rfl ?_
                obtain ⟨r39, μ40, e41, h⟩ := iv_bndE h
                refine iv_Ret.callv rfl rfl rfl (T_X10_fail L  e41) ?_
                show iv_Ret L 118 222 [ivR 110, z33, z34, z35] [] (ivST μ40) (some (ivI r37)) (ivST μ38)
                exact hj13 μ40 _ _ z33 z34 z35 h
              · rcases iv_iteE h with ⟨c42, h⟩ | ⟨c42, h⟩
                · refine iv_Ret.icF (t := 154) rfl (decide_eq_false (not_not_intro c42)) rfl ?_
                  refine iv_Ret.stl [155] (ls' := [ivR 110, ivI r10, z27, z28]) (st' := [ivR 110]) (w' := (135, μ29, iv_rho)) rfl ?_
                  obtain ⟨r43, μ44, e45, h⟩ := iv_bndE h
                  refine iv_Ret.callv rfl rfl rfl (T_X10_open L  e45) ?_
                  show iv_Ret L 118 158 [ivR 110, ivI r10, z27, z28] [ivI r43] (ivST μ44) (some (ivI r30)) (ivST μ31)
                  rcases iv_iteE h with ⟨c46, h⟩ | ⟨c46, h⟩
                  · refine iv_Ret.ifT (t := 218) rfl (decide_eq_true c46) rfl ?_
                    exact hj32 μ44 _ _ (ivI r10) z27 z28 h
                  · refine iv_Ret.ifF (t := 161) rfl (decide_eq_false c46) rfl ?_
                    refine iv_Ret.stl [162, 163, 166, 167, 168, 171, 172, 173] (ls' := [ivR 110, ivI r10, z27, z28]) (st' := [ivR 110, ivR 110]) (w' := (135, (iv_upd μ44 110 18 (iv_wr ((μ44 110 18) + 1))), iv_rho)) rfl ?_
                    obtain ⟨r47, μ48, e49, h⟩ := iv_bndE h
                    refine iv_Ret.callv rfl rfl rfl (T_X10_open L  e49) ?_
                    show iv_Ret L 118 176 [ivR 110, ivI r10, z27, z28] [ivI r47, ivR 110] (ivST μ48) (some (ivI r30)) (ivST μ31)
                    obtain ⟨r50, μ51, e52, h⟩ := iv_bndE h
                    refine iv_Ret.callv rfl rfl rfl (T_X10_figure L r47 e52) ?_
                    show iv_Ret L 118 179 [ivR 110, ivI r10, z27, z28] [ivI r50] (ivST μ51) (some (ivI r30)) (ivST μ31)
                    refine iv_Ret.stl [180, 181, 182, 183] (ls' := [ivR 110, ivI r10, ivI r50, z28]) (st' := [ivI r50, ivR 110, ivR 110]) (w' := (135, μ51, iv_rho)) rfl ?_
                    obtain ⟨r53, μ54, e55, h⟩ := iv_bndE h
                    refine iv_Ret.callv rfl rfl rfl (T_X10_unknown L r50 e55) ?_
                    show iv_Ret L 118 186 [ivR 110, ivI r10, ivI r50, z28] [ivI r53, ivR 110] (ivST μ54) (some (ivI r30)) (ivST μ31)
                    obtain ⟨r56, μ57, e58, h⟩ := iv_bndE h
                    refine iv_Ret.callv rfl rfl rfl (T_X10_figure L r53 e58) ?_
                    show iv_Ret L 118 189 [ivR 110, ivI r10, ivI r50, z28] [ivI r56] (ivST μ57) (some (ivI r30)) (ivST μ31)
                    refine iv_Ret.stl [190, 191, 194] (ls' := [ivR 110, ivI r10, ivI r50, ivI r56]) (st' := [ivR 113]) (w' := (135, μ57, iv_rho)) rfl ?_
                    refine iv_Ret.stl [195, 196] (ls' := [ivR 110, ivI r10, ivI r50, ivI r56]) (st' := [ivI r56, ivR 113, ivI r56, ivR 113]) (w' := (135, μ57, iv_rho)) rfl ?_
                    obtain ⟨c59, h⟩ := iv_ckE h
                    refine iv_Ret.iald (len := 8) rfl rfl rfl c59.1 c59.2 ?_
                    show iv_Ret L 118 197 [ivR 110, ivI r10, ivI r50, ivI r56] [ivI (μ57 113 r56.toNat), ivI r56, ivR 113] (ivST μ57) (some (ivI r30)) (ivST μ31)
                    refine iv_Ret.stl [198, 201, 203] (ls' := [ivR 110, ivI r10, ivI r50, ivI r56]) (st' := [ivI (-9), ivI (μ57 110 19), ivI (μ57 113 r56.toNat), ivI r56, ivR 113]) (w' := (135, μ57, iv_rho)) rfl ?_
                    refine iv_letE (fun j60 => ∀ (v64 : Int) (μ65 : ivM) (r66 : Int) (μ67 : ivM) (z61 : ivV) (z62 : ivV) (z63 : ivV), j60 v64 μ65 = some (r66, μ67) → iv_Ret L 118 213 [ivR 110, z61, z62, z63] [ivI v64, ivI (μ57 113 r56.toNat), ivI r56, ivR 113] (ivST μ65) (some (ivI r66)) (ivST μ67)) h (fun v64 μ65 r66 μ67 z61 z62 z63 h => ?_) (fun j60 hj60 h => ?_)
                    · refine iv_Ret.stl [214] (ls' := [ivR 110, z61, z62, z63]) (st' := [ivI (iv_or (μ57 113 r56.toNat) v64), ivI r56, ivR 113]) (w' := (135, μ65, iv_rho)) rfl ?_
                      obtain ⟨c68, h⟩ := iv_ckE h
                      refine iv_Ret.iast (len := 8) rfl rfl rfl rfl c68.1 c68.2 ?_
                      show iv_Ret L 118 215 [ivR 110, z61, z62, z63] [] (ivST (iv_upd μ65 113 r56.toNat (iv_or (μ57 113 r56.toNat) v64))) (some (ivI r66)) (ivST μ67)
                      refine iv_Ret.stl [222] (ls' := [ivR 110, z61, z62, z63]) (st' := []) (w' := (135, (iv_upd μ65 113 r56.toNat (iv_or (μ57 113 r56.toNat) v64)), iv_rho)) rfl ?_
                      exact hj13 (iv_upd μ65 113 r56.toNat (iv_or (μ57 113 r56.toNat) v64)) _ _ z61 z62 z63 h
                    · rcases iv_iteE h with ⟨c69, h⟩ | ⟨c69, h⟩
                      · refine iv_Ret.icF (t := 206) rfl (decide_eq_false (not_not_intro c69)) rfl ?_
                        refine iv_Ret.stl [207, 208, 209, 213] (ls' := [ivR 110, ivI r10, ivI r50, ivI r56]) (st' := [ivI (iv_shl 1 r50), ivI (μ57 113 r56.toNat), ivI r56, ivR 113]) (w' := (135, μ57, iv_rho)) rfl ?_
                        exact hj60 (iv_shl 1 r50) μ57 _ _ (ivI r10) (ivI r50) (ivI r56) h
                      · refine iv_Ret.icT (t := 212) rfl (decide_eq_true c69) rfl ?_
                        refine iv_Ret.stl [213] (ls' := [ivR 110, ivI r10, ivI r50, ivI r56]) (st' := [ivI 0, ivI (μ57 113 r56.toNat), ivI r56, ivR 113]) (w' := (135, μ57, iv_rho)) rfl ?_
                        exact hj60 0 μ57 _ _ (ivI r10) (ivI r50) (ivI r56) h
                · refine iv_Ret.icT (t := 218) rfl (decide_eq_true c42) rfl ?_
                  exact hj32 μ29 _ _ (ivI r10) z27 z28 h
            · rcases iv_iteE h with ⟨c70, h⟩ | ⟨c70, h⟩
              · refine iv_Ret.icF (t := 100) rfl (decide_eq_false (not_not_intro c70)) rfl ?_
                refine iv_Ret.stl [101, 104, 106] (ls' := [ivR 110, ivI r10, z21, z22]) (st' := [ivI 6, ivI (μ23 110 6)]) (w' := (135, μ23, iv_rho)) rfl ?_
                rcases iv_iteE h with ⟨c71, h⟩ | ⟨c71, h⟩
                · refine iv_Ret.icT (t := 148) rfl (decide_eq_true c71) rfl ?_
                  exact hj26 μ23 _ _ z21 z22 h
                · refine iv_Ret.icF (t := 109) rfl (decide_eq_false c71) rfl ?_
                  refine iv_Ret.stl [110, 111, 114, 115, 116, 119, 120, 123] (ls' := [ivR 110, ivI r10, z21, z22]) (st' := [ivR 114]) (w' := (135, (iv_upd μ23 110 18 (iv_wr ((μ23 110 18) + 1))), iv_rho)) rfl ?_
                  refine iv_Ret.stl [124, 127, 128, 131] (ls' := [ivR 110, ivI r10, z21, z22]) (st' := [ivI 1022, ivR 110, ivI ((iv_upd μ23 110 18 (iv_wr ((μ23 110 18) + 1))) 110 6), ivR 114]) (w' := (135, (iv_upd μ23 110 18 (iv_wr ((μ23 110 18) + 1))), iv_rho)) rfl ?_
                  obtain ⟨r72, μ73, e74, h⟩ := iv_bndE h
                  refine iv_Ret.callv rfl rfl rfl (T_X10_figure L 1022 e74) ?_
                  show iv_Ret L 118 134 [ivR 110, ivI r10, z21, z22] [ivI r72, ivI ((iv_upd μ23 110 18 (iv_wr ((μ23 110 18) + 1))) 110 6), ivR 114] (ivST μ73) (some (ivI r24)) (ivST μ25)
                  obtain ⟨c75, h⟩ := iv_ckE h
                  refine iv_Ret.iast (len := 6) rfl rfl rfl rfl c75.1 c75.2 ?_
                  show iv_Ret L 118 135 [ivR 110, ivI r10, z21, z22] [] (ivST (iv_upd μ73 114 ((iv_upd μ23 110 18 (iv_wr ((μ23 110 18) + 1))) 110 6).toNat r72)) (some (ivI r24)) (ivST μ25)
                  refine iv_Ret.stl [136, 137, 140, 141, 142, 145, 222] (ls' := [ivR 110, ivI r10, z21, z22]) (st' := []) (w' := (135, (iv_upd (iv_upd μ73 114 ((iv_upd μ23 110 18 (iv_wr ((μ23 110 18) + 1))) 110 6).toNat r72) 110 6 (iv_wr (((iv_upd μ73 114 ((iv_upd μ23 110 18 (iv_wr ((μ23 110 18) + 1))) 110 6).toNat r72) 110 6) + 1))), iv_rho)) rfl ?_
                  exact hj13 (iv_upd (iv_upd μ73 114 ((iv_upd μ23 110 18 (iv_wr ((μ23 110 18) + 1))) 110 6).toNat r72) 110 6 (iv_wr (((iv_upd μ73 114 ((iv_upd μ23 110 18 (iv_wr ((μ23 110 18) + 1))) 110 6).toNat r72) 110 6) + 1))) _ _ (ivI r10) z21 z22 h
              · refine iv_Ret.icT (t := 148) rfl (decide_eq_true c70) rfl ?_
                exact hj26 μ23 _ _ z21 z22 h
          · rcases iv_iteE h with ⟨c76, h⟩ | ⟨c76, h⟩
            · refine iv_Ret.icF (t := 78) rfl (decide_eq_false (not_not_intro c76)) rfl ?_
              refine iv_Ret.stl [79, 82, 84] (ls' := [ivR 110, ivI r10, d2, d3]) (st' := [ivI 8, ivI (μ11 110 5)]) (w' := (135, μ11, iv_rho)) rfl ?_
              rcases iv_iteE h with ⟨c77, h⟩ | ⟨c77, h⟩
              · refine iv_Ret.icT (t := 94) rfl (decide_eq_true c77) rfl ?_
                exact hj20 μ11 _ _ d2 d3 h
              · refine iv_Ret.icF (t := 87) rfl (decide_eq_false c77) rfl ?_
                refine iv_Ret.stl [88] (ls' := [ivR 110, ivI r10, d2, d3]) (st' := [ivR 110]) (w' := (135, μ11, iv_rho)) rfl ?_
                obtain ⟨r78, μ79, e80, h⟩ := iv_bndE h
                refine iv_Ret.callv rfl rfl rfl (T_X10_readName L  e80) ?_
                show iv_Ret L 118 91 [ivR 110, ivI r10, d2, d3] [] (ivST μ79) (some (ivI r)) (ivST μ')
                refine iv_Ret.stl [222] (ls' := [ivR 110, ivI r10, d2, d3]) (st' := []) (w' := (135, μ79, iv_rho)) rfl ?_
                exact hj13 μ79 _ _ (ivI r10) d2 d3 h
            · refine iv_Ret.icT (t := 94) rfl (decide_eq_true c76) rfl ?_
              exact hj20 μ11 _ _ d2 d3 h
    · refine iv_Ret.icT (t := 225) rfl (decide_eq_true c8) rfl ?_
      exact hk225 μ _ _ d1 d2 d3 h
theorem T_X10_readText (L : Nat)   {μ μ' : ivM} {r : Int} (h : f_X10_readText  μ = some (r, μ')) : iv_Ret L 118 0 [ivR 110, ivU, ivU, ivU] [] (ivST μ) (some (ivI r)) (ivST μ') := by
  unfold f_X10_readText at h
  refine iv_Ret.stl [1, 2, 5, 6, 8, 11, 12, 13, 16, 17, 18, 21, 22] (ls' := [ivR 110, ivU, ivU, ivU]) (st' := [ivR 110]) (w' := (135, (iv_upd (iv_upd (iv_upd (iv_upd μ 110 18 0) 110 19 (-9)) 110 5 0) 110 6 0), iv_rho)) rfl ?_
  obtain ⟨r1, μ2, e3, h⟩ := iv_bndE h
  refine iv_Ret.callv rfl rfl rfl (T_X10_here L  e3) ?_
  show iv_Ret L 118 25 [ivR 110, ivU, ivU, ivU] [ivI r1] (ivST μ2) (some (ivI r)) (ivST μ')
  refine iv_Ret.stl [27] (ls' := [ivR 110, ivU, ivU, ivU]) (st' := [ivI 72, ivI r1]) (w' := (135, μ2, iv_rho)) rfl ?_
  rcases iv_iteE h with ⟨c4, h⟩ | ⟨c4, h⟩
  · refine iv_Ret.icT (t := 32) rfl (decide_eq_true c4) rfl ?_
    refine iv_Ret.stl [33, 34, 37, 38, 39, 41] (ls' := [ivR 110, ivU, ivU, ivU]) (st' := [ivI 15, ivR 110, ivR 110]) (w' := (135, (iv_upd μ2 110 18 1), iv_rho)) rfl ?_
    obtain ⟨r5, μ6, e7, h⟩ := iv_bndE h
    refine iv_Ret.callv rfl rfl rfl (T_X10_figure L 15 e7) ?_
    show iv_Ret L 118 44 [ivR 110, ivU, ivU, ivU] [ivI r5, ivR 110] (ivST μ6) (some (ivI r)) (ivST μ')
    refine iv_Ret.stl [47] (ls' := [ivR 110, ivU, ivU, ivU]) (st' := []) (w' := (135, (iv_upd μ6 110 4 r5), iv_rho)) rfl ?_
    refine T_lp_X10_readText_47 L  (fun μ84 r85 μ86 z81 z82 z83 h => ?_) iv_fuel (iv_upd μ6 110 4 r5) _ _ ivU ivU ivU h
    refine iv_Ret.stl [226, 229] (ls' := [ivR 110, z81, z82, z83]) (st' := [ivI (μ84 110 19)]) (w' := (135, μ84, iv_rho)) rfl ?_
    obtain ⟨rfl, rfl⟩ := iv_retE h
    exact ⟨1, rfl⟩
  · refine iv_Ret.icF (t := 30) rfl (decide_eq_false c4) rfl ?_
    refine iv_Ret.stl [31] (ls' := [ivR 110, ivU, ivU, ivU]) (st' := [ivI 0]) (w' := (135, μ2, iv_rho)) rfl ?_
    obtain ⟨rfl, rfl⟩ := iv_retE h
    exact ⟨1, rfl⟩
theorem T_X10_fault (L : Nat)   {μ μ' : ivM} {r : Int} (h : f_X10_fault  μ = some (r, μ')) : iv_Ret L 121 0 [ivR 110] [] (ivST μ) (some (ivI r)) (ivST μ') := by
  unfold f_X10_fault at h
  refine iv_Ret.stl [1] (ls' := [ivR 110]) (st' := [ivR 110]) (w' := (135, μ, iv_rho)) rfl ?_
  obtain ⟨r1, μ2, e3, h⟩ := iv_bndE h
  refine iv_Ret.callv rfl rfl rfl (T_X10_readText L  e3) ?_
  show iv_Ret L 121 4 [ivR 110] [ivI r1] (ivST μ2) (some (ivI r)) (ivST μ')
  obtain ⟨rfl, rfl⟩ := iv_retE h
  exact ⟨1, rfl⟩
theorem T_lp_X10_house_14 (L : Nat)   {k38 : ivM → Option (Int × ivM)} (hk38 : ∀  (μ : ivM) (r : Int) (μ' : ivM) (d1 : ivV), k38 μ = some (r, μ') → iv_Ret L 122 38 [ivR 110, d1] [] (ivST μ) (some (ivI r)) (ivST μ')) : ∀ (n : Nat) (l1 : Int) (μ : ivM) (r : Int) (μ' : ivM), lp_X10_house_14 k38 n l1 μ = some (r, μ') → iv_Ret L 122 14 [ivR 110, ivI l1] [] (ivST μ) (some (ivI r)) (ivST μ') := by
  intro n
  induction n with
  | zero => intro l1 μ r μ' h; unfold lp_X10_house_14 at h; cases h
  | succ n ih =>
    intro l1 μ r μ' h
    unfold lp_X10_house_14 at h
    refine iv_Ret.stl [15, 17] (ls' := [ivR 110, ivI l1]) (st' := [ivI 40, ivI l1]) (w' := (135, μ, iv_rho)) rfl ?_
    rcases iv_iteE h with ⟨c5, h⟩ | ⟨c5, h⟩
    · refine iv_Ret.icT (t := 38) rfl (decide_eq_true c5) rfl ?_
      exact hk38 μ _ _ (ivI l1) h
    · refine iv_Ret.icF (t := 20) rfl (decide_eq_false c5) rfl ?_
      refine iv_Ret.stl [21, 24] (ls' := [ivR 110, ivI l1]) (st' := [ivR 115]) (w' := (135, μ, iv_rho)) rfl ?_
      refine iv_Ret.stl [25, 26, 29] (ls' := [ivR 110, ivI l1]) (st' := [ivR 111, ivI l1, ivR 115]) (w' := (135, μ, iv_rho)) rfl ?_
      refine iv_Ret.stl [30] (ls' := [ivR 110, ivI l1]) (st' := [ivI l1, ivR 111, ivI l1, ivR 115]) (w' := (135, μ, iv_rho)) rfl ?_
      obtain ⟨c6, h⟩ := iv_ckE h
      refine iv_Ret.iald (len := 40) rfl rfl rfl c6.1 c6.2 ?_
      show iv_Ret L 122 31 [ivR 110, ivI l1] [ivI (μ 111 l1.toNat), ivI l1, ivR 115] (ivST μ) (some (ivI r)) (ivST μ')
      obtain ⟨c7, h⟩ := iv_ckE h
      refine iv_Ret.iast (len := 40) rfl rfl rfl rfl c7.1 c7.2 ?_
      show iv_Ret L 122 32 [ivR 110, ivI l1] [] (ivST (iv_upd μ 115 l1.toNat (μ 111 l1.toNat))) (some (ivI r)) (ivST μ')
      refine iv_Ret.stl [35, 14] (ls' := [ivR 110, ivI (iv_wr (l1 + 1))]) (st' := []) (w' := (135, (iv_upd μ 115 l1.toNat (μ 111 l1.toNat)), iv_rho)) rfl ?_
      exact ih (iv_wr (l1 + 1)) (iv_upd μ 115 l1.toNat (μ 111 l1.toNat)) _ _ h
theorem T_lp_X10_house_40 (L : Nat)   {k107 : ivM → Option (Int × ivM)} (hk107 : ∀  (μ : ivM) (r : Int) (μ' : ivM) (d1 : ivV), k107 μ = some (r, μ') → iv_Ret L 122 107 [ivR 110, d1] [] (ivST μ) (some (ivI r)) (ivST μ')) : ∀ (n : Nat) (l1 : Int) (μ : ivM) (r : Int) (μ' : ivM), lp_X10_house_40 k107 n l1 μ = some (r, μ') → iv_Ret L 122 40 [ivR 110, ivI l1] [] (ivST μ) (some (ivI r)) (ivST μ') := by
  intro n
  induction n with
  | zero => intro l1 μ r μ' h; unfold lp_X10_house_40 at h; cases h
  | succ n ih =>
    intro l1 μ r μ' h
    unfold lp_X10_house_40 at h
    refine iv_Ret.stl [41, 43] (ls' := [ivR 110, ivI l1]) (st' := [ivI 8, ivI l1]) (w' := (135, μ, iv_rho)) rfl ?_
    rcases iv_iteE h with ⟨c12, h⟩ | ⟨c12, h⟩
    · refine iv_Ret.icT (t := 107) rfl (decide_eq_true c12) rfl ?_
      exact hk107 μ _ _ (ivI l1) h
    · refine iv_Ret.icF (t := 46) rfl (decide_eq_false c12) rfl ?_
      refine iv_Ret.stl [47, 50] (ls' := [ivR 110, ivI l1]) (st' := [ivR 116]) (w' := (135, μ, iv_rho)) rfl ?_
      refine iv_Ret.stl [51, 52, 53, 56] (ls' := [ivR 110, ivI l1]) (st' := [ivI (μ 110 5), ivI l1, ivI l1, ivR 116]) (w' := (135, μ, iv_rho)) rfl ?_
      refine iv_letE (fun j13 => ∀ (v14 : Int) (μ15 : ivM) (r16 : Int) (μ17 : ivM), j13 v14 μ15 = some (r16, μ17) → iv_Ret L 122 69 [ivR 110, ivI l1] [ivI v14, ivI l1, ivR 116] (ivST μ15) (some (ivI r16)) (ivST μ17)) h (fun v14 μ15 r16 μ17 h => ?_) (fun j13 hj13 h => ?_)
      · obtain ⟨c18, h⟩ := iv_ckE h
        refine iv_Ret.iast (len := 8) rfl rfl rfl rfl c18.1 c18.2 ?_
        show iv_Ret L 122 70 [ivR 110, ivI l1] [] (ivST (iv_upd μ15 116 l1.toNat v14)) (some (ivI r16)) (ivST μ17)
        refine iv_Ret.stl [71, 74] (ls' := [ivR 110, ivI l1]) (st' := [ivR 117]) (w' := (135, (iv_upd μ15 116 l1.toNat v14), iv_rho)) rfl ?_
        refine iv_Ret.stl [75, 76, 77, 80] (ls' := [ivR 110, ivI l1]) (st' := [ivI ((iv_upd μ15 116 l1.toNat v14) 110 5), ivI l1, ivI l1, ivR 117]) (w' := (135, (iv_upd μ15 116 l1.toNat v14), iv_rho)) rfl ?_
        refine iv_letE (fun j19 => ∀ (v20 : Int) (μ21 : ivM) (r22 : Int) (μ23 : ivM), j19 v20 μ21 = some (r22, μ23) → iv_Ret L 122 93 [ivR 110, ivI l1] [ivI v20, ivI l1, ivR 117] (ivST μ21) (some (ivI r22)) (ivST μ23)) h (fun v20 μ21 r22 μ23 h => ?_) (fun j19 hj19 h => ?_)
        · obtain ⟨c24, h⟩ := iv_ckE h
          refine iv_Ret.iast (len := 8) rfl rfl rfl rfl c24.1 c24.2 ?_
          show iv_Ret L 122 94 [ivR 110, ivI l1] [] (ivST (iv_upd μ21 117 l1.toNat v20)) (some (ivI r22)) (ivST μ23)
          refine iv_Ret.stl [95, 98] (ls' := [ivR 110, ivI l1]) (st' := [ivR 118]) (w' := (135, (iv_upd μ21 117 l1.toNat v20), iv_rho)) rfl ?_
          refine iv_Ret.stl [99, 100] (ls' := [ivR 110, ivI l1]) (st' := [ivI 0, ivI l1, ivR 118]) (w' := (135, (iv_upd μ21 117 l1.toNat v20), iv_rho)) rfl ?_
          obtain ⟨c25, h⟩ := iv_ckE h
          refine iv_Ret.iast (len := 8) rfl rfl rfl rfl c25.1 c25.2 ?_
          show iv_Ret L 122 101 [ivR 110, ivI l1] [] (ivST (iv_upd (iv_upd μ21 117 l1.toNat v20) 118 l1.toNat 0)) (some (ivI r22)) (ivST μ23)
          refine iv_Ret.stl [104, 40] (ls' := [ivR 110, ivI (iv_wr (l1 + 1))]) (st' := []) (w' := (135, (iv_upd (iv_upd μ21 117 l1.toNat v20) 118 l1.toNat 0), iv_rho)) rfl ?_
          exact ih (iv_wr (l1 + 1)) (iv_upd (iv_upd μ21 117 l1.toNat v20) 118 l1.toNat 0) _ _ h
        · rcases iv_iteE h with ⟨c26, h⟩ | ⟨c26, h⟩
          · refine iv_Ret.icT (t := 92) rfl (decide_eq_true c26) rfl ?_
            refine iv_Ret.stl [93] (ls' := [ivR 110, ivI l1]) (st' := [ivI 0, ivI l1, ivR 117]) (w' := (135, (iv_upd μ15 116 l1.toNat v14), iv_rho)) rfl ?_
            exact hj19 0 (iv_upd μ15 116 l1.toNat v14) _ _ h
          · refine iv_Ret.icF (t := 83) rfl (decide_eq_false c26) rfl ?_
            refine iv_Ret.stl [84, 87] (ls' := [ivR 110, ivI l1]) (st' := [ivR 113, ivI l1, ivR 117]) (w' := (135, (iv_upd μ15 116 l1.toNat v14), iv_rho)) rfl ?_
            refine iv_Ret.stl [88] (ls' := [ivR 110, ivI l1]) (st' := [ivI l1, ivR 113, ivI l1, ivR 117]) (w' := (135, (iv_upd μ15 116 l1.toNat v14), iv_rho)) rfl ?_
            obtain ⟨c27, h⟩ := iv_ckE h
            refine iv_Ret.iald (len := 8) rfl rfl rfl c27.1 c27.2 ?_
            show iv_Ret L 122 89 [ivR 110, ivI l1] [ivI ((iv_upd μ15 116 l1.toNat v14) 113 l1.toNat), ivI l1, ivR 117] (ivST (iv_upd μ15 116 l1.toNat v14)) (some (ivI r16)) (ivST μ17)
            refine iv_Ret.stl [93] (ls' := [ivR 110, ivI l1]) (st' := [ivI ((iv_upd μ15 116 l1.toNat v14) 113 l1.toNat), ivI l1, ivR 117]) (w' := (135, (iv_upd μ15 116 l1.toNat v14), iv_rho)) rfl ?_
            exact hj19 ((iv_upd μ15 116 l1.toNat v14) 113 l1.toNat) (iv_upd μ15 116 l1.toNat v14) _ _ h
      · rcases iv_iteE h with ⟨c28, h⟩ | ⟨c28, h⟩
        · refine iv_Ret.icT (t := 68) rfl (decide_eq_true c28) rfl ?_
          refine iv_Ret.stl [69] (ls' := [ivR 110, ivI l1]) (st' := [ivI 0, ivI l1, ivR 116]) (w' := (135, μ, iv_rho)) rfl ?_
          exact hj13 0 μ _ _ h
        · refine iv_Ret.icF (t := 59) rfl (decide_eq_false c28) rfl ?_
          refine iv_Ret.stl [60, 63] (ls' := [ivR 110, ivI l1]) (st' := [ivR 112, ivI l1, ivR 116]) (w' := (135, μ, iv_rho)) rfl ?_
          refine iv_Ret.stl [64] (ls' := [ivR 110, ivI l1]) (st' := [ivI l1, ivR 112, ivI l1, ivR 116]) (w' := (135, μ, iv_rho)) rfl ?_
          obtain ⟨c29, h⟩ := iv_ckE h
          refine iv_Ret.iald (len := 8) rfl rfl rfl c29.1 c29.2 ?_
          show iv_Ret L 122 65 [ivR 110, ivI l1] [ivI (μ 112 l1.toNat), ivI l1, ivR 116] (ivST μ) (some (ivI r)) (ivST μ')
          refine iv_Ret.stl [69] (ls' := [ivR 110, ivI l1]) (st' := [ivI (μ 112 l1.toNat), ivI l1, ivR 116]) (w' := (135, μ, iv_rho)) rfl ?_
          exact hj13 (μ 112 l1.toNat) μ _ _ h
theorem T_lp_X10_house_109 (L : Nat)   {k133 : ivM → Option (Int × ivM)} (hk133 : ∀  (μ : ivM) (r : Int) (μ' : ivM) (d1 : ivV), k133 μ = some (r, μ') → iv_Ret L 122 133 [ivR 110, d1] [] (ivST μ) (some (ivI r)) (ivST μ')) : ∀ (n : Nat) (l1 : Int) (μ : ivM) (r : Int) (μ' : ivM), lp_X10_house_109 k133 n l1 μ = some (r, μ') → iv_Ret L 122 109 [ivR 110, ivI l1] [] (ivST μ) (some (ivI r)) (ivST μ') := by
  intro n
  induction n with
  | zero => intro l1 μ r μ' h; unfold lp_X10_house_109 at h; cases h
  | succ n ih =>
    intro l1 μ r μ' h
    unfold lp_X10_house_109 at h
    refine iv_Ret.stl [110, 112] (ls' := [ivR 110, ivI l1]) (st' := [ivI 6, ivI l1]) (w' := (135, μ, iv_rho)) rfl ?_
    rcases iv_iteE h with ⟨c34, h⟩ | ⟨c34, h⟩
    · refine iv_Ret.icT (t := 133) rfl (decide_eq_true c34) rfl ?_
      exact hk133 μ _ _ (ivI l1) h
    · refine iv_Ret.icF (t := 115) rfl (decide_eq_false c34) rfl ?_
      refine iv_Ret.stl [116, 119] (ls' := [ivR 110, ivI l1]) (st' := [ivR 119]) (w' := (135, μ, iv_rho)) rfl ?_
      refine iv_Ret.stl [120, 121, 124] (ls' := [ivR 110, ivI l1]) (st' := [ivR 114, ivI l1, ivR 119]) (w' := (135, μ, iv_rho)) rfl ?_
      refine iv_Ret.stl [125] (ls' := [ivR 110, ivI l1]) (st' := [ivI l1, ivR 114, ivI l1, ivR 119]) (w' := (135, μ, iv_rho)) rfl ?_
      obtain ⟨c35, h⟩ := iv_ckE h
      refine iv_Ret.iald (len := 6) rfl rfl rfl c35.1 c35.2 ?_
      show iv_Ret L 122 126 [ivR 110, ivI l1] [ivI (μ 114 l1.toNat), ivI l1, ivR 119] (ivST μ) (some (ivI r)) (ivST μ')
      obtain ⟨c36, h⟩ := iv_ckE h
      refine iv_Ret.iast (len := 6) rfl rfl rfl rfl c36.1 c36.2 ?_
      show iv_Ret L 122 127 [ivR 110, ivI l1] [] (ivST (iv_upd μ 119 l1.toNat (μ 114 l1.toNat))) (some (ivI r)) (ivST μ')
      refine iv_Ret.stl [130, 109] (ls' := [ivR 110, ivI (iv_wr (l1 + 1))]) (st' := []) (w' := (135, (iv_upd μ 119 l1.toNat (μ 114 l1.toNat)), iv_rho)) rfl ?_
      exact ih (iv_wr (l1 + 1)) (iv_upd μ 119 l1.toNat (μ 114 l1.toNat)) _ _ h
theorem T_X10_house (L : Nat)   {μ μ' : ivM} {r : Int} (h : f_X10_house  μ = some (r, μ')) : iv_Ret L 122 0 [ivR 110, ivU] [] (ivST μ) (some (ivI r)) (ivST μ') := by
  unfold f_X10_house at h
  refine iv_Ret.stl [1] (ls' := [ivR 110, ivU]) (st' := [ivR 110]) (w' := (135, μ, iv_rho)) rfl ?_
  obtain ⟨r1, μ2, e3, h⟩ := iv_bndE h
  refine iv_Ret.callv rfl rfl rfl (T_X10_readText L  e3) ?_
  show iv_Ret L 122 4 [ivR 110, ivU] [ivI r1] (ivST μ2) (some (ivI r)) (ivST μ')
  refine iv_Ret.stl [6] (ls' := [ivR 110, ivU]) (st' := [ivI (-9), ivI r1]) (w' := (135, μ2, iv_rho)) rfl ?_
  rcases iv_iteE h with ⟨c4, h⟩ | ⟨c4, h⟩
  · refine iv_Ret.icT (t := 12) rfl (decide_eq_true c4) rfl ?_
    refine iv_Ret.stl [13, 14] (ls' := [ivR 110, ivI 0]) (st' := []) (w' := (135, μ2, iv_rho)) rfl ?_
    refine T_lp_X10_house_14 L  (fun μ9 r10 μ11 z8 h => ?_) iv_fuel 0 μ2 _ _ h
    refine iv_Ret.stl [39, 40] (ls' := [ivR 110, ivI 0]) (st' := []) (w' := (135, μ9, iv_rho)) rfl ?_
    refine T_lp_X10_house_40 L  (fun μ31 r32 μ33 z30 h => ?_) iv_fuel 0 μ9 _ _ h
    refine iv_Ret.stl [108, 109] (ls' := [ivR 110, ivI 0]) (st' := []) (w' := (135, μ31, iv_rho)) rfl ?_
    refine T_lp_X10_house_109 L  (fun μ38 r39 μ40 z37 h => ?_) iv_fuel 0 μ31 _ _ h
    refine iv_Ret.stl [134, 135, 138, 141, 142, 143, 146, 149, 150, 151, 154, 157, 158, 159, 162, 163, 166] (ls' := [ivR 110, z37]) (st' := [ivR 130]) (w' := (135, (iv_upd (iv_upd (iv_upd (iv_upd μ38 110 12 (μ38 110 4)) 110 13 ((iv_upd μ38 110 12 (μ38 110 4)) 110 5)) 110 14 ((iv_upd (iv_upd μ38 110 12 (μ38 110 4)) 110 13 ((iv_upd μ38 110 12 (μ38 110 4)) 110 5)) 110 6)) 110 15 0), iv_rho)) rfl ?_
    refine iv_Ret.stl [167, 168] (ls' := [ivR 110, z37]) (st' := [ivI 0, ivI 0, ivR 130]) (w' := (135, (iv_upd (iv_upd (iv_upd (iv_upd μ38 110 12 (μ38 110 4)) 110 13 ((iv_upd μ38 110 12 (μ38 110 4)) 110 5)) 110 14 ((iv_upd (iv_upd μ38 110 12 (μ38 110 4)) 110 13 ((iv_upd μ38 110 12 (μ38 110 4)) 110 5)) 110 6)) 110 15 0), iv_rho)) rfl ?_
    refine iv_Ret.bast (len := 2) rfl rfl rfl rfl (by decide) (by decide) ?_
    show iv_Ret L 122 169 [ivR 110, z37] [] (ivST (iv_upd (iv_upd (iv_upd (iv_upd (iv_upd μ38 110 12 (μ38 110 4)) 110 13 ((iv_upd μ38 110 12 (μ38 110 4)) 110 5)) 110 14 ((iv_upd (iv_upd μ38 110 12 (μ38 110 4)) 110 13 ((iv_upd μ38 110 12 (μ38 110 4)) 110 5)) 110 6)) 110 15 0) 130 0 (0 % 2))) (some (ivI r39)) (ivST μ40)
    refine iv_Ret.stl [170, 173] (ls' := [ivR 110, z37]) (st' := [ivR 130]) (w' := (135, (iv_upd (iv_upd (iv_upd (iv_upd (iv_upd μ38 110 12 (μ38 110 4)) 110 13 ((iv_upd μ38 110 12 (μ38 110 4)) 110 5)) 110 14 ((iv_upd (iv_upd μ38 110 12 (μ38 110 4)) 110 13 ((iv_upd μ38 110 12 (μ38 110 4)) 110 5)) 110 6)) 110 15 0) 130 0 (0 % 2)), iv_rho)) rfl ?_
    refine iv_Ret.stl [174, 175] (ls' := [ivR 110, z37]) (st' := [ivI 0, ivI 1, ivR 130]) (w' := (135, (iv_upd (iv_upd (iv_upd (iv_upd (iv_upd μ38 110 12 (μ38 110 4)) 110 13 ((iv_upd μ38 110 12 (μ38 110 4)) 110 5)) 110 14 ((iv_upd (iv_upd μ38 110 12 (μ38 110 4)) 110 13 ((iv_upd μ38 110 12 (μ38 110 4)) 110 5)) 110 6)) 110 15 0) 130 0 (0 % 2)), iv_rho)) rfl ?_
    refine iv_Ret.bast (len := 2) rfl rfl rfl rfl (by decide) (by decide) ?_
    show iv_Ret L 122 176 [ivR 110, z37] [] (ivST (iv_upd (iv_upd (iv_upd (iv_upd (iv_upd (iv_upd μ38 110 12 (μ38 110 4)) 110 13 ((iv_upd μ38 110 12 (μ38 110 4)) 110 5)) 110 14 ((iv_upd (iv_upd μ38 110 12 (μ38 110 4)) 110 13 ((iv_upd μ38 110 12 (μ38 110 4)) 110 5)) 110 6)) 110 15 0) 130 0 (0 % 2)) 130 1 (0 % 2))) (some (ivI r39)) (ivST μ40)
    refine iv_Ret.stl [178, 179, 182, 183, 184, 187, 188] (ls' := [ivR 110, z37]) (st' := [ivI (iv_wr ((iv_wr (10 * ((iv_upd (iv_upd (iv_upd (iv_upd (iv_upd (iv_upd μ38 110 12 (μ38 110 4)) 110 13 ((iv_upd μ38 110 12 (μ38 110 4)) 110 5)) 110 14 ((iv_upd (iv_upd μ38 110 12 (μ38 110 4)) 110 13 ((iv_upd μ38 110 12 (μ38 110 4)) 110 5)) 110 6)) 110 15 0) 130 0 (0 % 2)) 130 1 (0 % 2)) 110 13))) + ((iv_upd (iv_upd (iv_upd (iv_upd (iv_upd (iv_upd μ38 110 12 (μ38 110 4)) 110 13 ((iv_upd μ38 110 12 (μ38 110 4)) 110 5)) 110 14 ((iv_upd (iv_upd μ38 110 12 (μ38 110 4)) 110 13 ((iv_upd μ38 110 12 (μ38 110 4)) 110 5)) 110 6)) 110 15 0) 130 0 (0 % 2)) 130 1 (0 % 2)) 110 14)))]) (w' := (135, (iv_upd (iv_upd (iv_upd (iv_upd (iv_upd (iv_upd μ38 110 12 (μ38 110 4)) 110 13 ((iv_upd μ38 110 12 (μ38 110 4)) 110 5)) 110 14 ((iv_upd (iv_upd μ38 110 12 (μ38 110 4)) 110 13 ((iv_upd μ38 110 12 (μ38 110 4)) 110 5)) 110 6)) 110 15 0) 130 0 (0 % 2)) 130 1 (0 % 2)), iv_rho)) rfl ?_
    obtain ⟨rfl, rfl⟩ := iv_retE h
    exact ⟨1, rfl⟩
  · refine iv_Ret.icF (t := 9) rfl (decide_eq_false c4) rfl ?_
    refine iv_Ret.stl [11] (ls' := [ivR 110, ivU]) (st' := [ivI (-3)]) (w' := (135, μ2, iv_rho)) rfl ?_
    obtain ⟨rfl, rfl⟩ := iv_retE h
    exact ⟨1, rfl⟩
theorem T_X10_isThing (L : Nat) (p1 : Int)  {μ μ' : ivM} {r : Int} (h : f_X10_isThing p1 μ = some (r, μ')) : iv_Ret L 123 0 [ivR 110, ivI p1] [] (ivST μ) (some (ivI r)) (ivST μ') := by
  unfold f_X10_isThing at h
  refine iv_Ret.stl [1, 2, 3, 4, 7, 8, 9, 10] (ls' := [ivR 110, ivI p1]) (st' := [ivJ (iv_wr ((μ 110 13) - 1)), ivJ 0, ivJ p1]) (w' := (135, μ, iv_rho)) rfl ?_
  obtain ⟨r1, μ2, e3, h⟩ := iv_bndE h
  refine iv_Ret.calls rfl rfl (T_X10_in L p1 0 (iv_wr ((μ 110 13) - 1)) e3) ?_
  show iv_Ret L 123 13 [ivR 110, ivI p1] [ivI r1] (ivST μ2) (some (ivI r)) (ivST μ')
  obtain ⟨c4, h⟩ := iv_ckE h
  obtain ⟨rfl, rfl⟩ := iv_retE h
  exact iv_Ret.zret rfl c4
theorem T_X10_isPerson (L : Nat) (p1 : Int)  {μ μ' : ivM} {r : Int} (h : f_X10_isPerson p1 μ = some (r, μ')) : iv_Ret L 124 0 [ivR 110, ivI p1] [] (ivST μ) (some (ivI r)) (ivST μ') := by
  unfold f_X10_isPerson at h
  refine iv_Ret.stl [1, 2, 3, 4, 7, 8, 9, 10] (ls' := [ivR 110, ivI p1]) (st' := [ivJ (iv_wr ((μ 110 14) - 1)), ivJ 0, ivJ p1]) (w' := (135, μ, iv_rho)) rfl ?_
  obtain ⟨r1, μ2, e3, h⟩ := iv_bndE h
  refine iv_Ret.calls rfl rfl (T_X10_in L p1 0 (iv_wr ((μ 110 14) - 1)) e3) ?_
  show iv_Ret L 124 13 [ivR 110, ivI p1] [ivI r1] (ivST μ2) (some (ivI r)) (ivST μ')
  obtain ⟨c4, h⟩ := iv_ckE h
  obtain ⟨rfl, rfl⟩ := iv_retE h
  exact iv_Ret.zret rfl c4
theorem T_X10_sound (L : Nat) (p1 : Int) (p2 : Int)  {μ μ' : ivM} {r : Int} (h : f_X10_sound p1 p2 μ = some (r, μ')) : iv_Ret L 125 0 [ivR 110, ivI p1, ivI p2] [] (ivST μ) (some (ivI r)) (ivST μ') := by
  unfold f_X10_sound at h
  refine iv_Ret.stl [1, 2] (ls' := [ivR 110, ivI p1, ivI p2]) (st' := [ivI p1, ivR 110]) (w' := (135, μ, iv_rho)) rfl ?_
  obtain ⟨r1, μ2, e3, h⟩ := iv_bndE h
  refine iv_Ret.callv rfl rfl rfl (T_X10_isThing L p1 e3) ?_
  show iv_Ret L 125 5 [ivR 110, ivI p1, ivI p2] [ivI r1] (ivST μ2) (some (ivI r)) (ivST μ')
  rcases iv_iteE h with ⟨c4, h⟩ | ⟨c4, h⟩
  · refine iv_Ret.ifF (t := 8) rfl (decide_eq_false (not_not_intro c4)) rfl ?_
    refine iv_Ret.stl [9] (ls' := [ivR 110, ivI p1, ivI p2]) (st' := [ivI (-1)]) (w' := (135, μ2, iv_rho)) rfl ?_
    obtain ⟨rfl, rfl⟩ := iv_retE h
    exact ⟨1, rfl⟩
  · refine iv_Ret.ifT (t := 10) rfl (decide_eq_true c4) rfl ?_
    refine iv_Ret.stl [11, 12, 13, 14, 17] (ls' := [ivR 110, ivI p1, ivI p2]) (st' := [ivR 116, ivJ 0, ivJ p2]) (w' := (135, μ2, iv_rho)) rfl ?_
    refine iv_Ret.stl [18] (ls' := [ivR 110, ivI p1, ivI p2]) (st' := [ivI p1, ivR 116, ivJ 0, ivJ p2]) (w' := (135, μ2, iv_rho)) rfl ?_
    obtain ⟨c5, h⟩ := iv_ckE h
    refine iv_Ret.iald (len := 8) rfl rfl rfl c5.1 c5.2 ?_
    show iv_Ret L 125 19 [ivR 110, ivI p1, ivI p2] [ivI (μ2 116 p1.toNat), ivJ 0, ivJ p2] (ivST μ2) (some (ivI r)) (ivST μ')
    refine iv_Ret.stl [20, 21, 22] (ls' := [ivR 110, ivI p1, ivI p2]) (st' := [ivJ (iv_wr ((μ2 116 p1.toNat) - 1)), ivJ 0, ivJ p2]) (w' := (135, μ2, iv_rho)) rfl ?_
    obtain ⟨r6, μ7, e8, h⟩ := iv_bndE h
    refine iv_Ret.calls rfl rfl (T_X10_in L p2 0 (iv_wr ((μ2 116 p1.toNat) - 1)) e8) ?_
    show iv_Ret L 125 25 [ivR 110, ivI p1, ivI p2] [ivI r6] (ivST μ7) (some (ivI r)) (ivST μ')
    refine iv_letE (fun j9 => ∀ (v13 : Int) (μ14 : ivM) (r15 : Int) (μ16 : ivM) (z10 : ivV) (z11 : ivV) (z12 : ivV), j9 v13 μ14 = some (r15, μ16) → iv_Ret L 125 43 [z10, z11, z12] [ivI v13] (ivST μ14) (some (ivI r15)) (ivST μ16)) h (fun v13 μ14 r15 μ16 z10 z11 z12 h => ?_) (fun j9 hj9 h => ?_)
    · obtain ⟨rfl, rfl⟩ := iv_retE h
      exact ⟨1, rfl⟩
    · rcases iv_iteE h with ⟨c17, h⟩ | ⟨c17, h⟩
      · refine iv_Ret.ifT (t := 41) rfl (decide_eq_true c17) rfl ?_
        refine iv_Ret.stl [43] (ls' := [ivR 110, ivI p1, ivI p2]) (st' := [ivI (-9)]) (w' := (135, μ7, iv_rho)) rfl ?_
        exact hj9 (-9) μ7 _ _ (ivR 110) (ivI p1) (ivI p2) h
      · refine iv_Ret.ifF (t := 28) rfl (decide_eq_false c17) rfl ?_
        refine iv_Ret.stl [29, 32] (ls' := [ivR 110, ivI p1, ivI p2]) (st' := [ivR 115]) (w' := (135, μ7, iv_rho)) rfl ?_
        refine iv_Ret.stl [33, 34, 35, 36, 37] (ls' := [ivR 110, ivI p1, ivI p2]) (st' := [ivI (iv_wr ((iv_wr (5 * p1)) + p2)), ivR 115]) (w' := (135, μ7, iv_rho)) rfl ?_
        obtain ⟨c18, h⟩ := iv_ckE h
        refine iv_Ret.iald (len := 40) rfl rfl rfl c18.1 c18.2 ?_
        show iv_Ret L 125 38 [ivR 110, ivI p1, ivI p2] [ivI (μ7 115 (iv_wr ((iv_wr (5 * p1)) + p2)).toNat)] (ivST μ7) (some (ivI r)) (ivST μ')
        refine iv_Ret.stl [43] (ls' := [ivR 110, ivI p1, ivI p2]) (st' := [ivI (μ7 115 (iv_wr ((iv_wr (5 * p1)) + p2)).toNat)]) (w' := (135, μ7, iv_rho)) rfl ?_
        exact hj9 (μ7 115 (iv_wr ((iv_wr (5 * p1)) + p2)).toNat) μ7 _ _ (ivR 110) (ivI p1) (ivI p2) h
theorem T_X10_least (L : Nat) (p0 : Int) (p1 : Int) (p2 : Int)  {μ μ' : ivM} {r : Int} (h : f_X10_least p0 p1 p2 μ = some (r, μ')) : iv_Ret L 126 0 [ivI p0, ivI p1, ivI p2, ivU] [] (ivST μ) (some (ivI r)) (ivST μ') := by
  unfold f_X10_least at h
  refine iv_Ret.stl [1, 2] (ls' := [ivI p0, ivI p1, ivI p2, ivU]) (st' := [ivI p1, ivI p0]) (w' := (135, μ, iv_rho)) rfl ?_
  refine iv_letE (fun j1 => ∀ (v5 : Int) (μ6 : ivM) (r7 : Int) (μ8 : ivM) (z2 : ivV) (z3 : ivV) (z4 : ivV), j1 v5 μ6 = some (r7, μ8) → iv_Ret L 126 10 [z2, z3, ivI p2, z4] [ivI v5] (ivST μ6) (some (ivI r7)) (ivST μ8)) h (fun v5 μ6 r7 μ8 z2 z3 z4 h => ?_) (fun j1 hj1 h => ?_)
  · refine iv_Ret.stl [11, 12, 13] (ls' := [z2, z3, ivI p2, ivI v5]) (st' := [ivI p2, ivI v5]) (w' := (135, μ6, iv_rho)) rfl ?_
    refine iv_letE (fun j9 => ∀ (v14 : Int) (μ15 : ivM) (r16 : Int) (μ17 : ivM) (z10 : ivV) (z11 : ivV) (z12 : ivV) (z13 : ivV), j9 v14 μ15 = some (r16, μ17) → iv_Ret L 126 21 [z10, z11, z12, z13] [ivI v14] (ivST μ15) (some (ivI r16)) (ivST μ17)) h (fun v14 μ15 r16 μ17 z10 z11 z12 z13 h => ?_) (fun j9 hj9 h => ?_)
    · obtain ⟨rfl, rfl⟩ := iv_retE h
      exact ⟨1, rfl⟩
    · rcases iv_iteE h with ⟨c18, h⟩ | ⟨c18, h⟩
      · refine iv_Ret.icT (t := 20) rfl (decide_eq_true c18) rfl ?_
        refine iv_Ret.stl [21] (ls' := [z2, z3, ivI p2, ivI v5]) (st' := [ivI p2]) (w' := (135, μ6, iv_rho)) rfl ?_
        exact hj9 p2 μ6 _ _ z2 z3 (ivI p2) (ivI v5) h
      · refine iv_Ret.icF (t := 16) rfl (decide_eq_false c18) rfl ?_
        refine iv_Ret.stl [17, 21] (ls' := [z2, z3, ivI p2, ivI v5]) (st' := [ivI v5]) (w' := (135, μ6, iv_rho)) rfl ?_
        exact hj9 v5 μ6 _ _ z2 z3 (ivI p2) (ivI v5) h
  · rcases iv_iteE h with ⟨c19, h⟩ | ⟨c19, h⟩
    · refine iv_Ret.icT (t := 9) rfl (decide_eq_true c19) rfl ?_
      refine iv_Ret.stl [10] (ls' := [ivI p0, ivI p1, ivI p2, ivU]) (st' := [ivI p1]) (w' := (135, μ, iv_rho)) rfl ?_
      exact hj1 p1 μ _ _ (ivI p0) (ivI p1) ivU h
    · refine iv_Ret.icF (t := 5) rfl (decide_eq_false c19) rfl ?_
      refine iv_Ret.stl [6, 10] (ls' := [ivI p0, ivI p1, ivI p2, ivU]) (st' := [ivI p0]) (w' := (135, μ, iv_rho)) rfl ?_
      exact hj1 p0 μ _ _ (ivI p0) (ivI p1) ivU h
theorem T_lp_X10_offTried_12 (L : Nat) (l1 : Int) (l2 : Int)  {k138 : ivM → Option (Int × ivM)} (hk138 : ∀  (μ : ivM) (r : Int) (μ' : ivM) (d3 : ivV) (d4 : ivV), k138 μ = some (r, μ') → iv_Ret L 127 138 [ivR 110, ivI l1, ivI l2, d3, d4] [] (ivST μ) (some (ivI r)) (ivST μ')) : ∀ (n : Nat) (l3 : Int) (μ : ivM) (r : Int) (μ' : ivM) (d4 : ivV), lp_X10_offTried_12 l1 l2 k138 n l3 μ = some (r, μ') → iv_Ret L 127 12 [ivR 110, ivI l1, ivI l2, ivI l3, d4] [] (ivST μ) (some (ivI r)) (ivST μ') := by
  intro n
  induction n with
  | zero => intro l3 μ r μ' d4 h; unfold lp_X10_offTried_12 at h; cases h
  | succ n ih =>
    intro l3 μ r μ' d4 h
    unfold lp_X10_offTried_12 at h
    refine iv_Ret.stl [13, 14, 17] (ls' := [ivR 110, ivI l1, ivI l2, ivI l3, d4]) (st' := [ivR 116, ivI l3]) (w' := (135, μ, iv_rho)) rfl ?_
    refine iv_Ret.stl [18] (ls' := [ivR 110, ivI l1, ivI l2, ivI l3, d4]) (st' := [ivI l1, ivR 116, ivI l3]) (w' := (135, μ, iv_rho)) rfl ?_
    obtain ⟨c2, h⟩ := iv_ckE h
    refine iv_Ret.iald (len := 8) rfl rfl rfl c2.1 c2.2 ?_
    show iv_Ret L 127 19 [ivR 110, ivI l1, ivI l2, ivI l3, d4] [ivI (μ 116 l1.toNat), ivI l3] (ivST μ) (some (ivI r)) (ivST μ')
    rcases iv_iteE h with ⟨c3, h⟩ | ⟨c3, h⟩
    · refine iv_Ret.icT (t := 138) rfl (decide_eq_true c3) rfl ?_
      exact hk138 μ _ _ (ivI l3) d4 h
    · refine iv_Ret.icF (t := 22) rfl (decide_eq_false c3) rfl ?_
      refine iv_Ret.stl [23] (ls' := [ivR 110, ivI l1, ivI l2, ivI l3, d4]) (st' := [ivI l2]) (w' := (135, μ, iv_rho)) rfl ?_
      refine iv_letE (fun j4 => ∀ (v6 : Int) (μ7 : ivM) (r8 : Int) (μ9 : ivM) (z5 : ivV), j4 v6 μ7 = some (r8, μ9) → iv_Ret L 127 117 [ivR 110, ivI l1, ivI l2, ivI l3, z5] [ivI v6] (ivST μ7) (some (ivI r8)) (ivST μ9)) h (fun v6 μ7 r8 μ9 z5 h => ?_) (fun j4 hj4 h => ?_)
      · refine iv_Ret.stl [119, 120, 123] (ls' := [ivR 110, ivI l1, ivI l2, ivI l3, ivI v6]) (st' := [ivR 122]) (w' := (135, μ7, iv_rho)) rfl ?_
        refine iv_Ret.stl [125, 126, 127, 128, 129, 131] (ls' := [ivR 110, ivI l1, ivI l2, ivI l3, ivI v6]) (st' := [ivI v6, ivI (iv_wr ((iv_wr (6 * l2)) + l3)), ivR 122]) (w' := (135, μ7, iv_rho)) rfl ?_
        obtain ⟨c10, h⟩ := iv_ckE h
        refine iv_Ret.iast (len := 36) rfl rfl rfl rfl c10.1 c10.2 ?_
        show iv_Ret L 127 132 [ivR 110, ivI l1, ivI l2, ivI l3, ivI v6] [] (ivST (iv_upd μ7 122 (iv_wr ((iv_wr (6 * l2)) + l3)).toNat v6)) (some (ivI r8)) (ivST μ9)
        refine iv_Ret.stl [135, 12] (ls' := [ivR 110, ivI l1, ivI l2, ivI (iv_wr (l3 + 1)), ivI v6]) (st' := []) (w' := (135, (iv_upd μ7 122 (iv_wr ((iv_wr (6 * l2)) + l3)).toNat v6), iv_rho)) rfl ?_
        exact ih (iv_wr (l3 + 1)) (iv_upd μ7 122 (iv_wr ((iv_wr (6 * l2)) + l3)).toNat v6) _ _ (ivI v6) h
      · rcases iv_iteE h with ⟨c11, h⟩ | ⟨c11, h⟩
        · refine iv_Ret.ifF (t := 26) rfl (decide_eq_false (not_not_intro c11)) rfl ?_
          refine iv_Ret.stl [27, 117] (ls' := [ivR 110, ivI l1, ivI l2, ivI l3, d4]) (st' := [ivI l3]) (w' := (135, μ, iv_rho)) rfl ?_
          exact hj4 l3 μ _ _ d4 h
        · refine iv_Ret.ifT (t := 30) rfl (decide_eq_true c11) rfl ?_
          refine iv_Ret.stl [31] (ls' := [ivR 110, ivI l1, ivI l2, ivI l3, d4]) (st' := [ivI l3]) (w' := (135, μ, iv_rho)) rfl ?_
          rcases iv_iteE h with ⟨c12, h⟩ | ⟨c12, h⟩
          · refine iv_Ret.ifF (t := 34) rfl (decide_eq_false (not_not_intro c12)) rfl ?_
            refine iv_Ret.stl [35, 117] (ls' := [ivR 110, ivI l1, ivI l2, ivI l3, d4]) (st' := [ivI l2]) (w' := (135, μ, iv_rho)) rfl ?_
            exact hj4 l2 μ _ _ d4 h
          · refine iv_Ret.ifT (t := 38) rfl (decide_eq_true c12) rfl ?_
            refine iv_Ret.stl [39, 42] (ls' := [ivR 110, ivI l1, ivI l2, ivI l3, d4]) (st' := [ivR 122]) (w' := (135, μ, iv_rho)) rfl ?_
            refine iv_Ret.stl [44, 45, 46, 48, 49, 50, 51] (ls' := [ivR 110, ivI l1, ivI l2, ivI l3, d4]) (st' := [ivI (iv_wr ((iv_wr ((iv_wr (6 * l2)) - 6)) + l3)), ivR 122]) (w' := (135, μ, iv_rho)) rfl ?_
            obtain ⟨c13, h⟩ := iv_ckE h
            refine iv_Ret.iald (len := 36) rfl rfl rfl c13.1 c13.2 ?_
            show iv_Ret L 127 52 [ivR 110, ivI l1, ivI l2, ivI l3, d4] [ivI (μ 122 (iv_wr ((iv_wr ((iv_wr (6 * l2)) - 6)) + l3)).toNat)] (ivST μ) (some (ivI r)) (ivST μ')
            refine iv_Ret.stl [53, 54, 55, 58] (ls' := [ivR 110, ivI l1, ivI l2, ivI l3, d4]) (st' := [ivR 122, ivI (iv_wr ((μ 122 (iv_wr ((iv_wr ((iv_wr (6 * l2)) - 6)) + l3)).toNat) + 1))]) (w' := (135, μ, iv_rho)) rfl ?_
            refine iv_Ret.stl [60, 61, 62, 63, 64, 65, 66] (ls' := [ivR 110, ivI l1, ivI l2, ivI l3, d4]) (st' := [ivI (iv_wr ((iv_wr ((iv_wr (6 * l2)) + l3)) - 1)), ivR 122, ivI (iv_wr ((μ 122 (iv_wr ((iv_wr ((iv_wr (6 * l2)) - 6)) + l3)).toNat) + 1))]) (w' := (135, μ, iv_rho)) rfl ?_
            obtain ⟨c14, h⟩ := iv_ckE h
            refine iv_Ret.iald (len := 36) rfl rfl rfl c14.1 c14.2 ?_
            show iv_Ret L 127 67 [ivR 110, ivI l1, ivI l2, ivI l3, d4] [ivI (μ 122 (iv_wr ((iv_wr ((iv_wr (6 * l2)) + l3)) - 1)).toNat), ivI (iv_wr ((μ 122 (iv_wr ((iv_wr ((iv_wr (6 * l2)) - 6)) + l3)).toNat) + 1))] (ivST μ) (some (ivI r)) (ivST μ')
            refine iv_Ret.stl [68, 69, 70, 73] (ls' := [ivR 110, ivI l1, ivI l2, ivI l3, d4]) (st' := [ivR 122, ivI (iv_wr ((μ 122 (iv_wr ((iv_wr ((iv_wr (6 * l2)) + l3)) - 1)).toNat) + 1)), ivI (iv_wr ((μ 122 (iv_wr ((iv_wr ((iv_wr (6 * l2)) - 6)) + l3)).toNat) + 1))]) (w' := (135, μ, iv_rho)) rfl ?_
            refine iv_Ret.stl [75, 76, 77, 79, 80, 81, 82, 83, 84] (ls' := [ivR 110, ivI l1, ivI l2, ivI l3, d4]) (st' := [ivI (iv_wr ((iv_wr ((iv_wr ((iv_wr (6 * l2)) - 6)) + l3)) - 1)), ivR 122, ivI (iv_wr ((μ 122 (iv_wr ((iv_wr ((iv_wr (6 * l2)) + l3)) - 1)).toNat) + 1)), ivI (iv_wr ((μ 122 (iv_wr ((iv_wr ((iv_wr (6 * l2)) - 6)) + l3)).toNat) + 1))]) (w' := (135, μ, iv_rho)) rfl ?_
            obtain ⟨c15, h⟩ := iv_ckE h
            refine iv_Ret.iald (len := 36) rfl rfl rfl c15.1 c15.2 ?_
            show iv_Ret L 127 85 [ivR 110, ivI l1, ivI l2, ivI l3, d4] [ivI (μ 122 (iv_wr ((iv_wr ((iv_wr ((iv_wr (6 * l2)) - 6)) + l3)) - 1)).toNat), ivI (iv_wr ((μ 122 (iv_wr ((iv_wr ((iv_wr (6 * l2)) + l3)) - 1)).toNat) + 1)), ivI (iv_wr ((μ 122 (iv_wr ((iv_wr ((iv_wr (6 * l2)) - 6)) + l3)).toNat) + 1))] (ivST μ) (some (ivI r)) (ivST μ')
            refine iv_Ret.stl [86, 89] (ls' := [ivR 110, ivI l1, ivI l2, ivI l3, d4]) (st' := [ivR 121, ivI (μ 122 (iv_wr ((iv_wr ((iv_wr ((iv_wr (6 * l2)) - 6)) + l3)) - 1)).toNat), ivI (iv_wr ((μ 122 (iv_wr ((iv_wr ((iv_wr (6 * l2)) + l3)) - 1)).toNat) + 1)), ivI (iv_wr ((μ 122 (iv_wr ((iv_wr ((iv_wr (6 * l2)) - 6)) + l3)).toNat) + 1))]) (w' := (135, μ, iv_rho)) rfl ?_
            refine iv_Ret.stl [90, 91, 92] (ls' := [ivR 110, ivI l1, ivI l2, ivI l3, d4]) (st' := [ivI (iv_wr (l2 - 1)), ivR 121, ivI (μ 122 (iv_wr ((iv_wr ((iv_wr ((iv_wr (6 * l2)) - 6)) + l3)) - 1)).toNat), ivI (iv_wr ((μ 122 (iv_wr ((iv_wr ((iv_wr (6 * l2)) + l3)) - 1)).toNat) + 1)), ivI (iv_wr ((μ 122 (iv_wr ((iv_wr ((iv_wr (6 * l2)) - 6)) + l3)).toNat) + 1))]) (w' := (135, μ, iv_rho)) rfl ?_
            obtain ⟨c16, h⟩ := iv_ckE h
            refine iv_Ret.iald (len := 5) rfl rfl rfl c16.1 c16.2 ?_
            show iv_Ret L 127 93 [ivR 110, ivI l1, ivI l2, ivI l3, d4] [ivI (μ 121 (iv_wr (l2 - 1)).toNat), ivI (μ 122 (iv_wr ((iv_wr ((iv_wr ((iv_wr (6 * l2)) - 6)) + l3)) - 1)).toNat), ivI (iv_wr ((μ 122 (iv_wr ((iv_wr ((iv_wr (6 * l2)) + l3)) - 1)).toNat) + 1)), ivI (iv_wr ((μ 122 (iv_wr ((iv_wr ((iv_wr (6 * l2)) - 6)) + l3)).toNat) + 1))] (ivST μ) (some (ivI r)) (ivST μ')
            refine iv_Ret.stl [94, 97] (ls' := [ivR 110, ivI l1, ivI l2, ivI l3, d4]) (st' := [ivR 115, ivI (μ 121 (iv_wr (l2 - 1)).toNat), ivI (μ 122 (iv_wr ((iv_wr ((iv_wr ((iv_wr (6 * l2)) - 6)) + l3)) - 1)).toNat), ivI (iv_wr ((μ 122 (iv_wr ((iv_wr ((iv_wr (6 * l2)) + l3)) - 1)).toNat) + 1)), ivI (iv_wr ((μ 122 (iv_wr ((iv_wr ((iv_wr (6 * l2)) - 6)) + l3)).toNat) + 1))]) (w' := (135, μ, iv_rho)) rfl ?_
            refine iv_Ret.stl [98, 99, 100, 101, 102, 103, 104] (ls' := [ivR 110, ivI l1, ivI l2, ivI l3, d4]) (st' := [ivI (iv_wr ((iv_wr ((iv_wr (5 * l1)) + l3)) - 1)), ivR 115, ivI (μ 121 (iv_wr (l2 - 1)).toNat), ivI (μ 122 (iv_wr ((iv_wr ((iv_wr ((iv_wr (6 * l2)) - 6)) + l3)) - 1)).toNat), ivI (iv_wr ((μ 122 (iv_wr ((iv_wr ((iv_wr (6 * l2)) + l3)) - 1)).toNat) + 1)), ivI (iv_wr ((μ 122 (iv_wr ((iv_wr ((iv_wr (6 * l2)) - 6)) + l3)).toNat) + 1))]) (w' := (135, μ, iv_rho)) rfl ?_
            obtain ⟨c17, h⟩ := iv_ckE h
            refine iv_Ret.iald (len := 40) rfl rfl rfl c17.1 c17.2 ?_
            show iv_Ret L 127 105 [ivR 110, ivI l1, ivI l2, ivI l3, d4] [ivI (μ 115 (iv_wr ((iv_wr ((iv_wr (5 * l1)) + l3)) - 1)).toNat), ivI (μ 121 (iv_wr (l2 - 1)).toNat), ivI (μ 122 (iv_wr ((iv_wr ((iv_wr ((iv_wr (6 * l2)) - 6)) + l3)) - 1)).toNat), ivI (iv_wr ((μ 122 (iv_wr ((iv_wr ((iv_wr (6 * l2)) + l3)) - 1)).toNat) + 1)), ivI (iv_wr ((μ 122 (iv_wr ((iv_wr ((iv_wr (6 * l2)) - 6)) + l3)).toNat) + 1))] (ivST μ) (some (ivI r)) (ivST μ')
            refine iv_letE (fun j18 => ∀ (v20 : Int) (μ21 : ivM) (r22 : Int) (μ23 : ivM) (z19 : ivV), j18 v20 μ21 = some (r22, μ23) → iv_Ret L 127 113 [ivR 110, ivI l1, ivI l2, ivI l3, z19] [ivI v20, ivI (μ 122 (iv_wr ((iv_wr ((iv_wr ((iv_wr (6 * l2)) - 6)) + l3)) - 1)).toNat), ivI (iv_wr ((μ 122 (iv_wr ((iv_wr ((iv_wr (6 * l2)) + l3)) - 1)).toNat) + 1)), ivI (iv_wr ((μ 122 (iv_wr ((iv_wr ((iv_wr (6 * l2)) - 6)) + l3)).toNat) + 1))] (ivST μ21) (some (ivI r22)) (ivST μ23)) h (fun v20 μ21 r22 μ23 z19 h => ?_) (fun j18 hj18 h => ?_)
            · refine iv_Ret.stl [114] (ls' := [ivR 110, ivI l1, ivI l2, ivI l3, z19]) (st' := [ivI (iv_wr ((μ 122 (iv_wr ((iv_wr ((iv_wr ((iv_wr (6 * l2)) - 6)) + l3)) - 1)).toNat) + v20)), ivI (iv_wr ((μ 122 (iv_wr ((iv_wr ((iv_wr (6 * l2)) + l3)) - 1)).toNat) + 1)), ivI (iv_wr ((μ 122 (iv_wr ((iv_wr ((iv_wr (6 * l2)) - 6)) + l3)).toNat) + 1))]) (w' := (135, μ21, iv_rho)) rfl ?_
              obtain ⟨r24, μ25, e26, h⟩ := iv_bndE h
              refine iv_Ret.calls rfl rfl (T_X10_least L (iv_wr ((μ 122 (iv_wr ((iv_wr ((iv_wr (6 * l2)) - 6)) + l3)).toNat) + 1)) (iv_wr ((μ 122 (iv_wr ((iv_wr ((iv_wr (6 * l2)) + l3)) - 1)).toNat) + 1)) (iv_wr ((μ 122 (iv_wr ((iv_wr ((iv_wr ((iv_wr (6 * l2)) - 6)) + l3)) - 1)).toNat) + v20)) e26) ?_
              show iv_Ret L 127 117 [ivR 110, ivI l1, ivI l2, ivI l3, z19] [ivI r24] (ivST μ25) (some (ivI r22)) (ivST μ23)
              exact hj4 r24 μ25 _ _ z19 h
            · rcases iv_iteE h with ⟨c27, h⟩ | ⟨c27, h⟩
              · refine iv_Ret.icF (t := 108) rfl (decide_eq_false (not_not_intro c27)) rfl ?_
                refine iv_Ret.stl [109, 113] (ls' := [ivR 110, ivI l1, ivI l2, ivI l3, d4]) (st' := [ivI 0, ivI (μ 122 (iv_wr ((iv_wr ((iv_wr ((iv_wr (6 * l2)) - 6)) + l3)) - 1)).toNat), ivI (iv_wr ((μ 122 (iv_wr ((iv_wr ((iv_wr (6 * l2)) + l3)) - 1)).toNat) + 1)), ivI (iv_wr ((μ 122 (iv_wr ((iv_wr ((iv_wr (6 * l2)) - 6)) + l3)).toNat) + 1))]) (w' := (135, μ, iv_rho)) rfl ?_
                exact hj18 0 μ _ _ d4 h
              · refine iv_Ret.icT (t := 112) rfl (decide_eq_true c27) rfl ?_
                refine iv_Ret.stl [113] (ls' := [ivR 110, ivI l1, ivI l2, ivI l3, d4]) (st' := [ivI 1, ivI (μ 122 (iv_wr ((iv_wr ((iv_wr ((iv_wr (6 * l2)) - 6)) + l3)) - 1)).toNat), ivI (iv_wr ((μ 122 (iv_wr ((iv_wr ((iv_wr (6 * l2)) + l3)) - 1)).toNat) + 1)), ivI (iv_wr ((μ 122 (iv_wr ((iv_wr ((iv_wr (6 * l2)) - 6)) + l3)).toNat) + 1))]) (w' := (135, μ, iv_rho)) rfl ?_
                exact hj18 1 μ _ _ d4 h
theorem T_lp_X10_offTried_2 (L : Nat) (l1 : Int)  {k144 : ivM → Option (Int × ivM)} (hk144 : ∀  (μ : ivM) (r : Int) (μ' : ivM) (d2 : ivV) (d3 : ivV) (d4 : ivV), k144 μ = some (r, μ') → iv_Ret L 127 144 [ivR 110, ivI l1, d2, d3, d4] [] (ivST μ) (some (ivI r)) (ivST μ')) : ∀ (n : Nat) (l2 : Int) (μ : ivM) (r : Int) (μ' : ivM) (d3 : ivV) (d4 : ivV), lp_X10_offTried_2 l1 k144 n l2 μ = some (r, μ') → iv_Ret L 127 2 [ivR 110, ivI l1, ivI l2, d3, d4] [] (ivST μ) (some (ivI r)) (ivST μ') := by
  intro n
  induction n with
  | zero => intro l2 μ r μ' d3 d4 h; unfold lp_X10_offTried_2 at h; cases h
  | succ n ih =>
    intro l2 μ r μ' d3 d4 h
    unfold lp_X10_offTried_2 at h
    refine iv_Ret.stl [3, 4, 7] (ls' := [ivR 110, ivI l1, ivI l2, d3, d4]) (st' := [ivI (μ 110 21), ivI l2]) (w' := (135, μ, iv_rho)) rfl ?_
    rcases iv_iteE h with ⟨c1, h⟩ | ⟨c1, h⟩
    · refine iv_Ret.icT (t := 144) rfl (decide_eq_true c1) rfl ?_
      exact hk144 μ _ _ (ivI l2) d3 d4 h
    · refine iv_Ret.icF (t := 10) rfl (decide_eq_false c1) rfl ?_
      refine iv_Ret.stl [11, 12] (ls' := [ivR 110, ivI l1, ivI l2, ivI 0, d4]) (st' := []) (w' := (135, μ, iv_rho)) rfl ?_
      refine T_lp_X10_offTried_12 L l1 l2 (fun μ30 r31 μ32 z28 z29 h => ?_) iv_fuel 0 μ _ _ d4 h
      refine iv_Ret.stl [141, 2] (ls' := [ivR 110, ivI l1, ivI (iv_wr (l2 + 1)), z28, z29]) (st' := []) (w' := (135, μ30, iv_rho)) rfl ?_
      exact ih (iv_wr (l2 + 1)) μ30 _ _ z28 z29 h
theorem T_X10_offTried (L : Nat) (p1 : Int)  {μ μ' : ivM} {r : Int} (h : f_X10_offTried p1 μ = some (r, μ')) : iv_Ret L 127 0 [ivR 110, ivI p1, ivU, ivU, ivU] [] (ivST μ) (some (ivI r)) (ivST μ') := by
  unfold f_X10_offTried at h
  refine iv_Ret.stl [1, 2] (ls' := [ivR 110, ivI p1, ivI 0, ivU, ivU]) (st' := []) (w' := (135, μ, iv_rho)) rfl ?_
  refine T_lp_X10_offTried_2 L p1 (fun μ36 r37 μ38 z33 z34 z35 h => ?_) iv_fuel 0 μ _ _ ivU ivU h
  refine iv_Ret.stl [145, 148] (ls' := [ivR 110, ivI p1, z33, z34, z35]) (st' := [ivR 122]) (w' := (135, μ36, iv_rho)) rfl ?_
  refine iv_Ret.stl [150, 151, 154, 155, 156, 159] (ls' := [ivR 110, ivI p1, z33, z34, z35]) (st' := [ivR 116, ivI (iv_wr (6 * (μ36 110 21))), ivR 122]) (w' := (135, μ36, iv_rho)) rfl ?_
  refine iv_Ret.stl [160] (ls' := [ivR 110, ivI p1, z33, z34, z35]) (st' := [ivI p1, ivR 116, ivI (iv_wr (6 * (μ36 110 21))), ivR 122]) (w' := (135, μ36, iv_rho)) rfl ?_
  obtain ⟨c39, h⟩ := iv_ckE h
  refine iv_Ret.iald (len := 8) rfl rfl rfl c39.1 c39.2 ?_
  show iv_Ret L 127 161 [ivR 110, ivI p1, z33, z34, z35] [ivI (μ36 116 p1.toNat), ivI (iv_wr (6 * (μ36 110 21))), ivR 122] (ivST μ36) (some (ivI r37)) (ivST μ38)
  refine iv_Ret.stl [162] (ls' := [ivR 110, ivI p1, z33, z34, z35]) (st' := [ivI (iv_wr ((iv_wr (6 * (μ36 110 21))) + (μ36 116 p1.toNat))), ivR 122]) (w' := (135, μ36, iv_rho)) rfl ?_
  obtain ⟨c40, h⟩ := iv_ckE h
  refine iv_Ret.iald (len := 36) rfl rfl rfl c40.1 c40.2 ?_
  show iv_Ret L 127 163 [ivR 110, ivI p1, z33, z34, z35] [ivI (μ36 122 (iv_wr ((iv_wr (6 * (μ36 110 21))) + (μ36 116 p1.toNat))).toNat)] (ivST μ36) (some (ivI r37)) (ivST μ38)
  obtain ⟨rfl, rfl⟩ := iv_retE h
  exact ⟨1, rfl⟩
