theorem T_lp_X10_again_26 (L : Nat) (l1 : Int)  {k55 : ivM → Option (Int × ivM)} (hk55 : ∀  (μ : ivM) (r : Int) (μ' : ivM) (d2 : ivV), k55 μ = some (r, μ') → iv_Ret L 166 55 [ivR 110, ivI l1, d2] [] (ivST μ) (some (ivI r)) (ivST μ')) : ∀ (n : Nat) (l2 : Int) (μ : ivM) (r : Int) (μ' : ivM), lp_X10_again_26 l1 k55 n l2 μ = some (r, μ') → iv_Ret L 166 26 [ivR 110, ivI l1, ivI l2] [] (ivST μ) (some (ivI r)) (ivST μ') := by
  intro n
  induction n with
  | zero => intro l2 μ r μ' h; unfold lp_X10_again_26 at h; cases h
  | succ n ih =>
    intro l2 μ r μ' h
    unfold lp_X10_again_26 at h
    refine iv_Ret.stl [27, 29] (ls' := [ivR 110, ivI l1, ivI l2]) (st' := [ivI 40, ivI l2]) (w' := (135, μ, iv_rho)) rfl ?_
    rcases iv_iteE h with ⟨c7, h⟩ | ⟨c7, h⟩
    · refine iv_Ret.icT (t := 55) rfl (decide_eq_true c7) rfl ?_
      exact hk55 μ _ _ (ivI l2) h
    · refine iv_Ret.icF (t := 32) rfl (decide_eq_false c7) rfl ?_
      refine iv_Ret.stl [33, 36] (ls' := [ivR 110, ivI l1, ivI l2]) (st' := [ivR 115]) (w' := (135, μ, iv_rho)) rfl ?_
      refine iv_Ret.stl [37, 38, 41] (ls' := [ivR 110, ivI l1, ivI l2]) (st' := [ivR 131, ivI l2, ivR 115]) (w' := (135, μ, iv_rho)) rfl ?_
      refine iv_Ret.stl [43, 44, 45, 46, 47] (ls' := [ivR 110, ivI l1, ivI l2]) (st' := [ivI (iv_wr ((iv_wr (40 * l1)) + l2)), ivR 131, ivI l2, ivR 115]) (w' := (135, μ, iv_rho)) rfl ?_
      obtain ⟨c8, h⟩ := iv_ckE h
      refine iv_Ret.iald (len := 80) rfl rfl rfl c8.1 c8.2 ?_
      show iv_Ret L 166 48 [ivR 110, ivI l1, ivI l2] [ivI (μ 131 (iv_wr ((iv_wr (40 * l1)) + l2)).toNat), ivI l2, ivR 115] (ivST μ) (some (ivI r)) (ivST μ')
      obtain ⟨c9, h⟩ := iv_ckE h
      refine iv_Ret.iast (len := 40) rfl rfl rfl rfl c9.1 c9.2 ?_
      show iv_Ret L 166 49 [ivR 110, ivI l1, ivI l2] [] (ivST (iv_upd μ 115 l2.toNat (μ 131 (iv_wr ((iv_wr (40 * l1)) + l2)).toNat))) (some (ivI r)) (ivST μ')
      refine iv_Ret.stl [52, 26] (ls' := [ivR 110, ivI l1, ivI (iv_wr (l2 + 1))]) (st' := []) (w' := (135, (iv_upd μ 115 l2.toNat (μ 131 (iv_wr ((iv_wr (40 * l1)) + l2)).toNat)), iv_rho)) rfl ?_
      exact ih (iv_wr (l2 + 1)) (iv_upd μ 115 l2.toNat (μ 131 (iv_wr ((iv_wr (40 * l1)) + l2)).toNat)) _ _ h
theorem T_lp_X10_again_57 (L : Nat) (l1 : Int)  {k120 : ivM → Option (Int × ivM)} (hk120 : ∀  (μ : ivM) (r : Int) (μ' : ivM) (d2 : ivV), k120 μ = some (r, μ') → iv_Ret L 166 120 [ivR 110, ivI l1, d2] [] (ivST μ) (some (ivI r)) (ivST μ')) : ∀ (n : Nat) (l2 : Int) (μ : ivM) (r : Int) (μ' : ivM), lp_X10_again_57 l1 k120 n l2 μ = some (r, μ') → iv_Ret L 166 57 [ivR 110, ivI l1, ivI l2] [] (ivST μ) (some (ivI r)) (ivST μ') := by
  intro n
  induction n with
  | zero => intro l2 μ r μ' h; unfold lp_X10_again_57 at h; cases h
  | succ n ih =>
    intro l2 μ r μ' h
    unfold lp_X10_again_57 at h
    refine iv_Ret.stl [58, 60] (ls' := [ivR 110, ivI l1, ivI l2]) (st' := [ivI 8, ivI l2]) (w' := (135, μ, iv_rho)) rfl ?_
    rcases iv_iteE h with ⟨c14, h⟩ | ⟨c14, h⟩
    · refine iv_Ret.icT (t := 120) rfl (decide_eq_true c14) rfl ?_
      exact hk120 μ _ _ (ivI l2) h
    · refine iv_Ret.icF (t := 63) rfl (decide_eq_false c14) rfl ?_
      refine iv_Ret.stl [64, 67] (ls' := [ivR 110, ivI l1, ivI l2]) (st' := [ivR 116]) (w' := (135, μ, iv_rho)) rfl ?_
      refine iv_Ret.stl [68, 69, 72] (ls' := [ivR 110, ivI l1, ivI l2]) (st' := [ivR 132, ivI l2, ivR 116]) (w' := (135, μ, iv_rho)) rfl ?_
      refine iv_Ret.stl [74, 75, 76, 77, 78] (ls' := [ivR 110, ivI l1, ivI l2]) (st' := [ivI (iv_wr ((iv_wr (8 * l1)) + l2)), ivR 132, ivI l2, ivR 116]) (w' := (135, μ, iv_rho)) rfl ?_
      obtain ⟨c15, h⟩ := iv_ckE h
      refine iv_Ret.iald (len := 16) rfl rfl rfl c15.1 c15.2 ?_
      show iv_Ret L 166 79 [ivR 110, ivI l1, ivI l2] [ivI (μ 132 (iv_wr ((iv_wr (8 * l1)) + l2)).toNat), ivI l2, ivR 116] (ivST μ) (some (ivI r)) (ivST μ')
      obtain ⟨c16, h⟩ := iv_ckE h
      refine iv_Ret.iast (len := 8) rfl rfl rfl rfl c16.1 c16.2 ?_
      show iv_Ret L 166 80 [ivR 110, ivI l1, ivI l2] [] (ivST (iv_upd μ 116 l2.toNat (μ 132 (iv_wr ((iv_wr (8 * l1)) + l2)).toNat))) (some (ivI r)) (ivST μ')
      refine iv_Ret.stl [81, 84] (ls' := [ivR 110, ivI l1, ivI l2]) (st' := [ivR 117]) (w' := (135, (iv_upd μ 116 l2.toNat (μ 132 (iv_wr ((iv_wr (8 * l1)) + l2)).toNat)), iv_rho)) rfl ?_
      refine iv_Ret.stl [85, 86, 89] (ls' := [ivR 110, ivI l1, ivI l2]) (st' := [ivR 133, ivI l2, ivR 117]) (w' := (135, (iv_upd μ 116 l2.toNat (μ 132 (iv_wr ((iv_wr (8 * l1)) + l2)).toNat)), iv_rho)) rfl ?_
      refine iv_Ret.stl [91, 92, 93, 94, 95] (ls' := [ivR 110, ivI l1, ivI l2]) (st' := [ivI (iv_wr ((iv_wr (8 * l1)) + l2)), ivR 133, ivI l2, ivR 117]) (w' := (135, (iv_upd μ 116 l2.toNat (μ 132 (iv_wr ((iv_wr (8 * l1)) + l2)).toNat)), iv_rho)) rfl ?_
      obtain ⟨c17, h⟩ := iv_ckE h
      refine iv_Ret.iald (len := 16) rfl rfl rfl c17.1 c17.2 ?_
      show iv_Ret L 166 96 [ivR 110, ivI l1, ivI l2] [ivI ((iv_upd μ 116 l2.toNat (μ 132 (iv_wr ((iv_wr (8 * l1)) + l2)).toNat)) 133 (iv_wr ((iv_wr (8 * l1)) + l2)).toNat), ivI l2, ivR 117] (ivST (iv_upd μ 116 l2.toNat (μ 132 (iv_wr ((iv_wr (8 * l1)) + l2)).toNat))) (some (ivI r)) (ivST μ')
      obtain ⟨c18, h⟩ := iv_ckE h
      refine iv_Ret.iast (len := 8) rfl rfl rfl rfl c18.1 c18.2 ?_
      show iv_Ret L 166 97 [ivR 110, ivI l1, ivI l2] [] (ivST (iv_upd (iv_upd μ 116 l2.toNat (μ 132 (iv_wr ((iv_wr (8 * l1)) + l2)).toNat)) 117 l2.toNat ((iv_upd μ 116 l2.toNat (μ 132 (iv_wr ((iv_wr (8 * l1)) + l2)).toNat)) 133 (iv_wr ((iv_wr (8 * l1)) + l2)).toNat))) (some (ivI r)) (ivST μ')
      refine iv_Ret.stl [98, 101] (ls' := [ivR 110, ivI l1, ivI l2]) (st' := [ivR 118]) (w' := (135, (iv_upd (iv_upd μ 116 l2.toNat (μ 132 (iv_wr ((iv_wr (8 * l1)) + l2)).toNat)) 117 l2.toNat ((iv_upd μ 116 l2.toNat (μ 132 (iv_wr ((iv_wr (8 * l1)) + l2)).toNat)) 133 (iv_wr ((iv_wr (8 * l1)) + l2)).toNat)), iv_rho)) rfl ?_
      refine iv_Ret.stl [102, 103, 106] (ls' := [ivR 110, ivI l1, ivI l2]) (st' := [ivR 134, ivI l2, ivR 118]) (w' := (135, (iv_upd (iv_upd μ 116 l2.toNat (μ 132 (iv_wr ((iv_wr (8 * l1)) + l2)).toNat)) 117 l2.toNat ((iv_upd μ 116 l2.toNat (μ 132 (iv_wr ((iv_wr (8 * l1)) + l2)).toNat)) 133 (iv_wr ((iv_wr (8 * l1)) + l2)).toNat)), iv_rho)) rfl ?_
      refine iv_Ret.stl [108, 109, 110, 111, 112] (ls' := [ivR 110, ivI l1, ivI l2]) (st' := [ivI (iv_wr ((iv_wr (8 * l1)) + l2)), ivR 134, ivI l2, ivR 118]) (w' := (135, (iv_upd (iv_upd μ 116 l2.toNat (μ 132 (iv_wr ((iv_wr (8 * l1)) + l2)).toNat)) 117 l2.toNat ((iv_upd μ 116 l2.toNat (μ 132 (iv_wr ((iv_wr (8 * l1)) + l2)).toNat)) 133 (iv_wr ((iv_wr (8 * l1)) + l2)).toNat)), iv_rho)) rfl ?_
      obtain ⟨c19, h⟩ := iv_ckE h
      refine iv_Ret.iald (len := 16) rfl rfl rfl c19.1 c19.2 ?_
      show iv_Ret L 166 113 [ivR 110, ivI l1, ivI l2] [ivI ((iv_upd (iv_upd μ 116 l2.toNat (μ 132 (iv_wr ((iv_wr (8 * l1)) + l2)).toNat)) 117 l2.toNat ((iv_upd μ 116 l2.toNat (μ 132 (iv_wr ((iv_wr (8 * l1)) + l2)).toNat)) 133 (iv_wr ((iv_wr (8 * l1)) + l2)).toNat)) 134 (iv_wr ((iv_wr (8 * l1)) + l2)).toNat), ivI l2, ivR 118] (ivST (iv_upd (iv_upd μ 116 l2.toNat (μ 132 (iv_wr ((iv_wr (8 * l1)) + l2)).toNat)) 117 l2.toNat ((iv_upd μ 116 l2.toNat (μ 132 (iv_wr ((iv_wr (8 * l1)) + l2)).toNat)) 133 (iv_wr ((iv_wr (8 * l1)) + l2)).toNat))) (some (ivI r)) (ivST μ')
      obtain ⟨c20, h⟩ := iv_ckE h
      refine iv_Ret.iast (len := 8) rfl rfl rfl rfl c20.1 c20.2 ?_
      show iv_Ret L 166 114 [ivR 110, ivI l1, ivI l2] [] (ivST (iv_upd (iv_upd (iv_upd μ 116 l2.toNat (μ 132 (iv_wr ((iv_wr (8 * l1)) + l2)).toNat)) 117 l2.toNat ((iv_upd μ 116 l2.toNat (μ 132 (iv_wr ((iv_wr (8 * l1)) + l2)).toNat)) 133 (iv_wr ((iv_wr (8 * l1)) + l2)).toNat)) 118 l2.toNat ((iv_upd (iv_upd μ 116 l2.toNat (μ 132 (iv_wr ((iv_wr (8 * l1)) + l2)).toNat)) 117 l2.toNat ((iv_upd μ 116 l2.toNat (μ 132 (iv_wr ((iv_wr (8 * l1)) + l2)).toNat)) 133 (iv_wr ((iv_wr (8 * l1)) + l2)).toNat)) 134 (iv_wr ((iv_wr (8 * l1)) + l2)).toNat))) (some (ivI r)) (ivST μ')
      refine iv_Ret.stl [117, 57] (ls' := [ivR 110, ivI l1, ivI (iv_wr (l2 + 1))]) (st' := []) (w' := (135, (iv_upd (iv_upd (iv_upd μ 116 l2.toNat (μ 132 (iv_wr ((iv_wr (8 * l1)) + l2)).toNat)) 117 l2.toNat ((iv_upd μ 116 l2.toNat (μ 132 (iv_wr ((iv_wr (8 * l1)) + l2)).toNat)) 133 (iv_wr ((iv_wr (8 * l1)) + l2)).toNat)) 118 l2.toNat ((iv_upd (iv_upd μ 116 l2.toNat (μ 132 (iv_wr ((iv_wr (8 * l1)) + l2)).toNat)) 117 l2.toNat ((iv_upd μ 116 l2.toNat (μ 132 (iv_wr ((iv_wr (8 * l1)) + l2)).toNat)) 133 (iv_wr ((iv_wr (8 * l1)) + l2)).toNat)) 134 (iv_wr ((iv_wr (8 * l1)) + l2)).toNat)), iv_rho)) rfl ?_
      exact ih (iv_wr (l2 + 1)) (iv_upd (iv_upd (iv_upd μ 116 l2.toNat (μ 132 (iv_wr ((iv_wr (8 * l1)) + l2)).toNat)) 117 l2.toNat ((iv_upd μ 116 l2.toNat (μ 132 (iv_wr ((iv_wr (8 * l1)) + l2)).toNat)) 133 (iv_wr ((iv_wr (8 * l1)) + l2)).toNat)) 118 l2.toNat ((iv_upd (iv_upd μ 116 l2.toNat (μ 132 (iv_wr ((iv_wr (8 * l1)) + l2)).toNat)) 117 l2.toNat ((iv_upd μ 116 l2.toNat (μ 132 (iv_wr ((iv_wr (8 * l1)) + l2)).toNat)) 133 (iv_wr ((iv_wr (8 * l1)) + l2)).toNat)) 134 (iv_wr ((iv_wr (8 * l1)) + l2)).toNat)) _ _ h
theorem T_X10_again (L : Nat) (p1 : Int)  {μ μ' : ivM} {r : Int} (h : f_X10_again p1 μ = some (r, μ')) : iv_Ret L 166 0 [ivR 110, ivI p1, ivU] [] (ivST μ) (some (ivI r)) (ivST μ') := by
  unfold f_X10_again at h
  refine iv_Ret.stl [1, 2, 3, 4] (ls' := [ivR 110, ivI p1, ivU]) (st' := [ivJ 1, ivJ 0, ivJ p1]) (w' := (135, μ, iv_rho)) rfl ?_
  obtain ⟨r1, μ2, e3, h⟩ := iv_bndE h
  refine iv_Ret.calls rfl rfl (T_X10_in L p1 0 1 e3) ?_
  show iv_Ret L 166 7 [ivR 110, ivI p1, ivU] [ivI r1] (ivST μ2) (some (ivI r)) (ivST μ')
  rcases iv_iteE h with ⟨c4, h⟩ | ⟨c4, h⟩
  · refine iv_Ret.ifF (t := 10) rfl (decide_eq_false (not_not_intro c4)) rfl ?_
    refine iv_Ret.stl [11] (ls' := [ivR 110, ivI p1, ivU]) (st' := [ivI (-1)]) (w' := (135, μ2, iv_rho)) rfl ?_
    obtain ⟨rfl, rfl⟩ := iv_retE h
    exact ⟨1, rfl⟩
  · refine iv_Ret.ifT (t := 12) rfl (decide_eq_true c4) rfl ?_
    refine iv_Ret.stl [13, 16] (ls' := [ivR 110, ivI p1, ivU]) (st' := [ivR 130]) (w' := (135, μ2, iv_rho)) rfl ?_
    refine iv_Ret.stl [17] (ls' := [ivR 110, ivI p1, ivU]) (st' := [ivI p1, ivR 130]) (w' := (135, μ2, iv_rho)) rfl ?_
    obtain ⟨c5, h⟩ := iv_ckE h
    refine iv_Ret.bald (len := 2) rfl rfl rfl c5.1 c5.2 ?_
    show iv_Ret L 166 18 [ivR 110, ivI p1, ivU] [ivI (μ2 130 p1.toNat)] (ivST μ2) (some (ivI r)) (ivST μ')
    rcases iv_iteE h with ⟨c6, h⟩ | ⟨c6, h⟩
    · refine iv_Ret.ifF (t := 21) rfl (decide_eq_false (not_not_intro c6)) rfl ?_
      refine iv_Ret.stl [23] (ls' := [ivR 110, ivI p1, ivU]) (st' := [ivI (-3)]) (w' := (135, μ2, iv_rho)) rfl ?_
      obtain ⟨rfl, rfl⟩ := iv_retE h
      exact ⟨1, rfl⟩
    · refine iv_Ret.ifT (t := 24) rfl (decide_eq_true c6) rfl ?_
      refine iv_Ret.stl [25, 26] (ls' := [ivR 110, ivI p1, ivI 0]) (st' := []) (w' := (135, μ2, iv_rho)) rfl ?_
      refine T_lp_X10_again_26 L p1 (fun μ11 r12 μ13 z10 h => ?_) iv_fuel 0 μ2 _ _ h
      refine iv_Ret.stl [56, 57] (ls' := [ivR 110, ivI p1, ivI 0]) (st' := []) (w' := (135, μ11, iv_rho)) rfl ?_
      refine T_lp_X10_again_57 L p1 (fun μ22 r23 μ24 z21 h => ?_) iv_fuel 0 μ11 _ _ h
      refine iv_Ret.stl [121, 122, 125] (ls' := [ivR 110, ivI p1, z21]) (st' := [ivR 135, ivR 110]) (w' := (135, μ22, iv_rho)) rfl ?_
      refine iv_Ret.stl [126] (ls' := [ivR 110, ivI p1, z21]) (st' := [ivI p1, ivR 135, ivR 110]) (w' := (135, μ22, iv_rho)) rfl ?_
      obtain ⟨c25, h⟩ := iv_ckE h
      refine iv_Ret.iald (len := 2) rfl rfl rfl c25.1 c25.2 ?_
      show iv_Ret L 166 127 [ivR 110, ivI p1, z21] [ivI (μ22 135 p1.toNat), ivR 110] (ivST μ22) (some (ivI r23)) (ivST μ24)
      refine iv_Ret.stl [130, 131, 134] (ls' := [ivR 110, ivI p1, z21]) (st' := [ivI ((iv_upd μ22 110 15 (μ22 135 p1.toNat)) 110 15)]) (w' := (135, (iv_upd μ22 110 15 (μ22 135 p1.toNat)), iv_rho)) rfl ?_
      obtain ⟨rfl, rfl⟩ := iv_retE h
      exact ⟨1, rfl⟩
theorem T_lp_X10_count_4 (L : Nat) (l1 : Int)  {k27 : Int → ivM → Option (Int × ivM)} (hk27 : ∀ (l2 : Int) (μ : ivM) (r : Int) (μ' : ivM) (d3 : ivV) (d4 : ivV), k27 l2 μ = some (r, μ') → iv_Ret L 167 27 [ivR 110, ivI l1, ivI l2, d3, d4] [] (ivST μ) (some (ivI r)) (ivST μ')) : ∀ (n : Nat) (l2 : Int) (l3 : Int) (μ : ivM) (r : Int) (μ' : ivM) (d4 : ivV), lp_X10_count_4 l1 k27 n l2 l3 μ = some (r, μ') → iv_Ret L 167 4 [ivR 110, ivI l1, ivI l2, ivI l3, d4] [] (ivST μ) (some (ivI r)) (ivST μ') := by
  intro n
  induction n with
  | zero => intro l2 l3 μ r μ' d4 h; unfold lp_X10_count_4 at h; cases h
  | succ n ih =>
    intro l2 l3 μ r μ' d4 h
    unfold lp_X10_count_4 at h
    refine iv_Ret.stl [5, 6, 9] (ls' := [ivR 110, ivI l1, ivI l2, ivI l3, d4]) (st' := [ivI (μ 110 13), ivI l3]) (w' := (135, μ, iv_rho)) rfl ?_
    rcases iv_iteE h with ⟨c1, h⟩ | ⟨c1, h⟩
    · refine iv_Ret.icT (t := 27) rfl (decide_eq_true c1) rfl ?_
      exact hk27 l2 μ _ _ (ivI l3) d4 h
    · refine iv_Ret.icF (t := 12) rfl (decide_eq_false c1) rfl ?_
      refine iv_Ret.stl [13, 14, 17] (ls' := [ivR 110, ivI l1, ivI l2, ivI l3, d4]) (st' := [ivR 116, ivI l2]) (w' := (135, μ, iv_rho)) rfl ?_
      refine iv_Ret.stl [18] (ls' := [ivR 110, ivI l1, ivI l2, ivI l3, d4]) (st' := [ivI l3, ivR 116, ivI l2]) (w' := (135, μ, iv_rho)) rfl ?_
      obtain ⟨c2, h⟩ := iv_ckE h
      refine iv_Ret.iald (len := 8) rfl rfl rfl c2.1 c2.2 ?_
      show iv_Ret L 167 19 [ivR 110, ivI l1, ivI l2, ivI l3, d4] [ivI (μ 116 l3.toNat), ivI l2] (ivST μ) (some (ivI r)) (ivST μ')
      refine iv_Ret.stl [20, 21, 24, 4] (ls' := [ivR 110, ivI l1, ivI (iv_wr (l2 + (μ 116 l3.toNat))), ivI (iv_wr (l3 + 1)), d4]) (st' := []) (w' := (135, μ, iv_rho)) rfl ?_
      exact ih (iv_wr (l2 + (μ 116 l3.toNat))) (iv_wr (l3 + 1)) μ _ _ d4 h
theorem T_lp_X10_count_111 (L : Nat)     : ∀ (n : Nat) (l3 : Int) (l4 : Int) (μ : ivM) (r : Int) (μ' : ivM) (d1 : ivV) (d2 : ivV), lp_X10_count_111  n l3 l4 μ = some (r, μ') → iv_Ret L 167 111 [ivR 110, d1, d2, ivI l3, ivI l4] [] (ivST μ) (some (ivI r)) (ivST μ') := by
  intro n
  induction n with
  | zero => intro l3 l4 μ r μ' d1 d2 h; unfold lp_X10_count_111 at h; cases h
  | succ n ih =>
    intro l3 l4 μ r μ' d1 d2 h
    unfold lp_X10_count_111 at h
    refine iv_Ret.stl [113, 114, 117] (ls' := [ivR 110, d1, d2, ivI l3, ivI l4]) (st' := [ivI (μ 110 13), ivI l4]) (w' := (135, μ, iv_rho)) rfl ?_
    rcases iv_iteE h with ⟨c17, h⟩ | ⟨c17, h⟩
    · refine iv_Ret.icT (t := 143) rfl (decide_eq_true c17) rfl ?_
      refine iv_Ret.stl [144] (ls' := [ivR 110, d1, d2, ivI l3, ivI l4]) (st' := [ivI l3]) (w' := (135, μ, iv_rho)) rfl ?_
      obtain ⟨rfl, rfl⟩ := iv_retE h
      exact ⟨1, rfl⟩
    · refine iv_Ret.icF (t := 120) rfl (decide_eq_false c17) rfl ?_
      refine iv_Ret.stl [121, 122, 124] (ls' := [ivR 110, d1, d2, ivI l3, ivI l4]) (st' := [ivI l4, ivR 110, ivI l3]) (w' := (135, μ, iv_rho)) rfl ?_
      obtain ⟨r18, μ19, e20, h⟩ := iv_bndE h
      refine iv_Ret.callv rfl rfl rfl (T_X10_isLive L l4 e20) ?_
      show iv_Ret L 167 127 [ivR 110, d1, d2, ivI l3, ivI l4] [ivI r18, ivI l3] (ivST μ19) (some (ivI r)) (ivST μ')
      refine iv_letE (fun j21 => ∀ (v25 : Int) (μ26 : ivM) (r27 : Int) (μ28 : ivM) (z22 : ivV) (z23 : ivV) (z24 : ivV), j21 v25 μ26 = some (r27, μ28) → iv_Ret L 167 135 [ivR 110, z22, z23, z24, ivI l4] [ivI v25, ivI l3] (ivST μ26) (some (ivI r27)) (ivST μ28)) h (fun v25 μ26 r27 μ28 z22 z23 z24 h => ?_) (fun j21 hj21 h => ?_)
      · refine iv_Ret.stl [136, 137, 140, 111] (ls' := [ivR 110, z22, (iv_un z23), ivI (iv_wr (l3 + v25)), ivI (iv_wr (l4 + 1))]) (st' := []) (w' := (135, μ26, iv_rho)) rfl ?_
        exact ih (iv_wr (l3 + v25)) (iv_wr (l4 + 1)) μ26 _ _ z22 (iv_un z23) h
      · rcases iv_iteE h with ⟨c29, h⟩ | ⟨c29, h⟩
        · refine iv_Ret.ifT (t := 134) rfl (decide_eq_true c29) rfl ?_
          refine iv_Ret.stl [135] (ls' := [ivR 110, d1, d2, ivI l3, ivI l4]) (st' := [ivI 0, ivI l3]) (w' := (135, μ19, iv_rho)) rfl ?_
          exact hj21 0 μ19 _ _ d1 d2 (ivI l3) h
        · refine iv_Ret.ifF (t := 130) rfl (decide_eq_false c29) rfl ?_
          refine iv_Ret.stl [131, 135] (ls' := [ivR 110, d1, d2, ivI l3, ivI l4]) (st' := [ivI 1, ivI l3]) (w' := (135, μ19, iv_rho)) rfl ?_
          exact hj21 1 μ19 _ _ d1 d2 (ivI l3) h
theorem T_X10_count (L : Nat) (p1 : Int)  {μ μ' : ivM} {r : Int} (h : f_X10_count p1 μ = some (r, μ')) : iv_Ret L 167 0 [ivR 110, ivI p1, ivU, ivU, ivU] [] (ivST μ) (some (ivI r)) (ivST μ') := by
  unfold f_X10_count at h
  refine iv_Ret.stl [1, 2, 3, 4] (ls' := [ivR 110, ivI p1, ivI 0, ivI 0, ivU]) (st' := []) (w' := (135, μ, iv_rho)) rfl ?_
  refine T_lp_X10_count_4 L p1 (fun w3 μ6 r7 μ8 z4 z5 h => ?_) iv_fuel 0 0 μ _ _ ivU h
  refine iv_Ret.stl [28] (ls' := [ivR 110, ivI p1, ivI w3, z4, z5]) (st' := [ivI p1]) (w' := (135, μ6, iv_rho)) rfl ?_
  rcases iv_iteE h with ⟨c9, h⟩ | ⟨c9, h⟩
  · refine iv_Ret.tsI (t := 76) rfl c9 rfl ?_
    refine iv_Ret.stl [77, 80] (ls' := [ivR 110, ivI p1, ivI w3, z4, z5]) (st' := [ivI (μ6 110 17)]) (w' := (135, μ6, iv_rho)) rfl ?_
    obtain ⟨rfl, rfl⟩ := iv_retE h
    exact ⟨1, rfl⟩
  rcases iv_iteE h with ⟨c10, h⟩ | ⟨c10, h⟩
  · refine iv_Ret.tsI (t := 81) rfl c10 rfl ?_
    refine iv_Ret.stl [82, 85] (ls' := [ivR 110, ivI p1, ivI w3, z4, z5]) (st' := [ivI (μ6 110 13)]) (w' := (135, μ6, iv_rho)) rfl ?_
    obtain ⟨rfl, rfl⟩ := iv_retE h
    exact ⟨1, rfl⟩
  rcases iv_iteE h with ⟨c11, h⟩ | ⟨c11, h⟩
  · refine iv_Ret.tsI (t := 86) rfl c11 rfl ?_
    refine iv_Ret.stl [87, 90] (ls' := [ivR 110, ivI p1, ivI w3, z4, z5]) (st' := [ivI (μ6 110 14)]) (w' := (135, μ6, iv_rho)) rfl ?_
    obtain ⟨rfl, rfl⟩ := iv_retE h
    exact ⟨1, rfl⟩
  rcases iv_iteE h with ⟨c12, h⟩ | ⟨c12, h⟩
  · refine iv_Ret.tsI (t := 91) rfl c12 rfl ?_
    refine iv_Ret.stl [92, 95] (ls' := [ivR 110, ivI p1, ivI w3, z4, z5]) (st' := [ivI (μ6 110 12)]) (w' := (135, μ6, iv_rho)) rfl ?_
    obtain ⟨rfl, rfl⟩ := iv_retE h
    exact ⟨1, rfl⟩
  rcases iv_iteE h with ⟨c13, h⟩ | ⟨c13, h⟩
  · refine iv_Ret.tsI (t := 96) rfl c13 rfl ?_
    refine iv_Ret.stl [97, 100] (ls' := [ivR 110, ivI p1, ivI w3, z4, z5]) (st' := [ivI (μ6 110 15)]) (w' := (135, μ6, iv_rho)) rfl ?_
    obtain ⟨rfl, rfl⟩ := iv_retE h
    exact ⟨1, rfl⟩
  rcases iv_iteE h with ⟨c14, h⟩ | ⟨c14, h⟩
  · refine iv_Ret.tsI (t := 101) rfl c14 rfl ?_
    refine iv_Ret.stl [102, 105] (ls' := [ivR 110, ivI p1, ivI w3, z4, z5]) (st' := [ivI (μ6 110 26)]) (w' := (135, μ6, iv_rho)) rfl ?_
    obtain ⟨rfl, rfl⟩ := iv_retE h
    exact ⟨1, rfl⟩
  rcases iv_iteE h with ⟨c15, h⟩ | ⟨c15, h⟩
  · refine iv_Ret.tsI (t := 106) rfl c15 rfl ?_
    refine iv_Ret.stl [107, 108, 109, 111] (ls' := [ivR 110, ivI p1, ivI w3, ivI 0, ivI 0]) (st' := []) (w' := (135, μ6, iv_rho)) rfl ?_
    exact T_lp_X10_count_111 L  iv_fuel 0 0 μ6 _ _ (ivI p1) (ivI w3) h
  rcases iv_iteE h with ⟨c16, h⟩ | ⟨c16, h⟩
  · refine iv_Ret.tsI (t := 145) rfl c16 rfl ?_
    refine iv_Ret.stl [146] (ls' := [ivR 110, ivI p1, ivI w3, z4, z5]) (st' := [ivI w3]) (w' := (135, μ6, iv_rho)) rfl ?_
    obtain ⟨rfl, rfl⟩ := iv_retE h
    exact ⟨1, rfl⟩
  have o30 : (decide (p1 < 0) || decide (7 < p1)) = true := by
    rw [Bool.or_eq_true, decide_eq_true_eq, decide_eq_true_eq]; omega
  refine iv_Ret.tsO (t := 147) rfl o30 rfl ?_
  refine iv_Ret.stl [149] (ls' := [ivR 110, ivI p1, ivI w3, z4, z5]) (st' := [ivI (-2)]) (w' := (135, μ6, iv_rho)) rfl ?_
  obtain ⟨rfl, rfl⟩ := iv_retE h
  exact ⟨1, rfl⟩
theorem T_lp_L_law_18 (L : Nat)     : ∀ (n : Nat) (l3 : Int) (μ : ivM) (r : Int) (μ' : ivM), lp_L_law_18 L n l3 μ = some (r, μ') → iv_Ret L 171 18 [ivR 1, ivR 2, ivR 110, ivI l3] [] (ivST μ) (some (ivI r)) (ivST μ') := by
  intro n
  induction n with
  | zero => intro l3 μ r μ' h; unfold lp_L_law_18 at h; cases h
  | succ n ih =>
    intro l3 μ r μ' h
    unfold lp_L_law_18 at h
    refine iv_Ret.stl [19, 20, 21, 22, 23] (ls' := [ivR 1, ivR 2, ivR 110, ivI l3]) (st' := [ivI (iv_wr ((L : Int) - 4)), ivI l3]) (w' := (135, μ, iv_rho)) rfl ?_
    rcases iv_iteE h with ⟨c1, h⟩ | ⟨c1, h⟩
    · refine iv_Ret.icT (t := 1001) rfl (decide_eq_true c1) rfl ?_
      refine iv_Ret.stl [1002] (ls' := [ivR 1, ivR 2, ivR 110, ivI l3]) (st' := [ivI 1]) (w' := (135, μ, iv_rho)) rfl ?_
      obtain ⟨rfl, rfl⟩ := iv_retE h
      exact ⟨1, rfl⟩
    · refine iv_Ret.icF (t := 26) rfl (decide_eq_false c1) rfl ?_
      refine iv_Ret.stl [27, 28] (ls' := [ivR 1, ivR 2, ivR 110, ivI l3]) (st' := [ivI l3, ivR 1]) (w' := (135, μ, iv_rho)) rfl ?_
      obtain ⟨c2, h⟩ := iv_ckE h
      refine iv_Ret.iald (len := L) rfl rfl rfl c2.1 c2.2 ?_
      show iv_Ret L 171 29 [ivR 1, ivR 2, ivR 110, ivI l3] [ivI (μ 1 l3.toNat)] (ivST μ) (some (ivI r)) (ivST μ')
      refine iv_Ret.stl [31, 32] (ls' := [ivR 1, ivR 2, ivR 110, ivI l3]) (st' := [ivI (iv_and (μ 1 l3.toNat) 31)]) (w' := (135, μ, iv_rho)) rfl ?_
      refine iv_letE (fun j3 => ∀ (μ4 : ivM) (r5 : Int) (μ6 : ivM), j3 μ4 = some (r5, μ6) → iv_Ret L 171 995 [ivR 1, ivR 2, ivR 110, ivI l3] [] (ivST μ4) (some (ivI r5)) (ivST μ6)) h (fun μ4 r5 μ6 h => ?_) (fun j3 hj3 h => ?_)
      · refine iv_Ret.stl [998, 18] (ls' := [ivR 1, ivR 2, ivR 110, ivI (iv_wr (l3 + 4))]) (st' := []) (w' := (135, μ4, iv_rho)) rfl ?_
        exact ih (iv_wr (l3 + 4)) μ4 _ _ h
      · rcases iv_iteE h with ⟨c7, h⟩ | ⟨c7, h⟩
        · refine iv_Ret.tsI (t := 172) rfl c7 rfl ?_
          refine iv_Ret.stl [173, 174, 175, 176, 177] (ls' := [ivR 1, ivR 2, ivR 110, ivI l3]) (st' := [ivI (iv_wr (l3 + 1)), ivR 1, ivR 2]) (w' := (135, μ, iv_rho)) rfl ?_
          obtain ⟨c38, h⟩ := iv_ckE h
          refine iv_Ret.iald (len := L) rfl rfl rfl c38.1 c38.2 ?_
          show iv_Ret L 171 178 [ivR 1, ivR 2, ivR 110, ivI l3] [ivI (μ 1 (iv_wr (l3 + 1)).toNat), ivR 2] (ivST μ) (some (ivI r)) (ivST μ')
          refine iv_Ret.stl [179, 180, 181, 182] (ls' := [ivR 1, ivR 2, ivR 110, ivI l3]) (st' := [ivI (iv_wr (l3 + 2)), ivR 1, ivI (μ 1 (iv_wr (l3 + 1)).toNat), ivR 2]) (w' := (135, μ, iv_rho)) rfl ?_
          obtain ⟨c39, h⟩ := iv_ckE h
          refine iv_Ret.iald (len := L) rfl rfl rfl c39.1 c39.2 ?_
          show iv_Ret L 171 183 [ivR 1, ivR 2, ivR 110, ivI l3] [ivI (μ 1 (iv_wr (l3 + 2)).toNat), ivI (μ 1 (iv_wr (l3 + 1)).toNat), ivR 2] (ivST μ) (some (ivI r)) (ivST μ')
          refine iv_Ret.stl [184, 186, 187, 188, 189, 190, 191] (ls' := [ivR 1, ivR 2, ivR 110, ivI l3]) (st' := [ivI (iv_wr (l3 + 3)), ivR 1, ivJ (iv_lshl (μ 1 (iv_wr (l3 + 2)).toNat) 32), ivI (μ 1 (iv_wr (l3 + 1)).toNat), ivR 2]) (w' := (135, μ, iv_rho)) rfl ?_
          obtain ⟨c40, h⟩ := iv_ckE h
          refine iv_Ret.iald (len := L) rfl rfl rfl c40.1 c40.2 ?_
          show iv_Ret L 171 192 [ivR 1, ivR 2, ivR 110, ivI l3] [ivI (μ 1 (iv_wr (l3 + 3)).toNat), ivJ (iv_lshl (μ 1 (iv_wr (l3 + 2)).toNat) 32), ivI (μ 1 (iv_wr (l3 + 1)).toNat), ivR 2] (ivST μ) (some (ivI r)) (ivST μ')
          refine iv_Ret.stl [193, 196, 197, 198] (ls' := [ivR 1, ivR 2, ivR 110, ivI l3]) (st' := [ivJ (iv_lor (iv_lshl (μ 1 (iv_wr (l3 + 2)).toNat) 32) (iv_land (μ 1 (iv_wr (l3 + 3)).toNat) 4294967295)), ivI (μ 1 (iv_wr (l3 + 1)).toNat), ivR 2]) (w' := (135, μ, iv_rho)) rfl ?_
          obtain ⟨r41, μ42, e43, h⟩ := iv_bndE h
          refine iv_Ret.callv rfl rfl rfl (T_X9_write L (μ 1 (iv_wr (l3 + 1)).toNat) (iv_lor (iv_lshl (μ 1 (iv_wr (l3 + 2)).toNat) 32) (iv_land (μ 1 (iv_wr (l3 + 3)).toNat) 4294967295)) e43) ?_
          show iv_Ret L 171 201 [ivR 1, ivR 2, ivR 110, ivI l3] [ivI r41] (ivST μ42) (some (ivI r)) (ivST μ')
          refine iv_Ret.stl [202, 203, 204, 205, 206] (ls' := [ivR 1, ivR 2, ivR 110, ivI l3]) (st' := [ivI (iv_wr (l3 + 1)), ivR 1, ivR 110, ivI r41]) (w' := (135, μ42, iv_rho)) rfl ?_
          obtain ⟨c44, h⟩ := iv_ckE h
          refine iv_Ret.iald (len := L) rfl rfl rfl c44.1 c44.2 ?_
          show iv_Ret L 171 207 [ivR 1, ivR 2, ivR 110, ivI l3] [ivI (μ42 1 (iv_wr (l3 + 1)).toNat), ivR 110, ivI r41] (ivST μ42) (some (ivI r)) (ivST μ')
          refine iv_Ret.stl [208, 209, 210, 211] (ls' := [ivR 1, ivR 2, ivR 110, ivI l3]) (st' := [ivI (iv_wr (l3 + 2)), ivR 1, ivI (μ42 1 (iv_wr (l3 + 1)).toNat), ivR 110, ivI r41]) (w' := (135, μ42, iv_rho)) rfl ?_
          obtain ⟨c45, h⟩ := iv_ckE h
          refine iv_Ret.iald (len := L) rfl rfl rfl c45.1 c45.2 ?_
          show iv_Ret L 171 212 [ivR 1, ivR 2, ivR 110, ivI l3] [ivI (μ42 1 (iv_wr (l3 + 2)).toNat), ivI (μ42 1 (iv_wr (l3 + 1)).toNat), ivR 110, ivI r41] (ivST μ42) (some (ivI r)) (ivST μ')
          refine iv_Ret.stl [213, 215, 216, 217, 218, 219, 220] (ls' := [ivR 1, ivR 2, ivR 110, ivI l3]) (st' := [ivI (iv_wr (l3 + 3)), ivR 1, ivJ (iv_lshl (μ42 1 (iv_wr (l3 + 2)).toNat) 32), ivI (μ42 1 (iv_wr (l3 + 1)).toNat), ivR 110, ivI r41]) (w' := (135, μ42, iv_rho)) rfl ?_
          obtain ⟨c46, h⟩ := iv_ckE h
          refine iv_Ret.iald (len := L) rfl rfl rfl c46.1 c46.2 ?_
          show iv_Ret L 171 221 [ivR 1, ivR 2, ivR 110, ivI l3] [ivI (μ42 1 (iv_wr (l3 + 3)).toNat), ivJ (iv_lshl (μ42 1 (iv_wr (l3 + 2)).toNat) 32), ivI (μ42 1 (iv_wr (l3 + 1)).toNat), ivR 110, ivI r41] (ivST μ42) (some (ivI r)) (ivST μ')
          refine iv_Ret.stl [222, 225, 226, 227] (ls' := [ivR 1, ivR 2, ivR 110, ivI l3]) (st' := [ivJ (iv_lor (iv_lshl (μ42 1 (iv_wr (l3 + 2)).toNat) 32) (iv_land (μ42 1 (iv_wr (l3 + 3)).toNat) 4294967295)), ivI (μ42 1 (iv_wr (l3 + 1)).toNat), ivR 110, ivI r41]) (w' := (135, μ42, iv_rho)) rfl ?_
          obtain ⟨r47, μ48, e49, h⟩ := iv_bndE h
          refine iv_Ret.callv rfl rfl rfl (T_X10_write L (μ42 1 (iv_wr (l3 + 1)).toNat) (iv_lor (iv_lshl (μ42 1 (iv_wr (l3 + 2)).toNat) 32) (iv_land (μ42 1 (iv_wr (l3 + 3)).toNat) 4294967295)) e49) ?_
          show iv_Ret L 171 230 [ivR 1, ivR 2, ivR 110, ivI l3] [ivI r47, ivI r41] (ivST μ48) (some (ivI r)) (ivST μ')
          rcases iv_iteE h with ⟨c50, h⟩ | ⟨c50, h⟩
          · refine iv_Ret.icT (t := 995) rfl (decide_eq_true c50) rfl ?_
            exact hj3 μ48 _ _ h
          · refine iv_Ret.icF (t := 233) rfl (decide_eq_false c50) rfl ?_
            refine iv_Ret.stl [234] (ls' := [ivR 1, ivR 2, ivR 110, ivI l3]) (st' := [ivI 0]) (w' := (135, μ48, iv_rho)) rfl ?_
            obtain ⟨rfl, rfl⟩ := iv_retE h
            exact ⟨1, rfl⟩
        rcases iv_iteE h with ⟨c8, h⟩ | ⟨c8, h⟩
        · refine iv_Ret.tsI (t := 235) rfl c8 rfl ?_
          refine iv_Ret.stl [236] (ls' := [ivR 1, ivR 2, ivR 110, ivI l3]) (st' := [ivR 2]) (w' := (135, μ, iv_rho)) rfl ?_
          obtain ⟨r51, μ52, e53, h⟩ := iv_bndE h
          refine iv_Ret.callv rfl rfl rfl (T_X9_wipe L  e53) ?_
          show iv_Ret L 171 239 [ivR 1, ivR 2, ivR 110, ivI l3] [ivI r51] (ivST μ52) (some (ivI r)) (ivST μ')
          refine iv_Ret.stl [240] (ls' := [ivR 1, ivR 2, ivR 110, ivI l3]) (st' := [ivR 110, ivI r51]) (w' := (135, μ52, iv_rho)) rfl ?_
          obtain ⟨r54, μ55, e56, h⟩ := iv_bndE h
          refine iv_Ret.callv rfl rfl rfl (T_X10_wipe L  e56) ?_
          show iv_Ret L 171 243 [ivR 1, ivR 2, ivR 110, ivI l3] [ivI r54, ivI r51] (ivST μ55) (some (ivI r)) (ivST μ')
          rcases iv_iteE h with ⟨c57, h⟩ | ⟨c57, h⟩
          · refine iv_Ret.icT (t := 995) rfl (decide_eq_true c57) rfl ?_
            exact hj3 μ55 _ _ h
          · refine iv_Ret.icF (t := 246) rfl (decide_eq_false c57) rfl ?_
            refine iv_Ret.stl [247] (ls' := [ivR 1, ivR 2, ivR 110, ivI l3]) (st' := [ivI 0]) (w' := (135, μ55, iv_rho)) rfl ?_
            obtain ⟨rfl, rfl⟩ := iv_retE h
            exact ⟨1, rfl⟩
        rcases iv_iteE h with ⟨c9, h⟩ | ⟨c9, h⟩
        · refine iv_Ret.tsI (t := 248) rfl c9 rfl ?_
          refine iv_Ret.stl [249] (ls' := [ivR 1, ivR 2, ivR 110, ivI l3]) (st' := [ivR 2]) (w' := (135, μ, iv_rho)) rfl ?_
          obtain ⟨r58, μ59, e60, h⟩ := iv_bndE h
          refine iv_Ret.callv rfl rfl rfl (T_X9_fault L  e60) ?_
          show iv_Ret L 171 252 [ivR 1, ivR 2, ivR 110, ivI l3] [ivI r58] (ivST μ59) (some (ivI r)) (ivST μ')
          refine iv_Ret.stl [253] (ls' := [ivR 1, ivR 2, ivR 110, ivI l3]) (st' := [ivR 110, ivI r58]) (w' := (135, μ59, iv_rho)) rfl ?_
          obtain ⟨r61, μ62, e63, h⟩ := iv_bndE h
          refine iv_Ret.callv rfl rfl rfl (T_X10_fault L  e63) ?_
          show iv_Ret L 171 256 [ivR 1, ivR 2, ivR 110, ivI l3] [ivI r61, ivI r58] (ivST μ62) (some (ivI r)) (ivST μ')
          rcases iv_iteE h with ⟨c64, h⟩ | ⟨c64, h⟩
          · refine iv_Ret.icT (t := 995) rfl (decide_eq_true c64) rfl ?_
            exact hj3 μ62 _ _ h
          · refine iv_Ret.icF (t := 259) rfl (decide_eq_false c64) rfl ?_
            refine iv_Ret.stl [260] (ls' := [ivR 1, ivR 2, ivR 110, ivI l3]) (st' := [ivI 0]) (w' := (135, μ62, iv_rho)) rfl ?_
            obtain ⟨rfl, rfl⟩ := iv_retE h
            exact ⟨1, rfl⟩
        rcases iv_iteE h with ⟨c10, h⟩ | ⟨c10, h⟩
        · refine iv_Ret.tsI (t := 261) rfl c10 rfl ?_
          refine iv_Ret.stl [262] (ls' := [ivR 1, ivR 2, ivR 110, ivI l3]) (st' := [ivR 2]) (w' := (135, μ, iv_rho)) rfl ?_
          obtain ⟨r65, μ66, e67, h⟩ := iv_bndE h
          refine iv_Ret.callv rfl rfl rfl (T_X9_house L  e67) ?_
          show iv_Ret L 171 265 [ivR 1, ivR 2, ivR 110, ivI l3] [ivI r65] (ivST μ66) (some (ivI r)) (ivST μ')
          refine iv_Ret.stl [266] (ls' := [ivR 1, ivR 2, ivR 110, ivI l3]) (st' := [ivR 110, ivI r65]) (w' := (135, μ66, iv_rho)) rfl ?_
          obtain ⟨r68, μ69, e70, h⟩ := iv_bndE h
          refine iv_Ret.callv rfl rfl rfl (T_X10_house L  e70) ?_
          show iv_Ret L 171 269 [ivR 1, ivR 2, ivR 110, ivI l3] [ivI r68, ivI r65] (ivST μ69) (some (ivI r)) (ivST μ')
          rcases iv_iteE h with ⟨c71, h⟩ | ⟨c71, h⟩
          · refine iv_Ret.icT (t := 995) rfl (decide_eq_true c71) rfl ?_
            exact hj3 μ69 _ _ h
          · refine iv_Ret.icF (t := 272) rfl (decide_eq_false c71) rfl ?_
            refine iv_Ret.stl [273] (ls' := [ivR 1, ivR 2, ivR 110, ivI l3]) (st' := [ivI 0]) (w' := (135, μ69, iv_rho)) rfl ?_
            obtain ⟨rfl, rfl⟩ := iv_retE h
            exact ⟨1, rfl⟩
        rcases iv_iteE h with ⟨c11, h⟩ | ⟨c11, h⟩
        · refine iv_Ret.tsI (t := 274) rfl c11 rfl ?_
          refine iv_Ret.stl [275, 276, 277, 278, 279] (ls' := [ivR 1, ivR 2, ivR 110, ivI l3]) (st' := [ivI (iv_wr (l3 + 1)), ivR 1, ivR 2]) (w' := (135, μ, iv_rho)) rfl ?_
          obtain ⟨c72, h⟩ := iv_ckE h
          refine iv_Ret.iald (len := L) rfl rfl rfl c72.1 c72.2 ?_
          show iv_Ret L 171 280 [ivR 1, ivR 2, ivR 110, ivI l3] [ivI (μ 1 (iv_wr (l3 + 1)).toNat), ivR 2] (ivST μ) (some (ivI r)) (ivST μ')
          refine iv_Ret.stl [281, 282, 283, 284] (ls' := [ivR 1, ivR 2, ivR 110, ivI l3]) (st' := [ivI (iv_wr (l3 + 2)), ivR 1, ivI (μ 1 (iv_wr (l3 + 1)).toNat), ivR 2]) (w' := (135, μ, iv_rho)) rfl ?_
          obtain ⟨c73, h⟩ := iv_ckE h
          refine iv_Ret.iald (len := L) rfl rfl rfl c73.1 c73.2 ?_
          show iv_Ret L 171 285 [ivR 1, ivR 2, ivR 110, ivI l3] [ivI (μ 1 (iv_wr (l3 + 2)).toNat), ivI (μ 1 (iv_wr (l3 + 1)).toNat), ivR 2] (ivST μ) (some (ivI r)) (ivST μ')
          obtain ⟨r74, μ75, e76, h⟩ := iv_bndE h
          refine iv_Ret.callv rfl rfl rfl (T_X9_sound L (μ 1 (iv_wr (l3 + 1)).toNat) (μ 1 (iv_wr (l3 + 2)).toNat) e76) ?_
          show iv_Ret L 171 288 [ivR 1, ivR 2, ivR 110, ivI l3] [ivI r74] (ivST μ75) (some (ivI r)) (ivST μ')
          refine iv_Ret.stl [289, 290, 291, 292, 293] (ls' := [ivR 1, ivR 2, ivR 110, ivI l3]) (st' := [ivI (iv_wr (l3 + 1)), ivR 1, ivR 110, ivI r74]) (w' := (135, μ75, iv_rho)) rfl ?_
          obtain ⟨c77, h⟩ := iv_ckE h
          refine iv_Ret.iald (len := L) rfl rfl rfl c77.1 c77.2 ?_
          show iv_Ret L 171 294 [ivR 1, ivR 2, ivR 110, ivI l3] [ivI (μ75 1 (iv_wr (l3 + 1)).toNat), ivR 110, ivI r74] (ivST μ75) (some (ivI r)) (ivST μ')
          refine iv_Ret.stl [295, 296, 297, 298] (ls' := [ivR 1, ivR 2, ivR 110, ivI l3]) (st' := [ivI (iv_wr (l3 + 2)), ivR 1, ivI (μ75 1 (iv_wr (l3 + 1)).toNat), ivR 110, ivI r74]) (w' := (135, μ75, iv_rho)) rfl ?_
          obtain ⟨c78, h⟩ := iv_ckE h
          refine iv_Ret.iald (len := L) rfl rfl rfl c78.1 c78.2 ?_
          show iv_Ret L 171 299 [ivR 1, ivR 2, ivR 110, ivI l3] [ivI (μ75 1 (iv_wr (l3 + 2)).toNat), ivI (μ75 1 (iv_wr (l3 + 1)).toNat), ivR 110, ivI r74] (ivST μ75) (some (ivI r)) (ivST μ')
          obtain ⟨r79, μ80, e81, h⟩ := iv_bndE h
          refine iv_Ret.callv rfl rfl rfl (T_X10_sound L (μ75 1 (iv_wr (l3 + 1)).toNat) (μ75 1 (iv_wr (l3 + 2)).toNat) e81) ?_
          show iv_Ret L 171 302 [ivR 1, ivR 2, ivR 110, ivI l3] [ivI r79, ivI r74] (ivST μ80) (some (ivI r)) (ivST μ')
          rcases iv_iteE h with ⟨c82, h⟩ | ⟨c82, h⟩
          · refine iv_Ret.icT (t := 995) rfl (decide_eq_true c82) rfl ?_
            exact hj3 μ80 _ _ h
          · refine iv_Ret.icF (t := 305) rfl (decide_eq_false c82) rfl ?_
            refine iv_Ret.stl [306] (ls' := [ivR 1, ivR 2, ivR 110, ivI l3]) (st' := [ivI 0]) (w' := (135, μ80, iv_rho)) rfl ?_
            obtain ⟨rfl, rfl⟩ := iv_retE h
            exact ⟨1, rfl⟩
        rcases iv_iteE h with ⟨c12, h⟩ | ⟨c12, h⟩
        · refine iv_Ret.tsI (t := 307) rfl c12 rfl ?_
          refine iv_Ret.stl [308, 309, 310, 311, 312] (ls' := [ivR 1, ivR 2, ivR 110, ivI l3]) (st' := [ivI (iv_wr (l3 + 1)), ivR 1, ivR 2]) (w' := (135, μ, iv_rho)) rfl ?_
          obtain ⟨c83, h⟩ := iv_ckE h
          refine iv_Ret.iald (len := L) rfl rfl rfl c83.1 c83.2 ?_
          show iv_Ret L 171 313 [ivR 1, ivR 2, ivR 110, ivI l3] [ivI (μ 1 (iv_wr (l3 + 1)).toNat), ivR 2] (ivST μ) (some (ivI r)) (ivST μ')
          refine iv_Ret.stl [314, 315, 316, 317] (ls' := [ivR 1, ivR 2, ivR 110, ivI l3]) (st' := [ivI (iv_wr (l3 + 2)), ivR 1, ivI (μ 1 (iv_wr (l3 + 1)).toNat), ivR 2]) (w' := (135, μ, iv_rho)) rfl ?_
          obtain ⟨c84, h⟩ := iv_ckE h
          refine iv_Ret.iald (len := L) rfl rfl rfl c84.1 c84.2 ?_
          show iv_Ret L 171 318 [ivR 1, ivR 2, ivR 110, ivI l3] [ivI (μ 1 (iv_wr (l3 + 2)).toNat), ivI (μ 1 (iv_wr (l3 + 1)).toNat), ivR 2] (ivST μ) (some (ivI r)) (ivST μ')
          obtain ⟨r85, μ86, e87, h⟩ := iv_bndE h
          refine iv_Ret.callv rfl rfl rfl (T_X9_off L (μ 1 (iv_wr (l3 + 1)).toNat) (μ 1 (iv_wr (l3 + 2)).toNat) e87) ?_
          show iv_Ret L 171 321 [ivR 1, ivR 2, ivR 110, ivI l3] [ivI r85] (ivST μ86) (some (ivI r)) (ivST μ')
          refine iv_Ret.stl [322, 323, 324, 325, 326] (ls' := [ivR 1, ivR 2, ivR 110, ivI l3]) (st' := [ivI (iv_wr (l3 + 1)), ivR 1, ivR 110, ivI r85]) (w' := (135, μ86, iv_rho)) rfl ?_
          obtain ⟨c88, h⟩ := iv_ckE h
          refine iv_Ret.iald (len := L) rfl rfl rfl c88.1 c88.2 ?_
          show iv_Ret L 171 327 [ivR 1, ivR 2, ivR 110, ivI l3] [ivI (μ86 1 (iv_wr (l3 + 1)).toNat), ivR 110, ivI r85] (ivST μ86) (some (ivI r)) (ivST μ')
          refine iv_Ret.stl [328, 329, 330, 331] (ls' := [ivR 1, ivR 2, ivR 110, ivI l3]) (st' := [ivI (iv_wr (l3 + 2)), ivR 1, ivI (μ86 1 (iv_wr (l3 + 1)).toNat), ivR 110, ivI r85]) (w' := (135, μ86, iv_rho)) rfl ?_
          obtain ⟨c89, h⟩ := iv_ckE h
          refine iv_Ret.iald (len := L) rfl rfl rfl c89.1 c89.2 ?_
          show iv_Ret L 171 332 [ivR 1, ivR 2, ivR 110, ivI l3] [ivI (μ86 1 (iv_wr (l3 + 2)).toNat), ivI (μ86 1 (iv_wr (l3 + 1)).toNat), ivR 110, ivI r85] (ivST μ86) (some (ivI r)) (ivST μ')
          obtain ⟨r90, μ91, e92, h⟩ := iv_bndE h
          refine iv_Ret.callv rfl rfl rfl (T_X10_off L (μ86 1 (iv_wr (l3 + 1)).toNat) (μ86 1 (iv_wr (l3 + 2)).toNat) e92) ?_
          show iv_Ret L 171 335 [ivR 1, ivR 2, ivR 110, ivI l3] [ivI r90, ivI r85] (ivST μ91) (some (ivI r)) (ivST μ')
          rcases iv_iteE h with ⟨c93, h⟩ | ⟨c93, h⟩
          · refine iv_Ret.icT (t := 995) rfl (decide_eq_true c93) rfl ?_
            exact hj3 μ91 _ _ h
          · refine iv_Ret.icF (t := 338) rfl (decide_eq_false c93) rfl ?_
            refine iv_Ret.stl [339] (ls' := [ivR 1, ivR 2, ivR 110, ivI l3]) (st' := [ivI 0]) (w' := (135, μ91, iv_rho)) rfl ?_
            obtain ⟨rfl, rfl⟩ := iv_retE h
            exact ⟨1, rfl⟩
        rcases iv_iteE h with ⟨c13, h⟩ | ⟨c13, h⟩
        · refine iv_Ret.tsI (t := 340) rfl c13 rfl ?_
          refine iv_Ret.stl [341, 342, 343, 344, 345] (ls' := [ivR 1, ivR 2, ivR 110, ivI l3]) (st' := [ivI (iv_wr (l3 + 1)), ivR 1, ivR 2]) (w' := (135, μ, iv_rho)) rfl ?_
          obtain ⟨c94, h⟩ := iv_ckE h
          refine iv_Ret.iald (len := L) rfl rfl rfl c94.1 c94.2 ?_
          show iv_Ret L 171 346 [ivR 1, ivR 2, ivR 110, ivI l3] [ivI (μ 1 (iv_wr (l3 + 1)).toNat), ivR 2] (ivST μ) (some (ivI r)) (ivST μ')
          obtain ⟨r95, μ96, e97, h⟩ := iv_bndE h
          refine iv_Ret.callv rfl rfl rfl (T_X9_near L (μ 1 (iv_wr (l3 + 1)).toNat) e97) ?_
          show iv_Ret L 171 349 [ivR 1, ivR 2, ivR 110, ivI l3] [ivI r95] (ivST μ96) (some (ivI r)) (ivST μ')
          refine iv_Ret.stl [350, 351, 352, 353, 354] (ls' := [ivR 1, ivR 2, ivR 110, ivI l3]) (st' := [ivI (iv_wr (l3 + 1)), ivR 1, ivR 110, ivI r95]) (w' := (135, μ96, iv_rho)) rfl ?_
          obtain ⟨c98, h⟩ := iv_ckE h
          refine iv_Ret.iald (len := L) rfl rfl rfl c98.1 c98.2 ?_
          show iv_Ret L 171 355 [ivR 1, ivR 2, ivR 110, ivI l3] [ivI (μ96 1 (iv_wr (l3 + 1)).toNat), ivR 110, ivI r95] (ivST μ96) (some (ivI r)) (ivST μ')
          obtain ⟨r99, μ100, e101, h⟩ := iv_bndE h
          refine iv_Ret.callv rfl rfl rfl (T_X10_near L (μ96 1 (iv_wr (l3 + 1)).toNat) e101) ?_
          show iv_Ret L 171 358 [ivR 1, ivR 2, ivR 110, ivI l3] [ivI r99, ivI r95] (ivST μ100) (some (ivI r)) (ivST μ')
          rcases iv_iteE h with ⟨c102, h⟩ | ⟨c102, h⟩
          · refine iv_Ret.icT (t := 995) rfl (decide_eq_true c102) rfl ?_
            exact hj3 μ100 _ _ h
          · refine iv_Ret.icF (t := 361) rfl (decide_eq_false c102) rfl ?_
            refine iv_Ret.stl [362] (ls' := [ivR 1, ivR 2, ivR 110, ivI l3]) (st' := [ivI 0]) (w' := (135, μ100, iv_rho)) rfl ?_
            obtain ⟨rfl, rfl⟩ := iv_retE h
            exact ⟨1, rfl⟩
        rcases iv_iteE h with ⟨c14, h⟩ | ⟨c14, h⟩
        · refine iv_Ret.tsI (t := 363) rfl c14 rfl ?_
          refine iv_Ret.stl [364, 365, 366, 367, 368] (ls' := [ivR 1, ivR 2, ivR 110, ivI l3]) (st' := [ivI (iv_wr (l3 + 1)), ivR 1, ivR 2]) (w' := (135, μ, iv_rho)) rfl ?_
          obtain ⟨c103, h⟩ := iv_ckE h
          refine iv_Ret.iald (len := L) rfl rfl rfl c103.1 c103.2 ?_
          show iv_Ret L 171 369 [ivR 1, ivR 2, ivR 110, ivI l3] [ivI (μ 1 (iv_wr (l3 + 1)).toNat), ivR 2] (ivST μ) (some (ivI r)) (ivST μ')
          obtain ⟨r104, μ105, e106, h⟩ := iv_bndE h
          refine iv_Ret.callv rfl rfl rfl (T_X9_knows L (μ 1 (iv_wr (l3 + 1)).toNat) e106) ?_
          show iv_Ret L 171 372 [ivR 1, ivR 2, ivR 110, ivI l3] [ivI r104] (ivST μ105) (some (ivI r)) (ivST μ')
          refine iv_Ret.stl [373, 374, 375, 376, 377] (ls' := [ivR 1, ivR 2, ivR 110, ivI l3]) (st' := [ivI (iv_wr (l3 + 1)), ivR 1, ivR 110, ivI r104]) (w' := (135, μ105, iv_rho)) rfl ?_
          obtain ⟨c107, h⟩ := iv_ckE h
          refine iv_Ret.iald (len := L) rfl rfl rfl c107.1 c107.2 ?_
          show iv_Ret L 171 378 [ivR 1, ivR 2, ivR 110, ivI l3] [ivI (μ105 1 (iv_wr (l3 + 1)).toNat), ivR 110, ivI r104] (ivST μ105) (some (ivI r)) (ivST μ')
          obtain ⟨r108, μ109, e110, h⟩ := iv_bndE h
          refine iv_Ret.callv rfl rfl rfl (T_X10_knows L (μ105 1 (iv_wr (l3 + 1)).toNat) e110) ?_
          show iv_Ret L 171 381 [ivR 1, ivR 2, ivR 110, ivI l3] [ivI r108, ivI r104] (ivST μ109) (some (ivI r)) (ivST μ')
          rcases iv_iteE h with ⟨c111, h⟩ | ⟨c111, h⟩
          · refine iv_Ret.icT (t := 995) rfl (decide_eq_true c111) rfl ?_
            exact hj3 μ109 _ _ h
          · refine iv_Ret.icF (t := 384) rfl (decide_eq_false c111) rfl ?_
            refine iv_Ret.stl [385] (ls' := [ivR 1, ivR 2, ivR 110, ivI l3]) (st' := [ivI 0]) (w' := (135, μ109, iv_rho)) rfl ?_
            obtain ⟨rfl, rfl⟩ := iv_retE h
            exact ⟨1, rfl⟩
        rcases iv_iteE h with ⟨c15, h⟩ | ⟨c15, h⟩
        · refine iv_Ret.tsI (t := 386) rfl c15 rfl ?_
          refine iv_Ret.stl [387] (ls' := [ivR 1, ivR 2, ivR 110, ivI l3]) (st' := [ivR 2]) (w' := (135, μ, iv_rho)) rfl ?_
          obtain ⟨r112, μ113, e114, h⟩ := iv_bndE h
          refine iv_Ret.callv rfl rfl rfl (T_X9_live L  e114) ?_
          show iv_Ret L 171 390 [ivR 1, ivR 2, ivR 110, ivI l3] [ivI r112] (ivST μ113) (some (ivI r)) (ivST μ')
          refine iv_Ret.stl [391] (ls' := [ivR 1, ivR 2, ivR 110, ivI l3]) (st' := [ivR 110, ivI r112]) (w' := (135, μ113, iv_rho)) rfl ?_
          obtain ⟨r115, μ116, e117, h⟩ := iv_bndE h
          refine iv_Ret.callv rfl rfl rfl (T_X10_live L  e117) ?_
          show iv_Ret L 171 394 [ivR 1, ivR 2, ivR 110, ivI l3] [ivI r115, ivI r112] (ivST μ116) (some (ivI r)) (ivST μ')
          rcases iv_iteE h with ⟨c118, h⟩ | ⟨c118, h⟩
          · refine iv_Ret.icT (t := 995) rfl (decide_eq_true c118) rfl ?_
            exact hj3 μ116 _ _ h
          · refine iv_Ret.icF (t := 397) rfl (decide_eq_false c118) rfl ?_
            refine iv_Ret.stl [398] (ls' := [ivR 1, ivR 2, ivR 110, ivI l3]) (st' := [ivI 0]) (w' := (135, μ116, iv_rho)) rfl ?_
            obtain ⟨rfl, rfl⟩ := iv_retE h
            exact ⟨1, rfl⟩
        rcases iv_iteE h with ⟨c16, h⟩ | ⟨c16, h⟩
        · refine iv_Ret.tsI (t := 399) rfl c16 rfl ?_
          refine iv_Ret.stl [400, 401, 402, 403, 404] (ls' := [ivR 1, ivR 2, ivR 110, ivI l3]) (st' := [ivI (iv_wr (l3 + 1)), ivR 1, ivR 2]) (w' := (135, μ, iv_rho)) rfl ?_
          obtain ⟨c119, h⟩ := iv_ckE h
          refine iv_Ret.iald (len := L) rfl rfl rfl c119.1 c119.2 ?_
          show iv_Ret L 171 405 [ivR 1, ivR 2, ivR 110, ivI l3] [ivI (μ 1 (iv_wr (l3 + 1)).toNat), ivR 2] (ivST μ) (some (ivI r)) (ivST μ')
          obtain ⟨r120, μ121, e122, h⟩ := iv_bndE h
          refine iv_Ret.callv rfl rfl rfl (T_X9_days L (μ 1 (iv_wr (l3 + 1)).toNat) e122) ?_
          show iv_Ret L 171 408 [ivR 1, ivR 2, ivR 110, ivI l3] [ivI r120] (ivST μ121) (some (ivI r)) (ivST μ')
          refine iv_Ret.stl [409, 410, 411, 412, 413] (ls' := [ivR 1, ivR 2, ivR 110, ivI l3]) (st' := [ivI (iv_wr (l3 + 1)), ivR 1, ivR 110, ivI r120]) (w' := (135, μ121, iv_rho)) rfl ?_
          obtain ⟨c123, h⟩ := iv_ckE h
          refine iv_Ret.iald (len := L) rfl rfl rfl c123.1 c123.2 ?_
          show iv_Ret L 171 414 [ivR 1, ivR 2, ivR 110, ivI l3] [ivI (μ121 1 (iv_wr (l3 + 1)).toNat), ivR 110, ivI r120] (ivST μ121) (some (ivI r)) (ivST μ')
          obtain ⟨r124, μ125, e126, h⟩ := iv_bndE h
          refine iv_Ret.callv rfl rfl rfl (T_X10_days L (μ121 1 (iv_wr (l3 + 1)).toNat) e126) ?_
          show iv_Ret L 171 417 [ivR 1, ivR 2, ivR 110, ivI l3] [ivI r124, ivI r120] (ivST μ125) (some (ivI r)) (ivST μ')
          rcases iv_iteE h with ⟨c127, h⟩ | ⟨c127, h⟩
          · refine iv_Ret.icT (t := 995) rfl (decide_eq_true c127) rfl ?_
            exact hj3 μ125 _ _ h
          · refine iv_Ret.icF (t := 420) rfl (decide_eq_false c127) rfl ?_
            refine iv_Ret.stl [421] (ls' := [ivR 1, ivR 2, ivR 110, ivI l3]) (st' := [ivI 0]) (w' := (135, μ125, iv_rho)) rfl ?_
            obtain ⟨rfl, rfl⟩ := iv_retE h
            exact ⟨1, rfl⟩
        rcases iv_iteE h with ⟨c17, h⟩ | ⟨c17, h⟩
        · refine iv_Ret.tsI (t := 422) rfl c17 rfl ?_
          refine iv_Ret.stl [423, 424, 425, 426, 427] (ls' := [ivR 1, ivR 2, ivR 110, ivI l3]) (st' := [ivI (iv_wr (l3 + 1)), ivR 1, ivR 2]) (w' := (135, μ, iv_rho)) rfl ?_
          obtain ⟨c128, h⟩ := iv_ckE h
          refine iv_Ret.iald (len := L) rfl rfl rfl c128.1 c128.2 ?_
          show iv_Ret L 171 428 [ivR 1, ivR 2, ivR 110, ivI l3] [ivI (μ 1 (iv_wr (l3 + 1)).toNat), ivR 2] (ivST μ) (some (ivI r)) (ivST μ')
          obtain ⟨r129, μ130, e131, h⟩ := iv_bndE h
          refine iv_Ret.callv rfl rfl rfl (T_X9_fades L (μ 1 (iv_wr (l3 + 1)).toNat) e131) ?_
          show iv_Ret L 171 431 [ivR 1, ivR 2, ivR 110, ivI l3] [ivI r129] (ivST μ130) (some (ivI r)) (ivST μ')
          refine iv_Ret.stl [432, 433, 434, 435, 436] (ls' := [ivR 1, ivR 2, ivR 110, ivI l3]) (st' := [ivI (iv_wr (l3 + 1)), ivR 1, ivR 110, ivI r129]) (w' := (135, μ130, iv_rho)) rfl ?_
          obtain ⟨c132, h⟩ := iv_ckE h
          refine iv_Ret.iald (len := L) rfl rfl rfl c132.1 c132.2 ?_
          show iv_Ret L 171 437 [ivR 1, ivR 2, ivR 110, ivI l3] [ivI (μ130 1 (iv_wr (l3 + 1)).toNat), ivR 110, ivI r129] (ivST μ130) (some (ivI r)) (ivST μ')
          obtain ⟨r133, μ134, e135, h⟩ := iv_bndE h
          refine iv_Ret.callv rfl rfl rfl (T_X10_fades L (μ130 1 (iv_wr (l3 + 1)).toNat) e135) ?_
          show iv_Ret L 171 440 [ivR 1, ivR 2, ivR 110, ivI l3] [ivI r133, ivI r129] (ivST μ134) (some (ivI r)) (ivST μ')
          rcases iv_iteE h with ⟨c136, h⟩ | ⟨c136, h⟩
          · refine iv_Ret.icT (t := 995) rfl (decide_eq_true c136) rfl ?_
            exact hj3 μ134 _ _ h
          · refine iv_Ret.icF (t := 443) rfl (decide_eq_false c136) rfl ?_
            refine iv_Ret.stl [444] (ls' := [ivR 1, ivR 2, ivR 110, ivI l3]) (st' := [ivI 0]) (w' := (135, μ134, iv_rho)) rfl ?_
            obtain ⟨rfl, rfl⟩ := iv_retE h
            exact ⟨1, rfl⟩
        rcases iv_iteE h with ⟨c18, h⟩ | ⟨c18, h⟩
        · refine iv_Ret.tsI (t := 445) rfl c18 rfl ?_
          refine iv_Ret.stl [446, 447, 448, 449, 450] (ls' := [ivR 1, ivR 2, ivR 110, ivI l3]) (st' := [ivI (iv_wr (l3 + 1)), ivR 1, ivR 2]) (w' := (135, μ, iv_rho)) rfl ?_
          obtain ⟨c137, h⟩ := iv_ckE h
          refine iv_Ret.iald (len := L) rfl rfl rfl c137.1 c137.2 ?_
          show iv_Ret L 171 451 [ivR 1, ivR 2, ivR 110, ivI l3] [ivI (μ 1 (iv_wr (l3 + 1)).toNat), ivR 2] (ivST μ) (some (ivI r)) (ivST μ')
          refine iv_Ret.stl [452, 453, 454, 455] (ls' := [ivR 1, ivR 2, ivR 110, ivI l3]) (st' := [ivI (iv_wr (l3 + 2)), ivR 1, ivI (μ 1 (iv_wr (l3 + 1)).toNat), ivR 2]) (w' := (135, μ, iv_rho)) rfl ?_
          obtain ⟨c138, h⟩ := iv_ckE h
          refine iv_Ret.iald (len := L) rfl rfl rfl c138.1 c138.2 ?_
          show iv_Ret L 171 456 [ivR 1, ivR 2, ivR 110, ivI l3] [ivI (μ 1 (iv_wr (l3 + 2)).toNat), ivI (μ 1 (iv_wr (l3 + 1)).toNat), ivR 2] (ivST μ) (some (ivI r)) (ivST μ')
          refine iv_Ret.stl [457, 458, 459, 460] (ls' := [ivR 1, ivR 2, ivR 110, ivI l3]) (st' := [ivI (iv_wr (l3 + 3)), ivR 1, ivI (μ 1 (iv_wr (l3 + 2)).toNat), ivI (μ 1 (iv_wr (l3 + 1)).toNat), ivR 2]) (w' := (135, μ, iv_rho)) rfl ?_
          obtain ⟨c139, h⟩ := iv_ckE h
          refine iv_Ret.iald (len := L) rfl rfl rfl c139.1 c139.2 ?_
          show iv_Ret L 171 461 [ivR 1, ivR 2, ivR 110, ivI l3] [ivI (μ 1 (iv_wr (l3 + 3)).toNat), ivI (μ 1 (iv_wr (l3 + 2)).toNat), ivI (μ 1 (iv_wr (l3 + 1)).toNat), ivR 2] (ivST μ) (some (ivI r)) (ivST μ')
          obtain ⟨r140, μ141, e142, h⟩ := iv_bndE h
          refine iv_Ret.callv rfl rfl rfl (T_X9_say L (μ 1 (iv_wr (l3 + 1)).toNat) (μ 1 (iv_wr (l3 + 2)).toNat) (μ 1 (iv_wr (l3 + 3)).toNat) e142) ?_
          show iv_Ret L 171 464 [ivR 1, ivR 2, ivR 110, ivI l3] [ivI r140] (ivST μ141) (some (ivI r)) (ivST μ')
          refine iv_Ret.stl [465, 466, 467, 468, 469] (ls' := [ivR 1, ivR 2, ivR 110, ivI l3]) (st' := [ivI (iv_wr (l3 + 1)), ivR 1, ivR 110, ivI r140]) (w' := (135, μ141, iv_rho)) rfl ?_
          obtain ⟨c143, h⟩ := iv_ckE h
          refine iv_Ret.iald (len := L) rfl rfl rfl c143.1 c143.2 ?_
          show iv_Ret L 171 470 [ivR 1, ivR 2, ivR 110, ivI l3] [ivI (μ141 1 (iv_wr (l3 + 1)).toNat), ivR 110, ivI r140] (ivST μ141) (some (ivI r)) (ivST μ')
          refine iv_Ret.stl [471, 472, 473, 474] (ls' := [ivR 1, ivR 2, ivR 110, ivI l3]) (st' := [ivI (iv_wr (l3 + 2)), ivR 1, ivI (μ141 1 (iv_wr (l3 + 1)).toNat), ivR 110, ivI r140]) (w' := (135, μ141, iv_rho)) rfl ?_
          obtain ⟨c144, h⟩ := iv_ckE h
          refine iv_Ret.iald (len := L) rfl rfl rfl c144.1 c144.2 ?_
          show iv_Ret L 171 475 [ivR 1, ivR 2, ivR 110, ivI l3] [ivI (μ141 1 (iv_wr (l3 + 2)).toNat), ivI (μ141 1 (iv_wr (l3 + 1)).toNat), ivR 110, ivI r140] (ivST μ141) (some (ivI r)) (ivST μ')
          refine iv_Ret.stl [476, 477, 478, 479] (ls' := [ivR 1, ivR 2, ivR 110, ivI l3]) (st' := [ivI (iv_wr (l3 + 3)), ivR 1, ivI (μ141 1 (iv_wr (l3 + 2)).toNat), ivI (μ141 1 (iv_wr (l3 + 1)).toNat), ivR 110, ivI r140]) (w' := (135, μ141, iv_rho)) rfl ?_
          obtain ⟨c145, h⟩ := iv_ckE h
          refine iv_Ret.iald (len := L) rfl rfl rfl c145.1 c145.2 ?_
          show iv_Ret L 171 480 [ivR 1, ivR 2, ivR 110, ivI l3] [ivI (μ141 1 (iv_wr (l3 + 3)).toNat), ivI (μ141 1 (iv_wr (l3 + 2)).toNat), ivI (μ141 1 (iv_wr (l3 + 1)).toNat), ivR 110, ivI r140] (ivST μ141) (some (ivI r)) (ivST μ')
          obtain ⟨r146, μ147, e148, h⟩ := iv_bndE h
          refine iv_Ret.callv rfl rfl rfl (T_X10_say L (μ141 1 (iv_wr (l3 + 1)).toNat) (μ141 1 (iv_wr (l3 + 2)).toNat) (μ141 1 (iv_wr (l3 + 3)).toNat) e148) ?_
          show iv_Ret L 171 483 [ivR 1, ivR 2, ivR 110, ivI l3] [ivI r146, ivI r140] (ivST μ147) (some (ivI r)) (ivST μ')
          rcases iv_iteE h with ⟨c149, h⟩ | ⟨c149, h⟩
          · refine iv_Ret.icT (t := 995) rfl (decide_eq_true c149) rfl ?_
            exact hj3 μ147 _ _ h
          · refine iv_Ret.icF (t := 486) rfl (decide_eq_false c149) rfl ?_
            refine iv_Ret.stl [487] (ls' := [ivR 1, ivR 2, ivR 110, ivI l3]) (st' := [ivI 0]) (w' := (135, μ147, iv_rho)) rfl ?_
            obtain ⟨rfl, rfl⟩ := iv_retE h
            exact ⟨1, rfl⟩
        rcases iv_iteE h with ⟨c19, h⟩ | ⟨c19, h⟩
        · refine iv_Ret.tsI (t := 488) rfl c19 rfl ?_
          refine iv_Ret.stl [489, 490, 491, 492, 493] (ls' := [ivR 1, ivR 2, ivR 110, ivI l3]) (st' := [ivI (iv_wr (l3 + 1)), ivR 1, ivR 2]) (w' := (135, μ, iv_rho)) rfl ?_
          obtain ⟨c150, h⟩ := iv_ckE h
          refine iv_Ret.iald (len := L) rfl rfl rfl c150.1 c150.2 ?_
          show iv_Ret L 171 494 [ivR 1, ivR 2, ivR 110, ivI l3] [ivI (μ 1 (iv_wr (l3 + 1)).toNat), ivR 2] (ivST μ) (some (ivI r)) (ivST μ')
          refine iv_Ret.stl [495, 496, 497, 498] (ls' := [ivR 1, ivR 2, ivR 110, ivI l3]) (st' := [ivI (iv_wr (l3 + 2)), ivR 1, ivI (μ 1 (iv_wr (l3 + 1)).toNat), ivR 2]) (w' := (135, μ, iv_rho)) rfl ?_
          obtain ⟨c151, h⟩ := iv_ckE h
          refine iv_Ret.iald (len := L) rfl rfl rfl c151.1 c151.2 ?_
          show iv_Ret L 171 499 [ivR 1, ivR 2, ivR 110, ivI l3] [ivI (μ 1 (iv_wr (l3 + 2)).toNat), ivI (μ 1 (iv_wr (l3 + 1)).toNat), ivR 2] (ivST μ) (some (ivI r)) (ivST μ')
          refine iv_Ret.stl [500, 501, 502, 503] (ls' := [ivR 1, ivR 2, ivR 110, ivI l3]) (st' := [ivI (iv_wr (l3 + 3)), ivR 1, ivI (μ 1 (iv_wr (l3 + 2)).toNat), ivI (μ 1 (iv_wr (l3 + 1)).toNat), ivR 2]) (w' := (135, μ, iv_rho)) rfl ?_
          obtain ⟨c152, h⟩ := iv_ckE h
          refine iv_Ret.iald (len := L) rfl rfl rfl c152.1 c152.2 ?_
          show iv_Ret L 171 504 [ivR 1, ivR 2, ivR 110, ivI l3] [ivI (μ 1 (iv_wr (l3 + 3)).toNat), ivI (μ 1 (iv_wr (l3 + 2)).toNat), ivI (μ 1 (iv_wr (l3 + 1)).toNat), ivR 2] (ivST μ) (some (ivI r)) (ivST μ')
          obtain ⟨r153, μ154, e155, h⟩ := iv_bndE h
          refine iv_Ret.callv rfl rfl rfl (T_X9_give L (μ 1 (iv_wr (l3 + 1)).toNat) (μ 1 (iv_wr (l3 + 2)).toNat) (μ 1 (iv_wr (l3 + 3)).toNat) e155) ?_
          show iv_Ret L 171 507 [ivR 1, ivR 2, ivR 110, ivI l3] [ivI r153] (ivST μ154) (some (ivI r)) (ivST μ')
          refine iv_Ret.stl [508, 509, 510, 511, 512] (ls' := [ivR 1, ivR 2, ivR 110, ivI l3]) (st' := [ivI (iv_wr (l3 + 1)), ivR 1, ivR 110, ivI r153]) (w' := (135, μ154, iv_rho)) rfl ?_
          obtain ⟨c156, h⟩ := iv_ckE h
          refine iv_Ret.iald (len := L) rfl rfl rfl c156.1 c156.2 ?_
          show iv_Ret L 171 513 [ivR 1, ivR 2, ivR 110, ivI l3] [ivI (μ154 1 (iv_wr (l3 + 1)).toNat), ivR 110, ivI r153] (ivST μ154) (some (ivI r)) (ivST μ')
          refine iv_Ret.stl [514, 515, 516, 517] (ls' := [ivR 1, ivR 2, ivR 110, ivI l3]) (st' := [ivI (iv_wr (l3 + 2)), ivR 1, ivI (μ154 1 (iv_wr (l3 + 1)).toNat), ivR 110, ivI r153]) (w' := (135, μ154, iv_rho)) rfl ?_
          obtain ⟨c157, h⟩ := iv_ckE h
          refine iv_Ret.iald (len := L) rfl rfl rfl c157.1 c157.2 ?_
          show iv_Ret L 171 518 [ivR 1, ivR 2, ivR 110, ivI l3] [ivI (μ154 1 (iv_wr (l3 + 2)).toNat), ivI (μ154 1 (iv_wr (l3 + 1)).toNat), ivR 110, ivI r153] (ivST μ154) (some (ivI r)) (ivST μ')
          refine iv_Ret.stl [519, 520, 521, 522] (ls' := [ivR 1, ivR 2, ivR 110, ivI l3]) (st' := [ivI (iv_wr (l3 + 3)), ivR 1, ivI (μ154 1 (iv_wr (l3 + 2)).toNat), ivI (μ154 1 (iv_wr (l3 + 1)).toNat), ivR 110, ivI r153]) (w' := (135, μ154, iv_rho)) rfl ?_
          obtain ⟨c158, h⟩ := iv_ckE h
          refine iv_Ret.iald (len := L) rfl rfl rfl c158.1 c158.2 ?_
          show iv_Ret L 171 523 [ivR 1, ivR 2, ivR 110, ivI l3] [ivI (μ154 1 (iv_wr (l3 + 3)).toNat), ivI (μ154 1 (iv_wr (l3 + 2)).toNat), ivI (μ154 1 (iv_wr (l3 + 1)).toNat), ivR 110, ivI r153] (ivST μ154) (some (ivI r)) (ivST μ')
          obtain ⟨r159, μ160, e161, h⟩ := iv_bndE h
          refine iv_Ret.callv rfl rfl rfl (T_X10_give L (μ154 1 (iv_wr (l3 + 1)).toNat) (μ154 1 (iv_wr (l3 + 2)).toNat) (μ154 1 (iv_wr (l3 + 3)).toNat) e161) ?_
          show iv_Ret L 171 526 [ivR 1, ivR 2, ivR 110, ivI l3] [ivI r159, ivI r153] (ivST μ160) (some (ivI r)) (ivST μ')
          rcases iv_iteE h with ⟨c162, h⟩ | ⟨c162, h⟩
          · refine iv_Ret.icT (t := 995) rfl (decide_eq_true c162) rfl ?_
            exact hj3 μ160 _ _ h
          · refine iv_Ret.icF (t := 529) rfl (decide_eq_false c162) rfl ?_
            refine iv_Ret.stl [530] (ls' := [ivR 1, ivR 2, ivR 110, ivI l3]) (st' := [ivI 0]) (w' := (135, μ160, iv_rho)) rfl ?_
            obtain ⟨rfl, rfl⟩ := iv_retE h
            exact ⟨1, rfl⟩
        rcases iv_iteE h with ⟨c20, h⟩ | ⟨c20, h⟩
        · refine iv_Ret.tsI (t := 531) rfl c20 rfl ?_
          refine iv_Ret.stl [532, 533, 534, 535, 536] (ls' := [ivR 1, ivR 2, ivR 110, ivI l3]) (st' := [ivI (iv_wr (l3 + 1)), ivR 1, ivR 2]) (w' := (135, μ, iv_rho)) rfl ?_
          obtain ⟨c163, h⟩ := iv_ckE h
          refine iv_Ret.iald (len := L) rfl rfl rfl c163.1 c163.2 ?_
          show iv_Ret L 171 537 [ivR 1, ivR 2, ivR 110, ivI l3] [ivI (μ 1 (iv_wr (l3 + 1)).toNat), ivR 2] (ivST μ) (some (ivI r)) (ivST μ')
          obtain ⟨r164, μ165, e166, h⟩ := iv_bndE h
          refine iv_Ret.callv rfl rfl rfl (T_X9_fresh L (μ 1 (iv_wr (l3 + 1)).toNat) e166) ?_
          show iv_Ret L 171 540 [ivR 1, ivR 2, ivR 110, ivI l3] [ivI r164] (ivST μ165) (some (ivI r)) (ivST μ')
          refine iv_Ret.stl [541, 542, 543, 544, 545] (ls' := [ivR 1, ivR 2, ivR 110, ivI l3]) (st' := [ivI (iv_wr (l3 + 1)), ivR 1, ivR 110, ivI r164]) (w' := (135, μ165, iv_rho)) rfl ?_
          obtain ⟨c167, h⟩ := iv_ckE h
          refine iv_Ret.iald (len := L) rfl rfl rfl c167.1 c167.2 ?_
          show iv_Ret L 171 546 [ivR 1, ivR 2, ivR 110, ivI l3] [ivI (μ165 1 (iv_wr (l3 + 1)).toNat), ivR 110, ivI r164] (ivST μ165) (some (ivI r)) (ivST μ')
          obtain ⟨r168, μ169, e170, h⟩ := iv_bndE h
          refine iv_Ret.callv rfl rfl rfl (T_X10_fresh L (μ165 1 (iv_wr (l3 + 1)).toNat) e170) ?_
          show iv_Ret L 171 549 [ivR 1, ivR 2, ivR 110, ivI l3] [ivI r168, ivI r164] (ivST μ169) (some (ivI r)) (ivST μ')
          rcases iv_iteE h with ⟨c171, h⟩ | ⟨c171, h⟩
          · refine iv_Ret.icT (t := 995) rfl (decide_eq_true c171) rfl ?_
            exact hj3 μ169 _ _ h
          · refine iv_Ret.icF (t := 552) rfl (decide_eq_false c171) rfl ?_
            refine iv_Ret.stl [553] (ls' := [ivR 1, ivR 2, ivR 110, ivI l3]) (st' := [ivI 0]) (w' := (135, μ169, iv_rho)) rfl ?_
            obtain ⟨rfl, rfl⟩ := iv_retE h
            exact ⟨1, rfl⟩
        rcases iv_iteE h with ⟨c21, h⟩ | ⟨c21, h⟩
        · refine iv_Ret.tsI (t := 554) rfl c21 rfl ?_
          refine iv_Ret.stl [555, 556, 557, 558, 559] (ls' := [ivR 1, ivR 2, ivR 110, ivI l3]) (st' := [ivI (iv_wr (l3 + 1)), ivR 1, ivR 2]) (w' := (135, μ, iv_rho)) rfl ?_
          obtain ⟨c172, h⟩ := iv_ckE h
          refine iv_Ret.iald (len := L) rfl rfl rfl c172.1 c172.2 ?_
          show iv_Ret L 171 560 [ivR 1, ivR 2, ivR 110, ivI l3] [ivI (μ 1 (iv_wr (l3 + 1)).toNat), ivR 2] (ivST μ) (some (ivI r)) (ivST μ')
          refine iv_Ret.stl [561, 562, 563, 564] (ls' := [ivR 1, ivR 2, ivR 110, ivI l3]) (st' := [ivI (iv_wr (l3 + 2)), ivR 1, ivI (μ 1 (iv_wr (l3 + 1)).toNat), ivR 2]) (w' := (135, μ, iv_rho)) rfl ?_
          obtain ⟨c173, h⟩ := iv_ckE h
          refine iv_Ret.iald (len := L) rfl rfl rfl c173.1 c173.2 ?_
          show iv_Ret L 171 565 [ivR 1, ivR 2, ivR 110, ivI l3] [ivI (μ 1 (iv_wr (l3 + 2)).toNat), ivI (μ 1 (iv_wr (l3 + 1)).toNat), ivR 2] (ivST μ) (some (ivI r)) (ivST μ')
          obtain ⟨r174, μ175, e176, h⟩ := iv_bndE h
          refine iv_Ret.callv rfl rfl rfl (T_X9_anew L (μ 1 (iv_wr (l3 + 1)).toNat) (μ 1 (iv_wr (l3 + 2)).toNat) e176) ?_
          show iv_Ret L 171 568 [ivR 1, ivR 2, ivR 110, ivI l3] [ivI r174] (ivST μ175) (some (ivI r)) (ivST μ')
          refine iv_Ret.stl [569, 570, 571, 572, 573] (ls' := [ivR 1, ivR 2, ivR 110, ivI l3]) (st' := [ivI (iv_wr (l3 + 1)), ivR 1, ivR 110, ivI r174]) (w' := (135, μ175, iv_rho)) rfl ?_
          obtain ⟨c177, h⟩ := iv_ckE h
          refine iv_Ret.iald (len := L) rfl rfl rfl c177.1 c177.2 ?_
          show iv_Ret L 171 574 [ivR 1, ivR 2, ivR 110, ivI l3] [ivI (μ175 1 (iv_wr (l3 + 1)).toNat), ivR 110, ivI r174] (ivST μ175) (some (ivI r)) (ivST μ')
          refine iv_Ret.stl [575, 576, 577, 578] (ls' := [ivR 1, ivR 2, ivR 110, ivI l3]) (st' := [ivI (iv_wr (l3 + 2)), ivR 1, ivI (μ175 1 (iv_wr (l3 + 1)).toNat), ivR 110, ivI r174]) (w' := (135, μ175, iv_rho)) rfl ?_
          obtain ⟨c178, h⟩ := iv_ckE h
          refine iv_Ret.iald (len := L) rfl rfl rfl c178.1 c178.2 ?_
          show iv_Ret L 171 579 [ivR 1, ivR 2, ivR 110, ivI l3] [ivI (μ175 1 (iv_wr (l3 + 2)).toNat), ivI (μ175 1 (iv_wr (l3 + 1)).toNat), ivR 110, ivI r174] (ivST μ175) (some (ivI r)) (ivST μ')
          obtain ⟨r179, μ180, e181, h⟩ := iv_bndE h
          refine iv_Ret.callv rfl rfl rfl (T_X10_anew L (μ175 1 (iv_wr (l3 + 1)).toNat) (μ175 1 (iv_wr (l3 + 2)).toNat) e181) ?_
          show iv_Ret L 171 582 [ivR 1, ivR 2, ivR 110, ivI l3] [ivI r179, ivI r174] (ivST μ180) (some (ivI r)) (ivST μ')
          rcases iv_iteE h with ⟨c182, h⟩ | ⟨c182, h⟩
          · refine iv_Ret.icT (t := 995) rfl (decide_eq_true c182) rfl ?_
            exact hj3 μ180 _ _ h
          · refine iv_Ret.icF (t := 585) rfl (decide_eq_false c182) rfl ?_
            refine iv_Ret.stl [586] (ls' := [ivR 1, ivR 2, ivR 110, ivI l3]) (st' := [ivI 0]) (w' := (135, μ180, iv_rho)) rfl ?_
            obtain ⟨rfl, rfl⟩ := iv_retE h
            exact ⟨1, rfl⟩
        rcases iv_iteE h with ⟨c22, h⟩ | ⟨c22, h⟩
        · refine iv_Ret.tsI (t := 587) rfl c22 rfl ?_
          refine iv_Ret.stl [588, 589, 590, 591, 592] (ls' := [ivR 1, ivR 2, ivR 110, ivI l3]) (st' := [ivI (iv_wr (l3 + 1)), ivR 1, ivR 2]) (w' := (135, μ, iv_rho)) rfl ?_
          obtain ⟨c183, h⟩ := iv_ckE h
          refine iv_Ret.iald (len := L) rfl rfl rfl c183.1 c183.2 ?_
          show iv_Ret L 171 593 [ivR 1, ivR 2, ivR 110, ivI l3] [ivI (μ 1 (iv_wr (l3 + 1)).toNat), ivR 2] (ivST μ) (some (ivI r)) (ivST μ')
          obtain ⟨r184, μ185, e186, h⟩ := iv_bndE h
          refine iv_Ret.callv rfl rfl rfl (T_X9_lifts L (μ 1 (iv_wr (l3 + 1)).toNat) e186) ?_
          show iv_Ret L 171 596 [ivR 1, ivR 2, ivR 110, ivI l3] [ivI r184] (ivST μ185) (some (ivI r)) (ivST μ')
          refine iv_Ret.stl [597, 598, 599, 600, 601] (ls' := [ivR 1, ivR 2, ivR 110, ivI l3]) (st' := [ivI (iv_wr (l3 + 1)), ivR 1, ivR 110, ivI r184]) (w' := (135, μ185, iv_rho)) rfl ?_
          obtain ⟨c187, h⟩ := iv_ckE h
          refine iv_Ret.iald (len := L) rfl rfl rfl c187.1 c187.2 ?_
          show iv_Ret L 171 602 [ivR 1, ivR 2, ivR 110, ivI l3] [ivI (μ185 1 (iv_wr (l3 + 1)).toNat), ivR 110, ivI r184] (ivST μ185) (some (ivI r)) (ivST μ')
          obtain ⟨r188, μ189, e190, h⟩ := iv_bndE h
          refine iv_Ret.callv rfl rfl rfl (T_X10_lifts L (μ185 1 (iv_wr (l3 + 1)).toNat) e190) ?_
          show iv_Ret L 171 605 [ivR 1, ivR 2, ivR 110, ivI l3] [ivI r188, ivI r184] (ivST μ189) (some (ivI r)) (ivST μ')
          rcases iv_iteE h with ⟨c191, h⟩ | ⟨c191, h⟩
          · refine iv_Ret.icT (t := 995) rfl (decide_eq_true c191) rfl ?_
            exact hj3 μ189 _ _ h
          · refine iv_Ret.icF (t := 608) rfl (decide_eq_false c191) rfl ?_
            refine iv_Ret.stl [609] (ls' := [ivR 1, ivR 2, ivR 110, ivI l3]) (st' := [ivI 0]) (w' := (135, μ189, iv_rho)) rfl ?_
            obtain ⟨rfl, rfl⟩ := iv_retE h
            exact ⟨1, rfl⟩
        rcases iv_iteE h with ⟨c23, h⟩ | ⟨c23, h⟩
        · refine iv_Ret.tsI (t := 610) rfl c23 rfl ?_
          refine iv_Ret.stl [611, 612, 613, 614, 615] (ls' := [ivR 1, ivR 2, ivR 110, ivI l3]) (st' := [ivI (iv_wr (l3 + 1)), ivR 1, ivR 2]) (w' := (135, μ, iv_rho)) rfl ?_
          obtain ⟨c192, h⟩ := iv_ckE h
          refine iv_Ret.iald (len := L) rfl rfl rfl c192.1 c192.2 ?_
          show iv_Ret L 171 616 [ivR 1, ivR 2, ivR 110, ivI l3] [ivI (μ 1 (iv_wr (l3 + 1)).toNat), ivR 2] (ivST μ) (some (ivI r)) (ivST μ')
          refine iv_Ret.stl [617, 618, 619, 620] (ls' := [ivR 1, ivR 2, ivR 110, ivI l3]) (st' := [ivI (iv_wr (l3 + 2)), ivR 1, ivI (μ 1 (iv_wr (l3 + 1)).toNat), ivR 2]) (w' := (135, μ, iv_rho)) rfl ?_
          obtain ⟨c193, h⟩ := iv_ckE h
          refine iv_Ret.iald (len := L) rfl rfl rfl c193.1 c193.2 ?_
          show iv_Ret L 171 621 [ivR 1, ivR 2, ivR 110, ivI l3] [ivI (μ 1 (iv_wr (l3 + 2)).toNat), ivI (μ 1 (iv_wr (l3 + 1)).toNat), ivR 2] (ivST μ) (some (ivI r)) (ivST μ')
          obtain ⟨r194, μ195, e196, h⟩ := iv_bndE h
          refine iv_Ret.callv rfl rfl rfl (T_X9_stands L (μ 1 (iv_wr (l3 + 1)).toNat) (μ 1 (iv_wr (l3 + 2)).toNat) e196) ?_
          show iv_Ret L 171 624 [ivR 1, ivR 2, ivR 110, ivI l3] [ivI r194] (ivST μ195) (some (ivI r)) (ivST μ')
          refine iv_Ret.stl [625, 626, 627, 628, 629] (ls' := [ivR 1, ivR 2, ivR 110, ivI l3]) (st' := [ivI (iv_wr (l3 + 1)), ivR 1, ivR 110, ivI r194]) (w' := (135, μ195, iv_rho)) rfl ?_
          obtain ⟨c197, h⟩ := iv_ckE h
          refine iv_Ret.iald (len := L) rfl rfl rfl c197.1 c197.2 ?_
          show iv_Ret L 171 630 [ivR 1, ivR 2, ivR 110, ivI l3] [ivI (μ195 1 (iv_wr (l3 + 1)).toNat), ivR 110, ivI r194] (ivST μ195) (some (ivI r)) (ivST μ')
          refine iv_Ret.stl [631, 632, 633, 634] (ls' := [ivR 1, ivR 2, ivR 110, ivI l3]) (st' := [ivI (iv_wr (l3 + 2)), ivR 1, ivI (μ195 1 (iv_wr (l3 + 1)).toNat), ivR 110, ivI r194]) (w' := (135, μ195, iv_rho)) rfl ?_
          obtain ⟨c198, h⟩ := iv_ckE h
          refine iv_Ret.iald (len := L) rfl rfl rfl c198.1 c198.2 ?_
          show iv_Ret L 171 635 [ivR 1, ivR 2, ivR 110, ivI l3] [ivI (μ195 1 (iv_wr (l3 + 2)).toNat), ivI (μ195 1 (iv_wr (l3 + 1)).toNat), ivR 110, ivI r194] (ivST μ195) (some (ivI r)) (ivST μ')
          obtain ⟨r199, μ200, e201, h⟩ := iv_bndE h
          refine iv_Ret.callv rfl rfl rfl (T_X10_stands L (μ195 1 (iv_wr (l3 + 1)).toNat) (μ195 1 (iv_wr (l3 + 2)).toNat) e201) ?_
          show iv_Ret L 171 638 [ivR 1, ivR 2, ivR 110, ivI l3] [ivI r199, ivI r194] (ivST μ200) (some (ivI r)) (ivST μ')
          rcases iv_iteE h with ⟨c202, h⟩ | ⟨c202, h⟩
          · refine iv_Ret.icT (t := 995) rfl (decide_eq_true c202) rfl ?_
            exact hj3 μ200 _ _ h
          · refine iv_Ret.icF (t := 641) rfl (decide_eq_false c202) rfl ?_
            refine iv_Ret.stl [642] (ls' := [ivR 1, ivR 2, ivR 110, ivI l3]) (st' := [ivI 0]) (w' := (135, μ200, iv_rho)) rfl ?_
            obtain ⟨rfl, rfl⟩ := iv_retE h
            exact ⟨1, rfl⟩
        rcases iv_iteE h with ⟨c24, h⟩ | ⟨c24, h⟩
        · refine iv_Ret.tsI (t := 643) rfl c24 rfl ?_
          refine iv_Ret.stl [644, 645, 646, 647, 648] (ls' := [ivR 1, ivR 2, ivR 110, ivI l3]) (st' := [ivI (iv_wr (l3 + 1)), ivR 1, ivR 2]) (w' := (135, μ, iv_rho)) rfl ?_
          obtain ⟨c203, h⟩ := iv_ckE h
          refine iv_Ret.iald (len := L) rfl rfl rfl c203.1 c203.2 ?_
          show iv_Ret L 171 649 [ivR 1, ivR 2, ivR 110, ivI l3] [ivI (μ 1 (iv_wr (l3 + 1)).toNat), ivR 2] (ivST μ) (some (ivI r)) (ivST μ')
          refine iv_Ret.stl [650, 651, 652, 653] (ls' := [ivR 1, ivR 2, ivR 110, ivI l3]) (st' := [ivI (iv_wr (l3 + 2)), ivR 1, ivI (μ 1 (iv_wr (l3 + 1)).toNat), ivR 2]) (w' := (135, μ, iv_rho)) rfl ?_
          obtain ⟨c204, h⟩ := iv_ckE h
          refine iv_Ret.iald (len := L) rfl rfl rfl c204.1 c204.2 ?_
          show iv_Ret L 171 654 [ivR 1, ivR 2, ivR 110, ivI l3] [ivI (μ 1 (iv_wr (l3 + 2)).toNat), ivI (μ 1 (iv_wr (l3 + 1)).toNat), ivR 2] (ivST μ) (some (ivI r)) (ivST μ')
          obtain ⟨r205, μ206, e207, h⟩ := iv_bndE h
          refine iv_Ret.callv rfl rfl rfl (T_X9_carries L (μ 1 (iv_wr (l3 + 1)).toNat) (μ 1 (iv_wr (l3 + 2)).toNat) e207) ?_
          show iv_Ret L 171 657 [ivR 1, ivR 2, ivR 110, ivI l3] [ivI r205] (ivST μ206) (some (ivI r)) (ivST μ')
          refine iv_Ret.stl [658, 659, 660, 661, 662] (ls' := [ivR 1, ivR 2, ivR 110, ivI l3]) (st' := [ivI (iv_wr (l3 + 1)), ivR 1, ivR 110, ivI r205]) (w' := (135, μ206, iv_rho)) rfl ?_
          obtain ⟨c208, h⟩ := iv_ckE h
          refine iv_Ret.iald (len := L) rfl rfl rfl c208.1 c208.2 ?_
          show iv_Ret L 171 663 [ivR 1, ivR 2, ivR 110, ivI l3] [ivI (μ206 1 (iv_wr (l3 + 1)).toNat), ivR 110, ivI r205] (ivST μ206) (some (ivI r)) (ivST μ')
          refine iv_Ret.stl [664, 665, 666, 667] (ls' := [ivR 1, ivR 2, ivR 110, ivI l3]) (st' := [ivI (iv_wr (l3 + 2)), ivR 1, ivI (μ206 1 (iv_wr (l3 + 1)).toNat), ivR 110, ivI r205]) (w' := (135, μ206, iv_rho)) rfl ?_
          obtain ⟨c209, h⟩ := iv_ckE h
          refine iv_Ret.iald (len := L) rfl rfl rfl c209.1 c209.2 ?_
          show iv_Ret L 171 668 [ivR 1, ivR 2, ivR 110, ivI l3] [ivI (μ206 1 (iv_wr (l3 + 2)).toNat), ivI (μ206 1 (iv_wr (l3 + 1)).toNat), ivR 110, ivI r205] (ivST μ206) (some (ivI r)) (ivST μ')
          obtain ⟨r210, μ211, e212, h⟩ := iv_bndE h
          refine iv_Ret.callv rfl rfl rfl (T_X10_carries L (μ206 1 (iv_wr (l3 + 1)).toNat) (μ206 1 (iv_wr (l3 + 2)).toNat) e212) ?_
          show iv_Ret L 171 671 [ivR 1, ivR 2, ivR 110, ivI l3] [ivI r210, ivI r205] (ivST μ211) (some (ivI r)) (ivST μ')
          rcases iv_iteE h with ⟨c213, h⟩ | ⟨c213, h⟩
          · refine iv_Ret.icT (t := 995) rfl (decide_eq_true c213) rfl ?_
            exact hj3 μ211 _ _ h
          · refine iv_Ret.icF (t := 674) rfl (decide_eq_false c213) rfl ?_
            refine iv_Ret.stl [675] (ls' := [ivR 1, ivR 2, ivR 110, ivI l3]) (st' := [ivI 0]) (w' := (135, μ211, iv_rho)) rfl ?_
            obtain ⟨rfl, rfl⟩ := iv_retE h
            exact ⟨1, rfl⟩
        rcases iv_iteE h with ⟨c25, h⟩ | ⟨c25, h⟩
        · refine iv_Ret.tsI (t := 676) rfl c25 rfl ?_
          refine iv_Ret.stl [677, 678, 679, 680, 681] (ls' := [ivR 1, ivR 2, ivR 110, ivI l3]) (st' := [ivI (iv_wr (l3 + 1)), ivR 1, ivR 2]) (w' := (135, μ, iv_rho)) rfl ?_
          obtain ⟨c214, h⟩ := iv_ckE h
          refine iv_Ret.iald (len := L) rfl rfl rfl c214.1 c214.2 ?_
          show iv_Ret L 171 682 [ivR 1, ivR 2, ivR 110, ivI l3] [ivI (μ 1 (iv_wr (l3 + 1)).toNat), ivR 2] (ivST μ) (some (ivI r)) (ivST μ')
          obtain ⟨r215, μ216, e217, h⟩ := iv_bndE h
          refine iv_Ret.callv rfl rfl rfl (T_X9_times L (μ 1 (iv_wr (l3 + 1)).toNat) e217) ?_
          show iv_Ret L 171 685 [ivR 1, ivR 2, ivR 110, ivI l3] [ivI r215] (ivST μ216) (some (ivI r)) (ivST μ')
          refine iv_Ret.stl [686, 687, 688, 689, 690] (ls' := [ivR 1, ivR 2, ivR 110, ivI l3]) (st' := [ivI (iv_wr (l3 + 1)), ivR 1, ivR 110, ivI r215]) (w' := (135, μ216, iv_rho)) rfl ?_
          obtain ⟨c218, h⟩ := iv_ckE h
          refine iv_Ret.iald (len := L) rfl rfl rfl c218.1 c218.2 ?_
          show iv_Ret L 171 691 [ivR 1, ivR 2, ivR 110, ivI l3] [ivI (μ216 1 (iv_wr (l3 + 1)).toNat), ivR 110, ivI r215] (ivST μ216) (some (ivI r)) (ivST μ')
          obtain ⟨r219, μ220, e221, h⟩ := iv_bndE h
          refine iv_Ret.callv rfl rfl rfl (T_X10_times L (μ216 1 (iv_wr (l3 + 1)).toNat) e221) ?_
          show iv_Ret L 171 694 [ivR 1, ivR 2, ivR 110, ivI l3] [ivI r219, ivI r215] (ivST μ220) (some (ivI r)) (ivST μ')
          rcases iv_iteE h with ⟨c222, h⟩ | ⟨c222, h⟩
          · refine iv_Ret.icT (t := 995) rfl (decide_eq_true c222) rfl ?_
            exact hj3 μ220 _ _ h
          · refine iv_Ret.icF (t := 697) rfl (decide_eq_false c222) rfl ?_
            refine iv_Ret.stl [698] (ls' := [ivR 1, ivR 2, ivR 110, ivI l3]) (st' := [ivI 0]) (w' := (135, μ220, iv_rho)) rfl ?_
            obtain ⟨rfl, rfl⟩ := iv_retE h
            exact ⟨1, rfl⟩
        rcases iv_iteE h with ⟨c26, h⟩ | ⟨c26, h⟩
        · refine iv_Ret.tsI (t := 699) rfl c26 rfl ?_
          refine iv_Ret.stl [700, 701, 702, 703, 704] (ls' := [ivR 1, ivR 2, ivR 110, ivI l3]) (st' := [ivI (iv_wr (l3 + 1)), ivR 1, ivR 2]) (w' := (135, μ, iv_rho)) rfl ?_
          obtain ⟨c223, h⟩ := iv_ckE h
          refine iv_Ret.iald (len := L) rfl rfl rfl c223.1 c223.2 ?_
          show iv_Ret L 171 705 [ivR 1, ivR 2, ivR 110, ivI l3] [ivI (μ 1 (iv_wr (l3 + 1)).toNat), ivR 2] (ivST μ) (some (ivI r)) (ivST μ')
          obtain ⟨r224, μ225, e226, h⟩ := iv_bndE h
          refine iv_Ret.callv rfl rfl rfl (T_X9_worth L (μ 1 (iv_wr (l3 + 1)).toNat) e226) ?_
          show iv_Ret L 171 708 [ivR 1, ivR 2, ivR 110, ivI l3] [ivI r224] (ivST μ225) (some (ivI r)) (ivST μ')
          refine iv_Ret.stl [709, 710, 711, 712, 713] (ls' := [ivR 1, ivR 2, ivR 110, ivI l3]) (st' := [ivI (iv_wr (l3 + 1)), ivR 1, ivR 110, ivI r224]) (w' := (135, μ225, iv_rho)) rfl ?_
          obtain ⟨c227, h⟩ := iv_ckE h
          refine iv_Ret.iald (len := L) rfl rfl rfl c227.1 c227.2 ?_
          show iv_Ret L 171 714 [ivR 1, ivR 2, ivR 110, ivI l3] [ivI (μ225 1 (iv_wr (l3 + 1)).toNat), ivR 110, ivI r224] (ivST μ225) (some (ivI r)) (ivST μ')
          obtain ⟨r228, μ229, e230, h⟩ := iv_bndE h
          refine iv_Ret.callv rfl rfl rfl (T_X10_worth L (μ225 1 (iv_wr (l3 + 1)).toNat) e230) ?_
          show iv_Ret L 171 717 [ivR 1, ivR 2, ivR 110, ivI l3] [ivI r228, ivI r224] (ivST μ229) (some (ivI r)) (ivST μ')
          rcases iv_iteE h with ⟨c231, h⟩ | ⟨c231, h⟩
          · refine iv_Ret.icT (t := 995) rfl (decide_eq_true c231) rfl ?_
            exact hj3 μ229 _ _ h
          · refine iv_Ret.icF (t := 720) rfl (decide_eq_false c231) rfl ?_
            refine iv_Ret.stl [721] (ls' := [ivR 1, ivR 2, ivR 110, ivI l3]) (st' := [ivI 0]) (w' := (135, μ229, iv_rho)) rfl ?_
            obtain ⟨rfl, rfl⟩ := iv_retE h
            exact ⟨1, rfl⟩
        rcases iv_iteE h with ⟨c27, h⟩ | ⟨c27, h⟩
        · refine iv_Ret.tsI (t := 722) rfl c27 rfl ?_
          refine iv_Ret.stl [723, 724, 725, 726, 727] (ls' := [ivR 1, ivR 2, ivR 110, ivI l3]) (st' := [ivI (iv_wr (l3 + 1)), ivR 1, ivR 2]) (w' := (135, μ, iv_rho)) rfl ?_
          obtain ⟨c232, h⟩ := iv_ckE h
          refine iv_Ret.iald (len := L) rfl rfl rfl c232.1 c232.2 ?_
          show iv_Ret L 171 728 [ivR 1, ivR 2, ivR 110, ivI l3] [ivI (μ 1 (iv_wr (l3 + 1)).toNat), ivR 2] (ivST μ) (some (ivI r)) (ivST μ')
          refine iv_Ret.stl [729, 730, 731, 732] (ls' := [ivR 1, ivR 2, ivR 110, ivI l3]) (st' := [ivI (iv_wr (l3 + 2)), ivR 1, ivI (μ 1 (iv_wr (l3 + 1)).toNat), ivR 2]) (w' := (135, μ, iv_rho)) rfl ?_
          obtain ⟨c233, h⟩ := iv_ckE h
          refine iv_Ret.iald (len := L) rfl rfl rfl c233.1 c233.2 ?_
          show iv_Ret L 171 733 [ivR 1, ivR 2, ivR 110, ivI l3] [ivI (μ 1 (iv_wr (l3 + 2)).toNat), ivI (μ 1 (iv_wr (l3 + 1)).toNat), ivR 2] (ivST μ) (some (ivI r)) (ivST μ')
          obtain ⟨r234, μ235, e236, h⟩ := iv_bndE h
          refine iv_Ret.callv rfl rfl rfl (T_X9_upkeep L (μ 1 (iv_wr (l3 + 1)).toNat) (μ 1 (iv_wr (l3 + 2)).toNat) e236) ?_
          show iv_Ret L 171 736 [ivR 1, ivR 2, ivR 110, ivI l3] [ivI r234] (ivST μ235) (some (ivI r)) (ivST μ')
          refine iv_Ret.stl [737, 738, 739, 740, 741] (ls' := [ivR 1, ivR 2, ivR 110, ivI l3]) (st' := [ivI (iv_wr (l3 + 1)), ivR 1, ivR 110, ivI r234]) (w' := (135, μ235, iv_rho)) rfl ?_
          obtain ⟨c237, h⟩ := iv_ckE h
          refine iv_Ret.iald (len := L) rfl rfl rfl c237.1 c237.2 ?_
          show iv_Ret L 171 742 [ivR 1, ivR 2, ivR 110, ivI l3] [ivI (μ235 1 (iv_wr (l3 + 1)).toNat), ivR 110, ivI r234] (ivST μ235) (some (ivI r)) (ivST μ')
          refine iv_Ret.stl [743, 744, 745, 746] (ls' := [ivR 1, ivR 2, ivR 110, ivI l3]) (st' := [ivI (iv_wr (l3 + 2)), ivR 1, ivI (μ235 1 (iv_wr (l3 + 1)).toNat), ivR 110, ivI r234]) (w' := (135, μ235, iv_rho)) rfl ?_
          obtain ⟨c238, h⟩ := iv_ckE h
          refine iv_Ret.iald (len := L) rfl rfl rfl c238.1 c238.2 ?_
          show iv_Ret L 171 747 [ivR 1, ivR 2, ivR 110, ivI l3] [ivI (μ235 1 (iv_wr (l3 + 2)).toNat), ivI (μ235 1 (iv_wr (l3 + 1)).toNat), ivR 110, ivI r234] (ivST μ235) (some (ivI r)) (ivST μ')
          obtain ⟨r239, μ240, e241, h⟩ := iv_bndE h
          refine iv_Ret.callv rfl rfl rfl (T_X10_upkeep L (μ235 1 (iv_wr (l3 + 1)).toNat) (μ235 1 (iv_wr (l3 + 2)).toNat) e241) ?_
          show iv_Ret L 171 750 [ivR 1, ivR 2, ivR 110, ivI l3] [ivI r239, ivI r234] (ivST μ240) (some (ivI r)) (ivST μ')
          rcases iv_iteE h with ⟨c242, h⟩ | ⟨c242, h⟩
          · refine iv_Ret.icT (t := 995) rfl (decide_eq_true c242) rfl ?_
            exact hj3 μ240 _ _ h
          · refine iv_Ret.icF (t := 753) rfl (decide_eq_false c242) rfl ?_
            refine iv_Ret.stl [754] (ls' := [ivR 1, ivR 2, ivR 110, ivI l3]) (st' := [ivI 0]) (w' := (135, μ240, iv_rho)) rfl ?_
            obtain ⟨rfl, rfl⟩ := iv_retE h
            exact ⟨1, rfl⟩
        rcases iv_iteE h with ⟨c28, h⟩ | ⟨c28, h⟩
        · refine iv_Ret.tsI (t := 755) rfl c28 rfl ?_
          refine iv_Ret.stl [756, 757, 758, 759, 760] (ls' := [ivR 1, ivR 2, ivR 110, ivI l3]) (st' := [ivI (iv_wr (l3 + 1)), ivR 1, ivR 2]) (w' := (135, μ, iv_rho)) rfl ?_
          obtain ⟨c243, h⟩ := iv_ckE h
          refine iv_Ret.iald (len := L) rfl rfl rfl c243.1 c243.2 ?_
          show iv_Ret L 171 761 [ivR 1, ivR 2, ivR 110, ivI l3] [ivI (μ 1 (iv_wr (l3 + 1)).toNat), ivR 2] (ivST μ) (some (ivI r)) (ivST μ')
          obtain ⟨r244, μ245, e246, h⟩ := iv_bndE h
          refine iv_Ret.callv rfl rfl rfl (T_X9_mayHave L (μ 1 (iv_wr (l3 + 1)).toNat) e246) ?_
          show iv_Ret L 171 764 [ivR 1, ivR 2, ivR 110, ivI l3] [ivI r244] (ivST μ245) (some (ivI r)) (ivST μ')
          refine iv_Ret.stl [765, 766, 767, 768, 769] (ls' := [ivR 1, ivR 2, ivR 110, ivI l3]) (st' := [ivI (iv_wr (l3 + 1)), ivR 1, ivR 110, ivI r244]) (w' := (135, μ245, iv_rho)) rfl ?_
          obtain ⟨c247, h⟩ := iv_ckE h
          refine iv_Ret.iald (len := L) rfl rfl rfl c247.1 c247.2 ?_
          show iv_Ret L 171 770 [ivR 1, ivR 2, ivR 110, ivI l3] [ivI (μ245 1 (iv_wr (l3 + 1)).toNat), ivR 110, ivI r244] (ivST μ245) (some (ivI r)) (ivST μ')
          obtain ⟨r248, μ249, e250, h⟩ := iv_bndE h
          refine iv_Ret.callv rfl rfl rfl (T_X10_mayHave L (μ245 1 (iv_wr (l3 + 1)).toNat) e250) ?_
          show iv_Ret L 171 773 [ivR 1, ivR 2, ivR 110, ivI l3] [ivI r248, ivI r244] (ivST μ249) (some (ivI r)) (ivST μ')
          rcases iv_iteE h with ⟨c251, h⟩ | ⟨c251, h⟩
          · refine iv_Ret.icT (t := 995) rfl (decide_eq_true c251) rfl ?_
            exact hj3 μ249 _ _ h
          · refine iv_Ret.icF (t := 776) rfl (decide_eq_false c251) rfl ?_
            refine iv_Ret.stl [777] (ls' := [ivR 1, ivR 2, ivR 110, ivI l3]) (st' := [ivI 0]) (w' := (135, μ249, iv_rho)) rfl ?_
            obtain ⟨rfl, rfl⟩ := iv_retE h
            exact ⟨1, rfl⟩
        rcases iv_iteE h with ⟨c29, h⟩ | ⟨c29, h⟩
        · refine iv_Ret.tsI (t := 778) rfl c29 rfl ?_
          refine iv_Ret.stl [779, 780, 781, 782, 783] (ls' := [ivR 1, ivR 2, ivR 110, ivI l3]) (st' := [ivI (iv_wr (l3 + 1)), ivR 1, ivR 2]) (w' := (135, μ, iv_rho)) rfl ?_
          obtain ⟨c252, h⟩ := iv_ckE h
          refine iv_Ret.iald (len := L) rfl rfl rfl c252.1 c252.2 ?_
          show iv_Ret L 171 784 [ivR 1, ivR 2, ivR 110, ivI l3] [ivI (μ 1 (iv_wr (l3 + 1)).toNat), ivR 2] (ivST μ) (some (ivI r)) (ivST μ')
          refine iv_Ret.stl [785, 786, 787, 788] (ls' := [ivR 1, ivR 2, ivR 110, ivI l3]) (st' := [ivI (iv_wr (l3 + 2)), ivR 1, ivI (μ 1 (iv_wr (l3 + 1)).toNat), ivR 2]) (w' := (135, μ, iv_rho)) rfl ?_
          obtain ⟨c253, h⟩ := iv_ckE h
          refine iv_Ret.iald (len := L) rfl rfl rfl c253.1 c253.2 ?_
          show iv_Ret L 171 789 [ivR 1, ivR 2, ivR 110, ivI l3] [ivI (μ 1 (iv_wr (l3 + 2)).toNat), ivI (μ 1 (iv_wr (l3 + 1)).toNat), ivR 2] (ivST μ) (some (ivI r)) (ivST μ')
          obtain ⟨r254, μ255, e256, h⟩ := iv_bndE h
          refine iv_Ret.callv rfl rfl rfl (T_X9_line L (μ 1 (iv_wr (l3 + 1)).toNat) (μ 1 (iv_wr (l3 + 2)).toNat) e256) ?_
          show iv_Ret L 171 792 [ivR 1, ivR 2, ivR 110, ivI l3] [ivI r254] (ivST μ255) (some (ivI r)) (ivST μ')
          refine iv_Ret.stl [793, 794, 795, 796, 797] (ls' := [ivR 1, ivR 2, ivR 110, ivI l3]) (st' := [ivI (iv_wr (l3 + 1)), ivR 1, ivR 110, ivI r254]) (w' := (135, μ255, iv_rho)) rfl ?_
          obtain ⟨c257, h⟩ := iv_ckE h
          refine iv_Ret.iald (len := L) rfl rfl rfl c257.1 c257.2 ?_
          show iv_Ret L 171 798 [ivR 1, ivR 2, ivR 110, ivI l3] [ivI (μ255 1 (iv_wr (l3 + 1)).toNat), ivR 110, ivI r254] (ivST μ255) (some (ivI r)) (ivST μ')
          refine iv_Ret.stl [799, 800, 801, 802] (ls' := [ivR 1, ivR 2, ivR 110, ivI l3]) (st' := [ivI (iv_wr (l3 + 2)), ivR 1, ivI (μ255 1 (iv_wr (l3 + 1)).toNat), ivR 110, ivI r254]) (w' := (135, μ255, iv_rho)) rfl ?_
          obtain ⟨c258, h⟩ := iv_ckE h
          refine iv_Ret.iald (len := L) rfl rfl rfl c258.1 c258.2 ?_
          show iv_Ret L 171 803 [ivR 1, ivR 2, ivR 110, ivI l3] [ivI (μ255 1 (iv_wr (l3 + 2)).toNat), ivI (μ255 1 (iv_wr (l3 + 1)).toNat), ivR 110, ivI r254] (ivST μ255) (some (ivI r)) (ivST μ')
          obtain ⟨r259, μ260, e261, h⟩ := iv_bndE h
          refine iv_Ret.callv rfl rfl rfl (T_X10_line L (μ255 1 (iv_wr (l3 + 1)).toNat) (μ255 1 (iv_wr (l3 + 2)).toNat) e261) ?_
          show iv_Ret L 171 806 [ivR 1, ivR 2, ivR 110, ivI l3] [ivI r259, ivI r254] (ivST μ260) (some (ivI r)) (ivST μ')
          rcases iv_iteE h with ⟨c262, h⟩ | ⟨c262, h⟩
          · refine iv_Ret.icT (t := 995) rfl (decide_eq_true c262) rfl ?_
            exact hj3 μ260 _ _ h
          · refine iv_Ret.icF (t := 809) rfl (decide_eq_false c262) rfl ?_
            refine iv_Ret.stl [810] (ls' := [ivR 1, ivR 2, ivR 110, ivI l3]) (st' := [ivI 0]) (w' := (135, μ260, iv_rho)) rfl ?_
            obtain ⟨rfl, rfl⟩ := iv_retE h
            exact ⟨1, rfl⟩
        rcases iv_iteE h with ⟨c30, h⟩ | ⟨c30, h⟩
        · refine iv_Ret.tsI (t := 811) rfl c30 rfl ?_
          refine iv_Ret.stl [812] (ls' := [ivR 1, ivR 2, ivR 110, ivI l3]) (st' := [ivR 2]) (w' := (135, μ, iv_rho)) rfl ?_
          obtain ⟨r263, μ264, e265, h⟩ := iv_bndE h
          refine iv_Ret.callv rfl rfl rfl (T_X9_silence L  e265) ?_
          show iv_Ret L 171 815 [ivR 1, ivR 2, ivR 110, ivI l3] [ivI r263] (ivST μ264) (some (ivI r)) (ivST μ')
          refine iv_Ret.stl [816] (ls' := [ivR 1, ivR 2, ivR 110, ivI l3]) (st' := [ivR 110, ivI r263]) (w' := (135, μ264, iv_rho)) rfl ?_
          obtain ⟨r266, μ267, e268, h⟩ := iv_bndE h
          refine iv_Ret.callv rfl rfl rfl (T_X10_silence L  e268) ?_
          show iv_Ret L 171 819 [ivR 1, ivR 2, ivR 110, ivI l3] [ivI r266, ivI r263] (ivST μ267) (some (ivI r)) (ivST μ')
          rcases iv_iteE h with ⟨c269, h⟩ | ⟨c269, h⟩
          · refine iv_Ret.icT (t := 995) rfl (decide_eq_true c269) rfl ?_
            exact hj3 μ267 _ _ h
          · refine iv_Ret.icF (t := 822) rfl (decide_eq_false c269) rfl ?_
            refine iv_Ret.stl [823] (ls' := [ivR 1, ivR 2, ivR 110, ivI l3]) (st' := [ivI 0]) (w' := (135, μ267, iv_rho)) rfl ?_
            obtain ⟨rfl, rfl⟩ := iv_retE h
            exact ⟨1, rfl⟩
        rcases iv_iteE h with ⟨c31, h⟩ | ⟨c31, h⟩
        · refine iv_Ret.tsI (t := 824) rfl c31 rfl ?_
          refine iv_Ret.stl [825, 826, 827, 828, 829] (ls' := [ivR 1, ivR 2, ivR 110, ivI l3]) (st' := [ivI (iv_wr (l3 + 1)), ivR 1, ivR 2]) (w' := (135, μ, iv_rho)) rfl ?_
          obtain ⟨c270, h⟩ := iv_ckE h
          refine iv_Ret.iald (len := L) rfl rfl rfl c270.1 c270.2 ?_
          show iv_Ret L 171 830 [ivR 1, ivR 2, ivR 110, ivI l3] [ivI (μ 1 (iv_wr (l3 + 1)).toNat), ivR 2] (ivST μ) (some (ivI r)) (ivST μ')
          obtain ⟨r271, μ272, e273, h⟩ := iv_bndE h
          refine iv_Ret.callv rfl rfl rfl (T_X9_ways L (μ 1 (iv_wr (l3 + 1)).toNat) e273) ?_
          show iv_Ret L 171 833 [ivR 1, ivR 2, ivR 110, ivI l3] [ivI r271] (ivST μ272) (some (ivI r)) (ivST μ')
          refine iv_Ret.stl [834, 835, 836, 837, 838] (ls' := [ivR 1, ivR 2, ivR 110, ivI l3]) (st' := [ivI (iv_wr (l3 + 1)), ivR 1, ivR 110, ivI r271]) (w' := (135, μ272, iv_rho)) rfl ?_
          obtain ⟨c274, h⟩ := iv_ckE h
          refine iv_Ret.iald (len := L) rfl rfl rfl c274.1 c274.2 ?_
          show iv_Ret L 171 839 [ivR 1, ivR 2, ivR 110, ivI l3] [ivI (μ272 1 (iv_wr (l3 + 1)).toNat), ivR 110, ivI r271] (ivST μ272) (some (ivI r)) (ivST μ')
          obtain ⟨r275, μ276, e277, h⟩ := iv_bndE h
          refine iv_Ret.callv rfl rfl rfl (T_X10_ways L (μ272 1 (iv_wr (l3 + 1)).toNat) e277) ?_
          show iv_Ret L 171 842 [ivR 1, ivR 2, ivR 110, ivI l3] [ivI r275, ivI r271] (ivST μ276) (some (ivI r)) (ivST μ')
          rcases iv_iteE h with ⟨c278, h⟩ | ⟨c278, h⟩
          · refine iv_Ret.icT (t := 995) rfl (decide_eq_true c278) rfl ?_
            exact hj3 μ276 _ _ h
          · refine iv_Ret.icF (t := 845) rfl (decide_eq_false c278) rfl ?_
            refine iv_Ret.stl [846] (ls' := [ivR 1, ivR 2, ivR 110, ivI l3]) (st' := [ivI 0]) (w' := (135, μ276, iv_rho)) rfl ?_
            obtain ⟨rfl, rfl⟩ := iv_retE h
            exact ⟨1, rfl⟩
        rcases iv_iteE h with ⟨c32, h⟩ | ⟨c32, h⟩
        · refine iv_Ret.tsI (t := 847) rfl c32 rfl ?_
          refine iv_Ret.stl [848, 849, 850, 851, 852] (ls' := [ivR 1, ivR 2, ivR 110, ivI l3]) (st' := [ivI (iv_wr (l3 + 1)), ivR 1, ivR 2]) (w' := (135, μ, iv_rho)) rfl ?_
          obtain ⟨c279, h⟩ := iv_ckE h
          refine iv_Ret.iald (len := L) rfl rfl rfl c279.1 c279.2 ?_
          show iv_Ret L 171 853 [ivR 1, ivR 2, ivR 110, ivI l3] [ivI (μ 1 (iv_wr (l3 + 1)).toNat), ivR 2] (ivST μ) (some (ivI r)) (ivST μ')
          refine iv_Ret.stl [854, 855, 856, 857] (ls' := [ivR 1, ivR 2, ivR 110, ivI l3]) (st' := [ivI (iv_wr (l3 + 2)), ivR 1, ivI (μ 1 (iv_wr (l3 + 1)).toNat), ivR 2]) (w' := (135, μ, iv_rho)) rfl ?_
          obtain ⟨c280, h⟩ := iv_ckE h
          refine iv_Ret.iald (len := L) rfl rfl rfl c280.1 c280.2 ?_
          show iv_Ret L 171 858 [ivR 1, ivR 2, ivR 110, ivI l3] [ivI (μ 1 (iv_wr (l3 + 2)).toNat), ivI (μ 1 (iv_wr (l3 + 1)).toNat), ivR 2] (ivST μ) (some (ivI r)) (ivST μ')
          obtain ⟨r281, μ282, e283, h⟩ := iv_bndE h
          refine iv_Ret.callv rfl rfl rfl (T_X9_mayBe L (μ 1 (iv_wr (l3 + 1)).toNat) (μ 1 (iv_wr (l3 + 2)).toNat) e283) ?_
          show iv_Ret L 171 861 [ivR 1, ivR 2, ivR 110, ivI l3] [ivI r281] (ivST μ282) (some (ivI r)) (ivST μ')
          refine iv_Ret.stl [862, 863, 864, 865, 866] (ls' := [ivR 1, ivR 2, ivR 110, ivI l3]) (st' := [ivI (iv_wr (l3 + 1)), ivR 1, ivR 110, ivI r281]) (w' := (135, μ282, iv_rho)) rfl ?_
          obtain ⟨c284, h⟩ := iv_ckE h
          refine iv_Ret.iald (len := L) rfl rfl rfl c284.1 c284.2 ?_
          show iv_Ret L 171 867 [ivR 1, ivR 2, ivR 110, ivI l3] [ivI (μ282 1 (iv_wr (l3 + 1)).toNat), ivR 110, ivI r281] (ivST μ282) (some (ivI r)) (ivST μ')
          refine iv_Ret.stl [868, 869, 870, 871] (ls' := [ivR 1, ivR 2, ivR 110, ivI l3]) (st' := [ivI (iv_wr (l3 + 2)), ivR 1, ivI (μ282 1 (iv_wr (l3 + 1)).toNat), ivR 110, ivI r281]) (w' := (135, μ282, iv_rho)) rfl ?_
          obtain ⟨c285, h⟩ := iv_ckE h
          refine iv_Ret.iald (len := L) rfl rfl rfl c285.1 c285.2 ?_
          show iv_Ret L 171 872 [ivR 1, ivR 2, ivR 110, ivI l3] [ivI (μ282 1 (iv_wr (l3 + 2)).toNat), ivI (μ282 1 (iv_wr (l3 + 1)).toNat), ivR 110, ivI r281] (ivST μ282) (some (ivI r)) (ivST μ')
          obtain ⟨r286, μ287, e288, h⟩ := iv_bndE h
          refine iv_Ret.callv rfl rfl rfl (T_X10_mayBe L (μ282 1 (iv_wr (l3 + 1)).toNat) (μ282 1 (iv_wr (l3 + 2)).toNat) e288) ?_
          show iv_Ret L 171 875 [ivR 1, ivR 2, ivR 110, ivI l3] [ivI r286, ivI r281] (ivST μ287) (some (ivI r)) (ivST μ')
          rcases iv_iteE h with ⟨c289, h⟩ | ⟨c289, h⟩
          · refine iv_Ret.icT (t := 995) rfl (decide_eq_true c289) rfl ?_
            exact hj3 μ287 _ _ h
          · refine iv_Ret.icF (t := 878) rfl (decide_eq_false c289) rfl ?_
            refine iv_Ret.stl [879] (ls' := [ivR 1, ivR 2, ivR 110, ivI l3]) (st' := [ivI 0]) (w' := (135, μ287, iv_rho)) rfl ?_
            obtain ⟨rfl, rfl⟩ := iv_retE h
            exact ⟨1, rfl⟩
        rcases iv_iteE h with ⟨c33, h⟩ | ⟨c33, h⟩
        · refine iv_Ret.tsI (t := 880) rfl c33 rfl ?_
          refine iv_Ret.stl [881, 882, 883, 884, 885] (ls' := [ivR 1, ivR 2, ivR 110, ivI l3]) (st' := [ivI (iv_wr (l3 + 1)), ivR 1, ivR 2]) (w' := (135, μ, iv_rho)) rfl ?_
          obtain ⟨c290, h⟩ := iv_ckE h
          refine iv_Ret.iald (len := L) rfl rfl rfl c290.1 c290.2 ?_
          show iv_Ret L 171 886 [ivR 1, ivR 2, ivR 110, ivI l3] [ivI (μ 1 (iv_wr (l3 + 1)).toNat), ivR 2] (ivST μ) (some (ivI r)) (ivST μ')
          obtain ⟨r291, μ292, e293, h⟩ := iv_bndE h
          refine iv_Ret.callv rfl rfl rfl (T_X9_breaks L (μ 1 (iv_wr (l3 + 1)).toNat) e293) ?_
          show iv_Ret L 171 889 [ivR 1, ivR 2, ivR 110, ivI l3] [ivI r291] (ivST μ292) (some (ivI r)) (ivST μ')
          refine iv_Ret.stl [890, 891, 892, 893, 894] (ls' := [ivR 1, ivR 2, ivR 110, ivI l3]) (st' := [ivI (iv_wr (l3 + 1)), ivR 1, ivR 110, ivI r291]) (w' := (135, μ292, iv_rho)) rfl ?_
          obtain ⟨c294, h⟩ := iv_ckE h
          refine iv_Ret.iald (len := L) rfl rfl rfl c294.1 c294.2 ?_
          show iv_Ret L 171 895 [ivR 1, ivR 2, ivR 110, ivI l3] [ivI (μ292 1 (iv_wr (l3 + 1)).toNat), ivR 110, ivI r291] (ivST μ292) (some (ivI r)) (ivST μ')
          obtain ⟨r295, μ296, e297, h⟩ := iv_bndE h
          refine iv_Ret.callv rfl rfl rfl (T_X10_breaks L (μ292 1 (iv_wr (l3 + 1)).toNat) e297) ?_
          show iv_Ret L 171 898 [ivR 1, ivR 2, ivR 110, ivI l3] [ivI r295, ivI r291] (ivST μ296) (some (ivI r)) (ivST μ')
          rcases iv_iteE h with ⟨c298, h⟩ | ⟨c298, h⟩
          · refine iv_Ret.icT (t := 995) rfl (decide_eq_true c298) rfl ?_
            exact hj3 μ296 _ _ h
          · refine iv_Ret.icF (t := 901) rfl (decide_eq_false c298) rfl ?_
            refine iv_Ret.stl [902] (ls' := [ivR 1, ivR 2, ivR 110, ivI l3]) (st' := [ivI 0]) (w' := (135, μ296, iv_rho)) rfl ?_
            obtain ⟨rfl, rfl⟩ := iv_retE h
            exact ⟨1, rfl⟩
        rcases iv_iteE h with ⟨c34, h⟩ | ⟨c34, h⟩
        · refine iv_Ret.tsI (t := 903) rfl c34 rfl ?_
          refine iv_Ret.stl [904, 905, 906, 907, 908] (ls' := [ivR 1, ivR 2, ivR 110, ivI l3]) (st' := [ivI (iv_wr (l3 + 1)), ivR 1, ivR 2]) (w' := (135, μ, iv_rho)) rfl ?_
          obtain ⟨c299, h⟩ := iv_ckE h
          refine iv_Ret.iald (len := L) rfl rfl rfl c299.1 c299.2 ?_
          show iv_Ret L 171 909 [ivR 1, ivR 2, ivR 110, ivI l3] [ivI (μ 1 (iv_wr (l3 + 1)).toNat), ivR 2] (ivST μ) (some (ivI r)) (ivST μ')
          obtain ⟨r300, μ301, e302, h⟩ := iv_bndE h
          refine iv_Ret.callv rfl rfl rfl (T_X9_twins L (μ 1 (iv_wr (l3 + 1)).toNat) e302) ?_
          show iv_Ret L 171 912 [ivR 1, ivR 2, ivR 110, ivI l3] [ivI r300] (ivST μ301) (some (ivI r)) (ivST μ')
          refine iv_Ret.stl [913, 914, 915, 916, 917] (ls' := [ivR 1, ivR 2, ivR 110, ivI l3]) (st' := [ivI (iv_wr (l3 + 1)), ivR 1, ivR 110, ivI r300]) (w' := (135, μ301, iv_rho)) rfl ?_
          obtain ⟨c303, h⟩ := iv_ckE h
          refine iv_Ret.iald (len := L) rfl rfl rfl c303.1 c303.2 ?_
          show iv_Ret L 171 918 [ivR 1, ivR 2, ivR 110, ivI l3] [ivI (μ301 1 (iv_wr (l3 + 1)).toNat), ivR 110, ivI r300] (ivST μ301) (some (ivI r)) (ivST μ')
          obtain ⟨r304, μ305, e306, h⟩ := iv_bndE h
          refine iv_Ret.callv rfl rfl rfl (T_X10_twins L (μ301 1 (iv_wr (l3 + 1)).toNat) e306) ?_
          show iv_Ret L 171 921 [ivR 1, ivR 2, ivR 110, ivI l3] [ivI r304, ivI r300] (ivST μ305) (some (ivI r)) (ivST μ')
          rcases iv_iteE h with ⟨c307, h⟩ | ⟨c307, h⟩
          · refine iv_Ret.icT (t := 995) rfl (decide_eq_true c307) rfl ?_
            exact hj3 μ305 _ _ h
          · refine iv_Ret.icF (t := 924) rfl (decide_eq_false c307) rfl ?_
            refine iv_Ret.stl [925] (ls' := [ivR 1, ivR 2, ivR 110, ivI l3]) (st' := [ivI 0]) (w' := (135, μ305, iv_rho)) rfl ?_
            obtain ⟨rfl, rfl⟩ := iv_retE h
            exact ⟨1, rfl⟩
        rcases iv_iteE h with ⟨c35, h⟩ | ⟨c35, h⟩
        · refine iv_Ret.tsI (t := 926) rfl c35 rfl ?_
          refine iv_Ret.stl [927, 928, 929, 930, 931] (ls' := [ivR 1, ivR 2, ivR 110, ivI l3]) (st' := [ivI (iv_wr (l3 + 1)), ivR 1, ivR 2]) (w' := (135, μ, iv_rho)) rfl ?_
          obtain ⟨c308, h⟩ := iv_ckE h
          refine iv_Ret.iald (len := L) rfl rfl rfl c308.1 c308.2 ?_
          show iv_Ret L 171 932 [ivR 1, ivR 2, ivR 110, ivI l3] [ivI (μ 1 (iv_wr (l3 + 1)).toNat), ivR 2] (ivST μ) (some (ivI r)) (ivST μ')
          obtain ⟨r309, μ310, e311, h⟩ := iv_bndE h
          refine iv_Ret.callv rfl rfl rfl (T_X9_keep L (μ 1 (iv_wr (l3 + 1)).toNat) e311) ?_
          show iv_Ret L 171 935 [ivR 1, ivR 2, ivR 110, ivI l3] [ivI r309] (ivST μ310) (some (ivI r)) (ivST μ')
          refine iv_Ret.stl [936, 937, 938, 939, 940] (ls' := [ivR 1, ivR 2, ivR 110, ivI l3]) (st' := [ivI (iv_wr (l3 + 1)), ivR 1, ivR 110, ivI r309]) (w' := (135, μ310, iv_rho)) rfl ?_
          obtain ⟨c312, h⟩ := iv_ckE h
          refine iv_Ret.iald (len := L) rfl rfl rfl c312.1 c312.2 ?_
          show iv_Ret L 171 941 [ivR 1, ivR 2, ivR 110, ivI l3] [ivI (μ310 1 (iv_wr (l3 + 1)).toNat), ivR 110, ivI r309] (ivST μ310) (some (ivI r)) (ivST μ')
          obtain ⟨r313, μ314, e315, h⟩ := iv_bndE h
          refine iv_Ret.callv rfl rfl rfl (T_X10_keep L (μ310 1 (iv_wr (l3 + 1)).toNat) e315) ?_
          show iv_Ret L 171 944 [ivR 1, ivR 2, ivR 110, ivI l3] [ivI r313, ivI r309] (ivST μ314) (some (ivI r)) (ivST μ')
          rcases iv_iteE h with ⟨c316, h⟩ | ⟨c316, h⟩
          · refine iv_Ret.icT (t := 995) rfl (decide_eq_true c316) rfl ?_
            exact hj3 μ314 _ _ h
          · refine iv_Ret.icF (t := 947) rfl (decide_eq_false c316) rfl ?_
            refine iv_Ret.stl [948] (ls' := [ivR 1, ivR 2, ivR 110, ivI l3]) (st' := [ivI 0]) (w' := (135, μ314, iv_rho)) rfl ?_
            obtain ⟨rfl, rfl⟩ := iv_retE h
            exact ⟨1, rfl⟩
        rcases iv_iteE h with ⟨c36, h⟩ | ⟨c36, h⟩
        · refine iv_Ret.tsI (t := 949) rfl c36 rfl ?_
          refine iv_Ret.stl [950, 951, 952, 953, 954] (ls' := [ivR 1, ivR 2, ivR 110, ivI l3]) (st' := [ivI (iv_wr (l3 + 1)), ivR 1, ivR 2]) (w' := (135, μ, iv_rho)) rfl ?_
          obtain ⟨c317, h⟩ := iv_ckE h
          refine iv_Ret.iald (len := L) rfl rfl rfl c317.1 c317.2 ?_
          show iv_Ret L 171 955 [ivR 1, ivR 2, ivR 110, ivI l3] [ivI (μ 1 (iv_wr (l3 + 1)).toNat), ivR 2] (ivST μ) (some (ivI r)) (ivST μ')
          obtain ⟨r318, μ319, e320, h⟩ := iv_bndE h
          refine iv_Ret.callv rfl rfl rfl (T_X9_again L (μ 1 (iv_wr (l3 + 1)).toNat) e320) ?_
          show iv_Ret L 171 958 [ivR 1, ivR 2, ivR 110, ivI l3] [ivI r318] (ivST μ319) (some (ivI r)) (ivST μ')
          refine iv_Ret.stl [959, 960, 961, 962, 963] (ls' := [ivR 1, ivR 2, ivR 110, ivI l3]) (st' := [ivI (iv_wr (l3 + 1)), ivR 1, ivR 110, ivI r318]) (w' := (135, μ319, iv_rho)) rfl ?_
          obtain ⟨c321, h⟩ := iv_ckE h
          refine iv_Ret.iald (len := L) rfl rfl rfl c321.1 c321.2 ?_
          show iv_Ret L 171 964 [ivR 1, ivR 2, ivR 110, ivI l3] [ivI (μ319 1 (iv_wr (l3 + 1)).toNat), ivR 110, ivI r318] (ivST μ319) (some (ivI r)) (ivST μ')
          obtain ⟨r322, μ323, e324, h⟩ := iv_bndE h
          refine iv_Ret.callv rfl rfl rfl (T_X10_again L (μ319 1 (iv_wr (l3 + 1)).toNat) e324) ?_
          show iv_Ret L 171 967 [ivR 1, ivR 2, ivR 110, ivI l3] [ivI r322, ivI r318] (ivST μ323) (some (ivI r)) (ivST μ')
          rcases iv_iteE h with ⟨c325, h⟩ | ⟨c325, h⟩
          · refine iv_Ret.icT (t := 995) rfl (decide_eq_true c325) rfl ?_
            exact hj3 μ323 _ _ h
          · refine iv_Ret.icF (t := 970) rfl (decide_eq_false c325) rfl ?_
            refine iv_Ret.stl [971] (ls' := [ivR 1, ivR 2, ivR 110, ivI l3]) (st' := [ivI 0]) (w' := (135, μ323, iv_rho)) rfl ?_
            obtain ⟨rfl, rfl⟩ := iv_retE h
            exact ⟨1, rfl⟩
        rcases iv_iteE h with ⟨c37, h⟩ | ⟨c37, h⟩
        · refine iv_Ret.tsI (t := 972) rfl c37 rfl ?_
          refine iv_Ret.stl [973, 974, 975, 976, 977] (ls' := [ivR 1, ivR 2, ivR 110, ivI l3]) (st' := [ivI (iv_wr (l3 + 1)), ivR 1, ivR 2]) (w' := (135, μ, iv_rho)) rfl ?_
          obtain ⟨c326, h⟩ := iv_ckE h
          refine iv_Ret.iald (len := L) rfl rfl rfl c326.1 c326.2 ?_
          show iv_Ret L 171 978 [ivR 1, ivR 2, ivR 110, ivI l3] [ivI (μ 1 (iv_wr (l3 + 1)).toNat), ivR 2] (ivST μ) (some (ivI r)) (ivST μ')
          obtain ⟨r327, μ328, e329, h⟩ := iv_bndE h
          refine iv_Ret.callv rfl rfl rfl (T_X9_count L (μ 1 (iv_wr (l3 + 1)).toNat) e329) ?_
          show iv_Ret L 171 981 [ivR 1, ivR 2, ivR 110, ivI l3] [ivI r327] (ivST μ328) (some (ivI r)) (ivST μ')
          refine iv_Ret.stl [982, 983, 984, 985, 986] (ls' := [ivR 1, ivR 2, ivR 110, ivI l3]) (st' := [ivI (iv_wr (l3 + 1)), ivR 1, ivR 110, ivI r327]) (w' := (135, μ328, iv_rho)) rfl ?_
          obtain ⟨c330, h⟩ := iv_ckE h
          refine iv_Ret.iald (len := L) rfl rfl rfl c330.1 c330.2 ?_
          show iv_Ret L 171 987 [ivR 1, ivR 2, ivR 110, ivI l3] [ivI (μ328 1 (iv_wr (l3 + 1)).toNat), ivR 110, ivI r327] (ivST μ328) (some (ivI r)) (ivST μ')
          obtain ⟨r331, μ332, e333, h⟩ := iv_bndE h
          refine iv_Ret.callv rfl rfl rfl (T_X10_count L (μ328 1 (iv_wr (l3 + 1)).toNat) e333) ?_
          show iv_Ret L 171 990 [ivR 1, ivR 2, ivR 110, ivI l3] [ivI r331, ivI r327] (ivST μ332) (some (ivI r)) (ivST μ')
          rcases iv_iteE h with ⟨c334, h⟩ | ⟨c334, h⟩
          · refine iv_Ret.icT (t := 995) rfl (decide_eq_true c334) rfl ?_
            exact hj3 μ332 _ _ h
          · refine iv_Ret.icF (t := 993) rfl (decide_eq_false c334) rfl ?_
            refine iv_Ret.stl [994] (ls' := [ivR 1, ivR 2, ivR 110, ivI l3]) (st' := [ivI 0]) (w' := (135, μ332, iv_rho)) rfl ?_
            obtain ⟨rfl, rfl⟩ := iv_retE h
            exact ⟨1, rfl⟩
        have o335 : (decide ((iv_and (μ 1 l3.toNat) 31) < 0) || decide (30 < (iv_and (μ 1 l3.toNat) 31))) = true := by
          rw [Bool.or_eq_true, decide_eq_true_eq, decide_eq_true_eq]; omega
        refine iv_Ret.tsO (t := 995) rfl o335 rfl ?_
        exact hj3 μ _ _ h
theorem T_L_law (L : Nat)  {μ μ' : ivM} {r : Int} (h : f_L_law L μ = some (r, μ')) : iv_Ret L 171 16 [ivR 1, ivR 2, ivR 110, ivU] [] (ivST μ) (some (ivI r)) (ivST μ') := by
  unfold f_L_law at h
  refine iv_Ret.stl [17, 18] (ls' := [ivR 1, ivR 2, ivR 110, ivI 0]) (st' := []) (w' := (135, μ, iv_rho)) rfl ?_
  exact T_lp_L_law_18 L  iv_fuel 0 μ _ _ h
