theorem T_X9_say (L : Nat) (p1 : Int) (p2 : Int) (p3 : Int)  {μ μ' : ivM} {r : Int} (h : f_X9_say p1 p2 p3 μ = some (r, μ')) : iv_Ret L 78 0 [ivR 2, ivI p1, ivI p2, ivI p3] [] (ivST μ) (some (ivI r)) (ivST μ') := by
  unfold f_X9_say at h
  refine iv_Ret.stl [1, 4] (ls' := [ivR 2, ivI p1, ivI p2, ivI p3]) (st' := [ivR 9]) (w' := (135, μ, iv_rho)) rfl ?_
  refine iv_Ret.stl [5] (ls' := [ivR 2, ivI p1, ivI p2, ivI p3]) (st' := [ivI p1, ivR 9]) (w' := (135, μ, iv_rho)) rfl ?_
  obtain ⟨r1, μ2, e3, h⟩ := iv_bndE h
  refine iv_Ret.callv rfl rfl rfl (T_X1_hasPerson L p1 e3) ?_
  show iv_Ret L 78 8 [ivR 2, ivI p1, ivI p2, ivI p3] [ivI r1] (ivST μ2) (some (ivI r)) (ivST μ')
  refine iv_letE (fun j4 => ∀ (μ9 : ivM) (r10 : Int) (μ11 : ivM) (z5 : ivV) (z6 : ivV) (z7 : ivV) (z8 : ivV), j4 μ9 = some (r10, μ11) → iv_Ret L 78 22 [z5, z6, z7, z8] [] (ivST μ9) (some (ivI r10)) (ivST μ11)) h (fun μ9 r10 μ11 z5 z6 z7 z8 h => ?_) (fun j4 hj4 h => ?_)
  · refine iv_Ret.stl [23] (ls' := [z5, z6, z7, z8]) (st' := [ivI (-1)]) (w' := (135, μ9, iv_rho)) rfl ?_
    obtain ⟨rfl, rfl⟩ := iv_retE h
    exact ⟨1, rfl⟩
  · rcases iv_iteE h with ⟨c12, h⟩ | ⟨c12, h⟩
    · refine iv_Ret.ifT (t := 22) rfl (decide_eq_true c12) rfl ?_
      exact hj4 μ2 _ _ (ivR 2) (ivI p1) (ivI p2) (ivI p3) h
    · refine iv_Ret.ifF (t := 11) rfl (decide_eq_false c12) rfl ?_
      refine iv_Ret.stl [12, 15] (ls' := [ivR 2, ivI p1, ivI p2, ivI p3]) (st' := [ivR 9]) (w' := (135, μ2, iv_rho)) rfl ?_
      refine iv_Ret.stl [16] (ls' := [ivR 2, ivI p1, ivI p2, ivI p3]) (st' := [ivI p2, ivR 9]) (w' := (135, μ2, iv_rho)) rfl ?_
      obtain ⟨r13, μ14, e15, h⟩ := iv_bndE h
      refine iv_Ret.callv rfl rfl rfl (T_X1_hasThing L p2 e15) ?_
      show iv_Ret L 78 19 [ivR 2, ivI p1, ivI p2, ivI p3] [ivI r13] (ivST μ14) (some (ivI r)) (ivST μ')
      rcases iv_iteE h with ⟨c16, h⟩ | ⟨c16, h⟩
      · refine iv_Ret.ifF (t := 22) rfl (decide_eq_false (not_not_intro c16)) rfl ?_
        exact hj4 μ14 _ _ (ivR 2) (ivI p1) (ivI p2) (ivI p3) h
      · refine iv_Ret.ifT (t := 24) rfl (decide_eq_true c16) rfl ?_
        refine iv_Ret.stl [25, 28] (ls' := [ivR 2, ivI p1, ivI p2, ivI p3]) (st' := [ivR 9]) (w' := (135, μ14, iv_rho)) rfl ?_
        refine iv_Ret.stl [29] (ls' := [ivR 2, ivI p1, ivI p2, ivI p3]) (st' := [ivI p3, ivR 9]) (w' := (135, μ14, iv_rho)) rfl ?_
        obtain ⟨r17, μ18, e19, h⟩ := iv_bndE h
        refine iv_Ret.callv rfl rfl rfl (T_X1_arePeople L p3 e19) ?_
        show iv_Ret L 78 32 [ivR 2, ivI p1, ivI p2, ivI p3] [ivI r17] (ivST μ18) (some (ivI r)) (ivST μ')
        rcases iv_iteE h with ⟨c20, h⟩ | ⟨c20, h⟩
        · refine iv_Ret.ifF (t := 35) rfl (decide_eq_false (not_not_intro c20)) rfl ?_
          refine iv_Ret.stl [37] (ls' := [ivR 2, ivI p1, ivI p2, ivI p3]) (st' := [ivI (-2)]) (w' := (135, μ18, iv_rho)) rfl ?_
          obtain ⟨rfl, rfl⟩ := iv_retE h
          exact ⟨1, rfl⟩
        · refine iv_Ret.ifT (t := 38) rfl (decide_eq_true c20) rfl ?_
          refine iv_Ret.stl [39, 42] (ls' := [ivR 2, ivI p1, ivI p2, ivI p3]) (st' := [ivR 11]) (w' := (135, μ18, iv_rho)) rfl ?_
          refine iv_Ret.stl [45] (ls' := [ivR 2, ivI p1, ivI p2, ivI p3]) (st' := [ivR 14]) (w' := (135, μ18, iv_rho)) rfl ?_
          refine iv_Ret.stl [46] (ls' := [ivR 2, ivI p1, ivI p2, ivI p3]) (st' := [ivI p2, ivR 14]) (w' := (135, μ18, iv_rho)) rfl ?_
          obtain ⟨c21, h⟩ := iv_ckE h
          refine iv_Ret.iald (len := 8) rfl rfl rfl c21.1 c21.2 ?_
          show iv_Ret L 78 47 [ivR 2, ivI p1, ivI p2, ivI p3] [ivI (μ18 14 p2.toNat)] (ivST μ18) (some (ivI r)) (ivST μ')
          refine iv_Ret.stl [48] (ls' := [ivR 2, ivI p1, ivI p2, ivI p3]) (st' := [ivI p1, ivI (μ18 14 p2.toNat)]) (w' := (135, μ18, iv_rho)) rfl ?_
          obtain ⟨r22, μ23, e24, h⟩ := iv_bndE h
          refine iv_Ret.calls rfl rfl (T_X9_has L (μ18 14 p2.toNat) p1 e24) ?_
          show iv_Ret L 78 51 [ivR 2, ivI p1, ivI p2, ivI p3] [ivI r22] (ivST μ23) (some (ivI r)) (ivST μ')
          rcases iv_iteE h with ⟨c25, h⟩ | ⟨c25, h⟩
          · refine iv_Ret.ifF (t := 54) rfl (decide_eq_false (not_not_intro c25)) rfl ?_
            refine iv_Ret.stl [56] (ls' := [ivR 2, ivI p1, ivI p2, ivI p3]) (st' := [ivI (-3)]) (w' := (135, μ23, iv_rho)) rfl ?_
            obtain ⟨rfl, rfl⟩ := iv_retE h
            exact ⟨1, rfl⟩
          · refine iv_Ret.ifT (t := 57) rfl (decide_eq_true c25) rfl ?_
            refine iv_Ret.stl [58, 61] (ls' := [ivR 2, ivI p1, ivI p2, ivI p3]) (st' := [ivR 11]) (w' := (135, μ23, iv_rho)) rfl ?_
            refine iv_Ret.stl [64] (ls' := [ivR 2, ivI p1, ivI p2, ivI p3]) (st' := [ivR 13]) (w' := (135, μ23, iv_rho)) rfl ?_
            refine iv_Ret.stl [65, 66, 69] (ls' := [ivR 2, ivI p1, ivI p2, ivI p3]) (st' := [ivR 11, ivI p2, ivR 13]) (w' := (135, μ23, iv_rho)) rfl ?_
            refine iv_Ret.stl [72] (ls' := [ivR 2, ivI p1, ivI p2, ivI p3]) (st' := [ivI (μ23 11 3), ivI p2, ivR 13]) (w' := (135, μ23, iv_rho)) rfl ?_
            obtain ⟨c26, h⟩ := iv_ckE h
            refine iv_Ret.iast (len := 8) rfl rfl rfl rfl c26.1 c26.2 ?_
            show iv_Ret L 78 73 [ivR 2, ivI p1, ivI p2, ivI p3] [] (ivST (iv_upd μ23 13 p2.toNat (μ23 11 3))) (some (ivI r)) (ivST μ')
            refine iv_Ret.stl [74, 77] (ls' := [ivR 2, ivI p1, ivI p2, ivI p3]) (st' := [ivR 11]) (w' := (135, (iv_upd μ23 13 p2.toNat (μ23 11 3)), iv_rho)) rfl ?_
            refine iv_Ret.stl [80] (ls' := [ivR 2, ivI p1, ivI p2, ivI p3]) (st' := [ivR 14]) (w' := (135, (iv_upd μ23 13 p2.toNat (μ23 11 3)), iv_rho)) rfl ?_
            refine iv_Ret.stl [81, 82] (ls' := [ivR 2, ivI p1, ivI p2, ivI p3]) (st' := [ivI p2, ivR 14, ivI p2, ivR 14]) (w' := (135, (iv_upd μ23 13 p2.toNat (μ23 11 3)), iv_rho)) rfl ?_
            obtain ⟨c27, h⟩ := iv_ckE h
            refine iv_Ret.iald (len := 8) rfl rfl rfl c27.1 c27.2 ?_
            show iv_Ret L 78 83 [ivR 2, ivI p1, ivI p2, ivI p3] [ivI ((iv_upd μ23 13 p2.toNat (μ23 11 3)) 14 p2.toNat), ivI p2, ivR 14] (ivST (iv_upd μ23 13 p2.toNat (μ23 11 3))) (some (ivI r)) (ivST μ')
            refine iv_Ret.stl [84, 85] (ls' := [ivR 2, ivI p1, ivI p2, ivI p3]) (st' := [ivI (iv_or ((iv_upd μ23 13 p2.toNat (μ23 11 3)) 14 p2.toNat) p3), ivI p2, ivR 14]) (w' := (135, (iv_upd μ23 13 p2.toNat (μ23 11 3)), iv_rho)) rfl ?_
            obtain ⟨c28, h⟩ := iv_ckE h
            refine iv_Ret.iast (len := 8) rfl rfl rfl rfl c28.1 c28.2 ?_
            show iv_Ret L 78 86 [ivR 2, ivI p1, ivI p2, ivI p3] [] (ivST (iv_upd (iv_upd μ23 13 p2.toNat (μ23 11 3)) 14 p2.toNat (iv_or ((iv_upd μ23 13 p2.toNat (μ23 11 3)) 14 p2.toNat) p3))) (some (ivI r)) (ivST μ')
            refine iv_Ret.stl [87, 90] (ls' := [ivR 2, ivI p1, ivI p2, ivI p3]) (st' := [ivR 11]) (w' := (135, (iv_upd (iv_upd μ23 13 p2.toNat (μ23 11 3)) 14 p2.toNat (iv_or ((iv_upd μ23 13 p2.toNat (μ23 11 3)) 14 p2.toNat) p3)), iv_rho)) rfl ?_
            refine iv_Ret.stl [93] (ls' := [ivR 2, ivI p1, ivI p2, ivI p3]) (st' := [ivR 14]) (w' := (135, (iv_upd (iv_upd μ23 13 p2.toNat (μ23 11 3)) 14 p2.toNat (iv_or ((iv_upd μ23 13 p2.toNat (μ23 11 3)) 14 p2.toNat) p3)), iv_rho)) rfl ?_
            refine iv_Ret.stl [94] (ls' := [ivR 2, ivI p1, ivI p2, ivI p3]) (st' := [ivI p2, ivR 14]) (w' := (135, (iv_upd (iv_upd μ23 13 p2.toNat (μ23 11 3)) 14 p2.toNat (iv_or ((iv_upd μ23 13 p2.toNat (μ23 11 3)) 14 p2.toNat) p3)), iv_rho)) rfl ?_
            obtain ⟨c29, h⟩ := iv_ckE h
            refine iv_Ret.iald (len := 8) rfl rfl rfl c29.1 c29.2 ?_
            show iv_Ret L 78 95 [ivR 2, ivI p1, ivI p2, ivI p3] [ivI ((iv_upd (iv_upd μ23 13 p2.toNat (μ23 11 3)) 14 p2.toNat (iv_or ((iv_upd μ23 13 p2.toNat (μ23 11 3)) 14 p2.toNat) p3)) 14 p2.toNat)] (ivST (iv_upd (iv_upd μ23 13 p2.toNat (μ23 11 3)) 14 p2.toNat (iv_or ((iv_upd μ23 13 p2.toNat (μ23 11 3)) 14 p2.toNat) p3))) (some (ivI r)) (ivST μ')
            obtain ⟨rfl, rfl⟩ := iv_retE h
            exact ⟨1, rfl⟩
theorem T_X9_give (L : Nat) (p1 : Int) (p2 : Int) (p3 : Int)  {μ μ' : ivM} {r : Int} (h : f_X9_give p1 p2 p3 μ = some (r, μ')) : iv_Ret L 79 0 [ivR 2, ivI p1, ivI p2, ivI p3] [] (ivST μ) (some (ivI r)) (ivST μ') := by
  unfold f_X9_give at h
  refine iv_Ret.stl [1, 4] (ls' := [ivR 2, ivI p1, ivI p2, ivI p3]) (st' := [ivR 9]) (w' := (135, μ, iv_rho)) rfl ?_
  refine iv_Ret.stl [5] (ls' := [ivR 2, ivI p1, ivI p2, ivI p3]) (st' := [ivI p1, ivR 9]) (w' := (135, μ, iv_rho)) rfl ?_
  obtain ⟨r1, μ2, e3, h⟩ := iv_bndE h
  refine iv_Ret.callv rfl rfl rfl (T_X1_hasPerson L p1 e3) ?_
  show iv_Ret L 79 8 [ivR 2, ivI p1, ivI p2, ivI p3] [ivI r1] (ivST μ2) (some (ivI r)) (ivST μ')
  refine iv_letE (fun j4 => ∀ (μ9 : ivM) (r10 : Int) (μ11 : ivM) (z5 : ivV) (z6 : ivV) (z7 : ivV) (z8 : ivV), j4 μ9 = some (r10, μ11) → iv_Ret L 79 33 [z5, z6, z7, z8] [] (ivST μ9) (some (ivI r10)) (ivST μ11)) h (fun μ9 r10 μ11 z5 z6 z7 z8 h => ?_) (fun j4 hj4 h => ?_)
  · refine iv_Ret.stl [34] (ls' := [z5, z6, z7, z8]) (st' := [ivI (-1)]) (w' := (135, μ9, iv_rho)) rfl ?_
    obtain ⟨rfl, rfl⟩ := iv_retE h
    exact ⟨1, rfl⟩
  · rcases iv_iteE h with ⟨c12, h⟩ | ⟨c12, h⟩
    · refine iv_Ret.ifT (t := 33) rfl (decide_eq_true c12) rfl ?_
      exact hj4 μ2 _ _ (ivR 2) (ivI p1) (ivI p2) (ivI p3) h
    · refine iv_Ret.ifF (t := 11) rfl (decide_eq_false c12) rfl ?_
      refine iv_Ret.stl [12, 15] (ls' := [ivR 2, ivI p1, ivI p2, ivI p3]) (st' := [ivR 9]) (w' := (135, μ2, iv_rho)) rfl ?_
      refine iv_Ret.stl [16] (ls' := [ivR 2, ivI p1, ivI p2, ivI p3]) (st' := [ivI p2, ivR 9]) (w' := (135, μ2, iv_rho)) rfl ?_
      obtain ⟨r13, μ14, e15, h⟩ := iv_bndE h
      refine iv_Ret.callv rfl rfl rfl (T_X1_hasPerson L p2 e15) ?_
      show iv_Ret L 79 19 [ivR 2, ivI p1, ivI p2, ivI p3] [ivI r13] (ivST μ14) (some (ivI r)) (ivST μ')
      rcases iv_iteE h with ⟨c16, h⟩ | ⟨c16, h⟩
      · refine iv_Ret.ifT (t := 33) rfl (decide_eq_true c16) rfl ?_
        exact hj4 μ14 _ _ (ivR 2) (ivI p1) (ivI p2) (ivI p3) h
      · refine iv_Ret.ifF (t := 22) rfl (decide_eq_false c16) rfl ?_
        refine iv_Ret.stl [23, 26] (ls' := [ivR 2, ivI p1, ivI p2, ivI p3]) (st' := [ivR 9]) (w' := (135, μ14, iv_rho)) rfl ?_
        refine iv_Ret.stl [27] (ls' := [ivR 2, ivI p1, ivI p2, ivI p3]) (st' := [ivI p3, ivR 9]) (w' := (135, μ14, iv_rho)) rfl ?_
        obtain ⟨r17, μ18, e19, h⟩ := iv_bndE h
        refine iv_Ret.callv rfl rfl rfl (T_X1_hasThing L p3 e19) ?_
        show iv_Ret L 79 30 [ivR 2, ivI p1, ivI p2, ivI p3] [ivI r17] (ivST μ18) (some (ivI r)) (ivST μ')
        rcases iv_iteE h with ⟨c20, h⟩ | ⟨c20, h⟩
        · refine iv_Ret.ifF (t := 33) rfl (decide_eq_false (not_not_intro c20)) rfl ?_
          exact hj4 μ18 _ _ (ivR 2) (ivI p1) (ivI p2) (ivI p3) h
        · refine iv_Ret.ifT (t := 35) rfl (decide_eq_true c20) rfl ?_
          refine iv_Ret.stl [36, 37] (ls' := [ivR 2, ivI p1, ivI p2, ivI p3]) (st' := [ivI p2, ivI p1]) (w' := (135, μ18, iv_rho)) rfl ?_
          refine iv_letE (fun j21 => ∀ (μ26 : ivM) (r27 : Int) (μ28 : ivM) (z22 : ivV) (z23 : ivV) (z24 : ivV) (z25 : ivV), j21 μ26 = some (r27, μ28) → iv_Ret L 79 56 [z22, z23, z24, z25] [] (ivST μ26) (some (ivI r27)) (ivST μ28)) h (fun μ26 r27 μ28 z22 z23 z24 z25 h => ?_) (fun j21 hj21 h => ?_)
          · refine iv_Ret.stl [58] (ls' := [z22, z23, z24, z25]) (st' := [ivI (-3)]) (w' := (135, μ26, iv_rho)) rfl ?_
            obtain ⟨rfl, rfl⟩ := iv_retE h
            exact ⟨1, rfl⟩
          · rcases iv_iteE h with ⟨c29, h⟩ | ⟨c29, h⟩
            · refine iv_Ret.icT (t := 56) rfl (decide_eq_true c29) rfl ?_
              exact hj21 μ18 _ _ (ivR 2) (ivI p1) (ivI p2) (ivI p3) h
            · refine iv_Ret.icF (t := 40) rfl (decide_eq_false c29) rfl ?_
              refine iv_Ret.stl [41, 44] (ls' := [ivR 2, ivI p1, ivI p2, ivI p3]) (st' := [ivR 11]) (w' := (135, μ18, iv_rho)) rfl ?_
              refine iv_Ret.stl [47] (ls' := [ivR 2, ivI p1, ivI p2, ivI p3]) (st' := [ivR 14]) (w' := (135, μ18, iv_rho)) rfl ?_
              refine iv_Ret.stl [48] (ls' := [ivR 2, ivI p1, ivI p2, ivI p3]) (st' := [ivI p3, ivR 14]) (w' := (135, μ18, iv_rho)) rfl ?_
              obtain ⟨c30, h⟩ := iv_ckE h
              refine iv_Ret.iald (len := 8) rfl rfl rfl c30.1 c30.2 ?_
              show iv_Ret L 79 49 [ivR 2, ivI p1, ivI p2, ivI p3] [ivI (μ18 14 p3.toNat)] (ivST μ18) (some (ivI r)) (ivST μ')
              refine iv_Ret.stl [50] (ls' := [ivR 2, ivI p1, ivI p2, ivI p3]) (st' := [ivI p1, ivI (μ18 14 p3.toNat)]) (w' := (135, μ18, iv_rho)) rfl ?_
              obtain ⟨r31, μ32, e33, h⟩ := iv_bndE h
              refine iv_Ret.calls rfl rfl (T_X9_has L (μ18 14 p3.toNat) p1 e33) ?_
              show iv_Ret L 79 53 [ivR 2, ivI p1, ivI p2, ivI p3] [ivI r31] (ivST μ32) (some (ivI r)) (ivST μ')
              rcases iv_iteE h with ⟨c34, h⟩ | ⟨c34, h⟩
              · refine iv_Ret.ifF (t := 56) rfl (decide_eq_false (not_not_intro c34)) rfl ?_
                exact hj21 μ32 _ _ (ivR 2) (ivI p1) (ivI p2) (ivI p3) h
              · refine iv_Ret.ifT (t := 59) rfl (decide_eq_true c34) rfl ?_
                refine iv_Ret.stl [60, 63] (ls' := [ivR 2, ivI p1, ivI p2, ivI p3]) (st' := [ivR 11]) (w' := (135, μ32, iv_rho)) rfl ?_
                refine iv_Ret.stl [66] (ls' := [ivR 2, ivI p1, ivI p2, ivI p3]) (st' := [ivR 13]) (w' := (135, μ32, iv_rho)) rfl ?_
                refine iv_Ret.stl [67, 68, 71] (ls' := [ivR 2, ivI p1, ivI p2, ivI p3]) (st' := [ivR 11, ivI p3, ivR 13]) (w' := (135, μ32, iv_rho)) rfl ?_
                refine iv_Ret.stl [74] (ls' := [ivR 2, ivI p1, ivI p2, ivI p3]) (st' := [ivI (μ32 11 3), ivI p3, ivR 13]) (w' := (135, μ32, iv_rho)) rfl ?_
                obtain ⟨c35, h⟩ := iv_ckE h
                refine iv_Ret.iast (len := 8) rfl rfl rfl rfl c35.1 c35.2 ?_
                show iv_Ret L 79 75 [ivR 2, ivI p1, ivI p2, ivI p3] [] (ivST (iv_upd μ32 13 p3.toNat (μ32 11 3))) (some (ivI r)) (ivST μ')
                refine iv_Ret.stl [76, 79] (ls' := [ivR 2, ivI p1, ivI p2, ivI p3]) (st' := [ivR 11]) (w' := (135, (iv_upd μ32 13 p3.toNat (μ32 11 3)), iv_rho)) rfl ?_
                refine iv_Ret.stl [82] (ls' := [ivR 2, ivI p1, ivI p2, ivI p3]) (st' := [ivR 14]) (w' := (135, (iv_upd μ32 13 p3.toNat (μ32 11 3)), iv_rho)) rfl ?_
                refine iv_Ret.stl [83, 84, 87] (ls' := [ivR 2, ivI p1, ivI p2, ivI p3]) (st' := [ivR 11, ivI p3, ivR 14]) (w' := (135, (iv_upd μ32 13 p3.toNat (μ32 11 3)), iv_rho)) rfl ?_
                refine iv_Ret.stl [90] (ls' := [ivR 2, ivI p1, ivI p2, ivI p3]) (st' := [ivR 14, ivI p3, ivR 14]) (w' := (135, (iv_upd μ32 13 p3.toNat (μ32 11 3)), iv_rho)) rfl ?_
                refine iv_Ret.stl [91] (ls' := [ivR 2, ivI p1, ivI p2, ivI p3]) (st' := [ivI p3, ivR 14, ivI p3, ivR 14]) (w' := (135, (iv_upd μ32 13 p3.toNat (μ32 11 3)), iv_rho)) rfl ?_
                obtain ⟨c36, h⟩ := iv_ckE h
                refine iv_Ret.iald (len := 8) rfl rfl rfl c36.1 c36.2 ?_
                show iv_Ret L 79 92 [ivR 2, ivI p1, ivI p2, ivI p3] [ivI ((iv_upd μ32 13 p3.toNat (μ32 11 3)) 14 p3.toNat), ivI p3, ivR 14] (ivST (iv_upd μ32 13 p3.toNat (μ32 11 3))) (some (ivI r)) (ivST μ')
                refine iv_Ret.stl [93, 94, 95, 96, 97, 98, 99, 100, 101, 102] (ls' := [ivR 2, ivI p1, ivI p2, ivI p3]) (st' := [ivI (iv_and (iv_or ((iv_upd μ32 13 p3.toNat (μ32 11 3)) 14 p3.toNat) (iv_shl 1 p2)) (iv_xor (iv_shl 1 p1) (-1))), ivI p3, ivR 14]) (w' := (135, (iv_upd μ32 13 p3.toNat (μ32 11 3)), iv_rho)) rfl ?_
                obtain ⟨c37, h⟩ := iv_ckE h
                refine iv_Ret.iast (len := 8) rfl rfl rfl rfl c37.1 c37.2 ?_
                show iv_Ret L 79 103 [ivR 2, ivI p1, ivI p2, ivI p3] [] (ivST (iv_upd (iv_upd μ32 13 p3.toNat (μ32 11 3)) 14 p3.toNat (iv_and (iv_or ((iv_upd μ32 13 p3.toNat (μ32 11 3)) 14 p3.toNat) (iv_shl 1 p2)) (iv_xor (iv_shl 1 p1) (-1))))) (some (ivI r)) (ivST μ')
                refine iv_Ret.stl [104, 107] (ls' := [ivR 2, ivI p1, ivI p2, ivI p3]) (st' := [ivR 11]) (w' := (135, (iv_upd (iv_upd μ32 13 p3.toNat (μ32 11 3)) 14 p3.toNat (iv_and (iv_or ((iv_upd μ32 13 p3.toNat (μ32 11 3)) 14 p3.toNat) (iv_shl 1 p2)) (iv_xor (iv_shl 1 p1) (-1)))), iv_rho)) rfl ?_
                refine iv_Ret.stl [110] (ls' := [ivR 2, ivI p1, ivI p2, ivI p3]) (st' := [ivR 14]) (w' := (135, (iv_upd (iv_upd μ32 13 p3.toNat (μ32 11 3)) 14 p3.toNat (iv_and (iv_or ((iv_upd μ32 13 p3.toNat (μ32 11 3)) 14 p3.toNat) (iv_shl 1 p2)) (iv_xor (iv_shl 1 p1) (-1)))), iv_rho)) rfl ?_
                refine iv_Ret.stl [111] (ls' := [ivR 2, ivI p1, ivI p2, ivI p3]) (st' := [ivI p3, ivR 14]) (w' := (135, (iv_upd (iv_upd μ32 13 p3.toNat (μ32 11 3)) 14 p3.toNat (iv_and (iv_or ((iv_upd μ32 13 p3.toNat (μ32 11 3)) 14 p3.toNat) (iv_shl 1 p2)) (iv_xor (iv_shl 1 p1) (-1)))), iv_rho)) rfl ?_
                obtain ⟨c38, h⟩ := iv_ckE h
                refine iv_Ret.iald (len := 8) rfl rfl rfl c38.1 c38.2 ?_
                show iv_Ret L 79 112 [ivR 2, ivI p1, ivI p2, ivI p3] [ivI ((iv_upd (iv_upd μ32 13 p3.toNat (μ32 11 3)) 14 p3.toNat (iv_and (iv_or ((iv_upd μ32 13 p3.toNat (μ32 11 3)) 14 p3.toNat) (iv_shl 1 p2)) (iv_xor (iv_shl 1 p1) (-1)))) 14 p3.toNat)] (ivST (iv_upd (iv_upd μ32 13 p3.toNat (μ32 11 3)) 14 p3.toNat (iv_and (iv_or ((iv_upd μ32 13 p3.toNat (μ32 11 3)) 14 p3.toNat) (iv_shl 1 p2)) (iv_xor (iv_shl 1 p1) (-1))))) (some (ivI r)) (ivST μ')
                obtain ⟨rfl, rfl⟩ := iv_retE h
                exact ⟨1, rfl⟩
theorem T_lp_X9_freshName_9 (L : Nat)   {k48 : ivM → Option (Int × ivM)} (hk48 : ∀  (μ : ivM) (r : Int) (μ' : ivM) (d1 : ivV), k48 μ = some (r, μ') → iv_Ret L 104 48 [ivR 2, d1] [] (ivST μ) (some (ivI r)) (ivST μ')) : ∀ (n : Nat) (l1 : Int) (μ : ivM) (r : Int) (μ' : ivM), lp_X9_freshName_9 k48 n l1 μ = some (r, μ') → iv_Ret L 104 9 [ivR 2, ivI l1] [] (ivST μ) (some (ivI r)) (ivST μ') := by
  intro n
  induction n with
  | zero => intro l1 μ r μ' h; unfold lp_X9_freshName_9 at h; cases h
  | succ n ih =>
    intro l1 μ r μ' h
    unfold lp_X9_freshName_9 at h
    refine iv_Ret.stl [10, 12] (ls' := [ivR 2, ivI l1]) (st' := [ivI 8, ivI l1]) (w' := (135, μ, iv_rho)) rfl ?_
    rcases iv_iteE h with ⟨c4, h⟩ | ⟨c4, h⟩
    · refine iv_Ret.icT (t := 48) rfl (decide_eq_true c4) rfl ?_
      exact hk48 μ _ _ (ivI l1) h
    · refine iv_Ret.icF (t := 15) rfl (decide_eq_false c4) rfl ?_
      refine iv_Ret.stl [16, 19] (ls' := [ivR 2, ivI l1]) (st' := [ivR 11]) (w' := (135, μ, iv_rho)) rfl ?_
      refine iv_Ret.stl [20] (ls' := [ivR 2, ivI l1]) (st' := [ivI l1, ivR 11]) (w' := (135, μ, iv_rho)) rfl ?_
      obtain ⟨r5, μ6, e7, h⟩ := iv_bndE h
      refine iv_Ret.callv rfl rfl rfl (T_X2_isLive L l1 e7) ?_
      show iv_Ret L 104 23 [ivR 2, ivI l1] [ivI r5] (ivST μ6) (some (ivI r)) (ivST μ')
      refine iv_letE (fun j8 => ∀ (μ9 : ivM) (r10 : Int) (μ11 : ivM), j8 μ9 = some (r10, μ11) → iv_Ret L 104 42 [ivR 2, ivI l1] [] (ivST μ9) (some (ivI r10)) (ivST μ11)) h (fun μ9 r10 μ11 h => ?_) (fun j8 hj8 h => ?_)
      · refine iv_Ret.stl [45, 9] (ls' := [ivR 2, ivI (iv_wr (l1 + 1))]) (st' := []) (w' := (135, μ9, iv_rho)) rfl ?_
        exact ih (iv_wr (l1 + 1)) μ9 _ _ h
      · rcases iv_iteE h with ⟨c12, h⟩ | ⟨c12, h⟩
        · refine iv_Ret.ifT (t := 42) rfl (decide_eq_true c12) rfl ?_
          exact hj8 μ6 _ _ h
        · refine iv_Ret.ifF (t := 26) rfl (decide_eq_false c12) rfl ?_
          refine iv_Ret.stl [27, 30] (ls' := [ivR 2, ivI l1]) (st' := [ivR 32]) (w' := (135, μ6, iv_rho)) rfl ?_
          refine iv_Ret.stl [31, 34] (ls' := [ivR 2, ivI l1]) (st' := [ivR 11, ivR 32]) (w' := (135, μ6, iv_rho)) rfl ?_
          refine iv_Ret.stl [37] (ls' := [ivR 2, ivI l1]) (st' := [ivR 12, ivR 32]) (w' := (135, μ6, iv_rho)) rfl ?_
          refine iv_Ret.stl [38] (ls' := [ivR 2, ivI l1]) (st' := [ivI l1, ivR 12, ivR 32]) (w' := (135, μ6, iv_rho)) rfl ?_
          obtain ⟨c13, h⟩ := iv_ckE h
          refine iv_Ret.iald (len := 8) rfl rfl rfl c13.1 c13.2 ?_
          show iv_Ret L 104 39 [ivR 2, ivI l1] [ivI (μ6 12 l1.toNat), ivR 32] (ivST μ6) (some (ivI r)) (ivST μ')
          obtain ⟨r14, μ15, e16, h⟩ := iv_bndE h
          refine iv_Ret.callv rfl rfl rfl (T_X5_avoid L (μ6 12 l1.toNat) e16) ?_
          show iv_Ret L 104 42 [ivR 2, ivI l1] [] (ivST μ15) (some (ivI r)) (ivST μ')
          exact hj8 μ15 _ _ h
theorem T_X9_freshName (L : Nat)   {μ μ' : ivM} {r : Int} (h : f_X9_freshName  μ = some (r, μ')) : iv_Ret L 104 0 [ivR 2, ivU] [] (ivST μ) (some (ivI r)) (ivST μ') := by
  unfold f_X9_freshName at h
  refine iv_Ret.stl [1, 4] (ls' := [ivR 2, ivU]) (st' := [ivR 32]) (w' := (135, μ, iv_rho)) rfl ?_
  obtain ⟨r1, μ2, e3, h⟩ := iv_bndE h
  refine iv_Ret.callv rfl rfl rfl (T_X5_begin L  e3) ?_
  show iv_Ret L 104 7 [ivR 2, ivU] [] (ivST μ2) (some (ivI r)) (ivST μ')
  refine iv_Ret.stl [8, 9] (ls' := [ivR 2, ivI 0]) (st' := []) (w' := (135, μ2, iv_rho)) rfl ?_
  refine T_lp_X9_freshName_9 L  (fun μ18 r19 μ20 z17 h => ?_) iv_fuel 0 μ2 _ _ h
  refine iv_Ret.stl [49, 52] (ls' := [ivR 2, z17]) (st' := [ivR 32]) (w' := (135, μ18, iv_rho)) rfl ?_
  refine iv_Ret.stl [53, 56] (ls' := [ivR 2, z17]) (st' := [ivR 9, ivR 32]) (w' := (135, μ18, iv_rho)) rfl ?_
  refine iv_Ret.stl [59] (ls' := [ivR 2, z17]) (st' := [ivI (μ18 9 1), ivR 32]) (w' := (135, μ18, iv_rho)) rfl ?_
  obtain ⟨r21, μ22, e23, h⟩ := iv_bndE h
  refine iv_Ret.callv rfl rfl rfl (T_X5_shortest L (μ18 9 1) e23) ?_
  show iv_Ret L 104 62 [ivR 2, z17] [ivI r21] (ivST μ22) (some (ivI r19)) (ivST μ20)
  obtain ⟨rfl, rfl⟩ := iv_retE h
  exact ⟨1, rfl⟩
theorem T_X9_fresh (L : Nat) (p1 : Int)  {μ μ' : ivM} {r : Int} (h : f_X9_fresh p1 μ = some (r, μ')) : iv_Ret L 80 0 [ivR 2, ivI p1] [] (ivST μ) (some (ivI r)) (ivST μ') := by
  unfold f_X9_fresh at h
  refine iv_Ret.stl [1] (ls' := [ivR 2, ivI p1]) (st' := [ivR 2]) (w' := (135, μ, iv_rho)) rfl ?_
  obtain ⟨r1, μ2, e3, h⟩ := iv_bndE h
  refine iv_Ret.callv rfl rfl rfl (T_X9_freshName L  e3) ?_
  show iv_Ret L 80 4 [ivR 2, ivI p1] [ivI r1] (ivST μ2) (some (ivI r)) (ivST μ')
  refine iv_Ret.stl [5] (ls' := [ivR 2, ivI p1]) (st' := [ivI p1, ivI r1]) (w' := (135, μ2, iv_rho)) rfl ?_
  obtain ⟨r4, μ5, e6, h⟩ := iv_bndE h
  refine iv_Ret.calls rfl rfl (T_X3_soundAt L r1 p1 e6) ?_
  show iv_Ret L 80 8 [ivR 2, ivI p1] [ivI r4] (ivST μ5) (some (ivI r)) (ivST μ')
  obtain ⟨rfl, rfl⟩ := iv_retE h
  exact ⟨1, rfl⟩
theorem T_X9_anew (L : Nat) (p1 : Int) (p2 : Int)  {μ μ' : ivM} {r : Int} (h : f_X9_anew p1 p2 μ = some (r, μ')) : iv_Ret L 81 0 [ivR 2, ivI p1, ivI p2, ivU] [] (ivST μ) (some (ivI r)) (ivST μ') := by
  unfold f_X9_anew at h
  refine iv_Ret.stl [1, 4] (ls' := [ivR 2, ivI p1, ivI p2, ivU]) (st' := [ivR 9]) (w' := (135, μ, iv_rho)) rfl ?_
  refine iv_Ret.stl [5] (ls' := [ivR 2, ivI p1, ivI p2, ivU]) (st' := [ivI p1, ivR 9]) (w' := (135, μ, iv_rho)) rfl ?_
  obtain ⟨r1, μ2, e3, h⟩ := iv_bndE h
  refine iv_Ret.callv rfl rfl rfl (T_X1_hasPerson L p1 e3) ?_
  show iv_Ret L 81 8 [ivR 2, ivI p1, ivI p2, ivU] [ivI r1] (ivST μ2) (some (ivI r)) (ivST μ')
  refine iv_letE (fun j4 => ∀ (μ9 : ivM) (r10 : Int) (μ11 : ivM) (z5 : ivV) (z6 : ivV) (z7 : ivV) (z8 : ivV), j4 μ9 = some (r10, μ11) → iv_Ret L 81 22 [z5, z6, z7, z8] [] (ivST μ9) (some (ivI r10)) (ivST μ11)) h (fun μ9 r10 μ11 z5 z6 z7 z8 h => ?_) (fun j4 hj4 h => ?_)
  · refine iv_Ret.stl [23] (ls' := [z5, z6, z7, z8]) (st' := [ivI (-1)]) (w' := (135, μ9, iv_rho)) rfl ?_
    obtain ⟨rfl, rfl⟩ := iv_retE h
    exact ⟨1, rfl⟩
  · rcases iv_iteE h with ⟨c12, h⟩ | ⟨c12, h⟩
    · refine iv_Ret.ifT (t := 22) rfl (decide_eq_true c12) rfl ?_
      exact hj4 μ2 _ _ (ivR 2) (ivI p1) (ivI p2) ivU h
    · refine iv_Ret.ifF (t := 11) rfl (decide_eq_false c12) rfl ?_
      refine iv_Ret.stl [12, 15] (ls' := [ivR 2, ivI p1, ivI p2, ivU]) (st' := [ivR 9]) (w' := (135, μ2, iv_rho)) rfl ?_
      refine iv_Ret.stl [16] (ls' := [ivR 2, ivI p1, ivI p2, ivU]) (st' := [ivI p2, ivR 9]) (w' := (135, μ2, iv_rho)) rfl ?_
      obtain ⟨r13, μ14, e15, h⟩ := iv_bndE h
      refine iv_Ret.callv rfl rfl rfl (T_X1_hasThing L p2 e15) ?_
      show iv_Ret L 81 19 [ivR 2, ivI p1, ivI p2, ivU] [ivI r13] (ivST μ14) (some (ivI r)) (ivST μ')
      rcases iv_iteE h with ⟨c16, h⟩ | ⟨c16, h⟩
      · refine iv_Ret.ifF (t := 22) rfl (decide_eq_false (not_not_intro c16)) rfl ?_
        exact hj4 μ14 _ _ (ivR 2) (ivI p1) (ivI p2) ivU h
      · refine iv_Ret.ifT (t := 24) rfl (decide_eq_true c16) rfl ?_
        refine iv_Ret.stl [25, 28] (ls' := [ivR 2, ivI p1, ivI p2, ivU]) (st' := [ivR 11]) (w' := (135, μ14, iv_rho)) rfl ?_
        refine iv_Ret.stl [29] (ls' := [ivR 2, ivI p1, ivI p2, ivU]) (st' := [ivI p2, ivR 11]) (w' := (135, μ14, iv_rho)) rfl ?_
        obtain ⟨r17, μ18, e19, h⟩ := iv_bndE h
        refine iv_Ret.callv rfl rfl rfl (T_X2_isLive L p2 e19) ?_
        show iv_Ret L 81 32 [ivR 2, ivI p1, ivI p2, ivU] [ivI r17] (ivST μ18) (some (ivI r)) (ivST μ')
        rcases iv_iteE h with ⟨c20, h⟩ | ⟨c20, h⟩
        · refine iv_Ret.ifT (t := 38) rfl (decide_eq_true c20) rfl ?_
          refine iv_Ret.stl [39] (ls' := [ivR 2, ivI p1, ivI p2, ivU]) (st' := [ivR 2]) (w' := (135, μ18, iv_rho)) rfl ?_
          obtain ⟨r21, μ22, e23, h⟩ := iv_bndE h
          refine iv_Ret.callv rfl rfl rfl (T_X9_freshName L  e23) ?_
          show iv_Ret L 81 42 [ivR 2, ivI p1, ivI p2, ivU] [ivI r21] (ivST μ22) (some (ivI r)) (ivST μ')
          refine iv_Ret.stl [43, 44] (ls' := [ivR 2, ivI p1, ivI p2, ivI r21]) (st' := [ivI r21]) (w' := (135, μ22, iv_rho)) rfl ?_
          rcases iv_iteE h with ⟨c24, h⟩ | ⟨c24, h⟩
          · refine iv_Ret.ifF (t := 47) rfl (decide_eq_false (not_not_intro c24)) rfl ?_
            refine iv_Ret.stl [49] (ls' := [ivR 2, ivI p1, ivI p2, ivI r21]) (st' := [ivI (-3)]) (w' := (135, μ22, iv_rho)) rfl ?_
            obtain ⟨rfl, rfl⟩ := iv_retE h
            exact ⟨1, rfl⟩
          · refine iv_Ret.ifT (t := 50) rfl (decide_eq_true c24) rfl ?_
            refine iv_Ret.stl [51, 54] (ls' := [ivR 2, ivI p1, ivI p2, ivI r21]) (st' := [ivR 11]) (w' := (135, μ22, iv_rho)) rfl ?_
            refine iv_Ret.stl [57] (ls' := [ivR 2, ivI p1, ivI p2, ivI r21]) (st' := [ivR 12]) (w' := (135, μ22, iv_rho)) rfl ?_
            refine iv_Ret.stl [58, 59] (ls' := [ivR 2, ivI p1, ivI p2, ivI r21]) (st' := [ivI r21, ivI p2, ivR 12]) (w' := (135, μ22, iv_rho)) rfl ?_
            obtain ⟨c25, h⟩ := iv_ckE h
            refine iv_Ret.iast (len := 8) rfl rfl rfl rfl c25.1 c25.2 ?_
            show iv_Ret L 81 60 [ivR 2, ivI p1, ivI p2, ivI r21] [] (ivST (iv_upd μ22 12 p2.toNat r21)) (some (ivI r)) (ivST μ')
            refine iv_Ret.stl [61, 64] (ls' := [ivR 2, ivI p1, ivI p2, ivI r21]) (st' := [ivR 11]) (w' := (135, (iv_upd μ22 12 p2.toNat r21), iv_rho)) rfl ?_
            refine iv_Ret.stl [67] (ls' := [ivR 2, ivI p1, ivI p2, ivI r21]) (st' := [ivR 13]) (w' := (135, (iv_upd μ22 12 p2.toNat r21), iv_rho)) rfl ?_
            refine iv_Ret.stl [68, 69, 72] (ls' := [ivR 2, ivI p1, ivI p2, ivI r21]) (st' := [ivR 11, ivI p2, ivR 13]) (w' := (135, (iv_upd μ22 12 p2.toNat r21), iv_rho)) rfl ?_
            refine iv_Ret.stl [75] (ls' := [ivR 2, ivI p1, ivI p2, ivI r21]) (st' := [ivI ((iv_upd μ22 12 p2.toNat r21) 11 3), ivI p2, ivR 13]) (w' := (135, (iv_upd μ22 12 p2.toNat r21), iv_rho)) rfl ?_
            obtain ⟨c26, h⟩ := iv_ckE h
            refine iv_Ret.iast (len := 8) rfl rfl rfl rfl c26.1 c26.2 ?_
            show iv_Ret L 81 76 [ivR 2, ivI p1, ivI p2, ivI r21] [] (ivST (iv_upd (iv_upd μ22 12 p2.toNat r21) 13 p2.toNat ((iv_upd μ22 12 p2.toNat r21) 11 3))) (some (ivI r)) (ivST μ')
            refine iv_Ret.stl [77, 80] (ls' := [ivR 2, ivI p1, ivI p2, ivI r21]) (st' := [ivR 11]) (w' := (135, (iv_upd (iv_upd μ22 12 p2.toNat r21) 13 p2.toNat ((iv_upd μ22 12 p2.toNat r21) 11 3)), iv_rho)) rfl ?_
            refine iv_Ret.stl [83] (ls' := [ivR 2, ivI p1, ivI p2, ivI r21]) (st' := [ivR 14]) (w' := (135, (iv_upd (iv_upd μ22 12 p2.toNat r21) 13 p2.toNat ((iv_upd μ22 12 p2.toNat r21) 11 3)), iv_rho)) rfl ?_
            refine iv_Ret.stl [84, 85, 86, 87] (ls' := [ivR 2, ivI p1, ivI p2, ivI r21]) (st' := [ivI (iv_shl 1 p1), ivI p2, ivR 14]) (w' := (135, (iv_upd (iv_upd μ22 12 p2.toNat r21) 13 p2.toNat ((iv_upd μ22 12 p2.toNat r21) 11 3)), iv_rho)) rfl ?_
            obtain ⟨c27, h⟩ := iv_ckE h
            refine iv_Ret.iast (len := 8) rfl rfl rfl rfl c27.1 c27.2 ?_
            show iv_Ret L 81 88 [ivR 2, ivI p1, ivI p2, ivI r21] [] (ivST (iv_upd (iv_upd (iv_upd μ22 12 p2.toNat r21) 13 p2.toNat ((iv_upd μ22 12 p2.toNat r21) 11 3)) 14 p2.toNat (iv_shl 1 p1))) (some (ivI r)) (ivST μ')
            refine iv_Ret.stl [89] (ls' := [ivR 2, ivI p1, ivI p2, ivI r21]) (st' := [ivI r21]) (w' := (135, (iv_upd (iv_upd (iv_upd μ22 12 p2.toNat r21) 13 p2.toNat ((iv_upd μ22 12 p2.toNat r21) 11 3)) 14 p2.toNat (iv_shl 1 p1)), iv_rho)) rfl ?_
            obtain ⟨r28, μ29, e30, h⟩ := iv_bndE h
            refine iv_Ret.calls rfl rfl (T_X3_lengthOf L r21 e30) ?_
            show iv_Ret L 81 92 [ivR 2, ivI p1, ivI p2, ivI r21] [ivI r28] (ivST μ29) (some (ivI r)) (ivST μ')
            obtain ⟨rfl, rfl⟩ := iv_retE h
            exact ⟨1, rfl⟩
        · refine iv_Ret.ifF (t := 35) rfl (decide_eq_false c20) rfl ?_
          refine iv_Ret.stl [37] (ls' := [ivR 2, ivI p1, ivI p2, ivU]) (st' := [ivI (-3)]) (w' := (135, μ18, iv_rho)) rfl ?_
          obtain ⟨rfl, rfl⟩ := iv_retE h
          exact ⟨1, rfl⟩
theorem T_lp_X9_clearOnes_12 (L : Nat) (l1 : Int)    : ∀ (n : Nat) (l2 : Int) (l3 : Int) (μ : ivM) (r : Int) (μ' : ivM) (d4 : ivV) (d5 : ivV), lp_X9_clearOnes_12 l1 n l2 l3 μ = some (r, μ') → iv_Ret L 106 12 [ivR 2, ivI l1, ivI l2, ivI l3, d4, d5] [] (ivST μ) (some (ivI r)) (ivST μ') := by
  intro n
  induction n with
  | zero => intro l2 l3 μ r μ' d4 d5 h; unfold lp_X9_clearOnes_12 at h; cases h
  | succ n ih =>
    intro l2 l3 μ r μ' d4 d5 h
    unfold lp_X9_clearOnes_12 at h
    refine iv_Ret.stl [13, 15] (ls' := [ivR 2, ivI l1, ivI l2, ivI l3, d4, d5]) (st' := [ivI 8, ivI l3]) (w' := (135, μ, iv_rho)) rfl ?_
    rcases iv_iteE h with ⟨c4, h⟩ | ⟨c4, h⟩
    · refine iv_Ret.icT (t := 73) rfl (decide_eq_true c4) rfl ?_
      refine iv_Ret.stl [74] (ls' := [ivR 2, ivI l1, ivI l2, ivI l3, d4, d5]) (st' := [ivI l2]) (w' := (135, μ, iv_rho)) rfl ?_
      obtain ⟨rfl, rfl⟩ := iv_retE h
      exact ⟨1, rfl⟩
    · refine iv_Ret.icF (t := 18) rfl (decide_eq_false c4) rfl ?_
      refine iv_Ret.stl [19, 20] (ls' := [ivR 2, ivI l1, ivI l2, ivI l3, d4, d5]) (st' := [ivI l3, ivI l1]) (w' := (135, μ, iv_rho)) rfl ?_
      obtain ⟨r5, μ6, e7, h⟩ := iv_bndE h
      refine iv_Ret.calls rfl rfl (T_X9_has L l1 l3 e7) ?_
      show iv_Ret L 106 23 [ivR 2, ivI l1, ivI l2, ivI l3, d4, d5] [ivI r5] (ivST μ6) (some (ivI r)) (ivST μ')
      refine iv_letE (fun j8 => ∀ (w9 : Int) (μ12 : ivM) (r13 : Int) (μ14 : ivM) (z10 : ivV) (z11 : ivV), j8 w9 μ12 = some (r13, μ14) → iv_Ret L 106 67 [ivR 2, ivI l1, ivI w9, ivI l3, z10, z11] [] (ivST μ12) (some (ivI r13)) (ivST μ14)) h (fun w9 μ12 r13 μ14 z10 z11 h => ?_) (fun j8 hj8 h => ?_)
      · refine iv_Ret.stl [70, 12] (ls' := [ivR 2, ivI l1, ivI w9, ivI (iv_wr (l3 + 1)), z10, z11]) (st' := []) (w' := (135, μ12, iv_rho)) rfl ?_
        exact ih w9 (iv_wr (l3 + 1)) μ12 _ _ z10 z11 h
      · rcases iv_iteE h with ⟨c15, h⟩ | ⟨c15, h⟩
        · refine iv_Ret.ifT (t := 67) rfl (decide_eq_true c15) rfl ?_
          exact hj8 l2 μ6 _ _ d4 d5 h
        · refine iv_Ret.ifF (t := 26) rfl (decide_eq_false c15) rfl ?_
          refine iv_Ret.stl [27, 28, 29, 30, 31, 32, 34, 35, 36, 39] (ls' := [ivR 2, ivI l1, ivI l2, ivI l3, ivI (iv_and l1 (iv_wr (-(iv_shl 2 l3)))), d5]) (st' := [ivR 11, ivR 2]) (w' := (135, μ6, iv_rho)) rfl ?_
          refine iv_Ret.stl [42] (ls' := [ivR 2, ivI l1, ivI l2, ivI l3, ivI (iv_and l1 (iv_wr (-(iv_shl 2 l3)))), d5]) (st' := [ivR 12, ivR 2]) (w' := (135, μ6, iv_rho)) rfl ?_
          refine iv_Ret.stl [43] (ls' := [ivR 2, ivI l1, ivI l2, ivI l3, ivI (iv_and l1 (iv_wr (-(iv_shl 2 l3)))), d5]) (st' := [ivI l3, ivR 12, ivR 2]) (w' := (135, μ6, iv_rho)) rfl ?_
          obtain ⟨c16, h⟩ := iv_ckE h
          refine iv_Ret.iald (len := 8) rfl rfl rfl c16.1 c16.2 ?_
          show iv_Ret L 106 44 [ivR 2, ivI l1, ivI l2, ivI l3, ivI (iv_and l1 (iv_wr (-(iv_shl 2 l3)))), d5] [ivI (μ6 12 l3.toNat), ivR 2] (ivST μ6) (some (ivI r)) (ivST μ')
          refine iv_Ret.stl [46] (ls' := [ivR 2, ivI l1, ivI l2, ivI l3, ivI (iv_and l1 (iv_wr (-(iv_shl 2 l3)))), d5]) (st' := [ivI (iv_and l1 (iv_wr (-(iv_shl 2 l3)))), ivI (μ6 12 l3.toNat), ivR 2]) (w' := (135, μ6, iv_rho)) rfl ?_
          obtain ⟨r17, μ18, e19, h⟩ := iv_bndE h
          refine iv_Ret.callv rfl rfl rfl (T_X9_nearTo L (μ6 12 l3.toNat) (iv_and l1 (iv_wr (-(iv_shl 2 l3)))) e19) ?_
          show iv_Ret L 106 49 [ivR 2, ivI l1, ivI l2, ivI l3, ivI (iv_and l1 (iv_wr (-(iv_shl 2 l3)))), d5] [ivI r17] (ivST μ18) (some (ivI r)) (ivST μ')
          refine iv_Ret.stl [51, 53] (ls' := [ivR 2, ivI l1, ivI l2, ivI l3, ivI (iv_and l1 (iv_wr (-(iv_shl 2 l3)))), ivI r17]) (st' := [ivI r17]) (w' := (135, μ18, iv_rho)) rfl ?_
          rcases iv_iteE h with ⟨c20, h⟩ | ⟨c20, h⟩
          · refine iv_Ret.ifT (t := 67) rfl (decide_eq_true c20) rfl ?_
            exact hj8 l2 μ18 _ _ (ivI (iv_and l1 (iv_wr (-(iv_shl 2 l3))))) (ivI r17) h
          · refine iv_Ret.ifF (t := 56) rfl (decide_eq_false c20) rfl ?_
            refine iv_Ret.stl [57, 59, 60, 61, 62, 63, 64, 65, 66, 67] (ls' := [ivR 2, ivI l1, ivI (iv_and l2 (iv_xor (iv_or r17 (iv_shl 1 l3)) (-1))), ivI l3, ivI (iv_and l1 (iv_wr (-(iv_shl 2 l3)))), ivI r17]) (st' := []) (w' := (135, μ18, iv_rho)) rfl ?_
            exact hj8 (iv_and l2 (iv_xor (iv_or r17 (iv_shl 1 l3)) (-1))) μ18 _ _ (ivI (iv_and l1 (iv_wr (-(iv_shl 2 l3))))) (ivI r17) h
theorem T_X9_clearOnes (L : Nat)   {μ μ' : ivM} {r : Int} (h : f_X9_clearOnes  μ = some (r, μ')) : iv_Ret L 106 0 [ivR 2, ivU, ivU, ivU, ivU, ivU] [] (ivST μ) (some (ivI r)) (ivST μ') := by
  unfold f_X9_clearOnes at h
  refine iv_Ret.stl [1, 4] (ls' := [ivR 2, ivU, ivU, ivU, ivU, ivU]) (st' := [ivR 11]) (w' := (135, μ, iv_rho)) rfl ?_
  obtain ⟨r1, μ2, e3, h⟩ := iv_bndE h
  refine iv_Ret.callv rfl rfl rfl (T_X2_liveOnes L  e3) ?_
  show iv_Ret L 106 7 [ivR 2, ivU, ivU, ivU, ivU, ivU] [ivI r1] (ivST μ2) (some (ivI r)) (ivST μ')
  refine iv_Ret.stl [8, 9, 10, 11, 12] (ls' := [ivR 2, ivI r1, ivI r1, ivI 0, ivU, ivU]) (st' := []) (w' := (135, μ2, iv_rho)) rfl ?_
  exact T_lp_X9_clearOnes_12 L r1 iv_fuel r1 0 μ2 _ _ ivU ivU h
theorem T_lp_X9_liftedBy_18 (L : Nat) (l1 : Int) (l2 : Int)    : ∀ (n : Nat) (l3 : Int) (l4 : Int) (μ : ivM) (r : Int) (μ' : ivM), lp_X9_liftedBy_18 l1 l2 n l3 l4 μ = some (r, μ') → iv_Ret L 107 18 [ivR 2, ivI l1, ivI l2, ivI l3, ivI l4] [] (ivST μ) (some (ivI r)) (ivST μ') := by
  intro n
  induction n with
  | zero => intro l3 l4 μ r μ' h; unfold lp_X9_liftedBy_18 at h; cases h
  | succ n ih =>
    intro l3 l4 μ r μ' h
    unfold lp_X9_liftedBy_18 at h
    refine iv_Ret.stl [20, 22] (ls' := [ivR 2, ivI l1, ivI l2, ivI l3, ivI l4]) (st' := [ivI 8, ivI l4]) (w' := (135, μ, iv_rho)) rfl ?_
    rcases iv_iteE h with ⟨c5, h⟩ | ⟨c5, h⟩
    · refine iv_Ret.icT (t := 89) rfl (decide_eq_true c5) rfl ?_
      refine iv_Ret.stl [90] (ls' := [ivR 2, ivI l1, ivI l2, ivI l3, ivI l4]) (st' := [ivI l3]) (w' := (135, μ, iv_rho)) rfl ?_
      obtain ⟨rfl, rfl⟩ := iv_retE h
      exact ⟨1, rfl⟩
    · refine iv_Ret.icF (t := 25) rfl (decide_eq_false c5) rfl ?_
      refine iv_Ret.stl [26, 28] (ls' := [ivR 2, ivI l1, ivI l2, ivI l3, ivI l4]) (st' := [ivI l4, ivI l2]) (w' := (135, μ, iv_rho)) rfl ?_
      obtain ⟨r6, μ7, e8, h⟩ := iv_bndE h
      refine iv_Ret.calls rfl rfl (T_X9_has L l2 l4 e8) ?_
      show iv_Ret L 107 31 [ivR 2, ivI l1, ivI l2, ivI l3, ivI l4] [ivI r6] (ivST μ7) (some (ivI r)) (ivST μ')
      refine iv_letE (fun j9 => ∀ (w10 : Int) (μ11 : ivM) (r12 : Int) (μ13 : ivM), j9 w10 μ11 = some (r12, μ13) → iv_Ret L 107 83 [ivR 2, ivI l1, ivI l2, ivI w10, ivI l4] [] (ivST μ11) (some (ivI r12)) (ivST μ13)) h (fun w10 μ11 r12 μ13 h => ?_) (fun j9 hj9 h => ?_)
      · refine iv_Ret.stl [86, 18] (ls' := [ivR 2, ivI l1, ivI l2, ivI w10, ivI (iv_wr (l4 + 1))]) (st' := []) (w' := (135, μ11, iv_rho)) rfl ?_
        exact ih w10 (iv_wr (l4 + 1)) μ11 _ _ h
      · rcases iv_iteE h with ⟨c14, h⟩ | ⟨c14, h⟩
        · refine iv_Ret.ifT (t := 83) rfl (decide_eq_true c14) rfl ?_
          exact hj9 l3 μ7 _ _ h
        · refine iv_Ret.ifF (t := 34) rfl (decide_eq_false c14) rfl ?_
          refine iv_Ret.stl [35, 38] (ls' := [ivR 2, ivI l1, ivI l2, ivI l3, ivI l4]) (st' := [ivR 11]) (w' := (135, μ7, iv_rho)) rfl ?_
          refine iv_Ret.stl [41] (ls' := [ivR 2, ivI l1, ivI l2, ivI l3, ivI l4]) (st' := [ivR 14]) (w' := (135, μ7, iv_rho)) rfl ?_
          refine iv_Ret.stl [43] (ls' := [ivR 2, ivI l1, ivI l2, ivI l3, ivI l4]) (st' := [ivI l4, ivR 14]) (w' := (135, μ7, iv_rho)) rfl ?_
          obtain ⟨c15, h⟩ := iv_ckE h
          refine iv_Ret.iald (len := 8) rfl rfl rfl c15.1 c15.2 ?_
          show iv_Ret L 107 44 [ivR 2, ivI l1, ivI l2, ivI l3, ivI l4] [ivI (μ7 14 l4.toNat)] (ivST μ7) (some (ivI r)) (ivST μ')
          refine iv_Ret.stl [45] (ls' := [ivR 2, ivI l1, ivI l2, ivI l3, ivI l4]) (st' := [ivI l1, ivI (μ7 14 l4.toNat)]) (w' := (135, μ7, iv_rho)) rfl ?_
          obtain ⟨r16, μ17, e18, h⟩ := iv_bndE h
          refine iv_Ret.calls rfl rfl (T_X9_has L (μ7 14 l4.toNat) l1 e18) ?_
          show iv_Ret L 107 48 [ivR 2, ivI l1, ivI l2, ivI l3, ivI l4] [ivI r16] (ivST μ17) (some (ivI r)) (ivST μ')
          rcases iv_iteE h with ⟨c19, h⟩ | ⟨c19, h⟩
          · refine iv_Ret.ifT (t := 83) rfl (decide_eq_true c19) rfl ?_
            exact hj9 l3 μ17 _ _ h
          · refine iv_Ret.ifF (t := 51) rfl (decide_eq_false c19) rfl ?_
            refine iv_Ret.stl [52, 55] (ls' := [ivR 2, ivI l1, ivI l2, ivI l3, ivI l4]) (st' := [ivR 11]) (w' := (135, μ17, iv_rho)) rfl ?_
            refine iv_Ret.stl [58] (ls' := [ivR 2, ivI l1, ivI l2, ivI l3, ivI l4]) (st' := [ivR 12]) (w' := (135, μ17, iv_rho)) rfl ?_
            refine iv_Ret.stl [60] (ls' := [ivR 2, ivI l1, ivI l2, ivI l3, ivI l4]) (st' := [ivI l4, ivR 12]) (w' := (135, μ17, iv_rho)) rfl ?_
            obtain ⟨c20, h⟩ := iv_ckE h
            refine iv_Ret.iald (len := 8) rfl rfl rfl c20.1 c20.2 ?_
            show iv_Ret L 107 61 [ivR 2, ivI l1, ivI l2, ivI l3, ivI l4] [ivI (μ17 12 l4.toNat)] (ivST μ17) (some (ivI r)) (ivST μ')
            obtain ⟨r21, μ22, e23, h⟩ := iv_bndE h
            refine iv_Ret.calls rfl rfl (T_X3_lengthOf L (μ17 12 l4.toNat) e23) ?_
            show iv_Ret L 107 64 [ivR 2, ivI l1, ivI l2, ivI l3, ivI l4] [ivI r21] (ivST μ22) (some (ivI r)) (ivST μ')
            refine iv_Ret.stl [65, 68] (ls' := [ivR 2, ivI l1, ivI l2, ivI l3, ivI l4]) (st' := [ivR 9, ivI r21]) (w' := (135, μ22, iv_rho)) rfl ?_
            refine iv_Ret.stl [71] (ls' := [ivR 2, ivI l1, ivI l2, ivI l3, ivI l4]) (st' := [ivR 10, ivI r21]) (w' := (135, μ22, iv_rho)) rfl ?_
            refine iv_Ret.stl [72] (ls' := [ivR 2, ivI l1, ivI l2, ivI l3, ivI l4]) (st' := [ivI l1, ivR 10, ivI r21]) (w' := (135, μ22, iv_rho)) rfl ?_
            obtain ⟨c24, h⟩ := iv_ckE h
            refine iv_Ret.iald (len := 6) rfl rfl rfl c24.1 c24.2 ?_
            show iv_Ret L 107 73 [ivR 2, ivI l1, ivI l2, ivI l3, ivI l4] [ivI (μ22 10 l1.toNat), ivI r21] (ivST μ22) (some (ivI r)) (ivST μ')
            rcases iv_iteE h with ⟨c25, h⟩ | ⟨c25, h⟩
            · refine iv_Ret.icT (t := 83) rfl (decide_eq_true c25) rfl ?_
              exact hj9 l3 μ22 _ _ h
            · refine iv_Ret.icF (t := 76) rfl (decide_eq_false c25) rfl ?_
              refine iv_Ret.stl [77, 78, 80, 81, 82, 83] (ls' := [ivR 2, ivI l1, ivI l2, ivI (iv_or l3 (iv_shl 1 l4)), ivI l4]) (st' := []) (w' := (135, μ22, iv_rho)) rfl ?_
              exact hj9 (iv_or l3 (iv_shl 1 l4)) μ22 _ _ h
theorem T_X9_liftedBy (L : Nat) (p1 : Int) (p2 : Int)  {μ μ' : ivM} {r : Int} (h : f_X9_liftedBy p1 p2 μ = some (r, μ')) : iv_Ret L 107 0 [ivR 2, ivI p1, ivI p2, ivU, ivU] [] (ivST μ) (some (ivI r)) (ivST μ') := by
  unfold f_X9_liftedBy at h
  refine iv_Ret.stl [1, 4] (ls' := [ivR 2, ivI p1, ivI p2, ivU, ivU]) (st' := [ivR 9]) (w' := (135, μ, iv_rho)) rfl ?_
  refine iv_Ret.stl [5] (ls' := [ivR 2, ivI p1, ivI p2, ivU, ivU]) (st' := [ivI p1, ivR 9]) (w' := (135, μ, iv_rho)) rfl ?_
  obtain ⟨r1, μ2, e3, h⟩ := iv_bndE h
  refine iv_Ret.callv rfl rfl rfl (T_X1_hasPerson L p1 e3) ?_
  show iv_Ret L 107 8 [ivR 2, ivI p1, ivI p2, ivU, ivU] [ivI r1] (ivST μ2) (some (ivI r)) (ivST μ')
  rcases iv_iteE h with ⟨c4, h⟩ | ⟨c4, h⟩
  · refine iv_Ret.ifF (t := 11) rfl (decide_eq_false (not_not_intro c4)) rfl ?_
    refine iv_Ret.stl [12] (ls' := [ivR 2, ivI p1, ivI p2, ivU, ivU]) (st' := [ivI 0]) (w' := (135, μ2, iv_rho)) rfl ?_
    obtain ⟨rfl, rfl⟩ := iv_retE h
    exact ⟨1, rfl⟩
  · refine iv_Ret.ifT (t := 13) rfl (decide_eq_true c4) rfl ?_
    refine iv_Ret.stl [14, 15, 16, 18] (ls' := [ivR 2, ivI p1, ivI p2, ivI 0, ivI 0]) (st' := []) (w' := (135, μ2, iv_rho)) rfl ?_
    exact T_lp_X9_liftedBy_18 L p1 p2 iv_fuel 0 0 μ2 _ _ h
theorem T_X9_lifts (L : Nat) (p1 : Int)  {μ μ' : ivM} {r : Int} (h : f_X9_lifts p1 μ = some (r, μ')) : iv_Ret L 82 0 [ivR 2, ivI p1] [] (ivST μ) (some (ivI r)) (ivST μ') := by
  unfold f_X9_lifts at h
  refine iv_Ret.stl [1, 4] (ls' := [ivR 2, ivI p1]) (st' := [ivR 9]) (w' := (135, μ, iv_rho)) rfl ?_
  refine iv_Ret.stl [5] (ls' := [ivR 2, ivI p1]) (st' := [ivI p1, ivR 9]) (w' := (135, μ, iv_rho)) rfl ?_
  obtain ⟨r1, μ2, e3, h⟩ := iv_bndE h
  refine iv_Ret.callv rfl rfl rfl (T_X1_hasPerson L p1 e3) ?_
  show iv_Ret L 82 8 [ivR 2, ivI p1] [ivI r1] (ivST μ2) (some (ivI r)) (ivST μ')
  rcases iv_iteE h with ⟨c4, h⟩ | ⟨c4, h⟩
  · refine iv_Ret.ifF (t := 11) rfl (decide_eq_false (not_not_intro c4)) rfl ?_
    refine iv_Ret.stl [12] (ls' := [ivR 2, ivI p1]) (st' := [ivI (-1)]) (w' := (135, μ2, iv_rho)) rfl ?_
    obtain ⟨rfl, rfl⟩ := iv_retE h
    exact ⟨1, rfl⟩
  · refine iv_Ret.ifT (t := 13) rfl (decide_eq_true c4) rfl ?_
    refine iv_Ret.stl [14, 15, 16] (ls' := [ivR 2, ivI p1]) (st' := [ivR 2, ivI p1, ivR 2]) (w' := (135, μ2, iv_rho)) rfl ?_
    obtain ⟨r5, μ6, e7, h⟩ := iv_bndE h
    refine iv_Ret.callv rfl rfl rfl (T_X9_clearOnes L  e7) ?_
    show iv_Ret L 82 19 [ivR 2, ivI p1] [ivI r5, ivI p1, ivR 2] (ivST μ6) (some (ivI r)) (ivST μ')
    obtain ⟨r8, μ9, e10, h⟩ := iv_bndE h
    refine iv_Ret.callv rfl rfl rfl (T_X9_liftedBy L p1 r5 e10) ?_
    show iv_Ret L 82 22 [ivR 2, ivI p1] [ivI r8] (ivST μ9) (some (ivI r)) (ivST μ')
    obtain ⟨rfl, rfl⟩ := iv_retE h
    exact ⟨1, rfl⟩
theorem T_lp_X9_stands_43 (L : Nat) (l1 : Int) (l2 : Int) (l3 : Int)  {k100 : Int → ivM → Option (Int × ivM)} (hk100 : ∀ (l5 : Int) (μ : ivM) (r : Int) (μ' : ivM) (d0 : ivV) (d1 : ivV) (d2 : ivV) (d3 : ivV) (d4 : ivV), k100 l5 μ = some (r, μ') → iv_Ret L 83 100 [d0, d1, d2, d3, d4, ivI l5] [] (ivST μ) (some (ivI r)) (ivST μ')) : ∀ (n : Nat) (l4 : Int) (l5 : Int) (μ : ivM) (r : Int) (μ' : ivM), lp_X9_stands_43 l1 l2 l3 k100 n l4 l5 μ = some (r, μ') → iv_Ret L 83 43 [ivR 2, ivI l1, ivI l2, ivI l3, ivI l4, ivI l5] [] (ivST μ) (some (ivI r)) (ivST μ') := by
  intro n
  induction n with
  | zero => intro l4 l5 μ r μ' h; unfold lp_X9_stands_43 at h; cases h
  | succ n ih =>
    intro l4 l5 μ r μ' h
    unfold lp_X9_stands_43 at h
    refine iv_Ret.stl [45, 47] (ls' := [ivR 2, ivI l1, ivI l2, ivI l3, ivI l4, ivI l5]) (st' := [ivI 8, ivI l5]) (w' := (135, μ, iv_rho)) rfl ?_
    rcases iv_iteE h with ⟨c15, h⟩ | ⟨c15, h⟩
    · refine iv_Ret.icT (t := 109) rfl (decide_eq_true c15) rfl ?_
      refine iv_Ret.stl [111] (ls' := [ivR 2, ivI l1, ivI l2, ivI l3, ivI l4, ivI l5]) (st' := [ivI (-9)]) (w' := (135, μ, iv_rho)) rfl ?_
      obtain ⟨rfl, rfl⟩ := iv_retE h
      exact ⟨1, rfl⟩
    · refine iv_Ret.icF (t := 50) rfl (decide_eq_false c15) rfl ?_
      refine iv_Ret.stl [51, 53] (ls' := [ivR 2, ivI l1, ivI l2, ivI l3, ivI l4, ivI l5]) (st' := [ivI l5, ivI l2]) (w' := (135, μ, iv_rho)) rfl ?_
      obtain ⟨r16, μ17, e18, h⟩ := iv_bndE h
      refine iv_Ret.calls rfl rfl (T_X9_has L l2 l5 e18) ?_
      show iv_Ret L 83 56 [ivR 2, ivI l1, ivI l2, ivI l3, ivI l4, ivI l5] [ivI r16] (ivST μ17) (some (ivI r)) (ivST μ')
      refine iv_letE (fun j19 => ∀ (w20 : Int) (μ21 : ivM) (r22 : Int) (μ23 : ivM), j19 w20 μ21 = some (r22, μ23) → iv_Ret L 83 103 [ivR 2, ivI l1, ivI l2, ivI l3, ivI w20, ivI l5] [] (ivST μ21) (some (ivI r22)) (ivST μ23)) h (fun w20 μ21 r22 μ23 h => ?_) (fun j19 hj19 h => ?_)
      · refine iv_Ret.stl [106, 43] (ls' := [ivR 2, ivI l1, ivI l2, ivI l3, ivI w20, ivI (iv_wr (l5 + 1))]) (st' := []) (w' := (135, μ21, iv_rho)) rfl ?_
        exact ih w20 (iv_wr (l5 + 1)) μ21 _ _ h
      · rcases iv_iteE h with ⟨c24, h⟩ | ⟨c24, h⟩
        · refine iv_Ret.ifT (t := 103) rfl (decide_eq_true c24) rfl ?_
          exact hj19 l4 μ17 _ _ h
        · refine iv_Ret.ifF (t := 59) rfl (decide_eq_false c24) rfl ?_
          refine iv_Ret.stl [61, 62, 65] (ls' := [ivR 2, ivI l1, ivI l2, ivI l3, ivI l4, ivI l5]) (st' := [ivR 11, ivI l4]) (w' := (135, μ17, iv_rho)) rfl ?_
          refine iv_Ret.stl [68] (ls' := [ivR 2, ivI l1, ivI l2, ivI l3, ivI l4, ivI l5]) (st' := [ivR 12, ivI l4]) (w' := (135, μ17, iv_rho)) rfl ?_
          refine iv_Ret.stl [70] (ls' := [ivR 2, ivI l1, ivI l2, ivI l3, ivI l4, ivI l5]) (st' := [ivI l5, ivR 12, ivI l4]) (w' := (135, μ17, iv_rho)) rfl ?_
          obtain ⟨c25, h⟩ := iv_ckE h
          refine iv_Ret.iald (len := 8) rfl rfl rfl c25.1 c25.2 ?_
          show iv_Ret L 83 71 [ivR 2, ivI l1, ivI l2, ivI l3, ivI l4, ivI l5] [ivI (μ17 12 l5.toNat), ivI l4] (ivST μ17) (some (ivI r)) (ivST μ')
          obtain ⟨r26, μ27, e28, h⟩ := iv_bndE h
          refine iv_Ret.calls rfl rfl (T_X3_lengthOf L (μ17 12 l5.toNat) e28) ?_
          show iv_Ret L 83 74 [ivR 2, ivI l1, ivI l2, ivI l3, ivI l4, ivI l5] [ivI r26, ivI l4] (ivST μ27) (some (ivI r)) (ivST μ')
          refine iv_Ret.stl [75, 77, 78, 80] (ls' := [ivR 2, ivI l1, ivI l2, ivI l3, ivI (iv_wr (l4 + r26)), ivI l5]) (st' := [ivI l5, ivI l3]) (w' := (135, μ27, iv_rho)) rfl ?_
          obtain ⟨r29, μ30, e31, h⟩ := iv_bndE h
          refine iv_Ret.calls rfl rfl (T_X9_has L l3 l5 e31) ?_
          show iv_Ret L 83 83 [ivR 2, ivI l1, ivI l2, ivI l3, ivI (iv_wr (l4 + r26)), ivI l5] [ivI r29] (ivST μ30) (some (ivI r)) (ivST μ')
          rcases iv_iteE h with ⟨c32, h⟩ | ⟨c32, h⟩
          · refine iv_Ret.ifT (t := 100) rfl (decide_eq_true c32) rfl ?_
            exact hk100 l5 μ30 _ _ (ivR 2) (ivI l1) (ivI l2) (ivI l3) (ivI (iv_wr (l4 + r26))) h
          · refine iv_Ret.ifF (t := 86) rfl (decide_eq_false c32) rfl ?_
            refine iv_Ret.stl [88, 89, 92] (ls' := [ivR 2, ivI l1, ivI l2, ivI l3, ivI (iv_wr (l4 + r26)), ivI l5]) (st' := [ivR 9, ivI (iv_wr (l4 + r26))]) (w' := (135, μ30, iv_rho)) rfl ?_
            refine iv_Ret.stl [95] (ls' := [ivR 2, ivI l1, ivI l2, ivI l3, ivI (iv_wr (l4 + r26)), ivI l5]) (st' := [ivR 10, ivI (iv_wr (l4 + r26))]) (w' := (135, μ30, iv_rho)) rfl ?_
            refine iv_Ret.stl [96] (ls' := [ivR 2, ivI l1, ivI l2, ivI l3, ivI (iv_wr (l4 + r26)), ivI l5]) (st' := [ivI l1, ivR 10, ivI (iv_wr (l4 + r26))]) (w' := (135, μ30, iv_rho)) rfl ?_
            obtain ⟨c33, h⟩ := iv_ckE h
            refine iv_Ret.iald (len := 6) rfl rfl rfl c33.1 c33.2 ?_
            show iv_Ret L 83 97 [ivR 2, ivI l1, ivI l2, ivI l3, ivI (iv_wr (l4 + r26)), ivI l5] [ivI (μ30 10 l1.toNat), ivI (iv_wr (l4 + r26))] (ivST μ30) (some (ivI r)) (ivST μ')
            rcases iv_iteE h with ⟨c34, h⟩ | ⟨c34, h⟩
            · refine iv_Ret.icT (t := 103) rfl (decide_eq_true c34) rfl ?_
              exact hj19 (iv_wr (l4 + r26)) μ30 _ _ h
            · refine iv_Ret.icF (t := 100) rfl (decide_eq_false c34) rfl ?_
              exact hk100 l5 μ30 _ _ (ivR 2) (ivI l1) (ivI l2) (ivI l3) (ivI (iv_wr (l4 + r26))) h
theorem T_X9_stands (L : Nat) (p1 : Int) (p2 : Int)  {μ μ' : ivM} {r : Int} (h : f_X9_stands p1 p2 μ = some (r, μ')) : iv_Ret L 83 0 [ivR 2, ivI p1, ivI p2, ivU, ivU, ivU] [] (ivST μ) (some (ivI r)) (ivST μ') := by
  unfold f_X9_stands at h
  refine iv_Ret.stl [1, 4] (ls' := [ivR 2, ivI p1, ivI p2, ivU, ivU, ivU]) (st' := [ivR 9]) (w' := (135, μ, iv_rho)) rfl ?_
  refine iv_Ret.stl [5] (ls' := [ivR 2, ivI p1, ivI p2, ivU, ivU, ivU]) (st' := [ivI p1, ivR 9]) (w' := (135, μ, iv_rho)) rfl ?_
  obtain ⟨r1, μ2, e3, h⟩ := iv_bndE h
  refine iv_Ret.callv rfl rfl rfl (T_X1_hasPerson L p1 e3) ?_
  show iv_Ret L 83 8 [ivR 2, ivI p1, ivI p2, ivU, ivU, ivU] [ivI r1] (ivST μ2) (some (ivI r)) (ivST μ')
  rcases iv_iteE h with ⟨c4, h⟩ | ⟨c4, h⟩
  · refine iv_Ret.ifF (t := 11) rfl (decide_eq_false (not_not_intro c4)) rfl ?_
    refine iv_Ret.stl [12] (ls' := [ivR 2, ivI p1, ivI p2, ivU, ivU, ivU]) (st' := [ivI (-1)]) (w' := (135, μ2, iv_rho)) rfl ?_
    obtain ⟨rfl, rfl⟩ := iv_retE h
    exact ⟨1, rfl⟩
  · refine iv_Ret.ifT (t := 13) rfl (decide_eq_true c4) rfl ?_
    refine iv_Ret.stl [14, 17] (ls' := [ivR 2, ivI p1, ivI p2, ivU, ivU, ivU]) (st' := [ivR 9]) (w' := (135, μ2, iv_rho)) rfl ?_
    refine iv_Ret.stl [18] (ls' := [ivR 2, ivI p1, ivI p2, ivU, ivU, ivU]) (st' := [ivI p2, ivR 9]) (w' := (135, μ2, iv_rho)) rfl ?_
    obtain ⟨r5, μ6, e7, h⟩ := iv_bndE h
    refine iv_Ret.callv rfl rfl rfl (T_X1_areThings L p2 e7) ?_
    show iv_Ret L 83 21 [ivR 2, ivI p1, ivI p2, ivU, ivU, ivU] [ivI r5] (ivST μ6) (some (ivI r)) (ivST μ')
    rcases iv_iteE h with ⟨c8, h⟩ | ⟨c8, h⟩
    · refine iv_Ret.ifF (t := 24) rfl (decide_eq_false (not_not_intro c8)) rfl ?_
      refine iv_Ret.stl [26] (ls' := [ivR 2, ivI p1, ivI p2, ivU, ivU, ivU]) (st' := [ivI (-2)]) (w' := (135, μ6, iv_rho)) rfl ?_
      obtain ⟨rfl, rfl⟩ := iv_retE h
      exact ⟨1, rfl⟩
    · refine iv_Ret.ifT (t := 27) rfl (decide_eq_true c8) rfl ?_
      refine iv_Ret.stl [28, 29, 30] (ls' := [ivR 2, ivI p1, ivI p2, ivU, ivU, ivU]) (st' := [ivR 2, ivI p1, ivR 2]) (w' := (135, μ6, iv_rho)) rfl ?_
      obtain ⟨r9, μ10, e11, h⟩ := iv_bndE h
      refine iv_Ret.callv rfl rfl rfl (T_X9_clearOnes L  e11) ?_
      show iv_Ret L 83 33 [ivR 2, ivI p1, ivI p2, ivU, ivU, ivU] [ivI r9, ivI p1, ivR 2] (ivST μ10) (some (ivI r)) (ivST μ')
      obtain ⟨r12, μ13, e14, h⟩ := iv_bndE h
      refine iv_Ret.callv rfl rfl rfl (T_X9_liftedBy L p1 r9 e14) ?_
      show iv_Ret L 83 36 [ivR 2, ivI p1, ivI p2, ivU, ivU, ivU] [ivI r12] (ivST μ13) (some (ivI r)) (ivST μ')
      refine iv_Ret.stl [37, 38, 40, 41, 43] (ls' := [ivR 2, ivI p1, ivI p2, ivI r12, ivI 0, ivI 0]) (st' := []) (w' := (135, μ13, iv_rho)) rfl ?_
      refine T_lp_X9_stands_43 L p1 p2 r12 (fun w40 μ41 r42 μ43 z35 z36 z37 z38 z39 h => ?_) iv_fuel 0 0 μ13 _ _ h
      refine iv_Ret.stl [102] (ls' := [z35, z36, z37, z38, z39, ivI w40]) (st' := [ivI w40]) (w' := (135, μ41, iv_rho)) rfl ?_
      obtain ⟨rfl, rfl⟩ := iv_retE h
      exact ⟨1, rfl⟩
theorem T_lp_X9_gatherCarriers_7 (L : Nat) (l1 : Int)  {k52 : ivM → Option (Int × ivM)} (hk52 : ∀  (μ : ivM) (r : Int) (μ' : ivM) (d1 : ivV) (d2 : ivV), k52 μ = some (r, μ') → iv_Ret L 108 52 [ivR 2, d1, d2] [] (ivST μ) none (ivST μ')) : ∀ (n : Nat) (l2 : Int) (μ : ivM) (r : Int) (μ' : ivM), lp_X9_gatherCarriers_7 l1 k52 n l2 μ = some (r, μ') → iv_Ret L 108 7 [ivR 2, ivI l1, ivI l2] [] (ivST μ) none (ivST μ') := by
  intro n
  induction n with
  | zero => intro l2 μ r μ' h; unfold lp_X9_gatherCarriers_7 at h; cases h
  | succ n ih =>
    intro l2 μ r μ' h
    unfold lp_X9_gatherCarriers_7 at h
    refine iv_Ret.stl [8, 10] (ls' := [ivR 2, ivI l1, ivI l2]) (st' := [ivI 6, ivI l2]) (w' := (135, μ, iv_rho)) rfl ?_
    rcases iv_iteE h with ⟨c4, h⟩ | ⟨c4, h⟩
    · refine iv_Ret.icT (t := 52) rfl (decide_eq_true c4) rfl ?_
      exact hk52 μ _ _ (ivI l1) (ivI l2) h
    · refine iv_Ret.icF (t := 13) rfl (decide_eq_false c4) rfl ?_
      refine iv_Ret.stl [14, 17] (ls' := [ivR 2, ivI l1, ivI l2]) (st' := [ivR 99]) (w' := (135, μ, iv_rho)) rfl ?_
      refine iv_Ret.stl [20] (ls' := [ivR 2, ivI l1, ivI l2]) (st' := [ivR 100]) (w' := (135, μ, iv_rho)) rfl ?_
      refine iv_Ret.stl [21, 22, 23, 24] (ls' := [ivR 2, ivI l1, ivI l2]) (st' := [ivI l1, ivI l2, ivR 2, ivI l2, ivR 100]) (w' := (135, μ, iv_rho)) rfl ?_
      obtain ⟨r5, μ6, e7, h⟩ := iv_bndE h
      refine iv_Ret.callv rfl rfl rfl (T_X9_liftedBy L l2 l1 e7) ?_
      show iv_Ret L 108 27 [ivR 2, ivI l1, ivI l2] [ivI r5, ivI l2, ivR 100] (ivST μ6) none (ivST μ')
      obtain ⟨c8, h⟩ := iv_ckE h
      refine iv_Ret.iast (len := 6) rfl rfl rfl rfl c8.1 c8.2 ?_
      show iv_Ret L 108 28 [ivR 2, ivI l1, ivI l2] [] (ivST (iv_upd μ6 100 l2.toNat r5)) none (ivST μ')
      refine iv_Ret.stl [29, 32] (ls' := [ivR 2, ivI l1, ivI l2]) (st' := [ivR 99]) (w' := (135, (iv_upd μ6 100 l2.toNat r5), iv_rho)) rfl ?_
      refine iv_Ret.stl [35] (ls' := [ivR 2, ivI l1, ivI l2]) (st' := [ivR 101]) (w' := (135, (iv_upd μ6 100 l2.toNat r5), iv_rho)) rfl ?_
      refine iv_Ret.stl [36, 37, 40] (ls' := [ivR 2, ivI l1, ivI l2]) (st' := [ivR 9, ivI l2, ivR 101]) (w' := (135, (iv_upd μ6 100 l2.toNat r5), iv_rho)) rfl ?_
      refine iv_Ret.stl [43] (ls' := [ivR 2, ivI l1, ivI l2]) (st' := [ivR 10, ivI l2, ivR 101]) (w' := (135, (iv_upd μ6 100 l2.toNat r5), iv_rho)) rfl ?_
      refine iv_Ret.stl [44] (ls' := [ivR 2, ivI l1, ivI l2]) (st' := [ivI l2, ivR 10, ivI l2, ivR 101]) (w' := (135, (iv_upd μ6 100 l2.toNat r5), iv_rho)) rfl ?_
      obtain ⟨c9, h⟩ := iv_ckE h
      refine iv_Ret.iald (len := 6) rfl rfl rfl c9.1 c9.2 ?_
      show iv_Ret L 108 45 [ivR 2, ivI l1, ivI l2] [ivI ((iv_upd μ6 100 l2.toNat r5) 10 l2.toNat), ivI l2, ivR 101] (ivST (iv_upd μ6 100 l2.toNat r5)) none (ivST μ')
      obtain ⟨c10, h⟩ := iv_ckE h
      refine iv_Ret.iast (len := 6) rfl rfl rfl rfl c10.1 c10.2 ?_
      show iv_Ret L 108 46 [ivR 2, ivI l1, ivI l2] [] (ivST (iv_upd (iv_upd μ6 100 l2.toNat r5) 101 l2.toNat ((iv_upd μ6 100 l2.toNat r5) 10 l2.toNat))) none (ivST μ')
      refine iv_Ret.stl [49, 7] (ls' := [ivR 2, ivI l1, ivI (iv_wr (l2 + 1))]) (st' := []) (w' := (135, (iv_upd (iv_upd μ6 100 l2.toNat r5) 101 l2.toNat ((iv_upd μ6 100 l2.toNat r5) 10 l2.toNat)), iv_rho)) rfl ?_
      exact ih (iv_wr (l2 + 1)) (iv_upd (iv_upd μ6 100 l2.toNat r5) 101 l2.toNat ((iv_upd μ6 100 l2.toNat r5) 10 l2.toNat)) _ _ h
theorem T_lp_X9_gatherCarriers_54 (L : Nat)     : ∀ (n : Nat) (l2 : Int) (μ : ivM) (r : Int) (μ' : ivM) (d1 : ivV), lp_X9_gatherCarriers_54  n l2 μ = some (r, μ') → iv_Ret L 108 54 [ivR 2, d1, ivI l2] [] (ivST μ) none (ivST μ') := by
  intro n
  induction n with
  | zero => intro l2 μ r μ' d1 h; unfold lp_X9_gatherCarriers_54 at h; cases h
  | succ n ih =>
    intro l2 μ r μ' d1 h
    unfold lp_X9_gatherCarriers_54 at h
    refine iv_Ret.stl [55, 57] (ls' := [ivR 2, d1, ivI l2]) (st' := [ivI 8, ivI l2]) (w' := (135, μ, iv_rho)) rfl ?_
    rcases iv_iteE h with ⟨c16, h⟩ | ⟨c16, h⟩
    · refine iv_Ret.icT (t := 87) rfl (decide_eq_true c16) rfl ?_
      obtain ⟨rfl, rfl⟩ := iv_retE h
      exact ⟨1, rfl⟩
    · refine iv_Ret.icF (t := 60) rfl (decide_eq_false c16) rfl ?_
      refine iv_Ret.stl [61, 64] (ls' := [ivR 2, d1, ivI l2]) (st' := [ivR 99]) (w' := (135, μ, iv_rho)) rfl ?_
      refine iv_Ret.stl [67] (ls' := [ivR 2, d1, ivI l2]) (st' := [ivR 102]) (w' := (135, μ, iv_rho)) rfl ?_
      refine iv_Ret.stl [68, 69, 72] (ls' := [ivR 2, d1, ivI l2]) (st' := [ivR 11, ivI l2, ivR 102]) (w' := (135, μ, iv_rho)) rfl ?_
      refine iv_Ret.stl [75] (ls' := [ivR 2, d1, ivI l2]) (st' := [ivR 12, ivI l2, ivR 102]) (w' := (135, μ, iv_rho)) rfl ?_
      refine iv_Ret.stl [76] (ls' := [ivR 2, d1, ivI l2]) (st' := [ivI l2, ivR 12, ivI l2, ivR 102]) (w' := (135, μ, iv_rho)) rfl ?_
      obtain ⟨c17, h⟩ := iv_ckE h
      refine iv_Ret.iald (len := 8) rfl rfl rfl c17.1 c17.2 ?_
      show iv_Ret L 108 77 [ivR 2, d1, ivI l2] [ivI (μ 12 l2.toNat), ivI l2, ivR 102] (ivST μ) none (ivST μ')
      obtain ⟨r18, μ19, e20, h⟩ := iv_bndE h
      refine iv_Ret.calls rfl rfl (T_X3_lengthOf L (μ 12 l2.toNat) e20) ?_
      show iv_Ret L 108 80 [ivR 2, d1, ivI l2] [ivI r18, ivI l2, ivR 102] (ivST μ19) none (ivST μ')
      obtain ⟨c21, h⟩ := iv_ckE h
      refine iv_Ret.iast (len := 8) rfl rfl rfl rfl c21.1 c21.2 ?_
      show iv_Ret L 108 81 [ivR 2, d1, ivI l2] [] (ivST (iv_upd μ19 102 l2.toNat r18)) none (ivST μ')
      refine iv_Ret.stl [84, 54] (ls' := [ivR 2, (iv_un d1), ivI (iv_wr (l2 + 1))]) (st' := []) (w' := (135, (iv_upd μ19 102 l2.toNat r18), iv_rho)) rfl ?_
      exact ih (iv_wr (l2 + 1)) (iv_upd μ19 102 l2.toNat r18) _ _ (iv_un d1) h
theorem T_X9_gatherCarriers (L : Nat)   {μ μ' : ivM} {r : Int} (h : f_X9_gatherCarriers  μ = some (r, μ')) : iv_Ret L 108 0 [ivR 2, ivU, ivU] [] (ivST μ) none (ivST μ') := by
  unfold f_X9_gatherCarriers at h
  refine iv_Ret.stl [1] (ls' := [ivR 2, ivU, ivU]) (st' := [ivR 2]) (w' := (135, μ, iv_rho)) rfl ?_
  obtain ⟨r1, μ2, e3, h⟩ := iv_bndE h
  refine iv_Ret.callv rfl rfl rfl (T_X9_clearOnes L  e3) ?_
  show iv_Ret L 108 4 [ivR 2, ivU, ivU] [ivI r1] (ivST μ2) none (ivST μ')
  refine iv_Ret.stl [5, 6, 7] (ls' := [ivR 2, ivI r1, ivI 0]) (st' := []) (w' := (135, μ2, iv_rho)) rfl ?_
  refine T_lp_X9_gatherCarriers_7 L r1 (fun μ13 r14 μ15 z11 z12 h => ?_) iv_fuel 0 μ2 _ _ h
  refine iv_Ret.stl [53, 54] (ls' := [ivR 2, (iv_un z11), ivI 0]) (st' := []) (w' := (135, μ13, iv_rho)) rfl ?_
  exact T_lp_X9_gatherCarriers_54 L  iv_fuel 0 μ13 _ _ (iv_un z11) h
theorem T_X9_carries (L : Nat) (p1 : Int) (p2 : Int)  {μ μ' : ivM} {r : Int} (h : f_X9_carries p1 p2 μ = some (r, μ')) : iv_Ret L 84 0 [ivR 2, ivI p1, ivI p2, ivU] [] (ivST μ) (some (ivI r)) (ivST μ') := by
  unfold f_X9_carries at h
  refine iv_Ret.stl [1, 4] (ls' := [ivR 2, ivI p1, ivI p2, ivU]) (st' := [ivR 9]) (w' := (135, μ, iv_rho)) rfl ?_
  refine iv_Ret.stl [5] (ls' := [ivR 2, ivI p1, ivI p2, ivU]) (st' := [ivI p1, ivR 9]) (w' := (135, μ, iv_rho)) rfl ?_
  obtain ⟨r1, μ2, e3, h⟩ := iv_bndE h
  refine iv_Ret.callv rfl rfl rfl (T_X1_hasPerson L p1 e3) ?_
  show iv_Ret L 84 8 [ivR 2, ivI p1, ivI p2, ivU] [ivI r1] (ivST μ2) (some (ivI r)) (ivST μ')
  rcases iv_iteE h with ⟨c4, h⟩ | ⟨c4, h⟩
  · refine iv_Ret.ifF (t := 11) rfl (decide_eq_false (not_not_intro c4)) rfl ?_
    refine iv_Ret.stl [12] (ls' := [ivR 2, ivI p1, ivI p2, ivU]) (st' := [ivI (-1)]) (w' := (135, μ2, iv_rho)) rfl ?_
    obtain ⟨rfl, rfl⟩ := iv_retE h
    exact ⟨1, rfl⟩
  · refine iv_Ret.ifT (t := 13) rfl (decide_eq_true c4) rfl ?_
    refine iv_Ret.stl [14, 17] (ls' := [ivR 2, ivI p1, ivI p2, ivU]) (st' := [ivR 9]) (w' := (135, μ2, iv_rho)) rfl ?_
    refine iv_Ret.stl [18] (ls' := [ivR 2, ivI p1, ivI p2, ivU]) (st' := [ivI p2, ivR 9]) (w' := (135, μ2, iv_rho)) rfl ?_
    obtain ⟨r5, μ6, e7, h⟩ := iv_bndE h
    refine iv_Ret.callv rfl rfl rfl (T_X1_areThings L p2 e7) ?_
    show iv_Ret L 84 21 [ivR 2, ivI p1, ivI p2, ivU] [ivI r5] (ivST μ6) (some (ivI r)) (ivST μ')
    rcases iv_iteE h with ⟨c8, h⟩ | ⟨c8, h⟩
    · refine iv_Ret.ifF (t := 24) rfl (decide_eq_false (not_not_intro c8)) rfl ?_
      refine iv_Ret.stl [26] (ls' := [ivR 2, ivI p1, ivI p2, ivU]) (st' := [ivI (-2)]) (w' := (135, μ6, iv_rho)) rfl ?_
      obtain ⟨rfl, rfl⟩ := iv_retE h
      exact ⟨1, rfl⟩
    · refine iv_Ret.ifT (t := 27) rfl (decide_eq_true c8) rfl ?_
      refine iv_Ret.stl [28] (ls' := [ivR 2, ivI p1, ivI p2, ivU]) (st' := [ivR 2]) (w' := (135, μ6, iv_rho)) rfl ?_
      obtain ⟨r9, μ10, e11, h⟩ := iv_bndE h
      refine iv_Ret.callv rfl rfl rfl (T_X9_gatherCarriers L  e11) ?_
      show iv_Ret L 84 31 [ivR 2, ivI p1, ivI p2, ivU] [] (ivST μ10) (some (ivI r)) (ivST μ')
      refine iv_Ret.stl [32, 35] (ls' := [ivR 2, ivI p1, ivI p2, ivU]) (st' := [ivR 99]) (w' := (135, μ10, iv_rho)) rfl ?_
      refine iv_Ret.stl [36] (ls' := [ivR 2, ivI p1, ivI p2, ivU]) (st' := [ivI p2, ivR 99]) (w' := (135, μ10, iv_rho)) rfl ?_
      obtain ⟨r12, μ13, e14, h⟩ := iv_bndE h
      refine iv_Ret.callv rfl rfl rfl (T_X0_pack L p2 e14) ?_
      show iv_Ret L 84 39 [ivR 2, ivI p1, ivI p2, ivU] [] (ivST μ13) (some (ivI r)) (ivST μ')
      refine iv_Ret.stl [40, 43] (ls' := [ivR 2, ivI p1, ivI p2, ivU]) (st' := [ivR 99]) (w' := (135, μ13, iv_rho)) rfl ?_
      refine iv_Ret.stl [44] (ls' := [ivR 2, ivI p1, ivI p2, ivU]) (st' := [ivI p2, ivR 99]) (w' := (135, μ13, iv_rho)) rfl ?_
      obtain ⟨r15, μ16, e17, h⟩ := iv_bndE h
      refine iv_Ret.callv rfl rfl rfl (T_X0_timesFor L p2 e17) ?_
      show iv_Ret L 84 47 [ivR 2, ivI p1, ivI p2, ivU] [ivI r15] (ivST μ16) (some (ivI r)) (ivST μ')
      refine iv_Ret.stl [48, 49, 51] (ls' := [ivR 2, ivI p1, ivI p2, ivI r15]) (st' := [ivI (-9), ivI r15]) (w' := (135, μ16, iv_rho)) rfl ?_
      refine iv_letE (fun j18 => ∀ (μ23 : ivM) (r24 : Int) (μ25 : ivM) (z19 : ivV) (z20 : ivV) (z21 : ivV) (z22 : ivV), j18 μ23 = some (r24, μ25) → iv_Ret L 84 59 [z19, z20, z21, z22] [] (ivST μ23) (some (ivI r24)) (ivST μ25)) h (fun μ23 r24 μ25 z19 z20 z21 z22 h => ?_) (fun j18 hj18 h => ?_)
      · refine iv_Ret.stl [61] (ls' := [z19, z20, z21, z22]) (st' := [ivI (-3)]) (w' := (135, μ23, iv_rho)) rfl ?_
        obtain ⟨rfl, rfl⟩ := iv_retE h
        exact ⟨1, rfl⟩
      · rcases iv_iteE h with ⟨c26, h⟩ | ⟨c26, h⟩
        · refine iv_Ret.icT (t := 59) rfl (decide_eq_true c26) rfl ?_
          exact hj18 μ16 _ _ (ivR 2) (ivI p1) (ivI p2) (ivI r15) h
        · refine iv_Ret.icF (t := 54) rfl (decide_eq_false c26) rfl ?_
          refine iv_Ret.stl [55, 56] (ls' := [ivR 2, ivI p1, ivI p2, ivI r15]) (st' := [ivI 1, ivI r15]) (w' := (135, μ16, iv_rho)) rfl ?_
          rcases iv_iteE h with ⟨c27, h⟩ | ⟨c27, h⟩
          · refine iv_Ret.icT (t := 62) rfl (decide_eq_true c27) rfl ?_
            refine iv_Ret.stl [63, 66] (ls' := [ivR 2, ivI p1, ivI p2, ivI r15]) (st' := [ivR 99]) (w' := (135, μ16, iv_rho)) rfl ?_
            refine iv_Ret.stl [67, 68] (ls' := [ivR 2, ivI p1, ivI p2, ivI r15]) (st' := [ivI p2, ivI p1, ivR 99]) (w' := (135, μ16, iv_rho)) rfl ?_
            obtain ⟨r28, μ29, e30, h⟩ := iv_bndE h
            refine iv_Ret.callv rfl rfl rfl (T_X0_firstWay L p1 p2 e30) ?_
            show iv_Ret L 84 71 [ivR 2, ivI p1, ivI p2, ivI r15] [ivI r28] (ivST μ29) (some (ivI r)) (ivST μ')
            obtain ⟨rfl, rfl⟩ := iv_retE h
            exact ⟨1, rfl⟩
          · refine iv_Ret.icF (t := 59) rfl (decide_eq_false c27) rfl ?_
            exact hj18 μ16 _ _ (ivR 2) (ivI p1) (ivI p2) (ivI r15) h
theorem T_X9_times (L : Nat) (p1 : Int)  {μ μ' : ivM} {r : Int} (h : f_X9_times p1 μ = some (r, μ')) : iv_Ret L 85 0 [ivR 2, ivI p1] [] (ivST μ) (some (ivI r)) (ivST μ') := by
  unfold f_X9_times at h
  refine iv_Ret.stl [1, 4] (ls' := [ivR 2, ivI p1]) (st' := [ivR 9]) (w' := (135, μ, iv_rho)) rfl ?_
  refine iv_Ret.stl [5] (ls' := [ivR 2, ivI p1]) (st' := [ivI p1, ivR 9]) (w' := (135, μ, iv_rho)) rfl ?_
  obtain ⟨r1, μ2, e3, h⟩ := iv_bndE h
  refine iv_Ret.callv rfl rfl rfl (T_X1_areThings L p1 e3) ?_
  show iv_Ret L 85 8 [ivR 2, ivI p1] [ivI r1] (ivST μ2) (some (ivI r)) (ivST μ')
  rcases iv_iteE h with ⟨c4, h⟩ | ⟨c4, h⟩
  · refine iv_Ret.ifF (t := 11) rfl (decide_eq_false (not_not_intro c4)) rfl ?_
    refine iv_Ret.stl [13] (ls' := [ivR 2, ivI p1]) (st' := [ivI (-2)]) (w' := (135, μ2, iv_rho)) rfl ?_
    obtain ⟨rfl, rfl⟩ := iv_retE h
    exact ⟨1, rfl⟩
  · refine iv_Ret.ifT (t := 14) rfl (decide_eq_true c4) rfl ?_
    refine iv_Ret.stl [15] (ls' := [ivR 2, ivI p1]) (st' := [ivR 2]) (w' := (135, μ2, iv_rho)) rfl ?_
    obtain ⟨r5, μ6, e7, h⟩ := iv_bndE h
    refine iv_Ret.callv rfl rfl rfl (T_X9_gatherCarriers L  e7) ?_
    show iv_Ret L 85 18 [ivR 2, ivI p1] [] (ivST μ6) (some (ivI r)) (ivST μ')
    refine iv_Ret.stl [19, 22] (ls' := [ivR 2, ivI p1]) (st' := [ivR 99]) (w' := (135, μ6, iv_rho)) rfl ?_
    refine iv_Ret.stl [23] (ls' := [ivR 2, ivI p1]) (st' := [ivI p1, ivR 99]) (w' := (135, μ6, iv_rho)) rfl ?_
    obtain ⟨r8, μ9, e10, h⟩ := iv_bndE h
    refine iv_Ret.callv rfl rfl rfl (T_X0_pack L p1 e10) ?_
    show iv_Ret L 85 26 [ivR 2, ivI p1] [] (ivST μ9) (some (ivI r)) (ivST μ')
    refine iv_Ret.stl [27, 30] (ls' := [ivR 2, ivI p1]) (st' := [ivR 99]) (w' := (135, μ9, iv_rho)) rfl ?_
    refine iv_Ret.stl [31] (ls' := [ivR 2, ivI p1]) (st' := [ivI p1, ivR 99]) (w' := (135, μ9, iv_rho)) rfl ?_
    obtain ⟨r11, μ12, e13, h⟩ := iv_bndE h
    refine iv_Ret.callv rfl rfl rfl (T_X0_timesFor L p1 e13) ?_
    show iv_Ret L 85 34 [ivR 2, ivI p1] [ivI r11] (ivST μ12) (some (ivI r)) (ivST μ')
    obtain ⟨rfl, rfl⟩ := iv_retE h
    exact ⟨1, rfl⟩
theorem T_X9_worth (L : Nat) (p1 : Int)  {μ μ' : ivM} {r : Int} (h : f_X9_worth p1 μ = some (r, μ')) : iv_Ret L 86 0 [ivR 2, ivI p1, ivU, ivU, ivU] [] (ivST μ) (some (ivI r)) (ivST μ') := by
  unfold f_X9_worth at h
  refine iv_Ret.stl [1, 4] (ls' := [ivR 2, ivI p1, ivU, ivU, ivU]) (st' := [ivR 9]) (w' := (135, μ, iv_rho)) rfl ?_
  refine iv_Ret.stl [5] (ls' := [ivR 2, ivI p1, ivU, ivU, ivU]) (st' := [ivI p1, ivR 9]) (w' := (135, μ, iv_rho)) rfl ?_
  obtain ⟨r1, μ2, e3, h⟩ := iv_bndE h
  refine iv_Ret.callv rfl rfl rfl (T_X1_hasPerson L p1 e3) ?_
  show iv_Ret L 86 8 [ivR 2, ivI p1, ivU, ivU, ivU] [ivI r1] (ivST μ2) (some (ivI r)) (ivST μ')
  rcases iv_iteE h with ⟨c4, h⟩ | ⟨c4, h⟩
  · refine iv_Ret.ifF (t := 11) rfl (decide_eq_false (not_not_intro c4)) rfl ?_
    refine iv_Ret.stl [12] (ls' := [ivR 2, ivI p1, ivU, ivU, ivU]) (st' := [ivI (-1)]) (w' := (135, μ2, iv_rho)) rfl ?_
    obtain ⟨rfl, rfl⟩ := iv_retE h
    exact ⟨1, rfl⟩
  · refine iv_Ret.ifT (t := 13) rfl (decide_eq_true c4) rfl ?_
    refine iv_Ret.stl [14] (ls' := [ivR 2, ivI p1, ivU, ivU, ivU]) (st' := [ivR 2]) (w' := (135, μ2, iv_rho)) rfl ?_
    obtain ⟨r5, μ6, e7, h⟩ := iv_bndE h
    refine iv_Ret.callv rfl rfl rfl (T_X9_gatherCarriers L  e7) ?_
    show iv_Ret L 86 17 [ivR 2, ivI p1, ivU, ivU, ivU] [] (ivST μ6) (some (ivI r)) (ivST μ')
    refine iv_Ret.stl [18, 21] (ls' := [ivR 2, ivI p1, ivU, ivU, ivU]) (st' := [ivR 99]) (w' := (135, μ6, iv_rho)) rfl ?_
    obtain ⟨r8, μ9, e10, h⟩ := iv_bndE h
    refine iv_Ret.callv rfl rfl rfl (T_X0_allLifted L  e10) ?_
    show iv_Ret L 86 24 [ivR 2, ivI p1, ivU, ivU, ivU] [ivI r8] (ivST μ9) (some (ivI r)) (ivST μ')
    refine iv_Ret.stl [25, 26, 29] (ls' := [ivR 2, ivI p1, ivI r8, ivU, ivU]) (st' := [ivR 99]) (w' := (135, μ9, iv_rho)) rfl ?_
    refine iv_Ret.stl [30] (ls' := [ivR 2, ivI p1, ivI r8, ivU, ivU]) (st' := [ivI r8, ivR 99]) (w' := (135, μ9, iv_rho)) rfl ?_
    obtain ⟨r11, μ12, e13, h⟩ := iv_bndE h
    refine iv_Ret.callv rfl rfl rfl (T_X0_pack L r8 e13) ?_
    show iv_Ret L 86 33 [ivR 2, ivI p1, ivI r8, ivU, ivU] [] (ivST μ12) (some (ivI r)) (ivST μ')
    refine iv_Ret.stl [34, 37] (ls' := [ivR 2, ivI p1, ivI r8, ivU, ivU]) (st' := [ivR 99]) (w' := (135, μ12, iv_rho)) rfl ?_
    refine iv_Ret.stl [38] (ls' := [ivR 2, ivI p1, ivI r8, ivU, ivU]) (st' := [ivI r8, ivR 99]) (w' := (135, μ12, iv_rho)) rfl ?_
    obtain ⟨r14, μ15, e16, h⟩ := iv_bndE h
    refine iv_Ret.callv rfl rfl rfl (T_X0_timesFor L r8 e16) ?_
    show iv_Ret L 86 41 [ivR 2, ivI p1, ivI r8, ivU, ivU] [ivI r14] (ivST μ15) (some (ivI r)) (ivST μ')
    refine iv_Ret.stl [42, 43, 46] (ls' := [ivR 2, ivI p1, ivI r8, ivI r14, ivU]) (st' := [ivR 99]) (w' := (135, μ15, iv_rho)) rfl ?_
    refine iv_Ret.stl [49] (ls' := [ivR 2, ivI p1, ivI r8, ivI r14, ivU]) (st' := [ivR 100]) (w' := (135, μ15, iv_rho)) rfl ?_
    refine iv_Ret.stl [50, 51] (ls' := [ivR 2, ivI p1, ivI r8, ivI r14, ivU]) (st' := [ivI 0, ivI p1, ivR 100]) (w' := (135, μ15, iv_rho)) rfl ?_
    obtain ⟨c17, h⟩ := iv_ckE h
    refine iv_Ret.iast (len := 6) rfl rfl rfl rfl c17.1 c17.2 ?_
    show iv_Ret L 86 52 [ivR 2, ivI p1, ivI r8, ivI r14, ivU] [] (ivST (iv_upd μ15 100 p1.toNat 0)) (some (ivI r)) (ivST μ')
    refine iv_Ret.stl [53, 56] (ls' := [ivR 2, ivI p1, ivI r8, ivI r14, ivU]) (st' := [ivR 99]) (w' := (135, (iv_upd μ15 100 p1.toNat 0), iv_rho)) rfl ?_
    refine iv_Ret.stl [57] (ls' := [ivR 2, ivI p1, ivI r8, ivI r14, ivU]) (st' := [ivI r8, ivR 99]) (w' := (135, (iv_upd μ15 100 p1.toNat 0), iv_rho)) rfl ?_
    obtain ⟨r18, μ19, e20, h⟩ := iv_bndE h
    refine iv_Ret.callv rfl rfl rfl (T_X0_pack L r8 e20) ?_
    show iv_Ret L 86 60 [ivR 2, ivI p1, ivI r8, ivI r14, ivU] [] (ivST μ19) (some (ivI r)) (ivST μ')
    refine iv_Ret.stl [61, 64] (ls' := [ivR 2, ivI p1, ivI r8, ivI r14, ivU]) (st' := [ivR 99]) (w' := (135, μ19, iv_rho)) rfl ?_
    refine iv_Ret.stl [65] (ls' := [ivR 2, ivI p1, ivI r8, ivI r14, ivU]) (st' := [ivI r8, ivR 99]) (w' := (135, μ19, iv_rho)) rfl ?_
    obtain ⟨r21, μ22, e23, h⟩ := iv_bndE h
    refine iv_Ret.callv rfl rfl rfl (T_X0_timesFor L r8 e23) ?_
    show iv_Ret L 86 68 [ivR 2, ivI p1, ivI r8, ivI r14, ivU] [ivI r21] (ivST μ22) (some (ivI r)) (ivST μ')
    refine iv_Ret.stl [70, 72, 74] (ls' := [ivR 2, ivI p1, ivI r8, ivI r14, ivI r21]) (st' := [ivI (-9), ivI r21]) (w' := (135, μ22, iv_rho)) rfl ?_
    refine iv_letE (fun j24 => ∀ (v30 : Int) (μ31 : ivM) (r32 : Int) (μ33 : ivM) (z25 : ivV) (z26 : ivV) (z27 : ivV) (z28 : ivV) (z29 : ivV), j24 v30 μ31 = some (r32, μ33) → iv_Ret L 86 86 [z25, z26, z27, z28, z29] [ivI v30] (ivST μ31) (some (ivI r32)) (ivST μ33)) h (fun v30 μ31 r32 μ33 z25 z26 z27 z28 z29 h => ?_) (fun j24 hj24 h => ?_)
    · obtain ⟨rfl, rfl⟩ := iv_retE h
      exact ⟨1, rfl⟩
    · rcases iv_iteE h with ⟨c34, h⟩ | ⟨c34, h⟩
      · refine iv_Ret.icF (t := 77) rfl (decide_eq_false (not_not_intro c34)) rfl ?_
        refine iv_Ret.stl [79, 86] (ls' := [ivR 2, ivI p1, ivI r8, ivI r14, ivI r21]) (st' := [ivI 99]) (w' := (135, μ22, iv_rho)) rfl ?_
        exact hj24 99 μ22 _ _ (ivR 2) (ivI p1) (ivI r8) (ivI r14) (ivI r21) h
      · refine iv_Ret.icT (t := 82) rfl (decide_eq_true c34) rfl ?_
        refine iv_Ret.stl [84, 85, 86] (ls' := [ivR 2, ivI p1, ivI r8, ivI r14, ivI r21]) (st' := [ivI (iv_wr (r21 - r14))]) (w' := (135, μ22, iv_rho)) rfl ?_
        exact hj24 (iv_wr (r21 - r14)) μ22 _ _ (ivR 2) (ivI p1) (ivI r8) (ivI r14) (ivI r21) h
theorem T_X9_upkeep (L : Nat) (p1 : Int) (p2 : Int)  {μ μ' : ivM} {r : Int} (h : f_X9_upkeep p1 p2 μ = some (r, μ')) : iv_Ret L 87 0 [ivR 2, ivI p1, ivI p2] [] (ivST μ) (some (ivI r)) (ivST μ') := by
  unfold f_X9_upkeep at h
  refine iv_Ret.stl [1, 4] (ls' := [ivR 2, ivI p1, ivI p2]) (st' := [ivR 9]) (w' := (135, μ, iv_rho)) rfl ?_
  refine iv_Ret.stl [5] (ls' := [ivR 2, ivI p1, ivI p2]) (st' := [ivI p1, ivR 9]) (w' := (135, μ, iv_rho)) rfl ?_
  obtain ⟨r1, μ2, e3, h⟩ := iv_bndE h
  refine iv_Ret.callv rfl rfl rfl (T_X1_areThings L p1 e3) ?_
  show iv_Ret L 87 8 [ivR 2, ivI p1, ivI p2] [ivI r1] (ivST μ2) (some (ivI r)) (ivST μ')
  refine iv_letE (fun j4 => ∀ (μ8 : ivM) (r9 : Int) (μ10 : ivM) (z5 : ivV) (z6 : ivV) (z7 : ivV), j4 μ8 = some (r9, μ10) → iv_Ret L 87 21 [z5, z6, z7] [] (ivST μ8) (some (ivI r9)) (ivST μ10)) h (fun μ8 r9 μ10 z5 z6 z7 h => ?_) (fun j4 hj4 h => ?_)
  · refine iv_Ret.stl [23] (ls' := [z5, z6, z7]) (st' := [ivI (-2)]) (w' := (135, μ8, iv_rho)) rfl ?_
    obtain ⟨rfl, rfl⟩ := iv_retE h
    exact ⟨1, rfl⟩
  · rcases iv_iteE h with ⟨c11, h⟩ | ⟨c11, h⟩
    · refine iv_Ret.ifT (t := 21) rfl (decide_eq_true c11) rfl ?_
      exact hj4 μ2 _ _ (ivR 2) (ivI p1) (ivI p2) h
    · refine iv_Ret.ifF (t := 11) rfl (decide_eq_false c11) rfl ?_
      refine iv_Ret.stl [12] (ls' := [ivR 2, ivI p1, ivI p2]) (st' := [ivI p2]) (w' := (135, μ2, iv_rho)) rfl ?_
      rcases iv_iteE h with ⟨c12, h⟩ | ⟨c12, h⟩
      · refine iv_Ret.ifT (t := 21) rfl (decide_eq_true c12) rfl ?_
        exact hj4 μ2 _ _ (ivR 2) (ivI p1) (ivI p2) h
      · refine iv_Ret.ifF (t := 15) rfl (decide_eq_false c12) rfl ?_
        refine iv_Ret.stl [16, 18] (ls' := [ivR 2, ivI p1, ivI p2]) (st' := [ivI 99, ivI p2]) (w' := (135, μ2, iv_rho)) rfl ?_
        rcases iv_iteE h with ⟨c13, h⟩ | ⟨c13, h⟩
        · refine iv_Ret.icT (t := 24) rfl (decide_eq_true c13) rfl ?_
          refine iv_Ret.stl [25, 28] (ls' := [ivR 2, ivI p1, ivI p2]) (st' := [ivR 11]) (w' := (135, μ2, iv_rho)) rfl ?_
          refine iv_Ret.stl [29, 30, 33] (ls' := [ivR 2, ivI p1, ivI p2]) (st' := [ivR 11, ivI p1, ivR 11]) (w' := (135, μ2, iv_rho)) rfl ?_
          obtain ⟨r14, μ15, e16, h⟩ := iv_bndE h
          refine iv_Ret.callv rfl rfl rfl (T_X2_liveOnes L  e16) ?_
          show iv_Ret L 87 36 [ivR 2, ivI p1, ivI p2] [ivI r14, ivI p1, ivR 11] (ivST μ15) (some (ivI r)) (ivST μ')
          refine iv_Ret.stl [37, 38] (ls' := [ivR 2, ivI p1, ivI p2]) (st' := [ivI p2, ivI (iv_and p1 r14), ivR 11]) (w' := (135, μ15, iv_rho)) rfl ?_
          obtain ⟨r17, μ18, e19, h⟩ := iv_bndE h
          refine iv_Ret.callv rfl rfl rfl (T_X2_sayingsFor L (iv_and p1 r14) p2 e19) ?_
          show iv_Ret L 87 41 [ivR 2, ivI p1, ivI p2] [ivI r17] (ivST μ18) (some (ivI r)) (ivST μ')
          obtain ⟨rfl, rfl⟩ := iv_retE h
          exact ⟨1, rfl⟩
        · refine iv_Ret.icF (t := 21) rfl (decide_eq_false c13) rfl ?_
          exact hj4 μ2 _ _ (ivR 2) (ivI p1) (ivI p2) h
theorem T_lp_X9_mayHave_23 (L : Nat) (l1 : Int) (l2 : Int)    : ∀ (n : Nat) (l3 : Int) (l4 : Int) (μ : ivM) (r : Int) (μ' : ivM), lp_X9_mayHave_23 l1 l2 n l3 l4 μ = some (r, μ') → iv_Ret L 88 23 [ivR 2, ivI l1, ivI l2, ivI l3, ivI l4] [] (ivST μ) (some (ivI r)) (ivST μ') := by
  intro n
  induction n with
  | zero => intro l3 l4 μ r μ' h; unfold lp_X9_mayHave_23 at h; cases h
  | succ n ih =>
    intro l3 l4 μ r μ' h
    unfold lp_X9_mayHave_23 at h
    refine iv_Ret.stl [25, 27] (ls' := [ivR 2, ivI l1, ivI l2, ivI l3, ivI l4]) (st' := [ivI 6, ivI l4]) (w' := (135, μ, iv_rho)) rfl ?_
    rcases iv_iteE h with ⟨c8, h⟩ | ⟨c8, h⟩
    · refine iv_Ret.icT (t := 57) rfl (decide_eq_true c8) rfl ?_
      refine iv_Ret.stl [58] (ls' := [ivR 2, ivI l1, ivI l2, ivI l3, ivI l4]) (st' := [ivI l3]) (w' := (135, μ, iv_rho)) rfl ?_
      obtain ⟨rfl, rfl⟩ := iv_retE h
      exact ⟨1, rfl⟩
    · refine iv_Ret.icF (t := 30) rfl (decide_eq_false c8) rfl ?_
      refine iv_Ret.stl [31, 33, 34] (ls' := [ivR 2, ivI l1, ivI l2, ivI l3, ivI l4]) (st' := [ivI l2, ivI l4, ivR 2]) (w' := (135, μ, iv_rho)) rfl ?_
      obtain ⟨r9, μ10, e11, h⟩ := iv_bndE h
      refine iv_Ret.callv rfl rfl rfl (T_X9_liftedBy L l4 l2 e11) ?_
      show iv_Ret L 88 37 [ivR 2, ivI l1, ivI l2, ivI l3, ivI l4] [ivI r9] (ivST μ10) (some (ivI r)) (ivST μ')
      refine iv_Ret.stl [38] (ls' := [ivR 2, ivI l1, ivI l2, ivI l3, ivI l4]) (st' := [ivI l1, ivI r9]) (w' := (135, μ10, iv_rho)) rfl ?_
      obtain ⟨r12, μ13, e14, h⟩ := iv_bndE h
      refine iv_Ret.calls rfl rfl (T_X9_has L r9 l1 e14) ?_
      show iv_Ret L 88 41 [ivR 2, ivI l1, ivI l2, ivI l3, ivI l4] [ivI r12] (ivST μ13) (some (ivI r)) (ivST μ')
      refine iv_letE (fun j15 => ∀ (w16 : Int) (μ17 : ivM) (r18 : Int) (μ19 : ivM), j15 w16 μ17 = some (r18, μ19) → iv_Ret L 88 51 [ivR 2, ivI l1, ivI l2, ivI w16, ivI l4] [] (ivST μ17) (some (ivI r18)) (ivST μ19)) h (fun w16 μ17 r18 μ19 h => ?_) (fun j15 hj15 h => ?_)
      · refine iv_Ret.stl [54, 23] (ls' := [ivR 2, ivI l1, ivI l2, ivI w16, ivI (iv_wr (l4 + 1))]) (st' := []) (w' := (135, μ17, iv_rho)) rfl ?_
        exact ih w16 (iv_wr (l4 + 1)) μ17 _ _ h
      · rcases iv_iteE h with ⟨c20, h⟩ | ⟨c20, h⟩
        · refine iv_Ret.ifT (t := 51) rfl (decide_eq_true c20) rfl ?_
          exact hj15 l3 μ13 _ _ h
        · refine iv_Ret.ifF (t := 44) rfl (decide_eq_false c20) rfl ?_
          refine iv_Ret.stl [45, 46, 48, 49, 50, 51] (ls' := [ivR 2, ivI l1, ivI l2, ivI (iv_or l3 (iv_shl 1 l4)), ivI l4]) (st' := []) (w' := (135, μ13, iv_rho)) rfl ?_
          exact hj15 (iv_or l3 (iv_shl 1 l4)) μ13 _ _ h
theorem T_X9_mayHave (L : Nat) (p1 : Int)  {μ μ' : ivM} {r : Int} (h : f_X9_mayHave p1 μ = some (r, μ')) : iv_Ret L 88 0 [ivR 2, ivI p1, ivU, ivU, ivU] [] (ivST μ) (some (ivI r)) (ivST μ') := by
  unfold f_X9_mayHave at h
  refine iv_Ret.stl [1, 4] (ls' := [ivR 2, ivI p1, ivU, ivU, ivU]) (st' := [ivR 9]) (w' := (135, μ, iv_rho)) rfl ?_
  refine iv_Ret.stl [5] (ls' := [ivR 2, ivI p1, ivU, ivU, ivU]) (st' := [ivI p1, ivR 9]) (w' := (135, μ, iv_rho)) rfl ?_
  obtain ⟨r1, μ2, e3, h⟩ := iv_bndE h
  refine iv_Ret.callv rfl rfl rfl (T_X1_hasThing L p1 e3) ?_
  show iv_Ret L 88 8 [ivR 2, ivI p1, ivU, ivU, ivU] [ivI r1] (ivST μ2) (some (ivI r)) (ivST μ')
  rcases iv_iteE h with ⟨c4, h⟩ | ⟨c4, h⟩
  · refine iv_Ret.ifF (t := 11) rfl (decide_eq_false (not_not_intro c4)) rfl ?_
    refine iv_Ret.stl [12] (ls' := [ivR 2, ivI p1, ivU, ivU, ivU]) (st' := [ivI (-1)]) (w' := (135, μ2, iv_rho)) rfl ?_
    obtain ⟨rfl, rfl⟩ := iv_retE h
    exact ⟨1, rfl⟩
  · refine iv_Ret.ifT (t := 13) rfl (decide_eq_true c4) rfl ?_
    refine iv_Ret.stl [14] (ls' := [ivR 2, ivI p1, ivU, ivU, ivU]) (st' := [ivR 2]) (w' := (135, μ2, iv_rho)) rfl ?_
    obtain ⟨r5, μ6, e7, h⟩ := iv_bndE h
    refine iv_Ret.callv rfl rfl rfl (T_X9_clearOnes L  e7) ?_
    show iv_Ret L 88 17 [ivR 2, ivI p1, ivU, ivU, ivU] [ivI r5] (ivST μ6) (some (ivI r)) (ivST μ')
    refine iv_Ret.stl [18, 19, 20, 21, 23] (ls' := [ivR 2, ivI p1, ivI r5, ivI 0, ivI 0]) (st' := []) (w' := (135, μ6, iv_rho)) rfl ?_
    exact T_lp_X9_mayHave_23 L p1 r5 iv_fuel 0 0 μ6 _ _ h
theorem T_X9_line (L : Nat) (p1 : Int) (p2 : Int)  {μ μ' : ivM} {r : Int} (h : f_X9_line p1 p2 μ = some (r, μ')) : iv_Ret L 89 0 [ivR 2, ivI p1, ivI p2] [] (ivST μ) (some (ivI r)) (ivST μ') := by
  unfold f_X9_line at h
  refine iv_Ret.stl [1] (ls' := [ivR 2, ivI p1, ivI p2]) (st' := [ivI p1]) (w' := (135, μ, iv_rho)) rfl ?_
  refine iv_letE (fun j1 => ∀ (μ5 : ivM) (r6 : Int) (μ7 : ivM) (z2 : ivV) (z3 : ivV) (z4 : ivV), j1 μ5 = some (r6, μ7) → iv_Ret L 89 22 [z2, z3, z4] [] (ivST μ5) (some (ivI r6)) (ivST μ7)) h (fun μ5 r6 μ7 z2 z3 z4 h => ?_) (fun j1 hj1 h => ?_)
  · refine iv_Ret.stl [24] (ls' := [z2, z3, z4]) (st' := [ivI (-2)]) (w' := (135, μ5, iv_rho)) rfl ?_
    obtain ⟨rfl, rfl⟩ := iv_retE h
    exact ⟨1, rfl⟩
  · rcases iv_iteE h with ⟨c8, h⟩ | ⟨c8, h⟩
    · refine iv_Ret.ifT (t := 22) rfl (decide_eq_true c8) rfl ?_
      exact hj1 μ _ _ (ivR 2) (ivI p1) (ivI p2) h
    · refine iv_Ret.ifF (t := 4) rfl (decide_eq_false c8) rfl ?_
      refine iv_Ret.stl [5, 7] (ls' := [ivR 2, ivI p1, ivI p2]) (st' := [ivI 8, ivI p1]) (w' := (135, μ, iv_rho)) rfl ?_
      rcases iv_iteE h with ⟨c9, h⟩ | ⟨c9, h⟩
      · refine iv_Ret.icT (t := 22) rfl (decide_eq_true c9) rfl ?_
        exact hj1 μ _ _ (ivR 2) (ivI p1) (ivI p2) h
      · refine iv_Ret.icF (t := 10) rfl (decide_eq_false c9) rfl ?_
        refine iv_Ret.stl [11, 12] (ls' := [ivR 2, ivI p1, ivI p2]) (st' := [ivI 1, ivI p2]) (w' := (135, μ, iv_rho)) rfl ?_
        rcases iv_iteE h with ⟨c10, h⟩ | ⟨c10, h⟩
        · refine iv_Ret.icT (t := 22) rfl (decide_eq_true c10) rfl ?_
          exact hj1 μ _ _ (ivR 2) (ivI p1) (ivI p2) h
        · refine iv_Ret.icF (t := 15) rfl (decide_eq_false c10) rfl ?_
          refine iv_Ret.stl [16, 19] (ls' := [ivR 2, ivI p1, ivI p2]) (st' := [ivI 256, ivI p2]) (w' := (135, μ, iv_rho)) rfl ?_
          rcases iv_iteE h with ⟨c11, h⟩ | ⟨c11, h⟩
          · refine iv_Ret.icT (t := 25) rfl (decide_eq_true c11) rfl ?_
            refine iv_Ret.stl [26, 29] (ls' := [ivR 2, ivI p1, ivI p2]) (st' := [ivR 105]) (w' := (135, μ, iv_rho)) rfl ?_
            refine iv_Ret.stl [32, 34] (ls' := [ivR 2, ivI p1, ivI p2]) (st' := [ivI 16, ivI (μ 105 0)]) (w' := (135, μ, iv_rho)) rfl ?_
            rcases iv_iteE h with ⟨c12, h⟩ | ⟨c12, h⟩
            · refine iv_Ret.icT (t := 40) rfl (decide_eq_true c12) rfl ?_
              refine iv_Ret.stl [41, 44] (ls' := [ivR 2, ivI p1, ivI p2]) (st' := [ivR 105]) (w' := (135, μ, iv_rho)) rfl ?_
              refine iv_Ret.stl [45, 46] (ls' := [ivR 2, ivI p1, ivI p2]) (st' := [ivI p2, ivI p1, ivR 105]) (w' := (135, μ, iv_rho)) rfl ?_
              obtain ⟨r13, μ14, e15, h⟩ := iv_bndE h
              refine iv_Ret.callv rfl rfl rfl (T_X6_sing L p1 p2 e15) ?_
              show iv_Ret L 89 49 [ivR 2, ivI p1, ivI p2] [] (ivST μ14) (some (ivI r)) (ivST μ')
              refine iv_Ret.stl [50, 53] (ls' := [ivR 2, ivI p1, ivI p2]) (st' := [ivR 105]) (w' := (135, μ14, iv_rho)) rfl ?_
              refine iv_Ret.stl [56] (ls' := [ivR 2, ivI p1, ivI p2]) (st' := [ivI (μ14 105 0)]) (w' := (135, μ14, iv_rho)) rfl ?_
              obtain ⟨rfl, rfl⟩ := iv_retE h
              exact ⟨1, rfl⟩
            · refine iv_Ret.icF (t := 37) rfl (decide_eq_false c12) rfl ?_
              refine iv_Ret.stl [39] (ls' := [ivR 2, ivI p1, ivI p2]) (st' := [ivI (-4)]) (w' := (135, μ, iv_rho)) rfl ?_
              obtain ⟨rfl, rfl⟩ := iv_retE h
              exact ⟨1, rfl⟩
          · refine iv_Ret.icF (t := 22) rfl (decide_eq_false c11) rfl ?_
            exact hj1 μ _ _ (ivR 2) (ivI p1) (ivI p2) h
theorem T_X9_silence (L : Nat)   {μ μ' : ivM} {r : Int} (h : f_X9_silence  μ = some (r, μ')) : iv_Ret L 90 0 [ivR 2, ivU] [] (ivST μ) (some (ivI r)) (ivST μ') := by
  unfold f_X9_silence at h
  refine iv_Ret.stl [1, 4] (ls' := [ivR 2, ivU]) (st' := [ivR 105]) (w' := (135, μ, iv_rho)) rfl ?_
  refine iv_Ret.stl [7, 8, 9, 12] (ls' := [ivR 2, ivI (μ 105 0)]) (st' := [ivR 105]) (w' := (135, μ, iv_rho)) rfl ?_
  refine iv_Ret.stl [13, 16, 17] (ls' := [ivR 2, ivI (μ 105 0)]) (st' := [ivI (μ 105 0)]) (w' := (135, (iv_upd μ 105 0 0), iv_rho)) rfl ?_
  obtain ⟨rfl, rfl⟩ := iv_retE h
  exact ⟨1, rfl⟩
theorem T_X9_isOldHouse (L : Nat) (p0 : Int)  {μ μ' : ivM} {r : Int} (h : f_X9_isOldHouse p0 μ = some (r, μ')) : iv_Ret L 100 0 [ivI p0] [] (ivST μ) (some (ivI r)) (ivST μ') := by
  unfold f_X9_isOldHouse at h
  refine iv_Ret.stl [1, 2] (ls' := [ivI p0]) (st' := [ivI 1, ivI p0]) (w' := (135, μ, iv_rho)) rfl ?_
  refine iv_letE (fun j1 => ∀ (v3 : Int) (μ4 : ivM) (r5 : Int) (μ6 : ivM) (z2 : ivV), j1 v3 μ4 = some (r5, μ6) → iv_Ret L 100 16 [z2] [ivI v3] (ivST μ4) (some (ivI r5)) (ivST μ6)) h (fun v3 μ4 r5 μ6 z2 h => ?_) (fun j1 hj1 h => ?_)
  · obtain ⟨c7, h⟩ := iv_ckE h
    obtain ⟨rfl, rfl⟩ := iv_retE h
    exact iv_Ret.zret rfl c7
  · refine iv_letE (fun j8 => ∀ (μ10 : ivM) (r11 : Int) (μ12 : ivM) (z9 : ivV), j8 μ10 = some (r11, μ12) → iv_Ret L 100 15 [z9] [] (ivST μ10) (some (ivI r11)) (ivST μ12)) h (fun μ10 r11 μ12 z9 h => ?_) (fun j8 hj8 h => ?_)
    · refine iv_Ret.stl [16] (ls' := [z9]) (st' := [ivI 0]) (w' := (135, μ10, iv_rho)) rfl ?_
      exact hj1 0 μ10 _ _ z9 h
    · rcases iv_iteE h with ⟨c13, h⟩ | ⟨c13, h⟩
      · refine iv_Ret.icT (t := 15) rfl (decide_eq_true c13) rfl ?_
        exact hj8 μ _ _ (ivI p0) h
      · refine iv_Ret.icF (t := 5) rfl (decide_eq_false c13) rfl ?_
        refine iv_Ret.stl [6, 8] (ls' := [ivI p0]) (st' := [ivI 8, ivI p0]) (w' := (135, μ, iv_rho)) rfl ?_
        rcases iv_iteE h with ⟨c14, h⟩ | ⟨c14, h⟩
        · refine iv_Ret.icT (t := 15) rfl (decide_eq_true c14) rfl ?_
          exact hj8 μ _ _ (ivI p0) h
        · refine iv_Ret.icF (t := 11) rfl (decide_eq_false c14) rfl ?_
          refine iv_Ret.stl [12, 16] (ls' := [ivI p0]) (st' := [ivI 1]) (w' := (135, μ, iv_rho)) rfl ?_
          exact hj1 1 μ _ _ (ivI p0) h
theorem T_X9_ways (L : Nat) (p1 : Int)  {μ μ' : ivM} {r : Int} (h : f_X9_ways p1 μ = some (r, μ')) : iv_Ret L 91 0 [ivR 2, ivI p1] [] (ivST μ) (some (ivI r)) (ivST μ') := by
  unfold f_X9_ways at h
  refine iv_Ret.stl [1] (ls' := [ivR 2, ivI p1]) (st' := [ivI p1]) (w' := (135, μ, iv_rho)) rfl ?_
  obtain ⟨r1, μ2, e3, h⟩ := iv_bndE h
  refine iv_Ret.calls rfl rfl (T_X9_isOldHouse L p1 e3) ?_
  show iv_Ret L 91 4 [ivR 2, ivI p1] [ivI r1] (ivST μ2) (some (ivI r)) (ivST μ')
  refine iv_letE (fun j4 => ∀ (v7 : Int) (μ8 : ivM) (r9 : Int) (μ10 : ivM) (z5 : ivV) (z6 : ivV), j4 v7 μ8 = some (r9, μ10) → iv_Ret L 91 27 [z5, z6] [ivI v7] (ivST μ8) (some (ivI r9)) (ivST μ10)) h (fun v7 μ8 r9 μ10 z5 z6 h => ?_) (fun j4 hj4 h => ?_)
  · obtain ⟨rfl, rfl⟩ := iv_retE h
    exact ⟨1, rfl⟩
  · rcases iv_iteE h with ⟨c11, h⟩ | ⟨c11, h⟩
    · refine iv_Ret.ifT (t := 25) rfl (decide_eq_true c11) rfl ?_
      refine iv_Ret.stl [27] (ls' := [ivR 2, ivI p1]) (st' := [ivI (-2)]) (w' := (135, μ2, iv_rho)) rfl ?_
      exact hj4 (-2) μ2 _ _ (ivR 2) (ivI p1) h
    · refine iv_Ret.ifF (t := 7) rfl (decide_eq_false c11) rfl ?_
      refine iv_Ret.stl [8, 11] (ls' := [ivR 2, ivI p1]) (st' := [ivR 105]) (w' := (135, μ2, iv_rho)) rfl ?_
      refine iv_Ret.stl [12, 13, 16] (ls' := [ivR 2, ivI p1]) (st' := [ivR 105, ivI p1, ivR 105]) (w' := (135, μ2, iv_rho)) rfl ?_
      refine iv_Ret.stl [19] (ls' := [ivR 2, ivI p1]) (st' := [ivI (μ2 105 0), ivI p1, ivR 105]) (w' := (135, μ2, iv_rho)) rfl ?_
      obtain ⟨r12, μ13, e14, h⟩ := iv_bndE h
      refine iv_Ret.callv rfl rfl rfl (T_X6_waysWith L p1 (μ2 105 0) e14) ?_
      show iv_Ret L 91 22 [ivR 2, ivI p1] [ivI r12] (ivST μ13) (some (ivI r)) (ivST μ')
      refine iv_Ret.stl [27] (ls' := [ivR 2, ivI p1]) (st' := [ivI r12]) (w' := (135, μ13, iv_rho)) rfl ?_
      exact hj4 r12 μ13 _ _ (ivR 2) (ivI p1) h
theorem T_X9_mayBe (L : Nat) (p1 : Int) (p2 : Int)  {μ μ' : ivM} {r : Int} (h : f_X9_mayBe p1 p2 μ = some (r, μ')) : iv_Ret L 92 0 [ivR 2, ivI p1, ivI p2] [] (ivST μ) (some (ivI r)) (ivST μ') := by
  unfold f_X9_mayBe at h
  refine iv_Ret.stl [1] (ls' := [ivR 2, ivI p1, ivI p2]) (st' := [ivI p1]) (w' := (135, μ, iv_rho)) rfl ?_
  obtain ⟨r1, μ2, e3, h⟩ := iv_bndE h
  refine iv_Ret.calls rfl rfl (T_X9_isOldHouse L p1 e3) ?_
  show iv_Ret L 92 4 [ivR 2, ivI p1, ivI p2] [ivI r1] (ivST μ2) (some (ivI r)) (ivST μ')
  refine iv_letE (fun j4 => ∀ (μ8 : ivM) (r9 : Int) (μ10 : ivM) (z5 : ivV) (z6 : ivV) (z7 : ivV), j4 μ8 = some (r9, μ10) → iv_Ret L 92 16 [z5, z6, z7] [] (ivST μ8) (some (ivI r9)) (ivST μ10)) h (fun μ8 r9 μ10 z5 z6 z7 h => ?_) (fun j4 hj4 h => ?_)
  · refine iv_Ret.stl [18] (ls' := [z5, z6, z7]) (st' := [ivI (-2)]) (w' := (135, μ8, iv_rho)) rfl ?_
    obtain ⟨rfl, rfl⟩ := iv_retE h
    exact ⟨1, rfl⟩
  · rcases iv_iteE h with ⟨c11, h⟩ | ⟨c11, h⟩
    · refine iv_Ret.ifT (t := 16) rfl (decide_eq_true c11) rfl ?_
      exact hj4 μ2 _ _ (ivR 2) (ivI p1) (ivI p2) h
    · refine iv_Ret.ifF (t := 7) rfl (decide_eq_false c11) rfl ?_
      refine iv_Ret.stl [8] (ls' := [ivR 2, ivI p1, ivI p2]) (st' := [ivI p2]) (w' := (135, μ2, iv_rho)) rfl ?_
      rcases iv_iteE h with ⟨c12, h⟩ | ⟨c12, h⟩
      · refine iv_Ret.ifT (t := 16) rfl (decide_eq_true c12) rfl ?_
        exact hj4 μ2 _ _ (ivR 2) (ivI p1) (ivI p2) h
      · refine iv_Ret.ifF (t := 11) rfl (decide_eq_false c12) rfl ?_
        refine iv_Ret.stl [12, 13] (ls' := [ivR 2, ivI p1, ivI p2]) (st' := [ivI p1, ivI p2]) (w' := (135, μ2, iv_rho)) rfl ?_
        rcases iv_iteE h with ⟨c13, h⟩ | ⟨c13, h⟩
        · refine iv_Ret.icT (t := 19) rfl (decide_eq_true c13) rfl ?_
          refine iv_Ret.stl [20, 23] (ls' := [ivR 2, ivI p1, ivI p2]) (st' := [ivR 105]) (w' := (135, μ2, iv_rho)) rfl ?_
          refine iv_Ret.stl [24, 25] (ls' := [ivR 2, ivI p1, ivI p2]) (st' := [ivI p2, ivI p1, ivR 105]) (w' := (135, μ2, iv_rho)) rfl ?_
          obtain ⟨r14, μ15, e16, h⟩ := iv_bndE h
          refine iv_Ret.callv rfl rfl rfl (T_X6_thingsOf L p1 p2 e16) ?_
          show iv_Ret L 92 28 [ivR 2, ivI p1, ivI p2] [ivI r14] (ivST μ15) (some (ivI r)) (ivST μ')
          obtain ⟨rfl, rfl⟩ := iv_retE h
          exact ⟨1, rfl⟩
        · refine iv_Ret.icF (t := 16) rfl (decide_eq_false c13) rfl ?_
          exact hj4 μ2 _ _ (ivR 2) (ivI p1) (ivI p2) h
theorem T_X9_breaks (L : Nat) (p1 : Int)  {μ μ' : ivM} {r : Int} (h : f_X9_breaks p1 μ = some (r, μ')) : iv_Ret L 93 0 [ivR 2, ivI p1] [] (ivST μ) (some (ivI r)) (ivST μ') := by
  unfold f_X9_breaks at h
  refine iv_Ret.stl [1] (ls' := [ivR 2, ivI p1]) (st' := [ivI p1]) (w' := (135, μ, iv_rho)) rfl ?_
  obtain ⟨r1, μ2, e3, h⟩ := iv_bndE h
  refine iv_Ret.calls rfl rfl (T_X9_isOldHouse L p1 e3) ?_
  show iv_Ret L 93 4 [ivR 2, ivI p1] [ivI r1] (ivST μ2) (some (ivI r)) (ivST μ')
  refine iv_letE (fun j4 => ∀ (v7 : Int) (μ8 : ivM) (r9 : Int) (μ10 : ivM) (z5 : ivV) (z6 : ivV), j4 v7 μ8 = some (r9, μ10) → iv_Ret L 93 20 [z5, z6] [ivI v7] (ivST μ8) (some (ivI r9)) (ivST μ10)) h (fun v7 μ8 r9 μ10 z5 z6 h => ?_) (fun j4 hj4 h => ?_)
  · obtain ⟨rfl, rfl⟩ := iv_retE h
    exact ⟨1, rfl⟩
  · rcases iv_iteE h with ⟨c11, h⟩ | ⟨c11, h⟩
    · refine iv_Ret.ifT (t := 18) rfl (decide_eq_true c11) rfl ?_
      refine iv_Ret.stl [20] (ls' := [ivR 2, ivI p1]) (st' := [ivI (-2)]) (w' := (135, μ2, iv_rho)) rfl ?_
      exact hj4 (-2) μ2 _ _ (ivR 2) (ivI p1) h
    · refine iv_Ret.ifF (t := 7) rfl (decide_eq_false c11) rfl ?_
      refine iv_Ret.stl [8, 11] (ls' := [ivR 2, ivI p1]) (st' := [ivR 105]) (w' := (135, μ2, iv_rho)) rfl ?_
      refine iv_Ret.stl [12] (ls' := [ivR 2, ivI p1]) (st' := [ivI p1, ivR 105]) (w' := (135, μ2, iv_rho)) rfl ?_
      obtain ⟨r12, μ13, e14, h⟩ := iv_bndE h
      refine iv_Ret.callv rfl rfl rfl (T_X6_firstBreak L p1 e14) ?_
      show iv_Ret L 93 15 [ivR 2, ivI p1] [ivI r12] (ivST μ13) (some (ivI r)) (ivST μ')
      refine iv_Ret.stl [20] (ls' := [ivR 2, ivI p1]) (st' := [ivI r12]) (w' := (135, μ13, iv_rho)) rfl ?_
      exact hj4 r12 μ13 _ _ (ivR 2) (ivI p1) h
theorem T_lp_X9_liveNamed_4 (L : Nat) (l1 : Int)    : ∀ (n : Nat) (l2 : Int) (l3 : Int) (μ : ivM) (r : Int) (μ' : ivM), lp_X9_liveNamed_4 l1 n l2 l3 μ = some (r, μ') → iv_Ret L 103 4 [ivR 2, ivI l1, ivI l2, ivI l3] [] (ivST μ) (some (ivI r)) (ivST μ') := by
  intro n
  induction n with
  | zero => intro l2 l3 μ r μ' h; unfold lp_X9_liveNamed_4 at h; cases h
  | succ n ih =>
    intro l2 l3 μ r μ' h
    unfold lp_X9_liveNamed_4 at h
    refine iv_Ret.stl [5, 7] (ls' := [ivR 2, ivI l1, ivI l2, ivI l3]) (st' := [ivI 8, ivI l3]) (w' := (135, μ, iv_rho)) rfl ?_
    rcases iv_iteE h with ⟨c1, h⟩ | ⟨c1, h⟩
    · refine iv_Ret.icT (t := 43) rfl (decide_eq_true c1) rfl ?_
      refine iv_Ret.stl [44] (ls' := [ivR 2, ivI l1, ivI l2, ivI l3]) (st' := [ivI l2]) (w' := (135, μ, iv_rho)) rfl ?_
      obtain ⟨rfl, rfl⟩ := iv_retE h
      exact ⟨1, rfl⟩
    · refine iv_Ret.icF (t := 10) rfl (decide_eq_false c1) rfl ?_
      refine iv_Ret.stl [11, 14] (ls' := [ivR 2, ivI l1, ivI l2, ivI l3]) (st' := [ivR 11]) (w' := (135, μ, iv_rho)) rfl ?_
      refine iv_Ret.stl [15] (ls' := [ivR 2, ivI l1, ivI l2, ivI l3]) (st' := [ivI l3, ivR 11]) (w' := (135, μ, iv_rho)) rfl ?_
      obtain ⟨r2, μ3, e4, h⟩ := iv_bndE h
      refine iv_Ret.callv rfl rfl rfl (T_X2_isLive L l3 e4) ?_
      show iv_Ret L 103 18 [ivR 2, ivI l1, ivI l2, ivI l3] [ivI r2] (ivST μ3) (some (ivI r)) (ivST μ')
      refine iv_letE (fun j5 => ∀ (w6 : Int) (μ7 : ivM) (r8 : Int) (μ9 : ivM), j5 w6 μ7 = some (r8, μ9) → iv_Ret L 103 37 [ivR 2, ivI l1, ivI w6, ivI l3] [] (ivST μ7) (some (ivI r8)) (ivST μ9)) h (fun w6 μ7 r8 μ9 h => ?_) (fun j5 hj5 h => ?_)
      · refine iv_Ret.stl [40, 4] (ls' := [ivR 2, ivI l1, ivI w6, ivI (iv_wr (l3 + 1))]) (st' := []) (w' := (135, μ7, iv_rho)) rfl ?_
        exact ih w6 (iv_wr (l3 + 1)) μ7 _ _ h
      · rcases iv_iteE h with ⟨c10, h⟩ | ⟨c10, h⟩
        · refine iv_Ret.ifT (t := 37) rfl (decide_eq_true c10) rfl ?_
          exact hj5 l2 μ3 _ _ h
        · refine iv_Ret.ifF (t := 21) rfl (decide_eq_false c10) rfl ?_
          refine iv_Ret.stl [22, 25] (ls' := [ivR 2, ivI l1, ivI l2, ivI l3]) (st' := [ivR 11]) (w' := (135, μ3, iv_rho)) rfl ?_
          refine iv_Ret.stl [28] (ls' := [ivR 2, ivI l1, ivI l2, ivI l3]) (st' := [ivR 12]) (w' := (135, μ3, iv_rho)) rfl ?_
          refine iv_Ret.stl [29] (ls' := [ivR 2, ivI l1, ivI l2, ivI l3]) (st' := [ivI l3, ivR 12]) (w' := (135, μ3, iv_rho)) rfl ?_
          obtain ⟨c11, h⟩ := iv_ckE h
          refine iv_Ret.iald (len := 8) rfl rfl rfl c11.1 c11.2 ?_
          show iv_Ret L 103 30 [ivR 2, ivI l1, ivI l2, ivI l3] [ivI (μ3 12 l3.toNat)] (ivST μ3) (some (ivI r)) (ivST μ')
          refine iv_Ret.stl [31] (ls' := [ivR 2, ivI l1, ivI l2, ivI l3]) (st' := [ivI l1, ivI (μ3 12 l3.toNat)]) (w' := (135, μ3, iv_rho)) rfl ?_
          rcases iv_iteE h with ⟨c12, h⟩ | ⟨c12, h⟩
          · refine iv_Ret.icF (t := 34) rfl (decide_eq_false (not_not_intro c12)) rfl ?_
            refine iv_Ret.stl [37] (ls' := [ivR 2, ivI l1, ivI (iv_wr (l2 + 1)), ivI l3]) (st' := []) (w' := (135, μ3, iv_rho)) rfl ?_
            exact hj5 (iv_wr (l2 + 1)) μ3 _ _ h
          · refine iv_Ret.icT (t := 37) rfl (decide_eq_true c12) rfl ?_
            exact hj5 l2 μ3 _ _ h
theorem T_X9_liveNamed (L : Nat) (p1 : Int)  {μ μ' : ivM} {r : Int} (h : f_X9_liveNamed p1 μ = some (r, μ')) : iv_Ret L 103 0 [ivR 2, ivI p1, ivU, ivU] [] (ivST μ) (some (ivI r)) (ivST μ') := by
  unfold f_X9_liveNamed at h
  refine iv_Ret.stl [1, 2, 3, 4] (ls' := [ivR 2, ivI p1, ivI 0, ivI 0]) (st' := []) (w' := (135, μ, iv_rho)) rfl ?_
  exact T_lp_X9_liveNamed_4 L p1 iv_fuel 0 0 μ _ _ h
theorem T_lp_X9_twins_18 (L : Nat) (l1 : Int)    : ∀ (n : Nat) (l2 : Int) (l3 : Int) (μ : ivM) (r : Int) (μ' : ivM), lp_X9_twins_18 l1 n l2 l3 μ = some (r, μ') → iv_Ret L 94 18 [ivR 2, ivI l1, ivI l2, ivI l3] [] (ivST μ) (some (ivI r)) (ivST μ') := by
  intro n
  induction n with
  | zero => intro l2 l3 μ r μ' h; unfold lp_X9_twins_18 at h; cases h
  | succ n ih =>
    intro l2 l3 μ r μ' h
    unfold lp_X9_twins_18 at h
    refine iv_Ret.stl [19, 21] (ls' := [ivR 2, ivI l1, ivI l2, ivI l3]) (st' := [ivI 8, ivI l3]) (w' := (135, μ, iv_rho)) rfl ?_
    rcases iv_iteE h with ⟨c11, h⟩ | ⟨c11, h⟩
    · refine iv_Ret.icT (t := 61) rfl (decide_eq_true c11) rfl ?_
      refine iv_Ret.stl [62] (ls' := [ivR 2, ivI l1, ivI l2, ivI l3]) (st' := [ivI l2]) (w' := (135, μ, iv_rho)) rfl ?_
      obtain ⟨rfl, rfl⟩ := iv_retE h
      exact ⟨1, rfl⟩
    · refine iv_Ret.icF (t := 24) rfl (decide_eq_false c11) rfl ?_
      refine iv_Ret.stl [25, 28] (ls' := [ivR 2, ivI l1, ivI l2, ivI l3]) (st' := [ivR 11]) (w' := (135, μ, iv_rho)) rfl ?_
      refine iv_Ret.stl [29] (ls' := [ivR 2, ivI l1, ivI l2, ivI l3]) (st' := [ivI l3, ivR 11]) (w' := (135, μ, iv_rho)) rfl ?_
      obtain ⟨r12, μ13, e14, h⟩ := iv_bndE h
      refine iv_Ret.callv rfl rfl rfl (T_X2_isLive L l3 e14) ?_
      show iv_Ret L 94 32 [ivR 2, ivI l1, ivI l2, ivI l3] [ivI r12] (ivST μ13) (some (ivI r)) (ivST μ')
      refine iv_letE (fun j15 => ∀ (w16 : Int) (μ17 : ivM) (r18 : Int) (μ19 : ivM), j15 w16 μ17 = some (r18, μ19) → iv_Ret L 94 55 [ivR 2, ivI l1, ivI w16, ivI l3] [] (ivST μ17) (some (ivI r18)) (ivST μ19)) h (fun w16 μ17 r18 μ19 h => ?_) (fun j15 hj15 h => ?_)
      · refine iv_Ret.stl [58, 18] (ls' := [ivR 2, ivI l1, ivI w16, ivI (iv_wr (l3 + 1))]) (st' := []) (w' := (135, μ17, iv_rho)) rfl ?_
        exact ih w16 (iv_wr (l3 + 1)) μ17 _ _ h
      · rcases iv_iteE h with ⟨c20, h⟩ | ⟨c20, h⟩
        · refine iv_Ret.ifT (t := 55) rfl (decide_eq_true c20) rfl ?_
          exact hj15 l2 μ13 _ _ h
        · refine iv_Ret.ifF (t := 35) rfl (decide_eq_false c20) rfl ?_
          refine iv_Ret.stl [36, 37, 38, 41] (ls' := [ivR 2, ivI l1, ivI l2, ivI l3]) (st' := [ivR 11, ivR 2, ivI l2]) (w' := (135, μ13, iv_rho)) rfl ?_
          refine iv_Ret.stl [44] (ls' := [ivR 2, ivI l1, ivI l2, ivI l3]) (st' := [ivR 12, ivR 2, ivI l2]) (w' := (135, μ13, iv_rho)) rfl ?_
          refine iv_Ret.stl [45] (ls' := [ivR 2, ivI l1, ivI l2, ivI l3]) (st' := [ivI l3, ivR 12, ivR 2, ivI l2]) (w' := (135, μ13, iv_rho)) rfl ?_
          obtain ⟨c21, h⟩ := iv_ckE h
          refine iv_Ret.iald (len := 8) rfl rfl rfl c21.1 c21.2 ?_
          show iv_Ret L 94 46 [ivR 2, ivI l1, ivI l2, ivI l3] [ivI (μ13 12 l3.toNat), ivR 2, ivI l2] (ivST μ13) (some (ivI r)) (ivST μ')
          refine iv_Ret.stl [47] (ls' := [ivR 2, ivI l1, ivI l2, ivI l3]) (st' := [ivI l1, ivI (μ13 12 l3.toNat), ivR 2, ivI l2]) (w' := (135, μ13, iv_rho)) rfl ?_
          obtain ⟨r22, μ23, e24, h⟩ := iv_bndE h
          refine iv_Ret.calls rfl rfl (T_X3_inTongue L (μ13 12 l3.toNat) l1 e24) ?_
          show iv_Ret L 94 50 [ivR 2, ivI l1, ivI l2, ivI l3] [ivI r22, ivR 2, ivI l2] (ivST μ23) (some (ivI r)) (ivST μ')
          obtain ⟨r25, μ26, e27, h⟩ := iv_bndE h
          refine iv_Ret.callv rfl rfl rfl (T_X9_liveNamed L r22 e27) ?_
          show iv_Ret L 94 53 [ivR 2, ivI l1, ivI l2, ivI l3] [ivI r25, ivI l2] (ivST μ26) (some (ivI r)) (ivST μ')
          refine iv_Ret.stl [54, 55] (ls' := [ivR 2, ivI l1, ivI (iv_wr (l2 + r25)), ivI l3]) (st' := []) (w' := (135, μ26, iv_rho)) rfl ?_
          exact hj15 (iv_wr (l2 + r25)) μ26 _ _ h
theorem T_X9_twins (L : Nat) (p1 : Int)  {μ μ' : ivM} {r : Int} (h : f_X9_twins p1 μ = some (r, μ')) : iv_Ret L 94 0 [ivR 2, ivI p1, ivU, ivU] [] (ivST μ) (some (ivI r)) (ivST μ') := by
  unfold f_X9_twins at h
  refine iv_Ret.stl [1, 2] (ls' := [ivR 2, ivI p1, ivU, ivU]) (st' := [ivI 1, ivI p1]) (w' := (135, μ, iv_rho)) rfl ?_
  refine iv_letE (fun j1 => ∀ (μ6 : ivM) (r7 : Int) (μ8 : ivM) (z2 : ivV) (z3 : ivV) (z4 : ivV) (z5 : ivV), j1 μ6 = some (r7, μ8) → iv_Ret L 94 11 [z2, z3, z4, z5] [] (ivST μ6) (some (ivI r7)) (ivST μ8)) h (fun μ6 r7 μ8 z2 z3 z4 z5 h => ?_) (fun j1 hj1 h => ?_)
  · refine iv_Ret.stl [13] (ls' := [z2, z3, z4, z5]) (st' := [ivI (-2)]) (w' := (135, μ6, iv_rho)) rfl ?_
    obtain ⟨rfl, rfl⟩ := iv_retE h
    exact ⟨1, rfl⟩
  · rcases iv_iteE h with ⟨c9, h⟩ | ⟨c9, h⟩
    · refine iv_Ret.icT (t := 11) rfl (decide_eq_true c9) rfl ?_
      exact hj1 μ _ _ (ivR 2) (ivI p1) ivU ivU h
    · refine iv_Ret.icF (t := 5) rfl (decide_eq_false c9) rfl ?_
      refine iv_Ret.stl [6, 8] (ls' := [ivR 2, ivI p1, ivU, ivU]) (st' := [ivI 6, ivI p1]) (w' := (135, μ, iv_rho)) rfl ?_
      rcases iv_iteE h with ⟨c10, h⟩ | ⟨c10, h⟩
      · refine iv_Ret.icT (t := 14) rfl (decide_eq_true c10) rfl ?_
        refine iv_Ret.stl [15, 16, 17, 18] (ls' := [ivR 2, ivI p1, ivI 0, ivI 0]) (st' := []) (w' := (135, μ, iv_rho)) rfl ?_
        exact T_lp_X9_twins_18 L p1 iv_fuel 0 0 μ _ _ h
      · refine iv_Ret.icF (t := 11) rfl (decide_eq_false c10) rfl ?_
        exact hj1 μ _ _ (ivR 2) (ivI p1) ivU ivU h
theorem T_X9_keep (L : Nat) (p1 : Int)  {μ μ' : ivM} {r : Int} (h : f_X9_keep p1 μ = some (r, μ')) : iv_Ret L 95 0 [ivR 2, ivI p1, ivU] [] (ivST μ) (some (ivI r)) (ivST μ') := by
  unfold f_X9_keep at h
  refine iv_Ret.stl [1, 2] (ls' := [ivR 2, ivI p1, ivU]) (st' := [ivI p1, ivR 2]) (w' := (135, μ, iv_rho)) rfl ?_
  obtain ⟨r1, μ2, e3, h⟩ := iv_bndE h
  refine iv_Ret.callv rfl rfl rfl (T_X9_slotAt L p1 e3) ?_
  show iv_Ret L 95 5 [ivR 2, ivI p1, ivU] [ivR (r1.toNat)] (ivST μ2) (some (ivI r)) (ivST μ')
  refine iv_Ret.stl [6, 7] (ls' := [ivR 2, ivI p1, ivR (r1.toNat)]) (st' := [ivR (r1.toNat)]) (w' := (135, μ2, iv_rho)) rfl ?_
  rcases iv_iteE h with ⟨c4, h⟩ | ⟨c4, h⟩
  · refine iv_Ret.nnF (t := 10) rfl c4 rfl ?_
    refine iv_Ret.stl [11] (ls' := [ivR 2, ivI p1, ivR (r1.toNat)]) (st' := [ivI (-1)]) (w' := (135, μ2, iv_rho)) rfl ?_
    obtain ⟨rfl, rfl⟩ := iv_retE h
    exact ⟨1, rfl⟩
  · obtain ⟨c5, h⟩ := iv_ckE h
    refine iv_Ret.nnT (t := 12) rfl c4 rfl ?_
    refine iv_Ret.stl [13, 14, 17] (ls' := [ivR 2, ivI p1, ivR (r1.toNat)]) (st' := [ivR 11, ivR (r1.toNat)]) (w' := (135, μ2, iv_rho)) rfl ?_
    obtain ⟨r6, μ7, e8, h⟩ := iv_bndE h
    refine iv_Ret.callv rfl rfl (iv_obj_sym (iv_mm_lay L c5) (iv_mm_n c5)) (T_X2_copy L (r1.toNat) 11 c5 rfl e8) ?_
    show iv_Ret L 95 20 [ivR 2, ivI p1, ivR (r1.toNat)] [] (ivST μ7) (some (ivI r)) (ivST μ')
    refine iv_Ret.stl [21, 22] (ls' := [ivR 2, ivI p1, ivR (r1.toNat)]) (st' := [ivI 1, ivR (r1.toNat)]) (w' := (135, μ7, iv_rho)) rfl ?_
    refine iv_Ret.puti rfl (iv_mm_lay L c5) (iv_mm_n c5) rfl ?_
    show iv_Ret L 95 25 [ivR 2, ivI p1, ivR (r1.toNat)] [] (ivST (iv_upd μ7 (r1.toNat) 4 1)) (some (ivI r)) (ivST μ')
    refine iv_Ret.stl [26, 29] (ls' := [ivR 2, ivI p1, ivR (r1.toNat)]) (st' := [ivR 11]) (w' := (135, (iv_upd μ7 (r1.toNat) 4 1), iv_rho)) rfl ?_
    refine iv_Ret.stl [32] (ls' := [ivR 2, ivI p1, ivR (r1.toNat)]) (st' := [ivI ((iv_upd μ7 (r1.toNat) 4 1) 11 3)]) (w' := (135, (iv_upd μ7 (r1.toNat) 4 1), iv_rho)) rfl ?_
    obtain ⟨rfl, rfl⟩ := iv_retE h
    exact ⟨1, rfl⟩
