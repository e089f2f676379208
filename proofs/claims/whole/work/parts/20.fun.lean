def lp_X0_allLifted_4   : Nat → Int → Int → ivM → Option (Int × ivM)
  | 0, _, _, _ => none
  | n + 1, l1, l2, μ =>
    if 6 ≤ l2 then
      some (l1, μ)
    else
      iv_ck (0 ≤ l2 ∧ l2 < 6) <|
      lp_X0_allLifted_4  n (iv_or l1 (μ 100 l2.toNat)) (iv_wr (l2 + 1)) μ
def f_X0_allLifted  (μ : ivM) : Option (Int × ivM) :=
  lp_X0_allLifted_4  iv_fuel 0 0 μ
def f_X9_isSet (p0 : Int) (μ : ivM) : Option (Int × ivM) :=
  iv_let (fun (v3 : Int) (μ4 : ivM) =>
    iv_ck (v3 = 0 ∨ v3 = 1) <| some (v3, μ4)) fun j1 =>
  iv_let (fun (μ10 : ivM) =>
    j1 0 μ10) fun j8 =>
  if p0 < 0 then
    j8 μ
  else
    if 256 ≤ p0 then
      j8 μ
    else
      j1 1 μ
def f_X9_has (p0 : Int) (p1 : Int) (μ : ivM) : Option (Int × ivM) :=
  iv_let (fun (v4 : Int) (μ5 : ivM) =>
    iv_ck (v4 = 0 ∨ v4 = 1) <| some (v4, μ5)) fun j1 =>
  if (iv_and (iv_shr p0 p1) 1) = 0 then
    j1 0 μ
  else
    j1 1 μ
def f_X0_canTake (p1 : Int) (p2 : Int) (p3 : Int) (μ : ivM) : Option (Int × ivM) :=
  iv_let (fun (v7 : Int) (μ8 : ivM) =>
    iv_ck (v7 = 0 ∨ v7 = 1) <| some (v7, μ8)) fun j1 =>
  iv_let (fun (μ18 : ivM) =>
    j1 0 μ18) fun j12 =>
  if (iv_wr (5 - (iv_rem (iv_wr (p1 - 1)) 6))) < 0 then
    j12 μ
  else
    if 6 ≤ (iv_wr (5 - (iv_rem (iv_wr (p1 - 1)) 6))) then
      j12 μ
    else
      iv_ck (0 ≤ (iv_wr (5 - (iv_rem (iv_wr (p1 - 1)) 6))) ∧ (iv_wr (5 - (iv_rem (iv_wr (p1 - 1)) 6))) < 6) <|
      iv_bnd (f_X9_has (μ 100 (iv_wr (5 - (iv_rem (iv_wr (p1 - 1)) 6))).toNat) p2 μ) fun r24 μ25 =>
      if r24 = 0 then
        j12 μ25
      else
        iv_ck (0 ≤ (iv_wr (5 - (iv_rem (iv_wr (p1 - 1)) 6))) ∧ (iv_wr (5 - (iv_rem (iv_wr (p1 - 1)) 6))) < 6) <|
        if (μ25 101 (iv_wr (5 - (iv_rem (iv_wr (p1 - 1)) 6))).toNat) < p3 then
          j12 μ25
        else
          j1 1 μ25
def f_X0_holdBetter (p1 : Int) (p2 : Int) (p3 : Int) (μ : ivM) : Option (Int × ivM) :=
  iv_bnd (f_X9_isSet p1 μ) fun r1 μ2 =>
  if r1 = 0 then
    some (0, μ2)
  else
    iv_ck (0 ≤ p1 ∧ p1 < 256) <|
    iv_let (fun (μ11 : ivM) =>
      some (0, μ11)) fun j6 =>
    iv_let (fun (μ15 : ivM) =>
      iv_ck (0 ≤ p1 ∧ p1 < 256) <|
      iv_ck (0 ≤ p1 ∧ p1 < 256) <|
      j6 (iv_upd (iv_upd μ15 103 p1.toNat p2) 104 p1.toNat p3)) fun j14 =>
    if (μ2 103 p1.toNat) = (-9) then
      j14 μ2
    else
      iv_ck (0 ≤ p1 ∧ p1 < 256) <|
      if p2 < (μ2 103 p1.toNat) then
        j14 μ2
      else
        iv_ck (0 ≤ p1 ∧ p1 < 256) <|
        if p2 = (μ2 103 p1.toNat) then
          iv_ck (0 ≤ p1 ∧ p1 < 256) <|
          if (μ2 104 p1.toNat) ≤ p3 then
            j6 μ2
          else
            j14 μ2
        else
          j6 μ2
def lp_X0_putLast_85 (l1 : Int) (l2 : Int) (l4 : Int) (k111 : Int → ivM → Option (Int × ivM)) : Nat → Int → ivM → Option (Int × ivM)
  | 0, _, _ => none
  | n + 1, l6, μ =>
    if 6 < l6 then
      some (0, μ)
    else
      iv_ck (0 ≤ l2 ∧ l2 < 8) <|
      iv_bnd (f_X0_canTake (iv_wr (l4 + l6)) l2 (μ 102 l2.toNat) μ) fun r34 μ35 =>
      if r34 = 0 then
        lp_X0_putLast_85 l1 l2 l4 k111 n (iv_wr (l6 + 1)) μ35
      else
        k111 l6 μ35
def f_X0_putLast (p1 : Int) (p2 : Int) (μ : ivM) : Option (Int × ivM) :=
  iv_bnd (f_X9_isSet p1 μ) fun r1 μ2 =>
  iv_let (fun (μ12 : ivM) =>
    some (0, μ12)) fun j4 =>
  if r1 = 0 then
    j4 μ2
  else
    if p2 < 0 then
      j4 μ2
    else
      if 8 ≤ p2 then
        j4 μ2
      else
        iv_bnd (f_X9_has p1 p2 μ2) fun r18 μ19 =>
        if r18 = 0 then
          j4 μ19
        else
          iv_ck (0 ≤ (iv_xor p1 (iv_shl 1 p2)) ∧ (iv_xor p1 (iv_shl 1 p2)) < 256) <|
          iv_ck (0 ≤ (iv_xor p1 (iv_shl 1 p2)) ∧ (iv_xor p1 (iv_shl 1 p2)) < 256) <|
          iv_ck (0 ≤ p2 ∧ p2 < 8) <|
          iv_let (fun (μ29 : ivM) =>
            lp_X0_putLast_85 p1 p2 (μ19 103 (iv_xor p1 (iv_shl 1 p2)).toNat) (fun (w40 : Int) (μ41 : ivM) =>
              iv_ck (0 ≤ p2 ∧ p2 < 8) <|
              iv_bnd (f_X0_holdBetter p1 (iv_wr ((μ19 103 (iv_xor p1 (iv_shl 1 p2)).toNat) + w40)) (μ41 102 p2.toNat) μ41) fun _ μ46 =>
              some (0, μ46)) iv_fuel 1 μ29) fun j25 =>
          if (μ19 103 (iv_xor p1 (iv_shl 1 p2)).toNat) ≤ 0 then
            j25 μ19
          else
            iv_bnd (f_X0_canTake (μ19 103 (iv_xor p1 (iv_shl 1 p2)).toNat) p2 (iv_wr ((μ19 104 (iv_xor p1 (iv_shl 1 p2)).toNat) + (μ19 102 p2.toNat))) μ19) fun r49 μ50 =>
            if r49 = 0 then
              j25 μ50
            else
              iv_bnd (f_X0_holdBetter p1 (μ19 103 (iv_xor p1 (iv_shl 1 p2)).toNat) (iv_wr ((μ19 104 (iv_xor p1 (iv_shl 1 p2)).toNat) + (μ19 102 p2.toNat))) μ50) fun _ μ54 =>
              some (0, μ54)
def lp_X0_packSet_10 (l1 : Int)  : Nat → Int → ivM → Option (Int × ivM)
  | 0, _, _ => none
  | n + 1, l2, μ =>
    if 8 ≤ l2 then
      some (0, μ)
    else
      iv_bnd (f_X9_has l1 l2 μ) fun r6 μ7 =>
      iv_let (fun (μ10 : ivM) =>
        lp_X0_packSet_10 l1 n (iv_wr (l2 + 1)) μ10) fun j9 =>
      if r6 = 0 then
        j9 μ7
      else
        iv_ck (0 ≤ (iv_xor l1 (iv_shl 1 l2)) ∧ (iv_xor l1 (iv_shl 1 l2)) < 256) <|
        if (μ7 103 (iv_xor l1 (iv_shl 1 l2)).toNat) = (-9) then
          j9 μ7
        else
          iv_bnd (f_X0_putLast l1 l2 μ7) fun _ μ17 =>
          j9 μ17
def f_X0_packSet (p1 : Int) (μ : ivM) : Option (Int × ivM) :=
  iv_bnd (f_X9_isSet p1 μ) fun r1 μ2 =>
  if r1 = 0 then
    some (0, μ2)
  else
    lp_X0_packSet_10 p1 iv_fuel 0 μ2
def lp_X0_pack_16 (l1 : Int) (k55 : ivM → Option (Int × ivM)) : Nat → Int → ivM → Option (Int × ivM)
  | 0, _, _ => none
  | n + 1, l2, μ =>
    if l1 < l2 then
      k55 μ
    else
      if 256 ≤ l2 then
        k55 μ
      else
        iv_let (fun (μ4 : ivM) =>
          lp_X0_pack_16 l1 k55 n (iv_wr (l2 + 1)) μ4) fun j3 =>
        if (iv_and l2 (iv_xor l1 (-1))) = 0 then
          iv_ck (0 ≤ l2 ∧ l2 < 256) <|
          iv_bnd (f_X0_packSet l2 (iv_upd μ 103 l2.toNat (-9))) fun _ μ10 =>
          j3 μ10
        else
          j3 μ
def f_X0_pack (p1 : Int) (μ : ivM) : Option (Int × ivM) :=
  lp_X0_pack_16 p1 (fun (μ15 : ivM) =>
    some (0, μ15)) iv_fuel 1 (iv_upd (iv_upd μ 103 0 0) 104 0 0)
def f_X0_timesFor (p1 : Int) (μ : ivM) : Option (Int × ivM) :=
  iv_bnd (f_X9_isSet p1 μ) fun r1 μ2 =>
  iv_let (fun (μ7 : ivM) =>
    some ((-9), μ7)) fun j4 =>
  if r1 = 0 then
    j4 μ2
  else
    iv_ck (0 ≤ p1 ∧ p1 < 256) <|
    if (μ2 103 p1.toNat) = (-9) then
      j4 μ2
    else
      iv_ck (0 ≤ p1 ∧ p1 < 256) <|
      some ((iv_div (iv_wr ((iv_wr ((μ2 103 p1.toNat) + 6)) - 1)) 6), μ2)
def lp_X0_bearsLoad_30 (l1 : Int) (l2 : Int) (k62 : Int → ivM → Option (Int × ivM)) : Nat → Int → Int → ivM → Option (Int × ivM)
  | 0, _, _, _ => none
  | n + 1, l3, l4, μ =>
    if 8 ≤ l4 then
      k62 l3 μ
    else
      iv_bnd (f_X9_has l2 l4 μ) fun r15 μ16 =>
      iv_let (fun (w19 : Int) (μ20 : ivM) =>
        lp_X0_bearsLoad_30 l1 l2 k62 n w19 (iv_wr (l4 + 1)) μ20) fun j18 =>
      if r15 = 0 then
        j18 l3 μ16
      else
        iv_ck (0 ≤ l4 ∧ l4 < 8) <|
        j18 (iv_wr (l3 + (μ16 102 l4.toNat))) μ16
def f_X0_bearsLoad (p1 : Int) (p2 : Int) (μ : ivM) : Option (Int × ivM) :=
  iv_let (fun (μ7 : ivM) =>
    some (0, μ7)) fun j1 =>
  if p1 < 0 then
    j1 μ
  else
    if 6 ≤ p1 then
      j1 μ
    else
      iv_ck (0 ≤ p1 ∧ p1 < 6) <|
      if (iv_and p2 (iv_xor (μ 100 p1.toNat) (-1))) = 0 then
        lp_X0_bearsLoad_30 p1 p2 (fun (w26 : Int) (μ28 : ivM) =>
          iv_ck (0 ≤ p1 ∧ p1 < 6) <|
          iv_let (fun (v38 : Int) (μ39 : ivM) =>
            iv_ck (v38 = 0 ∨ v38 = 1) <| some (v38, μ39)) fun j32 =>
          if (μ28 101 p1.toNat) < w26 then
            j32 0 μ28
          else
            j32 1 μ28) iv_fuel 0 0 μ
      else
        j1 μ
def lp_X0_leastLoad_7 (l1 : Int) (l2 : Int) (l3 : Int) (k75 : ivM → Option (Int × ivM)) : Nat → Int → ivM → Option (Int × ivM)
  | 0, _, _ => none
  | n + 1, l4, μ =>
    if l2 < l4 then
      k75 μ
    else
      iv_bnd (f_X9_isSet l2 μ) fun r2 μ3 =>
      if r2 = 0 then
        k75 μ3
      else
        iv_let (fun (μ7 : ivM) =>
          lp_X0_leastLoad_7 l1 l2 l3 k75 n (iv_wr (l4 + 1)) μ7) fun j6 =>
        if (iv_and l4 (iv_xor l2 (-1))) = 0 then
          iv_ck (0 ≤ (iv_xor l2 l4) ∧ (iv_xor l2 l4) < 256) <|
          if (μ3 103 (iv_xor l2 l4).toNat) = (-9) then
            j6 μ3
          else
            iv_ck (0 ≤ (iv_xor l2 l4) ∧ (iv_xor l2 l4) < 256) <|
            if l3 < (μ3 103 (iv_xor l2 l4).toNat) then
              j6 μ3
            else
              iv_bnd (f_X0_bearsLoad l1 l4 μ3) fun r15 μ16 =>
              if r15 = 0 then
                j6 μ16
              else
                some (l4, μ16)
        else
          j6 μ3
def f_X0_leastLoad (p1 : Int) (p2 : Int) (μ : ivM) : Option (Int × ivM) :=
  lp_X0_leastLoad_7 p1 p2 (iv_wr (5 - p1)) (fun (μ24 : ivM) =>
    some (0, μ24)) iv_fuel 0 μ
def lp_X0_firstWay_8 (l1 : Int) (k43 : Int → ivM → Option (Int × ivM)) : Nat → Int → Int → Int → ivM → Option (Int × ivM)
  | 0, _, _, _, _ => none
  | n + 1, l3, l4, l5, μ =>
    if l1 < l5 then
      k43 l4 μ
    else
      if 6 ≤ l5 then
        k43 l4 μ
      else
        iv_bnd (f_X0_leastLoad l5 l3 μ) fun r3 μ4 =>
        lp_X0_firstWay_8 l1 k43 n (iv_and l3 (iv_xor r3 (-1))) r3 (iv_wr (l5 + 1)) μ4
def f_X0_firstWay (p1 : Int) (p2 : Int) (μ : ivM) : Option (Int × ivM) :=
  lp_X0_firstWay_8 p1 (fun (w10 : Int) (μ12 : ivM) =>
    some (w10, μ12)) iv_fuel p2 0 0 μ
def lp_X1_settle_26   : Nat → Int → ivM → Option (Int × ivM)
  | 0, _, _ => none
  | n + 1, l2, μ =>
    if 6 ≤ l2 then
      some (0, μ)
    else
      iv_let (fun (v3 : Int) (μ4 : ivM) =>
        iv_ck (0 ≤ l2 ∧ l2 < 6) <|
        lp_X1_settle_26  n (iv_wr (l2 + 1)) (iv_upd μ4 10 l2.toNat v3)) fun j2 =>
      if (μ 9 3) ≤ l2 then
        j2 0 μ
      else
        iv_ck (0 ≤ l2 ∧ l2 < 6) <|
        j2 (μ 8 l2.toNat) μ
def f_X1_settle  (μ : ivM) : Option (Int × ivM) :=
  lp_X1_settle_26  iv_fuel 0 (iv_upd (iv_upd (iv_upd μ 9 1 (μ 5 3)) 9 2 ((iv_upd μ 9 1 (μ 5 3)) 5 4)) 9 3 ((iv_upd (iv_upd μ 9 1 (μ 5 3)) 9 2 ((iv_upd μ 9 1 (μ 5 3)) 5 4)) 5 5))
def f_X1_hasThing (p1 : Int) (μ : ivM) : Option (Int × ivM) :=
  iv_let (fun (v4 : Int) (μ5 : ivM) =>
    iv_ck (v4 = 0 ∨ v4 = 1) <| some (v4, μ5)) fun j1 =>
  iv_let (fun (μ12 : ivM) =>
    j1 0 μ12) fun j9 =>
  if p1 < 0 then
    j9 μ
  else
    if (μ 9 2) ≤ p1 then
      j9 μ
    else
      if 8 ≤ p1 then
        j9 μ
      else
        j1 1 μ
def f_X1_hasPerson (p1 : Int) (μ : ivM) : Option (Int × ivM) :=
  iv_let (fun (v4 : Int) (μ5 : ivM) =>
    iv_ck (v4 = 0 ∨ v4 = 1) <| some (v4, μ5)) fun j1 =>
  iv_let (fun (μ12 : ivM) =>
    j1 0 μ12) fun j9 =>
  if p1 < 0 then
    j9 μ
  else
    if (μ 9 3) ≤ p1 then
      j9 μ
    else
      if 6 ≤ p1 then
        j9 μ
      else
        j1 1 μ
def f_X1_areThings (p1 : Int) (μ : ivM) : Option (Int × ivM) :=
  iv_let (fun (v4 : Int) (μ5 : ivM) =>
    iv_ck (v4 = 0 ∨ v4 = 1) <| some (v4, μ5)) fun j1 =>
  iv_let (fun (μ12 : ivM) =>
    j1 0 μ12) fun j9 =>
  if p1 < 0 then
    j9 μ
  else
    if (iv_shl 1 (μ 9 2)) ≤ p1 then
      j9 μ
    else
      j1 1 μ
def f_X1_arePeople (p1 : Int) (μ : ivM) : Option (Int × ivM) :=
  iv_let (fun (v4 : Int) (μ5 : ivM) =>
    iv_ck (v4 = 0 ∨ v4 = 1) <| some (v4, μ5)) fun j1 =>
  iv_let (fun (μ12 : ivM) =>
    j1 0 μ12) fun j9 =>
  if p1 < 0 then
    j9 μ
  else
    if (iv_shl 1 (μ 9 3)) ≤ p1 then
      j9 μ
    else
      j1 1 μ
def lp_X2_begin_7   : Nat → Int → ivM → Option (Int × ivM)
  | 0, _, _ => none
  | n + 1, l2, μ =>
    if 8 ≤ l2 then
      some (0, μ)
    else
      iv_let (fun (v4 : Int) (μ5 : ivM) =>
        iv_let (fun (v9 : Int) (μ10 : ivM) =>
          iv_ck (0 ≤ l2 ∧ l2 < 8) <|
          iv_ck (0 ≤ l2 ∧ l2 < 8) <|
          iv_let (fun (v17 : Int) (μ18 : ivM) =>
            iv_ck (0 ≤ l2 ∧ l2 < 8) <|
            lp_X2_begin_7  n (iv_wr (l2 + 1)) (iv_upd μ18 14 l2.toNat v17)) fun j15 =>
          if v4 = 0 then
            j15 0 (iv_upd (iv_upd μ10 12 l2.toNat v9) 13 l2.toNat 0)
          else
            iv_ck (0 ≤ l2 ∧ l2 < 8) <|
            j15 ((iv_upd (iv_upd μ10 12 l2.toNat v9) 13 l2.toNat 0) 7 l2.toNat) (iv_upd (iv_upd μ10 12 l2.toNat v9) 13 l2.toNat 0)) fun j8 =>
        if v4 = 0 then
          j8 0 μ5
        else
          iv_ck (0 ≤ l2 ∧ l2 < 8) <|
          j8 (μ5 6 l2.toNat) μ5) fun j2 =>
      if (μ 5 4) ≤ l2 then
        j2 0 μ
      else
        j2 1 μ
def f_X2_begin  (μ : ivM) : Option (Int × ivM) :=
  lp_X2_begin_7  iv_fuel 0 (iv_upd μ 11 3 0)
def lp_X2_copy_10 (a : Nat) (b : Nat)  : Nat → Int → ivM → Option (Int × ivM)
  | 0, _, _ => none
  | n + 1, l2, μ =>
    if 8 ≤ l2 then
      some (0, μ)
    else
      iv_ck (0 ≤ l2 ∧ l2 < 8) <|
      iv_ck (0 ≤ l2 ∧ l2 < 8) <|
      iv_ck (0 ≤ l2 ∧ l2 < 8) <|
      iv_ck (0 ≤ l2 ∧ l2 < 8) <|
      iv_ck (0 ≤ l2 ∧ l2 < 8) <|
      iv_ck (0 ≤ l2 ∧ l2 < 8) <|
      lp_X2_copy_10 a b n (iv_wr (l2 + 1)) (iv_upd (iv_upd (iv_upd μ (a + 1) l2.toNat (μ (b + 1) l2.toNat)) (a + 2) l2.toNat ((iv_upd μ (a + 1) l2.toNat (μ (b + 1) l2.toNat)) (b + 2) l2.toNat)) (a + 3) l2.toNat ((iv_upd (iv_upd μ (a + 1) l2.toNat (μ (b + 1) l2.toNat)) (a + 2) l2.toNat ((iv_upd μ (a + 1) l2.toNat (μ (b + 1) l2.toNat)) (b + 2) l2.toNat)) (b + 3) l2.toNat))
def f_X2_copy (a : Nat) (b : Nat) (μ : ivM) : Option (Int × ivM) :=
  lp_X2_copy_10 a b iv_fuel 0 (iv_upd μ a 3 (μ b 3))
def f_X2_isLive (p1 : Int) (μ : ivM) : Option (Int × ivM) :=
  iv_let (fun (v4 : Int) (μ5 : ivM) =>
    iv_ck (v4 = 0 ∨ v4 = 1) <| some (v4, μ5)) fun j1 =>
  iv_let (fun (μ12 : ivM) =>
    j1 0 μ12) fun j9 =>
  if p1 < 0 then
    j9 μ
  else
    if 8 ≤ p1 then
      j9 μ
    else
      iv_ck (0 ≤ p1 ∧ p1 < 8) <|
      if (μ 12 p1.toNat) = 0 then
        j9 μ
      else
        iv_ck (0 ≤ p1 ∧ p1 < 8) <|
        if 9 < (iv_wr ((μ 11 3) - (μ 13 p1.toNat))) then
          j9 μ
        else
          j1 1 μ
def lp_X2_liveOnes_4   : Nat → Int → Int → ivM → Option (Int × ivM)
  | 0, _, _, _ => none
  | n + 1, l1, l2, μ =>
    if 8 ≤ l2 then
      some (l1, μ)
    else
      iv_bnd (f_X2_isLive l2 μ) fun r2 μ3 =>
      iv_let (fun (w6 : Int) (μ7 : ivM) =>
        lp_X2_liveOnes_4  n w6 (iv_wr (l2 + 1)) μ7) fun j5 =>
      if r2 = 0 then
        j5 l1 μ3
      else
        j5 (iv_or l1 (iv_shl 1 l2)) μ3
def f_X2_liveOnes  (μ : ivM) : Option (Int × ivM) :=
  lp_X2_liveOnes_4  iv_fuel 0 0 μ
def lp_X2_pass_27 (l3 : Int)  : Nat → Int → ivM → Option (Int × ivM)
  | 0, _, _ => none
  | n + 1, l4, μ =>
    if 8 ≤ l4 then
      some (l3, μ)
    else
      iv_bnd (f_X9_has l3 l4 μ) fun r8 μ9 =>
      iv_let (fun (μ14 : ivM) =>
        lp_X2_pass_27 l3 n (iv_wr (l4 + 1)) μ14) fun j11 =>
      if r8 = 0 then
        j11 μ9
      else
        iv_ck (0 ≤ l4 ∧ l4 < 8) <|
        j11 (iv_upd μ9 14 l4.toNat 0)
def f_X2_pass (p1 : Int) (μ : ivM) : Option (Int × ivM) :=
  iv_bnd (f_X2_liveOnes μ) fun r1 μ2 =>
  iv_bnd (f_X2_liveOnes (iv_upd μ2 11 3 (iv_wr ((μ2 11 3) + p1)))) fun r4 μ5 =>
  lp_X2_pass_27 (iv_and r1 (iv_xor r4 (-1))) iv_fuel 0 μ5
def lp_X2_sayingsFor_5 (l1 : Int) (l2 : Int)  : Nat → Int → Int → ivM → Option (Int × ivM)
  | 0, _, _, _ => none
  | n + 1, l3, l4, μ =>
    if 8 ≤ l4 then
      some (l3, μ)
    else
      iv_ck (0 ≤ l4 ∧ l4 < 8) <|
      iv_bnd (f_X9_has l1 l4 μ) fun r3 μ4 =>
      iv_let (fun (w7 : Int) (μ9 : ivM) =>
        lp_X2_sayingsFor_5 l1 l2 n w7 (iv_wr (l4 + 1)) μ9) fun j6 =>
      if r3 = 0 then
        j6 l3 μ4
      else
        if (iv_wr ((iv_wr ((iv_wr ((μ 11 3) + l2)) - (μ 13 l4.toNat))) - 9)) ≤ 0 then
          j6 l3 μ4
        else
          j6 (iv_wr (l3 + (iv_div (iv_wr ((iv_wr ((iv_wr ((iv_wr ((iv_wr ((μ 11 3) + l2)) - (μ 13 l4.toNat))) - 9)) + 9)) - 1)) 9))) μ4
def f_X2_sayingsFor (p1 : Int) (p2 : Int) (μ : ivM) : Option (Int × ivM) :=
  lp_X2_sayingsFor_5 p1 p2 iv_fuel 0 0 μ
def f_X3_soundAt (p0 : Int) (p1 : Int) (μ : ivM) : Option (Int × ivM) :=
  iv_let (fun (μ5 : ivM) =>
    some ((-9), μ5)) fun j1 =>
  if p1 < 0 then
    j1 μ
  else
    if p1 < 5 then
      iv_let (fun (v14 : Int) (μ15 : ivM) =>
        some (v14, μ15)) fun j10 =>
      if (iv_and (iv_shr p0 (iv_wr (3 * p1))) 7) = 0 then
        j10 (-9) μ
      else
        j10 (iv_wr ((iv_and (iv_shr p0 (iv_wr (3 * p1))) 7) - 1)) μ
    else
      j1 μ
def f_X3_withSound (p0 : Int) (p1 : Int) (p2 : Int) (μ : ivM) : Option (Int × ivM) :=
  some ((iv_or p0 (iv_shl (iv_wr (p2 + 1)) (iv_wr (3 * p1)))), μ)
def lp_X3_lengthOf_2 (l0 : Int) (k21 : Int → ivM → Option (Int × ivM)) : Nat → Int → ivM → Option (Int × ivM)
  | 0, _, _ => none
  | n + 1, l1, μ =>
    if 5 ≤ l1 then
      k21 l1 μ
    else
      if (iv_shr l0 (iv_wr (3 * l1))) = 0 then
        k21 l1 μ
      else
        lp_X3_lengthOf_2 l0 k21 n (iv_wr (l1 + 1)) μ
def f_X3_lengthOf (p0 : Int) (μ : ivM) : Option (Int × ivM) :=
  lp_X3_lengthOf_2 p0 (fun (w4 : Int) (μ5 : ivM) =>
    some (w4, μ5)) iv_fuel 0 μ
def lp_X3_inTongue_10 (l0 : Int) (l1 : Int) (l2 : Int)  : Nat → Int → Int → ivM → Option (Int × ivM)
  | 0, _, _, _ => none
  | n + 1, l3, l4, μ =>
    if l2 ≤ l4 then
      some (l3, μ)
    else
      iv_bnd (f_X3_soundAt l0 l4 μ) fun r5 μ6 =>
      iv_bnd (f_X3_withSound l3 l4 (iv_rem (iv_wr (r5 + l1)) 6) μ6) fun r8 μ9 =>
      lp_X3_inTongue_10 l0 l1 l2 n r8 (iv_wr (l4 + 1)) μ9
def f_X3_inTongue (p0 : Int) (p1 : Int) (μ : ivM) : Option (Int × ivM) :=
  iv_bnd (f_X3_lengthOf p0 μ) fun r1 μ2 =>
  lp_X3_inTongue_10 p0 p1 r1 iv_fuel 0 0 μ2
def lp_X4_lay_15 (a : Nat)  : Nat → Int → ivM → Option (Int × ivM)
  | 0, _, _ => none
  | n + 1, l2, μ =>
    if 5 < l2 then
      some (0, μ)
    else
      iv_ck (0 ≤ l2 ∧ l2 < 6) <|
      lp_X4_lay_15 a n (iv_wr (l2 + 1)) (iv_upd μ (a + 2 + 0) l2.toNat l2)
def f_X4_lay (a : Nat) (p1 : Int) (μ : ivM) : Option (Int × ivM) :=
  iv_bnd (f_X3_lengthOf p1 (iv_upd μ a 1 p1)) fun r1 μ2 =>
  lp_X4_lay_15 a iv_fuel 0 (iv_upd μ2 a 2 r1)
def f_J9_min_7cf53 (p0 : Int) (p1 : Int) (μ : ivM) : Option (Int × ivM) :=
  iv_let (fun (v4 : Int) (μ5 : ivM) =>
    some (v4, μ5)) fun j1 =>
  if p1 < p0 then
    j1 p1 μ
  else
    j1 p0 μ
def lp_X4_step_39 (a : Nat) (l2 : Int) (q3 : Nat) (q4 : Nat) (k115 : ivM → Option (Int × ivM)) : Nat → Int → ivM → Option (Int × ivM)
  | 0, _, _ => none
  | n + 1, l5, μ =>
    if (μ a 2) < l5 then
      k115 μ
    else
      if 5 < l5 then
        k115 μ
      else
        iv_ck (0 ≤ (iv_wr (l5 - 1)) ∧ (iv_wr (l5 - 1)) < 6) <|
        iv_bnd (f_X3_soundAt (μ a 1) (iv_wr (l5 - 1)) μ) fun r19 μ20 =>
        iv_let (fun (v25 : Int) (μ26 : ivM) =>
          iv_ck (0 ≤ l5 ∧ l5 < 6) <|
          iv_ck (0 ≤ (iv_wr (l5 - 1)) ∧ (iv_wr (l5 - 1)) < 6) <|
          iv_bnd (f_J9_min_7cf53 (μ26 (a + 2 + q3) l5.toNat) (μ26 (a + 2 + q4) (iv_wr (l5 - 1)).toNat) μ26) fun r31 μ32 =>
          iv_bnd (f_J9_min_7cf53 (iv_wr ((μ (a + 2 + q3) (iv_wr (l5 - 1)).toNat) + v25)) (iv_wr (r31 + 1)) μ32) fun r34 μ35 =>
          iv_ck (0 ≤ l5 ∧ l5 < 6) <|
          lp_X4_step_39 a l2 q3 q4 k115 n (iv_wr (l5 + 1)) (iv_upd μ35 (a + 2 + q4) l5.toNat r34)) fun j22 =>
        if r19 = l2 then
          j22 0 μ20
        else
          j22 1 μ20
def f_X4_step (a : Nat) (p1 : Int) (p2 : Int) (μ : ivM) : Option (Int × ivM) :=
  iv_let (fun (μ9 : ivM) =>
    some (0, μ9)) fun j1 =>
  if p1 < 0 then
    j1 μ
  else
    if p1 < 5 then
      iv_ck (0 ≤ p1 ∧ p1 < 6) <|
      iv_ck (0 ≤ (iv_wr (p1 + 1)) ∧ (iv_wr (p1 + 1)) < 6) <|
      lp_X4_step_39 a p2 (p1.toNat) ((iv_wr (p1 + 1)).toNat) (fun (μ46 : ivM) =>
        some (0, μ46)) iv_fuel 1 (iv_upd μ (a + 2 + (iv_wr (p1 + 1)).toNat) 0 (iv_wr ((μ (a + 2 + p1.toNat) 0) + 1)))
    else
      j1 μ
def lp_X4_between_13 (l1 : Int) (l3 : Int) (k37 : ivM → Option (Int × ivM)) : Nat → Int → ivM → Option (Int × ivM)
  | 0, _, _ => none
  | n + 1, l4, μ =>
    if l3 ≤ l4 then
      k37 μ
    else
      iv_bnd (f_X3_soundAt l1 l4 μ) fun r8 μ9 =>
      iv_bnd (f_X4_step 24 l4 r8 μ9) fun _ μ12 =>
      lp_X4_between_13 l1 l3 k37 n (iv_wr (l4 + 1)) μ12
def f_X4_between (p1 : Int) (p2 : Int) (μ : ivM) : Option (Int × ivM) :=
  iv_bnd (f_X4_lay 24 p2 μ) fun _ μ2 =>
  iv_bnd (f_X3_lengthOf p1 μ2) fun r4 μ5 =>
  lp_X4_between_13 p1 r4 (fun (μ17 : ivM) =>
    iv_let (fun (v26 : Int) (μ27 : ivM) =>
      some (v26, μ27)) fun j20 =>
    iv_let (fun (μ36 : ivM) =>
      j20 0 μ36) fun j30 =>
    if 5 < r4 then
      j30 μ17
    else
      if 5 < (μ17 24 2) then
        j30 μ17
      else
        iv_ck (0 ≤ r4 ∧ r4 < 6) <|
        iv_ck (0 ≤ (μ17 24 2) ∧ (μ17 24 2) < 6) <|
        j20 (μ17 (24 + 2 + r4.toNat) (μ17 24 2).toNat) μ17) iv_fuel 0 μ5
def f_J9_max_7cf53 (p0 : Int) (p1 : Int) (μ : ivM) : Option (Int × ivM) :=
  iv_let (fun (v4 : Int) (μ5 : ivM) =>
    some (v4, μ5)) fun j1 =>
  if p0 < p1 then
    j1 p1 μ
  else
    j1 p0 μ
def lp_X4_atMost_35 (a : Nat) (l2 : Int) (q3 : Nat) (k79 : Int → ivM → Option (Int × ivM)) : Nat → Int → Int → ivM → Option (Int × ivM)
  | 0, _, _, _ => none
  | n + 1, l4, l5, μ =>
    if (μ a 2) < l5 then
      k79 l4 μ
    else
      if 5 < l5 then
        k79 l4 μ
      else
        iv_ck (0 ≤ l5 ∧ l5 < 6) <|
        iv_bnd (f_J9_max_7cf53 l2 (iv_wr ((μ a 2) - l5)) μ) fun r20 μ21 =>
        iv_bnd (f_J9_min_7cf53 l4 (iv_wr ((μ (a + 2 + q3) l5.toNat) + r20)) μ21) fun r23 μ24 =>
        lp_X4_atMost_35 a l2 q3 k79 n r23 (iv_wr (l5 + 1)) μ24
def f_X4_atMost (a : Nat) (p1 : Int) (p2 : Int) (μ : ivM) : Option (Int × ivM) :=
  iv_let (fun (μ8 : ivM) =>
    some (0, μ8)) fun j1 =>
  if p1 < 0 then
    j1 μ
  else
    if p1 ≤ 5 then
      iv_ck (0 ≤ p1 ∧ p1 < 6) <|
      iv_bnd (f_J9_max_7cf53 p2 (μ a 2) μ) fun r14 μ15 =>
      lp_X4_atMost_35 a p2 (p1.toNat) (fun (w30 : Int) (μ32 : ivM) =>
        some (w30, μ32)) iv_fuel (iv_wr ((μ (a + 2 + p1.toNat) 0) + r14)) 1 μ15
    else
      j1 μ
def f_X5_begin  (μ : ivM) : Option (Int × ivM) :=
  some (0, (iv_upd μ 32 2 0))
def f_X5_rulerAt (p1 : Int) (μ : ivM) : Option (Int × ivM) :=
  iv_let (fun (v4 : Nat) (μ5 : ivM) =>
    some (((v4 : Nat) : Int), μ5)) fun j1 =>
  iv_let (fun (μ11 : ivM) =>
    j1 0 μ11) fun j8 =>
  if p1 < 0 then
    j8 μ
  else
    if 8 ≤ p1 then
      j8 μ
    else
      iv_ck (0 ≤ p1 ∧ p1 < 8) <|
      j1 (35 + 8 * p1.toNat) μ
def f_X5_avoid (p1 : Int) (μ : ivM) : Option (Int × ivM) :=
  iv_bnd (f_X5_rulerAt (μ 32 2) μ) fun r1 μ2 =>
  iv_let (fun (μ8 : ivM) =>
    some (0, μ8)) fun j4 =>
  if r1.toNat = 0 then
    j4 μ2
  else iv_ck (iv_isRul r1.toNat = true) <|
    iv_bnd (f_X4_lay (r1.toNat) p1 μ2) fun _ μ14 =>
    j4 (iv_upd μ14 32 2 (iv_wr ((μ14 32 2) + 1)))
def lp_X5_isHopeless_2 (l1 : Int) (l2 : Int)  : Nat → Int → ivM → Option (Int × ivM)
  | 0, _, _ => none
  | n + 1, l3, μ =>
    if (μ 32 2) ≤ l3 then
      some (0, μ)
    else
      iv_bnd (f_X5_rulerAt l3 μ) fun r2 μ3 =>
      iv_let (fun (μ7 : ivM) =>
        lp_X5_isHopeless_2 l1 l2 n (iv_wr (l3 + 1)) μ7) fun j5 =>
      if r2.toNat = 0 then
        j5 μ3
      else iv_ck (iv_isRul r2.toNat = true) <|
        iv_bnd (f_X4_atMost (r2.toNat) 0 l1 μ3) fun r12 μ13 =>
        if l2 < r12 then
          j5 μ13
        else
          some (1, μ13)
def f_X5_isHopeless (p1 : Int) (p2 : Int) (μ : ivM) : Option (Int × ivM) :=
  lp_X5_isHopeless_2 p1 p2 iv_fuel 0 μ
def lp_X5_isTooNear_3 (l1 : Int) (l2 : Int) (l3 : Int) (l4 : Int)  : Nat → Int → ivM → Option (Int × ivM)
  | 0, _, _ => none
  | n + 1, l5, μ =>
    if (μ 32 2) ≤ l5 then
      some (0, μ)
    else
      iv_bnd (f_X5_rulerAt l5 μ) fun r2 μ3 =>
      iv_let (fun (μ7 : ivM) =>
        lp_X5_isTooNear_3 l1 l2 l3 l4 n (iv_wr (l5 + 1)) μ7) fun j5 =>
      if r2.toNat = 0 then
        j5 μ3
      else iv_ck (iv_isRul r2.toNat = true) <|
        iv_bnd (f_X4_step (r2.toNat) l1 l2 μ3) fun _ μ13 =>
        iv_bnd (f_X4_atMost (r2.toNat) (iv_wr (l1 + 1)) (iv_wr ((iv_wr (l3 - l1)) - 1)) μ13) fun r15 μ16 =>
        if l4 < r15 then
          j5 μ16
        else
          some (1, μ16)
def f_X5_isTooNear (p1 : Int) (p2 : Int) (p3 : Int) (p4 : Int) (μ : ivM) : Option (Int × ivM) :=
  lp_X5_isTooNear_3 p1 p2 p3 p4 iv_fuel 0 μ
def lp_X5_find_23 (l1 : Int) (l2 : Int) (k130 : Int → ivM → Option (Int × ivM)) : Nat → Int → Int → ivM → Option (Int × ivM)
  | 0, _, _, _ => none
  | n + 1, l3, l4, μ =>
    if 1000000 ≤ l4 then
      k130 l3 μ
    else
      if l3 < 0 then
        k130 l3 μ
      else
        if l1 ≤ l3 then
          k130 l3 μ
        else
          if 5 ≤ l3 then
            k130 l3 μ
          else
            iv_ck (0 ≤ l3 ∧ l3 < 5) <|
            iv_let (fun (w11 : Int) (μ12 : ivM) =>
              lp_X5_find_23 l1 l2 k130 n w11 (iv_wr (l4 + 1)) μ12) fun j10 =>
            if (μ 33 l3.toNat) < 6 then
              iv_ck (0 ≤ l3 ∧ l3 < 5) <|
              iv_bnd (f_X5_isTooNear l3 (μ 33 l3.toNat) l1 l2 μ) fun r17 μ18 =>
              if r17 = 0 then
                if l1 ≤ (iv_wr (l3 + 1)) then
                  j10 (iv_wr (l3 + 1)) μ18
                else
                  if 5 ≤ (iv_wr (l3 + 1)) then
                    j10 (iv_wr (l3 + 1)) μ18
                  else
                    iv_ck (0 ≤ (iv_wr (l3 + 1)) ∧ (iv_wr (l3 + 1)) < 5) <|
                    j10 (iv_wr (l3 + 1)) (iv_upd μ18 33 (iv_wr (l3 + 1)).toNat 0)
              else
                iv_ck (0 ≤ l3 ∧ l3 < 5) <|
                iv_ck (0 ≤ l3 ∧ l3 < 5) <|
                j10 l3 (iv_upd μ18 33 l3.toNat (iv_wr ((μ18 33 l3.toNat) + 1)))
            else
              if (iv_wr (l3 + (-1))) < 0 then
                j10 (iv_wr (l3 + (-1))) μ
              else
                iv_ck (0 ≤ (iv_wr (l3 + (-1))) ∧ (iv_wr (l3 + (-1))) < 5) <|
                iv_ck (0 ≤ (iv_wr (l3 + (-1))) ∧ (iv_wr (l3 + (-1))) < 5) <|
                j10 (iv_wr (l3 + (-1))) (iv_upd μ 33 (iv_wr (l3 + (-1))).toNat (iv_wr ((μ 33 (iv_wr (l3 + (-1))).toNat) + 1)))
def f_X5_find (p1 : Int) (p2 : Int) (μ : ivM) : Option (Int × ivM) :=
  iv_bnd (f_X5_isHopeless p1 p2 μ) fun r1 μ2 =>
  if r1 = 0 then
    lp_X5_find_23 p1 p2 (fun (w31 : Int) (μ33 : ivM) =>
      iv_let (fun (v42 : Int) (μ43 : ivM) =>
        iv_ck (v42 = 0 ∨ v42 = 1) <| some (v42, μ43)) fun j36 =>
      if w31 = p1 then
        j36 1 μ33
      else
        j36 0 μ33) iv_fuel 0 0 (iv_upd μ2 33 0 0)
  else
    some (0, μ2)
def lp_X5_found_4 (l1 : Int) (k32 : Int → ivM → Option (Int × ivM)) : Nat → Int → Int → ivM → Option (Int × ivM)
  | 0, _, _, _ => none
  | n + 1, l2, l3, μ =>
    if l1 ≤ l3 then
      k32 l2 μ
    else
      if 5 ≤ l3 then
        k32 l2 μ
      else
        iv_ck (0 ≤ l3 ∧ l3 < 5) <|
        iv_bnd (f_X3_withSound l2 l3 (μ 33 l3.toNat) μ) fun r4 μ5 =>
        lp_X5_found_4 l1 k32 n r4 (iv_wr (l3 + 1)) μ5
def f_X5_found (p1 : Int) (μ : ivM) : Option (Int × ivM) :=
  lp_X5_found_4 p1 (fun (w9 : Int) (μ11 : ivM) =>
    some (w9, μ11)) iv_fuel 0 0 μ
def lp_X5_shortest_2 (l1 : Int) (k16 : Int → ivM → Option (Int × ivM)) : Nat → Int → ivM → Option (Int × ivM)
  | 0, _, _ => none
  | n + 1, l2, μ =>
    if 5 < l2 then
      some (0, μ)
    else
      iv_bnd (f_X5_find l2 l1 μ) fun r2 μ3 =>
      if r2 = 0 then
        lp_X5_shortest_2 l1 k16 n (iv_wr (l2 + 1)) μ3
      else
        k16 l2 μ3
def f_X5_shortest (p1 : Int) (μ : ivM) : Option (Int × ivM) :=
  lp_X5_shortest_2 p1 (fun (w7 : Int) (μ8 : ivM) =>
    iv_bnd (f_X5_found w7 μ8) fun r11 μ12 =>
    some (r11, μ12)) iv_fuel 1 μ
def f_X6_sing (p1 : Int) (p2 : Int) (μ : ivM) : Option (Int × ivM) :=
  iv_let (fun (μ5 : ivM) =>
    some (0, μ5)) fun j1 =>
  if (μ 105 0) < 0 then
    j1 μ
  else
    if 16 ≤ (μ 105 0) then
      j1 μ
    else
      iv_ck (0 ≤ (μ 105 0) ∧ (μ 105 0) < 16) <|
      iv_ck (0 ≤ ((iv_upd μ 106 (μ 105 0).toNat p1) 105 0) ∧ ((iv_upd μ 106 (μ 105 0).toNat p1) 105 0) < 16) <|
      j1 (iv_upd (iv_upd (iv_upd μ 106 (μ 105 0).toNat p1) 107 ((iv_upd μ 106 (μ 105 0).toNat p1) 105 0).toNat p2) 105 0 (iv_wr (((iv_upd (iv_upd μ 106 (μ 105 0).toNat p1) 107 ((iv_upd μ 106 (μ 105 0).toNat p1) 105 0).toNat p2) 105 0) + 1)))
def lp_X6_hear_2 (l1 : Int) (l2 : Int) (k30 : ivM → Option (Int × ivM)) : Nat → Int → ivM → Option (Int × ivM)
  | 0, _, _ => none
  | n + 1, l3, μ =>
    if l1 ≤ l3 then
      k30 μ
    else
      if 8 ≤ l3 then
        k30 μ
      else
        iv_ck (0 ≤ l3 ∧ l3 < 8) <|
        lp_X6_hear_2 l1 l2 k30 n (iv_wr (l3 + 1)) (iv_upd μ 108 l3.toNat (iv_wr ((iv_shl 1 l1) - 1)))
def lp_X6_hear_32 (l1 : Int) (l2 : Int) (k91 : ivM → Option (Int × ivM)) : Nat → Int → ivM → Option (Int × ivM)
  | 0, _, _ => none
  | n + 1, l3, μ =>
    if l2 ≤ l3 then
      k91 μ
    else
      if 16 ≤ l3 then
        k91 μ
      else
        iv_ck (0 ≤ l3 ∧ l3 < 16) <|
        iv_let (fun (μ14 : ivM) =>
          lp_X6_hear_32 l1 l2 k91 n (iv_wr (l3 + 1)) μ14) fun j12 =>
        if (μ 106 l3.toNat) < 0 then
          j12 μ
        else
          if l1 ≤ (μ 106 l3.toNat) then
            j12 μ
          else
            if 8 ≤ (μ 106 l3.toNat) then
              j12 μ
            else
              iv_ck (0 ≤ (μ 106 l3.toNat) ∧ (μ 106 l3.toNat) < 8) <|
              iv_ck (0 ≤ l3 ∧ l3 < 16) <|
              iv_ck (0 ≤ (μ 106 l3.toNat) ∧ (μ 106 l3.toNat) < 8) <|
              j12 (iv_upd μ 108 (μ 106 l3.toNat).toNat (iv_and (μ 108 (μ 106 l3.toNat).toNat) (μ 107 l3.toNat)))
def f_X6_hear (p1 : Int) (p2 : Int) (μ : ivM) : Option (Int × ivM) :=
  lp_X6_hear_2 p1 p2 (fun (μ6 : ivM) =>
    lp_X6_hear_32 p1 p2 (fun (μ28 : ivM) =>
      some (0, μ28)) iv_fuel 0 μ6) iv_fuel 0 μ
def f_J6_bitCount_0f7a4 (p0 : Int) (μ : ivM) : Option (Int × ivM) :=
  some ((iv_and (iv_wr ((iv_wr ((iv_and (iv_wr ((iv_wr ((iv_and (iv_wr (p0 - (iv_and (iv_ushr p0 1) 1431655765))) 858993459) + (iv_and (iv_ushr (iv_wr (p0 - (iv_and (iv_ushr p0 1) 1431655765))) 2) 858993459))) + (iv_ushr (iv_wr ((iv_and (iv_wr (p0 - (iv_and (iv_ushr p0 1) 1431655765))) 858993459) + (iv_and (iv_ushr (iv_wr (p0 - (iv_and (iv_ushr p0 1) 1431655765))) 2) 858993459))) 4))) 252645135) + (iv_ushr (iv_and (iv_wr ((iv_wr ((iv_and (iv_wr (p0 - (iv_and (iv_ushr p0 1) 1431655765))) 858993459) + (iv_and (iv_ushr (iv_wr (p0 - (iv_and (iv_ushr p0 1) 1431655765))) 2) 858993459))) + (iv_ushr (iv_wr ((iv_and (iv_wr (p0 - (iv_and (iv_ushr p0 1) 1431655765))) 858993459) + (iv_and (iv_ushr (iv_wr (p0 - (iv_and (iv_ushr p0 1) 1431655765))) 2) 858993459))) 4))) 252645135) 8))) + (iv_ushr (iv_wr ((iv_and (iv_wr ((iv_wr ((iv_and (iv_wr (p0 - (iv_and (iv_ushr p0 1) 1431655765))) 858993459) + (iv_and (iv_ushr (iv_wr (p0 - (iv_and (iv_ushr p0 1) 1431655765))) 2) 858993459))) + (iv_ushr (iv_wr ((iv_and (iv_wr (p0 - (iv_and (iv_ushr p0 1) 1431655765))) 858993459) + (iv_and (iv_ushr (iv_wr (p0 - (iv_and (iv_ushr p0 1) 1431655765))) 2) 858993459))) 4))) 252645135) + (iv_ushr (iv_and (iv_wr ((iv_wr ((iv_and (iv_wr (p0 - (iv_and (iv_ushr p0 1) 1431655765))) 858993459) + (iv_and (iv_ushr (iv_wr (p0 - (iv_and (iv_ushr p0 1) 1431655765))) 2) 858993459))) + (iv_ushr (iv_wr ((iv_and (iv_wr (p0 - (iv_and (iv_ushr p0 1) 1431655765))) 858993459) + (iv_and (iv_ushr (iv_wr (p0 - (iv_and (iv_ushr p0 1) 1431655765))) 2) 858993459))) 4))) 252645135) 8))) 16))) 63), μ)
def lp_X6_giveNext_22 (l1 : Int) (l2 : Int) (l3 : Int) (k84 : ivM → Option (Int × ivM)) : Nat → Int → ivM → Option (Int × ivM)
  | 0, _, _ => none
  | n + 1, l4, μ =>
    if l1 ≤ l4 then
      k84 μ
    else
      if 8 ≤ l4 then
        k84 μ
      else
        iv_ck (0 ≤ l3 ∧ l3 < 8) <|
        iv_bnd (f_X9_has (μ 108 l3.toNat) l4 μ) fun r21 μ22 =>
        iv_let (fun (μ25 : ivM) =>
          lp_X6_giveNext_22 l1 l2 l3 k84 n (iv_wr (l4 + 1)) μ25) fun j24 =>
        if r21 = 0 then
          j24 μ22
        else
          iv_bnd (f_X9_has l2 l4 μ22) fun r29 μ30 =>
          if r29 = 0 then
            iv_ck (0 ≤ (iv_or l2 (iv_shl 1 l4)) ∧ (iv_or l2 (iv_shl 1 l4)) < 256) <|
            iv_ck (0 ≤ l2 ∧ l2 < 256) <|
            iv_ck (0 ≤ (iv_or l2 (iv_shl 1 l4)) ∧ (iv_or l2 (iv_shl 1 l4)) < 256) <|
            j24 (iv_upd μ30 109 (iv_or l2 (iv_shl 1 l4)).toNat (iv_wr ((μ30 109 (iv_or l2 (iv_shl 1 l4)).toNat) + (μ30 109 l2.toNat))))
          else
            j24 μ30
def f_X6_giveNext (p1 : Int) (p2 : Int) (μ : ivM) : Option (Int × ivM) :=
  iv_bnd (f_J6_bitCount_0f7a4 p2 μ) fun r1 μ2 =>
  iv_bnd (f_X9_isSet p2 μ2) fun r4 μ5 =>
  iv_let (fun (μ13 : ivM) =>
    some (0, μ13)) fun j7 =>
  if r4 = 0 then
    j7 μ5
  else
    if r1 < 8 then
      lp_X6_giveNext_22 p1 p2 r1 (fun (μ41 : ivM) =>
        some (0, μ41)) iv_fuel 0 μ5
    else
      j7 μ5
def lp_X6_fit_21 (l1 : Int) (l2 : Int) (k39 : ivM → Option (Int × ivM)) : Nat → Int → ivM → Option (Int × ivM)
  | 0, _, _ => none
  | n + 1, l3, μ =>
    if l2 < l3 then
      k39 μ
    else
      iv_ck (0 ≤ l3 ∧ l3 < 256) <|
      lp_X6_fit_21 l1 l2 k39 n (iv_wr (l3 + 1)) (iv_upd μ 109 l3.toNat 0)
def lp_X6_fit_48 (l1 : Int) (l2 : Int) (k74 : ivM → Option (Int × ivM)) : Nat → Int → ivM → Option (Int × ivM)
  | 0, _, _ => none
  | n + 1, l3, μ =>
    if l2 ≤ l3 then
      k74 μ
    else
      iv_ck (0 ≤ l3 ∧ l3 < 256) <|
      iv_let (fun (μ20 : ivM) =>
        lp_X6_fit_48 l1 l2 k74 n (iv_wr (l3 + 1)) μ20) fun j19 =>
      if (μ 109 l3.toNat) ≤ 0 then
        j19 μ
      else
        iv_bnd (f_X6_giveNext l1 l3 μ) fun _ μ25 =>
        j19 μ25
def f_X6_fit (p1 : Int) (μ : ivM) : Option (Int × ivM) :=
  iv_let (fun (μ6 : ivM) =>
    some (0, μ6)) fun j1 =>
  if p1 < 1 then
    j1 μ
  else
    if p1 ≤ 8 then
      lp_X6_fit_21 p1 (iv_wr ((iv_shl 1 p1) - 1)) (fun (μ14 : ivM) =>
        lp_X6_fit_48 p1 (iv_wr ((iv_shl 1 p1) - 1)) (fun (μ29 : ivM) =>
          iv_ck (0 ≤ (iv_wr ((iv_shl 1 p1) - 1)) ∧ (iv_wr ((iv_shl 1 p1) - 1)) < 256) <|
          some ((μ29 109 (iv_wr ((iv_shl 1 p1) - 1)).toNat), μ29)) iv_fuel 0 (iv_upd μ14 109 0 1)) iv_fuel 1 μ
    else
      j1 μ
def f_X6_waysWith (p1 : Int) (p2 : Int) (μ : ivM) : Option (Int × ivM) :=
  iv_bnd (f_X6_hear p1 p2 μ) fun _ μ2 =>
  iv_bnd (f_X6_fit p1 μ2) fun r4 μ5 =>
  some (r4, μ5)
def lp_X6_thingsOf_80 (l1 : Int) (l3 : Int) (l4 : Int)  : Nat → Int → Int → ivM → Option (Int × ivM)
  | 0, _, _, _ => none
  | n + 1, l5, l6, μ =>
    if l1 ≤ l6 then
      some (l5, μ)
    else
      iv_bnd (f_X9_has l3 l6 μ) fun r27 μ28 =>
      iv_let (fun (w32 : Int) (μ33 : ivM) =>
        lp_X6_thingsOf_80 l1 l3 l4 n w32 (iv_wr (l6 + 1)) μ33) fun j30 =>
      if r27 = 0 then
        j30 l5 μ28
      else
        iv_ck (0 ≤ (iv_xor l4 (iv_shl 1 l6)) ∧ (iv_xor l4 (iv_shl 1 l6)) < 256) <|
        if (μ28 109 (iv_xor l4 (iv_shl 1 l6)).toNat) ≤ 0 then
          j30 l5 μ28
        else
          j30 (iv_or l5 (iv_shl 1 l6)) μ28
def f_X6_thingsOf (p1 : Int) (p2 : Int) (μ : ivM) : Option (Int × ivM) :=
  iv_let (fun (μ9 : ivM) =>
    some (0, μ9)) fun j1 =>
  if p1 < 1 then
    j1 μ
  else
    if 8 < p1 then
      j1 μ
    else
      if p2 < 0 then
        j1 μ
      else
        if p2 < p1 then
          iv_bnd (f_X6_hear p1 (μ 105 0) μ) fun _ μ17 =>
          iv_ck (0 ≤ p2 ∧ p2 < 8) <|
          iv_ck (0 ≤ (iv_wr (p1 - 1)) ∧ (iv_wr (p1 - 1)) < 8) <|
          iv_ck (0 ≤ p2 ∧ p2 < 8) <|
          iv_ck (0 ≤ (iv_wr (p1 - 1)) ∧ (iv_wr (p1 - 1)) < 8) <|
          iv_bnd (f_X6_fit p1 (iv_upd (iv_upd μ17 108 p2.toNat (μ17 108 (iv_wr (p1 - 1)).toNat)) 108 (iv_wr (p1 - 1)).toNat (μ17 108 p2.toNat))) fun _ μ24 =>
          lp_X6_thingsOf_80 p1 (μ17 108 p2.toNat) (iv_wr ((iv_shl 1 p1) - 1)) iv_fuel 0 0 μ24
        else
          j1 μ
def lp_X6_firstBreak_2 (l1 : Int)  : Nat → Int → ivM → Option (Int × ivM)
  | 0, _, _ => none
  | n + 1, l2, μ =>
    if (μ 105 0) ≤ l2 then
      some ((-9), μ)
    else
      iv_bnd (f_X6_waysWith l1 (iv_wr (l2 + 1)) μ) fun r2 μ3 =>
      if r2 = 0 then
        some (l2, μ3)
      else
        lp_X6_firstBreak_2 l1 n (iv_wr (l2 + 1)) μ3
def f_X6_firstBreak (p1 : Int) (μ : ivM) : Option (Int × ivM) :=
  lp_X6_firstBreak_2 p1 iv_fuel 0 μ
def f_X8_at (p1 : Int) (μ : ivM) : Option (Int × ivM) :=
  iv_let (fun (v4 : Int) (μ5 : ivM) =>
    some (v4, μ5)) fun j1 =>
  iv_let (fun (μ11 : ivM) =>
    j1 0 μ11) fun j8 =>
  if p1 < 0 then
    j8 μ
  else
    if 96 ≤ p1 then
      j8 μ
    else
      iv_ck (0 ≤ p1 ∧ p1 < 96) <|
      j1 (μ 4 p1.toNat) μ
def f_X7_takeH (p1 : Int) (μ : ivM) : Option (Int × ivM) :=
  iv_let (fun (v4 : Int) (μ5 : ivM) =>
    iv_ck (v4 = 0 ∨ v4 = 1) <| some (v4, μ5)) fun j1 =>
  if p1 = 72 then
    j1 1 (iv_upd μ 5 7 1)
  else
    j1 0 (iv_upd μ 5 7 1)
def f_X7_takeR (p1 : Int) (μ : ivM) : Option (Int × ivM) :=
  iv_let (fun (v4 : Int) (μ5 : ivM) =>
    iv_ck (v4 = 0 ∨ v4 = 1) <| some (v4, μ5)) fun j1 =>
  iv_let (fun (μ12 : ivM) =>
    j1 0 μ12) fun j9 =>
  if ((iv_upd (iv_upd μ 5 7 2) 5 3 (iv_wr (p1 - 48))) 5 3) < 0 then
    j9 (iv_upd (iv_upd μ 5 7 2) 5 3 (iv_wr (p1 - 48)))
  else
    if 3 < ((iv_upd (iv_upd μ 5 7 2) 5 3 (iv_wr (p1 - 48))) 5 3) then
      j9 (iv_upd (iv_upd μ 5 7 2) 5 3 (iv_wr (p1 - 48)))
    else
      j1 1 (iv_upd (iv_upd μ 5 7 2) 5 3 (iv_wr (p1 - 48)))
def lp_X7_isTold_2 (l1 : Int) (k34 : ivM → Option (Int × ivM)) : Nat → Int → ivM → Option (Int × ivM)
  | 0, _, _ => none
  | n + 1, l2, μ =>
    if (μ 5 4) ≤ l2 then
      k34 μ
    else
      if 8 ≤ l2 then
        k34 μ
      else
        iv_ck (0 ≤ l2 ∧ l2 < 8) <|
        if (μ 6 l2.toNat) = l1 then
          some (1, μ)
        else
          lp_X7_isTold_2 l1 k34 n (iv_wr (l2 + 1)) μ
def f_X7_isTold (p1 : Int) (μ : ivM) : Option (Int × ivM) :=
  lp_X7_isTold_2 p1 (fun (μ8 : ivM) =>
    some (0, μ8)) iv_fuel 0 μ
def f_X7_endName  (μ : ivM) : Option (Int × ivM) :=
  iv_let (fun (μ3 : ivM) =>
    some (0, μ3)) fun j1 =>
  if (μ 5 9) = 0 then
    j1 μ
  else
    if (μ 5 4) < 0 then
      j1 μ
    else
      if 8 ≤ (μ 5 4) then
        j1 μ
      else
        iv_bnd (f_X7_isTold (μ 5 8) μ) fun r9 μ10 =>
        if r9 = 0 then
          iv_ck (0 ≤ (μ10 5 4) ∧ (μ10 5 4) < 8) <|
          iv_ck (0 ≤ ((iv_upd μ10 6 (μ10 5 4).toNat (μ10 5 8)) 5 4) ∧ ((iv_upd μ10 6 (μ10 5 4).toNat (μ10 5 8)) 5 4) < 8) <|
          some (1, (iv_upd (iv_upd (iv_upd (iv_upd μ10 6 (μ10 5 4).toNat (μ10 5 8)) 7 ((iv_upd μ10 6 (μ10 5 4).toNat (μ10 5 8)) 5 4).toNat 0) 5 4 (iv_wr (((iv_upd (iv_upd μ10 6 (μ10 5 4).toNat (μ10 5 8)) 7 ((iv_upd μ10 6 (μ10 5 4).toNat (μ10 5 8)) 5 4).toNat 0) 5 4) + 1))) 5 7 2))
        else
          j1 μ10
def f_X7_takePart (p1 : Int) (μ : ivM) : Option (Int × ivM) :=
  if p1 = 75 then
    iv_let (fun (v7 : Int) (μ8 : ivM) =>
      iv_ck (v7 = 0 ∨ v7 = 1) <| some (v7, μ8)) fun j4 =>
    if (iv_wr (((iv_upd μ 5 7 5) 5 4) * ((iv_upd μ 5 7 5) 5 5))) ≤ ((iv_upd μ 5 7 5) 5 6) then
      j4 0 (iv_upd μ 5 7 5)
    else
      j4 1 (iv_upd μ 5 7 5)
  else
  if p1 = 78 then
    iv_let (fun (v16 : Int) (μ17 : ivM) =>
      iv_ck (v16 = 0 ∨ v16 = 1) <| some (v16, μ17)) fun j13 =>
    if 8 ≤ ((iv_upd (iv_upd (iv_upd μ 5 7 3) 5 8 0) 5 9 0) 5 4) then
      j13 0 (iv_upd (iv_upd (iv_upd μ 5 7 3) 5 8 0) 5 9 0)
    else
      j13 1 (iv_upd (iv_upd (iv_upd μ 5 7 3) 5 8 0) 5 9 0)
  else
  if p1 = 80 then
    iv_let (fun (v25 : Int) (μ26 : ivM) =>
      iv_ck (v25 = 0 ∨ v25 = 1) <| some (v25, μ26)) fun j22 =>
    if 6 ≤ ((iv_upd μ 5 7 4) 5 5) then
      j22 0 (iv_upd μ 5 7 4)
    else
      j22 1 (iv_upd μ 5 7 4)
  else
    some (0, μ)
def f_X7_takeSound (p1 : Int) (μ : ivM) : Option (Int × ivM) :=
  iv_let (fun (μ3 : ivM) =>
    iv_bnd (f_X7_endName μ3) fun r6 μ7 =>
    iv_let (fun (v13 : Int) (μ14 : ivM) =>
      iv_ck (v13 = 0 ∨ v13 = 1) <| some (v13, μ14)) fun j9 =>
    iv_let (fun (μ22 : ivM) =>
      j9 0 μ22) fun j18 =>
    if r6 = 0 then
      j18 μ7
    else
      iv_bnd (f_X7_takePart p1 μ7) fun r26 μ27 =>
      if r26 = 0 then
        j18 μ27
      else
        j9 1 μ27) fun j1 =>
  if (iv_wr (p1 - 97)) < 0 then
    j1 μ
  else
    if (iv_wr (p1 - 97)) < 6 then
      iv_bnd (f_X3_withSound (μ 5 8) (μ 5 9) (iv_wr (p1 - 97)) μ) fun r32 μ33 =>
      iv_let (fun (v39 : Int) (μ40 : ivM) =>
        iv_ck (v39 = 0 ∨ v39 = 1) <| some (v39, μ40)) fun j35 =>
      iv_let (fun (μ48 : ivM) =>
        j35 1 μ48) fun j44 =>
      if ((iv_upd (iv_upd μ33 5 8 r32) 5 9 (iv_wr (((iv_upd μ33 5 8 r32) 5 9) + 1))) 5 9) < 5 then
        j44 (iv_upd (iv_upd μ33 5 8 r32) 5 9 (iv_wr (((iv_upd μ33 5 8 r32) 5 9) + 1)))
      else
        iv_bnd (f_X7_endName (iv_upd (iv_upd μ33 5 8 r32) 5 9 (iv_wr (((iv_upd μ33 5 8 r32) 5 9) + 1)))) fun r52 μ53 =>
        if r52 = 0 then
          j35 0 μ53
        else
          j44 μ53
    else
      j1 μ
def f_X7_takeBear (p1 : Int) (μ : ivM) : Option (Int × ivM) :=
  iv_let (fun (μ5 : ivM) =>
    some (0, μ5)) fun j1 =>
  if (iv_wr (p1 - 48)) < 1 then
    j1 μ
  else
    if 9 < (iv_wr (p1 - 48)) then
      j1 μ
    else
      if (μ 5 5) < 0 then
        j1 μ
      else
        if (μ 5 5) < 6 then
          iv_ck (0 ≤ (μ 5 5) ∧ (μ 5 5) < 6) <|
          some (1, (iv_upd (iv_upd (iv_upd μ 8 (μ 5 5).toNat (iv_wr (p1 - 48))) 5 5 (iv_wr (((iv_upd μ 8 (μ 5 5).toNat (iv_wr (p1 - 48))) 5 5) + 1))) 5 7 2))
        else
          j1 μ
def lp_X7_canLearn_2 (l1 : Int) (k37 : ivM → Option (Int × ivM)) : Nat → Int → ivM → Option (Int × ivM)
  | 0, _, _ => none
  | n + 1, l2, μ =>
    if (μ 5 4) ≤ l2 then
      k37 μ
    else
      if 8 ≤ l2 then
        k37 μ
      else
        iv_ck (0 ≤ l2 ∧ l2 < 8) <|
        iv_bnd (f_X9_has (μ 7 l2.toNat) l1 μ) fun r4 μ5 =>
        if r4 = 0 then
          some (1, μ5)
        else
          lp_X7_canLearn_2 l1 k37 n (iv_wr (l2 + 1)) μ5
def f_X7_canLearn (p1 : Int) (μ : ivM) : Option (Int × ivM) :=
  lp_X7_canLearn_2 p1 (fun (μ11 : ivM) =>
    some (0, μ11)) iv_fuel 0 μ
def f_X7_takeKnower (p1 : Int) (μ : ivM) : Option (Int × ivM) :=
  iv_let (fun (v4 : Int) (μ5 : ivM) =>
    iv_ck (v4 = 0 ∨ v4 = 1) <| some (v4, μ5)) fun j1 =>
  iv_let (fun (μ12 : ivM) =>
    j1 0 μ12) fun j9 =>
  if ((iv_upd (iv_upd μ 5 10 (iv_wr (p1 - 48))) 5 7 6) 5 10) < 0 then
    j9 (iv_upd (iv_upd μ 5 10 (iv_wr (p1 - 48))) 5 7 6)
  else
    if ((iv_upd (iv_upd μ 5 10 (iv_wr (p1 - 48))) 5 7 6) 5 5) ≤ ((iv_upd (iv_upd μ 5 10 (iv_wr (p1 - 48))) 5 7 6) 5 10) then
      j9 (iv_upd (iv_upd μ 5 10 (iv_wr (p1 - 48))) 5 7 6)
    else
      iv_bnd (f_X7_canLearn ((iv_upd (iv_upd μ 5 10 (iv_wr (p1 - 48))) 5 7 6) 5 10) (iv_upd (iv_upd μ 5 10 (iv_wr (p1 - 48))) 5 7 6)) fun r17 μ18 =>
      if r17 = 0 then
        j9 μ18
      else
        j1 1 μ18
def f_X7_takeKnown (p1 : Int) (μ : ivM) : Option (Int × ivM) :=
  iv_let (fun (μ5 : ivM) =>
    some (0, μ5)) fun j1 =>
  if (iv_wr (p1 - 48)) < 0 then
    j1 μ
  else
    if (μ 5 4) ≤ (iv_wr (p1 - 48)) then
      j1 μ
    else
      if 8 ≤ (iv_wr (p1 - 48)) then
        j1 μ
      else
        iv_ck (0 ≤ (iv_wr (p1 - 48)) ∧ (iv_wr (p1 - 48)) < 8) <|
        iv_bnd (f_X9_has (μ 7 (iv_wr (p1 - 48)).toNat) (μ 5 10) μ) fun r12 μ13 =>
        if r12 = 0 then
          iv_ck (0 ≤ (iv_wr (p1 - 48)) ∧ (iv_wr (p1 - 48)) < 8) <|
          iv_ck (0 ≤ (iv_wr (p1 - 48)) ∧ (iv_wr (p1 - 48)) < 8) <|
          some (1, (iv_upd (iv_upd (iv_upd μ13 7 (iv_wr (p1 - 48)).toNat (iv_or (μ13 7 (iv_wr (p1 - 48)).toNat) (iv_shl 1 (μ13 5 10)))) 5 6 (iv_wr (((iv_upd μ13 7 (iv_wr (p1 - 48)).toNat (iv_or (μ13 7 (iv_wr (p1 - 48)).toNat) (iv_shl 1 (μ13 5 10)))) 5 6) + 1))) 5 7 2))
        else
          j1 μ13
def f_X7_take (p1 : Int) (μ : ivM) : Option (Int × ivM) :=
  if (μ 5 7) = 0 then
    iv_bnd (f_X7_takeH p1 μ) fun r8 μ9 =>
    iv_ck (r8 = 0 ∨ r8 = 1) <| some (r8, μ9)
  else
  if (μ 5 7) = 1 then
    iv_bnd (f_X7_takeR p1 μ) fun r12 μ13 =>
    iv_ck (r12 = 0 ∨ r12 = 1) <| some (r12, μ13)
  else
  if (μ 5 7) = 2 then
    iv_bnd (f_X7_takePart p1 μ) fun r16 μ17 =>
    iv_ck (r16 = 0 ∨ r16 = 1) <| some (r16, μ17)
  else
  if (μ 5 7) = 3 then
    iv_bnd (f_X7_takeSound p1 μ) fun r20 μ21 =>
    iv_ck (r20 = 0 ∨ r20 = 1) <| some (r20, μ21)
  else
  if (μ 5 7) = 4 then
    iv_bnd (f_X7_takeBear p1 μ) fun r24 μ25 =>
    iv_ck (r24 = 0 ∨ r24 = 1) <| some (r24, μ25)
  else
  if (μ 5 7) = 5 then
    iv_bnd (f_X7_takeKnower p1 μ) fun r28 μ29 =>
    iv_ck (r28 = 0 ∨ r28 = 1) <| some (r28, μ29)
  else
  if (μ 5 7) = 6 then
    iv_bnd (f_X7_takeKnown p1 μ) fun r32 μ33 =>
    iv_ck (r32 = 0 ∨ r32 = 1) <| some (r32, μ33)
  else
    iv_bnd (f_X7_takePart p1 μ) fun r36 μ37 =>
    iv_ck (r36 = 0 ∨ r36 = 1) <| some (r36, μ37)
def lp_X7_faultOf_27  (k55 : ivM → Option (Int × ivM)) : Nat → Int → ivM → Option (Int × ivM)
  | 0, _, _ => none
  | n + 1, l2, μ =>
    if (μ 3 1) ≤ l2 then
      k55 μ
    else
      iv_bnd (f_X8_at l2 μ) fun r2 μ3 =>
      iv_bnd (f_X7_take r2 μ3) fun r5 μ6 =>
      if r5 = 0 then
        some (l2, μ6)
      else
        lp_X7_faultOf_27 k55 n (iv_wr (l2 + 1)) μ6
def f_X7_faultOf  (μ : ivM) : Option (Int × ivM) :=
  lp_X7_faultOf_27 (fun (μ10 : ivM) =>
    iv_let (fun (v16 : Int) (μ17 : ivM) =>
      iv_let (fun (v24 : Int) (μ25 : ivM) =>
        some (v24, μ25)) fun j20 =>
      if v16 = 0 then
        j20 (μ17 3 1) μ17
      else
        j20 (-9) μ17) fun j13 =>
    iv_let (fun (μ32 : ivM) =>
      j13 1 μ32) fun j29 =>
    if (μ10 5 7) = 2 then
      j29 μ10
    else
      iv_let (fun (μ39 : ivM) =>
        j13 0 μ39) fun j36 =>
      if (μ10 5 7) = 3 then
        iv_bnd (f_X7_endName μ10) fun r43 μ44 =>
        if r43 = 0 then
          j36 μ44
        else
          j29 μ44
      else
        j36 μ10) iv_fuel 0 (iv_upd (iv_upd (iv_upd (iv_upd (iv_upd μ 5 3 0) 5 4 0) 5 5 0) 5 6 0) 5 7 0)
def f_X8_append (p1 : Int) (μ : ivM) : Option (Int × ivM) :=
  iv_let (fun (μ4 : ivM) =>
    some (0, μ4)) fun j1 =>
  if (μ 3 1) < 0 then
    j1 μ
  else
    if 96 ≤ (μ 3 1) then
      j1 μ
    else
      iv_ck (0 ≤ (μ 3 1) ∧ (μ 3 1) < 96) <|
      j1 (iv_upd (iv_upd μ 4 (μ 3 1).toNat p1) 3 1 (iv_wr (((iv_upd μ 4 (μ 3 1).toNat p1) 3 1) + 1)))
def lp_X9_write_36 (l2 : Int)  : Nat → Int → ivM → Option (Int × ivM)
  | 0, _, _ => none
  | n + 1, l4, μ =>
    if l4 < 0 then
      some ((μ 3 1), μ)
    else
      iv_bnd (f_X8_append (iv_and (iv_wr (iv_lushr l2 (iv_wr (8 * l4)))) 255) μ) fun _ μ15 =>
      lp_X9_write_36 l2 n (iv_wr (l4 + (-1))) μ15
def f_X9_write (p1 : Int) (p2 : Int) (μ : ivM) : Option (Int × ivM) :=
  iv_let (fun (μ7 : ivM) =>
    some ((-2), μ7)) fun j1 =>
  if p1 < 1 then
    j1 μ
  else
    if p1 ≤ 8 then
      if (iv_wr ((μ 3 1) + p1)) ≤ 96 then
        lp_X9_write_36 p2 iv_fuel (iv_wr (p1 - 1)) μ
      else
        some ((-4), μ)
    else
      j1 μ
def f_X9_wipe  (μ : ivM) : Option (Int × ivM) :=
  some ((μ 3 1), (iv_upd μ 3 1 0))
def f_X9_fault  (μ : ivM) : Option (Int × ivM) :=
  iv_bnd (f_X7_faultOf μ) fun r1 μ2 =>
  some (r1, μ2)
def f_X9_slotAt (p1 : Int) (μ : ivM) : Option (Int × ivM) :=
  iv_let (fun (v4 : Nat) (μ5 : ivM) =>
    some (((v4 : Nat) : Int), μ5)) fun j1 =>
  iv_let (fun (μ11 : ivM) =>
    j1 0 μ11) fun j8 =>
  if p1 < 0 then
    j8 μ
  else
    if 2 ≤ p1 then
      j8 μ
    else
      iv_ck (0 ≤ p1 ∧ p1 < 2) <|
      j1 (16 + 4 * p1.toNat) μ
def lp_X9_house_43  (k69 : ivM → Option (Int × ivM)) : Nat → Int → ivM → Option (Int × ivM)
  | 0, _, _ => none
  | n + 1, l1, μ =>
    if 2 ≤ l1 then
      k69 μ
    else
      iv_bnd (f_X9_slotAt l1 μ) fun r12 μ13 =>
      iv_let (fun (μ17 : ivM) =>
        lp_X9_house_43 k69 n (iv_wr (l1 + 1)) μ17) fun j15 =>
      if r12.toNat = 0 then
        j15 μ13
      else iv_ck (iv_isMem r12.toNat = true) <|
        j15 (iv_upd μ13 (r12.toNat) 4 0)
def f_X9_house  (μ : ivM) : Option (Int × ivM) :=
  iv_bnd (f_X7_faultOf μ) fun r1 μ2 =>
  if r1 = (-9) then
    iv_bnd (f_X1_settle μ2) fun _ μ6 =>
    iv_bnd (f_X2_begin μ6) fun _ μ9 =>
    lp_X9_house_43 (fun (μ24 : ivM) =>
      some ((iv_wr ((iv_wr (10 * (μ24 9 2))) + (μ24 9 3))), μ24)) iv_fuel 0 μ9
  else
    some ((-3), μ2)
def f_X9_sound (p1 : Int) (p2 : Int) (μ : ivM) : Option (Int × ivM) :=
  iv_bnd (f_X1_hasThing p1 μ) fun r1 μ2 =>
  if r1 = 0 then
    some ((-1), μ2)
  else
    iv_ck (0 ≤ p1 ∧ p1 < 8) <|
    iv_bnd (f_X3_soundAt (μ2 12 p1.toNat) p2 μ2) fun r6 μ7 =>
    some (r6, μ7)
def f_X9_off (p1 : Int) (p2 : Int) (μ : ivM) : Option (Int × ivM) :=
  iv_bnd (f_X1_hasThing p1 μ) fun r1 μ2 =>
  iv_let (fun (μ8 : ivM) =>
    some ((-1), μ8)) fun j4 =>
  if r1 = 0 then
    j4 μ2
  else
    iv_bnd (f_X1_hasThing p2 μ2) fun r12 μ13 =>
    if r12 = 0 then
      j4 μ13
    else
      iv_ck (0 ≤ p1 ∧ p1 < 8) <|
      iv_ck (0 ≤ p2 ∧ p2 < 8) <|
      iv_bnd (f_X4_between (μ13 12 p1.toNat) (μ13 12 p2.toNat) μ13) fun r18 μ19 =>
      some (r18, μ19)
def lp_X9_nearTo_5 (l1 : Int) (l2 : Int)  : Nat → Int → Int → ivM → Option (Int × ivM)
  | 0, _, _, _ => none
  | n + 1, l3, l4, μ =>
    if 8 ≤ l4 then
      some (l3, μ)
    else
      iv_bnd (f_X9_has l2 l4 μ) fun r2 μ3 =>
      iv_let (fun (w6 : Int) (μ7 : ivM) =>
        lp_X9_nearTo_5 l1 l2 n w6 (iv_wr (l4 + 1)) μ7) fun j5 =>
      if r2 = 0 then
        j5 l3 μ3
      else
        iv_ck (0 ≤ l4 ∧ l4 < 8) <|
        iv_bnd (f_X4_between l1 (μ3 12 l4.toNat) μ3) fun r12 μ13 =>
        if (μ13 9 1) < r12 then
          j5 l3 μ13
        else
          j5 (iv_or l3 (iv_shl 1 l4)) μ13
def f_X9_nearTo (p1 : Int) (p2 : Int) (μ : ivM) : Option (Int × ivM) :=
  lp_X9_nearTo_5 p1 p2 iv_fuel 0 0 μ
def f_X9_near (p1 : Int) (μ : ivM) : Option (Int × ivM) :=
  iv_bnd (f_X1_hasThing p1 μ) fun r1 μ2 =>
  if r1 = 0 then
    some ((-1), μ2)
  else
    iv_bnd (f_X2_isLive p1 μ2) fun r5 μ6 =>
    if r5 = 0 then
      some ((-3), μ6)
    else
      iv_ck (0 ≤ p1 ∧ p1 < 8) <|
      iv_bnd (f_X2_liveOnes μ6) fun r10 μ11 =>
      iv_bnd (f_X9_nearTo (μ6 12 p1.toNat) (iv_and r10 (iv_xor (iv_shl 1 p1) (-1))) μ11) fun r13 μ14 =>
      some (r13, μ14)
def f_X9_knows (p1 : Int) (μ : ivM) : Option (Int × ivM) :=
  iv_bnd (f_X1_hasThing p1 μ) fun r1 μ2 =>
  iv_let (fun (v7 : Int) (μ8 : ivM) =>
    some (v7, μ8)) fun j4 =>
  if r1 = 0 then
    j4 (-1) μ2
  else
    iv_ck (0 ≤ p1 ∧ p1 < 8) <|
    j4 (μ2 14 p1.toNat) μ2
def f_X9_live  (μ : ivM) : Option (Int × ivM) :=
  iv_bnd (f_X2_liveOnes μ) fun r1 μ2 =>
  some (r1, μ2)
def f_X9_days (p1 : Int) (μ : ivM) : Option (Int × ivM) :=
  iv_let (fun (μ4 : ivM) =>
    some ((-2), μ4)) fun j1 =>
  if p1 < 1 then
    j1 μ
  else
    if p1 ≤ 99 then
      iv_bnd (f_X2_pass p1 μ) fun r9 μ10 =>
      some (r9, μ10)
    else
      j1 μ
def f_X9_fades (p1 : Int) (μ : ivM) : Option (Int × ivM) :=
  iv_bnd (f_X1_hasThing p1 μ) fun r1 μ2 =>
  if r1 = 0 then
    some ((-1), μ2)
  else
    iv_bnd (f_X2_isLive p1 μ2) fun r5 μ6 =>
    if r5 = 0 then
      some ((-3), μ6)
    else
      iv_ck (0 ≤ p1 ∧ p1 < 8) <|
      some ((iv_wr ((iv_wr ((iv_wr ((μ6 13 p1.toNat) + 9)) + 1)) - (μ6 11 3))), μ6)
def f_X9_say (p1 : Int) (p2 : Int) (p3 : Int) (μ : ivM) : Option (Int × ivM) :=
  iv_bnd (f_X1_hasPerson p1 μ) fun r1 μ2 =>
  iv_let (fun (μ9 : ivM) =>
    some ((-1), μ9)) fun j4 =>
  if r1 = 0 then
    j4 μ2
  else
    iv_bnd (f_X1_hasThing p2 μ2) fun r13 μ14 =>
    if r13 = 0 then
      j4 μ14
    else
      iv_bnd (f_X1_arePeople p3 μ14) fun r17 μ18 =>
      if r17 = 0 then
        some ((-2), μ18)
      else
        iv_ck (0 ≤ p2 ∧ p2 < 8) <|
        iv_bnd (f_X9_has (μ18 14 p2.toNat) p1 μ18) fun r22 μ23 =>
        if r22 = 0 then
          some ((-3), μ23)
        else
          iv_ck (0 ≤ p2 ∧ p2 < 8) <|
          iv_ck (0 ≤ p2 ∧ p2 < 8) <|
          iv_ck (0 ≤ p2 ∧ p2 < 8) <|
          iv_ck (0 ≤ p2 ∧ p2 < 8) <|
          some (((iv_upd (iv_upd μ23 13 p2.toNat (μ23 11 3)) 14 p2.toNat (iv_or ((iv_upd μ23 13 p2.toNat (μ23 11 3)) 14 p2.toNat) p3)) 14 p2.toNat), (iv_upd (iv_upd μ23 13 p2.toNat (μ23 11 3)) 14 p2.toNat (iv_or ((iv_upd μ23 13 p2.toNat (μ23 11 3)) 14 p2.toNat) p3)))
def f_X9_give (p1 : Int) (p2 : Int) (p3 : Int) (μ : ivM) : Option (Int × ivM) :=
  iv_bnd (f_X1_hasPerson p1 μ) fun r1 μ2 =>
  iv_let (fun (μ9 : ivM) =>
    some ((-1), μ9)) fun j4 =>
  if r1 = 0 then
    j4 μ2
  else
    iv_bnd (f_X1_hasPerson p2 μ2) fun r13 μ14 =>
    if r13 = 0 then
      j4 μ14
    else
      iv_bnd (f_X1_hasThing p3 μ14) fun r17 μ18 =>
      if r17 = 0 then
        j4 μ18
      else
        iv_let (fun (μ26 : ivM) =>
          some ((-3), μ26)) fun j21 =>
        if p1 = p2 then
          j21 μ18
        else
          iv_ck (0 ≤ p3 ∧ p3 < 8) <|
          iv_bnd (f_X9_has (μ18 14 p3.toNat) p1 μ18) fun r31 μ32 =>
          if r31 = 0 then
            j21 μ32
          else
            iv_ck (0 ≤ p3 ∧ p3 < 8) <|
            iv_ck (0 ≤ p3 ∧ p3 < 8) <|
            iv_ck (0 ≤ p3 ∧ p3 < 8) <|
            iv_ck (0 ≤ p3 ∧ p3 < 8) <|
            some (((iv_upd (iv_upd μ32 13 p3.toNat (μ32 11 3)) 14 p3.toNat (iv_and (iv_or ((iv_upd μ32 13 p3.toNat (μ32 11 3)) 14 p3.toNat) (iv_shl 1 p2)) (iv_xor (iv_shl 1 p1) (-1)))) 14 p3.toNat), (iv_upd (iv_upd μ32 13 p3.toNat (μ32 11 3)) 14 p3.toNat (iv_and (iv_or ((iv_upd μ32 13 p3.toNat (μ32 11 3)) 14 p3.toNat) (iv_shl 1 p2)) (iv_xor (iv_shl 1 p1) (-1)))))
def lp_X9_freshName_9  (k48 : ivM → Option (Int × ivM)) : Nat → Int → ivM → Option (Int × ivM)
  | 0, _, _ => none
  | n + 1, l1, μ =>
    if 8 ≤ l1 then
      k48 μ
    else
      iv_bnd (f_X2_isLive l1 μ) fun r5 μ6 =>
      iv_let (fun (μ9 : ivM) =>
        lp_X9_freshName_9 k48 n (iv_wr (l1 + 1)) μ9) fun j8 =>
      if r5 = 0 then
        j8 μ6
      else
        iv_ck (0 ≤ l1 ∧ l1 < 8) <|
        iv_bnd (f_X5_avoid (μ6 12 l1.toNat) μ6) fun _ μ15 =>
        j8 μ15
def f_X9_freshName  (μ : ivM) : Option (Int × ivM) :=
  iv_bnd (f_X5_begin μ) fun _ μ2 =>
  lp_X9_freshName_9 (fun (μ18 : ivM) =>
    iv_bnd (f_X5_shortest (μ18 9 1) μ18) fun r21 μ22 =>
    some (r21, μ22)) iv_fuel 0 μ2
def f_X9_fresh (p1 : Int) (μ : ivM) : Option (Int × ivM) :=
  iv_bnd (f_X9_freshName μ) fun r1 μ2 =>
  iv_bnd (f_X3_soundAt r1 p1 μ2) fun r4 μ5 =>
  some (r4, μ5)
def f_X9_anew (p1 : Int) (p2 : Int) (μ : ivM) : Option (Int × ivM) :=
  iv_bnd (f_X1_hasPerson p1 μ) fun r1 μ2 =>
  iv_let (fun (μ9 : ivM) =>
    some ((-1), μ9)) fun j4 =>
  if r1 = 0 then
    j4 μ2
  else
    iv_bnd (f_X1_hasThing p2 μ2) fun r13 μ14 =>
    if r13 = 0 then
      j4 μ14
    else
      iv_bnd (f_X2_isLive p2 μ14) fun r17 μ18 =>
      if r17 = 0 then
        iv_bnd (f_X9_freshName μ18) fun r21 μ22 =>
        if r21 = 0 then
          some ((-3), μ22)
        else
          iv_ck (0 ≤ p2 ∧ p2 < 8) <|
          iv_ck (0 ≤ p2 ∧ p2 < 8) <|
          iv_ck (0 ≤ p2 ∧ p2 < 8) <|
          iv_bnd (f_X3_lengthOf r21 (iv_upd (iv_upd (iv_upd μ22 12 p2.toNat r21) 13 p2.toNat ((iv_upd μ22 12 p2.toNat r21) 11 3)) 14 p2.toNat (iv_shl 1 p1))) fun r28 μ29 =>
          some (r28, μ29)
      else
        some ((-3), μ18)
def lp_X9_clearOnes_12 (l1 : Int)  : Nat → Int → Int → ivM → Option (Int × ivM)
  | 0, _, _, _ => none
  | n + 1, l2, l3, μ =>
    if 8 ≤ l3 then
      some (l2, μ)
    else
      iv_bnd (f_X9_has l1 l3 μ) fun r5 μ6 =>
      iv_let (fun (w9 : Int) (μ12 : ivM) =>
        lp_X9_clearOnes_12 l1 n w9 (iv_wr (l3 + 1)) μ12) fun j8 =>
      if r5 = 0 then
        j8 l2 μ6
      else
        iv_ck (0 ≤ l3 ∧ l3 < 8) <|
        iv_bnd (f_X9_nearTo (μ6 12 l3.toNat) (iv_and l1 (iv_wr (-(iv_shl 2 l3)))) μ6) fun r17 μ18 =>
        if r17 = 0 then
          j8 l2 μ18
        else
          j8 (iv_and l2 (iv_xor (iv_or r17 (iv_shl 1 l3)) (-1))) μ18
def f_X9_clearOnes  (μ : ivM) : Option (Int × ivM) :=
  iv_bnd (f_X2_liveOnes μ) fun r1 μ2 =>
  lp_X9_clearOnes_12 r1 iv_fuel r1 0 μ2
def lp_X9_liftedBy_18 (l1 : Int) (l2 : Int)  : Nat → Int → Int → ivM → Option (Int × ivM)
  | 0, _, _, _ => none
  | n + 1, l3, l4, μ =>
    if 8 ≤ l4 then
      some (l3, μ)
    else
      iv_bnd (f_X9_has l2 l4 μ) fun r6 μ7 =>
      iv_let (fun (w10 : Int) (μ11 : ivM) =>
        lp_X9_liftedBy_18 l1 l2 n w10 (iv_wr (l4 + 1)) μ11) fun j9 =>
      if r6 = 0 then
        j9 l3 μ7
      else
        iv_ck (0 ≤ l4 ∧ l4 < 8) <|
        iv_bnd (f_X9_has (μ7 14 l4.toNat) l1 μ7) fun r16 μ17 =>
        if r16 = 0 then
          j9 l3 μ17
        else
          iv_ck (0 ≤ l4 ∧ l4 < 8) <|
          iv_bnd (f_X3_lengthOf (μ17 12 l4.toNat) μ17) fun r21 μ22 =>
          iv_ck (0 ≤ l1 ∧ l1 < 6) <|
          if (μ22 10 l1.toNat) < r21 then
            j9 l3 μ22
          else
            j9 (iv_or l3 (iv_shl 1 l4)) μ22
def f_X9_liftedBy (p1 : Int) (p2 : Int) (μ : ivM) : Option (Int × ivM) :=
  iv_bnd (f_X1_hasPerson p1 μ) fun r1 μ2 =>
  if r1 = 0 then
    some (0, μ2)
  else
    lp_X9_liftedBy_18 p1 p2 iv_fuel 0 0 μ2
def f_X9_lifts (p1 : Int) (μ : ivM) : Option (Int × ivM) :=
  iv_bnd (f_X1_hasPerson p1 μ) fun r1 μ2 =>
  if r1 = 0 then
    some ((-1), μ2)
  else
    iv_bnd (f_X9_clearOnes μ2) fun r5 μ6 =>
    iv_bnd (f_X9_liftedBy p1 r5 μ6) fun r8 μ9 =>
    some (r8, μ9)
def lp_X9_stands_43 (l1 : Int) (l2 : Int) (l3 : Int) (k100 : Int → ivM → Option (Int × ivM)) : Nat → Int → Int → ivM → Option (Int × ivM)
  | 0, _, _, _ => none
  | n + 1, l4, l5, μ =>
    if 8 ≤ l5 then
      some ((-9), μ)
    else
      iv_bnd (f_X9_has l2 l5 μ) fun r16 μ17 =>
      iv_let (fun (w20 : Int) (μ21 : ivM) =>
        lp_X9_stands_43 l1 l2 l3 k100 n w20 (iv_wr (l5 + 1)) μ21) fun j19 =>
      if r16 = 0 then
        j19 l4 μ17
      else
        iv_ck (0 ≤ l5 ∧ l5 < 8) <|
        iv_bnd (f_X3_lengthOf (μ17 12 l5.toNat) μ17) fun r26 μ27 =>
        iv_bnd (f_X9_has l3 l5 μ27) fun r29 μ30 =>
        if r29 = 0 then
          k100 l5 μ30
        else
          iv_ck (0 ≤ l1 ∧ l1 < 6) <|
          if (iv_wr (l4 + r26)) ≤ (μ30 10 l1.toNat) then
            j19 (iv_wr (l4 + r26)) μ30
          else
            k100 l5 μ30
def f_X9_stands (p1 : Int) (p2 : Int) (μ : ivM) : Option (Int × ivM) :=
  iv_bnd (f_X1_hasPerson p1 μ) fun r1 μ2 =>
  if r1 = 0 then
    some ((-1), μ2)
  else
    iv_bnd (f_X1_areThings p2 μ2) fun r5 μ6 =>
    if r5 = 0 then
      some ((-2), μ6)
    else
      iv_bnd (f_X9_clearOnes μ6) fun r9 μ10 =>
      iv_bnd (f_X9_liftedBy p1 r9 μ10) fun r12 μ13 =>
      lp_X9_stands_43 p1 p2 r12 (fun (w40 : Int) (μ41 : ivM) =>
        some (w40, μ41)) iv_fuel 0 0 μ13
def lp_X9_gatherCarriers_7 (l1 : Int) (k52 : ivM → Option (Int × ivM)) : Nat → Int → ivM → Option (Int × ivM)
  | 0, _, _ => none
  | n + 1, l2, μ =>
    if 6 ≤ l2 then
      k52 μ
    else
      iv_bnd (f_X9_liftedBy l2 l1 μ) fun r5 μ6 =>
      iv_ck (0 ≤ l2 ∧ l2 < 6) <|
      iv_ck (0 ≤ l2 ∧ l2 < 6) <|
      iv_ck (0 ≤ l2 ∧ l2 < 6) <|
      lp_X9_gatherCarriers_7 l1 k52 n (iv_wr (l2 + 1)) (iv_upd (iv_upd μ6 100 l2.toNat r5) 101 l2.toNat ((iv_upd μ6 100 l2.toNat r5) 10 l2.toNat))
def lp_X9_gatherCarriers_54   : Nat → Int → ivM → Option (Int × ivM)
  | 0, _, _ => none
  | n + 1, l2, μ =>
    if 8 ≤ l2 then
      some (0, μ)
    else
      iv_ck (0 ≤ l2 ∧ l2 < 8) <|
      iv_bnd (f_X3_lengthOf (μ 12 l2.toNat) μ) fun r18 μ19 =>
      iv_ck (0 ≤ l2 ∧ l2 < 8) <|
      lp_X9_gatherCarriers_54  n (iv_wr (l2 + 1)) (iv_upd μ19 102 l2.toNat r18)
def f_X9_gatherCarriers  (μ : ivM) : Option (Int × ivM) :=
  iv_bnd (f_X9_clearOnes μ) fun r1 μ2 =>
  lp_X9_gatherCarriers_7 r1 (fun (μ13 : ivM) =>
    lp_X9_gatherCarriers_54  iv_fuel 0 μ13) iv_fuel 0 μ2
def f_X9_carries (p1 : Int) (p2 : Int) (μ : ivM) : Option (Int × ivM) :=
  iv_bnd (f_X1_hasPerson p1 μ) fun r1 μ2 =>
  if r1 = 0 then
    some ((-1), μ2)
  else
    iv_bnd (f_X1_areThings p2 μ2) fun r5 μ6 =>
    if r5 = 0 then
      some ((-2), μ6)
    else
      iv_bnd (f_X9_gatherCarriers μ6) fun _ μ10 =>
      iv_bnd (f_X0_pack p2 μ10) fun _ μ13 =>
      iv_bnd (f_X0_timesFor p2 μ13) fun r15 μ16 =>
      iv_let (fun (μ23 : ivM) =>
        some ((-3), μ23)) fun j18 =>
      if r15 = (-9) then
        j18 μ16
      else
        if r15 ≤ 1 then
          iv_bnd (f_X0_firstWay p1 p2 μ16) fun r28 μ29 =>
          some (r28, μ29)
        else
          j18 μ16
def f_X9_times (p1 : Int) (μ : ivM) : Option (Int × ivM) :=
  iv_bnd (f_X1_areThings p1 μ) fun r1 μ2 =>
  if r1 = 0 then
    some ((-2), μ2)
  else
    iv_bnd (f_X9_gatherCarriers μ2) fun _ μ6 =>
    iv_bnd (f_X0_pack p1 μ6) fun _ μ9 =>
    iv_bnd (f_X0_timesFor p1 μ9) fun r11 μ12 =>
    some (r11, μ12)
def f_X9_worth (p1 : Int) (μ : ivM) : Option (Int × ivM) :=
  iv_bnd (f_X1_hasPerson p1 μ) fun r1 μ2 =>
  if r1 = 0 then
    some ((-1), μ2)
  else
    iv_bnd (f_X9_gatherCarriers μ2) fun _ μ6 =>
    iv_bnd (f_X0_allLifted μ6) fun r8 μ9 =>
    iv_bnd (f_X0_pack r8 μ9) fun _ μ12 =>
    iv_bnd (f_X0_timesFor r8 μ12) fun r14 μ15 =>
    iv_ck (0 ≤ p1 ∧ p1 < 6) <|
    iv_bnd (f_X0_pack r8 (iv_upd μ15 100 p1.toNat 0)) fun _ μ19 =>
    iv_bnd (f_X0_timesFor r8 μ19) fun r21 μ22 =>
    iv_let (fun (v30 : Int) (μ31 : ivM) =>
      some (v30, μ31)) fun j24 =>
    if r21 = (-9) then
      j24 99 μ22
    else
      j24 (iv_wr (r21 - r14)) μ22
def f_X9_upkeep (p1 : Int) (p2 : Int) (μ : ivM) : Option (Int × ivM) :=
  iv_bnd (f_X1_areThings p1 μ) fun r1 μ2 =>
  iv_let (fun (μ8 : ivM) =>
    some ((-2), μ8)) fun j4 =>
  if r1 = 0 then
    j4 μ2
  else
    if p2 < 0 then
      j4 μ2
    else
      if p2 ≤ 99 then
        iv_bnd (f_X2_liveOnes μ2) fun r14 μ15 =>
        iv_bnd (f_X2_sayingsFor (iv_and p1 r14) p2 μ15) fun r17 μ18 =>
        some (r17, μ18)
      else
        j4 μ2
def lp_X9_mayHave_23 (l1 : Int) (l2 : Int)  : Nat → Int → Int → ivM → Option (Int × ivM)
  | 0, _, _, _ => none
  | n + 1, l3, l4, μ =>
    if 6 ≤ l4 then
      some (l3, μ)
    else
      iv_bnd (f_X9_liftedBy l4 l2 μ) fun r9 μ10 =>
      iv_bnd (f_X9_has r9 l1 μ10) fun r12 μ13 =>
      iv_let (fun (w16 : Int) (μ17 : ivM) =>
        lp_X9_mayHave_23 l1 l2 n w16 (iv_wr (l4 + 1)) μ17) fun j15 =>
      if r12 = 0 then
        j15 l3 μ13
      else
        j15 (iv_or l3 (iv_shl 1 l4)) μ13
def f_X9_mayHave (p1 : Int) (μ : ivM) : Option (Int × ivM) :=
  iv_bnd (f_X1_hasThing p1 μ) fun r1 μ2 =>
  if r1 = 0 then
    some ((-1), μ2)
  else
    iv_bnd (f_X9_clearOnes μ2) fun r5 μ6 =>
    lp_X9_mayHave_23 p1 r5 iv_fuel 0 0 μ6
def f_X9_line (p1 : Int) (p2 : Int) (μ : ivM) : Option (Int × ivM) :=
  iv_let (fun (μ5 : ivM) =>
    some ((-2), μ5)) fun j1 =>
  if p1 < 0 then
    j1 μ
  else
    if 8 ≤ p1 then
      j1 μ
    else
      if p2 < 1 then
        j1 μ
      else
        if p2 < 256 then
          if (μ 105 0) < 16 then
            iv_bnd (f_X6_sing p1 p2 μ) fun _ μ14 =>
            some ((μ14 105 0), μ14)
          else
            some ((-4), μ)
        else
          j1 μ
def f_X9_silence  (μ : ivM) : Option (Int × ivM) :=
  some ((μ 105 0), (iv_upd μ 105 0 0))
def f_X9_isOldHouse (p0 : Int) (μ : ivM) : Option (Int × ivM) :=
  iv_let (fun (v3 : Int) (μ4 : ivM) =>
    iv_ck (v3 = 0 ∨ v3 = 1) <| some (v3, μ4)) fun j1 =>
  iv_let (fun (μ10 : ivM) =>
    j1 0 μ10) fun j8 =>
  if p0 < 1 then
    j8 μ
  else
    if 8 < p0 then
      j8 μ
    else
      j1 1 μ
def f_X9_ways (p1 : Int) (μ : ivM) : Option (Int × ivM) :=
  iv_bnd (f_X9_isOldHouse p1 μ) fun r1 μ2 =>
  iv_let (fun (v7 : Int) (μ8 : ivM) =>
    some (v7, μ8)) fun j4 =>
  if r1 = 0 then
    j4 (-2) μ2
  else
    iv_bnd (f_X6_waysWith p1 (μ2 105 0) μ2) fun r12 μ13 =>
    j4 r12 μ13
def f_X9_mayBe (p1 : Int) (p2 : Int) (μ : ivM) : Option (Int × ivM) :=
  iv_bnd (f_X9_isOldHouse p1 μ) fun r1 μ2 =>
  iv_let (fun (μ8 : ivM) =>
    some ((-2), μ8)) fun j4 =>
  if r1 = 0 then
    j4 μ2
  else
    if p2 < 0 then
      j4 μ2
    else
      if p2 < p1 then
        iv_bnd (f_X6_thingsOf p1 p2 μ2) fun r14 μ15 =>
        some (r14, μ15)
      else
        j4 μ2
def f_X9_breaks (p1 : Int) (μ : ivM) : Option (Int × ivM) :=
  iv_bnd (f_X9_isOldHouse p1 μ) fun r1 μ2 =>
  iv_let (fun (v7 : Int) (μ8 : ivM) =>
    some (v7, μ8)) fun j4 =>
  if r1 = 0 then
    j4 (-2) μ2
  else
    iv_bnd (f_X6_firstBreak p1 μ2) fun r12 μ13 =>
    j4 r12 μ13
def lp_X9_liveNamed_4 (l1 : Int)  : Nat → Int → Int → ivM → Option (Int × ivM)
  | 0, _, _, _ => none
  | n + 1, l2, l3, μ =>
    if 8 ≤ l3 then
      some (l2, μ)
    else
      iv_bnd (f_X2_isLive l3 μ) fun r2 μ3 =>
      iv_let (fun (w6 : Int) (μ7 : ivM) =>
        lp_X9_liveNamed_4 l1 n w6 (iv_wr (l3 + 1)) μ7) fun j5 =>
      if r2 = 0 then
        j5 l2 μ3
      else
        iv_ck (0 ≤ l3 ∧ l3 < 8) <|
        if (μ3 12 l3.toNat) = l1 then
          j5 (iv_wr (l2 + 1)) μ3
        else
          j5 l2 μ3
def f_X9_liveNamed (p1 : Int) (μ : ivM) : Option (Int × ivM) :=
  lp_X9_liveNamed_4 p1 iv_fuel 0 0 μ
def lp_X9_twins_18 (l1 : Int)  : Nat → Int → Int → ivM → Option (Int × ivM)
  | 0, _, _, _ => none
  | n + 1, l2, l3, μ =>
    if 8 ≤ l3 then
      some (l2, μ)
    else
      iv_bnd (f_X2_isLive l3 μ) fun r12 μ13 =>
      iv_let (fun (w16 : Int) (μ17 : ivM) =>
        lp_X9_twins_18 l1 n w16 (iv_wr (l3 + 1)) μ17) fun j15 =>
      if r12 = 0 then
        j15 l2 μ13
      else
        iv_ck (0 ≤ l3 ∧ l3 < 8) <|
        iv_bnd (f_X3_inTongue (μ13 12 l3.toNat) l1 μ13) fun r22 μ23 =>
        iv_bnd (f_X9_liveNamed r22 μ23) fun r25 μ26 =>
        j15 (iv_wr (l2 + r25)) μ26
def f_X9_twins (p1 : Int) (μ : ivM) : Option (Int × ivM) :=
  iv_let (fun (μ6 : ivM) =>
    some ((-2), μ6)) fun j1 =>
  if p1 < 1 then
    j1 μ
  else
    if p1 < 6 then
      lp_X9_twins_18 p1 iv_fuel 0 0 μ
    else
      j1 μ
def f_X9_keep (p1 : Int) (μ : ivM) : Option (Int × ivM) :=
  iv_bnd (f_X9_slotAt p1 μ) fun r1 μ2 =>
  if r1.toNat = 0 then
    some ((-1), μ2)
  else iv_ck (iv_isMem r1.toNat = true) <|
    iv_bnd (f_X2_copy (r1.toNat) 11 μ2) fun _ μ7 =>
    some (((iv_upd μ7 (r1.toNat) 4 1) 11 3), (iv_upd μ7 (r1.toNat) 4 1))
def f_X9_again (p1 : Int) (μ : ivM) : Option (Int × ivM) :=
  iv_bnd (f_X9_slotAt p1 μ) fun r1 μ2 =>
  if r1.toNat = 0 then
    some ((-1), μ2)
  else iv_ck (iv_isMem r1.toNat = true) <|
    if (μ2 (r1.toNat) 4) = 0 then
      some ((-3), μ2)
    else
      iv_bnd (f_X2_copy 11 (r1.toNat) μ2) fun _ μ8 =>
      some ((μ8 11 3), μ8)
def lp_X9_soundsOfAll_4   : Nat → Int → Int → ivM → Option (Int × ivM)
  | 0, _, _, _ => none
  | n + 1, l1, l2, μ =>
    if 8 ≤ l2 then
      some (l1, μ)
    else
      iv_ck (0 ≤ l2 ∧ l2 < 8) <|
      iv_bnd (f_X3_lengthOf (μ 12 l2.toNat) μ) fun r3 μ4 =>
      lp_X9_soundsOfAll_4  n (iv_wr (l1 + r3)) (iv_wr (l2 + 1)) μ4
def f_X9_soundsOfAll  (μ : ivM) : Option (Int × ivM) :=
  lp_X9_soundsOfAll_4  iv_fuel 0 0 μ
def f_X9_count (p1 : Int) (μ : ivM) : Option (Int × ivM) :=
  if p1 = 0 then
    some ((μ 3 1), μ)
  else
  if p1 = 1 then
    some ((μ 9 2), μ)
  else
  if p1 = 2 then
    some ((μ 9 3), μ)
  else
  if p1 = 3 then
    some ((μ 9 1), μ)
  else
  if p1 = 4 then
    some ((μ 11 3), μ)
  else
  if p1 = 5 then
    some ((μ 105 0), μ)
  else
  if p1 = 6 then
    iv_bnd (f_X2_liveOnes μ) fun r9 μ10 =>
    iv_bnd (f_J6_bitCount_0f7a4 r9 μ10) fun r12 μ13 =>
    some (r12, μ13)
  else
  if p1 = 7 then
    iv_bnd (f_X9_soundsOfAll μ) fun r15 μ16 =>
    some (r15, μ16)
  else
    some ((-2), μ)
def f_X10_in (p0 : Int) (p2 : Int) (p4 : Int) (μ : ivM) : Option (Int × ivM) :=
  iv_let (fun (v8 : Int) (μ9 : ivM) =>
    iv_ck (v8 = 0 ∨ v8 = 1) <| some (v8, μ9)) fun j1 =>
  iv_let (fun (μ20 : ivM) =>
    j1 0 μ20) fun j13 =>
  if (iv_lcmp p0 p2) < 0 then
    j13 μ
  else
    if 0 < (iv_lcmp p0 p4) then
      j13 μ
    else
      j1 1 μ
def lp_X10_write_34 (l2 : Int)  : Nat → Int → ivM → Option (Int × ivM)
  | 0, _, _ => none
  | n + 1, l4, μ =>
    if l4 < 0 then
      some ((μ 110 17), μ)
    else
      iv_ck (0 ≤ (μ 110 17) ∧ (μ 110 17) < 96) <|
      lp_X10_write_34 l2 n (iv_wr (l4 + (-1))) (iv_upd (iv_upd μ 120 (μ 110 17).toNat (iv_wr (iv_land (iv_lshr l2 (iv_wr (8 * l4))) 255))) 110 17 (iv_wr (((iv_upd μ 120 (μ 110 17).toNat (iv_wr (iv_land (iv_lshr l2 (iv_wr (8 * l4))) 255))) 110 17) + 1)))
def f_X10_write (p1 : Int) (p2 : Int) (μ : ivM) : Option (Int × ivM) :=
  iv_bnd (f_X10_in p1 1 8 μ) fun r1 μ2 =>
  if r1 = 0 then
    some ((-2), μ2)
  else
    if (iv_wr ((μ2 110 17) + p1)) ≤ 96 then
      lp_X10_write_34 p2 iv_fuel (iv_wr (p1 - 1)) μ2
    else
      some ((-4), μ2)
def f_X10_wipe  (μ : ivM) : Option (Int × ivM) :=
  some ((μ 110 17), (iv_upd μ 110 17 0))
def f_X10_here  (μ : ivM) : Option (Int × ivM) :=
  iv_let (fun (v3 : Int) (μ4 : ivM) =>
    some (v3, μ4)) fun j1 =>
  iv_let (fun (μ9 : ivM) =>
    j1 (-1) μ9) fun j7 =>
  if (μ 110 19) = (-9) then
    if (μ 110 17) ≤ (μ 110 18) then
      j7 μ
    else
      iv_ck (0 ≤ (μ 110 18) ∧ (μ 110 18) < 96) <|
      j1 (μ 120 (μ 110 18).toNat) μ
  else
    j7 μ
def f_X10_fail  (μ : ivM) : Option (Int × ivM) :=
  iv_let (fun (v3 : Int) (μ4 : ivM) =>
    some (0, (iv_upd μ4 110 19 v3))) fun j1 =>
  if (μ 110 19) = (-9) then
    j1 (μ 110 18) μ
  else
    j1 (μ 110 19) μ
def f_X10_figure (p1 : Int) (μ : ivM) : Option (Int × ivM) :=
  iv_bnd (f_X10_here μ) fun r1 μ2 =>
  iv_bnd (f_X10_in (iv_wr (r1 - 48)) 0 9 μ2) fun r4 μ5 =>
  iv_let (fun (μ10 : ivM) =>
    iv_bnd (f_X10_fail μ10) fun _ μ14 =>
    some (0, μ14)) fun j7 =>
  if r4 = 0 then
    j7 μ5
  else
    if (iv_and (iv_shr p1 (iv_wr (r1 - 48))) 1) = 0 then
      j7 μ5
    else
      some ((iv_wr (r1 - 48)), (iv_upd μ5 110 18 (iv_wr ((μ5 110 18) + 1))))
def lp_X10_unknown_4 (l1 : Int)  : Nat → Int → Int → ivM → Option (Int × ivM)
  | 0, _, _, _ => none
  | n + 1, l2, l3, μ =>
    if (μ 110 5) ≤ l3 then
      some (l2, μ)
    else
      iv_ck (0 ≤ l3 ∧ l3 < 8) <|
      iv_let (fun (v5 : Int) (μ6 : ivM) =>
        lp_X10_unknown_4 l1 n (iv_or l2 v5) (iv_wr (l3 + 1)) μ6) fun j3 =>
      if (iv_and (iv_shr (μ 113 l3.toNat) l1) 1) = 0 then
        j3 (iv_shl 1 l3) μ
      else
        j3 0 μ
def f_X10_unknown (p1 : Int) (μ : ivM) : Option (Int × ivM) :=
  lp_X10_unknown_4 p1 iv_fuel 0 0 μ
def lp_X10_open_4   : Nat → Int → Int → ivM → Option (Int × ivM)
  | 0, _, _, _ => none
  | n + 1, l1, l2, μ =>
    if (μ 110 6) ≤ l2 then
      some (l1, μ)
    else
      iv_bnd (f_X10_unknown l2 μ) fun r2 μ3 =>
      iv_let (fun (v7 : Int) (μ8 : ivM) =>
        lp_X10_open_4  n (iv_or l1 v7) (iv_wr (l2 + 1)) μ8) fun j5 =>
      if r2 = 0 then
        j5 0 μ3
      else
        j5 (iv_shl 1 l2) μ3
def f_X10_open  (μ : ivM) : Option (Int × ivM) :=
  lp_X10_open_4  iv_fuel 0 0 μ
def lp_X10_isTold_39 (l1 : Int) (l2 : Int) (k94 : Int → ivM → Option (Int × ivM)) : Nat → Int → Int → ivM → Option (Int × ivM)
  | 0, _, _, _ => none
  | n + 1, l3, l4, μ =>
    iv_ck (0 ≤ l2 ∧ l2 < 8) <|
    if (μ 112 l2.toNat) ≤ l4 then
      k94 l3 μ
    else
      if l3 = 0 then
        k94 l3 μ
      else
        iv_ck (0 ≤ (iv_wr ((iv_wr (5 * l2)) + l4)) ∧ (iv_wr ((iv_wr (5 * l2)) + l4)) < 40) <|
        iv_ck (0 ≤ (iv_wr ((iv_wr (5 * (μ 110 5))) + l4)) ∧ (iv_wr ((iv_wr (5 * (μ 110 5))) + l4)) < 40) <|
        iv_let (fun (v19 : Int) (μ20 : ivM) =>
          lp_X10_isTold_39 l1 l2 k94 n v19 (iv_wr (l4 + 1)) μ20) fun j17 =>
        if (μ 111 (iv_wr ((iv_wr (5 * l2)) + l4)).toNat) = (μ 111 (iv_wr ((iv_wr (5 * (μ 110 5))) + l4)).toNat) then
          j17 1 μ
        else
          j17 0 μ
def lp_X10_isTold_4   : Nat → Int → Int → ivM → Option (Int × ivM)
  | 0, _, _, _ => none
  | n + 1, l1, l2, μ =>
    if (μ 110 5) ≤ l2 then
      iv_ck (l1 = 0 ∨ l1 = 1) <| some (l1, μ)
    else
      iv_ck (0 ≤ l2 ∧ l2 < 8) <|
      iv_ck (0 ≤ (μ 110 5) ∧ (μ 110 5) < 8) <|
      iv_let (fun (v8 : Int) (μ9 : ivM) =>
        lp_X10_isTold_39 l1 l2 (fun (w24 : Int) (μ26 : ivM) =>
          iv_let (fun (v33 : Int) (μ34 : ivM) =>
            lp_X10_isTold_4  n v33 (iv_wr (l2 + 1)) μ34) fun j29 =>
          iv_let (fun (μ41 : ivM) =>
            j29 1 μ41) fun j37 =>
          if l1 = 0 then
            if w24 = 0 then
              j29 0 μ26
            else
              j37 μ26
          else
            j37 μ26) iv_fuel v8 0 μ9) fun j5 =>
      if (μ 112 l2.toNat) = (μ 112 (μ 110 5).toNat) then
        j5 1 μ
      else
        j5 0 μ
def f_X10_isTold  (μ : ivM) : Option (Int × ivM) :=
  lp_X10_isTold_4  iv_fuel 0 0 μ
def lp_X10_readName_12  (k70 : Int → ivM → Option (Int × ivM)) : Nat → Int → ivM → Option (Int × ivM)
  | 0, _, _ => none
  | n + 1, l1, μ =>
    if 5 ≤ l1 then
      k70 l1 μ
    else
      iv_bnd (f_X10_here μ) fun r2 μ3 =>
      iv_bnd (f_X10_in r2 97 102 μ3) fun r5 μ6 =>
      if r5 = 0 then
        k70 l1 μ6
      else
        iv_bnd (f_X10_here μ6) fun r9 μ10 =>
        iv_ck (0 ≤ (iv_wr ((iv_wr (5 * (μ6 110 5))) + l1)) ∧ (iv_wr ((iv_wr (5 * (μ6 110 5))) + l1)) < 40) <|
        lp_X10_readName_12 k70 n (iv_wr (l1 + 1)) (iv_upd (iv_upd μ10 111 (iv_wr ((iv_wr (5 * (μ6 110 5))) + l1)).toNat (iv_wr (r9 - 97))) 110 18 (iv_wr (((iv_upd μ10 111 (iv_wr ((iv_wr (5 * (μ6 110 5))) + l1)).toNat (iv_wr (r9 - 97))) 110 18) + 1)))
def f_X10_readName  (μ : ivM) : Option (Int × ivM) :=
  lp_X10_readName_12 (fun (w13 : Int) (μ14 : ivM) =>
    iv_ck (0 ≤ (μ14 110 5) ∧ (μ14 110 5) < 8) <|
    iv_ck (0 ≤ ((iv_upd μ14 112 (μ14 110 5).toNat w13) 110 5) ∧ ((iv_upd μ14 112 (μ14 110 5).toNat w13) 110 5) < 8) <|
    iv_let (fun (μ21 : ivM) =>
      some (0, (iv_upd μ21 110 5 (iv_wr ((μ21 110 5) + 1))))) fun j19 =>
    if w13 = 0 then
      iv_bnd (f_X10_fail (iv_upd (iv_upd μ14 112 (μ14 110 5).toNat w13) 113 ((iv_upd μ14 112 (μ14 110 5).toNat w13) 110 5).toNat 0)) fun _ μ26 =>
      j19 μ26
    else
      iv_bnd (f_X10_isTold (iv_upd (iv_upd μ14 112 (μ14 110 5).toNat w13) 113 ((iv_upd μ14 112 (μ14 110 5).toNat w13) 110 5).toNat 0)) fun r28 μ29 =>
      if r28 = 0 then
        j19 μ29
      else
        iv_let (fun (v34 : Int) (μ35 : ivM) =>
          iv_bnd (f_X10_fail (iv_upd μ35 110 18 (iv_wr ((μ29 110 18) - v34)))) fun _ μ39 =>
          j19 μ39) fun j32 =>
        if w13 = 5 then
          j32 1 μ29
        else
          j32 0 μ29) iv_fuel 0 (iv_upd μ 110 18 (iv_wr ((μ 110 18) + 1)))
def lp_X10_readText_47  (k225 : ivM → Option (Int × ivM)) : Nat → ivM → Option (Int × ivM)
  | 0, _ => none
  | n + 1, μ =>
    if (μ 110 19) = (-9) then
      if (μ 110 17) ≤ (μ 110 18) then
        k225 μ
      else
        iv_bnd (f_X10_here μ) fun r10 μ11 =>
        iv_let (fun (μ17 : ivM) =>
          lp_X10_readText_47 k225 n μ17) fun j13 =>
        iv_let (fun (μ23 : ivM) =>
          iv_let (fun (μ29 : ivM) =>
            iv_let (fun (μ36 : ivM) =>
              iv_bnd (f_X10_fail μ36) fun _ μ40 =>
              j13 μ40) fun j32 =>
            if r10 = 75 then
              iv_bnd (f_X10_open μ29) fun r43 μ44 =>
              if r43 = 0 then
                j32 μ44
              else
                iv_bnd (f_X10_open (iv_upd μ44 110 18 (iv_wr ((μ44 110 18) + 1)))) fun r47 μ48 =>
                iv_bnd (f_X10_figure r47 μ48) fun r50 μ51 =>
                iv_bnd (f_X10_unknown r50 μ51) fun r53 μ54 =>
                iv_bnd (f_X10_figure r53 μ54) fun r56 μ57 =>
                iv_ck (0 ≤ r56 ∧ r56 < 8) <|
                iv_let (fun (v64 : Int) (μ65 : ivM) =>
                  iv_ck (0 ≤ r56 ∧ r56 < 8) <|
                  j13 (iv_upd μ65 113 r56.toNat (iv_or (μ57 113 r56.toNat) v64))) fun j60 =>
                if (μ57 110 19) = (-9) then
                  j60 (iv_shl 1 r50) μ57
                else
                  j60 0 μ57
            else
              j32 μ29) fun j26 =>
          if r10 = 80 then
            if 6 ≤ (μ23 110 6) then
              j26 μ23
            else
              iv_bnd (f_X10_figure 1022 (iv_upd μ23 110 18 (iv_wr ((μ23 110 18) + 1)))) fun r72 μ73 =>
              iv_ck (0 ≤ ((iv_upd μ23 110 18 (iv_wr ((μ23 110 18) + 1))) 110 6) ∧ ((iv_upd μ23 110 18 (iv_wr ((μ23 110 18) + 1))) 110 6) < 6) <|
              j13 (iv_upd (iv_upd μ73 114 ((iv_upd μ23 110 18 (iv_wr ((μ23 110 18) + 1))) 110 6).toNat r72) 110 6 (iv_wr (((iv_upd μ73 114 ((iv_upd μ23 110 18 (iv_wr ((μ23 110 18) + 1))) 110 6).toNat r72) 110 6) + 1)))
          else
            j26 μ23) fun j20 =>
        if r10 = 78 then
          if 8 ≤ (μ11 110 5) then
            j20 μ11
          else
            iv_bnd (f_X10_readName μ11) fun _ μ79 =>
            j13 μ79
        else
          j20 μ11
    else
      k225 μ
def f_X10_readText  (μ : ivM) : Option (Int × ivM) :=
  iv_bnd (f_X10_here (iv_upd (iv_upd (iv_upd (iv_upd μ 110 18 0) 110 19 (-9)) 110 5 0) 110 6 0)) fun r1 μ2 =>
  if r1 = 72 then
    iv_bnd (f_X10_figure 15 (iv_upd μ2 110 18 1)) fun r5 μ6 =>
    lp_X10_readText_47 (fun (μ84 : ivM) =>
      some ((μ84 110 19), μ84)) iv_fuel (iv_upd μ6 110 4 r5)
  else
    some (0, μ2)
def f_X10_fault  (μ : ivM) : Option (Int × ivM) :=
  iv_bnd (f_X10_readText μ) fun r1 μ2 =>
  some (r1, μ2)
def lp_X10_house_14  (k38 : ivM → Option (Int × ivM)) : Nat → Int → ivM → Option (Int × ivM)
  | 0, _, _ => none
  | n + 1, l1, μ =>
    if 40 ≤ l1 then
      k38 μ
    else
      iv_ck (0 ≤ l1 ∧ l1 < 40) <|
      iv_ck (0 ≤ l1 ∧ l1 < 40) <|
      lp_X10_house_14 k38 n (iv_wr (l1 + 1)) (iv_upd μ 115 l1.toNat (μ 111 l1.toNat))
def lp_X10_house_40  (k107 : ivM → Option (Int × ivM)) : Nat → Int → ivM → Option (Int × ivM)
  | 0, _, _ => none
  | n + 1, l1, μ =>
    if 8 ≤ l1 then
      k107 μ
    else
      iv_let (fun (v14 : Int) (μ15 : ivM) =>
        iv_ck (0 ≤ l1 ∧ l1 < 8) <|
        iv_let (fun (v20 : Int) (μ21 : ivM) =>
          iv_ck (0 ≤ l1 ∧ l1 < 8) <|
          iv_ck (0 ≤ l1 ∧ l1 < 8) <|
          lp_X10_house_40 k107 n (iv_wr (l1 + 1)) (iv_upd (iv_upd μ21 117 l1.toNat v20) 118 l1.toNat 0)) fun j19 =>
        if ((iv_upd μ15 116 l1.toNat v14) 110 5) ≤ l1 then
          j19 0 (iv_upd μ15 116 l1.toNat v14)
        else
          iv_ck (0 ≤ l1 ∧ l1 < 8) <|
          j19 ((iv_upd μ15 116 l1.toNat v14) 113 l1.toNat) (iv_upd μ15 116 l1.toNat v14)) fun j13 =>
      if (μ 110 5) ≤ l1 then
        j13 0 μ
      else
        iv_ck (0 ≤ l1 ∧ l1 < 8) <|
        j13 (μ 112 l1.toNat) μ
def lp_X10_house_109  (k133 : ivM → Option (Int × ivM)) : Nat → Int → ivM → Option (Int × ivM)
  | 0, _, _ => none
  | n + 1, l1, μ =>
    if 6 ≤ l1 then
      k133 μ
    else
      iv_ck (0 ≤ l1 ∧ l1 < 6) <|
      iv_ck (0 ≤ l1 ∧ l1 < 6) <|
      lp_X10_house_109 k133 n (iv_wr (l1 + 1)) (iv_upd μ 119 l1.toNat (μ 114 l1.toNat))
def f_X10_house  (μ : ivM) : Option (Int × ivM) :=
  iv_bnd (f_X10_readText μ) fun r1 μ2 =>
  if r1 = (-9) then
    lp_X10_house_14 (fun (μ9 : ivM) =>
      lp_X10_house_40 (fun (μ31 : ivM) =>
        lp_X10_house_109 (fun (μ38 : ivM) =>
          some ((iv_wr ((iv_wr (10 * ((iv_upd (iv_upd (iv_upd (iv_upd (iv_upd (iv_upd μ38 110 12 (μ38 110 4)) 110 13 ((iv_upd μ38 110 12 (μ38 110 4)) 110 5)) 110 14 ((iv_upd (iv_upd μ38 110 12 (μ38 110 4)) 110 13 ((iv_upd μ38 110 12 (μ38 110 4)) 110 5)) 110 6)) 110 15 0) 130 0 (0 % 2)) 130 1 (0 % 2)) 110 13))) + ((iv_upd (iv_upd (iv_upd (iv_upd (iv_upd (iv_upd μ38 110 12 (μ38 110 4)) 110 13 ((iv_upd μ38 110 12 (μ38 110 4)) 110 5)) 110 14 ((iv_upd (iv_upd μ38 110 12 (μ38 110 4)) 110 13 ((iv_upd μ38 110 12 (μ38 110 4)) 110 5)) 110 6)) 110 15 0) 130 0 (0 % 2)) 130 1 (0 % 2)) 110 14))), (iv_upd (iv_upd (iv_upd (iv_upd (iv_upd (iv_upd μ38 110 12 (μ38 110 4)) 110 13 ((iv_upd μ38 110 12 (μ38 110 4)) 110 5)) 110 14 ((iv_upd (iv_upd μ38 110 12 (μ38 110 4)) 110 13 ((iv_upd μ38 110 12 (μ38 110 4)) 110 5)) 110 6)) 110 15 0) 130 0 (0 % 2)) 130 1 (0 % 2)))) iv_fuel 0 μ31) iv_fuel 0 μ9) iv_fuel 0 μ2
  else
    some ((-3), μ2)
def f_X10_isThing (p1 : Int) (μ : ivM) : Option (Int × ivM) :=
  iv_bnd (f_X10_in p1 0 (iv_wr ((μ 110 13) - 1)) μ) fun r1 μ2 =>
  iv_ck (r1 = 0 ∨ r1 = 1) <| some (r1, μ2)
def f_X10_isPerson (p1 : Int) (μ : ivM) : Option (Int × ivM) :=
  iv_bnd (f_X10_in p1 0 (iv_wr ((μ 110 14) - 1)) μ) fun r1 μ2 =>
  iv_ck (r1 = 0 ∨ r1 = 1) <| some (r1, μ2)
def f_X10_sound (p1 : Int) (p2 : Int) (μ : ivM) : Option (Int × ivM) :=
  iv_bnd (f_X10_isThing p1 μ) fun r1 μ2 =>
  if r1 = 0 then
    some ((-1), μ2)
  else
    iv_ck (0 ≤ p1 ∧ p1 < 8) <|
    iv_bnd (f_X10_in p2 0 (iv_wr ((μ2 116 p1.toNat) - 1)) μ2) fun r6 μ7 =>
    iv_let (fun (v13 : Int) (μ14 : ivM) =>
      some (v13, μ14)) fun j9 =>
    if r6 = 0 then
      j9 (-9) μ7
    else
      iv_ck (0 ≤ (iv_wr ((iv_wr (5 * p1)) + p2)) ∧ (iv_wr ((iv_wr (5 * p1)) + p2)) < 40) <|
      j9 (μ7 115 (iv_wr ((iv_wr (5 * p1)) + p2)).toNat) μ7
def f_X10_least (p0 : Int) (p1 : Int) (p2 : Int) (μ : ivM) : Option (Int × ivM) :=
  iv_let (fun (v5 : Int) (μ6 : ivM) =>
    iv_let (fun (v14 : Int) (μ15 : ivM) =>
      some (v14, μ15)) fun j9 =>
    if p2 ≤ v5 then
      j9 p2 μ6
    else
      j9 v5 μ6) fun j1 =>
  if p1 ≤ p0 then
    j1 p1 μ
  else
    j1 p0 μ
def lp_X10_offTried_12 (l1 : Int) (l2 : Int) (k138 : ivM → Option (Int × ivM)) : Nat → Int → ivM → Option (Int × ivM)
  | 0, _, _ => none
  | n + 1, l3, μ =>
    iv_ck (0 ≤ l1 ∧ l1 < 8) <|
    if (μ 116 l1.toNat) < l3 then
      k138 μ
    else
      iv_let (fun (v6 : Int) (μ7 : ivM) =>
        iv_ck (0 ≤ (iv_wr ((iv_wr (6 * l2)) + l3)) ∧ (iv_wr ((iv_wr (6 * l2)) + l3)) < 36) <|
        lp_X10_offTried_12 l1 l2 k138 n (iv_wr (l3 + 1)) (iv_upd μ7 122 (iv_wr ((iv_wr (6 * l2)) + l3)).toNat v6)) fun j4 =>
      if l2 = 0 then
        j4 l3 μ
      else
        if l3 = 0 then
          j4 l2 μ
        else
          iv_ck (0 ≤ (iv_wr ((iv_wr ((iv_wr (6 * l2)) - 6)) + l3)) ∧ (iv_wr ((iv_wr ((iv_wr (6 * l2)) - 6)) + l3)) < 36) <|
          iv_ck (0 ≤ (iv_wr ((iv_wr ((iv_wr (6 * l2)) + l3)) - 1)) ∧ (iv_wr ((iv_wr ((iv_wr (6 * l2)) + l3)) - 1)) < 36) <|
          iv_ck (0 ≤ (iv_wr ((iv_wr ((iv_wr ((iv_wr (6 * l2)) - 6)) + l3)) - 1)) ∧ (iv_wr ((iv_wr ((iv_wr ((iv_wr (6 * l2)) - 6)) + l3)) - 1)) < 36) <|
          iv_ck (0 ≤ (iv_wr (l2 - 1)) ∧ (iv_wr (l2 - 1)) < 5) <|
          iv_ck (0 ≤ (iv_wr ((iv_wr ((iv_wr (5 * l1)) + l3)) - 1)) ∧ (iv_wr ((iv_wr ((iv_wr (5 * l1)) + l3)) - 1)) < 40) <|
          iv_let (fun (v20 : Int) (μ21 : ivM) =>
            iv_bnd (f_X10_least (iv_wr ((μ 122 (iv_wr ((iv_wr ((iv_wr (6 * l2)) - 6)) + l3)).toNat) + 1)) (iv_wr ((μ 122 (iv_wr ((iv_wr ((iv_wr (6 * l2)) + l3)) - 1)).toNat) + 1)) (iv_wr ((μ 122 (iv_wr ((iv_wr ((iv_wr ((iv_wr (6 * l2)) - 6)) + l3)) - 1)).toNat) + v20)) μ21) fun r24 μ25 =>
            j4 r24 μ25) fun j18 =>
          if (μ 121 (iv_wr (l2 - 1)).toNat) = (μ 115 (iv_wr ((iv_wr ((iv_wr (5 * l1)) + l3)) - 1)).toNat) then
            j18 0 μ
          else
            j18 1 μ
def lp_X10_offTried_2 (l1 : Int) (k144 : ivM → Option (Int × ivM)) : Nat → Int → ivM → Option (Int × ivM)
  | 0, _, _ => none
  | n + 1, l2, μ =>
    if (μ 110 21) < l2 then
      k144 μ
    else
      lp_X10_offTried_12 l1 l2 (fun (μ30 : ivM) =>
        lp_X10_offTried_2 l1 k144 n (iv_wr (l2 + 1)) μ30) iv_fuel 0 μ
def f_X10_offTried (p1 : Int) (μ : ivM) : Option (Int × ivM) :=
  lp_X10_offTried_2 p1 (fun (μ36 : ivM) =>
    iv_ck (0 ≤ p1 ∧ p1 < 8) <|
    iv_ck (0 ≤ (iv_wr ((iv_wr (6 * (μ36 110 21))) + (μ36 116 p1.toNat))) ∧ (iv_wr ((iv_wr (6 * (μ36 110 21))) + (μ36 116 p1.toNat))) < 36) <|
    some ((μ36 122 (iv_wr ((iv_wr (6 * (μ36 110 21))) + (μ36 116 p1.toNat))).toNat), μ36)) iv_fuel 0 μ
def lp_X10_offOf_12 (l1 : Int) (l2 : Int) (k42 : ivM → Option (Int × ivM)) : Nat → Int → ivM → Option (Int × ivM)
  | 0, _, _ => none
  | n + 1, l3, μ =>
    if (μ 110 21) ≤ l3 then
      k42 μ
    else
      iv_ck (0 ≤ (iv_wr ((iv_wr (5 * l1)) + l3)) ∧ (iv_wr ((iv_wr (5 * l1)) + l3)) < 40) <|
      iv_ck (0 ≤ l3 ∧ l3 < 5) <|
      lp_X10_offOf_12 l1 l2 k42 n (iv_wr (l3 + 1)) (iv_upd μ 121 l3.toNat (μ 115 (iv_wr ((iv_wr (5 * l1)) + l3)).toNat))
def f_X10_offOf (p1 : Int) (p2 : Int) (μ : ivM) : Option (Int × ivM) :=
  iv_ck (0 ≤ p1 ∧ p1 < 8) <|
  lp_X10_offOf_12 p1 p2 (fun (μ7 : ivM) =>
    iv_bnd (f_X10_offTried p2 μ7) fun r10 μ11 =>
    some (r10, μ11)) iv_fuel 0 (iv_upd μ 110 21 (μ 116 p1.toNat))
def f_X10_off (p1 : Int) (p2 : Int) (μ : ivM) : Option (Int × ivM) :=
  iv_bnd (f_X10_isThing p1 μ) fun r1 μ2 =>
  iv_let (fun (v8 : Int) (μ9 : ivM) =>
    some (v8, μ9)) fun j4 =>
  iv_let (fun (μ16 : ivM) =>
    j4 (-1) μ16) fun j12 =>
  if r1 = 0 then
    j12 μ2
  else
    iv_bnd (f_X10_isThing p2 μ2) fun r20 μ21 =>
    if r20 = 0 then
      j12 μ21
    else
      iv_bnd (f_X10_offOf p1 p2 μ21) fun r24 μ25 =>
      j4 r24 μ25
def f_X10_isLive (p1 : Int) (μ : ivM) : Option (Int × ivM) :=
  iv_ck (0 ≤ p1 ∧ p1 < 8) <|
  iv_let (fun (v5 : Int) (μ6 : ivM) =>
    iv_ck (v5 = 0 ∨ v5 = 1) <| some (v5, μ6)) fun j2 =>
  if 9 < (iv_wr ((μ 110 15) - (μ 118 p1.toNat))) then
    j2 0 μ
  else
    j2 1 μ
def lp_X10_nearTo_4 (l1 : Int)  : Nat → Int → Int → ivM → Option (Int × ivM)
  | 0, _, _, _ => none
  | n + 1, l2, l3, μ =>
    if (μ 110 13) ≤ l3 then
      some (l2, μ)
    else
      iv_let (fun (v4 : Int) (μ5 : ivM) =>
        lp_X10_nearTo_4 l1 n (iv_or l2 v4) (iv_wr (l3 + 1)) μ5) fun j2 =>
      iv_let (fun (μ10 : ivM) =>
        j2 0 μ10) fun j8 =>
      if l3 = l1 then
        j8 μ
      else
        iv_bnd (f_X10_isLive l3 μ) fun r14 μ15 =>
        if r14 = 0 then
          j8 μ15
        else
          iv_bnd (f_X10_offOf l1 l3 μ15) fun r18 μ19 =>
          if (μ19 110 12) < r18 then
            j8 μ19
          else
            j2 (iv_shl 1 l3) μ19
def f_X10_nearTo (p1 : Int) (μ : ivM) : Option (Int × ivM) :=
  lp_X10_nearTo_4 p1 iv_fuel 0 0 μ
def f_X10_near (p1 : Int) (μ : ivM) : Option (Int × ivM) :=
  iv_bnd (f_X10_isThing p1 μ) fun r1 μ2 =>
  if r1 = 0 then
    some ((-1), μ2)
  else
    iv_bnd (f_X10_isLive p1 μ2) fun r5 μ6 =>
    iv_let (fun (v11 : Int) (μ12 : ivM) =>
      some (v11, μ12)) fun j8 =>
    if r5 = 0 then
      j8 (-3) μ6
    else
      iv_bnd (f_X10_nearTo p1 μ6) fun r16 μ17 =>
      j8 r16 μ17
def f_X10_knows (p1 : Int) (μ : ivM) : Option (Int × ivM) :=
  iv_bnd (f_X10_isThing p1 μ) fun r1 μ2 =>
  iv_let (fun (v7 : Int) (μ8 : ivM) =>
    some (v7, μ8)) fun j4 =>
  if r1 = 0 then
    j4 (-1) μ2
  else
    iv_ck (0 ≤ p1 ∧ p1 < 8) <|
    j4 (μ2 117 p1.toNat) μ2
def lp_X10_liveSet_4   : Nat → Int → Int → ivM → Option (Int × ivM)
  | 0, _, _, _ => none
  | n + 1, l1, l2, μ =>
    if (μ 110 13) ≤ l2 then
      some (l1, μ)
    else
      iv_bnd (f_X10_isLive l2 μ) fun r2 μ3 =>
      iv_let (fun (v7 : Int) (μ8 : ivM) =>
        lp_X10_liveSet_4  n (iv_or l1 v7) (iv_wr (l2 + 1)) μ8) fun j5 =>
      if r2 = 0 then
        j5 0 μ3
      else
        j5 (iv_shl 1 l2) μ3
def f_X10_liveSet  (μ : ivM) : Option (Int × ivM) :=
  lp_X10_liveSet_4  iv_fuel 0 0 μ
def f_X10_live  (μ : ivM) : Option (Int × ivM) :=
  iv_bnd (f_X10_liveSet μ) fun r1 μ2 =>
  some (r1, μ2)
def lp_X10_days_32 (l2 : Int) (k70 : ivM → Option (Int × ivM)) : Nat → Int → ivM → Option (Int × ivM)
  | 0, _, _ => none
  | n + 1, l3, μ =>
    if (μ 110 13) ≤ l3 then
      k70 μ
    else
      iv_bnd (f_X10_isLive l3 μ) fun r9 μ10 =>
      iv_let (fun (v14 : Int) (μ15 : ivM) =>
        iv_ck (0 ≤ l3 ∧ l3 < 8) <|
        lp_X10_days_32 l2 k70 n (iv_wr (l3 + 1)) (iv_upd μ15 117 l3.toNat v14)) fun j12 =>
      if r9 = 0 then
        j12 0 μ10
      else
        iv_ck (0 ≤ l3 ∧ l3 < 8) <|
        j12 (μ10 117 l3.toNat) μ10
def f_X10_days (p1 : Int) (μ : ivM) : Option (Int × ivM) :=
  iv_bnd (f_X10_in p1 1 99 μ) fun r1 μ2 =>
  if r1 = 0 then
    some ((-2), μ2)
  else
    iv_bnd (f_X10_liveSet μ2) fun r5 μ6 =>
    lp_X10_days_32 r5 (fun (μ23 : ivM) =>
      iv_bnd (f_X10_liveSet μ23) fun r26 μ27 =>
      some ((iv_and r5 (iv_xor r26 (-1))), μ27)) iv_fuel 0 (iv_upd μ6 110 15 (iv_wr ((μ6 110 15) + p1)))
def f_X10_fades (p1 : Int) (μ : ivM) : Option (Int × ivM) :=
  iv_bnd (f_X10_isThing p1 μ) fun r1 μ2 =>
  if r1 = 0 then
    some ((-1), μ2)
  else
    iv_bnd (f_X10_isLive p1 μ2) fun r5 μ6 =>
    iv_let (fun (v11 : Int) (μ12 : ivM) =>
      some (v11, μ12)) fun j8 =>
    if r5 = 0 then
      j8 (-3) μ6
    else
      iv_ck (0 ≤ p1 ∧ p1 < 8) <|
      j8 (iv_wr ((iv_wr ((μ6 118 p1.toNat) + 10)) - (μ6 110 15))) μ6
def f_X10_isKnown (p1 : Int) (p2 : Int) (μ : ivM) : Option (Int × ivM) :=
  iv_ck (0 ≤ p2 ∧ p2 < 8) <|
  iv_let (fun (v6 : Int) (μ7 : ivM) =>
    iv_ck (v6 = 0 ∨ v6 = 1) <| some (v6, μ7)) fun j2 =>
  if (iv_and (iv_shr (μ 117 p2.toNat) p1) 1) = 1 then
    j2 1 μ
  else
    j2 0 μ
def f_X10_say (p1 : Int) (p2 : Int) (p3 : Int) (μ : ivM) : Option (Int × ivM) :=
  iv_bnd (f_X10_isPerson p1 μ) fun r1 μ2 =>
  iv_let (fun (μ9 : ivM) =>
    some ((-1), μ9)) fun j4 =>
  if r1 = 0 then
    j4 μ2
  else
    iv_bnd (f_X10_isThing p2 μ2) fun r13 μ14 =>
    if r13 = 0 then
      j4 μ14
    else
      iv_bnd (f_X10_in p3 0 (iv_wr ((iv_shl 1 (μ14 110 14)) - 1)) μ14) fun r17 μ18 =>
      if r17 = 0 then
        some ((-2), μ18)
      else
        iv_bnd (f_X10_isKnown p1 p2 μ18) fun r21 μ22 =>
        if r21 = 0 then
          some ((-3), μ22)
        else
          iv_ck (0 ≤ p2 ∧ p2 < 8) <|
          iv_ck (0 ≤ p2 ∧ p2 < 8) <|
          iv_ck (0 ≤ p2 ∧ p2 < 8) <|
          iv_ck (0 ≤ p2 ∧ p2 < 8) <|
          some (((iv_upd (iv_upd μ22 118 p2.toNat (μ22 110 15)) 117 p2.toNat (iv_or ((iv_upd μ22 118 p2.toNat (μ22 110 15)) 117 p2.toNat) p3)) 117 p2.toNat), (iv_upd (iv_upd μ22 118 p2.toNat (μ22 110 15)) 117 p2.toNat (iv_or ((iv_upd μ22 118 p2.toNat (μ22 110 15)) 117 p2.toNat) p3)))
def f_X10_give (p1 : Int) (p2 : Int) (p3 : Int) (μ : ivM) : Option (Int × ivM) :=
  iv_bnd (f_X10_isPerson p1 μ) fun r1 μ2 =>
  iv_let (fun (μ9 : ivM) =>
    some ((-1), μ9)) fun j4 =>
  if r1 = 0 then
    j4 μ2
  else
    iv_bnd (f_X10_isPerson p2 μ2) fun r13 μ14 =>
    if r13 = 0 then
      j4 μ14
    else
      iv_bnd (f_X10_isThing p3 μ14) fun r17 μ18 =>
      if r17 = 0 then
        j4 μ18
      else
        iv_let (fun (μ26 : ivM) =>
          some ((-3), μ26)) fun j21 =>
        if p1 = p2 then
          j21 μ18
        else
          iv_bnd (f_X10_isKnown p1 p3 μ18) fun r30 μ31 =>
          if r30 = 0 then
            j21 μ31
          else
            iv_ck (0 ≤ p3 ∧ p3 < 8) <|
            iv_ck (0 ≤ p3 ∧ p3 < 8) <|
            iv_ck (0 ≤ p3 ∧ p3 < 8) <|
            iv_ck (0 ≤ p3 ∧ p3 < 8) <|
            some (((iv_upd (iv_upd μ31 118 p3.toNat (μ31 110 15)) 117 p3.toNat (iv_and (iv_or ((iv_upd μ31 118 p3.toNat (μ31 110 15)) 117 p3.toNat) (iv_shl 1 p2)) (iv_xor (iv_shl 1 p1) (-1)))) 117 p3.toNat), (iv_upd (iv_upd μ31 118 p3.toNat (μ31 110 15)) 117 p3.toNat (iv_and (iv_or ((iv_upd μ31 118 p3.toNat (μ31 110 15)) 117 p3.toNat) (iv_shl 1 p2)) (iv_xor (iv_shl 1 p1) (-1)))))
def lp_X10_layFresh_35 (l1 : Int) (l2 : Int) (l3 : Int) (k65 : ivM → Option (Int × ivM)) : Nat → Int → Int → ivM → Option (Int × ivM)
  | 0, _, _, _ => none
  | n + 1, l4, l5, μ =>
    if l5 < 0 then
      k65 μ
    else
      iv_ck (0 ≤ l5 ∧ l5 < 5) <|
      lp_X10_layFresh_35 l1 l2 l3 k65 n (iv_div l4 6) (iv_wr (l5 + (-1))) (iv_upd μ 121 l5.toNat (iv_rem l4 6))
def lp_X10_layFresh_71 (l1 : Int) (l2 : Int) (l3 : Int) (k120 : Int → ivM → Option (Int × ivM)) : Nat → Int → Int → ivM → Option (Int × ivM)
  | 0, _, _, _ => none
  | n + 1, l5, l6, μ =>
    if (μ 110 13) ≤ l6 then
      k120 l5 μ
    else
      if l5 = 0 then
        k120 l5 μ
      else
        iv_bnd (f_X10_isLive l6 μ) fun r13 μ14 =>
        iv_let (fun (v19 : Int) (μ20 : ivM) =>
          lp_X10_layFresh_71 l1 l2 l3 k120 n v19 (iv_wr (l6 + 1)) μ20) fun j16 =>
        iv_let (fun (μ26 : ivM) =>
          j16 1 μ26) fun j23 =>
        if r13 = 0 then
          j23 μ14
        else
          iv_bnd (f_X10_offTried l6 μ14) fun r30 μ31 =>
          if r30 ≤ (μ31 110 12) then
            j16 0 μ31
          else
            j23 μ31
def lp_X10_layFresh_17 (l1 : Int) (l2 : Int) (k133 : ivM → Option (Int × ivM)) : Nat → Int → ivM → Option (Int × ivM)
  | 0, _, _ => none
  | n + 1, l3, μ =>
    if l1 ≤ l3 then
      k133 μ
    else
      lp_X10_layFresh_35 l1 l2 l3 (fun (μ8 : ivM) =>
        lp_X10_layFresh_71 l1 l2 l3 (fun (w35 : Int) (μ37 : ivM) =>
          if w35 = 0 then
            lp_X10_layFresh_17 l1 l2 k133 n (iv_wr (l3 + 1)) μ37
          else
            some (1, μ37)) iv_fuel 1 0 μ8) iv_fuel l3 (iv_wr (l2 - 1)) (iv_upd μ 110 21 l2)
def lp_X10_layFresh_4   : Nat → Int → Int → ivM → Option (Int × ivM)
  | 0, _, _, _ => none
  | n + 1, l1, l2, μ =>
    if 6 ≤ l2 then
      some (0, μ)
    else
      lp_X10_layFresh_17 (iv_wr (l1 * 6)) l2 (fun (μ45 : ivM) =>
        lp_X10_layFresh_4  n (iv_wr (l1 * 6)) (iv_wr (l2 + 1)) μ45) iv_fuel 0 μ
def f_X10_layFresh  (μ : ivM) : Option (Int × ivM) :=
  lp_X10_layFresh_4  iv_fuel 1 1 μ
def f_X10_fresh (p1 : Int) (μ : ivM) : Option (Int × ivM) :=
  iv_bnd (f_X10_layFresh μ) fun r1 μ2 =>
  iv_let (fun (v7 : Int) (μ8 : ivM) =>
    some (v7, μ8)) fun j4 =>
  iv_let (fun (μ14 : ivM) =>
    j4 (-9) μ14) fun j11 =>
  if r1 = 0 then
    j11 μ2
  else
    iv_bnd (f_X10_in p1 0 (iv_wr ((μ2 110 21) - 1)) μ2) fun r18 μ19 =>
    if r18 = 0 then
      j11 μ19
    else
      iv_ck (0 ≤ p1 ∧ p1 < 5) <|
      j4 (μ19 121 p1.toNat) μ19
def lp_X10_anew_48 (l1 : Int) (l2 : Int) (k78 : ivM → Option (Int × ivM)) : Nat → Int → ivM → Option (Int × ivM)
  | 0, _, _ => none
  | n + 1, l3, μ =>
    if (μ 110 21) ≤ l3 then
      k78 μ
    else
      iv_ck (0 ≤ l3 ∧ l3 < 5) <|
      iv_ck (0 ≤ (iv_wr ((iv_wr (5 * l2)) + l3)) ∧ (iv_wr ((iv_wr (5 * l2)) + l3)) < 40) <|
      lp_X10_anew_48 l1 l2 k78 n (iv_wr (l3 + 1)) (iv_upd μ 115 (iv_wr ((iv_wr (5 * l2)) + l3)).toNat (μ 121 l3.toNat))
def f_X10_anew (p1 : Int) (p2 : Int) (μ : ivM) : Option (Int × ivM) :=
  iv_bnd (f_X10_isPerson p1 μ) fun r1 μ2 =>
  iv_let (fun (μ9 : ivM) =>
    some ((-1), μ9)) fun j4 =>
  if r1 = 0 then
    j4 μ2
  else
    iv_bnd (f_X10_isThing p2 μ2) fun r13 μ14 =>
    if r13 = 0 then
      j4 μ14
    else
      iv_bnd (f_X10_isLive p2 μ14) fun r17 μ18 =>
      iv_let (fun (μ25 : ivM) =>
        some ((-3), μ25)) fun j20 =>
      if r17 = 0 then
        iv_bnd (f_X10_layFresh μ18) fun r29 μ30 =>
        if r29 = 0 then
          j20 μ30
        else
          iv_ck (0 ≤ p2 ∧ p2 < 8) <|
          lp_X10_anew_48 p1 p2 (fun (μ38 : ivM) =>
            iv_ck (0 ≤ p2 ∧ p2 < 8) <|
            iv_ck (0 ≤ p2 ∧ p2 < 8) <|
            some (((iv_upd (iv_upd μ38 118 p2.toNat (μ38 110 15)) 117 p2.toNat (iv_shl 1 p1)) 110 21), (iv_upd (iv_upd μ38 118 p2.toNat (μ38 110 15)) 117 p2.toNat (iv_shl 1 p1)))) iv_fuel 0 (iv_upd μ30 116 p2.toNat (μ30 110 21))
      else
        j20 μ18
def lp_X10_liftsOf_4 (l1 : Int)  : Nat → Int → Int → ivM → Option (Int × ivM)
  | 0, _, _, _ => none
  | n + 1, l2, l3, μ =>
    if (μ 110 13) ≤ l3 then
      some (l2, μ)
    else
      iv_bnd (f_X10_isLive l3 μ) fun r2 μ3 =>
      iv_let (fun (v7 : Int) (μ8 : ivM) =>
        lp_X10_liftsOf_4 l1 n (iv_or l2 v7) (iv_wr (l3 + 1)) μ8) fun j5 =>
      iv_let (fun (μ13 : ivM) =>
        j5 0 μ13) fun j11 =>
      if r2 = 0 then
        j11 μ3
      else
        iv_bnd (f_X10_isKnown l1 l3 μ3) fun r17 μ18 =>
        if r17 = 0 then
          j11 μ18
        else
          iv_ck (0 ≤ l3 ∧ l3 < 8) <|
          iv_ck (0 ≤ l1 ∧ l1 < 6) <|
          if (μ18 119 l1.toNat) < (μ18 116 l3.toNat) then
            j11 μ18
          else
            iv_bnd (f_X10_nearTo l3 μ18) fun r24 μ25 =>
            if r24 = 0 then
              j5 (iv_shl 1 l3) μ25
            else
              j11 μ25
def f_X10_liftsOf (p1 : Int) (μ : ivM) : Option (Int × ivM) :=
  lp_X10_liftsOf_4 p1 iv_fuel 0 0 μ
def f_X10_lifts (p1 : Int) (μ : ivM) : Option (Int × ivM) :=
  iv_bnd (f_X10_isPerson p1 μ) fun r1 μ2 =>
  iv_let (fun (v7 : Int) (μ8 : ivM) =>
    some (v7, μ8)) fun j4 =>
  if r1 = 0 then
    j4 (-1) μ2
  else
    iv_bnd (f_X10_liftsOf p1 μ2) fun r12 μ13 =>
    j4 r12 μ13
def f_X10_isThings (p1 : Int) (μ : ivM) : Option (Int × ivM) :=
  iv_bnd (f_X10_in p1 0 (iv_wr ((iv_shl 1 (μ 110 13)) - 1)) μ) fun r1 μ2 =>
  iv_ck (r1 = 0 ∨ r1 = 1) <| some (r1, μ2)
def lp_X10_breaksAt_6 (l1 : Int) (l2 : Int) (l3 : Int) (k52 : Int → ivM → Option (Int × ivM)) : Nat → Int → Int → ivM → Option (Int × ivM)
  | 0, _, _, _ => none
  | n + 1, l4, l5, μ =>
    if (μ 110 13) ≤ l5 then
      some ((-9), μ)
    else
      iv_let (fun (w3 : Int) (μ4 : ivM) =>
        lp_X10_breaksAt_6 l1 l2 l3 k52 n w3 (iv_wr (l5 + 1)) μ4) fun j2 =>
      if (iv_and (iv_shr l3 l5) 1) = 1 then
        iv_ck (0 ≤ l5 ∧ l5 < 8) <|
        if (iv_and (iv_shr l1 l5) 1) = 0 then
          k52 l5 μ
        else
          if (iv_wr (l4 + (μ 116 l5.toNat))) ≤ l2 then
            j2 (iv_wr (l4 + (μ 116 l5.toNat))) μ
          else
            k52 l5 μ
      else
        j2 l4 μ
def f_X10_breaksAt (p1 : Int) (p2 : Int) (p3 : Int) (μ : ivM) : Option (Int × ivM) :=
  lp_X10_breaksAt_6 p1 p2 p3 (fun (w16 : Int) (μ17 : ivM) =>
    some (w16, μ17)) iv_fuel 0 0 μ
def f_X10_stands (p1 : Int) (p2 : Int) (μ : ivM) : Option (Int × ivM) :=
  iv_bnd (f_X10_isPerson p1 μ) fun r1 μ2 =>
  if r1 = 0 then
    some ((-1), μ2)
  else
    iv_bnd (f_X10_isThings p2 μ2) fun r5 μ6 =>
    iv_let (fun (v12 : Int) (μ13 : ivM) =>
      some (v12, μ13)) fun j8 =>
    if r5 = 0 then
      j8 (-2) μ6
    else
      iv_bnd (f_X10_liftsOf p1 μ6) fun r17 μ18 =>
      iv_ck (0 ≤ p1 ∧ p1 < 6) <|
      iv_bnd (f_X10_breaksAt r17 (μ18 119 p1.toNat) p2 μ18) fun r21 μ22 =>
      j8 r21 μ22
def lp_X10_leastLoad_5 (l1 : Int) (l2 : Int)  : Nat → Int → Int → ivM → Option (Int × ivM)
  | 0, _, _, _ => none
  | n + 1, l3, l4, μ =>
    if l4 = 0 then
      some ((-9), μ)
    else
      iv_ck (0 ≤ (iv_wr ((iv_wr (256 * l1)) + l3)) ∧ (iv_wr ((iv_wr (256 * l1)) + l3)) < 1536) <|
      iv_let (fun (μ5 : ivM) =>
        iv_let (fun (v10 : Int) (μ11 : ivM) =>
          lp_X10_leastLoad_5 l1 l2 n (iv_and (iv_wr (l3 - l2)) l2) v10 μ11) fun j8 =>
        if (iv_and (iv_wr (l3 - l2)) l2) = 0 then
          j8 0 μ5
        else
          j8 1 μ5) fun j3 =>
      if (μ 124 (iv_wr ((iv_wr (256 * l1)) + l3)).toNat) = 0 then
        j3 μ
      else
        iv_ck (0 ≤ (iv_wr ((iv_wr ((iv_wr (256 * l1)) + 256)) + (iv_and l2 (iv_xor l3 (-1))))) ∧ (iv_wr ((iv_wr ((iv_wr (256 * l1)) + 256)) + (iv_and l2 (iv_xor l3 (-1))))) < 1792) <|
        if (μ 123 (iv_wr ((iv_wr ((iv_wr (256 * l1)) + 256)) + (iv_and l2 (iv_xor l3 (-1))))).toNat) = 0 then
          j3 μ
        else
          some (l3, μ)
def f_X10_leastLoad (p1 : Int) (p2 : Int) (μ : ivM) : Option (Int × ivM) :=
  lp_X10_leastLoad_5 p1 p2 iv_fuel 0 1 μ
def lp_X10_layCan_2 (l1 : Int) (k34 : ivM → Option (Int × ivM)) : Nat → Int → ivM → Option (Int × ivM)
  | 0, _, _ => none
  | n + 1, l2, μ =>
    if 256 ≤ l2 then
      k34 μ
    else
      iv_let (fun (v6 : Int) (μ7 : ivM) =>
        iv_ck (0 ≤ (iv_wr (1536 + l2)) ∧ (iv_wr (1536 + l2)) < 1792) <|
        lp_X10_layCan_2 l1 k34 n (iv_wr (l2 + 1)) (iv_upd μ7 123 (iv_wr (1536 + l2)).toNat (v6 % 2))) fun j2 =>
      if l2 = 0 then
        j2 1 μ
      else
        j2 0 μ
def lp_X10_layCan_77 (l1 : Int) (l2 : Int) (l3 : Int) (l4 : Int) (k140 : ivM → Option (Int × ivM)) : Nat → Int → ivM → Option (Int × ivM)
  | 0, _, _ => none
  | n + 1, l5, μ =>
    if (iv_shl 1 (μ 110 13)) ≤ l5 then
      k140 μ
    else
      iv_let (fun (v37 : Int) (μ38 : ivM) =>
        iv_ck (0 ≤ (iv_wr ((iv_wr (256 * l2)) + l5)) ∧ (iv_wr ((iv_wr (256 * l2)) + l5)) < 1536) <|
        lp_X10_layCan_77 l1 l2 l3 l4 k140 n (iv_wr (l5 + 1)) (iv_upd μ38 124 (iv_wr ((iv_wr (256 * l2)) + l5)).toNat (v37 % 2))) fun j36 =>
      iv_let (fun (μ43 : ivM) =>
        j36 1 μ43) fun j42 =>
      if l5 = 0 then
        j42 μ
      else
        iv_let (fun (μ48 : ivM) =>
          j36 0 μ48) fun j47 =>
        if l3 = 0 then
          j47 μ
        else
          iv_ck (0 ≤ l2 ∧ l2 < 6) <|
          iv_bnd (f_X10_breaksAt l4 (μ 119 l2.toNat) l5 μ) fun r53 μ54 =>
          if r53 = (-9) then
            j42 μ54
          else
            j47 μ54
def lp_X10_layCan_143 (l1 : Int) (l2 : Int) (k190 : ivM → Option (Int × ivM)) : Nat → Int → ivM → Option (Int × ivM)
  | 0, _, _ => none
  | n + 1, l5, μ =>
    if (iv_shl 1 (μ 110 13)) ≤ l5 then
      k190 μ
    else
      iv_bnd (f_X10_leastLoad l2 l5 μ) fun r64 μ65 =>
      iv_let (fun (v70 : Int) (μ71 : ivM) =>
        iv_ck (0 ≤ (iv_wr ((iv_wr (256 * l2)) + l5)) ∧ (iv_wr ((iv_wr (256 * l2)) + l5)) < 1792) <|
        lp_X10_layCan_143 l1 l2 k190 n (iv_wr (l5 + 1)) (iv_upd μ71 123 (iv_wr ((iv_wr (256 * l2)) + l5)).toNat (v70 % 2))) fun j67 =>
      if r64 = (-9) then
        j67 0 μ65
      else
        j67 1 μ65
def lp_X10_layCan_36 (l1 : Int)  : Nat → Int → ivM → Option (Int × ivM)
  | 0, _, _ => none
  | n + 1, l2, μ =>
    if l2 < 0 then
      some (0, μ)
    else
      iv_let (fun (v24 : Int) (μ25 : ivM) =>
        iv_let (fun (v31 : Int) (μ32 : ivM) =>
          lp_X10_layCan_77 l1 l2 v24 v31 (fun (μ60 : ivM) =>
            lp_X10_layCan_143 l1 l2 (fun (μ79 : ivM) =>
              lp_X10_layCan_36 l1 n (iv_wr (l2 + (-1))) μ79) iv_fuel 0 μ60) iv_fuel 0 μ32) fun j28 =>
        if v24 = 0 then
          j28 0 μ25
        else
          iv_bnd (f_X10_liftsOf l2 μ25) fun r83 μ84 =>
          j28 r83 μ84) fun j20 =>
      iv_let (fun (μ90 : ivM) =>
        j20 0 μ90) fun j86 =>
      if (μ 110 14) ≤ l2 then
        j86 μ
      else
        if l2 = l1 then
          j86 μ
        else
          j20 1 μ
def f_X10_layCan (p1 : Int) (μ : ivM) : Option (Int × ivM) :=
  lp_X10_layCan_2 p1 (fun (μ16 : ivM) =>
    lp_X10_layCan_36 p1 iv_fuel 5 μ16) iv_fuel 0 μ
def lp_X10_carries_47 (l1 : Int)  : Nat → Int → Int → Int → ivM → Option (Int × ivM)
  | 0, _, _, _, _ => none
  | n + 1, l3, l4, l5, μ =>
    if l1 < l5 then
      some (l4, μ)
    else
      iv_bnd (f_X10_leastLoad l5 l3 μ) fun r15 μ16 =>
      lp_X10_carries_47 l1 n (iv_and l3 (iv_xor r15 (-1))) r15 (iv_wr (l5 + 1)) μ16
def f_X10_carries (p1 : Int) (p2 : Int) (μ : ivM) : Option (Int × ivM) :=
  iv_bnd (f_X10_isPerson p1 μ) fun r1 μ2 =>
  if r1 = 0 then
    some ((-1), μ2)
  else
    iv_bnd (f_X10_isThings p2 μ2) fun r5 μ6 =>
    if r5 = 0 then
      some ((-2), μ6)
    else
      iv_bnd (f_X10_layCan (-9) μ6) fun _ μ10 =>
      iv_ck (0 ≤ p2 ∧ p2 < 1792) <|
      if (μ10 123 p2.toNat) = 0 then
        some ((-3), μ10)
      else
        lp_X10_carries_47 p1 iv_fuel p2 0 0 μ10
def lp_X10_timesOf_31 (l1 : Int) (l2 : Int) (k109 : ivM → Option (Int × ivM)) : Nat → Int → ivM → Option (Int × ivM)
  | 0, _, _ => none
  | n + 1, l3, μ =>
    if l3 ≤ 0 then
      k109 μ
    else
      if (iv_and l2 (iv_xor l1 (-1))) = 0 then
        iv_ck (0 ≤ l3 ∧ l3 < 1792) <|
        iv_let (fun (v15 : Int) (μ16 : ivM) =>
          iv_ck (0 ≤ l2 ∧ l2 < 256) <|
          iv_let (fun (v22 : Int) (μ23 : ivM) =>
            iv_ck (0 ≤ l2 ∧ l2 < 256) <|
            lp_X10_timesOf_31 l1 l2 k109 n (iv_and (iv_wr (l3 - 1)) l2) (iv_upd μ23 125 l2.toNat v22)) fun j20 =>
          if (μ16 125 l2.toNat) ≤ v15 then
            iv_ck (0 ≤ l2 ∧ l2 < 256) <|
            j20 (μ16 125 l2.toNat) μ16
          else
            j20 v15 μ16) fun j13 =>
        if (μ 123 l3.toNat) = 0 then
          j13 999 μ
        else
          iv_ck (0 ≤ (iv_and l2 (iv_xor l3 (-1))) ∧ (iv_and l2 (iv_xor l3 (-1))) < 256) <|
          j13 (iv_wr ((μ 125 (iv_and l2 (iv_xor l3 (-1))).toNat) + 1)) μ
      else
        k109 μ
def lp_X10_timesOf_2 (l1 : Int) (k115 : ivM → Option (Int × ivM)) : Nat → Int → ivM → Option (Int × ivM)
  | 0, _, _ => none
  | n + 1, l2, μ =>
    if (iv_shl 1 (μ 110 13)) ≤ l2 then
      k115 μ
    else
      iv_let (fun (v5 : Int) (μ6 : ivM) =>
        iv_ck (0 ≤ l2 ∧ l2 < 256) <|
        lp_X10_timesOf_31 l1 l2 (fun (μ33 : ivM) =>
          lp_X10_timesOf_2 l1 k115 n (iv_wr (l2 + 1)) μ33) iv_fuel l2 (iv_upd μ6 125 l2.toNat v5)) fun j2 =>
      if l2 = 0 then
        j2 0 μ
      else
        j2 999 μ
def f_X10_timesOf (p1 : Int) (μ : ivM) : Option (Int × ivM) :=
  lp_X10_timesOf_2 p1 (fun (μ40 : ivM) =>
    iv_ck (0 ≤ p1 ∧ p1 < 256) <|
    some ((μ40 125 p1.toNat), μ40)) iv_fuel 0 μ
def f_X10_times (p1 : Int) (μ : ivM) : Option (Int × ivM) :=
  iv_bnd (f_X10_isThings p1 μ) fun r1 μ2 =>
  if r1 = 0 then
    some ((-2), μ2)
  else
    iv_bnd (f_X10_layCan (-9) μ2) fun _ μ6 =>
    iv_bnd (f_X10_timesOf p1 μ6) fun r8 μ9 =>
    iv_let (fun (v15 : Int) (μ16 : ivM) =>
      some (v15, μ16)) fun j11 =>
    if r8 ≤ 99 then
      j11 r8 μ9
    else
      j11 (-9) μ9
def lp_X10_worth_14 (l1 : Int) (k36 : Int → ivM → Option (Int × ivM)) : Nat → Int → Int → ivM → Option (Int × ivM)
  | 0, _, _, _ => none
  | n + 1, l2, l3, μ =>
    if (μ 110 14) ≤ l3 then
      k36 l2 μ
    else
      iv_bnd (f_X10_liftsOf l3 μ) fun r6 μ7 =>
      lp_X10_worth_14 l1 k36 n (iv_or l2 r6) (iv_wr (l3 + 1)) μ7
def f_X10_worth (p1 : Int) (μ : ivM) : Option (Int × ivM) :=
  iv_bnd (f_X10_isPerson p1 μ) fun r1 μ2 =>
  if r1 = 0 then
    some ((-1), μ2)
  else
    lp_X10_worth_14 p1 (fun (w9 : Int) (μ12 : ivM) =>
      iv_bnd (f_X10_layCan (-9) μ12) fun _ μ16 =>
      iv_bnd (f_X10_timesOf w9 μ16) fun r18 μ19 =>
      iv_bnd (f_X10_layCan p1 μ19) fun _ μ22 =>
      iv_bnd (f_X10_timesOf w9 μ22) fun r24 μ25 =>
      iv_let (fun (v33 : Int) (μ34 : ivM) =>
        some (v33, μ34)) fun j27 =>
      if r24 ≤ 99 then
        j27 (iv_wr (r24 - r18)) μ25
      else
        j27 99 μ25) iv_fuel 0 0 μ2
def lp_X10_upkeep_75 (l1 : Int) (l2 : Int) (l4 : Int) (l5 : Int) (k100 : Int → ivM → Option (Int × ivM)) : Nat → Int → Int → ivM → Option (Int × ivM)
  | 0, _, _, _ => none
  | n + 1, l3, l6, μ =>
    if l5 = 0 then
      k100 l3 μ
    else
      if (iv_wr ((μ 110 15) + l2)) ≤ l6 then
        k100 l3 μ
      else
        lp_X10_upkeep_75 l1 l2 l4 l5 k100 n (iv_wr (l3 + 1)) (iv_wr (l6 + 9)) μ
def lp_X10_upkeep_28 (l1 : Int) (l2 : Int)  : Nat → Int → Int → ivM → Option (Int × ivM)
  | 0, _, _, _ => none
  | n + 1, l3, l4, μ =>
    if (μ 110 13) ≤ l4 then
      some (l3, μ)
    else
      iv_let (fun (v24 : Int) (μ25 : ivM) =>
        iv_ck (0 ≤ l4 ∧ l4 < 8) <|
        lp_X10_upkeep_75 l1 l2 l4 v24 (fun (w31 : Int) (μ34 : ivM) =>
          lp_X10_upkeep_28 l1 l2 n w31 (iv_wr (l4 + 1)) μ34) iv_fuel l3 (iv_wr ((μ25 118 l4.toNat) + 9)) μ25) fun j21 =>
      iv_let (fun (μ40 : ivM) =>
        j21 0 μ40) fun j37 =>
      if (iv_and (iv_shr l1 l4) 1) = 1 then
        iv_bnd (f_X10_isLive l4 μ) fun r44 μ45 =>
        if r44 = 0 then
          j37 μ45
        else
          j21 1 μ45
      else
        j37 μ
def f_X10_upkeep (p1 : Int) (p2 : Int) (μ : ivM) : Option (Int × ivM) :=
  iv_bnd (f_X10_isThings p1 μ) fun r1 μ2 =>
  iv_let (fun (μ12 : ivM) =>
    some ((-2), μ12)) fun j4 =>
  if r1 = 0 then
    j4 μ2
  else
    iv_bnd (f_X10_in p2 0 99 μ2) fun r16 μ17 =>
    if r16 = 0 then
      j4 μ17
    else
      lp_X10_upkeep_28 p1 p2 iv_fuel 0 0 μ17
def lp_X10_mayHave_14 (l1 : Int)  : Nat → Int → Int → ivM → Option (Int × ivM)
  | 0, _, _, _ => none
  | n + 1, l2, l3, μ =>
    if (μ 110 14) ≤ l3 then
      some (l2, μ)
    else
      iv_bnd (f_X10_liftsOf l3 μ) fun r6 μ7 =>
      lp_X10_mayHave_14 l1 n (iv_or l2 (iv_shl (iv_and (iv_shr r6 l1) 1) l3)) (iv_wr (l3 + 1)) μ7
def f_X10_mayHave (p1 : Int) (μ : ivM) : Option (Int × ivM) :=
  iv_bnd (f_X10_isThing p1 μ) fun r1 μ2 =>
  if r1 = 0 then
    some ((-1), μ2)
  else
    lp_X10_mayHave_14 p1 iv_fuel 0 0 μ2
def f_X10_line (p1 : Int) (p2 : Int) (μ : ivM) : Option (Int × ivM) :=
  iv_bnd (f_X10_in p1 0 7 μ) fun r1 μ2 =>
  iv_let (fun (μ8 : ivM) =>
    some ((-2), μ8)) fun j4 =>
  if r1 = 0 then
    j4 μ2
  else
    iv_bnd (f_X10_in p2 1 255 μ2) fun r12 μ13 =>
    if r12 = 0 then
      j4 μ13
    else
      if (μ13 110 26) = 16 then
        some ((-4), μ13)
      else
        iv_ck (0 ≤ (μ13 110 26) ∧ (μ13 110 26) < 16) <|
        iv_ck (0 ≤ ((iv_upd μ13 126 (μ13 110 26).toNat p1) 110 26) ∧ ((iv_upd μ13 126 (μ13 110 26).toNat p1) 110 26) < 16) <|
        some (((iv_upd (iv_upd (iv_upd μ13 126 (μ13 110 26).toNat p1) 127 ((iv_upd μ13 126 (μ13 110 26).toNat p1) 110 26).toNat p2) 110 26 (iv_wr (((iv_upd (iv_upd μ13 126 (μ13 110 26).toNat p1) 127 ((iv_upd μ13 126 (μ13 110 26).toNat p1) 110 26).toNat p2) 110 26) + 1))) 110 26), (iv_upd (iv_upd (iv_upd μ13 126 (μ13 110 26).toNat p1) 127 ((iv_upd μ13 126 (μ13 110 26).toNat p1) 110 26).toNat p2) 110 26 (iv_wr (((iv_upd (iv_upd μ13 126 (μ13 110 26).toNat p1) 127 ((iv_upd μ13 126 (μ13 110 26).toNat p1) 110 26).toNat p2) 110 26) + 1))))
def f_X10_silence  (μ : ivM) : Option (Int × ivM) :=
  some ((μ 110 26), (iv_upd μ 110 26 0))
def lp_X10_givings_29 (l1 : Int) (l2 : Int) (k50 : Int → ivM → Option (Int × ivM)) : Nat → Int → Int → ivM → Option (Int × ivM)
  | 0, _, _, _ => none
  | n + 1, l3, l4, μ =>
    if l1 ≤ l4 then
      k50 l3 μ
    else
      lp_X10_givings_29 l1 l2 k50 n (iv_wr (l3 + (iv_and (iv_shr l2 l4) 1))) (iv_wr (l4 + 1)) μ
def lp_X10_givings_53 (l1 : Int) (l2 : Int) (l3 : Int) (k120 : ivM → Option (Int × ivM)) : Nat → Int → ivM → Option (Int × ivM)
  | 0, _, _ => none
  | n + 1, l4, μ =>
    if l1 ≤ l4 then
      k120 μ
    else
      if l2 ≤ 0 then
        k120 μ
      else
        iv_ck (0 ≤ l2 ∧ l2 < 256) <|
        iv_let (fun (v20 : Int) (μ21 : ivM) =>
          iv_ck (0 ≤ l2 ∧ l2 < 256) <|
          lp_X10_givings_53 l1 l2 l3 k120 n (iv_wr (l4 + 1)) (iv_upd μ21 128 l2.toNat (iv_wr ((μ 128 l2.toNat) + v20)))) fun j19 =>
        iv_let (fun (μ26 : ivM) =>
          j19 0 μ26) fun j25 =>
        if (iv_and (iv_shr l2 l4) 1) = 1 then
          iv_ck (0 ≤ l3 ∧ l3 < 8) <|
          if (iv_and (iv_shr (μ 129 l3.toNat) l4) 1) = 1 then
            iv_ck (0 ≤ (iv_and l2 (iv_xor (iv_shl 1 l4) (-1))) ∧ (iv_and l2 (iv_xor (iv_shl 1 l4) (-1))) < 256) <|
            j19 (μ 128 (iv_and l2 (iv_xor (iv_shl 1 l4) (-1))).toNat) μ
          else
            j25 μ
        else
          j25 μ
def lp_X10_givings_2 (l1 : Int) (k126 : ivM → Option (Int × ivM)) : Nat → Int → ivM → Option (Int × ivM)
  | 0, _, _ => none
  | n + 1, l2, μ =>
    if (iv_shl 1 l1) ≤ l2 then
      k126 μ
    else
      iv_let (fun (v5 : Int) (μ6 : ivM) =>
        iv_ck (0 ≤ l2 ∧ l2 < 256) <|
        lp_X10_givings_29 l1 l2 (fun (w11 : Int) (μ13 : ivM) =>
          lp_X10_givings_53 l1 l2 w11 (fun (μ35 : ivM) =>
            lp_X10_givings_2 l1 k126 n (iv_wr (l2 + 1)) μ35) iv_fuel 0 μ13) iv_fuel (-1) 0 (iv_upd μ6 128 l2.toNat v5)) fun j2 =>
      if l2 = 0 then
        j2 1 μ
      else
        j2 0 μ
def f_X10_givings (p1 : Int) (μ : ivM) : Option (Int × ivM) :=
  lp_X10_givings_2 p1 (fun (μ42 : ivM) =>
    iv_ck (0 ≤ (iv_wr ((iv_shl 1 p1) - 1)) ∧ (iv_wr ((iv_shl 1 p1) - 1)) < 256) <|
    some ((μ42 128 (iv_wr ((iv_shl 1 p1) - 1)).toNat), μ42)) iv_fuel 0 μ
def lp_X10_waysBy_2 (l1 : Int) (l2 : Int) (k25 : ivM → Option (Int × ivM)) : Nat → Int → ivM → Option (Int × ivM)
  | 0, _, _ => none
  | n + 1, l3, μ =>
    if 8 ≤ l3 then
      k25 μ
    else
      iv_ck (0 ≤ l3 ∧ l3 < 8) <|
      lp_X10_waysBy_2 l1 l2 k25 n (iv_wr (l3 + 1)) (iv_upd μ 129 l3.toNat (iv_wr ((iv_shl 1 l1) - 1)))
def lp_X10_waysBy_27 (l1 : Int) (l2 : Int) (k58 : ivM → Option (Int × ivM)) : Nat → Int → ivM → Option (Int × ivM)
  | 0, _, _ => none
  | n + 1, l3, μ =>
    if l2 ≤ l3 then
      k58 μ
    else
      iv_ck (0 ≤ l3 ∧ l3 < 16) <|
      iv_ck (0 ≤ (μ 126 l3.toNat) ∧ (μ 126 l3.toNat) < 8) <|
      iv_ck (0 ≤ l3 ∧ l3 < 16) <|
      iv_ck (0 ≤ (μ 126 l3.toNat) ∧ (μ 126 l3.toNat) < 8) <|
      lp_X10_waysBy_27 l1 l2 k58 n (iv_wr (l3 + 1)) (iv_upd μ 129 (μ 126 l3.toNat).toNat (iv_and (μ 129 (μ 126 l3.toNat).toNat) (μ 127 l3.toNat)))
def f_X10_waysBy (p1 : Int) (p2 : Int) (μ : ivM) : Option (Int × ivM) :=
  lp_X10_waysBy_2 p1 p2 (fun (μ4 : ivM) =>
    lp_X10_waysBy_27 p1 p2 (fun (μ14 : ivM) =>
      iv_bnd (f_X10_givings p1 μ14) fun r17 μ18 =>
      some (r17, μ18)) iv_fuel 0 μ4) iv_fuel 0 μ
def f_X10_ways (p1 : Int) (μ : ivM) : Option (Int × ivM) :=
  iv_bnd (f_X10_in p1 1 8 μ) fun r1 μ2 =>
  iv_let (fun (v7 : Int) (μ8 : ivM) =>
    some (v7, μ8)) fun j4 =>
  if r1 = 0 then
    j4 (-2) μ2
  else
    iv_bnd (f_X10_waysBy p1 (μ2 110 26) μ2) fun r12 μ13 =>
    j4 r12 μ13
def lp_X10_mayBe_51 (l1 : Int) (l2 : Int) (l3 : Int)  : Nat → Int → Int → ivM → Option (Int × ivM)
  | 0, _, _, _ => none
  | n + 1, l4, l5, μ =>
    if l1 ≤ l5 then
      some (l4, μ)
    else
      iv_ck (0 ≤ l2 ∧ l2 < 8) <|
      iv_bnd (f_X10_givings l1 (iv_upd μ 129 l2.toNat (iv_and l3 (iv_shl 1 l5)))) fun r25 μ26 =>
      iv_let (fun (v30 : Int) (μ31 : ivM) =>
        lp_X10_mayBe_51 l1 l2 l3 n (iv_or l4 v30) (iv_wr (l5 + 1)) μ31) fun j28 =>
      if r25 ≤ 0 then
        j28 0 μ26
      else
        j28 (iv_shl 1 l5) μ26
def f_X10_mayBe (p1 : Int) (p2 : Int) (μ : ivM) : Option (Int × ivM) :=
  iv_bnd (f_X10_in p1 1 8 μ) fun r1 μ2 =>
  iv_let (fun (μ11 : ivM) =>
    some ((-2), μ11)) fun j4 =>
  if r1 = 0 then
    j4 μ2
  else
    iv_bnd (f_X10_in p2 0 (iv_wr (p1 - 1)) μ2) fun r15 μ16 =>
    if r15 = 0 then
      j4 μ16
    else
      iv_bnd (f_X10_waysBy p1 (μ16 110 26) μ16) fun _ μ20 =>
      iv_ck (0 ≤ p2 ∧ p2 < 8) <|
      lp_X10_mayBe_51 p1 p2 (μ20 129 p2.toNat) iv_fuel 0 0 μ20
def lp_X10_breaks_17 (l1 : Int)  : Nat → Int → ivM → Option (Int × ivM)
  | 0, _, _ => none
  | n + 1, l2, μ =>
    if (μ 110 26) ≤ l2 then
      some ((-9), μ)
    else
      iv_bnd (f_X10_waysBy l1 (iv_wr (l2 + 1)) μ) fun r6 μ7 =>
      if r6 = 0 then
        some (l2, μ7)
      else
        lp_X10_breaks_17 l1 n (iv_wr (l2 + 1)) μ7
def f_X10_breaks (p1 : Int) (μ : ivM) : Option (Int × ivM) :=
  iv_bnd (f_X10_in p1 1 8 μ) fun r1 μ2 =>
  if r1 = 0 then
    some ((-2), μ2)
  else
    lp_X10_breaks_17 p1 iv_fuel 0 μ2
def lp_X10_twins_88 (l1 : Int) (l2 : Int) (l3 : Int) (l4 : Int) (k148 : Int → ivM → Option (Int × ivM)) : Nat → Int → Int → ivM → Option (Int × ivM)
  | 0, _, _, _ => none
  | n + 1, l5, l6, μ =>
    iv_ck (0 ≤ l3 ∧ l3 < 8) <|
    if (μ 116 l3.toNat) ≤ l6 then
      k148 l5 μ
    else
      if l5 = 0 then
        k148 l5 μ
      else
        iv_ck (0 ≤ (iv_wr ((iv_wr (5 * l3)) + l6)) ∧ (iv_wr ((iv_wr (5 * l3)) + l6)) < 40) <|
        iv_ck (0 ≤ (iv_wr ((iv_wr (5 * l4)) + l6)) ∧ (iv_wr ((iv_wr (5 * l4)) + l6)) < 40) <|
        iv_let (fun (v21 : Int) (μ22 : ivM) =>
          lp_X10_twins_88 l1 l2 l3 l4 k148 n v21 (iv_wr (l6 + 1)) μ22) fun j19 =>
        if (iv_rem (iv_wr ((μ 115 (iv_wr ((iv_wr (5 * l3)) + l6)).toNat) + l1)) 6) = (μ 115 (iv_wr ((iv_wr (5 * l4)) + l6)).toNat) then
          j19 1 μ
        else
          j19 0 μ
def lp_X10_twins_30 (l1 : Int) (l3 : Int) (k167 : Int → ivM → Option (Int × ivM)) : Nat → Int → Int → ivM → Option (Int × ivM)
  | 0, _, _, _ => none
  | n + 1, l2, l4, μ =>
    if (μ 110 13) ≤ l4 then
      k167 l2 μ
    else
      iv_let (fun (v10 : Int) (μ11 : ivM) =>
        lp_X10_twins_88 l1 l2 l3 l4 (fun (w26 : Int) (μ28 : ivM) =>
          iv_let (fun (v35 : Int) (μ36 : ivM) =>
            lp_X10_twins_30 l1 l3 k167 n (iv_wr (l2 + v35)) (iv_wr (l4 + 1)) μ36) fun j31 =>
          if w26 = 0 then
            j31 0 μ28
          else
            j31 1 μ28) iv_fuel v10 0 μ11) fun j7 =>
      iv_let (fun (μ43 : ivM) =>
        j7 0 μ43) fun j40 =>
      if l3 = l4 then
        j40 μ
      else
        iv_bnd (f_X10_isLive l3 μ) fun r47 μ48 =>
        if r47 = 0 then
          j40 μ48
        else
          iv_bnd (f_X10_isLive l4 μ48) fun r51 μ52 =>
          if r51 = 0 then
            j40 μ52
          else
            iv_ck (0 ≤ l3 ∧ l3 < 8) <|
            iv_ck (0 ≤ l4 ∧ l4 < 8) <|
            if (μ52 116 l3.toNat) = (μ52 116 l4.toNat) then
              j7 1 μ52
            else
              j40 μ52
def lp_X10_twins_19 (l1 : Int)  : Nat → Int → Int → ivM → Option (Int × ivM)
  | 0, _, _, _ => none
  | n + 1, l2, l3, μ =>
    if (μ 110 13) ≤ l3 then
      some (l2, μ)
    else
      lp_X10_twins_30 l1 l3 (fun (w58 : Int) (μ62 : ivM) =>
        lp_X10_twins_19 l1 n w58 (iv_wr (l3 + 1)) μ62) iv_fuel l2 0 μ
def f_X10_twins (p1 : Int) (μ : ivM) : Option (Int × ivM) :=
  iv_bnd (f_X10_in p1 1 5 μ) fun r1 μ2 =>
  if r1 = 0 then
    some ((-2), μ2)
  else
    lp_X10_twins_19 p1 iv_fuel 0 0 μ2
def lp_X10_keep_21 (l1 : Int) (k50 : ivM → Option (Int × ivM)) : Nat → Int → ivM → Option (Int × ivM)
  | 0, _, _ => none
  | n + 1, l2, μ =>
    if 40 ≤ l2 then
      k50 μ
    else
      iv_ck (0 ≤ l2 ∧ l2 < 40) <|
      iv_ck (0 ≤ (iv_wr ((iv_wr (40 * l1)) + l2)) ∧ (iv_wr ((iv_wr (40 * l1)) + l2)) < 80) <|
      lp_X10_keep_21 l1 k50 n (iv_wr (l2 + 1)) (iv_upd μ 131 (iv_wr ((iv_wr (40 * l1)) + l2)).toNat (μ 115 l2.toNat))
def lp_X10_keep_52 (l1 : Int) (k115 : ivM → Option (Int × ivM)) : Nat → Int → ivM → Option (Int × ivM)
  | 0, _, _ => none
  | n + 1, l2, μ =>
    if 8 ≤ l2 then
      k115 μ
    else
      iv_ck (0 ≤ l2 ∧ l2 < 8) <|
      iv_ck (0 ≤ (iv_wr ((iv_wr (8 * l1)) + l2)) ∧ (iv_wr ((iv_wr (8 * l1)) + l2)) < 16) <|
      iv_ck (0 ≤ l2 ∧ l2 < 8) <|
      iv_ck (0 ≤ (iv_wr ((iv_wr (8 * l1)) + l2)) ∧ (iv_wr ((iv_wr (8 * l1)) + l2)) < 16) <|
      iv_ck (0 ≤ l2 ∧ l2 < 8) <|
      iv_ck (0 ≤ (iv_wr ((iv_wr (8 * l1)) + l2)) ∧ (iv_wr ((iv_wr (8 * l1)) + l2)) < 16) <|
      lp_X10_keep_52 l1 k115 n (iv_wr (l2 + 1)) (iv_upd (iv_upd (iv_upd μ 132 (iv_wr ((iv_wr (8 * l1)) + l2)).toNat (μ 116 l2.toNat)) 133 (iv_wr ((iv_wr (8 * l1)) + l2)).toNat ((iv_upd μ 132 (iv_wr ((iv_wr (8 * l1)) + l2)).toNat (μ 116 l2.toNat)) 117 l2.toNat)) 134 (iv_wr ((iv_wr (8 * l1)) + l2)).toNat ((iv_upd (iv_upd μ 132 (iv_wr ((iv_wr (8 * l1)) + l2)).toNat (μ 116 l2.toNat)) 133 (iv_wr ((iv_wr (8 * l1)) + l2)).toNat ((iv_upd μ 132 (iv_wr ((iv_wr (8 * l1)) + l2)).toNat (μ 116 l2.toNat)) 117 l2.toNat)) 118 l2.toNat))
def f_X10_keep (p1 : Int) (μ : ivM) : Option (Int × ivM) :=
  iv_bnd (f_X10_in p1 0 1 μ) fun r1 μ2 =>
  if r1 = 0 then
    some ((-1), μ2)
  else
    iv_ck (0 ≤ p1 ∧ p1 < 2) <|
    lp_X10_keep_21 p1 (fun (μ10 : ivM) =>
      lp_X10_keep_52 p1 (fun (μ21 : ivM) =>
        iv_ck (0 ≤ p1 ∧ p1 < 2) <|
        some (((iv_upd μ21 135 p1.toNat (μ21 110 15)) 110 15), (iv_upd μ21 135 p1.toNat (μ21 110 15)))) iv_fuel 0 μ10) iv_fuel 0 (iv_upd μ2 130 p1.toNat (1 % 2))
def lp_X10_again_26 (l1 : Int) (k55 : ivM → Option (Int × ivM)) : Nat → Int → ivM → Option (Int × ivM)
  | 0, _, _ => none
  | n + 1, l2, μ =>
    if 40 ≤ l2 then
      k55 μ
    else
      iv_ck (0 ≤ (iv_wr ((iv_wr (40 * l1)) + l2)) ∧ (iv_wr ((iv_wr (40 * l1)) + l2)) < 80) <|
      iv_ck (0 ≤ l2 ∧ l2 < 40) <|
      lp_X10_again_26 l1 k55 n (iv_wr (l2 + 1)) (iv_upd μ 115 l2.toNat (μ 131 (iv_wr ((iv_wr (40 * l1)) + l2)).toNat))
def lp_X10_again_57 (l1 : Int) (k120 : ivM → Option (Int × ivM)) : Nat → Int → ivM → Option (Int × ivM)
  | 0, _, _ => none
  | n + 1, l2, μ =>
    if 8 ≤ l2 then
      k120 μ
    else
      iv_ck (0 ≤ (iv_wr ((iv_wr (8 * l1)) + l2)) ∧ (iv_wr ((iv_wr (8 * l1)) + l2)) < 16) <|
      iv_ck (0 ≤ l2 ∧ l2 < 8) <|
      iv_ck (0 ≤ (iv_wr ((iv_wr (8 * l1)) + l2)) ∧ (iv_wr ((iv_wr (8 * l1)) + l2)) < 16) <|
      iv_ck (0 ≤ l2 ∧ l2 < 8) <|
      iv_ck (0 ≤ (iv_wr ((iv_wr (8 * l1)) + l2)) ∧ (iv_wr ((iv_wr (8 * l1)) + l2)) < 16) <|
      iv_ck (0 ≤ l2 ∧ l2 < 8) <|
      lp_X10_again_57 l1 k120 n (iv_wr (l2 + 1)) (iv_upd (iv_upd (iv_upd μ 116 l2.toNat (μ 132 (iv_wr ((iv_wr (8 * l1)) + l2)).toNat)) 117 l2.toNat ((iv_upd μ 116 l2.toNat (μ 132 (iv_wr ((iv_wr (8 * l1)) + l2)).toNat)) 133 (iv_wr ((iv_wr (8 * l1)) + l2)).toNat)) 118 l2.toNat ((iv_upd (iv_upd μ 116 l2.toNat (μ 132 (iv_wr ((iv_wr (8 * l1)) + l2)).toNat)) 117 l2.toNat ((iv_upd μ 116 l2.toNat (μ 132 (iv_wr ((iv_wr (8 * l1)) + l2)).toNat)) 133 (iv_wr ((iv_wr (8 * l1)) + l2)).toNat)) 134 (iv_wr ((iv_wr (8 * l1)) + l2)).toNat))
def f_X10_again (p1 : Int) (μ : ivM) : Option (Int × ivM) :=
  iv_bnd (f_X10_in p1 0 1 μ) fun r1 μ2 =>
  if r1 = 0 then
    some ((-1), μ2)
  else
    iv_ck (0 ≤ p1 ∧ p1 < 2) <|
    if (μ2 130 p1.toNat) = 0 then
      some ((-3), μ2)
    else
      lp_X10_again_26 p1 (fun (μ11 : ivM) =>
        lp_X10_again_57 p1 (fun (μ22 : ivM) =>
          iv_ck (0 ≤ p1 ∧ p1 < 2) <|
          some (((iv_upd μ22 110 15 (μ22 135 p1.toNat)) 110 15), (iv_upd μ22 110 15 (μ22 135 p1.toNat)))) iv_fuel 0 μ11) iv_fuel 0 μ2
def lp_X10_count_4 (l1 : Int) (k27 : Int → ivM → Option (Int × ivM)) : Nat → Int → Int → ivM → Option (Int × ivM)
  | 0, _, _, _ => none
  | n + 1, l2, l3, μ =>
    if (μ 110 13) ≤ l3 then
      k27 l2 μ
    else
      iv_ck (0 ≤ l3 ∧ l3 < 8) <|
      lp_X10_count_4 l1 k27 n (iv_wr (l2 + (μ 116 l3.toNat))) (iv_wr (l3 + 1)) μ
def lp_X10_count_111   : Nat → Int → Int → ivM → Option (Int × ivM)
  | 0, _, _, _ => none
  | n + 1, l3, l4, μ =>
    if (μ 110 13) ≤ l4 then
      some (l3, μ)
    else
      iv_bnd (f_X10_isLive l4 μ) fun r18 μ19 =>
      iv_let (fun (v25 : Int) (μ26 : ivM) =>
        lp_X10_count_111  n (iv_wr (l3 + v25)) (iv_wr (l4 + 1)) μ26) fun j21 =>
      if r18 = 0 then
        j21 0 μ19
      else
        j21 1 μ19
def f_X10_count (p1 : Int) (μ : ivM) : Option (Int × ivM) :=
  lp_X10_count_4 p1 (fun (w3 : Int) (μ6 : ivM) =>
    if p1 = 0 then
      some ((μ6 110 17), μ6)
    else
    if p1 = 1 then
      some ((μ6 110 13), μ6)
    else
    if p1 = 2 then
      some ((μ6 110 14), μ6)
    else
    if p1 = 3 then
      some ((μ6 110 12), μ6)
    else
    if p1 = 4 then
      some ((μ6 110 15), μ6)
    else
    if p1 = 5 then
      some ((μ6 110 26), μ6)
    else
    if p1 = 6 then
      lp_X10_count_111  iv_fuel 0 0 μ6
    else
    if p1 = 7 then
      some (w3, μ6)
    else
      some ((-2), μ6)) iv_fuel 0 0 μ
def lp_L_law_18 (L : Nat)  : Nat → Int → ivM → Option (Int × ivM)
  | 0, _, _ => none
  | n + 1, l3, μ =>
    if (iv_wr ((L : Int) - 4)) < l3 then
      some (1, μ)
    else
      iv_ck (0 ≤ l3 ∧ l3 < L) <|
      iv_let (fun (μ4 : ivM) =>
        lp_L_law_18 L n (iv_wr (l3 + 4)) μ4) fun j3 =>
      if (iv_and (μ 1 l3.toNat) 31) = 0 then
        iv_ck (0 ≤ (iv_wr (l3 + 1)) ∧ (iv_wr (l3 + 1)) < L) <|
        iv_ck (0 ≤ (iv_wr (l3 + 2)) ∧ (iv_wr (l3 + 2)) < L) <|
        iv_ck (0 ≤ (iv_wr (l3 + 3)) ∧ (iv_wr (l3 + 3)) < L) <|
        iv_bnd (f_X9_write (μ 1 (iv_wr (l3 + 1)).toNat) (iv_lor (iv_lshl (μ 1 (iv_wr (l3 + 2)).toNat) 32) (iv_land (μ 1 (iv_wr (l3 + 3)).toNat) 4294967295)) μ) fun r41 μ42 =>
        iv_ck (0 ≤ (iv_wr (l3 + 1)) ∧ (iv_wr (l3 + 1)) < L) <|
        iv_ck (0 ≤ (iv_wr (l3 + 2)) ∧ (iv_wr (l3 + 2)) < L) <|
        iv_ck (0 ≤ (iv_wr (l3 + 3)) ∧ (iv_wr (l3 + 3)) < L) <|
        iv_bnd (f_X10_write (μ42 1 (iv_wr (l3 + 1)).toNat) (iv_lor (iv_lshl (μ42 1 (iv_wr (l3 + 2)).toNat) 32) (iv_land (μ42 1 (iv_wr (l3 + 3)).toNat) 4294967295)) μ42) fun r47 μ48 =>
        if r41 = r47 then
          j3 μ48
        else
          some (0, μ48)
      else
      if (iv_and (μ 1 l3.toNat) 31) = 1 then
        iv_bnd (f_X9_wipe μ) fun r51 μ52 =>
        iv_bnd (f_X10_wipe μ52) fun r54 μ55 =>
        if r51 = r54 then
          j3 μ55
        else
          some (0, μ55)
      else
      if (iv_and (μ 1 l3.toNat) 31) = 2 then
        iv_bnd (f_X9_fault μ) fun r58 μ59 =>
        iv_bnd (f_X10_fault μ59) fun r61 μ62 =>
        if r58 = r61 then
          j3 μ62
        else
          some (0, μ62)
      else
      if (iv_and (μ 1 l3.toNat) 31) = 3 then
        iv_bnd (f_X9_house μ) fun r65 μ66 =>
        iv_bnd (f_X10_house μ66) fun r68 μ69 =>
        if r65 = r68 then
          j3 μ69
        else
          some (0, μ69)
      else
      if (iv_and (μ 1 l3.toNat) 31) = 4 then
        iv_ck (0 ≤ (iv_wr (l3 + 1)) ∧ (iv_wr (l3 + 1)) < L) <|
        iv_ck (0 ≤ (iv_wr (l3 + 2)) ∧ (iv_wr (l3 + 2)) < L) <|
        iv_bnd (f_X9_sound (μ 1 (iv_wr (l3 + 1)).toNat) (μ 1 (iv_wr (l3 + 2)).toNat) μ) fun r74 μ75 =>
        iv_ck (0 ≤ (iv_wr (l3 + 1)) ∧ (iv_wr (l3 + 1)) < L) <|
        iv_ck (0 ≤ (iv_wr (l3 + 2)) ∧ (iv_wr (l3 + 2)) < L) <|
        iv_bnd (f_X10_sound (μ75 1 (iv_wr (l3 + 1)).toNat) (μ75 1 (iv_wr (l3 + 2)).toNat) μ75) fun r79 μ80 =>
        if r74 = r79 then
          j3 μ80
        else
          some (0, μ80)
      else
      if (iv_and (μ 1 l3.toNat) 31) = 5 then
        iv_ck (0 ≤ (iv_wr (l3 + 1)) ∧ (iv_wr (l3 + 1)) < L) <|
        iv_ck (0 ≤ (iv_wr (l3 + 2)) ∧ (iv_wr (l3 + 2)) < L) <|
        iv_bnd (f_X9_off (μ 1 (iv_wr (l3 + 1)).toNat) (μ 1 (iv_wr (l3 + 2)).toNat) μ) fun r85 μ86 =>
        iv_ck (0 ≤ (iv_wr (l3 + 1)) ∧ (iv_wr (l3 + 1)) < L) <|
        iv_ck (0 ≤ (iv_wr (l3 + 2)) ∧ (iv_wr (l3 + 2)) < L) <|
        iv_bnd (f_X10_off (μ86 1 (iv_wr (l3 + 1)).toNat) (μ86 1 (iv_wr (l3 + 2)).toNat) μ86) fun r90 μ91 =>
        if r85 = r90 then
          j3 μ91
        else
          some (0, μ91)
      else
      if (iv_and (μ 1 l3.toNat) 31) = 6 then
        iv_ck (0 ≤ (iv_wr (l3 + 1)) ∧ (iv_wr (l3 + 1)) < L) <|
        iv_bnd (f_X9_near (μ 1 (iv_wr (l3 + 1)).toNat) μ) fun r95 μ96 =>
        iv_ck (0 ≤ (iv_wr (l3 + 1)) ∧ (iv_wr (l3 + 1)) < L) <|
        iv_bnd (f_X10_near (μ96 1 (iv_wr (l3 + 1)).toNat) μ96) fun r99 μ100 =>
        if r95 = r99 then
          j3 μ100
        else
          some (0, μ100)
      else
      if (iv_and (μ 1 l3.toNat) 31) = 7 then
        iv_ck (0 ≤ (iv_wr (l3 + 1)) ∧ (iv_wr (l3 + 1)) < L) <|
        iv_bnd (f_X9_knows (μ 1 (iv_wr (l3 + 1)).toNat) μ) fun r104 μ105 =>
        iv_ck (0 ≤ (iv_wr (l3 + 1)) ∧ (iv_wr (l3 + 1)) < L) <|
        iv_bnd (f_X10_knows (μ105 1 (iv_wr (l3 + 1)).toNat) μ105) fun r108 μ109 =>
        if r104 = r108 then
          j3 μ109
        else
          some (0, μ109)
      else
      if (iv_and (μ 1 l3.toNat) 31) = 8 then
        iv_bnd (f_X9_live μ) fun r112 μ113 =>
        iv_bnd (f_X10_live μ113) fun r115 μ116 =>
        if r112 = r115 then
          j3 μ116
        else
          some (0, μ116)
      else
      if (iv_and (μ 1 l3.toNat) 31) = 9 then
        iv_ck (0 ≤ (iv_wr (l3 + 1)) ∧ (iv_wr (l3 + 1)) < L) <|
        iv_bnd (f_X9_days (μ 1 (iv_wr (l3 + 1)).toNat) μ) fun r120 μ121 =>
        iv_ck (0 ≤ (iv_wr (l3 + 1)) ∧ (iv_wr (l3 + 1)) < L) <|
        iv_bnd (f_X10_days (μ121 1 (iv_wr (l3 + 1)).toNat) μ121) fun r124 μ125 =>
        if r120 = r124 then
          j3 μ125
        else
          some (0, μ125)
      else
      if (iv_and (μ 1 l3.toNat) 31) = 10 then
        iv_ck (0 ≤ (iv_wr (l3 + 1)) ∧ (iv_wr (l3 + 1)) < L) <|
        iv_bnd (f_X9_fades (μ 1 (iv_wr (l3 + 1)).toNat) μ) fun r129 μ130 =>
        iv_ck (0 ≤ (iv_wr (l3 + 1)) ∧ (iv_wr (l3 + 1)) < L) <|
        iv_bnd (f_X10_fades (μ130 1 (iv_wr (l3 + 1)).toNat) μ130) fun r133 μ134 =>
        if r129 = r133 then
          j3 μ134
        else
          some (0, μ134)
      else
      if (iv_and (μ 1 l3.toNat) 31) = 11 then
        iv_ck (0 ≤ (iv_wr (l3 + 1)) ∧ (iv_wr (l3 + 1)) < L) <|
        iv_ck (0 ≤ (iv_wr (l3 + 2)) ∧ (iv_wr (l3 + 2)) < L) <|
        iv_ck (0 ≤ (iv_wr (l3 + 3)) ∧ (iv_wr (l3 + 3)) < L) <|
        iv_bnd (f_X9_say (μ 1 (iv_wr (l3 + 1)).toNat) (μ 1 (iv_wr (l3 + 2)).toNat) (μ 1 (iv_wr (l3 + 3)).toNat) μ) fun r140 μ141 =>
        iv_ck (0 ≤ (iv_wr (l3 + 1)) ∧ (iv_wr (l3 + 1)) < L) <|
        iv_ck (0 ≤ (iv_wr (l3 + 2)) ∧ (iv_wr (l3 + 2)) < L) <|
        iv_ck (0 ≤ (iv_wr (l3 + 3)) ∧ (iv_wr (l3 + 3)) < L) <|
        iv_bnd (f_X10_say (μ141 1 (iv_wr (l3 + 1)).toNat) (μ141 1 (iv_wr (l3 + 2)).toNat) (μ141 1 (iv_wr (l3 + 3)).toNat) μ141) fun r146 μ147 =>
        if r140 = r146 then
          j3 μ147
        else
          some (0, μ147)
      else
      if (iv_and (μ 1 l3.toNat) 31) = 12 then
        iv_ck (0 ≤ (iv_wr (l3 + 1)) ∧ (iv_wr (l3 + 1)) < L) <|
        iv_ck (0 ≤ (iv_wr (l3 + 2)) ∧ (iv_wr (l3 + 2)) < L) <|
        iv_ck (0 ≤ (iv_wr (l3 + 3)) ∧ (iv_wr (l3 + 3)) < L) <|
        iv_bnd (f_X9_give (μ 1 (iv_wr (l3 + 1)).toNat) (μ 1 (iv_wr (l3 + 2)).toNat) (μ 1 (iv_wr (l3 + 3)).toNat) μ) fun r153 μ154 =>
        iv_ck (0 ≤ (iv_wr (l3 + 1)) ∧ (iv_wr (l3 + 1)) < L) <|
        iv_ck (0 ≤ (iv_wr (l3 + 2)) ∧ (iv_wr (l3 + 2)) < L) <|
        iv_ck (0 ≤ (iv_wr (l3 + 3)) ∧ (iv_wr (l3 + 3)) < L) <|
        iv_bnd (f_X10_give (μ154 1 (iv_wr (l3 + 1)).toNat) (μ154 1 (iv_wr (l3 + 2)).toNat) (μ154 1 (iv_wr (l3 + 3)).toNat) μ154) fun r159 μ160 =>
        if r153 = r159 then
          j3 μ160
        else
          some (0, μ160)
      else
      if (iv_and (μ 1 l3.toNat) 31) = 13 then
        iv_ck (0 ≤ (iv_wr (l3 + 1)) ∧ (iv_wr (l3 + 1)) < L) <|
        iv_bnd (f_X9_fresh (μ 1 (iv_wr (l3 + 1)).toNat) μ) fun r164 μ165 =>
        iv_ck (0 ≤ (iv_wr (l3 + 1)) ∧ (iv_wr (l3 + 1)) < L) <|
        iv_bnd (f_X10_fresh (μ165 1 (iv_wr (l3 + 1)).toNat) μ165) fun r168 μ169 =>
        if r164 = r168 then
          j3 μ169
        else
          some (0, μ169)
      else
      if (iv_and (μ 1 l3.toNat) 31) = 14 then
        iv_ck (0 ≤ (iv_wr (l3 + 1)) ∧ (iv_wr (l3 + 1)) < L) <|
        iv_ck (0 ≤ (iv_wr (l3 + 2)) ∧ (iv_wr (l3 + 2)) < L) <|
        iv_bnd (f_X9_anew (μ 1 (iv_wr (l3 + 1)).toNat) (μ 1 (iv_wr (l3 + 2)).toNat) μ) fun r174 μ175 =>
        iv_ck (0 ≤ (iv_wr (l3 + 1)) ∧ (iv_wr (l3 + 1)) < L) <|
        iv_ck (0 ≤ (iv_wr (l3 + 2)) ∧ (iv_wr (l3 + 2)) < L) <|
        iv_bnd (f_X10_anew (μ175 1 (iv_wr (l3 + 1)).toNat) (μ175 1 (iv_wr (l3 + 2)).toNat) μ175) fun r179 μ180 =>
        if r174 = r179 then
          j3 μ180
        else
          some (0, μ180)
      else
      if (iv_and (μ 1 l3.toNat) 31) = 15 then
        iv_ck (0 ≤ (iv_wr (l3 + 1)) ∧ (iv_wr (l3 + 1)) < L) <|
        iv_bnd (f_X9_lifts (μ 1 (iv_wr (l3 + 1)).toNat) μ) fun r184 μ185 =>
        iv_ck (0 ≤ (iv_wr (l3 + 1)) ∧ (iv_wr (l3 + 1)) < L) <|
        iv_bnd (f_X10_lifts (μ185 1 (iv_wr (l3 + 1)).toNat) μ185) fun r188 μ189 =>
        if r184 = r188 then
          j3 μ189
        else
          some (0, μ189)
      else
      if (iv_and (μ 1 l3.toNat) 31) = 16 then
        iv_ck (0 ≤ (iv_wr (l3 + 1)) ∧ (iv_wr (l3 + 1)) < L) <|
        iv_ck (0 ≤ (iv_wr (l3 + 2)) ∧ (iv_wr (l3 + 2)) < L) <|
        iv_bnd (f_X9_stands (μ 1 (iv_wr (l3 + 1)).toNat) (μ 1 (iv_wr (l3 + 2)).toNat) μ) fun r194 μ195 =>
        iv_ck (0 ≤ (iv_wr (l3 + 1)) ∧ (iv_wr (l3 + 1)) < L) <|
        iv_ck (0 ≤ (iv_wr (l3 + 2)) ∧ (iv_wr (l3 + 2)) < L) <|
        iv_bnd (f_X10_stands (μ195 1 (iv_wr (l3 + 1)).toNat) (μ195 1 (iv_wr (l3 + 2)).toNat) μ195) fun r199 μ200 =>
        if r194 = r199 then
          j3 μ200
        else
          some (0, μ200)
      else
      if (iv_and (μ 1 l3.toNat) 31) = 17 then
        iv_ck (0 ≤ (iv_wr (l3 + 1)) ∧ (iv_wr (l3 + 1)) < L) <|
        iv_ck (0 ≤ (iv_wr (l3 + 2)) ∧ (iv_wr (l3 + 2)) < L) <|
        iv_bnd (f_X9_carries (μ 1 (iv_wr (l3 + 1)).toNat) (μ 1 (iv_wr (l3 + 2)).toNat) μ) fun r205 μ206 =>
        iv_ck (0 ≤ (iv_wr (l3 + 1)) ∧ (iv_wr (l3 + 1)) < L) <|
        iv_ck (0 ≤ (iv_wr (l3 + 2)) ∧ (iv_wr (l3 + 2)) < L) <|
        iv_bnd (f_X10_carries (μ206 1 (iv_wr (l3 + 1)).toNat) (μ206 1 (iv_wr (l3 + 2)).toNat) μ206) fun r210 μ211 =>
        if r205 = r210 then
          j3 μ211
        else
          some (0, μ211)
      else
      if (iv_and (μ 1 l3.toNat) 31) = 18 then
        iv_ck (0 ≤ (iv_wr (l3 + 1)) ∧ (iv_wr (l3 + 1)) < L) <|
        iv_bnd (f_X9_times (μ 1 (iv_wr (l3 + 1)).toNat) μ) fun r215 μ216 =>
        iv_ck (0 ≤ (iv_wr (l3 + 1)) ∧ (iv_wr (l3 + 1)) < L) <|
        iv_bnd (f_X10_times (μ216 1 (iv_wr (l3 + 1)).toNat) μ216) fun r219 μ220 =>
        if r215 = r219 then
          j3 μ220
        else
          some (0, μ220)
      else
      if (iv_and (μ 1 l3.toNat) 31) = 19 then
        iv_ck (0 ≤ (iv_wr (l3 + 1)) ∧ (iv_wr (l3 + 1)) < L) <|
        iv_bnd (f_X9_worth (μ 1 (iv_wr (l3 + 1)).toNat) μ) fun r224 μ225 =>
        iv_ck (0 ≤ (iv_wr (l3 + 1)) ∧ (iv_wr (l3 + 1)) < L) <|
        iv_bnd (f_X10_worth (μ225 1 (iv_wr (l3 + 1)).toNat) μ225) fun r228 μ229 =>
        if r224 = r228 then
          j3 μ229
        else
          some (0, μ229)
      else
      if (iv_and (μ 1 l3.toNat) 31) = 20 then
        iv_ck (0 ≤ (iv_wr (l3 + 1)) ∧ (iv_wr (l3 + 1)) < L) <|
        iv_ck (0 ≤ (iv_wr (l3 + 2)) ∧ (iv_wr (l3 + 2)) < L) <|
        iv_bnd (f_X9_upkeep (μ 1 (iv_wr (l3 + 1)).toNat) (μ 1 (iv_wr (l3 + 2)).toNat) μ) fun r234 μ235 =>
        iv_ck (0 ≤ (iv_wr (l3 + 1)) ∧ (iv_wr (l3 + 1)) < L) <|
        iv_ck (0 ≤ (iv_wr (l3 + 2)) ∧ (iv_wr (l3 + 2)) < L) <|
        iv_bnd (f_X10_upkeep (μ235 1 (iv_wr (l3 + 1)).toNat) (μ235 1 (iv_wr (l3 + 2)).toNat) μ235) fun r239 μ240 =>
        if r234 = r239 then
          j3 μ240
        else
          some (0, μ240)
      else
      if (iv_and (μ 1 l3.toNat) 31) = 21 then
        iv_ck (0 ≤ (iv_wr (l3 + 1)) ∧ (iv_wr (l3 + 1)) < L) <|
        iv_bnd (f_X9_mayHave (μ 1 (iv_wr (l3 + 1)).toNat) μ) fun r244 μ245 =>
        iv_ck (0 ≤ (iv_wr (l3 + 1)) ∧ (iv_wr (l3 + 1)) < L) <|
        iv_bnd (f_X10_mayHave (μ245 1 (iv_wr (l3 + 1)).toNat) μ245) fun r248 μ249 =>
        if r244 = r248 then
          j3 μ249
        else
          some (0, μ249)
      else
      if (iv_and (μ 1 l3.toNat) 31) = 22 then
        iv_ck (0 ≤ (iv_wr (l3 + 1)) ∧ (iv_wr (l3 + 1)) < L) <|
        iv_ck (0 ≤ (iv_wr (l3 + 2)) ∧ (iv_wr (l3 + 2)) < L) <|
        iv_bnd (f_X9_line (μ 1 (iv_wr (l3 + 1)).toNat) (μ 1 (iv_wr (l3 + 2)).toNat) μ) fun r254 μ255 =>
        iv_ck (0 ≤ (iv_wr (l3 + 1)) ∧ (iv_wr (l3 + 1)) < L) <|
        iv_ck (0 ≤ (iv_wr (l3 + 2)) ∧ (iv_wr (l3 + 2)) < L) <|
        iv_bnd (f_X10_line (μ255 1 (iv_wr (l3 + 1)).toNat) (μ255 1 (iv_wr (l3 + 2)).toNat) μ255) fun r259 μ260 =>
        if r254 = r259 then
          j3 μ260
        else
          some (0, μ260)
      else
      if (iv_and (μ 1 l3.toNat) 31) = 23 then
        iv_bnd (f_X9_silence μ) fun r263 μ264 =>
        iv_bnd (f_X10_silence μ264) fun r266 μ267 =>
        if r263 = r266 then
          j3 μ267
        else
          some (0, μ267)
      else
      if (iv_and (μ 1 l3.toNat) 31) = 24 then
        iv_ck (0 ≤ (iv_wr (l3 + 1)) ∧ (iv_wr (l3 + 1)) < L) <|
        iv_bnd (f_X9_ways (μ 1 (iv_wr (l3 + 1)).toNat) μ) fun r271 μ272 =>
        iv_ck (0 ≤ (iv_wr (l3 + 1)) ∧ (iv_wr (l3 + 1)) < L) <|
        iv_bnd (f_X10_ways (μ272 1 (iv_wr (l3 + 1)).toNat) μ272) fun r275 μ276 =>
        if r271 = r275 then
          j3 μ276
        else
          some (0, μ276)
      else
      if (iv_and (μ 1 l3.toNat) 31) = 25 then
        iv_ck (0 ≤ (iv_wr (l3 + 1)) ∧ (iv_wr (l3 + 1)) < L) <|
        iv_ck (0 ≤ (iv_wr (l3 + 2)) ∧ (iv_wr (l3 + 2)) < L) <|
        iv_bnd (f_X9_mayBe (μ 1 (iv_wr (l3 + 1)).toNat) (μ 1 (iv_wr (l3 + 2)).toNat) μ) fun r281 μ282 =>
        iv_ck (0 ≤ (iv_wr (l3 + 1)) ∧ (iv_wr (l3 + 1)) < L) <|
        iv_ck (0 ≤ (iv_wr (l3 + 2)) ∧ (iv_wr (l3 + 2)) < L) <|
        iv_bnd (f_X10_mayBe (μ282 1 (iv_wr (l3 + 1)).toNat) (μ282 1 (iv_wr (l3 + 2)).toNat) μ282) fun r286 μ287 =>
        if r281 = r286 then
          j3 μ287
        else
          some (0, μ287)
      else
      if (iv_and (μ 1 l3.toNat) 31) = 26 then
        iv_ck (0 ≤ (iv_wr (l3 + 1)) ∧ (iv_wr (l3 + 1)) < L) <|
        iv_bnd (f_X9_breaks (μ 1 (iv_wr (l3 + 1)).toNat) μ) fun r291 μ292 =>
        iv_ck (0 ≤ (iv_wr (l3 + 1)) ∧ (iv_wr (l3 + 1)) < L) <|
        iv_bnd (f_X10_breaks (μ292 1 (iv_wr (l3 + 1)).toNat) μ292) fun r295 μ296 =>
        if r291 = r295 then
          j3 μ296
        else
          some (0, μ296)
      else
      if (iv_and (μ 1 l3.toNat) 31) = 27 then
        iv_ck (0 ≤ (iv_wr (l3 + 1)) ∧ (iv_wr (l3 + 1)) < L) <|
        iv_bnd (f_X9_twins (μ 1 (iv_wr (l3 + 1)).toNat) μ) fun r300 μ301 =>
        iv_ck (0 ≤ (iv_wr (l3 + 1)) ∧ (iv_wr (l3 + 1)) < L) <|
        iv_bnd (f_X10_twins (μ301 1 (iv_wr (l3 + 1)).toNat) μ301) fun r304 μ305 =>
        if r300 = r304 then
          j3 μ305
        else
          some (0, μ305)
      else
      if (iv_and (μ 1 l3.toNat) 31) = 28 then
        iv_ck (0 ≤ (iv_wr (l3 + 1)) ∧ (iv_wr (l3 + 1)) < L) <|
        iv_bnd (f_X9_keep (μ 1 (iv_wr (l3 + 1)).toNat) μ) fun r309 μ310 =>
        iv_ck (0 ≤ (iv_wr (l3 + 1)) ∧ (iv_wr (l3 + 1)) < L) <|
        iv_bnd (f_X10_keep (μ310 1 (iv_wr (l3 + 1)).toNat) μ310) fun r313 μ314 =>
        if r309 = r313 then
          j3 μ314
        else
          some (0, μ314)
      else
      if (iv_and (μ 1 l3.toNat) 31) = 29 then
        iv_ck (0 ≤ (iv_wr (l3 + 1)) ∧ (iv_wr (l3 + 1)) < L) <|
        iv_bnd (f_X9_again (μ 1 (iv_wr (l3 + 1)).toNat) μ) fun r318 μ319 =>
        iv_ck (0 ≤ (iv_wr (l3 + 1)) ∧ (iv_wr (l3 + 1)) < L) <|
        iv_bnd (f_X10_again (μ319 1 (iv_wr (l3 + 1)).toNat) μ319) fun r322 μ323 =>
        if r318 = r322 then
          j3 μ323
        else
          some (0, μ323)
      else
      if (iv_and (μ 1 l3.toNat) 31) = 30 then
        iv_ck (0 ≤ (iv_wr (l3 + 1)) ∧ (iv_wr (l3 + 1)) < L) <|
        iv_bnd (f_X9_count (μ 1 (iv_wr (l3 + 1)).toNat) μ) fun r327 μ328 =>
        iv_ck (0 ≤ (iv_wr (l3 + 1)) ∧ (iv_wr (l3 + 1)) < L) <|
        iv_bnd (f_X10_count (μ328 1 (iv_wr (l3 + 1)).toNat) μ328) fun r331 μ332 =>
        if r327 = r331 then
          j3 μ332
        else
          some (0, μ332)
      else
        j3 μ
def f_L_law (L : Nat) (μ : ivM) : Option (Int × ivM) :=
  lp_L_law_18 L iv_fuel 0 μ
