/-! THE LAW'S LOOP -/
section IBZ
set_option maxHeartbeats 2000000 in
theorem il_loop {L : Nat} (hL : L ≤ 2048) : ∀ (d j n : Nat) (μ : ivM), j + d = 512 → d < n → ib_inv (99 * (j : Int)) μ → ∃ ν, lp_L_law_18 L n ((4 * j : Nat) : Int) μ = some (1, ν) := by
  intro d
  induction d with
  | zero =>
    intro j n μ hj hn h
    obtain ⟨n, rfl⟩ : ∃ q, n = q + 1 := ⟨n - 1, by omega⟩
    refine ⟨μ, ?_⟩
    unfold lp_L_law_18
    rw [iv_wr_id (x := (L : Int) - 4) (by omega) (by omega), if_pos (by omega)]
  | succ d ih =>
    intro j n μ hj hn h
    obtain ⟨n, rfl⟩ : ∃ q, n = q + 1 := ⟨n - 1, by omega⟩
    unfold lp_L_law_18
    simp only [iv_let]
    rw [iv_wr_id (x := (L : Int) - 4) (by omega) (by omega)]
    by_cases hend : (L : Int) - 4 < ((4 * j : Nat) : Int)
    · rw [if_pos hend]
      exact ⟨μ, rfl⟩
    rw [if_neg hend, iv_ck_pos (by omega)]
    have hD : 99 * (j : Int) ≤ 60000 := by omega
    have w1 : iv_wr (((4 * j : Nat) : Int) + 1) = ((4 * j + 1 : Nat) : Int) := by rw [iv_wr_id (by omega) (by omega)]; omega
    have w2 : iv_wr (((4 * j : Nat) : Int) + 2) = ((4 * j + 2 : Nat) : Int) := by rw [iv_wr_id (by omega) (by omega)]; omega
    have w3 : iv_wr (((4 * j : Nat) : Int) + 3) = ((4 * j + 3 : Nat) : Int) := by rw [iv_wr_id (by omega) (by omega)]; omega
    have w4 : iv_wr (((4 * j : Nat) : Int) + 4) = ((4 * (j + 1) : Nat) : Int) := by rw [iv_wr_id (by omega) (by omega)]; omega
    have k1 : 0 ≤ ((4 * j + 1 : Nat) : Int) ∧ ((4 * j + 1 : Nat) : Int) < L := by omega
    have k2 : 0 ≤ ((4 * j + 2 : Nat) : Int) ∧ ((4 * j + 2 : Nat) : Int) < L := by omega
    have k3 : 0 ≤ ((4 * j + 3 : Nat) : Int) ∧ ((4 * j + 3 : Nat) : Int) < L := by omega
    have next : ∀ κ, ib_inv (99 * (j : Int) + 99) κ → ∃ ν, lp_L_law_18 L n ((4 * (j + 1) : Nat) : Int) κ = some (1, ν) := fun κ hκ =>
      ih (j + 1) n κ (by omega) (by omega) (by rw [show 99 * ((j + 1 : Nat) : Int) = 99 * (j : Int) + 99 by omega]; exact hκ)
    rw [w1, w2, w3, w4, Int.toNat_natCast (4 * j), Int.toNat_natCast (4 * j + 1), Int.toNat_natCast (4 * j + 2), Int.toNat_natCast (4 * j + 3)]
    by_cases c0 : iv_and (μ 1 (4 * j)) 31 = 0
    · obtain ⟨r, ν, κ, e1, e2, hk⟩ := is_write h (p := μ 1 (4 * j + 1)) (v := iv_lor (iv_lshl (μ 1 (4 * j + 2)) 32) (iv_land (μ 1 (4 * j + 3)) 4294967295))
      have hs := ik_Ret (T_X9_write L _ _ e1)
      rw [if_pos c0, iv_ck_pos k1, iv_ck_pos k2, iv_ck_pos k3, e1, iv_bnd_some, iv_ck_pos k1, iv_ck_pos k2, iv_ck_pos k3, hs (4 * j + 1), hs (4 * j + 2), hs (4 * j + 3), e2, iv_bnd_some, if_pos rfl]
      exact next κ (hk.le (by omega))
    rw [if_neg c0]
    by_cases c1 : iv_and (μ 1 (4 * j)) 31 = 1
    · obtain ⟨r, ν, κ, e1, e2, hk⟩ := is_wipe h
      have hs := ik_Ret (T_X9_wipe L e1)
      rw [if_pos c1, e1, iv_bnd_some, e2, iv_bnd_some, if_pos rfl]
      exact next κ (hk.le (by omega))
    rw [if_neg c1]
    by_cases c2 : iv_and (μ 1 (4 * j)) 31 = 2
    · obtain ⟨r, ν, κ, e1, e2, hk⟩ := ib_q.st h (iq_fault h)
      have hs := ik_Ret (T_X9_fault L e1)
      rw [if_pos c2, e1, iv_bnd_some, e2, iv_bnd_some, if_pos rfl]
      exact next κ (hk.le (by omega))
    rw [if_neg c2]
    by_cases c3 : iv_and (μ 1 (4 * j)) 31 = 3
    · obtain ⟨r, ν, κ, e1, e2, hk⟩ := is_house h
      have hs := ik_Ret (T_X9_house L e1)
      rw [if_pos c3, e1, iv_bnd_some, e2, iv_bnd_some, if_pos rfl]
      exact next κ (hk.le (by omega))
    rw [if_neg c3]
    by_cases c4 : iv_and (μ 1 (4 * j)) 31 = 4
    · obtain ⟨r, ν, κ, e1, e2, hk⟩ := ib_q.st h (iq_sound h (p := μ 1 (4 * j + 1)) (q := μ 1 (4 * j + 2)))
      have hs := ik_Ret (T_X9_sound L _ _ e1)
      rw [if_pos c4, iv_ck_pos k1, iv_ck_pos k2, e1, iv_bnd_some, iv_ck_pos k1, iv_ck_pos k2, hs (4 * j + 1), hs (4 * j + 2), e2, iv_bnd_some, if_pos rfl]
      exact next κ (hk.le (by omega))
    rw [if_neg c4]
    by_cases c5 : iv_and (μ 1 (4 * j)) 31 = 5
    · obtain ⟨r, ν, κ, e1, e2, hk⟩ := ib_q.st h (iq_off h (p := μ 1 (4 * j + 1)) (q := μ 1 (4 * j + 2)))
      have hs := ik_Ret (T_X9_off L _ _ e1)
      rw [if_pos c5, iv_ck_pos k1, iv_ck_pos k2, e1, iv_bnd_some, iv_ck_pos k1, iv_ck_pos k2, hs (4 * j + 1), hs (4 * j + 2), e2, iv_bnd_some, if_pos rfl]
      exact next κ (hk.le (by omega))
    rw [if_neg c5]
    by_cases c6 : iv_and (μ 1 (4 * j)) 31 = 6
    · obtain ⟨r, ν, κ, e1, e2, hk⟩ := ib_q.st h (iq_near h hD (p := μ 1 (4 * j + 1)))
      have hs := ik_Ret (T_X9_near L _ e1)
      rw [if_pos c6, iv_ck_pos k1, e1, iv_bnd_some, iv_ck_pos k1, hs (4 * j + 1), e2, iv_bnd_some, if_pos rfl]
      exact next κ (hk.le (by omega))
    rw [if_neg c6]
    by_cases c7 : iv_and (μ 1 (4 * j)) 31 = 7
    · obtain ⟨r, ν, κ, e1, e2, hk⟩ := ib_q.st h (iq_knows h (p := μ 1 (4 * j + 1)))
      have hs := ik_Ret (T_X9_knows L _ e1)
      rw [if_pos c7, iv_ck_pos k1, e1, iv_bnd_some, iv_ck_pos k1, hs (4 * j + 1), e2, iv_bnd_some, if_pos rfl]
      exact next κ (hk.le (by omega))
    rw [if_neg c7]
    by_cases c8 : iv_and (μ 1 (4 * j)) 31 = 8
    · obtain ⟨r, ν, κ, e1, e2, hk⟩ := ib_q.st h (iq_live h hD)
      have hs := ik_Ret (T_X9_live L e1)
      rw [if_pos c8, e1, iv_bnd_some, e2, iv_bnd_some, if_pos rfl]
      exact next κ (hk.le (by omega))
    rw [if_neg c8]
    by_cases c9 : iv_and (μ 1 (4 * j)) 31 = 9
    · obtain ⟨r, ν, κ, e1, e2, hk⟩ := is_days h hD (p := μ 1 (4 * j + 1))
      have hs := ik_Ret (T_X9_days L _ e1)
      rw [if_pos c9, iv_ck_pos k1, e1, iv_bnd_some, iv_ck_pos k1, hs (4 * j + 1), e2, iv_bnd_some, if_pos rfl]
      exact next κ (hk)
    rw [if_neg c9]
    by_cases c10 : iv_and (μ 1 (4 * j)) 31 = 10
    · obtain ⟨r, ν, κ, e1, e2, hk⟩ := ib_q.st h (iq_fades h hD (p := μ 1 (4 * j + 1)))
      have hs := ik_Ret (T_X9_fades L _ e1)
      rw [if_pos c10, iv_ck_pos k1, e1, iv_bnd_some, iv_ck_pos k1, hs (4 * j + 1), e2, iv_bnd_some, if_pos rfl]
      exact next κ (hk.le (by omega))
    rw [if_neg c10]
    by_cases c11 : iv_and (μ 1 (4 * j)) 31 = 11
    · obtain ⟨r, ν, κ, e1, e2, hk⟩ := is_say h (p := μ 1 (4 * j + 1)) (q := μ 1 (4 * j + 2)) (r := μ 1 (4 * j + 3))
      have hs := ik_Ret (T_X9_say L _ _ _ e1)
      rw [if_pos c11, iv_ck_pos k1, iv_ck_pos k2, iv_ck_pos k3, e1, iv_bnd_some, iv_ck_pos k1, iv_ck_pos k2, iv_ck_pos k3, hs (4 * j + 1), hs (4 * j + 2), hs (4 * j + 3), e2, iv_bnd_some, if_pos rfl]
      exact next κ (hk.le (by omega))
    rw [if_neg c11]
    by_cases c12 : iv_and (μ 1 (4 * j)) 31 = 12
    · obtain ⟨r, ν, κ, e1, e2, hk⟩ := is_give h (p := μ 1 (4 * j + 1)) (o := μ 1 (4 * j + 2)) (q := μ 1 (4 * j + 3))
      have hs := ik_Ret (T_X9_give L _ _ _ e1)
      rw [if_pos c12, iv_ck_pos k1, iv_ck_pos k2, iv_ck_pos k3, e1, iv_bnd_some, iv_ck_pos k1, iv_ck_pos k2, iv_ck_pos k3, hs (4 * j + 1), hs (4 * j + 2), hs (4 * j + 3), e2, iv_bnd_some, if_pos rfl]
      exact next κ (hk.le (by omega))
    rw [if_neg c12]
    by_cases c13 : iv_and (μ 1 (4 * j)) 31 = 13
    · obtain ⟨r, ν, κ, e1, e2, hk⟩ := ib_q.st h (iq_fresh h hD (p := μ 1 (4 * j + 1)))
      have hs := ik_Ret (T_X9_fresh L _ e1)
      rw [if_pos c13, iv_ck_pos k1, e1, iv_bnd_some, iv_ck_pos k1, hs (4 * j + 1), e2, iv_bnd_some, if_pos rfl]
      exact next κ (hk.le (by omega))
    rw [if_neg c13]
    by_cases c14 : iv_and (μ 1 (4 * j)) 31 = 14
    · obtain ⟨r, ν, κ, e1, e2, hk⟩ := is_anew h hD (p := μ 1 (4 * j + 1)) (q := μ 1 (4 * j + 2))
      have hs := ik_Ret (T_X9_anew L _ _ e1)
      rw [if_pos c14, iv_ck_pos k1, iv_ck_pos k2, e1, iv_bnd_some, iv_ck_pos k1, iv_ck_pos k2, hs (4 * j + 1), hs (4 * j + 2), e2, iv_bnd_some, if_pos rfl]
      exact next κ (hk.le (by omega))
    rw [if_neg c14]
    by_cases c15 : iv_and (μ 1 (4 * j)) 31 = 15
    · obtain ⟨r, ν, κ, e1, e2, hk⟩ := ib_q.st h (iq_lifts h hD (p := μ 1 (4 * j + 1)))
      have hs := ik_Ret (T_X9_lifts L _ e1)
      rw [if_pos c15, iv_ck_pos k1, e1, iv_bnd_some, iv_ck_pos k1, hs (4 * j + 1), e2, iv_bnd_some, if_pos rfl]
      exact next κ (hk.le (by omega))
    rw [if_neg c15]
    by_cases c16 : iv_and (μ 1 (4 * j)) 31 = 16
    · obtain ⟨r, ν, κ, e1, e2, hk⟩ := ib_q.st h (iq_stands h hD (p := μ 1 (4 * j + 1)) (q := μ 1 (4 * j + 2)))
      have hs := ik_Ret (T_X9_stands L _ _ e1)
      rw [if_pos c16, iv_ck_pos k1, iv_ck_pos k2, e1, iv_bnd_some, iv_ck_pos k1, iv_ck_pos k2, hs (4 * j + 1), hs (4 * j + 2), e2, iv_bnd_some, if_pos rfl]
      exact next κ (hk.le (by omega))
    rw [if_neg c16]
    by_cases c17 : iv_and (μ 1 (4 * j)) 31 = 17
    · obtain ⟨r, ν, κ, e1, e2, hk⟩ := ib_q.st h (iq_carries h hD (p := μ 1 (4 * j + 1)) (q := μ 1 (4 * j + 2)))
      have hs := ik_Ret (T_X9_carries L _ _ e1)
      rw [if_pos c17, iv_ck_pos k1, iv_ck_pos k2, e1, iv_bnd_some, iv_ck_pos k1, iv_ck_pos k2, hs (4 * j + 1), hs (4 * j + 2), e2, iv_bnd_some, if_pos rfl]
      exact next κ (hk.le (by omega))
    rw [if_neg c17]
    by_cases c18 : iv_and (μ 1 (4 * j)) 31 = 18
    · obtain ⟨r, ν, κ, e1, e2, hk⟩ := ib_q.st h (iq_times h hD (p := μ 1 (4 * j + 1)))
      have hs := ik_Ret (T_X9_times L _ e1)
      rw [if_pos c18, iv_ck_pos k1, e1, iv_bnd_some, iv_ck_pos k1, hs (4 * j + 1), e2, iv_bnd_some, if_pos rfl]
      exact next κ (hk.le (by omega))
    rw [if_neg c18]
    by_cases c19 : iv_and (μ 1 (4 * j)) 31 = 19
    · obtain ⟨r, ν, κ, e1, e2, hk⟩ := ib_q.st h (iq_worth h hD (p := μ 1 (4 * j + 1)))
      have hs := ik_Ret (T_X9_worth L _ e1)
      rw [if_pos c19, iv_ck_pos k1, e1, iv_bnd_some, iv_ck_pos k1, hs (4 * j + 1), e2, iv_bnd_some, if_pos rfl]
      exact next κ (hk.le (by omega))
    rw [if_neg c19]
    by_cases c20 : iv_and (μ 1 (4 * j)) 31 = 20
    · obtain ⟨r, ν, κ, e1, e2, hk⟩ := ib_q.st h (iq_upkeep h hD (p := μ 1 (4 * j + 1)) (q := μ 1 (4 * j + 2)))
      have hs := ik_Ret (T_X9_upkeep L _ _ e1)
      rw [if_pos c20, iv_ck_pos k1, iv_ck_pos k2, e1, iv_bnd_some, iv_ck_pos k1, iv_ck_pos k2, hs (4 * j + 1), hs (4 * j + 2), e2, iv_bnd_some, if_pos rfl]
      exact next κ (hk.le (by omega))
    rw [if_neg c20]
    by_cases c21 : iv_and (μ 1 (4 * j)) 31 = 21
    · obtain ⟨r, ν, κ, e1, e2, hk⟩ := ib_q.st h (iq_mayHave h hD (p := μ 1 (4 * j + 1)))
      have hs := ik_Ret (T_X9_mayHave L _ e1)
      rw [if_pos c21, iv_ck_pos k1, e1, iv_bnd_some, iv_ck_pos k1, hs (4 * j + 1), e2, iv_bnd_some, if_pos rfl]
      exact next κ (hk.le (by omega))
    rw [if_neg c21]
    by_cases c22 : iv_and (μ 1 (4 * j)) 31 = 22
    · obtain ⟨r, ν, κ, e1, e2, hk⟩ := is_line h (p := μ 1 (4 * j + 1)) (q := μ 1 (4 * j + 2))
      have hs := ik_Ret (T_X9_line L _ _ e1)
      rw [if_pos c22, iv_ck_pos k1, iv_ck_pos k2, e1, iv_bnd_some, iv_ck_pos k1, iv_ck_pos k2, hs (4 * j + 1), hs (4 * j + 2), e2, iv_bnd_some, if_pos rfl]
      exact next κ (hk.le (by omega))
    rw [if_neg c22]
    by_cases c23 : iv_and (μ 1 (4 * j)) 31 = 23
    · obtain ⟨r, ν, κ, e1, e2, hk⟩ := is_silence h
      have hs := ik_Ret (T_X9_silence L e1)
      rw [if_pos c23, e1, iv_bnd_some, e2, iv_bnd_some, if_pos rfl]
      exact next κ (hk.le (by omega))
    rw [if_neg c23]
    by_cases c24 : iv_and (μ 1 (4 * j)) 31 = 24
    · obtain ⟨r, ν, κ, e1, e2, hk⟩ := ib_q.st h (iq_ways h (p := μ 1 (4 * j + 1)))
      have hs := ik_Ret (T_X9_ways L _ e1)
      rw [if_pos c24, iv_ck_pos k1, e1, iv_bnd_some, iv_ck_pos k1, hs (4 * j + 1), e2, iv_bnd_some, if_pos rfl]
      exact next κ (hk.le (by omega))
    rw [if_neg c24]
    by_cases c25 : iv_and (μ 1 (4 * j)) 31 = 25
    · obtain ⟨r, ν, κ, e1, e2, hk⟩ := ib_q.st h (iq_mayBe h (p := μ 1 (4 * j + 1)) (q := μ 1 (4 * j + 2)))
      have hs := ik_Ret (T_X9_mayBe L _ _ e1)
      rw [if_pos c25, iv_ck_pos k1, iv_ck_pos k2, e1, iv_bnd_some, iv_ck_pos k1, iv_ck_pos k2, hs (4 * j + 1), hs (4 * j + 2), e2, iv_bnd_some, if_pos rfl]
      exact next κ (hk.le (by omega))
    rw [if_neg c25]
    by_cases c26 : iv_and (μ 1 (4 * j)) 31 = 26
    · obtain ⟨r, ν, κ, e1, e2, hk⟩ := ib_q.st h (iq_breaks h (p := μ 1 (4 * j + 1)))
      have hs := ik_Ret (T_X9_breaks L _ e1)
      rw [if_pos c26, iv_ck_pos k1, e1, iv_bnd_some, iv_ck_pos k1, hs (4 * j + 1), e2, iv_bnd_some, if_pos rfl]
      exact next κ (hk.le (by omega))
    rw [if_neg c26]
    by_cases c27 : iv_and (μ 1 (4 * j)) 31 = 27
    · obtain ⟨r, ν, κ, e1, e2, hk⟩ := ib_q.st h (iq_twins h hD (p := μ 1 (4 * j + 1)))
      have hs := ik_Ret (T_X9_twins L _ e1)
      rw [if_pos c27, iv_ck_pos k1, e1, iv_bnd_some, iv_ck_pos k1, hs (4 * j + 1), e2, iv_bnd_some, if_pos rfl]
      exact next κ (hk.le (by omega))
    rw [if_neg c27]
    by_cases c28 : iv_and (μ 1 (4 * j)) 31 = 28
    · obtain ⟨r, ν, κ, e1, e2, hk⟩ := is_keep h (p := μ 1 (4 * j + 1))
      have hs := ik_Ret (T_X9_keep L _ e1)
      rw [if_pos c28, iv_ck_pos k1, e1, iv_bnd_some, iv_ck_pos k1, hs (4 * j + 1), e2, iv_bnd_some, if_pos rfl]
      exact next κ (hk.le (by omega))
    rw [if_neg c28]
    by_cases c29 : iv_and (μ 1 (4 * j)) 31 = 29
    · obtain ⟨r, ν, κ, e1, e2, hk⟩ := is_again h (p := μ 1 (4 * j + 1))
      have hs := ik_Ret (T_X9_again L _ e1)
      rw [if_pos c29, iv_ck_pos k1, e1, iv_bnd_some, iv_ck_pos k1, hs (4 * j + 1), e2, iv_bnd_some, if_pos rfl]
      exact next κ (hk.le (by omega))
    rw [if_neg c29]
    by_cases c30 : iv_and (μ 1 (4 * j)) 31 = 30
    · obtain ⟨r, ν, κ, e1, e2, hk⟩ := ib_q.st h (iq_count h hD (p := μ 1 (4 * j + 1)))
      have hs := ik_Ret (T_X9_count L _ e1)
      rw [if_pos c30, iv_ck_pos k1, e1, iv_bnd_some, iv_ck_pos k1, hs (4 * j + 1), e2, iv_bnd_some, if_pos rfl]
      exact next κ (hk.le (by omega))
    rw [if_neg c30]
    exact next μ (h.le (by omega))
theorem il_law {L : Nat} (hL : L ≤ 2048) {μ : ivM} (h : ib_inv 0 μ) : ∃ ν, f_L_law L μ = some (1, ν) := by
  obtain ⟨ν, e⟩ := il_loop hL 512 0 iv_fuel μ (by omega) (by decide) (by rw [show 99 * ((0 : Nat) : Int) = 0 from rfl]; exact h)
  exact ⟨ν, e⟩
/-! the state at the start -/
theorem il_inv0 (xs : Nat → Int32) : ib_inv 0 (iv_mu0 xs) := by
  have z : ∀ a k, a ≠ 1 → iv_mu0 xs a k = 0 := fun a k h => if_neg h
  refine ⟨⟨0, by omega, z _ _ (by omega), z _ _ (by omega), fun k hk => by omega⟩, ?_, ?_, ?_, ?_⟩
  · unfold ib_ho
    simp only [z 110 _ (by omega), z 9 _ (by omega), z 10 _ (by omega), z 119 _ (by omega)]
    exact ⟨by omega, by omega, by omega, by omega, trivial, trivial, trivial, by omega, by omega, fun p hp => ⟨fun c => by omega, fun _ => trivial⟩⟩
  · have eT : ib_T (iv_mu0 xs) = 0 := by unfold ib_T; rw [z _ _ (by omega)]; rfl
    have eP : ib_P (iv_mu0 xs) = 0 := by unfold ib_P; rw [z _ _ (by omega)]; rfl
    rw [eT, eP, z 110 15 (by omega)]
    refine ⟨z _ _ (by omega), Int.le_refl 0, Int.le_refl 0, fun t ht => ?_⟩
    unfold ib_m1
    rw [z 116 _ (by omega), z 117 _ (by omega), z 118 _ (by omega), z (11 + 1) _ (by omega), z (11 + 2) _ (by omega), z (11 + 3) _ (by omega)]
    exact ⟨⟨by decide, fun i hi => by
      have hi : i < 0 := hi
      omega⟩, Int.le_refl 0, ⟨fun c => by omega, fun c => by omega⟩, rfl, rfl, Int.le_refl 0, Int.le_refl 0, rfl, Int.le_refl 0, by decide, fun _ => rfl⟩
  · intro q hq
    rw [z 130 q (by omega), z (16 + 4 * q) 4 (by omega)]
    exact ⟨rfl, Or.inl rfl, fun c => absurd c (by decide)⟩
  · unfold ib_so
    rw [z 110 26 (by omega), z 105 0 (by omega)]
    exact ⟨by omega, by omega, rfl, fun i hi => by omega⟩
end IBZ
