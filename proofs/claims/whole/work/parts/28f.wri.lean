/-! STEPS: BYTES -/
def ib_by (v : Int) (i : Nat) : Nat := ((BitVec.ofInt 64 v).toNat >>> (8 * i)) % 256
theorem ib_by_lt {v : Int} {i : Nat} : ib_by v i < 256 := Nat.mod_lt _ (by omega)
theorem ib_sh8u : ∀ i : Nat, i < 8 → ((Int32.ofInt ((8 * i : Nat) : Int)).toInt64.toUInt64 &&& Int64.toUInt64 63).toNat % 64 = 8 * i := by decide +kernel
theorem ib_sh8s : ∀ i : Nat, i < 8 → ((Int32.ofInt ((8 * i : Nat) : Int)).toInt64 &&& 63).toBitVec.smod 64 = BitVec.ofNat 64 (8 * i) := by decide +kernel
theorem ib_w8 {i : Nat} (hi : i < 8) : iv_wr (8 * (i : Int)) = ((8 * i : Nat) : Int) := by
  rw [iv_wr_id (by omega) (by omega)]; omega
theorem ib_and255 (n : Nat) : n &&& 255 = n % 256 := by
  have := Nat.and_two_pow_sub_one_eq_mod n 8
  exact this
theorem ib_byX {v : Int} {i : Nat} (hi : i < 8) : iv_and (iv_wr (iv_lushr v (iv_wr (8 * (i : Int))))) 255 = ((ib_by v i : Nat) : Int) := by
  rw [ib_w8 hi]
  have hy : ((Int64.ofInt v).toUInt64 >>> ((Int32.ofInt ((8 * i : Nat) : Int)).toInt64.toUInt64 &&& Int64.toUInt64 63)).toNat = (BitVec.ofInt 64 v).toNat >>> (8 * i) := by
    rw [UInt64.toNat_shiftRight, ib_sh8u i hi]
    rfl
  have hb : ((Int64.ofInt v).toUInt64 >>> ((Int32.ofInt ((8 * i : Nat) : Int)).toInt64.toUInt64 &&& Int64.toUInt64 63)).toNat < 18446744073709551616 := UInt64.toNat_lt _
  have hz : iv_lushr v ((8 * i : Nat) : Int) = ((Int64.ofInt v).toUInt64 >>> ((Int32.ofInt ((8 * i : Nat) : Int)).toInt64.toUInt64 &&& Int64.toUInt64 63)).toBitVec.toInt := rfl
  rw [hz, BitVec.toInt_eq_toNat_cond]
  have e2 : ((Int64.ofInt v).toUInt64 >>> ((Int32.ofInt ((8 * i : Nat) : Int)).toInt64.toUInt64 &&& Int64.toUInt64 63)).toBitVec.toNat = (BitVec.ofInt 64 v).toNat >>> (8 * i) := hy
  rw [e2]
  have hb2 : (BitVec.ofInt 64 v).toNat >>> (8 * i) < 18446744073709551616 := by rw [← hy]; exact hb
  unfold ib_by
  generalize (BitVec.ofInt 64 v).toNat >>> (8 * i) = n at *
  have e64 : ((2 ^ 64 : Nat) : Int) = 18446744073709551616 := by decide
  have e32 : ((2 ^ 32 : Nat) : Int) = 4294967296 := by decide
  refine iv_toI ?_ (by omega)
  show (Int32.ofInt (Int32.ofInt (if 2 * n < 2 ^ 64 then (n : Int) else (n : Int) - ((2 ^ 64 : Nat) : Int))).toInt &&& Int32.ofInt 255).toBitVec.toNat = n % 256
  rw [Int32.ofInt_toInt, Int32.toBitVec_and, BitVec.toNat_and]
  show (BitVec.ofInt 32 (if 2 * n < 2 ^ 64 then (n : Int) else (n : Int) - ((2 ^ 64 : Nat) : Int))).toNat &&& 255 = n % 256
  rw [ib_and255, BitVec.toNat_ofInt, e32, e64]
  split <;> omega
theorem ib_byM {v : Int} {i : Nat} (hi : i < 8) : iv_wr (iv_land (iv_lshr v (iv_wr (8 * (i : Int)))) 255) = ((ib_by v i : Nat) : Int) := by
  rw [ib_w8 hi]
  have h1 : (Int64.ofInt v >>> ((Int32.ofInt ((8 * i : Nat) : Int)).toInt64 &&& 63)).toBitVec = BitVec.sshiftRight (BitVec.ofInt 64 v) (8 * i) := by
    show BitVec.sshiftRight' (Int64.ofInt v).toBitVec (((Int32.ofInt ((8 * i : Nat) : Int)).toInt64 &&& 63).toBitVec.smod 64) = _
    rw [ib_sh8s i hi]
    show BitVec.sshiftRight (Int64.ofInt v).toBitVec (BitVec.ofNat 64 (8 * i)).toNat = _
    rw [BitVec.toNat_ofNat, Nat.mod_eq_of_lt (by omega)]
    rfl
  have h2 : iv_land (iv_lshr v ((8 * i : Nat) : Int)) 255 = (Int64.ofInt v >>> ((Int32.ofInt ((8 * i : Nat) : Int)).toInt64 &&& 63) &&& Int64.ofInt 255).toInt := by
    show (Int64.ofInt (Int64.ofInt v >>> ((Int32.ofInt ((8 * i : Nat) : Int)).toInt64 &&& 63)).toInt &&& Int64.ofInt 255).toInt = _
    rw [Int64.ofInt_toInt]
  have h3 : (Int64.ofInt v >>> ((Int32.ofInt ((8 * i : Nat) : Int)).toInt64 &&& 63) &&& Int64.ofInt 255).toBitVec.toNat = ib_by v i := by
    rw [Int64.toBitVec_and, h1, BitVec.toNat_and]
    show (BitVec.sshiftRight (BitVec.ofInt 64 v) (8 * i)).toNat &&& 255 = ib_by v i
    apply Nat.eq_of_testBit_eq
    intro j
    unfold ib_by
    rw [show (256 : Nat) = 2 ^ 8 from rfl, Nat.testBit_mod_two_pow, Nat.testBit_shiftRight, Nat.testBit_and, show (255 : Nat) = 2 ^ 8 - 1 from rfl, Nat.testBit_two_pow_sub_one, BitVec.testBit_toNat, BitVec.getLsbD_sshiftRight, BitVec.testBit_toNat]
    by_cases c : j < 8
    · rw [decide_eq_true c, Bool.and_true, Bool.true_and, if_pos (by omega), decide_eq_false (by omega)]; rfl
    · rw [decide_eq_false c, Bool.and_false, Bool.false_and]
  have h4 := ib_by_lt (v := v) (i := i)
  have h5 : iv_land (iv_lshr v ((8 * i : Nat) : Int)) 255 = ((ib_by v i : Nat) : Int) := by
    rw [h2]
    show (Int64.ofInt v >>> ((Int32.ofInt ((8 * i : Nat) : Int)).toInt64 &&& 63) &&& Int64.ofInt 255).toBitVec.toInt = _
    rw [BitVec.toInt_eq_toNat_cond, h3, if_pos (by omega)]
  rw [h5, iv_wr_id (by omega) (by omega)]
section IBX
variable {D : Int} {s : ivM}
theorem ib_wrX {v : Int} : ∀ (i n m : Nat) (μ : ivM), i ≤ 8 → i < n → m + i ≤ 96 → μ 3 1 = m → ∃ ν, lp_X9_write_36 v n ((i : Int) - 1) μ = some (((m + i : Nat) : Int), ν) ∧ ν 3 1 = ((m + i : Nat) : Int) ∧ (∀ q, q < i → ν 4 (m + q) = (ib_by v (i - 1 - q) : Nat)) ∧ (∀ q, q < m → ν 4 q = μ 4 q) ∧ ∀ a k, a ≠ 3 → a ≠ 4 → ν a k = μ a k := by
  intro i
  induction i with
  | zero =>
    intro n m μ hi hn hm h3
    obtain ⟨n, rfl⟩ : ∃ q, n = q + 1 := ⟨n - 1, by omega⟩
    unfold lp_X9_write_36
    rw [if_pos (by omega), h3]
    exact ⟨μ, rfl, h3, fun q hq => by omega, fun _ _ => rfl, fun _ _ _ _ => rfl⟩
  | succ i ih =>
    intro n m μ hi hn hm h3
    obtain ⟨n, rfl⟩ : ∃ q, n = q + 1 := ⟨n - 1, by omega⟩
    have hap : f_X8_append (iv_and (iv_wr (iv_lushr v (iv_wr (8 * (i : Int))))) 255) μ = some (0, iv_upd (iv_upd μ 4 m (ib_by v i : Nat)) 3 1 ((m + 1 : Nat) : Int)) := by
      unfold f_X8_append
      simp only [iv_let]
      rw [ib_byX (by omega), h3, if_neg (by omega), if_neg (by omega), iv_ck_pos (by omega), Int.toNat_natCast, iv_upd_na (by omega), h3, iv_wr_succ (by omega)]
    unfold lp_X9_write_36
    rw [show ((i + 1 : Nat) : Int) - 1 = (i : Int) by omega, if_neg (by omega), hap, iv_bnd_some, iv_wr_id (by omega) (by omega), show (i : Int) + (-1) = (i : Int) - 1 by omega]
    obtain ⟨ν, e, f0, f1, f2, f3⟩ := ih n (m + 1) (iv_upd (iv_upd μ 4 m (ib_by v i : Nat)) 3 1 ((m + 1 : Nat) : Int)) (by omega) (by omega) (by omega) iv_upd_at
    refine ⟨ν, ?_, ?_, fun q hq => ?_, fun q hq => ?_, fun a k h1 h2 => ?_⟩
    · rw [e, show m + 1 + i = m + (i + 1) by omega]
    · rw [f0, show m + 1 + i = m + (i + 1) by omega]
    · by_cases c : q = 0
      · subst c
        rw [Nat.add_zero, f2 m (by omega), iv_upd_na (by omega), iv_upd_at, show i + 1 - 1 - 0 = i by omega]
      · rw [show m + q = m + 1 + (q - 1) by omega, f1 (q - 1) (by omega), show i - 1 - (q - 1) = i + 1 - 1 - q by omega]
    · rw [f2 q (by omega), iv_upd_na (by omega), iv_upd_nk (by omega)]
    · rw [f3 a k h1 h2, iv_upd_na h1, iv_upd_na h2]
theorem ib_wrM {v : Int} : ∀ (i n m : Nat) (μ : ivM), i ≤ 8 → i < n → m + i ≤ 96 → μ 110 17 = m → ∃ ν, lp_X10_write_34 v n ((i : Int) - 1) μ = some (((m + i : Nat) : Int), ν) ∧ ν 110 17 = ((m + i : Nat) : Int) ∧ (∀ q, q < i → ν 120 (m + q) = (ib_by v (i - 1 - q) : Nat)) ∧ (∀ q, q < m → ν 120 q = μ 120 q) ∧ ∀ a k, ¬ (a = 110 ∧ k = 17) → a ≠ 120 → ν a k = μ a k := by
  intro i
  induction i with
  | zero =>
    intro n m μ hi hn hm h3
    obtain ⟨n, rfl⟩ : ∃ q, n = q + 1 := ⟨n - 1, by omega⟩
    unfold lp_X10_write_34
    rw [if_pos (by omega), h3]
    exact ⟨μ, rfl, h3, fun q hq => by omega, fun _ _ => rfl, fun _ _ _ _ => rfl⟩
  | succ i ih =>
    intro n m μ hi hn hm h3
    obtain ⟨n, rfl⟩ : ∃ q, n = q + 1 := ⟨n - 1, by omega⟩
    unfold lp_X10_write_34
    rw [show ((i + 1 : Nat) : Int) - 1 = (i : Int) by omega, if_neg (by omega), h3, iv_ck_pos (by omega), ib_byM (by omega), Int.toNat_natCast, iv_upd_na (a := 120) (a' := 110) (by omega), h3, iv_wr_succ (x := m) (by omega), iv_wr_id (by omega) (by omega), show (i : Int) + (-1) = (i : Int) - 1 by omega]
    obtain ⟨ν, e, f0, f1, f2, f3⟩ := ih n (m + 1) (iv_upd (iv_upd μ 120 m (ib_by v i : Nat)) 110 17 ((m + 1 : Nat) : Int)) (by omega) (by omega) (by omega) iv_upd_at
    refine ⟨ν, ?_, ?_, fun q hq => ?_, fun q hq => ?_, fun a k h1 h2 => ?_⟩
    · rw [e, show m + 1 + i = m + (i + 1) by omega]
    · rw [f0, show m + 1 + i = m + (i + 1) by omega]
    · by_cases c : q = 0
      · subst c
        rw [Nat.add_zero, f2 m (by omega), iv_upd_na (by omega), iv_upd_at, show i + 1 - 1 - 0 = i by omega]
      · rw [show m + q = m + 1 + (q - 1) by omega, f1 (q - 1) (by omega), show i - 1 - (q - 1) = i + 1 - 1 - q by omega]
    · rw [f2 q (by omega), iv_upd_na (by omega), iv_upd_nk (by omega)]
    · rw [f3 a k h1 h2]
      unfold iv_upd
      rw [if_neg h1, if_neg (by omega)]
theorem is_write (h : ib_inv D s) {p v : Int} : ib_st D s (f_X9_write p v) (f_X10_write p v) := by
  obtain ⟨m, t0, t1, t2, t3⟩ := h.1
  by_cases c : 1 ≤ p ∧ p ≤ 8
  · obtain ⟨i, rfl⟩ : ∃ i : Nat, p = i := ⟨p.toNat, by omega⟩
    by_cases c2 : m + i ≤ 96
    · obtain ⟨ν, e1, a1, a2, a3, a4⟩ := ib_wrX (v := v) i iv_fuel m s (by omega) (by unfold iv_fuel; omega) c2 t1
      obtain ⟨κ, e2, b1, b2, b3, b4⟩ := ib_wrM (v := v) i iv_fuel m ν (by omega) (by unfold iv_fuel; omega) c2 (by rw [a4 _ _ (by omega) (by omega)]; exact t2)
      have ex : f_X9_write i v s = some (((m + i : Nat) : Int), ν) := by
        unfold f_X9_write
        simp only [iv_let]
        rw [if_neg (by omega), if_pos (by omega), t1, iv_wr_id (x := (m : Int) + (i : Int)) (by omega) (by omega), if_pos (by omega), iv_wr_id (by omega) (by omega), e1]
      refine ⟨_, ν, κ, ex, ?_, ?_⟩
      · unfold f_X10_write
        rw [ib_in, iv_bnd_some, ib_iz, if_pos (by omega), a4 110 17 (by omega) (by omega), t2, iv_wr_id (x := (m : Int) + (i : Int)) (by omega) (by omega), if_pos (by omega), iv_wr_id (by omega) (by omega), e2]
      · have kk : ∀ a k, a ≠ 3 → a ≠ 4 → ¬ (a = 110 ∧ k = 17) → a ≠ 120 → κ a k = s a k := fun a k h1 h2 h3 h4 => (b4 a k h3 h4).trans (a4 a k h1 h2)
        obtain ⟨eT, eP⟩ := ib_TP_ext (κ := κ) (s := s) (kk 110 13 (by omega) (by omega) (by omega) (by omega)) (kk 110 14 (by omega) (by omega) (by omega) (by omega))
        refine ⟨⟨m + i, c2, by rw [b4 _ _ (by omega) (by omega), a1], b1, fun k hk => ?_⟩,
          ib_ho_ext h.2.1 (fun k => kk _ _ (by omega) (by omega) (by omega) (by omega)) (fun k => kk _ _ (by omega) (by omega) (by omega) (by omega)) (fun k => kk _ _ (by omega) (by omega) (by omega) (by omega)) (kk _ _ (by omega) (by omega) (by omega) (by omega)) (kk _ _ (by omega) (by omega) (by omega) (by omega)) (kk _ _ (by omega) (by omega) (by omega) (by omega)), ?_,
          ib_sl_ext h.2.2.2.1 (fun a k h1 h2 => kk _ _ (by omega) (by omega) (by omega) (by omega)) (fun a k h1 => kk _ _ (by omega) (by omega) (by omega) (by omega)) (kk _ _ (by omega) (by omega) (by omega) (by omega)) (kk _ _ (by omega) (by omega) (by omega) (by omega)),
          ib_so_ext h.2.2.2.2 (fun k => kk _ _ (by omega) (by omega) (by omega) (by omega)) (fun k => kk _ _ (by omega) (by omega) (by omega) (by omega)) (fun k => kk _ _ (by omega) (by omega) (by omega) (by omega)) (fun k => kk _ _ (by omega) (by omega) (by omega) (by omega)) (fun k => kk _ _ (by omega) (by omega) (by omega) (by omega)) (kk _ _ (by omega) (by omega) (by omega) (by omega))⟩
        · by_cases q : k < m
          · rw [b4 4 k (by omega) (by omega), a3 k q, b3 k q, a4 120 k (by omega) (by omega)]
            exact t3 k q
          · rw [b4 4 k (by omega) (by omega), show k = m + (k - m) by omega, a2 (k - m) (by omega), b2 (k - m) (by omega)]
            have := ib_by_lt (v := v) (i := i - 1 - (k - m))
            exact ⟨rfl, by omega, by omega⟩
        · rw [eT, eP, kk 110 15 (by omega) (by omega) (by omega) (by omega)]
          exact ib_mm_ext h.2.2.1 (fun k => kk _ _ (by omega) (by omega) (by omega) (by omega)) (fun k => kk _ _ (by omega) (by omega) (by omega) (by omega)) (fun k => kk _ _ (by omega) (by omega) (by omega) (by omega)) (fun k => kk _ _ (by omega) (by omega) (by omega) (by omega)) (fun k => kk _ _ (by omega) (by omega) (by omega) (by omega)) (fun k => kk _ _ (by omega) (by omega) (by omega) (by omega)) (fun k => kk _ _ (by omega) (by omega) (by omega) (by omega)) (fun k => kk _ _ (by omega) (by omega) (by omega) (by omega))
    · refine ⟨-4, s, s, ?_, ?_, h⟩
      · unfold f_X9_write
        simp only [iv_let]
        rw [if_neg (by omega), if_pos (by omega), t1, iv_wr_id (x := (m : Int) + (i : Int)) (by omega) (by omega), if_neg (by omega)]
      · unfold f_X10_write
        rw [ib_in, iv_bnd_some, ib_iz, if_pos (by omega), t2, iv_wr_id (x := (m : Int) + (i : Int)) (by omega) (by omega), if_neg (by omega)]
  · refine ⟨-2, s, s, ?_, ?_, h⟩
    · unfold f_X9_write
      simp only [iv_let]
      by_cases c1 : p < 1
      · rw [if_pos c1]
      · rw [if_neg c1, if_neg (by omega)]
    · unfold f_X10_write
      rw [ib_in, iv_bnd_some, ib_iz, if_neg (by omega)]
end IBX
