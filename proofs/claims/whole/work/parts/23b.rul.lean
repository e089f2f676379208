/-! NAMES' LENGTHS, HOW FAR NAMES ARE OFF -/
section IBR
theorem ib_lengthOf_lp {s : Nat → Int} {m : Nat} (h : ib_ok5 s m) {k : Int → ivM → Option (Int × ivM)} {μ : ivM} : ∀ (d j n : Nat), j + d = m → d < n → lp_X3_lengthOf_2 (ib_nc s m) k n j μ = k m μ := by
  intro d
  induction d with
  | zero =>
    intro j n hj hn
    obtain ⟨n, rfl⟩ : ∃ q, n = q + 1 := ⟨n - 1, by omega⟩
    have hl := ib_nc_lt5 h
    have hm := h.1
    unfold lp_X3_lengthOf_2
    have e : j = m := by omega
    subst e
    by_cases h5 : 5 ≤ j
    · rw [if_pos (by omega)]
    · rw [if_neg (by omega), iv_wr_id (by omega) (by omega), show (3 * (j : Int)) = ((3 * j : Nat) : Int) by omega, iv_shr_nat (by omega) (by omega), Nat.shiftRight_eq_div_pow, Nat.pow_mul, Nat.div_eq_of_lt (ib_nc_lt h.2)]
      rfl
  | succ d ih =>
    intro j n hj hn
    obtain ⟨n, rfl⟩ : ∃ q, n = q + 1 := ⟨n - 1, by omega⟩
    have hl := ib_nc_lt5 h
    have hm := h.1
    unfold lp_X3_lengthOf_2
    have hd := ib_nc_dig (i := j) h.2
    rw [if_pos (by omega)] at hd
    have := h.2 j (by omega)
    rw [if_neg (by omega), iv_wr_id (by omega) (by omega), show (3 * (j : Int)) = ((3 * j : Nat) : Int) by omega, iv_shr_nat (by omega) (by omega), Nat.shiftRight_eq_div_pow, Nat.pow_mul, if_neg (by
      intro e
      have e2 : ib_nc s m / (2 ^ 3) ^ j = 0 := by exact_mod_cast e
      rw [show (2 : Nat) ^ 3 = 8 from rfl] at e2
      rw [e2] at hd
      omega), iv_wr_succ (by omega)]
    exact ih (j + 1) n (by omega) (by omega)
theorem ib_lengthOf {s : Nat → Int} {m : Nat} (h : ib_ok5 s m) {μ : ivM} : f_X3_lengthOf (ib_nc s m) μ = some ((m : Int), μ) := by
  unfold f_X3_lengthOf
  exact ib_lengthOf_lp h m 0 iv_fuel (by omega) (by have := h.1; unfold iv_fuel; omega)
theorem ib_withSound {s : Nat → Int} {k : Nat} (h : ib_ok5 s (k + 1)) {μ : ivM} : f_X3_withSound (ib_nc s k) k (s k) μ = some (((ib_nc s (k + 1) : Nat) : Int), μ) := by
  have hk := h.1
  have h1 := h.2 k (by omega)
  have hl := ib_nc_lt (s := s) (n := k) (fun i hi => h.2 i (by omega))
  have hl2 := ib_nc_lt5 h
  unfold f_X3_withSound
  rw [iv_wr_id (by omega) (by omega), iv_wr_id (by omega) (by omega), show (3 * (k : Int)) = ((3 * k : Nat) : Int) by omega, show s k + 1 = (((s k + 1).toNat : Nat) : Int) by omega]
  have hp : (2 : Nat) ^ (3 * k) = 8 ^ k := by rw [Nat.pow_mul]
  have e : ib_nc s (k + 1) = ib_nc s k + (s k + 1).toNat * 8 ^ k := rfl
  have e1 : (s k + 1).toNat <<< (3 * k) = (s k + 1).toNat * 8 ^ k := by rw [Nat.shiftLeft_eq, hp]
  rw [iv_shl_nat (by omega) (by omega) (by omega), iv_or_nat (by omega) (by omega)]
  congr 2
  rw [e, Nat.or_comm, ← Nat.shiftLeft_add_eq_or_of_lt (by rw [hp]; exact hl), e1]
  omega
/-- how many steps of change there are from the first i sounds of one name to the first j of another -/
def ib_D (u s : Nat → Int) : Nat → Nat → Nat
  | 0, j => j
  | i + 1, 0 => i + 1
  | i + 1, j + 1 => min (ib_D u s i j + if s j = u i then 0 else 1) (min (ib_D u s i (j + 1)) (ib_D u s (i + 1) j) + 1)
theorem ib_D_0 {u s : Nat → Int} {j : Nat} : ib_D u s 0 j = j := by rw [ib_D]
theorem ib_D_s0 {u s : Nat → Int} {i : Nat} : ib_D u s (i + 1) 0 = i + 1 := by rw [ib_D]
theorem ib_D_ss {u s : Nat → Int} {i j : Nat} : ib_D u s (i + 1) (j + 1) = min (ib_D u s i j + if s j = u i then 0 else 1) (min (ib_D u s i (j + 1)) (ib_D u s (i + 1) j) + 1) := by rw [ib_D]
theorem ib_D_i0 {u s : Nat → Int} {i : Nat} : ib_D u s i 0 = i := by cases i; exact ib_D_0; exact ib_D_s0
theorem ib_D_le (u s : Nat → Int) : ∀ i j, ib_D u s i j ≤ i + j
  | 0, j => by rw [ib_D_0]; omega
  | i + 1, 0 => by rw [ib_D_s0]; omega
  | i + 1, j + 1 => by
    have h1 := ib_D_le u s i (j + 1)
    rw [ib_D_ss]
    omega
/-- a ruler that lies along a name -/
def ib_laid (a : Nat) (s : Nat → Int) (n : Nat) (μ : ivM) : Prop := μ a 1 = ib_nc s n ∧ μ a 2 = n ∧ ∀ j, j ≤ n → μ (a + 2) j = (j : Nat)
def ib_row (a i : Nat) (u s : Nat → Int) (n : Nat) (μ : ivM) : Prop := ∀ j, j ≤ n → μ (a + 2 + i) j = (ib_D u s i j : Nat)
theorem ib_lay_lp {a : Nat} : ∀ (d k n : Nat) (μ : ivM), k + d = 6 → d < n → ∃ ν, lp_X4_lay_15 a n k μ = some (0, ν) ∧ ib_fr (a + 2) (a + 2) μ ν ∧ (∀ j, j < k → ν (a + 2) j = μ (a + 2) j) ∧ ∀ j, k ≤ j → j < 6 → ν (a + 2) j = (j : Nat) := by
  intro d
  induction d with
  | zero =>
    intro k n μ hk hn
    obtain ⟨n, rfl⟩ : ∃ q, n = q + 1 := ⟨n - 1, by omega⟩
    unfold lp_X4_lay_15
    rw [if_pos (by omega)]
    exact ⟨μ, rfl, ib_fr.rfl, fun _ _ => rfl, fun j _ _ => by omega⟩
  | succ d ih =>
    intro k n μ hk hn
    obtain ⟨n, rfl⟩ : ∃ q, n = q + 1 := ⟨n - 1, by omega⟩
    unfold lp_X4_lay_15
    rw [if_neg (by omega), iv_ck_pos (by omega), iv_wr_succ (by omega), Int.toNat_natCast]
    obtain ⟨ν, e, f, g, h⟩ := ih (k + 1) n (iv_upd μ (a + 2 + 0) k k) (by omega) (by omega)
    refine ⟨ν, e, (ib_fr.rfl.upd (by omega)).tr f, fun j hj => ?_, fun j h1 h2 => ?_⟩
    · rw [g j (by omega)]; exact iv_upd_nk (by omega)
    · by_cases e : j = k
      · subst e; rw [g j (by omega)]; exact iv_upd_at
      · exact h j (by omega) h2
theorem ib_lay {a : Nat} {s : Nat → Int} {n : Nat} (h : ib_ok5 s n) (μ : ivM) : ∃ ν, f_X4_lay a (ib_nc s n) μ = some (0, ν) ∧ ib_fr a (a + 2) μ ν ∧ ib_laid a s n ν := by
  have hn := h.1
  unfold f_X4_lay
  rw [ib_lengthOf h, iv_bnd_some]
  obtain ⟨ν, e, f, _, g⟩ := ib_lay_lp (a := a) 6 0 iv_fuel (iv_upd (iv_upd μ a 1 (ib_nc s n)) a 2 n) (by omega) (by decide)
  refine ⟨ν, e, ((ib_fr.rfl.upd (by omega)).upd (by omega)).tr (f.mono (by omega)), ?_, ?_, fun j hj => g j (by omega) (by omega)⟩
  · rw [f a 1 (by omega), iv_upd_nk (by omega), iv_upd_at]
  · rw [f a 2 (by omega), iv_upd_at]
theorem ib_step_lp {a i : Nat} {u s : Nat → Int} {m : Nat} (h : ib_ok5 s m) (hi : i < 5) (k : ivM → Option (Int × ivM)) : ∀ (d j n : Nat) (μ : ivM), j + d = m → d < n →
    μ a 1 = ib_nc s m → μ a 2 = m → (∀ q, q ≤ m → μ (a + 2 + i) q = (ib_D u s i q : Nat)) → (∀ q, q ≤ j → μ (a + 2 + (i + 1)) q = (ib_D u s (i + 1) q : Nat)) →
    ∃ ν, lp_X4_step_39 a (u i) i (i + 1) k n ((j : Int) + 1) μ = k ν ∧ ib_fr (a + 2 + (i + 1)) (a + 2 + (i + 1)) μ ν ∧ ∀ q, q ≤ m → ν (a + 2 + (i + 1)) q = (ib_D u s (i + 1) q : Nat) := by
  intro d
  induction d with
  | zero =>
    intro j n μ hj hn h1 h2 hr hq
    obtain ⟨n, rfl⟩ : ∃ q, n = q + 1 := ⟨n - 1, by omega⟩
    unfold lp_X4_step_39
    rw [if_pos (by omega)]
    exact ⟨μ, rfl, ib_fr.rfl, fun q hq' => hq q (by omega)⟩
  | succ d ih =>
    intro j n μ hj hn h1 h2 hr hq
    obtain ⟨n, rfl⟩ : ∃ q, n = q + 1 := ⟨n - 1, by omega⟩
    have hm := h.1
    have b0 := ib_D_le u s i j
    have b1 := ib_D_le u s i (j + 1)
    have b2 := ib_D_le u s (i + 1) j
    unfold lp_X4_step_39
    have ew : iv_wr ((j : Int) + 1 - 1) = (j : Int) := by rw [iv_wr_id (by omega) (by omega)]; omega
    have ej : ((j : Int) + 1).toNat = j + 1 := by omega
    rw [if_neg (by omega), if_neg (by omega), ew, iv_ck_pos (by omega), h1, ib_soundAt h, iv_bnd_some, if_pos (by omega)]
    simp only [iv_let, ib_min, iv_bnd_some, Int.toNat_natCast, ej]
    have c5 : (0 : Int) ≤ (j : Int) + 1 ∧ (j : Int) + 1 < 6 := by omega
    have c6 : (0 : Int) ≤ (j : Int) ∧ (j : Int) < 6 := by omega
    simp only [iv_ck_pos c5, iv_ck_pos c6]
    rw [hr (j + 1) (by omega), hq j (by omega), hr j (by omega)]
    have key : ∀ (v : Nat), (v = if s j = u i then 0 else 1) → (if iv_wr ((ib_D u s i j : Nat) + (v : Int)) ≤ iv_wr ((if ((ib_D u s i (j + 1) : Nat) : Int) ≤ (ib_D u s (i + 1) j : Nat) then ((ib_D u s i (j + 1) : Nat) : Int) else (ib_D u s (i + 1) j : Nat)) + 1) then iv_wr ((ib_D u s i j : Nat) + (v : Int)) else iv_wr ((if ((ib_D u s i (j + 1) : Nat) : Int) ≤ (ib_D u s (i + 1) j : Nat) then ((ib_D u s i (j + 1) : Nat) : Int) else (ib_D u s (i + 1) j : Nat)) + 1)) = ((ib_D u s (i + 1) (j + 1) : Nat) : Int) := by
      intro v hv
      have hv1 : v ≤ 1 := by rw [hv]; split <;> omega
      have e : ib_D u s (i + 1) (j + 1) = min (ib_D u s i j + v) (min (ib_D u s i (j + 1)) (ib_D u s (i + 1) j) + 1) := by rw [hv]; exact ib_D_ss
      rw [iv_wr_id (x := (ib_D u s i j : Nat) + (v : Int)) (by omega) (by omega), iv_wr_id (by split <;> omega) (by split <;> omega), e]
      split <;> split <;> omega
    have fin : ∀ (v : Nat), (v = if s j = u i then 0 else 1) → ∃ ν, lp_X4_step_39 a (u i) i (i + 1) k n (iv_wr ((j : Int) + 1 + 1)) (iv_upd μ (a + 2 + (i + 1)) (j + 1) (ib_D u s (i + 1) (j + 1) : Nat)) = k ν ∧ ib_fr (a + 2 + (i + 1)) (a + 2 + (i + 1)) μ ν ∧ ∀ q, q ≤ m → ν (a + 2 + (i + 1)) q = (ib_D u s (i + 1) q : Nat) := by
      intro v hv
      rw [show iv_wr ((j : Int) + 1 + 1) = ((j + 1 : Nat) : Int) + 1 by rw [iv_wr_id (by omega) (by omega)]; omega]
      obtain ⟨ν, e, f, g⟩ := ih (j + 1) n (iv_upd μ (a + 2 + (i + 1)) (j + 1) (ib_D u s (i + 1) (j + 1) : Nat)) (by omega) (by omega)
        (by rw [iv_upd_na (by omega)]; exact h1) (by rw [iv_upd_na (by omega)]; exact h2) (fun q hq' => by rw [iv_upd_na (by omega)]; exact hr q hq')
        (fun q hq' => by
          by_cases e : q = j + 1
          · subst e; exact iv_upd_at
          · rw [iv_upd_nk e]; exact hq q (by omega))
      exact ⟨ν, e, (ib_fr.rfl.upd (by omega)).tr f, g⟩
    by_cases c : s j = u i
    · rw [if_pos c]
      have := key 0 (by rw [if_pos c])
      rw [show ((0 : Nat) : Int) = 0 from rfl] at this
      rw [this]
      exact fin 0 (by rw [if_pos c])
    · rw [if_neg c]
      have := key 1 (by rw [if_neg c])
      rw [show ((1 : Nat) : Int) = 1 from rfl] at this
      rw [this]
      exact fin 1 (by rw [if_neg c])
theorem ib_step {a i : Nat} {u s : Nat → Int} {m : Nat} (h : ib_ok5 s m) (hi : i < 5) {μ : ivM} (h1 : μ a 1 = ib_nc s m) (h2 : μ a 2 = m) (hr : ib_row a i u s m μ) :
    ∃ ν, f_X4_step a i (u i) μ = some (0, ν) ∧ ib_fr (a + 2 + (i + 1)) (a + 2 + (i + 1)) μ ν ∧ ib_row a (i + 1) u s m ν := by
  have hm := h.1
  have hd := ib_D_le u s i 0
  unfold f_X4_step
  simp only [iv_let]
  have ew : iv_wr ((i : Int) + 1) = ((i + 1 : Nat) : Int) := iv_wr_succ (by omega)
  rw [if_neg (by omega), if_pos (by omega), iv_ck_pos (by omega), ew, iv_ck_pos (by omega), Int.toNat_natCast, Int.toNat_natCast, hr 0 (by omega), iv_wr_id (by omega) (by omega)]
  have e0 : ((ib_D u s i 0 : Nat) : Int) + 1 = (ib_D u s (i + 1) 0 : Nat) := by
    rw [ib_D_i0, ib_D_s0]; rfl
  rw [e0]
  obtain ⟨ν, e, f, g⟩ := ib_step_lp (a := a) h hi (fun μ46 => some (0, μ46)) (u := u) m 0 iv_fuel (iv_upd μ (a + 2 + (i + 1)) 0 (ib_D u s (i + 1) 0 : Nat)) (by omega) (by unfold iv_fuel; omega)
    (by rw [iv_upd_na (by omega)]; exact h1) (by rw [iv_upd_na (by omega)]; exact h2) (fun q hq' => by rw [iv_upd_na (by omega)]; exact hr q hq')
    (fun q hq' => by rw [show q = 0 by omega]; exact iv_upd_at)
  rw [show ((0 : Nat) : Int) + 1 = 1 from rfl] at e
  exact ⟨ν, e, (ib_fr.rfl.upd (by omega)).tr f, g⟩
theorem ib_between_lp {u s : Nat → Int} {m p : Nat} (h : ib_ok5 s m) (hp : ib_ok5 u p) (k : ivM → Option (Int × ivM)) : ∀ (d i n : Nat) (μ : ivM), i + d = p → d < n →
    μ 24 1 = ib_nc s m → μ 24 2 = m → ib_row 24 i u s m μ →
    ∃ ν, lp_X4_between_13 (ib_nc u p) p k n i μ = k ν ∧ ib_fr 26 31 μ ν ∧ ν 24 2 = m ∧ ib_row 24 p u s m ν := by
  intro d
  induction d with
  | zero =>
    intro i n μ hi hn h1 h2 hr
    obtain ⟨n, rfl⟩ : ∃ q, n = q + 1 := ⟨n - 1, by omega⟩
    unfold lp_X4_between_13
    rw [if_pos (by omega)]
    refine ⟨μ, rfl, ib_fr.rfl, h2, ?_⟩
    rw [show p = i by omega]; exact hr
  | succ d ih =>
    intro i n μ hi hn h1 h2 hr
    obtain ⟨n, rfl⟩ : ∃ q, n = q + 1 := ⟨n - 1, by omega⟩
    have := hp.1
    unfold lp_X4_between_13
    rw [if_neg (by omega), ib_soundAt hp, iv_bnd_some, if_pos (by omega), Int.toNat_natCast]
    obtain ⟨ν, e, f, g⟩ := ib_step (a := 24) (u := u) h (show i < 5 by omega) h1 h2 hr
    rw [e, iv_bnd_some, iv_wr_succ (by omega)]
    obtain ⟨κ, e2, f2, g2, r2⟩ := ih (i + 1) n ν (by omega) (by omega) (by rw [f 24 1 (by omega)]; exact h1) (by rw [f 24 2 (by omega)]; exact h2) g
    exact ⟨κ, e2, (f.mono (by omega)).tr f2, g2, r2⟩
theorem ib_between {u s : Nat → Int} {m p : Nat} (hp : ib_ok5 u p) (h : ib_ok5 s m) (μ : ivM) : ∃ ν, f_X4_between (ib_nc u p) (ib_nc s m) μ = some (((ib_D u s p m : Nat) : Int), ν) ∧ ib_fr 24 31 μ ν := by
  have hm := h.1
  have hp1 := hp.1
  unfold f_X4_between
  obtain ⟨ν, e, f, g⟩ := ib_lay (a := 24) h μ
  rw [e, iv_bnd_some, ib_lengthOf hp, iv_bnd_some]
  obtain ⟨κ, e2, f2, g2, r2⟩ := ib_between_lp (u := u) h hp (fun (μ17 : ivM) =>
    iv_let (fun (v26 : Int) (μ27 : ivM) =>
      some (v26, μ27)) fun j20 =>
    iv_let (fun (μ36 : ivM) =>
      j20 0 μ36) fun j30 =>
    if 5 < (p : Int) then
      j30 μ17
    else
      if 5 < (μ17 24 2) then
        j30 μ17
      else
        iv_ck (0 ≤ (p : Int) ∧ (p : Int) < 6) <|
        iv_ck (0 ≤ (μ17 24 2) ∧ (μ17 24 2) < 6) <|
        j20 (μ17 (24 + 2 + (p : Int).toNat) (μ17 24 2).toNat) μ17) p 0 iv_fuel ν (by omega) (by unfold iv_fuel; omega) g.1 g.2.1 (fun j hj => by rw [ib_D_0]; exact g.2.2 j hj)
  rw [show ((0 : Nat) : Int) = 0 from rfl] at e2
  rw [e2]
  simp only [iv_let]
  rw [if_neg (by omega), g2, if_neg (by omega), iv_ck_pos (by omega), iv_ck_pos (by omega), Int.toNat_natCast, Int.toNat_natCast, r2 m (by omega)]
  exact ⟨κ, rfl, (f.mono (by omega)).tr (f2.mono (by omega))⟩
end IBR
