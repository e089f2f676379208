/-! SONGS: WHAT EACH NAME CAN BE -/
def ib_aw (s : ivM) (n : Nat) : Nat → Nat → Nat
  | 0, _ => 2 ^ n - 1
  | f + 1, k => if (s 126 f).toNat = k then ib_aw s n f k &&& (s 127 f).toNat else ib_aw s n f k
theorem ib_aw_lt {s : ivM} {n f k : Nat} : ib_aw s n f k < 2 ^ n := by
  induction f with
  | zero => have := Nat.pow_pos (n := n) (show 0 < 2 by omega); unfold ib_aw; omega
  | succ f ih =>
    unfold ib_aw
    split
    · exact Nat.lt_of_le_of_lt Nat.and_le_left ih
    · exact ih
theorem ib_p8 {n : Nat} (h : n ≤ 8) : 2 ^ n ≤ 256 := Nat.pow_le_pow_right (n := 2) (j := 8) (by omega) h
theorem ib_all1 {n : Nat} (h : n ≤ 8) : iv_wr (iv_shl 1 n - 1) = ((2 ^ n - 1 : Nat) : Int) := by
  have := ib_p8 h
  have h0 := Nat.pow_pos (n := n) (show 0 < 2 by omega)
  rw [ib_shl1 (by omega)]
  generalize 2 ^ n = q at *
  rw [iv_wr_id (by omega) (by omega)]
  omega
section IBH
variable {D : Int} {s : ivM}
theorem ib_inv.S (h : ib_inv D s) {f : Nat} (hf : (f : Int) < s 110 26) : s 106 f = s 126 f ∧ s 107 f = ((s 127 f).toNat : Int) ∧ s 126 f = ((s 126 f).toNat : Int) ∧ (s 126 f).toNat < 8 ∧ s 127 f = ((s 127 f).toNat : Int) ∧ (s 127 f).toNat < 256 ∧ f < 16 := by
  have so := h.2.2.2.2
  have := so.2.2.2 f hf
  have h16 := so.2.1
  omega
theorem ib_hear2 {n : Nat} (hn8 : n ≤ 8) {l2 : Int} (k : ivM → Option (Int × ivM)) : ∀ (d j q : Nat) (μ : ivM), j + d = n → d < q → (∀ i, i < j → μ 108 i = ((2 ^ n - 1 : Nat) : Int)) →
    ∃ ν, lp_X6_hear_2 n l2 k q j μ = k ν ∧ ib_fr 108 108 μ ν ∧ ∀ i, i < n → ν 108 i = ((2 ^ n - 1 : Nat) : Int) := by
  intro d
  induction d with
  | zero =>
    intro j q μ hj hq h
    obtain ⟨q, rfl⟩ : ∃ m, q = m + 1 := ⟨q - 1, by omega⟩
    unfold lp_X6_hear_2
    rw [if_pos (by omega)]
    exact ⟨μ, rfl, ib_fr.rfl, fun i hi => h i (by omega)⟩
  | succ d ih =>
    intro j q μ hj hq h
    obtain ⟨q, rfl⟩ : ∃ m, q = m + 1 := ⟨q - 1, by omega⟩
    unfold lp_X6_hear_2
    rw [if_neg (by omega), if_neg (by omega), iv_ck_pos (by omega), iv_wr_succ (by omega), Int.toNat_natCast, ib_all1 hn8]
    obtain ⟨ν, e, f, g⟩ := ih (j + 1) q (iv_upd μ 108 j ((2 ^ n - 1 : Nat) : Int)) (by omega) (by omega) (fun i hi => by
      by_cases c : i = j
      · subst c; exact iv_upd_at
      · rw [iv_upd_nk c]; exact h i (by omega))
    exact ⟨ν, e, (ib_fr.rfl.upd (by omega)).tr f, g⟩
theorem ib_r108 : ∀ a k : Nat, 108 ≤ a → a ≤ 108 → ib_scr a k := fun a k _ _ => by unfold ib_scr; omega
theorem ib_hear32 (h : ib_inv D s) {n fl : Nat} (hn8 : n ≤ 8) (hfl : (fl : Int) ≤ s 110 26) (k : ivM → Option (Int × ivM)) : ∀ (d f q : Nat) (μ : ivM), f + d = fl → d < q → ib_ag s μ → (∀ i, i < n → μ 108 i = ((ib_aw s n f i : Nat) : Int)) →
    ∃ ν, lp_X6_hear_32 n fl k q f μ = k ν ∧ ib_fr 108 108 μ ν ∧ ∀ i, i < n → ν 108 i = ((ib_aw s n fl i : Nat) : Int) := by
  have so := h.2.2.2.2
  intro d
  induction d with
  | zero =>
    intro f q μ hf hq g hh
    obtain ⟨q, rfl⟩ : ∃ m, q = m + 1 := ⟨q - 1, by omega⟩
    unfold lp_X6_hear_32
    rw [if_pos (by omega)]
    exact ⟨μ, rfl, ib_fr.rfl, fun i hi => by rw [hh i hi, show f = fl by omega]⟩
  | succ d ih =>
    intro f q μ hf hq g hh
    obtain ⟨q, rfl⟩ : ∃ m, q = m + 1 := ⟨q - 1, by omega⟩
    obtain ⟨e1, e2, e3, e4, e5, e6, e7⟩ := h.S (f := f) (by omega)
    have hp := ib_p8 hn8
    unfold lp_X6_hear_32
    simp only [iv_let]
    rw [if_neg (by omega), if_neg (by omega), iv_ck_pos (by omega), Int.toNat_natCast, g.c (a := 106) rfl, e1, if_neg (by omega), iv_wr_succ (by omega)]
    by_cases c : (n : Int) ≤ s 126 f
    · rw [if_pos c]
      exact ih (f + 1) q μ (by omega) (by omega) g (fun i hi => by
        rw [hh i hi]
        show _ = ((if (s 126 f).toNat = i then _ else _ : Nat) : Int)
        rw [if_neg (by omega)])
    · have hb := ib_aw_lt (s := s) (n := n) (f := f) (k := (s 126 f).toNat)
      rw [if_neg c, if_neg (by omega), iv_ck_pos (by omega), iv_ck_pos (by omega), iv_ck_pos (by omega), g.c (a := 107) rfl, e2, hh _ (by omega), iv_and_nat (by omega) (by omega)]
      obtain ⟨ν, e, f2, g2⟩ := ih (f + 1) q (iv_upd μ 108 (s 126 f).toNat ((ib_aw s n f (s 126 f).toNat &&& (s 127 f).toNat : Nat) : Int)) (by omega) (by omega) (g.upd (by unfold ib_scr; omega)) (fun i hi => by
        show _ = ((if (s 126 f).toNat = i then _ else _ : Nat) : Int)
        by_cases c : (s 126 f).toNat = i
        · subst c; rw [if_pos rfl]; exact iv_upd_at
        · rw [if_neg c, iv_upd_nk (by omega)]; exact hh i hi)
      exact ⟨ν, e, (ib_fr.rfl.upd (by omega)).tr f2, g2⟩
theorem ib_hear (h : ib_inv D s) {n fl : Nat} (hn8 : n ≤ 8) (hfl : (fl : Int) ≤ s 110 26) {μ : ivM} (g : ib_ag s μ) :
    ∃ ν, f_X6_hear n fl μ = some (0, ν) ∧ ib_fr 108 108 μ ν ∧ ∀ i, i < n → ν 108 i = ((ib_aw s n fl i : Nat) : Int) := by
  have so := h.2.2.2.2
  unfold f_X6_hear
  obtain ⟨ν, e, f, g1⟩ := ib_hear2 hn8 (l2 := fl) (fun (μ6 : ivM) => lp_X6_hear_32 n fl (fun (μ28 : ivM) => some (0, μ28)) iv_fuel 0 μ6) n 0 iv_fuel μ (by omega) (by unfold iv_fuel; omega) (fun i hi => by omega)
  rw [show ((0 : Nat) : Int) = 0 from rfl] at e
  obtain ⟨κ, e2, f2, g2⟩ := ib_hear32 h hn8 hfl (fun (μ28 : ivM) => some (0, μ28)) fl 0 iv_fuel ν (by omega) (by unfold iv_fuel; have := so.2.1; omega) (g.fr f ib_r108) g1
  rw [show ((0 : Nat) : Int) = 0 from rfl] at e2
  rw [e, e2]
  exact ⟨κ, rfl, f.tr f2, g2⟩
/-! the model's -/
theorem ib_ways2 {n : Nat} (hn8 : n ≤ 8) {l2 : Int} (k : ivM → Option (Int × ivM)) : ∀ (d j q : Nat) (μ : ivM), j + d = 8 → d < q → (∀ i, i < j → μ 129 i = ((2 ^ n - 1 : Nat) : Int)) →
    ∃ ν, lp_X10_waysBy_2 n l2 k q j μ = k ν ∧ ib_fr 129 129 μ ν ∧ ∀ i, i < 8 → ν 129 i = ((2 ^ n - 1 : Nat) : Int) := by
  intro d
  induction d with
  | zero =>
    intro j q μ hj hq h
    obtain ⟨q, rfl⟩ : ∃ m, q = m + 1 := ⟨q - 1, by omega⟩
    unfold lp_X10_waysBy_2
    rw [if_pos (by omega)]
    exact ⟨μ, rfl, ib_fr.rfl, fun i hi => h i (by omega)⟩
  | succ d ih =>
    intro j q μ hj hq h
    obtain ⟨q, rfl⟩ : ∃ m, q = m + 1 := ⟨q - 1, by omega⟩
    unfold lp_X10_waysBy_2
    rw [if_neg (by omega), iv_ck_pos (by omega), iv_wr_succ (by omega), Int.toNat_natCast, ib_all1 hn8]
    obtain ⟨ν, e, f, g⟩ := ih (j + 1) q (iv_upd μ 129 j ((2 ^ n - 1 : Nat) : Int)) (by omega) (by omega) (fun i hi => by
      by_cases c : i = j
      · subst c; exact iv_upd_at
      · rw [iv_upd_nk c]; exact h i (by omega))
    exact ⟨ν, e, (ib_fr.rfl.upd (by omega)).tr f, g⟩
theorem ib_r129 : ∀ a k : Nat, 129 ≤ a → a ≤ 129 → ib_scr a k := fun a k _ _ => by unfold ib_scr; omega
theorem ib_ways27 (h : ib_inv D s) {n fl : Nat} (hn8 : n ≤ 8) (hfl : (fl : Int) ≤ s 110 26) (k : ivM → Option (Int × ivM)) : ∀ (d f q : Nat) (μ : ivM), f + d = fl → d < q → ib_ag s μ → (∀ i, i < 8 → μ 129 i = ((ib_aw s n f i : Nat) : Int)) →
    ∃ ν, lp_X10_waysBy_27 n fl k q f μ = k ν ∧ ib_fr 129 129 μ ν ∧ ∀ i, i < 8 → ν 129 i = ((ib_aw s n fl i : Nat) : Int) := by
  have so := h.2.2.2.2
  intro d
  induction d with
  | zero =>
    intro f q μ hf hq g hh
    obtain ⟨q, rfl⟩ : ∃ m, q = m + 1 := ⟨q - 1, by omega⟩
    unfold lp_X10_waysBy_27
    rw [if_pos (by omega)]
    exact ⟨μ, rfl, ib_fr.rfl, fun i hi => by rw [hh i hi, show f = fl by omega]⟩
  | succ d ih =>
    intro f q μ hf hq g hh
    obtain ⟨q, rfl⟩ : ∃ m, q = m + 1 := ⟨q - 1, by omega⟩
    obtain ⟨e1, e2, e3, e4, e5, e6, e7⟩ := h.S (f := f) (by omega)
    have hp := ib_p8 hn8
    have hb := ib_aw_lt (s := s) (n := n) (f := f) (k := (s 126 f).toNat)
    unfold lp_X10_waysBy_27
    rw [if_neg (by omega), Int.toNat_natCast, g.c (a := 126) rfl, g.c (a := 127) rfl, iv_ck_pos (by omega), iv_ck_pos (by omega), iv_ck_pos (by omega), iv_ck_pos (by omega), iv_wr_succ (by omega), hh _ (by omega), e5, iv_and_nat (by omega) (by omega)]
    obtain ⟨ν, e, f2, g2⟩ := ih (f + 1) q (iv_upd μ 129 (s 126 f).toNat ((ib_aw s n f (s 126 f).toNat &&& (s 127 f).toNat : Nat) : Int)) (by omega) (by omega) (g.upd (by unfold ib_scr; omega)) (fun i hi => by
      show _ = ((if (s 126 f).toNat = i then _ else _ : Nat) : Int)
      by_cases c : (s 126 f).toNat = i
      · subst c; rw [if_pos rfl]; exact iv_upd_at
      · rw [if_neg c, iv_upd_nk (by omega)]; exact hh i hi)
    exact ⟨ν, e, (ib_fr.rfl.upd (by omega)).tr f2, g2⟩
end IBH
