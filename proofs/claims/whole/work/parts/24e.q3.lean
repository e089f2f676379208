/-! COUNT -/
def ib_pc (x : Nat) : Nat := ib_sum (fun i => if x.testBit i then 1 else 0) 8
def ib_bcv (x : Int) : Int := ((f_J6_bitCount_0f7a4 x (fun _ _ => 0)).getD (0, fun _ _ => 0)).1
theorem ib_bc256 : ∀ x, x < 256 → ib_bcv (x : Nat) = ((ib_pc x : Nat) : Int) := by decide +kernel
theorem ib_bitCount {x : Nat} (hx : x < 256) {μ : ivM} : f_J6_bitCount_0f7a4 x μ = some (((ib_pc x : Nat) : Int), μ) := by
  rw [← ib_bc256 x hx]
  rfl
section IBC
variable {D : Int} {s μ : ivM}
theorem ib_zsum_lp (h : ib_inv D s) (g : ib_ag s μ) {p : Int} (k : Int → ivM → Option (Int × ivM)) : ∀ (d t n : Nat), t + d = ib_T s → d < n → lp_X10_count_4 p k n (ib_sum (ib_z s) t : Nat) t μ = k (ib_sum (ib_z s) (ib_T s) : Nat) μ := by
  have hT := h.T
  intro d
  induction d with
  | zero =>
    intro t n ht hn
    obtain ⟨n, rfl⟩ : ∃ q, n = q + 1 := ⟨n - 1, by omega⟩
    unfold lp_X10_count_4
    rw [g.f rfl, hT.1, if_pos (by omega), show t = ib_T s by omega]
  | succ d ih =>
    intro t n ht hn
    obtain ⟨n, rfl⟩ : ∃ q, n = q + 1 := ⟨n - 1, by omega⟩
    have hm := h.m (t := t) (by omega)
    have hz := hm.1.1
    have hb := ib_sumS_le (f := ib_z s) (b := 5) t (fun i hi => (h.m (t := i) (by omega)).1.1)
    unfold lp_X10_count_4
    rw [g.f rfl, hT.1, if_neg (by omega), iv_ck_pos (by omega), Int.toNat_natCast, g.c (a := 116) rfl, hm.2.1, iv_wr_succ (by omega), iv_wr_id (by omega) (by omega)]
    exact ih (t + 1) n (by omega) (by omega)
theorem ib_zsumX (h : ib_inv D s) (g : ib_ag s μ) : f_X9_soundsOfAll μ = some (((ib_sum (ib_z s) (ib_T s) : Nat) : Int), μ) := by
  have hT := h.T
  have key : ∀ (d t n : Nat), t + d = 8 → d < n → lp_X9_soundsOfAll_4 n (ib_sum (ib_z s) t : Nat) t μ = some (((ib_sum (ib_z s) 8 : Nat) : Int), μ) := by
    intro d
    induction d with
    | zero =>
      intro t n ht hn
      obtain ⟨n, rfl⟩ : ∃ q, n = q + 1 := ⟨n - 1, by omega⟩
      unfold lp_X9_soundsOfAll_4
      rw [if_pos (by omega), show t = 8 by omega]
    | succ d ih =>
      intro t n ht hn
      obtain ⟨n, rfl⟩ : ∃ q, n = q + 1 := ⟨n - 1, by omega⟩
      have hm := h.m (t := t) (by omega)
      have hz := hm.1.1
      have hb := ib_sumS_le (f := ib_z s) (b := 5) t (fun i hi => (h.m (t := i) (by omega)).1.1)
      unfold lp_X9_soundsOfAll_4
      rw [if_neg (by omega), iv_ck_pos (by omega), Int.toNat_natCast, g.c (a := 12) rfl, hm.2.2.2.1, ib_lengthOf hm.1, iv_bnd_some, iv_wr_succ (by omega), iv_wr_id (by omega) (by omega)]
      exact ih (t + 1) n (by omega) (by omega)
  have e3 := ib_sum_cut (f := ib_z s) (a := ib_T s) (8 - ib_T s) (fun i h1 h2 => by
    have hm := h.m (t := i) (by omega)
    have := hm.2.2.1
    omega)
  rw [show ib_T s + (8 - ib_T s) = 8 by omega] at e3
  rw [← e3]
  exact key 8 0 iv_fuel (by omega) (by decide)
def ib_l1 (s : ivM) (t : Nat) : Nat := if ib_lv s t then 1 else 0
theorem ib_lsum_lp (h : ib_inv D s) (hD : D ≤ 60000) (g : ib_ag s μ) : ∀ (d t n : Nat), t + d = ib_T s → d < n → lp_X10_count_111 n (ib_sum (ib_l1 s) t : Nat) t μ = some (((ib_sum (ib_l1 s) (ib_T s) : Nat) : Int), μ) := by
  have hT := h.T
  intro d
  induction d with
  | zero =>
    intro t n ht hn
    obtain ⟨n, rfl⟩ : ∃ q, n = q + 1 := ⟨n - 1, by omega⟩
    unfold lp_X10_count_111
    rw [g.f rfl, hT.1, if_pos (by omega), show t = ib_T s by omega]
  | succ d ih =>
    intro t n ht hn
    obtain ⟨n, rfl⟩ : ∃ q, n = q + 1 := ⟨n - 1, by omega⟩
    have hb := ib_sum_le (f := ib_l1 s) (b := 1) (fun i => by unfold ib_l1; split <;> omega) t
    have hnext := ih (t + 1) n (by omega) (by omega)
    rw [show ib_sum (ib_l1 s) (t + 1) = ib_sum (ib_l1 s) t + ib_l1 s t from rfl] at hnext
    unfold lp_X10_count_111
    simp only [iv_let]
    rw [g.f rfl, hT.1, if_neg (by omega), ib_isLiveM h hD g (by omega), iv_bnd_some, ib_iz, iv_wr_succ (x := t) (by omega)]
    unfold ib_l1 at hnext
    cases hl : ib_lv s t
    · rw [hl] at hnext
      rw [if_neg (by decide), iv_wr_id (by omega) (by omega), Int.add_zero]
      exact hnext
    · rw [hl] at hnext
      rw [if_pos rfl, iv_wr_succ (by omega)]
      exact hnext
theorem ib_lsum (h : ib_inv D s) : ib_pc (ib_set (ib_lv s) 8) = ib_sum (ib_l1 s) (ib_T s) := by
  have hT := h.T
  have e3 := ib_sum_cut (f := ib_l1 s) (a := ib_T s) (8 - ib_T s) (fun i h1 h2 => by
    unfold ib_l1
    cases hl : ib_lv s i
    · rfl
    · have := ib_lv_lt hl; omega)
  rw [show ib_T s + (8 - ib_T s) = 8 by omega] at e3
  rw [← e3]
  unfold ib_pc ib_l1
  apply ib_sum_ext
  intro i _
  rw [ib_live_bit h]
theorem iq_count (h : ib_inv D s) (hD : D ≤ 60000) {p : Int} : ib_q s (f_X9_count p) (f_X10_count p) := by
  have hT := h.T
  have hY := h.Y
  have e0 : ∀ k, lp_X10_count_4 p k iv_fuel 0 0 s = k (ib_sum (ib_z s) (ib_T s) : Nat) s := fun k => ib_zsum_lp h ib_ag.rfl k (ib_T s) 0 iv_fuel (by omega) (by unfold iv_fuel; omega)
  obtain ⟨n, _, tx1, tx2, _⟩ := h.1
  have so := h.2.2.2.2
  unfold ib_q f_X9_count f_X10_count
  by_cases c0 : p = 0
  · simp only [if_pos c0]
    exact ⟨_, s, s, rfl, by rw [e0, tx1, tx2], ib_ag.rfl⟩
  simp only [if_neg c0]
  by_cases c1 : p = 1
  · simp only [if_pos c1]
    exact ⟨_, s, s, rfl, by rw [e0, hT.1, hT.2.2], ib_ag.rfl⟩
  simp only [if_neg c1]
  by_cases c2 : p = 2
  · simp only [if_pos c2]
    exact ⟨_, s, s, rfl, by rw [e0, h.P.1, h.P.2.2], ib_ag.rfl⟩
  simp only [if_neg c2]
  by_cases c3 : p = 3
  · simp only [if_pos c3]
    exact ⟨_, s, s, rfl, by rw [e0, h.R.1], ib_ag.rfl⟩
  simp only [if_neg c3]
  by_cases c4 : p = 4
  · simp only [if_pos c4]
    exact ⟨_, s, s, rfl, by rw [e0, hY.1], ib_ag.rfl⟩
  simp only [if_neg c4]
  by_cases c5 : p = 5
  · simp only [if_pos c5]
    exact ⟨_, s, s, rfl, by rw [e0, so.2.2.1], ib_ag.rfl⟩
  simp only [if_neg c5]
  by_cases c6 : p = 6
  · simp only [if_pos c6]
    rw [ib_liveOnes h hD ib_ag.rfl, iv_bnd_some, ib_bitCount (ib_set_lt8 _ (by omega)), iv_bnd_some]
    refine ⟨_, s, s, rfl, ?_, ib_ag.rfl⟩
    rw [e0, ib_lsum h]
    exact ib_lsum_lp h hD ib_ag.rfl (ib_T s) 0 iv_fuel (by omega) (by unfold iv_fuel; omega)
  simp only [if_neg c6]
  by_cases c7 : p = 7
  · simp only [if_pos c7]
    rw [ib_zsumX h ib_ag.rfl, iv_bnd_some]
    exact ⟨_, s, s, rfl, by rw [e0], ib_ag.rfl⟩
  simp only [if_neg c7]
  exact ⟨_, s, s, rfl, by rw [e0], ib_ag.rfl⟩
end IBC
