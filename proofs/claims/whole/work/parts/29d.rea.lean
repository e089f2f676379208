/-! TEXTS: A PERSON, A PAIR -/
def ip_kR : ivM → Option (Int × ivM) := fun (μ84 : ivM) => some ((μ84 110 19), μ84)
section IBY
variable {n a : Nat} {x : Nat → Int} {μ κ : ivM}
theorem ip_R_flt {g m : Nat} (h : κ 110 19 = g) : lp_X10_readText_47 ip_kR (m + 1) κ = some ((g : Int), κ) := by
  rw [lp_X10_readText_47, if_neg (by omega)]
  unfold ip_kR
  rw [h]
theorem ip_R_end {m : Nat} (hm : ip_mt n x κ) (hat : ip_at a κ) (ha : n ≤ a) : lp_X10_readText_47 ip_kR (m + 1) κ = some (-9, κ) := by
  rw [lp_X10_readText_47, if_pos hat.2, hm.1, hat.1, if_pos (by omega)]
  unfold ip_kR
  rw [hat.2]
theorem ip_R_N {T m : Nat} (hn : n ≤ 96) (hm : ip_mt n x κ) (hat : ip_at a κ) (ha : a < n) (hb : x a = 78) (h5 : κ 110 5 = T) (hT : T < 8) {r : Int} {κ' : ivM} (he : f_X10_readName κ = some (r, κ')) : lp_X10_readText_47 ip_kR (m + 1) κ = lp_X10_readText_47 ip_kR m κ' := by
  rw [lp_X10_readText_47, if_pos hat.2, hm.1, hat.1, if_neg (by omega), ip_here hn hm hat, iv_bnd_some, if_pos ha, hb]
  simp only [iv_let]
  rw [if_pos trivial, h5, if_neg (by omega), he, iv_bnd_some]
theorem ip_R_P {P m : Nat} (hn : n ≤ 96) (hm : ip_mt n x κ) (hat : ip_at a κ) (ha : a < n) (hb : x a = 80) (h6 : κ 110 6 = P) (hP : P < 6) {r : Int} {κ' : ivM} (he : f_X10_figure 1022 (iv_upd κ 110 18 ((a + 1 : Nat) : Int)) = some (r, κ')) (h6' : κ' 110 6 = P) : lp_X10_readText_47 ip_kR (m + 1) κ = lp_X10_readText_47 ip_kR m (iv_upd (iv_upd κ' 114 P r) 110 6 ((P + 1 : Nat) : Int)) := by
  rw [lp_X10_readText_47, if_pos hat.2, hm.1, hat.1, if_neg (by omega), ip_here hn hm hat, iv_bnd_some, if_pos ha, hb]
  simp only [iv_let]
  rw [if_neg (by decide), if_pos trivial, h6, if_neg (by omega), hat.1, iv_wr_succ (by omega), he, iv_bnd_some, iv_upd_nk (k := 18) (k' := 6) (by omega), h6, iv_ck_pos (by omega), Int.toNat_natCast, iv_upd_na (a := 114) (a' := 110) (by omega), h6', iv_wr_succ (by omega)]
theorem ip_R_o {m : Nat} (hn : n ≤ 96) (hm : ip_mt n x κ) (hat : ip_at a κ) (ha : a < n) {T P : Nat} (h5 : κ 110 5 = T) (h6 : κ 110 6 = P) (hN : x a = 78 → 8 ≤ T) (hP : x a = 80 → 6 ≤ P) (hK : x a = 75 → f_X10_open κ = some (0, κ)) : lp_X10_readText_47 ip_kR (m + 1) κ = lp_X10_readText_47 ip_kR m (iv_upd κ 110 19 a) := by
  rw [lp_X10_readText_47, if_pos hat.2, hm.1, hat.1, if_neg (by omega), ip_here hn hm hat, iv_bnd_some, if_pos ha]
  simp only [iv_let]
  by_cases c1 : x a = 78
  · rw [if_pos c1, h5, if_pos (by have := hN c1; omega), if_neg (by omega), if_neg (by omega), ip_fail hat, iv_bnd_some]
  · rw [if_neg c1]
    by_cases c2 : x a = 80
    · rw [if_pos c2, h6, if_pos (by have := hP c2; omega), if_neg (by omega), ip_fail hat, iv_bnd_some]
    · rw [if_neg c2]
      by_cases c3 : x a = 75
      · rw [if_pos c3, hK c3, iv_bnd_some, if_pos rfl, ip_fail hat, iv_bnd_some]
      · rw [if_neg c3, ip_fail hat, iv_bnd_some]
/-! a person -/
theorem ip_bear_yes {P v : Nat} (h5 : μ 5 5 = P) (hP : P < 6) (hv : 1 ≤ v ∧ v ≤ 9) : f_X7_takeBear (48 + (v : Int)) μ = some (1, iv_upd (iv_upd (iv_upd μ 8 P (v : Int)) 5 5 ((P + 1 : Nat) : Int)) 5 7 2) := by
  have e : iv_wr (48 + (v : Int) - 48) = (v : Int) := by rw [iv_wr_id (by omega) (by omega)]; omega
  unfold f_X7_takeBear
  simp only [iv_let, e]
  rw [if_neg (by omega), if_neg (by omega), h5, if_neg (by omega), if_pos (by omega), iv_ck_pos (by omega), Int.toNat_natCast, iv_upd_na (by omega), h5, iv_wr_succ (by omega)]
theorem ip_bear_no {b : Int} (hb : 0 ≤ b ∧ b < 256) (h : ∀ v : Nat, b = 48 + v → ¬ (1 ≤ v ∧ v ≤ 9)) : f_X7_takeBear b μ = some (0, μ) := by
  unfold f_X7_takeBear
  simp only [iv_let]
  rw [iv_wr_id (x := b - 48) (by omega) (by omega)]
  by_cases c1 : b - 48 < 1
  · rw [if_pos c1]
  · rw [if_neg c1]
    by_cases c2 : 9 < b - 48
    · rw [if_pos c2]
    · exact absurd ⟨by omega, by omega⟩ (h (b - 48).toNat (by omega))
theorem ip_1022 : ∀ v : Nat, v ≤ 9 → (Nat.testBit 1022 v = true ↔ 1 ≤ v) := by
  intro v hv
  have : v < 10 := by omega
  revert v
  decide
theorem ip_J_P {T P v : Nat} {μ' κ' : ivM} (hJ : ip_J T P μ κ) (hP : P < 6) (hv : 1 ≤ v ∧ v ≤ 9) (hμ : ∀ a q, ¬ (a = 5 ∧ (q = 5 ∨ q = 7)) → ¬ (a = 8 ∧ q = P) → μ' a q = μ a q) (hκ : ∀ a q, ¬ (a = 110 ∧ (q = 6 ∨ q = 18)) → ¬ (a = 114 ∧ q = P) → κ' a q = κ a q)
    (h5 : μ' 5 5 = ((P + 1 : Nat) : Int)) (h6 : κ' 110 6 = ((P + 1 : Nat) : Int)) (h8 : μ' 8 P = v) (h114 : κ' 114 P = v) : ip_J T (P + 1) μ' κ' := by
  obtain ⟨j1, j2, ⟨j3, j4, j5, j6⟩, ⟨j7, j8, j9⟩, j10, j11, j12⟩ := hJ
  have e111 : ∀ q, κ' 111 q = κ 111 q := fun q => hκ _ _ (by omega) (by omega)
  have e112 : ∀ q, κ' 112 q = κ 112 q := fun q => hκ _ _ (by omega) (by omega)
  have e113 : ∀ q, κ' 113 q = κ 113 q := fun q => hκ _ _ (by omega) (by omega)
  have k4 : κ' 110 4 = κ 110 4 := hκ _ _ (by omega) (by omega)
  refine ⟨j1, by omega, ⟨(hμ _ _ (by omega) (by omega)).trans j3, h5, (hκ _ _ (by omega) (by omega)).trans j5, h6⟩, ⟨by rw [k4, hμ _ _ (by omega) (by omega)]; exact j7, by rw [k4]; exact j8, by rw [k4]; exact j9⟩, fun t ht => ?_, fun p hp => ?_, ?_⟩
  · obtain ⟨q1, q2, q3, q4, q5, q6⟩ := j10 t ht
    simp only [e111, e112, e113]
    rw [hμ 6 t (by omega) (by omega), hμ 7 t (by omega) (by omega)]
    exact ⟨q1, q2, q3, q4, q5, Nat.lt_of_lt_of_le q6 (Nat.pow_le_pow_right (by omega) (by omega))⟩
  · by_cases c : p = P
    · subst c; rw [h8, h114]; exact ⟨rfl, by omega, by omega⟩
    · rw [hμ 8 p (by omega) (by omega), hκ 114 p (by omega) (by omega)]
      exact j11 p (by omega)
  · simp only [e113]
    rw [hμ 5 6 (by omega) (by omega)]; exact j12
theorem ip_person (hn : n ≤ 96) (hx : ∀ k, k < n → 0 ≤ x k ∧ x k < 256) {T P f m : Nat} (hJ : ip_J T P μ κ) (hP : P < 6) (hc : ip_ct n x μ) (hm : ip_mt n x κ) (h7 : μ 5 7 = 2) (hat : ip_at a κ) (ha : a < n) (hb : x a = 80) (hf : n < a + f) :
    (∃ (g : Nat) (μ' κ' : ivM), lp_X7_faultOf_27 ip_kF f a μ = some ((g : Int), μ') ∧ lp_X10_readText_47 ip_kR (m + 1) κ = lp_X10_readText_47 ip_kR m κ' ∧ κ' 110 19 = g ∧ ib_fr 5 8 μ μ' ∧ ip_mf κ κ') ∨
    (∃ (a' f' : Nat) (μ' κ' : ivM), a < a' ∧ a' ≤ n ∧ n < a' + f' ∧ lp_X7_faultOf_27 ip_kF f a μ = lp_X7_faultOf_27 ip_kF f' a' μ' ∧ lp_X10_readText_47 ip_kR (m + 1) κ = lp_X10_readText_47 ip_kR m κ' ∧ ip_J T (P + 1) μ' κ' ∧ μ' 5 7 = 2 ∧ ip_at a' κ' ∧ ib_fr 5 8 μ μ' ∧ ip_mf κ κ') := by
  obtain ⟨f, rfl⟩ : ∃ q, f = q + 1 := ⟨f - 1, by omega⟩
  obtain ⟨j1, j2, ⟨j3, j4, j5, j6⟩, _⟩ := id hJ
  have t1 := ip_tp_P (μ := μ) j4
  rw [if_pos hP] at t1
  have eF := ip_F_good hn hc (m := f) ha (by rw [hb]; exact ip_take2 h7 t1 (Or.inr rfl))
  have fr1 : ib_fr 5 8 μ (iv_upd μ 5 7 4) := ib_fr.rfl.upd (by omega)
  have mf1 : ip_mf κ (iv_upd κ 110 18 ((a + 1 : Nat) : Int)) := ip_mf.rfl.upd (by omega)
  have at1 : ip_at (a + 1) (iv_upd κ 110 18 ((a + 1 : Nat) : Int)) := ⟨iv_upd_at, by rw [iv_upd_nk (by omega)]; exact hat.2⟩
  have e7 : iv_upd μ 5 7 4 5 7 = 4 := iv_upd_at
  rcases Classical.em (∃ v : Nat, a + 1 < n ∧ x (a + 1) = 48 + v ∧ 1 ≤ v ∧ v ≤ 9) with ⟨v, s1, s2, s3, s4⟩ | hno
  · right
    obtain ⟨f, rfl⟩ : ∃ q, f = q + 1 := ⟨f - 1, by omega⟩
    have eM := ip_R_P hn hm hat (m := m) ha hb j6 hP (ip_figure_yes hn (hm.fr mf1) at1 (al := 1022) (by decide) s1 s2 s4 ((ip_1022 v s4).mpr s3)) (by rw [iv_upd_nk (by omega), iv_upd_nk (by omega)]; exact j6)
    have eX := ip_bear_yes (μ := iv_upd μ 5 7 4) (P := P) (v := v) (by rw [iv_upd_nk (by omega)]; exact j4) hP ⟨s3, s4⟩
    rw [← s2] at eX
    have eF2 := ip_F_good hn (hc.fr fr1) (m := f) s1 (ip_take4 e7 eX (Or.inr rfl))
    refine ⟨a + 1 + 1, f, _, _, by omega, by omega, by omega, by rw [eF, eF2], eM, ip_J_P hJ hP ⟨s3, s4⟩ (fun b q h1 h2 => ?_) (fun b q h1 h2 => ?_) ?_ iv_upd_at ?_ ?_, iv_upd_at, ⟨?_, ?_⟩, ((fr1.upd (by omega)).upd (by omega)).upd (by omega), ((mf1.upd (by omega)).upd (by omega)).upd (by omega)⟩
    · unfold iv_upd
      rw [if_neg (by omega), if_neg (by omega), if_neg (by omega), if_neg (by omega)]
    · unfold iv_upd
      rw [if_neg (by omega), if_neg (by omega), if_neg (by omega), if_neg (by omega)]
    · rw [iv_upd_nk (by omega), iv_upd_at]
    · rw [iv_upd_na (by omega), iv_upd_na (by omega), iv_upd_at]
    · rw [iv_upd_na (by omega), iv_upd_at]
    · rw [iv_upd_nk (by omega), iv_upd_na (by omega), iv_upd_at]
    · rw [iv_upd_nk (by omega), iv_upd_na (by omega), iv_upd_nk (by omega)]; exact at1.2
  · left
    have efig := ip_figure_no hn hx (hm.fr mf1) at1 (al := 1022) (by omega) (fun v s1 s2 s4 => by
      cases hh : Nat.testBit 1022 v
      · rfl
      · exact absurd ⟨v, s1, s2, (ip_1022 v s4).mp hh, s4⟩ hno)
    have eM := ip_R_P hn hm hat (m := m) ha hb j6 hP efig (by rw [iv_upd_nk (by omega), iv_upd_nk (by omega)]; exact j6)
    have bad : lp_X7_faultOf_27 ip_kF f ((a + 1 : Nat) : Int) (iv_upd μ 5 7 4) = some (((a + 1 : Nat) : Int), iv_upd μ 5 7 4) := by
      obtain ⟨f, rfl⟩ : ∃ q, f = q + 1 := ⟨f - 1, by omega⟩
      by_cases q : a + 1 < n
      · exact ip_F_bad hn (hc.fr fr1) q (ip_take4 e7 (ip_bear_no (hx _ q) (fun v hv c => hno ⟨v, q, hv, c.1, c.2⟩)) (Or.inl rfl))
      · rw [ip_F_end (hc.fr fr1) (by omega), ip_kF_o (by rw [e7]; decide) (by rw [e7]; decide), (hc.fr fr1).1, show n = a + 1 by omega]
    refine ⟨a + 1, _, _, by rw [eF, bad], eM, ?_, fr1, ((mf1.upd (by omega)).upd (by omega)).upd (by omega)⟩
    rw [iv_upd_nk (by omega), iv_upd_na (by omega), iv_upd_at]
/-! a pair -/
theorem ip_knower_yes {T P p : Nat} (hT : T ≤ 8) (hP : P ≤ 6) (h4 : μ 5 4 = T) (h5 : μ 5 5 = P) {f : Nat → Nat} (hf : ∀ t, t < T → μ 7 t = (f t : Nat) ∧ f t < 2147483648) (hp : p < P) (h : ∃ t, t < T ∧ (f t).testBit p = false) : f_X7_takeKnower (48 + (p : Int)) μ = some (1, iv_upd (iv_upd μ 5 10 (p : Int)) 5 7 6) := by
  have e : iv_wr (48 + (p : Int) - 48) = (p : Int) := by rw [iv_wr_id (by omega) (by omega)]; omega
  have e10 : iv_upd (iv_upd μ 5 10 (p : Int)) 5 7 6 5 10 = p := by rw [iv_upd_nk (by omega), iv_upd_at]
  have e5 : iv_upd (iv_upd μ 5 10 (p : Int)) 5 7 6 5 5 = P := by rw [iv_upd_nk (by omega), iv_upd_nk (by omega)]; exact h5
  have e4 : iv_upd (iv_upd μ 5 10 (p : Int)) 5 7 6 5 4 = T := by rw [iv_upd_nk (by omega), iv_upd_nk (by omega)]; exact h4
  unfold f_X7_takeKnower
  simp only [iv_let, e]
  rw [e10, if_neg (by omega), e5, if_neg (by omega), ip_canLearn_yes hT (by omega) e4 (f := f) (fun t ht => by rw [iv_upd_na (by omega), iv_upd_na (by omega)]; exact hf t ht) h, iv_bnd_some, if_neg (by decide), iv_ck_pos (Or.inr trivial)]
theorem ip_knower_no {T P : Nat} {b : Int} (hb : 0 ≤ b ∧ b < 256) (hT : T ≤ 8) (hP : P ≤ 6) (h4 : μ 5 4 = T) (h5 : μ 5 5 = P) {f : Nat → Nat} (hf : ∀ t, t < T → μ 7 t = (f t : Nat) ∧ f t < 2147483648) (h : ∀ p : Nat, b = 48 + p → p < P → ∀ t, t < T → (f t).testBit p = true) : f_X7_takeKnower b μ = some (0, iv_upd (iv_upd μ 5 10 (b - 48)) 5 7 6) := by
  have e10 : iv_upd (iv_upd μ 5 10 (b - 48)) 5 7 6 5 10 = b - 48 := by rw [iv_upd_nk (by omega), iv_upd_at]
  have e5 : iv_upd (iv_upd μ 5 10 (b - 48)) 5 7 6 5 5 = P := by rw [iv_upd_nk (by omega), iv_upd_nk (by omega)]; exact h5
  have e4 : iv_upd (iv_upd μ 5 10 (b - 48)) 5 7 6 5 4 = T := by rw [iv_upd_nk (by omega), iv_upd_nk (by omega)]; exact h4
  unfold f_X7_takeKnower
  simp only [iv_let]
  rw [iv_wr_id (x := b - 48) (by omega) (by omega), e10, e5]
  by_cases c1 : b - 48 < 0
  · rw [if_pos c1, iv_ck_pos (Or.inl trivial)]
  · rw [if_neg c1]
    by_cases c2 : (P : Int) ≤ b - 48
    · rw [if_pos c2, iv_ck_pos (Or.inl trivial)]
    · obtain ⟨p, hp⟩ : ∃ p : Nat, b - 48 = p := ⟨(b - 48).toNat, by omega⟩
      rw [hp] at e4 c2 ⊢
      rw [if_neg c2, ip_canLearn_no hT (by omega) e4 (f := f) (fun t ht => by rw [iv_upd_na (by omega), iv_upd_na (by omega)]; exact hf t ht) (h p (by omega) (by omega)), iv_bnd_some, if_pos rfl, iv_ck_pos (Or.inl trivial)]
theorem ip_known_yes {T p t pr g : Nat} (hT : T ≤ 8) (hp : p < 6) (h4 : μ 5 4 = T) (h10 : μ 5 10 = p) (h6 : μ 5 6 = pr) (hpr : pr < 100) (ht : t < T) (hg : μ 7 t = (g : Nat)) (hg2 : g < 64) (hb : g.testBit p = false) : f_X7_takeKnown (48 + (t : Int)) μ = some ((1 : Int), iv_upd (iv_upd (iv_upd μ 7 t (((g ||| 1 <<< p : Nat)) : Int)) 5 6 ((pr + 1 : Nat) : Int)) 5 7 2) := by
  have e : iv_wr (48 + (t : Int) - 48) = (t : Int) := by rw [iv_wr_id (by omega) (by omega)]; omega
  unfold f_X7_takeKnown
  simp only [iv_let, e]
  rw [if_neg (by omega), h4, if_neg (by omega), if_neg (by omega), iv_ck_pos (by omega), Int.toNat_natCast, hg, h10, ib_has (by omega) (by omega), iv_bnd_some, hb, if_pos (show (if false = true then (1 : Int) else 0) = 0 from rfl), iv_ck_pos (by omega), iv_ck_pos (by omega), hg, h10, ib_orb (by omega) (by omega), iv_upd_na (by omega), h6, iv_wr_succ (by omega)]
theorem ip_known_no {T p : Nat} {b : Int} (hbb : 0 ≤ b ∧ b < 256) (hT : T ≤ 8) (hp : p < 6) (h4 : μ 5 4 = T) (h10 : μ 5 10 = p) {f : Nat → Nat} (hf : ∀ t, t < T → μ 7 t = (f t : Nat) ∧ f t < 2147483648) (h : ∀ t : Nat, b = 48 + t → t < T → (f t).testBit p = true) : f_X7_takeKnown b μ = some (0, μ) := by
  unfold f_X7_takeKnown
  simp only [iv_let]
  rw [iv_wr_id (x := b - 48) (by omega) (by omega), h4]
  by_cases c1 : b - 48 < 0
  · rw [if_pos c1]
  · rw [if_neg c1]
    by_cases c2 : (T : Int) ≤ b - 48
    · rw [if_pos c2]
    · obtain ⟨t, ht⟩ : ∃ t : Nat, b - 48 = t := ⟨(b - 48).toNat, by omega⟩
      obtain ⟨g1, g2⟩ := hf t (by omega)
      rw [if_neg c2, if_neg (by omega), iv_ck_pos (by omega), ht, Int.toNat_natCast, g1, h10, ib_has g2 (by omega), iv_bnd_some, h t (by omega) (by omega), if_neg (by decide)]
theorem ip_J_K {T P p t : Nat} {μ' κ' : ivM} (hJ : ip_J T P μ κ) (hp : p < P) (ht : t < T) (hb : (κ 113 t).toNat.testBit p = false) (hμ : ∀ a q, ¬ (a = 5 ∧ (q = 6 ∨ q = 7 ∨ q = 10)) → ¬ (a = 7 ∧ q = t) → μ' a q = μ a q) (hκ : ∀ a q, ¬ (a = 110 ∧ q = 18) → ¬ (a = 113 ∧ q = t) → κ' a q = κ a q)
    (h6 : μ' 5 6 = ((ib_sum (fun t => ib_pc (κ 113 t).toNat) T + 1 : Nat) : Int)) (h7 : μ' 7 t = (((κ 113 t).toNat ||| 1 <<< p : Nat) : Int)) (h113 : κ' 113 t = (((κ 113 t).toNat ||| 1 <<< p : Nat) : Int)) : ip_J T P μ' κ' := by
  obtain ⟨j1, j2, ⟨j3, j4, j5, j6⟩, ⟨j7, j8, j9⟩, j10, j11, j12⟩ := hJ
  have e111 : ∀ q, κ' 111 q = κ 111 q := fun q => hκ _ _ (by omega) (by omega)
  have e112 : ∀ q, κ' 112 q = κ 112 q := fun q => hκ _ _ (by omega) (by omega)
  have k4 : κ' 110 4 = κ 110 4 := hκ _ _ (by omega) (by omega)
  have hP2 : 2 ^ P ≤ 256 := Nat.pow_le_pow_right (n := 2) (j := 8) (by omega) (by omega)
  refine ⟨j1, j2, ⟨(hμ _ _ (by omega) (by omega)).trans j3, (hμ _ _ (by omega) (by omega)).trans j4, (hκ _ _ (by omega) (by omega)).trans j5, (hκ _ _ (by omega) (by omega)).trans j6⟩, ⟨by rw [k4, hμ _ _ (by omega) (by omega)]; exact j7, by rw [k4]; exact j8, by rw [k4]; exact j9⟩, fun o ho => ?_, fun q hq => ?_, ?_⟩
  · obtain ⟨q1, q2, q3, q4, q5, q6⟩ := j10 o ho
    simp only [e111, e112]
    rw [hμ 6 o (by omega) (by omega)]
    by_cases c : o = t
    · subst c
      rw [h7, h113, Int.toNat_natCast]
      have h1 : 1 <<< p < 2 ^ P := by rw [Nat.one_shiftLeft]; exact Nat.pow_lt_pow_right (by omega) (by omega)
      exact ⟨q1, q2, q3, rfl, Int.natCast_nonneg _, Nat.or_lt_two_pow q6 h1⟩
    · rw [hμ 7 o (by omega) (by omega), hκ 113 o (by omega) (by omega)]
      exact ⟨q1, q2, q3, q4, q5, q6⟩
  · rw [hμ 8 q (by omega) (by omega), hκ 114 q (by omega) (by omega)]
    exact j11 q hq
  · rw [h6]
    have hk := (j10 t ht).2.2.2.2.2
    have := ib_sum_upd (f := fun t => ib_pc (κ' 113 t).toNat) (g := fun t => ib_pc (κ 113 t).toNat) (j := t) (c := 1) T ht (fun i _ hi => by rw [hκ 113 i (by omega) (by omega)]) (by
      rw [h113, Int.toNat_natCast]
      exact (ib_pc_or _ (by omega) p (by omega) hb).1)
    rw [this]
theorem ip_R_K {m : Nat} (hn : n ≤ 96) (hm : ip_mt n x κ) (hat : ip_at a κ) (ha : a < n) (hb : x a = 75) {o p u t : Nat} {κ1 κ2 : ivM} (ho : o ≠ 0) (ho1 : f_X10_open κ = some ((o : Int), κ)) (ho2 : f_X10_open (iv_upd κ 110 18 ((a + 1 : Nat) : Int)) = some ((o : Int), iv_upd κ 110 18 ((a + 1 : Nat) : Int)))
    (e1 : f_X10_figure o (iv_upd κ 110 18 ((a + 1 : Nat) : Int)) = some ((p : Int), κ1)) (e2 : f_X10_unknown p κ1 = some ((u : Int), κ1)) (e3 : f_X10_figure u κ1 = some ((t : Int), κ2)) (ht : t < 8) :
    lp_X10_readText_47 ip_kR (m + 1) κ = lp_X10_readText_47 ip_kR m (iv_upd κ2 113 t (iv_or (κ2 113 t) (if κ2 110 19 = -9 then iv_shl 1 p else 0))) := by
  rw [lp_X10_readText_47, if_pos hat.2, hm.1, hat.1, if_neg (by omega), ip_here hn hm hat, iv_bnd_some, if_pos ha, hb]
  simp only [iv_let]
  rw [if_neg (by decide), if_neg (by decide), if_pos trivial, ho1, iv_bnd_some, if_neg (by omega), hat.1, iv_wr_succ (by omega), ho2, iv_bnd_some, e1, iv_bnd_some, e2, iv_bnd_some, e3, iv_bnd_some, iv_ck_pos (by omega), iv_ck_pos (by omega), Int.toNat_natCast]
  by_cases c : κ2 110 19 = -9
  · rw [if_pos c, if_pos c]
  · rw [if_neg c, if_neg c, iv_ck_pos (by omega)]
theorem ip_op_0 {T P : Nat} (hJ : ip_J T P μ κ) : ip_op κ T P ≠ 0 ↔ ib_sum (fun t => ib_pc (κ 113 t).toNat) T < T * P := by
  obtain ⟨j1, j2, _, _, j10, _, _⟩ := hJ
  rw [ip_sum_lt (f := fun t => ib_pc (κ 113 t).toNat) (b := P) T (fun t ht => (ib_pc_n P (by omega) _ (j10 t ht).2.2.2.2.2).1)]
  constructor
  · intro h
    obtain ⟨p, hp⟩ := ib_some_bit h
    obtain ⟨h1, t, h2, h3⟩ := ip_op_bit.mp hp
    exact ⟨t, h2, (ip_pc_lt j2 (j10 t h2).2.2.2.2.2).mpr ⟨p, h1, h3⟩⟩
  · rintro ⟨t, h1, h2⟩ h0
    obtain ⟨p, h3, h4⟩ := (ip_pc_lt j2 (j10 t h1).2.2.2.2.2).mp h2
    have := ip_op_bit (κ := κ) (T := T) (P := P) (p := p) |>.mpr ⟨h3, t, h1, h4⟩
    rw [h0, Nat.zero_testBit] at this
    cases this
theorem ip_pair (hn : n ≤ 96) (hx : ∀ k, k < n → 0 ≤ x k ∧ x k < 256) {T P f m : Nat} (hJ : ip_J T P μ κ) (h0 : ip_op κ T P ≠ 0) (hc : ip_ct n x μ) (hm : ip_mt n x κ) (h7 : μ 5 7 = 2) (hat : ip_at a κ) (ha : a < n) (hb : x a = 75) (hf : n < a + f) :
    (∃ (g : Nat) (μ' κ' : ivM), lp_X7_faultOf_27 ip_kF f a μ = some ((g : Int), μ') ∧ lp_X10_readText_47 ip_kR (m + 1) κ = lp_X10_readText_47 ip_kR m κ' ∧ κ' 110 19 = g ∧ ib_fr 5 8 μ μ' ∧ ip_mf κ κ') ∨
    (∃ (a' f' : Nat) (μ' κ' : ivM), a < a' ∧ a' ≤ n ∧ n < a' + f' ∧ lp_X7_faultOf_27 ip_kF f a μ = lp_X7_faultOf_27 ip_kF f' a' μ' ∧ lp_X10_readText_47 ip_kR (m + 1) κ = lp_X10_readText_47 ip_kR m κ' ∧ ip_J T P μ' κ' ∧ μ' 5 7 = 2 ∧ ip_at a' κ' ∧ ib_fr 5 8 μ μ' ∧ ip_mf κ κ') := by
  obtain ⟨f, rfl⟩ : ∃ q, f = q + 1 := ⟨f - 1, by omega⟩
  obtain ⟨j1, j2, ⟨j3, j4, j5, j6⟩, _, j10, _, j12⟩ := id hJ
  have hpr := (ip_op_0 hJ).mp h0
  have hP2 : 2 ^ P ≤ 64 := Nat.pow_le_pow_right (n := 2) (j := 6) (by omega) (by omega)
  have hTP : T * P ≤ 8 * 6 := Nat.mul_le_mul j1 j2
  have t1 := ip_tp_K (μ := μ) j1 j2 j3 j4 j12
  rw [if_pos hpr] at t1
  have eF := ip_F_good hn hc (m := f) ha (by rw [hb]; exact ip_take2 h7 t1 (Or.inr rfl))
  have fr1 : ib_fr 5 8 μ (iv_upd μ 5 7 5) := ib_fr.rfl.upd (by omega)
  have mf1 : ip_mf κ (iv_upd κ 110 18 ((a + 1 : Nat) : Int)) := ip_mf.rfl.upd (by omega)
  have at1 : ip_at (a + 1) (iv_upd κ 110 18 ((a + 1 : Nat) : Int)) := ⟨iv_upd_at, by rw [iv_upd_nk (by omega)]; exact hat.2⟩
  have kb : ∀ t, t < T → 0 ≤ κ 113 t ∧ κ 113 t < 2147483648 := fun t ht => by
    obtain ⟨_, _, _, _, q5, q6⟩ := j10 t ht
    omega
  have hcl : ∀ t, t < T → (iv_upd μ 5 7 5) 7 t = (((κ 113 t).toNat : Nat) : Int) ∧ (κ 113 t).toNat < 2147483648 := fun t ht => by
    rw [iv_upd_na (by omega)]
    have := kb t ht
    exact ⟨(j10 t ht).2.2.2.1, by omega⟩
  have eo1 := ip_open (κ := κ) j1 j2 j5 j6 kb
  have eo2 : f_X10_open (iv_upd κ 110 18 ((a + 1 : Nat) : Int)) = some (((ip_op κ T P : Nat) : Int), iv_upd κ 110 18 ((a + 1 : Nat) : Int)) := by
    rw [ip_open (κ := iv_upd κ 110 18 ((a + 1 : Nat) : Int)) (T := T) (P := P) j1 j2 (by rw [iv_upd_nk (by omega)]; exact j5) (by rw [iv_upd_nk (by omega)]; exact j6) (fun t ht => by rw [iv_upd_na (by omega)]; exact kb t ht)]
    have : ip_op (iv_upd κ 110 18 ((a + 1 : Nat) : Int)) T P = ip_op κ T P := by
      unfold ip_op ip_un
      simp only [iv_upd_na (f := κ) (a := 110) (a' := 113) (k := 18) (v := ((a + 1 : Nat) : Int)) (by omega)]
    rw [this]
  have hop : ip_op κ T P < 256 := ib_set_lt8 _ (by omega)
  have e7 : iv_upd μ 5 7 5 5 7 = 5 := iv_upd_at
  have d4 : iv_upd μ 5 7 5 5 4 = T := by rw [iv_upd_nk (by omega)]; exact j3
  have d5 : iv_upd μ 5 7 5 5 5 = P := by rw [iv_upd_nk (by omega)]; exact j4
  rcases Classical.em (∃ p : Nat, a + 1 < n ∧ x (a + 1) = 48 + p ∧ p < P ∧ ∃ t, t < T ∧ (κ 113 t).toNat.testBit p = false) with ⟨p, s1, s2, s3, s4⟩ | hno
  · obtain ⟨f, rfl⟩ : ∃ q, f = q + 1 := ⟨f - 1, by omega⟩
    have efig := ip_figure_yes hn (hm.fr mf1) at1 (al := ip_op κ T P) (v := p) (by omega) s1 s2 (by omega) (ip_op_bit.mpr ⟨s3, s4⟩)
    have eX := ip_knower_yes (μ := iv_upd μ 5 7 5) (f := fun t => (κ 113 t).toNat) j1 j2 d4 d5 hcl s3 s4
    rw [← s2] at eX
    have eF2 := ip_F_good hn (hc.fr fr1) (m := f) s1 (ip_take5 e7 eX (Or.inr rfl))
    have fr2 : ib_fr 5 8 μ (iv_upd (iv_upd (iv_upd μ 5 7 5) 5 10 (p : Int)) 5 7 6) := (fr1.upd (by omega)).upd (by omega)
    have mf2 : ip_mf κ (iv_upd (iv_upd κ 110 18 ((a + 1 : Nat) : Int)) 110 18 ((a + 1 + 1 : Nat) : Int)) := mf1.upd (by omega)
    have at2 : ip_at (a + 1 + 1) (iv_upd (iv_upd κ 110 18 ((a + 1 : Nat) : Int)) 110 18 ((a + 1 + 1 : Nat) : Int)) := ⟨iv_upd_at, by rw [iv_upd_nk (by omega)]; exact at1.2⟩
    have eun : f_X10_unknown p (iv_upd (iv_upd κ 110 18 ((a + 1 : Nat) : Int)) 110 18 ((a + 1 + 1 : Nat) : Int)) = some (((ip_un κ T p : Nat) : Int), iv_upd (iv_upd κ 110 18 ((a + 1 : Nat) : Int)) 110 18 ((a + 1 + 1 : Nat) : Int)) := by
      rw [ip_unknown (κ := iv_upd (iv_upd κ 110 18 ((a + 1 : Nat) : Int)) 110 18 ((a + 1 + 1 : Nat) : Int)) (T := T) j1 (by omega) (by rw [iv_upd_nk (by omega), iv_upd_nk (by omega)]; exact j5) (fun t ht => by rw [iv_upd_na (by omega), iv_upd_na (by omega)]; exact kb t ht)]
      have : ip_un (iv_upd (iv_upd κ 110 18 ((a + 1 : Nat) : Int)) 110 18 ((a + 1 + 1 : Nat) : Int)) T p = ip_un κ T p := by
        unfold ip_un
        have e : ∀ t, iv_upd (iv_upd κ 110 18 ((a + 1 : Nat) : Int)) 110 18 ((a + 1 + 1 : Nat) : Int) 113 t = κ 113 t := fun t => by rw [iv_upd_na (by omega), iv_upd_na (by omega)]
        simp only [e]
      rw [this]
    have hun : ip_un κ T p < 256 := ib_set_lt8 _ (by omega)
    have g7 : iv_upd (iv_upd (iv_upd μ 5 7 5) 5 10 (p : Int)) 5 7 6 5 7 = 6 := iv_upd_at
    have g4 : iv_upd (iv_upd (iv_upd μ 5 7 5) 5 10 (p : Int)) 5 7 6 5 4 = T := by rw [iv_upd_nk (by omega), iv_upd_nk (by omega)]; exact d4
    have g10 : iv_upd (iv_upd (iv_upd μ 5 7 5) 5 10 (p : Int)) 5 7 6 5 10 = p := by rw [iv_upd_nk (by omega), iv_upd_at]
    have g6 : iv_upd (iv_upd (iv_upd μ 5 7 5) 5 10 (p : Int)) 5 7 6 5 6 = (ib_sum (fun t => ib_pc (κ 113 t).toNat) T : Nat) := by rw [iv_upd_nk (by omega), iv_upd_nk (by omega), iv_upd_nk (by omega)]; exact j12
    have gcl : ∀ t, t < T → iv_upd (iv_upd (iv_upd μ 5 7 5) 5 10 (p : Int)) 5 7 6 7 t = (((κ 113 t).toNat : Nat) : Int) ∧ (κ 113 t).toNat < 2147483648 := fun t ht => by
      rw [iv_upd_na (by omega), iv_upd_na (by omega)]; exact hcl t ht
    rcases Classical.em (∃ t : Nat, a + 1 + 1 < n ∧ x (a + 1 + 1) = 48 + t ∧ t < T ∧ (κ 113 t).toNat.testBit p = false) with ⟨t, v1, v2, v3, v4⟩ | hno2
    · right
      obtain ⟨f, rfl⟩ : ∃ q, f = q + 1 := ⟨f - 1, by omega⟩
      have efig2 := ip_figure_yes hn (hm.fr mf2) at2 (al := ip_un κ T p) (v := t) (by omega) v1 v2 (by omega) (ip_un_bit.mpr ⟨v3, v4⟩)
      have eM := ip_R_K hn hm hat (m := m) ha hb h0 eo1 eo2 efig eun efig2 (by omega)
      have hk64 : (κ 113 t).toNat < 64 := by have := (j10 t v3).2.2.2.2.2; omega
      have eX2 := ip_known_yes (μ := iv_upd (iv_upd (iv_upd μ 5 7 5) 5 10 (p : Int)) 5 7 6) (g := (κ 113 t).toNat) j1 (by omega) g4 g10 g6 (by omega) v3 (gcl t v3).1 hk64 v4
      rw [← v2] at eX2
      have eF3 := ip_F_good hn (hc.fr fr2) (m := f) v1 (ip_take6 g7 eX2 (Or.inr rfl))
      have k19 : iv_upd (iv_upd (iv_upd κ 110 18 ((a + 1 : Nat) : Int)) 110 18 ((a + 1 + 1 : Nat) : Int)) 110 18 ((a + 1 + 1 + 1 : Nat) : Int) 110 19 = -9 := by rw [iv_upd_nk (by omega)]; exact at2.2
      have k113 : ∀ q, iv_upd (iv_upd (iv_upd κ 110 18 ((a + 1 : Nat) : Int)) 110 18 ((a + 1 + 1 : Nat) : Int)) 110 18 ((a + 1 + 1 + 1 : Nat) : Int) 113 q = κ 113 q := fun q => by rw [iv_upd_na (by omega), iv_upd_na (by omega), iv_upd_na (by omega)]
      rw [if_pos k19, k113, show κ 113 t = (((κ 113 t).toNat : Nat) : Int) by have := kb t v3; omega, ib_orb (by omega) (by omega)] at eM
      refine ⟨a + 1 + 1 + 1, f, _, _, by omega, by omega, by omega, by rw [eF, eF2, eF3], eM, ip_J_K hJ s3 v3 v4 (fun b q h1 h2 => ?_) (fun b q h1 h2 => ?_) ?_ ?_ iv_upd_at, iv_upd_at, ⟨?_, ?_⟩, ((fr2.upd (by omega)).upd (by omega)).upd (by omega), (mf2.upd (by omega)).upd (by omega)⟩
      · unfold iv_upd
        rw [if_neg (by omega), if_neg (by omega), if_neg (by omega), if_neg (by omega), if_neg (by omega), if_neg (by omega)]
      · unfold iv_upd
        rw [if_neg (by omega), if_neg (by omega), if_neg (by omega), if_neg (by omega)]
      · rw [iv_upd_nk (by omega), iv_upd_at]
      · rw [iv_upd_na (by omega), iv_upd_na (by omega), iv_upd_at]
      · rw [iv_upd_na (by omega), iv_upd_at]
      · rw [iv_upd_na (by omega)]; exact k19
    · left
      have efig2 := ip_figure_no hn hx (hm.fr mf2) at2 (al := ip_un κ T p) (by omega) (fun v w1 w2 w3 => by
        cases hh : (ip_un κ T p).testBit v
        · rfl
        · obtain ⟨y1, y2⟩ := ip_un_bit.mp hh
          exact absurd ⟨v, w1, w2, y1, y2⟩ hno2)
      have eM := ip_R_K hn hm hat (m := m) ha hb h0 eo1 eo2 efig eun (t := 0) efig2 (by omega)
      have bad : lp_X7_faultOf_27 ip_kF f ((a + 1 + 1 : Nat) : Int) (iv_upd (iv_upd (iv_upd μ 5 7 5) 5 10 (p : Int)) 5 7 6) = some (((a + 1 + 1 : Nat) : Int), iv_upd (iv_upd (iv_upd μ 5 7 5) 5 10 (p : Int)) 5 7 6) := by
        obtain ⟨f, rfl⟩ : ∃ q, f = q + 1 := ⟨f - 1, by omega⟩
        by_cases q : a + 1 + 1 < n
        · refine ip_F_bad hn (hc.fr fr2) q (ip_take6 g7 (ip_known_no (f := fun t => (κ 113 t).toNat) (hx _ q) j1 (by omega) g4 g10 gcl (fun t w1 w2 => ?_)) (Or.inl rfl))
          cases hh : (κ 113 t).toNat.testBit p
          · exact absurd ⟨t, q, w1, w2, hh⟩ hno2
          · rfl
        · rw [ip_F_end (hc.fr fr2) (by omega), ip_kF_o (by rw [g7]; decide) (by rw [g7]; decide), (hc.fr fr2).1, show n = a + 1 + 1 by omega]
      refine ⟨a + 1 + 1, _, _, by rw [eF, eF2, bad], eM, ?_, fr2, (mf2.upd (by omega)).upd (by omega)⟩
      rw [iv_upd_na (by omega), iv_upd_at]
  · left
    have efig := ip_figure_no hn hx (hm.fr mf1) at1 (al := ip_op κ T P) (by omega) (fun v w1 w2 w3 => by
      cases hh : (ip_op κ T P).testBit v
      · rfl
      · obtain ⟨y1, y2⟩ := ip_op_bit.mp hh
        exact absurd ⟨v, w1, w2, y1, y2⟩ hno)
    have k19 : iv_upd (iv_upd κ 110 18 ((a + 1 : Nat) : Int)) 110 19 ((a + 1 : Nat) : Int) 110 19 ≠ -9 := by rw [iv_upd_at]; omega
    have eun : f_X10_unknown (0 : Nat) (iv_upd (iv_upd κ 110 18 ((a + 1 : Nat) : Int)) 110 19 ((a + 1 : Nat) : Int)) = some _ := ip_unknown (T := T) j1 (by omega) (by rw [iv_upd_nk (by omega), iv_upd_nk (by omega)]; exact j5) (fun t ht => by rw [iv_upd_na (by omega), iv_upd_na (by omega)]; exact kb t ht)
    have eM := ip_R_K hn hm hat (m := m) ha hb h0 eo1 eo2 (p := 0) efig eun (t := 0) (ip_figure_flt k19) (by omega)
    have bad : ∃ ν, lp_X7_faultOf_27 ip_kF f ((a + 1 : Nat) : Int) (iv_upd μ 5 7 5) = some (((a + 1 : Nat) : Int), ν) ∧ ib_fr 5 8 μ ν := by
      obtain ⟨f, rfl⟩ : ∃ q, f = q + 1 := ⟨f - 1, by omega⟩
      by_cases q : a + 1 < n
      · refine ⟨_, ip_F_bad hn (hc.fr fr1) q (ip_take5 e7 (ip_knower_no (f := fun t => (κ 113 t).toNat) (hx _ q) j1 j2 d4 d5 hcl (fun p w1 w2 t w3 => ?_)) (Or.inl rfl)), (fr1.upd (by omega)).upd (by omega)⟩
        cases hh : (κ 113 t).toNat.testBit p
        · exact absurd ⟨p, q, w1, w2, t, w3, hh⟩ hno
        · rfl
      · refine ⟨_, ?_, fr1⟩
        rw [ip_F_end (hc.fr fr1) (by omega), ip_kF_o (by rw [e7]; decide) (by rw [e7]; decide), (hc.fr fr1).1, show n = a + 1 by omega]
    obtain ⟨ν, b1, b2⟩ := bad
    refine ⟨a + 1, ν, _, by rw [eF, b1], eM, ?_, b2, ((mf1.upd (by omega)).upd (by omega)).upd (by omega)⟩
    rw [iv_upd_na (by omega), iv_upd_at, iv_upd_at]
end IBY
