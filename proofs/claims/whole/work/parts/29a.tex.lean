/-! TEXTS: WORDS -/
def ip_ct (n : Nat) (x : Nat → Int) (μ : ivM) : Prop := μ 3 1 = n ∧ ∀ k, k < n → μ 4 k = x k
def ip_mt (n : Nat) (x : Nat → Int) (κ : ivM) : Prop := κ 110 17 = n ∧ ∀ k, k < n → κ 120 k = x k
/-- where the model stands, without a fault -/
def ip_at (a : Nat) (κ : ivM) : Prop := κ 110 18 = a ∧ κ 110 19 = -9
/-- what reading changes of the model's cells -/
def ip_mf (κ κ' : ivM) : Prop := ∀ a k, ¬ (111 ≤ a ∧ a ≤ 114) → ¬ (a = 110 ∧ (k = 4 ∨ k = 5 ∨ k = 6 ∨ k = 18 ∨ k = 19)) → κ' a k = κ a k
theorem ip_mf.rfl {κ : ivM} : ip_mf κ κ := fun _ _ _ _ => Eq.refl _
theorem ip_mf.tr {κ κ1 κ2 : ivM} (h : ip_mf κ κ1) (g : ip_mf κ1 κ2) : ip_mf κ κ2 := fun a k c d => (g a k c d).trans (h a k c d)
theorem ip_mf.upd {κ κ1 : ivM} (h : ip_mf κ κ1) {a k : Nat} {v : Int} (c : (111 ≤ a ∧ a ≤ 114) ∨ (a = 110 ∧ (k = 4 ∨ k = 5 ∨ k = 6 ∨ k = 18 ∨ k = 19))) : ip_mf κ (iv_upd κ1 a k v) := fun a' k' h1 h2 => by
  unfold iv_upd
  rw [if_neg (by omega)]
  exact h a' k' h1 h2
theorem ip_ct.fr {n : Nat} {x : Nat → Int} {μ ν : ivM} (h : ip_ct n x μ) (f : ib_fr 5 8 μ ν) : ip_ct n x ν := ⟨(f 3 1 (by omega)).trans h.1, fun k hk => (f 4 k (by omega)).trans (h.2 k hk)⟩
theorem ip_mt.fr {n : Nat} {x : Nat → Int} {κ κ' : ivM} (h : ip_mt n x κ) (f : ip_mf κ κ') : ip_mt n x κ' := ⟨(f 110 17 (by omega) (by omega)).trans h.1, fun k hk => (f 120 k (by omega) (by omega)).trans (h.2 k hk)⟩
section IBY
variable {n a : Nat} {x : Nat → Int} {μ κ : ivM}
/-! the model's small steps -/
theorem ip_here (hn : n ≤ 96) (h : ip_mt n x κ) (g : ip_at a κ) : f_X10_here κ = some (if a < n then x a else -1, κ) := by
  unfold f_X10_here
  simp only [iv_let]
  rw [if_pos g.2, h.1, g.1]
  by_cases c : a < n
  · rw [if_neg (by omega), iv_ck_pos (by omega), Int.toNat_natCast, h.2 a c, if_pos c]
  · rw [if_pos (by omega), if_neg c]
theorem ip_here_no (g : κ 110 19 ≠ -9) : f_X10_here κ = some (-1, κ) := by
  unfold f_X10_here
  simp only [iv_let]
  rw [if_neg g]
theorem ip_fail (g : ip_at a κ) : f_X10_fail κ = some (0, iv_upd κ 110 19 a) := by
  unfold f_X10_fail
  simp only [iv_let]
  rw [if_pos g.2, g.1]
theorem ip_fail_no (g : κ 110 19 ≠ -9) : f_X10_fail κ = some (0, iv_upd κ 110 19 (κ 110 19)) := by
  unfold f_X10_fail
  simp only [iv_let]
  rw [if_neg g]
theorem ip_figure_yes (hn : n ≤ 96) (h : ip_mt n x κ) (g : ip_at a κ) {al v : Nat} (hal : al < 2147483648) (ha : a < n) (hv : x a = 48 + v) (hv9 : v ≤ 9) (hb : al.testBit v = true) : f_X10_figure al κ = some ((v : Int), iv_upd κ 110 18 ((a + 1 : Nat) : Int)) := by
  unfold f_X10_figure
  simp only [iv_let]
  rw [ip_here hn h g, iv_bnd_some, if_pos ha, hv, iv_wr_id (by omega) (by omega), show (48 : Int) + (v : Int) - 48 = (v : Int) by omega, ib_in, iv_bnd_some, ib_iz, if_pos (by omega), iv_bit hal (by omega), hb, if_pos rfl, if_neg (by decide), g.1, iv_wr_succ (by omega)]
theorem ip_figure_no (hn : n ≤ 96) (hx : ∀ k, k < n → 0 ≤ x k ∧ x k < 256) (h : ip_mt n x κ) (g : ip_at a κ) {al : Nat} (hal : al < 2147483648) (hno : ∀ v : Nat, a < n → x a = 48 + v → v ≤ 9 → al.testBit v = false) : f_X10_figure al κ = some (0, iv_upd κ 110 19 a) := by
  unfold f_X10_figure
  simp only [iv_let]
  rw [ip_here hn h g, iv_bnd_some]
  by_cases ha : a < n
  · have hxa := hx a ha
    rw [if_pos ha, iv_wr_id (by omega) (by omega), ib_in, iv_bnd_some, ib_iz]
    by_cases c : 0 ≤ x a - 48 ∧ x a - 48 ≤ 9
    · obtain ⟨v, hv⟩ : ∃ v : Nat, x a - 48 = v := ⟨(x a - 48).toNat, by omega⟩
      rw [if_pos c, hv, iv_bit hal (by omega), hno v ha (by omega) (by omega), if_pos (show (if false = true then (1 : Int) else 0) = 0 from rfl), ip_fail g]; rfl
    · rw [if_neg c, ip_fail g]; rfl
  · rw [if_neg ha, ib_in, iv_bnd_some, ib_iz, if_neg (by
      intro c
      have : iv_wr (-1 - 48) = -49 := iv_wr_id (by omega) (by omega)
      omega), ip_fail g]; rfl
theorem ip_figure_flt {al : Int} (g : κ 110 19 ≠ -9) : f_X10_figure al κ = some (0, iv_upd κ 110 19 (κ 110 19)) := by
  unfold f_X10_figure
  simp only [iv_let]
  rw [ip_here_no g, iv_bnd_some, ib_in, iv_bnd_some, ib_iz, if_neg (by
      intro c
      have : iv_wr (-1 - 48) = -49 := iv_wr_id (by omega) (by omega)
      omega), ip_fail_no g]; rfl
/-- whom a person doesn't know -/
def ip_un (κ : ivM) (T p : Nat) : Nat := ib_set (fun t => !(κ 113 t).toNat.testBit p) T
theorem ip_unknown {T p : Nat} (hT : T ≤ 8) (hp : p < 31) (h5 : κ 110 5 = T) (hk : ∀ t, t < T → 0 ≤ κ 113 t ∧ κ 113 t < 2147483648) : f_X10_unknown p κ = some (((ip_un κ T p : Nat) : Int), κ) := by
  have key : ∀ (d t m : Nat), t + d = T → d < m → lp_X10_unknown_4 p m (ib_set (fun t => !(κ 113 t).toNat.testBit p) t) t κ = some (((ip_un κ T p : Nat) : Int), κ) := by
    intro d
    induction d with
    | zero =>
      intro t m ht hm
      obtain ⟨m, rfl⟩ : ∃ q, m = q + 1 := ⟨m - 1, by omega⟩
      unfold lp_X10_unknown_4
      rw [h5, if_pos (by omega), show t = T by omega]; rfl
    | succ d ih =>
      intro t m ht hm
      obtain ⟨m, rfl⟩ : ∃ q, m = q + 1 := ⟨m - 1, by omega⟩
      obtain ⟨k0, k1⟩ := hk t (by omega)
      unfold lp_X10_unknown_4
      simp only [iv_let]
      have ek : κ 113 t = ((κ 113 t).toNat : Int) := by omega
      rw [h5, if_neg (by omega), iv_ck_pos (by omega), Int.toNat_natCast, ek, iv_bit (by omega) (by omega), iv_wr_succ (by omega), ← ih (t + 1) m (by omega) (by omega)]
      cases hb : (κ 113 t).toNat.testBit p
      · rw [if_pos (show (if false = true then (1 : Int) else 0) = 0 from rfl), ib_set_t (f := fun t => !(κ 113 t).toNat.testBit p) (k := t) (by first | (rw [hb]; rfl) | (dsimp only; rw [hb]; rfl)) (by omega)]
      · rw [if_neg (by decide), ib_set_f0 (f := fun t => !(κ 113 t).toNat.testBit p) (k := t) (by first | (rw [hb]; rfl) | (dsimp only; rw [hb]; rfl)) (by omega)]
  exact key T 0 iv_fuel (by omega) (by unfold iv_fuel; omega)
def ip_op (κ : ivM) (T P : Nat) : Nat := ib_set (fun p => !Nat.beq (ip_un κ T p) 0) P
theorem ip_open {T P : Nat} (hT : T ≤ 8) (hP : P ≤ 6) (h5 : κ 110 5 = T) (h6 : κ 110 6 = P) (hk : ∀ t, t < T → 0 ≤ κ 113 t ∧ κ 113 t < 2147483648) : f_X10_open κ = some (((ip_op κ T P : Nat) : Int), κ) := by
  have key : ∀ (d p m : Nat), p + d = P → d < m → lp_X10_open_4 m (ib_set (fun p => !Nat.beq (ip_un κ T p) 0) p) p κ = some (((ip_op κ T P : Nat) : Int), κ) := by
    intro d
    induction d with
    | zero =>
      intro p m hp hm
      obtain ⟨m, rfl⟩ : ∃ q, m = q + 1 := ⟨m - 1, by omega⟩
      unfold lp_X10_open_4
      rw [h6, if_pos (by omega), show p = P by omega]; rfl
    | succ d ih =>
      intro p m hp hm
      obtain ⟨m, rfl⟩ : ∃ q, m = q + 1 := ⟨m - 1, by omega⟩
      unfold lp_X10_open_4
      simp only [iv_let]
      rw [h6, if_neg (by omega), ip_unknown hT (by omega) h5 hk, iv_bnd_some, iv_wr_succ (by omega), ← ih (p + 1) m (by omega) (by omega)]
      by_cases c : ip_un κ T p = 0
      · rw [if_pos (by omega), ib_set_f0 (f := fun p => !Nat.beq (ip_un κ T p) 0) (k := p) (by first | (rw [c]; rfl) | (dsimp only; rw [c]; rfl)) (by omega)]
      · have hb : Nat.beq (ip_un κ T p) 0 = false := by
          cases hh : Nat.beq (ip_un κ T p) 0
          · rfl
          · exact absurd (Nat.eq_of_beq_eq_true hh) c
        rw [if_neg (by omega), ib_set_t (f := fun p => !Nat.beq (ip_un κ T p) 0) (k := p) (by first | (rw [hb]; rfl) | (dsimp only; rw [hb]; rfl)) (by omega)]
  exact key P 0 iv_fuel (by omega) (by unfold iv_fuel; omega)
theorem ip_un_bit {T p t : Nat} : (ip_un κ T p).testBit t = true ↔ t < T ∧ (κ 113 t).toNat.testBit p = false := by
  unfold ip_un
  rw [ib_set_bit, Bool.and_eq_true, decide_eq_true_eq, Bool.not_eq_true']
theorem ip_op_bit {T P p : Nat} : (ip_op κ T P).testBit p = true ↔ p < P ∧ ∃ t, t < T ∧ (κ 113 t).toNat.testBit p = false := by
  unfold ip_op
  rw [ib_set_bit, Bool.and_eq_true, decide_eq_true_eq, Bool.not_eq_true']
  refine and_congr_right fun _ => ?_
  constructor
  · intro h
    have h0 : ip_un κ T p ≠ 0 := fun c => by rw [c] at h; cases h
    obtain ⟨t, ht⟩ := ib_some_bit h0
    exact ⟨t, ip_un_bit.mp ht⟩
  · rintro ⟨t, h1, h2⟩
    cases hh : Nat.beq (ip_un κ T p) 0
    · rfl
    · have h3 := ip_un_bit.mpr ⟨h1, h2⟩
      rw [Nat.eq_of_beq_eq_true hh, Nat.zero_testBit] at h3
      cases h3
/-! pairs -/
theorem ip_sum_lt {f : Nat → Nat} {b : Nat} : ∀ T, (∀ t, t < T → f t ≤ b) → (ib_sum f T < T * b ↔ ∃ t, t < T ∧ f t < b)
  | 0, _ => by
    constructor
    · intro h
      have h : 0 < 0 * b := h
      omega
    · rintro ⟨t, h, _⟩; omega
  | T + 1, hf => by
    have ih := ip_sum_lt (f := f) (b := b) T (fun t ht => hf t (by omega))
    have hle := ib_sumS_le (f := f) (b := b) T (fun t ht => hf t (by omega))
    have hT := hf T (by omega)
    show ib_sum f T + f T < (T + 1) * b ↔ _
    rw [Nat.succ_mul]
    constructor
    · intro h
      by_cases c : f T < b
      · exact ⟨T, by omega, c⟩
      · obtain ⟨t, h1, h2⟩ := ih.mp (by omega)
        exact ⟨t, by omega, h2⟩
    · rintro ⟨t, h1, h2⟩
      by_cases c : t = T
      · subst c; omega
      · have := ih.mpr ⟨t, by omega, h2⟩
        omega
theorem ip_pc_lt {P S : Nat} (hP : P ≤ 6) (hS : S < 2 ^ P) : ib_pc S < P ↔ ∃ p, p < P ∧ S.testBit p = false := by
  constructor
  · intro h
    rcases Classical.em (∃ p, p < P ∧ S.testBit p = false) with c | c
    · exact c
    · exfalso
      have : S = 2 ^ P - 1 := by
        apply Nat.eq_of_testBit_eq
        intro i
        rw [Nat.testBit_two_pow_sub_one]
        by_cases hi : i < P
        · rw [decide_eq_true hi]
          cases hb : S.testBit i
          · exact absurd ⟨i, hi, hb⟩ c
          · rfl
        · rw [decide_eq_false hi]
          exact Nat.testBit_lt_two_pow (Nat.lt_of_lt_of_le hS (Nat.pow_le_pow_right (by omega) (by omega)))
      rw [this, ib_pc_all P (by omega)] at h
      omega
  · rintro ⟨p, h1, h2⟩
    refine (ib_pc_n P (by omega) S hS).2 ?_
    rcases Nat.lt_or_ge S (2 ^ P - 1) with c | c
    · exact c
    · exfalso
      have : S = 2 ^ P - 1 := by omega
      rw [this, Nat.testBit_two_pow_sub_one, decide_eq_true h1] at h2
      cases h2
/-! the class's small steps -/
theorem ip_isTold_yes {T : Nat} {c : Int} (hT : T ≤ 8) (h4 : μ 5 4 = T) (h : ∃ t, t < T ∧ μ 6 t = c) : f_X7_isTold c μ = some (1, μ) := by
  have key : ∀ (d t m : Nat), t + d = T → d < m → (∃ o, t ≤ o ∧ o < T ∧ μ 6 o = c) → lp_X7_isTold_2 c (fun (μ8 : ivM) => some (0, μ8)) m t μ = some (1, μ) := by
    intro d
    induction d with
    | zero => intro t m ht hm ⟨o, h1, h2, _⟩; omega
    | succ d ih =>
      intro t m ht hm ⟨o, h1, h2, h3⟩
      obtain ⟨m, rfl⟩ : ∃ q, m = q + 1 := ⟨m - 1, by omega⟩
      unfold lp_X7_isTold_2
      rw [h4, if_neg (by omega), if_neg (by omega), iv_ck_pos (by omega), Int.toNat_natCast, iv_wr_succ (by omega)]
      by_cases e : μ 6 t = c
      · rw [if_pos e]
      · rw [if_neg e]
        refine ih (t + 1) m (by omega) (by omega) ⟨o, ?_, h2, h3⟩
        by_cases q : o = t
        · subst q; exact absurd h3 e
        · omega
  obtain ⟨t, h1, h2⟩ := h
  exact key T 0 iv_fuel (by omega) (by unfold iv_fuel; omega) ⟨t, by omega, h1, h2⟩
theorem ip_isTold_no {T : Nat} {c : Int} (hT : T ≤ 8) (h4 : μ 5 4 = T) (h : ∀ t, t < T → μ 6 t ≠ c) : f_X7_isTold c μ = some (0, μ) := by
  have key : ∀ (d t m : Nat), t + d = T → d < m → lp_X7_isTold_2 c (fun (μ8 : ivM) => some (0, μ8)) m t μ = some (0, μ) := by
    intro d
    induction d with
    | zero =>
      intro t m ht hm
      obtain ⟨m, rfl⟩ : ∃ q, m = q + 1 := ⟨m - 1, by omega⟩
      unfold lp_X7_isTold_2
      rw [h4, if_pos (by omega)]
    | succ d ih =>
      intro t m ht hm
      obtain ⟨m, rfl⟩ : ∃ q, m = q + 1 := ⟨m - 1, by omega⟩
      unfold lp_X7_isTold_2
      rw [h4, if_neg (by omega), if_neg (by omega), iv_ck_pos (by omega), Int.toNat_natCast, iv_wr_succ (by omega), if_neg (h t (by omega))]
      exact ih (t + 1) m (by omega) (by omega)
  exact key T 0 iv_fuel (by omega) (by unfold iv_fuel; omega)
theorem ip_canLearn_yes {T p : Nat} (hT : T ≤ 8) (hp : p < 31) (h4 : μ 5 4 = T) {f : Nat → Nat} (hf : ∀ t, t < T → μ 7 t = (f t : Nat) ∧ f t < 2147483648) (h : ∃ t, t < T ∧ (f t).testBit p = false) : f_X7_canLearn p μ = some (1, μ) := by
  have key : ∀ (d t m : Nat), t + d = T → d < m → (∃ o, t ≤ o ∧ o < T ∧ (f o).testBit p = false) → lp_X7_canLearn_2 p (fun (μ11 : ivM) => some (0, μ11)) m t μ = some (1, μ) := by
    intro d
    induction d with
    | zero => intro t m ht hm ⟨o, h1, h2, _⟩; omega
    | succ d ih =>
      intro t m ht hm ⟨o, h1, h2, h3⟩
      obtain ⟨m, rfl⟩ : ∃ q, m = q + 1 := ⟨m - 1, by omega⟩
      obtain ⟨g1, g2⟩ := hf t (by omega)
      unfold lp_X7_canLearn_2
      rw [h4, if_neg (by omega), if_neg (by omega), iv_ck_pos (by omega), Int.toNat_natCast, g1, ib_has g2 (by omega), iv_bnd_some, ib_iz, iv_wr_succ (by omega)]
      cases e : (f t).testBit p
      · rw [if_neg (by decide)]
      · rw [if_pos rfl]
        refine ih (t + 1) m (by omega) (by omega) ⟨o, ?_, h2, h3⟩
        by_cases q : o = t
        · subst q; rw [e] at h3; cases h3
        · omega
  obtain ⟨t, h1, h2⟩ := h
  exact key T 0 iv_fuel (by omega) (by unfold iv_fuel; omega) ⟨t, by omega, h1, h2⟩
theorem ip_canLearn_no {T p : Nat} (hT : T ≤ 8) (hp : p < 31) (h4 : μ 5 4 = T) {f : Nat → Nat} (hf : ∀ t, t < T → μ 7 t = (f t : Nat) ∧ f t < 2147483648) (h : ∀ t, t < T → (f t).testBit p = true) : f_X7_canLearn p μ = some (0, μ) := by
  have key : ∀ (d t m : Nat), t + d = T → d < m → lp_X7_canLearn_2 p (fun (μ11 : ivM) => some (0, μ11)) m t μ = some (0, μ) := by
    intro d
    induction d with
    | zero =>
      intro t m ht hm
      obtain ⟨m, rfl⟩ : ∃ q, m = q + 1 := ⟨m - 1, by omega⟩
      unfold lp_X7_canLearn_2
      rw [h4, if_pos (by omega)]
    | succ d ih =>
      intro t m ht hm
      obtain ⟨m, rfl⟩ : ∃ q, m = q + 1 := ⟨m - 1, by omega⟩
      obtain ⟨g1, g2⟩ := hf t (by omega)
      unfold lp_X7_canLearn_2
      rw [h4, if_neg (by omega), if_neg (by omega), iv_ck_pos (by omega), Int.toNat_natCast, g1, ib_has g2 (by omega), iv_bnd_some, ib_iz, iv_wr_succ (by omega), h t (by omega), if_pos rfl]
      exact ih (t + 1) m (by omega) (by omega)
  exact key T 0 iv_fuel (by omega) (by unfold iv_fuel; omega)
theorem ip_tp_N {T : Nat} (h4 : μ 5 4 = T) : f_X7_takePart 78 μ = some (if T < 8 then 1 else 0, iv_upd (iv_upd (iv_upd μ 5 7 3) 5 8 0) 5 9 0) := by
  unfold f_X7_takePart
  simp only [iv_let]
  rw [if_neg (by decide), if_pos trivial, iv_upd_nk (by omega), iv_upd_nk (by omega), iv_upd_nk (by omega), h4]
  by_cases c : T < 8
  · rw [if_neg (by omega), if_pos c, iv_ck_pos (Or.inr trivial)]
  · rw [if_pos (by omega), if_neg c, iv_ck_pos (Or.inl trivial)]
theorem ip_tp_P {P : Nat} (h5 : μ 5 5 = P) : f_X7_takePart 80 μ = some (if P < 6 then 1 else 0, iv_upd μ 5 7 4) := by
  unfold f_X7_takePart
  simp only [iv_let]
  rw [if_neg (by decide), if_neg (by decide), if_pos trivial, iv_upd_nk (by omega), h5]
  by_cases c : P < 6
  · rw [if_neg (by omega), if_pos c, iv_ck_pos (Or.inr trivial)]
  · rw [if_pos (by omega), if_neg c, iv_ck_pos (Or.inl trivial)]
theorem ip_tp_K {T P pr : Nat} (hT : T ≤ 8) (hP : P ≤ 6) (h4 : μ 5 4 = T) (h5 : μ 5 5 = P) (h6 : μ 5 6 = pr) : f_X7_takePart 75 μ = some (if pr < T * P then 1 else 0, iv_upd μ 5 7 5) := by
  have hTP : T * P ≤ 8 * 6 := Nat.mul_le_mul hT hP
  unfold f_X7_takePart
  simp only [iv_let]
  rw [if_pos trivial, iv_upd_nk (by omega), iv_upd_nk (by omega), iv_upd_nk (by omega), h4, h5, h6, show (T : Int) * (P : Int) = ((T * P : Nat) : Int) by rw [Int.natCast_mul], iv_wr_nat (by omega)]
  by_cases c : pr < T * P
  · rw [if_neg (by omega), if_pos c, iv_ck_pos (Or.inr trivial)]
  · rw [if_pos (by omega), if_neg c, iv_ck_pos (Or.inl trivial)]
theorem ip_tp_o {b : Int} (h1 : b ≠ 75) (h2 : b ≠ 78) (h3 : b ≠ 80) : f_X7_takePart b μ = some (0, μ) := by
  unfold f_X7_takePart
  rw [if_neg h1, if_neg h2, if_neg h3]
theorem ip_tp_01 {T P pr : Nat} {b : Int} (hT : T ≤ 8) (hP : P ≤ 6) (h4 : μ 5 4 = T) (h5 : μ 5 5 = P) (h6 : μ 5 6 = pr) : ∃ r ν, f_X7_takePart b μ = some (r, ν) ∧ (r = 0 ∨ r = 1) := by
  by_cases c1 : b = 75
  · subst c1
    refine ⟨_, _, ip_tp_K hT hP h4 h5 h6, ?_⟩
    split
    · exact Or.inr rfl
    · exact Or.inl rfl
  · by_cases c2 : b = 78
    · subst c2
      refine ⟨_, _, ip_tp_N h4, ?_⟩
      split
      · exact Or.inr rfl
      · exact Or.inl rfl
    · by_cases c3 : b = 80
      · subst c3
        refine ⟨_, _, ip_tp_P h5, ?_⟩
        split
        · exact Or.inr rfl
        · exact Or.inl rfl
      · exact ⟨0, μ, ip_tp_o c1 c2 c3, Or.inl rfl⟩
/-- a name ends: the state behind it -/
def ip_en (μ : ivM) (T : Nat) : ivM := iv_upd (iv_upd (iv_upd (iv_upd μ 6 T (μ 5 8)) 7 T 0) 5 4 ((T + 1 : Nat) : Int)) 5 7 2
theorem ip_endName_0 (h9 : μ 5 9 = 0) : f_X7_endName μ = some (0, μ) := by
  unfold f_X7_endName
  simp only [iv_let]
  rw [if_pos h9]
theorem ip_endName_no {T : Nat} (hT : T < 8) (h4 : μ 5 4 = T) (h : ∃ t, t < T ∧ μ 6 t = μ 5 8) : f_X7_endName μ = some (0, μ) := by
  unfold f_X7_endName
  simp only [iv_let]
  by_cases c : μ 5 9 = 0
  · rw [if_pos c]
  · rw [if_neg c, if_neg (by omega), if_neg (by omega), ip_isTold_yes (by omega) h4 h, iv_bnd_some, if_neg (by decide)]
theorem ip_endName_yes {T : Nat} (hT : T < 8) (h4 : μ 5 4 = T) (h9 : μ 5 9 ≠ 0) (h : ∀ t, t < T → μ 6 t ≠ μ 5 8) : f_X7_endName μ = some (1, ip_en μ T) := by
  unfold f_X7_endName ip_en
  simp only [iv_let]
  rw [if_neg h9, if_neg (by omega), if_neg (by omega), ip_isTold_no (by omega) h4 h, iv_bnd_some, if_pos rfl, iv_upd_na (a := 6) (a' := 5) (k' := 4) (by omega), iv_upd_na (a := 7) (a' := 5) (k' := 4) (by omega), iv_upd_na (a := 6) (a' := 5) (k' := 4) (by omega), h4, iv_ck_pos (by omega), iv_ck_pos (by omega), Int.toNat_natCast, iv_wr_succ (by omega)]
/-! a byte taken -/
theorem ip_at4 (hn : n ≤ 96) (h : ip_ct n x μ) (ha : a < n) : f_X8_at a μ = some (x a, μ) := by
  unfold f_X8_at
  simp only [iv_let]
  rw [if_neg (by omega), if_neg (by omega), iv_ck_pos (by omega), Int.toNat_natCast, h.2 a ha]
def ip_kF : ivM → Option (Int × ivM) := fun (μ10 : ivM) =>
    iv_let (fun (v16 : Int) (μ17 : ivM) =>
      iv_let (fun (v24 : Int) (μ25 : ivM) =>
        some (v24, μ25)) fun j20 =>
      if v16 = 0 then
        j20 (μ17 3 1) μ17
      else
        j20 (-9) μ17) fun j13 =>
    iv_let (fun (μ32 : ivM) =>
      j13 1 μ32) fun j29 =>
    if (μ10 5 7) = 2 then
      j29 μ10
    else
      iv_let (fun (μ39 : ivM) =>
        j13 0 μ39) fun j36 =>
      if (μ10 5 7) = 3 then
        iv_bnd (f_X7_endName μ10) fun r43 μ44 =>
        if r43 = 0 then
          j36 μ44
        else
          j29 μ44
      else
        j36 μ10
theorem ip_faultOf : f_X7_faultOf μ = lp_X7_faultOf_27 ip_kF iv_fuel 0 (iv_upd (iv_upd (iv_upd (iv_upd (iv_upd μ 5 3 0) 5 4 0) 5 5 0) 5 6 0) 5 7 0) := rfl
theorem ip_kF_2 (h : μ 5 7 = 2) : ip_kF μ = some (-9, μ) := by
  unfold ip_kF
  simp only [iv_let]
  rw [if_pos h, if_neg (by decide)]
theorem ip_kF_3 {r : Int} {ν : ivM} (h : μ 5 7 = 3) (he : f_X7_endName μ = some (r, ν)) : ip_kF μ = some (if r = 0 then ν 3 1 else -9, ν) := by
  unfold ip_kF
  simp only [iv_let]
  rw [if_neg (by omega), if_pos h, he, iv_bnd_some]
  by_cases c : r = 0
  · rw [if_pos c, if_pos c, if_pos trivial]
  · rw [if_neg c, if_neg c, if_neg (by decide)]
theorem ip_kF_o (h2 : μ 5 7 ≠ 2) (h3 : μ 5 7 ≠ 3) : ip_kF μ = some (μ 3 1, μ) := by
  unfold ip_kF
  simp only [iv_let]
  rw [if_neg h2, if_neg h3, if_pos trivial]
/-- one byte more, or the end -/
theorem ip_F_end (h : ip_ct n x μ) {m : Nat} (ha : n ≤ a) : lp_X7_faultOf_27 ip_kF (m + 1) a μ = ip_kF μ := by
  rw [lp_X7_faultOf_27, h.1, if_pos (by omega)]
theorem ip_F_bad (hn : n ≤ 96) (h : ip_ct n x μ) {m : Nat} {ν : ivM} (ha : a < n) (ht : f_X7_take (x a) μ = some (0, ν)) : lp_X7_faultOf_27 ip_kF (m + 1) a μ = some ((a : Int), ν) := by
  rw [lp_X7_faultOf_27, h.1, if_neg (by omega), ip_at4 hn h ha, iv_bnd_some, ht, iv_bnd_some, if_pos rfl]
theorem ip_F_good (hn : n ≤ 96) (h : ip_ct n x μ) {m : Nat} {ν : ivM} (ha : a < n) (ht : f_X7_take (x a) μ = some (1, ν)) : lp_X7_faultOf_27 ip_kF (m + 1) a μ = lp_X7_faultOf_27 ip_kF m ((a + 1 : Nat) : Int) ν := by
  rw [lp_X7_faultOf_27, h.1, if_neg (by omega), ip_at4 hn h ha, iv_bnd_some, ht, iv_bnd_some, if_neg (by decide), iv_wr_succ (by omega)]
theorem ip_take2 {b r : Int} {ν : ivM} (h : μ 5 7 = 2) (ht : f_X7_takePart b μ = some (r, ν)) (hr : r = 0 ∨ r = 1) : f_X7_take b μ = some (r, ν) := by
  unfold f_X7_take
  rw [if_neg (by omega), if_neg (by omega), if_pos h, ht, iv_bnd_some, iv_ck_pos hr]
theorem ip_take3 {b r : Int} {ν : ivM} (h : μ 5 7 = 3) (ht : f_X7_takeSound b μ = some (r, ν)) (hr : r = 0 ∨ r = 1) : f_X7_take b μ = some (r, ν) := by
  unfold f_X7_take
  rw [if_neg (by omega), if_neg (by omega), if_neg (by omega), if_pos h, ht, iv_bnd_some, iv_ck_pos hr]
theorem ip_take4 {b r : Int} {ν : ivM} (h : μ 5 7 = 4) (ht : f_X7_takeBear b μ = some (r, ν)) (hr : r = 0 ∨ r = 1) : f_X7_take b μ = some (r, ν) := by
  unfold f_X7_take
  rw [if_neg (by omega), if_neg (by omega), if_neg (by omega), if_neg (by omega), if_pos h, ht, iv_bnd_some, iv_ck_pos hr]
theorem ip_take5 {b r : Int} {ν : ivM} (h : μ 5 7 = 5) (ht : f_X7_takeKnower b μ = some (r, ν)) (hr : r = 0 ∨ r = 1) : f_X7_take b μ = some (r, ν) := by
  unfold f_X7_take
  rw [if_neg (by omega), if_neg (by omega), if_neg (by omega), if_neg (by omega), if_neg (by omega), if_pos h, ht, iv_bnd_some, iv_ck_pos hr]
theorem ip_take6 {b r : Int} {ν : ivM} (h : μ 5 7 = 6) (ht : f_X7_takeKnown b μ = some (r, ν)) (hr : r = 0 ∨ r = 1) : f_X7_take b μ = some (r, ν) := by
  unfold f_X7_take
  rw [if_neg (by omega), if_neg (by omega), if_neg (by omega), if_neg (by omega), if_neg (by omega), if_neg (by omega), if_pos h, ht, iv_bnd_some, iv_ck_pos hr]
/-- a byte that is no sound, behind a name -/
theorem ip_sound_no {b : Int} (hb : 0 ≤ b ∧ b < 256) (hs : ¬ (97 ≤ b ∧ b ≤ 102)) (he : f_X7_endName μ = some (0, μ)) : f_X7_takeSound b μ = some (0, μ) := by
  unfold f_X7_takeSound
  simp only [iv_let]
  rw [iv_wr_id (x := b - 97) (by omega) (by omega), he, iv_bnd_some, if_pos rfl, iv_ck_pos (Or.inl trivial)]
  by_cases c : b - 97 < 0
  · rw [if_pos c]
  · rw [if_neg c, if_neg (by omega)]
theorem ip_sound_part {b r : Int} {ν κ : ivM} (hb : 0 ≤ b ∧ b < 256) (hs : ¬ (97 ≤ b ∧ b ≤ 102)) (he : f_X7_endName μ = some (1, ν)) (hp : f_X7_takePart b ν = some (r, κ)) (hr : r = 0 ∨ r = 1) : f_X7_takeSound b μ = some (r, κ) := by
  unfold f_X7_takeSound
  simp only [iv_let]
  rw [iv_wr_id (x := b - 97) (by omega) (by omega), he, iv_bnd_some, if_neg (show ¬ (1 : Int) = 0 by decide), hp, iv_bnd_some]
  have key : (if r = 0 then iv_ck (True ∨ (0 : Int) = 1) (some ((0 : Int), κ)) else iv_ck ((1 : Int) = 0 ∨ True) (some ((1 : Int), κ))) = some (r, κ) := by
    rcases hr with rfl | rfl
    · rw [if_pos rfl, iv_ck_pos (Or.inl trivial)]
    · rw [if_neg (by decide), iv_ck_pos (Or.inr trivial)]
  rw [key]
  by_cases c : b - 97 < 0
  · rw [if_pos c]
  · rw [if_neg c, if_neg (by omega)]
/-- a name that is ended by what comes behind it -/
theorem ip_F_en (hn : n ≤ 96) (hx : ∀ k, k < n → 0 ≤ x k ∧ x k < 256) (h : ip_ct n x μ) {T P pr m : Nat} (hT : T < 8) (hP : P ≤ 6) (h7 : μ 5 7 = 3) (h5 : μ 5 5 = P) (h6 : μ 5 6 = pr) (he : f_X7_endName μ = some (1, ip_en μ T)) (hs : a < n → ¬ (97 ≤ x a ∧ x a ≤ 102)) :
    lp_X7_faultOf_27 ip_kF (m + 1) a μ = lp_X7_faultOf_27 ip_kF (m + 1) a (ip_en μ T) := by
  have e7 : ip_en μ T 5 7 = 2 := iv_upd_at
  have hct : ip_ct n x (ip_en μ T) := by
    unfold ip_en
    refine ⟨?_, fun k hk => ?_⟩
    · rw [iv_upd_na (by omega), iv_upd_na (by omega), iv_upd_na (by omega), iv_upd_na (by omega)]; exact h.1
    · rw [iv_upd_na (by omega), iv_upd_na (by omega), iv_upd_na (by omega), iv_upd_na (by omega)]; exact h.2 k hk
  by_cases ha : a < n
  · obtain ⟨r, ν, hp, hr⟩ := ip_tp_01 (μ := ip_en μ T) (T := T + 1) (P := P) (pr := pr) (b := x a) (by omega) hP (by unfold ip_en; rw [iv_upd_nk (by omega), iv_upd_at]) (by unfold ip_en; rw [iv_upd_nk (by omega), iv_upd_nk (by omega), iv_upd_na (by omega), iv_upd_na (by omega)]; exact h5) (by unfold ip_en; rw [iv_upd_nk (by omega), iv_upd_nk (by omega), iv_upd_na (by omega), iv_upd_na (by omega)]; exact h6)
    have t1 := ip_take3 h7 (ip_sound_part (hx a ha) (hs ha) he hp hr) hr
    have t2 := ip_take2 e7 hp hr
    rcases hr with rfl | rfl
    · rw [ip_F_bad hn h ha t1, ip_F_bad hn hct ha t2]
    · rw [ip_F_good hn h ha t1, ip_F_good hn hct ha t2]
  · rw [ip_F_end h (by omega), ip_F_end hct (by omega), ip_kF_3 h7 he, ip_kF_2 e7, if_neg (by decide)]
end IBY
