/-! IN HOW MANY WAYS -/
def ib_gv (al : Nat → Nat) (n : Nat) : Nat → Nat → Nat
  | 0, _ => 1
  | m + 1, S => ib_sum (fun k => if S.testBit k && (al m).testBit k then ib_gv al n m (iv_nd S (2 ^ k)) else 0) n
theorem ib_pc_nd : ∀ S, S < 256 → ∀ k, k < 8 → S.testBit k = true → ib_pc (iv_nd S (2 ^ k)) + 1 = ib_pc S ∧ iv_nd S (2 ^ k) < S := by decide +kernel
theorem ib_pc_or : ∀ S, S < 256 → ∀ k, k < 8 → S.testBit k = false → ib_pc (S ||| 1 <<< k) = ib_pc S + 1 ∧ iv_nd (S ||| 1 <<< k) (2 ^ k) = S ∧ (S ||| 1 <<< k).testBit k = true := by decide +kernel
theorem ib_pc_pos : ∀ S, S < 256 → 0 < S → 0 < ib_pc S := by decide +kernel
theorem ib_pc_n : ∀ n, n < 9 → ∀ S, S < 2 ^ n → ib_pc S ≤ n ∧ (S < 2 ^ n - 1 → ib_pc S < n) := by decide +kernel
theorem ib_pc_all : ∀ n, n < 9 → ib_pc (2 ^ n - 1) = n := by decide +kernel
theorem ib_pc_sum : ∀ n, n < 9 → ∀ S, S < 2 ^ n → ib_sum (fun i => if S.testBit i then 1 else 0) n = ib_pc S := by decide +kernel
theorem ib_or_lt : ∀ n, n < 9 → ∀ S, S < 2 ^ n → ∀ k, k < n → S ||| 1 <<< k < 2 ^ n := by decide +kernel
theorem ib_gv_le {al : Nat → Nat} {n : Nat} (hn : n ≤ 8) : ∀ m S, ib_gv al n m S ≤ 8 ^ m
  | 0, _ => Nat.le_refl 1
  | m + 1, S => by
    have h := ib_sum_le (f := fun k => if S.testBit k && (al m).testBit k then ib_gv al n m (iv_nd S (2 ^ k)) else 0) (b := 8 ^ m) (fun k => by
      split
      · exact ib_gv_le hn m _
      · exact Nat.zero_le _) n
    have : n * 8 ^ m ≤ 8 * 8 ^ m := Nat.mul_le_mul_right _ hn
    rw [Nat.pow_succ]
    unfold ib_gv
    omega
theorem ib_gv_le8 {al : Nat → Nat} {n m S : Nat} (hn : n ≤ 8) (hm : m ≤ 8) : ib_gv al n m S ≤ 16777216 := Nat.le_trans (ib_gv_le hn m S) (Nat.pow_le_pow_right (n := 8) (j := 8) (by omega) hm)
theorem ib_pc_le8 {S : Nat} : ib_pc S ≤ 8 := ib_sum_le (b := 1) (fun i => by split <;> omega) 8
theorem ib_sum_upd {f g : Nat → Nat} {j c : Nat} : ∀ n, j < n → (∀ i, i < n → i ≠ j → f i = g i) → f j = g j + c → ib_sum f n = ib_sum g n + c
  | 0, h, _, _ => by omega
  | n + 1, h, h1, h2 => by
    show ib_sum f n + f n = ib_sum g n + g n + c
    by_cases e : j = n
    · subst e
      rw [ib_sum_ext j (fun i hi => h1 i (by omega) (by omega)), h2]
      omega
    · rw [ib_sum_upd n (by omega) (fun i hi => h1 i (by omega)) h2, h1 n (by omega) (fun c => e c.symm)]
      omega
theorem ib_sum_mono {f g : Nat → Nat} : ∀ n, (∀ i, i < n → f i ≤ g i) → ib_sum f n ≤ ib_sum g n
  | 0, _ => Nat.le_refl _
  | n + 1, h => by
    have := ib_sum_mono n (fun i hi => h i (by omega))
    have := h n (by omega)
    show ib_sum f n + f n ≤ ib_sum g n + g n
    omega
theorem ib_sum_zero {f : Nat → Nat} (n : Nat) (h : ∀ i, i < n → f i = 0) : ib_sum f n = 0 := by
  rw [ib_sum_ext (g := fun _ => 0) n h]
  have := ib_sum_le (f := fun _ => 0) (b := 0) (fun _ => Nat.le_refl _) n
  omega
/-- how far the class has got: sets below A are done, and of A the first j things -/
def ib_gc (A j S k : Nat) : Bool := decide (iv_nd S (2 ^ k) < A) || (decide (iv_nd S (2 ^ k) = A) && decide (k < j))
def ib_gp (al : Nat → Nat) (n A j S : Nat) : Nat := ib_sum (fun k => if S.testBit k && (al (ib_pc S - 1)).testBit k && ib_gc A j S k then ib_gv al n (ib_pc S - 1) (iv_nd S (2 ^ k)) else 0) n
section IBG
variable {al : Nat → Nat} {n : Nat}
theorem ib_gv_s {S : Nat} (h : 0 < ib_pc S) : ib_gv al n (ib_pc S) S = ib_sum (fun k => if S.testBit k && (al (ib_pc S - 1)).testBit k then ib_gv al n (ib_pc S - 1) (iv_nd S (2 ^ k)) else 0) n := by
  obtain ⟨m, hm⟩ : ∃ m, ib_pc S = m + 1 := ⟨ib_pc S - 1, by omega⟩
  rw [hm]; rfl
theorem ib_gp_full (hn : n ≤ 8) {A S : Nat} (hS : S < 256) (h0 : 0 < S) (hA : S ≤ A) {j : Nat} : ib_gp al n A j S = ib_gv al n (ib_pc S) S := by
  rw [ib_gv_s (ib_pc_pos S hS h0)]
  unfold ib_gp
  apply ib_sum_ext
  intro k hk
  cases hb : S.testBit k
  · rfl
  · have := (ib_pc_nd S hS k (by omega) hb).2
    unfold ib_gc
    rw [decide_eq_true (show iv_nd S (2 ^ k) < A by omega), Bool.true_or, Bool.and_true]
theorem ib_gp_le (hn : n ≤ 8) {A j S : Nat} (hS : S < 256) (h0 : 0 < S) : ib_gp al n A j S ≤ ib_gv al n (ib_pc S) S := by
  rw [ib_gv_s (ib_pc_pos S hS h0)]
  unfold ib_gp
  apply ib_sum_mono
  intro k hk
  cases S.testBit k && (al (ib_pc S - 1)).testBit k
  · rw [Bool.false_and]; exact Nat.le_refl _
  · rw [Bool.true_and, if_pos rfl]
    split <;> omega
theorem ib_gp_next {A S : Nat} : ib_gp al n A n S = ib_gp al n (A + 1) 0 S := by
  unfold ib_gp
  apply ib_sum_ext
  intro k hk
  have : ib_gc A n S k = ib_gc (A + 1) 0 S k := by
    unfold ib_gc
    rw [decide_eq_true hk, Bool.and_true, decide_eq_false (show ¬ k < 0 by omega), Bool.and_false, Bool.or_false]
    by_cases c : iv_nd S (2 ^ k) < A
    · rw [decide_eq_true c, decide_eq_true (show iv_nd S (2 ^ k) < A + 1 by omega)]; rfl
    · rw [decide_eq_false c, Bool.false_or]
      exact decide_eq_decide.mpr (by omega)
  rw [this]
theorem ib_gp_zero {S : Nat} : ib_gp al n 0 0 S = 0 := by
  unfold ib_gp
  apply ib_sum_zero
  intro k hk
  rw [show ib_gc 0 0 S k = false by unfold ib_gc; simp, Bool.and_false]; rfl
/-- a set of which nothing comes -/
theorem ib_gp_skip (hn : n ≤ 8) {A S : Nat} (hS : S < 256) (hA : ib_gv al n (ib_pc A) A = 0) : ib_gp al n A 0 S = ib_gp al n (A + 1) 0 S := by
  unfold ib_gp
  apply ib_sum_ext
  intro k hk
  cases hb : S.testBit k
  · rfl
  · have hp := (ib_pc_nd S hS k (by omega) hb).1
    by_cases e : iv_nd S (2 ^ k) = A
    · rw [e, show ib_pc S - 1 = ib_pc A by rw [← e]; omega, hA]
      simp
    · have : ib_gc A 0 S k = ib_gc (A + 1) 0 S k := by
        unfold ib_gc
        rw [decide_eq_false (show ¬ k < 0 by omega), Bool.and_false, Bool.or_false, Bool.and_false, Bool.or_false]
        exact decide_eq_decide.mpr (by omega)
      rw [this]
/-- a thing that comes to nothing -/
theorem ib_gp_same (hn : n ≤ 8) {A j S : Nat} (hS : S < 256) (hj : j < n) (h : ¬ (S.testBit j = true ∧ iv_nd S (2 ^ j) = A ∧ (al (ib_pc A)).testBit j = true)) : ib_gp al n A (j + 1) S = ib_gp al n A j S := by
  unfold ib_gp
  apply ib_sum_ext
  intro k hk
  cases hb : S.testBit k
  · rfl
  · have hp := (ib_pc_nd S hS k (by omega) hb).1
    by_cases e : k = j ∧ iv_nd S (2 ^ k) = A
    · have ha : (al (ib_pc S - 1)).testBit k = false := by
        cases hc : (al (ib_pc S - 1)).testBit k
        · rfl
        · rw [e.2] at hp
          rw [show ib_pc S - 1 = ib_pc A by omega] at hc
          exact absurd ⟨e.1 ▸ hb, e.1 ▸ e.2, e.1 ▸ hc⟩ h
      rw [ha]
      simp
    · have : ib_gc A (j + 1) S k = ib_gc A j S k := by
        unfold ib_gc
        by_cases e2 : iv_nd S (2 ^ k) = A
        · have : k ≠ j := fun c => e ⟨c, e2⟩
          congr 2
          exact decide_eq_decide.mpr (by omega)
        · rw [decide_eq_false e2, Bool.false_and, Bool.false_and]
      rw [this]
theorem ib_gp_more (hn : n ≤ 8) {A j S : Nat} (hS : S < 256) (hj : j < n) (h : S.testBit j = true ∧ iv_nd S (2 ^ j) = A ∧ (al (ib_pc A)).testBit j = true) : ib_gp al n A (j + 1) S = ib_gp al n A j S + ib_gv al n (ib_pc A) A := by
  have hp := (ib_pc_nd S hS j (by omega) h.1).1
  have hpa : ib_pc S - 1 = ib_pc A := by rw [h.2.1] at hp; omega
  unfold ib_gp
  refine ib_sum_upd n hj (fun k hk hkj => ?_) ?_
  · have : ib_gc A (j + 1) S k = ib_gc A j S k := by
      unfold ib_gc
      congr 2
      exact decide_eq_decide.mpr (by omega)
    rw [this]
  · have e1 : ib_gc A (j + 1) S j = true := by
      unfold ib_gc
      rw [h.2.1, decide_eq_true rfl, decide_eq_true (show j < j + 1 by omega)]; simp
    have e2 : ib_gc A j S j = false := by
      unfold ib_gc
      rw [h.2.1, decide_eq_false (show ¬ A < A by omega), decide_eq_false (show ¬ j < j by omega)]; simp
    rw [e1, e2, hpa, h.1, h.2.1, h.2.2]
    simp
/-- the class's cells, so far -/
def ib_gi (al : Nat → Nat) (n A j : Nat) (μ : ivM) : Prop := μ 109 0 = 1 ∧ ∀ S, 0 < S → S < 2 ^ n → μ 109 S = (ib_gp al n A j S : Nat)
theorem ib_gi_A (hn : n ≤ 8) {A j : Nat} {μ : ivM} (h : ib_gi al n A j μ) (hA : A < 2 ^ n) : μ 109 A = (ib_gv al n (ib_pc A) A : Nat) := by
  have := ib_p8 hn
  by_cases h0 : A = 0
  · subst h0; rw [h.1]; rfl
  · rw [h.2 A (by omega) hA, ib_gp_full hn (by omega) (by omega) (Nat.le_refl _)]
theorem ib_giveNext_lp (hn : n ≤ 8) (hal : ∀ i, al i < 256) {A : Nat} (hA : A < 2 ^ n - 1) : ∀ (d j q : Nat) (μ : ivM), j + d = n → d < q → (∀ i, i < n → μ 108 i = (al i : Nat)) → ib_gi al n A j μ →
    ∃ ν, lp_X6_giveNext_22 n A (ib_pc A) (fun (κ : ivM) => some (0, κ)) q j μ = some (0, ν) ∧ ib_fr 109 109 μ ν ∧ ib_gi al n A n ν := by
  have h8 := ib_p8 hn
  have hpn := (ib_pc_n n (by omega) A (by omega)).2 hA
  intro d
  induction d with
  | zero =>
    intro j q μ hj hq hm h
    obtain ⟨q, rfl⟩ : ∃ m, q = m + 1 := ⟨q - 1, by omega⟩
    unfold lp_X6_giveNext_22
    rw [if_pos (by omega)]
    exact ⟨μ, rfl, ib_fr.rfl, by rw [show n = j by omega] at h ⊢; exact h⟩
  | succ d ih =>
    intro j q μ hj hq hm h
    obtain ⟨q, rfl⟩ : ∃ m, q = m + 1 := ⟨q - 1, by omega⟩
    have ha := hal (ib_pc A)
    have skip : (∀ S, S < 2 ^ n → ¬ (S.testBit j = true ∧ iv_nd S (2 ^ j) = A ∧ (al (ib_pc A)).testBit j = true)) → ∃ ν, lp_X6_giveNext_22 n A (ib_pc A) (fun (κ : ivM) => some (0, κ)) q ((j + 1 : Nat) : Int) μ = some (0, ν) ∧ ib_fr 109 109 μ ν ∧ ib_gi al n A n ν := fun hs =>
      ih (j + 1) q μ (by omega) (by omega) hm ⟨h.1, fun S h0 hS => by rw [h.2 S h0 hS, ib_gp_same hn (by omega) (by omega) (hs S hS)]⟩
    unfold lp_X6_giveNext_22
    simp only [iv_let]
    rw [if_neg (by omega), if_neg (by omega), iv_ck_pos (by omega), Int.toNat_natCast, hm _ hpn, ib_has (by omega) (by omega), iv_bnd_some, ib_iz, ib_has (by omega) (by omega), iv_bnd_some, ib_iz, iv_wr_succ (by omega)]
    cases h1 : (al (ib_pc A)).testBit j
    · rw [if_neg (by decide)]
      exact skip (fun S _ c => by rw [h1] at c; cases c.2.2)
    · rw [if_pos rfl]
      cases h2 : A.testBit j
      · have hor := ib_pc_or A (by omega) j (by omega) h2
        have hlt := ib_or_lt n (by omega) A (by omega) j (by omega)
        have b1 := ib_gp_le (al := al) hn (A := A) (j := j) (S := A ||| 1 <<< j) (by omega) (by
          rcases Nat.eq_zero_or_pos (A ||| 1 <<< j) with e | e
          · rw [e, Nat.zero_testBit] at hor; cases hor.2.2
          · exact e)
        have b2 := ib_gv_le8 (al := al) (n := n) (m := ib_pc (A ||| 1 <<< j)) (S := A ||| 1 <<< j) hn ib_pc_le8
        have b3 := ib_gv_le8 (al := al) (n := n) (m := ib_pc A) (S := A) hn ib_pc_le8
        have hpos : 0 < A ||| 1 <<< j := by
          rcases Nat.eq_zero_or_pos (A ||| 1 <<< j) with e | e
          · rw [e, Nat.zero_testBit] at hor; cases hor.2.2
          · exact e
        rw [if_neg (by decide), ib_orb (by omega) (by omega), iv_ck_pos (by omega), iv_ck_pos (by omega), iv_ck_pos (by omega), Int.toNat_natCast, Int.toNat_natCast, ib_gi_A hn h (by omega), h.2 _ hpos hlt, iv_wr_id (by omega) (by omega)]
        obtain ⟨ν, e, f, g⟩ := ih (j + 1) q (iv_upd μ 109 (A ||| 1 <<< j) (((ib_gp al n A j (A ||| 1 <<< j) : Nat) : Int) + (ib_gv al n (ib_pc A) A : Nat))) (by omega) (by omega) (fun i hi => by rw [iv_upd_na (by omega)]; exact hm i hi)
          ⟨by rw [iv_upd_nk (by omega)]; exact h.1, fun S h0 hS => by
            by_cases c : S = A ||| 1 <<< j
            · subst c
              rw [iv_upd_at, ib_gp_more hn (by omega) (by omega) ⟨hor.2.2, hor.2.1, h1⟩]
              omega
            · rw [iv_upd_nk c, h.2 S h0 hS, ib_gp_same hn (by omega) (by omega) (fun c2 => c (by
                rw [← c2.2.1]
                apply Nat.eq_of_testBit_eq
                intro i
                rw [Nat.testBit_or, iv_nd_bit, Nat.one_shiftLeft, Nat.testBit_two_pow]
                by_cases e : j = i
                · subst e; rw [c2.1]; simp
                · rw [decide_eq_false e]; simp))]⟩
        exact ⟨ν, e, (ib_fr.rfl.upd (by omega)).tr f, g⟩
      · rw [if_pos rfl]
        exact skip (fun S _ c => by
          have := iv_nd_bit S (2 ^ j) j
          rw [c.2.1, h2, Nat.testBit_two_pow, decide_eq_true rfl] at this
          simp at this)
theorem ib_fit48 (hn : n ≤ 8) (hal : ∀ i, al i < 256) {l1 : Int} (k : ivM → Option (Int × ivM)) (hl1 : l1 = n) : ∀ (d A q : Nat) (μ : ivM), A + d = 2 ^ n - 1 → d < q → (∀ i, i < n → μ 108 i = (al i : Nat)) → ib_gi al n A 0 μ →
    ∃ ν, lp_X6_fit_48 l1 ((2 ^ n - 1 : Nat) : Int) k q A μ = k ν ∧ ib_fr 109 109 μ ν ∧ ib_gi al n (2 ^ n - 1) 0 ν := by
  subst hl1
  have h8 := ib_p8 hn
  intro d
  induction d with
  | zero =>
    intro A q μ hA hq hm h
    obtain ⟨q, rfl⟩ : ∃ m, q = m + 1 := ⟨q - 1, by omega⟩
    unfold lp_X6_fit_48
    rw [if_pos (by omega)]
    exact ⟨μ, rfl, ib_fr.rfl, by rw [show A = 2 ^ n - 1 by omega] at h; exact h⟩
  | succ d ih =>
    intro A q μ hA hq hm h
    obtain ⟨q, rfl⟩ : ∃ m, q = m + 1 := ⟨q - 1, by omega⟩
    unfold lp_X6_fit_48
    simp only [iv_let]
    rw [if_neg (by omega), iv_ck_pos (by omega), Int.toNat_natCast, ib_gi_A hn h (by omega), iv_wr_succ (by omega)]
    by_cases c : ib_gv al n (ib_pc A) A = 0
    · rw [if_pos (by omega)]
      exact ih (A + 1) q μ (by omega) (by omega) hm ⟨h.1, fun S h0 hS => by rw [h.2 S h0 hS, ib_gp_skip hn (by omega) c]⟩
    · rw [if_neg (by omega)]
      have hpn := (ib_pc_n n (by omega) A (by omega)).2 (by omega)
      obtain ⟨ν, e, f, g⟩ := ib_giveNext_lp hn hal (A := A) (by omega) n 0 iv_fuel μ (by omega) (by unfold iv_fuel; omega) hm h
      rw [show ((0 : Nat) : Int) = 0 from rfl] at e
      unfold f_X6_giveNext
      simp only [iv_let]
      rw [ib_bitCount (by omega), iv_bnd_some, ib_isSet (by omega), iv_bnd_some, if_neg (by decide), if_pos (by omega), e, iv_bnd_some]
      obtain ⟨κ, e2, f2, g2⟩ := ih (A + 1) q ν (by omega) (by omega) (fun i hi => by rw [f _ _ (by omega)]; exact hm i hi) ⟨g.1, fun S h0 hS => by rw [g.2 S h0 hS, ib_gp_next]⟩
      exact ⟨κ, e2, f.tr f2, g2⟩
theorem ib_fit21 (hn : n ≤ 8) {l1 : Int} (k : ivM → Option (Int × ivM)) : ∀ (d A q : Nat) (μ : ivM), A + d = 2 ^ n → d < q → (∀ S, 0 < S → S < A → μ 109 S = 0) →
    ∃ ν, lp_X6_fit_21 l1 ((2 ^ n - 1 : Nat) : Int) k q A μ = k ν ∧ ib_fr 109 109 μ ν ∧ ∀ S, 0 < S → S < 2 ^ n → ν 109 S = 0 := by
  have h8 := ib_p8 hn
  intro d
  induction d with
  | zero =>
    intro A q μ hA hq h
    obtain ⟨q, rfl⟩ : ∃ m, q = m + 1 := ⟨q - 1, by omega⟩
    unfold lp_X6_fit_21
    have := Nat.pow_pos (n := n) (show 0 < 2 by omega)
    rw [if_pos (by omega)]
    exact ⟨μ, rfl, ib_fr.rfl, fun S h0 hS => h S h0 (by omega)⟩
  | succ d ih =>
    intro A q μ hA hq h
    obtain ⟨q, rfl⟩ : ∃ m, q = m + 1 := ⟨q - 1, by omega⟩
    unfold lp_X6_fit_21
    rw [if_neg (by omega), iv_ck_pos (by omega), Int.toNat_natCast, iv_wr_succ (by omega)]
    obtain ⟨ν, e, f, g⟩ := ih (A + 1) q (iv_upd μ 109 A 0) (by omega) (by omega) (fun S h0 hS => by
      by_cases c : S = A
      · subst c; exact iv_upd_at
      · rw [iv_upd_nk c]; exact h S h0 (by omega))
    exact ⟨ν, e, (ib_fr.rfl.upd (by omega)).tr f, g⟩
theorem ib_fit (hn : n ≤ 8) (h1 : 1 ≤ n) (hal : ∀ i, al i < 256) {μ : ivM} (hm : ∀ i, i < n → μ 108 i = (al i : Nat)) :
    ∃ ν, f_X6_fit n μ = some (((ib_gv al n n (2 ^ n - 1) : Nat) : Int), ν) ∧ ib_fr 109 109 μ ν ∧ ∀ S, S < 2 ^ n → ν 109 S = (ib_gv al n (ib_pc S) S : Nat) := by
  have h8 := ib_p8 hn
  have hp0 := Nat.pow_pos (n := n) (show 0 < 2 by omega)
  have hp1 : 2 ≤ 2 ^ n := Nat.pow_le_pow_right (n := 2) (i := 1) (by omega) h1
  unfold f_X6_fit
  simp only [iv_let]
  rw [if_neg (by omega), if_pos (by omega), ib_all1 hn]
  obtain ⟨ν, e, f, g⟩ := ib_fit21 hn (l1 := n) (fun (μ14 : ivM) =>
        lp_X6_fit_48 n ((2 ^ n - 1 : Nat) : Int) (fun (μ29 : ivM) =>
          iv_ck (0 ≤ ((2 ^ n - 1 : Nat) : Int) ∧ ((2 ^ n - 1 : Nat) : Int) < 256) <|
          some ((μ29 109 ((2 ^ n - 1 : Nat) : Int).toNat), μ29)) iv_fuel 0 (iv_upd μ14 109 0 1)) (2 ^ n - 1) 1 iv_fuel μ (by omega) (by unfold iv_fuel; omega) (fun S a b => by omega)
  rw [show ((1 : Nat) : Int) = 1 from rfl] at e
  rw [e]
  obtain ⟨κ, e2, f2, g2⟩ := ib_fit48 hn hal (l1 := n) (fun (μ29 : ivM) =>
          iv_ck (0 ≤ ((2 ^ n - 1 : Nat) : Int) ∧ ((2 ^ n - 1 : Nat) : Int) < 256) <|
          some ((μ29 109 ((2 ^ n - 1 : Nat) : Int).toNat), μ29)) rfl (2 ^ n - 1) 0 iv_fuel (iv_upd ν 109 0 1) (by omega) (by unfold iv_fuel; omega) (fun i hi => by rw [iv_upd_na (by omega), f _ _ (by omega)]; exact hm i hi)
    ⟨iv_upd_at, fun S h0 hS => by rw [iv_upd_nk (by omega), g S h0 hS, ib_gp_zero]; rfl⟩
  rw [show ((0 : Nat) : Int) = 0 from rfl] at e2
  have hS : ∀ S, S < 2 ^ n → κ 109 S = (ib_gv al n (ib_pc S) S : Nat) := fun S hS => by
    by_cases h0 : S = 0
    · subst h0; rw [g2.1]; rfl
    · rw [g2.2 S (by omega) hS, ib_gp_full hn (by omega) (by omega) (by omega)]
  rw [e2, iv_ck_pos (by omega), Int.toNat_natCast, hS _ (by omega), ib_pc_all n (by omega)]
  exact ⟨κ, rfl, (f.upd (by omega)).tr f2, hS⟩
/-! the model's -/
theorem ib_giv29 (hn : n ≤ 8) {S : Nat} (hS : S < 2 ^ n) {μ : ivM} (k : Int → ivM → Option (Int × ivM)) : ∀ (d j q : Nat), j + d = n → d < q →
    lp_X10_givings_29 n S k q (((ib_sum (fun i => if S.testBit i then 1 else 0) j : Nat) : Int) - 1) j μ = k (((ib_pc S : Nat) : Int) - 1) μ := by
  have h8 := ib_p8 hn
  intro d
  induction d with
  | zero =>
    intro j q hj hq
    obtain ⟨q, rfl⟩ : ∃ m, q = m + 1 := ⟨q - 1, by omega⟩
    unfold lp_X10_givings_29
    rw [if_pos (by omega), show j = n by omega, ib_pc_sum n (by omega) S hS]
  | succ d ih =>
    intro j q hj hq
    obtain ⟨q, rfl⟩ : ∃ m, q = m + 1 := ⟨q - 1, by omega⟩
    have hb := ib_sum_le (f := fun i => if S.testBit i then 1 else 0) (b := 1) (fun i => by split <;> omega) j
    have hnext := ih (j + 1) q (by omega) (by omega)
    rw [show ib_sum (fun i => if S.testBit i then 1 else 0) (j + 1) = ib_sum (fun i => if S.testBit i then 1 else 0) j + (if S.testBit j then 1 else 0) from rfl] at hnext
    unfold lp_X10_givings_29
    rw [if_neg (by omega), iv_bit (by omega) (by omega), iv_wr_succ (by omega), ← hnext]
    congr 1
    split
    · rw [iv_wr_id (by omega) (by omega)]; omega
    · rw [iv_wr_id (by omega) (by omega)]; omega
/-- what the model has of one set -/
def ib_gt (al : Nat → Nat) (n S k : Nat) : Nat := if S.testBit k && (al (ib_pc S - 1)).testBit k then ib_gv al n (ib_pc S - 1) (iv_nd S (2 ^ k)) else 0
theorem ib_giv53 (hn : n ≤ 8) (hal : ∀ i, al i < 256) {S : Nat} (hS : S < 2 ^ n) (h0 : 0 < S) (k : ivM → Option (Int × ivM)) : ∀ (d j q : Nat) (μ : ivM), j + d = n → d < q → (∀ i, i < n → μ 129 i = (al i : Nat)) → (∀ R, R < S → μ 128 R = (ib_gv al n (ib_pc R) R : Nat)) → μ 128 S = (ib_sum (ib_gt al n S) j : Nat) →
    ∃ ν, lp_X10_givings_53 n S (((ib_pc S : Nat) : Int) - 1) k q j μ = k ν ∧ ib_fr 128 128 μ ν ∧ ∀ R, R ≤ S → ν 128 R = (ib_gv al n (ib_pc R) R : Nat) := by
  have h8 := ib_p8 hn
  have hpp := ib_pc_pos S (by omega) h0
  have hpn := (ib_pc_n n (by omega) S hS).1
  have egv : ib_gv al n (ib_pc S) S = ib_sum (ib_gt al n S) n := ib_gv_s hpp
  intro d
  induction d with
  | zero =>
    intro j q μ hj hq hm hR h
    obtain ⟨q, rfl⟩ : ∃ m, q = m + 1 := ⟨q - 1, by omega⟩
    unfold lp_X10_givings_53
    rw [if_pos (by omega)]
    refine ⟨μ, rfl, ib_fr.rfl, fun R hR2 => ?_⟩
    by_cases e : R = S
    · rw [e, h, egv, show j = n by omega]
    · exact hR R (by omega)
  | succ d ih =>
    intro j q μ hj hq hm hR h
    obtain ⟨q, rfl⟩ : ∃ m, q = m + 1 := ⟨q - 1, by omega⟩
    have ha := hal (ib_pc S - 1)
    have bt : ∀ k, ib_gt al n S k ≤ 16777216 := fun k => by
      unfold ib_gt
      split
      · exact ib_gv_le8 hn (by have := ib_pc_le8 (S := S); omega)
      · omega
    have bs := ib_sum_le (f := ib_gt al n S) bt j
    have bj := bt j
    have bs2 : ib_sum (ib_gt al n S) j ≤ 8 * 16777216 := Nat.le_trans bs (Nat.mul_le_mul_right _ (by omega))
    have go : ∀ v : Nat, v = ib_gt al n S j → ∃ ν, lp_X10_givings_53 n S (((ib_pc S : Nat) : Int) - 1) k q (iv_wr ((j : Int) + 1)) (iv_upd μ 128 S (iv_wr (((ib_sum (ib_gt al n S) j : Nat) : Int) + (v : Int)))) = k ν ∧ ib_fr 128 128 μ ν ∧ ∀ R, R ≤ S → ν 128 R = (ib_gv al n (ib_pc R) R : Nat) := by
      intro v hv
      rw [iv_wr_succ (by omega), iv_wr_id (by omega) (by omega)]
      obtain ⟨ν, e, f, g⟩ := ih (j + 1) q (iv_upd μ 128 S (((ib_sum (ib_gt al n S) j : Nat) : Int) + (v : Int))) (by omega) (by omega) (fun i hi => by rw [iv_upd_na (by omega)]; exact hm i hi) (fun R hR2 => by rw [iv_upd_nk (by omega)]; exact hR R hR2) (by
        rw [iv_upd_at, hv]
        show _ = ((ib_sum (ib_gt al n S) j + ib_gt al n S j : Nat) : Int)
        omega)
      exact ⟨ν, e, (ib_fr.rfl.upd (by omega)).tr f, g⟩
    unfold lp_X10_givings_53
    simp only [iv_let]
    have c256 : 0 ≤ (S : Int) ∧ (S : Int) < 256 := by omega
    have c8 : 0 ≤ ((ib_pc S : Nat) : Int) - 1 ∧ ((ib_pc S : Nat) : Int) - 1 < 8 := by omega
    simp only [iv_ck_pos c256, iv_ck_pos c8]
    rw [if_neg (by omega), if_neg (by omega), Int.toNat_natCast, h, iv_bit (by omega) (by omega), ib_io, show (((ib_pc S : Nat) : Int) - 1).toNat = ib_pc S - 1 by omega, hm _ (by omega), iv_bit (by omega) (by omega), ib_io, ib_shl1 (by omega)]
    cases h1 : S.testBit j
    · rw [if_neg (by decide)]
      have g0 := go 0 (by unfold ib_gt; rw [h1]; rfl)
      rw [show ((0 : Nat) : Int) = 0 from rfl] at g0
      exact g0
    · rw [if_pos rfl]
      have hnd := ib_pc_nd S (by omega) j (by omega) h1
      have h2j : 2 ^ j < 256 := (show 2 ^ j < 2 ^ 8 from Nat.pow_lt_pow_right (by omega) (by omega))
      cases h2 : (al (ib_pc S - 1)).testBit j
      · rw [if_neg (by decide)]
        have g0 := go 0 (by unfold ib_gt; rw [h2, Bool.and_false]; rfl)
        rw [show ((0 : Nat) : Int) = 0 from rfl] at g0
        exact g0
      · rw [if_pos rfl, iv_andn (by omega) (by omega), iv_ck_pos (by omega), Int.toNat_natCast, hR _ hnd.2]
        exact go _ (by unfold ib_gt; rw [h1, h2, show ib_pc (iv_nd S (2 ^ j)) = ib_pc S - 1 by omega]; rfl)
theorem ib_giv2 (hn : n ≤ 8) (hal : ∀ i, al i < 256) (k : ivM → Option (Int × ivM)) : ∀ (d S q : Nat) (μ : ivM), S + d = 2 ^ n → d < q → (∀ i, i < n → μ 129 i = (al i : Nat)) → (∀ R, R < S → μ 128 R = (ib_gv al n (ib_pc R) R : Nat)) →
    ∃ ν, lp_X10_givings_2 n k q S μ = k ν ∧ ib_fr 128 128 μ ν ∧ ∀ R, R < 2 ^ n → ν 128 R = (ib_gv al n (ib_pc R) R : Nat) := by
  have h8 := ib_p8 hn
  intro d
  induction d with
  | zero =>
    intro S q μ hS hq hm hR
    obtain ⟨q, rfl⟩ : ∃ m, q = m + 1 := ⟨q - 1, by omega⟩
    unfold lp_X10_givings_2
    rw [ib_shl1 (by omega), if_pos (by omega)]
    exact ⟨μ, rfl, ib_fr.rfl, fun R h => hR R (by omega)⟩
  | succ d ih =>
    intro S q μ hS hq hm hR
    obtain ⟨q, rfl⟩ : ∃ m, q = m + 1 := ⟨q - 1, by omega⟩
    unfold lp_X10_givings_2
    simp only [iv_let]
    rw [ib_shl1 (by omega), if_neg (by omega), iv_ck_pos (by omega), iv_ck_pos (by omega), Int.toNat_natCast]
    have e29 : ∀ (kk : Int → ivM → Option (Int × ivM)) (ν : ivM), lp_X10_givings_29 n S kk iv_fuel (-1) 0 ν = kk (((ib_pc S : Nat) : Int) - 1) ν := fun kk ν => ib_giv29 hn (by omega) kk n 0 iv_fuel (by omega) (by unfold iv_fuel; omega)
    rw [e29, e29]
    by_cases h0 : S = 0
    · subst h0
      have e53 : ∀ (kk : ivM → Option (Int × ivM)) (x : Int) (ν : ivM), lp_X10_givings_53 n ((0 : Nat) : Int) x kk iv_fuel 0 ν = kk ν := by
        intro kk x ν
        unfold iv_fuel lp_X10_givings_53
        split
        · rfl
        · rw [if_pos (by omega)]
      rw [if_pos (by omega), e53, iv_wr_succ (by omega)]
      obtain ⟨ν, e, f, g⟩ := ih 1 q (iv_upd μ 128 0 1) (by omega) (by omega) (fun i hi => by rw [iv_upd_na (by omega)]; exact hm i hi) (fun R h => by rw [show R = 0 by omega, iv_upd_at]; rfl)
      exact ⟨ν, e, (ib_fr.rfl.upd (by omega)).tr f, g⟩
    · rw [if_neg (by omega)]
      obtain ⟨ν, e, f, g⟩ := ib_giv53 hn hal (S := S) (by omega) (by omega) (fun (μ35 : ivM) => lp_X10_givings_2 n k q (iv_wr ((S : Int) + 1)) μ35) n 0 iv_fuel (iv_upd μ 128 S 0) (by omega) (by unfold iv_fuel; omega) (fun i hi => by rw [iv_upd_na (by omega)]; exact hm i hi) (fun R h => by rw [iv_upd_nk (by omega)]; exact hR R h) iv_upd_at
      rw [show ((0 : Nat) : Int) = 0 from rfl] at e
      rw [e, iv_wr_succ (by omega)]
      obtain ⟨κ, e2, f2, g2⟩ := ih (S + 1) q ν (by omega) (by omega) (fun i hi => by rw [f _ _ (by omega), iv_upd_na (by omega)]; exact hm i hi) (fun R h => g R (by omega))
      exact ⟨κ, e2, ((ib_fr.rfl.upd (by omega)).tr f).tr f2, g2⟩
theorem ib_givings (hn : n ≤ 8) (hal : ∀ i, al i < 256) {μ : ivM} (hm : ∀ i, i < n → μ 129 i = (al i : Nat)) : ∃ ν, f_X10_givings n μ = some (((ib_gv al n n (2 ^ n - 1) : Nat) : Int), ν) ∧ ib_fr 128 128 μ ν := by
  have h8 := ib_p8 hn
  have hp0 := Nat.pow_pos (n := n) (show 0 < 2 by omega)
  unfold f_X10_givings
  rw [ib_all1 hn]
  obtain ⟨ν, e, f, g⟩ := ib_giv2 hn hal (fun (μ42 : ivM) =>
    iv_ck (0 ≤ ((2 ^ n - 1 : Nat) : Int) ∧ ((2 ^ n - 1 : Nat) : Int) < 256) <|
    some ((μ42 128 ((2 ^ n - 1 : Nat) : Int).toNat), μ42)) (2 ^ n) 0 iv_fuel μ (by omega) (by unfold iv_fuel; omega) hm (fun R h => by omega)
  rw [show ((0 : Nat) : Int) = 0 from rfl] at e
  rw [e, iv_ck_pos (by omega), Int.toNat_natCast, g _ (by omega), ib_pc_all n (by omega)]
  exact ⟨ν, rfl, f⟩
end IBG
