/-! WAYS, MAYBE, BREAKS -/
def ib_pm (n : Nat) : List Nat → Nat → Prop
  | [], _ => True
  | c :: cs, S => ∃ k, k < n ∧ S.testBit k = true ∧ c.testBit k = true ∧ ib_pm n cs (iv_nd S (2 ^ k))
def ib_ls (al : Nat → Nat) : Nat → List Nat
  | 0 => []
  | m + 1 => al m :: ib_ls al m
theorem ib_sum_pos {f : Nat → Nat} : ∀ n, 0 < ib_sum f n ↔ ∃ k, k < n ∧ 0 < f k
  | 0 => ⟨fun h => absurd h (Nat.lt_irrefl 0), fun ⟨k, h, _⟩ => by omega⟩
  | n + 1 => by
    have ih := ib_sum_pos (f := f) n
    show 0 < ib_sum f n + f n ↔ _
    constructor
    · intro h
      by_cases c : 0 < f n
      · exact ⟨n, by omega, c⟩
      · obtain ⟨k, h1, h2⟩ := ih.mp (by omega)
        exact ⟨k, by omega, h2⟩
    · rintro ⟨k, h1, h2⟩
      by_cases c : k = n
      · subst c; omega
      · have := ih.mpr ⟨k, by omega, h2⟩
        omega
theorem ib_gv_pos {al : Nat → Nat} {n : Nat} : ∀ m S, 0 < ib_gv al n m S ↔ ib_pm n (ib_ls al m) S
  | 0, _ => ⟨fun _ => trivial, fun _ => Nat.one_pos⟩
  | m + 1, S => by
    show 0 < ib_sum _ n ↔ ∃ k, k < n ∧ S.testBit k = true ∧ (al m).testBit k = true ∧ ib_pm n (ib_ls al m) (iv_nd S (2 ^ k))
    rw [ib_sum_pos]
    constructor
    · rintro ⟨k, h1, h2⟩
      cases ha : S.testBit k
      · rw [ha] at h2; exact absurd h2 (Nat.lt_irrefl 0)
      · cases hb : (al m).testBit k
        · rw [hb, Bool.and_false] at h2; exact absurd h2 (Nat.lt_irrefl 0)
        · rw [ha, hb] at h2
          exact ⟨k, h1, rfl.trans ha ▸ rfl, hb, (ib_gv_pos m _).mp h2⟩
    · rintro ⟨k, h1, h2, h3, h4⟩
      refine ⟨k, h1, ?_⟩
      rw [h2, h3]
      exact (ib_gv_pos m _).mpr h4
theorem ib_nd_comm (S a b : Nat) : iv_nd (iv_nd S (2 ^ a)) (2 ^ b) = iv_nd (iv_nd S (2 ^ b)) (2 ^ a) := by
  apply Nat.eq_of_testBit_eq
  intro i
  rw [iv_nd_bit, iv_nd_bit, iv_nd_bit, iv_nd_bit]
  cases S.testBit i <;> cases (2 ^ a).testBit i <;> cases (2 ^ b).testBit i <;> rfl
theorem ib_pm_swap {n a b : Nat} {l : List Nat} {S : Nat} (h : ib_pm n (a :: b :: l) S) : ib_pm n (b :: a :: l) S := by
  obtain ⟨k, h1, h2, h3, j, g1, g2, g3, g4⟩ := h
  rw [iv_nd_bit, Bool.and_eq_true, Bool.not_eq_true', Nat.testBit_two_pow, decide_eq_false_iff_not] at g2
  refine ⟨j, g1, g2.1, g3, k, h1, ?_, h3, ?_⟩
  · rw [iv_nd_bit, h2, Nat.testBit_two_pow, decide_eq_false (fun e => g2.2 e.symm)]; rfl
  · rw [ib_nd_comm]; exact g4
theorem ib_pm_perm {n : Nat} {l1 l2 : List Nat} (h : l1.Perm l2) : ∀ S, ib_pm n l1 S → ib_pm n l2 S := by
  induction h with
  | nil => exact fun _ h => h
  | cons a _ ih =>
    rintro S ⟨k, h1, h2, h3, h4⟩
    exact ⟨k, h1, h2, h3, ih _ h4⟩
  | swap a b l => exact fun S h => ib_pm_swap h
  | trans _ _ ih1 ih2 => exact fun S h => ih2 S (ih1 S h)
def ib_up1 (f : Nat → Nat) (j x : Nat) : Nat → Nat := fun i => if i = j then x else f i
theorem ib_ls_ext {f g : Nat → Nat} : ∀ m, (∀ i, i < m → f i = g i) → ib_ls f m = ib_ls g m
  | 0, _ => rfl
  | m + 1, h => by
    show f m :: ib_ls f m = g m :: ib_ls g m
    rw [h m (by omega), ib_ls_ext m (fun i hi => h i (by omega))]
theorem ib_ls_swap {f : Nat → Nat} {j x y : Nat} : ∀ m, j < m → (x :: ib_ls (ib_up1 f j y) m).Perm (y :: ib_ls (ib_up1 f j x) m)
  | 0, h => by omega
  | m + 1, h => by
    show (x :: ib_up1 f j y m :: ib_ls (ib_up1 f j y) m).Perm (y :: ib_up1 f j x m :: ib_ls (ib_up1 f j x) m)
    by_cases e : j = m
    · subst e
      rw [show ib_up1 f j y j = y from if_pos rfl, show ib_up1 f j x j = x from if_pos rfl, ib_ls_ext (f := ib_up1 f j y) (g := ib_up1 f j x) j (fun i hi => by unfold ib_up1; rw [if_neg (by omega), if_neg (by omega)])]
      exact List.Perm.swap _ _ _
    · rw [show ib_up1 f j y m = f m from if_neg (by omega), show ib_up1 f j x m = f m from if_neg (by omega)]
      exact (List.Perm.swap _ _ _).trans (((ib_ls_swap m (by omega)).cons (f m)).trans (List.Perm.swap _ _ _))
/-- one name given one thing: the same, told either way -/
theorem ib_may {al : Nat → Nat} {n j k : Nat} (hj : j < n) (hk : k < n) : 0 < ib_gv (ib_up1 al j (al j &&& 2 ^ k)) n n (2 ^ n - 1) ↔ (al j).testBit k = true ∧ 0 < ib_gv (ib_up1 (ib_up1 al j (al (n - 1))) (n - 1) (al j)) n (n - 1) (iv_nd (2 ^ n - 1) (2 ^ k)) := by
  obtain ⟨m, rfl⟩ : ∃ m, n = m + 1 := ⟨n - 1, by omega⟩
  rw [ib_gv_pos, ib_gv_pos, Nat.add_sub_cancel]
  have e1 : (ib_ls (ib_up1 al j (al j &&& 2 ^ k)) (m + 1)).Perm ((al j &&& 2 ^ k) :: ib_ls (ib_up1 al j (al m)) m) := by
    show (ib_up1 al j (al j &&& 2 ^ k) m :: ib_ls (ib_up1 al j (al j &&& 2 ^ k)) m).Perm _
    by_cases e : j = m
    · subst e
      rw [show ib_up1 al j (al j &&& 2 ^ k) j = al j &&& 2 ^ k from if_pos rfl, ib_ls_ext (f := ib_up1 al j (al j &&& 2 ^ k)) (g := ib_up1 al j (al j)) j (fun i hi => by unfold ib_up1; rw [if_neg (by omega), if_neg (by omega)])]
    · rw [show ib_up1 al j (al j &&& 2 ^ k) m = al m from if_neg (by omega)]
      exact ib_ls_swap m (by omega)
  have e2 : ib_ls (ib_up1 (ib_up1 al j (al m)) m (al j)) m = ib_ls (ib_up1 al j (al m)) m := ib_ls_ext m (fun i hi => if_neg (by omega))
  rw [e2]
  have hall : ∀ i, i < m + 1 → (2 ^ (m + 1) - 1).testBit i = true := fun i hi => by
    rw [Nat.testBit_two_pow_sub_one]; exact decide_eq_true hi
  constructor
  · intro h
    obtain ⟨i, h1, h2, h3, h4⟩ := ib_pm_perm e1 _ h
    rw [Nat.testBit_and, Bool.and_eq_true, Nat.testBit_two_pow, decide_eq_true_eq] at h3
    obtain ⟨h3, rfl⟩ := h3
    exact ⟨h3, h4⟩
  · rintro ⟨h1, h2⟩
    refine ib_pm_perm e1.symm _ ⟨k, hk, hall k hk, ?_, h2⟩
    rw [Nat.testBit_and, h1, Nat.testBit_two_pow, decide_eq_true rfl]; rfl
theorem ib_gv_mono {al be : Nat → Nat} {n : Nat} : ∀ m S, (∀ i, i < m → ∀ k, (al i).testBit k = true → (be i).testBit k = true) → ib_gv al n m S ≤ ib_gv be n m S
  | 0, _, _ => Nat.le_refl _
  | m + 1, S, h => by
    unfold ib_gv
    apply ib_sum_mono
    intro k hk
    cases S.testBit k
    · exact Nat.le_refl _
    · cases ha : (al m).testBit k
      · exact Nat.zero_le _
      · rw [h m (by omega) k ha]
        exact ib_gv_mono m _ (fun i hi => h i (by omega))
section IBW
variable {D : Int} {s : ivM}
theorem ib_isOld {p : Int} {μ : ivM} : f_X9_isOldHouse p μ = some (if 1 ≤ p ∧ p ≤ 8 then 1 else 0, μ) := by
  simp only [f_X9_isOldHouse, iv_let, iv_ck]
  grind
theorem ib_r109 : ∀ a k : Nat, 108 ≤ a → a ≤ 109 → ib_scr a k := fun a k _ _ => by unfold ib_scr; omega
theorem ib_r128 : ∀ a k : Nat, 128 ≤ a → a ≤ 129 → ib_scr a k := fun a k _ _ => by unfold ib_scr; omega
theorem ib_aw256 {n f : Nat} (hn : n ≤ 8) : ∀ i, ib_aw s n f i < 256 := fun i => Nat.lt_of_lt_of_le ib_aw_lt (ib_p8 hn)
def ib_W (s : ivM) (n f : Nat) : Nat := ib_gv (ib_aw s n f) n n (2 ^ n - 1)
theorem ib_waysWith (h : ib_inv D s) {n fl : Nat} (h1 : 1 ≤ n) (hn : n ≤ 8) (hfl : (fl : Int) ≤ s 110 26) {μ : ivM} (g : ib_ag s μ) : ∃ ν, f_X6_waysWith n fl μ = some (((ib_W s n fl : Nat) : Int), ν) ∧ ib_ag s ν := by
  obtain ⟨ν, e, f, gh⟩ := ib_hear h hn hfl g
  obtain ⟨κ, e2, f2, _⟩ := ib_fit hn h1 (ib_aw256 (s := s) (f := fl) hn) gh
  unfold f_X6_waysWith
  rw [e, iv_bnd_some, e2, iv_bnd_some]
  exact ⟨κ, rfl, g.fr ((f.mono (by omega)).tr (f2.mono (by omega))) ib_r109⟩
theorem ib_waysBy (h : ib_inv D s) {n fl : Nat} (hn : n ≤ 8) (hfl : (fl : Int) ≤ s 110 26) {μ : ivM} (g : ib_ag s μ) : ∃ ν, f_X10_waysBy n fl μ = some (((ib_W s n fl : Nat) : Int), ν) ∧ ib_ag s ν ∧ ∀ i, i < 8 → ν 129 i = (ib_aw s n fl i : Nat) := by
  have so := h.2.2.2.2
  unfold f_X10_waysBy
  obtain ⟨ν, e, f, gh⟩ := ib_ways2 hn (l2 := fl) (fun (μ4 : ivM) =>
    lp_X10_waysBy_27 n fl (fun (μ14 : ivM) =>
      iv_bnd (f_X10_givings n μ14) fun r17 μ18 =>
      some (r17, μ18)) iv_fuel 0 μ4) 8 0 iv_fuel μ (by omega) (by decide) (fun i hi => by omega)
  rw [show ((0 : Nat) : Int) = 0 from rfl] at e
  obtain ⟨κ, e2, f2, g2⟩ := ib_ways27 h hn hfl (fun (μ14 : ivM) =>
      iv_bnd (f_X10_givings n μ14) fun r17 μ18 =>
      some (r17, μ18)) fl 0 iv_fuel ν (by omega) (by unfold iv_fuel; have := so.2.1; omega) (g.fr f ib_r129) gh
  rw [show ((0 : Nat) : Int) = 0 from rfl] at e2
  obtain ⟨ξ, e3, f3⟩ := ib_givings hn (ib_aw256 (s := s) (f := fl) hn) (fun i hi => g2 i (by omega))
  rw [e, e2, e3]
  exact ⟨ξ, rfl, g.fr (((f.mono (l2 := 128) (h2 := 129) (by omega)).tr (f2.mono (by omega))).tr (f3.mono (by omega))) ib_r128, fun i hi => by rw [f3 _ _ (by omega)]; exact g2 i hi⟩
theorem iq_ways (h : ib_inv D s) {p : Int} : ib_q s (f_X9_ways p) (f_X10_ways p) := by
  have so := h.2.2.2.2
  unfold ib_q f_X9_ways f_X10_ways
  simp only [iv_let]
  rw [ib_isOld, iv_bnd_some, ib_iz]
  by_cases c : 1 ≤ p ∧ p ≤ 8
  · obtain ⟨n, rfl⟩ : ∃ t : Nat, p = t := ⟨p.toNat, by omega⟩
    obtain ⟨L, hL⟩ : ∃ L : Nat, s 110 26 = L := ⟨(s 110 26).toNat, by have := so.1; omega⟩
    obtain ⟨ν, e, g⟩ := ib_waysWith h (n := n) (fl := L) (by omega) (by omega) (by omega) (μ := s) ib_ag.rfl
    obtain ⟨κ, e2, g2, _⟩ := ib_waysBy h (n := n) (fl := L) (by omega) (by omega) g
    rw [if_pos c, so.2.2.1, hL, e, iv_bnd_some]
    refine ⟨_, ν, κ, rfl, ?_, g2⟩
    rw [ib_in, iv_bnd_some, ib_iz, if_pos c, g.f rfl, hL, e2, iv_bnd_some]
  · rw [if_neg c]
    refine ⟨_, s, s, rfl, ?_, ib_ag.rfl⟩
    rw [ib_in, iv_bnd_some, ib_iz, if_neg c]
/-! breaks -/
def ib_fb (s : ivM) (n : Nat) : Nat → Nat → Int
  | 0, _ => -9
  | d + 1, i => if ib_W s n (i + 1) = 0 then i else ib_fb s n d (i + 1)
theorem ib_W_anti {n f : Nat} : ib_W s n (f + 1) ≤ ib_W s n f := by
  unfold ib_W
  apply ib_gv_mono
  intro i _ k hk
  have : ib_aw s n (f + 1) i = if (s 126 f).toNat = i then ib_aw s n f i &&& (s 127 f).toNat else ib_aw s n f i := rfl
  rw [this] at hk
  split at hk
  · rw [Nat.testBit_and, Bool.and_eq_true] at hk; exact hk.1
  · exact hk
theorem ib_W_le {n f : Nat} : ∀ d, ib_W s n (f + d) ≤ ib_W s n f
  | 0 => Nat.le_refl _
  | d + 1 => Nat.le_trans ib_W_anti (ib_W_le d)
theorem ib_fb_none {n : Nat} : ∀ d i, 0 < ib_W s n (i + d) → ib_fb s n d i = -9
  | 0, _, _ => rfl
  | d + 1, i, h => by
    have h1 := ib_W_le (s := s) (n := n) (f := i + 1) d
    rw [show i + 1 + d = i + (d + 1) by omega] at h1
    unfold ib_fb
    rw [if_neg (by omega)]
    exact ib_fb_none d (i + 1) (by rw [show i + 1 + d = i + (d + 1) by omega]; exact h)
theorem ib_fbX_lp (h : ib_inv D s) {n : Nat} (h1 : 1 ≤ n) (hn : n ≤ 8) : ∀ (d i q : Nat) (μ : ivM), ((i + d : Nat) : Int) = s 110 26 → d < q → ib_ag s μ → ∃ ν, lp_X6_firstBreak_2 n q i μ = some (ib_fb s n d i, ν) ∧ ib_ag s ν := by
  have so := h.2.2.2.2
  have h16 := so.2.1
  intro d
  induction d with
  | zero =>
    intro i q μ hi hq g
    obtain ⟨q, rfl⟩ : ∃ m, q = m + 1 := ⟨q - 1, by omega⟩
    unfold lp_X6_firstBreak_2
    rw [g.c (a := 105) rfl, so.2.2.1, if_pos (by omega)]
    exact ⟨μ, rfl, g⟩
  | succ d ih =>
    intro i q μ hi hq g
    obtain ⟨q, rfl⟩ : ∃ m, q = m + 1 := ⟨q - 1, by omega⟩
    obtain ⟨ν, e, g2⟩ := ib_waysWith h (n := n) (fl := i + 1) h1 hn (by omega) g
    unfold lp_X6_firstBreak_2 ib_fb
    rw [g.c (a := 105) rfl, so.2.2.1, if_neg (by omega), iv_wr_succ (by omega), e, iv_bnd_some]
    by_cases c : ib_W s n (i + 1) = 0
    · rw [if_pos (by omega), if_pos c]
      exact ⟨ν, rfl, g2⟩
    · rw [if_neg (by omega), if_neg c]
      exact ih (i + 1) q ν (by omega) (by omega) g2
theorem ib_fbM_lp (h : ib_inv D s) {n : Nat} (hn : n ≤ 8) : ∀ (d i q : Nat) (μ : ivM), ((i + d : Nat) : Int) = s 110 26 → d < q → ib_ag s μ → ∃ ν, lp_X10_breaks_17 n q i μ = some (ib_fb s n d i, ν) ∧ ib_ag s ν := by
  have so := h.2.2.2.2
  have h16 := so.2.1
  intro d
  induction d with
  | zero =>
    intro i q μ hi hq g
    obtain ⟨q, rfl⟩ : ∃ m, q = m + 1 := ⟨q - 1, by omega⟩
    unfold lp_X10_breaks_17
    rw [g.f rfl, if_pos (by omega)]
    exact ⟨μ, rfl, g⟩
  | succ d ih =>
    intro i q μ hi hq g
    obtain ⟨q, rfl⟩ : ∃ m, q = m + 1 := ⟨q - 1, by omega⟩
    obtain ⟨ν, e, g2, _⟩ := ib_waysBy h (n := n) (fl := i + 1) hn (by omega) g
    unfold lp_X10_breaks_17 ib_fb
    rw [g.f rfl, if_neg (by omega), iv_wr_succ (by omega), e, iv_bnd_some]
    by_cases c : ib_W s n (i + 1) = 0
    · rw [if_pos (by omega), if_pos c]
      exact ⟨ν, rfl, g2⟩
    · rw [if_neg (by omega), if_neg c]
      exact ih (i + 1) q ν (by omega) (by omega) g2
theorem iq_breaks (h : ib_inv D s) {p : Int} : ib_q s (f_X9_breaks p) (f_X10_breaks p) := by
  have so := h.2.2.2.2
  have h16 := so.2.1
  unfold ib_q f_X9_breaks f_X10_breaks
  simp only [iv_let]
  rw [ib_isOld, iv_bnd_some, ib_iz]
  by_cases c : 1 ≤ p ∧ p ≤ 8
  · obtain ⟨n, rfl⟩ : ∃ t : Nat, p = t := ⟨p.toNat, by omega⟩
    obtain ⟨L, hL⟩ : ∃ L : Nat, s 110 26 = L := ⟨(s 110 26).toNat, by have := so.1; omega⟩
    unfold f_X6_firstBreak
    obtain ⟨κ, e2, g2⟩ := ib_fbX_lp h (n := n) (by omega) (by omega) L 0 iv_fuel s (by omega) (by unfold iv_fuel; omega) ib_ag.rfl
    obtain ⟨ξ, e3, g3⟩ := ib_fbM_lp h (n := n) (by omega) L 0 iv_fuel κ (by omega) (by unfold iv_fuel; omega) g2
    rw [show ((0 : Nat) : Int) = 0 from rfl] at e2 e3
    rw [if_pos c, e2, iv_bnd_some]
    refine ⟨_, κ, ξ, rfl, ?_, g3⟩
    rw [ib_in, iv_bnd_some, ib_iz, if_pos c, e3]
  · rw [if_neg c]
    refine ⟨_, s, s, rfl, ?_, ib_ag.rfl⟩
    rw [ib_in, iv_bnd_some, ib_iz, if_neg c]
/-! mayBe -/
def ib_mb (al : Nat → Nat) (n j k : Nat) : Bool := decide (0 < ib_gv (ib_up1 al j (al j &&& 2 ^ k)) n n (2 ^ n - 1))
theorem ib_all_bit {n k : Nat} (hk : k < n) : (2 ^ n - 1).testBit k = true := by rw [Nat.testBit_two_pow_sub_one]; exact decide_eq_true hk
theorem ib_xor_nd : ∀ S, S < 256 → ∀ k, k < 8 → S.testBit k = true → S ^^^ 2 ^ k = iv_nd S (2 ^ k) := by decide +kernel
theorem ib_mbX_lp {al : Nat → Nat} {n j : Nat} (hn : n ≤ 8) (hj : j < n) (hal : ∀ i, al i < 256) {μ : ivM} (hg : ∀ S, S < 2 ^ n → μ 109 S = (ib_gv (ib_up1 (ib_up1 al j (al (n - 1))) (n - 1) (al j)) n (ib_pc S) S : Nat)) : ∀ (d k q : Nat), k + d = n → d < q →
    lp_X6_thingsOf_80 n (al j) ((2 ^ n - 1 : Nat) : Int) q (ib_set (ib_mb al n j) k) k μ = some (((ib_set (ib_mb al n j) n : Nat) : Int), μ) := by
  have h8 := ib_p8 hn
  intro d
  induction d with
  | zero =>
    intro k q hk hq
    obtain ⟨q, rfl⟩ : ∃ m, q = m + 1 := ⟨q - 1, by omega⟩
    unfold lp_X6_thingsOf_80
    rw [if_pos (by omega), show k = n by omega]
  | succ d ih =>
    intro k q hk hq
    obtain ⟨q, rfl⟩ : ∃ m, q = m + 1 := ⟨q - 1, by omega⟩
    have ha := hal j
    have h2k : 2 ^ k < 256 := (show 2 ^ k < 2 ^ 8 from Nat.pow_lt_pow_right (by omega) (by omega))
    have hp := ib_pc_nd (2 ^ n - 1) (by omega) k (by omega) (ib_all_bit (by omega))
    rw [ib_pc_all n (by omega)] at hp
    have hm := ib_may (al := al) hj (show k < n by omega)
    unfold lp_X6_thingsOf_80
    simp only [iv_let]
    rw [if_neg (by omega), ib_has (by omega) (by omega), iv_bnd_some, ib_iz, ib_shl1 (by omega), iv_xor_nat (by omega) (by omega), ib_xor_nd _ (by omega) k (by omega) (ib_all_bit (by omega)), iv_ck_pos (by omega), Int.toNat_natCast, hg _ (by omega), iv_wr_succ (by omega), show ib_pc (iv_nd (2 ^ n - 1) (2 ^ k)) = n - 1 by omega, ← ih (k + 1) q (by omega) (by omega)]
    cases hb : (al j).testBit k
    · have : ib_mb al n j k = false := decide_eq_false (fun c => by rw [hm, hb] at c; cases c.1)
      rw [if_neg (by decide), ib_set_f this]
    · rw [if_pos rfl]
      by_cases c : 0 < ib_gv (ib_up1 (ib_up1 al j (al (n - 1))) (n - 1) (al j)) n (n - 1) (iv_nd (2 ^ n - 1) (2 ^ k))
      · have : ib_mb al n j k = true := decide_eq_true (hm.mpr ⟨hb, c⟩)
        rw [if_neg (by omega), ← ib_shl1 (by omega), ib_set_t this (by omega)]
      · have : ib_mb al n j k = false := decide_eq_false (fun c2 => c (hm.mp c2).2)
        rw [if_pos (by omega), ib_set_f this]
theorem ib_mbM_lp {al : Nat → Nat} {n j : Nat} (hn : n ≤ 8) (hj : j < n) (hal : ∀ i, al i < 256) : ∀ (d k q : Nat) (μ : ivM), k + d = n → d < q → (∀ i, i < n → i ≠ j → μ 129 i = (al i : Nat)) →
    ∃ ν, lp_X10_mayBe_51 n j (al j) q (ib_set (ib_mb al n j) k) k μ = some (((ib_set (ib_mb al n j) n : Nat) : Int), ν) ∧ ib_fr 128 129 μ ν := by
  intro d
  induction d with
  | zero =>
    intro k q μ hk hq hh
    obtain ⟨q, rfl⟩ : ∃ m, q = m + 1 := ⟨q - 1, by omega⟩
    unfold lp_X10_mayBe_51
    rw [if_pos (by omega), show k = n by omega]
    exact ⟨μ, rfl, ib_fr.rfl⟩
  | succ d ih =>
    intro k q μ hk hq hh
    obtain ⟨q, rfl⟩ : ∃ m, q = m + 1 := ⟨q - 1, by omega⟩
    have ha := hal j
    have h2k : 2 ^ k < 256 := (show 2 ^ k < 2 ^ 8 from Nat.pow_lt_pow_right (by omega) (by omega))
    obtain ⟨ν, e, f⟩ := ib_givings (al := ib_up1 al j (al j &&& 2 ^ k)) hn (fun i => by
      unfold ib_up1
      split
      · exact Nat.lt_of_le_of_lt Nat.and_le_left ha
      · exact hal i) (μ := iv_upd μ 129 j ((al j &&& 2 ^ k : Nat) : Int)) (fun i hi => by
      unfold ib_up1
      by_cases c : i = j
      · subst c; rw [iv_upd_at, if_pos rfl]
      · rw [iv_upd_nk c, if_neg c]; exact hh i hi c)
    unfold lp_X10_mayBe_51
    simp only [iv_let]
    rw [if_neg (by omega), iv_ck_pos (by omega), ib_shl1 (by omega), iv_and_nat (by omega) (by omega), Int.toNat_natCast, e, iv_bnd_some, iv_wr_succ (by omega), ← ib_shl1 (by omega)]
    have f' : ib_fr 128 129 μ ν := (ib_fr.rfl.upd (by omega)).tr (f.mono (by omega))
    have hh' : ∀ i, i < n → i ≠ j → ν 129 i = (al i : Nat) := fun i hi hc => by rw [f _ _ (by omega), iv_upd_nk hc]; exact hh i hi hc
    by_cases c : 0 < ib_gv (ib_up1 al j (al j &&& 2 ^ k)) n n (2 ^ n - 1)
    · rw [if_neg (by omega), ib_set_t (f := ib_mb al n j) (decide_eq_true c) (by omega)]
      obtain ⟨κ, e2, f2⟩ := ih (k + 1) q ν (by omega) (by omega) hh'
      exact ⟨κ, e2, f'.tr f2⟩
    · rw [if_pos (by omega), ib_set_f0 (f := ib_mb al n j) (decide_eq_false c) (by omega)]
      obtain ⟨κ, e2, f2⟩ := ih (k + 1) q ν (by omega) (by omega) hh'
      exact ⟨κ, e2, f'.tr f2⟩
theorem iq_mayBe (h : ib_inv D s) {p q : Int} : ib_q s (f_X9_mayBe p q) (f_X10_mayBe p q) := by
  have so := h.2.2.2.2
  have h16 := so.2.1
  unfold ib_q f_X9_mayBe f_X10_mayBe
  simp only [iv_let]
  rw [ib_isOld, iv_bnd_some, ib_iz]
  by_cases c : 1 ≤ p ∧ p ≤ 8
  · rw [if_pos c]
    by_cases c2 : 0 ≤ q ∧ q < p
    · obtain ⟨n, rfl⟩ : ∃ t : Nat, p = t := ⟨p.toNat, by omega⟩
      obtain ⟨j, rfl⟩ : ∃ t : Nat, q = t := ⟨q.toNat, by omega⟩
      obtain ⟨L, hL⟩ : ∃ L : Nat, s 110 26 = L := ⟨(s 110 26).toNat, by have := so.1; omega⟩
      have hn : n ≤ 8 := by omega
      obtain ⟨ν, e, f, gh⟩ := ib_hear h hn (fl := L) (by omega) (μ := s) ib_ag.rfl
      have e1 : iv_wr ((n : Int) - 1) = ((n - 1 : Nat) : Int) := by rw [iv_wr_id (by omega) (by omega)]; omega
      obtain ⟨κ, e2, f2, g2⟩ := ib_fit (al := ib_up1 (ib_up1 (ib_aw s n L) j (ib_aw s n L (n - 1))) (n - 1) (ib_aw s n L j)) hn (by omega) (fun i => by
        unfold ib_up1
        split
        · exact ib_aw256 hn _
        · split
          · exact ib_aw256 hn _
          · exact ib_aw256 hn _) (μ := iv_upd (iv_upd ν 108 j (ib_aw s n L (n - 1) : Nat)) 108 (n - 1) (ib_aw s n L j : Nat)) (fun i hi => by
        unfold ib_up1
        by_cases d1 : i = n - 1
        · subst d1; rw [iv_upd_at, if_pos rfl]
        · rw [iv_upd_nk d1, if_neg d1]
          by_cases d2 : i = j
          · subst d2; rw [iv_upd_at, if_pos rfl]
          · rw [iv_upd_nk d2, if_neg d2]; exact gh i hi)
      have g : ib_ag s κ := ib_ag.rfl.fr ((((f.mono (l2 := 108) (h2 := 109) (by omega)).upd (by omega)).upd (by omega)).tr (f2.mono (by omega))) ib_r109
      obtain ⟨ξ, e3, g3, h3⟩ := ib_waysBy h (n := n) (fl := L) hn (by omega) g
      obtain ⟨ζ, e4, f4⟩ := ib_mbM_lp (al := ib_aw s n L) hn (show j < n by omega) (ib_aw256 hn) n 0 iv_fuel ξ (by omega) (by unfold iv_fuel; omega) (fun i hi _ => h3 i (by omega))
      have e5 := ib_mbX_lp (al := ib_aw s n L) hn (show j < n by omega) (ib_aw256 hn) g2 n 0 iv_fuel (by omega) (by unfold iv_fuel; omega)
      rw [show ((0 : Nat) : Int) = 0 from rfl] at e5 e4
      unfold f_X6_thingsOf
      simp only [iv_let]
      rw [if_neg (by omega), if_pos (by omega), if_neg (by omega), if_neg (by omega), if_neg (by omega), if_pos (by omega), so.2.2.1, hL, e, iv_bnd_some, e1, iv_ck_pos (by omega), iv_ck_pos (by omega), iv_ck_pos (by omega), iv_ck_pos (by omega), Int.toNat_natCast, Int.toNat_natCast, gh j (by omega), gh (n - 1) (by omega), e2, iv_bnd_some, ib_all1 hn]
      refine ⟨_, κ, ζ, by rw [show ((ib_set (ib_mb (ib_aw s n L) n j) 0 : Nat) : Int) = 0 from rfl] at e5; rw [e5]; rfl, ?_, g3.fr f4 ib_r128⟩
      rw [ib_in, iv_bnd_some, ib_iz, if_pos c, ib_in, iv_bnd_some, ib_iz, if_pos (by omega), g.f rfl, hL, e3, iv_bnd_some, iv_ck_pos (by omega), h3 j (by omega)]
      exact e4
    · have e1 : ∀ (x y : Option (Int × ivM)), (if q < 0 then x else if q < p then y else x) = x := by
        intro x y
        by_cases c3 : q < 0
        · rw [if_pos c3]
        · rw [if_neg c3, if_neg (by omega)]
      rw [e1]
      refine ⟨_, s, s, rfl, ?_, ib_ag.rfl⟩
      rw [ib_in, iv_bnd_some, ib_iz, if_pos c, iv_wr_id (by omega) (by omega), ib_in, iv_bnd_some, ib_iz, if_neg (by omega)]
  · rw [if_neg c]
    refine ⟨_, s, s, rfl, ?_, ib_ag.rfl⟩
    rw [ib_in, iv_bnd_some, ib_iz, if_neg c]
end IBW
