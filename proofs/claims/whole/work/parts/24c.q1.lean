/-! QUESTIONS: BOTH SIDES ANSWER ALIKE -/
def ib_q (s : ivM) (F G : ivM → Option (Int × ivM)) : Prop := ∃ r ν κ, F s = some (r, ν) ∧ G ν = some (r, κ) ∧ ib_ag s κ
def ib_sum (f : Nat → Nat) : Nat → Nat
  | 0 => 0
  | n + 1 => ib_sum f n + f n
theorem ib_sum_le {f : Nat → Nat} {b : Nat} (h : ∀ i, f i ≤ b) : ∀ n, ib_sum f n ≤ n * b
  | 0 => by unfold ib_sum; omega
  | n + 1 => by
    have := ib_sum_le h n
    have := h n
    unfold ib_sum
    rw [Nat.succ_mul]
    omega
theorem ib_sum_ext {f g : Nat → Nat} : ∀ n, (∀ i, i < n → f i = g i) → ib_sum f n = ib_sum g n
  | 0, _ => rfl
  | n + 1, h => by
    show ib_sum f n + f n = ib_sum g n + g n
    rw [ib_sum_ext n (fun i hi => h i (by omega)), h n (by omega)]
theorem ib_sum_cut {f : Nat → Nat} {a : Nat} : ∀ d, (∀ i, a ≤ i → i < a + d → f i = 0) → ib_sum f (a + d) = ib_sum f a
  | 0, _ => rfl
  | d + 1, h => by
    show ib_sum f (a + d) + f (a + d) = _
    rw [ib_sum_cut d (fun i h1 h2 => h i h1 (by omega)), h (a + d) (by omega) (by omega)]
    rfl
section IBQ
variable {D : Int} {s μ : ivM}
theorem ib_hasThing' (h : ib_inv D s) (g : ib_ag s μ) {p : Int} : f_X1_hasThing p μ = some (if 0 ≤ p ∧ p < ib_T s then 1 else 0, μ) := by
  have := h.T
  rw [ib_hasThing, g.c (a := 9) rfl, this.2.2]
  by_cases c : 0 ≤ p ∧ p < ib_T s
  · rw [if_pos c, if_pos (by omega)]
  · rw [if_neg c, if_neg (by omega)]
theorem ib_hasPerson' (h : ib_inv D s) (g : ib_ag s μ) {p : Int} : f_X1_hasPerson p μ = some (if 0 ≤ p ∧ p < ib_P s then 1 else 0, μ) := by
  have := h.P
  rw [ib_hasPerson, g.c (a := 9) rfl, this.2.2]
  by_cases c : 0 ≤ p ∧ p < ib_P s
  · rw [if_pos c, if_pos (by omega)]
  · rw [if_neg c, if_neg (by omega)]
theorem ib_isThing' (h : ib_inv D s) (g : ib_ag s μ) {p : Int} : f_X10_isThing p μ = some (if 0 ≤ p ∧ p < ib_T s then 1 else 0, μ) := ib_isThing h.T.2.1 (by rw [g.f rfl]; exact h.T.1)
theorem ib_isPerson' (h : ib_inv D s) (g : ib_ag s μ) {p : Int} : f_X10_isPerson p μ = some (if 0 ≤ p ∧ p < ib_P s then 1 else 0, μ) := ib_isPerson (T := ib_P s) (by have := h.P; omega) (by rw [g.f rfl]; exact h.P.1)
theorem ib_areThings' (h : ib_inv D s) (g : ib_ag s μ) {p : Int} : f_X1_areThings p μ = some (if 0 ≤ p ∧ p < ((2 ^ ib_T s : Nat) : Int) then 1 else 0, μ) := ib_areThings h.T.2.1 (by rw [g.c (a := 9) rfl]; exact h.T.2.2)
theorem ib_arePeople' (h : ib_inv D s) (g : ib_ag s μ) {p : Int} : f_X1_arePeople p μ = some (if 0 ≤ p ∧ p < ((2 ^ ib_P s : Nat) : Int) then 1 else 0, μ) := ib_arePeople (T := ib_P s) (by have := h.P; omega) (by rw [g.c (a := 9) rfl]; exact h.P.2.2)
theorem ib_isThings' (h : ib_inv D s) (g : ib_ag s μ) {p : Int} : f_X10_isThings p μ = some (if 0 ≤ p ∧ p < ((2 ^ ib_T s : Nat) : Int) then 1 else 0, μ) := ib_isThings h.T.2.1 (by rw [g.f rfl]; exact h.T.1)
theorem ib_T256 (h : ib_inv D s) : 2 ^ ib_T s ≤ 256 := Nat.pow_le_pow_right (n := 2) (j := 8) (by omega) h.T.2.1
theorem iq_sound (h : ib_inv D s) {p q : Int} : ib_q s (f_X9_sound p q) (f_X10_sound p q) := by
  have hT := h.T
  unfold ib_q f_X9_sound f_X10_sound
  rw [ib_hasThing' h ib_ag.rfl, iv_bnd_some, ib_iz]
  by_cases c : 0 ≤ p ∧ p < ib_T s
  · obtain ⟨t, rfl⟩ : ∃ t : Nat, p = t := ⟨p.toNat, by omega⟩
    have hm := h.m (t := t) (by omega)
    rw [if_pos c, iv_ck_pos (by omega), Int.toNat_natCast, hm.2.2.2.1, ib_soundAt hm.1, iv_bnd_some]
    refine ⟨_, s, s, rfl, ?_, ib_ag.rfl⟩
    rw [ib_isThing' h ib_ag.rfl, iv_bnd_some, ib_iz, if_pos c, iv_ck_pos (by omega), hm.2.1, ib_in, iv_bnd_some]
    have hz := hm.1.1
    rw [iv_wr_id (x := (ib_z s t : Int) - 1) (by omega) (by omega)]
    simp only [iv_let, ib_iz]
    by_cases cq : 0 ≤ q ∧ q < ib_z s t
    · rw [if_pos (by omega), if_pos cq]
      have e5 : iv_wr (iv_wr (5 * (t : Int)) + q) = ((5 * t + q.toNat : Nat) : Int) := by
        rw [iv_wr_id (x := 5 * (t : Int)) (by omega) (by omega), iv_wr_id (by omega) (by omega)]; omega
      rw [e5, iv_ck_pos (by omega), Int.toNat_natCast]
      rfl
    · rw [if_neg (by omega), if_neg cq]
  · rw [if_neg c]
    refine ⟨_, s, s, rfl, ?_, ib_ag.rfl⟩
    rw [ib_isThing' h ib_ag.rfl, iv_bnd_some, ib_iz, if_neg c]
theorem iq_off (h : ib_inv D s) {p q : Int} : ib_q s (f_X9_off p q) (f_X10_off p q) := by
  have hT := h.T
  unfold ib_q f_X9_off f_X10_off
  simp only [iv_let]
  rw [ib_hasThing' h ib_ag.rfl, iv_bnd_some, ib_iz, ib_hasThing' h ib_ag.rfl, iv_bnd_some, ib_iz]
  by_cases c : 0 ≤ p ∧ p < ib_T s
  · by_cases c2 : 0 ≤ q ∧ q < ib_T s
    · obtain ⟨t, rfl⟩ : ∃ t : Nat, p = t := ⟨p.toNat, by omega⟩
      obtain ⟨o, rfl⟩ : ∃ t : Nat, q = t := ⟨q.toNat, by omega⟩
      have hm := h.m (t := t) (by omega)
      have hm2 := h.m (t := o) (by omega)
      obtain ⟨ν, e, f⟩ := ib_between hm.1 hm2.1 s
      have g : ib_ag s ν := ib_ag.rfl.fr f ib_r31
      obtain ⟨κ, e2, g2⟩ := ib_offOf h (t := t) (o := o) (by omega) (by omega) g
      rw [if_pos c, if_pos c2, iv_ck_pos (by omega), iv_ck_pos (by omega), Int.toNat_natCast, Int.toNat_natCast, hm.2.2.2.1, hm2.2.2.2.1, e, iv_bnd_some]
      refine ⟨_, ν, κ, rfl, ?_, g2⟩
      rw [ib_isThing' h g, iv_bnd_some, ib_iz, if_pos c, ib_isThing' h g, iv_bnd_some, ib_iz, if_pos c2, e2, iv_bnd_some]
    · rw [if_pos c, if_neg c2]
      refine ⟨_, s, s, rfl, ?_, ib_ag.rfl⟩
      rw [ib_isThing' h ib_ag.rfl, iv_bnd_some, ib_iz, if_pos c, ib_isThing' h ib_ag.rfl, iv_bnd_some, ib_iz, if_neg c2]
  · rw [if_neg c]
    refine ⟨_, s, s, rfl, ?_, ib_ag.rfl⟩
    rw [ib_isThing' h ib_ag.rfl, iv_bnd_some, ib_iz, if_neg c]
theorem iq_near (h : ib_inv D s) (hD : D ≤ 60000) {p : Int} : ib_q s (f_X9_near p) (f_X10_near p) := by
  have hT := h.T
  unfold ib_q f_X9_near f_X10_near
  rw [ib_hasThing' h ib_ag.rfl, iv_bnd_some, ib_iz]
  by_cases c : 0 ≤ p ∧ p < ib_T s
  · obtain ⟨t, rfl⟩ : ∃ t : Nat, p = t := ⟨p.toNat, by omega⟩
    have hm := h.m (t := t) (by omega)
    rw [if_pos c, ib_isLive h hD ib_ag.rfl (by omega), iv_bnd_some, ib_iz]
    cases hl : ib_lv s t
    · rw [if_neg (by decide)]
      refine ⟨_, s, s, rfl, ?_, ib_ag.rfl⟩
      simp only [iv_let]
      rw [ib_isThing' h ib_ag.rfl, iv_bnd_some, ib_iz, if_pos c, ib_isLiveM h hD ib_ag.rfl (by omega), iv_bnd_some, ib_iz, hl, if_neg (by decide)]
    · have hL : ib_set (ib_lv s) 8 < 256 := ib_set_lt8 _ (by omega)
      have hk2 : 2 ^ t < 256 := (show 2 ^ t < 2 ^ 8 from Nat.pow_lt_pow_right (by omega) (by omega))
      have hS : iv_nd (ib_set (ib_lv s) 8) (2 ^ t) < 256 := iv_nd_lt (n := 8) hL
      obtain ⟨ν, e, f⟩ := ib_nearTo h hm.1 hS (μ := s) ib_ag.rfl
      have g : ib_ag s ν := ib_ag.rfl.fr f ib_r31
      have en : ib_set (ib_nq s (ib_sn s t) (ib_z s t) (iv_nd (ib_set (ib_lv s) 8) (2 ^ t))) 8 = ib_ns s t := by
        apply ib_set_ext
        intro o
        congr 1
        unfold ib_nq ib_nr
        rw [iv_nd_bit, ib_live_bit h, Nat.testBit_two_pow]
        by_cases e : o = t
        · subst e; simp
        · rw [decide_eq_true e, decide_eq_false (fun x => e x.symm)]
          cases ib_lv s o <;> rfl
      obtain ⟨κ, e2, g2⟩ := ib_nearToM h hD (t := t) (by omega) g
      rw [if_pos rfl, iv_ck_pos (by omega), Int.toNat_natCast, ib_liveOnes h hD ib_ag.rfl, iv_bnd_some, hm.2.2.2.1, ib_shl1 (by omega), iv_andn (by omega) (by omega), e, iv_bnd_some, en]
      refine ⟨_, ν, κ, rfl, ?_, g2⟩
      simp only [iv_let]
      rw [ib_isThing' h g, iv_bnd_some, ib_iz, if_pos c, ib_isLiveM h hD g (by omega), iv_bnd_some, ib_iz, hl, if_pos rfl, e2, iv_bnd_some]
  · rw [if_neg c]
    refine ⟨_, s, s, rfl, ?_, ib_ag.rfl⟩
    rw [ib_isThing' h ib_ag.rfl, iv_bnd_some, ib_iz, if_neg c]
theorem iq_knows (h : ib_inv D s) {p : Int} : ib_q s (f_X9_knows p) (f_X10_knows p) := by
  have hT := h.T
  unfold ib_q f_X9_knows f_X10_knows
  simp only [iv_let]
  rw [ib_hasThing' h ib_ag.rfl, iv_bnd_some, ib_iz]
  by_cases c : 0 ≤ p ∧ p < ib_T s
  · obtain ⟨t, rfl⟩ : ∃ t : Nat, p = t := ⟨p.toNat, by omega⟩
    have hm := h.m (t := t) (by omega)
    rw [if_pos c, iv_ck_pos (by omega), Int.toNat_natCast]
    refine ⟨_, s, s, rfl, ?_, ib_ag.rfl⟩
    rw [ib_isThing' h ib_ag.rfl, iv_bnd_some, ib_iz, if_pos c, iv_ck_pos (by omega), hm.2.2.2.2.2.2.2.1, hm.2.2.2.2.2.2.2.2.1]
  · rw [if_neg c]
    refine ⟨_, s, s, rfl, ?_, ib_ag.rfl⟩
    rw [ib_isThing' h ib_ag.rfl, iv_bnd_some, ib_iz, if_neg c]
theorem iq_live (h : ib_inv D s) (hD : D ≤ 60000) : ib_q s f_X9_live f_X10_live := by
  unfold ib_q f_X9_live f_X10_live
  rw [ib_liveOnes h hD ib_ag.rfl]
  refine ⟨_, s, s, rfl, ?_, ib_ag.rfl⟩
  rw [ib_liveSet h hD ib_ag.rfl]; rfl
theorem iq_fades (h : ib_inv D s) (hD : D ≤ 60000) {p : Int} : ib_q s (f_X9_fades p) (f_X10_fades p) := by
  have hT := h.T
  have hY := h.Y
  unfold ib_q f_X9_fades f_X10_fades
  simp only [iv_let]
  rw [ib_hasThing' h ib_ag.rfl, iv_bnd_some, ib_iz]
  by_cases c : 0 ≤ p ∧ p < ib_T s
  · obtain ⟨t, rfl⟩ : ∃ t : Nat, p = t := ⟨p.toNat, by omega⟩
    have hm := h.m (t := t) (by omega)
    rw [if_pos c, ib_isLive h hD ib_ag.rfl (by omega), iv_bnd_some, ib_iz]
    cases hl : ib_lv s t
    · rw [if_neg (by decide)]
      refine ⟨_, s, s, rfl, ?_, ib_ag.rfl⟩
      rw [ib_isThing' h ib_ag.rfl, iv_bnd_some, ib_iz, if_pos c, ib_isLiveM h hD ib_ag.rfl (by omega), iv_bnd_some, ib_iz, hl, if_neg (by decide)]
    · rw [if_pos rfl, iv_ck_pos (by omega), Int.toNat_natCast]
      refine ⟨_, s, s, rfl, ?_, ib_ag.rfl⟩
      rw [ib_isThing' h ib_ag.rfl, iv_bnd_some, ib_iz, if_pos c, ib_isLiveM h hD ib_ag.rfl (by omega), iv_bnd_some, ib_iz, hl, if_pos rfl, iv_ck_pos (by omega), hm.2.2.2.2.1, hY.1]
      congr 2
      rw [iv_wr_id (x := s 118 t + 9) (by omega) (by omega), iv_wr_id (x := s 118 t + 10) (by omega) (by omega), iv_wr_id (x := s 118 t + 9 + 1) (by omega) (by omega), iv_wr_id (by omega) (by omega), iv_wr_id (by omega) (by omega)]
      omega
  · rw [if_neg c]
    refine ⟨_, s, s, rfl, ?_, ib_ag.rfl⟩
    rw [ib_isThing' h ib_ag.rfl, iv_bnd_some, ib_iz, if_neg c]
theorem iq_lifts (h : ib_inv D s) (hD : D ≤ 60000) {p : Int} : ib_q s (f_X9_lifts p) (f_X10_lifts p) := by
  have hP := h.P
  unfold ib_q f_X9_lifts f_X10_lifts
  simp only [iv_let]
  rw [ib_hasPerson' h ib_ag.rfl, iv_bnd_some, ib_iz]
  by_cases c : 0 ≤ p ∧ p < ib_P s
  · obtain ⟨t, rfl⟩ : ∃ t : Nat, p = t := ⟨p.toNat, by omega⟩
    obtain ⟨ν, e, f⟩ := ib_clearOnes h hD (μ := s) ib_ag.rfl
    have g : ib_ag s ν := ib_ag.rfl.fr f ib_r31
    obtain ⟨κ, e2, g2⟩ := ib_liftsOf h hD (p := t) (by omega) g
    rw [if_pos c, e, iv_bnd_some, ib_liftedBy h (by omega) g, iv_bnd_some]
    refine ⟨_, ν, κ, rfl, ?_, g2⟩
    rw [ib_isPerson' h g, iv_bnd_some, ib_iz, if_pos c, e2, iv_bnd_some]
  · rw [if_neg c]
    refine ⟨_, s, s, rfl, ?_, ib_ag.rfl⟩
    rw [ib_isPerson' h ib_ag.rfl, iv_bnd_some, ib_iz, if_neg c]
/-! where a load breaks -/
def ib_br (z : Nat → Nat) (lf : Nat) (bear : Int) (S : Nat) : Nat → Nat → Nat → Int
  | 0, _, _ => -9
  | d + 1, k, w => if S.testBit k then (if lf.testBit k && decide (((w + z k : Nat) : Int) ≤ bear) then ib_br z lf bear S d (k + 1) (w + z k) else k) else ib_br z lf bear S d (k + 1) w
theorem ib_br_cut {z : Nat → Nat} {lf : Nat} {bear : Int} {S : Nat} {T : Nat} (hS : ∀ i, T ≤ i → S.testBit i = false) : ∀ d k w, k + d = T → ∀ e, ib_br z lf bear S (d + e) k w = ib_br z lf bear S d k w := by
  have key : ∀ e k w, T ≤ k → ib_br z lf bear S e k w = -9 := by
    intro e
    induction e with
    | zero => intro k w _; rfl
    | succ e ih =>
      intro k w hk
      unfold ib_br
      rw [hS k hk, if_neg (by decide)]
      exact ih (k + 1) w (by omega)
  intro d
  induction d with
  | zero =>
    intro k w hk e
    rw [Nat.zero_add, key e k w (by omega)]; rfl
  | succ d ih =>
    intro k w hk e
    rw [show d + 1 + e = (d + e) + 1 by omega]
    unfold ib_br
    rw [ih (k + 1) (w + z k) (by omega) e, ih (k + 1) w (by omega) e]
theorem ib_breaksAt_lp (h : ib_inv D s) {lf S : Nat} {bear : Int} (hl : lf < 256) (hS : S < 256) : ∀ (d k n w : Nat) (μ : ivM), k + d = ib_T s → d < n → w ≤ 5 * k → ib_ag s μ →
    lp_X10_breaksAt_6 lf bear S (fun (w16 : Int) (μ17 : ivM) => some (w16, μ17)) n w k μ = some (ib_br (ib_z s) lf bear S d k w, μ) := by
  have hT := h.T
  intro d
  induction d with
  | zero =>
    intro k n w μ hk hn hw g
    obtain ⟨n, rfl⟩ : ∃ q, n = q + 1 := ⟨n - 1, by omega⟩
    unfold lp_X10_breaksAt_6
    rw [g.f rfl, hT.1, if_pos (by omega)]
    rfl
  | succ d ih =>
    intro k n w μ hk hn hw g
    obtain ⟨n, rfl⟩ : ∃ q, n = q + 1 := ⟨n - 1, by omega⟩
    have hm := h.m (t := k) (by omega)
    have hz := hm.1.1
    unfold lp_X10_breaksAt_6 ib_br
    simp only [iv_let, Int.toNat_natCast]
    rw [g.f rfl, hT.1, if_neg (by omega), iv_bit (by omega) (by omega), ib_io, iv_ck_pos (by omega), iv_bit (by omega) (by omega), ib_iz, g.c (a := 116) rfl, hm.2.1, iv_wr_succ (by omega), show (w : Int) + (ib_z s k : Int) = ((w + ib_z s k : Nat) : Int) by omega, iv_wr_nat (by omega)]
    rw [ih (k + 1) n (w + ib_z s k) μ (by omega) (by omega) (by omega) g, ih (k + 1) n w μ (by omega) (by omega) (by omega) g]
    cases S.testBit k
    · rfl
    · rw [if_pos rfl, if_pos rfl]
      cases lf.testBit k
      · rfl
      · rw [if_pos rfl]
        by_cases c : ((w + ib_z s k : Nat) : Int) ≤ bear
        · rw [if_pos c, decide_eq_true c]; rfl
        · rw [if_neg c, decide_eq_false c]; rfl
theorem ib_breaksAt (h : ib_inv D s) {lf S : Nat} {bear : Int} (hl : lf < 256) (hS : S < 2 ^ ib_T s) (g : ib_ag s μ) : f_X10_breaksAt lf bear S μ = some (ib_br (ib_z s) lf bear S 8 0 0, μ) := by
  have hT := h.T
  have := ib_T256 h
  unfold f_X10_breaksAt
  have e := ib_breaksAt_lp h (bear := bear) hl (show S < 256 by omega) (ib_T s) 0 iv_fuel 0 μ (by omega) (by unfold iv_fuel; omega) (by omega) g
  have e2 := ib_br_cut (z := ib_z s) (lf := lf) (bear := bear) (S := S) (T := ib_T s) (fun i hi => Nat.testBit_lt_two_pow (Nat.lt_of_lt_of_le hS (Nat.pow_le_pow_right (by omega) hi))) (ib_T s) 0 0 (by omega) (8 - ib_T s)
  rw [show ib_T s + (8 - ib_T s) = 8 by omega] at e2
  rw [e2]
  exact e
theorem ib_stands_lp (h : ib_inv D s) {p lf S : Nat} (hp : p < ib_P s) (hl : lf < 256) (hS : S < 256) : ∀ (d k n w : Nat) (μ : ivM), k + d = 8 → d < n → w ≤ 5 * k → ib_ag s μ →
    lp_X9_stands_43 p S lf (fun (w40 : Int) (μ41 : ivM) => some (w40, μ41)) n w k μ = some (ib_br (ib_z s) lf (s 119 p) S d k w, μ) := by
  have hP := h.P
  have hB := (h.B (p := p) (by omega)).1 hp
  intro d
  induction d with
  | zero =>
    intro k n w μ hk hn hw g
    obtain ⟨n, rfl⟩ : ∃ q, n = q + 1 := ⟨n - 1, by omega⟩
    unfold lp_X9_stands_43
    rw [if_pos (by omega)]
    rfl
  | succ d ih =>
    intro k n w μ hk hn hw g
    obtain ⟨n, rfl⟩ : ∃ q, n = q + 1 := ⟨n - 1, by omega⟩
    have hm := h.m (t := k) (by omega)
    have hz := hm.1.1
    unfold lp_X9_stands_43 ib_br
    simp only [iv_let, Int.toNat_natCast]
    rw [if_neg (by omega), ib_has (by omega) (by omega), iv_bnd_some, ib_iz, iv_wr_succ (by omega), iv_ck_pos (by omega), g.c (a := 12) rfl, hm.2.2.2.1, ib_lengthOf hm.1, iv_bnd_some, ib_has (by omega) (by omega), iv_bnd_some, ib_iz, iv_ck_pos (by omega), g.c (a := 10) rfl, hB.1, show (w : Int) + (ib_z s k : Int) = ((w + ib_z s k : Nat) : Int) by omega, iv_wr_nat (by omega)]
    rw [ih (k + 1) n (w + ib_z s k) μ (by omega) (by omega) (by omega) g, ih (k + 1) n w μ (by omega) (by omega) (by omega) g]
    cases S.testBit k
    · rfl
    · rw [if_pos rfl, if_pos rfl]
      cases lf.testBit k
      · rfl
      · rw [if_pos rfl]
        by_cases c : ((w + ib_z s k : Nat) : Int) ≤ s 119 p
        · rw [if_pos c, decide_eq_true c]; rfl
        · rw [if_neg c, decide_eq_false c]; rfl
theorem iq_stands (h : ib_inv D s) (hD : D ≤ 60000) {p q : Int} : ib_q s (f_X9_stands p q) (f_X10_stands p q) := by
  have hP := h.P
  have hT8 := ib_T256 h
  unfold ib_q f_X9_stands f_X10_stands
  simp only [iv_let]
  rw [ib_hasPerson' h ib_ag.rfl, iv_bnd_some, ib_iz]
  by_cases c : 0 ≤ p ∧ p < ib_P s
  · rw [if_pos c, ib_areThings' h ib_ag.rfl, iv_bnd_some, ib_iz]
    by_cases c2 : 0 ≤ q ∧ q < ((2 ^ ib_T s : Nat) : Int)
    · obtain ⟨t, rfl⟩ : ∃ t : Nat, p = t := ⟨p.toNat, by omega⟩
      obtain ⟨S, rfl⟩ : ∃ t : Nat, q = t := ⟨q.toNat, by omega⟩
      have hS : S < 2 ^ ib_T s := by exact_mod_cast c2.2
      obtain ⟨ν, e, f⟩ := ib_clearOnes h hD (μ := s) ib_ag.rfl
      have g : ib_ag s ν := ib_ag.rfl.fr f ib_r31
      obtain ⟨κ, e2, g2⟩ := ib_liftsOf h hD (p := t) (by omega) g
      have hl := ib_set_lt8 (ib_lf s t) (n := 8) (by omega)
      rw [if_pos c2, e, iv_bnd_some, ib_liftedBy h (by omega) g, iv_bnd_some]
      refine ⟨_, ν, κ, ib_stands_lp h (by omega) hl (by omega) 8 0 iv_fuel 0 ν (by omega) (by decide) (by omega) g, ?_, g2⟩
      rw [ib_isPerson' h g, iv_bnd_some, ib_iz, if_pos c, ib_isThings' h g, iv_bnd_some, ib_iz, if_pos c2, e2, iv_bnd_some, iv_ck_pos (by omega), Int.toNat_natCast, g2.c (a := 119) rfl, ib_breaksAt h hl hS g2, iv_bnd_some]
    · rw [if_neg c2]
      refine ⟨_, s, s, rfl, ?_, ib_ag.rfl⟩
      rw [ib_isPerson' h ib_ag.rfl, iv_bnd_some, ib_iz, if_pos c, ib_isThings' h ib_ag.rfl, iv_bnd_some, ib_iz, if_neg c2]
  · rw [if_neg c]
    refine ⟨_, s, s, rfl, ?_, ib_ag.rfl⟩
    rw [ib_isPerson' h ib_ag.rfl, iv_bnd_some, ib_iz, if_neg c]
/-! who may have it -/
theorem ib_mayHave_lp (h : ib_inv D s) {t : Nat} (ht : t < 8) : ∀ (d k n : Nat) (μ : ivM), k + d = 6 → d < n → ib_ag s μ →
    lp_X9_mayHave_23 t (ib_set (ib_cl s) 8) n (ib_set (fun p => ib_lf s p t) k) k μ = some (((ib_set (fun p => ib_lf s p t) 6 : Nat) : Int), μ) := by
  intro d
  induction d with
  | zero =>
    intro k n μ hk hn g
    obtain ⟨n, rfl⟩ : ∃ q, n = q + 1 := ⟨n - 1, by omega⟩
    unfold lp_X9_mayHave_23
    rw [if_pos (by omega), show k = 6 by omega]
  | succ d ih =>
    intro k n μ hk hn g
    obtain ⟨n, rfl⟩ : ∃ q, n = q + 1 := ⟨n - 1, by omega⟩
    have hl := ib_set_lt8 (ib_lf s k) (n := 8) (by omega)
    unfold lp_X9_mayHave_23
    simp only [iv_let]
    rw [if_neg (by omega), ib_liftedBy h (by omega) g, iv_bnd_some, ib_has (by omega) (by omega), iv_bnd_some, ib_iz, ib_set_bit, decide_eq_true ht, Bool.true_and, iv_wr_succ (by omega), ← ih (k + 1) n μ (by omega) (by omega) g]
    cases hb : ib_lf s k t
    · rw [ib_set_f (f := fun p => ib_lf s p t) hb]; rfl
    · rw [← ib_set_t (f := fun p => ib_lf s p t) hb (by omega)]; rfl
theorem ib_mayHaveM_lp (h : ib_inv D s) (hD : D ≤ 60000) {t : Nat} (ht : t < 8) : ∀ (d k n : Nat) (μ : ivM), k + d = ib_P s → d < n → ib_ag s μ →
    ∃ ν, lp_X10_mayHave_14 t n (ib_set (fun p => ib_lf s p t) k) k μ = some (((ib_set (fun p => ib_lf s p t) (ib_P s) : Nat) : Int), ν) ∧ ib_ag s ν := by
  have hP := h.P
  intro d
  induction d with
  | zero =>
    intro k n μ hk hn g
    obtain ⟨n, rfl⟩ : ∃ q, n = q + 1 := ⟨n - 1, by omega⟩
    unfold lp_X10_mayHave_14
    rw [g.f rfl, hP.1, if_pos (by omega), show k = ib_P s by omega]
    exact ⟨μ, rfl, g⟩
  | succ d ih =>
    intro k n μ hk hn g
    obtain ⟨n, rfl⟩ : ∃ q, n = q + 1 := ⟨n - 1, by omega⟩
    have hl := ib_set_lt8 (ib_lf s k) (n := 8) (by omega)
    obtain ⟨ν, e, g2⟩ := ib_liftsOf h hD (p := k) (by omega) g
    unfold lp_X10_mayHave_14
    rw [g.f rfl, hP.1, if_neg (by omega), e, iv_bnd_some, iv_bit (by omega) (by omega), ib_set_bit, decide_eq_true ht, Bool.true_and, iv_wr_succ (by omega)]
    cases hb : ib_lf s k t
    · have e0 := iv_shl_nat (a := 0) (k := k) (by omega) (by omega) (by rw [Nat.zero_shiftLeft]; omega)
      rw [Nat.zero_shiftLeft] at e0
      rw [if_neg (by decide), show (0 : Int) = ((0 : Nat) : Int) from rfl, e0, show ((0 : Nat) : Int) = 0 from rfl, ib_set_f0 (f := fun p => ib_lf s p t) hb (by omega)]
      exact ih (k + 1) n ν (by omega) (by omega) g2
    · rw [if_pos rfl, ib_set_t (f := fun p => ib_lf s p t) hb (by omega)]
      exact ih (k + 1) n ν (by omega) (by omega) g2
theorem iq_mayHave (h : ib_inv D s) (hD : D ≤ 60000) {p : Int} : ib_q s (f_X9_mayHave p) (f_X10_mayHave p) := by
  have hT := h.T
  have hP := h.P
  unfold ib_q f_X9_mayHave f_X10_mayHave
  rw [ib_hasThing' h ib_ag.rfl, iv_bnd_some, ib_iz]
  by_cases c : 0 ≤ p ∧ p < ib_T s
  · obtain ⟨t, rfl⟩ : ∃ t : Nat, p = t := ⟨p.toNat, by omega⟩
    obtain ⟨ν, e, f⟩ := ib_clearOnes h hD (μ := s) ib_ag.rfl
    have g : ib_ag s ν := ib_ag.rfl.fr f ib_r31
    obtain ⟨κ, e2, g2⟩ := ib_mayHaveM_lp h hD (t := t) (by omega) (ib_P s) 0 iv_fuel ν (by omega) (by unfold iv_fuel; omega) g
    have es : ib_set (fun p => ib_lf s p t) (ib_P s) = ib_set (fun p => ib_lf s p t) 6 := by
      apply ib_set_ext
      intro i
      by_cases ci : i < ib_P s
      · rw [decide_eq_true ci, decide_eq_true (show i < 6 by omega)]
      · have : ib_lf s i t = false := by unfold ib_lf; rw [decide_eq_false ci]; rfl
        rw [this, Bool.and_false, Bool.and_false]
    rw [if_pos c, e, iv_bnd_some]
    refine ⟨_, ν, κ, ib_mayHave_lp h (by omega) 6 0 iv_fuel ν (by omega) (by decide) g, ?_, g2⟩
    rw [ib_isThing' h g, iv_bnd_some, ib_iz, if_pos c, ← es]
    exact e2
  · rw [if_neg c]
    refine ⟨_, s, s, rfl, ?_, ib_ag.rfl⟩
    rw [ib_isThing' h ib_ag.rfl, iv_bnd_some, ib_iz, if_neg c]
end IBQ
