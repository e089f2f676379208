/-! UPKEEP, TWINS, COUNT -/
def ib_al (f : Nat → Bool) : Nat → Bool
  | 0 => true
  | n + 1 => ib_al f n && f n
theorem ib_al_iff {f : Nat → Bool} {n : Nat} : ib_al f n = true ↔ ∀ i, i < n → f i = true := by
  induction n with
  | zero => exact ⟨fun _ i h => by omega, fun _ => rfl⟩
  | succ n ih =>
    show (ib_al f n && f n) = true ↔ _
    rw [Bool.and_eq_true, ih]
    constructor
    · rintro ⟨a, b⟩ i hi
      by_cases e : i = n
      · subst e; exact b
      · exact a i (by omega)
    · intro a
      exact ⟨fun i hi => a i (by omega), a n (by omega)⟩
theorem ib_nc_inj {u v : Nat → Int} {m n : Nat} (hu : ib_ok5 u m) (hv : ib_ok5 v n) : ib_nc u m = ib_nc v n ↔ m = n ∧ ∀ i, i < m → u i = v i := by
  constructor
  · intro e
    have key : ∀ i, (if i < m then (u i + 1).toNat else 0) = if i < n then (v i + 1).toNat else 0 := fun i => by
      rw [← ib_nc_dig hu.2, ← ib_nc_dig hv.2, e]
    have hmn : m = n := by
      rcases Nat.lt_trichotomy m n with c | c | c
      · have := key m
        rw [if_neg (by omega), if_pos c] at this
        have := hv.2 m c
        omega
      · exact c
      · have := key n
        rw [if_pos c, if_neg (by omega)] at this
        have := hu.2 n c
        omega
    refine ⟨hmn, fun i hi => ?_⟩
    have h1 := key i
    rw [if_pos hi, if_pos (by omega)] at h1
    have h2 := hu.2 i hi
    have h3 := hv.2 i (by omega)
    omega
  · rintro ⟨rfl, h⟩
    have : ∀ k, k ≤ m → ib_nc u k = ib_nc v k := by
      intro k
      induction k with
      | zero => intro _; rfl
      | succ k ih =>
        intro hk
        show ib_nc u k + (u k + 1).toNat * 8 ^ k = ib_nc v k + (v k + 1).toNat * 8 ^ k
        rw [ih (by omega), h k (by omega)]
    exact this m (Nat.le_refl m)
section IBU
variable {D : Int} {s μ : ivM}
/-- how often a thing must be said -/
def ib_up (s : ivM) (S d t : Nat) : Nat := if S.testBit t && ib_lv s t then ((s 110 15 + d - s 118 t - 9 + 8) / 9).toNat else 0
theorem ib_up_le (h : ib_inv D s) {S d t : Nat} (hd : d ≤ 99) (ht : t < 8) : ib_up s S d t ≤ 12 := by
  have hm := h.m ht
  unfold ib_up
  cases hl : ib_lv s t
  · rw [Bool.and_false, if_neg (by decide)]; omega
  · have := (of_decide_eq_true hl).2
    split <;> omega
theorem ib_sumS_le {f : Nat → Nat} {b : Nat} : ∀ n, (∀ i, i < n → f i ≤ b) → ib_sum f n ≤ n * b
  | 0, _ => by unfold ib_sum; omega
  | n + 1, h => by
    have := ib_sumS_le n (fun i hi => h i (by omega))
    have := h n (by omega)
    unfold ib_sum
    rw [Nat.succ_mul]
    omega
theorem ib_sayings_lp (h : ib_inv D s) (hD : D ≤ 60000) {S d : Nat} (hS : S < 256) (hd : d ≤ 99) : ∀ (e k n : Nat) (μ : ivM), k + e = 8 → e < n → ib_ag s μ →
    lp_X2_sayingsFor_5 ((S &&& ib_set (ib_lv s) 8 : Nat) : Int) d n (ib_sum (ib_up s S d) k : Nat) k μ = some (((ib_sum (ib_up s S d) 8 : Nat) : Int), μ) := by
  have hY := h.Y
  intro e
  induction e with
  | zero =>
    intro k n μ hk hn g
    obtain ⟨n, rfl⟩ : ∃ q, n = q + 1 := ⟨n - 1, by omega⟩
    unfold lp_X2_sayingsFor_5
    rw [if_pos (by omega), show k = 8 by omega]
  | succ e ih =>
    intro k n μ hk hn g
    obtain ⟨n, rfl⟩ : ∃ q, n = q + 1 := ⟨n - 1, by omega⟩
    have hm := h.m (t := k) (by omega)
    have hb := ib_sumS_le (f := ib_up s S d) (b := 12) k (fun i hi => ib_up_le h hd (by omega))
    have hlt : S &&& ib_set (ib_lv s) 8 < 256 := Nat.lt_of_le_of_lt Nat.and_le_left hS
    have es : ib_sum (ib_up s S d) (k + 1) = ib_sum (ib_up s S d) k + ib_up s S d k := rfl
    unfold lp_X2_sayingsFor_5
    simp only [iv_let, Int.toNat_natCast]
    rw [if_neg (by omega), iv_ck_pos (by omega), ib_has (by omega) (by omega), iv_bnd_some, ib_iz, iv_wr_succ (by omega), Nat.testBit_and, ib_live_bit h, ← ih (k + 1) n μ (by omega) (by omega) g, es, g.c (a := 11) rfl, g.c (a := 13) rfl, hY.1, hm.2.2.2.2.1]
    rw [iv_wr_id (x := s 110 15 + d) (by omega) (by omega), iv_wr_id (x := s 110 15 + d - s 118 k) (by omega) (by omega), iv_wr_id (x := s 110 15 + d - s 118 k - 9) (by omega) (by omega), iv_wr_id (x := s 110 15 + d - s 118 k - 9 + 9) (by omega) (by omega), iv_wr_id (x := s 110 15 + d - s 118 k - 9 + 9 - 1) (by omega) (by omega)]
    have eu : ib_up s S d k = if S.testBit k && ib_lv s k then ((s 110 15 + d - s 118 k - 9 + 8) / 9).toNat else 0 := rfl
    cases hc : (S.testBit k && ib_lv s k)
    · rw [hc, if_neg (by decide)] at eu
      rw [if_neg (by decide), eu]; rfl
    · rw [hc, if_pos rfl] at eu
      rw [if_pos rfl]
      by_cases c : s 110 15 + d - s 118 k - 9 ≤ 0
      · rw [if_pos c, show ib_up s S d k = 0 by rw [eu]; omega]; rfl
      · rw [if_neg c, iv_div_id (by omega) (by omega) (by omega) (by omega), iv_wr_id (by omega) (by omega)]
        congr 1
        omega
theorem ib_upkeep_in {l1 l4 : Int} {d : Nat} (hd : d ≤ 99) {y : Int} (hy : 0 ≤ y ∧ y ≤ 60000) (h15 : μ 110 15 = y) (k : Int → ivM → Option (Int × ivM)) : ∀ (c n w : Nat) (x : Int), ((y + d - x + 8) / 9).toNat = c → c < n → w + c ≤ 1000 → 0 ≤ x → x ≤ 70000 →
    lp_X10_upkeep_75 l1 d l4 1 k n w x μ = k ((w + c : Nat) : Int) μ := by
  intro c
  induction c with
  | zero =>
    intro n w x hc hn hw hx hx2
    obtain ⟨n, rfl⟩ : ∃ q, n = q + 1 := ⟨n - 1, by omega⟩
    unfold lp_X10_upkeep_75
    rw [if_neg (by decide), h15, iv_wr_id (by omega) (by omega), if_pos (by omega)]
    rfl
  | succ c ih =>
    intro n w x hc hn hw hx hx2
    obtain ⟨n, rfl⟩ : ∃ q, n = q + 1 := ⟨n - 1, by omega⟩
    unfold lp_X10_upkeep_75
    rw [if_neg (by decide), h15, iv_wr_id (x := y + d) (by omega) (by omega), if_neg (by omega), iv_wr_succ (by omega), iv_wr_id (x := x + 9) (by omega) (by omega), ih n (w + 1) (x + 9) (by omega) (by omega) (by omega) (by omega) (by omega)]
    congr 1
    omega
theorem ib_upkeepM_lp (h : ib_inv D s) (hD : D ≤ 60000) {S d : Nat} (hS : S < 256) (hd : d ≤ 99) : ∀ (e k n : Nat) (μ : ivM), k + e = ib_T s → e < n → ib_ag s μ →
    lp_X10_upkeep_28 S d n (ib_sum (ib_up s S d) k : Nat) k μ = some (((ib_sum (ib_up s S d) (ib_T s) : Nat) : Int), μ) := by
  have hY := h.Y
  have hT := h.T
  intro e
  induction e with
  | zero =>
    intro k n μ hk hn g
    obtain ⟨n, rfl⟩ : ∃ q, n = q + 1 := ⟨n - 1, by omega⟩
    unfold lp_X10_upkeep_28
    rw [g.f rfl, hT.1, if_pos (by omega), show k = ib_T s by omega]
  | succ e ih =>
    intro k n μ hk hn g
    obtain ⟨n, rfl⟩ : ∃ q, n = q + 1 := ⟨n - 1, by omega⟩
    have hm := h.m (t := k) (by omega)
    have hb := ib_sumS_le (f := ib_up s S d) (b := 12) k (fun i hi => ib_up_le h hd (by omega))
    have hb1 := ib_up_le h (S := S) hd (show k < 8 by omega)
    have es : ib_sum (ib_up s S d) (k + 1) = ib_sum (ib_up s S d) k + ib_up s S d k := rfl
    have eu : ib_up s S d k = if S.testBit k && ib_lv s k then ((s 110 15 + d - s 118 k - 9 + 8) / 9).toNat else 0 := rfl
    have h15 : μ 110 15 = s 110 15 := g.f rfl
    have iz : ∀ kk : Int → ivM → Option (Int × ivM), lp_X10_upkeep_75 S d k 0 kk iv_fuel (ib_sum (ib_up s S d) k : Nat) (iv_wr (μ 118 k + 9)) μ = kk (ib_sum (ib_up s S d) k : Nat) μ := by
      intro kk
      unfold iv_fuel lp_X10_upkeep_75
      rw [if_pos rfl]
    unfold lp_X10_upkeep_28
    simp only [iv_let, Int.toNat_natCast]
    rw [g.f rfl, hT.1, if_neg (by omega), iv_bit (by omega) (by omega), ib_io, ib_isLiveM h hD g (by omega), iv_bnd_some, ib_iz, iv_ck_pos (by omega), iv_ck_pos (by omega), iz]
    have hnext := ih (k + 1) n μ (by omega) (by omega) g
    rw [es] at hnext
    cases hc1 : S.testBit k
    · rw [hc1, Bool.false_and, if_neg (by decide)] at eu
      rw [if_neg (by decide), iv_wr_succ (by omega)]
      rw [eu] at hnext
      exact hnext
    · cases hc2 : ib_lv s k
      · rw [hc2, Bool.and_false, if_neg (by decide)] at eu
        rw [if_pos rfl, if_neg (by decide), iv_wr_succ (by omega)]
        rw [eu] at hnext
        exact hnext
      · have hlv := (of_decide_eq_true hc2).2
        rw [hc1, hc2, Bool.and_true, if_pos rfl] at eu
        rw [if_pos rfl, if_pos rfl, g.c (a := 118) rfl, iv_wr_id (x := s 118 k + 9) (by omega) (by omega)]
        rw [ib_upkeep_in (y := s 110 15) hd (by omega) h15 _ (ib_up s S d k) iv_fuel (ib_sum (ib_up s S d) k) (s 118 k + 9) (by rw [eu]; omega) (by unfold iv_fuel; omega) (by omega) (by omega) (by omega)]
        rw [iv_wr_succ (by omega)]
        exact hnext
theorem iq_upkeep (h : ib_inv D s) (hD : D ≤ 60000) {p q : Int} : ib_q s (f_X9_upkeep p q) (f_X10_upkeep p q) := by
  have hT := h.T
  have hT8 := ib_T256 h
  unfold ib_q f_X9_upkeep f_X10_upkeep
  simp only [iv_let]
  rw [ib_areThings' h ib_ag.rfl, iv_bnd_some, ib_iz]
  by_cases c : 0 ≤ p ∧ p < ((2 ^ ib_T s : Nat) : Int)
  · obtain ⟨S, rfl⟩ : ∃ t : Nat, p = t := ⟨p.toNat, by omega⟩
    have hS : S < 2 ^ ib_T s := by exact_mod_cast c.2
    rw [if_pos c]
    by_cases c2 : 0 ≤ q ∧ q ≤ 99
    · obtain ⟨d, rfl⟩ : ∃ t : Nat, q = t := ⟨q.toNat, by omega⟩
      have hL : ib_set (ib_lv s) 8 < 256 := ib_set_lt8 _ (by omega)
      rw [if_neg (by omega), if_pos (by omega), ib_liveOnes h hD ib_ag.rfl, iv_bnd_some, iv_and_nat (by omega) (by omega)]
      have e1 := ib_sayings_lp h hD (S := S) (d := d) (by omega) (by omega) 8 0 iv_fuel s (by omega) (by decide) ib_ag.rfl
      unfold f_X2_sayingsFor
      rw [show ((ib_sum (ib_up s S d) 0 : Nat) : Int) = 0 from rfl, show ((0 : Nat) : Int) = 0 from rfl] at e1
      rw [e1, iv_bnd_some]
      refine ⟨_, s, s, rfl, ?_, ib_ag.rfl⟩
      rw [ib_isThings' h ib_ag.rfl, iv_bnd_some, ib_iz, if_pos c, ib_in, iv_bnd_some, ib_iz, if_pos (by omega)]
      have e2 := ib_upkeepM_lp h hD (S := S) (d := d) (by omega) (by omega) (ib_T s) 0 iv_fuel s (by omega) (by unfold iv_fuel; omega) ib_ag.rfl
      have e3 := ib_sum_cut (f := ib_up s S d) (a := ib_T s) (8 - ib_T s) (fun i h1 h2 => by
        unfold ib_up
        cases hl : ib_lv s i
        · rw [Bool.and_false]; rfl
        · have := ib_lv_lt hl; omega)
      rw [show ib_T s + (8 - ib_T s) = 8 by omega] at e3
      rw [e3]
      exact e2
    · have e1 : ∀ (x y : Option (Int × ivM)), (if q < 0 then x else if q ≤ 99 then y else x) = x := by
        intro x y
        by_cases c3 : q < 0
        · rw [if_pos c3]
        · rw [if_neg c3, if_neg (by omega)]
      rw [e1]
      refine ⟨_, s, s, rfl, ?_, ib_ag.rfl⟩
      rw [ib_isThings' h ib_ag.rfl, iv_bnd_some, ib_iz, if_pos c, ib_in, iv_bnd_some, ib_iz, if_neg (by omega)]
  · rw [if_neg c]
    refine ⟨_, s, s, rfl, ?_, ib_ag.rfl⟩
    rw [ib_isThings' h ib_ag.rfl, iv_bnd_some, ib_iz, if_neg c]
/-! two tongues -/
def ib_to (u : Nat → Int) (k : Nat) : Nat → Int := fun i => (u i + k) % 6
theorem ib_to_ok {u : Nat → Int} {m k : Nat} (h : ib_ok5 u m) : ib_ok5 (ib_to u k) m := ⟨h.1, fun i _ => by unfold ib_to; omega⟩
theorem ib_inTongue {u : Nat → Int} {m k : Nat} (h : ib_ok5 u m) (hk : k < 6) : f_X3_inTongue (ib_nc u m) k μ = some (((ib_nc (ib_to u k) m : Nat) : Int), μ) := by
  have hm := h.1
  have key : ∀ (d j n : Nat), j + d = m → d < n → lp_X3_inTongue_10 (ib_nc u m) k m n (ib_nc (ib_to u k) j) j μ = some (((ib_nc (ib_to u k) m : Nat) : Int), μ) := by
    intro d
    induction d with
    | zero =>
      intro j n hj hn
      obtain ⟨n, rfl⟩ : ∃ q, n = q + 1 := ⟨n - 1, by omega⟩
      unfold lp_X3_inTongue_10
      rw [if_pos (by omega), show j = m by omega]
    | succ d ih =>
      intro j n hj hn
      obtain ⟨n, rfl⟩ : ∃ q, n = q + 1 := ⟨n - 1, by omega⟩
      have hu := h.2 j (by omega)
      have hw := ib_withSound (s := ib_to u k) (k := j) (μ := μ) ⟨by omega, fun i _ => by unfold ib_to; omega⟩
      unfold lp_X3_inTongue_10
      rw [if_neg (by omega), ib_soundAt h, iv_bnd_some, if_pos (by omega), Int.toNat_natCast, iv_wr_id (x := u j + k) (by omega) (by omega), iv_rem_id (by omega) (by omega) (by omega) (by omega)]
      have e : (u j + (k : Int)) % 6 = ib_to u k j := rfl
      rw [e, hw, iv_bnd_some, iv_wr_succ (by omega)]
      exact ih (j + 1) n (by omega) (by omega)
  unfold f_X3_inTongue
  rw [ib_lengthOf h, iv_bnd_some]
  exact key m 0 iv_fuel (by omega) (by unfold iv_fuel; omega)
def ib_ln (s : ivM) (c o : Nat) : Nat := if ib_lv s o && decide (ib_nc (ib_sn s o) (ib_z s o) = c) then 1 else 0
theorem ib_ln_le {c o : Nat} : ib_ln s c o ≤ 1 := by unfold ib_ln; split <;> omega
theorem ib_liveNamed (h : ib_inv D s) (hD : D ≤ 60000) {c : Nat} (g : ib_ag s μ) : f_X9_liveNamed c μ = some (((ib_sum (ib_ln s c) 8 : Nat) : Int), μ) := by
  have key : ∀ (d k n : Nat), k + d = 8 → d < n → lp_X9_liveNamed_4 c n (ib_sum (ib_ln s c) k : Nat) k μ = some (((ib_sum (ib_ln s c) 8 : Nat) : Int), μ) := by
    intro d
    induction d with
    | zero =>
      intro k n hk hn
      obtain ⟨n, rfl⟩ : ∃ q, n = q + 1 := ⟨n - 1, by omega⟩
      unfold lp_X9_liveNamed_4
      rw [if_pos (by omega), show k = 8 by omega]
    | succ d ih =>
      intro k n hk hn
      obtain ⟨n, rfl⟩ : ∃ q, n = q + 1 := ⟨n - 1, by omega⟩
      have hm := h.m (t := k) (by omega)
      have hb := ib_sum_le (f := ib_ln s c) (b := 1) (fun i => ib_ln_le) k
      have hnext := ih (k + 1) n (by omega) (by omega)
      rw [show ib_sum (ib_ln s c) (k + 1) = ib_sum (ib_ln s c) k + ib_ln s c k from rfl] at hnext
      unfold lp_X9_liveNamed_4
      simp only [iv_let, Int.toNat_natCast]
      rw [if_neg (by omega), ib_isLive h hD g (by omega), iv_bnd_some, ib_iz, iv_ck_pos (by omega), g.c (a := 12) rfl, hm.2.2.2.1]
      unfold ib_ln at hnext
      cases hl : ib_lv s k
      · rw [hl] at hnext
        rw [if_neg (by decide), iv_wr_succ (x := k) (by omega)]
        exact hnext
      · rw [hl] at hnext
        rw [if_pos rfl]
        by_cases e : ib_nc (ib_sn s k) (ib_z s k) = c
        · rw [decide_eq_true e] at hnext
          rw [if_pos (by omega), iv_wr_succ (by omega), iv_wr_succ (by omega)]
          exact hnext
        · rw [decide_eq_false e] at hnext
          rw [if_neg (by omega), iv_wr_succ (by omega)]
          exact hnext
  exact key 8 0 iv_fuel (by omega) (by decide)
def ib_tw (s : ivM) (k t : Nat) : Nat := if ib_lv s t then ib_sum (ib_ln s (ib_nc (ib_to (ib_sn s t) k) (ib_z s t))) 8 else 0
theorem ib_tw_le {k t : Nat} : ib_tw s k t ≤ 8 := by
  unfold ib_tw
  split
  · have := ib_sum_le (f := ib_ln s (ib_nc (ib_to (ib_sn s t) k) (ib_z s t))) (b := 1) (fun i => ib_ln_le) 8
    omega
  · omega
theorem ib_twins_lp (h : ib_inv D s) (hD : D ≤ 60000) {q : Nat} (hq : q < 6) (g : ib_ag s μ) : ∀ (d k n : Nat), k + d = 8 → d < n → lp_X9_twins_18 q n (ib_sum (ib_tw s q) k : Nat) k μ = some (((ib_sum (ib_tw s q) 8 : Nat) : Int), μ) := by
  intro d
  induction d with
  | zero =>
    intro k n hk hn
    obtain ⟨n, rfl⟩ : ∃ q, n = q + 1 := ⟨n - 1, by omega⟩
    unfold lp_X9_twins_18
    rw [if_pos (by omega), show k = 8 by omega]
  | succ d ih =>
    intro k n hk hn
    obtain ⟨n, rfl⟩ : ∃ q, n = q + 1 := ⟨n - 1, by omega⟩
    have hm := h.m (t := k) (by omega)
    have hb := ib_sum_le (f := ib_tw s q) (b := 8) (fun i => ib_tw_le) k
    have hb2 := ib_tw_le (s := s) (k := q) (t := k)
    have hnext := ih (k + 1) n (by omega) (by omega)
    rw [show ib_sum (ib_tw s q) (k + 1) = ib_sum (ib_tw s q) k + ib_tw s q k from rfl] at hnext
    have eu : ib_tw s q k = if ib_lv s k then ib_sum (ib_ln s (ib_nc (ib_to (ib_sn s k) q) (ib_z s k))) 8 else 0 := rfl
    unfold lp_X9_twins_18
    simp only [iv_let, Int.toNat_natCast]
    rw [if_neg (by omega), ib_isLive h hD g (by omega), iv_bnd_some, ib_iz, iv_ck_pos (by omega), g.c (a := 12) rfl, hm.2.2.2.1, ib_inTongue hm.1 hq, iv_bnd_some, ib_liveNamed h hD g, iv_bnd_some, iv_wr_succ (x := k) (by omega)]
    cases hl : ib_lv s k
    · rw [hl, if_neg (by decide)] at eu
      rw [eu] at hnext
      rw [if_neg (by decide)]
      exact hnext
    · rw [hl, if_pos rfl] at eu
      rw [if_pos rfl, ← eu, iv_wr_id (by omega) (by omega), show ((ib_sum (ib_tw s q) k : Nat) : Int) + (ib_tw s q k : Nat) = ((ib_sum (ib_tw s q) k + ib_tw s q k : Nat) : Int) by omega]
      exact hnext
/-- the model's -/
def ib_tq (s : ivM) (q t o : Nat) : Bool := decide (t ≠ o) && ib_lv s t && ib_lv s o && decide (ib_z s t = ib_z s o)
def ib_te (s : ivM) (q t o i : Nat) : Bool := decide ((ib_sn s t i + q) % 6 = ib_sn s o i)
def ib_tn (s : ivM) (q t o : Nat) : Nat := if ib_tq s q t o && ib_al (ib_te s q t o) (ib_z s t) then 1 else 0
theorem ib_tn_le {q t o : Nat} : ib_tn s q t o ≤ 1 := by unfold ib_tn; split <;> omega
theorem ib_tw88 (h : ib_inv D s) {q t o : Nat} (hq : q < 6) (ht : t < 8) (ho : o < 8) (hz : ib_z s t = ib_z s o) (g : ib_ag s μ) {l2 : Int} (k : Int → ivM → Option (Int × ivM)) : ∀ (d i n : Nat), i + d = ib_z s t → d < n →
    lp_X10_twins_88 q l2 t o k n (if ib_al (ib_te s q t o) i then 1 else 0) i μ = k (if ib_al (ib_te s q t o) (ib_z s t) then 1 else 0) μ := by
  have hm := h.m ht
  have hm2 := h.m ho
  have hz5 := hm.1.1
  intro d
  induction d with
  | zero =>
    intro i n hi hn
    obtain ⟨n, rfl⟩ : ∃ q, n = q + 1 := ⟨n - 1, by omega⟩
    unfold lp_X10_twins_88
    rw [iv_ck_pos (by omega), Int.toNat_natCast, g.c (a := 116) rfl, hm.2.1, if_pos (by omega), show i = ib_z s t by omega]
  | succ d ih =>
    intro i n hi hn
    obtain ⟨n, rfl⟩ : ∃ q, n = q + 1 := ⟨n - 1, by omega⟩
    have h1 := hm.1.2 i (by omega)
    unfold lp_X10_twins_88
    have e5 : iv_wr (iv_wr (5 * (t : Int)) + (i : Int)) = ((5 * t + i : Nat) : Int) := by
      rw [iv_wr_id (x := 5 * (t : Int)) (by omega) (by omega), iv_wr_id (by omega) (by omega)]; omega
    have e6 : iv_wr (iv_wr (5 * (o : Int)) + (i : Int)) = ((5 * o + i : Nat) : Int) := by
      rw [iv_wr_id (x := 5 * (o : Int)) (by omega) (by omega), iv_wr_id (by omega) (by omega)]; omega
    simp only [iv_let, e5, e6, Int.toNat_natCast]
    rw [iv_ck_pos (by omega), g.c (a := 116) rfl, hm.2.1, if_neg (by omega), ib_iz, iv_ck_pos (by omega), iv_ck_pos (by omega), g.c (a := 115) rfl, g.c (a := 115) rfl, iv_wr_succ (by omega)]
    have es : ib_al (ib_te s q t o) (i + 1) = (ib_al (ib_te s q t o) i && ib_te s q t o i) := rfl
    have hnext := ih (i + 1) n (by omega) (by omega)
    rw [es] at hnext
    have et : s 115 (5 * t + i) = ib_sn s t i := rfl
    have eo : s 115 (5 * o + i) = ib_sn s o i := rfl
    rw [et, eo, iv_wr_id (by omega) (by omega), iv_rem_id (by omega) (by omega) (by omega) (by omega)]
    cases ha : ib_al (ib_te s q t o) i
    · rw [if_neg (by decide)]
      have : ib_al (ib_te s q t o) (ib_z s t) = false := by
        cases hb : ib_al (ib_te s q t o) (ib_z s t)
        · rfl
        · have := ib_al_iff.mp hb
          rw [ib_al_iff.mpr (fun j hj => this j (by omega))] at ha
          cases ha
      rw [this]
    · rw [if_pos rfl]
      rw [ha, Bool.true_and] at hnext
      rw [← hnext]
      unfold ib_te
      by_cases c : (ib_sn s t i + (q : Int)) % 6 = ib_sn s o i
      · rw [if_pos c, decide_eq_true c]; rfl
      · rw [if_neg c, decide_eq_false c]; rfl
theorem ib_tw30 (h : ib_inv D s) (hD : D ≤ 60000) {q t : Nat} (hq : q < 6) (ht : t < ib_T s) (g : ib_ag s μ) (k : Int → ivM → Option (Int × ivM)) : ∀ (d o n w : Nat), o + d = ib_T s → d < n → w ≤ 100 →
    lp_X10_twins_30 q t k n ((w + ib_sum (ib_tn s q t) o : Nat) : Int) o μ = k ((w + ib_sum (ib_tn s q t) (ib_T s) : Nat) : Int) μ := by
  have hT := h.T
  have hm := h.m (t := t) (by omega)
  intro d
  induction d with
  | zero =>
    intro o n w ho hn hw
    obtain ⟨n, rfl⟩ : ∃ q, n = q + 1 := ⟨n - 1, by omega⟩
    unfold lp_X10_twins_30
    rw [g.f rfl, hT.1, if_pos (by omega), show o = ib_T s by omega]
  | succ d ih =>
    intro o n w ho hn hw
    obtain ⟨n, rfl⟩ : ∃ q, n = q + 1 := ⟨n - 1, by omega⟩
    have hm2 := h.m (t := o) (by omega)
    have hb := ib_sum_le (f := ib_tn s q t) (b := 1) (fun i => ib_tn_le) o
    have hnext := ih (o + 1) n w (by omega) (by omega) hw
    rw [show ib_sum (ib_tn s q t) (o + 1) = ib_sum (ib_tn s q t) o + ib_tn s q t o from rfl, ← Nat.add_assoc] at hnext
    have eu : ib_tn s q t o = if ib_tq s q t o && ib_al (ib_te s q t o) (ib_z s t) then 1 else 0 := rfl
    have z0 : ∀ (kk : Int → ivM → Option (Int × ivM)) (l2 : Int), lp_X10_twins_88 q l2 t o kk iv_fuel 0 0 μ = kk 0 μ := by
      intro kk l2
      unfold iv_fuel lp_X10_twins_88
      rw [iv_ck_pos (by omega), if_pos rfl]
      split <;> rfl
    unfold lp_X10_twins_30
    simp only [iv_let, Int.toNat_natCast]
    rw [g.f rfl, hT.1, if_neg (by omega), ib_isLiveM h hD g ht, iv_bnd_some, ib_iz, ib_isLiveM h hD g (by omega), iv_bnd_some, ib_iz, iv_ck_pos (by omega), iv_ck_pos (by omega), g.c (a := 116) rfl, g.c (a := 116) rfl, hm.2.1, hm2.2.1]
    simp only [z0, eq_self, if_true]
    rw [iv_wr_succ (x := o) (by omega), show iv_wr (((w + ib_sum (ib_tn s q t) o : Nat) : Int) + 0) = ((w + ib_sum (ib_tn s q t) o : Nat) : Int) by rw [iv_wr_id (by omega) (by omega)]; omega]
    unfold ib_tq at eu
    by_cases c1 : t = o
    · rw [decide_eq_false (fun c => c c1), Bool.false_and, Bool.false_and, Bool.false_and, Bool.false_and, if_neg (by decide)] at eu
      rw [eu] at hnext
      rw [if_pos (by omega)]
      exact hnext
    · rw [decide_eq_true c1, Bool.true_and] at eu
      rw [if_neg (by omega)]
      cases hl : ib_lv s t
      · rw [hl, Bool.false_and, Bool.false_and, Bool.false_and, if_neg (by decide)] at eu
        rw [eu] at hnext
        rw [if_neg (by decide)]
        exact hnext
      · rw [hl, Bool.true_and] at eu
        rw [if_pos rfl]
        cases hl2 : ib_lv s o
        · rw [hl2, Bool.false_and, Bool.false_and, if_neg (by decide)] at eu
          rw [eu] at hnext
          rw [if_neg (by decide)]
          exact hnext
        · rw [hl2, Bool.true_and] at eu
          rw [if_pos rfl]
          by_cases c2 : ib_z s t = ib_z s o
          · rw [decide_eq_true c2, Bool.true_and] at eu
            rw [if_pos (by omega)]
            have e88 := ib_tw88 h hq (t := t) (o := o) (by omega) (by omega) c2 g (l2 := ((w + ib_sum (ib_tn s q t) o : Nat) : Int)) (fun (w26 : Int) (μ28 : ivM) =>
              if w26 = 0 then lp_X10_twins_30 q t k n (iv_wr (((w + ib_sum (ib_tn s q t) o : Nat) : Int) + 0)) (iv_wr ((o : Int) + 1)) μ28
              else lp_X10_twins_30 q t k n (iv_wr (((w + ib_sum (ib_tn s q t) o : Nat) : Int) + 1)) (iv_wr ((o : Int) + 1)) μ28) (ib_z s t) 0 iv_fuel (by omega) (by unfold iv_fuel; have := hm.1.1; omega)
            rw [show (if ib_al (ib_te s q t o) 0 = true then (1 : Int) else 0) = 1 from rfl, show ((0 : Nat) : Int) = 0 from rfl, show iv_wr (((w + ib_sum (ib_tn s q t) o : Nat) : Int) + 0) = ((w + ib_sum (ib_tn s q t) o : Nat) : Int) by rw [iv_wr_id (by omega) (by omega)]; omega, iv_wr_succ (x := o) (by omega)] at e88
            rw [e88, ib_iz]
            cases hal : ib_al (ib_te s q t o) (ib_z s t)
            · rw [hal, if_neg (by decide)] at eu
              rw [eu] at hnext
              rw [if_neg (by decide)]
              exact hnext
            · rw [hal, if_pos rfl] at eu
              rw [eu] at hnext
              rw [if_pos rfl, iv_wr_succ (by omega)]
              exact hnext
          · rw [decide_eq_false c2, Bool.false_and, if_neg (by decide)] at eu
            rw [eu] at hnext
            rw [if_neg (by omega)]
            exact hnext
theorem ib_tw19 (h : ib_inv D s) (hD : D ≤ 60000) {q : Nat} (hq : q < 6) (g : ib_ag s μ) : ∀ (d t n : Nat), t + d = ib_T s → d < n →
    lp_X10_twins_19 q n (ib_sum (fun t => ib_sum (ib_tn s q t) (ib_T s)) t : Nat) t μ = some (((ib_sum (fun t => ib_sum (ib_tn s q t) (ib_T s)) (ib_T s) : Nat) : Int), μ) := by
  have hT := h.T
  intro d
  induction d with
  | zero =>
    intro t n ht hn
    obtain ⟨n, rfl⟩ : ∃ q, n = q + 1 := ⟨n - 1, by omega⟩
    unfold lp_X10_twins_19
    rw [g.f rfl, hT.1, if_pos (by omega), show t = ib_T s by omega]
  | succ d ih =>
    intro t n ht hn
    obtain ⟨n, rfl⟩ : ∃ q, n = q + 1 := ⟨n - 1, by omega⟩
    have hb2 := ib_sum_le (f := fun t => ib_sum (ib_tn s q t) (ib_T s)) (b := 8) (fun i => by
      have := ib_sum_le (f := ib_tn s q i) (b := 1) (fun i => ib_tn_le) (ib_T s); omega) t
    have e30 := ib_tw30 h hD hq (t := t) (by omega) g (fun (w58 : Int) (μ62 : ivM) => lp_X10_twins_19 q n w58 (iv_wr ((t : Int) + 1)) μ62) (ib_T s) 0 iv_fuel (ib_sum (fun t => ib_sum (ib_tn s q t) (ib_T s)) t) (by omega) (by unfold iv_fuel; omega) (by omega)
    unfold lp_X10_twins_19
    rw [g.f rfl, hT.1, if_neg (by omega)]
    rw [show ib_sum (ib_tn s q t) 0 = 0 from rfl, Nat.add_zero, show ((0 : Nat) : Int) = 0 from rfl] at e30
    rw [e30, iv_wr_succ (by omega)]
    exact ih (t + 1) n (by omega) (by omega)
theorem iq_twins (h : ib_inv D s) (hD : D ≤ 60000) {p : Int} : ib_q s (f_X9_twins p) (f_X10_twins p) := by
  have hT := h.T
  unfold ib_q f_X9_twins f_X10_twins
  simp only [iv_let]
  by_cases c : 1 ≤ p ∧ p ≤ 5
  · obtain ⟨q, rfl⟩ : ∃ t : Nat, p = t := ⟨p.toNat, by omega⟩
    rw [if_neg (by omega), if_pos (by omega)]
    refine ⟨_, s, s, ib_twins_lp h hD (q := q) (by omega) ib_ag.rfl 8 0 iv_fuel (by omega) (by decide), ?_, ib_ag.rfl⟩
    rw [ib_in, iv_bnd_some, ib_iz, if_pos c]
    have e1 := ib_tw19 h hD (q := q) (by omega) (μ := s) ib_ag.rfl (ib_T s) 0 iv_fuel (by omega) (by unfold iv_fuel; omega)
    have e3 := ib_sum_cut (f := ib_tw s q) (a := ib_T s) (8 - ib_T s) (fun i h1 h2 => by
      unfold ib_tw
      cases hl : ib_lv s i
      · rfl
      · have := ib_lv_lt hl; omega)
    rw [show ib_T s + (8 - ib_T s) = 8 by omega] at e3
    have e4 : ib_sum (ib_tw s q) (ib_T s) = ib_sum (fun t => ib_sum (ib_tn s q t) (ib_T s)) (ib_T s) := by
      apply ib_sum_ext
      intro t ht
      have hm := h.m (t := t) (by omega)
      unfold ib_tw
      cases hl : ib_lv s t
      · rw [if_neg (by decide), ib_sum_ext (g := fun _ => 0) (ib_T s) (fun o ho => by unfold ib_tn ib_tq; rw [hl, Bool.and_false]; rfl)]
        have := ib_sum_le (f := fun _ => 0) (b := 0) (fun _ => by omega) (ib_T s)
        omega
      · have e5 := ib_sum_cut (f := ib_ln s (ib_nc (ib_to (ib_sn s t) q) (ib_z s t))) (a := ib_T s) (8 - ib_T s) (fun i h1 h2 => by
          unfold ib_ln
          cases hl : ib_lv s i
          · rfl
          · have := ib_lv_lt hl; omega)
        rw [show ib_T s + (8 - ib_T s) = 8 by omega] at e5
        rw [if_pos rfl, e5]
        apply ib_sum_ext
        intro o ho
        have hm2 := h.m (t := o) (by omega)
        unfold ib_ln ib_tn ib_tq
        rw [hl]
        congr 1
        apply propext
        simp only [Bool.and_eq_true, decide_eq_true_eq, ib_al_iff]
        rw [ib_nc_inj hm2.1 (ib_to_ok hm.1)]
        constructor
        · rintro ⟨a, b, c2⟩
          refine ⟨⟨⟨⟨?_, trivial⟩, a⟩, b.symm⟩, fun i hi => ?_⟩
          · rintro rfl
            have hz := hm.2.2.1.mp ht
            have h0 := c2 0 hz
            have h1 := hm.1.2 0 hz
            unfold ib_to at h0
            omega
          · unfold ib_te
            rw [decide_eq_true_eq, c2 i (by omega)]; rfl
        · rintro ⟨⟨⟨⟨_, _⟩, a⟩, b⟩, c2⟩
          refine ⟨a, b.symm, fun i hi => ?_⟩
          have := c2 i (by omega)
          unfold ib_te at this
          rw [decide_eq_true_eq] at this
          rw [← this]; rfl
    rw [e3, e4]
    exact e1
  · have e1 : ∀ (x y : Option (Int × ivM)), (if p < 1 then x else if p < 6 then y else x) = x := by
      intro x y
      by_cases c3 : p < 1
      · rw [if_pos c3]
      · rw [if_neg c3, if_neg (by omega)]
    rw [e1]
    refine ⟨_, s, s, rfl, ?_, ib_ag.rfl⟩
    rw [ib_in, iv_bnd_some, ib_iz, if_neg c]
end IBU
