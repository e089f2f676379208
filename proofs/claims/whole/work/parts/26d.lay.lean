/-! LOADS: THE MODEL'S TABLES -/
section IBL
variable {D : Int} {s : ivM}
/-- who lifts what, but for one; what they bear -/
def ib_lw (s : ivM) (w : Int) (p : Nat) : Nat := if p < ib_P s ∧ (p : Int) ≠ w then ib_set (ib_lf s p) 8 else 0
def ib_be (s : ivM) (p : Nat) : Int := if p < ib_P s then s 119 p else 0
theorem ib_lw_256 {w : Int} {p : Nat} : ib_lw s w p < 256 := by
  unfold ib_lw
  split
  · exact ib_set_lt8 _ (by omega)
  · omega
theorem ib_be_0 (h : ib_inv D s) (p : Nat) : 0 ≤ ib_be s p := by
  have hP := h.P
  unfold ib_be
  split
  · have := (h.B (p := p) (by omega)).1 ‹_›
    omega
  · omega
theorem ib_bor_0 {lf : Nat → Nat} {be : Nat → Int} {z : Nat → Nat} (hb : ∀ p, 0 ≤ be p) {p : Nat} : ib_bor lf be z p 0 := ⟨ib_sb_0, by rw [ib_wt_0]; exact hb p⟩
theorem ib_r124 : ∀ a k : Nat, 123 ≤ a → a ≤ 125 → ib_scr a k := fun a k _ _ => by unfold ib_scr; omega
theorem ib_sh1 (h : ib_inv D s) {μ : ivM} (g : ib_ag s μ) : iv_shl 1 (μ 110 13) = ((2 ^ ib_T s : Nat) : Int) := by
  have hT := h.T
  rw [g.f rfl, hT.1, ib_shl1 (by omega)]
theorem ib_pS {p S : Nat} (hp : p < 6) (hS : S < 256) : iv_wr (iv_wr (256 * (p : Int)) + (S : Int)) = ((256 * p + S : Nat) : Int) := by
  rw [iv_wr_id (x := 256 * (p : Int)) (by omega) (by omega), iv_wr_id (by omega) (by omega)]; omega
def ib_BT (s : ivM) (w : Int) (p : Nat) (μ : ivM) (N : Nat) : Prop := ∀ R, R < N → ib_is (μ 124 (256 * p + R)) (ib_bor (ib_lw s w) (ib_be s) (ib_z s) p R)
def ib_CT (s : ivM) (w : Int) (p : Nat) (μ : ivM) (N : Nat) : Prop := ∀ R, R < N → ib_is (μ 123 (256 * p + R)) (ib_ca (ib_lw s w) (ib_be s) (ib_z s) (6 - p) R)
theorem ib_born_lp (h : ib_inv D s) {p lfp : Nat} {w i : Int} (hp : p < 6) (hi : (i = 1 ∧ p < ib_P s ∧ lfp = ib_lw s w p) ∨ (i = 0 ∧ ib_lw s w p = 0)) (k : ivM → Option (Int × ivM)) : ∀ (d S n : Nat) (μ : ivM), S + d = 2 ^ ib_T s → d < n → ib_ag s μ → ib_BT s w p μ S →
    ∃ ν, lp_X10_layCan_77 w p i lfp k n S μ = k ν ∧ ib_ag s ν ∧ (∀ a q, ¬ (a = 124 ∧ 256 * p ≤ q ∧ q < 256 * p + 256) → ν a q = μ a q) ∧ ib_BT s w p ν (2 ^ ib_T s) := by
  have hT := ib_T256 h
  intro d
  induction d with
  | zero =>
    intro S n μ hS hn g hB
    obtain ⟨n, rfl⟩ : ∃ q, n = q + 1 := ⟨n - 1, by omega⟩
    unfold lp_X10_layCan_77
    rw [ib_sh1 h g, if_pos (by omega)]
    refine ⟨μ, rfl, g, fun _ _ _ => rfl, ?_⟩
    rw [show 2 ^ ib_T s = S by omega]; exact hB
  | succ d ih =>
    intro S n μ hS hn g hB
    obtain ⟨n, rfl⟩ : ∃ q, n = q + 1 := ⟨n - 1, by omega⟩
    have fin : ∀ x : Int, ib_is x (ib_bor (ib_lw s w) (ib_be s) (ib_z s) p S) → ∃ ν, iv_ck (0 ≤ iv_wr (iv_wr (256 * (p : Int)) + (S : Int)) ∧ iv_wr (iv_wr (256 * (p : Int)) + (S : Int)) < 1536) (lp_X10_layCan_77 w p i lfp k n (iv_wr ((S : Int) + 1)) (iv_upd μ 124 (iv_wr (iv_wr (256 * (p : Int)) + (S : Int))).toNat (x % 2))) = k ν ∧ ib_ag s ν ∧ (∀ a q, ¬ (a = 124 ∧ 256 * p ≤ q ∧ q < 256 * p + 256) → ν a q = μ a q) ∧ ib_BT s w p ν (2 ^ ib_T s) := by
      intro x hx
      have e2 : x % 2 = x := by rcases hx with ⟨rfl, _⟩ | ⟨rfl, _⟩ <;> rfl
      rw [ib_pS hp (by omega), iv_ck_pos (by omega), iv_wr_succ (by omega), Int.toNat_natCast, e2]
      obtain ⟨ν, e, g2, f, b⟩ := ih (S + 1) n (iv_upd μ 124 (256 * p + S) x) (by omega) (by omega) (g.upd (ib_r124 _ _ (by omega) (by omega))) (fun R hR => by
        by_cases c : R = S
        · subst c; rw [iv_upd_at]; exact hx
        · rw [iv_upd_nk (by omega)]; exact hB R (by omega))
      refine ⟨ν, e, g2, fun a q hc => ?_, b⟩
      rw [f a q hc]
      unfold iv_upd
      rw [if_neg (fun c => hc ⟨c.1, by omega, by omega⟩)]
    unfold lp_X10_layCan_77
    simp only [iv_let]
    rw [ib_sh1 h g, if_neg (by omega)]
    by_cases h0 : S = 0
    · subst h0
      rw [if_pos (show ((0 : Nat) : Int) = 0 from rfl)]
      exact fin 1 (Or.inl ⟨rfl, ib_bor_0 (ib_be_0 h)⟩)
    · rw [if_neg (by omega)]
      rcases hi with ⟨rfl, hpp, rfl⟩ | ⟨rfl, hl0⟩
      · have hbe : ib_be s p = s 119 p := if_pos hpp
        have hb0 := ib_be_0 h p
        rw [if_neg (by decide), iv_ck_pos (by omega), Int.toNat_natCast, g.c (a := 119) rfl, ib_breaksAt h ib_lw_256 (by omega) g, iv_bnd_some]
        have hbr := ib_br_bor (z := ib_z s) (lfp := ib_lw s w p) (bear := s 119 p) (S := S) (by omega) (by omega)
        by_cases c : ib_br (ib_z s) (ib_lw s w p) (s 119 p) S 8 0 0 = -9
        · rw [if_pos c]
          refine fin 1 (Or.inl ⟨rfl, (hbr.mp c).1, ?_⟩)
          rw [hbe]; exact (hbr.mp c).2
        · rw [if_neg c]
          refine fin 0 (Or.inr ⟨rfl, fun q => c (hbr.mpr ⟨q.1, ?_⟩)⟩)
          have := q.2
          rw [hbe] at this; exact this
      · rw [if_pos rfl]
        refine fin 0 (Or.inr ⟨rfl, fun q => ?_⟩)
        have := q.1
        rw [hl0] at this
        obtain ⟨t, ht⟩ := ib_some_bit h0
        have := this t ht
        rw [Nat.zero_testBit] at this; cases this
theorem ib_canl_lp (h : ib_inv D s) {p : Nat} {w : Int} (hp : p < 6) (k : ivM → Option (Int × ivM)) : ∀ (d S n : Nat) (μ : ivM), S + d = 2 ^ ib_T s → d < n → ib_ag s μ → ib_BT s w p μ (2 ^ ib_T s) → ib_CT s w (p + 1) μ (2 ^ ib_T s) → ib_CT s w p μ S →
    ∃ ν, lp_X10_layCan_143 w p k n S μ = k ν ∧ ib_ag s ν ∧ (∀ a q, ¬ (a = 123 ∧ 256 * p ≤ q ∧ q < 256 * p + 256) → ν a q = μ a q) ∧ ib_CT s w p ν (2 ^ ib_T s) := by
  have hT := ib_T256 h
  intro d
  induction d with
  | zero =>
    intro S n μ hS hn g hB hC hc
    obtain ⟨n, rfl⟩ : ∃ q, n = q + 1 := ⟨n - 1, by omega⟩
    unfold lp_X10_layCan_143
    rw [ib_sh1 h g, if_pos (by omega)]
    refine ⟨μ, rfl, g, fun _ _ _ => rfl, ?_⟩
    rw [show 2 ^ ib_T s = S by omega]; exact hc
  | succ d ih =>
    intro S n μ hS hn g hB hC hc
    obtain ⟨n, rfl⟩ : ∃ q, n = q + 1 := ⟨n - 1, by omega⟩
    have fin : ∀ x : Int, ib_is x (ib_ca (ib_lw s w) (ib_be s) (ib_z s) (6 - p) S) → ∃ ν, iv_ck (0 ≤ iv_wr (iv_wr (256 * (p : Int)) + (S : Int)) ∧ iv_wr (iv_wr (256 * (p : Int)) + (S : Int)) < 1792) (lp_X10_layCan_143 w p k n (iv_wr ((S : Int) + 1)) (iv_upd μ 123 (iv_wr (iv_wr (256 * (p : Int)) + (S : Int))).toNat (x % 2))) = k ν ∧ ib_ag s ν ∧ (∀ a q, ¬ (a = 123 ∧ 256 * p ≤ q ∧ q < 256 * p + 256) → ν a q = μ a q) ∧ ib_CT s w p ν (2 ^ ib_T s) := by
      intro x hx
      have e2 : x % 2 = x := by rcases hx with ⟨rfl, _⟩ | ⟨rfl, _⟩ <;> rfl
      rw [ib_pS hp (by omega), iv_ck_pos (by omega), iv_wr_succ (by omega), Int.toNat_natCast, e2]
      obtain ⟨ν, e, g2, f, b⟩ := ih (S + 1) n (iv_upd μ 123 (256 * p + S) x) (by omega) (by omega) (g.upd (ib_r124 _ _ (by omega) (by omega))) (fun R hR => by
        rw [iv_upd_na (by omega)]; exact hB R hR) (fun R hR => by
        rw [iv_upd_nk (by omega)]; exact hC R hR) (fun R hR => by
        by_cases c : R = S
        · subst c; rw [iv_upd_at]; exact hx
        · rw [iv_upd_nk (by omega)]; exact hc R (by omega))
      refine ⟨ν, e, g2, fun a q hc => ?_, b⟩
      rw [f a q hc]
      unfold iv_upd
      rw [if_neg (fun c => hc ⟨c.1, by omega, by omega⟩)]
    unfold lp_X10_layCan_143
    simp only [iv_let]
    rw [ib_sh1 h g, if_neg (by omega)]
    rcases ib_leastLoadM (lf := ib_lw s w) (be := ib_be s) (z := ib_z s) (p := p) (S := S) (μ := μ) hp (by omega) (fun L hL => hB L (by have := ib_sb_le hL; omega)) (fun L hL => by
      have := hC L (by have := ib_sb_le hL; omega)
      rw [show 256 * (p + 1) + L = 256 * p + 256 + L by omega, show 6 - (p + 1) = 5 - p by omega] at this
      exact this) with ⟨x, h1, h2⟩ | ⟨h1, h2⟩
    · rw [h2, iv_bnd_some, if_neg (by omega)]
      exact fin 1 (Or.inl ⟨rfl, (ib_ca_qq hp).mpr ⟨x, h1.1⟩⟩)
    · rw [h2, iv_bnd_some, if_pos rfl]
      exact fin 0 (Or.inr ⟨rfl, fun q => by
        obtain ⟨x, hx⟩ := (ib_ca_qq hp).mp q
        exact h1 x hx⟩)
theorem ib_layp_lp (h : ib_inv D s) (hD : D ≤ 60000) {w : Int} : ∀ (p n : Nat) (μ : ivM), p ≤ 6 → p < n → ib_ag s μ → (∀ q, p ≤ q → q < 6 → ib_BT s w q μ (2 ^ ib_T s)) → (∀ q, p ≤ q → q ≤ 6 → ib_CT s w q μ (2 ^ ib_T s)) →
    ∃ ν, lp_X10_layCan_36 w n ((p : Int) - 1) μ = some (0, ν) ∧ ib_ag s ν ∧ (∀ q, q < 6 → ib_BT s w q ν (2 ^ ib_T s)) ∧ (∀ q, q ≤ 6 → ib_CT s w q ν (2 ^ ib_T s)) := by
  have hT := ib_T256 h
  have hP := h.P
  intro p
  induction p with
  | zero =>
    intro n μ _ hn g hB hC
    obtain ⟨n, rfl⟩ : ∃ q, n = q + 1 := ⟨n - 1, by omega⟩
    unfold lp_X10_layCan_36
    rw [if_pos (by omega)]
    exact ⟨μ, rfl, g, fun q hq => hB q (by omega) hq, fun q hq => hC q (by omega) hq⟩
  | succ p ih =>
    intro n μ hp hn g hB hC
    obtain ⟨n, rfl⟩ : ∃ q, n = q + 1 := ⟨n - 1, by omega⟩
    have tail : ∀ (i : Int) (lfp : Nat) (μ1 : ivM), ((i = 1 ∧ p < ib_P s ∧ lfp = ib_lw s w p) ∨ (i = 0 ∧ ib_lw s w p = 0)) → ib_ag s μ1 → ib_kp μ μ1 →
        ∃ ν, lp_X10_layCan_77 w p i lfp (fun (μ60 : ivM) => lp_X10_layCan_143 w p (fun (μ79 : ivM) => lp_X10_layCan_36 w n (iv_wr ((p : Int) + (-1))) μ79) iv_fuel 0 μ60) iv_fuel 0 μ1 = some (0, ν) ∧ ib_ag s ν ∧ (∀ q, q < 6 → ib_BT s w q ν (2 ^ ib_T s)) ∧ (∀ q, q ≤ 6 → ib_CT s w q ν (2 ^ ib_T s)) := by
      intro i lfp μ1 hi g1 hk
      obtain ⟨μ2, e2, g2, f2, b2⟩ := ib_born_lp h (p := p) (w := w) (by omega) hi (fun (μ60 : ivM) => lp_X10_layCan_143 w p (fun (μ79 : ivM) => lp_X10_layCan_36 w n (iv_wr ((p : Int) + (-1))) μ79) iv_fuel 0 μ60) (2 ^ ib_T s) 0 iv_fuel μ1 (by omega) (by unfold iv_fuel; omega) g1 (fun R hR => by omega)
      rw [show ((0 : Nat) : Int) = 0 from rfl] at e2
      rw [e2]
      obtain ⟨μ3, e3, g3, f3, b3⟩ := ib_canl_lp h (p := p) (w := w) (by omega) (fun (μ79 : ivM) => lp_X10_layCan_36 w n (iv_wr ((p : Int) + (-1))) μ79) (2 ^ ib_T s) 0 iv_fuel μ2 (by omega) (by unfold iv_fuel; omega) g2 b2 (fun R hR => by
        rw [f2 _ _ (by omega), hk _ _ (by omega)]; exact hC (p + 1) (by omega) (by omega) R hR) (fun R hR => by omega)
      rw [show ((0 : Nat) : Int) = 0 from rfl] at e3
      rw [e3, iv_wr_id (by omega) (by omega), show (p : Int) + (-1) = (p : Int) - 1 by omega]
      refine ih n μ3 (by omega) (by omega) g3 (fun q h1 h2 => ?_) (fun q h1 h2 => ?_)
      · by_cases c : q = p
        · subst c
          intro R hR
          rw [f3 _ _ (by omega)]; exact b2 R hR
        · intro R hR
          rw [f3 _ _ (by omega), f2 _ _ (by omega), hk _ _ (by omega)]; exact hB q (by omega) h2 R hR
      · by_cases c : q = p
        · subst c; exact b3
        · intro R hR
          rw [f3 _ _ (by omega), f2 _ _ (by omega), hk _ _ (by omega)]; exact hC q (by omega) h2 R hR
    unfold lp_X10_layCan_36
    simp only [iv_let]
    rw [show ((p + 1 : Nat) : Int) - 1 = (p : Int) by omega, if_neg (by omega), g.f rfl, hP.1]
    have t0 := fun hl => tail 0 0 μ (Or.inr ⟨rfl, hl⟩) g ib_kp.rfl
    by_cases c1 : ib_P s ≤ p
    · rw [if_pos (by omega), if_pos trivial]
      exact t0 (if_neg (fun c => by omega))
    · rw [if_neg (by omega)]
      by_cases c2 : (p : Int) = w
      · rw [if_pos c2, if_pos trivial]
        exact t0 (if_neg (fun c => c.2 c2))
      · rw [if_neg c2, if_neg (by decide)]
        obtain ⟨μ1, e1, g1⟩ := ib_liftsOf h hD (p := p) (by omega) g
        have el : ib_lw s w p = ib_set (ib_lf s p) 8 := if_pos ⟨by omega, c2⟩
        have hk := ik_liftsOf e1
        rw [e1, iv_bnd_some, ← el]
        exact tail 1 (ib_lw s w p) μ1 (Or.inl ⟨rfl, by omega, rfl⟩) g1 hk
theorem ib_lay2_lp {w : Int} (k : ivM → Option (Int × ivM)) : ∀ (d S n : Nat) (μ : ivM), S + d = 256 → d < n → (∀ R, R < S → μ 123 (1536 + R) = if R = 0 then 1 else 0) →
    ∃ ν, lp_X10_layCan_2 w k n S μ = k ν ∧ ib_fr 123 123 μ ν ∧ ∀ R, R < 256 → ν 123 (1536 + R) = if R = 0 then 1 else 0 := by
  intro d
  induction d with
  | zero =>
    intro S n μ hS hn hh
    obtain ⟨n, rfl⟩ : ∃ q, n = q + 1 := ⟨n - 1, by omega⟩
    unfold lp_X10_layCan_2
    rw [if_pos (by omega)]
    exact ⟨μ, rfl, ib_fr.rfl, fun R hR => hh R (by omega)⟩
  | succ d ih =>
    intro S n μ hS hn hh
    obtain ⟨n, rfl⟩ : ∃ q, n = q + 1 := ⟨n - 1, by omega⟩
    have fin : ∀ x : Int, x = (if S = 0 then 1 else 0) → ∃ ν, iv_ck (0 ≤ iv_wr (1536 + (S : Int)) ∧ iv_wr (1536 + (S : Int)) < 1792) (lp_X10_layCan_2 w k n (iv_wr ((S : Int) + 1)) (iv_upd μ 123 (iv_wr (1536 + (S : Int))).toNat (x % 2))) = k ν ∧ ib_fr 123 123 μ ν ∧ ∀ R, R < 256 → ν 123 (1536 + R) = if R = 0 then 1 else 0 := by
      intro x hx
      have e2 : x % 2 = x := by rw [hx]; split <;> rfl
      rw [iv_wr_id (by omega) (by omega), show (1536 : Int) + (S : Int) = ((1536 + S : Nat) : Int) by omega, iv_ck_pos (by omega), iv_wr_succ (by omega), Int.toNat_natCast, e2]
      obtain ⟨ν, e, f, b⟩ := ih (S + 1) n (iv_upd μ 123 (1536 + S) x) (by omega) (by omega) (fun R hR => by
        by_cases c : R = S
        · subst c; rw [iv_upd_at]; exact hx
        · rw [iv_upd_nk (by omega)]; exact hh R (by omega))
      exact ⟨ν, e, (ib_fr.rfl.upd (by omega)).tr f, b⟩
    unfold lp_X10_layCan_2
    simp only [iv_let]
    rw [if_neg (by omega)]
    by_cases c : S = 0
    · rw [if_pos (by omega)]
      exact fin 1 (by rw [if_pos c])
    · rw [if_neg (by omega)]
      exact fin 0 (by rw [if_neg c])
theorem ib_layCan (h : ib_inv D s) (hD : D ≤ 60000) {μ : ivM} (g : ib_ag s μ) (w : Int) : ∃ ν, f_X10_layCan w μ = some (0, ν) ∧ ib_ag s ν ∧ (∀ q, q < 6 → ib_BT s w q ν (2 ^ ib_T s)) ∧ (∀ q, q ≤ 6 → ib_CT s w q ν (2 ^ ib_T s)) := by
  have hT := ib_T256 h
  unfold f_X10_layCan
  obtain ⟨μ1, e1, f1, b1⟩ := ib_lay2_lp (w := w) (fun (μ16 : ivM) => lp_X10_layCan_36 w iv_fuel 5 μ16) 256 0 iv_fuel μ (by omega) (by decide) (fun R hR => by omega)
  rw [show ((0 : Nat) : Int) = 0 from rfl] at e1
  rw [e1]
  obtain ⟨ν, e2, g2, c1, c2⟩ := ib_layp_lp h hD (w := w) 6 iv_fuel μ1 (by omega) (by decide) (g.fr f1 (fun a k h1 h2 => ib_r124 a k h1 (by omega))) (fun q a b => by omega) (fun q a b => by
    rw [show q = 6 by omega]
    intro R hR
    rw [show 256 * 6 + R = 1536 + R by omega, b1 R (by omega)]
    show ib_is _ (R = 0)
    by_cases c : R = 0
    · rw [if_pos c]; exact Or.inl ⟨rfl, c⟩
    · rw [if_neg c]; exact Or.inr ⟨rfl, c⟩)
  exact ⟨ν, e2, g2, c1, c2⟩
/-! by how few times -/
theorem ib_ca_add {lf : Nat → Nat} {be : Nat → Int} {z : Nat → Nat} {v : Nat} : ∀ l S, ib_ca lf be z (6 * v + l) S ↔ ∃ F, ib_sb F S ∧ ib_ca lf be z l F ∧ ib_ca lf be z (6 * v) (iv_nd S F)
  | 0, S => by
    constructor
    · intro h
      exact ⟨0, ib_sb_0, rfl, by rw [ib_nd_0]; exact h⟩
    · rintro ⟨F, _, h2, h3⟩
      have h2 : F = 0 := h2
      rw [h2, ib_nd_0] at h3; exact h3
  | l + 1, S => by
    have ep : ib_pe (6 * v + l + 1) = ib_pe (l + 1) := ib_pe_mod (by omega) (by omega) (by omega)
    constructor
    · intro h
      have h : ib_ca lf be z ((6 * v + l) + 1) S := h
      obtain ⟨L, a, b, c⟩ := h
      rw [ep] at b
      obtain ⟨F, f1, f2, f3⟩ := (ib_ca_add l (iv_nd S L)).mp c
      refine ⟨L ||| F, fun i hi => ?_, ⟨L, fun i hi => ?_, b, ?_⟩, ?_⟩
      · rw [Nat.testBit_or, Bool.or_eq_true] at hi
        rcases hi with q | q
        · exact a i q
        · exact ib_sb_ndl i (f1 i q)
      · rw [Nat.testBit_or, hi, Bool.true_or]
      · have e : iv_nd (L ||| F) L = F := by
          apply Nat.eq_of_testBit_eq
          intro i
          rw [iv_nd_bit, Nat.testBit_or]
          cases hF : F.testBit i
          · cases L.testBit i <;> rfl
          · have := f1 i hF
            rw [iv_nd_bit, Bool.and_eq_true, Bool.not_eq_true'] at this
            rw [this.2]; rfl
        rw [e]; exact f2
      · have e : iv_nd S (L ||| F) = iv_nd (iv_nd S L) F := by
          apply Nat.eq_of_testBit_eq
          intro i
          rw [iv_nd_bit, iv_nd_bit, iv_nd_bit, Nat.testBit_or]
          cases S.testBit i <;> cases L.testBit i <;> cases F.testBit i <;> rfl
        rw [e]; exact f3
    · rintro ⟨F, f1, ⟨L, a, b, c⟩, f3⟩
      show ib_ca lf be z ((6 * v + l) + 1) S
      refine ⟨L, a.tr f1, by rw [ep]; exact b, (ib_ca_add l (iv_nd S L)).mpr ⟨iv_nd F L, fun i hi => ?_, c, ?_⟩⟩
      · rw [iv_nd_bit, Bool.and_eq_true] at hi ⊢
        exact ⟨f1 i hi.1, hi.2⟩
      · have e : iv_nd (iv_nd S L) (iv_nd F L) = iv_nd S F := by
          apply Nat.eq_of_testBit_eq
          intro i
          rw [iv_nd_bit, iv_nd_bit, iv_nd_bit, iv_nd_bit]
          cases hL : L.testBit i
          · cases S.testBit i <;> cases F.testBit i <;> rfl
          · rw [a i hL]; cases S.testBit i <;> rfl
        rw [e]; exact f3
theorem ib_pc_less {R F : Nat} (hR : R < 256) (hF : ib_sb F R) (h0 : F ≠ 0) : ib_pc (iv_nd R F) + 1 ≤ ib_pc R ∧ iv_nd R F < R := by
  obtain ⟨t, ht⟩ := ib_some_bit h0
  have h1 := ib_pc_nd R hR t (ib_bit8 hR (hF t ht)) (hF t ht)
  have hs : ib_sb (iv_nd R F) (iv_nd R (2 ^ t)) := fun i hi => by
    rw [iv_nd_bit, Bool.and_eq_true, Bool.not_eq_true'] at hi
    rw [iv_nd_bit, ib_one_bit, hi.1]
    by_cases c : t = i
    · subst c; rw [ht] at hi; exact absurd hi.2 (by decide)
    · rw [decide_eq_false c]; rfl
  have h2 := ib_sb_le hs
  have h3 : ib_pc (iv_nd R F) ≤ ib_pc (iv_nd R (2 ^ t)) := by
    unfold ib_pc
    refine ib_sum_mono 8 (fun i _ => ?_)
    cases hb : (iv_nd R F).testBit i
    · rw [if_neg (by decide)]; omega
    · rw [hs i hb]
      exact Nat.le_refl _
  omega
/-- how many times -/
def ib_mv (lf : Nat → Nat) (be : Nat → Int) (z : Nat → Nat) (R : Nat) (x : Int) : Prop := (x = 999 ∧ ∀ v, ¬ ib_ca lf be z (6 * v) R) ∨ ∃ v : Nat, x = v ∧ v ≤ ib_pc R ∧ ib_ca lf be z (6 * v) R ∧ ∀ u, u < v → ¬ ib_ca lf be z (6 * u) R
/-- while subsets down to f have been tried -/
def ib_mw (lf : Nat → Nat) (be : Nat → Int) (z : Nat → Nat) (R f : Nat) (x : Int) (m : Nat → Int) : Prop := (x = 999 ∨ ∃ v : Nat, x = v ∧ v ≤ ib_pc R ∧ ib_ca lf be z (6 * v) R) ∧ ∀ F, ib_sb F R → f < F → ib_ca lf be z 6 F → x ≤ m (iv_nd R F) + 1
theorem ib_mw_end {lf : Nat → Nat} {be : Nat → Int} {z : Nat → Nat} {R : Nat} (hR : R < 256) (h0 : R ≠ 0) {x : Int} {m : Nat → Int} (h : ib_mw lf be z R 0 x m) (hm : ∀ F, ib_sb F R → F ≠ 0 → ib_mv lf be z (iv_nd R F) (m (iv_nd R F))) : ib_mv lf be z R x := by
  have key : ∀ u, ib_ca lf be z (6 * u) R → x ≤ u ∧ x ≤ 9 := by
    intro u
    induction u with
    | zero => intro c; exact absurd c h0
    | succ u ih =>
      intro c
      rw [show 6 * (u + 1) = 6 * u + 6 by omega] at c
      obtain ⟨F, f1, f2, f3⟩ := (ib_ca_add 6 R).mp c
      by_cases c0 : F = 0
      · subst c0
        rw [ib_nd_0] at f3
        have := ih f3
        omega
      · have h1 := h.2 F f1 (by omega) f2
        rcases hm F f1 c0 with ⟨_, q⟩ | ⟨v, q1, q2, _, q4⟩
        · exact absurd f3 (q u)
        · have h8 := ib_pc_le8 (S := iv_nd R F)
          have : v ≤ u := by
            rcases Nat.lt_or_ge u v with c | c
            · exact absurd f3 (q4 u c)
            · exact c
          omega
  rcases h.1 with c | ⟨v, c1, c2, c3⟩
  · exact Or.inl ⟨c, fun v q => by have := key v q; omega⟩
  · exact Or.inr ⟨v, c1, c2, c3, fun u hu q => by have := key u q; omega⟩
theorem ib_tm31 {lf : Nat → Nat} {be : Nat → Int} {z : Nat → Nat} {A R : Nat} (hA : A < 256) (hR : ib_sb R A) (k : ivM → Option (Int × ivM)) (m : Nat → Int) (hm : ∀ Q, Q < R → ib_sb Q A → ib_mv lf be z Q (m Q)) : ∀ (f n : Nat) (μ : ivM), f < n → ib_sb f R → (∀ F, ib_sb F R → ib_is (μ 123 F) (ib_ca lf be z 6 F)) → (∀ Q, Q < R → μ 125 Q = m Q) → ib_mw lf be z R f (μ 125 R) m →
    ∃ ν, lp_X10_timesOf_31 A R k n f μ = k ν ∧ (∀ a q, ¬ (a = 125 ∧ q = R) → ν a q = μ a q) ∧ ib_mw lf be z R 0 (ν 125 R) m := by
  have hR2 : R < 256 := ib_sb_256 hR hA
  intro f
  induction f using Nat.strongRecOn with
  | ind f ih =>
    intro n μ hn hf hC hq hw
    obtain ⟨n, rfl⟩ : ∃ q, n = q + 1 := ⟨n - 1, by omega⟩
    by_cases h0 : f = 0
    · subst h0
      unfold lp_X10_timesOf_31
      rw [if_pos (by omega)]
      exact ⟨μ, rfl, fun _ _ _ => rfl, hw⟩
    · have hfR := ib_sb_le hf
      have hnd : iv_nd R f < 256 := ib_nd_256 hR2
      obtain ⟨hp1, hp2⟩ := ib_pc_less hR2 hf h0
      have hxle : μ 125 R ≤ 999 := by
        rcases hw.1 with c | ⟨v, c1, c2, _⟩
        · omega
        · have := ib_pc_le8 (S := R); omega
      have fin : ∀ v : Int, ((v = 999 ∧ ¬ ib_ca lf be z 6 f) ∨ (ib_ca lf be z 6 f ∧ v = m (iv_nd R f) + 1)) → ∃ ν, (if μ 125 R ≤ v then iv_ck (0 ≤ (R : Int) ∧ (R : Int) < 256) (iv_ck (0 ≤ (R : Int) ∧ (R : Int) < 256) (lp_X10_timesOf_31 A R k n (iv_and (iv_wr ((f : Int) - 1)) R) (iv_upd μ 125 R (μ 125 R)))) else iv_ck (0 ≤ (R : Int) ∧ (R : Int) < 256) (lp_X10_timesOf_31 A R k n (iv_and (iv_wr ((f : Int) - 1)) R) (iv_upd μ 125 R v))) = k ν ∧ (∀ a q, ¬ (a = 125 ∧ q = R) → ν a q = μ a q) ∧ ib_mw lf be z R 0 (ν 125 R) m := by
        intro v hv
        obtain ⟨s1, s2, s3⟩ := ib_fd_spec (S := R) (f - 1)
        have go : ∀ x : Int, ib_mw lf be z R (ib_fd R (f - 1)) x m → ∃ ν, lp_X10_timesOf_31 A R k n ((ib_fd R (f - 1) : Nat) : Int) (iv_upd μ 125 R x) = k ν ∧ (∀ a q, ¬ (a = 125 ∧ q = R) → ν a q = μ a q) ∧ ib_mw lf be z R 0 (ν 125 R) m := by
          intro x hx
          obtain ⟨ν, e, fr, w⟩ := ih (ib_fd R (f - 1)) (by omega) n (iv_upd μ 125 R x) (by omega) s2 (fun F hF => by rw [iv_upd_na (by omega)]; exact hC F hF) (fun Q hQ => by rw [iv_upd_nk (by omega)]; exact hq Q hQ) (by rw [iv_upd_at]; exact hx)
          refine ⟨ν, e, fun a q hc => ?_, w⟩
          rw [fr a q hc]
          unfold iv_upd
          rw [if_neg hc]
        have cov : ∀ x : Int, x ≤ μ 125 R → x ≤ v → ∀ F, ib_sb F R → ib_fd R (f - 1) < F → ib_ca lf be z 6 F → x ≤ m (iv_nd R F) + 1 := by
          intro x hx1 hx2 F hF hlt hca
          rcases Nat.lt_trichotomy F f with c | c | c
          · exact absurd hF (s3 F hlt (by omega))
          · subst c
            rcases hv with ⟨_, c⟩ | ⟨_, c⟩
            · exact absurd hca c
            · omega
          · have := hw.2 F hF c hca
            omega
        rw [ib_pv hf hR2 (by omega), iv_ck_pos (by omega), iv_ck_pos (by omega), iv_ck_pos (by omega)]
        by_cases c : μ 125 R ≤ v
        · rw [if_pos c]
          exact go _ ⟨hw.1, cov _ (Int.le_refl _) c⟩
        · rw [if_neg c]
          refine go _ ⟨?_, cov _ (by omega) (Int.le_refl _)⟩
          rcases hv with ⟨c1, _⟩ | ⟨c1, c2⟩
          · exact Or.inl c1
          · rcases hm (iv_nd R f) hp2 (ib_sb_ndl.tr hR) with ⟨q, _⟩ | ⟨u, q1, q2, q3, _⟩
            · omega
            · refine Or.inr ⟨u + 1, by omega, by omega, ?_⟩
              rw [show 6 * (u + 1) = 6 * u + 6 by omega]
              exact (ib_ca_add 6 R).mpr ⟨f, hf, c1, q3⟩
      unfold lp_X10_timesOf_31
      simp only [iv_let, Int.toNat_natCast]
      rw [if_neg (by omega), iv_andn (by omega) (by omega), ib_sb_nd.mpr hR, if_pos (show ((0 : Nat) : Int) = 0 from rfl), iv_ck_pos (by omega), iv_andn (by omega) (by omega), Int.toNat_natCast]
      rcases hC f hf with ⟨c1, c2⟩ | ⟨c1, c2⟩
      · rw [c1, if_neg (by decide), iv_ck_pos (by omega), iv_ck_pos (by omega), hq _ hp2]
        have hmb : -1 ≤ m (iv_nd R f) ∧ m (iv_nd R f) ≤ 999 := by
          rcases hm (iv_nd R f) hp2 (ib_sb_ndl.tr hR) with ⟨q, _⟩ | ⟨u, q1, q2, _⟩
          · omega
          · have := ib_pc_le8 (S := iv_nd R f); omega
        exact fin _ (Or.inr ⟨c2, iv_wr_id (by omega) (by omega)⟩)
      · rw [c1, if_pos rfl, iv_ck_pos (by omega)]
        exact fin _ (Or.inl ⟨rfl, c2⟩)
theorem ib_tm2 (h : ib_inv D s) {w : Int} {A : Nat} (hA : A < 2 ^ ib_T s) (k : ivM → Option (Int × ivM)) : ∀ (d R n : Nat) (μ : ivM), R + d = 2 ^ ib_T s → d < n → ib_ag s μ → ib_CT s w 0 μ (2 ^ ib_T s) → (∀ Q, Q < R → ib_sb Q A → ib_mv (ib_lw s w) (ib_be s) (ib_z s) Q (μ 125 Q)) →
    ∃ ν, lp_X10_timesOf_2 A k n R μ = k ν ∧ ib_fr 125 125 μ ν ∧ ib_mv (ib_lw s w) (ib_be s) (ib_z s) A (ν 125 A) := by
  have hT := ib_T256 h
  intro d
  induction d with
  | zero =>
    intro R n μ hR hn g hC hq
    obtain ⟨n, rfl⟩ : ∃ q, n = q + 1 := ⟨n - 1, by omega⟩
    unfold lp_X10_timesOf_2
    rw [ib_sh1 h g, if_pos (by omega)]
    exact ⟨μ, rfl, ib_fr.rfl, hq A (by omega) ib_sb.rfl⟩
  | succ d ih =>
    intro R n μ hR hn g hC hq
    obtain ⟨n, rfl⟩ : ∃ q, n = q + 1 := ⟨n - 1, by omega⟩
    -- what comes behind the inner loop
    have go : ∀ μ1 : ivM, (∀ a q, ¬ (a = 125 ∧ q = R) → μ1 a q = μ a q) → (ib_sb R A → ib_mv (ib_lw s w) (ib_be s) (ib_z s) R (μ1 125 R)) → ∃ ν, lp_X10_timesOf_2 A k n (iv_wr ((R : Int) + 1)) μ1 = k ν ∧ ib_fr 125 125 μ ν ∧ ib_mv (ib_lw s w) (ib_be s) (ib_z s) A (ν 125 A) := by
      intro μ1 fr hv
      have f1 : ib_fr 125 125 μ μ1 := fun a q hc => fr a q (by omega)
      rw [iv_wr_succ (by omega)]
      obtain ⟨ν, e, f, v⟩ := ih (R + 1) n μ1 (by omega) (by omega) (g.fr f1 (fun a k h1 h2 => ib_r124 a k (by omega) h2)) (fun Q hQ => by rw [fr _ _ (by omega)]; exact hC Q hQ) (fun Q hQ hs => by
        by_cases c : Q = R
        · subst c; exact hv hs
        · rw [fr _ _ (by omega)]; exact hq Q (by omega) hs)
      exact ⟨ν, e, f1.tr f, v⟩
    have fin : ∀ x : Int, (R = 0 → x = 0) → (R ≠ 0 → x = 999) → ∃ ν, iv_ck (0 ≤ (R : Int) ∧ (R : Int) < 256) (lp_X10_timesOf_31 A R (fun (μ33 : ivM) => lp_X10_timesOf_2 A k n (iv_wr ((R : Int) + 1)) μ33) iv_fuel R (iv_upd μ 125 (R : Int).toNat x)) = k ν ∧ ib_fr 125 125 μ ν ∧ ib_mv (ib_lw s w) (ib_be s) (ib_z s) A (ν 125 A) := by
      intro x hx0 hx1
      have fr0 : ∀ a q, ¬ (a = 125 ∧ q = R) → iv_upd μ 125 R x a q = μ a q := fun a q hc => by
        unfold iv_upd
        rw [if_neg hc]
      rw [iv_ck_pos (by omega), Int.toNat_natCast]
      by_cases h0 : R = 0
      · subst h0
        rw [show iv_fuel = 999999 + 1 from rfl]
        unfold lp_X10_timesOf_31
        rw [if_pos (by omega)]
        refine go _ fr0 (fun _ => ?_)
        rw [iv_upd_at, hx0 rfl]
        exact Or.inr ⟨0, rfl, Nat.zero_le _, rfl, fun u hu => by omega⟩
      · by_cases hs : ib_sb R A
        · obtain ⟨ν, e, fr, wv⟩ := ib_tm31 (lf := ib_lw s w) (be := ib_be s) (z := ib_z s) (A := A) (R := R) (by omega) hs (fun (μ33 : ivM) => lp_X10_timesOf_2 A k n (iv_wr ((R : Int) + 1)) μ33) (fun Q => μ 125 Q) hq R iv_fuel (iv_upd μ 125 R x) (by unfold iv_fuel; omega) ib_sb.rfl (fun F hF => by
            have hle := ib_sb_le hF
            have := hC F (by omega)
            rw [show 256 * 0 + F = F by omega] at this
            rw [iv_upd_na (by omega)]; exact this) (fun Q hQ => by rw [iv_upd_nk (by omega)]) ⟨Or.inl (by rw [iv_upd_at]; exact hx1 h0), fun F hF hlt => by have := ib_sb_le hF; omega⟩
          rw [e]
          refine go ν (fun a q hc => (fr a q hc).trans (fr0 a q hc)) (fun _ => ib_mw_end (by omega) h0 wv (fun F hF hF0 => ?_))
          have := ib_pc_less (by omega) hF hF0
          exact hq _ this.2 (ib_sb_ndl.tr hs)
        · rw [show iv_fuel = 999999 + 1 from rfl]
          unfold lp_X10_timesOf_31
          rw [if_neg (by omega), iv_andn (by omega) (by omega), if_neg (by
            intro c
            exact hs (ib_sb_nd.mp (by omega)))]
          exact go _ fr0 (fun c => absurd c hs)
    unfold lp_X10_timesOf_2
    simp only [iv_let]
    rw [ib_sh1 h g, if_neg (by omega)]
    by_cases c : R = 0
    · rw [if_pos (by omega)]
      exact fin 0 (fun _ => rfl) (fun q => absurd c q)
    · rw [if_neg (by omega)]
      exact fin 999 (fun q => absurd q c) (fun _ => rfl)
theorem ib_timesOf (h : ib_inv D s) {w : Int} {A : Nat} (hA : A < 2 ^ ib_T s) {μ : ivM} (g : ib_ag s μ) (hC : ib_CT s w 0 μ (2 ^ ib_T s)) : ∃ x ν, f_X10_timesOf A μ = some (x, ν) ∧ ib_ag s ν ∧ ib_mv (ib_lw s w) (ib_be s) (ib_z s) A x := by
  have hT := ib_T256 h
  unfold f_X10_timesOf
  obtain ⟨ν, e, f, v⟩ := ib_tm2 h hA (fun (μ40 : ivM) => iv_ck (0 ≤ (A : Int) ∧ (A : Int) < 256) <| some ((μ40 125 (A : Int).toNat), μ40)) (2 ^ ib_T s) 0 iv_fuel μ (by omega) (by unfold iv_fuel; omega) g hC (fun Q hQ => by omega)
  rw [show ((0 : Nat) : Int) = 0 from rfl] at e
  rw [e, iv_ck_pos (by omega), Int.toNat_natCast]
  exact ⟨_, ν, rfl, g.fr f (fun a k h1 h2 => ib_r124 a k (by omega) h2), v⟩
end IBL
