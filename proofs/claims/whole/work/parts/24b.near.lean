/-! WHICH NAMES ARE NEAR, CLEAR, LIFTED -/
def ib_nr (s : ivM) (t o : Nat) : Bool := decide (((ib_D (ib_sn s t) (ib_sn s o) (ib_z s t) (ib_z s o) : Nat) : Int) ≤ s 110 12)
/-- the live ones other than t that are near t -/
def ib_ns (s : ivM) (t : Nat) : Nat := ib_set (fun o => decide (o ≠ t) && ib_lv s o && ib_nr s t o) 8
def ib_cl (s : ivM) (t : Nat) : Bool := ib_lv s t && Nat.beq (ib_ns s t) 0
def ib_lf (s : ivM) (p t : Nat) : Bool := decide (p < ib_P s) && ib_cl s t && (ib_kn s t).testBit p && decide ((ib_z s t : Int) ≤ s 119 p)
theorem ib_D_sym (u v : Nat → Int) : ∀ i j, ib_D u v i j = ib_D v u j i
  | 0, j => by rw [ib_D_0, ib_D_i0]
  | i + 1, 0 => by rw [ib_D_s0, ib_D_0]
  | i + 1, j + 1 => by
    rw [ib_D_ss, ib_D_ss, ib_D_sym u v i j, ib_D_sym u v i (j + 1), ib_D_sym u v (i + 1) j]
    by_cases c : v j = u i
    · rw [if_pos c, if_pos c.symm]; omega
    · rw [if_neg c, if_neg (fun e => c e.symm)]; omega
theorem ib_nr_sym (s : ivM) (t o : Nat) : ib_nr s t o = ib_nr s o t := by unfold ib_nr; rw [ib_D_sym]
theorem ib_lv_lt {s : ivM} {t : Nat} (h : ib_lv s t = true) : t < ib_T s := (of_decide_eq_true h).1
theorem ib_lv_8 {D : Int} {s : ivM} (h : ib_inv D s) {t : Nat} (c : ib_lv s t = true) : t < 8 := Nat.lt_of_lt_of_le (ib_lv_lt c) h.T.2.1
theorem ib_ns_bit {s : ivM} {t o : Nat} : (ib_ns s t).testBit o = true ↔ o < 8 ∧ o ≠ t ∧ ib_lv s o = true ∧ ib_nr s t o = true := by
  unfold ib_ns
  rw [ib_set_bit, Bool.and_eq_true, Bool.and_eq_true, Bool.and_eq_true, decide_eq_true_eq, decide_eq_true_eq]
  constructor
  · rintro ⟨a, ⟨b, c⟩, d⟩; exact ⟨a, b, c, d⟩
  · rintro ⟨a, b, c, d⟩; exact ⟨a, ⟨b, c⟩, d⟩
theorem ib_zero_bit {a : Nat} : a = 0 ↔ ∀ i, a.testBit i = false := by
  constructor
  · rintro rfl i; exact Nat.zero_testBit i
  · intro h
    apply Nat.eq_of_testBit_eq
    intro i; rw [h i, Nat.zero_testBit]
theorem ib_cl_iff {s : ivM} {t : Nat} : ib_cl s t = true ↔ ib_lv s t = true ∧ ∀ o, o < 8 → o ≠ t → ib_lv s o = true → ib_nr s t o = false := by
  unfold ib_cl
  rw [Bool.and_eq_true, Nat.beq_eq, ib_zero_bit]
  constructor
  · rintro ⟨a, b⟩
    refine ⟨a, fun o h1 h2 h3 => ?_⟩
    cases hn : ib_nr s t o
    · rfl
    · have := b o
      rw [ib_ns_bit.mpr ⟨h1, h2, h3, hn⟩] at this
      exact this
  · rintro ⟨a, b⟩
    refine ⟨a, fun o => ?_⟩
    cases hn : (ib_ns s t).testBit o
    · rfl
    · have := ib_ns_bit.mp hn
      rw [b o this.1 this.2.1 this.2.2.1] at this
      cases this.2.2.2
section IBN
variable {D : Int} {s : ivM}
theorem ib_r31 : ∀ a k : Nat, 24 ≤ a → a ≤ 31 → ib_scr a k := fun a k _ _ => by unfold ib_scr; omega
/-- the class's nearTo -/
def ib_nq (s : ivM) (u : Nat → Int) (p S o : Nat) : Bool := S.testBit o && decide (((ib_D u (ib_sn s o) p (ib_z s o) : Nat) : Int) ≤ s 110 12)
theorem ib_nearTo_lp (h : ib_inv D s) {u : Nat → Int} {p S : Nat} (hu : ib_ok5 u p) (hS : S < 256) : ∀ (d k n : Nat) (μ : ivM), k + d = 8 → d < n → ib_ag s μ →
    ∃ ν, lp_X9_nearTo_5 (ib_nc u p) S n (ib_set (ib_nq s u p S) k) k μ = some (((ib_set (ib_nq s u p S) 8 : Nat) : Int), ν) ∧ ib_fr 24 31 μ ν := by
  intro d
  induction d with
  | zero =>
    intro k n μ hk hn g
    obtain ⟨n, rfl⟩ : ∃ q, n = q + 1 := ⟨n - 1, by omega⟩
    unfold lp_X9_nearTo_5
    rw [if_pos (by omega), show k = 8 by omega]
    exact ⟨μ, rfl, ib_fr.rfl⟩
  | succ d ih =>
    intro k n μ hk hn g
    obtain ⟨n, rfl⟩ : ∃ q, n = q + 1 := ⟨n - 1, by omega⟩
    have hm := h.m (t := k) (by omega)
    unfold lp_X9_nearTo_5
    rw [if_neg (by omega), ib_has (by omega) (by omega), iv_bnd_some]
    simp only [iv_let, Int.toNat_natCast]
    rw [iv_wr_succ (by omega)]
    cases hb : S.testBit k
    · have hf : ib_nq s u p S k = false := by unfold ib_nq; rw [hb]; rfl
      rw [ib_iz, if_neg (by decide), ← ib_set_f hf]
      exact ih (k + 1) n μ (by omega) (by omega) g
    · obtain ⟨ν, e, f⟩ := ib_between hu hm.1 μ
      rw [ib_iz, if_pos rfl, iv_ck_pos (by omega), g.c (a := 12) rfl, hm.2.2.2.1, e, iv_bnd_some, f 9 1 (by omega), g.c (a := 9) rfl, h.R.1]
      by_cases c : s 110 12 < (ib_D u (ib_sn s k) p (ib_z s k) : Nat)
      · have hf : ib_nq s u p S k = false := by unfold ib_nq; rw [hb, decide_eq_false (by omega)]; rfl
        rw [if_pos c, ← ib_set_f hf]
        obtain ⟨κ, e2, f2⟩ := ih (k + 1) n ν (by omega) (by omega) (g.fr f ib_r31)
        exact ⟨κ, e2, f.tr f2⟩
      · have hf : ib_nq s u p S k = true := by unfold ib_nq; rw [hb, decide_eq_true (by omega)]; rfl
        rw [if_neg c, ib_set_t hf (by omega)]
        obtain ⟨κ, e2, f2⟩ := ih (k + 1) n ν (by omega) (by omega) (g.fr f ib_r31)
        exact ⟨κ, e2, f.tr f2⟩
theorem ib_nearTo (h : ib_inv D s) {u : Nat → Int} {p S : Nat} (hu : ib_ok5 u p) (hS : S < 256) {μ : ivM} (g : ib_ag s μ) :
    ∃ ν, f_X9_nearTo (ib_nc u p) S μ = some (((ib_set (ib_nq s u p S) 8 : Nat) : Int), ν) ∧ ib_fr 24 31 μ ν :=
  ib_nearTo_lp h hu hS 8 0 iv_fuel μ (by omega) (by decide) g
theorem ib_behind : ∀ L, L < 256 → ∀ k, k < 8 → iv_and (L : Nat) (iv_wr (-(iv_shl 2 (k : Nat)))) = ((L >>> (k + 1) <<< (k + 1) : Nat) : Int) := by decide +kernel
theorem ib_behind_bit {L k i : Nat} : (L >>> (k + 1) <<< (k + 1)).testBit i = (decide (k < i) && L.testBit i) := by
  rw [Nat.testBit_shiftLeft, Nat.testBit_shiftRight]
  by_cases c : k < i
  · rw [decide_eq_true c, decide_eq_true (by omega), show k + 1 + (i - (k + 1)) = i by omega]
  · rw [decide_eq_false c, decide_eq_false (by omega), Bool.false_and, Bool.false_and]
/-- what is left of the clear ones, once the first k have been asked -/
def ib_pk (s : ivM) (k c : Nat) : Prop := c < 256 ∧ ∀ t, c.testBit t = true ↔ ib_lv s t = true ∧ ∀ a b, a < k → a < b → b < 8 → ib_lv s a = true → ib_lv s b = true → ib_nr s a b = true → t ≠ a ∧ t ≠ b
theorem ib_live_bit (h : ib_inv D s) {t : Nat} : (ib_set (ib_lv s) 8).testBit t = ib_lv s t := by
  rw [ib_set_bit]
  cases hb : ib_lv s t
  · simp
  · rw [decide_eq_true (ib_lv_8 h hb)]; rfl
theorem ib_pk8 (h : ib_inv D s) {c : Nat} (hc : ib_pk s 8 c) : c = ib_set (ib_cl s) 8 := by
  apply Nat.eq_of_testBit_eq
  intro t
  rw [ib_set_bit]
  apply Bool.eq_iff_iff.mpr
  rw [Bool.and_eq_true, decide_eq_true_eq, ib_cl_iff, hc.2 t]
  constructor
  · rintro ⟨h1, h2⟩
    refine ⟨ib_lv_8 h h1, h1, fun o ho hne hl => ?_⟩
    cases hn : ib_nr s t o
    · rfl
    · exfalso
      have := ib_lv_8 h h1
      rcases Nat.lt_or_gt_of_ne hne with c | c
      · exact (h2 o t (by omega) c (by omega) hl h1 (by rw [ib_nr_sym]; exact hn)).2 rfl
      · exact (h2 t o (by omega) c (by omega) h1 hl hn).1 rfl
  · rintro ⟨_, h1, h2⟩
    refine ⟨h1, fun a b ha hab hb hla hlb hn => ⟨?_, ?_⟩⟩
    · rintro rfl
      rw [h2 b hb (by omega) hlb] at hn; cases hn
    · rintro rfl
      rw [ib_nr_sym, h2 a (by omega) (by omega) hla] at hn; cases hn
theorem ib_clearOnes_lp (h : ib_inv D s) : ∀ (d k n c : Nat) (μ : ivM), k + d = 8 → d < n → ib_ag s μ → ib_pk s k c →
    ∃ ν, lp_X9_clearOnes_12 (ib_set (ib_lv s) 8) n c k μ = some (((ib_set (ib_cl s) 8 : Nat) : Int), ν) ∧ ib_fr 24 31 μ ν := by
  intro d
  induction d with
  | zero =>
    intro k n c μ hk hn g hc
    obtain ⟨n, rfl⟩ : ∃ q, n = q + 1 := ⟨n - 1, by omega⟩
    have e : k = 8 := by omega
    subst e
    unfold lp_X9_clearOnes_12
    rw [if_pos (by omega), ib_pk8 h hc]
    exact ⟨μ, rfl, ib_fr.rfl⟩
  | succ d ih =>
    intro k n c μ hk hn g hc
    obtain ⟨n, rfl⟩ : ∃ q, n = q + 1 := ⟨n - 1, by omega⟩
    have hm := h.m (t := k) (by omega)
    have hL : ib_set (ib_lv s) 8 < 256 := ib_set_lt8 _ (by omega)
    unfold lp_X9_clearOnes_12
    rw [if_neg (by omega), ib_has (by omega) (by omega), iv_bnd_some, ib_live_bit h]
    simp only [iv_let, Int.toNat_natCast]
    rw [iv_wr_succ (by omega)]
    cases hb : ib_lv s k
    · rw [ib_iz, if_neg (by decide)]
      refine ih (k + 1) n c μ (by omega) (by omega) g ⟨hc.1, fun t => (hc.2 t).trans ?_⟩
      constructor
      · rintro ⟨h1, h2⟩
        refine ⟨h1, fun a b ha hab hb8 hla hlb hn => ?_⟩
        by_cases e : a = k
        · subst e; rw [hb] at hla; cases hla
        · exact h2 a b (by omega) hab hb8 hla hlb hn
      · rintro ⟨h1, h2⟩
        exact ⟨h1, fun a b ha hab hb8 hla hlb hn => h2 a b (by omega) hab hb8 hla hlb hn⟩
    · have hS : (ib_set (ib_lv s) 8) >>> (k + 1) <<< (k + 1) < 256 := by
        apply Nat.lt_pow_two_of_testBit (n := 8)
        intro i hi
        rw [ib_behind_bit, ib_set_bit, decide_eq_false (show ¬ i < 8 by omega), Bool.false_and, Bool.and_false]
      obtain ⟨ν, e, f⟩ := ib_nearTo h hm.1 hS g
      rw [ib_iz, if_pos rfl, iv_ck_pos (by omega), g.c (a := 12) rfl, hm.2.2.2.1, ib_behind _ hL k (by omega), e, iv_bnd_some]
      have hbit : ∀ o, (ib_set (ib_nq s (ib_sn s k) (ib_z s k) ((ib_set (ib_lv s) 8) >>> (k + 1) <<< (k + 1))) 8).testBit o = true ↔ o < 8 ∧ k < o ∧ ib_lv s o = true ∧ ib_nr s k o = true := by
        intro o
        rw [ib_set_bit]
        unfold ib_nq
        rw [ib_behind_bit, ib_live_bit h, Bool.and_eq_true, Bool.and_eq_true, Bool.and_eq_true, decide_eq_true_eq, decide_eq_true_eq]
        unfold ib_nr
        constructor
        · rintro ⟨a, ⟨b, c⟩, d⟩; exact ⟨a, b, c, d⟩
        · rintro ⟨a, b, c, d⟩; exact ⟨a, ⟨b, c⟩, d⟩
      have hlt := ib_set_lt8 (ib_nq s (ib_sn s k) (ib_z s k) ((ib_set (ib_lv s) 8) >>> (k + 1) <<< (k + 1))) (n := 8) (by omega)
      generalize hN : ib_set (ib_nq s (ib_sn s k) (ib_z s k) ((ib_set (ib_lv s) 8) >>> (k + 1) <<< (k + 1))) 8 = N at *
      by_cases hN0 : N = 0
      · rw [if_pos (by omega)]
        have hc2 : ib_pk s (k + 1) c := by
          refine ⟨hc.1, fun t => (hc.2 t).trans ?_⟩
          constructor
          · rintro ⟨h1, h2⟩
            refine ⟨h1, fun a b ha hab hb8 hla hlb hn => ?_⟩
            by_cases e : a = k
            · subst e
              have := (hbit b).mpr ⟨hb8, hab, hlb, hn⟩
              rw [hN0, Nat.zero_testBit] at this
              cases this
            · exact h2 a b (by omega) hab hb8 hla hlb hn
          · rintro ⟨h1, h2⟩
            exact ⟨h1, fun a b ha hab hb8 hla hlb hn => h2 a b (by omega) hab hb8 hla hlb hn⟩
        obtain ⟨κ, e2, f2⟩ := ih (k + 1) n c ν (by omega) (by omega) (g.fr f ib_r31) hc2
        exact ⟨κ, e2, f.tr f2⟩
      · rw [if_neg (by omega), ib_orb (by omega) (by omega)]
        have hk2 : 1 <<< k < 256 := by rw [Nat.one_shiftLeft]; exact (show 2 ^ k < 2 ^ 8 from Nat.pow_lt_pow_right (by omega) (by omega))
        rw [iv_andn (by have := hc.1; omega) (Nat.lt_of_lt_of_le (Nat.or_lt_two_pow (n := 8) hlt hk2) (by omega))]
        have hc2 : ib_pk s (k + 1) (iv_nd c (N ||| 1 <<< k)) := by
          refine ⟨iv_nd_lt (n := 8) hc.1, fun t => ?_⟩
          rw [iv_nd_bit, Bool.and_eq_true, hc.2 t, Bool.not_eq_true', Nat.testBit_or, Nat.one_shiftLeft, Nat.testBit_two_pow, Bool.or_eq_false_iff, decide_eq_false_iff_not]
          obtain ⟨o1, ho1⟩ : ∃ o, N.testBit o = true := by
            rcases Classical.em (∃ o, N.testBit o = true) with c | c
            · exact c
            · exact absurd (ib_zero_bit.mpr fun i => by
                cases hh : N.testBit i
                · rfl
                · exact absurd ⟨i, hh⟩ c) hN0
          have ho1' := (hbit o1).mp ho1
          constructor
          · rintro ⟨⟨h1, h2⟩, h3, h4⟩
            refine ⟨h1, fun a b ha hab hb8 hla hlb hn => ?_⟩
            by_cases e : a = k
            · subst e
              refine ⟨fun e => h4 e.symm, fun e => ?_⟩
              subst e
              rw [(hbit t).mpr ⟨hb8, hab, hlb, hn⟩] at h3
              cases h3
            · exact h2 a b (by omega) hab hb8 hla hlb hn
          · rintro ⟨h1, h2⟩
            refine ⟨⟨h1, fun a b ha hab hb8 hla hlb hn => h2 a b (by omega) hab hb8 hla hlb hn⟩, ?_, ?_⟩
            · cases hh : N.testBit t
              · rfl
              · have := (hbit t).mp hh
                exact absurd rfl (h2 k t (by omega) this.2.1 this.1 hb this.2.2.1 this.2.2.2).2
            · intro e
              exact (h2 k o1 (by omega) ho1'.2.1 ho1'.1 hb ho1'.2.2.1 ho1'.2.2.2).1 e.symm
        obtain ⟨κ, e2, f2⟩ := ih (k + 1) n (iv_nd c (N ||| 1 <<< k)) ν (by omega) (by omega) (g.fr f ib_r31) hc2
        exact ⟨κ, e2, f.tr f2⟩
theorem ib_clearOnes (h : ib_inv D s) (hD : D ≤ 60000) {μ : ivM} (g : ib_ag s μ) : ∃ ν, f_X9_clearOnes μ = some (((ib_set (ib_cl s) 8 : Nat) : Int), ν) ∧ ib_fr 24 31 μ ν := by
  unfold f_X9_clearOnes
  rw [ib_liveOnes h hD g, iv_bnd_some]
  refine ib_clearOnes_lp h 8 0 iv_fuel _ μ (by omega) (by decide) g ⟨ib_set_lt8 _ (by omega), fun t => ?_⟩
  rw [ib_live_bit h]
  exact ⟨fun c => ⟨c, fun a b ha => by omega⟩, fun c => c.1⟩
/-- the class's liftedBy -/
theorem ib_liftedBy_lp (h : ib_inv D s) {p : Nat} (hp : p < ib_P s) : ∀ (d k n : Nat) (μ : ivM), k + d = 8 → d < n → ib_ag s μ →
    lp_X9_liftedBy_18 p (ib_set (ib_cl s) 8) n (ib_set (ib_lf s p) k) k μ = some (((ib_set (ib_lf s p) 8 : Nat) : Int), μ) := by
  have hP := h.P
  have hB := (h.B (p := p) (by omega)).1 hp
  have hC := ib_set_lt8 (ib_cl s) (n := 8) (by omega)
  intro d
  induction d with
  | zero =>
    intro k n μ hk hn g
    obtain ⟨n, rfl⟩ : ∃ q, n = q + 1 := ⟨n - 1, by omega⟩
    unfold lp_X9_liftedBy_18
    rw [if_pos (by omega), show k = 8 by omega]
  | succ d ih =>
    intro k n μ hk hn g
    obtain ⟨n, rfl⟩ : ∃ q, n = q + 1 := ⟨n - 1, by omega⟩
    have hm := h.m (t := k) (by omega)
    have hkn : ib_kn s k < 256 := Nat.lt_of_lt_of_le hm.2.2.2.2.2.2.2.2.2.1 (Nat.pow_le_pow_right (n := 2) (j := 8) (by omega) (by omega))
    unfold lp_X9_liftedBy_18
    rw [if_neg (by omega), ib_has (by omega) (by omega), iv_bnd_some, ib_set_bit, decide_eq_true (show k < 8 by omega), Bool.true_and]
    simp only [iv_let, Int.toNat_natCast]
    rw [iv_wr_succ (by omega), iv_ck_pos (by omega), g.c (a := 14) rfl, hm.2.2.2.2.2.2.2.1, ib_has (by omega) (by omega), iv_bnd_some, iv_ck_pos (by omega), g.c (a := 12) rfl, hm.2.2.2.1, ib_lengthOf hm.1, iv_bnd_some, iv_ck_pos (by omega), g.c (a := 10) rfl, hB.1]
    rw [← ih (k + 1) n μ (by omega) (by omega) g]
    cases h1 : ib_cl s k
    · rw [ib_set_f (f := ib_lf s p) (by unfold ib_lf; rw [h1, Bool.and_false]; rfl)]; rfl
    · cases h2 : (ib_kn s k).testBit p
      · rw [ib_set_f (f := ib_lf s p) (by unfold ib_lf; rw [h2, Bool.and_false]; rfl)]; rfl
      · by_cases h3 : (ib_z s k : Int) ≤ s 119 p
        · rw [← ib_set_t (f := ib_lf s p) (by unfold ib_lf; rw [h1, h2, decide_eq_true hp, decide_eq_true h3]; rfl) (by omega), ib_iz, if_pos rfl, ib_iz, if_pos rfl, if_neg (by omega)]
        · rw [ib_set_f (f := ib_lf s p) (by unfold ib_lf; rw [decide_eq_false h3, Bool.and_false]), ib_iz, if_pos rfl, ib_iz, if_pos rfl, if_pos (by omega)]
theorem ib_lf0 {p : Nat} (hp : ¬ p < ib_P s) : ib_set (ib_lf s p) 8 = 0 := by
  apply ib_zero_bit.mpr
  intro i
  rw [ib_set_bit]
  unfold ib_lf
  rw [decide_eq_false hp, Bool.false_and, Bool.false_and, Bool.false_and, Bool.and_false]
theorem ib_liftedBy (h : ib_inv D s) {p : Nat} (hp : p < 6) {μ : ivM} (g : ib_ag s μ) : f_X9_liftedBy p (ib_set (ib_cl s) 8) μ = some (((ib_set (ib_lf s p) 8 : Nat) : Int), μ) := by
  have hP := h.P
  unfold f_X9_liftedBy
  rw [ib_hasPerson, iv_bnd_some, g.c (a := 9) rfl, hP.2.2]
  by_cases c : p < ib_P s
  · rw [ib_iz, if_pos (by omega)]
    exact ib_liftedBy_lp h c 8 0 iv_fuel μ (by omega) (by decide) g
  · rw [ib_iz, if_neg (by omega), ib_lf0 c]; rfl
/-! the model's -/
theorem ib_nearToM_lp (h : ib_inv D s) (hD : D ≤ 60000) {t : Nat} (ht : t < ib_T s) : ∀ (d k n : Nat) (μ : ivM), k + d = ib_T s → d < n → ib_ag s μ →
    ∃ ν, lp_X10_nearTo_4 t n (ib_set (fun o => decide (o ≠ t) && ib_lv s o && ib_nr s t o) k) k μ = some (((ib_set (fun o => decide (o ≠ t) && ib_lv s o && ib_nr s t o) (ib_T s) : Nat) : Int), ν) ∧ ib_ag s ν := by
  have hT := h.T
  intro d
  induction d with
  | zero =>
    intro k n μ hk hn g
    obtain ⟨n, rfl⟩ : ∃ q, n = q + 1 := ⟨n - 1, by omega⟩
    unfold lp_X10_nearTo_4
    rw [g.f rfl, hT.1, if_pos (by omega), show k = ib_T s by omega]
    exact ⟨μ, rfl, g⟩
  | succ d ih =>
    intro k n μ hk hn g
    obtain ⟨n, rfl⟩ : ∃ q, n = q + 1 := ⟨n - 1, by omega⟩
    unfold lp_X10_nearTo_4
    rw [g.f rfl, hT.1, if_neg (by omega)]
    simp only [iv_let]
    rw [iv_wr_succ (by omega)]
    by_cases hkt : k = t
    · have hf : (fun o => decide (o ≠ t) && ib_lv s o && ib_nr s t o) k = false := by simp [hkt]
      rw [if_pos (by omega), ib_set_f0 hf (by omega)]
      exact ih (k + 1) n μ (by omega) (by omega) g
    · rw [if_neg (by omega), ib_isLiveM h hD g (by omega), iv_bnd_some]
      cases hb : ib_lv s k
      · have hf : (fun o => decide (o ≠ t) && ib_lv s o && ib_nr s t o) k = false := by simp [hb]
        rw [ib_iz, if_neg (by decide), ib_set_f0 hf (by omega)]
        exact ih (k + 1) n μ (by omega) (by omega) g
      · obtain ⟨ν, e, g2⟩ := ib_offOf h (t := t) (o := k) (by omega) (by omega) g
        rw [ib_iz, if_pos rfl, e, iv_bnd_some, g2.f rfl]
        by_cases c : s 110 12 < (ib_D (ib_sn s t) (ib_sn s k) (ib_z s t) (ib_z s k) : Nat)
        · have hn : ib_nr s t k = false := decide_eq_false (by omega)
          have hf : (fun o => decide (o ≠ t) && ib_lv s o && ib_nr s t o) k = false := by simp [hn]
          rw [if_pos c, ib_set_f0 hf (by omega)]
          exact ih (k + 1) n ν (by omega) (by omega) g2
        · have hn : ib_nr s t k = true := decide_eq_true (by omega)
          have hf : (fun o => decide (o ≠ t) && ib_lv s o && ib_nr s t o) k = true := by simp [hn, hb, hkt]
          rw [if_neg c, ib_set_t hf (by omega)]
          exact ih (k + 1) n ν (by omega) (by omega) g2
theorem ib_nearToM (h : ib_inv D s) (hD : D ≤ 60000) {t : Nat} (ht : t < ib_T s) {μ : ivM} (g : ib_ag s μ) : ∃ ν, f_X10_nearTo t μ = some (((ib_ns s t : Nat) : Int), ν) ∧ ib_ag s ν := by
  have hT := h.T
  obtain ⟨ν, e, g2⟩ := ib_nearToM_lp h hD ht (ib_T s) 0 iv_fuel μ (by omega) (by unfold iv_fuel; omega) g
  refine ⟨ν, ?_, g2⟩
  have e2 : ib_set (fun o => decide (o ≠ t) && ib_lv s o && ib_nr s t o) (ib_T s) = ib_ns s t := by
    apply ib_set_ext
    intro i
    cases hb : ib_lv s i
    · simp [hb]
    · rw [decide_eq_true (ib_lv_lt hb), decide_eq_true (ib_lv_8 h hb)]
  rw [← e2]; exact e
theorem ib_isKnown (h : ib_inv D s) {p t : Nat} (hp : p < 6) (ht : t < 8) {μ : ivM} (g : ib_ag s μ) : f_X10_isKnown p t μ = some (if (ib_kn s t).testBit p then 1 else 0, μ) := by
  have hm := h.m ht
  have hkn : ib_kn s t < 256 := Nat.lt_of_lt_of_le hm.2.2.2.2.2.2.2.2.2.1 (Nat.pow_le_pow_right (n := 2) (j := 8) (by omega) (by have := h.P; omega))
  simp only [f_X10_isKnown, iv_let, Int.toNat_natCast]
  rw [iv_ck_pos (by omega), g.c (a := 117) rfl, hm.2.2.2.2.2.2.2.2.1, iv_bit (by omega) (by omega)]
  cases (ib_kn s t).testBit p <;> rfl
theorem ib_liftsOf_lp (h : ib_inv D s) (hD : D ≤ 60000) {p : Nat} (hp : p < ib_P s) : ∀ (d k n : Nat) (μ : ivM), k + d = ib_T s → d < n → ib_ag s μ →
    ∃ ν, lp_X10_liftsOf_4 p n (ib_set (ib_lf s p) k) k μ = some (((ib_set (ib_lf s p) (ib_T s) : Nat) : Int), ν) ∧ ib_ag s ν := by
  have hT := h.T
  have hP := h.P
  intro d
  induction d with
  | zero =>
    intro k n μ hk hn g
    obtain ⟨n, rfl⟩ : ∃ q, n = q + 1 := ⟨n - 1, by omega⟩
    unfold lp_X10_liftsOf_4
    rw [g.f rfl, hT.1, if_pos (by omega), show k = ib_T s by omega]
    exact ⟨μ, rfl, g⟩
  | succ d ih =>
    intro k n μ hk hn g
    obtain ⟨n, rfl⟩ : ∃ q, n = q + 1 := ⟨n - 1, by omega⟩
    have hm := h.m (t := k) (by omega)
    unfold lp_X10_liftsOf_4
    rw [g.f rfl, hT.1, if_neg (by omega), ib_isLiveM h hD g (by omega), iv_bnd_some]
    simp only [iv_let, Int.toNat_natCast]
    rw [iv_wr_succ (by omega), ib_isKnown h (by omega) (by omega) g, iv_bnd_some, iv_ck_pos (by omega), iv_ck_pos (by omega), g.c (a := 119) rfl, g.c (a := 116) rfl, hm.2.1]
    cases h0 : ib_lv s k
    · have hf : ib_lf s p k = false := by unfold ib_lf ib_cl; rw [h0]; simp
      rw [ib_iz, if_neg (by decide), ib_set_f0 hf (by omega)]
      exact ih (k + 1) n μ (by omega) (by omega) g
    · rw [ib_iz, if_pos rfl]
      cases h2 : (ib_kn s k).testBit p
      · have hf : ib_lf s p k = false := by unfold ib_lf; rw [h2, Bool.and_false]; rfl
        rw [ib_iz, if_neg (by decide), ib_set_f0 hf (by omega)]
        exact ih (k + 1) n μ (by omega) (by omega) g
      · rw [ib_iz, if_pos rfl]
        by_cases h3 : (ib_z s k : Int) ≤ s 119 p
        · obtain ⟨ν, e, g2⟩ := ib_nearToM h hD (t := k) (by omega) g
          rw [if_neg (by omega), e, iv_bnd_some]
          by_cases h4 : ib_ns s k = 0
          · have hf : ib_lf s p k = true := by unfold ib_lf ib_cl; rw [h0, h2, h4, decide_eq_true hp, decide_eq_true h3]; rfl
            rw [if_pos (by omega), ib_set_t hf (by omega)]
            exact ih (k + 1) n ν (by omega) (by omega) g2
          · have hf : ib_lf s p k = false := by
              have : Nat.beq (ib_ns s k) 0 = false := by
                cases hh : Nat.beq (ib_ns s k) 0
                · rfl
                · exact absurd (Nat.eq_of_beq_eq_true hh) h4
              unfold ib_lf ib_cl; rw [this]; simp
            rw [if_neg (by omega), ib_set_f0 hf (by omega)]
            exact ih (k + 1) n ν (by omega) (by omega) g2
        · have hf : ib_lf s p k = false := by unfold ib_lf; rw [decide_eq_false h3, Bool.and_false]
          rw [if_pos (by omega), ib_set_f0 hf (by omega)]
          exact ih (k + 1) n μ (by omega) (by omega) g
theorem ib_liftsOf (h : ib_inv D s) (hD : D ≤ 60000) {p : Nat} (hp : p < ib_P s) {μ : ivM} (g : ib_ag s μ) : ∃ ν, f_X10_liftsOf p μ = some (((ib_set (ib_lf s p) 8 : Nat) : Int), ν) ∧ ib_ag s ν := by
  have hT := h.T
  obtain ⟨ν, e, g2⟩ := ib_liftsOf_lp h hD hp (ib_T s) 0 iv_fuel μ (by omega) (by unfold iv_fuel; omega) g
  refine ⟨ν, ?_, g2⟩
  have e2 : ib_set (ib_lf s p) (ib_T s) = ib_set (ib_lf s p) 8 := by
    apply ib_set_ext
    intro i
    cases hb : ib_lf s p i
    · simp [hb]
    · have hl : ib_lv s i = true := by
        unfold ib_lf ib_cl at hb
        simp only [Bool.and_eq_true] at hb
        exact hb.1.1.2.1
      rw [decide_eq_true (ib_lv_lt hl), decide_eq_true (ib_lv_8 h hl)]
  rw [← e2]; exact e
end IBN
