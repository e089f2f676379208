/-! LOADS: WHAT CAN BE CARRIED, AND WHAT COMES OF LAYING THING BY THING -/
def ib_sb (a b : Nat) : Prop := ∀ i, a.testBit i = true → b.testBit i = true
theorem ib_sb_nd {a b : Nat} : iv_nd a b = 0 ↔ ib_sb a b := by
  rw [ib_zero_bit]
  constructor
  · intro h i hi
    have := h i
    rw [iv_nd_bit, hi, Bool.true_and, Bool.not_eq_false'] at this
    exact this
  · intro h i
    rw [iv_nd_bit]
    cases ha : a.testBit i
    · rfl
    · rw [h i ha]; rfl
theorem ib_sb.rfl {a : Nat} : ib_sb a a := fun _ h => h
theorem ib_sb.tr {a b c : Nat} (h : ib_sb a b) (g : ib_sb b c) : ib_sb a c := fun i hi => g i (h i hi)
theorem ib_sb_0 {a : Nat} : ib_sb 0 a := fun i hi => by rw [Nat.zero_testBit] at hi; cases hi
theorem ib_sb_ndl {a b : Nat} : ib_sb (iv_nd a b) a := fun i hi => by
  rw [iv_nd_bit, Bool.and_eq_true] at hi; exact hi.1
theorem ib_nd_0 {a : Nat} : iv_nd a 0 = a := by
  apply Nat.eq_of_testBit_eq; intro i; rw [iv_nd_bit, Nat.zero_testBit]; simp
theorem ib_nd_256 {a b : Nat} (h : a < 256) : iv_nd a b < 256 := iv_nd_lt (n := 8) h
theorem ib_sb_256 {a b : Nat} (h : ib_sb a b) (hb : b < 256) : a < 256 := by
  apply Nat.lt_pow_two_of_testBit (n := 8)
  intro i hi
  cases ha : a.testBit i
  · rfl
  · have := h i ha
    rw [Nat.testBit_lt_two_pow (x := b) (Nat.lt_of_lt_of_le hb (Nat.pow_le_pow_right (n := 2) (i := 8) (by omega) hi))] at this
    cases this
def ib_wt (z : Nat → Nat) (S : Nat) : Nat := ib_sum (fun t => if S.testBit t then z t else 0) 8
theorem ib_bit8 {S t : Nat} (hS : S < 256) (h : S.testBit t = true) : t < 8 := by
  rcases Nat.lt_or_ge t 8 with c | c
  · exact c
  · rw [Nat.testBit_lt_two_pow (Nat.lt_of_lt_of_le hS (Nat.pow_le_pow_right (n := 2) (i := 8) (by omega) c))] at h
    cases h
theorem ib_one_bit {t i : Nat} : (2 ^ t).testBit i = decide (t = i) := Nat.testBit_two_pow
theorem ib_wt_nd {z : Nat → Nat} {S t : Nat} (hS : S < 256) (h : S.testBit t = true) : ib_wt z S = ib_wt z (iv_nd S (2 ^ t)) + z t := by
  unfold ib_wt
  refine ib_sum_upd 8 (ib_bit8 hS h) (fun i _ hi => ?_) ?_
  · rw [iv_nd_bit, ib_one_bit, decide_eq_false (fun c => hi c.symm)]; simp
  · rw [iv_nd_bit, ib_one_bit, h]; simp
theorem ib_wt_or {z : Nat → Nat} {S t : Nat} (ht : t < 8) (h : S.testBit t = false) : ib_wt z (S ||| 2 ^ t) = ib_wt z S + z t := by
  unfold ib_wt
  refine ib_sum_upd 8 ht (fun i _ hi => ?_) ?_
  · rw [Nat.testBit_or, ib_one_bit, decide_eq_false (fun c => hi c.symm)]; simp
  · rw [Nat.testBit_or, ib_one_bit, h]; simp
theorem ib_wt_0 {z : Nat → Nat} : ib_wt z 0 = 0 := ib_sum_zero 8 (fun i _ => by rw [Nat.zero_testBit]; rfl)
theorem ib_wt_le {z : Nat → Nat} (hz : ∀ t, t < 8 → z t ≤ 5) (S : Nat) : ib_wt z S ≤ 40 := ib_sumS_le (b := 5) 8 (fun i hi => by have := hz i hi; split <;> omega)
theorem ib_some_bit {S : Nat} (h : S ≠ 0) : ∃ t, S.testBit t = true := by
  rcases Classical.em (∃ t, S.testBit t = true) with c | c
  · exact c
  · exact absurd (ib_zero_bit.mpr fun i => by
      cases hh : S.testBit i
      · rfl
      · exact absurd ⟨i, hh⟩ c) h
section IBP
variable (lf : Nat → Nat) (be : Nat → Int) (z : Nat → Nat)
def ib_bor (p L : Nat) : Prop := ib_sb L (lf p) ∧ (ib_wt z L : Int) ≤ be p
def ib_pe (l : Nat) : Nat := 5 - (l - 1) % 6
/-- a set that can be laid into the first l loads of the row -/
def ib_ca : Nat → Nat → Prop
  | 0, S => S = 0
  | l + 1, S => ∃ L, ib_sb L S ∧ ib_bor lf be z (ib_pe (l + 1)) L ∧ ib_ca l (iv_nd S L)
/-- the same, with the last load not empty, and its weight -/
def ib_cb (l w S : Nat) : Prop := (l = 0 ∧ S = 0 ∧ w = 0) ∨ ∃ m L, l = m + 1 ∧ ib_sb L S ∧ L ≠ 0 ∧ ib_bor lf be z (ib_pe (m + 1)) L ∧ ib_wt z L = w ∧ ib_ca lf be z m (iv_nd S L)
variable {lf be z}
theorem ib_ca_s (hb : ∀ p, 0 ≤ be p) {l S : Nat} (h : ib_ca lf be z l S) : ib_ca lf be z (l + 1) S :=
  ⟨0, ib_sb_0, ⟨ib_sb_0, by rw [ib_wt_0]; exact hb _⟩, by rw [ib_nd_0]; exact h⟩
theorem ib_ca_le (hb : ∀ p, 0 ≤ be p) {l m S : Nat} (hl : l ≤ m) (h : ib_ca lf be z l S) : ib_ca lf be z m S := by
  obtain ⟨d, rfl⟩ : ∃ d, m = l + d := ⟨m - l, by omega⟩
  clear hl
  induction d with
  | zero => exact h
  | succ d ih => exact ib_ca_s hb ih
theorem ib_ca_trim : ∀ l S, ib_ca lf be z l S → ∃ m w, m ≤ l ∧ ib_cb lf be z m w S
  | 0, S, h => ⟨0, 0, Nat.le_refl 0, Or.inl ⟨rfl, h, rfl⟩⟩
  | l + 1, S, h => by
    obtain ⟨L, h1, h2, h3⟩ := h
    by_cases c : L = 0
    · subst c
      rw [ib_nd_0] at h3
      obtain ⟨m, w, h4, h5⟩ := ib_ca_trim l S h3
      exact ⟨m, w, by omega, h5⟩
    · exact ⟨l + 1, _, Nat.le_refl _, Or.inr ⟨l, L, rfl, h1, c, h2, rfl, h3⟩⟩
theorem ib_cb_ca {l w S : Nat} (h : ib_cb lf be z l w S) : ib_ca lf be z l S := by
  rcases h with ⟨rfl, rfl, _⟩ | ⟨m, L, rfl, h1, _, h2, _, h3⟩
  · rfl
  · exact ⟨L, h1, h2, h3⟩
/-- better or as good -/
def ib_lex (l w l' w' : Nat) : Prop := l < l' ∨ (l = l' ∧ w ≤ w')
theorem ib_lex.tr {a b c d e f : Nat} (h : ib_lex a b c d) (g : ib_lex c d e f) : ib_lex a b e f := by unfold ib_lex at *; omega
variable (lf be z) in
/-- what two cells say of a set -/
def ib_cell (S : Nat) (x y : Int) : Prop := (x = -9 ∧ ∀ l w, ¬ ib_cb lf be z l w S) ∨ ∃ l w : Nat, x = l ∧ y = w ∧ l ≤ 6 * S ∧ ib_cb lf be z l w S ∧ ∀ l' w', ib_cb lf be z l' w' S → ib_lex l w l' w'
variable (lf be z) in
def ib_tk (l t w : Nat) : Prop := (lf (ib_pe l)).testBit t = true ∧ (w : Int) ≤ be (ib_pe l)
variable (lf be z) in
/-- what comes of a thing that comes last: the last load of the rest, or the first behind it that can take it -/
def ib_put (t o ow l w : Nat) : Prop := (0 < o ∧ ib_tk lf be o t (ow + z t) ∧ l = o ∧ w = ow + z t) ∨ (¬ (0 < o ∧ ib_tk lf be o t (ow + z t)) ∧ o < l ∧ l ≤ o + 6 ∧ ib_tk lf be l t (z t) ∧ (∀ j, o < j → j < l → ¬ ib_tk lf be j t (z t)) ∧ w = z t)
theorem ib_nd_or {S L t : Nat} (ht : S.testBit t = true) (hl : ib_sb L (iv_nd S (2 ^ t))) : ib_sb (L ||| 2 ^ t) S ∧ L.testBit t = false ∧ iv_nd S (L ||| 2 ^ t) = iv_nd (iv_nd S (2 ^ t)) L := by
  refine ⟨fun i hi => ?_, ?_, ?_⟩
  · rw [Nat.testBit_or, ib_one_bit, Bool.or_eq_true, decide_eq_true_eq] at hi
    rcases hi with c | c
    · exact ib_sb_ndl i (hl i c)
    · subst c; exact ht
  · cases h : L.testBit t
    · rfl
    · have := hl t h
      rw [iv_nd_bit, ib_one_bit, decide_eq_true rfl] at this
      simp at this
  · apply Nat.eq_of_testBit_eq
    intro i
    rw [iv_nd_bit, iv_nd_bit, iv_nd_bit, Nat.testBit_or]
    cases S.testBit i <;> cases L.testBit i <;> cases (2 ^ t).testBit i <;> rfl
/-- it is a way -/
theorem ib_put_cb (hb : ∀ p, 0 ≤ be p) {S t o ow l w : Nat} (hS : S < 256) (ht : S.testBit t = true) (h : ib_cb lf be z o ow (iv_nd S (2 ^ t))) (hp : ib_put lf be z t o ow l w) : ib_cb lf be z l w S := by
  rcases hp with ⟨h1, ⟨h2, h3⟩, rfl, rfl⟩ | ⟨_, h1, h2, ⟨h3, h4⟩, _, rfl⟩
  · rcases h with ⟨rfl, _⟩ | ⟨m, L, rfl, g1, g2, g3, g4, g5⟩
    · omega
    · obtain ⟨e1, e2, e3⟩ := ib_nd_or ht g1
      have ew := ib_wt_or (z := z) (S := L) (t := t) (ib_bit8 hS ht) e2
      refine Or.inr ⟨m, L ||| 2 ^ t, rfl, e1, fun c => ?_, ⟨fun i hi => ?_, ?_⟩, ?_, ?_⟩
      · have : (L ||| 2 ^ t).testBit t = true := by rw [Nat.testBit_or, ib_one_bit, decide_eq_true rfl, Bool.or_true]
        rw [c, Nat.zero_testBit] at this; cases this
      · rw [Nat.testBit_or, ib_one_bit, Bool.or_eq_true, decide_eq_true_eq] at hi
        rcases hi with c | c
        · exact g3.1 i c
        · subst c; exact h2
      · rw [ew, g4]; exact h3
      · rw [ew, g4]
      · rw [e3]; exact g5
  · obtain ⟨m, rfl⟩ : ∃ m, l = m + 1 := ⟨l - 1, by omega⟩
    have ew := ib_wt_or (z := z) (S := 0) (t := t) (ib_bit8 hS ht) (Nat.zero_testBit t)
    rw [Nat.zero_or, ib_wt_0, Nat.zero_add] at ew
    refine Or.inr ⟨m, 2 ^ t, rfl, fun i hi => ?_, fun c => ?_, ⟨fun i hi => ?_, ?_⟩, ew, ib_ca_le hb (by omega) (ib_cb_ca h)⟩
    · rw [ib_one_bit, decide_eq_true_eq] at hi; subst hi; exact ht
    · have := Nat.pow_pos (n := t) (show 0 < 2 by omega); omega
    · rw [ib_one_bit, decide_eq_true_eq] at hi; subst hi; exact h3
    · rw [ew]; exact h4
theorem ib_pe_mod {a b : Nat} (ha : 0 < a) (hb : 0 < b) (h : (a - 1) % 6 = (b - 1) % 6) : ib_pe a = ib_pe b := by unfold ib_pe; rw [h]
/-- a way in which t lies in the last load -/
theorem ib_cb_rest {S t m L : Nat} (hS : S < 256) (h1 : ib_sb L S) (h2 : ib_bor lf be z (ib_pe (m + 1)) L) (h3 : ib_ca lf be z m (iv_nd S L)) (ht : L.testBit t = true) :
    (∃ w, w + z t = ib_wt z L ∧ ib_cb lf be z (m + 1) w (iv_nd S (2 ^ t))) ∨ ∃ l w, l ≤ m ∧ ib_cb lf be z l w (iv_nd S (2 ^ t)) := by
  have hL := ib_sb_256 h1 hS
  have ew := ib_wt_nd (z := z) hL ht
  by_cases c : iv_nd L (2 ^ t) = 0
  · right
    have e : L = 2 ^ t := by
      apply Nat.eq_of_testBit_eq
      intro i
      rw [ib_one_bit]
      have := ib_zero_bit.mp c i
      rw [iv_nd_bit, ib_one_bit] at this
      by_cases e : t = i
      · subst e; rw [ht, decide_eq_true rfl]
      · rw [decide_eq_false e] at this ⊢
        simpa using this
    rw [e] at h3
    obtain ⟨l, w, a, b⟩ := ib_ca_trim m _ h3
    exact ⟨l, w, a, b⟩
  · left
    refine ⟨ib_wt z (iv_nd L (2 ^ t)), by omega, Or.inr ⟨m, iv_nd L (2 ^ t), rfl, fun i hi => ?_, c, ⟨ib_sb_ndl.tr h2.1, by have := h2.2; omega⟩, rfl, ?_⟩⟩
    · rw [iv_nd_bit, Bool.and_eq_true] at hi ⊢
      exact ⟨h1 i hi.1, hi.2⟩
    · have : iv_nd (iv_nd S (2 ^ t)) (iv_nd L (2 ^ t)) = iv_nd S L := by
        apply Nat.eq_of_testBit_eq
        intro i
        rw [iv_nd_bit, iv_nd_bit, iv_nd_bit, iv_nd_bit]
        by_cases e : t = i
        · subst e
          rw [ht, h1 t ht, ib_one_bit, decide_eq_true rfl]; rfl
        · rw [ib_one_bit, decide_eq_false e]
          cases S.testBit i <;> cases L.testBit i <;> rfl
      rw [this]; exact h3
/-- there is one, and it is no worse than any way in which t lies in the last load -/
theorem ib_put_best {S t o ow m L : Nat} (hS : S < 256) (h1 : ib_sb L S) (h2 : ib_bor lf be z (ib_pe (m + 1)) L) (h3 : ib_ca lf be z m (iv_nd S L)) (ht : L.testBit t = true)
    (hr : ∀ l' w', ib_cb lf be z l' w' (iv_nd S (2 ^ t)) → ib_lex o ow l' w') :
    (∀ l w, ib_put lf be z t o ow l w → ib_lex l w (m + 1) (ib_wt z L)) ∧ ∃ l w, ib_put lf be z t o ow l w := by
  have hL := ib_sb_256 h1 hS
  have ew := ib_wt_nd (z := z) hL ht
  have htl := h2.1 t ht
  have hr' : ib_lex o ow (m + 1) (ib_wt z L - z t) ∨ o ≤ m := by
    rcases ib_cb_rest hS h1 h2 h3 ht with ⟨w, a, b⟩ | ⟨l, w, a, b⟩
    · left
      have := hr _ _ b
      rw [show ib_wt z L - z t = w by omega]; exact this
    · right
      have := hr _ _ b
      unfold ib_lex at this
      omega
  by_cases c : 0 < o ∧ ib_tk lf be o t (ow + z t)
  · refine ⟨fun l w hp => ?_, o, ow + z t, Or.inl ⟨c.1, c.2, rfl, rfl⟩⟩
    rcases hp with ⟨_, _, rfl, rfl⟩ | ⟨h, _⟩
    · rcases hr' with h | h
      · unfold ib_lex at *; omega
      · unfold ib_lex; omega
    · exact absurd c h
  · have ho : o ≤ m := by
      rcases hr' with h | h
      · unfold ib_lex at h
        rcases h with h | ⟨h, h'⟩
        · omega
        · exfalso
          subst h
          apply c
          refine ⟨by omega, htl, ?_⟩
          have := h2.2
          omega
      · exact h
    have hj : ∃ j, o < j ∧ j ≤ o + 6 ∧ j ≤ m + 1 ∧ ib_tk lf be j t (z t) := by
      refine ⟨o + 1 + (m - o) % 6, by omega, by omega, by omega, ?_⟩
      have e : ib_pe (o + 1 + (m - o) % 6) = ib_pe (m + 1) := ib_pe_mod (by omega) (by omega) (by omega)
      unfold ib_tk
      rw [e]
      exact ⟨htl, by have := h2.2; omega⟩
    have hmin : ∃ l, o < l ∧ l ≤ o + 6 ∧ l ≤ m + 1 ∧ ib_tk lf be l t (z t) ∧ ∀ j, o < j → j < l → ¬ ib_tk lf be j t (z t) := by
      obtain ⟨j, a1, a2, a3, a4⟩ := hj
      induction j using Nat.strongRecOn with
      | ind j ih =>
        rcases Classical.em (∃ i, o < i ∧ i < j ∧ ib_tk lf be i t (z t)) with ⟨i, b1, b2, b3⟩ | b
        · exact ih i b2 b1 (by omega) (by omega) b3
        · exact ⟨j, a1, a2, a3, a4, fun i c1 c2 c3 => b ⟨i, c1, c2, c3⟩⟩
    obtain ⟨l0, a1, a2, a3, a4, a5⟩ := hmin
    refine ⟨fun l w hp => ?_, l0, z t, Or.inr ⟨c, a1, a2, a4, a5, rfl⟩⟩
    rcases hp with ⟨h, h', _⟩ | ⟨_, b1, b2, b3, b4, rfl⟩
    · exact absurd ⟨h, h'⟩ c
    · have : l = l0 := by
        rcases Nat.lt_trichotomy l l0 with d | d | d
        · exact absurd b3 (a5 l b1 d)
        · exact d
        · exact absurd a4 (b4 l0 a1 d)
      unfold ib_lex
      omega
variable (lf be z) in
/-- a set's cells while the things below k have come last -/
def ib_mid (S k : Nat) (x y : Int) : Prop := (x = -9 ∨ ∃ l w : Nat, x = l ∧ y = w ∧ l ≤ 6 * S ∧ ib_cb lf be z l w S) ∧
  ∀ t, t < k → ∀ m L, ib_sb L S → ib_bor lf be z (ib_pe (m + 1)) L → ib_ca lf be z m (iv_nd S L) → L.testBit t = true → ∃ l w : Nat, x = l ∧ y = w ∧ ib_lex l w (m + 1) (ib_wt z L)
theorem ib_mid_end {S : Nat} (hS : S < 256) (h0 : 0 < S) {x y : Int} (h : ib_mid lf be z S 8 x y) : ib_cell lf be z S x y := by
  have key : ∀ l w, ib_cb lf be z l w S → ∃ l' w' : Nat, x = l' ∧ y = w' ∧ ib_lex l' w' l w := by
    intro l w hc
    rcases hc with ⟨_, rfl, _⟩ | ⟨m, L, rfl, h1, h2, h3, rfl, h5⟩
    · omega
    · obtain ⟨t, ht⟩ := ib_some_bit h2
      exact h.2 t (ib_bit8 (ib_sb_256 h1 hS) ht) m L h1 h3 h5 ht
  rcases h.1 with c | ⟨l, w, c1, c2, c3, c4⟩
  · refine Or.inl ⟨c, fun l w hc => ?_⟩
    obtain ⟨l', w', e, _⟩ := key l w hc
    omega
  · refine Or.inr ⟨l, w, c1, c2, c3, c4, fun l' w' hc => ?_⟩
    obtain ⟨l2, w2, e1, e2, e3⟩ := key l' w' hc
    rw [show l = l2 by omega, show w = w2 by omega]
    exact e3
end IBP
