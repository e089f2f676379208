/-! WORDS FOR WHAT THE CELLS HOLD -/
theorem iv_upd_at {f : ivM} {a k : Nat} {v : Int} : iv_upd f a k v a k = v := by unfold iv_upd; rw [if_pos ⟨rfl, rfl⟩]
theorem iv_upd_na {f : ivM} {a k a' k' : Nat} {v : Int} (h : ¬ a' = a) : iv_upd f a k v a' k' = f a' k' := by unfold iv_upd; rw [if_neg (fun c => h c.1)]
theorem iv_upd_nk {f : ivM} {a k a' k' : Nat} {v : Int} (h : ¬ k' = k) : iv_upd f a k v a' k' = f a' k' := by unfold iv_upd; rw [if_neg (fun c => h c.2)]
/-- cells that no call's answer rests on behind it -/
def ib_scr (a k : Nat) : Prop := (5 ≤ a ∧ a ≤ 8) ∨ (24 ≤ a ∧ a ≤ 104) ∨ a = 108 ∨ a = 109 ∨ (111 ≤ a ∧ a ≤ 114) ∨ (121 ≤ a ∧ a ≤ 125) ∨ a = 128 ∨ a = 129 ∨ (a = 110 ∧ (k = 4 ∨ k = 5 ∨ k = 6 ∨ k = 18 ∨ k = 19 ∨ k = 21))
def ib_ag (s μ : ivM) : Prop := ∀ a k, ¬ ib_scr a k → μ a k = s a k
theorem ib_ag.rfl {s : ivM} : ib_ag s s := fun _ _ _ => Eq.refl _
theorem ib_ag.upd {s μ : ivM} (h : ib_ag s μ) {a k : Nat} {v : Int} (hs : ib_scr a k) : ib_ag s (iv_upd μ a k v) := by
  intro a' k' hn
  unfold iv_upd
  split
  · rename_i c; rw [c.1, c.2] at hn; exact absurd hs hn
  · exact h a' k' hn
theorem ib_ag.tr {s μ ν : ivM} (h : ib_ag s μ) (g : ∀ a k, ¬ ib_scr a k → ν a k = μ a k) : ib_ag s ν := fun a k hn => (g a k hn).trans (h a k hn)
/-- nothing but cells lo to hi has changed -/
def ib_fr (lo hi : Nat) (μ ν : ivM) : Prop := ∀ a k, a < lo ∨ hi < a → ν a k = μ a k
theorem ib_fr.rfl {lo hi : Nat} {μ : ivM} : ib_fr lo hi μ μ := fun _ _ _ => Eq.refl _
theorem ib_fr.tr {lo hi : Nat} {μ ν κ : ivM} (h : ib_fr lo hi μ ν) (g : ib_fr lo hi ν κ) : ib_fr lo hi μ κ := fun a k c => (g a k c).trans (h a k c)
theorem ib_fr.upd {lo hi : Nat} {μ ν : ivM} (h : ib_fr lo hi μ ν) {a k : Nat} {v : Int} (c : lo ≤ a ∧ a ≤ hi) : ib_fr lo hi μ (iv_upd ν a k v) := by
  intro a' k' hn
  rw [iv_upd_na (by omega)]
  exact h a' k' hn
theorem ib_fr.mono {lo hi l2 h2 : Nat} {μ ν : ivM} (h : ib_fr lo hi μ ν) (c : l2 ≤ lo ∧ hi ≤ h2) : ib_fr l2 h2 μ ν := fun a k d => h a k (by omega)
theorem ib_ag.fr {s μ ν : ivM} (h : ib_ag s μ) {lo hi : Nat} (g : ib_fr lo hi μ ν) (c : ∀ a k, lo ≤ a → a ≤ hi → ib_scr a k) : ib_ag s ν := fun a k hn => (g a k (by
  by_cases h1 : lo ≤ a
  · by_cases h2 : a ≤ hi
    · exact absurd (c a k h1 h2) hn
    · omega
  · omega)).trans (h a k hn)
/-- the set of the numbers below n that f takes -/
def ib_set (f : Nat → Bool) : Nat → Nat
  | 0 => 0
  | n + 1 => if f n then ib_set f n ||| 1 <<< n else ib_set f n
theorem ib_set_bit (f : Nat → Bool) (n i : Nat) : (ib_set f n).testBit i = (decide (i < n) && f i) := by
  induction n with
  | zero => simp [ib_set]
  | succ n ih =>
    unfold ib_set
    split
    · rename_i h
      rw [Nat.testBit_or, ih, Nat.one_shiftLeft, Nat.testBit_two_pow]
      by_cases e : n = i
      · subst e; simp [h]
      · rw [decide_eq_false e, Bool.or_false]
        congr 1
        exact decide_eq_decide.mpr (by omega)
    · rename_i h
      rw [ih]
      by_cases e : i = n
      · subst e; simp [h]
      · congr 1
        exact decide_eq_decide.mpr (by omega)
theorem ib_set_lt (f : Nat → Bool) (n : Nat) : ib_set f n < 2 ^ n := by
  apply Nat.lt_pow_two_of_testBit
  intro i hi
  rw [ib_set_bit, decide_eq_false (by omega), Bool.false_and]
theorem ib_set_ext {f g : Nat → Bool} {n m : Nat} (h : ∀ i, (decide (i < n) && f i) = (decide (i < m) && g i)) : ib_set f n = ib_set g m := by
  apply Nat.eq_of_testBit_eq
  intro i
  rw [ib_set_bit, ib_set_bit, h i]
theorem ib_set_lt8 (f : Nat → Bool) {n : Nat} (h : n ≤ 8) : ib_set f n < 256 := Nat.lt_of_lt_of_le (ib_set_lt f n) (Nat.pow_le_pow_right (n := 2) (by omega) h)
theorem ib_orb {S k : Nat} (hS : S < 1073741824) (hk : k < 30) : iv_or S (iv_shl 1 k) = ((S ||| 1 <<< k : Nat) : Int) := by
  have h : 1 <<< k < 1073741824 := by
    rw [Nat.one_shiftLeft]
    exact Nat.pow_lt_pow_right (a := 2) (by omega) hk
  have := iv_shl_nat (a := 1) (k := k) (by omega) (by omega) (by omega)
  rw [show ((1 : Nat) : Int) = 1 from rfl] at this
  rw [this, iv_or_nat (by omega) (by omega)]
theorem ib_shl1 {k : Nat} (hk : k < 31) : iv_shl 1 k = ((2 ^ k : Nat) : Int) := by
  have h : 1 <<< k < 2147483648 := by
    rw [Nat.one_shiftLeft]
    exact Nat.pow_lt_pow_right (a := 2) (by omega) hk
  have := iv_shl_nat (a := 1) (k := k) (by omega) (by omega) h
  rw [show ((1 : Nat) : Int) = 1 from rfl] at this
  rw [this, Nat.one_shiftLeft]
/-- a name as one number, and as the sounds that it has -/
def ib_nc (s : Nat → Int) : Nat → Nat
  | 0 => 0
  | n + 1 => ib_nc s n + (s n + 1).toNat * 8 ^ n
def ib_ok5 (s : Nat → Int) (n : Nat) : Prop := n ≤ 5 ∧ ∀ i, i < n → 0 ≤ s i ∧ s i < 6
theorem ib_nc_lt {s : Nat → Int} {n : Nat} (h : ∀ i, i < n → 0 ≤ s i ∧ s i < 6) : ib_nc s n < 8 ^ n := by
  induction n with
  | zero => show 0 < 1; omega
  | succ n ih =>
    have h1 := ih (fun i hi => h i (by omega))
    have h2 := h n (by omega)
    unfold ib_nc
    have h3 : (s n + 1).toNat ≤ 6 := by omega
    have h4 := Nat.mul_le_mul_right (8 ^ n) h3
    rw [Nat.pow_succ]
    omega
theorem ib_nc_lt5 {s : Nat → Int} {n : Nat} (h : ib_ok5 s n) : ib_nc s n < 32768 := Nat.lt_of_lt_of_le (ib_nc_lt h.2) (Nat.pow_le_pow_right (n := 8) (by omega) h.1)
theorem ib_nc_dig {s : Nat → Int} {n i : Nat} (h : ∀ i, i < n → 0 ≤ s i ∧ s i < 6) : ib_nc s n / 8 ^ i % 8 = if i < n then (s i + 1).toNat else 0 := by
  induction n with
  | zero => simp [ib_nc]
  | succ n ih =>
    have h1 := ih (fun i hi => h i (by omega))
    have h2 := h n (by omega)
    have h3 := ib_nc_lt (n := n) (fun i hi => h i (by omega))
    unfold ib_nc
    by_cases hi : i < n
    · rw [if_pos (by omega)]
      rw [if_pos hi] at h1
      have e : (s n + 1).toNat * 8 ^ n = 8 ^ i * (8 * ((s n + 1).toNat * 8 ^ (n - i - 1))) := by
        have : 8 ^ n = 8 ^ i * (8 * 8 ^ (n - i - 1)) := by
          rw [← Nat.pow_succ', ← Nat.pow_add]; congr 1; omega
        rw [this]; ac_rfl
      rw [e, Nat.add_mul_div_left _ _ (Nat.pow_pos (by omega)), Nat.add_mul_mod_self_left]
      exact h1
    · by_cases hin : i = n
      · subst hin
        rw [if_pos (by omega), Nat.add_mul_div_right _ _ (Nat.pow_pos (by omega)), Nat.div_eq_of_lt h3]
        omega
      · rw [if_neg (by omega)]
        rw [Nat.div_eq_of_lt]
        have := ib_nc_lt (s := s) (n := n + 1) h
        unfold ib_nc at this
        exact Nat.lt_of_lt_of_le this (Nat.pow_le_pow_right (n := 8) (by omega) (by omega))
theorem iv_or0 {a : Nat} (ha : a < 2147483648) : iv_or a 0 = a := by
  have e := iv_or_nat (a := a) (b := 0) ha (by omega)
  rw [Nat.or_zero] at e
  exact e
theorem ib_set_lt30 (f : Nat → Bool) {k : Nat} (hk : k < 30) : ib_set f k < 1073741824 := Nat.lt_of_lt_of_le (ib_set_lt f k) (Nat.pow_le_pow_right (n := 2) (j := 30) (by omega) (by omega))
theorem ib_set_t {f : Nat → Bool} {k : Nat} (h : f k = true) (hk : k < 30) : iv_or (ib_set f k) (iv_shl 1 k) = ((ib_set f (k + 1) : Nat) : Int) := by
  rw [ib_orb (ib_set_lt30 f hk) hk]
  show _ = ((if f k = true then ib_set f k ||| 1 <<< k else ib_set f k : Nat) : Int)
  rw [if_pos h]
theorem ib_set_f {f : Nat → Bool} {k : Nat} (h : f k = false) : ib_set f (k + 1) = ib_set f k := by
  show (if f k = true then ib_set f k ||| 1 <<< k else ib_set f k) = _
  rw [h]; rfl
theorem ib_set_f0 {f : Nat → Bool} {k : Nat} (h : f k = false) (hk : k < 30) : iv_or (ib_set f k) 0 = ((ib_set f (k + 1) : Nat) : Int) := by
  rw [ib_set_f h, iv_or0 (by have := ib_set_lt30 f hk; omega)]
theorem ib_iz {α : Type} {c : Prop} [Decidable c] {a b : α} : (if (if c then (1 : Int) else 0) = 0 then a else b) = if c then b else a := by
  by_cases h : c
  · rw [if_pos h, if_pos h]; rfl
  · rw [if_neg h, if_neg h]; rfl
theorem ib_io {α : Type} {c : Prop} [Decidable c] {a b : α} : (if (if c then (1 : Int) else 0) = 1 then a else b) = if c then a else b := by
  by_cases h : c
  · rw [if_pos h, if_pos h]; rfl
  · rw [if_neg h, if_neg h]; rfl
