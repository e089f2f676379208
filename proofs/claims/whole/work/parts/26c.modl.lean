/-! LOADS: THE MODEL -/
section IBL
def ib_kp (μ ν : ivM) : Prop := ∀ a k, 123 ≤ a → ν a k = μ a k
theorem ib_kp.rfl {μ : ivM} : ib_kp μ μ := fun _ _ _ => Eq.refl _
theorem ib_kp.tr {μ ν κ : ivM} (h : ib_kp μ ν) (g : ib_kp ν κ) : ib_kp μ κ := fun a k c => (g a k c).trans (h a k c)
theorem ib_kp.upd {μ ν : ivM} (h : ib_kp μ ν) {a k : Nat} {v : Int} (c : a < 123) : ib_kp μ (iv_upd ν a k v) := fun a' k' hn => by
  rw [iv_upd_na (by omega)]; exact h a' k' hn
theorem ik_row {l1 l2 : Int} {k : ivM → Option (Int × ivM)} (hk : ∀ μ r ν, k μ = some (r, ν) → ib_kp μ ν) : ∀ (n : Nat) (l3 : Int) (μ : ivM) (r : Int) (ν : ivM), lp_X10_offTried_12 l1 l2 k n l3 μ = some (r, ν) → ib_kp μ ν
  | 0, _, _, _, _, h => by unfold lp_X10_offTried_12 at h; cases h
  | n + 1, l3, μ, r, ν, h => by
    have nx : ∀ (c : Prop) (_ : Decidable c) (l v : Int) (j : Nat), iv_ck c (lp_X10_offTried_12 l1 l2 k n l (iv_upd μ 122 j v)) = some (r, ν) → ib_kp μ ν := fun c _ l v j h => by
      have := ik_row hk n _ _ _ _ (iv_ckE h).2
      exact (ib_kp.rfl.upd (by omega)).tr this
    unfold lp_X10_offTried_12 at h
    have h := (iv_ckE h).2
    split at h
    · exact hk _ _ _ h
    · simp only [iv_let, ib_least, iv_bnd_some] at h
      split at h
      · exact nx _ _ _ _ _ h
      · split at h
        · exact nx _ _ _ _ _ h
        · have h := (iv_ckE (iv_ckE (iv_ckE (iv_ckE (iv_ckE h).2).2).2).2).2
          split at h
          · exact nx _ _ _ _ _ h
          · exact nx _ _ _ _ _ h
theorem ik_tried {l1 : Int} {k : ivM → Option (Int × ivM)} (hk : ∀ μ r ν, k μ = some (r, ν) → ib_kp μ ν) : ∀ (n : Nat) (l2 : Int) (μ : ivM) (r : Int) (ν : ivM), lp_X10_offTried_2 l1 k n l2 μ = some (r, ν) → ib_kp μ ν
  | 0, _, _, _, _, h => by unfold lp_X10_offTried_2 at h; cases h
  | n + 1, l2, μ, r, ν, h => by
    unfold lp_X10_offTried_2 at h
    split at h
    · exact hk _ _ _ h
    · exact ik_row (fun μ' r' ν' h' => ik_tried hk n _ μ' r' ν' h') _ _ _ _ _ h
theorem ik_offTried {p : Int} {μ ν : ivM} {r : Int} (h : f_X10_offTried p μ = some (r, ν)) : ib_kp μ ν := by
  unfold f_X10_offTried at h
  refine ik_tried (fun μ' r' ν' h' => ?_) _ _ _ _ _ h
  have h' := (iv_ckE (iv_ckE h').2).2
  cases h'
  exact ib_kp.rfl
theorem ik_offOf_lp {l1 l2 : Int} {k : ivM → Option (Int × ivM)} (hk : ∀ μ r ν, k μ = some (r, ν) → ib_kp μ ν) : ∀ (n : Nat) (l3 : Int) (μ : ivM) (r : Int) (ν : ivM), lp_X10_offOf_12 l1 l2 k n l3 μ = some (r, ν) → ib_kp μ ν
  | 0, _, _, _, _, h => by unfold lp_X10_offOf_12 at h; cases h
  | n + 1, l3, μ, r, ν, h => by
    unfold lp_X10_offOf_12 at h
    split at h
    · exact hk _ _ _ h
    · have h := (iv_ckE (iv_ckE h).2).2
      exact (ib_kp.rfl.upd (by omega)).tr (ik_offOf_lp hk n _ _ _ _ h)
theorem ik_offOf {p q : Int} {μ ν : ivM} {r : Int} (h : f_X10_offOf p q μ = some (r, ν)) : ib_kp μ ν := by
  unfold f_X10_offOf at h
  have h := (iv_ckE h).2
  refine (ib_kp.rfl.upd (a := 110) (k := 21) (v := μ 116 p.toNat) (by omega)).tr (ik_offOf_lp (fun μ' r' ν' h' => ?_) _ _ _ _ _ h)
  obtain ⟨a, b, h1, h2⟩ := iv_bndE h'
  cases h2
  exact ik_offTried h1
theorem ik_isLive {p : Int} {μ ν : ivM} {r : Int} (h : f_X10_isLive p μ = some (r, ν)) : ν = μ := by
  simp only [f_X10_isLive, iv_let] at h
  have h := (iv_ckE h).2
  split at h <;> cases h <;> rfl
theorem ik_isKnown {p q : Int} {μ ν : ivM} {r : Int} (h : f_X10_isKnown p q μ = some (r, ν)) : ν = μ := by
  simp only [f_X10_isKnown, iv_let] at h
  have h := (iv_ckE h).2
  split at h <;> cases h <;> rfl
theorem ik_nearTo_lp {l1 : Int} : ∀ (n : Nat) (l2 l3 : Int) (μ : ivM) (r : Int) (ν : ivM), lp_X10_nearTo_4 l1 n l2 l3 μ = some (r, ν) → ib_kp μ ν
  | 0, _, _, _, _, _, h => by unfold lp_X10_nearTo_4 at h; cases h
  | n + 1, l2, l3, μ, r, ν, h => by
    unfold lp_X10_nearTo_4 at h
    simp only [iv_let] at h
    split at h
    · cases h; exact ib_kp.rfl
    · split at h
      · exact ik_nearTo_lp n _ _ _ _ _ h
      · obtain ⟨a, b, h1, h2⟩ := iv_bndE h
        have e := ik_isLive h1
        subst e
        clear h
        split at h2
        · exact ik_nearTo_lp n _ _ _ _ _ h2
        · obtain ⟨a, b, h1, h⟩ := iv_bndE h2
          have e := ik_offOf h1
          split at h
          · exact e.tr (ik_nearTo_lp n _ _ _ _ _ h)
          · exact e.tr (ik_nearTo_lp n _ _ _ _ _ h)
theorem ik_nearTo {p : Int} {μ ν : ivM} {r : Int} (h : f_X10_nearTo p μ = some (r, ν)) : ib_kp μ ν := ik_nearTo_lp _ _ _ _ _ _ h
theorem ik_liftsOf_lp {l1 : Int} : ∀ (n : Nat) (l2 l3 : Int) (μ : ivM) (r : Int) (ν : ivM), lp_X10_liftsOf_4 l1 n l2 l3 μ = some (r, ν) → ib_kp μ ν
  | 0, _, _, _, _, _, h => by unfold lp_X10_liftsOf_4 at h; cases h
  | n + 1, l2, l3, μ, r, ν, h => by
    unfold lp_X10_liftsOf_4 at h
    simp only [iv_let] at h
    split at h
    · cases h; exact ib_kp.rfl
    · obtain ⟨a, b, h1, h2⟩ := iv_bndE h
      have e := ik_isLive h1
      subst e
      clear h
      split at h2
      · exact ik_liftsOf_lp n _ _ _ _ _ h2
      · obtain ⟨a, b, h1, h⟩ := iv_bndE h2
        have e := ik_isKnown h1
        subst e
        clear h2
        split at h
        · exact ik_liftsOf_lp n _ _ _ _ _ h
        · have h := (iv_ckE (iv_ckE h).2).2
          split at h
          · exact ik_liftsOf_lp n _ _ _ _ _ h
          · obtain ⟨a, b, h1, h⟩ := iv_bndE h
            have e := ik_nearTo h1
            split at h
            · exact e.tr (ik_liftsOf_lp n _ _ _ _ _ h)
            · exact e.tr (ik_liftsOf_lp n _ _ _ _ _ h)
theorem ik_liftsOf {p : Int} {μ ν : ivM} {r : Int} (h : f_X10_liftsOf p μ = some (r, ν)) : ib_kp μ ν := ik_liftsOf_lp _ _ _ _ _ _ h
/-! subsets, one behind the other -/
def ib_fu (S : Nat) : Nat → Nat → Nat
  | 0, _ => 0
  | d + 1, r => bif Nat.beq (r &&& S) r then r else ib_fu S d (r + 1)
def ib_fd (S : Nat) : Nat → Nat
  | 0 => 0
  | r + 1 => bif Nat.beq ((r + 1) &&& S) (r + 1) then r + 1 else ib_fd S r
theorem ib_sb_and {a b : Nat} : Nat.beq (a &&& b) a = true ↔ ib_sb a b := by
  constructor
  · intro h i hi
    have h := Nat.eq_of_beq_eq_true h
    rw [← h, Nat.testBit_and, Bool.and_eq_true] at hi
    exact hi.2
  · intro h
    have : a &&& b = a := by
      apply Nat.eq_of_testBit_eq
      intro i
      rw [Nat.testBit_and]
      cases ha : a.testBit i
      · rfl
      · rw [h i ha]; rfl
    rw [this]; exact Nat.beq_refl a
theorem ib_fu_spec {S : Nat} : ∀ d r, 0 < r → (ib_fu S d r = 0 ∧ ∀ q, r ≤ q → q < r + d → ¬ ib_sb q S) ∨ (r ≤ ib_fu S d r ∧ ib_fu S d r < r + d ∧ ib_sb (ib_fu S d r) S ∧ ∀ q, r ≤ q → q < ib_fu S d r → ¬ ib_sb q S)
  | 0, r, _ => Or.inl ⟨rfl, fun q h1 h2 => by omega⟩
  | d + 1, r, h0 => by
    unfold ib_fu
    cases hb : Nat.beq (r &&& S) r
    · rw [cond_false]
      have hr : ¬ ib_sb r S := fun c => by rw [ib_sb_and.mpr c] at hb; cases hb
      rcases ib_fu_spec d (r + 1) (by omega) with ⟨h1, h2⟩ | ⟨h1, h2, h3, h4⟩
      · refine Or.inl ⟨h1, fun q a b => ?_⟩
        by_cases e : q = r
        · subst e; exact hr
        · exact h2 q (by omega) (by omega)
      · refine Or.inr ⟨by omega, by omega, h3, fun q a b => ?_⟩
        by_cases e : q = r
        · subst e; exact hr
        · exact h4 q (by omega) b
    · rw [cond_true]
      exact Or.inr ⟨by omega, by omega, ib_sb_and.mp hb, fun q a b => by omega⟩
theorem ib_fd_spec {S : Nat} : ∀ r, ib_fd S r ≤ r ∧ ib_sb (ib_fd S r) S ∧ ∀ q, ib_fd S r < q → q ≤ r → ¬ ib_sb q S
  | 0 => ⟨Nat.le_refl 0, ib_sb_0, fun q h1 h2 => by have h1 : 0 < q := h1; omega⟩
  | r + 1 => by
    unfold ib_fd
    cases hb : Nat.beq ((r + 1) &&& S) (r + 1)
    · rw [cond_false]
      obtain ⟨h1, h2, h3⟩ := ib_fd_spec (S := S) r
      refine ⟨by omega, h2, fun q a b => ?_⟩
      by_cases e : q = r + 1
      · subst e
        exact fun c => by rw [ib_sb_and.mpr c] at hb; cases hb
      · exact h3 q a (by omega)
    · rw [cond_true]
      exact ⟨by omega, ib_sb_and.mp hb, fun q a b => by omega⟩
theorem ib_nx8 : ∀ S, S < 256 → ∀ r, r < 256 → Nat.beq (r &&& S) r = true → (4294967296 + r - S) % 4294967296 &&& S = ib_fu S (S - r) (r + 1) := by decide +kernel
theorem ib_pv8 : ∀ S, S < 256 → ∀ r, r < 256 → Nat.beq (r &&& S) r = true → (r - 1) &&& S = ib_fd S (r - 1) := by decide +kernel
theorem ib_andneg {r S : Nat} (hr : r ≤ S) (hS : S < 256) : iv_and (iv_wr ((r : Int) - S)) S = (((4294967296 + r - S) % 4294967296 &&& S : Nat) : Int) := by
  rw [iv_wr_id (by omega) (by omega)]
  refine iv_toI ?_ (Nat.lt_of_le_of_lt Nat.and_le_right (by omega))
  rw [Int32.toBitVec_and, BitVec.toNat_and, iv_i32 (a := S) (by omega)]
  congr 1
  show (BitVec.ofInt 32 ((r : Int) - S)).toNat = _
  rw [BitVec.toNat_ofInt]
  have e : ((2 ^ 32 : Nat) : Int) = 4294967296 := by decide
  rw [e]
  omega
theorem ib_nx {r S : Nat} (hr : ib_sb r S) (hS : S < 256) : iv_and (iv_wr ((r : Int) - S)) S = ((ib_fu S (S - r) (r + 1) : Nat) : Int) := by
  have h := ib_sb_le hr
  rw [ib_andneg h hS, ib_nx8 S hS r (by omega) (ib_sb_and.mpr hr)]
theorem ib_pv {r S : Nat} (hr : ib_sb r S) (hS : S < 256) (h0 : 0 < r) : iv_and (iv_wr ((r : Int) - 1)) S = ((ib_fd S (r - 1) : Nat) : Int) := by
  have h := ib_sb_le hr
  rw [iv_wr_id (by omega) (by omega), show (r : Int) - 1 = ((r - 1 : Nat) : Int) by omega, iv_and_nat (by omega) (by omega), ib_pv8 S hS r (by omega) (ib_sb_and.mpr hr)]
/-! a number that tells whether -/
def ib_is (x : Int) (P : Prop) : Prop := (x = 1 ∧ P) ∨ (x = 0 ∧ ¬ P)
variable {lf : Nat → Nat} {be : Nat → Int} {z : Nat → Nat}
theorem ib_llM_lp {p S : Nat} {μ : ivM} (hp : p < 6) (hS : S < 256) (hB : ∀ L, ib_sb L S → ib_is (μ 124 (256 * p + L)) (ib_bor lf be z p L)) (hC : ∀ L, ib_sb L S → ib_is (μ 123 (256 * p + 256 + L)) (ib_ca lf be z (5 - p) L)) : ∀ (d r n : Nat), r + d = S → d + 1 < n → ib_sb r S → (∀ q, q < r → ¬ ib_qq lf be z p S q) →
    (∃ x, ib_ll lf be z p S x ∧ lp_X10_leastLoad_5 p S n r 1 μ = some (((x : Nat) : Int), μ)) ∨ ((∀ x, ¬ ib_qq lf be z p S x) ∧ lp_X10_leastLoad_5 p S n r 1 μ = some (-9, μ)) := by
  intro d
  induction d using Nat.strongRecOn with
  | ind d ih =>
    intro r n hr hn hsb hno
    obtain ⟨n, rfl⟩ : ∃ q, n = q + 1 := ⟨n - 1, by omega⟩
    have e1 : iv_wr (iv_wr (256 * (p : Int)) + (r : Int)) = ((256 * p + r : Nat) : Int) := by
      rw [iv_wr_id (x := 256 * (p : Int)) (by omega) (by omega), iv_wr_id (by omega) (by omega)]; omega
    have hnd : iv_nd S r < 256 := ib_nd_256 hS
    have e2 : iv_wr (iv_wr (iv_wr (256 * (p : Int)) + 256) + ((iv_nd S r : Nat) : Int)) = ((256 * p + 256 + iv_nd S r : Nat) : Int) := by
      rw [iv_wr_id (x := 256 * (p : Int)) (by omega) (by omega), iv_wr_id (x := _ + 256) (by omega) (by omega), iv_wr_id (by omega) (by omega)]; omega
    have next : ¬ ib_qq lf be z p S r → (∃ x, ib_ll lf be z p S x ∧ (if iv_and (iv_wr ((r : Int) - S)) S = 0 then lp_X10_leastLoad_5 p S n (iv_and (iv_wr ((r : Int) - S)) S) 0 μ else lp_X10_leastLoad_5 p S n (iv_and (iv_wr ((r : Int) - S)) S) 1 μ) = some (((x : Nat) : Int), μ)) ∨ ((∀ x, ¬ ib_qq lf be z p S x) ∧ (if iv_and (iv_wr ((r : Int) - S)) S = 0 then lp_X10_leastLoad_5 p S n (iv_and (iv_wr ((r : Int) - S)) S) 0 μ else lp_X10_leastLoad_5 p S n (iv_and (iv_wr ((r : Int) - S)) S) 1 μ) = some (-9, μ)) := by
      intro hq
      rw [ib_nx hsb hS]
      rcases ib_fu_spec (S := S) (S - r) (r + 1) (by omega) with ⟨h1, h2⟩ | ⟨h1, h2, h3, h4⟩
      · right
        rw [h1, if_pos (show ((0 : Nat) : Int) = 0 from rfl)]
        obtain ⟨n, rfl⟩ : ∃ q, n = q + 1 := ⟨n - 1, by omega⟩
        unfold lp_X10_leastLoad_5
        rw [if_pos rfl]
        refine ⟨fun x hx => ?_, rfl⟩
        have hxs := ib_sb_le hx.1
        rcases Nat.lt_trichotomy x r with c | c | c
        · exact hno x c hx
        · subst c; exact hq hx
        · exact h2 x (by omega) (by omega) hx.1
      · rw [if_neg (by omega)]
        exact ih (S - ib_fu S (S - r) (r + 1)) (by omega) _ n (by omega) (by omega) h3 (fun q hql hqq => by
          rcases Nat.lt_trichotomy q r with c | c | c
          · exact hno q c hqq
          · subst c; exact hq hqq
          · exact h4 q (by omega) hql hqq.1)
    unfold lp_X10_leastLoad_5
    simp only [iv_let]
    rw [if_neg (by decide), e1, iv_ck_pos (by omega), Int.toNat_natCast, iv_andn (by omega) (by omega), e2, iv_ck_pos (by omega), Int.toNat_natCast]
    rcases hB r hsb with ⟨b1, b2⟩ | ⟨b1, b2⟩
    · rw [b1, if_neg (by decide)]
      rcases hC (iv_nd S r) ib_sb_ndl with ⟨c1, c2⟩ | ⟨c1, c2⟩
      · rw [c1, if_neg (by decide)]
        exact Or.inl ⟨r, ⟨⟨hsb, c2, b2⟩, hno⟩, rfl⟩
      · rw [c1, if_pos rfl]
        exact next (fun q => c2 q.2.1)
    · rw [b1, if_pos rfl]
      exact next (fun q => b2 q.2.2)
theorem ib_leastLoadM {p S : Nat} {μ : ivM} (hp : p < 6) (hS : S < 256) (hB : ∀ L, ib_sb L S → ib_is (μ 124 (256 * p + L)) (ib_bor lf be z p L)) (hC : ∀ L, ib_sb L S → ib_is (μ 123 (256 * p + 256 + L)) (ib_ca lf be z (5 - p) L)) :
    (∃ x, ib_ll lf be z p S x ∧ f_X10_leastLoad p S μ = some (((x : Nat) : Int), μ)) ∨ ((∀ x, ¬ ib_qq lf be z p S x) ∧ f_X10_leastLoad p S μ = some (-9, μ)) :=
  ib_llM_lp hp hS hB hC S 0 iv_fuel (by omega) (by unfold iv_fuel; omega) ib_sb_0 (fun q hq => by omega)
theorem ib_ca_qq {p S : Nat} (hp : p < 6) : ib_ca lf be z (6 - p) S ↔ ∃ L, ib_qq lf be z p S L := by
  have e : ib_pe (5 - p + 1) = p := by unfold ib_pe; omega
  rw [show 6 - p = (5 - p) + 1 by omega]
  constructor
  · rintro ⟨L, a, b, c⟩
    rw [e] at b
    exact ⟨L, a, c, b⟩
  · rintro ⟨L, a, c, b⟩
    exact ⟨L, a, by rw [e]; exact b, c⟩
/-! where a load breaks, and what a person bears -/
theorem ib_br_iff {lfp : Nat} {bear : Int} {S : Nat} : ∀ d k, (ib_sum (fun t => if S.testBit t then z t else 0) k : Nat) ≤ bear →
    (ib_br z lfp bear S d k (ib_sum (fun t => if S.testBit t then z t else 0) k) = -9 ↔ (∀ t, k ≤ t → t < k + d → S.testBit t = true → lfp.testBit t = true) ∧ (ib_sum (fun t => if S.testBit t then z t else 0) (k + d) : Nat) ≤ bear)
  | 0, k, hw => ⟨fun _ => ⟨fun t h1 h2 => by omega, hw⟩, fun _ => rfl⟩
  | d + 1, k, hw => by
    have es : ib_sum (fun t => if S.testBit t then z t else 0) (k + 1) = ib_sum (fun t => if S.testBit t then z t else 0) k + (if S.testBit k then z k else 0) := rfl
    have mono : ib_sum (fun t => if S.testBit t then z t else 0) (k + 1) ≤ ib_sum (fun t => if S.testBit t then z t else 0) (k + 1 + d) := by
      clear hw es
      induction d with
      | zero => exact Nat.le_refl _
      | succ d ih => exact Nat.le_trans ih (Nat.le_add_right _ _)
    have ih := ib_br_iff (lfp := lfp) (bear := bear) (S := S) d (k + 1)
    rw [show k + (d + 1) = k + 1 + d by omega]
    unfold ib_br
    cases hb : S.testBit k
    · have es : ib_sum (fun t => if S.testBit t then z t else 0) (k + 1) = ib_sum (fun t => if S.testBit t then z t else 0) k := by rw [es, hb]; rfl
      rw [if_neg (by decide), ← es, ih (by rw [es]; exact hw)]
      constructor
      · rintro ⟨h1, h2⟩
        refine ⟨fun t a b c => ?_, h2⟩
        by_cases e : t = k
        · subst e; rw [hb] at c; cases c
        · exact h1 t (by omega) b c
      · rintro ⟨h1, h2⟩
        exact ⟨fun t a b c => h1 t (by omega) b c, h2⟩
    · have es : ib_sum (fun t => if S.testBit t then z t else 0) (k + 1) = ib_sum (fun t => if S.testBit t then z t else 0) k + z k := by rw [es, hb]; rfl
      rw [if_pos rfl, ← es]
      by_cases c : lfp.testBit k = true ∧ ((ib_sum (fun t => if S.testBit t then z t else 0) (k + 1) : Nat) : Int) ≤ bear
      · rw [c.1, decide_eq_true c.2, Bool.and_self, if_pos rfl, ih c.2]
        constructor
        · rintro ⟨h1, h2⟩
          refine ⟨fun t a b e => ?_, h2⟩
          by_cases q : t = k
          · subst q; exact c.1
          · exact h1 t (by omega) b e
        · rintro ⟨h1, h2⟩
          exact ⟨fun t a b e => h1 t (by omega) b e, h2⟩
      · rw [if_neg (by rw [Bool.and_eq_true, decide_eq_true_eq]; exact c)]
        constructor
        · intro h; omega
        · rintro ⟨h1, h2⟩
          exact absurd ⟨h1 k (by omega) (by omega) hb, by omega⟩ c
theorem ib_br_bor {lfp : Nat} {bear : Int} {S : Nat} (hS : S < 256) (hb : 0 ≤ bear) : ib_br z lfp bear S 8 0 0 = -9 ↔ ib_sb S lfp ∧ (ib_wt z S : Int) ≤ bear := by
  have h := ib_br_iff (z := z) (lfp := lfp) (bear := bear) (S := S) 8 0 hb
  rw [show ib_sum (fun t => if S.testBit t then z t else 0) 0 = 0 from rfl, Nat.zero_add] at h
  rw [h]
  exact ⟨fun c => ⟨fun i hi => c.1 i (by omega) (ib_bit8 hS hi) hi, c.2⟩, fun c => ⟨fun t _ _ e => c.1 t e, c.2⟩⟩
end IBL
