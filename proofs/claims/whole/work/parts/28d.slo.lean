/-! STEPS: SLOTS -/
section IBX
variable {D : Int} {s : ivM}
theorem ib_copy {a b : Nat} (hab : a + 3 < b ∨ b + 3 < a) (μ : ivM) : ∃ ν, f_X2_copy a b μ = some (0, ν) ∧ ν a 3 = μ b 3 ∧ (∀ t, t < 8 → ν (a + 1) t = μ (b + 1) t ∧ ν (a + 2) t = μ (b + 2) t ∧ ν (a + 3) t = μ (b + 3) t) ∧ ∀ x k, ¬ (a + 1 ≤ x ∧ x ≤ a + 3) → ¬ (x = a ∧ k = 3) → ν x k = μ x k := by
  have key : ∀ (d t n : Nat) (μ1 : ivM), t + d = 8 → d < n → ∃ ν, lp_X2_copy_10 a b n t μ1 = some (0, ν) ∧ (∀ o, o < t → ν (a + 1) o = μ1 (a + 1) o ∧ ν (a + 2) o = μ1 (a + 2) o ∧ ν (a + 3) o = μ1 (a + 3) o) ∧ (∀ o, t ≤ o → o < 8 → ν (a + 1) o = μ1 (b + 1) o ∧ ν (a + 2) o = μ1 (b + 2) o ∧ ν (a + 3) o = μ1 (b + 3) o) ∧ ∀ x k, ¬ (a + 1 ≤ x ∧ x ≤ a + 3) → ν x k = μ1 x k := by
    intro d
    induction d with
    | zero =>
      intro t n μ1 ht hn
      obtain ⟨n, rfl⟩ : ∃ q, n = q + 1 := ⟨n - 1, by omega⟩
      unfold lp_X2_copy_10
      rw [if_pos (by omega)]
      exact ⟨μ1, rfl, fun _ _ => ⟨rfl, rfl, rfl⟩, fun o _ _ => by omega, fun _ _ _ => rfl⟩
    | succ d ih =>
      intro t n μ1 ht hn
      obtain ⟨n, rfl⟩ : ∃ q, n = q + 1 := ⟨n - 1, by omega⟩
      unfold lp_X2_copy_10
      rw [if_neg (by omega), iv_ck_pos (by omega), iv_ck_pos (by omega), iv_ck_pos (by omega), iv_ck_pos (by omega), iv_ck_pos (by omega), iv_ck_pos (by omega), iv_wr_succ (by omega), Int.toNat_natCast, iv_upd_na (a' := b + 2) (by omega), iv_upd_na (a' := b + 3) (by omega), iv_upd_na (a' := b + 3) (by omega)]
      obtain ⟨ν, e, f1, f2, f3⟩ := ih (t + 1) n (iv_upd (iv_upd (iv_upd μ1 (a + 1) t (μ1 (b + 1) t)) (a + 2) t (μ1 (b + 2) t)) (a + 3) t (μ1 (b + 3) t)) (by omega) (by omega)
      refine ⟨ν, e, fun o ho => ?_, fun o h1 h2 => ?_, fun x k hx => ?_⟩
      · obtain ⟨g1, g2, g3⟩ := f1 o (by omega)
        rw [g1, g2, g3]
        exact ⟨by rw [iv_upd_nk (by omega), iv_upd_nk (by omega), iv_upd_nk (by omega)], by rw [iv_upd_nk (by omega), iv_upd_nk (by omega), iv_upd_nk (by omega)], by rw [iv_upd_nk (by omega), iv_upd_nk (by omega), iv_upd_nk (by omega)]⟩
      · by_cases q : o = t
        · subst q
          obtain ⟨g1, g2, g3⟩ := f1 o (by omega)
          rw [g1, g2, g3]
          exact ⟨by rw [iv_upd_na (by omega), iv_upd_na (by omega), iv_upd_at], by rw [iv_upd_na (by omega), iv_upd_at], iv_upd_at⟩
        · obtain ⟨g1, g2, g3⟩ := f2 o (by omega) h2
          rw [g1, g2, g3]
          exact ⟨by rw [iv_upd_na (by omega), iv_upd_na (by omega), iv_upd_na (by omega)], by rw [iv_upd_na (by omega), iv_upd_na (by omega), iv_upd_na (by omega)], by rw [iv_upd_na (by omega), iv_upd_na (by omega), iv_upd_na (by omega)]⟩
      · rw [f3 x k hx, iv_upd_na (by omega), iv_upd_na (by omega), iv_upd_na (by omega)]
  obtain ⟨ν, e, f1, f2, f3⟩ := key 8 0 iv_fuel (iv_upd μ a 3 (μ b 3)) (by omega) (by decide)
  refine ⟨ν, e, by rw [f3 a 3 (by omega), iv_upd_at], fun t ht => ?_, fun x k h1 h2 => ?_⟩
  · obtain ⟨g1, g2, g3⟩ := f2 t (by omega) ht
    rw [g1, g2, g3]
    exact ⟨iv_upd_na (by omega), iv_upd_na (by omega), iv_upd_na (by omega)⟩
  · rw [f3 x k h1]
    unfold iv_upd
    rw [if_neg h2]
theorem ib_slotAt {p : Int} {μ : ivM} : f_X9_slotAt p μ = some (if 0 ≤ p ∧ p < 2 then ((16 + 4 * p.toNat : Nat) : Int) else 0, μ) := by
  unfold f_X9_slotAt
  simp only [iv_let]
  by_cases c1 : p < 0
  · rw [if_pos c1, if_neg (by omega)]; rfl
  · rw [if_neg c1]
    by_cases c2 : 2 ≤ p
    · rw [if_pos c2, if_neg (by omega)]; rfl
    · rw [if_neg c2, iv_ck_pos (by omega), if_pos (by omega)]
theorem ib_isMem2 {q : Nat} (hq : q < 2) : iv_isMem (16 + 4 * q) = true := by
  have : q = 0 ∨ q = 1 := by omega
  rcases this with rfl | rfl <;> rfl
/-! the model's copies -/
theorem ib_keep21 {q : Nat} (hq : q < 2) (k : ivM → Option (Int × ivM)) : ∀ (d i n : Nat) (μ : ivM), i + d = 40 → d < n → ∃ ν, lp_X10_keep_21 q k n i μ = k ν ∧ (∀ a j, ¬ (a = 131 ∧ 40 * q ≤ j ∧ j < 40 * q + 40) → ν a j = μ a j) ∧ (∀ j, j < i → ν 131 (40 * q + j) = μ 131 (40 * q + j)) ∧ ∀ j, i ≤ j → j < 40 → ν 131 (40 * q + j) = μ 115 j := by
  intro d
  induction d with
  | zero =>
    intro i n μ hi hn
    obtain ⟨n, rfl⟩ : ∃ q, n = q + 1 := ⟨n - 1, by omega⟩
    unfold lp_X10_keep_21
    rw [if_pos (by omega)]
    exact ⟨μ, rfl, fun _ _ _ => rfl, fun _ _ => rfl, fun j _ _ => by omega⟩
  | succ d ih =>
    intro i n μ hi hn
    obtain ⟨n, rfl⟩ : ∃ q, n = q + 1 := ⟨n - 1, by omega⟩
    have e1 : iv_wr (iv_wr (40 * (q : Int)) + (i : Int)) = ((40 * q + i : Nat) : Int) := by
      rw [iv_wr_id (x := 40 * (q : Int)) (by omega) (by omega), iv_wr_id (by omega) (by omega)]; omega
    unfold lp_X10_keep_21
    rw [if_neg (by omega), iv_ck_pos (by omega), e1, iv_ck_pos (by omega), iv_wr_succ (by omega), Int.toNat_natCast, Int.toNat_natCast]
    obtain ⟨ν, e, f1, f2, f3⟩ := ih (i + 1) n (iv_upd μ 131 (40 * q + i) (μ 115 i)) (by omega) (by omega)
    refine ⟨ν, e, fun a j h => ?_, fun j hj => by rw [f2 j (by omega), iv_upd_nk (by omega)], fun j h1 h2 => ?_⟩
    · rw [f1 a j h]
      unfold iv_upd
      rw [if_neg (by omega)]
    · by_cases c : j = i
      · subst c; rw [f2 j (by omega), iv_upd_at]
      · rw [f3 j (by omega) h2, iv_upd_na (by omega)]
theorem ib_keep52 {q : Nat} (hq : q < 2) (k : ivM → Option (Int × ivM)) : ∀ (d i n : Nat) (μ : ivM), i + d = 8 → d < n → ∃ ν, lp_X10_keep_52 q k n i μ = k ν ∧ (∀ a j, ¬ ((a = 132 ∨ a = 133 ∨ a = 134) ∧ 8 * q ≤ j ∧ j < 8 * q + 8) → ν a j = μ a j) ∧ (∀ a j, j < i → ν a (8 * q + j) = μ a (8 * q + j)) ∧ ∀ j, i ≤ j → j < 8 → ν 132 (8 * q + j) = μ 116 j ∧ ν 133 (8 * q + j) = μ 117 j ∧ ν 134 (8 * q + j) = μ 118 j := by
  intro d
  induction d with
  | zero =>
    intro i n μ hi hn
    obtain ⟨n, rfl⟩ : ∃ q, n = q + 1 := ⟨n - 1, by omega⟩
    unfold lp_X10_keep_52
    rw [if_pos (by omega)]
    exact ⟨μ, rfl, fun _ _ _ => rfl, fun _ _ _ => rfl, fun j _ _ => by omega⟩
  | succ d ih =>
    intro i n μ hi hn
    obtain ⟨n, rfl⟩ : ∃ q, n = q + 1 := ⟨n - 1, by omega⟩
    have e1 : iv_wr (iv_wr (8 * (q : Int)) + (i : Int)) = ((8 * q + i : Nat) : Int) := by
      rw [iv_wr_id (x := 8 * (q : Int)) (by omega) (by omega), iv_wr_id (by omega) (by omega)]; omega
    unfold lp_X10_keep_52
    rw [if_neg (by omega), iv_ck_pos (by omega), e1, iv_ck_pos (by omega), iv_ck_pos (by omega), iv_ck_pos (by omega), iv_ck_pos (by omega), iv_ck_pos (by omega), iv_wr_succ (by omega), Int.toNat_natCast, Int.toNat_natCast, iv_upd_na (a' := 117) (by omega), iv_upd_na (a' := 118) (by omega), iv_upd_na (a' := 118) (by omega)]
    obtain ⟨ν, e, f1, f2, f3⟩ := ih (i + 1) n (iv_upd (iv_upd (iv_upd μ 132 (8 * q + i) (μ 116 i)) 133 (8 * q + i) (μ 117 i)) 134 (8 * q + i) (μ 118 i)) (by omega) (by omega)
    refine ⟨ν, e, fun a j h => ?_, fun a j hj => by rw [f2 a j (by omega), iv_upd_nk (by omega), iv_upd_nk (by omega), iv_upd_nk (by omega)], fun j h1 h2 => ?_⟩
    · rw [f1 a j h]
      unfold iv_upd
      rw [if_neg (by omega), if_neg (by omega), if_neg (by omega)]
    · by_cases c : j = i
      · subst c
        rw [f2 132 j (by omega), f2 133 j (by omega), f2 134 j (by omega)]
        exact ⟨by rw [iv_upd_na (by omega), iv_upd_na (by omega), iv_upd_at], by rw [iv_upd_na (by omega), iv_upd_at], iv_upd_at⟩
      · obtain ⟨g1, g2, g3⟩ := f3 j (by omega) h2
        rw [g1, g2, g3]
        exact ⟨by rw [iv_upd_na (by omega), iv_upd_na (by omega), iv_upd_na (by omega)], by rw [iv_upd_na (by omega), iv_upd_na (by omega), iv_upd_na (by omega)], by rw [iv_upd_na (by omega), iv_upd_na (by omega), iv_upd_na (by omega)]⟩
theorem ib_again26 {q : Nat} (hq : q < 2) (k : ivM → Option (Int × ivM)) : ∀ (d i n : Nat) (μ : ivM), i + d = 40 → d < n → ∃ ν, lp_X10_again_26 q k n i μ = k ν ∧ (∀ a j, ¬ (a = 115 ∧ j < 40) → ν a j = μ a j) ∧ (∀ j, j < i → ν 115 j = μ 115 j) ∧ ∀ j, i ≤ j → j < 40 → ν 115 j = μ 131 (40 * q + j) := by
  intro d
  induction d with
  | zero =>
    intro i n μ hi hn
    obtain ⟨n, rfl⟩ : ∃ q, n = q + 1 := ⟨n - 1, by omega⟩
    unfold lp_X10_again_26
    rw [if_pos (by omega)]
    exact ⟨μ, rfl, fun _ _ _ => rfl, fun _ _ => rfl, fun j _ _ => by omega⟩
  | succ d ih =>
    intro i n μ hi hn
    obtain ⟨n, rfl⟩ : ∃ q, n = q + 1 := ⟨n - 1, by omega⟩
    have e1 : iv_wr (iv_wr (40 * (q : Int)) + (i : Int)) = ((40 * q + i : Nat) : Int) := by
      rw [iv_wr_id (x := 40 * (q : Int)) (by omega) (by omega), iv_wr_id (by omega) (by omega)]; omega
    unfold lp_X10_again_26
    rw [if_neg (by omega), e1, iv_ck_pos (by omega), iv_ck_pos (by omega), iv_wr_succ (by omega), Int.toNat_natCast, Int.toNat_natCast]
    obtain ⟨ν, e, f1, f2, f3⟩ := ih (i + 1) n (iv_upd μ 115 i (μ 131 (40 * q + i))) (by omega) (by omega)
    refine ⟨ν, e, fun a j h => ?_, fun j hj => by rw [f2 j (by omega), iv_upd_nk (by omega)], fun j h1 h2 => ?_⟩
    · rw [f1 a j h]
      unfold iv_upd
      rw [if_neg (by omega)]
    · by_cases c : j = i
      · subst c; rw [f2 j (by omega), iv_upd_at]
      · rw [f3 j (by omega) h2, iv_upd_na (by omega)]
theorem ib_again57 {q : Nat} (hq : q < 2) (k : ivM → Option (Int × ivM)) : ∀ (d i n : Nat) (μ : ivM), i + d = 8 → d < n → ∃ ν, lp_X10_again_57 q k n i μ = k ν ∧ (∀ a j, ¬ ((a = 116 ∨ a = 117 ∨ a = 118) ∧ j < 8) → ν a j = μ a j) ∧ (∀ a j, j < i → ν a j = μ a j) ∧ ∀ j, i ≤ j → j < 8 → ν 116 j = μ 132 (8 * q + j) ∧ ν 117 j = μ 133 (8 * q + j) ∧ ν 118 j = μ 134 (8 * q + j) := by
  intro d
  induction d with
  | zero =>
    intro i n μ hi hn
    obtain ⟨n, rfl⟩ : ∃ q, n = q + 1 := ⟨n - 1, by omega⟩
    unfold lp_X10_again_57
    rw [if_pos (by omega)]
    exact ⟨μ, rfl, fun _ _ _ => rfl, fun _ _ _ => rfl, fun j _ _ => by omega⟩
  | succ d ih =>
    intro i n μ hi hn
    obtain ⟨n, rfl⟩ : ∃ q, n = q + 1 := ⟨n - 1, by omega⟩
    have e1 : iv_wr (iv_wr (8 * (q : Int)) + (i : Int)) = ((8 * q + i : Nat) : Int) := by
      rw [iv_wr_id (x := 8 * (q : Int)) (by omega) (by omega), iv_wr_id (by omega) (by omega)]; omega
    unfold lp_X10_again_57
    rw [if_neg (by omega), e1, iv_ck_pos (by omega), iv_ck_pos (by omega), iv_ck_pos (by omega), iv_ck_pos (by omega), iv_ck_pos (by omega), iv_ck_pos (by omega), iv_wr_succ (by omega), Int.toNat_natCast, Int.toNat_natCast, iv_upd_na (a' := 133) (by omega), iv_upd_na (a' := 134) (by omega), iv_upd_na (a' := 134) (by omega)]
    obtain ⟨ν, e, f1, f2, f3⟩ := ih (i + 1) n (iv_upd (iv_upd (iv_upd μ 116 i (μ 132 (8 * q + i))) 117 i (μ 133 (8 * q + i))) 118 i (μ 134 (8 * q + i))) (by omega) (by omega)
    refine ⟨ν, e, fun a j h => ?_, fun a j hj => by rw [f2 a j (by omega), iv_upd_nk (by omega), iv_upd_nk (by omega), iv_upd_nk (by omega)], fun j h1 h2 => ?_⟩
    · rw [f1 a j h]
      unfold iv_upd
      rw [if_neg (by omega), if_neg (by omega), if_neg (by omega)]
    · by_cases c : j = i
      · subst c
        rw [f2 116 j (by omega), f2 117 j (by omega), f2 118 j (by omega)]
        exact ⟨by rw [iv_upd_na (by omega), iv_upd_na (by omega), iv_upd_at], by rw [iv_upd_na (by omega), iv_upd_at], iv_upd_at⟩
      · obtain ⟨g1, g2, g3⟩ := f3 j (by omega) h2
        rw [g1, g2, g3]
        exact ⟨by rw [iv_upd_na (by omega), iv_upd_na (by omega), iv_upd_na (by omega)], by rw [iv_upd_na (by omega), iv_upd_na (by omega), iv_upd_na (by omega)], by rw [iv_upd_na (by omega), iv_upd_na (by omega), iv_upd_na (by omega)]⟩
theorem is_keep (h : ib_inv D s) {p : Int} : ib_st D s (f_X9_keep p) (f_X10_keep p) := by
  by_cases c : 0 ≤ p ∧ p < 2
  · obtain ⟨q, rfl⟩ : ∃ q : Nat, p = q := ⟨p.toNat, by omega⟩
    have hq : q < 2 := by omega
    obtain ⟨μ1, e1, u1, u2, u3⟩ := ib_copy (a := 16 + 4 * q) (b := 11) (by omega) s
    have ex : f_X9_keep q s = some (s 11 3, iv_upd μ1 (16 + 4 * q) 4 1) := by
      unfold f_X9_keep
      rw [ib_slotAt, iv_bnd_some, if_pos c, Int.toNat_natCast, Int.toNat_natCast, if_neg (by omega), iv_ck_pos (ib_isMem2 hq), e1, iv_bnd_some, iv_upd_na (by omega), u3 11 3 (by omega) (by omega)]
    obtain ⟨μ2, e2, v1, _, v3⟩ := ib_keep21 hq (fun (μ10 : ivM) =>
      lp_X10_keep_52 q (fun (μ21 : ivM) =>
        iv_ck (0 ≤ (q : Int) ∧ (q : Int) < 2) <|
        some (((iv_upd μ21 135 (q : Int).toNat (μ21 110 15)) 110 15), (iv_upd μ21 135 (q : Int).toNat (μ21 110 15)))) iv_fuel 0 μ10) 40 0 iv_fuel (iv_upd (iv_upd μ1 (16 + 4 * q) 4 1) 130 q 1) (by omega) (by decide)
    obtain ⟨μ3, e3, w1, _, w3⟩ := ib_keep52 hq (fun (μ21 : ivM) =>
        iv_ck (0 ≤ (q : Int) ∧ (q : Int) < 2) <|
        some (((iv_upd μ21 135 (q : Int).toNat (μ21 110 15)) 110 15), (iv_upd μ21 135 (q : Int).toNat (μ21 110 15)))) 8 0 iv_fuel μ2 (by omega) (by decide)
    rw [show ((0 : Nat) : Int) = 0 from rfl] at e2 e3
    simp only [Int.toNat_natCast] at e2 e3
    have e15 : μ3 110 15 = s 110 15 := by
      rw [w1 _ _ (by omega), v1 _ _ (by omega), iv_upd_na (by omega), iv_upd_na (by omega), u3 _ _ (by omega) (by omega)]
    refine ⟨s 11 3, _, iv_upd μ3 135 q (s 110 15), ex, ?_, ?_⟩
    · unfold f_X10_keep
      rw [ib_in, iv_bnd_some, ib_iz, if_pos (by omega), iv_ck_pos (by omega), Int.toNat_natCast, show (1 : Int) % 2 = 1 from rfl, e2, e3, iv_ck_pos (by omega), iv_upd_na (by omega), e15, h.Y.1]
    · have kk : ∀ a k, ¬ (16 + 4 * q ≤ a ∧ a ≤ 19 + 4 * q) → ¬ (130 ≤ a) → iv_upd μ3 135 q (s 110 15) a k = s a k := fun a k h1 h2 => by
        rw [iv_upd_na (by omega), w1 _ _ (by omega), v1 _ _ (by omega), iv_upd_na (by omega), iv_upd_na (by omega), u3 _ _ (by omega) (by omega)]
      obtain ⟨eT, eP⟩ := ib_TP_ext (κ := iv_upd μ3 135 q (s 110 15)) (s := s) (kk 110 13 (by omega) (by omega)) (kk 110 14 (by omega) (by omega))
      refine ⟨ib_tx_ext h.1 (fun k => kk _ _ (by omega) (by omega)) (fun k => kk _ _ (by omega) (by omega)) (fun k => kk _ _ (by omega) (by omega)) (kk _ _ (by omega) (by omega)),
        ib_ho_ext h.2.1 (fun k => kk _ _ (by omega) (by omega)) (fun k => kk _ _ (by omega) (by omega)) (fun k => kk _ _ (by omega) (by omega)) (kk _ _ (by omega) (by omega)) (kk _ _ (by omega) (by omega)) (kk _ _ (by omega) (by omega)), ?_, ?_,
        ib_so_ext h.2.2.2.2 (fun k => kk _ _ (by omega) (by omega)) (fun k => kk _ _ (by omega) (by omega)) (fun k => kk _ _ (by omega) (by omega)) (fun k => kk _ _ (by omega) (by omega)) (fun k => kk _ _ (by omega) (by omega)) (kk _ _ (by omega) (by omega))⟩
      · rw [eT, eP, kk 110 15 (by omega) (by omega)]
        exact ib_mm_ext h.2.2.1 (fun k => kk _ _ (by omega) (by omega)) (fun k => kk _ _ (by omega) (by omega)) (fun k => kk _ _ (by omega) (by omega)) (fun k => kk _ _ (by omega) (by omega)) (fun k => kk _ _ (by omega) (by omega)) (fun k => kk _ _ (by omega) (by omega)) (fun k => kk _ _ (by omega) (by omega)) (fun k => kk _ _ (by omega) (by omega))
      · intro r hr
        rw [eT, eP]
        by_cases cr : r = q
        · subst cr
          have s4 : iv_upd μ3 135 r (s 110 15) (16 + 4 * r) 4 = 1 := by
            rw [iv_upd_na (by omega), w1 _ _ (by omega), v1 _ _ (by omega), iv_upd_na (by omega), iv_upd_at]
          have s130 : iv_upd μ3 135 r (s 110 15) 130 r = 1 := by
            rw [iv_upd_na (by omega), w1 _ _ (by omega), v1 _ _ (by omega), iv_upd_at]
          rw [s4, s130, iv_upd_at]
          refine ⟨rfl, Or.inr rfl, fun _ => ?_⟩
          have low : ∀ a k, a ≤ 19 + 4 * r → ¬ (a = 16 + 4 * r ∧ k = 4) → iv_upd μ3 135 r (s 110 15) a k = μ1 a k := fun a k h1 h2 => by
            rw [iv_upd_na (by omega), w1 _ _ (by omega), v1 _ _ (by omega), iv_upd_na (by omega)]
            unfold iv_upd
            rw [if_neg h2]
          refine ib_mm_cp h.2.2.1 rfl ((low _ _ (by omega) (by omega)).trans u1) (fun t ht => (low _ _ (by omega) (by omega)).trans (u2 t ht).1) (fun t ht => (low _ _ (by omega) (by omega)).trans (u2 t ht).2.1) (fun t ht => (low _ _ (by omega) (by omega)).trans (u2 t ht).2.2) (fun i hi => ?_) (fun t ht => ?_) (fun t ht => ?_) (fun t ht => ?_)
          · rw [iv_upd_na (by omega), w1 _ _ (by omega), v3 i (by omega) hi, iv_upd_na (by omega), iv_upd_na (by omega), u3 _ _ (by omega) (by omega), Nat.zero_add]
          · rw [iv_upd_na (by omega), (w3 t (by omega) ht).1, v1 _ _ (by omega), iv_upd_na (by omega), iv_upd_na (by omega), u3 _ _ (by omega) (by omega), Nat.zero_add]
          · rw [iv_upd_na (by omega), (w3 t (by omega) ht).2.1, v1 _ _ (by omega), iv_upd_na (by omega), iv_upd_na (by omega), u3 _ _ (by omega) (by omega), Nat.zero_add]
          · rw [iv_upd_na (by omega), (w3 t (by omega) ht).2.2, v1 _ _ (by omega), iv_upd_na (by omega), iv_upd_na (by omega), u3 _ _ (by omega) (by omega), Nat.zero_add]
        · obtain ⟨h1, h2, h3⟩ := h.2.2.2.1 r hr
          have oth : ∀ a k, ¬ (16 + 4 * q ≤ a ∧ a ≤ 19 + 4 * q) → ¬ (a = 131 ∧ 40 * q ≤ k ∧ k < 40 * q + 40) → ¬ ((a = 132 ∨ a = 133 ∨ a = 134) ∧ 8 * q ≤ k ∧ k < 8 * q + 8) → ¬ ((a = 130 ∨ a = 135) ∧ k = q) → iv_upd μ3 135 q (s 110 15) a k = s a k := fun a k g1 g2 g3 g4 => by
            have a1 : iv_upd μ3 135 q (s 110 15) a k = μ3 a k := by
              unfold iv_upd
              rw [if_neg (by omega)]
            rw [a1, w1 _ _ g3, v1 _ _ g2]
            have a2 : iv_upd (iv_upd μ1 (16 + 4 * q) 4 1) 130 q 1 a k = μ1 a k := by
              unfold iv_upd
              rw [if_neg (by omega), if_neg (by omega)]
            rw [a2, u3 _ _ (by omega) (by omega)]
          rw [oth (16 + 4 * r) 4 (by omega) (by omega) (by omega) (by omega), oth 130 r (by omega) (by omega) (by omega) (by omega), oth 135 r (by omega) (by omega) (by omega) (by omega)]
          refine ⟨h1, h2, fun g => ?_⟩
          exact ib_mm_cp (h3 g) rfl (oth _ _ (by omega) (by omega) (by omega) (by omega)) (fun t ht => oth _ _ (by omega) (by omega) (by omega) (by omega)) (fun t ht => oth _ _ (by omega) (by omega) (by omega) (by omega)) (fun t ht => oth _ _ (by omega) (by omega) (by omega) (by omega)) (fun i hi => oth _ _ (by omega) (by omega) (by omega) (by omega)) (fun t ht => oth _ _ (by omega) (by omega) (by omega) (by omega)) (fun t ht => oth _ _ (by omega) (by omega) (by omega) (by omega)) (fun t ht => oth _ _ (by omega) (by omega) (by omega) (by omega))
  · refine ⟨-1, s, s, ?_, ?_, h⟩
    · unfold f_X9_keep
      rw [ib_slotAt, iv_bnd_some, if_neg c, if_pos (show Int.toNat 0 = 0 from rfl)]
    · unfold f_X10_keep
      rw [ib_in, iv_bnd_some, ib_iz, if_neg (by omega)]
theorem is_again (h : ib_inv D s) {p : Int} : ib_st D s (f_X9_again p) (f_X10_again p) := by
  by_cases c : 0 ≤ p ∧ p < 2
  · obtain ⟨q, rfl⟩ : ∃ q : Nat, p = q := ⟨p.toNat, by omega⟩
    have hq : q < 2 := by omega
    obtain ⟨h1, h2, h3⟩ := h.2.2.2.1 q hq
    by_cases c0 : s 130 q = 0
    · refine ⟨-3, s, s, ?_, ?_, h⟩
      · unfold f_X9_again
        rw [ib_slotAt, iv_bnd_some, if_pos c, Int.toNat_natCast, Int.toNat_natCast, if_neg (by omega), iv_ck_pos (ib_isMem2 hq), h1, if_pos c0]
      · unfold f_X10_again
        rw [ib_in, iv_bnd_some, ib_iz, if_pos (by omega), iv_ck_pos (by omega), Int.toNat_natCast, if_pos c0]
    · have hmm := h3 (h2.resolve_left c0)
      obtain ⟨μ1, e1, u1, u2, u3⟩ := ib_copy (a := 11) (b := 16 + 4 * q) (by omega) s
      have ed : μ1 11 3 = s 135 q := u1.trans hmm.1
      have ex : f_X9_again q s = some (s 135 q, μ1) := by
        unfold f_X9_again
        rw [ib_slotAt, iv_bnd_some, if_pos c, Int.toNat_natCast, Int.toNat_natCast, if_neg (by omega), iv_ck_pos (ib_isMem2 hq), h1, if_neg c0, e1, iv_bnd_some, ed]
      obtain ⟨μ2, e2, v1, _, v3⟩ := ib_again26 hq (fun (μ11 : ivM) =>
        lp_X10_again_57 q (fun (μ22 : ivM) =>
          iv_ck (0 ≤ (q : Int) ∧ (q : Int) < 2) <|
          some (((iv_upd μ22 110 15 (μ22 135 (q : Int).toNat)) 110 15), (iv_upd μ22 110 15 (μ22 135 (q : Int).toNat)))) iv_fuel 0 μ11) 40 0 iv_fuel μ1 (by omega) (by decide)
      obtain ⟨μ3, e3, w1, _, w3⟩ := ib_again57 hq (fun (μ22 : ivM) =>
          iv_ck (0 ≤ (q : Int) ∧ (q : Int) < 2) <|
          some (((iv_upd μ22 110 15 (μ22 135 (q : Int).toNat)) 110 15), (iv_upd μ22 110 15 (μ22 135 (q : Int).toNat)))) 8 0 iv_fuel μ2 (by omega) (by decide)
      rw [show ((0 : Nat) : Int) = 0 from rfl] at e2 e3
      simp only [Int.toNat_natCast] at e2 e3
      have e135 : μ3 135 q = s 135 q := by rw [w1 _ _ (by omega), v1 _ _ (by omega), u3 _ _ (by omega) (by omega)]
      refine ⟨s 135 q, _, iv_upd μ3 110 15 (s 135 q), ex, ?_, ?_⟩
      · unfold f_X10_again
        rw [ib_in, iv_bnd_some, ib_iz, if_pos (by omega), iv_ck_pos (by omega), Int.toNat_natCast, u3 130 q (by omega) (by omega), if_neg c0, e2, e3, iv_ck_pos (by omega), e135, iv_upd_at]
      · have kk : ∀ a k, ¬ (11 ≤ a ∧ a ≤ 14) → ¬ (115 ≤ a ∧ a ≤ 118) → ¬ (a = 110 ∧ k = 15) → iv_upd μ3 110 15 (s 135 q) a k = s a k := fun a k g1 g2 g3 => by
          have a1 : iv_upd μ3 110 15 (s 135 q) a k = μ3 a k := by
            unfold iv_upd
            rw [if_neg g3]
          rw [a1, w1 _ _ (by omega), v1 _ _ (by omega), u3 _ _ (by omega) (by omega)]
        obtain ⟨eT, eP⟩ := ib_TP_ext (κ := iv_upd μ3 110 15 (s 135 q)) (s := s) (kk 110 13 (by omega) (by omega) (by omega)) (kk 110 14 (by omega) (by omega) (by omega))
        refine ⟨ib_tx_ext h.1 (fun k => kk _ _ (by omega) (by omega) (by omega)) (fun k => kk _ _ (by omega) (by omega) (by omega)) (fun k => kk _ _ (by omega) (by omega) (by omega)) (kk _ _ (by omega) (by omega) (by omega)),
          ib_ho_ext h.2.1 (fun k => kk _ _ (by omega) (by omega) (by omega)) (fun k => kk _ _ (by omega) (by omega) (by omega)) (fun k => kk _ _ (by omega) (by omega) (by omega)) (kk _ _ (by omega) (by omega) (by omega)) (kk _ _ (by omega) (by omega) (by omega)) (kk _ _ (by omega) (by omega) (by omega)), ?_,
          ib_sl_ext h.2.2.2.1 (fun a k g1 g2 => kk _ _ (by omega) (by omega) (by omega)) (fun a k g1 => kk _ _ (by omega) (by omega) (by omega)) (kk _ _ (by omega) (by omega) (by omega)) (kk _ _ (by omega) (by omega) (by omega)),
          ib_so_ext h.2.2.2.2 (fun k => kk _ _ (by omega) (by omega) (by omega)) (fun k => kk _ _ (by omega) (by omega) (by omega)) (fun k => kk _ _ (by omega) (by omega) (by omega)) (fun k => kk _ _ (by omega) (by omega) (by omega)) (fun k => kk _ _ (by omega) (by omega) (by omega)) (kk _ _ (by omega) (by omega) (by omega))⟩
        rw [eT, eP, iv_upd_at]
        have low : ∀ a k, a ≤ 14 → iv_upd μ3 110 15 (s 135 q) a k = μ1 a k := fun a k g1 => by
          rw [iv_upd_na (by omega), w1 _ _ (by omega), v1 _ _ (by omega)]
        refine ib_mm_cp hmm rfl ((low _ _ (by omega)).trans u1) (fun t ht => (low _ _ (by omega)).trans (u2 t ht).1) (fun t ht => (low _ _ (by omega)).trans (u2 t ht).2.1) (fun t ht => (low _ _ (by omega)).trans (u2 t ht).2.2) (fun i hi => ?_) (fun t ht => ?_) (fun t ht => ?_) (fun t ht => ?_)
        · rw [iv_upd_na (by omega), w1 _ _ (by omega), Nat.zero_add, v3 i (by omega) hi, u3 _ _ (by omega) (by omega)]
        · rw [iv_upd_na (by omega), Nat.zero_add, (w3 t (by omega) ht).1, v1 _ _ (by omega), u3 _ _ (by omega) (by omega)]
        · rw [iv_upd_na (by omega), Nat.zero_add, (w3 t (by omega) ht).2.1, v1 _ _ (by omega), u3 _ _ (by omega) (by omega)]
        · rw [iv_upd_na (by omega), Nat.zero_add, (w3 t (by omega) ht).2.2, v1 _ _ (by omega), u3 _ _ (by omega) (by omega)]
  · refine ⟨-1, s, s, ?_, ?_, h⟩
    · unfold f_X9_again
      rw [ib_slotAt, iv_bnd_some, if_neg c, if_pos (show Int.toNat 0 = 0 from rfl)]
    · unfold f_X10_again
      rw [ib_in, iv_bnd_some, ib_iz, if_neg (by omega)]
end IBX
