/-! STEPS: THE HOUSE -/
def ip_h3 : ivM → Option (Int × ivM) := fun (μ38 : ivM) =>
          some ((iv_wr ((iv_wr (10 * ((iv_upd (iv_upd (iv_upd (iv_upd (iv_upd (iv_upd μ38 110 12 (μ38 110 4)) 110 13 ((iv_upd μ38 110 12 (μ38 110 4)) 110 5)) 110 14 ((iv_upd (iv_upd μ38 110 12 (μ38 110 4)) 110 13 ((iv_upd μ38 110 12 (μ38 110 4)) 110 5)) 110 6)) 110 15 0) 130 0 (0 % 2)) 130 1 (0 % 2)) 110 13))) + ((iv_upd (iv_upd (iv_upd (iv_upd (iv_upd (iv_upd μ38 110 12 (μ38 110 4)) 110 13 ((iv_upd μ38 110 12 (μ38 110 4)) 110 5)) 110 14 ((iv_upd (iv_upd μ38 110 12 (μ38 110 4)) 110 13 ((iv_upd μ38 110 12 (μ38 110 4)) 110 5)) 110 6)) 110 15 0) 130 0 (0 % 2)) 130 1 (0 % 2)) 110 14))), (iv_upd (iv_upd (iv_upd (iv_upd (iv_upd (iv_upd μ38 110 12 (μ38 110 4)) 110 13 ((iv_upd μ38 110 12 (μ38 110 4)) 110 5)) 110 14 ((iv_upd (iv_upd μ38 110 12 (μ38 110 4)) 110 13 ((iv_upd μ38 110 12 (μ38 110 4)) 110 5)) 110 6)) 110 15 0) 130 0 (0 % 2)) 130 1 (0 % 2)))
def ip_h2 : ivM → Option (Int × ivM) := fun (μ31 : ivM) => lp_X10_house_109 ip_h3 iv_fuel 0 μ31
def ip_h1 : ivM → Option (Int × ivM) := fun (μ9 : ivM) => lp_X10_house_40 ip_h2 iv_fuel 0 μ9
theorem ip_house {κ : ivM} : f_X10_house κ = iv_bnd (f_X10_readText κ) fun r1 μ2 => if r1 = (-9) then lp_X10_house_14 ip_h1 iv_fuel 0 μ2 else some ((-3), μ2) := rfl
def ip_fin (κ : ivM) (T P : Nat) : ivM := iv_upd (iv_upd (iv_upd (iv_upd (iv_upd (iv_upd κ 110 12 (κ 110 4)) 110 13 (T : Int)) 110 14 (P : Int)) 110 15 0) 130 0 0) 130 1 0
theorem ip_h3_eq {κ : ivM} {T P : Nat} (hT : T ≤ 8) (hP : P ≤ 6) (h5 : κ 110 5 = T) (h6 : κ 110 6 = P) : ip_h3 κ = some (((10 * T + P : Nat) : Int), ip_fin κ T P) := by
  have a1 : iv_upd κ 110 12 (κ 110 4) 110 5 = T := by rw [iv_upd_nk (by omega)]; exact h5
  have a2 : iv_upd (iv_upd κ 110 12 (κ 110 4)) 110 13 (T : Int) 110 6 = P := by rw [iv_upd_nk (by omega), iv_upd_nk (by omega)]; exact h6
  have a3 : ip_fin κ T P 110 13 = T := by
    unfold ip_fin
    rw [iv_upd_na (by omega), iv_upd_na (by omega), iv_upd_nk (by omega), iv_upd_nk (by omega), iv_upd_at]
  have a4 : ip_fin κ T P 110 14 = P := by
    unfold ip_fin
    rw [iv_upd_na (by omega), iv_upd_na (by omega), iv_upd_nk (by omega), iv_upd_at]
  unfold ip_h3
  simp only [a1, a2, show (0 : Int) % 2 = 0 from rfl]
  show some (iv_wr (iv_wr (10 * (ip_fin κ T P 110 13)) + ip_fin κ T P 110 14), ip_fin κ T P) = _
  rw [a3, a4, iv_wr_id (x := 10 * (T : Int)) (by omega) (by omega), iv_wr_id (by omega) (by omega)]
  congr 2
section IBY
variable {D : Int} {s : ivM}
theorem is_house (h : ib_inv D s) : ib_st D s f_X9_house f_X10_house := by
  have hY := h.Y
  obtain ⟨n, t0, t1, t2, t3⟩ := h.1
  have hc : ip_ct n (fun k => s 120 k) s := ⟨t1, fun k hk => (t3 k hk).1⟩
  have hm : ip_mt n (fun k => s 120 k) s := ⟨t2, fun k hk => rfl⟩
  have hx : ∀ k, k < n → 0 ≤ s 120 k ∧ s 120 k < 256 := fun k hk => (t3 k hk).2
  obtain ⟨r, ν, κ0, e1, _, f1, _, hr⟩ := ip_parse t0 hx hc hm
  by_cases c : r = -9
  · obtain ⟨_, T, P, hJ0⟩ := hr.resolve_right (by omega)
    obtain ⟨hT8, hP6, ⟨n4, n5, _, _⟩, _⟩ := id hJ0
    obtain ⟨ν1, e2, a1, a2, a3, a4, a5⟩ := ib_settle hP6 ν n5
    obtain ⟨ν2, e3, b1, b2, b3⟩ := ib_begin hT8 ν1 ((a5 _ _ (by omega) (by omega)).trans n4)
    have xi : ∀ a k, iv_upd (iv_upd ν2 16 4 0) 20 4 0 a k = if a = 20 ∧ k = 4 then 0 else if a = 16 ∧ k = 4 then 0 else ν2 a k := fun _ _ => rfl
    have x0 : ∀ a k, ¬ (a = 20 ∧ k = 4) → ¬ (a = 16 ∧ k = 4) → iv_upd (iv_upd ν2 16 4 0) 20 4 0 a k = ν2 a k := fun a k h1 h2 => by rw [xi, if_neg h1, if_neg h2]
    have x1 : ∀ a k, ¬ (9 ≤ a ∧ a ≤ 14) → ¬ (5 ≤ a ∧ a ≤ 8) → ¬ (a = 20 ∧ k = 4) → ¬ (a = 16 ∧ k = 4) → iv_upd (iv_upd ν2 16 4 0) 20 4 0 a k = s a k := fun a k h1 h2 h3 h4 => by
      rw [x0 a k h3 h4, b3 _ _ (by omega) (by omega), a5 _ _ (by omega) (by omega), f1 _ _ (by omega)]
    have ex : f_X9_house s = some (((10 * T + P : Nat) : Int), iv_upd (iv_upd ν2 16 4 0) 20 4 0) := by
      unfold f_X9_house
      rw [e1, iv_bnd_some, if_pos c, e2, iv_bnd_some, e3, iv_bnd_some, ib_house43, x0 9 2 (by omega) (by omega), x0 9 3 (by omega) (by omega), b3 9 2 (by omega) (by omega), b3 9 3 (by omega) (by omega), a2, a3, n4, n5, iv_wr_id (x := 10 * (T : Int)) (by omega) (by omega), iv_wr_id (by omega) (by omega)]
      congr 2
    have hm2 : ip_mt n (fun k => s 120 k) (iv_upd (iv_upd ν2 16 4 0) 20 4 0) := ⟨(x1 _ _ (by omega) (by omega) (by omega) (by omega)).trans t2, fun k hk => x1 _ _ (by omega) (by omega) (by omega) (by omega)⟩
    obtain ⟨r', ν', κ, e4, e5, _, m2, hr2⟩ := ip_parse t0 hx hc hm2
    rw [e1] at e4
    cases e4
    obtain ⟨_, T', P', hJ⟩ := hr2.resolve_right (by omega)
    obtain ⟨_, _, ⟨n4', n5', k5, k6⟩, ⟨j7, j8, j9⟩, j10, j11, _⟩ := id hJ
    have eT : T' = T := by rw [n4] at n4'; omega
    have eP : P' = P := by rw [n5] at n5'; omega
    subst eT
    subst eP
    obtain ⟨κ1, e6, g1, _, g3⟩ := ib_house14 ip_h1 40 0 iv_fuel κ (by omega) (by decide)
    obtain ⟨κ2, e7, _, g5, g6⟩ := ib_house40 (T := T') hT8 ip_h2 8 0 iv_fuel κ1 (by omega) (by decide) (by rw [g1 _ _ (by omega)]; exact k5)
    obtain ⟨κ3, e8, g7, _, g9⟩ := ib_house109 ip_h3 6 0 iv_fuel κ2 (by omega) (by decide)
    rw [show ((0 : Nat) : Int) = 0 from rfl] at e6 e7 e8
    have q : ∀ a k, ¬ (115 ≤ a ∧ a ≤ 119) → κ3 a k = κ a k := fun a k h1 => by rw [g7 _ _ (by omega), g6 _ _ (by omega), g1 _ _ (by omega)]
    have eh3 := ip_h3_eq (κ := κ3) hT8 hP6 ((q _ _ (by omega)).trans k5) ((q _ _ (by omega)).trans k6)
    have em : f_X10_house (iv_upd (iv_upd ν2 16 4 0) 20 4 0) = some (((10 * T' + P' : Nat) : Int), ip_fin κ3 T' P') := by
      rw [ip_house, e5, iv_bnd_some, if_pos c, e6]
      show lp_X10_house_40 ip_h2 iv_fuel 0 κ1 = _
      rw [e7]
      show lp_X10_house_109 ip_h3 iv_fuel 0 κ2 = _
      rw [e8, eh3]
    have fi : ∀ a k, ¬ (a = 110 ∧ 12 ≤ k ∧ k ≤ 15) → ¬ (a = 130 ∧ k ≤ 1) → ip_fin κ3 T' P' a k = κ3 a k := fun a k h1 h2 => by
      unfold ip_fin iv_upd
      rw [if_neg (by omega), if_neg (by omega), if_neg (by omega), if_neg (by omega), if_neg (by omega), if_neg (by omega)]
    have lo : ∀ a k, a < 110 → ip_fin κ3 T' P' a k = iv_upd (iv_upd ν2 16 4 0) 20 4 0 a k := fun a k h1 => by
      rw [fi _ _ (by omega) (by omega), q _ _ (by omega), m2 _ _ (by omega) (by omega)]
    have hi : ∀ a k, 110 ≤ a → ¬ (111 ≤ a ∧ a ≤ 119) → ¬ (a = 110 ∧ (k = 4 ∨ k = 5 ∨ k = 6 ∨ k = 12 ∨ k = 13 ∨ k = 14 ∨ k = 15 ∨ k = 18 ∨ k = 19)) → ¬ (a = 130 ∧ k ≤ 1) → ip_fin κ3 T' P' a k = s a k := fun a k h1 h2 h3 h4 => by
      rw [fi _ _ (by omega) h4, q _ _ (by omega), m2 _ _ (by omega) (by omega), x1 _ _ (by omega) (by omega) (by omega) (by omega)]
    have w12 : ip_fin κ3 T' P' 110 12 = κ 110 4 := by
      unfold ip_fin
      rw [iv_upd_na (by omega), iv_upd_na (by omega), iv_upd_nk (by omega), iv_upd_nk (by omega), iv_upd_nk (by omega), iv_upd_at, q _ _ (by omega)]
    have w13 : ip_fin κ3 T' P' 110 13 = T' := by
      unfold ip_fin
      rw [iv_upd_na (by omega), iv_upd_na (by omega), iv_upd_nk (by omega), iv_upd_nk (by omega), iv_upd_at]
    have w14 : ip_fin κ3 T' P' 110 14 = P' := by
      unfold ip_fin
      rw [iv_upd_na (by omega), iv_upd_na (by omega), iv_upd_nk (by omega), iv_upd_at]
    have w15 : ip_fin κ3 T' P' 110 15 = 0 := by
      unfold ip_fin
      rw [iv_upd_na (by omega), iv_upd_na (by omega), iv_upd_at]
    have w130 : ∀ q : Nat, q < 2 → ip_fin κ3 T' P' 130 q = 0 := fun q hq => by
      have : q = 0 ∨ q = 1 := by omega
      rcases this with rfl | rfl
      · unfold ip_fin
        rw [iv_upd_nk (by omega), iv_upd_at]
      · unfold ip_fin
        rw [iv_upd_at]
    have wT : ib_T (ip_fin κ3 T' P') = T' := by unfold ib_T; rw [w13]; rfl
    have wP : ib_P (ip_fin κ3 T' P') = P' := by unfold ib_P; rw [w14]; rfl
    refine ⟨_, _, ip_fin κ3 T' P', ex, em, ⟨?_, ?_, ?_, ?_, ?_⟩⟩
    · refine ib_tx_ext h.1 (fun k => ?_) (fun k => ?_) (fun k => hi _ _ (by omega) (by omega) (by omega) (by omega)) (hi _ _ (by omega) (by omega) (by omega) (by omega))
      · rw [lo _ _ (by omega), x1 _ _ (by omega) (by omega) (by omega) (by omega)]
      · rw [lo _ _ (by omega), x1 _ _ (by omega) (by omega) (by omega) (by omega)]
    · have c9 : ∀ k, ip_fin κ3 T' P' 9 k = ν1 9 k := fun k => by rw [lo _ _ (by omega), x0 _ _ (by omega) (by omega), b3 _ _ (by omega) (by omega)]
      have c10 : ∀ k, ip_fin κ3 T' P' 10 k = ν1 10 k := fun k => by rw [lo _ _ (by omega), x0 _ _ (by omega) (by omega), b3 _ _ (by omega) (by omega)]
      refine ⟨by rw [w13]; omega, by rw [w13]; omega, by rw [w14]; omega, by rw [w14]; omega, by rw [c9, a2, n4, w13], by rw [c9, a3, n5, w14], by rw [c9, a1, w12, j7], by rw [w12]; exact j8, by rw [w12]; exact j9, fun p hp => ?_⟩
      have c119 : ip_fin κ3 T' P' 119 p = κ 114 p := by
        rw [fi _ _ (by omega) (by omega), g9 p (by omega) hp, g6 _ _ (by omega), g1 _ _ (by omega)]
      rw [w14, c10, a4 p hp, c119]
      refine ⟨fun z => ?_, fun z => if_neg (by omega)⟩
      have zz : p < P' := by omega
      rw [if_pos zz]
      exact j11 p zz
    · rw [wT, wP, w15]
      refine ⟨?_, Int.le_refl 0, by omega, fun t ht => ?_⟩
      · rw [lo _ _ (by omega), x0 _ _ (by omega) (by omega), b1]
      · obtain ⟨y12, y13, y14⟩ := b2 t ht
        obtain ⟨z116, z117, z118⟩ := g5 t (by omega) ht
        have m12 : ip_fin κ3 T' P' 12 t = if t < T' then ν 6 t else 0 := by
          rw [lo _ _ (by omega), x0 _ _ (by omega) (by omega), y12, a5 _ _ (by omega) (by omega)]
        have m13 : ip_fin κ3 T' P' 13 t = 0 := by
          rw [lo _ _ (by omega), x0 _ _ (by omega) (by omega), y13]
        have m14 : ip_fin κ3 T' P' 14 t = if t < T' then ν 7 t else 0 := by
          rw [lo _ _ (by omega), x0 _ _ (by omega) (by omega), y14, a5 _ _ (by omega) (by omega)]
        have m116 : ip_fin κ3 T' P' 116 t = if t < T' then κ 112 t else 0 := by
          rw [fi _ _ (by omega) (by omega), g7 _ _ (by omega), z116, g1 _ _ (by omega)]
        have m117 : ip_fin κ3 T' P' 117 t = if t < T' then κ 113 t else 0 := by
          rw [fi _ _ (by omega) (by omega), g7 _ _ (by omega), z117, g1 _ _ (by omega)]
        have m118 : ip_fin κ3 T' P' 118 t = 0 := by
          rw [fi _ _ (by omega) (by omega), g7 _ _ (by omega), z118]
        have m115 : ∀ i, i < 5 → ip_fin κ3 T' P' 115 (5 * t + i) = κ 111 (5 * t + i) := fun i hi => by
          rw [fi _ _ (by omega) (by omega), g7 _ _ (by omega), g6 _ _ (by omega), g3 _ (by omega) (by omega)]
        unfold ib_m1
        simp only [Nat.zero_add, show 11 + 1 = 12 from rfl, show 11 + 2 = 13 from rfl, show 11 + 3 = 14 from rfl]
        rw [m12, m13, m14, m116, m117, m118]
        have hp0 : (0 : Int) < ((2 ^ P' : Nat) : Int) := by exact_mod_cast Nat.pow_pos (n := P') (show 0 < 2 by omega)
        by_cases ct : t < T'
        · obtain ⟨q1, q2, q3, q4, q5, q6⟩ := j10 t ct
          rw [if_pos ct, if_pos ct, if_pos ct, if_pos ct]
          have hok : ib_ok5 (fun i => ip_fin κ3 T' P' 115 (5 * t + i)) (κ 112 t).toNat := ⟨q1.1, fun i hi => by
            dsimp only
            rw [m115 i (by have := q1.1; omega)]; exact q1.2 i hi⟩
          refine ⟨hok, by omega, ⟨fun _ => by omega, fun _ => ct⟩, ?_, rfl, Int.le_refl 0, Int.le_refl 0, by rw [q4]; omega, q5, ?_, fun z => by omega⟩
          · rw [(ib_nc_inj hok q1).mpr ⟨rfl, fun i hi => m115 i (by have := q1.1; omega)⟩]
            exact q3
          · have : ((κ 113 t).toNat : Int) < ((2 ^ P' : Nat) : Int) := by exact_mod_cast q6
            omega
        · rw [if_neg ct, if_neg ct, if_neg ct, if_neg ct]
          exact ⟨⟨by decide, fun i hi => by
            have hi : i < 0 := hi
            omega⟩, Int.le_refl 0, ⟨fun z => absurd z ct, fun z => by omega⟩, rfl, rfl, Int.le_refl 0, Int.le_refl 0, rfl, Int.le_refl 0, hp0, fun _ => rfl⟩
    · intro q hq
      have c4 : ip_fin κ3 T' P' (16 + 4 * q) 4 = 0 := by
        have : q = 0 ∨ q = 1 := by omega
        rcases this with rfl | rfl
        · rw [lo _ _ (by omega), iv_upd_na (by omega), iv_upd_at]
        · rw [lo _ _ (by omega), iv_upd_at]
      rw [c4, w130 q hq]
      exact ⟨rfl, Or.inl rfl, fun z => absurd z (by decide)⟩
    · refine ib_so_ext h.2.2.2.2 (fun k => ?_) (fun k => ?_) (fun k => ?_) (fun k => hi _ _ (by omega) (by omega) (by omega) (by omega)) (fun k => hi _ _ (by omega) (by omega) (by omega) (by omega)) (hi _ _ (by omega) (by omega) (by omega) (by omega))
      · rw [lo _ _ (by omega), x1 _ _ (by omega) (by omega) (by omega) (by omega)]
      · rw [lo _ _ (by omega), x1 _ _ (by omega) (by omega) (by omega) (by omega)]
      · rw [lo _ _ (by omega), x1 _ _ (by omega) (by omega) (by omega) (by omega)]
  · have hm2 : ip_mt n (fun k => s 120 k) ν := ⟨(f1 _ _ (by omega)).trans t2, fun k hk => f1 _ _ (by omega)⟩
    obtain ⟨r', ν', κ, e2, e3, _, m2, _⟩ := ip_parse t0 hx hc hm2
    rw [e1] at e2
    cases e2
    refine ⟨-3, ν, κ, ?_, ?_, h.ag (fun a k hn => ?_)⟩
    · unfold f_X9_house
      rw [e1, iv_bnd_some, if_neg c]
    · rw [ip_house, e3, iv_bnd_some, if_neg c]
    · unfold ib_scr at hn
      rw [m2 a k (by omega) (by omega), f1 a k (by omega)]
end IBY
