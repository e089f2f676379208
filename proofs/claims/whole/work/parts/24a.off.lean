/-! HOW FAR NAMES ARE OFF, AS THE MODEL TELLS -/
section IBO
variable {D : Int} {s : ivM}
theorem ib_least {x y w : Int} {μ : ivM} : f_X10_least x y w μ = some (min (min x y) w, μ) := by
  simp only [f_X10_least, iv_let]
  grind
theorem ib_offRow_lp {t i z : Nat} {u v : Nat → Int} (ht : t < 8) (hz : z ≤ 5) (hi : i ≤ 5) (k : ivM → Option (Int × ivM)) : ∀ (d j n : Nat) (μ : ivM), j + d = z + 1 → d < n →
    μ 116 t = z → (∀ q, q < z → μ 115 (5 * t + q) = v q) → (∀ q, q + 1 = i → μ 121 q = u q) →
    (∀ r, r + 1 = i → ∀ q, q ≤ z → μ 122 (6 * r + q) = (ib_D u v r q : Nat)) → (∀ q, q < j → μ 122 (6 * i + q) = (ib_D u v i q : Nat)) →
    ∃ ν, lp_X10_offTried_12 t i k n j μ = k ν ∧ (∀ a q, ¬ (a = 122 ∧ 6 * i ≤ q ∧ q ≤ 6 * i + z) → ν a q = μ a q) ∧ ∀ q, q ≤ z → ν 122 (6 * i + q) = (ib_D u v i q : Nat) := by
  intro d
  induction d with
  | zero =>
    intro j n μ hj hn h1 h2 h3 h4 h5
    obtain ⟨n, rfl⟩ : ∃ q, n = q + 1 := ⟨n - 1, by omega⟩
    unfold lp_X10_offTried_12
    rw [iv_ck_pos (by omega), Int.toNat_natCast, h1, if_pos (by omega)]
    exact ⟨μ, rfl, fun _ _ _ => rfl, fun q hq => h5 q (by omega)⟩
  | succ d ih =>
    intro j n μ hj hn h1 h2 h3 h4 h5
    obtain ⟨n, rfl⟩ : ∃ q, n = q + 1 := ⟨n - 1, by omega⟩
    have fin : ∀ w : Int, w = (ib_D u v i j : Nat) → ∃ ν, iv_ck (0 ≤ iv_wr (iv_wr (6 * (i : Int)) + (j : Int)) ∧ iv_wr (iv_wr (6 * (i : Int)) + (j : Int)) < 36) (lp_X10_offTried_12 t i k n (iv_wr ((j : Int) + 1)) (iv_upd μ 122 (iv_wr (iv_wr (6 * (i : Int)) + (j : Int))).toNat w)) = k ν ∧ (∀ a q, ¬ (a = 122 ∧ 6 * i ≤ q ∧ q ≤ 6 * i + z) → ν a q = μ a q) ∧ ∀ q, q ≤ z → ν 122 (6 * i + q) = (ib_D u v i q : Nat) := by
      intro w hw
      have e6 : iv_wr (iv_wr (6 * (i : Int)) + (j : Int)) = ((6 * i + j : Nat) : Int) := by
        rw [iv_wr_id (x := 6 * (i : Int)) (by omega) (by omega), iv_wr_id (by omega) (by omega)]; omega
      rw [e6, iv_ck_pos (by omega), iv_wr_succ (by omega), Int.toNat_natCast]
      obtain ⟨ν, e, f, g⟩ := ih (j + 1) n (iv_upd μ 122 (6 * i + j) w) (by omega) (by omega) (by rw [iv_upd_na (by omega)]; exact h1) (fun q hq => by rw [iv_upd_na (by omega)]; exact h2 q hq) (fun q hq => by rw [iv_upd_na (by omega)]; exact h3 q hq)
        (fun r hr q hq => by rw [iv_upd_nk (by omega)]; exact h4 r hr q hq)
        (fun q hq => by
          by_cases e : q = j
          · rw [e, iv_upd_at, hw]
          · rw [iv_upd_nk (by omega)]; exact h5 q (by omega))
      refine ⟨ν, e, fun a q hc => ?_, g⟩
      rw [f a q hc]
      unfold iv_upd
      rw [if_neg (fun c => hc ⟨c.1, by omega, by omega⟩)]
    unfold lp_X10_offTried_12
    rw [iv_ck_pos (by omega), Int.toNat_natCast, h1, if_neg (by omega)]
    simp only [iv_let]
    by_cases hi0 : i = 0
    · rw [if_pos (by omega)]
      exact fin _ (by rw [hi0, ib_D_0])
    · rw [if_neg (by omega)]
      obtain ⟨i, rfl⟩ : ∃ q, i = q + 1 := ⟨i - 1, by omega⟩
      by_cases hj0 : j = 0
      · rw [if_pos (by omega)]
        exact fin _ (by rw [hj0, ib_D_s0])
      · rw [if_neg (by omega)]
        obtain ⟨j, rfl⟩ : ∃ q, j = q + 1 := ⟨j - 1, by omega⟩
        have b0 := ib_D_le u v i j
        have b1 := ib_D_le u v i (j + 1)
        have b2 := ib_D_le u v (i + 1) j
        have e1 : iv_wr (iv_wr (iv_wr (6 * ((i + 1 : Nat) : Int)) - 6) + ((j + 1 : Nat) : Int)) = ((6 * i + (j + 1) : Nat) : Int) := by
          rw [iv_wr_id (x := 6 * ((i + 1 : Nat) : Int)) (by omega) (by omega), iv_wr_id (x := _ - 6) (by omega) (by omega), iv_wr_id (by omega) (by omega)]; omega
        have e2 : iv_wr (iv_wr (iv_wr (6 * ((i + 1 : Nat) : Int)) + ((j + 1 : Nat) : Int)) - 1) = ((6 * (i + 1) + j : Nat) : Int) := by
          rw [iv_wr_id (x := 6 * ((i + 1 : Nat) : Int)) (by omega) (by omega), iv_wr_id (x := _ + _) (by omega) (by omega), iv_wr_id (by omega) (by omega)]; omega
        have e3 : iv_wr (((6 * i + (j + 1) : Nat) : Int) - 1) = ((6 * i + j : Nat) : Int) := by
          rw [iv_wr_id (by omega) (by omega)]; omega
        have e4 : iv_wr (((i + 1 : Nat) : Int) - 1) = (i : Int) := by
          rw [iv_wr_id (by omega) (by omega)]; omega
        have e5 : iv_wr (iv_wr (iv_wr (5 * (t : Int)) + ((j + 1 : Nat) : Int)) - 1) = ((5 * t + j : Nat) : Int) := by
          rw [iv_wr_id (x := 5 * (t : Int)) (by omega) (by omega), iv_wr_id (x := _ + _) (by omega) (by omega), iv_wr_id (by omega) (by omega)]; omega
        simp only [e1, e2, e3, e4, e5, ib_least, iv_bnd_some, Int.toNat_natCast]
        rw [iv_ck_pos (by omega), iv_ck_pos (by omega), iv_ck_pos (by omega), iv_ck_pos (by omega), iv_ck_pos (by omega)]
        rw [h4 i rfl (j + 1) (by omega), h4 i rfl j (by omega), h5 j (by omega), h3 i rfl, h2 j (by omega)]
        have bs : ib_D u v (i + 1) (j + 1) = min (ib_D u v i j + if v j = u i then 0 else 1) (min (ib_D u v i (j + 1)) (ib_D u v (i + 1) j) + 1) := ib_D_ss
        by_cases hc : u i = v j
        · rw [if_pos hc]
          rw [if_pos hc.symm] at bs
          refine fin _ ?_
          rw [iv_wr_id (by omega) (by omega), iv_wr_id (by omega) (by omega), iv_wr_id (by omega) (by omega)]
          omega
        · rw [if_neg hc]
          rw [if_neg (fun e => hc e.symm)] at bs
          refine fin _ ?_
          rw [iv_wr_id (by omega) (by omega), iv_wr_id (by omega) (by omega), iv_wr_id (by omega) (by omega)]
          omega
theorem ib_offTried_lp {t p z : Nat} {u v : Nat → Int} (ht : t < 8) (hz : z ≤ 5) (hp : p ≤ 5) (k : ivM → Option (Int × ivM)) : ∀ (d i n : Nat) (μ : ivM), i + d = p + 1 → d < n →
    μ 110 21 = p → μ 116 t = z → (∀ q, q < z → μ 115 (5 * t + q) = v q) → (∀ q, q < p → μ 121 q = u q) →
    (∀ r, r < i → ∀ q, q ≤ z → μ 122 (6 * r + q) = (ib_D u v r q : Nat)) →
    ∃ ν, lp_X10_offTried_2 t k n i μ = k ν ∧ ib_fr 122 122 μ ν ∧ ∀ r, r ≤ p → ∀ q, q ≤ z → ν 122 (6 * r + q) = (ib_D u v r q : Nat) := by
  intro d
  induction d with
  | zero =>
    intro i n μ hi hn h0 h1 h2 h3 h4
    obtain ⟨n, rfl⟩ : ∃ q, n = q + 1 := ⟨n - 1, by omega⟩
    unfold lp_X10_offTried_2
    rw [h0, if_pos (by omega)]
    exact ⟨μ, rfl, ib_fr.rfl, fun r hr => h4 r (by omega)⟩
  | succ d ih =>
    intro i n μ hi hn h0 h1 h2 h3 h4
    obtain ⟨n, rfl⟩ : ∃ q, n = q + 1 := ⟨n - 1, by omega⟩
    unfold lp_X10_offTried_2
    rw [h0, if_neg (by omega)]
    obtain ⟨ν, e, f, g⟩ := ib_offRow_lp (t := t) (i := i) (z := z) (u := u) (v := v) ht hz (by omega) (fun (μ30 : ivM) => lp_X10_offTried_2 t k n (iv_wr ((i : Int) + 1)) μ30) (z + 1) 0 iv_fuel μ (by omega) (by unfold iv_fuel; omega) h1 h2 (fun q hq => h3 q (by omega)) (fun r hr => h4 r (by omega)) (fun q hq => by omega)
    rw [show ((0 : Nat) : Int) = 0 from rfl] at e
    rw [e, iv_wr_succ (by omega)]
    obtain ⟨κ, e2, f2, g2⟩ := ih (i + 1) n ν (by omega) (by omega) (by rw [f _ _ (by omega)]; exact h0) (by rw [f _ _ (by omega)]; exact h1) (fun q hq => by rw [f _ _ (by omega)]; exact h2 q hq) (fun q hq => by rw [f _ _ (by omega)]; exact h3 q hq)
      (fun r hr q hq => by
        by_cases e : r = i
        · subst e; exact g q hq
        · rw [f _ _ (by omega)]; exact h4 r (by omega) q hq)
    exact ⟨κ, e2, (show ib_fr 122 122 μ ν from fun a q hc => f a q (by omega)).tr f2, g2⟩
theorem ib_offTried {t p z : Nat} {u v : Nat → Int} (ht : t < 8) (hz : z ≤ 5) (hp : p ≤ 5) {μ : ivM} (h0 : μ 110 21 = p) (h1 : μ 116 t = z) (h2 : ∀ q, q < z → μ 115 (5 * t + q) = v q) (h3 : ∀ q, q < p → μ 121 q = u q) :
    ∃ ν, f_X10_offTried t μ = some (((ib_D u v p z : Nat) : Int), ν) ∧ ib_fr 122 122 μ ν := by
  unfold f_X10_offTried
  obtain ⟨ν, e, f, g⟩ := ib_offTried_lp (t := t) (p := p) (z := z) (u := u) (v := v) ht hz hp (fun (μ36 : ivM) =>
    iv_ck (0 ≤ (t : Int) ∧ (t : Int) < 8) <|
    iv_ck (0 ≤ (iv_wr ((iv_wr (6 * (μ36 110 21))) + (μ36 116 (t : Int).toNat))) ∧ (iv_wr ((iv_wr (6 * (μ36 110 21))) + (μ36 116 (t : Int).toNat))) < 36) <|
    some ((μ36 122 (iv_wr ((iv_wr (6 * (μ36 110 21))) + (μ36 116 (t : Int).toNat))).toNat), μ36)) (p + 1) 0 iv_fuel μ (by omega) (by unfold iv_fuel; omega) h0 h1 h2 h3 (fun r hr => by omega)
  rw [show ((0 : Nat) : Int) = 0 from rfl] at e
  rw [e]
  have a0 : ν 110 21 = p := by rw [f _ _ (by omega)]; exact h0
  have a1 : ν 116 t = z := by rw [f _ _ (by omega)]; exact h1
  have e6 : iv_wr (iv_wr (6 * (p : Int)) + (z : Int)) = ((6 * p + z : Nat) : Int) := by
    rw [iv_wr_id (x := 6 * (p : Int)) (by omega) (by omega), iv_wr_id (by omega) (by omega)]; omega
  simp only [a0, a1, e6, Int.toNat_natCast]
  rw [iv_ck_pos (by omega), iv_ck_pos (by omega), g p (by omega) z (by omega)]
  exact ⟨ν, rfl, f⟩
theorem ib_offOf_lp (h : ib_inv D s) {t : Nat} (ht : t < 8) {l2 : Int} (k : ivM → Option (Int × ivM)) : ∀ (d i n : Nat) (μ : ivM), i + d = ib_z s t → d < n → ib_ag s μ → μ 110 21 = ib_z s t → (∀ q, q < i → μ 121 q = ib_sn s t q) →
    ∃ ν, lp_X10_offOf_12 t l2 k n i μ = k ν ∧ ib_ag s ν ∧ ν 110 21 = ib_z s t ∧ ∀ q, q < ib_z s t → ν 121 q = ib_sn s t q := by
  have hz := (h.m ht).1.1
  intro d
  induction d with
  | zero =>
    intro i n μ hi hn g h0 h1
    obtain ⟨n, rfl⟩ : ∃ q, n = q + 1 := ⟨n - 1, by omega⟩
    unfold lp_X10_offOf_12
    rw [h0, if_pos (by omega)]
    exact ⟨μ, rfl, g, h0, fun q hq => h1 q (by omega)⟩
  | succ d ih =>
    intro i n μ hi hn g h0 h1
    obtain ⟨n, rfl⟩ : ∃ q, n = q + 1 := ⟨n - 1, by omega⟩
    unfold lp_X10_offOf_12
    have e5 : iv_wr (iv_wr (5 * (t : Int)) + (i : Int)) = ((5 * t + i : Nat) : Int) := by
      rw [iv_wr_id (x := 5 * (t : Int)) (by omega) (by omega), iv_wr_id (by omega) (by omega)]; omega
    rw [h0, if_neg (by omega), e5, iv_ck_pos (by omega), iv_ck_pos (by omega), iv_wr_succ (by omega), Int.toNat_natCast, Int.toNat_natCast, g.c (a := 115) rfl]
    exact ih (i + 1) n (iv_upd μ 121 i (s 115 (5 * t + i))) (by omega) (by omega) (g.upd (by unfold ib_scr; omega)) (by rw [iv_upd_na (by omega)]; exact h0)
      (fun q hq => by
        by_cases e : q = i
        · subst e; exact iv_upd_at
        · rw [iv_upd_nk e]; exact h1 q (by omega))
theorem ib_offOf (h : ib_inv D s) {t o : Nat} (ht : t < 8) (ho : o < 8) {μ : ivM} (g : ib_ag s μ) : ∃ ν, f_X10_offOf t o μ = some (((ib_D (ib_sn s t) (ib_sn s o) (ib_z s t) (ib_z s o) : Nat) : Int), ν) ∧ ib_ag s ν := by
  have hm := h.m ht
  have hm2 := h.m ho
  unfold f_X10_offOf
  rw [iv_ck_pos (by omega), Int.toNat_natCast, g.c (a := 116) rfl, hm.2.1]
  obtain ⟨ν, e, g1, h0, h1⟩ := ib_offOf_lp h ht (l2 := o) (fun (μ7 : ivM) =>
    iv_bnd (f_X10_offTried o μ7) fun r10 μ11 =>
    some (r10, μ11)) (ib_z s t) 0 iv_fuel (iv_upd μ 110 21 (ib_z s t)) (by omega) (by unfold iv_fuel; have := hm.1.1; omega) (g.upd (by unfold ib_scr; omega)) iv_upd_at (fun q hq => by omega)
  rw [show ((0 : Nat) : Int) = 0 from rfl] at e
  rw [e]
  obtain ⟨κ, e2, f⟩ := ib_offTried (t := o) (p := ib_z s t) (z := ib_z s o) (u := ib_sn s t) (v := ib_sn s o) ho hm2.1.1 hm.1.1 h0 (by rw [g1.c (a := 116) rfl]; exact hm2.2.1) (fun q hq => by rw [g1.c (a := 115) rfl]; rfl) h1
  rw [e2]
  exact ⟨κ, rfl, g1.fr f (fun a k _ _ => by unfold ib_scr; omega)⟩
end IBO
