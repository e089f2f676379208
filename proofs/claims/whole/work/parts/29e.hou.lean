/-! TEXTS: READ WHOLE -/
section IBY
variable {n : Nat} {x : Nat → Int}
theorem ip_main (hn : n ≤ 96) (hx : ∀ k, k < n → 0 ≤ x k ∧ x k < 256) : ∀ (d a f m T P : Nat) (μ κ : ivM), a + d = n → n < a + f → d < m → ip_ct n x μ → ip_mt n x κ → ip_J T P μ κ → μ 5 7 = 2 → ip_at a κ →
    ∃ (r : Int) (μ' κ' : ivM), lp_X7_faultOf_27 ip_kF f a μ = some (r, μ') ∧ lp_X10_readText_47 ip_kR m κ = some (r, κ') ∧ ib_fr 5 8 μ μ' ∧ ip_mf κ κ' ∧ ((r = -9 ∧ ∃ T P, ip_J T P μ' κ') ∨ 0 ≤ r) := by
  intro d
  induction d using Nat.strongRecOn with
  | ind d ih =>
    intro a f m T P μ κ had hf hdm hc hm hJ h7 hat
    obtain ⟨f, rfl⟩ : ∃ q, f = q + 1 := ⟨f - 1, by omega⟩
    obtain ⟨m, rfl⟩ : ∃ q, m = q + 1 := ⟨m - 1, by omega⟩
    by_cases ha : a < n
    · obtain ⟨m, rfl⟩ : ∃ q, m = q + 1 := ⟨m - 1, by omega⟩
      obtain ⟨j1, j2, ⟨j3, j4, j5, j6⟩, _, j10, _, j12⟩ := id hJ
      have hP2 : 2 ^ P ≤ 64 := Nat.pow_le_pow_right (n := 2) (j := 6) (by omega) (by omega)
      have hopen := ip_open (κ := κ) j1 j2 j5 j6 (fun t ht => by
        obtain ⟨_, _, _, _, q5, q6⟩ := j10 t ht
        omega)
      -- what comes behind a fault, and behind a part
      have bad : ∀ (g : Nat) (μ' κ' : ivM), lp_X7_faultOf_27 ip_kF (f + 1) a μ = some ((g : Int), μ') → lp_X10_readText_47 ip_kR (m + 1 + 1) κ = lp_X10_readText_47 ip_kR (m + 1) κ' → κ' 110 19 = g → ib_fr 5 8 μ μ' → ip_mf κ κ' →
          ∃ (r : Int) (μ' κ' : ivM), lp_X7_faultOf_27 ip_kF (f + 1) a μ = some (r, μ') ∧ lp_X10_readText_47 ip_kR (m + 1 + 1) κ = some (r, κ') ∧ ib_fr 5 8 μ μ' ∧ ip_mf κ κ' ∧ ((r = -9 ∧ ∃ T P, ip_J T P μ' κ') ∨ 0 ≤ r) := by
        intro g μ' κ' e1 e2 e3 e4 e5
        exact ⟨g, μ', κ', e1, by rw [e2, ip_R_flt e3], e4, e5, Or.inr (by omega)⟩
      have good : ∀ (a' f' T' P' : Nat) (μ' κ' : ivM), a < a' → a' ≤ n → n < a' + f' → lp_X7_faultOf_27 ip_kF (f + 1) a μ = lp_X7_faultOf_27 ip_kF f' a' μ' → lp_X10_readText_47 ip_kR (m + 1 + 1) κ = lp_X10_readText_47 ip_kR (m + 1) κ' → ip_J T' P' μ' κ' → μ' 5 7 = 2 → ip_at a' κ' → ib_fr 5 8 μ μ' → ip_mf κ κ' →
          ∃ (r : Int) (μ' κ' : ivM), lp_X7_faultOf_27 ip_kF (f + 1) a μ = some (r, μ') ∧ lp_X10_readText_47 ip_kR (m + 1 + 1) κ = some (r, κ') ∧ ib_fr 5 8 μ μ' ∧ ip_mf κ κ' ∧ ((r = -9 ∧ ∃ T P, ip_J T P μ' κ') ∨ 0 ≤ r) := by
        intro a' f' T' P' μ' κ' g1 g2 g3 g4 g5 g6 g7 g8 g9 g10
        obtain ⟨r, μ2, κ2, q1, q2, q3, q4, q5⟩ := ih (n - a') (by omega) a' f' (m + 1) T' P' μ' κ' (by omega) g3 (by omega) (hc.fr g9) (hm.fr g10) g6 g7 g8
        exact ⟨r, μ2, κ2, by rw [g4, q1], by rw [g5, q2], g9.tr q3, g10.tr q4, q5⟩
      have other : (x a = 78 → 8 ≤ T) → (x a = 80 → 6 ≤ P) → (x a = 75 → ip_op κ T P = 0) → (∃ ν, f_X7_takePart (x a) μ = some (0, ν) ∧ ib_fr 5 8 μ ν) → ∃ (r : Int) (μ' κ' : ivM), lp_X7_faultOf_27 ip_kF (f + 1) a μ = some (r, μ') ∧ lp_X10_readText_47 ip_kR (m + 1 + 1) κ = some (r, κ') ∧ ib_fr 5 8 μ μ' ∧ ip_mf κ κ' ∧ ((r = -9 ∧ ∃ T P, ip_J T P μ' κ') ∨ 0 ≤ r) := by
        rintro o1 o2 o3 ⟨ν, o4, o5⟩
        exact bad a ν (iv_upd κ 110 19 a) (ip_F_bad hn hc ha (ip_take2 h7 o4 (Or.inl rfl))) (ip_R_o hn hm hat ha j5 j6 o1 o2 (fun c => by
          rw [hopen, o3 c]; rfl)) iv_upd_at o5 (ip_mf.rfl.upd (by omega))
      by_cases c1 : x a = 78
      · by_cases c2 : T < 8
        · rcases ip_name hn hx hJ c2 hc hm h7 hat ha c1 (f := f + 1) hf with ⟨g, μ', κ', e1, e2, e3, e4, e5⟩ | ⟨a', f', μ', κ', e1, e2, e3, e4, e5, e6, e7, e8, e9, e10⟩
          · exact bad g μ' κ' e1 (ip_R_N hn hm hat ha c1 j5 c2 e2) e3 e4 e5
          · exact good a' f' (T + 1) P μ' κ' e1 e2 e3 e4 (ip_R_N hn hm hat ha c1 j5 c2 e5) e6 e7 e8 e9 e10
        · refine other (fun _ => by omega) (fun c => by omega) (fun c => by omega) ⟨_, ?_, ((ib_fr.rfl.upd (a := 5) (k := 7) (v := 3) (by omega)).upd (a := 5) (k := 8) (v := 0) (by omega)).upd (a := 5) (k := 9) (v := 0) (by omega)⟩
          have := ip_tp_N (μ := μ) j3
          rw [if_neg c2] at this
          rw [c1]; exact this
      · by_cases c3 : x a = 80
        · by_cases c4 : P < 6
          · rcases ip_person hn hx hJ c4 hc hm h7 hat ha c3 (f := f + 1) (m := m + 1) hf with ⟨g, μ', κ', e1, e2, e3, e4, e5⟩ | ⟨a', f', μ', κ', e1, e2, e3, e4, e5, e6, e7, e8, e9, e10⟩
            · exact bad g μ' κ' e1 e2 e3 e4 e5
            · exact good a' f' T (P + 1) μ' κ' e1 e2 e3 e4 e5 e6 e7 e8 e9 e10
          · refine other (fun c => absurd c c1) (fun c => by omega) (fun c => by omega) ⟨_, ?_, ib_fr.rfl.upd (a := 5) (k := 7) (v := 4) (by omega)⟩
            have := ip_tp_P (μ := μ) j4
            rw [if_neg c4] at this
            rw [c3]; exact this
        · by_cases c5 : x a = 75
          · by_cases c6 : ip_op κ T P = 0
            · refine other (fun c => absurd c c1) (fun c => absurd c c3) (fun _ => c6) ⟨_, ?_, ib_fr.rfl.upd (a := 5) (k := 7) (v := 5) (by omega)⟩
              have := ip_tp_K (μ := μ) j1 j2 j3 j4 j12
              rw [if_neg (fun q => (ip_op_0 hJ).mpr q c6)] at this
              rw [c5]; exact this
            · rcases ip_pair hn hx hJ c6 hc hm h7 hat ha c5 (f := f + 1) (m := m + 1) hf with ⟨g, μ', κ', e1, e2, e3, e4, e5⟩ | ⟨a', f', μ', κ', e1, e2, e3, e4, e5, e6, e7, e8, e9, e10⟩
              · exact bad g μ' κ' e1 e2 e3 e4 e5
              · exact good a' f' T P μ' κ' e1 e2 e3 e4 e5 e6 e7 e8 e9 e10
          · exact other (fun c => absurd c c1) (fun c => absurd c c3) (fun c => absurd c c5) ⟨μ, ip_tp_o c5 c1 c3, ib_fr.rfl⟩
    · refine ⟨-9, μ, κ, by rw [ip_F_end hc (by omega), ip_kF_2 h7], ip_R_end hm hat (by omega), ib_fr.rfl, ip_mf.rfl, Or.inl ⟨rfl, T, P, hJ⟩⟩
/-! the head -/
theorem ip_take0 {μ : ivM} {b : Int} (h : μ 5 7 = 0) : f_X7_take b μ = some (if b = 72 then 1 else 0, iv_upd μ 5 7 1) := by
  unfold f_X7_take f_X7_takeH
  simp only [iv_let]
  rw [if_pos h]
  by_cases c : b = 72
  · rw [if_pos c, if_pos c, iv_ck_pos (Or.inr trivial), iv_bnd_some, iv_ck_pos (Or.inr rfl)]
  · rw [if_neg c, if_neg c, iv_ck_pos (Or.inl trivial), iv_bnd_some, iv_ck_pos (Or.inl rfl)]
theorem ip_take1 {μ : ivM} {b : Int} (hb : 0 ≤ b ∧ b < 256) (h : μ 5 7 = 1) : f_X7_take b μ = some (if 48 ≤ b ∧ b ≤ 51 then 1 else 0, iv_upd (iv_upd μ 5 7 2) 5 3 (b - 48)) := by
  unfold f_X7_take f_X7_takeR
  simp only [iv_let]
  rw [if_neg (by omega), if_pos h, iv_wr_id (x := b - 48) (by omega) (by omega), iv_upd_at]
  by_cases c1 : b - 48 < 0
  · rw [if_pos c1, if_neg (by omega), iv_ck_pos (Or.inl trivial), iv_bnd_some, iv_ck_pos (Or.inl rfl)]
  · rw [if_neg c1]
    by_cases c2 : 3 < b - 48
    · rw [if_pos c2, if_neg (by omega), iv_ck_pos (Or.inl trivial), iv_bnd_some, iv_ck_pos (Or.inl rfl)]
    · rw [if_neg c2, if_pos (by omega), iv_ck_pos (Or.inr trivial), iv_bnd_some, iv_ck_pos (Or.inr rfl)]
theorem ip_15 : ∀ v : Nat, v ≤ 9 → (Nat.testBit 15 v = true ↔ v ≤ 3) := by
  intro v hv
  have : v < 10 := by omega
  revert v
  decide
def ip_i0 (κ : ivM) : ivM := iv_upd (iv_upd (iv_upd (iv_upd κ 110 18 0) 110 19 (-9)) 110 5 0) 110 6 0
def ip_c0 (μ : ivM) : ivM := iv_upd (iv_upd (iv_upd (iv_upd (iv_upd μ 5 3 0) 5 4 0) 5 5 0) 5 6 0) 5 7 0
theorem ip_parse (hn : n ≤ 96) (hx : ∀ k, k < n → 0 ≤ x k ∧ x k < 256) {μ κ : ivM} (hc : ip_ct n x μ) (hm : ip_mt n x κ) :
    ∃ (r : Int) (μ' κ' : ivM), f_X7_faultOf μ = some (r, μ') ∧ f_X10_readText κ = some (r, κ') ∧ ib_fr 5 8 μ μ' ∧ ip_mf κ κ' ∧ ((r = -9 ∧ ∃ T P, ip_J T P μ' κ') ∨ 0 ≤ r) := by
  have frc : ib_fr 5 8 μ (ip_c0 μ) := ((((ib_fr.rfl.upd (by omega)).upd (by omega)).upd (by omega)).upd (by omega)).upd (by omega)
  have mfi : ip_mf κ (ip_i0 κ) := (((ip_mf.rfl.upd (by omega)).upd (by omega)).upd (by omega)).upd (by omega)
  have c7 : ip_c0 μ 5 7 = 0 := iv_upd_at
  have i18 : ip_i0 κ 110 18 = 0 := by unfold ip_i0; rw [iv_upd_nk (by omega), iv_upd_nk (by omega), iv_upd_nk (by omega), iv_upd_at]
  have i19 : ip_i0 κ 110 19 = -9 := by unfold ip_i0; rw [iv_upd_nk (by omega), iv_upd_nk (by omega), iv_upd_at]
  have at0 : ip_at 0 (ip_i0 κ) := ⟨i18, i19⟩
  have hhere := ip_here hn (hm.fr mfi) at0
  have eF : f_X7_faultOf μ = lp_X7_faultOf_27 ip_kF (999997 + 1 + 1 + 1) ((0 : Nat) : Int) (ip_c0 μ) := rfl
  have eR : f_X10_readText κ = iv_bnd (f_X10_here (ip_i0 κ)) fun r1 μ2 => if r1 = 72 then iv_bnd (f_X10_figure 15 (iv_upd μ2 110 18 1)) fun r5 μ6 => lp_X10_readText_47 ip_kR iv_fuel (iv_upd μ6 110 4 r5) else some (0, μ2) := rfl
  by_cases h0 : 0 < n
  · have t0 := ip_take0 (b := x 0) c7
    by_cases c72 : x 0 = 72
    · rw [if_pos c72] at t0
      have fr1 : ib_fr 5 8 μ (iv_upd (ip_c0 μ) 5 7 1) := frc.upd (by omega)
      have e1 := ip_F_good hn (hc.fr frc) (m := 999997 + 1 + 1) h0 t0
      have d7 : iv_upd (ip_c0 μ) 5 7 1 5 7 = 1 := iv_upd_at
      have at1 : ip_at 1 (iv_upd (ip_i0 κ) 110 18 1) := ⟨iv_upd_at, by rw [iv_upd_nk (by omega)]; exact i19⟩
      have mf1 : ip_mf κ (iv_upd (ip_i0 κ) 110 18 1) := mfi.upd (by omega)
      rw [hhere, iv_bnd_some, if_pos h0, if_pos c72] at eR
      rcases Classical.em (∃ v : Nat, 1 < n ∧ x 1 = 48 + v ∧ v ≤ 3) with ⟨v, s1, s2, s3⟩ | hno
      · have t1 := ip_take1 (hx 1 s1) d7
        rw [if_pos (by omega)] at t1
        have e2 := ip_F_good hn (hc.fr fr1) (m := 999997 + 1) s1 t1
        have efig := ip_figure_yes hn (hm.fr mf1) at1 (al := 15) (by decide) s1 s2 (by omega) ((ip_15 v (by omega)).mpr s3)
        rw [show ((15 : Nat) : Int) = 15 from rfl] at efig
        rw [efig, iv_bnd_some] at eR
        have fr2 : ib_fr 5 8 μ (iv_upd (iv_upd (iv_upd (ip_c0 μ) 5 7 1) 5 7 2) 5 3 (x 1 - 48)) := (fr1.upd (by omega)).upd (by omega)
        have mf2 : ip_mf κ (iv_upd (iv_upd (iv_upd (ip_i0 κ) 110 18 1) 110 18 ((1 + 1 : Nat) : Int)) 110 4 (v : Int)) := (mf1.upd (by omega)).upd (by omega)
        have hJ : ip_J 0 0 (iv_upd (iv_upd (iv_upd (ip_c0 μ) 5 7 1) 5 7 2) 5 3 (x 1 - 48)) (iv_upd (iv_upd (iv_upd (ip_i0 κ) 110 18 1) 110 18 ((1 + 1 : Nat) : Int)) 110 4 (v : Int)) := by
          refine ⟨by omega, by omega, ⟨?_, ?_, ?_, ?_⟩, ⟨?_, ?_, ?_⟩, fun t ht => by omega, fun p hp => by omega, ?_⟩
          · unfold ip_c0
            rw [iv_upd_nk (by omega), iv_upd_nk (by omega), iv_upd_nk (by omega), iv_upd_nk (by omega), iv_upd_nk (by omega), iv_upd_nk (by omega), iv_upd_at]; rfl
          · unfold ip_c0
            rw [iv_upd_nk (by omega), iv_upd_nk (by omega), iv_upd_nk (by omega), iv_upd_nk (by omega), iv_upd_nk (by omega), iv_upd_at]; rfl
          · unfold ip_i0
            rw [iv_upd_nk (by omega), iv_upd_nk (by omega), iv_upd_nk (by omega), iv_upd_nk (by omega), iv_upd_at]; rfl
          · unfold ip_i0
            rw [iv_upd_nk (by omega), iv_upd_nk (by omega), iv_upd_nk (by omega), iv_upd_at]; rfl
          · rw [iv_upd_at, iv_upd_at]; omega
          · rw [iv_upd_at]; omega
          · rw [iv_upd_at]; omega
          · unfold ip_c0
            rw [iv_upd_nk (by omega), iv_upd_nk (by omega), iv_upd_nk (by omega), iv_upd_nk (by omega), iv_upd_at]; rfl
        obtain ⟨r, μ', κ', q1, q2, q3, q4, q5⟩ := ip_main hn hx (n - 2) 2 (999997 + 1) iv_fuel 0 0 _ _ (by omega) (by omega) (by unfold iv_fuel; omega) (hc.fr fr2) (hm.fr mf2) hJ (by rw [iv_upd_nk (by omega), iv_upd_at]) ⟨by rw [iv_upd_nk (by omega), iv_upd_at], by rw [iv_upd_nk (by omega), iv_upd_nk (by omega)]; exact at1.2⟩
        exact ⟨r, μ', κ', by rw [eF, e1, e2]; exact q1, by rw [eR]; exact q2, fr2.tr q3, mf2.tr q4, q5⟩
      · have efig := ip_figure_no hn hx (hm.fr mf1) at1 (al := 15) (by decide) (fun v w1 w2 w3 => by
          cases hh : Nat.testBit 15 v
          · rfl
          · exact absurd ⟨v, w1, w2, (ip_15 v w3).mp hh⟩ hno)
        rw [show ((15 : Nat) : Int) = 15 from rfl] at efig
        rw [efig, iv_bnd_some] at eR
        have eRf := ip_R_flt (κ := iv_upd (iv_upd (iv_upd (ip_i0 κ) 110 18 1) 110 19 ((1 : Nat) : Int)) 110 4 0) (g := 1) (m := 999999) (by rw [iv_upd_nk (by omega), iv_upd_at])
        have mf2 : ip_mf κ (iv_upd (iv_upd (iv_upd (ip_i0 κ) 110 18 1) 110 19 ((1 : Nat) : Int)) 110 4 0) := (mf1.upd (by omega)).upd (by omega)
        by_cases s1 : 1 < n
        · have t1 := ip_take1 (hx 1 s1) d7
          rw [if_neg (fun c => hno ⟨(x 1 - 48).toNat, s1, by omega, by omega⟩)] at t1
          have e2 := ip_F_bad hn (hc.fr fr1) (m := 999997 + 1) s1 t1
          exact ⟨((1 : Nat) : Int), _, _, by rw [eF, e1]; exact e2, by rw [eR]; exact eRf, (fr1.upd (by omega)).upd (by omega), mf2, Or.inr (by omega)⟩
        · have e2 := ip_F_end (hc.fr fr1) (a := 1) (m := 999997 + 1) (by omega)
          rw [ip_kF_o (by rw [d7]; decide) (by rw [d7]; decide), (hc.fr fr1).1, show n = 1 by omega] at e2
          exact ⟨((1 : Nat) : Int), _, _, by rw [eF, e1]; exact e2, by rw [eR]; exact eRf, fr1, mf2, Or.inr (by omega)⟩
    · rw [if_neg c72] at t0
      rw [hhere, iv_bnd_some, if_pos h0, if_neg c72] at eR
      exact ⟨((0 : Nat) : Int), _, _, by rw [eF]; exact ip_F_bad hn (hc.fr frc) h0 t0, eR, frc.upd (by omega), mfi, Or.inr (by omega)⟩
  · rw [hhere, iv_bnd_some, if_neg h0, if_neg (by decide)] at eR
    have e2 := ip_F_end (hc.fr frc) (a := 0) (m := 999997 + 1 + 1) (by omega)
    rw [ip_kF_o (by rw [c7]; decide) (by rw [c7]; decide), (hc.fr frc).1, show n = 0 by omega] at e2
    exact ⟨((0 : Nat) : Int), _, _, by rw [eF]; exact e2, eR, frc, mfi, Or.inr (by omega)⟩
end IBY
section IBY
variable {D : Int} {s : ivM}
theorem iq_fault (h : ib_inv D s) : ib_q s f_X9_fault f_X10_fault := by
  obtain ⟨n, t0, t1, t2, t3⟩ := h.1
  have hc : ip_ct n (fun k => s 120 k) s := ⟨t1, fun k hk => (t3 k hk).1⟩
  have hm : ip_mt n (fun k => s 120 k) s := ⟨t2, fun k hk => rfl⟩
  have hx : ∀ k, k < n → 0 ≤ s 120 k ∧ s 120 k < 256 := fun k hk => (t3 k hk).2
  obtain ⟨r, ν, _, e1, _, f1, _, _⟩ := ip_parse t0 hx hc hm
  have hm2 : ip_mt n (fun k => s 120 k) ν := ⟨(f1 _ _ (by omega)).trans t2, fun k hk => f1 _ _ (by omega)⟩
  obtain ⟨r', ν', κ, e2, e3, f2, m2, _⟩ := ip_parse t0 hx hc hm2
  rw [e1] at e2
  cases e2
  refine ⟨r, ν, κ, ?_, ?_, fun a k hn => ?_⟩
  · unfold f_X9_fault
    rw [e1]; rfl
  · unfold f_X10_fault
    rw [e3]; rfl
  · unfold ib_scr at hn
    rw [m2 a k (by omega) (by omega), f1 a k (by omega)]
/-! the house -/
theorem ib_settle {P : Nat} (hP : P ≤ 6) (μ : ivM) (h5 : μ 5 5 = P) : ∃ ν, f_X1_settle μ = some (0, ν) ∧ ν 9 1 = μ 5 3 ∧ ν 9 2 = μ 5 4 ∧ ν 9 3 = μ 5 5 ∧ (∀ p, p < 6 → ν 10 p = if p < P then μ 8 p else 0) ∧ ∀ a k, a ≠ 9 → a ≠ 10 → ν a k = μ a k := by
  have key : ∀ (d p n : Nat) (μ1 : ivM), p + d = 6 → d < n → μ1 9 3 = P → ∃ ν, lp_X1_settle_26 n p μ1 = some (0, ν) ∧ (∀ q, q < p → ν 10 q = μ1 10 q) ∧ (∀ q, p ≤ q → q < 6 → ν 10 q = if q < P then μ1 8 q else 0) ∧ ∀ a k, a ≠ 10 → ν a k = μ1 a k := by
    intro d
    induction d with
    | zero =>
      intro p n μ1 hp hn h93
      obtain ⟨n, rfl⟩ : ∃ q, n = q + 1 := ⟨n - 1, by omega⟩
      unfold lp_X1_settle_26
      rw [if_pos (by omega)]
      exact ⟨μ1, rfl, fun _ _ => rfl, fun q _ _ => by omega, fun _ _ _ => rfl⟩
    | succ d ih =>
      intro p n μ1 hp hn h93
      obtain ⟨n, rfl⟩ : ∃ q, n = q + 1 := ⟨n - 1, by omega⟩
      have go : ∀ v : Int, v = (if p < P then μ1 8 p else 0) → ∃ ν, iv_ck (0 ≤ (p : Int) ∧ (p : Int) < 6) (lp_X1_settle_26 n (iv_wr ((p : Int) + 1)) (iv_upd μ1 10 (p : Int).toNat v)) = some (0, ν) ∧ (∀ q, q < p → ν 10 q = μ1 10 q) ∧ (∀ q, p ≤ q → q < 6 → ν 10 q = if q < P then μ1 8 q else 0) ∧ ∀ a k, a ≠ 10 → ν a k = μ1 a k := by
        intro v hv
        rw [iv_ck_pos (by omega), iv_wr_succ (by omega), Int.toNat_natCast]
        obtain ⟨ν, e, f1, f2, f3⟩ := ih (p + 1) n (iv_upd μ1 10 p v) (by omega) (by omega) (by rw [iv_upd_na (by omega)]; exact h93)
        refine ⟨ν, e, fun q hq => by rw [f1 q (by omega), iv_upd_nk (by omega)], fun q h1 h2 => ?_, fun a k ha => by rw [f3 a k ha, iv_upd_na ha]⟩
        by_cases c : q = p
        · subst c; rw [f1 q (by omega), iv_upd_at, hv]
        · rw [f2 q (by omega) h2, iv_upd_na (by omega)]
      unfold lp_X1_settle_26
      simp only [iv_let]
      rw [if_neg (by omega), h93]
      by_cases c : p < P
      · rw [if_neg (by omega), iv_ck_pos (by omega), Int.toNat_natCast]
        have := go (μ1 8 p) (by rw [if_pos c])
        rw [Int.toNat_natCast] at this
        exact this
      · rw [if_pos (by omega)]
        exact go 0 (by rw [if_neg c])
  unfold f_X1_settle
  rw [iv_upd_na (a := 9) (a' := 5) (by omega), iv_upd_na (a := 9) (a' := 5) (by omega), iv_upd_na (a := 9) (a' := 5) (by omega)]
  obtain ⟨ν, e, _, f2, f3⟩ := key 6 0 iv_fuel (iv_upd (iv_upd (iv_upd μ 9 1 (μ 5 3)) 9 2 (μ 5 4)) 9 3 (μ 5 5)) (by omega) (by decide) (by rw [iv_upd_at]; exact h5)
  refine ⟨ν, e, ?_, ?_, ?_, fun p hp => ?_, fun a k h9 h10 => ?_⟩
  · rw [f3 _ _ (by omega), iv_upd_nk (by omega), iv_upd_nk (by omega), iv_upd_at]
  · rw [f3 _ _ (by omega), iv_upd_nk (by omega), iv_upd_at]
  · rw [f3 _ _ (by omega), iv_upd_at]
  · rw [f2 p (by omega) hp, iv_upd_na (by omega), iv_upd_na (by omega), iv_upd_na (by omega)]
  · rw [f3 _ _ h10, iv_upd_na h9, iv_upd_na h9, iv_upd_na h9]
theorem ib_begin {T : Nat} (hT : T ≤ 8) (μ : ivM) (h4 : μ 5 4 = T) : ∃ ν, f_X2_begin μ = some (0, ν) ∧ ν 11 3 = 0 ∧ (∀ t, t < 8 → ν 12 t = (if t < T then μ 6 t else 0) ∧ ν 13 t = 0 ∧ ν 14 t = if t < T then μ 7 t else 0) ∧ ∀ a k, ¬ (a = 11 ∧ k = 3) → ¬ (12 ≤ a ∧ a ≤ 14) → ν a k = μ a k := by
  have key : ∀ (d t n : Nat) (μ1 : ivM), t + d = 8 → d < n → μ1 5 4 = T → ∃ ν, lp_X2_begin_7 n t μ1 = some (0, ν) ∧ (∀ a q, q < t → ν a q = μ1 a q) ∧ (∀ q, t ≤ q → q < 8 → ν 12 q = (if q < T then μ1 6 q else 0) ∧ ν 13 q = 0 ∧ ν 14 q = if q < T then μ1 7 q else 0) ∧ ∀ a k, ¬ (12 ≤ a ∧ a ≤ 14) → ν a k = μ1 a k := by
    intro d
    induction d with
    | zero =>
      intro t n μ1 ht hn h
      obtain ⟨n, rfl⟩ : ∃ q, n = q + 1 := ⟨n - 1, by omega⟩
      unfold lp_X2_begin_7
      rw [if_pos (by omega)]
      exact ⟨μ1, rfl, fun _ _ _ => rfl, fun q _ _ => by omega, fun _ _ _ => rfl⟩
    | succ d ih =>
      intro t n μ1 ht hn h
      obtain ⟨n, rfl⟩ : ∃ q, n = q + 1 := ⟨n - 1, by omega⟩
      have go : ∀ v w : Int, v = (if t < T then μ1 6 t else 0) → w = (if t < T then μ1 7 t else 0) → ∃ ν, lp_X2_begin_7 n ((t + 1 : Nat) : Int) (iv_upd (iv_upd (iv_upd μ1 12 t v) 13 t 0) 14 t w) = some (0, ν) ∧ (∀ a q, q < t → ν a q = μ1 a q) ∧ (∀ q, t ≤ q → q < 8 → ν 12 q = (if q < T then μ1 6 q else 0) ∧ ν 13 q = 0 ∧ ν 14 q = if q < T then μ1 7 q else 0) ∧ ∀ a k, ¬ (12 ≤ a ∧ a ≤ 14) → ν a k = μ1 a k := by
        intro v w hv hw
        obtain ⟨ν, e, f1, f2, f3⟩ := ih (t + 1) n (iv_upd (iv_upd (iv_upd μ1 12 t v) 13 t 0) 14 t w) (by omega) (by omega) (by rw [iv_upd_na (by omega), iv_upd_na (by omega), iv_upd_na (by omega)]; exact h)
        refine ⟨ν, e, fun a q hq => by rw [f1 a q (by omega), iv_upd_nk (by omega), iv_upd_nk (by omega), iv_upd_nk (by omega)], fun q h1 h2 => ?_, fun a k ha => by rw [f3 a k ha, iv_upd_na (by omega), iv_upd_na (by omega), iv_upd_na (by omega)]⟩
        by_cases c : q = t
        · subst c
          rw [f1 12 q (by omega), f1 13 q (by omega), f1 14 q (by omega)]
          exact ⟨by rw [iv_upd_na (by omega), iv_upd_na (by omega), iv_upd_at, hv], by rw [iv_upd_na (by omega), iv_upd_at], by rw [iv_upd_at, hw]⟩
        · obtain ⟨g1, g2, g3⟩ := f2 q (by omega) h2
          rw [g1, g2, g3]
          exact ⟨by rw [iv_upd_na (by omega), iv_upd_na (by omega), iv_upd_na (by omega)], rfl, by rw [iv_upd_na (by omega), iv_upd_na (by omega), iv_upd_na (by omega)]⟩
      unfold lp_X2_begin_7
      simp only [iv_let]
      rw [if_neg (by omega), h]
      by_cases c : t < T
      · rw [if_neg (by omega), if_neg (by decide), if_neg (by decide)]
        rw [iv_ck_pos (by omega), iv_ck_pos (by omega), iv_ck_pos (by omega), iv_ck_pos (by omega), iv_ck_pos (by omega), iv_wr_succ (by omega), Int.toNat_natCast, iv_upd_na (a' := 7) (by omega), iv_upd_na (a' := 7) (by omega)]
        exact go _ _ (by rw [if_pos c]) (by rw [if_pos c])
      · rw [if_pos (by omega)]
        simp only [if_true]
        rw [iv_ck_pos (by omega), iv_ck_pos (by omega), iv_ck_pos (by omega), iv_wr_succ (by omega), Int.toNat_natCast]
        exact go _ _ (by rw [if_neg c]) (by rw [if_neg c])
  unfold f_X2_begin
  obtain ⟨ν, e, _, f2, f3⟩ := key 8 0 iv_fuel (iv_upd μ 11 3 0) (by omega) (by decide) (by rw [iv_upd_na (by omega)]; exact h4)
  refine ⟨ν, e, by rw [f3 _ _ (by omega), iv_upd_at], fun t ht => ?_, fun a k h1 h2 => ?_⟩
  · obtain ⟨g1, g2, g3⟩ := f2 t (by omega) ht
    rw [g1, g2, g3]
    exact ⟨by rw [iv_upd_na (by omega)], rfl, by rw [iv_upd_na (by omega)]⟩
  · rw [f3 _ _ h2]
    unfold iv_upd
    rw [if_neg h1]
theorem ib_house43s (k : ivM → Option (Int × ivM)) {m q : Nat} (hq : q < 2) (μ : ivM) : lp_X9_house_43 k (m + 1) q μ = lp_X9_house_43 k m ((q + 1 : Nat) : Int) (iv_upd μ (16 + 4 * q) 4 0) := by
  rw [lp_X9_house_43, if_neg (by omega), ib_slotAt, iv_bnd_some, if_pos (by omega)]
  simp only [iv_let]
  rw [Int.toNat_natCast, Int.toNat_natCast, if_neg (by omega), iv_ck_pos (ib_isMem2 hq), iv_wr_succ (by omega)]
theorem ib_house43 (k : ivM → Option (Int × ivM)) (μ : ivM) : lp_X9_house_43 k iv_fuel 0 μ = k (iv_upd (iv_upd μ 16 4 0) 20 4 0) := by
  have e1 := ib_house43s k (m := 999999) (q := 0) (by omega) μ
  have e2 := ib_house43s k (m := 999998) (q := 1) (by omega) (iv_upd μ 16 4 0)
  have e3 : lp_X9_house_43 k (999997 + 1) ((2 : Nat) : Int) (iv_upd (iv_upd μ 16 4 0) 20 4 0) = k (iv_upd (iv_upd μ 16 4 0) 20 4 0) := by
    rw [lp_X9_house_43, if_pos (by omega)]
  exact e1.trans (e2.trans e3)
/-! the model's copies -/
theorem ib_house14 (k : ivM → Option (Int × ivM)) : ∀ (d i n : Nat) (μ : ivM), i + d = 40 → d < n → ∃ ν, lp_X10_house_14 k n i μ = k ν ∧ (∀ a j, ¬ (a = 115 ∧ j < 40) → ν a j = μ a j) ∧ (∀ j, j < i → ν 115 j = μ 115 j) ∧ ∀ j, i ≤ j → j < 40 → ν 115 j = μ 111 j := by
  intro d
  induction d with
  | zero =>
    intro i n μ hi hn
    obtain ⟨n, rfl⟩ : ∃ q, n = q + 1 := ⟨n - 1, by omega⟩
    unfold lp_X10_house_14
    rw [if_pos (by omega)]
    exact ⟨μ, rfl, fun _ _ _ => rfl, fun _ _ => rfl, fun j _ _ => by omega⟩
  | succ d ih =>
    intro i n μ hi hn
    obtain ⟨n, rfl⟩ : ∃ q, n = q + 1 := ⟨n - 1, by omega⟩
    unfold lp_X10_house_14
    rw [if_neg (by omega), iv_ck_pos (by omega), iv_ck_pos (by omega), iv_wr_succ (by omega), Int.toNat_natCast]
    obtain ⟨ν, e, f1, f2, f3⟩ := ih (i + 1) n (iv_upd μ 115 i (μ 111 i)) (by omega) (by omega)
    refine ⟨ν, e, fun a j h => ?_, fun j hj => by rw [f2 j (by omega), iv_upd_nk (by omega)], fun j h1 h2 => ?_⟩
    · rw [f1 a j h]
      unfold iv_upd
      rw [if_neg (by omega)]
    · by_cases c : j = i
      · subst c; rw [f2 j (by omega), iv_upd_at]
      · rw [f3 j (by omega) h2, iv_upd_na (by omega)]
theorem ib_house40 {T : Nat} (hT : T ≤ 8) (k : ivM → Option (Int × ivM)) : ∀ (d t n : Nat) (μ : ivM), t + d = 8 → d < n → μ 110 5 = T → ∃ ν, lp_X10_house_40 k n t μ = k ν ∧ (∀ a q, q < t → ν a q = μ a q ∨ a = 110) ∧ (∀ q, t ≤ q → q < 8 → ν 116 q = (if q < T then μ 112 q else 0) ∧ ν 117 q = (if q < T then μ 113 q else 0) ∧ ν 118 q = 0) ∧ ∀ a q, ¬ (116 ≤ a ∧ a ≤ 118) → ν a q = μ a q := by
  intro d
  induction d with
  | zero =>
    intro t n μ ht hn h5
    obtain ⟨n, rfl⟩ : ∃ q, n = q + 1 := ⟨n - 1, by omega⟩
    unfold lp_X10_house_40
    rw [if_pos (by omega)]
    exact ⟨μ, rfl, fun _ _ _ => Or.inl rfl, fun q _ _ => by omega, fun _ _ _ => rfl⟩
  | succ d ih =>
    intro t n μ ht hn h5
    obtain ⟨n, rfl⟩ : ∃ q, n = q + 1 := ⟨n - 1, by omega⟩
    have go : ∀ v w : Int, v = (if t < T then μ 112 t else 0) → w = (if t < T then μ 113 t else 0) → ∃ ν, lp_X10_house_40 k n ((t + 1 : Nat) : Int) (iv_upd (iv_upd (iv_upd μ 116 t v) 117 t w) 118 t 0) = k ν ∧ (∀ a q, q < t → ν a q = μ a q ∨ a = 110) ∧ (∀ q, t ≤ q → q < 8 → ν 116 q = (if q < T then μ 112 q else 0) ∧ ν 117 q = (if q < T then μ 113 q else 0) ∧ ν 118 q = 0) ∧ ∀ a q, ¬ (116 ≤ a ∧ a ≤ 118) → ν a q = μ a q := by
      intro v w hv hw
      obtain ⟨ν, e, f1, f2, f3⟩ := ih (t + 1) n (iv_upd (iv_upd (iv_upd μ 116 t v) 117 t w) 118 t 0) (by omega) (by omega) (by rw [iv_upd_na (by omega), iv_upd_na (by omega), iv_upd_na (by omega)]; exact h5)
      refine ⟨ν, e, fun a q hq => ?_, fun q h1 h2 => ?_, fun a q ha => by rw [f3 a q ha, iv_upd_na (by omega), iv_upd_na (by omega), iv_upd_na (by omega)]⟩
      · rcases f1 a q (by omega) with g | g
        · left
          rw [g, iv_upd_nk (by omega), iv_upd_nk (by omega), iv_upd_nk (by omega)]
        · exact Or.inr g
      · by_cases c : q = t
        · subst c
          have g1 := (f1 116 q (by omega)).resolve_right (by omega)
          have g2 := (f1 117 q (by omega)).resolve_right (by omega)
          have g3 := (f1 118 q (by omega)).resolve_right (by omega)
          rw [g1, g2, g3]
          exact ⟨by rw [iv_upd_na (by omega), iv_upd_na (by omega), iv_upd_at, hv], by rw [iv_upd_na (by omega), iv_upd_at, hw], iv_upd_at⟩
        · obtain ⟨g1, g2, g3⟩ := f2 q (by omega) h2
          rw [g1, g2, g3]
          exact ⟨by rw [iv_upd_na (by omega), iv_upd_na (by omega), iv_upd_na (by omega)], by rw [iv_upd_na (by omega), iv_upd_na (by omega), iv_upd_na (by omega)], rfl⟩
    unfold lp_X10_house_40
    simp only [iv_let]
    rw [if_neg (by omega), h5]
    by_cases c : t < T
    · rw [if_neg (by omega)]
      simp only [iv_upd_na (a := 116) (a' := 110) (f := μ) (show ¬ 110 = 116 by omega), h5]
      rw [if_neg (by omega), iv_ck_pos (by omega), iv_ck_pos (by omega), iv_ck_pos (by omega), iv_ck_pos (by omega), iv_ck_pos (by omega), iv_wr_succ (by omega), Int.toNat_natCast, iv_upd_na (a' := 113) (by omega)]
      exact go _ _ (by rw [if_pos c]) (by rw [if_pos c])
    · rw [if_pos (by omega)]
      simp only [iv_upd_na (a := 116) (a' := 110) (f := μ) (show ¬ 110 = 116 by omega), h5]
      rw [if_pos (by omega), iv_ck_pos (by omega), iv_ck_pos (by omega), iv_ck_pos (by omega), iv_wr_succ (by omega), Int.toNat_natCast]
      exact go _ _ (by rw [if_neg c]) (by rw [if_neg c])
theorem ib_house109 (k : ivM → Option (Int × ivM)) : ∀ (d i n : Nat) (μ : ivM), i + d = 6 → d < n → ∃ ν, lp_X10_house_109 k n i μ = k ν ∧ (∀ a j, ¬ (a = 119 ∧ j < 6) → ν a j = μ a j) ∧ (∀ j, j < i → ν 119 j = μ 119 j) ∧ ∀ j, i ≤ j → j < 6 → ν 119 j = μ 114 j := by
  intro d
  induction d with
  | zero =>
    intro i n μ hi hn
    obtain ⟨n, rfl⟩ : ∃ q, n = q + 1 := ⟨n - 1, by omega⟩
    unfold lp_X10_house_109
    rw [if_pos (by omega)]
    exact ⟨μ, rfl, fun _ _ _ => rfl, fun _ _ => rfl, fun j _ _ => by omega⟩
  | succ d ih =>
    intro i n μ hi hn
    obtain ⟨n, rfl⟩ : ∃ q, n = q + 1 := ⟨n - 1, by omega⟩
    unfold lp_X10_house_109
    rw [if_neg (by omega), iv_ck_pos (by omega), iv_ck_pos (by omega), iv_wr_succ (by omega), Int.toNat_natCast]
    obtain ⟨ν, e, f1, f2, f3⟩ := ih (i + 1) n (iv_upd μ 119 i (μ 114 i)) (by omega) (by omega)
    refine ⟨ν, e, fun a j h => ?_, fun j hj => by rw [f2 j (by omega), iv_upd_nk (by omega)], fun j h1 h2 => ?_⟩
    · rw [f1 a j h]
      unfold iv_upd
      rw [if_neg (by omega)]
    · by_cases c : j = i
      · subst c; rw [f2 j (by omega), iv_upd_at]
      · rw [f3 j (by omega) h2, iv_upd_na (by omega)]
end IBY
