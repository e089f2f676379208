/-! TEXTS: A NAME, FROM ITS LETTER ON -/
section IBY
variable {n a : Nat} {x : Nat → Int} {μ κ : ivM}
theorem ip_lk_iff {T P m t : Nat} {κ' : ivM} (hJ : ip_J T P μ κ) (hκ : ∀ a q, ¬ (a = 111 ∧ 5 * T ≤ q ∧ q < 5 * T + 5) → ¬ (a = 110 ∧ q = 18) → κ' a q = κ a q) (hm : m ≤ 5) (hd : ∀ i, i < m → 0 ≤ κ' 111 (5 * T + i) ∧ κ' 111 (5 * T + i) < 6) (ht : t < T) :
    ip_lk (ip_nd κ' T m) T t ↔ μ 6 t = ib_nc (fun i => κ' 111 (5 * T + i)) m := by
  obtain ⟨q1, q2, q3, q4, q5, q6⟩ := hJ.2.2.2.2.1 t ht
  have e111 : ∀ q, ip_nd κ' T m 111 q = κ' 111 q := fun q => by
    unfold ip_nd
    rw [iv_upd_na (by omega), iv_upd_na (by omega)]
  have eT : ip_nd κ' T m 112 T = m := by
    unfold ip_nd
    rw [iv_upd_na (by omega), iv_upd_at]
  have et : ip_nd κ' T m 112 t = κ 112 t := by
    unfold ip_nd
    rw [iv_upd_na (by omega), iv_upd_nk (by omega)]
    exact hκ _ _ (by omega) (by omega)
  have es : ∀ i, i < 5 → κ' 111 (5 * t + i) = κ 111 (5 * t + i) := fun i hi => hκ _ _ (by omega) (by omega)
  unfold ip_lk
  simp only [e111]
  rw [eT, et, q3, Int.natCast_inj, ib_nc_inj q1 ⟨hm, hd⟩]
  constructor
  · rintro ⟨h1, h2⟩
    exact ⟨by omega, fun i hi => by rw [← es i (by have := q1.1; omega)]; exact h2 i hi⟩
  · rintro ⟨h1, h2⟩
    exact ⟨by omega, fun i hi => by rw [es i (by have := q1.1; omega)]; exact h2 i hi⟩
theorem ip_told_nd {T P m : Nat} {κ' : ivM} (hJ : ip_J T P μ κ) (hT : T < 8) (hκ : ∀ a q, ¬ (a = 111 ∧ 5 * T ≤ q ∧ q < 5 * T + 5) → ¬ (a = 110 ∧ q = 18) → κ' a q = κ a q) (hm : m ≤ 5) (hd : ∀ i, i < m → 0 ≤ κ' 111 (5 * T + i) ∧ κ' 111 (5 * T + i) < 6) :
    (f_X10_isTold (ip_nd κ' T m) = some (1, ip_nd κ' T m) ∧ ∃ t, t < T ∧ μ 6 t = ib_nc (fun i => κ' 111 (5 * T + i)) m) ∨ (f_X10_isTold (ip_nd κ' T m) = some (0, ip_nd κ' T m) ∧ ∀ t, t < T → μ 6 t ≠ ib_nc (fun i => κ' 111 (5 * T + i)) m) := by
  have e5 : ip_nd κ' T m 110 5 = T := by
    unfold ip_nd
    rw [iv_upd_na (by omega), iv_upd_na (by omega), hκ _ _ (by omega) (by omega)]
    exact hJ.2.2.1.2.2.1
  obtain ⟨y, e, r⟩ := ip_told (κ := ip_nd κ' T m) hT e5 (fun t ht => by
    obtain ⟨q1, q2, _⟩ := hJ.2.2.2.2.1 t ht
    have et : ip_nd κ' T m 112 t = κ 112 t := by
      unfold ip_nd
      rw [iv_upd_na (by omega), iv_upd_nk (by omega)]
      exact hκ _ _ (by omega) (by omega)
    rw [et]
    have := q1.1
    omega)
  rcases r with ⟨r1, t, r2, r3⟩ | ⟨r1, r2⟩
  · subst r1
    exact Or.inl ⟨e, t, r2, (ip_lk_iff hJ hκ hm hd r2).mp r3⟩
  · subst r1
    exact Or.inr ⟨e, fun t ht c => r2 t ht ((ip_lk_iff hJ hκ hm hd ht).mpr c)⟩
theorem ip_name (hn : n ≤ 96) (hx : ∀ k, k < n → 0 ≤ x k ∧ x k < 256) {T P f : Nat} (hJ : ip_J T P μ κ) (hT : T < 8) (hc : ip_ct n x μ) (hm : ip_mt n x κ) (h7 : μ 5 7 = 2) (hat : ip_at a κ) (ha : a < n) (hb : x a = 78) (hf : n < a + f) :
    (∃ (g : Nat) (μ' κ' : ivM), lp_X7_faultOf_27 ip_kF f a μ = some ((g : Int), μ') ∧ f_X10_readName κ = some (0, κ') ∧ κ' 110 19 = g ∧ ib_fr 5 8 μ μ' ∧ ip_mf κ κ') ∨
    (∃ (a' f' : Nat) (μ' κ' : ivM), a < a' ∧ a' ≤ n ∧ n < a' + f' ∧ lp_X7_faultOf_27 ip_kF f a μ = lp_X7_faultOf_27 ip_kF f' a' μ' ∧ f_X10_readName κ = some (0, κ') ∧ ip_J (T + 1) P μ' κ' ∧ μ' 5 7 = 2 ∧ ip_at a' κ' ∧ ib_fr 5 8 μ μ' ∧ ip_mf κ κ') := by
  obtain ⟨f, rfl⟩ : ∃ q, f = q + 1 := ⟨f - 1, by omega⟩
  obtain ⟨j1, j2, ⟨j3, j4, j5, j6⟩, _, _, _, j12⟩ := id hJ
  have t1 := ip_tp_N (μ := μ) j3
  rw [if_pos hT] at t1
  have eF := ip_F_good hn hc (m := f) ha (by rw [hb]; exact ip_take2 h7 t1 (Or.inr rfl))
  have fr1 : ib_fr 5 8 μ (iv_upd (iv_upd (iv_upd μ 5 7 3) 5 8 0) 5 9 0) := ((ib_fr.rfl.upd (by omega)).upd (by omega)).upd (by omega)
  have mf1 : ip_mf κ (iv_upd κ 110 18 ((a + 1 : Nat) : Int)) := ip_mf.rfl.upd (by omega)
  have eR : f_X10_readName κ = lp_X10_readName_12 ip_kN iv_fuel 0 (iv_upd κ 110 18 ((a + 1 : Nat) : Int)) := by
    rw [ip_readName, hat.1, iv_wr_succ (by omega)]
  obtain ⟨i, f', m', μ2, κ2, r1, r2, r3, r4, r5, r6, r7, r8, r9, r10, r11⟩ := ip_nm hn (T := T) (b := a + 1) hT ip_kN 4 0 f iv_fuel (iv_upd (iv_upd (iv_upd μ 5 7 3) 5 8 0) 5 9 0) (iv_upd κ 110 18 ((a + 1 : Nat) : Int)) (by omega) (by omega) (by decide) (by omega) (hc.fr fr1) (hm.fr mf1) (by rw [iv_upd_nk (by omega)]; exact j5)
    ⟨by rw [iv_upd_nk (by omega), iv_upd_nk (by omega), iv_upd_at], by rw [iv_upd_nk (by omega), iv_upd_at]; rfl, iv_upd_at, ⟨iv_upd_at, by rw [iv_upd_nk (by omega)]; exact hat.2⟩, fun i hi => by omega⟩
  rw [Nat.add_zero] at r7
  rw [show ((0 : Nat) : Int) = 0 from rfl] at r8
  have hμ2 : ∀ a q, ¬ (a = 5 ∧ (q = 7 ∨ q = 8 ∨ q = 9)) → μ2 a q = μ a q := fun a q h => by
    rw [r10 a q (by omega)]
    unfold iv_upd
    rw [if_neg (by omega), if_neg (by omega), if_neg (by omega)]
  have hκ2 : ∀ a q, ¬ (a = 111 ∧ 5 * T ≤ q ∧ q < 5 * T + 5) → ¬ (a = 110 ∧ q = 18) → κ2 a q = κ a q := fun a q h1 h2 => by
    rw [r11 a q h1 h2]
    unfold iv_upd
    rw [if_neg h2]
  have fr2 : ib_fr 5 8 μ μ2 := fun a q h => hμ2 a q (by omega)
  have mf2 : ip_mf κ κ2 := fun a q h1 h2 => hκ2 a q (by omega) (by omega)
  have hc2 := hc.fr fr2
  have hm2 := hm.fr mf2
  obtain ⟨N1, N2, N3, N4, N5⟩ := r9
  have h4' : μ2 5 4 = T := (hμ2 _ _ (by omega)).trans j3
  have h6' : ∀ t, μ2 6 t = μ 6 t := fun t => hμ2 _ _ (by omega)
  have k5' : κ2 110 5 = T := (hκ2 _ _ (by omega) (by omega)).trans j5
  have mfn : ∀ (m : Nat) (κ3 : ivM), ip_mf κ κ3 → ip_mf κ (ip_nd κ3 T m) := fun m κ3 h => (h.upd (by omega)).upd (by omega)
  rcases Classical.em (ip_snd n x (a + 1 + i)) with hs | hs
  · have hi : i = 4 := by
      rcases r3 with h | h
      · exact h
      · exact absurd hs h
    subst hi
    obtain ⟨m', rfl⟩ : ∃ q, m' = q + 1 := ⟨m' - 1, by omega⟩
    obtain ⟨m', rfl⟩ : ∃ q, m' = q + 1 := ⟨m' - 1, by omega⟩
    obtain ⟨f', rfl⟩ : ∃ q, f' = q + 1 := ⟨f' - 1, by have := hs.1; omega⟩
    obtain ⟨s1, s2, s3⟩ := id hs
    have eM := ip_snM hn hm2 (T := T) (p := a + 1 + 4) (j := 4) (m := m' + 1) hT k5' (by omega) N4 hs ip_kN
    have hκ3 : ∀ b q, ¬ (b = 111 ∧ 5 * T ≤ q ∧ q < 5 * T + 5) → ¬ (b = 110 ∧ q = 18) → iv_upd (iv_upd κ2 111 (5 * T + 4) (x (a + 1 + 4) - 97)) 110 18 ((a + 1 + 4 + 1 : Nat) : Int) b q = κ b q := fun b q h1 h2 => by
      rw [← hκ2 b q h1 h2]
      unfold iv_upd
      rw [if_neg h2, if_neg (by omega)]
    have at3 : ip_at (a + 1 + 4 + 1) (iv_upd (iv_upd κ2 111 (5 * T + 4) (x (a + 1 + 4) - 97)) 110 18 ((a + 1 + 4 + 1 : Nat) : Int)) := ⟨iv_upd_at, by rw [iv_upd_nk (by omega), iv_upd_na (by omega)]; exact N4.2⟩
    have mf3 : ip_mf κ (iv_upd (iv_upd κ2 111 (5 * T + 4) (x (a + 1 + 4) - 97)) 110 18 ((a + 1 + 4 + 1 : Nat) : Int)) := (mf2.upd (by omega)).upd (by omega)
    have hd3 : ∀ i, i < 5 → 0 ≤ iv_upd (iv_upd κ2 111 (5 * T + 4) (x (a + 1 + 4) - 97)) 110 18 ((a + 1 + 4 + 1 : Nat) : Int) 111 (5 * T + i) ∧ iv_upd (iv_upd κ2 111 (5 * T + 4) (x (a + 1 + 4) - 97)) 110 18 ((a + 1 + 4 + 1 : Nat) : Int) 111 (5 * T + i) < 6 := fun i hi => by
      rw [iv_upd_na (by omega)]
      by_cases c : i = 4
      · subst c; rw [iv_upd_at]; omega
      · rw [iv_upd_nk (by omega)]; exact N5 i (by omega)
    have hnc4 : μ2 5 8 = ib_nc (fun i => iv_upd (iv_upd κ2 111 (5 * T + 4) (x (a + 1 + 4) - 97)) 110 18 ((a + 1 + 4 + 1 : Nat) : Int) 111 (5 * T + i)) 4 := by
      rw [N2]
      congr 1
      refine (ib_nc_inj ⟨by omega, N5⟩ ⟨by omega, fun i hi => hd3 i (by omega)⟩).mpr ⟨rfl, fun i hi => ?_⟩
      rw [iv_upd_na (by omega), iv_upd_nk (by omega)]
    have eX := ip_snX (μ := μ2) (j := 4) ⟨s2, s3⟩ (u := fun i => iv_upd (iv_upd κ2 111 (5 * T + 4) (x (a + 1 + 4) - 97)) 110 18 ((a + 1 + 4 + 1 : Nat) : Int) 111 (5 * T + i)) ⟨by omega, hd3⟩ (by rw [iv_upd_na (by omega), iv_upd_at]) hnc4 N3
    rw [if_neg (by omega)] at eX
    have eMk : lp_X10_readName_12 ip_kN (m' + 1 + 1) (4 : Nat) κ2 = ip_kN (5 : Nat) (iv_upd (iv_upd κ2 111 (5 * T + 4) (x (a + 1 + 4) - 97)) 110 18 ((a + 1 + 4 + 1 : Nat) : Int)) := by
      rw [eM]
      exact ip_snM_no hn (hm.fr mf3) (p := a + 1 + 4 + 1) (j := 5) (by omega) at3 (Or.inr rfl) ip_kN
    generalize hκ3d : iv_upd (iv_upd κ2 111 (5 * T + 4) (x (a + 1 + 4) - 97)) 110 18 ((a + 1 + 4 + 1 : Nat) : Int) = κ3 at *
    have hμ3 : ∀ b q, ¬ (b = 5 ∧ (q = 7 ∨ q = 8 ∨ q = 9)) → iv_upd (iv_upd μ2 5 8 (ib_nc (fun i => κ3 111 (5 * T + i)) (4 + 1))) 5 9 ((4 + 1 : Nat) : Int) b q = μ b q := fun b q h => by
      rw [← hμ2 b q h]
      unfold iv_upd
      rw [if_neg (by omega), if_neg (by omega)]
    have e58 : iv_upd (iv_upd μ2 5 8 (ib_nc (fun i => κ3 111 (5 * T + i)) (4 + 1))) 5 9 ((4 + 1 : Nat) : Int) 5 8 = ib_nc (fun i => κ3 111 (5 * T + i)) 5 := by rw [iv_upd_nk (by omega), iv_upd_at]
    have e59 : iv_upd (iv_upd μ2 5 8 (ib_nc (fun i => κ3 111 (5 * T + i)) (4 + 1))) 5 9 ((4 + 1 : Nat) : Int) 5 9 ≠ 0 := by rw [iv_upd_at]; decide
    generalize hμ3d : iv_upd (iv_upd μ2 5 8 (ib_nc (fun i => κ3 111 (5 * T + i)) (4 + 1))) 5 9 ((4 + 1 : Nat) : Int) = μ3 at *
    have fr3 : ib_fr 5 8 μ μ3 := fun a q h => hμ3 a q (by omega)
    have k5'' : κ3 110 5 = T := (hκ3 _ _ (by omega) (by omega)).trans j5
    rcases ip_told_nd hJ hT hκ3 (Nat.le_refl 5) hd3 with ⟨q1, t, q2, q3⟩ | ⟨q1, q2⟩
    · left
      rw [ip_endName_no (T := T) hT ((hμ3 _ _ (by omega)).trans j3) ⟨t, q2, by rw [hμ3 _ _ (by omega), q3, e58]⟩, iv_bnd_some, if_pos rfl] at eX
      obtain ⟨κ', w1, w2, w3⟩ := ip_kN_yes (κ := κ3) (T := T) (m := 5) (b := a + 1 + 4 + 1) hT k5'' (by omega) (by omega) (by omega) at3 q1
      refine ⟨a + 1 + 4, μ3, κ', ?_, ?_, ?_, fr3, (mfn 5 κ3 mf3).tr w3⟩
      · rw [eF, r7, ip_F_bad hn hc2 s1 (ip_take3 N1 eX (Or.inl rfl))]
      · rw [eR, r8, eMk, w1]
      · rw [w2, if_pos rfl]
        omega
    · right
      rw [ip_endName_yes (T := T) hT ((hμ3 _ _ (by omega)).trans j3) e59 (fun t ht => by rw [hμ3 _ _ (by omega), e58]; exact q2 t ht), iv_bnd_some, if_neg (by decide)] at eX
      have hJ2 := ip_J_N hJ hT (m := 5) (by omega) hμ3 hκ3 e58 hd3
      refine ⟨a + 1 + 4 + 1, f', ip_en μ3 T, _, by omega, s1, by omega, ?_, ?_, hJ2, iv_upd_at, ⟨?_, ?_⟩, ?_, ?_⟩
      · rw [eF, r7, ip_F_good hn hc2 s1 (ip_take3 N1 eX (Or.inr rfl))]
      · rw [eR, r8, eMk, ip_kN_no hT k5'' (by omega) q1]
      · unfold ip_nd
        rw [iv_upd_nk (by omega), iv_upd_na (by omega), iv_upd_na (by omega)]; exact at3.1
      · unfold ip_nd
        rw [iv_upd_nk (by omega), iv_upd_na (by omega), iv_upd_na (by omega)]; exact at3.2
      · exact (((fr3.upd (by omega)).upd (by omega)).upd (by omega)).upd (by omega)
      · exact (mfn 5 κ3 mf3).upd (by omega)
  · obtain ⟨m', rfl⟩ : ∃ q, m' = q + 1 := ⟨m' - 1, by omega⟩
    obtain ⟨f', rfl⟩ : ∃ q, f' = q + 1 := ⟨f' - 1, by omega⟩
    have eMk : lp_X10_readName_12 ip_kN (m' + 1) i κ2 = ip_kN i κ2 := ip_snM_no hn hm2 (by omega) N4 (Or.inl hs) ip_kN
    have nosnd : a + 1 + i < n → ¬ (97 ≤ x (a + 1 + i) ∧ x (a + 1 + i) ≤ 102) := fun h1 h2 => hs ⟨h1, h2⟩
    -- when the name can't end
    have bad : f_X7_endName μ2 = some (0, μ2) → lp_X7_faultOf_27 ip_kF (f' + 1) ((a + 1 + i : Nat) : Int) μ2 = some (((a + 1 + i : Nat) : Int), μ2) := by
      intro he
      by_cases q : a + 1 + i < n
      · exact ip_F_bad hn hc2 q (ip_take3 N1 (ip_sound_no (hx _ q) (nosnd q) he) (Or.inl rfl))
      · rw [ip_F_end hc2 (by omega), ip_kF_3 N1 he, if_pos rfl, hc2.1, show n = a + 1 + i by omega]
    by_cases h0 : i = 0
    · left
      subst h0
      refine ⟨a + 1 + 0, μ2, iv_upd (iv_upd (ip_nd κ2 T 0) 110 19 ((a + 1 + 0 : Nat) : Int)) 110 5 ((T + 1 : Nat) : Int), ?_, ?_, ?_, fr2, ?_⟩
      · rw [eF, r7]
        exact bad (ip_endName_0 N3)
      · rw [eR, r8, eMk]
        exact ip_kN_0 hT k5' N4
      · rw [iv_upd_nk (by omega), iv_upd_at]
      · exact ((mfn 0 κ2 mf2).upd (by omega)).upd (by omega)
    · rcases ip_told_nd hJ hT hκ2 (show i ≤ 5 by omega) N5 with ⟨q1, t, q2, q3⟩ | ⟨q1, q2⟩
      · left
        obtain ⟨κ', w1, w2, w3⟩ := ip_kN_yes (κ := κ2) (T := T) (m := i) (b := a + 1 + i) hT k5' (by omega) (by omega) (by omega) N4 q1
        refine ⟨a + 1 + i, μ2, κ', ?_, ?_, ?_, fr2, (mfn i κ2 mf2).tr w3⟩
        · rw [eF, r7]
          exact bad (ip_endName_no (T := T) hT h4' ⟨t, q2, by rw [h6', q3, N2]⟩)
        · rw [eR, r8, eMk, w1]
        · rw [w2, if_neg (by omega)]
      · right
        have he := ip_endName_yes (μ := μ2) (T := T) hT h4' (by rw [N3]; omega) (fun t ht => by rw [h6', N2]; exact q2 t ht)
        have hJ2 := ip_J_N hJ hT (m := i) (by omega) hμ2 hκ2 N2 N5
        refine ⟨a + 1 + i, f' + 1, ip_en μ2 T, _, by omega, r6, by omega, ?_, ?_, hJ2, iv_upd_at, ⟨?_, ?_⟩, ?_, ?_⟩
        · rw [eF, r7]
          exact ip_F_en hn hx hc2 (P := P) (pr := ib_sum (fun t => ib_pc (κ 113 t).toNat) T) hT j2 N1 ((hμ2 _ _ (by omega)).trans j4) ((hμ2 _ _ (by omega)).trans j12) he nosnd
        · rw [eR, r8, eMk, ip_kN_no hT k5' (by omega) q1]
        · unfold ip_nd
          rw [iv_upd_nk (by omega), iv_upd_na (by omega), iv_upd_na (by omega)]; exact N4.1
        · unfold ip_nd
          rw [iv_upd_nk (by omega), iv_upd_na (by omega), iv_upd_na (by omega)]; exact N4.2
        · exact (((fr2.upd (by omega)).upd (by omega)).upd (by omega)).upd (by omega)
        · exact (mfn i κ2 mf2).upd (by omega)
end IBY
