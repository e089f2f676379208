/-! LOADS: BOTH SIDES -/
section IBL
variable {D : Int} {s : ivM}
theorem ib_lw_n {w : Int} {p : Nat} (hw : (p : Int) ≠ w) : ib_lw s w p = ib_set (ib_lf s p) 8 := by
  unfold ib_lw
  by_cases c : p < ib_P s
  · rw [if_pos ⟨c, hw⟩]
  · rw [if_neg (fun q => c q.1), ib_lf0 c]
theorem ib_gath7 (h : ib_inv D s) (k : ivM → Option (Int × ivM)) : ∀ (d p n : Nat) (μ : ivM), p + d = 6 → d < n → ib_ag s μ → (∀ q, q < p → μ 100 q = (ib_lw s (-9) q : Nat) ∧ μ 101 q = ib_be s q) →
    ∃ ν, lp_X9_gatherCarriers_7 (ib_set (ib_cl s) 8 : Nat) k n p μ = k ν ∧ ib_ag s ν ∧ ∀ q, q < 6 → ν 100 q = (ib_lw s (-9) q : Nat) ∧ ν 101 q = ib_be s q := by
  have hP := h.P
  intro d
  induction d with
  | zero =>
    intro p n μ hp hn g hh
    obtain ⟨n, rfl⟩ : ∃ q, n = q + 1 := ⟨n - 1, by omega⟩
    unfold lp_X9_gatherCarriers_7
    rw [if_pos (by omega)]
    exact ⟨μ, rfl, g, fun q hq => hh q (by omega)⟩
  | succ d ih =>
    intro p n μ hp hn g hh
    obtain ⟨n, rfl⟩ : ∃ q, n = q + 1 := ⟨n - 1, by omega⟩
    have hB := h.B (p := p) (by omega)
    have eb : s 10 p = ib_be s p := by
      unfold ib_be
      by_cases c : p < ib_P s
      · rw [if_pos c]; exact (hB.1 c).1
      · rw [if_neg c]; exact hB.2 (by omega)
    unfold lp_X9_gatherCarriers_7
    rw [if_neg (by omega), ib_liftedBy h (p := p) (by omega) g, iv_bnd_some, iv_ck_pos (by omega), iv_ck_pos (by omega), iv_ck_pos (by omega), iv_wr_succ (by omega), Int.toNat_natCast, iv_upd_na (a := 100) (a' := 10) (by omega), g.c (a := 10) rfl, eb, ← ib_lw_n (s := s) (w := -9) (p := p) (by omega)]
    obtain ⟨ν, e, g2, f⟩ := ih (p + 1) n (iv_upd (iv_upd μ 100 p (ib_lw s (-9) p : Nat)) 101 p (ib_be s p)) (by omega) (by omega) ((g.upd (by unfold ib_scr; omega)).upd (by unfold ib_scr; omega)) (fun q hq => by
      by_cases c : q = p
      · subst c
        exact ⟨by rw [iv_upd_na (by omega), iv_upd_at], by rw [iv_upd_at]⟩
      · rw [iv_upd_na (by omega), iv_upd_nk c, iv_upd_nk c, iv_upd_na (by omega)]
        exact hh q (by omega))
    exact ⟨ν, e, g2, f⟩
theorem ib_gath54 (h : ib_inv D s) : ∀ (d t n : Nat) (μ : ivM), t + d = 8 → d < n → ib_ag s μ → (∀ q, q < t → μ 102 q = (ib_z s q : Nat)) →
    ∃ ν, lp_X9_gatherCarriers_54 n t μ = some (0, ν) ∧ ib_fr 102 102 μ ν ∧ ∀ q, q < 8 → ν 102 q = (ib_z s q : Nat) := by
  intro d
  induction d with
  | zero =>
    intro t n μ ht hn g hh
    obtain ⟨n, rfl⟩ : ∃ q, n = q + 1 := ⟨n - 1, by omega⟩
    unfold lp_X9_gatherCarriers_54
    rw [if_pos (by omega)]
    exact ⟨μ, rfl, ib_fr.rfl, fun q hq => hh q (by omega)⟩
  | succ d ih =>
    intro t n μ ht hn g hh
    obtain ⟨n, rfl⟩ : ∃ q, n = q + 1 := ⟨n - 1, by omega⟩
    have hm := h.m (t := t) (by omega)
    unfold lp_X9_gatherCarriers_54
    rw [if_neg (by omega), iv_ck_pos (by omega), Int.toNat_natCast, g.c (a := 12) rfl, hm.2.2.2.1, ib_lengthOf hm.1, iv_bnd_some, iv_ck_pos (by omega), iv_wr_succ (by omega)]
    obtain ⟨ν, e, f, v⟩ := ih (t + 1) n (iv_upd μ 102 t (ib_z s t : Nat)) (by omega) (by omega) (g.upd (by unfold ib_scr; omega)) (fun q hq => by
      by_cases c : q = t
      · subst c; exact iv_upd_at
      · rw [iv_upd_nk c]; exact hh q (by omega))
    exact ⟨ν, e, (ib_fr.rfl.upd (by omega)).tr f, v⟩
theorem ib_gather (h : ib_inv D s) (hD : D ≤ 60000) {μ : ivM} (g : ib_ag s μ) : ∃ ν, f_X9_gatherCarriers μ = some (0, ν) ∧ ib_ag s ν ∧ ib_cr (ib_lw s (-9)) (ib_be s) (ib_z s) ν := by
  obtain ⟨μ1, e1, f1⟩ := ib_clearOnes h hD g
  unfold f_X9_gatherCarriers
  rw [e1, iv_bnd_some]
  obtain ⟨μ2, e2, g2, v2⟩ := ib_gath7 h (fun (μ13 : ivM) => lp_X9_gatherCarriers_54 iv_fuel 0 μ13) 6 0 iv_fuel μ1 (by omega) (by decide) (g.fr f1 ib_r31) (fun q hq => by omega)
  rw [show ((0 : Nat) : Int) = 0 from rfl] at e2
  rw [e2]
  obtain ⟨μ3, e3, f3, v3⟩ := ib_gath54 h 8 0 iv_fuel μ2 (by omega) (by decide) g2 (fun q hq => by omega)
  rw [show ((0 : Nat) : Int) = 0 from rfl] at e3
  refine ⟨μ3, e3, g2.fr f3 (fun a k h1 h2 => by unfold ib_scr; omega), fun p hp => ?_, ib_be_0 h, fun t ht => ⟨v3 t ht, (h.m ht).1.1⟩⟩
  rw [f3 _ _ (by omega), f3 _ _ (by omega)]
  refine ⟨(v2 p hp).1, ib_lw_256, (v2 p hp).2, ?_⟩
  have hB := h.B hp
  unfold ib_be
  split
  · have := hB.1 ‹_›; omega
  · omega
theorem ib_r103 : ∀ a k : Nat, 103 ≤ a → a ≤ 104 → ib_scr a k := fun a k _ _ => by unfold ib_scr; omega
theorem ib_tm_mv {lf : Nat → Nat} {be : Nat → Int} {z : Nat → Nat} {A : Nat} {x y : Int} (h : ib_tm lf be z A x) (g : ib_mv lf be z A y) : (y = 999 ∧ x = -9) ∨ (y = x ∧ 0 ≤ x ∧ x ≤ 8) := by
  rcases h with ⟨h1, h2⟩ | ⟨v, h1, h2, h3⟩
  · rcases g with ⟨g1, g2⟩ | ⟨u, g1, g2, g3, g4⟩
    · exact Or.inl ⟨g1, h1⟩
    · exact absurd g3 (h2 _)
  · rcases g with ⟨g1, g2⟩ | ⟨u, g1, g2, g3, g4⟩
    · exact absurd h2 (g2 v)
    · have e : u = v := by
        rcases Nat.lt_trichotomy u v with c | c | c
        · exact absurd g3 (h3 u c)
        · exact c
        · exact absurd h2 (g4 v c)
      have := ib_pc_le8 (S := A)
      exact Or.inr ⟨by omega, by omega, by omega⟩
theorem iq_times (h : ib_inv D s) (hD : D ≤ 60000) {p : Int} : ib_q s (f_X9_times p) (f_X10_times p) := by
  have hT := ib_T256 h
  unfold ib_q f_X9_times f_X10_times
  rw [ib_areThings' h ib_ag.rfl, iv_bnd_some, ib_iz]
  by_cases c : 0 ≤ p ∧ p < ((2 ^ ib_T s : Nat) : Int)
  · obtain ⟨A, rfl⟩ : ∃ t : Nat, p = t := ⟨p.toNat, by omega⟩
    have hA : A < 2 ^ ib_T s := by omega
    obtain ⟨μ1, e1, g1, c1⟩ := ib_gather h hD (μ := s) ib_ag.rfl
    obtain ⟨μ2, e2, f2, c2⟩ := ib_pack (A := A) (by omega) c1
    obtain ⟨x, e3, t3⟩ := ib_timesFor (ib_be_0 h) (A := A) (by omega) (c2 A ib_sb.rfl)
    have g2 : ib_ag s μ2 := g1.fr f2 ib_r103
    obtain ⟨μ4, e4, g4, b4, c4⟩ := ib_layCan h hD g2 (-9)
    obtain ⟨y, μ5, e5, g5, v5⟩ := ib_timesOf h hA g4 (c4 0 (by omega))
    rw [if_pos c, e1, iv_bnd_some, e2, iv_bnd_some, e3, iv_bnd_some]
    refine ⟨x, μ2, μ5, rfl, ?_, g5⟩
    simp only [iv_let]
    rw [ib_isThings' h g2, iv_bnd_some, ib_iz, if_pos c, e4, iv_bnd_some, e5, iv_bnd_some]
    rcases ib_tm_mv t3 v5 with ⟨q1, q2⟩ | ⟨q1, q2, q3⟩
    · rw [if_neg (by omega), q2]
    · rw [if_pos (by omega), q1]
  · rw [if_neg c]
    refine ⟨_, s, s, rfl, ?_, ib_ag.rfl⟩
    rw [ib_isThings' h ib_ag.rfl, iv_bnd_some, ib_iz, if_neg c]
theorem ib_un_n {lf : Nat → Nat} : ∀ d a, (∀ p, a ≤ p → p < a + d → lf p = 0) → ib_un lf (a + d) = ib_un lf a
  | 0, _, _ => rfl
  | d + 1, a, h => by
    show ib_un lf (a + d) ||| lf (a + d) = _
    rw [ib_un_n d a (fun p h1 h2 => h p h1 (by omega)), h (a + d) (by omega) (by omega), Nat.or_zero]
theorem ib_worth14 (h : ib_inv D s) (hD : D ≤ 60000) {l1 : Int} (k : Int → ivM → Option (Int × ivM)) : ∀ (d p n : Nat) (μ : ivM), p + d = ib_P s → d < n → ib_ag s μ →
    ∃ ν, lp_X10_worth_14 l1 k n (ib_un (ib_lw s (-9)) p : Nat) p μ = k (ib_un (ib_lw s (-9)) (ib_P s) : Nat) ν ∧ ib_ag s ν := by
  have hP := h.P
  intro d
  induction d with
  | zero =>
    intro p n μ hp hn g
    obtain ⟨n, rfl⟩ : ∃ q, n = q + 1 := ⟨n - 1, by omega⟩
    unfold lp_X10_worth_14
    rw [g.f rfl, hP.1, if_pos (by omega), show ib_P s = p by omega]
    exact ⟨μ, rfl, g⟩
  | succ d ih =>
    intro p n μ hp hn g
    obtain ⟨n, rfl⟩ : ∃ q, n = q + 1 := ⟨n - 1, by omega⟩
    obtain ⟨ν, e, g2⟩ := ib_liftsOf h hD (p := p) (by omega) g
    have h1 := ib_un_256 (lf := ib_lw s (-9)) (fun _ => ib_lw_256) p
    have h2 := ib_lw_256 (s := s) (w := -9) (p := p)
    unfold lp_X10_worth_14
    rw [g.f rfl, hP.1, if_neg (by omega), e, iv_bnd_some, ← ib_lw_n (s := s) (w := -9) (p := p) (by omega), iv_or_nat (by omega) (by omega), iv_wr_succ (by omega)]
    exact ih (p + 1) n ν (by omega) (by omega) g2
theorem ib_lf_T {p t : Nat} (hb : ib_lf s p t = true) : t < ib_T s := by
  have hl : ib_lv s t = true := by
    unfold ib_lf ib_cl at hb
    simp only [Bool.and_eq_true] at hb
    exact hb.1.1.2.1
  exact ib_lv_lt hl
theorem ib_lw_bit {w : Int} {p t : Nat} (hb : (ib_lw s w p).testBit t = true) : ib_lf s p t = true ∧ p < ib_P s := by
  unfold ib_lw at hb
  split at hb
  · rename_i c
    rw [ib_set_bit, Bool.and_eq_true] at hb
    exact ⟨hb.2, c.1⟩
  · rw [Nat.zero_testBit] at hb; cases hb
theorem ib_un_T : ib_un (ib_lw s (-9)) 6 < 2 ^ ib_T s := by
  apply Nat.lt_pow_two_of_testBit
  intro i hi
  cases hb : (ib_un (ib_lw s (-9)) 6).testBit i
  · rfl
  · obtain ⟨p, _, hp⟩ := (ib_un_bit 6).mp hb
    have := ib_lf_T (ib_lw_bit hp).1
    omega
theorem iq_worth (h : ib_inv D s) (hD : D ≤ 60000) {p : Int} : ib_q s (f_X9_worth p) (f_X10_worth p) := by
  have hT := ib_T256 h
  have hP := h.P
  unfold ib_q f_X9_worth f_X10_worth
  rw [ib_hasPerson' h ib_ag.rfl, iv_bnd_some, ib_iz]
  by_cases c : 0 ≤ p ∧ p < ib_P s
  · obtain ⟨a, rfl⟩ : ∃ t : Nat, p = t := ⟨p.toNat, by omega⟩
    have hU := ib_un_T (s := s)
    have eU : ib_un (ib_lw s (-9)) 6 = ib_un (ib_lw s (-9)) (ib_P s) := by
      have := ib_un_n (lf := ib_lw s (-9)) (6 - ib_P s) (ib_P s) (fun p h1 h2 => if_neg (fun q => by omega))
      rw [show ib_P s + (6 - ib_P s) = 6 by omega] at this
      exact this
    obtain ⟨μ1, e1, g1, c1⟩ := ib_gather h hD (μ := s) ib_ag.rfl
    have eA := ib_allLifted c1 (fun _ => ib_lw_256)
    have hca := ib_ca_all (lf := ib_lw s (-9)) (be := ib_be s) (z := ib_z s) (ib_be_0 h) (fun p t hp hb => by
      have hb := ib_lw_bit hb
      have h1 := hb.1
      unfold ib_lf at h1
      simp only [Bool.and_eq_true, decide_eq_true_eq] at h1
      unfold ib_be
      rw [if_pos hb.2]; exact h1.2) (ib_un (ib_lw s (-9)) 6) (by omega) ib_sb.rfl
    generalize ib_un (ib_lw s (-9)) 6 = U at *
    obtain ⟨μ2, e2, f2, c2⟩ := ib_pack (A := U) (by omega) c1
    obtain ⟨x, e3, t3⟩ := ib_timesFor (ib_be_0 h) (A := U) (by omega) (c2 U ib_sb.rfl)
    have g2 : ib_ag s μ2 := g1.fr f2 ib_r103
    have cr2 : ib_cr (ib_lw s (a : Int)) (ib_be s) (ib_z s) (iv_upd μ2 100 a 0) := by
      have c0 := c1.fr f2
      refine ⟨fun q hq => ?_, c0.2.1, fun t ht => by rw [iv_upd_na (by omega)]; exact c0.2.2 t ht⟩
      obtain ⟨u1, u2, u3, u4⟩ := c0.1 q hq
      rw [iv_upd_na (a' := 101) (by omega)]
      refine ⟨?_, ib_lw_256, u3, u4⟩
      by_cases e : q = a
      · subst e
        rw [iv_upd_at]
        unfold ib_lw
        rw [if_neg (fun z => z.2 rfl)]; rfl
      · rw [iv_upd_nk e, u1, ib_lw_n (s := s) (w := -9) (by omega), ib_lw_n (s := s) (w := (a : Int)) (by omega)]
    obtain ⟨μ3, e4, f3, c3⟩ := ib_pack (A := U) (by omega) cr2
    obtain ⟨y, e5, t5⟩ := ib_timesFor (ib_be_0 h) (A := U) (by omega) (c3 U ib_sb.rfl)
    have g3 : ib_ag s μ3 := (g2.upd (a := 100) (k := a) (v := 0) (by unfold ib_scr; omega)).fr f3 ib_r103
    obtain ⟨μ4, e6, g4⟩ := ib_worth14 h hD (l1 := (a : Int)) (fun (w9 : Int) (μ12 : ivM) =>
      iv_bnd (f_X10_layCan (-9) μ12) fun _ μ16 =>
      iv_bnd (f_X10_timesOf w9 μ16) fun r18 μ19 =>
      iv_bnd (f_X10_layCan (a : Int) μ19) fun _ μ22 =>
      iv_bnd (f_X10_timesOf w9 μ22) fun r24 μ25 =>
      iv_let (fun (v33 : Int) (μ34 : ivM) =>
        some (v33, μ34)) fun j27 =>
      if r24 ≤ 99 then
        j27 (iv_wr (r24 - r18)) μ25
      else
        j27 99 μ25) (ib_P s) 0 iv_fuel μ3 (by omega) (by unfold iv_fuel; omega) g3
    rw [show ((0 : Nat) : Int) = 0 from rfl, show ((ib_un (ib_lw s (-9)) 0 : Nat) : Int) = 0 from rfl] at e6
    obtain ⟨μ5, e7, g5, _, c5⟩ := ib_layCan h hD g4 (-9)
    obtain ⟨x', μ6, e8, g6, v6⟩ := ib_timesOf h hU g5 (c5 0 (by omega))
    obtain ⟨μ7, e9, g7, _, c7⟩ := ib_layCan h hD g6 (a : Int)
    obtain ⟨y', μ8, e10, g8, v8⟩ := ib_timesOf h hU g7 (c7 0 (by omega))
    have hx : x' = x ∧ 0 ≤ x ∧ x ≤ 8 := by
      rcases ib_tm_mv t3 v6 with ⟨q1, q2⟩ | q
      · exfalso
        rcases t3 with ⟨_, r⟩ | ⟨v, r, _⟩
        · obtain ⟨l, hl⟩ := hca
          exact r _ hl
        · omega
      · exact q
    rw [if_pos c, e1, iv_bnd_some, eA, iv_bnd_some, e2, iv_bnd_some, e3, iv_bnd_some, iv_ck_pos (by omega), Int.toNat_natCast, e4, iv_bnd_some, e5, iv_bnd_some]
    simp only [iv_let]
    refine ⟨if y = -9 then 99 else y - x, μ3, μ8, ?_, ?_, g8⟩
    · by_cases q : y = -9
      · rw [if_pos q, if_pos q]
      · rcases ib_tm_mv t5 v8 with ⟨q1, q2⟩ | ⟨q1, q2, q3⟩
        · exact absurd q2 q
        · rw [if_neg q, if_neg q, iv_wr_id (by omega) (by omega)]
    · rw [ib_isPerson' h g3, iv_bnd_some, ib_iz, if_pos c]
      simp only [iv_let] at e6
      rw [e6, ← eU, e7, iv_bnd_some, e8, iv_bnd_some, e9, iv_bnd_some, e10, iv_bnd_some]
      rcases ib_tm_mv t5 v8 with ⟨q1, q2⟩ | ⟨q1, q2, q3⟩
      · rw [if_neg (by omega), if_pos q2]
      · rw [if_pos (by omega), if_neg (by omega), iv_wr_id (by omega) (by omega), q1, hx.1]
  · rw [if_neg c]
    refine ⟨_, s, s, rfl, ?_, ib_ag.rfl⟩
    rw [ib_isPerson' h ib_ag.rfl, iv_bnd_some, ib_iz, if_neg c]
theorem ib_wayM (h : ib_inv D s) {w : Int} {q : Nat} (hq : q < 6) {μ : ivM} (hB : ∀ q, q < 6 → ib_BT s w q μ (2 ^ ib_T s)) (hC : ∀ q, q ≤ 6 → ib_CT s w q μ (2 ^ ib_T s)) : ∀ (d p n R ld : Nat), p + d = q + 1 → d < n → R < 2 ^ ib_T s → ib_ca (ib_lw s w) (ib_be s) (ib_z s) (6 - p) R →
    ∃ r, ib_way (ib_lw s w) (ib_be s) (ib_z s) d p R ld r ∧ lp_X10_carries_47 q n R ld p μ = some (((r : Nat) : Int), μ) := by
  have hT := ib_T256 h
  intro d
  induction d with
  | zero =>
    intro p n R ld hp hn hR hca
    obtain ⟨n, rfl⟩ : ∃ q, n = q + 1 := ⟨n - 1, by omega⟩
    unfold lp_X10_carries_47
    rw [if_pos (by omega)]
    exact ⟨ld, rfl, rfl⟩
  | succ d ih =>
    intro p n R ld hp hn hR hca
    obtain ⟨n, rfl⟩ : ∃ q, n = q + 1 := ⟨n - 1, by omega⟩
    unfold lp_X10_carries_47
    rw [if_neg (by omega)]
    rcases ib_leastLoadM (lf := ib_lw s w) (be := ib_be s) (z := ib_z s) (p := p) (S := R) (μ := μ) (by omega) (by omega) (fun L hL => hB p (by omega) L (by have := ib_sb_le hL; omega)) (fun L hL => by
      have := hC (p + 1) (by omega) L (by have := ib_sb_le hL; omega)
      rw [show 256 * (p + 1) + L = 256 * p + 256 + L by omega, show 6 - (p + 1) = 5 - p by omega] at this
      exact this) with ⟨x, h1, h2⟩ | ⟨h1, h2⟩
    · have hx := ib_sb_le h1.1.1
      have hnd : iv_nd R x ≤ R := ib_sb_le ib_sb_ndl
      rw [h2, iv_bnd_some, iv_andn (by omega) (by omega), iv_wr_succ (by omega)]
      obtain ⟨r, h3, h4⟩ := ih (p + 1) n (iv_nd R x) x (by omega) (by omega) (by omega) (by rw [show 6 - (p + 1) = 5 - p by omega]; exact h1.1.2.1)
      exact ⟨r, ⟨x, h1, h3⟩, h4⟩
    · obtain ⟨x, hx⟩ := (ib_ca_qq (by omega)).mp hca
      exact absurd hx (h1 x)
theorem iq_carries (h : ib_inv D s) (hD : D ≤ 60000) {p q : Int} : ib_q s (f_X9_carries p q) (f_X10_carries p q) := by
  have hT := ib_T256 h
  have hP := h.P
  unfold ib_q f_X9_carries f_X10_carries
  simp only [iv_let]
  rw [ib_hasPerson' h ib_ag.rfl, iv_bnd_some, ib_iz]
  by_cases c : 0 ≤ p ∧ p < ib_P s
  · rw [if_pos c, ib_areThings' h ib_ag.rfl, iv_bnd_some, ib_iz]
    by_cases c2 : 0 ≤ q ∧ q < ((2 ^ ib_T s : Nat) : Int)
    · obtain ⟨a, rfl⟩ : ∃ t : Nat, p = t := ⟨p.toNat, by omega⟩
      obtain ⟨A, rfl⟩ : ∃ t : Nat, q = t := ⟨q.toNat, by omega⟩
      have hA : A < 2 ^ ib_T s := by omega
      obtain ⟨μ1, e1, g1, c1⟩ := ib_gather h hD (μ := s) ib_ag.rfl
      obtain ⟨μ2, e2, f2, k2⟩ := ib_pack (A := A) (by omega) c1
      obtain ⟨x, e3, t3⟩ := ib_timesFor (ib_be_0 h) (A := A) (by omega) (k2 A ib_sb.rfl)
      have g2 : ib_ag s μ2 := g1.fr f2 ib_r103
      obtain ⟨μ4, e4, g4, b4, c4⟩ := ib_layCan h hD g2 (-9)
      have hcan := c4 0 (by omega) A hA
      rw [show 256 * 0 + A = A by omega] at hcan
      rw [if_pos c2, e1, iv_bnd_some, e2, iv_bnd_some, e3, iv_bnd_some]
      have hM : ∀ r : Int, (if μ4 123 A = 0 then some ((-3 : Int), μ4) else lp_X10_carries_47 a iv_fuel A 0 0 μ4) = some (r, μ4) → (iv_bnd (f_X10_isPerson (a : Int) μ2) fun r1 μ2 => if r1 = 0 then some ((-1 : Int), μ2) else iv_bnd (f_X10_isThings (A : Int) μ2) fun r5 μ6 => if r5 = 0 then some (-2, μ6) else iv_bnd (f_X10_layCan (-9) μ6) fun _ μ10 => iv_ck (0 ≤ (A : Int) ∧ (A : Int) < 1792) (if (μ10 123 (A : Int).toNat) = 0 then some ((-3), μ10) else lp_X10_carries_47 a iv_fuel A 0 0 μ10)) = some (r, μ4) := by
        intro r hr
        rw [ib_isPerson' h g2, iv_bnd_some, ib_iz, if_pos c, ib_isThings' h g2, iv_bnd_some, ib_iz, if_pos c2, e4, iv_bnd_some, iv_ck_pos (by omega), Int.toNat_natCast]
        exact hr
      by_cases hca : ib_ca (ib_lw s (-9)) (ib_be s) (ib_z s) 6 A
      · have hx : x ≠ -9 ∧ x ≤ 1 := by
          rcases t3 with ⟨_, r⟩ | ⟨v, r1, r2, r3⟩
          · exact absurd hca (r 6)
          · have : v ≤ 1 := by
              rcases Nat.lt_or_ge 1 v with d | d
              · exact absurd hca (r3 1 d)
              · exact d
            omega
        rw [if_neg hx.1, if_pos hx.2]
        obtain ⟨r, w1, w2⟩ := ib_firstWay_lp (c1.fr f2) (q := a) (by omega) (a + 1) 0 iv_fuel A 0 (by omega) (by unfold iv_fuel; omega) (by omega) (fun Q hQ => k2 Q hQ) hca
        obtain ⟨r', w3, w4⟩ := ib_wayM h (w := -9) (q := a) (by omega) b4 c4 (a + 1) 0 iv_fuel A 0 (by omega) (by unfold iv_fuel; omega) hA hca
        have := ib_way_uniq w1 w3
        subst this
        rw [show ((0 : Nat) : Int) = 0 from rfl] at w2 w4
        have ew : f_X0_firstWay (a : Int) (A : Int) μ2 = some (((r : Nat) : Int), μ2) := w2
        rw [ew, iv_bnd_some]
        refine ⟨_, μ2, μ4, rfl, hM _ ?_, g4⟩
        rw [if_neg (by rcases hcan with ⟨z, _⟩ | ⟨_, z⟩; omega; exact absurd hca z)]
        exact w4
      · have h0 : μ4 123 A = 0 := by
          rcases hcan with ⟨_, z⟩ | ⟨z, _⟩
          · exact absurd z hca
          · exact z
        have hx : x = -9 ∨ 1 < x := by
          rcases t3 with ⟨r, _⟩ | ⟨v, r1, r2, r3⟩
          · exact Or.inl r
          · right
            rcases Nat.lt_or_ge 1 v with d | d
            · omega
            · exact absurd (ib_ca_le (ib_be_0 h) (by omega) r2) hca
        refine ⟨-3, μ2, μ4, ?_, hM _ (by rw [if_pos h0]), g4⟩
        rcases hx with e | e
        · rw [if_pos e]
        · rw [if_neg (by omega), if_neg (by omega)]
    · rw [if_neg c2]
      refine ⟨_, s, s, rfl, ?_, ib_ag.rfl⟩
      rw [ib_isPerson' h ib_ag.rfl, iv_bnd_some, ib_iz, if_pos c, ib_isThings' h ib_ag.rfl, iv_bnd_some, ib_iz, if_neg c2]
  · rw [if_neg c]
    refine ⟨_, s, s, rfl, ?_, ib_ag.rfl⟩
    rw [ib_isPerson' h ib_ag.rfl, iv_bnd_some, ib_iz, if_neg c]
end IBL
