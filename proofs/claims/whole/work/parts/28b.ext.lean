/-! STEPS: WHAT HOLDS BETWEEN THE CALLS, KEPT -/
/-- both answer alike, and what holds between the calls holds again -/
def ib_st (D : Int) (s : ivM) (F G : ivM → Option (Int × ivM)) : Prop := ∃ r ν κ, F s = some (r, ν) ∧ G ν = some (r, κ) ∧ ib_inv D κ
section IBX
variable {D : Int} {s κ : ivM}
theorem ib_tx_ext (h : ib_tx s) (e3 : ∀ k, κ 3 k = s 3 k) (e4 : ∀ k, κ 4 k = s 4 k) (e120 : ∀ k, κ 120 k = s 120 k) (e17 : κ 110 17 = s 110 17) : ib_tx κ := by
  unfold ib_tx at h ⊢
  simp only [e3, e4, e120, e17]
  exact h
theorem ib_ho_ext (h : ib_ho s) (e9 : ∀ k, κ 9 k = s 9 k) (e10 : ∀ k, κ 10 k = s 10 k) (e119 : ∀ k, κ 119 k = s 119 k) (e12 : κ 110 12 = s 110 12) (e13 : κ 110 13 = s 110 13) (e14 : κ 110 14 = s 110 14) : ib_ho κ := by
  unfold ib_ho at h ⊢
  simp only [e9, e10, e119, e12, e13, e14]
  exact h
theorem ib_so_ext (h : ib_so s) (e105 : ∀ k, κ 105 k = s 105 k) (e106 : ∀ k, κ 106 k = s 106 k) (e107 : ∀ k, κ 107 k = s 107 k) (e126 : ∀ k, κ 126 k = s 126 k) (e127 : ∀ k, κ 127 k = s 127 k) (e26 : κ 110 26 = s 110 26) : ib_so κ := by
  unfold ib_so at h ⊢
  simp only [e105, e106, e107, e126, e127, e26]
  exact h
theorem ib_mm_ext {T P a cS oS cZ cK cW o8 : Nat} {day : Int} (h : ib_mm D T P s a cS oS cZ cK cW o8 day) (e0 : ∀ k, κ a k = s a k) (e1 : ∀ k, κ (a + 1) k = s (a + 1) k) (e2 : ∀ k, κ (a + 2) k = s (a + 2) k) (e3 : ∀ k, κ (a + 3) k = s (a + 3) k)
    (eS : ∀ k, κ cS k = s cS k) (eZ : ∀ k, κ cZ k = s cZ k) (eK : ∀ k, κ cK k = s cK k) (eW : ∀ k, κ cW k = s cW k) : ib_mm D T P κ a cS oS cZ cK cW o8 day := by
  unfold ib_mm ib_m1 at h ⊢
  simp only [e0, e1, e2, e3, eS, eZ, eK, eW]
  exact h
theorem ib_mm_le {D2 : Int} {T P a cS oS cZ cK cW o8 : Nat} {day : Int} (hD : D ≤ D2) (h : ib_mm D T P s a cS oS cZ cK cW o8 day) : ib_mm D2 T P s a cS oS cZ cK cW o8 day :=
  ⟨h.1, h.2.1, Int.le_trans h.2.2.1 hD, h.2.2.2⟩
theorem ib_TP_ext (e13 : κ 110 13 = s 110 13) (e14 : κ 110 14 = s 110 14) : ib_T κ = ib_T s ∧ ib_P κ = ib_P s := by
  unfold ib_T ib_P
  rw [e13, e14]
  exact ⟨rfl, rfl⟩
theorem ib_sl_ext (h : ib_sl D s) (em : ∀ a k, 16 ≤ a → a ≤ 23 → κ a k = s a k) (ek : ∀ a k, 130 ≤ a → κ a k = s a k) (e13 : κ 110 13 = s 110 13) (e14 : κ 110 14 = s 110 14) : ib_sl D κ := by
  obtain ⟨eT, eP⟩ := ib_TP_ext e13 e14
  intro q hq
  obtain ⟨h1, h2, h3⟩ := h q hq
  rw [em _ _ (by omega) (by omega), ek 130 q (by omega), ek 135 q (by omega), eT, eP]
  refine ⟨h1, h2, fun c => ?_⟩
  exact ib_mm_ext (h3 c) (fun k => em _ k (by omega) (by omega)) (fun k => em _ k (by omega) (by omega)) (fun k => em _ k (by omega) (by omega)) (fun k => em _ k (by omega) (by omega)) (fun k => ek _ k (by omega)) (fun k => ek _ k (by omega)) (fun k => ek _ k (by omega)) (fun k => ek _ k (by omega))
theorem ib_sl_le {D2 : Int} (hD : D ≤ D2) (h : ib_sl D s) : ib_sl D2 s := fun q hq => by
  obtain ⟨h1, h2, h3⟩ := h q hq
  exact ⟨h1, h2, fun c => ib_mm_le hD (h3 c)⟩
theorem ib_inv.le {D2 : Int} (h : ib_inv D s) (hD : D ≤ D2) : ib_inv D2 s := ⟨h.1, h.2.1, ib_mm_le hD h.2.2.1, ib_sl_le hD h.2.2.2.1, h.2.2.2.2⟩
/-- all but scratch, and but what a thing's entry in the memory is -/
def ib_me (s κ : ivM) (t : Nat) : Prop := ∀ a k, ¬ ib_scr a k → ¬ ((a = 12 ∨ a = 13 ∨ a = 14 ∨ a = 116 ∨ a = 117 ∨ a = 118) ∧ k = t) → ¬ (a = 115 ∧ 5 * t ≤ k ∧ k < 5 * t + 5) → κ a k = s a k
theorem ib_nscr {a k : Nat} (h : ib_scb a = true) : ¬ ib_scr a k := by
  unfold ib_scb at h
  simp only [Bool.not_eq_true', Bool.or_eq_false_iff, Bool.and_eq_false_iff] at h
  unfold ib_scr
  have e1 : ∀ x y, Nat.ble x y = false → y < x := fun x y e => by
    rcases Nat.lt_or_ge y x with c | c
    · exact c
    · rw [Nat.ble_eq_true_of_le c] at e; cases e
  have e2 : ∀ x y, Nat.beq x y = false → x ≠ y := fun x y e c => by subst c; rw [Nat.beq_refl] at e; cases e
  obtain ⟨⟨⟨⟨⟨⟨⟨⟨h1, h2⟩, h3⟩, h4⟩, h5⟩, h6⟩, h7⟩, h8⟩, h9⟩ := h
  have := e2 _ _ h3
  have := e2 _ _ h4
  have := e2 _ _ h7
  have := e2 _ _ h8
  have := e2 _ _ h9
  have := h1.imp (e1 _ _) (e1 _ _)
  have := h2.imp (e1 _ _) (e1 _ _)
  have := h5.imp (e1 _ _) (e1 _ _)
  have := h6.imp (e1 _ _) (e1 _ _)
  omega
theorem ib_inv_me (h : ib_inv D s) {t : Nat} (ht : t < 8) (e : ib_me s κ t) (hm : ib_m1 (ib_T s) (ib_P s) κ 11 115 0 116 117 118 0 (s 110 15) t) : ib_inv D κ := by
  have c : ∀ a k, ib_scb a = true → ¬ (a = 12 ∨ a = 13 ∨ a = 14 ∨ a = 116 ∨ a = 117 ∨ a = 118) → ¬ a = 115 → κ a k = s a k := fun a k h1 h2 h3 => e a k (ib_nscr h1) (fun q => h2 q.1) (fun q => h3 q.1)
  have f : ∀ k, ¬ (k = 4 ∨ k = 5 ∨ k = 6 ∨ k = 18 ∨ k = 19 ∨ k = 21) → κ 110 k = s 110 k := fun k hk => e 110 k (by unfold ib_scr; omega) (by omega) (by omega)
  have e13 : κ 110 13 = s 110 13 := f 13 (by omega)
  have e14 : κ 110 14 = s 110 14 := f 14 (by omega)
  obtain ⟨eT, eP⟩ := ib_TP_ext e13 e14
  refine ⟨ib_tx_ext h.1 (fun k => c 3 k rfl (by omega) (by omega)) (fun k => c 4 k rfl (by omega) (by omega)) (fun k => c 120 k rfl (by omega) (by omega)) (f 17 (by omega)),
    ib_ho_ext h.2.1 (fun k => c 9 k rfl (by omega) (by omega)) (fun k => c 10 k rfl (by omega) (by omega)) (fun k => c 119 k rfl (by omega) (by omega)) (f 12 (by omega)) e13 e14, ?_,
    ib_sl_ext h.2.2.2.1 (fun a k h1 h2 => e a k (by unfold ib_scr; omega) (by omega) (by omega)) (fun a k h1 => e a k (by unfold ib_scr; omega) (by omega) (by omega)) e13 e14,
    ib_so_ext h.2.2.2.2 (fun k => c 105 k rfl (by omega) (by omega)) (fun k => c 106 k rfl (by omega) (by omega)) (fun k => c 107 k rfl (by omega) (by omega)) (fun k => c 126 k rfl (by omega) (by omega)) (fun k => c 127 k rfl (by omega) (by omega)) (f 26 (by omega))⟩
  obtain ⟨m1, m2, m3, m4⟩ := h.2.2.1
  rw [eT, eP, f 15 (by omega)]
  refine ⟨(c 11 3 rfl (by omega) (by omega)).trans m1, m2, m3, fun o ho => ?_⟩
  by_cases q : o = t
  · subst q; exact hm
  · have ho := m4 o ho
    unfold ib_m1 at ho ⊢
    have r : ∀ a, (a = 12 ∨ a = 13 ∨ a = 14 ∨ a = 116 ∨ a = 117 ∨ a = 118) → κ a o = s a o := fun a ha => e a o (by unfold ib_scr; omega) (by omega) (by omega)
    have e0 : 0 + o = o := Nat.zero_add o
    have es : ∀ i, i < 5 → κ 115 (0 + 5 * o + i) = s 115 (0 + 5 * o + i) := fun i hi => e _ _ (by unfold ib_scr; omega) (by omega) (by omega)
    rw [e0] at ho ⊢
    rw [r 116 (by omega), r 117 (by omega), r 118 (by omega), show 11 + 1 = 12 from rfl, show 11 + 2 = 13 from rfl, show 11 + 3 = 14 from rfl, r 12 (by omega), r 13 (by omega), r 14 (by omega)]
    have hok : ib_ok5 (fun i => κ 115 (0 + 5 * o + i)) (s 116 o).toNat := ⟨ho.1.1, fun i hi => by dsimp only; rw [es i (by have := ho.1.1; omega)]; exact ho.1.2 i hi⟩
    refine ⟨hok, ho.2.1, ho.2.2.1, ?_, ho.2.2.2.2⟩
    rw [(ib_nc_inj hok ho.1).mpr ⟨rfl, fun i hi => es i (by have := ho.1.1; omega)⟩]
    exact ho.2.2.2.1
theorem ib_inv.ag (h : ib_inv D s) (g : ib_ag s κ) : ib_inv D κ := by
  refine ib_inv_me h (t := 0) (by omega) (fun a k h1 _ _ => g a k h1) ?_
  have hm := h.2.2.1.2.2.2 0 (by omega)
  unfold ib_m1 at hm ⊢
  simp only [g.c (a := 115) rfl, g.c (a := 116) rfl, g.c (a := 117) rfl, g.c (a := 118) rfl, g.c (a := 11 + 1) rfl, g.c (a := 11 + 2) rfl, g.c (a := 11 + 3) rfl]
  exact hm
theorem ib_q.st {F G : ivM → Option (Int × ivM)} (h : ib_inv D s) (q : ib_q s F G) : ib_st D s F G := by
  obtain ⟨r, ν, κ, e1, e2, g⟩ := q
  exact ⟨r, ν, κ, e1, e2, h.ag g⟩
/-! wipe, silence, line -/
theorem is_wipe (h : ib_inv D s) : ib_st D s f_X9_wipe f_X10_wipe := by
  obtain ⟨n, t0, t1, t2, t3⟩ := h.1
  unfold ib_st f_X9_wipe f_X10_wipe
  refine ⟨s 3 1, _, iv_upd (iv_upd s 3 1 0) 110 17 0, rfl, by rw [iv_upd_na (by omega), t1, t2], ?_⟩
  have c : ∀ a k, ¬ (a = 3 ∧ k = 1) → ¬ (a = 110 ∧ k = 17) → iv_upd (iv_upd s 3 1 0) 110 17 0 a k = s a k := fun a k h1 h2 => by
    unfold iv_upd
    rw [if_neg h2, if_neg h1]
  refine ⟨⟨0, by omega, by rw [iv_upd_na (by omega), iv_upd_at]; rfl, iv_upd_at, fun k hk => by omega⟩, ib_ho_ext h.2.1 (fun k => c _ _ (by omega) (by omega)) (fun k => c _ _ (by omega) (by omega)) (fun k => c _ _ (by omega) (by omega)) (c _ _ (by omega) (by omega)) (c _ _ (by omega) (by omega)) (c _ _ (by omega) (by omega)), ?_,
    ib_sl_ext h.2.2.2.1 (fun a k h1 h2 => c _ _ (by omega) (by omega)) (fun a k h1 => c _ _ (by omega) (by omega)) (c _ _ (by omega) (by omega)) (c _ _ (by omega) (by omega)),
    ib_so_ext h.2.2.2.2 (fun k => c _ _ (by omega) (by omega)) (fun k => c _ _ (by omega) (by omega)) (fun k => c _ _ (by omega) (by omega)) (fun k => c _ _ (by omega) (by omega)) (fun k => c _ _ (by omega) (by omega)) (c _ _ (by omega) (by omega))⟩
  obtain ⟨eT, eP⟩ := ib_TP_ext (c 110 13 (by omega) (by omega)) (c 110 14 (by omega) (by omega))
  rw [eT, eP, c 110 15 (by omega) (by omega)]
  exact ib_mm_ext h.2.2.1 (fun k => c _ _ (by omega) (by omega)) (fun k => c _ _ (by omega) (by omega)) (fun k => c _ _ (by omega) (by omega)) (fun k => c _ _ (by omega) (by omega)) (fun k => c _ _ (by omega) (by omega)) (fun k => c _ _ (by omega) (by omega)) (fun k => c _ _ (by omega) (by omega)) (fun k => c _ _ (by omega) (by omega))
/-- all but the songs is as it was -/
theorem ib_inv_so (h : ib_inv D s) (c : ∀ a k, ¬ (105 ≤ a ∧ a ≤ 107) → ¬ (a = 126 ∨ a = 127) → ¬ (a = 110 ∧ k = 26) → κ a k = s a k) (hs : ib_so κ) : ib_inv D κ := by
  refine ⟨ib_tx_ext h.1 (fun k => c _ _ (by omega) (by omega) (by omega)) (fun k => c _ _ (by omega) (by omega) (by omega)) (fun k => c _ _ (by omega) (by omega) (by omega)) (c _ _ (by omega) (by omega) (by omega)),
    ib_ho_ext h.2.1 (fun k => c _ _ (by omega) (by omega) (by omega)) (fun k => c _ _ (by omega) (by omega) (by omega)) (fun k => c _ _ (by omega) (by omega) (by omega)) (c _ _ (by omega) (by omega) (by omega)) (c _ _ (by omega) (by omega) (by omega)) (c _ _ (by omega) (by omega) (by omega)), ?_,
    ib_sl_ext h.2.2.2.1 (fun a k h1 h2 => c _ _ (by omega) (by omega) (by omega)) (fun a k h1 => c _ _ (by omega) (by omega) (by omega)) (c _ _ (by omega) (by omega) (by omega)) (c _ _ (by omega) (by omega) (by omega)), hs⟩
  obtain ⟨eT, eP⟩ := ib_TP_ext (c 110 13 (by omega) (by omega) (by omega)) (c 110 14 (by omega) (by omega) (by omega))
  rw [eT, eP, c 110 15 (by omega) (by omega) (by omega)]
  exact ib_mm_ext h.2.2.1 (fun k => c _ _ (by omega) (by omega) (by omega)) (fun k => c _ _ (by omega) (by omega) (by omega)) (fun k => c _ _ (by omega) (by omega) (by omega)) (fun k => c _ _ (by omega) (by omega) (by omega)) (fun k => c _ _ (by omega) (by omega) (by omega)) (fun k => c _ _ (by omega) (by omega) (by omega)) (fun k => c _ _ (by omega) (by omega) (by omega)) (fun k => c _ _ (by omega) (by omega) (by omega))
theorem is_silence (h : ib_inv D s) : ib_st D s f_X9_silence f_X10_silence := by
  have so := h.2.2.2.2
  unfold ib_st f_X9_silence f_X10_silence
  refine ⟨s 105 0, _, iv_upd (iv_upd s 105 0 0) 110 26 0, rfl, by rw [iv_upd_na (by omega), so.2.2.1], ib_inv_so h (fun a k h1 h2 h3 => by
    unfold iv_upd
    rw [if_neg (by omega), if_neg (by omega)]) ⟨by rw [iv_upd_at]; omega, by rw [iv_upd_at]; omega, by rw [iv_upd_na (by omega), iv_upd_at, iv_upd_at], fun i hi => by rw [iv_upd_at] at hi; omega⟩⟩
theorem is_line (h : ib_inv D s) {p q : Int} : ib_st D s (f_X9_line p q) (f_X10_line p q) := by
  have so := h.2.2.2.2
  obtain ⟨s1, s2, s3, s4⟩ := so
  have stay : ∀ r, f_X9_line p q s = some (r, s) → f_X10_line p q s = some (r, s) → ib_st D s (f_X9_line p q) (f_X10_line p q) := fun r a b => ⟨r, s, s, a, b, h⟩
  by_cases c : 0 ≤ p ∧ p < 8 ∧ 1 ≤ q ∧ q < 256
  · by_cases cf : s 110 26 < 16
    · obtain ⟨m, hm⟩ : ∃ m : Nat, s 110 26 = m := ⟨(s 110 26).toNat, by omega⟩
      have ex : f_X9_line p q s = some (((m + 1 : Nat) : Int), iv_upd (iv_upd (iv_upd s 106 m p) 107 m q) 105 0 ((m + 1 : Nat) : Int)) := by
        unfold f_X9_line f_X6_sing
        simp only [iv_let]
        rw [if_neg (by omega), if_neg (by omega), if_neg (by omega), if_pos (by omega), s3, hm, if_pos (by omega), if_neg (by omega), if_neg (by omega), iv_ck_pos (by omega), Int.toNat_natCast, iv_upd_na (a := 106) (a' := 105) (by omega), s3, hm, iv_ck_pos (by omega), Int.toNat_natCast, iv_upd_na (a := 107) (a' := 105) (by omega), iv_upd_na (a := 106) (a' := 105) (by omega), s3, hm, iv_wr_succ (by omega), iv_bnd_some, iv_upd_at]
      refine ⟨((m + 1 : Nat) : Int), _, iv_upd (iv_upd (iv_upd (iv_upd (iv_upd (iv_upd s 106 m p) 107 m q) 105 0 ((m + 1 : Nat) : Int)) 126 m p) 127 m q) 110 26 ((m + 1 : Nat) : Int), ex, ?_, ib_inv_so h (fun a k h1 h2 h3 => by
        unfold iv_upd
        rw [if_neg (by omega), if_neg (by omega), if_neg (by omega), if_neg (by omega), if_neg (by omega), if_neg (by omega)]) ?_⟩
      · have e26 : iv_upd (iv_upd (iv_upd s 106 m p) 107 m q) 105 0 ((m + 1 : Nat) : Int) 110 26 = m := by
          rw [iv_upd_na (by omega), iv_upd_na (by omega), iv_upd_na (by omega), hm]
        unfold f_X10_line
        simp only [iv_let]
        rw [ib_in, iv_bnd_some, ib_iz, if_pos (by omega), ib_in, iv_bnd_some, ib_iz, if_pos (by omega), e26, if_neg (by omega), iv_ck_pos (by omega), Int.toNat_natCast, iv_upd_na (a := 126) (a' := 110) (by omega), e26, iv_ck_pos (by omega), Int.toNat_natCast, iv_upd_na (a := 127) (a' := 110) (by omega), iv_upd_na (a := 126) (a' := 110) (by omega), e26, iv_wr_succ (by omega), iv_upd_at]
      · refine ⟨by rw [iv_upd_at]; omega, by rw [iv_upd_at]; omega, by rw [iv_upd_na (by omega), iv_upd_na (by omega), iv_upd_na (by omega), iv_upd_at, iv_upd_at], fun i hi => ?_⟩
        rw [iv_upd_at] at hi
        by_cases e : i = m
        · subst e
          have e106 : iv_upd (iv_upd (iv_upd (iv_upd (iv_upd (iv_upd s 106 i p) 107 i q) 105 0 ((i + 1 : Nat) : Int)) 126 i p) 127 i q) 110 26 ((i + 1 : Nat) : Int) 106 i = p := by
            rw [iv_upd_na (by omega), iv_upd_na (by omega), iv_upd_na (by omega), iv_upd_na (by omega), iv_upd_na (by omega), iv_upd_at]
          have e107 : iv_upd (iv_upd (iv_upd (iv_upd (iv_upd (iv_upd s 106 i p) 107 i q) 105 0 ((i + 1 : Nat) : Int)) 126 i p) 127 i q) 110 26 ((i + 1 : Nat) : Int) 107 i = q := by
            rw [iv_upd_na (by omega), iv_upd_na (by omega), iv_upd_na (by omega), iv_upd_na (by omega), iv_upd_at]
          have e126 : iv_upd (iv_upd (iv_upd (iv_upd (iv_upd (iv_upd s 106 i p) 107 i q) 105 0 ((i + 1 : Nat) : Int)) 126 i p) 127 i q) 110 26 ((i + 1 : Nat) : Int) 126 i = p := by
            rw [iv_upd_na (by omega), iv_upd_na (by omega), iv_upd_at]
          have e127 : iv_upd (iv_upd (iv_upd (iv_upd (iv_upd (iv_upd s 106 i p) 107 i q) 105 0 ((i + 1 : Nat) : Int)) 126 i p) 127 i q) 110 26 ((i + 1 : Nat) : Int) 127 i = q := by
            rw [iv_upd_na (by omega), iv_upd_at]
          rw [e106, e107, e126, e127]
          exact ⟨rfl, rfl, by omega, by omega, by omega, by omega⟩
        · have key : ∀ a, (a = 106 ∨ a = 107 ∨ a = 126 ∨ a = 127) → iv_upd (iv_upd (iv_upd (iv_upd (iv_upd (iv_upd s 106 m p) 107 m q) 105 0 ((m + 1 : Nat) : Int)) 126 m p) 127 m q) 110 26 ((m + 1 : Nat) : Int) a i = s a i := fun a ha => by
            unfold iv_upd
            rw [if_neg (by omega), if_neg (by omega), if_neg (by omega), if_neg (by omega), if_neg (by omega), if_neg (by omega)]
          rw [key 106 (by omega), key 107 (by omega), key 126 (by omega), key 127 (by omega)]
          exact s4 i (by omega)
    · refine stay (-4) ?_ ?_
      · unfold f_X9_line
        simp only [iv_let]
        rw [if_neg (by omega), if_neg (by omega), if_neg (by omega), if_pos (by omega), s3, if_neg cf]
      · unfold f_X10_line
        simp only [iv_let]
        rw [ib_in, iv_bnd_some, ib_iz, if_pos (by omega), ib_in, iv_bnd_some, ib_iz, if_pos (by omega), if_pos (by omega)]
  · refine stay (-2) ?_ ?_
    · unfold f_X9_line
      simp only [iv_let]
      by_cases c1 : p < 0
      · rw [if_pos c1]
      · rw [if_neg c1]
        by_cases c2 : 8 ≤ p
        · rw [if_pos c2]
        · rw [if_neg c2]
          by_cases c3 : q < 1
          · rw [if_pos c3]
          · rw [if_neg c3, if_neg (by omega)]
    · unfold f_X10_line
      simp only [iv_let]
      rw [ib_in, iv_bnd_some, ib_iz]
      by_cases c1 : 0 ≤ p ∧ p ≤ 7
      · rw [if_pos c1, ib_in, iv_bnd_some, ib_iz, if_neg (by omega)]
      · rw [if_neg c1]
/-! said, given -/
theorem ib_me_put (h : ib_inv D s) {t : Nat} (ht : t < ib_T s) {K : Nat} (hK : K < 2 ^ ib_P s) (hκ : ∀ a k, κ a k = iv_upd (iv_upd (iv_upd (iv_upd s 13 t (s 110 15)) 14 t (K : Nat)) 118 t (s 110 15)) 117 t (K : Nat) a k) : ib_inv D κ := by
  have hT := h.T
  have hm := h.m (t := t) (by omega)
  have hY := h.Y
  have c : ∀ a k, ¬ ((a = 13 ∨ a = 14 ∨ a = 117 ∨ a = 118) ∧ k = t) → κ a k = s a k := fun a k h1 => by
    rw [hκ]
    unfold iv_upd
    rw [if_neg (by omega), if_neg (by omega), if_neg (by omega), if_neg (by omega)]
  refine ib_inv_me h (t := t) (by omega) (fun a k _ h2 _ => c a k (by omega)) ?_
  have e13 : κ 13 t = s 110 15 := by rw [hκ, iv_upd_na (by omega), iv_upd_na (by omega), iv_upd_na (by omega), iv_upd_at]
  have e14 : κ 14 t = (K : Nat) := by rw [hκ, iv_upd_na (by omega), iv_upd_na (by omega), iv_upd_at]
  have e118 : κ 118 t = s 110 15 := by rw [hκ, iv_upd_na (by omega), iv_upd_at]
  have e117 : κ 117 t = (K : Nat) := by rw [hκ, iv_upd_at]
  have e116 : κ 116 t = s 116 t := c _ _ (by omega)
  have e12 : κ 12 t = s 12 t := c _ _ (by omega)
  have es : ∀ k, κ 115 k = s 115 k := fun k => c _ _ (by omega)
  have hm1 := h.2.2.1.2.2.2 t (by omega)
  unfold ib_m1 at hm1 ⊢
  simp only [Nat.zero_add, es, show 11 + 1 = 12 from rfl, show 11 + 2 = 13 from rfl, show 11 + 3 = 14 from rfl] at hm1 ⊢
  rw [e13, e14, e118, e117, e116, e12]
  obtain ⟨a1, a2, a3, a4, -⟩ := hm1
  refine ⟨a1, a2, a3, a4, rfl, by omega, by omega, rfl, by omega, by exact_mod_cast hK, fun q => ?_⟩
  omega
theorem is_say (h : ib_inv D s) {p q r : Int} : ib_st D s (f_X9_say p q r) (f_X10_say p q r) := by
  have hT := h.T
  have hP := h.P
  have stay : ∀ x, f_X9_say p q r s = some (x, s) → f_X10_say p q r s = some (x, s) → ib_st D s (f_X9_say p q r) (f_X10_say p q r) := fun x a b => ⟨x, s, s, a, b, h⟩
  have g := ib_ag.rfl (s := s)
  have hpp : 2 ^ ib_P s ≤ 64 := Nat.pow_le_pow_right (n := 2) (j := 6) (by omega) (by omega)
  have ein : ∀ μ : ivM, μ 110 14 = s 110 14 → f_X10_in r 0 (iv_wr ((iv_shl 1 (μ 110 14)) - 1)) μ = some (if 0 ≤ r ∧ r < ((2 ^ ib_P s : Nat) : Int) then 1 else 0, μ) := by
    intro μ e
    rw [e, hP.1, ib_shl1 (by omega)]
    generalize (2 : Nat) ^ ib_P s = Q at *
    rw [iv_wr_id (by omega) (by omega), ib_in]
    by_cases c : 0 ≤ r ∧ r < (Q : Int)
    · rw [if_pos c, if_pos (by omega)]
    · rw [if_neg c, if_neg (by omega)]
  by_cases c1 : 0 ≤ p ∧ p < ib_P s
  · by_cases c2 : 0 ≤ q ∧ q < ib_T s
    · by_cases c3 : 0 ≤ r ∧ r < ((2 ^ ib_P s : Nat) : Int)
      · obtain ⟨a, rfl⟩ : ∃ a : Nat, p = a := ⟨p.toNat, by omega⟩
        obtain ⟨t, rfl⟩ : ∃ a : Nat, q = a := ⟨q.toNat, by omega⟩
        obtain ⟨H, rfl⟩ : ∃ a : Nat, r = a := ⟨r.toNat, by omega⟩
        have hm := h.m (t := t) (by omega)
        have hkn : ib_kn s t < 2 ^ ib_P s := hm.2.2.2.2.2.2.2.2.2.1
        by_cases c4 : (ib_kn s t).testBit a = true
        · have hor : ib_kn s t ||| H < 2 ^ ib_P s := Nat.or_lt_two_pow hkn (by omega)
          have e1 : f_X9_say a t H s = some (((ib_kn s t ||| H : Nat) : Int), iv_upd (iv_upd s 13 t (s 110 15)) 14 t ((ib_kn s t ||| H : Nat) : Int)) := by
            unfold f_X9_say
            simp only [iv_let, Int.toNat_natCast]
            rw [ib_hasPerson' h g, iv_bnd_some, ib_iz, if_pos c1, ib_hasThing' h g, iv_bnd_some, ib_iz, if_pos c2, ib_arePeople' h g, iv_bnd_some, ib_iz, if_pos c3, iv_ck_pos (by omega), hm.2.2.2.2.2.2.2.1, ib_has (by omega) (by omega), iv_bnd_some, ib_iz, if_pos c4, iv_ck_pos (by omega), iv_ck_pos (by omega), iv_ck_pos (by omega), iv_ck_pos (by omega), iv_upd_na (a := 13) (a' := 14) (by omega), hm.2.2.2.2.2.2.2.1, iv_or_nat (by omega) (by omega), iv_upd_at, h.Y.1]
          refine ⟨_, _, iv_upd (iv_upd (iv_upd (iv_upd s 13 t (s 110 15)) 14 t ((ib_kn s t ||| H : Nat) : Int)) 118 t (s 110 15)) 117 t ((ib_kn s t ||| H : Nat) : Int), e1, ?_, ib_me_put h (t := t) (by omega) hor (fun _ _ => rfl)⟩
          have f : ∀ x k, x ≠ 13 → x ≠ 14 → iv_upd (iv_upd s 13 t (s 110 15)) 14 t ((ib_kn s t ||| H : Nat) : Int) x k = s x k := fun x k h1 h2 => by rw [iv_upd_na h2, iv_upd_na h1]
          have hF1 := f 110 13 (by omega) (by omega)
          have hF2 := f 110 14 (by omega) (by omega)
          unfold f_X10_say
          simp only [iv_let, Int.toNat_natCast]
          rw [ib_isPerson (T := ib_P s) (by omega) (hF2.trans hP.1), iv_bnd_some, ib_iz, if_pos c1, ib_isThing (T := ib_T s) (by omega) (hF1.trans hT.1), iv_bnd_some, ib_iz, if_pos c2, ein _ hF2, iv_bnd_some, ib_iz, if_pos c3]
          have eK : f_X10_isKnown a t (iv_upd (iv_upd s 13 t (s 110 15)) 14 t ((ib_kn s t ||| H : Nat) : Int)) = some (1, iv_upd (iv_upd s 13 t (s 110 15)) 14 t ((ib_kn s t ||| H : Nat) : Int)) := by
            simp only [f_X10_isKnown, iv_let, Int.toNat_natCast]
            rw [iv_ck_pos (by omega), f 117 t (by omega) (by omega), hm.2.2.2.2.2.2.2.2.1, iv_bit (by omega) (by omega), c4, if_pos rfl]
            rfl
          rw [eK, iv_bnd_some, if_neg (by decide), iv_ck_pos (by omega), iv_ck_pos (by omega), iv_ck_pos (by omega), iv_ck_pos (by omega), iv_upd_na (a := 118) (a' := 117) (by omega), f 117 t (by omega) (by omega), hm.2.2.2.2.2.2.2.2.1, iv_or_nat (by omega) (by omega), iv_upd_at, f 110 15 (by omega) (by omega)]
        · refine stay (-3) ?_ ?_
          · unfold f_X9_say
            simp only [iv_let, Int.toNat_natCast]
            rw [ib_hasPerson' h g, iv_bnd_some, ib_iz, if_pos c1, ib_hasThing' h g, iv_bnd_some, ib_iz, if_pos c2, ib_arePeople' h g, iv_bnd_some, ib_iz, if_pos c3, iv_ck_pos (by omega), hm.2.2.2.2.2.2.2.1, ib_has (by omega) (by omega), iv_bnd_some, ib_iz, if_neg c4]
          · unfold f_X10_say
            simp only [iv_let, Int.toNat_natCast]
            rw [ib_isPerson' h g, iv_bnd_some, ib_iz, if_pos c1, ib_isThing' h g, iv_bnd_some, ib_iz, if_pos c2, ein s rfl, iv_bnd_some, ib_iz, if_pos c3, ib_isKnown h (by omega) (by omega) g, iv_bnd_some, ib_iz, if_neg c4]
      · refine stay (-2) ?_ ?_
        · unfold f_X9_say
          simp only [iv_let]
          rw [ib_hasPerson' h g, iv_bnd_some, ib_iz, if_pos c1, ib_hasThing' h g, iv_bnd_some, ib_iz, if_pos c2, ib_arePeople' h g, iv_bnd_some, ib_iz, if_neg c3]
        · unfold f_X10_say
          simp only [iv_let]
          rw [ib_isPerson' h g, iv_bnd_some, ib_iz, if_pos c1, ib_isThing' h g, iv_bnd_some, ib_iz, if_pos c2, ein s rfl, iv_bnd_some, ib_iz, if_neg c3]
    · refine stay (-1) ?_ ?_
      · unfold f_X9_say
        simp only [iv_let]
        rw [ib_hasPerson' h g, iv_bnd_some, ib_iz, if_pos c1, ib_hasThing' h g, iv_bnd_some, ib_iz, if_neg c2]
      · unfold f_X10_say
        simp only [iv_let]
        rw [ib_isPerson' h g, iv_bnd_some, ib_iz, if_pos c1, ib_isThing' h g, iv_bnd_some, ib_iz, if_neg c2]
  · refine stay (-1) ?_ ?_
    · unfold f_X9_say
      simp only [iv_let]
      rw [ib_hasPerson' h g, iv_bnd_some, ib_iz, if_neg c1]
    · unfold f_X10_say
      simp only [iv_let]
      rw [ib_isPerson' h g, iv_bnd_some, ib_iz, if_neg c1]
theorem is_give (h : ib_inv D s) {p o q : Int} : ib_st D s (f_X9_give p o q) (f_X10_give p o q) := by
  have hT := h.T
  have hP := h.P
  have stay : ∀ x, f_X9_give p o q s = some (x, s) → f_X10_give p o q s = some (x, s) → ib_st D s (f_X9_give p o q) (f_X10_give p o q) := fun x a b => ⟨x, s, s, a, b, h⟩
  have g := ib_ag.rfl (s := s)
  have hpp : 2 ^ ib_P s ≤ 64 := Nat.pow_le_pow_right (n := 2) (j := 6) (by omega) (by omega)
  by_cases c1 : 0 ≤ p ∧ p < ib_P s
  · by_cases c2 : 0 ≤ o ∧ o < ib_P s
    · by_cases c3 : 0 ≤ q ∧ q < ib_T s
      · obtain ⟨a, rfl⟩ : ∃ a : Nat, p = a := ⟨p.toNat, by omega⟩
        obtain ⟨b, rfl⟩ : ∃ a : Nat, o = a := ⟨o.toNat, by omega⟩
        obtain ⟨t, rfl⟩ : ∃ a : Nat, q = a := ⟨q.toNat, by omega⟩
        have hm := h.m (t := t) (by omega)
        have hkn : ib_kn s t < 2 ^ ib_P s := hm.2.2.2.2.2.2.2.2.2.1
        by_cases c4 : a = b
        · refine stay (-3) ?_ ?_
          · unfold f_X9_give
            simp only [iv_let]
            rw [ib_hasPerson' h g, iv_bnd_some, ib_iz, if_pos c1, ib_hasPerson' h g, iv_bnd_some, ib_iz, if_pos c2, ib_hasThing' h g, iv_bnd_some, ib_iz, if_pos c3, if_pos (by omega)]
          · unfold f_X10_give
            simp only [iv_let]
            rw [ib_isPerson' h g, iv_bnd_some, ib_iz, if_pos c1, ib_isPerson' h g, iv_bnd_some, ib_iz, if_pos c2, ib_isThing' h g, iv_bnd_some, ib_iz, if_pos c3, if_pos (by omega)]
        · by_cases c5 : (ib_kn s t).testBit a = true
          · have hb1 : 1 <<< b < 2 ^ ib_P s := by rw [Nat.one_shiftLeft]; exact Nat.pow_lt_pow_right (by omega) (by omega)
            have ha1 : 2 ^ a < 2 ^ ib_P s := Nat.pow_lt_pow_right (by omega) (by omega)
            have hor : ib_kn s t ||| 1 <<< b < 2 ^ ib_P s := Nat.or_lt_two_pow hkn hb1
            have hnd : iv_nd (ib_kn s t ||| 1 <<< b) (2 ^ a) < 2 ^ ib_P s := iv_nd_lt hor
            have eo : iv_or ((ib_kn s t : Nat) : Int) (iv_shl 1 ((b : Nat) : Int)) = ((ib_kn s t ||| 1 <<< b : Nat) : Int) := ib_orb (by omega) (by omega)
            have ea : iv_and ((ib_kn s t ||| 1 <<< b : Nat) : Int) (iv_xor (iv_shl 1 ((a : Nat) : Int)) (-1)) = ((iv_nd (ib_kn s t ||| 1 <<< b) (2 ^ a) : Nat) : Int) := by
              rw [ib_shl1 (by omega), iv_andn (by omega) (by omega)]
            generalize iv_nd (ib_kn s t ||| 1 <<< b) (2 ^ a) = K at *
            have e1 : f_X9_give a b t s = some (((K : Nat) : Int), iv_upd (iv_upd s 13 t (s 110 15)) 14 t ((K : Nat) : Int)) := by
              unfold f_X9_give
              simp only [iv_let, Int.toNat_natCast]
              rw [ib_hasPerson' h g, iv_bnd_some, ib_iz, if_pos c1, ib_hasPerson' h g, iv_bnd_some, ib_iz, if_pos c2, ib_hasThing' h g, iv_bnd_some, ib_iz, if_pos c3, if_neg (by omega), iv_ck_pos (by omega), hm.2.2.2.2.2.2.2.1, ib_has (by omega) (by omega), iv_bnd_some, ib_iz, if_pos c5, iv_ck_pos (by omega), iv_ck_pos (by omega), iv_ck_pos (by omega), iv_ck_pos (by omega), iv_upd_na (a := 13) (a' := 14) (by omega), hm.2.2.2.2.2.2.2.1, eo, ea, iv_upd_at, h.Y.1]
            refine ⟨_, _, iv_upd (iv_upd (iv_upd (iv_upd s 13 t (s 110 15)) 14 t ((K : Nat) : Int)) 118 t (s 110 15)) 117 t ((K : Nat) : Int), e1, ?_, ib_me_put h (t := t) (by omega) hnd (fun _ _ => rfl)⟩
            have f : ∀ x k, x ≠ 13 → x ≠ 14 → iv_upd (iv_upd s 13 t (s 110 15)) 14 t ((K : Nat) : Int) x k = s x k := fun x k h1 h2 => by rw [iv_upd_na h2, iv_upd_na h1]
            have hF1 := f 110 13 (by omega) (by omega)
            have hF2 := f 110 14 (by omega) (by omega)
            unfold f_X10_give
            simp only [iv_let, Int.toNat_natCast]
            rw [ib_isPerson (T := ib_P s) (by omega) (hF2.trans hP.1), iv_bnd_some, ib_iz, if_pos c1, ib_isPerson (T := ib_P s) (by omega) (hF2.trans hP.1), iv_bnd_some, ib_iz, if_pos c2, ib_isThing (T := ib_T s) (by omega) (hF1.trans hT.1), iv_bnd_some, ib_iz, if_pos c3, if_neg (by omega)]
            have eK : f_X10_isKnown a t (iv_upd (iv_upd s 13 t (s 110 15)) 14 t ((K : Nat) : Int)) = some (1, iv_upd (iv_upd s 13 t (s 110 15)) 14 t ((K : Nat) : Int)) := by
              simp only [f_X10_isKnown, iv_let, Int.toNat_natCast]
              rw [iv_ck_pos (by omega), f 117 t (by omega) (by omega), hm.2.2.2.2.2.2.2.2.1, iv_bit (by omega) (by omega), c5, if_pos rfl]
              rfl
            rw [eK, iv_bnd_some, if_neg (by decide), iv_ck_pos (by omega), iv_ck_pos (by omega), iv_ck_pos (by omega), iv_ck_pos (by omega), iv_upd_na (a := 118) (a' := 117) (by omega), f 117 t (by omega) (by omega), hm.2.2.2.2.2.2.2.2.1, eo, ea, iv_upd_at, f 110 15 (by omega) (by omega)]
          · refine stay (-3) ?_ ?_
            · unfold f_X9_give
              simp only [iv_let, Int.toNat_natCast]
              rw [ib_hasPerson' h g, iv_bnd_some, ib_iz, if_pos c1, ib_hasPerson' h g, iv_bnd_some, ib_iz, if_pos c2, ib_hasThing' h g, iv_bnd_some, ib_iz, if_pos c3, if_neg (by omega), iv_ck_pos (by omega), hm.2.2.2.2.2.2.2.1, ib_has (by omega) (by omega), iv_bnd_some, ib_iz, if_neg c5]
            · unfold f_X10_give
              simp only [iv_let, Int.toNat_natCast]
              rw [ib_isPerson' h g, iv_bnd_some, ib_iz, if_pos c1, ib_isPerson' h g, iv_bnd_some, ib_iz, if_pos c2, ib_isThing' h g, iv_bnd_some, ib_iz, if_pos c3, if_neg (by omega), ib_isKnown h (by omega) (by omega) g, iv_bnd_some, ib_iz, if_neg c5]
      · refine stay (-1) ?_ ?_
        · unfold f_X9_give
          simp only [iv_let]
          rw [ib_hasPerson' h g, iv_bnd_some, ib_iz, if_pos c1, ib_hasPerson' h g, iv_bnd_some, ib_iz, if_pos c2, ib_hasThing' h g, iv_bnd_some, ib_iz, if_neg c3]
        · unfold f_X10_give
          simp only [iv_let]
          rw [ib_isPerson' h g, iv_bnd_some, ib_iz, if_pos c1, ib_isPerson' h g, iv_bnd_some, ib_iz, if_pos c2, ib_isThing' h g, iv_bnd_some, ib_iz, if_neg c3]
    · refine stay (-1) ?_ ?_
      · unfold f_X9_give
        simp only [iv_let]
        rw [ib_hasPerson' h g, iv_bnd_some, ib_iz, if_pos c1, ib_hasPerson' h g, iv_bnd_some, ib_iz, if_neg c2]
      · unfold f_X10_give
        simp only [iv_let]
        rw [ib_isPerson' h g, iv_bnd_some, ib_iz, if_pos c1, ib_isPerson' h g, iv_bnd_some, ib_iz, if_neg c2]
  · refine stay (-1) ?_ ?_
    · unfold f_X9_give
      simp only [iv_let]
      rw [ib_hasPerson' h g, iv_bnd_some, ib_iz, if_neg c1]
    · unfold f_X10_give
      simp only [iv_let]
      rw [ib_isPerson' h g, iv_bnd_some, ib_iz, if_neg c1]
end IBX
