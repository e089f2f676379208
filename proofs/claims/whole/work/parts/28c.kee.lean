/-! STEPS: DAYS, KEPT, GONE ON FROM -/
section IBX
variable {D : Int} {s : ivM}
theorem ib_m1_cp {κ : ivM} {T P a cS oS cZ cK cW o8 a' cS' oS' cZ' cK' cW' o8' t : Nat} {day : Int} (h : ib_m1 T P s a cS oS cZ cK cW o8 day t) (e1 : κ (a' + 1) t = s (a + 1) t) (e2 : κ (a' + 2) t = s (a + 2) t) (e3 : κ (a' + 3) t = s (a + 3) t)
    (eS : ∀ i, i < 5 → κ cS' (oS' + 5 * t + i) = s cS (oS + 5 * t + i)) (eZ : κ cZ' (o8' + t) = s cZ (o8 + t)) (eK : κ cK' (o8' + t) = s cK (o8 + t)) (eW : κ cW' (o8' + t) = s cW (o8 + t)) : ib_m1 T P κ a' cS' oS' cZ' cK' cW' o8' day t := by
  unfold ib_m1 at h ⊢
  rw [e1, e2, e3, eZ, eK, eW]
  have hok : ib_ok5 (fun i => κ cS' (oS' + 5 * t + i)) (s cZ (o8 + t)).toNat := ⟨h.1.1, fun i hi => by dsimp only; rw [eS i (by have := h.1.1; omega)]; exact h.1.2 i hi⟩
  refine ⟨hok, h.2.1, h.2.2.1, ?_, h.2.2.2.2⟩
  rw [(ib_nc_inj hok h.1).mpr ⟨rfl, fun i hi => eS i (by have := h.1.1; omega)⟩]
  exact h.2.2.2.1
theorem ib_mm_cp {κ : ivM} {T P a cS oS cZ cK cW o8 a' cS' oS' cZ' cK' cW' o8' : Nat} {day day' : Int} (h : ib_mm D T P s a cS oS cZ cK cW o8 day) (ed : day' = day) (e0 : κ a' 3 = s a 3) (e1 : ∀ t, t < 8 → κ (a' + 1) t = s (a + 1) t) (e2 : ∀ t, t < 8 → κ (a' + 2) t = s (a + 2) t) (e3 : ∀ t, t < 8 → κ (a' + 3) t = s (a + 3) t)
    (eS : ∀ i, i < 40 → κ cS' (oS' + i) = s cS (oS + i)) (eZ : ∀ t, t < 8 → κ cZ' (o8' + t) = s cZ (o8 + t)) (eK : ∀ t, t < 8 → κ cK' (o8' + t) = s cK (o8 + t)) (eW : ∀ t, t < 8 → κ cW' (o8' + t) = s cW (o8 + t)) : ib_mm D T P κ a' cS' oS' cZ' cK' cW' o8' day' := by
  subst ed
  obtain ⟨h1, h2, h3, h4⟩ := h
  refine ⟨e0.trans h1, h2, h3, fun t ht => ib_m1_cp (h4 t ht) (e1 t ht) (e2 t ht) (e3 t ht) (fun i hi => ?_) (eZ t ht) (eK t ht) (eW t ht)⟩
  rw [Nat.add_assoc, Nat.add_assoc]
  exact eS (5 * t + i) (by omega)
/-! liveness, told of single cells -/
theorem ib_isLive_g {μ : ivM} {t z : Nat} {u : Nat → Int} {x y : Int} (ht : t < 8) (hok : ib_ok5 u z) (h12 : μ 12 t = ib_nc u z) (h13 : μ 13 t = x) (h11 : μ 11 3 = y) (hx : 0 ≤ x ∧ x ≤ 70000) (hy : 0 ≤ y ∧ y ≤ 70000) : f_X2_isLive t μ = some (if decide (0 < z ∧ y - x ≤ 9) then 1 else 0, μ) := by
  have hpos : 0 < z → ib_nc u z ≠ 0 := by
    intro hz e
    have := ib_nc_dig (i := 0) hok.2
    rw [e, if_pos hz] at this
    have := hok.2 0 hz
    omega
  have hzero : z = 0 → ib_nc u z = 0 := by intro e; rw [e]; rfl
  simp only [f_X2_isLive, iv_let, Int.toNat_natCast]
  rw [if_neg (by omega), if_neg (by omega), iv_ck_pos (by omega), h12, h11, h13]
  by_cases hz : 0 < z
  · rw [if_neg (by have := hpos hz; omega), iv_ck_pos (by omega), iv_wr_id (by omega) (by omega)]
    by_cases hd : y - x ≤ 9
    · rw [if_neg (by omega), decide_eq_true ⟨hz, hd⟩]; rfl
    · rw [if_pos (by omega), decide_eq_false (fun c => hd c.2)]; rfl
  · rw [if_pos (by rw [hzero (by omega)]; rfl), decide_eq_false (fun c => hz c.1)]; rfl
theorem ib_liveOnes_g {μ : ivM} {f : Nat → Bool} (hf : ∀ t : Nat, t < 8 → f_X2_isLive t μ = some (if f t then 1 else 0, μ)) : f_X2_liveOnes μ = some (((ib_set f 8 : Nat) : Int), μ) := by
  have key : ∀ (d k n : Nat), k + d = 8 → d < n → lp_X2_liveOnes_4 n (ib_set f k) k μ = some (((ib_set f 8 : Nat) : Int), μ) := by
    intro d
    induction d with
    | zero =>
      intro k n hk hn
      obtain ⟨n, rfl⟩ : ∃ q, n = q + 1 := ⟨n - 1, by omega⟩
      unfold lp_X2_liveOnes_4
      rw [if_pos (by omega), show k = 8 by omega]
    | succ d ih =>
      intro k n hk hn
      obtain ⟨n, rfl⟩ : ∃ q, n = q + 1 := ⟨n - 1, by omega⟩
      unfold lp_X2_liveOnes_4
      rw [if_neg (by omega), hf k (by omega), iv_bnd_some]
      simp only [iv_let]
      rw [iv_wr_succ (by omega), ← ih (k + 1) n (by omega) (by omega)]
      cases hb : f k
      · rw [ib_set_f hb]; rfl
      · rw [ib_set_t hb (by omega)]; rfl
  exact key 8 0 iv_fuel (by omega) (by decide)
theorem ib_isLiveM_g {μ : ivM} {t : Nat} {x y : Int} (ht : t < 8) (h118 : μ 118 t = x) (h15 : μ 110 15 = y) (hx : 0 ≤ x ∧ x ≤ 70000) (hy : 0 ≤ y ∧ y ≤ 70000) : f_X10_isLive t μ = some (if decide (y - x ≤ 9) then 1 else 0, μ) := by
  simp only [f_X10_isLive, iv_let, Int.toNat_natCast]
  rw [iv_ck_pos (by omega), h118, h15, iv_wr_id (by omega) (by omega)]
  by_cases hd : y - x ≤ 9
  · rw [if_neg (by omega), decide_eq_true hd]; rfl
  · rw [if_pos (by omega), decide_eq_false hd]; rfl
theorem ib_liveSet_g {μ : ivM} {f : Nat → Bool} {T : Nat} (hT : T ≤ 8) (h13 : μ 110 13 = T) (hf : ∀ t : Nat, t < T → f_X10_isLive t μ = some (if f t then 1 else 0, μ)) : f_X10_liveSet μ = some (((ib_set f T : Nat) : Int), μ) := by
  have key : ∀ (d k n : Nat), k + d = T → d < n → lp_X10_liveSet_4 n (ib_set f k) k μ = some (((ib_set f T : Nat) : Int), μ) := by
    intro d
    induction d with
    | zero =>
      intro k n hk hn
      obtain ⟨n, rfl⟩ : ∃ q, n = q + 1 := ⟨n - 1, by omega⟩
      unfold lp_X10_liveSet_4
      rw [h13, if_pos (by omega), show k = T by omega]
    | succ d ih =>
      intro k n hk hn
      obtain ⟨n, rfl⟩ : ∃ q, n = q + 1 := ⟨n - 1, by omega⟩
      unfold lp_X10_liveSet_4
      rw [h13, if_neg (by omega), hf k (by omega), iv_bnd_some]
      simp only [iv_let]
      rw [iv_wr_succ (by omega), ← ih (k + 1) n (by omega) (by omega)]
      cases hb : f k
      · rw [ib_set_f0 hb (by omega)]; rfl
      · rw [ib_set_t hb (by omega)]; rfl
  exact key T 0 iv_fuel (by omega) (by unfold iv_fuel; omega)
theorem ib_setT {f g : Nat → Bool} {T : Nat} (hT : T ≤ 8) (h : ∀ t, t < 8 → g t = (decide (t < T) && f t)) : ib_set f T = ib_set g 8 := by
  apply ib_set_ext
  intro i
  by_cases c : i < 8
  · rw [h i c, decide_eq_true c, Bool.true_and]
  · rw [decide_eq_false c, decide_eq_false (show ¬ i < T by omega), Bool.false_and, Bool.false_and]
/-! days -/
def ib_ld (s : ivM) (n t : Nat) : Bool := decide (t < ib_T s ∧ s 110 15 + n - s 118 t ≤ 9)
theorem ib_pass_lp {F : Nat} (hF : F < 256) : ∀ (d t n : Nat) (μ : ivM), t + d = 8 → d < n → ∃ ν, lp_X2_pass_27 F n t μ = some ((F : Int), ν) ∧ (∀ a k, a ≠ 14 → ν a k = μ a k) ∧ (∀ o, o < t → ν 14 o = μ 14 o) ∧ ∀ o, t ≤ o → o < 8 → ν 14 o = if F.testBit o then 0 else μ 14 o := by
  intro d
  induction d with
  | zero =>
    intro t n μ ht hn
    obtain ⟨n, rfl⟩ : ∃ q, n = q + 1 := ⟨n - 1, by omega⟩
    unfold lp_X2_pass_27
    rw [if_pos (by omega)]
    exact ⟨μ, rfl, fun _ _ _ => rfl, fun _ _ => rfl, fun o _ _ => by omega⟩
  | succ d ih =>
    intro t n μ ht hn
    obtain ⟨n, rfl⟩ : ∃ q, n = q + 1 := ⟨n - 1, by omega⟩
    unfold lp_X2_pass_27
    simp only [iv_let]
    rw [if_neg (by omega), ib_has (by omega) (by omega), iv_bnd_some, ib_iz, iv_wr_succ (by omega)]
    cases hb : F.testBit t
    · rw [if_neg (by decide)]
      obtain ⟨ν, e, f1, f2, f3⟩ := ih (t + 1) n μ (by omega) (by omega)
      refine ⟨ν, e, f1, fun o ho => f2 o (by omega), fun o h1 h2 => ?_⟩
      by_cases q : o = t
      · subst q; rw [f2 o (by omega), hb]; rfl
      · exact f3 o (by omega) h2
    · rw [if_pos rfl, iv_ck_pos (by omega), Int.toNat_natCast]
      obtain ⟨ν, e, f1, f2, f3⟩ := ih (t + 1) n (iv_upd μ 14 t 0) (by omega) (by omega)
      refine ⟨ν, e, fun a k h => by rw [f1 a k h, iv_upd_na h], fun o ho => by rw [f2 o (by omega), iv_upd_nk (by omega)], fun o h1 h2 => ?_⟩
      by_cases q : o = t
      · subst q; rw [f2 o (by omega), iv_upd_at, hb]; rfl
      · rw [f3 o (by omega) h2, iv_upd_nk q]
theorem ib_days_lp {T : Nat} (hT : T ≤ 8) {f : Nat → Bool} {l2 : Int} (k : ivM → Option (Int × ivM)) : ∀ (d t n : Nat) (μ : ivM), t + d = T → d < n → μ 110 13 = T → (∀ (o : Nat) (ν : ivM), o < T → (∀ a q, a ≠ 117 → ν a q = μ a q) → f_X10_isLive o ν = some (if f o then 1 else 0, ν)) →
    ∃ ν, lp_X10_days_32 l2 k n t μ = k ν ∧ (∀ a q, a ≠ 117 → ν a q = μ a q) ∧ (∀ o, o < t ∨ T ≤ o → ν 117 o = μ 117 o) ∧ ∀ o, t ≤ o → o < T → ν 117 o = if f o then μ 117 o else 0 := by
  intro d
  induction d with
  | zero =>
    intro t n μ ht hn h13 hf
    obtain ⟨n, rfl⟩ : ∃ q, n = q + 1 := ⟨n - 1, by omega⟩
    unfold lp_X10_days_32
    rw [h13, if_pos (by omega)]
    exact ⟨μ, rfl, fun _ _ _ => rfl, fun _ _ => rfl, fun o _ _ => by omega⟩
  | succ d ih =>
    intro t n μ ht hn h13 hf
    obtain ⟨n, rfl⟩ : ∃ q, n = q + 1 := ⟨n - 1, by omega⟩
    unfold lp_X10_days_32
    simp only [iv_let]
    rw [h13, if_neg (by omega), hf t μ (by omega) (fun _ _ _ => rfl), iv_bnd_some, ib_iz, iv_wr_succ (by omega)]
    have go : ∀ x : Int, x = (if f t then μ 117 t else 0) → ∃ ν, lp_X10_days_32 l2 k n ((t + 1 : Nat) : Int) (iv_upd μ 117 t x) = k ν ∧ (∀ a q, a ≠ 117 → ν a q = μ a q) ∧ (∀ o, o < t ∨ T ≤ o → ν 117 o = μ 117 o) ∧ ∀ o, t ≤ o → o < T → ν 117 o = if f o then μ 117 o else 0 := by
      intro x hx
      obtain ⟨ν, e, f1, f2, f3⟩ := ih (t + 1) n (iv_upd μ 117 t x) (by omega) (by omega) (by rw [iv_upd_na (by omega)]; exact h13) (fun o ν ho hν => hf o ν ho (fun a q ha => by rw [hν a q ha, iv_upd_na ha]))
      refine ⟨ν, e, fun a q ha => by rw [f1 a q ha, iv_upd_na ha], fun o ho => by rw [f2 o (by omega), iv_upd_nk (by omega)], fun o h1 h2 => ?_⟩
      by_cases q : o = t
      · subst q; rw [f2 o (by omega), iv_upd_at, hx]
      · rw [f3 o (by omega) h2, iv_upd_nk q]
    cases hb : f t
    · rw [if_neg (by decide), iv_ck_pos (by omega), Int.toNat_natCast]
      exact go 0 (by rw [hb]; rfl)
    · rw [if_pos rfl, iv_ck_pos (by omega), iv_ck_pos (by omega), Int.toNat_natCast]
      exact go _ (by rw [hb]; rfl)
theorem is_days (h : ib_inv D s) (hD : D ≤ 60000) {p : Int} : ib_st (D + 99) s (f_X9_days p) (f_X10_days p) := by
  have hT := h.T
  have hP := h.P
  have hY := h.Y
  by_cases c : 1 ≤ p ∧ p ≤ 99
  · obtain ⟨m, rfl⟩ : ∃ m : Nat, p = m := ⟨p.toNat, by omega⟩
    have hl0 := ib_liveOnes h hD (μ := s) ib_ag.rfl
    have hlt : ∀ f : Nat → Bool, ib_set f 8 < 256 := fun f => ib_set_lt8 f (by omega)
    have hl1 : f_X2_liveOnes (iv_upd s 11 3 (s 110 15 + m)) = some (((ib_set (ib_ld s m) 8 : Nat) : Int), iv_upd s 11 3 (s 110 15 + m)) := by
      refine ib_liveOnes_g (fun t ht => ?_)
      have hm := h.m ht
      rw [ib_isLive_g (x := s 118 t) (y := s 110 15 + m) ht hm.1 (by rw [iv_upd_na (by omega)]; exact hm.2.2.2.1) (by rw [iv_upd_na (by omega)]; exact hm.2.2.2.2.1) iv_upd_at (by omega) (by omega)]
      unfold ib_ld
      rw [decide_eq_decide.mpr (show (0 < ib_z s t ∧ s 110 15 + (m : Int) - s 118 t ≤ 9) ↔ (t < ib_T s ∧ s 110 15 + (m : Int) - s 118 t ≤ 9) by rw [hm.2.2.1])]
    have hF : iv_nd (ib_set (ib_lv s) 8) (ib_set (ib_ld s m) 8) < 256 := ib_nd_256 (hlt _)
    obtain ⟨ν, e1, n1, n2, n3⟩ := ib_pass_lp hF 8 0 iv_fuel (iv_upd s 11 3 (s 110 15 + m)) (by omega) (by decide)
    have ex : f_X9_days m s = some (((iv_nd (ib_set (ib_lv s) 8) (ib_set (ib_ld s m) 8) : Nat) : Int), ν) := by
      unfold f_X9_days f_X2_pass
      simp only [iv_let]
      rw [if_neg (by omega), if_pos (by omega), hl0, iv_bnd_some, hY.1, iv_wr_id (x := s 110 15 + (m : Int)) (by omega) (by omega), hl1, iv_bnd_some, iv_andn (by have := hlt (ib_lv s); omega) (by have := hlt (ib_ld s m); omega)]
      rw [show ((0 : Nat) : Int) = 0 from rfl] at e1
      rw [e1]; rfl
    have nu : ∀ a k, ¬ (a = 11 ∧ k = 3) → a ≠ 14 → ν a k = s a k := fun a k h1 h2 => by
      rw [n1 a k h2]
      unfold iv_upd
      rw [if_neg h1]
    have e13 : ν 110 13 = s 110 13 := nu _ _ (by omega) (by omega)
    have hl2 : f_X10_liveSet ν = some (((ib_set (ib_lv s) 8 : Nat) : Int), ν) := by
      rw [ib_liveSet_g (f := ib_lv s) (T := ib_T s) hT.2.1 (e13.trans hT.1) (fun t ht => ?_), (ib_lvT (s := s)).resolve_right (by omega)]
      have hm := h.m (t := t) (by omega)
      rw [ib_isLiveM_g (x := s 118 t) (y := s 110 15) (by omega) (nu _ _ (by omega) (by omega)) (nu _ _ (by omega) (by omega)) (by omega) (by omega)]
      unfold ib_lv
      rw [decide_eq_decide.mpr (show (s 110 15 - s 118 t ≤ 9) ↔ (t < ib_T s ∧ s 110 15 - s 118 t ≤ 9) from ⟨fun q => ⟨ht, q⟩, fun q => q.2⟩)]
    have live2 : ∀ (o : Nat) (κ : ivM), o < ib_T s → (∀ a q, a ≠ 117 → κ a q = iv_upd ν 110 15 (s 110 15 + m) a q) → f_X10_isLive o κ = some (if ib_ld s m o then 1 else 0, κ) := by
      intro o κ ho hκ
      have hm := h.m (t := o) (by omega)
      rw [ib_isLiveM_g (x := s 118 o) (y := s 110 15 + m) (by omega) (by rw [hκ _ _ (by omega), iv_upd_na (by omega)]; exact nu _ _ (by omega) (by omega)) (by rw [hκ _ _ (by omega), iv_upd_at]) (by omega) (by omega)]
      unfold ib_ld
      rw [decide_eq_decide.mpr (show (s 110 15 + (m : Int) - s 118 o ≤ 9) ↔ (o < ib_T s ∧ s 110 15 + (m : Int) - s 118 o ≤ 9) from ⟨fun q => ⟨ho, q⟩, fun q => q.2⟩)]
    obtain ⟨κ, e2, k1, k2, k3⟩ := ib_days_lp (f := ib_ld s m) (l2 := ((ib_set (ib_lv s) 8 : Nat) : Int)) hT.2.1 (fun (μ23 : ivM) =>
      iv_bnd (f_X10_liveSet μ23) fun r26 μ27 =>
      some ((iv_and ((ib_set (ib_lv s) 8 : Nat) : Int) (iv_xor r26 (-1))), μ27)) (ib_T s) 0 iv_fuel (iv_upd ν 110 15 (s 110 15 + m)) (by omega) (by unfold iv_fuel; omega) (by rw [iv_upd_nk (by omega)]; exact e13.trans hT.1) live2
    have hl3 : f_X10_liveSet κ = some (((ib_set (ib_ld s m) 8 : Nat) : Int), κ) := by
      rw [ib_liveSet_g (f := ib_ld s m) (T := ib_T s) hT.2.1 (by rw [k1 _ _ (by omega), iv_upd_nk (by omega)]; exact e13.trans hT.1) (fun t ht => live2 t κ ht k1)]
      rw [ib_setT hT.2.1 (g := ib_ld s m) (fun t ht => by
        unfold ib_ld
        by_cases q : t < ib_T s
        · rw [decide_eq_true q, Bool.true_and]
        · rw [decide_eq_false q, Bool.false_and, decide_eq_false (fun r => q r.1)])]
    have kk : ∀ a k, ¬ (a = 11 ∧ k = 3) → a ≠ 14 → ¬ (a = 110 ∧ k = 15) → a ≠ 117 → κ a k = s a k := fun a k h1 h2 h3 h4 => by
      rw [k1 a k h4]
      unfold iv_upd
      rw [if_neg h3]
      exact nu a k h1 h2
    refine ⟨_, ν, κ, ex, ?_, ?_⟩
    · unfold f_X10_days
      rw [ib_in, iv_bnd_some, ib_iz, if_pos c, hl2, iv_bnd_some, nu 110 15 (by omega) (by omega), iv_wr_id (by omega) (by omega)]
      rw [show ((0 : Nat) : Int) = 0 from rfl] at e2
      rw [e2, hl3, iv_bnd_some, iv_andn (by have := hlt (ib_lv s); omega) (by have := hlt (ib_ld s m); omega)]
    · obtain ⟨eT, eP⟩ := ib_TP_ext (κ := κ) (s := s) (kk 110 13 (by omega) (by omega) (by omega) (by omega)) (kk 110 14 (by omega) (by omega) (by omega) (by omega))
      refine ⟨ib_tx_ext h.1 (fun k => kk _ _ (by omega) (by omega) (by omega) (by omega)) (fun k => kk _ _ (by omega) (by omega) (by omega) (by omega)) (fun k => kk _ _ (by omega) (by omega) (by omega) (by omega)) (kk _ _ (by omega) (by omega) (by omega) (by omega)),
        ib_ho_ext h.2.1 (fun k => kk _ _ (by omega) (by omega) (by omega) (by omega)) (fun k => kk _ _ (by omega) (by omega) (by omega) (by omega)) (fun k => kk _ _ (by omega) (by omega) (by omega) (by omega)) (kk _ _ (by omega) (by omega) (by omega) (by omega)) (kk _ _ (by omega) (by omega) (by omega) (by omega)) (kk _ _ (by omega) (by omega) (by omega) (by omega)), ?_,
        ib_sl_le (by omega) (ib_sl_ext h.2.2.2.1 (fun a k h1 h2 => kk _ _ (by omega) (by omega) (by omega) (by omega)) (fun a k h1 => kk _ _ (by omega) (by omega) (by omega) (by omega)) (kk _ _ (by omega) (by omega) (by omega) (by omega)) (kk _ _ (by omega) (by omega) (by omega) (by omega))),
        ib_so_ext h.2.2.2.2 (fun k => kk _ _ (by omega) (by omega) (by omega) (by omega)) (fun k => kk _ _ (by omega) (by omega) (by omega) (by omega)) (fun k => kk _ _ (by omega) (by omega) (by omega) (by omega)) (fun k => kk _ _ (by omega) (by omega) (by omega) (by omega)) (fun k => kk _ _ (by omega) (by omega) (by omega) (by omega)) (kk _ _ (by omega) (by omega) (by omega) (by omega))⟩
      have e15 : κ 110 15 = s 110 15 + m := by rw [k1 _ _ (by omega), iv_upd_at]
      rw [eT, eP, e15]
      refine ⟨?_, by omega, by omega, fun t ht => ?_⟩
      · rw [k1 _ _ (by omega), iv_upd_na (by omega), n1 _ _ (by omega), iv_upd_at]
      · have hm := h.m ht
        have hm1 := h.2.2.1.2.2.2 t ht
        have e14 : κ 14 t = if ib_ld s m t then s 14 t else 0 := by
          rw [k1 _ _ (by omega), iv_upd_na (by omega), n3 t (by omega) ht, iv_upd_na (by omega), iv_nd_bit, ib_set_bit, ib_set_bit, decide_eq_true ht, Bool.true_and, Bool.true_and]
          cases hb : ib_ld s m t
          · cases hb2 : ib_lv s t
            · have : ib_kn s t = 0 := hm.2.2.2.2.2.2.2.2.2.2 (by
                unfold ib_lv at hb2
                have := of_decide_eq_false hb2
                omega)
              rw [hm.2.2.2.2.2.2.2.1, this]; rfl
            · rfl
          · cases ib_lv s t <;> rfl
        have e117 : κ 117 t = if ib_ld s m t then s 117 t else 0 := by
          by_cases q : t < ib_T s
          · rw [k3 t (by omega) q, iv_upd_na (by omega), nu _ _ (by omega) (by omega)]
          · have : ib_kn s t = 0 := hm.2.2.2.2.2.2.2.2.2.2 (by omega)
            rw [k2 t (by omega), iv_upd_na (by omega), nu _ _ (by omega) (by omega), hm.2.2.2.2.2.2.2.2.1, this]
            split <;> rfl
        have es : ∀ k, κ 115 k = s 115 k := fun k => kk _ _ (by omega) (by omega) (by omega) (by omega)
        unfold ib_m1 at hm1 ⊢
        simp only [Nat.zero_add, es, show 11 + 1 = 12 from rfl, show 11 + 2 = 13 from rfl, show 11 + 3 = 14 from rfl] at hm1 ⊢
        rw [e14, e117, kk 116 t (by omega) (by omega) (by omega) (by omega), kk 118 t (by omega) (by omega) (by omega) (by omega), kk 12 t (by omega) (by omega) (by omega) (by omega), kk 13 t (by omega) (by omega) (by omega) (by omega)]
        obtain ⟨a1, a2, a3, a4, a5, a6, a7, a8, a9, a10, a11⟩ := hm1
        have hp0 : (0 : Int) < ((2 ^ ib_P s : Nat) : Int) := by exact_mod_cast Nat.pow_pos (n := ib_P s) (show 0 < 2 by omega)
        refine ⟨a1, a2, a3, a4, a5, a6, by omega, by rw [a8], by split <;> omega, by split <;> assumption, fun q => ?_⟩
        rw [if_neg]
        unfold ib_ld
        rw [decide_eq_true_eq]
        omega
  · have hX : f_X9_days p s = some (-2, s) := by
      unfold f_X9_days
      simp only [iv_let]
      by_cases c1 : p < 1
      · rw [if_pos c1]
      · rw [if_neg c1, if_neg (by omega)]
    refine ⟨-2, s, s, hX, ?_, h.le (by omega)⟩
    unfold f_X10_days
    rw [ib_in, iv_bnd_some, ib_iz, if_neg c]
end IBX
