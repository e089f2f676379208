/-! STEPS: NAMED ANEW, WRITTEN -/
/-- the model's cells, but for scratch -/
def ib_am (b s μ : ivM) : Prop := (∀ a k, 110 ≤ a → ¬ ib_scr a k → μ a k = s a k) ∧ ∀ a k, a < 110 → ¬ ib_scr a k → μ a k = b a k
theorem ib_am.c {b s μ : ivM} (g : ib_am b s μ) {a k : Nat} (h : (ib_scb a && Nat.ble 110 a) = true) : μ a k = s a k := by
  rw [Bool.and_eq_true] at h
  exact g.1 a k (Nat.le_of_ble_eq_true h.2) (ib_nscr h.1)
theorem ib_am.f {b s μ : ivM} (g : ib_am b s μ) {k : Nat} (h : ib_scf k = true) : μ 110 k = s 110 k := by
  refine g.1 110 k (by omega) ?_
  unfold ib_scf at h
  simp only [Bool.not_eq_true', Bool.or_eq_false_iff, Bool.and_eq_false_iff] at h
  unfold ib_scr
  have e1 : ∀ x y, Nat.ble x y = false → y < x := fun x y e => by
    rcases Nat.lt_or_ge y x with c | c
    · exact c
    · rw [Nat.ble_eq_true_of_le c] at e; cases e
  have e2 : ∀ x y, Nat.beq x y = false → x ≠ y := fun x y e c => by subst c; rw [Nat.beq_refl] at e; cases e
  obtain ⟨⟨⟨h1, h2⟩, h3⟩, h4⟩ := h
  have := e2 _ _ h2
  have := e2 _ _ h3
  have := e2 _ _ h4
  have := h1.imp (e1 _ _) (e1 _ _)
  omega
theorem ib_am.upd {b s μ : ivM} (h : ib_am b s μ) {a k : Nat} {v : Int} (hs : ib_scr a k) : ib_am b s (iv_upd μ a k v) := by
  refine ⟨fun a' k' h1 hn => ?_, fun a' k' h1 hn => ?_⟩
  · unfold iv_upd
    split
    · rename_i c; rw [c.1, c.2] at hn; exact absurd hs hn
    · exact h.1 a' k' h1 hn
  · unfold iv_upd
    split
    · rename_i c; rw [c.1, c.2] at hn; exact absurd hs hn
    · exact h.2 a' k' h1 hn
theorem ib_am.fr {b s μ ν : ivM} (h : ib_am b s μ) {lo hi : Nat} (g : ib_fr lo hi μ ν) (c : ∀ a k, lo ≤ a → a ≤ hi → ib_scr a k) : ib_am b s ν := by
  have e : ∀ a k, ¬ ib_scr a k → ν a k = μ a k := fun a k hn => g a k (by
    by_cases h1 : lo ≤ a
    · by_cases h2 : a ≤ hi
      · exact absurd (c a k h1 h2) hn
      · omega
    · omega)
  exact ⟨fun a k h1 hn => (e a k hn).trans (h.1 a k h1 hn), fun a k h1 hn => (e a k hn).trans (h.2 a k h1 hn)⟩
section IBX
variable {D : Int} {s μ b : ivM}
theorem im_isLiveM (h : ib_inv D s) (hD : D ≤ 60000) (g : ib_am b s μ) {t : Nat} (ht : t < ib_T s) : f_X10_isLive t μ = some (if ib_lv s t then 1 else 0, μ) := by
  have hT := h.T
  have hm := h.m (t := t) (by omega)
  have hY := h.Y
  have e1 : μ 118 t = s 118 t := g.c rfl
  have e2 : μ 110 15 = s 110 15 := g.f rfl
  simp only [f_X10_isLive, iv_let, Int.toNat_natCast]
  rw [iv_ck_pos (by omega), e1, e2, iv_wr_id (by omega) (by omega)]
  unfold ib_lv
  by_cases hd : s 110 15 - s 118 t ≤ 9
  · rw [if_neg (by omega), decide_eq_true ⟨ht, hd⟩]; rfl
  · rw [if_pos (by omega), decide_eq_false (fun c => hd c.2)]; rfl
theorem im_lf71 (h : ib_inv D s) (hD : D ≤ 60000) {l1 l2 l3 : Int} {L : Nat} {u : Nat → Int} (hu : ib_ok5 u L) (k : Int → ivM → Option (Int × ivM)) : ∀ (d t n : Nat) (x : Int) (μ : ivM), t + d = ib_T s → d < n → ib_am b s μ → μ 110 21 = L → (∀ q, q < L → μ 121 q = u q) →
    ((x = 1 ∧ ∀ o, o < t → ib_lv s o = true → s 110 12 < (ib_D u (ib_sn s o) L (ib_z s o) : Nat)) ∨ (x = 0 ∧ ¬ ib_far s u L)) →
    ∃ y ν, lp_X10_layFresh_71 l1 l2 l3 k n x t μ = k y ν ∧ ib_fr 122 122 μ ν ∧ ((y = 1 ∧ ib_far s u L) ∨ (y = 0 ∧ ¬ ib_far s u L)) := by
  have hT := h.T
  intro d
  induction d with
  | zero =>
    intro t n x μ ht hn g h21 hm hx
    obtain ⟨n, rfl⟩ : ∃ q, n = q + 1 := ⟨n - 1, by omega⟩
    unfold lp_X10_layFresh_71
    rw [g.f rfl, hT.1, if_pos (by omega)]
    refine ⟨x, μ, rfl, ib_fr.rfl, ?_⟩
    rcases hx with ⟨h1, h2⟩ | h1
    · exact Or.inl ⟨h1, fun o ho => h2 o (by have := ib_lv_lt ho; omega) ho⟩
    · exact Or.inr h1
  | succ d ih =>
    intro t n x μ ht hn g h21 hm hx
    obtain ⟨n, rfl⟩ : ∃ q, n = q + 1 := ⟨n - 1, by omega⟩
    unfold lp_X10_layFresh_71
    simp only [iv_let]
    rw [g.f rfl, hT.1, if_neg (by omega)]
    rcases hx with ⟨h1, h2⟩ | ⟨h1, h2⟩
    · subst h1
      have hmt := h.m (t := t) (by omega)
      rw [if_neg (by decide), im_isLiveM h hD g (by omega), iv_bnd_some, ib_iz, iv_wr_succ (by omega)]
      cases hl : ib_lv s t
      · rw [if_neg (by decide)]
        exact ih (t + 1) n 1 μ (by omega) (by omega) g h21 hm (Or.inl ⟨rfl, fun o ho hlo => by
          by_cases c : o = t
          · subst c; rw [hl] at hlo; cases hlo
          · exact h2 o (by omega) hlo⟩)
      · obtain ⟨ν, e, f⟩ := ib_offTried (t := t) (p := L) (z := ib_z s t) (u := u) (v := ib_sn s t) (by omega) hmt.1.1 hu.1 h21 (by rw [g.c (a := 116) rfl]; exact hmt.2.1) (fun q hq => by rw [g.c (a := 115) rfl]; rfl) hm
        have g2 : ib_am b s ν := g.fr f (fun a k h1 h2 => ib_r122 a k (by omega) h2)
        rw [if_pos rfl, e, iv_bnd_some, g2.f rfl]
        by_cases c : ((ib_D u (ib_sn s t) L (ib_z s t) : Nat) : Int) ≤ s 110 12
        · rw [if_pos c]
          obtain ⟨y, κ, e2, f2, r2⟩ := ih (t + 1) n 0 ν (by omega) (by omega) g2 (by rw [f _ _ (by omega)]; exact h21) (fun q hq => by rw [f _ _ (by omega)]; exact hm q hq) (Or.inr ⟨rfl, fun q => by have := q t hl; omega⟩)
          exact ⟨y, κ, e2, f.tr f2, r2⟩
        · rw [if_neg c]
          obtain ⟨y, κ, e2, f2, r2⟩ := ih (t + 1) n 1 ν (by omega) (by omega) g2 (by rw [f _ _ (by omega)]; exact h21) (fun q hq => by rw [f _ _ (by omega)]; exact hm q hq) (Or.inl ⟨rfl, fun o ho hlo => by
            by_cases c2 : o = t
            · subst c2; omega
            · exact h2 o (by omega) hlo⟩)
          exact ⟨y, κ, e2, f.tr f2, r2⟩
    · subst h1
      rw [if_pos rfl]
      exact ⟨0, μ, rfl, ib_fr.rfl, Or.inr ⟨rfl, h2⟩⟩
theorem im_lf17 (h : ib_inv D s) (hD : D ≤ 60000) {L : Nat} (hL1 : 1 ≤ L) (hL : L ≤ 5) (k : ivM → Option (Int × ivM)) : ∀ (d c n : Nat) (μ : ivM), c + d = 6 ^ L → d < n → ib_am b s μ → (∀ v, ib_ok5 v L → ib_cd v L < c → ¬ ib_far s v L) →
    (∃ u ν, ib_fo s L u ∧ lp_X10_layFresh_17 ((6 ^ L : Nat) : Int) L k n c μ = some (1, ν) ∧ ib_am b s ν ∧ ν 110 21 = L ∧ ∀ q, q < L → ν 121 q = u q) ∨ ((∀ v, ib_ok5 v L → ¬ ib_far s v L) ∧ ∃ ν, lp_X10_layFresh_17 ((6 ^ L : Nat) : Int) L k n c μ = k ν ∧ ib_am b s ν) := by
  have hT := h.T
  have hb : 6 ^ L ≤ 7776 := Nat.pow_le_pow_right (n := 6) (j := 5) (by omega) hL
  intro d
  induction d with
  | zero =>
    intro c n μ hc hn g hno
    obtain ⟨n, rfl⟩ : ∃ q, n = q + 1 := ⟨n - 1, by omega⟩
    right
    refine ⟨fun v hv => hno v hv (by have := (ib_cd_b L hv.2).2; omega), μ, ?_, g⟩
    unfold lp_X10_layFresh_17
    rw [if_pos (by omega)]
  | succ d ih =>
    intro c n μ hc hn g hno
    obtain ⟨n, rfl⟩ : ∃ q, n = q + 1 := ⟨n - 1, by omega⟩
    unfold lp_X10_layFresh_17
    rw [if_neg (by omega), iv_wr_id (x := (L : Int) - 1) (by omega) (by omega)]
    obtain ⟨μ1, e1, f1, _, b1, c1⟩ := ib_lf35 (l1 := ((6 ^ L : Nat) : Int)) (l2 := (L : Int)) (l3 := (c : Int)) (fun (μ8 : ivM) =>
        lp_X10_layFresh_71 ((6 ^ L : Nat) : Int) L c (fun (w35 : Int) (μ37 : ivM) =>
          if w35 = 0 then
            lp_X10_layFresh_17 ((6 ^ L : Nat) : Int) L k n (iv_wr ((c : Int) + 1)) μ37
          else
            some (1, μ37)) iv_fuel 1 0 μ8) L iv_fuel (c : Int) (iv_upd μ 110 21 L) hL (by unfold iv_fuel; omega) (by omega) (by omega)
    have g0 : ib_am b s (iv_upd μ 110 21 L) := g.upd (by unfold ib_scr; omega)
    have g1 : ib_am b s μ1 := g0.fr f1 (fun a k h1 h2 => ib_r122 a k h1 (by omega))
    have h21 : μ1 110 21 = L := by rw [f1 _ _ (by omega), iv_upd_at]
    have hok : ib_ok5 (fun q => μ1 121 q) L := ⟨hL, b1⟩
    rw [e1]
    obtain ⟨y, μ2, e2, f2, r2⟩ := im_lf71 h hD (l1 := ((6 ^ L : Nat) : Int)) (l2 := (L : Int)) (l3 := (c : Int)) hok (fun (w35 : Int) (μ37 : ivM) =>
          if w35 = 0 then
            lp_X10_layFresh_17 ((6 ^ L : Nat) : Int) L k n (iv_wr ((c : Int) + 1)) μ37
          else
            some (1, μ37)) (ib_T s) 0 iv_fuel 1 μ1 (by omega) (by unfold iv_fuel; omega) g1 h21 (fun q hq => rfl) (Or.inl ⟨rfl, fun o ho => by omega⟩)
    rw [show ((0 : Nat) : Int) = 0 from rfl] at e2
    rw [e2]
    have g2 : ib_am b s μ2 := g1.fr f2 (fun a k h1 h2 => ib_r122 a k (by omega) h2)
    rcases r2 with ⟨r1, r2⟩ | ⟨r1, r2⟩
    · left
      subst r1
      rw [if_neg (by decide)]
      refine ⟨fun q => μ1 121 q, μ2, ⟨hok, r2, fun v hv hlt => hno v hv (by omega)⟩, rfl, g2, by rw [f2 _ _ (by omega)]; exact h21, fun q hq => by rw [f2 _ _ (by omega)]⟩
    · subst r1
      rw [if_pos rfl, iv_wr_succ (by omega)]
      refine ih (c + 1) n μ2 (by omega) (by omega) g2 (fun v hv hlt => ?_)
      by_cases e : ib_cd v L < c
      · exact hno v hv e
      · intro hf
        have e : ib_cd v L = ib_cd (fun q => μ1 121 q) L := by rw [c1]; omega
        exact r2 ((ib_far_ext (ib_cd_inj hok.2 hv.2 e)).mp hf)
theorem im_lf4 (h : ib_inv D s) (hD : D ≤ 60000) : ∀ (d L n : Nat) (μ : ivM), L + d = 5 → d < n → ib_am b s μ → (∀ K, 1 ≤ K → K ≤ L → ∀ v, ib_ok5 v K → ¬ ib_far s v K) →
    (∃ K u ν, ib_fs s K u ∧ lp_X10_layFresh_4 n ((6 ^ L : Nat) : Int) ((L : Int) + 1) μ = some (1, ν) ∧ ib_am b s ν ∧ ν 110 21 = K ∧ ∀ q, q < K → ν 121 q = u q) ∨ (ib_fn s ∧ ∃ ν, lp_X10_layFresh_4 n ((6 ^ L : Nat) : Int) ((L : Int) + 1) μ = some (0, ν) ∧ ib_am b s ν) := by
  intro d
  induction d with
  | zero =>
    intro L n μ hL hn g hno
    obtain ⟨n, rfl⟩ : ∃ q, n = q + 1 := ⟨n - 1, by omega⟩
    right
    refine ⟨fun K h1 h2 => hno K h1 (by omega), μ, ?_, g⟩
    unfold lp_X10_layFresh_4
    rw [if_pos (by omega)]
  | succ d ih =>
    intro L n μ hL hn g hno
    obtain ⟨n, rfl⟩ : ∃ q, n = q + 1 := ⟨n - 1, by omega⟩
    have hb : 6 ^ (L + 1) ≤ 7776 := Nat.pow_le_pow_right (n := 6) (j := 5) (by omega) (by omega)
    have e6 : iv_wr (((6 ^ L : Nat) : Int) * 6) = ((6 ^ (L + 1) : Nat) : Int) := by
      rw [Nat.pow_succ] at hb ⊢
      rw [iv_wr_id (by omega) (by omega)]; omega
    unfold lp_X10_layFresh_4
    rw [if_neg (by omega), e6, show (L : Int) + 1 = ((L + 1 : Nat) : Int) by omega, iv_wr_succ (by omega)]
    rcases im_lf17 h hD (L := L + 1) (by omega) (by omega) (fun (μ45 : ivM) =>
        lp_X10_layFresh_4 n ((6 ^ (L + 1) : Nat) : Int) ((L + 1 + 1 : Nat) : Int) μ45) (6 ^ (L + 1)) 0 iv_fuel μ (by omega) (by unfold iv_fuel; omega) g (fun v hv hlt => by have := (ib_cd_b (L + 1) hv.2).1; omega) with ⟨u, ν, q1, q2, q3, q4, q5⟩ | ⟨q1, ν, q2, q3⟩
    · left
      rw [show ((0 : Nat) : Int) = 0 from rfl] at q2
      exact ⟨L + 1, u, ν, ⟨by omega, q1.1, q1.2.1, fun K h1 h2 => hno K h1 (by omega), q1.2.2⟩, q2, q3, q4, q5⟩
    · rw [show ((0 : Nat) : Int) = 0 from rfl] at q2
      rw [q2]
      have := ih (L + 1) n ν (by omega) (by omega) q3 (fun K h1 h2 => by
        by_cases c : K = L + 1
        · subst c; exact q1
        · exact hno K h1 (by omega))
      rw [show ((L + 1 + 1 : Nat) : Int) = ((L + 1 : Nat) : Int) + 1 by omega]
      exact this
theorem im_layFresh (h : ib_inv D s) (hD : D ≤ 60000) {μ : ivM} (g : ib_am b s μ) :
    (∃ K u ν, ib_fs s K u ∧ f_X10_layFresh μ = some (1, ν) ∧ ib_am b s ν ∧ ν 110 21 = K ∧ ∀ q, q < K → ν 121 q = u q) ∨ (ib_fn s ∧ ∃ ν, f_X10_layFresh μ = some (0, ν) ∧ ib_am b s ν) :=
  im_lf4 h hD 5 0 iv_fuel μ (by omega) (by decide) g (fun K h1 h2 => by omega)
theorem ib_anew48 {t K : Nat} (ht : t < 8) (hK : K ≤ 5) {l1 : Int} (k : ivM → Option (Int × ivM)) : ∀ (d i n : Nat) (μ : ivM), i + d = K → d < n → μ 110 21 = K → ∃ ν, lp_X10_anew_48 l1 t k n i μ = k ν ∧ (∀ a j, ¬ (a = 115 ∧ 5 * t ≤ j ∧ j < 5 * t + 5) → ν a j = μ a j) ∧ (∀ j, j < i → ν 115 (5 * t + j) = μ 115 (5 * t + j)) ∧ ∀ j, i ≤ j → j < K → ν 115 (5 * t + j) = μ 121 j := by
  intro d
  induction d with
  | zero =>
    intro i n μ hi hn h21
    obtain ⟨n, rfl⟩ : ∃ q, n = q + 1 := ⟨n - 1, by omega⟩
    unfold lp_X10_anew_48
    rw [h21, if_pos (by omega)]
    exact ⟨μ, rfl, fun _ _ _ => rfl, fun _ _ => rfl, fun j _ _ => by omega⟩
  | succ d ih =>
    intro i n μ hi hn h21
    obtain ⟨n, rfl⟩ : ∃ q, n = q + 1 := ⟨n - 1, by omega⟩
    have e1 : iv_wr (iv_wr (5 * (t : Int)) + (i : Int)) = ((5 * t + i : Nat) : Int) := by
      rw [iv_wr_id (x := 5 * (t : Int)) (by omega) (by omega), iv_wr_id (by omega) (by omega)]; omega
    unfold lp_X10_anew_48
    rw [h21, if_neg (by omega), iv_ck_pos (by omega), e1, iv_ck_pos (by omega), iv_wr_succ (by omega), Int.toNat_natCast, Int.toNat_natCast]
    obtain ⟨ν, e, f1, f2, f3⟩ := ih (i + 1) n (iv_upd μ 115 (5 * t + i) (μ 121 i)) (by omega) (by omega) (by rw [iv_upd_na (by omega)]; exact h21)
    refine ⟨ν, e, fun a j h => ?_, fun j hj => by rw [f2 j (by omega), iv_upd_nk (by omega)], fun j h1 h2 => ?_⟩
    · rw [f1 a j h]
      unfold iv_upd
      rw [if_neg (by omega)]
    · by_cases c : j = i
      · subst c; rw [f2 j (by omega), iv_upd_at]
      · rw [f3 j (by omega) h2, iv_upd_na (by omega)]
theorem is_anew (h : ib_inv D s) (hD : D ≤ 60000) {p q : Int} : ib_st D s (f_X9_anew p q) (f_X10_anew p q) := by
  have hT := h.T
  have hP := h.P
  have hY := h.Y
  have g := ib_ag.rfl (s := s)
  have stay : ∀ x, f_X9_anew p q s = some (x, s) → f_X10_anew p q s = some (x, s) → ib_st D s (f_X9_anew p q) (f_X10_anew p q) := fun x a b => ⟨x, s, s, a, b, h⟩
  by_cases c1 : 0 ≤ p ∧ p < ib_P s
  · by_cases c2 : 0 ≤ q ∧ q < ib_T s
    · obtain ⟨a, rfl⟩ : ∃ a : Nat, p = a := ⟨p.toNat, by omega⟩
      obtain ⟨t, rfl⟩ : ∃ a : Nat, q = a := ⟨q.toNat, by omega⟩
      have hm := h.m (t := t) (by omega)
      cases hl : ib_lv s t
      · rcases ib_freshName h hD (μ := s) g with ⟨K, u, ν, a1, a2, a3⟩ | ⟨a1, ν, a2, a3⟩
        · have hK5 := a1.2.1.1
          have hK1 := a1.1
          have hnc := ib_nc_lt5 a1.2.1
          have hpos : ib_nc u K ≠ 0 := by
            intro e
            have := ib_nc_dig (i := 0) a1.2.1.2
            rw [e, if_pos (show 0 < K from hK1)] at this
            have := a1.2.1.2 0 (by omega)
            omega
          have ex : f_X9_anew a t s = some ((K : Int), iv_upd (iv_upd (iv_upd ν 12 t (ib_nc u K)) 13 t (s 110 15)) 14 t ((2 ^ a : Nat) : Int)) := by
            unfold f_X9_anew
            simp only [iv_let, Int.toNat_natCast]
            rw [ib_hasPerson' h g, iv_bnd_some, ib_iz, if_pos c1, ib_hasThing' h g, iv_bnd_some, ib_iz, if_pos c2, ib_isLive h hD g (by omega), iv_bnd_some, ib_iz, hl, if_neg (by decide), a2, iv_bnd_some, if_neg (by omega), iv_ck_pos (by omega), iv_ck_pos (by omega), iv_ck_pos (by omega), iv_upd_na (a := 12) (a' := 11) (by omega), a3.c (a := 11) rfl, hY.1, ib_shl1 (by omega), ib_lengthOf a1.2.1, iv_bnd_some]
          have am0 : ib_am (iv_upd (iv_upd (iv_upd ν 12 t (ib_nc u K)) 13 t (s 110 15)) 14 t ((2 ^ a : Nat) : Int)) s (iv_upd (iv_upd (iv_upd ν 12 t (ib_nc u K)) 13 t (s 110 15)) 14 t ((2 ^ a : Nat) : Int)) := ⟨fun x k h1 h2 => by
            rw [iv_upd_na (by omega), iv_upd_na (by omega), iv_upd_na (by omega)]
            exact a3 x k h2, fun _ _ _ _ => rfl⟩
          rcases im_layFresh h hD am0 with ⟨K2, u2, κ, b1, b2, b3, b4, b5⟩ | ⟨b1, _⟩
          · obtain ⟨e1, e2⟩ := ib_fs_uniq a1 b1
            subst e1
            obtain ⟨κ2, e3, w1, _, w3⟩ := ib_anew48 (t := t) (K := K) (l1 := (a : Int)) (by omega) hK5 (fun (μ38 : ivM) =>
              iv_ck (0 ≤ (t : Int) ∧ (t : Int) < 8) <|
              iv_ck (0 ≤ (t : Int) ∧ (t : Int) < 8) <|
              some (((iv_upd (iv_upd μ38 118 t (μ38 110 15)) 117 t (iv_shl 1 a)) 110 21), (iv_upd (iv_upd μ38 118 t (μ38 110 15)) 117 t (iv_shl 1 a)))) K 0 iv_fuel (iv_upd κ 116 t K) (by omega) (by unfold iv_fuel; omega) (by rw [iv_upd_na (by omega)]; exact b4)
            rw [show ((0 : Nat) : Int) = 0 from rfl] at e3
            have e15 : κ2 110 15 = s 110 15 := by rw [w1 _ _ (by omega), iv_upd_na (by omega), b3.f rfl]
            have e21 : κ2 110 21 = K := by rw [w1 _ _ (by omega), iv_upd_na (by omega), b4]
            refine ⟨(K : Int), _, iv_upd (iv_upd κ2 118 t (s 110 15)) 117 t ((2 ^ a : Nat) : Int), ex, ?_, ?_⟩
            · unfold f_X10_anew
              simp only [iv_let, Int.toNat_natCast]
              rw [ib_isPerson (T := ib_P s) (by omega) ((am0.f rfl).trans hP.1), iv_bnd_some, ib_iz, if_pos c1, ib_isThing (T := ib_T s) (by omega) ((am0.f rfl).trans hT.1), iv_bnd_some, ib_iz, if_pos c2, im_isLiveM h hD am0 (by omega), iv_bnd_some, ib_iz, hl, if_neg (by decide), b2, iv_bnd_some, if_neg (by decide), iv_ck_pos (by omega), b4, e3, iv_ck_pos (by omega), iv_ck_pos (by omega), e15, ib_shl1 (by omega), iv_upd_na (by omega), iv_upd_na (by omega), e21]
            · have fin : ∀ x k, iv_upd (iv_upd κ2 118 t (s 110 15)) 117 t ((2 ^ a : Nat) : Int) x k = if (x = 117 ∧ k = t) then ((2 ^ a : Nat) : Int) else if (x = 118 ∧ k = t) then s 110 15 else κ2 x k := fun _ _ => rfl
              have k2 : ∀ x k, ¬ (x = 115 ∧ 5 * t ≤ k ∧ k < 5 * t + 5) → ¬ (x = 116 ∧ k = t) → κ2 x k = κ x k := fun x k h1 h2 => by
                rw [w1 x k h1]
                unfold iv_upd
                rw [if_neg h2]
              have b0 : ∀ x k, ¬ ((x = 12 ∨ x = 13 ∨ x = 14) ∧ k = t) → iv_upd (iv_upd (iv_upd ν 12 t (ib_nc u K)) 13 t (s 110 15)) 14 t ((2 ^ a : Nat) : Int) x k = ν x k := fun x k h1 => by
                unfold iv_upd
                rw [if_neg (by omega), if_neg (by omega), if_neg (by omega)]
              have e116 : κ2 116 t = K := by rw [w1 _ _ (by omega), iv_upd_at]
              have lo12 : κ2 12 t = ib_nc u K := by rw [k2 _ _ (by omega) (by omega), b3.2 12 t (by omega) (ib_nscr rfl), iv_upd_na (by omega), iv_upd_na (by omega), iv_upd_at]
              have lo13 : κ2 13 t = s 110 15 := by rw [k2 _ _ (by omega) (by omega), b3.2 13 t (by omega) (ib_nscr rfl), iv_upd_na (by omega), iv_upd_at]
              have lo14 : κ2 14 t = ((2 ^ a : Nat) : Int) := by rw [k2 _ _ (by omega) (by omega), b3.2 14 t (by omega) (ib_nscr rfl), iv_upd_at]
              have hsn : ∀ i, i < K → κ2 115 (5 * t + i) = u i := fun i hi => by
                rw [w3 i (by omega) hi, iv_upd_na (by omega), b5 i hi, e2 i hi]
              refine ib_inv_me h (t := t) (by omega) (fun x k h1 h2 h3 => ?_) ?_
              · rw [fin, if_neg (by omega), if_neg (by omega), k2 x k h3 (by omega)]
                by_cases hx : 110 ≤ x
                · exact b3.1 x k hx h1
                · rw [b3.2 x k (by omega) h1, b0 x k (by omega)]
                  exact a3 x k h1
              · have ha2 : 2 ^ a < 2 ^ ib_P s := Nat.pow_lt_pow_right (by omega) (by omega)
                have r117 := fin 117 t
                rw [if_pos ⟨rfl, rfl⟩] at r117
                have r118 := fin 118 t
                rw [if_neg (by omega), if_pos ⟨rfl, rfl⟩] at r118
                have rr : ∀ x k, x ≠ 117 → x ≠ 118 → iv_upd (iv_upd κ2 118 t (s 110 15)) 117 t ((2 ^ a : Nat) : Int) x k = κ2 x k := fun x k h1 h2 => by
                  rw [fin, if_neg (by omega), if_neg (by omega)]
                unfold ib_m1
                simp only [Nat.zero_add, show 11 + 1 = 12 from rfl, show 11 + 2 = 13 from rfl, show 11 + 3 = 14 from rfl]
                rw [r117, r118, rr 116 t (by omega) (by omega), rr 12 t (by omega) (by omega), rr 13 t (by omega) (by omega), rr 14 t (by omega) (by omega), e116, lo12, lo13, lo14, Int.toNat_natCast]
                have hok : ib_ok5 (fun i => iv_upd (iv_upd κ2 118 t (s 110 15)) 117 t ((2 ^ a : Nat) : Int) 115 (5 * t + i)) K := ⟨hK5, fun i hi => by
                  dsimp only
                  rw [rr 115 _ (by omega) (by omega), hsn i hi]
                  exact a1.2.1.2 i hi⟩
                refine ⟨hok, by omega, ⟨fun _ => by omega, fun _ => by omega⟩, ?_, rfl, by omega, by omega, rfl, Int.natCast_nonneg _, by exact_mod_cast ha2, fun q => by omega⟩
                rw [(ib_nc_inj hok a1.2.1).mpr ⟨rfl, fun i hi => by
                  rw [rr 115 _ (by omega) (by omega), hsn i hi]⟩]
          · exact absurd a1 (fun q => ib_fs_fn q b1)
        · have ex : f_X9_anew a t s = some (-3, ν) := by
            unfold f_X9_anew
            simp only [iv_let, Int.toNat_natCast]
            rw [ib_hasPerson' h g, iv_bnd_some, ib_iz, if_pos c1, ib_hasThing' h g, iv_bnd_some, ib_iz, if_pos c2, ib_isLive h hD g (by omega), iv_bnd_some, ib_iz, hl, if_neg (by decide), a2, iv_bnd_some, if_pos rfl]
          rcases ib_layFresh h hD a3 with ⟨K2, u2, κ, b1, _⟩ | ⟨_, κ, b2, b3⟩
          · exact absurd b1 (fun q => ib_fs_fn q a1)
          · refine ⟨-3, ν, κ, ex, ?_, h.ag b3⟩
            unfold f_X10_anew
            simp only [iv_let, Int.toNat_natCast]
            rw [ib_isPerson' h a3, iv_bnd_some, ib_iz, if_pos c1, ib_isThing' h a3, iv_bnd_some, ib_iz, if_pos c2, ib_isLiveM h hD a3 (by omega), iv_bnd_some, ib_iz, hl, if_neg (by decide), b2, iv_bnd_some, if_pos rfl]
      · refine stay (-3) ?_ ?_
        · unfold f_X9_anew
          simp only [iv_let]
          rw [ib_hasPerson' h g, iv_bnd_some, ib_iz, if_pos c1, ib_hasThing' h g, iv_bnd_some, ib_iz, if_pos c2, ib_isLive h hD g (by omega), iv_bnd_some, ib_iz, hl, if_pos rfl]
        · unfold f_X10_anew
          simp only [iv_let]
          rw [ib_isPerson' h g, iv_bnd_some, ib_iz, if_pos c1, ib_isThing' h g, iv_bnd_some, ib_iz, if_pos c2, ib_isLiveM h hD g (by omega), iv_bnd_some, ib_iz, hl, if_pos rfl]
    · refine stay (-1) ?_ ?_
      · unfold f_X9_anew
        simp only [iv_let]
        rw [ib_hasPerson' h g, iv_bnd_some, ib_iz, if_pos c1, ib_hasThing' h g, iv_bnd_some, ib_iz, if_neg c2]
      · unfold f_X10_anew
        simp only [iv_let]
        rw [ib_isPerson' h g, iv_bnd_some, ib_iz, if_pos c1, ib_isThing' h g, iv_bnd_some, ib_iz, if_neg c2]
  · refine stay (-1) ?_ ?_
    · unfold f_X9_anew
      simp only [iv_let]
      rw [ib_hasPerson' h g, iv_bnd_some, ib_iz, if_neg c1]
    · unfold f_X10_anew
      simp only [iv_let]
      rw [ib_isPerson' h g, iv_bnd_some, ib_iz, if_neg c1]
end IBX
