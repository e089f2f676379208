/-! WHAT HOLDS BETWEEN THE CALLS -/
def ib_T (s : ivM) : Nat := (s 110 13).toNat
def ib_P (s : ivM) : Nat := (s 110 14).toNat
def ib_sn (s : ivM) (t : Nat) : Nat → Int := fun i => s 115 (5 * t + i)
def ib_z (s : ivM) (t : Nat) : Nat := (s 116 t).toNat
def ib_kn (s : ivM) (t : Nat) : Nat := (s 117 t).toNat
def ib_lv (s : ivM) (t : Nat) : Bool := decide (t < ib_T s ∧ s 110 15 - s 118 t ≤ 9)
/-- one memory: at a as the class has it, else as the model has it -/
def ib_m1 (T P : Nat) (s : ivM) (a cS oS cZ cK cW o8 : Nat) (day : Int) (t : Nat) : Prop :=
  ib_ok5 (fun i => s cS (oS + 5 * t + i)) (s cZ (o8 + t)).toNat ∧ 0 ≤ s cZ (o8 + t) ∧ (t < T ↔ 0 < s cZ (o8 + t)) ∧ s (a + 1) t = ib_nc (fun i => s cS (oS + 5 * t + i)) (s cZ (o8 + t)).toNat ∧
  s (a + 2) t = s cW (o8 + t) ∧ 0 ≤ s cW (o8 + t) ∧ s cW (o8 + t) ≤ day ∧ s (a + 3) t = s cK (o8 + t) ∧ 0 ≤ s cK (o8 + t) ∧ s cK (o8 + t) < ((2 ^ P : Nat) : Int) ∧ (T ≤ t ∨ 9 < day - s cW (o8 + t) → s cK (o8 + t) = 0)
def ib_mm (D : Int) (T P : Nat) (s : ivM) (a cS oS cZ cK cW o8 : Nat) (day : Int) : Prop :=
  s a 3 = day ∧ 0 ≤ day ∧ day ≤ D ∧ ∀ t, t < 8 → ib_m1 T P s a cS oS cZ cK cW o8 day t
def ib_tx (s : ivM) : Prop := ∃ n : Nat, n ≤ 96 ∧ s 3 1 = n ∧ s 110 17 = n ∧ ∀ k, k < n → s 4 k = s 120 k ∧ 0 ≤ s 120 k ∧ s 120 k < 256
def ib_ho (s : ivM) : Prop := 0 ≤ s 110 13 ∧ s 110 13 ≤ 8 ∧ 0 ≤ s 110 14 ∧ s 110 14 ≤ 6 ∧ s 9 2 = s 110 13 ∧ s 9 3 = s 110 14 ∧ s 9 1 = s 110 12 ∧ 0 ≤ s 110 12 ∧ s 110 12 ≤ 3 ∧
  ∀ p : Nat, p < 6 → ((p : Int) < s 110 14 → s 10 p = s 119 p ∧ 1 ≤ s 119 p ∧ s 119 p ≤ 9) ∧ (s 110 14 ≤ p → s 10 p = 0)
def ib_so (s : ivM) : Prop := 0 ≤ s 110 26 ∧ s 110 26 ≤ 16 ∧ s 105 0 = s 110 26 ∧ ∀ i : Nat, (i : Int) < s 110 26 → s 106 i = s 126 i ∧ s 107 i = s 127 i ∧ 0 ≤ s 126 i ∧ s 126 i < 8 ∧ 1 ≤ s 127 i ∧ s 127 i < 256
def ib_sl (D : Int) (s : ivM) : Prop := ∀ q : Nat, q < 2 → s (16 + 4 * q) 4 = s 130 q ∧ (s 130 q = 0 ∨ s 130 q = 1) ∧ (s 130 q = 1 → ib_mm D (ib_T s) (ib_P s) s (16 + 4 * q) 131 (40 * q) 132 133 134 (8 * q) (s 135 q))
def ib_inv (D : Int) (s : ivM) : Prop := ib_tx s ∧ ib_ho s ∧ ib_mm D (ib_T s) (ib_P s) s 11 115 0 116 117 118 0 (s 110 15) ∧ ib_sl D s ∧ ib_so s
section IBI
variable {D : Int} {s μ : ivM}
theorem ib_inv.T (h : ib_inv D s) : s 110 13 = ib_T s ∧ ib_T s ≤ 8 ∧ s 9 2 = ib_T s := by
  have := h.2.1
  unfold ib_ho at this
  unfold ib_T
  omega
theorem ib_inv.P (h : ib_inv D s) : s 110 14 = ib_P s ∧ ib_P s ≤ 6 ∧ s 9 3 = ib_P s := by
  have := h.2.1
  unfold ib_ho at this
  unfold ib_P
  omega
theorem ib_inv.R (h : ib_inv D s) : s 9 1 = s 110 12 ∧ 0 ≤ s 110 12 ∧ s 110 12 ≤ 3 := by
  have := h.2.1
  unfold ib_ho at this
  omega
theorem ib_inv.B (h : ib_inv D s) {p : Nat} (hp : p < 6) : (p < ib_P s → s 10 p = s 119 p ∧ 1 ≤ s 119 p ∧ s 119 p ≤ 9) ∧ (ib_P s ≤ p → s 10 p = 0) := by
  have h1 := h.2.1.2.2.2.2.2.2.2.2.2 p hp
  have h2 := h.P.1
  rw [h2] at h1
  exact ⟨fun c => h1.1 (by omega), fun c => h1.2 (by omega)⟩
theorem ib_inv.Y (h : ib_inv D s) : s 11 3 = s 110 15 ∧ 0 ≤ s 110 15 ∧ s 110 15 ≤ D := ⟨h.2.2.1.1, h.2.2.1.2.1, h.2.2.1.2.2.1⟩
theorem ib_inv.m (h : ib_inv D s) {t : Nat} (ht : t < 8) : ib_ok5 (ib_sn s t) (ib_z s t) ∧ s 116 t = ib_z s t ∧ (t < ib_T s ↔ 0 < ib_z s t) ∧ s 12 t = ib_nc (ib_sn s t) (ib_z s t) ∧
    s 13 t = s 118 t ∧ 0 ≤ s 118 t ∧ s 118 t ≤ s 110 15 ∧ s 14 t = ib_kn s t ∧ s 117 t = ib_kn s t ∧ ib_kn s t < 2 ^ ib_P s ∧ (ib_T s ≤ t ∨ 9 < s 110 15 - s 118 t → ib_kn s t = 0) := by
  have h1 := h.2.2.1.2.2.2 t ht
  unfold ib_m1 at h1
  simp only [Nat.zero_add] at h1
  obtain ⟨a1, a2, a3, a4, a5, a6, a7, a8, a9, a10, a11⟩ := h1
  have e : s 117 t = ib_kn s t := by unfold ib_kn; omega
  refine ⟨a1, ?_, ?_, a4, a5, a6, a7, a8.trans e, e, ?_, fun c => ?_⟩
  · unfold ib_z; omega
  · unfold ib_z; rw [a3]; omega
  · rw [e] at a10; exact_mod_cast a10
  · have := a11 c; unfold ib_kn; omega
/-- cells that are never scratch -/
def ib_scb (a : Nat) : Bool := !(Nat.ble 5 a && Nat.ble a 8 || Nat.ble 24 a && Nat.ble a 104 || Nat.beq a 108 || Nat.beq a 109 || Nat.ble 111 a && Nat.ble a 114 || Nat.ble 121 a && Nat.ble a 125 || Nat.beq a 128 || Nat.beq a 129 || Nat.beq a 110)
def ib_scf (k : Nat) : Bool := !(Nat.ble 4 k && Nat.ble k 6 || Nat.beq k 18 || Nat.beq k 19 || Nat.beq k 21)
theorem ib_ag.c (g : ib_ag s μ) {a k : Nat} (h : ib_scb a = true) : μ a k = s a k := by
  apply g
  unfold ib_scb at h
  simp only [Bool.not_eq_true', Bool.or_eq_false_iff, Bool.and_eq_false_iff] at h
  unfold ib_scr
  have e1 : ∀ x y, Nat.ble x y = false → y < x := fun x y e => by
    rcases Nat.lt_or_ge y x with c | c
    · exact c
    · rw [Nat.ble_eq_true_of_le c] at e; cases e
  have e2 : ∀ x y, Nat.beq x y = false → x ≠ y := fun x y e c => by subst c; rw [Nat.beq_refl] at e; cases e
  obtain ⟨⟨⟨⟨⟨⟨⟨⟨h1, h2⟩, h3⟩, h4⟩, h5⟩, h6⟩, h7⟩, h8⟩, h9⟩ := h
  have := e2 _ _ h3
  have := e2 _ _ h4
  have := e2 _ _ h7
  have := e2 _ _ h8
  have := e2 _ _ h9
  have := h1.imp (e1 _ _) (e1 _ _)
  have := h2.imp (e1 _ _) (e1 _ _)
  have := h5.imp (e1 _ _) (e1 _ _)
  have := h6.imp (e1 _ _) (e1 _ _)
  omega
theorem ib_ag.f (g : ib_ag s μ) {k : Nat} (h : ib_scf k = true) : μ 110 k = s 110 k := by
  apply g
  unfold ib_scf at h
  simp only [Bool.not_eq_true', Bool.or_eq_false_iff, Bool.and_eq_false_iff] at h
  unfold ib_scr
  have e1 : ∀ x y, Nat.ble x y = false → y < x := fun x y e => by
    rcases Nat.lt_or_ge y x with c | c
    · exact c
    · rw [Nat.ble_eq_true_of_le c] at e; cases e
  have e2 : ∀ x y, Nat.beq x y = false → x ≠ y := fun x y e c => by subst c; rw [Nat.beq_refl] at e; cases e
  obtain ⟨⟨⟨h1, h2⟩, h3⟩, h4⟩ := h
  have := e2 _ _ h2
  have := e2 _ _ h3
  have := e2 _ _ h4
  have := h1.imp (e1 _ _) (e1 _ _)
  omega
/-! liveness -/
theorem ib_isLive (h : ib_inv D s) (hD : D ≤ 60000) (g : ib_ag s μ) {t : Nat} (ht : t < 8) : f_X2_isLive t μ = some (if ib_lv s t then 1 else 0, μ) := by
  have hm := h.m ht
  have hY := h.Y
  have hpos : 0 < ib_z s t → ib_nc (ib_sn s t) (ib_z s t) ≠ 0 := by
    intro hz e
    have := ib_nc_dig (i := 0) hm.1.2
    rw [e, if_pos hz] at this
    have := hm.1.2 0 hz
    omega
  have hzero : ib_z s t = 0 → ib_nc (ib_sn s t) (ib_z s t) = 0 := by intro e; rw [e]; rfl
  have e12 : μ 12 t = s 12 t := g.c rfl
  have e13 : μ 13 t = s 13 t := g.c rfl
  have e11 : μ 11 3 = s 11 3 := g.c rfl
  simp only [f_X2_isLive, iv_let, Int.toNat_natCast]
  rw [if_neg (by omega), if_neg (by omega), iv_ck_pos (by omega), e12, hm.2.2.2.1, e11, e13, hY.1, hm.2.2.2.2.1]
  unfold ib_lv
  by_cases hz : 0 < ib_z s t
  · rw [if_neg (by have := hpos hz; omega), iv_ck_pos (by omega), iv_wr_id (by omega) (by omega)]
    by_cases hd : s 110 15 - s 118 t ≤ 9
    · rw [if_neg (by omega), decide_eq_true ⟨hm.2.2.1.mpr hz, hd⟩]; rfl
    · rw [if_pos (by omega), decide_eq_false (fun c => hd c.2)]; rfl
  · rw [if_pos (by rw [hzero (by omega)]; rfl), decide_eq_false (fun c => hz (hm.2.2.1.mp c.1))]; rfl
theorem ib_isLiveM (h : ib_inv D s) (hD : D ≤ 60000) (g : ib_ag s μ) {t : Nat} (ht : t < ib_T s) : f_X10_isLive t μ = some (if ib_lv s t then 1 else 0, μ) := by
  have hT := h.T
  have hm := h.m (t := t) (by omega)
  have hY := h.Y
  have e1 : μ 118 t = s 118 t := g.c rfl
  have e2 : μ 110 15 = s 110 15 := g.f rfl
  simp only [f_X10_isLive, iv_let, Int.toNat_natCast]
  rw [iv_ck_pos (by omega), e1, e2, iv_wr_id (by omega) (by omega)]
  unfold ib_lv
  by_cases hd : s 110 15 - s 118 t ≤ 9
  · rw [if_neg (by omega), decide_eq_true ⟨ht, hd⟩]; rfl
  · rw [if_pos (by omega), decide_eq_false (fun c => hd c.2)]; rfl
theorem ib_liveOnes_lp (h : ib_inv D s) (hD : D ≤ 60000) (g : ib_ag s μ) : ∀ (d k n : Nat), k + d = 8 → d < n → lp_X2_liveOnes_4 n (ib_set (ib_lv s) k) k μ = some (((ib_set (ib_lv s) 8 : Nat) : Int), μ) := by
  intro d
  induction d with
  | zero =>
    intro k n hk hn
    obtain ⟨n, rfl⟩ : ∃ q, n = q + 1 := ⟨n - 1, by omega⟩
    unfold lp_X2_liveOnes_4
    rw [if_pos (by omega), show k = 8 by omega]
  | succ d ih =>
    intro k n hk hn
    obtain ⟨n, rfl⟩ : ∃ q, n = q + 1 := ⟨n - 1, by omega⟩
    unfold lp_X2_liveOnes_4
    rw [if_neg (by omega), ib_isLive h hD g (by omega), iv_bnd_some]
    simp only [iv_let]
    rw [iv_wr_succ (by omega), ← ih (k + 1) n (by omega) (by omega)]
    cases hb : ib_lv s k
    · rw [ib_set_f hb]; rfl
    · rw [ib_set_t hb (by omega)]; rfl
theorem ib_liveOnes (h : ib_inv D s) (hD : D ≤ 60000) (g : ib_ag s μ) : f_X2_liveOnes μ = some (((ib_set (ib_lv s) 8 : Nat) : Int), μ) :=
  ib_liveOnes_lp h hD g 8 0 iv_fuel (by omega) (by decide)
theorem ib_liveSet_lp (h : ib_inv D s) (hD : D ≤ 60000) (g : ib_ag s μ) : ∀ (d k n : Nat), k + d = ib_T s → d < n → lp_X10_liveSet_4 n (ib_set (ib_lv s) k) k μ = some (((ib_set (ib_lv s) (ib_T s) : Nat) : Int), μ) := by
  have hT := h.T
  have eT : μ 110 13 = s 110 13 := g.f rfl
  intro d
  induction d with
  | zero =>
    intro k n hk hn
    obtain ⟨n, rfl⟩ : ∃ q, n = q + 1 := ⟨n - 1, by omega⟩
    unfold lp_X10_liveSet_4
    rw [if_pos (by omega), show k = ib_T s by omega]
  | succ d ih =>
    intro k n hk hn
    obtain ⟨n, rfl⟩ : ∃ q, n = q + 1 := ⟨n - 1, by omega⟩
    unfold lp_X10_liveSet_4
    rw [if_neg (by omega), ib_isLiveM h hD g (by omega), iv_bnd_some]
    simp only [iv_let]
    rw [iv_wr_succ (by omega), ← ih (k + 1) n (by omega) (by omega)]
    cases hb : ib_lv s k
    · rw [ib_set_f0 hb (by omega)]; rfl
    · rw [ib_set_t hb (by omega)]; rfl
theorem ib_lvT : ib_set (ib_lv s) (ib_T s) = ib_set (ib_lv s) 8 ∨ 8 < ib_T s := by
  by_cases hT : ib_T s ≤ 8
  · left
    apply ib_set_ext
    intro i
    unfold ib_lv
    by_cases c : i < ib_T s
    · rw [decide_eq_true c, decide_eq_true (show i < 8 by omega)]
    · simp [c]
  · right; omega
theorem ib_liveSet (h : ib_inv D s) (hD : D ≤ 60000) (g : ib_ag s μ) : f_X10_liveSet μ = some (((ib_set (ib_lv s) 8 : Nat) : Int), μ) := by
  have hT := h.T
  have := ib_liveSet_lp h hD g (ib_T s) 0 iv_fuel (by omega) (by unfold iv_fuel; omega)
  rw [(ib_lvT (s := s)).resolve_right (by omega)] at this
  exact this
end IBI
