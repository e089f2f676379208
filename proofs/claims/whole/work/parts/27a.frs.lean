/-! FRESH NAMES: WORDS -/
section IBF
theorem ib_D_ext {u v s : Nat → Int} : ∀ i j, (∀ q, q < i → v q = u q) → ib_D v s i j = ib_D u s i j
  | 0, j, _ => by rw [ib_D_0, ib_D_0]
  | i + 1, 0, _ => by rw [ib_D_s0, ib_D_s0]
  | i + 1, j + 1, h => by
    rw [ib_D_ss, ib_D_ss, ib_D_ext i j (fun q hq => h q (by omega)), ib_D_ext i (j + 1) (fun q hq => h q (by omega)), ib_D_ext (i + 1) j h, h i (by omega)]
theorem ib_D_i1 {u s : Nat → Int} {i j : Nat} : ib_D u s (i + 1) j ≤ ib_D u s i j + 1 := by
  cases j with
  | zero => rw [ib_D_s0, ib_D_i0]; exact Nat.le_refl _
  | succ j => rw [ib_D_ss]; omega
theorem ib_D_j1 {u s : Nat → Int} {i j : Nat} : ib_D u s i (j + 1) ≤ ib_D u s i j + 1 := by
  cases i with
  | zero => rw [ib_D_0, ib_D_0]; exact Nat.le_refl _
  | succ i => rw [ib_D_ss]; omega
theorem ib_D_ij1 {u s : Nat → Int} {i j : Nat} : ib_D u s (i + 1) (j + 1) ≤ ib_D u s i j + 1 := by
  rw [ib_D_ss]
  split <;> omega
theorem ib_D_more {u s : Nat → Int} {a j : Nat} : ∀ m n, ib_D u s (a + m) (j + n) ≤ ib_D u s a j + max m n
  | 0, 0 => by show ib_D u s a j ≤ _; omega
  | 0, n + 1 => by
    have h1 := ib_D_more (u := u) (s := s) (a := a) (j := j) 0 n
    have h2 := ib_D_j1 (u := u) (s := s) (i := a + 0) (j := j + n)
    rw [show j + (n + 1) = j + n + 1 by omega]
    omega
  | m + 1, 0 => by
    have h1 := ib_D_more (u := u) (s := s) (a := a) (j := j) m 0
    have h2 := ib_D_i1 (u := u) (s := s) (i := a + m) (j := j + 0)
    rw [show a + (m + 1) = a + m + 1 by omega]
    omega
  | m + 1, n + 1 => by
    have h1 := ib_D_more (u := u) (s := s) (a := a) (j := j) m n
    have h2 := ib_D_ij1 (u := u) (s := s) (i := a + m) (j := j + n)
    rw [show a + (m + 1) = a + m + 1 by omega, show j + (n + 1) = j + n + 1 by omega]
    omega
/-- far from all live names -/
def ib_far (s : ivM) (u : Nat → Int) (L : Nat) : Prop := ∀ t, ib_lv s t = true → s 110 12 < (ib_D u (ib_sn s t) L (ib_z s t) : Nat)
theorem ib_far_ext {s : ivM} {u v : Nat → Int} {L : Nat} (h : ∀ q, q < L → v q = u q) : ib_far s v L ↔ ib_far s u L := by
  unfold ib_far
  constructor
  · intro f t ht
    rw [← ib_D_ext L (ib_z s t) h]; exact f t ht
  · intro f t ht
    rw [ib_D_ext L (ib_z s t) h]; exact f t ht
/-- sounds as one number, by which like long names stand in order -/
def ib_cd (u : Nat → Int) : Nat → Int
  | 0 => 0
  | n + 1 => 6 * ib_cd u n + u n
theorem ib_cd_b {u : Nat → Int} : ∀ n, (∀ i, i < n → 0 ≤ u i ∧ u i < 6) → 0 ≤ ib_cd u n ∧ ib_cd u n < ((6 ^ n : Nat) : Int)
  | 0, _ => ⟨Int.le_refl 0, (show (0 : Int) < 1 by decide)⟩
  | n + 1, h => by
    have h1 := ib_cd_b n (fun i hi => h i (by omega))
    have h2 := h n (by omega)
    have e : ((6 ^ (n + 1) : Nat) : Int) = 6 * ((6 ^ n : Nat) : Int) := by rw [Nat.pow_succ]; omega
    show 0 ≤ 6 * ib_cd u n + u n ∧ 6 * ib_cd u n + u n < _
    omega
theorem ib_cd_ext {u v : Nat → Int} : ∀ n, (∀ q, q < n → v q = u q) → ib_cd v n = ib_cd u n
  | 0, _ => rfl
  | n + 1, h => by
    show 6 * ib_cd v n + v n = 6 * ib_cd u n + u n
    rw [ib_cd_ext n (fun q hq => h q (by omega)), h n (by omega)]
/-- ahead of a start of k sounds -/
def ib_lx (v u : Nat → Int) (k : Nat) : Prop := ∃ i, i < k ∧ (∀ j, j < i → v j = u j) ∧ v i < u i
theorem ib_lx_cd {u v : Nat → Int} : ∀ n, (∀ i, i < n → 0 ≤ u i ∧ u i < 6) → (∀ i, i < n → 0 ≤ v i ∧ v i < 6) → ib_lx v u n → ib_cd v n < ib_cd u n
  | 0, _, _, ⟨i, h, _⟩ => by omega
  | n + 1, hu, hv, ⟨i, h1, h2, h3⟩ => by
    have a := hu n (by omega)
    have b := hv n (by omega)
    show 6 * ib_cd v n + v n < 6 * ib_cd u n + u n
    by_cases c : i = n
    · subst c
      rw [ib_cd_ext i h2]; omega
    · have := ib_lx_cd n (fun i hi => hu i (by omega)) (fun i hi => hv i (by omega)) ⟨i, by omega, h2, h3⟩
      omega
theorem ib_lx_tri (u v : Nat → Int) : ∀ n, (∀ q, q < n → v q = u q) ∨ ib_lx v u n ∨ ib_lx u v n
  | 0 => Or.inl (fun q hq => by omega)
  | n + 1 => by
    rcases ib_lx_tri u v n with h | ⟨i, h1, h2, h3⟩ | ⟨i, h1, h2, h3⟩
    · rcases Int.lt_trichotomy (v n) (u n) with c | c | c
      · exact Or.inr (Or.inl ⟨n, by omega, h, c⟩)
      · refine Or.inl (fun q hq => ?_)
        by_cases e : q = n
        · subst e; exact c
        · exact h q (by omega)
      · exact Or.inr (Or.inr ⟨n, by omega, fun j hj => (h j hj).symm, c⟩)
    · exact Or.inr (Or.inl ⟨i, by omega, h2, h3⟩)
    · exact Or.inr (Or.inr ⟨i, by omega, h2, h3⟩)
theorem ib_cd_lx {u v : Nat → Int} {n : Nat} (hu : ∀ i, i < n → 0 ≤ u i ∧ u i < 6) (hv : ∀ i, i < n → 0 ≤ v i ∧ v i < 6) (h : ib_cd v n < ib_cd u n) : ib_lx v u n := by
  rcases ib_lx_tri u v n with c | c | c
  · rw [ib_cd_ext n c] at h; omega
  · exact c
  · have := ib_lx_cd n hv hu c; omega
theorem ib_cd_inj {u v : Nat → Int} {n : Nat} (hu : ∀ i, i < n → 0 ≤ u i ∧ u i < 6) (hv : ∀ i, i < n → 0 ≤ v i ∧ v i < 6) (h : ib_cd v n = ib_cd u n) : ∀ q, q < n → v q = u q := by
  rcases ib_lx_tri u v n with c | c | c
  · exact c
  · have := ib_lx_cd n hu hv c; omega
  · have := ib_lx_cd n hv hu c; omega
/-- the fresh name; that there is none -/
def ib_fs (s : ivM) (L : Nat) (u : Nat → Int) : Prop := 1 ≤ L ∧ ib_ok5 u L ∧ ib_far s u L ∧ (∀ K, 1 ≤ K → K < L → ∀ v, ib_ok5 v K → ¬ ib_far s v K) ∧ ∀ v, ib_ok5 v L → ib_cd v L < ib_cd u L → ¬ ib_far s v L
def ib_fn (s : ivM) : Prop := ∀ K, 1 ≤ K → K ≤ 5 → ∀ v, ib_ok5 v K → ¬ ib_far s v K
theorem ib_fs_uniq {s : ivM} {L K : Nat} {u v : Nat → Int} (h : ib_fs s L u) (g : ib_fs s K v) : L = K ∧ ∀ q, q < L → v q = u q := by
  obtain ⟨h1, h2, h3, h4, h5⟩ := h
  obtain ⟨g1, g2, g3, g4, g5⟩ := g
  have e : L = K := by
    rcases Nat.lt_trichotomy L K with c | c | c
    · exact absurd h3 (g4 L h1 c u h2)
    · exact c
    · exact absurd g3 (h4 K g1 c v g2)
  subst e
  refine ⟨rfl, ib_cd_inj h2.2 g2.2 ?_⟩
  rcases Int.lt_trichotomy (ib_cd v L) (ib_cd u L) with c | c | c
  · exact absurd g3 (h5 v g2 c)
  · exact c
  · exact absurd h3 (g5 u h2 c)
theorem ib_fs_fn {s : ivM} {L : Nat} {u : Nat → Int} (h : ib_fs s L u) (g : ib_fn s) : False := g L h.1 h.2.1.1 u h.2.1 h.2.2.1
end IBF
/-! FRESH NAMES: THE MODEL -/
section IBF
variable {D : Int} {s : ivM}
theorem ib_lf35 {l1 l2 l3 : Int} (k : ivM → Option (Int × ivM)) : ∀ (i n : Nat) (l4 : Int) (μ : ivM), i ≤ 5 → i < n → 0 ≤ l4 → l4 < ((6 ^ i : Nat) : Int) →
    ∃ ν, lp_X10_layFresh_35 l1 l2 l3 k n l4 ((i : Int) - 1) μ = k ν ∧ ib_fr 121 121 μ ν ∧ (∀ q, i ≤ q → ν 121 q = μ 121 q) ∧ (∀ q, q < i → 0 ≤ ν 121 q ∧ ν 121 q < 6) ∧ ib_cd (fun q => ν 121 q) i = l4 := by
  intro i
  induction i with
  | zero =>
    intro n l4 μ hi hn h0 h1
    obtain ⟨n, rfl⟩ : ∃ q, n = q + 1 := ⟨n - 1, by omega⟩
    have h1 : l4 < 1 := h1
    unfold lp_X10_layFresh_35
    rw [if_pos (by omega)]
    exact ⟨μ, rfl, ib_fr.rfl, fun _ _ => rfl, fun q hq => by omega, by show (0 : Int) = l4; omega⟩
  | succ i ih =>
    intro n l4 μ hi hn h0 h1
    obtain ⟨n, rfl⟩ : ∃ q, n = q + 1 := ⟨n - 1, by omega⟩
    have e6 : ((6 ^ (i + 1) : Nat) : Int) = 6 * ((6 ^ i : Nat) : Int) := by rw [Nat.pow_succ]; omega
    have hb : (6 ^ (i + 1) : Nat) ≤ 7776 := Nat.pow_le_pow_right (n := 6) (j := 5) (by omega) hi
    unfold lp_X10_layFresh_35
    rw [show ((i + 1 : Nat) : Int) - 1 = (i : Int) by omega, if_neg (by omega), iv_ck_pos (by omega), Int.toNat_natCast, iv_div_id (by omega) (by omega) (by omega) (by omega), iv_rem_id (by omega) (by omega) (by omega) (by omega), iv_wr_id (by omega) (by omega), show (i : Int) + (-1) = (i : Int) - 1 by omega]
    obtain ⟨ν, e, f, g, b, c⟩ := ih n (l4 / 6) (iv_upd μ 121 i (l4 % 6)) (by omega) (by omega) (by omega) (by omega)
    have ei : ν 121 i = l4 % 6 := by rw [g i (Nat.le_refl i), iv_upd_at]
    refine ⟨ν, e, (ib_fr.rfl.upd (by omega)).tr f, fun q hq => ?_, fun q hq => ?_, ?_⟩
    · rw [g q (by omega), iv_upd_nk (by omega)]
    · by_cases c : q = i
      · subst c; rw [ei]; omega
      · exact b q (by omega)
    · show 6 * ib_cd (fun q => ν 121 q) i + ν 121 i = l4
      rw [c, ei]; omega
theorem ib_r122 : ∀ a k : Nat, 121 ≤ a → a ≤ 122 → ib_scr a k := fun a k _ _ => by unfold ib_scr; omega
theorem ib_lf71 (h : ib_inv D s) (hD : D ≤ 60000) {l1 l2 l3 : Int} {L : Nat} {u : Nat → Int} (hu : ib_ok5 u L) (k : Int → ivM → Option (Int × ivM)) : ∀ (d t n : Nat) (x : Int) (μ : ivM), t + d = ib_T s → d < n → ib_ag s μ → μ 110 21 = L → (∀ q, q < L → μ 121 q = u q) →
    ((x = 1 ∧ ∀ o, o < t → ib_lv s o = true → s 110 12 < (ib_D u (ib_sn s o) L (ib_z s o) : Nat)) ∨ (x = 0 ∧ ¬ ib_far s u L)) →
    ∃ y ν, lp_X10_layFresh_71 l1 l2 l3 k n x t μ = k y ν ∧ ib_fr 122 122 μ ν ∧ ((y = 1 ∧ ib_far s u L) ∨ (y = 0 ∧ ¬ ib_far s u L)) := by
  have hT := h.T
  intro d
  induction d with
  | zero =>
    intro t n x μ ht hn g h21 hm hx
    obtain ⟨n, rfl⟩ : ∃ q, n = q + 1 := ⟨n - 1, by omega⟩
    unfold lp_X10_layFresh_71
    rw [g.f rfl, hT.1, if_pos (by omega)]
    refine ⟨x, μ, rfl, ib_fr.rfl, ?_⟩
    rcases hx with ⟨h1, h2⟩ | h1
    · exact Or.inl ⟨h1, fun o ho => h2 o (by have := ib_lv_lt ho; omega) ho⟩
    · exact Or.inr h1
  | succ d ih =>
    intro t n x μ ht hn g h21 hm hx
    obtain ⟨n, rfl⟩ : ∃ q, n = q + 1 := ⟨n - 1, by omega⟩
    unfold lp_X10_layFresh_71
    simp only [iv_let]
    rw [g.f rfl, hT.1, if_neg (by omega)]
    rcases hx with ⟨h1, h2⟩ | ⟨h1, h2⟩
    · subst h1
      have hmt := h.m (t := t) (by omega)
      rw [if_neg (by decide), ib_isLiveM h hD g (by omega), iv_bnd_some, ib_iz, iv_wr_succ (by omega)]
      cases hl : ib_lv s t
      · rw [if_neg (by decide)]
        exact ih (t + 1) n 1 μ (by omega) (by omega) g h21 hm (Or.inl ⟨rfl, fun o ho hlo => by
          by_cases c : o = t
          · subst c; rw [hl] at hlo; cases hlo
          · exact h2 o (by omega) hlo⟩)
      · obtain ⟨ν, e, f⟩ := ib_offTried (t := t) (p := L) (z := ib_z s t) (u := u) (v := ib_sn s t) (by omega) hmt.1.1 hu.1 h21 (by rw [g.c (a := 116) rfl]; exact hmt.2.1) (fun q hq => by rw [g.c (a := 115) rfl]; rfl) hm
        have g2 : ib_ag s ν := g.fr f (fun a k h1 h2 => ib_r122 a k (by omega) h2)
        rw [if_pos rfl, e, iv_bnd_some, g2.f rfl]
        by_cases c : ((ib_D u (ib_sn s t) L (ib_z s t) : Nat) : Int) ≤ s 110 12
        · rw [if_pos c]
          obtain ⟨y, κ, e2, f2, r2⟩ := ih (t + 1) n 0 ν (by omega) (by omega) g2 (by rw [f _ _ (by omega)]; exact h21) (fun q hq => by rw [f _ _ (by omega)]; exact hm q hq) (Or.inr ⟨rfl, fun q => by have := q t hl; omega⟩)
          exact ⟨y, κ, e2, f.tr f2, r2⟩
        · rw [if_neg c]
          obtain ⟨y, κ, e2, f2, r2⟩ := ih (t + 1) n 1 ν (by omega) (by omega) g2 (by rw [f _ _ (by omega)]; exact h21) (fun q hq => by rw [f _ _ (by omega)]; exact hm q hq) (Or.inl ⟨rfl, fun o ho hlo => by
            by_cases c2 : o = t
            · subst c2; omega
            · exact h2 o (by omega) hlo⟩)
          exact ⟨y, κ, e2, f.tr f2, r2⟩
    · subst h1
      rw [if_pos rfl]
      exact ⟨0, μ, rfl, ib_fr.rfl, Or.inr ⟨rfl, h2⟩⟩
def ib_fo (s : ivM) (L : Nat) (u : Nat → Int) : Prop := ib_ok5 u L ∧ ib_far s u L ∧ ∀ v, ib_ok5 v L → ib_cd v L < ib_cd u L → ¬ ib_far s v L
theorem ib_lf17 (h : ib_inv D s) (hD : D ≤ 60000) {L : Nat} (hL1 : 1 ≤ L) (hL : L ≤ 5) (k : ivM → Option (Int × ivM)) : ∀ (d c n : Nat) (μ : ivM), c + d = 6 ^ L → d < n → ib_ag s μ → (∀ v, ib_ok5 v L → ib_cd v L < c → ¬ ib_far s v L) →
    (∃ u ν, ib_fo s L u ∧ lp_X10_layFresh_17 ((6 ^ L : Nat) : Int) L k n c μ = some (1, ν) ∧ ib_ag s ν ∧ ν 110 21 = L ∧ ∀ q, q < L → ν 121 q = u q) ∨ ((∀ v, ib_ok5 v L → ¬ ib_far s v L) ∧ ∃ ν, lp_X10_layFresh_17 ((6 ^ L : Nat) : Int) L k n c μ = k ν ∧ ib_ag s ν) := by
  have hT := h.T
  have hb : 6 ^ L ≤ 7776 := Nat.pow_le_pow_right (n := 6) (j := 5) (by omega) hL
  intro d
  induction d with
  | zero =>
    intro c n μ hc hn g hno
    obtain ⟨n, rfl⟩ : ∃ q, n = q + 1 := ⟨n - 1, by omega⟩
    right
    refine ⟨fun v hv => hno v hv (by have := (ib_cd_b L hv.2).2; omega), μ, ?_, g⟩
    unfold lp_X10_layFresh_17
    rw [if_pos (by omega)]
  | succ d ih =>
    intro c n μ hc hn g hno
    obtain ⟨n, rfl⟩ : ∃ q, n = q + 1 := ⟨n - 1, by omega⟩
    unfold lp_X10_layFresh_17
    rw [if_neg (by omega), iv_wr_id (x := (L : Int) - 1) (by omega) (by omega)]
    obtain ⟨μ1, e1, f1, _, b1, c1⟩ := ib_lf35 (l1 := ((6 ^ L : Nat) : Int)) (l2 := (L : Int)) (l3 := (c : Int)) (fun (μ8 : ivM) =>
        lp_X10_layFresh_71 ((6 ^ L : Nat) : Int) L c (fun (w35 : Int) (μ37 : ivM) =>
          if w35 = 0 then
            lp_X10_layFresh_17 ((6 ^ L : Nat) : Int) L k n (iv_wr ((c : Int) + 1)) μ37
          else
            some (1, μ37)) iv_fuel 1 0 μ8) L iv_fuel (c : Int) (iv_upd μ 110 21 L) hL (by unfold iv_fuel; omega) (by omega) (by omega)
    have g0 : ib_ag s (iv_upd μ 110 21 L) := g.upd (by unfold ib_scr; omega)
    have g1 : ib_ag s μ1 := g0.fr f1 (fun a k h1 h2 => ib_r122 a k h1 (by omega))
    have h21 : μ1 110 21 = L := by rw [f1 _ _ (by omega), iv_upd_at]
    have hok : ib_ok5 (fun q => μ1 121 q) L := ⟨hL, b1⟩
    rw [e1]
    obtain ⟨y, μ2, e2, f2, r2⟩ := ib_lf71 h hD (l1 := ((6 ^ L : Nat) : Int)) (l2 := (L : Int)) (l3 := (c : Int)) hok (fun (w35 : Int) (μ37 : ivM) =>
          if w35 = 0 then
            lp_X10_layFresh_17 ((6 ^ L : Nat) : Int) L k n (iv_wr ((c : Int) + 1)) μ37
          else
            some (1, μ37)) (ib_T s) 0 iv_fuel 1 μ1 (by omega) (by unfold iv_fuel; omega) g1 h21 (fun q hq => rfl) (Or.inl ⟨rfl, fun o ho => by omega⟩)
    rw [show ((0 : Nat) : Int) = 0 from rfl] at e2
    rw [e2]
    have g2 : ib_ag s μ2 := g1.fr f2 (fun a k h1 h2 => ib_r122 a k (by omega) h2)
    rcases r2 with ⟨r1, r2⟩ | ⟨r1, r2⟩
    · left
      subst r1
      rw [if_neg (by decide)]
      refine ⟨fun q => μ1 121 q, μ2, ⟨hok, r2, fun v hv hlt => hno v hv (by omega)⟩, rfl, g2, by rw [f2 _ _ (by omega)]; exact h21, fun q hq => by rw [f2 _ _ (by omega)]⟩
    · subst r1
      rw [if_pos rfl, iv_wr_succ (by omega)]
      refine ih (c + 1) n μ2 (by omega) (by omega) g2 (fun v hv hlt => ?_)
      by_cases e : ib_cd v L < c
      · exact hno v hv e
      · intro hf
        have e : ib_cd v L = ib_cd (fun q => μ1 121 q) L := by rw [c1]; omega
        exact r2 ((ib_far_ext (ib_cd_inj hok.2 hv.2 e)).mp hf)
theorem ib_lf4 (h : ib_inv D s) (hD : D ≤ 60000) : ∀ (d L n : Nat) (μ : ivM), L + d = 5 → d < n → ib_ag s μ → (∀ K, 1 ≤ K → K ≤ L → ∀ v, ib_ok5 v K → ¬ ib_far s v K) →
    (∃ K u ν, ib_fs s K u ∧ lp_X10_layFresh_4 n ((6 ^ L : Nat) : Int) ((L : Int) + 1) μ = some (1, ν) ∧ ib_ag s ν ∧ ν 110 21 = K ∧ ∀ q, q < K → ν 121 q = u q) ∨ (ib_fn s ∧ ∃ ν, lp_X10_layFresh_4 n ((6 ^ L : Nat) : Int) ((L : Int) + 1) μ = some (0, ν) ∧ ib_ag s ν) := by
  intro d
  induction d with
  | zero =>
    intro L n μ hL hn g hno
    obtain ⟨n, rfl⟩ : ∃ q, n = q + 1 := ⟨n - 1, by omega⟩
    right
    refine ⟨fun K h1 h2 => hno K h1 (by omega), μ, ?_, g⟩
    unfold lp_X10_layFresh_4
    rw [if_pos (by omega)]
  | succ d ih =>
    intro L n μ hL hn g hno
    obtain ⟨n, rfl⟩ : ∃ q, n = q + 1 := ⟨n - 1, by omega⟩
    have hb : 6 ^ (L + 1) ≤ 7776 := Nat.pow_le_pow_right (n := 6) (j := 5) (by omega) (by omega)
    have e6 : iv_wr (((6 ^ L : Nat) : Int) * 6) = ((6 ^ (L + 1) : Nat) : Int) := by
      rw [Nat.pow_succ] at hb ⊢
      rw [iv_wr_id (by omega) (by omega)]; omega
    unfold lp_X10_layFresh_4
    rw [if_neg (by omega), e6, show (L : Int) + 1 = ((L + 1 : Nat) : Int) by omega, iv_wr_succ (by omega)]
    rcases ib_lf17 h hD (L := L + 1) (by omega) (by omega) (fun (μ45 : ivM) =>
        lp_X10_layFresh_4 n ((6 ^ (L + 1) : Nat) : Int) ((L + 1 + 1 : Nat) : Int) μ45) (6 ^ (L + 1)) 0 iv_fuel μ (by omega) (by unfold iv_fuel; omega) g (fun v hv hlt => by have := (ib_cd_b (L + 1) hv.2).1; omega) with ⟨u, ν, q1, q2, q3, q4, q5⟩ | ⟨q1, ν, q2, q3⟩
    · left
      rw [show ((0 : Nat) : Int) = 0 from rfl] at q2
      exact ⟨L + 1, u, ν, ⟨by omega, q1.1, q1.2.1, fun K h1 h2 => hno K h1 (by omega), q1.2.2⟩, q2, q3, q4, q5⟩
    · rw [show ((0 : Nat) : Int) = 0 from rfl] at q2
      rw [q2]
      have := ih (L + 1) n ν (by omega) (by omega) q3 (fun K h1 h2 => by
        by_cases c : K = L + 1
        · subst c; exact q1
        · exact hno K h1 (by omega))
      rw [show ((L + 1 + 1 : Nat) : Int) = ((L + 1 : Nat) : Int) + 1 by omega]
      exact this
theorem ib_layFresh (h : ib_inv D s) (hD : D ≤ 60000) {μ : ivM} (g : ib_ag s μ) :
    (∃ K u ν, ib_fs s K u ∧ f_X10_layFresh μ = some (1, ν) ∧ ib_ag s ν ∧ ν 110 21 = K ∧ ∀ q, q < K → ν 121 q = u q) ∨ (ib_fn s ∧ ∃ ν, f_X10_layFresh μ = some (0, ν) ∧ ib_ag s ν) :=
  ib_lf4 h hD 5 0 iv_fuel μ (by omega) (by decide) g (fun K h1 h2 => by omega)
end IBF
