/-! FRESH NAMES: THE SEARCH -/
section IBF
variable {D : Int} {s : ivM}
theorem ib_atMost_lp {a taken more n : Nat} {u w : Nat → Int} (hn : n ≤ 5) (hm : more ≤ 5) (ht : taken ≤ 5) {μ : ivM} (h2 : μ a 2 = n) (hr : ib_row a taken u w n μ) (k : Int → ivM → Option (Int × ivM)) : ∀ (d j q x : Nat), j + d = n → d < q → (∃ i, i ≤ j ∧ x = ib_D u w taken i + max more (n - i)) → (∀ i, i ≤ j → x ≤ ib_D u w taken i + max more (n - i)) →
    ∃ y : Nat, lp_X4_atMost_35 a more taken k q x ((j : Int) + 1) μ = k y μ ∧ (∃ i, i ≤ n ∧ y = ib_D u w taken i + max more (n - i)) ∧ ∀ i, i ≤ n → y ≤ ib_D u w taken i + max more (n - i) := by
  intro d
  induction d with
  | zero =>
    intro j q x hj hq hx1 hx2
    obtain ⟨q, rfl⟩ : ∃ p, q = p + 1 := ⟨q - 1, by omega⟩
    have e : j = n := by omega
    subst e
    unfold lp_X4_atMost_35
    rw [h2, if_pos (by omega)]
    exact ⟨x, rfl, hx1, hx2⟩
  | succ d ih =>
    intro j q x hj hq hx1 hx2
    obtain ⟨q, rfl⟩ : ∃ p, q = p + 1 := ⟨q - 1, by omega⟩
    have b := ib_D_le u w taken (j + 1)
    have b0 := hx2 0 (by omega)
    have b1 := ib_D_le u w taken 0
    have ej : ((j : Int) + 1).toNat = j + 1 := by omega
    have em : (if (more : Int) ≤ iv_wr ((n : Int) - ((j : Int) + 1)) then iv_wr ((n : Int) - ((j : Int) + 1)) else (more : Int)) = ((max more (n - (j + 1)) : Nat) : Int) := by
      rw [iv_wr_id (by omega) (by omega)]
      split <;> omega
    unfold lp_X4_atMost_35
    rw [h2, if_neg (by omega), if_neg (by omega), iv_ck_pos (by omega), ib_max, iv_bnd_some, em, ej, hr (j + 1) (by omega), ib_min, iv_bnd_some, iv_wr_id (x := ((ib_D u w taken (j + 1) : Nat) : Int) + ((max more (n - (j + 1)) : Nat) : Int)) (by omega) (by omega), iv_wr_id (x := (j : Int) + 1 + 1) (by omega) (by omega), show (j : Int) + 1 + 1 = ((j + 1 : Nat) : Int) + 1 by omega]
    by_cases c : x ≤ ib_D u w taken (j + 1) + max more (n - (j + 1))
    · rw [if_pos (by omega)]
      refine ih (j + 1) q x (by omega) (by omega) (by obtain ⟨i, h1, h2⟩ := hx1; exact ⟨i, by omega, h2⟩) (fun i hi => ?_)
      by_cases e : i = j + 1
      · subst e; exact c
      · exact hx2 i (by omega)
    · rw [if_neg (by omega), show ((ib_D u w taken (j + 1) : Nat) : Int) + ((max more (n - (j + 1)) : Nat) : Int) = ((ib_D u w taken (j + 1) + max more (n - (j + 1)) : Nat) : Int) by omega]
      refine ih (j + 1) q _ (by omega) (by omega) ⟨j + 1, by omega, rfl⟩ (fun i hi => ?_)
      by_cases e : i = j + 1
      · subst e; exact Nat.le_refl _
      · have := hx2 i (by omega); omega
theorem ib_atMost {a taken more n : Nat} {u w : Nat → Int} (hn : n ≤ 5) (hm : more ≤ 5) (ht : taken ≤ 5) {μ : ivM} (h2 : μ a 2 = n) (hr : ib_row a taken u w n μ) :
    ∃ x : Nat, f_X4_atMost a taken more μ = some (((x : Nat) : Int), μ) ∧ (∀ v, (∀ j, j < taken → v j = u j) → ib_D v w (taken + more) n ≤ x) ∧ (more = 0 → x = ib_D u w taken n) := by
  have b1 := ib_D_le u w taken 0
  have em : (if (more : Int) ≤ (n : Int) then (n : Int) else (more : Int)) = ((max more n : Nat) : Int) := by split <;> omega
  obtain ⟨y, e, ⟨i, y1, y2⟩, y3⟩ := ib_atMost_lp (a := a) (u := u) (w := w) hn hm ht h2 hr (fun (w30 : Int) (μ32 : ivM) => some (w30, μ32)) n 0 iv_fuel (ib_D u w taken 0 + max more n) (by omega) (by unfold iv_fuel; omega) ⟨0, Nat.le_refl 0, rfl⟩ (fun i hi => by rw [show i = 0 by omega]; exact Nat.le_refl _)
  have h1 : ∀ v, (∀ j, j < taken → v j = u j) → ib_D v w (taken + more) n ≤ y := by
    intro v hv
    have h := ib_D_more (u := v) (s := w) (a := taken) (j := i) more (n - i)
    rw [show i + (n - i) = n by omega, ib_D_ext taken i hv] at h
    omega
  refine ⟨y, ?_, h1, fun h0 => ?_⟩
  · unfold f_X4_atMost
    simp only [iv_let]
    rw [if_neg (by omega), if_pos (by omega), iv_ck_pos (by omega), ib_max, iv_bnd_some, h2, em, Int.toNat_natCast, hr 0 (by omega), iv_wr_id (by omega) (by omega), show ((ib_D u w taken 0 : Nat) : Int) + ((max more n : Nat) : Int) = ((ib_D u w taken 0 + max more n : Nat) : Int) by omega]
    exact e
  · have a1 := h1 u (fun _ _ => rfl)
    have a2 := y3 n (Nat.le_refl n)
    rw [h0] at a1 a2
    rw [Nat.add_zero] at a1
    omega
theorem ib_rulerAt {i : Nat} (hi : i < 8) {μ : ivM} : f_X5_rulerAt i μ = some (((35 + 8 * i : Nat) : Int), μ) := by
  unfold f_X5_rulerAt
  simp only [iv_let]
  rw [if_neg (by omega), if_neg (by omega), iv_ck_pos (by omega), Int.toNat_natCast]
theorem ib_isRul8 {i : Nat} (hi : i < 8) : iv_isRul (35 + 8 * i) = true := by
  rcases iv_lt8 hi with h | h | h | h | h | h | h | h <;> rw [h] <;> rfl
/-- whose names the rulers lie along -/
def ib_th (s : ivM) (th : Nat → Nat) (c : Nat) : Prop := c ≤ 8 ∧ (∀ i, i < c → th i < 8 ∧ ib_lv s (th i) = true) ∧ ∀ t, ib_lv s t = true → ∃ i, i < c ∧ th i = t
def ib_rl (s : ivM) (th : Nat → Nat) (c : Nat) (μ : ivM) : Prop := μ 32 2 = c ∧ ∀ i, i < c → ib_laid (35 + 8 * i) (ib_sn s (th i)) (ib_z s (th i)) μ
def ib_ru (s : ivM) (th : Nat → Nat) (c p : Nat) (u : Nat → Int) (μ : ivM) : Prop := ∀ i, i < c → ∀ a, a ≤ p → ib_row (35 + 8 * i) a u (ib_sn s (th i)) (ib_z s (th i)) μ
theorem ib_rl.ru {th : Nat → Nat} {c : Nat} {u : Nat → Int} {μ : ivM} (h : ib_rl s th c μ) : ib_ru s th c 0 u μ := fun i hi a ha j hj => by
  rw [show a = 0 by omega, ib_D_0]
  exact (h.2 i hi).2.2 j hj
theorem ib_rl.fr {th : Nat → Nat} {c p i : Nat} {μ ν : ivM} (h : ib_rl s th c μ) (hp : p < 5) (f : ib_fr (35 + 8 * i + 2 + (p + 1)) (35 + 8 * i + 2 + (p + 1)) μ ν) : ib_rl s th c ν :=
  ⟨by rw [f _ _ (by omega)]; exact h.1, fun q hq => by
    obtain ⟨h1, h2, h3⟩ := h.2 q hq
    exact ⟨by rw [f _ _ (by omega)]; exact h1, by rw [f _ _ (by omega)]; exact h2, fun j hj => by rw [f _ _ (by omega)]; exact h3 j hj⟩⟩
theorem ib_ru.fr {th : Nat → Nat} {c p i : Nat} {u : Nat → Int} {μ ν : ivM} (h : ib_ru s th c p u μ) (hp : p < 5) (f : ib_fr (35 + 8 * i + 2 + (p + 1)) (35 + 8 * i + 2 + (p + 1)) μ ν) : ib_ru s th c p u ν :=
  fun q hq a ha j hj => by rw [f _ _ (by omega)]; exact h q hq a ha j hj
theorem ib_rl.up {th : Nat → Nat} {c k : Nat} {x : Int} {μ : ivM} (h : ib_rl s th c μ) : ib_rl s th c (iv_upd μ 33 k x) :=
  ⟨by rw [iv_upd_na (by omega)]; exact h.1, fun q hq => by
    obtain ⟨h1, h2, h3⟩ := h.2 q hq
    exact ⟨by rw [iv_upd_na (by omega)]; exact h1, by rw [iv_upd_na (by omega)]; exact h2, fun j hj => by rw [iv_upd_na (by omega)]; exact h3 j hj⟩⟩
theorem ib_ru.up {th : Nat → Nat} {c p k : Nat} {u : Nat → Int} {x : Int} {μ : ivM} (h : ib_ru s th c p u μ) : ib_ru s th c p u (iv_upd μ 33 k x) :=
  fun q hq a ha j hj => by rw [iv_upd_na (by omega)]; exact h q hq a ha j hj
theorem ib_ru.ext {th : Nat → Nat} {c p : Nat} {u v : Nat → Int} {μ : ivM} (h : ib_ru s th c p u μ) (e : ∀ q, q < p → v q = u q) : ib_ru s th c p v μ :=
  fun q hq a ha j hj => by rw [ib_D_ext a j (fun r hr => e r (by omega))]; exact h q hq a ha j hj
theorem ib_ru.le {th : Nat → Nat} {c p q : Nat} {u : Nat → Int} {μ : ivM} (h : ib_ru s th c p u μ) (e : q ≤ p) : ib_ru s th c q u μ :=
  fun i hi a ha => h i hi a (by omega)
theorem ib_hopeless_lp (h : ib_inv D s) {th : Nat → Nat} {c L : Nat} (hth : ib_th s th c) (hL : L ≤ 5) {μ : ivM} (hl : ib_rl s th c μ) : ∀ (d i n : Nat), i + d = c → d < n →
    ∃ x : Int, lp_X5_isHopeless_2 L (s 110 12) n i μ = some (x, μ) ∧ (x = 0 ∨ (x ≠ 0 ∧ ∀ v, ¬ ib_far s v L)) := by
  have hc8 := hth.1
  intro d
  induction d with
  | zero =>
    intro i n hi hn
    obtain ⟨n, rfl⟩ : ∃ q, n = q + 1 := ⟨n - 1, by omega⟩
    unfold lp_X5_isHopeless_2
    rw [hl.1, if_pos (by omega)]
    exact ⟨0, rfl, Or.inl rfl⟩
  | succ d ih =>
    intro i n hi hn
    obtain ⟨n, rfl⟩ : ∃ q, n = q + 1 := ⟨n - 1, by omega⟩
    obtain ⟨ht8, htl⟩ := hth.2.1 i (by omega)
    have hm := h.m ht8
    obtain ⟨x, e, b, _⟩ := ib_atMost (a := 35 + 8 * i) (taken := 0) (more := L) (u := fun _ => 0) (w := ib_sn s (th i)) (n := ib_z s (th i)) hm.1.1 hL (by omega) (hl.2 i (by omega)).2.1 (hl.ru i (by omega) 0 (Nat.le_refl 0))
    rw [show ((0 : Nat) : Int) = 0 from rfl] at e
    unfold lp_X5_isHopeless_2
    simp only [iv_let]
    rw [hl.1, if_neg (by omega), ib_rulerAt (by omega), iv_bnd_some, Int.toNat_natCast, if_neg (by omega), iv_ck_pos (ib_isRul8 (by omega)), e, iv_bnd_some, iv_wr_succ (by omega)]
    by_cases q : s 110 12 < ((x : Nat) : Int)
    · rw [if_pos q]
      exact ih (i + 1) n (by omega) (by omega)
    · rw [if_neg q]
      refine ⟨1, rfl, Or.inr ⟨by decide, fun v hv => ?_⟩⟩
      have h1 := hv (th i) htl
      have h2 := b v (fun j hj => by omega)
      rw [Nat.zero_add] at h2
      omega
theorem ib_tooNear_lp (h : ib_inv D s) {th : Nat → Nat} {c L p : Nat} (hth : ib_th s th c) (hp : p < L) (hL : L ≤ 5) {u : Nat → Int} : ∀ (d i n : Nat) (μ : ivM), i + d = c → d < n → ib_rl s th c μ → ib_ru s th c p u μ →
    (∀ q, q < i → ib_row (35 + 8 * q) (p + 1) u (ib_sn s (th q)) (ib_z s (th q)) μ ∧ (p + 1 = L → s 110 12 < (ib_D u (ib_sn s (th q)) L (ib_z s (th q)) : Nat))) →
    (∃ ν, lp_X5_isTooNear_3 p (u p) L (s 110 12) n i μ = some (1, ν) ∧ ib_fr 35 98 μ ν ∧ ib_rl s th c ν ∧ ib_ru s th c p u ν ∧ ∀ v, (∀ j, j ≤ p → v j = u j) → ¬ ib_far s v L) ∨
    (∃ ν, lp_X5_isTooNear_3 p (u p) L (s 110 12) n i μ = some (0, ν) ∧ ib_fr 35 98 μ ν ∧ ib_rl s th c ν ∧ ib_ru s th c (p + 1) u ν ∧ (p + 1 = L → ib_far s u L)) := by
  have hc8 := hth.1
  intro d
  induction d with
  | zero =>
    intro i n μ hi hn hl hr hq
    obtain ⟨n, rfl⟩ : ∃ q, n = q + 1 := ⟨n - 1, by omega⟩
    right
    unfold lp_X5_isTooNear_3
    rw [hl.1, if_pos (by omega)]
    refine ⟨μ, rfl, ib_fr.rfl, hl, fun q hqc a ha => ?_, fun hpl t ht => ?_⟩
    · by_cases e : a = p + 1
      · subst e; exact (hq q (by omega)).1
      · exact hr q hqc a (by omega)
    · obtain ⟨q, q1, q2⟩ := hth.2.2 t ht
      have := (hq q (by omega)).2 hpl
      rw [q2] at this; exact this
  | succ d ih =>
    intro i n μ hi hn hl hr hq
    obtain ⟨n, rfl⟩ : ∃ q, n = q + 1 := ⟨n - 1, by omega⟩
    obtain ⟨ht8, htl⟩ := hth.2.1 i (by omega)
    have hm := h.m ht8
    have hli := hl.2 i (by omega)
    obtain ⟨ν, e, f, g⟩ := ib_step (a := 35 + 8 * i) (i := p) (u := u) hm.1 (by omega) hli.1 hli.2.1 (hr i (by omega) p (Nat.le_refl p))
    have hl2 := hl.fr (by omega) f
    have hr2 := hr.fr (by omega) f
    have f2 : ib_fr 35 98 μ ν := f.mono (by omega)
    obtain ⟨x, e2, b, ex⟩ := ib_atMost (a := 35 + 8 * i) (taken := p + 1) (more := L - p - 1) (u := u) (w := ib_sn s (th i)) (n := ib_z s (th i)) hm.1.1 (by omega) (by omega) (hl2.2 i (by omega)).2.1 g
    have em : iv_wr (iv_wr ((L : Int) - (p : Int)) - 1) = ((L - p - 1 : Nat) : Int) := by
      rw [iv_wr_id (x := (L : Int) - (p : Int)) (by omega) (by omega), iv_wr_id (by omega) (by omega)]; omega
    unfold lp_X5_isTooNear_3
    simp only [iv_let]
    rw [hl.1, if_neg (by omega), ib_rulerAt (by omega), iv_bnd_some, Int.toNat_natCast, if_neg (by omega), iv_ck_pos (ib_isRul8 (by omega)), e, iv_bnd_some, em, iv_wr_succ (x := p) (by omega), e2, iv_bnd_some, iv_wr_succ (x := i) (by omega)]
    by_cases q : s 110 12 < ((x : Nat) : Int)
    · rw [if_pos q]
      have hq2 : ∀ q, q < i + 1 → ib_row (35 + 8 * q) (p + 1) u (ib_sn s (th q)) (ib_z s (th q)) ν ∧ (p + 1 = L → s 110 12 < (ib_D u (ib_sn s (th q)) L (ib_z s (th q)) : Nat)) := by
        intro r hr'
        by_cases er : r = i
        · subst er
          refine ⟨g, fun hpl => ?_⟩
          have := ex (by omega)
          rw [hpl] at this
          rw [← this]; exact q
        · obtain ⟨h1, h2⟩ := hq r (by omega)
          exact ⟨fun j hj => by rw [f _ _ (by omega)]; exact h1 j hj, h2⟩
      rcases ih (i + 1) n ν (by omega) (by omega) hl2 hr2 hq2 with ⟨κ, k1, k2, k3, k4, k5⟩ | ⟨κ, k1, k2, k3, k4, k5⟩
      · exact Or.inl ⟨κ, k1, f2.tr k2, k3, k4, k5⟩
      · exact Or.inr ⟨κ, k1, f2.tr k2, k3, k4, k5⟩
    · rw [if_neg q]
      refine Or.inl ⟨ν, rfl, f2, hl2, hr2, fun v hv hf => ?_⟩
      have h1 := hf (th i) htl
      have h2 := b v (fun j hj => hv j (by omega))
      rw [show p + 1 + (L - p - 1) = L by omega] at h2
      omega
/-! the walk over all starts -/
def ib_ui (u : Nat → Int) (k : Nat) (x : Int) : Nat → Int := fun i => if i = k then x else u i
theorem ib_ui_at {u : Nat → Int} {k : Nat} {x : Int} : ib_ui u k x k = x := if_pos rfl
theorem ib_ui_n {u : Nat → Int} {k i : Nat} {x : Int} (h : i ≠ k) : ib_ui u k x i = u i := if_neg h
/-- how far the walk has come -/
def ib_po (u : Nat → Int) (p : Nat) : Int := match p with
  | 0 => u 0 * 32768
  | 1 => u 0 * 32768 + u 1 * 4096 + 1
  | 2 => u 0 * 32768 + u 1 * 4096 + u 2 * 512 + 2
  | 3 => u 0 * 32768 + u 1 * 4096 + u 2 * 512 + u 3 * 64 + 3
  | _ => u 0 * 32768 + u 1 * 4096 + u 2 * 512 + u 3 * 64 + u 4 * 8 + 4
theorem ib_lt5 {p : Nat} (h : p < 5) : p = 0 ∨ p = 1 ∨ p = 2 ∨ p = 3 ∨ p = 4 := by omega
theorem ib_po_b {u : Nat → Int} {p : Nat} (hp : p < 5) (hu : ∀ j, j ≤ p → 0 ≤ u j ∧ u j ≤ 6) : ib_po u p ≤ 230000 := by
  rcases ib_lt5 hp with rfl | rfl | rfl | rfl | rfl
  · have h0 := hu 0 (by omega)
    show u 0 * 32768 ≤ 230000
    omega
  · have h0 := hu 0 (by omega)
    have h1 := hu 1 (by omega)
    show u 0 * 32768 + u 1 * 4096 + 1 ≤ 230000
    omega
  · have h0 := hu 0 (by omega)
    have h1 := hu 1 (by omega)
    have h2 := hu 2 (by omega)
    show u 0 * 32768 + u 1 * 4096 + u 2 * 512 + 2 ≤ 230000
    omega
  · have h0 := hu 0 (by omega)
    have h1 := hu 1 (by omega)
    have h2 := hu 2 (by omega)
    have h3 := hu 3 (by omega)
    show u 0 * 32768 + u 1 * 4096 + u 2 * 512 + u 3 * 64 + 3 ≤ 230000
    omega
  · have h0 := hu 0 (by omega)
    have h1 := hu 1 (by omega)
    have h2 := hu 2 (by omega)
    have h3 := hu 3 (by omega)
    have h4 := hu 4 (by omega)
    show u 0 * 32768 + u 1 * 4096 + u 2 * 512 + u 3 * 64 + u 4 * 8 + 4 ≤ 230000
    omega
theorem ib_po_1 {u : Nat → Int} {p : Nat} (hp : p < 5) : ib_po u p + 1 ≤ ib_po (ib_ui u p (u p + 1)) p := by
  rcases ib_lt5 hp with rfl | rfl | rfl | rfl | rfl
  · show u 0 * 32768 + 1 ≤ (u 0 + 1) * 32768
    omega
  · show u 0 * 32768 + u 1 * 4096 + 1 + 1 ≤ u 0 * 32768 + (u 1 + 1) * 4096 + 1
    omega
  · show u 0 * 32768 + u 1 * 4096 + u 2 * 512 + 2 + 1 ≤ u 0 * 32768 + u 1 * 4096 + (u 2 + 1) * 512 + 2
    omega
  · show u 0 * 32768 + u 1 * 4096 + u 2 * 512 + u 3 * 64 + 3 + 1 ≤ u 0 * 32768 + u 1 * 4096 + u 2 * 512 + (u 3 + 1) * 64 + 3
    omega
  · show u 0 * 32768 + u 1 * 4096 + u 2 * 512 + u 3 * 64 + u 4 * 8 + 4 + 1 ≤ u 0 * 32768 + u 1 * 4096 + u 2 * 512 + u 3 * 64 + (u 4 + 1) * 8 + 4
    omega
theorem ib_po_2 {u : Nat → Int} {p : Nat} (hp : p < 4) : ib_po u p + 1 ≤ ib_po (ib_ui u (p + 1) 0) (p + 1) := by
  rcases ib_lt5 (show p < 5 by omega) with rfl | rfl | rfl | rfl | rfl
  · show u 0 * 32768 + 1 ≤ u 0 * 32768 + 0 * 4096 + 1
    omega
  · show u 0 * 32768 + u 1 * 4096 + 1 + 1 ≤ u 0 * 32768 + u 1 * 4096 + 0 * 512 + 2
    omega
  · show u 0 * 32768 + u 1 * 4096 + u 2 * 512 + 2 + 1 ≤ u 0 * 32768 + u 1 * 4096 + u 2 * 512 + 0 * 64 + 3
    omega
  · show u 0 * 32768 + u 1 * 4096 + u 2 * 512 + u 3 * 64 + 3 + 1 ≤ u 0 * 32768 + u 1 * 4096 + u 2 * 512 + u 3 * 64 + 0 * 8 + 4
    omega
  · omega
theorem ib_po_3 {u : Nat → Int} {p : Nat} (hp : p < 4) (h6 : u (p + 1) ≤ 6) : ib_po u (p + 1) + 1 ≤ ib_po (ib_ui u p (u p + 1)) p := by
  rcases ib_lt5 (show p < 5 by omega) with rfl | rfl | rfl | rfl | rfl
  · show u 0 * 32768 + u 1 * 4096 + 1 + 1 ≤ (u 0 + 1) * 32768
    have h6 : u 1 ≤ 6 := h6
    omega
  · show u 0 * 32768 + u 1 * 4096 + u 2 * 512 + 2 + 1 ≤ u 0 * 32768 + (u 1 + 1) * 4096 + 1
    have h6 : u 2 ≤ 6 := h6
    omega
  · show u 0 * 32768 + u 1 * 4096 + u 2 * 512 + u 3 * 64 + 3 + 1 ≤ u 0 * 32768 + u 1 * 4096 + (u 2 + 1) * 512 + 2
    have h6 : u 3 ≤ 6 := h6
    omega
  · show u 0 * 32768 + u 1 * 4096 + u 2 * 512 + u 3 * 64 + u 4 * 8 + 4 + 1 ≤ u 0 * 32768 + u 1 * 4096 + u 2 * 512 + (u 3 + 1) * 64 + 3
    have h6 : u 4 ≤ 6 := h6
    omega
  · omega
theorem ib_lx_1 {v u : Nat → Int} {p : Nat} (h : ib_lx v (ib_ui u p (u p + 1)) (p + 1)) : ib_lx v u (p + 1) ∨ ∀ j, j ≤ p → v j = u j := by
  obtain ⟨i, h1, h2, h3⟩ := h
  have hag : ∀ j, j < i → v j = u j := fun j hj => by rw [h2 j hj, ib_ui_n (by omega)]
  by_cases c : i = p
  · subst c
    rw [ib_ui_at] at h3
    by_cases c2 : v i < u i
    · exact Or.inl ⟨i, h1, hag, c2⟩
    · right
      intro j hj
      by_cases e : j = i
      · subst e; omega
      · exact hag j (by omega)
  · rw [ib_ui_n c] at h3
    exact Or.inl ⟨i, h1, hag, h3⟩
theorem ib_lx_2 {v u : Nat → Int} {p : Nat} (hv : 0 ≤ v (p + 1)) (h : ib_lx v (ib_ui u (p + 1) 0) (p + 2)) : ib_lx v u (p + 1) := by
  obtain ⟨i, h1, h2, h3⟩ := h
  by_cases c : i = p + 1
  · subst c
    rw [ib_ui_at] at h3; omega
  · rw [ib_ui_n c] at h3
    exact ⟨i, by omega, fun j hj => by rw [h2 j hj, ib_ui_n (by omega)], h3⟩
theorem ib_lx_3 {v u : Nat → Int} {p : Nat} (hv : v (p + 1) < u (p + 1)) (h : ib_lx v (ib_ui u p (u p + 1)) (p + 1)) : ib_lx v u (p + 2) := by
  rcases ib_lx_1 h with ⟨i, h1, h2, h3⟩ | c
  · exact ⟨i, by omega, h2, h3⟩
  · exact ⟨p + 1, by omega, fun j hj => c j (by omega), hv⟩
theorem ib_r98 : ∀ a k : Nat, 35 ≤ a → a ≤ 98 → ib_scr a k := fun a k _ _ => by unfold ib_scr; omega
theorem ib_find_lp (h : ib_inv D s) {th : Nat → Nat} {c L : Nat} (hth : ib_th s th c) (hL : L ≤ 5) (k : Int → ivM → Option (Int × ivM)) : ∀ (d p stp n : Nat) (u : Nat → Int) (μ : ivM), p < L → 300000 ≤ ib_po u p + d → stp + d ≤ 900000 → d < n → ib_ag s μ → ib_rl s th c μ → ib_ru s th c p u μ → (∀ j, j ≤ p → μ 33 j = u j) → (∀ j, j ≤ p → 0 ≤ u j ∧ u j ≤ 6) → (∀ j, j < p → u j < 6) → (∀ v, ib_ok5 v L → ib_lx v u (p + 1) → ¬ ib_far s v L) →
    (∃ w ν, ib_fo s L w ∧ lp_X5_find_23 L (s 110 12) k n p stp μ = k L ν ∧ ib_ag s ν ∧ ib_rl s th c ν ∧ ∀ q, q < L → ν 33 q = w q) ∨ ((∀ v, ib_ok5 v L → ¬ ib_far s v L) ∧ ∃ ν, lp_X5_find_23 L (s 110 12) k n p stp μ = k (-1) ν ∧ ib_ag s ν ∧ ib_rl s th c ν) := by
  intro d
  induction d with
  | zero =>
    intro p stp n u μ hp hpo
    intro _ _ _ _ _ _ hu
    have := ib_po_b (by omega) hu
    omega
  | succ d ih =>
    intro p stp n u μ hp hpo hst hn g hl hr h33 hu hu6 hlx
    obtain ⟨n, rfl⟩ : ∃ q, n = q + 1 := ⟨n - 1, by omega⟩
    have hup := hu p (Nat.le_refl p)
    unfold lp_X5_find_23
    simp only [iv_let]
    rw [if_neg (by omega), if_neg (by omega), if_neg (by omega), if_neg (by omega), iv_ck_pos (by omega), Int.toNat_natCast, h33 p (Nat.le_refl p), iv_wr_succ (x := stp) (by omega)]
    by_cases c6 : u p < 6
    · rw [if_pos c6, iv_ck_pos (by omega)]
      unfold f_X5_isTooNear
      rcases ib_tooNear_lp h hth hp hL (u := u) c 0 iv_fuel μ (by omega) (by have := hth.1; unfold iv_fuel; omega) hl hr (fun q hq => by omega) with ⟨ν, e, f, l2, r2, nf⟩ | ⟨ν, e, f, l2, r2, nf⟩
      · rw [show ((0 : Nat) : Int) = 0 from rfl] at e
        rw [e, iv_bnd_some, if_neg (by decide), iv_ck_pos (by omega), iv_ck_pos (by omega), f 33 p (by omega), h33 p (Nat.le_refl p), iv_wr_id (x := u p + 1) (by omega) (by omega)]
        refine ih p (stp + 1) n (ib_ui u p (u p + 1)) (iv_upd ν 33 p (u p + 1)) hp (by have := ib_po_1 (u := u) (p := p) (by omega); omega) (by omega) (by omega) ((g.fr f ib_r98).upd (by unfold ib_scr; omega)) l2.up (r2.ext (fun q hq => ib_ui_n (by omega))).up (fun j hj => ?_) (fun j hj => ?_) (fun j hj => ?_) (fun v hv hx => ?_)
        · by_cases e : j = p
          · subst e; rw [iv_upd_at, ib_ui_at]
          · rw [iv_upd_nk e, ib_ui_n e, f 33 j (by omega)]; exact h33 j hj
        · by_cases e : j = p
          · subst e; rw [ib_ui_at]; omega
          · rw [ib_ui_n e]; exact hu j hj
        · rw [ib_ui_n (by omega)]; exact hu6 j hj
        · rcases ib_lx_1 hx with q | q
          · exact hlx v hv q
          · exact nf v q
      · rw [show ((0 : Nat) : Int) = 0 from rfl] at e
        rw [e, iv_bnd_some, if_pos rfl, iv_wr_succ (x := p) (by omega)]
        by_cases cl : p + 1 = L
        · left
          have hok : ib_ok5 u L := ⟨hL, fun i hi => by
            have := hu i (by omega)
            by_cases e : i = p
            · subst e; omega
            · have := hu6 i (by omega); omega⟩
          obtain ⟨n, rfl⟩ : ∃ q, n = q + 1 := ⟨n - 1, by omega⟩
          rw [if_pos (by omega)]
          unfold lp_X5_find_23
          rw [if_neg (by omega), if_neg (by omega), if_pos (by omega), cl]
          refine ⟨u, ν, ⟨hok, nf cl, fun v hv hlt => hlx v hv ?_⟩, rfl, g.fr f ib_r98, l2, fun q hq => by rw [f 33 q (by omega)]; exact h33 q (by omega)⟩
          rw [cl]
          exact ib_cd_lx hok.2 hv.2 hlt
        · rw [if_neg (by omega), if_neg (by omega), iv_ck_pos (by omega), Int.toNat_natCast]
          refine ih (p + 1) (stp + 1) n (ib_ui u (p + 1) 0) (iv_upd ν 33 (p + 1) 0) (by omega) (by have := ib_po_2 (u := u) (p := p) (by omega); omega) (by omega) (by omega) ((g.fr f ib_r98).upd (by unfold ib_scr; omega)) l2.up (r2.ext (fun q hq => ib_ui_n (by omega))).up (fun j hj => ?_) (fun j hj => ?_) (fun j hj => ?_) (fun v hv hx => hlx v hv (ib_lx_2 (hv.2 (p + 1) (by omega)).1 hx))
          · by_cases e : j = p + 1
            · subst e; rw [iv_upd_at, ib_ui_at]
            · rw [iv_upd_nk e, ib_ui_n e, f 33 j (by omega)]; exact h33 j (by omega)
          · by_cases e : j = p + 1
            · subst e; rw [ib_ui_at]; omega
            · rw [ib_ui_n e]; exact hu j (by omega)
          · rw [ib_ui_n (by omega)]
            by_cases e : j = p
            · subst e; exact c6
            · exact hu6 j (by omega)
    · rw [if_neg c6]
      by_cases c0 : p = 0
      · subst c0
        right
        obtain ⟨n, rfl⟩ : ∃ q, n = q + 1 := ⟨n - 1, by omega⟩
        rw [iv_wr_id (x := ((0 : Nat) : Int) + (-1)) (by omega) (by omega), if_pos (by omega)]
        unfold lp_X5_find_23
        rw [if_neg (by omega), if_pos (by omega)]
        refine ⟨fun v hv => hlx v hv ⟨0, by omega, fun j hj => by omega, by have := hv.2 0 (by omega); omega⟩, μ, rfl, g, hl⟩
      · obtain ⟨p, rfl⟩ : ∃ q, p = q + 1 := ⟨p - 1, by omega⟩
        have hup1 := hu p (by omega)
        have hup6 := hu6 p (by omega)
        have ew : iv_wr (((p + 1 : Nat) : Int) + (-1)) = (p : Int) := by rw [iv_wr_id (by omega) (by omega)]; omega
        rw [ew, if_neg (by omega), iv_ck_pos (by omega), iv_ck_pos (by omega), Int.toNat_natCast, h33 p (by omega), iv_wr_id (x := u p + 1) (by omega) (by omega)]
        refine ih p (stp + 1) n (ib_ui u p (u p + 1)) (iv_upd μ 33 p (u p + 1)) (by omega) (by have := ib_po_3 (u := u) (p := p) (by omega) hup.2; omega) (by omega) (by omega) (g.upd (by unfold ib_scr; omega)) hl.up ((hr.le (by omega)).ext (fun q hq => ib_ui_n (by omega))).up (fun j hj => ?_) (fun j hj => ?_) (fun j hj => ?_) (fun v hv hx => hlx v hv (ib_lx_3 (by have := hv.2 (p + 1) (by omega); omega) hx))
        · by_cases e : j = p
          · subst e; rw [iv_upd_at, ib_ui_at]
          · rw [iv_upd_nk e, ib_ui_n e]; exact h33 j (by omega)
        · by_cases e : j = p
          · subst e; rw [ib_ui_at]; omega
          · rw [ib_ui_n e]; exact hu j (by omega)
        · rw [ib_ui_n (by omega)]; exact hu6 j (by omega)
theorem ib_find (h : ib_inv D s) {th : Nat → Nat} {c L : Nat} (hth : ib_th s th c) (hL1 : 1 ≤ L) (hL : L ≤ 5) {μ : ivM} (g : ib_ag s μ) (hl : ib_rl s th c μ) :
    (∃ w ν, ib_fo s L w ∧ f_X5_find L (s 110 12) μ = some (1, ν) ∧ ib_ag s ν ∧ ib_rl s th c ν ∧ ∀ q, q < L → ν 33 q = w q) ∨ ((∀ v, ib_ok5 v L → ¬ ib_far s v L) ∧ ∃ ν, f_X5_find L (s 110 12) μ = some (0, ν) ∧ ib_ag s ν ∧ ib_rl s th c ν) := by
  obtain ⟨x, e, hx⟩ := ib_hopeless_lp h hth hL hl c 0 iv_fuel (by omega) (by have := hth.1; unfold iv_fuel; omega)
  rw [show ((0 : Nat) : Int) = 0 from rfl] at e
  unfold f_X5_find f_X5_isHopeless
  rw [e, iv_bnd_some]
  rcases hx with hx | ⟨hx, hv⟩
  · rw [if_pos hx]
    rcases ib_find_lp h hth hL (fun (w31 : Int) (μ33 : ivM) =>
      iv_let (fun (v42 : Int) (μ43 : ivM) =>
        iv_ck (v42 = 0 ∨ v42 = 1) <| some (v42, μ43)) fun j36 =>
      if w31 = (L : Int) then
        j36 1 μ33
      else
        j36 0 μ33) 300000 0 0 iv_fuel (fun _ => 0) (iv_upd μ 33 0 0) (by omega) (by show (300000 : Int) ≤ 0 * 32768 + _; omega) (by omega) (by decide) (g.upd (by unfold ib_scr; omega)) hl.up hl.ru.up (fun j hj => by rw [show j = 0 by omega, iv_upd_at]) (fun j hj => by omega) (fun j hj => by omega) (fun v hv ⟨i, q1, q2, q3⟩ => by have q3 : v i < 0 := q3; have := hv.2 i (by omega); omega) with ⟨w, ν, a1, a2, a3, a4, a5⟩ | ⟨a1, ν, a2, a3, a4⟩
    · rw [show ((0 : Nat) : Int) = 0 from rfl] at a2
      rw [a2]
      simp only [iv_let]
      rw [if_pos trivial, iv_ck_pos (by decide)]
      exact Or.inl ⟨w, ν, a1, rfl, a3, a4, a5⟩
    · rw [show ((0 : Nat) : Int) = 0 from rfl] at a2
      rw [a2]
      simp only [iv_let]
      rw [if_neg (by omega), iv_ck_pos (by decide)]
      exact Or.inr ⟨a1, ν, rfl, a3, a4⟩
  · rw [if_neg hx]
    exact Or.inr ⟨fun v _ => hv v, μ, rfl, g, hl⟩
theorem ib_found_lp {L : Nat} {w : Nat → Int} (hw : ib_ok5 w L) {μ : ivM} (hm : ∀ q, q < L → μ 33 q = w q) (k : Int → ivM → Option (Int × ivM)) : ∀ (d j n : Nat), j + d = L → d < n → lp_X5_found_4 L k n (ib_nc w j : Nat) j μ = k (ib_nc w L : Nat) μ := by
  have hL := hw.1
  intro d
  induction d with
  | zero =>
    intro j n hj hn
    obtain ⟨n, rfl⟩ : ∃ q, n = q + 1 := ⟨n - 1, by omega⟩
    unfold lp_X5_found_4
    rw [if_pos (by omega), show j = L by omega]
  | succ d ih =>
    intro j n hj hn
    obtain ⟨n, rfl⟩ : ∃ q, n = q + 1 := ⟨n - 1, by omega⟩
    unfold lp_X5_found_4
    rw [if_neg (by omega), if_neg (by omega), iv_ck_pos (by omega), Int.toNat_natCast, hm j (by omega), ib_withSound (s := w) (k := j) ⟨by omega, fun i hi => hw.2 i (by omega)⟩, iv_bnd_some, iv_wr_succ (by omega)]
    exact ih (j + 1) n (by omega) (by omega)
theorem ib_shortest_lp (h : ib_inv D s) {th : Nat → Nat} {c : Nat} (hth : ib_th s th c) : ∀ (d L n : Nat) (μ : ivM), L + d = 6 → 1 ≤ L → d < n → ib_ag s μ → ib_rl s th c μ → (∀ K, 1 ≤ K → K < L → ∀ v, ib_ok5 v K → ¬ ib_far s v K) →
    (∃ K u ν, ib_fs s K u ∧ lp_X5_shortest_2 (s 110 12) (fun (w7 : Int) (μ8 : ivM) => iv_bnd (f_X5_found w7 μ8) fun r11 μ12 => some (r11, μ12)) n L μ = some (((ib_nc u K : Nat) : Int), ν) ∧ ib_ag s ν) ∨ (ib_fn s ∧ ∃ ν, lp_X5_shortest_2 (s 110 12) (fun (w7 : Int) (μ8 : ivM) => iv_bnd (f_X5_found w7 μ8) fun r11 μ12 => some (r11, μ12)) n L μ = some (0, ν) ∧ ib_ag s ν) := by
  intro d
  induction d with
  | zero =>
    intro L n μ hL h1 hn g hl hno
    obtain ⟨n, rfl⟩ : ∃ q, n = q + 1 := ⟨n - 1, by omega⟩
    right
    unfold lp_X5_shortest_2
    rw [if_pos (by omega)]
    exact ⟨fun K a b => hno K a (by omega), μ, rfl, g⟩
  | succ d ih =>
    intro L n μ hL h1 hn g hl hno
    obtain ⟨n, rfl⟩ : ∃ q, n = q + 1 := ⟨n - 1, by omega⟩
    unfold lp_X5_shortest_2
    rw [if_neg (by omega)]
    rcases ib_find h hth h1 (by omega) g hl with ⟨w, ν, a1, a2, a3, a4, a5⟩ | ⟨a1, ν, a2, a3, a4⟩
    · left
      have ef := ib_found_lp a1.1 a5 (fun (w9 : Int) (μ11 : ivM) => some (w9, μ11)) L 0 iv_fuel (by omega) (by unfold iv_fuel; omega)
      rw [a2, iv_bnd_some, if_neg (by decide)]
      unfold f_X5_found
      have e0 : lp_X5_found_4 (L : Int) (fun (w9 : Int) (μ11 : ivM) => some (w9, μ11)) iv_fuel 0 0 ν = some (((ib_nc w L : Nat) : Int), ν) := ef
      rw [e0, iv_bnd_some]
      exact ⟨L, w, ν, ⟨h1, a1.1, a1.2.1, hno, a1.2.2⟩, rfl, a3⟩
    · rw [a2, iv_bnd_some, if_pos rfl, iv_wr_succ (by omega)]
      exact ih (L + 1) n ν (by omega) (by omega) (by omega) a3 a4 (fun K b1 b2 => by
        by_cases e : K = L
        · subst e; exact a1
        · exact hno K b1 (by omega))
theorem ib_fn9_lp (h : ib_inv D s) (hD : D ≤ 60000) (k : ivM → Option (Int × ivM)) : ∀ (d t n : Nat) (μ : ivM), t + d = 8 → d < n → ib_ag s μ → (∃ th c, c ≤ t ∧ (∀ i, i < c → th i < 8 ∧ ib_lv s (th i) = true) ∧ (∀ o, o < t → ib_lv s o = true → ∃ i, i < c ∧ th i = o) ∧ ib_rl s th c μ) →
    ∃ th c ν, lp_X9_freshName_9 k n t μ = k ν ∧ ib_ag s ν ∧ ib_th s th c ∧ ib_rl s th c ν := by
  intro d
  induction d with
  | zero =>
    intro t n μ ht hn g hx
    obtain ⟨n, rfl⟩ : ∃ q, n = q + 1 := ⟨n - 1, by omega⟩
    obtain ⟨th, c, h1, h2, h3, h4⟩ := hx
    unfold lp_X9_freshName_9
    rw [if_pos (by omega)]
    exact ⟨th, c, μ, rfl, g, ⟨by omega, h2, fun o ho => h3 o (by have := ib_lv_8 h ho; omega) ho⟩, h4⟩
  | succ d ih =>
    intro t n μ ht hn g hx
    obtain ⟨n, rfl⟩ : ∃ q, n = q + 1 := ⟨n - 1, by omega⟩
    have hm := h.m (t := t) (by omega)
    unfold lp_X9_freshName_9
    simp only [iv_let]
    rw [if_neg (by omega), ib_isLive h hD g (by omega), iv_bnd_some, ib_iz, iv_wr_succ (by omega)]
    obtain ⟨th, c, h1, h2, h3, h4⟩ := hx
    cases hl : ib_lv s t
    · rw [if_neg (by decide)]
      refine ih (t + 1) n μ (by omega) (by omega) g ⟨th, c, by omega, h2, fun o ho hlo => ?_, h4⟩
      by_cases e : o = t
      · subst e; rw [hl] at hlo; cases hlo
      · exact h3 o (by omega) hlo
    · rw [if_pos rfl, iv_ck_pos (by omega), Int.toNat_natCast, g.c (a := 12) rfl, hm.2.2.2.1]
      obtain ⟨ν, e, f, q⟩ := ib_lay (a := 35 + 8 * c) hm.1 μ
      unfold f_X5_avoid
      simp only [iv_let]
      rw [h4.1, ib_rulerAt (by omega), iv_bnd_some, Int.toNat_natCast, if_neg (by omega), iv_ck_pos (ib_isRul8 (by omega)), e, iv_bnd_some, f 32 2 (by omega), h4.1, iv_wr_succ (by omega), iv_bnd_some]
      refine ih (t + 1) n (iv_upd ν 32 2 ((c + 1 : Nat) : Int)) (by omega) (by omega) ((g.fr f (fun a k h1 h2 => by unfold ib_scr; omega)).upd (by unfold ib_scr; omega)) ⟨fun i => if i = c then t else th i, c + 1, by omega, fun i hi => ?_, fun o ho hlo => ?_, iv_upd_at, fun i hi => ?_⟩
      · by_cases e : i = c
        · dsimp only; rw [if_pos e]; exact ⟨by omega, hl⟩
        · dsimp only; rw [if_neg e]; exact h2 i (by omega)
      · by_cases e : o = t
        · subst e; exact ⟨c, by omega, if_pos rfl⟩
        · obtain ⟨i, i1, i2⟩ := h3 o (by omega) hlo
          exact ⟨i, by omega, by dsimp only; rw [if_neg (by omega)]; exact i2⟩
      · have up : ∀ a k, a ≠ 32 → iv_upd ν 32 2 ((c + 1 : Nat) : Int) a k = ν a k := fun a k ha => iv_upd_na ha
        by_cases e : i = c
        · subst e
          dsimp only
          rw [if_pos rfl]
          exact ⟨by rw [up _ _ (by omega)]; exact q.1, by rw [up _ _ (by omega)]; exact q.2.1, fun j hj => by rw [up _ _ (by omega)]; exact q.2.2 j hj⟩
        · dsimp only
          rw [if_neg e]
          obtain ⟨q1, q2, q3⟩ := h4.2 i (by omega)
          exact ⟨by rw [up _ _ (by omega), f _ _ (by omega)]; exact q1, by rw [up _ _ (by omega), f _ _ (by omega)]; exact q2, fun j hj => by rw [up _ _ (by omega), f _ _ (by omega)]; exact q3 j hj⟩
theorem ib_freshName (h : ib_inv D s) (hD : D ≤ 60000) {μ : ivM} (g : ib_ag s μ) :
    (∃ K u ν, ib_fs s K u ∧ f_X9_freshName μ = some (((ib_nc u K : Nat) : Int), ν) ∧ ib_ag s ν) ∨ (ib_fn s ∧ ∃ ν, f_X9_freshName μ = some (0, ν) ∧ ib_ag s ν) := by
  have hR := h.R
  unfold f_X9_freshName f_X5_begin
  rw [iv_bnd_some]
  obtain ⟨th, c, ν, e, g2, hth, hl⟩ := ib_fn9_lp h hD (fun (μ18 : ivM) => iv_bnd (f_X5_shortest (μ18 9 1) μ18) fun r21 μ22 => some (r21, μ22)) 8 0 iv_fuel (iv_upd μ 32 2 0) (by omega) (by decide) (g.upd (by unfold ib_scr; omega)) ⟨fun _ => 0, 0, by omega, fun i hi => by omega, fun o ho => by omega, iv_upd_at, fun i hi => by omega⟩
  rw [show ((0 : Nat) : Int) = 0 from rfl] at e
  rw [e, g2.c (a := 9) rfl, hR.1]
  unfold f_X5_shortest
  rcases ib_shortest_lp h hth 5 1 iv_fuel ν (by omega) (by omega) (by decide) g2 hl (fun K a b => by omega) with ⟨K, u, κ, a1, a2, a3⟩ | ⟨a1, κ, a2, a3⟩
  · rw [show ((1 : Nat) : Int) = 1 from rfl] at a2
    rw [a2]
    exact Or.inl ⟨K, u, κ, a1, rfl, a3⟩
  · rw [show ((1 : Nat) : Int) = 1 from rfl] at a2
    rw [a2]
    exact Or.inr ⟨a1, κ, rfl, a3⟩
theorem iq_fresh (h : ib_inv D s) (hD : D ≤ 60000) {p : Int} : ib_q s (f_X9_fresh p) (f_X10_fresh p) := by
  unfold ib_q f_X9_fresh f_X10_fresh
  simp only [iv_let]
  rcases ib_freshName h hD (μ := s) ib_ag.rfl with ⟨K, u, ν, a1, a2, a3⟩ | ⟨a1, ν, a2, a3⟩
  · rcases ib_layFresh h hD a3 with ⟨K2, u2, κ, b1, b2, b3, b4, b5⟩ | ⟨b1, _⟩
    · obtain ⟨e1, e2⟩ := ib_fs_uniq a1 b1
      subst e1
      rw [a2, iv_bnd_some, ib_soundAt a1.2.1, iv_bnd_some]
      refine ⟨_, ν, κ, rfl, ?_, b3⟩
      have hK := a1.2.1.1
      rw [b2, iv_bnd_some, if_neg (by decide), b4, iv_wr_id (by have := a1.1; omega) (by omega), ib_in, iv_bnd_some, ib_iz]
      by_cases c : 0 ≤ p ∧ p < K
      · rw [if_pos c, if_pos (by omega), iv_ck_pos (by omega), b5 _ (by omega), e2 _ (by omega)]
      · rw [if_neg c, if_neg (by omega)]
    · exact absurd a1 (fun q => ib_fs_fn q b1)
  · rcases ib_layFresh h hD a3 with ⟨K2, u2, κ, b1, _⟩ | ⟨b1, κ, b2, b3⟩
    · exact absurd b1 (fun q => ib_fs_fn q a1)
    · have e0 := ib_soundAt (s := fun _ => 0) (n := 0) (μ := ν) ⟨by omega, fun i hi => by omega⟩ (i := p)
      rw [show ((ib_nc (fun _ => 0) 0 : Nat) : Int) = 0 from rfl] at e0
      rw [a2, iv_bnd_some, e0, iv_bnd_some]
      refine ⟨_, ν, κ, rfl, ?_, b3⟩
      rw [b2, iv_bnd_some, if_pos rfl, if_neg (by omega)]
end IBF
