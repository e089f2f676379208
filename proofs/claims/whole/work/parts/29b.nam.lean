/-! TEXTS: A NAME, ON BOTH SIDES -/
def ip_J (T P : Nat) (μ κ : ivM) : Prop := T ≤ 8 ∧ P ≤ 6 ∧ (μ 5 4 = T ∧ μ 5 5 = P ∧ κ 110 5 = T ∧ κ 110 6 = P) ∧ (μ 5 3 = κ 110 4 ∧ 0 ≤ κ 110 4 ∧ κ 110 4 ≤ 3) ∧
  (∀ t, t < T → ib_ok5 (fun i => κ 111 (5 * t + i)) (κ 112 t).toNat ∧ 1 ≤ κ 112 t ∧ μ 6 t = ib_nc (fun i => κ 111 (5 * t + i)) (κ 112 t).toNat ∧ μ 7 t = ((κ 113 t).toNat : Int) ∧ 0 ≤ κ 113 t ∧ (κ 113 t).toNat < 2 ^ P) ∧
  (∀ p, p < P → μ 8 p = κ 114 p ∧ 1 ≤ κ 114 p ∧ κ 114 p ≤ 9) ∧ μ 5 6 = (ib_sum (fun t => ib_pc (κ 113 t).toNat) T : Nat)
def ip_kN : Int → ivM → Option (Int × ivM) := fun (w13 : Int) (μ14 : ivM) =>
    iv_ck (0 ≤ (μ14 110 5) ∧ (μ14 110 5) < 8) <|
    iv_ck (0 ≤ ((iv_upd μ14 112 (μ14 110 5).toNat w13) 110 5) ∧ ((iv_upd μ14 112 (μ14 110 5).toNat w13) 110 5) < 8) <|
    iv_let (fun (μ21 : ivM) =>
      some (0, (iv_upd μ21 110 5 (iv_wr ((μ21 110 5) + 1))))) fun j19 =>
    if w13 = 0 then
      iv_bnd (f_X10_fail (iv_upd (iv_upd μ14 112 (μ14 110 5).toNat w13) 113 ((iv_upd μ14 112 (μ14 110 5).toNat w13) 110 5).toNat 0)) fun _ μ26 =>
      j19 μ26
    else
      iv_bnd (f_X10_isTold (iv_upd (iv_upd μ14 112 (μ14 110 5).toNat w13) 113 ((iv_upd μ14 112 (μ14 110 5).toNat w13) 110 5).toNat 0)) fun r28 μ29 =>
      if r28 = 0 then
        j19 μ29
      else
        iv_let (fun (v34 : Int) (μ35 : ivM) =>
          iv_bnd (f_X10_fail (iv_upd μ35 110 18 (iv_wr ((μ29 110 18) - v34)))) fun _ μ39 =>
          j19 μ39) fun j32 =>
        if w13 = 5 then
          j32 1 μ29
        else
          j32 0 μ29
section IBY
variable {n a : Nat} {x : Nat → Int} {μ κ : ivM}
theorem ip_readName : f_X10_readName κ = lp_X10_readName_12 ip_kN iv_fuel 0 (iv_upd κ 110 18 (iv_wr ((κ 110 18) + 1))) := rfl
def ip_lk (κ : ivM) (T t : Nat) : Prop := κ 112 t = κ 112 T ∧ ∀ i, i < (κ 112 t).toNat → κ 111 (5 * t + i) = κ 111 (5 * T + i)
theorem ip_told39 {T t z : Nat} (ht : t < 8) (hT : T < 8) (h5 : κ 110 5 = T) (hz : κ 112 t = z) (hz5 : z ≤ 5) {l1 : Int} (k : Int → ivM → Option (Int × ivM)) : ∀ (d i m : Nat) (l3 : Int), i + d = z → d < m → (l3 = 0 ∨ l3 = 1) →
    ∃ y : Int, lp_X10_isTold_39 l1 t k m l3 i κ = k y κ ∧ ((y = 1 ∧ l3 = 1 ∧ ∀ q, i ≤ q → q < z → κ 111 (5 * t + q) = κ 111 (5 * T + q)) ∨ (y = 0 ∧ (l3 = 1 → ∃ q, i ≤ q ∧ q < z ∧ κ 111 (5 * t + q) ≠ κ 111 (5 * T + q)))) := by
  intro d
  induction d with
  | zero =>
    intro i m l3 hi hm h01
    obtain ⟨m, rfl⟩ : ∃ q, m = q + 1 := ⟨m - 1, by omega⟩
    unfold lp_X10_isTold_39
    rw [iv_ck_pos (by omega), Int.toNat_natCast, hz, if_pos (by omega)]
    refine ⟨l3, rfl, ?_⟩
    rcases h01 with rfl | rfl
    · exact Or.inr ⟨rfl, fun c => absurd c (by decide)⟩
    · exact Or.inl ⟨rfl, rfl, fun q _ _ => by omega⟩
  | succ d ih =>
    intro i m l3 hi hm h01
    obtain ⟨m, rfl⟩ : ∃ q, m = q + 1 := ⟨m - 1, by omega⟩
    have e1 : iv_wr (iv_wr (5 * (t : Int)) + (i : Int)) = ((5 * t + i : Nat) : Int) := by
      rw [iv_wr_id (x := 5 * (t : Int)) (by omega) (by omega), iv_wr_id (by omega) (by omega)]; omega
    have e2 : iv_wr (iv_wr (5 * (T : Int)) + (i : Int)) = ((5 * T + i : Nat) : Int) := by
      rw [iv_wr_id (x := 5 * (T : Int)) (by omega) (by omega), iv_wr_id (by omega) (by omega)]; omega
    unfold lp_X10_isTold_39
    simp only [iv_let]
    rw [iv_ck_pos (by omega), Int.toNat_natCast, hz, if_neg (by omega)]
    rcases h01 with rfl | rfl
    · rw [if_pos rfl]
      exact ⟨0, rfl, Or.inr ⟨rfl, fun c => absurd c (by decide)⟩⟩
    · rw [if_neg (by decide), h5, e1, e2, iv_ck_pos (by omega), iv_ck_pos (by omega), Int.toNat_natCast, Int.toNat_natCast, iv_wr_succ (by omega)]
      by_cases c : κ 111 (5 * t + i) = κ 111 (5 * T + i)
      · rw [if_pos c]
        obtain ⟨y, e, r⟩ := ih (i + 1) m 1 (by omega) (by omega) (Or.inr rfl)
        refine ⟨y, e, ?_⟩
        rcases r with ⟨r1, _, r3⟩ | ⟨r1, r2⟩
        · refine Or.inl ⟨r1, rfl, fun q h1 h2 => ?_⟩
          by_cases e : q = i
          · subst e; exact c
          · exact r3 q (by omega) h2
        · obtain ⟨q, h1, h2, h3⟩ := r2 rfl
          exact Or.inr ⟨r1, fun _ => ⟨q, by omega, h2, h3⟩⟩
      · rw [if_neg c]
        obtain ⟨y, e, r⟩ := ih (i + 1) m 0 (by omega) (by omega) (Or.inl rfl)
        refine ⟨y, e, ?_⟩
        rcases r with ⟨_, r2, _⟩ | ⟨r1, _⟩
        · exact absurd r2 (by decide)
        · exact Or.inr ⟨r1, fun _ => ⟨i, by omega, by omega, c⟩⟩
theorem ip_told {T : Nat} (hT : T < 8) (h5 : κ 110 5 = T) (hz : ∀ t, t < T → 0 ≤ κ 112 t ∧ κ 112 t ≤ 5) : ∃ y, f_X10_isTold κ = some (y, κ) ∧ ((y = 1 ∧ ∃ t, t < T ∧ ip_lk κ T t) ∨ (y = 0 ∧ ∀ t, t < T → ¬ ip_lk κ T t)) := by
  have key : ∀ (d t m : Nat) (l1 : Int), t + d = T → d < m → ((l1 = 1 ∧ ∃ o, o < t ∧ ip_lk κ T o) ∨ (l1 = 0 ∧ ∀ o, o < t → ¬ ip_lk κ T o)) → ∃ y, lp_X10_isTold_4 m l1 t κ = some (y, κ) ∧ ((y = 1 ∧ ∃ t, t < T ∧ ip_lk κ T t) ∨ (y = 0 ∧ ∀ t, t < T → ¬ ip_lk κ T t)) := by
    intro d
    induction d with
    | zero =>
      intro t m l1 ht hm hl
      obtain ⟨m, rfl⟩ : ∃ q, m = q + 1 := ⟨m - 1, by omega⟩
      have e : t = T := by omega
      subst e
      unfold lp_X10_isTold_4
      rw [h5, if_pos (by omega), iv_ck_pos (by rcases hl with ⟨h, _⟩ | ⟨h, _⟩ <;> omega)]
      exact ⟨l1, rfl, hl⟩
    | succ d ih =>
      intro t m l1 ht hm hl
      obtain ⟨m, rfl⟩ : ∃ q, m = q + 1 := ⟨m - 1, by omega⟩
      obtain ⟨z0, z5⟩ := hz t (by omega)
      obtain ⟨z, ez⟩ : ∃ z : Nat, κ 112 t = z := ⟨(κ 112 t).toNat, by omega⟩
      have go : ∀ y : Int, ((y = 1 ∧ ip_lk κ T t) ∨ (y = 0 ∧ ¬ ip_lk κ T t)) → ∃ w, (if l1 = 0 then (if y = 0 then lp_X10_isTold_4 m 0 (iv_wr ((t : Int) + 1)) κ else lp_X10_isTold_4 m 1 (iv_wr ((t : Int) + 1)) κ) else lp_X10_isTold_4 m 1 (iv_wr ((t : Int) + 1)) κ) = some (w, κ) ∧ ((w = 1 ∧ ∃ t, t < T ∧ ip_lk κ T t) ∨ (w = 0 ∧ ∀ t, t < T → ¬ ip_lk κ T t)) := by
        intro y hy
        rw [iv_wr_succ (by omega)]
        rcases hl with ⟨h1, o, h2, h3⟩ | ⟨h1, h2⟩
        · rw [if_neg (by omega)]
          exact ih (t + 1) m 1 (by omega) (by omega) (Or.inl ⟨rfl, o, by omega, h3⟩)
        · rw [if_pos h1]
          rcases hy with ⟨h3, h4⟩ | ⟨h3, h4⟩
          · rw [if_neg (by omega)]
            exact ih (t + 1) m 1 (by omega) (by omega) (Or.inl ⟨rfl, t, by omega, h4⟩)
          · rw [if_pos h3]
            refine ih (t + 1) m 0 (by omega) (by omega) (Or.inr ⟨rfl, fun o ho => ?_⟩)
            by_cases e : o = t
            · subst e; exact h4
            · exact h2 o (by omega)
      unfold lp_X10_isTold_4
      simp only [iv_let]
      rw [h5, if_neg (by omega), iv_ck_pos (by omega), iv_ck_pos (by omega), Int.toNat_natCast, Int.toNat_natCast]
      by_cases c : κ 112 t = κ 112 T
      · rw [if_pos c]
        obtain ⟨y, e, r⟩ := ip_told39 (κ := κ) (T := T) (t := t) (z := z) (l1 := l1) (by omega) hT h5 ez (by omega) (fun (w24 : Int) (μ26 : ivM) => if l1 = 0 then (if w24 = 0 then lp_X10_isTold_4 m 0 (iv_wr ((t : Int) + 1)) μ26 else lp_X10_isTold_4 m 1 (iv_wr ((t : Int) + 1)) μ26) else lp_X10_isTold_4 m 1 (iv_wr ((t : Int) + 1)) μ26) z 0 iv_fuel 1 (by omega) (by unfold iv_fuel; omega) (Or.inr rfl)
        rw [show ((0 : Nat) : Int) = 0 from rfl] at e
        rw [e]
        refine go y ?_
        rcases r with ⟨r1, _, r3⟩ | ⟨r1, r2⟩
        · exact Or.inl ⟨r1, c, fun i hi => r3 i (by omega) (by rw [ez, Int.toNat_natCast] at hi; exact hi)⟩
        · obtain ⟨q, _, h2, h3⟩ := r2 rfl
          exact Or.inr ⟨r1, fun hl => h3 (hl.2 q (by rw [ez, Int.toNat_natCast]; exact h2))⟩
      · rw [if_neg c]
        obtain ⟨y, e, r⟩ := ip_told39 (κ := κ) (T := T) (t := t) (z := z) (l1 := l1) (by omega) hT h5 ez (by omega) (fun (w24 : Int) (μ26 : ivM) => if l1 = 0 then (if w24 = 0 then lp_X10_isTold_4 m 0 (iv_wr ((t : Int) + 1)) μ26 else lp_X10_isTold_4 m 1 (iv_wr ((t : Int) + 1)) μ26) else lp_X10_isTold_4 m 1 (iv_wr ((t : Int) + 1)) μ26) z 0 iv_fuel 0 (by omega) (by unfold iv_fuel; omega) (Or.inl rfl)
        rw [show ((0 : Nat) : Int) = 0 from rfl] at e
        rw [e]
        refine go y ?_
        rcases r with ⟨_, r2, _⟩ | ⟨r1, _⟩
        · exact absurd r2 (by decide)
        · exact Or.inr ⟨r1, fun hl => c hl.1⟩
  exact key T 0 iv_fuel 0 (by omega) (by unfold iv_fuel; omega) (Or.inr ⟨rfl, fun o ho => by omega⟩)
/-- the state when a name of m sounds is laid down -/
def ip_nd (κ : ivM) (T m : Nat) : ivM := iv_upd (iv_upd κ 112 T (m : Int)) 113 T 0
theorem ip_kN_0 {T b : Nat} (hT : T < 8) (h5 : κ 110 5 = T) (g : ip_at b κ) : ip_kN 0 κ = some (0, iv_upd (iv_upd (ip_nd κ T 0) 110 19 b) 110 5 ((T + 1 : Nat) : Int)) := by
  have e5 : ip_nd κ T 0 110 5 = T := by unfold ip_nd; rw [iv_upd_na (by omega), iv_upd_na (by omega)]; exact h5
  have eat : ip_at b (ip_nd κ T 0) := by unfold ip_nd; exact ⟨by rw [iv_upd_na (by omega), iv_upd_na (by omega)]; exact g.1, by rw [iv_upd_na (by omega), iv_upd_na (by omega)]; exact g.2⟩
  have end1 : iv_upd (iv_upd κ 112 T 0) 113 T 0 = ip_nd κ T 0 := rfl
  unfold ip_kN
  simp only [iv_let]
  rw [h5, iv_ck_pos (by omega), Int.toNat_natCast, iv_upd_na (a := 112) (a' := 110) (by omega), h5, iv_ck_pos (by omega), Int.toNat_natCast, if_pos trivial, end1, ip_fail eat, iv_bnd_some, iv_upd_nk (by omega), e5, iv_wr_succ (by omega)]
theorem ip_kN_no {T m : Nat} (hT : T < 8) (h5 : κ 110 5 = T) (hm : 1 ≤ m) (ht : f_X10_isTold (ip_nd κ T m) = some (0, ip_nd κ T m)) : ip_kN m κ = some (0, iv_upd (ip_nd κ T m) 110 5 ((T + 1 : Nat) : Int)) := by
  have e5 : ip_nd κ T m 110 5 = T := by unfold ip_nd; rw [iv_upd_na (by omega), iv_upd_na (by omega)]; exact h5
  have end1 : iv_upd (iv_upd κ 112 T (m : Int)) 113 T 0 = ip_nd κ T m := rfl
  unfold ip_kN
  simp only [iv_let]
  rw [h5, iv_ck_pos (by omega), Int.toNat_natCast, iv_upd_na (a := 112) (a' := 110) (by omega), h5, iv_ck_pos (by omega), Int.toNat_natCast, if_neg (by omega), end1, ht, iv_bnd_some, if_pos rfl, e5, iv_wr_succ (by omega)]
theorem ip_kN_yes {T m b : Nat} (hT : T < 8) (h5 : κ 110 5 = T) (hm : 1 ≤ m) (hm5 : m ≤ 5) (hb : 1 ≤ b ∧ b ≤ 200) (g : ip_at b κ) (ht : f_X10_isTold (ip_nd κ T m) = some (1, ip_nd κ T m)) : ∃ κ', ip_kN m κ = some (0, κ') ∧ κ' 110 19 = ((if m = 5 then b - 1 else b : Nat) : Int) ∧ ip_mf (ip_nd κ T m) κ' := by
  have e5 : ip_nd κ T m 110 5 = T := by unfold ip_nd; rw [iv_upd_na (by omega), iv_upd_na (by omega)]; exact h5
  have e18 : ip_nd κ T m 110 18 = b := by unfold ip_nd; rw [iv_upd_na (by omega), iv_upd_na (by omega)]; exact g.1
  have e19 : ip_nd κ T m 110 19 = -9 := by unfold ip_nd; rw [iv_upd_na (by omega), iv_upd_na (by omega)]; exact g.2
  have end1 : iv_upd (iv_upd κ 112 T (m : Int)) 113 T 0 = ip_nd κ T m := rfl
  have go : ∀ v : Nat, v ≤ 1 → ∃ κ', (iv_bnd (f_X10_fail (iv_upd (ip_nd κ T m) 110 18 (iv_wr ((ip_nd κ T m 110 18) - (v : Int))))) fun _ μ39 => some ((0 : Int), iv_upd μ39 110 5 (iv_wr ((μ39 110 5) + 1)))) = some (0, κ') ∧ κ' 110 19 = ((b - v : Nat) : Int) ∧ ip_mf (ip_nd κ T m) κ' := by
    intro v hv
    rw [e18, iv_wr_id (x := (b : Int) - (v : Int)) (by omega) (by omega), show (b : Int) - (v : Int) = ((b - v : Nat) : Int) by omega, ip_fail (a := b - v) ⟨iv_upd_at, by rw [iv_upd_nk (by omega)]; exact e19⟩, iv_bnd_some]
    exact ⟨_, rfl, by rw [iv_upd_nk (by omega), iv_upd_at], ((ip_mf.rfl.upd (by omega)).upd (by omega)).upd (by omega)⟩
  unfold ip_kN
  simp only [iv_let]
  rw [h5, iv_ck_pos (by omega), Int.toNat_natCast, iv_upd_na (a := 112) (a' := 110) (by omega), h5, iv_ck_pos (by omega), Int.toNat_natCast, if_neg (by omega), end1, ht, iv_bnd_some, if_neg (by decide)]
  by_cases c : m = 5
  · rw [if_pos (by omega), if_pos c]
    exact go 1 (by omega)
  · rw [if_neg (by omega), if_neg c]
    have := go 0 (by omega)
    rw [show ((0 : Nat) : Int) = 0 from rfl] at this
    exact this
/-- the sounds so far -/
def ip_N (T b j : Nat) (μ κ : ivM) : Prop := μ 5 7 = 3 ∧ μ 5 8 = ib_nc (fun i => κ 111 (5 * T + i)) j ∧ μ 5 9 = j ∧ ip_at (b + j) κ ∧ ∀ i, i < j → 0 ≤ κ 111 (5 * T + i) ∧ κ 111 (5 * T + i) < 6
def ip_snd (n : Nat) (x : Nat → Int) (p : Nat) : Prop := p < n ∧ 97 ≤ x p ∧ x p ≤ 102
/-- one sound more: the model -/
theorem ip_snM (hn : n ≤ 96) (h : ip_mt n x κ) {T p j m : Nat} (hT : T < 8) (h5 : κ 110 5 = T) (hj : j < 5) (g : ip_at p κ) (hs : ip_snd n x p) (k : Int → ivM → Option (Int × ivM)) :
    lp_X10_readName_12 k (m + 1) j κ = lp_X10_readName_12 k m ((j + 1 : Nat) : Int) (iv_upd (iv_upd κ 111 (5 * T + j) (x p - 97)) 110 18 ((p + 1 : Nat) : Int)) := by
  obtain ⟨s1, s2, s3⟩ := hs
  have e1 : iv_wr (iv_wr (5 * (T : Int)) + (j : Int)) = ((5 * T + j : Nat) : Int) := by
    rw [iv_wr_id (x := 5 * (T : Int)) (by omega) (by omega), iv_wr_id (by omega) (by omega)]; omega
  rw [lp_X10_readName_12, if_neg (by omega), ip_here hn h g, iv_bnd_some, if_pos s1, ib_in, iv_bnd_some, ib_iz, if_pos ⟨s2, s3⟩, ip_here hn h g, iv_bnd_some, if_pos s1, h5, e1, iv_ck_pos (by omega), Int.toNat_natCast, iv_wr_id (x := x p - 97) (by omega) (by omega), iv_upd_na (a := 111) (a' := 110) (by omega), g.1, iv_wr_succ (x := p) (by omega), iv_wr_succ (x := j) (by omega)]
theorem ip_snM_no (hn : n ≤ 96) (h : ip_mt n x κ) {p j m : Nat} (hj : j ≤ 5) (g : ip_at p κ) (hs : ¬ ip_snd n x p ∨ j = 5) (k : Int → ivM → Option (Int × ivM)) :
    lp_X10_readName_12 k (m + 1) j κ = k j κ := by
  rw [lp_X10_readName_12]
  by_cases c : j = 5
  · rw [if_pos (by omega)]
  · rw [if_neg (by omega), ip_here hn h g, iv_bnd_some, ib_in, iv_bnd_some, ib_iz]
    have hs := hs.resolve_right c
    by_cases q : p < n
    · rw [if_pos q, if_neg (fun r => hs ⟨q, r.1, r.2⟩)]
    · rw [if_neg q, if_neg (by omega)]
/-- one sound more: the class -/
theorem ip_snX {u : Nat → Int} {j : Nat} {b : Int} (hb : 97 ≤ b ∧ b ≤ 102) (hu : ib_ok5 u (j + 1)) (huj : u j = b - 97) (h8 : μ 5 8 = ib_nc u j) (h9 : μ 5 9 = j) :
    f_X7_takeSound b μ = if j + 1 < 5 then some (1, iv_upd (iv_upd μ 5 8 (ib_nc u (j + 1))) 5 9 ((j + 1 : Nat) : Int)) else iv_bnd (f_X7_endName (iv_upd (iv_upd μ 5 8 (ib_nc u (j + 1))) 5 9 ((j + 1 : Nat) : Int))) fun r ν => if r = 0 then some (0, ν) else some (1, ν) := by
  have h5 := hu.1
  unfold f_X7_takeSound
  simp only [iv_let]
  rw [iv_wr_id (x := b - 97) (by omega) (by omega), if_neg (by omega), if_pos (by omega), h8, h9, ← huj, ib_withSound hu, iv_bnd_some, iv_upd_nk (k := 8) (k' := 9) (by omega), h9, iv_wr_succ (by omega), iv_upd_at]
  by_cases c : j + 1 < 5
  · rw [if_pos (by omega), if_pos c, iv_ck_pos (Or.inr trivial)]
  · rw [if_neg (by omega), if_neg c]
    congr 1
/-- all the sounds but a fifth one -/
theorem ip_nm (hn : n ≤ 96) {T b : Nat} (hT : T < 8) (k : Int → ivM → Option (Int × ivM)) : ∀ (d j f m : Nat) (μ κ : ivM), j + d = 4 → n < b + j + f → d + 3 ≤ m → b + j ≤ n → ip_ct n x μ → ip_mt n x κ → κ 110 5 = T → ip_N T b j μ κ →
    ∃ i f' m' μ' κ', j ≤ i ∧ i ≤ 4 ∧ (i = 4 ∨ ¬ ip_snd n x (b + i)) ∧ n < b + i + f' ∧ 3 ≤ m' ∧ b + i ≤ n ∧ lp_X7_faultOf_27 ip_kF f ((b + j : Nat) : Int) μ = lp_X7_faultOf_27 ip_kF f' ((b + i : Nat) : Int) μ' ∧ lp_X10_readName_12 k m j κ = lp_X10_readName_12 k m' i κ' ∧ ip_N T b i μ' κ' ∧
      (∀ a q, ¬ (a = 5 ∧ (q = 8 ∨ q = 9)) → μ' a q = μ a q) ∧ ∀ a q, ¬ (a = 111 ∧ 5 * T ≤ q ∧ q < 5 * T + 5) → ¬ (a = 110 ∧ q = 18) → κ' a q = κ a q := by
  intro d
  induction d with
  | zero =>
    intro j f m μ κ hj hf hm hbj hc hmt h5 hN
    exact ⟨j, f, m, μ, κ, Nat.le_refl j, by omega, Or.inl (by omega), hf, by omega, hbj, rfl, rfl, hN, fun _ _ _ => rfl, fun _ _ _ _ => rfl⟩
  | succ d ih =>
    intro j f m μ κ hj hf hm hbj hc hmt h5 hN
    rcases Classical.em (ip_snd n x (b + j)) with hs | hs
    · obtain ⟨f, rfl⟩ : ∃ q, f = q + 1 := ⟨f - 1, by have := hs.1; omega⟩
      obtain ⟨m, rfl⟩ : ∃ q, m = q + 1 := ⟨m - 1, by omega⟩
      obtain ⟨N1, N2, N3, N4, N5⟩ := hN
      obtain ⟨s1, s2, s3⟩ := id hs
      have eM := ip_snM hn hmt (T := T) (p := b + j) (j := j) (m := m) hT h5 (by omega) N4 hs k
      have u1 : ∀ i, i ≤ j → iv_upd (iv_upd κ 111 (5 * T + j) (x (b + j) - 97)) 110 18 ((b + j + 1 : Nat) : Int) 111 (5 * T + i) = if i = j then x (b + j) - 97 else κ 111 (5 * T + i) := fun i hi => by
        rw [iv_upd_na (by omega)]
        by_cases c : i = j
        · subst c; rw [iv_upd_at, if_pos rfl]
        · rw [iv_upd_nk (by omega), if_neg c]
      have hok : ib_ok5 (fun i => iv_upd (iv_upd κ 111 (5 * T + j) (x (b + j) - 97)) 110 18 ((b + j + 1 : Nat) : Int) 111 (5 * T + i)) (j + 1) := ⟨by omega, fun i hi => by
        dsimp only
        rw [u1 i (by omega)]
        split
        · omega
        · exact N5 i (by omega)⟩
      have hnc : ib_nc (fun i => iv_upd (iv_upd κ 111 (5 * T + j) (x (b + j) - 97)) 110 18 ((b + j + 1 : Nat) : Int) 111 (5 * T + i)) j = ib_nc (fun i => κ 111 (5 * T + i)) j := by
        refine (ib_nc_inj ⟨by omega, fun i hi => hok.2 i (by omega)⟩ ⟨by omega, N5⟩).mpr ⟨rfl, fun i hi => ?_⟩
        rw [u1 i (by omega), if_neg (by omega)]
      have eX := ip_snX (μ := μ) (j := j) ⟨s2, s3⟩ hok (by rw [u1 j (Nat.le_refl j), if_pos rfl]) (by rw [hnc]; exact N2) N3
      rw [if_pos (by omega)] at eX
      have eF := ip_F_good hn hc (m := f) s1 (ip_take3 N1 eX (Or.inr rfl))
      have hN2 : ip_N T b (j + 1) (iv_upd (iv_upd μ 5 8 (ib_nc (fun i => iv_upd (iv_upd κ 111 (5 * T + j) (x (b + j) - 97)) 110 18 ((b + j + 1 : Nat) : Int) 111 (5 * T + i)) (j + 1))) 5 9 ((j + 1 : Nat) : Int)) (iv_upd (iv_upd κ 111 (5 * T + j) (x (b + j) - 97)) 110 18 ((b + j + 1 : Nat) : Int)) :=
        ⟨by rw [iv_upd_nk (by omega), iv_upd_nk (by omega)]; exact N1, by rw [iv_upd_nk (by omega), iv_upd_at], iv_upd_at, ⟨iv_upd_at, by rw [iv_upd_nk (by omega), iv_upd_na (by omega)]; exact N4.2⟩, hok.2⟩
      obtain ⟨i, f', m', μ', κ', r1, r2, r3, r4, r5, r6, r7, r8, r9, r10, r11⟩ := ih (j + 1) f m _ _ (by omega) (by omega) (by omega) (by omega) (hc.fr ((ib_fr.rfl.upd (by omega)).upd (by omega))) (hmt.fr ((ip_mf.rfl.upd (by omega)).upd (by omega))) (by rw [iv_upd_nk (by omega), iv_upd_na (by omega)]; exact h5) hN2
      refine ⟨i, f', m', μ', κ', by omega, r2, r3, r4, r5, r6, ?_, ?_, r9, fun a q hq => ?_, fun a q h1 h2 => ?_⟩
      · rw [eF]; exact r7
      · rw [eM]; exact r8
      · rw [r10 a q hq]
        unfold iv_upd
        rw [if_neg (by omega), if_neg (by omega)]
      · rw [r11 a q h1 h2]
        unfold iv_upd
        rw [if_neg (by omega), if_neg (by omega)]
    · exact ⟨j, f, m, μ, κ, Nat.le_refl j, by omega, Or.inr hs, hf, by omega, hbj, rfl, rfl, hN, fun _ _ _ => rfl, fun _ _ _ _ => rfl⟩
/-- a thing more -/
theorem ip_J_N {T P m : Nat} {μ' κ' : ivM} (hJ : ip_J T P μ κ) (hT : T < 8) (hm : 1 ≤ m ∧ m ≤ 5) (hμ : ∀ a q, ¬ (a = 5 ∧ (q = 7 ∨ q = 8 ∨ q = 9)) → μ' a q = μ a q) (hκ : ∀ a q, ¬ (a = 111 ∧ 5 * T ≤ q ∧ q < 5 * T + 5) → ¬ (a = 110 ∧ q = 18) → κ' a q = κ a q)
    (h8 : μ' 5 8 = ib_nc (fun i => κ' 111 (5 * T + i)) m) (hd : ∀ i, i < m → 0 ≤ κ' 111 (5 * T + i) ∧ κ' 111 (5 * T + i) < 6) : ip_J (T + 1) P (ip_en μ' T) (iv_upd (ip_nd κ' T m) 110 5 ((T + 1 : Nat) : Int)) := by
  obtain ⟨j1, j2, ⟨j3, j4, j5, j6⟩, ⟨j7, j8, j9⟩, j10, j11, j12⟩ := hJ
  have eμ : ∀ a q, ¬ (a = 5 ∧ (q = 4 ∨ q = 7 ∨ q = 8 ∨ q = 9)) → ¬ ((a = 6 ∨ a = 7) ∧ q = T) → ip_en μ' T a q = μ a q := fun a q h1 h2 => by
    rw [← hμ a q (by omega)]
    unfold ip_en iv_upd
    rw [if_neg (by omega), if_neg (by omega), if_neg (by omega), if_neg (by omega)]
  have eκ : ∀ a q, ¬ (a = 111 ∧ 5 * T ≤ q ∧ q < 5 * T + 5) → ¬ (a = 110 ∧ (q = 5 ∨ q = 18)) → ¬ ((a = 112 ∨ a = 113) ∧ q = T) → iv_upd (ip_nd κ' T m) 110 5 ((T + 1 : Nat) : Int) a q = κ a q := fun a q h1 h2 h3 => by
    rw [← hκ a q h1 (by omega)]
    unfold ip_nd iv_upd
    rw [if_neg (by omega), if_neg (by omega), if_neg (by omega)]
  have e111 : ∀ q, iv_upd (ip_nd κ' T m) 110 5 ((T + 1 : Nat) : Int) 111 q = κ' 111 q := fun q => by
    unfold ip_nd
    rw [iv_upd_na (by omega), iv_upd_na (by omega), iv_upd_na (by omega)]
  have e112 : iv_upd (ip_nd κ' T m) 110 5 ((T + 1 : Nat) : Int) 112 T = m := by
    unfold ip_nd
    rw [iv_upd_na (by omega), iv_upd_na (by omega), iv_upd_at]
  have e113 : iv_upd (ip_nd κ' T m) 110 5 ((T + 1 : Nat) : Int) 113 T = 0 := by
    unfold ip_nd
    rw [iv_upd_na (by omega), iv_upd_at]
  have e6 : ip_en μ' T 6 T = μ' 5 8 := by
    unfold ip_en
    rw [iv_upd_na (by omega), iv_upd_na (by omega), iv_upd_na (by omega), iv_upd_at]
  have e7 : ip_en μ' T 7 T = 0 := by
    unfold ip_en
    rw [iv_upd_na (by omega), iv_upd_na (by omega), iv_upd_at]
  have e54 : ip_en μ' T 5 4 = ((T + 1 : Nat) : Int) := by
    unfold ip_en
    rw [iv_upd_nk (by omega), iv_upd_at]
  have k4 : iv_upd (ip_nd κ' T m) 110 5 ((T + 1 : Nat) : Int) 110 4 = κ 110 4 := eκ _ _ (by omega) (by omega) (by omega)
  refine ⟨by omega, j2, ⟨e54, (eμ _ _ (by omega) (by omega)).trans j4, iv_upd_at, (eκ _ _ (by omega) (by omega) (by omega)).trans j6⟩, ⟨by rw [k4, eμ _ _ (by omega) (by omega)]; exact j7, by rw [k4]; exact j8, by rw [k4]; exact j9⟩, fun t ht => ?_, fun p hp => ?_, ?_⟩
  · by_cases c : t = T
    · subst c
      simp only [e111]
      rw [e112, e113, e6, e7, Int.toNat_natCast]
      exact ⟨⟨hm.2, hd⟩, by omega, h8, rfl, Int.le_refl 0, Nat.pow_pos (by omega)⟩
    · obtain ⟨q1, q2, q3, q4, q5, q6⟩ := j10 t (by omega)
      rw [eκ 112 t (by omega) (by omega) (by omega), eκ 113 t (by omega) (by omega) (by omega), eμ 6 t (by omega) (by omega), eμ 7 t (by omega) (by omega)]
      have es : ∀ i, i < 5 → iv_upd (ip_nd κ' T m) 110 5 ((T + 1 : Nat) : Int) 111 (5 * t + i) = κ 111 (5 * t + i) := fun i hi => eκ _ _ (by omega) (by omega) (by omega)
      have hok : ib_ok5 (fun i => iv_upd (ip_nd κ' T m) 110 5 ((T + 1 : Nat) : Int) 111 (5 * t + i)) (κ 112 t).toNat := ⟨q1.1, fun i hi => by
        dsimp only
        rw [es i (by have := q1.1; omega)]; exact q1.2 i hi⟩
      refine ⟨hok, q2, ?_, q4, q5, q6⟩
      rw [(ib_nc_inj hok q1).mpr ⟨rfl, fun i hi => es i (by have := q1.1; omega)⟩]
      exact q3
  · rw [eμ 8 p (by omega) (by omega), eκ 114 p (by omega) (by omega) (by omega)]
    exact j11 p hp
  · rw [eμ 5 6 (by omega) (by omega), j12]
    show _ = ((ib_sum (fun t => ib_pc (iv_upd (ip_nd κ' T m) 110 5 ((T + 1 : Nat) : Int) 113 t).toNat) T + ib_pc (iv_upd (ip_nd κ' T m) 110 5 ((T + 1 : Nat) : Int) 113 T).toNat : Nat) : Int)
    have es : ib_sum (fun t => ib_pc (iv_upd (ip_nd κ' T m) 110 5 ((T + 1 : Nat) : Int) 113 t).toNat) T = ib_sum (fun t => ib_pc (κ 113 t).toNat) T := ib_sum_ext T (fun t ht => by rw [eκ 113 t (by omega) (by omega) (by omega)])
    rw [e113, es]
    rfl
end IBY
