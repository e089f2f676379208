/-! LOADS: THE CLASS -/
section IBK
variable {lf : Nat → Nat} {be : Nat → Int} {z : Nat → Nat}
/-- what the carriers hold -/
def ib_cr (lf : Nat → Nat) (be : Nat → Int) (z : Nat → Nat) (μ : ivM) : Prop := (∀ p, p < 6 → μ 100 p = (lf p : Nat) ∧ lf p < 256 ∧ μ 101 p = be p ∧ be p ≤ 9) ∧ (∀ p, 0 ≤ be p) ∧ ∀ t, t < 8 → μ 102 t = (z t : Nat) ∧ z t ≤ 5
theorem ib_cr.fr {μ ν : ivM} (h : ib_cr lf be z μ) (f : ib_fr 103 104 μ ν) : ib_cr lf be z ν :=
  ⟨fun p hp => by rw [f _ _ (by omega), f _ _ (by omega)]; exact h.1 p hp, h.2.1, fun t ht => by rw [f _ _ (by omega)]; exact h.2.2 t ht⟩
def ib_tkb (lf : Nat → Nat) (be : Nat → Int) (l t w : Nat) : Bool := (lf (ib_pe l)).testBit t && decide ((w : Int) ≤ be (ib_pe l))
theorem ib_tkb_iff {l t w : Nat} : ib_tkb lf be l t w = true ↔ ib_tk lf be l t w := by
  unfold ib_tkb ib_tk
  rw [Bool.and_eq_true, decide_eq_true_eq]
theorem ib_pe_lt {l : Nat} : ib_pe l < 6 := by unfold ib_pe; omega
theorem ib_canTake {μ : ivM} (h : ib_cr lf be z μ) {l t w : Nat} (hl : 0 < l) (hl2 : l < 100000) (ht : t < 8) : f_X0_canTake l t w μ = some (if ib_tkb lf be l t w then 1 else 0, μ) := by
  obtain ⟨e1, e2, e3, e4⟩ := h.1 (ib_pe l) ib_pe_lt
  have ep : iv_wr (5 - iv_rem (iv_wr ((l : Int) - 1)) 6) = ((ib_pe l : Nat) : Int) := by
    rw [iv_wr_id (x := (l : Int) - 1) (by omega) (by omega), iv_rem_id (by omega) (by omega) (by omega) (by omega), iv_wr_id (by omega) (by omega)]
    unfold ib_pe
    omega
  have hp := ib_pe_lt (l := l)
  unfold f_X0_canTake
  simp only [iv_let, ep]
  rw [if_neg (by omega), if_neg (by omega), iv_ck_pos (by omega), Int.toNat_natCast, e1, ib_has (by omega) (by omega), iv_bnd_some, ib_iz, iv_ck_pos (by omega), e3]
  unfold ib_tkb
  cases (lf (ib_pe l)).testBit t
  · rfl
  · rw [if_pos rfl]
    by_cases c : (w : Int) ≤ be (ib_pe l)
    · rw [if_neg (by omega), decide_eq_true c]; rfl
    · rw [if_pos (by omega), decide_eq_false c]; rfl
/-- a set's cells take what is better -/
def ib_hb (S l w : Nat) (μ ν : ivM) : Prop := ib_fr 103 104 μ ν ∧ (∀ R, R ≠ S → ν 103 R = μ 103 R ∧ ν 104 R = μ 104 R) ∧
  ((ν 103 S = l ∧ ν 104 S = w ∧ (μ 103 S = -9 ∨ (l : Int) < μ 103 S ∨ ((l : Int) = μ 103 S ∧ (w : Int) < μ 104 S))) ∨ (ν 103 S = μ 103 S ∧ ν 104 S = μ 104 S ∧ μ 103 S ≠ -9 ∧ (μ 103 S < l ∨ (μ 103 S = l ∧ μ 104 S ≤ w))))
theorem ib_holdBetter {S l w : Nat} (hS : S < 256) (μ : ivM) : ∃ ν, f_X0_holdBetter S l w μ = some (0, ν) ∧ ib_hb S l w μ ν := by
  have c : 0 ≤ (S : Int) ∧ (S : Int) < 256 := by omega
  have keep : μ 103 S ≠ -9 → (μ 103 S < l ∨ (μ 103 S = l ∧ μ 104 S ≤ w)) → ib_hb S l w μ μ := fun h1 h2 => ⟨ib_fr.rfl, fun R _ => ⟨rfl, rfl⟩, Or.inr ⟨rfl, rfl, h1, h2⟩⟩
  have take : (μ 103 S = -9 ∨ (l : Int) < μ 103 S ∨ ((l : Int) = μ 103 S ∧ (w : Int) < μ 104 S)) → ib_hb S l w μ (iv_upd (iv_upd μ 103 S l) 104 S w) := fun h1 =>
    ⟨(ib_fr.rfl.upd (by omega)).upd (by omega), fun R hR => ⟨by rw [iv_upd_na (by omega), iv_upd_nk hR], by rw [iv_upd_nk hR, iv_upd_na (by omega)]⟩, Or.inl ⟨by rw [iv_upd_na (by omega), iv_upd_at], iv_upd_at, h1⟩⟩
  unfold f_X0_holdBetter
  rw [ib_isSet hS, iv_bnd_some, if_neg (by decide)]
  simp only [iv_let, iv_ck_pos c, Int.toNat_natCast]
  by_cases c1 : μ 103 S = -9
  · rw [if_pos c1]
    exact ⟨_, rfl, take (Or.inl c1)⟩
  · rw [if_neg c1]
    by_cases c2 : (l : Int) < μ 103 S
    · rw [if_pos c2]
      exact ⟨_, rfl, take (Or.inr (Or.inl c2))⟩
    · rw [if_neg c2]
      by_cases c3 : (l : Int) = μ 103 S
      · rw [if_pos c3]
        by_cases c4 : μ 104 S ≤ w
        · rw [if_pos c4]
          exact ⟨_, rfl, keep c1 (Or.inr ⟨c3.symm, c4⟩)⟩
        · rw [if_neg c4]
          exact ⟨_, rfl, take (Or.inr (Or.inr ⟨c3, by omega⟩))⟩
      · rw [if_neg c3]
        exact ⟨_, rfl, keep c1 (Or.inl (by omega))⟩
theorem ib_putLast_lp {μ : ivM} (h : ib_cr lf be z μ) {S t o : Nat} (ht : t < 8) (ho : o ≤ 2000) (k : Int → ivM → Option (Int × ivM)) : ∀ (d j n : Nat), j + d = 7 → d < n → 0 < j → (∀ i, 0 < i → i < j → ¬ ib_tk lf be (o + i) t (z t)) →
    (∃ i, 0 < i ∧ i ≤ 6 ∧ ib_tk lf be (o + i) t (z t) ∧ (∀ q, 0 < q → q < i → ¬ ib_tk lf be (o + q) t (z t)) ∧ lp_X0_putLast_85 S t o k n j μ = k i μ) ∨ ((∀ i, 0 < i → i ≤ 6 → ¬ ib_tk lf be (o + i) t (z t)) ∧ lp_X0_putLast_85 S t o k n j μ = some (0, μ)) := by
  have hz := h.2.2 t ht
  intro d
  induction d with
  | zero =>
    intro j n hj hn hoj hno
    obtain ⟨n, rfl⟩ : ∃ q, n = q + 1 := ⟨n - 1, by omega⟩
    right
    refine ⟨fun i h1 h2 => hno i h1 (by omega), ?_⟩
    unfold lp_X0_putLast_85
    rw [if_pos (by omega)]
  | succ d ih =>
    intro j n hj hn hoj hno
    obtain ⟨n, rfl⟩ : ∃ q, n = q + 1 := ⟨n - 1, by omega⟩
    unfold lp_X0_putLast_85
    rw [if_neg (by omega), iv_ck_pos (by omega), Int.toNat_natCast, hz.1, show (o : Int) + (j : Int) = ((o + j : Nat) : Int) by omega, iv_wr_nat (by omega), ib_canTake h (by omega) (by omega) ht, iv_bnd_some, ib_iz]
    cases hb : ib_tkb lf be (o + j) t (z t)
    · rw [if_neg (by decide), iv_wr_succ (by omega)]
      refine ih (j + 1) n (by omega) (by omega) (by omega) (fun i h1 h2 => ?_)
      by_cases e : i = j
      · subst e
        intro c
        rw [ib_tkb_iff.mpr c] at hb; cases hb
      · exact hno i h1 (by omega)
    · left
      rw [if_pos rfl]
      exact ⟨j, hoj, by omega, ib_tkb_iff.mp hb, fun q h1 h2 => hno q h1 (by omega), rfl⟩
theorem ib_putLast {μ : ivM} (h : ib_cr lf be z μ) {S t o ow : Nat} (hS : S < 256) (ht : S.testBit t = true) (ho : o ≤ 2000) (how : ow ≤ 40) (h1 : μ 103 (iv_nd S (2 ^ t)) = o) (h2 : μ 104 (iv_nd S (2 ^ t)) = ow) :
    ∃ ν, f_X0_putLast S t μ = some (0, ν) ∧ ((∃ l w, ib_put lf be z t o ow l w ∧ ib_hb S l w μ ν) ∨ ((∀ l w, ¬ ib_put lf be z t o ow l w) ∧ ν = μ)) := by
  have ht8 := ib_bit8 hS ht
  have hz := h.2.2 t ht8
  have h2t : 2 ^ t < 256 := (show 2 ^ t < 2 ^ 8 from Nat.pow_lt_pow_right (by omega) (by omega))
  have hr := ib_nd_256 (b := 2 ^ t) hS
  unfold f_X0_putLast
  simp only [iv_let]
  rw [ib_isSet hS, iv_bnd_some, if_neg (by decide), if_neg (by omega), if_neg (by omega), ib_has (by omega) (by omega), iv_bnd_some, ib_iz, if_pos ht, ib_shl1 (by omega), iv_xor_nat (by omega) (by omega), ib_xor_nd S hS t ht8 ht, iv_ck_pos (by omega), iv_ck_pos (by omega), iv_ck_pos (by omega), Int.toNat_natCast, Int.toNat_natCast, h1, h2, hz.1, show (ow : Int) + (z t : Int) = ((ow + z t : Nat) : Int) by omega, iv_wr_nat (by omega)]
  have loop : ¬ (0 < o ∧ ib_tk lf be o t (ow + z t)) → ∃ ν, lp_X0_putLast_85 S t o (fun (w40 : Int) (μ41 : ivM) =>
      iv_ck (0 ≤ (t : Int) ∧ (t : Int) < 8) <|
      iv_bnd (f_X0_holdBetter S (iv_wr ((o : Int) + w40)) (μ41 102 t) μ41) fun _ μ46 =>
      some (0, μ46)) iv_fuel 1 μ = some (0, ν) ∧ ((∃ l w, ib_put lf be z t o ow l w ∧ ib_hb S l w μ ν) ∨ ((∀ l w, ¬ ib_put lf be z t o ow l w) ∧ ν = μ)) := by
    intro hno
    have hlp := ib_putLast_lp h (S := S) ht8 ho (fun (w40 : Int) (μ41 : ivM) =>
      iv_ck (0 ≤ (t : Int) ∧ (t : Int) < 8) <|
      iv_bnd (f_X0_holdBetter S (iv_wr ((o : Int) + w40)) (μ41 102 t) μ41) fun _ μ46 =>
      some (0, μ46)) 6 1 iv_fuel (by omega) (by decide) (by omega) (fun i a b => by omega)
    rw [show ((1 : Nat) : Int) = 1 from rfl] at hlp
    rcases hlp with ⟨i, a1, a2, a3, a4, a5⟩ | ⟨a1, a2⟩
    · obtain ⟨ν, e, g⟩ := ib_holdBetter (S := S) (l := o + i) (w := z t) hS μ
      refine ⟨ν, ?_, Or.inl ⟨o + i, z t, Or.inr ⟨hno, by omega, by omega, a3, fun q h1 h2 => ?_, rfl⟩, g⟩⟩
      · rw [a5, iv_ck_pos (by omega), hz.1, show (o : Int) + (i : Int) = ((o + i : Nat) : Int) by omega, iv_wr_nat (by omega), e]; rfl
      · have := a4 (q - o) (by omega) (by omega)
        rw [show o + (q - o) = q by omega] at this
        exact this
    · refine ⟨μ, a2, Or.inr ⟨fun l w hp => ?_, rfl⟩⟩
      rcases hp with ⟨b1, b2, _⟩ | ⟨_, b1, b2, b3, _⟩
      · exact hno ⟨b1, b2⟩
      · have := a1 (l - o) (by omega) (by omega)
        rw [show o + (l - o) = l by omega] at this
        exact this b3
  by_cases c : 0 < o
  · rw [if_neg (by omega), ib_canTake h c (by omega) ht8, iv_bnd_some, ib_iz]
    cases hb : ib_tkb lf be o t (ow + z t)
    · rw [if_neg (by decide)]
      exact loop (fun c2 => by rw [ib_tkb_iff.mpr c2.2] at hb; cases hb)
    · rw [if_pos rfl]
      obtain ⟨ν, e, g⟩ := ib_holdBetter (S := S) (l := o) (w := ow + z t) hS μ
      rw [e, iv_bnd_some]
      exact ⟨ν, rfl, Or.inl ⟨o, ow + z t, Or.inl ⟨c, ib_tkb_iff.mp hb, rfl, rfl⟩, g⟩⟩
  · rw [if_pos (by omega)]
    exact loop (fun c2 => c c2.1)
theorem ib_cb_w {l w S : Nat} (hz : ∀ t, t < 8 → z t ≤ 5) (h : ib_cb lf be z l w S) : w ≤ 40 := by
  rcases h with ⟨_, _, rfl⟩ | ⟨m, L, _, _, _, _, rfl, _⟩
  · omega
  · exact ib_wt_le hz L
theorem ib_packSet_lp {S : Nat} (hS : S < 256) : ∀ (d k n : Nat) (μ : ivM), k + d = 8 → d < n → ib_cr lf be z μ → (∀ t, S.testBit t = true → ib_cell lf be z (iv_nd S (2 ^ t)) (μ 103 (iv_nd S (2 ^ t))) (μ 104 (iv_nd S (2 ^ t)))) → ib_mid lf be z S k (μ 103 S) (μ 104 S) →
    ∃ ν, lp_X0_packSet_10 S n k μ = some (0, ν) ∧ ib_fr 103 104 μ ν ∧ (∀ R, R ≠ S → ν 103 R = μ 103 R ∧ ν 104 R = μ 104 R) ∧ ib_mid lf be z S 8 (ν 103 S) (ν 104 S) := by
  intro d
  induction d with
  | zero =>
    intro k n μ hk hn hcr hrest hmid
    obtain ⟨n, rfl⟩ : ∃ q, n = q + 1 := ⟨n - 1, by omega⟩
    unfold lp_X0_packSet_10
    rw [if_pos (by omega)]
    refine ⟨μ, rfl, ib_fr.rfl, fun R _ => ⟨rfl, rfl⟩, ?_⟩
    rw [show k = 8 by omega] at hmid; exact hmid
  | succ d ih =>
    intro k n μ hk hn hcr hrest hmid
    obtain ⟨n, rfl⟩ : ∃ q, n = q + 1 := ⟨n - 1, by omega⟩
    have hz : ∀ t, t < 8 → z t ≤ 5 := fun t ht => (hcr.2.2 t ht).2
    have h2k : 2 ^ k < 256 := (show 2 ^ k < 2 ^ 8 from Nat.pow_lt_pow_right (by omega) (by omega))
    unfold lp_X0_packSet_10
    simp only [iv_let]
    rw [if_neg (by omega), ib_has (by omega) (by omega), iv_bnd_some, ib_iz, iv_wr_succ (by omega)]
    have more : (∀ m L, ib_sb L S → ib_bor lf be z (ib_pe (m + 1)) L → ib_ca lf be z m (iv_nd S L) → L.testBit k = true → ∃ l w : Nat, μ 103 S = l ∧ μ 104 S = w ∧ ib_lex l w (m + 1) (ib_wt z L)) → ib_mid lf be z S (k + 1) (μ 103 S) (μ 104 S) := fun hm =>
      ⟨hmid.1, fun t ht m L a b c e => by
        by_cases q : t = k
        · subst q; exact hm m L a b c e
        · exact hmid.2 t (by omega) m L a b c e⟩
    cases hb : S.testBit k
    · rw [if_neg (by decide)]
      exact ih (k + 1) n μ (by omega) (by omega) hcr hrest (more fun m L a _ _ e => by rw [a k e] at hb; cases hb)
    · have hnd := ib_pc_nd S hS k (by omega) hb
      have hr := hrest k hb
      rw [if_pos rfl, ib_shl1 (by omega), iv_xor_nat (by omega) (by omega), ib_xor_nd S hS k (by omega) hb, iv_ck_pos (by omega), Int.toNat_natCast]
      rcases hr with ⟨r1, r2⟩ | ⟨o, ow, r1, r2, r3, r4, r5⟩
      · rw [if_pos r1]
        refine ih (k + 1) n μ (by omega) (by omega) hcr hrest (more fun m L a b c e => ?_)
        rcases ib_cb_rest hS a b c e with ⟨w, _, q⟩ | ⟨l, w, _, q⟩
        · exact absurd q (r2 _ _)
        · exact absurd q (r2 _ _)
      · have how := ib_cb_w hz r4
        obtain ⟨ν, e, hh⟩ := ib_putLast hcr hS hb (o := o) (ow := ow) (by omega) how r1 r2
        rw [if_neg (by omega), e, iv_bnd_some]
        rcases hh with ⟨l, w, hp, f1, f2, f3⟩ | ⟨hno, rfl⟩
        · have hcb := ib_put_cb hcr.2.1 hS hb r4 hp
          have hl6 : l ≤ 6 * S := by
            rcases hp with ⟨_, _, rfl, _⟩ | ⟨_, _, q, _⟩
            · omega
            · omega
          have hmid2 : ib_mid lf be z S (k + 1) (ν 103 S) (ν 104 S) := by
            rcases f3 with ⟨g1, g2, g3⟩ | ⟨g1, g2, g3, g4⟩
            · refine ⟨Or.inr ⟨l, w, g1, g2, hl6, hcb⟩, fun t ht m L a b c et => ?_⟩
              refine ⟨l, w, g1, g2, ?_⟩
              by_cases q : t = k
              · rw [q] at et
                exact (ib_put_best hS a b c et r5).1 l w hp
              · obtain ⟨l2, w2, q1, q2, q3⟩ := hmid.2 t (by omega) m L a b c et
                unfold ib_lex at q3 ⊢
                omega
            · rw [g1, g2]
              rcases hmid.1 with q | ⟨l2, w2, q1, q2, q3, q4⟩
              · exact absurd q g3
              · refine more fun m L a b c et => ⟨l2, w2, q1, q2, ?_⟩
                have := (ib_put_best hS a b c et r5).1 l w hp
                unfold ib_lex at this ⊢
                omega
          obtain ⟨κ, e2, u1, u2, u3⟩ := ih (k + 1) n ν (by omega) (by omega) (hcr.fr f1) (fun t ht => by
            have := ib_pc_nd S hS t (ib_bit8 hS ht) ht
            rw [(f2 _ (by omega)).1, (f2 _ (by omega)).2]
            exact hrest t ht) hmid2
          exact ⟨κ, e2, f1.tr u1, fun R hR => ⟨(u2 R hR).1.trans (f2 R hR).1, (u2 R hR).2.trans (f2 R hR).2⟩, u3⟩
        · refine ih (k + 1) n ν (by omega) (by omega) hcr hrest (more fun m L a b c et => ?_)
          obtain ⟨l, w, hp⟩ := (ib_put_best hS a b c et r5).2
          exact absurd hp (hno l w)
theorem ib_cell_0 : ib_cell lf be z 0 0 0 := by
  refine Or.inr ⟨0, 0, rfl, rfl, by omega, Or.inl ⟨rfl, rfl, rfl⟩, fun l' w' _ => ?_⟩
  unfold ib_lex
  omega
theorem ib_pack_lp {A : Nat} (hA : A < 256) (k : ivM → Option (Int × ivM)) : ∀ (d S n : Nat) (μ : ivM), S + d = A + 1 → d < n → 0 < S → ib_cr lf be z μ → (∀ R, R < S → ib_sb R A → ib_cell lf be z R (μ 103 R) (μ 104 R)) →
    ∃ ν, lp_X0_pack_16 A k n S μ = k ν ∧ ib_fr 103 104 μ ν ∧ ∀ R, ib_sb R A → R ≤ A → ib_cell lf be z R (ν 103 R) (ν 104 R) := by
  intro d
  induction d with
  | zero =>
    intro S n μ hS hn h0 hcr hh
    obtain ⟨n, rfl⟩ : ∃ q, n = q + 1 := ⟨n - 1, by omega⟩
    unfold lp_X0_pack_16
    rw [if_pos (by omega)]
    exact ⟨μ, rfl, ib_fr.rfl, fun R h1 h2 => hh R (by omega) h1⟩
  | succ d ih =>
    intro S n μ hS hn h0 hcr hh
    obtain ⟨n, rfl⟩ : ∃ q, n = q + 1 := ⟨n - 1, by omega⟩
    unfold lp_X0_pack_16
    simp only [iv_let]
    rw [if_neg (by omega), if_neg (by omega), iv_andn (by omega) (by omega), iv_wr_succ (by omega)]
    by_cases c : iv_nd S A = 0
    · have hsb := ib_sb_nd.mp c
      rw [if_pos (by omega), iv_ck_pos (by omega), Int.toNat_natCast]
      have f0 : ib_fr 103 104 μ (iv_upd μ 103 S (-9)) := ib_fr.rfl.upd (by omega)
      obtain ⟨ν, e, f, g, m⟩ := ib_packSet_lp (lf := lf) (be := be) (z := z) (S := S) (by omega) 8 0 iv_fuel (iv_upd μ 103 S (-9)) (by omega) (by decide) (hcr.fr f0) (fun t ht => by
        have := ib_pc_nd S (by omega) t (ib_bit8 (by omega) ht) ht
        rw [iv_upd_nk (by omega), iv_upd_na (by omega)]
        exact hh _ (by omega) (ib_sb_ndl.tr hsb)) ⟨Or.inl iv_upd_at, fun t ht => by omega⟩
      unfold f_X0_packSet
      rw [show ((0 : Nat) : Int) = 0 from rfl] at e
      rw [ib_isSet (by omega), iv_bnd_some, if_neg (by decide), e, iv_bnd_some]
      have hc := ib_mid_end (by omega) h0 m
      obtain ⟨κ, e2, f2, g2⟩ := ih (S + 1) n ν (by omega) (by omega) (by omega) (hcr.fr (f0.tr f)) (fun R h1 h2 => by
        by_cases q : R = S
        · subst q; exact hc
        · rw [(g R q).1, (g R q).2, iv_upd_nk q, iv_upd_na (by omega)]
          exact hh R (by omega) h2)
      exact ⟨κ, e2, (f0.tr f).tr f2, g2⟩
    · rw [if_neg (by omega)]
      exact ih (S + 1) n μ (by omega) (by omega) (by omega) hcr (fun R h1 h2 => by
        by_cases q : R = S
        · subst q; exact absurd (ib_sb_nd.mpr h2) c
        · exact hh R (by omega) h2)
theorem ib_sb_le {a b : Nat} (h : ib_sb a b) : a ≤ b := by
  have : a = b &&& a := by
    apply Nat.eq_of_testBit_eq
    intro i
    rw [Nat.testBit_and]
    cases ha : a.testBit i
    · simp
    · rw [h i ha]; rfl
  rw [this]; exact Nat.and_le_left
theorem ib_pack {A : Nat} (hA : A < 256) {μ : ivM} (h : ib_cr lf be z μ) : ∃ ν, f_X0_pack A μ = some (0, ν) ∧ ib_fr 103 104 μ ν ∧ ∀ R, ib_sb R A → ib_cell lf be z R (ν 103 R) (ν 104 R) := by
  unfold f_X0_pack
  have f0 : ib_fr 103 104 μ (iv_upd (iv_upd μ 103 0 0) 104 0 0) := (ib_fr.rfl.upd (by omega)).upd (by omega)
  obtain ⟨ν, e, f, g⟩ := ib_pack_lp (lf := lf) (be := be) (z := z) hA (fun (μ15 : ivM) => some (0, μ15)) A 1 iv_fuel (iv_upd (iv_upd μ 103 0 0) 104 0 0) (by omega) (by unfold iv_fuel; omega) (by omega) (h.fr f0) (fun R h1 _ => by
    rw [show R = 0 by omega, iv_upd_na (by omega), iv_upd_at, iv_upd_at]; exact ib_cell_0)
  rw [show ((1 : Nat) : Int) = 1 from rfl] at e
  exact ⟨ν, e, f0.tr f, fun R hR => g R hR (ib_sb_le hR)⟩
theorem ib_cell_ca (hb : ∀ p, 0 ≤ be p) {R m : Nat} {x y : Int} (h : ib_cell lf be z R x y) : (x ≠ -9 ∧ x ≤ m) ↔ ib_ca lf be z m R := by
  rcases h with ⟨h1, h2⟩ | ⟨l, w, h1, h2, h3, h4, h5⟩
  · constructor
    · rintro ⟨c, _⟩; exact absurd h1 c
    · intro c
      obtain ⟨l, w, _, q⟩ := ib_ca_trim m R c
      exact absurd q (h2 l w)
  · constructor
    · rintro ⟨_, c⟩; exact ib_ca_le hb (by omega) (ib_cb_ca h4)
    · intro c
      obtain ⟨l', w', q1, q2⟩ := ib_ca_trim m R c
      have := h5 l' w' q2
      unfold ib_lex at this
      omega
/-- how many times a set takes: told of a number -/
def ib_tm (lf : Nat → Nat) (be : Nat → Int) (z : Nat → Nat) (A : Nat) (x : Int) : Prop := (x = -9 ∧ ∀ m, ¬ ib_ca lf be z m A) ∨ ∃ v : Nat, x = v ∧ ib_ca lf be z (6 * v) A ∧ ∀ u, u < v → ¬ ib_ca lf be z (6 * u) A
theorem ib_timesFor (hb : ∀ p, 0 ≤ be p) {A : Nat} (hA : A < 256) {μ : ivM} (h : ib_cell lf be z A (μ 103 A) (μ 104 A)) : ∃ x, f_X0_timesFor A μ = some (x, μ) ∧ ib_tm lf be z A x := by
  have c : 0 ≤ (A : Int) ∧ (A : Int) < 256 := by omega
  have hca := fun m => ib_cell_ca (m := m) hb h
  unfold f_X0_timesFor
  simp only [iv_let, iv_ck_pos c, Int.toNat_natCast]
  rw [ib_isSet hA, iv_bnd_some, if_neg (by decide)]
  rcases h with ⟨h1, h2⟩ | ⟨l, w, h1, h2, h3, h4, h5⟩
  · rw [if_pos h1]
    exact ⟨_, rfl, Or.inl ⟨rfl, fun m c => absurd h1 ((hca m).mpr c).1⟩⟩
  · rw [if_neg (by omega), h1]
    refine ⟨_, rfl, Or.inr ⟨(l + 5) / 6, ?_, (hca _).mp ⟨by omega, by omega⟩, fun u hu c => ?_⟩⟩
    · rw [iv_wr_id (x := (l : Int) + 6) (by omega) (by omega), iv_wr_id (by omega) (by omega), iv_div_id (by omega) (by omega) (by omega) (by omega)]
      omega
    · have := ((hca _).mpr c).2
      omega
/-! the first way -/
def ib_qq (lf : Nat → Nat) (be : Nat → Int) (z : Nat → Nat) (p R L : Nat) : Prop := ib_sb L R ∧ ib_ca lf be z (5 - p) (iv_nd R L) ∧ ib_bor lf be z p L
def ib_ll (lf : Nat → Nat) (be : Nat → Int) (z : Nat → Nat) (p R L : Nat) : Prop := ib_qq lf be z p R L ∧ ∀ q, q < L → ¬ ib_qq lf be z p R q
theorem ib_xor_sb {R L : Nat} (h : ib_sb L R) : R ^^^ L = iv_nd R L := by
  apply Nat.eq_of_testBit_eq
  intro i
  rw [Nat.testBit_xor, iv_nd_bit]
  cases hL : L.testBit i
  · simp
  · rw [h i hL]; rfl
theorem ib_bearsLoad_lp {μ : ivM} (h : ib_cr lf be z μ) {p L : Nat} (hL : L < 256) (k : Int → ivM → Option (Int × ivM)) : ∀ (d t n : Nat), t + d = 8 → d < n →
    lp_X0_bearsLoad_30 p L k n (ib_sum (fun t => if L.testBit t then z t else 0) t : Nat) t μ = k (ib_wt z L : Nat) μ := by
  intro d
  induction d with
  | zero =>
    intro t n ht hn
    obtain ⟨n, rfl⟩ : ∃ q, n = q + 1 := ⟨n - 1, by omega⟩
    unfold lp_X0_bearsLoad_30
    rw [if_pos (by omega), show t = 8 by omega]; rfl
  | succ d ih =>
    intro t n ht hn
    obtain ⟨n, rfl⟩ : ∃ q, n = q + 1 := ⟨n - 1, by omega⟩
    have hz := h.2.2 t (by omega)
    have hb := ib_sumS_le (f := fun t => if L.testBit t then z t else 0) (b := 5) t (fun i hi => by have := (h.2.2 i (by omega)).2; split <;> omega)
    have hnext := ih (t + 1) n (by omega) (by omega)
    rw [show ib_sum (fun t => if L.testBit t then z t else 0) (t + 1) = ib_sum (fun t => if L.testBit t then z t else 0) t + (if L.testBit t then z t else 0) from rfl] at hnext
    unfold lp_X0_bearsLoad_30
    simp only [iv_let]
    rw [if_neg (by omega), ib_has (by omega) (by omega), iv_bnd_some, ib_iz, iv_ck_pos (by omega), Int.toNat_natCast, hz.1, iv_wr_succ (by omega), ← hnext]
    cases L.testBit t
    · rfl
    · rw [if_pos rfl, if_pos rfl, iv_wr_id (by omega) (by omega)]
      congr 1
theorem ib_bearsLoad {μ : ivM} (h : ib_cr lf be z μ) {p L : Nat} (hp : p < 6) (hL : L < 256) : (ib_bor lf be z p L ∧ f_X0_bearsLoad p L μ = some (1, μ)) ∨ (¬ ib_bor lf be z p L ∧ f_X0_bearsLoad p L μ = some (0, μ)) := by
  obtain ⟨e1, e2, e3, e4⟩ := h.1 p hp
  unfold f_X0_bearsLoad
  simp only [iv_let]
  rw [if_neg (by omega), if_neg (by omega), iv_ck_pos (by omega), Int.toNat_natCast, e1, iv_andn (by omega) (by omega)]
  by_cases c : iv_nd L (lf p) = 0
  · have hl : ∀ k, lp_X0_bearsLoad_30 p L k iv_fuel 0 0 μ = k (ib_wt z L : Nat) μ := fun k => ib_bearsLoad_lp h (p := p) hL k 8 0 iv_fuel (by omega) (by decide)
    rw [if_pos (by omega), hl, iv_ck_pos (by omega), e3]
    by_cases c2 : (ib_wt z L : Int) ≤ be p
    · rw [if_neg (by omega)]
      exact Or.inl ⟨⟨ib_sb_nd.mp c, c2⟩, rfl⟩
    · rw [if_pos (by omega)]
      exact Or.inr ⟨fun q => c2 q.2, rfl⟩
  · rw [if_neg (by omega)]
    exact Or.inr ⟨fun q => c (ib_sb_nd.mpr q.1), rfl⟩
theorem ib_leastLoadX_lp {μ : ivM} (h : ib_cr lf be z μ) {p R : Nat} (hp : p < 6) (hR : R < 256) (hcell : ∀ Q, ib_sb Q R → ib_cell lf be z Q (μ 103 Q) (μ 104 Q)) (k : ivM → Option (Int × ivM)) : ∀ (d L n : Nat), L + d = R + 1 → d < n → (∀ q, q < L → ¬ ib_qq lf be z p R q) →
    (∃ r, ib_ll lf be z p R r ∧ lp_X0_leastLoad_7 p R ((5 - p : Nat) : Int) k n L μ = some (((r : Nat) : Int), μ)) ∨ ((∀ r, ¬ ib_qq lf be z p R r) ∧ lp_X0_leastLoad_7 p R ((5 - p : Nat) : Int) k n L μ = k μ) := by
  intro d
  induction d with
  | zero =>
    intro L n hL hn hno
    obtain ⟨n, rfl⟩ : ∃ q, n = q + 1 := ⟨n - 1, by omega⟩
    right
    refine ⟨fun r c => hno r (by have := ib_sb_le c.1; omega) c, ?_⟩
    unfold lp_X0_leastLoad_7
    rw [if_pos (by omega)]
  | succ d ih =>
    intro L n hL hn hno
    obtain ⟨n, rfl⟩ : ∃ q, n = q + 1 := ⟨n - 1, by omega⟩
    have next : ¬ ib_qq lf be z p R L → (∃ r, ib_ll lf be z p R r ∧ lp_X0_leastLoad_7 p R ((5 - p : Nat) : Int) k n ((L + 1 : Nat) : Int) μ = some (((r : Nat) : Int), μ)) ∨ ((∀ r, ¬ ib_qq lf be z p R r) ∧ lp_X0_leastLoad_7 p R ((5 - p : Nat) : Int) k n ((L + 1 : Nat) : Int) μ = k μ) := fun hc =>
      ih (L + 1) n (by omega) (by omega) (fun q hq => by
        by_cases e : q = L
        · subst e; exact hc
        · exact hno q (by omega))
    unfold lp_X0_leastLoad_7
    simp only [iv_let]
    rw [if_neg (by omega), ib_isSet hR, iv_bnd_some, if_neg (by decide), iv_andn (by omega) (by omega), iv_wr_succ (by omega)]
    by_cases c : iv_nd L R = 0
    · have hsb := ib_sb_nd.mp c
      have hca := ib_cell_ca (m := 5 - p) h.2.1 (hcell (iv_nd R L) ib_sb_ndl)
      have hlt := ib_nd_256 (b := L) hR
      rw [if_pos (by omega), iv_xor_nat (by omega) (by omega), ib_xor_sb hsb, iv_ck_pos (by omega), iv_ck_pos (by omega), Int.toNat_natCast]
      by_cases c1 : μ 103 (iv_nd R L) = -9
      · rw [if_pos c1]
        exact next (fun q => (hca.mpr q.2.1).1 c1)
      · rw [if_neg c1]
        by_cases c2 : ((5 - p : Nat) : Int) < μ 103 (iv_nd R L)
        · rw [if_pos c2]
          exact next (fun q => by have := (hca.mpr q.2.1).2; omega)
        · rw [if_neg c2]
          have hc := hca.mp ⟨c1, by omega⟩
          rcases ib_bearsLoad h (p := p) (L := L) hp (by omega) with ⟨b1, b2⟩ | ⟨b1, b2⟩
          · rw [b2, iv_bnd_some, if_neg (by decide)]
            exact Or.inl ⟨L, ⟨⟨hsb, hc, b1⟩, hno⟩, rfl⟩
          · rw [b2, iv_bnd_some, if_pos rfl]
            exact next (fun q => b1 q.2.2)
    · rw [if_neg (by omega)]
      exact next (fun q => c (ib_sb_nd.mpr q.1))
theorem ib_leastLoadX {μ : ivM} (h : ib_cr lf be z μ) {p R : Nat} (hp : p < 6) (hR : R < 256) (hcell : ∀ Q, ib_sb Q R → ib_cell lf be z Q (μ 103 Q) (μ 104 Q)) (hca : ib_ca lf be z (6 - p) R) : ∃ r, ib_ll lf be z p R r ∧ f_X0_leastLoad p R μ = some (((r : Nat) : Int), μ) := by
  unfold f_X0_leastLoad
  rw [show iv_wr (5 - (p : Int)) = ((5 - p : Nat) : Int) by rw [iv_wr_id (by omega) (by omega)]; omega]
  rcases ib_leastLoadX_lp h hp hR hcell (fun (μ21 : ivM) => some (0, μ21)) (R + 1) 0 iv_fuel (by omega) (by unfold iv_fuel; omega) (fun q hq => by omega) with ⟨r, h1, h2⟩ | ⟨h1, _⟩
  · exact ⟨r, h1, h2⟩
  · exfalso
    rw [show 6 - p = (5 - p) + 1 by omega] at hca
    obtain ⟨L, a, b, c⟩ := hca
    refine h1 L ⟨a, c, ?_⟩
    have : ib_pe (5 - p + 1) = p := by unfold ib_pe; omega
    rw [this] at b
    exact b
theorem ib_ll_uniq {p R a b : Nat} (ha : ib_ll lf be z p R a) (hb : ib_ll lf be z p R b) : a = b := by
  rcases Nat.lt_trichotomy a b with c | c | c
  · exact absurd ha.1 (hb.2 a c)
  · exact c
  · exact absurd hb.1 (ha.2 b c)
def ib_way (lf : Nat → Nat) (be : Nat → Int) (z : Nat → Nat) : Nat → Nat → Nat → Nat → Nat → Prop
  | 0, _, _, ld, r => r = ld
  | d + 1, p, R, _, r => ∃ L, ib_ll lf be z p R L ∧ ib_way lf be z d (p + 1) (iv_nd R L) L r
theorem ib_way_uniq : ∀ {d p R ld a b : Nat}, ib_way lf be z d p R ld a → ib_way lf be z d p R ld b → a = b
  | 0, _, _, _, _, _, h1, h2 => h1.trans h2.symm
  | d + 1, p, R, ld, a, b, ⟨L, h1, h2⟩, ⟨L2, h3, h4⟩ => by
    have := ib_ll_uniq h1 h3
    subst this
    exact ib_way_uniq h2 h4
theorem ib_firstWay_lp {μ : ivM} (h : ib_cr lf be z μ) {q : Nat} (hq : q < 6) : ∀ (d p n R ld : Nat), p + d = q + 1 → d < n → R < 256 → (∀ Q, ib_sb Q R → ib_cell lf be z Q (μ 103 Q) (μ 104 Q)) → ib_ca lf be z (6 - p) R →
    ∃ r, ib_way lf be z d p R ld r ∧ lp_X0_firstWay_8 q (fun (w : Int) (κ : ivM) => some (w, κ)) n R ld p μ = some (((r : Nat) : Int), μ) := by
  intro d
  induction d with
  | zero =>
    intro p n R ld hp hn hR hc hca
    obtain ⟨n, rfl⟩ : ∃ q, n = q + 1 := ⟨n - 1, by omega⟩
    unfold lp_X0_firstWay_8
    rw [if_pos (by omega)]
    exact ⟨ld, rfl, rfl⟩
  | succ d ih =>
    intro p n R ld hp hn hR hc hca
    obtain ⟨n, rfl⟩ : ∃ q, n = q + 1 := ⟨n - 1, by omega⟩
    obtain ⟨L, h1, h2⟩ := ib_leastLoadX h (p := p) (by omega) hR hc hca
    have hL := ib_sb_256 h1.1.1 hR
    unfold lp_X0_firstWay_8
    rw [if_neg (by omega), if_neg (by omega), h2, iv_bnd_some, iv_andn (by omega) (by omega), iv_wr_succ (by omega)]
    obtain ⟨r, h3, h4⟩ := ih (p + 1) n (iv_nd R L) L (by omega) (by omega) (ib_nd_256 hR) (fun Q hQ => hc Q (hQ.tr ib_sb_ndl)) (by rw [show 6 - (p + 1) = 5 - p by omega]; exact h1.1.2.1)
    exact ⟨r, ⟨L, h1, h3⟩, h4⟩
/-! all that are lifted -/
def ib_un (lf : Nat → Nat) : Nat → Nat
  | 0 => 0
  | n + 1 => ib_un lf n ||| lf n
theorem ib_un_256 (h : ∀ p, lf p < 256) : ∀ n, ib_un lf n < 256
  | 0 => (show 0 < 256 by decide)
  | n + 1 => Nat.or_lt_two_pow (n := 8) (ib_un_256 h n) (h n)
theorem ib_allLifted {μ : ivM} (h : ib_cr lf be z μ) (hl : ∀ p, lf p < 256) : f_X0_allLifted μ = some (((ib_un lf 6 : Nat) : Int), μ) := by
  have key : ∀ (d p n : Nat), p + d = 6 → d < n → lp_X0_allLifted_4 n (ib_un lf p : Nat) p μ = some (((ib_un lf 6 : Nat) : Int), μ) := by
    intro d
    induction d with
    | zero =>
      intro p n hp hn
      obtain ⟨n, rfl⟩ : ∃ q, n = q + 1 := ⟨n - 1, by omega⟩
      unfold lp_X0_allLifted_4
      rw [if_pos (by omega), show p = 6 by omega]
    | succ d ih =>
      intro p n hp hn
      obtain ⟨n, rfl⟩ : ∃ q, n = q + 1 := ⟨n - 1, by omega⟩
      have h1 := ib_un_256 hl p
      have h2 := hl p
      unfold lp_X0_allLifted_4
      rw [if_neg (by omega), iv_ck_pos (by omega), Int.toNat_natCast, (h.1 p (by omega)).1, iv_or_nat (by omega) (by omega), iv_wr_succ (by omega)]
      exact ih (p + 1) n (by omega) (by omega)
  exact key 6 0 iv_fuel (by omega) (by decide)
theorem ib_un_bit {t : Nat} : ∀ n, (ib_un lf n).testBit t = true ↔ ∃ p, p < n ∧ (lf p).testBit t = true
  | 0 => by
    show (0 : Nat).testBit t = true ↔ _
    rw [Nat.zero_testBit]
    exact ⟨fun h => (by cases h), fun ⟨p, h, _⟩ => (by omega)⟩
  | n + 1 => by
    show (ib_un lf n ||| lf n).testBit t = true ↔ _
    rw [Nat.testBit_or, Bool.or_eq_true, ib_un_bit n]
    constructor
    · rintro (⟨p, h1, h2⟩ | h)
      · exact ⟨p, by omega, h2⟩
      · exact ⟨n, by omega, h⟩
    · rintro ⟨p, h1, h2⟩
      by_cases e : p = n
      · subst e; exact Or.inr h2
      · exact Or.inl ⟨p, by omega, h2⟩
/-- what is lifted by someone can be carried, some time -/
theorem ib_ca_all (hb : ∀ p, 0 ≤ be p) (hlz : ∀ p t, p < 6 → (lf p).testBit t = true → (z t : Int) ≤ be p) : ∀ S, S < 256 → ib_sb S (ib_un lf 6) → ∃ l, ib_ca lf be z l S := by
  intro S
  induction S using Nat.strongRecOn with
  | ind S ih =>
    intro hS hsb
    by_cases h0 : S = 0
    · subst h0; exact ⟨0, rfl⟩
    · obtain ⟨t, ht⟩ := ib_some_bit h0
      have ht8 := ib_bit8 hS ht
      have hnd := ib_pc_nd S hS t ht8 ht
      obtain ⟨l, hl⟩ := ih _ hnd.2 (ib_nd_256 hS) (ib_sb_ndl.tr hsb)
      obtain ⟨p, hp, hpt⟩ := (ib_un_bit 6).mp (hsb t ht)
      have e : ib_pe (6 * l + (5 - p) + 1) = p := by unfold ib_pe; omega
      have ew := ib_wt_or (z := z) (S := 0) (t := t) ht8 (Nat.zero_testBit t)
      rw [Nat.zero_or, ib_wt_0, Nat.zero_add] at ew
      refine ⟨6 * l + (5 - p) + 1, 2 ^ t, fun i hi => ?_, ⟨fun i hi => ?_, ?_⟩, ib_ca_le hb (by omega) hl⟩
      · rw [ib_one_bit, decide_eq_true_eq] at hi; subst hi; exact ht
      · rw [ib_one_bit, decide_eq_true_eq] at hi; subst hi; rw [e]; exact hpt
      · rw [ew, e]; exact hlz p t hp hpt
end IBK
