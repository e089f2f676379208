/-! RUNS, over the machine -/
theorem iv_wide_eq (b B0 : Nat) (st : List ivV) : ((st.map (iv_cv b B0)).map fun v => v.category).sum = iv_wide st := by
  induction st with
  | nil => rfl
  | cons v st ih => simp only [List.map_cons, List.sum_cons, ih, iv_wide, iv_cat]
theorem iv_step_mono {L pc : Nat} {ee : ivE} {ls st : List ivV} {w : ivS} {g : Nat × List ivV × List ivV × ivS} (h : iv_step L pc ee ls st w = some g) : w.1 ≤ g.2.2.2.1 := by
  obtain ⟨ep, ei, el, ea, eb, ec, ew⟩ := ee
  cases ei <;> simp only [iv_step] at h <;> first
    | (cases h; done)
    | (simp only [Option.some.injEq] at h; subst h; exact Nat.le_refl _)
    | (obtain ⟨-, rfl⟩ := iv_bif h; first | exact Nat.le_refl _ | exact Nat.le_add_right _ _)
    | (split at h <;> first | (cases h; done) | (simp only [Option.some.injEq] at h; subst h; exact Nat.le_refl _) | (obtain ⟨-, rfl⟩ := iv_bif h; first | exact Nat.le_refl _ | exact Nat.le_add_right _ _) | (obtain ⟨-, rfl⟩ := iv_bifn h; exact Nat.le_refl _))
theorem iv_bifc {α : Type} {bb : Bool} {x : Option α} {g : α} (h : (bif bb then x else none) = some g) : bb = true ∧ x = some g := by
  cases bb
  · cases h
  · exact ⟨rfl, h⟩
/-- the words and values of a call, out of its check -/
def iv_arg (L : Nat) (e : ivE) (st : List ivV) : Prop := e.2.2.2.2.1 ≤ st.length ∧ iv_wide (st.drop e.2.2.2.2.1) ≤ 8 ∧ iv_wide (st.take e.2.2.2.2.1) ≤ iv_ml e.2.2.2.1
/-- what a run that has an end does first -/
theorem iv_run_cases {L f mi pc : Nat} {ls st : List ivV} {w : ivS} {r : Option ivV × ivS} (h : iv_run L (f + 1) mi pc ls st w = some r) : ∃ e, iv_ins mi pc = some e ∧
    ((∃ g, iv_step L pc e ls st w = some g ∧ iv_run L f mi g.1 g.2.1 g.2.2.1 g.2.2.2 = some r) ∨
     (e.2.1 = .ireturn ∧ ∃ x, st = [ivI x] ∧ (iv_zb mi = true → x = 0 ∨ x = 1) ∧ r = (some (ivI x), w)) ∨
     (e.2.1 = .areturn ∧ ∃ x, st = [ivR x] ∧ r = (some (ivR x), w)) ∨
     (e.2.1 = .return_ ∧ st = [] ∧ r = (none, w)) ∨
     ((∃ idx, e.2.1 = .invokevirtual idx) ∧ iv_arg L e st ∧ iv_obj L w.1 (iv_own e.2.2.2.1) (st.take e.2.2.2.2.1).reverse = true ∧ ∃ r1, iv_run L f e.2.2.2.1 0 (iv_ent (iv_ml e.2.2.2.1) (st.take e.2.2.2.2.1).reverse) [] w = some r1 ∧ iv_run L f mi (pc + 3) ls (r1.1.toList ++ st.drop e.2.2.2.2.1) r1.2 = some r) ∨
     ((∃ idx, e.2.1 = .invokestatic idx) ∧ iv_arg L e st ∧ ∃ r1, iv_run L f e.2.2.2.1 0 (iv_ent (iv_ml e.2.2.2.1) (st.take e.2.2.2.2.1).reverse) [] w = some r1 ∧ iv_run L f mi (pc + 3) ls (r1.1.toList ++ st.drop e.2.2.2.2.1) r1.2 = some r) ∨
     ((∃ idx, e.2.1 = .invokespecial idx) ∧ Nat.ble 1000 e.2.2.2.1 = false ∧ iv_arg L e st ∧ iv_obj L w.1 (iv_own e.2.2.2.1) (st.take e.2.2.2.2.1).reverse = true ∧ ∃ r1, iv_run L f e.2.2.2.1 0 (iv_ent (iv_ml e.2.2.2.1) (st.take e.2.2.2.2.1).reverse) [] w = some r1 ∧ iv_run L f mi (pc + 3) ls (r1.1.toList ++ st.drop e.2.2.2.2.1) r1.2 = some r) ∨
     ((∃ idx, e.2.1 = .invokespecial idx) ∧ Nat.ble 1000 e.2.2.2.1 = true ∧ ∃ x st', st = ivR x :: st' ∧ 2 ≤ x ∧ iv_wide st' ≤ 8 ∧ iv_run L f mi (pc + 3) ls st' w = some r)) := by
  unfold iv_run at h
  split at h
  · cases h
  · rename_i e he
    refine ⟨e, he, ?_⟩
    split at h
    · rename_i g hg
      exact Or.inl ⟨g, hg, h⟩
    · right
      split at h
      · rename_i hi
        split at h
        · rename_i x _
          left
          refine ⟨hi, x, rfl, ?_⟩
          cases hz : iv_zb mi
          · rw [hz] at h
            exact ⟨fun q => (by cases q), (Option.some.inj h).symm⟩
          · rw [hz] at h
            obtain ⟨h1, h2⟩ := iv_bif h
            simp only [Bool.or_eq_true, decide_eq_true_eq] at h1
            exact ⟨fun _ => h1, h2.symm⟩
        · cases h
      · rename_i hi
        split at h
        · rename_i x _
          exact Or.inr (Or.inl ⟨hi, x, rfl, (Option.some.inj h).symm⟩)
        · cases h
      · rename_i hi
        split at h
        · exact Or.inr (Or.inr (Or.inl ⟨hi, rfl, (Option.some.inj h).symm⟩))
        · cases h
      · rename_i idx hi
        obtain ⟨h1, h2⟩ := iv_bifc h
        simp only [Bool.and_eq_true] at h1
        split at h2
        · rename_i r1 hr1
          exact Or.inr (Or.inr (Or.inr (Or.inl ⟨⟨idx, hi⟩, ⟨Nat.le_of_ble_eq_true h1.1.1.1, Nat.le_of_ble_eq_true h1.1.1.2, Nat.le_of_ble_eq_true h1.1.2⟩, h1.2, r1, hr1, h2⟩)))
        · cases h2
      · rename_i idx hi
        obtain ⟨h1, h2⟩ := iv_bifc h
        simp only [Bool.and_eq_true] at h1
        split at h2
        · rename_i r1 hr1
          exact Or.inr (Or.inr (Or.inr (Or.inr (Or.inl ⟨⟨idx, hi⟩, ⟨Nat.le_of_ble_eq_true h1.1.1, Nat.le_of_ble_eq_true h1.1.2, Nat.le_of_ble_eq_true h1.2⟩, r1, hr1, h2⟩))))
        · cases h2
      · rename_i idx hi
        cases hk : Nat.ble 1000 e.2.2.2.1
        · rw [hk, cond_false] at h
          obtain ⟨h1, h2⟩ := iv_bifc h
          simp only [Bool.and_eq_true] at h1
          split at h2
          · rename_i r1 hr1
            exact Or.inr (Or.inr (Or.inr (Or.inr (Or.inr (Or.inl ⟨⟨idx, hi⟩, rfl, ⟨Nat.le_of_ble_eq_true h1.1.1.1, Nat.le_of_ble_eq_true h1.1.1.2, Nat.le_of_ble_eq_true h1.1.2⟩, h1.2, r1, hr1, h2⟩)))))
          · cases h2
        · rw [hk, cond_true] at h
          split at h
          · rename_i x st' _
            obtain ⟨h1, h2⟩ := iv_bifc h
            rw [Bool.and_eq_true] at h1
            exact Or.inr (Or.inr (Or.inr (Or.inr (Or.inr (Or.inr ⟨⟨idx, hi⟩, rfl, x, st', rfl, Nat.le_of_ble_eq_true h1.1, Nat.le_of_ble_eq_true h1.2, h2⟩)))))
          · cases h
      · cases h
theorem iv_run_mono {L : Nat} : ∀ {f mi pc : Nat} {ls st : List ivV} {w : ivS} {r : Option ivV × ivS}, iv_run L f mi pc ls st w = some r → w.1 ≤ r.2.1
  | 0, _, _, _, _, _, _, h => by cases h
  | f + 1, mi, pc, ls, st, w, r, h => by
    obtain ⟨e, he, h | h | h | h | h | h | h | h⟩ := iv_run_cases h
    · obtain ⟨g, h1, h2⟩ := h
      exact Nat.le_trans (iv_step_mono h1) (iv_run_mono h2)
    · obtain ⟨-, x, -, -, rfl⟩ := h; exact Nat.le_refl _
    · obtain ⟨-, x, -, rfl⟩ := h; exact Nat.le_refl _
    · obtain ⟨-, -, rfl⟩ := h; exact Nat.le_refl _
    · obtain ⟨-, -, -, r1, h1, h2⟩ := h
      exact Nat.le_trans (iv_run_mono h1) (iv_run_mono h2)
    · obtain ⟨-, -, r1, h1, h2⟩ := h
      exact Nat.le_trans (iv_run_mono h1) (iv_run_mono h2)
    · obtain ⟨-, -, -, -, r1, h1, h2⟩ := h
      exact Nat.le_trans (iv_run_mono h1) (iv_run_mono h2)
    · obtain ⟨-, -, x, st', -, -, -, h2⟩ := h
      exact iv_run_mono h2
/-- the locals with which a method begins -/
def iv_flat (as : List ivV) : List ivV := as.flatMap (fun v => bif iv_lg v then [v, ivU] else [v])
theorem iv_flat_cons (v : ivV) (as : List ivV) : iv_flat (v :: as) = (bif iv_lg v then [v, ivU] else [v]) ++ iv_flat as := rfl
theorem iv_flat_len (as : List ivV) : (iv_flat as).length = iv_wide as := by
  induction as with
  | nil => rfl
  | cons v as ih =>
    rw [iv_flat_cons, List.length_append, ih]
    show _ = (bif iv_lg v then 2 else 1) + iv_wide as
    cases iv_lg v <;> rfl
theorem iv_wide_rev (as : List ivV) : iv_wide as.reverse = iv_wide as := by
  have h : ∀ (a c : List ivV), iv_wide (a ++ c) = iv_wide a + iv_wide c := by
    intro a c
    induction a with
    | nil => simp [iv_wide]
    | cons v a ih => simp only [List.cons_append, iv_wide, ih]; omega
  induction as with
  | nil => rfl
  | cons v as ih => rw [List.reverse_cons, h, ih]; simp only [iv_wide]; omega
theorem iv_sl_len (b B0 : Nat) (as : List ivV) : (lg_sl (as.map (iv_cv b B0))).length = iv_wide as := by
  induction as with
  | nil => rfl
  | cons v as ih =>
    have e : lg_sl ((v :: as).map (iv_cv b B0)) = (if (iv_cv b B0 v).category = 2 then [Slot.val (iv_cv b B0 v), .second] else [.val (iv_cv b B0 v)]) ++ lg_sl (as.map (iv_cv b B0)) := rfl
    rw [e, List.length_append, ih, iv_cat]
    show _ = (bif iv_lg v then 2 else 1) + iv_wide as
    cases iv_lg v <;> rfl
theorem iv_flat_args (b B0 : Nat) : ∀ (as : List ivV) (k i : Nat) (v : ivV), (iv_flat as)[i]? = some v → v ≠ ivU → (k + i, iv_cv b B0 v) ∈ lv_args k (as.map (iv_cv b B0))
  | [], k, i, v, h, _ => by simp [iv_flat] at h
  | a :: as, k, i, v, h, hv => by
    rw [iv_flat_cons] at h
    show (k + i, iv_cv b B0 v) ∈ (k, iv_cv b B0 a) :: lv_args (if (iv_cv b B0 a).category = 2 then k + 2 else k + 1) (as.map (iv_cv b B0))
    rw [iv_cat]
    cases hl : iv_lg a
    · rw [hl] at h
      cases i with
      | zero =>
        cases h
        exact List.mem_cons_self
      | succ i =>
        have h2 : (iv_flat as)[i]? = some v := h
        have h3 := iv_flat_args b B0 as (k + 1) i v h2 hv
        rw [show k + (i + 1) = k + 1 + i by omega]
        exact List.mem_cons_of_mem _ h3
    · rw [hl] at h
      rcases i with _ | _ | i
      · cases h
        exact List.mem_cons_self
      · cases h
        exact absurd rfl hv
      · have h2 : (iv_flat as)[i]? = some v := h
        have h3 := iv_flat_args b B0 as (k + 2) i v h2 hv
        rw [show k + (i + 1 + 1) = k + 2 + i by omega]
        exact List.mem_cons_of_mem _ h3
theorem iv_ent_lr {b B0 n : Nat} {as : List ivV} (h : iv_wide as ≤ n) : iv_lr b B0 ((lg_sl (as.map (iv_cv b B0)) ++ List.replicate (n - (lg_sl (as.map (iv_cv b B0))).length) Slot.unset).toArray) n (iv_ent n as) := by
  have hl := lv_entry (as.map (iv_cv b B0)) (n := n) (by rw [iv_sl_len]; exact h)
  have hlen : (iv_ent n as).length = n := by
    show (iv_flat as ++ List.replicate (n - (iv_flat as).length) ivU).length = n
    rw [List.length_append, List.length_replicate, iv_flat_len]
    omega
  refine ⟨hlen, hl.1, hl.2.1, fun i v hi hv => ?_⟩
  have hi2 : (iv_flat as ++ List.replicate (n - (iv_flat as).length) ivU)[i]? = some v := hi
  by_cases hlt : i < (iv_flat as).length
  · rw [List.getElem?_append_left hlt] at hi2
    have := iv_flat_args b B0 as 0 i v hi2 hv
    rw [Nat.zero_add] at this
    exact hl.2.2 _ this
  · rw [List.getElem?_append_right (by omega)] at hi2
    exact absurd (List.eq_of_mem_replicate (List.mem_of_getElem? hi2)) hv
theorem iv_ent_ok {n k : Nat} {as : List ivV} (h : ∀ v ∈ as, iv_ok k v) : ∀ v ∈ iv_ent n as, iv_ok k v := by
  intro v hv
  have hv2 : v ∈ iv_flat as ++ List.replicate (n - (iv_flat as).length) ivU := hv
  rcases List.mem_append.mp hv2 with h1 | h1
  · obtain ⟨a, ha, h2⟩ := List.mem_flatMap.mp h1
    cases hl : iv_lg a
    · rw [hl] at h2
      rw [List.mem_singleton.mp h2]
      exact h a ha
    · rw [hl] at h2
      rcases List.mem_cons.mp h2 with e | h2
      · rw [e]; exact h a ha
      · rw [List.mem_singleton.mp h2]; trivial
  · rw [List.eq_of_mem_replicate h1]
    trivial
