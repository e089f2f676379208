/-! facts out of the checks -/
theorem iv_nbeq {a b : Nat} (h : a ≠ b) : Nat.beq a b = false := by
  cases hb : Nat.beq a b
  · rfl
  · exact absurd (Nat.eq_of_beq_eq_true hb) h
theorem iv_cls_of {ci : Nat} {q : Nat × Nat} (h : iv_cls[ci]? = some q) : iv_cl[ci]? = some (iv_s q.1, iv_Tf ci, q.2) ∧ ci < 10 := by
  have hl : ci < iv_cls.length := (List.getElem?_eq_some_iff.mp h).1
  refine ⟨?_, hl⟩
  unfold iv_cl
  rw [List.getElem?_mapIdx, h]
  rfl
theorem iv_cl_of {ci : Nat} {q : vw_C} (h : iv_cl[ci]? = some q) : ∃ r : Nat × Nat, iv_cls[ci]? = some r ∧ q = (iv_s r.1, iv_Tf ci, r.2) := by
  unfold iv_cl at h
  rw [List.getElem?_mapIdx] at h
  cases hc : iv_cls[ci]? with
  | none => rw [hc] at h; cases h
  | some r => rw [hc] at h; exact ⟨r, rfl, (Option.some.inj h).symm⟩
theorem iv_tyk_of {ty : Option FieldType} {k : Nat} (h : iv_tyk ty k = true) : ∃ t, ty = some t ∧ (k = 0 ∧ t = .int ∨ k = 1 ∧ t = .boolean ∨ k = 2 ∧ ((∃ n, t = .object n) ∨ ∃ c, t = .array c)) := by
  unfold iv_tyk at h
  split at h
  · exact ⟨_, rfl, Or.inl ⟨Nat.eq_of_beq_eq_true h, rfl⟩⟩
  · exact ⟨_, rfl, Or.inr (Or.inl ⟨Nat.eq_of_beq_eq_true h, rfl⟩)⟩
  · exact ⟨_, rfl, Or.inr (Or.inr ⟨Nat.eq_of_beq_eq_true h, Or.inl ⟨_, rfl⟩⟩)⟩
  · exact ⟨_, rfl, Or.inr (Or.inr ⟨Nat.eq_of_beq_eq_true h, Or.inr ⟨_, rfl⟩⟩)⟩
  · cases h
theorem iv_ss_inj : ∀ ci, ci < 10 → ∀ a, a < ((iv_cls.getD ci (0, 0)).2) → ∀ b, b < ((iv_cls.getD ci (0, 0)).2) → a ≠ b → iv_s (iv_Tc ci a).2.1 ≠ iv_s (iv_Tc ci b).2.1 := by decide +kernel
/-- what the tables say of a class -/
theorem iv_cg_of {ci : Nat} {q : Nat × Nat} (h : iv_cls[ci]? = some q) :
    (∀ w ∈ u_ws (iv_s q.1) (iv_Tf ci) q.2, w ∈ iv_TB) ∧ (∀ k, k < q.2 → ∃ t, parseFieldDescriptor (iv_Tf ci k).2.2.1 = some t ∧ (iv_fty ci k = 0 ∧ t = .int ∨ iv_fty ci k = 1 ∧ t = .boolean ∨ iv_fty ci k = 2 ∧ ((∃ n, t = .object n) ∨ ∃ c, t = .array c))) ∧
    (∀ a, a < q.2 → ∀ b, b < q.2 → a ≠ b → (iv_Tf ci a).2.1 ≠ (iv_Tf ci b).2.1) ∧ Jvm.Cond.instantiable (iv_s q.1) q.2 ∈ iv_TB ∧ Jvm.Cond.initialized (iv_s q.1) ∈ iv_TB := by
  have hci := (iv_cls_of h).2
  have hg := iv_cg_all ci hci
  unfold iv_cg at hg
  rw [h] at hg
  simp only [Bool.and_eq_true] at hg
  obtain ⟨h1, h2, h3⟩ := hg
  have h1' : ∀ k, k < q.2 → _ := fun k hk => List.all_eq_true.mp h1 k (List.mem_range.mpr hk)
  refine ⟨fun w hw => ?_, fun k hk => ?_, fun a ha b hb hab => ?_, iv_at_mem h2, iv_at_mem h3⟩
  · unfold u_ws at hw
    obtain ⟨k, hk, rfl⟩ := List.mem_map.mp hw
    have h4 := h1' k (List.mem_range.mp hk)
    rw [Bool.and_eq_true] at h4
    have h5 := iv_at_mem h4.1
    unfold u_lay
    by_cases hf : (iv_Tc ci k).2.2.2 = true
    · rw [hf] at h5
      rw [if_pos (show (iv_Tf ci k).2.2.2 = true from hf)]
      exact h5
    · rw [Bool.not_eq_true] at hf
      rw [hf] at h5
      rw [if_neg (show ¬ (iv_Tf ci k).2.2.2 = true from by rw [show (iv_Tf ci k).2.2.2 = false from hf]; decide)]
      exact h5
  · have h4 := h1' k hk
    rw [Bool.and_eq_true] at h4
    exact iv_tyk_of h4.2
  · have e : iv_cls.getD ci (0, 0) = q := by rw [List.getD_eq_getElem?_getD, h]; rfl
    exact iv_ss_inj ci hci a (by rw [e]; exact ha) b (by rw [e]; exact hb) hab
theorem iv_lay_ok (L x : Nat) (hx : x ≠ 1) : iv_lg1 (iv_lay L x) = true := by
  unfold iv_lay
  rw [show Nat.beq x 1 = false from iv_nbeq hx, cond_false, List.getD_eq_getElem?_getD, List.getD_eq_getElem?_getD]
  cases h1 : iv_Y[x / 16]? with
  | none => rfl
  | some r =>
    rw [Option.getD_some]
    cases h2 : r[x % 16]? with
    | none => rfl
    | some q => exact List.all_eq_true.mp (List.all_eq_true.mp iv_lgr r (List.mem_of_getElem? h1)) q (List.mem_of_getElem? h2)
theorem iv_lay_obj {L x : Nat} (h : (iv_lay L x).1 = 0) : x ≠ 1 ∧ ∃ q, iv_cls[(iv_lay L x).2.1]? = some q ∧ q.2 = (iv_lay L x).2.2 := by
  have hx : x ≠ 1 := fun e => by rw [e] at h; cases h
  refine ⟨hx, ?_⟩
  have h1 := iv_lay_ok L x hx
  unfold iv_lg1 at h1
  rw [h, show Nat.beq 0 0 = true from rfl, cond_true, decide_eq_true_eq] at h1
  cases hc : iv_cls[(iv_lay L x).2.1]? with
  | none => rw [hc] at h1; cases h1
  | some q => rw [hc] at h1; exact ⟨q, rfl, Option.some.inj h1⟩
theorem iv_lay_arr {L x : Nat} (hx : x ≠ 1) (h : (iv_lay L x).1 = 1) : (iv_lay L x).2.1 ≤ 4 ∧ (iv_lay L x).2.2 ≤ 1792 := by
  have h1 := iv_lay_ok L x hx
  unfold iv_lg1 at h1
  rw [h, show Nat.beq 1 0 = false from rfl, cond_false, show Nat.beq 1 1 = true from rfl, cond_true, Bool.and_eq_true] at h1
  exact ⟨Nat.le_of_ble_eq_true h1.1, Nat.le_of_ble_eq_true h1.2⟩
theorem iv_lay0 (L : Nat) : iv_lay L 0 = (9, 0, 0) := rfl
/-- methods -/
theorem iv_mg_of {z : Nat} (hz : z < 171) : plainFor (iv_nm z) = true ∧ ((iv_nm z).cls ≠ "java/lang/invoke/MethodHandle" ∧ (iv_nm z).cls ≠ "java/lang/invoke/VarHandle") ∧ Jvm.Cond.code (iv_nm z) (iv_cd z) (iv_ml z) (iv_rt z) ∈ iv_TB ∧ Jvm.Cond.initialized (iv_nm z).cls ∈ iv_TB ∧
    (parseMethodDescriptor (iv_nm z).desc).map (fun d => d.parameters.length) = some (iv_np z) ∧ ((iv_mw z).1 = 0 → Jvm.Cond.static (iv_nm z) ∈ iv_TB) ∧
    ((iv_mw z).1 = 1 → Jvm.Cond.instanceMethod (iv_nm z) ∈ iv_TB ∧ Jvm.Cond.selects (iv_nm z).cls (iv_nm z) (iv_nm z) ∈ iv_TB ∧ ∃ q, iv_cls[iv_own z]? = some q ∧ iv_s q.1 = (iv_nm z).cls) ∧
    ((iv_mw z).1 = 2 → Jvm.Cond.instanceMethod (iv_nm z) ∈ iv_TB ∧ (iv_nm z).name = "<init>" ∧ iv_rt z = none) := by
  have hg := iv_mg_all z hz
  unfold iv_mg at hg
  simp only [Bool.and_eq_true] at hg
  obtain ⟨h1, h2, h3, h4, h5⟩ := hg
  have hc1 : (iv_nc z).1 ∈ iv_plain := by simpa using h1
  have hc2 : ((iv_nc z).2.2, iv_np z) ∈ iv_descs := by simpa using h2
  have hp := List.all_eq_true.mp iv_plainr _ hc1
  simp only [Bool.and_eq_true, Bool.or_eq_true, decide_eq_true_eq] at hp
  have hd := List.all_eq_true.mp iv_descr _ hc2
  rw [decide_eq_true_eq] at hd
  refine ⟨?_, hp.2, ?_, iv_at_mem h4, hd, fun h0 => ?_, fun h0 => ?_, fun h0 => ?_⟩
  · rcases hp.1 with h | h
    · exact plainFor_of_name h
    · have hm := List.all_eq_true.mp iv_math z (List.mem_range.mpr hz)
      simp only [Bool.or_eq_true, decide_eq_true_eq] at hm
      rcases hm with h' | h' | h'
      · exact absurd h h'
      · rw [h']; exact iv_pf_169
      · rw [h']; exact iv_pf_170
  · have := iv_at_mem h3
    unfold iv_wd at this
    have hb : Nat.beq z 1000 = false := iv_nbeq (by omega)
    simp only [hb, cond_false] at this
    exact this
  · rw [h0] at h5
    exact iv_at_mem h5
  · rw [h0] at h5
    simp only [Bool.and_eq_true, decide_eq_true_eq] at h5
    obtain ⟨g1, g2, g3⟩ := h5
    refine ⟨?_, iv_at_mem g2, ?_⟩
    · have := iv_at_mem g1
      unfold iv_wd at this
      have hb : Nat.beq z 1000 = false := iv_nbeq (by omega)
      simp only [hb, cond_false] at this
      exact this
    · cases hq : iv_cls[iv_own z]? with
      | none => rw [hq] at g3; cases g3
      | some q => rw [hq] at g3; exact ⟨q, rfl, by rw [show q.1 = (iv_nc z).1 from Option.some.inj g3]; rfl⟩
  · rw [h0] at h5
    simp only [Bool.and_eq_true, decide_eq_true_eq] at h5
    obtain ⟨g1, g2, g3⟩ := h5
    refine ⟨?_, ?_, g3⟩
    · have := iv_at_mem g1
      unfold iv_wd at this
      have hb : Nat.beq z 1000 = false := iv_nbeq (by omega)
      simp only [hb, cond_false] at this
      exact this
    · show iv_s (iv_nc z).2.1 = _
      rw [g2]
      rfl
theorem iv_TB_good {w : Jvm.Cond} (h : w ∈ iv_TB) : (w.onTables && w.keeps) = true ∨ ∃ ty, w = .arrayClass ty := good_of_word (List.mem_filter.mp h).2
theorem iv_TB_ws (mi : Nat) : ∀ w ∈ iv_TB, w ∈ iv_ws mi := fun _ h => List.mem_cons_of_mem _ h
theorem iv_good_ws {mi : Nat} {ws : List Jvm.Cond} (h : ∀ w ∈ ws, w ∈ iv_TB) : GoodIn (iv_ws mi) ws := fun w hw => ⟨iv_TB_ws mi w (h w hw), iv_TB_good (h w hw)⟩
