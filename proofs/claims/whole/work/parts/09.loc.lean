/-! ONE STEP, over the machine: locals -/
theorem iv_getD {ls : List ivV} {k : Nat} {v : ivV} (h : ls.getD k ivU = v) (hv : v ≠ ivU) : ls[k]? = some v := by
  rw [List.getD_eq_getElem?_getD] at h
  cases hc : ls[k]? with
  | none => rw [hc] at h; exact absurd h.symm hv
  | some u => rw [hc] at h; exact congrArg some h
def iv_ll (b B0 : Nat) (ls : List ivV) : List (Nat × Value) := (List.range ls.length).filterMap (fun i => match ls[i]? with
  | some v => if v = ivU then none else some (i, iv_cv b B0 v)
  | none => none)
theorem iv_ll_mem {b B0 : Nat} {ls : List ivV} {i : Nat} {v : ivV} (h : ls[i]? = some v) (hv : v ≠ ivU) : (i, iv_cv b B0 v) ∈ iv_ll b B0 ls := by
  refine List.mem_filterMap.mpr ⟨i, List.mem_range.mpr (List.getElem?_eq_some_iff.mp h).1, ?_⟩
  rw [h]
  exact if_neg hv
theorem iv_ll_of {b B0 : Nat} {ls : List ivV} {q : Nat × Value} (h : q ∈ iv_ll b B0 ls) : ∃ v, ls[q.1]? = some v ∧ v ≠ ivU ∧ q.2 = iv_cv b B0 v := by
  obtain ⟨i, -, h1⟩ := List.mem_filterMap.mp h
  split at h1
  · rename_i v hv
    split at h1
    · cases h1
    · rename_i hne
      cases h1
      exact ⟨v, hv, hne, rfl⟩
  · cases h1
theorem iv_lr.has {b B0 : Nat} {la : Array Slot} {nL : Nat} {ls : List ivV} (h : iv_lr b B0 la nL ls) : lv_has la nL (iv_ll b B0 ls) := by
  refine ⟨h.2.1, h.2.2.1, fun q hq => ?_⟩
  obtain ⟨v, h1, h2, h3⟩ := iv_ll_of hq
  rw [h3]
  exact h.2.2.2 q.1 v h1 h2
theorem iv_unl_len (ls : List ivV) (k : Nat) : (iv_unl ls k).length = ls.length := by
  unfold iv_unl
  split
  · rfl
  · rw [List.length_set]
theorem iv_un_or (v : ivV) : iv_lg v = true ∧ iv_un v = ivU ∨ iv_lg v = false ∧ iv_un v = v := by
  rcases v with x | x | x | x <;> simp [iv_un, iv_lg]
/-- what stands in the locals behind a store's first part -/
theorem iv_unl_at {ls : List ivV} {k i : Nat} {u : ivV} (h : (iv_unl ls k)[i]? = some u) (hu : u ≠ ivU) : ls[i]? = some u ∧ ¬ (i + 1 = k ∧ iv_lg u = true) := by
  unfold iv_unl at h
  split at h
  · exact ⟨h, fun q => by omega⟩
  · rename_i j
    by_cases e : i = j
    · subst e
      by_cases hl : i < ls.length
      · rw [List.getElem?_set_self hl] at h
        rw [List.getD_eq_getElem?_getD, List.getElem?_eq_getElem hl, Option.getD_some] at h
        rw [List.getElem?_eq_getElem hl]
        rcases iv_un_or ls[i] with ⟨h1, h2⟩ | ⟨h1, h2⟩
        · rw [h2] at h
          exact absurd (Option.some.inj h).symm hu
        · rw [h2] at h
          refine ⟨h, fun q => ?_⟩
          rw [← Option.some.inj h, h1] at q
          cases q.2
      · rw [List.getElem?_eq_none (by rw [List.length_set]; omega)] at h
        cases h
    · rw [List.getElem?_set_ne (fun q => e q.symm)] at h
      exact ⟨h, fun q => e (by omega)⟩
theorem iv_lr.set {b B0 : Nat} {la la' : Array Slot} {nL k : Nat} {ls : List ivV} {v : ivV} (h : iv_lr b B0 la nL ls) (hk : k < ls.length)
    (h' : lv_has la' nL ((k, iv_cv b B0 v) :: (iv_ll b B0 ls).filter (fun q => !(q.1 == k) && !(q.1 + 1 == k && q.2.category == 2)))) : iv_lr b B0 la' nL ((iv_unl ls k).set k v) := by
  refine ⟨by rw [List.length_set, iv_unl_len]; exact h.1, h'.1, h'.2.1, fun i u hi hu => ?_⟩
  by_cases e : i = k
  · subst e
    rw [List.getElem?_set_self (by rw [iv_unl_len]; exact hk)] at hi
    cases hi
    exact h'.2.2 (i, iv_cv b B0 v) List.mem_cons_self
  · rw [List.getElem?_set_ne (fun q => e q.symm)] at hi
    obtain ⟨hi1, hi2⟩ := iv_unl_at hi hu
    refine h'.2.2 (i, iv_cv b B0 u) (List.mem_cons_of_mem _ (List.mem_filter.mpr ⟨iv_ll_mem hi1 hu, ?_⟩))
    simp only [Bool.and_eq_true, Bool.not_eq_true', beq_eq_false_iff_ne, ne_eq, Bool.and_eq_false_iff]
    refine ⟨e, ?_⟩
    by_cases e2 : i + 1 = k
    · right
      show ¬ (iv_cv b B0 u).category = 2
      rw [iv_cat]
      cases hl : iv_lg u
      · decide
      · exact absurd ⟨e2, hl⟩ hi2
    · exact Or.inl e2
def iv_sl (L : Nat) : Nat → Nat
  | 0 => 0
  | n + 1 => iv_sl L n + (iv_lay L (n + 1)).2.2
theorem iv_sl_mono (L : Nat) {a b : Nat} (h : a ≤ b) : iv_sl L a ≤ iv_sl L b := by
  induction b with
  | zero => rw [Nat.le_zero.mp h]; exact Nat.le_refl _
  | succ n ih =>
    by_cases e : a = n + 1
    · rw [e]; exact Nat.le_refl _
    · exact Nat.le_trans (ih (by omega)) (Nat.le_add_right _ _)
/-- the machine and the abstract state -/
def iv_Rel (D : va_G) (dA : Nat → ClassId) (L b B0 n0 nL : Nat) (s : State) (H : Heap) (w : ivS) (la : Array Slot) (ls st : List ivV) (locs : List Loc) (cells slots : Nat) : Prop :=
  iv_HR D dA L b B0 s H w ∧ iv_lr b B0 la nL ls ∧ (∀ v ∈ ls, iv_ok w.1 v) ∧ (∀ v ∈ st, iv_ok w.1 v) ∧ va_S (fun q => B0 ≤ q) s.heap H locs ∧ (cells + n0 = w.1 ∧ slots + iv_sl L n0 = iv_sl L w.1) ∧ B0 ≤ s.heap.size
/-- what a method's walk stands on -/
def iv_cx (p : Program) (R : Room) (s : State) (m : MethodId) (args : Array Value) (meth : Method) (c : Code) (mi : Nat) : Prop :=
  p.tables.exec = Jvm.exec ∧ c.code = iv_cd mi ∧ meth.sig.returnType = iv_rt mi ∧ c.maxLocals = iv_ml mi ∧ s.vm.findClass (iv_nm mi).cls = some m.cls ∧ (∀ w ∈ iv_TB, w.before args s = true) ∧ iv_T s ∧ meth.locks = false ∧ ((iv_nm mi).name = "<init>" → meth.name = "<init>") ∧ (iv_rm mi).1 ≤ R.frames ∧ (iv_rm mi).2 ≤ R.locals
section IVS
variable {D : va_G} {dA : Nat → ClassId} {L b B0 n0 nL : Nat} {s : State} {H : Heap} {w : ivS} {la : Array Slot} {ls st : List ivV} {locs : List Loc} {cells slots : Nat}
theorem iv_Rel.stk {st' : List ivV} (h : iv_Rel D dA L b B0 n0 nL s H w la ls st locs cells slots) (h2 : ∀ v ∈ st', iv_ok w.1 v) : iv_Rel D dA L b B0 n0 nL s H w la ls st' locs cells slots := ⟨h.1, h.2.1, h.2.2.1, h2, h.2.2.2.2⟩
theorem iv_Rel.tl {v : ivV} (h : iv_Rel D dA L b B0 n0 nL s H w la ls (v :: st) locs cells slots) : iv_Rel D dA L b B0 n0 nL s H w la ls st locs cells slots := h.stk fun u hu => h.2.2.2.1 u (List.mem_cons_of_mem _ hu)
theorem iv_Rel.cons {v : ivV} (h : iv_Rel D dA L b B0 n0 nL s H w la ls st locs cells slots) (hv : iv_ok w.1 v) : iv_Rel D dA L b B0 n0 nL s H w la ls (v :: st) locs cells slots := h.stk fun u hu => by
  rcases List.mem_cons.mp hu with rfl | hu
  · exact hv
  · exact h.2.2.2.1 u hu
theorem iv_Rel.hd {v : ivV} (h : iv_Rel D dA L b B0 n0 nL s H w la ls (v :: st) locs cells slots) : iv_ok w.1 v := h.2.2.2.1 v List.mem_cons_self
theorem iv_Rel.hd2 {u v : ivV} (h : iv_Rel D dA L b B0 n0 nL s H w la ls (u :: v :: st) locs cells slots) : iv_ok w.1 v := h.tl.hd
theorem iv_Rel.loc {v : ivV} {k : Nat} (h : iv_Rel D dA L b B0 n0 nL s H w la ls st locs cells slots) (hk : ls[k]? = some v) (hv : v ≠ ivU) : la[k]? = some (.val (iv_cv b B0 v)) ∧ iv_ok w.1 v := ⟨h.2.1.2.2.2 k v hk hv, h.2.2.1 v (List.mem_of_getElem? hk)⟩
theorem iv_unl_ok {n : Nat} {k : Nat} (h : ∀ v ∈ ls, iv_ok n v) : ∀ v ∈ iv_unl ls k, iv_ok n v := by
  intro v hv
  obtain ⟨i, hi⟩ := List.getElem?_of_mem hv
  by_cases e : v = ivU
  · rw [e]; trivial
  · exact h v (List.mem_of_getElem? (iv_unl_at hi e).1)
theorem iv_Rel.setl {la' : Array Slot} {k : Nat} {v : ivV} (h : iv_Rel D dA L b B0 n0 nL s H w la ls st locs cells slots) (hk : k < ls.length) (hv : iv_ok w.1 v)
    (h' : lv_has la' nL ((k, iv_cv b B0 v) :: (iv_ll b B0 ls).filter (fun q => !(q.1 == k) && !(q.1 + 1 == k && q.2.category == 2)))) : iv_Rel D dA L b B0 n0 nL s H w la' ((iv_unl ls k).set k v) st locs cells slots :=
  ⟨h.1, h.2.1.set hk h', fun u hu => by
    rcases List.mem_or_eq_of_mem_set hu with hu | rfl
    · exact iv_unl_ok h.2.2.1 u hu
    · exact hv, h.2.2.2⟩
end IVS
