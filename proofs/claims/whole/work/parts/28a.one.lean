/-! THE SCRIPT STAYS AS IT IS -/
theorem ik_bifn {α : Type} {bb : Bool} {x : Option α} {g : α} (h : (bif bb then none else x) = some g) : x = some g := by
  cases bb
  · exact h
  · cases h
theorem ik_lay1 {L x : Nat} (h : Nat.beq (iv_lay L x).1 0 = true) : ¬ x = 1 := by
  rintro rfl
  exact absurd h (show ¬ ((false : Bool) = true) by decide)
theorem ik_zer {f : ivM} {lo hi k : Nat} (h : 1 < lo) : iv_zer f lo hi 1 k = f 1 k := if_neg (by omega)
def ik_K (w w' : ivS) : Prop := 1 ≤ w'.1 ∧ ∀ k, w'.2.1 1 k = w.2.1 1 k
set_option maxHeartbeats 2000000 in
theorem ik_step {L pc : Nat} {e : ivE} {ls st : List ivV} {w : ivS} {g : Nat × List ivV × List ivV × ivS} (h : iv_step L pc e ls st w = some g) (h1 : 1 ≤ w.1) : ik_K w g.2.2.2 := by
  have same : ik_K w w := ⟨h1, fun _ => rfl⟩
  unfold iv_step at h
  split at h
  all_goals first
    | (cases h <;> exact same)
    | (split at h
       all_goals first
         | (cases h <;> exact same)
         | (have h := (iv_bifc h).2; cases h <;> exact same)
         | (have h := ik_bifn h; cases h <;> exact same)
         | (obtain ⟨hb, h⟩ := iv_bifc h
            cases h
            simp only [Bool.and_eq_true] at hb
            exact ⟨h1, fun k => iv_upd_na (fun c => ik_lay1 hb.1.1.1 c.symm)⟩)
         | (obtain ⟨hb, h⟩ := iv_bifc h
            cases h
            simp only [Bool.and_eq_true] at hb
            have h2 := Nat.le_of_ble_eq_true hb.1.1.1.1
            exact ⟨h1, fun k => iv_upd_na (by omega)⟩)
         | (obtain ⟨hb, h⟩ := iv_bifc h
            cases h
            exact ⟨Nat.le_succ_of_le h1, fun k => ik_zer (by omega)⟩)
         | (obtain ⟨hb, h⟩ := iv_bifc h
            cases h
            exact ⟨Nat.le_trans h1 (Nat.le_add_right _ _), fun k => ik_zer (by omega)⟩))
    | (obtain ⟨hb, h⟩ := iv_bifc h
       cases h
       exact ⟨Nat.le_succ_of_le h1, fun k => ik_zer (by omega)⟩)
theorem ik_run {L : Nat} : ∀ {f mi pc : Nat} {ls st : List ivV} {w : ivS} {r : Option ivV × ivS}, iv_run L f mi pc ls st w = some r → 1 ≤ w.1 → ik_K w r.2
  | 0, _, _, _, _, _, _, h, _ => by cases h
  | f + 1, mi, pc, ls, st, w, r, h, h1 => by
    have same : ik_K w w := ⟨h1, fun _ => rfl⟩
    have call : ∀ {z : Nat} {l1 l2 s2 : List ivV}, (match iv_run L f z 0 l1 [] w with | some r => iv_run L f mi (pc + 3) l2 (r.1.toList ++ s2) r.2 | none => none) = some r → ik_K w r.2 := by
      intro z l1 l2 s2 h
      split at h
      · rename_i r1 hr1
        have a := ik_run hr1 h1
        have b := ik_run h a.1
        exact ⟨b.1, fun k => (b.2 k).trans (a.2 k)⟩
      · cases h
    unfold iv_run at h
    split at h
    · cases h
    · rename_i e he
      split at h
      · rename_i g hg
        have a := ik_step hg h1
        have b := ik_run h a.1
        exact ⟨b.1, fun k => (b.2 k).trans (a.2 k)⟩
      · split at h
        · split at h
          · cases hz : iv_zb mi
            · rw [hz, cond_false] at h; cases h; exact same
            · rw [hz, cond_true] at h
              have h := (iv_bifc h).2
              cases h; exact same
          · cases h
        · split at h
          · cases h; exact same
          · cases h
        · split at h
          · cases h; exact same
          · cases h
        · exact call (iv_bifc h).2
        · exact call (iv_bifc h).2
        · cases hk : Nat.ble 1000 e.2.2.2.1
          · rw [hk, cond_false] at h
            exact call (iv_bifc h).2
          · rw [hk, cond_true] at h
            split at h
            · exact ik_run (iv_bifc h).2 h1
            · cases h
        · cases h
theorem ik_Ret {L mi pc : Nat} {ls st : List ivV} {μ ν : ivM} {r : Option ivV} (h : iv_Ret L mi pc ls st (ivST μ) r (ivST ν)) : ∀ k, ν 1 k = μ 1 k := by
  obtain ⟨f, hf⟩ := h
  exact (ik_run hf (show 1 ≤ 135 by decide)).2
