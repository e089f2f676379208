/-- where the references lead, once all is made -/
def iv_RH : List (List (List Nat)) := [[[], [], [3, 5, 9, 11, 15, 24, 32, 99, 105], [4], [], [6, 7, 8], [], [], [], [10], [], [12, 13, 14], [], [], [], [16, 20]],
  [[17, 18, 19], [], [], [], [21, 22, 23], [], [], [], [25], [26, 27, 28, 29, 30, 31], [], [], [], [], [], []],
  [[34, 33], [], [35, 43, 51, 59, 67, 75, 83, 91], [36], [37, 38, 39, 40, 41, 42], [], [], [], [], [], [], [44], [45, 46, 47, 48, 49, 50], [], [], []],
  [[], [], [], [52], [53, 54, 55, 56, 57, 58], [], [], [], [], [], [], [60], [61, 62, 63, 64, 65, 66], [], [], []],
  [[], [], [], [68], [69, 70, 71, 72, 73, 74], [], [], [], [], [], [], [76], [77, 78, 79, 80, 81, 82], [], [], []],
  [[], [], [], [84], [85, 86, 87, 88, 89, 90], [], [], [], [], [], [], [92], [93, 94, 95, 96, 97, 98], [], [], []],
  [[], [], [], [100, 101, 102, 103, 104], [], [], [], [], [], [0, 106, 107, 108, 109], [], [], [], [], [111, 112, 113, 114, 0, 0, 0, 115, 116, 117, 118, 119, 0, 0, 0, 0, 120, 0, 0, 0, 121, 0, 122, 123, 124, 125, 0, 126, 127, 128, 129, 130, 131, 132, 133, 134, 135], []],
  [[], [], [], [], [], [], [], [], [], [], [], [], [], [], [], []],
  [[], [], [], [], [], [], [], []]]
def iv_rho : ivN := fun a k => ((iv_RH.getD (a / 16) []).getD (a % 16) []).getD k 0
abbrev ivST (μ : ivM) : ivS := (135, μ, iv_rho)
/-! RUNS BY PIECES -/
def iv_steps (L mi : Nat) : Nat → Nat → List ivV → List ivV → ivS → Option (Nat × List ivV × List ivV × ivS)
  | 0, pc, ls, st, w => some (pc, ls, st, w)
  | k + 1, pc, ls, st, w => match iv_ins mi pc with
    | none => none
    | some e => match iv_step L pc e ls st w with
      | none => none
      | some g => iv_steps L mi k g.1 g.2.1 g.2.2.1 g.2.2.2
section IVR
variable {L mi pc : Nat} {ls st : List ivV} {w v : ivS} {r : Option ivV}
theorem iv_Ret.one {e : ivE} {g : Nat × List ivV × List ivV × ivS} (hi : iv_ins mi pc = some e) (hs : iv_step L pc e ls st w = some g) (k : iv_Ret L mi g.1 g.2.1 g.2.2.1 g.2.2.2 r v) : iv_Ret L mi pc ls st w r v := by
  obtain ⟨f, hf⟩ := k
  refine ⟨f + 1, ?_⟩
  show (match iv_ins mi pc with | none => none | some e => _) = _
  rw [hi]
  dsimp only
  rw [hs]
  exact hf
theorem iv_Ret.og {e : ivE} {pc' : Nat} {ls' st' : List ivV} {w' : ivS} (hi : iv_ins mi pc = some e) (k : iv_Ret L mi pc' ls' st' w' r v) (hs : iv_step L pc e ls st w = some (pc', ls', st', w')) : iv_Ret L mi pc ls st w r v := iv_Ret.one hi hs k
theorem iv_Ret.steps {n pc' : Nat} {ls' st' : List ivV} {w' : ivS} (h : iv_steps L mi n pc ls st w = some (pc', ls', st', w')) (k : iv_Ret L mi pc' ls' st' w' r v) : iv_Ret L mi pc ls st w r v := by
  induction n generalizing pc ls st w with
  | zero => cases h; exact k
  | succ n ih =>
    unfold iv_steps at h
    split at h
    · cases h
    · rename_i e he
      split at h
      · cases h
      · rename_i g hg
        exact iv_Ret.one he hg (ih h)
theorem iv_run_more : ∀ {f mi pc : Nat} {ls st : List ivV} {w : ivS} {r : Option ivV × ivS}, iv_run L f mi pc ls st w = some r → iv_run L (f + 1) mi pc ls st w = some r
  | 0, _, _, _, _, _, _, h => by cases h
  | f + 1, mi, pc, ls, st, w, r, h => by
    unfold iv_run at h ⊢
    split at h
    · cases h
    · rename_i e he
      split at h
      · rename_i g hg
        exact iv_run_more h
      · split at h
        · exact h
        · exact h
        · exact h
        · obtain ⟨h1, h2⟩ := iv_bifc h
          rw [h1, cond_true]
          split at h2
          · rename_i r1 hr1
            rw [iv_run_more hr1]
            exact iv_run_more h2
          · cases h2
        · obtain ⟨h1, h2⟩ := iv_bifc h
          rw [h1, cond_true]
          split at h2
          · rename_i r1 hr1
            rw [iv_run_more hr1]
            exact iv_run_more h2
          · cases h2
        · cases hk : Nat.ble 1000 e.2.2.2.1
          · rw [hk, cond_false] at h
            rw [cond_false]
            obtain ⟨h1, h2⟩ := iv_bifc h
            rw [h1, cond_true]
            split at h2
            · rename_i r1 hr1
              rw [iv_run_more hr1]
              exact iv_run_more h2
            · cases h2
          · rw [hk, cond_true] at h
            rw [cond_true]
            split at h
            · obtain ⟨h1, h2⟩ := iv_bifc h
              rw [h1, cond_true]
              exact iv_run_more h2
            · cases h
        · cases h
theorem iv_run_le {f g : Nat} (hg : f ≤ g) {mi pc : Nat} {ls st : List ivV} {w : ivS} {r : Option ivV × ivS} (h : iv_run L f mi pc ls st w = some r) : iv_run L g mi pc ls st w = some r := by
  induction g with
  | zero => rw [Nat.le_zero.mp hg] at h; exact h
  | succ n ih =>
    by_cases e : f = n + 1
    · rw [← e]; exact h
    · exact iv_run_more (ih (by omega))
theorem iv_Ret.callv {ep idx el z nb ew : Nat} {ec : Int} {r1 : Option ivV} {w1 : ivS} (hi : iv_ins mi pc = some (ep, .invokevirtual idx, el, z, nb, ec, ew)) (hc : (Nat.ble nb st.length && Nat.ble (iv_wide (st.drop nb)) 8 && Nat.ble (iv_wide (st.take nb)) (iv_ml z)) = true) (ho : iv_obj L w.1 (iv_own z) (st.take nb).reverse = true)
    (h1 : iv_Ret L z 0 (iv_ent (iv_ml z) (st.take nb).reverse) [] w r1 w1) (h2 : iv_Ret L mi (pc + 3) ls (r1.toList ++ st.drop nb) w1 r v) : iv_Ret L mi pc ls st w r v := by
  obtain ⟨f1, h1⟩ := h1
  obtain ⟨f2, h2⟩ := h2
  refine ⟨max f1 f2 + 1, ?_⟩
  show (match iv_ins mi pc with | none => none | some e => _) = _
  rw [hi]
  dsimp only [iv_step]
  rw [hc, ho, Bool.and_true, cond_true]
  rw [iv_run_le (Nat.le_max_left f1 f2) h1]
  exact iv_run_le (Nat.le_max_right f1 f2) h2
theorem iv_Ret.calls {ep idx el z nb ew : Nat} {ec : Int} {r1 : Option ivV} {w1 : ivS} (hi : iv_ins mi pc = some (ep, .invokestatic idx, el, z, nb, ec, ew)) (hc : (Nat.ble nb st.length && Nat.ble (iv_wide (st.drop nb)) 8 && Nat.ble (iv_wide (st.take nb)) (iv_ml z)) = true)
    (h1 : iv_Ret L z 0 (iv_ent (iv_ml z) (st.take nb).reverse) [] w r1 w1) (h2 : iv_Ret L mi (pc + 3) ls (r1.toList ++ st.drop nb) w1 r v) : iv_Ret L mi pc ls st w r v := by
  obtain ⟨f1, h1⟩ := h1
  obtain ⟨f2, h2⟩ := h2
  refine ⟨max f1 f2 + 1, ?_⟩
  show (match iv_ins mi pc with | none => none | some e => _) = _
  rw [hi]
  dsimp only [iv_step]
  rw [hc, cond_true]
  rw [iv_run_le (Nat.le_max_left f1 f2) h1]
  exact iv_run_le (Nat.le_max_right f1 f2) h2
theorem iv_obj_sym {n ci nf x : Nat} {as : List ivV} (hl : iv_lay L x = (0, ci, nf)) (hn : Nat.ble x n = true) : iv_obj L n ci (ivR x :: as) = true := by
  show (Nat.beq (iv_lay L x).1 0 && Nat.beq (iv_lay L x).2.1 ci && Nat.ble x n) = true
  rw [hl, hn]
  simp
/-- jumps -/
theorem iv_Ret.icT {ep el ea eb ew t : Nat} {ec o x y : Int} {cn : Jvm.ClassFile.Cond} (hi : iv_ins mi pc = some (ep, .if_icmp cn o, el, ea, eb, ec, ew)) (hc : iv_cmp cn x y = true) (ht : ((pc : Int) + o).toNat = t) (k : iv_Ret L mi t ls st w r v) : iv_Ret L mi pc ls (ivI y :: ivI x :: st) w r v :=
  iv_Ret.one hi (by show some (bif iv_cmp cn x y then ((pc : Int) + o).toNat else pc + 3, ls, st, w) = some (t, ls, st, w); rw [hc, ht]; rfl) k
theorem iv_Ret.icF {ep el ea eb ew t : Nat} {ec o x y : Int} {cn : Jvm.ClassFile.Cond} (hi : iv_ins mi pc = some (ep, .if_icmp cn o, el, ea, eb, ec, ew)) (hc : iv_cmp cn x y = false) (ht : pc + 3 = t) (k : iv_Ret L mi t ls st w r v) : iv_Ret L mi pc ls (ivI y :: ivI x :: st) w r v :=
  iv_Ret.one hi (by show some (bif iv_cmp cn x y then ((pc : Int) + o).toNat else pc + 3, ls, st, w) = some (t, ls, st, w); rw [hc, ht]; rfl) k
theorem iv_Ret.ifT {ep el ea eb ew t : Nat} {ec o x : Int} {cn : Jvm.ClassFile.Cond} (hi : iv_ins mi pc = some (ep, .ifCond cn o, el, ea, eb, ec, ew)) (hc : iv_cmp cn x 0 = true) (ht : ((pc : Int) + o).toNat = t) (k : iv_Ret L mi t ls st w r v) : iv_Ret L mi pc ls (ivI x :: st) w r v :=
  iv_Ret.one hi (by show some (bif iv_cmp cn x 0 then ((pc : Int) + o).toNat else pc + 3, ls, st, w) = some (t, ls, st, w); rw [hc, ht]; rfl) k
theorem iv_Ret.ifF {ep el ea eb ew t : Nat} {ec o x : Int} {cn : Jvm.ClassFile.Cond} (hi : iv_ins mi pc = some (ep, .ifCond cn o, el, ea, eb, ec, ew)) (hc : iv_cmp cn x 0 = false) (ht : pc + 3 = t) (k : iv_Ret L mi t ls st w r v) : iv_Ret L mi pc ls (ivI x :: st) w r v :=
  iv_Ret.one hi (by show some (bif iv_cmp cn x 0 then ((pc : Int) + o).toNat else pc + 3, ls, st, w) = some (t, ls, st, w); rw [hc, ht]; rfl) k
theorem iv_Ret.nuT {ep el ea eb ew t x : Nat} {ec o : Int} (hi : iv_ins mi pc = some (ep, .ifnull o, el, ea, eb, ec, ew)) (hc : x = 0) (ht : ((pc : Int) + o).toNat = t) (k : iv_Ret L mi t ls st w r v) : iv_Ret L mi pc ls (ivR x :: st) w r v :=
  iv_Ret.one hi (by show some (bif Nat.beq x 0 then ((pc : Int) + o).toNat else pc + 3, ls, st, w) = some (t, ls, st, w); rw [hc, ht]; rfl) k
theorem iv_Ret.nuF {ep el ea eb ew t x : Nat} {ec o : Int} (hi : iv_ins mi pc = some (ep, .ifnull o, el, ea, eb, ec, ew)) (hc : ¬ x = 0) (ht : pc + 3 = t) (k : iv_Ret L mi t ls st w r v) : iv_Ret L mi pc ls (ivR x :: st) w r v :=
  iv_Ret.one hi (by show some (bif Nat.beq x 0 then ((pc : Int) + o).toNat else pc + 3, ls, st, w) = some (t, ls, st, w); rw [iv_nbeq hc, ht]; rfl) k
theorem iv_Ret.nnT {ep el ea eb ew t x : Nat} {ec o : Int} (hi : iv_ins mi pc = some (ep, .ifnonnull o, el, ea, eb, ec, ew)) (hc : ¬ x = 0) (ht : ((pc : Int) + o).toNat = t) (k : iv_Ret L mi t ls st w r v) : iv_Ret L mi pc ls (ivR x :: st) w r v :=
  iv_Ret.one hi (by show some (bif Nat.beq x 0 then pc + 3 else ((pc : Int) + o).toNat, ls, st, w) = some (t, ls, st, w); rw [iv_nbeq hc, ht]; rfl) k
theorem iv_Ret.nnF {ep el ea eb ew t x : Nat} {ec o : Int} (hi : iv_ins mi pc = some (ep, .ifnonnull o, el, ea, eb, ec, ew)) (hc : x = 0) (ht : pc + 3 = t) (k : iv_Ret L mi t ls st w r v) : iv_Ret L mi pc ls (ivR x :: st) w r v :=
  iv_Ret.one hi (by show some (bif Nat.beq x 0 then pc + 3 else ((pc : Int) + o).toNat, ls, st, w) = some (t, ls, st, w); rw [hc, ht]; rfl) k
/-- switches: the place where the value x leads -/
theorem iv_Ret.tsO {ep el ea eb ew t : Nat} {ec d lo hi x : Int} {os : Array Int} (hin : iv_ins mi pc = some (ep, .tableswitch d lo hi os, el, ea, eb, ec, ew)) (hc : (decide (x < lo) || decide (hi < x)) = true) (ht : ((pc : Int) + d).toNat = t) (k : iv_Ret L mi t ls st w r v) : iv_Ret L mi pc ls (ivI x :: st) w r v :=
  iv_Ret.one hin (by show some (bif decide (x < lo) || decide (hi < x) then ((pc : Int) + d).toNat else ((pc : Int) + os.toList.getD (x - lo).toNat 0).toNat, ls, st, w) = some (t, ls, st, w); rw [hc, ht]; rfl) k
theorem iv_Ret.tsI {ep el ea eb ew t : Nat} {ec d lo hi x y : Int} {os : Array Int} (hin : iv_ins mi pc = some (ep, .tableswitch d lo hi os, el, ea, eb, ec, ew)) (hx : x = y) (ht : (bif decide (y < lo) || decide (hi < y) then ((pc : Int) + d).toNat else ((pc : Int) + os.toList.getD (y - lo).toNat 0).toNat) = t) (k : iv_Ret L mi t ls st w r v) : iv_Ret L mi pc ls (ivI x :: st) w r v :=
  iv_Ret.one hin (by show some (bif decide (x < lo) || decide (hi < x) then ((pc : Int) + d).toNat else ((pc : Int) + os.toList.getD (x - lo).toNat 0).toNat, ls, st, w) = some (t, ls, st, w); rw [hx, ht]) k
theorem iv_Ret.lk {ep el ea eb ew t : Nat} {ec d x : Int} {ps : Array (Int × Int)} (hi : iv_ins mi pc = some (ep, .lookupswitch d ps, el, ea, eb, ec, ew)) (ht : ((pc : Int) + Op.lookupswitch.offset ps.toList d x).toNat = t) (k : iv_Ret L mi t ls st w r v) : iv_Ret L mi pc ls (ivI x :: st) w r v :=
  iv_Ret.one hi (by show some (((pc : Int) + Op.lookupswitch.offset ps.toList d x).toNat, ls, st, w) = some (t, ls, st, w); rw [ht]) k
/-- ends -/
theorem iv_Ret.zret {x : Int} {ep el ea eb ew : Nat} {ec : Int} (hi : iv_ins mi pc = some (ep, .ireturn, el, ea, eb, ec, ew)) (hx : x = 0 ∨ x = 1) : iv_Ret L mi pc ls [ivI x] w (some (ivI x)) w := by
  refine ⟨1, ?_⟩
  show (match iv_ins mi pc with | none => none | some e => _) = _
  rw [hi]
  dsimp only [iv_step]
  cases iv_zb mi
  · rfl
  · rcases hx with rfl | rfl <;> rfl
end IVR
/-! arrays and fields -/
section IVR
variable {L mi pc x ep el ea eb ew n : Nat} {ec : Int} {ls st : List ivV} {μ : ivM} {ρ : ivN} {v : ivS} {r : Option ivV}
theorem iv_Ret.iald {i : Int} {len : Nat} (hi : iv_ins mi pc = some (ep, .iaload, el, ea, eb, ec, ew)) (hl : iv_lay L x = (1, 0, len)) (hn : Nat.ble x n = true) (h0 : 0 ≤ i) (h1 : i < len) (k : iv_Ret L mi (pc + 1) ls (ivI (μ x i.toNat) :: st) (n, μ, ρ) r v) : iv_Ret L mi pc ls (ivI i :: ivR x :: st) (n, μ, ρ) r v := by
  refine iv_Ret.og hi k ?_
  show (bif Nat.beq (iv_lay L x).1 1 && Nat.beq (iv_lay L x).2.1 0 && Nat.ble x n && (decide (0 ≤ i) && decide (i < (iv_lay L x).2.2)) then some _ else none) = _
  rw [hl, hn, decide_eq_true h0, decide_eq_true h1]
  rfl
theorem iv_Ret.bald {i : Int} {len : Nat} (hi : iv_ins mi pc = some (ep, .baload, el, ea, eb, ec, ew)) (hl : iv_lay L x = (1, 1, len)) (hn : Nat.ble x n = true) (h0 : 0 ≤ i) (h1 : i < len) (k : iv_Ret L mi (pc + 1) ls (ivI (μ x i.toNat) :: st) (n, μ, ρ) r v) : iv_Ret L mi pc ls (ivI i :: ivR x :: st) (n, μ, ρ) r v := by
  refine iv_Ret.og hi k ?_
  show (bif Nat.beq (iv_lay L x).1 1 && Nat.beq (iv_lay L x).2.1 1 && Nat.ble x n && (decide (0 ≤ i) && decide (i < (iv_lay L x).2.2)) then some _ else none) = _
  rw [hl, hn, decide_eq_true h0, decide_eq_true h1]
  rfl
theorem iv_Ret.aald {i : Int} {t len y : Nat} (hi : iv_ins mi pc = some (ep, .aaload, el, ea, eb, ec, ew)) (hl : iv_lay L x = (1, t, len)) (ht : Nat.ble 2 t = true) (hn : Nat.ble x n = true) (h0 : 0 ≤ i) (h1 : i < len) (hy : ρ x i.toNat = y) (k : iv_Ret L mi (pc + 1) ls (ivR y :: st) (n, μ, ρ) r v) : iv_Ret L mi pc ls (ivI i :: ivR x :: st) (n, μ, ρ) r v := by
  refine iv_Ret.og hi k ?_
  show (bif Nat.beq (iv_lay L x).1 1 && Nat.ble 2 (iv_lay L x).2.1 && Nat.ble x n && (decide (0 ≤ i) && decide (i < (iv_lay L x).2.2)) then some (pc + 1, ls, ivR (ρ x i.toNat) :: st, n, μ, ρ) else none) = _
  rw [hl, ht, hn, decide_eq_true h0, decide_eq_true h1, hy]
  rfl
theorem iv_Ret.iast {i u : Int} {len : Nat} (hi : iv_ins mi pc = some (ep, .iastore, el, ea, eb, ec, ew)) (h2 : Nat.ble 2 x = true) (hl : iv_lay L x = (1, 0, len)) (hn : Nat.ble x n = true) (h0 : 0 ≤ i) (h1 : i < len) (k : iv_Ret L mi (pc + 1) ls st (n, iv_upd μ x i.toNat u, ρ) r v) : iv_Ret L mi pc ls (ivI u :: ivI i :: ivR x :: st) (n, μ, ρ) r v := by
  refine iv_Ret.og hi k ?_
  show (bif Nat.ble 2 x && Nat.beq (iv_lay L x).1 1 && Nat.beq (iv_lay L x).2.1 0 && Nat.ble x n && (decide (0 ≤ i) && decide (i < (iv_lay L x).2.2)) then some _ else none) = _
  rw [h2, hl, hn, decide_eq_true h0, decide_eq_true h1]
  rfl
theorem iv_Ret.bast {i u : Int} {len : Nat} (hi : iv_ins mi pc = some (ep, .bastore, el, ea, eb, ec, ew)) (h2 : Nat.ble 2 x = true) (hl : iv_lay L x = (1, 1, len)) (hn : Nat.ble x n = true) (h0 : 0 ≤ i) (h1 : i < len) (k : iv_Ret L mi (pc + 1) ls st (n, iv_upd μ x i.toNat (u % 2), ρ) r v) : iv_Ret L mi pc ls (ivI u :: ivI i :: ivR x :: st) (n, μ, ρ) r v := by
  refine iv_Ret.og hi k ?_
  show (bif Nat.ble 2 x && Nat.beq (iv_lay L x).1 1 && Nat.beq (iv_lay L x).2.1 1 && Nat.ble x n && (decide (0 ≤ i) && decide (i < (iv_lay L x).2.2)) then some _ else none) = _
  rw [h2, hl, hn, decide_eq_true h0, decide_eq_true h1]
  rfl
theorem iv_Ret.geti {idx ci k nf : Nat} (hi : iv_ins mi pc = some (ep, .getfield idx, el, ci, k, ec, ew)) (hl : iv_lay L x = (0, ci, nf)) (hn : Nat.ble x n = true) (ht : Nat.ble 2 (iv_fty ci k) = false) (kk : iv_Ret L mi (pc + 3) ls (ivI (μ x k) :: st) (n, μ, ρ) r v) : iv_Ret L mi pc ls (ivR x :: st) (n, μ, ρ) r v := by
  refine iv_Ret.og hi kk ?_
  show (bif Nat.beq (iv_lay L x).1 0 && Nat.beq (iv_lay L x).2.1 ci && Nat.ble x n then some (pc + 3, ls, (bif Nat.ble 2 (iv_fty ci k) then ivR (ρ x k) else ivI (μ x k)) :: st, n, μ, ρ) else none) = _
  rw [hl, hn, ht]
  simp
theorem iv_Ret.getr {idx ci k nf y : Nat} (hi : iv_ins mi pc = some (ep, .getfield idx, el, ci, k, ec, ew)) (hl : iv_lay L x = (0, ci, nf)) (hn : Nat.ble x n = true) (ht : Nat.ble 2 (iv_fty ci k) = true) (hy : ρ x k = y) (kk : iv_Ret L mi (pc + 3) ls (ivR y :: st) (n, μ, ρ) r v) : iv_Ret L mi pc ls (ivR x :: st) (n, μ, ρ) r v := by
  refine iv_Ret.og hi kk ?_
  show (bif Nat.beq (iv_lay L x).1 0 && Nat.beq (iv_lay L x).2.1 ci && Nat.ble x n then some (pc + 3, ls, (bif Nat.ble 2 (iv_fty ci k) then ivR (ρ x k) else ivI (μ x k)) :: st, n, μ, ρ) else none) = _
  rw [hl, hn, ht, hy]
  simp
theorem iv_Ret.puti {idx ci k nf : Nat} {u : Int} (hi : iv_ins mi pc = some (ep, .putfield idx, el, ci, k, ec, ew)) (hl : iv_lay L x = (0, ci, nf)) (hn : Nat.ble x n = true) (ht : (Nat.beq (iv_fty ci k) 0 || Nat.beq (iv_fty ci k) 1 && (decide (u = 0) || decide (u = 1))) = true) (kk : iv_Ret L mi (pc + 3) ls st (n, iv_upd μ x k u, ρ) r v) : iv_Ret L mi pc ls (ivI u :: ivR x :: st) (n, μ, ρ) r v := by
  refine iv_Ret.og hi kk ?_
  show (bif Nat.beq (iv_lay L x).1 0 && Nat.beq (iv_lay L x).2.1 ci && Nat.ble x n && (Nat.beq (iv_fty ci k) 0 || Nat.beq (iv_fty ci k) 1 && (decide (u = 0) || decide (u = 1))) then some (pc + 3, ls, st, n, iv_upd μ x k u, ρ) else none) = _
  rw [hl, hn, ht]
  simp
end IVR
/-! functions that answer as runs do -/
def iv_bnd {α : Type} (o : Option (Int × ivM)) (k : Int → ivM → Option α) : Option α := match o with
  | none => none
  | some q => k q.1 q.2
def iv_ck {α : Type} (c : Prop) [Decidable c] (a : Option α) : Option α := if c then a else none
def iv_let {α β : Type} (a : α) (b : α → β) : β := b a
def iv_fuel : Nat := 1000000
theorem iv_bndE {α : Type} {o : Option (Int × ivM)} {k : Int → ivM → Option α} {x : α} (h : iv_bnd o k = some x) : ∃ r m, o = some (r, m) ∧ k r m = some x := by
  cases o with
  | none => cases h
  | some q => exact ⟨q.1, q.2, rfl, h⟩
theorem iv_ckE {α : Type} {c : Prop} [Decidable c] {a : Option α} {x : α} (h : iv_ck c a = some x) : c ∧ a = some x := by
  unfold iv_ck at h
  split at h
  · exact ⟨‹c›, h⟩
  · cases h
theorem iv_iteE {α : Type} {c : Prop} [Decidable c] {a b x : α} (h : (if c then a else b) = x) : (c ∧ a = x) ∨ (¬ c ∧ b = x) := by
  split at h
  · exact Or.inl ⟨‹c›, h⟩
  · exact Or.inr ⟨‹¬ c›, h⟩
theorem iv_letE {α β : Type} {a : α} {bd : α → β} {x : β} {G : Prop} (P : α → Prop) (h : iv_let a bd = x) (ha : P a) (hb : ∀ j, P j → bd j = x → G) : G := hb a ha h
theorem iv_retE {a r : Int} {b m : ivM} (h : some (a, b) = some (r, m)) : r = a ∧ m = b := by cases h; exact ⟨rfl, rfl⟩
theorem iv_bnd_some {α : Type} {r : Int} {m : ivM} {k : Int → ivM → Option α} : iv_bnd (some (r, m)) k = k r m := rfl
theorem iv_ck_pos {α : Type} {c : Prop} [Decidable c] {a : Option α} (h : c) : iv_ck c a = a := if_pos h
