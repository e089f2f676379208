/-! ONE STEP, all instructions -/
theorem iv_bif {α : Type} {bb : Bool} {x : α} {g : α} (h : (bif bb then some x else none) = some g) : bb = true ∧ x = g := by
  cases bb
  · cases h
  · exact ⟨rfl, Option.some.inj h⟩
theorem iv_bifn {α : Type} {bb : Bool} {x : α} {g : α} (h : (bif bb then none else some x) = some g) : bb = false ∧ x = g := by
  cases bb
  · exact ⟨rfl, Option.some.inj h⟩
  · cases h
theorem iv_ofNat32 {c : Int} (h : 0 ≤ c) : Int32.ofNat c.toNat = Int32.ofInt c := by
  rw [← Int32.ofInt_eq_ofNat]
  congr 1
  omega
theorem iv_ofNat64 {c : Int} (h : 0 ≤ c) : Int64.ofNat c.toNat = Int64.ofInt c := by
  rw [← Int64.ofInt_eq_ofNat]
  congr 1
  omega
theorem iv_memA {own idx k : Nat} {C : String} (h : iv_s k = C) (hm : iv_wd (2, own, idx, k, 0, 0) ∈ iv_TB) : Jvm.Cond.classLink (iv_s own) idx C ∈ iv_TB := h ▸ hm
theorem iv_blt {a b : Nat} (h : Nat.blt a b = true) : a < b := Nat.le_of_ble_eq_true h
section IVS
variable {p : Program} {l : Launch} {e : Env} {R : Room} {s : State} {m : MethodId} {args : Array Value} {below : List Frame} {meth : Method} {c : Code} {Q : State → Prop}
variable {D : va_G} {dA : Nat → ClassId} {L b B0 n0 mi : Nat} {H : Heap} {w : ivS} {la : Array Slot} {ls st : List ivV} {locs : List Loc} {cells slots : Nat}
theorem iv_s_putI {pc idx x : Nat} {ee : ivE} {v : Int} (hx : p.tables.exec = Jvm.exec) (hb : c.code = iv_cd mi) (hown : s.vm.findClass (iv_nm mi).cls = some m.cls) (hts : ∀ w ∈ iv_TB, w.before args s = true) (hname : (iv_nm mi).name = "<init>" → meth.name = "<init>") (hd : decode (iv_cd mi) pc = .ok (.putfield idx, 3)) (hg : iv_gf mi ee idx = true) (hgp : iv_gp mi ee = true)
    (h0 : (iv_lay L x).1 = 0) (h1 : (iv_lay L x).2.1 = ee.2.2.2.1) (hn : x ≤ w.1) (hk : (Nat.beq (iv_fty ee.2.2.2.1 ee.2.2.2.2.1) 0 || Nat.beq (iv_fty ee.2.2.2.1 ee.2.2.2.2.1) 1 && (decide (v = 0) || decide (v = 1))) = true)
    (hR : iv_Rel D dA L b B0 n0 (iv_ml mi) s H w la ls (ivI v :: ivR x :: st) locs cells slots) (kk : iv_KK p l e R s m args below meth c Q D dA L b B0 n0 mi (pc + 3, ls, st, w.1, iv_upd w.2.1 x ee.2.2.2.2.1 v, w.2.2)) :
    iv_G p l e R s m args below meth c Q b B0 H locs cells slots pc la (ivI v :: ivR x :: st) := by
  have hv : iv_in v := hR.hd
  have hk1 : iv_fty ee.2.2.2.1 ee.2.2.2.2.1 = 0 ∨ iv_fty ee.2.2.2.1 ee.2.2.2.2.1 = 1 ∧ (v = 0 ∨ v = 1) := by
    simp only [Bool.or_eq_true, Bool.and_eq_true, decide_eq_true_eq] at hk
    exact hk.imp Nat.eq_of_beq_eq_true (fun h => ⟨Nat.eq_of_beq_eq_true h.1, h.2⟩)
  refine iv_s_put (v := ivI v) (w1 := (w.1, iv_upd w.2.1 x ee.2.2.2.2.1 v, w.2.2)) hx hb hown hts hname hd hg hgp h0 h1 hn (fun t ht hc => ?_) rfl (fun y hy k => ⟨iv_upd_ne hy k, rfl⟩) (iv_upd_in hR.1.2.2.2.2.2.1 hv) hR.1.2.2.2.2.2.2.1 (fun k => ?_) hR kk
  · rcases hc with ⟨a, rfl⟩ | ⟨a, rfl⟩ | ⟨a, -⟩
    · exact ⟨rfl, rfl⟩
    · rcases hk1 with h | h
      · rw [a] at h; cases h
      · exact iv_bool h.2
    · rcases hk1 with h | h
      · rw [a] at h; cases h
      · rw [a] at h; cases h.1
  · unfold iv_slot iv_upd
    by_cases e : k = ee.2.2.2.2.1
    · subst e
      have hb2 : Nat.ble 2 (iv_fty ee.2.2.2.1 ee.2.2.2.2.1) = false := by rcases hk1 with h | h <;> first | rw [h]; rfl | rw [h.1]; rfl
      rw [hb2, if_pos rfl]
      simp only [cond_false, and_self, if_true]
      rfl
    · rw [if_neg e]
      simp only [e, and_false, if_false]
theorem iv_s_putR {pc idx x y : Nat} {ee : ivE} (hx : p.tables.exec = Jvm.exec) (hb : c.code = iv_cd mi) (hown : s.vm.findClass (iv_nm mi).cls = some m.cls) (hts : ∀ w ∈ iv_TB, w.before args s = true) (hname : (iv_nm mi).name = "<init>" → meth.name = "<init>") (hd : decode (iv_cd mi) pc = .ok (.putfield idx, 3)) (hg : iv_gf mi ee idx = true) (hgp : iv_gp mi ee = true)
    (h0 : (iv_lay L x).1 = 0) (h1 : (iv_lay L x).2.1 = ee.2.2.2.1) (hn : x ≤ w.1) (hk : 2 ≤ iv_fty ee.2.2.2.1 ee.2.2.2.2.1)
    (hR : iv_Rel D dA L b B0 n0 (iv_ml mi) s H w la ls (ivR y :: ivR x :: st) locs cells slots) (kk : iv_KK p l e R s m args below meth c Q D dA L b B0 n0 mi (pc + 3, ls, st, w.1, w.2.1, iv_updR w.2.2 x ee.2.2.2.2.1 y)) :
    iv_G p l e R s m args below meth c Q b B0 H locs cells slots pc la (ivR y :: ivR x :: st) := by
  have hy : y ≤ w.1 := hR.hd
  refine iv_s_put (v := ivR y) (w1 := (w.1, w.2.1, iv_updR w.2.2 x ee.2.2.2.2.1 y)) hx hb hown hts hname hd hg hgp h0 h1 hn (fun t ht hc => ?_) rfl (fun z hz k => ⟨rfl, iv_updR_ne hz k⟩) hR.1.2.2.2.2.2.1 (iv_updR_le hR.1.2.2.2.2.2.2.1 hy) (fun k => ?_) hR kk
  · show narrow t (iv_rv b B0 y) = iv_rv b B0 y ∧ fits t (iv_rv b B0 y) = true
    unfold iv_rv
    rcases hc with ⟨a, rfl⟩ | ⟨a, rfl⟩ | ⟨a, ⟨n, rfl⟩ | ⟨n, rfl⟩⟩
    · rw [a] at hk; omega
    · rw [a] at hk; omega
    · split <;> exact ⟨rfl, rfl⟩
    · split <;> exact ⟨rfl, rfl⟩
  · unfold iv_slot iv_updR
    by_cases e : k = ee.2.2.2.2.1
    · subst e
      rw [Nat.ble_eq_true_of_le hk, if_pos rfl]
      simp only [cond_true, and_self, if_true]
      rfl
    · rw [if_neg e]
      simp only [e, and_false, if_false]
set_option maxHeartbeats 4000000 in
/-- one step -/
theorem iv_step_snd (cx : iv_cx p R s m args meth c mi) (hmi : mi < 172) {pc : Nat} {ee : ivE} {g : Nat × List ivV × List ivV × ivS} (hi : iv_ins mi pc = some ee) (hs : iv_step L pc ee ls st w = some g) (hL : L ≤ 2048) (hgc : g.2.2.2.1 ≤ R.cells + n0) (hgs : iv_sl L g.2.2.2.1 ≤ R.slots + iv_sl L n0)
    (hR : iv_Rel D dA L b B0 n0 (iv_ml mi) s H w la ls st locs cells slots) (kk : iv_KK p l e R s m args below meth c Q D dA L b B0 n0 mi g) : iv_G p l e R s m args below meth c Q b B0 H locs cells slots pc la st := by
  obtain ⟨hd, hg, hep⟩ := iv_good_of (iv_good_any mi hmi) hi
  obtain ⟨hx, hb, hr, hml, hown, hts, hT, hlocks, hname, hrf, hrl⟩ := cx
  obtain ⟨ep, ei, el, ea, eb, ec, ew⟩ := ee
  clear hi
  dsimp only at hd hg hs hep
  cases ei with
  | iconst x =>
    simp only [iv_gi, Bool.and_eq_true] at hg
    obtain rfl := Nat.eq_of_beq_eq_true hg.1
    simp only [iv_step, Option.some.injEq] at hs
    subst hs
    exact lv_iconst hx hb hd rfl (iv_push (v := ivI x) hR rfl (iv_inb_of hg.2) kk)
  | bipush x =>
    simp only [iv_gi, Bool.and_eq_true] at hg
    obtain rfl := Nat.eq_of_beq_eq_true hg.1.1
    simp only [iv_step, Option.some.injEq] at hs
    subst hs
    exact lv_bipush hx hb hd (of_decide_eq_true hg.2) (iv_push (v := ivI x) hR rfl (iv_inb_of hg.1.2) kk)
  | sipush x =>
    simp only [iv_gi, Bool.and_eq_true] at hg
    obtain rfl := Nat.eq_of_beq_eq_true hg.1.1
    simp only [iv_step, Option.some.injEq] at hs
    subst hs
    exact lv_sipush hx hb hd (of_decide_eq_true hg.2) (iv_push (v := ivI x) hR rfl (iv_inb_of hg.1.2) kk)
  | lconst x =>
    simp only [iv_gi] at hg
    obtain rfl := Nat.eq_of_beq_eq_true hg
    simp only [iv_step, Option.some.injEq] at hs
    subst hs
    exact lv_lconst hx hb hd rfl (iv_push (v := ivJ (Int.ofNat x.val)) hR (congrArg Value.long (Int64.ofInt_eq_ofNat (n := x.val)).symm) (show iv_il (Int.ofNat x.val) from ⟨by have := x.isLt; simp only [Int.ofNat_eq_natCast]; omega, by have := x.isLt; simp only [Int.ofNat_eq_natCast]; omega⟩) kk)
  | ldc idx =>
    simp only [iv_gi, Bool.and_eq_true] at hg
    obtain ⟨⟨⟨h1, h2⟩, h3⟩, h4⟩ := hg
    obtain rfl := Nat.eq_of_beq_eq_true h1
    simp only [iv_step, Option.some.injEq] at hs
    subst hs
    exact lv_ldc hx hb hown (hts _ (iv_at_mem h4)) hd (iv_push (v := ivI ec) hR (congrArg Value.int (iv_ofNat32 (of_decide_eq_true h3))) (iv_inb_of h2) kk)
  | ldc_w idx =>
    simp only [iv_gi, Bool.and_eq_true] at hg
    obtain ⟨⟨⟨h1, h2⟩, h3⟩, h4⟩ := hg
    obtain rfl := Nat.eq_of_beq_eq_true h1
    simp only [iv_step, Option.some.injEq] at hs
    subst hs
    exact lv_ldcw hx hb hown (hts _ (iv_at_mem h4)) hd (iv_push (v := ivI ec) hR (congrArg Value.int (iv_ofNat32 (of_decide_eq_true h3))) (iv_inb_of h2) kk)
  | ldc2_w idx =>
    simp only [iv_gi, Bool.and_eq_true] at hg
    obtain ⟨⟨⟨h1, h2⟩, h3⟩, h4⟩ := hg
    obtain rfl := Nat.eq_of_beq_eq_true h1
    simp only [iv_step, Option.some.injEq] at hs
    subst hs
    exact lv_ldc2 hx hb hown (hts _ (iv_at_mem h4)) hd (iv_push (v := ivJ ec) hR (congrArg Value.long (iv_ofNat64 (of_decide_eq_true h3))) (iv_ilb_of h2) kk)
  | iload_n k =>
    simp only [iv_gi] at hg
    obtain rfl := Nat.eq_of_beq_eq_true hg
    simp only [iv_step] at hs
    split at hs
    · rename_i x hk
      simp only [Option.some.injEq] at hs
      subst hs
      obtain ⟨h1, h2⟩ := hR.loc (iv_getD hk iv_ne1) iv_ne1
      exact lv_iload_n hx hb hd rfl h1 (iv_push (v := ivI x) hR rfl h2 kk)
    · cases hs
  | iload k =>
    simp only [iv_gi] at hg
    obtain rfl := Nat.eq_of_beq_eq_true hg
    simp only [iv_step] at hs
    split at hs
    · rename_i x hk
      simp only [Option.some.injEq] at hs
      subst hs
      obtain ⟨h1, h2⟩ := hR.loc (iv_getD hk iv_ne1) iv_ne1
      exact lv_iload hx hb hd h1 (iv_push (v := ivI x) hR rfl h2 kk)
    · cases hs
  | lload_n k =>
    simp only [iv_gi] at hg
    obtain rfl := Nat.eq_of_beq_eq_true hg
    simp only [iv_step] at hs
    split at hs
    · rename_i x hk
      simp only [Option.some.injEq] at hs
      subst hs
      obtain ⟨h1, h2⟩ := hR.loc (iv_getD hk iv_ne2) iv_ne2
      exact lv_lload_n hx hb hd rfl h1 (iv_push (v := ivJ x) hR rfl h2 kk)
    · cases hs
  | lload k =>
    simp only [iv_gi] at hg
    obtain rfl := Nat.eq_of_beq_eq_true hg
    simp only [iv_step] at hs
    split at hs
    · rename_i x hk
      simp only [Option.some.injEq] at hs
      subst hs
      obtain ⟨h1, h2⟩ := hR.loc (iv_getD hk iv_ne2) iv_ne2
      exact lv_lload hx hb hd h1 (iv_push (v := ivJ x) hR rfl h2 kk)
    · cases hs
  | aload_n k =>
    simp only [iv_gi] at hg
    obtain rfl := Nat.eq_of_beq_eq_true hg
    simp only [iv_step] at hs
    split at hs
    · rename_i x hk
      simp only [Option.some.injEq] at hs
      subst hs
      exact iv_alo_n hx hb hd hk hR kk
    · cases hs
  | aload k =>
    simp only [iv_gi] at hg
    obtain rfl := Nat.eq_of_beq_eq_true hg
    simp only [iv_step] at hs
    split at hs
    · rename_i x hk
      simp only [Option.some.injEq] at hs
      subst hs
      exact iv_alo hx hb hd hk hR kk
    · cases hs
  | istore_n k =>
    simp only [iv_gi] at hg
    obtain rfl := Nat.eq_of_beq_eq_true hg
    simp only [iv_step] at hs
    split at hs
    · rename_i x st'
      obtain ⟨h1, rfl⟩ := iv_bif hs
      exact iv_sto_n hx hb hd (iv_blt h1) hR kk
    · cases hs
  | istore k =>
    simp only [iv_gi] at hg
    obtain rfl := Nat.eq_of_beq_eq_true hg
    simp only [iv_step] at hs
    split at hs
    · rename_i x st'
      obtain ⟨h1, rfl⟩ := iv_bif hs
      exact iv_sto hx hb hd (iv_blt h1) hR kk
    · cases hs
  | astore_n k =>
    simp only [iv_gi] at hg
    obtain rfl := Nat.eq_of_beq_eq_true hg
    simp only [iv_step] at hs
    split at hs
    · rename_i x st'
      obtain ⟨h1, rfl⟩ := iv_bif hs
      exact iv_asto_n hx hb hd (iv_blt h1) hR kk
    · cases hs
  | astore k =>
    simp only [iv_gi] at hg
    obtain rfl := Nat.eq_of_beq_eq_true hg
    simp only [iv_step] at hs
    split at hs
    · rename_i x st'
      obtain ⟨h1, rfl⟩ := iv_bif hs
      exact iv_asto hx hb hd (iv_blt h1) hR kk
    · cases hs
  | iinc k d =>
    simp only [iv_gi] at hg
    obtain rfl := Nat.eq_of_beq_eq_true hg
    simp only [iv_step] at hs
    split at hs
    · rename_i x hk
      obtain ⟨h1, rfl⟩ := iv_bif hs
      exact iv_s_iinc hx hb hd hk (iv_blt h1) hR kk
    · cases hs
  | iadd =>
    simp only [iv_gi] at hg
    obtain rfl := Nat.eq_of_beq_eq_true hg
    simp only [iv_step] at hs
    split at hs
    · rename_i y x st'
      simp only [Option.some.injEq] at hs
      subst hs
      exact lv_iadd hx hb hd (iv_bin hR (by rw [← Int32.ofInt_add]; exact (iv_wr_of _).symm) (iv_in32 _) kk)
    · cases hs
  | isub =>
    simp only [iv_gi] at hg
    obtain rfl := Nat.eq_of_beq_eq_true hg
    simp only [iv_step] at hs
    split at hs
    · rename_i y x st'
      simp only [Option.some.injEq] at hs
      subst hs
      exact lv_isub hx hb hd (iv_bin hR (by rw [← Int32.ofInt_sub]; exact (iv_wr_of _).symm) (iv_in32 _) kk)
    · cases hs
  | imul =>
    simp only [iv_gi] at hg
    obtain rfl := Nat.eq_of_beq_eq_true hg
    simp only [iv_step] at hs
    split at hs
    · rename_i y x st'
      simp only [Option.some.injEq] at hs
      subst hs
      exact lv_imul hx hb hd (iv_bin hR (by rw [← Int32.ofInt_mul]; exact (iv_wr_of _).symm) (iv_in32 _) kk)
    · cases hs
  | iand =>
    simp only [iv_gi] at hg
    obtain rfl := Nat.eq_of_beq_eq_true hg
    simp only [iv_step] at hs
    split at hs
    · rename_i y x st'
      simp only [Option.some.injEq] at hs
      subst hs
      exact lv_iand hx hb hd (iv_bin hR (iv_back32 _).symm (iv_in32 _) kk)
    · cases hs
  | ior =>
    simp only [iv_gi] at hg
    obtain rfl := Nat.eq_of_beq_eq_true hg
    simp only [iv_step] at hs
    split at hs
    · rename_i y x st'
      simp only [Option.some.injEq] at hs
      subst hs
      exact lv_ior hx hb hd (iv_bin hR (iv_back32 _).symm (iv_in32 _) kk)
    · cases hs
  | ixor =>
    simp only [iv_gi] at hg
    obtain rfl := Nat.eq_of_beq_eq_true hg
    simp only [iv_step] at hs
    split at hs
    · rename_i y x st'
      simp only [Option.some.injEq] at hs
      subst hs
      exact lv_ixor hx hb hd (iv_bin hR (iv_back32 _).symm (iv_in32 _) kk)
    · cases hs
  | ishl =>
    simp only [iv_gi] at hg
    obtain rfl := Nat.eq_of_beq_eq_true hg
    simp only [iv_step] at hs
    split at hs
    · rename_i y x st'
      simp only [Option.some.injEq] at hs
      subst hs
      exact lv_ishl hx hb hd (iv_bin hR (iv_back32 _).symm (iv_in32 _) kk)
    · cases hs
  | ishr =>
    simp only [iv_gi] at hg
    obtain rfl := Nat.eq_of_beq_eq_true hg
    simp only [iv_step] at hs
    split at hs
    · rename_i y x st'
      simp only [Option.some.injEq] at hs
      subst hs
      exact lv_ishr hx hb hd (iv_bin hR (iv_back32 _).symm (iv_in32 _) kk)
    · cases hs
  | iushr =>
    simp only [iv_gi] at hg
    obtain rfl := Nat.eq_of_beq_eq_true hg
    simp only [iv_step] at hs
    split at hs
    · rename_i y x st'
      simp only [Option.some.injEq] at hs
      subst hs
      exact lv_iushr hx hb hd rfl (iv_bin hR (iv_back32 _).symm (iv_in32 _) kk)
    · cases hs
  | idiv =>
    simp only [iv_gi] at hg
    obtain rfl := Nat.eq_of_beq_eq_true hg
    simp only [iv_step] at hs
    split at hs
    · rename_i y x st'
      obtain ⟨h1, rfl⟩ := iv_bifn hs
      have hy : iv_in y := hR.hd
      refine lv_idiv hx hb hd (fun h => ?_) (iv_bin hR (iv_back32 _).symm (iv_in32 _) kk)
      rw [← iv_zero32, iv_eq32 hy iv_in0] at h
      rw [decide_eq_true h] at h1
      cases h1
    · cases hs
  | irem =>
    simp only [iv_gi] at hg
    obtain rfl := Nat.eq_of_beq_eq_true hg
    simp only [iv_step] at hs
    split at hs
    · rename_i y x st'
      obtain ⟨h1, rfl⟩ := iv_bifn hs
      have hy : iv_in y := hR.hd
      refine lv_irem hx hb hd (fun h => ?_) (iv_bin hR (iv_back32 _).symm (iv_in32 _) kk)
      rw [← iv_zero32, iv_eq32 hy iv_in0] at h
      rw [decide_eq_true h] at h1
      cases h1
    · cases hs
  | ineg =>
    simp only [iv_gi] at hg
    obtain rfl := Nat.eq_of_beq_eq_true hg
    simp only [iv_step] at hs
    split at hs
    · rename_i x st'
      simp only [Option.some.injEq] at hs
      subst hs
      exact lv_ineg hx hb hd (iv_push (v := ivI (iv_wr (-x))) hR.tl (congrArg Value.int (by rw [iv_wr_of, Int32.ofInt_neg])) (iv_in32 _) kk)
    · cases hs
  | i2l =>
    simp only [iv_gi] at hg
    obtain rfl := Nat.eq_of_beq_eq_true hg
    simp only [iv_step] at hs
    split at hs
    · rename_i x st'
      simp only [Option.some.injEq] at hs
      subst hs
      have hxx : iv_in x := hR.hd
      exact lv_i2l hx hb hd (iv_i2l hxx) (iv_push (v := ivJ x) hR.tl rfl (iv_in_il hxx) kk)
    · cases hs
  | l2i =>
    simp only [iv_gi] at hg
    obtain rfl := Nat.eq_of_beq_eq_true hg
    simp only [iv_step] at hs
    split at hs
    · rename_i x st'
      simp only [Option.some.injEq] at hs
      subst hs
      exact lv_l2i hx hb hd (iv_l2i x) (iv_push (v := ivI (iv_wr x)) hR.tl (congrArg Value.int (iv_wr_of x).symm) (iv_in32 _) kk)
    · cases hs
  | land =>
    simp only [iv_gi] at hg
    obtain rfl := Nat.eq_of_beq_eq_true hg
    simp only [iv_step] at hs
    split at hs
    · rename_i y x st'
      simp only [Option.some.injEq] at hs
      subst hs
      exact lv_land hx hb hd (iv_push (v := ivJ (iv_land x y)) hR.tl.tl (congrArg Value.long (iv_back64 _).symm) (iv_in64 _) kk)
    · cases hs
  | lor =>
    simp only [iv_gi] at hg
    obtain rfl := Nat.eq_of_beq_eq_true hg
    simp only [iv_step] at hs
    split at hs
    · rename_i y x st'
      simp only [Option.some.injEq] at hs
      subst hs
      exact lv_lor hx hb hd (iv_push (v := ivJ (iv_lor x y)) hR.tl.tl (congrArg Value.long (iv_back64 _).symm) (iv_in64 _) kk)
    · cases hs
  | lshl =>
    simp only [iv_gi] at hg
    obtain rfl := Nat.eq_of_beq_eq_true hg
    simp only [iv_step] at hs
    split at hs
    · rename_i y x st'
      simp only [Option.some.injEq] at hs
      subst hs
      exact lv_lshl hx hb hd rfl (iv_push (v := ivJ (iv_lshl x y)) hR.tl.tl (congrArg Value.long (iv_back64 _).symm) (iv_in64 _) kk)
    · cases hs
  | lshr =>
    simp only [iv_gi] at hg
    obtain rfl := Nat.eq_of_beq_eq_true hg
    simp only [iv_step] at hs
    split at hs
    · rename_i y x st'
      simp only [Option.some.injEq] at hs
      subst hs
      exact lv_lshr hx hb hd rfl (iv_push (v := ivJ (iv_lshr x y)) hR.tl.tl (congrArg Value.long (iv_back64 _).symm) (iv_in64 _) kk)
    · cases hs
  | lushr =>
    simp only [iv_gi] at hg
    obtain rfl := Nat.eq_of_beq_eq_true hg
    simp only [iv_step] at hs
    split at hs
    · rename_i y x st'
      simp only [Option.some.injEq] at hs
      subst hs
      exact lv_lushr hx hb hd rfl (iv_push (v := ivJ (iv_lushr x y)) hR.tl.tl (congrArg Value.long (iv_back64 _).symm) (iv_in64 _) kk)
    · cases hs
  | lcmp =>
    simp only [iv_gi] at hg
    obtain rfl := Nat.eq_of_beq_eq_true hg
    simp only [iv_step] at hs
    split at hs
    · rename_i y x st'
      simp only [Option.some.injEq] at hs
      subst hs
      have hy : iv_il y := hR.hd
      have hxx : iv_il x := hR.hd2
      obtain ⟨h1, h2⟩ := iv_lcmp_of hxx hy
      exact W.lcmp hx hb hd (iv_push (v := ivI (iv_lcmp x y)) hR.tl.tl (congrArg Value.int h1) h2 kk)
    · cases hs
  | dup =>
    simp only [iv_gi] at hg
    obtain rfl := Nat.eq_of_beq_eq_true hg
    simp only [iv_step] at hs
    split at hs
    · rename_i v st'
      obtain ⟨h1, rfl⟩ := iv_bif hs
      exact lv_dup hx hb hd (iv_c1_cat h1) (kk la H locs cells slots (hR.cons hR.hd))
    · cases hs
  | dup2 =>
    simp only [iv_gi] at hg
    obtain rfl := Nat.eq_of_beq_eq_true hg
    simp only [iv_step] at hs
    split at hs
    · rename_i v u st'
      obtain ⟨h1, rfl⟩ := iv_bif hs
      rw [Bool.and_eq_true] at h1
      exact lv_dup2_11 hx hb hd (iv_c1_cat h1.1) (iv_c1_cat h1.2) (kk la H locs cells slots ((hR.cons hR.hd2).cons hR.hd))
    · cases hs
  | pop =>
    simp only [iv_gi] at hg
    obtain rfl := Nat.eq_of_beq_eq_true hg
    simp only [iv_step] at hs
    split at hs
    · rename_i v st'
      obtain ⟨h1, rfl⟩ := iv_bif hs
      exact lv_pop hx hb hd (iv_c1_cat h1) (kk la H locs cells slots hR.tl)
    · cases hs
  | aconst_null =>
    simp only [iv_gi] at hg
    obtain rfl := Nat.eq_of_beq_eq_true hg
    simp only [iv_step, Option.some.injEq] at hs
    subst hs
    exact lv_null hx hb hd (kk la H locs cells slots (hR.cons (v := ivR 0) (Nat.zero_le _)))
  | goto o =>
    simp only [iv_gi, Bool.and_eq_true] at hg
    obtain rfl := Nat.eq_of_beq_eq_true hg.1
    rw [hep] at hg
    simp only [iv_step, Option.some.injEq] at hs
    subst hs
    exact lv_goto hx hb hd (iv_tgt hg.2) (kk la H locs cells slots hR)
  | if_icmp cn o =>
    simp only [iv_gi, Bool.and_eq_true] at hg
    obtain rfl := Nat.eq_of_beq_eq_true hg.1
    rw [hep] at hg
    simp only [iv_step] at hs
    split at hs
    · rename_i y x st'
      simp only [Option.some.injEq] at hs
      subst hs
      exact iv_s_icmp hx hb hd hg.2 hR kk
    · cases hs
  | ifCond cn o =>
    simp only [iv_gi, Bool.and_eq_true] at hg
    obtain rfl := Nat.eq_of_beq_eq_true hg.1
    rw [hep] at hg
    simp only [iv_step] at hs
    split at hs
    · rename_i x st'
      simp only [Option.some.injEq] at hs
      subst hs
      exact iv_s_if hx hb hd hg.2 hR kk
    · cases hs
  | ifnull o =>
    simp only [iv_gi, Bool.and_eq_true] at hg
    obtain rfl := Nat.eq_of_beq_eq_true hg.1
    rw [hep] at hg
    simp only [iv_step] at hs
    split at hs
    · rename_i x st'
      simp only [Option.some.injEq] at hs
      subst hs
      exact iv_s_null hx hb hd hg.2 hR kk
    · cases hs
  | ifnonnull o =>
    simp only [iv_gi, Bool.and_eq_true] at hg
    obtain rfl := Nat.eq_of_beq_eq_true hg.1
    rw [hep] at hg
    simp only [iv_step] at hs
    split at hs
    · rename_i x st'
      simp only [Option.some.injEq] at hs
      subst hs
      exact iv_s_nonnull hx hb hd hg.2 hR kk
    · cases hs
  | tableswitch d lo hi os =>
    simp only [iv_gi, Bool.and_eq_true] at hg
    rw [hep] at hg
    simp only [iv_step] at hs
    split at hs
    · rename_i x st'
      simp only [Option.some.injEq] at hs
      subst hs
      exact iv_s_table hx hb hd hg.1 hg.2.1 (of_decide_eq_true hg.2.2) hR kk
    · cases hs
  | lookupswitch d ps =>
    simp only [iv_gi, Bool.and_eq_true] at hg
    rw [hep] at hg
    simp only [iv_step] at hs
    split at hs
    · rename_i x st'
      simp only [Option.some.injEq] at hs
      subst hs
      exact iv_s_lookup hx hb hd hg.1 hg.2.1 hg.2.2 hR kk
    · cases hs
  | getfield idx =>
    simp only [iv_gi, Bool.and_eq_true] at hg
    obtain rfl := Nat.eq_of_beq_eq_true hg.1
    simp only [iv_step] at hs
    split at hs
    · rename_i x st'
      obtain ⟨h1, rfl⟩ := iv_bif hs
      simp only [Bool.and_eq_true] at h1
      exact iv_s_get hx hb hown hts hd hg.2 (Nat.eq_of_beq_eq_true h1.1.1) (Nat.eq_of_beq_eq_true h1.1.2) (Nat.le_of_ble_eq_true h1.2) hR kk
    · cases hs
  | putfield idx =>
    simp only [iv_gi, Bool.and_eq_true] at hg
    obtain rfl := Nat.eq_of_beq_eq_true hg.1
    simp only [iv_step] at hs
    split at hs
    · rename_i v x st'
      obtain ⟨h1, rfl⟩ := iv_bif hs
      simp only [Bool.and_eq_true] at h1
      exact iv_s_putI hx hb hown hts hname hd hg.2.1 hg.2.2 (Nat.eq_of_beq_eq_true h1.1.1.1) (Nat.eq_of_beq_eq_true h1.1.1.2) (Nat.le_of_ble_eq_true h1.1.2) h1.2 hR kk
    · rename_i y x st'
      obtain ⟨h1, rfl⟩ := iv_bif hs
      simp only [Bool.and_eq_true] at h1
      exact iv_s_putR hx hb hown hts hname hd hg.2.1 hg.2.2 (Nat.eq_of_beq_eq_true h1.1.1.1) (Nat.eq_of_beq_eq_true h1.1.1.2) (Nat.le_of_ble_eq_true h1.1.2) (Nat.le_of_ble_eq_true h1.2) hR kk
    · cases hs
  | iaload =>
    simp only [iv_gi] at hg
    obtain rfl := Nat.eq_of_beq_eq_true hg
    simp only [iv_step] at hs
    split at hs
    · rename_i i x st'
      obtain ⟨h1, rfl⟩ := iv_bif hs
      simp only [Bool.and_eq_true, decide_eq_true_eq] at h1
      exact iv_s_iald hx hb hd (Nat.eq_of_beq_eq_true h1.1.1.1) (Nat.eq_of_beq_eq_true h1.1.1.2) (Nat.le_of_ble_eq_true h1.1.2) h1.2.1 h1.2.2 hR kk
    · cases hs
  | baload =>
    simp only [iv_gi] at hg
    obtain rfl := Nat.eq_of_beq_eq_true hg
    simp only [iv_step] at hs
    split at hs
    · rename_i i x st'
      obtain ⟨h1, rfl⟩ := iv_bif hs
      simp only [Bool.and_eq_true, decide_eq_true_eq] at h1
      exact iv_s_bald hx hb hd (Nat.eq_of_beq_eq_true h1.1.1.1) (Nat.eq_of_beq_eq_true h1.1.1.2) (Nat.le_of_ble_eq_true h1.1.2) h1.2.1 h1.2.2 hR kk
    · cases hs
  | aaload =>
    simp only [iv_gi] at hg
    obtain rfl := Nat.eq_of_beq_eq_true hg
    simp only [iv_step] at hs
    split at hs
    · rename_i i x st'
      obtain ⟨h1, rfl⟩ := iv_bif hs
      simp only [Bool.and_eq_true, decide_eq_true_eq] at h1
      exact iv_s_aald hx hb hd (Nat.eq_of_beq_eq_true h1.1.1.1) (Nat.le_of_ble_eq_true h1.1.1.2) (Nat.le_of_ble_eq_true h1.1.2) h1.2.1 h1.2.2 hR kk
    · cases hs
  | iastore =>
    simp only [iv_gi] at hg
    obtain rfl := Nat.eq_of_beq_eq_true hg
    simp only [iv_step] at hs
    split at hs
    · rename_i v i x st'
      obtain ⟨h1, rfl⟩ := iv_bif hs
      simp only [Bool.and_eq_true, decide_eq_true_eq] at h1
      exact iv_s_iast hx hb hd (Nat.le_of_ble_eq_true h1.1.1.1.1) (Nat.eq_of_beq_eq_true h1.1.1.1.2) (Nat.eq_of_beq_eq_true h1.1.1.2) (Nat.le_of_ble_eq_true h1.1.2) h1.2.1 h1.2.2 hR kk
    · cases hs
  | bastore =>
    simp only [iv_gi] at hg
    obtain rfl := Nat.eq_of_beq_eq_true hg
    simp only [iv_step] at hs
    split at hs
    · rename_i v i x st'
      obtain ⟨h1, rfl⟩ := iv_bif hs
      simp only [Bool.and_eq_true, decide_eq_true_eq] at h1
      exact iv_s_bast hx hb hd (Nat.le_of_ble_eq_true h1.1.1.1.1) (Nat.eq_of_beq_eq_true h1.1.1.1.2) (Nat.eq_of_beq_eq_true h1.1.1.2) (Nat.le_of_ble_eq_true h1.1.2) h1.2.1 h1.2.2 hR kk
    · cases hs
  | aastore =>
    simp only [iv_gi] at hg
    obtain rfl := Nat.eq_of_beq_eq_true hg
    simp only [iv_step] at hs
    split at hs
    · rename_i y i x st'
      obtain ⟨h1, rfl⟩ := iv_bif hs
      simp only [Bool.and_eq_true, Bool.or_eq_true, decide_eq_true_eq] at h1
      exact iv_s_aast hx hb hd (Nat.le_of_ble_eq_true h1.1.1.1.1.1) (Nat.eq_of_beq_eq_true h1.1.1.1.1.2) (h1.1.1.1.2.imp Nat.eq_of_beq_eq_true Nat.eq_of_beq_eq_true) (Nat.le_of_ble_eq_true h1.1.1.2) h1.1.2.1 h1.1.2.2 (Nat.eq_of_beq_eq_true h1.2.1.1) (Nat.eq_of_beq_eq_true h1.2.1.2) (Nat.le_of_ble_eq_true h1.2.2) hR kk
    · cases hs
  | arraylength =>
    simp only [iv_gi] at hg
    obtain rfl := Nat.eq_of_beq_eq_true hg
    simp only [iv_step] at hs
    split at hs
    · rename_i x st'
      obtain ⟨h1, rfl⟩ := iv_bif hs
      simp only [Bool.and_eq_true] at h1
      exact iv_s_alen hx hb hd hL (Nat.eq_of_beq_eq_true h1.1.1) (Nat.eq_of_beq_eq_true h1.1.2) (Nat.le_of_ble_eq_true h1.2) hR kk
    · cases hs
  | new idx =>
    simp only [iv_gi, Bool.and_eq_true] at hg
    obtain rfl := Nat.eq_of_beq_eq_true hg.1
    have hg2 := hg.2
    split at hg2
    · rename_i q hq
      simp only [iv_step] at hs
      obtain ⟨h1, rfl⟩ := iv_bif hs
      simp only [Bool.and_eq_true] at h1
      exact iv_s_new (ee := (ep, .new idx, 3, ea, eb, ec, ew)) hx hb hown hts hd hq (iv_at_mem hg2) (Nat.eq_of_beq_eq_true h1.1) (Nat.eq_of_beq_eq_true h1.2) hgc hgs hR kk
    · cases hg2
  | newarray t =>
    simp only [iv_gi, Bool.and_eq_true] at hg
    obtain rfl := Nat.eq_of_beq_eq_true hg.1
    simp only [iv_step] at hs
    split at hs
    · rename_i x st'
      obtain ⟨h1, rfl⟩ := iv_bif hs
      simp only [Bool.and_eq_true, decide_eq_true_eq] at h1
      have ht : ea = 0 ∧ t = .int ∨ ea = 1 ∧ t = .boolean := by
        have hg2 := hg.2
        by_cases e0 : ea = 0
        · subst e0
          exact Or.inl ⟨rfl, of_decide_eq_true hg2⟩
        · rw [iv_nbeq e0, cond_false, Bool.and_eq_true] at hg2
          exact Or.inr ⟨Nat.eq_of_beq_eq_true hg2.1, of_decide_eq_true hg2.2⟩
      have hw1 := hR.1.1
      exact iv_s_newarr (ee := (ep, .newarray t, 2, ea, eb, ec, ew)) hx hb hts hd ht (by omega) (Nat.eq_of_beq_eq_true h1.1.1) (Nat.eq_of_beq_eq_true h1.1.2) h1.2 hgc hgs hR kk
    · cases hs
  | anewarray idx =>
    simp only [iv_gi, Bool.and_eq_true] at hg
    obtain rfl := Nat.eq_of_beq_eq_true hg.1
    simp only [iv_step] at hs
    split at hs
    · rename_i x st'
      obtain ⟨h1, rfl⟩ := iv_bif hs
      simp only [Bool.and_eq_true, decide_eq_true_eq] at h1
      have hw1 := hR.1.1
      have hg2 := hg.2
      by_cases e0 : ea = 2
      · subst e0
        exact iv_s_anew (C := "OnlyNamed$Memory") (k := 2) hx hb hown hd (hts _ (iv_memA (by rfl) (iv_at_mem hg2))) hT.2.1 (Or.inl rfl) rfl (by omega) (Nat.eq_of_beq_eq_true h1.1.1) (Nat.eq_of_beq_eq_true h1.1.2) h1.2 hgc hgs hR kk
      · rw [iv_nbeq e0, cond_false, Bool.and_eq_true] at hg2
        obtain rfl := Nat.eq_of_beq_eq_true hg2.1
        exact iv_s_anew (C := "OnlyNamed$Ruler") (k := 3) hx hb hown hd (hts _ (iv_memA (by rfl) (iv_at_mem hg2.2))) hT.2.2.1 (Or.inr rfl) rfl (by omega) (Nat.eq_of_beq_eq_true h1.1.1) (Nat.eq_of_beq_eq_true h1.1.2) h1.2 hgc hgs hR kk
    · cases hs
  | multianewarray idx k =>
    simp only [iv_gi, Bool.and_eq_true] at hg
    obtain rfl := Nat.eq_of_beq_eq_true hg.1
    obtain rfl := Nat.eq_of_beq_eq_true hg.2.1
    simp only [iv_step] at hs
    split at hs
    · rename_i y x st'
      obtain ⟨h1, rfl⟩ := iv_bif hs
      simp only [Bool.and_eq_true, decide_eq_true_eq] at h1
      obtain ⟨⟨rfl, rfl⟩, h6⟩ := h1
      exact iv_s_mna hx hb hown hts hd (hts _ (iv_memA (by rfl) (iv_at_mem hg.2.2))) hT.2.2.2 h6 hgc hgs hR kk
    · cases hs
  | _ => exact absurd hs (by simp [iv_step])
end IVS
