/-! ONE STEP, over the machine: instructions that leave the heap -/
section IVS
variable {p : Program} {l : Launch} {e : Env} {R : Room} {s : State} {m : MethodId} {args : Array Value} {below : List Frame} {meth : Method} {c : Code} {Q : State → Prop}
variable {D : va_G} {dA : Nat → ClassId} {L b B0 n0 mi : Nat} {H : Heap} {w : ivS} {la : Array Slot} {ls st : List ivV} {locs : List Loc} {cells slots : Nat}
/-- the goal at a place of the walk -/
def iv_G (p : Program) (l : Launch) (e : Env) (R : Room) (s : State) (m : MethodId) (args : Array Value) (below : List Frame) (meth : Method) (c : Code) (Q : State → Prop) (b B0 : Nat) (H : Heap) (locs : List Loc) (cells slots pc : Nat) (la : Array Slot) (st : List ivV) : Prop :=
  W p l e R s m args below meth c H locs cells slots Q (F0 m pc la (st.map (iv_cv b B0)))
/-- what goes on behind a step -/
def iv_KK (p : Program) (l : Launch) (e : Env) (R : Room) (s : State) (m : MethodId) (args : Array Value) (below : List Frame) (meth : Method) (c : Code) (Q : State → Prop) (D : va_G) (dA : Nat → ClassId) (L b B0 n0 mi : Nat) (g : Nat × List ivV × List ivV × ivS) : Prop :=
  ∀ (la' : Array Slot) (H' : Heap) (locs' : List Loc) (cells' slots' : Nat), iv_Rel D dA L b B0 n0 (iv_ml mi) s H' g.2.2.2 la' g.2.1 g.2.2.1 locs' cells' slots' → iv_G p l e R s m args below meth c Q b B0 H' locs' cells' slots' g.1 la' g.2.2.1
theorem iv_bin {x y z : Int} {pc : Nat} (hR : iv_Rel D dA L b B0 n0 (iv_ml mi) s H w la ls (ivI y :: ivI x :: st) locs cells slots) {v : Int32} (hv : v = Int32.ofInt z) (hz : iv_in z) (kk : iv_KK p l e R s m args below meth c Q D dA L b B0 n0 mi (pc, ls, ivI z :: st, w)) :
    W p l e R s m args below meth c H locs cells slots Q (F0 m pc la (.int v :: st.map (iv_cv b B0))) := by
  subst hv
  exact kk la H locs cells slots (hR.tl.tl.cons hz)
theorem iv_push {v : ivV} {pc : Nat} (hR : iv_Rel D dA L b B0 n0 (iv_ml mi) s H w la ls st locs cells slots) {u : Value} (hu : u = iv_cv b B0 v) (hv : iv_ok w.1 v) (kk : iv_KK p l e R s m args below meth c Q D dA L b B0 n0 mi (pc, ls, v :: st, w)) :
    W p l e R s m args below meth c H locs cells slots Q (F0 m pc la (u :: st.map (iv_cv b B0))) := by
  subst hu
  exact kk la H locs cells slots (hR.cons hv)
theorem iv_ne1 {x : Int} : ivI x ≠ ivU := fun h => by cases h
theorem iv_ne2 {x : Int} : ivJ x ≠ ivU := fun h => by cases h
theorem iv_ne3 {x : Nat} : ivR x ≠ ivU := fun h => by cases h
theorem iv_tgt {pc : Nat} {o : Int} (h : iv_tg pc o = true) : (pc : Int) + o = (((pc : Int) + o).toNat : Int) := by
  have := of_decide_eq_true h
  omega
theorem iv_inb_of {x : Int} (h : iv_inb x = true) : iv_in x := by
  unfold iv_inb at h
  rw [Bool.and_eq_true, decide_eq_true_eq, decide_eq_true_eq] at h
  exact h
theorem iv_ilb_of {x : Int} (h : iv_ilb x = true) : iv_il x := by
  unfold iv_ilb at h
  rw [Bool.and_eq_true, decide_eq_true_eq, decide_eq_true_eq] at h
  exact h
/-- jumps that compare -/
theorem iv_jmp {pc tgt : Nat} {P : Prop} {bb : Bool} (hR : iv_Rel D dA L b B0 n0 (iv_ml mi) s H w la ls st locs cells slots) (hP : bb = true ↔ P) (kk : iv_KK p l e R s m args below meth c Q D dA L b B0 n0 mi (bif bb then tgt else pc, ls, st, w)) :
    (P → W p l e R s m args below meth c H locs cells slots Q (F0 m tgt la (st.map (iv_cv b B0)))) ∧ (¬ P → W p l e R s m args below meth c H locs cells slots Q (F0 m pc la (st.map (iv_cv b B0)))) := by
  refine ⟨fun h => ?_, fun h => ?_⟩
  · rw [hP.mpr h] at kk
    exact kk la H locs cells slots hR
  · rw [show bb = false from by cases hb : bb; rfl; exact absurd (hP.mp hb) h] at kk
    exact kk la H locs cells slots hR
theorem iv_s_icmp {pc : Nat} {cn : Jvm.ClassFile.Cond} {o x y : Int} (hx : p.tables.exec = Jvm.exec) (hb : c.code = iv_cd mi) (hd : decode (iv_cd mi) pc = .ok (.if_icmp cn o, 3)) (ht : iv_tg pc o = true)
    (hR : iv_Rel D dA L b B0 n0 (iv_ml mi) s H w la ls (ivI y :: ivI x :: st) locs cells slots) (kk : iv_KK p l e R s m args below meth c Q D dA L b B0 n0 mi (bif iv_cmp cn x y then ((pc : Int) + o).toNat else pc + 3, ls, st, w)) :
    iv_G p l e R s m args below meth c Q b B0 H locs cells slots pc la (ivI y :: ivI x :: st) := by
  have hy : iv_in y := hR.hd
  have hxx : iv_in x := hR.hd2
  have ht := iv_tgt ht
  cases cn
  · obtain ⟨k1, k2⟩ := iv_jmp hR.tl.tl (P := Int32.ofInt x = Int32.ofInt y) (by rw [iv_eq32 hxx hy]; exact decide_eq_true_iff) kk
    exact lv_icmp_eq hx hb hd ht k1 k2
  · obtain ⟨k1, k2⟩ := iv_jmp hR.tl.tl (P := ¬ Int32.ofInt x = Int32.ofInt y) (by rw [iv_eq32 hxx hy]; exact decide_eq_true_iff) kk
    exact lv_icmp_ne hx hb hd ht k1 (fun h => k2 fun q => q h)
  · obtain ⟨k1, k2⟩ := iv_jmp hR.tl.tl (P := Int32.ofInt x < Int32.ofInt y) (by rw [iv_lt32 hxx hy]; exact decide_eq_true_iff) kk
    exact lv_icmp_lt hx hb hd ht k1 k2
  · obtain ⟨k1, k2⟩ := iv_jmp hR.tl.tl (P := Int32.ofInt y ≤ Int32.ofInt x) (by rw [iv_le32 hy hxx]; exact decide_eq_true_iff) kk
    exact lv_icmp_ge hx hb hd ht k1 k2
  · obtain ⟨k1, k2⟩ := iv_jmp hR.tl.tl (P := Int32.ofInt y < Int32.ofInt x) (by rw [iv_lt32 hy hxx]; exact decide_eq_true_iff) kk
    exact lv_icmp_gt hx hb hd ht k1 k2
  · obtain ⟨k1, k2⟩ := iv_jmp hR.tl.tl (P := Int32.ofInt x ≤ Int32.ofInt y) (by rw [iv_le32 hxx hy]; exact decide_eq_true_iff) kk
    exact lv_icmp_le hx hb hd ht k1 k2
theorem iv_s_if {pc : Nat} {cn : Jvm.ClassFile.Cond} {o x : Int} (hx : p.tables.exec = Jvm.exec) (hb : c.code = iv_cd mi) (hd : decode (iv_cd mi) pc = .ok (.ifCond cn o, 3)) (ht : iv_tg pc o = true)
    (hR : iv_Rel D dA L b B0 n0 (iv_ml mi) s H w la ls (ivI x :: st) locs cells slots) (kk : iv_KK p l e R s m args below meth c Q D dA L b B0 n0 mi (bif iv_cmp cn x 0 then ((pc : Int) + o).toNat else pc + 3, ls, st, w)) :
    iv_G p l e R s m args below meth c Q b B0 H locs cells slots pc la (ivI x :: st) := by
  have hy : iv_in 0 := iv_in0
  have hxx : iv_in x := hR.hd
  have ht := iv_tgt ht
  cases cn
  · obtain ⟨k1, k2⟩ := iv_jmp hR.tl (P := Int32.ofInt x = Int32.ofInt 0) (by rw [iv_eq32 hxx hy]; exact decide_eq_true_iff) kk
    exact lv_if_eq hx hb hd ht k1 k2
  · obtain ⟨k1, k2⟩ := iv_jmp hR.tl (P := ¬ Int32.ofInt x = Int32.ofInt 0) (by rw [iv_eq32 hxx hy]; exact decide_eq_true_iff) kk
    exact lv_if_ne hx hb hd ht k1 (fun h => k2 fun q => q h)
  · obtain ⟨k1, k2⟩ := iv_jmp hR.tl (P := Int32.ofInt x < Int32.ofInt 0) (by rw [iv_lt32 hxx hy]; exact decide_eq_true_iff) kk
    exact lv_if_lt hx hb hd ht k1 k2
  · obtain ⟨k1, k2⟩ := iv_jmp hR.tl (P := Int32.ofInt 0 ≤ Int32.ofInt x) (by rw [iv_le32 hy hxx]; exact decide_eq_true_iff) kk
    exact lv_if_ge hx hb hd ht k1 k2
  · obtain ⟨k1, k2⟩ := iv_jmp hR.tl (P := Int32.ofInt 0 < Int32.ofInt x) (by rw [iv_lt32 hy hxx]; exact decide_eq_true_iff) kk
    exact lv_if_gt hx hb hd ht k1 k2
  · obtain ⟨k1, k2⟩ := iv_jmp hR.tl (P := Int32.ofInt x ≤ Int32.ofInt 0) (by rw [iv_le32 hxx hy]; exact decide_eq_true_iff) kk
    exact lv_if_le hx hb hd ht k1 k2
theorem iv_s_null {pc x : Nat} {o : Int} (hx : p.tables.exec = Jvm.exec) (hb : c.code = iv_cd mi) (hd : decode (iv_cd mi) pc = .ok (.ifnull o, 3)) (ht : iv_tg pc o = true)
    (hR : iv_Rel D dA L b B0 n0 (iv_ml mi) s H w la ls (ivR x :: st) locs cells slots) (kk : iv_KK p l e R s m args below meth c Q D dA L b B0 n0 mi (bif Nat.beq x 0 then ((pc : Int) + o).toNat else pc + 3, ls, st, w)) :
    iv_G p l e R s m args below meth c Q b B0 H locs cells slots pc la (ivR x :: st) := by
  have ht := iv_tgt ht
  by_cases h : x = 0
  · subst h
    exact lv_ifnullN hx hb hd ht (kk la H locs cells slots hR.tl)
  · rw [iv_nbeq h] at kk
    show W p l e R s m args below meth c H locs cells slots Q (F0 m pc la (iv_rv b B0 x :: _))
    rw [iv_rv_ne h]
    exact lv_ifnull hx hb hd (kk la H locs cells slots hR.tl)
theorem iv_s_nonnull {pc x : Nat} {o : Int} (hx : p.tables.exec = Jvm.exec) (hb : c.code = iv_cd mi) (hd : decode (iv_cd mi) pc = .ok (.ifnonnull o, 3)) (ht : iv_tg pc o = true)
    (hR : iv_Rel D dA L b B0 n0 (iv_ml mi) s H w la ls (ivR x :: st) locs cells slots) (kk : iv_KK p l e R s m args below meth c Q D dA L b B0 n0 mi (bif Nat.beq x 0 then pc + 3 else ((pc : Int) + o).toNat, ls, st, w)) :
    iv_G p l e R s m args below meth c Q b B0 H locs cells slots pc la (ivR x :: st) := by
  have ht := iv_tgt ht
  by_cases h : x = 0
  · subst h
    exact lv_ifnonnullN hx hb hd (kk la H locs cells slots hR.tl)
  · rw [iv_nbeq h] at kk
    show W p l e R s m args below meth c H locs cells slots Q (F0 m pc la (iv_rv b B0 x :: _))
    rw [iv_rv_ne h]
    exact lv_ifnonnull hx hb hd ht (kk la H locs cells slots hR.tl)
/-- stores into the locals -/
theorem iv_sto_n {pc : Nat} {k : Fin 4} {x : Int} (hx : p.tables.exec = Jvm.exec) (hb : c.code = iv_cd mi) (hd : decode (iv_cd mi) pc = .ok (.istore_n k, 1)) (hk : k.val < ls.length)
    (hR : iv_Rel D dA L b B0 n0 (iv_ml mi) s H w la ls (ivI x :: st) locs cells slots) (kk : iv_KK p l e R s m args below meth c Q D dA L b B0 n0 mi (pc + 1, (iv_unl ls k.val).set k.val (ivI x), st, w)) :
    iv_G p l e R s m args below meth c Q b B0 H locs cells slots pc la (ivI x :: st) :=
  lv_istore_n hx hb hd rfl hR.2.1.has (by rw [← hR.2.1.1]; exact hk) rfl fun la' h' => kk la' H locs cells slots (hR.tl.setl (v := ivI x) hk hR.hd h')
theorem iv_sto {pc k : Nat} {x : Int} (hx : p.tables.exec = Jvm.exec) (hb : c.code = iv_cd mi) (hd : decode (iv_cd mi) pc = .ok (.istore k, 2)) (hk : k < ls.length)
    (hR : iv_Rel D dA L b B0 n0 (iv_ml mi) s H w la ls (ivI x :: st) locs cells slots) (kk : iv_KK p l e R s m args below meth c Q D dA L b B0 n0 mi (pc + 2, (iv_unl ls k).set k (ivI x), st, w)) :
    iv_G p l e R s m args below meth c Q b B0 H locs cells slots pc la (ivI x :: st) :=
  lv_istore hx hb hd hR.2.1.has (by rw [← hR.2.1.1]; exact hk) rfl fun la' h' => kk la' H locs cells slots (hR.tl.setl (v := ivI x) hk hR.hd h')
theorem iv_asto_n {pc x : Nat} {k : Fin 4} (hx : p.tables.exec = Jvm.exec) (hb : c.code = iv_cd mi) (hd : decode (iv_cd mi) pc = .ok (.astore_n k, 1)) (hk : k.val < ls.length)
    (hR : iv_Rel D dA L b B0 n0 (iv_ml mi) s H w la ls (ivR x :: st) locs cells slots) (kk : iv_KK p l e R s m args below meth c Q D dA L b B0 n0 mi (pc + 1, (iv_unl ls k.val).set k.val (ivR x), st, w)) :
    iv_G p l e R s m args below meth c Q b B0 H locs cells slots pc la (ivR x :: st) := by
  by_cases h : x = 0
  · subst h
    exact lv_astore_nN hx hb hd rfl hR.2.1.has (by rw [← hR.2.1.1]; exact hk) rfl fun la' h' => kk la' H locs cells slots (hR.tl.setl (v := ivR 0) hk hR.hd h')
  · show W p l e R s m args below meth c H locs cells slots Q (F0 m pc la (iv_rv b B0 x :: _))
    rw [iv_rv_ne h]
    exact lv_astore_n hx hb hd rfl hR.2.1.has (by rw [← hR.2.1.1]; exact hk) rfl fun la' h' => kk la' H locs cells slots (hR.tl.setl (v := ivR x) hk hR.hd (by rw [show iv_cv b B0 (ivR x) = .ref (iv_ad b B0 x) from iv_rv_ne h]; exact h'))
theorem iv_asto {pc x k : Nat} (hx : p.tables.exec = Jvm.exec) (hb : c.code = iv_cd mi) (hd : decode (iv_cd mi) pc = .ok (.astore k, 2)) (hk : k < ls.length)
    (hR : iv_Rel D dA L b B0 n0 (iv_ml mi) s H w la ls (ivR x :: st) locs cells slots) (kk : iv_KK p l e R s m args below meth c Q D dA L b B0 n0 mi (pc + 2, (iv_unl ls k).set k (ivR x), st, w)) :
    iv_G p l e R s m args below meth c Q b B0 H locs cells slots pc la (ivR x :: st) := by
  by_cases h : x = 0
  · subst h
    exact lv_astoreN hx hb hd hR.2.1.has (by rw [← hR.2.1.1]; exact hk) rfl fun la' h' => kk la' H locs cells slots (hR.tl.setl (v := ivR 0) hk hR.hd h')
  · show W p l e R s m args below meth c H locs cells slots Q (F0 m pc la (iv_rv b B0 x :: _))
    rw [iv_rv_ne h]
    exact lv_astore hx hb hd hR.2.1.has (by rw [← hR.2.1.1]; exact hk) rfl fun la' h' => kk la' H locs cells slots (hR.tl.setl (v := ivR x) hk hR.hd (by rw [show iv_cv b B0 (ivR x) = .ref (iv_ad b B0 x) from iv_rv_ne h]; exact h'))
theorem iv_alo_n {pc x : Nat} {k : Fin 4} (hx : p.tables.exec = Jvm.exec) (hb : c.code = iv_cd mi) (hd : decode (iv_cd mi) pc = .ok (.aload_n k, 1)) (hk : ls.getD k.val ivU = ivR x)
    (hR : iv_Rel D dA L b B0 n0 (iv_ml mi) s H w la ls st locs cells slots) (kk : iv_KK p l e R s m args below meth c Q D dA L b B0 n0 mi (pc + 1, ls, ivR x :: st, w)) :
    iv_G p l e R s m args below meth c Q b B0 H locs cells slots pc la st := by
  obtain ⟨h1, h2⟩ := hR.loc (iv_getD hk iv_ne3) iv_ne3
  by_cases h : x = 0
  · subst h
    exact lv_aload_nN hx hb hd rfl h1 (kk la H locs cells slots (hR.cons h2))
  · rw [show iv_cv b B0 (ivR x) = .ref (iv_ad b B0 x) from iv_rv_ne h] at h1
    refine lv_aload_n hx hb hd rfl h1 ?_
    rw [← iv_rv_ne h]
    exact kk la H locs cells slots (hR.cons h2)
theorem iv_alo {pc x k : Nat} (hx : p.tables.exec = Jvm.exec) (hb : c.code = iv_cd mi) (hd : decode (iv_cd mi) pc = .ok (.aload k, 2)) (hk : ls.getD k ivU = ivR x)
    (hR : iv_Rel D dA L b B0 n0 (iv_ml mi) s H w la ls st locs cells slots) (kk : iv_KK p l e R s m args below meth c Q D dA L b B0 n0 mi (pc + 2, ls, ivR x :: st, w)) :
    iv_G p l e R s m args below meth c Q b B0 H locs cells slots pc la st := by
  obtain ⟨h1, h2⟩ := hR.loc (iv_getD hk iv_ne3) iv_ne3
  by_cases h : x = 0
  · subst h
    exact lv_aloadN hx hb hd h1 (kk la H locs cells slots (hR.cons h2))
  · rw [show iv_cv b B0 (ivR x) = .ref (iv_ad b B0 x) from iv_rv_ne h] at h1
    refine lv_aload hx hb hd h1 ?_
    rw [← iv_rv_ne h]
    exact kk la H locs cells slots (hR.cons h2)
theorem iv_s_iinc {pc k : Nat} {d x : Int} (hx : p.tables.exec = Jvm.exec) (hb : c.code = iv_cd mi) (hd : decode (iv_cd mi) pc = .ok (.iinc k d, 3)) (hk : ls.getD k ivU = ivI x) (hlt : k < ls.length)
    (hR : iv_Rel D dA L b B0 n0 (iv_ml mi) s H w la ls st locs cells slots) (kk : iv_KK p l e R s m args below meth c Q D dA L b B0 n0 mi (pc + 3, (iv_unl ls k).set k (ivI (iv_wr (x + d))), st, w)) :
    iv_G p l e R s m args below meth c Q b B0 H locs cells slots pc la st := by
  obtain ⟨j, hj⟩ := List.getElem?_of_mem (iv_ll_mem (b := b) (B0 := B0) (iv_getD hk iv_ne1) iv_ne1)
  refine lv_iinc (v := Int32.ofInt (iv_wr (x + d))) hx hb hd hR.2.1.has hj (by rw [iv_wr_of, Int32.ofInt_add]) (by rw [← hR.2.1.1]; exact hlt) rfl fun la' h' => kk la' H locs cells slots (hR.setl (v := ivI (iv_wr (x + d))) hlt (iv_in32 _) h')
/-- switches -/
theorem iv_s_table {pc len : Nat} {d lo hi x : Int} {os : Array Int} (hx : p.tables.exec = Jvm.exec) (hb : c.code = iv_cd mi) (hd : decode (iv_cd mi) pc = .ok (.tableswitch d lo hi os, len)) (ht : iv_tg pc d = true) (hts : os.toList.all (fun o => iv_tg pc o) = true) (hn : hi - lo + 1 = Int.ofNat os.size)
    (hR : iv_Rel D dA L b B0 n0 (iv_ml mi) s H w la ls (ivI x :: st) locs cells slots) (kk : iv_KK p l e R s m args below meth c Q D dA L b B0 n0 mi (bif decide (x < lo) || decide (hi < x) then ((pc : Int) + d).toNat else ((pc : Int) + os.toList.getD (x - lo).toNat 0).toNat, ls, st, w)) :
    iv_G p l e R s m args below meth c Q b B0 H locs cells slots pc la (ivI x :: st) := by
  have hxx : iv_in x := hR.hd
  by_cases h : x < lo ∨ hi < x
  · have hc : (decide (x < lo) || decide (hi < x)) = true := by simpa using h
    rw [hc] at kk
    exact lv_tableOut hx hb hd (by rw [iv_of32 hxx]; exact h) (iv_tgt ht) (kk la H locs cells slots hR.tl)
  · have hc : (decide (x < lo) || decide (hi < x)) = false := by simpa using h
    rw [hc] at kk
    have h1 : ¬ x < lo := fun q => h (Or.inl q)
    have h2 : ¬ hi < x := fun q => h (Or.inr q)
    have hlt : (x - lo).toNat < os.toList.length := by
      have : Int.ofNat os.toList.length = hi - lo + 1 := by rw [hn]; simp
      have h3 : (os.toList.length : Int) = hi - lo + 1 := this
      omega
    have ho : os[(x - lo).toNat]? = some (os.toList.getD (x - lo).toNat 0) := by
      rw [← Array.getElem?_toList, List.getD_eq_getElem?_getD, List.getElem?_eq_getElem hlt]
      rfl
    have hm : os.toList.getD (x - lo).toNat 0 ∈ os.toList := by
      rw [List.getD_eq_getElem?_getD, List.getElem?_eq_getElem hlt]
      exact List.getElem_mem hlt
    exact lv_tableIn hx hb hd (by rw [iv_of32 hxx]; exact h1) (by rw [iv_of32 hxx]; exact h2) (by rw [iv_of32 hxx]; exact ho) (iv_tgt (List.all_eq_true.mp hts _ hm)) (kk la H locs cells slots hR.tl)
theorem iv_lko {pc : Nat} {d x : Int} : ∀ ps : List (Int × Int), iv_tg pc d = true → ps.all (fun o => iv_tg pc o.2) = true → iv_tg pc (Op.lookupswitch.offset ps d x) = true
  | [], h, _ => h
  | (a, o) :: r, h, hs => by
    rw [List.all_cons, Bool.and_eq_true] at hs
    rw [Op.lookupswitch.offset_cons]
    split
    · exact hs.1
    · exact iv_lko r h hs.2
theorem iv_s_lookup {pc len : Nat} {d x : Int} {ps : Array (Int × Int)} (hx : p.tables.exec = Jvm.exec) (hb : c.code = iv_cd mi) (hd : decode (iv_cd mi) pc = .ok (.lookupswitch d ps, len)) (ht : iv_tg pc d = true) (hts : ps.toList.all (fun o => iv_tg pc o.2) = true) (hz : (ps.toList.zip (ps.toList.drop 1)).all (fun (a, next) => a.1 < next.1) = true)
    (hR : iv_Rel D dA L b B0 n0 (iv_ml mi) s H w la ls (ivI x :: st) locs cells slots) (kk : iv_KK p l e R s m args below meth c Q D dA L b B0 n0 mi (((pc : Int) + Op.lookupswitch.offset ps.toList d x).toNat, ls, st, w)) :
    iv_G p l e R s m args below meth c Q b B0 H locs cells slots pc la (ivI x :: st) := by
  have hxx : iv_in x := hR.hd
  exact lv_lookup hx hb hd hz (by rw [iv_of32 hxx]) (iv_tgt (iv_lko ps.toList ht hts)) (kk la H locs cells slots hR.tl)
end IVS
