/-! THE CLAIM OUT OF ONE WALK OF THE LAW'S BODY. Your part is whole_start (and what it stands on); all else here is the same for every law, but numbers. -/
def R_law : String := "OnlyNamedLaw"
def lw_P (b : Addr) (xs : List Int32) (args : Array Value) (s : State) : Prop := args = #[.ref b] ∧ s.IntsAt b xs ∧ xs.length ≤ 2048 ∧ (Jvm.Cond.and given_1 narrow_1).before args s = true
def lw_Q (_ : Array Value) (s : State) (o : Outcome) (t : State) : Prop := o = .returned (some (.int 1)) ∧ Framed s o t [] 600000 7302250
def lw_Z (below : List Frame) (a : Array Value) (s : State) : State → Prop := fun t => ∃ o, t.status = .running ∧ Ended t below o ∧ lw_Q a s o t
/-- the law's own end, with 1 on the stack, nothing written that was there before, its room as the claim has it -/
theorem lw_ret {p : Program} {l : Launch} {e : Env} {s : State} {m : MethodId} {below : List Frame} {meth : Method} {c : Code} {b : Nat} (hx : p.tables.exec = Jvm.exec) (hb : c.code = code) (hr : meth.sig.returnType = ret) (hlocks : meth.locks = false) {pc : Nat} {H : Heap} {ls : Array Slot} (hdg : decode code pc = .ok (.ireturn, 1)) : W p l e room_1 s m #[Value.ref b] below meth c H [] 600000 7302250 (lw_Z below #[Value.ref b] s) (F0 m pc ls [.int 1]) := by
  intro T hT X
  obtain ⟨fs, hret, hrun, hended, hW, hframe⟩ := X.leave (v := some (.int 1)) (hlocks := hlocks) (fun h => by rw [hr] at h; cases h)
  have hmeth' : T.vm.method? m = some meth := X.method'
  refine ⟨T.setFrames fs, ?_, .returned (some (.int 1)), hrun, hended, rfl, ⟨_, rfl⟩, hW, hframe⟩
  jvm_step X.here [X.here.top, hx, hb, hdg, hmeth', hr, ret, narrow_b1]
  (try refine ⟨rfl, ?_⟩); (try refine ⟨rfl, ?_⟩)
  first | (intro acts; rw [hret _ acts rfl rfl rfl]) | rw [hret _ _ rfl rfl rfl]
  exact Steps.refl _
/-- what holds at the law's entry: the machine, the code, the tables' words (any of lw_tbl by 'hts w (by decide +kernel)'), the script of L ints xs at the cell b, what the Statement gives of the start (any of its parts by flat_of_before) -/
def lw_At (p : Program) (s : State) (m : MethodId) (meth : Method) (c : Code) (b L : Nat) (xs : Nat → Int32) : Prop :=
  p.tables.exec = Jvm.exec ∧ c.code = code ∧ meth.sig.returnType = ret ∧ c.maxLocals = 4 ∧ s.vm.findClass R_law = some m.cls ∧ (∀ w ∈ lw_tbl, w.before #[Value.ref b] s = true) ∧ va_X b L xs s s.heap ∧ b < s.heap.size ∧ meth.locks = false ∧ (Jvm.Cond.and given_1 narrow_1).before #[Value.ref b] s = true
/-! THE LAW'S RUN GIVES THE WALK -/
theorem iv_sl_shift (L : Nat) : ∀ n : Nat, iv_sl L (n + 1) = iv_sl 0 (n + 1) + L
  | 0 => by show 0 + L = (0 + 0) + L; omega
  | n + 1 => by
    show iv_sl L (n + 1) + (iv_lay L (n + 1 + 1)).2.2 = (iv_sl 0 (n + 1) + (iv_lay 0 (n + 1 + 1)).2.2) + L
    have e : iv_lay L (n + 1 + 1) = iv_lay 0 (n + 1 + 1) := by
      unfold iv_lay
      rw [iv_nbeq (show n + 1 + 1 ≠ 1 by omega)]
      rfl
    rw [iv_sl_shift L n, e]
    omega
theorem iv_sl_135 : iv_sl 0 135 = 5816 := by decide +kernel
def iv_mu0 (xs : Nat → Int32) : ivM := fun a k => if a = 1 then (xs k).toInt else 0
theorem iv_known {s : State} {args : Array Value} (hts : ∀ w ∈ lw_tbl, w.before args s = true) : ∃ (D : va_G) (dA : Nat → ClassId), va_K D iv_cl (iv_tys dA) s := by
  have hTB : ∀ w ∈ iv_TB, w.before args s = true := fun w hw => hts w (List.mem_filter.mp hw).1
  have h1 : ∀ ci : Nat, ∃ q : ClassId × (Nat → Nat), ∀ r, iv_cl[ci]? = some r → u_Kn s r.1 r.2.1 r.2.2 q.1 q.2 := by
    intro ci
    cases hc : iv_cl[ci]? with
    | none => exact ⟨(0, fun _ => 0), fun r h => by cases h⟩
    | some r =>
      obtain ⟨q, hq, rfl⟩ := iv_cl_of hc
      obtain ⟨hin, -, -, hinst, -⟩ := iv_cg_of hq
      obtain ⟨cC, iS, h⟩ := u_known (C := iv_s q.1) (T := iv_Tf ci) (N := q.2) hTB hin (hTB _ hinst)
      exact ⟨(cC, iS), fun r hr => by cases hr; exact h⟩
  obtain ⟨cI, kI, compI, i1, i2, i3⟩ := Cond.arrayClass_spec (hTB _ iv_ac_int)
  obtain ⟨cZ, kZ, compZ, z1, z2, z3⟩ := Cond.arrayClass_spec (hTB _ iv_ac_bool)
  obtain ⟨compM, cM, kM, m1, -, m3, m4, m5⟩ := Cond.arrayOver_spec (hts _ (iv_wcg_mem (i := 192) (c := (18, 0, 0, 0, 0, 0)) (by decide +kernel) (by decide)))
  obtain ⟨compR, cR, kR, r1, -, r3, r4, r5⟩ := Cond.arrayOver_spec (hts _ (iv_wcg_mem (i := 218) (c := (18, 2, 0, 0, 0, 0)) (by decide +kernel) (by decide)))
  obtain ⟨compA, cA, kA, a1, -, a3, a4, a5⟩ := arrayOverA_spec (t := .int) (hts _ (iv_wcg_mem (i := 200) (c := (18, 1, 0, 0, 0, 0)) (by decide +kernel) (by decide)))
  refine ⟨(fun ci => (Classical.choose (h1 ci)).1, fun ci => (Classical.choose (h1 ci)).2), fun t => match t with | 0 => cI | 1 => cZ | 2 => cM | 3 => cR | _ => cA, fun ci r hr => Classical.choose_spec (h1 ci) r hr, fun k q hk => ?_⟩
  rcases k with _ | _ | _ | _ | _ | k
  · cases hk
    exact ⟨fun N z => ⟨(fun q hq => by cases hq), kI, i2, compI, i3⟩, i1⟩
  · cases hk
    exact ⟨fun N z => ⟨(fun q hq => by cases hq), kZ, z2, compZ, z3⟩, z1⟩
  · cases hk
    exact ⟨fun N z => ⟨(fun q hq => by cases hq), kM, m3, compM, m4⟩, kM, compM, m3, m4, m1, m5⟩
  · cases hk
    exact ⟨fun N z => ⟨(fun q hq => by cases hq), kR, r3, compR, r4⟩, kR, compR, r3, r4, r1, r5⟩
  · cases hk
    exact ⟨fun N z => ⟨(fun q hq => by cases hq), kA, a3, compA, a4⟩, a5⟩
  · cases hk
theorem iv_Tlaw {s : State} {args : Array Value} (hts : ∀ w ∈ lw_tbl, w.before args s = true) : iv_T s := by
  refine ⟨fun w hw hn => ?_, ?_, ?_, ?_⟩
  · have h := hts w hw
    cases w <;> first | exact va_Nw.of rfl h | cases hn
  · exact va_AO.of (hts _ (iv_wcg_mem (i := 192) (c := (18, 0, 0, 0, 0, 0)) (by decide +kernel) (by decide)))
  · exact va_AO.of (hts _ (iv_wcg_mem (i := 218) (c := (18, 2, 0, 0, 0, 0)) (by decide +kernel) (by decide)))
  · exact hts _ (iv_wcg_mem (i := 200) (c := (18, 1, 0, 0, 0, 0)) (by decide +kernel) (by decide))
theorem iv_whole {p : Program} {e : Env} {s : State} {m : MethodId} {below : List Frame} {meth : Method} {c : Code} (l : Launch) {b L : Nat} {xs : Nat → Int32} (hL : L ≤ 2048) (C0 : lw_At p s m meth c b L xs) {μ : ivM} {ρ : ivN}
    (hrun : iv_Ret L 171 0 [ivR 1, ivU, ivU, ivU] [] (1, iv_mu0 xs, fun _ _ => 0) (some (ivI 1)) (135, μ, ρ)) : W p l e room_1 s m #[Value.ref b] below meth c s.heap [] 0 0 (lw_Z below #[Value.ref b] s) (entryFrame m ([Value.ref b] : List Value).toArray 4) := by
  obtain ⟨hx, hb, hr, hml, hown, hts, hX, hbl, hlocks, hgv⟩ := id C0
  obtain ⟨f, hf⟩ := hrun
  obtain ⟨D, dA, hK⟩ := iv_known hts
  have cx : iv_cx p room_1 s m #[Value.ref b] meth c 171 := ⟨hx, hb, hr, hml, hown, fun w hw => hts w (List.mem_filter.mp hw).1, iv_Tlaw hts, hlocks, (fun h => absurd h (by decide +kernel)), Nat.le_of_ble_eq_true rfl, Nat.le_of_ble_eq_true rfl⟩
  have hHR : iv_HR D dA L b s.heap.size s s.heap (1, iv_mu0 xs, fun _ _ => 0) := by
    refine ⟨Nat.le_refl _, rfl, hbl, ?_, fun x h1 h2 => ?_, fun x k => ?_, fun x k => Nat.zero_le _, hK⟩
    · have e1 : (fun k => Int32.ofInt (iv_mu0 xs 1 k)) = xs := funext fun k => Int32.ofInt_toInt (xs k)
      show va_X b L (fun k => Int32.ofInt (iv_mu0 xs 1 k)) s s.heap
      rw [e1]
      exact hX
    · have h3 : x ≤ 1 := h2
      omega
    · show iv_in (iv_mu0 xs x k)
      unfold iv_mu0
      split
      · exact iv_in32 _
      · exact iv_in0
  have hmap : ([ivR 1] : List ivV).map (iv_cv b s.heap.size) = [.ref b] := rfl
  have hlr := iv_ent_lr (b := b) (B0 := s.heap.size) (n := 4) (as := [ivR 1]) (by decide)
  rw [hmap] at hlr
  have hRel : iv_Rel D dA L b s.heap.size 1 (iv_ml 171) s s.heap (1, iv_mu0 xs, fun _ _ => 0) ((lg_sl [.ref b] ++ List.replicate (4 - (lg_sl [.ref b]).length) Slot.unset).toArray) [ivR 1, ivU, ivU, ivU] [] [] 0 0 :=
    ⟨hHR, hlr, fun v hv => (by
      rcases List.mem_cons.mp hv with rfl | hv
      · exact Nat.le_refl 1
      · rcases List.mem_cons.mp hv with rfl | hv
        · trivial
        · rcases List.mem_cons.mp hv with rfl | hv
          · trivial
          · rcases List.mem_cons.mp hv with rfl | hv
            · trivial
            · cases hv), fun v hv => (by cases hv), va_S.rf, ⟨rfl, Nat.zero_add _⟩, Nat.le_refl _⟩
  have hsl : iv_sl L 135 = iv_sl L 1 + 5816 := by rw [iv_sl_shift L 134, iv_sl_shift L 0, iv_sl_135]; show 5816 + L = (0 + 0) + L + 5816; omega
  have hend : iv_End l D dA L b s.heap.size 1 171 p e room_1 s m #[Value.ref b] below meth c (lw_Z below #[Value.ref b] s) (some (ivI 1)) (135, μ, ρ) := by
    intro pc la ls st H locs cells slots hR hcase
    obtain ⟨-, -, -, -, r5, ⟨r6, r7⟩, -⟩ := hR
    have r6' : cells + 1 = 135 := r6
    have r7' : slots + iv_sl L 1 = iv_sl L 135 := r7
    rcases hcase with ⟨h, -⟩ | ⟨x, h, -, hd, -⟩ | ⟨x, h, -⟩
    · cases h
    · cases h
      refine va_forget r5.2.2 (W.widen (k := 600000) (n := 7302250) (by omega) (by omega) ?_)
      exact lw_ret hx hb hr hlocks hd
    · cases h
  have hg := iv_run_snd (l := l) (D := D) (dA := dA) (b := b) (B0 := s.heap.size) hL f 171 0 _ _ _ _ _ hf (by omega) p e room_1 s m _ below meth c _ 1 s.heap _ [] 0 0 cx (by show 135 ≤ 600000 + 1; omega) (by show iv_sl L 135 ≤ 7302250 + iv_sl L 1; omega) hRel hend
  rw [lg_entry_eq]
  exact hg
