/-! THE RUN OF A METHOD IS WHAT THE MACHINE DOES -/
theorem iv_oi : Jvm.Cond.instanceMethod objectInit ∈ iv_TB ∧ Jvm.Cond.code objectInit ⟨#[0xb1]⟩ 1 none ∈ iv_TB := ⟨iv_at_mem (i := 78) (c := (5, 1000, 0, 0, 0, 0)) (by decide +kernel), iv_at_mem (i := 79) (c := (6, 1000, 0, 0, 0, 0)) (by decide +kernel)⟩
/-- a method that its name doesn't bar, by its body -/
theorem iv_ofW {l : Launch} {y : MethodName} {ws ws' : List Jvm.Cond} {rm : Room} {Pc : Array Value → State → Prop} {Qc : Array Value → State → Outcome → State → Prop} {mc ms : Nat} {free : Addr → Prop} {cc : ByteArray} {maxL : Nat} {ret : Option FieldType}
    (hy : plainFor y = true) (hw : ws = Jvm.Cond.code y cc maxL ret :: ws')
    (body : ∀ p e s m args below meth c s₁, BodyLoose p l y (headSpec ws rm) cc maxL ret e s m args below meth c s₁ → c.maxLocals = maxL → Pc args s →
      W p l e (headSpec ws rm).room s m args below meth c s.heap [] 0 0 (MQ below Qc args s mc ms free) (entryFrame m args maxL)) : Met l y ws rm Pc Qc mc ms free := by
  refine MetFree.of_bodySF (code := cc) (maxLocals := maxL) (ret := ret) hy ?_ ?_
  · intro args s m h hn
    obtain ⟨meth, c, h1, h2, h3, h4, h5, h6, -, -⟩ := Cond.code_spec hn (atoms_spec (ws := ws) h _ (by rw [hw]; exact List.mem_cons_self))
    exact ⟨meth, c, h1, h2, h3, h4, h5, h6⟩
  · intro p e s m args below meth c s₁ B hml hP _
    have hh0 : s₁.heap = s.heap := by rw [B.state]; rfl
    obtain ⟨t, a1, o, b1, b2, b3⟩ := body p e s m args below meth c s₁ B hml hP s₁ hh0 (Stand.of_body B)
    exact ⟨t, o, a1, b1, b2, ⟨b3.1, b3.2⟩⟩
section IVS
variable {l : Launch} {D : va_G} {dA : Nat → ClassId} {L b B0 : Nat}
/-- the end of a method, from where the walk goes on -/
def iv_End (l : Launch) (D : va_G) (dA : Nat → ClassId) (L b B0 n0 mi : Nat) (p : Program) (e : Env) (R : Room) (s : State) (m : MethodId) (args : Array Value) (below : List Frame) (meth : Method) (c : Code) (Q : State → Prop) (r : Option ivV) (w : ivS) : Prop :=
  ∀ (pc : Nat) (la : Array Slot) (ls st : List ivV) (H : Heap) (locs : List Loc) (cells slots : Nat), iv_Rel D dA L b B0 n0 (iv_ml mi) s H w la ls st locs cells slots →
    (r = none ∧ decode (iv_cd mi) pc = .ok (.return_, 1) ∧ iv_rt mi = none) ∨ (∃ x : Int, r = some (ivI x) ∧ iv_in x ∧ decode (iv_cd mi) pc = .ok (.ireturn, 1) ∧ (iv_rt mi = some .int ∨ iv_rt mi = some .boolean ∧ (x = 0 ∨ x = 1))) ∨ (∃ x : Nat, r = some (ivR x) ∧ x ≤ w.1 ∧ decode (iv_cd mi) pc = .ok (.areturn, 1) ∧ ∃ rt, iv_rt mi = some rt ∧ ((∃ n, rt = .object n) ∨ ∃ t, rt = .array t)) →
    W p l e R s m args below meth c H locs cells slots Q (F0 m pc la (r.toList.map (iv_cv b B0)))
def iv_Pc (D : va_G) (dA : Nat → ClassId) (L b B0 : Nat) (as : List ivV) (w : ivS) (v : Array Value) (U : State) : Prop := v = (as.map (iv_cv b B0)).toArray ∧ iv_HR D dA L b B0 U U.heap w ∧ (∀ a ∈ as, iv_ok w.1 a) ∧ iv_T U ∧ B0 ≤ U.heap.size
def iv_Qc (D : va_G) (dA : Nat → ClassId) (L b B0 : Nat) (r : Option ivV) (w : ivS) (_ : Array Value) (st : State) (o : Outcome) (t : State) : Prop := o = .returned (r.map (iv_cv b B0)) ∧ iv_HR D dA L b B0 t t.heap w ∧ (∀ v ∈ r, iv_ok w.1 v) ∧ va_F (fun q => B0 ≤ q) st t
def iv_room (L z : Nat) (w w1 : ivS) : Room := { frames := (iv_rm z).1, cells := w1.1 - w.1, slots := iv_sl L w1.1 - iv_sl L w.1, locals := (iv_rm z).2 }
/-- what is proved by induction on the number of steps -/
def iv_IH (l : Launch) (D : va_G) (dA : Nat → ClassId) (L b B0 f : Nat) : Prop :=
  ∀ (mi pc : Nat) (ls st : List ivV) (w : ivS) (r : Option ivV) (w' : ivS), iv_run L f mi pc ls st w = some (r, w') → mi < 172 →
    ∀ (p : Program) (e : Env) (R : Room) (s : State) (m : MethodId) (args : Array Value) (below : List Frame) (meth : Method) (c : Code) (Q : State → Prop) (n0 : Nat) (H : Heap) (la : Array Slot) (locs : List Loc) (cells slots : Nat),
      iv_cx p R s m args meth c mi → w'.1 ≤ R.cells + n0 → iv_sl L w'.1 ≤ R.slots + iv_sl L n0 → iv_Rel D dA L b B0 n0 (iv_ml mi) s H w la ls st locs cells slots → iv_End l D dA L b B0 n0 mi p e R s m args below meth c Q r w' →
      iv_G p l e R s m args below meth c Q b B0 H locs cells slots pc la st
theorem iv_blind {as : List ivV} {w : ivS} : FrameBlind (iv_Pc D dA L b B0 as w) := fun a U g mk q => by
  obtain ⟨q1, q2, q3, q4, q5⟩ := q
  exact ⟨q1, iv_HR.moved (u := U) (U := U.calling g mk a) (Vm.Alike.refl U.vm) q2, q3, iv_T.same (u := U) (U := U.calling g mk a) rfl q4, q5⟩
/-- a callee's contract -/
theorem iv_met {f z : Nat} (ih : iv_IH l D dA L b B0 f) (hz : z < 171) {as : List ivV} {w w1 : ivS} {r : Option ivV} (has : iv_wide as ≤ iv_ml z) (hrun : iv_run L f z 0 (iv_ent (iv_ml z) as) [] w = some (r, w1)) :
    Met l (iv_nm z) (iv_ws z) (iv_room L z w w1) (iv_Pc D dA L b B0 as w) (iv_Qc D dA L b B0 r w1) (w1.1 - w.1) (iv_sl L w1.1 - iv_sl L w.1) (fun q => B0 ≤ q) := by
  obtain ⟨h1, -, -, -, -, -, -, -⟩ := iv_mg_of hz
  refine iv_ofW (cc := iv_cd z) (maxL := iv_ml z) (ret := iv_rt z) h1 rfl ?_
  intro p e s m args below meth c s₁ B hml hv
  obtain ⟨rfl, hHR, hok, hT, hB⟩ := hv
  have hts : ∀ w ∈ iv_ws z, w.before (as.map (iv_cv b B0)).toArray s = true := atoms_spec (ws := iv_ws z) B.pre
  have hmono : w.1 ≤ w1.1 := iv_run_mono hrun
  have hsm := iv_sl_mono L hmono
  have cx : iv_cx p (headSpec (iv_ws z) (iv_room L z w w1)).room s m (as.map (iv_cv b B0)).toArray meth c z := ⟨B.exec, B.bytes, B.returns, hml, findClass_of_methodNamed B.named, fun w hw => hts w (iv_TB_ws z w hw), hT, B.notSynchronized, (fun h => (name_of_methodNamed B.named B.method).1.trans h), Nat.le_refl _, Nat.le_refl _⟩
  have hRel : iv_Rel D dA L b B0 w.1 (iv_ml z) s s.heap w ((lg_sl (as.map (iv_cv b B0)) ++ List.replicate (iv_ml z - (lg_sl (as.map (iv_cv b B0))).length) Slot.unset).toArray) (iv_ent (iv_ml z) as) [] [] 0 0 :=
    ⟨hHR, iv_ent_lr has, iv_ent_ok hok, fun v hv => (by cases hv), va_S.rf, ⟨by omega, by omega⟩, hB⟩
  have hcs : w1.1 ≤ (headSpec (iv_ws z) (iv_room L z w w1)).room.cells + w.1 := by show w1.1 ≤ (w1.1 - w.1) + w.1; omega
  have hss : iv_sl L w1.1 ≤ (headSpec (iv_ws z) (iv_room L z w w1)).room.slots + iv_sl L w.1 := by show iv_sl L w1.1 ≤ (iv_sl L w1.1 - iv_sl L w.1) + iv_sl L w.1; omega
  have hr := B.returns
  have hx := B.exec
  have hb := B.bytes
  have hlocks : meth.locks = false := B.notSynchronized
  have hend : iv_End l D dA L b B0 w.1 z p e (headSpec (iv_ws z) (iv_room L z w w1)).room s m (as.map (iv_cv b B0)).toArray below meth c (MQ below (iv_Qc D dA L b B0 r w1) (as.map (iv_cv b B0)).toArray s (w1.1 - w.1) (iv_sl L w1.1 - iv_sl L w.1) (fun q => B0 ≤ q)) r w1 := by
    intro pc la ls st H locs cells slots hR hcase
    obtain ⟨r1, -, -, -, r5, ⟨r6, r7⟩, -⟩ := hR
    obtain rfl : cells = w1.1 - w.1 := by omega
    obtain rfl : slots = iv_sl L w1.1 - iv_sl L w.1 := by omega
    have hq : ∀ t : State, t.heap = H → s.WarmedH t.vm → (∀ v ∈ r, iv_ok w1.1 v) → iv_Qc D dA L b B0 r w1 (as.map (iv_cv b B0)).toArray s (.returned (r.map (iv_cv b B0))) t := fun t ht hW ho => ⟨rfl, by rw [ht]; exact r1.moved hW.alike, ho, r5.F ht⟩
    rcases hcase with ⟨rfl, hd, hrt⟩ | ⟨x, rfl, hin, hd, hrt⟩ | ⟨x, rfl, hle, hd, rt, hrt, hrr⟩
    · exact W.vret hx hb (by rw [hr, hrt]) (fun t ht hW => hq t ht hW (fun v hv => by cases hv)) r5.2.2 hd
    · rcases hrt with hrt | ⟨hrt, h01⟩
      · exact W.iret hx hb (by rw [hr, hrt]) (fun t ht hW => hq t ht hW (fun v hv => by cases hv; exact hin)) r5.2.2 hd
      · exact W.zret hx hb (by rw [hr, hrt]) (iv_bool h01).1 (fun t ht hW => hq t ht hW (fun v hv => by cases hv; exact hin)) r5.2.2 hd
    · exact W.aret hx hb (by rw [hr, hrt]) hrr (by show iv_rv b B0 x = .null ∨ ∃ a, iv_rv b B0 x = .ref a; unfold iv_rv; split; exact Or.inl rfl; exact Or.inr ⟨_, rfl⟩) (fun t ht hW => hq t ht hW (fun v hv => by cases hv; exact hle)) r5.2.2 hd
  have hg := ih z 0 _ _ w r w1 hrun (by omega) p e _ s m _ below meth c _ w.1 s.heap _ [] 0 0 cx hcs hss hRel hend
  rw [lg_entry_eq]
  exact hg
variable {p : Program} {e : Env} {R : Room} {s : State} {m : MethodId} {args : Array Value} {below : List Frame} {meth : Method} {c : Code} {Q : State → Prop}
variable {n0 mi : Nat} {H : Heap} {w : ivS} {la : Array Slot} {ls st : List ivV} {locs : List Loc} {cells slots : Nat}
/-- behind a call -/
theorem iv_after {f pc : Nat} {rest : List ivV} {w1 : ivS} {r1 : Option ivV} {r : Option ivV} {w' : ivS} {a : Array Value} {st0 : List Value} (ih : iv_IH l D dA L b B0 f) (hmi : mi < 172) (cx : iv_cx p R s m args meth c mi) (hcs : w'.1 ≤ R.cells + n0) (hss : iv_sl L w'.1 ≤ R.slots + iv_sl L n0)
    (hR : iv_Rel D dA L b B0 n0 (iv_ml mi) s H w la ls rest locs cells slots) (hm : w.1 ≤ w1.1) (hrun : iv_run L f mi (pc + 3) ls (r1.toList ++ rest) w1 = some (r, w')) (hend : iv_End l D dA L b B0 n0 mi p e R s m args below meth c Q r w')
    (hr : va_Run p l e R s m args below meth c H locs cells slots (w1.1 - w.1) (iv_sl L w1.1 - iv_sl L w.1) (F0 m pc la st0) (rest.map (iv_cv b B0)) (iv_Qc D dA L b B0 r1 w1 a) (fun q => B0 ≤ q)) :
    W p l e R s m args below meth c H locs cells slots Q (F0 m pc la st0) := by
  intro T hT X
  obtain ⟨v, st₀, t, T', Lx, h0, X', hLx, e1, e2, ⟨ho, hHR, hok, hF⟩, stp⟩ := hr T hT X
  cases ho
  obtain ⟨r1', r2, r3, r4, r5, ⟨r6, r8⟩, r7⟩ := hR
  have hsm := iv_sl_mono L hm
  have hal : T'.vm.Alike s.vm := X'.warmed.alike.symm
  unfold va_F at hF
  rw [h0] at hF
  have hRel : iv_Rel D dA L b B0 n0 (iv_ml mi) s T'.heap w1 la ls (r1.toList ++ rest) (locs ++ Lx) (cells + (w1.1 - w.1)) (slots + (iv_sl L w1.1 - iv_sl L w.1)) := by
    refine ⟨?_, r2, fun v hv => iv_ok_mono (r3 v hv) hm, fun v hv => ?_, ⟨by rw [e1]; exact Nat.le_trans r5.1 hF.1, fun q h1 h2 => by rw [e1, hF.2 q (Nat.lt_of_lt_of_le h1 r5.1) h2]; exact r5.2.1 q h1 h2, fun q hq => ?_⟩, ⟨by omega, by omega⟩, r7⟩
    · rw [e1]
      exact iv_HR.moved (by rw [← e2]; exact hal) hHR
    · rcases List.mem_append.mp hv with h | h
      · exact hok v (by cases r1 with | none => cases h | some u => rw [List.mem_singleton.mp h]; rfl)
      · exact iv_ok_mono (r4 v h) hm
    · rcases List.mem_append.mp hq with h | h
      · exact r5.2.2 q h
      · exact hLx q h
  have hg := ih mi (pc + 3) ls (r1.toList ++ rest) w1 r w' hrun hmi p e R s m args below meth c Q n0 T'.heap la (locs ++ Lx) _ _ cx hcs hss hRel hend
  obtain ⟨t2, a1, b1⟩ := hg T' rfl X'
  refine ⟨t2, stp t2 ?_, b1⟩
  have hmap : (r1.toList ++ rest).map (iv_cv b B0) = (r1.map (iv_cv b B0)).toList ++ rest.map (iv_cv b B0) := by cases r1 <;> rfl
  rw [hmap] at a1
  exact a1
end IVS
