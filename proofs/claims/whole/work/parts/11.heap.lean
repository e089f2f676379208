/-! ONE STEP, over the machine: fields and arrays -/
section IVS
variable {p : Program} {l : Launch} {e : Env} {R : Room} {s : State} {m : MethodId} {args : Array Value} {below : List Frame} {meth : Method} {c : Code} {Q : State → Prop}
variable {D : va_G} {dA : Nat → ClassId} {L b B0 n0 mi : Nat} {H : Heap} {w : ivS} {la : Array Slot} {ls st : List ivV} {locs : List Loc} {cells slots : Nat}
theorem iv_cells {x : Nat} (h : iv_HR D dA L b B0 s H w) (hx : x ≠ 1) (h0 : (iv_lay L x).1 ≠ 9) (hn : x ≤ w.1) : iv_cell D dA L b B0 w H x ∧ 2 ≤ x := by
  have h2 : 2 ≤ x := by
    rcases (by omega : x = 0 ∨ 2 ≤ x) with e | e
    · subst e; exact absurd rfl h0
    · exact e
  exact ⟨h.2.2.2.2.1 x h2 hn, h2⟩
/-- an object and its class -/
theorem iv_objc {x : Nat} (h : iv_HR D dA L b B0 s H w) (h0 : (iv_lay L x).1 = 0) (hn : x ≤ w.1) :
    ∃ q : Nat × Nat, iv_cls[(iv_lay L x).2.1]? = some q ∧ q.2 = (iv_lay L x).2.2 ∧ 2 ≤ x ∧ t_OB (iv_ad b B0 x) (D.1 (iv_lay L x).2.1) q.2 (D.2 (iv_lay L x).2.1) H (fun k => iv_slot b B0 (iv_fty (iv_lay L x).2.1 k) w x k) ∧ u_Kn s (iv_s q.1) (iv_Tf (iv_lay L x).2.1) q.2 (D.1 (iv_lay L x).2.1) (D.2 (iv_lay L x).2.1) := by
  obtain ⟨hx, q, h1, h2⟩ := iv_lay_obj h0
  obtain ⟨⟨c1, -⟩, x2⟩ := iv_cells h hx (by rw [h0]; decide) hn
  refine ⟨q, h1, h2, x2, by rw [h2]; exact c1 h0, ?_⟩
  exact h.2.2.2.2.2.2.2.1 _ _ (iv_cls_of h1).1
theorem iv_gf_of {mi idx : Nat} {e : ivE} (h : iv_gf mi e idx = true) : ∃ q, iv_cls[e.2.2.2.1]? = some q ∧ e.2.2.2.2.1 < q.2 ∧ Jvm.Cond.fieldLink (iv_nm mi).cls idx (iv_Tf e.2.2.2.1 e.2.2.2.2.1).1 (iv_Tf e.2.2.2.1 e.2.2.2.2.1).2.1 (iv_Tf e.2.2.2.1 e.2.2.2.2.1).2.2.1 ∈ iv_TB := by
  unfold iv_gf at h
  cases hq : iv_cls[e.2.2.2.1]? with
  | none => rw [hq] at h; cases h
  | some q =>
    rw [hq] at h
    simp only [Bool.and_eq_true] at h
    exact ⟨q, rfl, by have := Nat.le_of_ble_eq_true h.1; omega, iv_at_mem h.2⟩
theorem iv_s_get {pc idx x : Nat} {ee : ivE} (hx : p.tables.exec = Jvm.exec) (hb : c.code = iv_cd mi) (hown : s.vm.findClass (iv_nm mi).cls = some m.cls) (hts : ∀ w ∈ iv_TB, w.before args s = true) (hd : decode (iv_cd mi) pc = .ok (.getfield idx, 3)) (hg : iv_gf mi ee idx = true)
    (h0 : (iv_lay L x).1 = 0) (h1 : (iv_lay L x).2.1 = ee.2.2.2.1) (hn : x ≤ w.1)
    (hR : iv_Rel D dA L b B0 n0 (iv_ml mi) s H w la ls (ivR x :: st) locs cells slots) (kk : iv_KK p l e R s m args below meth c Q D dA L b B0 n0 mi (pc + 3, ls, (bif Nat.ble 2 (iv_fty ee.2.2.2.1 ee.2.2.2.2.1) then ivR (w.2.2 x ee.2.2.2.2.1) else ivI (w.2.1 x ee.2.2.2.2.1)) :: st, w)) :
    iv_G p l e R s m args below meth c Q b B0 H locs cells slots pc la (ivR x :: st) := by
  obtain ⟨q, g1, g2, g3⟩ := iv_gf_of hg
  obtain ⟨q', e1, e2, x2, ⟨cell, c1, c2, c3, c4⟩, hS, hfc, kC, hkC, hkind⟩ := iv_objc hR.1 h0 hn
  rw [h1] at e1 c2 c4 hS hfc
  cases g1.symm.trans e1
  obtain ⟨hin, -, -, -, -⟩ := iv_cg_of g1
  obtain ⟨cf, kf, fi, f, hi, hsl⟩ := hS _ g2
  show W p l e R s m args below meth c H locs cells slots Q (F0 m pc la (iv_rv b B0 x :: _))
  rw [iv_rv_ne (by omega)]
  rw [h1] at hkC
  refine W.getf hx hb hown (hts _ g3) hi (u_facts hfc hkC (u_lays hts hin g2) hi).1 c1 (by rw [c3]; exact fun h => by cases h) (v := iv_slot b B0 (iv_fty ee.2.2.2.1 ee.2.2.2.2.1) w x ee.2.2.2.2.1) (by rw [hsl]; exact c4 _ g2) rfl rfl hd ?_
  have hok : iv_ok w.1 (bif Nat.ble 2 (iv_fty ee.2.2.2.1 ee.2.2.2.2.1) then ivR (w.2.2 x ee.2.2.2.2.1) else ivI (w.2.1 x ee.2.2.2.2.1)) := by
    cases Nat.ble 2 (iv_fty ee.2.2.2.1 ee.2.2.2.2.1)
    · exact hR.1.2.2.2.2.2.1 _ _
    · exact hR.1.2.2.2.2.2.2.1 _ _
  have hcv : iv_slot b B0 (iv_fty ee.2.2.2.1 ee.2.2.2.2.1) w x ee.2.2.2.2.1 = iv_cv b B0 (bif Nat.ble 2 (iv_fty ee.2.2.2.1 ee.2.2.2.2.1) then ivR (w.2.2 x ee.2.2.2.2.1) else ivI (w.2.1 x ee.2.2.2.2.1)) := by
    unfold iv_slot
    cases Nat.ble 2 (iv_fty ee.2.2.2.1 ee.2.2.2.2.1) <;> rfl
  exact iv_push hR.tl hcv hok kk
/-- the state behind a store -/
theorem iv_Rel.put {x : Nat} {w1 : ivS} {H1 : Heap} {k : Nat} (hR : iv_Rel D dA L b B0 n0 (iv_ml mi) s H w la ls st locs cells slots) (hx : 2 ≤ x) (hn : w1.1 = w.1) (hz : H1.size = H.size)
    (hH : ∀ q, q ≠ iv_ad b B0 x → H1[q]? = H[q]?) (hc : iv_cell D dA L b B0 w1 H1 x) (hm : ∀ y, y ≠ x → ∀ k, w1.2.1 y k = w.2.1 y k ∧ w1.2.2 y k = w.2.2 y k) (hi : ∀ y k, iv_in (w1.2.1 y k)) (hr : ∀ y k, w1.2.2 y k ≤ w1.1) : iv_Rel D dA L b B0 n0 (iv_ml mi) s H1 w1 la ls st (locs ++ [⟨iv_ad b B0 x, k⟩]) cells slots := by
  obtain ⟨r1, r2, r3, r4, r5, r6, r7⟩ := hR
  refine ⟨r1.set hx hn hz hH hc hm hi hr, r2, by rw [hn]; exact r3, by rw [hn]; exact r4, va_S.put r5 hz hH ?_, by rw [hn]; exact r6, r7⟩
  show B0 ≤ iv_ad b B0 x
  unfold iv_ad
  rw [if_neg (by omega)]
  omega
theorem iv_s_put {pc idx x : Nat} {ee : ivE} {v : ivV} {w1 : ivS} (hx : p.tables.exec = Jvm.exec) (hb : c.code = iv_cd mi) (hown : s.vm.findClass (iv_nm mi).cls = some m.cls) (hts : ∀ w ∈ iv_TB, w.before args s = true) (hname : (iv_nm mi).name = "<init>" → meth.name = "<init>") (hd : decode (iv_cd mi) pc = .ok (.putfield idx, 3)) (hg : iv_gf mi ee idx = true) (hgp : iv_gp mi ee = true)
    (h0 : (iv_lay L x).1 = 0) (h1 : (iv_lay L x).2.1 = ee.2.2.2.1) (hn : x ≤ w.1)
    (hv : ∀ t, parseFieldDescriptor (iv_Tf ee.2.2.2.1 ee.2.2.2.2.1).2.2.1 = some t → (iv_fty ee.2.2.2.1 ee.2.2.2.2.1 = 0 ∧ t = .int ∨ iv_fty ee.2.2.2.1 ee.2.2.2.2.1 = 1 ∧ t = .boolean ∨ iv_fty ee.2.2.2.1 ee.2.2.2.2.1 = 2 ∧ ((∃ n, t = .object n) ∨ ∃ c, t = .array c)) → narrow t (iv_cv b B0 v) = iv_cv b B0 v ∧ fits t (iv_cv b B0 v) = true)
    (hw1 : w1.1 = w.1) (hm : ∀ y, y ≠ x → ∀ k, w1.2.1 y k = w.2.1 y k ∧ w1.2.2 y k = w.2.2 y k) (hi1 : ∀ y k, iv_in (w1.2.1 y k)) (hr1 : ∀ y k, w1.2.2 y k ≤ w1.1)
    (hs : ∀ k, iv_slot b B0 (iv_fty ee.2.2.2.1 k) w1 x k = if k = ee.2.2.2.2.1 then iv_cv b B0 v else iv_slot b B0 (iv_fty ee.2.2.2.1 k) w x k)
    (hR : iv_Rel D dA L b B0 n0 (iv_ml mi) s H w la ls (v :: ivR x :: st) locs cells slots) (kk : iv_KK p l e R s m args below meth c Q D dA L b B0 n0 mi (pc + 3, ls, st, w1)) :
    iv_G p l e R s m args below meth c Q b B0 H locs cells slots pc la (v :: ivR x :: st) := by
  obtain ⟨q, g1, g2, g3⟩ := iv_gf_of hg
  obtain ⟨q', e1, e2, x2, ⟨cell, c1, c2, c3, c4⟩, hS, hfc, kC, hkC, hkind⟩ := iv_objc hR.1 h0 hn
  have hl1 : ¬ (iv_lay L x).1 = 1 := by rw [h0]; decide
  have hOB : ∀ H' : Heap, t_OB (iv_ad b B0 x) (D.1 (iv_lay L x).2.1) q'.2 (D.2 (iv_lay L x).2.1) H' (fun k => iv_slot b B0 (iv_fty (iv_lay L x).2.1 k) w1 x k) → iv_cell D dA L b B0 w1 H' x := fun H' h => ⟨fun _ => by rw [← e2]; exact h, fun h' => absurd h' hl1⟩
  rw [h1] at e1 c2 c4 hS hfc hkC hOB
  cases g1.symm.trans e1
  obtain ⟨hin, hty, hnm, -, -⟩ := iv_cg_of g1
  have hap : ∀ x y, x < q.2 → y < q.2 → x ≠ y → (D.2 ee.2.2.2.1) x ≠ (D.2 ee.2.2.2.1) y := by
    intro x y hx hy hne
    obtain ⟨_, _, _, fa, hia, ea⟩ := hS x hx
    obtain ⟨_, _, _, fb, hib, eb⟩ := hS y hy
    obtain ⟨ta, hta, -⟩ := hty x hx
    obtain ⟨tb, htb, -⟩ := hty y hy
    rw [← ea, ← eb]
    refine u_apart (u_lays hts hin hx) (u_lays hts hin hy) hia hib ?_
    rw [(State.fieldFound?_type hia hta).1, (State.fieldFound?_type hib htb).1]
    exact hnm x hx y hy hne
  obtain ⟨cf, kf, fi, f, hi, hsl⟩ := hS _ g2
  obtain ⟨t, ht, htk⟩ := hty _ g2
  obtain ⟨hn1, hf1⟩ := hv t ht htk
  have hlay := hts _ (hin _ (u_in_lay g2))
  have hst := (u_facts hfc hkC (u_lays hts hin g2) hi).1
  have fin : ∀ H' : Heap, H'[iv_ad b B0 x]? = some (cell.setSlot f.slot (iv_cv b B0 v)) → H'.size = H.size → (∀ q, q ≠ iv_ad b B0 x → H'[q]? = H[q]?) → W p l e R s m args below meth c H' (locs ++ [⟨iv_ad b B0 x, f.slot⟩]) cells slots Q (F0 m (pc + 3) la (st.map (iv_cv b B0))) := by
    intro H' a1 a2 a3
    refine kk la H' _ cells slots (iv_Rel.put hR.tl.tl x2 hw1 a2 a3 (hOB H' ?_) hm hi1 hr1)
    rw [hsl] at a1
    refine t_OB.to (V := updV (fun k => iv_slot b B0 (iv_fty ee.2.2.2.1 k) w x k) ee.2.2.2.2.1 (iv_cv b B0 v)) ⟨_, a1, c2, c3, t_set c4 hap g2 _⟩ fun k hk => ?_
    rw [hs k]
    rfl
  show W p l e R s m args below meth c H locs cells slots Q (F0 m pc la (iv_cv b B0 v :: iv_rv b B0 x :: _))
  rw [iv_rv_ne (by omega)]
  by_cases hfin : (iv_Tc ee.2.2.2.1 ee.2.2.2.2.1).2.2.2 = true
  · unfold u_lay at hlay
    rw [if_pos (show (iv_Tf ee.2.2.2.1 ee.2.2.2.2.1).2.2.2 = true from hfin)] at hlay
    unfold iv_gp at hgp
    rw [hfin] at hgp
    simp only [Bool.not_true, Bool.false_or, Bool.and_eq_true, decide_eq_true_eq] at hgp
    have hdecl : (iv_Tf ee.2.2.2.1 ee.2.2.2.2.1).1 = (iv_nm mi).cls := by show iv_s _ = iv_s _; rw [hgp.1]
    have hinit : meth.name = "<init>" := hname (by show iv_s (iv_nc mi).2.1 = _; rw [hgp.2]; rfl)
    have hcf : m.cls = cf := by
      obtain ⟨_, _, c', _, _, _, -, -, hf', -, -, -, hown2, -⟩ := Cond.laysFinal_spec hlay
      have e1 : c' = cf := by have := hi.symm.trans hf'; simp at this; exact this.1.symm
      rw [hdecl] at hown2
      rw [← e1]; exact Option.some.inj (hown.symm.trans hown2)
    have h6 := u_fits hfc hkC hkind (Or.inr hlay) hi ht hn1 hf1
    exact W.putFinK hx hb hown (hts _ g3) hi hst hcf hinit (by rw [c2]; exact h6) c1 c3 (by rw [hsl]; exact k2_hasslot (c4 _ g2)) rfl rfl hd fin
  · unfold u_lay at hlay
    rw [if_neg (show ¬ (iv_Tf ee.2.2.2.1 ee.2.2.2.2.1).2.2.2 = true from hfin)] at hlay
    have h6 := u_store hfc hkC hkind hlay hi ht hn1 hf1
    exact W.putK hx hb (f := f) ⟨hown, hts _ g3, ⟨_, _, _, hi⟩, hst⟩ (by rw [c2]; exact h6) c1 c3 (by rw [hsl]; exact k2_hasslot (c4 _ g2)) rfl rfl hd fin
/-- arrays -/
theorem iv_arrc {x : Nat} (h : iv_HR D dA L b B0 s H w) (hx : x ≠ 1) (h0 : (iv_lay L x).1 = 1) (hn : x ≤ w.1) :
    H[iv_ad b B0 x]? = some (arrV (dA (iv_lay L x).2.1) (iv_lay L x).2.2 (fun k => iv_slot b B0 (iv_lay L x).2.1 w x k)) ∧ 2 ≤ x := by
  obtain ⟨⟨-, c2⟩, x2⟩ := iv_cells h hx (by rw [h0]; decide) hn
  exact ⟨c2 h0, x2⟩
theorem iv_aty {t : Nat} {ty : FieldType} (h : iv_HR D dA L b B0 s H w) (ht : (iv_tys dA)[t]? = some (dA t, ty)) : ArrOfT s (dA t) ty := (h.2.2.2.2.2.2.2.2 t _ ht).1
theorem iv_s_iald {pc x : Nat} {i : Int} (hx : p.tables.exec = Jvm.exec) (hb : c.code = iv_cd mi) (hd : decode (iv_cd mi) pc = .ok (.iaload, 1))
    (h0 : (iv_lay L x).1 = 1) (h1 : (iv_lay L x).2.1 = 0) (hn : x ≤ w.1) (hi0 : 0 ≤ i) (hi1 : i < (iv_lay L x).2.2)
    (hR : iv_Rel D dA L b B0 n0 (iv_ml mi) s H w la ls (ivI i :: ivR x :: st) locs cells slots) (kk : iv_KK p l e R s m args below meth c Q D dA L b B0 n0 mi (pc + 1, ls, ivI (w.2.1 x i.toNat) :: st, w)) :
    iv_G p l e R s m args below meth c Q b B0 H locs cells slots pc la (ivI i :: ivR x :: st) := by
  have hin : iv_in i := hR.hd
  obtain ⟨j1, j2⟩ := iv_idx hin hi0 hi1
  have hlt : i.toNat < (iv_lay L x).2.2 := by omega
  show W p l e R s m args below meth c H locs cells slots Q (F0 m pc la (.int (Int32.ofInt i) :: iv_rv b B0 x :: _))
  rw [iv_rv_ne (by intro e; rw [e] at h0; cases h0)]
  by_cases e1 : x = 1
  · subst e1
    obtain ⟨scr, s1, s2, s3, s4, s5⟩ := hR.1.2.2.2.1
    have hs4 : scr.slots.size = (iv_lay L 1).2.2 := s4
    refine W.iald (v := .int (Int32.ofInt (w.2.1 1 i.toNat))) hx hb s1 s2 s3 (by rw [hs4]; exact j1) (by rw [j2]; exact s5 _ hlt) rfl rfl hd ?_
    exact iv_push (v := ivI (w.2.1 1 i.toNat)) hR.tl.tl rfl (hR.1.2.2.2.2.2.1 _ _) kk
  · obtain ⟨c1, x2⟩ := iv_arrc hR.1 e1 h0 hn
    rw [h1] at c1
    refine W.iald (v := iv_slot b B0 0 w x i.toNat) hx hb c1 (iv_aty hR.1 (ty := .int) rfl _ _) (fun q => by cases q) (by rw [arrV_size]; exact j1) (by rw [j2, arrV_read _ _ hlt]) rfl rfl hd ?_
    exact iv_push (v := ivI (w.2.1 x i.toNat)) hR.tl.tl rfl (hR.1.2.2.2.2.2.1 _ _) kk
theorem iv_s_bald {pc x : Nat} {i : Int} (hx : p.tables.exec = Jvm.exec) (hb : c.code = iv_cd mi) (hd : decode (iv_cd mi) pc = .ok (.baload, 1))
    (h0 : (iv_lay L x).1 = 1) (h1 : (iv_lay L x).2.1 = 1) (hn : x ≤ w.1) (hi0 : 0 ≤ i) (hi1 : i < (iv_lay L x).2.2)
    (hR : iv_Rel D dA L b B0 n0 (iv_ml mi) s H w la ls (ivI i :: ivR x :: st) locs cells slots) (kk : iv_KK p l e R s m args below meth c Q D dA L b B0 n0 mi (pc + 1, ls, ivI (w.2.1 x i.toNat) :: st, w)) :
    iv_G p l e R s m args below meth c Q b B0 H locs cells slots pc la (ivI i :: ivR x :: st) := by
  have hin : iv_in i := hR.hd
  obtain ⟨j1, j2⟩ := iv_idx hin hi0 hi1
  have hlt : i.toNat < (iv_lay L x).2.2 := by omega
  show W p l e R s m args below meth c H locs cells slots Q (F0 m pc la (.int (Int32.ofInt i) :: iv_rv b B0 x :: _))
  rw [iv_rv_ne (by intro e; rw [e] at h0; cases h0)]
  obtain ⟨c1, x2⟩ := iv_arrc hR.1 (fun e => by rw [e] at h1; cases h1) h0 hn
  rw [h1] at c1
  refine W.zald (v := iv_slot b B0 1 w x i.toNat) hx hb c1 (iv_aty hR.1 (ty := .boolean) rfl _ _) (fun q => by cases q) (by rw [arrV_size]; exact j1) (by rw [j2, arrV_read _ _ hlt]) rfl rfl hd ?_
  exact iv_push (v := ivI (w.2.1 x i.toNat)) hR.tl.tl rfl (hR.1.2.2.2.2.2.1 _ _) kk
theorem iv_s_aald {pc x : Nat} {i : Int} (hx : p.tables.exec = Jvm.exec) (hb : c.code = iv_cd mi) (hd : decode (iv_cd mi) pc = .ok (.aaload, 1))
    (h0 : (iv_lay L x).1 = 1) (h1 : 2 ≤ (iv_lay L x).2.1) (hn : x ≤ w.1) (hi0 : 0 ≤ i) (hi1 : i < (iv_lay L x).2.2)
    (hR : iv_Rel D dA L b B0 n0 (iv_ml mi) s H w la ls (ivI i :: ivR x :: st) locs cells slots) (kk : iv_KK p l e R s m args below meth c Q D dA L b B0 n0 mi (pc + 1, ls, ivR (w.2.2 x i.toNat) :: st, w)) :
    iv_G p l e R s m args below meth c Q b B0 H locs cells slots pc la (ivI i :: ivR x :: st) := by
  have hin : iv_in i := hR.hd
  obtain ⟨j1, j2⟩ := iv_idx hin hi0 hi1
  have hlt : i.toNat < (iv_lay L x).2.2 := by omega
  show W p l e R s m args below meth c H locs cells slots Q (F0 m pc la (.int (Int32.ofInt i) :: iv_rv b B0 x :: _))
  rw [iv_rv_ne (by intro e; rw [e] at h0; cases h0)]
  have hx1 : x ≠ 1 := fun e => by rw [e] at h1; exact absurd (show 2 ≤ 0 from h1) (by decide)
  obtain ⟨c1, x2⟩ := iv_arrc hR.1 hx1 h0 hn
  have h4 := (iv_lay_arr hx1 h0).1
  have hty : ∃ ty, (iv_tys dA)[(iv_lay L x).2.1]? = some (dA (iv_lay L x).2.1, ty) ∧ ty.isReference = true := by
    rcases (by omega : (iv_lay L x).2.1 = 2 ∨ (iv_lay L x).2.1 = 3 ∨ (iv_lay L x).2.1 = 4) with e | e | e <;> rw [e] <;> exact ⟨_, rfl, rfl⟩
  obtain ⟨ty, ht1, ht2⟩ := hty
  have hsv : iv_slot b B0 (iv_lay L x).2.1 w x i.toNat = iv_rv b B0 (w.2.2 x i.toNat) := by unfold iv_slot; rw [Nat.ble_eq_true_of_le h1]; rfl
  refine W.aald (v := iv_slot b B0 (iv_lay L x).2.1 w x i.toNat) (ty := ty) hx hb c1 (iv_aty hR.1 ht1 _ _) ht2 (fun q => by cases q) (by rw [arrV_size]; exact j1) (by rw [j2, arrV_read _ _ hlt]) rfl rfl hd ?_
  exact iv_push (v := ivR (w.2.2 x i.toNat)) hR.tl.tl hsv (hR.1.2.2.2.2.2.2.1 _ _) kk
/-- stores into arrays: the cell behind -/
theorem iv_upd_cell {x k : Nat} {v : Int} {H1 : Heap} (hx : x ≠ 1) (h0 : (iv_lay L x).1 = 1) (ht : (iv_lay L x).2.1 < 2) (hn : x ≤ w.1) (h : iv_HR D dA L b B0 s H w)
    (he : H1[iv_ad b B0 x]? = some ((arrV (dA (iv_lay L x).2.1) (iv_lay L x).2.2 (fun k => iv_slot b B0 (iv_lay L x).2.1 w x k)).setSlot k (.int (Int32.ofInt v)))) : iv_cell D dA L b B0 (w.1, iv_upd w.2.1 x k v, w.2.2) H1 x := by
  refine ⟨fun q => (by rw [h0] at q; cases q), fun _ => ?_⟩
  rw [he, arrV_store]
  congr 2
  funext j
  have hb : Nat.ble 2 (iv_lay L x).2.1 = false := by
    cases hc : Nat.ble 2 (iv_lay L x).2.1
    · rfl
    · have := Nat.le_of_ble_eq_true hc; omega
  unfold iv_slot updV iv_upd
  rw [hb]
  by_cases e : j = k
  · subst e; simp
  · simp [e]
theorem iv_upd_in {x k : Nat} {v : Int} {f : ivM} (h : ∀ y j, iv_in (f y j)) (hv : iv_in v) : ∀ y j, iv_in (iv_upd f x k v y j) := fun y j => by
  unfold iv_upd
  split
  · exact hv
  · exact h y j
theorem iv_upd_ne {x k y : Nat} {v : Int} {f : ivM} (h : y ≠ x) (j : Nat) : iv_upd f x k v y j = f y j := if_neg fun q => h q.1
theorem iv_updR_ne {x k y v : Nat} {f : ivN} (h : y ≠ x) (j : Nat) : iv_updR f x k v y j = f y j := if_neg fun q => h q.1
theorem iv_updR_le {x k v n : Nat} {f : ivN} (h : ∀ y j, f y j ≤ n) (hv : v ≤ n) : ∀ y j, iv_updR f x k v y j ≤ n := fun y j => by
  unfold iv_updR
  split
  · exact hv
  · exact h y j
theorem iv_s_iast {pc x : Nat} {i v : Int} (hx : p.tables.exec = Jvm.exec) (hb : c.code = iv_cd mi) (hd : decode (iv_cd mi) pc = .ok (.iastore, 1)) (hx2 : 2 ≤ x)
    (h0 : (iv_lay L x).1 = 1) (h1 : (iv_lay L x).2.1 = 0) (hn : x ≤ w.1) (hi0 : 0 ≤ i) (hi1 : i < (iv_lay L x).2.2)
    (hR : iv_Rel D dA L b B0 n0 (iv_ml mi) s H w la ls (ivI v :: ivI i :: ivR x :: st) locs cells slots) (kk : iv_KK p l e R s m args below meth c Q D dA L b B0 n0 mi (pc + 1, ls, st, w.1, iv_upd w.2.1 x i.toNat v, w.2.2)) :
    iv_G p l e R s m args below meth c Q b B0 H locs cells slots pc la (ivI v :: ivI i :: ivR x :: st) := by
  have hin : iv_in i := hR.hd2
  have hv : iv_in v := hR.hd
  obtain ⟨j1, j2⟩ := iv_idx hin hi0 hi1
  show W p l e R s m args below meth c H locs cells slots Q (F0 m pc la (.int (Int32.ofInt v) :: .int (Int32.ofInt i) :: iv_rv b B0 x :: _))
  rw [iv_rv_ne (by omega)]
  have hx1 : x ≠ 1 := by omega
  obtain ⟨c1, -⟩ := iv_arrc hR.1 hx1 h0 hn
  have c1' := c1
  rw [h1] at c1
  refine W.iast hx hb c1 (iv_aty hR.1 (ty := .int) rfl _ _) (fun q => by cases q) (by rw [arrV_size]; exact j1) rfl rfl hd fun H1 a1 a2 a3 => ?_
  rw [j2] at a1 ⊢
  exact kk la H1 _ cells slots (iv_Rel.put hR.tl.tl.tl hx2 rfl a2 a3 (iv_upd_cell hx1 h0 (by omega) hn hR.1 (by rw [a1, h1])) (fun y hy j => ⟨iv_upd_ne hy j, rfl⟩) (iv_upd_in hR.1.2.2.2.2.2.1 hv) hR.1.2.2.2.2.2.2.1)
theorem iv_s_bast {pc x : Nat} {i v : Int} (hx : p.tables.exec = Jvm.exec) (hb : c.code = iv_cd mi) (hd : decode (iv_cd mi) pc = .ok (.bastore, 1)) (hx2 : 2 ≤ x)
    (h0 : (iv_lay L x).1 = 1) (h1 : (iv_lay L x).2.1 = 1) (hn : x ≤ w.1) (hi0 : 0 ≤ i) (hi1 : i < (iv_lay L x).2.2)
    (hR : iv_Rel D dA L b B0 n0 (iv_ml mi) s H w la ls (ivI v :: ivI i :: ivR x :: st) locs cells slots) (kk : iv_KK p l e R s m args below meth c Q D dA L b B0 n0 mi (pc + 1, ls, st, w.1, iv_upd w.2.1 x i.toNat (v % 2), w.2.2)) :
    iv_G p l e R s m args below meth c Q b B0 H locs cells slots pc la (ivI v :: ivI i :: ivR x :: st) := by
  have hin : iv_in i := hR.hd2
  have hv : iv_in v := hR.hd
  obtain ⟨j1, j2⟩ := iv_idx hin hi0 hi1
  show W p l e R s m args below meth c H locs cells slots Q (F0 m pc la (.int (Int32.ofInt v) :: .int (Int32.ofInt i) :: iv_rv b B0 x :: _))
  rw [iv_rv_ne (by omega)]
  have hx1 : x ≠ 1 := by omega
  obtain ⟨c1, -⟩ := iv_arrc hR.1 hx1 h0 hn
  rw [h1] at c1
  refine W.zast hx hb c1 (iv_aty hR.1 (ty := .boolean) rfl _ _) (fun q => by cases q) (by rw [arrV_size]; exact j1) rfl rfl hd fun H1 a1 a2 a3 => ?_
  rw [j2] at a1 ⊢
  have en : narrow .boolean (.int (Int32.ofInt v)) = .int (Int32.ofInt (v % 2)) := by show Value.int (Int32.ofInt v &&& 1) = _; rw [(iv_and1 hv).1]
  exact kk la H1 _ cells slots (iv_Rel.put hR.tl.tl.tl hx2 rfl a2 a3 (iv_upd_cell hx1 h0 (by omega) hn hR.1 (by rw [a1, h1, en])) (fun y hy j => ⟨iv_upd_ne hy j, rfl⟩) (iv_upd_in hR.1.2.2.2.2.2.1 (iv_and1 hv).2) hR.1.2.2.2.2.2.2.1)
theorem iv_s_alen {pc x : Nat} (hx : p.tables.exec = Jvm.exec) (hb : c.code = iv_cd mi) (hd : decode (iv_cd mi) pc = .ok (.arraylength, 1)) (hL : L ≤ 2048)
    (h0 : (iv_lay L x).1 = 1) (h1 : (iv_lay L x).2.1 = 0) (hn : x ≤ w.1)
    (hR : iv_Rel D dA L b B0 n0 (iv_ml mi) s H w la ls (ivR x :: st) locs cells slots) (kk : iv_KK p l e R s m args below meth c Q D dA L b B0 n0 mi (pc + 1, ls, ivI (Int.ofNat (iv_lay L x).2.2) :: st, w)) :
    iv_G p l e R s m args below meth c Q b B0 H locs cells slots pc la (ivR x :: st) := by
  show W p l e R s m args below meth c H locs cells slots Q (F0 m pc la (iv_rv b B0 x :: _))
  rw [iv_rv_ne (by intro e; rw [e] at h0; cases h0)]
  have hsz : ∀ n : Nat, n.toInt32 = Int32.ofInt (Int.ofNat n) := fun n => by rw [show Int.ofNat n = (n : Int) from rfl, Int32.ofInt_eq_ofNat]
  by_cases e1 : x = 1
  · subst e1
    obtain ⟨scr, s1, s2, s3, s4, s5⟩ := hR.1.2.2.2.1
    have hok : iv_in (Int.ofNat (iv_lay L 1).2.2) := by
      show iv_in (Int.ofNat L)
      unfold iv_in
      simp only [Int.ofNat_eq_natCast]
      omega
    refine W.alen (n := Int32.ofInt (Int.ofNat L)) hx hb s1 s2 (by rw [s4]; exact hsz L) rfl rfl hd ?_
    exact iv_push (v := ivI (Int.ofNat (iv_lay L 1).2.2)) hR.tl rfl hok kk
  · obtain ⟨c1, x2⟩ := iv_arrc hR.1 e1 h0 hn
    have h4 := (iv_lay_arr e1 h0).2
    rw [h1] at c1
    have hok : iv_in (Int.ofNat (iv_lay L x).2.2) := by
      unfold iv_in
      simp only [Int.ofNat_eq_natCast]
      omega
    refine W.alen (n := Int32.ofInt (Int.ofNat (iv_lay L x).2.2)) hx hb c1 (iv_aty hR.1 (ty := .int) rfl _ _) (by rw [arrV_size]; exact hsz _) rfl rfl hd ?_
    exact iv_push (v := ivI (Int.ofNat (iv_lay L x).2.2)) hR.tl rfl hok kk
theorem iv_s_aast {pc x y : Nat} {i : Int} (hx : p.tables.exec = Jvm.exec) (hb : c.code = iv_cd mi) (hd : decode (iv_cd mi) pc = .ok (.aastore, 1)) (hx2 : 2 ≤ x)
    (h0 : (iv_lay L x).1 = 1) (h1 : (iv_lay L x).2.1 = 2 ∨ (iv_lay L x).2.1 = 3) (hn : x ≤ w.1) (hi0 : 0 ≤ i) (hi1 : i < (iv_lay L x).2.2) (hy0 : (iv_lay L y).1 = 0) (hy1 : (iv_lay L y).2.1 = (iv_lay L x).2.1) (hyn : y ≤ w.1)
    (hR : iv_Rel D dA L b B0 n0 (iv_ml mi) s H w la ls (ivR y :: ivI i :: ivR x :: st) locs cells slots) (kk : iv_KK p l e R s m args below meth c Q D dA L b B0 n0 mi (pc + 1, ls, st, w.1, w.2.1, iv_updR w.2.2 x i.toNat y)) :
    iv_G p l e R s m args below meth c Q b B0 H locs cells slots pc la (ivR y :: ivI i :: ivR x :: st) := by
  have hin : iv_in i := hR.hd2
  obtain ⟨j1, j2⟩ := iv_idx hin hi0 hi1
  have hlt : i.toNat < (iv_lay L x).2.2 := by omega
  obtain ⟨q, g1, g2, y2, ⟨cellV, v1, v2, v3, -⟩, hS, hfc, kC, hkC, hkind⟩ := iv_objc hR.1 hy0 hyn
  show W p l e R s m args below meth c H locs cells slots Q (F0 m pc la (iv_rv b B0 y :: .int (Int32.ofInt i) :: iv_rv b B0 x :: _))
  rw [iv_rv_ne (by omega), iv_rv_ne (by omega)]
  have hx1 : x ≠ 1 := by omega
  obtain ⟨c1, -⟩ := iv_arrc hR.1 hx1 h0 hn
  have hty : ∃ C : String, (iv_tys dA)[(iv_lay L x).2.1]? = some (dA (iv_lay L x).2.1, .object C) ∧ iv_s q.1 = C := by
    rw [hy1] at g1
    rcases h1 with h1 | h1 <;> rw [h1] at g1 ⊢ <;> cases g1 <;> exact ⟨_, rfl, rfl⟩
  obtain ⟨C, t1, t2⟩ := hty
  obtain ⟨kA, comp, k1, k2, k3, -⟩ := (hR.1.2.2.2.2.2.2.2.2 _ _ t1).2
  rw [t2] at hfc
  have hcomp : comp = D.1 (iv_lay L y).2.1 := Option.some.inj (k3.symm.trans hfc)
  subst hcomp
  have hb2 : Nat.ble 2 (iv_lay L x).2.1 = true := Nat.ble_eq_true_of_le (by omega)
  refine W.aast hx hb c1 (fun q h => by cases h) (fun h => by cases h) k1 k2 rfl hkC ⟨fun q => j1 (Or.inl q), by rw [arrV_size, j2]; exact hlt⟩ v1 (fun q h => by rw [v3] at h; cases h) (by rw [v2]; exact hkC) (by rw [v2]; exact va_assign (C := C) ⟨hfc, kC, hkC, hkind⟩) rfl rfl hd fun H1 a1 a2 a3 => ?_
  rw [j2] at a1 ⊢
  refine kk la H1 _ cells slots (iv_Rel.put hR.tl.tl.tl hx2 rfl a2 a3 ⟨fun q => (by rw [h0] at q; cases q), fun _ => ?_⟩ (fun z hz j => ⟨rfl, iv_updR_ne hz j⟩) hR.1.2.2.2.2.2.1 (iv_updR_le hR.1.2.2.2.2.2.2.1 hyn))
  rw [a1, arrV_store]
  congr 2
  funext j
  unfold iv_slot updV iv_updR
  rw [hb2]
  by_cases ej : j = i.toNat
  · subst ej
    simp only [cond_true, and_self, if_true]
    exact (iv_rv_ne (by omega)).symm
  · simp [ej]
end IVS
