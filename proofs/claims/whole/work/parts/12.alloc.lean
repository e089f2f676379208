/-! ONE STEP, over the machine: new cells -/
theorem iv_ac_int : Jvm.Cond.arrayClass .int ∈ iv_TB := iv_at_mem (i := 95) (c := (17, 0, 0, 0, 0, 0)) (by decide +kernel)
theorem iv_ac_bool : Jvm.Cond.arrayClass .boolean ∈ iv_TB := iv_at_mem (i := 847) (c := (17, 1, 0, 0, 0, 0)) (by decide +kernel)
section IVS
variable {p : Program} {l : Launch} {e : Env} {R : Room} {s : State} {m : MethodId} {args : Array Value} {below : List Frame} {meth : Method} {c : Code} {Q : State → Prop}
variable {D : va_G} {dA : Nat → ClassId} {L b B0 n0 mi : Nat} {H : Heap} {w : ivS} {la : Array Slot} {ls st : List ivV} {locs : List Loc} {cells slots : Nat}
theorem iv_HR.grow {H1 : Heap} {w1 : ivS} {k : Nat} (h : iv_HR D dA L b B0 s H w) (hn : w1.1 = w.1 + k) (hz : H1.size = H.size + k) (ho : ∀ q, q < H.size → H1[q]? = H[q]?) (hc : ∀ x, w.1 < x → x ≤ w.1 + k → iv_cell D dA L b B0 w1 H1 x)
    (hm : ∀ y, y ≤ w.1 → ∀ j, w1.2.1 y j = w.2.1 y j ∧ w1.2.2 y j = w.2.2 y j) (hi : ∀ y j, iv_in (w1.2.1 y j)) (hr : ∀ y j, w1.2.2 y j ≤ w1.1) : iv_HR D dA L b B0 s H1 w1 := by
  obtain ⟨h1, h2, h3, h4, h5, h6, h7, h8⟩ := h
  refine ⟨by omega, by rw [hz, h2, hn]; omega, h3, ?_, fun y y2 yn => ?_, hi, hr, h8⟩
  · have e : (fun k => Int32.ofInt (w1.2.1 1 k)) = fun k => Int32.ofInt (w.2.1 1 k) := funext fun k => by rw [(hm 1 h1 k).1]
    rw [e]
    exact h4.kept (ho _ (by omega))
  · by_cases e : w.1 < y
    · exact hc y e (by rw [← hn]; exact yn)
    · have hq : H1[iv_ad b B0 y]? = H[iv_ad b B0 y]? := ho _ (by unfold iv_ad; rw [if_neg (by omega)]; omega)
      obtain ⟨c1, c2⟩ := h5 y y2 (by omega)
      have es : ∀ ty j, iv_slot b B0 ty w1 y j = iv_slot b B0 ty w y j := fun ty j => by unfold iv_slot; rw [(hm y (by omega) j).1, (hm y (by omega) j).2]
      refine ⟨fun q => ?_, fun q => ?_⟩
      · exact ((c1 q).kept hq).to fun k _ => (es _ k).symm
      · rw [hq, c2 q]
        simp only [es]
theorem iv_ok_mono {n k : Nat} {v : ivV} (h : iv_ok n v) (hk : n ≤ k) : iv_ok k v := by
  rcases v with x | x | x | x
  · exact h
  · exact h
  · exact Nat.le_trans h hk
  · exact h
theorem iv_Rel.grow {H1 : Heap} {w1 : ivS} {k ns : Nat} (hR : iv_Rel D dA L b B0 n0 (iv_ml mi) s H w la ls st locs cells slots) (hn : w1.1 = w.1 + k) (hs : iv_sl L w1.1 = iv_sl L w.1 + ns) (hz : H1.size = H.size + k) (ho : ∀ q, q < H.size → H1[q]? = H[q]?) (hc : ∀ x, w.1 < x → x ≤ w.1 + k → iv_cell D dA L b B0 w1 H1 x)
    (hm : ∀ y, y ≤ w.1 → ∀ j, w1.2.1 y j = w.2.1 y j ∧ w1.2.2 y j = w.2.2 y j) (hi : ∀ y j, iv_in (w1.2.1 y j)) (hr : ∀ y j, w1.2.2 y j ≤ w1.1) : iv_Rel D dA L b B0 n0 (iv_ml mi) s H1 w1 la ls st locs (cells + k) (slots + ns) := by
  obtain ⟨r1, r2, r3, r4, r5, ⟨r6, r8⟩, r7⟩ := hR
  have hle : w.1 ≤ w1.1 := by omega
  refine ⟨r1.grow hn hz ho hc hm hi hr, r2, fun v hv => iv_ok_mono (r3 v hv) hle, fun v hv => iv_ok_mono (r4 v hv) hle, ⟨by rw [hz]; have := r5.1; omega, fun q h1 h2 => ?_, r5.2.2⟩, ⟨by omega, by omega⟩, r7⟩
  rw [ho q (Nat.lt_of_lt_of_le h1 r5.1)]
  exact r5.2.1 q h1 h2
theorem iv_zer_in {lo hi : Nat} {f : ivM} (h : ∀ y j, iv_in (f y j)) : ∀ y j, iv_in (iv_zer f lo hi y j) := fun y j => by
  unfold iv_zer
  split
  · exact iv_in0
  · exact h y j
theorem iv_zer_old {lo hi y : Nat} {f : ivM} (h : y < lo) (j : Nat) : iv_zer f lo hi y j = f y j := if_neg fun q => by omega
theorem iv_zerR_old {lo hi y : Nat} {f : ivN} (h : y < lo) (j : Nat) : iv_zerR f lo hi y j = f y j := if_neg fun q => by omega
theorem iv_zer_new {lo hi y : Nat} {f : ivM} (h : lo ≤ y) (h2 : y ≤ hi) (j : Nat) : iv_zer f lo hi y j = 0 := if_pos ⟨h, h2⟩
theorem iv_zerR_new {lo hi y : Nat} {f : ivN} (h : lo ≤ y) (h2 : y ≤ hi) (j : Nat) : iv_zerR f lo hi y j = 0 := if_pos ⟨h, h2⟩
theorem iv_zerR_le {lo hi n k : Nat} {f : ivN} (h : ∀ y j, f y j ≤ n) (hk : n ≤ k) : ∀ y j, iv_zerR f lo hi y j ≤ k := fun y j => by
  unfold iv_zerR
  split
  · omega
  · exact Nat.le_trans (h y j) hk
theorem iv_ad_new (h : iv_HR D dA L b B0 s H w) : iv_ad b B0 (w.1 + 1) = H.size := by
  have h1 := h.1
  have h2 := h.2.1
  unfold iv_ad
  rw [if_neg (by omega)]
  omega
theorem iv_s_new {pc idx : Nat} {ee : ivE} (hx : p.tables.exec = Jvm.exec) (hb : c.code = iv_cd mi) (hown : s.vm.findClass (iv_nm mi).cls = some m.cls) (hts : ∀ w ∈ iv_TB, w.before args s = true) (hd : decode (iv_cd mi) pc = .ok (.new idx, 3)) {q : Nat × Nat} (hq : iv_cls[ee.2.2.2.1]? = some q) (hw : Jvm.Cond.classLink (iv_nm mi).cls idx (iv_s q.1) ∈ iv_TB)
    (h0 : (iv_lay L (w.1 + 1)).1 = 0) (h1 : (iv_lay L (w.1 + 1)).2.1 = ee.2.2.2.1) (hc : w.1 + 1 ≤ R.cells + n0) (hs : iv_sl L (w.1 + 1) ≤ R.slots + iv_sl L n0)
    (hR : iv_Rel D dA L b B0 n0 (iv_ml mi) s H w la ls st locs cells slots) (kk : iv_KK p l e R s m args below meth c Q D dA L b B0 n0 mi (pc + 3, ls, ivR (w.1 + 1) :: st, w.1 + 1, iv_zer w.2.1 (w.1 + 1) (w.1 + 1), iv_zerR w.2.2 (w.1 + 1) (w.1 + 1))) :
    iv_G p l e R s m args below meth c Q b B0 H locs cells slots pc la st := by
  obtain ⟨hw1, q', g1, g2⟩ := iv_lay_obj h0
  rw [h1] at g1
  cases hq.symm.trans g1
  obtain ⟨hin, hty, -, hinst, hini⟩ := iv_cg_of hq
  have hKn : u_Kn s (iv_s q.1) (iv_Tf ee.2.2.2.1) q.2 (D.1 ee.2.2.2.1) (D.2 ee.2.2.2.1) := hR.1.2.2.2.2.2.2.2.1 _ _ (iv_cls_of hq).1
  have hsl : iv_sl L (w.1 + 1) = iv_sl L w.1 + q.2 := by show iv_sl L w.1 + (iv_lay L (w.1 + 1)).2.2 = _; rw [g2]
  obtain ⟨r6, r8⟩ := hR.2.2.2.2.2.1
  refine W.newcK hx hb hown (hts _ hw) (hts _ hinst) (hts _ hini) rfl hd (by omega) (by omega) hKn.2.1 rfl fun H1 kC hkC e1 z1 o1 => ?_
  have had := iv_ad_new hR.1
  have hrel := iv_Rel.grow (w1 := (w.1 + 1, iv_zer w.2.1 (w.1 + 1) (w.1 + 1), iv_zerR w.2.2 (w.1 + 1) (w.1 + 1))) hR rfl hsl z1 o1 (fun x hx1 hx2 => ?_) (fun y hy j => ⟨iv_zer_old (by omega) j, iv_zerR_old (by omega) j⟩) (iv_zer_in hR.1.2.2.2.2.2.1) (iv_zerR_le hR.1.2.2.2.2.2.2.1 (by show w.1 ≤ w.1 + 1; omega))
  · have h2 := kk la H1 locs (cells + 1) (slots + q.2) (hrel.cons (v := ivR (w.1 + 1)) (Nat.le_refl _))
    have e2 : iv_cv b B0 (ivR (w.1 + 1)) = .ref H.size := by rw [← had]; exact iv_rv_ne (by omega)
    show W p l e R s m args below meth c H1 locs (cells + 1) (slots + q.2) Q (F0 m (pc + 3) la (.ref H.size :: st.map (iv_cv b B0)))
    rw [← e2]
    exact h2
  · have ex : x = w.1 + 1 := by omega
    subst ex
    refine ⟨fun _ => ?_, fun h' => by rw [h0] at h'; cases h'⟩
    rw [h1, ← g2, had]
    refine (u_born (fun k => ((parseFieldDescriptor (iv_Tf ee.2.2.2.1 k).2.2.1).getD .int)) hts hin hKn hkC e1 (fun k hk => by obtain ⟨t, ht, -⟩ := hty k hk; rw [ht]; rfl)).to fun k hk => ?_
    obtain ⟨t, ht, hk3⟩ := hty k hk
    show defaultValue ((parseFieldDescriptor (iv_Tf ee.2.2.2.1 k).2.2.1).getD .int) = iv_slot b B0 _ _ _ _
    rw [ht]
    unfold iv_slot
    dsimp only
    rw [show (iv_zerR w.2.2 (w.1 + 1) (w.1 + 1) (w.1 + 1) k) = 0 from iv_zerR_new (Nat.le_refl _) (Nat.le_refl _) k, show (iv_zer w.2.1 (w.1 + 1) (w.1 + 1) (w.1 + 1) k) = 0 from iv_zer_new (Nat.le_refl _) (Nat.le_refl _) k]
    rcases hk3 with ⟨a, rfl⟩ | ⟨a, rfl⟩ | ⟨a, ⟨n, rfl⟩ | ⟨n, rfl⟩⟩ <;> rw [a] <;> rfl
/-- an array of ints, of booleans, of references: its cell is new -/
theorem iv_narr {pc len : Nat} {cA : ClassId} {H1 : Heap} (hR : iv_Rel D dA L b B0 n0 (iv_ml mi) s H w la ls st locs cells slots) (h0 : (iv_lay L (w.1 + 1)).1 = 1) (hcA : dA (iv_lay L (w.1 + 1)).2.1 = cA) (e1 : H1[H.size]? = some (arrV cA (iv_lay L (w.1 + 1)).2.2 (fun _ => bif Nat.ble 2 (iv_lay L (w.1 + 1)).2.1 then .null else .int 0))) (z1 : H1.size = H.size + 1) (o1 : ∀ q, q < H.size → H1[q]? = H[q]?) (hlen : len = (iv_lay L (w.1 + 1)).2.2)
    (kk : iv_KK p l e R s m args below meth c Q D dA L b B0 n0 mi (pc, ls, ivR (w.1 + 1) :: st, w.1 + 1, iv_zer w.2.1 (w.1 + 1) (w.1 + 1), iv_zerR w.2.2 (w.1 + 1) (w.1 + 1))) :
    W p l e R s m args below meth c H1 locs (cells + 1) (slots + len) Q (F0 m pc la (.ref H.size :: st.map (iv_cv b B0))) := by
  subst hlen
  have had := iv_ad_new hR.1
  have hrel := iv_Rel.grow (w1 := (w.1 + 1, iv_zer w.2.1 (w.1 + 1) (w.1 + 1), iv_zerR w.2.2 (w.1 + 1) (w.1 + 1))) (ns := (iv_lay L (w.1 + 1)).2.2) hR rfl rfl z1 o1 (fun x hx1 hx2 => ?_) (fun y hy j => ⟨iv_zer_old (by omega) j, iv_zerR_old (by omega) j⟩) (iv_zer_in hR.1.2.2.2.2.2.1) (iv_zerR_le hR.1.2.2.2.2.2.2.1 (by show w.1 ≤ w.1 + 1; omega))
  · have h2 := kk la H1 locs _ _ (hrel.cons (v := ivR (w.1 + 1)) (Nat.le_refl _))
    have e2 : iv_cv b B0 (ivR (w.1 + 1)) = .ref H.size := by rw [← had]; exact iv_rv_ne (by omega)
    rw [← e2]
    exact h2
  · have ex : x = w.1 + 1 := by omega
    subst ex
    refine ⟨fun h' => (by rw [h0] at h'; cases h'), fun _ => ?_⟩
    rw [had, e1, hcA]
    congr 2
    funext j
    unfold iv_slot
    dsimp only
    rw [show (iv_zerR w.2.2 (w.1 + 1) (w.1 + 1) (w.1 + 1) j) = 0 from iv_zerR_new (Nat.le_refl _) (Nat.le_refl _) j, show (iv_zer w.2.1 (w.1 + 1) (w.1 + 1) (w.1 + 1) j) = 0 from iv_zer_new (Nat.le_refl _) (Nat.le_refl _) j]
    rfl
theorem iv_small {x : Int} {n : Nat} (hx : x = n) (hn : n ≤ 1792) : ¬ Int32.ofInt x < 0 ∧ (Int32.ofInt x).toNatClampNeg = n := by
  have hi : iv_in x := by unfold iv_in; omega
  have e : (Int32.ofInt x).toNatClampNeg = x.toNat := by show (Int32.ofInt x).toInt.toNat = x.toNat; rw [iv_of32 hi]
  refine ⟨fun h => ?_, by rw [e]; omega⟩
  rw [← iv_zero32, iv_lt32 hi iv_in0] at h
  omega
theorem iv_s_newarr {pc : Nat} {t : ArrayType} {x : Int} {ee : ivE} (hx : p.tables.exec = Jvm.exec) (hb : c.code = iv_cd mi) (hts : ∀ w ∈ iv_TB, w.before args s = true) (hd : decode (iv_cd mi) pc = .ok (.newarray t, 2)) (ht : ee.2.2.2.1 = 0 ∧ t = .int ∨ ee.2.2.2.1 = 1 ∧ t = .boolean) (hw1 : w.1 + 1 ≠ 1)
    (h0 : (iv_lay L (w.1 + 1)).1 = 1) (h1 : (iv_lay L (w.1 + 1)).2.1 = ee.2.2.2.1) (hlen : x = (iv_lay L (w.1 + 1)).2.2) (hc : w.1 + 1 ≤ R.cells + n0) (hs : iv_sl L (w.1 + 1) ≤ R.slots + iv_sl L n0)
    (hR : iv_Rel D dA L b B0 n0 (iv_ml mi) s H w la ls (ivI x :: st) locs cells slots) (kk : iv_KK p l e R s m args below meth c Q D dA L b B0 n0 mi (pc + 2, ls, ivR (w.1 + 1) :: st, w.1 + 1, iv_zer w.2.1 (w.1 + 1) (w.1 + 1), iv_zerR w.2.2 (w.1 + 1) (w.1 + 1))) :
    iv_G p l e R s m args below meth c Q b B0 H locs cells slots pc la (ivI x :: st) := by
  have h4 := (iv_lay_arr hw1 h0).2
  obtain ⟨n1, n2⟩ := iv_small hlen h4
  obtain ⟨r6, r8⟩ := hR.2.2.2.2.2.1
  have hsl : iv_sl L (w.1 + 1) = iv_sl L w.1 + (iv_lay L (w.1 + 1)).2.2 := rfl
  rcases ht with ⟨a, rfl⟩ | ⟨a, rfl⟩
  · refine va_newaK (atype := .int) hx hb (hts _ iv_ac_int) rfl hd rfl n1 n2 (by show (iv_lay L (w.1 + 1)).2.2 * 4 ≤ _; omega) (by omega) (by omega) rfl fun H1 cA e1 z1 o1 _ hNm => ?_
    rw [a] at h1
    have hcA : dA 0 = cA := Option.some.inj ((hR.1.2.2.2.2.2.2.2.2 0 (dA 0, .int) rfl).2.symm.trans hNm)
    exact iv_narr (cA := cA) hR.tl h0 (by rw [h1]; exact hcA) (by rw [e1, h1]; rfl) z1 o1 rfl kk
  · refine va_newaK (atype := .boolean) hx hb (hts _ iv_ac_bool) rfl hd rfl n1 n2 (by show (iv_lay L (w.1 + 1)).2.2 * 1 ≤ _; omega) (by omega) (by omega) rfl fun H1 cA e1 z1 o1 _ hNm => ?_
    rw [a] at h1
    have hcA : dA 1 = cA := Option.some.inj ((hR.1.2.2.2.2.2.2.2.2 1 (dA 1, .boolean) rfl).2.symm.trans hNm)
    exact iv_narr (cA := cA) hR.tl h0 (by rw [h1]; exact hcA) (by rw [e1, h1]; rfl) z1 o1 rfl kk
theorem iv_s_anew {pc idx : Nat} {x : Int} {C : String} {k : Nat} (hx : p.tables.exec = Jvm.exec) (hb : c.code = iv_cd mi) (hown : s.vm.findClass (iv_nm mi).cls = some m.cls) (hd : decode (iv_cd mi) pc = .ok (.anewarray idx, 3)) (hw : (Jvm.Cond.classLink (iv_nm mi).cls idx C).before args s = true) (hAO : va_AO C s) (hk : k = 2 ∨ k = 3) (htk : (iv_tys dA)[k]? = some (dA k, .object C)) (hw1 : w.1 + 1 ≠ 1)
    (h0 : (iv_lay L (w.1 + 1)).1 = 1) (h1 : (iv_lay L (w.1 + 1)).2.1 = k) (hlen : x = (iv_lay L (w.1 + 1)).2.2) (hc : w.1 + 1 ≤ R.cells + n0) (hs : iv_sl L (w.1 + 1) ≤ R.slots + iv_sl L n0)
    (hR : iv_Rel D dA L b B0 n0 (iv_ml mi) s H w la ls (ivI x :: st) locs cells slots) (kk : iv_KK p l e R s m args below meth c Q D dA L b B0 n0 mi (pc + 3, ls, ivR (w.1 + 1) :: st, w.1 + 1, iv_zer w.2.1 (w.1 + 1) (w.1 + 1), iv_zerR w.2.2 (w.1 + 1) (w.1 + 1))) :
    iv_G p l e R s m args below meth c Q b B0 H locs cells slots pc la (ivI x :: st) := by
  have h4 := (iv_lay_arr hw1 h0).2
  obtain ⟨n1, n2⟩ := iv_small hlen h4
  obtain ⟨r6, r8⟩ := hR.2.2.2.2.2.1
  have hsl : iv_sl L (w.1 + 1) = iv_sl L w.1 + (iv_lay L (w.1 + 1)).2.2 := rfl
  refine W.anew hx hb hown hw (va_AO.use hAO) rfl hd rfl n1 (by rw [n2]; omega) (by omega) (by rw [n2]; omega) fun cA kA comp f1 f2 f3 f4 => ?_
  rw [n2]
  generalize hH1 : H.push ({ cls := cA, slots := Array.replicate (iv_lay L (w.1 + 1)).2.2 .null, vm := .none } : Cell) = H1
  have z1 : H1.size = H.size + 1 := by rw [← hH1, Array.size_push]
  have e1 : H1[H.size]? = some (arrV cA (iv_lay L (w.1 + 1)).2.2 (fun _ => .null)) := by rw [← hH1, Array.getElem?_push_size, ← arrV_new]
  have o1 : ∀ q : Nat, q < H.size → H1[q]? = H[q]? := fun q hq => by rw [← hH1, Array.getElem?_push, if_neg (Nat.ne_of_lt hq)]
  obtain ⟨kA', comp', -, -, -, k4⟩ := (hR.1.2.2.2.2.2.2.2.2 _ _ htk).2
  have hcA : dA k = cA := Option.some.inj (k4.symm.trans f1)
  have hb2 : Nat.ble 2 k = true := Nat.ble_eq_true_of_le (by omega)
  exact iv_narr (cA := cA) hR.tl h0 (by rw [h1]; exact hcA) (by rw [e1, h1, hb2]; rfl) z1 o1 rfl kk
theorem iv_outer (cA : ClassId) (N h0 : Nat) : ∀ i : Nat, Jvm.Free.Multi.outerC cA N h0 i = arrV cA N (fun j => if j < i then .ref (h0 + 1 + j) else .null)
  | 0 => (arrV_new cA N .null).trans (congrArg (arrV cA N) (funext fun j => (if_neg (Nat.not_lt_zero j)).symm))
  | i + 1 => by
    show (Jvm.Free.Multi.outerC cA N h0 i).setSlot i (.ref (h0 + 1 + i)) = _
    rw [iv_outer cA N h0 i, arrV_store]
    refine congrArg (arrV cA N) (funext fun j => ?_)
    unfold updV
    by_cases ej : j = i
    · rw [if_pos ej, if_pos (by omega), ej]
    · rw [if_neg ej]
      by_cases h : j < i
      · exact (if_pos h).trans (if_pos (show j < i + 1 by omega)).symm
      · exact (if_neg h).trans (if_neg (show ¬ j < i + 1 by omega)).symm
theorem iv_s_mna {pc idx : Nat} (hx : p.tables.exec = Jvm.exec) (hb : c.code = iv_cd mi) (hown : s.vm.findClass (iv_nm mi).cls = some m.cls) (hts : ∀ w ∈ iv_TB, w.before args s = true) (hd : decode (iv_cd mi) pc = .ok (.multianewarray idx 2, 4)) (hw : (Jvm.Cond.classLink (iv_nm mi).cls idx "[[I").before args s = true) (hAO : iv_AOA s)
    (h6 : iv_six L w.1 = true) (hc : w.1 + 7 ≤ R.cells + n0) (hs : iv_sl L (w.1 + 7) ≤ R.slots + iv_sl L n0)
    (hR : iv_Rel D dA L b B0 n0 (iv_ml mi) s H w la ls (ivI 6 :: ivI 6 :: st) locs cells slots) (kk : iv_KK p l e R s m args below meth c Q D dA L b B0 n0 mi (pc + 4, ls, ivR (w.1 + 1) :: st, w.1 + 7, iv_zer w.2.1 (w.1 + 1) (w.1 + 7), iv_row (iv_zerR w.2.2 (w.1 + 1) (w.1 + 7)) (w.1 + 1) 6)) :
    iv_G p l e R s m args below meth c Q b B0 H locs cells slots pc la (ivI 6 :: ivI 6 :: st) := by
  unfold iv_six at h6
  simp only [Bool.and_eq_true, decide_eq_true_eq] at h6
  obtain ⟨l1, l2, l3, l4, l5, l6, l7⟩ := h6
  have hsl : iv_sl L (w.1 + 7) = iv_sl L w.1 + 42 := by
    show ((((((iv_sl L w.1 + (iv_lay L (w.1 + 1)).2.2) + (iv_lay L (w.1 + 2)).2.2) + (iv_lay L (w.1 + 3)).2.2) + (iv_lay L (w.1 + 4)).2.2) + (iv_lay L (w.1 + 5)).2.2) + (iv_lay L (w.1 + 6)).2.2) + (iv_lay L (w.1 + 7)).2.2 = _
    have e1 : (iv_lay L (w.1 + 1)).2.2 = 6 := by rw [l1]
    have e2 : (iv_lay L (w.1 + 2)).2.2 = 6 := by rw [l2]
    have e3 : (iv_lay L (w.1 + 3)).2.2 = 6 := by rw [l3]
    have e4 : (iv_lay L (w.1 + 4)).2.2 = 6 := by rw [l4]
    have e5 : (iv_lay L (w.1 + 5)).2.2 = 6 := by rw [l5]
    have e6 : (iv_lay L (w.1 + 6)).2.2 = 6 := by rw [l6]
    have e7 : (iv_lay L (w.1 + 7)).2.2 = 6 := by rw [l7]
    rw [e1, e2, e3, e4, e5, e6, e7]
  obtain ⟨r6, r8⟩ := hR.2.2.2.2.2.1
  intro T hT X
  obtain ⟨vm₁, cA, comp, -, fA, fC, -, -, X', step⟩ := Jvm.Stand.multianewarray2F X hx (ty := .int) hown hw hAO (hts _ iv_ac_int) (g := F0 m pc la (.int 6 :: .int 6 :: st.map (iv_cv b B0))) (n := 6) (k := 6) rfl (by rw [hb]; exact hd) rfl (by decide) (by decide) (by decide) (by decide) (by decide) rfl rfl (show cells + 7 ≤ R.cells by omega) (show slots + 42 ≤ R.slots by omega)
  have hcA : dA 4 = cA := Option.some.inj ((hR.1.2.2.2.2.2.2.2.2 4 (dA 4, .array .int) rfl).2.symm.trans fA)
  have hcI : dA 0 = comp := Option.some.inj ((hR.1.2.2.2.2.2.2.2.2 0 (dA 0, .int) rfl).2.symm.trans fC)
  obtain ⟨f1, f2, -, -⟩ := Jvm.Free.Multi.fill_facts (T.setVm vm₁) cA comp 6 6 (.int 0) 6
  have f3 := fun (a : Addr) (ha : a < (T.setVm vm₁).heap.size) => Jvm.Free.Multi.fill_old (T.setVm vm₁) cA comp 6 6 (.int 0) (a := a) ha 6
  have f4 := Jvm.Free.Multi.fill_inner (T.setVm vm₁) cA comp 6 6 (.int 0) 6
  have hTh : (T.setVm vm₁).heap = H := hT
  rw [hTh] at f1 f2 f3 f4
  have had := iv_ad_new hR.1
  have hadj : ∀ j : Nat, iv_ad b B0 (w.1 + 1 + 1 + j) = H.size + 1 + j := fun j => by
    have g1 := hR.1.1
    have g2 := hR.1.2.1
    unfold iv_ad
    rw [if_neg (by omega)]
    omega
  rw [iv_outer] at f2
  have hrel := iv_Rel.grow (H1 := (Jvm.Free.Multi.fill (T.setVm vm₁) cA comp 6 6 (.int 0) 6).heap) (w1 := (w.1 + 7, iv_zer w.2.1 (w.1 + 1) (w.1 + 7), iv_row (iv_zerR w.2.2 (w.1 + 1) (w.1 + 7)) (w.1 + 1) 6)) (k := 7) (ns := 42) hR.tl.tl rfl hsl (by rw [f1]) f3 (fun x hx1 hx2 => ?_) (fun y hy j => ⟨iv_zer_old (by omega) j, ?_⟩) (iv_zer_in hR.1.2.2.2.2.2.1) (fun y j => ?_)
  · have h2 := kk la _ locs _ _ (hrel.cons (v := ivR (w.1 + 1)) (show w.1 + 1 ≤ w.1 + 7 by omega))
    obtain ⟨t, a1, b1⟩ := h2 _ rfl X'
    refine ⟨t, step t ?_, b1⟩
    have e2 : iv_cv b B0 (ivR (w.1 + 1)) = .ref T.heap.size := by rw [hT, ← had]; exact iv_rv_ne (by omega)
    rw [← e2]
    exact a1
  · by_cases ex : x = w.1 + 1
    · subst ex
      refine ⟨fun h' => (by rw [l1] at h'; cases h'), fun _ => ?_⟩
      rw [l1, had, f2, hcA]
      refine congrArg some (congrArg (arrV cA 6) (funext fun j => ?_))
      show _ = iv_rv b B0 (iv_row (iv_zerR w.2.2 (w.1 + 1) (w.1 + 7)) (w.1 + 1) 6 (w.1 + 1) j)
      unfold iv_row
      rw [if_pos rfl]
      show (if j < 6 then Value.ref (H.size + 1 + j) else .null) = iv_rv b B0 (if j < 6 then w.1 + 1 + 1 + j else 0)
      by_cases hj : j < 6
      · rw [if_pos hj, if_pos hj, iv_rv_ne (by omega), hadj]
      · rw [if_neg hj, if_neg hj]; rfl
    · have hlx : iv_lay L x = (1, 0, 6) := by
        rcases (by omega : x = w.1 + 2 ∨ x = w.1 + 3 ∨ x = w.1 + 4 ∨ x = w.1 + 5 ∨ x = w.1 + 6 ∨ x = w.1 + 7) with e | e | e | e | e | e
        · rw [e]; exact l2
        · rw [e]; exact l3
        · rw [e]; exact l4
        · rw [e]; exact l5
        · rw [e]; exact l6
        · rw [e]; exact l7
      obtain ⟨j, hj⟩ : ∃ j, x = w.1 + 1 + 1 + j := ⟨x - (w.1 + 2), by omega⟩
      refine ⟨fun h' => (by rw [hlx] at h'; cases h'), fun _ => ?_⟩
      rw [hlx, hj, hadj, f4 j (by omega), hcI]
      refine congrArg some ((arrV_new comp 6 (.int 0)).trans (congrArg (arrV comp 6) (funext fun k => ?_)))
      show _ = Value.int (Int32.ofInt (iv_zer w.2.1 (w.1 + 1) (w.1 + 7) (w.1 + 1 + 1 + j) k))
      rw [show (iv_zer w.2.1 (w.1 + 1) (w.1 + 7) (w.1 + 1 + 1 + j) k) = 0 from iv_zer_new (by omega) (by omega) k]
      rfl
  · show iv_row (iv_zerR w.2.2 (w.1 + 1) (w.1 + 7)) (w.1 + 1) 6 y j = w.2.2 y j
    unfold iv_row
    rw [if_neg (by omega)]
    exact iv_zerR_old (by omega) j
  · show iv_row (iv_zerR w.2.2 (w.1 + 1) (w.1 + 7)) (w.1 + 1) 6 y j ≤ w.1 + 7
    unfold iv_row
    split
    · split <;> omega
    · exact iv_zerR_le hR.1.2.2.2.2.2.2.1 (by omega) y j
end IVS
