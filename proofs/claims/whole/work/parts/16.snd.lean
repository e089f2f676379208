/-! RUNS, by induction on the steps -/
section IVS
variable {l : Launch} {D : va_G} {dA : Nat → ClassId} {L b B0 : Nat}
variable {p : Program} {e : Env} {R : Room} {s : State} {m : MethodId} {args : Array Value} {below : List Frame} {meth : Method} {c : Code} {Q : State → Prop}
variable {n0 mi : Nat} {H : Heap} {w : ivS} {la : Array Slot} {ls st : List ivV} {locs : List Loc} {cells slots : Nat}
theorem iv_rev_map (as rest : List ivV) : ((as.reverse ++ rest).map (iv_cv b B0)) = (as.map (iv_cv b B0)).reverse ++ rest.map (iv_cv b B0) := by
  rw [List.map_append, List.map_reverse]
/-- the parts of a call's check -/
theorem iv_gc_of {idx kind : Nat} {ee : ivE} (h : iv_gc mi ee idx kind = true) : ee.2.2.2.1 < 171 ∧ (iv_mw ee.2.2.2.1).1 = kind ∧ ee.2.2.2.2.1 = iv_np ee.2.2.2.1 + (bif Nat.beq kind 0 then 0 else 1) ∧ (iv_rm ee.2.2.2.1).1 + 1 ≤ (iv_rm mi).1 ∧ 8 + (iv_ml ee.2.2.2.1 + 11) + (iv_rm ee.2.2.2.1).2 ≤ (iv_rm mi).2 ∧
    (Jvm.Cond.methodLink (iv_nm mi).cls idx (iv_nm ee.2.2.2.1) ∈ iv_TB ∨ (Jvm.Cond.methodLinkNest (iv_nm mi).cls idx (iv_nm ee.2.2.2.1) "OnlyNamed" ∈ lw_tbl)) := by
  unfold iv_gc at h
  simp only [Bool.and_eq_true] at h
  obtain ⟨h1, h2, h3, h4, h5, h6⟩ := h
  have hz := iv_blt h1
  refine ⟨hz, Nat.eq_of_beq_eq_true h2, Nat.eq_of_beq_eq_true h3, Nat.le_of_ble_eq_true h4, Nat.le_of_ble_eq_true h5, ?_⟩
  cases hc : decide (ee.2.2.2.2.2.1 = 0)
  · rw [hc, cond_false] at h6
    right
    have := (iv_atn_mem h6).1
    exact (show iv_s 84 = "OnlyNamed" from by rfl) ▸ this
  · rw [hc, cond_true] at h6
    left
    have := iv_at_mem h6
    unfold iv_wd at this
    have hb : Nat.beq ee.2.2.2.1 1000 = false := iv_nbeq (by omega)
    simp only [hb, cond_false] at this
    exact this
theorem iv_list_split {α : Type} (n : Nat) (st : List α) : st = (st.take n).reverse.reverse ++ st.drop n := by
  rw [List.reverse_reverse, List.take_append_drop]
theorem iv_obj_of {n ci : Nat} {as : List ivV} (h : iv_obj L n ci as = true) : ∃ x t, as = ivR x :: t ∧ (iv_lay L x).1 = 0 ∧ (iv_lay L x).2.1 = ci ∧ x ≤ n := by
  unfold iv_obj at h
  split at h
  · rename_i x t
    simp only [Bool.and_eq_true] at h
    exact ⟨x, t, rfl, Nat.eq_of_beq_eq_true h.1.1, Nat.eq_of_beq_eq_true h.1.2, Nat.le_of_ble_eq_true h.2⟩
  · cases h
/-- what a callee asks of the state -/
theorem iv_PcU {as : List ivV} (hR : iv_Rel D dA L b B0 n0 (iv_ml mi) s H w la ls st locs cells slots) (hT : iv_T s) (hok : ∀ a ∈ as, iv_ok w.1 a) : ∀ U : State, U.heap = H → s.WarmedH U.vm → iv_Pc D dA L b B0 as w (as.map (iv_cv b B0)).toArray U := fun U hU hW =>
  ⟨rfl, by rw [hU]; exact hR.1.moved hW.alike, hok, iv_T.warm hW hT, by
    rw [hU]
    obtain ⟨r1, -⟩ := hR
    have h1 := r1.1
    have h2 := r1.2.1
    omega⟩
theorem iv_run_snd (hL : L ≤ 2048) : ∀ f : Nat, iv_IH l D dA L b B0 f
  | 0 => fun mi pc ls st w r w' h => by cases h
  | f + 1 => by
    have ih : iv_IH l D dA L b B0 f := iv_run_snd hL f
    intro mi pc ls st w r w' h hmi p e R s m args below meth c Q n0 H la locs cells slots cx hcs hss hR hend
    obtain ⟨ee, hi, hcase⟩ := iv_run_cases h
    obtain ⟨hd, hg, hep⟩ := iv_good_of (iv_good_any mi hmi) hi
    obtain ⟨hx, hb, hr, hml, hown, hts, hT, hlocks, hname, hrf, hrl⟩ := id cx
    have hfix : CallFix p m c (iv_cd mi) (iv_ml mi) s args (iv_TB) (iv_nm mi).cls := ⟨hx, hb, hml, hown, hts⟩
    have hGB : ∀ {ws : List Jvm.Cond}, (∀ w ∈ ws, w ∈ iv_TB) → GoodIn iv_TB ws := fun h w hw => ⟨h w hw, iv_TB_good (h w hw)⟩
    have hwsz : ∀ {z : Nat}, z < 171 → ∀ w ∈ iv_ws z, w ∈ iv_TB := fun hz w hw => by
      rcases List.mem_cons.mp hw with rfl | hw
      · exact (iv_mg_of hz).2.2.1
      · exact hw
    rcases hcase with ⟨g, h1, h2⟩ | ⟨hi2, x, rfl, hz, hrr⟩ | ⟨hi2, x, rfl, hrr⟩ | ⟨hi2, rfl, hrr⟩ | ⟨⟨idx, hi2⟩, ⟨ha1, ha2, ha3⟩, ho, ⟨r1, w1⟩, h1, h2⟩ | ⟨⟨idx, hi2⟩, ⟨ha1, ha2, ha3⟩, ⟨r1, w1⟩, h1, h2⟩ | ⟨⟨idx, hi2⟩, hk, ⟨ha1, ha2, ha3⟩, ho, ⟨r1, w1⟩, h1, h2⟩ | ⟨⟨idx, hi2⟩, hk, x, st', rfl, hx2, hw8, h2⟩
    · have hm : g.2.2.2.1 ≤ w'.1 := iv_run_mono h2
      have hsm := iv_sl_mono L hm
      refine iv_step_snd cx hmi hi h1 hL (by omega) (by omega) hR fun la' H' locs' cells' slots' hR' => ?_
      exact ih mi g.1 g.2.1 g.2.2.1 g.2.2.2 r w' h2 hmi p e R s m args below meth c Q n0 H' la' locs' cells' slots' cx hcs hss hR' hend
    · cases hrr
      unfold iv_gi at hg
      rw [hi2] at hg hd
      simp only [Bool.and_eq_true] at hg
      rw [Nat.eq_of_beq_eq_true hg.1] at hd
      refine hend pc la ls _ H locs cells slots hR (Or.inr (Or.inl ⟨x, rfl, hR.hd, hd, ?_⟩))
      cases hzb : iv_zb mi
      · rw [hzb] at hg
        exact Or.inl (of_decide_eq_true hg.2)
      · rw [hzb] at hg
        exact Or.inr ⟨of_decide_eq_true hg.2, hz hzb⟩
    · cases hrr
      unfold iv_gi at hg
      rw [hi2] at hg hd
      simp only [Bool.and_eq_true] at hg
      rw [Nat.eq_of_beq_eq_true hg.1] at hd
      refine hend pc la ls _ H locs cells slots hR (Or.inr (Or.inr ⟨x, rfl, hR.hd, hd, ?_⟩))
      have hg2 := hg.2
      split at hg2
      · rename_i n hn; exact ⟨_, hn, Or.inl ⟨n, rfl⟩⟩
      · rename_i t hn; exact ⟨_, hn, Or.inr ⟨t, rfl⟩⟩
      · cases hg2
    · cases hrr
      unfold iv_gi at hg
      rw [hi2] at hg hd
      simp only [Bool.and_eq_true, decide_eq_true_eq] at hg
      rw [Nat.eq_of_beq_eq_true hg.1] at hd
      exact hend pc la ls _ H locs cells slots hR (Or.inl ⟨rfl, hd, hg.2⟩)
    · -- a call on an object
      unfold iv_gi at hg
      rw [hi2] at hg hd
      simp only [Bool.and_eq_true] at hg
      rw [Nat.eq_of_beq_eq_true hg.1] at hd
      obtain ⟨hz, hkind, hnp, hf1, hf2, hlink⟩ := iv_gc_of hg.2
      obtain ⟨m1, m2, m3, m4, m5, -, m7, -⟩ := iv_mg_of hz
      obtain ⟨n1, n2, q, hq1, hq2⟩ := m7 hkind
      have hst := iv_list_split ee.2.2.2.2.1 st
      have hlen : (st.take ee.2.2.2.2.1).reverse.length = iv_np ee.2.2.2.1 + 1 := by rw [List.length_reverse, List.length_take, Nat.min_eq_left ha1, hnp]; rfl
      have hwide : iv_wide (st.take ee.2.2.2.2.1).reverse ≤ iv_ml ee.2.2.2.1 := by rw [iv_wide_rev]; exact ha3
      generalize (st.take ee.2.2.2.2.1).reverse = as at ho h1 hst hlen hwide
      generalize hrest : st.drop ee.2.2.2.2.1 = rest at ha2 h2 hst
      subst hst
      have hok : ∀ a ∈ as, iv_ok w.1 a := fun a ha => hR.2.2.2.1 a (List.mem_append_left _ (List.mem_reverse.mpr ha))
      have hMet := iv_met (l := l) ih hz hwide h1
      obtain ⟨x, as', rfl, o1, o2, o3⟩ := iv_obj_of ho
      have hRr := hR.stk (st' := rest) fun v hv => hR.2.2.2.1 v (List.mem_append_right _ hv)
      obtain ⟨q', e1, e2, x2, ⟨cell, c1, c2, c3, c4⟩, hS, hfc, kC, hkC, hkind2⟩ := iv_objc hR.1 o1 o3
      rw [o2] at e1 c2 hfc
      cases hq1.symm.trans e1
      have hrm : w.1 ≤ w1.1 := iv_run_mono h1
      have hsm := iv_sl_mono L hrm
      have hm2 : w1.1 ≤ w'.1 := iv_run_mono h2
      have hsm2 := iv_sl_mono L hm2
      obtain ⟨-, -, -, -, -, ⟨r6, r8⟩, -⟩ := hR
      have hcv : iv_cv b B0 (ivR x) = .ref (iv_ad b B0 x) := iv_rv_ne (by omega)
      have hPU := iv_PcU (as := ivR x :: as') hRr hT hok
      rw [List.map_cons, hcv] at hPU
      have hcw : CallW R s args (iv_nm mi).cls (iv_nm ee.2.2.2.1).cls idx (iv_nm ee.2.2.2.1) (iv_cd ee.2.2.2.1) (iv_ml ee.2.2.2.1) (iv_rt ee.2.2.2.1) (iv_ws ee.2.2.2.1) (iv_room L ee.2.2.2.1 w w1) (w1.1 - w.1) (iv_sl L w1.1 - iv_sl L w.1) (iv_np ee.2.2.2.1) ∨
          (va_CN R s args (iv_nm mi).cls idx (iv_nm ee.2.2.2.1) "OnlyNamed" (iv_cd ee.2.2.2.1) (iv_ml ee.2.2.2.1) (iv_rt ee.2.2.2.1) (iv_ws ee.2.2.2.1) (iv_room L ee.2.2.2.1 w w1) (w1.1 - w.1) (iv_sl L w1.1 - iv_sl L w.1) (iv_np ee.2.2.2.1) ∧ (Jvm.Cond.instanceMethod (iv_nm ee.2.2.2.1)).before args s = true ∧ (Jvm.Cond.selects (iv_nm ee.2.2.2.1).cls (iv_nm ee.2.2.2.1) (iv_nm ee.2.2.2.1)).before args s = true) := by
        rcases hlink with hlink | hlink
        · left
          refine cwV _ hts (hGB fun w hw => ?_) rfl rfl rfl ⟨rfl, m2.1, m2.2, m5⟩ ⟨by show (iv_rm _).1 + 1 ≤ _; omega, by show 8 + (iv_ml _ + 11) + (iv_rm _).2 ≤ _; omega⟩
          unfold wsV at hw
          rcases List.mem_append.mp hw with hw | hw
          · simp only [List.mem_cons, List.not_mem_nil, or_false] at hw
            rcases hw with rfl | rfl | rfl | rfl
            · exact hlink
            · exact n1
            · exact n2
            · exact m4
          · exact hwsz hz w hw
        · right
          exact ⟨va_cnB _ hts (hGB (hwsz hz)) rfl rfl rfl (hT.1 _ hlink rfl) (hts _ m4) ⟨m2.1, m2.2, m5⟩ ⟨by show (iv_rm _).1 + 1 ≤ _; omega, by show 8 + (iv_ml _ + 11) + (iv_rm _).2 ≤ _; omega⟩, hts _ n1, hts _ n2⟩
      have hstk : ((ivR x :: as').reverse ++ rest).map (iv_cv b B0) = (as'.map (iv_cv b B0)).reverse ++ .ref (iv_ad b B0 x) :: rest.map (iv_cv b B0) := by
        rw [iv_rev_map, List.map_cons, List.reverse_cons, hcv, List.append_assoc]
        rfl
      have hn : (as'.map (iv_cv b B0)).length = iv_np ee.2.2.2.1 := by rw [List.length_map]; simpa using hlen
      have hpre : PreV s H (iv_nm ee.2.2.2.1).cls (iv_ad b B0 x) (iv_Pc D dA L b B0 (ivR x :: as') w) (as'.map (iv_cv b B0)) := ⟨iv_blind, ⟨cell, c1, by rw [c3]; rfl, by rw [c2, ← hq2]; exact hfc⟩, hPU⟩
      have hrun : ∃ a, va_Run p l e R s m args below meth c H locs cells slots (w1.1 - w.1) (iv_sl L w1.1 - iv_sl L w.1) (F0 m pc la (((ivR x :: as').reverse ++ rest).map (iv_cv b B0))) (rest.map (iv_cv b B0)) (iv_Qc D dA L b B0 r1 w1 a) (fun q => B0 ≤ q) := by
        rcases hcw with hcw | hcw
        · exact ⟨_, va_runV hfix hMet hcw hpre rfl hn (by rw [← hRr.2.1.1]; exact hRr.2.1.2.1.trans hRr.2.1.1.symm) hstk (lv_room (by rw [iv_wide_eq]; exact ha2)) hd ⟨by omega, by omega⟩⟩
        · exact ⟨_, va_runVN hfix hMet hcw hpre rfl hn (by rw [← hRr.2.1.1]; exact hRr.2.1.2.1.trans hRr.2.1.1.symm) hstk (lv_room (by rw [iv_wide_eq]; exact ha2)) hd ⟨by omega, by omega⟩⟩
      obtain ⟨a, hrun⟩ := hrun
      exact iv_after ih hmi cx hcs hss hRr hrm h2 hend hrun
    · -- a static call
      unfold iv_gi at hg
      rw [hi2] at hg hd
      simp only [Bool.and_eq_true] at hg
      rw [Nat.eq_of_beq_eq_true hg.1] at hd
      obtain ⟨hz, hkind, hnp, hf1, hf2, hlink⟩ := iv_gc_of hg.2
      obtain ⟨m1, m2, m3, m4, m5, m6, -, -⟩ := iv_mg_of hz
      have n1 := m6 hkind
      have hst := iv_list_split ee.2.2.2.2.1 st
      have hlen : (st.take ee.2.2.2.2.1).reverse.length = iv_np ee.2.2.2.1 := by rw [List.length_reverse, List.length_take, Nat.min_eq_left ha1, hnp]; rfl
      have hwide : iv_wide (st.take ee.2.2.2.2.1).reverse ≤ iv_ml ee.2.2.2.1 := by rw [iv_wide_rev]; exact ha3
      generalize (st.take ee.2.2.2.2.1).reverse = as at h1 hst hlen hwide
      generalize hrest : st.drop ee.2.2.2.2.1 = rest at ha2 h2 hst
      subst hst
      have hok : ∀ a ∈ as, iv_ok w.1 a := fun a ha => hR.2.2.2.1 a (List.mem_append_left _ (List.mem_reverse.mpr ha))
      have hMet := iv_met (l := l) ih hz hwide h1
      have hRr := hR.stk (st' := rest) fun v hv => hR.2.2.2.1 v (List.mem_append_right _ hv)
      have hrm : w.1 ≤ w1.1 := iv_run_mono h1
      have hsm := iv_sl_mono L hrm
      have hm2 : w1.1 ≤ w'.1 := iv_run_mono h2
      have hsm2 := iv_sl_mono L hm2
      obtain ⟨-, -, -, -, -, ⟨r6, r8⟩, -⟩ := hR
      have hPU := iv_PcU (as := as) hRr hT hok
      have hstk : (as.reverse ++ rest).map (iv_cv b B0) = (as.map (iv_cv b B0)).reverse ++ rest.map (iv_cv b B0) := iv_rev_map as rest
      have hn : (as.map (iv_cv b B0)).length = iv_np ee.2.2.2.1 := by rw [List.length_map]; exact hlen
      have hpre : PreS s H (iv_Pc D dA L b B0 as w) (as.map (iv_cv b B0)) := ⟨iv_blind, hPU⟩
      have hrun : ∃ a, va_Run p l e R s m args below meth c H locs cells slots (w1.1 - w.1) (iv_sl L w1.1 - iv_sl L w.1) (F0 m pc la ((as.reverse ++ rest).map (iv_cv b B0))) (rest.map (iv_cv b B0)) (iv_Qc D dA L b B0 r1 w1 a) (fun q => B0 ≤ q) := by
        rcases hlink with hlink | hlink
        · refine ⟨_, va_runS hfix hMet (va_cwS _ hts (hGB fun w hw => ?_) rfl rfl rfl ⟨m2.1, m2.2, m5⟩ ⟨by show (iv_rm _).1 + 1 ≤ _; omega, by show 8 + (iv_ml _ + 11) + (iv_rm _).2 ≤ _; omega⟩) hpre rfl hn (by rw [← hRr.2.1.1]; exact hRr.2.1.2.1.trans hRr.2.1.1.symm) hstk (lv_room (by rw [iv_wide_eq]; exact ha2)) hd ⟨by omega, by omega⟩⟩
          unfold va_wsS at hw
          rcases List.mem_append.mp hw with hw | hw
          · simp only [List.mem_cons, List.not_mem_nil, or_false] at hw
            rcases hw with rfl | rfl | rfl
            · exact hlink
            · exact n1
            · exact m4
          · exact hwsz hz w hw
        · exact ⟨_, va_runSN hfix hMet ⟨va_cnB _ hts (hGB (hwsz hz)) rfl rfl rfl (hT.1 _ hlink rfl) (hts _ m4) ⟨m2.1, m2.2, m5⟩ ⟨by show (iv_rm _).1 + 1 ≤ _; omega, by show 8 + (iv_ml _ + 11) + (iv_rm _).2 ≤ _; omega⟩, hts _ n1, trivial⟩ hpre rfl hn (by rw [← hRr.2.1.1]; exact hRr.2.1.2.1.trans hRr.2.1.1.symm) hstk (lv_room (by rw [iv_wide_eq]; exact ha2)) hd ⟨by omega, by omega⟩⟩
      obtain ⟨a, hrun⟩ := hrun
      exact iv_after ih hmi cx hcs hss hRr hrm h2 hend hrun
    · -- a constructor
      unfold iv_gi at hg
      rw [hi2] at hg hd
      simp only [Bool.and_eq_true, hk, cond_false] at hg
      rw [Nat.eq_of_beq_eq_true hg.1] at hd
      obtain ⟨hz, hkind, hnp, hf1, hf2, hlink⟩ := iv_gc_of hg.2
      obtain ⟨m1, m2, m3, m4, m5, -, -, m8⟩ := iv_mg_of hz
      obtain ⟨n1, n2, n3⟩ := m8 hkind
      have hst := iv_list_split ee.2.2.2.2.1 st
      have hlen : (st.take ee.2.2.2.2.1).reverse.length = iv_np ee.2.2.2.1 + 1 := by rw [List.length_reverse, List.length_take, Nat.min_eq_left ha1, hnp]; rfl
      have hwide : iv_wide (st.take ee.2.2.2.2.1).reverse ≤ iv_ml ee.2.2.2.1 := by rw [iv_wide_rev]; exact ha3
      generalize (st.take ee.2.2.2.2.1).reverse = as at ho h1 hst hlen hwide
      generalize hrest : st.drop ee.2.2.2.2.1 = rest at ha2 h2 hst
      subst hst
      have hok : ∀ a ∈ as, iv_ok w.1 a := fun a ha => hR.2.2.2.1 a (List.mem_append_left _ (List.mem_reverse.mpr ha))
      have hMet := iv_met (l := l) ih hz hwide h1
      have hwn : ∃ ws', iv_ws ee.2.2.2.1 = Jvm.Cond.code (iv_nm ee.2.2.2.1) (iv_cd ee.2.2.2.1) (iv_ml ee.2.2.2.1) none :: ws' := ⟨iv_TB, by unfold iv_ws; rw [n3]⟩
      obtain ⟨ws', hws'⟩ := hwn
      obtain ⟨x, as', rfl, o1, o2, o3⟩ := iv_obj_of ho
      have x2 : 2 ≤ x := (iv_cells hR.1 (iv_lay_obj o1).1 (by rw [o1]; decide) o3).2
      have hRr := hR.stk (st' := rest) fun v hv => hR.2.2.2.1 v (List.mem_append_right _ hv)
      have hrm : w.1 ≤ w1.1 := iv_run_mono h1
      have hsm := iv_sl_mono L hrm
      have hm2 : w1.1 ≤ w'.1 := iv_run_mono h2
      have hsm2 := iv_sl_mono L hm2
      obtain ⟨-, -, -, -, -, ⟨r6, r8⟩, -⟩ := hR
      have hcv : iv_cv b B0 (ivR x) = .ref (iv_ad b B0 x) := iv_rv_ne (by omega)
      have hPU := iv_PcU (as := ivR x :: as') hRr hT hok
      rw [List.map_cons, hcv] at hPU
      have hstk : ((ivR x :: as').reverse ++ rest).map (iv_cv b B0) = (as'.map (iv_cv b B0)).reverse ++ .ref (iv_ad b B0 x) :: rest.map (iv_cv b B0) := by
        rw [iv_rev_map, List.map_cons, List.reverse_cons, hcv, List.append_assoc]
        rfl
      have hn : (as'.map (iv_cv b B0)).length = iv_np ee.2.2.2.1 := by rw [List.length_map]; simpa using hlen
      have hpre : PreS s H (iv_Pc D dA L b B0 (ivR x :: as') w) (.ref (iv_ad b B0 x) :: as'.map (iv_cv b B0)) := ⟨iv_blind, hPU⟩
      have hrun : ∃ a, va_Run p l e R s m args below meth c H locs cells slots (w1.1 - w.1) (iv_sl L w1.1 - iv_sl L w.1) (F0 m pc la (((ivR x :: as').reverse ++ rest).map (iv_cv b B0))) (rest.map (iv_cv b B0)) (iv_Qc D dA L b B0 r1 w1 a) (fun q => B0 ≤ q) := by
        rcases hlink with hlink | hlink
        · exact ⟨_, va_runI hfix hMet (cwI _ hts (hGB (hwsz hz)) hws' rfl rfl (hts _ m4) (hts _ hlink) (hts _ n1) n2 ⟨m2.1, m2.2, m5⟩ ⟨by show (iv_rm _).1 + 1 ≤ _; omega, by show 8 + (iv_ml _ + 11) + (iv_rm _).2 ≤ _; omega⟩) hpre rfl hn (by rw [← hRr.2.1.1]; exact hRr.2.1.2.1.trans hRr.2.1.1.symm) hstk (lv_room (by rw [iv_wide_eq]; exact ha2)) hd ⟨by omega, by omega⟩⟩
        · exact ⟨_, va_runIN hfix hMet ⟨va_cnB _ hts (hGB (hwsz hz)) hws' rfl rfl (hT.1 _ hlink rfl) (hts _ m4) ⟨m2.1, m2.2, m5⟩ ⟨by show (iv_rm _).1 + 1 ≤ _; omega, by show 8 + (iv_ml _ + 11) + (iv_rm _).2 ≤ _; omega⟩, n2, hts _ n1⟩ hpre rfl hn (by rw [← hRr.2.1.1]; exact hRr.2.1.2.1.trans hRr.2.1.1.symm) hstk (lv_room (by rw [iv_wide_eq]; exact ha2)) hd ⟨by omega, by omega⟩⟩
      obtain ⟨a, hrun⟩ := hrun
      exact iv_after ih hmi cx hcs hss hRr hrm h2 hend hrun
    · -- Object's own constructor
      unfold iv_gi at hg
      rw [hi2] at hg hd
      simp only [Bool.and_eq_true, hk, cond_true] at hg
      rw [Nat.eq_of_beq_eq_true hg.1] at hd
      obtain ⟨hl1, hl2, hl3⟩ := hg.2
      have hlk := iv_at_mem hl1
      have hrm1 := Nat.le_of_ble_eq_true hl2
      have hrm2 := Nat.le_of_ble_eq_true hl3
      have hcv : iv_cv b B0 (ivR x) = .ref (iv_ad b B0 x) := iv_rv_ne (by omega)
      show W p l e R s m args below meth c H locs cells slots Q (F0 m pc la (iv_cv b B0 (ivR x) :: st'.map (iv_cv b B0)))
      rw [hcv]
      refine W.objInit hx hb hown (hts _ hlk) (hts _ iv_oi.1) (hts _ iv_oi.2) rfl (by rw [hml]; exact hR.2.1.2.1) rfl hd (by omega) ?_ ?_
      · have := lv_room (m := m) (pc := pc) (ls := la) (rest := Value.ref (iv_ad b B0 x) :: st'.map (iv_cv b B0)) (st := st'.map (iv_cv b B0)) (by rw [iv_wide_eq]; exact hw8)
        omega
      · exact ih mi (pc + 3) ls st' w r w' h2 hmi p e R s m args below meth c Q n0 H la locs cells slots cx hcs hss hR.tl hend
end IVS
