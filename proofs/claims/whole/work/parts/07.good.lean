set_option maxRecDepth 100000 in
theorem iv_gr_0 : (List.range' 0 20).all iv_good = true := by decide +kernel
set_option maxRecDepth 100000 in
theorem iv_gr_20 : (List.range' 20 20).all iv_good = true := by decide +kernel
set_option maxRecDepth 100000 in
theorem iv_gr_40 : (List.range' 40 20).all iv_good = true := by decide +kernel
set_option maxRecDepth 100000 in
theorem iv_gr_60 : (List.range' 60 20).all iv_good = true := by decide +kernel
set_option maxRecDepth 100000 in
theorem iv_gr_80 : (List.range' 80 20).all iv_good = true := by decide +kernel
set_option maxRecDepth 100000 in
theorem iv_gr_100 : (List.range' 100 15).all iv_good = true := by decide +kernel
set_option maxRecDepth 100000 in
theorem iv_gr_115 : (List.range' 115 15).all iv_good = true := by decide +kernel
set_option maxRecDepth 100000 in
theorem iv_gr_130 : (List.range' 130 15).all iv_good = true := by decide +kernel
set_option maxRecDepth 100000 in
theorem iv_gr_145 : (List.range' 145 15).all iv_good = true := by decide +kernel
set_option maxRecDepth 100000 in
theorem iv_gr_160 : (List.range' 160 11).all iv_good = true := by decide +kernel
theorem iv_gr_of {a n mi : Nat} (h : (List.range' a n).all iv_good = true) (h1 : a ≤ mi) (h2 : mi < a + n) : iv_good mi = true := List.all_eq_true.mp h mi (List.mem_range'_1.mpr ⟨h1, h2⟩)
theorem iv_good_all (mi : Nat) (h : mi < 171) : iv_good mi = true := by
  by_cases h20 : mi < 20
  · exact iv_gr_of iv_gr_0 (by omega) (by omega)
  by_cases h40 : mi < 40
  · exact iv_gr_of iv_gr_20 (by omega) (by omega)
  by_cases h60 : mi < 60
  · exact iv_gr_of iv_gr_40 (by omega) (by omega)
  by_cases h80 : mi < 80
  · exact iv_gr_of iv_gr_60 (by omega) (by omega)
  by_cases h100 : mi < 100
  · exact iv_gr_of iv_gr_80 (by omega) (by omega)
  by_cases h115 : mi < 115
  · exact iv_gr_of iv_gr_100 (by omega) (by omega)
  by_cases h130 : mi < 130
  · exact iv_gr_of iv_gr_115 (by omega) (by omega)
  by_cases h145 : mi < 145
  · exact iv_gr_of iv_gr_130 (by omega) (by omega)
  by_cases h160 : mi < 160
  · exact iv_gr_of iv_gr_145 (by omega) (by omega)
  exact iv_gr_of iv_gr_160 (by omega) (by omega)
set_option maxRecDepth 100000 in
theorem iv_gl_0 : (List.range' 0 4).all (iv_pc 171) = true := by decide +kernel
set_option maxRecDepth 100000 in
theorem iv_gl_4 : (List.range' 4 4).all (iv_pc 171) = true := by decide +kernel
set_option maxRecDepth 100000 in
theorem iv_gl_8 : (List.range' 8 4).all (iv_pc 171) = true := by decide +kernel
set_option maxRecDepth 100000 in
theorem iv_gl_12 : (List.range' 12 4).all (iv_pc 171) = true := by decide +kernel
set_option maxRecDepth 100000 in
theorem iv_gl_16 : (List.range' 16 4).all (iv_pc 171) = true := by decide +kernel
set_option maxRecDepth 100000 in
theorem iv_gl_20 : (List.range' 20 4).all (iv_pc 171) = true := by decide +kernel
set_option maxRecDepth 100000 in
theorem iv_gl_24 : (List.range' 24 4).all (iv_pc 171) = true := by decide +kernel
set_option maxRecDepth 100000 in
theorem iv_gl_28 : (List.range' 28 4).all (iv_pc 171) = true := by decide +kernel
set_option maxRecDepth 100000 in
theorem iv_gl_32 : (List.range' 32 4).all (iv_pc 171) = true := by decide +kernel
set_option maxRecDepth 100000 in
theorem iv_gl_36 : (List.range' 36 4).all (iv_pc 171) = true := by decide +kernel
set_option maxRecDepth 100000 in
theorem iv_gl_40 : (List.range' 40 4).all (iv_pc 171) = true := by decide +kernel
set_option maxRecDepth 100000 in
theorem iv_gl_44 : (List.range' 44 4).all (iv_pc 171) = true := by decide +kernel
set_option maxRecDepth 100000 in
theorem iv_gl_48 : (List.range' 48 4).all (iv_pc 171) = true := by decide +kernel
set_option maxRecDepth 100000 in
theorem iv_gl_52 : (List.range' 52 4).all (iv_pc 171) = true := by decide +kernel
set_option maxRecDepth 100000 in
theorem iv_gl_56 : (List.range' 56 4).all (iv_pc 171) = true := by decide +kernel
set_option maxRecDepth 100000 in
theorem iv_gl_60 : (List.range' 60 3).all (iv_pc 171) = true := by decide +kernel
theorem iv_gl_of {a n j : Nat} (h : (List.range' a n).all (iv_pc 171) = true) (h1 : a ≤ j) (h2 : j < a + n) : iv_pc 171 j = true := List.all_eq_true.mp h j (List.mem_range'_1.mpr ⟨h1, h2⟩)
set_option maxRecDepth 100000 in
theorem iv_len171 : (iv_code 171).length = 63 := by decide +kernel
theorem iv_good_law (j : Nat) : iv_pc 171 j = true := by
  by_cases h0 : j < 4
  · exact iv_gl_of iv_gl_0 (by omega) (by omega)
  by_cases h4 : j < 8
  · exact iv_gl_of iv_gl_4 (by omega) (by omega)
  by_cases h8 : j < 12
  · exact iv_gl_of iv_gl_8 (by omega) (by omega)
  by_cases h12 : j < 16
  · exact iv_gl_of iv_gl_12 (by omega) (by omega)
  by_cases h16 : j < 20
  · exact iv_gl_of iv_gl_16 (by omega) (by omega)
  by_cases h20 : j < 24
  · exact iv_gl_of iv_gl_20 (by omega) (by omega)
  by_cases h24 : j < 28
  · exact iv_gl_of iv_gl_24 (by omega) (by omega)
  by_cases h28 : j < 32
  · exact iv_gl_of iv_gl_28 (by omega) (by omega)
  by_cases h32 : j < 36
  · exact iv_gl_of iv_gl_32 (by omega) (by omega)
  by_cases h36 : j < 40
  · exact iv_gl_of iv_gl_36 (by omega) (by omega)
  by_cases h40 : j < 44
  · exact iv_gl_of iv_gl_40 (by omega) (by omega)
  by_cases h44 : j < 48
  · exact iv_gl_of iv_gl_44 (by omega) (by omega)
  by_cases h48 : j < 52
  · exact iv_gl_of iv_gl_48 (by omega) (by omega)
  by_cases h52 : j < 56
  · exact iv_gl_of iv_gl_52 (by omega) (by omega)
  by_cases h56 : j < 60
  · exact iv_gl_of iv_gl_56 (by omega) (by omega)
  by_cases h60 : j < 63
  · exact iv_gl_of iv_gl_60 (by omega) (by omega)
  unfold iv_pc
  rw [List.getD_eq_getElem?_getD, List.getElem?_eq_none (by rw [iv_len171]; omega)]
  rfl
theorem iv_good_any (mi : Nat) (h : mi < 172) (j : Nat) : iv_pc mi j = true := by
  by_cases e : mi = 171
  · rw [e]; exact iv_good_law j
  · exact iv_pc_of (iv_good_all mi (by omega)) j
set_option maxRecDepth 100000 in
theorem iv_mgr : (List.range 171).all iv_mg = true := by decide +kernel
theorem iv_mg_all (z : Nat) (h : z < 171) : iv_mg z = true := List.all_eq_true.mp iv_mgr z (List.mem_range.mpr h)
set_option maxRecDepth 100000 in
theorem iv_cgr : (List.range 10).all iv_cg = true := by decide +kernel
theorem iv_cg_all (ci : Nat) (h : ci < 10) : iv_cg ci = true := List.all_eq_true.mp iv_cgr ci (List.mem_range.mpr h)
set_option maxRecDepth 100000 in
theorem iv_lgr : iv_Y.all (fun r => r.all iv_lg1) = true := by decide +kernel
set_option maxRecDepth 100000 in
theorem iv_plainr : iv_plain.all (fun c => (plainName (iv_s c) || decide (c = 156)) && (decide (iv_s c ≠ "java/lang/invoke/MethodHandle") && decide (iv_s c ≠ "java/lang/invoke/VarHandle"))) = true := by decide +kernel
set_option maxRecDepth 100000 in
theorem iv_math : (List.range 171).all (fun z => decide ((iv_nc z).1 ≠ 156) || (decide (z = 169) || decide (z = 170))) = true := by decide +kernel
set_option maxRecDepth 100000 in
theorem iv_pf_169 : plainFor (iv_nm 169) = true := by decide +kernel
set_option maxRecDepth 100000 in
theorem iv_pf_170 : plainFor (iv_nm 170) = true := by decide +kernel
set_option maxRecDepth 100000 in
theorem iv_descr : iv_descs.all (fun d => decide ((parseMethodDescriptor (iv_s d.1)).map (fun d => d.parameters.length) = some d.2)) = true := by decide +kernel
