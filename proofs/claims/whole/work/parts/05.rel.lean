/-! SOUNDNESS: numbers -/
def iv_in (x : Int) : Prop := -2147483648 ≤ x ∧ x ≤ 2147483647
def iv_il (x : Int) : Prop := -9223372036854775808 ≤ x ∧ x ≤ 9223372036854775807
theorem iv_in32 (v : Int32) : iv_in v.toInt := ⟨by have := Int32.le_toInt v; omega, by have := Int32.toInt_lt v; omega⟩
theorem iv_in64 (v : Int64) : iv_il v.toInt := ⟨by have := Int64.le_toInt v; omega, by have := Int64.toInt_lt v; omega⟩
theorem iv_of32 {x : Int} (h : iv_in x) : (Int32.ofInt x).toInt = x := Int32.toInt_ofInt_of_le (by have := h.1; omega) (by have := h.2; omega)
theorem iv_of64 {x : Int} (h : iv_il x) : (Int64.ofInt x).toInt = x := Int64.toInt_ofInt_of_le (by have := h.1; omega) (by have := h.2; omega)
theorem iv_back32 (v : Int32) : Int32.ofInt v.toInt = v := Int32.ofInt_toInt v
theorem iv_back64 (v : Int64) : Int64.ofInt v.toInt = v := Int64.ofInt_toInt v
theorem iv_eq32 {x y : Int} (hx : iv_in x) (hy : iv_in y) : Int32.ofInt x = Int32.ofInt y ↔ x = y := ⟨fun h => by rw [← iv_of32 hx, ← iv_of32 hy, h], fun h => by rw [h]⟩
theorem iv_lt32 {x y : Int} (hx : iv_in x) (hy : iv_in y) : Int32.ofInt x < Int32.ofInt y ↔ x < y := by rw [Int32.lt_iff_toInt_lt, iv_of32 hx, iv_of32 hy]
theorem iv_le32 {x y : Int} (hx : iv_in x) (hy : iv_in y) : Int32.ofInt x ≤ Int32.ofInt y ↔ x ≤ y := by rw [Int32.le_iff_toInt_le, iv_of32 hx, iv_of32 hy]
theorem iv_in0 : iv_in 0 := by unfold iv_in; omega
theorem iv_zero32 : Int32.ofInt 0 = 0 := rfl
theorem iv_idx {i : Int} {n : Nat} (hi : iv_in i) (h0 : 0 ≤ i) (h1 : i < n) : vp_in (Int32.ofInt i) n ∧ (Int32.ofInt i).toNatClampNeg = i.toNat := by
  have e : (Int32.ofInt i).toNatClampNeg = i.toNat := by show (Int32.ofInt i).toInt.toNat = i.toNat; rw [iv_of32 hi]
  refine ⟨?_, e⟩
  rintro (h | h)
  · rw [← iv_zero32, iv_lt32 hi iv_in0] at h
    omega
  · rw [e] at h
    omega
theorem iv_and1 {v : Int} (hv : iv_in v) : Int32.ofInt v &&& 1 = Int32.ofInt (v % 2) ∧ iv_in (v % 2) := by
  refine ⟨?_, by unfold iv_in; omega⟩
  apply Int32.toInt_inj.mp
  have h2 : iv_in (v % 2) := by unfold iv_in; omega
  rw [iv_of32 h2, ← Int32.toInt_toBitVec, Int32.toBitVec_and]
  have e1 : (1 : Int32).toBitVec = 1#32 := rfl
  rw [e1]
  have e2 : ((Int32.ofInt v).toBitVec &&& 1#32).toInt = ((Int32.ofInt v).toBitVec.toNat % 2 : Nat) := by
    rw [BitVec.toInt_eq_toNat_of_lt]
    · rw [BitVec.toNat_and]
      simp [Nat.and_one_is_mod]
    · rw [BitVec.toNat_and]
      simp [Nat.and_one_is_mod]
      omega
  rw [e2]
  have e3 : ((Int32.ofInt v).toBitVec.toNat : Int) = v % 4294967296 := by
    have h := iv_of32 hv
    rw [← Int32.toInt_toBitVec, BitVec.toInt_eq_toNat_cond] at h
    have hlt := (Int32.ofInt v).toBitVec.isLt
    split at h <;> omega
  omega
theorem iv_narB {v : Int} (hv : iv_in v) : vp_nar .boolean (Int32.ofInt v) = Int32.ofInt (v % 2) := by
  show Int32.ofInt v &&& 1 = _
  exact (iv_and1 hv).1
theorem iv_bool {v : Int} (h : v = 0 ∨ v = 1) : narrow .boolean (.int (Int32.ofInt v)) = .int (Int32.ofInt v) ∧ fits .boolean (.int (Int32.ofInt v)) = true := by rcases h with rfl | rfl <;> exact ⟨rfl, rfl⟩
theorem iv_wr_of (x : Int) : Int32.ofInt (iv_wr x) = Int32.ofInt x := iv_back32 _
theorem iv_i2l {x : Int} (h : iv_in x) : (Int32.ofInt x).toInt64 = Int64.ofInt x := Int32.toInt64_ofInt (by have := h.1; show -2147483648 ≤ x; omega) (by have := h.2; show x ≤ 2147483647; omega)
theorem iv_in_il {x : Int} (h : iv_in x) : iv_il x := by unfold iv_in at h; unfold iv_il; omega
theorem iv_l2i (x : Int) : (Int64.ofInt x).toInt32 = Int32.ofInt x := Int64.toInt32_ofInt
theorem iv_lcmp_of {x y : Int} (hx : iv_il x) (hy : iv_il y) : lg_cmp (Int64.ofInt x) (Int64.ofInt y) = Int32.ofInt (iv_lcmp x y) ∧ iv_in (iv_lcmp x y) := by
  have h1 : (Int64.ofInt x > Int64.ofInt y) ↔ y < x := by show Int64.ofInt y < Int64.ofInt x ↔ _; rw [Int64.lt_iff_toInt_lt, iv_of64 hx, iv_of64 hy]
  have h2 : Int64.ofInt x = Int64.ofInt y ↔ x = y := ⟨fun h => by rw [← iv_of64 hx, ← iv_of64 hy, h], fun h => by rw [h]⟩
  unfold lg_cmp iv_lcmp
  simp only [h1, h2]
  split
  · exact ⟨rfl, by unfold iv_in; omega⟩
  · split
    · exact ⟨rfl, by unfold iv_in; omega⟩
    · exact ⟨rfl, by unfold iv_in; omega⟩
/-! values, cells, heaps -/
def iv_ad (b B0 x : Nat) : Nat := if x = 1 then b else B0 + (x - 2)
def iv_rv (b B0 x : Nat) : Value := if x = 0 then .null else .ref (iv_ad b B0 x)
def iv_cv (b B0 : Nat) (v : ivV) : Value := match v with
  | .inl x => .int (Int32.ofInt x)
  | .inr (.inl x) => .long (Int64.ofInt x)
  | .inr (.inr (.inl x)) => iv_rv b B0 x
  | .inr (.inr (.inr _)) => .null
def iv_ok (n : Nat) (v : ivV) : Prop := match v with
  | .inl x => iv_in x
  | .inr (.inl x) => iv_il x
  | .inr (.inr (.inl x)) => x ≤ n
  | .inr (.inr (.inr _)) => True
def iv_slot (b B0 ty : Nat) (w : ivS) (x k : Nat) : Value := bif Nat.ble 2 ty then iv_rv b B0 (w.2.2 x k) else .int (Int32.ofInt (w.2.1 x k))
def iv_cell (D : va_G) (dA : Nat → ClassId) (L b B0 : Nat) (w : ivS) (H : Heap) (x : Nat) : Prop :=
  ((iv_lay L x).1 = 0 → t_OB (iv_ad b B0 x) (D.1 (iv_lay L x).2.1) (iv_lay L x).2.2 (D.2 (iv_lay L x).2.1) H (fun k => iv_slot b B0 (iv_fty (iv_lay L x).2.1 k) w x k)) ∧
  ((iv_lay L x).1 = 1 → H[iv_ad b B0 x]? = some (arrV (dA (iv_lay L x).2.1) (iv_lay L x).2.2 (fun k => iv_slot b B0 (iv_lay L x).2.1 w x k)))
abbrev iv_tys (dA : Nat → ClassId) : List (ClassId × FieldType) := [(dA 0, .int), (dA 1, .boolean), (dA 2, .object "OnlyNamed$Memory"), (dA 3, .object "OnlyNamed$Ruler"), (dA 4, .array .int)]
def iv_HR (D : va_G) (dA : Nat → ClassId) (L b B0 : Nat) (U : State) (H : Heap) (w : ivS) : Prop :=
  1 ≤ w.1 ∧ H.size = B0 + (w.1 - 1) ∧ b < B0 ∧ va_X b L (fun k => Int32.ofInt (w.2.1 1 k)) U H ∧ (∀ x, 2 ≤ x → x ≤ w.1 → iv_cell D dA L b B0 w H x) ∧ (∀ x k, iv_in (w.2.1 x k)) ∧ (∀ x k, w.2.2 x k ≤ w.1) ∧ va_K D iv_cl (iv_tys dA) U
def iv_lr (b B0 : Nat) (la : Array Slot) (nL : Nat) (ls : List ivV) : Prop := ls.length = nL ∧ la.size = nL ∧ lv_wf la ∧ ∀ (i : Nat) (v : ivV), ls[i]? = some v → v ≠ ivU → la[i]? = some (.val (iv_cv b B0 v))
/-- the words -/
def iv_TB : List Jvm.Cond := lw_tbl.filter goodWord
def iv_ws (mi : Nat) : List Jvm.Cond := .code (iv_nm mi) (iv_cd mi) (iv_ml mi) (iv_rt mi) :: iv_TB
def iv_nest (w : Jvm.Cond) : Bool := match w with
  | .methodLinkNest _ _ _ _ => true
  | _ => false
def iv_AOA (U : State) : Prop := (Jvm.Cond.arrayOver (.array .int)).before #[] U = true
theorem iv_AOA.moved {u U : State} (hvm : u.vm.Alike U.vm) (h : iv_AOA u) : iv_AOA U := by
  obtain ⟨comp, c, k, h1, h2, h3, h4, h5⟩ := arrayOverA_spec h
  obtain ⟨k', hk', he⟩ := hvm.2.2 _ _ h3
  have hi : (U.vm.classes.findIdx? fun (x : Class) => match x.kind with | .array component _ => component == comp | _ => false) = some c := by
    have e3 : U.vm.bare = u.vm.bare := by first | exact hvm.bare_eq | exact hvm.bare_eq.symm
    refine (va_idx_bare U.vm comp).symm.trans ?_
    rw [e3]
    exact (va_idx_bare u.vm comp).trans h2
  have hkind : k'.kind = .array comp (.array .int) := by rw [he]; exact h4
  have f1 : U.vm.findClass (FieldType.array .int).toString = some comp := by rw [hvm.findClass]; exact h1
  have f2 : U.vm.findClass ("[" ++ (FieldType.array .int).toString) = some c := by rw [hvm.findClass]; exact h5
  unfold iv_AOA Jvm.Cond.before Jvm.Cond.holds
  simp only [Jvm.Cond.value]
  rw [f1, Option.bind_some]
  refine (congrArg (fun o : Option Nat => (o.bind (fun c => (U.vm.classes[c]?).map fun (k : Class) => match k.kind with | .array _ ty => decide (ty = FieldType.array .int) && decide (U.vm.findClass ("[" ++ (FieldType.array .int).toString) = some c) | _ => false) == some true)) hi).trans ?_
  simp [hk', hkind, f2]
/-- what of the tables isn't kept by a good word -/
def iv_T (U : State) : Prop := (∀ w ∈ lw_tbl, iv_nest w = true → va_Nw w U) ∧ va_AO "OnlyNamed$Memory" U ∧ va_AO "OnlyNamed$Ruler" U ∧ iv_AOA U
theorem iv_T.warm {s U : State} (hW : s.WarmedH U.vm) (h : iv_T s) : iv_T U := by
  refine ⟨fun w hw hn => ?_, va_AO.moved hW.alike h.2.1, va_AO.moved hW.alike h.2.2.1, iv_AOA.moved hW.alike h.2.2.2⟩
  have h1 := h.1 w hw hn
  cases w <;> first | exact va_Nw.warmM hW h1 | cases hn
theorem iv_T.same {u U : State} (e : u.vm = U.vm) (h : iv_T u) : iv_T U := by
  have hA : u.vm.Alike U.vm := by rw [e]; exact Vm.Alike.refl _
  refine ⟨fun w hw hn => ?_, va_AO.moved hA h.2.1, va_AO.moved hA h.2.2.1, iv_AOA.moved hA h.2.2.2⟩
  have h1 := h.1 w hw hn
  cases w <;> first | exact va_Nw.same rfl e h1 | cases hn
theorem iv_HR.moved {D : va_G} {dA : Nat → ClassId} {L b B0 : Nat} {u U : State} {H : Heap} {w : ivS} (hvm : u.vm.Alike U.vm) (h : iv_HR D dA L b B0 u H w) : iv_HR D dA L b B0 U H w :=
  ⟨h.1, h.2.1, h.2.2.1, va_X.moved hvm h.2.2.2.1, h.2.2.2.2.1, h.2.2.2.2.2.1, h.2.2.2.2.2.2.1, va_K.moved hvm h.2.2.2.2.2.2.2⟩
theorem iv_rv_ne {b B0 x : Nat} (h : x ≠ 0) : iv_rv b B0 x = .ref (iv_ad b B0 x) := if_neg h
theorem iv_ad_inj {b B0 x y : Nat} (hb : b < B0) (hx : 1 ≤ x) (hy : 1 ≤ y) (h : iv_ad b B0 x = iv_ad b B0 y) : x = y := by
  unfold iv_ad at h
  split at h <;> split at h <;> omega
theorem iv_cat (b B0 : Nat) (v : ivV) : (iv_cv b B0 v).category = (bif iv_lg v then 2 else 1) := by
  rcases v with x | x | x | x
  · rfl
  · rfl
  · show (iv_rv b B0 x).category = 1
    unfold iv_rv; split <;> rfl
  · rfl
theorem iv_c1_cat {b B0 : Nat} {v : ivV} (h : iv_c1 v = true) : (iv_cv b B0 v).category = 1 := by
  rw [iv_cat]
  rcases v with x | x | x | x <;> first | rfl | cases h
/-- a heap in which one cell is changed -/
theorem iv_HR.set {D : va_G} {dA : Nat → ClassId} {L b B0 : Nat} {U : State} {H H1 : Heap} {w w1 : ivS} {x : Nat} (h : iv_HR D dA L b B0 U H w) (hx : 2 ≤ x) (hn : w1.1 = w.1) (hz : H1.size = H.size)
    (hH : ∀ q, q ≠ iv_ad b B0 x → H1[q]? = H[q]?) (hc : iv_cell D dA L b B0 w1 H1 x) (hm : ∀ y, y ≠ x → ∀ k, w1.2.1 y k = w.2.1 y k ∧ w1.2.2 y k = w.2.2 y k) (hi : ∀ y k, iv_in (w1.2.1 y k)) (hr : ∀ y k, w1.2.2 y k ≤ w1.1) : iv_HR D dA L b B0 U H1 w1 := by
  obtain ⟨h1, h2, h3, h4, h5, h6, h7, h8⟩ := h
  refine ⟨by rw [hn]; exact h1, by rw [hz, hn]; exact h2, h3, ?_, fun y y2 yn => ?_, hi, hr, h8⟩
  · have e : (fun k => Int32.ofInt (w1.2.1 1 k)) = fun k => Int32.ofInt (w.2.1 1 k) := funext fun k => by rw [(hm 1 (by omega) k).1]
    rw [e]
    refine h4.kept (hH _ fun q => ?_)
    unfold iv_ad at q
    split at q <;> omega
  · by_cases e : y = x
    · rw [e]; exact hc
    · have hq : H1[iv_ad b B0 y]? = H[iv_ad b B0 y]? := hH _ fun q => e (iv_ad_inj h3 (by omega) (by omega) q)
      obtain ⟨c1, c2⟩ := h5 y y2 (by rw [← hn]; exact yn)
      have es : ∀ ty k, iv_slot b B0 ty w1 y k = iv_slot b B0 ty w y k := fun ty k => by unfold iv_slot; rw [(hm y e k).1, (hm y e k).2]
      refine ⟨fun q => ?_, fun q => ?_⟩
      · exact ((c1 q).kept hq).to fun k _ => (es _ k).symm
      · rw [hq, c2 q]
        simp only [es]
