/-! AN INTERPRETER OVER ABSTRACT STATES: whole numbers for ints and longs, cells by number (0: null, 1: the script, from 2 on the objects in the order in which they are made) -/
abbrev ivV : Type := Int ⊕ (Int ⊕ (Nat ⊕ Unit))
abbrev ivI (x : Int) : ivV := .inl x
abbrev ivJ (x : Int) : ivV := .inr (.inl x)
abbrev ivR (a : Nat) : ivV := .inr (.inr (.inl a))
abbrev ivU : ivV := .inr (.inr (.inr ()))
abbrev ivM : Type := Nat → Nat → Int
abbrev ivN : Type := Nat → Nat → Nat
/-- a heap: how many cells there are; what ints they hold; what references -/
abbrev ivS : Type := Nat × ivM × ivN
/-- an instruction: its place, itself, its length, three numbers that a program read off the pool (field: class, place; call: method, how many values; ..), the place of its word in lw_tbl -/
abbrev ivE : Type := Nat × Instr × Nat × Nat × Nat × Int × Nat
def iv_wr (x : Int) : Int := (Int32.ofInt x).toInt
def iv_wl (x : Int) : Int := (Int64.ofInt x).toInt
def iv_and (x y : Int) : Int := (Int32.ofInt x &&& Int32.ofInt y).toInt
def iv_or (x y : Int) : Int := (Int32.ofInt x ||| Int32.ofInt y).toInt
def iv_xor (x y : Int) : Int := (Int32.ofInt x ^^^ Int32.ofInt y).toInt
def iv_shl (x y : Int) : Int := (Int32.ofInt x <<< (Int32.ofInt y &&& 31)).toInt
def iv_shr (x y : Int) : Int := (Int32.ofInt x >>> (Int32.ofInt y &&& 31)).toInt
def iv_ushr (x y : Int) : Int := ((Int32.ofInt x).toUInt32 >>> ((Int32.ofInt y).toUInt32 &&& Int32.toUInt32 31)).toInt32.toInt
def iv_div (x y : Int) : Int := (Int32.ofInt x / Int32.ofInt y).toInt
def iv_rem (x y : Int) : Int := (Int32.ofInt x - Int32.ofInt x / Int32.ofInt y * Int32.ofInt y).toInt
def iv_land (x y : Int) : Int := (Int64.ofInt x &&& Int64.ofInt y).toInt
def iv_lor (x y : Int) : Int := (Int64.ofInt x ||| Int64.ofInt y).toInt
def iv_lshl (x y : Int) : Int := (Int64.ofInt x <<< ((Int32.ofInt y).toInt64 &&& 63)).toInt
def iv_lshr (x y : Int) : Int := (Int64.ofInt x >>> ((Int32.ofInt y).toInt64 &&& 63)).toInt
def iv_lushr (x y : Int) : Int := ((Int64.ofInt x).toUInt64 >>> ((Int32.ofInt y).toInt64.toUInt64 &&& Int64.toUInt64 63)).toInt64.toInt
def iv_lcmp (x y : Int) : Int := if y < x then 1 else if x = y then 0 else -1
def iv_cmp (c : Jvm.ClassFile.Cond) (x y : Int) : Bool := match c with
  | .eq => decide (x = y)
  | .ne => decide (¬ x = y)
  | .lt => decide (x < y)
  | .ge => decide (y ≤ x)
  | .gt => decide (y < x)
  | .le => decide (x ≤ y)
def iv_upd (f : ivM) (a k : Nat) (v : Int) : ivM := fun a' k' => if a' = a ∧ k' = k then v else f a' k'
def iv_updR (f : ivN) (a k v : Nat) : ivN := fun a' k' => if a' = a ∧ k' = k then v else f a' k'
def iv_zer (f : ivM) (lo hi : Nat) : ivM := fun a' k' => if lo ≤ a' ∧ a' ≤ hi then 0 else f a' k'
def iv_zerR (f : ivN) (lo hi : Nat) : ivN := fun a' k' => if lo ≤ a' ∧ a' ≤ hi then 0 else f a' k'
/-- a first row of references: its places name the cells behind it -/
def iv_row (f : ivN) (a N : Nat) : ivN := fun a' k' => if a' = a then (if k' < N then a + 1 + k' else 0) else f a' k'
def iv_c1 (v : ivV) : Bool := match v with
  | .inl _ => true
  | .inr (.inl _) => false
  | .inr (.inr (.inl _)) => true
  | .inr (.inr (.inr _)) => false
def iv_lg (v : ivV) : Bool := match v with
  | .inr (.inl _) => true
  | _ => false
/-- a store ends a long that stands ahead of it -/
def iv_un (v : ivV) : ivV := match v with
  | .inr (.inl _) => ivU
  | v => v
def iv_unl (ls : List ivV) (i : Nat) : List ivV := match i with
  | 0 => ls
  | j + 1 => ls.set j (iv_un (ls.getD j ivU))
