/-- an instruction that is no call and no end: the next place, locals, stack, heap -/
def iv_step (L pc : Nat) (e : ivE) (ls st : List ivV) (w : ivS) : Option (Nat × List ivV × List ivV × ivS) :=
  match e.2.1 with
  | .iconst x => some (pc + 1, ls, ivI x :: st, w)
  | .bipush x => some (pc + 2, ls, ivI x :: st, w)
  | .sipush x => some (pc + 3, ls, ivI x :: st, w)
  | .lconst x => some (pc + 1, ls, ivJ (Int.ofNat x.val) :: st, w)
  | .ldc _ => some (pc + 2, ls, ivI e.2.2.2.2.2.1 :: st, w)
  | .ldc_w _ => some (pc + 3, ls, ivI e.2.2.2.2.2.1 :: st, w)
  | .ldc2_w _ => some (pc + 3, ls, ivJ e.2.2.2.2.2.1 :: st, w)
  | .iload_n k => match ls.getD k.val ivU with
    | .inl x => some (pc + 1, ls, ivI x :: st, w)
    | _ => none
  | .iload k => match ls.getD k ivU with
    | .inl x => some (pc + 2, ls, ivI x :: st, w)
    | _ => none
  | .lload_n k => match ls.getD k.val ivU with
    | .inr (.inl x) => some (pc + 1, ls, ivJ x :: st, w)
    | _ => none
  | .lload k => match ls.getD k ivU with
    | .inr (.inl x) => some (pc + 2, ls, ivJ x :: st, w)
    | _ => none
  | .aload_n k => match ls.getD k.val ivU with
    | .inr (.inr (.inl x)) => some (pc + 1, ls, ivR x :: st, w)
    | _ => none
  | .aload k => match ls.getD k ivU with
    | .inr (.inr (.inl x)) => some (pc + 2, ls, ivR x :: st, w)
    | _ => none
  | .istore_n k => match st with
    | .inl x :: st => bif Nat.blt k.val ls.length then some (pc + 1, (iv_unl ls k.val).set k.val (ivI x), st, w) else none
    | _ => none
  | .istore k => match st with
    | .inl x :: st => bif Nat.blt k ls.length then some (pc + 2, (iv_unl ls k).set k (ivI x), st, w) else none
    | _ => none
  | .astore_n k => match st with
    | .inr (.inr (.inl x)) :: st => bif Nat.blt k.val ls.length then some (pc + 1, (iv_unl ls k.val).set k.val (ivR x), st, w) else none
    | _ => none
  | .astore k => match st with
    | .inr (.inr (.inl x)) :: st => bif Nat.blt k ls.length then some (pc + 2, (iv_unl ls k).set k (ivR x), st, w) else none
    | _ => none
  | .iinc k d => match ls.getD k ivU with
    | .inl x => bif Nat.blt k ls.length then some (pc + 3, (iv_unl ls k).set k (ivI (iv_wr (x + d))), st, w) else none
    | _ => none
  | .iadd => match st with
    | .inl y :: .inl x :: st => some (pc + 1, ls, ivI (iv_wr (x + y)) :: st, w)
    | _ => none
  | .isub => match st with
    | .inl y :: .inl x :: st => some (pc + 1, ls, ivI (iv_wr (x - y)) :: st, w)
    | _ => none
  | .imul => match st with
    | .inl y :: .inl x :: st => some (pc + 1, ls, ivI (iv_wr (x * y)) :: st, w)
    | _ => none
  | .ineg => match st with
    | .inl x :: st => some (pc + 1, ls, ivI (iv_wr (-x)) :: st, w)
    | _ => none
  | .idiv => match st with
    | .inl y :: .inl x :: st => bif decide (y = 0) then none else some (pc + 1, ls, ivI (iv_div x y) :: st, w)
    | _ => none
  | .irem => match st with
    | .inl y :: .inl x :: st => bif decide (y = 0) then none else some (pc + 1, ls, ivI (iv_rem x y) :: st, w)
    | _ => none
  | .iand => match st with
    | .inl y :: .inl x :: st => some (pc + 1, ls, ivI (iv_and x y) :: st, w)
    | _ => none
  | .ior => match st with
    | .inl y :: .inl x :: st => some (pc + 1, ls, ivI (iv_or x y) :: st, w)
    | _ => none
  | .ixor => match st with
    | .inl y :: .inl x :: st => some (pc + 1, ls, ivI (iv_xor x y) :: st, w)
    | _ => none
  | .ishl => match st with
    | .inl y :: .inl x :: st => some (pc + 1, ls, ivI (iv_shl x y) :: st, w)
    | _ => none
  | .ishr => match st with
    | .inl y :: .inl x :: st => some (pc + 1, ls, ivI (iv_shr x y) :: st, w)
    | _ => none
  | .iushr => match st with
    | .inl y :: .inl x :: st => some (pc + 1, ls, ivI (iv_ushr x y) :: st, w)
    | _ => none
  | .i2l => match st with
    | .inl x :: st => some (pc + 1, ls, ivJ x :: st, w)
    | _ => none
  | .l2i => match st with
    | .inr (.inl x) :: st => some (pc + 1, ls, ivI (iv_wr x) :: st, w)
    | _ => none
  | .land => match st with
    | .inr (.inl y) :: .inr (.inl x) :: st => some (pc + 1, ls, ivJ (iv_land x y) :: st, w)
    | _ => none
  | .lor => match st with
    | .inr (.inl y) :: .inr (.inl x) :: st => some (pc + 1, ls, ivJ (iv_lor x y) :: st, w)
    | _ => none
  | .lshl => match st with
    | .inl y :: .inr (.inl x) :: st => some (pc + 1, ls, ivJ (iv_lshl x y) :: st, w)
    | _ => none
  | .lshr => match st with
    | .inl y :: .inr (.inl x) :: st => some (pc + 1, ls, ivJ (iv_lshr x y) :: st, w)
    | _ => none
  | .lushr => match st with
    | .inl y :: .inr (.inl x) :: st => some (pc + 1, ls, ivJ (iv_lushr x y) :: st, w)
    | _ => none
  | .lcmp => match st with
    | .inr (.inl y) :: .inr (.inl x) :: st => some (pc + 1, ls, ivI (iv_lcmp x y) :: st, w)
    | _ => none
  | .dup => match st with
    | v :: st => bif iv_c1 v then some (pc + 1, ls, v :: v :: st, w) else none
    | _ => none
  | .dup2 => match st with
    | v :: u :: st => bif iv_c1 v && iv_c1 u then some (pc + 1, ls, v :: u :: v :: u :: st, w) else none
    | _ => none
  | .pop => match st with
    | v :: st => bif iv_c1 v then some (pc + 1, ls, st, w) else none
    | _ => none
  | .aconst_null => some (pc + 1, ls, ivR 0 :: st, w)
  | .goto o => some (((pc : Int) + o).toNat, ls, st, w)
  | .if_icmp c o => match st with
    | .inl y :: .inl x :: st => some (bif iv_cmp c x y then ((pc : Int) + o).toNat else pc + 3, ls, st, w)
    | _ => none
  | .ifCond c o => match st with
    | .inl x :: st => some (bif iv_cmp c x 0 then ((pc : Int) + o).toNat else pc + 3, ls, st, w)
    | _ => none
  | .ifnull o => match st with
    | .inr (.inr (.inl x)) :: st => some (bif Nat.beq x 0 then ((pc : Int) + o).toNat else pc + 3, ls, st, w)
    | _ => none
  | .ifnonnull o => match st with
    | .inr (.inr (.inl x)) :: st => some (bif Nat.beq x 0 then pc + 3 else ((pc : Int) + o).toNat, ls, st, w)
    | _ => none
  | .tableswitch d lo hi os => match st with
    | .inl x :: st => some (bif decide (x < lo) || decide (hi < x) then ((pc : Int) + d).toNat else ((pc : Int) + os.toList.getD (x - lo).toNat 0).toNat, ls, st, w)
    | _ => none
  | .lookupswitch d ps => match st with
    | .inl x :: st => some (((pc : Int) + Op.lookupswitch.offset ps.toList d x).toNat, ls, st, w)
    | _ => none
  | .getfield _ => match st with
    | .inr (.inr (.inl x)) :: st => bif Nat.beq (iv_lay L x).1 0 && Nat.beq (iv_lay L x).2.1 e.2.2.2.1 && Nat.ble x w.1 then some (pc + 3, ls, (bif Nat.ble 2 (iv_fty e.2.2.2.1 e.2.2.2.2.1) then ivR (w.2.2 x e.2.2.2.2.1) else ivI (w.2.1 x e.2.2.2.2.1)) :: st, w) else none
    | _ => none
  | .putfield _ => match st with
    | .inl v :: .inr (.inr (.inl x)) :: st => bif Nat.beq (iv_lay L x).1 0 && Nat.beq (iv_lay L x).2.1 e.2.2.2.1 && Nat.ble x w.1 && (Nat.beq (iv_fty e.2.2.2.1 e.2.2.2.2.1) 0 || Nat.beq (iv_fty e.2.2.2.1 e.2.2.2.2.1) 1 && (decide (v = 0) || decide (v = 1))) then some (pc + 3, ls, st, w.1, iv_upd w.2.1 x e.2.2.2.2.1 v, w.2.2) else none
    | .inr (.inr (.inl y)) :: .inr (.inr (.inl x)) :: st => bif Nat.beq (iv_lay L x).1 0 && Nat.beq (iv_lay L x).2.1 e.2.2.2.1 && Nat.ble x w.1 && Nat.ble 2 (iv_fty e.2.2.2.1 e.2.2.2.2.1) then some (pc + 3, ls, st, w.1, w.2.1, iv_updR w.2.2 x e.2.2.2.2.1 y) else none
    | _ => none
  | .iaload => match st with
    | .inl i :: .inr (.inr (.inl x)) :: st => bif Nat.beq (iv_lay L x).1 1 && Nat.beq (iv_lay L x).2.1 0 && Nat.ble x w.1 && (decide (0 ≤ i) && decide (i < (iv_lay L x).2.2)) then some (pc + 1, ls, ivI (w.2.1 x i.toNat) :: st, w) else none
    | _ => none
  | .baload => match st with
    | .inl i :: .inr (.inr (.inl x)) :: st => bif Nat.beq (iv_lay L x).1 1 && Nat.beq (iv_lay L x).2.1 1 && Nat.ble x w.1 && (decide (0 ≤ i) && decide (i < (iv_lay L x).2.2)) then some (pc + 1, ls, ivI (w.2.1 x i.toNat) :: st, w) else none
    | _ => none
  | .aaload => match st with
    | .inl i :: .inr (.inr (.inl x)) :: st => bif Nat.beq (iv_lay L x).1 1 && Nat.ble 2 (iv_lay L x).2.1 && Nat.ble x w.1 && (decide (0 ≤ i) && decide (i < (iv_lay L x).2.2)) then some (pc + 1, ls, ivR (w.2.2 x i.toNat) :: st, w) else none
    | _ => none
  | .iastore => match st with
    | .inl v :: .inl i :: .inr (.inr (.inl x)) :: st => bif Nat.ble 2 x && Nat.beq (iv_lay L x).1 1 && Nat.beq (iv_lay L x).2.1 0 && Nat.ble x w.1 && (decide (0 ≤ i) && decide (i < (iv_lay L x).2.2)) then some (pc + 1, ls, st, w.1, iv_upd w.2.1 x i.toNat v, w.2.2) else none
    | _ => none
  | .bastore => match st with
    | .inl v :: .inl i :: .inr (.inr (.inl x)) :: st => bif Nat.ble 2 x && Nat.beq (iv_lay L x).1 1 && Nat.beq (iv_lay L x).2.1 1 && Nat.ble x w.1 && (decide (0 ≤ i) && decide (i < (iv_lay L x).2.2)) then some (pc + 1, ls, st, w.1, iv_upd w.2.1 x i.toNat (v % 2), w.2.2) else none
    | _ => none
  | .aastore => match st with
    | .inr (.inr (.inl y)) :: .inl i :: .inr (.inr (.inl x)) :: st => bif Nat.ble 2 x && Nat.beq (iv_lay L x).1 1 && (Nat.beq (iv_lay L x).2.1 2 || Nat.beq (iv_lay L x).2.1 3) && Nat.ble x w.1 && (decide (0 ≤ i) && decide (i < (iv_lay L x).2.2)) && (Nat.beq (iv_lay L y).1 0 && Nat.beq (iv_lay L y).2.1 (iv_lay L x).2.1 && Nat.ble y w.1) then some (pc + 1, ls, st, w.1, w.2.1, iv_updR w.2.2 x i.toNat y) else none
    | _ => none
  | .arraylength => match st with
    | .inr (.inr (.inl x)) :: st => bif Nat.beq (iv_lay L x).1 1 && Nat.beq (iv_lay L x).2.1 0 && Nat.ble x w.1 then some (pc + 1, ls, ivI (Int.ofNat (iv_lay L x).2.2) :: st, w) else none
    | _ => none
  | .new _ => bif Nat.beq (iv_lay L (w.1 + 1)).1 0 && Nat.beq (iv_lay L (w.1 + 1)).2.1 e.2.2.2.1 then some (pc + 3, ls, ivR (w.1 + 1) :: st, w.1 + 1, iv_zer w.2.1 (w.1 + 1) (w.1 + 1), iv_zerR w.2.2 (w.1 + 1) (w.1 + 1)) else none
  | .newarray _ => match st with
    | .inl x :: st => bif Nat.beq (iv_lay L (w.1 + 1)).1 1 && Nat.beq (iv_lay L (w.1 + 1)).2.1 e.2.2.2.1 && decide (x = (iv_lay L (w.1 + 1)).2.2) then some (pc + 2, ls, ivR (w.1 + 1) :: st, w.1 + 1, iv_zer w.2.1 (w.1 + 1) (w.1 + 1), iv_zerR w.2.2 (w.1 + 1) (w.1 + 1)) else none
    | _ => none
  | .anewarray _ => match st with
    | .inl x :: st => bif Nat.beq (iv_lay L (w.1 + 1)).1 1 && Nat.beq (iv_lay L (w.1 + 1)).2.1 e.2.2.2.1 && decide (x = (iv_lay L (w.1 + 1)).2.2) then some (pc + 3, ls, ivR (w.1 + 1) :: st, w.1 + 1, iv_zer w.2.1 (w.1 + 1) (w.1 + 1), iv_zerR w.2.2 (w.1 + 1) (w.1 + 1)) else none
    | _ => none
  | .multianewarray _ _ => match st with
    | .inl y :: .inl x :: st => bif decide (x = 6) && decide (y = 6) && iv_six L w.1 then some (pc + 4, ls, ivR (w.1 + 1) :: st, w.1 + 7, iv_zer w.2.1 (w.1 + 1) (w.1 + 7), iv_row (iv_zerR w.2.2 (w.1 + 1) (w.1 + 7)) (w.1 + 1) 6) else none
    | _ => none
  | _ => none
def iv_wide (st : List ivV) : Nat := match st with
  | [] => 0
  | v :: st => (bif iv_lg v then 2 else 1) + iv_wide st
def iv_ent (n : Nat) (as : List ivV) : List ivV := let f := as.flatMap (fun v => bif iv_lg v then [v, ivU] else [v]); f ++ List.replicate (n - f.length) ivU
/-- the first of a call's values is an object of the class number ci -/
def iv_obj (L n ci : Nat) (as : List ivV) : Bool := match as with
  | .inr (.inr (.inl x)) :: _ => Nat.beq (iv_lay L x).1 0 && Nat.beq (iv_lay L x).2.1 ci && Nat.ble x n
  | _ => false
def iv_run (L : Nat) : Nat → Nat → Nat → List ivV → List ivV → ivS → Option (Option ivV × ivS)
  | 0, _, _, _, _, _ => none
  | f + 1, mi, pc, ls, st, w =>
    match iv_ins mi pc with
    | none => none
    | some e =>
      match iv_step L pc e ls st w with
      | some g => iv_run L f mi g.1 g.2.1 g.2.2.1 g.2.2.2
      | none =>
        match e.2.1 with
        | .ireturn => match st with
          | [.inl x] => bif iv_zb mi then (bif decide (x = 0) || decide (x = 1) then some (some (ivI x), w) else none) else some (some (ivI x), w)
          | _ => none
        | .areturn => match st with
          | [.inr (.inr (.inl x))] => some (some (ivR x), w)
          | _ => none
        | .return_ => match st with
          | [] => some (none, w)
          | _ => none
        | .invokevirtual _ =>
          bif Nat.ble e.2.2.2.2.1 st.length && Nat.ble (iv_wide (st.drop e.2.2.2.2.1)) 8 && Nat.ble (iv_wide (st.take e.2.2.2.2.1)) (iv_ml e.2.2.2.1) && iv_obj L w.1 (iv_own e.2.2.2.1) (st.take e.2.2.2.2.1).reverse then
            match iv_run L f e.2.2.2.1 0 (iv_ent (iv_ml e.2.2.2.1) (st.take e.2.2.2.2.1).reverse) [] w with
            | some r => iv_run L f mi (pc + 3) ls (r.1.toList ++ st.drop e.2.2.2.2.1) r.2
            | none => none
          else none
        | .invokestatic _ =>
          bif Nat.ble e.2.2.2.2.1 st.length && Nat.ble (iv_wide (st.drop e.2.2.2.2.1)) 8 && Nat.ble (iv_wide (st.take e.2.2.2.2.1)) (iv_ml e.2.2.2.1) then
            match iv_run L f e.2.2.2.1 0 (iv_ent (iv_ml e.2.2.2.1) (st.take e.2.2.2.2.1).reverse) [] w with
            | some r => iv_run L f mi (pc + 3) ls (r.1.toList ++ st.drop e.2.2.2.2.1) r.2
            | none => none
          else none
        | .invokespecial _ =>
          bif Nat.ble 1000 e.2.2.2.1 then
            match st with
            | .inr (.inr (.inl x)) :: st => bif Nat.ble 2 x && Nat.ble (iv_wide st) 8 then iv_run L f mi (pc + 3) ls st w else none
            | _ => none
          else bif Nat.ble e.2.2.2.2.1 st.length && Nat.ble (iv_wide (st.drop e.2.2.2.2.1)) 8 && Nat.ble (iv_wide (st.take e.2.2.2.2.1)) (iv_ml e.2.2.2.1) && iv_obj L w.1 (iv_own e.2.2.2.1) (st.take e.2.2.2.2.1).reverse then
            match iv_run L f e.2.2.2.1 0 (iv_ent (iv_ml e.2.2.2.1) (st.take e.2.2.2.2.1).reverse) [] w with
            | some r => iv_run L f mi (pc + 3) ls (r.1.toList ++ st.drop e.2.2.2.2.1) r.2
            | none => none
          else none
        | _ => none
/-- from here the method ends, with this answer and this heap -/
def iv_Ret (L mi pc : Nat) (ls st : List ivV) (w : ivS) (r : Option ivV) (w' : ivS) : Prop := ∃ f, iv_run L f mi pc ls st w = some (r, w')
