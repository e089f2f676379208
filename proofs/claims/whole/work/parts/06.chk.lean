theorem iv_wt0 : iv_wc0.map iv_wd = k2_sels lw_privs := by rfl
set_option maxRecDepth 100000 in
set_option maxHeartbeats 4000000 in
theorem iv_wt1 : iv_wc1.map iv_wd = tables_1_1 := by rfl
set_option maxRecDepth 100000 in
set_option maxHeartbeats 4000000 in
theorem iv_wt2 : iv_wc2.map iv_wd = tables_1_2 := by rfl
set_option maxRecDepth 100000 in
set_option maxHeartbeats 4000000 in
theorem iv_wt3 : iv_wc3.map iv_wd = tables_1_3 := by rfl
set_option maxRecDepth 100000 in
set_option maxHeartbeats 4000000 in
theorem iv_wt4 : iv_wc4.map iv_wd = tables_1_4 := by rfl
set_option maxRecDepth 100000 in
set_option maxHeartbeats 4000000 in
theorem iv_wt5 : iv_wc5.map iv_wd = tables_1_5 := by rfl
def iv_mws : List (List (Nat × Nat × Nat × Nat × Nat)) := [[(2, 234, 233, 0, 66), (1, 621, 619, 620, 66), (1, 573, 571, 572, 66), (1, 577, 576, 22, 66), (1, 585, 584, 23, 66), (1, 593, 592, 25, 66), (1, 589, 588, 24, 66), (1, 597, 595, 596, 66), (1, 601, 599, 600, 66), (1, 605, 604, 26, 66), (1, 609, 608, 27, 66), (2, 147, 146, 0, 62), (1, 387, 385, 386, 62), (1, 403, 401, 402, 62), (1, 477, 475, 476, 62), (1, 561, 559, 560, 62)],
  [(1, 481, 479, 480, 62), (2, 170, 169, 0, 63), (1, 391, 389, 390, 63), (1, 715, 713, 714, 63), (1, 437, 435, 436, 63), (1, 441, 439, 440, 63), (1, 463, 461, 462, 63), (1, 629, 627, 628, 63), (0, 406, 405, 0, 69), (0, 360, 359, 0, 69), (0, 421, 420, 0, 69), (0, 700, 699, 0, 69), (2, 197, 196, 0, 64), (1, 414, 412, 413, 64), (1, 418, 416, 417, 64), (1, 426, 424, 425, 64)],
  [(1, 522, 520, 521, 64), (2, 215, 214, 0, 65), (1, 497, 495, 496, 65), (1, 501, 499, 500, 65), (1, 505, 504, 14, 65), (1, 510, 508, 509, 65), (1, 514, 513, 15, 65), (1, 518, 517, 16, 65), (1, 530, 529, 17, 65), (1, 535, 534, 18, 65), (2, 259, 258, 0, 67), (1, 641, 639, 640, 67), (1, 656, 654, 655, 67), (1, 684, 682, 683, 67), (1, 692, 690, 691, 67), (1, 660, 659, 28, 67)],
  [(1, 664, 663, 29, 67), (1, 668, 667, 30, 67), (2, 100, 99, 0, 61), (1, 325, 323, 324, 61), (1, 333, 332, 0, 61), (1, 337, 336, 1, 61), (1, 341, 340, 2, 61), (1, 357, 356, 6, 61), (1, 345, 344, 3, 61), (1, 349, 348, 4, 61), (1, 353, 352, 5, 61), (1, 364, 363, 7, 61), (1, 368, 367, 8, 61), (1, 379, 378, 10, 61), (1, 372, 371, 9, 61), (2, 84, 83, 0, 60)],
  [(1, 313, 311, 312, 60), (1, 329, 327, 328, 60), (2, 76, 75, 0, 59), (1, 309, 307, 308, 59), (1, 317, 315, 316, 59), (1, 321, 319, 320, 59), (1, 383, 381, 382, 59), (1, 399, 397, 398, 59), (1, 410, 408, 409, 59), (1, 433, 431, 432, 59), (1, 451, 449, 450, 59), (1, 455, 453, 454, 59), (1, 459, 457, 458, 59), (1, 469, 467, 468, 59), (1, 473, 471, 472, 59), (1, 485, 483, 484, 59)],
  [(1, 489, 487, 488, 59), (1, 540, 538, 539, 59), (1, 545, 543, 544, 59), (1, 557, 555, 556, 59), (1, 565, 563, 564, 59), (1, 613, 611, 612, 59), (1, 617, 615, 616, 59), (1, 625, 623, 624, 59), (1, 633, 631, 632, 59), (1, 637, 635, 636, 59), (1, 645, 643, 644, 59), (1, 649, 647, 648, 59), (1, 680, 678, 679, 59), (1, 688, 686, 687, 59), (1, 697, 695, 696, 59), (1, 711, 709, 710, 59)],
  [(1, 719, 717, 718, 59), (1, 723, 721, 722, 59), (0, 375, 374, 0, 59), (0, 580, 579, 0, 59), (0, 652, 651, 0, 59), (1, 395, 394, 11, 59), (1, 728, 727, 32, 59), (1, 707, 706, 31, 59), (1, 493, 492, 13, 59), (1, 446, 445, 12, 59), (1, 549, 548, 19, 59), (1, 553, 552, 20, 59), (1, 569, 568, 21, 59), (2, 733, 732, 0, 68), (0, 855, 854, 0, 68), (1, 851, 849, 850, 68)],
  [(1, 860, 858, 859, 68), (1, 872, 871, 34, 68), (1, 881, 880, 36, 68), (1, 876, 875, 35, 68), (1, 895, 894, 39, 68), (1, 899, 898, 40, 68), (1, 868, 867, 33, 68), (1, 891, 890, 38, 68), (1, 885, 884, 37, 68), (1, 864, 862, 863, 68), (1, 903, 901, 902, 68), (1, 911, 910, 41, 68), (1, 967, 966, 47, 68), (1, 907, 905, 906, 68), (0, 926, 925, 0, 68), (1, 923, 922, 43, 68)],
  [(1, 919, 918, 42, 68), (1, 915, 913, 914, 68), (1, 934, 933, 44, 68), (1, 938, 937, 45, 68), (1, 930, 928, 929, 68), (1, 942, 940, 941, 68), (1, 950, 949, 46, 68), (1, 946, 944, 945, 68), (1, 954, 952, 953, 68), (1, 959, 957, 958, 68), (1, 971, 970, 48, 68), (1, 963, 961, 962, 68), (1, 975, 973, 974, 68), (1, 983, 982, 49, 68), (1, 979, 977, 978, 68), (1, 987, 985, 986, 68)],
  [(1, 995, 994, 50, 68), (1, 991, 989, 990, 68), (1, 1003, 1002, 51, 68), (1, 1007, 1006, 52, 68), (1, 999, 997, 998, 68), (1, 1015, 1014, 53, 68), (1, 1019, 1018, 54, 68), (1, 1011, 1009, 1010, 68), (1, 1027, 1026, 55, 68), (1, 1023, 1021, 1022, 68), (1, 1031, 1029, 1030, 68), (1, 1035, 1033, 1034, 68), (1, 1039, 1037, 1038, 68), (1, 1043, 1041, 1042, 68), (1, 1048, 1046, 1047, 68), (1, 1056, 1055, 56, 68)],
  [(1, 1060, 1059, 57, 68), (1, 1052, 1050, 1051, 68), (1, 1064, 1062, 1063, 68), (1, 1068, 1066, 1067, 68), (1, 1072, 1070, 1071, 68), (1, 1077, 1075, 1076, 68), (1, 1081, 1079, 1080, 68), (1, 1085, 1083, 1084, 68), (0, 671, 670, 0, 71), (0, 525, 524, 0, 70), (0, 429, 428, 0, 70), (9, 0, 0, 0, 0)]]
def iv_mw (z : Nat) : Nat × Nat × Nat × Nat × Nat := (iv_mws.getD (z / 16) []).getD (z % 16) (9, 0, 0, 0, 0)
def iv_nps : List (List Nat) := [[0, 0, 1, 1, 2, 3, 3, 1, 2, 2, 2, 0, 1, 1, 1, 1],
  [1, 0, 1, 1, 1, 0, 1, 2, 2, 3, 1, 2, 0, 2, 1, 2],
  [2, 0, 0, 1, 1, 1, 2, 2, 4, 1, 0, 2, 2, 2, 1, 2],
  [1, 2, 0, 1, 1, 1, 1, 1, 1, 0, 1, 1, 1, 1, 1, 0],
  [1, 1, 0, 2, 0, 0, 0, 2, 2, 1, 1, 0, 1, 1, 3, 3],
  [1, 2, 1, 2, 2, 1, 1, 2, 1, 2, 0, 1, 2, 1, 1, 1],
  [1, 1, 2, 1, 1, 1, 0, 1, 0, 2, 0, 2, 0, 0, 3, 2],
  [0, 0, 0, 1, 0, 1, 0, 0, 0, 0, 0, 1, 1, 2, 3, 1],
  [2, 2, 1, 1, 1, 1, 0, 0, 1, 1, 2, 3, 3, 0, 1, 2],
  [1, 1, 1, 3, 2, 1, 2, 2, 1, 1, 1, 2, 1, 2, 0, 2],
  [1, 1, 2, 1, 1, 1, 1, 1, 1, 2, 2, 1]]
def iv_np (z : Nat) : Nat := (iv_nps.getD (z / 16) []).getD (z % 16) 0
def iv_lw : List (List Nat) := [[244, 246, 248, 250, 252], [157, 159, 161, 163], [181, 183, 185, 187, 189], [204, 206, 208], [223, 225, 227], [267, 269, 271, 273, 275], [120, 122, 124, 126, 128, 130, 132, 134, 136, 138, 140], [90, 92], [287, 289, 291, 293, 295, 297, 299, 301, 303], [772, 774, 776, 778, 780, 782, 784, 786, 788, 790, 792, 794, 796, 798, 800, 802, 804, 806, 808, 810, 812, 814, 816, 818, 820, 822, 824, 826, 828, 830, 832, 834, 836, 838, 840, 842, 844]]
def iv_cw : List (Nat × Nat) := [(231, 66), (144, 62), (167, 63), (194, 64), (212, 65), (256, 67), (97, 61), (81, 60), (73, 59), (730, 68)]
def iv_plain : List Nat := [0, 21, 29, 37, 43, 48, 58, 66, 81, 84, 129, 154, 156, 159]
def iv_descs : List (Nat × Nat) := [(2, 0), (4, 0), (6, 1), (9, 2), (11, 3), (13, 3), (15, 1), (17, 2), (20, 2), (23, 1), (25, 1), (32, 1), (40, 3), (51, 1), (56, 4), (68, 1), (75, 0), (86, 2), (121, 1), (131, 3)]
/-! WHAT A PROGRAM DECIDES OF THE TABLES -/
def iv_wcg (i : Nat) : Nat × Nat × Nat × Nat × Nat × Nat := (iv_WC.getD (i / 32) []).getD (i % 32) (0, 0, 0, 0, 0, 0)
theorem iv_lw_eq : lw_tbl = iv_WC.flatten.map iv_wd := by
  have e : iv_WC.flatten = iv_wc0 ++ (iv_wc1 ++ (iv_wc2 ++ (iv_wc3 ++ (iv_wc4 ++ (iv_wc5))))) := by decide +kernel
  rw [e]
  simp only [List.map_append, iv_wt0, iv_wt1, iv_wt2, iv_wt3, iv_wt4, iv_wt5]
  rfl
theorem iv_wcg_mem {i : Nat} {c : Nat × Nat × Nat × Nat × Nat × Nat} (h : iv_wcg i = c) (h0 : c.1 ≠ 0) : iv_wd c ∈ lw_tbl := by
  rw [iv_lw_eq]
  refine List.mem_map.mpr ⟨c, ?_, rfl⟩
  unfold iv_wcg at h
  rw [List.getD_eq_getElem?_getD, List.getD_eq_getElem?_getD] at h
  cases h1 : iv_WC[i / 32]? with
  | none =>
    rw [h1] at h
    simp only [Option.getD_none, List.getElem?_nil] at h
    exact absurd (by rw [← h]) h0
  | some r =>
    rw [h1] at h
    simp only [Option.getD_some] at h
    cases h2 : r[i % 32]? with
    | none =>
      rw [h2] at h
      simp only [Option.getD_none] at h
      exact absurd (by rw [← h]) h0
    | some c' =>
      rw [h2] at h
      simp only [Option.getD_some] at h
      rw [← h]
      exact List.mem_flatten.mpr ⟨r, List.mem_of_getElem? h1, List.mem_of_getElem? h2⟩
def iv_at (i : Nat) (c : Nat × Nat × Nat × Nat × Nat × Nat) : Bool := decide (iv_wcg i = c) && (goodWord (iv_wd c) && Nat.blt 0 c.1)
theorem iv_at_mem {i : Nat} {c : Nat × Nat × Nat × Nat × Nat × Nat} (h : iv_at i c = true) : iv_wd c ∈ iv_TB := by
  unfold iv_at at h
  rw [Bool.and_eq_true, Bool.and_eq_true, decide_eq_true_eq] at h
  exact List.mem_filter.mpr ⟨iv_wcg_mem h.1 (by have := Nat.le_of_ble_eq_true h.2.2; omega), h.2.1⟩
def iv_atn (i : Nat) (c : Nat × Nat × Nat × Nat × Nat × Nat) : Bool := decide (iv_wcg i = c) && (iv_nest (iv_wd c) && Nat.blt 0 c.1)
theorem iv_atn_mem {i : Nat} {c : Nat × Nat × Nat × Nat × Nat × Nat} (h : iv_atn i c = true) : iv_wd c ∈ lw_tbl ∧ iv_nest (iv_wd c) = true := by
  unfold iv_atn at h
  rw [Bool.and_eq_true, Bool.and_eq_true, decide_eq_true_eq] at h
  exact ⟨iv_wcg_mem h.1 (by have := Nat.le_of_ble_eq_true h.2.2; omega), h.2.1⟩
def iv_dec (mi : Nat) (e : ivE) : Bool := match decode (iv_cd mi) e.1 with
  | .ok q => decide (q = (e.2.1, e.2.2.1))
  | _ => false
theorem iv_dec_of {mi : Nat} {e : ivE} (h : iv_dec mi e = true) : decode (iv_cd mi) e.1 = .ok (e.2.1, e.2.2.1) := by
  unfold iv_dec at h
  split at h
  · rename_i q hq
    rw [hq, of_decide_eq_true h]
  · cases h
/-- a field's kind and its type -/
def iv_tyk (ty : Option FieldType) (k : Nat) : Bool := match ty with
  | some .int => Nat.beq k 0
  | some .boolean => Nat.beq k 1
  | some (.object _) => Nat.beq k 2
  | some (.array _) => Nat.beq k 2
  | _ => false
def iv_gf (mi : Nat) (e : ivE) (idx : Nat) : Bool := match iv_cls[e.2.2.2.1]? with
  | some q => Nat.blt e.2.2.2.2.1 q.2 && iv_at e.2.2.2.2.2.2 (8, (iv_nc mi).1, idx, (iv_Tc e.2.2.2.1 e.2.2.2.2.1).1, (iv_Tc e.2.2.2.1 e.2.2.2.2.1).2.1, (iv_Tc e.2.2.2.1 e.2.2.2.2.1).2.2.1)
  | none => false
/-- a final field: in a constructor of its class (the name of constructors has the number 1) -/
def iv_gp (mi : Nat) (e : ivE) : Bool := !(iv_Tc e.2.2.2.1 e.2.2.2.2.1).2.2.2 || (decide ((iv_Tc e.2.2.2.1 e.2.2.2.2.1).1 = (iv_nc mi).1) && decide ((iv_nc mi).2.1 = 1))
/-- methods: (0: static, 1: of an object, 2: a constructor), the places of the words of its code, of 'static' or 'instanceMethod', of 'selects', of 'initialized' -/
def iv_mg (z : Nat) : Bool :=
  (List.contains iv_plain (iv_nc z).1 && (List.contains iv_descs ((iv_nc z).2.2, iv_np z) &&
  (iv_at (iv_mw z).2.1 (6, z, 0, 0, 0, 0) && (iv_at (iv_mw z).2.2.2.2 (1, (iv_nc z).1, 0, 0, 0, 0) &&
  (match (iv_mw z).1 with
    | 0 => iv_at (iv_mw z).2.2.1 (14, z, 0, 0, 0, 0)
    | 1 => iv_at (iv_mw z).2.2.1 (5, z, 0, 0, 0, 0) && (iv_at (iv_mw z).2.2.2.1 (7, (iv_nc z).1, z, z, 0, 0) && decide ((iv_cls[iv_own z]?).map (fun q => q.1) = some (iv_nc z).1))
    | 2 => iv_at (iv_mw z).2.2.1 (5, z, 0, 0, 0, 0) && (decide ((iv_nc z).2.1 = 1) && decide (iv_rt z = none))
    | _ => false)))))
/-- a call: the room that it needs, its link -/
def iv_gc (mi : Nat) (e : ivE) (idx kind : Nat) : Bool :=
  Nat.blt e.2.2.2.1 171 && (Nat.beq (iv_mw e.2.2.2.1).1 kind && (Nat.beq e.2.2.2.2.1 (iv_np e.2.2.2.1 + (bif Nat.beq kind 0 then 0 else 1)) &&
  (Nat.ble ((iv_rm e.2.2.2.1).1 + 1) (iv_rm mi).1 && (Nat.ble (8 + (iv_ml e.2.2.2.1 + 11) + (iv_rm e.2.2.2.1).2) (iv_rm mi).2 &&
  (bif decide (e.2.2.2.2.2.1 = 0) then iv_at e.2.2.2.2.2.2 (4, (iv_nc mi).1, idx, e.2.2.2.1, 0, 0) else iv_atn e.2.2.2.2.2.2 (13, (iv_nc mi).1, idx, e.2.2.2.1, 84, 0))))))
def iv_tg (pc : Nat) (o : Int) : Bool := decide (0 ≤ (pc : Int) + o)
def iv_inb (x : Int) : Bool := decide (-2147483648 ≤ x) && decide (x ≤ 2147483647)
def iv_ilb (x : Int) : Bool := decide (-9223372036854775808 ≤ x) && decide (x ≤ 9223372036854775807)
def iv_gi (mi : Nat) (e : ivE) : Bool := match e.2.1 with
  | .iconst x => Nat.beq e.2.2.1 1 && iv_inb x
  | .bipush x => Nat.beq e.2.2.1 2 && iv_inb x && decide ((Int8.ofInt x).toInt32 = Int32.ofInt x)
  | .sipush x => Nat.beq e.2.2.1 3 && iv_inb x && decide ((Int16.ofInt x).toInt32 = Int32.ofInt x)
  | .lconst _ => Nat.beq e.2.2.1 1
  | .ldc idx => Nat.beq e.2.2.1 2 && iv_inb e.2.2.2.2.2.1 && decide (0 ≤ e.2.2.2.2.2.1) && iv_at e.2.2.2.2.2.2 (15, (iv_nc mi).1, idx, e.2.2.2.2.2.1.toNat, 0, 0)
  | .ldc_w idx => Nat.beq e.2.2.1 3 && iv_inb e.2.2.2.2.2.1 && decide (0 ≤ e.2.2.2.2.2.1) && iv_at e.2.2.2.2.2.2 (15, (iv_nc mi).1, idx, e.2.2.2.2.2.1.toNat, 0, 0)
  | .ldc2_w idx => Nat.beq e.2.2.1 3 && iv_ilb e.2.2.2.2.2.1 && decide (0 ≤ e.2.2.2.2.2.1) && iv_at e.2.2.2.2.2.2 (16, (iv_nc mi).1, idx, e.2.2.2.2.2.1.toNat, 0, 0)
  | .iload_n _ => Nat.beq e.2.2.1 1
  | .lload_n _ => Nat.beq e.2.2.1 1
  | .aload_n _ => Nat.beq e.2.2.1 1
  | .istore_n _ => Nat.beq e.2.2.1 1
  | .astore_n _ => Nat.beq e.2.2.1 1
  | .iload _ => Nat.beq e.2.2.1 2
  | .lload _ => Nat.beq e.2.2.1 2
  | .aload _ => Nat.beq e.2.2.1 2
  | .istore _ => Nat.beq e.2.2.1 2
  | .astore _ => Nat.beq e.2.2.1 2
  | .iinc _ _ => Nat.beq e.2.2.1 3
  | .goto o => Nat.beq e.2.2.1 3 && iv_tg e.1 o
  | .if_icmp _ o => Nat.beq e.2.2.1 3 && iv_tg e.1 o
  | .ifCond _ o => Nat.beq e.2.2.1 3 && iv_tg e.1 o
  | .ifnull o => Nat.beq e.2.2.1 3 && iv_tg e.1 o
  | .ifnonnull o => Nat.beq e.2.2.1 3 && iv_tg e.1 o
  | .tableswitch d lo hi os => iv_tg e.1 d && (os.toList.all (fun o => iv_tg e.1 o) && decide (hi - lo + 1 = Int.ofNat os.size))
  | .lookupswitch d ps => iv_tg e.1 d && (ps.toList.all (fun o => iv_tg e.1 o.2) && (ps.toList.zip (ps.toList.drop 1)).all (fun (a, next) => a.1 < next.1))
  | .getfield idx => Nat.beq e.2.2.1 3 && iv_gf mi e idx
  | .putfield idx => Nat.beq e.2.2.1 3 && (iv_gf mi e idx && iv_gp mi e)
  | .new idx => Nat.beq e.2.2.1 3 && (match iv_cls[e.2.2.2.1]? with
    | some q => iv_at e.2.2.2.2.2.2 (2, (iv_nc mi).1, idx, q.1, 0, 0)
    | none => false)
  | .newarray t => Nat.beq e.2.2.1 2 && (bif Nat.beq e.2.2.2.1 0 then decide (t = .int) else Nat.beq e.2.2.2.1 1 && decide (t = .boolean))
  | .anewarray idx => Nat.beq e.2.2.1 3 && (bif Nat.beq e.2.2.2.1 2 then iv_at e.2.2.2.2.2.2 (2, (iv_nc mi).1, idx, 29, 0, 0) else Nat.beq e.2.2.2.1 3 && iv_at e.2.2.2.2.2.2 (2, (iv_nc mi).1, idx, 43, 0, 0))
  | .multianewarray idx k => Nat.beq e.2.2.1 4 && (Nat.beq k 2 && iv_at e.2.2.2.2.2.2 (2, (iv_nc mi).1, idx, 179, 0, 0))
  | .invokevirtual idx => Nat.beq e.2.2.1 3 && iv_gc mi e idx 1
  | .invokestatic idx => Nat.beq e.2.2.1 3 && iv_gc mi e idx 0
  | .invokespecial idx => Nat.beq e.2.2.1 3 && (bif Nat.ble 1000 e.2.2.2.1 then iv_at e.2.2.2.2.2.2 (4, (iv_nc mi).1, idx, 1000, 0, 0) && (Nat.ble 1 (iv_rm mi).1 && Nat.ble 20 (iv_rm mi).2) else iv_gc mi e idx 2)
  | .ireturn => Nat.beq e.2.2.1 1 && (bif iv_zb mi then decide (iv_rt mi = some .boolean) else decide (iv_rt mi = some .int))
  | .areturn => Nat.beq e.2.2.1 1 && (match iv_rt mi with
    | some (.object _) => true
    | some (.array _) => true
    | _ => false)
  | .return_ => Nat.beq e.2.2.1 1 && decide (iv_rt mi = none)
  | _ => Nat.beq e.2.2.1 1
def iv_good (mi : Nat) : Bool := (iv_code mi).all (fun c => c.all (fun e => iv_dec mi e && iv_gi mi e))
def iv_pc (mi j : Nat) : Bool := ((iv_code mi).getD j []).all (fun e => iv_dec mi e && iv_gi mi e)
theorem iv_pc_of {mi : Nat} (h : iv_good mi = true) (j : Nat) : iv_pc mi j = true := by
  unfold iv_pc
  rw [List.getD_eq_getElem?_getD]
  cases hc : (iv_code mi)[j]? with
  | none => rfl
  | some c => exact List.all_eq_true.mp h c (List.mem_of_getElem? hc)
theorem iv_good_of {mi pc : Nat} {e : ivE} (hg : ∀ j, iv_pc mi j = true) (h : iv_ins mi pc = some e) : decode (iv_cd mi) pc = .ok (e.2.1, e.2.2.1) ∧ iv_gi mi e = true ∧ e.1 = pc := by
  unfold iv_ins at h
  have h1 := List.find?_some h
  have h2 := List.mem_of_find?_eq_some h
  have e1 : e.1 = pc := Nat.eq_of_beq_eq_true h1
  have h3 := List.all_eq_true.mp (hg (pc / 16)) e h2
  rw [Bool.and_eq_true] at h3
  exact ⟨by rw [← e1]; exact iv_dec_of h3.1, h3.2, e1⟩
/-- classes -/
def iv_cg (ci : Nat) : Bool := match iv_cls[ci]? with
  | some q => (List.range q.2).all (fun k => iv_at ((iv_lw.getD ci []).getD k 0) (bif (iv_Tc ci k).2.2.2 then 10 else 9, q.1, (iv_Tc ci k).1, (iv_Tc ci k).2.1, (iv_Tc ci k).2.2.1, 0) && (iv_tyk (parseFieldDescriptor (iv_s (iv_Tc ci k).2.2.1)) (iv_fty ci k))) &&
    (iv_at (iv_cw.getD ci (0, 0)).1 (3, q.1, q.2, 0, 0, 0) && iv_at (iv_cw.getD ci (0, 0)).2 (1, q.1, 0, 0, 0, 0))
  | none => true
def iv_lg1 (q : Nat × Nat × Nat) : Bool := bif Nat.beq q.1 0 then decide ((iv_cls[q.2.1]?).map (fun r => r.2) = some q.2.2) else bif Nat.beq q.1 1 then Nat.ble q.2.1 4 && Nat.ble q.2.2 1792 else Nat.beq q.1 9
