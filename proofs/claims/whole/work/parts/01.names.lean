-- ===== PART A: goes FIRST, ahead of the names: the tables' words, and 'selects' of the private methods out of them =====
/-- a private method of a class that the tables say can be made, by its rows of tables_1 -/
def lw_okq (q : MethodName × Nat) : Prop := (q.1.cls ≠ "java/lang/invoke/MethodHandle" ∧ q.1.cls ≠ "java/lang/invoke/VarHandle") ∧ Cond.instantiable q.1.cls q.2 ∈ tables_1 ∧ Cond.privateMethod q.1 ∈ tables_1 ∧ Cond.instanceMethod q.1 ∈ tables_1
theorem lw_p0 : lw_okq (⟨"OnlyNamed$Telling", "take", "(I)Z"⟩, 11) := ⟨⟨by decide +kernel, by decide +kernel⟩, List.mem_of_getElem? (i := 39) (by decide +kernel), List.mem_of_getElem? (i := 273) (by decide +kernel), List.mem_of_getElem? (i := 274) (by decide +kernel)⟩
theorem lw_p1 : lw_okq (⟨"OnlyNamed$Telling", "takeH", "(I)Z"⟩, 11) := ⟨⟨by decide +kernel, by decide +kernel⟩, List.mem_of_getElem? (i := 39) (by decide +kernel), List.mem_of_getElem? (i := 277) (by decide +kernel), List.mem_of_getElem? (i := 278) (by decide +kernel)⟩
theorem lw_p2 : lw_okq (⟨"OnlyNamed$Telling", "takeR", "(I)Z"⟩, 11) := ⟨⟨by decide +kernel, by decide +kernel⟩, List.mem_of_getElem? (i := 39) (by decide +kernel), List.mem_of_getElem? (i := 281) (by decide +kernel), List.mem_of_getElem? (i := 282) (by decide +kernel)⟩
theorem lw_p3 : lw_okq (⟨"OnlyNamed$Telling", "takeSound", "(I)Z"⟩, 11) := ⟨⟨by decide +kernel, by decide +kernel⟩, List.mem_of_getElem? (i := 39) (by decide +kernel), List.mem_of_getElem? (i := 285) (by decide +kernel), List.mem_of_getElem? (i := 286) (by decide +kernel)⟩
theorem lw_p4 : lw_okq (⟨"OnlyNamed$Telling", "endName", "()Z"⟩, 11) := ⟨⟨by decide +kernel, by decide +kernel⟩, List.mem_of_getElem? (i := 39) (by decide +kernel), List.mem_of_getElem? (i := 289) (by decide +kernel), List.mem_of_getElem? (i := 290) (by decide +kernel)⟩
theorem lw_p5 : lw_okq (⟨"OnlyNamed$Telling", "isTold", "(I)Z"⟩, 11) := ⟨⟨by decide +kernel, by decide +kernel⟩, List.mem_of_getElem? (i := 39) (by decide +kernel), List.mem_of_getElem? (i := 293) (by decide +kernel), List.mem_of_getElem? (i := 294) (by decide +kernel)⟩
theorem lw_p6 : lw_okq (⟨"OnlyNamed$Telling", "takePart", "(I)Z"⟩, 11) := ⟨⟨by decide +kernel, by decide +kernel⟩, List.mem_of_getElem? (i := 39) (by decide +kernel), List.mem_of_getElem? (i := 297) (by decide +kernel), List.mem_of_getElem? (i := 298) (by decide +kernel)⟩
theorem lw_p7 : lw_okq (⟨"OnlyNamed$Telling", "takeBear", "(I)Z"⟩, 11) := ⟨⟨by decide +kernel, by decide +kernel⟩, List.mem_of_getElem? (i := 39) (by decide +kernel), List.mem_of_getElem? (i := 304) (by decide +kernel), List.mem_of_getElem? (i := 305) (by decide +kernel)⟩
theorem lw_p8 : lw_okq (⟨"OnlyNamed$Telling", "takeKnower", "(I)Z"⟩, 11) := ⟨⟨by decide +kernel, by decide +kernel⟩, List.mem_of_getElem? (i := 39) (by decide +kernel), List.mem_of_getElem? (i := 308) (by decide +kernel), List.mem_of_getElem? (i := 309) (by decide +kernel)⟩
theorem lw_p9 : lw_okq (⟨"OnlyNamed$Telling", "canLearn", "(I)Z"⟩, 11) := ⟨⟨by decide +kernel, by decide +kernel⟩, List.mem_of_getElem? (i := 39) (by decide +kernel), List.mem_of_getElem? (i := 312) (by decide +kernel), List.mem_of_getElem? (i := 313) (by decide +kernel)⟩
theorem lw_p10 : lw_okq (⟨"OnlyNamed$Telling", "takeKnown", "(I)Z"⟩, 11) := ⟨⟨by decide +kernel, by decide +kernel⟩, List.mem_of_getElem? (i := 39) (by decide +kernel), List.mem_of_getElem? (i := 319) (by decide +kernel), List.mem_of_getElem? (i := 320) (by decide +kernel)⟩
theorem lw_p11 : lw_okq (⟨"OnlyNamed", "slotAt", "(I)LOnlyNamed$Memory;"⟩, 9) := ⟨⟨by decide +kernel, by decide +kernel⟩, List.mem_of_getElem? (i := 15) (by decide +kernel), List.mem_of_getElem? (i := 335) (by decide +kernel), List.mem_of_getElem? (i := 336) (by decide +kernel)⟩
theorem lw_p12 : lw_okq (⟨"OnlyNamed", "nearTo", "(II)I"⟩, 9) := ⟨⟨by decide +kernel, by decide +kernel⟩, List.mem_of_getElem? (i := 15) (by decide +kernel), List.mem_of_getElem? (i := 386) (by decide +kernel), List.mem_of_getElem? (i := 387) (by decide +kernel)⟩
theorem lw_p13 : lw_okq (⟨"OnlyNamed", "freshName", "()I"⟩, 9) := ⟨⟨by decide +kernel, by decide +kernel⟩, List.mem_of_getElem? (i := 15) (by decide +kernel), List.mem_of_getElem? (i := 433) (by decide +kernel), List.mem_of_getElem? (i := 434) (by decide +kernel)⟩
theorem lw_p14 : lw_okq (⟨"OnlyNamed$Search", "rulerAt", "(I)LOnlyNamed$Ruler;"⟩, 3) := ⟨⟨by decide +kernel, by decide +kernel⟩, List.mem_of_getElem? (i := 154) (by decide +kernel), List.mem_of_getElem? (i := 445) (by decide +kernel), List.mem_of_getElem? (i := 446) (by decide +kernel)⟩
theorem lw_p15 : lw_okq (⟨"OnlyNamed$Search", "find", "(II)Z"⟩, 3) := ⟨⟨by decide +kernel, by decide +kernel⟩, List.mem_of_getElem? (i := 154) (by decide +kernel), List.mem_of_getElem? (i := 454) (by decide +kernel), List.mem_of_getElem? (i := 455) (by decide +kernel)⟩
def lw_privs_1 : List (MethodName × Nat) := [(⟨"OnlyNamed$Telling", "take", "(I)Z"⟩, 11), (⟨"OnlyNamed$Telling", "takeH", "(I)Z"⟩, 11), (⟨"OnlyNamed$Telling", "takeR", "(I)Z"⟩, 11), (⟨"OnlyNamed$Telling", "takeSound", "(I)Z"⟩, 11), (⟨"OnlyNamed$Telling", "endName", "()Z"⟩, 11), (⟨"OnlyNamed$Telling", "isTold", "(I)Z"⟩, 11), (⟨"OnlyNamed$Telling", "takePart", "(I)Z"⟩, 11), (⟨"OnlyNamed$Telling", "takeBear", "(I)Z"⟩, 11), (⟨"OnlyNamed$Telling", "takeKnower", "(I)Z"⟩, 11), (⟨"OnlyNamed$Telling", "canLearn", "(I)Z"⟩, 11), (⟨"OnlyNamed$Telling", "takeKnown", "(I)Z"⟩, 11), (⟨"OnlyNamed", "slotAt", "(I)LOnlyNamed$Memory;"⟩, 9), (⟨"OnlyNamed", "nearTo", "(II)I"⟩, 9), (⟨"OnlyNamed", "freshName", "()I"⟩, 9), (⟨"OnlyNamed$Search", "rulerAt", "(I)LOnlyNamed$Ruler;"⟩, 3), (⟨"OnlyNamed$Search", "find", "(II)Z"⟩, 3)]
theorem lw_r1 : ∀ q ∈ lw_privs_1, lw_okq q := List.forall_mem_cons.mpr ⟨lw_p0, List.forall_mem_cons.mpr ⟨lw_p1, List.forall_mem_cons.mpr ⟨lw_p2, List.forall_mem_cons.mpr ⟨lw_p3, List.forall_mem_cons.mpr ⟨lw_p4, List.forall_mem_cons.mpr ⟨lw_p5, List.forall_mem_cons.mpr ⟨lw_p6, List.forall_mem_cons.mpr ⟨lw_p7, List.forall_mem_cons.mpr ⟨lw_p8, List.forall_mem_cons.mpr ⟨lw_p9, List.forall_mem_cons.mpr ⟨lw_p10, List.forall_mem_cons.mpr ⟨lw_p11, List.forall_mem_cons.mpr ⟨lw_p12, List.forall_mem_cons.mpr ⟨lw_p13, List.forall_mem_cons.mpr ⟨lw_p14, List.forall_mem_cons.mpr ⟨lw_p15, fun _ h => absurd h List.not_mem_nil⟩⟩⟩⟩⟩⟩⟩⟩⟩⟩⟩⟩⟩⟩⟩⟩
theorem lw_p16 : lw_okq (⟨"OnlyNamed$Search", "isHopeless", "(II)Z"⟩, 3) := ⟨⟨by decide +kernel, by decide +kernel⟩, List.mem_of_getElem? (i := 154) (by decide +kernel), List.mem_of_getElem? (i := 458) (by decide +kernel), List.mem_of_getElem? (i := 459) (by decide +kernel)⟩
theorem lw_p17 : lw_okq (⟨"OnlyNamed$Search", "isTooNear", "(IIII)Z"⟩, 3) := ⟨⟨by decide +kernel, by decide +kernel⟩, List.mem_of_getElem? (i := 154) (by decide +kernel), List.mem_of_getElem? (i := 470) (by decide +kernel), List.mem_of_getElem? (i := 471) (by decide +kernel)⟩
theorem lw_p18 : lw_okq (⟨"OnlyNamed$Search", "found", "(I)I"⟩, 3) := ⟨⟨by decide +kernel, by decide +kernel⟩, List.mem_of_getElem? (i := 154) (by decide +kernel), List.mem_of_getElem? (i := 475) (by decide +kernel), List.mem_of_getElem? (i := 476) (by decide +kernel)⟩
theorem lw_p19 : lw_okq (⟨"OnlyNamed", "clearOnes", "()I"⟩, 9) := ⟨⟨by decide +kernel, by decide +kernel⟩, List.mem_of_getElem? (i := 15) (by decide +kernel), List.mem_of_getElem? (i := 489) (by decide +kernel), List.mem_of_getElem? (i := 490) (by decide +kernel)⟩
theorem lw_p20 : lw_okq (⟨"OnlyNamed", "liftedBy", "(II)I"⟩, 9) := ⟨⟨by decide +kernel, by decide +kernel⟩, List.mem_of_getElem? (i := 15) (by decide +kernel), List.mem_of_getElem? (i := 493) (by decide +kernel), List.mem_of_getElem? (i := 494) (by decide +kernel)⟩
theorem lw_p21 : lw_okq (⟨"OnlyNamed", "gatherCarriers", "()V"⟩, 9) := ⟨⟨by decide +kernel, by decide +kernel⟩, List.mem_of_getElem? (i := 15) (by decide +kernel), List.mem_of_getElem? (i := 509) (by decide +kernel), List.mem_of_getElem? (i := 510) (by decide +kernel)⟩
theorem lw_p22 : lw_okq (⟨"OnlyNamed$Carriers", "packSet", "(I)V"⟩, 5) := ⟨⟨by decide +kernel, by decide +kernel⟩, List.mem_of_getElem? (i := 173) (by decide +kernel), List.mem_of_getElem? (i := 517) (by decide +kernel), List.mem_of_getElem? (i := 518) (by decide +kernel)⟩
theorem lw_p23 : lw_okq (⟨"OnlyNamed$Carriers", "putLast", "(II)V"⟩, 5) := ⟨⟨by decide +kernel, by decide +kernel⟩, List.mem_of_getElem? (i := 173) (by decide +kernel), List.mem_of_getElem? (i := 525) (by decide +kernel), List.mem_of_getElem? (i := 526) (by decide +kernel)⟩
theorem lw_p24 : lw_okq (⟨"OnlyNamed$Carriers", "canTake", "(III)Z"⟩, 5) := ⟨⟨by decide +kernel, by decide +kernel⟩, List.mem_of_getElem? (i := 173) (by decide +kernel), List.mem_of_getElem? (i := 529) (by decide +kernel), List.mem_of_getElem? (i := 530) (by decide +kernel)⟩
theorem lw_p25 : lw_okq (⟨"OnlyNamed$Carriers", "holdBetter", "(III)V"⟩, 5) := ⟨⟨by decide +kernel, by decide +kernel⟩, List.mem_of_getElem? (i := 173) (by decide +kernel), List.mem_of_getElem? (i := 533) (by decide +kernel), List.mem_of_getElem? (i := 534) (by decide +kernel)⟩
theorem lw_p26 : lw_okq (⟨"OnlyNamed$Carriers", "leastLoad", "(II)I"⟩, 5) := ⟨⟨by decide +kernel, by decide +kernel⟩, List.mem_of_getElem? (i := 173) (by decide +kernel), List.mem_of_getElem? (i := 545) (by decide +kernel), List.mem_of_getElem? (i := 546) (by decide +kernel)⟩
theorem lw_p27 : lw_okq (⟨"OnlyNamed$Carriers", "bearsLoad", "(II)Z"⟩, 5) := ⟨⟨by decide +kernel, by decide +kernel⟩, List.mem_of_getElem? (i := 173) (by decide +kernel), List.mem_of_getElem? (i := 549) (by decide +kernel), List.mem_of_getElem? (i := 550) (by decide +kernel)⟩
theorem lw_p28 : lw_okq (⟨"OnlyNamed$Songs", "hear", "(II)V"⟩, 5) := ⟨⟨by decide +kernel, by decide +kernel⟩, List.mem_of_getElem? (i := 198) (by decide +kernel), List.mem_of_getElem? (i := 600) (by decide +kernel), List.mem_of_getElem? (i := 601) (by decide +kernel)⟩
theorem lw_p29 : lw_okq (⟨"OnlyNamed$Songs", "fit", "(I)I"⟩, 5) := ⟨⟨by decide +kernel, by decide +kernel⟩, List.mem_of_getElem? (i := 198) (by decide +kernel), List.mem_of_getElem? (i := 604) (by decide +kernel), List.mem_of_getElem? (i := 605) (by decide +kernel)⟩
theorem lw_p30 : lw_okq (⟨"OnlyNamed$Songs", "giveNext", "(II)V"⟩, 5) := ⟨⟨by decide +kernel, by decide +kernel⟩, List.mem_of_getElem? (i := 198) (by decide +kernel), List.mem_of_getElem? (i := 608) (by decide +kernel), List.mem_of_getElem? (i := 609) (by decide +kernel)⟩
theorem lw_p31 : lw_okq (⟨"OnlyNamed", "liveNamed", "(I)I"⟩, 9) := ⟨⟨by decide +kernel, by decide +kernel⟩, List.mem_of_getElem? (i := 15) (by decide +kernel), List.mem_of_getElem? (i := 647) (by decide +kernel), List.mem_of_getElem? (i := 648) (by decide +kernel)⟩
def lw_privs_2 : List (MethodName × Nat) := [(⟨"OnlyNamed$Search", "isHopeless", "(II)Z"⟩, 3), (⟨"OnlyNamed$Search", "isTooNear", "(IIII)Z"⟩, 3), (⟨"OnlyNamed$Search", "found", "(I)I"⟩, 3), (⟨"OnlyNamed", "clearOnes", "()I"⟩, 9), (⟨"OnlyNamed", "liftedBy", "(II)I"⟩, 9), (⟨"OnlyNamed", "gatherCarriers", "()V"⟩, 9), (⟨"OnlyNamed$Carriers", "packSet", "(I)V"⟩, 5), (⟨"OnlyNamed$Carriers", "putLast", "(II)V"⟩, 5), (⟨"OnlyNamed$Carriers", "canTake", "(III)Z"⟩, 5), (⟨"OnlyNamed$Carriers", "holdBetter", "(III)V"⟩, 5), (⟨"OnlyNamed$Carriers", "leastLoad", "(II)I"⟩, 5), (⟨"OnlyNamed$Carriers", "bearsLoad", "(II)Z"⟩, 5), (⟨"OnlyNamed$Songs", "hear", "(II)V"⟩, 5), (⟨"OnlyNamed$Songs", "fit", "(I)I"⟩, 5), (⟨"OnlyNamed$Songs", "giveNext", "(II)V"⟩, 5), (⟨"OnlyNamed", "liveNamed", "(I)I"⟩, 9)]
theorem lw_r2 : ∀ q ∈ lw_privs_2, lw_okq q := List.forall_mem_cons.mpr ⟨lw_p16, List.forall_mem_cons.mpr ⟨lw_p17, List.forall_mem_cons.mpr ⟨lw_p18, List.forall_mem_cons.mpr ⟨lw_p19, List.forall_mem_cons.mpr ⟨lw_p20, List.forall_mem_cons.mpr ⟨lw_p21, List.forall_mem_cons.mpr ⟨lw_p22, List.forall_mem_cons.mpr ⟨lw_p23, List.forall_mem_cons.mpr ⟨lw_p24, List.forall_mem_cons.mpr ⟨lw_p25, List.forall_mem_cons.mpr ⟨lw_p26, List.forall_mem_cons.mpr ⟨lw_p27, List.forall_mem_cons.mpr ⟨lw_p28, List.forall_mem_cons.mpr ⟨lw_p29, List.forall_mem_cons.mpr ⟨lw_p30, List.forall_mem_cons.mpr ⟨lw_p31, fun _ h => absurd h List.not_mem_nil⟩⟩⟩⟩⟩⟩⟩⟩⟩⟩⟩⟩⟩⟩⟩⟩
theorem lw_p32 : lw_okq (⟨"OnlyNamed", "soundsOfAll", "()I"⟩, 9) := ⟨⟨by decide +kernel, by decide +kernel⟩, List.mem_of_getElem? (i := 15) (by decide +kernel), List.mem_of_getElem? (i := 668) (by decide +kernel), List.mem_of_getElem? (i := 669) (by decide +kernel)⟩
theorem lw_p33 : lw_okq (⟨"OnlyNamedModel", "readText", "()I"⟩, 37) := ⟨⟨by decide +kernel, by decide +kernel⟩, List.mem_of_getElem? (i := 672) (by decide +kernel), List.mem_of_getElem? (i := 808) (by decide +kernel), List.mem_of_getElem? (i := 809) (by decide +kernel)⟩
theorem lw_p34 : lw_okq (⟨"OnlyNamedModel", "here", "()I"⟩, 37) := ⟨⟨by decide +kernel, by decide +kernel⟩, List.mem_of_getElem? (i := 672) (by decide +kernel), List.mem_of_getElem? (i := 812) (by decide +kernel), List.mem_of_getElem? (i := 813) (by decide +kernel)⟩
theorem lw_p35 : lw_okq (⟨"OnlyNamedModel", "figure", "(I)I"⟩, 37) := ⟨⟨by decide +kernel, by decide +kernel⟩, List.mem_of_getElem? (i := 672) (by decide +kernel), List.mem_of_getElem? (i := 816) (by decide +kernel), List.mem_of_getElem? (i := 817) (by decide +kernel)⟩
theorem lw_p36 : lw_okq (⟨"OnlyNamedModel", "fail", "()V"⟩, 37) := ⟨⟨by decide +kernel, by decide +kernel⟩, List.mem_of_getElem? (i := 672) (by decide +kernel), List.mem_of_getElem? (i := 821) (by decide +kernel), List.mem_of_getElem? (i := 822) (by decide +kernel)⟩
theorem lw_p37 : lw_okq (⟨"OnlyNamedModel", "readName", "()V"⟩, 37) := ⟨⟨by decide +kernel, by decide +kernel⟩, List.mem_of_getElem? (i := 672) (by decide +kernel), List.mem_of_getElem? (i := 825) (by decide +kernel), List.mem_of_getElem? (i := 826) (by decide +kernel)⟩
theorem lw_p38 : lw_okq (⟨"OnlyNamedModel", "isTold", "()Z"⟩, 37) := ⟨⟨by decide +kernel, by decide +kernel⟩, List.mem_of_getElem? (i := 672) (by decide +kernel), List.mem_of_getElem? (i := 831) (by decide +kernel), List.mem_of_getElem? (i := 832) (by decide +kernel)⟩
theorem lw_p39 : lw_okq (⟨"OnlyNamedModel", "open", "()I"⟩, 37) := ⟨⟨by decide +kernel, by decide +kernel⟩, List.mem_of_getElem? (i := 672) (by decide +kernel), List.mem_of_getElem? (i := 835) (by decide +kernel), List.mem_of_getElem? (i := 836) (by decide +kernel)⟩
theorem lw_p40 : lw_okq (⟨"OnlyNamedModel", "unknown", "(I)I"⟩, 37) := ⟨⟨by decide +kernel, by decide +kernel⟩, List.mem_of_getElem? (i := 672) (by decide +kernel), List.mem_of_getElem? (i := 839) (by decide +kernel), List.mem_of_getElem? (i := 840) (by decide +kernel)⟩
theorem lw_p41 : lw_okq (⟨"OnlyNamedModel", "isThing", "(I)Z"⟩, 37) := ⟨⟨by decide +kernel, by decide +kernel⟩, List.mem_of_getElem? (i := 672) (by decide +kernel), List.mem_of_getElem? (i := 851) (by decide +kernel), List.mem_of_getElem? (i := 852) (by decide +kernel)⟩
theorem lw_p42 : lw_okq (⟨"OnlyNamedModel", "offOf", "(II)I"⟩, 37) := ⟨⟨by decide +kernel, by decide +kernel⟩, List.mem_of_getElem? (i := 672) (by decide +kernel), List.mem_of_getElem? (i := 859) (by decide +kernel), List.mem_of_getElem? (i := 860) (by decide +kernel)⟩
theorem lw_p43 : lw_okq (⟨"OnlyNamedModel", "offTried", "(I)I"⟩, 37) := ⟨⟨by decide +kernel, by decide +kernel⟩, List.mem_of_getElem? (i := 672) (by decide +kernel), List.mem_of_getElem? (i := 863) (by decide +kernel), List.mem_of_getElem? (i := 864) (by decide +kernel)⟩
theorem lw_p44 : lw_okq (⟨"OnlyNamedModel", "isLive", "(I)Z"⟩, 37) := ⟨⟨by decide +kernel, by decide +kernel⟩, List.mem_of_getElem? (i := 672) (by decide +kernel), List.mem_of_getElem? (i := 874) (by decide +kernel), List.mem_of_getElem? (i := 875) (by decide +kernel)⟩
theorem lw_p45 : lw_okq (⟨"OnlyNamedModel", "nearTo", "(I)I"⟩, 37) := ⟨⟨by decide +kernel, by decide +kernel⟩, List.mem_of_getElem? (i := 672) (by decide +kernel), List.mem_of_getElem? (i := 878) (by decide +kernel), List.mem_of_getElem? (i := 879) (by decide +kernel)⟩
theorem lw_p46 : lw_okq (⟨"OnlyNamedModel", "liveSet", "()I"⟩, 37) := ⟨⟨by decide +kernel, by decide +kernel⟩, List.mem_of_getElem? (i := 672) (by decide +kernel), List.mem_of_getElem? (i := 890) (by decide +kernel), List.mem_of_getElem? (i := 891) (by decide +kernel)⟩
theorem lw_p47 : lw_okq (⟨"OnlyNamedModel", "isPerson", "(I)Z"⟩, 37) := ⟨⟨by decide +kernel, by decide +kernel⟩, List.mem_of_getElem? (i := 672) (by decide +kernel), List.mem_of_getElem? (i := 907) (by decide +kernel), List.mem_of_getElem? (i := 908) (by decide +kernel)⟩
def lw_privs_3 : List (MethodName × Nat) := [(⟨"OnlyNamed", "soundsOfAll", "()I"⟩, 9), (⟨"OnlyNamedModel", "readText", "()I"⟩, 37), (⟨"OnlyNamedModel", "here", "()I"⟩, 37), (⟨"OnlyNamedModel", "figure", "(I)I"⟩, 37), (⟨"OnlyNamedModel", "fail", "()V"⟩, 37), (⟨"OnlyNamedModel", "readName", "()V"⟩, 37), (⟨"OnlyNamedModel", "isTold", "()Z"⟩, 37), (⟨"OnlyNamedModel", "open", "()I"⟩, 37), (⟨"OnlyNamedModel", "unknown", "(I)I"⟩, 37), (⟨"OnlyNamedModel", "isThing", "(I)Z"⟩, 37), (⟨"OnlyNamedModel", "offOf", "(II)I"⟩, 37), (⟨"OnlyNamedModel", "offTried", "(I)I"⟩, 37), (⟨"OnlyNamedModel", "isLive", "(I)Z"⟩, 37), (⟨"OnlyNamedModel", "nearTo", "(I)I"⟩, 37), (⟨"OnlyNamedModel", "liveSet", "()I"⟩, 37), (⟨"OnlyNamedModel", "isPerson", "(I)Z"⟩, 37)]
theorem lw_r3 : ∀ q ∈ lw_privs_3, lw_okq q := List.forall_mem_cons.mpr ⟨lw_p32, List.forall_mem_cons.mpr ⟨lw_p33, List.forall_mem_cons.mpr ⟨lw_p34, List.forall_mem_cons.mpr ⟨lw_p35, List.forall_mem_cons.mpr ⟨lw_p36, List.forall_mem_cons.mpr ⟨lw_p37, List.forall_mem_cons.mpr ⟨lw_p38, List.forall_mem_cons.mpr ⟨lw_p39, List.forall_mem_cons.mpr ⟨lw_p40, List.forall_mem_cons.mpr ⟨lw_p41, List.forall_mem_cons.mpr ⟨lw_p42, List.forall_mem_cons.mpr ⟨lw_p43, List.forall_mem_cons.mpr ⟨lw_p44, List.forall_mem_cons.mpr ⟨lw_p45, List.forall_mem_cons.mpr ⟨lw_p46, List.forall_mem_cons.mpr ⟨lw_p47, fun _ h => absurd h List.not_mem_nil⟩⟩⟩⟩⟩⟩⟩⟩⟩⟩⟩⟩⟩⟩⟩⟩
theorem lw_p48 : lw_okq (⟨"OnlyNamedModel", "isKnown", "(II)Z"⟩, 37) := ⟨⟨by decide +kernel, by decide +kernel⟩, List.mem_of_getElem? (i := 672) (by decide +kernel), List.mem_of_getElem? (i := 911) (by decide +kernel), List.mem_of_getElem? (i := 912) (by decide +kernel)⟩
theorem lw_p49 : lw_okq (⟨"OnlyNamedModel", "layFresh", "()Z"⟩, 37) := ⟨⟨by decide +kernel, by decide +kernel⟩, List.mem_of_getElem? (i := 672) (by decide +kernel), List.mem_of_getElem? (i := 923) (by decide +kernel), List.mem_of_getElem? (i := 924) (by decide +kernel)⟩
theorem lw_p50 : lw_okq (⟨"OnlyNamedModel", "liftsOf", "(I)I"⟩, 37) := ⟨⟨by decide +kernel, by decide +kernel⟩, List.mem_of_getElem? (i := 672) (by decide +kernel), List.mem_of_getElem? (i := 935) (by decide +kernel), List.mem_of_getElem? (i := 936) (by decide +kernel)⟩
theorem lw_p51 : lw_okq (⟨"OnlyNamedModel", "isThings", "(I)Z"⟩, 37) := ⟨⟨by decide +kernel, by decide +kernel⟩, List.mem_of_getElem? (i := 672) (by decide +kernel), List.mem_of_getElem? (i := 943) (by decide +kernel), List.mem_of_getElem? (i := 944) (by decide +kernel)⟩
theorem lw_p52 : lw_okq (⟨"OnlyNamedModel", "breaksAt", "(III)I"⟩, 37) := ⟨⟨by decide +kernel, by decide +kernel⟩, List.mem_of_getElem? (i := 672) (by decide +kernel), List.mem_of_getElem? (i := 947) (by decide +kernel), List.mem_of_getElem? (i := 948) (by decide +kernel)⟩
theorem lw_p53 : lw_okq (⟨"OnlyNamedModel", "layCan", "(I)V"⟩, 37) := ⟨⟨by decide +kernel, by decide +kernel⟩, List.mem_of_getElem? (i := 672) (by decide +kernel), List.mem_of_getElem? (i := 955) (by decide +kernel), List.mem_of_getElem? (i := 956) (by decide +kernel)⟩
theorem lw_p54 : lw_okq (⟨"OnlyNamedModel", "leastLoad", "(II)I"⟩, 37) := ⟨⟨by decide +kernel, by decide +kernel⟩, List.mem_of_getElem? (i := 672) (by decide +kernel), List.mem_of_getElem? (i := 959) (by decide +kernel), List.mem_of_getElem? (i := 960) (by decide +kernel)⟩
theorem lw_p55 : lw_okq (⟨"OnlyNamedModel", "timesOf", "(I)I"⟩, 37) := ⟨⟨by decide +kernel, by decide +kernel⟩, List.mem_of_getElem? (i := 672) (by decide +kernel), List.mem_of_getElem? (i := 967) (by decide +kernel), List.mem_of_getElem? (i := 968) (by decide +kernel)⟩
theorem lw_p56 : lw_okq (⟨"OnlyNamedModel", "waysBy", "(II)I"⟩, 37) := ⟨⟨by decide +kernel, by decide +kernel⟩, List.mem_of_getElem? (i := 672) (by decide +kernel), List.mem_of_getElem? (i := 996) (by decide +kernel), List.mem_of_getElem? (i := 997) (by decide +kernel)⟩
theorem lw_p57 : lw_okq (⟨"OnlyNamedModel", "givings", "(I)I"⟩, 37) := ⟨⟨by decide +kernel, by decide +kernel⟩, List.mem_of_getElem? (i := 672) (by decide +kernel), List.mem_of_getElem? (i := 1000) (by decide +kernel), List.mem_of_getElem? (i := 1001) (by decide +kernel)⟩
def lw_privs_4 : List (MethodName × Nat) := [(⟨"OnlyNamedModel", "isKnown", "(II)Z"⟩, 37), (⟨"OnlyNamedModel", "layFresh", "()Z"⟩, 37), (⟨"OnlyNamedModel", "liftsOf", "(I)I"⟩, 37), (⟨"OnlyNamedModel", "isThings", "(I)Z"⟩, 37), (⟨"OnlyNamedModel", "breaksAt", "(III)I"⟩, 37), (⟨"OnlyNamedModel", "layCan", "(I)V"⟩, 37), (⟨"OnlyNamedModel", "leastLoad", "(II)I"⟩, 37), (⟨"OnlyNamedModel", "timesOf", "(I)I"⟩, 37), (⟨"OnlyNamedModel", "waysBy", "(II)I"⟩, 37), (⟨"OnlyNamedModel", "givings", "(I)I"⟩, 37)]
theorem lw_r4 : ∀ q ∈ lw_privs_4, lw_okq q := List.forall_mem_cons.mpr ⟨lw_p48, List.forall_mem_cons.mpr ⟨lw_p49, List.forall_mem_cons.mpr ⟨lw_p50, List.forall_mem_cons.mpr ⟨lw_p51, List.forall_mem_cons.mpr ⟨lw_p52, List.forall_mem_cons.mpr ⟨lw_p53, List.forall_mem_cons.mpr ⟨lw_p54, List.forall_mem_cons.mpr ⟨lw_p55, List.forall_mem_cons.mpr ⟨lw_p56, List.forall_mem_cons.mpr ⟨lw_p57, fun _ h => absurd h List.not_mem_nil⟩⟩⟩⟩⟩⟩⟩⟩⟩⟩
def lw_privs : List (MethodName × Nat) := lw_privs_1 ++ (lw_privs_2 ++ (lw_privs_3 ++ (lw_privs_4)))
def lw_tbl : List Cond := k2_sels lw_privs ++ tables_1
theorem lw_privs_ok : ∀ q ∈ lw_privs, lw_okq q := by
  show ∀ q ∈ lw_privs_1 ++ (lw_privs_2 ++ (lw_privs_3 ++ (lw_privs_4))), lw_okq q
  exact List.forall_mem_append.mpr ⟨lw_r1, List.forall_mem_append.mpr ⟨lw_r2, List.forall_mem_append.mpr ⟨lw_r3, lw_r4⟩⟩⟩
def RX0 : String := "OnlyNamed$Carriers"
def TX0 : u_T := fun k => match k with
  | 0 => ("OnlyNamed$Carriers", "lifted", "[I", true)
  | 1 => ("OnlyNamed$Carriers", "bears", "[I", true)
  | 2 => ("OnlyNamed$Carriers", "weights", "[I", true)
  | 3 => ("OnlyNamed$Carriers", "loads", "[I", true)
  | _ => ("OnlyNamed$Carriers", "lastWeight", "[I", true)
def tyX0 : Nat → FieldType := fun k => match k with
  | 0 => .array .int
  | 1 => .array .int
  | 2 => .array .int
  | 3 => .array .int
  | _ => .array .int
abbrev wsX00 : List Cond := u_ws RX0 TX0 5
theorem nmX0 : ∀ a, a < 5 → ∀ b, b < 5 → a ≠ b → (TX0 a).2.1 ≠ (TX0 b).2.1 := by decide +kernel
theorem tyX0_ok : ∀ k, k < 5 → parseFieldDescriptor (TX0 k).2.2.1 = some (tyX0 k) := by decide +kernel
abbrev cX0_init : ByteArray := prog_2_method_1_code
def yX0_init : MethodName := ⟨RX0, "<init>", "()V"⟩
abbrev cX0_allLifted : ByteArray := prog_2_method_2_code
def yX0_allLifted : MethodName := ⟨RX0, "allLifted", "()I"⟩
abbrev cX0_pack : ByteArray := prog_2_method_3_code
def yX0_pack : MethodName := ⟨RX0, "pack", "(I)V"⟩
abbrev cX0_packSet : ByteArray := prog_2_method_4_code
def yX0_packSet : MethodName := ⟨RX0, "packSet", "(I)V"⟩
abbrev cX0_putLast : ByteArray := prog_2_method_5_code
def yX0_putLast : MethodName := ⟨RX0, "putLast", "(II)V"⟩
abbrev cX0_holdBetter : ByteArray := prog_2_method_6_code
def yX0_holdBetter : MethodName := ⟨RX0, "holdBetter", "(III)V"⟩
abbrev cX0_canTake : ByteArray := prog_2_method_7_code
def yX0_canTake : MethodName := ⟨RX0, "canTake", "(III)Z"⟩
abbrev cX0_timesFor : ByteArray := prog_2_method_8_code
def yX0_timesFor : MethodName := ⟨RX0, "timesFor", "(I)I"⟩
abbrev cX0_firstWay : ByteArray := prog_2_method_9_code
def yX0_firstWay : MethodName := ⟨RX0, "firstWay", "(II)I"⟩
abbrev cX0_leastLoad : ByteArray := prog_2_method_10_code
def yX0_leastLoad : MethodName := ⟨RX0, "leastLoad", "(II)I"⟩
abbrev cX0_bearsLoad : ByteArray := prog_2_method_11_code
def yX0_bearsLoad : MethodName := ⟨RX0, "bearsLoad", "(II)Z"⟩
def RX1 : String := "OnlyNamed$House"
def TX1 : u_T := fun k => match k with
  | 0 => ("OnlyNamed$House", "bears", "[I", true)
  | 1 => ("OnlyNamed$House", "\x72", "I", false)
  | 2 => ("OnlyNamed$House", "things", "I", false)
  | _ => ("OnlyNamed$House", "people", "I", false)
def tyX1 : Nat → FieldType := fun k => match k with
  | 0 => .array .int
  | 1 => .int
  | 2 => .int
  | _ => .int
abbrev wsX10 : List Cond := u_ws RX1 TX1 4
theorem nmX1 : ∀ a, a < 4 → ∀ b, b < 4 → a ≠ b → (TX1 a).2.1 ≠ (TX1 b).2.1 := by decide +kernel
theorem tyX1_ok : ∀ k, k < 4 → parseFieldDescriptor (TX1 k).2.2.1 = some (tyX1 k) := by decide +kernel
abbrev cX1_init : ByteArray := prog_3_method_1_code
def yX1_init : MethodName := ⟨RX1, "<init>", "()V"⟩
abbrev cX1_settle : ByteArray := prog_3_method_2_code
def yX1_settle : MethodName := ⟨RX1, "settle", "(LOnlyNamed$Telling;)V"⟩
abbrev cX1_hasThing : ByteArray := prog_3_method_3_code
def yX1_hasThing : MethodName := ⟨RX1, "hasThing", "(I)Z"⟩
abbrev cX1_hasPerson : ByteArray := prog_3_method_4_code
def yX1_hasPerson : MethodName := ⟨RX1, "hasPerson", "(I)Z"⟩
abbrev cX1_areThings : ByteArray := prog_3_method_5_code
def yX1_areThings : MethodName := ⟨RX1, "areThings", "(I)Z"⟩
abbrev cX1_arePeople : ByteArray := prog_3_method_6_code
def yX1_arePeople : MethodName := ⟨RX1, "arePeople", "(I)Z"⟩
def RX2 : String := "OnlyNamed$Memory"
def TX2 : u_T := fun k => match k with
  | 0 => ("OnlyNamed$Memory", "names", "[I", true)
  | 1 => ("OnlyNamed$Memory", "said", "[I", true)
  | 2 => ("OnlyNamed$Memory", "knowers", "[I", true)
  | 3 => ("OnlyNamed$Memory", "day", "I", false)
  | _ => ("OnlyNamed$Memory", "filled", "Z", false)
def tyX2 : Nat → FieldType := fun k => match k with
  | 0 => .array .int
  | 1 => .array .int
  | 2 => .array .int
  | 3 => .int
  | _ => .boolean
abbrev wsX20 : List Cond := u_ws RX2 TX2 5
theorem nmX2 : ∀ a, a < 5 → ∀ b, b < 5 → a ≠ b → (TX2 a).2.1 ≠ (TX2 b).2.1 := by decide +kernel
theorem tyX2_ok : ∀ k, k < 5 → parseFieldDescriptor (TX2 k).2.2.1 = some (tyX2 k) := by decide +kernel
abbrev cX2_init : ByteArray := prog_4_method_1_code
def yX2_init : MethodName := ⟨RX2, "<init>", "()V"⟩
abbrev cX2_begin : ByteArray := prog_4_method_2_code
def yX2_begin : MethodName := ⟨RX2, "begin", "(LOnlyNamed$Telling;)V"⟩
abbrev cX2_copy : ByteArray := prog_4_method_3_code
def yX2_copy : MethodName := ⟨RX2, "copy", "(LOnlyNamed$Memory;)V"⟩
abbrev cX2_isLive : ByteArray := prog_4_method_4_code
def yX2_isLive : MethodName := ⟨RX2, "isLive", "(I)Z"⟩
abbrev cX2_liveOnes : ByteArray := prog_4_method_5_code
def yX2_liveOnes : MethodName := ⟨RX2, "liveOnes", "()I"⟩
abbrev cX2_pass : ByteArray := prog_4_method_6_code
def yX2_pass : MethodName := ⟨RX2, "pass", "(I)I"⟩
abbrev cX2_sayingsFor : ByteArray := prog_4_method_7_code
def yX2_sayingsFor : MethodName := ⟨RX2, "sayingsFor", "(II)I"⟩
def RX3 : String := "OnlyNamed$Name"
def TX3 : u_T := fun k => match k with
  | _ => ("", "", "", false)
def tyX3 : Nat → FieldType := fun k => match k with
  | _ => .int
abbrev wsX30 : List Cond := u_ws RX3 TX3 0
theorem nmX3 : ∀ a, a < 0 → ∀ b, b < 0 → a ≠ b → (TX3 a).2.1 ≠ (TX3 b).2.1 := by decide +kernel
theorem tyX3_ok : ∀ k, k < 0 → parseFieldDescriptor (TX3 k).2.2.1 = some (tyX3 k) := by decide +kernel
abbrev cX3_soundAt : ByteArray := prog_5_method_2_code
def yX3_soundAt : MethodName := ⟨RX3, "soundAt", "(II)I"⟩
abbrev cX3_withSound : ByteArray := prog_5_method_3_code
def yX3_withSound : MethodName := ⟨RX3, "withSound", "(III)I"⟩
abbrev cX3_lengthOf : ByteArray := prog_5_method_4_code
def yX3_lengthOf : MethodName := ⟨RX3, "lengthOf", "(I)I"⟩
abbrev cX3_inTongue : ByteArray := prog_5_method_5_code
def yX3_inTongue : MethodName := ⟨RX3, "inTongue", "(II)I"⟩
def RX4 : String := "OnlyNamed$Ruler"
def TX4 : u_T := fun k => match k with
  | 0 => ("OnlyNamed$Ruler", "rows", "[[I", true)
  | 1 => ("OnlyNamed$Ruler", "name", "I", false)
  | _ => ("OnlyNamed$Ruler", "length", "I", false)
def tyX4 : Nat → FieldType := fun k => match k with
  | 0 => .array (.array .int)
  | 1 => .int
  | _ => .int
abbrev wsX40 : List Cond := u_ws RX4 TX4 3
theorem nmX4 : ∀ a, a < 3 → ∀ b, b < 3 → a ≠ b → (TX4 a).2.1 ≠ (TX4 b).2.1 := by decide +kernel
theorem tyX4_ok : ∀ k, k < 3 → parseFieldDescriptor (TX4 k).2.2.1 = some (tyX4 k) := by decide +kernel
abbrev cX4_init : ByteArray := prog_6_method_1_code
def yX4_init : MethodName := ⟨RX4, "<init>", "()V"⟩
abbrev cX4_between : ByteArray := prog_6_method_2_code
def yX4_between : MethodName := ⟨RX4, "between", "(II)I"⟩
abbrev cX4_lay : ByteArray := prog_6_method_3_code
def yX4_lay : MethodName := ⟨RX4, "lay", "(I)V"⟩
abbrev cX4_step : ByteArray := prog_6_method_4_code
def yX4_step : MethodName := ⟨RX4, "step", "(II)V"⟩
abbrev cX4_atMost : ByteArray := prog_6_method_5_code
def yX4_atMost : MethodName := ⟨RX4, "atMost", "(II)I"⟩
def RX5 : String := "OnlyNamed$Search"
def TX5 : u_T := fun k => match k with
  | 0 => ("OnlyNamed$Search", "rulers", "[LOnlyNamed$Ruler;", true)
  | 1 => ("OnlyNamed$Search", "sounds", "[I", true)
  | _ => ("OnlyNamed$Search", "others", "I", false)
def tyX5 : Nat → FieldType := fun k => match k with
  | 0 => .array (.object "OnlyNamed$Ruler")
  | 1 => .array .int
  | _ => .int
abbrev wsX50 : List Cond := u_ws RX5 TX5 3
theorem nmX5 : ∀ a, a < 3 → ∀ b, b < 3 → a ≠ b → (TX5 a).2.1 ≠ (TX5 b).2.1 := by decide +kernel
theorem tyX5_ok : ∀ k, k < 3 → parseFieldDescriptor (TX5 k).2.2.1 = some (tyX5 k) := by decide +kernel
abbrev cX5_init : ByteArray := prog_7_method_1_code
def yX5_init : MethodName := ⟨RX5, "<init>", "()V"⟩
abbrev cX5_begin : ByteArray := prog_7_method_2_code
def yX5_begin : MethodName := ⟨RX5, "begin", "()V"⟩
abbrev cX5_avoid : ByteArray := prog_7_method_3_code
def yX5_avoid : MethodName := ⟨RX5, "avoid", "(I)V"⟩
abbrev cX5_rulerAt : ByteArray := prog_7_method_4_code
def yX5_rulerAt : MethodName := ⟨RX5, "rulerAt", "(I)LOnlyNamed$Ruler;"⟩
abbrev cX5_shortest : ByteArray := prog_7_method_5_code
def yX5_shortest : MethodName := ⟨RX5, "shortest", "(I)I"⟩
abbrev cX5_find : ByteArray := prog_7_method_6_code
def yX5_find : MethodName := ⟨RX5, "find", "(II)Z"⟩
abbrev cX5_isHopeless : ByteArray := prog_7_method_7_code
def yX5_isHopeless : MethodName := ⟨RX5, "isHopeless", "(II)Z"⟩
abbrev cX5_isTooNear : ByteArray := prog_7_method_8_code
def yX5_isTooNear : MethodName := ⟨RX5, "isTooNear", "(IIII)Z"⟩
abbrev cX5_found : ByteArray := prog_7_method_9_code
def yX5_found : MethodName := ⟨RX5, "found", "(I)I"⟩
def RX6 : String := "OnlyNamed$Songs"
def TX6 : u_T := fun k => match k with
  | 0 => ("OnlyNamed$Songs", "lines", "I", false)
  | 1 => ("OnlyNamed$Songs", "lineNames", "[I", true)
  | 2 => ("OnlyNamed$Songs", "lineThings", "[I", true)
  | 3 => ("OnlyNamed$Songs", "canBe", "[I", true)
  | _ => ("OnlyNamed$Songs", "fits", "[I", true)
def tyX6 : Nat → FieldType := fun k => match k with
  | 0 => .int
  | 1 => .array .int
  | 2 => .array .int
  | 3 => .array .int
  | _ => .array .int
abbrev wsX60 : List Cond := u_ws RX6 TX6 5
theorem nmX6 : ∀ a, a < 5 → ∀ b, b < 5 → a ≠ b → (TX6 a).2.1 ≠ (TX6 b).2.1 := by decide +kernel
theorem tyX6_ok : ∀ k, k < 5 → parseFieldDescriptor (TX6 k).2.2.1 = some (tyX6 k) := by decide +kernel
abbrev cX6_init : ByteArray := prog_8_method_1_code
def yX6_init : MethodName := ⟨RX6, "<init>", "()V"⟩
abbrev cX6_sing : ByteArray := prog_8_method_2_code
def yX6_sing : MethodName := ⟨RX6, "sing", "(II)V"⟩
abbrev cX6_waysWith : ByteArray := prog_8_method_3_code
def yX6_waysWith : MethodName := ⟨RX6, "waysWith", "(II)I"⟩
abbrev cX6_thingsOf : ByteArray := prog_8_method_4_code
def yX6_thingsOf : MethodName := ⟨RX6, "thingsOf", "(II)I"⟩
abbrev cX6_firstBreak : ByteArray := prog_8_method_5_code
def yX6_firstBreak : MethodName := ⟨RX6, "firstBreak", "(I)I"⟩
abbrev cX6_hear : ByteArray := prog_8_method_6_code
def yX6_hear : MethodName := ⟨RX6, "hear", "(II)V"⟩
abbrev cX6_fit : ByteArray := prog_8_method_7_code
def yX6_fit : MethodName := ⟨RX6, "fit", "(I)I"⟩
abbrev cX6_giveNext : ByteArray := prog_8_method_8_code
def yX6_giveNext : MethodName := ⟨RX6, "giveNext", "(II)V"⟩
def RX7 : String := "OnlyNamed$Telling"
def TX7 : u_T := fun k => match k with
  | 0 => ("OnlyNamed$Telling", "names", "[I", true)
  | 1 => ("OnlyNamed$Telling", "knowers", "[I", true)
  | 2 => ("OnlyNamed$Telling", "bears", "[I", true)
  | 3 => ("OnlyNamed$Telling", "\x72", "I", false)
  | 4 => ("OnlyNamed$Telling", "things", "I", false)
  | 5 => ("OnlyNamed$Telling", "people", "I", false)
  | 6 => ("OnlyNamed$Telling", "pairs", "I", false)
  | 7 => ("OnlyNamed$Telling", "awaited", "I", false)
  | 8 => ("OnlyNamed$Telling", "name", "I", false)
  | 9 => ("OnlyNamed$Telling", "sounds", "I", false)
  | _ => ("OnlyNamed$Telling", "knower", "I", false)
def tyX7 : Nat → FieldType := fun k => match k with
  | 0 => .array .int
  | 1 => .array .int
  | 2 => .array .int
  | 3 => .int
  | 4 => .int
  | 5 => .int
  | 6 => .int
  | 7 => .int
  | 8 => .int
  | 9 => .int
  | _ => .int
abbrev wsX70 : List Cond := u_ws RX7 TX7 11
theorem nmX7 : ∀ a, a < 11 → ∀ b, b < 11 → a ≠ b → (TX7 a).2.1 ≠ (TX7 b).2.1 := by decide +kernel
theorem tyX7_ok : ∀ k, k < 11 → parseFieldDescriptor (TX7 k).2.2.1 = some (tyX7 k) := by decide +kernel
abbrev cX7_init : ByteArray := prog_9_method_1_code
def yX7_init : MethodName := ⟨RX7, "<init>", "()V"⟩
abbrev cX7_faultOf : ByteArray := prog_9_method_2_code
def yX7_faultOf : MethodName := ⟨RX7, "faultOf", "(LOnlyNamed$Text;)I"⟩
abbrev cX7_take : ByteArray := prog_9_method_3_code
def yX7_take : MethodName := ⟨RX7, "take", "(I)Z"⟩
abbrev cX7_takeH : ByteArray := prog_9_method_4_code
def yX7_takeH : MethodName := ⟨RX7, "takeH", "(I)Z"⟩
abbrev cX7_takeR : ByteArray := prog_9_method_5_code
def yX7_takeR : MethodName := ⟨RX7, "takeR", "(I)Z"⟩
abbrev cX7_takePart : ByteArray := prog_9_method_6_code
def yX7_takePart : MethodName := ⟨RX7, "takePart", "(I)Z"⟩
abbrev cX7_takeSound : ByteArray := prog_9_method_7_code
def yX7_takeSound : MethodName := ⟨RX7, "takeSound", "(I)Z"⟩
abbrev cX7_endName : ByteArray := prog_9_method_8_code
def yX7_endName : MethodName := ⟨RX7, "endName", "()Z"⟩
abbrev cX7_isTold : ByteArray := prog_9_method_9_code
def yX7_isTold : MethodName := ⟨RX7, "isTold", "(I)Z"⟩
abbrev cX7_takeBear : ByteArray := prog_9_method_10_code
def yX7_takeBear : MethodName := ⟨RX7, "takeBear", "(I)Z"⟩
abbrev cX7_takeKnower : ByteArray := prog_9_method_11_code
def yX7_takeKnower : MethodName := ⟨RX7, "takeKnower", "(I)Z"⟩
abbrev cX7_takeKnown : ByteArray := prog_9_method_12_code
def yX7_takeKnown : MethodName := ⟨RX7, "takeKnown", "(I)Z"⟩
abbrev cX7_canLearn : ByteArray := prog_9_method_13_code
def yX7_canLearn : MethodName := ⟨RX7, "canLearn", "(I)Z"⟩
def RX8 : String := "OnlyNamed$Text"
def TX8 : u_T := fun k => match k with
  | 0 => ("OnlyNamed$Text", "bytes", "[I", true)
  | _ => ("OnlyNamed$Text", "length", "I", false)
def tyX8 : Nat → FieldType := fun k => match k with
  | 0 => .array .int
  | _ => .int
abbrev wsX80 : List Cond := u_ws RX8 TX8 2
theorem nmX8 : ∀ a, a < 2 → ∀ b, b < 2 → a ≠ b → (TX8 a).2.1 ≠ (TX8 b).2.1 := by decide +kernel
theorem tyX8_ok : ∀ k, k < 2 → parseFieldDescriptor (TX8 k).2.2.1 = some (tyX8 k) := by decide +kernel
abbrev cX8_init : ByteArray := prog_10_method_1_code
def yX8_init : MethodName := ⟨RX8, "<init>", "()V"⟩
abbrev cX8_append : ByteArray := prog_10_method_2_code
def yX8_append : MethodName := ⟨RX8, "append", "(I)V"⟩
abbrev cX8_at : ByteArray := prog_10_method_3_code
def yX8_at : MethodName := ⟨RX8, "at", "(I)I"⟩
def RX9 : String := "OnlyNamed"
def TX9 : u_T := fun k => match k with
  | 0 => ("OnlyNamed", "text", "LOnlyNamed$Text;", true)
  | 1 => ("OnlyNamed", "telling", "LOnlyNamed$Telling;", true)
  | 2 => ("OnlyNamed", "house", "LOnlyNamed$House;", true)
  | 3 => ("OnlyNamed", "memory", "LOnlyNamed$Memory;", true)
  | 4 => ("OnlyNamed", "slots", "[LOnlyNamed$Memory;", true)
  | 5 => ("OnlyNamed", "ruler", "LOnlyNamed$Ruler;", true)
  | 6 => ("OnlyNamed", "search", "LOnlyNamed$Search;", true)
  | 7 => ("OnlyNamed", "carriers", "LOnlyNamed$Carriers;", true)
  | _ => ("OnlyNamed", "songs", "LOnlyNamed$Songs;", true)
def tyX9 : Nat → FieldType := fun k => match k with
  | 0 => .object "OnlyNamed$Text"
  | 1 => .object "OnlyNamed$Telling"
  | 2 => .object "OnlyNamed$House"
  | 3 => .object "OnlyNamed$Memory"
  | 4 => .array (.object "OnlyNamed$Memory")
  | 5 => .object "OnlyNamed$Ruler"
  | 6 => .object "OnlyNamed$Search"
  | 7 => .object "OnlyNamed$Carriers"
  | _ => .object "OnlyNamed$Songs"
abbrev wsX90 : List Cond := u_ws RX9 TX9 9
theorem nmX9 : ∀ a, a < 9 → ∀ b, b < 9 → a ≠ b → (TX9 a).2.1 ≠ (TX9 b).2.1 := by decide +kernel
theorem tyX9_ok : ∀ k, k < 9 → parseFieldDescriptor (TX9 k).2.2.1 = some (tyX9 k) := by decide +kernel
abbrev cX9_init : ByteArray := prog_1_method_1_code
def yX9_init : MethodName := ⟨RX9, "<init>", "()V"⟩
abbrev cX9_write : ByteArray := prog_1_method_2_code
def yX9_write : MethodName := ⟨RX9, "write", "(IJ)I"⟩
abbrev cX9_wipe : ByteArray := prog_1_method_3_code
def yX9_wipe : MethodName := ⟨RX9, "wipe", "()I"⟩
abbrev cX9_fault : ByteArray := prog_1_method_4_code
def yX9_fault : MethodName := ⟨RX9, "fault", "()I"⟩
abbrev cX9_house : ByteArray := prog_1_method_5_code
def yX9_house : MethodName := ⟨RX9, "house", "()I"⟩
abbrev cX9_sound : ByteArray := prog_1_method_6_code
def yX9_sound : MethodName := ⟨RX9, "sound", "(II)I"⟩
abbrev cX9_off : ByteArray := prog_1_method_7_code
def yX9_off : MethodName := ⟨RX9, "off", "(II)I"⟩
abbrev cX9_near : ByteArray := prog_1_method_8_code
def yX9_near : MethodName := ⟨RX9, "near", "(I)I"⟩
abbrev cX9_knows : ByteArray := prog_1_method_9_code
def yX9_knows : MethodName := ⟨RX9, "knows", "(I)I"⟩
abbrev cX9_live : ByteArray := prog_1_method_10_code
def yX9_live : MethodName := ⟨RX9, "live", "()I"⟩
abbrev cX9_days : ByteArray := prog_1_method_11_code
def yX9_days : MethodName := ⟨RX9, "days", "(I)I"⟩
abbrev cX9_fades : ByteArray := prog_1_method_12_code
def yX9_fades : MethodName := ⟨RX9, "fades", "(I)I"⟩
abbrev cX9_say : ByteArray := prog_1_method_13_code
def yX9_say : MethodName := ⟨RX9, "say", "(III)I"⟩
abbrev cX9_give : ByteArray := prog_1_method_14_code
def yX9_give : MethodName := ⟨RX9, "give", "(III)I"⟩
abbrev cX9_fresh : ByteArray := prog_1_method_15_code
def yX9_fresh : MethodName := ⟨RX9, "fresh", "(I)I"⟩
abbrev cX9_anew : ByteArray := prog_1_method_16_code
def yX9_anew : MethodName := ⟨RX9, "anew", "(II)I"⟩
abbrev cX9_lifts : ByteArray := prog_1_method_17_code
def yX9_lifts : MethodName := ⟨RX9, "lifts", "(I)I"⟩
abbrev cX9_stands : ByteArray := prog_1_method_18_code
def yX9_stands : MethodName := ⟨RX9, "stands", "(II)I"⟩
abbrev cX9_carries : ByteArray := prog_1_method_19_code
def yX9_carries : MethodName := ⟨RX9, "carries", "(II)I"⟩
abbrev cX9_times : ByteArray := prog_1_method_20_code
def yX9_times : MethodName := ⟨RX9, "times", "(I)I"⟩
abbrev cX9_worth : ByteArray := prog_1_method_21_code
def yX9_worth : MethodName := ⟨RX9, "worth", "(I)I"⟩
abbrev cX9_upkeep : ByteArray := prog_1_method_22_code
def yX9_upkeep : MethodName := ⟨RX9, "upkeep", "(II)I"⟩
abbrev cX9_mayHave : ByteArray := prog_1_method_23_code
def yX9_mayHave : MethodName := ⟨RX9, "mayHave", "(I)I"⟩
abbrev cX9_line : ByteArray := prog_1_method_24_code
def yX9_line : MethodName := ⟨RX9, "line", "(II)I"⟩
abbrev cX9_silence : ByteArray := prog_1_method_25_code
def yX9_silence : MethodName := ⟨RX9, "silence", "()I"⟩
abbrev cX9_ways : ByteArray := prog_1_method_26_code
def yX9_ways : MethodName := ⟨RX9, "ways", "(I)I"⟩
abbrev cX9_mayBe : ByteArray := prog_1_method_27_code
def yX9_mayBe : MethodName := ⟨RX9, "mayBe", "(II)I"⟩
abbrev cX9_breaks : ByteArray := prog_1_method_28_code
def yX9_breaks : MethodName := ⟨RX9, "breaks", "(I)I"⟩
abbrev cX9_twins : ByteArray := prog_1_method_29_code
def yX9_twins : MethodName := ⟨RX9, "twins", "(I)I"⟩
abbrev cX9_keep : ByteArray := prog_1_method_30_code
def yX9_keep : MethodName := ⟨RX9, "keep", "(I)I"⟩
abbrev cX9_again : ByteArray := prog_1_method_31_code
def yX9_again : MethodName := ⟨RX9, "again", "(I)I"⟩
abbrev cX9_count : ByteArray := prog_1_method_32_code
def yX9_count : MethodName := ⟨RX9, "count", "(I)I"⟩
abbrev cX9_has : ByteArray := prog_1_method_33_code
def yX9_has : MethodName := ⟨RX9, "has", "(II)Z"⟩
abbrev cX9_isSet : ByteArray := prog_1_method_34_code
def yX9_isSet : MethodName := ⟨RX9, "isSet", "(I)Z"⟩
abbrev cX9_isOldHouse : ByteArray := prog_1_method_35_code
def yX9_isOldHouse : MethodName := ⟨RX9, "isOldHouse", "(I)Z"⟩
abbrev cX9_slotAt : ByteArray := prog_1_method_36_code
def yX9_slotAt : MethodName := ⟨RX9, "slotAt", "(I)LOnlyNamed$Memory;"⟩
abbrev cX9_soundsOfAll : ByteArray := prog_1_method_37_code
def yX9_soundsOfAll : MethodName := ⟨RX9, "soundsOfAll", "()I"⟩
abbrev cX9_liveNamed : ByteArray := prog_1_method_38_code
def yX9_liveNamed : MethodName := ⟨RX9, "liveNamed", "(I)I"⟩
abbrev cX9_freshName : ByteArray := prog_1_method_39_code
def yX9_freshName : MethodName := ⟨RX9, "freshName", "()I"⟩
abbrev cX9_nearTo : ByteArray := prog_1_method_40_code
def yX9_nearTo : MethodName := ⟨RX9, "nearTo", "(II)I"⟩
abbrev cX9_clearOnes : ByteArray := prog_1_method_41_code
def yX9_clearOnes : MethodName := ⟨RX9, "clearOnes", "()I"⟩
abbrev cX9_liftedBy : ByteArray := prog_1_method_42_code
def yX9_liftedBy : MethodName := ⟨RX9, "liftedBy", "(II)I"⟩
abbrev cX9_gatherCarriers : ByteArray := prog_1_method_43_code
def yX9_gatherCarriers : MethodName := ⟨RX9, "gatherCarriers", "()V"⟩
def RX10 : String := "OnlyNamedModel"
def TX10 : u_T := fun k => match k with
  | 0 => ("OnlyNamedModel", "readSounds", "[I", true)
  | 1 => ("OnlyNamedModel", "readSizes", "[I", true)
  | 2 => ("OnlyNamedModel", "readKnows", "[I", true)
  | 3 => ("OnlyNamedModel", "readBears", "[I", true)
  | 4 => ("OnlyNamedModel", "readNear", "I", false)
  | 5 => ("OnlyNamedModel", "readThings", "I", false)
  | 6 => ("OnlyNamedModel", "readPeople", "I", false)
  | 7 => ("OnlyNamedModel", "sounds", "[I", true)
  | 8 => ("OnlyNamedModel", "sizes", "[I", true)
  | 9 => ("OnlyNamedModel", "knows", "[I", true)
  | 10 => ("OnlyNamedModel", "said", "[I", true)
  | 11 => ("OnlyNamedModel", "bears", "[I", true)
  | 12 => ("OnlyNamedModel", "near", "I", false)
  | 13 => ("OnlyNamedModel", "things", "I", false)
  | 14 => ("OnlyNamedModel", "people", "I", false)
  | 15 => ("OnlyNamedModel", "day", "I", false)
  | 16 => ("OnlyNamedModel", "text", "[I", true)
  | 17 => ("OnlyNamedModel", "length", "I", false)
  | 18 => ("OnlyNamedModel", "at", "I", false)
  | 19 => ("OnlyNamedModel", "faultAt", "I", false)
  | 20 => ("OnlyNamedModel", "tried", "[I", true)
  | 21 => ("OnlyNamedModel", "triedSize", "I", false)
  | 22 => ("OnlyNamedModel", "offRow", "[I", true)
  | 23 => ("OnlyNamedModel", "can", "[Z", true)
  | 24 => ("OnlyNamedModel", "bornes", "[Z", true)
  | 25 => ("OnlyNamedModel", "many", "[I", true)
  | 26 => ("OnlyNamedModel", "lines", "I", false)
  | 27 => ("OnlyNamedModel", "lineName", "[I", true)
  | 28 => ("OnlyNamedModel", "lineThings", "[I", true)
  | 29 => ("OnlyNamedModel", "gives", "[I", true)
  | 30 => ("OnlyNamedModel", "allowed", "[I", true)
  | 31 => ("OnlyNamedModel", "isKept", "[Z", true)
  | 32 => ("OnlyNamedModel", "keptSounds", "[I", true)
  | 33 => ("OnlyNamedModel", "keptSizes", "[I", true)
  | 34 => ("OnlyNamedModel", "keptKnows", "[I", true)
  | 35 => ("OnlyNamedModel", "keptSaid", "[I", true)
  | _ => ("OnlyNamedModel", "keptDay", "[I", true)
def tyX10 : Nat → FieldType := fun k => match k with
  | 0 => .array .int
  | 1 => .array .int
  | 2 => .array .int
  | 3 => .array .int
  | 4 => .int
  | 5 => .int
  | 6 => .int
  | 7 => .array .int
  | 8 => .array .int
  | 9 => .array .int
  | 10 => .array .int
  | 11 => .array .int
  | 12 => .int
  | 13 => .int
  | 14 => .int
  | 15 => .int
  | 16 => .array .int
  | 17 => .int
  | 18 => .int
  | 19 => .int
  | 20 => .array .int
  | 21 => .int
  | 22 => .array .int
  | 23 => .array .boolean
  | 24 => .array .boolean
  | 25 => .array .int
  | 26 => .int
  | 27 => .array .int
  | 28 => .array .int
  | 29 => .array .int
  | 30 => .array .int
  | 31 => .array .boolean
  | 32 => .array .int
  | 33 => .array .int
  | 34 => .array .int
  | 35 => .array .int
  | _ => .array .int
abbrev wsX100 : List Cond := u_ws RX10 TX10 37
theorem nmX10 : ∀ a, a < 37 → ∀ b, b < 37 → a ≠ b → (TX10 a).2.1 ≠ (TX10 b).2.1 := by decide +kernel
theorem tyX10_ok : ∀ k, k < 37 → parseFieldDescriptor (TX10 k).2.2.1 = some (tyX10 k) := by decide +kernel
abbrev cX10_init : ByteArray := prog_12_method_1_code
def yX10_init : MethodName := ⟨RX10, "<init>", "()V"⟩
abbrev cX10_in : ByteArray := prog_12_method_3_code
def yX10_in : MethodName := ⟨RX10, "in", "(JJJ)Z"⟩
abbrev cX10_write : ByteArray := prog_12_method_4_code
def yX10_write : MethodName := ⟨RX10, "write", "(IJ)I"⟩
abbrev cX10_wipe : ByteArray := prog_12_method_5_code
def yX10_wipe : MethodName := ⟨RX10, "wipe", "()I"⟩
abbrev cX10_here : ByteArray := prog_12_method_6_code
def yX10_here : MethodName := ⟨RX10, "here", "()I"⟩
abbrev cX10_fail : ByteArray := prog_12_method_7_code
def yX10_fail : MethodName := ⟨RX10, "fail", "()V"⟩
abbrev cX10_figure : ByteArray := prog_12_method_8_code
def yX10_figure : MethodName := ⟨RX10, "figure", "(I)I"⟩
abbrev cX10_open : ByteArray := prog_12_method_9_code
def yX10_open : MethodName := ⟨RX10, "open", "()I"⟩
abbrev cX10_unknown : ByteArray := prog_12_method_10_code
def yX10_unknown : MethodName := ⟨RX10, "unknown", "(I)I"⟩
abbrev cX10_readText : ByteArray := prog_12_method_11_code
def yX10_readText : MethodName := ⟨RX10, "readText", "()I"⟩
abbrev cX10_isTold : ByteArray := prog_12_method_12_code
def yX10_isTold : MethodName := ⟨RX10, "isTold", "()Z"⟩
abbrev cX10_readName : ByteArray := prog_12_method_13_code
def yX10_readName : MethodName := ⟨RX10, "readName", "()V"⟩
abbrev cX10_fault : ByteArray := prog_12_method_14_code
def yX10_fault : MethodName := ⟨RX10, "fault", "()I"⟩
abbrev cX10_house : ByteArray := prog_12_method_15_code
def yX10_house : MethodName := ⟨RX10, "house", "()I"⟩
abbrev cX10_isThing : ByteArray := prog_12_method_16_code
def yX10_isThing : MethodName := ⟨RX10, "isThing", "(I)Z"⟩
abbrev cX10_isPerson : ByteArray := prog_12_method_17_code
def yX10_isPerson : MethodName := ⟨RX10, "isPerson", "(I)Z"⟩
abbrev cX10_sound : ByteArray := prog_12_method_18_code
def yX10_sound : MethodName := ⟨RX10, "sound", "(II)I"⟩
abbrev cX10_least : ByteArray := prog_12_method_19_code
def yX10_least : MethodName := ⟨RX10, "least", "(III)I"⟩
abbrev cX10_offTried : ByteArray := prog_12_method_20_code
def yX10_offTried : MethodName := ⟨RX10, "offTried", "(I)I"⟩
abbrev cX10_offOf : ByteArray := prog_12_method_21_code
def yX10_offOf : MethodName := ⟨RX10, "offOf", "(II)I"⟩
abbrev cX10_off : ByteArray := prog_12_method_22_code
def yX10_off : MethodName := ⟨RX10, "off", "(II)I"⟩
abbrev cX10_isLive : ByteArray := prog_12_method_23_code
def yX10_isLive : MethodName := ⟨RX10, "isLive", "(I)Z"⟩
abbrev cX10_nearTo : ByteArray := prog_12_method_24_code
def yX10_nearTo : MethodName := ⟨RX10, "nearTo", "(I)I"⟩
abbrev cX10_near : ByteArray := prog_12_method_25_code
def yX10_near : MethodName := ⟨RX10, "near", "(I)I"⟩
abbrev cX10_knows : ByteArray := prog_12_method_26_code
def yX10_knows : MethodName := ⟨RX10, "knows", "(I)I"⟩
abbrev cX10_liveSet : ByteArray := prog_12_method_27_code
def yX10_liveSet : MethodName := ⟨RX10, "liveSet", "()I"⟩
abbrev cX10_live : ByteArray := prog_12_method_28_code
def yX10_live : MethodName := ⟨RX10, "live", "()I"⟩
abbrev cX10_days : ByteArray := prog_12_method_29_code
def yX10_days : MethodName := ⟨RX10, "days", "(I)I"⟩
abbrev cX10_fades : ByteArray := prog_12_method_30_code
def yX10_fades : MethodName := ⟨RX10, "fades", "(I)I"⟩
abbrev cX10_isKnown : ByteArray := prog_12_method_31_code
def yX10_isKnown : MethodName := ⟨RX10, "isKnown", "(II)Z"⟩
abbrev cX10_say : ByteArray := prog_12_method_32_code
def yX10_say : MethodName := ⟨RX10, "say", "(III)I"⟩
abbrev cX10_give : ByteArray := prog_12_method_33_code
def yX10_give : MethodName := ⟨RX10, "give", "(III)I"⟩
abbrev cX10_layFresh : ByteArray := prog_12_method_34_code
def yX10_layFresh : MethodName := ⟨RX10, "layFresh", "()Z"⟩
abbrev cX10_fresh : ByteArray := prog_12_method_35_code
def yX10_fresh : MethodName := ⟨RX10, "fresh", "(I)I"⟩
abbrev cX10_anew : ByteArray := prog_12_method_36_code
def yX10_anew : MethodName := ⟨RX10, "anew", "(II)I"⟩
abbrev cX10_liftsOf : ByteArray := prog_12_method_37_code
def yX10_liftsOf : MethodName := ⟨RX10, "liftsOf", "(I)I"⟩
abbrev cX10_lifts : ByteArray := prog_12_method_38_code
def yX10_lifts : MethodName := ⟨RX10, "lifts", "(I)I"⟩
abbrev cX10_isThings : ByteArray := prog_12_method_39_code
def yX10_isThings : MethodName := ⟨RX10, "isThings", "(I)Z"⟩
abbrev cX10_breaksAt : ByteArray := prog_12_method_40_code
def yX10_breaksAt : MethodName := ⟨RX10, "breaksAt", "(III)I"⟩
abbrev cX10_stands : ByteArray := prog_12_method_41_code
def yX10_stands : MethodName := ⟨RX10, "stands", "(II)I"⟩
abbrev cX10_layCan : ByteArray := prog_12_method_42_code
def yX10_layCan : MethodName := ⟨RX10, "layCan", "(I)V"⟩
abbrev cX10_leastLoad : ByteArray := prog_12_method_43_code
def yX10_leastLoad : MethodName := ⟨RX10, "leastLoad", "(II)I"⟩
abbrev cX10_carries : ByteArray := prog_12_method_44_code
def yX10_carries : MethodName := ⟨RX10, "carries", "(II)I"⟩
abbrev cX10_timesOf : ByteArray := prog_12_method_45_code
def yX10_timesOf : MethodName := ⟨RX10, "timesOf", "(I)I"⟩
abbrev cX10_times : ByteArray := prog_12_method_46_code
def yX10_times : MethodName := ⟨RX10, "times", "(I)I"⟩
abbrev cX10_worth : ByteArray := prog_12_method_47_code
def yX10_worth : MethodName := ⟨RX10, "worth", "(I)I"⟩
abbrev cX10_upkeep : ByteArray := prog_12_method_48_code
def yX10_upkeep : MethodName := ⟨RX10, "upkeep", "(II)I"⟩
abbrev cX10_mayHave : ByteArray := prog_12_method_49_code
def yX10_mayHave : MethodName := ⟨RX10, "mayHave", "(I)I"⟩
abbrev cX10_line : ByteArray := prog_12_method_50_code
def yX10_line : MethodName := ⟨RX10, "line", "(II)I"⟩
abbrev cX10_silence : ByteArray := prog_12_method_51_code
def yX10_silence : MethodName := ⟨RX10, "silence", "()I"⟩
abbrev cX10_waysBy : ByteArray := prog_12_method_52_code
def yX10_waysBy : MethodName := ⟨RX10, "waysBy", "(II)I"⟩
abbrev cX10_givings : ByteArray := prog_12_method_53_code
def yX10_givings : MethodName := ⟨RX10, "givings", "(I)I"⟩
abbrev cX10_ways : ByteArray := prog_12_method_54_code
def yX10_ways : MethodName := ⟨RX10, "ways", "(I)I"⟩
abbrev cX10_mayBe : ByteArray := prog_12_method_55_code
def yX10_mayBe : MethodName := ⟨RX10, "mayBe", "(II)I"⟩
abbrev cX10_breaks : ByteArray := prog_12_method_56_code
def yX10_breaks : MethodName := ⟨RX10, "breaks", "(I)I"⟩
abbrev cX10_twins : ByteArray := prog_12_method_57_code
def yX10_twins : MethodName := ⟨RX10, "twins", "(I)I"⟩
abbrev cX10_keep : ByteArray := prog_12_method_58_code
def yX10_keep : MethodName := ⟨RX10, "keep", "(I)I"⟩
abbrev cX10_again : ByteArray := prog_12_method_59_code
def yX10_again : MethodName := ⟨RX10, "again", "(I)I"⟩
abbrev cX10_count : ByteArray := prog_12_method_60_code
def yX10_count : MethodName := ⟨RX10, "count", "(I)I"⟩
def RJ6 : String := "java/lang/Integer"
def TJ6 : u_T := fun k => match k with
  | _ => ("", "", "", false)
def tyJ6 : Nat → FieldType := fun k => match k with
  | _ => .int
abbrev wsJ60 : List Cond := u_ws RJ6 TJ6 0
theorem nmJ6 : ∀ a, a < 0 → ∀ b, b < 0 → a ≠ b → (TJ6 a).2.1 ≠ (TJ6 b).2.1 := by decide +kernel
theorem tyJ6_ok : ∀ k, k < 0 → parseFieldDescriptor (TJ6 k).2.2.1 = some (tyJ6 k) := by decide +kernel
abbrev cJ6_bitCount_0f7a4 : ByteArray := prog_13_method_49_code
def yJ6_bitCount_0f7a4 : MethodName := ⟨RJ6, "bitCount", "(I)I"⟩
def RJ9 : String := "java/lang/Math"
def TJ9 : u_T := fun k => match k with
  | _ => ("", "", "", false)
def tyJ9 : Nat → FieldType := fun k => match k with
  | _ => .int
abbrev wsJ90 : List Cond := u_ws RJ9 TJ9 0
theorem nmJ9 : ∀ a, a < 0 → ∀ b, b < 0 → a ≠ b → (TJ9 a).2.1 ≠ (TJ9 b).2.1 := by decide +kernel
theorem tyJ9_ok : ∀ k, k < 0 → parseFieldDescriptor (TJ9 k).2.2.1 = some (tyJ9 k) := by decide +kernel
abbrev cJ9_max_7cf53 : ByteArray := prog_14_method_65_code
def yJ9_max_7cf53 : MethodName := ⟨RJ9, "max", "(II)I"⟩
abbrev cJ9_min_7cf53 : ByteArray := prog_14_method_69_code
def yJ9_min_7cf53 : MethodName := ⟨RJ9, "min", "(II)I"⟩
def RL : String := "OnlyNamedLaw"
abbrev cL_law : ByteArray := code
def yL_law : MethodName := ⟨RL, "law", "([I)Z"⟩
abbrev vwCl : List vw_C := [(RX0, TX0, 5), (RX1, TX1, 4), (RX2, TX2, 5), (RX4, TX4, 3), (RX5, TX5, 3), (RX6, TX6, 5), (RX7, TX7, 11), (RX8, TX8, 2), (RX9, TX9, 9), (RX10, TX10, 37)]
