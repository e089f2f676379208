section
-- ===== PART A: goes FIRST, ahead of the names: the tables' words, and 'selects' of the private methods out of them =====
/-- a private method of a class that the tables say can be made, by its rows of tables_1 -/
def lw_okq (q : MethodName × Nat) : Prop := (q.1.cls ≠ "java/lang/invoke/MethodHandle" ∧ q.1.cls ≠ "java/lang/invoke/VarHandle") ∧ Cond.instantiable q.1.cls q.2 ∈ tables_1 ∧ Cond.privateMethod q.1 ∈ tables_1 ∧ Cond.instanceMethod q.1 ∈ tables_1
theorem lw_p0 : lw_okq (⟨"OnlyNamed$Telling", "take", "(I)Z"⟩, 11) := ⟨⟨by decide +kernel, by decide +kernel⟩, List.mem_of_getElem? (i := 39) (by decide +kernel), List.mem_of_getElem? (i := 273) (by decide +kernel), List.mem_of_getElem? (i := 274) (by decide +kernel)⟩
theorem lw_p1 : lw_okq (⟨"OnlyNamed$Telling", "takeH", "(I)Z"⟩, 11) := ⟨⟨by decide +kernel, by decide +kernel⟩, List.mem_of_getElem? (i := 39) (by decide +kernel), List.mem_of_getElem? (i := 277) (by decide +kernel), List.mem_of_getElem? (i := 278) (by decide +kernel)⟩
theorem lw_p2 : lw_okq (⟨"OnlyNamed$Telling", "takeR", "(I)Z"⟩, 11) := ⟨⟨by decide +kernel, by decide +kernel⟩, List.mem_of_getElem? (i := 39) (by decide +kernel), List.mem_of_getElem? (i := 281) (by decide +kernel), List.mem_of_getElem? (i := 282) (by decide +kernel)⟩
theorem lw_p3 : lw_okq (⟨"OnlyNamed$Telling", "takeSound", "(I)Z"⟩, 11) := ⟨⟨by decide +kernel, by decide +kernel⟩, List.mem_of_getElem? (i := 39) (by decide +kernel), List.mem_of_getElem? (i := 285) (by decide +kernel), List.mem_of_getElem? (i := 286) (by decide +kernel)⟩
theorem lw_p4 : lw_okq (⟨"OnlyNamed$Telling", "endName", "()Z"⟩, 11) := ⟨⟨by decide +kernel, by decide +kernel⟩, List.mem_of_getElem? (i := 39) (by decide +kernel), List.mem_of_getElem? (i := 289) (by decide +kernel), List.mem_of_getElem? (i := 290) (by decide +kernel)⟩
theorem lw_p5 : lw_okq (⟨"OnlyNamed$Telling", "isTold", "(I)Z"⟩, 11) := ⟨⟨by decide +kernel, by decide +kernel⟩, List.mem_of_getElem? (i := 39) (by decide +kernel), List.mem_of_getElem? (i := 293) (by decide +kernel), List.mem_of_getElem? (i := 294) (by decide +kernel)⟩
theorem lw_p6 : lw_okq (⟨"OnlyNamed$Telling", "takePart", "(I)Z"⟩, 11) := ⟨⟨by decide +kernel, by decide +kernel⟩, List.mem_of_getElem? (i := 39) (by decide +kernel), List.mem_of_getElem? (i := 297) (by decide +kernel), List.mem_of_getElem? (i := 298) (by decide +kernel)⟩
theorem lw_p7 : lw_okq (⟨"OnlyNamed$Telling", "takeBear", "(I)Z"⟩, 11) := ⟨⟨by decide +kernel, by decide +kernel⟩, List.mem_of_getElem? (i := 39) (by decide +kernel), List.mem_of_getElem? (i := 304) (by decide +kernel), List.mem_of_getElem? (i := 305) (by decide +kernel)⟩
theorem lw_p8 : lw_okq (⟨"OnlyNamed$Telling", "takeKnower", "(I)Z"⟩, 11) := ⟨⟨by decide +kernel, by decide +kernel⟩, List.mem_of_getElem? (i := 39) (by decide +kernel), List.mem_of_getElem? (i := 308) (by decide +kernel), List.mem_of_getElem? (i := 309) (by decide +kernel)⟩
theorem lw_p9 : lw_okq (⟨"OnlyNamed$Telling", "canLearn", "(I)Z"⟩, 11) := ⟨⟨by decide +kernel, by decide +kernel⟩, List.mem_of_getElem? (i := 39) (by decide +kernel), List.mem_of_getElem? (i := 312) (by decide +kernel), List.mem_of_getElem? (i := 313) (by decide +kernel)⟩
theorem lw_p10 : lw_okq (⟨"OnlyNamed$Telling", "takeKnown", "(I)Z"⟩, 11) := ⟨⟨by decide +kernel, by decide +kernel⟩, List.mem_of_getElem? (i := 39) (by decide +kernel), List.mem_of_getElem? (i := 319) (by decide +kernel), List.mem_of_getElem? (i := 320) (by decide +kernel)⟩
theorem lw_p11 : lw_okq (⟨"OnlyNamed", "slotAt", "(I)LOnlyNamed$Memory;"⟩, 9) := ⟨⟨by decide +kernel, by decide +kernel⟩, List.mem_of_getElem? (i := 15) (by decide +kernel), List.mem_of_getElem? (i := 335) (by decide +kernel), List.mem_of_getElem? (i := 336) (by decide +kernel)⟩
theorem lw_p12 : lw_okq (⟨"OnlyNamed", "nearTo", "(II)I"⟩, 9) := ⟨⟨by decide +kernel, by decide +kernel⟩, List.mem_of_getElem? (i := 15) (by decide +kernel), List.mem_of_getElem? (i := 386) (by decide +kernel), List.mem_of_getElem? (i := 387) (by decide +kernel)⟩
theorem lw_p13 : lw_okq (⟨"OnlyNamed", "freshName", "()I"⟩, 9) := ⟨⟨by decide +kernel, by decide +kernel⟩, List.mem_of_getElem? (i := 15) (by decide +kernel), List.mem_of_getElem? (i := 433) (by decide +kernel), List.mem_of_getElem? (i := 434) (by decide +kernel)⟩
theorem lw_p14 : lw_okq (⟨"OnlyNamed$Search", "rulerAt", "(I)LOnlyNamed$Ruler;"⟩, 3) := ⟨⟨by decide +kernel, by decide +kernel⟩, List.mem_of_getElem? (i := 154) (by decide +kernel), List.mem_of_getElem? (i := 445) (by decide +kernel), List.mem_of_getElem? (i := 446) (by decide +kernel)⟩
theorem lw_p15 : lw_okq (⟨"OnlyNamed$Search", "find", "(II)Z"⟩, 3) := ⟨⟨by decide +kernel, by decide +kernel⟩, List.mem_of_getElem? (i := 154) (by decide +kernel), List.mem_of_getElem? (i := 454) (by decide +kernel), List.mem_of_getElem? (i := 455) (by decide +kernel)⟩
def lw_privs_1 : List (MethodName × Nat) := [(⟨"OnlyNamed$Telling", "take", "(I)Z"⟩, 11), (⟨"OnlyNamed$Telling", "takeH", "(I)Z"⟩, 11), (⟨"OnlyNamed$Telling", "takeR", "(I)Z"⟩, 11), (⟨"OnlyNamed$Telling", "takeSound", "(I)Z"⟩, 11), (⟨"OnlyNamed$Telling", "endName", "()Z"⟩, 11), (⟨"OnlyNamed$Telling", "isTold", "(I)Z"⟩, 11), (⟨"OnlyNamed$Telling", "takePart", "(I)Z"⟩, 11), (⟨"OnlyNamed$Telling", "takeBear", "(I)Z"⟩, 11), (⟨"OnlyNamed$Telling", "takeKnower", "(I)Z"⟩, 11), (⟨"OnlyNamed$Telling", "canLearn", "(I)Z"⟩, 11), (⟨"OnlyNamed$Telling", "takeKnown", "(I)Z"⟩, 11), (⟨"OnlyNamed", "slotAt", "(I)LOnlyNamed$Memory;"⟩, 9), (⟨"OnlyNamed", "nearTo", "(II)I"⟩, 9), (⟨"OnlyNamed", "freshName", "()I"⟩, 9), (⟨"OnlyNamed$Search", "rulerAt", "(I)LOnlyNamed$Ruler;"⟩, 3), (⟨"OnlyNamed$Search", "find", "(II)Z"⟩, 3)]
theorem lw_r1 : ∀ q ∈ lw_privs_1, lw_okq q := List.forall_mem_cons.mpr ⟨lw_p0, List.forall_mem_cons.mpr ⟨lw_p1, List.forall_mem_cons.mpr ⟨lw_p2, List.forall_mem_cons.mpr ⟨lw_p3, List.forall_mem_cons.mpr ⟨lw_p4, List.forall_mem_cons.mpr ⟨lw_p5, List.forall_mem_cons.mpr ⟨lw_p6, List.forall_mem_cons.mpr ⟨lw_p7, List.forall_mem_cons.mpr ⟨lw_p8, List.forall_mem_cons.mpr ⟨lw_p9, List.forall_mem_cons.mpr ⟨lw_p10, List.forall_mem_cons.mpr ⟨lw_p11, List.forall_mem_cons.mpr ⟨lw_p12, List.forall_mem_cons.mpr ⟨lw_p13, List.forall_mem_cons.mpr ⟨lw_p14, List.forall_mem_cons.mpr ⟨lw_p15, fun _ h => absurd h List.not_mem_nil⟩⟩⟩⟩⟩⟩⟩⟩⟩⟩⟩⟩⟩⟩⟩⟩
theorem lw_p16 : lw_okq (⟨"OnlyNamed$Search", "isHopeless", "(II)Z"⟩, 3) := ⟨⟨by decide +kernel, by decide +kernel⟩, List.mem_of_getElem? (i := 154) (by decide +kernel), List.mem_of_getElem? (i := 458) (by decide +kernel), List.mem_of_getElem? (i := 459) (by decide +kernel)⟩
theorem lw_p17 : lw_okq (⟨"OnlyNamed$Search", "isTooNear", "(IIII)Z"⟩, 3) := ⟨⟨by decide +kernel, by decide +kernel⟩, List.mem_of_getElem? (i := 154) (by decide +kernel), List.mem_of_getElem? (i := 470) (by decide +kernel), List.mem_of_getElem? (i := 471) (by decide +kernel)⟩
theorem lw_p18 : lw_okq (⟨"OnlyNamed$Search", "found", "(I)I"⟩, 3) := ⟨⟨by decide +kernel, by decide +kernel⟩, List.mem_of_getElem? (i := 154) (by decide +kernel), List.mem_of_getElem? (i := 475) (by decide +kernel), List.mem_of_getElem? (i := 476) (by decide +kernel)⟩
theorem lw_p19 : lw_okq (⟨"OnlyNamed", "clearOnes", "()I"⟩, 9) := ⟨⟨by decide +kernel, by decide +kernel⟩, List.mem_of_getElem? (i := 15) (by decide +kernel), List.mem_of_getElem? (i := 489) (by decide +kernel), List.mem_of_getElem? (i := 490) (by decide +kernel)⟩
theorem lw_p20 : lw_okq (⟨"OnlyNamed", "liftedBy", "(II)I"⟩, 9) := ⟨⟨by decide +kernel, by decide +kernel⟩, List.mem_of_getElem? (i := 15) (by decide +kernel), List.mem_of_getElem? (i := 493) (by decide +kernel), List.mem_of_getElem? (i := 494) (by decide +kernel)⟩
theorem lw_p21 : lw_okq (⟨"OnlyNamed", "gatherCarriers", "()V"⟩, 9) := ⟨⟨by decide +kernel, by decide +kernel⟩, List.mem_of_getElem? (i := 15) (by decide +kernel), List.mem_of_getElem? (i := 509) (by decide +kernel), List.mem_of_getElem? (i := 510) (by decide +kernel)⟩
theorem lw_p22 : lw_okq (⟨"OnlyNamed$Carriers", "packSet", "(I)V"⟩, 5) := ⟨⟨by decide +kernel, by decide +kernel⟩, List.mem_of_getElem? (i := 173) (by decide +kernel), List.mem_of_getElem? (i := 517) (by decide +kernel), List.mem_of_getElem? (i := 518) (by decide +kernel)⟩
theorem lw_p23 : lw_okq (⟨"OnlyNamed$Carriers", "putLast", "(II)V"⟩, 5) := ⟨⟨by decide +kernel, by decide +kernel⟩, List.mem_of_getElem? (i := 173) (by decide +kernel), List.mem_of_getElem? (i := 522) (by decide +kernel), List.mem_of_getElem? (i := 523) (by decide +kernel)⟩
theorem lw_p24 : lw_okq (⟨"OnlyNamed$Carriers", "canTake", "(III)Z"⟩, 5) := ⟨⟨by decide +kernel, by decide +kernel⟩, List.mem_of_getElem? (i := 173) (by decide +kernel), List.mem_of_getElem? (i := 526) (by decide +kernel), List.mem_of_getElem? (i := 527) (by decide +kernel)⟩
theorem lw_p25 : lw_okq (⟨"OnlyNamed$Carriers", "holdBetter", "(III)V"⟩, 5) := ⟨⟨by decide +kernel, by decide +kernel⟩, List.mem_of_getElem? (i := 173) (by decide +kernel), List.mem_of_getElem? (i := 530) (by decide +kernel), List.mem_of_getElem? (i := 531) (by decide +kernel)⟩
theorem lw_p26 : lw_okq (⟨"OnlyNamed$Carriers", "leastLoad", "(II)I"⟩, 5) := ⟨⟨by decide +kernel, by decide +kernel⟩, List.mem_of_getElem? (i := 173) (by decide +kernel), List.mem_of_getElem? (i := 542) (by decide +kernel), List.mem_of_getElem? (i := 543) (by decide +kernel)⟩
theorem lw_p27 : lw_okq (⟨"OnlyNamed$Carriers", "bearsLoad", "(II)Z"⟩, 5) := ⟨⟨by decide +kernel, by decide +kernel⟩, List.mem_of_getElem? (i := 173) (by decide +kernel), List.mem_of_getElem? (i := 546) (by decide +kernel), List.mem_of_getElem? (i := 547) (by decide +kernel)⟩
theorem lw_p28 : lw_okq (⟨"OnlyNamed$Songs", "hear", "(II)V"⟩, 5) := ⟨⟨by decide +kernel, by decide +kernel⟩, List.mem_of_getElem? (i := 198) (by decide +kernel), List.mem_of_getElem? (i := 597) (by decide +kernel), List.mem_of_getElem? (i := 598) (by decide +kernel)⟩
theorem lw_p29 : lw_okq (⟨"OnlyNamed$Songs", "fit", "(I)I"⟩, 5) := ⟨⟨by decide +kernel, by decide +kernel⟩, List.mem_of_getElem? (i := 198) (by decide +kernel), List.mem_of_getElem? (i := 601) (by decide +kernel), List.mem_of_getElem? (i := 602) (by decide +kernel)⟩
theorem lw_p30 : lw_okq (⟨"OnlyNamed$Songs", "giveNext", "(II)V"⟩, 5) := ⟨⟨by decide +kernel, by decide +kernel⟩, List.mem_of_getElem? (i := 198) (by decide +kernel), List.mem_of_getElem? (i := 605) (by decide +kernel), List.mem_of_getElem? (i := 606) (by decide +kernel)⟩
theorem lw_p31 : lw_okq (⟨"OnlyNamed", "liveNamed", "(I)I"⟩, 9) := ⟨⟨by decide +kernel, by decide +kernel⟩, List.mem_of_getElem? (i := 15) (by decide +kernel), List.mem_of_getElem? (i := 643) (by decide +kernel), List.mem_of_getElem? (i := 644) (by decide +kernel)⟩
def lw_privs_2 : List (MethodName × Nat) := [(⟨"OnlyNamed$Search", "isHopeless", "(II)Z"⟩, 3), (⟨"OnlyNamed$Search", "isTooNear", "(IIII)Z"⟩, 3), (⟨"OnlyNamed$Search", "found", "(I)I"⟩, 3), (⟨"OnlyNamed", "clearOnes", "()I"⟩, 9), (⟨"OnlyNamed", "liftedBy", "(II)I"⟩, 9), (⟨"OnlyNamed", "gatherCarriers", "()V"⟩, 9), (⟨"OnlyNamed$Carriers", "packSet", "(I)V"⟩, 5), (⟨"OnlyNamed$Carriers", "putLast", "(II)V"⟩, 5), (⟨"OnlyNamed$Carriers", "canTake", "(III)Z"⟩, 5), (⟨"OnlyNamed$Carriers", "holdBetter", "(III)V"⟩, 5), (⟨"OnlyNamed$Carriers", "leastLoad", "(II)I"⟩, 5), (⟨"OnlyNamed$Carriers", "bearsLoad", "(II)Z"⟩, 5), (⟨"OnlyNamed$Songs", "hear", "(II)V"⟩, 5), (⟨"OnlyNamed$Songs", "fit", "(I)I"⟩, 5), (⟨"OnlyNamed$Songs", "giveNext", "(II)V"⟩, 5), (⟨"OnlyNamed", "liveNamed", "(I)I"⟩, 9)]
theorem lw_r2 : ∀ q ∈ lw_privs_2, lw_okq q := List.forall_mem_cons.mpr ⟨lw_p16, List.forall_mem_cons.mpr ⟨lw_p17, List.forall_mem_cons.mpr ⟨lw_p18, List.forall_mem_cons.mpr ⟨lw_p19, List.forall_mem_cons.mpr ⟨lw_p20, List.forall_mem_cons.mpr ⟨lw_p21, List.forall_mem_cons.mpr ⟨lw_p22, List.forall_mem_cons.mpr ⟨lw_p23, List.forall_mem_cons.mpr ⟨lw_p24, List.forall_mem_cons.mpr ⟨lw_p25, List.forall_mem_cons.mpr ⟨lw_p26, List.forall_mem_cons.mpr ⟨lw_p27, List.forall_mem_cons.mpr ⟨lw_p28, List.forall_mem_cons.mpr ⟨lw_p29, List.forall_mem_cons.mpr ⟨lw_p30, List.forall_mem_cons.mpr ⟨lw_p31, fun _ h => absurd h List.not_mem_nil⟩⟩⟩⟩⟩⟩⟩⟩⟩⟩⟩⟩⟩⟩⟩⟩
theorem lw_p32 : lw_okq (⟨"OnlyNamed", "soundsOfAll", "()I"⟩, 9) := ⟨⟨by decide +kernel, by decide +kernel⟩, List.mem_of_getElem? (i := 15) (by decide +kernel), List.mem_of_getElem? (i := 664) (by decide +kernel), List.mem_of_getElem? (i := 665) (by decide +kernel)⟩
theorem lw_p33 : lw_okq (⟨"OnlyNamedModel", "readText", "()I"⟩, 37) := ⟨⟨by decide +kernel, by decide +kernel⟩, List.mem_of_getElem? (i := 668) (by decide +kernel), List.mem_of_getElem? (i := 804) (by decide +kernel), List.mem_of_getElem? (i := 805) (by decide +kernel)⟩
theorem lw_p34 : lw_okq (⟨"OnlyNamedModel", "here", "()I"⟩, 37) := ⟨⟨by decide +kernel, by decide +kernel⟩, List.mem_of_getElem? (i := 668) (by decide +kernel), List.mem_of_getElem? (i := 808) (by decide +kernel), List.mem_of_getElem? (i := 809) (by decide +kernel)⟩
theorem lw_p35 : lw_okq (⟨"OnlyNamedModel", "figure", "(I)I"⟩, 37) := ⟨⟨by decide +kernel, by decide +kernel⟩, List.mem_of_getElem? (i := 668) (by decide +kernel), List.mem_of_getElem? (i := 812) (by decide +kernel), List.mem_of_getElem? (i := 813) (by decide +kernel)⟩
theorem lw_p36 : lw_okq (⟨"OnlyNamedModel", "fail", "()V"⟩, 37) := ⟨⟨by decide +kernel, by decide +kernel⟩, List.mem_of_getElem? (i := 668) (by decide +kernel), List.mem_of_getElem? (i := 817) (by decide +kernel), List.mem_of_getElem? (i := 818) (by decide +kernel)⟩
theorem lw_p37 : lw_okq (⟨"OnlyNamedModel", "readName", "()V"⟩, 37) := ⟨⟨by decide +kernel, by decide +kernel⟩, List.mem_of_getElem? (i := 668) (by decide +kernel), List.mem_of_getElem? (i := 821) (by decide +kernel), List.mem_of_getElem? (i := 822) (by decide +kernel)⟩
theorem lw_p38 : lw_okq (⟨"OnlyNamedModel", "isTold", "()Z"⟩, 37) := ⟨⟨by decide +kernel, by decide +kernel⟩, List.mem_of_getElem? (i := 668) (by decide +kernel), List.mem_of_getElem? (i := 827) (by decide +kernel), List.mem_of_getElem? (i := 828) (by decide +kernel)⟩
theorem lw_p39 : lw_okq (⟨"OnlyNamedModel", "open", "()I"⟩, 37) := ⟨⟨by decide +kernel, by decide +kernel⟩, List.mem_of_getElem? (i := 668) (by decide +kernel), List.mem_of_getElem? (i := 831) (by decide +kernel), List.mem_of_getElem? (i := 832) (by decide +kernel)⟩
theorem lw_p40 : lw_okq (⟨"OnlyNamedModel", "unknown", "(I)I"⟩, 37) := ⟨⟨by decide +kernel, by decide +kernel⟩, List.mem_of_getElem? (i := 668) (by decide +kernel), List.mem_of_getElem? (i := 835) (by decide +kernel), List.mem_of_getElem? (i := 836) (by decide +kernel)⟩
theorem lw_p41 : lw_okq (⟨"OnlyNamedModel", "isThing", "(I)Z"⟩, 37) := ⟨⟨by decide +kernel, by decide +kernel⟩, List.mem_of_getElem? (i := 668) (by decide +kernel), List.mem_of_getElem? (i := 847) (by decide +kernel), List.mem_of_getElem? (i := 848) (by decide +kernel)⟩
theorem lw_p42 : lw_okq (⟨"OnlyNamedModel", "offOf", "(II)I"⟩, 37) := ⟨⟨by decide +kernel, by decide +kernel⟩, List.mem_of_getElem? (i := 668) (by decide +kernel), List.mem_of_getElem? (i := 855) (by decide +kernel), List.mem_of_getElem? (i := 856) (by decide +kernel)⟩
theorem lw_p43 : lw_okq (⟨"OnlyNamedModel", "offTried", "(I)I"⟩, 37) := ⟨⟨by decide +kernel, by decide +kernel⟩, List.mem_of_getElem? (i := 668) (by decide +kernel), List.mem_of_getElem? (i := 859) (by decide +kernel), List.mem_of_getElem? (i := 860) (by decide +kernel)⟩
theorem lw_p44 : lw_okq (⟨"OnlyNamedModel", "isLive", "(I)Z"⟩, 37) := ⟨⟨by decide +kernel, by decide +kernel⟩, List.mem_of_getElem? (i := 668) (by decide +kernel), List.mem_of_getElem? (i := 870) (by decide +kernel), List.mem_of_getElem? (i := 871) (by decide +kernel)⟩
theorem lw_p45 : lw_okq (⟨"OnlyNamedModel", "nearTo", "(I)I"⟩, 37) := ⟨⟨by decide +kernel, by decide +kernel⟩, List.mem_of_getElem? (i := 668) (by decide +kernel), List.mem_of_getElem? (i := 874) (by decide +kernel), List.mem_of_getElem? (i := 875) (by decide +kernel)⟩
theorem lw_p46 : lw_okq (⟨"OnlyNamedModel", "liveSet", "()I"⟩, 37) := ⟨⟨by decide +kernel, by decide +kernel⟩, List.mem_of_getElem? (i := 668) (by decide +kernel), List.mem_of_getElem? (i := 886) (by decide +kernel), List.mem_of_getElem? (i := 887) (by decide +kernel)⟩
theorem lw_p47 : lw_okq (⟨"OnlyNamedModel", "isPerson", "(I)Z"⟩, 37) := ⟨⟨by decide +kernel, by decide +kernel⟩, List.mem_of_getElem? (i := 668) (by decide +kernel), List.mem_of_getElem? (i := 903) (by decide +kernel), List.mem_of_getElem? (i := 904) (by decide +kernel)⟩
def lw_privs_3 : List (MethodName × Nat) := [(⟨"OnlyNamed", "soundsOfAll", "()I"⟩, 9), (⟨"OnlyNamedModel", "readText", "()I"⟩, 37), (⟨"OnlyNamedModel", "here", "()I"⟩, 37), (⟨"OnlyNamedModel", "figure", "(I)I"⟩, 37), (⟨"OnlyNamedModel", "fail", "()V"⟩, 37), (⟨"OnlyNamedModel", "readName", "()V"⟩, 37), (⟨"OnlyNamedModel", "isTold", "()Z"⟩, 37), (⟨"OnlyNamedModel", "open", "()I"⟩, 37), (⟨"OnlyNamedModel", "unknown", "(I)I"⟩, 37), (⟨"OnlyNamedModel", "isThing", "(I)Z"⟩, 37), (⟨"OnlyNamedModel", "offOf", "(II)I"⟩, 37), (⟨"OnlyNamedModel", "offTried", "(I)I"⟩, 37), (⟨"OnlyNamedModel", "isLive", "(I)Z"⟩, 37), (⟨"OnlyNamedModel", "nearTo", "(I)I"⟩, 37), (⟨"OnlyNamedModel", "liveSet", "()I"⟩, 37), (⟨"OnlyNamedModel", "isPerson", "(I)Z"⟩, 37)]
theorem lw_r3 : ∀ q ∈ lw_privs_3, lw_okq q := List.forall_mem_cons.mpr ⟨lw_p32, List.forall_mem_cons.mpr ⟨lw_p33, List.forall_mem_cons.mpr ⟨lw_p34, List.forall_mem_cons.mpr ⟨lw_p35, List.forall_mem_cons.mpr ⟨lw_p36, List.forall_mem_cons.mpr ⟨lw_p37, List.forall_mem_cons.mpr ⟨lw_p38, List.forall_mem_cons.mpr ⟨lw_p39, List.forall_mem_cons.mpr ⟨lw_p40, List.forall_mem_cons.mpr ⟨lw_p41, List.forall_mem_cons.mpr ⟨lw_p42, List.forall_mem_cons.mpr ⟨lw_p43, List.forall_mem_cons.mpr ⟨lw_p44, List.forall_mem_cons.mpr ⟨lw_p45, List.forall_mem_cons.mpr ⟨lw_p46, List.forall_mem_cons.mpr ⟨lw_p47, fun _ h => absurd h List.not_mem_nil⟩⟩⟩⟩⟩⟩⟩⟩⟩⟩⟩⟩⟩⟩⟩⟩
theorem lw_p48 : lw_okq (⟨"OnlyNamedModel", "isKnown", "(II)Z"⟩, 37) := ⟨⟨by decide +kernel, by decide +kernel⟩, List.mem_of_getElem? (i := 668) (by decide +kernel), List.mem_of_getElem? (i := 907) (by decide +kernel), List.mem_of_getElem? (i := 908) (by decide +kernel)⟩
theorem lw_p49 : lw_okq (⟨"OnlyNamedModel", "layFresh", "()Z"⟩, 37) := ⟨⟨by decide +kernel, by decide +kernel⟩, List.mem_of_getElem? (i := 668) (by decide +kernel), List.mem_of_getElem? (i := 919) (by decide +kernel), List.mem_of_getElem? (i := 920) (by decide +kernel)⟩
theorem lw_p50 : lw_okq (⟨"OnlyNamedModel", "liftsOf", "(I)I"⟩, 37) := ⟨⟨by decide +kernel, by decide +kernel⟩, List.mem_of_getElem? (i := 668) (by decide +kernel), List.mem_of_getElem? (i := 931) (by decide +kernel), List.mem_of_getElem? (i := 932) (by decide +kernel)⟩
theorem lw_p51 : lw_okq (⟨"OnlyNamedModel", "isThings", "(I)Z"⟩, 37) := ⟨⟨by decide +kernel, by decide +kernel⟩, List.mem_of_getElem? (i := 668) (by decide +kernel), List.mem_of_getElem? (i := 939) (by decide +kernel), List.mem_of_getElem? (i := 940) (by decide +kernel)⟩
theorem lw_p52 : lw_okq (⟨"OnlyNamedModel", "breaksAt", "(III)I"⟩, 37) := ⟨⟨by decide +kernel, by decide +kernel⟩, List.mem_of_getElem? (i := 668) (by decide +kernel), List.mem_of_getElem? (i := 943) (by decide +kernel), List.mem_of_getElem? (i := 944) (by decide +kernel)⟩
theorem lw_p53 : lw_okq (⟨"OnlyNamedModel", "layCan", "(I)V"⟩, 37) := ⟨⟨by decide +kernel, by decide +kernel⟩, List.mem_of_getElem? (i := 668) (by decide +kernel), List.mem_of_getElem? (i := 951) (by decide +kernel), List.mem_of_getElem? (i := 952) (by decide +kernel)⟩
theorem lw_p54 : lw_okq (⟨"OnlyNamedModel", "leastLoad", "(II)I"⟩, 37) := ⟨⟨by decide +kernel, by decide +kernel⟩, List.mem_of_getElem? (i := 668) (by decide +kernel), List.mem_of_getElem? (i := 955) (by decide +kernel), List.mem_of_getElem? (i := 956) (by decide +kernel)⟩
theorem lw_p55 : lw_okq (⟨"OnlyNamedModel", "timesOf", "(I)I"⟩, 37) := ⟨⟨by decide +kernel, by decide +kernel⟩, List.mem_of_getElem? (i := 668) (by decide +kernel), List.mem_of_getElem? (i := 963) (by decide +kernel), List.mem_of_getElem? (i := 964) (by decide +kernel)⟩
theorem lw_p56 : lw_okq (⟨"OnlyNamedModel", "waysBy", "(II)I"⟩, 37) := ⟨⟨by decide +kernel, by decide +kernel⟩, List.mem_of_getElem? (i := 668) (by decide +kernel), List.mem_of_getElem? (i := 992) (by decide +kernel), List.mem_of_getElem? (i := 993) (by decide +kernel)⟩
theorem lw_p57 : lw_okq (⟨"OnlyNamedModel", "givings", "(I)I"⟩, 37) := ⟨⟨by decide +kernel, by decide +kernel⟩, List.mem_of_getElem? (i := 668) (by decide +kernel), List.mem_of_getElem? (i := 996) (by decide +kernel), List.mem_of_getElem? (i := 997) (by decide +kernel)⟩
def lw_privs_4 : List (MethodName × Nat) := [(⟨"OnlyNamedModel", "isKnown", "(II)Z"⟩, 37), (⟨"OnlyNamedModel", "layFresh", "()Z"⟩, 37), (⟨"OnlyNamedModel", "liftsOf", "(I)I"⟩, 37), (⟨"OnlyNamedModel", "isThings", "(I)Z"⟩, 37), (⟨"OnlyNamedModel", "breaksAt", "(III)I"⟩, 37), (⟨"OnlyNamedModel", "layCan", "(I)V"⟩, 37), (⟨"OnlyNamedModel", "leastLoad", "(II)I"⟩, 37), (⟨"OnlyNamedModel", "timesOf", "(I)I"⟩, 37), (⟨"OnlyNamedModel", "waysBy", "(II)I"⟩, 37), (⟨"OnlyNamedModel", "givings", "(I)I"⟩, 37)]
theorem lw_r4 : ∀ q ∈ lw_privs_4, lw_okq q := List.forall_mem_cons.mpr ⟨lw_p48, List.forall_mem_cons.mpr ⟨lw_p49, List.forall_mem_cons.mpr ⟨lw_p50, List.forall_mem_cons.mpr ⟨lw_p51, List.forall_mem_cons.mpr ⟨lw_p52, List.forall_mem_cons.mpr ⟨lw_p53, List.forall_mem_cons.mpr ⟨lw_p54, List.forall_mem_cons.mpr ⟨lw_p55, List.forall_mem_cons.mpr ⟨lw_p56, List.forall_mem_cons.mpr ⟨lw_p57, fun _ h => absurd h List.not_mem_nil⟩⟩⟩⟩⟩⟩⟩⟩⟩⟩
def lw_privs : List (MethodName × Nat) := lw_privs_1 ++ (lw_privs_2 ++ (lw_privs_3 ++ (lw_privs_4)))
def lw_tbl : List Cond := k2_sels lw_privs ++ tables_1
theorem lw_privs_ok : ∀ q ∈ lw_privs, lw_okq q := by
  show ∀ q ∈ lw_privs_1 ++ (lw_privs_2 ++ (lw_privs_3 ++ (lw_privs_4))), lw_okq q
  exact List.forall_mem_append.mpr ⟨lw_r1, List.forall_mem_append.mpr ⟨lw_r2, List.forall_mem_append.mpr ⟨lw_r3, lw_r4⟩⟩⟩
def RX0 : String := "OnlyNamed$Carriers"
def TX0 : u_T := fun k => match k with
  | 0 => ("OnlyNamed$Carriers", "lifted", "[I", true)
  | 1 => ("OnlyNamed$Carriers", "bears", "[I", true)
  | 2 => ("OnlyNamed$Carriers", "weights", "[I", true)
  | 3 => ("OnlyNamed$Carriers", "loads", "[I", true)
  | _ => ("OnlyNamed$Carriers", "lastWeight", "[I", true)
def tyX0 : Nat → FieldType := fun k => match k with
  | 0 => .array .int
  | 1 => .array .int
  | 2 => .array .int
  | 3 => .array .int
  | _ => .array .int
abbrev wsX00 : List Cond := u_ws RX0 TX0 5
theorem nmX0 : ∀ a, a < 5 → ∀ b, b < 5 → a ≠ b → (TX0 a).2.1 ≠ (TX0 b).2.1 := by decide +kernel
theorem tyX0_ok : ∀ k, k < 5 → parseFieldDescriptor (TX0 k).2.2.1 = some (tyX0 k) := by decide +kernel
abbrev cX0_init : ByteArray := prog_2_method_1_code
def yX0_init : MethodName := ⟨RX0, "<init>", "()V"⟩
abbrev cX0_allLifted : ByteArray := prog_2_method_2_code
def yX0_allLifted : MethodName := ⟨RX0, "allLifted", "()I"⟩
abbrev cX0_pack : ByteArray := prog_2_method_3_code
def yX0_pack : MethodName := ⟨RX0, "pack", "(I)V"⟩
abbrev cX0_packSet : ByteArray := prog_2_method_4_code
def yX0_packSet : MethodName := ⟨RX0, "packSet", "(I)V"⟩
abbrev cX0_putLast : ByteArray := prog_2_method_5_code
def yX0_putLast : MethodName := ⟨RX0, "putLast", "(II)V"⟩
abbrev cX0_holdBetter : ByteArray := prog_2_method_6_code
def yX0_holdBetter : MethodName := ⟨RX0, "holdBetter", "(III)V"⟩
abbrev cX0_canTake : ByteArray := prog_2_method_7_code
def yX0_canTake : MethodName := ⟨RX0, "canTake", "(III)Z"⟩
abbrev cX0_timesFor : ByteArray := prog_2_method_8_code
def yX0_timesFor : MethodName := ⟨RX0, "timesFor", "(I)I"⟩
abbrev cX0_firstWay : ByteArray := prog_2_method_9_code
def yX0_firstWay : MethodName := ⟨RX0, "firstWay", "(II)I"⟩
abbrev cX0_leastLoad : ByteArray := prog_2_method_10_code
def yX0_leastLoad : MethodName := ⟨RX0, "leastLoad", "(II)I"⟩
abbrev cX0_bearsLoad : ByteArray := prog_2_method_11_code
def yX0_bearsLoad : MethodName := ⟨RX0, "bearsLoad", "(II)Z"⟩
def RX1 : String := "OnlyNamed$House"
def TX1 : u_T := fun k => match k with
  | 0 => ("OnlyNamed$House", "bears", "[I", true)
  | 1 => ("OnlyNamed$House", "\x72", "I", false)
  | 2 => ("OnlyNamed$House", "things", "I", false)
  | _ => ("OnlyNamed$House", "people", "I", false)
def tyX1 : Nat → FieldType := fun k => match k with
  | 0 => .array .int
  | 1 => .int
  | 2 => .int
  | _ => .int
abbrev wsX10 : List Cond := u_ws RX1 TX1 4
theorem nmX1 : ∀ a, a < 4 → ∀ b, b < 4 → a ≠ b → (TX1 a).2.1 ≠ (TX1 b).2.1 := by decide +kernel
theorem tyX1_ok : ∀ k, k < 4 → parseFieldDescriptor (TX1 k).2.2.1 = some (tyX1 k) := by decide +kernel
abbrev cX1_init : ByteArray := prog_3_method_1_code
def yX1_init : MethodName := ⟨RX1, "<init>", "()V"⟩
abbrev cX1_settle : ByteArray := prog_3_method_2_code
def yX1_settle : MethodName := ⟨RX1, "settle", "(LOnlyNamed$Telling;)V"⟩
abbrev cX1_hasThing : ByteArray := prog_3_method_3_code
def yX1_hasThing : MethodName := ⟨RX1, "hasThing", "(I)Z"⟩
abbrev cX1_hasPerson : ByteArray := prog_3_method_4_code
def yX1_hasPerson : MethodName := ⟨RX1, "hasPerson", "(I)Z"⟩
abbrev cX1_areThings : ByteArray := prog_3_method_5_code
def yX1_areThings : MethodName := ⟨RX1, "areThings", "(I)Z"⟩
abbrev cX1_arePeople : ByteArray := prog_3_method_6_code
def yX1_arePeople : MethodName := ⟨RX1, "arePeople", "(I)Z"⟩
def RX2 : String := "OnlyNamed$Memory"
def TX2 : u_T := fun k => match k with
  | 0 => ("OnlyNamed$Memory", "names", "[I", true)
  | 1 => ("OnlyNamed$Memory", "said", "[I", true)
  | 2 => ("OnlyNamed$Memory", "knowers", "[I", true)
  | 3 => ("OnlyNamed$Memory", "day", "I", false)
  | _ => ("OnlyNamed$Memory", "filled", "Z", false)
def tyX2 : Nat → FieldType := fun k => match k with
  | 0 => .array .int
  | 1 => .array .int
  | 2 => .array .int
  | 3 => .int
  | _ => .boolean
abbrev wsX20 : List Cond := u_ws RX2 TX2 5
theorem nmX2 : ∀ a, a < 5 → ∀ b, b < 5 → a ≠ b → (TX2 a).2.1 ≠ (TX2 b).2.1 := by decide +kernel
theorem tyX2_ok : ∀ k, k < 5 → parseFieldDescriptor (TX2 k).2.2.1 = some (tyX2 k) := by decide +kernel
abbrev cX2_init : ByteArray := prog_4_method_1_code
def yX2_init : MethodName := ⟨RX2, "<init>", "()V"⟩
abbrev cX2_begin : ByteArray := prog_4_method_2_code
def yX2_begin : MethodName := ⟨RX2, "begin", "(LOnlyNamed$Telling;)V"⟩
abbrev cX2_copy : ByteArray := prog_4_method_3_code
def yX2_copy : MethodName := ⟨RX2, "copy", "(LOnlyNamed$Memory;)V"⟩
abbrev cX2_isLive : ByteArray := prog_4_method_4_code
def yX2_isLive : MethodName := ⟨RX2, "isLive", "(I)Z"⟩
abbrev cX2_liveOnes : ByteArray := prog_4_method_5_code
def yX2_liveOnes : MethodName := ⟨RX2, "liveOnes", "()I"⟩
abbrev cX2_pass : ByteArray := prog_4_method_6_code
def yX2_pass : MethodName := ⟨RX2, "pass", "(I)I"⟩
abbrev cX2_sayingsFor : ByteArray := prog_4_method_7_code
def yX2_sayingsFor : MethodName := ⟨RX2, "sayingsFor", "(II)I"⟩
def RX3 : String := "OnlyNamed$Name"
def TX3 : u_T := fun k => match k with
  | _ => ("", "", "", false)
def tyX3 : Nat → FieldType := fun k => match k with
  | _ => .int
abbrev wsX30 : List Cond := u_ws RX3 TX3 0
theorem nmX3 : ∀ a, a < 0 → ∀ b, b < 0 → a ≠ b → (TX3 a).2.1 ≠ (TX3 b).2.1 := by decide +kernel
theorem tyX3_ok : ∀ k, k < 0 → parseFieldDescriptor (TX3 k).2.2.1 = some (tyX3 k) := by decide +kernel
abbrev cX3_soundAt : ByteArray := prog_5_method_2_code
def yX3_soundAt : MethodName := ⟨RX3, "soundAt", "(II)I"⟩
abbrev cX3_withSound : ByteArray := prog_5_method_3_code
def yX3_withSound : MethodName := ⟨RX3, "withSound", "(III)I"⟩
abbrev cX3_lengthOf : ByteArray := prog_5_method_4_code
def yX3_lengthOf : MethodName := ⟨RX3, "lengthOf", "(I)I"⟩
abbrev cX3_inTongue : ByteArray := prog_5_method_5_code
def yX3_inTongue : MethodName := ⟨RX3, "inTongue", "(II)I"⟩
def RX4 : String := "OnlyNamed$Ruler"
def TX4 : u_T := fun k => match k with
  | 0 => ("OnlyNamed$Ruler", "rows", "[[I", true)
  | 1 => ("OnlyNamed$Ruler", "name", "I", false)
  | _ => ("OnlyNamed$Ruler", "length", "I", false)
def tyX4 : Nat → FieldType := fun k => match k with
  | 0 => .array (.array .int)
  | 1 => .int
  | _ => .int
abbrev wsX40 : List Cond := u_ws RX4 TX4 3
theorem nmX4 : ∀ a, a < 3 → ∀ b, b < 3 → a ≠ b → (TX4 a).2.1 ≠ (TX4 b).2.1 := by decide +kernel
theorem tyX4_ok : ∀ k, k < 3 → parseFieldDescriptor (TX4 k).2.2.1 = some (tyX4 k) := by decide +kernel
abbrev cX4_init : ByteArray := prog_6_method_1_code
def yX4_init : MethodName := ⟨RX4, "<init>", "()V"⟩
abbrev cX4_between : ByteArray := prog_6_method_2_code
def yX4_between : MethodName := ⟨RX4, "between", "(II)I"⟩
abbrev cX4_lay : ByteArray := prog_6_method_3_code
def yX4_lay : MethodName := ⟨RX4, "lay", "(I)V"⟩
abbrev cX4_step : ByteArray := prog_6_method_4_code
def yX4_step : MethodName := ⟨RX4, "step", "(II)V"⟩
abbrev cX4_atMost : ByteArray := prog_6_method_5_code
def yX4_atMost : MethodName := ⟨RX4, "atMost", "(II)I"⟩
def RX5 : String := "OnlyNamed$Search"
def TX5 : u_T := fun k => match k with
  | 0 => ("OnlyNamed$Search", "rulers", "[LOnlyNamed$Ruler;", true)
  | 1 => ("OnlyNamed$Search", "sounds", "[I", true)
  | _ => ("OnlyNamed$Search", "others", "I", false)
def tyX5 : Nat → FieldType := fun k => match k with
  | 0 => .array (.object "OnlyNamed$Ruler")
  | 1 => .array .int
  | _ => .int
abbrev wsX50 : List Cond := u_ws RX5 TX5 3
theorem nmX5 : ∀ a, a < 3 → ∀ b, b < 3 → a ≠ b → (TX5 a).2.1 ≠ (TX5 b).2.1 := by decide +kernel
theorem tyX5_ok : ∀ k, k < 3 → parseFieldDescriptor (TX5 k).2.2.1 = some (tyX5 k) := by decide +kernel
abbrev cX5_init : ByteArray := prog_7_method_1_code
def yX5_init : MethodName := ⟨RX5, "<init>", "()V"⟩
abbrev cX5_begin : ByteArray := prog_7_method_2_code
def yX5_begin : MethodName := ⟨RX5, "begin", "()V"⟩
abbrev cX5_avoid : ByteArray := prog_7_method_3_code
def yX5_avoid : MethodName := ⟨RX5, "avoid", "(I)V"⟩
abbrev cX5_rulerAt : ByteArray := prog_7_method_4_code
def yX5_rulerAt : MethodName := ⟨RX5, "rulerAt", "(I)LOnlyNamed$Ruler;"⟩
abbrev cX5_shortest : ByteArray := prog_7_method_5_code
def yX5_shortest : MethodName := ⟨RX5, "shortest", "(I)I"⟩
abbrev cX5_find : ByteArray := prog_7_method_6_code
def yX5_find : MethodName := ⟨RX5, "find", "(II)Z"⟩
abbrev cX5_isHopeless : ByteArray := prog_7_method_7_code
def yX5_isHopeless : MethodName := ⟨RX5, "isHopeless", "(II)Z"⟩
abbrev cX5_isTooNear : ByteArray := prog_7_method_8_code
def yX5_isTooNear : MethodName := ⟨RX5, "isTooNear", "(IIII)Z"⟩
abbrev cX5_found : ByteArray := prog_7_method_9_code
def yX5_found : MethodName := ⟨RX5, "found", "(I)I"⟩
def RX6 : String := "OnlyNamed$Songs"
def TX6 : u_T := fun k => match k with
  | 0 => ("OnlyNamed$Songs", "lines", "I", false)
  | 1 => ("OnlyNamed$Songs", "lineNames", "[I", true)
  | 2 => ("OnlyNamed$Songs", "lineThings", "[I", true)
  | 3 => ("OnlyNamed$Songs", "canBe", "[I", true)
  | _ => ("OnlyNamed$Songs", "fits", "[I", true)
def tyX6 : Nat → FieldType := fun k => match k with
  | 0 => .int
  | 1 => .array .int
  | 2 => .array .int
  | 3 => .array .int
  | _ => .array .int
abbrev wsX60 : List Cond := u_ws RX6 TX6 5
theorem nmX6 : ∀ a, a < 5 → ∀ b, b < 5 → a ≠ b → (TX6 a).2.1 ≠ (TX6 b).2.1 := by decide +kernel
theorem tyX6_ok : ∀ k, k < 5 → parseFieldDescriptor (TX6 k).2.2.1 = some (tyX6 k) := by decide +kernel
abbrev cX6_init : ByteArray := prog_8_method_1_code
def yX6_init : MethodName := ⟨RX6, "<init>", "()V"⟩
abbrev cX6_sing : ByteArray := prog_8_method_2_code
def yX6_sing : MethodName := ⟨RX6, "sing", "(II)V"⟩
abbrev cX6_waysWith : ByteArray := prog_8_method_3_code
def yX6_waysWith : MethodName := ⟨RX6, "waysWith", "(II)I"⟩
abbrev cX6_thingsOf : ByteArray := prog_8_method_4_code
def yX6_thingsOf : MethodName := ⟨RX6, "thingsOf", "(II)I"⟩
abbrev cX6_firstBreak : ByteArray := prog_8_method_5_code
def yX6_firstBreak : MethodName := ⟨RX6, "firstBreak", "(I)I"⟩
abbrev cX6_hear : ByteArray := prog_8_method_6_code
def yX6_hear : MethodName := ⟨RX6, "hear", "(II)V"⟩
abbrev cX6_fit : ByteArray := prog_8_method_7_code
def yX6_fit : MethodName := ⟨RX6, "fit", "(I)I"⟩
abbrev cX6_giveNext : ByteArray := prog_8_method_8_code
def yX6_giveNext : MethodName := ⟨RX6, "giveNext", "(II)V"⟩
def RX7 : String := "OnlyNamed$Telling"
def TX7 : u_T := fun k => match k with
  | 0 => ("OnlyNamed$Telling", "names", "[I", true)
  | 1 => ("OnlyNamed$Telling", "knowers", "[I", true)
  | 2 => ("OnlyNamed$Telling", "bears", "[I", true)
  | 3 => ("OnlyNamed$Telling", "\x72", "I", false)
  | 4 => ("OnlyNamed$Telling", "things", "I", false)
  | 5 => ("OnlyNamed$Telling", "people", "I", false)
  | 6 => ("OnlyNamed$Telling", "pairs", "I", false)
  | 7 => ("OnlyNamed$Telling", "awaited", "I", false)
  | 8 => ("OnlyNamed$Telling", "name", "I", false)
  | 9 => ("OnlyNamed$Telling", "sounds", "I", false)
  | _ => ("OnlyNamed$Telling", "knower", "I", false)
def tyX7 : Nat → FieldType := fun k => match k with
  | 0 => .array .int
  | 1 => .array .int
  | 2 => .array .int
  | 3 => .int
  | 4 => .int
  | 5 => .int
  | 6 => .int
  | 7 => .int
  | 8 => .int
  | 9 => .int
  | _ => .int
abbrev wsX70 : List Cond := u_ws RX7 TX7 11
theorem nmX7 : ∀ a, a < 11 → ∀ b, b < 11 → a ≠ b → (TX7 a).2.1 ≠ (TX7 b).2.1 := by decide +kernel
theorem tyX7_ok : ∀ k, k < 11 → parseFieldDescriptor (TX7 k).2.2.1 = some (tyX7 k) := by decide +kernel
abbrev cX7_init : ByteArray := prog_9_method_1_code
def yX7_init : MethodName := ⟨RX7, "<init>", "()V"⟩
abbrev cX7_faultOf : ByteArray := prog_9_method_2_code
def yX7_faultOf : MethodName := ⟨RX7, "faultOf", "(LOnlyNamed$Text;)I"⟩
abbrev cX7_take : ByteArray := prog_9_method_3_code
def yX7_take : MethodName := ⟨RX7, "take", "(I)Z"⟩
abbrev cX7_takeH : ByteArray := prog_9_method_4_code
def yX7_takeH : MethodName := ⟨RX7, "takeH", "(I)Z"⟩
abbrev cX7_takeR : ByteArray := prog_9_method_5_code
def yX7_takeR : MethodName := ⟨RX7, "takeR", "(I)Z"⟩
abbrev cX7_takePart : ByteArray := prog_9_method_6_code
def yX7_takePart : MethodName := ⟨RX7, "takePart", "(I)Z"⟩
abbrev cX7_takeSound : ByteArray := prog_9_method_7_code
def yX7_takeSound : MethodName := ⟨RX7, "takeSound", "(I)Z"⟩
abbrev cX7_endName : ByteArray := prog_9_method_8_code
def yX7_endName : MethodName := ⟨RX7, "endName", "()Z"⟩
abbrev cX7_isTold : ByteArray := prog_9_method_9_code
def yX7_isTold : MethodName := ⟨RX7, "isTold", "(I)Z"⟩
abbrev cX7_takeBear : ByteArray := prog_9_method_10_code
def yX7_takeBear : MethodName := ⟨RX7, "takeBear", "(I)Z"⟩
abbrev cX7_takeKnower : ByteArray := prog_9_method_11_code
def yX7_takeKnower : MethodName := ⟨RX7, "takeKnower", "(I)Z"⟩
abbrev cX7_takeKnown : ByteArray := prog_9_method_12_code
def yX7_takeKnown : MethodName := ⟨RX7, "takeKnown", "(I)Z"⟩
abbrev cX7_canLearn : ByteArray := prog_9_method_13_code
def yX7_canLearn : MethodName := ⟨RX7, "canLearn", "(I)Z"⟩
def RX8 : String := "OnlyNamed$Text"
def TX8 : u_T := fun k => match k with
  | 0 => ("OnlyNamed$Text", "bytes", "[I", true)
  | _ => ("OnlyNamed$Text", "length", "I", false)
def tyX8 : Nat → FieldType := fun k => match k with
  | 0 => .array .int
  | _ => .int
abbrev wsX80 : List Cond := u_ws RX8 TX8 2
theorem nmX8 : ∀ a, a < 2 → ∀ b, b < 2 → a ≠ b → (TX8 a).2.1 ≠ (TX8 b).2.1 := by decide +kernel
theorem tyX8_ok : ∀ k, k < 2 → parseFieldDescriptor (TX8 k).2.2.1 = some (tyX8 k) := by decide +kernel
abbrev cX8_init : ByteArray := prog_10_method_1_code
def yX8_init : MethodName := ⟨RX8, "<init>", "()V"⟩
abbrev cX8_append : ByteArray := prog_10_method_2_code
def yX8_append : MethodName := ⟨RX8, "append", "(I)V"⟩
abbrev cX8_at : ByteArray := prog_10_method_3_code
def yX8_at : MethodName := ⟨RX8, "at", "(I)I"⟩
def RX9 : String := "OnlyNamed"
def TX9 : u_T := fun k => match k with
  | 0 => ("OnlyNamed", "text", "LOnlyNamed$Text;", true)
  | 1 => ("OnlyNamed", "telling", "LOnlyNamed$Telling;", true)
  | 2 => ("OnlyNamed", "house", "LOnlyNamed$House;", true)
  | 3 => ("OnlyNamed", "memory", "LOnlyNamed$Memory;", true)
  | 4 => ("OnlyNamed", "slots", "[LOnlyNamed$Memory;", true)
  | 5 => ("OnlyNamed", "ruler", "LOnlyNamed$Ruler;", true)
  | 6 => ("OnlyNamed", "search", "LOnlyNamed$Search;", true)
  | 7 => ("OnlyNamed", "carriers", "LOnlyNamed$Carriers;", true)
  | _ => ("OnlyNamed", "songs", "LOnlyNamed$Songs;", true)
def tyX9 : Nat → FieldType := fun k => match k with
  | 0 => .object "OnlyNamed$Text"
  | 1 => .object "OnlyNamed$Telling"
  | 2 => .object "OnlyNamed$House"
  | 3 => .object "OnlyNamed$Memory"
  | 4 => .array (.object "OnlyNamed$Memory")
  | 5 => .object "OnlyNamed$Ruler"
  | 6 => .object "OnlyNamed$Search"
  | 7 => .object "OnlyNamed$Carriers"
  | _ => .object "OnlyNamed$Songs"
abbrev wsX90 : List Cond := u_ws RX9 TX9 9
theorem nmX9 : ∀ a, a < 9 → ∀ b, b < 9 → a ≠ b → (TX9 a).2.1 ≠ (TX9 b).2.1 := by decide +kernel
theorem tyX9_ok : ∀ k, k < 9 → parseFieldDescriptor (TX9 k).2.2.1 = some (tyX9 k) := by decide +kernel
abbrev cX9_init : ByteArray := prog_1_method_1_code
def yX9_init : MethodName := ⟨RX9, "<init>", "()V"⟩
abbrev cX9_write : ByteArray := prog_1_method_2_code
def yX9_write : MethodName := ⟨RX9, "write", "(IJ)I"⟩
abbrev cX9_wipe : ByteArray := prog_1_method_3_code
def yX9_wipe : MethodName := ⟨RX9, "wipe", "()I"⟩
abbrev cX9_fault : ByteArray := prog_1_method_4_code
def yX9_fault : MethodName := ⟨RX9, "fault", "()I"⟩
abbrev cX9_house : ByteArray := prog_1_method_5_code
def yX9_house : MethodName := ⟨RX9, "house", "()I"⟩
abbrev cX9_sound : ByteArray := prog_1_method_6_code
def yX9_sound : MethodName := ⟨RX9, "sound", "(II)I"⟩
abbrev cX9_off : ByteArray := prog_1_method_7_code
def yX9_off : MethodName := ⟨RX9, "off", "(II)I"⟩
abbrev cX9_near : ByteArray := prog_1_method_8_code
def yX9_near : MethodName := ⟨RX9, "near", "(I)I"⟩
abbrev cX9_knows : ByteArray := prog_1_method_9_code
def yX9_knows : MethodName := ⟨RX9, "knows", "(I)I"⟩
abbrev cX9_live : ByteArray := prog_1_method_10_code
def yX9_live : MethodName := ⟨RX9, "live", "()I"⟩
abbrev cX9_days : ByteArray := prog_1_method_11_code
def yX9_days : MethodName := ⟨RX9, "days", "(I)I"⟩
abbrev cX9_fades : ByteArray := prog_1_method_12_code
def yX9_fades : MethodName := ⟨RX9, "fades", "(I)I"⟩
abbrev cX9_say : ByteArray := prog_1_method_13_code
def yX9_say : MethodName := ⟨RX9, "say", "(III)I"⟩
abbrev cX9_give : ByteArray := prog_1_method_14_code
def yX9_give : MethodName := ⟨RX9, "give", "(III)I"⟩
abbrev cX9_fresh : ByteArray := prog_1_method_15_code
def yX9_fresh : MethodName := ⟨RX9, "fresh", "(I)I"⟩
abbrev cX9_anew : ByteArray := prog_1_method_16_code
def yX9_anew : MethodName := ⟨RX9, "anew", "(II)I"⟩
abbrev cX9_lifts : ByteArray := prog_1_method_17_code
def yX9_lifts : MethodName := ⟨RX9, "lifts", "(I)I"⟩
abbrev cX9_stands : ByteArray := prog_1_method_18_code
def yX9_stands : MethodName := ⟨RX9, "stands", "(II)I"⟩
abbrev cX9_carries : ByteArray := prog_1_method_19_code
def yX9_carries : MethodName := ⟨RX9, "carries", "(II)I"⟩
abbrev cX9_times : ByteArray := prog_1_method_20_code
def yX9_times : MethodName := ⟨RX9, "times", "(I)I"⟩
abbrev cX9_worth : ByteArray := prog_1_method_21_code
def yX9_worth : MethodName := ⟨RX9, "worth", "(I)I"⟩
abbrev cX9_upkeep : ByteArray := prog_1_method_22_code
def yX9_upkeep : MethodName := ⟨RX9, "upkeep", "(II)I"⟩
abbrev cX9_mayHave : ByteArray := prog_1_method_23_code
def yX9_mayHave : MethodName := ⟨RX9, "mayHave", "(I)I"⟩
abbrev cX9_line : ByteArray := prog_1_method_24_code
def yX9_line : MethodName := ⟨RX9, "line", "(II)I"⟩
abbrev cX9_silence : ByteArray := prog_1_method_25_code
def yX9_silence : MethodName := ⟨RX9, "silence", "()I"⟩
abbrev cX9_ways : ByteArray := prog_1_method_26_code
def yX9_ways : MethodName := ⟨RX9, "ways", "(I)I"⟩
abbrev cX9_mayBe : ByteArray := prog_1_method_27_code
def yX9_mayBe : MethodName := ⟨RX9, "mayBe", "(II)I"⟩
abbrev cX9_breaks : ByteArray := prog_1_method_28_code
def yX9_breaks : MethodName := ⟨RX9, "breaks", "(I)I"⟩
abbrev cX9_twins : ByteArray := prog_1_method_29_code
def yX9_twins : MethodName := ⟨RX9, "twins", "(I)I"⟩
abbrev cX9_keep : ByteArray := prog_1_method_30_code
def yX9_keep : MethodName := ⟨RX9, "keep", "(I)I"⟩
abbrev cX9_again : ByteArray := prog_1_method_31_code
def yX9_again : MethodName := ⟨RX9, "again", "(I)I"⟩
abbrev cX9_count : ByteArray := prog_1_method_32_code
def yX9_count : MethodName := ⟨RX9, "count", "(I)I"⟩
abbrev cX9_has : ByteArray := prog_1_method_33_code
def yX9_has : MethodName := ⟨RX9, "has", "(II)Z"⟩
abbrev cX9_isOldHouse : ByteArray := prog_1_method_34_code
def yX9_isOldHouse : MethodName := ⟨RX9, "isOldHouse", "(I)Z"⟩
abbrev cX9_slotAt : ByteArray := prog_1_method_35_code
def yX9_slotAt : MethodName := ⟨RX9, "slotAt", "(I)LOnlyNamed$Memory;"⟩
abbrev cX9_soundsOfAll : ByteArray := prog_1_method_36_code
def yX9_soundsOfAll : MethodName := ⟨RX9, "soundsOfAll", "()I"⟩
abbrev cX9_liveNamed : ByteArray := prog_1_method_37_code
def yX9_liveNamed : MethodName := ⟨RX9, "liveNamed", "(I)I"⟩
abbrev cX9_freshName : ByteArray := prog_1_method_38_code
def yX9_freshName : MethodName := ⟨RX9, "freshName", "()I"⟩
abbrev cX9_nearTo : ByteArray := prog_1_method_39_code
def yX9_nearTo : MethodName := ⟨RX9, "nearTo", "(II)I"⟩
abbrev cX9_clearOnes : ByteArray := prog_1_method_40_code
def yX9_clearOnes : MethodName := ⟨RX9, "clearOnes", "()I"⟩
abbrev cX9_liftedBy : ByteArray := prog_1_method_41_code
def yX9_liftedBy : MethodName := ⟨RX9, "liftedBy", "(II)I"⟩
abbrev cX9_gatherCarriers : ByteArray := prog_1_method_42_code
def yX9_gatherCarriers : MethodName := ⟨RX9, "gatherCarriers", "()V"⟩
def RX10 : String := "OnlyNamedModel"
def TX10 : u_T := fun k => match k with
  | 0 => ("OnlyNamedModel", "readSounds", "[I", true)
  | 1 => ("OnlyNamedModel", "readSizes", "[I", true)
  | 2 => ("OnlyNamedModel", "readKnows", "[I", true)
  | 3 => ("OnlyNamedModel", "readBears", "[I", true)
  | 4 => ("OnlyNamedModel", "readNear", "I", false)
  | 5 => ("OnlyNamedModel", "readThings", "I", false)
  | 6 => ("OnlyNamedModel", "readPeople", "I", false)
  | 7 => ("OnlyNamedModel", "sounds", "[I", true)
  | 8 => ("OnlyNamedModel", "sizes", "[I", true)
  | 9 => ("OnlyNamedModel", "knows", "[I", true)
  | 10 => ("OnlyNamedModel", "said", "[I", true)
  | 11 => ("OnlyNamedModel", "bears", "[I", true)
  | 12 => ("OnlyNamedModel", "near", "I", false)
  | 13 => ("OnlyNamedModel", "things", "I", false)
  | 14 => ("OnlyNamedModel", "people", "I", false)
  | 15 => ("OnlyNamedModel", "day", "I", false)
  | 16 => ("OnlyNamedModel", "text", "[I", true)
  | 17 => ("OnlyNamedModel", "length", "I", false)
  | 18 => ("OnlyNamedModel", "at", "I", false)
  | 19 => ("OnlyNamedModel", "faultAt", "I", false)
  | 20 => ("OnlyNamedModel", "tried", "[I", true)
  | 21 => ("OnlyNamedModel", "triedSize", "I", false)
  | 22 => ("OnlyNamedModel", "offRow", "[I", true)
  | 23 => ("OnlyNamedModel", "can", "[Z", true)
  | 24 => ("OnlyNamedModel", "bornes", "[Z", true)
  | 25 => ("OnlyNamedModel", "many", "[I", true)
  | 26 => ("OnlyNamedModel", "lines", "I", false)
  | 27 => ("OnlyNamedModel", "lineName", "[I", true)
  | 28 => ("OnlyNamedModel", "lineThings", "[I", true)
  | 29 => ("OnlyNamedModel", "gives", "[I", true)
  | 30 => ("OnlyNamedModel", "allowed", "[I", true)
  | 31 => ("OnlyNamedModel", "isKept", "[Z", true)
  | 32 => ("OnlyNamedModel", "keptSounds", "[I", true)
  | 33 => ("OnlyNamedModel", "keptSizes", "[I", true)
  | 34 => ("OnlyNamedModel", "keptKnows", "[I", true)
  | 35 => ("OnlyNamedModel", "keptSaid", "[I", true)
  | _ => ("OnlyNamedModel", "keptDay", "[I", true)
def tyX10 : Nat → FieldType := fun k => match k with
  | 0 => .array .int
  | 1 => .array .int
  | 2 => .array .int
  | 3 => .array .int
  | 4 => .int
  | 5 => .int
  | 6 => .int
  | 7 => .array .int
  | 8 => .array .int
  | 9 => .array .int
  | 10 => .array .int
  | 11 => .array .int
  | 12 => .int
  | 13 => .int
  | 14 => .int
  | 15 => .int
  | 16 => .array .int
  | 17 => .int
  | 18 => .int
  | 19 => .int
  | 20 => .array .int
  | 21 => .int
  | 22 => .array .int
  | 23 => .array .boolean
  | 24 => .array .boolean
  | 25 => .array .int
  | 26 => .int
  | 27 => .array .int
  | 28 => .array .int
  | 29 => .array .int
  | 30 => .array .int
  | 31 => .array .boolean
  | 32 => .array .int
  | 33 => .array .int
  | 34 => .array .int
  | 35 => .array .int
  | _ => .array .int
abbrev wsX100 : List Cond := u_ws RX10 TX10 37
theorem nmX10 : ∀ a, a < 37 → ∀ b, b < 37 → a ≠ b → (TX10 a).2.1 ≠ (TX10 b).2.1 := by decide +kernel
theorem tyX10_ok : ∀ k, k < 37 → parseFieldDescriptor (TX10 k).2.2.1 = some (tyX10 k) := by decide +kernel
abbrev cX10_init : ByteArray := prog_12_method_1_code
def yX10_init : MethodName := ⟨RX10, "<init>", "()V"⟩
abbrev cX10_in : ByteArray := prog_12_method_3_code
def yX10_in : MethodName := ⟨RX10, "in", "(JJJ)Z"⟩
abbrev cX10_write : ByteArray := prog_12_method_4_code
def yX10_write : MethodName := ⟨RX10, "write", "(IJ)I"⟩
abbrev cX10_wipe : ByteArray := prog_12_method_5_code
def yX10_wipe : MethodName := ⟨RX10, "wipe", "()I"⟩
abbrev cX10_here : ByteArray := prog_12_method_6_code
def yX10_here : MethodName := ⟨RX10, "here", "()I"⟩
abbrev cX10_fail : ByteArray := prog_12_method_7_code
def yX10_fail : MethodName := ⟨RX10, "fail", "()V"⟩
abbrev cX10_figure : ByteArray := prog_12_method_8_code
def yX10_figure : MethodName := ⟨RX10, "figure", "(I)I"⟩
abbrev cX10_open : ByteArray := prog_12_method_9_code
def yX10_open : MethodName := ⟨RX10, "open", "()I"⟩
abbrev cX10_unknown : ByteArray := prog_12_method_10_code
def yX10_unknown : MethodName := ⟨RX10, "unknown", "(I)I"⟩
abbrev cX10_readText : ByteArray := prog_12_method_11_code
def yX10_readText : MethodName := ⟨RX10, "readText", "()I"⟩
abbrev cX10_isTold : ByteArray := prog_12_method_12_code
def yX10_isTold : MethodName := ⟨RX10, "isTold", "()Z"⟩
abbrev cX10_readName : ByteArray := prog_12_method_13_code
def yX10_readName : MethodName := ⟨RX10, "readName", "()V"⟩
abbrev cX10_fault : ByteArray := prog_12_method_14_code
def yX10_fault : MethodName := ⟨RX10, "fault", "()I"⟩
abbrev cX10_house : ByteArray := prog_12_method_15_code
def yX10_house : MethodName := ⟨RX10, "house", "()I"⟩
abbrev cX10_isThing : ByteArray := prog_12_method_16_code
def yX10_isThing : MethodName := ⟨RX10, "isThing", "(I)Z"⟩
abbrev cX10_isPerson : ByteArray := prog_12_method_17_code
def yX10_isPerson : MethodName := ⟨RX10, "isPerson", "(I)Z"⟩
abbrev cX10_sound : ByteArray := prog_12_method_18_code
def yX10_sound : MethodName := ⟨RX10, "sound", "(II)I"⟩
abbrev cX10_least : ByteArray := prog_12_method_19_code
def yX10_least : MethodName := ⟨RX10, "least", "(III)I"⟩
abbrev cX10_offTried : ByteArray := prog_12_method_20_code
def yX10_offTried : MethodName := ⟨RX10, "offTried", "(I)I"⟩
abbrev cX10_offOf : ByteArray := prog_12_method_21_code
def yX10_offOf : MethodName := ⟨RX10, "offOf", "(II)I"⟩
abbrev cX10_off : ByteArray := prog_12_method_22_code
def yX10_off : MethodName := ⟨RX10, "off", "(II)I"⟩
abbrev cX10_isLive : ByteArray := prog_12_method_23_code
def yX10_isLive : MethodName := ⟨RX10, "isLive", "(I)Z"⟩
abbrev cX10_nearTo : ByteArray := prog_12_method_24_code
def yX10_nearTo : MethodName := ⟨RX10, "nearTo", "(I)I"⟩
abbrev cX10_near : ByteArray := prog_12_method_25_code
def yX10_near : MethodName := ⟨RX10, "near", "(I)I"⟩
abbrev cX10_knows : ByteArray := prog_12_method_26_code
def yX10_knows : MethodName := ⟨RX10, "knows", "(I)I"⟩
abbrev cX10_liveSet : ByteArray := prog_12_method_27_code
def yX10_liveSet : MethodName := ⟨RX10, "liveSet", "()I"⟩
abbrev cX10_live : ByteArray := prog_12_method_28_code
def yX10_live : MethodName := ⟨RX10, "live", "()I"⟩
abbrev cX10_days : ByteArray := prog_12_method_29_code
def yX10_days : MethodName := ⟨RX10, "days", "(I)I"⟩
abbrev cX10_fades : ByteArray := prog_12_method_30_code
def yX10_fades : MethodName := ⟨RX10, "fades", "(I)I"⟩
abbrev cX10_isKnown : ByteArray := prog_12_method_31_code
def yX10_isKnown : MethodName := ⟨RX10, "isKnown", "(II)Z"⟩
abbrev cX10_say : ByteArray := prog_12_method_32_code
def yX10_say : MethodName := ⟨RX10, "say", "(III)I"⟩
abbrev cX10_give : ByteArray := prog_12_method_33_code
def yX10_give : MethodName := ⟨RX10, "give", "(III)I"⟩
abbrev cX10_layFresh : ByteArray := prog_12_method_34_code
def yX10_layFresh : MethodName := ⟨RX10, "layFresh", "()Z"⟩
abbrev cX10_fresh : ByteArray := prog_12_method_35_code
def yX10_fresh : MethodName := ⟨RX10, "fresh", "(I)I"⟩
abbrev cX10_anew : ByteArray := prog_12_method_36_code
def yX10_anew : MethodName := ⟨RX10, "anew", "(II)I"⟩
abbrev cX10_liftsOf : ByteArray := prog_12_method_37_code
def yX10_liftsOf : MethodName := ⟨RX10, "liftsOf", "(I)I"⟩
abbrev cX10_lifts : ByteArray := prog_12_method_38_code
def yX10_lifts : MethodName := ⟨RX10, "lifts", "(I)I"⟩
abbrev cX10_isThings : ByteArray := prog_12_method_39_code
def yX10_isThings : MethodName := ⟨RX10, "isThings", "(I)Z"⟩
abbrev cX10_breaksAt : ByteArray := prog_12_method_40_code
def yX10_breaksAt : MethodName := ⟨RX10, "breaksAt", "(III)I"⟩
abbrev cX10_stands : ByteArray := prog_12_method_41_code
def yX10_stands : MethodName := ⟨RX10, "stands", "(II)I"⟩
abbrev cX10_layCan : ByteArray := prog_12_method_42_code
def yX10_layCan : MethodName := ⟨RX10, "layCan", "(I)V"⟩
abbrev cX10_leastLoad : ByteArray := prog_12_method_43_code
def yX10_leastLoad : MethodName := ⟨RX10, "leastLoad", "(II)I"⟩
abbrev cX10_carries : ByteArray := prog_12_method_44_code
def yX10_carries : MethodName := ⟨RX10, "carries", "(II)I"⟩
abbrev cX10_timesOf : ByteArray := prog_12_method_45_code
def yX10_timesOf : MethodName := ⟨RX10, "timesOf", "(I)I"⟩
abbrev cX10_times : ByteArray := prog_12_method_46_code
def yX10_times : MethodName := ⟨RX10, "times", "(I)I"⟩
abbrev cX10_worth : ByteArray := prog_12_method_47_code
def yX10_worth : MethodName := ⟨RX10, "worth", "(I)I"⟩
abbrev cX10_upkeep : ByteArray := prog_12_method_48_code
def yX10_upkeep : MethodName := ⟨RX10, "upkeep", "(II)I"⟩
abbrev cX10_mayHave : ByteArray := prog_12_method_49_code
def yX10_mayHave : MethodName := ⟨RX10, "mayHave", "(I)I"⟩
abbrev cX10_line : ByteArray := prog_12_method_50_code
def yX10_line : MethodName := ⟨RX10, "line", "(II)I"⟩
abbrev cX10_silence : ByteArray := prog_12_method_51_code
def yX10_silence : MethodName := ⟨RX10, "silence", "()I"⟩
abbrev cX10_waysBy : ByteArray := prog_12_method_52_code
def yX10_waysBy : MethodName := ⟨RX10, "waysBy", "(II)I"⟩
abbrev cX10_givings : ByteArray := prog_12_method_53_code
def yX10_givings : MethodName := ⟨RX10, "givings", "(I)I"⟩
abbrev cX10_ways : ByteArray := prog_12_method_54_code
def yX10_ways : MethodName := ⟨RX10, "ways", "(I)I"⟩
abbrev cX10_mayBe : ByteArray := prog_12_method_55_code
def yX10_mayBe : MethodName := ⟨RX10, "mayBe", "(II)I"⟩
abbrev cX10_breaks : ByteArray := prog_12_method_56_code
def yX10_breaks : MethodName := ⟨RX10, "breaks", "(I)I"⟩
abbrev cX10_twins : ByteArray := prog_12_method_57_code
def yX10_twins : MethodName := ⟨RX10, "twins", "(I)I"⟩
abbrev cX10_keep : ByteArray := prog_12_method_58_code
def yX10_keep : MethodName := ⟨RX10, "keep", "(I)I"⟩
abbrev cX10_again : ByteArray := prog_12_method_59_code
def yX10_again : MethodName := ⟨RX10, "again", "(I)I"⟩
abbrev cX10_count : ByteArray := prog_12_method_60_code
def yX10_count : MethodName := ⟨RX10, "count", "(I)I"⟩
def RJ6 : String := "java/lang/Integer"
def TJ6 : u_T := fun k => match k with
  | _ => ("", "", "", false)
def tyJ6 : Nat → FieldType := fun k => match k with
  | _ => .int
abbrev wsJ60 : List Cond := u_ws RJ6 TJ6 0
theorem nmJ6 : ∀ a, a < 0 → ∀ b, b < 0 → a ≠ b → (TJ6 a).2.1 ≠ (TJ6 b).2.1 := by decide +kernel
theorem tyJ6_ok : ∀ k, k < 0 → parseFieldDescriptor (TJ6 k).2.2.1 = some (tyJ6 k) := by decide +kernel
abbrev cJ6_bitCount_0f7a4 : ByteArray := prog_13_method_49_code
def yJ6_bitCount_0f7a4 : MethodName := ⟨RJ6, "bitCount", "(I)I"⟩
def RJ9 : String := "java/lang/Math"
def TJ9 : u_T := fun k => match k with
  | _ => ("", "", "", false)
def tyJ9 : Nat → FieldType := fun k => match k with
  | _ => .int
abbrev wsJ90 : List Cond := u_ws RJ9 TJ9 0
theorem nmJ9 : ∀ a, a < 0 → ∀ b, b < 0 → a ≠ b → (TJ9 a).2.1 ≠ (TJ9 b).2.1 := by decide +kernel
theorem tyJ9_ok : ∀ k, k < 0 → parseFieldDescriptor (TJ9 k).2.2.1 = some (tyJ9 k) := by decide +kernel
abbrev cJ9_max_7cf53 : ByteArray := prog_14_method_65_code
def yJ9_max_7cf53 : MethodName := ⟨RJ9, "max", "(II)I"⟩
abbrev cJ9_min_7cf53 : ByteArray := prog_14_method_69_code
def yJ9_min_7cf53 : MethodName := ⟨RJ9, "min", "(II)I"⟩
def RL : String := "OnlyNamedLaw"
abbrev cL_law : ByteArray := code
def yL_law : MethodName := ⟨RL, "law", "([I)Z"⟩
abbrev vwCl : List vw_C := [(RX0, TX0, 5), (RX1, TX1, 4), (RX2, TX2, 5), (RX4, TX4, 3), (RX5, TX5, 3), (RX6, TX6, 5), (RX7, TX7, 11), (RX8, TX8, 2), (RX9, TX9, 9), (RX10, TX10, 37)]
end
section
/-! AN INTERPRETER OVER ABSTRACT STATES: whole numbers for ints and longs, cells by number (0: null, 1: the script, from 2 on the objects in the order in which they are made) -/
abbrev ivV : Type := Int ⊕ (Int ⊕ (Nat ⊕ Unit))
abbrev ivI (x : Int) : ivV := .inl x
abbrev ivJ (x : Int) : ivV := .inr (.inl x)
abbrev ivR (a : Nat) : ivV := .inr (.inr (.inl a))
abbrev ivU : ivV := .inr (.inr (.inr ()))
abbrev ivM : Type := Nat → Nat → Int
abbrev ivN : Type := Nat → Nat → Nat
/-- a heap: how many cells there are; what ints they hold; what references -/
abbrev ivS : Type := Nat × ivM × ivN
/-- an instruction: its place, itself, its length, three numbers that a program read off the pool (field: class, place; call: method, how many values; ..), the place of its word in lw_tbl -/
abbrev ivE : Type := Nat × Instr × Nat × Nat × Nat × Int × Nat
def iv_wr (x : Int) : Int := (Int32.ofInt x).toInt
def iv_wl (x : Int) : Int := (Int64.ofInt x).toInt
def iv_and (x y : Int) : Int := (Int32.ofInt x &&& Int32.ofInt y).toInt
def iv_or (x y : Int) : Int := (Int32.ofInt x ||| Int32.ofInt y).toInt
def iv_xor (x y : Int) : Int := (Int32.ofInt x ^^^ Int32.ofInt y).toInt
def iv_shl (x y : Int) : Int := (Int32.ofInt x <<< (Int32.ofInt y &&& 31)).toInt
def iv_shr (x y : Int) : Int := (Int32.ofInt x >>> (Int32.ofInt y &&& 31)).toInt
def iv_ushr (x y : Int) : Int := ((Int32.ofInt x).toUInt32 >>> ((Int32.ofInt y).toUInt32 &&& Int32.toUInt32 31)).toInt32.toInt
def iv_div (x y : Int) : Int := (Int32.ofInt x / Int32.ofInt y).toInt
def iv_rem (x y : Int) : Int := (Int32.ofInt x - Int32.ofInt x / Int32.ofInt y * Int32.ofInt y).toInt
def iv_land (x y : Int) : Int := (Int64.ofInt x &&& Int64.ofInt y).toInt
def iv_lor (x y : Int) : Int := (Int64.ofInt x ||| Int64.ofInt y).toInt
def iv_lshl (x y : Int) : Int := (Int64.ofInt x <<< ((Int32.ofInt y).toInt64 &&& 63)).toInt
def iv_lshr (x y : Int) : Int := (Int64.ofInt x >>> ((Int32.ofInt y).toInt64 &&& 63)).toInt
def iv_lushr (x y : Int) : Int := ((Int64.ofInt x).toUInt64 >>> ((Int32.ofInt y).toInt64.toUInt64 &&& Int64.toUInt64 63)).toInt64.toInt
def iv_lcmp (x y : Int) : Int := if y < x then 1 else if x = y then 0 else -1
def iv_cmp (c : Jvm.ClassFile.Cond) (x y : Int) : Bool := match c with
  | .eq => decide (x = y)
  | .ne => decide (¬ x = y)
  | .lt => decide (x < y)
  | .ge => decide (y ≤ x)
  | .gt => decide (y < x)
  | .le => decide (x ≤ y)
def iv_upd (f : ivM) (a k : Nat) (v : Int) : ivM := fun a' k' => if a' = a ∧ k' = k then v else f a' k'
def iv_updR (f : ivN) (a k v : Nat) : ivN := fun a' k' => if a' = a ∧ k' = k then v else f a' k'
def iv_zer (f : ivM) (lo hi : Nat) : ivM := fun a' k' => if lo ≤ a' ∧ a' ≤ hi then 0 else f a' k'
def iv_zerR (f : ivN) (lo hi : Nat) : ivN := fun a' k' => if lo ≤ a' ∧ a' ≤ hi then 0 else f a' k'
/-- a first row of references: its places name the cells behind it -/
def iv_row (f : ivN) (a N : Nat) : ivN := fun a' k' => if a' = a then (if k' < N then a + 1 + k' else 0) else f a' k'
def iv_c1 (v : ivV) : Bool := match v with
  | .inl _ => true
  | .inr (.inl _) => false
  | .inr (.inr (.inl _)) => true
  | .inr (.inr (.inr _)) => false
def iv_lg (v : ivV) : Bool := match v with
  | .inr (.inl _) => true
  | _ => false
/-- where a long stands ahead of place i, nothing is stored there -/
def iv_free (ls : List ivV) (i : Nat) : Bool := match i with
  | 0 => true
  | j + 1 => !iv_lg (ls.getD j ivU)
end
section
/-! THE TABLES (printed by wip/gen/tab.py): cells, field kinds, methods, instructions -/
def iv_Y : List (List (Nat × Nat × Nat)) := [[(9, 0, 0), (9, 0, 0), (0, 8, 9), (0, 7, 2), (1, 0, 96), (0, 6, 11), (1, 0, 8), (1, 0, 8), (1, 0, 6), (0, 1, 4), (1, 0, 6), (0, 2, 5), (1, 0, 8), (1, 0, 8), (1, 0, 8), (1, 2, 2)],
  [(0, 2, 5), (1, 0, 8), (1, 0, 8), (1, 0, 8), (0, 2, 5), (1, 0, 8), (1, 0, 8), (1, 0, 8), (0, 3, 3), (1, 4, 6), (1, 0, 6), (1, 0, 6), (1, 0, 6), (1, 0, 6), (1, 0, 6), (1, 0, 6)],
  [(0, 4, 3), (1, 0, 5), (1, 3, 8), (0, 3, 3), (1, 4, 6), (1, 0, 6), (1, 0, 6), (1, 0, 6), (1, 0, 6), (1, 0, 6), (1, 0, 6), (0, 3, 3), (1, 4, 6), (1, 0, 6), (1, 0, 6), (1, 0, 6)],
  [(1, 0, 6), (1, 0, 6), (1, 0, 6), (0, 3, 3), (1, 4, 6), (1, 0, 6), (1, 0, 6), (1, 0, 6), (1, 0, 6), (1, 0, 6), (1, 0, 6), (0, 3, 3), (1, 4, 6), (1, 0, 6), (1, 0, 6), (1, 0, 6)],
  [(1, 0, 6), (1, 0, 6), (1, 0, 6), (0, 3, 3), (1, 4, 6), (1, 0, 6), (1, 0, 6), (1, 0, 6), (1, 0, 6), (1, 0, 6), (1, 0, 6), (0, 3, 3), (1, 4, 6), (1, 0, 6), (1, 0, 6), (1, 0, 6)],
  [(1, 0, 6), (1, 0, 6), (1, 0, 6), (0, 3, 3), (1, 4, 6), (1, 0, 6), (1, 0, 6), (1, 0, 6), (1, 0, 6), (1, 0, 6), (1, 0, 6), (0, 3, 3), (1, 4, 6), (1, 0, 6), (1, 0, 6), (1, 0, 6)],
  [(1, 0, 6), (1, 0, 6), (1, 0, 6), (0, 0, 5), (1, 0, 6), (1, 0, 6), (1, 0, 8), (1, 0, 256), (1, 0, 256), (0, 5, 5), (1, 0, 16), (1, 0, 16), (1, 0, 8), (1, 0, 256), (0, 9, 37), (1, 0, 40)],
  [(1, 0, 8), (1, 0, 8), (1, 0, 6), (1, 0, 40), (1, 0, 8), (1, 0, 8), (1, 0, 8), (1, 0, 6), (1, 0, 96), (1, 0, 5), (1, 0, 36), (1, 1, 1792), (1, 1, 1536), (1, 0, 256), (1, 0, 16), (1, 0, 16)],
  [(1, 0, 256), (1, 0, 8), (1, 1, 2), (1, 0, 80), (1, 0, 16), (1, 0, 16), (1, 0, 16), (1, 0, 2)]]
def iv_F : List (List Nat) := [[2, 2, 2, 2, 2], [2, 0, 0, 0], [2, 2, 2, 0, 1], [2, 0, 0], [2, 2, 0], [0, 2, 2, 2, 2], [2, 2, 2, 0, 0, 0, 0, 0, 0, 0, 0], [2, 0], [2, 2, 2, 2, 2, 2, 2, 2, 2], [2, 2, 2, 2, 0, 0, 0, 2, 2, 2, 2, 2, 0, 0, 0, 0, 2, 0, 0, 0, 2, 0, 2, 2, 2, 2, 0, 2, 2, 2, 2, 2, 2, 2, 2, 2, 2]]
def iv_fty (ci k : Nat) : Nat := (iv_F.getD ci []).getD k 9
/-- a cell's kind: (0, class, how many fields), (1, kind of its places, how many) -/
def iv_lay (L a : Nat) : Nat × Nat × Nat := bif Nat.beq a 1 then (1, 0, L) else (iv_Y.getD (a / 16) []).getD (a % 16) (9, 0, 0)
def iv_six (L n : Nat) : Bool := decide (iv_lay L (n + 1) = (1, 4, 6)) && (decide (iv_lay L (n + 2) = (1, 0, 6)) && (decide (iv_lay L (n + 3) = (1, 0, 6)) && (decide (iv_lay L (n + 4) = (1, 0, 6)) && (decide (iv_lay L (n + 5) = (1, 0, 6)) && (decide (iv_lay L (n + 6) = (1, 0, 6)) && decide (iv_lay L (n + 7) = (1, 0, 6)))))))
def iv_rfs : List ((Nat × Nat) × Nat) := [((2, 0), 3), ((2, 1), 5), ((2, 2), 9), ((2, 3), 11), ((2, 4), 15), ((2, 5), 24), ((2, 6), 32), ((2, 7), 99), ((2, 8), 105), ((3, 0), 4), ((5, 0), 6), ((5, 1), 7), ((5, 2), 8), ((9, 0), 10), ((11, 0), 12), ((11, 1), 13), ((11, 2), 14), ((15, 0), 16), ((15, 1), 20), ((16, 0), 17), ((16, 1), 18), ((16, 2), 19), ((20, 0), 21), ((20, 1), 22), ((20, 2), 23), ((24, 0), 25), ((25, 0), 26), ((25, 1), 27), ((25, 2), 28), ((25, 3), 29), ((25, 4), 30), ((25, 5), 31), ((32, 0), 34), ((32, 1), 33), ((34, 0), 35), ((34, 1), 43), ((34, 2), 51), ((34, 3), 59), ((34, 4), 67), ((34, 5), 75), ((34, 6), 83), ((34, 7), 91), ((35, 0), 36), ((36, 0), 37), ((36, 1), 38), ((36, 2), 39), ((36, 3), 40), ((36, 4), 41), ((36, 5), 42), ((43, 0), 44), ((44, 0), 45), ((44, 1), 46), ((44, 2), 47), ((44, 3), 48), ((44, 4), 49), ((44, 5), 50), ((51, 0), 52), ((52, 0), 53), ((52, 1), 54), ((52, 2), 55), ((52, 3), 56), ((52, 4), 57), ((52, 5), 58), ((59, 0), 60), ((60, 0), 61), ((60, 1), 62), ((60, 2), 63), ((60, 3), 64), ((60, 4), 65), ((60, 5), 66), ((67, 0), 68), ((68, 0), 69), ((68, 1), 70), ((68, 2), 71), ((68, 3), 72), ((68, 4), 73), ((68, 5), 74), ((75, 0), 76), ((76, 0), 77), ((76, 1), 78), ((76, 2), 79), ((76, 3), 80), ((76, 4), 81), ((76, 5), 82), ((83, 0), 84), ((84, 0), 85), ((84, 1), 86), ((84, 2), 87), ((84, 3), 88), ((84, 4), 89), ((84, 5), 90), ((91, 0), 92), ((92, 0), 93), ((92, 1), 94), ((92, 2), 95), ((92, 3), 96), ((92, 4), 97), ((92, 5), 98), ((99, 0), 100), ((99, 1), 101), ((99, 2), 102), ((99, 3), 103), ((99, 4), 104), ((105, 1), 106), ((105, 2), 107), ((105, 3), 108), ((105, 4), 109), ((110, 0), 111), ((110, 1), 112), ((110, 2), 113), ((110, 3), 114), ((110, 7), 115), ((110, 8), 116), ((110, 9), 117), ((110, 10), 118), ((110, 11), 119), ((110, 16), 120), ((110, 20), 121), ((110, 22), 122), ((110, 23), 123), ((110, 24), 124), ((110, 25), 125), ((110, 27), 126), ((110, 28), 127), ((110, 29), 128), ((110, 30), 129), ((110, 31), 130), ((110, 32), 131), ((110, 33), 132), ((110, 34), 133), ((110, 35), 134), ((110, 36), 135)]
def iv_k0 : List (List ivE) := [[(0, .aload_n 0, 1, 0, 0, 0, 0), (1, .invokespecial 3, 3, 1000, 0, 0, 235), (4, .aload_n 0, 1, 0, 0, 0, 0), (5, .bipush 6, 2, 0, 0, 0, 0), (7, .newarray .int, 2, 0, 0, 0, 0), (9, .putfield 9, 3, 0, 0, 0, 236), (12, .aload_n 0, 1, 0, 0, 0, 0), (13, .bipush 6, 2, 0, 0, 0, 0), (15, .newarray .int, 2, 0, 0, 0, 0)],
  [(17, .putfield 15, 3, 0, 1, 0, 238), (20, .aload_n 0, 1, 0, 0, 0, 0), (21, .bipush 8, 2, 0, 0, 0, 0), (23, .newarray .int, 2, 0, 0, 0, 0), (25, .putfield 18, 3, 0, 2, 0, 240), (28, .aload_n 0, 1, 0, 0, 0, 0), (29, .sipush 256, 3, 0, 0, 0, 0)],
  [(32, .newarray .int, 2, 0, 0, 0, 0), (34, .putfield 21, 3, 0, 3, 0, 242), (37, .aload_n 0, 1, 0, 0, 0, 0), (38, .sipush 256, 3, 0, 0, 0, 0), (41, .newarray .int, 2, 0, 0, 0, 0), (43, .putfield 24, 3, 0, 4, 0, 243), (46, .return_, 1, 0, 0, 0, 0)]]
def iv_k1 : List (List ivE) := [[(0, .iconst 0, 1, 0, 0, 0, 0), (1, .istore_n 1, 1, 0, 0, 0, 0), (2, .iconst 0, 1, 0, 0, 0, 0), (3, .istore_n 2, 1, 0, 0, 0, 0), (4, .iload_n 2, 1, 0, 0, 0, 0), (5, .bipush 6, 2, 0, 0, 0, 0), (7, .if_icmp .ge 18, 3, 0, 0, 0, 0), (10, .iload_n 1, 1, 0, 0, 0, 0), (11, .aload_n 0, 1, 0, 0, 0, 0), (12, .getfield 9, 3, 0, 0, 0, 236), (15, .iload_n 2, 1, 0, 0, 0, 0)],
  [(16, .iaload, 1, 0, 0, 0, 0), (17, .ior, 1, 0, 0, 0, 0), (18, .istore_n 1, 1, 0, 0, 0, 0), (19, .iinc 2 1, 3, 0, 0, 0, 0), (22, .goto (-18), 3, 0, 0, 0, 0), (25, .iload_n 1, 1, 0, 0, 0, 0), (26, .ireturn, 1, 0, 0, 0, 0)]]
def iv_k2 : List (List ivE) := [[(0, .aload_n 0, 1, 0, 0, 0, 0), (1, .getfield 21, 3, 0, 3, 0, 242), (4, .iconst 0, 1, 0, 0, 0, 0), (5, .iconst 0, 1, 0, 0, 0, 0), (6, .iastore, 1, 0, 0, 0, 0), (7, .aload_n 0, 1, 0, 0, 0, 0), (8, .getfield 24, 3, 0, 4, 0, 243), (11, .iconst 0, 1, 0, 0, 0, 0), (12, .iconst 0, 1, 0, 0, 0, 0), (13, .iastore, 1, 0, 0, 0, 0), (14, .iconst 1, 1, 0, 0, 0, 0), (15, .istore_n 2, 1, 0, 0, 0, 0)],
  [(16, .iload_n 2, 1, 0, 0, 0, 0), (17, .iload_n 1, 1, 0, 0, 0, 0), (18, .if_icmp .gt 37, 3, 0, 0, 0, 0), (21, .iload_n 2, 1, 0, 0, 0, 0), (22, .sipush 256, 3, 0, 0, 0, 0), (25, .if_icmp .ge 30, 3, 0, 0, 0, 0), (28, .iload_n 2, 1, 0, 0, 0, 0), (29, .iload_n 1, 1, 0, 0, 0, 0), (30, .iconst (-1), 1, 0, 0, 0, 0), (31, .ixor, 1, 0, 0, 0, 0)],
  [(32, .iand, 1, 0, 0, 0, 0), (33, .ifCond .ne 16, 3, 0, 0, 0, 0), (36, .aload_n 0, 1, 0, 0, 0, 0), (37, .getfield 21, 3, 0, 3, 0, 242), (40, .iload_n 2, 1, 0, 0, 0, 0), (41, .bipush (-9), 2, 0, 0, 0, 0), (43, .iastore, 1, 0, 0, 0, 0), (44, .aload_n 0, 1, 0, 0, 0, 0), (45, .iload_n 2, 1, 0, 0, 0, 0), (46, .invokevirtual 27, 3, 3, 2, 0, 574)],
  [(49, .iinc 2 1, 3, 0, 0, 0, 0), (52, .goto (-36), 3, 0, 0, 0, 0), (55, .return_, 1, 0, 0, 0, 0)]]
def iv_k3 : List (List ivE) := [[(0, .iconst 0, 1, 0, 0, 0, 0), (1, .istore_n 2, 1, 0, 0, 0, 0), (2, .iload_n 2, 1, 0, 0, 0, 0), (3, .bipush 8, 2, 0, 0, 0, 0), (5, .if_icmp .ge 38, 3, 0, 0, 0, 0), (8, .iload_n 1, 1, 0, 0, 0, 0), (9, .iload_n 2, 1, 0, 0, 0, 0), (10, .invokestatic 31, 3, 98, 2, 1, 578), (13, .ifCond .eq 24, 3, 0, 0, 0, 0)],
  [(16, .aload_n 0, 1, 0, 0, 0, 0), (17, .getfield 21, 3, 0, 3, 0, 242), (20, .iload_n 1, 1, 0, 0, 0, 0), (21, .iconst 1, 1, 0, 0, 0, 0), (22, .iload_n 2, 1, 0, 0, 0, 0), (23, .ishl, 1, 0, 0, 0, 0), (24, .ixor, 1, 0, 0, 0, 0), (25, .iaload, 1, 0, 0, 0, 0), (26, .bipush (-9), 2, 0, 0, 0, 0), (28, .if_icmp .eq 9, 3, 0, 0, 0, 0), (31, .aload_n 0, 1, 0, 0, 0, 0)],
  [(32, .iload_n 1, 1, 0, 0, 0, 0), (33, .iload_n 2, 1, 0, 0, 0, 0), (34, .invokevirtual 35, 3, 4, 3, 0, 579), (37, .iinc 2 1, 3, 0, 0, 0, 0), (40, .goto (-38), 3, 0, 0, 0, 0), (43, .return_, 1, 0, 0, 0, 0)]]
def iv_k4 : List (List ivE) := [[(0, .iload_n 1, 1, 0, 0, 0, 0), (1, .iconst 1, 1, 0, 0, 0, 0), (2, .iload_n 2, 1, 0, 0, 0, 0), (3, .ishl, 1, 0, 0, 0, 0), (4, .ixor, 1, 0, 0, 0, 0), (5, .istore_n 3, 1, 0, 0, 0, 0), (6, .aload_n 0, 1, 0, 0, 0, 0), (7, .getfield 21, 3, 0, 3, 0, 242), (10, .iload_n 3, 1, 0, 0, 0, 0), (11, .iaload, 1, 0, 0, 0, 0), (12, .istore 4, 2, 0, 0, 0, 0), (14, .aload_n 0, 1, 0, 0, 0, 0), (15, .getfield 24, 3, 0, 4, 0, 243)],
  [(18, .iload_n 3, 1, 0, 0, 0, 0), (19, .iaload, 1, 0, 0, 0, 0), (20, .aload_n 0, 1, 0, 0, 0, 0), (21, .getfield 18, 3, 0, 2, 0, 240), (24, .iload_n 2, 1, 0, 0, 0, 0), (25, .iaload, 1, 0, 0, 0, 0), (26, .iadd, 1, 0, 0, 0, 0), (27, .istore 5, 2, 0, 0, 0, 0), (29, .iload 4, 2, 0, 0, 0, 0), (31, .ifCond .le 25, 3, 0, 0, 0, 0)],
  [(34, .aload_n 0, 1, 0, 0, 0, 0), (35, .iload 4, 2, 0, 0, 0, 0), (37, .iload_n 2, 1, 0, 0, 0, 0), (38, .iload 5, 2, 0, 0, 0, 0), (40, .invokevirtual 39, 3, 6, 4, 0, 583), (43, .ifCond .eq 13, 3, 0, 0, 0, 0), (46, .aload_n 0, 1, 0, 0, 0, 0), (47, .iload_n 1, 1, 0, 0, 0, 0)],
  [(48, .iload 4, 2, 0, 0, 0, 0), (50, .iload 5, 2, 0, 0, 0, 0), (52, .invokevirtual 43, 3, 5, 4, 0, 587), (55, .return_, 1, 0, 0, 0, 0), (56, .iload 4, 2, 0, 0, 0, 0), (58, .iconst 1, 1, 0, 0, 0, 0), (59, .iadd, 1, 0, 0, 0, 0), (60, .istore 6, 2, 0, 0, 0, 0), (62, .iload 6, 2, 0, 0, 0, 0)],
  [(64, .iload 4, 2, 0, 0, 0, 0), (66, .bipush 6, 2, 0, 0, 0, 0), (68, .iadd, 1, 0, 0, 0, 0), (69, .if_icmp .gt 39, 3, 0, 0, 0, 0), (72, .aload_n 0, 1, 0, 0, 0, 0), (73, .iload 6, 2, 0, 0, 0, 0), (75, .iload_n 2, 1, 0, 0, 0, 0), (76, .aload_n 0, 1, 0, 0, 0, 0), (77, .getfield 18, 3, 0, 2, 0, 240)],
  [(80, .iload_n 2, 1, 0, 0, 0, 0), (81, .iaload, 1, 0, 0, 0, 0), (82, .invokevirtual 39, 3, 6, 4, 0, 583), (85, .ifCond .eq 17, 3, 0, 0, 0, 0), (88, .aload_n 0, 1, 0, 0, 0, 0), (89, .iload_n 1, 1, 0, 0, 0, 0), (90, .iload 6, 2, 0, 0, 0, 0), (92, .aload_n 0, 1, 0, 0, 0, 0), (93, .getfield 18, 3, 0, 2, 0, 240)],
  [(96, .iload_n 2, 1, 0, 0, 0, 0), (97, .iaload, 1, 0, 0, 0, 0), (98, .invokevirtual 43, 3, 5, 4, 0, 587), (101, .return_, 1, 0, 0, 0, 0), (102, .iinc 6 1, 3, 0, 0, 0, 0), (105, .goto (-43), 3, 0, 0, 0, 0), (108, .return_, 1, 0, 0, 0, 0)]]
def iv_k5 : List (List ivE) := [[(0, .aload_n 0, 1, 0, 0, 0, 0), (1, .getfield 21, 3, 0, 3, 0, 242), (4, .iload_n 1, 1, 0, 0, 0, 0), (5, .iaload, 1, 0, 0, 0, 0), (6, .bipush (-9), 2, 0, 0, 0, 0), (8, .if_icmp .eq 33, 3, 0, 0, 0, 0), (11, .iload_n 2, 1, 0, 0, 0, 0), (12, .aload_n 0, 1, 0, 0, 0, 0), (13, .getfield 21, 3, 0, 3, 0, 242)],
  [(16, .iload_n 1, 1, 0, 0, 0, 0), (17, .iaload, 1, 0, 0, 0, 0), (18, .if_icmp .lt 23, 3, 0, 0, 0, 0), (21, .iload_n 2, 1, 0, 0, 0, 0), (22, .aload_n 0, 1, 0, 0, 0, 0), (23, .getfield 21, 3, 0, 3, 0, 242), (26, .iload_n 1, 1, 0, 0, 0, 0), (27, .iaload, 1, 0, 0, 0, 0), (28, .if_icmp .ne 27, 3, 0, 0, 0, 0), (31, .iload_n 3, 1, 0, 0, 0, 0)],
  [(32, .aload_n 0, 1, 0, 0, 0, 0), (33, .getfield 24, 3, 0, 4, 0, 243), (36, .iload_n 1, 1, 0, 0, 0, 0), (37, .iaload, 1, 0, 0, 0, 0), (38, .if_icmp .ge 17, 3, 0, 0, 0, 0), (41, .aload_n 0, 1, 0, 0, 0, 0), (42, .getfield 21, 3, 0, 3, 0, 242), (45, .iload_n 1, 1, 0, 0, 0, 0), (46, .iload_n 2, 1, 0, 0, 0, 0), (47, .iastore, 1, 0, 0, 0, 0)],
  [(48, .aload_n 0, 1, 0, 0, 0, 0), (49, .getfield 24, 3, 0, 4, 0, 243), (52, .iload_n 1, 1, 0, 0, 0, 0), (53, .iload_n 3, 1, 0, 0, 0, 0), (54, .iastore, 1, 0, 0, 0, 0), (55, .return_, 1, 0, 0, 0, 0)]]
def iv_k6 : List (List ivE) := [[(0, .iconst 5, 1, 0, 0, 0, 0), (1, .iload_n 1, 1, 0, 0, 0, 0), (2, .iconst 1, 1, 0, 0, 0, 0), (3, .isub, 1, 0, 0, 0, 0), (4, .bipush 6, 2, 0, 0, 0, 0), (6, .irem, 1, 0, 0, 0, 0), (7, .isub, 1, 0, 0, 0, 0), (8, .istore 4, 2, 0, 0, 0, 0), (10, .iload 4, 2, 0, 0, 0, 0), (12, .ifCond .lt 39, 3, 0, 0, 0, 0), (15, .iload 4, 2, 0, 0, 0, 0)],
  [(17, .bipush 6, 2, 0, 0, 0, 0), (19, .if_icmp .ge 32, 3, 0, 0, 0, 0), (22, .aload_n 0, 1, 0, 0, 0, 0), (23, .getfield 9, 3, 0, 0, 0, 236), (26, .iload 4, 2, 0, 0, 0, 0), (28, .iaload, 1, 0, 0, 0, 0), (29, .iload_n 2, 1, 0, 0, 0, 0), (30, .invokestatic 31, 3, 98, 2, 1, 578)],
  [(33, .ifCond .eq 18, 3, 0, 0, 0, 0), (36, .iload_n 3, 1, 0, 0, 0, 0), (37, .aload_n 0, 1, 0, 0, 0, 0), (38, .getfield 15, 3, 0, 1, 0, 238), (41, .iload 4, 2, 0, 0, 0, 0), (43, .iaload, 1, 0, 0, 0, 0), (44, .if_icmp .gt 7, 3, 0, 0, 0, 0), (47, .iconst 1, 1, 0, 0, 0, 0)],
  [(48, .goto 4, 3, 0, 0, 0, 0), (51, .iconst 0, 1, 0, 0, 0, 0), (52, .ireturn, 1, 0, 0, 0, 0)]]
def iv_k7 : List (List ivE) := [[(0, .iload_n 1, 1, 0, 0, 0, 0), (1, .ifCond .lt 21, 3, 0, 0, 0, 0), (4, .iload_n 1, 1, 0, 0, 0, 0), (5, .sipush 256, 3, 0, 0, 0, 0), (8, .if_icmp .ge 14, 3, 0, 0, 0, 0), (11, .aload_n 0, 1, 0, 0, 0, 0), (12, .getfield 21, 3, 0, 3, 0, 242), (15, .iload_n 1, 1, 0, 0, 0, 0)],
  [(16, .iaload, 1, 0, 0, 0, 0), (17, .bipush (-9), 2, 0, 0, 0, 0), (19, .if_icmp .ne 6, 3, 0, 0, 0, 0), (22, .bipush (-9), 2, 0, 0, 0, 0), (24, .ireturn, 1, 0, 0, 0, 0), (25, .aload_n 0, 1, 0, 0, 0, 0), (26, .getfield 21, 3, 0, 3, 0, 242), (29, .iload_n 1, 1, 0, 0, 0, 0), (30, .iaload, 1, 0, 0, 0, 0), (31, .bipush 6, 2, 0, 0, 0, 0)],
  [(33, .iadd, 1, 0, 0, 0, 0), (34, .iconst 1, 1, 0, 0, 0, 0), (35, .isub, 1, 0, 0, 0, 0), (36, .bipush 6, 2, 0, 0, 0, 0), (38, .idiv, 1, 0, 0, 0, 0), (39, .ireturn, 1, 0, 0, 0, 0)]]
def iv_k8 : List (List ivE) := [[(0, .iload_n 2, 1, 0, 0, 0, 0), (1, .istore_n 3, 1, 0, 0, 0, 0), (2, .iconst 0, 1, 0, 0, 0, 0), (3, .istore 4, 2, 0, 0, 0, 0), (5, .iconst 0, 1, 0, 0, 0, 0), (6, .istore 5, 2, 0, 0, 0, 0), (8, .iload 5, 2, 0, 0, 0, 0), (10, .iload_n 1, 1, 0, 0, 0, 0), (11, .if_icmp .gt 25, 3, 0, 0, 0, 0), (14, .aload_n 0, 1, 0, 0, 0, 0), (15, .iload 5, 2, 0, 0, 0, 0)],
  [(17, .iload_n 3, 1, 0, 0, 0, 0), (18, .invokevirtual 47, 3, 9, 3, 0, 599), (21, .istore 4, 2, 0, 0, 0, 0), (23, .iload_n 3, 1, 0, 0, 0, 0), (24, .iload 4, 2, 0, 0, 0, 0), (26, .iconst (-1), 1, 0, 0, 0, 0), (27, .ixor, 1, 0, 0, 0, 0), (28, .iand, 1, 0, 0, 0, 0), (29, .istore_n 3, 1, 0, 0, 0, 0), (30, .iinc 5 1, 3, 0, 0, 0, 0)],
  [(33, .goto (-25), 3, 0, 0, 0, 0), (36, .iload 4, 2, 0, 0, 0, 0), (38, .ireturn, 1, 0, 0, 0, 0)]]
def iv_k9 : List (List ivE) := [[(0, .iconst 5, 1, 0, 0, 0, 0), (1, .iload_n 1, 1, 0, 0, 0, 0), (2, .isub, 1, 0, 0, 0, 0), (3, .istore_n 3, 1, 0, 0, 0, 0), (4, .iconst 0, 1, 0, 0, 0, 0), (5, .istore 4, 2, 0, 0, 0, 0), (7, .iload 4, 2, 0, 0, 0, 0), (9, .iload_n 2, 1, 0, 0, 0, 0), (10, .if_icmp .gt 65, 3, 0, 0, 0, 0), (13, .iload_n 2, 1, 0, 0, 0, 0), (14, .sipush 256, 3, 0, 0, 0, 0)],
  [(17, .if_icmp .ge 58, 3, 0, 0, 0, 0), (20, .iload 4, 2, 0, 0, 0, 0), (22, .iload_n 2, 1, 0, 0, 0, 0), (23, .iconst (-1), 1, 0, 0, 0, 0), (24, .ixor, 1, 0, 0, 0, 0), (25, .iand, 1, 0, 0, 0, 0), (26, .ifCond .ne 43, 3, 0, 0, 0, 0), (29, .aload_n 0, 1, 0, 0, 0, 0), (30, .getfield 21, 3, 0, 3, 0, 242)],
  [(33, .iload_n 2, 1, 0, 0, 0, 0), (34, .iload 4, 2, 0, 0, 0, 0), (36, .ixor, 1, 0, 0, 0, 0), (37, .iaload, 1, 0, 0, 0, 0), (38, .bipush (-9), 2, 0, 0, 0, 0), (40, .if_icmp .eq 29, 3, 0, 0, 0, 0), (43, .aload_n 0, 1, 0, 0, 0, 0), (44, .getfield 21, 3, 0, 3, 0, 242), (47, .iload_n 2, 1, 0, 0, 0, 0)],
  [(48, .iload 4, 2, 0, 0, 0, 0), (50, .ixor, 1, 0, 0, 0, 0), (51, .iaload, 1, 0, 0, 0, 0), (52, .iload_n 3, 1, 0, 0, 0, 0), (53, .if_icmp .gt 16, 3, 0, 0, 0, 0), (56, .aload_n 0, 1, 0, 0, 0, 0), (57, .iload_n 1, 1, 0, 0, 0, 0), (58, .iload 4, 2, 0, 0, 0, 0), (60, .invokevirtual 51, 3, 10, 3, 0, 603), (63, .ifCond .eq 6, 3, 0, 0, 0, 0)],
  [(66, .iload 4, 2, 0, 0, 0, 0), (68, .ireturn, 1, 0, 0, 0, 0), (69, .iinc 4 1, 3, 0, 0, 0, 0), (72, .goto (-65), 3, 0, 0, 0, 0), (75, .iconst 0, 1, 0, 0, 0, 0), (76, .ireturn, 1, 0, 0, 0, 0)]]
def iv_k10 : List (List ivE) := [[(0, .iload_n 1, 1, 0, 0, 0, 0), (1, .ifCond .lt 22, 3, 0, 0, 0, 0), (4, .iload_n 1, 1, 0, 0, 0, 0), (5, .bipush 6, 2, 0, 0, 0, 0), (7, .if_icmp .ge 16, 3, 0, 0, 0, 0), (10, .iload_n 2, 1, 0, 0, 0, 0), (11, .aload_n 0, 1, 0, 0, 0, 0), (12, .getfield 9, 3, 0, 0, 0, 236), (15, .iload_n 1, 1, 0, 0, 0, 0)],
  [(16, .iaload, 1, 0, 0, 0, 0), (17, .iconst (-1), 1, 0, 0, 0, 0), (18, .ixor, 1, 0, 0, 0, 0), (19, .iand, 1, 0, 0, 0, 0), (20, .ifCond .eq 5, 3, 0, 0, 0, 0), (23, .iconst 0, 1, 0, 0, 0, 0), (24, .ireturn, 1, 0, 0, 0, 0), (25, .iconst 0, 1, 0, 0, 0, 0), (26, .istore_n 3, 1, 0, 0, 0, 0), (27, .iconst 0, 1, 0, 0, 0, 0), (28, .istore 4, 2, 0, 0, 0, 0), (30, .iload 4, 2, 0, 0, 0, 0)],
  [(32, .bipush 8, 2, 0, 0, 0, 0), (34, .if_icmp .ge 28, 3, 0, 0, 0, 0), (37, .iload_n 2, 1, 0, 0, 0, 0), (38, .iload 4, 2, 0, 0, 0, 0), (40, .invokestatic 31, 3, 98, 2, 1, 578), (43, .ifCond .eq 13, 3, 0, 0, 0, 0), (46, .iload_n 3, 1, 0, 0, 0, 0), (47, .aload_n 0, 1, 0, 0, 0, 0)],
  [(48, .getfield 18, 3, 0, 2, 0, 240), (51, .iload 4, 2, 0, 0, 0, 0), (53, .iaload, 1, 0, 0, 0, 0), (54, .iadd, 1, 0, 0, 0, 0), (55, .istore_n 3, 1, 0, 0, 0, 0), (56, .iinc 4 1, 3, 0, 0, 0, 0), (59, .goto (-29), 3, 0, 0, 0, 0), (62, .iload_n 3, 1, 0, 0, 0, 0), (63, .aload_n 0, 1, 0, 0, 0, 0)],
  [(64, .getfield 15, 3, 0, 1, 0, 238), (67, .iload_n 1, 1, 0, 0, 0, 0), (68, .iaload, 1, 0, 0, 0, 0), (69, .if_icmp .gt 7, 3, 0, 0, 0, 0), (72, .iconst 1, 1, 0, 0, 0, 0), (73, .goto 4, 3, 0, 0, 0, 0), (76, .iconst 0, 1, 0, 0, 0, 0), (77, .ireturn, 1, 0, 0, 0, 0)]]
def iv_k11 : List (List ivE) := [[(0, .aload_n 0, 1, 0, 0, 0, 0), (1, .invokespecial 3, 3, 1000, 0, 0, 148), (4, .aload_n 0, 1, 0, 0, 0, 0), (5, .bipush 6, 2, 0, 0, 0, 0), (7, .newarray .int, 2, 0, 0, 0, 0), (9, .putfield 9, 3, 1, 0, 0, 149), (12, .return_, 1, 0, 0, 0, 0)]]
def iv_k12 : List (List ivE) := [[(0, .aload_n 0, 1, 0, 0, 0, 0), (1, .aload_n 1, 1, 0, 0, 0, 0), (2, .getfield 15, 3, 6, 3, 0, 109), (5, .putfield 21, 3, 1, 1, 0, 151), (8, .aload_n 0, 1, 0, 0, 0, 0), (9, .aload_n 1, 1, 0, 0, 0, 0), (10, .getfield 22, 3, 6, 4, 0, 111), (13, .putfield 25, 3, 1, 2, 0, 153)],
  [(16, .aload_n 0, 1, 0, 0, 0, 0), (17, .aload_n 1, 1, 0, 0, 0, 0), (18, .getfield 26, 3, 6, 5, 0, 114), (21, .putfield 29, 3, 1, 3, 0, 155), (24, .iconst 0, 1, 0, 0, 0, 0), (25, .istore_n 2, 1, 0, 0, 0, 0), (26, .iload_n 2, 1, 0, 0, 0, 0), (27, .bipush 6, 2, 0, 0, 0, 0), (29, .if_icmp .ge 33, 3, 0, 0, 0, 0)],
  [(32, .aload_n 0, 1, 0, 0, 0, 0), (33, .getfield 9, 3, 1, 0, 0, 149), (36, .iload_n 2, 1, 0, 0, 0, 0), (37, .iload_n 2, 1, 0, 0, 0, 0), (38, .aload_n 0, 1, 0, 0, 0, 0), (39, .getfield 29, 3, 1, 3, 0, 155), (42, .if_icmp .ge 12, 3, 0, 0, 0, 0), (45, .aload_n 1, 1, 0, 0, 0, 0), (46, .getfield 30, 3, 6, 2, 0, 107)],
  [(49, .iload_n 2, 1, 0, 0, 0, 0), (50, .iaload, 1, 0, 0, 0, 0), (51, .goto 4, 3, 0, 0, 0, 0), (54, .iconst 0, 1, 0, 0, 0, 0), (55, .iastore, 1, 0, 0, 0, 0), (56, .iinc 2 1, 3, 0, 0, 0, 0), (59, .goto (-33), 3, 0, 0, 0, 0), (62, .return_, 1, 0, 0, 0, 0)]]
def iv_k13 : List (List ivE) := [[(0, .iload_n 1, 1, 0, 0, 0, 0), (1, .ifCond .lt 21, 3, 0, 0, 0, 0), (4, .iload_n 1, 1, 0, 0, 0, 0), (5, .aload_n 0, 1, 0, 0, 0, 0), (6, .getfield 25, 3, 1, 2, 0, 153), (9, .if_icmp .ge 13, 3, 0, 0, 0, 0), (12, .iload_n 1, 1, 0, 0, 0, 0), (13, .bipush 8, 2, 0, 0, 0, 0), (15, .if_icmp .ge 7, 3, 0, 0, 0, 0)],
  [(18, .iconst 1, 1, 0, 0, 0, 0), (19, .goto 4, 3, 0, 0, 0, 0), (22, .iconst 0, 1, 0, 0, 0, 0), (23, .ireturn, 1, 0, 0, 0, 0)]]
def iv_k14 : List (List ivE) := [[(0, .iload_n 1, 1, 0, 0, 0, 0), (1, .ifCond .lt 21, 3, 0, 0, 0, 0), (4, .iload_n 1, 1, 0, 0, 0, 0), (5, .aload_n 0, 1, 0, 0, 0, 0), (6, .getfield 29, 3, 1, 3, 0, 155), (9, .if_icmp .ge 13, 3, 0, 0, 0, 0), (12, .iload_n 1, 1, 0, 0, 0, 0), (13, .bipush 6, 2, 0, 0, 0, 0), (15, .if_icmp .ge 7, 3, 0, 0, 0, 0)],
  [(18, .iconst 1, 1, 0, 0, 0, 0), (19, .goto 4, 3, 0, 0, 0, 0), (22, .iconst 0, 1, 0, 0, 0, 0), (23, .ireturn, 1, 0, 0, 0, 0)]]
def iv_k15 : List (List ivE) := [[(0, .iload_n 1, 1, 0, 0, 0, 0), (1, .ifCond .lt 17, 3, 0, 0, 0, 0), (4, .iload_n 1, 1, 0, 0, 0, 0), (5, .iconst 1, 1, 0, 0, 0, 0), (6, .aload_n 0, 1, 0, 0, 0, 0), (7, .getfield 25, 3, 1, 2, 0, 153), (10, .ishl, 1, 0, 0, 0, 0), (11, .if_icmp .ge 7, 3, 0, 0, 0, 0), (14, .iconst 1, 1, 0, 0, 0, 0), (15, .goto 4, 3, 0, 0, 0, 0)],
  [(18, .iconst 0, 1, 0, 0, 0, 0), (19, .ireturn, 1, 0, 0, 0, 0)]]
def iv_k16 : List (List ivE) := [[(0, .iload_n 1, 1, 0, 0, 0, 0), (1, .ifCond .lt 17, 3, 0, 0, 0, 0), (4, .iload_n 1, 1, 0, 0, 0, 0), (5, .iconst 1, 1, 0, 0, 0, 0), (6, .aload_n 0, 1, 0, 0, 0, 0), (7, .getfield 29, 3, 1, 3, 0, 155), (10, .ishl, 1, 0, 0, 0, 0), (11, .if_icmp .ge 7, 3, 0, 0, 0, 0), (14, .iconst 1, 1, 0, 0, 0, 0), (15, .goto 4, 3, 0, 0, 0, 0)],
  [(18, .iconst 0, 1, 0, 0, 0, 0), (19, .ireturn, 1, 0, 0, 0, 0)]]
def iv_k17 : List (List ivE) := [[(0, .aload_n 0, 1, 0, 0, 0, 0), (1, .invokespecial 3, 3, 1000, 0, 0, 171), (4, .aload_n 0, 1, 0, 0, 0, 0), (5, .bipush 8, 2, 0, 0, 0, 0), (7, .newarray .int, 2, 0, 0, 0, 0), (9, .putfield 9, 3, 2, 0, 0, 172), (12, .aload_n 0, 1, 0, 0, 0, 0), (13, .bipush 8, 2, 0, 0, 0, 0), (15, .newarray .int, 2, 0, 0, 0, 0)],
  [(17, .putfield 15, 3, 2, 1, 0, 174), (20, .aload_n 0, 1, 0, 0, 0, 0), (21, .bipush 8, 2, 0, 0, 0, 0), (23, .newarray .int, 2, 0, 0, 0, 0), (25, .putfield 18, 3, 2, 2, 0, 176), (28, .return_, 1, 0, 0, 0, 0)]]
def iv_k18 : List (List ivE) := [[(0, .aload_n 0, 1, 0, 0, 0, 0), (1, .iconst 0, 1, 0, 0, 0, 0), (2, .putfield 21, 3, 2, 3, 0, 178), (5, .iconst 0, 1, 0, 0, 0, 0), (6, .istore_n 2, 1, 0, 0, 0, 0), (7, .iload_n 2, 1, 0, 0, 0, 0), (8, .bipush 8, 2, 0, 0, 0, 0), (10, .if_icmp .ge 70, 3, 0, 0, 0, 0), (13, .iload_n 2, 1, 0, 0, 0, 0), (14, .aload_n 1, 1, 0, 0, 0, 0), (15, .getfield 25, 3, 6, 4, 0, 112)],
  [(18, .if_icmp .ge 7, 3, 0, 0, 0, 0), (21, .iconst 1, 1, 0, 0, 0, 0), (22, .goto 4, 3, 0, 0, 0, 0), (25, .iconst 0, 1, 0, 0, 0, 0), (26, .istore_n 3, 1, 0, 0, 0, 0), (27, .aload_n 0, 1, 0, 0, 0, 0), (28, .getfield 9, 3, 2, 0, 0, 172), (31, .iload_n 2, 1, 0, 0, 0, 0)],
  [(32, .iload_n 3, 1, 0, 0, 0, 0), (33, .ifCond .eq 12, 3, 0, 0, 0, 0), (36, .aload_n 1, 1, 0, 0, 0, 0), (37, .getfield 30, 3, 6, 0, 0, 103), (40, .iload_n 2, 1, 0, 0, 0, 0), (41, .iaload, 1, 0, 0, 0, 0), (42, .goto 4, 3, 0, 0, 0, 0), (45, .iconst 0, 1, 0, 0, 0, 0), (46, .iastore, 1, 0, 0, 0, 0), (47, .aload_n 0, 1, 0, 0, 0, 0)],
  [(48, .getfield 15, 3, 2, 1, 0, 174), (51, .iload_n 2, 1, 0, 0, 0, 0), (52, .iconst 0, 1, 0, 0, 0, 0), (53, .iastore, 1, 0, 0, 0, 0), (54, .aload_n 0, 1, 0, 0, 0, 0), (55, .getfield 18, 3, 2, 2, 0, 176), (58, .iload_n 2, 1, 0, 0, 0, 0), (59, .iload_n 3, 1, 0, 0, 0, 0), (60, .ifCond .eq 12, 3, 0, 0, 0, 0), (63, .aload_n 1, 1, 0, 0, 0, 0)],
  [(64, .getfield 31, 3, 6, 1, 0, 105), (67, .iload_n 2, 1, 0, 0, 0, 0), (68, .iaload, 1, 0, 0, 0, 0), (69, .goto 4, 3, 0, 0, 0, 0), (72, .iconst 0, 1, 0, 0, 0, 0), (73, .iastore, 1, 0, 0, 0, 0), (74, .iinc 2 1, 3, 0, 0, 0, 0), (77, .goto (-70), 3, 0, 0, 0, 0)],
  [(80, .return_, 1, 0, 0, 0, 0)]]
def iv_k19 : List (List ivE) := [[(0, .aload_n 0, 1, 0, 0, 0, 0), (1, .aload_n 1, 1, 0, 0, 0, 0), (2, .getfield 21, 3, 2, 3, 0, 178), (5, .putfield 21, 3, 2, 3, 0, 178), (8, .iconst 0, 1, 0, 0, 0, 0), (9, .istore_n 2, 1, 0, 0, 0, 0), (10, .iload_n 2, 1, 0, 0, 0, 0), (11, .bipush 8, 2, 0, 0, 0, 0), (13, .if_icmp .ge 45, 3, 0, 0, 0, 0)],
  [(16, .aload_n 0, 1, 0, 0, 0, 0), (17, .getfield 9, 3, 2, 0, 0, 172), (20, .iload_n 2, 1, 0, 0, 0, 0), (21, .aload_n 1, 1, 0, 0, 0, 0), (22, .getfield 9, 3, 2, 0, 0, 172), (25, .iload_n 2, 1, 0, 0, 0, 0), (26, .iaload, 1, 0, 0, 0, 0), (27, .iastore, 1, 0, 0, 0, 0), (28, .aload_n 0, 1, 0, 0, 0, 0), (29, .getfield 15, 3, 2, 1, 0, 174)],
  [(32, .iload_n 2, 1, 0, 0, 0, 0), (33, .aload_n 1, 1, 0, 0, 0, 0), (34, .getfield 15, 3, 2, 1, 0, 174), (37, .iload_n 2, 1, 0, 0, 0, 0), (38, .iaload, 1, 0, 0, 0, 0), (39, .iastore, 1, 0, 0, 0, 0), (40, .aload_n 0, 1, 0, 0, 0, 0), (41, .getfield 18, 3, 2, 2, 0, 176), (44, .iload_n 2, 1, 0, 0, 0, 0), (45, .aload_n 1, 1, 0, 0, 0, 0), (46, .getfield 18, 3, 2, 2, 0, 176)],
  [(49, .iload_n 2, 1, 0, 0, 0, 0), (50, .iaload, 1, 0, 0, 0, 0), (51, .iastore, 1, 0, 0, 0, 0), (52, .iinc 2 1, 3, 0, 0, 0, 0), (55, .goto (-45), 3, 0, 0, 0, 0), (58, .return_, 1, 0, 0, 0, 0)]]
def iv_k20 : List (List ivE) := [[(0, .iload_n 1, 1, 0, 0, 0, 0), (1, .ifCond .lt 38, 3, 0, 0, 0, 0), (4, .iload_n 1, 1, 0, 0, 0, 0), (5, .bipush 8, 2, 0, 0, 0, 0), (7, .if_icmp .ge 32, 3, 0, 0, 0, 0), (10, .aload_n 0, 1, 0, 0, 0, 0), (11, .getfield 9, 3, 2, 0, 0, 172), (14, .iload_n 1, 1, 0, 0, 0, 0), (15, .iaload, 1, 0, 0, 0, 0)],
  [(16, .ifCond .eq 23, 3, 0, 0, 0, 0), (19, .aload_n 0, 1, 0, 0, 0, 0), (20, .getfield 21, 3, 2, 3, 0, 178), (23, .aload_n 0, 1, 0, 0, 0, 0), (24, .getfield 15, 3, 2, 1, 0, 174), (27, .iload_n 1, 1, 0, 0, 0, 0), (28, .iaload, 1, 0, 0, 0, 0), (29, .isub, 1, 0, 0, 0, 0), (30, .bipush 9, 2, 0, 0, 0, 0)],
  [(32, .if_icmp .gt 7, 3, 0, 0, 0, 0), (35, .iconst 1, 1, 0, 0, 0, 0), (36, .goto 4, 3, 0, 0, 0, 0), (39, .iconst 0, 1, 0, 0, 0, 0), (40, .ireturn, 1, 0, 0, 0, 0)]]
def iv_k21 : List (List ivE) := [[(0, .iconst 0, 1, 0, 0, 0, 0), (1, .istore_n 1, 1, 0, 0, 0, 0), (2, .iconst 0, 1, 0, 0, 0, 0), (3, .istore_n 2, 1, 0, 0, 0, 0), (4, .iload_n 2, 1, 0, 0, 0, 0), (5, .bipush 8, 2, 0, 0, 0, 0), (7, .if_icmp .ge 23, 3, 0, 0, 0, 0), (10, .aload_n 0, 1, 0, 0, 0, 0), (11, .iload_n 2, 1, 0, 0, 0, 0), (12, .invokevirtual 32, 3, 20, 2, 0, 442), (15, .ifCond .eq 9, 3, 0, 0, 0, 0)],
  [(18, .iload_n 1, 1, 0, 0, 0, 0), (19, .iconst 1, 1, 0, 0, 0, 0), (20, .iload_n 2, 1, 0, 0, 0, 0), (21, .ishl, 1, 0, 0, 0, 0), (22, .ior, 1, 0, 0, 0, 0), (23, .istore_n 1, 1, 0, 0, 0, 0), (24, .iinc 2 1, 3, 0, 0, 0, 0), (27, .goto (-23), 3, 0, 0, 0, 0), (30, .iload_n 1, 1, 0, 0, 0, 0), (31, .ireturn, 1, 0, 0, 0, 0)]]
def iv_k22 : List (List ivE) := [[(0, .aload_n 0, 1, 0, 0, 0, 0), (1, .invokevirtual 36, 3, 21, 1, 0, 464), (4, .istore_n 2, 1, 0, 0, 0, 0), (5, .aload_n 0, 1, 0, 0, 0, 0), (6, .dup, 1, 0, 0, 0, 0), (7, .getfield 21, 3, 2, 3, 0, 178), (10, .iload_n 1, 1, 0, 0, 0, 0), (11, .iadd, 1, 0, 0, 0, 0), (12, .putfield 21, 3, 2, 3, 0, 178), (15, .iload_n 2, 1, 0, 0, 0, 0)],
  [(16, .aload_n 0, 1, 0, 0, 0, 0), (17, .invokevirtual 36, 3, 21, 1, 0, 464), (20, .iconst (-1), 1, 0, 0, 0, 0), (21, .ixor, 1, 0, 0, 0, 0), (22, .iand, 1, 0, 0, 0, 0), (23, .istore_n 3, 1, 0, 0, 0, 0), (24, .iconst 0, 1, 0, 0, 0, 0), (25, .istore 4, 2, 0, 0, 0, 0), (27, .iload 4, 2, 0, 0, 0, 0), (29, .bipush 8, 2, 0, 0, 0, 0), (31, .if_icmp .ge 26, 3, 0, 0, 0, 0)],
  [(34, .iload_n 3, 1, 0, 0, 0, 0), (35, .iload 4, 2, 0, 0, 0, 0), (37, .invokestatic 40, 3, 98, 2, 1, 465), (40, .ifCond .eq 11, 3, 0, 0, 0, 0), (43, .aload_n 0, 1, 0, 0, 0, 0), (44, .getfield 18, 3, 2, 2, 0, 176), (47, .iload 4, 2, 0, 0, 0, 0)],
  [(49, .iconst 0, 1, 0, 0, 0, 0), (50, .iastore, 1, 0, 0, 0, 0), (51, .iinc 4 1, 3, 0, 0, 0, 0), (54, .goto (-27), 3, 0, 0, 0, 0), (57, .iload_n 3, 1, 0, 0, 0, 0), (58, .ireturn, 1, 0, 0, 0, 0)]]
def iv_k23 : List (List ivE) := [[(0, .iconst 0, 1, 0, 0, 0, 0), (1, .istore_n 3, 1, 0, 0, 0, 0), (2, .iconst 0, 1, 0, 0, 0, 0), (3, .istore 4, 2, 0, 0, 0, 0), (5, .iload 4, 2, 0, 0, 0, 0), (7, .bipush 8, 2, 0, 0, 0, 0), (9, .if_icmp .ge 55, 3, 0, 0, 0, 0), (12, .aload_n 0, 1, 0, 0, 0, 0), (13, .getfield 21, 3, 2, 3, 0, 178)],
  [(16, .iload_n 2, 1, 0, 0, 0, 0), (17, .iadd, 1, 0, 0, 0, 0), (18, .aload_n 0, 1, 0, 0, 0, 0), (19, .getfield 15, 3, 2, 1, 0, 174), (22, .iload 4, 2, 0, 0, 0, 0), (24, .iaload, 1, 0, 0, 0, 0), (25, .isub, 1, 0, 0, 0, 0), (26, .bipush 9, 2, 0, 0, 0, 0), (28, .isub, 1, 0, 0, 0, 0), (29, .istore 5, 2, 0, 0, 0, 0), (31, .iload_n 1, 1, 0, 0, 0, 0)],
  [(32, .iload 4, 2, 0, 0, 0, 0), (34, .invokestatic 40, 3, 98, 2, 1, 465), (37, .ifCond .eq 21, 3, 0, 0, 0, 0), (40, .iload 5, 2, 0, 0, 0, 0), (42, .ifCond .le 16, 3, 0, 0, 0, 0), (45, .iload_n 3, 1, 0, 0, 0, 0), (46, .iload 5, 2, 0, 0, 0, 0)],
  [(48, .bipush 9, 2, 0, 0, 0, 0), (50, .iadd, 1, 0, 0, 0, 0), (51, .iconst 1, 1, 0, 0, 0, 0), (52, .isub, 1, 0, 0, 0, 0), (53, .bipush 9, 2, 0, 0, 0, 0), (55, .idiv, 1, 0, 0, 0, 0), (56, .iadd, 1, 0, 0, 0, 0), (57, .istore_n 3, 1, 0, 0, 0, 0), (58, .iinc 4 1, 3, 0, 0, 0, 0), (61, .goto (-56), 3, 0, 0, 0, 0)],
  [(64, .iload_n 3, 1, 0, 0, 0, 0), (65, .ireturn, 1, 0, 0, 0, 0)]]
def iv_k24 : List (List ivE) := [[(0, .iload_n 1, 1, 0, 0, 0, 0), (1, .ifCond .lt 8, 3, 0, 0, 0, 0), (4, .iload_n 1, 1, 0, 0, 0, 0), (5, .iconst 5, 1, 0, 0, 0, 0), (6, .if_icmp .lt 6, 3, 0, 0, 0, 0), (9, .bipush (-9), 2, 0, 0, 0, 0), (11, .ireturn, 1, 0, 0, 0, 0), (12, .iload_n 0, 1, 0, 0, 0, 0), (13, .iconst 3, 1, 0, 0, 0, 0), (14, .iload_n 1, 1, 0, 0, 0, 0), (15, .imul, 1, 0, 0, 0, 0)],
  [(16, .ishr, 1, 0, 0, 0, 0), (17, .bipush 7, 2, 0, 0, 0, 0), (19, .iand, 1, 0, 0, 0, 0), (20, .istore_n 2, 1, 0, 0, 0, 0), (21, .iload_n 2, 1, 0, 0, 0, 0), (22, .ifCond .ne 8, 3, 0, 0, 0, 0), (25, .bipush (-9), 2, 0, 0, 0, 0), (27, .goto 6, 3, 0, 0, 0, 0), (30, .iload_n 2, 1, 0, 0, 0, 0), (31, .iconst 1, 1, 0, 0, 0, 0)],
  [(32, .isub, 1, 0, 0, 0, 0), (33, .ireturn, 1, 0, 0, 0, 0)]]
def iv_k25 : List (List ivE) := [[(0, .iload_n 0, 1, 0, 0, 0, 0), (1, .iload_n 2, 1, 0, 0, 0, 0), (2, .iconst 1, 1, 0, 0, 0, 0), (3, .iadd, 1, 0, 0, 0, 0), (4, .iconst 3, 1, 0, 0, 0, 0), (5, .iload_n 1, 1, 0, 0, 0, 0), (6, .imul, 1, 0, 0, 0, 0), (7, .ishl, 1, 0, 0, 0, 0), (8, .ior, 1, 0, 0, 0, 0), (9, .ireturn, 1, 0, 0, 0, 0)]]
def iv_k26 : List (List ivE) := [[(0, .iconst 0, 1, 0, 0, 0, 0), (1, .istore_n 1, 1, 0, 0, 0, 0), (2, .iload_n 1, 1, 0, 0, 0, 0), (3, .iconst 5, 1, 0, 0, 0, 0), (4, .if_icmp .ge 17, 3, 0, 0, 0, 0), (7, .iload_n 0, 1, 0, 0, 0, 0), (8, .iconst 3, 1, 0, 0, 0, 0), (9, .iload_n 1, 1, 0, 0, 0, 0), (10, .imul, 1, 0, 0, 0, 0), (11, .ishr, 1, 0, 0, 0, 0), (12, .ifCond .eq 9, 3, 0, 0, 0, 0), (15, .iinc 1 1, 3, 0, 0, 0, 0)],
  [(18, .goto (-16), 3, 0, 0, 0, 0), (21, .iload_n 1, 1, 0, 0, 0, 0), (22, .ireturn, 1, 0, 0, 0, 0)]]
def iv_k27 : List (List ivE) := [[(0, .iload_n 0, 1, 0, 0, 0, 0), (1, .invokestatic 9, 3, 26, 1, 0, 697), (4, .istore_n 2, 1, 0, 0, 0, 0), (5, .iconst 0, 1, 0, 0, 0, 0), (6, .istore_n 3, 1, 0, 0, 0, 0), (7, .iconst 0, 1, 0, 0, 0, 0), (8, .istore 4, 2, 0, 0, 0, 0), (10, .iload 4, 2, 0, 0, 0, 0), (12, .iload_n 2, 1, 0, 0, 0, 0), (13, .if_icmp .ge 27, 3, 0, 0, 0, 0)],
  [(16, .iload_n 3, 1, 0, 0, 0, 0), (17, .iload 4, 2, 0, 0, 0, 0), (19, .iload_n 0, 1, 0, 0, 0, 0), (20, .iload 4, 2, 0, 0, 0, 0), (22, .invokestatic 15, 3, 24, 2, 0, 698), (25, .iload_n 1, 1, 0, 0, 0, 0), (26, .iadd, 1, 0, 0, 0, 0), (27, .bipush 6, 2, 0, 0, 0, 0), (29, .irem, 1, 0, 0, 0, 0), (30, .invokestatic 19, 3, 25, 3, 0, 699)],
  [(33, .istore_n 3, 1, 0, 0, 0, 0), (34, .iinc 4 1, 3, 0, 0, 0, 0), (37, .goto (-27), 3, 0, 0, 0, 0), (40, .iload_n 3, 1, 0, 0, 0, 0), (41, .ireturn, 1, 0, 0, 0, 0)]]
def iv_k28 : List (List ivE) := [[(0, .aload_n 0, 1, 0, 0, 0, 0), (1, .invokespecial 3, 3, 1000, 0, 0, 198), (4, .aload_n 0, 1, 0, 0, 0, 0), (5, .bipush 6, 2, 0, 0, 0, 0), (7, .bipush 6, 2, 0, 0, 0, 0), (9, .multianewarray 9 2, 4, 0, 0, 0, 199), (13, .putfield 11, 3, 3, 0, 0, 201)],
  [(16, .return_, 1, 0, 0, 0, 0)]]
def iv_k29 : List (List ivE) := [[(0, .aload_n 0, 1, 0, 0, 0, 0), (1, .iload_n 2, 1, 0, 0, 0, 0), (2, .invokevirtual 16, 3, 30, 2, 0, 415), (5, .iload_n 1, 1, 0, 0, 0, 0), (6, .invokestatic 20, 3, 26, 1, 0, 419), (9, .istore_n 3, 1, 0, 0, 0, 0), (10, .iconst 0, 1, 0, 0, 0, 0), (11, .istore 4, 2, 0, 0, 0, 0), (13, .iload 4, 2, 0, 0, 0, 0), (15, .iload_n 3, 1, 0, 0, 0, 0)],
  [(16, .if_icmp .ge 21, 3, 0, 0, 0, 0), (19, .aload_n 0, 1, 0, 0, 0, 0), (20, .iload 4, 2, 0, 0, 0, 0), (22, .iload_n 1, 1, 0, 0, 0, 0), (23, .iload 4, 2, 0, 0, 0, 0), (25, .invokestatic 26, 3, 24, 2, 0, 422), (28, .invokevirtual 30, 3, 31, 3, 0, 423), (31, .iinc 4 1, 3, 0, 0, 0, 0)],
  [(34, .goto (-21), 3, 0, 0, 0, 0), (37, .iload_n 3, 1, 0, 0, 0, 0), (38, .iconst 5, 1, 0, 0, 0, 0), (39, .if_icmp .gt 25, 3, 0, 0, 0, 0), (42, .aload_n 0, 1, 0, 0, 0, 0), (43, .getfield 34, 3, 3, 2, 0, 203), (46, .iconst 5, 1, 0, 0, 0, 0), (47, .if_icmp .gt 17, 3, 0, 0, 0, 0)],
  [(50, .aload_n 0, 1, 0, 0, 0, 0), (51, .getfield 11, 3, 3, 0, 0, 201), (54, .iload_n 3, 1, 0, 0, 0, 0), (55, .aaload, 1, 0, 0, 0, 0), (56, .aload_n 0, 1, 0, 0, 0, 0), (57, .getfield 34, 3, 3, 2, 0, 203), (60, .iaload, 1, 0, 0, 0, 0), (61, .goto 4, 3, 0, 0, 0, 0)],
  [(64, .iconst 0, 1, 0, 0, 0, 0), (65, .ireturn, 1, 0, 0, 0, 0)]]
def iv_k30 : List (List ivE) := [[(0, .aload_n 0, 1, 0, 0, 0, 0), (1, .iload_n 1, 1, 0, 0, 0, 0), (2, .putfield 38, 3, 3, 1, 0, 202), (5, .aload_n 0, 1, 0, 0, 0, 0), (6, .iload_n 1, 1, 0, 0, 0, 0), (7, .invokestatic 20, 3, 26, 1, 0, 419), (10, .putfield 34, 3, 3, 2, 0, 203), (13, .iconst 0, 1, 0, 0, 0, 0), (14, .istore_n 2, 1, 0, 0, 0, 0), (15, .iload_n 2, 1, 0, 0, 0, 0)],
  [(16, .iconst 5, 1, 0, 0, 0, 0), (17, .if_icmp .gt 18, 3, 0, 0, 0, 0), (20, .aload_n 0, 1, 0, 0, 0, 0), (21, .getfield 11, 3, 3, 0, 0, 201), (24, .iconst 0, 1, 0, 0, 0, 0), (25, .aaload, 1, 0, 0, 0, 0), (26, .iload_n 2, 1, 0, 0, 0, 0), (27, .iload_n 2, 1, 0, 0, 0, 0), (28, .iastore, 1, 0, 0, 0, 0), (29, .iinc 2 1, 3, 0, 0, 0, 0)],
  [(32, .goto (-17), 3, 0, 0, 0, 0), (35, .return_, 1, 0, 0, 0, 0)]]
def iv_k31 : List (List ivE) := [[(0, .iload_n 1, 1, 0, 0, 0, 0), (1, .ifCond .lt 8, 3, 0, 0, 0, 0), (4, .iload_n 1, 1, 0, 0, 0, 0), (5, .iconst 5, 1, 0, 0, 0, 0), (6, .if_icmp .lt 4, 3, 0, 0, 0, 0), (9, .return_, 1, 0, 0, 0, 0), (10, .aload_n 0, 1, 0, 0, 0, 0), (11, .getfield 11, 3, 3, 0, 0, 201), (14, .iload_n 1, 1, 0, 0, 0, 0), (15, .aaload, 1, 0, 0, 0, 0)],
  [(16, .astore_n 3, 1, 0, 0, 0, 0), (17, .aload_n 0, 1, 0, 0, 0, 0), (18, .getfield 11, 3, 3, 0, 0, 201), (21, .iload_n 1, 1, 0, 0, 0, 0), (22, .iconst 1, 1, 0, 0, 0, 0), (23, .iadd, 1, 0, 0, 0, 0), (24, .aaload, 1, 0, 0, 0, 0), (25, .astore 4, 2, 0, 0, 0, 0), (27, .aload 4, 2, 0, 0, 0, 0), (29, .iconst 0, 1, 0, 0, 0, 0), (30, .aload_n 3, 1, 0, 0, 0, 0), (31, .iconst 0, 1, 0, 0, 0, 0)],
  [(32, .iaload, 1, 0, 0, 0, 0), (33, .iconst 1, 1, 0, 0, 0, 0), (34, .iadd, 1, 0, 0, 0, 0), (35, .iastore, 1, 0, 0, 0, 0), (36, .iconst 1, 1, 0, 0, 0, 0), (37, .istore 5, 2, 0, 0, 0, 0), (39, .iload 5, 2, 0, 0, 0, 0), (41, .aload_n 0, 1, 0, 0, 0, 0), (42, .getfield 34, 3, 3, 2, 0, 203), (45, .if_icmp .gt 70, 3, 0, 0, 0, 0)],
  [(48, .iload 5, 2, 0, 0, 0, 0), (50, .iconst 5, 1, 0, 0, 0, 0), (51, .if_icmp .gt 64, 3, 0, 0, 0, 0), (54, .aload_n 3, 1, 0, 0, 0, 0), (55, .iload 5, 2, 0, 0, 0, 0), (57, .iconst 1, 1, 0, 0, 0, 0), (58, .isub, 1, 0, 0, 0, 0), (59, .iaload, 1, 0, 0, 0, 0), (60, .aload_n 0, 1, 0, 0, 0, 0), (61, .getfield 38, 3, 3, 1, 0, 202)],
  [(64, .iload 5, 2, 0, 0, 0, 0), (66, .iconst 1, 1, 0, 0, 0, 0), (67, .isub, 1, 0, 0, 0, 0), (68, .invokestatic 26, 3, 24, 2, 0, 422), (71, .iload_n 2, 1, 0, 0, 0, 0), (72, .if_icmp .ne 7, 3, 0, 0, 0, 0), (75, .iconst 0, 1, 0, 0, 0, 0), (76, .goto 4, 3, 0, 0, 0, 0), (79, .iconst 1, 1, 0, 0, 0, 0)],
  [(80, .iadd, 1, 0, 0, 0, 0), (81, .istore 6, 2, 0, 0, 0, 0), (83, .aload 4, 2, 0, 0, 0, 0), (85, .iload 5, 2, 0, 0, 0, 0), (87, .iload 6, 2, 0, 0, 0, 0), (89, .aload_n 3, 1, 0, 0, 0, 0), (90, .iload 5, 2, 0, 0, 0, 0), (92, .iaload, 1, 0, 0, 0, 0), (93, .aload 4, 2, 0, 0, 0, 0), (95, .iload 5, 2, 0, 0, 0, 0)],
  [(97, .iconst 1, 1, 0, 0, 0, 0), (98, .isub, 1, 0, 0, 0, 0), (99, .iaload, 1, 0, 0, 0, 0), (100, .invokestatic 41, 3, 169, 2, 0, 427), (103, .iconst 1, 1, 0, 0, 0, 0), (104, .iadd, 1, 0, 0, 0, 0), (105, .invokestatic 41, 3, 169, 2, 0, 427), (108, .iastore, 1, 0, 0, 0, 0), (109, .iinc 5 1, 3, 0, 0, 0, 0)],
  [(112, .goto (-73), 3, 0, 0, 0, 0), (115, .return_, 1, 0, 0, 0, 0)]]
def iv_k32 : List (List ivE) := [[(0, .iload_n 1, 1, 0, 0, 0, 0), (1, .ifCond .lt 8, 3, 0, 0, 0, 0), (4, .iload_n 1, 1, 0, 0, 0, 0), (5, .iconst 5, 1, 0, 0, 0, 0), (6, .if_icmp .le 5, 3, 0, 0, 0, 0), (9, .iconst 0, 1, 0, 0, 0, 0), (10, .ireturn, 1, 0, 0, 0, 0), (11, .aload_n 0, 1, 0, 0, 0, 0), (12, .getfield 11, 3, 3, 0, 0, 201), (15, .iload_n 1, 1, 0, 0, 0, 0)],
  [(16, .aaload, 1, 0, 0, 0, 0), (17, .astore_n 3, 1, 0, 0, 0, 0), (18, .aload_n 3, 1, 0, 0, 0, 0), (19, .iconst 0, 1, 0, 0, 0, 0), (20, .iaload, 1, 0, 0, 0, 0), (21, .iload_n 2, 1, 0, 0, 0, 0), (22, .aload_n 0, 1, 0, 0, 0, 0), (23, .getfield 34, 3, 3, 2, 0, 203), (26, .invokestatic 46, 3, 168, 2, 0, 523), (29, .iadd, 1, 0, 0, 0, 0), (30, .istore 4, 2, 0, 0, 0, 0)],
  [(32, .iconst 1, 1, 0, 0, 0, 0), (33, .istore 5, 2, 0, 0, 0, 0), (35, .iload 5, 2, 0, 0, 0, 0), (37, .aload_n 0, 1, 0, 0, 0, 0), (38, .getfield 34, 3, 3, 2, 0, 203), (41, .if_icmp .gt 38, 3, 0, 0, 0, 0), (44, .iload 5, 2, 0, 0, 0, 0), (46, .iconst 5, 1, 0, 0, 0, 0), (47, .if_icmp .gt 32, 3, 0, 0, 0, 0)],
  [(50, .iload 4, 2, 0, 0, 0, 0), (52, .aload_n 3, 1, 0, 0, 0, 0), (53, .iload 5, 2, 0, 0, 0, 0), (55, .iaload, 1, 0, 0, 0, 0), (56, .iload_n 2, 1, 0, 0, 0, 0), (57, .aload_n 0, 1, 0, 0, 0, 0), (58, .getfield 34, 3, 3, 2, 0, 203), (61, .iload 5, 2, 0, 0, 0, 0), (63, .isub, 1, 0, 0, 0, 0)],
  [(64, .invokestatic 46, 3, 168, 2, 0, 523), (67, .iadd, 1, 0, 0, 0, 0), (68, .invokestatic 41, 3, 169, 2, 0, 427), (71, .istore 4, 2, 0, 0, 0, 0), (73, .iinc 5 1, 3, 0, 0, 0, 0), (76, .goto (-41), 3, 0, 0, 0, 0), (79, .iload 4, 2, 0, 0, 0, 0)],
  [(81, .ireturn, 1, 0, 0, 0, 0)]]
def iv_k33 : List (List ivE) := [[(0, .aload_n 0, 1, 0, 0, 0, 0), (1, .invokespecial 3, 3, 1000, 0, 0, 216), (4, .aload_n 0, 1, 0, 0, 0, 0), (5, .iconst 5, 1, 0, 0, 0, 0), (6, .newarray .int, 2, 0, 0, 0, 0), (8, .putfield 9, 3, 4, 1, 0, 221), (11, .aload_n 0, 1, 0, 0, 0, 0), (12, .bipush 8, 2, 0, 0, 0, 0), (14, .anewarray 15, 3, 3, 0, 0, 217)],
  [(17, .putfield 17, 3, 4, 0, 0, 220), (20, .iconst 0, 1, 0, 0, 0, 0), (21, .istore_n 1, 1, 0, 0, 0, 0), (22, .iload_n 1, 1, 0, 0, 0, 0), (23, .bipush 8, 2, 0, 0, 0, 0), (25, .if_icmp .ge 22, 3, 0, 0, 0, 0), (28, .aload_n 0, 1, 0, 0, 0, 0), (29, .getfield 17, 3, 4, 0, 0, 220)],
  [(32, .iload_n 1, 1, 0, 0, 0, 0), (33, .new 15, 3, 3, 0, 0, 217), (36, .dup, 1, 0, 0, 0, 0), (37, .invokespecial 21, 3, 28, 1, 1, 219), (40, .aastore, 1, 0, 0, 0, 0), (41, .iinc 1 1, 3, 0, 0, 0, 0), (44, .goto (-22), 3, 0, 0, 0, 0), (47, .return_, 1, 0, 0, 0, 0)]]
def iv_k34 : List (List ivE) := [[(0, .aload_n 0, 1, 0, 0, 0, 0), (1, .iconst 0, 1, 0, 0, 0, 0), (2, .putfield 22, 3, 4, 2, 0, 222), (5, .return_, 1, 0, 0, 0, 0)]]
def iv_k35 : List (List ivE) := [[(0, .aload_n 0, 1, 0, 0, 0, 0), (1, .aload_n 0, 1, 0, 0, 0, 0), (2, .getfield 22, 3, 4, 2, 0, 222), (5, .invokevirtual 26, 3, 36, 2, 0, 502), (8, .astore_n 2, 1, 0, 0, 0, 0), (9, .aload_n 2, 1, 0, 0, 0, 0), (10, .ifnull 18, 3, 0, 0, 0, 0), (13, .aload_n 2, 1, 0, 0, 0, 0), (14, .iload_n 1, 1, 0, 0, 0, 0), (15, .invokevirtual 30, 3, 30, 2, 0, 506)],
  [(18, .aload_n 0, 1, 0, 0, 0, 0), (19, .dup, 1, 0, 0, 0, 0), (20, .getfield 22, 3, 4, 2, 0, 222), (23, .iconst 1, 1, 0, 0, 0, 0), (24, .iadd, 1, 0, 0, 0, 0), (25, .putfield 22, 3, 4, 2, 0, 222), (28, .return_, 1, 0, 0, 0, 0)]]
def iv_k36 : List (List ivE) := [[(0, .iload_n 1, 1, 0, 0, 0, 0), (1, .ifCond .lt 18, 3, 0, 0, 0, 0), (4, .iload_n 1, 1, 0, 0, 0, 0), (5, .bipush 8, 2, 0, 0, 0, 0), (7, .if_icmp .ge 12, 3, 0, 0, 0, 0), (10, .aload_n 0, 1, 0, 0, 0, 0), (11, .getfield 17, 3, 4, 0, 0, 220), (14, .iload_n 1, 1, 0, 0, 0, 0), (15, .aaload, 1, 0, 0, 0, 0)],
  [(16, .goto 4, 3, 0, 0, 0, 0), (19, .aconst_null, 1, 0, 0, 0, 0), (20, .areturn, 1, 0, 0, 0, 0)]]
def iv_k37 : List (List ivE) := [[(0, .iconst 1, 1, 0, 0, 0, 0), (1, .istore_n 2, 1, 0, 0, 0, 0), (2, .iload_n 2, 1, 0, 0, 0, 0), (3, .iconst 5, 1, 0, 0, 0, 0), (4, .if_icmp .gt 24, 3, 0, 0, 0, 0), (7, .aload_n 0, 1, 0, 0, 0, 0), (8, .iload_n 2, 1, 0, 0, 0, 0), (9, .iload_n 1, 1, 0, 0, 0, 0), (10, .invokevirtual 34, 3, 38, 3, 0, 511), (13, .ifCond .eq 9, 3, 0, 0, 0, 0)],
  [(16, .aload_n 0, 1, 0, 0, 0, 0), (17, .iload_n 2, 1, 0, 0, 0, 0), (18, .invokevirtual 38, 3, 41, 2, 0, 532), (21, .ireturn, 1, 0, 0, 0, 0), (22, .iinc 2 1, 3, 0, 0, 0, 0), (25, .goto (-23), 3, 0, 0, 0, 0), (28, .iconst 0, 1, 0, 0, 0, 0), (29, .ireturn, 1, 0, 0, 0, 0)]]
def iv_k38 : List (List ivE) := [[(0, .aload_n 0, 1, 0, 0, 0, 0), (1, .iload_n 1, 1, 0, 0, 0, 0), (2, .iload_n 2, 1, 0, 0, 0, 0), (3, .invokevirtual 42, 3, 39, 3, 0, 515), (6, .ifCond .eq 5, 3, 0, 0, 0, 0), (9, .iconst 0, 1, 0, 0, 0, 0), (10, .ireturn, 1, 0, 0, 0, 0), (11, .iconst 0, 1, 0, 0, 0, 0), (12, .istore_n 3, 1, 0, 0, 0, 0), (13, .aload_n 0, 1, 0, 0, 0, 0), (14, .getfield 9, 3, 4, 1, 0, 221)],
  [(17, .iconst 0, 1, 0, 0, 0, 0), (18, .iconst 0, 1, 0, 0, 0, 0), (19, .iastore, 1, 0, 0, 0, 0), (20, .iconst 0, 1, 0, 0, 0, 0), (21, .istore 4, 2, 0, 0, 0, 0), (23, .iload 4, 2, 0, 0, 0, 0), (25, .ldc 45, 2, 0, 0, 1000000, 526), (27, .if_icmp .ge 103, 3, 0, 0, 0, 0), (30, .iload_n 3, 1, 0, 0, 0, 0), (31, .ifCond .lt 99, 3, 0, 0, 0, 0)],
  [(34, .iload_n 3, 1, 0, 0, 0, 0), (35, .iload_n 1, 1, 0, 0, 0, 0), (36, .if_icmp .ge 94, 3, 0, 0, 0, 0), (39, .iload_n 3, 1, 0, 0, 0, 0), (40, .iconst 5, 1, 0, 0, 0, 0), (41, .if_icmp .ge 89, 3, 0, 0, 0, 0), (44, .aload_n 0, 1, 0, 0, 0, 0), (45, .getfield 9, 3, 4, 1, 0, 221)],
  [(48, .iload_n 3, 1, 0, 0, 0, 0), (49, .iaload, 1, 0, 0, 0, 0), (50, .bipush 6, 2, 0, 0, 0, 0), (52, .if_icmp .lt 23, 3, 0, 0, 0, 0), (55, .iinc 3 (-1), 3, 0, 0, 0, 0), (58, .iload_n 3, 1, 0, 0, 0, 0), (59, .ifCond .lt 65, 3, 0, 0, 0, 0), (62, .aload_n 0, 1, 0, 0, 0, 0), (63, .getfield 9, 3, 4, 1, 0, 221)],
  [(66, .iload_n 3, 1, 0, 0, 0, 0), (67, .dup2, 1, 0, 0, 0, 0), (68, .iaload, 1, 0, 0, 0, 0), (69, .iconst 1, 1, 0, 0, 0, 0), (70, .iadd, 1, 0, 0, 0, 0), (71, .iastore, 1, 0, 0, 0, 0), (72, .goto 52, 3, 0, 0, 0, 0), (75, .aload_n 0, 1, 0, 0, 0, 0), (76, .iload_n 3, 1, 0, 0, 0, 0), (77, .aload_n 0, 1, 0, 0, 0, 0), (78, .getfield 9, 3, 4, 1, 0, 221)],
  [(81, .iload_n 3, 1, 0, 0, 0, 0), (82, .iaload, 1, 0, 0, 0, 0), (83, .iload_n 1, 1, 0, 0, 0, 0), (84, .iload_n 2, 1, 0, 0, 0, 0), (85, .invokevirtual 46, 3, 40, 5, 0, 527), (88, .ifCond .eq 16, 3, 0, 0, 0, 0), (91, .aload_n 0, 1, 0, 0, 0, 0), (92, .getfield 9, 3, 4, 1, 0, 221), (95, .iload_n 3, 1, 0, 0, 0, 0)],
  [(96, .dup2, 1, 0, 0, 0, 0), (97, .iaload, 1, 0, 0, 0, 0), (98, .iconst 1, 1, 0, 0, 0, 0), (99, .iadd, 1, 0, 0, 0, 0), (100, .iastore, 1, 0, 0, 0, 0), (101, .goto 23, 3, 0, 0, 0, 0), (104, .iinc 3 1, 3, 0, 0, 0, 0), (107, .iload_n 3, 1, 0, 0, 0, 0), (108, .iload_n 1, 1, 0, 0, 0, 0), (109, .if_icmp .ge 15, 3, 0, 0, 0, 0)],
  [(112, .iload_n 3, 1, 0, 0, 0, 0), (113, .iconst 5, 1, 0, 0, 0, 0), (114, .if_icmp .ge 10, 3, 0, 0, 0, 0), (117, .aload_n 0, 1, 0, 0, 0, 0), (118, .getfield 9, 3, 4, 1, 0, 221), (121, .iload_n 3, 1, 0, 0, 0, 0), (122, .iconst 0, 1, 0, 0, 0, 0), (123, .iastore, 1, 0, 0, 0, 0), (124, .iinc 4 1, 3, 0, 0, 0, 0), (127, .goto (-104), 3, 0, 0, 0, 0)],
  [(130, .iload_n 3, 1, 0, 0, 0, 0), (131, .iload_n 1, 1, 0, 0, 0, 0), (132, .if_icmp .ne 7, 3, 0, 0, 0, 0), (135, .iconst 1, 1, 0, 0, 0, 0), (136, .goto 4, 3, 0, 0, 0, 0), (139, .iconst 0, 1, 0, 0, 0, 0), (140, .ireturn, 1, 0, 0, 0, 0)]]
def iv_k39 : List (List ivE) := [[(0, .iconst 0, 1, 0, 0, 0, 0), (1, .istore_n 3, 1, 0, 0, 0, 0), (2, .iload_n 3, 1, 0, 0, 0, 0), (3, .aload_n 0, 1, 0, 0, 0, 0), (4, .getfield 22, 3, 4, 2, 0, 222), (7, .if_icmp .ge 34, 3, 0, 0, 0, 0), (10, .aload_n 0, 1, 0, 0, 0, 0), (11, .iload_n 3, 1, 0, 0, 0, 0), (12, .invokevirtual 26, 3, 36, 2, 0, 502), (15, .astore 4, 2, 0, 0, 0, 0)],
  [(17, .aload 4, 2, 0, 0, 0, 0), (19, .ifnull 16, 3, 0, 0, 0, 0), (22, .aload 4, 2, 0, 0, 0, 0), (24, .iconst 0, 1, 0, 0, 0, 0), (25, .iload_n 1, 1, 0, 0, 0, 0), (26, .invokevirtual 50, 3, 32, 3, 0, 519), (29, .iload_n 2, 1, 0, 0, 0, 0), (30, .if_icmp .gt 5, 3, 0, 0, 0, 0)],
  [(33, .iconst 1, 1, 0, 0, 0, 0), (34, .ireturn, 1, 0, 0, 0, 0), (35, .iinc 3 1, 3, 0, 0, 0, 0), (38, .goto (-36), 3, 0, 0, 0, 0), (41, .iconst 0, 1, 0, 0, 0, 0), (42, .ireturn, 1, 0, 0, 0, 0)]]
def iv_k40 : List (List ivE) := [[(0, .iconst 0, 1, 0, 0, 0, 0), (1, .istore 5, 2, 0, 0, 0, 0), (3, .iload 5, 2, 0, 0, 0, 0), (5, .aload_n 0, 1, 0, 0, 0, 0), (6, .getfield 22, 3, 4, 2, 0, 222), (9, .if_icmp .ge 49, 3, 0, 0, 0, 0), (12, .aload_n 0, 1, 0, 0, 0, 0), (13, .iload 5, 2, 0, 0, 0, 0), (15, .invokevirtual 26, 3, 36, 2, 0, 502)],
  [(18, .astore 6, 2, 0, 0, 0, 0), (20, .aload 6, 2, 0, 0, 0, 0), (22, .ifnull 30, 3, 0, 0, 0, 0), (25, .aload 6, 2, 0, 0, 0, 0), (27, .iload_n 1, 1, 0, 0, 0, 0), (28, .iload_n 2, 1, 0, 0, 0, 0), (29, .invokevirtual 54, 3, 31, 3, 0, 531)],
  [(32, .aload 6, 2, 0, 0, 0, 0), (34, .iload_n 1, 1, 0, 0, 0, 0), (35, .iconst 1, 1, 0, 0, 0, 0), (36, .iadd, 1, 0, 0, 0, 0), (37, .iload_n 3, 1, 0, 0, 0, 0), (38, .iload_n 1, 1, 0, 0, 0, 0), (39, .isub, 1, 0, 0, 0, 0), (40, .iconst 1, 1, 0, 0, 0, 0), (41, .isub, 1, 0, 0, 0, 0), (42, .invokevirtual 50, 3, 32, 3, 0, 519), (45, .iload 4, 2, 0, 0, 0, 0), (47, .if_icmp .gt 5, 3, 0, 0, 0, 0)],
  [(50, .iconst 1, 1, 0, 0, 0, 0), (51, .ireturn, 1, 0, 0, 0, 0), (52, .iinc 5 1, 3, 0, 0, 0, 0), (55, .goto (-52), 3, 0, 0, 0, 0), (58, .iconst 0, 1, 0, 0, 0, 0), (59, .ireturn, 1, 0, 0, 0, 0)]]
def iv_k41 : List (List ivE) := [[(0, .iconst 0, 1, 0, 0, 0, 0), (1, .istore_n 2, 1, 0, 0, 0, 0), (2, .iconst 0, 1, 0, 0, 0, 0), (3, .istore_n 3, 1, 0, 0, 0, 0), (4, .iload_n 3, 1, 0, 0, 0, 0), (5, .iload_n 1, 1, 0, 0, 0, 0), (6, .if_icmp .ge 26, 3, 0, 0, 0, 0), (9, .iload_n 3, 1, 0, 0, 0, 0), (10, .iconst 5, 1, 0, 0, 0, 0), (11, .if_icmp .ge 21, 3, 0, 0, 0, 0), (14, .iload_n 2, 1, 0, 0, 0, 0), (15, .iload_n 3, 1, 0, 0, 0, 0)],
  [(16, .aload_n 0, 1, 0, 0, 0, 0), (17, .getfield 9, 3, 4, 1, 0, 221), (20, .iload_n 3, 1, 0, 0, 0, 0), (21, .iaload, 1, 0, 0, 0, 0), (22, .invokestatic 58, 3, 25, 3, 0, 536), (25, .istore_n 2, 1, 0, 0, 0, 0), (26, .iinc 3 1, 3, 0, 0, 0, 0), (29, .goto (-25), 3, 0, 0, 0, 0)],
  [(32, .iload_n 2, 1, 0, 0, 0, 0), (33, .ireturn, 1, 0, 0, 0, 0)]]
def iv_k42 : List (List ivE) := [[(0, .aload_n 0, 1, 0, 0, 0, 0), (1, .invokespecial 3, 3, 1000, 0, 0, 260), (4, .aload_n 0, 1, 0, 0, 0, 0), (5, .bipush 16, 2, 0, 0, 0, 0), (7, .newarray .int, 2, 0, 0, 0, 0), (9, .putfield 9, 3, 5, 1, 0, 263), (12, .aload_n 0, 1, 0, 0, 0, 0), (13, .bipush 16, 2, 0, 0, 0, 0), (15, .newarray .int, 2, 0, 0, 0, 0)],
  [(17, .putfield 15, 3, 5, 2, 0, 264), (20, .aload_n 0, 1, 0, 0, 0, 0), (21, .bipush 8, 2, 0, 0, 0, 0), (23, .newarray .int, 2, 0, 0, 0, 0), (25, .putfield 18, 3, 5, 3, 0, 265), (28, .aload_n 0, 1, 0, 0, 0, 0), (29, .sipush 256, 3, 0, 0, 0, 0)],
  [(32, .newarray .int, 2, 0, 0, 0, 0), (34, .putfield 21, 3, 5, 4, 0, 266), (37, .return_, 1, 0, 0, 0, 0)]]
def iv_k43 : List (List ivE) := [[(0, .aload_n 0, 1, 0, 0, 0, 0), (1, .getfield 24, 3, 5, 0, 0, 261), (4, .ifCond .lt 42, 3, 0, 0, 0, 0), (7, .aload_n 0, 1, 0, 0, 0, 0), (8, .getfield 24, 3, 5, 0, 0, 261), (11, .bipush 16, 2, 0, 0, 0, 0), (13, .if_icmp .ge 33, 3, 0, 0, 0, 0)],
  [(16, .aload_n 0, 1, 0, 0, 0, 0), (17, .getfield 9, 3, 5, 1, 0, 263), (20, .aload_n 0, 1, 0, 0, 0, 0), (21, .getfield 24, 3, 5, 0, 0, 261), (24, .iload_n 1, 1, 0, 0, 0, 0), (25, .iastore, 1, 0, 0, 0, 0), (26, .aload_n 0, 1, 0, 0, 0, 0), (27, .getfield 15, 3, 5, 2, 0, 264), (30, .aload_n 0, 1, 0, 0, 0, 0), (31, .getfield 24, 3, 5, 0, 0, 261)],
  [(34, .iload_n 2, 1, 0, 0, 0, 0), (35, .iastore, 1, 0, 0, 0, 0), (36, .aload_n 0, 1, 0, 0, 0, 0), (37, .dup, 1, 0, 0, 0, 0), (38, .getfield 24, 3, 5, 0, 0, 261), (41, .iconst 1, 1, 0, 0, 0, 0), (42, .iadd, 1, 0, 0, 0, 0), (43, .putfield 24, 3, 5, 0, 0, 261), (46, .return_, 1, 0, 0, 0, 0)]]
def iv_k44 : List (List ivE) := [[(0, .aload_n 0, 1, 0, 0, 0, 0), (1, .iload_n 1, 1, 0, 0, 0, 0), (2, .iload_n 2, 1, 0, 0, 0, 0), (3, .invokevirtual 28, 3, 47, 3, 0, 654), (6, .aload_n 0, 1, 0, 0, 0, 0), (7, .iload_n 1, 1, 0, 0, 0, 0), (8, .invokevirtual 32, 3, 48, 2, 0, 658), (11, .ireturn, 1, 0, 0, 0, 0)]]
def iv_k45 : List (List ivE) := [[(0, .iload_n 1, 1, 0, 0, 0, 0), (1, .iconst 1, 1, 0, 0, 0, 0), (2, .if_icmp .lt 18, 3, 0, 0, 0, 0), (5, .iload_n 1, 1, 0, 0, 0, 0), (6, .bipush 8, 2, 0, 0, 0, 0), (8, .if_icmp .gt 12, 3, 0, 0, 0, 0), (11, .iload_n 2, 1, 0, 0, 0, 0), (12, .ifCond .lt 8, 3, 0, 0, 0, 0), (15, .iload_n 2, 1, 0, 0, 0, 0)],
  [(16, .iload_n 1, 1, 0, 0, 0, 0), (17, .if_icmp .lt 5, 3, 0, 0, 0, 0), (20, .iconst 0, 1, 0, 0, 0, 0), (21, .ireturn, 1, 0, 0, 0, 0), (22, .aload_n 0, 1, 0, 0, 0, 0), (23, .iload_n 1, 1, 0, 0, 0, 0), (24, .aload_n 0, 1, 0, 0, 0, 0), (25, .getfield 24, 3, 5, 0, 0, 261), (28, .invokevirtual 28, 3, 47, 3, 0, 654), (31, .aload_n 0, 1, 0, 0, 0, 0)],
  [(32, .getfield 18, 3, 5, 3, 0, 265), (35, .iload_n 2, 1, 0, 0, 0, 0), (36, .iaload, 1, 0, 0, 0, 0), (37, .istore_n 3, 1, 0, 0, 0, 0), (38, .aload_n 0, 1, 0, 0, 0, 0), (39, .getfield 18, 3, 5, 3, 0, 265), (42, .iload_n 2, 1, 0, 0, 0, 0), (43, .aload_n 0, 1, 0, 0, 0, 0), (44, .getfield 18, 3, 5, 3, 0, 265), (47, .iload_n 1, 1, 0, 0, 0, 0)],
  [(48, .iconst 1, 1, 0, 0, 0, 0), (49, .isub, 1, 0, 0, 0, 0), (50, .iaload, 1, 0, 0, 0, 0), (51, .iastore, 1, 0, 0, 0, 0), (52, .aload_n 0, 1, 0, 0, 0, 0), (53, .getfield 18, 3, 5, 3, 0, 265), (56, .iload_n 1, 1, 0, 0, 0, 0), (57, .iconst 1, 1, 0, 0, 0, 0), (58, .isub, 1, 0, 0, 0, 0), (59, .iload_n 3, 1, 0, 0, 0, 0), (60, .iastore, 1, 0, 0, 0, 0), (61, .aload_n 0, 1, 0, 0, 0, 0), (62, .iload_n 1, 1, 0, 0, 0, 0), (63, .invokevirtual 32, 3, 48, 2, 0, 658)],
  [(66, .pop, 1, 0, 0, 0, 0), (67, .iconst 1, 1, 0, 0, 0, 0), (68, .iload_n 1, 1, 0, 0, 0, 0), (69, .ishl, 1, 0, 0, 0, 0), (70, .iconst 1, 1, 0, 0, 0, 0), (71, .isub, 1, 0, 0, 0, 0), (72, .istore 4, 2, 0, 0, 0, 0), (74, .iconst 0, 1, 0, 0, 0, 0), (75, .istore 5, 2, 0, 0, 0, 0), (77, .iconst 0, 1, 0, 0, 0, 0), (78, .istore 6, 2, 0, 0, 0, 0)],
  [(80, .iload 6, 2, 0, 0, 0, 0), (82, .iload_n 1, 1, 0, 0, 0, 0), (83, .if_icmp .ge 42, 3, 0, 0, 0, 0), (86, .iload_n 3, 1, 0, 0, 0, 0), (87, .iload 6, 2, 0, 0, 0, 0), (89, .invokestatic 36, 3, 98, 2, 1, 672), (92, .ifCond .eq 27, 3, 0, 0, 0, 0), (95, .aload_n 0, 1, 0, 0, 0, 0)],
  [(96, .getfield 21, 3, 5, 4, 0, 266), (99, .iload 4, 2, 0, 0, 0, 0), (101, .iconst 1, 1, 0, 0, 0, 0), (102, .iload 6, 2, 0, 0, 0, 0), (104, .ishl, 1, 0, 0, 0, 0), (105, .ixor, 1, 0, 0, 0, 0), (106, .iaload, 1, 0, 0, 0, 0), (107, .ifCond .le 12, 3, 0, 0, 0, 0), (110, .iload 5, 2, 0, 0, 0, 0)],
  [(112, .iconst 1, 1, 0, 0, 0, 0), (113, .iload 6, 2, 0, 0, 0, 0), (115, .ishl, 1, 0, 0, 0, 0), (116, .ior, 1, 0, 0, 0, 0), (117, .istore 5, 2, 0, 0, 0, 0), (119, .iinc 6 1, 3, 0, 0, 0, 0), (122, .goto (-42), 3, 0, 0, 0, 0), (125, .iload 5, 2, 0, 0, 0, 0), (127, .ireturn, 1, 0, 0, 0, 0)]]
def iv_k46 : List (List ivE) := [[(0, .aload_n 0, 1, 0, 0, 0, 0), (1, .iload_n 1, 1, 0, 0, 0, 0), (2, .aload_n 0, 1, 0, 0, 0, 0), (3, .getfield 24, 3, 5, 0, 0, 261), (6, .invokevirtual 40, 3, 44, 3, 0, 689), (9, .ifCond .le 6, 3, 0, 0, 0, 0), (12, .bipush (-9), 2, 0, 0, 0, 0), (14, .ireturn, 1, 0, 0, 0, 0), (15, .iconst 0, 1, 0, 0, 0, 0)],
  [(16, .istore_n 2, 1, 0, 0, 0, 0), (17, .iload_n 2, 1, 0, 0, 0, 0), (18, .aload_n 0, 1, 0, 0, 0, 0), (19, .getfield 24, 3, 5, 0, 0, 261), (22, .if_icmp .ge 22, 3, 0, 0, 0, 0), (25, .aload_n 0, 1, 0, 0, 0, 0), (26, .iload_n 1, 1, 0, 0, 0, 0), (27, .iload_n 2, 1, 0, 0, 0, 0), (28, .iconst 1, 1, 0, 0, 0, 0), (29, .iadd, 1, 0, 0, 0, 0), (30, .invokevirtual 40, 3, 44, 3, 0, 689)],
  [(33, .ifCond .ne 5, 3, 0, 0, 0, 0), (36, .iload_n 2, 1, 0, 0, 0, 0), (37, .ireturn, 1, 0, 0, 0, 0), (38, .iinc 2 1, 3, 0, 0, 0, 0), (41, .goto (-24), 3, 0, 0, 0, 0), (44, .bipush (-9), 2, 0, 0, 0, 0), (46, .ireturn, 1, 0, 0, 0, 0)]]
def iv_k47 : List (List ivE) := [[(0, .iconst 0, 1, 0, 0, 0, 0), (1, .istore_n 3, 1, 0, 0, 0, 0), (2, .iload_n 3, 1, 0, 0, 0, 0), (3, .iload_n 1, 1, 0, 0, 0, 0), (4, .if_icmp .ge 26, 3, 0, 0, 0, 0), (7, .iload_n 3, 1, 0, 0, 0, 0), (8, .bipush 8, 2, 0, 0, 0, 0), (10, .if_icmp .ge 20, 3, 0, 0, 0, 0), (13, .aload_n 0, 1, 0, 0, 0, 0), (14, .getfield 18, 3, 5, 3, 0, 265)],
  [(17, .iload_n 3, 1, 0, 0, 0, 0), (18, .iconst 1, 1, 0, 0, 0, 0), (19, .iload_n 1, 1, 0, 0, 0, 0), (20, .ishl, 1, 0, 0, 0, 0), (21, .iconst 1, 1, 0, 0, 0, 0), (22, .isub, 1, 0, 0, 0, 0), (23, .iastore, 1, 0, 0, 0, 0), (24, .iinc 3 1, 3, 0, 0, 0, 0), (27, .goto (-25), 3, 0, 0, 0, 0), (30, .iconst 0, 1, 0, 0, 0, 0), (31, .istore_n 3, 1, 0, 0, 0, 0)],
  [(32, .iload_n 3, 1, 0, 0, 0, 0), (33, .iload_n 2, 1, 0, 0, 0, 0), (34, .if_icmp .ge 57, 3, 0, 0, 0, 0), (37, .iload_n 3, 1, 0, 0, 0, 0), (38, .bipush 16, 2, 0, 0, 0, 0), (40, .if_icmp .ge 51, 3, 0, 0, 0, 0), (43, .aload_n 0, 1, 0, 0, 0, 0), (44, .getfield 9, 3, 5, 1, 0, 263), (47, .iload_n 3, 1, 0, 0, 0, 0)],
  [(48, .iaload, 1, 0, 0, 0, 0), (49, .istore 4, 2, 0, 0, 0, 0), (51, .iload 4, 2, 0, 0, 0, 0), (53, .ifCond .lt 32, 3, 0, 0, 0, 0), (56, .iload 4, 2, 0, 0, 0, 0), (58, .iload_n 1, 1, 0, 0, 0, 0), (59, .if_icmp .ge 26, 3, 0, 0, 0, 0), (62, .iload 4, 2, 0, 0, 0, 0)],
  [(64, .bipush 8, 2, 0, 0, 0, 0), (66, .if_icmp .ge 19, 3, 0, 0, 0, 0), (69, .aload_n 0, 1, 0, 0, 0, 0), (70, .getfield 18, 3, 5, 3, 0, 265), (73, .iload 4, 2, 0, 0, 0, 0), (75, .dup2, 1, 0, 0, 0, 0), (76, .iaload, 1, 0, 0, 0, 0), (77, .aload_n 0, 1, 0, 0, 0, 0), (78, .getfield 15, 3, 5, 2, 0, 264)],
  [(81, .iload_n 3, 1, 0, 0, 0, 0), (82, .iaload, 1, 0, 0, 0, 0), (83, .iand, 1, 0, 0, 0, 0), (84, .iastore, 1, 0, 0, 0, 0), (85, .iinc 3 1, 3, 0, 0, 0, 0), (88, .goto (-56), 3, 0, 0, 0, 0), (91, .return_, 1, 0, 0, 0, 0)]]
def iv_k48 : List (List ivE) := [[(0, .iload_n 1, 1, 0, 0, 0, 0), (1, .iconst 1, 1, 0, 0, 0, 0), (2, .if_icmp .lt 9, 3, 0, 0, 0, 0), (5, .iload_n 1, 1, 0, 0, 0, 0), (6, .bipush 8, 2, 0, 0, 0, 0), (8, .if_icmp .le 5, 3, 0, 0, 0, 0), (11, .iconst 0, 1, 0, 0, 0, 0), (12, .ireturn, 1, 0, 0, 0, 0), (13, .iconst 1, 1, 0, 0, 0, 0), (14, .iload_n 1, 1, 0, 0, 0, 0), (15, .ishl, 1, 0, 0, 0, 0)],
  [(16, .iconst 1, 1, 0, 0, 0, 0), (17, .isub, 1, 0, 0, 0, 0), (18, .istore_n 2, 1, 0, 0, 0, 0), (19, .iconst 1, 1, 0, 0, 0, 0), (20, .istore_n 3, 1, 0, 0, 0, 0), (21, .iload_n 3, 1, 0, 0, 0, 0), (22, .iload_n 2, 1, 0, 0, 0, 0), (23, .if_icmp .gt 16, 3, 0, 0, 0, 0), (26, .aload_n 0, 1, 0, 0, 0, 0), (27, .getfield 21, 3, 5, 4, 0, 266), (30, .iload_n 3, 1, 0, 0, 0, 0), (31, .iconst 0, 1, 0, 0, 0, 0)],
  [(32, .iastore, 1, 0, 0, 0, 0), (33, .iinc 3 1, 3, 0, 0, 0, 0), (36, .goto (-15), 3, 0, 0, 0, 0), (39, .aload_n 0, 1, 0, 0, 0, 0), (40, .getfield 21, 3, 5, 4, 0, 266), (43, .iconst 0, 1, 0, 0, 0, 0), (44, .iconst 1, 1, 0, 0, 0, 0), (45, .iastore, 1, 0, 0, 0, 0), (46, .iconst 0, 1, 0, 0, 0, 0), (47, .istore_n 3, 1, 0, 0, 0, 0)],
  [(48, .iload_n 3, 1, 0, 0, 0, 0), (49, .iload_n 2, 1, 0, 0, 0, 0), (50, .if_icmp .ge 24, 3, 0, 0, 0, 0), (53, .aload_n 0, 1, 0, 0, 0, 0), (54, .getfield 21, 3, 5, 4, 0, 266), (57, .iload_n 3, 1, 0, 0, 0, 0), (58, .iaload, 1, 0, 0, 0, 0), (59, .ifCond .le 9, 3, 0, 0, 0, 0), (62, .aload_n 0, 1, 0, 0, 0, 0), (63, .iload_n 1, 1, 0, 0, 0, 0)],
  [(64, .iload_n 3, 1, 0, 0, 0, 0), (65, .invokevirtual 44, 3, 49, 3, 0, 662), (68, .iinc 3 1, 3, 0, 0, 0, 0), (71, .goto (-23), 3, 0, 0, 0, 0), (74, .aload_n 0, 1, 0, 0, 0, 0), (75, .getfield 21, 3, 5, 4, 0, 266), (78, .iload_n 2, 1, 0, 0, 0, 0), (79, .iaload, 1, 0, 0, 0, 0)],
  [(80, .ireturn, 1, 0, 0, 0, 0)]]
def iv_k49 : List (List ivE) := [[(0, .iload_n 2, 1, 0, 0, 0, 0), (1, .invokestatic 47, 3, 167, 1, 0, 666), (4, .istore_n 3, 1, 0, 0, 0, 0), (5, .iload_n 3, 1, 0, 0, 0, 0), (6, .bipush 8, 2, 0, 0, 0, 0), (8, .if_icmp .lt 4, 3, 0, 0, 0, 0), (11, .return_, 1, 0, 0, 0, 0), (12, .iconst 0, 1, 0, 0, 0, 0), (13, .istore 4, 2, 0, 0, 0, 0), (15, .iload 4, 2, 0, 0, 0, 0)],
  [(17, .iload_n 1, 1, 0, 0, 0, 0), (18, .if_icmp .ge 52, 3, 0, 0, 0, 0), (21, .aload_n 0, 1, 0, 0, 0, 0), (22, .getfield 18, 3, 5, 3, 0, 265), (25, .iload_n 3, 1, 0, 0, 0, 0), (26, .iaload, 1, 0, 0, 0, 0), (27, .iload 4, 2, 0, 0, 0, 0), (29, .invokestatic 36, 3, 98, 2, 1, 672)],
  [(32, .ifCond .eq 32, 3, 0, 0, 0, 0), (35, .iload_n 2, 1, 0, 0, 0, 0), (36, .iload 4, 2, 0, 0, 0, 0), (38, .invokestatic 36, 3, 98, 2, 1, 672), (41, .ifCond .ne 23, 3, 0, 0, 0, 0), (44, .aload_n 0, 1, 0, 0, 0, 0), (45, .getfield 21, 3, 5, 4, 0, 266)],
  [(48, .iload_n 2, 1, 0, 0, 0, 0), (49, .iconst 1, 1, 0, 0, 0, 0), (50, .iload 4, 2, 0, 0, 0, 0), (52, .ishl, 1, 0, 0, 0, 0), (53, .ior, 1, 0, 0, 0, 0), (54, .dup2, 1, 0, 0, 0, 0), (55, .iaload, 1, 0, 0, 0, 0), (56, .aload_n 0, 1, 0, 0, 0, 0), (57, .getfield 21, 3, 5, 4, 0, 266), (60, .iload_n 2, 1, 0, 0, 0, 0), (61, .iaload, 1, 0, 0, 0, 0), (62, .iadd, 1, 0, 0, 0, 0), (63, .iastore, 1, 0, 0, 0, 0)],
  [(64, .iinc 4 1, 3, 0, 0, 0, 0), (67, .goto (-52), 3, 0, 0, 0, 0), (70, .return_, 1, 0, 0, 0, 0)]]
def iv_k50 : List (List ivE) := [[(0, .aload_n 0, 1, 0, 0, 0, 0), (1, .invokespecial 3, 3, 1000, 0, 0, 101), (4, .aload_n 0, 1, 0, 0, 0, 0), (5, .bipush 8, 2, 0, 0, 0, 0), (7, .newarray .int, 2, 0, 0, 0, 0), (9, .putfield 9, 3, 6, 0, 0, 102), (12, .aload_n 0, 1, 0, 0, 0, 0), (13, .bipush 8, 2, 0, 0, 0, 0), (15, .newarray .int, 2, 0, 0, 0, 0)],
  [(17, .putfield 15, 3, 6, 1, 0, 104), (20, .aload_n 0, 1, 0, 0, 0, 0), (21, .bipush 6, 2, 0, 0, 0, 0), (23, .newarray .int, 2, 0, 0, 0, 0), (25, .putfield 18, 3, 6, 2, 0, 106), (28, .return_, 1, 0, 0, 0, 0)]]
def iv_k51 : List (List ivE) := [[(0, .aload_n 0, 1, 0, 0, 0, 0), (1, .iconst 0, 1, 0, 0, 0, 0), (2, .putfield 21, 3, 6, 3, 0, 108), (5, .aload_n 0, 1, 0, 0, 0, 0), (6, .iconst 0, 1, 0, 0, 0, 0), (7, .putfield 25, 3, 6, 4, 0, 110), (10, .aload_n 0, 1, 0, 0, 0, 0), (11, .iconst 0, 1, 0, 0, 0, 0), (12, .putfield 28, 3, 6, 5, 0, 113), (15, .aload_n 0, 1, 0, 0, 0, 0)],
  [(16, .iconst 0, 1, 0, 0, 0, 0), (17, .putfield 31, 3, 6, 6, 0, 115), (20, .aload_n 0, 1, 0, 0, 0, 0), (21, .iconst 0, 1, 0, 0, 0, 0), (22, .putfield 34, 3, 6, 7, 0, 116), (25, .iconst 0, 1, 0, 0, 0, 0), (26, .istore_n 2, 1, 0, 0, 0, 0), (27, .iload_n 2, 1, 0, 0, 0, 0), (28, .aload_n 1, 1, 0, 0, 0, 0), (29, .getfield 37, 3, 7, 1, 0, 89)],
  [(32, .if_icmp .ge 23, 3, 0, 0, 0, 0), (35, .aload_n 0, 1, 0, 0, 0, 0), (36, .aload_n 1, 1, 0, 0, 0, 0), (37, .iload_n 2, 1, 0, 0, 0, 0), (38, .invokevirtual 42, 3, 65, 2, 0, 326), (41, .invokevirtual 46, 3, 52, 2, 0, 330), (44, .ifCond .ne 5, 3, 0, 0, 0, 0), (47, .iload_n 2, 1, 0, 0, 0, 0)],
  [(48, .ireturn, 1, 0, 0, 0, 0), (49, .iinc 2 1, 3, 0, 0, 0, 0), (52, .goto (-25), 3, 0, 0, 0, 0), (55, .aload_n 0, 1, 0, 0, 0, 0), (56, .getfield 34, 3, 6, 7, 0, 116), (59, .iconst 2, 1, 0, 0, 0, 0), (60, .if_icmp .eq 18, 3, 0, 0, 0, 0), (63, .aload_n 0, 1, 0, 0, 0, 0)],
  [(64, .getfield 34, 3, 6, 7, 0, 116), (67, .iconst 3, 1, 0, 0, 0, 0), (68, .if_icmp .ne 14, 3, 0, 0, 0, 0), (71, .aload_n 0, 1, 0, 0, 0, 0), (72, .invokevirtual 50, 3, 57, 1, 0, 346), (75, .ifCond .eq 7, 3, 0, 0, 0, 0), (78, .iconst 1, 1, 0, 0, 0, 0), (79, .goto 4, 3, 0, 0, 0, 0)],
  [(82, .iconst 0, 1, 0, 0, 0, 0), (83, .istore_n 2, 1, 0, 0, 0, 0), (84, .iload_n 2, 1, 0, 0, 0, 0), (85, .ifCond .eq 8, 3, 0, 0, 0, 0), (88, .bipush (-9), 2, 0, 0, 0, 0), (90, .goto 7, 3, 0, 0, 0, 0), (93, .aload_n 1, 1, 0, 0, 0, 0), (94, .getfield 37, 3, 7, 1, 0, 89)],
  [(97, .ireturn, 1, 0, 0, 0, 0)]]
def iv_k52 : List (List ivE) := [[(0, .aload_n 0, 1, 0, 0, 0, 0), (1, .getfield 34, 3, 6, 7, 0, 116), (4, .tableswitch 80 0 6 #[44, 50, 80, 56, 62, 68, 74], 44, 0, 0, 0, 0)],
  [],
  [],
  [(48, .aload_n 0, 1, 0, 0, 0, 0), (49, .iload_n 1, 1, 0, 0, 0, 0), (50, .invokevirtual 54, 3, 53, 2, 0, 334), (53, .ireturn, 1, 0, 0, 0, 0), (54, .aload_n 0, 1, 0, 0, 0, 0), (55, .iload_n 1, 1, 0, 0, 0, 0), (56, .invokevirtual 57, 3, 54, 2, 0, 338), (59, .ireturn, 1, 0, 0, 0, 0), (60, .aload_n 0, 1, 0, 0, 0, 0), (61, .iload_n 1, 1, 0, 0, 0, 0), (62, .invokevirtual 60, 3, 56, 2, 0, 342)],
  [(65, .ireturn, 1, 0, 0, 0, 0), (66, .aload_n 0, 1, 0, 0, 0, 0), (67, .iload_n 1, 1, 0, 0, 0, 0), (68, .invokevirtual 63, 3, 59, 2, 0, 361), (71, .ireturn, 1, 0, 0, 0, 0), (72, .aload_n 0, 1, 0, 0, 0, 0), (73, .iload_n 1, 1, 0, 0, 0, 0), (74, .invokevirtual 66, 3, 60, 2, 0, 365), (77, .ireturn, 1, 0, 0, 0, 0), (78, .aload_n 0, 1, 0, 0, 0, 0), (79, .iload_n 1, 1, 0, 0, 0, 0)],
  [(80, .invokevirtual 69, 3, 61, 2, 0, 376), (83, .ireturn, 1, 0, 0, 0, 0), (84, .aload_n 0, 1, 0, 0, 0, 0), (85, .iload_n 1, 1, 0, 0, 0, 0), (86, .invokevirtual 72, 3, 55, 2, 0, 354), (89, .ireturn, 1, 0, 0, 0, 0)]]
def iv_k53 : List (List ivE) := [[(0, .aload_n 0, 1, 0, 0, 0, 0), (1, .iconst 1, 1, 0, 0, 0, 0), (2, .putfield 34, 3, 6, 7, 0, 116), (5, .iload_n 1, 1, 0, 0, 0, 0), (6, .bipush 72, 2, 0, 0, 0, 0), (8, .if_icmp .ne 7, 3, 0, 0, 0, 0), (11, .iconst 1, 1, 0, 0, 0, 0), (12, .goto 4, 3, 0, 0, 0, 0), (15, .iconst 0, 1, 0, 0, 0, 0)],
  [(16, .ireturn, 1, 0, 0, 0, 0)]]
def iv_k54 : List (List ivE) := [[(0, .aload_n 0, 1, 0, 0, 0, 0), (1, .iconst 2, 1, 0, 0, 0, 0), (2, .putfield 34, 3, 6, 7, 0, 116), (5, .aload_n 0, 1, 0, 0, 0, 0), (6, .iload_n 1, 1, 0, 0, 0, 0), (7, .bipush 48, 2, 0, 0, 0, 0), (9, .isub, 1, 0, 0, 0, 0), (10, .putfield 21, 3, 6, 3, 0, 108), (13, .aload_n 0, 1, 0, 0, 0, 0), (14, .getfield 21, 3, 6, 3, 0, 108)],
  [(17, .ifCond .lt 15, 3, 0, 0, 0, 0), (20, .aload_n 0, 1, 0, 0, 0, 0), (21, .getfield 21, 3, 6, 3, 0, 108), (24, .iconst 3, 1, 0, 0, 0, 0), (25, .if_icmp .gt 7, 3, 0, 0, 0, 0), (28, .iconst 1, 1, 0, 0, 0, 0), (29, .goto 4, 3, 0, 0, 0, 0)],
  [(32, .iconst 0, 1, 0, 0, 0, 0), (33, .ireturn, 1, 0, 0, 0, 0)]]
def iv_k55 : List (List ivE) := [[(0, .iload_n 1, 1, 0, 0, 0, 0), (1, .lookupswitch 112 #[(75, 85), (78, 35), (80, 65)], 35, 0, 0, 0, 0)],
  [],
  [(36, .aload_n 0, 1, 0, 0, 0, 0), (37, .iconst 3, 1, 0, 0, 0, 0), (38, .putfield 34, 3, 6, 7, 0, 116), (41, .aload_n 0, 1, 0, 0, 0, 0), (42, .iconst 0, 1, 0, 0, 0, 0), (43, .putfield 75, 3, 6, 8, 0, 117), (46, .aload_n 0, 1, 0, 0, 0, 0), (47, .iconst 0, 1, 0, 0, 0, 0)],
  [(48, .putfield 78, 3, 6, 9, 0, 118), (51, .aload_n 0, 1, 0, 0, 0, 0), (52, .getfield 25, 3, 6, 4, 0, 110), (55, .bipush 8, 2, 0, 0, 0, 0), (57, .if_icmp .ge 7, 3, 0, 0, 0, 0), (60, .iconst 1, 1, 0, 0, 0, 0), (61, .goto 4, 3, 0, 0, 0, 0)],
  [(64, .iconst 0, 1, 0, 0, 0, 0), (65, .ireturn, 1, 0, 0, 0, 0), (66, .aload_n 0, 1, 0, 0, 0, 0), (67, .iconst 4, 1, 0, 0, 0, 0), (68, .putfield 34, 3, 6, 7, 0, 116), (71, .aload_n 0, 1, 0, 0, 0, 0), (72, .getfield 28, 3, 6, 5, 0, 113), (75, .bipush 6, 2, 0, 0, 0, 0), (77, .if_icmp .ge 7, 3, 0, 0, 0, 0)],
  [(80, .iconst 1, 1, 0, 0, 0, 0), (81, .goto 4, 3, 0, 0, 0, 0), (84, .iconst 0, 1, 0, 0, 0, 0), (85, .ireturn, 1, 0, 0, 0, 0), (86, .aload_n 0, 1, 0, 0, 0, 0), (87, .iconst 5, 1, 0, 0, 0, 0), (88, .putfield 34, 3, 6, 7, 0, 116), (91, .aload_n 0, 1, 0, 0, 0, 0), (92, .getfield 31, 3, 6, 6, 0, 115), (95, .aload_n 0, 1, 0, 0, 0, 0)],
  [(96, .getfield 25, 3, 6, 4, 0, 110), (99, .aload_n 0, 1, 0, 0, 0, 0), (100, .getfield 28, 3, 6, 5, 0, 113), (103, .imul, 1, 0, 0, 0, 0), (104, .if_icmp .ge 7, 3, 0, 0, 0, 0), (107, .iconst 1, 1, 0, 0, 0, 0), (108, .goto 4, 3, 0, 0, 0, 0), (111, .iconst 0, 1, 0, 0, 0, 0)],
  [(112, .ireturn, 1, 0, 0, 0, 0), (113, .iconst 0, 1, 0, 0, 0, 0), (114, .ireturn, 1, 0, 0, 0, 0)]]
def iv_k56 : List (List ivE) := [[(0, .iload_n 1, 1, 0, 0, 0, 0), (1, .bipush 97, 2, 0, 0, 0, 0), (3, .isub, 1, 0, 0, 0, 0), (4, .istore_n 2, 1, 0, 0, 0, 0), (5, .iload_n 2, 1, 0, 0, 0, 0), (6, .ifCond .lt 9, 3, 0, 0, 0, 0), (9, .iload_n 2, 1, 0, 0, 0, 0), (10, .bipush 6, 2, 0, 0, 0, 0), (12, .if_icmp .lt 24, 3, 0, 0, 0, 0), (15, .aload_n 0, 1, 0, 0, 0, 0)],
  [(16, .invokevirtual 50, 3, 57, 1, 0, 346), (19, .ifCond .eq 15, 3, 0, 0, 0, 0), (22, .aload_n 0, 1, 0, 0, 0, 0), (23, .iload_n 1, 1, 0, 0, 0, 0), (24, .invokevirtual 72, 3, 55, 2, 0, 354), (27, .ifCond .eq 7, 3, 0, 0, 0, 0), (30, .iconst 1, 1, 0, 0, 0, 0), (31, .goto 4, 3, 0, 0, 0, 0)],
  [(34, .iconst 0, 1, 0, 0, 0, 0), (35, .ireturn, 1, 0, 0, 0, 0), (36, .aload_n 0, 1, 0, 0, 0, 0), (37, .aload_n 0, 1, 0, 0, 0, 0), (38, .getfield 75, 3, 6, 8, 0, 117), (41, .aload_n 0, 1, 0, 0, 0, 0), (42, .getfield 78, 3, 6, 9, 0, 118), (45, .iload_n 2, 1, 0, 0, 0, 0), (46, .invokestatic 81, 3, 25, 3, 0, 358)],
  [(49, .putfield 75, 3, 6, 8, 0, 117), (52, .aload_n 0, 1, 0, 0, 0, 0), (53, .dup, 1, 0, 0, 0, 0), (54, .getfield 78, 3, 6, 9, 0, 118), (57, .iconst 1, 1, 0, 0, 0, 0), (58, .iadd, 1, 0, 0, 0, 0), (59, .putfield 78, 3, 6, 9, 0, 118), (62, .aload_n 0, 1, 0, 0, 0, 0), (63, .getfield 78, 3, 6, 9, 0, 118)],
  [(66, .iconst 5, 1, 0, 0, 0, 0), (67, .if_icmp .lt 10, 3, 0, 0, 0, 0), (70, .aload_n 0, 1, 0, 0, 0, 0), (71, .invokevirtual 50, 3, 57, 1, 0, 346), (74, .ifCond .eq 7, 3, 0, 0, 0, 0), (77, .iconst 1, 1, 0, 0, 0, 0), (78, .goto 4, 3, 0, 0, 0, 0)],
  [(81, .iconst 0, 1, 0, 0, 0, 0), (82, .ireturn, 1, 0, 0, 0, 0)]]
def iv_k57 : List (List ivE) := [[(0, .aload_n 0, 1, 0, 0, 0, 0), (1, .getfield 78, 3, 6, 9, 0, 118), (4, .ifCond .eq 30, 3, 0, 0, 0, 0), (7, .aload_n 0, 1, 0, 0, 0, 0), (8, .getfield 25, 3, 6, 4, 0, 110), (11, .ifCond .lt 23, 3, 0, 0, 0, 0), (14, .aload_n 0, 1, 0, 0, 0, 0), (15, .getfield 25, 3, 6, 4, 0, 110)],
  [(18, .bipush 8, 2, 0, 0, 0, 0), (20, .if_icmp .ge 14, 3, 0, 0, 0, 0), (23, .aload_n 0, 1, 0, 0, 0, 0), (24, .aload_n 0, 1, 0, 0, 0, 0), (25, .getfield 75, 3, 6, 8, 0, 117), (28, .invokevirtual 87, 3, 58, 2, 0, 350), (31, .ifCond .eq 5, 3, 0, 0, 0, 0)],
  [(34, .iconst 0, 1, 0, 0, 0, 0), (35, .ireturn, 1, 0, 0, 0, 0), (36, .aload_n 0, 1, 0, 0, 0, 0), (37, .getfield 9, 3, 6, 0, 0, 102), (40, .aload_n 0, 1, 0, 0, 0, 0), (41, .getfield 25, 3, 6, 4, 0, 110), (44, .aload_n 0, 1, 0, 0, 0, 0), (45, .getfield 75, 3, 6, 8, 0, 117)],
  [(48, .iastore, 1, 0, 0, 0, 0), (49, .aload_n 0, 1, 0, 0, 0, 0), (50, .getfield 15, 3, 6, 1, 0, 104), (53, .aload_n 0, 1, 0, 0, 0, 0), (54, .getfield 25, 3, 6, 4, 0, 110), (57, .iconst 0, 1, 0, 0, 0, 0), (58, .iastore, 1, 0, 0, 0, 0), (59, .aload_n 0, 1, 0, 0, 0, 0), (60, .dup, 1, 0, 0, 0, 0), (61, .getfield 25, 3, 6, 4, 0, 110)],
  [(64, .iconst 1, 1, 0, 0, 0, 0), (65, .iadd, 1, 0, 0, 0, 0), (66, .putfield 25, 3, 6, 4, 0, 110), (69, .aload_n 0, 1, 0, 0, 0, 0), (70, .iconst 2, 1, 0, 0, 0, 0), (71, .putfield 34, 3, 6, 7, 0, 116), (74, .iconst 1, 1, 0, 0, 0, 0), (75, .ireturn, 1, 0, 0, 0, 0)]]
def iv_k58 : List (List ivE) := [[(0, .iconst 0, 1, 0, 0, 0, 0), (1, .istore_n 2, 1, 0, 0, 0, 0), (2, .iload_n 2, 1, 0, 0, 0, 0), (3, .aload_n 0, 1, 0, 0, 0, 0), (4, .getfield 25, 3, 6, 4, 0, 110), (7, .if_icmp .ge 27, 3, 0, 0, 0, 0), (10, .iload_n 2, 1, 0, 0, 0, 0), (11, .bipush 8, 2, 0, 0, 0, 0), (13, .if_icmp .ge 21, 3, 0, 0, 0, 0)],
  [(16, .aload_n 0, 1, 0, 0, 0, 0), (17, .getfield 9, 3, 6, 0, 0, 102), (20, .iload_n 2, 1, 0, 0, 0, 0), (21, .iaload, 1, 0, 0, 0, 0), (22, .iload_n 1, 1, 0, 0, 0, 0), (23, .if_icmp .ne 5, 3, 0, 0, 0, 0), (26, .iconst 1, 1, 0, 0, 0, 0), (27, .ireturn, 1, 0, 0, 0, 0), (28, .iinc 2 1, 3, 0, 0, 0, 0), (31, .goto (-29), 3, 0, 0, 0, 0)],
  [(34, .iconst 0, 1, 0, 0, 0, 0), (35, .ireturn, 1, 0, 0, 0, 0)]]
def iv_k59 : List (List ivE) := [[(0, .iload_n 1, 1, 0, 0, 0, 0), (1, .bipush 48, 2, 0, 0, 0, 0), (3, .isub, 1, 0, 0, 0, 0), (4, .istore_n 2, 1, 0, 0, 0, 0), (5, .iload_n 2, 1, 0, 0, 0, 0), (6, .iconst 1, 1, 0, 0, 0, 0), (7, .if_icmp .lt 25, 3, 0, 0, 0, 0), (10, .iload_n 2, 1, 0, 0, 0, 0), (11, .bipush 9, 2, 0, 0, 0, 0), (13, .if_icmp .gt 19, 3, 0, 0, 0, 0)],
  [(16, .aload_n 0, 1, 0, 0, 0, 0), (17, .getfield 28, 3, 6, 5, 0, 113), (20, .ifCond .lt 12, 3, 0, 0, 0, 0), (23, .aload_n 0, 1, 0, 0, 0, 0), (24, .getfield 28, 3, 6, 5, 0, 113), (27, .bipush 6, 2, 0, 0, 0, 0), (29, .if_icmp .lt 5, 3, 0, 0, 0, 0)],
  [(32, .iconst 0, 1, 0, 0, 0, 0), (33, .ireturn, 1, 0, 0, 0, 0), (34, .aload_n 0, 1, 0, 0, 0, 0), (35, .getfield 18, 3, 6, 2, 0, 106), (38, .aload_n 0, 1, 0, 0, 0, 0), (39, .getfield 28, 3, 6, 5, 0, 113), (42, .iload_n 2, 1, 0, 0, 0, 0), (43, .iastore, 1, 0, 0, 0, 0), (44, .aload_n 0, 1, 0, 0, 0, 0), (45, .dup, 1, 0, 0, 0, 0), (46, .getfield 28, 3, 6, 5, 0, 113)],
  [(49, .iconst 1, 1, 0, 0, 0, 0), (50, .iadd, 1, 0, 0, 0, 0), (51, .putfield 28, 3, 6, 5, 0, 113), (54, .aload_n 0, 1, 0, 0, 0, 0), (55, .iconst 2, 1, 0, 0, 0, 0), (56, .putfield 34, 3, 6, 7, 0, 116), (59, .iconst 1, 1, 0, 0, 0, 0), (60, .ireturn, 1, 0, 0, 0, 0)]]
def iv_k60 : List (List ivE) := [[(0, .aload_n 0, 1, 0, 0, 0, 0), (1, .iload_n 1, 1, 0, 0, 0, 0), (2, .bipush 48, 2, 0, 0, 0, 0), (4, .isub, 1, 0, 0, 0, 0), (5, .putfield 90, 3, 6, 10, 0, 119), (8, .aload_n 0, 1, 0, 0, 0, 0), (9, .bipush 6, 2, 0, 0, 0, 0), (11, .putfield 34, 3, 6, 7, 0, 116), (14, .aload_n 0, 1, 0, 0, 0, 0), (15, .getfield 90, 3, 6, 10, 0, 119)],
  [(18, .ifCond .lt 29, 3, 0, 0, 0, 0), (21, .aload_n 0, 1, 0, 0, 0, 0), (22, .getfield 90, 3, 6, 10, 0, 119), (25, .aload_n 0, 1, 0, 0, 0, 0), (26, .getfield 28, 3, 6, 5, 0, 113), (29, .if_icmp .ge 18, 3, 0, 0, 0, 0)],
  [(32, .aload_n 0, 1, 0, 0, 0, 0), (33, .aload_n 0, 1, 0, 0, 0, 0), (34, .getfield 90, 3, 6, 10, 0, 119), (37, .invokevirtual 93, 3, 62, 2, 0, 369), (40, .ifCond .eq 7, 3, 0, 0, 0, 0), (43, .iconst 1, 1, 0, 0, 0, 0), (44, .goto 4, 3, 0, 0, 0, 0), (47, .iconst 0, 1, 0, 0, 0, 0)],
  [(48, .ireturn, 1, 0, 0, 0, 0)]]
def iv_k61 : List (List ivE) := [[(0, .iload_n 1, 1, 0, 0, 0, 0), (1, .bipush 48, 2, 0, 0, 0, 0), (3, .isub, 1, 0, 0, 0, 0), (4, .istore_n 2, 1, 0, 0, 0, 0), (5, .iload_n 2, 1, 0, 0, 0, 0), (6, .ifCond .lt 33, 3, 0, 0, 0, 0), (9, .iload_n 2, 1, 0, 0, 0, 0), (10, .aload_n 0, 1, 0, 0, 0, 0), (11, .getfield 25, 3, 6, 4, 0, 110), (14, .if_icmp .ge 25, 3, 0, 0, 0, 0)],
  [(17, .iload_n 2, 1, 0, 0, 0, 0), (18, .bipush 8, 2, 0, 0, 0, 0), (20, .if_icmp .ge 19, 3, 0, 0, 0, 0), (23, .aload_n 0, 1, 0, 0, 0, 0), (24, .getfield 15, 3, 6, 1, 0, 104), (27, .iload_n 2, 1, 0, 0, 0, 0), (28, .iaload, 1, 0, 0, 0, 0), (29, .aload_n 0, 1, 0, 0, 0, 0), (30, .getfield 90, 3, 6, 10, 0, 119)],
  [(33, .invokestatic 96, 3, 98, 2, 1, 373), (36, .ifCond .eq 5, 3, 0, 0, 0, 0), (39, .iconst 0, 1, 0, 0, 0, 0), (40, .ireturn, 1, 0, 0, 0, 0), (41, .aload_n 0, 1, 0, 0, 0, 0), (42, .getfield 15, 3, 6, 1, 0, 104), (45, .iload_n 2, 1, 0, 0, 0, 0), (46, .dup2, 1, 0, 0, 0, 0), (47, .iaload, 1, 0, 0, 0, 0)],
  [(48, .iconst 1, 1, 0, 0, 0, 0), (49, .aload_n 0, 1, 0, 0, 0, 0), (50, .getfield 90, 3, 6, 10, 0, 119), (53, .ishl, 1, 0, 0, 0, 0), (54, .ior, 1, 0, 0, 0, 0), (55, .iastore, 1, 0, 0, 0, 0), (56, .aload_n 0, 1, 0, 0, 0, 0), (57, .dup, 1, 0, 0, 0, 0), (58, .getfield 31, 3, 6, 6, 0, 115), (61, .iconst 1, 1, 0, 0, 0, 0), (62, .iadd, 1, 0, 0, 0, 0), (63, .putfield 31, 3, 6, 6, 0, 115)],
  [(66, .aload_n 0, 1, 0, 0, 0, 0), (67, .iconst 2, 1, 0, 0, 0, 0), (68, .putfield 34, 3, 6, 7, 0, 116), (71, .iconst 1, 1, 0, 0, 0, 0), (72, .ireturn, 1, 0, 0, 0, 0)]]
def iv_k62 : List (List ivE) := [[(0, .iconst 0, 1, 0, 0, 0, 0), (1, .istore_n 2, 1, 0, 0, 0, 0), (2, .iload_n 2, 1, 0, 0, 0, 0), (3, .aload_n 0, 1, 0, 0, 0, 0), (4, .getfield 25, 3, 6, 4, 0, 110), (7, .if_icmp .ge 30, 3, 0, 0, 0, 0), (10, .iload_n 2, 1, 0, 0, 0, 0), (11, .bipush 8, 2, 0, 0, 0, 0), (13, .if_icmp .ge 24, 3, 0, 0, 0, 0)],
  [(16, .aload_n 0, 1, 0, 0, 0, 0), (17, .getfield 15, 3, 6, 1, 0, 104), (20, .iload_n 2, 1, 0, 0, 0, 0), (21, .iaload, 1, 0, 0, 0, 0), (22, .iload_n 1, 1, 0, 0, 0, 0), (23, .invokestatic 96, 3, 98, 2, 1, 373), (26, .ifCond .ne 5, 3, 0, 0, 0, 0), (29, .iconst 1, 1, 0, 0, 0, 0), (30, .ireturn, 1, 0, 0, 0, 0), (31, .iinc 2 1, 3, 0, 0, 0, 0)],
  [(34, .goto (-32), 3, 0, 0, 0, 0), (37, .iconst 0, 1, 0, 0, 0, 0), (38, .ireturn, 1, 0, 0, 0, 0)]]
def iv_k63 : List (List ivE) := [[(0, .aload_n 0, 1, 0, 0, 0, 0), (1, .invokespecial 3, 3, 1000, 0, 0, 85), (4, .aload_n 0, 1, 0, 0, 0, 0), (5, .bipush 96, 2, 0, 0, 0, 0), (7, .newarray .int, 2, 0, 0, 0, 0), (9, .putfield 9, 3, 7, 0, 0, 86), (12, .return_, 1, 0, 0, 0, 0)]]
def iv_k64 : List (List ivE) := [[(0, .aload_n 0, 1, 0, 0, 0, 0), (1, .getfield 15, 3, 7, 1, 0, 87), (4, .ifCond .lt 32, 3, 0, 0, 0, 0), (7, .aload_n 0, 1, 0, 0, 0, 0), (8, .getfield 15, 3, 7, 1, 0, 87), (11, .bipush 96, 2, 0, 0, 0, 0), (13, .if_icmp .ge 23, 3, 0, 0, 0, 0)],
  [(16, .aload_n 0, 1, 0, 0, 0, 0), (17, .getfield 9, 3, 7, 0, 0, 86), (20, .aload_n 0, 1, 0, 0, 0, 0), (21, .getfield 15, 3, 7, 1, 0, 87), (24, .iload_n 1, 1, 0, 0, 0, 0), (25, .iastore, 1, 0, 0, 0, 0), (26, .aload_n 0, 1, 0, 0, 0, 0), (27, .dup, 1, 0, 0, 0, 0), (28, .getfield 15, 3, 7, 1, 0, 87), (31, .iconst 1, 1, 0, 0, 0, 0)],
  [(32, .iadd, 1, 0, 0, 0, 0), (33, .putfield 15, 3, 7, 1, 0, 87), (36, .return_, 1, 0, 0, 0, 0)]]
def iv_k65 : List (List ivE) := [[(0, .iload_n 1, 1, 0, 0, 0, 0), (1, .ifCond .lt 18, 3, 0, 0, 0, 0), (4, .iload_n 1, 1, 0, 0, 0, 0), (5, .bipush 96, 2, 0, 0, 0, 0), (7, .if_icmp .ge 12, 3, 0, 0, 0, 0), (10, .aload_n 0, 1, 0, 0, 0, 0), (11, .getfield 9, 3, 7, 0, 0, 86), (14, .iload_n 1, 1, 0, 0, 0, 0), (15, .iaload, 1, 0, 0, 0, 0)],
  [(16, .goto 4, 3, 0, 0, 0, 0), (19, .iconst 0, 1, 0, 0, 0, 0), (20, .ireturn, 1, 0, 0, 0, 0)]]
def iv_k66 : List (List ivE) := [[(0, .aload_n 0, 1, 0, 0, 0, 0), (1, .invokespecial 1, 3, 1000, 0, 0, 77), (4, .aload_n 0, 1, 0, 0, 0, 0), (5, .new 7, 3, 7, 0, 0, 80), (8, .dup, 1, 0, 0, 0, 0), (9, .invokespecial 9, 3, 63, 1, 1, 82), (12, .putfield 10, 3, 8, 0, 0, 278), (15, .aload_n 0, 1, 0, 0, 0, 0)],
  [(16, .new 16, 3, 6, 0, 0, 96), (19, .dup, 1, 0, 0, 0, 0), (20, .invokespecial 18, 3, 50, 1, 1, 98), (23, .putfield 19, 3, 8, 1, 0, 279), (26, .aload_n 0, 1, 0, 0, 0, 0), (27, .new 23, 3, 1, 0, 0, 143), (30, .dup, 1, 0, 0, 0, 0), (31, .invokespecial 25, 3, 11, 1, 1, 145)],
  [(34, .putfield 26, 3, 8, 2, 0, 280), (37, .aload_n 0, 1, 0, 0, 0, 0), (38, .new 30, 3, 2, 0, 0, 166), (41, .dup, 1, 0, 0, 0, 0), (42, .invokespecial 32, 3, 17, 1, 1, 168), (45, .putfield 33, 3, 8, 3, 0, 281)],
  [(48, .aload_n 0, 1, 0, 0, 0, 0), (49, .iconst 2, 1, 0, 0, 0, 0), (50, .anewarray 30, 3, 2, 0, 0, 166), (53, .putfield 37, 3, 8, 4, 0, 282), (56, .iconst 0, 1, 0, 0, 0, 0), (57, .istore_n 1, 1, 0, 0, 0, 0), (58, .iload_n 1, 1, 0, 0, 0, 0), (59, .iconst 2, 1, 0, 0, 0, 0), (60, .if_icmp .ge 22, 3, 0, 0, 0, 0), (63, .aload_n 0, 1, 0, 0, 0, 0)],
  [(64, .getfield 37, 3, 8, 4, 0, 282), (67, .iload_n 1, 1, 0, 0, 0, 0), (68, .new 30, 3, 2, 0, 0, 166), (71, .dup, 1, 0, 0, 0, 0), (72, .invokespecial 32, 3, 17, 1, 1, 168), (75, .aastore, 1, 0, 0, 0, 0), (76, .iinc 1 1, 3, 0, 0, 0, 0), (79, .goto (-21), 3, 0, 0, 0, 0)],
  [(82, .aload_n 0, 1, 0, 0, 0, 0), (83, .new 41, 3, 3, 0, 0, 193), (86, .dup, 1, 0, 0, 0, 0), (87, .invokespecial 43, 3, 28, 1, 1, 195), (90, .putfield 44, 3, 8, 5, 0, 283), (93, .aload_n 0, 1, 0, 0, 0, 0), (94, .new 48, 3, 4, 0, 0, 211)],
  [(97, .dup, 1, 0, 0, 0, 0), (98, .invokespecial 50, 3, 33, 1, 0, 213), (101, .putfield 51, 3, 8, 6, 0, 284), (104, .aload_n 0, 1, 0, 0, 0, 0), (105, .new 55, 3, 0, 0, 0, 230), (108, .dup, 1, 0, 0, 0, 0), (109, .invokespecial 57, 3, 0, 1, 1, 232)],
  [(112, .putfield 58, 3, 8, 7, 0, 285), (115, .aload_n 0, 1, 0, 0, 0, 0), (116, .new 62, 3, 5, 0, 0, 255), (119, .dup, 1, 0, 0, 0, 0), (120, .invokespecial 64, 3, 42, 1, 1, 257), (123, .putfield 65, 3, 8, 8, 0, 286), (126, .return_, 1, 0, 0, 0, 0)]]
def iv_k67 : List (List ivE) := [[(0, .iload_n 1, 1, 0, 0, 0, 0), (1, .iconst 1, 1, 0, 0, 0, 0), (2, .if_icmp .lt 9, 3, 0, 0, 0, 0), (5, .iload_n 1, 1, 0, 0, 0, 0), (6, .bipush 8, 2, 0, 0, 0, 0), (8, .if_icmp .le 6, 3, 0, 0, 0, 0), (11, .bipush (-2), 2, 0, 0, 0, 0), (13, .ireturn, 1, 0, 0, 0, 0), (14, .aload_n 0, 1, 0, 0, 0, 0), (15, .getfield 10, 3, 8, 0, 0, 278)],
  [(18, .getfield 69, 3, 7, 1, 0, 88), (21, .iload_n 1, 1, 0, 0, 0, 0), (22, .iadd, 1, 0, 0, 0, 0), (23, .bipush 96, 2, 0, 0, 0, 0), (25, .if_icmp .le 6, 3, 0, 0, 0, 0), (28, .bipush (-4), 2, 0, 0, 0, 0), (30, .ireturn, 1, 0, 0, 0, 0), (31, .iload_n 1, 1, 0, 0, 0, 0)],
  [(32, .iconst 1, 1, 0, 0, 0, 0), (33, .isub, 1, 0, 0, 0, 0), (34, .istore 4, 2, 0, 0, 0, 0), (36, .iload 4, 2, 0, 0, 0, 0), (38, .ifCond .lt 28, 3, 0, 0, 0, 0), (41, .aload_n 0, 1, 0, 0, 0, 0), (42, .getfield 10, 3, 8, 0, 0, 278), (45, .lload_n 2, 1, 0, 0, 0, 0), (46, .bipush 8, 2, 0, 0, 0, 0)],
  [(48, .iload 4, 2, 0, 0, 0, 0), (50, .imul, 1, 0, 0, 0, 0), (51, .lushr, 1, 0, 0, 0, 0), (52, .l2i, 1, 0, 0, 0, 0), (53, .sipush 255, 3, 0, 0, 0, 0), (56, .iand, 1, 0, 0, 0, 0), (57, .invokevirtual 73, 3, 64, 2, 0, 310), (60, .iinc 4 (-1), 3, 0, 0, 0, 0), (63, .goto (-27), 3, 0, 0, 0, 0)],
  [(66, .aload_n 0, 1, 0, 0, 0, 0), (67, .getfield 10, 3, 8, 0, 0, 278), (70, .getfield 69, 3, 7, 1, 0, 88), (73, .ireturn, 1, 0, 0, 0, 0)]]
def iv_k68 : List (List ivE) := [[(0, .aload_n 0, 1, 0, 0, 0, 0), (1, .getfield 10, 3, 8, 0, 0, 278), (4, .getfield 69, 3, 7, 1, 0, 88), (7, .istore_n 1, 1, 0, 0, 0, 0), (8, .aload_n 0, 1, 0, 0, 0, 0), (9, .getfield 10, 3, 8, 0, 0, 278), (12, .iconst 0, 1, 0, 0, 0, 0), (13, .putfield 69, 3, 7, 1, 0, 88)],
  [(16, .iload_n 1, 1, 0, 0, 0, 0), (17, .ireturn, 1, 0, 0, 0, 0)]]
def iv_k69 : List (List ivE) := [[(0, .aload_n 0, 1, 0, 0, 0, 0), (1, .getfield 19, 3, 8, 1, 0, 279), (4, .aload_n 0, 1, 0, 0, 0, 0), (5, .getfield 10, 3, 8, 0, 0, 278), (8, .invokevirtual 77, 3, 51, 2, 0, 322), (11, .ireturn, 1, 0, 0, 0, 0)]]
def iv_k70 : List (List ivE) := [[(0, .aload_n 0, 1, 0, 0, 0, 0), (1, .getfield 19, 3, 8, 1, 0, 279), (4, .aload_n 0, 1, 0, 0, 0, 0), (5, .getfield 10, 3, 8, 0, 0, 278), (8, .invokevirtual 77, 3, 51, 2, 0, 322), (11, .bipush (-9), 2, 0, 0, 0, 0), (13, .if_icmp .eq 6, 3, 0, 0, 0, 0)],
  [(16, .bipush (-3), 2, 0, 0, 0, 0), (18, .ireturn, 1, 0, 0, 0, 0), (19, .aload_n 0, 1, 0, 0, 0, 0), (20, .getfield 26, 3, 8, 2, 0, 280), (23, .aload_n 0, 1, 0, 0, 0, 0), (24, .getfield 19, 3, 8, 1, 0, 279), (27, .invokevirtual 81, 3, 12, 2, 0, 384), (30, .aload_n 0, 1, 0, 0, 0, 0), (31, .getfield 33, 3, 8, 3, 0, 281)],
  [(34, .aload_n 0, 1, 0, 0, 0, 0), (35, .getfield 19, 3, 8, 1, 0, 279), (38, .invokevirtual 85, 3, 18, 2, 0, 388), (41, .iconst 0, 1, 0, 0, 0, 0), (42, .istore_n 1, 1, 0, 0, 0, 0), (43, .iload_n 1, 1, 0, 0, 0, 0), (44, .iconst 2, 1, 0, 0, 0, 0), (45, .if_icmp .ge 24, 3, 0, 0, 0, 0)],
  [(48, .aload_n 0, 1, 0, 0, 0, 0), (49, .iload_n 1, 1, 0, 0, 0, 0), (50, .invokevirtual 88, 3, 100, 2, 0, 392), (53, .astore_n 2, 1, 0, 0, 0, 0), (54, .aload_n 2, 1, 0, 0, 0, 0), (55, .ifnull 8, 3, 0, 0, 0, 0), (58, .aload_n 2, 1, 0, 0, 0, 0), (59, .iconst 0, 1, 0, 0, 0, 0), (60, .putfield 92, 3, 2, 4, 0, 180), (63, .iinc 1 1, 3, 0, 0, 0, 0)],
  [(66, .goto (-23), 3, 0, 0, 0, 0), (69, .bipush 10, 2, 0, 0, 0, 0), (71, .aload_n 0, 1, 0, 0, 0, 0), (72, .getfield 26, 3, 8, 2, 0, 280), (75, .getfield 96, 3, 1, 2, 0, 154), (78, .imul, 1, 0, 0, 0, 0), (79, .aload_n 0, 1, 0, 0, 0, 0)],
  [(80, .getfield 26, 3, 8, 2, 0, 280), (83, .getfield 99, 3, 1, 3, 0, 156), (86, .iadd, 1, 0, 0, 0, 0), (87, .ireturn, 1, 0, 0, 0, 0)]]
def iv_k71 : List (List ivE) := [[(0, .aload_n 0, 1, 0, 0, 0, 0), (1, .getfield 26, 3, 8, 2, 0, 280), (4, .iload_n 1, 1, 0, 0, 0, 0), (5, .invokevirtual 102, 3, 13, 2, 0, 400), (8, .ifCond .ne 5, 3, 0, 0, 0, 0), (11, .iconst (-1), 1, 0, 0, 0, 0), (12, .ireturn, 1, 0, 0, 0, 0), (13, .aload_n 0, 1, 0, 0, 0, 0), (14, .getfield 33, 3, 8, 3, 0, 281)],
  [(17, .getfield 106, 3, 2, 0, 0, 173), (20, .iload_n 1, 1, 0, 0, 0, 0), (21, .iaload, 1, 0, 0, 0, 0), (22, .iload_n 2, 1, 0, 0, 0, 0), (23, .invokestatic 110, 3, 24, 2, 0, 404), (26, .ireturn, 1, 0, 0, 0, 0)]]
def iv_k72 : List (List ivE) := [[(0, .aload_n 0, 1, 0, 0, 0, 0), (1, .getfield 26, 3, 8, 2, 0, 280), (4, .iload_n 1, 1, 0, 0, 0, 0), (5, .invokevirtual 102, 3, 13, 2, 0, 400), (8, .ifCond .eq 14, 3, 0, 0, 0, 0), (11, .aload_n 0, 1, 0, 0, 0, 0), (12, .getfield 26, 3, 8, 2, 0, 280), (15, .iload_n 2, 1, 0, 0, 0, 0)],
  [(16, .invokevirtual 102, 3, 13, 2, 0, 400), (19, .ifCond .ne 5, 3, 0, 0, 0, 0), (22, .iconst (-1), 1, 0, 0, 0, 0), (23, .ireturn, 1, 0, 0, 0, 0), (24, .aload_n 0, 1, 0, 0, 0, 0), (25, .getfield 44, 3, 8, 5, 0, 283), (28, .aload_n 0, 1, 0, 0, 0, 0), (29, .getfield 33, 3, 8, 3, 0, 281)],
  [(32, .getfield 106, 3, 2, 0, 0, 173), (35, .iload_n 1, 1, 0, 0, 0, 0), (36, .iaload, 1, 0, 0, 0, 0), (37, .aload_n 0, 1, 0, 0, 0, 0), (38, .getfield 33, 3, 8, 3, 0, 281), (41, .getfield 106, 3, 2, 0, 0, 173), (44, .iload_n 2, 1, 0, 0, 0, 0), (45, .iaload, 1, 0, 0, 0, 0), (46, .invokevirtual 116, 3, 29, 3, 0, 411)],
  [(49, .ireturn, 1, 0, 0, 0, 0)]]
def iv_k73 : List (List ivE) := [[(0, .aload_n 0, 1, 0, 0, 0, 0), (1, .getfield 26, 3, 8, 2, 0, 280), (4, .iload_n 1, 1, 0, 0, 0, 0), (5, .invokevirtual 102, 3, 13, 2, 0, 400), (8, .ifCond .ne 5, 3, 0, 0, 0, 0), (11, .iconst (-1), 1, 0, 0, 0, 0), (12, .ireturn, 1, 0, 0, 0, 0), (13, .aload_n 0, 1, 0, 0, 0, 0), (14, .getfield 33, 3, 8, 3, 0, 281)],
  [(17, .iload_n 1, 1, 0, 0, 0, 0), (18, .invokevirtual 119, 3, 20, 2, 0, 434), (21, .ifCond .ne 6, 3, 0, 0, 0, 0), (24, .bipush (-3), 2, 0, 0, 0, 0), (26, .ireturn, 1, 0, 0, 0, 0), (27, .aload_n 0, 1, 0, 0, 0, 0), (28, .aload_n 0, 1, 0, 0, 0, 0), (29, .getfield 33, 3, 8, 3, 0, 281)],
  [(32, .getfield 106, 3, 2, 0, 0, 173), (35, .iload_n 1, 1, 0, 0, 0, 0), (36, .iaload, 1, 0, 0, 0, 0), (37, .aload_n 0, 1, 0, 0, 0, 0), (38, .getfield 33, 3, 8, 3, 0, 281), (41, .invokevirtual 122, 3, 21, 1, 0, 438), (44, .iconst 1, 1, 0, 0, 0, 0), (45, .iload_n 1, 1, 0, 0, 0, 0), (46, .ishl, 1, 0, 0, 0, 0), (47, .iconst (-1), 1, 0, 0, 0, 0)],
  [(48, .ixor, 1, 0, 0, 0, 0), (49, .iand, 1, 0, 0, 0, 0), (50, .invokevirtual 126, 3, 104, 3, 0, 443), (53, .ireturn, 1, 0, 0, 0, 0)]]
def iv_k74 : List (List ivE) := [[(0, .aload_n 0, 1, 0, 0, 0, 0), (1, .getfield 26, 3, 8, 2, 0, 280), (4, .iload_n 1, 1, 0, 0, 0, 0), (5, .invokevirtual 102, 3, 13, 2, 0, 400), (8, .ifCond .eq 15, 3, 0, 0, 0, 0), (11, .aload_n 0, 1, 0, 0, 0, 0), (12, .getfield 33, 3, 8, 3, 0, 281), (15, .getfield 129, 3, 2, 2, 0, 177)],
  [(18, .iload_n 1, 1, 0, 0, 0, 0), (19, .iaload, 1, 0, 0, 0, 0), (20, .goto 4, 3, 0, 0, 0, 0), (23, .iconst (-1), 1, 0, 0, 0, 0), (24, .ireturn, 1, 0, 0, 0, 0)]]
def iv_k75 : List (List ivE) := [[(0, .aload_n 0, 1, 0, 0, 0, 0), (1, .getfield 33, 3, 8, 3, 0, 281), (4, .invokevirtual 122, 3, 21, 1, 0, 438), (7, .ireturn, 1, 0, 0, 0, 0)]]
def iv_k76 : List (List ivE) := [[(0, .iload_n 1, 1, 0, 0, 0, 0), (1, .iconst 1, 1, 0, 0, 0, 0), (2, .if_icmp .lt 9, 3, 0, 0, 0, 0), (5, .iload_n 1, 1, 0, 0, 0, 0), (6, .bipush 99, 2, 0, 0, 0, 0), (8, .if_icmp .le 6, 3, 0, 0, 0, 0), (11, .bipush (-2), 2, 0, 0, 0, 0), (13, .ireturn, 1, 0, 0, 0, 0), (14, .aload_n 0, 1, 0, 0, 0, 0), (15, .getfield 33, 3, 8, 3, 0, 281)],
  [(18, .iload_n 1, 1, 0, 0, 0, 0), (19, .invokevirtual 132, 3, 22, 2, 0, 460), (22, .ireturn, 1, 0, 0, 0, 0)]]
def iv_k77 : List (List ivE) := [[(0, .aload_n 0, 1, 0, 0, 0, 0), (1, .getfield 26, 3, 8, 2, 0, 280), (4, .iload_n 1, 1, 0, 0, 0, 0), (5, .invokevirtual 102, 3, 13, 2, 0, 400), (8, .ifCond .ne 5, 3, 0, 0, 0, 0), (11, .iconst (-1), 1, 0, 0, 0, 0), (12, .ireturn, 1, 0, 0, 0, 0), (13, .aload_n 0, 1, 0, 0, 0, 0), (14, .getfield 33, 3, 8, 3, 0, 281)],
  [(17, .iload_n 1, 1, 0, 0, 0, 0), (18, .invokevirtual 119, 3, 20, 2, 0, 434), (21, .ifCond .ne 6, 3, 0, 0, 0, 0), (24, .bipush (-3), 2, 0, 0, 0, 0), (26, .ireturn, 1, 0, 0, 0, 0), (27, .aload_n 0, 1, 0, 0, 0, 0), (28, .getfield 33, 3, 8, 3, 0, 281), (31, .getfield 136, 3, 2, 1, 0, 175)],
  [(34, .iload_n 1, 1, 0, 0, 0, 0), (35, .iaload, 1, 0, 0, 0, 0), (36, .bipush 9, 2, 0, 0, 0, 0), (38, .iadd, 1, 0, 0, 0, 0), (39, .iconst 1, 1, 0, 0, 0, 0), (40, .iadd, 1, 0, 0, 0, 0), (41, .aload_n 0, 1, 0, 0, 0, 0), (42, .getfield 33, 3, 8, 3, 0, 281), (45, .getfield 139, 3, 2, 3, 0, 179)],
  [(48, .isub, 1, 0, 0, 0, 0), (49, .ireturn, 1, 0, 0, 0, 0)]]
def iv_k78 : List (List ivE) := [[(0, .aload_n 0, 1, 0, 0, 0, 0), (1, .getfield 26, 3, 8, 2, 0, 280), (4, .iload_n 1, 1, 0, 0, 0, 0), (5, .invokevirtual 142, 3, 14, 2, 0, 474), (8, .ifCond .eq 14, 3, 0, 0, 0, 0), (11, .aload_n 0, 1, 0, 0, 0, 0), (12, .getfield 26, 3, 8, 2, 0, 280), (15, .iload_n 2, 1, 0, 0, 0, 0)],
  [(16, .invokevirtual 102, 3, 13, 2, 0, 400), (19, .ifCond .ne 5, 3, 0, 0, 0, 0), (22, .iconst (-1), 1, 0, 0, 0, 0), (23, .ireturn, 1, 0, 0, 0, 0), (24, .aload_n 0, 1, 0, 0, 0, 0), (25, .getfield 26, 3, 8, 2, 0, 280), (28, .iload_n 3, 1, 0, 0, 0, 0), (29, .invokevirtual 145, 3, 16, 2, 0, 478)],
  [(32, .ifCond .ne 6, 3, 0, 0, 0, 0), (35, .bipush (-2), 2, 0, 0, 0, 0), (37, .ireturn, 1, 0, 0, 0, 0), (38, .aload_n 0, 1, 0, 0, 0, 0), (39, .getfield 33, 3, 8, 3, 0, 281), (42, .getfield 129, 3, 2, 2, 0, 177), (45, .iload_n 2, 1, 0, 0, 0, 0), (46, .iaload, 1, 0, 0, 0, 0), (47, .iload_n 1, 1, 0, 0, 0, 0)],
  [(48, .invokestatic 148, 3, 98, 2, 0, 447), (51, .ifCond .ne 6, 3, 0, 0, 0, 0), (54, .bipush (-3), 2, 0, 0, 0, 0), (56, .ireturn, 1, 0, 0, 0, 0), (57, .aload_n 0, 1, 0, 0, 0, 0), (58, .getfield 33, 3, 8, 3, 0, 281), (61, .getfield 136, 3, 2, 1, 0, 175)],
  [(64, .iload_n 2, 1, 0, 0, 0, 0), (65, .aload_n 0, 1, 0, 0, 0, 0), (66, .getfield 33, 3, 8, 3, 0, 281), (69, .getfield 139, 3, 2, 3, 0, 179), (72, .iastore, 1, 0, 0, 0, 0), (73, .aload_n 0, 1, 0, 0, 0, 0), (74, .getfield 33, 3, 8, 3, 0, 281), (77, .getfield 129, 3, 2, 2, 0, 177)],
  [(80, .iload_n 2, 1, 0, 0, 0, 0), (81, .dup2, 1, 0, 0, 0, 0), (82, .iaload, 1, 0, 0, 0, 0), (83, .iload_n 3, 1, 0, 0, 0, 0), (84, .ior, 1, 0, 0, 0, 0), (85, .iastore, 1, 0, 0, 0, 0), (86, .aload_n 0, 1, 0, 0, 0, 0), (87, .getfield 33, 3, 8, 3, 0, 281), (90, .getfield 129, 3, 2, 2, 0, 177), (93, .iload_n 2, 1, 0, 0, 0, 0), (94, .iaload, 1, 0, 0, 0, 0), (95, .ireturn, 1, 0, 0, 0, 0)]]
def iv_k79 : List (List ivE) := [[(0, .aload_n 0, 1, 0, 0, 0, 0), (1, .getfield 26, 3, 8, 2, 0, 280), (4, .iload_n 1, 1, 0, 0, 0, 0), (5, .invokevirtual 142, 3, 14, 2, 0, 474), (8, .ifCond .eq 25, 3, 0, 0, 0, 0), (11, .aload_n 0, 1, 0, 0, 0, 0), (12, .getfield 26, 3, 8, 2, 0, 280), (15, .iload_n 2, 1, 0, 0, 0, 0)],
  [(16, .invokevirtual 142, 3, 14, 2, 0, 474), (19, .ifCond .eq 14, 3, 0, 0, 0, 0), (22, .aload_n 0, 1, 0, 0, 0, 0), (23, .getfield 26, 3, 8, 2, 0, 280), (26, .iload_n 3, 1, 0, 0, 0, 0), (27, .invokevirtual 102, 3, 13, 2, 0, 400), (30, .ifCond .ne 5, 3, 0, 0, 0, 0)],
  [(33, .iconst (-1), 1, 0, 0, 0, 0), (34, .ireturn, 1, 0, 0, 0, 0), (35, .iload_n 1, 1, 0, 0, 0, 0), (36, .iload_n 2, 1, 0, 0, 0, 0), (37, .if_icmp .eq 19, 3, 0, 0, 0, 0), (40, .aload_n 0, 1, 0, 0, 0, 0), (41, .getfield 33, 3, 8, 3, 0, 281), (44, .getfield 129, 3, 2, 2, 0, 177), (47, .iload_n 3, 1, 0, 0, 0, 0)],
  [(48, .iaload, 1, 0, 0, 0, 0), (49, .iload_n 1, 1, 0, 0, 0, 0), (50, .invokestatic 148, 3, 98, 2, 0, 447), (53, .ifCond .ne 6, 3, 0, 0, 0, 0), (56, .bipush (-3), 2, 0, 0, 0, 0), (58, .ireturn, 1, 0, 0, 0, 0), (59, .aload_n 0, 1, 0, 0, 0, 0), (60, .getfield 33, 3, 8, 3, 0, 281), (63, .getfield 136, 3, 2, 1, 0, 175)],
  [(66, .iload_n 3, 1, 0, 0, 0, 0), (67, .aload_n 0, 1, 0, 0, 0, 0), (68, .getfield 33, 3, 8, 3, 0, 281), (71, .getfield 139, 3, 2, 3, 0, 179), (74, .iastore, 1, 0, 0, 0, 0), (75, .aload_n 0, 1, 0, 0, 0, 0), (76, .getfield 33, 3, 8, 3, 0, 281), (79, .getfield 129, 3, 2, 2, 0, 177)],
  [(82, .iload_n 3, 1, 0, 0, 0, 0), (83, .aload_n 0, 1, 0, 0, 0, 0), (84, .getfield 33, 3, 8, 3, 0, 281), (87, .getfield 129, 3, 2, 2, 0, 177), (90, .iload_n 3, 1, 0, 0, 0, 0), (91, .iaload, 1, 0, 0, 0, 0), (92, .iconst 1, 1, 0, 0, 0, 0), (93, .iload_n 2, 1, 0, 0, 0, 0), (94, .ishl, 1, 0, 0, 0, 0), (95, .ior, 1, 0, 0, 0, 0)],
  [(96, .iconst 1, 1, 0, 0, 0, 0), (97, .iload_n 1, 1, 0, 0, 0, 0), (98, .ishl, 1, 0, 0, 0, 0), (99, .iconst (-1), 1, 0, 0, 0, 0), (100, .ixor, 1, 0, 0, 0, 0), (101, .iand, 1, 0, 0, 0, 0), (102, .iastore, 1, 0, 0, 0, 0), (103, .aload_n 0, 1, 0, 0, 0, 0), (104, .getfield 33, 3, 8, 3, 0, 281), (107, .getfield 129, 3, 2, 2, 0, 177), (110, .iload_n 3, 1, 0, 0, 0, 0), (111, .iaload, 1, 0, 0, 0, 0)],
  [(112, .ireturn, 1, 0, 0, 0, 0)]]
def iv_k80 : List (List ivE) := [[(0, .aload_n 0, 1, 0, 0, 0, 0), (1, .invokevirtual 152, 3, 103, 1, 0, 490), (4, .iload_n 1, 1, 0, 0, 0, 0), (5, .invokestatic 110, 3, 24, 2, 0, 404), (8, .ireturn, 1, 0, 0, 0, 0)]]
def iv_k81 : List (List ivE) := [[(0, .aload_n 0, 1, 0, 0, 0, 0), (1, .getfield 26, 3, 8, 2, 0, 280), (4, .iload_n 1, 1, 0, 0, 0, 0), (5, .invokevirtual 142, 3, 14, 2, 0, 474), (8, .ifCond .eq 14, 3, 0, 0, 0, 0), (11, .aload_n 0, 1, 0, 0, 0, 0), (12, .getfield 26, 3, 8, 2, 0, 280), (15, .iload_n 2, 1, 0, 0, 0, 0)],
  [(16, .invokevirtual 102, 3, 13, 2, 0, 400), (19, .ifCond .ne 5, 3, 0, 0, 0, 0), (22, .iconst (-1), 1, 0, 0, 0, 0), (23, .ireturn, 1, 0, 0, 0, 0), (24, .aload_n 0, 1, 0, 0, 0, 0), (25, .getfield 33, 3, 8, 3, 0, 281), (28, .iload_n 2, 1, 0, 0, 0, 0), (29, .invokevirtual 119, 3, 20, 2, 0, 434)],
  [(32, .ifCond .eq 6, 3, 0, 0, 0, 0), (35, .bipush (-3), 2, 0, 0, 0, 0), (37, .ireturn, 1, 0, 0, 0, 0), (38, .aload_n 0, 1, 0, 0, 0, 0), (39, .invokevirtual 152, 3, 103, 1, 0, 490), (42, .istore_n 3, 1, 0, 0, 0, 0), (43, .iload_n 3, 1, 0, 0, 0, 0), (44, .ifCond .ne 6, 3, 0, 0, 0, 0), (47, .bipush (-3), 2, 0, 0, 0, 0)],
  [(49, .ireturn, 1, 0, 0, 0, 0), (50, .aload_n 0, 1, 0, 0, 0, 0), (51, .getfield 33, 3, 8, 3, 0, 281), (54, .getfield 106, 3, 2, 0, 0, 173), (57, .iload_n 2, 1, 0, 0, 0, 0), (58, .iload_n 3, 1, 0, 0, 0, 0), (59, .iastore, 1, 0, 0, 0, 0), (60, .aload_n 0, 1, 0, 0, 0, 0), (61, .getfield 33, 3, 8, 3, 0, 281)],
  [(64, .getfield 136, 3, 2, 1, 0, 175), (67, .iload_n 2, 1, 0, 0, 0, 0), (68, .aload_n 0, 1, 0, 0, 0, 0), (69, .getfield 33, 3, 8, 3, 0, 281), (72, .getfield 139, 3, 2, 3, 0, 179), (75, .iastore, 1, 0, 0, 0, 0), (76, .aload_n 0, 1, 0, 0, 0, 0), (77, .getfield 33, 3, 8, 3, 0, 281)],
  [(80, .getfield 129, 3, 2, 2, 0, 177), (83, .iload_n 2, 1, 0, 0, 0, 0), (84, .iconst 1, 1, 0, 0, 0, 0), (85, .iload_n 1, 1, 0, 0, 0, 0), (86, .ishl, 1, 0, 0, 0, 0), (87, .iastore, 1, 0, 0, 0, 0), (88, .iload_n 3, 1, 0, 0, 0, 0), (89, .invokestatic 155, 3, 26, 1, 0, 541), (92, .ireturn, 1, 0, 0, 0, 0)]]
def iv_k82 : List (List ivE) := [[(0, .aload_n 0, 1, 0, 0, 0, 0), (1, .getfield 26, 3, 8, 2, 0, 280), (4, .iload_n 1, 1, 0, 0, 0, 0), (5, .invokevirtual 142, 3, 14, 2, 0, 474), (8, .ifCond .ne 5, 3, 0, 0, 0, 0), (11, .iconst (-1), 1, 0, 0, 0, 0), (12, .ireturn, 1, 0, 0, 0, 0), (13, .aload_n 0, 1, 0, 0, 0, 0), (14, .iload_n 1, 1, 0, 0, 0, 0), (15, .aload_n 0, 1, 0, 0, 0, 0)],
  [(16, .invokevirtual 158, 3, 105, 1, 0, 546), (19, .invokevirtual 161, 3, 106, 3, 0, 550), (22, .ireturn, 1, 0, 0, 0, 0)]]
def iv_k83 : List (List ivE) := [[(0, .aload_n 0, 1, 0, 0, 0, 0), (1, .getfield 26, 3, 8, 2, 0, 280), (4, .iload_n 1, 1, 0, 0, 0, 0), (5, .invokevirtual 142, 3, 14, 2, 0, 474), (8, .ifCond .ne 5, 3, 0, 0, 0, 0), (11, .iconst (-1), 1, 0, 0, 0, 0), (12, .ireturn, 1, 0, 0, 0, 0), (13, .aload_n 0, 1, 0, 0, 0, 0), (14, .getfield 26, 3, 8, 2, 0, 280)],
  [(17, .iload_n 2, 1, 0, 0, 0, 0), (18, .invokevirtual 164, 3, 15, 2, 0, 558), (21, .ifCond .ne 6, 3, 0, 0, 0, 0), (24, .bipush (-2), 2, 0, 0, 0, 0), (26, .ireturn, 1, 0, 0, 0, 0), (27, .aload_n 0, 1, 0, 0, 0, 0), (28, .iload_n 1, 1, 0, 0, 0, 0), (29, .aload_n 0, 1, 0, 0, 0, 0), (30, .invokevirtual 158, 3, 105, 1, 0, 546)],
  [(33, .invokevirtual 161, 3, 106, 3, 0, 550), (36, .istore_n 3, 1, 0, 0, 0, 0), (37, .iconst 0, 1, 0, 0, 0, 0), (38, .istore 4, 2, 0, 0, 0, 0), (40, .iconst 0, 1, 0, 0, 0, 0), (41, .istore 5, 2, 0, 0, 0, 0), (43, .iload 5, 2, 0, 0, 0, 0), (45, .bipush 8, 2, 0, 0, 0, 0), (47, .if_icmp .ge 62, 3, 0, 0, 0, 0)],
  [(50, .iload_n 2, 1, 0, 0, 0, 0), (51, .iload 5, 2, 0, 0, 0, 0), (53, .invokestatic 148, 3, 98, 2, 0, 447), (56, .ifCond .eq 47, 3, 0, 0, 0, 0), (59, .iload 4, 2, 0, 0, 0, 0), (61, .aload_n 0, 1, 0, 0, 0, 0), (62, .getfield 33, 3, 8, 3, 0, 281)],
  [(65, .getfield 106, 3, 2, 0, 0, 173), (68, .iload 5, 2, 0, 0, 0, 0), (70, .iaload, 1, 0, 0, 0, 0), (71, .invokestatic 155, 3, 26, 1, 0, 541), (74, .iadd, 1, 0, 0, 0, 0), (75, .istore 4, 2, 0, 0, 0, 0), (77, .iload_n 3, 1, 0, 0, 0, 0), (78, .iload 5, 2, 0, 0, 0, 0)],
  [(80, .invokestatic 148, 3, 98, 2, 0, 447), (83, .ifCond .eq 17, 3, 0, 0, 0, 0), (86, .iload 4, 2, 0, 0, 0, 0), (88, .aload_n 0, 1, 0, 0, 0, 0), (89, .getfield 26, 3, 8, 2, 0, 280), (92, .getfield 167, 3, 1, 0, 0, 150), (95, .iload_n 1, 1, 0, 0, 0, 0)],
  [(96, .iaload, 1, 0, 0, 0, 0), (97, .if_icmp .le 6, 3, 0, 0, 0, 0), (100, .iload 5, 2, 0, 0, 0, 0), (102, .ireturn, 1, 0, 0, 0, 0), (103, .iinc 5 1, 3, 0, 0, 0, 0), (106, .goto (-63), 3, 0, 0, 0, 0), (109, .bipush (-9), 2, 0, 0, 0, 0), (111, .ireturn, 1, 0, 0, 0, 0)]]
def iv_k84 : List (List ivE) := [[(0, .aload_n 0, 1, 0, 0, 0, 0), (1, .getfield 26, 3, 8, 2, 0, 280), (4, .iload_n 1, 1, 0, 0, 0, 0), (5, .invokevirtual 142, 3, 14, 2, 0, 474), (8, .ifCond .ne 5, 3, 0, 0, 0, 0), (11, .iconst (-1), 1, 0, 0, 0, 0), (12, .ireturn, 1, 0, 0, 0, 0), (13, .aload_n 0, 1, 0, 0, 0, 0), (14, .getfield 26, 3, 8, 2, 0, 280)],
  [(17, .iload_n 2, 1, 0, 0, 0, 0), (18, .invokevirtual 164, 3, 15, 2, 0, 558), (21, .ifCond .ne 6, 3, 0, 0, 0, 0), (24, .bipush (-2), 2, 0, 0, 0, 0), (26, .ireturn, 1, 0, 0, 0, 0), (27, .aload_n 0, 1, 0, 0, 0, 0), (28, .invokevirtual 170, 3, 107, 1, 0, 566), (31, .aload_n 0, 1, 0, 0, 0, 0)],
  [(32, .getfield 58, 3, 8, 7, 0, 285), (35, .iload_n 2, 1, 0, 0, 0, 0), (36, .invokevirtual 173, 3, 2, 2, 0, 570), (39, .aload_n 0, 1, 0, 0, 0, 0), (40, .getfield 58, 3, 8, 7, 0, 285), (43, .iload_n 2, 1, 0, 0, 0, 0), (44, .invokevirtual 176, 3, 7, 2, 0, 591), (47, .istore_n 3, 1, 0, 0, 0, 0)],
  [(48, .iload_n 3, 1, 0, 0, 0, 0), (49, .bipush (-9), 2, 0, 0, 0, 0), (51, .if_icmp .eq 8, 3, 0, 0, 0, 0), (54, .iload_n 3, 1, 0, 0, 0, 0), (55, .iconst 1, 1, 0, 0, 0, 0), (56, .if_icmp .le 6, 3, 0, 0, 0, 0), (59, .bipush (-3), 2, 0, 0, 0, 0), (61, .ireturn, 1, 0, 0, 0, 0), (62, .aload_n 0, 1, 0, 0, 0, 0), (63, .getfield 58, 3, 8, 7, 0, 285)],
  [(66, .iload_n 1, 1, 0, 0, 0, 0), (67, .iload_n 2, 1, 0, 0, 0, 0), (68, .invokevirtual 179, 3, 8, 3, 0, 595), (71, .ireturn, 1, 0, 0, 0, 0)]]
def iv_k85 : List (List ivE) := [[(0, .aload_n 0, 1, 0, 0, 0, 0), (1, .getfield 26, 3, 8, 2, 0, 280), (4, .iload_n 1, 1, 0, 0, 0, 0), (5, .invokevirtual 164, 3, 15, 2, 0, 558), (8, .ifCond .ne 6, 3, 0, 0, 0, 0), (11, .bipush (-2), 2, 0, 0, 0, 0), (13, .ireturn, 1, 0, 0, 0, 0), (14, .aload_n 0, 1, 0, 0, 0, 0), (15, .invokevirtual 170, 3, 107, 1, 0, 566)],
  [(18, .aload_n 0, 1, 0, 0, 0, 0), (19, .getfield 58, 3, 8, 7, 0, 285), (22, .iload_n 1, 1, 0, 0, 0, 0), (23, .invokevirtual 173, 3, 2, 2, 0, 570), (26, .aload_n 0, 1, 0, 0, 0, 0), (27, .getfield 58, 3, 8, 7, 0, 285), (30, .iload_n 1, 1, 0, 0, 0, 0), (31, .invokevirtual 176, 3, 7, 2, 0, 591)],
  [(34, .ireturn, 1, 0, 0, 0, 0)]]
def iv_k86 : List (List ivE) := [[(0, .aload_n 0, 1, 0, 0, 0, 0), (1, .getfield 26, 3, 8, 2, 0, 280), (4, .iload_n 1, 1, 0, 0, 0, 0), (5, .invokevirtual 142, 3, 14, 2, 0, 474), (8, .ifCond .ne 5, 3, 0, 0, 0, 0), (11, .iconst (-1), 1, 0, 0, 0, 0), (12, .ireturn, 1, 0, 0, 0, 0), (13, .aload_n 0, 1, 0, 0, 0, 0), (14, .invokevirtual 170, 3, 107, 1, 0, 566)],
  [(17, .aload_n 0, 1, 0, 0, 0, 0), (18, .getfield 58, 3, 8, 7, 0, 285), (21, .invokevirtual 182, 3, 1, 1, 0, 615), (24, .istore_n 2, 1, 0, 0, 0, 0), (25, .aload_n 0, 1, 0, 0, 0, 0), (26, .getfield 58, 3, 8, 7, 0, 285), (29, .iload_n 2, 1, 0, 0, 0, 0), (30, .invokevirtual 173, 3, 2, 2, 0, 570)],
  [(33, .aload_n 0, 1, 0, 0, 0, 0), (34, .getfield 58, 3, 8, 7, 0, 285), (37, .iload_n 2, 1, 0, 0, 0, 0), (38, .invokevirtual 176, 3, 7, 2, 0, 591), (41, .istore_n 3, 1, 0, 0, 0, 0), (42, .aload_n 0, 1, 0, 0, 0, 0), (43, .getfield 58, 3, 8, 7, 0, 285), (46, .getfield 185, 3, 0, 0, 0, 237)],
  [(49, .iload_n 1, 1, 0, 0, 0, 0), (50, .iconst 0, 1, 0, 0, 0, 0), (51, .iastore, 1, 0, 0, 0, 0), (52, .aload_n 0, 1, 0, 0, 0, 0), (53, .getfield 58, 3, 8, 7, 0, 285), (56, .iload_n 2, 1, 0, 0, 0, 0), (57, .invokevirtual 173, 3, 2, 2, 0, 570), (60, .aload_n 0, 1, 0, 0, 0, 0), (61, .getfield 58, 3, 8, 7, 0, 285)],
  [(64, .iload_n 2, 1, 0, 0, 0, 0), (65, .invokevirtual 176, 3, 7, 2, 0, 591), (68, .istore 4, 2, 0, 0, 0, 0), (70, .iload 4, 2, 0, 0, 0, 0), (72, .bipush (-9), 2, 0, 0, 0, 0), (74, .if_icmp .ne 8, 3, 0, 0, 0, 0), (77, .bipush 99, 2, 0, 0, 0, 0), (79, .goto 7, 3, 0, 0, 0, 0)],
  [(82, .iload 4, 2, 0, 0, 0, 0), (84, .iload_n 3, 1, 0, 0, 0, 0), (85, .isub, 1, 0, 0, 0, 0), (86, .ireturn, 1, 0, 0, 0, 0)]]
def iv_k87 : List (List ivE) := [[(0, .aload_n 0, 1, 0, 0, 0, 0), (1, .getfield 26, 3, 8, 2, 0, 280), (4, .iload_n 1, 1, 0, 0, 0, 0), (5, .invokevirtual 164, 3, 15, 2, 0, 558), (8, .ifCond .eq 13, 3, 0, 0, 0, 0), (11, .iload_n 2, 1, 0, 0, 0, 0), (12, .ifCond .lt 9, 3, 0, 0, 0, 0), (15, .iload_n 2, 1, 0, 0, 0, 0)],
  [(16, .bipush 99, 2, 0, 0, 0, 0), (18, .if_icmp .le 6, 3, 0, 0, 0, 0), (21, .bipush (-2), 2, 0, 0, 0, 0), (23, .ireturn, 1, 0, 0, 0, 0), (24, .aload_n 0, 1, 0, 0, 0, 0), (25, .getfield 33, 3, 8, 3, 0, 281), (28, .iload_n 1, 1, 0, 0, 0, 0), (29, .aload_n 0, 1, 0, 0, 0, 0), (30, .getfield 33, 3, 8, 3, 0, 281)],
  [(33, .invokevirtual 122, 3, 21, 1, 0, 438), (36, .iand, 1, 0, 0, 0, 0), (37, .iload_n 2, 1, 0, 0, 0, 0), (38, .invokevirtual 188, 3, 23, 3, 0, 623), (41, .ireturn, 1, 0, 0, 0, 0)]]
def iv_k88 : List (List ivE) := [[(0, .aload_n 0, 1, 0, 0, 0, 0), (1, .getfield 26, 3, 8, 2, 0, 280), (4, .iload_n 1, 1, 0, 0, 0, 0), (5, .invokevirtual 102, 3, 13, 2, 0, 400), (8, .ifCond .ne 5, 3, 0, 0, 0, 0), (11, .iconst (-1), 1, 0, 0, 0, 0), (12, .ireturn, 1, 0, 0, 0, 0), (13, .aload_n 0, 1, 0, 0, 0, 0), (14, .invokevirtual 158, 3, 105, 1, 0, 546)],
  [(17, .istore_n 2, 1, 0, 0, 0, 0), (18, .iconst 0, 1, 0, 0, 0, 0), (19, .istore_n 3, 1, 0, 0, 0, 0), (20, .iconst 0, 1, 0, 0, 0, 0), (21, .istore 4, 2, 0, 0, 0, 0), (23, .iload 4, 2, 0, 0, 0, 0), (25, .bipush 6, 2, 0, 0, 0, 0), (27, .if_icmp .ge 30, 3, 0, 0, 0, 0), (30, .aload_n 0, 1, 0, 0, 0, 0), (31, .iload 4, 2, 0, 0, 0, 0)],
  [(33, .iload_n 2, 1, 0, 0, 0, 0), (34, .invokevirtual 161, 3, 106, 3, 0, 550), (37, .iload_n 1, 1, 0, 0, 0, 0), (38, .invokestatic 148, 3, 98, 2, 0, 447), (41, .ifCond .eq 10, 3, 0, 0, 0, 0), (44, .iload_n 3, 1, 0, 0, 0, 0), (45, .iconst 1, 1, 0, 0, 0, 0), (46, .iload 4, 2, 0, 0, 0, 0)],
  [(48, .ishl, 1, 0, 0, 0, 0), (49, .ior, 1, 0, 0, 0, 0), (50, .istore_n 3, 1, 0, 0, 0, 0), (51, .iinc 4 1, 3, 0, 0, 0, 0), (54, .goto (-31), 3, 0, 0, 0, 0), (57, .iload_n 3, 1, 0, 0, 0, 0), (58, .ireturn, 1, 0, 0, 0, 0)]]
def iv_k89 : List (List ivE) := [[(0, .iload_n 1, 1, 0, 0, 0, 0), (1, .ifCond .lt 21, 3, 0, 0, 0, 0), (4, .iload_n 1, 1, 0, 0, 0, 0), (5, .bipush 8, 2, 0, 0, 0, 0), (7, .if_icmp .ge 15, 3, 0, 0, 0, 0), (10, .iload_n 2, 1, 0, 0, 0, 0), (11, .iconst 1, 1, 0, 0, 0, 0), (12, .if_icmp .lt 10, 3, 0, 0, 0, 0), (15, .iload_n 2, 1, 0, 0, 0, 0)],
  [(16, .sipush 256, 3, 0, 0, 0, 0), (19, .if_icmp .lt 6, 3, 0, 0, 0, 0), (22, .bipush (-2), 2, 0, 0, 0, 0), (24, .ireturn, 1, 0, 0, 0, 0), (25, .aload_n 0, 1, 0, 0, 0, 0), (26, .getfield 65, 3, 8, 8, 0, 286), (29, .getfield 191, 3, 5, 0, 0, 262)],
  [(32, .bipush 16, 2, 0, 0, 0, 0), (34, .if_icmp .lt 6, 3, 0, 0, 0, 0), (37, .bipush (-4), 2, 0, 0, 0, 0), (39, .ireturn, 1, 0, 0, 0, 0), (40, .aload_n 0, 1, 0, 0, 0, 0), (41, .getfield 65, 3, 8, 8, 0, 286), (44, .iload_n 1, 1, 0, 0, 0, 0), (45, .iload_n 2, 1, 0, 0, 0, 0), (46, .invokevirtual 194, 3, 43, 3, 0, 635)],
  [(49, .aload_n 0, 1, 0, 0, 0, 0), (50, .getfield 65, 3, 8, 8, 0, 286), (53, .getfield 191, 3, 5, 0, 0, 262), (56, .ireturn, 1, 0, 0, 0, 0)]]
def iv_k90 : List (List ivE) := [[(0, .aload_n 0, 1, 0, 0, 0, 0), (1, .getfield 65, 3, 8, 8, 0, 286), (4, .getfield 191, 3, 5, 0, 0, 262), (7, .istore_n 1, 1, 0, 0, 0, 0), (8, .aload_n 0, 1, 0, 0, 0, 0), (9, .getfield 65, 3, 8, 8, 0, 286), (12, .iconst 0, 1, 0, 0, 0, 0), (13, .putfield 191, 3, 5, 0, 0, 262)],
  [(16, .iload_n 1, 1, 0, 0, 0, 0), (17, .ireturn, 1, 0, 0, 0, 0)]]
def iv_k91 : List (List ivE) := [[(0, .iload_n 1, 1, 0, 0, 0, 0), (1, .invokestatic 198, 3, 99, 1, 0, 647), (4, .ifCond .eq 21, 3, 0, 0, 0, 0), (7, .aload_n 0, 1, 0, 0, 0, 0), (8, .getfield 65, 3, 8, 8, 0, 286), (11, .iload_n 1, 1, 0, 0, 0, 0), (12, .aload_n 0, 1, 0, 0, 0, 0), (13, .getfield 65, 3, 8, 8, 0, 286)],
  [(16, .getfield 191, 3, 5, 0, 0, 262), (19, .invokevirtual 201, 3, 44, 3, 0, 650), (22, .goto 5, 3, 0, 0, 0, 0), (25, .bipush (-2), 2, 0, 0, 0, 0), (27, .ireturn, 1, 0, 0, 0, 0)]]
def iv_k92 : List (List ivE) := [[(0, .iload_n 1, 1, 0, 0, 0, 0), (1, .invokestatic 198, 3, 99, 1, 0, 647), (4, .ifCond .eq 12, 3, 0, 0, 0, 0), (7, .iload_n 2, 1, 0, 0, 0, 0), (8, .ifCond .lt 8, 3, 0, 0, 0, 0), (11, .iload_n 2, 1, 0, 0, 0, 0), (12, .iload_n 1, 1, 0, 0, 0, 0), (13, .if_icmp .lt 6, 3, 0, 0, 0, 0)],
  [(16, .bipush (-2), 2, 0, 0, 0, 0), (18, .ireturn, 1, 0, 0, 0, 0), (19, .aload_n 0, 1, 0, 0, 0, 0), (20, .getfield 65, 3, 8, 8, 0, 286), (23, .iload_n 1, 1, 0, 0, 0, 0), (24, .iload_n 2, 1, 0, 0, 0, 0), (25, .invokevirtual 204, 3, 45, 3, 0, 677), (28, .ireturn, 1, 0, 0, 0, 0)]]
def iv_k93 : List (List ivE) := [[(0, .iload_n 1, 1, 0, 0, 0, 0), (1, .invokestatic 198, 3, 99, 1, 0, 647), (4, .ifCond .eq 14, 3, 0, 0, 0, 0), (7, .aload_n 0, 1, 0, 0, 0, 0), (8, .getfield 65, 3, 8, 8, 0, 286), (11, .iload_n 1, 1, 0, 0, 0, 0), (12, .invokevirtual 207, 3, 46, 2, 0, 685), (15, .goto 5, 3, 0, 0, 0, 0)],
  [(18, .bipush (-2), 2, 0, 0, 0, 0), (20, .ireturn, 1, 0, 0, 0, 0)]]
def iv_k94 : List (List ivE) := [[(0, .iload_n 1, 1, 0, 0, 0, 0), (1, .iconst 1, 1, 0, 0, 0, 0), (2, .if_icmp .lt 9, 3, 0, 0, 0, 0), (5, .iload_n 1, 1, 0, 0, 0, 0), (6, .bipush 6, 2, 0, 0, 0, 0), (8, .if_icmp .lt 6, 3, 0, 0, 0, 0), (11, .bipush (-2), 2, 0, 0, 0, 0), (13, .ireturn, 1, 0, 0, 0, 0), (14, .iconst 0, 1, 0, 0, 0, 0), (15, .istore_n 2, 1, 0, 0, 0, 0)],
  [(16, .iconst 0, 1, 0, 0, 0, 0), (17, .istore_n 3, 1, 0, 0, 0, 0), (18, .iload_n 3, 1, 0, 0, 0, 0), (19, .bipush 8, 2, 0, 0, 0, 0), (21, .if_icmp .ge 40, 3, 0, 0, 0, 0), (24, .aload_n 0, 1, 0, 0, 0, 0), (25, .getfield 33, 3, 8, 3, 0, 281), (28, .iload_n 3, 1, 0, 0, 0, 0), (29, .invokevirtual 119, 3, 20, 2, 0, 434)],
  [(32, .ifCond .eq 23, 3, 0, 0, 0, 0), (35, .iload_n 2, 1, 0, 0, 0, 0), (36, .aload_n 0, 1, 0, 0, 0, 0), (37, .aload_n 0, 1, 0, 0, 0, 0), (38, .getfield 33, 3, 8, 3, 0, 281), (41, .getfield 106, 3, 2, 0, 0, 173), (44, .iload_n 3, 1, 0, 0, 0, 0), (45, .iaload, 1, 0, 0, 0, 0), (46, .iload_n 1, 1, 0, 0, 0, 0), (47, .invokestatic 210, 3, 27, 2, 0, 694)],
  [(50, .invokevirtual 213, 3, 102, 2, 0, 700), (53, .iadd, 1, 0, 0, 0, 0), (54, .istore_n 2, 1, 0, 0, 0, 0), (55, .iinc 3 1, 3, 0, 0, 0, 0), (58, .goto (-40), 3, 0, 0, 0, 0), (61, .iload_n 2, 1, 0, 0, 0, 0), (62, .ireturn, 1, 0, 0, 0, 0)]]
def iv_k95 : List (List ivE) := [[(0, .aload_n 0, 1, 0, 0, 0, 0), (1, .iload_n 1, 1, 0, 0, 0, 0), (2, .invokevirtual 88, 3, 100, 2, 0, 392), (5, .astore_n 2, 1, 0, 0, 0, 0), (6, .aload_n 2, 1, 0, 0, 0, 0), (7, .ifnonnull 5, 3, 0, 0, 0, 0), (10, .iconst (-1), 1, 0, 0, 0, 0), (11, .ireturn, 1, 0, 0, 0, 0), (12, .aload_n 2, 1, 0, 0, 0, 0), (13, .aload_n 0, 1, 0, 0, 0, 0), (14, .getfield 33, 3, 8, 3, 0, 281)],
  [(17, .invokevirtual 216, 3, 19, 2, 0, 708), (20, .aload_n 2, 1, 0, 0, 0, 0), (21, .iconst 1, 1, 0, 0, 0, 0), (22, .putfield 92, 3, 2, 4, 0, 180), (25, .aload_n 0, 1, 0, 0, 0, 0), (26, .getfield 33, 3, 8, 3, 0, 281), (29, .getfield 139, 3, 2, 3, 0, 179)],
  [(32, .ireturn, 1, 0, 0, 0, 0)]]
def iv_k96 : List (List ivE) := [[(0, .aload_n 0, 1, 0, 0, 0, 0), (1, .iload_n 1, 1, 0, 0, 0, 0), (2, .invokevirtual 88, 3, 100, 2, 0, 392), (5, .astore_n 2, 1, 0, 0, 0, 0), (6, .aload_n 2, 1, 0, 0, 0, 0), (7, .ifnonnull 5, 3, 0, 0, 0, 0), (10, .iconst (-1), 1, 0, 0, 0, 0), (11, .ireturn, 1, 0, 0, 0, 0), (12, .aload_n 2, 1, 0, 0, 0, 0), (13, .getfield 92, 3, 2, 4, 0, 180)],
  [(16, .ifCond .ne 6, 3, 0, 0, 0, 0), (19, .bipush (-3), 2, 0, 0, 0, 0), (21, .ireturn, 1, 0, 0, 0, 0), (22, .aload_n 0, 1, 0, 0, 0, 0), (23, .getfield 33, 3, 8, 3, 0, 281), (26, .aload_n 2, 1, 0, 0, 0, 0), (27, .invokevirtual 216, 3, 19, 2, 0, 708), (30, .aload_n 0, 1, 0, 0, 0, 0), (31, .getfield 33, 3, 8, 3, 0, 281)],
  [(34, .getfield 139, 3, 2, 3, 0, 179), (37, .ireturn, 1, 0, 0, 0, 0)]]
def iv_k97 : List (List ivE) := [[(0, .iload_n 1, 1, 0, 0, 0, 0), (1, .tableswitch 111 0 7 #[47, 55, 63, 71, 79, 87, 95, 106], 47, 0, 0, 0, 0)],
  [],
  [],
  [(48, .aload_n 0, 1, 0, 0, 0, 0), (49, .getfield 10, 3, 8, 0, 0, 278), (52, .getfield 69, 3, 7, 1, 0, 88), (55, .ireturn, 1, 0, 0, 0, 0), (56, .aload_n 0, 1, 0, 0, 0, 0), (57, .getfield 26, 3, 8, 2, 0, 280), (60, .getfield 96, 3, 1, 2, 0, 154), (63, .ireturn, 1, 0, 0, 0, 0)],
  [(64, .aload_n 0, 1, 0, 0, 0, 0), (65, .getfield 26, 3, 8, 2, 0, 280), (68, .getfield 99, 3, 1, 3, 0, 156), (71, .ireturn, 1, 0, 0, 0, 0), (72, .aload_n 0, 1, 0, 0, 0, 0), (73, .getfield 26, 3, 8, 2, 0, 280), (76, .getfield 220, 3, 1, 1, 0, 152), (79, .ireturn, 1, 0, 0, 0, 0)],
  [(80, .aload_n 0, 1, 0, 0, 0, 0), (81, .getfield 33, 3, 8, 3, 0, 281), (84, .getfield 139, 3, 2, 3, 0, 179), (87, .ireturn, 1, 0, 0, 0, 0), (88, .aload_n 0, 1, 0, 0, 0, 0), (89, .getfield 65, 3, 8, 8, 0, 286), (92, .getfield 191, 3, 5, 0, 0, 262), (95, .ireturn, 1, 0, 0, 0, 0)],
  [(96, .aload_n 0, 1, 0, 0, 0, 0), (97, .getfield 33, 3, 8, 3, 0, 281), (100, .invokevirtual 122, 3, 21, 1, 0, 438), (103, .invokestatic 223, 3, 167, 1, 0, 720), (106, .ireturn, 1, 0, 0, 0, 0), (107, .aload_n 0, 1, 0, 0, 0, 0), (108, .invokevirtual 228, 3, 101, 1, 0, 721), (111, .ireturn, 1, 0, 0, 0, 0)],
  [(112, .bipush (-2), 2, 0, 0, 0, 0), (114, .ireturn, 1, 0, 0, 0, 0)]]
def iv_k98 : List (List ivE) := [[(0, .iload_n 0, 1, 0, 0, 0, 0), (1, .iload_n 1, 1, 0, 0, 0, 0), (2, .ishr, 1, 0, 0, 0, 0), (3, .iconst 1, 1, 0, 0, 0, 0), (4, .iand, 1, 0, 0, 0, 0), (5, .ifCond .eq 7, 3, 0, 0, 0, 0), (8, .iconst 1, 1, 0, 0, 0, 0), (9, .goto 4, 3, 0, 0, 0, 0), (12, .iconst 0, 1, 0, 0, 0, 0), (13, .ireturn, 1, 0, 0, 0, 0)]]
def iv_k99 : List (List ivE) := [[(0, .iload_n 0, 1, 0, 0, 0, 0), (1, .iconst 1, 1, 0, 0, 0, 0), (2, .if_icmp .lt 13, 3, 0, 0, 0, 0), (5, .iload_n 0, 1, 0, 0, 0, 0), (6, .bipush 8, 2, 0, 0, 0, 0), (8, .if_icmp .gt 7, 3, 0, 0, 0, 0), (11, .iconst 1, 1, 0, 0, 0, 0), (12, .goto 4, 3, 0, 0, 0, 0), (15, .iconst 0, 1, 0, 0, 0, 0)],
  [(16, .ireturn, 1, 0, 0, 0, 0)]]
def iv_k100 : List (List ivE) := [[(0, .iload_n 1, 1, 0, 0, 0, 0), (1, .ifCond .lt 17, 3, 0, 0, 0, 0), (4, .iload_n 1, 1, 0, 0, 0, 0), (5, .iconst 2, 1, 0, 0, 0, 0), (6, .if_icmp .ge 12, 3, 0, 0, 0, 0), (9, .aload_n 0, 1, 0, 0, 0, 0), (10, .getfield 37, 3, 8, 4, 0, 282), (13, .iload_n 1, 1, 0, 0, 0, 0), (14, .aaload, 1, 0, 0, 0, 0), (15, .goto 4, 3, 0, 0, 0, 0)],
  [(18, .aconst_null, 1, 0, 0, 0, 0), (19, .areturn, 1, 0, 0, 0, 0)]]
def iv_k101 : List (List ivE) := [[(0, .iconst 0, 1, 0, 0, 0, 0), (1, .istore_n 1, 1, 0, 0, 0, 0), (2, .iconst 0, 1, 0, 0, 0, 0), (3, .istore_n 2, 1, 0, 0, 0, 0), (4, .iload_n 2, 1, 0, 0, 0, 0), (5, .bipush 8, 2, 0, 0, 0, 0), (7, .if_icmp .ge 24, 3, 0, 0, 0, 0), (10, .iload_n 1, 1, 0, 0, 0, 0), (11, .aload_n 0, 1, 0, 0, 0, 0), (12, .getfield 33, 3, 8, 3, 0, 281), (15, .getfield 106, 3, 2, 0, 0, 173)],
  [(18, .iload_n 2, 1, 0, 0, 0, 0), (19, .iaload, 1, 0, 0, 0, 0), (20, .invokestatic 155, 3, 26, 1, 0, 541), (23, .iadd, 1, 0, 0, 0, 0), (24, .istore_n 1, 1, 0, 0, 0, 0), (25, .iinc 2 1, 3, 0, 0, 0, 0), (28, .goto (-24), 3, 0, 0, 0, 0), (31, .iload_n 1, 1, 0, 0, 0, 0)],
  [(32, .ireturn, 1, 0, 0, 0, 0)]]
def iv_k102 : List (List ivE) := [[(0, .iconst 0, 1, 0, 0, 0, 0), (1, .istore_n 2, 1, 0, 0, 0, 0), (2, .iconst 0, 1, 0, 0, 0, 0), (3, .istore_n 3, 1, 0, 0, 0, 0), (4, .iload_n 3, 1, 0, 0, 0, 0), (5, .bipush 8, 2, 0, 0, 0, 0), (7, .if_icmp .ge 36, 3, 0, 0, 0, 0), (10, .aload_n 0, 1, 0, 0, 0, 0), (11, .getfield 33, 3, 8, 3, 0, 281), (14, .iload_n 3, 1, 0, 0, 0, 0), (15, .invokevirtual 119, 3, 20, 2, 0, 434)],
  [(18, .ifCond .eq 19, 3, 0, 0, 0, 0), (21, .aload_n 0, 1, 0, 0, 0, 0), (22, .getfield 33, 3, 8, 3, 0, 281), (25, .getfield 106, 3, 2, 0, 0, 173), (28, .iload_n 3, 1, 0, 0, 0, 0), (29, .iaload, 1, 0, 0, 0, 0), (30, .iload_n 1, 1, 0, 0, 0, 0), (31, .if_icmp .ne 6, 3, 0, 0, 0, 0)],
  [(34, .iinc 2 1, 3, 0, 0, 0, 0), (37, .iinc 3 1, 3, 0, 0, 0, 0), (40, .goto (-36), 3, 0, 0, 0, 0), (43, .iload_n 2, 1, 0, 0, 0, 0), (44, .ireturn, 1, 0, 0, 0, 0)]]
def iv_k103 : List (List ivE) := [[(0, .aload_n 0, 1, 0, 0, 0, 0), (1, .getfield 51, 3, 8, 6, 0, 284), (4, .invokevirtual 231, 3, 34, 1, 0, 494), (7, .iconst 0, 1, 0, 0, 0, 0), (8, .istore_n 1, 1, 0, 0, 0, 0), (9, .iload_n 1, 1, 0, 0, 0, 0), (10, .bipush 8, 2, 0, 0, 0, 0), (12, .if_icmp .ge 36, 3, 0, 0, 0, 0), (15, .aload_n 0, 1, 0, 0, 0, 0)],
  [(16, .getfield 33, 3, 8, 3, 0, 281), (19, .iload_n 1, 1, 0, 0, 0, 0), (20, .invokevirtual 119, 3, 20, 2, 0, 434), (23, .ifCond .eq 19, 3, 0, 0, 0, 0), (26, .aload_n 0, 1, 0, 0, 0, 0), (27, .getfield 51, 3, 8, 6, 0, 284), (30, .aload_n 0, 1, 0, 0, 0, 0), (31, .getfield 33, 3, 8, 3, 0, 281)],
  [(34, .getfield 106, 3, 2, 0, 0, 173), (37, .iload_n 1, 1, 0, 0, 0, 0), (38, .iaload, 1, 0, 0, 0, 0), (39, .invokevirtual 233, 3, 35, 2, 0, 498), (42, .iinc 1 1, 3, 0, 0, 0, 0), (45, .goto (-36), 3, 0, 0, 0, 0)],
  [(48, .aload_n 0, 1, 0, 0, 0, 0), (49, .getfield 51, 3, 8, 6, 0, 284), (52, .aload_n 0, 1, 0, 0, 0, 0), (53, .getfield 26, 3, 8, 2, 0, 280), (56, .getfield 220, 3, 1, 1, 0, 152), (59, .invokevirtual 236, 3, 37, 2, 0, 507), (62, .ireturn, 1, 0, 0, 0, 0)]]
def iv_k104 : List (List ivE) := [[(0, .iconst 0, 1, 0, 0, 0, 0), (1, .istore_n 3, 1, 0, 0, 0, 0), (2, .iconst 0, 1, 0, 0, 0, 0), (3, .istore 4, 2, 0, 0, 0, 0), (5, .iload 4, 2, 0, 0, 0, 0), (7, .bipush 8, 2, 0, 0, 0, 0), (9, .if_icmp .ge 53, 3, 0, 0, 0, 0), (12, .iload_n 2, 1, 0, 0, 0, 0), (13, .iload 4, 2, 0, 0, 0, 0), (15, .invokestatic 148, 3, 98, 2, 0, 447)],
  [(18, .ifCond .eq 38, 3, 0, 0, 0, 0), (21, .aload_n 0, 1, 0, 0, 0, 0), (22, .getfield 44, 3, 8, 5, 0, 283), (25, .iload_n 1, 1, 0, 0, 0, 0), (26, .aload_n 0, 1, 0, 0, 0, 0), (27, .getfield 33, 3, 8, 3, 0, 281), (30, .getfield 106, 3, 2, 0, 0, 173)],
  [(33, .iload 4, 2, 0, 0, 0, 0), (35, .iaload, 1, 0, 0, 0, 0), (36, .invokevirtual 116, 3, 29, 3, 0, 411), (39, .aload_n 0, 1, 0, 0, 0, 0), (40, .getfield 26, 3, 8, 2, 0, 280), (43, .getfield 220, 3, 1, 1, 0, 152), (46, .if_icmp .gt 10, 3, 0, 0, 0, 0)],
  [(49, .iload_n 3, 1, 0, 0, 0, 0), (50, .iconst 1, 1, 0, 0, 0, 0), (51, .iload 4, 2, 0, 0, 0, 0), (53, .ishl, 1, 0, 0, 0, 0), (54, .ior, 1, 0, 0, 0, 0), (55, .istore_n 3, 1, 0, 0, 0, 0), (56, .iinc 4 1, 3, 0, 0, 0, 0), (59, .goto (-54), 3, 0, 0, 0, 0), (62, .iload_n 3, 1, 0, 0, 0, 0), (63, .ireturn, 1, 0, 0, 0, 0)]]
def iv_k105 : List (List ivE) := [[(0, .aload_n 0, 1, 0, 0, 0, 0), (1, .getfield 33, 3, 8, 3, 0, 281), (4, .invokevirtual 122, 3, 21, 1, 0, 438), (7, .istore_n 1, 1, 0, 0, 0, 0), (8, .iload_n 1, 1, 0, 0, 0, 0), (9, .istore_n 2, 1, 0, 0, 0, 0), (10, .iconst 0, 1, 0, 0, 0, 0), (11, .istore_n 3, 1, 0, 0, 0, 0), (12, .iload_n 3, 1, 0, 0, 0, 0), (13, .bipush 8, 2, 0, 0, 0, 0), (15, .if_icmp .ge 58, 3, 0, 0, 0, 0)],
  [(18, .iload_n 1, 1, 0, 0, 0, 0), (19, .iload_n 3, 1, 0, 0, 0, 0), (20, .invokestatic 148, 3, 98, 2, 0, 447), (23, .ifCond .eq 44, 3, 0, 0, 0, 0), (26, .iload_n 1, 1, 0, 0, 0, 0), (27, .iconst 2, 1, 0, 0, 0, 0), (28, .iload_n 3, 1, 0, 0, 0, 0), (29, .ishl, 1, 0, 0, 0, 0), (30, .ineg, 1, 0, 0, 0, 0), (31, .iand, 1, 0, 0, 0, 0)],
  [(32, .istore 4, 2, 0, 0, 0, 0), (34, .aload_n 0, 1, 0, 0, 0, 0), (35, .aload_n 0, 1, 0, 0, 0, 0), (36, .getfield 33, 3, 8, 3, 0, 281), (39, .getfield 106, 3, 2, 0, 0, 173), (42, .iload_n 3, 1, 0, 0, 0, 0), (43, .iaload, 1, 0, 0, 0, 0), (44, .iload 4, 2, 0, 0, 0, 0), (46, .invokevirtual 126, 3, 104, 3, 0, 443)],
  [(49, .istore 5, 2, 0, 0, 0, 0), (51, .iload 5, 2, 0, 0, 0, 0), (53, .ifCond .eq 14, 3, 0, 0, 0, 0), (56, .iload_n 2, 1, 0, 0, 0, 0), (57, .iload 5, 2, 0, 0, 0, 0), (59, .iconst 1, 1, 0, 0, 0, 0), (60, .iload_n 3, 1, 0, 0, 0, 0), (61, .ishl, 1, 0, 0, 0, 0), (62, .ior, 1, 0, 0, 0, 0), (63, .iconst (-1), 1, 0, 0, 0, 0)],
  [(64, .ixor, 1, 0, 0, 0, 0), (65, .iand, 1, 0, 0, 0, 0), (66, .istore_n 2, 1, 0, 0, 0, 0), (67, .iinc 3 1, 3, 0, 0, 0, 0), (70, .goto (-58), 3, 0, 0, 0, 0), (73, .iload_n 2, 1, 0, 0, 0, 0), (74, .ireturn, 1, 0, 0, 0, 0)]]
def iv_k106 : List (List ivE) := [[(0, .aload_n 0, 1, 0, 0, 0, 0), (1, .getfield 26, 3, 8, 2, 0, 280), (4, .iload_n 1, 1, 0, 0, 0, 0), (5, .invokevirtual 142, 3, 14, 2, 0, 474), (8, .ifCond .ne 5, 3, 0, 0, 0, 0), (11, .iconst 0, 1, 0, 0, 0, 0), (12, .ireturn, 1, 0, 0, 0, 0), (13, .iconst 0, 1, 0, 0, 0, 0), (14, .istore_n 3, 1, 0, 0, 0, 0), (15, .iconst 0, 1, 0, 0, 0, 0)],
  [(16, .istore 4, 2, 0, 0, 0, 0), (18, .iload 4, 2, 0, 0, 0, 0), (20, .bipush 8, 2, 0, 0, 0, 0), (22, .if_icmp .ge 67, 3, 0, 0, 0, 0), (25, .iload_n 2, 1, 0, 0, 0, 0), (26, .iload 4, 2, 0, 0, 0, 0), (28, .invokestatic 148, 3, 98, 2, 0, 447), (31, .ifCond .eq 52, 3, 0, 0, 0, 0)],
  [(34, .aload_n 0, 1, 0, 0, 0, 0), (35, .getfield 33, 3, 8, 3, 0, 281), (38, .getfield 129, 3, 2, 2, 0, 177), (41, .iload 4, 2, 0, 0, 0, 0), (43, .iaload, 1, 0, 0, 0, 0), (44, .iload_n 1, 1, 0, 0, 0, 0), (45, .invokestatic 148, 3, 98, 2, 0, 447)],
  [(48, .ifCond .eq 35, 3, 0, 0, 0, 0), (51, .aload_n 0, 1, 0, 0, 0, 0), (52, .getfield 33, 3, 8, 3, 0, 281), (55, .getfield 106, 3, 2, 0, 0, 173), (58, .iload 4, 2, 0, 0, 0, 0), (60, .iaload, 1, 0, 0, 0, 0), (61, .invokestatic 155, 3, 26, 1, 0, 541)],
  [(64, .aload_n 0, 1, 0, 0, 0, 0), (65, .getfield 26, 3, 8, 2, 0, 280), (68, .getfield 167, 3, 1, 0, 0, 150), (71, .iload_n 1, 1, 0, 0, 0, 0), (72, .iaload, 1, 0, 0, 0, 0), (73, .if_icmp .gt 10, 3, 0, 0, 0, 0), (76, .iload_n 3, 1, 0, 0, 0, 0), (77, .iconst 1, 1, 0, 0, 0, 0), (78, .iload 4, 2, 0, 0, 0, 0)],
  [(80, .ishl, 1, 0, 0, 0, 0), (81, .ior, 1, 0, 0, 0, 0), (82, .istore_n 3, 1, 0, 0, 0, 0), (83, .iinc 4 1, 3, 0, 0, 0, 0), (86, .goto (-68), 3, 0, 0, 0, 0), (89, .iload_n 3, 1, 0, 0, 0, 0), (90, .ireturn, 1, 0, 0, 0, 0)]]
def iv_k107 : List (List ivE) := [[(0, .aload_n 0, 1, 0, 0, 0, 0), (1, .invokevirtual 158, 3, 105, 1, 0, 546), (4, .istore_n 1, 1, 0, 0, 0, 0), (5, .iconst 0, 1, 0, 0, 0, 0), (6, .istore_n 2, 1, 0, 0, 0, 0), (7, .iload_n 2, 1, 0, 0, 0, 0), (8, .bipush 6, 2, 0, 0, 0, 0), (10, .if_icmp .ge 42, 3, 0, 0, 0, 0), (13, .aload_n 0, 1, 0, 0, 0, 0), (14, .getfield 58, 3, 8, 7, 0, 285)],
  [(17, .getfield 185, 3, 0, 0, 0, 237), (20, .iload_n 2, 1, 0, 0, 0, 0), (21, .aload_n 0, 1, 0, 0, 0, 0), (22, .iload_n 2, 1, 0, 0, 0, 0), (23, .iload_n 1, 1, 0, 0, 0, 0), (24, .invokevirtual 161, 3, 106, 3, 0, 550), (27, .iastore, 1, 0, 0, 0, 0), (28, .aload_n 0, 1, 0, 0, 0, 0), (29, .getfield 58, 3, 8, 7, 0, 285)],
  [(32, .getfield 239, 3, 0, 1, 0, 239), (35, .iload_n 2, 1, 0, 0, 0, 0), (36, .aload_n 0, 1, 0, 0, 0, 0), (37, .getfield 26, 3, 8, 2, 0, 280), (40, .getfield 167, 3, 1, 0, 0, 150), (43, .iload_n 2, 1, 0, 0, 0, 0), (44, .iaload, 1, 0, 0, 0, 0), (45, .iastore, 1, 0, 0, 0, 0), (46, .iinc 2 1, 3, 0, 0, 0, 0)],
  [(49, .goto (-42), 3, 0, 0, 0, 0), (52, .iconst 0, 1, 0, 0, 0, 0), (53, .istore_n 2, 1, 0, 0, 0, 0), (54, .iload_n 2, 1, 0, 0, 0, 0), (55, .bipush 8, 2, 0, 0, 0, 0), (57, .if_icmp .ge 30, 3, 0, 0, 0, 0), (60, .aload_n 0, 1, 0, 0, 0, 0), (61, .getfield 58, 3, 8, 7, 0, 285)],
  [(64, .getfield 240, 3, 0, 2, 0, 241), (67, .iload_n 2, 1, 0, 0, 0, 0), (68, .aload_n 0, 1, 0, 0, 0, 0), (69, .getfield 33, 3, 8, 3, 0, 281), (72, .getfield 106, 3, 2, 0, 0, 173), (75, .iload_n 2, 1, 0, 0, 0, 0), (76, .iaload, 1, 0, 0, 0, 0), (77, .invokestatic 155, 3, 26, 1, 0, 541)],
  [(80, .iastore, 1, 0, 0, 0, 0), (81, .iinc 2 1, 3, 0, 0, 0, 0), (84, .goto (-30), 3, 0, 0, 0, 0), (87, .return_, 1, 0, 0, 0, 0)]]
def iv_k108 : List (List ivE) := [[(0, .aload_n 0, 1, 0, 0, 0, 0), (1, .invokespecial 1, 3, 1000, 0, 0, 730), (4, .aload_n 0, 1, 0, 0, 0, 0), (5, .bipush 40, 2, 0, 0, 0, 0), (7, .newarray .int, 2, 0, 0, 0, 0), (9, .putfield 7, 3, 9, 0, 0, 731), (12, .aload_n 0, 1, 0, 0, 0, 0), (13, .bipush 8, 2, 0, 0, 0, 0), (15, .newarray .int, 2, 0, 0, 0, 0)],
  [(17, .putfield 13, 3, 9, 1, 0, 732), (20, .aload_n 0, 1, 0, 0, 0, 0), (21, .bipush 8, 2, 0, 0, 0, 0), (23, .newarray .int, 2, 0, 0, 0, 0), (25, .putfield 16, 3, 9, 2, 0, 733), (28, .aload_n 0, 1, 0, 0, 0, 0), (29, .bipush 6, 2, 0, 0, 0, 0), (31, .newarray .int, 2, 0, 0, 0, 0)],
  [(33, .putfield 19, 3, 9, 3, 0, 734), (36, .aload_n 0, 1, 0, 0, 0, 0), (37, .bipush 40, 2, 0, 0, 0, 0), (39, .newarray .int, 2, 0, 0, 0, 0), (41, .putfield 22, 3, 9, 7, 0, 738), (44, .aload_n 0, 1, 0, 0, 0, 0), (45, .bipush 8, 2, 0, 0, 0, 0), (47, .newarray .int, 2, 0, 0, 0, 0)],
  [(49, .putfield 25, 3, 9, 8, 0, 739), (52, .aload_n 0, 1, 0, 0, 0, 0), (53, .bipush 8, 2, 0, 0, 0, 0), (55, .newarray .int, 2, 0, 0, 0, 0), (57, .putfield 28, 3, 9, 9, 0, 740), (60, .aload_n 0, 1, 0, 0, 0, 0), (61, .bipush 8, 2, 0, 0, 0, 0), (63, .newarray .int, 2, 0, 0, 0, 0)],
  [(65, .putfield 31, 3, 9, 10, 0, 741), (68, .aload_n 0, 1, 0, 0, 0, 0), (69, .bipush 6, 2, 0, 0, 0, 0), (71, .newarray .int, 2, 0, 0, 0, 0), (73, .putfield 34, 3, 9, 11, 0, 742), (76, .aload_n 0, 1, 0, 0, 0, 0), (77, .bipush 96, 2, 0, 0, 0, 0), (79, .newarray .int, 2, 0, 0, 0, 0)],
  [(81, .putfield 37, 3, 9, 16, 0, 747), (84, .aload_n 0, 1, 0, 0, 0, 0), (85, .iconst 5, 1, 0, 0, 0, 0), (86, .newarray .int, 2, 0, 0, 0, 0), (88, .putfield 40, 3, 9, 20, 0, 751), (91, .aload_n 0, 1, 0, 0, 0, 0), (92, .bipush 36, 2, 0, 0, 0, 0), (94, .newarray .int, 2, 0, 0, 0, 0)],
  [(96, .putfield 43, 3, 9, 22, 0, 753), (99, .aload_n 0, 1, 0, 0, 0, 0), (100, .sipush 1792, 3, 0, 0, 0, 0), (103, .newarray .boolean, 2, 1, 0, 0, 0), (105, .putfield 46, 3, 9, 23, 0, 754), (108, .aload_n 0, 1, 0, 0, 0, 0), (109, .sipush 1536, 3, 0, 0, 0, 0)],
  [(112, .newarray .boolean, 2, 1, 0, 0, 0), (114, .putfield 50, 3, 9, 24, 0, 755), (117, .aload_n 0, 1, 0, 0, 0, 0), (118, .sipush 256, 3, 0, 0, 0, 0), (121, .newarray .int, 2, 0, 0, 0, 0), (123, .putfield 53, 3, 9, 25, 0, 756), (126, .aload_n 0, 1, 0, 0, 0, 0), (127, .bipush 16, 2, 0, 0, 0, 0)],
  [(129, .newarray .int, 2, 0, 0, 0, 0), (131, .putfield 56, 3, 9, 27, 0, 758), (134, .aload_n 0, 1, 0, 0, 0, 0), (135, .bipush 16, 2, 0, 0, 0, 0), (137, .newarray .int, 2, 0, 0, 0, 0), (139, .putfield 59, 3, 9, 28, 0, 759), (142, .aload_n 0, 1, 0, 0, 0, 0), (143, .sipush 256, 3, 0, 0, 0, 0)],
  [(146, .newarray .int, 2, 0, 0, 0, 0), (148, .putfield 62, 3, 9, 29, 0, 760), (151, .aload_n 0, 1, 0, 0, 0, 0), (152, .bipush 8, 2, 0, 0, 0, 0), (154, .newarray .int, 2, 0, 0, 0, 0), (156, .putfield 65, 3, 9, 30, 0, 761), (159, .aload_n 0, 1, 0, 0, 0, 0)],
  [(160, .iconst 2, 1, 0, 0, 0, 0), (161, .newarray .boolean, 2, 1, 0, 0, 0), (163, .putfield 68, 3, 9, 31, 0, 762), (166, .aload_n 0, 1, 0, 0, 0, 0), (167, .bipush 80, 2, 0, 0, 0, 0), (169, .newarray .int, 2, 0, 0, 0, 0), (171, .putfield 71, 3, 9, 32, 0, 763), (174, .aload_n 0, 1, 0, 0, 0, 0), (175, .bipush 16, 2, 0, 0, 0, 0)],
  [(177, .newarray .int, 2, 0, 0, 0, 0), (179, .putfield 74, 3, 9, 33, 0, 764), (182, .aload_n 0, 1, 0, 0, 0, 0), (183, .bipush 16, 2, 0, 0, 0, 0), (185, .newarray .int, 2, 0, 0, 0, 0), (187, .putfield 77, 3, 9, 34, 0, 765), (190, .aload_n 0, 1, 0, 0, 0, 0), (191, .bipush 16, 2, 0, 0, 0, 0)],
  [(193, .newarray .int, 2, 0, 0, 0, 0), (195, .putfield 80, 3, 9, 35, 0, 766), (198, .aload_n 0, 1, 0, 0, 0, 0), (199, .iconst 2, 1, 0, 0, 0, 0), (200, .newarray .int, 2, 0, 0, 0, 0), (202, .putfield 83, 3, 9, 36, 0, 767), (205, .aload_n 0, 1, 0, 0, 0, 0), (206, .iconst 0, 1, 0, 0, 0, 0), (207, .putfield 86, 3, 9, 12, 0, 743)],
  [(210, .return_, 1, 0, 0, 0, 0)]]
def iv_k109 : List (List ivE) := [[(0, .lload_n 0, 1, 0, 0, 0, 0), (1, .lload_n 2, 1, 0, 0, 0, 0), (2, .lcmp, 1, 0, 0, 0, 0), (3, .ifCond .lt 14, 3, 0, 0, 0, 0), (6, .lload_n 0, 1, 0, 0, 0, 0), (7, .lload 4, 2, 0, 0, 0, 0), (9, .lcmp, 1, 0, 0, 0, 0), (10, .ifCond .gt 7, 3, 0, 0, 0, 0), (13, .iconst 1, 1, 0, 0, 0, 0), (14, .goto 4, 3, 0, 0, 0, 0)],
  [(17, .iconst 0, 1, 0, 0, 0, 0), (18, .ireturn, 1, 0, 0, 0, 0)]]
def iv_k110 : List (List ivE) := [[(0, .iload_n 1, 1, 0, 0, 0, 0), (1, .i2l, 1, 0, 0, 0, 0), (2, .lconst 1, 1, 0, 0, 0, 0), (3, .ldc2_w 90, 3, 0, 0, 8, 848), (6, .invokestatic 92, 3, 109, 3, 0, 849), (9, .ifCond .ne 6, 3, 0, 0, 0, 0), (12, .bipush (-2), 2, 0, 0, 0, 0), (14, .ireturn, 1, 0, 0, 0, 0), (15, .aload_n 0, 1, 0, 0, 0, 0)],
  [(16, .getfield 96, 3, 9, 17, 0, 748), (19, .iload_n 1, 1, 0, 0, 0, 0), (20, .iadd, 1, 0, 0, 0, 0), (21, .bipush 96, 2, 0, 0, 0, 0), (23, .if_icmp .le 6, 3, 0, 0, 0, 0), (26, .bipush (-4), 2, 0, 0, 0, 0), (28, .ireturn, 1, 0, 0, 0, 0), (29, .iload_n 1, 1, 0, 0, 0, 0), (30, .iconst 1, 1, 0, 0, 0, 0), (31, .isub, 1, 0, 0, 0, 0)],
  [(32, .istore 4, 2, 0, 0, 0, 0), (34, .iload 4, 2, 0, 0, 0, 0), (36, .ifCond .lt 40, 3, 0, 0, 0, 0), (39, .aload_n 0, 1, 0, 0, 0, 0), (40, .getfield 37, 3, 9, 16, 0, 747), (43, .aload_n 0, 1, 0, 0, 0, 0), (44, .getfield 96, 3, 9, 17, 0, 748), (47, .lload_n 2, 1, 0, 0, 0, 0)],
  [(48, .bipush 8, 2, 0, 0, 0, 0), (50, .iload 4, 2, 0, 0, 0, 0), (52, .imul, 1, 0, 0, 0, 0), (53, .lshr, 1, 0, 0, 0, 0), (54, .ldc2_w 99, 3, 0, 0, 255, 852), (57, .land, 1, 0, 0, 0, 0), (58, .l2i, 1, 0, 0, 0, 0), (59, .iastore, 1, 0, 0, 0, 0), (60, .aload_n 0, 1, 0, 0, 0, 0), (61, .dup, 1, 0, 0, 0, 0), (62, .getfield 96, 3, 9, 17, 0, 748)],
  [(65, .iconst 1, 1, 0, 0, 0, 0), (66, .iadd, 1, 0, 0, 0, 0), (67, .putfield 96, 3, 9, 17, 0, 748), (70, .iinc 4 (-1), 3, 0, 0, 0, 0), (73, .goto (-39), 3, 0, 0, 0, 0), (76, .aload_n 0, 1, 0, 0, 0, 0), (77, .getfield 96, 3, 9, 17, 0, 748)],
  [(80, .ireturn, 1, 0, 0, 0, 0)]]
def iv_k111 : List (List ivE) := [[(0, .aload_n 0, 1, 0, 0, 0, 0), (1, .getfield 96, 3, 9, 17, 0, 748), (4, .istore_n 1, 1, 0, 0, 0, 0), (5, .aload_n 0, 1, 0, 0, 0, 0), (6, .iconst 0, 1, 0, 0, 0, 0), (7, .putfield 96, 3, 9, 17, 0, 748), (10, .iload_n 1, 1, 0, 0, 0, 0), (11, .ireturn, 1, 0, 0, 0, 0)]]
def iv_k112 : List (List ivE) := [[(0, .aload_n 0, 1, 0, 0, 0, 0), (1, .getfield 101, 3, 9, 19, 0, 750), (4, .bipush (-9), 2, 0, 0, 0, 0), (6, .if_icmp .ne 26, 3, 0, 0, 0, 0), (9, .aload_n 0, 1, 0, 0, 0, 0), (10, .getfield 104, 3, 9, 18, 0, 749), (13, .aload_n 0, 1, 0, 0, 0, 0), (14, .getfield 96, 3, 9, 17, 0, 748)],
  [(17, .if_icmp .ge 15, 3, 0, 0, 0, 0), (20, .aload_n 0, 1, 0, 0, 0, 0), (21, .getfield 37, 3, 9, 16, 0, 747), (24, .aload_n 0, 1, 0, 0, 0, 0), (25, .getfield 104, 3, 9, 18, 0, 749), (28, .iaload, 1, 0, 0, 0, 0), (29, .goto 4, 3, 0, 0, 0, 0)],
  [(32, .iconst (-1), 1, 0, 0, 0, 0), (33, .ireturn, 1, 0, 0, 0, 0)]]
def iv_k113 : List (List ivE) := [[(0, .aload_n 0, 1, 0, 0, 0, 0), (1, .aload_n 0, 1, 0, 0, 0, 0), (2, .getfield 101, 3, 9, 19, 0, 750), (5, .bipush (-9), 2, 0, 0, 0, 0), (7, .if_icmp .ne 10, 3, 0, 0, 0, 0), (10, .aload_n 0, 1, 0, 0, 0, 0), (11, .getfield 104, 3, 9, 18, 0, 749), (14, .goto 7, 3, 0, 0, 0, 0)],
  [(17, .aload_n 0, 1, 0, 0, 0, 0), (18, .getfield 101, 3, 9, 19, 0, 750), (21, .putfield 101, 3, 9, 19, 0, 750), (24, .return_, 1, 0, 0, 0, 0)]]
def iv_k114 : List (List ivE) := [[(0, .aload_n 0, 1, 0, 0, 0, 0), (1, .invokevirtual 107, 3, 112, 1, 0, 865), (4, .bipush 48, 2, 0, 0, 0, 0), (6, .isub, 1, 0, 0, 0, 0), (7, .istore_n 2, 1, 0, 0, 0, 0), (8, .iload_n 2, 1, 0, 0, 0, 0), (9, .i2l, 1, 0, 0, 0, 0), (10, .lconst 0, 1, 0, 0, 0, 0), (11, .ldc2_w 111, 3, 0, 0, 9, 873), (14, .invokestatic 92, 3, 109, 3, 0, 849)],
  [(17, .ifCond .eq 11, 3, 0, 0, 0, 0), (20, .iload_n 1, 1, 0, 0, 0, 0), (21, .iload_n 2, 1, 0, 0, 0, 0), (22, .ishr, 1, 0, 0, 0, 0), (23, .iconst 1, 1, 0, 0, 0, 0), (24, .iand, 1, 0, 0, 0, 0), (25, .ifCond .ne 9, 3, 0, 0, 0, 0), (28, .aload_n 0, 1, 0, 0, 0, 0), (29, .invokevirtual 113, 3, 113, 1, 0, 874)],
  [(32, .iconst 0, 1, 0, 0, 0, 0), (33, .ireturn, 1, 0, 0, 0, 0), (34, .aload_n 0, 1, 0, 0, 0, 0), (35, .dup, 1, 0, 0, 0, 0), (36, .getfield 104, 3, 9, 18, 0, 749), (39, .iconst 1, 1, 0, 0, 0, 0), (40, .iadd, 1, 0, 0, 0, 0), (41, .putfield 104, 3, 9, 18, 0, 749), (44, .iload_n 2, 1, 0, 0, 0, 0), (45, .ireturn, 1, 0, 0, 0, 0)]]
def iv_k115 : List (List ivE) := [[(0, .iconst 0, 1, 0, 0, 0, 0), (1, .istore_n 1, 1, 0, 0, 0, 0), (2, .iconst 0, 1, 0, 0, 0, 0), (3, .istore_n 2, 1, 0, 0, 0, 0), (4, .iload_n 2, 1, 0, 0, 0, 0), (5, .aload_n 0, 1, 0, 0, 0, 0), (6, .getfield 116, 3, 9, 6, 0, 737), (9, .if_icmp .ge 27, 3, 0, 0, 0, 0), (12, .iload_n 1, 1, 0, 0, 0, 0), (13, .aload_n 0, 1, 0, 0, 0, 0), (14, .iload_n 2, 1, 0, 0, 0, 0), (15, .invokevirtual 119, 3, 116, 2, 0, 892)],
  [(18, .ifCond .eq 9, 3, 0, 0, 0, 0), (21, .iconst 1, 1, 0, 0, 0, 0), (22, .iload_n 2, 1, 0, 0, 0, 0), (23, .ishl, 1, 0, 0, 0, 0), (24, .goto 4, 3, 0, 0, 0, 0), (27, .iconst 0, 1, 0, 0, 0, 0), (28, .ior, 1, 0, 0, 0, 0), (29, .istore_n 1, 1, 0, 0, 0, 0), (30, .iinc 2 1, 3, 0, 0, 0, 0)],
  [(33, .goto (-29), 3, 0, 0, 0, 0), (36, .iload_n 1, 1, 0, 0, 0, 0), (37, .ireturn, 1, 0, 0, 0, 0)]]
def iv_k116 : List (List ivE) := [[(0, .iconst 0, 1, 0, 0, 0, 0), (1, .istore_n 2, 1, 0, 0, 0, 0), (2, .iconst 0, 1, 0, 0, 0, 0), (3, .istore_n 3, 1, 0, 0, 0, 0), (4, .iload_n 3, 1, 0, 0, 0, 0), (5, .aload_n 0, 1, 0, 0, 0, 0), (6, .getfield 123, 3, 9, 5, 0, 736), (9, .if_icmp .ge 32, 3, 0, 0, 0, 0), (12, .iload_n 2, 1, 0, 0, 0, 0), (13, .aload_n 0, 1, 0, 0, 0, 0), (14, .getfield 16, 3, 9, 2, 0, 733)],
  [(17, .iload_n 3, 1, 0, 0, 0, 0), (18, .iaload, 1, 0, 0, 0, 0), (19, .iload_n 1, 1, 0, 0, 0, 0), (20, .ishr, 1, 0, 0, 0, 0), (21, .iconst 1, 1, 0, 0, 0, 0), (22, .iand, 1, 0, 0, 0, 0), (23, .ifCond .ne 9, 3, 0, 0, 0, 0), (26, .iconst 1, 1, 0, 0, 0, 0), (27, .iload_n 3, 1, 0, 0, 0, 0), (28, .ishl, 1, 0, 0, 0, 0), (29, .goto 4, 3, 0, 0, 0, 0)],
  [(32, .iconst 0, 1, 0, 0, 0, 0), (33, .ior, 1, 0, 0, 0, 0), (34, .istore_n 2, 1, 0, 0, 0, 0), (35, .iinc 3 1, 3, 0, 0, 0, 0), (38, .goto (-34), 3, 0, 0, 0, 0), (41, .iload_n 2, 1, 0, 0, 0, 0), (42, .ireturn, 1, 0, 0, 0, 0)]]
def iv_k117 : List (List ivE) := [[(0, .aload_n 0, 1, 0, 0, 0, 0), (1, .iconst 0, 1, 0, 0, 0, 0), (2, .putfield 104, 3, 9, 18, 0, 749), (5, .aload_n 0, 1, 0, 0, 0, 0), (6, .bipush (-9), 2, 0, 0, 0, 0), (8, .putfield 101, 3, 9, 19, 0, 750), (11, .aload_n 0, 1, 0, 0, 0, 0), (12, .iconst 0, 1, 0, 0, 0, 0), (13, .putfield 123, 3, 9, 5, 0, 736)],
  [(16, .aload_n 0, 1, 0, 0, 0, 0), (17, .iconst 0, 1, 0, 0, 0, 0), (18, .putfield 116, 3, 9, 6, 0, 737), (21, .aload_n 0, 1, 0, 0, 0, 0), (22, .invokevirtual 107, 3, 112, 1, 0, 865), (25, .bipush 72, 2, 0, 0, 0, 0), (27, .if_icmp .eq 5, 3, 0, 0, 0, 0), (30, .iconst 0, 1, 0, 0, 0, 0), (31, .ireturn, 1, 0, 0, 0, 0)],
  [(32, .aload_n 0, 1, 0, 0, 0, 0), (33, .iconst 1, 1, 0, 0, 0, 0), (34, .putfield 104, 3, 9, 18, 0, 749), (37, .aload_n 0, 1, 0, 0, 0, 0), (38, .aload_n 0, 1, 0, 0, 0, 0), (39, .bipush 15, 2, 0, 0, 0, 0), (41, .invokevirtual 126, 3, 114, 2, 0, 869), (44, .putfield 129, 3, 9, 4, 0, 735), (47, .aload_n 0, 1, 0, 0, 0, 0)],
  [(48, .getfield 101, 3, 9, 19, 0, 750), (51, .bipush (-9), 2, 0, 0, 0, 0), (53, .if_icmp .ne 172, 3, 0, 0, 0, 0), (56, .aload_n 0, 1, 0, 0, 0, 0), (57, .getfield 104, 3, 9, 18, 0, 749), (60, .aload_n 0, 1, 0, 0, 0, 0), (61, .getfield 96, 3, 9, 17, 0, 748)],
  [(64, .if_icmp .ge 161, 3, 0, 0, 0, 0), (67, .aload_n 0, 1, 0, 0, 0, 0), (68, .invokevirtual 107, 3, 112, 1, 0, 865), (71, .istore_n 1, 1, 0, 0, 0, 0), (72, .iload_n 1, 1, 0, 0, 0, 0), (73, .bipush 78, 2, 0, 0, 0, 0), (75, .if_icmp .ne 19, 3, 0, 0, 0, 0), (78, .aload_n 0, 1, 0, 0, 0, 0), (79, .getfield 123, 3, 9, 5, 0, 736)],
  [(82, .bipush 8, 2, 0, 0, 0, 0), (84, .if_icmp .ge 10, 3, 0, 0, 0, 0), (87, .aload_n 0, 1, 0, 0, 0, 0), (88, .invokevirtual 132, 3, 119, 1, 0, 878), (91, .goto 131, 3, 0, 0, 0, 0), (94, .iload_n 1, 1, 0, 0, 0, 0), (95, .bipush 80, 2, 0, 0, 0, 0)],
  [(97, .if_icmp .ne 51, 3, 0, 0, 0, 0), (100, .aload_n 0, 1, 0, 0, 0, 0), (101, .getfield 116, 3, 9, 6, 0, 737), (104, .bipush 6, 2, 0, 0, 0, 0), (106, .if_icmp .ge 42, 3, 0, 0, 0, 0), (109, .aload_n 0, 1, 0, 0, 0, 0), (110, .dup, 1, 0, 0, 0, 0), (111, .getfield 104, 3, 9, 18, 0, 749)],
  [(114, .iconst 1, 1, 0, 0, 0, 0), (115, .iadd, 1, 0, 0, 0, 0), (116, .putfield 104, 3, 9, 18, 0, 749), (119, .aload_n 0, 1, 0, 0, 0, 0), (120, .getfield 19, 3, 9, 3, 0, 734), (123, .aload_n 0, 1, 0, 0, 0, 0), (124, .getfield 116, 3, 9, 6, 0, 737), (127, .aload_n 0, 1, 0, 0, 0, 0)],
  [(128, .sipush 1022, 3, 0, 0, 0, 0), (131, .invokevirtual 126, 3, 114, 2, 0, 869), (134, .iastore, 1, 0, 0, 0, 0), (135, .aload_n 0, 1, 0, 0, 0, 0), (136, .dup, 1, 0, 0, 0, 0), (137, .getfield 116, 3, 9, 6, 0, 737), (140, .iconst 1, 1, 0, 0, 0, 0), (141, .iadd, 1, 0, 0, 0, 0), (142, .putfield 116, 3, 9, 6, 0, 737)],
  [(145, .goto 77, 3, 0, 0, 0, 0), (148, .iload_n 1, 1, 0, 0, 0, 0), (149, .bipush 75, 2, 0, 0, 0, 0), (151, .if_icmp .ne 67, 3, 0, 0, 0, 0), (154, .aload_n 0, 1, 0, 0, 0, 0), (155, .invokevirtual 135, 3, 115, 1, 0, 888), (158, .ifCond .eq 60, 3, 0, 0, 0, 0)],
  [(161, .aload_n 0, 1, 0, 0, 0, 0), (162, .dup, 1, 0, 0, 0, 0), (163, .getfield 104, 3, 9, 18, 0, 749), (166, .iconst 1, 1, 0, 0, 0, 0), (167, .iadd, 1, 0, 0, 0, 0), (168, .putfield 104, 3, 9, 18, 0, 749), (171, .aload_n 0, 1, 0, 0, 0, 0), (172, .aload_n 0, 1, 0, 0, 0, 0), (173, .invokevirtual 135, 3, 115, 1, 0, 888)],
  [(176, .invokevirtual 126, 3, 114, 2, 0, 869), (179, .istore_n 2, 1, 0, 0, 0, 0), (180, .aload_n 0, 1, 0, 0, 0, 0), (181, .aload_n 0, 1, 0, 0, 0, 0), (182, .iload_n 2, 1, 0, 0, 0, 0), (183, .invokevirtual 119, 3, 116, 2, 0, 892), (186, .invokevirtual 126, 3, 114, 2, 0, 869), (189, .istore_n 3, 1, 0, 0, 0, 0), (190, .aload_n 0, 1, 0, 0, 0, 0), (191, .getfield 16, 3, 9, 2, 0, 733)],
  [(194, .iload_n 3, 1, 0, 0, 0, 0), (195, .dup2, 1, 0, 0, 0, 0), (196, .iaload, 1, 0, 0, 0, 0), (197, .aload_n 0, 1, 0, 0, 0, 0), (198, .getfield 101, 3, 9, 19, 0, 750), (201, .bipush (-9), 2, 0, 0, 0, 0), (203, .if_icmp .ne 9, 3, 0, 0, 0, 0), (206, .iconst 1, 1, 0, 0, 0, 0), (207, .iload_n 2, 1, 0, 0, 0, 0)],
  [(208, .ishl, 1, 0, 0, 0, 0), (209, .goto 4, 3, 0, 0, 0, 0), (212, .iconst 0, 1, 0, 0, 0, 0), (213, .ior, 1, 0, 0, 0, 0), (214, .iastore, 1, 0, 0, 0, 0), (215, .goto 7, 3, 0, 0, 0, 0), (218, .aload_n 0, 1, 0, 0, 0, 0), (219, .invokevirtual 113, 3, 113, 1, 0, 874), (222, .goto (-175), 3, 0, 0, 0, 0)],
  [(225, .aload_n 0, 1, 0, 0, 0, 0), (226, .getfield 101, 3, 9, 19, 0, 750), (229, .ireturn, 1, 0, 0, 0, 0)]]
def iv_k118 : List (List ivE) := [[(0, .iconst 0, 1, 0, 0, 0, 0), (1, .istore_n 1, 1, 0, 0, 0, 0), (2, .iconst 0, 1, 0, 0, 0, 0), (3, .istore_n 2, 1, 0, 0, 0, 0), (4, .iload_n 2, 1, 0, 0, 0, 0), (5, .aload_n 0, 1, 0, 0, 0, 0), (6, .getfield 123, 3, 9, 5, 0, 736), (9, .if_icmp .ge 105, 3, 0, 0, 0, 0), (12, .aload_n 0, 1, 0, 0, 0, 0), (13, .getfield 13, 3, 9, 1, 0, 732)],
  [(16, .iload_n 2, 1, 0, 0, 0, 0), (17, .iaload, 1, 0, 0, 0, 0), (18, .aload_n 0, 1, 0, 0, 0, 0), (19, .getfield 13, 3, 9, 1, 0, 732), (22, .aload_n 0, 1, 0, 0, 0, 0), (23, .getfield 123, 3, 9, 5, 0, 736), (26, .iaload, 1, 0, 0, 0, 0), (27, .if_icmp .ne 7, 3, 0, 0, 0, 0), (30, .iconst 1, 1, 0, 0, 0, 0), (31, .goto 4, 3, 0, 0, 0, 0)],
  [(34, .iconst 0, 1, 0, 0, 0, 0), (35, .istore_n 3, 1, 0, 0, 0, 0), (36, .iconst 0, 1, 0, 0, 0, 0), (37, .istore 4, 2, 0, 0, 0, 0), (39, .iload 4, 2, 0, 0, 0, 0), (41, .aload_n 0, 1, 0, 0, 0, 0), (42, .getfield 13, 3, 9, 1, 0, 732), (45, .iload_n 2, 1, 0, 0, 0, 0), (46, .iaload, 1, 0, 0, 0, 0), (47, .if_icmp .ge 47, 3, 0, 0, 0, 0)],
  [(50, .iload_n 3, 1, 0, 0, 0, 0), (51, .ifCond .eq 43, 3, 0, 0, 0, 0), (54, .aload_n 0, 1, 0, 0, 0, 0), (55, .getfield 7, 3, 9, 0, 0, 731), (58, .iconst 5, 1, 0, 0, 0, 0), (59, .iload_n 2, 1, 0, 0, 0, 0), (60, .imul, 1, 0, 0, 0, 0), (61, .iload 4, 2, 0, 0, 0, 0), (63, .iadd, 1, 0, 0, 0, 0)],
  [(64, .iaload, 1, 0, 0, 0, 0), (65, .aload_n 0, 1, 0, 0, 0, 0), (66, .getfield 7, 3, 9, 0, 0, 731), (69, .iconst 5, 1, 0, 0, 0, 0), (70, .aload_n 0, 1, 0, 0, 0, 0), (71, .getfield 123, 3, 9, 5, 0, 736), (74, .imul, 1, 0, 0, 0, 0), (75, .iload 4, 2, 0, 0, 0, 0), (77, .iadd, 1, 0, 0, 0, 0), (78, .iaload, 1, 0, 0, 0, 0), (79, .if_icmp .ne 7, 3, 0, 0, 0, 0)],
  [(82, .iconst 1, 1, 0, 0, 0, 0), (83, .goto 4, 3, 0, 0, 0, 0), (86, .iconst 0, 1, 0, 0, 0, 0), (87, .istore_n 3, 1, 0, 0, 0, 0), (88, .iinc 4 1, 3, 0, 0, 0, 0), (91, .goto (-52), 3, 0, 0, 0, 0), (94, .iload_n 1, 1, 0, 0, 0, 0), (95, .ifCond .ne 7, 3, 0, 0, 0, 0)],
  [(98, .iload_n 3, 1, 0, 0, 0, 0), (99, .ifCond .eq 7, 3, 0, 0, 0, 0), (102, .iconst 1, 1, 0, 0, 0, 0), (103, .goto 4, 3, 0, 0, 0, 0), (106, .iconst 0, 1, 0, 0, 0, 0), (107, .istore_n 1, 1, 0, 0, 0, 0), (108, .iinc 2 1, 3, 0, 0, 0, 0), (111, .goto (-107), 3, 0, 0, 0, 0)],
  [(114, .iload_n 1, 1, 0, 0, 0, 0), (115, .ireturn, 1, 0, 0, 0, 0)]]
def iv_k119 : List (List ivE) := [[(0, .aload_n 0, 1, 0, 0, 0, 0), (1, .dup, 1, 0, 0, 0, 0), (2, .getfield 104, 3, 9, 18, 0, 749), (5, .iconst 1, 1, 0, 0, 0, 0), (6, .iadd, 1, 0, 0, 0, 0), (7, .putfield 104, 3, 9, 18, 0, 749), (10, .iconst 0, 1, 0, 0, 0, 0), (11, .istore_n 1, 1, 0, 0, 0, 0), (12, .iload_n 1, 1, 0, 0, 0, 0), (13, .iconst 5, 1, 0, 0, 0, 0), (14, .if_icmp .ge 56, 3, 0, 0, 0, 0)],
  [(17, .aload_n 0, 1, 0, 0, 0, 0), (18, .invokevirtual 107, 3, 112, 1, 0, 865), (21, .i2l, 1, 0, 0, 0, 0), (22, .ldc2_w 138, 3, 0, 0, 97, 882), (25, .ldc2_w 140, 3, 0, 0, 102, 883), (28, .invokestatic 92, 3, 109, 3, 0, 849), (31, .ifCond .eq 39, 3, 0, 0, 0, 0)],
  [(34, .aload_n 0, 1, 0, 0, 0, 0), (35, .getfield 7, 3, 9, 0, 0, 731), (38, .iconst 5, 1, 0, 0, 0, 0), (39, .aload_n 0, 1, 0, 0, 0, 0), (40, .getfield 123, 3, 9, 5, 0, 736), (43, .imul, 1, 0, 0, 0, 0), (44, .iload_n 1, 1, 0, 0, 0, 0), (45, .iadd, 1, 0, 0, 0, 0), (46, .aload_n 0, 1, 0, 0, 0, 0), (47, .invokevirtual 107, 3, 112, 1, 0, 865)],
  [(50, .bipush 97, 2, 0, 0, 0, 0), (52, .isub, 1, 0, 0, 0, 0), (53, .iastore, 1, 0, 0, 0, 0), (54, .iinc 1 1, 3, 0, 0, 0, 0), (57, .aload_n 0, 1, 0, 0, 0, 0), (58, .dup, 1, 0, 0, 0, 0), (59, .getfield 104, 3, 9, 18, 0, 749), (62, .iconst 1, 1, 0, 0, 0, 0), (63, .iadd, 1, 0, 0, 0, 0)],
  [(64, .putfield 104, 3, 9, 18, 0, 749), (67, .goto (-55), 3, 0, 0, 0, 0), (70, .aload_n 0, 1, 0, 0, 0, 0), (71, .getfield 13, 3, 9, 1, 0, 732), (74, .aload_n 0, 1, 0, 0, 0, 0), (75, .getfield 123, 3, 9, 5, 0, 736), (78, .iload_n 1, 1, 0, 0, 0, 0), (79, .iastore, 1, 0, 0, 0, 0)],
  [(80, .aload_n 0, 1, 0, 0, 0, 0), (81, .getfield 16, 3, 9, 2, 0, 733), (84, .aload_n 0, 1, 0, 0, 0, 0), (85, .getfield 123, 3, 9, 5, 0, 736), (88, .iconst 0, 1, 0, 0, 0, 0), (89, .iastore, 1, 0, 0, 0, 0), (90, .iload_n 1, 1, 0, 0, 0, 0), (91, .ifCond .ne 10, 3, 0, 0, 0, 0), (94, .aload_n 0, 1, 0, 0, 0, 0), (95, .invokevirtual 113, 3, 113, 1, 0, 874)],
  [(98, .goto 33, 3, 0, 0, 0, 0), (101, .aload_n 0, 1, 0, 0, 0, 0), (102, .invokevirtual 142, 3, 118, 1, 0, 884), (105, .ifCond .eq 26, 3, 0, 0, 0, 0), (108, .aload_n 0, 1, 0, 0, 0, 0), (109, .dup, 1, 0, 0, 0, 0), (110, .getfield 104, 3, 9, 18, 0, 749)],
  [(113, .iload_n 1, 1, 0, 0, 0, 0), (114, .iconst 5, 1, 0, 0, 0, 0), (115, .if_icmp .ne 7, 3, 0, 0, 0, 0), (118, .iconst 1, 1, 0, 0, 0, 0), (119, .goto 4, 3, 0, 0, 0, 0), (122, .iconst 0, 1, 0, 0, 0, 0), (123, .isub, 1, 0, 0, 0, 0), (124, .putfield 104, 3, 9, 18, 0, 749), (127, .aload_n 0, 1, 0, 0, 0, 0)],
  [(128, .invokevirtual 113, 3, 113, 1, 0, 874), (131, .aload_n 0, 1, 0, 0, 0, 0), (132, .dup, 1, 0, 0, 0, 0), (133, .getfield 123, 3, 9, 5, 0, 736), (136, .iconst 1, 1, 0, 0, 0, 0), (137, .iadd, 1, 0, 0, 0, 0), (138, .putfield 123, 3, 9, 5, 0, 736), (141, .return_, 1, 0, 0, 0, 0)]]
def iv_k120 : List (List ivE) := [[(0, .aload_n 0, 1, 0, 0, 0, 0), (1, .invokevirtual 146, 3, 117, 1, 0, 861), (4, .ireturn, 1, 0, 0, 0, 0)]]
def iv_k121 : List (List ivE) := [[(0, .aload_n 0, 1, 0, 0, 0, 0), (1, .invokevirtual 146, 3, 117, 1, 0, 861), (4, .bipush (-9), 2, 0, 0, 0, 0), (6, .if_icmp .eq 6, 3, 0, 0, 0, 0), (9, .bipush (-3), 2, 0, 0, 0, 0), (11, .ireturn, 1, 0, 0, 0, 0), (12, .iconst 0, 1, 0, 0, 0, 0), (13, .istore_n 1, 1, 0, 0, 0, 0), (14, .iload_n 1, 1, 0, 0, 0, 0), (15, .bipush 40, 2, 0, 0, 0, 0)],
  [(17, .if_icmp .ge 21, 3, 0, 0, 0, 0), (20, .aload_n 0, 1, 0, 0, 0, 0), (21, .getfield 22, 3, 9, 7, 0, 738), (24, .iload_n 1, 1, 0, 0, 0, 0), (25, .aload_n 0, 1, 0, 0, 0, 0), (26, .getfield 7, 3, 9, 0, 0, 731), (29, .iload_n 1, 1, 0, 0, 0, 0), (30, .iaload, 1, 0, 0, 0, 0), (31, .iastore, 1, 0, 0, 0, 0)],
  [(32, .iinc 1 1, 3, 0, 0, 0, 0), (35, .goto (-21), 3, 0, 0, 0, 0), (38, .iconst 0, 1, 0, 0, 0, 0), (39, .istore_n 1, 1, 0, 0, 0, 0), (40, .iload_n 1, 1, 0, 0, 0, 0), (41, .bipush 8, 2, 0, 0, 0, 0), (43, .if_icmp .ge 64, 3, 0, 0, 0, 0), (46, .aload_n 0, 1, 0, 0, 0, 0), (47, .getfield 25, 3, 9, 8, 0, 739)],
  [(50, .iload_n 1, 1, 0, 0, 0, 0), (51, .iload_n 1, 1, 0, 0, 0, 0), (52, .aload_n 0, 1, 0, 0, 0, 0), (53, .getfield 123, 3, 9, 5, 0, 736), (56, .if_icmp .ge 12, 3, 0, 0, 0, 0), (59, .aload_n 0, 1, 0, 0, 0, 0), (60, .getfield 13, 3, 9, 1, 0, 732), (63, .iload_n 1, 1, 0, 0, 0, 0)],
  [(64, .iaload, 1, 0, 0, 0, 0), (65, .goto 4, 3, 0, 0, 0, 0), (68, .iconst 0, 1, 0, 0, 0, 0), (69, .iastore, 1, 0, 0, 0, 0), (70, .aload_n 0, 1, 0, 0, 0, 0), (71, .getfield 28, 3, 9, 9, 0, 740), (74, .iload_n 1, 1, 0, 0, 0, 0), (75, .iload_n 1, 1, 0, 0, 0, 0), (76, .aload_n 0, 1, 0, 0, 0, 0), (77, .getfield 123, 3, 9, 5, 0, 736)],
  [(80, .if_icmp .ge 12, 3, 0, 0, 0, 0), (83, .aload_n 0, 1, 0, 0, 0, 0), (84, .getfield 16, 3, 9, 2, 0, 733), (87, .iload_n 1, 1, 0, 0, 0, 0), (88, .iaload, 1, 0, 0, 0, 0), (89, .goto 4, 3, 0, 0, 0, 0), (92, .iconst 0, 1, 0, 0, 0, 0), (93, .iastore, 1, 0, 0, 0, 0), (94, .aload_n 0, 1, 0, 0, 0, 0), (95, .getfield 31, 3, 9, 10, 0, 741)],
  [(98, .iload_n 1, 1, 0, 0, 0, 0), (99, .iconst 0, 1, 0, 0, 0, 0), (100, .iastore, 1, 0, 0, 0, 0), (101, .iinc 1 1, 3, 0, 0, 0, 0), (104, .goto (-64), 3, 0, 0, 0, 0), (107, .iconst 0, 1, 0, 0, 0, 0), (108, .istore_n 1, 1, 0, 0, 0, 0), (109, .iload_n 1, 1, 0, 0, 0, 0), (110, .bipush 6, 2, 0, 0, 0, 0)],
  [(112, .if_icmp .ge 21, 3, 0, 0, 0, 0), (115, .aload_n 0, 1, 0, 0, 0, 0), (116, .getfield 34, 3, 9, 11, 0, 742), (119, .iload_n 1, 1, 0, 0, 0, 0), (120, .aload_n 0, 1, 0, 0, 0, 0), (121, .getfield 19, 3, 9, 3, 0, 734), (124, .iload_n 1, 1, 0, 0, 0, 0), (125, .iaload, 1, 0, 0, 0, 0), (126, .iastore, 1, 0, 0, 0, 0), (127, .iinc 1 1, 3, 0, 0, 0, 0)],
  [(130, .goto (-21), 3, 0, 0, 0, 0), (133, .aload_n 0, 1, 0, 0, 0, 0), (134, .aload_n 0, 1, 0, 0, 0, 0), (135, .getfield 129, 3, 9, 4, 0, 735), (138, .putfield 86, 3, 9, 12, 0, 743), (141, .aload_n 0, 1, 0, 0, 0, 0), (142, .aload_n 0, 1, 0, 0, 0, 0), (143, .getfield 123, 3, 9, 5, 0, 736)],
  [(146, .putfield 149, 3, 9, 13, 0, 744), (149, .aload_n 0, 1, 0, 0, 0, 0), (150, .aload_n 0, 1, 0, 0, 0, 0), (151, .getfield 116, 3, 9, 6, 0, 737), (154, .putfield 152, 3, 9, 14, 0, 745), (157, .aload_n 0, 1, 0, 0, 0, 0), (158, .iconst 0, 1, 0, 0, 0, 0), (159, .putfield 155, 3, 9, 15, 0, 746)],
  [(162, .aload_n 0, 1, 0, 0, 0, 0), (163, .getfield 68, 3, 9, 31, 0, 762), (166, .iconst 0, 1, 0, 0, 0, 0), (167, .iconst 0, 1, 0, 0, 0, 0), (168, .bastore, 1, 0, 0, 0, 0), (169, .aload_n 0, 1, 0, 0, 0, 0), (170, .getfield 68, 3, 9, 31, 0, 762), (173, .iconst 1, 1, 0, 0, 0, 0), (174, .iconst 0, 1, 0, 0, 0, 0), (175, .bastore, 1, 0, 0, 0, 0)],
  [(176, .bipush 10, 2, 0, 0, 0, 0), (178, .aload_n 0, 1, 0, 0, 0, 0), (179, .getfield 149, 3, 9, 13, 0, 744), (182, .imul, 1, 0, 0, 0, 0), (183, .aload_n 0, 1, 0, 0, 0, 0), (184, .getfield 152, 3, 9, 14, 0, 745), (187, .iadd, 1, 0, 0, 0, 0), (188, .ireturn, 1, 0, 0, 0, 0)]]
def iv_k122 : List (List ivE) := [[(0, .iload_n 1, 1, 0, 0, 0, 0), (1, .i2l, 1, 0, 0, 0, 0), (2, .lconst 0, 1, 0, 0, 0, 0), (3, .aload_n 0, 1, 0, 0, 0, 0), (4, .getfield 149, 3, 9, 13, 0, 744), (7, .iconst 1, 1, 0, 0, 0, 0), (8, .isub, 1, 0, 0, 0, 0), (9, .i2l, 1, 0, 0, 0, 0), (10, .invokestatic 92, 3, 109, 3, 0, 849), (13, .ireturn, 1, 0, 0, 0, 0)]]
def iv_k123 : List (List ivE) := [[(0, .iload_n 1, 1, 0, 0, 0, 0), (1, .i2l, 1, 0, 0, 0, 0), (2, .lconst 0, 1, 0, 0, 0, 0), (3, .aload_n 0, 1, 0, 0, 0, 0), (4, .getfield 152, 3, 9, 14, 0, 745), (7, .iconst 1, 1, 0, 0, 0, 0), (8, .isub, 1, 0, 0, 0, 0), (9, .i2l, 1, 0, 0, 0, 0), (10, .invokestatic 92, 3, 109, 3, 0, 849), (13, .ireturn, 1, 0, 0, 0, 0)]]
def iv_k124 : List (List ivE) := [[(0, .aload_n 0, 1, 0, 0, 0, 0), (1, .iload_n 1, 1, 0, 0, 0, 0), (2, .invokevirtual 158, 3, 122, 2, 0, 904), (5, .ifCond .ne 5, 3, 0, 0, 0, 0), (8, .iconst (-1), 1, 0, 0, 0, 0), (9, .ireturn, 1, 0, 0, 0, 0), (10, .iload_n 2, 1, 0, 0, 0, 0), (11, .i2l, 1, 0, 0, 0, 0), (12, .lconst 0, 1, 0, 0, 0, 0), (13, .aload_n 0, 1, 0, 0, 0, 0), (14, .getfield 25, 3, 9, 8, 0, 739)],
  [(17, .iload_n 1, 1, 0, 0, 0, 0), (18, .iaload, 1, 0, 0, 0, 0), (19, .iconst 1, 1, 0, 0, 0, 0), (20, .isub, 1, 0, 0, 0, 0), (21, .i2l, 1, 0, 0, 0, 0), (22, .invokestatic 92, 3, 109, 3, 0, 849), (25, .ifCond .eq 16, 3, 0, 0, 0, 0), (28, .aload_n 0, 1, 0, 0, 0, 0), (29, .getfield 22, 3, 9, 7, 0, 738)],
  [(32, .iconst 5, 1, 0, 0, 0, 0), (33, .iload_n 1, 1, 0, 0, 0, 0), (34, .imul, 1, 0, 0, 0, 0), (35, .iload_n 2, 1, 0, 0, 0, 0), (36, .iadd, 1, 0, 0, 0, 0), (37, .iaload, 1, 0, 0, 0, 0), (38, .goto 5, 3, 0, 0, 0, 0), (41, .bipush (-9), 2, 0, 0, 0, 0), (43, .ireturn, 1, 0, 0, 0, 0)]]
def iv_k125 : List (List ivE) := [[(0, .iload_n 0, 1, 0, 0, 0, 0), (1, .iload_n 1, 1, 0, 0, 0, 0), (2, .if_icmp .ge 7, 3, 0, 0, 0, 0), (5, .iload_n 0, 1, 0, 0, 0, 0), (6, .goto 4, 3, 0, 0, 0, 0), (9, .iload_n 1, 1, 0, 0, 0, 0), (10, .istore_n 3, 1, 0, 0, 0, 0), (11, .iload_n 3, 1, 0, 0, 0, 0), (12, .iload_n 2, 1, 0, 0, 0, 0), (13, .if_icmp .ge 7, 3, 0, 0, 0, 0)],
  [(16, .iload_n 3, 1, 0, 0, 0, 0), (17, .goto 4, 3, 0, 0, 0, 0), (20, .iload_n 2, 1, 0, 0, 0, 0), (21, .ireturn, 1, 0, 0, 0, 0)]]
def iv_k126 : List (List ivE) := [[(0, .iconst 0, 1, 0, 0, 0, 0), (1, .istore_n 2, 1, 0, 0, 0, 0), (2, .iload_n 2, 1, 0, 0, 0, 0), (3, .aload_n 0, 1, 0, 0, 0, 0), (4, .getfield 162, 3, 9, 21, 0, 752), (7, .if_icmp .gt 137, 3, 0, 0, 0, 0), (10, .iconst 0, 1, 0, 0, 0, 0), (11, .istore_n 3, 1, 0, 0, 0, 0), (12, .iload_n 3, 1, 0, 0, 0, 0), (13, .aload_n 0, 1, 0, 0, 0, 0), (14, .getfield 25, 3, 9, 8, 0, 739)],
  [(17, .iload_n 1, 1, 0, 0, 0, 0), (18, .iaload, 1, 0, 0, 0, 0), (19, .if_icmp .gt 119, 3, 0, 0, 0, 0), (22, .iload_n 2, 1, 0, 0, 0, 0), (23, .ifCond .ne 7, 3, 0, 0, 0, 0), (26, .iload_n 3, 1, 0, 0, 0, 0), (27, .goto 90, 3, 0, 0, 0, 0), (30, .iload_n 3, 1, 0, 0, 0, 0), (31, .ifCond .ne 7, 3, 0, 0, 0, 0)],
  [(34, .iload_n 2, 1, 0, 0, 0, 0), (35, .goto 82, 3, 0, 0, 0, 0), (38, .aload_n 0, 1, 0, 0, 0, 0), (39, .getfield 43, 3, 9, 22, 0, 753), (42, .bipush 6, 2, 0, 0, 0, 0), (44, .iload_n 2, 1, 0, 0, 0, 0), (45, .imul, 1, 0, 0, 0, 0), (46, .bipush 6, 2, 0, 0, 0, 0)],
  [(48, .isub, 1, 0, 0, 0, 0), (49, .iload_n 3, 1, 0, 0, 0, 0), (50, .iadd, 1, 0, 0, 0, 0), (51, .iaload, 1, 0, 0, 0, 0), (52, .iconst 1, 1, 0, 0, 0, 0), (53, .iadd, 1, 0, 0, 0, 0), (54, .aload_n 0, 1, 0, 0, 0, 0), (55, .getfield 43, 3, 9, 22, 0, 753), (58, .bipush 6, 2, 0, 0, 0, 0), (60, .iload_n 2, 1, 0, 0, 0, 0), (61, .imul, 1, 0, 0, 0, 0), (62, .iload_n 3, 1, 0, 0, 0, 0), (63, .iadd, 1, 0, 0, 0, 0)],
  [(64, .iconst 1, 1, 0, 0, 0, 0), (65, .isub, 1, 0, 0, 0, 0), (66, .iaload, 1, 0, 0, 0, 0), (67, .iconst 1, 1, 0, 0, 0, 0), (68, .iadd, 1, 0, 0, 0, 0), (69, .aload_n 0, 1, 0, 0, 0, 0), (70, .getfield 43, 3, 9, 22, 0, 753), (73, .bipush 6, 2, 0, 0, 0, 0), (75, .iload_n 2, 1, 0, 0, 0, 0), (76, .imul, 1, 0, 0, 0, 0), (77, .bipush 6, 2, 0, 0, 0, 0), (79, .isub, 1, 0, 0, 0, 0)],
  [(80, .iload_n 3, 1, 0, 0, 0, 0), (81, .iadd, 1, 0, 0, 0, 0), (82, .iconst 1, 1, 0, 0, 0, 0), (83, .isub, 1, 0, 0, 0, 0), (84, .iaload, 1, 0, 0, 0, 0), (85, .aload_n 0, 1, 0, 0, 0, 0), (86, .getfield 40, 3, 9, 20, 0, 751), (89, .iload_n 2, 1, 0, 0, 0, 0), (90, .iconst 1, 1, 0, 0, 0, 0), (91, .isub, 1, 0, 0, 0, 0), (92, .iaload, 1, 0, 0, 0, 0), (93, .aload_n 0, 1, 0, 0, 0, 0), (94, .getfield 22, 3, 9, 7, 0, 738)],
  [(97, .iconst 5, 1, 0, 0, 0, 0), (98, .iload_n 1, 1, 0, 0, 0, 0), (99, .imul, 1, 0, 0, 0, 0), (100, .iload_n 3, 1, 0, 0, 0, 0), (101, .iadd, 1, 0, 0, 0, 0), (102, .iconst 1, 1, 0, 0, 0, 0), (103, .isub, 1, 0, 0, 0, 0), (104, .iaload, 1, 0, 0, 0, 0), (105, .if_icmp .ne 7, 3, 0, 0, 0, 0), (108, .iconst 0, 1, 0, 0, 0, 0), (109, .goto 4, 3, 0, 0, 0, 0)],
  [(112, .iconst 1, 1, 0, 0, 0, 0), (113, .iadd, 1, 0, 0, 0, 0), (114, .invokestatic 165, 3, 125, 3, 0, 920), (117, .istore 4, 2, 0, 0, 0, 0), (119, .aload_n 0, 1, 0, 0, 0, 0), (120, .getfield 43, 3, 9, 22, 0, 753), (123, .bipush 6, 2, 0, 0, 0, 0), (125, .iload_n 2, 1, 0, 0, 0, 0), (126, .imul, 1, 0, 0, 0, 0), (127, .iload_n 3, 1, 0, 0, 0, 0)],
  [(128, .iadd, 1, 0, 0, 0, 0), (129, .iload 4, 2, 0, 0, 0, 0), (131, .iastore, 1, 0, 0, 0, 0), (132, .iinc 3 1, 3, 0, 0, 0, 0), (135, .goto (-123), 3, 0, 0, 0, 0), (138, .iinc 2 1, 3, 0, 0, 0, 0), (141, .goto (-139), 3, 0, 0, 0, 0)],
  [(144, .aload_n 0, 1, 0, 0, 0, 0), (145, .getfield 43, 3, 9, 22, 0, 753), (148, .bipush 6, 2, 0, 0, 0, 0), (150, .aload_n 0, 1, 0, 0, 0, 0), (151, .getfield 162, 3, 9, 21, 0, 752), (154, .imul, 1, 0, 0, 0, 0), (155, .aload_n 0, 1, 0, 0, 0, 0), (156, .getfield 25, 3, 9, 8, 0, 739), (159, .iload_n 1, 1, 0, 0, 0, 0)],
  [(160, .iaload, 1, 0, 0, 0, 0), (161, .iadd, 1, 0, 0, 0, 0), (162, .iaload, 1, 0, 0, 0, 0), (163, .ireturn, 1, 0, 0, 0, 0)]]
def iv_k127 : List (List ivE) := [[(0, .aload_n 0, 1, 0, 0, 0, 0), (1, .aload_n 0, 1, 0, 0, 0, 0), (2, .getfield 25, 3, 9, 8, 0, 739), (5, .iload_n 1, 1, 0, 0, 0, 0), (6, .iaload, 1, 0, 0, 0, 0), (7, .putfield 162, 3, 9, 21, 0, 752), (10, .iconst 0, 1, 0, 0, 0, 0), (11, .istore_n 3, 1, 0, 0, 0, 0), (12, .iload_n 3, 1, 0, 0, 0, 0), (13, .aload_n 0, 1, 0, 0, 0, 0), (14, .getfield 162, 3, 9, 21, 0, 752)],
  [(17, .if_icmp .ge 25, 3, 0, 0, 0, 0), (20, .aload_n 0, 1, 0, 0, 0, 0), (21, .getfield 40, 3, 9, 20, 0, 751), (24, .iload_n 3, 1, 0, 0, 0, 0), (25, .aload_n 0, 1, 0, 0, 0, 0), (26, .getfield 22, 3, 9, 7, 0, 738), (29, .iconst 5, 1, 0, 0, 0, 0), (30, .iload_n 1, 1, 0, 0, 0, 0), (31, .imul, 1, 0, 0, 0, 0)],
  [(32, .iload_n 3, 1, 0, 0, 0, 0), (33, .iadd, 1, 0, 0, 0, 0), (34, .iaload, 1, 0, 0, 0, 0), (35, .iastore, 1, 0, 0, 0, 0), (36, .iinc 3 1, 3, 0, 0, 0, 0), (39, .goto (-27), 3, 0, 0, 0, 0), (42, .aload_n 0, 1, 0, 0, 0, 0), (43, .iload_n 2, 1, 0, 0, 0, 0), (44, .invokevirtual 169, 3, 126, 2, 0, 916), (47, .ireturn, 1, 0, 0, 0, 0)]]
def iv_k128 : List (List ivE) := [[(0, .aload_n 0, 1, 0, 0, 0, 0), (1, .iload_n 1, 1, 0, 0, 0, 0), (2, .invokevirtual 158, 3, 122, 2, 0, 904), (5, .ifCond .eq 20, 3, 0, 0, 0, 0), (8, .aload_n 0, 1, 0, 0, 0, 0), (9, .iload_n 2, 1, 0, 0, 0, 0), (10, .invokevirtual 158, 3, 122, 2, 0, 904), (13, .ifCond .eq 12, 3, 0, 0, 0, 0)],
  [(16, .aload_n 0, 1, 0, 0, 0, 0), (17, .iload_n 1, 1, 0, 0, 0, 0), (18, .iload_n 2, 1, 0, 0, 0, 0), (19, .invokevirtual 172, 3, 127, 3, 0, 912), (22, .goto 4, 3, 0, 0, 0, 0), (25, .iconst (-1), 1, 0, 0, 0, 0), (26, .ireturn, 1, 0, 0, 0, 0)]]
def iv_k129 : List (List ivE) := [[(0, .aload_n 0, 1, 0, 0, 0, 0), (1, .getfield 155, 3, 9, 15, 0, 746), (4, .aload_n 0, 1, 0, 0, 0, 0), (5, .getfield 31, 3, 9, 10, 0, 741), (8, .iload_n 1, 1, 0, 0, 0, 0), (9, .iaload, 1, 0, 0, 0, 0), (10, .isub, 1, 0, 0, 0, 0), (11, .bipush 9, 2, 0, 0, 0, 0), (13, .if_icmp .gt 7, 3, 0, 0, 0, 0)],
  [(16, .iconst 1, 1, 0, 0, 0, 0), (17, .goto 4, 3, 0, 0, 0, 0), (20, .iconst 0, 1, 0, 0, 0, 0), (21, .ireturn, 1, 0, 0, 0, 0)]]
def iv_k130 : List (List ivE) := [[(0, .iconst 0, 1, 0, 0, 0, 0), (1, .istore_n 2, 1, 0, 0, 0, 0), (2, .iconst 0, 1, 0, 0, 0, 0), (3, .istore_n 3, 1, 0, 0, 0, 0), (4, .iload_n 3, 1, 0, 0, 0, 0), (5, .aload_n 0, 1, 0, 0, 0, 0), (6, .getfield 149, 3, 9, 13, 0, 744), (9, .if_icmp .ge 45, 3, 0, 0, 0, 0), (12, .iload_n 2, 1, 0, 0, 0, 0), (13, .iload_n 3, 1, 0, 0, 0, 0), (14, .iload_n 1, 1, 0, 0, 0, 0), (15, .if_icmp .eq 30, 3, 0, 0, 0, 0)],
  [(18, .aload_n 0, 1, 0, 0, 0, 0), (19, .iload_n 3, 1, 0, 0, 0, 0), (20, .invokevirtual 176, 3, 129, 2, 0, 927), (23, .ifCond .eq 22, 3, 0, 0, 0, 0), (26, .aload_n 0, 1, 0, 0, 0, 0), (27, .iload_n 1, 1, 0, 0, 0, 0), (28, .iload_n 3, 1, 0, 0, 0, 0), (29, .invokevirtual 172, 3, 127, 3, 0, 912)],
  [(32, .aload_n 0, 1, 0, 0, 0, 0), (33, .getfield 86, 3, 9, 12, 0, 743), (36, .if_icmp .gt 9, 3, 0, 0, 0, 0), (39, .iconst 1, 1, 0, 0, 0, 0), (40, .iload_n 3, 1, 0, 0, 0, 0), (41, .ishl, 1, 0, 0, 0, 0), (42, .goto 4, 3, 0, 0, 0, 0), (45, .iconst 0, 1, 0, 0, 0, 0), (46, .ior, 1, 0, 0, 0, 0), (47, .istore_n 2, 1, 0, 0, 0, 0)],
  [(48, .iinc 3 1, 3, 0, 0, 0, 0), (51, .goto (-47), 3, 0, 0, 0, 0), (54, .iload_n 2, 1, 0, 0, 0, 0), (55, .ireturn, 1, 0, 0, 0, 0)]]
def iv_k131 : List (List ivE) := [[(0, .aload_n 0, 1, 0, 0, 0, 0), (1, .iload_n 1, 1, 0, 0, 0, 0), (2, .invokevirtual 158, 3, 122, 2, 0, 904), (5, .ifCond .ne 5, 3, 0, 0, 0, 0), (8, .iconst (-1), 1, 0, 0, 0, 0), (9, .ireturn, 1, 0, 0, 0, 0), (10, .aload_n 0, 1, 0, 0, 0, 0), (11, .iload_n 1, 1, 0, 0, 0, 0), (12, .invokevirtual 176, 3, 129, 2, 0, 927), (15, .ifCond .eq 11, 3, 0, 0, 0, 0)],
  [(18, .aload_n 0, 1, 0, 0, 0, 0), (19, .iload_n 1, 1, 0, 0, 0, 0), (20, .invokevirtual 179, 3, 130, 2, 0, 931), (23, .goto 5, 3, 0, 0, 0, 0), (26, .bipush (-3), 2, 0, 0, 0, 0), (28, .ireturn, 1, 0, 0, 0, 0)]]
def iv_k132 : List (List ivE) := [[(0, .aload_n 0, 1, 0, 0, 0, 0), (1, .iload_n 1, 1, 0, 0, 0, 0), (2, .invokevirtual 158, 3, 122, 2, 0, 904), (5, .ifCond .eq 12, 3, 0, 0, 0, 0), (8, .aload_n 0, 1, 0, 0, 0, 0), (9, .getfield 28, 3, 9, 9, 0, 740), (12, .iload_n 1, 1, 0, 0, 0, 0), (13, .iaload, 1, 0, 0, 0, 0), (14, .goto 4, 3, 0, 0, 0, 0)],
  [(17, .iconst (-1), 1, 0, 0, 0, 0), (18, .ireturn, 1, 0, 0, 0, 0)]]
def iv_k133 : List (List ivE) := [[(0, .iconst 0, 1, 0, 0, 0, 0), (1, .istore_n 1, 1, 0, 0, 0, 0), (2, .iconst 0, 1, 0, 0, 0, 0), (3, .istore_n 2, 1, 0, 0, 0, 0), (4, .iload_n 2, 1, 0, 0, 0, 0), (5, .aload_n 0, 1, 0, 0, 0, 0), (6, .getfield 149, 3, 9, 13, 0, 744), (9, .if_icmp .ge 27, 3, 0, 0, 0, 0), (12, .iload_n 1, 1, 0, 0, 0, 0), (13, .aload_n 0, 1, 0, 0, 0, 0), (14, .iload_n 2, 1, 0, 0, 0, 0), (15, .invokevirtual 176, 3, 129, 2, 0, 927)],
  [(18, .ifCond .eq 9, 3, 0, 0, 0, 0), (21, .iconst 1, 1, 0, 0, 0, 0), (22, .iload_n 2, 1, 0, 0, 0, 0), (23, .ishl, 1, 0, 0, 0, 0), (24, .goto 4, 3, 0, 0, 0, 0), (27, .iconst 0, 1, 0, 0, 0, 0), (28, .ior, 1, 0, 0, 0, 0), (29, .istore_n 1, 1, 0, 0, 0, 0), (30, .iinc 2 1, 3, 0, 0, 0, 0)],
  [(33, .goto (-29), 3, 0, 0, 0, 0), (36, .iload_n 1, 1, 0, 0, 0, 0), (37, .ireturn, 1, 0, 0, 0, 0)]]
def iv_k134 : List (List ivE) := [[(0, .aload_n 0, 1, 0, 0, 0, 0), (1, .invokevirtual 182, 3, 133, 1, 0, 943), (4, .ireturn, 1, 0, 0, 0, 0)]]
def iv_k135 : List (List ivE) := [[(0, .iload_n 1, 1, 0, 0, 0, 0), (1, .i2l, 1, 0, 0, 0, 0), (2, .lconst 1, 1, 0, 0, 0, 0), (3, .ldc2_w 185, 3, 0, 0, 99, 951), (6, .invokestatic 92, 3, 109, 3, 0, 849), (9, .ifCond .ne 6, 3, 0, 0, 0, 0), (12, .bipush (-2), 2, 0, 0, 0, 0), (14, .ireturn, 1, 0, 0, 0, 0), (15, .aload_n 0, 1, 0, 0, 0, 0)],
  [(16, .invokevirtual 182, 3, 133, 1, 0, 943), (19, .istore_n 2, 1, 0, 0, 0, 0), (20, .aload_n 0, 1, 0, 0, 0, 0), (21, .dup, 1, 0, 0, 0, 0), (22, .getfield 155, 3, 9, 15, 0, 746), (25, .iload_n 1, 1, 0, 0, 0, 0), (26, .iadd, 1, 0, 0, 0, 0), (27, .putfield 155, 3, 9, 15, 0, 746), (30, .iconst 0, 1, 0, 0, 0, 0), (31, .istore_n 3, 1, 0, 0, 0, 0)],
  [(32, .iload_n 3, 1, 0, 0, 0, 0), (33, .aload_n 0, 1, 0, 0, 0, 0), (34, .getfield 149, 3, 9, 13, 0, 744), (37, .if_icmp .ge 33, 3, 0, 0, 0, 0), (40, .aload_n 0, 1, 0, 0, 0, 0), (41, .getfield 28, 3, 9, 9, 0, 740), (44, .iload_n 3, 1, 0, 0, 0, 0), (45, .aload_n 0, 1, 0, 0, 0, 0), (46, .iload_n 3, 1, 0, 0, 0, 0), (47, .invokevirtual 176, 3, 129, 2, 0, 927)],
  [(50, .ifCond .eq 12, 3, 0, 0, 0, 0), (53, .aload_n 0, 1, 0, 0, 0, 0), (54, .getfield 28, 3, 9, 9, 0, 740), (57, .iload_n 3, 1, 0, 0, 0, 0), (58, .iaload, 1, 0, 0, 0, 0), (59, .goto 4, 3, 0, 0, 0, 0), (62, .iconst 0, 1, 0, 0, 0, 0), (63, .iastore, 1, 0, 0, 0, 0)],
  [(64, .iinc 3 1, 3, 0, 0, 0, 0), (67, .goto (-35), 3, 0, 0, 0, 0), (70, .iload_n 2, 1, 0, 0, 0, 0), (71, .aload_n 0, 1, 0, 0, 0, 0), (72, .invokevirtual 182, 3, 133, 1, 0, 943), (75, .iconst (-1), 1, 0, 0, 0, 0), (76, .ixor, 1, 0, 0, 0, 0), (77, .iand, 1, 0, 0, 0, 0), (78, .ireturn, 1, 0, 0, 0, 0)]]
def iv_k136 : List (List ivE) := [[(0, .aload_n 0, 1, 0, 0, 0, 0), (1, .iload_n 1, 1, 0, 0, 0, 0), (2, .invokevirtual 158, 3, 122, 2, 0, 904), (5, .ifCond .ne 5, 3, 0, 0, 0, 0), (8, .iconst (-1), 1, 0, 0, 0, 0), (9, .ireturn, 1, 0, 0, 0, 0), (10, .aload_n 0, 1, 0, 0, 0, 0), (11, .iload_n 1, 1, 0, 0, 0, 0), (12, .invokevirtual 176, 3, 129, 2, 0, 927), (15, .ifCond .eq 20, 3, 0, 0, 0, 0)],
  [(18, .aload_n 0, 1, 0, 0, 0, 0), (19, .getfield 31, 3, 9, 10, 0, 741), (22, .iload_n 1, 1, 0, 0, 0, 0), (23, .iaload, 1, 0, 0, 0, 0), (24, .bipush 10, 2, 0, 0, 0, 0), (26, .iadd, 1, 0, 0, 0, 0), (27, .aload_n 0, 1, 0, 0, 0, 0), (28, .getfield 155, 3, 9, 15, 0, 746), (31, .isub, 1, 0, 0, 0, 0)],
  [(32, .goto 5, 3, 0, 0, 0, 0), (35, .bipush (-3), 2, 0, 0, 0, 0), (37, .ireturn, 1, 0, 0, 0, 0)]]
def iv_k137 : List (List ivE) := [[(0, .aload_n 0, 1, 0, 0, 0, 0), (1, .getfield 28, 3, 9, 9, 0, 740), (4, .iload_n 2, 1, 0, 0, 0, 0), (5, .iaload, 1, 0, 0, 0, 0), (6, .iload_n 1, 1, 0, 0, 0, 0), (7, .ishr, 1, 0, 0, 0, 0), (8, .iconst 1, 1, 0, 0, 0, 0), (9, .iand, 1, 0, 0, 0, 0), (10, .iconst 1, 1, 0, 0, 0, 0), (11, .if_icmp .ne 7, 3, 0, 0, 0, 0), (14, .iconst 1, 1, 0, 0, 0, 0), (15, .goto 4, 3, 0, 0, 0, 0)],
  [(18, .iconst 0, 1, 0, 0, 0, 0), (19, .ireturn, 1, 0, 0, 0, 0)]]
def iv_k138 : List (List ivE) := [[(0, .aload_n 0, 1, 0, 0, 0, 0), (1, .iload_n 1, 1, 0, 0, 0, 0), (2, .invokevirtual 187, 3, 123, 2, 0, 960), (5, .ifCond .eq 11, 3, 0, 0, 0, 0), (8, .aload_n 0, 1, 0, 0, 0, 0), (9, .iload_n 2, 1, 0, 0, 0, 0), (10, .invokevirtual 158, 3, 122, 2, 0, 904), (13, .ifCond .ne 5, 3, 0, 0, 0, 0)],
  [(16, .iconst (-1), 1, 0, 0, 0, 0), (17, .ireturn, 1, 0, 0, 0, 0), (18, .iload_n 3, 1, 0, 0, 0, 0), (19, .i2l, 1, 0, 0, 0, 0), (20, .lconst 0, 1, 0, 0, 0, 0), (21, .iconst 1, 1, 0, 0, 0, 0), (22, .aload_n 0, 1, 0, 0, 0, 0), (23, .getfield 152, 3, 9, 14, 0, 745), (26, .ishl, 1, 0, 0, 0, 0), (27, .iconst 1, 1, 0, 0, 0, 0), (28, .isub, 1, 0, 0, 0, 0), (29, .i2l, 1, 0, 0, 0, 0), (30, .invokestatic 92, 3, 109, 3, 0, 849)],
  [(33, .ifCond .ne 6, 3, 0, 0, 0, 0), (36, .bipush (-2), 2, 0, 0, 0, 0), (38, .ireturn, 1, 0, 0, 0, 0), (39, .aload_n 0, 1, 0, 0, 0, 0), (40, .iload_n 1, 1, 0, 0, 0, 0), (41, .iload_n 2, 1, 0, 0, 0, 0), (42, .invokevirtual 190, 3, 137, 3, 0, 964), (45, .ifCond .ne 6, 3, 0, 0, 0, 0)],
  [(48, .bipush (-3), 2, 0, 0, 0, 0), (50, .ireturn, 1, 0, 0, 0, 0), (51, .aload_n 0, 1, 0, 0, 0, 0), (52, .getfield 31, 3, 9, 10, 0, 741), (55, .iload_n 2, 1, 0, 0, 0, 0), (56, .aload_n 0, 1, 0, 0, 0, 0), (57, .getfield 155, 3, 9, 15, 0, 746), (60, .iastore, 1, 0, 0, 0, 0), (61, .aload_n 0, 1, 0, 0, 0, 0), (62, .getfield 28, 3, 9, 9, 0, 740)],
  [(65, .iload_n 2, 1, 0, 0, 0, 0), (66, .dup2, 1, 0, 0, 0, 0), (67, .iaload, 1, 0, 0, 0, 0), (68, .iload_n 3, 1, 0, 0, 0, 0), (69, .ior, 1, 0, 0, 0, 0), (70, .iastore, 1, 0, 0, 0, 0), (71, .aload_n 0, 1, 0, 0, 0, 0), (72, .getfield 28, 3, 9, 9, 0, 740), (75, .iload_n 2, 1, 0, 0, 0, 0), (76, .iaload, 1, 0, 0, 0, 0), (77, .ireturn, 1, 0, 0, 0, 0)]]
def iv_k139 : List (List ivE) := [[(0, .aload_n 0, 1, 0, 0, 0, 0), (1, .iload_n 1, 1, 0, 0, 0, 0), (2, .invokevirtual 187, 3, 123, 2, 0, 960), (5, .ifCond .eq 19, 3, 0, 0, 0, 0), (8, .aload_n 0, 1, 0, 0, 0, 0), (9, .iload_n 2, 1, 0, 0, 0, 0), (10, .invokevirtual 187, 3, 123, 2, 0, 960), (13, .ifCond .eq 11, 3, 0, 0, 0, 0)],
  [(16, .aload_n 0, 1, 0, 0, 0, 0), (17, .iload_n 3, 1, 0, 0, 0, 0), (18, .invokevirtual 158, 3, 122, 2, 0, 904), (21, .ifCond .ne 5, 3, 0, 0, 0, 0), (24, .iconst (-1), 1, 0, 0, 0, 0), (25, .ireturn, 1, 0, 0, 0, 0), (26, .iload_n 1, 1, 0, 0, 0, 0), (27, .iload_n 2, 1, 0, 0, 0, 0), (28, .if_icmp .eq 12, 3, 0, 0, 0, 0), (31, .aload_n 0, 1, 0, 0, 0, 0)],
  [(32, .iload_n 1, 1, 0, 0, 0, 0), (33, .iload_n 3, 1, 0, 0, 0, 0), (34, .invokevirtual 190, 3, 137, 3, 0, 964), (37, .ifCond .ne 6, 3, 0, 0, 0, 0), (40, .bipush (-3), 2, 0, 0, 0, 0), (42, .ireturn, 1, 0, 0, 0, 0), (43, .aload_n 0, 1, 0, 0, 0, 0), (44, .getfield 31, 3, 9, 10, 0, 741), (47, .iload_n 3, 1, 0, 0, 0, 0)],
  [(48, .aload_n 0, 1, 0, 0, 0, 0), (49, .getfield 155, 3, 9, 15, 0, 746), (52, .iastore, 1, 0, 0, 0, 0), (53, .aload_n 0, 1, 0, 0, 0, 0), (54, .getfield 28, 3, 9, 9, 0, 740), (57, .iload_n 3, 1, 0, 0, 0, 0), (58, .aload_n 0, 1, 0, 0, 0, 0), (59, .getfield 28, 3, 9, 9, 0, 740), (62, .iload_n 3, 1, 0, 0, 0, 0), (63, .iaload, 1, 0, 0, 0, 0)],
  [(64, .iconst 1, 1, 0, 0, 0, 0), (65, .iload_n 2, 1, 0, 0, 0, 0), (66, .ishl, 1, 0, 0, 0, 0), (67, .ior, 1, 0, 0, 0, 0), (68, .iconst 1, 1, 0, 0, 0, 0), (69, .iload_n 1, 1, 0, 0, 0, 0), (70, .ishl, 1, 0, 0, 0, 0), (71, .iconst (-1), 1, 0, 0, 0, 0), (72, .ixor, 1, 0, 0, 0, 0), (73, .iand, 1, 0, 0, 0, 0), (74, .iastore, 1, 0, 0, 0, 0), (75, .aload_n 0, 1, 0, 0, 0, 0), (76, .getfield 28, 3, 9, 9, 0, 740), (79, .iload_n 3, 1, 0, 0, 0, 0)],
  [(80, .iaload, 1, 0, 0, 0, 0), (81, .ireturn, 1, 0, 0, 0, 0)]]
def iv_k140 : List (List ivE) := [[(0, .iconst 1, 1, 0, 0, 0, 0), (1, .istore_n 1, 1, 0, 0, 0, 0), (2, .iconst 1, 1, 0, 0, 0, 0), (3, .istore_n 2, 1, 0, 0, 0, 0), (4, .iload_n 2, 1, 0, 0, 0, 0), (5, .bipush 6, 2, 0, 0, 0, 0), (7, .if_icmp .ge 132, 3, 0, 0, 0, 0), (10, .iload_n 1, 1, 0, 0, 0, 0), (11, .bipush 6, 2, 0, 0, 0, 0), (13, .imul, 1, 0, 0, 0, 0), (14, .istore_n 1, 1, 0, 0, 0, 0), (15, .iconst 0, 1, 0, 0, 0, 0)],
  [(16, .istore_n 3, 1, 0, 0, 0, 0), (17, .iload_n 3, 1, 0, 0, 0, 0), (18, .iload_n 1, 1, 0, 0, 0, 0), (19, .if_icmp .ge 114, 3, 0, 0, 0, 0), (22, .aload_n 0, 1, 0, 0, 0, 0), (23, .iload_n 2, 1, 0, 0, 0, 0), (24, .putfield 162, 3, 9, 21, 0, 752), (27, .iload_n 3, 1, 0, 0, 0, 0), (28, .istore 4, 2, 0, 0, 0, 0), (30, .iload_n 2, 1, 0, 0, 0, 0), (31, .iconst 1, 1, 0, 0, 0, 0)],
  [(32, .isub, 1, 0, 0, 0, 0), (33, .istore 5, 2, 0, 0, 0, 0), (35, .iload 5, 2, 0, 0, 0, 0), (37, .ifCond .lt 28, 3, 0, 0, 0, 0), (40, .aload_n 0, 1, 0, 0, 0, 0), (41, .getfield 40, 3, 9, 20, 0, 751), (44, .iload 5, 2, 0, 0, 0, 0), (46, .iload 4, 2, 0, 0, 0, 0)],
  [(48, .bipush 6, 2, 0, 0, 0, 0), (50, .irem, 1, 0, 0, 0, 0), (51, .iastore, 1, 0, 0, 0, 0), (52, .iload 4, 2, 0, 0, 0, 0), (54, .bipush 6, 2, 0, 0, 0, 0), (56, .idiv, 1, 0, 0, 0, 0), (57, .istore 4, 2, 0, 0, 0, 0), (59, .iinc 5 (-1), 3, 0, 0, 0, 0), (62, .goto (-27), 3, 0, 0, 0, 0)],
  [(65, .iconst 1, 1, 0, 0, 0, 0), (66, .istore 5, 2, 0, 0, 0, 0), (68, .iconst 0, 1, 0, 0, 0, 0), (69, .istore 6, 2, 0, 0, 0, 0), (71, .iload 6, 2, 0, 0, 0, 0), (73, .aload_n 0, 1, 0, 0, 0, 0), (74, .getfield 149, 3, 9, 13, 0, 744), (77, .if_icmp .ge 43, 3, 0, 0, 0, 0)],
  [(80, .iload 5, 2, 0, 0, 0, 0), (82, .ifCond .eq 38, 3, 0, 0, 0, 0), (85, .aload_n 0, 1, 0, 0, 0, 0), (86, .iload 6, 2, 0, 0, 0, 0), (88, .invokevirtual 176, 3, 129, 2, 0, 927), (91, .ifCond .eq 16, 3, 0, 0, 0, 0), (94, .aload_n 0, 1, 0, 0, 0, 0), (95, .iload 6, 2, 0, 0, 0, 0)],
  [(97, .invokevirtual 169, 3, 126, 2, 0, 916), (100, .aload_n 0, 1, 0, 0, 0, 0), (101, .getfield 86, 3, 9, 12, 0, 743), (104, .if_icmp .le 7, 3, 0, 0, 0, 0), (107, .iconst 1, 1, 0, 0, 0, 0), (108, .goto 4, 3, 0, 0, 0, 0), (111, .iconst 0, 1, 0, 0, 0, 0)],
  [(112, .istore 5, 2, 0, 0, 0, 0), (114, .iinc 6 1, 3, 0, 0, 0, 0), (117, .goto (-46), 3, 0, 0, 0, 0), (120, .iload 5, 2, 0, 0, 0, 0), (122, .ifCond .eq 5, 3, 0, 0, 0, 0), (125, .iconst 1, 1, 0, 0, 0, 0), (126, .ireturn, 1, 0, 0, 0, 0), (127, .iinc 3 1, 3, 0, 0, 0, 0)],
  [(130, .goto (-113), 3, 0, 0, 0, 0), (133, .iinc 2 1, 3, 0, 0, 0, 0), (136, .goto (-132), 3, 0, 0, 0, 0), (139, .iconst 0, 1, 0, 0, 0, 0), (140, .ireturn, 1, 0, 0, 0, 0)]]
def iv_k141 : List (List ivE) := [[(0, .aload_n 0, 1, 0, 0, 0, 0), (1, .invokevirtual 194, 3, 140, 1, 0, 976), (4, .ifCond .eq 28, 3, 0, 0, 0, 0), (7, .iload_n 1, 1, 0, 0, 0, 0), (8, .i2l, 1, 0, 0, 0, 0), (9, .lconst 0, 1, 0, 0, 0, 0), (10, .aload_n 0, 1, 0, 0, 0, 0), (11, .getfield 162, 3, 9, 21, 0, 752), (14, .iconst 1, 1, 0, 0, 0, 0), (15, .isub, 1, 0, 0, 0, 0)],
  [(16, .i2l, 1, 0, 0, 0, 0), (17, .invokestatic 92, 3, 109, 3, 0, 849), (20, .ifCond .eq 12, 3, 0, 0, 0, 0), (23, .aload_n 0, 1, 0, 0, 0, 0), (24, .getfield 40, 3, 9, 20, 0, 751), (27, .iload_n 1, 1, 0, 0, 0, 0), (28, .iaload, 1, 0, 0, 0, 0), (29, .goto 5, 3, 0, 0, 0, 0)],
  [(32, .bipush (-9), 2, 0, 0, 0, 0), (34, .ireturn, 1, 0, 0, 0, 0)]]
def iv_k142 : List (List ivE) := [[(0, .aload_n 0, 1, 0, 0, 0, 0), (1, .iload_n 1, 1, 0, 0, 0, 0), (2, .invokevirtual 187, 3, 123, 2, 0, 960), (5, .ifCond .eq 11, 3, 0, 0, 0, 0), (8, .aload_n 0, 1, 0, 0, 0, 0), (9, .iload_n 2, 1, 0, 0, 0, 0), (10, .invokevirtual 158, 3, 122, 2, 0, 904), (13, .ifCond .ne 5, 3, 0, 0, 0, 0)],
  [(16, .iconst (-1), 1, 0, 0, 0, 0), (17, .ireturn, 1, 0, 0, 0, 0), (18, .aload_n 0, 1, 0, 0, 0, 0), (19, .iload_n 2, 1, 0, 0, 0, 0), (20, .invokevirtual 176, 3, 129, 2, 0, 927), (23, .ifCond .ne 10, 3, 0, 0, 0, 0), (26, .aload_n 0, 1, 0, 0, 0, 0), (27, .invokevirtual 194, 3, 140, 1, 0, 976), (30, .ifCond .ne 6, 3, 0, 0, 0, 0)],
  [(33, .bipush (-3), 2, 0, 0, 0, 0), (35, .ireturn, 1, 0, 0, 0, 0), (36, .aload_n 0, 1, 0, 0, 0, 0), (37, .getfield 25, 3, 9, 8, 0, 739), (40, .iload_n 2, 1, 0, 0, 0, 0), (41, .aload_n 0, 1, 0, 0, 0, 0), (42, .getfield 162, 3, 9, 21, 0, 752), (45, .iastore, 1, 0, 0, 0, 0), (46, .iconst 0, 1, 0, 0, 0, 0), (47, .istore_n 3, 1, 0, 0, 0, 0)],
  [(48, .iload_n 3, 1, 0, 0, 0, 0), (49, .aload_n 0, 1, 0, 0, 0, 0), (50, .getfield 162, 3, 9, 21, 0, 752), (53, .if_icmp .ge 25, 3, 0, 0, 0, 0), (56, .aload_n 0, 1, 0, 0, 0, 0), (57, .getfield 22, 3, 9, 7, 0, 738), (60, .iconst 5, 1, 0, 0, 0, 0), (61, .iload_n 2, 1, 0, 0, 0, 0), (62, .imul, 1, 0, 0, 0, 0), (63, .iload_n 3, 1, 0, 0, 0, 0)],
  [(64, .iadd, 1, 0, 0, 0, 0), (65, .aload_n 0, 1, 0, 0, 0, 0), (66, .getfield 40, 3, 9, 20, 0, 751), (69, .iload_n 3, 1, 0, 0, 0, 0), (70, .iaload, 1, 0, 0, 0, 0), (71, .iastore, 1, 0, 0, 0, 0), (72, .iinc 3 1, 3, 0, 0, 0, 0), (75, .goto (-27), 3, 0, 0, 0, 0), (78, .aload_n 0, 1, 0, 0, 0, 0), (79, .getfield 31, 3, 9, 10, 0, 741)],
  [(82, .iload_n 2, 1, 0, 0, 0, 0), (83, .aload_n 0, 1, 0, 0, 0, 0), (84, .getfield 155, 3, 9, 15, 0, 746), (87, .iastore, 1, 0, 0, 0, 0), (88, .aload_n 0, 1, 0, 0, 0, 0), (89, .getfield 28, 3, 9, 9, 0, 740), (92, .iload_n 2, 1, 0, 0, 0, 0), (93, .iconst 1, 1, 0, 0, 0, 0), (94, .iload_n 1, 1, 0, 0, 0, 0), (95, .ishl, 1, 0, 0, 0, 0)],
  [(96, .iastore, 1, 0, 0, 0, 0), (97, .aload_n 0, 1, 0, 0, 0, 0), (98, .getfield 162, 3, 9, 21, 0, 752), (101, .ireturn, 1, 0, 0, 0, 0)]]
def iv_k143 : List (List ivE) := [[(0, .iconst 0, 1, 0, 0, 0, 0), (1, .istore_n 2, 1, 0, 0, 0, 0), (2, .iconst 0, 1, 0, 0, 0, 0), (3, .istore_n 3, 1, 0, 0, 0, 0), (4, .iload_n 3, 1, 0, 0, 0, 0), (5, .aload_n 0, 1, 0, 0, 0, 0), (6, .getfield 149, 3, 9, 13, 0, 744), (9, .if_icmp .ge 59, 3, 0, 0, 0, 0), (12, .iload_n 2, 1, 0, 0, 0, 0), (13, .aload_n 0, 1, 0, 0, 0, 0), (14, .iload_n 3, 1, 0, 0, 0, 0), (15, .invokevirtual 176, 3, 129, 2, 0, 927)],
  [(18, .ifCond .eq 41, 3, 0, 0, 0, 0), (21, .aload_n 0, 1, 0, 0, 0, 0), (22, .iload_n 1, 1, 0, 0, 0, 0), (23, .iload_n 3, 1, 0, 0, 0, 0), (24, .invokevirtual 190, 3, 137, 3, 0, 964), (27, .ifCond .eq 32, 3, 0, 0, 0, 0), (30, .aload_n 0, 1, 0, 0, 0, 0), (31, .getfield 25, 3, 9, 8, 0, 739)],
  [(34, .iload_n 3, 1, 0, 0, 0, 0), (35, .iaload, 1, 0, 0, 0, 0), (36, .aload_n 0, 1, 0, 0, 0, 0), (37, .getfield 34, 3, 9, 11, 0, 742), (40, .iload_n 1, 1, 0, 0, 0, 0), (41, .iaload, 1, 0, 0, 0, 0), (42, .if_icmp .gt 17, 3, 0, 0, 0, 0), (45, .aload_n 0, 1, 0, 0, 0, 0), (46, .iload_n 3, 1, 0, 0, 0, 0), (47, .invokevirtual 179, 3, 130, 2, 0, 931)],
  [(50, .ifCond .ne 9, 3, 0, 0, 0, 0), (53, .iconst 1, 1, 0, 0, 0, 0), (54, .iload_n 3, 1, 0, 0, 0, 0), (55, .ishl, 1, 0, 0, 0, 0), (56, .goto 4, 3, 0, 0, 0, 0), (59, .iconst 0, 1, 0, 0, 0, 0), (60, .ior, 1, 0, 0, 0, 0), (61, .istore_n 2, 1, 0, 0, 0, 0), (62, .iinc 3 1, 3, 0, 0, 0, 0)],
  [(65, .goto (-61), 3, 0, 0, 0, 0), (68, .iload_n 2, 1, 0, 0, 0, 0), (69, .ireturn, 1, 0, 0, 0, 0)]]
def iv_k144 : List (List ivE) := [[(0, .aload_n 0, 1, 0, 0, 0, 0), (1, .iload_n 1, 1, 0, 0, 0, 0), (2, .invokevirtual 187, 3, 123, 2, 0, 960), (5, .ifCond .eq 11, 3, 0, 0, 0, 0), (8, .aload_n 0, 1, 0, 0, 0, 0), (9, .iload_n 1, 1, 0, 0, 0, 0), (10, .invokevirtual 197, 3, 143, 2, 0, 988), (13, .goto 4, 3, 0, 0, 0, 0)],
  [(16, .iconst (-1), 1, 0, 0, 0, 0), (17, .ireturn, 1, 0, 0, 0, 0)]]
def iv_k145 : List (List ivE) := [[(0, .iload_n 1, 1, 0, 0, 0, 0), (1, .i2l, 1, 0, 0, 0, 0), (2, .lconst 0, 1, 0, 0, 0, 0), (3, .iconst 1, 1, 0, 0, 0, 0), (4, .aload_n 0, 1, 0, 0, 0, 0), (5, .getfield 149, 3, 9, 13, 0, 744), (8, .ishl, 1, 0, 0, 0, 0), (9, .iconst 1, 1, 0, 0, 0, 0), (10, .isub, 1, 0, 0, 0, 0), (11, .i2l, 1, 0, 0, 0, 0), (12, .invokestatic 92, 3, 109, 3, 0, 849), (15, .ireturn, 1, 0, 0, 0, 0)]]
def iv_k146 : List (List ivE) := [[(0, .iconst 0, 1, 0, 0, 0, 0), (1, .istore 4, 2, 0, 0, 0, 0), (3, .iconst 0, 1, 0, 0, 0, 0), (4, .istore 5, 2, 0, 0, 0, 0), (6, .iload 5, 2, 0, 0, 0, 0), (8, .aload_n 0, 1, 0, 0, 0, 0), (9, .getfield 149, 3, 9, 13, 0, 744), (12, .if_icmp .ge 49, 3, 0, 0, 0, 0), (15, .iload_n 3, 1, 0, 0, 0, 0)],
  [(16, .iload 5, 2, 0, 0, 0, 0), (18, .ishr, 1, 0, 0, 0, 0), (19, .iconst 1, 1, 0, 0, 0, 0), (20, .iand, 1, 0, 0, 0, 0), (21, .iconst 1, 1, 0, 0, 0, 0), (22, .if_icmp .ne 33, 3, 0, 0, 0, 0), (25, .iload 4, 2, 0, 0, 0, 0), (27, .aload_n 0, 1, 0, 0, 0, 0), (28, .getfield 25, 3, 9, 8, 0, 739), (31, .iload 5, 2, 0, 0, 0, 0)],
  [(33, .iaload, 1, 0, 0, 0, 0), (34, .iadd, 1, 0, 0, 0, 0), (35, .istore 4, 2, 0, 0, 0, 0), (37, .iload_n 1, 1, 0, 0, 0, 0), (38, .iload 5, 2, 0, 0, 0, 0), (40, .ishr, 1, 0, 0, 0, 0), (41, .iconst 1, 1, 0, 0, 0, 0), (42, .iand, 1, 0, 0, 0, 0), (43, .ifCond .eq 9, 3, 0, 0, 0, 0), (46, .iload 4, 2, 0, 0, 0, 0)],
  [(48, .iload_n 2, 1, 0, 0, 0, 0), (49, .if_icmp .le 6, 3, 0, 0, 0, 0), (52, .iload 5, 2, 0, 0, 0, 0), (54, .ireturn, 1, 0, 0, 0, 0), (55, .iinc 5 1, 3, 0, 0, 0, 0), (58, .goto (-52), 3, 0, 0, 0, 0), (61, .bipush (-9), 2, 0, 0, 0, 0), (63, .ireturn, 1, 0, 0, 0, 0)]]
def iv_k147 : List (List ivE) := [[(0, .aload_n 0, 1, 0, 0, 0, 0), (1, .iload_n 1, 1, 0, 0, 0, 0), (2, .invokevirtual 187, 3, 123, 2, 0, 960), (5, .ifCond .ne 5, 3, 0, 0, 0, 0), (8, .iconst (-1), 1, 0, 0, 0, 0), (9, .ireturn, 1, 0, 0, 0, 0), (10, .aload_n 0, 1, 0, 0, 0, 0), (11, .iload_n 2, 1, 0, 0, 0, 0), (12, .invokevirtual 200, 3, 145, 2, 0, 996), (15, .ifCond .eq 22, 3, 0, 0, 0, 0)],
  [(18, .aload_n 0, 1, 0, 0, 0, 0), (19, .aload_n 0, 1, 0, 0, 0, 0), (20, .iload_n 1, 1, 0, 0, 0, 0), (21, .invokevirtual 197, 3, 143, 2, 0, 988), (24, .aload_n 0, 1, 0, 0, 0, 0), (25, .getfield 34, 3, 9, 11, 0, 742), (28, .iload_n 1, 1, 0, 0, 0, 0), (29, .iaload, 1, 0, 0, 0, 0), (30, .iload_n 2, 1, 0, 0, 0, 0), (31, .invokevirtual 203, 3, 146, 4, 0, 1000)],
  [(34, .goto 5, 3, 0, 0, 0, 0), (37, .bipush (-2), 2, 0, 0, 0, 0), (39, .ireturn, 1, 0, 0, 0, 0)]]
def iv_k148 : List (List ivE) := [[(0, .iconst 0, 1, 0, 0, 0, 0), (1, .istore_n 2, 1, 0, 0, 0, 0), (2, .iload_n 2, 1, 0, 0, 0, 0), (3, .sipush 256, 3, 0, 0, 0, 0), (6, .if_icmp .ge 28, 3, 0, 0, 0, 0), (9, .aload_n 0, 1, 0, 0, 0, 0), (10, .getfield 46, 3, 9, 23, 0, 754), (13, .sipush 1536, 3, 0, 0, 0, 0)],
  [(16, .iload_n 2, 1, 0, 0, 0, 0), (17, .iadd, 1, 0, 0, 0, 0), (18, .iload_n 2, 1, 0, 0, 0, 0), (19, .ifCond .ne 7, 3, 0, 0, 0, 0), (22, .iconst 1, 1, 0, 0, 0, 0), (23, .goto 4, 3, 0, 0, 0, 0), (26, .iconst 0, 1, 0, 0, 0, 0), (27, .bastore, 1, 0, 0, 0, 0), (28, .iinc 2 1, 3, 0, 0, 0, 0), (31, .goto (-29), 3, 0, 0, 0, 0)],
  [(34, .iconst 5, 1, 0, 0, 0, 0), (35, .istore_n 2, 1, 0, 0, 0, 0), (36, .iload_n 2, 1, 0, 0, 0, 0), (37, .ifCond .lt 159, 3, 0, 0, 0, 0), (40, .iload_n 2, 1, 0, 0, 0, 0), (41, .aload_n 0, 1, 0, 0, 0, 0), (42, .getfield 152, 3, 9, 14, 0, 745), (45, .if_icmp .ge 12, 3, 0, 0, 0, 0)],
  [(48, .iload_n 2, 1, 0, 0, 0, 0), (49, .iload_n 1, 1, 0, 0, 0, 0), (50, .if_icmp .eq 7, 3, 0, 0, 0, 0), (53, .iconst 1, 1, 0, 0, 0, 0), (54, .goto 4, 3, 0, 0, 0, 0), (57, .iconst 0, 1, 0, 0, 0, 0), (58, .istore_n 3, 1, 0, 0, 0, 0), (59, .iload_n 3, 1, 0, 0, 0, 0), (60, .ifCond .eq 11, 3, 0, 0, 0, 0), (63, .aload_n 0, 1, 0, 0, 0, 0)],
  [(64, .iload_n 2, 1, 0, 0, 0, 0), (65, .invokevirtual 197, 3, 143, 2, 0, 988), (68, .goto 4, 3, 0, 0, 0, 0), (71, .iconst 0, 1, 0, 0, 0, 0), (72, .istore 4, 2, 0, 0, 0, 0), (74, .iconst 0, 1, 0, 0, 0, 0), (75, .istore 5, 2, 0, 0, 0, 0), (77, .iload 5, 2, 0, 0, 0, 0), (79, .iconst 1, 1, 0, 0, 0, 0)],
  [(80, .aload_n 0, 1, 0, 0, 0, 0), (81, .getfield 149, 3, 9, 13, 0, 744), (84, .ishl, 1, 0, 0, 0, 0), (85, .if_icmp .ge 55, 3, 0, 0, 0, 0), (88, .aload_n 0, 1, 0, 0, 0, 0), (89, .getfield 50, 3, 9, 24, 0, 755), (92, .sipush 256, 3, 0, 0, 0, 0), (95, .iload_n 2, 1, 0, 0, 0, 0)],
  [(96, .imul, 1, 0, 0, 0, 0), (97, .iload 5, 2, 0, 0, 0, 0), (99, .iadd, 1, 0, 0, 0, 0), (100, .iload 5, 2, 0, 0, 0, 0), (102, .ifCond .eq 26, 3, 0, 0, 0, 0), (105, .iload_n 3, 1, 0, 0, 0, 0), (106, .ifCond .eq 26, 3, 0, 0, 0, 0), (109, .aload_n 0, 1, 0, 0, 0, 0), (110, .iload 4, 2, 0, 0, 0, 0)],
  [(112, .aload_n 0, 1, 0, 0, 0, 0), (113, .getfield 34, 3, 9, 11, 0, 742), (116, .iload_n 2, 1, 0, 0, 0, 0), (117, .iaload, 1, 0, 0, 0, 0), (118, .iload 5, 2, 0, 0, 0, 0), (120, .invokevirtual 203, 3, 146, 4, 0, 1000), (123, .bipush (-9), 2, 0, 0, 0, 0), (125, .if_icmp .ne 7, 3, 0, 0, 0, 0)],
  [(128, .iconst 1, 1, 0, 0, 0, 0), (129, .goto 4, 3, 0, 0, 0, 0), (132, .iconst 0, 1, 0, 0, 0, 0), (133, .bastore, 1, 0, 0, 0, 0), (134, .iinc 5 1, 3, 0, 0, 0, 0), (137, .goto (-60), 3, 0, 0, 0, 0), (140, .iconst 0, 1, 0, 0, 0, 0), (141, .istore 5, 2, 0, 0, 0, 0), (143, .iload 5, 2, 0, 0, 0, 0)],
  [(145, .iconst 1, 1, 0, 0, 0, 0), (146, .aload_n 0, 1, 0, 0, 0, 0), (147, .getfield 149, 3, 9, 13, 0, 744), (150, .ishl, 1, 0, 0, 0, 0), (151, .if_icmp .ge 39, 3, 0, 0, 0, 0), (154, .aload_n 0, 1, 0, 0, 0, 0), (155, .getfield 46, 3, 9, 23, 0, 754), (158, .sipush 256, 3, 0, 0, 0, 0)],
  [(161, .iload_n 2, 1, 0, 0, 0, 0), (162, .imul, 1, 0, 0, 0, 0), (163, .iload 5, 2, 0, 0, 0, 0), (165, .iadd, 1, 0, 0, 0, 0), (166, .aload_n 0, 1, 0, 0, 0, 0), (167, .iload_n 2, 1, 0, 0, 0, 0), (168, .iload 5, 2, 0, 0, 0, 0), (170, .invokevirtual 206, 3, 149, 3, 0, 1012), (173, .bipush (-9), 2, 0, 0, 0, 0), (175, .if_icmp .eq 7, 3, 0, 0, 0, 0)],
  [(178, .iconst 1, 1, 0, 0, 0, 0), (179, .goto 4, 3, 0, 0, 0, 0), (182, .iconst 0, 1, 0, 0, 0, 0), (183, .bastore, 1, 0, 0, 0, 0), (184, .iinc 5 1, 3, 0, 0, 0, 0), (187, .goto (-44), 3, 0, 0, 0, 0), (190, .iinc 2 (-1), 3, 0, 0, 0, 0)],
  [(193, .goto (-157), 3, 0, 0, 0, 0), (196, .return_, 1, 0, 0, 0, 0)]]
def iv_k149 : List (List ivE) := [[(0, .iconst 0, 1, 0, 0, 0, 0), (1, .istore_n 3, 1, 0, 0, 0, 0), (2, .iconst 1, 1, 0, 0, 0, 0), (3, .istore 4, 2, 0, 0, 0, 0), (5, .iload 4, 2, 0, 0, 0, 0), (7, .ifCond .eq 63, 3, 0, 0, 0, 0), (10, .aload_n 0, 1, 0, 0, 0, 0), (11, .getfield 50, 3, 9, 24, 0, 755), (14, .sipush 256, 3, 0, 0, 0, 0)],
  [(17, .iload_n 1, 1, 0, 0, 0, 0), (18, .imul, 1, 0, 0, 0, 0), (19, .iload_n 3, 1, 0, 0, 0, 0), (20, .iadd, 1, 0, 0, 0, 0), (21, .baload, 1, 0, 0, 0, 0), (22, .ifCond .eq 28, 3, 0, 0, 0, 0), (25, .aload_n 0, 1, 0, 0, 0, 0), (26, .getfield 46, 3, 9, 23, 0, 754), (29, .sipush 256, 3, 0, 0, 0, 0)],
  [(32, .iload_n 1, 1, 0, 0, 0, 0), (33, .imul, 1, 0, 0, 0, 0), (34, .sipush 256, 3, 0, 0, 0, 0), (37, .iadd, 1, 0, 0, 0, 0), (38, .iload_n 2, 1, 0, 0, 0, 0), (39, .iload_n 3, 1, 0, 0, 0, 0), (40, .iconst (-1), 1, 0, 0, 0, 0), (41, .ixor, 1, 0, 0, 0, 0), (42, .iand, 1, 0, 0, 0, 0), (43, .iadd, 1, 0, 0, 0, 0), (44, .baload, 1, 0, 0, 0, 0), (45, .ifCond .eq 5, 3, 0, 0, 0, 0)],
  [(48, .iload_n 3, 1, 0, 0, 0, 0), (49, .ireturn, 1, 0, 0, 0, 0), (50, .iload_n 3, 1, 0, 0, 0, 0), (51, .iload_n 2, 1, 0, 0, 0, 0), (52, .isub, 1, 0, 0, 0, 0), (53, .iload_n 2, 1, 0, 0, 0, 0), (54, .iand, 1, 0, 0, 0, 0), (55, .istore_n 3, 1, 0, 0, 0, 0), (56, .iload_n 3, 1, 0, 0, 0, 0), (57, .ifCond .eq 7, 3, 0, 0, 0, 0), (60, .iconst 1, 1, 0, 0, 0, 0), (61, .goto 4, 3, 0, 0, 0, 0)],
  [(64, .iconst 0, 1, 0, 0, 0, 0), (65, .istore 4, 2, 0, 0, 0, 0), (67, .goto (-62), 3, 0, 0, 0, 0), (70, .bipush (-9), 2, 0, 0, 0, 0), (72, .ireturn, 1, 0, 0, 0, 0)]]
def iv_k150 : List (List ivE) := [[(0, .aload_n 0, 1, 0, 0, 0, 0), (1, .iload_n 1, 1, 0, 0, 0, 0), (2, .invokevirtual 187, 3, 123, 2, 0, 960), (5, .ifCond .ne 5, 3, 0, 0, 0, 0), (8, .iconst (-1), 1, 0, 0, 0, 0), (9, .ireturn, 1, 0, 0, 0, 0), (10, .aload_n 0, 1, 0, 0, 0, 0), (11, .iload_n 2, 1, 0, 0, 0, 0), (12, .invokevirtual 200, 3, 145, 2, 0, 996), (15, .ifCond .ne 6, 3, 0, 0, 0, 0)],
  [(18, .bipush (-2), 2, 0, 0, 0, 0), (20, .ireturn, 1, 0, 0, 0, 0), (21, .aload_n 0, 1, 0, 0, 0, 0), (22, .bipush (-9), 2, 0, 0, 0, 0), (24, .invokevirtual 209, 3, 148, 2, 0, 1008), (27, .aload_n 0, 1, 0, 0, 0, 0), (28, .getfield 46, 3, 9, 23, 0, 754), (31, .iload_n 2, 1, 0, 0, 0, 0)],
  [(32, .baload, 1, 0, 0, 0, 0), (33, .ifCond .ne 6, 3, 0, 0, 0, 0), (36, .bipush (-3), 2, 0, 0, 0, 0), (38, .ireturn, 1, 0, 0, 0, 0), (39, .iload_n 2, 1, 0, 0, 0, 0), (40, .istore_n 3, 1, 0, 0, 0, 0), (41, .iconst 0, 1, 0, 0, 0, 0), (42, .istore 4, 2, 0, 0, 0, 0), (44, .iconst 0, 1, 0, 0, 0, 0), (45, .istore 5, 2, 0, 0, 0, 0), (47, .iload 5, 2, 0, 0, 0, 0)],
  [(49, .iload_n 1, 1, 0, 0, 0, 0), (50, .if_icmp .gt 25, 3, 0, 0, 0, 0), (53, .aload_n 0, 1, 0, 0, 0, 0), (54, .iload 5, 2, 0, 0, 0, 0), (56, .iload_n 3, 1, 0, 0, 0, 0), (57, .invokevirtual 206, 3, 149, 3, 0, 1012), (60, .istore 4, 2, 0, 0, 0, 0), (62, .iload_n 3, 1, 0, 0, 0, 0), (63, .iload 4, 2, 0, 0, 0, 0)],
  [(65, .iconst (-1), 1, 0, 0, 0, 0), (66, .ixor, 1, 0, 0, 0, 0), (67, .iand, 1, 0, 0, 0, 0), (68, .istore_n 3, 1, 0, 0, 0, 0), (69, .iinc 5 1, 3, 0, 0, 0, 0), (72, .goto (-25), 3, 0, 0, 0, 0), (75, .iload 4, 2, 0, 0, 0, 0), (77, .ireturn, 1, 0, 0, 0, 0)]]
def iv_k151 : List (List ivE) := [[(0, .iconst 0, 1, 0, 0, 0, 0), (1, .istore_n 2, 1, 0, 0, 0, 0), (2, .iload_n 2, 1, 0, 0, 0, 0), (3, .iconst 1, 1, 0, 0, 0, 0), (4, .aload_n 0, 1, 0, 0, 0, 0), (5, .getfield 149, 3, 9, 13, 0, 744), (8, .ishl, 1, 0, 0, 0, 0), (9, .if_icmp .ge 106, 3, 0, 0, 0, 0), (12, .aload_n 0, 1, 0, 0, 0, 0), (13, .getfield 53, 3, 9, 25, 0, 756)],
  [(16, .iload_n 2, 1, 0, 0, 0, 0), (17, .iload_n 2, 1, 0, 0, 0, 0), (18, .ifCond .ne 7, 3, 0, 0, 0, 0), (21, .iconst 0, 1, 0, 0, 0, 0), (22, .goto 6, 3, 0, 0, 0, 0), (25, .sipush 999, 3, 0, 0, 0, 0), (28, .iastore, 1, 0, 0, 0, 0), (29, .iload_n 2, 1, 0, 0, 0, 0), (30, .istore_n 3, 1, 0, 0, 0, 0), (31, .iload_n 3, 1, 0, 0, 0, 0)],
  [(32, .ifCond .le 77, 3, 0, 0, 0, 0), (35, .iload_n 2, 1, 0, 0, 0, 0), (36, .iload_n 1, 1, 0, 0, 0, 0), (37, .iconst (-1), 1, 0, 0, 0, 0), (38, .ixor, 1, 0, 0, 0, 0), (39, .iand, 1, 0, 0, 0, 0), (40, .ifCond .ne 69, 3, 0, 0, 0, 0), (43, .aload_n 0, 1, 0, 0, 0, 0), (44, .getfield 46, 3, 9, 23, 0, 754), (47, .iload_n 3, 1, 0, 0, 0, 0)],
  [(48, .baload, 1, 0, 0, 0, 0), (49, .ifCond .eq 18, 3, 0, 0, 0, 0), (52, .aload_n 0, 1, 0, 0, 0, 0), (53, .getfield 53, 3, 9, 25, 0, 756), (56, .iload_n 2, 1, 0, 0, 0, 0), (57, .iload_n 3, 1, 0, 0, 0, 0), (58, .iconst (-1), 1, 0, 0, 0, 0), (59, .ixor, 1, 0, 0, 0, 0), (60, .iand, 1, 0, 0, 0, 0), (61, .iaload, 1, 0, 0, 0, 0), (62, .iconst 1, 1, 0, 0, 0, 0), (63, .iadd, 1, 0, 0, 0, 0)],
  [(64, .goto 6, 3, 0, 0, 0, 0), (67, .sipush 999, 3, 0, 0, 0, 0), (70, .istore 4, 2, 0, 0, 0, 0), (72, .aload_n 0, 1, 0, 0, 0, 0), (73, .getfield 53, 3, 9, 25, 0, 756), (76, .iload_n 2, 1, 0, 0, 0, 0), (77, .iload 4, 2, 0, 0, 0, 0), (79, .aload_n 0, 1, 0, 0, 0, 0)],
  [(80, .getfield 53, 3, 9, 25, 0, 756), (83, .iload_n 2, 1, 0, 0, 0, 0), (84, .iaload, 1, 0, 0, 0, 0), (85, .if_icmp .ge 8, 3, 0, 0, 0, 0), (88, .iload 4, 2, 0, 0, 0, 0), (90, .goto 9, 3, 0, 0, 0, 0), (93, .aload_n 0, 1, 0, 0, 0, 0), (94, .getfield 53, 3, 9, 25, 0, 756)],
  [(97, .iload_n 2, 1, 0, 0, 0, 0), (98, .iaload, 1, 0, 0, 0, 0), (99, .iastore, 1, 0, 0, 0, 0), (100, .iload_n 3, 1, 0, 0, 0, 0), (101, .iconst 1, 1, 0, 0, 0, 0), (102, .isub, 1, 0, 0, 0, 0), (103, .iload_n 2, 1, 0, 0, 0, 0), (104, .iand, 1, 0, 0, 0, 0), (105, .istore_n 3, 1, 0, 0, 0, 0), (106, .goto (-75), 3, 0, 0, 0, 0), (109, .iinc 2 1, 3, 0, 0, 0, 0)],
  [(112, .goto (-110), 3, 0, 0, 0, 0), (115, .aload_n 0, 1, 0, 0, 0, 0), (116, .getfield 53, 3, 9, 25, 0, 756), (119, .iload_n 1, 1, 0, 0, 0, 0), (120, .iaload, 1, 0, 0, 0, 0), (121, .ireturn, 1, 0, 0, 0, 0)]]
def iv_k152 : List (List ivE) := [[(0, .aload_n 0, 1, 0, 0, 0, 0), (1, .iload_n 1, 1, 0, 0, 0, 0), (2, .invokevirtual 200, 3, 145, 2, 0, 996), (5, .ifCond .ne 6, 3, 0, 0, 0, 0), (8, .bipush (-2), 2, 0, 0, 0, 0), (10, .ireturn, 1, 0, 0, 0, 0), (11, .aload_n 0, 1, 0, 0, 0, 0), (12, .bipush (-9), 2, 0, 0, 0, 0), (14, .invokevirtual 209, 3, 148, 2, 0, 1008)],
  [(17, .aload_n 0, 1, 0, 0, 0, 0), (18, .iload_n 1, 1, 0, 0, 0, 0), (19, .invokevirtual 213, 3, 151, 2, 0, 1020), (22, .istore_n 2, 1, 0, 0, 0, 0), (23, .iload_n 2, 1, 0, 0, 0, 0), (24, .bipush 99, 2, 0, 0, 0, 0), (26, .if_icmp .le 8, 3, 0, 0, 0, 0), (29, .bipush (-9), 2, 0, 0, 0, 0), (31, .goto 4, 3, 0, 0, 0, 0)],
  [(34, .iload_n 2, 1, 0, 0, 0, 0), (35, .ireturn, 1, 0, 0, 0, 0)]]
def iv_k153 : List (List ivE) := [[(0, .aload_n 0, 1, 0, 0, 0, 0), (1, .iload_n 1, 1, 0, 0, 0, 0), (2, .invokevirtual 187, 3, 123, 2, 0, 960), (5, .ifCond .ne 5, 3, 0, 0, 0, 0), (8, .iconst (-1), 1, 0, 0, 0, 0), (9, .ireturn, 1, 0, 0, 0, 0), (10, .iconst 0, 1, 0, 0, 0, 0), (11, .istore_n 2, 1, 0, 0, 0, 0), (12, .iconst 0, 1, 0, 0, 0, 0), (13, .istore_n 3, 1, 0, 0, 0, 0), (14, .iload_n 3, 1, 0, 0, 0, 0), (15, .aload_n 0, 1, 0, 0, 0, 0)],
  [(16, .getfield 152, 3, 9, 14, 0, 745), (19, .if_icmp .ge 17, 3, 0, 0, 0, 0), (22, .iload_n 2, 1, 0, 0, 0, 0), (23, .aload_n 0, 1, 0, 0, 0, 0), (24, .iload_n 3, 1, 0, 0, 0, 0), (25, .invokevirtual 197, 3, 143, 2, 0, 988), (28, .ior, 1, 0, 0, 0, 0), (29, .istore_n 2, 1, 0, 0, 0, 0), (30, .iinc 3 1, 3, 0, 0, 0, 0)],
  [(33, .goto (-19), 3, 0, 0, 0, 0), (36, .aload_n 0, 1, 0, 0, 0, 0), (37, .bipush (-9), 2, 0, 0, 0, 0), (39, .invokevirtual 209, 3, 148, 2, 0, 1008), (42, .aload_n 0, 1, 0, 0, 0, 0), (43, .iload_n 2, 1, 0, 0, 0, 0), (44, .invokevirtual 213, 3, 151, 2, 0, 1020), (47, .istore_n 3, 1, 0, 0, 0, 0)],
  [(48, .aload_n 0, 1, 0, 0, 0, 0), (49, .iload_n 1, 1, 0, 0, 0, 0), (50, .invokevirtual 209, 3, 148, 2, 0, 1008), (53, .aload_n 0, 1, 0, 0, 0, 0), (54, .iload_n 2, 1, 0, 0, 0, 0), (55, .invokevirtual 213, 3, 151, 2, 0, 1020), (58, .istore 4, 2, 0, 0, 0, 0), (60, .iload 4, 2, 0, 0, 0, 0), (62, .bipush 99, 2, 0, 0, 0, 0)],
  [(64, .if_icmp .le 8, 3, 0, 0, 0, 0), (67, .bipush 99, 2, 0, 0, 0, 0), (69, .goto 7, 3, 0, 0, 0, 0), (72, .iload 4, 2, 0, 0, 0, 0), (74, .iload_n 3, 1, 0, 0, 0, 0), (75, .isub, 1, 0, 0, 0, 0), (76, .ireturn, 1, 0, 0, 0, 0)]]
def iv_k154 : List (List ivE) := [[(0, .aload_n 0, 1, 0, 0, 0, 0), (1, .iload_n 1, 1, 0, 0, 0, 0), (2, .invokevirtual 200, 3, 145, 2, 0, 996), (5, .ifCond .eq 15, 3, 0, 0, 0, 0), (8, .iload_n 2, 1, 0, 0, 0, 0), (9, .i2l, 1, 0, 0, 0, 0), (10, .lconst 0, 1, 0, 0, 0, 0), (11, .ldc2_w 185, 3, 0, 0, 99, 951), (14, .invokestatic 92, 3, 109, 3, 0, 849)],
  [(17, .ifCond .ne 6, 3, 0, 0, 0, 0), (20, .bipush (-2), 2, 0, 0, 0, 0), (22, .ireturn, 1, 0, 0, 0, 0), (23, .iconst 0, 1, 0, 0, 0, 0), (24, .istore_n 3, 1, 0, 0, 0, 0), (25, .iconst 0, 1, 0, 0, 0, 0), (26, .istore 4, 2, 0, 0, 0, 0), (28, .iload 4, 2, 0, 0, 0, 0), (30, .aload_n 0, 1, 0, 0, 0, 0), (31, .getfield 149, 3, 9, 13, 0, 744)],
  [(34, .if_icmp .ge 72, 3, 0, 0, 0, 0), (37, .iload_n 1, 1, 0, 0, 0, 0), (38, .iload 4, 2, 0, 0, 0, 0), (40, .ishr, 1, 0, 0, 0, 0), (41, .iconst 1, 1, 0, 0, 0, 0), (42, .iand, 1, 0, 0, 0, 0), (43, .iconst 1, 1, 0, 0, 0, 0), (44, .if_icmp .ne 16, 3, 0, 0, 0, 0), (47, .aload_n 0, 1, 0, 0, 0, 0)],
  [(48, .iload 4, 2, 0, 0, 0, 0), (50, .invokevirtual 176, 3, 129, 2, 0, 927), (53, .ifCond .eq 7, 3, 0, 0, 0, 0), (56, .iconst 1, 1, 0, 0, 0, 0), (57, .goto 4, 3, 0, 0, 0, 0), (60, .iconst 0, 1, 0, 0, 0, 0), (61, .istore 5, 2, 0, 0, 0, 0), (63, .aload_n 0, 1, 0, 0, 0, 0)],
  [(64, .getfield 31, 3, 9, 10, 0, 741), (67, .iload 4, 2, 0, 0, 0, 0), (69, .iaload, 1, 0, 0, 0, 0), (70, .bipush 9, 2, 0, 0, 0, 0), (72, .iadd, 1, 0, 0, 0, 0), (73, .istore 6, 2, 0, 0, 0, 0), (75, .iload 5, 2, 0, 0, 0, 0), (77, .ifCond .eq 23, 3, 0, 0, 0, 0)],
  [(80, .iload 6, 2, 0, 0, 0, 0), (82, .aload_n 0, 1, 0, 0, 0, 0), (83, .getfield 155, 3, 9, 15, 0, 746), (86, .iload_n 2, 1, 0, 0, 0, 0), (87, .iadd, 1, 0, 0, 0, 0), (88, .if_icmp .ge 12, 3, 0, 0, 0, 0), (91, .iinc 3 1, 3, 0, 0, 0, 0), (94, .iinc 6 9, 3, 0, 0, 0, 0)],
  [(97, .goto (-22), 3, 0, 0, 0, 0), (100, .iinc 4 1, 3, 0, 0, 0, 0), (103, .goto (-75), 3, 0, 0, 0, 0), (106, .iload_n 3, 1, 0, 0, 0, 0), (107, .ireturn, 1, 0, 0, 0, 0)]]
def iv_k155 : List (List ivE) := [[(0, .aload_n 0, 1, 0, 0, 0, 0), (1, .iload_n 1, 1, 0, 0, 0, 0), (2, .invokevirtual 158, 3, 122, 2, 0, 904), (5, .ifCond .ne 5, 3, 0, 0, 0, 0), (8, .iconst (-1), 1, 0, 0, 0, 0), (9, .ireturn, 1, 0, 0, 0, 0), (10, .iconst 0, 1, 0, 0, 0, 0), (11, .istore_n 2, 1, 0, 0, 0, 0), (12, .iconst 0, 1, 0, 0, 0, 0), (13, .istore_n 3, 1, 0, 0, 0, 0), (14, .iload_n 3, 1, 0, 0, 0, 0), (15, .aload_n 0, 1, 0, 0, 0, 0)],
  [(16, .getfield 152, 3, 9, 14, 0, 745), (19, .if_icmp .ge 23, 3, 0, 0, 0, 0), (22, .iload_n 2, 1, 0, 0, 0, 0), (23, .aload_n 0, 1, 0, 0, 0, 0), (24, .iload_n 3, 1, 0, 0, 0, 0), (25, .invokevirtual 197, 3, 143, 2, 0, 988), (28, .iload_n 1, 1, 0, 0, 0, 0), (29, .ishr, 1, 0, 0, 0, 0), (30, .iconst 1, 1, 0, 0, 0, 0), (31, .iand, 1, 0, 0, 0, 0)],
  [(32, .iload_n 3, 1, 0, 0, 0, 0), (33, .ishl, 1, 0, 0, 0, 0), (34, .ior, 1, 0, 0, 0, 0), (35, .istore_n 2, 1, 0, 0, 0, 0), (36, .iinc 3 1, 3, 0, 0, 0, 0), (39, .goto (-25), 3, 0, 0, 0, 0), (42, .iload_n 2, 1, 0, 0, 0, 0), (43, .ireturn, 1, 0, 0, 0, 0)]]
def iv_k156 : List (List ivE) := [[(0, .iload_n 1, 1, 0, 0, 0, 0), (1, .i2l, 1, 0, 0, 0, 0), (2, .lconst 0, 1, 0, 0, 0, 0), (3, .ldc2_w 216, 3, 0, 0, 7, 1040), (6, .invokestatic 92, 3, 109, 3, 0, 849), (9, .ifCond .eq 15, 3, 0, 0, 0, 0), (12, .iload_n 2, 1, 0, 0, 0, 0), (13, .i2l, 1, 0, 0, 0, 0), (14, .lconst 1, 1, 0, 0, 0, 0), (15, .ldc2_w 99, 3, 0, 0, 255, 852)],
  [(18, .invokestatic 92, 3, 109, 3, 0, 849), (21, .ifCond .ne 6, 3, 0, 0, 0, 0), (24, .bipush (-2), 2, 0, 0, 0, 0), (26, .ireturn, 1, 0, 0, 0, 0), (27, .aload_n 0, 1, 0, 0, 0, 0), (28, .getfield 218, 3, 9, 26, 0, 757), (31, .bipush 16, 2, 0, 0, 0, 0)],
  [(33, .if_icmp .ne 6, 3, 0, 0, 0, 0), (36, .bipush (-4), 2, 0, 0, 0, 0), (38, .ireturn, 1, 0, 0, 0, 0), (39, .aload_n 0, 1, 0, 0, 0, 0), (40, .getfield 56, 3, 9, 27, 0, 758), (43, .aload_n 0, 1, 0, 0, 0, 0), (44, .getfield 218, 3, 9, 26, 0, 757), (47, .iload_n 1, 1, 0, 0, 0, 0)],
  [(48, .iastore, 1, 0, 0, 0, 0), (49, .aload_n 0, 1, 0, 0, 0, 0), (50, .getfield 59, 3, 9, 28, 0, 759), (53, .aload_n 0, 1, 0, 0, 0, 0), (54, .getfield 218, 3, 9, 26, 0, 757), (57, .iload_n 2, 1, 0, 0, 0, 0), (58, .iastore, 1, 0, 0, 0, 0), (59, .aload_n 0, 1, 0, 0, 0, 0), (60, .dup, 1, 0, 0, 0, 0), (61, .getfield 218, 3, 9, 26, 0, 757)],
  [(64, .iconst 1, 1, 0, 0, 0, 0), (65, .iadd, 1, 0, 0, 0, 0), (66, .putfield 218, 3, 9, 26, 0, 757), (69, .aload_n 0, 1, 0, 0, 0, 0), (70, .getfield 218, 3, 9, 26, 0, 757), (73, .ireturn, 1, 0, 0, 0, 0)]]
def iv_k157 : List (List ivE) := [[(0, .aload_n 0, 1, 0, 0, 0, 0), (1, .getfield 218, 3, 9, 26, 0, 757), (4, .istore_n 1, 1, 0, 0, 0, 0), (5, .aload_n 0, 1, 0, 0, 0, 0), (6, .iconst 0, 1, 0, 0, 0, 0), (7, .putfield 218, 3, 9, 26, 0, 757), (10, .iload_n 1, 1, 0, 0, 0, 0), (11, .ireturn, 1, 0, 0, 0, 0)]]
def iv_k158 : List (List ivE) := [[(0, .iconst 0, 1, 0, 0, 0, 0), (1, .istore_n 3, 1, 0, 0, 0, 0), (2, .iload_n 3, 1, 0, 0, 0, 0), (3, .bipush 8, 2, 0, 0, 0, 0), (5, .if_icmp .ge 20, 3, 0, 0, 0, 0), (8, .aload_n 0, 1, 0, 0, 0, 0), (9, .getfield 65, 3, 9, 30, 0, 761), (12, .iload_n 3, 1, 0, 0, 0, 0), (13, .iconst 1, 1, 0, 0, 0, 0), (14, .iload_n 1, 1, 0, 0, 0, 0), (15, .ishl, 1, 0, 0, 0, 0)],
  [(16, .iconst 1, 1, 0, 0, 0, 0), (17, .isub, 1, 0, 0, 0, 0), (18, .iastore, 1, 0, 0, 0, 0), (19, .iinc 3 1, 3, 0, 0, 0, 0), (22, .goto (-20), 3, 0, 0, 0, 0), (25, .iconst 0, 1, 0, 0, 0, 0), (26, .istore_n 3, 1, 0, 0, 0, 0), (27, .iload_n 3, 1, 0, 0, 0, 0), (28, .iload_n 2, 1, 0, 0, 0, 0), (29, .if_icmp .ge 29, 3, 0, 0, 0, 0)],
  [(32, .aload_n 0, 1, 0, 0, 0, 0), (33, .getfield 65, 3, 9, 30, 0, 761), (36, .aload_n 0, 1, 0, 0, 0, 0), (37, .getfield 56, 3, 9, 27, 0, 758), (40, .iload_n 3, 1, 0, 0, 0, 0), (41, .iaload, 1, 0, 0, 0, 0), (42, .dup2, 1, 0, 0, 0, 0), (43, .iaload, 1, 0, 0, 0, 0), (44, .aload_n 0, 1, 0, 0, 0, 0), (45, .getfield 59, 3, 9, 28, 0, 759)],
  [(48, .iload_n 3, 1, 0, 0, 0, 0), (49, .iaload, 1, 0, 0, 0, 0), (50, .iand, 1, 0, 0, 0, 0), (51, .iastore, 1, 0, 0, 0, 0), (52, .iinc 3 1, 3, 0, 0, 0, 0), (55, .goto (-28), 3, 0, 0, 0, 0), (58, .aload_n 0, 1, 0, 0, 0, 0), (59, .iload_n 1, 1, 0, 0, 0, 0), (60, .invokevirtual 221, 3, 159, 2, 0, 1053), (63, .ireturn, 1, 0, 0, 0, 0)]]
def iv_k159 : List (List ivE) := [[(0, .iconst 0, 1, 0, 0, 0, 0), (1, .istore_n 2, 1, 0, 0, 0, 0), (2, .iload_n 2, 1, 0, 0, 0, 0), (3, .iconst 1, 1, 0, 0, 0, 0), (4, .iload_n 1, 1, 0, 0, 0, 0), (5, .ishl, 1, 0, 0, 0, 0), (6, .if_icmp .ge 120, 3, 0, 0, 0, 0), (9, .aload_n 0, 1, 0, 0, 0, 0), (10, .getfield 62, 3, 9, 29, 0, 760), (13, .iload_n 2, 1, 0, 0, 0, 0), (14, .iload_n 2, 1, 0, 0, 0, 0), (15, .ifCond .ne 7, 3, 0, 0, 0, 0)],
  [(18, .iconst 1, 1, 0, 0, 0, 0), (19, .goto 4, 3, 0, 0, 0, 0), (22, .iconst 0, 1, 0, 0, 0, 0), (23, .iastore, 1, 0, 0, 0, 0), (24, .iconst (-1), 1, 0, 0, 0, 0), (25, .istore_n 3, 1, 0, 0, 0, 0), (26, .iconst 0, 1, 0, 0, 0, 0), (27, .istore 4, 2, 0, 0, 0, 0), (29, .iload 4, 2, 0, 0, 0, 0), (31, .iload_n 1, 1, 0, 0, 0, 0)],
  [(32, .if_icmp .ge 18, 3, 0, 0, 0, 0), (35, .iload_n 3, 1, 0, 0, 0, 0), (36, .iload_n 2, 1, 0, 0, 0, 0), (37, .iload 4, 2, 0, 0, 0, 0), (39, .ishr, 1, 0, 0, 0, 0), (40, .iconst 1, 1, 0, 0, 0, 0), (41, .iand, 1, 0, 0, 0, 0), (42, .iadd, 1, 0, 0, 0, 0), (43, .istore_n 3, 1, 0, 0, 0, 0), (44, .iinc 4 1, 3, 0, 0, 0, 0), (47, .goto (-18), 3, 0, 0, 0, 0)],
  [(50, .iconst 0, 1, 0, 0, 0, 0), (51, .istore 4, 2, 0, 0, 0, 0), (53, .iload 4, 2, 0, 0, 0, 0), (55, .iload_n 1, 1, 0, 0, 0, 0), (56, .if_icmp .ge 64, 3, 0, 0, 0, 0), (59, .iload_n 2, 1, 0, 0, 0, 0), (60, .ifCond .le 60, 3, 0, 0, 0, 0), (63, .aload_n 0, 1, 0, 0, 0, 0)],
  [(64, .getfield 62, 3, 9, 29, 0, 760), (67, .iload_n 2, 1, 0, 0, 0, 0), (68, .dup2, 1, 0, 0, 0, 0), (69, .iaload, 1, 0, 0, 0, 0), (70, .iload_n 2, 1, 0, 0, 0, 0), (71, .iload 4, 2, 0, 0, 0, 0), (73, .ishr, 1, 0, 0, 0, 0), (74, .iconst 1, 1, 0, 0, 0, 0), (75, .iand, 1, 0, 0, 0, 0), (76, .iconst 1, 1, 0, 0, 0, 0), (77, .if_icmp .ne 34, 3, 0, 0, 0, 0)],
  [(80, .aload_n 0, 1, 0, 0, 0, 0), (81, .getfield 65, 3, 9, 30, 0, 761), (84, .iload_n 3, 1, 0, 0, 0, 0), (85, .iaload, 1, 0, 0, 0, 0), (86, .iload 4, 2, 0, 0, 0, 0), (88, .ishr, 1, 0, 0, 0, 0), (89, .iconst 1, 1, 0, 0, 0, 0), (90, .iand, 1, 0, 0, 0, 0), (91, .iconst 1, 1, 0, 0, 0, 0), (92, .if_icmp .ne 19, 3, 0, 0, 0, 0), (95, .aload_n 0, 1, 0, 0, 0, 0)],
  [(96, .getfield 62, 3, 9, 29, 0, 760), (99, .iload_n 2, 1, 0, 0, 0, 0), (100, .iconst 1, 1, 0, 0, 0, 0), (101, .iload 4, 2, 0, 0, 0, 0), (103, .ishl, 1, 0, 0, 0, 0), (104, .iconst (-1), 1, 0, 0, 0, 0), (105, .ixor, 1, 0, 0, 0, 0), (106, .iand, 1, 0, 0, 0, 0), (107, .iaload, 1, 0, 0, 0, 0), (108, .goto 4, 3, 0, 0, 0, 0), (111, .iconst 0, 1, 0, 0, 0, 0)],
  [(112, .iadd, 1, 0, 0, 0, 0), (113, .iastore, 1, 0, 0, 0, 0), (114, .iinc 4 1, 3, 0, 0, 0, 0), (117, .goto (-64), 3, 0, 0, 0, 0), (120, .iinc 2 1, 3, 0, 0, 0, 0), (123, .goto (-121), 3, 0, 0, 0, 0), (126, .aload_n 0, 1, 0, 0, 0, 0), (127, .getfield 62, 3, 9, 29, 0, 760)],
  [(130, .iconst 1, 1, 0, 0, 0, 0), (131, .iload_n 1, 1, 0, 0, 0, 0), (132, .ishl, 1, 0, 0, 0, 0), (133, .iconst 1, 1, 0, 0, 0, 0), (134, .isub, 1, 0, 0, 0, 0), (135, .iaload, 1, 0, 0, 0, 0), (136, .ireturn, 1, 0, 0, 0, 0)]]
def iv_k160 : List (List ivE) := [[(0, .iload_n 1, 1, 0, 0, 0, 0), (1, .i2l, 1, 0, 0, 0, 0), (2, .lconst 1, 1, 0, 0, 0, 0), (3, .ldc2_w 90, 3, 0, 0, 8, 848), (6, .invokestatic 92, 3, 109, 3, 0, 849), (9, .ifCond .eq 15, 3, 0, 0, 0, 0), (12, .aload_n 0, 1, 0, 0, 0, 0), (13, .iload_n 1, 1, 0, 0, 0, 0), (14, .aload_n 0, 1, 0, 0, 0, 0), (15, .getfield 218, 3, 9, 26, 0, 757)],
  [(18, .invokevirtual 224, 3, 158, 3, 0, 1049), (21, .goto 5, 3, 0, 0, 0, 0), (24, .bipush (-2), 2, 0, 0, 0, 0), (26, .ireturn, 1, 0, 0, 0, 0)]]
def iv_k161 : List (List ivE) := [[(0, .iload_n 1, 1, 0, 0, 0, 0), (1, .i2l, 1, 0, 0, 0, 0), (2, .lconst 1, 1, 0, 0, 0, 0), (3, .ldc2_w 90, 3, 0, 0, 8, 848), (6, .invokestatic 92, 3, 109, 3, 0, 849), (9, .ifCond .eq 16, 3, 0, 0, 0, 0), (12, .iload_n 2, 1, 0, 0, 0, 0), (13, .i2l, 1, 0, 0, 0, 0), (14, .lconst 0, 1, 0, 0, 0, 0), (15, .iload_n 1, 1, 0, 0, 0, 0)],
  [(16, .iconst 1, 1, 0, 0, 0, 0), (17, .isub, 1, 0, 0, 0, 0), (18, .i2l, 1, 0, 0, 0, 0), (19, .invokestatic 92, 3, 109, 3, 0, 849), (22, .ifCond .ne 6, 3, 0, 0, 0, 0), (25, .bipush (-2), 2, 0, 0, 0, 0), (27, .ireturn, 1, 0, 0, 0, 0), (28, .aload_n 0, 1, 0, 0, 0, 0), (29, .iload_n 1, 1, 0, 0, 0, 0), (30, .aload_n 0, 1, 0, 0, 0, 0), (31, .getfield 218, 3, 9, 26, 0, 757)],
  [(34, .invokevirtual 224, 3, 158, 3, 0, 1049), (37, .pop, 1, 0, 0, 0, 0), (38, .aload_n 0, 1, 0, 0, 0, 0), (39, .getfield 65, 3, 9, 30, 0, 761), (42, .iload_n 2, 1, 0, 0, 0, 0), (43, .iaload, 1, 0, 0, 0, 0), (44, .istore_n 3, 1, 0, 0, 0, 0), (45, .iconst 0, 1, 0, 0, 0, 0), (46, .istore 4, 2, 0, 0, 0, 0)],
  [(48, .iconst 0, 1, 0, 0, 0, 0), (49, .istore 5, 2, 0, 0, 0, 0), (51, .iload 5, 2, 0, 0, 0, 0), (53, .iload_n 1, 1, 0, 0, 0, 0), (54, .if_icmp .ge 42, 3, 0, 0, 0, 0), (57, .aload_n 0, 1, 0, 0, 0, 0), (58, .getfield 65, 3, 9, 30, 0, 761), (61, .iload_n 2, 1, 0, 0, 0, 0), (62, .iload_n 3, 1, 0, 0, 0, 0), (63, .iconst 1, 1, 0, 0, 0, 0)],
  [(64, .iload 5, 2, 0, 0, 0, 0), (66, .ishl, 1, 0, 0, 0, 0), (67, .iand, 1, 0, 0, 0, 0), (68, .iastore, 1, 0, 0, 0, 0), (69, .iload 4, 2, 0, 0, 0, 0), (71, .aload_n 0, 1, 0, 0, 0, 0), (72, .iload_n 1, 1, 0, 0, 0, 0), (73, .invokevirtual 221, 3, 159, 2, 0, 1053), (76, .ifCond .le 10, 3, 0, 0, 0, 0), (79, .iconst 1, 1, 0, 0, 0, 0)],
  [(80, .iload 5, 2, 0, 0, 0, 0), (82, .ishl, 1, 0, 0, 0, 0), (83, .goto 4, 3, 0, 0, 0, 0), (86, .iconst 0, 1, 0, 0, 0, 0), (87, .ior, 1, 0, 0, 0, 0), (88, .istore 4, 2, 0, 0, 0, 0), (90, .iinc 5 1, 3, 0, 0, 0, 0), (93, .goto (-42), 3, 0, 0, 0, 0)],
  [(96, .iload 4, 2, 0, 0, 0, 0), (98, .ireturn, 1, 0, 0, 0, 0)]]
def iv_k162 : List (List ivE) := [[(0, .iload_n 1, 1, 0, 0, 0, 0), (1, .i2l, 1, 0, 0, 0, 0), (2, .lconst 1, 1, 0, 0, 0, 0), (3, .ldc2_w 90, 3, 0, 0, 8, 848), (6, .invokestatic 92, 3, 109, 3, 0, 849), (9, .ifCond .ne 6, 3, 0, 0, 0, 0), (12, .bipush (-2), 2, 0, 0, 0, 0), (14, .ireturn, 1, 0, 0, 0, 0), (15, .iconst 0, 1, 0, 0, 0, 0)],
  [(16, .istore_n 2, 1, 0, 0, 0, 0), (17, .iload_n 2, 1, 0, 0, 0, 0), (18, .aload_n 0, 1, 0, 0, 0, 0), (19, .getfield 218, 3, 9, 26, 0, 757), (22, .if_icmp .ge 22, 3, 0, 0, 0, 0), (25, .aload_n 0, 1, 0, 0, 0, 0), (26, .iload_n 1, 1, 0, 0, 0, 0), (27, .iload_n 2, 1, 0, 0, 0, 0), (28, .iconst 1, 1, 0, 0, 0, 0), (29, .iadd, 1, 0, 0, 0, 0), (30, .invokevirtual 224, 3, 158, 3, 0, 1049)],
  [(33, .ifCond .ne 5, 3, 0, 0, 0, 0), (36, .iload_n 2, 1, 0, 0, 0, 0), (37, .ireturn, 1, 0, 0, 0, 0), (38, .iinc 2 1, 3, 0, 0, 0, 0), (41, .goto (-24), 3, 0, 0, 0, 0), (44, .bipush (-9), 2, 0, 0, 0, 0), (46, .ireturn, 1, 0, 0, 0, 0)]]
def iv_k163 : List (List ivE) := [[(0, .iload_n 1, 1, 0, 0, 0, 0), (1, .i2l, 1, 0, 0, 0, 0), (2, .lconst 1, 1, 0, 0, 0, 0), (3, .ldc2_w 227, 3, 0, 0, 5, 1069), (6, .invokestatic 92, 3, 109, 3, 0, 849), (9, .ifCond .ne 6, 3, 0, 0, 0, 0), (12, .bipush (-2), 2, 0, 0, 0, 0), (14, .ireturn, 1, 0, 0, 0, 0), (15, .iconst 0, 1, 0, 0, 0, 0)],
  [(16, .istore_n 2, 1, 0, 0, 0, 0), (17, .iconst 0, 1, 0, 0, 0, 0), (18, .istore_n 3, 1, 0, 0, 0, 0), (19, .iload_n 3, 1, 0, 0, 0, 0), (20, .aload_n 0, 1, 0, 0, 0, 0), (21, .getfield 149, 3, 9, 13, 0, 744), (24, .if_icmp .ge 149, 3, 0, 0, 0, 0), (27, .iconst 0, 1, 0, 0, 0, 0), (28, .istore 4, 2, 0, 0, 0, 0), (30, .iload 4, 2, 0, 0, 0, 0)],
  [(32, .aload_n 0, 1, 0, 0, 0, 0), (33, .getfield 149, 3, 9, 13, 0, 744), (36, .if_icmp .ge 131, 3, 0, 0, 0, 0), (39, .iload_n 3, 1, 0, 0, 0, 0), (40, .iload 4, 2, 0, 0, 0, 0), (42, .if_icmp .eq 40, 3, 0, 0, 0, 0), (45, .aload_n 0, 1, 0, 0, 0, 0), (46, .iload_n 3, 1, 0, 0, 0, 0), (47, .invokevirtual 176, 3, 129, 2, 0, 927)],
  [(50, .ifCond .eq 32, 3, 0, 0, 0, 0), (53, .aload_n 0, 1, 0, 0, 0, 0), (54, .iload 4, 2, 0, 0, 0, 0), (56, .invokevirtual 176, 3, 129, 2, 0, 927), (59, .ifCond .eq 23, 3, 0, 0, 0, 0), (62, .aload_n 0, 1, 0, 0, 0, 0), (63, .getfield 25, 3, 9, 8, 0, 739)],
  [(66, .iload_n 3, 1, 0, 0, 0, 0), (67, .iaload, 1, 0, 0, 0, 0), (68, .aload_n 0, 1, 0, 0, 0, 0), (69, .getfield 25, 3, 9, 8, 0, 739), (72, .iload 4, 2, 0, 0, 0, 0), (74, .iaload, 1, 0, 0, 0, 0), (75, .if_icmp .ne 7, 3, 0, 0, 0, 0), (78, .iconst 1, 1, 0, 0, 0, 0), (79, .goto 4, 3, 0, 0, 0, 0)],
  [(82, .iconst 0, 1, 0, 0, 0, 0), (83, .istore 5, 2, 0, 0, 0, 0), (85, .iconst 0, 1, 0, 0, 0, 0), (86, .istore 6, 2, 0, 0, 0, 0), (88, .iload 6, 2, 0, 0, 0, 0), (90, .aload_n 0, 1, 0, 0, 0, 0), (91, .getfield 25, 3, 9, 8, 0, 739), (94, .iload_n 3, 1, 0, 0, 0, 0), (95, .iaload, 1, 0, 0, 0, 0)],
  [(96, .if_icmp .ge 52, 3, 0, 0, 0, 0), (99, .iload 5, 2, 0, 0, 0, 0), (101, .ifCond .eq 47, 3, 0, 0, 0, 0), (104, .aload_n 0, 1, 0, 0, 0, 0), (105, .getfield 22, 3, 9, 7, 0, 738), (108, .iconst 5, 1, 0, 0, 0, 0), (109, .iload_n 3, 1, 0, 0, 0, 0), (110, .imul, 1, 0, 0, 0, 0), (111, .iload 6, 2, 0, 0, 0, 0)],
  [(113, .iadd, 1, 0, 0, 0, 0), (114, .iaload, 1, 0, 0, 0, 0), (115, .iload_n 1, 1, 0, 0, 0, 0), (116, .iadd, 1, 0, 0, 0, 0), (117, .bipush 6, 2, 0, 0, 0, 0), (119, .irem, 1, 0, 0, 0, 0), (120, .aload_n 0, 1, 0, 0, 0, 0), (121, .getfield 22, 3, 9, 7, 0, 738), (124, .iconst 5, 1, 0, 0, 0, 0), (125, .iload 4, 2, 0, 0, 0, 0), (127, .imul, 1, 0, 0, 0, 0)],
  [(128, .iload 6, 2, 0, 0, 0, 0), (130, .iadd, 1, 0, 0, 0, 0), (131, .iaload, 1, 0, 0, 0, 0), (132, .if_icmp .ne 7, 3, 0, 0, 0, 0), (135, .iconst 1, 1, 0, 0, 0, 0), (136, .goto 4, 3, 0, 0, 0, 0), (139, .iconst 0, 1, 0, 0, 0, 0), (140, .istore 5, 2, 0, 0, 0, 0), (142, .iinc 6 1, 3, 0, 0, 0, 0)],
  [(145, .goto (-57), 3, 0, 0, 0, 0), (148, .iload_n 2, 1, 0, 0, 0, 0), (149, .iload 5, 2, 0, 0, 0, 0), (151, .ifCond .eq 7, 3, 0, 0, 0, 0), (154, .iconst 1, 1, 0, 0, 0, 0), (155, .goto 4, 3, 0, 0, 0, 0), (158, .iconst 0, 1, 0, 0, 0, 0), (159, .iadd, 1, 0, 0, 0, 0)],
  [(160, .istore_n 2, 1, 0, 0, 0, 0), (161, .iinc 4 1, 3, 0, 0, 0, 0), (164, .goto (-134), 3, 0, 0, 0, 0), (167, .iinc 3 1, 3, 0, 0, 0, 0), (170, .goto (-151), 3, 0, 0, 0, 0), (173, .iload_n 2, 1, 0, 0, 0, 0), (174, .ireturn, 1, 0, 0, 0, 0)]]
def iv_k164 : List (List ivE) := [[(0, .iload_n 1, 1, 0, 0, 0, 0), (1, .i2l, 1, 0, 0, 0, 0), (2, .lconst 0, 1, 0, 0, 0, 0), (3, .lconst 1, 1, 0, 0, 0, 0), (4, .invokestatic 92, 3, 109, 3, 0, 849), (7, .ifCond .ne 5, 3, 0, 0, 0, 0), (10, .iconst (-1), 1, 0, 0, 0, 0), (11, .ireturn, 1, 0, 0, 0, 0), (12, .aload_n 0, 1, 0, 0, 0, 0), (13, .getfield 68, 3, 9, 31, 0, 762)],
  [(16, .iload_n 1, 1, 0, 0, 0, 0), (17, .iconst 1, 1, 0, 0, 0, 0), (18, .bastore, 1, 0, 0, 0, 0), (19, .iconst 0, 1, 0, 0, 0, 0), (20, .istore_n 2, 1, 0, 0, 0, 0), (21, .iload_n 2, 1, 0, 0, 0, 0), (22, .bipush 40, 2, 0, 0, 0, 0), (24, .if_icmp .ge 26, 3, 0, 0, 0, 0), (27, .aload_n 0, 1, 0, 0, 0, 0), (28, .getfield 71, 3, 9, 32, 0, 763), (31, .bipush 40, 2, 0, 0, 0, 0)],
  [(33, .iload_n 1, 1, 0, 0, 0, 0), (34, .imul, 1, 0, 0, 0, 0), (35, .iload_n 2, 1, 0, 0, 0, 0), (36, .iadd, 1, 0, 0, 0, 0), (37, .aload_n 0, 1, 0, 0, 0, 0), (38, .getfield 22, 3, 9, 7, 0, 738), (41, .iload_n 2, 1, 0, 0, 0, 0), (42, .iaload, 1, 0, 0, 0, 0), (43, .iastore, 1, 0, 0, 0, 0), (44, .iinc 2 1, 3, 0, 0, 0, 0), (47, .goto (-26), 3, 0, 0, 0, 0)],
  [(50, .iconst 0, 1, 0, 0, 0, 0), (51, .istore_n 2, 1, 0, 0, 0, 0), (52, .iload_n 2, 1, 0, 0, 0, 0), (53, .bipush 8, 2, 0, 0, 0, 0), (55, .if_icmp .ge 60, 3, 0, 0, 0, 0), (58, .aload_n 0, 1, 0, 0, 0, 0), (59, .getfield 74, 3, 9, 33, 0, 764), (62, .bipush 8, 2, 0, 0, 0, 0)],
  [(64, .iload_n 1, 1, 0, 0, 0, 0), (65, .imul, 1, 0, 0, 0, 0), (66, .iload_n 2, 1, 0, 0, 0, 0), (67, .iadd, 1, 0, 0, 0, 0), (68, .aload_n 0, 1, 0, 0, 0, 0), (69, .getfield 25, 3, 9, 8, 0, 739), (72, .iload_n 2, 1, 0, 0, 0, 0), (73, .iaload, 1, 0, 0, 0, 0), (74, .iastore, 1, 0, 0, 0, 0), (75, .aload_n 0, 1, 0, 0, 0, 0), (76, .getfield 77, 3, 9, 34, 0, 765), (79, .bipush 8, 2, 0, 0, 0, 0)],
  [(81, .iload_n 1, 1, 0, 0, 0, 0), (82, .imul, 1, 0, 0, 0, 0), (83, .iload_n 2, 1, 0, 0, 0, 0), (84, .iadd, 1, 0, 0, 0, 0), (85, .aload_n 0, 1, 0, 0, 0, 0), (86, .getfield 28, 3, 9, 9, 0, 740), (89, .iload_n 2, 1, 0, 0, 0, 0), (90, .iaload, 1, 0, 0, 0, 0), (91, .iastore, 1, 0, 0, 0, 0), (92, .aload_n 0, 1, 0, 0, 0, 0), (93, .getfield 80, 3, 9, 35, 0, 766)],
  [(96, .bipush 8, 2, 0, 0, 0, 0), (98, .iload_n 1, 1, 0, 0, 0, 0), (99, .imul, 1, 0, 0, 0, 0), (100, .iload_n 2, 1, 0, 0, 0, 0), (101, .iadd, 1, 0, 0, 0, 0), (102, .aload_n 0, 1, 0, 0, 0, 0), (103, .getfield 31, 3, 9, 10, 0, 741), (106, .iload_n 2, 1, 0, 0, 0, 0), (107, .iaload, 1, 0, 0, 0, 0), (108, .iastore, 1, 0, 0, 0, 0), (109, .iinc 2 1, 3, 0, 0, 0, 0)],
  [(112, .goto (-60), 3, 0, 0, 0, 0), (115, .aload_n 0, 1, 0, 0, 0, 0), (116, .getfield 83, 3, 9, 36, 0, 767), (119, .iload_n 1, 1, 0, 0, 0, 0), (120, .aload_n 0, 1, 0, 0, 0, 0), (121, .getfield 155, 3, 9, 15, 0, 746), (124, .iastore, 1, 0, 0, 0, 0), (125, .aload_n 0, 1, 0, 0, 0, 0), (126, .getfield 155, 3, 9, 15, 0, 746)],
  [(129, .ireturn, 1, 0, 0, 0, 0)]]
def iv_k165 : List (List ivE) := [[(0, .iload_n 1, 1, 0, 0, 0, 0), (1, .i2l, 1, 0, 0, 0, 0), (2, .lconst 0, 1, 0, 0, 0, 0), (3, .lconst 1, 1, 0, 0, 0, 0), (4, .invokestatic 92, 3, 109, 3, 0, 849), (7, .ifCond .ne 5, 3, 0, 0, 0, 0), (10, .iconst (-1), 1, 0, 0, 0, 0), (11, .ireturn, 1, 0, 0, 0, 0), (12, .aload_n 0, 1, 0, 0, 0, 0), (13, .getfield 68, 3, 9, 31, 0, 762)],
  [(16, .iload_n 1, 1, 0, 0, 0, 0), (17, .baload, 1, 0, 0, 0, 0), (18, .ifCond .ne 6, 3, 0, 0, 0, 0), (21, .bipush (-3), 2, 0, 0, 0, 0), (23, .ireturn, 1, 0, 0, 0, 0), (24, .iconst 0, 1, 0, 0, 0, 0), (25, .istore_n 2, 1, 0, 0, 0, 0), (26, .iload_n 2, 1, 0, 0, 0, 0), (27, .bipush 40, 2, 0, 0, 0, 0), (29, .if_icmp .ge 26, 3, 0, 0, 0, 0)],
  [(32, .aload_n 0, 1, 0, 0, 0, 0), (33, .getfield 22, 3, 9, 7, 0, 738), (36, .iload_n 2, 1, 0, 0, 0, 0), (37, .aload_n 0, 1, 0, 0, 0, 0), (38, .getfield 71, 3, 9, 32, 0, 763), (41, .bipush 40, 2, 0, 0, 0, 0), (43, .iload_n 1, 1, 0, 0, 0, 0), (44, .imul, 1, 0, 0, 0, 0), (45, .iload_n 2, 1, 0, 0, 0, 0), (46, .iadd, 1, 0, 0, 0, 0), (47, .iaload, 1, 0, 0, 0, 0)],
  [(48, .iastore, 1, 0, 0, 0, 0), (49, .iinc 2 1, 3, 0, 0, 0, 0), (52, .goto (-26), 3, 0, 0, 0, 0), (55, .iconst 0, 1, 0, 0, 0, 0), (56, .istore_n 2, 1, 0, 0, 0, 0), (57, .iload_n 2, 1, 0, 0, 0, 0), (58, .bipush 8, 2, 0, 0, 0, 0), (60, .if_icmp .ge 60, 3, 0, 0, 0, 0), (63, .aload_n 0, 1, 0, 0, 0, 0)],
  [(64, .getfield 25, 3, 9, 8, 0, 739), (67, .iload_n 2, 1, 0, 0, 0, 0), (68, .aload_n 0, 1, 0, 0, 0, 0), (69, .getfield 74, 3, 9, 33, 0, 764), (72, .bipush 8, 2, 0, 0, 0, 0), (74, .iload_n 1, 1, 0, 0, 0, 0), (75, .imul, 1, 0, 0, 0, 0), (76, .iload_n 2, 1, 0, 0, 0, 0), (77, .iadd, 1, 0, 0, 0, 0), (78, .iaload, 1, 0, 0, 0, 0), (79, .iastore, 1, 0, 0, 0, 0)],
  [(80, .aload_n 0, 1, 0, 0, 0, 0), (81, .getfield 28, 3, 9, 9, 0, 740), (84, .iload_n 2, 1, 0, 0, 0, 0), (85, .aload_n 0, 1, 0, 0, 0, 0), (86, .getfield 77, 3, 9, 34, 0, 765), (89, .bipush 8, 2, 0, 0, 0, 0), (91, .iload_n 1, 1, 0, 0, 0, 0), (92, .imul, 1, 0, 0, 0, 0), (93, .iload_n 2, 1, 0, 0, 0, 0), (94, .iadd, 1, 0, 0, 0, 0), (95, .iaload, 1, 0, 0, 0, 0)],
  [(96, .iastore, 1, 0, 0, 0, 0), (97, .aload_n 0, 1, 0, 0, 0, 0), (98, .getfield 31, 3, 9, 10, 0, 741), (101, .iload_n 2, 1, 0, 0, 0, 0), (102, .aload_n 0, 1, 0, 0, 0, 0), (103, .getfield 80, 3, 9, 35, 0, 766), (106, .bipush 8, 2, 0, 0, 0, 0), (108, .iload_n 1, 1, 0, 0, 0, 0), (109, .imul, 1, 0, 0, 0, 0), (110, .iload_n 2, 1, 0, 0, 0, 0), (111, .iadd, 1, 0, 0, 0, 0)],
  [(112, .iaload, 1, 0, 0, 0, 0), (113, .iastore, 1, 0, 0, 0, 0), (114, .iinc 2 1, 3, 0, 0, 0, 0), (117, .goto (-60), 3, 0, 0, 0, 0), (120, .aload_n 0, 1, 0, 0, 0, 0), (121, .aload_n 0, 1, 0, 0, 0, 0), (122, .getfield 83, 3, 9, 36, 0, 767), (125, .iload_n 1, 1, 0, 0, 0, 0), (126, .iaload, 1, 0, 0, 0, 0), (127, .putfield 155, 3, 9, 15, 0, 746)],
  [(130, .aload_n 0, 1, 0, 0, 0, 0), (131, .getfield 155, 3, 9, 15, 0, 746), (134, .ireturn, 1, 0, 0, 0, 0)]]
def iv_k166 : List (List ivE) := [[(0, .iconst 0, 1, 0, 0, 0, 0), (1, .istore_n 2, 1, 0, 0, 0, 0), (2, .iconst 0, 1, 0, 0, 0, 0), (3, .istore_n 3, 1, 0, 0, 0, 0), (4, .iload_n 3, 1, 0, 0, 0, 0), (5, .aload_n 0, 1, 0, 0, 0, 0), (6, .getfield 149, 3, 9, 13, 0, 744), (9, .if_icmp .ge 18, 3, 0, 0, 0, 0), (12, .iload_n 2, 1, 0, 0, 0, 0), (13, .aload_n 0, 1, 0, 0, 0, 0), (14, .getfield 25, 3, 9, 8, 0, 739)],
  [(17, .iload_n 3, 1, 0, 0, 0, 0), (18, .iaload, 1, 0, 0, 0, 0), (19, .iadd, 1, 0, 0, 0, 0), (20, .istore_n 2, 1, 0, 0, 0, 0), (21, .iinc 3 1, 3, 0, 0, 0, 0), (24, .goto (-20), 3, 0, 0, 0, 0), (27, .iload_n 1, 1, 0, 0, 0, 0), (28, .tableswitch 119 0 7 #[48, 53, 58, 63, 68, 73, 78, 117], 48, 0, 0, 0, 0)],
  [],
  [],
  [(76, .aload_n 0, 1, 0, 0, 0, 0), (77, .getfield 96, 3, 9, 17, 0, 748)],
  [(80, .ireturn, 1, 0, 0, 0, 0), (81, .aload_n 0, 1, 0, 0, 0, 0), (82, .getfield 149, 3, 9, 13, 0, 744), (85, .ireturn, 1, 0, 0, 0, 0), (86, .aload_n 0, 1, 0, 0, 0, 0), (87, .getfield 152, 3, 9, 14, 0, 745), (90, .ireturn, 1, 0, 0, 0, 0), (91, .aload_n 0, 1, 0, 0, 0, 0), (92, .getfield 86, 3, 9, 12, 0, 743), (95, .ireturn, 1, 0, 0, 0, 0)],
  [(96, .aload_n 0, 1, 0, 0, 0, 0), (97, .getfield 155, 3, 9, 15, 0, 746), (100, .ireturn, 1, 0, 0, 0, 0), (101, .aload_n 0, 1, 0, 0, 0, 0), (102, .getfield 218, 3, 9, 26, 0, 757), (105, .ireturn, 1, 0, 0, 0, 0), (106, .iconst 0, 1, 0, 0, 0, 0), (107, .istore_n 3, 1, 0, 0, 0, 0), (108, .iconst 0, 1, 0, 0, 0, 0), (109, .istore 4, 2, 0, 0, 0, 0), (111, .iload 4, 2, 0, 0, 0, 0)],
  [(113, .aload_n 0, 1, 0, 0, 0, 0), (114, .getfield 149, 3, 9, 13, 0, 744), (117, .if_icmp .ge 26, 3, 0, 0, 0, 0), (120, .iload_n 3, 1, 0, 0, 0, 0), (121, .aload_n 0, 1, 0, 0, 0, 0), (122, .iload 4, 2, 0, 0, 0, 0), (124, .invokevirtual 176, 3, 129, 2, 0, 927), (127, .ifCond .eq 7, 3, 0, 0, 0, 0)],
  [(130, .iconst 1, 1, 0, 0, 0, 0), (131, .goto 4, 3, 0, 0, 0, 0), (134, .iconst 0, 1, 0, 0, 0, 0), (135, .iadd, 1, 0, 0, 0, 0), (136, .istore_n 3, 1, 0, 0, 0, 0), (137, .iinc 4 1, 3, 0, 0, 0, 0), (140, .goto (-29), 3, 0, 0, 0, 0), (143, .iload_n 3, 1, 0, 0, 0, 0)],
  [(144, .ireturn, 1, 0, 0, 0, 0), (145, .iload_n 2, 1, 0, 0, 0, 0), (146, .ireturn, 1, 0, 0, 0, 0), (147, .bipush (-2), 2, 0, 0, 0, 0), (149, .ireturn, 1, 0, 0, 0, 0)]]
def iv_k167 : List (List ivE) := [[(0, .iload_n 0, 1, 0, 0, 0, 0), (1, .iload_n 0, 1, 0, 0, 0, 0), (2, .iconst 1, 1, 0, 0, 0, 0), (3, .iushr, 1, 0, 0, 0, 0), (4, .ldc_w 265, 3, 0, 0, 1431655765, 669), (7, .iand, 1, 0, 0, 0, 0), (8, .isub, 1, 0, 0, 0, 0), (9, .istore_n 0, 1, 0, 0, 0, 0), (10, .iload_n 0, 1, 0, 0, 0, 0), (11, .ldc_w 266, 3, 0, 0, 858993459, 670), (14, .iand, 1, 0, 0, 0, 0), (15, .iload_n 0, 1, 0, 0, 0, 0)],
  [(16, .iconst 2, 1, 0, 0, 0, 0), (17, .iushr, 1, 0, 0, 0, 0), (18, .ldc_w 266, 3, 0, 0, 858993459, 670), (21, .iand, 1, 0, 0, 0, 0), (22, .iadd, 1, 0, 0, 0, 0), (23, .istore_n 0, 1, 0, 0, 0, 0), (24, .iload_n 0, 1, 0, 0, 0, 0), (25, .iload_n 0, 1, 0, 0, 0, 0), (26, .iconst 4, 1, 0, 0, 0, 0), (27, .iushr, 1, 0, 0, 0, 0), (28, .iadd, 1, 0, 0, 0, 0), (29, .ldc_w 267, 3, 0, 0, 252645135, 671)],
  [(32, .iand, 1, 0, 0, 0, 0), (33, .istore_n 0, 1, 0, 0, 0, 0), (34, .iload_n 0, 1, 0, 0, 0, 0), (35, .iload_n 0, 1, 0, 0, 0, 0), (36, .bipush 8, 2, 0, 0, 0, 0), (38, .iushr, 1, 0, 0, 0, 0), (39, .iadd, 1, 0, 0, 0, 0), (40, .istore_n 0, 1, 0, 0, 0, 0), (41, .iload_n 0, 1, 0, 0, 0, 0), (42, .iload_n 0, 1, 0, 0, 0, 0), (43, .bipush 16, 2, 0, 0, 0, 0), (45, .iushr, 1, 0, 0, 0, 0), (46, .iadd, 1, 0, 0, 0, 0), (47, .istore_n 0, 1, 0, 0, 0, 0)],
  [(48, .iload_n 0, 1, 0, 0, 0, 0), (49, .bipush 63, 2, 0, 0, 0, 0), (51, .iand, 1, 0, 0, 0, 0), (52, .ireturn, 1, 0, 0, 0, 0)]]
def iv_k168 : List (List ivE) := [[(0, .iload_n 0, 1, 0, 0, 0, 0), (1, .iload_n 1, 1, 0, 0, 0, 0), (2, .if_icmp .lt 7, 3, 0, 0, 0, 0), (5, .iload_n 0, 1, 0, 0, 0, 0), (6, .goto 4, 3, 0, 0, 0, 0), (9, .iload_n 1, 1, 0, 0, 0, 0), (10, .ireturn, 1, 0, 0, 0, 0)]]
def iv_k169 : List (List ivE) := [[(0, .iload_n 0, 1, 0, 0, 0, 0), (1, .iload_n 1, 1, 0, 0, 0, 0), (2, .if_icmp .gt 7, 3, 0, 0, 0, 0), (5, .iload_n 0, 1, 0, 0, 0, 0), (6, .goto 4, 3, 0, 0, 0, 0), (9, .iload_n 1, 1, 0, 0, 0, 0), (10, .ireturn, 1, 0, 0, 0, 0)]]
def iv_k170 : List (List ivE) := [[(0, .new 7, 3, 8, 0, 0, 72), (3, .dup, 1, 0, 0, 0, 0), (4, .invokespecial 9, 3, 66, 1, 0, 74), (7, .astore_n 1, 1, 0, 0, 0, 0), (8, .new 10, 3, 9, 0, 0, 725), (11, .dup, 1, 0, 0, 0, 0), (12, .invokespecial 12, 3, 108, 1, 0, 727), (15, .astore_n 2, 1, 0, 0, 0, 0)],
  [(16, .iconst 0, 1, 0, 0, 0, 0), (17, .istore_n 3, 1, 0, 0, 0, 0), (18, .iload_n 3, 1, 0, 0, 0, 0), (19, .aload_n 0, 1, 0, 0, 0, 0), (20, .arraylength, 1, 0, 0, 0, 0), (21, .iconst 4, 1, 0, 0, 0, 0), (22, .isub, 1, 0, 0, 0, 0), (23, .if_icmp .gt 978, 3, 0, 0, 0, 0), (26, .aload_n 0, 1, 0, 0, 0, 0), (27, .iload_n 3, 1, 0, 0, 0, 0), (28, .iaload, 1, 0, 0, 0, 0), (29, .bipush 31, 2, 0, 0, 0, 0), (31, .iand, 1, 0, 0, 0, 0)],
  [(32, .tableswitch 963 0 30 #[140, 203, 216, 229, 242, 275, 308, 331, 354, 367, 390, 413, 456, 499, 522, 555, 578, 611, 644, 667, 690, 723, 746, 779, 792, 815, 848, 871, 894, 917, 940], 140, 0, 0, 0, 0)],
  [],
  [],
  [],
  [],
  [],
  [],
  [],
  [(172, .aload_n 1, 1, 0, 0, 0, 0), (173, .aload_n 0, 1, 0, 0, 0, 0), (174, .iload_n 3, 1, 0, 0, 0, 0), (175, .iconst 1, 1, 0, 0, 0, 0)],
  [(176, .iadd, 1, 0, 0, 0, 0), (177, .iaload, 1, 0, 0, 0, 0), (178, .aload_n 0, 1, 0, 0, 0, 0), (179, .iload_n 3, 1, 0, 0, 0, 0), (180, .iconst 2, 1, 0, 0, 0, 0), (181, .iadd, 1, 0, 0, 0, 0), (182, .iaload, 1, 0, 0, 0, 0), (183, .i2l, 1, 0, 0, 0, 0), (184, .bipush 32, 2, 0, 0, 0, 0), (186, .lshl, 1, 0, 0, 0, 0), (187, .aload_n 0, 1, 0, 0, 0, 0), (188, .iload_n 3, 1, 0, 0, 0, 0), (189, .iconst 3, 1, 0, 0, 0, 0), (190, .iadd, 1, 0, 0, 0, 0), (191, .iaload, 1, 0, 0, 0, 0)],
  [(192, .i2l, 1, 0, 0, 0, 0), (193, .ldc2_w 13, 3, 0, 0, 4294967295, 1082), (196, .land, 1, 0, 0, 0, 0), (197, .lor, 1, 0, 0, 0, 0), (198, .invokevirtual 15, 3, 67, 3, 0, 306), (201, .aload_n 2, 1, 0, 0, 0, 0), (202, .aload_n 0, 1, 0, 0, 0, 0), (203, .iload_n 3, 1, 0, 0, 0, 0), (204, .iconst 1, 1, 0, 0, 0, 0), (205, .iadd, 1, 0, 0, 0, 0), (206, .iaload, 1, 0, 0, 0, 0), (207, .aload_n 0, 1, 0, 0, 0, 0)],
  [(208, .iload_n 3, 1, 0, 0, 0, 0), (209, .iconst 2, 1, 0, 0, 0, 0), (210, .iadd, 1, 0, 0, 0, 0), (211, .iaload, 1, 0, 0, 0, 0), (212, .i2l, 1, 0, 0, 0, 0), (213, .bipush 32, 2, 0, 0, 0, 0), (215, .lshl, 1, 0, 0, 0, 0), (216, .aload_n 0, 1, 0, 0, 0, 0), (217, .iload_n 3, 1, 0, 0, 0, 0), (218, .iconst 3, 1, 0, 0, 0, 0), (219, .iadd, 1, 0, 0, 0, 0), (220, .iaload, 1, 0, 0, 0, 0), (221, .i2l, 1, 0, 0, 0, 0), (222, .ldc2_w 13, 3, 0, 0, 4294967295, 1082)],
  [(225, .land, 1, 0, 0, 0, 0), (226, .lor, 1, 0, 0, 0, 0), (227, .invokevirtual 19, 3, 110, 3, 0, 844), (230, .if_icmp .eq 765, 3, 0, 0, 0, 0), (233, .iconst 0, 1, 0, 0, 0, 0), (234, .ireturn, 1, 0, 0, 0, 0), (235, .aload_n 1, 1, 0, 0, 0, 0), (236, .invokevirtual 20, 3, 68, 1, 0, 314), (239, .aload_n 2, 1, 0, 0, 0, 0)],
  [(240, .invokevirtual 24, 3, 111, 1, 0, 853), (243, .if_icmp .eq 752, 3, 0, 0, 0, 0), (246, .iconst 0, 1, 0, 0, 0, 0), (247, .ireturn, 1, 0, 0, 0, 0), (248, .aload_n 1, 1, 0, 0, 0, 0), (249, .invokevirtual 25, 3, 69, 1, 0, 318), (252, .aload_n 2, 1, 0, 0, 0, 0), (253, .invokevirtual 28, 3, 120, 1, 0, 857)],
  [(256, .if_icmp .eq 739, 3, 0, 0, 0, 0), (259, .iconst 0, 1, 0, 0, 0, 0), (260, .ireturn, 1, 0, 0, 0, 0), (261, .aload_n 1, 1, 0, 0, 0, 0), (262, .invokevirtual 29, 3, 70, 1, 0, 380), (265, .aload_n 2, 1, 0, 0, 0, 0), (266, .invokevirtual 32, 3, 121, 1, 0, 896), (269, .if_icmp .eq 726, 3, 0, 0, 0, 0)],
  [(272, .iconst 0, 1, 0, 0, 0, 0), (273, .ireturn, 1, 0, 0, 0, 0), (274, .aload_n 1, 1, 0, 0, 0, 0), (275, .aload_n 0, 1, 0, 0, 0, 0), (276, .iload_n 3, 1, 0, 0, 0, 0), (277, .iconst 1, 1, 0, 0, 0, 0), (278, .iadd, 1, 0, 0, 0, 0), (279, .iaload, 1, 0, 0, 0, 0), (280, .aload_n 0, 1, 0, 0, 0, 0), (281, .iload_n 3, 1, 0, 0, 0, 0), (282, .iconst 2, 1, 0, 0, 0, 0), (283, .iadd, 1, 0, 0, 0, 0), (284, .iaload, 1, 0, 0, 0, 0), (285, .invokevirtual 33, 3, 71, 3, 0, 396)],
  [(288, .aload_n 2, 1, 0, 0, 0, 0), (289, .aload_n 0, 1, 0, 0, 0, 0), (290, .iload_n 3, 1, 0, 0, 0, 0), (291, .iconst 1, 1, 0, 0, 0, 0), (292, .iadd, 1, 0, 0, 0, 0), (293, .iaload, 1, 0, 0, 0, 0), (294, .aload_n 0, 1, 0, 0, 0, 0), (295, .iload_n 3, 1, 0, 0, 0, 0), (296, .iconst 2, 1, 0, 0, 0, 0), (297, .iadd, 1, 0, 0, 0, 0), (298, .iaload, 1, 0, 0, 0, 0), (299, .invokevirtual 37, 3, 124, 3, 0, 900), (302, .if_icmp .eq 693, 3, 0, 0, 0, 0)],
  [(305, .iconst 0, 1, 0, 0, 0, 0), (306, .ireturn, 1, 0, 0, 0, 0), (307, .aload_n 1, 1, 0, 0, 0, 0), (308, .aload_n 0, 1, 0, 0, 0, 0), (309, .iload_n 3, 1, 0, 0, 0, 0), (310, .iconst 1, 1, 0, 0, 0, 0), (311, .iadd, 1, 0, 0, 0, 0), (312, .iaload, 1, 0, 0, 0, 0), (313, .aload_n 0, 1, 0, 0, 0, 0), (314, .iload_n 3, 1, 0, 0, 0, 0), (315, .iconst 2, 1, 0, 0, 0, 0), (316, .iadd, 1, 0, 0, 0, 0), (317, .iaload, 1, 0, 0, 0, 0), (318, .invokevirtual 38, 3, 72, 3, 0, 407)],
  [(321, .aload_n 2, 1, 0, 0, 0, 0), (322, .aload_n 0, 1, 0, 0, 0, 0), (323, .iload_n 3, 1, 0, 0, 0, 0), (324, .iconst 1, 1, 0, 0, 0, 0), (325, .iadd, 1, 0, 0, 0, 0), (326, .iaload, 1, 0, 0, 0, 0), (327, .aload_n 0, 1, 0, 0, 0, 0), (328, .iload_n 3, 1, 0, 0, 0, 0), (329, .iconst 2, 1, 0, 0, 0, 0), (330, .iadd, 1, 0, 0, 0, 0), (331, .iaload, 1, 0, 0, 0, 0), (332, .invokevirtual 41, 3, 128, 3, 0, 908), (335, .if_icmp .eq 660, 3, 0, 0, 0, 0)],
  [(338, .iconst 0, 1, 0, 0, 0, 0), (339, .ireturn, 1, 0, 0, 0, 0), (340, .aload_n 1, 1, 0, 0, 0, 0), (341, .aload_n 0, 1, 0, 0, 0, 0), (342, .iload_n 3, 1, 0, 0, 0, 0), (343, .iconst 1, 1, 0, 0, 0, 0), (344, .iadd, 1, 0, 0, 0, 0), (345, .iaload, 1, 0, 0, 0, 0), (346, .invokevirtual 42, 3, 73, 2, 0, 430), (349, .aload_n 2, 1, 0, 0, 0, 0), (350, .aload_n 0, 1, 0, 0, 0, 0), (351, .iload_n 3, 1, 0, 0, 0, 0)],
  [(352, .iconst 1, 1, 0, 0, 0, 0), (353, .iadd, 1, 0, 0, 0, 0), (354, .iaload, 1, 0, 0, 0, 0), (355, .invokevirtual 46, 3, 131, 2, 0, 923), (358, .if_icmp .eq 637, 3, 0, 0, 0, 0), (361, .iconst 0, 1, 0, 0, 0, 0), (362, .ireturn, 1, 0, 0, 0, 0), (363, .aload_n 1, 1, 0, 0, 0, 0), (364, .aload_n 0, 1, 0, 0, 0, 0), (365, .iload_n 3, 1, 0, 0, 0, 0), (366, .iconst 1, 1, 0, 0, 0, 0), (367, .iadd, 1, 0, 0, 0, 0)],
  [(368, .iaload, 1, 0, 0, 0, 0), (369, .invokevirtual 47, 3, 74, 2, 0, 448), (372, .aload_n 2, 1, 0, 0, 0, 0), (373, .aload_n 0, 1, 0, 0, 0, 0), (374, .iload_n 3, 1, 0, 0, 0, 0), (375, .iconst 1, 1, 0, 0, 0, 0), (376, .iadd, 1, 0, 0, 0, 0), (377, .iaload, 1, 0, 0, 0, 0), (378, .invokevirtual 50, 3, 132, 2, 0, 935), (381, .if_icmp .eq 614, 3, 0, 0, 0, 0)],
  [(384, .iconst 0, 1, 0, 0, 0, 0), (385, .ireturn, 1, 0, 0, 0, 0), (386, .aload_n 1, 1, 0, 0, 0, 0), (387, .invokevirtual 51, 3, 75, 1, 0, 452), (390, .aload_n 2, 1, 0, 0, 0, 0), (391, .invokevirtual 54, 3, 134, 1, 0, 939), (394, .if_icmp .eq 601, 3, 0, 0, 0, 0), (397, .iconst 0, 1, 0, 0, 0, 0), (398, .ireturn, 1, 0, 0, 0, 0), (399, .aload_n 1, 1, 0, 0, 0, 0)],
  [(400, .aload_n 0, 1, 0, 0, 0, 0), (401, .iload_n 3, 1, 0, 0, 0, 0), (402, .iconst 1, 1, 0, 0, 0, 0), (403, .iadd, 1, 0, 0, 0, 0), (404, .iaload, 1, 0, 0, 0, 0), (405, .invokevirtual 55, 3, 76, 2, 0, 456), (408, .aload_n 2, 1, 0, 0, 0, 0), (409, .aload_n 0, 1, 0, 0, 0, 0), (410, .iload_n 3, 1, 0, 0, 0, 0), (411, .iconst 1, 1, 0, 0, 0, 0), (412, .iadd, 1, 0, 0, 0, 0), (413, .iaload, 1, 0, 0, 0, 0), (414, .invokevirtual 58, 3, 135, 2, 0, 947)],
  [(417, .if_icmp .eq 578, 3, 0, 0, 0, 0), (420, .iconst 0, 1, 0, 0, 0, 0), (421, .ireturn, 1, 0, 0, 0, 0), (422, .aload_n 1, 1, 0, 0, 0, 0), (423, .aload_n 0, 1, 0, 0, 0, 0), (424, .iload_n 3, 1, 0, 0, 0, 0), (425, .iconst 1, 1, 0, 0, 0, 0), (426, .iadd, 1, 0, 0, 0, 0), (427, .iaload, 1, 0, 0, 0, 0), (428, .invokevirtual 59, 3, 77, 2, 0, 466), (431, .aload_n 2, 1, 0, 0, 0, 0)],
  [(432, .aload_n 0, 1, 0, 0, 0, 0), (433, .iload_n 3, 1, 0, 0, 0, 0), (434, .iconst 1, 1, 0, 0, 0, 0), (435, .iadd, 1, 0, 0, 0, 0), (436, .iaload, 1, 0, 0, 0, 0), (437, .invokevirtual 62, 3, 136, 2, 0, 952), (440, .if_icmp .eq 555, 3, 0, 0, 0, 0), (443, .iconst 0, 1, 0, 0, 0, 0), (444, .ireturn, 1, 0, 0, 0, 0), (445, .aload_n 1, 1, 0, 0, 0, 0), (446, .aload_n 0, 1, 0, 0, 0, 0), (447, .iload_n 3, 1, 0, 0, 0, 0)],
  [(448, .iconst 1, 1, 0, 0, 0, 0), (449, .iadd, 1, 0, 0, 0, 0), (450, .iaload, 1, 0, 0, 0, 0), (451, .aload_n 0, 1, 0, 0, 0, 0), (452, .iload_n 3, 1, 0, 0, 0, 0), (453, .iconst 2, 1, 0, 0, 0, 0), (454, .iadd, 1, 0, 0, 0, 0), (455, .iaload, 1, 0, 0, 0, 0), (456, .aload_n 0, 1, 0, 0, 0, 0), (457, .iload_n 3, 1, 0, 0, 0, 0), (458, .iconst 3, 1, 0, 0, 0, 0), (459, .iadd, 1, 0, 0, 0, 0), (460, .iaload, 1, 0, 0, 0, 0), (461, .invokevirtual 63, 3, 78, 4, 0, 470)],
  [(464, .aload_n 2, 1, 0, 0, 0, 0), (465, .aload_n 0, 1, 0, 0, 0, 0), (466, .iload_n 3, 1, 0, 0, 0, 0), (467, .iconst 1, 1, 0, 0, 0, 0), (468, .iadd, 1, 0, 0, 0, 0), (469, .iaload, 1, 0, 0, 0, 0), (470, .aload_n 0, 1, 0, 0, 0, 0), (471, .iload_n 3, 1, 0, 0, 0, 0), (472, .iconst 2, 1, 0, 0, 0, 0), (473, .iadd, 1, 0, 0, 0, 0), (474, .iaload, 1, 0, 0, 0, 0), (475, .aload_n 0, 1, 0, 0, 0, 0), (476, .iload_n 3, 1, 0, 0, 0, 0), (477, .iconst 3, 1, 0, 0, 0, 0), (478, .iadd, 1, 0, 0, 0, 0), (479, .iaload, 1, 0, 0, 0, 0)],
  [(480, .invokevirtual 67, 3, 138, 4, 0, 956), (483, .if_icmp .eq 512, 3, 0, 0, 0, 0), (486, .iconst 0, 1, 0, 0, 0, 0), (487, .ireturn, 1, 0, 0, 0, 0), (488, .aload_n 1, 1, 0, 0, 0, 0), (489, .aload_n 0, 1, 0, 0, 0, 0), (490, .iload_n 3, 1, 0, 0, 0, 0), (491, .iconst 1, 1, 0, 0, 0, 0), (492, .iadd, 1, 0, 0, 0, 0), (493, .iaload, 1, 0, 0, 0, 0), (494, .aload_n 0, 1, 0, 0, 0, 0), (495, .iload_n 3, 1, 0, 0, 0, 0)],
  [(496, .iconst 2, 1, 0, 0, 0, 0), (497, .iadd, 1, 0, 0, 0, 0), (498, .iaload, 1, 0, 0, 0, 0), (499, .aload_n 0, 1, 0, 0, 0, 0), (500, .iload_n 3, 1, 0, 0, 0, 0), (501, .iconst 3, 1, 0, 0, 0, 0), (502, .iadd, 1, 0, 0, 0, 0), (503, .iaload, 1, 0, 0, 0, 0), (504, .invokevirtual 68, 3, 79, 4, 0, 482), (507, .aload_n 2, 1, 0, 0, 0, 0), (508, .aload_n 0, 1, 0, 0, 0, 0), (509, .iload_n 3, 1, 0, 0, 0, 0), (510, .iconst 1, 1, 0, 0, 0, 0), (511, .iadd, 1, 0, 0, 0, 0)],
  [(512, .iaload, 1, 0, 0, 0, 0), (513, .aload_n 0, 1, 0, 0, 0, 0), (514, .iload_n 3, 1, 0, 0, 0, 0), (515, .iconst 2, 1, 0, 0, 0, 0), (516, .iadd, 1, 0, 0, 0, 0), (517, .iaload, 1, 0, 0, 0, 0), (518, .aload_n 0, 1, 0, 0, 0, 0), (519, .iload_n 3, 1, 0, 0, 0, 0), (520, .iconst 3, 1, 0, 0, 0, 0), (521, .iadd, 1, 0, 0, 0, 0), (522, .iaload, 1, 0, 0, 0, 0), (523, .invokevirtual 71, 3, 139, 4, 0, 968), (526, .if_icmp .eq 469, 3, 0, 0, 0, 0)],
  [(529, .iconst 0, 1, 0, 0, 0, 0), (530, .ireturn, 1, 0, 0, 0, 0), (531, .aload_n 1, 1, 0, 0, 0, 0), (532, .aload_n 0, 1, 0, 0, 0, 0), (533, .iload_n 3, 1, 0, 0, 0, 0), (534, .iconst 1, 1, 0, 0, 0, 0), (535, .iadd, 1, 0, 0, 0, 0), (536, .iaload, 1, 0, 0, 0, 0), (537, .invokevirtual 72, 3, 80, 2, 0, 486), (540, .aload_n 2, 1, 0, 0, 0, 0), (541, .aload_n 0, 1, 0, 0, 0, 0), (542, .iload_n 3, 1, 0, 0, 0, 0), (543, .iconst 1, 1, 0, 0, 0, 0)],
  [(544, .iadd, 1, 0, 0, 0, 0), (545, .iaload, 1, 0, 0, 0, 0), (546, .invokevirtual 75, 3, 141, 2, 0, 972), (549, .if_icmp .eq 446, 3, 0, 0, 0, 0), (552, .iconst 0, 1, 0, 0, 0, 0), (553, .ireturn, 1, 0, 0, 0, 0), (554, .aload_n 1, 1, 0, 0, 0, 0), (555, .aload_n 0, 1, 0, 0, 0, 0), (556, .iload_n 3, 1, 0, 0, 0, 0), (557, .iconst 1, 1, 0, 0, 0, 0), (558, .iadd, 1, 0, 0, 0, 0), (559, .iaload, 1, 0, 0, 0, 0)],
  [(560, .aload_n 0, 1, 0, 0, 0, 0), (561, .iload_n 3, 1, 0, 0, 0, 0), (562, .iconst 2, 1, 0, 0, 0, 0), (563, .iadd, 1, 0, 0, 0, 0), (564, .iaload, 1, 0, 0, 0, 0), (565, .invokevirtual 76, 3, 81, 3, 0, 537), (568, .aload_n 2, 1, 0, 0, 0, 0), (569, .aload_n 0, 1, 0, 0, 0, 0), (570, .iload_n 3, 1, 0, 0, 0, 0), (571, .iconst 1, 1, 0, 0, 0, 0), (572, .iadd, 1, 0, 0, 0, 0), (573, .iaload, 1, 0, 0, 0, 0), (574, .aload_n 0, 1, 0, 0, 0, 0), (575, .iload_n 3, 1, 0, 0, 0, 0)],
  [(576, .iconst 2, 1, 0, 0, 0, 0), (577, .iadd, 1, 0, 0, 0, 0), (578, .iaload, 1, 0, 0, 0, 0), (579, .invokevirtual 79, 3, 142, 3, 0, 980), (582, .if_icmp .eq 413, 3, 0, 0, 0, 0), (585, .iconst 0, 1, 0, 0, 0, 0), (586, .ireturn, 1, 0, 0, 0, 0), (587, .aload_n 1, 1, 0, 0, 0, 0), (588, .aload_n 0, 1, 0, 0, 0, 0), (589, .iload_n 3, 1, 0, 0, 0, 0), (590, .iconst 1, 1, 0, 0, 0, 0), (591, .iadd, 1, 0, 0, 0, 0)],
  [(592, .iaload, 1, 0, 0, 0, 0), (593, .invokevirtual 80, 3, 82, 2, 0, 542), (596, .aload_n 2, 1, 0, 0, 0, 0), (597, .aload_n 0, 1, 0, 0, 0, 0), (598, .iload_n 3, 1, 0, 0, 0, 0), (599, .iconst 1, 1, 0, 0, 0, 0), (600, .iadd, 1, 0, 0, 0, 0), (601, .iaload, 1, 0, 0, 0, 0), (602, .invokevirtual 83, 3, 144, 2, 0, 984), (605, .if_icmp .eq 390, 3, 0, 0, 0, 0)],
  [(608, .iconst 0, 1, 0, 0, 0, 0), (609, .ireturn, 1, 0, 0, 0, 0), (610, .aload_n 1, 1, 0, 0, 0, 0), (611, .aload_n 0, 1, 0, 0, 0, 0), (612, .iload_n 3, 1, 0, 0, 0, 0), (613, .iconst 1, 1, 0, 0, 0, 0), (614, .iadd, 1, 0, 0, 0, 0), (615, .iaload, 1, 0, 0, 0, 0), (616, .aload_n 0, 1, 0, 0, 0, 0), (617, .iload_n 3, 1, 0, 0, 0, 0), (618, .iconst 2, 1, 0, 0, 0, 0), (619, .iadd, 1, 0, 0, 0, 0), (620, .iaload, 1, 0, 0, 0, 0), (621, .invokevirtual 84, 3, 83, 3, 0, 554)],
  [(624, .aload_n 2, 1, 0, 0, 0, 0), (625, .aload_n 0, 1, 0, 0, 0, 0), (626, .iload_n 3, 1, 0, 0, 0, 0), (627, .iconst 1, 1, 0, 0, 0, 0), (628, .iadd, 1, 0, 0, 0, 0), (629, .iaload, 1, 0, 0, 0, 0), (630, .aload_n 0, 1, 0, 0, 0, 0), (631, .iload_n 3, 1, 0, 0, 0, 0), (632, .iconst 2, 1, 0, 0, 0, 0), (633, .iadd, 1, 0, 0, 0, 0), (634, .iaload, 1, 0, 0, 0, 0), (635, .invokevirtual 87, 3, 147, 3, 0, 992), (638, .if_icmp .eq 357, 3, 0, 0, 0, 0)],
  [(641, .iconst 0, 1, 0, 0, 0, 0), (642, .ireturn, 1, 0, 0, 0, 0), (643, .aload_n 1, 1, 0, 0, 0, 0), (644, .aload_n 0, 1, 0, 0, 0, 0), (645, .iload_n 3, 1, 0, 0, 0, 0), (646, .iconst 1, 1, 0, 0, 0, 0), (647, .iadd, 1, 0, 0, 0, 0), (648, .iaload, 1, 0, 0, 0, 0), (649, .aload_n 0, 1, 0, 0, 0, 0), (650, .iload_n 3, 1, 0, 0, 0, 0), (651, .iconst 2, 1, 0, 0, 0, 0), (652, .iadd, 1, 0, 0, 0, 0), (653, .iaload, 1, 0, 0, 0, 0), (654, .invokevirtual 88, 3, 84, 3, 0, 562)],
  [(657, .aload_n 2, 1, 0, 0, 0, 0), (658, .aload_n 0, 1, 0, 0, 0, 0), (659, .iload_n 3, 1, 0, 0, 0, 0), (660, .iconst 1, 1, 0, 0, 0, 0), (661, .iadd, 1, 0, 0, 0, 0), (662, .iaload, 1, 0, 0, 0, 0), (663, .aload_n 0, 1, 0, 0, 0, 0), (664, .iload_n 3, 1, 0, 0, 0, 0), (665, .iconst 2, 1, 0, 0, 0, 0), (666, .iadd, 1, 0, 0, 0, 0), (667, .iaload, 1, 0, 0, 0, 0), (668, .invokevirtual 91, 3, 150, 3, 0, 1004), (671, .if_icmp .eq 324, 3, 0, 0, 0, 0)],
  [(674, .iconst 0, 1, 0, 0, 0, 0), (675, .ireturn, 1, 0, 0, 0, 0), (676, .aload_n 1, 1, 0, 0, 0, 0), (677, .aload_n 0, 1, 0, 0, 0, 0), (678, .iload_n 3, 1, 0, 0, 0, 0), (679, .iconst 1, 1, 0, 0, 0, 0), (680, .iadd, 1, 0, 0, 0, 0), (681, .iaload, 1, 0, 0, 0, 0), (682, .invokevirtual 92, 3, 85, 2, 0, 607), (685, .aload_n 2, 1, 0, 0, 0, 0), (686, .aload_n 0, 1, 0, 0, 0, 0), (687, .iload_n 3, 1, 0, 0, 0, 0)],
  [(688, .iconst 1, 1, 0, 0, 0, 0), (689, .iadd, 1, 0, 0, 0, 0), (690, .iaload, 1, 0, 0, 0, 0), (691, .invokevirtual 95, 3, 152, 2, 0, 1016), (694, .if_icmp .eq 301, 3, 0, 0, 0, 0), (697, .iconst 0, 1, 0, 0, 0, 0), (698, .ireturn, 1, 0, 0, 0, 0), (699, .aload_n 1, 1, 0, 0, 0, 0), (700, .aload_n 0, 1, 0, 0, 0, 0), (701, .iload_n 3, 1, 0, 0, 0, 0), (702, .iconst 1, 1, 0, 0, 0, 0), (703, .iadd, 1, 0, 0, 0, 0)],
  [(704, .iaload, 1, 0, 0, 0, 0), (705, .invokevirtual 96, 3, 86, 2, 0, 611), (708, .aload_n 2, 1, 0, 0, 0, 0), (709, .aload_n 0, 1, 0, 0, 0, 0), (710, .iload_n 3, 1, 0, 0, 0, 0), (711, .iconst 1, 1, 0, 0, 0, 0), (712, .iadd, 1, 0, 0, 0, 0), (713, .iaload, 1, 0, 0, 0, 0), (714, .invokevirtual 99, 3, 153, 2, 0, 1024), (717, .if_icmp .eq 278, 3, 0, 0, 0, 0)],
  [(720, .iconst 0, 1, 0, 0, 0, 0), (721, .ireturn, 1, 0, 0, 0, 0), (722, .aload_n 1, 1, 0, 0, 0, 0), (723, .aload_n 0, 1, 0, 0, 0, 0), (724, .iload_n 3, 1, 0, 0, 0, 0), (725, .iconst 1, 1, 0, 0, 0, 0), (726, .iadd, 1, 0, 0, 0, 0), (727, .iaload, 1, 0, 0, 0, 0), (728, .aload_n 0, 1, 0, 0, 0, 0), (729, .iload_n 3, 1, 0, 0, 0, 0), (730, .iconst 2, 1, 0, 0, 0, 0), (731, .iadd, 1, 0, 0, 0, 0), (732, .iaload, 1, 0, 0, 0, 0), (733, .invokevirtual 100, 3, 87, 3, 0, 619)],
  [(736, .aload_n 2, 1, 0, 0, 0, 0), (737, .aload_n 0, 1, 0, 0, 0, 0), (738, .iload_n 3, 1, 0, 0, 0, 0), (739, .iconst 1, 1, 0, 0, 0, 0), (740, .iadd, 1, 0, 0, 0, 0), (741, .iaload, 1, 0, 0, 0, 0), (742, .aload_n 0, 1, 0, 0, 0, 0), (743, .iload_n 3, 1, 0, 0, 0, 0), (744, .iconst 2, 1, 0, 0, 0, 0), (745, .iadd, 1, 0, 0, 0, 0), (746, .iaload, 1, 0, 0, 0, 0), (747, .invokevirtual 103, 3, 154, 3, 0, 1028), (750, .if_icmp .eq 245, 3, 0, 0, 0, 0)],
  [(753, .iconst 0, 1, 0, 0, 0, 0), (754, .ireturn, 1, 0, 0, 0, 0), (755, .aload_n 1, 1, 0, 0, 0, 0), (756, .aload_n 0, 1, 0, 0, 0, 0), (757, .iload_n 3, 1, 0, 0, 0, 0), (758, .iconst 1, 1, 0, 0, 0, 0), (759, .iadd, 1, 0, 0, 0, 0), (760, .iaload, 1, 0, 0, 0, 0), (761, .invokevirtual 104, 3, 88, 2, 0, 627), (764, .aload_n 2, 1, 0, 0, 0, 0), (765, .aload_n 0, 1, 0, 0, 0, 0), (766, .iload_n 3, 1, 0, 0, 0, 0), (767, .iconst 1, 1, 0, 0, 0, 0)],
  [(768, .iadd, 1, 0, 0, 0, 0), (769, .iaload, 1, 0, 0, 0, 0), (770, .invokevirtual 107, 3, 155, 2, 0, 1032), (773, .if_icmp .eq 222, 3, 0, 0, 0, 0), (776, .iconst 0, 1, 0, 0, 0, 0), (777, .ireturn, 1, 0, 0, 0, 0), (778, .aload_n 1, 1, 0, 0, 0, 0), (779, .aload_n 0, 1, 0, 0, 0, 0), (780, .iload_n 3, 1, 0, 0, 0, 0), (781, .iconst 1, 1, 0, 0, 0, 0), (782, .iadd, 1, 0, 0, 0, 0), (783, .iaload, 1, 0, 0, 0, 0)],
  [(784, .aload_n 0, 1, 0, 0, 0, 0), (785, .iload_n 3, 1, 0, 0, 0, 0), (786, .iconst 2, 1, 0, 0, 0, 0), (787, .iadd, 1, 0, 0, 0, 0), (788, .iaload, 1, 0, 0, 0, 0), (789, .invokevirtual 108, 3, 89, 3, 0, 631), (792, .aload_n 2, 1, 0, 0, 0, 0), (793, .aload_n 0, 1, 0, 0, 0, 0), (794, .iload_n 3, 1, 0, 0, 0, 0), (795, .iconst 1, 1, 0, 0, 0, 0), (796, .iadd, 1, 0, 0, 0, 0), (797, .iaload, 1, 0, 0, 0, 0), (798, .aload_n 0, 1, 0, 0, 0, 0), (799, .iload_n 3, 1, 0, 0, 0, 0)],
  [(800, .iconst 2, 1, 0, 0, 0, 0), (801, .iadd, 1, 0, 0, 0, 0), (802, .iaload, 1, 0, 0, 0, 0), (803, .invokevirtual 111, 3, 156, 3, 0, 1036), (806, .if_icmp .eq 189, 3, 0, 0, 0, 0), (809, .iconst 0, 1, 0, 0, 0, 0), (810, .ireturn, 1, 0, 0, 0, 0), (811, .aload_n 1, 1, 0, 0, 0, 0), (812, .invokevirtual 112, 3, 90, 1, 0, 639), (815, .aload_n 2, 1, 0, 0, 0, 0)],
  [(816, .invokevirtual 115, 3, 157, 1, 0, 1041), (819, .if_icmp .eq 176, 3, 0, 0, 0, 0), (822, .iconst 0, 1, 0, 0, 0, 0), (823, .ireturn, 1, 0, 0, 0, 0), (824, .aload_n 1, 1, 0, 0, 0, 0), (825, .aload_n 0, 1, 0, 0, 0, 0), (826, .iload_n 3, 1, 0, 0, 0, 0), (827, .iconst 1, 1, 0, 0, 0, 0), (828, .iadd, 1, 0, 0, 0, 0), (829, .iaload, 1, 0, 0, 0, 0), (830, .invokevirtual 116, 3, 91, 2, 0, 643)],
  [(833, .aload_n 2, 1, 0, 0, 0, 0), (834, .aload_n 0, 1, 0, 0, 0, 0), (835, .iload_n 3, 1, 0, 0, 0, 0), (836, .iconst 1, 1, 0, 0, 0, 0), (837, .iadd, 1, 0, 0, 0, 0), (838, .iaload, 1, 0, 0, 0, 0), (839, .invokevirtual 119, 3, 160, 2, 0, 1045), (842, .if_icmp .eq 153, 3, 0, 0, 0, 0), (845, .iconst 0, 1, 0, 0, 0, 0), (846, .ireturn, 1, 0, 0, 0, 0), (847, .aload_n 1, 1, 0, 0, 0, 0)],
  [(848, .aload_n 0, 1, 0, 0, 0, 0), (849, .iload_n 3, 1, 0, 0, 0, 0), (850, .iconst 1, 1, 0, 0, 0, 0), (851, .iadd, 1, 0, 0, 0, 0), (852, .iaload, 1, 0, 0, 0, 0), (853, .aload_n 0, 1, 0, 0, 0, 0), (854, .iload_n 3, 1, 0, 0, 0, 0), (855, .iconst 2, 1, 0, 0, 0, 0), (856, .iadd, 1, 0, 0, 0, 0), (857, .iaload, 1, 0, 0, 0, 0), (858, .invokevirtual 120, 3, 92, 3, 0, 673), (861, .aload_n 2, 1, 0, 0, 0, 0), (862, .aload_n 0, 1, 0, 0, 0, 0), (863, .iload_n 3, 1, 0, 0, 0, 0)],
  [(864, .iconst 1, 1, 0, 0, 0, 0), (865, .iadd, 1, 0, 0, 0, 0), (866, .iaload, 1, 0, 0, 0, 0), (867, .aload_n 0, 1, 0, 0, 0, 0), (868, .iload_n 3, 1, 0, 0, 0, 0), (869, .iconst 2, 1, 0, 0, 0, 0), (870, .iadd, 1, 0, 0, 0, 0), (871, .iaload, 1, 0, 0, 0, 0), (872, .invokevirtual 123, 3, 161, 3, 0, 1057), (875, .if_icmp .eq 120, 3, 0, 0, 0, 0), (878, .iconst 0, 1, 0, 0, 0, 0), (879, .ireturn, 1, 0, 0, 0, 0)],
  [(880, .aload_n 1, 1, 0, 0, 0, 0), (881, .aload_n 0, 1, 0, 0, 0, 0), (882, .iload_n 3, 1, 0, 0, 0, 0), (883, .iconst 1, 1, 0, 0, 0, 0), (884, .iadd, 1, 0, 0, 0, 0), (885, .iaload, 1, 0, 0, 0, 0), (886, .invokevirtual 124, 3, 93, 2, 0, 681), (889, .aload_n 2, 1, 0, 0, 0, 0), (890, .aload_n 0, 1, 0, 0, 0, 0), (891, .iload_n 3, 1, 0, 0, 0, 0), (892, .iconst 1, 1, 0, 0, 0, 0), (893, .iadd, 1, 0, 0, 0, 0), (894, .iaload, 1, 0, 0, 0, 0), (895, .invokevirtual 127, 3, 162, 2, 0, 1061)],
  [(898, .if_icmp .eq 97, 3, 0, 0, 0, 0), (901, .iconst 0, 1, 0, 0, 0, 0), (902, .ireturn, 1, 0, 0, 0, 0), (903, .aload_n 1, 1, 0, 0, 0, 0), (904, .aload_n 0, 1, 0, 0, 0, 0), (905, .iload_n 3, 1, 0, 0, 0, 0), (906, .iconst 1, 1, 0, 0, 0, 0), (907, .iadd, 1, 0, 0, 0, 0), (908, .iaload, 1, 0, 0, 0, 0), (909, .invokevirtual 128, 3, 94, 2, 0, 690)],
  [(912, .aload_n 2, 1, 0, 0, 0, 0), (913, .aload_n 0, 1, 0, 0, 0, 0), (914, .iload_n 3, 1, 0, 0, 0, 0), (915, .iconst 1, 1, 0, 0, 0, 0), (916, .iadd, 1, 0, 0, 0, 0), (917, .iaload, 1, 0, 0, 0, 0), (918, .invokevirtual 131, 3, 163, 2, 0, 1065), (921, .if_icmp .eq 74, 3, 0, 0, 0, 0), (924, .iconst 0, 1, 0, 0, 0, 0), (925, .ireturn, 1, 0, 0, 0, 0), (926, .aload_n 1, 1, 0, 0, 0, 0), (927, .aload_n 0, 1, 0, 0, 0, 0)],
  [(928, .iload_n 3, 1, 0, 0, 0, 0), (929, .iconst 1, 1, 0, 0, 0, 0), (930, .iadd, 1, 0, 0, 0, 0), (931, .iaload, 1, 0, 0, 0, 0), (932, .invokevirtual 132, 3, 95, 2, 0, 704), (935, .aload_n 2, 1, 0, 0, 0, 0), (936, .aload_n 0, 1, 0, 0, 0, 0), (937, .iload_n 3, 1, 0, 0, 0, 0), (938, .iconst 1, 1, 0, 0, 0, 0), (939, .iadd, 1, 0, 0, 0, 0), (940, .iaload, 1, 0, 0, 0, 0), (941, .invokevirtual 135, 3, 164, 2, 0, 1070)],
  [(944, .if_icmp .eq 51, 3, 0, 0, 0, 0), (947, .iconst 0, 1, 0, 0, 0, 0), (948, .ireturn, 1, 0, 0, 0, 0), (949, .aload_n 1, 1, 0, 0, 0, 0), (950, .aload_n 0, 1, 0, 0, 0, 0), (951, .iload_n 3, 1, 0, 0, 0, 0), (952, .iconst 1, 1, 0, 0, 0, 0), (953, .iadd, 1, 0, 0, 0, 0), (954, .iaload, 1, 0, 0, 0, 0), (955, .invokevirtual 136, 3, 96, 2, 0, 712), (958, .aload_n 2, 1, 0, 0, 0, 0), (959, .aload_n 0, 1, 0, 0, 0, 0)],
  [(960, .iload_n 3, 1, 0, 0, 0, 0), (961, .iconst 1, 1, 0, 0, 0, 0), (962, .iadd, 1, 0, 0, 0, 0), (963, .iaload, 1, 0, 0, 0, 0), (964, .invokevirtual 139, 3, 165, 2, 0, 1074), (967, .if_icmp .eq 28, 3, 0, 0, 0, 0), (970, .iconst 0, 1, 0, 0, 0, 0), (971, .ireturn, 1, 0, 0, 0, 0), (972, .aload_n 1, 1, 0, 0, 0, 0), (973, .aload_n 0, 1, 0, 0, 0, 0), (974, .iload_n 3, 1, 0, 0, 0, 0), (975, .iconst 1, 1, 0, 0, 0, 0)],
  [(976, .iadd, 1, 0, 0, 0, 0), (977, .iaload, 1, 0, 0, 0, 0), (978, .invokevirtual 140, 3, 97, 2, 0, 716), (981, .aload_n 2, 1, 0, 0, 0, 0), (982, .aload_n 0, 1, 0, 0, 0, 0), (983, .iload_n 3, 1, 0, 0, 0, 0), (984, .iconst 1, 1, 0, 0, 0, 0), (985, .iadd, 1, 0, 0, 0, 0), (986, .iaload, 1, 0, 0, 0, 0), (987, .invokevirtual 143, 3, 166, 2, 0, 1078), (990, .if_icmp .eq 5, 3, 0, 0, 0, 0)],
  [(993, .iconst 0, 1, 0, 0, 0, 0), (994, .ireturn, 1, 0, 0, 0, 0), (995, .iinc 3 4, 3, 0, 0, 0, 0), (998, .goto (-980), 3, 0, 0, 0, 0), (1001, .iconst 1, 1, 0, 0, 0, 0), (1002, .ireturn, 1, 0, 0, 0, 0)]]
def iv_K : List (List (List (List ivE))) := [[iv_k0, iv_k1, iv_k2, iv_k3, iv_k4, iv_k5, iv_k6, iv_k7, iv_k8, iv_k9, iv_k10, iv_k11, iv_k12, iv_k13, iv_k14, iv_k15],
  [iv_k16, iv_k17, iv_k18, iv_k19, iv_k20, iv_k21, iv_k22, iv_k23, iv_k24, iv_k25, iv_k26, iv_k27, iv_k28, iv_k29, iv_k30, iv_k31],
  [iv_k32, iv_k33, iv_k34, iv_k35, iv_k36, iv_k37, iv_k38, iv_k39, iv_k40, iv_k41, iv_k42, iv_k43, iv_k44, iv_k45, iv_k46, iv_k47],
  [iv_k48, iv_k49, iv_k50, iv_k51, iv_k52, iv_k53, iv_k54, iv_k55, iv_k56, iv_k57, iv_k58, iv_k59, iv_k60, iv_k61, iv_k62, iv_k63],
  [iv_k64, iv_k65, iv_k66, iv_k67, iv_k68, iv_k69, iv_k70, iv_k71, iv_k72, iv_k73, iv_k74, iv_k75, iv_k76, iv_k77, iv_k78, iv_k79],
  [iv_k80, iv_k81, iv_k82, iv_k83, iv_k84, iv_k85, iv_k86, iv_k87, iv_k88, iv_k89, iv_k90, iv_k91, iv_k92, iv_k93, iv_k94, iv_k95],
  [iv_k96, iv_k97, iv_k98, iv_k99, iv_k100, iv_k101, iv_k102, iv_k103, iv_k104, iv_k105, iv_k106, iv_k107, iv_k108, iv_k109, iv_k110, iv_k111],
  [iv_k112, iv_k113, iv_k114, iv_k115, iv_k116, iv_k117, iv_k118, iv_k119, iv_k120, iv_k121, iv_k122, iv_k123, iv_k124, iv_k125, iv_k126, iv_k127],
  [iv_k128, iv_k129, iv_k130, iv_k131, iv_k132, iv_k133, iv_k134, iv_k135, iv_k136, iv_k137, iv_k138, iv_k139, iv_k140, iv_k141, iv_k142, iv_k143],
  [iv_k144, iv_k145, iv_k146, iv_k147, iv_k148, iv_k149, iv_k150, iv_k151, iv_k152, iv_k153, iv_k154, iv_k155, iv_k156, iv_k157, iv_k158, iv_k159],
  [iv_k160, iv_k161, iv_k162, iv_k163, iv_k164, iv_k165, iv_k166, iv_k167, iv_k168, iv_k169, iv_k170]]
def iv_code (mi : Nat) : List (List ivE) := (iv_K.getD (mi / 16) []).getD (mi % 16) []
def iv_ins (mi pc : Nat) : Option ivE := ((iv_code mi).getD (pc / 16) []).find? (fun e => Nat.beq e.1 pc)
def iv_mt : List (List (MethodName × ByteArray × Nat × Option FieldType)) := [[(yX0_init, cX0_init, 1, none), (yX0_allLifted, cX0_allLifted, 3, (some .int)), (yX0_pack, cX0_pack, 3, none), (yX0_packSet, cX0_packSet, 3, none), (yX0_putLast, cX0_putLast, 7, none), (yX0_holdBetter, cX0_holdBetter, 4, none), (yX0_canTake, cX0_canTake, 5, (some .boolean)), (yX0_timesFor, cX0_timesFor, 2, (some .int)), (yX0_firstWay, cX0_firstWay, 6, (some .int)), (yX0_leastLoad, cX0_leastLoad, 5, (some .int)), (yX0_bearsLoad, cX0_bearsLoad, 5, (some .boolean)), (yX1_init, cX1_init, 1, none), (yX1_settle, cX1_settle, 3, none), (yX1_hasThing, cX1_hasThing, 2, (some .boolean)), (yX1_hasPerson, cX1_hasPerson, 2, (some .boolean)), (yX1_areThings, cX1_areThings, 2, (some .boolean))],
  [(yX1_arePeople, cX1_arePeople, 2, (some .boolean)), (yX2_init, cX2_init, 1, none), (yX2_begin, cX2_begin, 4, none), (yX2_copy, cX2_copy, 3, none), (yX2_isLive, cX2_isLive, 2, (some .boolean)), (yX2_liveOnes, cX2_liveOnes, 3, (some .int)), (yX2_pass, cX2_pass, 5, (some .int)), (yX2_sayingsFor, cX2_sayingsFor, 6, (some .int)), (yX3_soundAt, cX3_soundAt, 3, (some .int)), (yX3_withSound, cX3_withSound, 3, (some .int)), (yX3_lengthOf, cX3_lengthOf, 2, (some .int)), (yX3_inTongue, cX3_inTongue, 5, (some .int)), (yX4_init, cX4_init, 1, none), (yX4_between, cX4_between, 5, (some .int)), (yX4_lay, cX4_lay, 3, none), (yX4_step, cX4_step, 7, none)],
  [(yX4_atMost, cX4_atMost, 6, (some .int)), (yX5_init, cX5_init, 2, none), (yX5_begin, cX5_begin, 1, none), (yX5_avoid, cX5_avoid, 3, none), (yX5_rulerAt, cX5_rulerAt, 2, (some (.object "OnlyNamed$Ruler"))), (yX5_shortest, cX5_shortest, 3, (some .int)), (yX5_find, cX5_find, 5, (some .boolean)), (yX5_isHopeless, cX5_isHopeless, 5, (some .boolean)), (yX5_isTooNear, cX5_isTooNear, 7, (some .boolean)), (yX5_found, cX5_found, 4, (some .int)), (yX6_init, cX6_init, 1, none), (yX6_sing, cX6_sing, 3, none), (yX6_waysWith, cX6_waysWith, 3, (some .int)), (yX6_thingsOf, cX6_thingsOf, 7, (some .int)), (yX6_firstBreak, cX6_firstBreak, 3, (some .int)), (yX6_hear, cX6_hear, 5, none)],
  [(yX6_fit, cX6_fit, 4, (some .int)), (yX6_giveNext, cX6_giveNext, 5, none), (yX7_init, cX7_init, 1, none), (yX7_faultOf, cX7_faultOf, 3, (some .int)), (yX7_take, cX7_take, 2, (some .boolean)), (yX7_takeH, cX7_takeH, 2, (some .boolean)), (yX7_takeR, cX7_takeR, 2, (some .boolean)), (yX7_takePart, cX7_takePart, 2, (some .boolean)), (yX7_takeSound, cX7_takeSound, 3, (some .boolean)), (yX7_endName, cX7_endName, 1, (some .boolean)), (yX7_isTold, cX7_isTold, 3, (some .boolean)), (yX7_takeBear, cX7_takeBear, 3, (some .boolean)), (yX7_takeKnower, cX7_takeKnower, 2, (some .boolean)), (yX7_takeKnown, cX7_takeKnown, 3, (some .boolean)), (yX7_canLearn, cX7_canLearn, 3, (some .boolean)), (yX8_init, cX8_init, 1, none)],
  [(yX8_append, cX8_append, 2, none), (yX8_at, cX8_at, 2, (some .int)), (yX9_init, cX9_init, 2, none), (yX9_write, cX9_write, 5, (some .int)), (yX9_wipe, cX9_wipe, 2, (some .int)), (yX9_fault, cX9_fault, 1, (some .int)), (yX9_house, cX9_house, 3, (some .int)), (yX9_sound, cX9_sound, 3, (some .int)), (yX9_off, cX9_off, 3, (some .int)), (yX9_near, cX9_near, 2, (some .int)), (yX9_knows, cX9_knows, 2, (some .int)), (yX9_live, cX9_live, 1, (some .int)), (yX9_days, cX9_days, 2, (some .int)), (yX9_fades, cX9_fades, 2, (some .int)), (yX9_say, cX9_say, 4, (some .int)), (yX9_give, cX9_give, 4, (some .int))],
  [(yX9_fresh, cX9_fresh, 2, (some .int)), (yX9_anew, cX9_anew, 4, (some .int)), (yX9_lifts, cX9_lifts, 2, (some .int)), (yX9_stands, cX9_stands, 6, (some .int)), (yX9_carries, cX9_carries, 4, (some .int)), (yX9_times, cX9_times, 2, (some .int)), (yX9_worth, cX9_worth, 5, (some .int)), (yX9_upkeep, cX9_upkeep, 3, (some .int)), (yX9_mayHave, cX9_mayHave, 5, (some .int)), (yX9_line, cX9_line, 3, (some .int)), (yX9_silence, cX9_silence, 2, (some .int)), (yX9_ways, cX9_ways, 2, (some .int)), (yX9_mayBe, cX9_mayBe, 3, (some .int)), (yX9_breaks, cX9_breaks, 2, (some .int)), (yX9_twins, cX9_twins, 4, (some .int)), (yX9_keep, cX9_keep, 3, (some .int))],
  [(yX9_again, cX9_again, 3, (some .int)), (yX9_count, cX9_count, 2, (some .int)), (yX9_has, cX9_has, 2, (some .boolean)), (yX9_isOldHouse, cX9_isOldHouse, 1, (some .boolean)), (yX9_slotAt, cX9_slotAt, 2, (some (.object "OnlyNamed$Memory"))), (yX9_soundsOfAll, cX9_soundsOfAll, 3, (some .int)), (yX9_liveNamed, cX9_liveNamed, 4, (some .int)), (yX9_freshName, cX9_freshName, 2, (some .int)), (yX9_nearTo, cX9_nearTo, 5, (some .int)), (yX9_clearOnes, cX9_clearOnes, 6, (some .int)), (yX9_liftedBy, cX9_liftedBy, 5, (some .int)), (yX9_gatherCarriers, cX9_gatherCarriers, 3, none), (yX10_init, cX10_init, 1, none), (yX10_in, cX10_in, 6, (some .boolean)), (yX10_write, cX10_write, 5, (some .int)), (yX10_wipe, cX10_wipe, 2, (some .int))],
  [(yX10_here, cX10_here, 1, (some .int)), (yX10_fail, cX10_fail, 1, none), (yX10_figure, cX10_figure, 3, (some .int)), (yX10_open, cX10_open, 3, (some .int)), (yX10_unknown, cX10_unknown, 4, (some .int)), (yX10_readText, cX10_readText, 4, (some .int)), (yX10_isTold, cX10_isTold, 5, (some .boolean)), (yX10_readName, cX10_readName, 2, none), (yX10_fault, cX10_fault, 1, (some .int)), (yX10_house, cX10_house, 2, (some .int)), (yX10_isThing, cX10_isThing, 2, (some .boolean)), (yX10_isPerson, cX10_isPerson, 2, (some .boolean)), (yX10_sound, cX10_sound, 3, (some .int)), (yX10_least, cX10_least, 4, (some .int)), (yX10_offTried, cX10_offTried, 5, (some .int)), (yX10_offOf, cX10_offOf, 4, (some .int))],
  [(yX10_off, cX10_off, 3, (some .int)), (yX10_isLive, cX10_isLive, 2, (some .boolean)), (yX10_nearTo, cX10_nearTo, 4, (some .int)), (yX10_near, cX10_near, 2, (some .int)), (yX10_knows, cX10_knows, 2, (some .int)), (yX10_liveSet, cX10_liveSet, 3, (some .int)), (yX10_live, cX10_live, 1, (some .int)), (yX10_days, cX10_days, 4, (some .int)), (yX10_fades, cX10_fades, 2, (some .int)), (yX10_isKnown, cX10_isKnown, 3, (some .boolean)), (yX10_say, cX10_say, 4, (some .int)), (yX10_give, cX10_give, 4, (some .int)), (yX10_layFresh, cX10_layFresh, 7, (some .boolean)), (yX10_fresh, cX10_fresh, 2, (some .int)), (yX10_anew, cX10_anew, 4, (some .int)), (yX10_liftsOf, cX10_liftsOf, 4, (some .int))],
  [(yX10_lifts, cX10_lifts, 2, (some .int)), (yX10_isThings, cX10_isThings, 2, (some .boolean)), (yX10_breaksAt, cX10_breaksAt, 6, (some .int)), (yX10_stands, cX10_stands, 3, (some .int)), (yX10_layCan, cX10_layCan, 6, none), (yX10_leastLoad, cX10_leastLoad, 5, (some .int)), (yX10_carries, cX10_carries, 6, (some .int)), (yX10_timesOf, cX10_timesOf, 5, (some .int)), (yX10_times, cX10_times, 3, (some .int)), (yX10_worth, cX10_worth, 5, (some .int)), (yX10_upkeep, cX10_upkeep, 7, (some .int)), (yX10_mayHave, cX10_mayHave, 4, (some .int)), (yX10_line, cX10_line, 3, (some .int)), (yX10_silence, cX10_silence, 2, (some .int)), (yX10_waysBy, cX10_waysBy, 4, (some .int)), (yX10_givings, cX10_givings, 5, (some .int))],
  [(yX10_ways, cX10_ways, 2, (some .int)), (yX10_mayBe, cX10_mayBe, 6, (some .int)), (yX10_breaks, cX10_breaks, 3, (some .int)), (yX10_twins, cX10_twins, 7, (some .int)), (yX10_keep, cX10_keep, 3, (some .int)), (yX10_again, cX10_again, 3, (some .int)), (yX10_count, cX10_count, 5, (some .int)), (yJ6_bitCount_0f7a4, cJ6_bitCount_0f7a4, 1, (some .int)), (yJ9_max_7cf53, cJ9_max_7cf53, 2, (some .int)), (yJ9_min_7cf53, cJ9_min_7cf53, 2, (some .int)), (yL_law, cL_law, 4, (some .boolean))]]
def iv_m (mi : Nat) : MethodName × ByteArray × Nat × Option FieldType := (iv_mt.getD (mi / 16) []).getD (mi % 16) (yL_law, cL_law, 4, none)
def iv_mls : List (List Nat) := [[1, 3, 3, 3, 7, 4, 5, 2, 6, 5, 5, 1, 3, 2, 2, 2],
  [2, 1, 4, 3, 2, 3, 5, 6, 3, 3, 2, 5, 1, 5, 3, 7],
  [6, 2, 1, 3, 2, 3, 5, 5, 7, 4, 1, 3, 3, 7, 3, 5],
  [4, 5, 1, 3, 2, 2, 2, 2, 3, 1, 3, 3, 2, 3, 3, 1],
  [2, 2, 2, 5, 2, 1, 3, 3, 3, 2, 2, 1, 2, 2, 4, 4],
  [2, 4, 2, 6, 4, 2, 5, 3, 5, 3, 2, 2, 3, 2, 4, 3],
  [3, 2, 2, 1, 2, 3, 4, 2, 5, 6, 5, 3, 1, 6, 5, 2],
  [1, 1, 3, 3, 4, 4, 5, 2, 1, 2, 2, 2, 3, 4, 5, 4],
  [3, 2, 4, 2, 2, 3, 1, 4, 2, 3, 4, 4, 7, 2, 4, 4],
  [2, 2, 6, 3, 6, 5, 6, 5, 3, 5, 7, 4, 3, 2, 4, 5],
  [2, 6, 3, 7, 3, 3, 5, 1, 2, 2, 4]]
def iv_ml (mi : Nat) : Nat := (iv_mls.getD (mi / 16) []).getD (mi % 16) 0
def iv_owns : List (List Nat) := [[0, 0, 0, 0, 0, 0, 0, 0, 0, 0, 0, 1, 1, 1, 1, 1],
  [1, 2, 2, 2, 2, 2, 2, 2, 99, 99, 99, 99, 3, 3, 3, 3],
  [3, 4, 4, 4, 4, 4, 4, 4, 4, 4, 5, 5, 5, 5, 5, 5],
  [5, 5, 6, 6, 6, 6, 6, 6, 6, 6, 6, 6, 6, 6, 6, 7],
  [7, 7, 8, 8, 8, 8, 8, 8, 8, 8, 8, 8, 8, 8, 8, 8],
  [8, 8, 8, 8, 8, 8, 8, 8, 8, 8, 8, 8, 8, 8, 8, 8],
  [8, 8, 8, 8, 8, 8, 8, 8, 8, 8, 8, 8, 9, 9, 9, 9],
  [9, 9, 9, 9, 9, 9, 9, 9, 9, 9, 9, 9, 9, 9, 9, 9],
  [9, 9, 9, 9, 9, 9, 9, 9, 9, 9, 9, 9, 9, 9, 9, 9],
  [9, 9, 9, 9, 9, 9, 9, 9, 9, 9, 9, 9, 9, 9, 9, 9],
  [9, 9, 9, 9, 9, 9, 9, 99, 99, 99, 99]]
def iv_own (mi : Nat) : Nat := (iv_owns.getD (mi / 16) []).getD (mi % 16) 99
def iv_zbs : List (List Bool) := [[false, false, false, false, false, false, true, false, false, false, true, false, false, true, true, true],
  [true, false, false, false, true, false, false, false, false, false, false, false, false, false, false, false],
  [false, false, false, false, false, false, true, true, true, false, false, false, false, false, false, false],
  [false, false, false, false, true, true, true, true, true, true, true, true, true, true, true, false],
  [false, false, false, false, false, false, false, false, false, false, false, false, false, false, false, false],
  [false, false, false, false, false, false, false, false, false, false, false, false, false, false, false, false],
  [false, false, true, true, false, false, false, false, false, false, false, false, false, true, false, false],
  [false, false, false, false, false, false, true, false, false, false, true, true, false, false, false, false],
  [false, true, false, false, false, false, false, false, false, true, false, false, true, false, false, false],
  [false, true, false, false, false, false, false, false, false, false, false, false, false, false, false, false],
  [false, false, false, false, false, false, false, false, false, false, true]]
def iv_zb (mi : Nat) : Bool := (iv_zbs.getD (mi / 16) []).getD (mi % 16) false
def iv_rms : List (List (Nat × Nat)) := [[(1, 20), (0, 0), (4, 93), (3, 71), (2, 45), (0, 0), (1, 21), (0, 0), (3, 69), (2, 45), (1, 21), (1, 20), (0, 0), (0, 0), (0, 0), (0, 0)],
  [(0, 0), (1, 20), (0, 0), (0, 0), (0, 0), (1, 21), (2, 43), (1, 21), (0, 0), (0, 0), (0, 0), (1, 22), (1, 20), (2, 48), (1, 21), (1, 22)],
  [(1, 21), (2, 40), (0, 0), (2, 43), (0, 0), (4, 98), (3, 74), (2, 46), (2, 48), (1, 22), (1, 20), (0, 0), (3, 68), (3, 68), (4, 90), (0, 0)],
  [(2, 45), (1, 21), (1, 20), (4, 85), (3, 64), (0, 0), (0, 0), (0, 0), (2, 42), (1, 22), (0, 0), (0, 0), (2, 43), (1, 21), (1, 21), (1, 20)],
  [(0, 0), (0, 0), (3, 61), (1, 21), (0, 0), (5, 107), (5, 107), (1, 22), (3, 72), (4, 96), (1, 21), (2, 43), (3, 67), (1, 21), (1, 21), (1, 21)],
  [(6, 141), (6, 141), (5, 121), (5, 121), (6, 143), (6, 143), (6, 143), (2, 46), (5, 121), (1, 22), (0, 0), (4, 90), (4, 94), (5, 112), (2, 46), (1, 22)],
  [(1, 22), (2, 43), (0, 0), (0, 0), (0, 0), (1, 21), (1, 21), (5, 120), (3, 72), (4, 96), (1, 21), (5, 121), (1, 20), (0, 0), (1, 25), (0, 0)],
  [(0, 0), (0, 0), (1, 25), (1, 23), (0, 0), (2, 47), (0, 0), (1, 25), (3, 70), (3, 70), (1, 25), (1, 25), (2, 46), (0, 0), (1, 23), (2, 47)],
  [(3, 70), (0, 0), (3, 70), (4, 93), (2, 46), (1, 21), (2, 43), (2, 43), (2, 46), (0, 0), (2, 46), (2, 46), (2, 47), (3, 73), (3, 73), (4, 93)],
  [(5, 116), (1, 25), (0, 0), (5, 116), (5, 116), (0, 0), (6, 141), (0, 0), (6, 141), (6, 141), (2, 46), (5, 116), (1, 25), (0, 0), (1, 24), (0, 0)],
  [(2, 47), (2, 47), (2, 47), (1, 25), (1, 25), (1, 25), (1, 21), (0, 0), (0, 0), (0, 0), (7, 167)]]
def iv_rm (mi : Nat) : Nat × Nat := (iv_rms.getD (mi / 16) []).getD (mi % 16) (0, 0)
def iv_nm (mi : Nat) : MethodName := (iv_m mi).1
def iv_cd (mi : Nat) : ByteArray := (iv_m mi).2.1
def iv_rt (mi : Nat) : Option FieldType := (iv_m mi).2.2.2
end
section
/-- an instruction that is no call and no end: the next place, locals, stack, heap -/
def iv_step (L pc : Nat) (e : ivE) (ls st : List ivV) (w : ivS) : Option (Nat × List ivV × List ivV × ivS) :=
  match e.2.1 with
  | .iconst x => some (pc + 1, ls, ivI x :: st, w)
  | .bipush x => some (pc + 2, ls, ivI x :: st, w)
  | .sipush x => some (pc + 3, ls, ivI x :: st, w)
  | .lconst x => some (pc + 1, ls, ivJ (Int.ofNat x.val) :: st, w)
  | .ldc _ => some (pc + 2, ls, ivI e.2.2.2.2.2.1 :: st, w)
  | .ldc_w _ => some (pc + 3, ls, ivI e.2.2.2.2.2.1 :: st, w)
  | .ldc2_w _ => some (pc + 3, ls, ivJ e.2.2.2.2.2.1 :: st, w)
  | .iload_n k => match ls.getD k.val ivU with
    | .inl x => some (pc + 1, ls, ivI x :: st, w)
    | _ => none
  | .iload k => match ls.getD k ivU with
    | .inl x => some (pc + 2, ls, ivI x :: st, w)
    | _ => none
  | .lload_n k => match ls.getD k.val ivU with
    | .inr (.inl x) => some (pc + 1, ls, ivJ x :: st, w)
    | _ => none
  | .lload k => match ls.getD k ivU with
    | .inr (.inl x) => some (pc + 2, ls, ivJ x :: st, w)
    | _ => none
  | .aload_n k => match ls.getD k.val ivU with
    | .inr (.inr (.inl x)) => some (pc + 1, ls, ivR x :: st, w)
    | _ => none
  | .aload k => match ls.getD k ivU with
    | .inr (.inr (.inl x)) => some (pc + 2, ls, ivR x :: st, w)
    | _ => none
  | .istore_n k => match st with
    | .inl x :: st => bif Nat.blt k.val ls.length && iv_free ls k.val then some (pc + 1, ls.set k.val (ivI x), st, w) else none
    | _ => none
  | .istore k => match st with
    | .inl x :: st => bif Nat.blt k ls.length && iv_free ls k then some (pc + 2, ls.set k (ivI x), st, w) else none
    | _ => none
  | .astore_n k => match st with
    | .inr (.inr (.inl x)) :: st => bif Nat.blt k.val ls.length && iv_free ls k.val then some (pc + 1, ls.set k.val (ivR x), st, w) else none
    | _ => none
  | .astore k => match st with
    | .inr (.inr (.inl x)) :: st => bif Nat.blt k ls.length && iv_free ls k then some (pc + 2, ls.set k (ivR x), st, w) else none
    | _ => none
  | .iinc k d => match ls.getD k ivU with
    | .inl x => bif Nat.blt k ls.length && iv_free ls k then some (pc + 3, ls.set k (ivI (iv_wr (x + d))), st, w) else none
    | _ => none
  | .iadd => match st with
    | .inl y :: .inl x :: st => some (pc + 1, ls, ivI (iv_wr (x + y)) :: st, w)
    | _ => none
  | .isub => match st with
    | .inl y :: .inl x :: st => some (pc + 1, ls, ivI (iv_wr (x - y)) :: st, w)
    | _ => none
  | .imul => match st with
    | .inl y :: .inl x :: st => some (pc + 1, ls, ivI (iv_wr (x * y)) :: st, w)
    | _ => none
  | .ineg => match st with
    | .inl x :: st => some (pc + 1, ls, ivI (iv_wr (-x)) :: st, w)
    | _ => none
  | .idiv => match st with
    | .inl y :: .inl x :: st => bif decide (y = 0) then none else some (pc + 1, ls, ivI (iv_div x y) :: st, w)
    | _ => none
  | .irem => match st with
    | .inl y :: .inl x :: st => bif decide (y = 0) then none else some (pc + 1, ls, ivI (iv_rem x y) :: st, w)
    | _ => none
  | .iand => match st with
    | .inl y :: .inl x :: st => some (pc + 1, ls, ivI (iv_and x y) :: st, w)
    | _ => none
  | .ior => match st with
    | .inl y :: .inl x :: st => some (pc + 1, ls, ivI (iv_or x y) :: st, w)
    | _ => none
  | .ixor => match st with
    | .inl y :: .inl x :: st => some (pc + 1, ls, ivI (iv_xor x y) :: st, w)
    | _ => none
  | .ishl => match st with
    | .inl y :: .inl x :: st => some (pc + 1, ls, ivI (iv_shl x y) :: st, w)
    | _ => none
  | .ishr => match st with
    | .inl y :: .inl x :: st => some (pc + 1, ls, ivI (iv_shr x y) :: st, w)
    | _ => none
  | .iushr => match st with
    | .inl y :: .inl x :: st => some (pc + 1, ls, ivI (iv_ushr x y) :: st, w)
    | _ => none
  | .i2l => match st with
    | .inl x :: st => some (pc + 1, ls, ivJ x :: st, w)
    | _ => none
  | .l2i => match st with
    | .inr (.inl x) :: st => some (pc + 1, ls, ivI (iv_wr x) :: st, w)
    | _ => none
  | .land => match st with
    | .inr (.inl y) :: .inr (.inl x) :: st => some (pc + 1, ls, ivJ (iv_land x y) :: st, w)
    | _ => none
  | .lor => match st with
    | .inr (.inl y) :: .inr (.inl x) :: st => some (pc + 1, ls, ivJ (iv_lor x y) :: st, w)
    | _ => none
  | .lshl => match st with
    | .inl y :: .inr (.inl x) :: st => some (pc + 1, ls, ivJ (iv_lshl x y) :: st, w)
    | _ => none
  | .lshr => match st with
    | .inl y :: .inr (.inl x) :: st => some (pc + 1, ls, ivJ (iv_lshr x y) :: st, w)
    | _ => none
  | .lushr => match st with
    | .inl y :: .inr (.inl x) :: st => some (pc + 1, ls, ivJ (iv_lushr x y) :: st, w)
    | _ => none
  | .lcmp => match st with
    | .inr (.inl y) :: .inr (.inl x) :: st => some (pc + 1, ls, ivI (iv_lcmp x y) :: st, w)
    | _ => none
  | .dup => match st with
    | v :: st => bif iv_c1 v then some (pc + 1, ls, v :: v :: st, w) else none
    | _ => none
  | .dup2 => match st with
    | v :: u :: st => bif iv_c1 v && iv_c1 u then some (pc + 1, ls, v :: u :: v :: u :: st, w) else none
    | _ => none
  | .pop => match st with
    | v :: st => bif iv_c1 v then some (pc + 1, ls, st, w) else none
    | _ => none
  | .aconst_null => some (pc + 1, ls, ivR 0 :: st, w)
  | .goto o => some (((pc : Int) + o).toNat, ls, st, w)
  | .if_icmp c o => match st with
    | .inl y :: .inl x :: st => some (bif iv_cmp c x y then ((pc : Int) + o).toNat else pc + 3, ls, st, w)
    | _ => none
  | .ifCond c o => match st with
    | .inl x :: st => some (bif iv_cmp c x 0 then ((pc : Int) + o).toNat else pc + 3, ls, st, w)
    | _ => none
  | .ifnull o => match st with
    | .inr (.inr (.inl x)) :: st => some (bif Nat.beq x 0 then ((pc : Int) + o).toNat else pc + 3, ls, st, w)
    | _ => none
  | .ifnonnull o => match st with
    | .inr (.inr (.inl x)) :: st => some (bif Nat.beq x 0 then pc + 3 else ((pc : Int) + o).toNat, ls, st, w)
    | _ => none
  | .tableswitch d lo hi os => match st with
    | .inl x :: st => some (bif decide (x < lo) || decide (hi < x) then ((pc : Int) + d).toNat else ((pc : Int) + os.toList.getD (x - lo).toNat 0).toNat, ls, st, w)
    | _ => none
  | .lookupswitch d ps => match st with
    | .inl x :: st => some (((pc : Int) + Op.lookupswitch.offset ps.toList d x).toNat, ls, st, w)
    | _ => none
  | .getfield _ => match st with
    | .inr (.inr (.inl x)) :: st => bif Nat.beq (iv_lay L x).1 0 && Nat.beq (iv_lay L x).2.1 e.2.2.2.1 && Nat.ble x w.1 then some (pc + 3, ls, (bif Nat.ble 2 (iv_fty e.2.2.2.1 e.2.2.2.2.1) then ivR (w.2.2 x e.2.2.2.2.1) else ivI (w.2.1 x e.2.2.2.2.1)) :: st, w) else none
    | _ => none
  | .putfield _ => match st with
    | .inl v :: .inr (.inr (.inl x)) :: st => bif Nat.beq (iv_lay L x).1 0 && Nat.beq (iv_lay L x).2.1 e.2.2.2.1 && Nat.ble x w.1 && (Nat.beq (iv_fty e.2.2.2.1 e.2.2.2.2.1) 0 || Nat.beq (iv_fty e.2.2.2.1 e.2.2.2.2.1) 1 && (decide (v = 0) || decide (v = 1))) then some (pc + 3, ls, st, w.1, iv_upd w.2.1 x e.2.2.2.2.1 v, w.2.2) else none
    | .inr (.inr (.inl y)) :: .inr (.inr (.inl x)) :: st => bif Nat.beq (iv_lay L x).1 0 && Nat.beq (iv_lay L x).2.1 e.2.2.2.1 && Nat.ble x w.1 && Nat.ble 2 (iv_fty e.2.2.2.1 e.2.2.2.2.1) then some (pc + 3, ls, st, w.1, w.2.1, iv_updR w.2.2 x e.2.2.2.2.1 y) else none
    | _ => none
  | .iaload => match st with
    | .inl i :: .inr (.inr (.inl x)) :: st => bif Nat.beq (iv_lay L x).1 1 && Nat.beq (iv_lay L x).2.1 0 && Nat.ble x w.1 && (decide (0 ≤ i) && decide (i < (iv_lay L x).2.2)) then some (pc + 1, ls, ivI (w.2.1 x i.toNat) :: st, w) else none
    | _ => none
  | .baload => match st with
    | .inl i :: .inr (.inr (.inl x)) :: st => bif Nat.beq (iv_lay L x).1 1 && Nat.beq (iv_lay L x).2.1 1 && Nat.ble x w.1 && (decide (0 ≤ i) && decide (i < (iv_lay L x).2.2)) then some (pc + 1, ls, ivI (w.2.1 x i.toNat) :: st, w) else none
    | _ => none
  | .aaload => match st with
    | .inl i :: .inr (.inr (.inl x)) :: st => bif Nat.beq (iv_lay L x).1 1 && Nat.ble 2 (iv_lay L x).2.1 && Nat.ble x w.1 && (decide (0 ≤ i) && decide (i < (iv_lay L x).2.2)) then some (pc + 1, ls, ivR (w.2.2 x i.toNat) :: st, w) else none
    | _ => none
  | .iastore => match st with
    | .inl v :: .inl i :: .inr (.inr (.inl x)) :: st => bif Nat.ble 2 x && Nat.beq (iv_lay L x).1 1 && Nat.beq (iv_lay L x).2.1 0 && Nat.ble x w.1 && (decide (0 ≤ i) && decide (i < (iv_lay L x).2.2)) then some (pc + 1, ls, st, w.1, iv_upd w.2.1 x i.toNat v, w.2.2) else none
    | _ => none
  | .bastore => match st with
    | .inl v :: .inl i :: .inr (.inr (.inl x)) :: st => bif Nat.ble 2 x && Nat.beq (iv_lay L x).1 1 && Nat.beq (iv_lay L x).2.1 1 && Nat.ble x w.1 && (decide (0 ≤ i) && decide (i < (iv_lay L x).2.2)) then some (pc + 1, ls, st, w.1, iv_upd w.2.1 x i.toNat (v % 2), w.2.2) else none
    | _ => none
  | .aastore => match st with
    | .inr (.inr (.inl y)) :: .inl i :: .inr (.inr (.inl x)) :: st => bif Nat.ble 2 x && Nat.beq (iv_lay L x).1 1 && (Nat.beq (iv_lay L x).2.1 2 || Nat.beq (iv_lay L x).2.1 3) && Nat.ble x w.1 && (decide (0 ≤ i) && decide (i < (iv_lay L x).2.2)) && (Nat.beq (iv_lay L y).1 0 && Nat.beq (iv_lay L y).2.1 (iv_lay L x).2.1 && Nat.ble y w.1) then some (pc + 1, ls, st, w.1, w.2.1, iv_updR w.2.2 x i.toNat y) else none
    | _ => none
  | .arraylength => match st with
    | .inr (.inr (.inl x)) :: st => bif Nat.beq (iv_lay L x).1 1 && Nat.beq (iv_lay L x).2.1 0 && Nat.ble x w.1 then some (pc + 1, ls, ivI (Int.ofNat (iv_lay L x).2.2) :: st, w) else none
    | _ => none
  | .new _ => bif Nat.beq (iv_lay L (w.1 + 1)).1 0 && Nat.beq (iv_lay L (w.1 + 1)).2.1 e.2.2.2.1 then some (pc + 3, ls, ivR (w.1 + 1) :: st, w.1 + 1, iv_zer w.2.1 (w.1 + 1) (w.1 + 1), iv_zerR w.2.2 (w.1 + 1) (w.1 + 1)) else none
  | .newarray _ => match st with
    | .inl x :: st => bif Nat.beq (iv_lay L (w.1 + 1)).1 1 && Nat.beq (iv_lay L (w.1 + 1)).2.1 e.2.2.2.1 && decide (x = (iv_lay L (w.1 + 1)).2.2) then some (pc + 2, ls, ivR (w.1 + 1) :: st, w.1 + 1, iv_zer w.2.1 (w.1 + 1) (w.1 + 1), iv_zerR w.2.2 (w.1 + 1) (w.1 + 1)) else none
    | _ => none
  | .anewarray _ => match st with
    | .inl x :: st => bif Nat.beq (iv_lay L (w.1 + 1)).1 1 && Nat.beq (iv_lay L (w.1 + 1)).2.1 e.2.2.2.1 && decide (x = (iv_lay L (w.1 + 1)).2.2) then some (pc + 3, ls, ivR (w.1 + 1) :: st, w.1 + 1, iv_zer w.2.1 (w.1 + 1) (w.1 + 1), iv_zerR w.2.2 (w.1 + 1) (w.1 + 1)) else none
    | _ => none
  | .multianewarray _ _ => match st with
    | .inl y :: .inl x :: st => bif decide (x = 6) && decide (y = 6) && iv_six L w.1 then some (pc + 4, ls, ivR (w.1 + 1) :: st, w.1 + 7, iv_zer w.2.1 (w.1 + 1) (w.1 + 7), iv_row (iv_zerR w.2.2 (w.1 + 1) (w.1 + 7)) (w.1 + 1) 6) else none
    | _ => none
  | _ => none
def iv_wide (st : List ivV) : Nat := match st with
  | [] => 0
  | v :: st => (bif iv_lg v then 2 else 1) + iv_wide st
def iv_ent (n : Nat) (as : List ivV) : List ivV := let f := as.flatMap (fun v => bif iv_lg v then [v, ivU] else [v]); f ++ List.replicate (n - f.length) ivU
/-- the first of a call's values is an object of the class number ci -/
def iv_obj (L n ci : Nat) (as : List ivV) : Bool := match as with
  | .inr (.inr (.inl x)) :: _ => Nat.beq (iv_lay L x).1 0 && Nat.beq (iv_lay L x).2.1 ci && Nat.ble x n
  | _ => false
def iv_run (L : Nat) : Nat → Nat → Nat → List ivV → List ivV → ivS → Option (Option ivV × ivS)
  | 0, _, _, _, _, _ => none
  | f + 1, mi, pc, ls, st, w =>
    match iv_ins mi pc with
    | none => none
    | some e =>
      match iv_step L pc e ls st w with
      | some g => iv_run L f mi g.1 g.2.1 g.2.2.1 g.2.2.2
      | none =>
        match e.2.1 with
        | .ireturn => match st with
          | [.inl x] => bif iv_zb mi then (bif decide (x = 0) || decide (x = 1) then some (some (ivI x), w) else none) else some (some (ivI x), w)
          | _ => none
        | .areturn => match st with
          | [.inr (.inr (.inl x))] => some (some (ivR x), w)
          | _ => none
        | .return_ => match st with
          | [] => some (none, w)
          | _ => none
        | .invokevirtual _ =>
          bif Nat.ble e.2.2.2.2.1 st.length && Nat.ble (iv_wide (st.drop e.2.2.2.2.1)) 8 && iv_obj L w.1 (iv_own e.2.2.2.1) (st.take e.2.2.2.2.1).reverse then
            match iv_run L f e.2.2.2.1 0 (iv_ent (iv_ml e.2.2.2.1) (st.take e.2.2.2.2.1).reverse) [] w with
            | some r => iv_run L f mi (pc + 3) ls (r.1.toList ++ st.drop e.2.2.2.2.1) r.2
            | none => none
          else none
        | .invokestatic _ =>
          bif Nat.ble e.2.2.2.2.1 st.length && Nat.ble (iv_wide (st.drop e.2.2.2.2.1)) 8 then
            match iv_run L f e.2.2.2.1 0 (iv_ent (iv_ml e.2.2.2.1) (st.take e.2.2.2.2.1).reverse) [] w with
            | some r => iv_run L f mi (pc + 3) ls (r.1.toList ++ st.drop e.2.2.2.2.1) r.2
            | none => none
          else none
        | .invokespecial _ =>
          bif Nat.ble 1000 e.2.2.2.1 then
            match st with
            | .inr (.inr (.inl x)) :: st => bif Nat.ble 2 x && Nat.ble (iv_wide st) 8 then iv_run L f mi (pc + 3) ls st w else none
            | _ => none
          else bif Nat.ble e.2.2.2.2.1 st.length && Nat.ble (iv_wide (st.drop e.2.2.2.2.1)) 8 && iv_obj L w.1 (iv_own e.2.2.2.1) (st.take e.2.2.2.2.1).reverse then
            match iv_run L f e.2.2.2.1 0 (iv_ent (iv_ml e.2.2.2.1) (st.take e.2.2.2.2.1).reverse) [] w with
            | some r => iv_run L f mi (pc + 3) ls (r.1.toList ++ st.drop e.2.2.2.2.1) r.2
            | none => none
          else none
        | _ => none
/-- from here the method ends, with this answer and this heap -/
def iv_Ret (L mi pc : Nat) (ls st : List ivV) (w : ivS) (r : Option ivV) (w' : ivS) : Prop := ∃ f, iv_run L f mi pc ls st w = some (r, w')
end
section
/-! SOUNDNESS: numbers -/
def iv_in (x : Int) : Prop := -2147483648 ≤ x ∧ x ≤ 2147483647
def iv_il (x : Int) : Prop := -9223372036854775808 ≤ x ∧ x ≤ 9223372036854775807
theorem iv_in32 (v : Int32) : iv_in v.toInt := ⟨by have := Int32.le_toInt v; omega, by have := Int32.toInt_lt v; omega⟩
theorem iv_in64 (v : Int64) : iv_il v.toInt := ⟨by have := Int64.le_toInt v; omega, by have := Int64.toInt_lt v; omega⟩
theorem iv_of32 {x : Int} (h : iv_in x) : (Int32.ofInt x).toInt = x := Int32.toInt_ofInt_of_le (by have := h.1; omega) (by have := h.2; omega)
theorem iv_of64 {x : Int} (h : iv_il x) : (Int64.ofInt x).toInt = x := Int64.toInt_ofInt_of_le (by have := h.1; omega) (by have := h.2; omega)
theorem iv_back32 (v : Int32) : Int32.ofInt v.toInt = v := Int32.ofInt_toInt v
theorem iv_back64 (v : Int64) : Int64.ofInt v.toInt = v := Int64.ofInt_toInt v
theorem iv_eq32 {x y : Int} (hx : iv_in x) (hy : iv_in y) : Int32.ofInt x = Int32.ofInt y ↔ x = y := ⟨fun h => by rw [← iv_of32 hx, ← iv_of32 hy, h], fun h => by rw [h]⟩
theorem iv_lt32 {x y : Int} (hx : iv_in x) (hy : iv_in y) : Int32.ofInt x < Int32.ofInt y ↔ x < y := by rw [Int32.lt_iff_toInt_lt, iv_of32 hx, iv_of32 hy]
theorem iv_le32 {x y : Int} (hx : iv_in x) (hy : iv_in y) : Int32.ofInt x ≤ Int32.ofInt y ↔ x ≤ y := by rw [Int32.le_iff_toInt_le, iv_of32 hx, iv_of32 hy]
theorem iv_in0 : iv_in 0 := by unfold iv_in; omega
theorem iv_zero32 : Int32.ofInt 0 = 0 := rfl
theorem iv_idx {i : Int} {n : Nat} (hi : iv_in i) (h0 : 0 ≤ i) (h1 : i < n) : vp_in (Int32.ofInt i) n ∧ (Int32.ofInt i).toNatClampNeg = i.toNat := by
  have e : (Int32.ofInt i).toNatClampNeg = i.toNat := by show (Int32.ofInt i).toInt.toNat = i.toNat; rw [iv_of32 hi]
  refine ⟨?_, e⟩
  rintro (h | h)
  · rw [← iv_zero32, iv_lt32 hi iv_in0] at h
    omega
  · rw [e] at h
    omega
theorem iv_and1 {v : Int} (hv : iv_in v) : Int32.ofInt v &&& 1 = Int32.ofInt (v % 2) ∧ iv_in (v % 2) := by
  refine ⟨?_, by unfold iv_in; omega⟩
  apply Int32.toInt_inj.mp
  have h2 : iv_in (v % 2) := by unfold iv_in; omega
  rw [iv_of32 h2, ← Int32.toInt_toBitVec, Int32.toBitVec_and]
  have e1 : (1 : Int32).toBitVec = 1#32 := rfl
  rw [e1]
  have e2 : ((Int32.ofInt v).toBitVec &&& 1#32).toInt = ((Int32.ofInt v).toBitVec.toNat % 2 : Nat) := by
    rw [BitVec.toInt_eq_toNat_of_lt]
    · rw [BitVec.toNat_and]
      simp [Nat.and_one_is_mod]
    · rw [BitVec.toNat_and]
      simp [Nat.and_one_is_mod]
      omega
  rw [e2]
  have e3 : ((Int32.ofInt v).toBitVec.toNat : Int) = v % 4294967296 := by
    have h := iv_of32 hv
    rw [← Int32.toInt_toBitVec, BitVec.toInt_eq_toNat_cond] at h
    have hlt := (Int32.ofInt v).toBitVec.isLt
    split at h <;> omega
  omega
theorem iv_narB {v : Int} (hv : iv_in v) : vp_nar .boolean (Int32.ofInt v) = Int32.ofInt (v % 2) := by
  show Int32.ofInt v &&& 1 = _
  exact (iv_and1 hv).1
theorem iv_bool {v : Int} (h : v = 0 ∨ v = 1) : narrow .boolean (.int (Int32.ofInt v)) = .int (Int32.ofInt v) ∧ fits .boolean (.int (Int32.ofInt v)) = true := by rcases h with rfl | rfl <;> exact ⟨rfl, rfl⟩
theorem iv_wr_of (x : Int) : Int32.ofInt (iv_wr x) = Int32.ofInt x := iv_back32 _
theorem iv_i2l {x : Int} (h : iv_in x) : (Int32.ofInt x).toInt64 = Int64.ofInt x := Int32.toInt64_ofInt (by have := h.1; show -2147483648 ≤ x; omega) (by have := h.2; show x ≤ 2147483647; omega)
theorem iv_in_il {x : Int} (h : iv_in x) : iv_il x := by unfold iv_in at h; unfold iv_il; omega
theorem iv_l2i (x : Int) : (Int64.ofInt x).toInt32 = Int32.ofInt x := Int64.toInt32_ofInt
theorem iv_lcmp_of {x y : Int} (hx : iv_il x) (hy : iv_il y) : lg_cmp (Int64.ofInt x) (Int64.ofInt y) = Int32.ofInt (iv_lcmp x y) ∧ iv_in (iv_lcmp x y) := by
  have h1 : (Int64.ofInt x > Int64.ofInt y) ↔ y < x := by show Int64.ofInt y < Int64.ofInt x ↔ _; rw [Int64.lt_iff_toInt_lt, iv_of64 hx, iv_of64 hy]
  have h2 : Int64.ofInt x = Int64.ofInt y ↔ x = y := ⟨fun h => by rw [← iv_of64 hx, ← iv_of64 hy, h], fun h => by rw [h]⟩
  unfold lg_cmp iv_lcmp
  simp only [h1, h2]
  split
  · exact ⟨rfl, by unfold iv_in; omega⟩
  · split
    · exact ⟨rfl, by unfold iv_in; omega⟩
    · exact ⟨rfl, by unfold iv_in; omega⟩
/-! values, cells, heaps -/
def iv_ad (b B0 x : Nat) : Nat := if x = 1 then b else B0 + (x - 2)
def iv_rv (b B0 x : Nat) : Value := if x = 0 then .null else .ref (iv_ad b B0 x)
def iv_cv (b B0 : Nat) (v : ivV) : Value := match v with
  | .inl x => .int (Int32.ofInt x)
  | .inr (.inl x) => .long (Int64.ofInt x)
  | .inr (.inr (.inl x)) => iv_rv b B0 x
  | .inr (.inr (.inr _)) => .null
def iv_ok (n : Nat) (v : ivV) : Prop := match v with
  | .inl x => iv_in x
  | .inr (.inl x) => iv_il x
  | .inr (.inr (.inl x)) => x ≤ n
  | .inr (.inr (.inr _)) => True
def iv_slot (b B0 ty : Nat) (w : ivS) (x k : Nat) : Value := bif Nat.ble 2 ty then iv_rv b B0 (w.2.2 x k) else .int (Int32.ofInt (w.2.1 x k))
def iv_cell (D : va_G) (dA : Nat → ClassId) (L b B0 : Nat) (w : ivS) (H : Heap) (x : Nat) : Prop :=
  ((iv_lay L x).1 = 0 → t_OB (iv_ad b B0 x) (D.1 (iv_lay L x).2.1) (iv_lay L x).2.2 (D.2 (iv_lay L x).2.1) H (fun k => iv_slot b B0 (iv_fty (iv_lay L x).2.1 k) w x k)) ∧
  ((iv_lay L x).1 = 1 → H[iv_ad b B0 x]? = some (arrV (dA (iv_lay L x).2.1) (iv_lay L x).2.2 (fun k => iv_slot b B0 (iv_lay L x).2.1 w x k)))
abbrev iv_tys (dA : Nat → ClassId) : List (ClassId × FieldType) := [(dA 0, .int), (dA 1, .boolean), (dA 2, .object "OnlyNamed$Memory"), (dA 3, .object "OnlyNamed$Ruler"), (dA 4, .array .int)]
def iv_HR (D : va_G) (dA : Nat → ClassId) (L b B0 : Nat) (U : State) (H : Heap) (w : ivS) : Prop :=
  1 ≤ w.1 ∧ H.size = B0 + (w.1 - 1) ∧ b < B0 ∧ va_X b L (fun k => Int32.ofInt (w.2.1 1 k)) U H ∧ (∀ x, 2 ≤ x → x ≤ w.1 → iv_cell D dA L b B0 w H x) ∧ (∀ x k, iv_in (w.2.1 x k)) ∧ (∀ x k, w.2.2 x k ≤ w.1) ∧ va_K D vwCl (iv_tys dA) U
def iv_lr (b B0 : Nat) (la : Array Slot) (nL : Nat) (ls : List ivV) : Prop := ls.length = nL ∧ la.size = nL ∧ lv_wf la ∧ ∀ (i : Nat) (v : ivV), ls[i]? = some v → v ≠ ivU → la[i]? = some (.val (iv_cv b B0 v))
/-- the words -/
def iv_TB : List Jvm.Cond := lw_tbl.filter goodWord
def iv_ws (mi : Nat) : List Jvm.Cond := .code (iv_nm mi) (iv_cd mi) (iv_ml mi) (iv_rt mi) :: iv_TB
def iv_nest (w : Jvm.Cond) : Bool := match w with
  | .methodLinkNest _ _ _ _ => true
  | _ => false
def iv_AOA (U : State) : Prop := (Jvm.Cond.arrayOver (.array .int)).before #[] U = true
theorem iv_AOA.moved {u U : State} (hvm : u.vm.Alike U.vm) (h : iv_AOA u) : iv_AOA U := by
  obtain ⟨comp, c, k, h1, h2, h3, h4, h5⟩ := arrayOverA_spec h
  obtain ⟨k', hk', he⟩ := hvm.2.2 _ _ h3
  have hi : (U.vm.classes.findIdx? fun (x : Class) => match x.kind with | .array component _ => component == comp | _ => false) = some c := by
    have e3 : U.vm.bare = u.vm.bare := by first | exact hvm.bare_eq | exact hvm.bare_eq.symm
    refine (va_idx_bare U.vm comp).symm.trans ?_
    rw [e3]
    exact (va_idx_bare u.vm comp).trans h2
  have hkind : k'.kind = .array comp (.array .int) := by rw [he]; exact h4
  have f1 : U.vm.findClass (FieldType.array .int).toString = some comp := by rw [hvm.findClass]; exact h1
  have f2 : U.vm.findClass ("[" ++ (FieldType.array .int).toString) = some c := by rw [hvm.findClass]; exact h5
  unfold iv_AOA Jvm.Cond.before Jvm.Cond.holds
  simp only [Jvm.Cond.value]
  rw [f1, Option.bind_some]
  refine (congrArg (fun o : Option Nat => (o.bind (fun c => (U.vm.classes[c]?).map fun (k : Class) => match k.kind with | .array _ ty => decide (ty = FieldType.array .int) && decide (U.vm.findClass ("[" ++ (FieldType.array .int).toString) = some c) | _ => false) == some true)) hi).trans ?_
  simp [hk', hkind, f2]
/-- what of the tables isn't kept by a good word -/
def iv_T (U : State) : Prop := (∀ w ∈ lw_tbl, iv_nest w = true → va_Nw w U) ∧ va_AO "OnlyNamed$Memory" U ∧ va_AO "OnlyNamed$Ruler" U ∧ iv_AOA U
theorem iv_T.warm {s U : State} (hW : s.WarmedH U.vm) (h : iv_T s) : iv_T U := by
  refine ⟨fun w hw hn => ?_, va_AO.moved hW.alike h.2.1, va_AO.moved hW.alike h.2.2.1, iv_AOA.moved hW.alike h.2.2.2⟩
  have h1 := h.1 w hw hn
  cases w <;> first | exact va_Nw.warmM hW h1 | cases hn
theorem iv_T.same {u U : State} (e : u.vm = U.vm) (h : iv_T u) : iv_T U := by
  have hA : u.vm.Alike U.vm := by rw [e]; exact Vm.Alike.refl _
  refine ⟨fun w hw hn => ?_, va_AO.moved hA h.2.1, va_AO.moved hA h.2.2.1, iv_AOA.moved hA h.2.2.2⟩
  have h1 := h.1 w hw hn
  cases w <;> first | exact va_Nw.same rfl e h1 | cases hn
theorem iv_HR.moved {D : va_G} {dA : Nat → ClassId} {L b B0 : Nat} {u U : State} {H : Heap} {w : ivS} (hvm : u.vm.Alike U.vm) (h : iv_HR D dA L b B0 u H w) : iv_HR D dA L b B0 U H w :=
  ⟨h.1, h.2.1, h.2.2.1, va_X.moved hvm h.2.2.2.1, h.2.2.2.2.1, h.2.2.2.2.2.1, h.2.2.2.2.2.2.1, va_K.moved hvm h.2.2.2.2.2.2.2⟩
theorem iv_rv_ne {b B0 x : Nat} (h : x ≠ 0) : iv_rv b B0 x = .ref (iv_ad b B0 x) := if_neg h
theorem iv_ad_inj {b B0 x y : Nat} (hb : b < B0) (hx : 1 ≤ x) (hy : 1 ≤ y) (h : iv_ad b B0 x = iv_ad b B0 y) : x = y := by
  unfold iv_ad at h
  split at h <;> split at h <;> omega
theorem iv_cat (b B0 : Nat) (v : ivV) : (iv_cv b B0 v).category = (bif iv_lg v then 2 else 1) := by
  rcases v with x | x | x | x
  · rfl
  · rfl
  · show (iv_rv b B0 x).category = 1
    unfold iv_rv; split <;> rfl
  · rfl
theorem iv_wide_eq (b B0 : Nat) (st : List ivV) : ((st.map (iv_cv b B0)).map fun v => v.category).sum = iv_wide st := by
  induction st with
  | nil => rfl
  | cons v st ih => simp only [List.map_cons, List.sum_cons, ih, iv_wide, iv_cat]
theorem iv_c1_cat {b B0 : Nat} {v : ivV} (h : iv_c1 v = true) : (iv_cv b B0 v).category = 1 := by
  rw [iv_cat]
  rcases v with x | x | x | x <;> first | rfl | cases h
/-- a heap in which one cell is changed -/
theorem iv_HR.set {D : va_G} {dA : Nat → ClassId} {L b B0 : Nat} {U : State} {H H1 : Heap} {w w1 : ivS} {x : Nat} (h : iv_HR D dA L b B0 U H w) (hx : 2 ≤ x) (hn : w1.1 = w.1) (hz : H1.size = H.size)
    (hH : ∀ q, q ≠ iv_ad b B0 x → H1[q]? = H[q]?) (hc : iv_cell D dA L b B0 w1 H1 x) (hm : ∀ y, y ≠ x → ∀ k, w1.2.1 y k = w.2.1 y k ∧ w1.2.2 y k = w.2.2 y k) (hi : ∀ y k, iv_in (w1.2.1 y k)) (hr : ∀ y k, w1.2.2 y k ≤ w1.1) : iv_HR D dA L b B0 U H1 w1 := by
  obtain ⟨h1, h2, h3, h4, h5, h6, h7, h8⟩ := h
  refine ⟨by rw [hn]; exact h1, by rw [hz, hn]; exact h2, h3, ?_, fun y y2 yn => ?_, hi, hr, h8⟩
  · have e : (fun k => Int32.ofInt (w1.2.1 1 k)) = fun k => Int32.ofInt (w.2.1 1 k) := funext fun k => by rw [(hm 1 (by omega) k).1]
    rw [e]
    refine h4.kept (hH _ fun q => ?_)
    unfold iv_ad at q
    split at q <;> omega
  · by_cases e : y = x
    · rw [e]; exact hc
    · have hq : H1[iv_ad b B0 y]? = H[iv_ad b B0 y]? := hH _ fun q => e (iv_ad_inj h3 (by omega) (by omega) q)
      obtain ⟨c1, c2⟩ := h5 y y2 (by rw [← hn]; exact yn)
      have es : ∀ ty k, iv_slot b B0 ty w1 y k = iv_slot b B0 ty w y k := fun ty k => by unfold iv_slot; rw [(hm y e k).1, (hm y e k).2]
      refine ⟨fun q => ?_, fun q => ?_⟩
      · exact ((c1 q).kept hq).to fun k _ => (es _ k).symm
      · rw [hq, c2 q]
        simp only [es]
end
