section
-- ===== PART A: goes FIRST, ahead of the names: the tables' words, and 'selects' of the private methods out of them =====
/-- a private method of a class that the tables say can be made, by its rows of tables_1 -/
def lw_okq (q : MethodName × Nat) : Prop := (q.1.cls ≠ "java/lang/invoke/MethodHandle" ∧ q.1.cls ≠ "java/lang/invoke/VarHandle") ∧ Cond.instantiable q.1.cls q.2 ∈ tables_1 ∧ Cond.privateMethod q.1 ∈ tables_1 ∧ Cond.instanceMethod q.1 ∈ tables_1
theorem lw_p0 : lw_okq (⟨"OnlyNamed$Telling", "take", "(I)Z"⟩, 11) := ⟨⟨by decide +kernel, by decide +kernel⟩, List.mem_of_getElem? (i := 39) (by decide +kernel), List.mem_of_getElem? (i := 273) (by decide +kernel), List.mem_of_getElem? (i := 274) (by decide +kernel)⟩
theorem lw_p1 : lw_okq (⟨"OnlyNamed$Telling", "takeH", "(I)Z"⟩, 11) := ⟨⟨by decide +kernel, by decide +kernel⟩, List.mem_of_getElem? (i := 39) (by decide +kernel), List.mem_of_getElem? (i := 277) (by decide +kernel), List.mem_of_getElem? (i := 278) (by decide +kernel)⟩
theorem lw_p2 : lw_okq (⟨"OnlyNamed$Telling", "takeR", "(I)Z"⟩, 11) := ⟨⟨by decide +kernel, by decide +kernel⟩, List.mem_of_getElem? (i := 39) (by decide +kernel), List.mem_of_getElem? (i := 281) (by decide +kernel), List.mem_of_getElem? (i := 282) (by decide +kernel)⟩
theorem lw_p3 : lw_okq (⟨"OnlyNamed$Telling", "takeSound", "(I)Z"⟩, 11) := ⟨⟨by decide +kernel, by decide +kernel⟩, List.mem_of_getElem? (i := 39) (by decide +kernel), List.mem_of_getElem? (i := 285) (by decide +kernel), List.mem_of_getElem? (i := 286) (by decide +kernel)⟩
theorem lw_p4 : lw_okq (⟨"OnlyNamed$Telling", "endName", "()Z"⟩, 11) := ⟨⟨by decide +kernel, by decide +kernel⟩, List.mem_of_getElem? (i := 39) (by decide +kernel), List.mem_of_getElem? (i := 289) (by decide +kernel), List.mem_of_getElem? (i := 290) (by decide +kernel)⟩
theorem lw_p5 : lw_okq (⟨"OnlyNamed$Telling", "isTold", "(I)Z"⟩, 11) := ⟨⟨by decide +kernel, by decide +kernel⟩, List.mem_of_getElem? (i := 39) (by decide +kernel), List.mem_of_getElem? (i := 293) (by decide +kernel), List.mem_of_getElem? (i := 294) (by decide +kernel)⟩
theorem lw_p6 : lw_okq (⟨"OnlyNamed$Telling", "takePart", "(I)Z"⟩, 11) := ⟨⟨by decide +kernel, by decide +kernel⟩, List.mem_of_getElem? (i := 39) (by decide +kernel), List.mem_of_getElem? (i := 297) (by decide +kernel), List.mem_of_getElem? (i := 298) (by decide +kernel)⟩
theorem lw_p7 : lw_okq (⟨"OnlyNamed$Telling", "takeBear", "(I)Z"⟩, 11) := ⟨⟨by decide +kernel, by decide +kernel⟩, List.mem_of_getElem? (i := 39) (by decide +kernel), List.mem_of_getElem? (i := 304) (by decide +kernel), List.mem_of_getElem? (i := 305) (by decide +kernel)⟩
theorem lw_p8 : lw_okq (⟨"OnlyNamed$Telling", "takeKnower", "(I)Z"⟩, 11) := ⟨⟨by decide +kernel, by decide +kernel⟩, List.mem_of_getElem? (i := 39) (by decide +kernel), List.mem_of_getElem? (i := 308) (by decide +kernel), List.mem_of_getElem? (i := 309) (by decide +kernel)⟩
theorem lw_p9 : lw_okq (⟨"OnlyNamed$Telling", "canLearn", "(I)Z"⟩, 11) := ⟨⟨by decide +kernel, by decide +kernel⟩, List.mem_of_getElem? (i := 39) (by decide +kernel), List.mem_of_getElem? (i := 312) (by decide +kernel), List.mem_of_getElem? (i := 313) (by decide +kernel)⟩
theorem lw_p10 : lw_okq (⟨"OnlyNamed$Telling", "takeKnown", "(I)Z"⟩, 11) := ⟨⟨by decide +kernel, by decide +kernel⟩, List.mem_of_getElem? (i := 39) (by decide +kernel), List.mem_of_getElem? (i := 319) (by decide +kernel), List.mem_of_getElem? (i := 320) (by decide +kernel)⟩
theorem lw_p11 : lw_okq (⟨"OnlyNamed", "slotAt", "(I)LOnlyNamed$Memory;"⟩, 9) := ⟨⟨by decide +kernel, by decide +kernel⟩, List.mem_of_getElem? (i := 15) (by decide +kernel), List.mem_of_getElem? (i := 335) (by decide +kernel), List.mem_of_getElem? (i := 336) (by decide +kernel)⟩
theorem lw_p12 : lw_okq (⟨"OnlyNamed", "nearTo", "(II)I"⟩, 9) := ⟨⟨by decide +kernel, by decide +kernel⟩, List.mem_of_getElem? (i := 15) (by decide +kernel), List.mem_of_getElem? (i := 386) (by decide +kernel), List.mem_of_getElem? (i := 387) (by decide +kernel)⟩
theorem lw_p13 : lw_okq (⟨"OnlyNamed", "freshName", "()I"⟩, 9) := ⟨⟨by decide +kernel, by decide +kernel⟩, List.mem_of_getElem? (i := 15) (by decide +kernel), List.mem_of_getElem? (i := 433) (by decide +kernel), List.mem_of_getElem? (i := 434) (by decide +kernel)⟩
theorem lw_p14 : lw_okq (⟨"OnlyNamed$Search", "rulerAt", "(I)LOnlyNamed$Ruler;"⟩, 3) := ⟨⟨by decide +kernel, by decide +kernel⟩, List.mem_of_getElem? (i := 154) (by decide +kernel), List.mem_of_getElem? (i := 445) (by decide +kernel), List.mem_of_getElem? (i := 446) (by decide +kernel)⟩
theorem lw_p15 : lw_okq (⟨"OnlyNamed$Search", "find", "(II)Z"⟩, 3) := ⟨⟨by decide +kernel, by decide +kernel⟩, List.mem_of_getElem? (i := 154) (by decide +kernel), List.mem_of_getElem? (i := 454) (by decide +kernel), List.mem_of_getElem? (i := 455) (by decide +kernel)⟩
def lw_privs_1 : List (MethodName × Nat) := [(⟨"OnlyNamed$Telling", "take", "(I)Z"⟩, 11), (⟨"OnlyNamed$Telling", "takeH", "(I)Z"⟩, 11), (⟨"OnlyNamed$Telling", "takeR", "(I)Z"⟩, 11), (⟨"OnlyNamed$Telling", "takeSound", "(I)Z"⟩, 11), (⟨"OnlyNamed$Telling", "endName", "()Z"⟩, 11), (⟨"OnlyNamed$Telling", "isTold", "(I)Z"⟩, 11), (⟨"OnlyNamed$Telling", "takePart", "(I)Z"⟩, 11), (⟨"OnlyNamed$Telling", "takeBear", "(I)Z"⟩, 11), (⟨"OnlyNamed$Telling", "takeKnower", "(I)Z"⟩, 11), (⟨"OnlyNamed$Telling", "canLearn", "(I)Z"⟩, 11), (⟨"OnlyNamed$Telling", "takeKnown", "(I)Z"⟩, 11), (⟨"OnlyNamed", "slotAt", "(I)LOnlyNamed$Memory;"⟩, 9), (⟨"OnlyNamed", "nearTo", "(II)I"⟩, 9), (⟨"OnlyNamed", "freshName", "()I"⟩, 9), (⟨"OnlyNamed$Search", "rulerAt", "(I)LOnlyNamed$Ruler;"⟩, 3), (⟨"OnlyNamed$Search", "find", "(II)Z"⟩, 3)]
theorem lw_r1 : ∀ q ∈ lw_privs_1, lw_okq q := List.forall_mem_cons.mpr ⟨lw_p0, List.forall_mem_cons.mpr ⟨lw_p1, List.forall_mem_cons.mpr ⟨lw_p2, List.forall_mem_cons.mpr ⟨lw_p3, List.forall_mem_cons.mpr ⟨lw_p4, List.forall_mem_cons.mpr ⟨lw_p5, List.forall_mem_cons.mpr ⟨lw_p6, List.forall_mem_cons.mpr ⟨lw_p7, List.forall_mem_cons.mpr ⟨lw_p8, List.forall_mem_cons.mpr ⟨lw_p9, List.forall_mem_cons.mpr ⟨lw_p10, List.forall_mem_cons.mpr ⟨lw_p11, List.forall_mem_cons.mpr ⟨lw_p12, List.forall_mem_cons.mpr ⟨lw_p13, List.forall_mem_cons.mpr ⟨lw_p14, List.forall_mem_cons.mpr ⟨lw_p15, fun _ h => absurd h List.not_mem_nil⟩⟩⟩⟩⟩⟩⟩⟩⟩⟩⟩⟩⟩⟩⟩⟩
theorem lw_p16 : lw_okq (⟨"OnlyNamed$Search", "isHopeless", "(II)Z"⟩, 3) := ⟨⟨by decide +kernel, by decide +kernel⟩, List.mem_of_getElem? (i := 154) (by decide +kernel), List.mem_of_getElem? (i := 458) (by decide +kernel), List.mem_of_getElem? (i := 459) (by decide +kernel)⟩
theorem lw_p17 : lw_okq (⟨"OnlyNamed$Search", "isTooNear", "(IIII)Z"⟩, 3) := ⟨⟨by decide +kernel, by decide +kernel⟩, List.mem_of_getElem? (i := 154) (by decide +kernel), List.mem_of_getElem? (i := 470) (by decide +kernel), List.mem_of_getElem? (i := 471) (by decide +kernel)⟩
theorem lw_p18 : lw_okq (⟨"OnlyNamed$Search", "found", "(I)I"⟩, 3) := ⟨⟨by decide +kernel, by decide +kernel⟩, List.mem_of_getElem? (i := 154) (by decide +kernel), List.mem_of_getElem? (i := 475) (by decide +kernel), List.mem_of_getElem? (i := 476) (by decide +kernel)⟩
theorem lw_p19 : lw_okq (⟨"OnlyNamed", "clearOnes", "()I"⟩, 9) := ⟨⟨by decide +kernel, by decide +kernel⟩, List.mem_of_getElem? (i := 15) (by decide +kernel), List.mem_of_getElem? (i := 489) (by decide +kernel), List.mem_of_getElem? (i := 490) (by decide +kernel)⟩
theorem lw_p20 : lw_okq (⟨"OnlyNamed", "liftedBy", "(II)I"⟩, 9) := ⟨⟨by decide +kernel, by decide +kernel⟩, List.mem_of_getElem? (i := 15) (by decide +kernel), List.mem_of_getElem? (i := 493) (by decide +kernel), List.mem_of_getElem? (i := 494) (by decide +kernel)⟩
theorem lw_p21 : lw_okq (⟨"OnlyNamed", "gatherCarriers", "()V"⟩, 9) := ⟨⟨by decide +kernel, by decide +kernel⟩, List.mem_of_getElem? (i := 15) (by decide +kernel), List.mem_of_getElem? (i := 509) (by decide +kernel), List.mem_of_getElem? (i := 510) (by decide +kernel)⟩
theorem lw_p22 : lw_okq (⟨"OnlyNamed$Carriers", "packSet", "(I)V"⟩, 5) := ⟨⟨by decide +kernel, by decide +kernel⟩, List.mem_of_getElem? (i := 173) (by decide +kernel), List.mem_of_getElem? (i := 517) (by decide +kernel), List.mem_of_getElem? (i := 518) (by decide +kernel)⟩
theorem lw_p23 : lw_okq (⟨"OnlyNamed$Carriers", "putLast", "(II)V"⟩, 5) := ⟨⟨by decide +kernel, by decide +kernel⟩, List.mem_of_getElem? (i := 173) (by decide +kernel), List.mem_of_getElem? (i := 522) (by decide +kernel), List.mem_of_getElem? (i := 523) (by decide +kernel)⟩
theorem lw_p24 : lw_okq (⟨"OnlyNamed$Carriers", "canTake", "(III)Z"⟩, 5) := ⟨⟨by decide +kernel, by decide +kernel⟩, List.mem_of_getElem? (i := 173) (by decide +kernel), List.mem_of_getElem? (i := 526) (by decide +kernel), List.mem_of_getElem? (i := 527) (by decide +kernel)⟩
theorem lw_p25 : lw_okq (⟨"OnlyNamed$Carriers", "holdBetter", "(III)V"⟩, 5) := ⟨⟨by decide +kernel, by decide +kernel⟩, List.mem_of_getElem? (i := 173) (by decide +kernel), List.mem_of_getElem? (i := 530) (by decide +kernel), List.mem_of_getElem? (i := 531) (by decide +kernel)⟩
theorem lw_p26 : lw_okq (⟨"OnlyNamed$Carriers", "leastLoad", "(II)I"⟩, 5) := ⟨⟨by decide +kernel, by decide +kernel⟩, List.mem_of_getElem? (i := 173) (by decide +kernel), List.mem_of_getElem? (i := 542) (by decide +kernel), List.mem_of_getElem? (i := 543) (by decide +kernel)⟩
theorem lw_p27 : lw_okq (⟨"OnlyNamed$Carriers", "bearsLoad", "(II)Z"⟩, 5) := ⟨⟨by decide +kernel, by decide +kernel⟩, List.mem_of_getElem? (i := 173) (by decide +kernel), List.mem_of_getElem? (i := 546) (by decide +kernel), List.mem_of_getElem? (i := 547) (by decide +kernel)⟩
theorem lw_p28 : lw_okq (⟨"OnlyNamed$Songs", "hear", "(II)V"⟩, 5) := ⟨⟨by decide +kernel, by decide +kernel⟩, List.mem_of_getElem? (i := 198) (by decide +kernel), List.mem_of_getElem? (i := 597) (by decide +kernel), List.mem_of_getElem? (i := 598) (by decide +kernel)⟩
theorem lw_p29 : lw_okq (⟨"OnlyNamed$Songs", "fit", "(I)I"⟩, 5) := ⟨⟨by decide +kernel, by decide +kernel⟩, List.mem_of_getElem? (i := 198) (by decide +kernel), List.mem_of_getElem? (i := 601) (by decide +kernel), List.mem_of_getElem? (i := 602) (by decide +kernel)⟩
theorem lw_p30 : lw_okq (⟨"OnlyNamed$Songs", "giveNext", "(II)V"⟩, 5) := ⟨⟨by decide +kernel, by decide +kernel⟩, List.mem_of_getElem? (i := 198) (by decide +kernel), List.mem_of_getElem? (i := 605) (by decide +kernel), List.mem_of_getElem? (i := 606) (by decide +kernel)⟩
theorem lw_p31 : lw_okq (⟨"OnlyNamed", "liveNamed", "(I)I"⟩, 9) := ⟨⟨by decide +kernel, by decide +kernel⟩, List.mem_of_getElem? (i := 15) (by decide +kernel), List.mem_of_getElem? (i := 643) (by decide +kernel), List.mem_of_getElem? (i := 644) (by decide +kernel)⟩
def lw_privs_2 : List (MethodName × Nat) := [(⟨"OnlyNamed$Search", "isHopeless", "(II)Z"⟩, 3), (⟨"OnlyNamed$Search", "isTooNear", "(IIII)Z"⟩, 3), (⟨"OnlyNamed$Search", "found", "(I)I"⟩, 3), (⟨"OnlyNamed", "clearOnes", "()I"⟩, 9), (⟨"OnlyNamed", "liftedBy", "(II)I"⟩, 9), (⟨"OnlyNamed", "gatherCarriers", "()V"⟩, 9), (⟨"OnlyNamed$Carriers", "packSet", "(I)V"⟩, 5), (⟨"OnlyNamed$Carriers", "putLast", "(II)V"⟩, 5), (⟨"OnlyNamed$Carriers", "canTake", "(III)Z"⟩, 5), (⟨"OnlyNamed$Carriers", "holdBetter", "(III)V"⟩, 5), (⟨"OnlyNamed$Carriers", "leastLoad", "(II)I"⟩, 5), (⟨"OnlyNamed$Carriers", "bearsLoad", "(II)Z"⟩, 5), (⟨"OnlyNamed$Songs", "hear", "(II)V"⟩, 5), (⟨"OnlyNamed$Songs", "fit", "(I)I"⟩, 5), (⟨"OnlyNamed$Songs", "giveNext", "(II)V"⟩, 5), (⟨"OnlyNamed", "liveNamed", "(I)I"⟩, 9)]
theorem lw_r2 : ∀ q ∈ lw_privs_2, lw_okq q := List.forall_mem_cons.mpr ⟨lw_p16, List.forall_mem_cons.mpr ⟨lw_p17, List.forall_mem_cons.mpr ⟨lw_p18, List.forall_mem_cons.mpr ⟨lw_p19, List.forall_mem_cons.mpr ⟨lw_p20, List.forall_mem_cons.mpr ⟨lw_p21, List.forall_mem_cons.mpr ⟨lw_p22, List.forall_mem_cons.mpr ⟨lw_p23, List.forall_mem_cons.mpr ⟨lw_p24, List.forall_mem_cons.mpr ⟨lw_p25, List.forall_mem_cons.mpr ⟨lw_p26, List.forall_mem_cons.mpr ⟨lw_p27, List.forall_mem_cons.mpr ⟨lw_p28, List.forall_mem_cons.mpr ⟨lw_p29, List.forall_mem_cons.mpr ⟨lw_p30, List.forall_mem_cons.mpr ⟨lw_p31, fun _ h => absurd h List.not_mem_nil⟩⟩⟩⟩⟩⟩⟩⟩⟩⟩⟩⟩⟩⟩⟩⟩
theorem lw_p32 : lw_okq (⟨"OnlyNamed", "soundsOfAll", "()I"⟩, 9) := ⟨⟨by decide +kernel, by decide +kernel⟩, List.mem_of_getElem? (i := 15) (by decide +kernel), List.mem_of_getElem? (i := 664) (by decide +kernel), List.mem_of_getElem? (i := 665) (by decide +kernel)⟩
theorem lw_p33 : lw_okq (⟨"OnlyNamedModel", "readText", "()I"⟩, 37) := ⟨⟨by decide +kernel, by decide +kernel⟩, List.mem_of_getElem? (i := 668) (by decide +kernel), List.mem_of_getElem? (i := 804) (by decide +kernel), List.mem_of_getElem? (i := 805) (by decide +kernel)⟩
theorem lw_p34 : lw_okq (⟨"OnlyNamedModel", "here", "()I"⟩, 37) := ⟨⟨by decide +kernel, by decide +kernel⟩, List.mem_of_getElem? (i := 668) (by decide +kernel), List.mem_of_getElem? (i := 808) (by decide +kernel), List.mem_of_getElem? (i := 809) (by decide +kernel)⟩
theorem lw_p35 : lw_okq (⟨"OnlyNamedModel", "figure", "(I)I"⟩, 37) := ⟨⟨by decide +kernel, by decide +kernel⟩, List.mem_of_getElem? (i := 668) (by decide +kernel), List.mem_of_getElem? (i := 812) (by decide +kernel), List.mem_of_getElem? (i := 813) (by decide +kernel)⟩
theorem lw_p36 : lw_okq (⟨"OnlyNamedModel", "fail", "()V"⟩, 37) := ⟨⟨by decide +kernel, by decide +kernel⟩, List.mem_of_getElem? (i := 668) (by decide +kernel), List.mem_of_getElem? (i := 817) (by decide +kernel), List.mem_of_getElem? (i := 818) (by decide +kernel)⟩
theorem lw_p37 : lw_okq (⟨"OnlyNamedModel", "readName", "()V"⟩, 37) := ⟨⟨by decide +kernel, by decide +kernel⟩, List.mem_of_getElem? (i := 668) (by decide +kernel), List.mem_of_getElem? (i := 821) (by decide +kernel), List.mem_of_getElem? (i := 822) (by decide +kernel)⟩
theorem lw_p38 : lw_okq (⟨"OnlyNamedModel", "isTold", "()Z"⟩, 37) := ⟨⟨by decide +kernel, by decide +kernel⟩, List.mem_of_getElem? (i := 668) (by decide +kernel), List.mem_of_getElem? (i := 827) (by decide +kernel), List.mem_of_getElem? (i := 828) (by decide +kernel)⟩
theorem lw_p39 : lw_okq (⟨"OnlyNamedModel", "open", "()I"⟩, 37) := ⟨⟨by decide +kernel, by decide +kernel⟩, List.mem_of_getElem? (i := 668) (by decide +kernel), List.mem_of_getElem? (i := 831) (by decide +kernel), List.mem_of_getElem? (i := 832) (by decide +kernel)⟩
theorem lw_p40 : lw_okq (⟨"OnlyNamedModel", "unknown", "(I)I"⟩, 37) := ⟨⟨by decide +kernel, by decide +kernel⟩, List.mem_of_getElem? (i := 668) (by decide +kernel), List.mem_of_getElem? (i := 835) (by decide +kernel), List.mem_of_getElem? (i := 836) (by decide +kernel)⟩
theorem lw_p41 : lw_okq (⟨"OnlyNamedModel", "isThing", "(I)Z"⟩, 37) := ⟨⟨by decide +kernel, by decide +kernel⟩, List.mem_of_getElem? (i := 668) (by decide +kernel), List.mem_of_getElem? (i := 847) (by decide +kernel), List.mem_of_getElem? (i := 848) (by decide +kernel)⟩
theorem lw_p42 : lw_okq (⟨"OnlyNamedModel", "offOf", "(II)I"⟩, 37) := ⟨⟨by decide +kernel, by decide +kernel⟩, List.mem_of_getElem? (i := 668) (by decide +kernel), List.mem_of_getElem? (i := 855) (by decide +kernel), List.mem_of_getElem? (i := 856) (by decide +kernel)⟩
theorem lw_p43 : lw_okq (⟨"OnlyNamedModel", "offTried", "(I)I"⟩, 37) := ⟨⟨by decide +kernel, by decide +kernel⟩, List.mem_of_getElem? (i := 668) (by decide +kernel), List.mem_of_getElem? (i := 859) (by decide +kernel), List.mem_of_getElem? (i := 860) (by decide +kernel)⟩
theorem lw_p44 : lw_okq (⟨"OnlyNamedModel", "isLive", "(I)Z"⟩, 37) := ⟨⟨by decide +kernel, by decide +kernel⟩, List.mem_of_getElem? (i := 668) (by decide +kernel), List.mem_of_getElem? (i := 870) (by decide +kernel), List.mem_of_getElem? (i := 871) (by decide +kernel)⟩
theorem lw_p45 : lw_okq (⟨"OnlyNamedModel", "nearTo", "(I)I"⟩, 37) := ⟨⟨by decide +kernel, by decide +kernel⟩, List.mem_of_getElem? (i := 668) (by decide +kernel), List.mem_of_getElem? (i := 874) (by decide +kernel), List.mem_of_getElem? (i := 875) (by decide +kernel)⟩
theorem lw_p46 : lw_okq (⟨"OnlyNamedModel", "liveSet", "()I"⟩, 37) := ⟨⟨by decide +kernel, by decide +kernel⟩, List.mem_of_getElem? (i := 668) (by decide +kernel), List.mem_of_getElem? (i := 886) (by decide +kernel), List.mem_of_getElem? (i := 887) (by decide +kernel)⟩
theorem lw_p47 : lw_okq (⟨"OnlyNamedModel", "isPerson", "(I)Z"⟩, 37) := ⟨⟨by decide +kernel, by decide +kernel⟩, List.mem_of_getElem? (i := 668) (by decide +kernel), List.mem_of_getElem? (i := 903) (by decide +kernel), List.mem_of_getElem? (i := 904) (by decide +kernel)⟩
def lw_privs_3 : List (MethodName × Nat) := [(⟨"OnlyNamed", "soundsOfAll", "()I"⟩, 9), (⟨"OnlyNamedModel", "readText", "()I"⟩, 37), (⟨"OnlyNamedModel", "here", "()I"⟩, 37), (⟨"OnlyNamedModel", "figure", "(I)I"⟩, 37), (⟨"OnlyNamedModel", "fail", "()V"⟩, 37), (⟨"OnlyNamedModel", "readName", "()V"⟩, 37), (⟨"OnlyNamedModel", "isTold", "()Z"⟩, 37), (⟨"OnlyNamedModel", "open", "()I"⟩, 37), (⟨"OnlyNamedModel", "unknown", "(I)I"⟩, 37), (⟨"OnlyNamedModel", "isThing", "(I)Z"⟩, 37), (⟨"OnlyNamedModel", "offOf", "(II)I"⟩, 37), (⟨"OnlyNamedModel", "offTried", "(I)I"⟩, 37), (⟨"OnlyNamedModel", "isLive", "(I)Z"⟩, 37), (⟨"OnlyNamedModel", "nearTo", "(I)I"⟩, 37), (⟨"OnlyNamedModel", "liveSet", "()I"⟩, 37), (⟨"OnlyNamedModel", "isPerson", "(I)Z"⟩, 37)]
theorem lw_r3 : ∀ q ∈ lw_privs_3, lw_okq q := List.forall_mem_cons.mpr ⟨lw_p32, List.forall_mem_cons.mpr ⟨lw_p33, List.forall_mem_cons.mpr ⟨lw_p34, List.forall_mem_cons.mpr ⟨lw_p35, List.forall_mem_cons.mpr ⟨lw_p36, List.forall_mem_cons.mpr ⟨lw_p37, List.forall_mem_cons.mpr ⟨lw_p38, List.forall_mem_cons.mpr ⟨lw_p39, List.forall_mem_cons.mpr ⟨lw_p40, List.forall_mem_cons.mpr ⟨lw_p41, List.forall_mem_cons.mpr ⟨lw_p42, List.forall_mem_cons.mpr ⟨lw_p43, List.forall_mem_cons.mpr ⟨lw_p44, List.forall_mem_cons.mpr ⟨lw_p45, List.forall_mem_cons.mpr ⟨lw_p46, List.forall_mem_cons.mpr ⟨lw_p47, fun _ h => absurd h List.not_mem_nil⟩⟩⟩⟩⟩⟩⟩⟩⟩⟩⟩⟩⟩⟩⟩⟩
theorem lw_p48 : lw_okq (⟨"OnlyNamedModel", "isKnown", "(II)Z"⟩, 37) := ⟨⟨by decide +kernel, by decide +kernel⟩, List.mem_of_getElem? (i := 668) (by decide +kernel), List.mem_of_getElem? (i := 907) (by decide +kernel), List.mem_of_getElem? (i := 908) (by decide +kernel)⟩
theorem lw_p49 : lw_okq (⟨"OnlyNamedModel", "layFresh", "()Z"⟩, 37) := ⟨⟨by decide +kernel, by decide +kernel⟩, List.mem_of_getElem? (i := 668) (by decide +kernel), List.mem_of_getElem? (i := 919) (by decide +kernel), List.mem_of_getElem? (i := 920) (by decide +kernel)⟩
theorem lw_p50 : lw_okq (⟨"OnlyNamedModel", "liftsOf", "(I)I"⟩, 37) := ⟨⟨by decide +kernel, by decide +kernel⟩, List.mem_of_getElem? (i := 668) (by decide +kernel), List.mem_of_getElem? (i := 931) (by decide +kernel), List.mem_of_getElem? (i := 932) (by decide +kernel)⟩
theorem lw_p51 : lw_okq (⟨"OnlyNamedModel", "isThings", "(I)Z"⟩, 37) := ⟨⟨by decide +kernel, by decide +kernel⟩, List.mem_of_getElem? (i := 668) (by decide +kernel), List.mem_of_getElem? (i := 939) (by decide +kernel), List.mem_of_getElem? (i := 940) (by decide +kernel)⟩
theorem lw_p52 : lw_okq (⟨"OnlyNamedModel", "breaksAt", "(III)I"⟩, 37) := ⟨⟨by decide +kernel, by decide +kernel⟩, List.mem_of_getElem? (i := 668) (by decide +kernel), List.mem_of_getElem? (i := 943) (by decide +kernel), List.mem_of_getElem? (i := 944) (by decide +kernel)⟩
theorem lw_p53 : lw_okq (⟨"OnlyNamedModel", "layCan", "(I)V"⟩, 37) := ⟨⟨by decide +kernel, by decide +kernel⟩, List.mem_of_getElem? (i := 668) (by decide +kernel), List.mem_of_getElem? (i := 951) (by decide +kernel), List.mem_of_getElem? (i := 952) (by decide +kernel)⟩
theorem lw_p54 : lw_okq (⟨"OnlyNamedModel", "leastLoad", "(II)I"⟩, 37) := ⟨⟨by decide +kernel, by decide +kernel⟩, List.mem_of_getElem? (i := 668) (by decide +kernel), List.mem_of_getElem? (i := 955) (by decide +kernel), List.mem_of_getElem? (i := 956) (by decide +kernel)⟩
theorem lw_p55 : lw_okq (⟨"OnlyNamedModel", "timesOf", "(I)I"⟩, 37) := ⟨⟨by decide +kernel, by decide +kernel⟩, List.mem_of_getElem? (i := 668) (by decide +kernel), List.mem_of_getElem? (i := 963) (by decide +kernel), List.mem_of_getElem? (i := 964) (by decide +kernel)⟩
theorem lw_p56 : lw_okq (⟨"OnlyNamedModel", "waysBy", "(II)I"⟩, 37) := ⟨⟨by decide +kernel, by decide +kernel⟩, List.mem_of_getElem? (i := 668) (by decide +kernel), List.mem_of_getElem? (i := 992) (by decide +kernel), List.mem_of_getElem? (i := 993) (by decide +kernel)⟩
theorem lw_p57 : lw_okq (⟨"OnlyNamedModel", "givings", "(I)I"⟩, 37) := ⟨⟨by decide +kernel, by decide +kernel⟩, List.mem_of_getElem? (i := 668) (by decide +kernel), List.mem_of_getElem? (i := 996) (by decide +kernel), List.mem_of_getElem? (i := 997) (by decide +kernel)⟩
def lw_privs_4 : List (MethodName × Nat) := [(⟨"OnlyNamedModel", "isKnown", "(II)Z"⟩, 37), (⟨"OnlyNamedModel", "layFresh", "()Z"⟩, 37), (⟨"OnlyNamedModel", "liftsOf", "(I)I"⟩, 37), (⟨"OnlyNamedModel", "isThings", "(I)Z"⟩, 37), (⟨"OnlyNamedModel", "breaksAt", "(III)I"⟩, 37), (⟨"OnlyNamedModel", "layCan", "(I)V"⟩, 37), (⟨"OnlyNamedModel", "leastLoad", "(II)I"⟩, 37), (⟨"OnlyNamedModel", "timesOf", "(I)I"⟩, 37), (⟨"OnlyNamedModel", "waysBy", "(II)I"⟩, 37), (⟨"OnlyNamedModel", "givings", "(I)I"⟩, 37)]
theorem lw_r4 : ∀ q ∈ lw_privs_4, lw_okq q := List.forall_mem_cons.mpr ⟨lw_p48, List.forall_mem_cons.mpr ⟨lw_p49, List.forall_mem_cons.mpr ⟨lw_p50, List.forall_mem_cons.mpr ⟨lw_p51, List.forall_mem_cons.mpr ⟨lw_p52, List.forall_mem_cons.mpr ⟨lw_p53, List.forall_mem_cons.mpr ⟨lw_p54, List.forall_mem_cons.mpr ⟨lw_p55, List.forall_mem_cons.mpr ⟨lw_p56, List.forall_mem_cons.mpr ⟨lw_p57, fun _ h => absurd h List.not_mem_nil⟩⟩⟩⟩⟩⟩⟩⟩⟩⟩
def lw_privs : List (MethodName × Nat) := lw_privs_1 ++ (lw_privs_2 ++ (lw_privs_3 ++ (lw_privs_4)))
def lw_tbl : List Cond := k2_sels lw_privs ++ tables_1
theorem lw_privs_ok : ∀ q ∈ lw_privs, lw_okq q := by
  show ∀ q ∈ lw_privs_1 ++ (lw_privs_2 ++ (lw_privs_3 ++ (lw_privs_4))), lw_okq q
  exact List.forall_mem_append.mpr ⟨lw_r1, List.forall_mem_append.mpr ⟨lw_r2, List.forall_mem_append.mpr ⟨lw_r3, lw_r4⟩⟩⟩
def RX0 : String := "OnlyNamed$Carriers"
def TX0 : u_T := fun k => match k with
  | 0 => ("OnlyNamed$Carriers", "lifted", "[I", true)
  | 1 => ("OnlyNamed$Carriers", "bears", "[I", true)
  | 2 => ("OnlyNamed$Carriers", "weights", "[I", true)
  | 3 => ("OnlyNamed$Carriers", "loads", "[I", true)
  | _ => ("OnlyNamed$Carriers", "lastWeight", "[I", true)
def tyX0 : Nat → FieldType := fun k => match k with
  | 0 => .array .int
  | 1 => .array .int
  | 2 => .array .int
  | 3 => .array .int
  | _ => .array .int
abbrev wsX00 : List Cond := u_ws RX0 TX0 5
theorem nmX0 : ∀ a, a < 5 → ∀ b, b < 5 → a ≠ b → (TX0 a).2.1 ≠ (TX0 b).2.1 := by decide +kernel
theorem tyX0_ok : ∀ k, k < 5 → parseFieldDescriptor (TX0 k).2.2.1 = some (tyX0 k) := by decide +kernel
abbrev cX0_init : ByteArray := prog_2_method_1_code
def yX0_init : MethodName := ⟨RX0, "<init>", "()V"⟩
abbrev cX0_allLifted : ByteArray := prog_2_method_2_code
def yX0_allLifted : MethodName := ⟨RX0, "allLifted", "()I"⟩
abbrev cX0_pack : ByteArray := prog_2_method_3_code
def yX0_pack : MethodName := ⟨RX0, "pack", "(I)V"⟩
abbrev cX0_packSet : ByteArray := prog_2_method_4_code
def yX0_packSet : MethodName := ⟨RX0, "packSet", "(I)V"⟩
abbrev cX0_putLast : ByteArray := prog_2_method_5_code
def yX0_putLast : MethodName := ⟨RX0, "putLast", "(II)V"⟩
abbrev cX0_holdBetter : ByteArray := prog_2_method_6_code
def yX0_holdBetter : MethodName := ⟨RX0, "holdBetter", "(III)V"⟩
abbrev cX0_canTake : ByteArray := prog_2_method_7_code
def yX0_canTake : MethodName := ⟨RX0, "canTake", "(III)Z"⟩
abbrev cX0_timesFor : ByteArray := prog_2_method_8_code
def yX0_timesFor : MethodName := ⟨RX0, "timesFor", "(I)I"⟩
abbrev cX0_firstWay : ByteArray := prog_2_method_9_code
def yX0_firstWay : MethodName := ⟨RX0, "firstWay", "(II)I"⟩
abbrev cX0_leastLoad : ByteArray := prog_2_method_10_code
def yX0_leastLoad : MethodName := ⟨RX0, "leastLoad", "(II)I"⟩
abbrev cX0_bearsLoad : ByteArray := prog_2_method_11_code
def yX0_bearsLoad : MethodName := ⟨RX0, "bearsLoad", "(II)Z"⟩
def RX1 : String := "OnlyNamed$House"
def TX1 : u_T := fun k => match k with
  | 0 => ("OnlyNamed$House", "bears", "[I", true)
  | 1 => ("OnlyNamed$House", "\x72", "I", false)
  | 2 => ("OnlyNamed$House", "things", "I", false)
  | _ => ("OnlyNamed$House", "people", "I", false)
def tyX1 : Nat → FieldType := fun k => match k with
  | 0 => .array .int
  | 1 => .int
  | 2 => .int
  | _ => .int
abbrev wsX10 : List Cond := u_ws RX1 TX1 4
theorem nmX1 : ∀ a, a < 4 → ∀ b, b < 4 → a ≠ b → (TX1 a).2.1 ≠ (TX1 b).2.1 := by decide +kernel
theorem tyX1_ok : ∀ k, k < 4 → parseFieldDescriptor (TX1 k).2.2.1 = some (tyX1 k) := by decide +kernel
abbrev cX1_init : ByteArray := prog_3_method_1_code
def yX1_init : MethodName := ⟨RX1, "<init>", "()V"⟩
abbrev cX1_settle : ByteArray := prog_3_method_2_code
def yX1_settle : MethodName := ⟨RX1, "settle", "(LOnlyNamed$Telling;)V"⟩
abbrev cX1_hasThing : ByteArray := prog_3_method_3_code
def yX1_hasThing : MethodName := ⟨RX1, "hasThing", "(I)Z"⟩
abbrev cX1_hasPerson : ByteArray := prog_3_method_4_code
def yX1_hasPerson : MethodName := ⟨RX1, "hasPerson", "(I)Z"⟩
abbrev cX1_areThings : ByteArray := prog_3_method_5_code
def yX1_areThings : MethodName := ⟨RX1, "areThings", "(I)Z"⟩
abbrev cX1_arePeople : ByteArray := prog_3_method_6_code
def yX1_arePeople : MethodName := ⟨RX1, "arePeople", "(I)Z"⟩
def RX2 : String := "OnlyNamed$Memory"
def TX2 : u_T := fun k => match k with
  | 0 => ("OnlyNamed$Memory", "names", "[I", true)
  | 1 => ("OnlyNamed$Memory", "said", "[I", true)
  | 2 => ("OnlyNamed$Memory", "knowers", "[I", true)
  | 3 => ("OnlyNamed$Memory", "day", "I", false)
  | _ => ("OnlyNamed$Memory", "filled", "Z", false)
def tyX2 : Nat → FieldType := fun k => match k with
  | 0 => .array .int
  | 1 => .array .int
  | 2 => .array .int
  | 3 => .int
  | _ => .boolean
abbrev wsX20 : List Cond := u_ws RX2 TX2 5
theorem nmX2 : ∀ a, a < 5 → ∀ b, b < 5 → a ≠ b → (TX2 a).2.1 ≠ (TX2 b).2.1 := by decide +kernel
theorem tyX2_ok : ∀ k, k < 5 → parseFieldDescriptor (TX2 k).2.2.1 = some (tyX2 k) := by decide +kernel
abbrev cX2_init : ByteArray := prog_4_method_1_code
def yX2_init : MethodName := ⟨RX2, "<init>", "()V"⟩
abbrev cX2_begin : ByteArray := prog_4_method_2_code
def yX2_begin : MethodName := ⟨RX2, "begin", "(LOnlyNamed$Telling;)V"⟩
abbrev cX2_copy : ByteArray := prog_4_method_3_code
def yX2_copy : MethodName := ⟨RX2, "copy", "(LOnlyNamed$Memory;)V"⟩
abbrev cX2_isLive : ByteArray := prog_4_method_4_code
def yX2_isLive : MethodName := ⟨RX2, "isLive", "(I)Z"⟩
abbrev cX2_liveOnes : ByteArray := prog_4_method_5_code
def yX2_liveOnes : MethodName := ⟨RX2, "liveOnes", "()I"⟩
abbrev cX2_pass : ByteArray := prog_4_method_6_code
def yX2_pass : MethodName := ⟨RX2, "pass", "(I)I"⟩
abbrev cX2_sayingsFor : ByteArray := prog_4_method_7_code
def yX2_sayingsFor : MethodName := ⟨RX2, "sayingsFor", "(II)I"⟩
def RX3 : String := "OnlyNamed$Name"
def TX3 : u_T := fun k => match k with
  | _ => ("", "", "", false)
def tyX3 : Nat → FieldType := fun k => match k with
  | _ => .int
abbrev wsX30 : List Cond := u_ws RX3 TX3 0
theorem nmX3 : ∀ a, a < 0 → ∀ b, b < 0 → a ≠ b → (TX3 a).2.1 ≠ (TX3 b).2.1 := by decide +kernel
theorem tyX3_ok : ∀ k, k < 0 → parseFieldDescriptor (TX3 k).2.2.1 = some (tyX3 k) := by decide +kernel
abbrev cX3_soundAt : ByteArray := prog_5_method_2_code
def yX3_soundAt : MethodName := ⟨RX3, "soundAt", "(II)I"⟩
abbrev cX3_withSound : ByteArray := prog_5_method_3_code
def yX3_withSound : MethodName := ⟨RX3, "withSound", "(III)I"⟩
abbrev cX3_lengthOf : ByteArray := prog_5_method_4_code
def yX3_lengthOf : MethodName := ⟨RX3, "lengthOf", "(I)I"⟩
abbrev cX3_inTongue : ByteArray := prog_5_method_5_code
def yX3_inTongue : MethodName := ⟨RX3, "inTongue", "(II)I"⟩
def RX4 : String := "OnlyNamed$Ruler"
def TX4 : u_T := fun k => match k with
  | 0 => ("OnlyNamed$Ruler", "rows", "[[I", true)
  | 1 => ("OnlyNamed$Ruler", "name", "I", false)
  | _ => ("OnlyNamed$Ruler", "length", "I", false)
def tyX4 : Nat → FieldType := fun k => match k with
  | 0 => .array (.array .int)
  | 1 => .int
  | _ => .int
abbrev wsX40 : List Cond := u_ws RX4 TX4 3
theorem nmX4 : ∀ a, a < 3 → ∀ b, b < 3 → a ≠ b → (TX4 a).2.1 ≠ (TX4 b).2.1 := by decide +kernel
theorem tyX4_ok : ∀ k, k < 3 → parseFieldDescriptor (TX4 k).2.2.1 = some (tyX4 k) := by decide +kernel
abbrev cX4_init : ByteArray := prog_6_method_1_code
def yX4_init : MethodName := ⟨RX4, "<init>", "()V"⟩
abbrev cX4_between : ByteArray := prog_6_method_2_code
def yX4_between : MethodName := ⟨RX4, "between", "(II)I"⟩
abbrev cX4_lay : ByteArray := prog_6_method_3_code
def yX4_lay : MethodName := ⟨RX4, "lay", "(I)V"⟩
abbrev cX4_step : ByteArray := prog_6_method_4_code
def yX4_step : MethodName := ⟨RX4, "step", "(II)V"⟩
abbrev cX4_atMost : ByteArray := prog_6_method_5_code
def yX4_atMost : MethodName := ⟨RX4, "atMost", "(II)I"⟩
def RX5 : String := "OnlyNamed$Search"
def TX5 : u_T := fun k => match k with
  | 0 => ("OnlyNamed$Search", "rulers", "[LOnlyNamed$Ruler;", true)
  | 1 => ("OnlyNamed$Search", "sounds", "[I", true)
  | _ => ("OnlyNamed$Search", "others", "I", false)
def tyX5 : Nat → FieldType := fun k => match k with
  | 0 => .array (.object "OnlyNamed$Ruler")
  | 1 => .array .int
  | _ => .int
abbrev wsX50 : List Cond := u_ws RX5 TX5 3
theorem nmX5 : ∀ a, a < 3 → ∀ b, b < 3 → a ≠ b → (TX5 a).2.1 ≠ (TX5 b).2.1 := by decide +kernel
theorem tyX5_ok : ∀ k, k < 3 → parseFieldDescriptor (TX5 k).2.2.1 = some (tyX5 k) := by decide +kernel
abbrev cX5_init : ByteArray := prog_7_method_1_code
def yX5_init : MethodName := ⟨RX5, "<init>", "()V"⟩
abbrev cX5_begin : ByteArray := prog_7_method_2_code
def yX5_begin : MethodName := ⟨RX5, "begin", "()V"⟩
abbrev cX5_avoid : ByteArray := prog_7_method_3_code
def yX5_avoid : MethodName := ⟨RX5, "avoid", "(I)V"⟩
abbrev cX5_rulerAt : ByteArray := prog_7_method_4_code
def yX5_rulerAt : MethodName := ⟨RX5, "rulerAt", "(I)LOnlyNamed$Ruler;"⟩
abbrev cX5_shortest : ByteArray := prog_7_method_5_code
def yX5_shortest : MethodName := ⟨RX5, "shortest", "(I)I"⟩
abbrev cX5_find : ByteArray := prog_7_method_6_code
def yX5_find : MethodName := ⟨RX5, "find", "(II)Z"⟩
abbrev cX5_isHopeless : ByteArray := prog_7_method_7_code
def yX5_isHopeless : MethodName := ⟨RX5, "isHopeless", "(II)Z"⟩
abbrev cX5_isTooNear : ByteArray := prog_7_method_8_code
def yX5_isTooNear : MethodName := ⟨RX5, "isTooNear", "(IIII)Z"⟩
abbrev cX5_found : ByteArray := prog_7_method_9_code
def yX5_found : MethodName := ⟨RX5, "found", "(I)I"⟩
def RX6 : String := "OnlyNamed$Songs"
def TX6 : u_T := fun k => match k with
  | 0 => ("OnlyNamed$Songs", "lines", "I", false)
  | 1 => ("OnlyNamed$Songs", "lineNames", "[I", true)
  | 2 => ("OnlyNamed$Songs", "lineThings", "[I", true)
  | 3 => ("OnlyNamed$Songs", "canBe", "[I", true)
  | _ => ("OnlyNamed$Songs", "fits", "[I", true)
def tyX6 : Nat → FieldType := fun k => match k with
  | 0 => .int
  | 1 => .array .int
  | 2 => .array .int
  | 3 => .array .int
  | _ => .array .int
abbrev wsX60 : List Cond := u_ws RX6 TX6 5
theorem nmX6 : ∀ a, a < 5 → ∀ b, b < 5 → a ≠ b → (TX6 a).2.1 ≠ (TX6 b).2.1 := by decide +kernel
theorem tyX6_ok : ∀ k, k < 5 → parseFieldDescriptor (TX6 k).2.2.1 = some (tyX6 k) := by decide +kernel
abbrev cX6_init : ByteArray := prog_8_method_1_code
def yX6_init : MethodName := ⟨RX6, "<init>", "()V"⟩
abbrev cX6_sing : ByteArray := prog_8_method_2_code
def yX6_sing : MethodName := ⟨RX6, "sing", "(II)V"⟩
abbrev cX6_waysWith : ByteArray := prog_8_method_3_code
def yX6_waysWith : MethodName := ⟨RX6, "waysWith", "(II)I"⟩
abbrev cX6_thingsOf : ByteArray := prog_8_method_4_code
def yX6_thingsOf : MethodName := ⟨RX6, "thingsOf", "(II)I"⟩
abbrev cX6_firstBreak : ByteArray := prog_8_method_5_code
def yX6_firstBreak : MethodName := ⟨RX6, "firstBreak", "(I)I"⟩
abbrev cX6_hear : ByteArray := prog_8_method_6_code
def yX6_hear : MethodName := ⟨RX6, "hear", "(II)V"⟩
abbrev cX6_fit : ByteArray := prog_8_method_7_code
def yX6_fit : MethodName := ⟨RX6, "fit", "(I)I"⟩
abbrev cX6_giveNext : ByteArray := prog_8_method_8_code
def yX6_giveNext : MethodName := ⟨RX6, "giveNext", "(II)V"⟩
def RX7 : String := "OnlyNamed$Telling"
def TX7 : u_T := fun k => match k with
  | 0 => ("OnlyNamed$Telling", "names", "[I", true)
  | 1 => ("OnlyNamed$Telling", "knowers", "[I", true)
  | 2 => ("OnlyNamed$Telling", "bears", "[I", true)
  | 3 => ("OnlyNamed$Telling", "\x72", "I", false)
  | 4 => ("OnlyNamed$Telling", "things", "I", false)
  | 5 => ("OnlyNamed$Telling", "people", "I", false)
  | 6 => ("OnlyNamed$Telling", "pairs", "I", false)
  | 7 => ("OnlyNamed$Telling", "awaited", "I", false)
  | 8 => ("OnlyNamed$Telling", "name", "I", false)
  | 9 => ("OnlyNamed$Telling", "sounds", "I", false)
  | _ => ("OnlyNamed$Telling", "knower", "I", false)
def tyX7 : Nat → FieldType := fun k => match k with
  | 0 => .array .int
  | 1 => .array .int
  | 2 => .array .int
  | 3 => .int
  | 4 => .int
  | 5 => .int
  | 6 => .int
  | 7 => .int
  | 8 => .int
  | 9 => .int
  | _ => .int
abbrev wsX70 : List Cond := u_ws RX7 TX7 11
theorem nmX7 : ∀ a, a < 11 → ∀ b, b < 11 → a ≠ b → (TX7 a).2.1 ≠ (TX7 b).2.1 := by decide +kernel
theorem tyX7_ok : ∀ k, k < 11 → parseFieldDescriptor (TX7 k).2.2.1 = some (tyX7 k) := by decide +kernel
abbrev cX7_init : ByteArray := prog_9_method_1_code
def yX7_init : MethodName := ⟨RX7, "<init>", "()V"⟩
abbrev cX7_faultOf : ByteArray := prog_9_method_2_code
def yX7_faultOf : MethodName := ⟨RX7, "faultOf", "(LOnlyNamed$Text;)I"⟩
abbrev cX7_take : ByteArray := prog_9_method_3_code
def yX7_take : MethodName := ⟨RX7, "take", "(I)Z"⟩
abbrev cX7_takeH : ByteArray := prog_9_method_4_code
def yX7_takeH : MethodName := ⟨RX7, "takeH", "(I)Z"⟩
abbrev cX7_takeR : ByteArray := prog_9_method_5_code
def yX7_takeR : MethodName := ⟨RX7, "takeR", "(I)Z"⟩
abbrev cX7_takePart : ByteArray := prog_9_method_6_code
def yX7_takePart : MethodName := ⟨RX7, "takePart", "(I)Z"⟩
abbrev cX7_takeSound : ByteArray := prog_9_method_7_code
def yX7_takeSound : MethodName := ⟨RX7, "takeSound", "(I)Z"⟩
abbrev cX7_endName : ByteArray := prog_9_method_8_code
def yX7_endName : MethodName := ⟨RX7, "endName", "()Z"⟩
abbrev cX7_isTold : ByteArray := prog_9_method_9_code
def yX7_isTold : MethodName := ⟨RX7, "isTold", "(I)Z"⟩
abbrev cX7_takeBear : ByteArray := prog_9_method_10_code
def yX7_takeBear : MethodName := ⟨RX7, "takeBear", "(I)Z"⟩
abbrev cX7_takeKnower : ByteArray := prog_9_method_11_code
def yX7_takeKnower : MethodName := ⟨RX7, "takeKnower", "(I)Z"⟩
abbrev cX7_takeKnown : ByteArray := prog_9_method_12_code
def yX7_takeKnown : MethodName := ⟨RX7, "takeKnown", "(I)Z"⟩
abbrev cX7_canLearn : ByteArray := prog_9_method_13_code
def yX7_canLearn : MethodName := ⟨RX7, "canLearn", "(I)Z"⟩
def RX8 : String := "OnlyNamed$Text"
def TX8 : u_T := fun k => match k with
  | 0 => ("OnlyNamed$Text", "bytes", "[I", true)
  | _ => ("OnlyNamed$Text", "length", "I", false)
def tyX8 : Nat → FieldType := fun k => match k with
  | 0 => .array .int
  | _ => .int
abbrev wsX80 : List Cond := u_ws RX8 TX8 2
theorem nmX8 : ∀ a, a < 2 → ∀ b, b < 2 → a ≠ b → (TX8 a).2.1 ≠ (TX8 b).2.1 := by decide +kernel
theorem tyX8_ok : ∀ k, k < 2 → parseFieldDescriptor (TX8 k).2.2.1 = some (tyX8 k) := by decide +kernel
abbrev cX8_init : ByteArray := prog_10_method_1_code
def yX8_init : MethodName := ⟨RX8, "<init>", "()V"⟩
abbrev cX8_append : ByteArray := prog_10_method_2_code
def yX8_append : MethodName := ⟨RX8, "append", "(I)V"⟩
abbrev cX8_at : ByteArray := prog_10_method_3_code
def yX8_at : MethodName := ⟨RX8, "at", "(I)I"⟩
def RX9 : String := "OnlyNamed"
def TX9 : u_T := fun k => match k with
  | 0 => ("OnlyNamed", "text", "LOnlyNamed$Text;", true)
  | 1 => ("OnlyNamed", "telling", "LOnlyNamed$Telling;", true)
  | 2 => ("OnlyNamed", "house", "LOnlyNamed$House;", true)
  | 3 => ("OnlyNamed", "memory", "LOnlyNamed$Memory;", true)
  | 4 => ("OnlyNamed", "slots", "[LOnlyNamed$Memory;", true)
  | 5 => ("OnlyNamed", "ruler", "LOnlyNamed$Ruler;", true)
  | 6 => ("OnlyNamed", "search", "LOnlyNamed$Search;", true)
  | 7 => ("OnlyNamed", "carriers", "LOnlyNamed$Carriers;", true)
  | _ => ("OnlyNamed", "songs", "LOnlyNamed$Songs;", true)
def tyX9 : Nat → FieldType := fun k => match k with
  | 0 => .object "OnlyNamed$Text"
  | 1 => .object "OnlyNamed$Telling"
  | 2 => .object "OnlyNamed$House"
  | 3 => .object "OnlyNamed$Memory"
  | 4 => .array (.object "OnlyNamed$Memory")
  | 5 => .object "OnlyNamed$Ruler"
  | 6 => .object "OnlyNamed$Search"
  | 7 => .object "OnlyNamed$Carriers"
  | _ => .object "OnlyNamed$Songs"
abbrev wsX90 : List Cond := u_ws RX9 TX9 9
theorem nmX9 : ∀ a, a < 9 → ∀ b, b < 9 → a ≠ b → (TX9 a).2.1 ≠ (TX9 b).2.1 := by decide +kernel
theorem tyX9_ok : ∀ k, k < 9 → parseFieldDescriptor (TX9 k).2.2.1 = some (tyX9 k) := by decide +kernel
abbrev cX9_init : ByteArray := prog_1_method_1_code
def yX9_init : MethodName := ⟨RX9, "<init>", "()V"⟩
abbrev cX9_write : ByteArray := prog_1_method_2_code
def yX9_write : MethodName := ⟨RX9, "write", "(IJ)I"⟩
abbrev cX9_wipe : ByteArray := prog_1_method_3_code
def yX9_wipe : MethodName := ⟨RX9, "wipe", "()I"⟩
abbrev cX9_fault : ByteArray := prog_1_method_4_code
def yX9_fault : MethodName := ⟨RX9, "fault", "()I"⟩
abbrev cX9_house : ByteArray := prog_1_method_5_code
def yX9_house : MethodName := ⟨RX9, "house", "()I"⟩
abbrev cX9_sound : ByteArray := prog_1_method_6_code
def yX9_sound : MethodName := ⟨RX9, "sound", "(II)I"⟩
abbrev cX9_off : ByteArray := prog_1_method_7_code
def yX9_off : MethodName := ⟨RX9, "off", "(II)I"⟩
abbrev cX9_near : ByteArray := prog_1_method_8_code
def yX9_near : MethodName := ⟨RX9, "near", "(I)I"⟩
abbrev cX9_knows : ByteArray := prog_1_method_9_code
def yX9_knows : MethodName := ⟨RX9, "knows", "(I)I"⟩
abbrev cX9_live : ByteArray := prog_1_method_10_code
def yX9_live : MethodName := ⟨RX9, "live", "()I"⟩
abbrev cX9_days : ByteArray := prog_1_method_11_code
def yX9_days : MethodName := ⟨RX9, "days", "(I)I"⟩
abbrev cX9_fades : ByteArray := prog_1_method_12_code
def yX9_fades : MethodName := ⟨RX9, "fades", "(I)I"⟩
abbrev cX9_say : ByteArray := prog_1_method_13_code
def yX9_say : MethodName := ⟨RX9, "say", "(III)I"⟩
abbrev cX9_give : ByteArray := prog_1_method_14_code
def yX9_give : MethodName := ⟨RX9, "give", "(III)I"⟩
abbrev cX9_fresh : ByteArray := prog_1_method_15_code
def yX9_fresh : MethodName := ⟨RX9, "fresh", "(I)I"⟩
abbrev cX9_anew : ByteArray := prog_1_method_16_code
def yX9_anew : MethodName := ⟨RX9, "anew", "(II)I"⟩
abbrev cX9_lifts : ByteArray := prog_1_method_17_code
def yX9_lifts : MethodName := ⟨RX9, "lifts", "(I)I"⟩
abbrev cX9_stands : ByteArray := prog_1_method_18_code
def yX9_stands : MethodName := ⟨RX9, "stands", "(II)I"⟩
abbrev cX9_carries : ByteArray := prog_1_method_19_code
def yX9_carries : MethodName := ⟨RX9, "carries", "(II)I"⟩
abbrev cX9_times : ByteArray := prog_1_method_20_code
def yX9_times : MethodName := ⟨RX9, "times", "(I)I"⟩
abbrev cX9_worth : ByteArray := prog_1_method_21_code
def yX9_worth : MethodName := ⟨RX9, "worth", "(I)I"⟩
abbrev cX9_upkeep : ByteArray := prog_1_method_22_code
def yX9_upkeep : MethodName := ⟨RX9, "upkeep", "(II)I"⟩
abbrev cX9_mayHave : ByteArray := prog_1_method_23_code
def yX9_mayHave : MethodName := ⟨RX9, "mayHave", "(I)I"⟩
abbrev cX9_line : ByteArray := prog_1_method_24_code
def yX9_line : MethodName := ⟨RX9, "line", "(II)I"⟩
abbrev cX9_silence : ByteArray := prog_1_method_25_code
def yX9_silence : MethodName := ⟨RX9, "silence", "()I"⟩
abbrev cX9_ways : ByteArray := prog_1_method_26_code
def yX9_ways : MethodName := ⟨RX9, "ways", "(I)I"⟩
abbrev cX9_mayBe : ByteArray := prog_1_method_27_code
def yX9_mayBe : MethodName := ⟨RX9, "mayBe", "(II)I"⟩
abbrev cX9_breaks : ByteArray := prog_1_method_28_code
def yX9_breaks : MethodName := ⟨RX9, "breaks", "(I)I"⟩
abbrev cX9_twins : ByteArray := prog_1_method_29_code
def yX9_twins : MethodName := ⟨RX9, "twins", "(I)I"⟩
abbrev cX9_keep : ByteArray := prog_1_method_30_code
def yX9_keep : MethodName := ⟨RX9, "keep", "(I)I"⟩
abbrev cX9_again : ByteArray := prog_1_method_31_code
def yX9_again : MethodName := ⟨RX9, "again", "(I)I"⟩
abbrev cX9_count : ByteArray := prog_1_method_32_code
def yX9_count : MethodName := ⟨RX9, "count", "(I)I"⟩
abbrev cX9_has : ByteArray := prog_1_method_33_code
def yX9_has : MethodName := ⟨RX9, "has", "(II)Z"⟩
abbrev cX9_isOldHouse : ByteArray := prog_1_method_34_code
def yX9_isOldHouse : MethodName := ⟨RX9, "isOldHouse", "(I)Z"⟩
abbrev cX9_slotAt : ByteArray := prog_1_method_35_code
def yX9_slotAt : MethodName := ⟨RX9, "slotAt", "(I)LOnlyNamed$Memory;"⟩
abbrev cX9_soundsOfAll : ByteArray := prog_1_method_36_code
def yX9_soundsOfAll : MethodName := ⟨RX9, "soundsOfAll", "()I"⟩
abbrev cX9_liveNamed : ByteArray := prog_1_method_37_code
def yX9_liveNamed : MethodName := ⟨RX9, "liveNamed", "(I)I"⟩
abbrev cX9_freshName : ByteArray := prog_1_method_38_code
def yX9_freshName : MethodName := ⟨RX9, "freshName", "()I"⟩
abbrev cX9_nearTo : ByteArray := prog_1_method_39_code
def yX9_nearTo : MethodName := ⟨RX9, "nearTo", "(II)I"⟩
abbrev cX9_clearOnes : ByteArray := prog_1_method_40_code
def yX9_clearOnes : MethodName := ⟨RX9, "clearOnes", "()I"⟩
abbrev cX9_liftedBy : ByteArray := prog_1_method_41_code
def yX9_liftedBy : MethodName := ⟨RX9, "liftedBy", "(II)I"⟩
abbrev cX9_gatherCarriers : ByteArray := prog_1_method_42_code
def yX9_gatherCarriers : MethodName := ⟨RX9, "gatherCarriers", "()V"⟩
def RX10 : String := "OnlyNamedModel"
def TX10 : u_T := fun k => match k with
  | 0 => ("OnlyNamedModel", "readSounds", "[I", true)
  | 1 => ("OnlyNamedModel", "readSizes", "[I", true)
  | 2 => ("OnlyNamedModel", "readKnows", "[I", true)
  | 3 => ("OnlyNamedModel", "readBears", "[I", true)
  | 4 => ("OnlyNamedModel", "readNear", "I", false)
  | 5 => ("OnlyNamedModel", "readThings", "I", false)
  | 6 => ("OnlyNamedModel", "readPeople", "I", false)
  | 7 => ("OnlyNamedModel", "sounds", "[I", true)
  | 8 => ("OnlyNamedModel", "sizes", "[I", true)
  | 9 => ("OnlyNamedModel", "knows", "[I", true)
  | 10 => ("OnlyNamedModel", "said", "[I", true)
  | 11 => ("OnlyNamedModel", "bears", "[I", true)
  | 12 => ("OnlyNamedModel", "near", "I", false)
  | 13 => ("OnlyNamedModel", "things", "I", false)
  | 14 => ("OnlyNamedModel", "people", "I", false)
  | 15 => ("OnlyNamedModel", "day", "I", false)
  | 16 => ("OnlyNamedModel", "text", "[I", true)
  | 17 => ("OnlyNamedModel", "length", "I", false)
  | 18 => ("OnlyNamedModel", "at", "I", false)
  | 19 => ("OnlyNamedModel", "faultAt", "I", false)
  | 20 => ("OnlyNamedModel", "tried", "[I", true)
  | 21 => ("OnlyNamedModel", "triedSize", "I", false)
  | 22 => ("OnlyNamedModel", "offRow", "[I", true)
  | 23 => ("OnlyNamedModel", "can", "[Z", true)
  | 24 => ("OnlyNamedModel", "bornes", "[Z", true)
  | 25 => ("OnlyNamedModel", "many", "[I", true)
  | 26 => ("OnlyNamedModel", "lines", "I", false)
  | 27 => ("OnlyNamedModel", "lineName", "[I", true)
  | 28 => ("OnlyNamedModel", "lineThings", "[I", true)
  | 29 => ("OnlyNamedModel", "gives", "[I", true)
  | 30 => ("OnlyNamedModel", "allowed", "[I", true)
  | 31 => ("OnlyNamedModel", "isKept", "[Z", true)
  | 32 => ("OnlyNamedModel", "keptSounds", "[I", true)
  | 33 => ("OnlyNamedModel", "keptSizes", "[I", true)
  | 34 => ("OnlyNamedModel", "keptKnows", "[I", true)
  | 35 => ("OnlyNamedModel", "keptSaid", "[I", true)
  | _ => ("OnlyNamedModel", "keptDay", "[I", true)
def tyX10 : Nat → FieldType := fun k => match k with
  | 0 => .array .int
  | 1 => .array .int
  | 2 => .array .int
  | 3 => .array .int
  | 4 => .int
  | 5 => .int
  | 6 => .int
  | 7 => .array .int
  | 8 => .array .int
  | 9 => .array .int
  | 10 => .array .int
  | 11 => .array .int
  | 12 => .int
  | 13 => .int
  | 14 => .int
  | 15 => .int
  | 16 => .array .int
  | 17 => .int
  | 18 => .int
  | 19 => .int
  | 20 => .array .int
  | 21 => .int
  | 22 => .array .int
  | 23 => .array .boolean
  | 24 => .array .boolean
  | 25 => .array .int
  | 26 => .int
  | 27 => .array .int
  | 28 => .array .int
  | 29 => .array .int
  | 30 => .array .int
  | 31 => .array .boolean
  | 32 => .array .int
  | 33 => .array .int
  | 34 => .array .int
  | 35 => .array .int
  | _ => .array .int
abbrev wsX100 : List Cond := u_ws RX10 TX10 37
theorem nmX10 : ∀ a, a < 37 → ∀ b, b < 37 → a ≠ b → (TX10 a).2.1 ≠ (TX10 b).2.1 := by decide +kernel
theorem tyX10_ok : ∀ k, k < 37 → parseFieldDescriptor (TX10 k).2.2.1 = some (tyX10 k) := by decide +kernel
abbrev cX10_init : ByteArray := prog_12_method_1_code
def yX10_init : MethodName := ⟨RX10, "<init>", "()V"⟩
abbrev cX10_in : ByteArray := prog_12_method_3_code
def yX10_in : MethodName := ⟨RX10, "in", "(JJJ)Z"⟩
abbrev cX10_write : ByteArray := prog_12_method_4_code
def yX10_write : MethodName := ⟨RX10, "write", "(IJ)I"⟩
abbrev cX10_wipe : ByteArray := prog_12_method_5_code
def yX10_wipe : MethodName := ⟨RX10, "wipe", "()I"⟩
abbrev cX10_here : ByteArray := prog_12_method_6_code
def yX10_here : MethodName := ⟨RX10, "here", "()I"⟩
abbrev cX10_fail : ByteArray := prog_12_method_7_code
def yX10_fail : MethodName := ⟨RX10, "fail", "()V"⟩
abbrev cX10_figure : ByteArray := prog_12_method_8_code
def yX10_figure : MethodName := ⟨RX10, "figure", "(I)I"⟩
abbrev cX10_open : ByteArray := prog_12_method_9_code
def yX10_open : MethodName := ⟨RX10, "open", "()I"⟩
abbrev cX10_unknown : ByteArray := prog_12_method_10_code
def yX10_unknown : MethodName := ⟨RX10, "unknown", "(I)I"⟩
abbrev cX10_readText : ByteArray := prog_12_method_11_code
def yX10_readText : MethodName := ⟨RX10, "readText", "()I"⟩
abbrev cX10_isTold : ByteArray := prog_12_method_12_code
def yX10_isTold : MethodName := ⟨RX10, "isTold", "()Z"⟩
abbrev cX10_readName : ByteArray := prog_12_method_13_code
def yX10_readName : MethodName := ⟨RX10, "readName", "()V"⟩
abbrev cX10_fault : ByteArray := prog_12_method_14_code
def yX10_fault : MethodName := ⟨RX10, "fault", "()I"⟩
abbrev cX10_house : ByteArray := prog_12_method_15_code
def yX10_house : MethodName := ⟨RX10, "house", "()I"⟩
abbrev cX10_isThing : ByteArray := prog_12_method_16_code
def yX10_isThing : MethodName := ⟨RX10, "isThing", "(I)Z"⟩
abbrev cX10_isPerson : ByteArray := prog_12_method_17_code
def yX10_isPerson : MethodName := ⟨RX10, "isPerson", "(I)Z"⟩
abbrev cX10_sound : ByteArray := prog_12_method_18_code
def yX10_sound : MethodName := ⟨RX10, "sound", "(II)I"⟩
abbrev cX10_least : ByteArray := prog_12_method_19_code
def yX10_least : MethodName := ⟨RX10, "least", "(III)I"⟩
abbrev cX10_offTried : ByteArray := prog_12_method_20_code
def yX10_offTried : MethodName := ⟨RX10, "offTried", "(I)I"⟩
abbrev cX10_offOf : ByteArray := prog_12_method_21_code
def yX10_offOf : MethodName := ⟨RX10, "offOf", "(II)I"⟩
abbrev cX10_off : ByteArray := prog_12_method_22_code
def yX10_off : MethodName := ⟨RX10, "off", "(II)I"⟩
abbrev cX10_isLive : ByteArray := prog_12_method_23_code
def yX10_isLive : MethodName := ⟨RX10, "isLive", "(I)Z"⟩
abbrev cX10_nearTo : ByteArray := prog_12_method_24_code
def yX10_nearTo : MethodName := ⟨RX10, "nearTo", "(I)I"⟩
abbrev cX10_near : ByteArray := prog_12_method_25_code
def yX10_near : MethodName := ⟨RX10, "near", "(I)I"⟩
abbrev cX10_knows : ByteArray := prog_12_method_26_code
def yX10_knows : MethodName := ⟨RX10, "knows", "(I)I"⟩
abbrev cX10_liveSet : ByteArray := prog_12_method_27_code
def yX10_liveSet : MethodName := ⟨RX10, "liveSet", "()I"⟩
abbrev cX10_live : ByteArray := prog_12_method_28_code
def yX10_live : MethodName := ⟨RX10, "live", "()I"⟩
abbrev cX10_days : ByteArray := prog_12_method_29_code
def yX10_days : MethodName := ⟨RX10, "days", "(I)I"⟩
abbrev cX10_fades : ByteArray := prog_12_method_30_code
def yX10_fades : MethodName := ⟨RX10, "fades", "(I)I"⟩
abbrev cX10_isKnown : ByteArray := prog_12_method_31_code
def yX10_isKnown : MethodName := ⟨RX10, "isKnown", "(II)Z"⟩
abbrev cX10_say : ByteArray := prog_12_method_32_code
def yX10_say : MethodName := ⟨RX10, "say", "(III)I"⟩
abbrev cX10_give : ByteArray := prog_12_method_33_code
def yX10_give : MethodName := ⟨RX10, "give", "(III)I"⟩
abbrev cX10_layFresh : ByteArray := prog_12_method_34_code
def yX10_layFresh : MethodName := ⟨RX10, "layFresh", "()Z"⟩
abbrev cX10_fresh : ByteArray := prog_12_method_35_code
def yX10_fresh : MethodName := ⟨RX10, "fresh", "(I)I"⟩
abbrev cX10_anew : ByteArray := prog_12_method_36_code
def yX10_anew : MethodName := ⟨RX10, "anew", "(II)I"⟩
abbrev cX10_liftsOf : ByteArray := prog_12_method_37_code
def yX10_liftsOf : MethodName := ⟨RX10, "liftsOf", "(I)I"⟩
abbrev cX10_lifts : ByteArray := prog_12_method_38_code
def yX10_lifts : MethodName := ⟨RX10, "lifts", "(I)I"⟩
abbrev cX10_isThings : ByteArray := prog_12_method_39_code
def yX10_isThings : MethodName := ⟨RX10, "isThings", "(I)Z"⟩
abbrev cX10_breaksAt : ByteArray := prog_12_method_40_code
def yX10_breaksAt : MethodName := ⟨RX10, "breaksAt", "(III)I"⟩
abbrev cX10_stands : ByteArray := prog_12_method_41_code
def yX10_stands : MethodName := ⟨RX10, "stands", "(II)I"⟩
abbrev cX10_layCan : ByteArray := prog_12_method_42_code
def yX10_layCan : MethodName := ⟨RX10, "layCan", "(I)V"⟩
abbrev cX10_leastLoad : ByteArray := prog_12_method_43_code
def yX10_leastLoad : MethodName := ⟨RX10, "leastLoad", "(II)I"⟩
abbrev cX10_carries : ByteArray := prog_12_method_44_code
def yX10_carries : MethodName := ⟨RX10, "carries", "(II)I"⟩
abbrev cX10_timesOf : ByteArray := prog_12_method_45_code
def yX10_timesOf : MethodName := ⟨RX10, "timesOf", "(I)I"⟩
abbrev cX10_times : ByteArray := prog_12_method_46_code
def yX10_times : MethodName := ⟨RX10, "times", "(I)I"⟩
abbrev cX10_worth : ByteArray := prog_12_method_47_code
def yX10_worth : MethodName := ⟨RX10, "worth", "(I)I"⟩
abbrev cX10_upkeep : ByteArray := prog_12_method_48_code
def yX10_upkeep : MethodName := ⟨RX10, "upkeep", "(II)I"⟩
abbrev cX10_mayHave : ByteArray := prog_12_method_49_code
def yX10_mayHave : MethodName := ⟨RX10, "mayHave", "(I)I"⟩
abbrev cX10_line : ByteArray := prog_12_method_50_code
def yX10_line : MethodName := ⟨RX10, "line", "(II)I"⟩
abbrev cX10_silence : ByteArray := prog_12_method_51_code
def yX10_silence : MethodName := ⟨RX10, "silence", "()I"⟩
abbrev cX10_waysBy : ByteArray := prog_12_method_52_code
def yX10_waysBy : MethodName := ⟨RX10, "waysBy", "(II)I"⟩
abbrev cX10_givings : ByteArray := prog_12_method_53_code
def yX10_givings : MethodName := ⟨RX10, "givings", "(I)I"⟩
abbrev cX10_ways : ByteArray := prog_12_method_54_code
def yX10_ways : MethodName := ⟨RX10, "ways", "(I)I"⟩
abbrev cX10_mayBe : ByteArray := prog_12_method_55_code
def yX10_mayBe : MethodName := ⟨RX10, "mayBe", "(II)I"⟩
abbrev cX10_breaks : ByteArray := prog_12_method_56_code
def yX10_breaks : MethodName := ⟨RX10, "breaks", "(I)I"⟩
abbrev cX10_twins : ByteArray := prog_12_method_57_code
def yX10_twins : MethodName := ⟨RX10, "twins", "(I)I"⟩
abbrev cX10_keep : ByteArray := prog_12_method_58_code
def yX10_keep : MethodName := ⟨RX10, "keep", "(I)I"⟩
abbrev cX10_again : ByteArray := prog_12_method_59_code
def yX10_again : MethodName := ⟨RX10, "again", "(I)I"⟩
abbrev cX10_count : ByteArray := prog_12_method_60_code
def yX10_count : MethodName := ⟨RX10, "count", "(I)I"⟩
def RJ6 : String := "java/lang/Integer"
def TJ6 : u_T := fun k => match k with
  | _ => ("", "", "", false)
def tyJ6 : Nat → FieldType := fun k => match k with
  | _ => .int
abbrev wsJ60 : List Cond := u_ws RJ6 TJ6 0
theorem nmJ6 : ∀ a, a < 0 → ∀ b, b < 0 → a ≠ b → (TJ6 a).2.1 ≠ (TJ6 b).2.1 := by decide +kernel
theorem tyJ6_ok : ∀ k, k < 0 → parseFieldDescriptor (TJ6 k).2.2.1 = some (tyJ6 k) := by decide +kernel
abbrev cJ6_bitCount_0f7a4 : ByteArray := prog_13_method_49_code
def yJ6_bitCount_0f7a4 : MethodName := ⟨RJ6, "bitCount", "(I)I"⟩
def RJ9 : String := "java/lang/Math"
def TJ9 : u_T := fun k => match k with
  | _ => ("", "", "", false)
def tyJ9 : Nat → FieldType := fun k => match k with
  | _ => .int
abbrev wsJ90 : List Cond := u_ws RJ9 TJ9 0
theorem nmJ9 : ∀ a, a < 0 → ∀ b, b < 0 → a ≠ b → (TJ9 a).2.1 ≠ (TJ9 b).2.1 := by decide +kernel
theorem tyJ9_ok : ∀ k, k < 0 → parseFieldDescriptor (TJ9 k).2.2.1 = some (tyJ9 k) := by decide +kernel
abbrev cJ9_max_7cf53 : ByteArray := prog_14_method_65_code
def yJ9_max_7cf53 : MethodName := ⟨RJ9, "max", "(II)I"⟩
abbrev cJ9_min_7cf53 : ByteArray := prog_14_method_69_code
def yJ9_min_7cf53 : MethodName := ⟨RJ9, "min", "(II)I"⟩
def RL : String := "OnlyNamedLaw"
abbrev cL_law : ByteArray := code
def yL_law : MethodName := ⟨RL, "law", "([I)Z"⟩
abbrev vwCl : List vw_C := [(RX0, TX0, 5), (RX1, TX1, 4), (RX2, TX2, 5), (RX4, TX4, 3), (RX5, TX5, 3), (RX6, TX6, 5), (RX7, TX7, 11), (RX8, TX8, 2), (RX9, TX9, 9), (RX10, TX10, 37)]
end
section
/-! AN INTERPRETER OVER ABSTRACT STATES: whole numbers for ints and longs, cells by number (0: null, 1: the script, from 2 on the objects in the order in which they are made) -/
abbrev ivV : Type := Int ⊕ (Int ⊕ (Nat ⊕ Unit))
abbrev ivI (x : Int) : ivV := .inl x
abbrev ivJ (x : Int) : ivV := .inr (.inl x)
abbrev ivR (a : Nat) : ivV := .inr (.inr (.inl a))
abbrev ivU : ivV := .inr (.inr (.inr ()))
abbrev ivM : Type := Nat → Nat → Int
abbrev ivN : Type := Nat → Nat → Nat
/-- a heap: how many cells there are; what ints they hold; what references -/
abbrev ivS : Type := Nat × ivM × ivN
/-- an instruction: its place, itself, its length, three numbers that a program read off the pool (field: class, place; call: method, how many values; ..), the place of its word in lw_tbl -/
abbrev ivE : Type := Nat × Instr × Nat × Nat × Nat × Int × Nat
def iv_wr (x : Int) : Int := (Int32.ofInt x).toInt
def iv_wl (x : Int) : Int := (Int64.ofInt x).toInt
def iv_and (x y : Int) : Int := (Int32.ofInt x &&& Int32.ofInt y).toInt
def iv_or (x y : Int) : Int := (Int32.ofInt x ||| Int32.ofInt y).toInt
def iv_xor (x y : Int) : Int := (Int32.ofInt x ^^^ Int32.ofInt y).toInt
def iv_shl (x y : Int) : Int := (Int32.ofInt x <<< (Int32.ofInt y &&& 31)).toInt
def iv_shr (x y : Int) : Int := (Int32.ofInt x >>> (Int32.ofInt y &&& 31)).toInt
def iv_ushr (x y : Int) : Int := ((Int32.ofInt x).toUInt32 >>> ((Int32.ofInt y).toUInt32 &&& Int32.toUInt32 31)).toInt32.toInt
def iv_div (x y : Int) : Int := (Int32.ofInt x / Int32.ofInt y).toInt
def iv_rem (x y : Int) : Int := (Int32.ofInt x - Int32.ofInt x / Int32.ofInt y * Int32.ofInt y).toInt
def iv_land (x y : Int) : Int := (Int64.ofInt x &&& Int64.ofInt y).toInt
def iv_lor (x y : Int) : Int := (Int64.ofInt x ||| Int64.ofInt y).toInt
def iv_lshl (x y : Int) : Int := (Int64.ofInt x <<< ((Int32.ofInt y).toInt64 &&& 63)).toInt
def iv_lshr (x y : Int) : Int := (Int64.ofInt x >>> ((Int32.ofInt y).toInt64 &&& 63)).toInt
def iv_lushr (x y : Int) : Int := ((Int64.ofInt x).toUInt64 >>> ((Int32.ofInt y).toInt64.toUInt64 &&& Int64.toUInt64 63)).toInt64.toInt
def iv_lcmp (x y : Int) : Int := if y < x then 1 else if x = y then 0 else -1
def iv_cmp (c : Jvm.ClassFile.Cond) (x y : Int) : Bool := match c with
  | .eq => decide (x = y)
  | .ne => decide (¬ x = y)
  | .lt => decide (x < y)
  | .ge => decide (y ≤ x)
  | .gt => decide (y < x)
  | .le => decide (x ≤ y)
def iv_upd (f : ivM) (a k : Nat) (v : Int) : ivM := fun a' k' => if a' = a ∧ k' = k then v else f a' k'
def iv_updR (f : ivN) (a k v : Nat) : ivN := fun a' k' => if a' = a ∧ k' = k then v else f a' k'
def iv_zer (f : ivM) (lo hi : Nat) : ivM := fun a' k' => if lo ≤ a' ∧ a' ≤ hi then 0 else f a' k'
def iv_zerR (f : ivN) (lo hi : Nat) : ivN := fun a' k' => if lo ≤ a' ∧ a' ≤ hi then 0 else f a' k'
/-- a first row of references: its places name the cells behind it -/
def iv_row (f : ivN) (a N : Nat) : ivN := fun a' k' => if a' = a then (if k' < N then a + 1 + k' else 0) else f a' k'
def iv_c1 (v : ivV) : Bool := match v with
  | .inl _ => true
  | .inr (.inl _) => false
  | .inr (.inr (.inl _)) => true
  | .inr (.inr (.inr _)) => false
def iv_lg (v : ivV) : Bool := match v with
  | .inr (.inl _) => true
  | _ => false
/-- a store ends a long that stands ahead of it -/
def iv_un (v : ivV) : ivV := match v with
  | .inr (.inl _) => ivU
  | v => v
def iv_unl (ls : List ivV) (i : Nat) : List ivV := match i with
  | 0 => ls
  | j + 1 => ls.set j (iv_un (ls.getD j ivU))
end
section
/-! THE TABLES (printed by wip/gen/tab.py): cells, field kinds, methods, instructions -/
def iv_Y : List (List (Nat × Nat × Nat)) := [[(9, 0, 0), (9, 0, 0), (0, 8, 9), (0, 7, 2), (1, 0, 96), (0, 6, 11), (1, 0, 8), (1, 0, 8), (1, 0, 6), (0, 1, 4), (1, 0, 6), (0, 2, 5), (1, 0, 8), (1, 0, 8), (1, 0, 8), (1, 2, 2)],
  [(0, 2, 5), (1, 0, 8), (1, 0, 8), (1, 0, 8), (0, 2, 5), (1, 0, 8), (1, 0, 8), (1, 0, 8), (0, 3, 3), (1, 4, 6), (1, 0, 6), (1, 0, 6), (1, 0, 6), (1, 0, 6), (1, 0, 6), (1, 0, 6)],
  [(0, 4, 3), (1, 0, 5), (1, 3, 8), (0, 3, 3), (1, 4, 6), (1, 0, 6), (1, 0, 6), (1, 0, 6), (1, 0, 6), (1, 0, 6), (1, 0, 6), (0, 3, 3), (1, 4, 6), (1, 0, 6), (1, 0, 6), (1, 0, 6)],
  [(1, 0, 6), (1, 0, 6), (1, 0, 6), (0, 3, 3), (1, 4, 6), (1, 0, 6), (1, 0, 6), (1, 0, 6), (1, 0, 6), (1, 0, 6), (1, 0, 6), (0, 3, 3), (1, 4, 6), (1, 0, 6), (1, 0, 6), (1, 0, 6)],
  [(1, 0, 6), (1, 0, 6), (1, 0, 6), (0, 3, 3), (1, 4, 6), (1, 0, 6), (1, 0, 6), (1, 0, 6), (1, 0, 6), (1, 0, 6), (1, 0, 6), (0, 3, 3), (1, 4, 6), (1, 0, 6), (1, 0, 6), (1, 0, 6)],
  [(1, 0, 6), (1, 0, 6), (1, 0, 6), (0, 3, 3), (1, 4, 6), (1, 0, 6), (1, 0, 6), (1, 0, 6), (1, 0, 6), (1, 0, 6), (1, 0, 6), (0, 3, 3), (1, 4, 6), (1, 0, 6), (1, 0, 6), (1, 0, 6)],
  [(1, 0, 6), (1, 0, 6), (1, 0, 6), (0, 0, 5), (1, 0, 6), (1, 0, 6), (1, 0, 8), (1, 0, 256), (1, 0, 256), (0, 5, 5), (1, 0, 16), (1, 0, 16), (1, 0, 8), (1, 0, 256), (0, 9, 37), (1, 0, 40)],
  [(1, 0, 8), (1, 0, 8), (1, 0, 6), (1, 0, 40), (1, 0, 8), (1, 0, 8), (1, 0, 8), (1, 0, 6), (1, 0, 96), (1, 0, 5), (1, 0, 36), (1, 1, 1792), (1, 1, 1536), (1, 0, 256), (1, 0, 16), (1, 0, 16)],
  [(1, 0, 256), (1, 0, 8), (1, 1, 2), (1, 0, 80), (1, 0, 16), (1, 0, 16), (1, 0, 16), (1, 0, 2)]]
def iv_F : List (List Nat) := [[2, 2, 2, 2, 2], [2, 0, 0, 0], [2, 2, 2, 0, 1], [2, 0, 0], [2, 2, 0], [0, 2, 2, 2, 2], [2, 2, 2, 0, 0, 0, 0, 0, 0, 0, 0], [2, 0], [2, 2, 2, 2, 2, 2, 2, 2, 2], [2, 2, 2, 2, 0, 0, 0, 2, 2, 2, 2, 2, 0, 0, 0, 0, 2, 0, 0, 0, 2, 0, 2, 2, 2, 2, 0, 2, 2, 2, 2, 2, 2, 2, 2, 2, 2]]
def iv_fty (ci k : Nat) : Nat := (iv_F.getD ci []).getD k 9
/-- a cell's kind: (0, class, how many fields), (1, kind of its places, how many) -/
def iv_lay (L a : Nat) : Nat × Nat × Nat := bif Nat.beq a 1 then (1, 0, L) else (iv_Y.getD (a / 16) []).getD (a % 16) (9, 0, 0)
def iv_six (L n : Nat) : Bool := decide (iv_lay L (n + 1) = (1, 4, 6)) && (decide (iv_lay L (n + 2) = (1, 0, 6)) && (decide (iv_lay L (n + 3) = (1, 0, 6)) && (decide (iv_lay L (n + 4) = (1, 0, 6)) && (decide (iv_lay L (n + 5) = (1, 0, 6)) && (decide (iv_lay L (n + 6) = (1, 0, 6)) && decide (iv_lay L (n + 7) = (1, 0, 6)))))))
def iv_rfs : List ((Nat × Nat) × Nat) := [((2, 0), 3), ((2, 1), 5), ((2, 2), 9), ((2, 3), 11), ((2, 4), 15), ((2, 5), 24), ((2, 6), 32), ((2, 7), 99), ((2, 8), 105), ((3, 0), 4), ((5, 0), 6), ((5, 1), 7), ((5, 2), 8), ((9, 0), 10), ((11, 0), 12), ((11, 1), 13), ((11, 2), 14), ((15, 0), 16), ((15, 1), 20), ((16, 0), 17), ((16, 1), 18), ((16, 2), 19), ((20, 0), 21), ((20, 1), 22), ((20, 2), 23), ((24, 0), 25), ((25, 0), 26), ((25, 1), 27), ((25, 2), 28), ((25, 3), 29), ((25, 4), 30), ((25, 5), 31), ((32, 0), 34), ((32, 1), 33), ((34, 0), 35), ((34, 1), 43), ((34, 2), 51), ((34, 3), 59), ((34, 4), 67), ((34, 5), 75), ((34, 6), 83), ((34, 7), 91), ((35, 0), 36), ((36, 0), 37), ((36, 1), 38), ((36, 2), 39), ((36, 3), 40), ((36, 4), 41), ((36, 5), 42), ((43, 0), 44), ((44, 0), 45), ((44, 1), 46), ((44, 2), 47), ((44, 3), 48), ((44, 4), 49), ((44, 5), 50), ((51, 0), 52), ((52, 0), 53), ((52, 1), 54), ((52, 2), 55), ((52, 3), 56), ((52, 4), 57), ((52, 5), 58), ((59, 0), 60), ((60, 0), 61), ((60, 1), 62), ((60, 2), 63), ((60, 3), 64), ((60, 4), 65), ((60, 5), 66), ((67, 0), 68), ((68, 0), 69), ((68, 1), 70), ((68, 2), 71), ((68, 3), 72), ((68, 4), 73), ((68, 5), 74), ((75, 0), 76), ((76, 0), 77), ((76, 1), 78), ((76, 2), 79), ((76, 3), 80), ((76, 4), 81), ((76, 5), 82), ((83, 0), 84), ((84, 0), 85), ((84, 1), 86), ((84, 2), 87), ((84, 3), 88), ((84, 4), 89), ((84, 5), 90), ((91, 0), 92), ((92, 0), 93), ((92, 1), 94), ((92, 2), 95), ((92, 3), 96), ((92, 4), 97), ((92, 5), 98), ((99, 0), 100), ((99, 1), 101), ((99, 2), 102), ((99, 3), 103), ((99, 4), 104), ((105, 1), 106), ((105, 2), 107), ((105, 3), 108), ((105, 4), 109), ((110, 0), 111), ((110, 1), 112), ((110, 2), 113), ((110, 3), 114), ((110, 7), 115), ((110, 8), 116), ((110, 9), 117), ((110, 10), 118), ((110, 11), 119), ((110, 16), 120), ((110, 20), 121), ((110, 22), 122), ((110, 23), 123), ((110, 24), 124), ((110, 25), 125), ((110, 27), 126), ((110, 28), 127), ((110, 29), 128), ((110, 30), 129), ((110, 31), 130), ((110, 32), 131), ((110, 33), 132), ((110, 34), 133), ((110, 35), 134), ((110, 36), 135)]
def iv_k0 : List (List ivE) := [[(0, .aload_n 0, 1, 0, 0, 0, 0), (1, .invokespecial 3, 3, 1000, 0, 0, 235), (4, .aload_n 0, 1, 0, 0, 0, 0), (5, .bipush 6, 2, 0, 0, 0, 0), (7, .newarray .int, 2, 0, 0, 0, 0), (9, .putfield 9, 3, 0, 0, 0, 236), (12, .aload_n 0, 1, 0, 0, 0, 0), (13, .bipush 6, 2, 0, 0, 0, 0), (15, .newarray .int, 2, 0, 0, 0, 0)],
  [(17, .putfield 15, 3, 0, 1, 0, 238), (20, .aload_n 0, 1, 0, 0, 0, 0), (21, .bipush 8, 2, 0, 0, 0, 0), (23, .newarray .int, 2, 0, 0, 0, 0), (25, .putfield 18, 3, 0, 2, 0, 240), (28, .aload_n 0, 1, 0, 0, 0, 0), (29, .sipush 256, 3, 0, 0, 0, 0)],
  [(32, .newarray .int, 2, 0, 0, 0, 0), (34, .putfield 21, 3, 0, 3, 0, 242), (37, .aload_n 0, 1, 0, 0, 0, 0), (38, .sipush 256, 3, 0, 0, 0, 0), (41, .newarray .int, 2, 0, 0, 0, 0), (43, .putfield 24, 3, 0, 4, 0, 243), (46, .return_, 1, 0, 0, 0, 0)]]
def iv_k1 : List (List ivE) := [[(0, .iconst 0, 1, 0, 0, 0, 0), (1, .istore_n 1, 1, 0, 0, 0, 0), (2, .iconst 0, 1, 0, 0, 0, 0), (3, .istore_n 2, 1, 0, 0, 0, 0), (4, .iload_n 2, 1, 0, 0, 0, 0), (5, .bipush 6, 2, 0, 0, 0, 0), (7, .if_icmp .ge 18, 3, 0, 0, 0, 0), (10, .iload_n 1, 1, 0, 0, 0, 0), (11, .aload_n 0, 1, 0, 0, 0, 0), (12, .getfield 9, 3, 0, 0, 0, 236), (15, .iload_n 2, 1, 0, 0, 0, 0)],
  [(16, .iaload, 1, 0, 0, 0, 0), (17, .ior, 1, 0, 0, 0, 0), (18, .istore_n 1, 1, 0, 0, 0, 0), (19, .iinc 2 1, 3, 0, 0, 0, 0), (22, .goto (-18), 3, 0, 0, 0, 0), (25, .iload_n 1, 1, 0, 0, 0, 0), (26, .ireturn, 1, 0, 0, 0, 0)]]
def iv_k2 : List (List ivE) := [[(0, .aload_n 0, 1, 0, 0, 0, 0), (1, .getfield 21, 3, 0, 3, 0, 242), (4, .iconst 0, 1, 0, 0, 0, 0), (5, .iconst 0, 1, 0, 0, 0, 0), (6, .iastore, 1, 0, 0, 0, 0), (7, .aload_n 0, 1, 0, 0, 0, 0), (8, .getfield 24, 3, 0, 4, 0, 243), (11, .iconst 0, 1, 0, 0, 0, 0), (12, .iconst 0, 1, 0, 0, 0, 0), (13, .iastore, 1, 0, 0, 0, 0), (14, .iconst 1, 1, 0, 0, 0, 0), (15, .istore_n 2, 1, 0, 0, 0, 0)],
  [(16, .iload_n 2, 1, 0, 0, 0, 0), (17, .iload_n 1, 1, 0, 0, 0, 0), (18, .if_icmp .gt 37, 3, 0, 0, 0, 0), (21, .iload_n 2, 1, 0, 0, 0, 0), (22, .sipush 256, 3, 0, 0, 0, 0), (25, .if_icmp .ge 30, 3, 0, 0, 0, 0), (28, .iload_n 2, 1, 0, 0, 0, 0), (29, .iload_n 1, 1, 0, 0, 0, 0), (30, .iconst (-1), 1, 0, 0, 0, 0), (31, .ixor, 1, 0, 0, 0, 0)],
  [(32, .iand, 1, 0, 0, 0, 0), (33, .ifCond .ne 16, 3, 0, 0, 0, 0), (36, .aload_n 0, 1, 0, 0, 0, 0), (37, .getfield 21, 3, 0, 3, 0, 242), (40, .iload_n 2, 1, 0, 0, 0, 0), (41, .bipush (-9), 2, 0, 0, 0, 0), (43, .iastore, 1, 0, 0, 0, 0), (44, .aload_n 0, 1, 0, 0, 0, 0), (45, .iload_n 2, 1, 0, 0, 0, 0), (46, .invokevirtual 27, 3, 3, 2, 0, 574)],
  [(49, .iinc 2 1, 3, 0, 0, 0, 0), (52, .goto (-36), 3, 0, 0, 0, 0), (55, .return_, 1, 0, 0, 0, 0)]]
def iv_k3 : List (List ivE) := [[(0, .iconst 0, 1, 0, 0, 0, 0), (1, .istore_n 2, 1, 0, 0, 0, 0), (2, .iload_n 2, 1, 0, 0, 0, 0), (3, .bipush 8, 2, 0, 0, 0, 0), (5, .if_icmp .ge 38, 3, 0, 0, 0, 0), (8, .iload_n 1, 1, 0, 0, 0, 0), (9, .iload_n 2, 1, 0, 0, 0, 0), (10, .invokestatic 31, 3, 98, 2, 1, 578), (13, .ifCond .eq 24, 3, 0, 0, 0, 0)],
  [(16, .aload_n 0, 1, 0, 0, 0, 0), (17, .getfield 21, 3, 0, 3, 0, 242), (20, .iload_n 1, 1, 0, 0, 0, 0), (21, .iconst 1, 1, 0, 0, 0, 0), (22, .iload_n 2, 1, 0, 0, 0, 0), (23, .ishl, 1, 0, 0, 0, 0), (24, .ixor, 1, 0, 0, 0, 0), (25, .iaload, 1, 0, 0, 0, 0), (26, .bipush (-9), 2, 0, 0, 0, 0), (28, .if_icmp .eq 9, 3, 0, 0, 0, 0), (31, .aload_n 0, 1, 0, 0, 0, 0)],
  [(32, .iload_n 1, 1, 0, 0, 0, 0), (33, .iload_n 2, 1, 0, 0, 0, 0), (34, .invokevirtual 35, 3, 4, 3, 0, 579), (37, .iinc 2 1, 3, 0, 0, 0, 0), (40, .goto (-38), 3, 0, 0, 0, 0), (43, .return_, 1, 0, 0, 0, 0)]]
def iv_k4 : List (List ivE) := [[(0, .iload_n 1, 1, 0, 0, 0, 0), (1, .iconst 1, 1, 0, 0, 0, 0), (2, .iload_n 2, 1, 0, 0, 0, 0), (3, .ishl, 1, 0, 0, 0, 0), (4, .ixor, 1, 0, 0, 0, 0), (5, .istore_n 3, 1, 0, 0, 0, 0), (6, .aload_n 0, 1, 0, 0, 0, 0), (7, .getfield 21, 3, 0, 3, 0, 242), (10, .iload_n 3, 1, 0, 0, 0, 0), (11, .iaload, 1, 0, 0, 0, 0), (12, .istore 4, 2, 0, 0, 0, 0), (14, .aload_n 0, 1, 0, 0, 0, 0), (15, .getfield 24, 3, 0, 4, 0, 243)],
  [(18, .iload_n 3, 1, 0, 0, 0, 0), (19, .iaload, 1, 0, 0, 0, 0), (20, .aload_n 0, 1, 0, 0, 0, 0), (21, .getfield 18, 3, 0, 2, 0, 240), (24, .iload_n 2, 1, 0, 0, 0, 0), (25, .iaload, 1, 0, 0, 0, 0), (26, .iadd, 1, 0, 0, 0, 0), (27, .istore 5, 2, 0, 0, 0, 0), (29, .iload 4, 2, 0, 0, 0, 0), (31, .ifCond .le 25, 3, 0, 0, 0, 0)],
  [(34, .aload_n 0, 1, 0, 0, 0, 0), (35, .iload 4, 2, 0, 0, 0, 0), (37, .iload_n 2, 1, 0, 0, 0, 0), (38, .iload 5, 2, 0, 0, 0, 0), (40, .invokevirtual 39, 3, 6, 4, 0, 583), (43, .ifCond .eq 13, 3, 0, 0, 0, 0), (46, .aload_n 0, 1, 0, 0, 0, 0), (47, .iload_n 1, 1, 0, 0, 0, 0)],
  [(48, .iload 4, 2, 0, 0, 0, 0), (50, .iload 5, 2, 0, 0, 0, 0), (52, .invokevirtual 43, 3, 5, 4, 0, 587), (55, .return_, 1, 0, 0, 0, 0), (56, .iload 4, 2, 0, 0, 0, 0), (58, .iconst 1, 1, 0, 0, 0, 0), (59, .iadd, 1, 0, 0, 0, 0), (60, .istore 6, 2, 0, 0, 0, 0), (62, .iload 6, 2, 0, 0, 0, 0)],
  [(64, .iload 4, 2, 0, 0, 0, 0), (66, .bipush 6, 2, 0, 0, 0, 0), (68, .iadd, 1, 0, 0, 0, 0), (69, .if_icmp .gt 39, 3, 0, 0, 0, 0), (72, .aload_n 0, 1, 0, 0, 0, 0), (73, .iload 6, 2, 0, 0, 0, 0), (75, .iload_n 2, 1, 0, 0, 0, 0), (76, .aload_n 0, 1, 0, 0, 0, 0), (77, .getfield 18, 3, 0, 2, 0, 240)],
  [(80, .iload_n 2, 1, 0, 0, 0, 0), (81, .iaload, 1, 0, 0, 0, 0), (82, .invokevirtual 39, 3, 6, 4, 0, 583), (85, .ifCond .eq 17, 3, 0, 0, 0, 0), (88, .aload_n 0, 1, 0, 0, 0, 0), (89, .iload_n 1, 1, 0, 0, 0, 0), (90, .iload 6, 2, 0, 0, 0, 0), (92, .aload_n 0, 1, 0, 0, 0, 0), (93, .getfield 18, 3, 0, 2, 0, 240)],
  [(96, .iload_n 2, 1, 0, 0, 0, 0), (97, .iaload, 1, 0, 0, 0, 0), (98, .invokevirtual 43, 3, 5, 4, 0, 587), (101, .return_, 1, 0, 0, 0, 0), (102, .iinc 6 1, 3, 0, 0, 0, 0), (105, .goto (-43), 3, 0, 0, 0, 0), (108, .return_, 1, 0, 0, 0, 0)]]
def iv_k5 : List (List ivE) := [[(0, .aload_n 0, 1, 0, 0, 0, 0), (1, .getfield 21, 3, 0, 3, 0, 242), (4, .iload_n 1, 1, 0, 0, 0, 0), (5, .iaload, 1, 0, 0, 0, 0), (6, .bipush (-9), 2, 0, 0, 0, 0), (8, .if_icmp .eq 33, 3, 0, 0, 0, 0), (11, .iload_n 2, 1, 0, 0, 0, 0), (12, .aload_n 0, 1, 0, 0, 0, 0), (13, .getfield 21, 3, 0, 3, 0, 242)],
  [(16, .iload_n 1, 1, 0, 0, 0, 0), (17, .iaload, 1, 0, 0, 0, 0), (18, .if_icmp .lt 23, 3, 0, 0, 0, 0), (21, .iload_n 2, 1, 0, 0, 0, 0), (22, .aload_n 0, 1, 0, 0, 0, 0), (23, .getfield 21, 3, 0, 3, 0, 242), (26, .iload_n 1, 1, 0, 0, 0, 0), (27, .iaload, 1, 0, 0, 0, 0), (28, .if_icmp .ne 27, 3, 0, 0, 0, 0), (31, .iload_n 3, 1, 0, 0, 0, 0)],
  [(32, .aload_n 0, 1, 0, 0, 0, 0), (33, .getfield 24, 3, 0, 4, 0, 243), (36, .iload_n 1, 1, 0, 0, 0, 0), (37, .iaload, 1, 0, 0, 0, 0), (38, .if_icmp .ge 17, 3, 0, 0, 0, 0), (41, .aload_n 0, 1, 0, 0, 0, 0), (42, .getfield 21, 3, 0, 3, 0, 242), (45, .iload_n 1, 1, 0, 0, 0, 0), (46, .iload_n 2, 1, 0, 0, 0, 0), (47, .iastore, 1, 0, 0, 0, 0)],
  [(48, .aload_n 0, 1, 0, 0, 0, 0), (49, .getfield 24, 3, 0, 4, 0, 243), (52, .iload_n 1, 1, 0, 0, 0, 0), (53, .iload_n 3, 1, 0, 0, 0, 0), (54, .iastore, 1, 0, 0, 0, 0), (55, .return_, 1, 0, 0, 0, 0)]]
def iv_k6 : List (List ivE) := [[(0, .iconst 5, 1, 0, 0, 0, 0), (1, .iload_n 1, 1, 0, 0, 0, 0), (2, .iconst 1, 1, 0, 0, 0, 0), (3, .isub, 1, 0, 0, 0, 0), (4, .bipush 6, 2, 0, 0, 0, 0), (6, .irem, 1, 0, 0, 0, 0), (7, .isub, 1, 0, 0, 0, 0), (8, .istore 4, 2, 0, 0, 0, 0), (10, .iload 4, 2, 0, 0, 0, 0), (12, .ifCond .lt 39, 3, 0, 0, 0, 0), (15, .iload 4, 2, 0, 0, 0, 0)],
  [(17, .bipush 6, 2, 0, 0, 0, 0), (19, .if_icmp .ge 32, 3, 0, 0, 0, 0), (22, .aload_n 0, 1, 0, 0, 0, 0), (23, .getfield 9, 3, 0, 0, 0, 236), (26, .iload 4, 2, 0, 0, 0, 0), (28, .iaload, 1, 0, 0, 0, 0), (29, .iload_n 2, 1, 0, 0, 0, 0), (30, .invokestatic 31, 3, 98, 2, 1, 578)],
  [(33, .ifCond .eq 18, 3, 0, 0, 0, 0), (36, .iload_n 3, 1, 0, 0, 0, 0), (37, .aload_n 0, 1, 0, 0, 0, 0), (38, .getfield 15, 3, 0, 1, 0, 238), (41, .iload 4, 2, 0, 0, 0, 0), (43, .iaload, 1, 0, 0, 0, 0), (44, .if_icmp .gt 7, 3, 0, 0, 0, 0), (47, .iconst 1, 1, 0, 0, 0, 0)],
  [(48, .goto 4, 3, 0, 0, 0, 0), (51, .iconst 0, 1, 0, 0, 0, 0), (52, .ireturn, 1, 0, 0, 0, 0)]]
def iv_k7 : List (List ivE) := [[(0, .iload_n 1, 1, 0, 0, 0, 0), (1, .ifCond .lt 21, 3, 0, 0, 0, 0), (4, .iload_n 1, 1, 0, 0, 0, 0), (5, .sipush 256, 3, 0, 0, 0, 0), (8, .if_icmp .ge 14, 3, 0, 0, 0, 0), (11, .aload_n 0, 1, 0, 0, 0, 0), (12, .getfield 21, 3, 0, 3, 0, 242), (15, .iload_n 1, 1, 0, 0, 0, 0)],
  [(16, .iaload, 1, 0, 0, 0, 0), (17, .bipush (-9), 2, 0, 0, 0, 0), (19, .if_icmp .ne 6, 3, 0, 0, 0, 0), (22, .bipush (-9), 2, 0, 0, 0, 0), (24, .ireturn, 1, 0, 0, 0, 0), (25, .aload_n 0, 1, 0, 0, 0, 0), (26, .getfield 21, 3, 0, 3, 0, 242), (29, .iload_n 1, 1, 0, 0, 0, 0), (30, .iaload, 1, 0, 0, 0, 0), (31, .bipush 6, 2, 0, 0, 0, 0)],
  [(33, .iadd, 1, 0, 0, 0, 0), (34, .iconst 1, 1, 0, 0, 0, 0), (35, .isub, 1, 0, 0, 0, 0), (36, .bipush 6, 2, 0, 0, 0, 0), (38, .idiv, 1, 0, 0, 0, 0), (39, .ireturn, 1, 0, 0, 0, 0)]]
def iv_k8 : List (List ivE) := [[(0, .iload_n 2, 1, 0, 0, 0, 0), (1, .istore_n 3, 1, 0, 0, 0, 0), (2, .iconst 0, 1, 0, 0, 0, 0), (3, .istore 4, 2, 0, 0, 0, 0), (5, .iconst 0, 1, 0, 0, 0, 0), (6, .istore 5, 2, 0, 0, 0, 0), (8, .iload 5, 2, 0, 0, 0, 0), (10, .iload_n 1, 1, 0, 0, 0, 0), (11, .if_icmp .gt 25, 3, 0, 0, 0, 0), (14, .aload_n 0, 1, 0, 0, 0, 0), (15, .iload 5, 2, 0, 0, 0, 0)],
  [(17, .iload_n 3, 1, 0, 0, 0, 0), (18, .invokevirtual 47, 3, 9, 3, 0, 599), (21, .istore 4, 2, 0, 0, 0, 0), (23, .iload_n 3, 1, 0, 0, 0, 0), (24, .iload 4, 2, 0, 0, 0, 0), (26, .iconst (-1), 1, 0, 0, 0, 0), (27, .ixor, 1, 0, 0, 0, 0), (28, .iand, 1, 0, 0, 0, 0), (29, .istore_n 3, 1, 0, 0, 0, 0), (30, .iinc 5 1, 3, 0, 0, 0, 0)],
  [(33, .goto (-25), 3, 0, 0, 0, 0), (36, .iload 4, 2, 0, 0, 0, 0), (38, .ireturn, 1, 0, 0, 0, 0)]]
def iv_k9 : List (List ivE) := [[(0, .iconst 5, 1, 0, 0, 0, 0), (1, .iload_n 1, 1, 0, 0, 0, 0), (2, .isub, 1, 0, 0, 0, 0), (3, .istore_n 3, 1, 0, 0, 0, 0), (4, .iconst 0, 1, 0, 0, 0, 0), (5, .istore 4, 2, 0, 0, 0, 0), (7, .iload 4, 2, 0, 0, 0, 0), (9, .iload_n 2, 1, 0, 0, 0, 0), (10, .if_icmp .gt 65, 3, 0, 0, 0, 0), (13, .iload_n 2, 1, 0, 0, 0, 0), (14, .sipush 256, 3, 0, 0, 0, 0)],
  [(17, .if_icmp .ge 58, 3, 0, 0, 0, 0), (20, .iload 4, 2, 0, 0, 0, 0), (22, .iload_n 2, 1, 0, 0, 0, 0), (23, .iconst (-1), 1, 0, 0, 0, 0), (24, .ixor, 1, 0, 0, 0, 0), (25, .iand, 1, 0, 0, 0, 0), (26, .ifCond .ne 43, 3, 0, 0, 0, 0), (29, .aload_n 0, 1, 0, 0, 0, 0), (30, .getfield 21, 3, 0, 3, 0, 242)],
  [(33, .iload_n 2, 1, 0, 0, 0, 0), (34, .iload 4, 2, 0, 0, 0, 0), (36, .ixor, 1, 0, 0, 0, 0), (37, .iaload, 1, 0, 0, 0, 0), (38, .bipush (-9), 2, 0, 0, 0, 0), (40, .if_icmp .eq 29, 3, 0, 0, 0, 0), (43, .aload_n 0, 1, 0, 0, 0, 0), (44, .getfield 21, 3, 0, 3, 0, 242), (47, .iload_n 2, 1, 0, 0, 0, 0)],
  [(48, .iload 4, 2, 0, 0, 0, 0), (50, .ixor, 1, 0, 0, 0, 0), (51, .iaload, 1, 0, 0, 0, 0), (52, .iload_n 3, 1, 0, 0, 0, 0), (53, .if_icmp .gt 16, 3, 0, 0, 0, 0), (56, .aload_n 0, 1, 0, 0, 0, 0), (57, .iload_n 1, 1, 0, 0, 0, 0), (58, .iload 4, 2, 0, 0, 0, 0), (60, .invokevirtual 51, 3, 10, 3, 0, 603), (63, .ifCond .eq 6, 3, 0, 0, 0, 0)],
  [(66, .iload 4, 2, 0, 0, 0, 0), (68, .ireturn, 1, 0, 0, 0, 0), (69, .iinc 4 1, 3, 0, 0, 0, 0), (72, .goto (-65), 3, 0, 0, 0, 0), (75, .iconst 0, 1, 0, 0, 0, 0), (76, .ireturn, 1, 0, 0, 0, 0)]]
def iv_k10 : List (List ivE) := [[(0, .iload_n 1, 1, 0, 0, 0, 0), (1, .ifCond .lt 22, 3, 0, 0, 0, 0), (4, .iload_n 1, 1, 0, 0, 0, 0), (5, .bipush 6, 2, 0, 0, 0, 0), (7, .if_icmp .ge 16, 3, 0, 0, 0, 0), (10, .iload_n 2, 1, 0, 0, 0, 0), (11, .aload_n 0, 1, 0, 0, 0, 0), (12, .getfield 9, 3, 0, 0, 0, 236), (15, .iload_n 1, 1, 0, 0, 0, 0)],
  [(16, .iaload, 1, 0, 0, 0, 0), (17, .iconst (-1), 1, 0, 0, 0, 0), (18, .ixor, 1, 0, 0, 0, 0), (19, .iand, 1, 0, 0, 0, 0), (20, .ifCond .eq 5, 3, 0, 0, 0, 0), (23, .iconst 0, 1, 0, 0, 0, 0), (24, .ireturn, 1, 0, 0, 0, 0), (25, .iconst 0, 1, 0, 0, 0, 0), (26, .istore_n 3, 1, 0, 0, 0, 0), (27, .iconst 0, 1, 0, 0, 0, 0), (28, .istore 4, 2, 0, 0, 0, 0), (30, .iload 4, 2, 0, 0, 0, 0)],
  [(32, .bipush 8, 2, 0, 0, 0, 0), (34, .if_icmp .ge 28, 3, 0, 0, 0, 0), (37, .iload_n 2, 1, 0, 0, 0, 0), (38, .iload 4, 2, 0, 0, 0, 0), (40, .invokestatic 31, 3, 98, 2, 1, 578), (43, .ifCond .eq 13, 3, 0, 0, 0, 0), (46, .iload_n 3, 1, 0, 0, 0, 0), (47, .aload_n 0, 1, 0, 0, 0, 0)],
  [(48, .getfield 18, 3, 0, 2, 0, 240), (51, .iload 4, 2, 0, 0, 0, 0), (53, .iaload, 1, 0, 0, 0, 0), (54, .iadd, 1, 0, 0, 0, 0), (55, .istore_n 3, 1, 0, 0, 0, 0), (56, .iinc 4 1, 3, 0, 0, 0, 0), (59, .goto (-29), 3, 0, 0, 0, 0), (62, .iload_n 3, 1, 0, 0, 0, 0), (63, .aload_n 0, 1, 0, 0, 0, 0)],
  [(64, .getfield 15, 3, 0, 1, 0, 238), (67, .iload_n 1, 1, 0, 0, 0, 0), (68, .iaload, 1, 0, 0, 0, 0), (69, .if_icmp .gt 7, 3, 0, 0, 0, 0), (72, .iconst 1, 1, 0, 0, 0, 0), (73, .goto 4, 3, 0, 0, 0, 0), (76, .iconst 0, 1, 0, 0, 0, 0), (77, .ireturn, 1, 0, 0, 0, 0)]]
def iv_k11 : List (List ivE) := [[(0, .aload_n 0, 1, 0, 0, 0, 0), (1, .invokespecial 3, 3, 1000, 0, 0, 148), (4, .aload_n 0, 1, 0, 0, 0, 0), (5, .bipush 6, 2, 0, 0, 0, 0), (7, .newarray .int, 2, 0, 0, 0, 0), (9, .putfield 9, 3, 1, 0, 0, 149), (12, .return_, 1, 0, 0, 0, 0)]]
def iv_k12 : List (List ivE) := [[(0, .aload_n 0, 1, 0, 0, 0, 0), (1, .aload_n 1, 1, 0, 0, 0, 0), (2, .getfield 15, 3, 6, 3, 0, 109), (5, .putfield 21, 3, 1, 1, 0, 151), (8, .aload_n 0, 1, 0, 0, 0, 0), (9, .aload_n 1, 1, 0, 0, 0, 0), (10, .getfield 22, 3, 6, 4, 0, 111), (13, .putfield 25, 3, 1, 2, 0, 153)],
  [(16, .aload_n 0, 1, 0, 0, 0, 0), (17, .aload_n 1, 1, 0, 0, 0, 0), (18, .getfield 26, 3, 6, 5, 0, 114), (21, .putfield 29, 3, 1, 3, 0, 155), (24, .iconst 0, 1, 0, 0, 0, 0), (25, .istore_n 2, 1, 0, 0, 0, 0), (26, .iload_n 2, 1, 0, 0, 0, 0), (27, .bipush 6, 2, 0, 0, 0, 0), (29, .if_icmp .ge 33, 3, 0, 0, 0, 0)],
  [(32, .aload_n 0, 1, 0, 0, 0, 0), (33, .getfield 9, 3, 1, 0, 0, 149), (36, .iload_n 2, 1, 0, 0, 0, 0), (37, .iload_n 2, 1, 0, 0, 0, 0), (38, .aload_n 0, 1, 0, 0, 0, 0), (39, .getfield 29, 3, 1, 3, 0, 155), (42, .if_icmp .ge 12, 3, 0, 0, 0, 0), (45, .aload_n 1, 1, 0, 0, 0, 0), (46, .getfield 30, 3, 6, 2, 0, 107)],
  [(49, .iload_n 2, 1, 0, 0, 0, 0), (50, .iaload, 1, 0, 0, 0, 0), (51, .goto 4, 3, 0, 0, 0, 0), (54, .iconst 0, 1, 0, 0, 0, 0), (55, .iastore, 1, 0, 0, 0, 0), (56, .iinc 2 1, 3, 0, 0, 0, 0), (59, .goto (-33), 3, 0, 0, 0, 0), (62, .return_, 1, 0, 0, 0, 0)]]
def iv_k13 : List (List ivE) := [[(0, .iload_n 1, 1, 0, 0, 0, 0), (1, .ifCond .lt 21, 3, 0, 0, 0, 0), (4, .iload_n 1, 1, 0, 0, 0, 0), (5, .aload_n 0, 1, 0, 0, 0, 0), (6, .getfield 25, 3, 1, 2, 0, 153), (9, .if_icmp .ge 13, 3, 0, 0, 0, 0), (12, .iload_n 1, 1, 0, 0, 0, 0), (13, .bipush 8, 2, 0, 0, 0, 0), (15, .if_icmp .ge 7, 3, 0, 0, 0, 0)],
  [(18, .iconst 1, 1, 0, 0, 0, 0), (19, .goto 4, 3, 0, 0, 0, 0), (22, .iconst 0, 1, 0, 0, 0, 0), (23, .ireturn, 1, 0, 0, 0, 0)]]
def iv_k14 : List (List ivE) := [[(0, .iload_n 1, 1, 0, 0, 0, 0), (1, .ifCond .lt 21, 3, 0, 0, 0, 0), (4, .iload_n 1, 1, 0, 0, 0, 0), (5, .aload_n 0, 1, 0, 0, 0, 0), (6, .getfield 29, 3, 1, 3, 0, 155), (9, .if_icmp .ge 13, 3, 0, 0, 0, 0), (12, .iload_n 1, 1, 0, 0, 0, 0), (13, .bipush 6, 2, 0, 0, 0, 0), (15, .if_icmp .ge 7, 3, 0, 0, 0, 0)],
  [(18, .iconst 1, 1, 0, 0, 0, 0), (19, .goto 4, 3, 0, 0, 0, 0), (22, .iconst 0, 1, 0, 0, 0, 0), (23, .ireturn, 1, 0, 0, 0, 0)]]
def iv_k15 : List (List ivE) := [[(0, .iload_n 1, 1, 0, 0, 0, 0), (1, .ifCond .lt 17, 3, 0, 0, 0, 0), (4, .iload_n 1, 1, 0, 0, 0, 0), (5, .iconst 1, 1, 0, 0, 0, 0), (6, .aload_n 0, 1, 0, 0, 0, 0), (7, .getfield 25, 3, 1, 2, 0, 153), (10, .ishl, 1, 0, 0, 0, 0), (11, .if_icmp .ge 7, 3, 0, 0, 0, 0), (14, .iconst 1, 1, 0, 0, 0, 0), (15, .goto 4, 3, 0, 0, 0, 0)],
  [(18, .iconst 0, 1, 0, 0, 0, 0), (19, .ireturn, 1, 0, 0, 0, 0)]]
def iv_k16 : List (List ivE) := [[(0, .iload_n 1, 1, 0, 0, 0, 0), (1, .ifCond .lt 17, 3, 0, 0, 0, 0), (4, .iload_n 1, 1, 0, 0, 0, 0), (5, .iconst 1, 1, 0, 0, 0, 0), (6, .aload_n 0, 1, 0, 0, 0, 0), (7, .getfield 29, 3, 1, 3, 0, 155), (10, .ishl, 1, 0, 0, 0, 0), (11, .if_icmp .ge 7, 3, 0, 0, 0, 0), (14, .iconst 1, 1, 0, 0, 0, 0), (15, .goto 4, 3, 0, 0, 0, 0)],
  [(18, .iconst 0, 1, 0, 0, 0, 0), (19, .ireturn, 1, 0, 0, 0, 0)]]
def iv_k17 : List (List ivE) := [[(0, .aload_n 0, 1, 0, 0, 0, 0), (1, .invokespecial 3, 3, 1000, 0, 0, 171), (4, .aload_n 0, 1, 0, 0, 0, 0), (5, .bipush 8, 2, 0, 0, 0, 0), (7, .newarray .int, 2, 0, 0, 0, 0), (9, .putfield 9, 3, 2, 0, 0, 172), (12, .aload_n 0, 1, 0, 0, 0, 0), (13, .bipush 8, 2, 0, 0, 0, 0), (15, .newarray .int, 2, 0, 0, 0, 0)],
  [(17, .putfield 15, 3, 2, 1, 0, 174), (20, .aload_n 0, 1, 0, 0, 0, 0), (21, .bipush 8, 2, 0, 0, 0, 0), (23, .newarray .int, 2, 0, 0, 0, 0), (25, .putfield 18, 3, 2, 2, 0, 176), (28, .return_, 1, 0, 0, 0, 0)]]
def iv_k18 : List (List ivE) := [[(0, .aload_n 0, 1, 0, 0, 0, 0), (1, .iconst 0, 1, 0, 0, 0, 0), (2, .putfield 21, 3, 2, 3, 0, 178), (5, .iconst 0, 1, 0, 0, 0, 0), (6, .istore_n 2, 1, 0, 0, 0, 0), (7, .iload_n 2, 1, 0, 0, 0, 0), (8, .bipush 8, 2, 0, 0, 0, 0), (10, .if_icmp .ge 70, 3, 0, 0, 0, 0), (13, .iload_n 2, 1, 0, 0, 0, 0), (14, .aload_n 1, 1, 0, 0, 0, 0), (15, .getfield 25, 3, 6, 4, 0, 112)],
  [(18, .if_icmp .ge 7, 3, 0, 0, 0, 0), (21, .iconst 1, 1, 0, 0, 0, 0), (22, .goto 4, 3, 0, 0, 0, 0), (25, .iconst 0, 1, 0, 0, 0, 0), (26, .istore_n 3, 1, 0, 0, 0, 0), (27, .aload_n 0, 1, 0, 0, 0, 0), (28, .getfield 9, 3, 2, 0, 0, 172), (31, .iload_n 2, 1, 0, 0, 0, 0)],
  [(32, .iload_n 3, 1, 0, 0, 0, 0), (33, .ifCond .eq 12, 3, 0, 0, 0, 0), (36, .aload_n 1, 1, 0, 0, 0, 0), (37, .getfield 30, 3, 6, 0, 0, 103), (40, .iload_n 2, 1, 0, 0, 0, 0), (41, .iaload, 1, 0, 0, 0, 0), (42, .goto 4, 3, 0, 0, 0, 0), (45, .iconst 0, 1, 0, 0, 0, 0), (46, .iastore, 1, 0, 0, 0, 0), (47, .aload_n 0, 1, 0, 0, 0, 0)],
  [(48, .getfield 15, 3, 2, 1, 0, 174), (51, .iload_n 2, 1, 0, 0, 0, 0), (52, .iconst 0, 1, 0, 0, 0, 0), (53, .iastore, 1, 0, 0, 0, 0), (54, .aload_n 0, 1, 0, 0, 0, 0), (55, .getfield 18, 3, 2, 2, 0, 176), (58, .iload_n 2, 1, 0, 0, 0, 0), (59, .iload_n 3, 1, 0, 0, 0, 0), (60, .ifCond .eq 12, 3, 0, 0, 0, 0), (63, .aload_n 1, 1, 0, 0, 0, 0)],
  [(64, .getfield 31, 3, 6, 1, 0, 105), (67, .iload_n 2, 1, 0, 0, 0, 0), (68, .iaload, 1, 0, 0, 0, 0), (69, .goto 4, 3, 0, 0, 0, 0), (72, .iconst 0, 1, 0, 0, 0, 0), (73, .iastore, 1, 0, 0, 0, 0), (74, .iinc 2 1, 3, 0, 0, 0, 0), (77, .goto (-70), 3, 0, 0, 0, 0)],
  [(80, .return_, 1, 0, 0, 0, 0)]]
def iv_k19 : List (List ivE) := [[(0, .aload_n 0, 1, 0, 0, 0, 0), (1, .aload_n 1, 1, 0, 0, 0, 0), (2, .getfield 21, 3, 2, 3, 0, 178), (5, .putfield 21, 3, 2, 3, 0, 178), (8, .iconst 0, 1, 0, 0, 0, 0), (9, .istore_n 2, 1, 0, 0, 0, 0), (10, .iload_n 2, 1, 0, 0, 0, 0), (11, .bipush 8, 2, 0, 0, 0, 0), (13, .if_icmp .ge 45, 3, 0, 0, 0, 0)],
  [(16, .aload_n 0, 1, 0, 0, 0, 0), (17, .getfield 9, 3, 2, 0, 0, 172), (20, .iload_n 2, 1, 0, 0, 0, 0), (21, .aload_n 1, 1, 0, 0, 0, 0), (22, .getfield 9, 3, 2, 0, 0, 172), (25, .iload_n 2, 1, 0, 0, 0, 0), (26, .iaload, 1, 0, 0, 0, 0), (27, .iastore, 1, 0, 0, 0, 0), (28, .aload_n 0, 1, 0, 0, 0, 0), (29, .getfield 15, 3, 2, 1, 0, 174)],
  [(32, .iload_n 2, 1, 0, 0, 0, 0), (33, .aload_n 1, 1, 0, 0, 0, 0), (34, .getfield 15, 3, 2, 1, 0, 174), (37, .iload_n 2, 1, 0, 0, 0, 0), (38, .iaload, 1, 0, 0, 0, 0), (39, .iastore, 1, 0, 0, 0, 0), (40, .aload_n 0, 1, 0, 0, 0, 0), (41, .getfield 18, 3, 2, 2, 0, 176), (44, .iload_n 2, 1, 0, 0, 0, 0), (45, .aload_n 1, 1, 0, 0, 0, 0), (46, .getfield 18, 3, 2, 2, 0, 176)],
  [(49, .iload_n 2, 1, 0, 0, 0, 0), (50, .iaload, 1, 0, 0, 0, 0), (51, .iastore, 1, 0, 0, 0, 0), (52, .iinc 2 1, 3, 0, 0, 0, 0), (55, .goto (-45), 3, 0, 0, 0, 0), (58, .return_, 1, 0, 0, 0, 0)]]
def iv_k20 : List (List ivE) := [[(0, .iload_n 1, 1, 0, 0, 0, 0), (1, .ifCond .lt 38, 3, 0, 0, 0, 0), (4, .iload_n 1, 1, 0, 0, 0, 0), (5, .bipush 8, 2, 0, 0, 0, 0), (7, .if_icmp .ge 32, 3, 0, 0, 0, 0), (10, .aload_n 0, 1, 0, 0, 0, 0), (11, .getfield 9, 3, 2, 0, 0, 172), (14, .iload_n 1, 1, 0, 0, 0, 0), (15, .iaload, 1, 0, 0, 0, 0)],
  [(16, .ifCond .eq 23, 3, 0, 0, 0, 0), (19, .aload_n 0, 1, 0, 0, 0, 0), (20, .getfield 21, 3, 2, 3, 0, 178), (23, .aload_n 0, 1, 0, 0, 0, 0), (24, .getfield 15, 3, 2, 1, 0, 174), (27, .iload_n 1, 1, 0, 0, 0, 0), (28, .iaload, 1, 0, 0, 0, 0), (29, .isub, 1, 0, 0, 0, 0), (30, .bipush 9, 2, 0, 0, 0, 0)],
  [(32, .if_icmp .gt 7, 3, 0, 0, 0, 0), (35, .iconst 1, 1, 0, 0, 0, 0), (36, .goto 4, 3, 0, 0, 0, 0), (39, .iconst 0, 1, 0, 0, 0, 0), (40, .ireturn, 1, 0, 0, 0, 0)]]
def iv_k21 : List (List ivE) := [[(0, .iconst 0, 1, 0, 0, 0, 0), (1, .istore_n 1, 1, 0, 0, 0, 0), (2, .iconst 0, 1, 0, 0, 0, 0), (3, .istore_n 2, 1, 0, 0, 0, 0), (4, .iload_n 2, 1, 0, 0, 0, 0), (5, .bipush 8, 2, 0, 0, 0, 0), (7, .if_icmp .ge 23, 3, 0, 0, 0, 0), (10, .aload_n 0, 1, 0, 0, 0, 0), (11, .iload_n 2, 1, 0, 0, 0, 0), (12, .invokevirtual 32, 3, 20, 2, 0, 442), (15, .ifCond .eq 9, 3, 0, 0, 0, 0)],
  [(18, .iload_n 1, 1, 0, 0, 0, 0), (19, .iconst 1, 1, 0, 0, 0, 0), (20, .iload_n 2, 1, 0, 0, 0, 0), (21, .ishl, 1, 0, 0, 0, 0), (22, .ior, 1, 0, 0, 0, 0), (23, .istore_n 1, 1, 0, 0, 0, 0), (24, .iinc 2 1, 3, 0, 0, 0, 0), (27, .goto (-23), 3, 0, 0, 0, 0), (30, .iload_n 1, 1, 0, 0, 0, 0), (31, .ireturn, 1, 0, 0, 0, 0)]]
def iv_k22 : List (List ivE) := [[(0, .aload_n 0, 1, 0, 0, 0, 0), (1, .invokevirtual 36, 3, 21, 1, 0, 464), (4, .istore_n 2, 1, 0, 0, 0, 0), (5, .aload_n 0, 1, 0, 0, 0, 0), (6, .dup, 1, 0, 0, 0, 0), (7, .getfield 21, 3, 2, 3, 0, 178), (10, .iload_n 1, 1, 0, 0, 0, 0), (11, .iadd, 1, 0, 0, 0, 0), (12, .putfield 21, 3, 2, 3, 0, 178), (15, .iload_n 2, 1, 0, 0, 0, 0)],
  [(16, .aload_n 0, 1, 0, 0, 0, 0), (17, .invokevirtual 36, 3, 21, 1, 0, 464), (20, .iconst (-1), 1, 0, 0, 0, 0), (21, .ixor, 1, 0, 0, 0, 0), (22, .iand, 1, 0, 0, 0, 0), (23, .istore_n 3, 1, 0, 0, 0, 0), (24, .iconst 0, 1, 0, 0, 0, 0), (25, .istore 4, 2, 0, 0, 0, 0), (27, .iload 4, 2, 0, 0, 0, 0), (29, .bipush 8, 2, 0, 0, 0, 0), (31, .if_icmp .ge 26, 3, 0, 0, 0, 0)],
  [(34, .iload_n 3, 1, 0, 0, 0, 0), (35, .iload 4, 2, 0, 0, 0, 0), (37, .invokestatic 40, 3, 98, 2, 1, 465), (40, .ifCond .eq 11, 3, 0, 0, 0, 0), (43, .aload_n 0, 1, 0, 0, 0, 0), (44, .getfield 18, 3, 2, 2, 0, 176), (47, .iload 4, 2, 0, 0, 0, 0)],
  [(49, .iconst 0, 1, 0, 0, 0, 0), (50, .iastore, 1, 0, 0, 0, 0), (51, .iinc 4 1, 3, 0, 0, 0, 0), (54, .goto (-27), 3, 0, 0, 0, 0), (57, .iload_n 3, 1, 0, 0, 0, 0), (58, .ireturn, 1, 0, 0, 0, 0)]]
def iv_k23 : List (List ivE) := [[(0, .iconst 0, 1, 0, 0, 0, 0), (1, .istore_n 3, 1, 0, 0, 0, 0), (2, .iconst 0, 1, 0, 0, 0, 0), (3, .istore 4, 2, 0, 0, 0, 0), (5, .iload 4, 2, 0, 0, 0, 0), (7, .bipush 8, 2, 0, 0, 0, 0), (9, .if_icmp .ge 55, 3, 0, 0, 0, 0), (12, .aload_n 0, 1, 0, 0, 0, 0), (13, .getfield 21, 3, 2, 3, 0, 178)],
  [(16, .iload_n 2, 1, 0, 0, 0, 0), (17, .iadd, 1, 0, 0, 0, 0), (18, .aload_n 0, 1, 0, 0, 0, 0), (19, .getfield 15, 3, 2, 1, 0, 174), (22, .iload 4, 2, 0, 0, 0, 0), (24, .iaload, 1, 0, 0, 0, 0), (25, .isub, 1, 0, 0, 0, 0), (26, .bipush 9, 2, 0, 0, 0, 0), (28, .isub, 1, 0, 0, 0, 0), (29, .istore 5, 2, 0, 0, 0, 0), (31, .iload_n 1, 1, 0, 0, 0, 0)],
  [(32, .iload 4, 2, 0, 0, 0, 0), (34, .invokestatic 40, 3, 98, 2, 1, 465), (37, .ifCond .eq 21, 3, 0, 0, 0, 0), (40, .iload 5, 2, 0, 0, 0, 0), (42, .ifCond .le 16, 3, 0, 0, 0, 0), (45, .iload_n 3, 1, 0, 0, 0, 0), (46, .iload 5, 2, 0, 0, 0, 0)],
  [(48, .bipush 9, 2, 0, 0, 0, 0), (50, .iadd, 1, 0, 0, 0, 0), (51, .iconst 1, 1, 0, 0, 0, 0), (52, .isub, 1, 0, 0, 0, 0), (53, .bipush 9, 2, 0, 0, 0, 0), (55, .idiv, 1, 0, 0, 0, 0), (56, .iadd, 1, 0, 0, 0, 0), (57, .istore_n 3, 1, 0, 0, 0, 0), (58, .iinc 4 1, 3, 0, 0, 0, 0), (61, .goto (-56), 3, 0, 0, 0, 0)],
  [(64, .iload_n 3, 1, 0, 0, 0, 0), (65, .ireturn, 1, 0, 0, 0, 0)]]
def iv_k24 : List (List ivE) := [[(0, .iload_n 1, 1, 0, 0, 0, 0), (1, .ifCond .lt 8, 3, 0, 0, 0, 0), (4, .iload_n 1, 1, 0, 0, 0, 0), (5, .iconst 5, 1, 0, 0, 0, 0), (6, .if_icmp .lt 6, 3, 0, 0, 0, 0), (9, .bipush (-9), 2, 0, 0, 0, 0), (11, .ireturn, 1, 0, 0, 0, 0), (12, .iload_n 0, 1, 0, 0, 0, 0), (13, .iconst 3, 1, 0, 0, 0, 0), (14, .iload_n 1, 1, 0, 0, 0, 0), (15, .imul, 1, 0, 0, 0, 0)],
  [(16, .ishr, 1, 0, 0, 0, 0), (17, .bipush 7, 2, 0, 0, 0, 0), (19, .iand, 1, 0, 0, 0, 0), (20, .istore_n 2, 1, 0, 0, 0, 0), (21, .iload_n 2, 1, 0, 0, 0, 0), (22, .ifCond .ne 8, 3, 0, 0, 0, 0), (25, .bipush (-9), 2, 0, 0, 0, 0), (27, .goto 6, 3, 0, 0, 0, 0), (30, .iload_n 2, 1, 0, 0, 0, 0), (31, .iconst 1, 1, 0, 0, 0, 0)],
  [(32, .isub, 1, 0, 0, 0, 0), (33, .ireturn, 1, 0, 0, 0, 0)]]
def iv_k25 : List (List ivE) := [[(0, .iload_n 0, 1, 0, 0, 0, 0), (1, .iload_n 2, 1, 0, 0, 0, 0), (2, .iconst 1, 1, 0, 0, 0, 0), (3, .iadd, 1, 0, 0, 0, 0), (4, .iconst 3, 1, 0, 0, 0, 0), (5, .iload_n 1, 1, 0, 0, 0, 0), (6, .imul, 1, 0, 0, 0, 0), (7, .ishl, 1, 0, 0, 0, 0), (8, .ior, 1, 0, 0, 0, 0), (9, .ireturn, 1, 0, 0, 0, 0)]]
def iv_k26 : List (List ivE) := [[(0, .iconst 0, 1, 0, 0, 0, 0), (1, .istore_n 1, 1, 0, 0, 0, 0), (2, .iload_n 1, 1, 0, 0, 0, 0), (3, .iconst 5, 1, 0, 0, 0, 0), (4, .if_icmp .ge 17, 3, 0, 0, 0, 0), (7, .iload_n 0, 1, 0, 0, 0, 0), (8, .iconst 3, 1, 0, 0, 0, 0), (9, .iload_n 1, 1, 0, 0, 0, 0), (10, .imul, 1, 0, 0, 0, 0), (11, .ishr, 1, 0, 0, 0, 0), (12, .ifCond .eq 9, 3, 0, 0, 0, 0), (15, .iinc 1 1, 3, 0, 0, 0, 0)],
  [(18, .goto (-16), 3, 0, 0, 0, 0), (21, .iload_n 1, 1, 0, 0, 0, 0), (22, .ireturn, 1, 0, 0, 0, 0)]]
def iv_k27 : List (List ivE) := [[(0, .iload_n 0, 1, 0, 0, 0, 0), (1, .invokestatic 9, 3, 26, 1, 0, 697), (4, .istore_n 2, 1, 0, 0, 0, 0), (5, .iconst 0, 1, 0, 0, 0, 0), (6, .istore_n 3, 1, 0, 0, 0, 0), (7, .iconst 0, 1, 0, 0, 0, 0), (8, .istore 4, 2, 0, 0, 0, 0), (10, .iload 4, 2, 0, 0, 0, 0), (12, .iload_n 2, 1, 0, 0, 0, 0), (13, .if_icmp .ge 27, 3, 0, 0, 0, 0)],
  [(16, .iload_n 3, 1, 0, 0, 0, 0), (17, .iload 4, 2, 0, 0, 0, 0), (19, .iload_n 0, 1, 0, 0, 0, 0), (20, .iload 4, 2, 0, 0, 0, 0), (22, .invokestatic 15, 3, 24, 2, 0, 698), (25, .iload_n 1, 1, 0, 0, 0, 0), (26, .iadd, 1, 0, 0, 0, 0), (27, .bipush 6, 2, 0, 0, 0, 0), (29, .irem, 1, 0, 0, 0, 0), (30, .invokestatic 19, 3, 25, 3, 0, 699)],
  [(33, .istore_n 3, 1, 0, 0, 0, 0), (34, .iinc 4 1, 3, 0, 0, 0, 0), (37, .goto (-27), 3, 0, 0, 0, 0), (40, .iload_n 3, 1, 0, 0, 0, 0), (41, .ireturn, 1, 0, 0, 0, 0)]]
def iv_k28 : List (List ivE) := [[(0, .aload_n 0, 1, 0, 0, 0, 0), (1, .invokespecial 3, 3, 1000, 0, 0, 198), (4, .aload_n 0, 1, 0, 0, 0, 0), (5, .bipush 6, 2, 0, 0, 0, 0), (7, .bipush 6, 2, 0, 0, 0, 0), (9, .multianewarray 9 2, 4, 0, 0, 0, 199), (13, .putfield 11, 3, 3, 0, 0, 201)],
  [(16, .return_, 1, 0, 0, 0, 0)]]
def iv_k29 : List (List ivE) := [[(0, .aload_n 0, 1, 0, 0, 0, 0), (1, .iload_n 2, 1, 0, 0, 0, 0), (2, .invokevirtual 16, 3, 30, 2, 0, 415), (5, .iload_n 1, 1, 0, 0, 0, 0), (6, .invokestatic 20, 3, 26, 1, 0, 419), (9, .istore_n 3, 1, 0, 0, 0, 0), (10, .iconst 0, 1, 0, 0, 0, 0), (11, .istore 4, 2, 0, 0, 0, 0), (13, .iload 4, 2, 0, 0, 0, 0), (15, .iload_n 3, 1, 0, 0, 0, 0)],
  [(16, .if_icmp .ge 21, 3, 0, 0, 0, 0), (19, .aload_n 0, 1, 0, 0, 0, 0), (20, .iload 4, 2, 0, 0, 0, 0), (22, .iload_n 1, 1, 0, 0, 0, 0), (23, .iload 4, 2, 0, 0, 0, 0), (25, .invokestatic 26, 3, 24, 2, 0, 422), (28, .invokevirtual 30, 3, 31, 3, 0, 423), (31, .iinc 4 1, 3, 0, 0, 0, 0)],
  [(34, .goto (-21), 3, 0, 0, 0, 0), (37, .iload_n 3, 1, 0, 0, 0, 0), (38, .iconst 5, 1, 0, 0, 0, 0), (39, .if_icmp .gt 25, 3, 0, 0, 0, 0), (42, .aload_n 0, 1, 0, 0, 0, 0), (43, .getfield 34, 3, 3, 2, 0, 203), (46, .iconst 5, 1, 0, 0, 0, 0), (47, .if_icmp .gt 17, 3, 0, 0, 0, 0)],
  [(50, .aload_n 0, 1, 0, 0, 0, 0), (51, .getfield 11, 3, 3, 0, 0, 201), (54, .iload_n 3, 1, 0, 0, 0, 0), (55, .aaload, 1, 0, 0, 0, 0), (56, .aload_n 0, 1, 0, 0, 0, 0), (57, .getfield 34, 3, 3, 2, 0, 203), (60, .iaload, 1, 0, 0, 0, 0), (61, .goto 4, 3, 0, 0, 0, 0)],
  [(64, .iconst 0, 1, 0, 0, 0, 0), (65, .ireturn, 1, 0, 0, 0, 0)]]
def iv_k30 : List (List ivE) := [[(0, .aload_n 0, 1, 0, 0, 0, 0), (1, .iload_n 1, 1, 0, 0, 0, 0), (2, .putfield 38, 3, 3, 1, 0, 202), (5, .aload_n 0, 1, 0, 0, 0, 0), (6, .iload_n 1, 1, 0, 0, 0, 0), (7, .invokestatic 20, 3, 26, 1, 0, 419), (10, .putfield 34, 3, 3, 2, 0, 203), (13, .iconst 0, 1, 0, 0, 0, 0), (14, .istore_n 2, 1, 0, 0, 0, 0), (15, .iload_n 2, 1, 0, 0, 0, 0)],
  [(16, .iconst 5, 1, 0, 0, 0, 0), (17, .if_icmp .gt 18, 3, 0, 0, 0, 0), (20, .aload_n 0, 1, 0, 0, 0, 0), (21, .getfield 11, 3, 3, 0, 0, 201), (24, .iconst 0, 1, 0, 0, 0, 0), (25, .aaload, 1, 0, 0, 0, 0), (26, .iload_n 2, 1, 0, 0, 0, 0), (27, .iload_n 2, 1, 0, 0, 0, 0), (28, .iastore, 1, 0, 0, 0, 0), (29, .iinc 2 1, 3, 0, 0, 0, 0)],
  [(32, .goto (-17), 3, 0, 0, 0, 0), (35, .return_, 1, 0, 0, 0, 0)]]
def iv_k31 : List (List ivE) := [[(0, .iload_n 1, 1, 0, 0, 0, 0), (1, .ifCond .lt 8, 3, 0, 0, 0, 0), (4, .iload_n 1, 1, 0, 0, 0, 0), (5, .iconst 5, 1, 0, 0, 0, 0), (6, .if_icmp .lt 4, 3, 0, 0, 0, 0), (9, .return_, 1, 0, 0, 0, 0), (10, .aload_n 0, 1, 0, 0, 0, 0), (11, .getfield 11, 3, 3, 0, 0, 201), (14, .iload_n 1, 1, 0, 0, 0, 0), (15, .aaload, 1, 0, 0, 0, 0)],
  [(16, .astore_n 3, 1, 0, 0, 0, 0), (17, .aload_n 0, 1, 0, 0, 0, 0), (18, .getfield 11, 3, 3, 0, 0, 201), (21, .iload_n 1, 1, 0, 0, 0, 0), (22, .iconst 1, 1, 0, 0, 0, 0), (23, .iadd, 1, 0, 0, 0, 0), (24, .aaload, 1, 0, 0, 0, 0), (25, .astore 4, 2, 0, 0, 0, 0), (27, .aload 4, 2, 0, 0, 0, 0), (29, .iconst 0, 1, 0, 0, 0, 0), (30, .aload_n 3, 1, 0, 0, 0, 0), (31, .iconst 0, 1, 0, 0, 0, 0)],
  [(32, .iaload, 1, 0, 0, 0, 0), (33, .iconst 1, 1, 0, 0, 0, 0), (34, .iadd, 1, 0, 0, 0, 0), (35, .iastore, 1, 0, 0, 0, 0), (36, .iconst 1, 1, 0, 0, 0, 0), (37, .istore 5, 2, 0, 0, 0, 0), (39, .iload 5, 2, 0, 0, 0, 0), (41, .aload_n 0, 1, 0, 0, 0, 0), (42, .getfield 34, 3, 3, 2, 0, 203), (45, .if_icmp .gt 70, 3, 0, 0, 0, 0)],
  [(48, .iload 5, 2, 0, 0, 0, 0), (50, .iconst 5, 1, 0, 0, 0, 0), (51, .if_icmp .gt 64, 3, 0, 0, 0, 0), (54, .aload_n 3, 1, 0, 0, 0, 0), (55, .iload 5, 2, 0, 0, 0, 0), (57, .iconst 1, 1, 0, 0, 0, 0), (58, .isub, 1, 0, 0, 0, 0), (59, .iaload, 1, 0, 0, 0, 0), (60, .aload_n 0, 1, 0, 0, 0, 0), (61, .getfield 38, 3, 3, 1, 0, 202)],
  [(64, .iload 5, 2, 0, 0, 0, 0), (66, .iconst 1, 1, 0, 0, 0, 0), (67, .isub, 1, 0, 0, 0, 0), (68, .invokestatic 26, 3, 24, 2, 0, 422), (71, .iload_n 2, 1, 0, 0, 0, 0), (72, .if_icmp .ne 7, 3, 0, 0, 0, 0), (75, .iconst 0, 1, 0, 0, 0, 0), (76, .goto 4, 3, 0, 0, 0, 0), (79, .iconst 1, 1, 0, 0, 0, 0)],
  [(80, .iadd, 1, 0, 0, 0, 0), (81, .istore 6, 2, 0, 0, 0, 0), (83, .aload 4, 2, 0, 0, 0, 0), (85, .iload 5, 2, 0, 0, 0, 0), (87, .iload 6, 2, 0, 0, 0, 0), (89, .aload_n 3, 1, 0, 0, 0, 0), (90, .iload 5, 2, 0, 0, 0, 0), (92, .iaload, 1, 0, 0, 0, 0), (93, .aload 4, 2, 0, 0, 0, 0), (95, .iload 5, 2, 0, 0, 0, 0)],
  [(97, .iconst 1, 1, 0, 0, 0, 0), (98, .isub, 1, 0, 0, 0, 0), (99, .iaload, 1, 0, 0, 0, 0), (100, .invokestatic 41, 3, 169, 2, 0, 427), (103, .iconst 1, 1, 0, 0, 0, 0), (104, .iadd, 1, 0, 0, 0, 0), (105, .invokestatic 41, 3, 169, 2, 0, 427), (108, .iastore, 1, 0, 0, 0, 0), (109, .iinc 5 1, 3, 0, 0, 0, 0)],
  [(112, .goto (-73), 3, 0, 0, 0, 0), (115, .return_, 1, 0, 0, 0, 0)]]
def iv_k32 : List (List ivE) := [[(0, .iload_n 1, 1, 0, 0, 0, 0), (1, .ifCond .lt 8, 3, 0, 0, 0, 0), (4, .iload_n 1, 1, 0, 0, 0, 0), (5, .iconst 5, 1, 0, 0, 0, 0), (6, .if_icmp .le 5, 3, 0, 0, 0, 0), (9, .iconst 0, 1, 0, 0, 0, 0), (10, .ireturn, 1, 0, 0, 0, 0), (11, .aload_n 0, 1, 0, 0, 0, 0), (12, .getfield 11, 3, 3, 0, 0, 201), (15, .iload_n 1, 1, 0, 0, 0, 0)],
  [(16, .aaload, 1, 0, 0, 0, 0), (17, .astore_n 3, 1, 0, 0, 0, 0), (18, .aload_n 3, 1, 0, 0, 0, 0), (19, .iconst 0, 1, 0, 0, 0, 0), (20, .iaload, 1, 0, 0, 0, 0), (21, .iload_n 2, 1, 0, 0, 0, 0), (22, .aload_n 0, 1, 0, 0, 0, 0), (23, .getfield 34, 3, 3, 2, 0, 203), (26, .invokestatic 46, 3, 168, 2, 0, 523), (29, .iadd, 1, 0, 0, 0, 0), (30, .istore 4, 2, 0, 0, 0, 0)],
  [(32, .iconst 1, 1, 0, 0, 0, 0), (33, .istore 5, 2, 0, 0, 0, 0), (35, .iload 5, 2, 0, 0, 0, 0), (37, .aload_n 0, 1, 0, 0, 0, 0), (38, .getfield 34, 3, 3, 2, 0, 203), (41, .if_icmp .gt 38, 3, 0, 0, 0, 0), (44, .iload 5, 2, 0, 0, 0, 0), (46, .iconst 5, 1, 0, 0, 0, 0), (47, .if_icmp .gt 32, 3, 0, 0, 0, 0)],
  [(50, .iload 4, 2, 0, 0, 0, 0), (52, .aload_n 3, 1, 0, 0, 0, 0), (53, .iload 5, 2, 0, 0, 0, 0), (55, .iaload, 1, 0, 0, 0, 0), (56, .iload_n 2, 1, 0, 0, 0, 0), (57, .aload_n 0, 1, 0, 0, 0, 0), (58, .getfield 34, 3, 3, 2, 0, 203), (61, .iload 5, 2, 0, 0, 0, 0), (63, .isub, 1, 0, 0, 0, 0)],
  [(64, .invokestatic 46, 3, 168, 2, 0, 523), (67, .iadd, 1, 0, 0, 0, 0), (68, .invokestatic 41, 3, 169, 2, 0, 427), (71, .istore 4, 2, 0, 0, 0, 0), (73, .iinc 5 1, 3, 0, 0, 0, 0), (76, .goto (-41), 3, 0, 0, 0, 0), (79, .iload 4, 2, 0, 0, 0, 0)],
  [(81, .ireturn, 1, 0, 0, 0, 0)]]
def iv_k33 : List (List ivE) := [[(0, .aload_n 0, 1, 0, 0, 0, 0), (1, .invokespecial 3, 3, 1000, 0, 0, 216), (4, .aload_n 0, 1, 0, 0, 0, 0), (5, .iconst 5, 1, 0, 0, 0, 0), (6, .newarray .int, 2, 0, 0, 0, 0), (8, .putfield 9, 3, 4, 1, 0, 221), (11, .aload_n 0, 1, 0, 0, 0, 0), (12, .bipush 8, 2, 0, 0, 0, 0), (14, .anewarray 15, 3, 3, 0, 0, 217)],
  [(17, .putfield 17, 3, 4, 0, 0, 220), (20, .iconst 0, 1, 0, 0, 0, 0), (21, .istore_n 1, 1, 0, 0, 0, 0), (22, .iload_n 1, 1, 0, 0, 0, 0), (23, .bipush 8, 2, 0, 0, 0, 0), (25, .if_icmp .ge 22, 3, 0, 0, 0, 0), (28, .aload_n 0, 1, 0, 0, 0, 0), (29, .getfield 17, 3, 4, 0, 0, 220)],
  [(32, .iload_n 1, 1, 0, 0, 0, 0), (33, .new 15, 3, 3, 0, 0, 217), (36, .dup, 1, 0, 0, 0, 0), (37, .invokespecial 21, 3, 28, 1, 1, 219), (40, .aastore, 1, 0, 0, 0, 0), (41, .iinc 1 1, 3, 0, 0, 0, 0), (44, .goto (-22), 3, 0, 0, 0, 0), (47, .return_, 1, 0, 0, 0, 0)]]
def iv_k34 : List (List ivE) := [[(0, .aload_n 0, 1, 0, 0, 0, 0), (1, .iconst 0, 1, 0, 0, 0, 0), (2, .putfield 22, 3, 4, 2, 0, 222), (5, .return_, 1, 0, 0, 0, 0)]]
def iv_k35 : List (List ivE) := [[(0, .aload_n 0, 1, 0, 0, 0, 0), (1, .aload_n 0, 1, 0, 0, 0, 0), (2, .getfield 22, 3, 4, 2, 0, 222), (5, .invokevirtual 26, 3, 36, 2, 0, 502), (8, .astore_n 2, 1, 0, 0, 0, 0), (9, .aload_n 2, 1, 0, 0, 0, 0), (10, .ifnull 18, 3, 0, 0, 0, 0), (13, .aload_n 2, 1, 0, 0, 0, 0), (14, .iload_n 1, 1, 0, 0, 0, 0), (15, .invokevirtual 30, 3, 30, 2, 0, 506)],
  [(18, .aload_n 0, 1, 0, 0, 0, 0), (19, .dup, 1, 0, 0, 0, 0), (20, .getfield 22, 3, 4, 2, 0, 222), (23, .iconst 1, 1, 0, 0, 0, 0), (24, .iadd, 1, 0, 0, 0, 0), (25, .putfield 22, 3, 4, 2, 0, 222), (28, .return_, 1, 0, 0, 0, 0)]]
def iv_k36 : List (List ivE) := [[(0, .iload_n 1, 1, 0, 0, 0, 0), (1, .ifCond .lt 18, 3, 0, 0, 0, 0), (4, .iload_n 1, 1, 0, 0, 0, 0), (5, .bipush 8, 2, 0, 0, 0, 0), (7, .if_icmp .ge 12, 3, 0, 0, 0, 0), (10, .aload_n 0, 1, 0, 0, 0, 0), (11, .getfield 17, 3, 4, 0, 0, 220), (14, .iload_n 1, 1, 0, 0, 0, 0), (15, .aaload, 1, 0, 0, 0, 0)],
  [(16, .goto 4, 3, 0, 0, 0, 0), (19, .aconst_null, 1, 0, 0, 0, 0), (20, .areturn, 1, 0, 0, 0, 0)]]
def iv_k37 : List (List ivE) := [[(0, .iconst 1, 1, 0, 0, 0, 0), (1, .istore_n 2, 1, 0, 0, 0, 0), (2, .iload_n 2, 1, 0, 0, 0, 0), (3, .iconst 5, 1, 0, 0, 0, 0), (4, .if_icmp .gt 24, 3, 0, 0, 0, 0), (7, .aload_n 0, 1, 0, 0, 0, 0), (8, .iload_n 2, 1, 0, 0, 0, 0), (9, .iload_n 1, 1, 0, 0, 0, 0), (10, .invokevirtual 34, 3, 38, 3, 0, 511), (13, .ifCond .eq 9, 3, 0, 0, 0, 0)],
  [(16, .aload_n 0, 1, 0, 0, 0, 0), (17, .iload_n 2, 1, 0, 0, 0, 0), (18, .invokevirtual 38, 3, 41, 2, 0, 532), (21, .ireturn, 1, 0, 0, 0, 0), (22, .iinc 2 1, 3, 0, 0, 0, 0), (25, .goto (-23), 3, 0, 0, 0, 0), (28, .iconst 0, 1, 0, 0, 0, 0), (29, .ireturn, 1, 0, 0, 0, 0)]]
def iv_k38 : List (List ivE) := [[(0, .aload_n 0, 1, 0, 0, 0, 0), (1, .iload_n 1, 1, 0, 0, 0, 0), (2, .iload_n 2, 1, 0, 0, 0, 0), (3, .invokevirtual 42, 3, 39, 3, 0, 515), (6, .ifCond .eq 5, 3, 0, 0, 0, 0), (9, .iconst 0, 1, 0, 0, 0, 0), (10, .ireturn, 1, 0, 0, 0, 0), (11, .iconst 0, 1, 0, 0, 0, 0), (12, .istore_n 3, 1, 0, 0, 0, 0), (13, .aload_n 0, 1, 0, 0, 0, 0), (14, .getfield 9, 3, 4, 1, 0, 221)],
  [(17, .iconst 0, 1, 0, 0, 0, 0), (18, .iconst 0, 1, 0, 0, 0, 0), (19, .iastore, 1, 0, 0, 0, 0), (20, .iconst 0, 1, 0, 0, 0, 0), (21, .istore 4, 2, 0, 0, 0, 0), (23, .iload 4, 2, 0, 0, 0, 0), (25, .ldc 45, 2, 0, 0, 1000000, 526), (27, .if_icmp .ge 103, 3, 0, 0, 0, 0), (30, .iload_n 3, 1, 0, 0, 0, 0), (31, .ifCond .lt 99, 3, 0, 0, 0, 0)],
  [(34, .iload_n 3, 1, 0, 0, 0, 0), (35, .iload_n 1, 1, 0, 0, 0, 0), (36, .if_icmp .ge 94, 3, 0, 0, 0, 0), (39, .iload_n 3, 1, 0, 0, 0, 0), (40, .iconst 5, 1, 0, 0, 0, 0), (41, .if_icmp .ge 89, 3, 0, 0, 0, 0), (44, .aload_n 0, 1, 0, 0, 0, 0), (45, .getfield 9, 3, 4, 1, 0, 221)],
  [(48, .iload_n 3, 1, 0, 0, 0, 0), (49, .iaload, 1, 0, 0, 0, 0), (50, .bipush 6, 2, 0, 0, 0, 0), (52, .if_icmp .lt 23, 3, 0, 0, 0, 0), (55, .iinc 3 (-1), 3, 0, 0, 0, 0), (58, .iload_n 3, 1, 0, 0, 0, 0), (59, .ifCond .lt 65, 3, 0, 0, 0, 0), (62, .aload_n 0, 1, 0, 0, 0, 0), (63, .getfield 9, 3, 4, 1, 0, 221)],
  [(66, .iload_n 3, 1, 0, 0, 0, 0), (67, .dup2, 1, 0, 0, 0, 0), (68, .iaload, 1, 0, 0, 0, 0), (69, .iconst 1, 1, 0, 0, 0, 0), (70, .iadd, 1, 0, 0, 0, 0), (71, .iastore, 1, 0, 0, 0, 0), (72, .goto 52, 3, 0, 0, 0, 0), (75, .aload_n 0, 1, 0, 0, 0, 0), (76, .iload_n 3, 1, 0, 0, 0, 0), (77, .aload_n 0, 1, 0, 0, 0, 0), (78, .getfield 9, 3, 4, 1, 0, 221)],
  [(81, .iload_n 3, 1, 0, 0, 0, 0), (82, .iaload, 1, 0, 0, 0, 0), (83, .iload_n 1, 1, 0, 0, 0, 0), (84, .iload_n 2, 1, 0, 0, 0, 0), (85, .invokevirtual 46, 3, 40, 5, 0, 527), (88, .ifCond .eq 16, 3, 0, 0, 0, 0), (91, .aload_n 0, 1, 0, 0, 0, 0), (92, .getfield 9, 3, 4, 1, 0, 221), (95, .iload_n 3, 1, 0, 0, 0, 0)],
  [(96, .dup2, 1, 0, 0, 0, 0), (97, .iaload, 1, 0, 0, 0, 0), (98, .iconst 1, 1, 0, 0, 0, 0), (99, .iadd, 1, 0, 0, 0, 0), (100, .iastore, 1, 0, 0, 0, 0), (101, .goto 23, 3, 0, 0, 0, 0), (104, .iinc 3 1, 3, 0, 0, 0, 0), (107, .iload_n 3, 1, 0, 0, 0, 0), (108, .iload_n 1, 1, 0, 0, 0, 0), (109, .if_icmp .ge 15, 3, 0, 0, 0, 0)],
  [(112, .iload_n 3, 1, 0, 0, 0, 0), (113, .iconst 5, 1, 0, 0, 0, 0), (114, .if_icmp .ge 10, 3, 0, 0, 0, 0), (117, .aload_n 0, 1, 0, 0, 0, 0), (118, .getfield 9, 3, 4, 1, 0, 221), (121, .iload_n 3, 1, 0, 0, 0, 0), (122, .iconst 0, 1, 0, 0, 0, 0), (123, .iastore, 1, 0, 0, 0, 0), (124, .iinc 4 1, 3, 0, 0, 0, 0), (127, .goto (-104), 3, 0, 0, 0, 0)],
  [(130, .iload_n 3, 1, 0, 0, 0, 0), (131, .iload_n 1, 1, 0, 0, 0, 0), (132, .if_icmp .ne 7, 3, 0, 0, 0, 0), (135, .iconst 1, 1, 0, 0, 0, 0), (136, .goto 4, 3, 0, 0, 0, 0), (139, .iconst 0, 1, 0, 0, 0, 0), (140, .ireturn, 1, 0, 0, 0, 0)]]
def iv_k39 : List (List ivE) := [[(0, .iconst 0, 1, 0, 0, 0, 0), (1, .istore_n 3, 1, 0, 0, 0, 0), (2, .iload_n 3, 1, 0, 0, 0, 0), (3, .aload_n 0, 1, 0, 0, 0, 0), (4, .getfield 22, 3, 4, 2, 0, 222), (7, .if_icmp .ge 34, 3, 0, 0, 0, 0), (10, .aload_n 0, 1, 0, 0, 0, 0), (11, .iload_n 3, 1, 0, 0, 0, 0), (12, .invokevirtual 26, 3, 36, 2, 0, 502), (15, .astore 4, 2, 0, 0, 0, 0)],
  [(17, .aload 4, 2, 0, 0, 0, 0), (19, .ifnull 16, 3, 0, 0, 0, 0), (22, .aload 4, 2, 0, 0, 0, 0), (24, .iconst 0, 1, 0, 0, 0, 0), (25, .iload_n 1, 1, 0, 0, 0, 0), (26, .invokevirtual 50, 3, 32, 3, 0, 519), (29, .iload_n 2, 1, 0, 0, 0, 0), (30, .if_icmp .gt 5, 3, 0, 0, 0, 0)],
  [(33, .iconst 1, 1, 0, 0, 0, 0), (34, .ireturn, 1, 0, 0, 0, 0), (35, .iinc 3 1, 3, 0, 0, 0, 0), (38, .goto (-36), 3, 0, 0, 0, 0), (41, .iconst 0, 1, 0, 0, 0, 0), (42, .ireturn, 1, 0, 0, 0, 0)]]
def iv_k40 : List (List ivE) := [[(0, .iconst 0, 1, 0, 0, 0, 0), (1, .istore 5, 2, 0, 0, 0, 0), (3, .iload 5, 2, 0, 0, 0, 0), (5, .aload_n 0, 1, 0, 0, 0, 0), (6, .getfield 22, 3, 4, 2, 0, 222), (9, .if_icmp .ge 49, 3, 0, 0, 0, 0), (12, .aload_n 0, 1, 0, 0, 0, 0), (13, .iload 5, 2, 0, 0, 0, 0), (15, .invokevirtual 26, 3, 36, 2, 0, 502)],
  [(18, .astore 6, 2, 0, 0, 0, 0), (20, .aload 6, 2, 0, 0, 0, 0), (22, .ifnull 30, 3, 0, 0, 0, 0), (25, .aload 6, 2, 0, 0, 0, 0), (27, .iload_n 1, 1, 0, 0, 0, 0), (28, .iload_n 2, 1, 0, 0, 0, 0), (29, .invokevirtual 54, 3, 31, 3, 0, 531)],
  [(32, .aload 6, 2, 0, 0, 0, 0), (34, .iload_n 1, 1, 0, 0, 0, 0), (35, .iconst 1, 1, 0, 0, 0, 0), (36, .iadd, 1, 0, 0, 0, 0), (37, .iload_n 3, 1, 0, 0, 0, 0), (38, .iload_n 1, 1, 0, 0, 0, 0), (39, .isub, 1, 0, 0, 0, 0), (40, .iconst 1, 1, 0, 0, 0, 0), (41, .isub, 1, 0, 0, 0, 0), (42, .invokevirtual 50, 3, 32, 3, 0, 519), (45, .iload 4, 2, 0, 0, 0, 0), (47, .if_icmp .gt 5, 3, 0, 0, 0, 0)],
  [(50, .iconst 1, 1, 0, 0, 0, 0), (51, .ireturn, 1, 0, 0, 0, 0), (52, .iinc 5 1, 3, 0, 0, 0, 0), (55, .goto (-52), 3, 0, 0, 0, 0), (58, .iconst 0, 1, 0, 0, 0, 0), (59, .ireturn, 1, 0, 0, 0, 0)]]
def iv_k41 : List (List ivE) := [[(0, .iconst 0, 1, 0, 0, 0, 0), (1, .istore_n 2, 1, 0, 0, 0, 0), (2, .iconst 0, 1, 0, 0, 0, 0), (3, .istore_n 3, 1, 0, 0, 0, 0), (4, .iload_n 3, 1, 0, 0, 0, 0), (5, .iload_n 1, 1, 0, 0, 0, 0), (6, .if_icmp .ge 26, 3, 0, 0, 0, 0), (9, .iload_n 3, 1, 0, 0, 0, 0), (10, .iconst 5, 1, 0, 0, 0, 0), (11, .if_icmp .ge 21, 3, 0, 0, 0, 0), (14, .iload_n 2, 1, 0, 0, 0, 0), (15, .iload_n 3, 1, 0, 0, 0, 0)],
  [(16, .aload_n 0, 1, 0, 0, 0, 0), (17, .getfield 9, 3, 4, 1, 0, 221), (20, .iload_n 3, 1, 0, 0, 0, 0), (21, .iaload, 1, 0, 0, 0, 0), (22, .invokestatic 58, 3, 25, 3, 0, 536), (25, .istore_n 2, 1, 0, 0, 0, 0), (26, .iinc 3 1, 3, 0, 0, 0, 0), (29, .goto (-25), 3, 0, 0, 0, 0)],
  [(32, .iload_n 2, 1, 0, 0, 0, 0), (33, .ireturn, 1, 0, 0, 0, 0)]]
def iv_k42 : List (List ivE) := [[(0, .aload_n 0, 1, 0, 0, 0, 0), (1, .invokespecial 3, 3, 1000, 0, 0, 260), (4, .aload_n 0, 1, 0, 0, 0, 0), (5, .bipush 16, 2, 0, 0, 0, 0), (7, .newarray .int, 2, 0, 0, 0, 0), (9, .putfield 9, 3, 5, 1, 0, 263), (12, .aload_n 0, 1, 0, 0, 0, 0), (13, .bipush 16, 2, 0, 0, 0, 0), (15, .newarray .int, 2, 0, 0, 0, 0)],
  [(17, .putfield 15, 3, 5, 2, 0, 264), (20, .aload_n 0, 1, 0, 0, 0, 0), (21, .bipush 8, 2, 0, 0, 0, 0), (23, .newarray .int, 2, 0, 0, 0, 0), (25, .putfield 18, 3, 5, 3, 0, 265), (28, .aload_n 0, 1, 0, 0, 0, 0), (29, .sipush 256, 3, 0, 0, 0, 0)],
  [(32, .newarray .int, 2, 0, 0, 0, 0), (34, .putfield 21, 3, 5, 4, 0, 266), (37, .return_, 1, 0, 0, 0, 0)]]
def iv_k43 : List (List ivE) := [[(0, .aload_n 0, 1, 0, 0, 0, 0), (1, .getfield 24, 3, 5, 0, 0, 261), (4, .ifCond .lt 42, 3, 0, 0, 0, 0), (7, .aload_n 0, 1, 0, 0, 0, 0), (8, .getfield 24, 3, 5, 0, 0, 261), (11, .bipush 16, 2, 0, 0, 0, 0), (13, .if_icmp .ge 33, 3, 0, 0, 0, 0)],
  [(16, .aload_n 0, 1, 0, 0, 0, 0), (17, .getfield 9, 3, 5, 1, 0, 263), (20, .aload_n 0, 1, 0, 0, 0, 0), (21, .getfield 24, 3, 5, 0, 0, 261), (24, .iload_n 1, 1, 0, 0, 0, 0), (25, .iastore, 1, 0, 0, 0, 0), (26, .aload_n 0, 1, 0, 0, 0, 0), (27, .getfield 15, 3, 5, 2, 0, 264), (30, .aload_n 0, 1, 0, 0, 0, 0), (31, .getfield 24, 3, 5, 0, 0, 261)],
  [(34, .iload_n 2, 1, 0, 0, 0, 0), (35, .iastore, 1, 0, 0, 0, 0), (36, .aload_n 0, 1, 0, 0, 0, 0), (37, .dup, 1, 0, 0, 0, 0), (38, .getfield 24, 3, 5, 0, 0, 261), (41, .iconst 1, 1, 0, 0, 0, 0), (42, .iadd, 1, 0, 0, 0, 0), (43, .putfield 24, 3, 5, 0, 0, 261), (46, .return_, 1, 0, 0, 0, 0)]]
def iv_k44 : List (List ivE) := [[(0, .aload_n 0, 1, 0, 0, 0, 0), (1, .iload_n 1, 1, 0, 0, 0, 0), (2, .iload_n 2, 1, 0, 0, 0, 0), (3, .invokevirtual 28, 3, 47, 3, 0, 654), (6, .aload_n 0, 1, 0, 0, 0, 0), (7, .iload_n 1, 1, 0, 0, 0, 0), (8, .invokevirtual 32, 3, 48, 2, 0, 658), (11, .ireturn, 1, 0, 0, 0, 0)]]
def iv_k45 : List (List ivE) := [[(0, .iload_n 1, 1, 0, 0, 0, 0), (1, .iconst 1, 1, 0, 0, 0, 0), (2, .if_icmp .lt 18, 3, 0, 0, 0, 0), (5, .iload_n 1, 1, 0, 0, 0, 0), (6, .bipush 8, 2, 0, 0, 0, 0), (8, .if_icmp .gt 12, 3, 0, 0, 0, 0), (11, .iload_n 2, 1, 0, 0, 0, 0), (12, .ifCond .lt 8, 3, 0, 0, 0, 0), (15, .iload_n 2, 1, 0, 0, 0, 0)],
  [(16, .iload_n 1, 1, 0, 0, 0, 0), (17, .if_icmp .lt 5, 3, 0, 0, 0, 0), (20, .iconst 0, 1, 0, 0, 0, 0), (21, .ireturn, 1, 0, 0, 0, 0), (22, .aload_n 0, 1, 0, 0, 0, 0), (23, .iload_n 1, 1, 0, 0, 0, 0), (24, .aload_n 0, 1, 0, 0, 0, 0), (25, .getfield 24, 3, 5, 0, 0, 261), (28, .invokevirtual 28, 3, 47, 3, 0, 654), (31, .aload_n 0, 1, 0, 0, 0, 0)],
  [(32, .getfield 18, 3, 5, 3, 0, 265), (35, .iload_n 2, 1, 0, 0, 0, 0), (36, .iaload, 1, 0, 0, 0, 0), (37, .istore_n 3, 1, 0, 0, 0, 0), (38, .aload_n 0, 1, 0, 0, 0, 0), (39, .getfield 18, 3, 5, 3, 0, 265), (42, .iload_n 2, 1, 0, 0, 0, 0), (43, .aload_n 0, 1, 0, 0, 0, 0), (44, .getfield 18, 3, 5, 3, 0, 265), (47, .iload_n 1, 1, 0, 0, 0, 0)],
  [(48, .iconst 1, 1, 0, 0, 0, 0), (49, .isub, 1, 0, 0, 0, 0), (50, .iaload, 1, 0, 0, 0, 0), (51, .iastore, 1, 0, 0, 0, 0), (52, .aload_n 0, 1, 0, 0, 0, 0), (53, .getfield 18, 3, 5, 3, 0, 265), (56, .iload_n 1, 1, 0, 0, 0, 0), (57, .iconst 1, 1, 0, 0, 0, 0), (58, .isub, 1, 0, 0, 0, 0), (59, .iload_n 3, 1, 0, 0, 0, 0), (60, .iastore, 1, 0, 0, 0, 0), (61, .aload_n 0, 1, 0, 0, 0, 0), (62, .iload_n 1, 1, 0, 0, 0, 0), (63, .invokevirtual 32, 3, 48, 2, 0, 658)],
  [(66, .pop, 1, 0, 0, 0, 0), (67, .iconst 1, 1, 0, 0, 0, 0), (68, .iload_n 1, 1, 0, 0, 0, 0), (69, .ishl, 1, 0, 0, 0, 0), (70, .iconst 1, 1, 0, 0, 0, 0), (71, .isub, 1, 0, 0, 0, 0), (72, .istore 4, 2, 0, 0, 0, 0), (74, .iconst 0, 1, 0, 0, 0, 0), (75, .istore 5, 2, 0, 0, 0, 0), (77, .iconst 0, 1, 0, 0, 0, 0), (78, .istore 6, 2, 0, 0, 0, 0)],
  [(80, .iload 6, 2, 0, 0, 0, 0), (82, .iload_n 1, 1, 0, 0, 0, 0), (83, .if_icmp .ge 42, 3, 0, 0, 0, 0), (86, .iload_n 3, 1, 0, 0, 0, 0), (87, .iload 6, 2, 0, 0, 0, 0), (89, .invokestatic 36, 3, 98, 2, 1, 672), (92, .ifCond .eq 27, 3, 0, 0, 0, 0), (95, .aload_n 0, 1, 0, 0, 0, 0)],
  [(96, .getfield 21, 3, 5, 4, 0, 266), (99, .iload 4, 2, 0, 0, 0, 0), (101, .iconst 1, 1, 0, 0, 0, 0), (102, .iload 6, 2, 0, 0, 0, 0), (104, .ishl, 1, 0, 0, 0, 0), (105, .ixor, 1, 0, 0, 0, 0), (106, .iaload, 1, 0, 0, 0, 0), (107, .ifCond .le 12, 3, 0, 0, 0, 0), (110, .iload 5, 2, 0, 0, 0, 0)],
  [(112, .iconst 1, 1, 0, 0, 0, 0), (113, .iload 6, 2, 0, 0, 0, 0), (115, .ishl, 1, 0, 0, 0, 0), (116, .ior, 1, 0, 0, 0, 0), (117, .istore 5, 2, 0, 0, 0, 0), (119, .iinc 6 1, 3, 0, 0, 0, 0), (122, .goto (-42), 3, 0, 0, 0, 0), (125, .iload 5, 2, 0, 0, 0, 0), (127, .ireturn, 1, 0, 0, 0, 0)]]
def iv_k46 : List (List ivE) := [[(0, .aload_n 0, 1, 0, 0, 0, 0), (1, .iload_n 1, 1, 0, 0, 0, 0), (2, .aload_n 0, 1, 0, 0, 0, 0), (3, .getfield 24, 3, 5, 0, 0, 261), (6, .invokevirtual 40, 3, 44, 3, 0, 689), (9, .ifCond .le 6, 3, 0, 0, 0, 0), (12, .bipush (-9), 2, 0, 0, 0, 0), (14, .ireturn, 1, 0, 0, 0, 0), (15, .iconst 0, 1, 0, 0, 0, 0)],
  [(16, .istore_n 2, 1, 0, 0, 0, 0), (17, .iload_n 2, 1, 0, 0, 0, 0), (18, .aload_n 0, 1, 0, 0, 0, 0), (19, .getfield 24, 3, 5, 0, 0, 261), (22, .if_icmp .ge 22, 3, 0, 0, 0, 0), (25, .aload_n 0, 1, 0, 0, 0, 0), (26, .iload_n 1, 1, 0, 0, 0, 0), (27, .iload_n 2, 1, 0, 0, 0, 0), (28, .iconst 1, 1, 0, 0, 0, 0), (29, .iadd, 1, 0, 0, 0, 0), (30, .invokevirtual 40, 3, 44, 3, 0, 689)],
  [(33, .ifCond .ne 5, 3, 0, 0, 0, 0), (36, .iload_n 2, 1, 0, 0, 0, 0), (37, .ireturn, 1, 0, 0, 0, 0), (38, .iinc 2 1, 3, 0, 0, 0, 0), (41, .goto (-24), 3, 0, 0, 0, 0), (44, .bipush (-9), 2, 0, 0, 0, 0), (46, .ireturn, 1, 0, 0, 0, 0)]]
def iv_k47 : List (List ivE) := [[(0, .iconst 0, 1, 0, 0, 0, 0), (1, .istore_n 3, 1, 0, 0, 0, 0), (2, .iload_n 3, 1, 0, 0, 0, 0), (3, .iload_n 1, 1, 0, 0, 0, 0), (4, .if_icmp .ge 26, 3, 0, 0, 0, 0), (7, .iload_n 3, 1, 0, 0, 0, 0), (8, .bipush 8, 2, 0, 0, 0, 0), (10, .if_icmp .ge 20, 3, 0, 0, 0, 0), (13, .aload_n 0, 1, 0, 0, 0, 0), (14, .getfield 18, 3, 5, 3, 0, 265)],
  [(17, .iload_n 3, 1, 0, 0, 0, 0), (18, .iconst 1, 1, 0, 0, 0, 0), (19, .iload_n 1, 1, 0, 0, 0, 0), (20, .ishl, 1, 0, 0, 0, 0), (21, .iconst 1, 1, 0, 0, 0, 0), (22, .isub, 1, 0, 0, 0, 0), (23, .iastore, 1, 0, 0, 0, 0), (24, .iinc 3 1, 3, 0, 0, 0, 0), (27, .goto (-25), 3, 0, 0, 0, 0), (30, .iconst 0, 1, 0, 0, 0, 0), (31, .istore_n 3, 1, 0, 0, 0, 0)],
  [(32, .iload_n 3, 1, 0, 0, 0, 0), (33, .iload_n 2, 1, 0, 0, 0, 0), (34, .if_icmp .ge 57, 3, 0, 0, 0, 0), (37, .iload_n 3, 1, 0, 0, 0, 0), (38, .bipush 16, 2, 0, 0, 0, 0), (40, .if_icmp .ge 51, 3, 0, 0, 0, 0), (43, .aload_n 0, 1, 0, 0, 0, 0), (44, .getfield 9, 3, 5, 1, 0, 263), (47, .iload_n 3, 1, 0, 0, 0, 0)],
  [(48, .iaload, 1, 0, 0, 0, 0), (49, .istore 4, 2, 0, 0, 0, 0), (51, .iload 4, 2, 0, 0, 0, 0), (53, .ifCond .lt 32, 3, 0, 0, 0, 0), (56, .iload 4, 2, 0, 0, 0, 0), (58, .iload_n 1, 1, 0, 0, 0, 0), (59, .if_icmp .ge 26, 3, 0, 0, 0, 0), (62, .iload 4, 2, 0, 0, 0, 0)],
  [(64, .bipush 8, 2, 0, 0, 0, 0), (66, .if_icmp .ge 19, 3, 0, 0, 0, 0), (69, .aload_n 0, 1, 0, 0, 0, 0), (70, .getfield 18, 3, 5, 3, 0, 265), (73, .iload 4, 2, 0, 0, 0, 0), (75, .dup2, 1, 0, 0, 0, 0), (76, .iaload, 1, 0, 0, 0, 0), (77, .aload_n 0, 1, 0, 0, 0, 0), (78, .getfield 15, 3, 5, 2, 0, 264)],
  [(81, .iload_n 3, 1, 0, 0, 0, 0), (82, .iaload, 1, 0, 0, 0, 0), (83, .iand, 1, 0, 0, 0, 0), (84, .iastore, 1, 0, 0, 0, 0), (85, .iinc 3 1, 3, 0, 0, 0, 0), (88, .goto (-56), 3, 0, 0, 0, 0), (91, .return_, 1, 0, 0, 0, 0)]]
def iv_k48 : List (List ivE) := [[(0, .iload_n 1, 1, 0, 0, 0, 0), (1, .iconst 1, 1, 0, 0, 0, 0), (2, .if_icmp .lt 9, 3, 0, 0, 0, 0), (5, .iload_n 1, 1, 0, 0, 0, 0), (6, .bipush 8, 2, 0, 0, 0, 0), (8, .if_icmp .le 5, 3, 0, 0, 0, 0), (11, .iconst 0, 1, 0, 0, 0, 0), (12, .ireturn, 1, 0, 0, 0, 0), (13, .iconst 1, 1, 0, 0, 0, 0), (14, .iload_n 1, 1, 0, 0, 0, 0), (15, .ishl, 1, 0, 0, 0, 0)],
  [(16, .iconst 1, 1, 0, 0, 0, 0), (17, .isub, 1, 0, 0, 0, 0), (18, .istore_n 2, 1, 0, 0, 0, 0), (19, .iconst 1, 1, 0, 0, 0, 0), (20, .istore_n 3, 1, 0, 0, 0, 0), (21, .iload_n 3, 1, 0, 0, 0, 0), (22, .iload_n 2, 1, 0, 0, 0, 0), (23, .if_icmp .gt 16, 3, 0, 0, 0, 0), (26, .aload_n 0, 1, 0, 0, 0, 0), (27, .getfield 21, 3, 5, 4, 0, 266), (30, .iload_n 3, 1, 0, 0, 0, 0), (31, .iconst 0, 1, 0, 0, 0, 0)],
  [(32, .iastore, 1, 0, 0, 0, 0), (33, .iinc 3 1, 3, 0, 0, 0, 0), (36, .goto (-15), 3, 0, 0, 0, 0), (39, .aload_n 0, 1, 0, 0, 0, 0), (40, .getfield 21, 3, 5, 4, 0, 266), (43, .iconst 0, 1, 0, 0, 0, 0), (44, .iconst 1, 1, 0, 0, 0, 0), (45, .iastore, 1, 0, 0, 0, 0), (46, .iconst 0, 1, 0, 0, 0, 0), (47, .istore_n 3, 1, 0, 0, 0, 0)],
  [(48, .iload_n 3, 1, 0, 0, 0, 0), (49, .iload_n 2, 1, 0, 0, 0, 0), (50, .if_icmp .ge 24, 3, 0, 0, 0, 0), (53, .aload_n 0, 1, 0, 0, 0, 0), (54, .getfield 21, 3, 5, 4, 0, 266), (57, .iload_n 3, 1, 0, 0, 0, 0), (58, .iaload, 1, 0, 0, 0, 0), (59, .ifCond .le 9, 3, 0, 0, 0, 0), (62, .aload_n 0, 1, 0, 0, 0, 0), (63, .iload_n 1, 1, 0, 0, 0, 0)],
  [(64, .iload_n 3, 1, 0, 0, 0, 0), (65, .invokevirtual 44, 3, 49, 3, 0, 662), (68, .iinc 3 1, 3, 0, 0, 0, 0), (71, .goto (-23), 3, 0, 0, 0, 0), (74, .aload_n 0, 1, 0, 0, 0, 0), (75, .getfield 21, 3, 5, 4, 0, 266), (78, .iload_n 2, 1, 0, 0, 0, 0), (79, .iaload, 1, 0, 0, 0, 0)],
  [(80, .ireturn, 1, 0, 0, 0, 0)]]
def iv_k49 : List (List ivE) := [[(0, .iload_n 2, 1, 0, 0, 0, 0), (1, .invokestatic 47, 3, 167, 1, 0, 666), (4, .istore_n 3, 1, 0, 0, 0, 0), (5, .iload_n 3, 1, 0, 0, 0, 0), (6, .bipush 8, 2, 0, 0, 0, 0), (8, .if_icmp .lt 4, 3, 0, 0, 0, 0), (11, .return_, 1, 0, 0, 0, 0), (12, .iconst 0, 1, 0, 0, 0, 0), (13, .istore 4, 2, 0, 0, 0, 0), (15, .iload 4, 2, 0, 0, 0, 0)],
  [(17, .iload_n 1, 1, 0, 0, 0, 0), (18, .if_icmp .ge 52, 3, 0, 0, 0, 0), (21, .aload_n 0, 1, 0, 0, 0, 0), (22, .getfield 18, 3, 5, 3, 0, 265), (25, .iload_n 3, 1, 0, 0, 0, 0), (26, .iaload, 1, 0, 0, 0, 0), (27, .iload 4, 2, 0, 0, 0, 0), (29, .invokestatic 36, 3, 98, 2, 1, 672)],
  [(32, .ifCond .eq 32, 3, 0, 0, 0, 0), (35, .iload_n 2, 1, 0, 0, 0, 0), (36, .iload 4, 2, 0, 0, 0, 0), (38, .invokestatic 36, 3, 98, 2, 1, 672), (41, .ifCond .ne 23, 3, 0, 0, 0, 0), (44, .aload_n 0, 1, 0, 0, 0, 0), (45, .getfield 21, 3, 5, 4, 0, 266)],
  [(48, .iload_n 2, 1, 0, 0, 0, 0), (49, .iconst 1, 1, 0, 0, 0, 0), (50, .iload 4, 2, 0, 0, 0, 0), (52, .ishl, 1, 0, 0, 0, 0), (53, .ior, 1, 0, 0, 0, 0), (54, .dup2, 1, 0, 0, 0, 0), (55, .iaload, 1, 0, 0, 0, 0), (56, .aload_n 0, 1, 0, 0, 0, 0), (57, .getfield 21, 3, 5, 4, 0, 266), (60, .iload_n 2, 1, 0, 0, 0, 0), (61, .iaload, 1, 0, 0, 0, 0), (62, .iadd, 1, 0, 0, 0, 0), (63, .iastore, 1, 0, 0, 0, 0)],
  [(64, .iinc 4 1, 3, 0, 0, 0, 0), (67, .goto (-52), 3, 0, 0, 0, 0), (70, .return_, 1, 0, 0, 0, 0)]]
def iv_k50 : List (List ivE) := [[(0, .aload_n 0, 1, 0, 0, 0, 0), (1, .invokespecial 3, 3, 1000, 0, 0, 101), (4, .aload_n 0, 1, 0, 0, 0, 0), (5, .bipush 8, 2, 0, 0, 0, 0), (7, .newarray .int, 2, 0, 0, 0, 0), (9, .putfield 9, 3, 6, 0, 0, 102), (12, .aload_n 0, 1, 0, 0, 0, 0), (13, .bipush 8, 2, 0, 0, 0, 0), (15, .newarray .int, 2, 0, 0, 0, 0)],
  [(17, .putfield 15, 3, 6, 1, 0, 104), (20, .aload_n 0, 1, 0, 0, 0, 0), (21, .bipush 6, 2, 0, 0, 0, 0), (23, .newarray .int, 2, 0, 0, 0, 0), (25, .putfield 18, 3, 6, 2, 0, 106), (28, .return_, 1, 0, 0, 0, 0)]]
def iv_k51 : List (List ivE) := [[(0, .aload_n 0, 1, 0, 0, 0, 0), (1, .iconst 0, 1, 0, 0, 0, 0), (2, .putfield 21, 3, 6, 3, 0, 108), (5, .aload_n 0, 1, 0, 0, 0, 0), (6, .iconst 0, 1, 0, 0, 0, 0), (7, .putfield 25, 3, 6, 4, 0, 110), (10, .aload_n 0, 1, 0, 0, 0, 0), (11, .iconst 0, 1, 0, 0, 0, 0), (12, .putfield 28, 3, 6, 5, 0, 113), (15, .aload_n 0, 1, 0, 0, 0, 0)],
  [(16, .iconst 0, 1, 0, 0, 0, 0), (17, .putfield 31, 3, 6, 6, 0, 115), (20, .aload_n 0, 1, 0, 0, 0, 0), (21, .iconst 0, 1, 0, 0, 0, 0), (22, .putfield 34, 3, 6, 7, 0, 116), (25, .iconst 0, 1, 0, 0, 0, 0), (26, .istore_n 2, 1, 0, 0, 0, 0), (27, .iload_n 2, 1, 0, 0, 0, 0), (28, .aload_n 1, 1, 0, 0, 0, 0), (29, .getfield 37, 3, 7, 1, 0, 89)],
  [(32, .if_icmp .ge 23, 3, 0, 0, 0, 0), (35, .aload_n 0, 1, 0, 0, 0, 0), (36, .aload_n 1, 1, 0, 0, 0, 0), (37, .iload_n 2, 1, 0, 0, 0, 0), (38, .invokevirtual 42, 3, 65, 2, 0, 326), (41, .invokevirtual 46, 3, 52, 2, 0, 330), (44, .ifCond .ne 5, 3, 0, 0, 0, 0), (47, .iload_n 2, 1, 0, 0, 0, 0)],
  [(48, .ireturn, 1, 0, 0, 0, 0), (49, .iinc 2 1, 3, 0, 0, 0, 0), (52, .goto (-25), 3, 0, 0, 0, 0), (55, .aload_n 0, 1, 0, 0, 0, 0), (56, .getfield 34, 3, 6, 7, 0, 116), (59, .iconst 2, 1, 0, 0, 0, 0), (60, .if_icmp .eq 18, 3, 0, 0, 0, 0), (63, .aload_n 0, 1, 0, 0, 0, 0)],
  [(64, .getfield 34, 3, 6, 7, 0, 116), (67, .iconst 3, 1, 0, 0, 0, 0), (68, .if_icmp .ne 14, 3, 0, 0, 0, 0), (71, .aload_n 0, 1, 0, 0, 0, 0), (72, .invokevirtual 50, 3, 57, 1, 0, 346), (75, .ifCond .eq 7, 3, 0, 0, 0, 0), (78, .iconst 1, 1, 0, 0, 0, 0), (79, .goto 4, 3, 0, 0, 0, 0)],
  [(82, .iconst 0, 1, 0, 0, 0, 0), (83, .istore_n 2, 1, 0, 0, 0, 0), (84, .iload_n 2, 1, 0, 0, 0, 0), (85, .ifCond .eq 8, 3, 0, 0, 0, 0), (88, .bipush (-9), 2, 0, 0, 0, 0), (90, .goto 7, 3, 0, 0, 0, 0), (93, .aload_n 1, 1, 0, 0, 0, 0), (94, .getfield 37, 3, 7, 1, 0, 89)],
  [(97, .ireturn, 1, 0, 0, 0, 0)]]
def iv_k52 : List (List ivE) := [[(0, .aload_n 0, 1, 0, 0, 0, 0), (1, .getfield 34, 3, 6, 7, 0, 116), (4, .tableswitch 80 0 6 #[44, 50, 80, 56, 62, 68, 74], 44, 0, 0, 0, 0)],
  [],
  [],
  [(48, .aload_n 0, 1, 0, 0, 0, 0), (49, .iload_n 1, 1, 0, 0, 0, 0), (50, .invokevirtual 54, 3, 53, 2, 0, 334), (53, .ireturn, 1, 0, 0, 0, 0), (54, .aload_n 0, 1, 0, 0, 0, 0), (55, .iload_n 1, 1, 0, 0, 0, 0), (56, .invokevirtual 57, 3, 54, 2, 0, 338), (59, .ireturn, 1, 0, 0, 0, 0), (60, .aload_n 0, 1, 0, 0, 0, 0), (61, .iload_n 1, 1, 0, 0, 0, 0), (62, .invokevirtual 60, 3, 56, 2, 0, 342)],
  [(65, .ireturn, 1, 0, 0, 0, 0), (66, .aload_n 0, 1, 0, 0, 0, 0), (67, .iload_n 1, 1, 0, 0, 0, 0), (68, .invokevirtual 63, 3, 59, 2, 0, 361), (71, .ireturn, 1, 0, 0, 0, 0), (72, .aload_n 0, 1, 0, 0, 0, 0), (73, .iload_n 1, 1, 0, 0, 0, 0), (74, .invokevirtual 66, 3, 60, 2, 0, 365), (77, .ireturn, 1, 0, 0, 0, 0), (78, .aload_n 0, 1, 0, 0, 0, 0), (79, .iload_n 1, 1, 0, 0, 0, 0)],
  [(80, .invokevirtual 69, 3, 61, 2, 0, 376), (83, .ireturn, 1, 0, 0, 0, 0), (84, .aload_n 0, 1, 0, 0, 0, 0), (85, .iload_n 1, 1, 0, 0, 0, 0), (86, .invokevirtual 72, 3, 55, 2, 0, 354), (89, .ireturn, 1, 0, 0, 0, 0)]]
def iv_k53 : List (List ivE) := [[(0, .aload_n 0, 1, 0, 0, 0, 0), (1, .iconst 1, 1, 0, 0, 0, 0), (2, .putfield 34, 3, 6, 7, 0, 116), (5, .iload_n 1, 1, 0, 0, 0, 0), (6, .bipush 72, 2, 0, 0, 0, 0), (8, .if_icmp .ne 7, 3, 0, 0, 0, 0), (11, .iconst 1, 1, 0, 0, 0, 0), (12, .goto 4, 3, 0, 0, 0, 0), (15, .iconst 0, 1, 0, 0, 0, 0)],
  [(16, .ireturn, 1, 0, 0, 0, 0)]]
def iv_k54 : List (List ivE) := [[(0, .aload_n 0, 1, 0, 0, 0, 0), (1, .iconst 2, 1, 0, 0, 0, 0), (2, .putfield 34, 3, 6, 7, 0, 116), (5, .aload_n 0, 1, 0, 0, 0, 0), (6, .iload_n 1, 1, 0, 0, 0, 0), (7, .bipush 48, 2, 0, 0, 0, 0), (9, .isub, 1, 0, 0, 0, 0), (10, .putfield 21, 3, 6, 3, 0, 108), (13, .aload_n 0, 1, 0, 0, 0, 0), (14, .getfield 21, 3, 6, 3, 0, 108)],
  [(17, .ifCond .lt 15, 3, 0, 0, 0, 0), (20, .aload_n 0, 1, 0, 0, 0, 0), (21, .getfield 21, 3, 6, 3, 0, 108), (24, .iconst 3, 1, 0, 0, 0, 0), (25, .if_icmp .gt 7, 3, 0, 0, 0, 0), (28, .iconst 1, 1, 0, 0, 0, 0), (29, .goto 4, 3, 0, 0, 0, 0)],
  [(32, .iconst 0, 1, 0, 0, 0, 0), (33, .ireturn, 1, 0, 0, 0, 0)]]
def iv_k55 : List (List ivE) := [[(0, .iload_n 1, 1, 0, 0, 0, 0), (1, .lookupswitch 112 #[(75, 85), (78, 35), (80, 65)], 35, 0, 0, 0, 0)],
  [],
  [(36, .aload_n 0, 1, 0, 0, 0, 0), (37, .iconst 3, 1, 0, 0, 0, 0), (38, .putfield 34, 3, 6, 7, 0, 116), (41, .aload_n 0, 1, 0, 0, 0, 0), (42, .iconst 0, 1, 0, 0, 0, 0), (43, .putfield 75, 3, 6, 8, 0, 117), (46, .aload_n 0, 1, 0, 0, 0, 0), (47, .iconst 0, 1, 0, 0, 0, 0)],
  [(48, .putfield 78, 3, 6, 9, 0, 118), (51, .aload_n 0, 1, 0, 0, 0, 0), (52, .getfield 25, 3, 6, 4, 0, 110), (55, .bipush 8, 2, 0, 0, 0, 0), (57, .if_icmp .ge 7, 3, 0, 0, 0, 0), (60, .iconst 1, 1, 0, 0, 0, 0), (61, .goto 4, 3, 0, 0, 0, 0)],
  [(64, .iconst 0, 1, 0, 0, 0, 0), (65, .ireturn, 1, 0, 0, 0, 0), (66, .aload_n 0, 1, 0, 0, 0, 0), (67, .iconst 4, 1, 0, 0, 0, 0), (68, .putfield 34, 3, 6, 7, 0, 116), (71, .aload_n 0, 1, 0, 0, 0, 0), (72, .getfield 28, 3, 6, 5, 0, 113), (75, .bipush 6, 2, 0, 0, 0, 0), (77, .if_icmp .ge 7, 3, 0, 0, 0, 0)],
  [(80, .iconst 1, 1, 0, 0, 0, 0), (81, .goto 4, 3, 0, 0, 0, 0), (84, .iconst 0, 1, 0, 0, 0, 0), (85, .ireturn, 1, 0, 0, 0, 0), (86, .aload_n 0, 1, 0, 0, 0, 0), (87, .iconst 5, 1, 0, 0, 0, 0), (88, .putfield 34, 3, 6, 7, 0, 116), (91, .aload_n 0, 1, 0, 0, 0, 0), (92, .getfield 31, 3, 6, 6, 0, 115), (95, .aload_n 0, 1, 0, 0, 0, 0)],
  [(96, .getfield 25, 3, 6, 4, 0, 110), (99, .aload_n 0, 1, 0, 0, 0, 0), (100, .getfield 28, 3, 6, 5, 0, 113), (103, .imul, 1, 0, 0, 0, 0), (104, .if_icmp .ge 7, 3, 0, 0, 0, 0), (107, .iconst 1, 1, 0, 0, 0, 0), (108, .goto 4, 3, 0, 0, 0, 0), (111, .iconst 0, 1, 0, 0, 0, 0)],
  [(112, .ireturn, 1, 0, 0, 0, 0), (113, .iconst 0, 1, 0, 0, 0, 0), (114, .ireturn, 1, 0, 0, 0, 0)]]
def iv_k56 : List (List ivE) := [[(0, .iload_n 1, 1, 0, 0, 0, 0), (1, .bipush 97, 2, 0, 0, 0, 0), (3, .isub, 1, 0, 0, 0, 0), (4, .istore_n 2, 1, 0, 0, 0, 0), (5, .iload_n 2, 1, 0, 0, 0, 0), (6, .ifCond .lt 9, 3, 0, 0, 0, 0), (9, .iload_n 2, 1, 0, 0, 0, 0), (10, .bipush 6, 2, 0, 0, 0, 0), (12, .if_icmp .lt 24, 3, 0, 0, 0, 0), (15, .aload_n 0, 1, 0, 0, 0, 0)],
  [(16, .invokevirtual 50, 3, 57, 1, 0, 346), (19, .ifCond .eq 15, 3, 0, 0, 0, 0), (22, .aload_n 0, 1, 0, 0, 0, 0), (23, .iload_n 1, 1, 0, 0, 0, 0), (24, .invokevirtual 72, 3, 55, 2, 0, 354), (27, .ifCond .eq 7, 3, 0, 0, 0, 0), (30, .iconst 1, 1, 0, 0, 0, 0), (31, .goto 4, 3, 0, 0, 0, 0)],
  [(34, .iconst 0, 1, 0, 0, 0, 0), (35, .ireturn, 1, 0, 0, 0, 0), (36, .aload_n 0, 1, 0, 0, 0, 0), (37, .aload_n 0, 1, 0, 0, 0, 0), (38, .getfield 75, 3, 6, 8, 0, 117), (41, .aload_n 0, 1, 0, 0, 0, 0), (42, .getfield 78, 3, 6, 9, 0, 118), (45, .iload_n 2, 1, 0, 0, 0, 0), (46, .invokestatic 81, 3, 25, 3, 0, 358)],
  [(49, .putfield 75, 3, 6, 8, 0, 117), (52, .aload_n 0, 1, 0, 0, 0, 0), (53, .dup, 1, 0, 0, 0, 0), (54, .getfield 78, 3, 6, 9, 0, 118), (57, .iconst 1, 1, 0, 0, 0, 0), (58, .iadd, 1, 0, 0, 0, 0), (59, .putfield 78, 3, 6, 9, 0, 118), (62, .aload_n 0, 1, 0, 0, 0, 0), (63, .getfield 78, 3, 6, 9, 0, 118)],
  [(66, .iconst 5, 1, 0, 0, 0, 0), (67, .if_icmp .lt 10, 3, 0, 0, 0, 0), (70, .aload_n 0, 1, 0, 0, 0, 0), (71, .invokevirtual 50, 3, 57, 1, 0, 346), (74, .ifCond .eq 7, 3, 0, 0, 0, 0), (77, .iconst 1, 1, 0, 0, 0, 0), (78, .goto 4, 3, 0, 0, 0, 0)],
  [(81, .iconst 0, 1, 0, 0, 0, 0), (82, .ireturn, 1, 0, 0, 0, 0)]]
def iv_k57 : List (List ivE) := [[(0, .aload_n 0, 1, 0, 0, 0, 0), (1, .getfield 78, 3, 6, 9, 0, 118), (4, .ifCond .eq 30, 3, 0, 0, 0, 0), (7, .aload_n 0, 1, 0, 0, 0, 0), (8, .getfield 25, 3, 6, 4, 0, 110), (11, .ifCond .lt 23, 3, 0, 0, 0, 0), (14, .aload_n 0, 1, 0, 0, 0, 0), (15, .getfield 25, 3, 6, 4, 0, 110)],
  [(18, .bipush 8, 2, 0, 0, 0, 0), (20, .if_icmp .ge 14, 3, 0, 0, 0, 0), (23, .aload_n 0, 1, 0, 0, 0, 0), (24, .aload_n 0, 1, 0, 0, 0, 0), (25, .getfield 75, 3, 6, 8, 0, 117), (28, .invokevirtual 87, 3, 58, 2, 0, 350), (31, .ifCond .eq 5, 3, 0, 0, 0, 0)],
  [(34, .iconst 0, 1, 0, 0, 0, 0), (35, .ireturn, 1, 0, 0, 0, 0), (36, .aload_n 0, 1, 0, 0, 0, 0), (37, .getfield 9, 3, 6, 0, 0, 102), (40, .aload_n 0, 1, 0, 0, 0, 0), (41, .getfield 25, 3, 6, 4, 0, 110), (44, .aload_n 0, 1, 0, 0, 0, 0), (45, .getfield 75, 3, 6, 8, 0, 117)],
  [(48, .iastore, 1, 0, 0, 0, 0), (49, .aload_n 0, 1, 0, 0, 0, 0), (50, .getfield 15, 3, 6, 1, 0, 104), (53, .aload_n 0, 1, 0, 0, 0, 0), (54, .getfield 25, 3, 6, 4, 0, 110), (57, .iconst 0, 1, 0, 0, 0, 0), (58, .iastore, 1, 0, 0, 0, 0), (59, .aload_n 0, 1, 0, 0, 0, 0), (60, .dup, 1, 0, 0, 0, 0), (61, .getfield 25, 3, 6, 4, 0, 110)],
  [(64, .iconst 1, 1, 0, 0, 0, 0), (65, .iadd, 1, 0, 0, 0, 0), (66, .putfield 25, 3, 6, 4, 0, 110), (69, .aload_n 0, 1, 0, 0, 0, 0), (70, .iconst 2, 1, 0, 0, 0, 0), (71, .putfield 34, 3, 6, 7, 0, 116), (74, .iconst 1, 1, 0, 0, 0, 0), (75, .ireturn, 1, 0, 0, 0, 0)]]
def iv_k58 : List (List ivE) := [[(0, .iconst 0, 1, 0, 0, 0, 0), (1, .istore_n 2, 1, 0, 0, 0, 0), (2, .iload_n 2, 1, 0, 0, 0, 0), (3, .aload_n 0, 1, 0, 0, 0, 0), (4, .getfield 25, 3, 6, 4, 0, 110), (7, .if_icmp .ge 27, 3, 0, 0, 0, 0), (10, .iload_n 2, 1, 0, 0, 0, 0), (11, .bipush 8, 2, 0, 0, 0, 0), (13, .if_icmp .ge 21, 3, 0, 0, 0, 0)],
  [(16, .aload_n 0, 1, 0, 0, 0, 0), (17, .getfield 9, 3, 6, 0, 0, 102), (20, .iload_n 2, 1, 0, 0, 0, 0), (21, .iaload, 1, 0, 0, 0, 0), (22, .iload_n 1, 1, 0, 0, 0, 0), (23, .if_icmp .ne 5, 3, 0, 0, 0, 0), (26, .iconst 1, 1, 0, 0, 0, 0), (27, .ireturn, 1, 0, 0, 0, 0), (28, .iinc 2 1, 3, 0, 0, 0, 0), (31, .goto (-29), 3, 0, 0, 0, 0)],
  [(34, .iconst 0, 1, 0, 0, 0, 0), (35, .ireturn, 1, 0, 0, 0, 0)]]
def iv_k59 : List (List ivE) := [[(0, .iload_n 1, 1, 0, 0, 0, 0), (1, .bipush 48, 2, 0, 0, 0, 0), (3, .isub, 1, 0, 0, 0, 0), (4, .istore_n 2, 1, 0, 0, 0, 0), (5, .iload_n 2, 1, 0, 0, 0, 0), (6, .iconst 1, 1, 0, 0, 0, 0), (7, .if_icmp .lt 25, 3, 0, 0, 0, 0), (10, .iload_n 2, 1, 0, 0, 0, 0), (11, .bipush 9, 2, 0, 0, 0, 0), (13, .if_icmp .gt 19, 3, 0, 0, 0, 0)],
  [(16, .aload_n 0, 1, 0, 0, 0, 0), (17, .getfield 28, 3, 6, 5, 0, 113), (20, .ifCond .lt 12, 3, 0, 0, 0, 0), (23, .aload_n 0, 1, 0, 0, 0, 0), (24, .getfield 28, 3, 6, 5, 0, 113), (27, .bipush 6, 2, 0, 0, 0, 0), (29, .if_icmp .lt 5, 3, 0, 0, 0, 0)],
  [(32, .iconst 0, 1, 0, 0, 0, 0), (33, .ireturn, 1, 0, 0, 0, 0), (34, .aload_n 0, 1, 0, 0, 0, 0), (35, .getfield 18, 3, 6, 2, 0, 106), (38, .aload_n 0, 1, 0, 0, 0, 0), (39, .getfield 28, 3, 6, 5, 0, 113), (42, .iload_n 2, 1, 0, 0, 0, 0), (43, .iastore, 1, 0, 0, 0, 0), (44, .aload_n 0, 1, 0, 0, 0, 0), (45, .dup, 1, 0, 0, 0, 0), (46, .getfield 28, 3, 6, 5, 0, 113)],
  [(49, .iconst 1, 1, 0, 0, 0, 0), (50, .iadd, 1, 0, 0, 0, 0), (51, .putfield 28, 3, 6, 5, 0, 113), (54, .aload_n 0, 1, 0, 0, 0, 0), (55, .iconst 2, 1, 0, 0, 0, 0), (56, .putfield 34, 3, 6, 7, 0, 116), (59, .iconst 1, 1, 0, 0, 0, 0), (60, .ireturn, 1, 0, 0, 0, 0)]]
def iv_k60 : List (List ivE) := [[(0, .aload_n 0, 1, 0, 0, 0, 0), (1, .iload_n 1, 1, 0, 0, 0, 0), (2, .bipush 48, 2, 0, 0, 0, 0), (4, .isub, 1, 0, 0, 0, 0), (5, .putfield 90, 3, 6, 10, 0, 119), (8, .aload_n 0, 1, 0, 0, 0, 0), (9, .bipush 6, 2, 0, 0, 0, 0), (11, .putfield 34, 3, 6, 7, 0, 116), (14, .aload_n 0, 1, 0, 0, 0, 0), (15, .getfield 90, 3, 6, 10, 0, 119)],
  [(18, .ifCond .lt 29, 3, 0, 0, 0, 0), (21, .aload_n 0, 1, 0, 0, 0, 0), (22, .getfield 90, 3, 6, 10, 0, 119), (25, .aload_n 0, 1, 0, 0, 0, 0), (26, .getfield 28, 3, 6, 5, 0, 113), (29, .if_icmp .ge 18, 3, 0, 0, 0, 0)],
  [(32, .aload_n 0, 1, 0, 0, 0, 0), (33, .aload_n 0, 1, 0, 0, 0, 0), (34, .getfield 90, 3, 6, 10, 0, 119), (37, .invokevirtual 93, 3, 62, 2, 0, 369), (40, .ifCond .eq 7, 3, 0, 0, 0, 0), (43, .iconst 1, 1, 0, 0, 0, 0), (44, .goto 4, 3, 0, 0, 0, 0), (47, .iconst 0, 1, 0, 0, 0, 0)],
  [(48, .ireturn, 1, 0, 0, 0, 0)]]
def iv_k61 : List (List ivE) := [[(0, .iload_n 1, 1, 0, 0, 0, 0), (1, .bipush 48, 2, 0, 0, 0, 0), (3, .isub, 1, 0, 0, 0, 0), (4, .istore_n 2, 1, 0, 0, 0, 0), (5, .iload_n 2, 1, 0, 0, 0, 0), (6, .ifCond .lt 33, 3, 0, 0, 0, 0), (9, .iload_n 2, 1, 0, 0, 0, 0), (10, .aload_n 0, 1, 0, 0, 0, 0), (11, .getfield 25, 3, 6, 4, 0, 110), (14, .if_icmp .ge 25, 3, 0, 0, 0, 0)],
  [(17, .iload_n 2, 1, 0, 0, 0, 0), (18, .bipush 8, 2, 0, 0, 0, 0), (20, .if_icmp .ge 19, 3, 0, 0, 0, 0), (23, .aload_n 0, 1, 0, 0, 0, 0), (24, .getfield 15, 3, 6, 1, 0, 104), (27, .iload_n 2, 1, 0, 0, 0, 0), (28, .iaload, 1, 0, 0, 0, 0), (29, .aload_n 0, 1, 0, 0, 0, 0), (30, .getfield 90, 3, 6, 10, 0, 119)],
  [(33, .invokestatic 96, 3, 98, 2, 1, 373), (36, .ifCond .eq 5, 3, 0, 0, 0, 0), (39, .iconst 0, 1, 0, 0, 0, 0), (40, .ireturn, 1, 0, 0, 0, 0), (41, .aload_n 0, 1, 0, 0, 0, 0), (42, .getfield 15, 3, 6, 1, 0, 104), (45, .iload_n 2, 1, 0, 0, 0, 0), (46, .dup2, 1, 0, 0, 0, 0), (47, .iaload, 1, 0, 0, 0, 0)],
  [(48, .iconst 1, 1, 0, 0, 0, 0), (49, .aload_n 0, 1, 0, 0, 0, 0), (50, .getfield 90, 3, 6, 10, 0, 119), (53, .ishl, 1, 0, 0, 0, 0), (54, .ior, 1, 0, 0, 0, 0), (55, .iastore, 1, 0, 0, 0, 0), (56, .aload_n 0, 1, 0, 0, 0, 0), (57, .dup, 1, 0, 0, 0, 0), (58, .getfield 31, 3, 6, 6, 0, 115), (61, .iconst 1, 1, 0, 0, 0, 0), (62, .iadd, 1, 0, 0, 0, 0), (63, .putfield 31, 3, 6, 6, 0, 115)],
  [(66, .aload_n 0, 1, 0, 0, 0, 0), (67, .iconst 2, 1, 0, 0, 0, 0), (68, .putfield 34, 3, 6, 7, 0, 116), (71, .iconst 1, 1, 0, 0, 0, 0), (72, .ireturn, 1, 0, 0, 0, 0)]]
def iv_k62 : List (List ivE) := [[(0, .iconst 0, 1, 0, 0, 0, 0), (1, .istore_n 2, 1, 0, 0, 0, 0), (2, .iload_n 2, 1, 0, 0, 0, 0), (3, .aload_n 0, 1, 0, 0, 0, 0), (4, .getfield 25, 3, 6, 4, 0, 110), (7, .if_icmp .ge 30, 3, 0, 0, 0, 0), (10, .iload_n 2, 1, 0, 0, 0, 0), (11, .bipush 8, 2, 0, 0, 0, 0), (13, .if_icmp .ge 24, 3, 0, 0, 0, 0)],
  [(16, .aload_n 0, 1, 0, 0, 0, 0), (17, .getfield 15, 3, 6, 1, 0, 104), (20, .iload_n 2, 1, 0, 0, 0, 0), (21, .iaload, 1, 0, 0, 0, 0), (22, .iload_n 1, 1, 0, 0, 0, 0), (23, .invokestatic 96, 3, 98, 2, 1, 373), (26, .ifCond .ne 5, 3, 0, 0, 0, 0), (29, .iconst 1, 1, 0, 0, 0, 0), (30, .ireturn, 1, 0, 0, 0, 0), (31, .iinc 2 1, 3, 0, 0, 0, 0)],
  [(34, .goto (-32), 3, 0, 0, 0, 0), (37, .iconst 0, 1, 0, 0, 0, 0), (38, .ireturn, 1, 0, 0, 0, 0)]]
def iv_k63 : List (List ivE) := [[(0, .aload_n 0, 1, 0, 0, 0, 0), (1, .invokespecial 3, 3, 1000, 0, 0, 85), (4, .aload_n 0, 1, 0, 0, 0, 0), (5, .bipush 96, 2, 0, 0, 0, 0), (7, .newarray .int, 2, 0, 0, 0, 0), (9, .putfield 9, 3, 7, 0, 0, 86), (12, .return_, 1, 0, 0, 0, 0)]]
def iv_k64 : List (List ivE) := [[(0, .aload_n 0, 1, 0, 0, 0, 0), (1, .getfield 15, 3, 7, 1, 0, 87), (4, .ifCond .lt 32, 3, 0, 0, 0, 0), (7, .aload_n 0, 1, 0, 0, 0, 0), (8, .getfield 15, 3, 7, 1, 0, 87), (11, .bipush 96, 2, 0, 0, 0, 0), (13, .if_icmp .ge 23, 3, 0, 0, 0, 0)],
  [(16, .aload_n 0, 1, 0, 0, 0, 0), (17, .getfield 9, 3, 7, 0, 0, 86), (20, .aload_n 0, 1, 0, 0, 0, 0), (21, .getfield 15, 3, 7, 1, 0, 87), (24, .iload_n 1, 1, 0, 0, 0, 0), (25, .iastore, 1, 0, 0, 0, 0), (26, .aload_n 0, 1, 0, 0, 0, 0), (27, .dup, 1, 0, 0, 0, 0), (28, .getfield 15, 3, 7, 1, 0, 87), (31, .iconst 1, 1, 0, 0, 0, 0)],
  [(32, .iadd, 1, 0, 0, 0, 0), (33, .putfield 15, 3, 7, 1, 0, 87), (36, .return_, 1, 0, 0, 0, 0)]]
def iv_k65 : List (List ivE) := [[(0, .iload_n 1, 1, 0, 0, 0, 0), (1, .ifCond .lt 18, 3, 0, 0, 0, 0), (4, .iload_n 1, 1, 0, 0, 0, 0), (5, .bipush 96, 2, 0, 0, 0, 0), (7, .if_icmp .ge 12, 3, 0, 0, 0, 0), (10, .aload_n 0, 1, 0, 0, 0, 0), (11, .getfield 9, 3, 7, 0, 0, 86), (14, .iload_n 1, 1, 0, 0, 0, 0), (15, .iaload, 1, 0, 0, 0, 0)],
  [(16, .goto 4, 3, 0, 0, 0, 0), (19, .iconst 0, 1, 0, 0, 0, 0), (20, .ireturn, 1, 0, 0, 0, 0)]]
def iv_k66 : List (List ivE) := [[(0, .aload_n 0, 1, 0, 0, 0, 0), (1, .invokespecial 1, 3, 1000, 0, 0, 77), (4, .aload_n 0, 1, 0, 0, 0, 0), (5, .new 7, 3, 7, 0, 0, 80), (8, .dup, 1, 0, 0, 0, 0), (9, .invokespecial 9, 3, 63, 1, 1, 82), (12, .putfield 10, 3, 8, 0, 0, 278), (15, .aload_n 0, 1, 0, 0, 0, 0)],
  [(16, .new 16, 3, 6, 0, 0, 96), (19, .dup, 1, 0, 0, 0, 0), (20, .invokespecial 18, 3, 50, 1, 1, 98), (23, .putfield 19, 3, 8, 1, 0, 279), (26, .aload_n 0, 1, 0, 0, 0, 0), (27, .new 23, 3, 1, 0, 0, 143), (30, .dup, 1, 0, 0, 0, 0), (31, .invokespecial 25, 3, 11, 1, 1, 145)],
  [(34, .putfield 26, 3, 8, 2, 0, 280), (37, .aload_n 0, 1, 0, 0, 0, 0), (38, .new 30, 3, 2, 0, 0, 166), (41, .dup, 1, 0, 0, 0, 0), (42, .invokespecial 32, 3, 17, 1, 1, 168), (45, .putfield 33, 3, 8, 3, 0, 281)],
  [(48, .aload_n 0, 1, 0, 0, 0, 0), (49, .iconst 2, 1, 0, 0, 0, 0), (50, .anewarray 30, 3, 2, 0, 0, 166), (53, .putfield 37, 3, 8, 4, 0, 282), (56, .iconst 0, 1, 0, 0, 0, 0), (57, .istore_n 1, 1, 0, 0, 0, 0), (58, .iload_n 1, 1, 0, 0, 0, 0), (59, .iconst 2, 1, 0, 0, 0, 0), (60, .if_icmp .ge 22, 3, 0, 0, 0, 0), (63, .aload_n 0, 1, 0, 0, 0, 0)],
  [(64, .getfield 37, 3, 8, 4, 0, 282), (67, .iload_n 1, 1, 0, 0, 0, 0), (68, .new 30, 3, 2, 0, 0, 166), (71, .dup, 1, 0, 0, 0, 0), (72, .invokespecial 32, 3, 17, 1, 1, 168), (75, .aastore, 1, 0, 0, 0, 0), (76, .iinc 1 1, 3, 0, 0, 0, 0), (79, .goto (-21), 3, 0, 0, 0, 0)],
  [(82, .aload_n 0, 1, 0, 0, 0, 0), (83, .new 41, 3, 3, 0, 0, 193), (86, .dup, 1, 0, 0, 0, 0), (87, .invokespecial 43, 3, 28, 1, 1, 195), (90, .putfield 44, 3, 8, 5, 0, 283), (93, .aload_n 0, 1, 0, 0, 0, 0), (94, .new 48, 3, 4, 0, 0, 211)],
  [(97, .dup, 1, 0, 0, 0, 0), (98, .invokespecial 50, 3, 33, 1, 0, 213), (101, .putfield 51, 3, 8, 6, 0, 284), (104, .aload_n 0, 1, 0, 0, 0, 0), (105, .new 55, 3, 0, 0, 0, 230), (108, .dup, 1, 0, 0, 0, 0), (109, .invokespecial 57, 3, 0, 1, 1, 232)],
  [(112, .putfield 58, 3, 8, 7, 0, 285), (115, .aload_n 0, 1, 0, 0, 0, 0), (116, .new 62, 3, 5, 0, 0, 255), (119, .dup, 1, 0, 0, 0, 0), (120, .invokespecial 64, 3, 42, 1, 1, 257), (123, .putfield 65, 3, 8, 8, 0, 286), (126, .return_, 1, 0, 0, 0, 0)]]
def iv_k67 : List (List ivE) := [[(0, .iload_n 1, 1, 0, 0, 0, 0), (1, .iconst 1, 1, 0, 0, 0, 0), (2, .if_icmp .lt 9, 3, 0, 0, 0, 0), (5, .iload_n 1, 1, 0, 0, 0, 0), (6, .bipush 8, 2, 0, 0, 0, 0), (8, .if_icmp .le 6, 3, 0, 0, 0, 0), (11, .bipush (-2), 2, 0, 0, 0, 0), (13, .ireturn, 1, 0, 0, 0, 0), (14, .aload_n 0, 1, 0, 0, 0, 0), (15, .getfield 10, 3, 8, 0, 0, 278)],
  [(18, .getfield 69, 3, 7, 1, 0, 88), (21, .iload_n 1, 1, 0, 0, 0, 0), (22, .iadd, 1, 0, 0, 0, 0), (23, .bipush 96, 2, 0, 0, 0, 0), (25, .if_icmp .le 6, 3, 0, 0, 0, 0), (28, .bipush (-4), 2, 0, 0, 0, 0), (30, .ireturn, 1, 0, 0, 0, 0), (31, .iload_n 1, 1, 0, 0, 0, 0)],
  [(32, .iconst 1, 1, 0, 0, 0, 0), (33, .isub, 1, 0, 0, 0, 0), (34, .istore 4, 2, 0, 0, 0, 0), (36, .iload 4, 2, 0, 0, 0, 0), (38, .ifCond .lt 28, 3, 0, 0, 0, 0), (41, .aload_n 0, 1, 0, 0, 0, 0), (42, .getfield 10, 3, 8, 0, 0, 278), (45, .lload_n 2, 1, 0, 0, 0, 0), (46, .bipush 8, 2, 0, 0, 0, 0)],
  [(48, .iload 4, 2, 0, 0, 0, 0), (50, .imul, 1, 0, 0, 0, 0), (51, .lushr, 1, 0, 0, 0, 0), (52, .l2i, 1, 0, 0, 0, 0), (53, .sipush 255, 3, 0, 0, 0, 0), (56, .iand, 1, 0, 0, 0, 0), (57, .invokevirtual 73, 3, 64, 2, 0, 310), (60, .iinc 4 (-1), 3, 0, 0, 0, 0), (63, .goto (-27), 3, 0, 0, 0, 0)],
  [(66, .aload_n 0, 1, 0, 0, 0, 0), (67, .getfield 10, 3, 8, 0, 0, 278), (70, .getfield 69, 3, 7, 1, 0, 88), (73, .ireturn, 1, 0, 0, 0, 0)]]
def iv_k68 : List (List ivE) := [[(0, .aload_n 0, 1, 0, 0, 0, 0), (1, .getfield 10, 3, 8, 0, 0, 278), (4, .getfield 69, 3, 7, 1, 0, 88), (7, .istore_n 1, 1, 0, 0, 0, 0), (8, .aload_n 0, 1, 0, 0, 0, 0), (9, .getfield 10, 3, 8, 0, 0, 278), (12, .iconst 0, 1, 0, 0, 0, 0), (13, .putfield 69, 3, 7, 1, 0, 88)],
  [(16, .iload_n 1, 1, 0, 0, 0, 0), (17, .ireturn, 1, 0, 0, 0, 0)]]
def iv_k69 : List (List ivE) := [[(0, .aload_n 0, 1, 0, 0, 0, 0), (1, .getfield 19, 3, 8, 1, 0, 279), (4, .aload_n 0, 1, 0, 0, 0, 0), (5, .getfield 10, 3, 8, 0, 0, 278), (8, .invokevirtual 77, 3, 51, 2, 0, 322), (11, .ireturn, 1, 0, 0, 0, 0)]]
def iv_k70 : List (List ivE) := [[(0, .aload_n 0, 1, 0, 0, 0, 0), (1, .getfield 19, 3, 8, 1, 0, 279), (4, .aload_n 0, 1, 0, 0, 0, 0), (5, .getfield 10, 3, 8, 0, 0, 278), (8, .invokevirtual 77, 3, 51, 2, 0, 322), (11, .bipush (-9), 2, 0, 0, 0, 0), (13, .if_icmp .eq 6, 3, 0, 0, 0, 0)],
  [(16, .bipush (-3), 2, 0, 0, 0, 0), (18, .ireturn, 1, 0, 0, 0, 0), (19, .aload_n 0, 1, 0, 0, 0, 0), (20, .getfield 26, 3, 8, 2, 0, 280), (23, .aload_n 0, 1, 0, 0, 0, 0), (24, .getfield 19, 3, 8, 1, 0, 279), (27, .invokevirtual 81, 3, 12, 2, 0, 384), (30, .aload_n 0, 1, 0, 0, 0, 0), (31, .getfield 33, 3, 8, 3, 0, 281)],
  [(34, .aload_n 0, 1, 0, 0, 0, 0), (35, .getfield 19, 3, 8, 1, 0, 279), (38, .invokevirtual 85, 3, 18, 2, 0, 388), (41, .iconst 0, 1, 0, 0, 0, 0), (42, .istore_n 1, 1, 0, 0, 0, 0), (43, .iload_n 1, 1, 0, 0, 0, 0), (44, .iconst 2, 1, 0, 0, 0, 0), (45, .if_icmp .ge 24, 3, 0, 0, 0, 0)],
  [(48, .aload_n 0, 1, 0, 0, 0, 0), (49, .iload_n 1, 1, 0, 0, 0, 0), (50, .invokevirtual 88, 3, 100, 2, 0, 392), (53, .astore_n 2, 1, 0, 0, 0, 0), (54, .aload_n 2, 1, 0, 0, 0, 0), (55, .ifnull 8, 3, 0, 0, 0, 0), (58, .aload_n 2, 1, 0, 0, 0, 0), (59, .iconst 0, 1, 0, 0, 0, 0), (60, .putfield 92, 3, 2, 4, 0, 180), (63, .iinc 1 1, 3, 0, 0, 0, 0)],
  [(66, .goto (-23), 3, 0, 0, 0, 0), (69, .bipush 10, 2, 0, 0, 0, 0), (71, .aload_n 0, 1, 0, 0, 0, 0), (72, .getfield 26, 3, 8, 2, 0, 280), (75, .getfield 96, 3, 1, 2, 0, 154), (78, .imul, 1, 0, 0, 0, 0), (79, .aload_n 0, 1, 0, 0, 0, 0)],
  [(80, .getfield 26, 3, 8, 2, 0, 280), (83, .getfield 99, 3, 1, 3, 0, 156), (86, .iadd, 1, 0, 0, 0, 0), (87, .ireturn, 1, 0, 0, 0, 0)]]
def iv_k71 : List (List ivE) := [[(0, .aload_n 0, 1, 0, 0, 0, 0), (1, .getfield 26, 3, 8, 2, 0, 280), (4, .iload_n 1, 1, 0, 0, 0, 0), (5, .invokevirtual 102, 3, 13, 2, 0, 400), (8, .ifCond .ne 5, 3, 0, 0, 0, 0), (11, .iconst (-1), 1, 0, 0, 0, 0), (12, .ireturn, 1, 0, 0, 0, 0), (13, .aload_n 0, 1, 0, 0, 0, 0), (14, .getfield 33, 3, 8, 3, 0, 281)],
  [(17, .getfield 106, 3, 2, 0, 0, 173), (20, .iload_n 1, 1, 0, 0, 0, 0), (21, .iaload, 1, 0, 0, 0, 0), (22, .iload_n 2, 1, 0, 0, 0, 0), (23, .invokestatic 110, 3, 24, 2, 0, 404), (26, .ireturn, 1, 0, 0, 0, 0)]]
def iv_k72 : List (List ivE) := [[(0, .aload_n 0, 1, 0, 0, 0, 0), (1, .getfield 26, 3, 8, 2, 0, 280), (4, .iload_n 1, 1, 0, 0, 0, 0), (5, .invokevirtual 102, 3, 13, 2, 0, 400), (8, .ifCond .eq 14, 3, 0, 0, 0, 0), (11, .aload_n 0, 1, 0, 0, 0, 0), (12, .getfield 26, 3, 8, 2, 0, 280), (15, .iload_n 2, 1, 0, 0, 0, 0)],
  [(16, .invokevirtual 102, 3, 13, 2, 0, 400), (19, .ifCond .ne 5, 3, 0, 0, 0, 0), (22, .iconst (-1), 1, 0, 0, 0, 0), (23, .ireturn, 1, 0, 0, 0, 0), (24, .aload_n 0, 1, 0, 0, 0, 0), (25, .getfield 44, 3, 8, 5, 0, 283), (28, .aload_n 0, 1, 0, 0, 0, 0), (29, .getfield 33, 3, 8, 3, 0, 281)],
  [(32, .getfield 106, 3, 2, 0, 0, 173), (35, .iload_n 1, 1, 0, 0, 0, 0), (36, .iaload, 1, 0, 0, 0, 0), (37, .aload_n 0, 1, 0, 0, 0, 0), (38, .getfield 33, 3, 8, 3, 0, 281), (41, .getfield 106, 3, 2, 0, 0, 173), (44, .iload_n 2, 1, 0, 0, 0, 0), (45, .iaload, 1, 0, 0, 0, 0), (46, .invokevirtual 116, 3, 29, 3, 0, 411)],
  [(49, .ireturn, 1, 0, 0, 0, 0)]]
def iv_k73 : List (List ivE) := [[(0, .aload_n 0, 1, 0, 0, 0, 0), (1, .getfield 26, 3, 8, 2, 0, 280), (4, .iload_n 1, 1, 0, 0, 0, 0), (5, .invokevirtual 102, 3, 13, 2, 0, 400), (8, .ifCond .ne 5, 3, 0, 0, 0, 0), (11, .iconst (-1), 1, 0, 0, 0, 0), (12, .ireturn, 1, 0, 0, 0, 0), (13, .aload_n 0, 1, 0, 0, 0, 0), (14, .getfield 33, 3, 8, 3, 0, 281)],
  [(17, .iload_n 1, 1, 0, 0, 0, 0), (18, .invokevirtual 119, 3, 20, 2, 0, 434), (21, .ifCond .ne 6, 3, 0, 0, 0, 0), (24, .bipush (-3), 2, 0, 0, 0, 0), (26, .ireturn, 1, 0, 0, 0, 0), (27, .aload_n 0, 1, 0, 0, 0, 0), (28, .aload_n 0, 1, 0, 0, 0, 0), (29, .getfield 33, 3, 8, 3, 0, 281)],
  [(32, .getfield 106, 3, 2, 0, 0, 173), (35, .iload_n 1, 1, 0, 0, 0, 0), (36, .iaload, 1, 0, 0, 0, 0), (37, .aload_n 0, 1, 0, 0, 0, 0), (38, .getfield 33, 3, 8, 3, 0, 281), (41, .invokevirtual 122, 3, 21, 1, 0, 438), (44, .iconst 1, 1, 0, 0, 0, 0), (45, .iload_n 1, 1, 0, 0, 0, 0), (46, .ishl, 1, 0, 0, 0, 0), (47, .iconst (-1), 1, 0, 0, 0, 0)],
  [(48, .ixor, 1, 0, 0, 0, 0), (49, .iand, 1, 0, 0, 0, 0), (50, .invokevirtual 126, 3, 104, 3, 0, 443), (53, .ireturn, 1, 0, 0, 0, 0)]]
def iv_k74 : List (List ivE) := [[(0, .aload_n 0, 1, 0, 0, 0, 0), (1, .getfield 26, 3, 8, 2, 0, 280), (4, .iload_n 1, 1, 0, 0, 0, 0), (5, .invokevirtual 102, 3, 13, 2, 0, 400), (8, .ifCond .eq 15, 3, 0, 0, 0, 0), (11, .aload_n 0, 1, 0, 0, 0, 0), (12, .getfield 33, 3, 8, 3, 0, 281), (15, .getfield 129, 3, 2, 2, 0, 177)],
  [(18, .iload_n 1, 1, 0, 0, 0, 0), (19, .iaload, 1, 0, 0, 0, 0), (20, .goto 4, 3, 0, 0, 0, 0), (23, .iconst (-1), 1, 0, 0, 0, 0), (24, .ireturn, 1, 0, 0, 0, 0)]]
def iv_k75 : List (List ivE) := [[(0, .aload_n 0, 1, 0, 0, 0, 0), (1, .getfield 33, 3, 8, 3, 0, 281), (4, .invokevirtual 122, 3, 21, 1, 0, 438), (7, .ireturn, 1, 0, 0, 0, 0)]]
def iv_k76 : List (List ivE) := [[(0, .iload_n 1, 1, 0, 0, 0, 0), (1, .iconst 1, 1, 0, 0, 0, 0), (2, .if_icmp .lt 9, 3, 0, 0, 0, 0), (5, .iload_n 1, 1, 0, 0, 0, 0), (6, .bipush 99, 2, 0, 0, 0, 0), (8, .if_icmp .le 6, 3, 0, 0, 0, 0), (11, .bipush (-2), 2, 0, 0, 0, 0), (13, .ireturn, 1, 0, 0, 0, 0), (14, .aload_n 0, 1, 0, 0, 0, 0), (15, .getfield 33, 3, 8, 3, 0, 281)],
  [(18, .iload_n 1, 1, 0, 0, 0, 0), (19, .invokevirtual 132, 3, 22, 2, 0, 460), (22, .ireturn, 1, 0, 0, 0, 0)]]
def iv_k77 : List (List ivE) := [[(0, .aload_n 0, 1, 0, 0, 0, 0), (1, .getfield 26, 3, 8, 2, 0, 280), (4, .iload_n 1, 1, 0, 0, 0, 0), (5, .invokevirtual 102, 3, 13, 2, 0, 400), (8, .ifCond .ne 5, 3, 0, 0, 0, 0), (11, .iconst (-1), 1, 0, 0, 0, 0), (12, .ireturn, 1, 0, 0, 0, 0), (13, .aload_n 0, 1, 0, 0, 0, 0), (14, .getfield 33, 3, 8, 3, 0, 281)],
  [(17, .iload_n 1, 1, 0, 0, 0, 0), (18, .invokevirtual 119, 3, 20, 2, 0, 434), (21, .ifCond .ne 6, 3, 0, 0, 0, 0), (24, .bipush (-3), 2, 0, 0, 0, 0), (26, .ireturn, 1, 0, 0, 0, 0), (27, .aload_n 0, 1, 0, 0, 0, 0), (28, .getfield 33, 3, 8, 3, 0, 281), (31, .getfield 136, 3, 2, 1, 0, 175)],
  [(34, .iload_n 1, 1, 0, 0, 0, 0), (35, .iaload, 1, 0, 0, 0, 0), (36, .bipush 9, 2, 0, 0, 0, 0), (38, .iadd, 1, 0, 0, 0, 0), (39, .iconst 1, 1, 0, 0, 0, 0), (40, .iadd, 1, 0, 0, 0, 0), (41, .aload_n 0, 1, 0, 0, 0, 0), (42, .getfield 33, 3, 8, 3, 0, 281), (45, .getfield 139, 3, 2, 3, 0, 179)],
  [(48, .isub, 1, 0, 0, 0, 0), (49, .ireturn, 1, 0, 0, 0, 0)]]
def iv_k78 : List (List ivE) := [[(0, .aload_n 0, 1, 0, 0, 0, 0), (1, .getfield 26, 3, 8, 2, 0, 280), (4, .iload_n 1, 1, 0, 0, 0, 0), (5, .invokevirtual 142, 3, 14, 2, 0, 474), (8, .ifCond .eq 14, 3, 0, 0, 0, 0), (11, .aload_n 0, 1, 0, 0, 0, 0), (12, .getfield 26, 3, 8, 2, 0, 280), (15, .iload_n 2, 1, 0, 0, 0, 0)],
  [(16, .invokevirtual 102, 3, 13, 2, 0, 400), (19, .ifCond .ne 5, 3, 0, 0, 0, 0), (22, .iconst (-1), 1, 0, 0, 0, 0), (23, .ireturn, 1, 0, 0, 0, 0), (24, .aload_n 0, 1, 0, 0, 0, 0), (25, .getfield 26, 3, 8, 2, 0, 280), (28, .iload_n 3, 1, 0, 0, 0, 0), (29, .invokevirtual 145, 3, 16, 2, 0, 478)],
  [(32, .ifCond .ne 6, 3, 0, 0, 0, 0), (35, .bipush (-2), 2, 0, 0, 0, 0), (37, .ireturn, 1, 0, 0, 0, 0), (38, .aload_n 0, 1, 0, 0, 0, 0), (39, .getfield 33, 3, 8, 3, 0, 281), (42, .getfield 129, 3, 2, 2, 0, 177), (45, .iload_n 2, 1, 0, 0, 0, 0), (46, .iaload, 1, 0, 0, 0, 0), (47, .iload_n 1, 1, 0, 0, 0, 0)],
  [(48, .invokestatic 148, 3, 98, 2, 0, 447), (51, .ifCond .ne 6, 3, 0, 0, 0, 0), (54, .bipush (-3), 2, 0, 0, 0, 0), (56, .ireturn, 1, 0, 0, 0, 0), (57, .aload_n 0, 1, 0, 0, 0, 0), (58, .getfield 33, 3, 8, 3, 0, 281), (61, .getfield 136, 3, 2, 1, 0, 175)],
  [(64, .iload_n 2, 1, 0, 0, 0, 0), (65, .aload_n 0, 1, 0, 0, 0, 0), (66, .getfield 33, 3, 8, 3, 0, 281), (69, .getfield 139, 3, 2, 3, 0, 179), (72, .iastore, 1, 0, 0, 0, 0), (73, .aload_n 0, 1, 0, 0, 0, 0), (74, .getfield 33, 3, 8, 3, 0, 281), (77, .getfield 129, 3, 2, 2, 0, 177)],
  [(80, .iload_n 2, 1, 0, 0, 0, 0), (81, .dup2, 1, 0, 0, 0, 0), (82, .iaload, 1, 0, 0, 0, 0), (83, .iload_n 3, 1, 0, 0, 0, 0), (84, .ior, 1, 0, 0, 0, 0), (85, .iastore, 1, 0, 0, 0, 0), (86, .aload_n 0, 1, 0, 0, 0, 0), (87, .getfield 33, 3, 8, 3, 0, 281), (90, .getfield 129, 3, 2, 2, 0, 177), (93, .iload_n 2, 1, 0, 0, 0, 0), (94, .iaload, 1, 0, 0, 0, 0), (95, .ireturn, 1, 0, 0, 0, 0)]]
def iv_k79 : List (List ivE) := [[(0, .aload_n 0, 1, 0, 0, 0, 0), (1, .getfield 26, 3, 8, 2, 0, 280), (4, .iload_n 1, 1, 0, 0, 0, 0), (5, .invokevirtual 142, 3, 14, 2, 0, 474), (8, .ifCond .eq 25, 3, 0, 0, 0, 0), (11, .aload_n 0, 1, 0, 0, 0, 0), (12, .getfield 26, 3, 8, 2, 0, 280), (15, .iload_n 2, 1, 0, 0, 0, 0)],
  [(16, .invokevirtual 142, 3, 14, 2, 0, 474), (19, .ifCond .eq 14, 3, 0, 0, 0, 0), (22, .aload_n 0, 1, 0, 0, 0, 0), (23, .getfield 26, 3, 8, 2, 0, 280), (26, .iload_n 3, 1, 0, 0, 0, 0), (27, .invokevirtual 102, 3, 13, 2, 0, 400), (30, .ifCond .ne 5, 3, 0, 0, 0, 0)],
  [(33, .iconst (-1), 1, 0, 0, 0, 0), (34, .ireturn, 1, 0, 0, 0, 0), (35, .iload_n 1, 1, 0, 0, 0, 0), (36, .iload_n 2, 1, 0, 0, 0, 0), (37, .if_icmp .eq 19, 3, 0, 0, 0, 0), (40, .aload_n 0, 1, 0, 0, 0, 0), (41, .getfield 33, 3, 8, 3, 0, 281), (44, .getfield 129, 3, 2, 2, 0, 177), (47, .iload_n 3, 1, 0, 0, 0, 0)],
  [(48, .iaload, 1, 0, 0, 0, 0), (49, .iload_n 1, 1, 0, 0, 0, 0), (50, .invokestatic 148, 3, 98, 2, 0, 447), (53, .ifCond .ne 6, 3, 0, 0, 0, 0), (56, .bipush (-3), 2, 0, 0, 0, 0), (58, .ireturn, 1, 0, 0, 0, 0), (59, .aload_n 0, 1, 0, 0, 0, 0), (60, .getfield 33, 3, 8, 3, 0, 281), (63, .getfield 136, 3, 2, 1, 0, 175)],
  [(66, .iload_n 3, 1, 0, 0, 0, 0), (67, .aload_n 0, 1, 0, 0, 0, 0), (68, .getfield 33, 3, 8, 3, 0, 281), (71, .getfield 139, 3, 2, 3, 0, 179), (74, .iastore, 1, 0, 0, 0, 0), (75, .aload_n 0, 1, 0, 0, 0, 0), (76, .getfield 33, 3, 8, 3, 0, 281), (79, .getfield 129, 3, 2, 2, 0, 177)],
  [(82, .iload_n 3, 1, 0, 0, 0, 0), (83, .aload_n 0, 1, 0, 0, 0, 0), (84, .getfield 33, 3, 8, 3, 0, 281), (87, .getfield 129, 3, 2, 2, 0, 177), (90, .iload_n 3, 1, 0, 0, 0, 0), (91, .iaload, 1, 0, 0, 0, 0), (92, .iconst 1, 1, 0, 0, 0, 0), (93, .iload_n 2, 1, 0, 0, 0, 0), (94, .ishl, 1, 0, 0, 0, 0), (95, .ior, 1, 0, 0, 0, 0)],
  [(96, .iconst 1, 1, 0, 0, 0, 0), (97, .iload_n 1, 1, 0, 0, 0, 0), (98, .ishl, 1, 0, 0, 0, 0), (99, .iconst (-1), 1, 0, 0, 0, 0), (100, .ixor, 1, 0, 0, 0, 0), (101, .iand, 1, 0, 0, 0, 0), (102, .iastore, 1, 0, 0, 0, 0), (103, .aload_n 0, 1, 0, 0, 0, 0), (104, .getfield 33, 3, 8, 3, 0, 281), (107, .getfield 129, 3, 2, 2, 0, 177), (110, .iload_n 3, 1, 0, 0, 0, 0), (111, .iaload, 1, 0, 0, 0, 0)],
  [(112, .ireturn, 1, 0, 0, 0, 0)]]
def iv_k80 : List (List ivE) := [[(0, .aload_n 0, 1, 0, 0, 0, 0), (1, .invokevirtual 152, 3, 103, 1, 0, 490), (4, .iload_n 1, 1, 0, 0, 0, 0), (5, .invokestatic 110, 3, 24, 2, 0, 404), (8, .ireturn, 1, 0, 0, 0, 0)]]
def iv_k81 : List (List ivE) := [[(0, .aload_n 0, 1, 0, 0, 0, 0), (1, .getfield 26, 3, 8, 2, 0, 280), (4, .iload_n 1, 1, 0, 0, 0, 0), (5, .invokevirtual 142, 3, 14, 2, 0, 474), (8, .ifCond .eq 14, 3, 0, 0, 0, 0), (11, .aload_n 0, 1, 0, 0, 0, 0), (12, .getfield 26, 3, 8, 2, 0, 280), (15, .iload_n 2, 1, 0, 0, 0, 0)],
  [(16, .invokevirtual 102, 3, 13, 2, 0, 400), (19, .ifCond .ne 5, 3, 0, 0, 0, 0), (22, .iconst (-1), 1, 0, 0, 0, 0), (23, .ireturn, 1, 0, 0, 0, 0), (24, .aload_n 0, 1, 0, 0, 0, 0), (25, .getfield 33, 3, 8, 3, 0, 281), (28, .iload_n 2, 1, 0, 0, 0, 0), (29, .invokevirtual 119, 3, 20, 2, 0, 434)],
  [(32, .ifCond .eq 6, 3, 0, 0, 0, 0), (35, .bipush (-3), 2, 0, 0, 0, 0), (37, .ireturn, 1, 0, 0, 0, 0), (38, .aload_n 0, 1, 0, 0, 0, 0), (39, .invokevirtual 152, 3, 103, 1, 0, 490), (42, .istore_n 3, 1, 0, 0, 0, 0), (43, .iload_n 3, 1, 0, 0, 0, 0), (44, .ifCond .ne 6, 3, 0, 0, 0, 0), (47, .bipush (-3), 2, 0, 0, 0, 0)],
  [(49, .ireturn, 1, 0, 0, 0, 0), (50, .aload_n 0, 1, 0, 0, 0, 0), (51, .getfield 33, 3, 8, 3, 0, 281), (54, .getfield 106, 3, 2, 0, 0, 173), (57, .iload_n 2, 1, 0, 0, 0, 0), (58, .iload_n 3, 1, 0, 0, 0, 0), (59, .iastore, 1, 0, 0, 0, 0), (60, .aload_n 0, 1, 0, 0, 0, 0), (61, .getfield 33, 3, 8, 3, 0, 281)],
  [(64, .getfield 136, 3, 2, 1, 0, 175), (67, .iload_n 2, 1, 0, 0, 0, 0), (68, .aload_n 0, 1, 0, 0, 0, 0), (69, .getfield 33, 3, 8, 3, 0, 281), (72, .getfield 139, 3, 2, 3, 0, 179), (75, .iastore, 1, 0, 0, 0, 0), (76, .aload_n 0, 1, 0, 0, 0, 0), (77, .getfield 33, 3, 8, 3, 0, 281)],
  [(80, .getfield 129, 3, 2, 2, 0, 177), (83, .iload_n 2, 1, 0, 0, 0, 0), (84, .iconst 1, 1, 0, 0, 0, 0), (85, .iload_n 1, 1, 0, 0, 0, 0), (86, .ishl, 1, 0, 0, 0, 0), (87, .iastore, 1, 0, 0, 0, 0), (88, .iload_n 3, 1, 0, 0, 0, 0), (89, .invokestatic 155, 3, 26, 1, 0, 541), (92, .ireturn, 1, 0, 0, 0, 0)]]
def iv_k82 : List (List ivE) := [[(0, .aload_n 0, 1, 0, 0, 0, 0), (1, .getfield 26, 3, 8, 2, 0, 280), (4, .iload_n 1, 1, 0, 0, 0, 0), (5, .invokevirtual 142, 3, 14, 2, 0, 474), (8, .ifCond .ne 5, 3, 0, 0, 0, 0), (11, .iconst (-1), 1, 0, 0, 0, 0), (12, .ireturn, 1, 0, 0, 0, 0), (13, .aload_n 0, 1, 0, 0, 0, 0), (14, .iload_n 1, 1, 0, 0, 0, 0), (15, .aload_n 0, 1, 0, 0, 0, 0)],
  [(16, .invokevirtual 158, 3, 105, 1, 0, 546), (19, .invokevirtual 161, 3, 106, 3, 0, 550), (22, .ireturn, 1, 0, 0, 0, 0)]]
def iv_k83 : List (List ivE) := [[(0, .aload_n 0, 1, 0, 0, 0, 0), (1, .getfield 26, 3, 8, 2, 0, 280), (4, .iload_n 1, 1, 0, 0, 0, 0), (5, .invokevirtual 142, 3, 14, 2, 0, 474), (8, .ifCond .ne 5, 3, 0, 0, 0, 0), (11, .iconst (-1), 1, 0, 0, 0, 0), (12, .ireturn, 1, 0, 0, 0, 0), (13, .aload_n 0, 1, 0, 0, 0, 0), (14, .getfield 26, 3, 8, 2, 0, 280)],
  [(17, .iload_n 2, 1, 0, 0, 0, 0), (18, .invokevirtual 164, 3, 15, 2, 0, 558), (21, .ifCond .ne 6, 3, 0, 0, 0, 0), (24, .bipush (-2), 2, 0, 0, 0, 0), (26, .ireturn, 1, 0, 0, 0, 0), (27, .aload_n 0, 1, 0, 0, 0, 0), (28, .iload_n 1, 1, 0, 0, 0, 0), (29, .aload_n 0, 1, 0, 0, 0, 0), (30, .invokevirtual 158, 3, 105, 1, 0, 546)],
  [(33, .invokevirtual 161, 3, 106, 3, 0, 550), (36, .istore_n 3, 1, 0, 0, 0, 0), (37, .iconst 0, 1, 0, 0, 0, 0), (38, .istore 4, 2, 0, 0, 0, 0), (40, .iconst 0, 1, 0, 0, 0, 0), (41, .istore 5, 2, 0, 0, 0, 0), (43, .iload 5, 2, 0, 0, 0, 0), (45, .bipush 8, 2, 0, 0, 0, 0), (47, .if_icmp .ge 62, 3, 0, 0, 0, 0)],
  [(50, .iload_n 2, 1, 0, 0, 0, 0), (51, .iload 5, 2, 0, 0, 0, 0), (53, .invokestatic 148, 3, 98, 2, 0, 447), (56, .ifCond .eq 47, 3, 0, 0, 0, 0), (59, .iload 4, 2, 0, 0, 0, 0), (61, .aload_n 0, 1, 0, 0, 0, 0), (62, .getfield 33, 3, 8, 3, 0, 281)],
  [(65, .getfield 106, 3, 2, 0, 0, 173), (68, .iload 5, 2, 0, 0, 0, 0), (70, .iaload, 1, 0, 0, 0, 0), (71, .invokestatic 155, 3, 26, 1, 0, 541), (74, .iadd, 1, 0, 0, 0, 0), (75, .istore 4, 2, 0, 0, 0, 0), (77, .iload_n 3, 1, 0, 0, 0, 0), (78, .iload 5, 2, 0, 0, 0, 0)],
  [(80, .invokestatic 148, 3, 98, 2, 0, 447), (83, .ifCond .eq 17, 3, 0, 0, 0, 0), (86, .iload 4, 2, 0, 0, 0, 0), (88, .aload_n 0, 1, 0, 0, 0, 0), (89, .getfield 26, 3, 8, 2, 0, 280), (92, .getfield 167, 3, 1, 0, 0, 150), (95, .iload_n 1, 1, 0, 0, 0, 0)],
  [(96, .iaload, 1, 0, 0, 0, 0), (97, .if_icmp .le 6, 3, 0, 0, 0, 0), (100, .iload 5, 2, 0, 0, 0, 0), (102, .ireturn, 1, 0, 0, 0, 0), (103, .iinc 5 1, 3, 0, 0, 0, 0), (106, .goto (-63), 3, 0, 0, 0, 0), (109, .bipush (-9), 2, 0, 0, 0, 0), (111, .ireturn, 1, 0, 0, 0, 0)]]
def iv_k84 : List (List ivE) := [[(0, .aload_n 0, 1, 0, 0, 0, 0), (1, .getfield 26, 3, 8, 2, 0, 280), (4, .iload_n 1, 1, 0, 0, 0, 0), (5, .invokevirtual 142, 3, 14, 2, 0, 474), (8, .ifCond .ne 5, 3, 0, 0, 0, 0), (11, .iconst (-1), 1, 0, 0, 0, 0), (12, .ireturn, 1, 0, 0, 0, 0), (13, .aload_n 0, 1, 0, 0, 0, 0), (14, .getfield 26, 3, 8, 2, 0, 280)],
  [(17, .iload_n 2, 1, 0, 0, 0, 0), (18, .invokevirtual 164, 3, 15, 2, 0, 558), (21, .ifCond .ne 6, 3, 0, 0, 0, 0), (24, .bipush (-2), 2, 0, 0, 0, 0), (26, .ireturn, 1, 0, 0, 0, 0), (27, .aload_n 0, 1, 0, 0, 0, 0), (28, .invokevirtual 170, 3, 107, 1, 0, 566), (31, .aload_n 0, 1, 0, 0, 0, 0)],
  [(32, .getfield 58, 3, 8, 7, 0, 285), (35, .iload_n 2, 1, 0, 0, 0, 0), (36, .invokevirtual 173, 3, 2, 2, 0, 570), (39, .aload_n 0, 1, 0, 0, 0, 0), (40, .getfield 58, 3, 8, 7, 0, 285), (43, .iload_n 2, 1, 0, 0, 0, 0), (44, .invokevirtual 176, 3, 7, 2, 0, 591), (47, .istore_n 3, 1, 0, 0, 0, 0)],
  [(48, .iload_n 3, 1, 0, 0, 0, 0), (49, .bipush (-9), 2, 0, 0, 0, 0), (51, .if_icmp .eq 8, 3, 0, 0, 0, 0), (54, .iload_n 3, 1, 0, 0, 0, 0), (55, .iconst 1, 1, 0, 0, 0, 0), (56, .if_icmp .le 6, 3, 0, 0, 0, 0), (59, .bipush (-3), 2, 0, 0, 0, 0), (61, .ireturn, 1, 0, 0, 0, 0), (62, .aload_n 0, 1, 0, 0, 0, 0), (63, .getfield 58, 3, 8, 7, 0, 285)],
  [(66, .iload_n 1, 1, 0, 0, 0, 0), (67, .iload_n 2, 1, 0, 0, 0, 0), (68, .invokevirtual 179, 3, 8, 3, 0, 595), (71, .ireturn, 1, 0, 0, 0, 0)]]
def iv_k85 : List (List ivE) := [[(0, .aload_n 0, 1, 0, 0, 0, 0), (1, .getfield 26, 3, 8, 2, 0, 280), (4, .iload_n 1, 1, 0, 0, 0, 0), (5, .invokevirtual 164, 3, 15, 2, 0, 558), (8, .ifCond .ne 6, 3, 0, 0, 0, 0), (11, .bipush (-2), 2, 0, 0, 0, 0), (13, .ireturn, 1, 0, 0, 0, 0), (14, .aload_n 0, 1, 0, 0, 0, 0), (15, .invokevirtual 170, 3, 107, 1, 0, 566)],
  [(18, .aload_n 0, 1, 0, 0, 0, 0), (19, .getfield 58, 3, 8, 7, 0, 285), (22, .iload_n 1, 1, 0, 0, 0, 0), (23, .invokevirtual 173, 3, 2, 2, 0, 570), (26, .aload_n 0, 1, 0, 0, 0, 0), (27, .getfield 58, 3, 8, 7, 0, 285), (30, .iload_n 1, 1, 0, 0, 0, 0), (31, .invokevirtual 176, 3, 7, 2, 0, 591)],
  [(34, .ireturn, 1, 0, 0, 0, 0)]]
def iv_k86 : List (List ivE) := [[(0, .aload_n 0, 1, 0, 0, 0, 0), (1, .getfield 26, 3, 8, 2, 0, 280), (4, .iload_n 1, 1, 0, 0, 0, 0), (5, .invokevirtual 142, 3, 14, 2, 0, 474), (8, .ifCond .ne 5, 3, 0, 0, 0, 0), (11, .iconst (-1), 1, 0, 0, 0, 0), (12, .ireturn, 1, 0, 0, 0, 0), (13, .aload_n 0, 1, 0, 0, 0, 0), (14, .invokevirtual 170, 3, 107, 1, 0, 566)],
  [(17, .aload_n 0, 1, 0, 0, 0, 0), (18, .getfield 58, 3, 8, 7, 0, 285), (21, .invokevirtual 182, 3, 1, 1, 0, 615), (24, .istore_n 2, 1, 0, 0, 0, 0), (25, .aload_n 0, 1, 0, 0, 0, 0), (26, .getfield 58, 3, 8, 7, 0, 285), (29, .iload_n 2, 1, 0, 0, 0, 0), (30, .invokevirtual 173, 3, 2, 2, 0, 570)],
  [(33, .aload_n 0, 1, 0, 0, 0, 0), (34, .getfield 58, 3, 8, 7, 0, 285), (37, .iload_n 2, 1, 0, 0, 0, 0), (38, .invokevirtual 176, 3, 7, 2, 0, 591), (41, .istore_n 3, 1, 0, 0, 0, 0), (42, .aload_n 0, 1, 0, 0, 0, 0), (43, .getfield 58, 3, 8, 7, 0, 285), (46, .getfield 185, 3, 0, 0, 0, 237)],
  [(49, .iload_n 1, 1, 0, 0, 0, 0), (50, .iconst 0, 1, 0, 0, 0, 0), (51, .iastore, 1, 0, 0, 0, 0), (52, .aload_n 0, 1, 0, 0, 0, 0), (53, .getfield 58, 3, 8, 7, 0, 285), (56, .iload_n 2, 1, 0, 0, 0, 0), (57, .invokevirtual 173, 3, 2, 2, 0, 570), (60, .aload_n 0, 1, 0, 0, 0, 0), (61, .getfield 58, 3, 8, 7, 0, 285)],
  [(64, .iload_n 2, 1, 0, 0, 0, 0), (65, .invokevirtual 176, 3, 7, 2, 0, 591), (68, .istore 4, 2, 0, 0, 0, 0), (70, .iload 4, 2, 0, 0, 0, 0), (72, .bipush (-9), 2, 0, 0, 0, 0), (74, .if_icmp .ne 8, 3, 0, 0, 0, 0), (77, .bipush 99, 2, 0, 0, 0, 0), (79, .goto 7, 3, 0, 0, 0, 0)],
  [(82, .iload 4, 2, 0, 0, 0, 0), (84, .iload_n 3, 1, 0, 0, 0, 0), (85, .isub, 1, 0, 0, 0, 0), (86, .ireturn, 1, 0, 0, 0, 0)]]
def iv_k87 : List (List ivE) := [[(0, .aload_n 0, 1, 0, 0, 0, 0), (1, .getfield 26, 3, 8, 2, 0, 280), (4, .iload_n 1, 1, 0, 0, 0, 0), (5, .invokevirtual 164, 3, 15, 2, 0, 558), (8, .ifCond .eq 13, 3, 0, 0, 0, 0), (11, .iload_n 2, 1, 0, 0, 0, 0), (12, .ifCond .lt 9, 3, 0, 0, 0, 0), (15, .iload_n 2, 1, 0, 0, 0, 0)],
  [(16, .bipush 99, 2, 0, 0, 0, 0), (18, .if_icmp .le 6, 3, 0, 0, 0, 0), (21, .bipush (-2), 2, 0, 0, 0, 0), (23, .ireturn, 1, 0, 0, 0, 0), (24, .aload_n 0, 1, 0, 0, 0, 0), (25, .getfield 33, 3, 8, 3, 0, 281), (28, .iload_n 1, 1, 0, 0, 0, 0), (29, .aload_n 0, 1, 0, 0, 0, 0), (30, .getfield 33, 3, 8, 3, 0, 281)],
  [(33, .invokevirtual 122, 3, 21, 1, 0, 438), (36, .iand, 1, 0, 0, 0, 0), (37, .iload_n 2, 1, 0, 0, 0, 0), (38, .invokevirtual 188, 3, 23, 3, 0, 623), (41, .ireturn, 1, 0, 0, 0, 0)]]
def iv_k88 : List (List ivE) := [[(0, .aload_n 0, 1, 0, 0, 0, 0), (1, .getfield 26, 3, 8, 2, 0, 280), (4, .iload_n 1, 1, 0, 0, 0, 0), (5, .invokevirtual 102, 3, 13, 2, 0, 400), (8, .ifCond .ne 5, 3, 0, 0, 0, 0), (11, .iconst (-1), 1, 0, 0, 0, 0), (12, .ireturn, 1, 0, 0, 0, 0), (13, .aload_n 0, 1, 0, 0, 0, 0), (14, .invokevirtual 158, 3, 105, 1, 0, 546)],
  [(17, .istore_n 2, 1, 0, 0, 0, 0), (18, .iconst 0, 1, 0, 0, 0, 0), (19, .istore_n 3, 1, 0, 0, 0, 0), (20, .iconst 0, 1, 0, 0, 0, 0), (21, .istore 4, 2, 0, 0, 0, 0), (23, .iload 4, 2, 0, 0, 0, 0), (25, .bipush 6, 2, 0, 0, 0, 0), (27, .if_icmp .ge 30, 3, 0, 0, 0, 0), (30, .aload_n 0, 1, 0, 0, 0, 0), (31, .iload 4, 2, 0, 0, 0, 0)],
  [(33, .iload_n 2, 1, 0, 0, 0, 0), (34, .invokevirtual 161, 3, 106, 3, 0, 550), (37, .iload_n 1, 1, 0, 0, 0, 0), (38, .invokestatic 148, 3, 98, 2, 0, 447), (41, .ifCond .eq 10, 3, 0, 0, 0, 0), (44, .iload_n 3, 1, 0, 0, 0, 0), (45, .iconst 1, 1, 0, 0, 0, 0), (46, .iload 4, 2, 0, 0, 0, 0)],
  [(48, .ishl, 1, 0, 0, 0, 0), (49, .ior, 1, 0, 0, 0, 0), (50, .istore_n 3, 1, 0, 0, 0, 0), (51, .iinc 4 1, 3, 0, 0, 0, 0), (54, .goto (-31), 3, 0, 0, 0, 0), (57, .iload_n 3, 1, 0, 0, 0, 0), (58, .ireturn, 1, 0, 0, 0, 0)]]
def iv_k89 : List (List ivE) := [[(0, .iload_n 1, 1, 0, 0, 0, 0), (1, .ifCond .lt 21, 3, 0, 0, 0, 0), (4, .iload_n 1, 1, 0, 0, 0, 0), (5, .bipush 8, 2, 0, 0, 0, 0), (7, .if_icmp .ge 15, 3, 0, 0, 0, 0), (10, .iload_n 2, 1, 0, 0, 0, 0), (11, .iconst 1, 1, 0, 0, 0, 0), (12, .if_icmp .lt 10, 3, 0, 0, 0, 0), (15, .iload_n 2, 1, 0, 0, 0, 0)],
  [(16, .sipush 256, 3, 0, 0, 0, 0), (19, .if_icmp .lt 6, 3, 0, 0, 0, 0), (22, .bipush (-2), 2, 0, 0, 0, 0), (24, .ireturn, 1, 0, 0, 0, 0), (25, .aload_n 0, 1, 0, 0, 0, 0), (26, .getfield 65, 3, 8, 8, 0, 286), (29, .getfield 191, 3, 5, 0, 0, 262)],
  [(32, .bipush 16, 2, 0, 0, 0, 0), (34, .if_icmp .lt 6, 3, 0, 0, 0, 0), (37, .bipush (-4), 2, 0, 0, 0, 0), (39, .ireturn, 1, 0, 0, 0, 0), (40, .aload_n 0, 1, 0, 0, 0, 0), (41, .getfield 65, 3, 8, 8, 0, 286), (44, .iload_n 1, 1, 0, 0, 0, 0), (45, .iload_n 2, 1, 0, 0, 0, 0), (46, .invokevirtual 194, 3, 43, 3, 0, 635)],
  [(49, .aload_n 0, 1, 0, 0, 0, 0), (50, .getfield 65, 3, 8, 8, 0, 286), (53, .getfield 191, 3, 5, 0, 0, 262), (56, .ireturn, 1, 0, 0, 0, 0)]]
def iv_k90 : List (List ivE) := [[(0, .aload_n 0, 1, 0, 0, 0, 0), (1, .getfield 65, 3, 8, 8, 0, 286), (4, .getfield 191, 3, 5, 0, 0, 262), (7, .istore_n 1, 1, 0, 0, 0, 0), (8, .aload_n 0, 1, 0, 0, 0, 0), (9, .getfield 65, 3, 8, 8, 0, 286), (12, .iconst 0, 1, 0, 0, 0, 0), (13, .putfield 191, 3, 5, 0, 0, 262)],
  [(16, .iload_n 1, 1, 0, 0, 0, 0), (17, .ireturn, 1, 0, 0, 0, 0)]]
def iv_k91 : List (List ivE) := [[(0, .iload_n 1, 1, 0, 0, 0, 0), (1, .invokestatic 198, 3, 99, 1, 0, 647), (4, .ifCond .eq 21, 3, 0, 0, 0, 0), (7, .aload_n 0, 1, 0, 0, 0, 0), (8, .getfield 65, 3, 8, 8, 0, 286), (11, .iload_n 1, 1, 0, 0, 0, 0), (12, .aload_n 0, 1, 0, 0, 0, 0), (13, .getfield 65, 3, 8, 8, 0, 286)],
  [(16, .getfield 191, 3, 5, 0, 0, 262), (19, .invokevirtual 201, 3, 44, 3, 0, 650), (22, .goto 5, 3, 0, 0, 0, 0), (25, .bipush (-2), 2, 0, 0, 0, 0), (27, .ireturn, 1, 0, 0, 0, 0)]]
def iv_k92 : List (List ivE) := [[(0, .iload_n 1, 1, 0, 0, 0, 0), (1, .invokestatic 198, 3, 99, 1, 0, 647), (4, .ifCond .eq 12, 3, 0, 0, 0, 0), (7, .iload_n 2, 1, 0, 0, 0, 0), (8, .ifCond .lt 8, 3, 0, 0, 0, 0), (11, .iload_n 2, 1, 0, 0, 0, 0), (12, .iload_n 1, 1, 0, 0, 0, 0), (13, .if_icmp .lt 6, 3, 0, 0, 0, 0)],
  [(16, .bipush (-2), 2, 0, 0, 0, 0), (18, .ireturn, 1, 0, 0, 0, 0), (19, .aload_n 0, 1, 0, 0, 0, 0), (20, .getfield 65, 3, 8, 8, 0, 286), (23, .iload_n 1, 1, 0, 0, 0, 0), (24, .iload_n 2, 1, 0, 0, 0, 0), (25, .invokevirtual 204, 3, 45, 3, 0, 677), (28, .ireturn, 1, 0, 0, 0, 0)]]
def iv_k93 : List (List ivE) := [[(0, .iload_n 1, 1, 0, 0, 0, 0), (1, .invokestatic 198, 3, 99, 1, 0, 647), (4, .ifCond .eq 14, 3, 0, 0, 0, 0), (7, .aload_n 0, 1, 0, 0, 0, 0), (8, .getfield 65, 3, 8, 8, 0, 286), (11, .iload_n 1, 1, 0, 0, 0, 0), (12, .invokevirtual 207, 3, 46, 2, 0, 685), (15, .goto 5, 3, 0, 0, 0, 0)],
  [(18, .bipush (-2), 2, 0, 0, 0, 0), (20, .ireturn, 1, 0, 0, 0, 0)]]
def iv_k94 : List (List ivE) := [[(0, .iload_n 1, 1, 0, 0, 0, 0), (1, .iconst 1, 1, 0, 0, 0, 0), (2, .if_icmp .lt 9, 3, 0, 0, 0, 0), (5, .iload_n 1, 1, 0, 0, 0, 0), (6, .bipush 6, 2, 0, 0, 0, 0), (8, .if_icmp .lt 6, 3, 0, 0, 0, 0), (11, .bipush (-2), 2, 0, 0, 0, 0), (13, .ireturn, 1, 0, 0, 0, 0), (14, .iconst 0, 1, 0, 0, 0, 0), (15, .istore_n 2, 1, 0, 0, 0, 0)],
  [(16, .iconst 0, 1, 0, 0, 0, 0), (17, .istore_n 3, 1, 0, 0, 0, 0), (18, .iload_n 3, 1, 0, 0, 0, 0), (19, .bipush 8, 2, 0, 0, 0, 0), (21, .if_icmp .ge 40, 3, 0, 0, 0, 0), (24, .aload_n 0, 1, 0, 0, 0, 0), (25, .getfield 33, 3, 8, 3, 0, 281), (28, .iload_n 3, 1, 0, 0, 0, 0), (29, .invokevirtual 119, 3, 20, 2, 0, 434)],
  [(32, .ifCond .eq 23, 3, 0, 0, 0, 0), (35, .iload_n 2, 1, 0, 0, 0, 0), (36, .aload_n 0, 1, 0, 0, 0, 0), (37, .aload_n 0, 1, 0, 0, 0, 0), (38, .getfield 33, 3, 8, 3, 0, 281), (41, .getfield 106, 3, 2, 0, 0, 173), (44, .iload_n 3, 1, 0, 0, 0, 0), (45, .iaload, 1, 0, 0, 0, 0), (46, .iload_n 1, 1, 0, 0, 0, 0), (47, .invokestatic 210, 3, 27, 2, 0, 694)],
  [(50, .invokevirtual 213, 3, 102, 2, 0, 700), (53, .iadd, 1, 0, 0, 0, 0), (54, .istore_n 2, 1, 0, 0, 0, 0), (55, .iinc 3 1, 3, 0, 0, 0, 0), (58, .goto (-40), 3, 0, 0, 0, 0), (61, .iload_n 2, 1, 0, 0, 0, 0), (62, .ireturn, 1, 0, 0, 0, 0)]]
def iv_k95 : List (List ivE) := [[(0, .aload_n 0, 1, 0, 0, 0, 0), (1, .iload_n 1, 1, 0, 0, 0, 0), (2, .invokevirtual 88, 3, 100, 2, 0, 392), (5, .astore_n 2, 1, 0, 0, 0, 0), (6, .aload_n 2, 1, 0, 0, 0, 0), (7, .ifnonnull 5, 3, 0, 0, 0, 0), (10, .iconst (-1), 1, 0, 0, 0, 0), (11, .ireturn, 1, 0, 0, 0, 0), (12, .aload_n 2, 1, 0, 0, 0, 0), (13, .aload_n 0, 1, 0, 0, 0, 0), (14, .getfield 33, 3, 8, 3, 0, 281)],
  [(17, .invokevirtual 216, 3, 19, 2, 0, 708), (20, .aload_n 2, 1, 0, 0, 0, 0), (21, .iconst 1, 1, 0, 0, 0, 0), (22, .putfield 92, 3, 2, 4, 0, 180), (25, .aload_n 0, 1, 0, 0, 0, 0), (26, .getfield 33, 3, 8, 3, 0, 281), (29, .getfield 139, 3, 2, 3, 0, 179)],
  [(32, .ireturn, 1, 0, 0, 0, 0)]]
def iv_k96 : List (List ivE) := [[(0, .aload_n 0, 1, 0, 0, 0, 0), (1, .iload_n 1, 1, 0, 0, 0, 0), (2, .invokevirtual 88, 3, 100, 2, 0, 392), (5, .astore_n 2, 1, 0, 0, 0, 0), (6, .aload_n 2, 1, 0, 0, 0, 0), (7, .ifnonnull 5, 3, 0, 0, 0, 0), (10, .iconst (-1), 1, 0, 0, 0, 0), (11, .ireturn, 1, 0, 0, 0, 0), (12, .aload_n 2, 1, 0, 0, 0, 0), (13, .getfield 92, 3, 2, 4, 0, 180)],
  [(16, .ifCond .ne 6, 3, 0, 0, 0, 0), (19, .bipush (-3), 2, 0, 0, 0, 0), (21, .ireturn, 1, 0, 0, 0, 0), (22, .aload_n 0, 1, 0, 0, 0, 0), (23, .getfield 33, 3, 8, 3, 0, 281), (26, .aload_n 2, 1, 0, 0, 0, 0), (27, .invokevirtual 216, 3, 19, 2, 0, 708), (30, .aload_n 0, 1, 0, 0, 0, 0), (31, .getfield 33, 3, 8, 3, 0, 281)],
  [(34, .getfield 139, 3, 2, 3, 0, 179), (37, .ireturn, 1, 0, 0, 0, 0)]]
def iv_k97 : List (List ivE) := [[(0, .iload_n 1, 1, 0, 0, 0, 0), (1, .tableswitch 111 0 7 #[47, 55, 63, 71, 79, 87, 95, 106], 47, 0, 0, 0, 0)],
  [],
  [],
  [(48, .aload_n 0, 1, 0, 0, 0, 0), (49, .getfield 10, 3, 8, 0, 0, 278), (52, .getfield 69, 3, 7, 1, 0, 88), (55, .ireturn, 1, 0, 0, 0, 0), (56, .aload_n 0, 1, 0, 0, 0, 0), (57, .getfield 26, 3, 8, 2, 0, 280), (60, .getfield 96, 3, 1, 2, 0, 154), (63, .ireturn, 1, 0, 0, 0, 0)],
  [(64, .aload_n 0, 1, 0, 0, 0, 0), (65, .getfield 26, 3, 8, 2, 0, 280), (68, .getfield 99, 3, 1, 3, 0, 156), (71, .ireturn, 1, 0, 0, 0, 0), (72, .aload_n 0, 1, 0, 0, 0, 0), (73, .getfield 26, 3, 8, 2, 0, 280), (76, .getfield 220, 3, 1, 1, 0, 152), (79, .ireturn, 1, 0, 0, 0, 0)],
  [(80, .aload_n 0, 1, 0, 0, 0, 0), (81, .getfield 33, 3, 8, 3, 0, 281), (84, .getfield 139, 3, 2, 3, 0, 179), (87, .ireturn, 1, 0, 0, 0, 0), (88, .aload_n 0, 1, 0, 0, 0, 0), (89, .getfield 65, 3, 8, 8, 0, 286), (92, .getfield 191, 3, 5, 0, 0, 262), (95, .ireturn, 1, 0, 0, 0, 0)],
  [(96, .aload_n 0, 1, 0, 0, 0, 0), (97, .getfield 33, 3, 8, 3, 0, 281), (100, .invokevirtual 122, 3, 21, 1, 0, 438), (103, .invokestatic 223, 3, 167, 1, 0, 720), (106, .ireturn, 1, 0, 0, 0, 0), (107, .aload_n 0, 1, 0, 0, 0, 0), (108, .invokevirtual 228, 3, 101, 1, 0, 721), (111, .ireturn, 1, 0, 0, 0, 0)],
  [(112, .bipush (-2), 2, 0, 0, 0, 0), (114, .ireturn, 1, 0, 0, 0, 0)]]
def iv_k98 : List (List ivE) := [[(0, .iload_n 0, 1, 0, 0, 0, 0), (1, .iload_n 1, 1, 0, 0, 0, 0), (2, .ishr, 1, 0, 0, 0, 0), (3, .iconst 1, 1, 0, 0, 0, 0), (4, .iand, 1, 0, 0, 0, 0), (5, .ifCond .eq 7, 3, 0, 0, 0, 0), (8, .iconst 1, 1, 0, 0, 0, 0), (9, .goto 4, 3, 0, 0, 0, 0), (12, .iconst 0, 1, 0, 0, 0, 0), (13, .ireturn, 1, 0, 0, 0, 0)]]
def iv_k99 : List (List ivE) := [[(0, .iload_n 0, 1, 0, 0, 0, 0), (1, .iconst 1, 1, 0, 0, 0, 0), (2, .if_icmp .lt 13, 3, 0, 0, 0, 0), (5, .iload_n 0, 1, 0, 0, 0, 0), (6, .bipush 8, 2, 0, 0, 0, 0), (8, .if_icmp .gt 7, 3, 0, 0, 0, 0), (11, .iconst 1, 1, 0, 0, 0, 0), (12, .goto 4, 3, 0, 0, 0, 0), (15, .iconst 0, 1, 0, 0, 0, 0)],
  [(16, .ireturn, 1, 0, 0, 0, 0)]]
def iv_k100 : List (List ivE) := [[(0, .iload_n 1, 1, 0, 0, 0, 0), (1, .ifCond .lt 17, 3, 0, 0, 0, 0), (4, .iload_n 1, 1, 0, 0, 0, 0), (5, .iconst 2, 1, 0, 0, 0, 0), (6, .if_icmp .ge 12, 3, 0, 0, 0, 0), (9, .aload_n 0, 1, 0, 0, 0, 0), (10, .getfield 37, 3, 8, 4, 0, 282), (13, .iload_n 1, 1, 0, 0, 0, 0), (14, .aaload, 1, 0, 0, 0, 0), (15, .goto 4, 3, 0, 0, 0, 0)],
  [(18, .aconst_null, 1, 0, 0, 0, 0), (19, .areturn, 1, 0, 0, 0, 0)]]
def iv_k101 : List (List ivE) := [[(0, .iconst 0, 1, 0, 0, 0, 0), (1, .istore_n 1, 1, 0, 0, 0, 0), (2, .iconst 0, 1, 0, 0, 0, 0), (3, .istore_n 2, 1, 0, 0, 0, 0), (4, .iload_n 2, 1, 0, 0, 0, 0), (5, .bipush 8, 2, 0, 0, 0, 0), (7, .if_icmp .ge 24, 3, 0, 0, 0, 0), (10, .iload_n 1, 1, 0, 0, 0, 0), (11, .aload_n 0, 1, 0, 0, 0, 0), (12, .getfield 33, 3, 8, 3, 0, 281), (15, .getfield 106, 3, 2, 0, 0, 173)],
  [(18, .iload_n 2, 1, 0, 0, 0, 0), (19, .iaload, 1, 0, 0, 0, 0), (20, .invokestatic 155, 3, 26, 1, 0, 541), (23, .iadd, 1, 0, 0, 0, 0), (24, .istore_n 1, 1, 0, 0, 0, 0), (25, .iinc 2 1, 3, 0, 0, 0, 0), (28, .goto (-24), 3, 0, 0, 0, 0), (31, .iload_n 1, 1, 0, 0, 0, 0)],
  [(32, .ireturn, 1, 0, 0, 0, 0)]]
def iv_k102 : List (List ivE) := [[(0, .iconst 0, 1, 0, 0, 0, 0), (1, .istore_n 2, 1, 0, 0, 0, 0), (2, .iconst 0, 1, 0, 0, 0, 0), (3, .istore_n 3, 1, 0, 0, 0, 0), (4, .iload_n 3, 1, 0, 0, 0, 0), (5, .bipush 8, 2, 0, 0, 0, 0), (7, .if_icmp .ge 36, 3, 0, 0, 0, 0), (10, .aload_n 0, 1, 0, 0, 0, 0), (11, .getfield 33, 3, 8, 3, 0, 281), (14, .iload_n 3, 1, 0, 0, 0, 0), (15, .invokevirtual 119, 3, 20, 2, 0, 434)],
  [(18, .ifCond .eq 19, 3, 0, 0, 0, 0), (21, .aload_n 0, 1, 0, 0, 0, 0), (22, .getfield 33, 3, 8, 3, 0, 281), (25, .getfield 106, 3, 2, 0, 0, 173), (28, .iload_n 3, 1, 0, 0, 0, 0), (29, .iaload, 1, 0, 0, 0, 0), (30, .iload_n 1, 1, 0, 0, 0, 0), (31, .if_icmp .ne 6, 3, 0, 0, 0, 0)],
  [(34, .iinc 2 1, 3, 0, 0, 0, 0), (37, .iinc 3 1, 3, 0, 0, 0, 0), (40, .goto (-36), 3, 0, 0, 0, 0), (43, .iload_n 2, 1, 0, 0, 0, 0), (44, .ireturn, 1, 0, 0, 0, 0)]]
def iv_k103 : List (List ivE) := [[(0, .aload_n 0, 1, 0, 0, 0, 0), (1, .getfield 51, 3, 8, 6, 0, 284), (4, .invokevirtual 231, 3, 34, 1, 0, 494), (7, .iconst 0, 1, 0, 0, 0, 0), (8, .istore_n 1, 1, 0, 0, 0, 0), (9, .iload_n 1, 1, 0, 0, 0, 0), (10, .bipush 8, 2, 0, 0, 0, 0), (12, .if_icmp .ge 36, 3, 0, 0, 0, 0), (15, .aload_n 0, 1, 0, 0, 0, 0)],
  [(16, .getfield 33, 3, 8, 3, 0, 281), (19, .iload_n 1, 1, 0, 0, 0, 0), (20, .invokevirtual 119, 3, 20, 2, 0, 434), (23, .ifCond .eq 19, 3, 0, 0, 0, 0), (26, .aload_n 0, 1, 0, 0, 0, 0), (27, .getfield 51, 3, 8, 6, 0, 284), (30, .aload_n 0, 1, 0, 0, 0, 0), (31, .getfield 33, 3, 8, 3, 0, 281)],
  [(34, .getfield 106, 3, 2, 0, 0, 173), (37, .iload_n 1, 1, 0, 0, 0, 0), (38, .iaload, 1, 0, 0, 0, 0), (39, .invokevirtual 233, 3, 35, 2, 0, 498), (42, .iinc 1 1, 3, 0, 0, 0, 0), (45, .goto (-36), 3, 0, 0, 0, 0)],
  [(48, .aload_n 0, 1, 0, 0, 0, 0), (49, .getfield 51, 3, 8, 6, 0, 284), (52, .aload_n 0, 1, 0, 0, 0, 0), (53, .getfield 26, 3, 8, 2, 0, 280), (56, .getfield 220, 3, 1, 1, 0, 152), (59, .invokevirtual 236, 3, 37, 2, 0, 507), (62, .ireturn, 1, 0, 0, 0, 0)]]
def iv_k104 : List (List ivE) := [[(0, .iconst 0, 1, 0, 0, 0, 0), (1, .istore_n 3, 1, 0, 0, 0, 0), (2, .iconst 0, 1, 0, 0, 0, 0), (3, .istore 4, 2, 0, 0, 0, 0), (5, .iload 4, 2, 0, 0, 0, 0), (7, .bipush 8, 2, 0, 0, 0, 0), (9, .if_icmp .ge 53, 3, 0, 0, 0, 0), (12, .iload_n 2, 1, 0, 0, 0, 0), (13, .iload 4, 2, 0, 0, 0, 0), (15, .invokestatic 148, 3, 98, 2, 0, 447)],
  [(18, .ifCond .eq 38, 3, 0, 0, 0, 0), (21, .aload_n 0, 1, 0, 0, 0, 0), (22, .getfield 44, 3, 8, 5, 0, 283), (25, .iload_n 1, 1, 0, 0, 0, 0), (26, .aload_n 0, 1, 0, 0, 0, 0), (27, .getfield 33, 3, 8, 3, 0, 281), (30, .getfield 106, 3, 2, 0, 0, 173)],
  [(33, .iload 4, 2, 0, 0, 0, 0), (35, .iaload, 1, 0, 0, 0, 0), (36, .invokevirtual 116, 3, 29, 3, 0, 411), (39, .aload_n 0, 1, 0, 0, 0, 0), (40, .getfield 26, 3, 8, 2, 0, 280), (43, .getfield 220, 3, 1, 1, 0, 152), (46, .if_icmp .gt 10, 3, 0, 0, 0, 0)],
  [(49, .iload_n 3, 1, 0, 0, 0, 0), (50, .iconst 1, 1, 0, 0, 0, 0), (51, .iload 4, 2, 0, 0, 0, 0), (53, .ishl, 1, 0, 0, 0, 0), (54, .ior, 1, 0, 0, 0, 0), (55, .istore_n 3, 1, 0, 0, 0, 0), (56, .iinc 4 1, 3, 0, 0, 0, 0), (59, .goto (-54), 3, 0, 0, 0, 0), (62, .iload_n 3, 1, 0, 0, 0, 0), (63, .ireturn, 1, 0, 0, 0, 0)]]
def iv_k105 : List (List ivE) := [[(0, .aload_n 0, 1, 0, 0, 0, 0), (1, .getfield 33, 3, 8, 3, 0, 281), (4, .invokevirtual 122, 3, 21, 1, 0, 438), (7, .istore_n 1, 1, 0, 0, 0, 0), (8, .iload_n 1, 1, 0, 0, 0, 0), (9, .istore_n 2, 1, 0, 0, 0, 0), (10, .iconst 0, 1, 0, 0, 0, 0), (11, .istore_n 3, 1, 0, 0, 0, 0), (12, .iload_n 3, 1, 0, 0, 0, 0), (13, .bipush 8, 2, 0, 0, 0, 0), (15, .if_icmp .ge 58, 3, 0, 0, 0, 0)],
  [(18, .iload_n 1, 1, 0, 0, 0, 0), (19, .iload_n 3, 1, 0, 0, 0, 0), (20, .invokestatic 148, 3, 98, 2, 0, 447), (23, .ifCond .eq 44, 3, 0, 0, 0, 0), (26, .iload_n 1, 1, 0, 0, 0, 0), (27, .iconst 2, 1, 0, 0, 0, 0), (28, .iload_n 3, 1, 0, 0, 0, 0), (29, .ishl, 1, 0, 0, 0, 0), (30, .ineg, 1, 0, 0, 0, 0), (31, .iand, 1, 0, 0, 0, 0)],
  [(32, .istore 4, 2, 0, 0, 0, 0), (34, .aload_n 0, 1, 0, 0, 0, 0), (35, .aload_n 0, 1, 0, 0, 0, 0), (36, .getfield 33, 3, 8, 3, 0, 281), (39, .getfield 106, 3, 2, 0, 0, 173), (42, .iload_n 3, 1, 0, 0, 0, 0), (43, .iaload, 1, 0, 0, 0, 0), (44, .iload 4, 2, 0, 0, 0, 0), (46, .invokevirtual 126, 3, 104, 3, 0, 443)],
  [(49, .istore 5, 2, 0, 0, 0, 0), (51, .iload 5, 2, 0, 0, 0, 0), (53, .ifCond .eq 14, 3, 0, 0, 0, 0), (56, .iload_n 2, 1, 0, 0, 0, 0), (57, .iload 5, 2, 0, 0, 0, 0), (59, .iconst 1, 1, 0, 0, 0, 0), (60, .iload_n 3, 1, 0, 0, 0, 0), (61, .ishl, 1, 0, 0, 0, 0), (62, .ior, 1, 0, 0, 0, 0), (63, .iconst (-1), 1, 0, 0, 0, 0)],
  [(64, .ixor, 1, 0, 0, 0, 0), (65, .iand, 1, 0, 0, 0, 0), (66, .istore_n 2, 1, 0, 0, 0, 0), (67, .iinc 3 1, 3, 0, 0, 0, 0), (70, .goto (-58), 3, 0, 0, 0, 0), (73, .iload_n 2, 1, 0, 0, 0, 0), (74, .ireturn, 1, 0, 0, 0, 0)]]
def iv_k106 : List (List ivE) := [[(0, .aload_n 0, 1, 0, 0, 0, 0), (1, .getfield 26, 3, 8, 2, 0, 280), (4, .iload_n 1, 1, 0, 0, 0, 0), (5, .invokevirtual 142, 3, 14, 2, 0, 474), (8, .ifCond .ne 5, 3, 0, 0, 0, 0), (11, .iconst 0, 1, 0, 0, 0, 0), (12, .ireturn, 1, 0, 0, 0, 0), (13, .iconst 0, 1, 0, 0, 0, 0), (14, .istore_n 3, 1, 0, 0, 0, 0), (15, .iconst 0, 1, 0, 0, 0, 0)],
  [(16, .istore 4, 2, 0, 0, 0, 0), (18, .iload 4, 2, 0, 0, 0, 0), (20, .bipush 8, 2, 0, 0, 0, 0), (22, .if_icmp .ge 67, 3, 0, 0, 0, 0), (25, .iload_n 2, 1, 0, 0, 0, 0), (26, .iload 4, 2, 0, 0, 0, 0), (28, .invokestatic 148, 3, 98, 2, 0, 447), (31, .ifCond .eq 52, 3, 0, 0, 0, 0)],
  [(34, .aload_n 0, 1, 0, 0, 0, 0), (35, .getfield 33, 3, 8, 3, 0, 281), (38, .getfield 129, 3, 2, 2, 0, 177), (41, .iload 4, 2, 0, 0, 0, 0), (43, .iaload, 1, 0, 0, 0, 0), (44, .iload_n 1, 1, 0, 0, 0, 0), (45, .invokestatic 148, 3, 98, 2, 0, 447)],
  [(48, .ifCond .eq 35, 3, 0, 0, 0, 0), (51, .aload_n 0, 1, 0, 0, 0, 0), (52, .getfield 33, 3, 8, 3, 0, 281), (55, .getfield 106, 3, 2, 0, 0, 173), (58, .iload 4, 2, 0, 0, 0, 0), (60, .iaload, 1, 0, 0, 0, 0), (61, .invokestatic 155, 3, 26, 1, 0, 541)],
  [(64, .aload_n 0, 1, 0, 0, 0, 0), (65, .getfield 26, 3, 8, 2, 0, 280), (68, .getfield 167, 3, 1, 0, 0, 150), (71, .iload_n 1, 1, 0, 0, 0, 0), (72, .iaload, 1, 0, 0, 0, 0), (73, .if_icmp .gt 10, 3, 0, 0, 0, 0), (76, .iload_n 3, 1, 0, 0, 0, 0), (77, .iconst 1, 1, 0, 0, 0, 0), (78, .iload 4, 2, 0, 0, 0, 0)],
  [(80, .ishl, 1, 0, 0, 0, 0), (81, .ior, 1, 0, 0, 0, 0), (82, .istore_n 3, 1, 0, 0, 0, 0), (83, .iinc 4 1, 3, 0, 0, 0, 0), (86, .goto (-68), 3, 0, 0, 0, 0), (89, .iload_n 3, 1, 0, 0, 0, 0), (90, .ireturn, 1, 0, 0, 0, 0)]]
def iv_k107 : List (List ivE) := [[(0, .aload_n 0, 1, 0, 0, 0, 0), (1, .invokevirtual 158, 3, 105, 1, 0, 546), (4, .istore_n 1, 1, 0, 0, 0, 0), (5, .iconst 0, 1, 0, 0, 0, 0), (6, .istore_n 2, 1, 0, 0, 0, 0), (7, .iload_n 2, 1, 0, 0, 0, 0), (8, .bipush 6, 2, 0, 0, 0, 0), (10, .if_icmp .ge 42, 3, 0, 0, 0, 0), (13, .aload_n 0, 1, 0, 0, 0, 0), (14, .getfield 58, 3, 8, 7, 0, 285)],
  [(17, .getfield 185, 3, 0, 0, 0, 237), (20, .iload_n 2, 1, 0, 0, 0, 0), (21, .aload_n 0, 1, 0, 0, 0, 0), (22, .iload_n 2, 1, 0, 0, 0, 0), (23, .iload_n 1, 1, 0, 0, 0, 0), (24, .invokevirtual 161, 3, 106, 3, 0, 550), (27, .iastore, 1, 0, 0, 0, 0), (28, .aload_n 0, 1, 0, 0, 0, 0), (29, .getfield 58, 3, 8, 7, 0, 285)],
  [(32, .getfield 239, 3, 0, 1, 0, 239), (35, .iload_n 2, 1, 0, 0, 0, 0), (36, .aload_n 0, 1, 0, 0, 0, 0), (37, .getfield 26, 3, 8, 2, 0, 280), (40, .getfield 167, 3, 1, 0, 0, 150), (43, .iload_n 2, 1, 0, 0, 0, 0), (44, .iaload, 1, 0, 0, 0, 0), (45, .iastore, 1, 0, 0, 0, 0), (46, .iinc 2 1, 3, 0, 0, 0, 0)],
  [(49, .goto (-42), 3, 0, 0, 0, 0), (52, .iconst 0, 1, 0, 0, 0, 0), (53, .istore_n 2, 1, 0, 0, 0, 0), (54, .iload_n 2, 1, 0, 0, 0, 0), (55, .bipush 8, 2, 0, 0, 0, 0), (57, .if_icmp .ge 30, 3, 0, 0, 0, 0), (60, .aload_n 0, 1, 0, 0, 0, 0), (61, .getfield 58, 3, 8, 7, 0, 285)],
  [(64, .getfield 240, 3, 0, 2, 0, 241), (67, .iload_n 2, 1, 0, 0, 0, 0), (68, .aload_n 0, 1, 0, 0, 0, 0), (69, .getfield 33, 3, 8, 3, 0, 281), (72, .getfield 106, 3, 2, 0, 0, 173), (75, .iload_n 2, 1, 0, 0, 0, 0), (76, .iaload, 1, 0, 0, 0, 0), (77, .invokestatic 155, 3, 26, 1, 0, 541)],
  [(80, .iastore, 1, 0, 0, 0, 0), (81, .iinc 2 1, 3, 0, 0, 0, 0), (84, .goto (-30), 3, 0, 0, 0, 0), (87, .return_, 1, 0, 0, 0, 0)]]
def iv_k108 : List (List ivE) := [[(0, .aload_n 0, 1, 0, 0, 0, 0), (1, .invokespecial 1, 3, 1000, 0, 0, 730), (4, .aload_n 0, 1, 0, 0, 0, 0), (5, .bipush 40, 2, 0, 0, 0, 0), (7, .newarray .int, 2, 0, 0, 0, 0), (9, .putfield 7, 3, 9, 0, 0, 731), (12, .aload_n 0, 1, 0, 0, 0, 0), (13, .bipush 8, 2, 0, 0, 0, 0), (15, .newarray .int, 2, 0, 0, 0, 0)],
  [(17, .putfield 13, 3, 9, 1, 0, 732), (20, .aload_n 0, 1, 0, 0, 0, 0), (21, .bipush 8, 2, 0, 0, 0, 0), (23, .newarray .int, 2, 0, 0, 0, 0), (25, .putfield 16, 3, 9, 2, 0, 733), (28, .aload_n 0, 1, 0, 0, 0, 0), (29, .bipush 6, 2, 0, 0, 0, 0), (31, .newarray .int, 2, 0, 0, 0, 0)],
  [(33, .putfield 19, 3, 9, 3, 0, 734), (36, .aload_n 0, 1, 0, 0, 0, 0), (37, .bipush 40, 2, 0, 0, 0, 0), (39, .newarray .int, 2, 0, 0, 0, 0), (41, .putfield 22, 3, 9, 7, 0, 738), (44, .aload_n 0, 1, 0, 0, 0, 0), (45, .bipush 8, 2, 0, 0, 0, 0), (47, .newarray .int, 2, 0, 0, 0, 0)],
  [(49, .putfield 25, 3, 9, 8, 0, 739), (52, .aload_n 0, 1, 0, 0, 0, 0), (53, .bipush 8, 2, 0, 0, 0, 0), (55, .newarray .int, 2, 0, 0, 0, 0), (57, .putfield 28, 3, 9, 9, 0, 740), (60, .aload_n 0, 1, 0, 0, 0, 0), (61, .bipush 8, 2, 0, 0, 0, 0), (63, .newarray .int, 2, 0, 0, 0, 0)],
  [(65, .putfield 31, 3, 9, 10, 0, 741), (68, .aload_n 0, 1, 0, 0, 0, 0), (69, .bipush 6, 2, 0, 0, 0, 0), (71, .newarray .int, 2, 0, 0, 0, 0), (73, .putfield 34, 3, 9, 11, 0, 742), (76, .aload_n 0, 1, 0, 0, 0, 0), (77, .bipush 96, 2, 0, 0, 0, 0), (79, .newarray .int, 2, 0, 0, 0, 0)],
  [(81, .putfield 37, 3, 9, 16, 0, 747), (84, .aload_n 0, 1, 0, 0, 0, 0), (85, .iconst 5, 1, 0, 0, 0, 0), (86, .newarray .int, 2, 0, 0, 0, 0), (88, .putfield 40, 3, 9, 20, 0, 751), (91, .aload_n 0, 1, 0, 0, 0, 0), (92, .bipush 36, 2, 0, 0, 0, 0), (94, .newarray .int, 2, 0, 0, 0, 0)],
  [(96, .putfield 43, 3, 9, 22, 0, 753), (99, .aload_n 0, 1, 0, 0, 0, 0), (100, .sipush 1792, 3, 0, 0, 0, 0), (103, .newarray .boolean, 2, 1, 0, 0, 0), (105, .putfield 46, 3, 9, 23, 0, 754), (108, .aload_n 0, 1, 0, 0, 0, 0), (109, .sipush 1536, 3, 0, 0, 0, 0)],
  [(112, .newarray .boolean, 2, 1, 0, 0, 0), (114, .putfield 50, 3, 9, 24, 0, 755), (117, .aload_n 0, 1, 0, 0, 0, 0), (118, .sipush 256, 3, 0, 0, 0, 0), (121, .newarray .int, 2, 0, 0, 0, 0), (123, .putfield 53, 3, 9, 25, 0, 756), (126, .aload_n 0, 1, 0, 0, 0, 0), (127, .bipush 16, 2, 0, 0, 0, 0)],
  [(129, .newarray .int, 2, 0, 0, 0, 0), (131, .putfield 56, 3, 9, 27, 0, 758), (134, .aload_n 0, 1, 0, 0, 0, 0), (135, .bipush 16, 2, 0, 0, 0, 0), (137, .newarray .int, 2, 0, 0, 0, 0), (139, .putfield 59, 3, 9, 28, 0, 759), (142, .aload_n 0, 1, 0, 0, 0, 0), (143, .sipush 256, 3, 0, 0, 0, 0)],
  [(146, .newarray .int, 2, 0, 0, 0, 0), (148, .putfield 62, 3, 9, 29, 0, 760), (151, .aload_n 0, 1, 0, 0, 0, 0), (152, .bipush 8, 2, 0, 0, 0, 0), (154, .newarray .int, 2, 0, 0, 0, 0), (156, .putfield 65, 3, 9, 30, 0, 761), (159, .aload_n 0, 1, 0, 0, 0, 0)],
  [(160, .iconst 2, 1, 0, 0, 0, 0), (161, .newarray .boolean, 2, 1, 0, 0, 0), (163, .putfield 68, 3, 9, 31, 0, 762), (166, .aload_n 0, 1, 0, 0, 0, 0), (167, .bipush 80, 2, 0, 0, 0, 0), (169, .newarray .int, 2, 0, 0, 0, 0), (171, .putfield 71, 3, 9, 32, 0, 763), (174, .aload_n 0, 1, 0, 0, 0, 0), (175, .bipush 16, 2, 0, 0, 0, 0)],
  [(177, .newarray .int, 2, 0, 0, 0, 0), (179, .putfield 74, 3, 9, 33, 0, 764), (182, .aload_n 0, 1, 0, 0, 0, 0), (183, .bipush 16, 2, 0, 0, 0, 0), (185, .newarray .int, 2, 0, 0, 0, 0), (187, .putfield 77, 3, 9, 34, 0, 765), (190, .aload_n 0, 1, 0, 0, 0, 0), (191, .bipush 16, 2, 0, 0, 0, 0)],
  [(193, .newarray .int, 2, 0, 0, 0, 0), (195, .putfield 80, 3, 9, 35, 0, 766), (198, .aload_n 0, 1, 0, 0, 0, 0), (199, .iconst 2, 1, 0, 0, 0, 0), (200, .newarray .int, 2, 0, 0, 0, 0), (202, .putfield 83, 3, 9, 36, 0, 767), (205, .aload_n 0, 1, 0, 0, 0, 0), (206, .iconst 0, 1, 0, 0, 0, 0), (207, .putfield 86, 3, 9, 12, 0, 743)],
  [(210, .return_, 1, 0, 0, 0, 0)]]
def iv_k109 : List (List ivE) := [[(0, .lload_n 0, 1, 0, 0, 0, 0), (1, .lload_n 2, 1, 0, 0, 0, 0), (2, .lcmp, 1, 0, 0, 0, 0), (3, .ifCond .lt 14, 3, 0, 0, 0, 0), (6, .lload_n 0, 1, 0, 0, 0, 0), (7, .lload 4, 2, 0, 0, 0, 0), (9, .lcmp, 1, 0, 0, 0, 0), (10, .ifCond .gt 7, 3, 0, 0, 0, 0), (13, .iconst 1, 1, 0, 0, 0, 0), (14, .goto 4, 3, 0, 0, 0, 0)],
  [(17, .iconst 0, 1, 0, 0, 0, 0), (18, .ireturn, 1, 0, 0, 0, 0)]]
def iv_k110 : List (List ivE) := [[(0, .iload_n 1, 1, 0, 0, 0, 0), (1, .i2l, 1, 0, 0, 0, 0), (2, .lconst 1, 1, 0, 0, 0, 0), (3, .ldc2_w 90, 3, 0, 0, 8, 848), (6, .invokestatic 92, 3, 109, 3, 0, 849), (9, .ifCond .ne 6, 3, 0, 0, 0, 0), (12, .bipush (-2), 2, 0, 0, 0, 0), (14, .ireturn, 1, 0, 0, 0, 0), (15, .aload_n 0, 1, 0, 0, 0, 0)],
  [(16, .getfield 96, 3, 9, 17, 0, 748), (19, .iload_n 1, 1, 0, 0, 0, 0), (20, .iadd, 1, 0, 0, 0, 0), (21, .bipush 96, 2, 0, 0, 0, 0), (23, .if_icmp .le 6, 3, 0, 0, 0, 0), (26, .bipush (-4), 2, 0, 0, 0, 0), (28, .ireturn, 1, 0, 0, 0, 0), (29, .iload_n 1, 1, 0, 0, 0, 0), (30, .iconst 1, 1, 0, 0, 0, 0), (31, .isub, 1, 0, 0, 0, 0)],
  [(32, .istore 4, 2, 0, 0, 0, 0), (34, .iload 4, 2, 0, 0, 0, 0), (36, .ifCond .lt 40, 3, 0, 0, 0, 0), (39, .aload_n 0, 1, 0, 0, 0, 0), (40, .getfield 37, 3, 9, 16, 0, 747), (43, .aload_n 0, 1, 0, 0, 0, 0), (44, .getfield 96, 3, 9, 17, 0, 748), (47, .lload_n 2, 1, 0, 0, 0, 0)],
  [(48, .bipush 8, 2, 0, 0, 0, 0), (50, .iload 4, 2, 0, 0, 0, 0), (52, .imul, 1, 0, 0, 0, 0), (53, .lshr, 1, 0, 0, 0, 0), (54, .ldc2_w 99, 3, 0, 0, 255, 852), (57, .land, 1, 0, 0, 0, 0), (58, .l2i, 1, 0, 0, 0, 0), (59, .iastore, 1, 0, 0, 0, 0), (60, .aload_n 0, 1, 0, 0, 0, 0), (61, .dup, 1, 0, 0, 0, 0), (62, .getfield 96, 3, 9, 17, 0, 748)],
  [(65, .iconst 1, 1, 0, 0, 0, 0), (66, .iadd, 1, 0, 0, 0, 0), (67, .putfield 96, 3, 9, 17, 0, 748), (70, .iinc 4 (-1), 3, 0, 0, 0, 0), (73, .goto (-39), 3, 0, 0, 0, 0), (76, .aload_n 0, 1, 0, 0, 0, 0), (77, .getfield 96, 3, 9, 17, 0, 748)],
  [(80, .ireturn, 1, 0, 0, 0, 0)]]
def iv_k111 : List (List ivE) := [[(0, .aload_n 0, 1, 0, 0, 0, 0), (1, .getfield 96, 3, 9, 17, 0, 748), (4, .istore_n 1, 1, 0, 0, 0, 0), (5, .aload_n 0, 1, 0, 0, 0, 0), (6, .iconst 0, 1, 0, 0, 0, 0), (7, .putfield 96, 3, 9, 17, 0, 748), (10, .iload_n 1, 1, 0, 0, 0, 0), (11, .ireturn, 1, 0, 0, 0, 0)]]
def iv_k112 : List (List ivE) := [[(0, .aload_n 0, 1, 0, 0, 0, 0), (1, .getfield 101, 3, 9, 19, 0, 750), (4, .bipush (-9), 2, 0, 0, 0, 0), (6, .if_icmp .ne 26, 3, 0, 0, 0, 0), (9, .aload_n 0, 1, 0, 0, 0, 0), (10, .getfield 104, 3, 9, 18, 0, 749), (13, .aload_n 0, 1, 0, 0, 0, 0), (14, .getfield 96, 3, 9, 17, 0, 748)],
  [(17, .if_icmp .ge 15, 3, 0, 0, 0, 0), (20, .aload_n 0, 1, 0, 0, 0, 0), (21, .getfield 37, 3, 9, 16, 0, 747), (24, .aload_n 0, 1, 0, 0, 0, 0), (25, .getfield 104, 3, 9, 18, 0, 749), (28, .iaload, 1, 0, 0, 0, 0), (29, .goto 4, 3, 0, 0, 0, 0)],
  [(32, .iconst (-1), 1, 0, 0, 0, 0), (33, .ireturn, 1, 0, 0, 0, 0)]]
def iv_k113 : List (List ivE) := [[(0, .aload_n 0, 1, 0, 0, 0, 0), (1, .aload_n 0, 1, 0, 0, 0, 0), (2, .getfield 101, 3, 9, 19, 0, 750), (5, .bipush (-9), 2, 0, 0, 0, 0), (7, .if_icmp .ne 10, 3, 0, 0, 0, 0), (10, .aload_n 0, 1, 0, 0, 0, 0), (11, .getfield 104, 3, 9, 18, 0, 749), (14, .goto 7, 3, 0, 0, 0, 0)],
  [(17, .aload_n 0, 1, 0, 0, 0, 0), (18, .getfield 101, 3, 9, 19, 0, 750), (21, .putfield 101, 3, 9, 19, 0, 750), (24, .return_, 1, 0, 0, 0, 0)]]
def iv_k114 : List (List ivE) := [[(0, .aload_n 0, 1, 0, 0, 0, 0), (1, .invokevirtual 107, 3, 112, 1, 0, 865), (4, .bipush 48, 2, 0, 0, 0, 0), (6, .isub, 1, 0, 0, 0, 0), (7, .istore_n 2, 1, 0, 0, 0, 0), (8, .iload_n 2, 1, 0, 0, 0, 0), (9, .i2l, 1, 0, 0, 0, 0), (10, .lconst 0, 1, 0, 0, 0, 0), (11, .ldc2_w 111, 3, 0, 0, 9, 873), (14, .invokestatic 92, 3, 109, 3, 0, 849)],
  [(17, .ifCond .eq 11, 3, 0, 0, 0, 0), (20, .iload_n 1, 1, 0, 0, 0, 0), (21, .iload_n 2, 1, 0, 0, 0, 0), (22, .ishr, 1, 0, 0, 0, 0), (23, .iconst 1, 1, 0, 0, 0, 0), (24, .iand, 1, 0, 0, 0, 0), (25, .ifCond .ne 9, 3, 0, 0, 0, 0), (28, .aload_n 0, 1, 0, 0, 0, 0), (29, .invokevirtual 113, 3, 113, 1, 0, 874)],
  [(32, .iconst 0, 1, 0, 0, 0, 0), (33, .ireturn, 1, 0, 0, 0, 0), (34, .aload_n 0, 1, 0, 0, 0, 0), (35, .dup, 1, 0, 0, 0, 0), (36, .getfield 104, 3, 9, 18, 0, 749), (39, .iconst 1, 1, 0, 0, 0, 0), (40, .iadd, 1, 0, 0, 0, 0), (41, .putfield 104, 3, 9, 18, 0, 749), (44, .iload_n 2, 1, 0, 0, 0, 0), (45, .ireturn, 1, 0, 0, 0, 0)]]
def iv_k115 : List (List ivE) := [[(0, .iconst 0, 1, 0, 0, 0, 0), (1, .istore_n 1, 1, 0, 0, 0, 0), (2, .iconst 0, 1, 0, 0, 0, 0), (3, .istore_n 2, 1, 0, 0, 0, 0), (4, .iload_n 2, 1, 0, 0, 0, 0), (5, .aload_n 0, 1, 0, 0, 0, 0), (6, .getfield 116, 3, 9, 6, 0, 737), (9, .if_icmp .ge 27, 3, 0, 0, 0, 0), (12, .iload_n 1, 1, 0, 0, 0, 0), (13, .aload_n 0, 1, 0, 0, 0, 0), (14, .iload_n 2, 1, 0, 0, 0, 0), (15, .invokevirtual 119, 3, 116, 2, 0, 892)],
  [(18, .ifCond .eq 9, 3, 0, 0, 0, 0), (21, .iconst 1, 1, 0, 0, 0, 0), (22, .iload_n 2, 1, 0, 0, 0, 0), (23, .ishl, 1, 0, 0, 0, 0), (24, .goto 4, 3, 0, 0, 0, 0), (27, .iconst 0, 1, 0, 0, 0, 0), (28, .ior, 1, 0, 0, 0, 0), (29, .istore_n 1, 1, 0, 0, 0, 0), (30, .iinc 2 1, 3, 0, 0, 0, 0)],
  [(33, .goto (-29), 3, 0, 0, 0, 0), (36, .iload_n 1, 1, 0, 0, 0, 0), (37, .ireturn, 1, 0, 0, 0, 0)]]
def iv_k116 : List (List ivE) := [[(0, .iconst 0, 1, 0, 0, 0, 0), (1, .istore_n 2, 1, 0, 0, 0, 0), (2, .iconst 0, 1, 0, 0, 0, 0), (3, .istore_n 3, 1, 0, 0, 0, 0), (4, .iload_n 3, 1, 0, 0, 0, 0), (5, .aload_n 0, 1, 0, 0, 0, 0), (6, .getfield 123, 3, 9, 5, 0, 736), (9, .if_icmp .ge 32, 3, 0, 0, 0, 0), (12, .iload_n 2, 1, 0, 0, 0, 0), (13, .aload_n 0, 1, 0, 0, 0, 0), (14, .getfield 16, 3, 9, 2, 0, 733)],
  [(17, .iload_n 3, 1, 0, 0, 0, 0), (18, .iaload, 1, 0, 0, 0, 0), (19, .iload_n 1, 1, 0, 0, 0, 0), (20, .ishr, 1, 0, 0, 0, 0), (21, .iconst 1, 1, 0, 0, 0, 0), (22, .iand, 1, 0, 0, 0, 0), (23, .ifCond .ne 9, 3, 0, 0, 0, 0), (26, .iconst 1, 1, 0, 0, 0, 0), (27, .iload_n 3, 1, 0, 0, 0, 0), (28, .ishl, 1, 0, 0, 0, 0), (29, .goto 4, 3, 0, 0, 0, 0)],
  [(32, .iconst 0, 1, 0, 0, 0, 0), (33, .ior, 1, 0, 0, 0, 0), (34, .istore_n 2, 1, 0, 0, 0, 0), (35, .iinc 3 1, 3, 0, 0, 0, 0), (38, .goto (-34), 3, 0, 0, 0, 0), (41, .iload_n 2, 1, 0, 0, 0, 0), (42, .ireturn, 1, 0, 0, 0, 0)]]
def iv_k117 : List (List ivE) := [[(0, .aload_n 0, 1, 0, 0, 0, 0), (1, .iconst 0, 1, 0, 0, 0, 0), (2, .putfield 104, 3, 9, 18, 0, 749), (5, .aload_n 0, 1, 0, 0, 0, 0), (6, .bipush (-9), 2, 0, 0, 0, 0), (8, .putfield 101, 3, 9, 19, 0, 750), (11, .aload_n 0, 1, 0, 0, 0, 0), (12, .iconst 0, 1, 0, 0, 0, 0), (13, .putfield 123, 3, 9, 5, 0, 736)],
  [(16, .aload_n 0, 1, 0, 0, 0, 0), (17, .iconst 0, 1, 0, 0, 0, 0), (18, .putfield 116, 3, 9, 6, 0, 737), (21, .aload_n 0, 1, 0, 0, 0, 0), (22, .invokevirtual 107, 3, 112, 1, 0, 865), (25, .bipush 72, 2, 0, 0, 0, 0), (27, .if_icmp .eq 5, 3, 0, 0, 0, 0), (30, .iconst 0, 1, 0, 0, 0, 0), (31, .ireturn, 1, 0, 0, 0, 0)],
  [(32, .aload_n 0, 1, 0, 0, 0, 0), (33, .iconst 1, 1, 0, 0, 0, 0), (34, .putfield 104, 3, 9, 18, 0, 749), (37, .aload_n 0, 1, 0, 0, 0, 0), (38, .aload_n 0, 1, 0, 0, 0, 0), (39, .bipush 15, 2, 0, 0, 0, 0), (41, .invokevirtual 126, 3, 114, 2, 0, 869), (44, .putfield 129, 3, 9, 4, 0, 735), (47, .aload_n 0, 1, 0, 0, 0, 0)],
  [(48, .getfield 101, 3, 9, 19, 0, 750), (51, .bipush (-9), 2, 0, 0, 0, 0), (53, .if_icmp .ne 172, 3, 0, 0, 0, 0), (56, .aload_n 0, 1, 0, 0, 0, 0), (57, .getfield 104, 3, 9, 18, 0, 749), (60, .aload_n 0, 1, 0, 0, 0, 0), (61, .getfield 96, 3, 9, 17, 0, 748)],
  [(64, .if_icmp .ge 161, 3, 0, 0, 0, 0), (67, .aload_n 0, 1, 0, 0, 0, 0), (68, .invokevirtual 107, 3, 112, 1, 0, 865), (71, .istore_n 1, 1, 0, 0, 0, 0), (72, .iload_n 1, 1, 0, 0, 0, 0), (73, .bipush 78, 2, 0, 0, 0, 0), (75, .if_icmp .ne 19, 3, 0, 0, 0, 0), (78, .aload_n 0, 1, 0, 0, 0, 0), (79, .getfield 123, 3, 9, 5, 0, 736)],
  [(82, .bipush 8, 2, 0, 0, 0, 0), (84, .if_icmp .ge 10, 3, 0, 0, 0, 0), (87, .aload_n 0, 1, 0, 0, 0, 0), (88, .invokevirtual 132, 3, 119, 1, 0, 878), (91, .goto 131, 3, 0, 0, 0, 0), (94, .iload_n 1, 1, 0, 0, 0, 0), (95, .bipush 80, 2, 0, 0, 0, 0)],
  [(97, .if_icmp .ne 51, 3, 0, 0, 0, 0), (100, .aload_n 0, 1, 0, 0, 0, 0), (101, .getfield 116, 3, 9, 6, 0, 737), (104, .bipush 6, 2, 0, 0, 0, 0), (106, .if_icmp .ge 42, 3, 0, 0, 0, 0), (109, .aload_n 0, 1, 0, 0, 0, 0), (110, .dup, 1, 0, 0, 0, 0), (111, .getfield 104, 3, 9, 18, 0, 749)],
  [(114, .iconst 1, 1, 0, 0, 0, 0), (115, .iadd, 1, 0, 0, 0, 0), (116, .putfield 104, 3, 9, 18, 0, 749), (119, .aload_n 0, 1, 0, 0, 0, 0), (120, .getfield 19, 3, 9, 3, 0, 734), (123, .aload_n 0, 1, 0, 0, 0, 0), (124, .getfield 116, 3, 9, 6, 0, 737), (127, .aload_n 0, 1, 0, 0, 0, 0)],
  [(128, .sipush 1022, 3, 0, 0, 0, 0), (131, .invokevirtual 126, 3, 114, 2, 0, 869), (134, .iastore, 1, 0, 0, 0, 0), (135, .aload_n 0, 1, 0, 0, 0, 0), (136, .dup, 1, 0, 0, 0, 0), (137, .getfield 116, 3, 9, 6, 0, 737), (140, .iconst 1, 1, 0, 0, 0, 0), (141, .iadd, 1, 0, 0, 0, 0), (142, .putfield 116, 3, 9, 6, 0, 737)],
  [(145, .goto 77, 3, 0, 0, 0, 0), (148, .iload_n 1, 1, 0, 0, 0, 0), (149, .bipush 75, 2, 0, 0, 0, 0), (151, .if_icmp .ne 67, 3, 0, 0, 0, 0), (154, .aload_n 0, 1, 0, 0, 0, 0), (155, .invokevirtual 135, 3, 115, 1, 0, 888), (158, .ifCond .eq 60, 3, 0, 0, 0, 0)],
  [(161, .aload_n 0, 1, 0, 0, 0, 0), (162, .dup, 1, 0, 0, 0, 0), (163, .getfield 104, 3, 9, 18, 0, 749), (166, .iconst 1, 1, 0, 0, 0, 0), (167, .iadd, 1, 0, 0, 0, 0), (168, .putfield 104, 3, 9, 18, 0, 749), (171, .aload_n 0, 1, 0, 0, 0, 0), (172, .aload_n 0, 1, 0, 0, 0, 0), (173, .invokevirtual 135, 3, 115, 1, 0, 888)],
  [(176, .invokevirtual 126, 3, 114, 2, 0, 869), (179, .istore_n 2, 1, 0, 0, 0, 0), (180, .aload_n 0, 1, 0, 0, 0, 0), (181, .aload_n 0, 1, 0, 0, 0, 0), (182, .iload_n 2, 1, 0, 0, 0, 0), (183, .invokevirtual 119, 3, 116, 2, 0, 892), (186, .invokevirtual 126, 3, 114, 2, 0, 869), (189, .istore_n 3, 1, 0, 0, 0, 0), (190, .aload_n 0, 1, 0, 0, 0, 0), (191, .getfield 16, 3, 9, 2, 0, 733)],
  [(194, .iload_n 3, 1, 0, 0, 0, 0), (195, .dup2, 1, 0, 0, 0, 0), (196, .iaload, 1, 0, 0, 0, 0), (197, .aload_n 0, 1, 0, 0, 0, 0), (198, .getfield 101, 3, 9, 19, 0, 750), (201, .bipush (-9), 2, 0, 0, 0, 0), (203, .if_icmp .ne 9, 3, 0, 0, 0, 0), (206, .iconst 1, 1, 0, 0, 0, 0), (207, .iload_n 2, 1, 0, 0, 0, 0)],
  [(208, .ishl, 1, 0, 0, 0, 0), (209, .goto 4, 3, 0, 0, 0, 0), (212, .iconst 0, 1, 0, 0, 0, 0), (213, .ior, 1, 0, 0, 0, 0), (214, .iastore, 1, 0, 0, 0, 0), (215, .goto 7, 3, 0, 0, 0, 0), (218, .aload_n 0, 1, 0, 0, 0, 0), (219, .invokevirtual 113, 3, 113, 1, 0, 874), (222, .goto (-175), 3, 0, 0, 0, 0)],
  [(225, .aload_n 0, 1, 0, 0, 0, 0), (226, .getfield 101, 3, 9, 19, 0, 750), (229, .ireturn, 1, 0, 0, 0, 0)]]
def iv_k118 : List (List ivE) := [[(0, .iconst 0, 1, 0, 0, 0, 0), (1, .istore_n 1, 1, 0, 0, 0, 0), (2, .iconst 0, 1, 0, 0, 0, 0), (3, .istore_n 2, 1, 0, 0, 0, 0), (4, .iload_n 2, 1, 0, 0, 0, 0), (5, .aload_n 0, 1, 0, 0, 0, 0), (6, .getfield 123, 3, 9, 5, 0, 736), (9, .if_icmp .ge 105, 3, 0, 0, 0, 0), (12, .aload_n 0, 1, 0, 0, 0, 0), (13, .getfield 13, 3, 9, 1, 0, 732)],
  [(16, .iload_n 2, 1, 0, 0, 0, 0), (17, .iaload, 1, 0, 0, 0, 0), (18, .aload_n 0, 1, 0, 0, 0, 0), (19, .getfield 13, 3, 9, 1, 0, 732), (22, .aload_n 0, 1, 0, 0, 0, 0), (23, .getfield 123, 3, 9, 5, 0, 736), (26, .iaload, 1, 0, 0, 0, 0), (27, .if_icmp .ne 7, 3, 0, 0, 0, 0), (30, .iconst 1, 1, 0, 0, 0, 0), (31, .goto 4, 3, 0, 0, 0, 0)],
  [(34, .iconst 0, 1, 0, 0, 0, 0), (35, .istore_n 3, 1, 0, 0, 0, 0), (36, .iconst 0, 1, 0, 0, 0, 0), (37, .istore 4, 2, 0, 0, 0, 0), (39, .iload 4, 2, 0, 0, 0, 0), (41, .aload_n 0, 1, 0, 0, 0, 0), (42, .getfield 13, 3, 9, 1, 0, 732), (45, .iload_n 2, 1, 0, 0, 0, 0), (46, .iaload, 1, 0, 0, 0, 0), (47, .if_icmp .ge 47, 3, 0, 0, 0, 0)],
  [(50, .iload_n 3, 1, 0, 0, 0, 0), (51, .ifCond .eq 43, 3, 0, 0, 0, 0), (54, .aload_n 0, 1, 0, 0, 0, 0), (55, .getfield 7, 3, 9, 0, 0, 731), (58, .iconst 5, 1, 0, 0, 0, 0), (59, .iload_n 2, 1, 0, 0, 0, 0), (60, .imul, 1, 0, 0, 0, 0), (61, .iload 4, 2, 0, 0, 0, 0), (63, .iadd, 1, 0, 0, 0, 0)],
  [(64, .iaload, 1, 0, 0, 0, 0), (65, .aload_n 0, 1, 0, 0, 0, 0), (66, .getfield 7, 3, 9, 0, 0, 731), (69, .iconst 5, 1, 0, 0, 0, 0), (70, .aload_n 0, 1, 0, 0, 0, 0), (71, .getfield 123, 3, 9, 5, 0, 736), (74, .imul, 1, 0, 0, 0, 0), (75, .iload 4, 2, 0, 0, 0, 0), (77, .iadd, 1, 0, 0, 0, 0), (78, .iaload, 1, 0, 0, 0, 0), (79, .if_icmp .ne 7, 3, 0, 0, 0, 0)],
  [(82, .iconst 1, 1, 0, 0, 0, 0), (83, .goto 4, 3, 0, 0, 0, 0), (86, .iconst 0, 1, 0, 0, 0, 0), (87, .istore_n 3, 1, 0, 0, 0, 0), (88, .iinc 4 1, 3, 0, 0, 0, 0), (91, .goto (-52), 3, 0, 0, 0, 0), (94, .iload_n 1, 1, 0, 0, 0, 0), (95, .ifCond .ne 7, 3, 0, 0, 0, 0)],
  [(98, .iload_n 3, 1, 0, 0, 0, 0), (99, .ifCond .eq 7, 3, 0, 0, 0, 0), (102, .iconst 1, 1, 0, 0, 0, 0), (103, .goto 4, 3, 0, 0, 0, 0), (106, .iconst 0, 1, 0, 0, 0, 0), (107, .istore_n 1, 1, 0, 0, 0, 0), (108, .iinc 2 1, 3, 0, 0, 0, 0), (111, .goto (-107), 3, 0, 0, 0, 0)],
  [(114, .iload_n 1, 1, 0, 0, 0, 0), (115, .ireturn, 1, 0, 0, 0, 0)]]
def iv_k119 : List (List ivE) := [[(0, .aload_n 0, 1, 0, 0, 0, 0), (1, .dup, 1, 0, 0, 0, 0), (2, .getfield 104, 3, 9, 18, 0, 749), (5, .iconst 1, 1, 0, 0, 0, 0), (6, .iadd, 1, 0, 0, 0, 0), (7, .putfield 104, 3, 9, 18, 0, 749), (10, .iconst 0, 1, 0, 0, 0, 0), (11, .istore_n 1, 1, 0, 0, 0, 0), (12, .iload_n 1, 1, 0, 0, 0, 0), (13, .iconst 5, 1, 0, 0, 0, 0), (14, .if_icmp .ge 56, 3, 0, 0, 0, 0)],
  [(17, .aload_n 0, 1, 0, 0, 0, 0), (18, .invokevirtual 107, 3, 112, 1, 0, 865), (21, .i2l, 1, 0, 0, 0, 0), (22, .ldc2_w 138, 3, 0, 0, 97, 882), (25, .ldc2_w 140, 3, 0, 0, 102, 883), (28, .invokestatic 92, 3, 109, 3, 0, 849), (31, .ifCond .eq 39, 3, 0, 0, 0, 0)],
  [(34, .aload_n 0, 1, 0, 0, 0, 0), (35, .getfield 7, 3, 9, 0, 0, 731), (38, .iconst 5, 1, 0, 0, 0, 0), (39, .aload_n 0, 1, 0, 0, 0, 0), (40, .getfield 123, 3, 9, 5, 0, 736), (43, .imul, 1, 0, 0, 0, 0), (44, .iload_n 1, 1, 0, 0, 0, 0), (45, .iadd, 1, 0, 0, 0, 0), (46, .aload_n 0, 1, 0, 0, 0, 0), (47, .invokevirtual 107, 3, 112, 1, 0, 865)],
  [(50, .bipush 97, 2, 0, 0, 0, 0), (52, .isub, 1, 0, 0, 0, 0), (53, .iastore, 1, 0, 0, 0, 0), (54, .iinc 1 1, 3, 0, 0, 0, 0), (57, .aload_n 0, 1, 0, 0, 0, 0), (58, .dup, 1, 0, 0, 0, 0), (59, .getfield 104, 3, 9, 18, 0, 749), (62, .iconst 1, 1, 0, 0, 0, 0), (63, .iadd, 1, 0, 0, 0, 0)],
  [(64, .putfield 104, 3, 9, 18, 0, 749), (67, .goto (-55), 3, 0, 0, 0, 0), (70, .aload_n 0, 1, 0, 0, 0, 0), (71, .getfield 13, 3, 9, 1, 0, 732), (74, .aload_n 0, 1, 0, 0, 0, 0), (75, .getfield 123, 3, 9, 5, 0, 736), (78, .iload_n 1, 1, 0, 0, 0, 0), (79, .iastore, 1, 0, 0, 0, 0)],
  [(80, .aload_n 0, 1, 0, 0, 0, 0), (81, .getfield 16, 3, 9, 2, 0, 733), (84, .aload_n 0, 1, 0, 0, 0, 0), (85, .getfield 123, 3, 9, 5, 0, 736), (88, .iconst 0, 1, 0, 0, 0, 0), (89, .iastore, 1, 0, 0, 0, 0), (90, .iload_n 1, 1, 0, 0, 0, 0), (91, .ifCond .ne 10, 3, 0, 0, 0, 0), (94, .aload_n 0, 1, 0, 0, 0, 0), (95, .invokevirtual 113, 3, 113, 1, 0, 874)],
  [(98, .goto 33, 3, 0, 0, 0, 0), (101, .aload_n 0, 1, 0, 0, 0, 0), (102, .invokevirtual 142, 3, 118, 1, 0, 884), (105, .ifCond .eq 26, 3, 0, 0, 0, 0), (108, .aload_n 0, 1, 0, 0, 0, 0), (109, .dup, 1, 0, 0, 0, 0), (110, .getfield 104, 3, 9, 18, 0, 749)],
  [(113, .iload_n 1, 1, 0, 0, 0, 0), (114, .iconst 5, 1, 0, 0, 0, 0), (115, .if_icmp .ne 7, 3, 0, 0, 0, 0), (118, .iconst 1, 1, 0, 0, 0, 0), (119, .goto 4, 3, 0, 0, 0, 0), (122, .iconst 0, 1, 0, 0, 0, 0), (123, .isub, 1, 0, 0, 0, 0), (124, .putfield 104, 3, 9, 18, 0, 749), (127, .aload_n 0, 1, 0, 0, 0, 0)],
  [(128, .invokevirtual 113, 3, 113, 1, 0, 874), (131, .aload_n 0, 1, 0, 0, 0, 0), (132, .dup, 1, 0, 0, 0, 0), (133, .getfield 123, 3, 9, 5, 0, 736), (136, .iconst 1, 1, 0, 0, 0, 0), (137, .iadd, 1, 0, 0, 0, 0), (138, .putfield 123, 3, 9, 5, 0, 736), (141, .return_, 1, 0, 0, 0, 0)]]
def iv_k120 : List (List ivE) := [[(0, .aload_n 0, 1, 0, 0, 0, 0), (1, .invokevirtual 146, 3, 117, 1, 0, 861), (4, .ireturn, 1, 0, 0, 0, 0)]]
def iv_k121 : List (List ivE) := [[(0, .aload_n 0, 1, 0, 0, 0, 0), (1, .invokevirtual 146, 3, 117, 1, 0, 861), (4, .bipush (-9), 2, 0, 0, 0, 0), (6, .if_icmp .eq 6, 3, 0, 0, 0, 0), (9, .bipush (-3), 2, 0, 0, 0, 0), (11, .ireturn, 1, 0, 0, 0, 0), (12, .iconst 0, 1, 0, 0, 0, 0), (13, .istore_n 1, 1, 0, 0, 0, 0), (14, .iload_n 1, 1, 0, 0, 0, 0), (15, .bipush 40, 2, 0, 0, 0, 0)],
  [(17, .if_icmp .ge 21, 3, 0, 0, 0, 0), (20, .aload_n 0, 1, 0, 0, 0, 0), (21, .getfield 22, 3, 9, 7, 0, 738), (24, .iload_n 1, 1, 0, 0, 0, 0), (25, .aload_n 0, 1, 0, 0, 0, 0), (26, .getfield 7, 3, 9, 0, 0, 731), (29, .iload_n 1, 1, 0, 0, 0, 0), (30, .iaload, 1, 0, 0, 0, 0), (31, .iastore, 1, 0, 0, 0, 0)],
  [(32, .iinc 1 1, 3, 0, 0, 0, 0), (35, .goto (-21), 3, 0, 0, 0, 0), (38, .iconst 0, 1, 0, 0, 0, 0), (39, .istore_n 1, 1, 0, 0, 0, 0), (40, .iload_n 1, 1, 0, 0, 0, 0), (41, .bipush 8, 2, 0, 0, 0, 0), (43, .if_icmp .ge 64, 3, 0, 0, 0, 0), (46, .aload_n 0, 1, 0, 0, 0, 0), (47, .getfield 25, 3, 9, 8, 0, 739)],
  [(50, .iload_n 1, 1, 0, 0, 0, 0), (51, .iload_n 1, 1, 0, 0, 0, 0), (52, .aload_n 0, 1, 0, 0, 0, 0), (53, .getfield 123, 3, 9, 5, 0, 736), (56, .if_icmp .ge 12, 3, 0, 0, 0, 0), (59, .aload_n 0, 1, 0, 0, 0, 0), (60, .getfield 13, 3, 9, 1, 0, 732), (63, .iload_n 1, 1, 0, 0, 0, 0)],
  [(64, .iaload, 1, 0, 0, 0, 0), (65, .goto 4, 3, 0, 0, 0, 0), (68, .iconst 0, 1, 0, 0, 0, 0), (69, .iastore, 1, 0, 0, 0, 0), (70, .aload_n 0, 1, 0, 0, 0, 0), (71, .getfield 28, 3, 9, 9, 0, 740), (74, .iload_n 1, 1, 0, 0, 0, 0), (75, .iload_n 1, 1, 0, 0, 0, 0), (76, .aload_n 0, 1, 0, 0, 0, 0), (77, .getfield 123, 3, 9, 5, 0, 736)],
  [(80, .if_icmp .ge 12, 3, 0, 0, 0, 0), (83, .aload_n 0, 1, 0, 0, 0, 0), (84, .getfield 16, 3, 9, 2, 0, 733), (87, .iload_n 1, 1, 0, 0, 0, 0), (88, .iaload, 1, 0, 0, 0, 0), (89, .goto 4, 3, 0, 0, 0, 0), (92, .iconst 0, 1, 0, 0, 0, 0), (93, .iastore, 1, 0, 0, 0, 0), (94, .aload_n 0, 1, 0, 0, 0, 0), (95, .getfield 31, 3, 9, 10, 0, 741)],
  [(98, .iload_n 1, 1, 0, 0, 0, 0), (99, .iconst 0, 1, 0, 0, 0, 0), (100, .iastore, 1, 0, 0, 0, 0), (101, .iinc 1 1, 3, 0, 0, 0, 0), (104, .goto (-64), 3, 0, 0, 0, 0), (107, .iconst 0, 1, 0, 0, 0, 0), (108, .istore_n 1, 1, 0, 0, 0, 0), (109, .iload_n 1, 1, 0, 0, 0, 0), (110, .bipush 6, 2, 0, 0, 0, 0)],
  [(112, .if_icmp .ge 21, 3, 0, 0, 0, 0), (115, .aload_n 0, 1, 0, 0, 0, 0), (116, .getfield 34, 3, 9, 11, 0, 742), (119, .iload_n 1, 1, 0, 0, 0, 0), (120, .aload_n 0, 1, 0, 0, 0, 0), (121, .getfield 19, 3, 9, 3, 0, 734), (124, .iload_n 1, 1, 0, 0, 0, 0), (125, .iaload, 1, 0, 0, 0, 0), (126, .iastore, 1, 0, 0, 0, 0), (127, .iinc 1 1, 3, 0, 0, 0, 0)],
  [(130, .goto (-21), 3, 0, 0, 0, 0), (133, .aload_n 0, 1, 0, 0, 0, 0), (134, .aload_n 0, 1, 0, 0, 0, 0), (135, .getfield 129, 3, 9, 4, 0, 735), (138, .putfield 86, 3, 9, 12, 0, 743), (141, .aload_n 0, 1, 0, 0, 0, 0), (142, .aload_n 0, 1, 0, 0, 0, 0), (143, .getfield 123, 3, 9, 5, 0, 736)],
  [(146, .putfield 149, 3, 9, 13, 0, 744), (149, .aload_n 0, 1, 0, 0, 0, 0), (150, .aload_n 0, 1, 0, 0, 0, 0), (151, .getfield 116, 3, 9, 6, 0, 737), (154, .putfield 152, 3, 9, 14, 0, 745), (157, .aload_n 0, 1, 0, 0, 0, 0), (158, .iconst 0, 1, 0, 0, 0, 0), (159, .putfield 155, 3, 9, 15, 0, 746)],
  [(162, .aload_n 0, 1, 0, 0, 0, 0), (163, .getfield 68, 3, 9, 31, 0, 762), (166, .iconst 0, 1, 0, 0, 0, 0), (167, .iconst 0, 1, 0, 0, 0, 0), (168, .bastore, 1, 0, 0, 0, 0), (169, .aload_n 0, 1, 0, 0, 0, 0), (170, .getfield 68, 3, 9, 31, 0, 762), (173, .iconst 1, 1, 0, 0, 0, 0), (174, .iconst 0, 1, 0, 0, 0, 0), (175, .bastore, 1, 0, 0, 0, 0)],
  [(176, .bipush 10, 2, 0, 0, 0, 0), (178, .aload_n 0, 1, 0, 0, 0, 0), (179, .getfield 149, 3, 9, 13, 0, 744), (182, .imul, 1, 0, 0, 0, 0), (183, .aload_n 0, 1, 0, 0, 0, 0), (184, .getfield 152, 3, 9, 14, 0, 745), (187, .iadd, 1, 0, 0, 0, 0), (188, .ireturn, 1, 0, 0, 0, 0)]]
def iv_k122 : List (List ivE) := [[(0, .iload_n 1, 1, 0, 0, 0, 0), (1, .i2l, 1, 0, 0, 0, 0), (2, .lconst 0, 1, 0, 0, 0, 0), (3, .aload_n 0, 1, 0, 0, 0, 0), (4, .getfield 149, 3, 9, 13, 0, 744), (7, .iconst 1, 1, 0, 0, 0, 0), (8, .isub, 1, 0, 0, 0, 0), (9, .i2l, 1, 0, 0, 0, 0), (10, .invokestatic 92, 3, 109, 3, 0, 849), (13, .ireturn, 1, 0, 0, 0, 0)]]
def iv_k123 : List (List ivE) := [[(0, .iload_n 1, 1, 0, 0, 0, 0), (1, .i2l, 1, 0, 0, 0, 0), (2, .lconst 0, 1, 0, 0, 0, 0), (3, .aload_n 0, 1, 0, 0, 0, 0), (4, .getfield 152, 3, 9, 14, 0, 745), (7, .iconst 1, 1, 0, 0, 0, 0), (8, .isub, 1, 0, 0, 0, 0), (9, .i2l, 1, 0, 0, 0, 0), (10, .invokestatic 92, 3, 109, 3, 0, 849), (13, .ireturn, 1, 0, 0, 0, 0)]]
def iv_k124 : List (List ivE) := [[(0, .aload_n 0, 1, 0, 0, 0, 0), (1, .iload_n 1, 1, 0, 0, 0, 0), (2, .invokevirtual 158, 3, 122, 2, 0, 904), (5, .ifCond .ne 5, 3, 0, 0, 0, 0), (8, .iconst (-1), 1, 0, 0, 0, 0), (9, .ireturn, 1, 0, 0, 0, 0), (10, .iload_n 2, 1, 0, 0, 0, 0), (11, .i2l, 1, 0, 0, 0, 0), (12, .lconst 0, 1, 0, 0, 0, 0), (13, .aload_n 0, 1, 0, 0, 0, 0), (14, .getfield 25, 3, 9, 8, 0, 739)],
  [(17, .iload_n 1, 1, 0, 0, 0, 0), (18, .iaload, 1, 0, 0, 0, 0), (19, .iconst 1, 1, 0, 0, 0, 0), (20, .isub, 1, 0, 0, 0, 0), (21, .i2l, 1, 0, 0, 0, 0), (22, .invokestatic 92, 3, 109, 3, 0, 849), (25, .ifCond .eq 16, 3, 0, 0, 0, 0), (28, .aload_n 0, 1, 0, 0, 0, 0), (29, .getfield 22, 3, 9, 7, 0, 738)],
  [(32, .iconst 5, 1, 0, 0, 0, 0), (33, .iload_n 1, 1, 0, 0, 0, 0), (34, .imul, 1, 0, 0, 0, 0), (35, .iload_n 2, 1, 0, 0, 0, 0), (36, .iadd, 1, 0, 0, 0, 0), (37, .iaload, 1, 0, 0, 0, 0), (38, .goto 5, 3, 0, 0, 0, 0), (41, .bipush (-9), 2, 0, 0, 0, 0), (43, .ireturn, 1, 0, 0, 0, 0)]]
def iv_k125 : List (List ivE) := [[(0, .iload_n 0, 1, 0, 0, 0, 0), (1, .iload_n 1, 1, 0, 0, 0, 0), (2, .if_icmp .ge 7, 3, 0, 0, 0, 0), (5, .iload_n 0, 1, 0, 0, 0, 0), (6, .goto 4, 3, 0, 0, 0, 0), (9, .iload_n 1, 1, 0, 0, 0, 0), (10, .istore_n 3, 1, 0, 0, 0, 0), (11, .iload_n 3, 1, 0, 0, 0, 0), (12, .iload_n 2, 1, 0, 0, 0, 0), (13, .if_icmp .ge 7, 3, 0, 0, 0, 0)],
  [(16, .iload_n 3, 1, 0, 0, 0, 0), (17, .goto 4, 3, 0, 0, 0, 0), (20, .iload_n 2, 1, 0, 0, 0, 0), (21, .ireturn, 1, 0, 0, 0, 0)]]
def iv_k126 : List (List ivE) := [[(0, .iconst 0, 1, 0, 0, 0, 0), (1, .istore_n 2, 1, 0, 0, 0, 0), (2, .iload_n 2, 1, 0, 0, 0, 0), (3, .aload_n 0, 1, 0, 0, 0, 0), (4, .getfield 162, 3, 9, 21, 0, 752), (7, .if_icmp .gt 137, 3, 0, 0, 0, 0), (10, .iconst 0, 1, 0, 0, 0, 0), (11, .istore_n 3, 1, 0, 0, 0, 0), (12, .iload_n 3, 1, 0, 0, 0, 0), (13, .aload_n 0, 1, 0, 0, 0, 0), (14, .getfield 25, 3, 9, 8, 0, 739)],
  [(17, .iload_n 1, 1, 0, 0, 0, 0), (18, .iaload, 1, 0, 0, 0, 0), (19, .if_icmp .gt 119, 3, 0, 0, 0, 0), (22, .iload_n 2, 1, 0, 0, 0, 0), (23, .ifCond .ne 7, 3, 0, 0, 0, 0), (26, .iload_n 3, 1, 0, 0, 0, 0), (27, .goto 90, 3, 0, 0, 0, 0), (30, .iload_n 3, 1, 0, 0, 0, 0), (31, .ifCond .ne 7, 3, 0, 0, 0, 0)],
  [(34, .iload_n 2, 1, 0, 0, 0, 0), (35, .goto 82, 3, 0, 0, 0, 0), (38, .aload_n 0, 1, 0, 0, 0, 0), (39, .getfield 43, 3, 9, 22, 0, 753), (42, .bipush 6, 2, 0, 0, 0, 0), (44, .iload_n 2, 1, 0, 0, 0, 0), (45, .imul, 1, 0, 0, 0, 0), (46, .bipush 6, 2, 0, 0, 0, 0)],
  [(48, .isub, 1, 0, 0, 0, 0), (49, .iload_n 3, 1, 0, 0, 0, 0), (50, .iadd, 1, 0, 0, 0, 0), (51, .iaload, 1, 0, 0, 0, 0), (52, .iconst 1, 1, 0, 0, 0, 0), (53, .iadd, 1, 0, 0, 0, 0), (54, .aload_n 0, 1, 0, 0, 0, 0), (55, .getfield 43, 3, 9, 22, 0, 753), (58, .bipush 6, 2, 0, 0, 0, 0), (60, .iload_n 2, 1, 0, 0, 0, 0), (61, .imul, 1, 0, 0, 0, 0), (62, .iload_n 3, 1, 0, 0, 0, 0), (63, .iadd, 1, 0, 0, 0, 0)],
  [(64, .iconst 1, 1, 0, 0, 0, 0), (65, .isub, 1, 0, 0, 0, 0), (66, .iaload, 1, 0, 0, 0, 0), (67, .iconst 1, 1, 0, 0, 0, 0), (68, .iadd, 1, 0, 0, 0, 0), (69, .aload_n 0, 1, 0, 0, 0, 0), (70, .getfield 43, 3, 9, 22, 0, 753), (73, .bipush 6, 2, 0, 0, 0, 0), (75, .iload_n 2, 1, 0, 0, 0, 0), (76, .imul, 1, 0, 0, 0, 0), (77, .bipush 6, 2, 0, 0, 0, 0), (79, .isub, 1, 0, 0, 0, 0)],
  [(80, .iload_n 3, 1, 0, 0, 0, 0), (81, .iadd, 1, 0, 0, 0, 0), (82, .iconst 1, 1, 0, 0, 0, 0), (83, .isub, 1, 0, 0, 0, 0), (84, .iaload, 1, 0, 0, 0, 0), (85, .aload_n 0, 1, 0, 0, 0, 0), (86, .getfield 40, 3, 9, 20, 0, 751), (89, .iload_n 2, 1, 0, 0, 0, 0), (90, .iconst 1, 1, 0, 0, 0, 0), (91, .isub, 1, 0, 0, 0, 0), (92, .iaload, 1, 0, 0, 0, 0), (93, .aload_n 0, 1, 0, 0, 0, 0), (94, .getfield 22, 3, 9, 7, 0, 738)],
  [(97, .iconst 5, 1, 0, 0, 0, 0), (98, .iload_n 1, 1, 0, 0, 0, 0), (99, .imul, 1, 0, 0, 0, 0), (100, .iload_n 3, 1, 0, 0, 0, 0), (101, .iadd, 1, 0, 0, 0, 0), (102, .iconst 1, 1, 0, 0, 0, 0), (103, .isub, 1, 0, 0, 0, 0), (104, .iaload, 1, 0, 0, 0, 0), (105, .if_icmp .ne 7, 3, 0, 0, 0, 0), (108, .iconst 0, 1, 0, 0, 0, 0), (109, .goto 4, 3, 0, 0, 0, 0)],
  [(112, .iconst 1, 1, 0, 0, 0, 0), (113, .iadd, 1, 0, 0, 0, 0), (114, .invokestatic 165, 3, 125, 3, 0, 920), (117, .istore 4, 2, 0, 0, 0, 0), (119, .aload_n 0, 1, 0, 0, 0, 0), (120, .getfield 43, 3, 9, 22, 0, 753), (123, .bipush 6, 2, 0, 0, 0, 0), (125, .iload_n 2, 1, 0, 0, 0, 0), (126, .imul, 1, 0, 0, 0, 0), (127, .iload_n 3, 1, 0, 0, 0, 0)],
  [(128, .iadd, 1, 0, 0, 0, 0), (129, .iload 4, 2, 0, 0, 0, 0), (131, .iastore, 1, 0, 0, 0, 0), (132, .iinc 3 1, 3, 0, 0, 0, 0), (135, .goto (-123), 3, 0, 0, 0, 0), (138, .iinc 2 1, 3, 0, 0, 0, 0), (141, .goto (-139), 3, 0, 0, 0, 0)],
  [(144, .aload_n 0, 1, 0, 0, 0, 0), (145, .getfield 43, 3, 9, 22, 0, 753), (148, .bipush 6, 2, 0, 0, 0, 0), (150, .aload_n 0, 1, 0, 0, 0, 0), (151, .getfield 162, 3, 9, 21, 0, 752), (154, .imul, 1, 0, 0, 0, 0), (155, .aload_n 0, 1, 0, 0, 0, 0), (156, .getfield 25, 3, 9, 8, 0, 739), (159, .iload_n 1, 1, 0, 0, 0, 0)],
  [(160, .iaload, 1, 0, 0, 0, 0), (161, .iadd, 1, 0, 0, 0, 0), (162, .iaload, 1, 0, 0, 0, 0), (163, .ireturn, 1, 0, 0, 0, 0)]]
def iv_k127 : List (List ivE) := [[(0, .aload_n 0, 1, 0, 0, 0, 0), (1, .aload_n 0, 1, 0, 0, 0, 0), (2, .getfield 25, 3, 9, 8, 0, 739), (5, .iload_n 1, 1, 0, 0, 0, 0), (6, .iaload, 1, 0, 0, 0, 0), (7, .putfield 162, 3, 9, 21, 0, 752), (10, .iconst 0, 1, 0, 0, 0, 0), (11, .istore_n 3, 1, 0, 0, 0, 0), (12, .iload_n 3, 1, 0, 0, 0, 0), (13, .aload_n 0, 1, 0, 0, 0, 0), (14, .getfield 162, 3, 9, 21, 0, 752)],
  [(17, .if_icmp .ge 25, 3, 0, 0, 0, 0), (20, .aload_n 0, 1, 0, 0, 0, 0), (21, .getfield 40, 3, 9, 20, 0, 751), (24, .iload_n 3, 1, 0, 0, 0, 0), (25, .aload_n 0, 1, 0, 0, 0, 0), (26, .getfield 22, 3, 9, 7, 0, 738), (29, .iconst 5, 1, 0, 0, 0, 0), (30, .iload_n 1, 1, 0, 0, 0, 0), (31, .imul, 1, 0, 0, 0, 0)],
  [(32, .iload_n 3, 1, 0, 0, 0, 0), (33, .iadd, 1, 0, 0, 0, 0), (34, .iaload, 1, 0, 0, 0, 0), (35, .iastore, 1, 0, 0, 0, 0), (36, .iinc 3 1, 3, 0, 0, 0, 0), (39, .goto (-27), 3, 0, 0, 0, 0), (42, .aload_n 0, 1, 0, 0, 0, 0), (43, .iload_n 2, 1, 0, 0, 0, 0), (44, .invokevirtual 169, 3, 126, 2, 0, 916), (47, .ireturn, 1, 0, 0, 0, 0)]]
def iv_k128 : List (List ivE) := [[(0, .aload_n 0, 1, 0, 0, 0, 0), (1, .iload_n 1, 1, 0, 0, 0, 0), (2, .invokevirtual 158, 3, 122, 2, 0, 904), (5, .ifCond .eq 20, 3, 0, 0, 0, 0), (8, .aload_n 0, 1, 0, 0, 0, 0), (9, .iload_n 2, 1, 0, 0, 0, 0), (10, .invokevirtual 158, 3, 122, 2, 0, 904), (13, .ifCond .eq 12, 3, 0, 0, 0, 0)],
  [(16, .aload_n 0, 1, 0, 0, 0, 0), (17, .iload_n 1, 1, 0, 0, 0, 0), (18, .iload_n 2, 1, 0, 0, 0, 0), (19, .invokevirtual 172, 3, 127, 3, 0, 912), (22, .goto 4, 3, 0, 0, 0, 0), (25, .iconst (-1), 1, 0, 0, 0, 0), (26, .ireturn, 1, 0, 0, 0, 0)]]
def iv_k129 : List (List ivE) := [[(0, .aload_n 0, 1, 0, 0, 0, 0), (1, .getfield 155, 3, 9, 15, 0, 746), (4, .aload_n 0, 1, 0, 0, 0, 0), (5, .getfield 31, 3, 9, 10, 0, 741), (8, .iload_n 1, 1, 0, 0, 0, 0), (9, .iaload, 1, 0, 0, 0, 0), (10, .isub, 1, 0, 0, 0, 0), (11, .bipush 9, 2, 0, 0, 0, 0), (13, .if_icmp .gt 7, 3, 0, 0, 0, 0)],
  [(16, .iconst 1, 1, 0, 0, 0, 0), (17, .goto 4, 3, 0, 0, 0, 0), (20, .iconst 0, 1, 0, 0, 0, 0), (21, .ireturn, 1, 0, 0, 0, 0)]]
def iv_k130 : List (List ivE) := [[(0, .iconst 0, 1, 0, 0, 0, 0), (1, .istore_n 2, 1, 0, 0, 0, 0), (2, .iconst 0, 1, 0, 0, 0, 0), (3, .istore_n 3, 1, 0, 0, 0, 0), (4, .iload_n 3, 1, 0, 0, 0, 0), (5, .aload_n 0, 1, 0, 0, 0, 0), (6, .getfield 149, 3, 9, 13, 0, 744), (9, .if_icmp .ge 45, 3, 0, 0, 0, 0), (12, .iload_n 2, 1, 0, 0, 0, 0), (13, .iload_n 3, 1, 0, 0, 0, 0), (14, .iload_n 1, 1, 0, 0, 0, 0), (15, .if_icmp .eq 30, 3, 0, 0, 0, 0)],
  [(18, .aload_n 0, 1, 0, 0, 0, 0), (19, .iload_n 3, 1, 0, 0, 0, 0), (20, .invokevirtual 176, 3, 129, 2, 0, 927), (23, .ifCond .eq 22, 3, 0, 0, 0, 0), (26, .aload_n 0, 1, 0, 0, 0, 0), (27, .iload_n 1, 1, 0, 0, 0, 0), (28, .iload_n 3, 1, 0, 0, 0, 0), (29, .invokevirtual 172, 3, 127, 3, 0, 912)],
  [(32, .aload_n 0, 1, 0, 0, 0, 0), (33, .getfield 86, 3, 9, 12, 0, 743), (36, .if_icmp .gt 9, 3, 0, 0, 0, 0), (39, .iconst 1, 1, 0, 0, 0, 0), (40, .iload_n 3, 1, 0, 0, 0, 0), (41, .ishl, 1, 0, 0, 0, 0), (42, .goto 4, 3, 0, 0, 0, 0), (45, .iconst 0, 1, 0, 0, 0, 0), (46, .ior, 1, 0, 0, 0, 0), (47, .istore_n 2, 1, 0, 0, 0, 0)],
  [(48, .iinc 3 1, 3, 0, 0, 0, 0), (51, .goto (-47), 3, 0, 0, 0, 0), (54, .iload_n 2, 1, 0, 0, 0, 0), (55, .ireturn, 1, 0, 0, 0, 0)]]
def iv_k131 : List (List ivE) := [[(0, .aload_n 0, 1, 0, 0, 0, 0), (1, .iload_n 1, 1, 0, 0, 0, 0), (2, .invokevirtual 158, 3, 122, 2, 0, 904), (5, .ifCond .ne 5, 3, 0, 0, 0, 0), (8, .iconst (-1), 1, 0, 0, 0, 0), (9, .ireturn, 1, 0, 0, 0, 0), (10, .aload_n 0, 1, 0, 0, 0, 0), (11, .iload_n 1, 1, 0, 0, 0, 0), (12, .invokevirtual 176, 3, 129, 2, 0, 927), (15, .ifCond .eq 11, 3, 0, 0, 0, 0)],
  [(18, .aload_n 0, 1, 0, 0, 0, 0), (19, .iload_n 1, 1, 0, 0, 0, 0), (20, .invokevirtual 179, 3, 130, 2, 0, 931), (23, .goto 5, 3, 0, 0, 0, 0), (26, .bipush (-3), 2, 0, 0, 0, 0), (28, .ireturn, 1, 0, 0, 0, 0)]]
def iv_k132 : List (List ivE) := [[(0, .aload_n 0, 1, 0, 0, 0, 0), (1, .iload_n 1, 1, 0, 0, 0, 0), (2, .invokevirtual 158, 3, 122, 2, 0, 904), (5, .ifCond .eq 12, 3, 0, 0, 0, 0), (8, .aload_n 0, 1, 0, 0, 0, 0), (9, .getfield 28, 3, 9, 9, 0, 740), (12, .iload_n 1, 1, 0, 0, 0, 0), (13, .iaload, 1, 0, 0, 0, 0), (14, .goto 4, 3, 0, 0, 0, 0)],
  [(17, .iconst (-1), 1, 0, 0, 0, 0), (18, .ireturn, 1, 0, 0, 0, 0)]]
def iv_k133 : List (List ivE) := [[(0, .iconst 0, 1, 0, 0, 0, 0), (1, .istore_n 1, 1, 0, 0, 0, 0), (2, .iconst 0, 1, 0, 0, 0, 0), (3, .istore_n 2, 1, 0, 0, 0, 0), (4, .iload_n 2, 1, 0, 0, 0, 0), (5, .aload_n 0, 1, 0, 0, 0, 0), (6, .getfield 149, 3, 9, 13, 0, 744), (9, .if_icmp .ge 27, 3, 0, 0, 0, 0), (12, .iload_n 1, 1, 0, 0, 0, 0), (13, .aload_n 0, 1, 0, 0, 0, 0), (14, .iload_n 2, 1, 0, 0, 0, 0), (15, .invokevirtual 176, 3, 129, 2, 0, 927)],
  [(18, .ifCond .eq 9, 3, 0, 0, 0, 0), (21, .iconst 1, 1, 0, 0, 0, 0), (22, .iload_n 2, 1, 0, 0, 0, 0), (23, .ishl, 1, 0, 0, 0, 0), (24, .goto 4, 3, 0, 0, 0, 0), (27, .iconst 0, 1, 0, 0, 0, 0), (28, .ior, 1, 0, 0, 0, 0), (29, .istore_n 1, 1, 0, 0, 0, 0), (30, .iinc 2 1, 3, 0, 0, 0, 0)],
  [(33, .goto (-29), 3, 0, 0, 0, 0), (36, .iload_n 1, 1, 0, 0, 0, 0), (37, .ireturn, 1, 0, 0, 0, 0)]]
def iv_k134 : List (List ivE) := [[(0, .aload_n 0, 1, 0, 0, 0, 0), (1, .invokevirtual 182, 3, 133, 1, 0, 943), (4, .ireturn, 1, 0, 0, 0, 0)]]
def iv_k135 : List (List ivE) := [[(0, .iload_n 1, 1, 0, 0, 0, 0), (1, .i2l, 1, 0, 0, 0, 0), (2, .lconst 1, 1, 0, 0, 0, 0), (3, .ldc2_w 185, 3, 0, 0, 99, 951), (6, .invokestatic 92, 3, 109, 3, 0, 849), (9, .ifCond .ne 6, 3, 0, 0, 0, 0), (12, .bipush (-2), 2, 0, 0, 0, 0), (14, .ireturn, 1, 0, 0, 0, 0), (15, .aload_n 0, 1, 0, 0, 0, 0)],
  [(16, .invokevirtual 182, 3, 133, 1, 0, 943), (19, .istore_n 2, 1, 0, 0, 0, 0), (20, .aload_n 0, 1, 0, 0, 0, 0), (21, .dup, 1, 0, 0, 0, 0), (22, .getfield 155, 3, 9, 15, 0, 746), (25, .iload_n 1, 1, 0, 0, 0, 0), (26, .iadd, 1, 0, 0, 0, 0), (27, .putfield 155, 3, 9, 15, 0, 746), (30, .iconst 0, 1, 0, 0, 0, 0), (31, .istore_n 3, 1, 0, 0, 0, 0)],
  [(32, .iload_n 3, 1, 0, 0, 0, 0), (33, .aload_n 0, 1, 0, 0, 0, 0), (34, .getfield 149, 3, 9, 13, 0, 744), (37, .if_icmp .ge 33, 3, 0, 0, 0, 0), (40, .aload_n 0, 1, 0, 0, 0, 0), (41, .getfield 28, 3, 9, 9, 0, 740), (44, .iload_n 3, 1, 0, 0, 0, 0), (45, .aload_n 0, 1, 0, 0, 0, 0), (46, .iload_n 3, 1, 0, 0, 0, 0), (47, .invokevirtual 176, 3, 129, 2, 0, 927)],
  [(50, .ifCond .eq 12, 3, 0, 0, 0, 0), (53, .aload_n 0, 1, 0, 0, 0, 0), (54, .getfield 28, 3, 9, 9, 0, 740), (57, .iload_n 3, 1, 0, 0, 0, 0), (58, .iaload, 1, 0, 0, 0, 0), (59, .goto 4, 3, 0, 0, 0, 0), (62, .iconst 0, 1, 0, 0, 0, 0), (63, .iastore, 1, 0, 0, 0, 0)],
  [(64, .iinc 3 1, 3, 0, 0, 0, 0), (67, .goto (-35), 3, 0, 0, 0, 0), (70, .iload_n 2, 1, 0, 0, 0, 0), (71, .aload_n 0, 1, 0, 0, 0, 0), (72, .invokevirtual 182, 3, 133, 1, 0, 943), (75, .iconst (-1), 1, 0, 0, 0, 0), (76, .ixor, 1, 0, 0, 0, 0), (77, .iand, 1, 0, 0, 0, 0), (78, .ireturn, 1, 0, 0, 0, 0)]]
def iv_k136 : List (List ivE) := [[(0, .aload_n 0, 1, 0, 0, 0, 0), (1, .iload_n 1, 1, 0, 0, 0, 0), (2, .invokevirtual 158, 3, 122, 2, 0, 904), (5, .ifCond .ne 5, 3, 0, 0, 0, 0), (8, .iconst (-1), 1, 0, 0, 0, 0), (9, .ireturn, 1, 0, 0, 0, 0), (10, .aload_n 0, 1, 0, 0, 0, 0), (11, .iload_n 1, 1, 0, 0, 0, 0), (12, .invokevirtual 176, 3, 129, 2, 0, 927), (15, .ifCond .eq 20, 3, 0, 0, 0, 0)],
  [(18, .aload_n 0, 1, 0, 0, 0, 0), (19, .getfield 31, 3, 9, 10, 0, 741), (22, .iload_n 1, 1, 0, 0, 0, 0), (23, .iaload, 1, 0, 0, 0, 0), (24, .bipush 10, 2, 0, 0, 0, 0), (26, .iadd, 1, 0, 0, 0, 0), (27, .aload_n 0, 1, 0, 0, 0, 0), (28, .getfield 155, 3, 9, 15, 0, 746), (31, .isub, 1, 0, 0, 0, 0)],
  [(32, .goto 5, 3, 0, 0, 0, 0), (35, .bipush (-3), 2, 0, 0, 0, 0), (37, .ireturn, 1, 0, 0, 0, 0)]]
def iv_k137 : List (List ivE) := [[(0, .aload_n 0, 1, 0, 0, 0, 0), (1, .getfield 28, 3, 9, 9, 0, 740), (4, .iload_n 2, 1, 0, 0, 0, 0), (5, .iaload, 1, 0, 0, 0, 0), (6, .iload_n 1, 1, 0, 0, 0, 0), (7, .ishr, 1, 0, 0, 0, 0), (8, .iconst 1, 1, 0, 0, 0, 0), (9, .iand, 1, 0, 0, 0, 0), (10, .iconst 1, 1, 0, 0, 0, 0), (11, .if_icmp .ne 7, 3, 0, 0, 0, 0), (14, .iconst 1, 1, 0, 0, 0, 0), (15, .goto 4, 3, 0, 0, 0, 0)],
  [(18, .iconst 0, 1, 0, 0, 0, 0), (19, .ireturn, 1, 0, 0, 0, 0)]]
def iv_k138 : List (List ivE) := [[(0, .aload_n 0, 1, 0, 0, 0, 0), (1, .iload_n 1, 1, 0, 0, 0, 0), (2, .invokevirtual 187, 3, 123, 2, 0, 960), (5, .ifCond .eq 11, 3, 0, 0, 0, 0), (8, .aload_n 0, 1, 0, 0, 0, 0), (9, .iload_n 2, 1, 0, 0, 0, 0), (10, .invokevirtual 158, 3, 122, 2, 0, 904), (13, .ifCond .ne 5, 3, 0, 0, 0, 0)],
  [(16, .iconst (-1), 1, 0, 0, 0, 0), (17, .ireturn, 1, 0, 0, 0, 0), (18, .iload_n 3, 1, 0, 0, 0, 0), (19, .i2l, 1, 0, 0, 0, 0), (20, .lconst 0, 1, 0, 0, 0, 0), (21, .iconst 1, 1, 0, 0, 0, 0), (22, .aload_n 0, 1, 0, 0, 0, 0), (23, .getfield 152, 3, 9, 14, 0, 745), (26, .ishl, 1, 0, 0, 0, 0), (27, .iconst 1, 1, 0, 0, 0, 0), (28, .isub, 1, 0, 0, 0, 0), (29, .i2l, 1, 0, 0, 0, 0), (30, .invokestatic 92, 3, 109, 3, 0, 849)],
  [(33, .ifCond .ne 6, 3, 0, 0, 0, 0), (36, .bipush (-2), 2, 0, 0, 0, 0), (38, .ireturn, 1, 0, 0, 0, 0), (39, .aload_n 0, 1, 0, 0, 0, 0), (40, .iload_n 1, 1, 0, 0, 0, 0), (41, .iload_n 2, 1, 0, 0, 0, 0), (42, .invokevirtual 190, 3, 137, 3, 0, 964), (45, .ifCond .ne 6, 3, 0, 0, 0, 0)],
  [(48, .bipush (-3), 2, 0, 0, 0, 0), (50, .ireturn, 1, 0, 0, 0, 0), (51, .aload_n 0, 1, 0, 0, 0, 0), (52, .getfield 31, 3, 9, 10, 0, 741), (55, .iload_n 2, 1, 0, 0, 0, 0), (56, .aload_n 0, 1, 0, 0, 0, 0), (57, .getfield 155, 3, 9, 15, 0, 746), (60, .iastore, 1, 0, 0, 0, 0), (61, .aload_n 0, 1, 0, 0, 0, 0), (62, .getfield 28, 3, 9, 9, 0, 740)],
  [(65, .iload_n 2, 1, 0, 0, 0, 0), (66, .dup2, 1, 0, 0, 0, 0), (67, .iaload, 1, 0, 0, 0, 0), (68, .iload_n 3, 1, 0, 0, 0, 0), (69, .ior, 1, 0, 0, 0, 0), (70, .iastore, 1, 0, 0, 0, 0), (71, .aload_n 0, 1, 0, 0, 0, 0), (72, .getfield 28, 3, 9, 9, 0, 740), (75, .iload_n 2, 1, 0, 0, 0, 0), (76, .iaload, 1, 0, 0, 0, 0), (77, .ireturn, 1, 0, 0, 0, 0)]]
def iv_k139 : List (List ivE) := [[(0, .aload_n 0, 1, 0, 0, 0, 0), (1, .iload_n 1, 1, 0, 0, 0, 0), (2, .invokevirtual 187, 3, 123, 2, 0, 960), (5, .ifCond .eq 19, 3, 0, 0, 0, 0), (8, .aload_n 0, 1, 0, 0, 0, 0), (9, .iload_n 2, 1, 0, 0, 0, 0), (10, .invokevirtual 187, 3, 123, 2, 0, 960), (13, .ifCond .eq 11, 3, 0, 0, 0, 0)],
  [(16, .aload_n 0, 1, 0, 0, 0, 0), (17, .iload_n 3, 1, 0, 0, 0, 0), (18, .invokevirtual 158, 3, 122, 2, 0, 904), (21, .ifCond .ne 5, 3, 0, 0, 0, 0), (24, .iconst (-1), 1, 0, 0, 0, 0), (25, .ireturn, 1, 0, 0, 0, 0), (26, .iload_n 1, 1, 0, 0, 0, 0), (27, .iload_n 2, 1, 0, 0, 0, 0), (28, .if_icmp .eq 12, 3, 0, 0, 0, 0), (31, .aload_n 0, 1, 0, 0, 0, 0)],
  [(32, .iload_n 1, 1, 0, 0, 0, 0), (33, .iload_n 3, 1, 0, 0, 0, 0), (34, .invokevirtual 190, 3, 137, 3, 0, 964), (37, .ifCond .ne 6, 3, 0, 0, 0, 0), (40, .bipush (-3), 2, 0, 0, 0, 0), (42, .ireturn, 1, 0, 0, 0, 0), (43, .aload_n 0, 1, 0, 0, 0, 0), (44, .getfield 31, 3, 9, 10, 0, 741), (47, .iload_n 3, 1, 0, 0, 0, 0)],
  [(48, .aload_n 0, 1, 0, 0, 0, 0), (49, .getfield 155, 3, 9, 15, 0, 746), (52, .iastore, 1, 0, 0, 0, 0), (53, .aload_n 0, 1, 0, 0, 0, 0), (54, .getfield 28, 3, 9, 9, 0, 740), (57, .iload_n 3, 1, 0, 0, 0, 0), (58, .aload_n 0, 1, 0, 0, 0, 0), (59, .getfield 28, 3, 9, 9, 0, 740), (62, .iload_n 3, 1, 0, 0, 0, 0), (63, .iaload, 1, 0, 0, 0, 0)],
  [(64, .iconst 1, 1, 0, 0, 0, 0), (65, .iload_n 2, 1, 0, 0, 0, 0), (66, .ishl, 1, 0, 0, 0, 0), (67, .ior, 1, 0, 0, 0, 0), (68, .iconst 1, 1, 0, 0, 0, 0), (69, .iload_n 1, 1, 0, 0, 0, 0), (70, .ishl, 1, 0, 0, 0, 0), (71, .iconst (-1), 1, 0, 0, 0, 0), (72, .ixor, 1, 0, 0, 0, 0), (73, .iand, 1, 0, 0, 0, 0), (74, .iastore, 1, 0, 0, 0, 0), (75, .aload_n 0, 1, 0, 0, 0, 0), (76, .getfield 28, 3, 9, 9, 0, 740), (79, .iload_n 3, 1, 0, 0, 0, 0)],
  [(80, .iaload, 1, 0, 0, 0, 0), (81, .ireturn, 1, 0, 0, 0, 0)]]
def iv_k140 : List (List ivE) := [[(0, .iconst 1, 1, 0, 0, 0, 0), (1, .istore_n 1, 1, 0, 0, 0, 0), (2, .iconst 1, 1, 0, 0, 0, 0), (3, .istore_n 2, 1, 0, 0, 0, 0), (4, .iload_n 2, 1, 0, 0, 0, 0), (5, .bipush 6, 2, 0, 0, 0, 0), (7, .if_icmp .ge 132, 3, 0, 0, 0, 0), (10, .iload_n 1, 1, 0, 0, 0, 0), (11, .bipush 6, 2, 0, 0, 0, 0), (13, .imul, 1, 0, 0, 0, 0), (14, .istore_n 1, 1, 0, 0, 0, 0), (15, .iconst 0, 1, 0, 0, 0, 0)],
  [(16, .istore_n 3, 1, 0, 0, 0, 0), (17, .iload_n 3, 1, 0, 0, 0, 0), (18, .iload_n 1, 1, 0, 0, 0, 0), (19, .if_icmp .ge 114, 3, 0, 0, 0, 0), (22, .aload_n 0, 1, 0, 0, 0, 0), (23, .iload_n 2, 1, 0, 0, 0, 0), (24, .putfield 162, 3, 9, 21, 0, 752), (27, .iload_n 3, 1, 0, 0, 0, 0), (28, .istore 4, 2, 0, 0, 0, 0), (30, .iload_n 2, 1, 0, 0, 0, 0), (31, .iconst 1, 1, 0, 0, 0, 0)],
  [(32, .isub, 1, 0, 0, 0, 0), (33, .istore 5, 2, 0, 0, 0, 0), (35, .iload 5, 2, 0, 0, 0, 0), (37, .ifCond .lt 28, 3, 0, 0, 0, 0), (40, .aload_n 0, 1, 0, 0, 0, 0), (41, .getfield 40, 3, 9, 20, 0, 751), (44, .iload 5, 2, 0, 0, 0, 0), (46, .iload 4, 2, 0, 0, 0, 0)],
  [(48, .bipush 6, 2, 0, 0, 0, 0), (50, .irem, 1, 0, 0, 0, 0), (51, .iastore, 1, 0, 0, 0, 0), (52, .iload 4, 2, 0, 0, 0, 0), (54, .bipush 6, 2, 0, 0, 0, 0), (56, .idiv, 1, 0, 0, 0, 0), (57, .istore 4, 2, 0, 0, 0, 0), (59, .iinc 5 (-1), 3, 0, 0, 0, 0), (62, .goto (-27), 3, 0, 0, 0, 0)],
  [(65, .iconst 1, 1, 0, 0, 0, 0), (66, .istore 5, 2, 0, 0, 0, 0), (68, .iconst 0, 1, 0, 0, 0, 0), (69, .istore 6, 2, 0, 0, 0, 0), (71, .iload 6, 2, 0, 0, 0, 0), (73, .aload_n 0, 1, 0, 0, 0, 0), (74, .getfield 149, 3, 9, 13, 0, 744), (77, .if_icmp .ge 43, 3, 0, 0, 0, 0)],
  [(80, .iload 5, 2, 0, 0, 0, 0), (82, .ifCond .eq 38, 3, 0, 0, 0, 0), (85, .aload_n 0, 1, 0, 0, 0, 0), (86, .iload 6, 2, 0, 0, 0, 0), (88, .invokevirtual 176, 3, 129, 2, 0, 927), (91, .ifCond .eq 16, 3, 0, 0, 0, 0), (94, .aload_n 0, 1, 0, 0, 0, 0), (95, .iload 6, 2, 0, 0, 0, 0)],
  [(97, .invokevirtual 169, 3, 126, 2, 0, 916), (100, .aload_n 0, 1, 0, 0, 0, 0), (101, .getfield 86, 3, 9, 12, 0, 743), (104, .if_icmp .le 7, 3, 0, 0, 0, 0), (107, .iconst 1, 1, 0, 0, 0, 0), (108, .goto 4, 3, 0, 0, 0, 0), (111, .iconst 0, 1, 0, 0, 0, 0)],
  [(112, .istore 5, 2, 0, 0, 0, 0), (114, .iinc 6 1, 3, 0, 0, 0, 0), (117, .goto (-46), 3, 0, 0, 0, 0), (120, .iload 5, 2, 0, 0, 0, 0), (122, .ifCond .eq 5, 3, 0, 0, 0, 0), (125, .iconst 1, 1, 0, 0, 0, 0), (126, .ireturn, 1, 0, 0, 0, 0), (127, .iinc 3 1, 3, 0, 0, 0, 0)],
  [(130, .goto (-113), 3, 0, 0, 0, 0), (133, .iinc 2 1, 3, 0, 0, 0, 0), (136, .goto (-132), 3, 0, 0, 0, 0), (139, .iconst 0, 1, 0, 0, 0, 0), (140, .ireturn, 1, 0, 0, 0, 0)]]
def iv_k141 : List (List ivE) := [[(0, .aload_n 0, 1, 0, 0, 0, 0), (1, .invokevirtual 194, 3, 140, 1, 0, 976), (4, .ifCond .eq 28, 3, 0, 0, 0, 0), (7, .iload_n 1, 1, 0, 0, 0, 0), (8, .i2l, 1, 0, 0, 0, 0), (9, .lconst 0, 1, 0, 0, 0, 0), (10, .aload_n 0, 1, 0, 0, 0, 0), (11, .getfield 162, 3, 9, 21, 0, 752), (14, .iconst 1, 1, 0, 0, 0, 0), (15, .isub, 1, 0, 0, 0, 0)],
  [(16, .i2l, 1, 0, 0, 0, 0), (17, .invokestatic 92, 3, 109, 3, 0, 849), (20, .ifCond .eq 12, 3, 0, 0, 0, 0), (23, .aload_n 0, 1, 0, 0, 0, 0), (24, .getfield 40, 3, 9, 20, 0, 751), (27, .iload_n 1, 1, 0, 0, 0, 0), (28, .iaload, 1, 0, 0, 0, 0), (29, .goto 5, 3, 0, 0, 0, 0)],
  [(32, .bipush (-9), 2, 0, 0, 0, 0), (34, .ireturn, 1, 0, 0, 0, 0)]]
def iv_k142 : List (List ivE) := [[(0, .aload_n 0, 1, 0, 0, 0, 0), (1, .iload_n 1, 1, 0, 0, 0, 0), (2, .invokevirtual 187, 3, 123, 2, 0, 960), (5, .ifCond .eq 11, 3, 0, 0, 0, 0), (8, .aload_n 0, 1, 0, 0, 0, 0), (9, .iload_n 2, 1, 0, 0, 0, 0), (10, .invokevirtual 158, 3, 122, 2, 0, 904), (13, .ifCond .ne 5, 3, 0, 0, 0, 0)],
  [(16, .iconst (-1), 1, 0, 0, 0, 0), (17, .ireturn, 1, 0, 0, 0, 0), (18, .aload_n 0, 1, 0, 0, 0, 0), (19, .iload_n 2, 1, 0, 0, 0, 0), (20, .invokevirtual 176, 3, 129, 2, 0, 927), (23, .ifCond .ne 10, 3, 0, 0, 0, 0), (26, .aload_n 0, 1, 0, 0, 0, 0), (27, .invokevirtual 194, 3, 140, 1, 0, 976), (30, .ifCond .ne 6, 3, 0, 0, 0, 0)],
  [(33, .bipush (-3), 2, 0, 0, 0, 0), (35, .ireturn, 1, 0, 0, 0, 0), (36, .aload_n 0, 1, 0, 0, 0, 0), (37, .getfield 25, 3, 9, 8, 0, 739), (40, .iload_n 2, 1, 0, 0, 0, 0), (41, .aload_n 0, 1, 0, 0, 0, 0), (42, .getfield 162, 3, 9, 21, 0, 752), (45, .iastore, 1, 0, 0, 0, 0), (46, .iconst 0, 1, 0, 0, 0, 0), (47, .istore_n 3, 1, 0, 0, 0, 0)],
  [(48, .iload_n 3, 1, 0, 0, 0, 0), (49, .aload_n 0, 1, 0, 0, 0, 0), (50, .getfield 162, 3, 9, 21, 0, 752), (53, .if_icmp .ge 25, 3, 0, 0, 0, 0), (56, .aload_n 0, 1, 0, 0, 0, 0), (57, .getfield 22, 3, 9, 7, 0, 738), (60, .iconst 5, 1, 0, 0, 0, 0), (61, .iload_n 2, 1, 0, 0, 0, 0), (62, .imul, 1, 0, 0, 0, 0), (63, .iload_n 3, 1, 0, 0, 0, 0)],
  [(64, .iadd, 1, 0, 0, 0, 0), (65, .aload_n 0, 1, 0, 0, 0, 0), (66, .getfield 40, 3, 9, 20, 0, 751), (69, .iload_n 3, 1, 0, 0, 0, 0), (70, .iaload, 1, 0, 0, 0, 0), (71, .iastore, 1, 0, 0, 0, 0), (72, .iinc 3 1, 3, 0, 0, 0, 0), (75, .goto (-27), 3, 0, 0, 0, 0), (78, .aload_n 0, 1, 0, 0, 0, 0), (79, .getfield 31, 3, 9, 10, 0, 741)],
  [(82, .iload_n 2, 1, 0, 0, 0, 0), (83, .aload_n 0, 1, 0, 0, 0, 0), (84, .getfield 155, 3, 9, 15, 0, 746), (87, .iastore, 1, 0, 0, 0, 0), (88, .aload_n 0, 1, 0, 0, 0, 0), (89, .getfield 28, 3, 9, 9, 0, 740), (92, .iload_n 2, 1, 0, 0, 0, 0), (93, .iconst 1, 1, 0, 0, 0, 0), (94, .iload_n 1, 1, 0, 0, 0, 0), (95, .ishl, 1, 0, 0, 0, 0)],
  [(96, .iastore, 1, 0, 0, 0, 0), (97, .aload_n 0, 1, 0, 0, 0, 0), (98, .getfield 162, 3, 9, 21, 0, 752), (101, .ireturn, 1, 0, 0, 0, 0)]]
def iv_k143 : List (List ivE) := [[(0, .iconst 0, 1, 0, 0, 0, 0), (1, .istore_n 2, 1, 0, 0, 0, 0), (2, .iconst 0, 1, 0, 0, 0, 0), (3, .istore_n 3, 1, 0, 0, 0, 0), (4, .iload_n 3, 1, 0, 0, 0, 0), (5, .aload_n 0, 1, 0, 0, 0, 0), (6, .getfield 149, 3, 9, 13, 0, 744), (9, .if_icmp .ge 59, 3, 0, 0, 0, 0), (12, .iload_n 2, 1, 0, 0, 0, 0), (13, .aload_n 0, 1, 0, 0, 0, 0), (14, .iload_n 3, 1, 0, 0, 0, 0), (15, .invokevirtual 176, 3, 129, 2, 0, 927)],
  [(18, .ifCond .eq 41, 3, 0, 0, 0, 0), (21, .aload_n 0, 1, 0, 0, 0, 0), (22, .iload_n 1, 1, 0, 0, 0, 0), (23, .iload_n 3, 1, 0, 0, 0, 0), (24, .invokevirtual 190, 3, 137, 3, 0, 964), (27, .ifCond .eq 32, 3, 0, 0, 0, 0), (30, .aload_n 0, 1, 0, 0, 0, 0), (31, .getfield 25, 3, 9, 8, 0, 739)],
  [(34, .iload_n 3, 1, 0, 0, 0, 0), (35, .iaload, 1, 0, 0, 0, 0), (36, .aload_n 0, 1, 0, 0, 0, 0), (37, .getfield 34, 3, 9, 11, 0, 742), (40, .iload_n 1, 1, 0, 0, 0, 0), (41, .iaload, 1, 0, 0, 0, 0), (42, .if_icmp .gt 17, 3, 0, 0, 0, 0), (45, .aload_n 0, 1, 0, 0, 0, 0), (46, .iload_n 3, 1, 0, 0, 0, 0), (47, .invokevirtual 179, 3, 130, 2, 0, 931)],
  [(50, .ifCond .ne 9, 3, 0, 0, 0, 0), (53, .iconst 1, 1, 0, 0, 0, 0), (54, .iload_n 3, 1, 0, 0, 0, 0), (55, .ishl, 1, 0, 0, 0, 0), (56, .goto 4, 3, 0, 0, 0, 0), (59, .iconst 0, 1, 0, 0, 0, 0), (60, .ior, 1, 0, 0, 0, 0), (61, .istore_n 2, 1, 0, 0, 0, 0), (62, .iinc 3 1, 3, 0, 0, 0, 0)],
  [(65, .goto (-61), 3, 0, 0, 0, 0), (68, .iload_n 2, 1, 0, 0, 0, 0), (69, .ireturn, 1, 0, 0, 0, 0)]]
def iv_k144 : List (List ivE) := [[(0, .aload_n 0, 1, 0, 0, 0, 0), (1, .iload_n 1, 1, 0, 0, 0, 0), (2, .invokevirtual 187, 3, 123, 2, 0, 960), (5, .ifCond .eq 11, 3, 0, 0, 0, 0), (8, .aload_n 0, 1, 0, 0, 0, 0), (9, .iload_n 1, 1, 0, 0, 0, 0), (10, .invokevirtual 197, 3, 143, 2, 0, 988), (13, .goto 4, 3, 0, 0, 0, 0)],
  [(16, .iconst (-1), 1, 0, 0, 0, 0), (17, .ireturn, 1, 0, 0, 0, 0)]]
def iv_k145 : List (List ivE) := [[(0, .iload_n 1, 1, 0, 0, 0, 0), (1, .i2l, 1, 0, 0, 0, 0), (2, .lconst 0, 1, 0, 0, 0, 0), (3, .iconst 1, 1, 0, 0, 0, 0), (4, .aload_n 0, 1, 0, 0, 0, 0), (5, .getfield 149, 3, 9, 13, 0, 744), (8, .ishl, 1, 0, 0, 0, 0), (9, .iconst 1, 1, 0, 0, 0, 0), (10, .isub, 1, 0, 0, 0, 0), (11, .i2l, 1, 0, 0, 0, 0), (12, .invokestatic 92, 3, 109, 3, 0, 849), (15, .ireturn, 1, 0, 0, 0, 0)]]
def iv_k146 : List (List ivE) := [[(0, .iconst 0, 1, 0, 0, 0, 0), (1, .istore 4, 2, 0, 0, 0, 0), (3, .iconst 0, 1, 0, 0, 0, 0), (4, .istore 5, 2, 0, 0, 0, 0), (6, .iload 5, 2, 0, 0, 0, 0), (8, .aload_n 0, 1, 0, 0, 0, 0), (9, .getfield 149, 3, 9, 13, 0, 744), (12, .if_icmp .ge 49, 3, 0, 0, 0, 0), (15, .iload_n 3, 1, 0, 0, 0, 0)],
  [(16, .iload 5, 2, 0, 0, 0, 0), (18, .ishr, 1, 0, 0, 0, 0), (19, .iconst 1, 1, 0, 0, 0, 0), (20, .iand, 1, 0, 0, 0, 0), (21, .iconst 1, 1, 0, 0, 0, 0), (22, .if_icmp .ne 33, 3, 0, 0, 0, 0), (25, .iload 4, 2, 0, 0, 0, 0), (27, .aload_n 0, 1, 0, 0, 0, 0), (28, .getfield 25, 3, 9, 8, 0, 739), (31, .iload 5, 2, 0, 0, 0, 0)],
  [(33, .iaload, 1, 0, 0, 0, 0), (34, .iadd, 1, 0, 0, 0, 0), (35, .istore 4, 2, 0, 0, 0, 0), (37, .iload_n 1, 1, 0, 0, 0, 0), (38, .iload 5, 2, 0, 0, 0, 0), (40, .ishr, 1, 0, 0, 0, 0), (41, .iconst 1, 1, 0, 0, 0, 0), (42, .iand, 1, 0, 0, 0, 0), (43, .ifCond .eq 9, 3, 0, 0, 0, 0), (46, .iload 4, 2, 0, 0, 0, 0)],
  [(48, .iload_n 2, 1, 0, 0, 0, 0), (49, .if_icmp .le 6, 3, 0, 0, 0, 0), (52, .iload 5, 2, 0, 0, 0, 0), (54, .ireturn, 1, 0, 0, 0, 0), (55, .iinc 5 1, 3, 0, 0, 0, 0), (58, .goto (-52), 3, 0, 0, 0, 0), (61, .bipush (-9), 2, 0, 0, 0, 0), (63, .ireturn, 1, 0, 0, 0, 0)]]
def iv_k147 : List (List ivE) := [[(0, .aload_n 0, 1, 0, 0, 0, 0), (1, .iload_n 1, 1, 0, 0, 0, 0), (2, .invokevirtual 187, 3, 123, 2, 0, 960), (5, .ifCond .ne 5, 3, 0, 0, 0, 0), (8, .iconst (-1), 1, 0, 0, 0, 0), (9, .ireturn, 1, 0, 0, 0, 0), (10, .aload_n 0, 1, 0, 0, 0, 0), (11, .iload_n 2, 1, 0, 0, 0, 0), (12, .invokevirtual 200, 3, 145, 2, 0, 996), (15, .ifCond .eq 22, 3, 0, 0, 0, 0)],
  [(18, .aload_n 0, 1, 0, 0, 0, 0), (19, .aload_n 0, 1, 0, 0, 0, 0), (20, .iload_n 1, 1, 0, 0, 0, 0), (21, .invokevirtual 197, 3, 143, 2, 0, 988), (24, .aload_n 0, 1, 0, 0, 0, 0), (25, .getfield 34, 3, 9, 11, 0, 742), (28, .iload_n 1, 1, 0, 0, 0, 0), (29, .iaload, 1, 0, 0, 0, 0), (30, .iload_n 2, 1, 0, 0, 0, 0), (31, .invokevirtual 203, 3, 146, 4, 0, 1000)],
  [(34, .goto 5, 3, 0, 0, 0, 0), (37, .bipush (-2), 2, 0, 0, 0, 0), (39, .ireturn, 1, 0, 0, 0, 0)]]
def iv_k148 : List (List ivE) := [[(0, .iconst 0, 1, 0, 0, 0, 0), (1, .istore_n 2, 1, 0, 0, 0, 0), (2, .iload_n 2, 1, 0, 0, 0, 0), (3, .sipush 256, 3, 0, 0, 0, 0), (6, .if_icmp .ge 28, 3, 0, 0, 0, 0), (9, .aload_n 0, 1, 0, 0, 0, 0), (10, .getfield 46, 3, 9, 23, 0, 754), (13, .sipush 1536, 3, 0, 0, 0, 0)],
  [(16, .iload_n 2, 1, 0, 0, 0, 0), (17, .iadd, 1, 0, 0, 0, 0), (18, .iload_n 2, 1, 0, 0, 0, 0), (19, .ifCond .ne 7, 3, 0, 0, 0, 0), (22, .iconst 1, 1, 0, 0, 0, 0), (23, .goto 4, 3, 0, 0, 0, 0), (26, .iconst 0, 1, 0, 0, 0, 0), (27, .bastore, 1, 0, 0, 0, 0), (28, .iinc 2 1, 3, 0, 0, 0, 0), (31, .goto (-29), 3, 0, 0, 0, 0)],
  [(34, .iconst 5, 1, 0, 0, 0, 0), (35, .istore_n 2, 1, 0, 0, 0, 0), (36, .iload_n 2, 1, 0, 0, 0, 0), (37, .ifCond .lt 159, 3, 0, 0, 0, 0), (40, .iload_n 2, 1, 0, 0, 0, 0), (41, .aload_n 0, 1, 0, 0, 0, 0), (42, .getfield 152, 3, 9, 14, 0, 745), (45, .if_icmp .ge 12, 3, 0, 0, 0, 0)],
  [(48, .iload_n 2, 1, 0, 0, 0, 0), (49, .iload_n 1, 1, 0, 0, 0, 0), (50, .if_icmp .eq 7, 3, 0, 0, 0, 0), (53, .iconst 1, 1, 0, 0, 0, 0), (54, .goto 4, 3, 0, 0, 0, 0), (57, .iconst 0, 1, 0, 0, 0, 0), (58, .istore_n 3, 1, 0, 0, 0, 0), (59, .iload_n 3, 1, 0, 0, 0, 0), (60, .ifCond .eq 11, 3, 0, 0, 0, 0), (63, .aload_n 0, 1, 0, 0, 0, 0)],
  [(64, .iload_n 2, 1, 0, 0, 0, 0), (65, .invokevirtual 197, 3, 143, 2, 0, 988), (68, .goto 4, 3, 0, 0, 0, 0), (71, .iconst 0, 1, 0, 0, 0, 0), (72, .istore 4, 2, 0, 0, 0, 0), (74, .iconst 0, 1, 0, 0, 0, 0), (75, .istore 5, 2, 0, 0, 0, 0), (77, .iload 5, 2, 0, 0, 0, 0), (79, .iconst 1, 1, 0, 0, 0, 0)],
  [(80, .aload_n 0, 1, 0, 0, 0, 0), (81, .getfield 149, 3, 9, 13, 0, 744), (84, .ishl, 1, 0, 0, 0, 0), (85, .if_icmp .ge 55, 3, 0, 0, 0, 0), (88, .aload_n 0, 1, 0, 0, 0, 0), (89, .getfield 50, 3, 9, 24, 0, 755), (92, .sipush 256, 3, 0, 0, 0, 0), (95, .iload_n 2, 1, 0, 0, 0, 0)],
  [(96, .imul, 1, 0, 0, 0, 0), (97, .iload 5, 2, 0, 0, 0, 0), (99, .iadd, 1, 0, 0, 0, 0), (100, .iload 5, 2, 0, 0, 0, 0), (102, .ifCond .eq 26, 3, 0, 0, 0, 0), (105, .iload_n 3, 1, 0, 0, 0, 0), (106, .ifCond .eq 26, 3, 0, 0, 0, 0), (109, .aload_n 0, 1, 0, 0, 0, 0), (110, .iload 4, 2, 0, 0, 0, 0)],
  [(112, .aload_n 0, 1, 0, 0, 0, 0), (113, .getfield 34, 3, 9, 11, 0, 742), (116, .iload_n 2, 1, 0, 0, 0, 0), (117, .iaload, 1, 0, 0, 0, 0), (118, .iload 5, 2, 0, 0, 0, 0), (120, .invokevirtual 203, 3, 146, 4, 0, 1000), (123, .bipush (-9), 2, 0, 0, 0, 0), (125, .if_icmp .ne 7, 3, 0, 0, 0, 0)],
  [(128, .iconst 1, 1, 0, 0, 0, 0), (129, .goto 4, 3, 0, 0, 0, 0), (132, .iconst 0, 1, 0, 0, 0, 0), (133, .bastore, 1, 0, 0, 0, 0), (134, .iinc 5 1, 3, 0, 0, 0, 0), (137, .goto (-60), 3, 0, 0, 0, 0), (140, .iconst 0, 1, 0, 0, 0, 0), (141, .istore 5, 2, 0, 0, 0, 0), (143, .iload 5, 2, 0, 0, 0, 0)],
  [(145, .iconst 1, 1, 0, 0, 0, 0), (146, .aload_n 0, 1, 0, 0, 0, 0), (147, .getfield 149, 3, 9, 13, 0, 744), (150, .ishl, 1, 0, 0, 0, 0), (151, .if_icmp .ge 39, 3, 0, 0, 0, 0), (154, .aload_n 0, 1, 0, 0, 0, 0), (155, .getfield 46, 3, 9, 23, 0, 754), (158, .sipush 256, 3, 0, 0, 0, 0)],
  [(161, .iload_n 2, 1, 0, 0, 0, 0), (162, .imul, 1, 0, 0, 0, 0), (163, .iload 5, 2, 0, 0, 0, 0), (165, .iadd, 1, 0, 0, 0, 0), (166, .aload_n 0, 1, 0, 0, 0, 0), (167, .iload_n 2, 1, 0, 0, 0, 0), (168, .iload 5, 2, 0, 0, 0, 0), (170, .invokevirtual 206, 3, 149, 3, 0, 1012), (173, .bipush (-9), 2, 0, 0, 0, 0), (175, .if_icmp .eq 7, 3, 0, 0, 0, 0)],
  [(178, .iconst 1, 1, 0, 0, 0, 0), (179, .goto 4, 3, 0, 0, 0, 0), (182, .iconst 0, 1, 0, 0, 0, 0), (183, .bastore, 1, 0, 0, 0, 0), (184, .iinc 5 1, 3, 0, 0, 0, 0), (187, .goto (-44), 3, 0, 0, 0, 0), (190, .iinc 2 (-1), 3, 0, 0, 0, 0)],
  [(193, .goto (-157), 3, 0, 0, 0, 0), (196, .return_, 1, 0, 0, 0, 0)]]
def iv_k149 : List (List ivE) := [[(0, .iconst 0, 1, 0, 0, 0, 0), (1, .istore_n 3, 1, 0, 0, 0, 0), (2, .iconst 1, 1, 0, 0, 0, 0), (3, .istore 4, 2, 0, 0, 0, 0), (5, .iload 4, 2, 0, 0, 0, 0), (7, .ifCond .eq 63, 3, 0, 0, 0, 0), (10, .aload_n 0, 1, 0, 0, 0, 0), (11, .getfield 50, 3, 9, 24, 0, 755), (14, .sipush 256, 3, 0, 0, 0, 0)],
  [(17, .iload_n 1, 1, 0, 0, 0, 0), (18, .imul, 1, 0, 0, 0, 0), (19, .iload_n 3, 1, 0, 0, 0, 0), (20, .iadd, 1, 0, 0, 0, 0), (21, .baload, 1, 0, 0, 0, 0), (22, .ifCond .eq 28, 3, 0, 0, 0, 0), (25, .aload_n 0, 1, 0, 0, 0, 0), (26, .getfield 46, 3, 9, 23, 0, 754), (29, .sipush 256, 3, 0, 0, 0, 0)],
  [(32, .iload_n 1, 1, 0, 0, 0, 0), (33, .imul, 1, 0, 0, 0, 0), (34, .sipush 256, 3, 0, 0, 0, 0), (37, .iadd, 1, 0, 0, 0, 0), (38, .iload_n 2, 1, 0, 0, 0, 0), (39, .iload_n 3, 1, 0, 0, 0, 0), (40, .iconst (-1), 1, 0, 0, 0, 0), (41, .ixor, 1, 0, 0, 0, 0), (42, .iand, 1, 0, 0, 0, 0), (43, .iadd, 1, 0, 0, 0, 0), (44, .baload, 1, 0, 0, 0, 0), (45, .ifCond .eq 5, 3, 0, 0, 0, 0)],
  [(48, .iload_n 3, 1, 0, 0, 0, 0), (49, .ireturn, 1, 0, 0, 0, 0), (50, .iload_n 3, 1, 0, 0, 0, 0), (51, .iload_n 2, 1, 0, 0, 0, 0), (52, .isub, 1, 0, 0, 0, 0), (53, .iload_n 2, 1, 0, 0, 0, 0), (54, .iand, 1, 0, 0, 0, 0), (55, .istore_n 3, 1, 0, 0, 0, 0), (56, .iload_n 3, 1, 0, 0, 0, 0), (57, .ifCond .eq 7, 3, 0, 0, 0, 0), (60, .iconst 1, 1, 0, 0, 0, 0), (61, .goto 4, 3, 0, 0, 0, 0)],
  [(64, .iconst 0, 1, 0, 0, 0, 0), (65, .istore 4, 2, 0, 0, 0, 0), (67, .goto (-62), 3, 0, 0, 0, 0), (70, .bipush (-9), 2, 0, 0, 0, 0), (72, .ireturn, 1, 0, 0, 0, 0)]]
def iv_k150 : List (List ivE) := [[(0, .aload_n 0, 1, 0, 0, 0, 0), (1, .iload_n 1, 1, 0, 0, 0, 0), (2, .invokevirtual 187, 3, 123, 2, 0, 960), (5, .ifCond .ne 5, 3, 0, 0, 0, 0), (8, .iconst (-1), 1, 0, 0, 0, 0), (9, .ireturn, 1, 0, 0, 0, 0), (10, .aload_n 0, 1, 0, 0, 0, 0), (11, .iload_n 2, 1, 0, 0, 0, 0), (12, .invokevirtual 200, 3, 145, 2, 0, 996), (15, .ifCond .ne 6, 3, 0, 0, 0, 0)],
  [(18, .bipush (-2), 2, 0, 0, 0, 0), (20, .ireturn, 1, 0, 0, 0, 0), (21, .aload_n 0, 1, 0, 0, 0, 0), (22, .bipush (-9), 2, 0, 0, 0, 0), (24, .invokevirtual 209, 3, 148, 2, 0, 1008), (27, .aload_n 0, 1, 0, 0, 0, 0), (28, .getfield 46, 3, 9, 23, 0, 754), (31, .iload_n 2, 1, 0, 0, 0, 0)],
  [(32, .baload, 1, 0, 0, 0, 0), (33, .ifCond .ne 6, 3, 0, 0, 0, 0), (36, .bipush (-3), 2, 0, 0, 0, 0), (38, .ireturn, 1, 0, 0, 0, 0), (39, .iload_n 2, 1, 0, 0, 0, 0), (40, .istore_n 3, 1, 0, 0, 0, 0), (41, .iconst 0, 1, 0, 0, 0, 0), (42, .istore 4, 2, 0, 0, 0, 0), (44, .iconst 0, 1, 0, 0, 0, 0), (45, .istore 5, 2, 0, 0, 0, 0), (47, .iload 5, 2, 0, 0, 0, 0)],
  [(49, .iload_n 1, 1, 0, 0, 0, 0), (50, .if_icmp .gt 25, 3, 0, 0, 0, 0), (53, .aload_n 0, 1, 0, 0, 0, 0), (54, .iload 5, 2, 0, 0, 0, 0), (56, .iload_n 3, 1, 0, 0, 0, 0), (57, .invokevirtual 206, 3, 149, 3, 0, 1012), (60, .istore 4, 2, 0, 0, 0, 0), (62, .iload_n 3, 1, 0, 0, 0, 0), (63, .iload 4, 2, 0, 0, 0, 0)],
  [(65, .iconst (-1), 1, 0, 0, 0, 0), (66, .ixor, 1, 0, 0, 0, 0), (67, .iand, 1, 0, 0, 0, 0), (68, .istore_n 3, 1, 0, 0, 0, 0), (69, .iinc 5 1, 3, 0, 0, 0, 0), (72, .goto (-25), 3, 0, 0, 0, 0), (75, .iload 4, 2, 0, 0, 0, 0), (77, .ireturn, 1, 0, 0, 0, 0)]]
def iv_k151 : List (List ivE) := [[(0, .iconst 0, 1, 0, 0, 0, 0), (1, .istore_n 2, 1, 0, 0, 0, 0), (2, .iload_n 2, 1, 0, 0, 0, 0), (3, .iconst 1, 1, 0, 0, 0, 0), (4, .aload_n 0, 1, 0, 0, 0, 0), (5, .getfield 149, 3, 9, 13, 0, 744), (8, .ishl, 1, 0, 0, 0, 0), (9, .if_icmp .ge 106, 3, 0, 0, 0, 0), (12, .aload_n 0, 1, 0, 0, 0, 0), (13, .getfield 53, 3, 9, 25, 0, 756)],
  [(16, .iload_n 2, 1, 0, 0, 0, 0), (17, .iload_n 2, 1, 0, 0, 0, 0), (18, .ifCond .ne 7, 3, 0, 0, 0, 0), (21, .iconst 0, 1, 0, 0, 0, 0), (22, .goto 6, 3, 0, 0, 0, 0), (25, .sipush 999, 3, 0, 0, 0, 0), (28, .iastore, 1, 0, 0, 0, 0), (29, .iload_n 2, 1, 0, 0, 0, 0), (30, .istore_n 3, 1, 0, 0, 0, 0), (31, .iload_n 3, 1, 0, 0, 0, 0)],
  [(32, .ifCond .le 77, 3, 0, 0, 0, 0), (35, .iload_n 2, 1, 0, 0, 0, 0), (36, .iload_n 1, 1, 0, 0, 0, 0), (37, .iconst (-1), 1, 0, 0, 0, 0), (38, .ixor, 1, 0, 0, 0, 0), (39, .iand, 1, 0, 0, 0, 0), (40, .ifCond .ne 69, 3, 0, 0, 0, 0), (43, .aload_n 0, 1, 0, 0, 0, 0), (44, .getfield 46, 3, 9, 23, 0, 754), (47, .iload_n 3, 1, 0, 0, 0, 0)],
  [(48, .baload, 1, 0, 0, 0, 0), (49, .ifCond .eq 18, 3, 0, 0, 0, 0), (52, .aload_n 0, 1, 0, 0, 0, 0), (53, .getfield 53, 3, 9, 25, 0, 756), (56, .iload_n 2, 1, 0, 0, 0, 0), (57, .iload_n 3, 1, 0, 0, 0, 0), (58, .iconst (-1), 1, 0, 0, 0, 0), (59, .ixor, 1, 0, 0, 0, 0), (60, .iand, 1, 0, 0, 0, 0), (61, .iaload, 1, 0, 0, 0, 0), (62, .iconst 1, 1, 0, 0, 0, 0), (63, .iadd, 1, 0, 0, 0, 0)],
  [(64, .goto 6, 3, 0, 0, 0, 0), (67, .sipush 999, 3, 0, 0, 0, 0), (70, .istore 4, 2, 0, 0, 0, 0), (72, .aload_n 0, 1, 0, 0, 0, 0), (73, .getfield 53, 3, 9, 25, 0, 756), (76, .iload_n 2, 1, 0, 0, 0, 0), (77, .iload 4, 2, 0, 0, 0, 0), (79, .aload_n 0, 1, 0, 0, 0, 0)],
  [(80, .getfield 53, 3, 9, 25, 0, 756), (83, .iload_n 2, 1, 0, 0, 0, 0), (84, .iaload, 1, 0, 0, 0, 0), (85, .if_icmp .ge 8, 3, 0, 0, 0, 0), (88, .iload 4, 2, 0, 0, 0, 0), (90, .goto 9, 3, 0, 0, 0, 0), (93, .aload_n 0, 1, 0, 0, 0, 0), (94, .getfield 53, 3, 9, 25, 0, 756)],
  [(97, .iload_n 2, 1, 0, 0, 0, 0), (98, .iaload, 1, 0, 0, 0, 0), (99, .iastore, 1, 0, 0, 0, 0), (100, .iload_n 3, 1, 0, 0, 0, 0), (101, .iconst 1, 1, 0, 0, 0, 0), (102, .isub, 1, 0, 0, 0, 0), (103, .iload_n 2, 1, 0, 0, 0, 0), (104, .iand, 1, 0, 0, 0, 0), (105, .istore_n 3, 1, 0, 0, 0, 0), (106, .goto (-75), 3, 0, 0, 0, 0), (109, .iinc 2 1, 3, 0, 0, 0, 0)],
  [(112, .goto (-110), 3, 0, 0, 0, 0), (115, .aload_n 0, 1, 0, 0, 0, 0), (116, .getfield 53, 3, 9, 25, 0, 756), (119, .iload_n 1, 1, 0, 0, 0, 0), (120, .iaload, 1, 0, 0, 0, 0), (121, .ireturn, 1, 0, 0, 0, 0)]]
def iv_k152 : List (List ivE) := [[(0, .aload_n 0, 1, 0, 0, 0, 0), (1, .iload_n 1, 1, 0, 0, 0, 0), (2, .invokevirtual 200, 3, 145, 2, 0, 996), (5, .ifCond .ne 6, 3, 0, 0, 0, 0), (8, .bipush (-2), 2, 0, 0, 0, 0), (10, .ireturn, 1, 0, 0, 0, 0), (11, .aload_n 0, 1, 0, 0, 0, 0), (12, .bipush (-9), 2, 0, 0, 0, 0), (14, .invokevirtual 209, 3, 148, 2, 0, 1008)],
  [(17, .aload_n 0, 1, 0, 0, 0, 0), (18, .iload_n 1, 1, 0, 0, 0, 0), (19, .invokevirtual 213, 3, 151, 2, 0, 1020), (22, .istore_n 2, 1, 0, 0, 0, 0), (23, .iload_n 2, 1, 0, 0, 0, 0), (24, .bipush 99, 2, 0, 0, 0, 0), (26, .if_icmp .le 8, 3, 0, 0, 0, 0), (29, .bipush (-9), 2, 0, 0, 0, 0), (31, .goto 4, 3, 0, 0, 0, 0)],
  [(34, .iload_n 2, 1, 0, 0, 0, 0), (35, .ireturn, 1, 0, 0, 0, 0)]]
def iv_k153 : List (List ivE) := [[(0, .aload_n 0, 1, 0, 0, 0, 0), (1, .iload_n 1, 1, 0, 0, 0, 0), (2, .invokevirtual 187, 3, 123, 2, 0, 960), (5, .ifCond .ne 5, 3, 0, 0, 0, 0), (8, .iconst (-1), 1, 0, 0, 0, 0), (9, .ireturn, 1, 0, 0, 0, 0), (10, .iconst 0, 1, 0, 0, 0, 0), (11, .istore_n 2, 1, 0, 0, 0, 0), (12, .iconst 0, 1, 0, 0, 0, 0), (13, .istore_n 3, 1, 0, 0, 0, 0), (14, .iload_n 3, 1, 0, 0, 0, 0), (15, .aload_n 0, 1, 0, 0, 0, 0)],
  [(16, .getfield 152, 3, 9, 14, 0, 745), (19, .if_icmp .ge 17, 3, 0, 0, 0, 0), (22, .iload_n 2, 1, 0, 0, 0, 0), (23, .aload_n 0, 1, 0, 0, 0, 0), (24, .iload_n 3, 1, 0, 0, 0, 0), (25, .invokevirtual 197, 3, 143, 2, 0, 988), (28, .ior, 1, 0, 0, 0, 0), (29, .istore_n 2, 1, 0, 0, 0, 0), (30, .iinc 3 1, 3, 0, 0, 0, 0)],
  [(33, .goto (-19), 3, 0, 0, 0, 0), (36, .aload_n 0, 1, 0, 0, 0, 0), (37, .bipush (-9), 2, 0, 0, 0, 0), (39, .invokevirtual 209, 3, 148, 2, 0, 1008), (42, .aload_n 0, 1, 0, 0, 0, 0), (43, .iload_n 2, 1, 0, 0, 0, 0), (44, .invokevirtual 213, 3, 151, 2, 0, 1020), (47, .istore_n 3, 1, 0, 0, 0, 0)],
  [(48, .aload_n 0, 1, 0, 0, 0, 0), (49, .iload_n 1, 1, 0, 0, 0, 0), (50, .invokevirtual 209, 3, 148, 2, 0, 1008), (53, .aload_n 0, 1, 0, 0, 0, 0), (54, .iload_n 2, 1, 0, 0, 0, 0), (55, .invokevirtual 213, 3, 151, 2, 0, 1020), (58, .istore 4, 2, 0, 0, 0, 0), (60, .iload 4, 2, 0, 0, 0, 0), (62, .bipush 99, 2, 0, 0, 0, 0)],
  [(64, .if_icmp .le 8, 3, 0, 0, 0, 0), (67, .bipush 99, 2, 0, 0, 0, 0), (69, .goto 7, 3, 0, 0, 0, 0), (72, .iload 4, 2, 0, 0, 0, 0), (74, .iload_n 3, 1, 0, 0, 0, 0), (75, .isub, 1, 0, 0, 0, 0), (76, .ireturn, 1, 0, 0, 0, 0)]]
def iv_k154 : List (List ivE) := [[(0, .aload_n 0, 1, 0, 0, 0, 0), (1, .iload_n 1, 1, 0, 0, 0, 0), (2, .invokevirtual 200, 3, 145, 2, 0, 996), (5, .ifCond .eq 15, 3, 0, 0, 0, 0), (8, .iload_n 2, 1, 0, 0, 0, 0), (9, .i2l, 1, 0, 0, 0, 0), (10, .lconst 0, 1, 0, 0, 0, 0), (11, .ldc2_w 185, 3, 0, 0, 99, 951), (14, .invokestatic 92, 3, 109, 3, 0, 849)],
  [(17, .ifCond .ne 6, 3, 0, 0, 0, 0), (20, .bipush (-2), 2, 0, 0, 0, 0), (22, .ireturn, 1, 0, 0, 0, 0), (23, .iconst 0, 1, 0, 0, 0, 0), (24, .istore_n 3, 1, 0, 0, 0, 0), (25, .iconst 0, 1, 0, 0, 0, 0), (26, .istore 4, 2, 0, 0, 0, 0), (28, .iload 4, 2, 0, 0, 0, 0), (30, .aload_n 0, 1, 0, 0, 0, 0), (31, .getfield 149, 3, 9, 13, 0, 744)],
  [(34, .if_icmp .ge 72, 3, 0, 0, 0, 0), (37, .iload_n 1, 1, 0, 0, 0, 0), (38, .iload 4, 2, 0, 0, 0, 0), (40, .ishr, 1, 0, 0, 0, 0), (41, .iconst 1, 1, 0, 0, 0, 0), (42, .iand, 1, 0, 0, 0, 0), (43, .iconst 1, 1, 0, 0, 0, 0), (44, .if_icmp .ne 16, 3, 0, 0, 0, 0), (47, .aload_n 0, 1, 0, 0, 0, 0)],
  [(48, .iload 4, 2, 0, 0, 0, 0), (50, .invokevirtual 176, 3, 129, 2, 0, 927), (53, .ifCond .eq 7, 3, 0, 0, 0, 0), (56, .iconst 1, 1, 0, 0, 0, 0), (57, .goto 4, 3, 0, 0, 0, 0), (60, .iconst 0, 1, 0, 0, 0, 0), (61, .istore 5, 2, 0, 0, 0, 0), (63, .aload_n 0, 1, 0, 0, 0, 0)],
  [(64, .getfield 31, 3, 9, 10, 0, 741), (67, .iload 4, 2, 0, 0, 0, 0), (69, .iaload, 1, 0, 0, 0, 0), (70, .bipush 9, 2, 0, 0, 0, 0), (72, .iadd, 1, 0, 0, 0, 0), (73, .istore 6, 2, 0, 0, 0, 0), (75, .iload 5, 2, 0, 0, 0, 0), (77, .ifCond .eq 23, 3, 0, 0, 0, 0)],
  [(80, .iload 6, 2, 0, 0, 0, 0), (82, .aload_n 0, 1, 0, 0, 0, 0), (83, .getfield 155, 3, 9, 15, 0, 746), (86, .iload_n 2, 1, 0, 0, 0, 0), (87, .iadd, 1, 0, 0, 0, 0), (88, .if_icmp .ge 12, 3, 0, 0, 0, 0), (91, .iinc 3 1, 3, 0, 0, 0, 0), (94, .iinc 6 9, 3, 0, 0, 0, 0)],
  [(97, .goto (-22), 3, 0, 0, 0, 0), (100, .iinc 4 1, 3, 0, 0, 0, 0), (103, .goto (-75), 3, 0, 0, 0, 0), (106, .iload_n 3, 1, 0, 0, 0, 0), (107, .ireturn, 1, 0, 0, 0, 0)]]
def iv_k155 : List (List ivE) := [[(0, .aload_n 0, 1, 0, 0, 0, 0), (1, .iload_n 1, 1, 0, 0, 0, 0), (2, .invokevirtual 158, 3, 122, 2, 0, 904), (5, .ifCond .ne 5, 3, 0, 0, 0, 0), (8, .iconst (-1), 1, 0, 0, 0, 0), (9, .ireturn, 1, 0, 0, 0, 0), (10, .iconst 0, 1, 0, 0, 0, 0), (11, .istore_n 2, 1, 0, 0, 0, 0), (12, .iconst 0, 1, 0, 0, 0, 0), (13, .istore_n 3, 1, 0, 0, 0, 0), (14, .iload_n 3, 1, 0, 0, 0, 0), (15, .aload_n 0, 1, 0, 0, 0, 0)],
  [(16, .getfield 152, 3, 9, 14, 0, 745), (19, .if_icmp .ge 23, 3, 0, 0, 0, 0), (22, .iload_n 2, 1, 0, 0, 0, 0), (23, .aload_n 0, 1, 0, 0, 0, 0), (24, .iload_n 3, 1, 0, 0, 0, 0), (25, .invokevirtual 197, 3, 143, 2, 0, 988), (28, .iload_n 1, 1, 0, 0, 0, 0), (29, .ishr, 1, 0, 0, 0, 0), (30, .iconst 1, 1, 0, 0, 0, 0), (31, .iand, 1, 0, 0, 0, 0)],
  [(32, .iload_n 3, 1, 0, 0, 0, 0), (33, .ishl, 1, 0, 0, 0, 0), (34, .ior, 1, 0, 0, 0, 0), (35, .istore_n 2, 1, 0, 0, 0, 0), (36, .iinc 3 1, 3, 0, 0, 0, 0), (39, .goto (-25), 3, 0, 0, 0, 0), (42, .iload_n 2, 1, 0, 0, 0, 0), (43, .ireturn, 1, 0, 0, 0, 0)]]
def iv_k156 : List (List ivE) := [[(0, .iload_n 1, 1, 0, 0, 0, 0), (1, .i2l, 1, 0, 0, 0, 0), (2, .lconst 0, 1, 0, 0, 0, 0), (3, .ldc2_w 216, 3, 0, 0, 7, 1040), (6, .invokestatic 92, 3, 109, 3, 0, 849), (9, .ifCond .eq 15, 3, 0, 0, 0, 0), (12, .iload_n 2, 1, 0, 0, 0, 0), (13, .i2l, 1, 0, 0, 0, 0), (14, .lconst 1, 1, 0, 0, 0, 0), (15, .ldc2_w 99, 3, 0, 0, 255, 852)],
  [(18, .invokestatic 92, 3, 109, 3, 0, 849), (21, .ifCond .ne 6, 3, 0, 0, 0, 0), (24, .bipush (-2), 2, 0, 0, 0, 0), (26, .ireturn, 1, 0, 0, 0, 0), (27, .aload_n 0, 1, 0, 0, 0, 0), (28, .getfield 218, 3, 9, 26, 0, 757), (31, .bipush 16, 2, 0, 0, 0, 0)],
  [(33, .if_icmp .ne 6, 3, 0, 0, 0, 0), (36, .bipush (-4), 2, 0, 0, 0, 0), (38, .ireturn, 1, 0, 0, 0, 0), (39, .aload_n 0, 1, 0, 0, 0, 0), (40, .getfield 56, 3, 9, 27, 0, 758), (43, .aload_n 0, 1, 0, 0, 0, 0), (44, .getfield 218, 3, 9, 26, 0, 757), (47, .iload_n 1, 1, 0, 0, 0, 0)],
  [(48, .iastore, 1, 0, 0, 0, 0), (49, .aload_n 0, 1, 0, 0, 0, 0), (50, .getfield 59, 3, 9, 28, 0, 759), (53, .aload_n 0, 1, 0, 0, 0, 0), (54, .getfield 218, 3, 9, 26, 0, 757), (57, .iload_n 2, 1, 0, 0, 0, 0), (58, .iastore, 1, 0, 0, 0, 0), (59, .aload_n 0, 1, 0, 0, 0, 0), (60, .dup, 1, 0, 0, 0, 0), (61, .getfield 218, 3, 9, 26, 0, 757)],
  [(64, .iconst 1, 1, 0, 0, 0, 0), (65, .iadd, 1, 0, 0, 0, 0), (66, .putfield 218, 3, 9, 26, 0, 757), (69, .aload_n 0, 1, 0, 0, 0, 0), (70, .getfield 218, 3, 9, 26, 0, 757), (73, .ireturn, 1, 0, 0, 0, 0)]]
def iv_k157 : List (List ivE) := [[(0, .aload_n 0, 1, 0, 0, 0, 0), (1, .getfield 218, 3, 9, 26, 0, 757), (4, .istore_n 1, 1, 0, 0, 0, 0), (5, .aload_n 0, 1, 0, 0, 0, 0), (6, .iconst 0, 1, 0, 0, 0, 0), (7, .putfield 218, 3, 9, 26, 0, 757), (10, .iload_n 1, 1, 0, 0, 0, 0), (11, .ireturn, 1, 0, 0, 0, 0)]]
def iv_k158 : List (List ivE) := [[(0, .iconst 0, 1, 0, 0, 0, 0), (1, .istore_n 3, 1, 0, 0, 0, 0), (2, .iload_n 3, 1, 0, 0, 0, 0), (3, .bipush 8, 2, 0, 0, 0, 0), (5, .if_icmp .ge 20, 3, 0, 0, 0, 0), (8, .aload_n 0, 1, 0, 0, 0, 0), (9, .getfield 65, 3, 9, 30, 0, 761), (12, .iload_n 3, 1, 0, 0, 0, 0), (13, .iconst 1, 1, 0, 0, 0, 0), (14, .iload_n 1, 1, 0, 0, 0, 0), (15, .ishl, 1, 0, 0, 0, 0)],
  [(16, .iconst 1, 1, 0, 0, 0, 0), (17, .isub, 1, 0, 0, 0, 0), (18, .iastore, 1, 0, 0, 0, 0), (19, .iinc 3 1, 3, 0, 0, 0, 0), (22, .goto (-20), 3, 0, 0, 0, 0), (25, .iconst 0, 1, 0, 0, 0, 0), (26, .istore_n 3, 1, 0, 0, 0, 0), (27, .iload_n 3, 1, 0, 0, 0, 0), (28, .iload_n 2, 1, 0, 0, 0, 0), (29, .if_icmp .ge 29, 3, 0, 0, 0, 0)],
  [(32, .aload_n 0, 1, 0, 0, 0, 0), (33, .getfield 65, 3, 9, 30, 0, 761), (36, .aload_n 0, 1, 0, 0, 0, 0), (37, .getfield 56, 3, 9, 27, 0, 758), (40, .iload_n 3, 1, 0, 0, 0, 0), (41, .iaload, 1, 0, 0, 0, 0), (42, .dup2, 1, 0, 0, 0, 0), (43, .iaload, 1, 0, 0, 0, 0), (44, .aload_n 0, 1, 0, 0, 0, 0), (45, .getfield 59, 3, 9, 28, 0, 759)],
  [(48, .iload_n 3, 1, 0, 0, 0, 0), (49, .iaload, 1, 0, 0, 0, 0), (50, .iand, 1, 0, 0, 0, 0), (51, .iastore, 1, 0, 0, 0, 0), (52, .iinc 3 1, 3, 0, 0, 0, 0), (55, .goto (-28), 3, 0, 0, 0, 0), (58, .aload_n 0, 1, 0, 0, 0, 0), (59, .iload_n 1, 1, 0, 0, 0, 0), (60, .invokevirtual 221, 3, 159, 2, 0, 1053), (63, .ireturn, 1, 0, 0, 0, 0)]]
def iv_k159 : List (List ivE) := [[(0, .iconst 0, 1, 0, 0, 0, 0), (1, .istore_n 2, 1, 0, 0, 0, 0), (2, .iload_n 2, 1, 0, 0, 0, 0), (3, .iconst 1, 1, 0, 0, 0, 0), (4, .iload_n 1, 1, 0, 0, 0, 0), (5, .ishl, 1, 0, 0, 0, 0), (6, .if_icmp .ge 120, 3, 0, 0, 0, 0), (9, .aload_n 0, 1, 0, 0, 0, 0), (10, .getfield 62, 3, 9, 29, 0, 760), (13, .iload_n 2, 1, 0, 0, 0, 0), (14, .iload_n 2, 1, 0, 0, 0, 0), (15, .ifCond .ne 7, 3, 0, 0, 0, 0)],
  [(18, .iconst 1, 1, 0, 0, 0, 0), (19, .goto 4, 3, 0, 0, 0, 0), (22, .iconst 0, 1, 0, 0, 0, 0), (23, .iastore, 1, 0, 0, 0, 0), (24, .iconst (-1), 1, 0, 0, 0, 0), (25, .istore_n 3, 1, 0, 0, 0, 0), (26, .iconst 0, 1, 0, 0, 0, 0), (27, .istore 4, 2, 0, 0, 0, 0), (29, .iload 4, 2, 0, 0, 0, 0), (31, .iload_n 1, 1, 0, 0, 0, 0)],
  [(32, .if_icmp .ge 18, 3, 0, 0, 0, 0), (35, .iload_n 3, 1, 0, 0, 0, 0), (36, .iload_n 2, 1, 0, 0, 0, 0), (37, .iload 4, 2, 0, 0, 0, 0), (39, .ishr, 1, 0, 0, 0, 0), (40, .iconst 1, 1, 0, 0, 0, 0), (41, .iand, 1, 0, 0, 0, 0), (42, .iadd, 1, 0, 0, 0, 0), (43, .istore_n 3, 1, 0, 0, 0, 0), (44, .iinc 4 1, 3, 0, 0, 0, 0), (47, .goto (-18), 3, 0, 0, 0, 0)],
  [(50, .iconst 0, 1, 0, 0, 0, 0), (51, .istore 4, 2, 0, 0, 0, 0), (53, .iload 4, 2, 0, 0, 0, 0), (55, .iload_n 1, 1, 0, 0, 0, 0), (56, .if_icmp .ge 64, 3, 0, 0, 0, 0), (59, .iload_n 2, 1, 0, 0, 0, 0), (60, .ifCond .le 60, 3, 0, 0, 0, 0), (63, .aload_n 0, 1, 0, 0, 0, 0)],
  [(64, .getfield 62, 3, 9, 29, 0, 760), (67, .iload_n 2, 1, 0, 0, 0, 0), (68, .dup2, 1, 0, 0, 0, 0), (69, .iaload, 1, 0, 0, 0, 0), (70, .iload_n 2, 1, 0, 0, 0, 0), (71, .iload 4, 2, 0, 0, 0, 0), (73, .ishr, 1, 0, 0, 0, 0), (74, .iconst 1, 1, 0, 0, 0, 0), (75, .iand, 1, 0, 0, 0, 0), (76, .iconst 1, 1, 0, 0, 0, 0), (77, .if_icmp .ne 34, 3, 0, 0, 0, 0)],
  [(80, .aload_n 0, 1, 0, 0, 0, 0), (81, .getfield 65, 3, 9, 30, 0, 761), (84, .iload_n 3, 1, 0, 0, 0, 0), (85, .iaload, 1, 0, 0, 0, 0), (86, .iload 4, 2, 0, 0, 0, 0), (88, .ishr, 1, 0, 0, 0, 0), (89, .iconst 1, 1, 0, 0, 0, 0), (90, .iand, 1, 0, 0, 0, 0), (91, .iconst 1, 1, 0, 0, 0, 0), (92, .if_icmp .ne 19, 3, 0, 0, 0, 0), (95, .aload_n 0, 1, 0, 0, 0, 0)],
  [(96, .getfield 62, 3, 9, 29, 0, 760), (99, .iload_n 2, 1, 0, 0, 0, 0), (100, .iconst 1, 1, 0, 0, 0, 0), (101, .iload 4, 2, 0, 0, 0, 0), (103, .ishl, 1, 0, 0, 0, 0), (104, .iconst (-1), 1, 0, 0, 0, 0), (105, .ixor, 1, 0, 0, 0, 0), (106, .iand, 1, 0, 0, 0, 0), (107, .iaload, 1, 0, 0, 0, 0), (108, .goto 4, 3, 0, 0, 0, 0), (111, .iconst 0, 1, 0, 0, 0, 0)],
  [(112, .iadd, 1, 0, 0, 0, 0), (113, .iastore, 1, 0, 0, 0, 0), (114, .iinc 4 1, 3, 0, 0, 0, 0), (117, .goto (-64), 3, 0, 0, 0, 0), (120, .iinc 2 1, 3, 0, 0, 0, 0), (123, .goto (-121), 3, 0, 0, 0, 0), (126, .aload_n 0, 1, 0, 0, 0, 0), (127, .getfield 62, 3, 9, 29, 0, 760)],
  [(130, .iconst 1, 1, 0, 0, 0, 0), (131, .iload_n 1, 1, 0, 0, 0, 0), (132, .ishl, 1, 0, 0, 0, 0), (133, .iconst 1, 1, 0, 0, 0, 0), (134, .isub, 1, 0, 0, 0, 0), (135, .iaload, 1, 0, 0, 0, 0), (136, .ireturn, 1, 0, 0, 0, 0)]]
def iv_k160 : List (List ivE) := [[(0, .iload_n 1, 1, 0, 0, 0, 0), (1, .i2l, 1, 0, 0, 0, 0), (2, .lconst 1, 1, 0, 0, 0, 0), (3, .ldc2_w 90, 3, 0, 0, 8, 848), (6, .invokestatic 92, 3, 109, 3, 0, 849), (9, .ifCond .eq 15, 3, 0, 0, 0, 0), (12, .aload_n 0, 1, 0, 0, 0, 0), (13, .iload_n 1, 1, 0, 0, 0, 0), (14, .aload_n 0, 1, 0, 0, 0, 0), (15, .getfield 218, 3, 9, 26, 0, 757)],
  [(18, .invokevirtual 224, 3, 158, 3, 0, 1049), (21, .goto 5, 3, 0, 0, 0, 0), (24, .bipush (-2), 2, 0, 0, 0, 0), (26, .ireturn, 1, 0, 0, 0, 0)]]
def iv_k161 : List (List ivE) := [[(0, .iload_n 1, 1, 0, 0, 0, 0), (1, .i2l, 1, 0, 0, 0, 0), (2, .lconst 1, 1, 0, 0, 0, 0), (3, .ldc2_w 90, 3, 0, 0, 8, 848), (6, .invokestatic 92, 3, 109, 3, 0, 849), (9, .ifCond .eq 16, 3, 0, 0, 0, 0), (12, .iload_n 2, 1, 0, 0, 0, 0), (13, .i2l, 1, 0, 0, 0, 0), (14, .lconst 0, 1, 0, 0, 0, 0), (15, .iload_n 1, 1, 0, 0, 0, 0)],
  [(16, .iconst 1, 1, 0, 0, 0, 0), (17, .isub, 1, 0, 0, 0, 0), (18, .i2l, 1, 0, 0, 0, 0), (19, .invokestatic 92, 3, 109, 3, 0, 849), (22, .ifCond .ne 6, 3, 0, 0, 0, 0), (25, .bipush (-2), 2, 0, 0, 0, 0), (27, .ireturn, 1, 0, 0, 0, 0), (28, .aload_n 0, 1, 0, 0, 0, 0), (29, .iload_n 1, 1, 0, 0, 0, 0), (30, .aload_n 0, 1, 0, 0, 0, 0), (31, .getfield 218, 3, 9, 26, 0, 757)],
  [(34, .invokevirtual 224, 3, 158, 3, 0, 1049), (37, .pop, 1, 0, 0, 0, 0), (38, .aload_n 0, 1, 0, 0, 0, 0), (39, .getfield 65, 3, 9, 30, 0, 761), (42, .iload_n 2, 1, 0, 0, 0, 0), (43, .iaload, 1, 0, 0, 0, 0), (44, .istore_n 3, 1, 0, 0, 0, 0), (45, .iconst 0, 1, 0, 0, 0, 0), (46, .istore 4, 2, 0, 0, 0, 0)],
  [(48, .iconst 0, 1, 0, 0, 0, 0), (49, .istore 5, 2, 0, 0, 0, 0), (51, .iload 5, 2, 0, 0, 0, 0), (53, .iload_n 1, 1, 0, 0, 0, 0), (54, .if_icmp .ge 42, 3, 0, 0, 0, 0), (57, .aload_n 0, 1, 0, 0, 0, 0), (58, .getfield 65, 3, 9, 30, 0, 761), (61, .iload_n 2, 1, 0, 0, 0, 0), (62, .iload_n 3, 1, 0, 0, 0, 0), (63, .iconst 1, 1, 0, 0, 0, 0)],
  [(64, .iload 5, 2, 0, 0, 0, 0), (66, .ishl, 1, 0, 0, 0, 0), (67, .iand, 1, 0, 0, 0, 0), (68, .iastore, 1, 0, 0, 0, 0), (69, .iload 4, 2, 0, 0, 0, 0), (71, .aload_n 0, 1, 0, 0, 0, 0), (72, .iload_n 1, 1, 0, 0, 0, 0), (73, .invokevirtual 221, 3, 159, 2, 0, 1053), (76, .ifCond .le 10, 3, 0, 0, 0, 0), (79, .iconst 1, 1, 0, 0, 0, 0)],
  [(80, .iload 5, 2, 0, 0, 0, 0), (82, .ishl, 1, 0, 0, 0, 0), (83, .goto 4, 3, 0, 0, 0, 0), (86, .iconst 0, 1, 0, 0, 0, 0), (87, .ior, 1, 0, 0, 0, 0), (88, .istore 4, 2, 0, 0, 0, 0), (90, .iinc 5 1, 3, 0, 0, 0, 0), (93, .goto (-42), 3, 0, 0, 0, 0)],
  [(96, .iload 4, 2, 0, 0, 0, 0), (98, .ireturn, 1, 0, 0, 0, 0)]]
def iv_k162 : List (List ivE) := [[(0, .iload_n 1, 1, 0, 0, 0, 0), (1, .i2l, 1, 0, 0, 0, 0), (2, .lconst 1, 1, 0, 0, 0, 0), (3, .ldc2_w 90, 3, 0, 0, 8, 848), (6, .invokestatic 92, 3, 109, 3, 0, 849), (9, .ifCond .ne 6, 3, 0, 0, 0, 0), (12, .bipush (-2), 2, 0, 0, 0, 0), (14, .ireturn, 1, 0, 0, 0, 0), (15, .iconst 0, 1, 0, 0, 0, 0)],
  [(16, .istore_n 2, 1, 0, 0, 0, 0), (17, .iload_n 2, 1, 0, 0, 0, 0), (18, .aload_n 0, 1, 0, 0, 0, 0), (19, .getfield 218, 3, 9, 26, 0, 757), (22, .if_icmp .ge 22, 3, 0, 0, 0, 0), (25, .aload_n 0, 1, 0, 0, 0, 0), (26, .iload_n 1, 1, 0, 0, 0, 0), (27, .iload_n 2, 1, 0, 0, 0, 0), (28, .iconst 1, 1, 0, 0, 0, 0), (29, .iadd, 1, 0, 0, 0, 0), (30, .invokevirtual 224, 3, 158, 3, 0, 1049)],
  [(33, .ifCond .ne 5, 3, 0, 0, 0, 0), (36, .iload_n 2, 1, 0, 0, 0, 0), (37, .ireturn, 1, 0, 0, 0, 0), (38, .iinc 2 1, 3, 0, 0, 0, 0), (41, .goto (-24), 3, 0, 0, 0, 0), (44, .bipush (-9), 2, 0, 0, 0, 0), (46, .ireturn, 1, 0, 0, 0, 0)]]
def iv_k163 : List (List ivE) := [[(0, .iload_n 1, 1, 0, 0, 0, 0), (1, .i2l, 1, 0, 0, 0, 0), (2, .lconst 1, 1, 0, 0, 0, 0), (3, .ldc2_w 227, 3, 0, 0, 5, 1069), (6, .invokestatic 92, 3, 109, 3, 0, 849), (9, .ifCond .ne 6, 3, 0, 0, 0, 0), (12, .bipush (-2), 2, 0, 0, 0, 0), (14, .ireturn, 1, 0, 0, 0, 0), (15, .iconst 0, 1, 0, 0, 0, 0)],
  [(16, .istore_n 2, 1, 0, 0, 0, 0), (17, .iconst 0, 1, 0, 0, 0, 0), (18, .istore_n 3, 1, 0, 0, 0, 0), (19, .iload_n 3, 1, 0, 0, 0, 0), (20, .aload_n 0, 1, 0, 0, 0, 0), (21, .getfield 149, 3, 9, 13, 0, 744), (24, .if_icmp .ge 149, 3, 0, 0, 0, 0), (27, .iconst 0, 1, 0, 0, 0, 0), (28, .istore 4, 2, 0, 0, 0, 0), (30, .iload 4, 2, 0, 0, 0, 0)],
  [(32, .aload_n 0, 1, 0, 0, 0, 0), (33, .getfield 149, 3, 9, 13, 0, 744), (36, .if_icmp .ge 131, 3, 0, 0, 0, 0), (39, .iload_n 3, 1, 0, 0, 0, 0), (40, .iload 4, 2, 0, 0, 0, 0), (42, .if_icmp .eq 40, 3, 0, 0, 0, 0), (45, .aload_n 0, 1, 0, 0, 0, 0), (46, .iload_n 3, 1, 0, 0, 0, 0), (47, .invokevirtual 176, 3, 129, 2, 0, 927)],
  [(50, .ifCond .eq 32, 3, 0, 0, 0, 0), (53, .aload_n 0, 1, 0, 0, 0, 0), (54, .iload 4, 2, 0, 0, 0, 0), (56, .invokevirtual 176, 3, 129, 2, 0, 927), (59, .ifCond .eq 23, 3, 0, 0, 0, 0), (62, .aload_n 0, 1, 0, 0, 0, 0), (63, .getfield 25, 3, 9, 8, 0, 739)],
  [(66, .iload_n 3, 1, 0, 0, 0, 0), (67, .iaload, 1, 0, 0, 0, 0), (68, .aload_n 0, 1, 0, 0, 0, 0), (69, .getfield 25, 3, 9, 8, 0, 739), (72, .iload 4, 2, 0, 0, 0, 0), (74, .iaload, 1, 0, 0, 0, 0), (75, .if_icmp .ne 7, 3, 0, 0, 0, 0), (78, .iconst 1, 1, 0, 0, 0, 0), (79, .goto 4, 3, 0, 0, 0, 0)],
  [(82, .iconst 0, 1, 0, 0, 0, 0), (83, .istore 5, 2, 0, 0, 0, 0), (85, .iconst 0, 1, 0, 0, 0, 0), (86, .istore 6, 2, 0, 0, 0, 0), (88, .iload 6, 2, 0, 0, 0, 0), (90, .aload_n 0, 1, 0, 0, 0, 0), (91, .getfield 25, 3, 9, 8, 0, 739), (94, .iload_n 3, 1, 0, 0, 0, 0), (95, .iaload, 1, 0, 0, 0, 0)],
  [(96, .if_icmp .ge 52, 3, 0, 0, 0, 0), (99, .iload 5, 2, 0, 0, 0, 0), (101, .ifCond .eq 47, 3, 0, 0, 0, 0), (104, .aload_n 0, 1, 0, 0, 0, 0), (105, .getfield 22, 3, 9, 7, 0, 738), (108, .iconst 5, 1, 0, 0, 0, 0), (109, .iload_n 3, 1, 0, 0, 0, 0), (110, .imul, 1, 0, 0, 0, 0), (111, .iload 6, 2, 0, 0, 0, 0)],
  [(113, .iadd, 1, 0, 0, 0, 0), (114, .iaload, 1, 0, 0, 0, 0), (115, .iload_n 1, 1, 0, 0, 0, 0), (116, .iadd, 1, 0, 0, 0, 0), (117, .bipush 6, 2, 0, 0, 0, 0), (119, .irem, 1, 0, 0, 0, 0), (120, .aload_n 0, 1, 0, 0, 0, 0), (121, .getfield 22, 3, 9, 7, 0, 738), (124, .iconst 5, 1, 0, 0, 0, 0), (125, .iload 4, 2, 0, 0, 0, 0), (127, .imul, 1, 0, 0, 0, 0)],
  [(128, .iload 6, 2, 0, 0, 0, 0), (130, .iadd, 1, 0, 0, 0, 0), (131, .iaload, 1, 0, 0, 0, 0), (132, .if_icmp .ne 7, 3, 0, 0, 0, 0), (135, .iconst 1, 1, 0, 0, 0, 0), (136, .goto 4, 3, 0, 0, 0, 0), (139, .iconst 0, 1, 0, 0, 0, 0), (140, .istore 5, 2, 0, 0, 0, 0), (142, .iinc 6 1, 3, 0, 0, 0, 0)],
  [(145, .goto (-57), 3, 0, 0, 0, 0), (148, .iload_n 2, 1, 0, 0, 0, 0), (149, .iload 5, 2, 0, 0, 0, 0), (151, .ifCond .eq 7, 3, 0, 0, 0, 0), (154, .iconst 1, 1, 0, 0, 0, 0), (155, .goto 4, 3, 0, 0, 0, 0), (158, .iconst 0, 1, 0, 0, 0, 0), (159, .iadd, 1, 0, 0, 0, 0)],
  [(160, .istore_n 2, 1, 0, 0, 0, 0), (161, .iinc 4 1, 3, 0, 0, 0, 0), (164, .goto (-134), 3, 0, 0, 0, 0), (167, .iinc 3 1, 3, 0, 0, 0, 0), (170, .goto (-151), 3, 0, 0, 0, 0), (173, .iload_n 2, 1, 0, 0, 0, 0), (174, .ireturn, 1, 0, 0, 0, 0)]]
def iv_k164 : List (List ivE) := [[(0, .iload_n 1, 1, 0, 0, 0, 0), (1, .i2l, 1, 0, 0, 0, 0), (2, .lconst 0, 1, 0, 0, 0, 0), (3, .lconst 1, 1, 0, 0, 0, 0), (4, .invokestatic 92, 3, 109, 3, 0, 849), (7, .ifCond .ne 5, 3, 0, 0, 0, 0), (10, .iconst (-1), 1, 0, 0, 0, 0), (11, .ireturn, 1, 0, 0, 0, 0), (12, .aload_n 0, 1, 0, 0, 0, 0), (13, .getfield 68, 3, 9, 31, 0, 762)],
  [(16, .iload_n 1, 1, 0, 0, 0, 0), (17, .iconst 1, 1, 0, 0, 0, 0), (18, .bastore, 1, 0, 0, 0, 0), (19, .iconst 0, 1, 0, 0, 0, 0), (20, .istore_n 2, 1, 0, 0, 0, 0), (21, .iload_n 2, 1, 0, 0, 0, 0), (22, .bipush 40, 2, 0, 0, 0, 0), (24, .if_icmp .ge 26, 3, 0, 0, 0, 0), (27, .aload_n 0, 1, 0, 0, 0, 0), (28, .getfield 71, 3, 9, 32, 0, 763), (31, .bipush 40, 2, 0, 0, 0, 0)],
  [(33, .iload_n 1, 1, 0, 0, 0, 0), (34, .imul, 1, 0, 0, 0, 0), (35, .iload_n 2, 1, 0, 0, 0, 0), (36, .iadd, 1, 0, 0, 0, 0), (37, .aload_n 0, 1, 0, 0, 0, 0), (38, .getfield 22, 3, 9, 7, 0, 738), (41, .iload_n 2, 1, 0, 0, 0, 0), (42, .iaload, 1, 0, 0, 0, 0), (43, .iastore, 1, 0, 0, 0, 0), (44, .iinc 2 1, 3, 0, 0, 0, 0), (47, .goto (-26), 3, 0, 0, 0, 0)],
  [(50, .iconst 0, 1, 0, 0, 0, 0), (51, .istore_n 2, 1, 0, 0, 0, 0), (52, .iload_n 2, 1, 0, 0, 0, 0), (53, .bipush 8, 2, 0, 0, 0, 0), (55, .if_icmp .ge 60, 3, 0, 0, 0, 0), (58, .aload_n 0, 1, 0, 0, 0, 0), (59, .getfield 74, 3, 9, 33, 0, 764), (62, .bipush 8, 2, 0, 0, 0, 0)],
  [(64, .iload_n 1, 1, 0, 0, 0, 0), (65, .imul, 1, 0, 0, 0, 0), (66, .iload_n 2, 1, 0, 0, 0, 0), (67, .iadd, 1, 0, 0, 0, 0), (68, .aload_n 0, 1, 0, 0, 0, 0), (69, .getfield 25, 3, 9, 8, 0, 739), (72, .iload_n 2, 1, 0, 0, 0, 0), (73, .iaload, 1, 0, 0, 0, 0), (74, .iastore, 1, 0, 0, 0, 0), (75, .aload_n 0, 1, 0, 0, 0, 0), (76, .getfield 77, 3, 9, 34, 0, 765), (79, .bipush 8, 2, 0, 0, 0, 0)],
  [(81, .iload_n 1, 1, 0, 0, 0, 0), (82, .imul, 1, 0, 0, 0, 0), (83, .iload_n 2, 1, 0, 0, 0, 0), (84, .iadd, 1, 0, 0, 0, 0), (85, .aload_n 0, 1, 0, 0, 0, 0), (86, .getfield 28, 3, 9, 9, 0, 740), (89, .iload_n 2, 1, 0, 0, 0, 0), (90, .iaload, 1, 0, 0, 0, 0), (91, .iastore, 1, 0, 0, 0, 0), (92, .aload_n 0, 1, 0, 0, 0, 0), (93, .getfield 80, 3, 9, 35, 0, 766)],
  [(96, .bipush 8, 2, 0, 0, 0, 0), (98, .iload_n 1, 1, 0, 0, 0, 0), (99, .imul, 1, 0, 0, 0, 0), (100, .iload_n 2, 1, 0, 0, 0, 0), (101, .iadd, 1, 0, 0, 0, 0), (102, .aload_n 0, 1, 0, 0, 0, 0), (103, .getfield 31, 3, 9, 10, 0, 741), (106, .iload_n 2, 1, 0, 0, 0, 0), (107, .iaload, 1, 0, 0, 0, 0), (108, .iastore, 1, 0, 0, 0, 0), (109, .iinc 2 1, 3, 0, 0, 0, 0)],
  [(112, .goto (-60), 3, 0, 0, 0, 0), (115, .aload_n 0, 1, 0, 0, 0, 0), (116, .getfield 83, 3, 9, 36, 0, 767), (119, .iload_n 1, 1, 0, 0, 0, 0), (120, .aload_n 0, 1, 0, 0, 0, 0), (121, .getfield 155, 3, 9, 15, 0, 746), (124, .iastore, 1, 0, 0, 0, 0), (125, .aload_n 0, 1, 0, 0, 0, 0), (126, .getfield 155, 3, 9, 15, 0, 746)],
  [(129, .ireturn, 1, 0, 0, 0, 0)]]
def iv_k165 : List (List ivE) := [[(0, .iload_n 1, 1, 0, 0, 0, 0), (1, .i2l, 1, 0, 0, 0, 0), (2, .lconst 0, 1, 0, 0, 0, 0), (3, .lconst 1, 1, 0, 0, 0, 0), (4, .invokestatic 92, 3, 109, 3, 0, 849), (7, .ifCond .ne 5, 3, 0, 0, 0, 0), (10, .iconst (-1), 1, 0, 0, 0, 0), (11, .ireturn, 1, 0, 0, 0, 0), (12, .aload_n 0, 1, 0, 0, 0, 0), (13, .getfield 68, 3, 9, 31, 0, 762)],
  [(16, .iload_n 1, 1, 0, 0, 0, 0), (17, .baload, 1, 0, 0, 0, 0), (18, .ifCond .ne 6, 3, 0, 0, 0, 0), (21, .bipush (-3), 2, 0, 0, 0, 0), (23, .ireturn, 1, 0, 0, 0, 0), (24, .iconst 0, 1, 0, 0, 0, 0), (25, .istore_n 2, 1, 0, 0, 0, 0), (26, .iload_n 2, 1, 0, 0, 0, 0), (27, .bipush 40, 2, 0, 0, 0, 0), (29, .if_icmp .ge 26, 3, 0, 0, 0, 0)],
  [(32, .aload_n 0, 1, 0, 0, 0, 0), (33, .getfield 22, 3, 9, 7, 0, 738), (36, .iload_n 2, 1, 0, 0, 0, 0), (37, .aload_n 0, 1, 0, 0, 0, 0), (38, .getfield 71, 3, 9, 32, 0, 763), (41, .bipush 40, 2, 0, 0, 0, 0), (43, .iload_n 1, 1, 0, 0, 0, 0), (44, .imul, 1, 0, 0, 0, 0), (45, .iload_n 2, 1, 0, 0, 0, 0), (46, .iadd, 1, 0, 0, 0, 0), (47, .iaload, 1, 0, 0, 0, 0)],
  [(48, .iastore, 1, 0, 0, 0, 0), (49, .iinc 2 1, 3, 0, 0, 0, 0), (52, .goto (-26), 3, 0, 0, 0, 0), (55, .iconst 0, 1, 0, 0, 0, 0), (56, .istore_n 2, 1, 0, 0, 0, 0), (57, .iload_n 2, 1, 0, 0, 0, 0), (58, .bipush 8, 2, 0, 0, 0, 0), (60, .if_icmp .ge 60, 3, 0, 0, 0, 0), (63, .aload_n 0, 1, 0, 0, 0, 0)],
  [(64, .getfield 25, 3, 9, 8, 0, 739), (67, .iload_n 2, 1, 0, 0, 0, 0), (68, .aload_n 0, 1, 0, 0, 0, 0), (69, .getfield 74, 3, 9, 33, 0, 764), (72, .bipush 8, 2, 0, 0, 0, 0), (74, .iload_n 1, 1, 0, 0, 0, 0), (75, .imul, 1, 0, 0, 0, 0), (76, .iload_n 2, 1, 0, 0, 0, 0), (77, .iadd, 1, 0, 0, 0, 0), (78, .iaload, 1, 0, 0, 0, 0), (79, .iastore, 1, 0, 0, 0, 0)],
  [(80, .aload_n 0, 1, 0, 0, 0, 0), (81, .getfield 28, 3, 9, 9, 0, 740), (84, .iload_n 2, 1, 0, 0, 0, 0), (85, .aload_n 0, 1, 0, 0, 0, 0), (86, .getfield 77, 3, 9, 34, 0, 765), (89, .bipush 8, 2, 0, 0, 0, 0), (91, .iload_n 1, 1, 0, 0, 0, 0), (92, .imul, 1, 0, 0, 0, 0), (93, .iload_n 2, 1, 0, 0, 0, 0), (94, .iadd, 1, 0, 0, 0, 0), (95, .iaload, 1, 0, 0, 0, 0)],
  [(96, .iastore, 1, 0, 0, 0, 0), (97, .aload_n 0, 1, 0, 0, 0, 0), (98, .getfield 31, 3, 9, 10, 0, 741), (101, .iload_n 2, 1, 0, 0, 0, 0), (102, .aload_n 0, 1, 0, 0, 0, 0), (103, .getfield 80, 3, 9, 35, 0, 766), (106, .bipush 8, 2, 0, 0, 0, 0), (108, .iload_n 1, 1, 0, 0, 0, 0), (109, .imul, 1, 0, 0, 0, 0), (110, .iload_n 2, 1, 0, 0, 0, 0), (111, .iadd, 1, 0, 0, 0, 0)],
  [(112, .iaload, 1, 0, 0, 0, 0), (113, .iastore, 1, 0, 0, 0, 0), (114, .iinc 2 1, 3, 0, 0, 0, 0), (117, .goto (-60), 3, 0, 0, 0, 0), (120, .aload_n 0, 1, 0, 0, 0, 0), (121, .aload_n 0, 1, 0, 0, 0, 0), (122, .getfield 83, 3, 9, 36, 0, 767), (125, .iload_n 1, 1, 0, 0, 0, 0), (126, .iaload, 1, 0, 0, 0, 0), (127, .putfield 155, 3, 9, 15, 0, 746)],
  [(130, .aload_n 0, 1, 0, 0, 0, 0), (131, .getfield 155, 3, 9, 15, 0, 746), (134, .ireturn, 1, 0, 0, 0, 0)]]
def iv_k166 : List (List ivE) := [[(0, .iconst 0, 1, 0, 0, 0, 0), (1, .istore_n 2, 1, 0, 0, 0, 0), (2, .iconst 0, 1, 0, 0, 0, 0), (3, .istore_n 3, 1, 0, 0, 0, 0), (4, .iload_n 3, 1, 0, 0, 0, 0), (5, .aload_n 0, 1, 0, 0, 0, 0), (6, .getfield 149, 3, 9, 13, 0, 744), (9, .if_icmp .ge 18, 3, 0, 0, 0, 0), (12, .iload_n 2, 1, 0, 0, 0, 0), (13, .aload_n 0, 1, 0, 0, 0, 0), (14, .getfield 25, 3, 9, 8, 0, 739)],
  [(17, .iload_n 3, 1, 0, 0, 0, 0), (18, .iaload, 1, 0, 0, 0, 0), (19, .iadd, 1, 0, 0, 0, 0), (20, .istore_n 2, 1, 0, 0, 0, 0), (21, .iinc 3 1, 3, 0, 0, 0, 0), (24, .goto (-20), 3, 0, 0, 0, 0), (27, .iload_n 1, 1, 0, 0, 0, 0), (28, .tableswitch 119 0 7 #[48, 53, 58, 63, 68, 73, 78, 117], 48, 0, 0, 0, 0)],
  [],
  [],
  [(76, .aload_n 0, 1, 0, 0, 0, 0), (77, .getfield 96, 3, 9, 17, 0, 748)],
  [(80, .ireturn, 1, 0, 0, 0, 0), (81, .aload_n 0, 1, 0, 0, 0, 0), (82, .getfield 149, 3, 9, 13, 0, 744), (85, .ireturn, 1, 0, 0, 0, 0), (86, .aload_n 0, 1, 0, 0, 0, 0), (87, .getfield 152, 3, 9, 14, 0, 745), (90, .ireturn, 1, 0, 0, 0, 0), (91, .aload_n 0, 1, 0, 0, 0, 0), (92, .getfield 86, 3, 9, 12, 0, 743), (95, .ireturn, 1, 0, 0, 0, 0)],
  [(96, .aload_n 0, 1, 0, 0, 0, 0), (97, .getfield 155, 3, 9, 15, 0, 746), (100, .ireturn, 1, 0, 0, 0, 0), (101, .aload_n 0, 1, 0, 0, 0, 0), (102, .getfield 218, 3, 9, 26, 0, 757), (105, .ireturn, 1, 0, 0, 0, 0), (106, .iconst 0, 1, 0, 0, 0, 0), (107, .istore_n 3, 1, 0, 0, 0, 0), (108, .iconst 0, 1, 0, 0, 0, 0), (109, .istore 4, 2, 0, 0, 0, 0), (111, .iload 4, 2, 0, 0, 0, 0)],
  [(113, .aload_n 0, 1, 0, 0, 0, 0), (114, .getfield 149, 3, 9, 13, 0, 744), (117, .if_icmp .ge 26, 3, 0, 0, 0, 0), (120, .iload_n 3, 1, 0, 0, 0, 0), (121, .aload_n 0, 1, 0, 0, 0, 0), (122, .iload 4, 2, 0, 0, 0, 0), (124, .invokevirtual 176, 3, 129, 2, 0, 927), (127, .ifCond .eq 7, 3, 0, 0, 0, 0)],
  [(130, .iconst 1, 1, 0, 0, 0, 0), (131, .goto 4, 3, 0, 0, 0, 0), (134, .iconst 0, 1, 0, 0, 0, 0), (135, .iadd, 1, 0, 0, 0, 0), (136, .istore_n 3, 1, 0, 0, 0, 0), (137, .iinc 4 1, 3, 0, 0, 0, 0), (140, .goto (-29), 3, 0, 0, 0, 0), (143, .iload_n 3, 1, 0, 0, 0, 0)],
  [(144, .ireturn, 1, 0, 0, 0, 0), (145, .iload_n 2, 1, 0, 0, 0, 0), (146, .ireturn, 1, 0, 0, 0, 0), (147, .bipush (-2), 2, 0, 0, 0, 0), (149, .ireturn, 1, 0, 0, 0, 0)]]
def iv_k167 : List (List ivE) := [[(0, .iload_n 0, 1, 0, 0, 0, 0), (1, .iload_n 0, 1, 0, 0, 0, 0), (2, .iconst 1, 1, 0, 0, 0, 0), (3, .iushr, 1, 0, 0, 0, 0), (4, .ldc_w 265, 3, 0, 0, 1431655765, 669), (7, .iand, 1, 0, 0, 0, 0), (8, .isub, 1, 0, 0, 0, 0), (9, .istore_n 0, 1, 0, 0, 0, 0), (10, .iload_n 0, 1, 0, 0, 0, 0), (11, .ldc_w 266, 3, 0, 0, 858993459, 670), (14, .iand, 1, 0, 0, 0, 0), (15, .iload_n 0, 1, 0, 0, 0, 0)],
  [(16, .iconst 2, 1, 0, 0, 0, 0), (17, .iushr, 1, 0, 0, 0, 0), (18, .ldc_w 266, 3, 0, 0, 858993459, 670), (21, .iand, 1, 0, 0, 0, 0), (22, .iadd, 1, 0, 0, 0, 0), (23, .istore_n 0, 1, 0, 0, 0, 0), (24, .iload_n 0, 1, 0, 0, 0, 0), (25, .iload_n 0, 1, 0, 0, 0, 0), (26, .iconst 4, 1, 0, 0, 0, 0), (27, .iushr, 1, 0, 0, 0, 0), (28, .iadd, 1, 0, 0, 0, 0), (29, .ldc_w 267, 3, 0, 0, 252645135, 671)],
  [(32, .iand, 1, 0, 0, 0, 0), (33, .istore_n 0, 1, 0, 0, 0, 0), (34, .iload_n 0, 1, 0, 0, 0, 0), (35, .iload_n 0, 1, 0, 0, 0, 0), (36, .bipush 8, 2, 0, 0, 0, 0), (38, .iushr, 1, 0, 0, 0, 0), (39, .iadd, 1, 0, 0, 0, 0), (40, .istore_n 0, 1, 0, 0, 0, 0), (41, .iload_n 0, 1, 0, 0, 0, 0), (42, .iload_n 0, 1, 0, 0, 0, 0), (43, .bipush 16, 2, 0, 0, 0, 0), (45, .iushr, 1, 0, 0, 0, 0), (46, .iadd, 1, 0, 0, 0, 0), (47, .istore_n 0, 1, 0, 0, 0, 0)],
  [(48, .iload_n 0, 1, 0, 0, 0, 0), (49, .bipush 63, 2, 0, 0, 0, 0), (51, .iand, 1, 0, 0, 0, 0), (52, .ireturn, 1, 0, 0, 0, 0)]]
def iv_k168 : List (List ivE) := [[(0, .iload_n 0, 1, 0, 0, 0, 0), (1, .iload_n 1, 1, 0, 0, 0, 0), (2, .if_icmp .lt 7, 3, 0, 0, 0, 0), (5, .iload_n 0, 1, 0, 0, 0, 0), (6, .goto 4, 3, 0, 0, 0, 0), (9, .iload_n 1, 1, 0, 0, 0, 0), (10, .ireturn, 1, 0, 0, 0, 0)]]
def iv_k169 : List (List ivE) := [[(0, .iload_n 0, 1, 0, 0, 0, 0), (1, .iload_n 1, 1, 0, 0, 0, 0), (2, .if_icmp .gt 7, 3, 0, 0, 0, 0), (5, .iload_n 0, 1, 0, 0, 0, 0), (6, .goto 4, 3, 0, 0, 0, 0), (9, .iload_n 1, 1, 0, 0, 0, 0), (10, .ireturn, 1, 0, 0, 0, 0)]]
def iv_k170 : List (List ivE) := [[(0, .new 7, 3, 8, 0, 0, 72), (3, .dup, 1, 0, 0, 0, 0), (4, .invokespecial 9, 3, 66, 1, 0, 74), (7, .astore_n 1, 1, 0, 0, 0, 0), (8, .new 10, 3, 9, 0, 0, 725), (11, .dup, 1, 0, 0, 0, 0), (12, .invokespecial 12, 3, 108, 1, 0, 727), (15, .astore_n 2, 1, 0, 0, 0, 0)],
  [(16, .iconst 0, 1, 0, 0, 0, 0), (17, .istore_n 3, 1, 0, 0, 0, 0), (18, .iload_n 3, 1, 0, 0, 0, 0), (19, .aload_n 0, 1, 0, 0, 0, 0), (20, .arraylength, 1, 0, 0, 0, 0), (21, .iconst 4, 1, 0, 0, 0, 0), (22, .isub, 1, 0, 0, 0, 0), (23, .if_icmp .gt 978, 3, 0, 0, 0, 0), (26, .aload_n 0, 1, 0, 0, 0, 0), (27, .iload_n 3, 1, 0, 0, 0, 0), (28, .iaload, 1, 0, 0, 0, 0), (29, .bipush 31, 2, 0, 0, 0, 0), (31, .iand, 1, 0, 0, 0, 0)],
  [(32, .tableswitch 963 0 30 #[140, 203, 216, 229, 242, 275, 308, 331, 354, 367, 390, 413, 456, 499, 522, 555, 578, 611, 644, 667, 690, 723, 746, 779, 792, 815, 848, 871, 894, 917, 940], 140, 0, 0, 0, 0)],
  [],
  [],
  [],
  [],
  [],
  [],
  [],
  [(172, .aload_n 1, 1, 0, 0, 0, 0), (173, .aload_n 0, 1, 0, 0, 0, 0), (174, .iload_n 3, 1, 0, 0, 0, 0), (175, .iconst 1, 1, 0, 0, 0, 0)],
  [(176, .iadd, 1, 0, 0, 0, 0), (177, .iaload, 1, 0, 0, 0, 0), (178, .aload_n 0, 1, 0, 0, 0, 0), (179, .iload_n 3, 1, 0, 0, 0, 0), (180, .iconst 2, 1, 0, 0, 0, 0), (181, .iadd, 1, 0, 0, 0, 0), (182, .iaload, 1, 0, 0, 0, 0), (183, .i2l, 1, 0, 0, 0, 0), (184, .bipush 32, 2, 0, 0, 0, 0), (186, .lshl, 1, 0, 0, 0, 0), (187, .aload_n 0, 1, 0, 0, 0, 0), (188, .iload_n 3, 1, 0, 0, 0, 0), (189, .iconst 3, 1, 0, 0, 0, 0), (190, .iadd, 1, 0, 0, 0, 0), (191, .iaload, 1, 0, 0, 0, 0)],
  [(192, .i2l, 1, 0, 0, 0, 0), (193, .ldc2_w 13, 3, 0, 0, 4294967295, 1082), (196, .land, 1, 0, 0, 0, 0), (197, .lor, 1, 0, 0, 0, 0), (198, .invokevirtual 15, 3, 67, 3, 0, 306), (201, .aload_n 2, 1, 0, 0, 0, 0), (202, .aload_n 0, 1, 0, 0, 0, 0), (203, .iload_n 3, 1, 0, 0, 0, 0), (204, .iconst 1, 1, 0, 0, 0, 0), (205, .iadd, 1, 0, 0, 0, 0), (206, .iaload, 1, 0, 0, 0, 0), (207, .aload_n 0, 1, 0, 0, 0, 0)],
  [(208, .iload_n 3, 1, 0, 0, 0, 0), (209, .iconst 2, 1, 0, 0, 0, 0), (210, .iadd, 1, 0, 0, 0, 0), (211, .iaload, 1, 0, 0, 0, 0), (212, .i2l, 1, 0, 0, 0, 0), (213, .bipush 32, 2, 0, 0, 0, 0), (215, .lshl, 1, 0, 0, 0, 0), (216, .aload_n 0, 1, 0, 0, 0, 0), (217, .iload_n 3, 1, 0, 0, 0, 0), (218, .iconst 3, 1, 0, 0, 0, 0), (219, .iadd, 1, 0, 0, 0, 0), (220, .iaload, 1, 0, 0, 0, 0), (221, .i2l, 1, 0, 0, 0, 0), (222, .ldc2_w 13, 3, 0, 0, 4294967295, 1082)],
  [(225, .land, 1, 0, 0, 0, 0), (226, .lor, 1, 0, 0, 0, 0), (227, .invokevirtual 19, 3, 110, 3, 0, 844), (230, .if_icmp .eq 765, 3, 0, 0, 0, 0), (233, .iconst 0, 1, 0, 0, 0, 0), (234, .ireturn, 1, 0, 0, 0, 0), (235, .aload_n 1, 1, 0, 0, 0, 0), (236, .invokevirtual 20, 3, 68, 1, 0, 314), (239, .aload_n 2, 1, 0, 0, 0, 0)],
  [(240, .invokevirtual 24, 3, 111, 1, 0, 853), (243, .if_icmp .eq 752, 3, 0, 0, 0, 0), (246, .iconst 0, 1, 0, 0, 0, 0), (247, .ireturn, 1, 0, 0, 0, 0), (248, .aload_n 1, 1, 0, 0, 0, 0), (249, .invokevirtual 25, 3, 69, 1, 0, 318), (252, .aload_n 2, 1, 0, 0, 0, 0), (253, .invokevirtual 28, 3, 120, 1, 0, 857)],
  [(256, .if_icmp .eq 739, 3, 0, 0, 0, 0), (259, .iconst 0, 1, 0, 0, 0, 0), (260, .ireturn, 1, 0, 0, 0, 0), (261, .aload_n 1, 1, 0, 0, 0, 0), (262, .invokevirtual 29, 3, 70, 1, 0, 380), (265, .aload_n 2, 1, 0, 0, 0, 0), (266, .invokevirtual 32, 3, 121, 1, 0, 896), (269, .if_icmp .eq 726, 3, 0, 0, 0, 0)],
  [(272, .iconst 0, 1, 0, 0, 0, 0), (273, .ireturn, 1, 0, 0, 0, 0), (274, .aload_n 1, 1, 0, 0, 0, 0), (275, .aload_n 0, 1, 0, 0, 0, 0), (276, .iload_n 3, 1, 0, 0, 0, 0), (277, .iconst 1, 1, 0, 0, 0, 0), (278, .iadd, 1, 0, 0, 0, 0), (279, .iaload, 1, 0, 0, 0, 0), (280, .aload_n 0, 1, 0, 0, 0, 0), (281, .iload_n 3, 1, 0, 0, 0, 0), (282, .iconst 2, 1, 0, 0, 0, 0), (283, .iadd, 1, 0, 0, 0, 0), (284, .iaload, 1, 0, 0, 0, 0), (285, .invokevirtual 33, 3, 71, 3, 0, 396)],
  [(288, .aload_n 2, 1, 0, 0, 0, 0), (289, .aload_n 0, 1, 0, 0, 0, 0), (290, .iload_n 3, 1, 0, 0, 0, 0), (291, .iconst 1, 1, 0, 0, 0, 0), (292, .iadd, 1, 0, 0, 0, 0), (293, .iaload, 1, 0, 0, 0, 0), (294, .aload_n 0, 1, 0, 0, 0, 0), (295, .iload_n 3, 1, 0, 0, 0, 0), (296, .iconst 2, 1, 0, 0, 0, 0), (297, .iadd, 1, 0, 0, 0, 0), (298, .iaload, 1, 0, 0, 0, 0), (299, .invokevirtual 37, 3, 124, 3, 0, 900), (302, .if_icmp .eq 693, 3, 0, 0, 0, 0)],
  [(305, .iconst 0, 1, 0, 0, 0, 0), (306, .ireturn, 1, 0, 0, 0, 0), (307, .aload_n 1, 1, 0, 0, 0, 0), (308, .aload_n 0, 1, 0, 0, 0, 0), (309, .iload_n 3, 1, 0, 0, 0, 0), (310, .iconst 1, 1, 0, 0, 0, 0), (311, .iadd, 1, 0, 0, 0, 0), (312, .iaload, 1, 0, 0, 0, 0), (313, .aload_n 0, 1, 0, 0, 0, 0), (314, .iload_n 3, 1, 0, 0, 0, 0), (315, .iconst 2, 1, 0, 0, 0, 0), (316, .iadd, 1, 0, 0, 0, 0), (317, .iaload, 1, 0, 0, 0, 0), (318, .invokevirtual 38, 3, 72, 3, 0, 407)],
  [(321, .aload_n 2, 1, 0, 0, 0, 0), (322, .aload_n 0, 1, 0, 0, 0, 0), (323, .iload_n 3, 1, 0, 0, 0, 0), (324, .iconst 1, 1, 0, 0, 0, 0), (325, .iadd, 1, 0, 0, 0, 0), (326, .iaload, 1, 0, 0, 0, 0), (327, .aload_n 0, 1, 0, 0, 0, 0), (328, .iload_n 3, 1, 0, 0, 0, 0), (329, .iconst 2, 1, 0, 0, 0, 0), (330, .iadd, 1, 0, 0, 0, 0), (331, .iaload, 1, 0, 0, 0, 0), (332, .invokevirtual 41, 3, 128, 3, 0, 908), (335, .if_icmp .eq 660, 3, 0, 0, 0, 0)],
  [(338, .iconst 0, 1, 0, 0, 0, 0), (339, .ireturn, 1, 0, 0, 0, 0), (340, .aload_n 1, 1, 0, 0, 0, 0), (341, .aload_n 0, 1, 0, 0, 0, 0), (342, .iload_n 3, 1, 0, 0, 0, 0), (343, .iconst 1, 1, 0, 0, 0, 0), (344, .iadd, 1, 0, 0, 0, 0), (345, .iaload, 1, 0, 0, 0, 0), (346, .invokevirtual 42, 3, 73, 2, 0, 430), (349, .aload_n 2, 1, 0, 0, 0, 0), (350, .aload_n 0, 1, 0, 0, 0, 0), (351, .iload_n 3, 1, 0, 0, 0, 0)],
  [(352, .iconst 1, 1, 0, 0, 0, 0), (353, .iadd, 1, 0, 0, 0, 0), (354, .iaload, 1, 0, 0, 0, 0), (355, .invokevirtual 46, 3, 131, 2, 0, 923), (358, .if_icmp .eq 637, 3, 0, 0, 0, 0), (361, .iconst 0, 1, 0, 0, 0, 0), (362, .ireturn, 1, 0, 0, 0, 0), (363, .aload_n 1, 1, 0, 0, 0, 0), (364, .aload_n 0, 1, 0, 0, 0, 0), (365, .iload_n 3, 1, 0, 0, 0, 0), (366, .iconst 1, 1, 0, 0, 0, 0), (367, .iadd, 1, 0, 0, 0, 0)],
  [(368, .iaload, 1, 0, 0, 0, 0), (369, .invokevirtual 47, 3, 74, 2, 0, 448), (372, .aload_n 2, 1, 0, 0, 0, 0), (373, .aload_n 0, 1, 0, 0, 0, 0), (374, .iload_n 3, 1, 0, 0, 0, 0), (375, .iconst 1, 1, 0, 0, 0, 0), (376, .iadd, 1, 0, 0, 0, 0), (377, .iaload, 1, 0, 0, 0, 0), (378, .invokevirtual 50, 3, 132, 2, 0, 935), (381, .if_icmp .eq 614, 3, 0, 0, 0, 0)],
  [(384, .iconst 0, 1, 0, 0, 0, 0), (385, .ireturn, 1, 0, 0, 0, 0), (386, .aload_n 1, 1, 0, 0, 0, 0), (387, .invokevirtual 51, 3, 75, 1, 0, 452), (390, .aload_n 2, 1, 0, 0, 0, 0), (391, .invokevirtual 54, 3, 134, 1, 0, 939), (394, .if_icmp .eq 601, 3, 0, 0, 0, 0), (397, .iconst 0, 1, 0, 0, 0, 0), (398, .ireturn, 1, 0, 0, 0, 0), (399, .aload_n 1, 1, 0, 0, 0, 0)],
  [(400, .aload_n 0, 1, 0, 0, 0, 0), (401, .iload_n 3, 1, 0, 0, 0, 0), (402, .iconst 1, 1, 0, 0, 0, 0), (403, .iadd, 1, 0, 0, 0, 0), (404, .iaload, 1, 0, 0, 0, 0), (405, .invokevirtual 55, 3, 76, 2, 0, 456), (408, .aload_n 2, 1, 0, 0, 0, 0), (409, .aload_n 0, 1, 0, 0, 0, 0), (410, .iload_n 3, 1, 0, 0, 0, 0), (411, .iconst 1, 1, 0, 0, 0, 0), (412, .iadd, 1, 0, 0, 0, 0), (413, .iaload, 1, 0, 0, 0, 0), (414, .invokevirtual 58, 3, 135, 2, 0, 947)],
  [(417, .if_icmp .eq 578, 3, 0, 0, 0, 0), (420, .iconst 0, 1, 0, 0, 0, 0), (421, .ireturn, 1, 0, 0, 0, 0), (422, .aload_n 1, 1, 0, 0, 0, 0), (423, .aload_n 0, 1, 0, 0, 0, 0), (424, .iload_n 3, 1, 0, 0, 0, 0), (425, .iconst 1, 1, 0, 0, 0, 0), (426, .iadd, 1, 0, 0, 0, 0), (427, .iaload, 1, 0, 0, 0, 0), (428, .invokevirtual 59, 3, 77, 2, 0, 466), (431, .aload_n 2, 1, 0, 0, 0, 0)],
  [(432, .aload_n 0, 1, 0, 0, 0, 0), (433, .iload_n 3, 1, 0, 0, 0, 0), (434, .iconst 1, 1, 0, 0, 0, 0), (435, .iadd, 1, 0, 0, 0, 0), (436, .iaload, 1, 0, 0, 0, 0), (437, .invokevirtual 62, 3, 136, 2, 0, 952), (440, .if_icmp .eq 555, 3, 0, 0, 0, 0), (443, .iconst 0, 1, 0, 0, 0, 0), (444, .ireturn, 1, 0, 0, 0, 0), (445, .aload_n 1, 1, 0, 0, 0, 0), (446, .aload_n 0, 1, 0, 0, 0, 0), (447, .iload_n 3, 1, 0, 0, 0, 0)],
  [(448, .iconst 1, 1, 0, 0, 0, 0), (449, .iadd, 1, 0, 0, 0, 0), (450, .iaload, 1, 0, 0, 0, 0), (451, .aload_n 0, 1, 0, 0, 0, 0), (452, .iload_n 3, 1, 0, 0, 0, 0), (453, .iconst 2, 1, 0, 0, 0, 0), (454, .iadd, 1, 0, 0, 0, 0), (455, .iaload, 1, 0, 0, 0, 0), (456, .aload_n 0, 1, 0, 0, 0, 0), (457, .iload_n 3, 1, 0, 0, 0, 0), (458, .iconst 3, 1, 0, 0, 0, 0), (459, .iadd, 1, 0, 0, 0, 0), (460, .iaload, 1, 0, 0, 0, 0), (461, .invokevirtual 63, 3, 78, 4, 0, 470)],
  [(464, .aload_n 2, 1, 0, 0, 0, 0), (465, .aload_n 0, 1, 0, 0, 0, 0), (466, .iload_n 3, 1, 0, 0, 0, 0), (467, .iconst 1, 1, 0, 0, 0, 0), (468, .iadd, 1, 0, 0, 0, 0), (469, .iaload, 1, 0, 0, 0, 0), (470, .aload_n 0, 1, 0, 0, 0, 0), (471, .iload_n 3, 1, 0, 0, 0, 0), (472, .iconst 2, 1, 0, 0, 0, 0), (473, .iadd, 1, 0, 0, 0, 0), (474, .iaload, 1, 0, 0, 0, 0), (475, .aload_n 0, 1, 0, 0, 0, 0), (476, .iload_n 3, 1, 0, 0, 0, 0), (477, .iconst 3, 1, 0, 0, 0, 0), (478, .iadd, 1, 0, 0, 0, 0), (479, .iaload, 1, 0, 0, 0, 0)],
  [(480, .invokevirtual 67, 3, 138, 4, 0, 956), (483, .if_icmp .eq 512, 3, 0, 0, 0, 0), (486, .iconst 0, 1, 0, 0, 0, 0), (487, .ireturn, 1, 0, 0, 0, 0), (488, .aload_n 1, 1, 0, 0, 0, 0), (489, .aload_n 0, 1, 0, 0, 0, 0), (490, .iload_n 3, 1, 0, 0, 0, 0), (491, .iconst 1, 1, 0, 0, 0, 0), (492, .iadd, 1, 0, 0, 0, 0), (493, .iaload, 1, 0, 0, 0, 0), (494, .aload_n 0, 1, 0, 0, 0, 0), (495, .iload_n 3, 1, 0, 0, 0, 0)],
  [(496, .iconst 2, 1, 0, 0, 0, 0), (497, .iadd, 1, 0, 0, 0, 0), (498, .iaload, 1, 0, 0, 0, 0), (499, .aload_n 0, 1, 0, 0, 0, 0), (500, .iload_n 3, 1, 0, 0, 0, 0), (501, .iconst 3, 1, 0, 0, 0, 0), (502, .iadd, 1, 0, 0, 0, 0), (503, .iaload, 1, 0, 0, 0, 0), (504, .invokevirtual 68, 3, 79, 4, 0, 482), (507, .aload_n 2, 1, 0, 0, 0, 0), (508, .aload_n 0, 1, 0, 0, 0, 0), (509, .iload_n 3, 1, 0, 0, 0, 0), (510, .iconst 1, 1, 0, 0, 0, 0), (511, .iadd, 1, 0, 0, 0, 0)],
  [(512, .iaload, 1, 0, 0, 0, 0), (513, .aload_n 0, 1, 0, 0, 0, 0), (514, .iload_n 3, 1, 0, 0, 0, 0), (515, .iconst 2, 1, 0, 0, 0, 0), (516, .iadd, 1, 0, 0, 0, 0), (517, .iaload, 1, 0, 0, 0, 0), (518, .aload_n 0, 1, 0, 0, 0, 0), (519, .iload_n 3, 1, 0, 0, 0, 0), (520, .iconst 3, 1, 0, 0, 0, 0), (521, .iadd, 1, 0, 0, 0, 0), (522, .iaload, 1, 0, 0, 0, 0), (523, .invokevirtual 71, 3, 139, 4, 0, 968), (526, .if_icmp .eq 469, 3, 0, 0, 0, 0)],
  [(529, .iconst 0, 1, 0, 0, 0, 0), (530, .ireturn, 1, 0, 0, 0, 0), (531, .aload_n 1, 1, 0, 0, 0, 0), (532, .aload_n 0, 1, 0, 0, 0, 0), (533, .iload_n 3, 1, 0, 0, 0, 0), (534, .iconst 1, 1, 0, 0, 0, 0), (535, .iadd, 1, 0, 0, 0, 0), (536, .iaload, 1, 0, 0, 0, 0), (537, .invokevirtual 72, 3, 80, 2, 0, 486), (540, .aload_n 2, 1, 0, 0, 0, 0), (541, .aload_n 0, 1, 0, 0, 0, 0), (542, .iload_n 3, 1, 0, 0, 0, 0), (543, .iconst 1, 1, 0, 0, 0, 0)],
  [(544, .iadd, 1, 0, 0, 0, 0), (545, .iaload, 1, 0, 0, 0, 0), (546, .invokevirtual 75, 3, 141, 2, 0, 972), (549, .if_icmp .eq 446, 3, 0, 0, 0, 0), (552, .iconst 0, 1, 0, 0, 0, 0), (553, .ireturn, 1, 0, 0, 0, 0), (554, .aload_n 1, 1, 0, 0, 0, 0), (555, .aload_n 0, 1, 0, 0, 0, 0), (556, .iload_n 3, 1, 0, 0, 0, 0), (557, .iconst 1, 1, 0, 0, 0, 0), (558, .iadd, 1, 0, 0, 0, 0), (559, .iaload, 1, 0, 0, 0, 0)],
  [(560, .aload_n 0, 1, 0, 0, 0, 0), (561, .iload_n 3, 1, 0, 0, 0, 0), (562, .iconst 2, 1, 0, 0, 0, 0), (563, .iadd, 1, 0, 0, 0, 0), (564, .iaload, 1, 0, 0, 0, 0), (565, .invokevirtual 76, 3, 81, 3, 0, 537), (568, .aload_n 2, 1, 0, 0, 0, 0), (569, .aload_n 0, 1, 0, 0, 0, 0), (570, .iload_n 3, 1, 0, 0, 0, 0), (571, .iconst 1, 1, 0, 0, 0, 0), (572, .iadd, 1, 0, 0, 0, 0), (573, .iaload, 1, 0, 0, 0, 0), (574, .aload_n 0, 1, 0, 0, 0, 0), (575, .iload_n 3, 1, 0, 0, 0, 0)],
  [(576, .iconst 2, 1, 0, 0, 0, 0), (577, .iadd, 1, 0, 0, 0, 0), (578, .iaload, 1, 0, 0, 0, 0), (579, .invokevirtual 79, 3, 142, 3, 0, 980), (582, .if_icmp .eq 413, 3, 0, 0, 0, 0), (585, .iconst 0, 1, 0, 0, 0, 0), (586, .ireturn, 1, 0, 0, 0, 0), (587, .aload_n 1, 1, 0, 0, 0, 0), (588, .aload_n 0, 1, 0, 0, 0, 0), (589, .iload_n 3, 1, 0, 0, 0, 0), (590, .iconst 1, 1, 0, 0, 0, 0), (591, .iadd, 1, 0, 0, 0, 0)],
  [(592, .iaload, 1, 0, 0, 0, 0), (593, .invokevirtual 80, 3, 82, 2, 0, 542), (596, .aload_n 2, 1, 0, 0, 0, 0), (597, .aload_n 0, 1, 0, 0, 0, 0), (598, .iload_n 3, 1, 0, 0, 0, 0), (599, .iconst 1, 1, 0, 0, 0, 0), (600, .iadd, 1, 0, 0, 0, 0), (601, .iaload, 1, 0, 0, 0, 0), (602, .invokevirtual 83, 3, 144, 2, 0, 984), (605, .if_icmp .eq 390, 3, 0, 0, 0, 0)],
  [(608, .iconst 0, 1, 0, 0, 0, 0), (609, .ireturn, 1, 0, 0, 0, 0), (610, .aload_n 1, 1, 0, 0, 0, 0), (611, .aload_n 0, 1, 0, 0, 0, 0), (612, .iload_n 3, 1, 0, 0, 0, 0), (613, .iconst 1, 1, 0, 0, 0, 0), (614, .iadd, 1, 0, 0, 0, 0), (615, .iaload, 1, 0, 0, 0, 0), (616, .aload_n 0, 1, 0, 0, 0, 0), (617, .iload_n 3, 1, 0, 0, 0, 0), (618, .iconst 2, 1, 0, 0, 0, 0), (619, .iadd, 1, 0, 0, 0, 0), (620, .iaload, 1, 0, 0, 0, 0), (621, .invokevirtual 84, 3, 83, 3, 0, 554)],
  [(624, .aload_n 2, 1, 0, 0, 0, 0), (625, .aload_n 0, 1, 0, 0, 0, 0), (626, .iload_n 3, 1, 0, 0, 0, 0), (627, .iconst 1, 1, 0, 0, 0, 0), (628, .iadd, 1, 0, 0, 0, 0), (629, .iaload, 1, 0, 0, 0, 0), (630, .aload_n 0, 1, 0, 0, 0, 0), (631, .iload_n 3, 1, 0, 0, 0, 0), (632, .iconst 2, 1, 0, 0, 0, 0), (633, .iadd, 1, 0, 0, 0, 0), (634, .iaload, 1, 0, 0, 0, 0), (635, .invokevirtual 87, 3, 147, 3, 0, 992), (638, .if_icmp .eq 357, 3, 0, 0, 0, 0)],
  [(641, .iconst 0, 1, 0, 0, 0, 0), (642, .ireturn, 1, 0, 0, 0, 0), (643, .aload_n 1, 1, 0, 0, 0, 0), (644, .aload_n 0, 1, 0, 0, 0, 0), (645, .iload_n 3, 1, 0, 0, 0, 0), (646, .iconst 1, 1, 0, 0, 0, 0), (647, .iadd, 1, 0, 0, 0, 0), (648, .iaload, 1, 0, 0, 0, 0), (649, .aload_n 0, 1, 0, 0, 0, 0), (650, .iload_n 3, 1, 0, 0, 0, 0), (651, .iconst 2, 1, 0, 0, 0, 0), (652, .iadd, 1, 0, 0, 0, 0), (653, .iaload, 1, 0, 0, 0, 0), (654, .invokevirtual 88, 3, 84, 3, 0, 562)],
  [(657, .aload_n 2, 1, 0, 0, 0, 0), (658, .aload_n 0, 1, 0, 0, 0, 0), (659, .iload_n 3, 1, 0, 0, 0, 0), (660, .iconst 1, 1, 0, 0, 0, 0), (661, .iadd, 1, 0, 0, 0, 0), (662, .iaload, 1, 0, 0, 0, 0), (663, .aload_n 0, 1, 0, 0, 0, 0), (664, .iload_n 3, 1, 0, 0, 0, 0), (665, .iconst 2, 1, 0, 0, 0, 0), (666, .iadd, 1, 0, 0, 0, 0), (667, .iaload, 1, 0, 0, 0, 0), (668, .invokevirtual 91, 3, 150, 3, 0, 1004), (671, .if_icmp .eq 324, 3, 0, 0, 0, 0)],
  [(674, .iconst 0, 1, 0, 0, 0, 0), (675, .ireturn, 1, 0, 0, 0, 0), (676, .aload_n 1, 1, 0, 0, 0, 0), (677, .aload_n 0, 1, 0, 0, 0, 0), (678, .iload_n 3, 1, 0, 0, 0, 0), (679, .iconst 1, 1, 0, 0, 0, 0), (680, .iadd, 1, 0, 0, 0, 0), (681, .iaload, 1, 0, 0, 0, 0), (682, .invokevirtual 92, 3, 85, 2, 0, 607), (685, .aload_n 2, 1, 0, 0, 0, 0), (686, .aload_n 0, 1, 0, 0, 0, 0), (687, .iload_n 3, 1, 0, 0, 0, 0)],
  [(688, .iconst 1, 1, 0, 0, 0, 0), (689, .iadd, 1, 0, 0, 0, 0), (690, .iaload, 1, 0, 0, 0, 0), (691, .invokevirtual 95, 3, 152, 2, 0, 1016), (694, .if_icmp .eq 301, 3, 0, 0, 0, 0), (697, .iconst 0, 1, 0, 0, 0, 0), (698, .ireturn, 1, 0, 0, 0, 0), (699, .aload_n 1, 1, 0, 0, 0, 0), (700, .aload_n 0, 1, 0, 0, 0, 0), (701, .iload_n 3, 1, 0, 0, 0, 0), (702, .iconst 1, 1, 0, 0, 0, 0), (703, .iadd, 1, 0, 0, 0, 0)],
  [(704, .iaload, 1, 0, 0, 0, 0), (705, .invokevirtual 96, 3, 86, 2, 0, 611), (708, .aload_n 2, 1, 0, 0, 0, 0), (709, .aload_n 0, 1, 0, 0, 0, 0), (710, .iload_n 3, 1, 0, 0, 0, 0), (711, .iconst 1, 1, 0, 0, 0, 0), (712, .iadd, 1, 0, 0, 0, 0), (713, .iaload, 1, 0, 0, 0, 0), (714, .invokevirtual 99, 3, 153, 2, 0, 1024), (717, .if_icmp .eq 278, 3, 0, 0, 0, 0)],
  [(720, .iconst 0, 1, 0, 0, 0, 0), (721, .ireturn, 1, 0, 0, 0, 0), (722, .aload_n 1, 1, 0, 0, 0, 0), (723, .aload_n 0, 1, 0, 0, 0, 0), (724, .iload_n 3, 1, 0, 0, 0, 0), (725, .iconst 1, 1, 0, 0, 0, 0), (726, .iadd, 1, 0, 0, 0, 0), (727, .iaload, 1, 0, 0, 0, 0), (728, .aload_n 0, 1, 0, 0, 0, 0), (729, .iload_n 3, 1, 0, 0, 0, 0), (730, .iconst 2, 1, 0, 0, 0, 0), (731, .iadd, 1, 0, 0, 0, 0), (732, .iaload, 1, 0, 0, 0, 0), (733, .invokevirtual 100, 3, 87, 3, 0, 619)],
  [(736, .aload_n 2, 1, 0, 0, 0, 0), (737, .aload_n 0, 1, 0, 0, 0, 0), (738, .iload_n 3, 1, 0, 0, 0, 0), (739, .iconst 1, 1, 0, 0, 0, 0), (740, .iadd, 1, 0, 0, 0, 0), (741, .iaload, 1, 0, 0, 0, 0), (742, .aload_n 0, 1, 0, 0, 0, 0), (743, .iload_n 3, 1, 0, 0, 0, 0), (744, .iconst 2, 1, 0, 0, 0, 0), (745, .iadd, 1, 0, 0, 0, 0), (746, .iaload, 1, 0, 0, 0, 0), (747, .invokevirtual 103, 3, 154, 3, 0, 1028), (750, .if_icmp .eq 245, 3, 0, 0, 0, 0)],
  [(753, .iconst 0, 1, 0, 0, 0, 0), (754, .ireturn, 1, 0, 0, 0, 0), (755, .aload_n 1, 1, 0, 0, 0, 0), (756, .aload_n 0, 1, 0, 0, 0, 0), (757, .iload_n 3, 1, 0, 0, 0, 0), (758, .iconst 1, 1, 0, 0, 0, 0), (759, .iadd, 1, 0, 0, 0, 0), (760, .iaload, 1, 0, 0, 0, 0), (761, .invokevirtual 104, 3, 88, 2, 0, 627), (764, .aload_n 2, 1, 0, 0, 0, 0), (765, .aload_n 0, 1, 0, 0, 0, 0), (766, .iload_n 3, 1, 0, 0, 0, 0), (767, .iconst 1, 1, 0, 0, 0, 0)],
  [(768, .iadd, 1, 0, 0, 0, 0), (769, .iaload, 1, 0, 0, 0, 0), (770, .invokevirtual 107, 3, 155, 2, 0, 1032), (773, .if_icmp .eq 222, 3, 0, 0, 0, 0), (776, .iconst 0, 1, 0, 0, 0, 0), (777, .ireturn, 1, 0, 0, 0, 0), (778, .aload_n 1, 1, 0, 0, 0, 0), (779, .aload_n 0, 1, 0, 0, 0, 0), (780, .iload_n 3, 1, 0, 0, 0, 0), (781, .iconst 1, 1, 0, 0, 0, 0), (782, .iadd, 1, 0, 0, 0, 0), (783, .iaload, 1, 0, 0, 0, 0)],
  [(784, .aload_n 0, 1, 0, 0, 0, 0), (785, .iload_n 3, 1, 0, 0, 0, 0), (786, .iconst 2, 1, 0, 0, 0, 0), (787, .iadd, 1, 0, 0, 0, 0), (788, .iaload, 1, 0, 0, 0, 0), (789, .invokevirtual 108, 3, 89, 3, 0, 631), (792, .aload_n 2, 1, 0, 0, 0, 0), (793, .aload_n 0, 1, 0, 0, 0, 0), (794, .iload_n 3, 1, 0, 0, 0, 0), (795, .iconst 1, 1, 0, 0, 0, 0), (796, .iadd, 1, 0, 0, 0, 0), (797, .iaload, 1, 0, 0, 0, 0), (798, .aload_n 0, 1, 0, 0, 0, 0), (799, .iload_n 3, 1, 0, 0, 0, 0)],
  [(800, .iconst 2, 1, 0, 0, 0, 0), (801, .iadd, 1, 0, 0, 0, 0), (802, .iaload, 1, 0, 0, 0, 0), (803, .invokevirtual 111, 3, 156, 3, 0, 1036), (806, .if_icmp .eq 189, 3, 0, 0, 0, 0), (809, .iconst 0, 1, 0, 0, 0, 0), (810, .ireturn, 1, 0, 0, 0, 0), (811, .aload_n 1, 1, 0, 0, 0, 0), (812, .invokevirtual 112, 3, 90, 1, 0, 639), (815, .aload_n 2, 1, 0, 0, 0, 0)],
  [(816, .invokevirtual 115, 3, 157, 1, 0, 1041), (819, .if_icmp .eq 176, 3, 0, 0, 0, 0), (822, .iconst 0, 1, 0, 0, 0, 0), (823, .ireturn, 1, 0, 0, 0, 0), (824, .aload_n 1, 1, 0, 0, 0, 0), (825, .aload_n 0, 1, 0, 0, 0, 0), (826, .iload_n 3, 1, 0, 0, 0, 0), (827, .iconst 1, 1, 0, 0, 0, 0), (828, .iadd, 1, 0, 0, 0, 0), (829, .iaload, 1, 0, 0, 0, 0), (830, .invokevirtual 116, 3, 91, 2, 0, 643)],
  [(833, .aload_n 2, 1, 0, 0, 0, 0), (834, .aload_n 0, 1, 0, 0, 0, 0), (835, .iload_n 3, 1, 0, 0, 0, 0), (836, .iconst 1, 1, 0, 0, 0, 0), (837, .iadd, 1, 0, 0, 0, 0), (838, .iaload, 1, 0, 0, 0, 0), (839, .invokevirtual 119, 3, 160, 2, 0, 1045), (842, .if_icmp .eq 153, 3, 0, 0, 0, 0), (845, .iconst 0, 1, 0, 0, 0, 0), (846, .ireturn, 1, 0, 0, 0, 0), (847, .aload_n 1, 1, 0, 0, 0, 0)],
  [(848, .aload_n 0, 1, 0, 0, 0, 0), (849, .iload_n 3, 1, 0, 0, 0, 0), (850, .iconst 1, 1, 0, 0, 0, 0), (851, .iadd, 1, 0, 0, 0, 0), (852, .iaload, 1, 0, 0, 0, 0), (853, .aload_n 0, 1, 0, 0, 0, 0), (854, .iload_n 3, 1, 0, 0, 0, 0), (855, .iconst 2, 1, 0, 0, 0, 0), (856, .iadd, 1, 0, 0, 0, 0), (857, .iaload, 1, 0, 0, 0, 0), (858, .invokevirtual 120, 3, 92, 3, 0, 673), (861, .aload_n 2, 1, 0, 0, 0, 0), (862, .aload_n 0, 1, 0, 0, 0, 0), (863, .iload_n 3, 1, 0, 0, 0, 0)],
  [(864, .iconst 1, 1, 0, 0, 0, 0), (865, .iadd, 1, 0, 0, 0, 0), (866, .iaload, 1, 0, 0, 0, 0), (867, .aload_n 0, 1, 0, 0, 0, 0), (868, .iload_n 3, 1, 0, 0, 0, 0), (869, .iconst 2, 1, 0, 0, 0, 0), (870, .iadd, 1, 0, 0, 0, 0), (871, .iaload, 1, 0, 0, 0, 0), (872, .invokevirtual 123, 3, 161, 3, 0, 1057), (875, .if_icmp .eq 120, 3, 0, 0, 0, 0), (878, .iconst 0, 1, 0, 0, 0, 0), (879, .ireturn, 1, 0, 0, 0, 0)],
  [(880, .aload_n 1, 1, 0, 0, 0, 0), (881, .aload_n 0, 1, 0, 0, 0, 0), (882, .iload_n 3, 1, 0, 0, 0, 0), (883, .iconst 1, 1, 0, 0, 0, 0), (884, .iadd, 1, 0, 0, 0, 0), (885, .iaload, 1, 0, 0, 0, 0), (886, .invokevirtual 124, 3, 93, 2, 0, 681), (889, .aload_n 2, 1, 0, 0, 0, 0), (890, .aload_n 0, 1, 0, 0, 0, 0), (891, .iload_n 3, 1, 0, 0, 0, 0), (892, .iconst 1, 1, 0, 0, 0, 0), (893, .iadd, 1, 0, 0, 0, 0), (894, .iaload, 1, 0, 0, 0, 0), (895, .invokevirtual 127, 3, 162, 2, 0, 1061)],
  [(898, .if_icmp .eq 97, 3, 0, 0, 0, 0), (901, .iconst 0, 1, 0, 0, 0, 0), (902, .ireturn, 1, 0, 0, 0, 0), (903, .aload_n 1, 1, 0, 0, 0, 0), (904, .aload_n 0, 1, 0, 0, 0, 0), (905, .iload_n 3, 1, 0, 0, 0, 0), (906, .iconst 1, 1, 0, 0, 0, 0), (907, .iadd, 1, 0, 0, 0, 0), (908, .iaload, 1, 0, 0, 0, 0), (909, .invokevirtual 128, 3, 94, 2, 0, 690)],
  [(912, .aload_n 2, 1, 0, 0, 0, 0), (913, .aload_n 0, 1, 0, 0, 0, 0), (914, .iload_n 3, 1, 0, 0, 0, 0), (915, .iconst 1, 1, 0, 0, 0, 0), (916, .iadd, 1, 0, 0, 0, 0), (917, .iaload, 1, 0, 0, 0, 0), (918, .invokevirtual 131, 3, 163, 2, 0, 1065), (921, .if_icmp .eq 74, 3, 0, 0, 0, 0), (924, .iconst 0, 1, 0, 0, 0, 0), (925, .ireturn, 1, 0, 0, 0, 0), (926, .aload_n 1, 1, 0, 0, 0, 0), (927, .aload_n 0, 1, 0, 0, 0, 0)],
  [(928, .iload_n 3, 1, 0, 0, 0, 0), (929, .iconst 1, 1, 0, 0, 0, 0), (930, .iadd, 1, 0, 0, 0, 0), (931, .iaload, 1, 0, 0, 0, 0), (932, .invokevirtual 132, 3, 95, 2, 0, 704), (935, .aload_n 2, 1, 0, 0, 0, 0), (936, .aload_n 0, 1, 0, 0, 0, 0), (937, .iload_n 3, 1, 0, 0, 0, 0), (938, .iconst 1, 1, 0, 0, 0, 0), (939, .iadd, 1, 0, 0, 0, 0), (940, .iaload, 1, 0, 0, 0, 0), (941, .invokevirtual 135, 3, 164, 2, 0, 1070)],
  [(944, .if_icmp .eq 51, 3, 0, 0, 0, 0), (947, .iconst 0, 1, 0, 0, 0, 0), (948, .ireturn, 1, 0, 0, 0, 0), (949, .aload_n 1, 1, 0, 0, 0, 0), (950, .aload_n 0, 1, 0, 0, 0, 0), (951, .iload_n 3, 1, 0, 0, 0, 0), (952, .iconst 1, 1, 0, 0, 0, 0), (953, .iadd, 1, 0, 0, 0, 0), (954, .iaload, 1, 0, 0, 0, 0), (955, .invokevirtual 136, 3, 96, 2, 0, 712), (958, .aload_n 2, 1, 0, 0, 0, 0), (959, .aload_n 0, 1, 0, 0, 0, 0)],
  [(960, .iload_n 3, 1, 0, 0, 0, 0), (961, .iconst 1, 1, 0, 0, 0, 0), (962, .iadd, 1, 0, 0, 0, 0), (963, .iaload, 1, 0, 0, 0, 0), (964, .invokevirtual 139, 3, 165, 2, 0, 1074), (967, .if_icmp .eq 28, 3, 0, 0, 0, 0), (970, .iconst 0, 1, 0, 0, 0, 0), (971, .ireturn, 1, 0, 0, 0, 0), (972, .aload_n 1, 1, 0, 0, 0, 0), (973, .aload_n 0, 1, 0, 0, 0, 0), (974, .iload_n 3, 1, 0, 0, 0, 0), (975, .iconst 1, 1, 0, 0, 0, 0)],
  [(976, .iadd, 1, 0, 0, 0, 0), (977, .iaload, 1, 0, 0, 0, 0), (978, .invokevirtual 140, 3, 97, 2, 0, 716), (981, .aload_n 2, 1, 0, 0, 0, 0), (982, .aload_n 0, 1, 0, 0, 0, 0), (983, .iload_n 3, 1, 0, 0, 0, 0), (984, .iconst 1, 1, 0, 0, 0, 0), (985, .iadd, 1, 0, 0, 0, 0), (986, .iaload, 1, 0, 0, 0, 0), (987, .invokevirtual 143, 3, 166, 2, 0, 1078), (990, .if_icmp .eq 5, 3, 0, 0, 0, 0)],
  [(993, .iconst 0, 1, 0, 0, 0, 0), (994, .ireturn, 1, 0, 0, 0, 0), (995, .iinc 3 4, 3, 0, 0, 0, 0), (998, .goto (-980), 3, 0, 0, 0, 0), (1001, .iconst 1, 1, 0, 0, 0, 0), (1002, .ireturn, 1, 0, 0, 0, 0)]]
def iv_K : List (List (List (List ivE))) := [[iv_k0, iv_k1, iv_k2, iv_k3, iv_k4, iv_k5, iv_k6, iv_k7, iv_k8, iv_k9, iv_k10, iv_k11, iv_k12, iv_k13, iv_k14, iv_k15],
  [iv_k16, iv_k17, iv_k18, iv_k19, iv_k20, iv_k21, iv_k22, iv_k23, iv_k24, iv_k25, iv_k26, iv_k27, iv_k28, iv_k29, iv_k30, iv_k31],
  [iv_k32, iv_k33, iv_k34, iv_k35, iv_k36, iv_k37, iv_k38, iv_k39, iv_k40, iv_k41, iv_k42, iv_k43, iv_k44, iv_k45, iv_k46, iv_k47],
  [iv_k48, iv_k49, iv_k50, iv_k51, iv_k52, iv_k53, iv_k54, iv_k55, iv_k56, iv_k57, iv_k58, iv_k59, iv_k60, iv_k61, iv_k62, iv_k63],
  [iv_k64, iv_k65, iv_k66, iv_k67, iv_k68, iv_k69, iv_k70, iv_k71, iv_k72, iv_k73, iv_k74, iv_k75, iv_k76, iv_k77, iv_k78, iv_k79],
  [iv_k80, iv_k81, iv_k82, iv_k83, iv_k84, iv_k85, iv_k86, iv_k87, iv_k88, iv_k89, iv_k90, iv_k91, iv_k92, iv_k93, iv_k94, iv_k95],
  [iv_k96, iv_k97, iv_k98, iv_k99, iv_k100, iv_k101, iv_k102, iv_k103, iv_k104, iv_k105, iv_k106, iv_k107, iv_k108, iv_k109, iv_k110, iv_k111],
  [iv_k112, iv_k113, iv_k114, iv_k115, iv_k116, iv_k117, iv_k118, iv_k119, iv_k120, iv_k121, iv_k122, iv_k123, iv_k124, iv_k125, iv_k126, iv_k127],
  [iv_k128, iv_k129, iv_k130, iv_k131, iv_k132, iv_k133, iv_k134, iv_k135, iv_k136, iv_k137, iv_k138, iv_k139, iv_k140, iv_k141, iv_k142, iv_k143],
  [iv_k144, iv_k145, iv_k146, iv_k147, iv_k148, iv_k149, iv_k150, iv_k151, iv_k152, iv_k153, iv_k154, iv_k155, iv_k156, iv_k157, iv_k158, iv_k159],
  [iv_k160, iv_k161, iv_k162, iv_k163, iv_k164, iv_k165, iv_k166, iv_k167, iv_k168, iv_k169, iv_k170]]
def iv_code (mi : Nat) : List (List ivE) := (iv_K.getD (mi / 16) []).getD (mi % 16) []
def iv_ins (mi pc : Nat) : Option ivE := ((iv_code mi).getD (pc / 16) []).find? (fun e => Nat.beq e.1 pc)
def iv_mls : List (List Nat) := [[1, 3, 3, 3, 7, 4, 5, 2, 6, 5, 5, 1, 3, 2, 2, 2],
  [2, 1, 4, 3, 2, 3, 5, 6, 3, 3, 2, 5, 1, 5, 3, 7],
  [6, 2, 1, 3, 2, 3, 5, 5, 7, 4, 1, 3, 3, 7, 3, 5],
  [4, 5, 1, 3, 2, 2, 2, 2, 3, 1, 3, 3, 2, 3, 3, 1],
  [2, 2, 2, 5, 2, 1, 3, 3, 3, 2, 2, 1, 2, 2, 4, 4],
  [2, 4, 2, 6, 4, 2, 5, 3, 5, 3, 2, 2, 3, 2, 4, 3],
  [3, 2, 2, 1, 2, 3, 4, 2, 5, 6, 5, 3, 1, 6, 5, 2],
  [1, 1, 3, 3, 4, 4, 5, 2, 1, 2, 2, 2, 3, 4, 5, 4],
  [3, 2, 4, 2, 2, 3, 1, 4, 2, 3, 4, 4, 7, 2, 4, 4],
  [2, 2, 6, 3, 6, 5, 6, 5, 3, 5, 7, 4, 3, 2, 4, 5],
  [2, 6, 3, 7, 3, 3, 5, 1, 2, 2, 4]]
def iv_ml (mi : Nat) : Nat := (iv_mls.getD (mi / 16) []).getD (mi % 16) 0
def iv_ss : List (List String) := [["OnlyNamed$Carriers", "<init>", "()V", "allLifted", "()I", "pack", "(I)V", "packSet", "putLast", "(II)V", "holdBetter", "(III)V", "canTake", "(III)Z", "timesFor", "(I)I"],
  ["firstWay", "(II)I", "leastLoad", "bearsLoad", "(II)Z", "OnlyNamed$House", "settle", "(LOnlyNamed$Telling;)V", "hasThing", "(I)Z", "hasPerson", "areThings", "arePeople", "OnlyNamed$Memory", "begin", "copy"],
  ["(LOnlyNamed$Memory;)V", "isLive", "liveOnes", "pass", "sayingsFor", "OnlyNamed$Name", "soundAt", "withSound", "(III)I", "lengthOf", "inTongue", "OnlyNamed$Ruler", "between", "lay", "step", "atMost"],
  ["OnlyNamed$Search", "avoid", "rulerAt", "(I)LOnlyNamed$Ruler;", "shortest", "find", "isHopeless", "isTooNear", "(IIII)Z", "found", "OnlyNamed$Songs", "sing", "waysWith", "thingsOf", "firstBreak", "hear"],
  ["fit", "giveNext", "OnlyNamed$Telling", "faultOf", "(LOnlyNamed$Text;)I", "take", "takeH", "takeR", "takePart", "takeSound", "endName", "()Z", "isTold", "takeBear", "takeKnower", "takeKnown"],
  ["canLearn", "OnlyNamed$Text", "append", "at", "OnlyNamed", "write", "(IJ)I", "wipe", "fault", "house", "sound", "off", "near", "knows", "live", "days"],
  ["fades", "say", "give", "fresh", "anew", "lifts", "stands", "carries", "times", "worth", "upkeep", "mayHave", "line", "silence", "ways", "mayBe"],
  ["breaks", "twins", "keep", "again", "count", "has", "isOldHouse", "slotAt", "(I)LOnlyNamed$Memory;", "soundsOfAll", "liveNamed", "freshName", "nearTo", "clearOnes", "liftedBy", "gatherCarriers"],
  ["OnlyNamedModel", "in", "(JJJ)Z", "here", "fail", "figure", "open", "unknown", "readText", "readName", "isThing", "isPerson", "least", "offTried", "offOf", "liveSet"],
  ["isKnown", "layFresh", "liftsOf", "isThings", "breaksAt", "layCan", "timesOf", "waysBy", "givings", "java/lang/Integer", "bitCount", "java/lang/Math", "max", "min", "OnlyNamedLaw", "law"],
  ["([I)Z", "lifted", "[I", "bears", "weights", "loads", "lastWeight", "\x72", "I", "things", "people", "names", "said", "knowers", "day", "filled"],
  ["Z", "rows", "[[I", "name", "length", "rulers", "[LOnlyNamed$Ruler;", "sounds", "others", "lines", "lineNames", "lineThings", "canBe", "fits", "pairs", "awaited"],
  ["knower", "bytes", "text", "LOnlyNamed$Text;", "telling", "LOnlyNamed$Telling;", "LOnlyNamed$House;", "memory", "LOnlyNamed$Memory;", "slots", "[LOnlyNamed$Memory;", "ruler", "LOnlyNamed$Ruler;", "search", "LOnlyNamed$Search;", "carriers"],
  ["LOnlyNamed$Carriers;", "songs", "LOnlyNamed$Songs;", "readSounds", "readSizes", "readKnows", "readBears", "readNear", "readThings", "readPeople", "sizes", "faultAt", "tried", "triedSize", "offRow", "can"],
  ["[Z", "bornes", "many", "lineName", "gives", "allowed", "isKept", "keptSounds", "keptSizes", "keptKnows", "keptSaid", "keptDay", "java/lang/Object"]]
def iv_s (n : Nat) : String := (iv_ss.getD (n / 16) []).getD (n % 16) ""
def iv_ncs : List (List (Nat × Nat × Nat)) := [[(0, 1, 2), (0, 3, 4), (0, 5, 6), (0, 7, 6), (0, 8, 9), (0, 10, 11), (0, 12, 13), (0, 14, 15), (0, 16, 17), (0, 18, 17), (0, 19, 20), (21, 1, 2), (21, 22, 23), (21, 24, 25), (21, 26, 25), (21, 27, 25)],
  [(21, 28, 25), (29, 1, 2), (29, 30, 23), (29, 31, 32), (29, 33, 25), (29, 34, 4), (29, 35, 15), (29, 36, 17), (37, 38, 17), (37, 39, 40), (37, 41, 15), (37, 42, 17), (43, 1, 2), (43, 44, 17), (43, 45, 6), (43, 46, 9)],
  [(43, 47, 17), (48, 1, 2), (48, 30, 2), (48, 49, 6), (48, 50, 51), (48, 52, 15), (48, 53, 20), (48, 54, 20), (48, 55, 56), (48, 57, 15), (58, 1, 2), (58, 59, 9), (58, 60, 17), (58, 61, 17), (58, 62, 15), (58, 63, 9)],
  [(58, 64, 15), (58, 65, 9), (66, 1, 2), (66, 67, 68), (66, 69, 25), (66, 70, 25), (66, 71, 25), (66, 72, 25), (66, 73, 25), (66, 74, 75), (66, 76, 25), (66, 77, 25), (66, 78, 25), (66, 79, 25), (66, 80, 25), (81, 1, 2)],
  [(81, 82, 6), (81, 83, 15), (84, 1, 2), (84, 85, 86), (84, 87, 4), (84, 88, 4), (84, 89, 4), (84, 90, 17), (84, 91, 17), (84, 92, 15), (84, 93, 15), (84, 94, 4), (84, 95, 15), (84, 96, 15), (84, 97, 40), (84, 98, 40)],
  [(84, 99, 15), (84, 100, 17), (84, 101, 15), (84, 102, 17), (84, 103, 17), (84, 104, 15), (84, 105, 15), (84, 106, 17), (84, 107, 15), (84, 108, 17), (84, 109, 4), (84, 110, 15), (84, 111, 17), (84, 112, 15), (84, 113, 15), (84, 114, 15)],
  [(84, 115, 15), (84, 116, 15), (84, 117, 20), (84, 118, 25), (84, 119, 120), (84, 121, 4), (84, 122, 15), (84, 123, 4), (84, 124, 17), (84, 125, 4), (84, 126, 17), (84, 127, 2), (128, 1, 2), (128, 129, 130), (128, 85, 86), (128, 87, 4)],
  [(128, 131, 4), (128, 132, 2), (128, 133, 15), (128, 134, 4), (128, 135, 15), (128, 136, 4), (128, 76, 75), (128, 137, 2), (128, 88, 4), (128, 89, 4), (128, 138, 25), (128, 139, 25), (128, 90, 17), (128, 140, 40), (128, 141, 15), (128, 142, 17)],
  [(128, 91, 17), (128, 33, 25), (128, 124, 15), (128, 92, 15), (128, 93, 15), (128, 143, 4), (128, 94, 4), (128, 95, 15), (128, 96, 15), (128, 144, 20), (128, 97, 40), (128, 98, 40), (128, 145, 75), (128, 99, 15), (128, 100, 17), (128, 146, 15)],
  [(128, 101, 15), (128, 147, 25), (128, 148, 40), (128, 102, 17), (128, 149, 6), (128, 18, 17), (128, 103, 17), (128, 150, 15), (128, 104, 15), (128, 105, 15), (128, 106, 17), (128, 107, 15), (128, 108, 17), (128, 109, 4), (128, 151, 17), (128, 152, 15)],
  [(128, 110, 15), (128, 111, 17), (128, 112, 15), (128, 113, 15), (128, 114, 15), (128, 115, 15), (128, 116, 15), (153, 154, 15), (155, 156, 17), (155, 157, 17), (158, 159, 160)]]
def iv_nc (mi : Nat) : Nat × Nat × Nat := (iv_ncs.getD (mi / 16) []).getD (mi % 16) (0, 0, 0)
def iv_nm (mi : Nat) : MethodName := ⟨iv_s (iv_nc mi).1, iv_s (iv_nc mi).2.1, iv_s (iv_nc mi).2.2⟩
def iv_cds : List (List ByteArray) := [[prog_2_method_1_code, prog_2_method_2_code, prog_2_method_3_code, prog_2_method_4_code, prog_2_method_5_code, prog_2_method_6_code, prog_2_method_7_code, prog_2_method_8_code, prog_2_method_9_code, prog_2_method_10_code, prog_2_method_11_code, prog_3_method_1_code, prog_3_method_2_code, prog_3_method_3_code, prog_3_method_4_code, prog_3_method_5_code],
  [prog_3_method_6_code, prog_4_method_1_code, prog_4_method_2_code, prog_4_method_3_code, prog_4_method_4_code, prog_4_method_5_code, prog_4_method_6_code, prog_4_method_7_code, prog_5_method_2_code, prog_5_method_3_code, prog_5_method_4_code, prog_5_method_5_code, prog_6_method_1_code, prog_6_method_2_code, prog_6_method_3_code, prog_6_method_4_code],
  [prog_6_method_5_code, prog_7_method_1_code, prog_7_method_2_code, prog_7_method_3_code, prog_7_method_4_code, prog_7_method_5_code, prog_7_method_6_code, prog_7_method_7_code, prog_7_method_8_code, prog_7_method_9_code, prog_8_method_1_code, prog_8_method_2_code, prog_8_method_3_code, prog_8_method_4_code, prog_8_method_5_code, prog_8_method_6_code],
  [prog_8_method_7_code, prog_8_method_8_code, prog_9_method_1_code, prog_9_method_2_code, prog_9_method_3_code, prog_9_method_4_code, prog_9_method_5_code, prog_9_method_6_code, prog_9_method_7_code, prog_9_method_8_code, prog_9_method_9_code, prog_9_method_10_code, prog_9_method_11_code, prog_9_method_12_code, prog_9_method_13_code, prog_10_method_1_code],
  [prog_10_method_2_code, prog_10_method_3_code, prog_1_method_1_code, prog_1_method_2_code, prog_1_method_3_code, prog_1_method_4_code, prog_1_method_5_code, prog_1_method_6_code, prog_1_method_7_code, prog_1_method_8_code, prog_1_method_9_code, prog_1_method_10_code, prog_1_method_11_code, prog_1_method_12_code, prog_1_method_13_code, prog_1_method_14_code],
  [prog_1_method_15_code, prog_1_method_16_code, prog_1_method_17_code, prog_1_method_18_code, prog_1_method_19_code, prog_1_method_20_code, prog_1_method_21_code, prog_1_method_22_code, prog_1_method_23_code, prog_1_method_24_code, prog_1_method_25_code, prog_1_method_26_code, prog_1_method_27_code, prog_1_method_28_code, prog_1_method_29_code, prog_1_method_30_code],
  [prog_1_method_31_code, prog_1_method_32_code, prog_1_method_33_code, prog_1_method_34_code, prog_1_method_35_code, prog_1_method_36_code, prog_1_method_37_code, prog_1_method_38_code, prog_1_method_39_code, prog_1_method_40_code, prog_1_method_41_code, prog_1_method_42_code, prog_12_method_1_code, prog_12_method_3_code, prog_12_method_4_code, prog_12_method_5_code],
  [prog_12_method_6_code, prog_12_method_7_code, prog_12_method_8_code, prog_12_method_9_code, prog_12_method_10_code, prog_12_method_11_code, prog_12_method_12_code, prog_12_method_13_code, prog_12_method_14_code, prog_12_method_15_code, prog_12_method_16_code, prog_12_method_17_code, prog_12_method_18_code, prog_12_method_19_code, prog_12_method_20_code, prog_12_method_21_code],
  [prog_12_method_22_code, prog_12_method_23_code, prog_12_method_24_code, prog_12_method_25_code, prog_12_method_26_code, prog_12_method_27_code, prog_12_method_28_code, prog_12_method_29_code, prog_12_method_30_code, prog_12_method_31_code, prog_12_method_32_code, prog_12_method_33_code, prog_12_method_34_code, prog_12_method_35_code, prog_12_method_36_code, prog_12_method_37_code],
  [prog_12_method_38_code, prog_12_method_39_code, prog_12_method_40_code, prog_12_method_41_code, prog_12_method_42_code, prog_12_method_43_code, prog_12_method_44_code, prog_12_method_45_code, prog_12_method_46_code, prog_12_method_47_code, prog_12_method_48_code, prog_12_method_49_code, prog_12_method_50_code, prog_12_method_51_code, prog_12_method_52_code, prog_12_method_53_code],
  [prog_12_method_54_code, prog_12_method_55_code, prog_12_method_56_code, prog_12_method_57_code, prog_12_method_58_code, prog_12_method_59_code, prog_12_method_60_code, prog_13_method_49_code, prog_14_method_65_code, prog_14_method_69_code, code]]
def iv_cd (mi : Nat) : ByteArray := (iv_cds.getD (mi / 16) []).getD (mi % 16) code
def iv_rts : List (List (Option FieldType)) := [[none, some .int, none, none, none, none, some .boolean, some .int, some .int, some .int, some .boolean, none, none, some .boolean, some .boolean, some .boolean],
  [some .boolean, none, none, none, some .boolean, some .int, some .int, some .int, some .int, some .int, some .int, some .int, none, some .int, none, none],
  [some .int, none, none, none, some (.object "OnlyNamed$Ruler"), some .int, some .boolean, some .boolean, some .boolean, some .int, none, none, some .int, some .int, some .int, none],
  [some .int, none, none, some .int, some .boolean, some .boolean, some .boolean, some .boolean, some .boolean, some .boolean, some .boolean, some .boolean, some .boolean, some .boolean, some .boolean, none],
  [none, some .int, none, some .int, some .int, some .int, some .int, some .int, some .int, some .int, some .int, some .int, some .int, some .int, some .int, some .int],
  [some .int, some .int, some .int, some .int, some .int, some .int, some .int, some .int, some .int, some .int, some .int, some .int, some .int, some .int, some .int, some .int],
  [some .int, some .int, some .boolean, some .boolean, some (.object "OnlyNamed$Memory"), some .int, some .int, some .int, some .int, some .int, some .int, none, none, some .boolean, some .int, some .int],
  [some .int, none, some .int, some .int, some .int, some .int, some .boolean, none, some .int, some .int, some .boolean, some .boolean, some .int, some .int, some .int, some .int],
  [some .int, some .boolean, some .int, some .int, some .int, some .int, some .int, some .int, some .int, some .boolean, some .int, some .int, some .boolean, some .int, some .int, some .int],
  [some .int, some .boolean, some .int, some .int, none, some .int, some .int, some .int, some .int, some .int, some .int, some .int, some .int, some .int, some .int, some .int],
  [some .int, some .int, some .int, some .int, some .int, some .int, some .int, some .int, some .int, some .int, some .boolean]]
def iv_rt (mi : Nat) : Option FieldType := (iv_rts.getD (mi / 16) []).getD (mi % 16) none
/-- fields: declaring class, name, descriptor, final -/
def iv_Ts : List (List (Nat × Nat × Nat × Bool)) := [[(0, 161, 162, true), (0, 163, 162, true), (0, 164, 162, true), (0, 165, 162, true), (0, 166, 162, true)],
  [(21, 163, 162, true), (21, 167, 168, false), (21, 169, 168, false), (21, 170, 168, false)],
  [(29, 171, 162, true), (29, 172, 162, true), (29, 173, 162, true), (29, 174, 168, false), (29, 175, 176, false)],
  [(43, 177, 178, true), (43, 179, 168, false), (43, 180, 168, false)],
  [(48, 181, 182, true), (48, 183, 162, true), (48, 184, 168, false)],
  [(58, 185, 168, false), (58, 186, 162, true), (58, 187, 162, true), (58, 188, 162, true), (58, 189, 162, true)],
  [(66, 171, 162, true), (66, 173, 162, true), (66, 163, 162, true), (66, 167, 168, false), (66, 169, 168, false), (66, 170, 168, false), (66, 190, 168, false), (66, 191, 168, false), (66, 179, 168, false), (66, 183, 168, false), (66, 192, 168, false)],
  [(81, 193, 162, true), (81, 180, 168, false)],
  [(84, 194, 195, true), (84, 196, 197, true), (84, 89, 198, true), (84, 199, 200, true), (84, 201, 202, true), (84, 203, 204, true), (84, 205, 206, true), (84, 207, 208, true), (84, 209, 210, true)],
  [(128, 211, 162, true), (128, 212, 162, true), (128, 213, 162, true), (128, 214, 162, true), (128, 215, 168, false), (128, 216, 168, false), (128, 217, 168, false), (128, 183, 162, true), (128, 218, 162, true), (128, 93, 162, true), (128, 172, 162, true), (128, 163, 162, true), (128, 92, 168, false), (128, 169, 168, false), (128, 170, 168, false), (128, 174, 168, false), (128, 194, 162, true), (128, 180, 168, false), (128, 83, 168, false), (128, 219, 168, false), (128, 220, 162, true), (128, 221, 168, false), (128, 222, 162, true), (128, 223, 224, true), (128, 225, 224, true), (128, 226, 162, true), (128, 185, 168, false), (128, 227, 162, true), (128, 187, 162, true), (128, 228, 162, true), (128, 229, 162, true), (128, 230, 224, true), (128, 231, 162, true), (128, 232, 162, true), (128, 233, 162, true), (128, 234, 162, true), (128, 235, 162, true)]]
def iv_Tc (ci k : Nat) : Nat × Nat × Nat × Bool := (iv_Ts.getD ci []).getD k (0, 0, 0, false)
def iv_Tf (ci : Nat) : u_T := fun k => (iv_s (iv_Tc ci k).1, iv_s (iv_Tc ci k).2.1, iv_s (iv_Tc ci k).2.2.1, (iv_Tc ci k).2.2.2)
def iv_cls : List (Nat × Nat) := [(0, 5), (21, 4), (29, 5), (43, 3), (48, 3), (58, 5), (66, 11), (81, 2), (84, 9), (128, 37)]
def iv_cl : List vw_C := iv_cls.mapIdx (fun ci q => (iv_s q.1, iv_Tf ci, q.2))
/-- the words, by numbers -/
def iv_wd (c : Nat × Nat × Nat × Nat × Nat × Nat) : Jvm.Cond :=
  match c.1 with
  | 1 => .initialized (iv_s c.2.1)
  | 2 => .classLink (iv_s c.2.1) c.2.2.1 (iv_s c.2.2.2.1)
  | 3 => .instantiable (iv_s c.2.1) c.2.2.1
  | 4 => .methodLink (iv_s c.2.1) c.2.2.1 (bif Nat.beq c.2.2.2.1 1000 then objectInit else iv_nm c.2.2.2.1)
  | 5 => .instanceMethod (bif Nat.beq c.2.1 1000 then objectInit else iv_nm c.2.1)
  | 6 => bif Nat.beq c.2.1 1000 then .code objectInit ⟨#[0xb1]⟩ 1 none else .code (iv_nm c.2.1) (iv_cd c.2.1) (iv_ml c.2.1) (iv_rt c.2.1)
  | 7 => .selects (iv_s c.2.1) (iv_nm c.2.2.1) (iv_nm c.2.2.2.1)
  | 8 => .fieldLink (iv_s c.2.1) c.2.2.1 (iv_s c.2.2.2.1) (iv_s c.2.2.2.2.1) (iv_s c.2.2.2.2.2)
  | 9 => .lays (iv_s c.2.1) (iv_s c.2.2.1) (iv_s c.2.2.2.1) (iv_s c.2.2.2.2.1)
  | 10 => .laysFinal (iv_s c.2.1) (iv_s c.2.2.1) (iv_s c.2.2.2.1) (iv_s c.2.2.2.2.1)
  | 11 => .soleField (iv_s c.2.1) (iv_s c.2.2.1)
  | 12 => .superclass (iv_s c.2.1) (iv_s c.2.2.1)
  | 13 => .methodLinkNest (iv_s c.2.1) c.2.2.1 (iv_nm c.2.2.2.1) (iv_s c.2.2.2.2.1)
  | 14 => .static (iv_nm c.2.1)
  | 15 => .constant (iv_s c.2.1) c.2.2.1 (Int32.ofNat c.2.2.2.1)
  | 16 => .constantLong (iv_s c.2.1) c.2.2.1 (Int64.ofNat c.2.2.2.1)
  | 17 => .arrayClass (bif Nat.beq c.2.1 0 then .int else .boolean)
  | 18 => .arrayOver (bif Nat.beq c.2.1 0 then .object "OnlyNamed$Memory" else bif Nat.beq c.2.1 1 then .array .int else .object "OnlyNamed$Ruler")
  | _ => .privateMethod (iv_nm c.2.1)
def iv_wc0 : List (Nat × Nat × Nat × Nat × Nat × Nat) := [(7, 66, 52, 52, 0, 0), (7, 66, 53, 53, 0, 0), (7, 66, 54, 54, 0, 0), (7, 66, 56, 56, 0, 0), (7, 66, 57, 57, 0, 0), (7, 66, 58, 58, 0, 0), (7, 66, 55, 55, 0, 0), (7, 66, 59, 59, 0, 0), (7, 66, 60, 60, 0, 0), (7, 66, 62, 62, 0, 0), (7, 66, 61, 61, 0, 0), (7, 84, 100, 100, 0, 0), (7, 84, 104, 104, 0, 0), (7, 84, 103, 103, 0, 0), (7, 48, 36, 36, 0, 0), (7, 48, 38, 38, 0, 0), (7, 48, 39, 39, 0, 0), (7, 48, 40, 40, 0, 0), (7, 48, 41, 41, 0, 0), (7, 84, 105, 105, 0, 0), (7, 84, 106, 106, 0, 0), (7, 84, 107, 107, 0, 0), (7, 0, 3, 3, 0, 0), (7, 0, 4, 4, 0, 0), (7, 0, 6, 6, 0, 0), (7, 0, 5, 5, 0, 0), (7, 0, 9, 9, 0, 0), (7, 0, 10, 10, 0, 0), (7, 58, 47, 47, 0, 0), (7, 58, 48, 48, 0, 0), (7, 58, 49, 49, 0, 0), (7, 84, 102, 102, 0, 0), (7, 84, 101, 101, 0, 0), (7, 128, 117, 117, 0, 0), (7, 128, 112, 112, 0, 0), (7, 128, 114, 114, 0, 0), (7, 128, 113, 113, 0, 0), (7, 128, 119, 119, 0, 0), (7, 128, 118, 118, 0, 0), (7, 128, 115, 115, 0, 0), (7, 128, 116, 116, 0, 0), (7, 128, 122, 122, 0, 0), (7, 128, 127, 127, 0, 0), (7, 128, 126, 126, 0, 0), (7, 128, 129, 129, 0, 0), (7, 128, 130, 130, 0, 0), (7, 128, 133, 133, 0, 0), (7, 128, 123, 123, 0, 0), (7, 128, 137, 137, 0, 0), (7, 128, 140, 140, 0, 0), (7, 128, 143, 143, 0, 0), (7, 128, 145, 145, 0, 0), (7, 128, 146, 146, 0, 0), (7, 128, 148, 148, 0, 0), (7, 128, 149, 149, 0, 0), (7, 128, 151, 151, 0, 0), (7, 128, 158, 158, 0, 0), (7, 128, 159, 159, 0, 0)]
def iv_wc1 : List (Nat × Nat × Nat × Nat × Nat × Nat) := [(1, 158, 0, 0, 0, 0), (1, 84, 0, 0, 0, 0), (1, 81, 0, 0, 0, 0), (1, 66, 0, 0, 0, 0), (1, 21, 0, 0, 0, 0), (1, 29, 0, 0, 0, 0), (1, 43, 0, 0, 0, 0), (1, 48, 0, 0, 0, 0), (1, 0, 0, 0, 0, 0), (1, 58, 0, 0, 0, 0), (1, 128, 0, 0, 0, 0), (1, 37, 0, 0, 0, 0), (1, 155, 0, 0, 0, 0), (1, 153, 0, 0, 0, 0), (2, 158, 7, 84, 0, 0), (3, 84, 9, 0, 0, 0), (4, 158, 9, 66, 0, 0), (5, 66, 0, 0, 0, 0), (6, 66, 0, 0, 0, 0), (4, 84, 1, 1000, 0, 0), (5, 1000, 0, 0, 0, 0), (6, 1000, 0, 0, 0, 0), (2, 84, 7, 81, 0, 0), (3, 81, 2, 0, 0, 0), (13, 84, 9, 63, 84, 0), (5, 63, 0, 0, 0, 0), (6, 63, 0, 0, 0, 0), (4, 81, 3, 1000, 0, 0), (8, 81, 9, 81, 193, 162), (8, 81, 15, 81, 180, 168), (8, 84, 69, 81, 180, 168), (8, 66, 37, 81, 180, 168), (10, 81, 81, 193, 162, 0), (11, 81, 193, 0, 0, 0), (9, 81, 81, 180, 168, 0), (11, 81, 180, 0, 0, 0), (12, 81, 236, 0, 0, 0), (17, 0, 0, 0, 0, 0), (2, 84, 16, 66, 0, 0), (3, 66, 11, 0, 0, 0), (13, 84, 18, 50, 84, 0), (5, 50, 0, 0, 0, 0), (6, 50, 0, 0, 0, 0), (4, 66, 3, 1000, 0, 0), (8, 66, 9, 66, 171, 162), (8, 29, 30, 66, 171, 162), (8, 66, 15, 66, 173, 162), (8, 29, 31, 66, 173, 162), (8, 66, 18, 66, 163, 162), (8, 21, 30, 66, 163, 162), (8, 66, 21, 66, 167, 168), (8, 21, 15, 66, 167, 168), (8, 66, 25, 66, 169, 168), (8, 21, 22, 66, 169, 168), (8, 29, 25, 66, 169, 168), (8, 66, 28, 66, 170, 168), (8, 21, 26, 66, 170, 168), (8, 66, 31, 66, 190, 168), (8, 66, 34, 66, 191, 168), (8, 66, 75, 66, 179, 168), (8, 66, 78, 66, 183, 168), (8, 66, 90, 66, 192, 168), (10, 66, 66, 171, 162, 0), (11, 66, 171, 0, 0, 0), (10, 66, 66, 173, 162, 0), (11, 66, 173, 0, 0, 0), (10, 66, 66, 163, 162, 0), (11, 66, 163, 0, 0, 0), (9, 66, 66, 167, 168, 0), (11, 66, 167, 0, 0, 0), (9, 66, 66, 169, 168, 0), (11, 66, 169, 0, 0, 0), (9, 66, 66, 170, 168, 0), (11, 66, 170, 0, 0, 0), (9, 66, 66, 190, 168, 0), (11, 66, 190, 0, 0, 0), (9, 66, 66, 191, 168, 0), (11, 66, 191, 0, 0, 0), (9, 66, 66, 179, 168, 0), (11, 66, 179, 0, 0, 0), (9, 66, 66, 183, 168, 0), (11, 66, 183, 0, 0, 0), (9, 66, 66, 192, 168, 0), (11, 66, 192, 0, 0, 0), (12, 66, 236, 0, 0, 0), (2, 84, 23, 21, 0, 0), (3, 21, 4, 0, 0, 0), (13, 84, 25, 11, 84, 0), (5, 11, 0, 0, 0, 0), (6, 11, 0, 0, 0, 0), (4, 21, 3, 1000, 0, 0), (8, 21, 9, 21, 163, 162), (8, 84, 167, 21, 163, 162), (8, 21, 21, 21, 167, 168), (8, 84, 220, 21, 167, 168), (8, 21, 25, 21, 169, 168), (8, 84, 96, 21, 169, 168), (8, 21, 29, 21, 170, 168), (8, 84, 99, 21, 170, 168), (10, 21, 21, 163, 162, 0), (11, 21, 163, 0, 0, 0), (9, 21, 21, 167, 168, 0), (11, 21, 167, 0, 0, 0), (9, 21, 21, 169, 168, 0), (11, 21, 169, 0, 0, 0), (9, 21, 21, 170, 168, 0), (11, 21, 170, 0, 0, 0), (12, 21, 236, 0, 0, 0), (2, 84, 30, 29, 0, 0), (3, 29, 5, 0, 0, 0), (13, 84, 32, 17, 84, 0), (5, 17, 0, 0, 0, 0), (6, 17, 0, 0, 0, 0), (4, 29, 3, 1000, 0, 0), (8, 29, 9, 29, 171, 162), (8, 84, 106, 29, 171, 162), (8, 29, 15, 29, 172, 162), (8, 84, 136, 29, 172, 162), (8, 29, 18, 29, 173, 162), (8, 84, 129, 29, 173, 162), (8, 29, 21, 29, 174, 168), (8, 84, 139, 29, 174, 168), (8, 84, 92, 29, 175, 176), (10, 29, 29, 171, 162, 0), (11, 29, 171, 0, 0, 0), (10, 29, 29, 172, 162, 0), (11, 29, 172, 0, 0, 0), (10, 29, 29, 173, 162, 0), (11, 29, 173, 0, 0, 0), (9, 29, 29, 174, 168, 0), (11, 29, 174, 0, 0, 0), (9, 29, 29, 175, 176, 0), (11, 29, 175, 0, 0, 0), (12, 29, 236, 0, 0, 0), (18, 0, 0, 0, 0, 0), (2, 84, 41, 43, 0, 0), (3, 43, 3, 0, 0, 0), (13, 84, 43, 28, 84, 0), (5, 28, 0, 0, 0, 0), (6, 28, 0, 0, 0, 0), (4, 43, 3, 1000, 0, 0), (2, 43, 9, 178, 0, 0), (18, 1, 0, 0, 0, 0), (8, 43, 11, 43, 177, 178), (8, 43, 38, 43, 179, 168), (8, 43, 34, 43, 180, 168), (10, 43, 43, 177, 178, 0), (11, 43, 177, 0, 0, 0), (9, 43, 43, 179, 168, 0), (11, 43, 179, 0, 0, 0), (9, 43, 43, 180, 168, 0), (11, 43, 180, 0, 0, 0), (12, 43, 236, 0, 0, 0), (2, 84, 48, 48, 0, 0), (3, 48, 3, 0, 0, 0), (4, 84, 50, 33, 0, 0), (5, 33, 0, 0, 0, 0), (6, 33, 0, 0, 0, 0), (4, 48, 3, 1000, 0, 0), (2, 48, 15, 43, 0, 0), (18, 2, 0, 0, 0, 0), (13, 48, 21, 28, 84, 0), (8, 48, 17, 48, 181, 182), (8, 48, 9, 48, 183, 162), (8, 48, 22, 48, 184, 168), (10, 48, 48, 181, 182, 0), (11, 48, 181, 0, 0, 0), (10, 48, 48, 183, 162, 0), (11, 48, 183, 0, 0, 0), (9, 48, 48, 184, 168, 0), (11, 48, 184, 0, 0, 0), (12, 48, 236, 0, 0, 0), (2, 84, 55, 0, 0, 0), (3, 0, 5, 0, 0, 0), (13, 84, 57, 0, 84, 0), (5, 0, 0, 0, 0, 0), (6, 0, 0, 0, 0, 0), (4, 0, 3, 1000, 0, 0), (8, 0, 9, 0, 161, 162), (8, 84, 185, 0, 161, 162), (8, 0, 15, 0, 163, 162), (8, 84, 239, 0, 163, 162), (8, 0, 18, 0, 164, 162), (8, 84, 240, 0, 164, 162), (8, 0, 21, 0, 165, 162), (8, 0, 24, 0, 166, 162), (10, 0, 0, 161, 162, 0), (11, 0, 161, 0, 0, 0), (10, 0, 0, 163, 162, 0), (11, 0, 163, 0, 0, 0), (10, 0, 0, 164, 162, 0), (11, 0, 164, 0, 0, 0), (10, 0, 0, 165, 162, 0), (11, 0, 165, 0, 0, 0), (10, 0, 0, 166, 162, 0), (11, 0, 166, 0, 0, 0), (12, 0, 236, 0, 0, 0), (2, 84, 62, 58, 0, 0), (3, 58, 5, 0, 0, 0), (13, 84, 64, 42, 84, 0), (5, 42, 0, 0, 0, 0), (6, 42, 0, 0, 0, 0), (4, 58, 3, 1000, 0, 0), (8, 58, 24, 58, 185, 168), (8, 84, 191, 58, 185, 168), (8, 58, 9, 58, 186, 162), (8, 58, 15, 58, 187, 162), (8, 58, 18, 58, 188, 162), (8, 58, 21, 58, 189, 162), (9, 58, 58, 185, 168, 0), (11, 58, 185, 0, 0, 0), (10, 58, 58, 186, 162, 0), (11, 58, 186, 0, 0, 0), (10, 58, 58, 187, 162, 0), (11, 58, 187, 0, 0, 0), (10, 58, 58, 188, 162, 0), (11, 58, 188, 0, 0, 0), (10, 58, 58, 189, 162, 0), (11, 58, 189, 0, 0, 0), (12, 58, 236, 0, 0, 0), (8, 84, 10, 84, 194, 195), (8, 84, 19, 84, 196, 197), (8, 84, 26, 84, 89, 198), (8, 84, 33, 84, 199, 200), (8, 84, 37, 84, 201, 202), (8, 84, 44, 84, 203, 204), (8, 84, 51, 84, 205, 206), (8, 84, 58, 84, 207, 208), (8, 84, 65, 84, 209, 210), (10, 84, 84, 194, 195, 0), (11, 84, 194, 0, 0, 0), (10, 84, 84, 196, 197, 0), (11, 84, 196, 0, 0, 0), (10, 84, 84, 89, 198, 0), (11, 84, 89, 0, 0, 0), (10, 84, 84, 199, 200, 0), (11, 84, 199, 0, 0, 0), (10, 84, 84, 201, 202, 0), (11, 84, 201, 0, 0, 0), (10, 84, 84, 203, 204, 0)]
def iv_wc2 : List (Nat × Nat × Nat × Nat × Nat × Nat) := [(11, 84, 203, 0, 0, 0), (10, 84, 84, 205, 206, 0), (11, 84, 205, 0, 0, 0), (10, 84, 84, 207, 208, 0), (11, 84, 207, 0, 0, 0), (10, 84, 84, 209, 210, 0), (11, 84, 209, 0, 0, 0), (12, 84, 236, 0, 0, 0), (4, 158, 15, 67, 0, 0), (5, 67, 0, 0, 0, 0), (7, 84, 67, 67, 0, 0), (6, 67, 0, 0, 0, 0), (4, 84, 73, 64, 0, 0), (5, 64, 0, 0, 0, 0), (7, 81, 64, 64, 0, 0), (6, 64, 0, 0, 0, 0), (4, 158, 20, 68, 0, 0), (5, 68, 0, 0, 0, 0), (7, 84, 68, 68, 0, 0), (6, 68, 0, 0, 0, 0), (4, 158, 25, 69, 0, 0), (5, 69, 0, 0, 0, 0), (7, 84, 69, 69, 0, 0), (6, 69, 0, 0, 0, 0), (4, 84, 77, 51, 0, 0), (5, 51, 0, 0, 0, 0), (7, 66, 51, 51, 0, 0), (6, 51, 0, 0, 0, 0), (4, 66, 42, 65, 0, 0), (5, 65, 0, 0, 0, 0), (7, 81, 65, 65, 0, 0), (6, 65, 0, 0, 0, 0), (4, 66, 46, 52, 0, 0), (19, 52, 0, 0, 0, 0), (5, 52, 0, 0, 0, 0), (6, 52, 0, 0, 0, 0), (4, 66, 54, 53, 0, 0), (19, 53, 0, 0, 0, 0), (5, 53, 0, 0, 0, 0), (6, 53, 0, 0, 0, 0), (4, 66, 57, 54, 0, 0), (19, 54, 0, 0, 0, 0), (5, 54, 0, 0, 0, 0), (6, 54, 0, 0, 0, 0), (4, 66, 60, 56, 0, 0), (19, 56, 0, 0, 0, 0), (5, 56, 0, 0, 0, 0), (6, 56, 0, 0, 0, 0), (4, 66, 50, 57, 0, 0), (19, 57, 0, 0, 0, 0), (5, 57, 0, 0, 0, 0), (6, 57, 0, 0, 0, 0), (4, 66, 87, 58, 0, 0), (19, 58, 0, 0, 0, 0), (5, 58, 0, 0, 0, 0), (6, 58, 0, 0, 0, 0), (4, 66, 72, 55, 0, 0), (19, 55, 0, 0, 0, 0), (5, 55, 0, 0, 0, 0), (6, 55, 0, 0, 0, 0), (4, 66, 81, 25, 0, 0), (14, 25, 0, 0, 0, 0), (6, 25, 0, 0, 0, 0), (4, 66, 63, 59, 0, 0), (19, 59, 0, 0, 0, 0), (5, 59, 0, 0, 0, 0), (6, 59, 0, 0, 0, 0), (4, 66, 66, 60, 0, 0), (19, 60, 0, 0, 0, 0), (5, 60, 0, 0, 0, 0), (6, 60, 0, 0, 0, 0), (4, 66, 93, 62, 0, 0), (19, 62, 0, 0, 0, 0), (5, 62, 0, 0, 0, 0), (6, 62, 0, 0, 0, 0), (13, 66, 96, 98, 84, 0), (14, 98, 0, 0, 0, 0), (6, 98, 0, 0, 0, 0), (4, 66, 69, 61, 0, 0), (19, 61, 0, 0, 0, 0), (5, 61, 0, 0, 0, 0), (6, 61, 0, 0, 0, 0), (4, 158, 29, 70, 0, 0), (5, 70, 0, 0, 0, 0), (7, 84, 70, 70, 0, 0), (6, 70, 0, 0, 0, 0), (4, 84, 81, 12, 0, 0), (5, 12, 0, 0, 0, 0), (7, 21, 12, 12, 0, 0), (6, 12, 0, 0, 0, 0), (4, 84, 85, 18, 0, 0), (5, 18, 0, 0, 0, 0), (7, 29, 18, 18, 0, 0), (6, 18, 0, 0, 0, 0), (4, 84, 88, 100, 0, 0), (19, 100, 0, 0, 0, 0), (5, 100, 0, 0, 0, 0), (6, 100, 0, 0, 0, 0), (4, 158, 33, 71, 0, 0), (5, 71, 0, 0, 0, 0), (7, 84, 71, 71, 0, 0), (6, 71, 0, 0, 0, 0), (4, 84, 102, 13, 0, 0), (5, 13, 0, 0, 0, 0), (7, 21, 13, 13, 0, 0), (6, 13, 0, 0, 0, 0), (4, 84, 110, 24, 0, 0), (14, 24, 0, 0, 0, 0), (6, 24, 0, 0, 0, 0), (4, 158, 38, 72, 0, 0), (5, 72, 0, 0, 0, 0), (7, 84, 72, 72, 0, 0), (6, 72, 0, 0, 0, 0), (4, 84, 116, 29, 0, 0), (5, 29, 0, 0, 0, 0), (7, 43, 29, 29, 0, 0), (6, 29, 0, 0, 0, 0), (4, 43, 16, 30, 0, 0), (5, 30, 0, 0, 0, 0), (7, 43, 30, 30, 0, 0), (6, 30, 0, 0, 0, 0), (4, 43, 20, 26, 0, 0), (14, 26, 0, 0, 0, 0), (6, 26, 0, 0, 0, 0), (4, 43, 26, 24, 0, 0), (4, 43, 30, 31, 0, 0), (5, 31, 0, 0, 0, 0), (7, 43, 31, 31, 0, 0), (6, 31, 0, 0, 0, 0), (4, 43, 41, 169, 0, 0), (14, 169, 0, 0, 0, 0), (6, 169, 0, 0, 0, 0), (4, 158, 42, 73, 0, 0), (5, 73, 0, 0, 0, 0), (7, 84, 73, 73, 0, 0), (6, 73, 0, 0, 0, 0), (4, 84, 119, 20, 0, 0), (5, 20, 0, 0, 0, 0), (7, 29, 20, 20, 0, 0), (6, 20, 0, 0, 0, 0), (4, 84, 122, 21, 0, 0), (5, 21, 0, 0, 0, 0), (7, 29, 21, 21, 0, 0), (6, 21, 0, 0, 0, 0), (4, 29, 32, 20, 0, 0), (4, 84, 126, 104, 0, 0), (19, 104, 0, 0, 0, 0), (5, 104, 0, 0, 0, 0), (6, 104, 0, 0, 0, 0), (4, 84, 148, 98, 0, 0), (4, 158, 47, 74, 0, 0), (5, 74, 0, 0, 0, 0), (7, 84, 74, 74, 0, 0), (6, 74, 0, 0, 0, 0), (4, 158, 51, 75, 0, 0), (5, 75, 0, 0, 0, 0), (7, 84, 75, 75, 0, 0), (6, 75, 0, 0, 0, 0), (4, 158, 55, 76, 0, 0), (5, 76, 0, 0, 0, 0), (7, 84, 76, 76, 0, 0), (6, 76, 0, 0, 0, 0), (4, 84, 132, 22, 0, 0), (5, 22, 0, 0, 0, 0), (7, 29, 22, 22, 0, 0), (6, 22, 0, 0, 0, 0), (4, 29, 36, 21, 0, 0), (13, 29, 40, 98, 84, 0), (4, 158, 59, 77, 0, 0), (5, 77, 0, 0, 0, 0), (7, 84, 77, 77, 0, 0), (6, 77, 0, 0, 0, 0), (4, 158, 63, 78, 0, 0), (5, 78, 0, 0, 0, 0), (7, 84, 78, 78, 0, 0), (6, 78, 0, 0, 0, 0), (4, 84, 142, 14, 0, 0), (5, 14, 0, 0, 0, 0), (7, 21, 14, 14, 0, 0), (6, 14, 0, 0, 0, 0), (4, 84, 145, 16, 0, 0), (5, 16, 0, 0, 0, 0), (7, 21, 16, 16, 0, 0), (6, 16, 0, 0, 0, 0), (4, 158, 68, 79, 0, 0), (5, 79, 0, 0, 0, 0), (7, 84, 79, 79, 0, 0), (6, 79, 0, 0, 0, 0), (4, 158, 72, 80, 0, 0), (5, 80, 0, 0, 0, 0), (7, 84, 80, 80, 0, 0), (6, 80, 0, 0, 0, 0), (4, 84, 152, 103, 0, 0), (19, 103, 0, 0, 0, 0), (5, 103, 0, 0, 0, 0), (6, 103, 0, 0, 0, 0), (4, 84, 231, 34, 0, 0), (5, 34, 0, 0, 0, 0), (7, 48, 34, 34, 0, 0), (6, 34, 0, 0, 0, 0), (4, 84, 233, 35, 0, 0), (5, 35, 0, 0, 0, 0), (7, 48, 35, 35, 0, 0), (6, 35, 0, 0, 0, 0), (4, 48, 26, 36, 0, 0), (19, 36, 0, 0, 0, 0), (5, 36, 0, 0, 0, 0), (6, 36, 0, 0, 0, 0), (4, 48, 30, 30, 0, 0), (4, 84, 236, 37, 0, 0), (5, 37, 0, 0, 0, 0), (7, 48, 37, 37, 0, 0), (6, 37, 0, 0, 0, 0), (4, 48, 34, 38, 0, 0), (19, 38, 0, 0, 0, 0), (5, 38, 0, 0, 0, 0), (6, 38, 0, 0, 0, 0), (4, 48, 42, 39, 0, 0), (19, 39, 0, 0, 0, 0), (5, 39, 0, 0, 0, 0), (6, 39, 0, 0, 0, 0), (4, 48, 50, 32, 0, 0), (5, 32, 0, 0, 0, 0), (7, 43, 32, 32, 0, 0), (6, 32, 0, 0, 0, 0), (4, 43, 46, 168, 0, 0), (14, 168, 0, 0, 0, 0), (6, 168, 0, 0, 0, 0), (15, 48, 45, 1000000, 0, 0), (4, 48, 46, 40, 0, 0), (19, 40, 0, 0, 0, 0), (5, 40, 0, 0, 0, 0), (6, 40, 0, 0, 0, 0), (4, 48, 54, 31, 0, 0), (4, 48, 38, 41, 0, 0), (19, 41, 0, 0, 0, 0), (5, 41, 0, 0, 0, 0), (6, 41, 0, 0, 0, 0), (4, 48, 58, 25, 0, 0), (4, 158, 76, 81, 0, 0)]
def iv_wc3 : List (Nat × Nat × Nat × Nat × Nat × Nat) := [(5, 81, 0, 0, 0, 0), (7, 84, 81, 81, 0, 0), (6, 81, 0, 0, 0, 0), (4, 84, 155, 26, 0, 0), (4, 158, 80, 82, 0, 0), (5, 82, 0, 0, 0, 0), (7, 84, 82, 82, 0, 0), (6, 82, 0, 0, 0, 0), (4, 84, 158, 105, 0, 0), (19, 105, 0, 0, 0, 0), (5, 105, 0, 0, 0, 0), (6, 105, 0, 0, 0, 0), (4, 84, 161, 106, 0, 0), (19, 106, 0, 0, 0, 0), (5, 106, 0, 0, 0, 0), (6, 106, 0, 0, 0, 0), (4, 158, 84, 83, 0, 0), (5, 83, 0, 0, 0, 0), (7, 84, 83, 83, 0, 0), (6, 83, 0, 0, 0, 0), (4, 84, 164, 15, 0, 0), (5, 15, 0, 0, 0, 0), (7, 21, 15, 15, 0, 0), (6, 15, 0, 0, 0, 0), (4, 158, 88, 84, 0, 0), (5, 84, 0, 0, 0, 0), (7, 84, 84, 84, 0, 0), (6, 84, 0, 0, 0, 0), (4, 84, 170, 107, 0, 0), (19, 107, 0, 0, 0, 0), (5, 107, 0, 0, 0, 0), (6, 107, 0, 0, 0, 0), (4, 84, 173, 2, 0, 0), (5, 2, 0, 0, 0, 0), (7, 0, 2, 2, 0, 0), (6, 2, 0, 0, 0, 0), (4, 0, 27, 3, 0, 0), (19, 3, 0, 0, 0, 0), (5, 3, 0, 0, 0, 0), (6, 3, 0, 0, 0, 0), (13, 0, 31, 98, 84, 0), (4, 0, 35, 4, 0, 0), (19, 4, 0, 0, 0, 0), (5, 4, 0, 0, 0, 0), (6, 4, 0, 0, 0, 0), (4, 0, 39, 6, 0, 0), (19, 6, 0, 0, 0, 0), (5, 6, 0, 0, 0, 0), (6, 6, 0, 0, 0, 0), (4, 0, 43, 5, 0, 0), (19, 5, 0, 0, 0, 0), (5, 5, 0, 0, 0, 0), (6, 5, 0, 0, 0, 0), (4, 84, 176, 7, 0, 0), (5, 7, 0, 0, 0, 0), (7, 0, 7, 7, 0, 0), (6, 7, 0, 0, 0, 0), (4, 84, 179, 8, 0, 0), (5, 8, 0, 0, 0, 0), (7, 0, 8, 8, 0, 0), (6, 8, 0, 0, 0, 0), (4, 0, 47, 9, 0, 0), (19, 9, 0, 0, 0, 0), (5, 9, 0, 0, 0, 0), (6, 9, 0, 0, 0, 0), (4, 0, 51, 10, 0, 0), (19, 10, 0, 0, 0, 0), (5, 10, 0, 0, 0, 0), (6, 10, 0, 0, 0, 0), (4, 158, 92, 85, 0, 0), (5, 85, 0, 0, 0, 0), (7, 84, 85, 85, 0, 0), (6, 85, 0, 0, 0, 0), (4, 158, 96, 86, 0, 0), (5, 86, 0, 0, 0, 0), (7, 84, 86, 86, 0, 0), (6, 86, 0, 0, 0, 0), (4, 84, 182, 1, 0, 0), (5, 1, 0, 0, 0, 0), (7, 0, 1, 1, 0, 0), (6, 1, 0, 0, 0, 0), (4, 158, 100, 87, 0, 0), (5, 87, 0, 0, 0, 0), (7, 84, 87, 87, 0, 0), (6, 87, 0, 0, 0, 0), (4, 84, 188, 23, 0, 0), (5, 23, 0, 0, 0, 0), (7, 29, 23, 23, 0, 0), (6, 23, 0, 0, 0, 0), (4, 158, 104, 88, 0, 0), (5, 88, 0, 0, 0, 0), (7, 84, 88, 88, 0, 0), (6, 88, 0, 0, 0, 0), (4, 158, 108, 89, 0, 0), (5, 89, 0, 0, 0, 0), (7, 84, 89, 89, 0, 0), (6, 89, 0, 0, 0, 0), (4, 84, 194, 43, 0, 0), (5, 43, 0, 0, 0, 0), (7, 58, 43, 43, 0, 0), (6, 43, 0, 0, 0, 0), (4, 158, 112, 90, 0, 0), (5, 90, 0, 0, 0, 0), (7, 84, 90, 90, 0, 0), (6, 90, 0, 0, 0, 0), (4, 158, 116, 91, 0, 0), (5, 91, 0, 0, 0, 0), (7, 84, 91, 91, 0, 0), (6, 91, 0, 0, 0, 0), (4, 84, 198, 99, 0, 0), (14, 99, 0, 0, 0, 0), (6, 99, 0, 0, 0, 0), (4, 84, 201, 44, 0, 0), (5, 44, 0, 0, 0, 0), (7, 58, 44, 44, 0, 0), (6, 44, 0, 0, 0, 0), (4, 58, 28, 47, 0, 0), (19, 47, 0, 0, 0, 0), (5, 47, 0, 0, 0, 0), (6, 47, 0, 0, 0, 0), (4, 58, 32, 48, 0, 0), (19, 48, 0, 0, 0, 0), (5, 48, 0, 0, 0, 0), (6, 48, 0, 0, 0, 0), (4, 58, 44, 49, 0, 0), (19, 49, 0, 0, 0, 0), (5, 49, 0, 0, 0, 0), (6, 49, 0, 0, 0, 0), (4, 58, 47, 167, 0, 0), (14, 167, 0, 0, 0, 0), (6, 167, 0, 0, 0, 0), (15, 153, 265, 1431655765, 0, 0), (15, 153, 266, 858993459, 0, 0), (15, 153, 267, 252645135, 0, 0), (13, 58, 36, 98, 84, 0), (4, 158, 120, 92, 0, 0), (5, 92, 0, 0, 0, 0), (7, 84, 92, 92, 0, 0), (6, 92, 0, 0, 0, 0), (4, 84, 204, 45, 0, 0), (5, 45, 0, 0, 0, 0), (7, 58, 45, 45, 0, 0), (6, 45, 0, 0, 0, 0), (4, 158, 124, 93, 0, 0), (5, 93, 0, 0, 0, 0), (7, 84, 93, 93, 0, 0), (6, 93, 0, 0, 0, 0), (4, 84, 207, 46, 0, 0), (5, 46, 0, 0, 0, 0), (7, 58, 46, 46, 0, 0), (6, 46, 0, 0, 0, 0), (4, 58, 40, 44, 0, 0), (4, 158, 128, 94, 0, 0), (5, 94, 0, 0, 0, 0), (7, 84, 94, 94, 0, 0), (6, 94, 0, 0, 0, 0), (4, 84, 210, 27, 0, 0), (14, 27, 0, 0, 0, 0), (6, 27, 0, 0, 0, 0), (4, 37, 9, 26, 0, 0), (4, 37, 15, 24, 0, 0), (4, 37, 19, 25, 0, 0), (4, 84, 213, 102, 0, 0), (19, 102, 0, 0, 0, 0), (5, 102, 0, 0, 0, 0), (6, 102, 0, 0, 0, 0), (4, 158, 132, 95, 0, 0), (5, 95, 0, 0, 0, 0), (7, 84, 95, 95, 0, 0), (6, 95, 0, 0, 0, 0), (4, 84, 216, 19, 0, 0), (5, 19, 0, 0, 0, 0), (7, 29, 19, 19, 0, 0), (6, 19, 0, 0, 0, 0), (4, 158, 136, 96, 0, 0), (5, 96, 0, 0, 0, 0), (7, 84, 96, 96, 0, 0), (6, 96, 0, 0, 0, 0), (4, 158, 140, 97, 0, 0), (5, 97, 0, 0, 0, 0), (7, 84, 97, 97, 0, 0), (6, 97, 0, 0, 0, 0), (4, 84, 223, 167, 0, 0), (4, 84, 228, 101, 0, 0), (19, 101, 0, 0, 0, 0), (5, 101, 0, 0, 0, 0), (6, 101, 0, 0, 0, 0), (2, 158, 10, 128, 0, 0), (3, 128, 37, 0, 0, 0), (4, 158, 12, 108, 0, 0), (5, 108, 0, 0, 0, 0), (6, 108, 0, 0, 0, 0), (4, 128, 1, 1000, 0, 0), (8, 128, 7, 128, 211, 162), (8, 128, 13, 128, 212, 162), (8, 128, 16, 128, 213, 162), (8, 128, 19, 128, 214, 162), (8, 128, 129, 128, 215, 168), (8, 128, 123, 128, 216, 168), (8, 128, 116, 128, 217, 168), (8, 128, 22, 128, 183, 162), (8, 128, 25, 128, 218, 162), (8, 128, 28, 128, 93, 162), (8, 128, 31, 128, 172, 162), (8, 128, 34, 128, 163, 162), (8, 128, 86, 128, 92, 168), (8, 128, 149, 128, 169, 168), (8, 128, 152, 128, 170, 168), (8, 128, 155, 128, 174, 168), (8, 128, 37, 128, 194, 162), (8, 128, 96, 128, 180, 168), (8, 128, 104, 128, 83, 168), (8, 128, 101, 128, 219, 168), (8, 128, 40, 128, 220, 162), (8, 128, 162, 128, 221, 168), (8, 128, 43, 128, 222, 162), (8, 128, 46, 128, 223, 224), (8, 128, 50, 128, 225, 224), (8, 128, 53, 128, 226, 162), (8, 128, 218, 128, 185, 168), (8, 128, 56, 128, 227, 162), (8, 128, 59, 128, 187, 162), (8, 128, 62, 128, 228, 162), (8, 128, 65, 128, 229, 162), (8, 128, 68, 128, 230, 224), (8, 128, 71, 128, 231, 162), (8, 128, 74, 128, 232, 162), (8, 128, 77, 128, 233, 162), (8, 128, 80, 128, 234, 162), (8, 128, 83, 128, 235, 162), (10, 128, 128, 211, 162, 0), (11, 128, 211, 0, 0, 0), (10, 128, 128, 212, 162, 0), (11, 128, 212, 0, 0, 0), (10, 128, 128, 213, 162, 0), (11, 128, 213, 0, 0, 0), (10, 128, 128, 214, 162, 0), (11, 128, 214, 0, 0, 0), (9, 128, 128, 215, 168, 0), (11, 128, 215, 0, 0, 0)]
def iv_wc4 : List (Nat × Nat × Nat × Nat × Nat × Nat) := [(9, 128, 128, 216, 168, 0), (11, 128, 216, 0, 0, 0), (9, 128, 128, 217, 168, 0), (11, 128, 217, 0, 0, 0), (10, 128, 128, 183, 162, 0), (11, 128, 183, 0, 0, 0), (10, 128, 128, 218, 162, 0), (11, 128, 218, 0, 0, 0), (10, 128, 128, 93, 162, 0), (11, 128, 93, 0, 0, 0), (10, 128, 128, 172, 162, 0), (11, 128, 172, 0, 0, 0), (10, 128, 128, 163, 162, 0), (11, 128, 163, 0, 0, 0), (9, 128, 128, 92, 168, 0), (11, 128, 92, 0, 0, 0), (9, 128, 128, 169, 168, 0), (11, 128, 169, 0, 0, 0), (9, 128, 128, 170, 168, 0), (11, 128, 170, 0, 0, 0), (9, 128, 128, 174, 168, 0), (11, 128, 174, 0, 0, 0), (10, 128, 128, 194, 162, 0), (11, 128, 194, 0, 0, 0), (9, 128, 128, 180, 168, 0), (11, 128, 180, 0, 0, 0), (9, 128, 128, 83, 168, 0), (11, 128, 83, 0, 0, 0), (9, 128, 128, 219, 168, 0), (11, 128, 219, 0, 0, 0), (10, 128, 128, 220, 162, 0), (11, 128, 220, 0, 0, 0), (9, 128, 128, 221, 168, 0), (11, 128, 221, 0, 0, 0), (10, 128, 128, 222, 162, 0), (11, 128, 222, 0, 0, 0), (10, 128, 128, 223, 224, 0), (11, 128, 223, 0, 0, 0), (10, 128, 128, 225, 224, 0), (11, 128, 225, 0, 0, 0), (10, 128, 128, 226, 162, 0), (11, 128, 226, 0, 0, 0), (9, 128, 128, 185, 168, 0), (11, 128, 185, 0, 0, 0), (10, 128, 128, 227, 162, 0), (11, 128, 227, 0, 0, 0), (10, 128, 128, 187, 162, 0), (11, 128, 187, 0, 0, 0), (10, 128, 128, 228, 162, 0), (11, 128, 228, 0, 0, 0), (10, 128, 128, 229, 162, 0), (11, 128, 229, 0, 0, 0), (10, 128, 128, 230, 224, 0), (11, 128, 230, 0, 0, 0), (10, 128, 128, 231, 162, 0), (11, 128, 231, 0, 0, 0), (10, 128, 128, 232, 162, 0), (11, 128, 232, 0, 0, 0), (10, 128, 128, 233, 162, 0), (11, 128, 233, 0, 0, 0), (10, 128, 128, 234, 162, 0), (11, 128, 234, 0, 0, 0), (10, 128, 128, 235, 162, 0), (11, 128, 235, 0, 0, 0), (12, 128, 236, 0, 0, 0), (17, 1, 0, 0, 0, 0), (4, 158, 19, 110, 0, 0), (5, 110, 0, 0, 0, 0), (7, 128, 110, 110, 0, 0), (6, 110, 0, 0, 0, 0), (16, 128, 90, 8, 0, 0), (4, 128, 92, 109, 0, 0), (14, 109, 0, 0, 0, 0), (6, 109, 0, 0, 0, 0), (16, 128, 99, 255, 0, 0), (4, 158, 24, 111, 0, 0), (5, 111, 0, 0, 0, 0), (7, 128, 111, 111, 0, 0), (6, 111, 0, 0, 0, 0), (4, 158, 28, 120, 0, 0), (5, 120, 0, 0, 0, 0), (7, 128, 120, 120, 0, 0), (6, 120, 0, 0, 0, 0), (4, 128, 146, 117, 0, 0), (19, 117, 0, 0, 0, 0), (5, 117, 0, 0, 0, 0), (6, 117, 0, 0, 0, 0), (4, 128, 107, 112, 0, 0), (19, 112, 0, 0, 0, 0), (5, 112, 0, 0, 0, 0), (6, 112, 0, 0, 0, 0), (4, 128, 126, 114, 0, 0), (19, 114, 0, 0, 0, 0), (5, 114, 0, 0, 0, 0), (6, 114, 0, 0, 0, 0), (16, 128, 111, 9, 0, 0), (4, 128, 113, 113, 0, 0), (19, 113, 0, 0, 0, 0), (5, 113, 0, 0, 0, 0), (6, 113, 0, 0, 0, 0), (4, 128, 132, 119, 0, 0), (19, 119, 0, 0, 0, 0), (5, 119, 0, 0, 0, 0), (6, 119, 0, 0, 0, 0), (16, 128, 138, 97, 0, 0), (16, 128, 140, 102, 0, 0), (4, 128, 142, 118, 0, 0), (19, 118, 0, 0, 0, 0), (5, 118, 0, 0, 0, 0), (6, 118, 0, 0, 0, 0), (4, 128, 135, 115, 0, 0), (19, 115, 0, 0, 0, 0), (5, 115, 0, 0, 0, 0), (6, 115, 0, 0, 0, 0), (4, 128, 119, 116, 0, 0), (19, 116, 0, 0, 0, 0), (5, 116, 0, 0, 0, 0), (6, 116, 0, 0, 0, 0), (4, 158, 32, 121, 0, 0), (5, 121, 0, 0, 0, 0), (7, 128, 121, 121, 0, 0), (6, 121, 0, 0, 0, 0), (4, 158, 37, 124, 0, 0), (5, 124, 0, 0, 0, 0), (7, 128, 124, 124, 0, 0), (6, 124, 0, 0, 0, 0), (4, 128, 158, 122, 0, 0), (19, 122, 0, 0, 0, 0), (5, 122, 0, 0, 0, 0), (6, 122, 0, 0, 0, 0), (4, 158, 41, 128, 0, 0), (5, 128, 0, 0, 0, 0), (7, 128, 128, 128, 0, 0), (6, 128, 0, 0, 0, 0), (4, 128, 172, 127, 0, 0), (19, 127, 0, 0, 0, 0), (5, 127, 0, 0, 0, 0), (6, 127, 0, 0, 0, 0), (4, 128, 169, 126, 0, 0), (19, 126, 0, 0, 0, 0), (5, 126, 0, 0, 0, 0), (6, 126, 0, 0, 0, 0), (4, 128, 165, 125, 0, 0), (14, 125, 0, 0, 0, 0), (6, 125, 0, 0, 0, 0), (4, 158, 46, 131, 0, 0), (5, 131, 0, 0, 0, 0), (7, 128, 131, 131, 0, 0), (6, 131, 0, 0, 0, 0), (4, 128, 176, 129, 0, 0), (19, 129, 0, 0, 0, 0), (5, 129, 0, 0, 0, 0), (6, 129, 0, 0, 0, 0), (4, 128, 179, 130, 0, 0), (19, 130, 0, 0, 0, 0), (5, 130, 0, 0, 0, 0), (6, 130, 0, 0, 0, 0), (4, 158, 50, 132, 0, 0), (5, 132, 0, 0, 0, 0), (7, 128, 132, 132, 0, 0), (6, 132, 0, 0, 0, 0), (4, 158, 54, 134, 0, 0), (5, 134, 0, 0, 0, 0), (7, 128, 134, 134, 0, 0), (6, 134, 0, 0, 0, 0), (4, 128, 182, 133, 0, 0), (19, 133, 0, 0, 0, 0), (5, 133, 0, 0, 0, 0), (6, 133, 0, 0, 0, 0), (4, 158, 58, 135, 0, 0), (5, 135, 0, 0, 0, 0), (7, 128, 135, 135, 0, 0), (6, 135, 0, 0, 0, 0), (16, 128, 185, 99, 0, 0), (4, 158, 62, 136, 0, 0), (5, 136, 0, 0, 0, 0), (7, 128, 136, 136, 0, 0), (6, 136, 0, 0, 0, 0), (4, 158, 67, 138, 0, 0), (5, 138, 0, 0, 0, 0), (7, 128, 138, 138, 0, 0), (6, 138, 0, 0, 0, 0), (4, 128, 187, 123, 0, 0), (19, 123, 0, 0, 0, 0), (5, 123, 0, 0, 0, 0), (6, 123, 0, 0, 0, 0), (4, 128, 190, 137, 0, 0), (19, 137, 0, 0, 0, 0), (5, 137, 0, 0, 0, 0), (6, 137, 0, 0, 0, 0), (4, 158, 71, 139, 0, 0), (5, 139, 0, 0, 0, 0), (7, 128, 139, 139, 0, 0), (6, 139, 0, 0, 0, 0), (4, 158, 75, 141, 0, 0), (5, 141, 0, 0, 0, 0), (7, 128, 141, 141, 0, 0), (6, 141, 0, 0, 0, 0), (4, 128, 194, 140, 0, 0), (19, 140, 0, 0, 0, 0), (5, 140, 0, 0, 0, 0), (6, 140, 0, 0, 0, 0), (4, 158, 79, 142, 0, 0), (5, 142, 0, 0, 0, 0), (7, 128, 142, 142, 0, 0), (6, 142, 0, 0, 0, 0), (4, 158, 83, 144, 0, 0), (5, 144, 0, 0, 0, 0), (7, 128, 144, 144, 0, 0), (6, 144, 0, 0, 0, 0), (4, 128, 197, 143, 0, 0), (19, 143, 0, 0, 0, 0), (5, 143, 0, 0, 0, 0), (6, 143, 0, 0, 0, 0), (4, 158, 87, 147, 0, 0), (5, 147, 0, 0, 0, 0), (7, 128, 147, 147, 0, 0), (6, 147, 0, 0, 0, 0), (4, 128, 200, 145, 0, 0), (19, 145, 0, 0, 0, 0), (5, 145, 0, 0, 0, 0), (6, 145, 0, 0, 0, 0), (4, 128, 203, 146, 0, 0), (19, 146, 0, 0, 0, 0), (5, 146, 0, 0, 0, 0), (6, 146, 0, 0, 0, 0), (4, 158, 91, 150, 0, 0), (5, 150, 0, 0, 0, 0), (7, 128, 150, 150, 0, 0), (6, 150, 0, 0, 0, 0), (4, 128, 209, 148, 0, 0), (19, 148, 0, 0, 0, 0), (5, 148, 0, 0, 0, 0), (6, 148, 0, 0, 0, 0), (4, 128, 206, 149, 0, 0), (19, 149, 0, 0, 0, 0), (5, 149, 0, 0, 0, 0), (6, 149, 0, 0, 0, 0), (4, 158, 95, 152, 0, 0), (5, 152, 0, 0, 0, 0)]
def iv_wc5 : List (Nat × Nat × Nat × Nat × Nat × Nat) := [(7, 128, 152, 152, 0, 0), (6, 152, 0, 0, 0, 0), (4, 128, 213, 151, 0, 0), (19, 151, 0, 0, 0, 0), (5, 151, 0, 0, 0, 0), (6, 151, 0, 0, 0, 0), (4, 158, 99, 153, 0, 0), (5, 153, 0, 0, 0, 0), (7, 128, 153, 153, 0, 0), (6, 153, 0, 0, 0, 0), (4, 158, 103, 154, 0, 0), (5, 154, 0, 0, 0, 0), (7, 128, 154, 154, 0, 0), (6, 154, 0, 0, 0, 0), (4, 158, 107, 155, 0, 0), (5, 155, 0, 0, 0, 0), (7, 128, 155, 155, 0, 0), (6, 155, 0, 0, 0, 0), (4, 158, 111, 156, 0, 0), (5, 156, 0, 0, 0, 0), (7, 128, 156, 156, 0, 0), (6, 156, 0, 0, 0, 0), (16, 128, 216, 7, 0, 0), (4, 158, 115, 157, 0, 0), (5, 157, 0, 0, 0, 0), (7, 128, 157, 157, 0, 0), (6, 157, 0, 0, 0, 0), (4, 158, 119, 160, 0, 0), (5, 160, 0, 0, 0, 0), (7, 128, 160, 160, 0, 0), (6, 160, 0, 0, 0, 0), (4, 128, 224, 158, 0, 0), (19, 158, 0, 0, 0, 0), (5, 158, 0, 0, 0, 0), (6, 158, 0, 0, 0, 0), (4, 128, 221, 159, 0, 0), (19, 159, 0, 0, 0, 0), (5, 159, 0, 0, 0, 0), (6, 159, 0, 0, 0, 0), (4, 158, 123, 161, 0, 0), (5, 161, 0, 0, 0, 0), (7, 128, 161, 161, 0, 0), (6, 161, 0, 0, 0, 0), (4, 158, 127, 162, 0, 0), (5, 162, 0, 0, 0, 0), (7, 128, 162, 162, 0, 0), (6, 162, 0, 0, 0, 0), (4, 158, 131, 163, 0, 0), (5, 163, 0, 0, 0, 0), (7, 128, 163, 163, 0, 0), (6, 163, 0, 0, 0, 0), (16, 128, 227, 5, 0, 0), (4, 158, 135, 164, 0, 0), (5, 164, 0, 0, 0, 0), (7, 128, 164, 164, 0, 0), (6, 164, 0, 0, 0, 0), (4, 158, 139, 165, 0, 0), (5, 165, 0, 0, 0, 0), (7, 128, 165, 165, 0, 0), (6, 165, 0, 0, 0, 0), (4, 158, 143, 166, 0, 0), (5, 166, 0, 0, 0, 0), (7, 128, 166, 166, 0, 0), (6, 166, 0, 0, 0, 0), (16, 158, 13, 4294967295, 0, 0)]
def iv_WC : List (List (Nat × Nat × Nat × Nat × Nat × Nat)) := [[(7, 66, 52, 52, 0, 0), (7, 66, 53, 53, 0, 0), (7, 66, 54, 54, 0, 0), (7, 66, 56, 56, 0, 0), (7, 66, 57, 57, 0, 0), (7, 66, 58, 58, 0, 0), (7, 66, 55, 55, 0, 0), (7, 66, 59, 59, 0, 0), (7, 66, 60, 60, 0, 0), (7, 66, 62, 62, 0, 0), (7, 66, 61, 61, 0, 0), (7, 84, 100, 100, 0, 0), (7, 84, 104, 104, 0, 0), (7, 84, 103, 103, 0, 0), (7, 48, 36, 36, 0, 0), (7, 48, 38, 38, 0, 0), (7, 48, 39, 39, 0, 0), (7, 48, 40, 40, 0, 0), (7, 48, 41, 41, 0, 0), (7, 84, 105, 105, 0, 0), (7, 84, 106, 106, 0, 0), (7, 84, 107, 107, 0, 0), (7, 0, 3, 3, 0, 0), (7, 0, 4, 4, 0, 0), (7, 0, 6, 6, 0, 0), (7, 0, 5, 5, 0, 0), (7, 0, 9, 9, 0, 0), (7, 0, 10, 10, 0, 0), (7, 58, 47, 47, 0, 0), (7, 58, 48, 48, 0, 0), (7, 58, 49, 49, 0, 0), (7, 84, 102, 102, 0, 0)],
  [(7, 84, 101, 101, 0, 0), (7, 128, 117, 117, 0, 0), (7, 128, 112, 112, 0, 0), (7, 128, 114, 114, 0, 0), (7, 128, 113, 113, 0, 0), (7, 128, 119, 119, 0, 0), (7, 128, 118, 118, 0, 0), (7, 128, 115, 115, 0, 0), (7, 128, 116, 116, 0, 0), (7, 128, 122, 122, 0, 0), (7, 128, 127, 127, 0, 0), (7, 128, 126, 126, 0, 0), (7, 128, 129, 129, 0, 0), (7, 128, 130, 130, 0, 0), (7, 128, 133, 133, 0, 0), (7, 128, 123, 123, 0, 0), (7, 128, 137, 137, 0, 0), (7, 128, 140, 140, 0, 0), (7, 128, 143, 143, 0, 0), (7, 128, 145, 145, 0, 0), (7, 128, 146, 146, 0, 0), (7, 128, 148, 148, 0, 0), (7, 128, 149, 149, 0, 0), (7, 128, 151, 151, 0, 0), (7, 128, 158, 158, 0, 0), (7, 128, 159, 159, 0, 0), (1, 158, 0, 0, 0, 0), (1, 84, 0, 0, 0, 0), (1, 81, 0, 0, 0, 0), (1, 66, 0, 0, 0, 0), (1, 21, 0, 0, 0, 0), (1, 29, 0, 0, 0, 0)],
  [(1, 43, 0, 0, 0, 0), (1, 48, 0, 0, 0, 0), (1, 0, 0, 0, 0, 0), (1, 58, 0, 0, 0, 0), (1, 128, 0, 0, 0, 0), (1, 37, 0, 0, 0, 0), (1, 155, 0, 0, 0, 0), (1, 153, 0, 0, 0, 0), (2, 158, 7, 84, 0, 0), (3, 84, 9, 0, 0, 0), (4, 158, 9, 66, 0, 0), (5, 66, 0, 0, 0, 0), (6, 66, 0, 0, 0, 0), (4, 84, 1, 1000, 0, 0), (5, 1000, 0, 0, 0, 0), (6, 1000, 0, 0, 0, 0), (2, 84, 7, 81, 0, 0), (3, 81, 2, 0, 0, 0), (13, 84, 9, 63, 84, 0), (5, 63, 0, 0, 0, 0), (6, 63, 0, 0, 0, 0), (4, 81, 3, 1000, 0, 0), (8, 81, 9, 81, 193, 162), (8, 81, 15, 81, 180, 168), (8, 84, 69, 81, 180, 168), (8, 66, 37, 81, 180, 168), (10, 81, 81, 193, 162, 0), (11, 81, 193, 0, 0, 0), (9, 81, 81, 180, 168, 0), (11, 81, 180, 0, 0, 0), (12, 81, 236, 0, 0, 0), (17, 0, 0, 0, 0, 0)],
  [(2, 84, 16, 66, 0, 0), (3, 66, 11, 0, 0, 0), (13, 84, 18, 50, 84, 0), (5, 50, 0, 0, 0, 0), (6, 50, 0, 0, 0, 0), (4, 66, 3, 1000, 0, 0), (8, 66, 9, 66, 171, 162), (8, 29, 30, 66, 171, 162), (8, 66, 15, 66, 173, 162), (8, 29, 31, 66, 173, 162), (8, 66, 18, 66, 163, 162), (8, 21, 30, 66, 163, 162), (8, 66, 21, 66, 167, 168), (8, 21, 15, 66, 167, 168), (8, 66, 25, 66, 169, 168), (8, 21, 22, 66, 169, 168), (8, 29, 25, 66, 169, 168), (8, 66, 28, 66, 170, 168), (8, 21, 26, 66, 170, 168), (8, 66, 31, 66, 190, 168), (8, 66, 34, 66, 191, 168), (8, 66, 75, 66, 179, 168), (8, 66, 78, 66, 183, 168), (8, 66, 90, 66, 192, 168), (10, 66, 66, 171, 162, 0), (11, 66, 171, 0, 0, 0), (10, 66, 66, 173, 162, 0), (11, 66, 173, 0, 0, 0), (10, 66, 66, 163, 162, 0), (11, 66, 163, 0, 0, 0), (9, 66, 66, 167, 168, 0), (11, 66, 167, 0, 0, 0)],
  [(9, 66, 66, 169, 168, 0), (11, 66, 169, 0, 0, 0), (9, 66, 66, 170, 168, 0), (11, 66, 170, 0, 0, 0), (9, 66, 66, 190, 168, 0), (11, 66, 190, 0, 0, 0), (9, 66, 66, 191, 168, 0), (11, 66, 191, 0, 0, 0), (9, 66, 66, 179, 168, 0), (11, 66, 179, 0, 0, 0), (9, 66, 66, 183, 168, 0), (11, 66, 183, 0, 0, 0), (9, 66, 66, 192, 168, 0), (11, 66, 192, 0, 0, 0), (12, 66, 236, 0, 0, 0), (2, 84, 23, 21, 0, 0), (3, 21, 4, 0, 0, 0), (13, 84, 25, 11, 84, 0), (5, 11, 0, 0, 0, 0), (6, 11, 0, 0, 0, 0), (4, 21, 3, 1000, 0, 0), (8, 21, 9, 21, 163, 162), (8, 84, 167, 21, 163, 162), (8, 21, 21, 21, 167, 168), (8, 84, 220, 21, 167, 168), (8, 21, 25, 21, 169, 168), (8, 84, 96, 21, 169, 168), (8, 21, 29, 21, 170, 168), (8, 84, 99, 21, 170, 168), (10, 21, 21, 163, 162, 0), (11, 21, 163, 0, 0, 0), (9, 21, 21, 167, 168, 0)],
  [(11, 21, 167, 0, 0, 0), (9, 21, 21, 169, 168, 0), (11, 21, 169, 0, 0, 0), (9, 21, 21, 170, 168, 0), (11, 21, 170, 0, 0, 0), (12, 21, 236, 0, 0, 0), (2, 84, 30, 29, 0, 0), (3, 29, 5, 0, 0, 0), (13, 84, 32, 17, 84, 0), (5, 17, 0, 0, 0, 0), (6, 17, 0, 0, 0, 0), (4, 29, 3, 1000, 0, 0), (8, 29, 9, 29, 171, 162), (8, 84, 106, 29, 171, 162), (8, 29, 15, 29, 172, 162), (8, 84, 136, 29, 172, 162), (8, 29, 18, 29, 173, 162), (8, 84, 129, 29, 173, 162), (8, 29, 21, 29, 174, 168), (8, 84, 139, 29, 174, 168), (8, 84, 92, 29, 175, 176), (10, 29, 29, 171, 162, 0), (11, 29, 171, 0, 0, 0), (10, 29, 29, 172, 162, 0), (11, 29, 172, 0, 0, 0), (10, 29, 29, 173, 162, 0), (11, 29, 173, 0, 0, 0), (9, 29, 29, 174, 168, 0), (11, 29, 174, 0, 0, 0), (9, 29, 29, 175, 176, 0), (11, 29, 175, 0, 0, 0), (12, 29, 236, 0, 0, 0)],
  [(18, 0, 0, 0, 0, 0), (2, 84, 41, 43, 0, 0), (3, 43, 3, 0, 0, 0), (13, 84, 43, 28, 84, 0), (5, 28, 0, 0, 0, 0), (6, 28, 0, 0, 0, 0), (4, 43, 3, 1000, 0, 0), (2, 43, 9, 178, 0, 0), (18, 1, 0, 0, 0, 0), (8, 43, 11, 43, 177, 178), (8, 43, 38, 43, 179, 168), (8, 43, 34, 43, 180, 168), (10, 43, 43, 177, 178, 0), (11, 43, 177, 0, 0, 0), (9, 43, 43, 179, 168, 0), (11, 43, 179, 0, 0, 0), (9, 43, 43, 180, 168, 0), (11, 43, 180, 0, 0, 0), (12, 43, 236, 0, 0, 0), (2, 84, 48, 48, 0, 0), (3, 48, 3, 0, 0, 0), (4, 84, 50, 33, 0, 0), (5, 33, 0, 0, 0, 0), (6, 33, 0, 0, 0, 0), (4, 48, 3, 1000, 0, 0), (2, 48, 15, 43, 0, 0), (18, 2, 0, 0, 0, 0), (13, 48, 21, 28, 84, 0), (8, 48, 17, 48, 181, 182), (8, 48, 9, 48, 183, 162), (8, 48, 22, 48, 184, 168), (10, 48, 48, 181, 182, 0)],
  [(11, 48, 181, 0, 0, 0), (10, 48, 48, 183, 162, 0), (11, 48, 183, 0, 0, 0), (9, 48, 48, 184, 168, 0), (11, 48, 184, 0, 0, 0), (12, 48, 236, 0, 0, 0), (2, 84, 55, 0, 0, 0), (3, 0, 5, 0, 0, 0), (13, 84, 57, 0, 84, 0), (5, 0, 0, 0, 0, 0), (6, 0, 0, 0, 0, 0), (4, 0, 3, 1000, 0, 0), (8, 0, 9, 0, 161, 162), (8, 84, 185, 0, 161, 162), (8, 0, 15, 0, 163, 162), (8, 84, 239, 0, 163, 162), (8, 0, 18, 0, 164, 162), (8, 84, 240, 0, 164, 162), (8, 0, 21, 0, 165, 162), (8, 0, 24, 0, 166, 162), (10, 0, 0, 161, 162, 0), (11, 0, 161, 0, 0, 0), (10, 0, 0, 163, 162, 0), (11, 0, 163, 0, 0, 0), (10, 0, 0, 164, 162, 0), (11, 0, 164, 0, 0, 0), (10, 0, 0, 165, 162, 0), (11, 0, 165, 0, 0, 0), (10, 0, 0, 166, 162, 0), (11, 0, 166, 0, 0, 0), (12, 0, 236, 0, 0, 0), (2, 84, 62, 58, 0, 0)],
  [(3, 58, 5, 0, 0, 0), (13, 84, 64, 42, 84, 0), (5, 42, 0, 0, 0, 0), (6, 42, 0, 0, 0, 0), (4, 58, 3, 1000, 0, 0), (8, 58, 24, 58, 185, 168), (8, 84, 191, 58, 185, 168), (8, 58, 9, 58, 186, 162), (8, 58, 15, 58, 187, 162), (8, 58, 18, 58, 188, 162), (8, 58, 21, 58, 189, 162), (9, 58, 58, 185, 168, 0), (11, 58, 185, 0, 0, 0), (10, 58, 58, 186, 162, 0), (11, 58, 186, 0, 0, 0), (10, 58, 58, 187, 162, 0), (11, 58, 187, 0, 0, 0), (10, 58, 58, 188, 162, 0), (11, 58, 188, 0, 0, 0), (10, 58, 58, 189, 162, 0), (11, 58, 189, 0, 0, 0), (12, 58, 236, 0, 0, 0), (8, 84, 10, 84, 194, 195), (8, 84, 19, 84, 196, 197), (8, 84, 26, 84, 89, 198), (8, 84, 33, 84, 199, 200), (8, 84, 37, 84, 201, 202), (8, 84, 44, 84, 203, 204), (8, 84, 51, 84, 205, 206), (8, 84, 58, 84, 207, 208), (8, 84, 65, 84, 209, 210), (10, 84, 84, 194, 195, 0)],
  [(11, 84, 194, 0, 0, 0), (10, 84, 84, 196, 197, 0), (11, 84, 196, 0, 0, 0), (10, 84, 84, 89, 198, 0), (11, 84, 89, 0, 0, 0), (10, 84, 84, 199, 200, 0), (11, 84, 199, 0, 0, 0), (10, 84, 84, 201, 202, 0), (11, 84, 201, 0, 0, 0), (10, 84, 84, 203, 204, 0), (11, 84, 203, 0, 0, 0), (10, 84, 84, 205, 206, 0), (11, 84, 205, 0, 0, 0), (10, 84, 84, 207, 208, 0), (11, 84, 207, 0, 0, 0), (10, 84, 84, 209, 210, 0), (11, 84, 209, 0, 0, 0), (12, 84, 236, 0, 0, 0), (4, 158, 15, 67, 0, 0), (5, 67, 0, 0, 0, 0), (7, 84, 67, 67, 0, 0), (6, 67, 0, 0, 0, 0), (4, 84, 73, 64, 0, 0), (5, 64, 0, 0, 0, 0), (7, 81, 64, 64, 0, 0), (6, 64, 0, 0, 0, 0), (4, 158, 20, 68, 0, 0), (5, 68, 0, 0, 0, 0), (7, 84, 68, 68, 0, 0), (6, 68, 0, 0, 0, 0), (4, 158, 25, 69, 0, 0), (5, 69, 0, 0, 0, 0)],
  [(7, 84, 69, 69, 0, 0), (6, 69, 0, 0, 0, 0), (4, 84, 77, 51, 0, 0), (5, 51, 0, 0, 0, 0), (7, 66, 51, 51, 0, 0), (6, 51, 0, 0, 0, 0), (4, 66, 42, 65, 0, 0), (5, 65, 0, 0, 0, 0), (7, 81, 65, 65, 0, 0), (6, 65, 0, 0, 0, 0), (4, 66, 46, 52, 0, 0), (19, 52, 0, 0, 0, 0), (5, 52, 0, 0, 0, 0), (6, 52, 0, 0, 0, 0), (4, 66, 54, 53, 0, 0), (19, 53, 0, 0, 0, 0), (5, 53, 0, 0, 0, 0), (6, 53, 0, 0, 0, 0), (4, 66, 57, 54, 0, 0), (19, 54, 0, 0, 0, 0), (5, 54, 0, 0, 0, 0), (6, 54, 0, 0, 0, 0), (4, 66, 60, 56, 0, 0), (19, 56, 0, 0, 0, 0), (5, 56, 0, 0, 0, 0), (6, 56, 0, 0, 0, 0), (4, 66, 50, 57, 0, 0), (19, 57, 0, 0, 0, 0), (5, 57, 0, 0, 0, 0), (6, 57, 0, 0, 0, 0), (4, 66, 87, 58, 0, 0), (19, 58, 0, 0, 0, 0)],
  [(5, 58, 0, 0, 0, 0), (6, 58, 0, 0, 0, 0), (4, 66, 72, 55, 0, 0), (19, 55, 0, 0, 0, 0), (5, 55, 0, 0, 0, 0), (6, 55, 0, 0, 0, 0), (4, 66, 81, 25, 0, 0), (14, 25, 0, 0, 0, 0), (6, 25, 0, 0, 0, 0), (4, 66, 63, 59, 0, 0), (19, 59, 0, 0, 0, 0), (5, 59, 0, 0, 0, 0), (6, 59, 0, 0, 0, 0), (4, 66, 66, 60, 0, 0), (19, 60, 0, 0, 0, 0), (5, 60, 0, 0, 0, 0), (6, 60, 0, 0, 0, 0), (4, 66, 93, 62, 0, 0), (19, 62, 0, 0, 0, 0), (5, 62, 0, 0, 0, 0), (6, 62, 0, 0, 0, 0), (13, 66, 96, 98, 84, 0), (14, 98, 0, 0, 0, 0), (6, 98, 0, 0, 0, 0), (4, 66, 69, 61, 0, 0), (19, 61, 0, 0, 0, 0), (5, 61, 0, 0, 0, 0), (6, 61, 0, 0, 0, 0), (4, 158, 29, 70, 0, 0), (5, 70, 0, 0, 0, 0), (7, 84, 70, 70, 0, 0), (6, 70, 0, 0, 0, 0)],
  [(4, 84, 81, 12, 0, 0), (5, 12, 0, 0, 0, 0), (7, 21, 12, 12, 0, 0), (6, 12, 0, 0, 0, 0), (4, 84, 85, 18, 0, 0), (5, 18, 0, 0, 0, 0), (7, 29, 18, 18, 0, 0), (6, 18, 0, 0, 0, 0), (4, 84, 88, 100, 0, 0), (19, 100, 0, 0, 0, 0), (5, 100, 0, 0, 0, 0), (6, 100, 0, 0, 0, 0), (4, 158, 33, 71, 0, 0), (5, 71, 0, 0, 0, 0), (7, 84, 71, 71, 0, 0), (6, 71, 0, 0, 0, 0), (4, 84, 102, 13, 0, 0), (5, 13, 0, 0, 0, 0), (7, 21, 13, 13, 0, 0), (6, 13, 0, 0, 0, 0), (4, 84, 110, 24, 0, 0), (14, 24, 0, 0, 0, 0), (6, 24, 0, 0, 0, 0), (4, 158, 38, 72, 0, 0), (5, 72, 0, 0, 0, 0), (7, 84, 72, 72, 0, 0), (6, 72, 0, 0, 0, 0), (4, 84, 116, 29, 0, 0), (5, 29, 0, 0, 0, 0), (7, 43, 29, 29, 0, 0), (6, 29, 0, 0, 0, 0), (4, 43, 16, 30, 0, 0)],
  [(5, 30, 0, 0, 0, 0), (7, 43, 30, 30, 0, 0), (6, 30, 0, 0, 0, 0), (4, 43, 20, 26, 0, 0), (14, 26, 0, 0, 0, 0), (6, 26, 0, 0, 0, 0), (4, 43, 26, 24, 0, 0), (4, 43, 30, 31, 0, 0), (5, 31, 0, 0, 0, 0), (7, 43, 31, 31, 0, 0), (6, 31, 0, 0, 0, 0), (4, 43, 41, 169, 0, 0), (14, 169, 0, 0, 0, 0), (6, 169, 0, 0, 0, 0), (4, 158, 42, 73, 0, 0), (5, 73, 0, 0, 0, 0), (7, 84, 73, 73, 0, 0), (6, 73, 0, 0, 0, 0), (4, 84, 119, 20, 0, 0), (5, 20, 0, 0, 0, 0), (7, 29, 20, 20, 0, 0), (6, 20, 0, 0, 0, 0), (4, 84, 122, 21, 0, 0), (5, 21, 0, 0, 0, 0), (7, 29, 21, 21, 0, 0), (6, 21, 0, 0, 0, 0), (4, 29, 32, 20, 0, 0), (4, 84, 126, 104, 0, 0), (19, 104, 0, 0, 0, 0), (5, 104, 0, 0, 0, 0), (6, 104, 0, 0, 0, 0), (4, 84, 148, 98, 0, 0)],
  [(4, 158, 47, 74, 0, 0), (5, 74, 0, 0, 0, 0), (7, 84, 74, 74, 0, 0), (6, 74, 0, 0, 0, 0), (4, 158, 51, 75, 0, 0), (5, 75, 0, 0, 0, 0), (7, 84, 75, 75, 0, 0), (6, 75, 0, 0, 0, 0), (4, 158, 55, 76, 0, 0), (5, 76, 0, 0, 0, 0), (7, 84, 76, 76, 0, 0), (6, 76, 0, 0, 0, 0), (4, 84, 132, 22, 0, 0), (5, 22, 0, 0, 0, 0), (7, 29, 22, 22, 0, 0), (6, 22, 0, 0, 0, 0), (4, 29, 36, 21, 0, 0), (13, 29, 40, 98, 84, 0), (4, 158, 59, 77, 0, 0), (5, 77, 0, 0, 0, 0), (7, 84, 77, 77, 0, 0), (6, 77, 0, 0, 0, 0), (4, 158, 63, 78, 0, 0), (5, 78, 0, 0, 0, 0), (7, 84, 78, 78, 0, 0), (6, 78, 0, 0, 0, 0), (4, 84, 142, 14, 0, 0), (5, 14, 0, 0, 0, 0), (7, 21, 14, 14, 0, 0), (6, 14, 0, 0, 0, 0), (4, 84, 145, 16, 0, 0), (5, 16, 0, 0, 0, 0)],
  [(7, 21, 16, 16, 0, 0), (6, 16, 0, 0, 0, 0), (4, 158, 68, 79, 0, 0), (5, 79, 0, 0, 0, 0), (7, 84, 79, 79, 0, 0), (6, 79, 0, 0, 0, 0), (4, 158, 72, 80, 0, 0), (5, 80, 0, 0, 0, 0), (7, 84, 80, 80, 0, 0), (6, 80, 0, 0, 0, 0), (4, 84, 152, 103, 0, 0), (19, 103, 0, 0, 0, 0), (5, 103, 0, 0, 0, 0), (6, 103, 0, 0, 0, 0), (4, 84, 231, 34, 0, 0), (5, 34, 0, 0, 0, 0), (7, 48, 34, 34, 0, 0), (6, 34, 0, 0, 0, 0), (4, 84, 233, 35, 0, 0), (5, 35, 0, 0, 0, 0), (7, 48, 35, 35, 0, 0), (6, 35, 0, 0, 0, 0), (4, 48, 26, 36, 0, 0), (19, 36, 0, 0, 0, 0), (5, 36, 0, 0, 0, 0), (6, 36, 0, 0, 0, 0), (4, 48, 30, 30, 0, 0), (4, 84, 236, 37, 0, 0), (5, 37, 0, 0, 0, 0), (7, 48, 37, 37, 0, 0), (6, 37, 0, 0, 0, 0), (4, 48, 34, 38, 0, 0)],
  [(19, 38, 0, 0, 0, 0), (5, 38, 0, 0, 0, 0), (6, 38, 0, 0, 0, 0), (4, 48, 42, 39, 0, 0), (19, 39, 0, 0, 0, 0), (5, 39, 0, 0, 0, 0), (6, 39, 0, 0, 0, 0), (4, 48, 50, 32, 0, 0), (5, 32, 0, 0, 0, 0), (7, 43, 32, 32, 0, 0), (6, 32, 0, 0, 0, 0), (4, 43, 46, 168, 0, 0), (14, 168, 0, 0, 0, 0), (6, 168, 0, 0, 0, 0), (15, 48, 45, 1000000, 0, 0), (4, 48, 46, 40, 0, 0), (19, 40, 0, 0, 0, 0), (5, 40, 0, 0, 0, 0), (6, 40, 0, 0, 0, 0), (4, 48, 54, 31, 0, 0), (4, 48, 38, 41, 0, 0), (19, 41, 0, 0, 0, 0), (5, 41, 0, 0, 0, 0), (6, 41, 0, 0, 0, 0), (4, 48, 58, 25, 0, 0), (4, 158, 76, 81, 0, 0), (5, 81, 0, 0, 0, 0), (7, 84, 81, 81, 0, 0), (6, 81, 0, 0, 0, 0), (4, 84, 155, 26, 0, 0), (4, 158, 80, 82, 0, 0), (5, 82, 0, 0, 0, 0)],
  [(7, 84, 82, 82, 0, 0), (6, 82, 0, 0, 0, 0), (4, 84, 158, 105, 0, 0), (19, 105, 0, 0, 0, 0), (5, 105, 0, 0, 0, 0), (6, 105, 0, 0, 0, 0), (4, 84, 161, 106, 0, 0), (19, 106, 0, 0, 0, 0), (5, 106, 0, 0, 0, 0), (6, 106, 0, 0, 0, 0), (4, 158, 84, 83, 0, 0), (5, 83, 0, 0, 0, 0), (7, 84, 83, 83, 0, 0), (6, 83, 0, 0, 0, 0), (4, 84, 164, 15, 0, 0), (5, 15, 0, 0, 0, 0), (7, 21, 15, 15, 0, 0), (6, 15, 0, 0, 0, 0), (4, 158, 88, 84, 0, 0), (5, 84, 0, 0, 0, 0), (7, 84, 84, 84, 0, 0), (6, 84, 0, 0, 0, 0), (4, 84, 170, 107, 0, 0), (19, 107, 0, 0, 0, 0), (5, 107, 0, 0, 0, 0), (6, 107, 0, 0, 0, 0), (4, 84, 173, 2, 0, 0), (5, 2, 0, 0, 0, 0), (7, 0, 2, 2, 0, 0), (6, 2, 0, 0, 0, 0), (4, 0, 27, 3, 0, 0), (19, 3, 0, 0, 0, 0)],
  [(5, 3, 0, 0, 0, 0), (6, 3, 0, 0, 0, 0), (13, 0, 31, 98, 84, 0), (4, 0, 35, 4, 0, 0), (19, 4, 0, 0, 0, 0), (5, 4, 0, 0, 0, 0), (6, 4, 0, 0, 0, 0), (4, 0, 39, 6, 0, 0), (19, 6, 0, 0, 0, 0), (5, 6, 0, 0, 0, 0), (6, 6, 0, 0, 0, 0), (4, 0, 43, 5, 0, 0), (19, 5, 0, 0, 0, 0), (5, 5, 0, 0, 0, 0), (6, 5, 0, 0, 0, 0), (4, 84, 176, 7, 0, 0), (5, 7, 0, 0, 0, 0), (7, 0, 7, 7, 0, 0), (6, 7, 0, 0, 0, 0), (4, 84, 179, 8, 0, 0), (5, 8, 0, 0, 0, 0), (7, 0, 8, 8, 0, 0), (6, 8, 0, 0, 0, 0), (4, 0, 47, 9, 0, 0), (19, 9, 0, 0, 0, 0), (5, 9, 0, 0, 0, 0), (6, 9, 0, 0, 0, 0), (4, 0, 51, 10, 0, 0), (19, 10, 0, 0, 0, 0), (5, 10, 0, 0, 0, 0), (6, 10, 0, 0, 0, 0), (4, 158, 92, 85, 0, 0)],
  [(5, 85, 0, 0, 0, 0), (7, 84, 85, 85, 0, 0), (6, 85, 0, 0, 0, 0), (4, 158, 96, 86, 0, 0), (5, 86, 0, 0, 0, 0), (7, 84, 86, 86, 0, 0), (6, 86, 0, 0, 0, 0), (4, 84, 182, 1, 0, 0), (5, 1, 0, 0, 0, 0), (7, 0, 1, 1, 0, 0), (6, 1, 0, 0, 0, 0), (4, 158, 100, 87, 0, 0), (5, 87, 0, 0, 0, 0), (7, 84, 87, 87, 0, 0), (6, 87, 0, 0, 0, 0), (4, 84, 188, 23, 0, 0), (5, 23, 0, 0, 0, 0), (7, 29, 23, 23, 0, 0), (6, 23, 0, 0, 0, 0), (4, 158, 104, 88, 0, 0), (5, 88, 0, 0, 0, 0), (7, 84, 88, 88, 0, 0), (6, 88, 0, 0, 0, 0), (4, 158, 108, 89, 0, 0), (5, 89, 0, 0, 0, 0), (7, 84, 89, 89, 0, 0), (6, 89, 0, 0, 0, 0), (4, 84, 194, 43, 0, 0), (5, 43, 0, 0, 0, 0), (7, 58, 43, 43, 0, 0), (6, 43, 0, 0, 0, 0), (4, 158, 112, 90, 0, 0)],
  [(5, 90, 0, 0, 0, 0), (7, 84, 90, 90, 0, 0), (6, 90, 0, 0, 0, 0), (4, 158, 116, 91, 0, 0), (5, 91, 0, 0, 0, 0), (7, 84, 91, 91, 0, 0), (6, 91, 0, 0, 0, 0), (4, 84, 198, 99, 0, 0), (14, 99, 0, 0, 0, 0), (6, 99, 0, 0, 0, 0), (4, 84, 201, 44, 0, 0), (5, 44, 0, 0, 0, 0), (7, 58, 44, 44, 0, 0), (6, 44, 0, 0, 0, 0), (4, 58, 28, 47, 0, 0), (19, 47, 0, 0, 0, 0), (5, 47, 0, 0, 0, 0), (6, 47, 0, 0, 0, 0), (4, 58, 32, 48, 0, 0), (19, 48, 0, 0, 0, 0), (5, 48, 0, 0, 0, 0), (6, 48, 0, 0, 0, 0), (4, 58, 44, 49, 0, 0), (19, 49, 0, 0, 0, 0), (5, 49, 0, 0, 0, 0), (6, 49, 0, 0, 0, 0), (4, 58, 47, 167, 0, 0), (14, 167, 0, 0, 0, 0), (6, 167, 0, 0, 0, 0), (15, 153, 265, 1431655765, 0, 0), (15, 153, 266, 858993459, 0, 0), (15, 153, 267, 252645135, 0, 0)],
  [(13, 58, 36, 98, 84, 0), (4, 158, 120, 92, 0, 0), (5, 92, 0, 0, 0, 0), (7, 84, 92, 92, 0, 0), (6, 92, 0, 0, 0, 0), (4, 84, 204, 45, 0, 0), (5, 45, 0, 0, 0, 0), (7, 58, 45, 45, 0, 0), (6, 45, 0, 0, 0, 0), (4, 158, 124, 93, 0, 0), (5, 93, 0, 0, 0, 0), (7, 84, 93, 93, 0, 0), (6, 93, 0, 0, 0, 0), (4, 84, 207, 46, 0, 0), (5, 46, 0, 0, 0, 0), (7, 58, 46, 46, 0, 0), (6, 46, 0, 0, 0, 0), (4, 58, 40, 44, 0, 0), (4, 158, 128, 94, 0, 0), (5, 94, 0, 0, 0, 0), (7, 84, 94, 94, 0, 0), (6, 94, 0, 0, 0, 0), (4, 84, 210, 27, 0, 0), (14, 27, 0, 0, 0, 0), (6, 27, 0, 0, 0, 0), (4, 37, 9, 26, 0, 0), (4, 37, 15, 24, 0, 0), (4, 37, 19, 25, 0, 0), (4, 84, 213, 102, 0, 0), (19, 102, 0, 0, 0, 0), (5, 102, 0, 0, 0, 0), (6, 102, 0, 0, 0, 0)],
  [(4, 158, 132, 95, 0, 0), (5, 95, 0, 0, 0, 0), (7, 84, 95, 95, 0, 0), (6, 95, 0, 0, 0, 0), (4, 84, 216, 19, 0, 0), (5, 19, 0, 0, 0, 0), (7, 29, 19, 19, 0, 0), (6, 19, 0, 0, 0, 0), (4, 158, 136, 96, 0, 0), (5, 96, 0, 0, 0, 0), (7, 84, 96, 96, 0, 0), (6, 96, 0, 0, 0, 0), (4, 158, 140, 97, 0, 0), (5, 97, 0, 0, 0, 0), (7, 84, 97, 97, 0, 0), (6, 97, 0, 0, 0, 0), (4, 84, 223, 167, 0, 0), (4, 84, 228, 101, 0, 0), (19, 101, 0, 0, 0, 0), (5, 101, 0, 0, 0, 0), (6, 101, 0, 0, 0, 0), (2, 158, 10, 128, 0, 0), (3, 128, 37, 0, 0, 0), (4, 158, 12, 108, 0, 0), (5, 108, 0, 0, 0, 0), (6, 108, 0, 0, 0, 0), (4, 128, 1, 1000, 0, 0), (8, 128, 7, 128, 211, 162), (8, 128, 13, 128, 212, 162), (8, 128, 16, 128, 213, 162), (8, 128, 19, 128, 214, 162), (8, 128, 129, 128, 215, 168)],
  [(8, 128, 123, 128, 216, 168), (8, 128, 116, 128, 217, 168), (8, 128, 22, 128, 183, 162), (8, 128, 25, 128, 218, 162), (8, 128, 28, 128, 93, 162), (8, 128, 31, 128, 172, 162), (8, 128, 34, 128, 163, 162), (8, 128, 86, 128, 92, 168), (8, 128, 149, 128, 169, 168), (8, 128, 152, 128, 170, 168), (8, 128, 155, 128, 174, 168), (8, 128, 37, 128, 194, 162), (8, 128, 96, 128, 180, 168), (8, 128, 104, 128, 83, 168), (8, 128, 101, 128, 219, 168), (8, 128, 40, 128, 220, 162), (8, 128, 162, 128, 221, 168), (8, 128, 43, 128, 222, 162), (8, 128, 46, 128, 223, 224), (8, 128, 50, 128, 225, 224), (8, 128, 53, 128, 226, 162), (8, 128, 218, 128, 185, 168), (8, 128, 56, 128, 227, 162), (8, 128, 59, 128, 187, 162), (8, 128, 62, 128, 228, 162), (8, 128, 65, 128, 229, 162), (8, 128, 68, 128, 230, 224), (8, 128, 71, 128, 231, 162), (8, 128, 74, 128, 232, 162), (8, 128, 77, 128, 233, 162), (8, 128, 80, 128, 234, 162), (8, 128, 83, 128, 235, 162)],
  [(10, 128, 128, 211, 162, 0), (11, 128, 211, 0, 0, 0), (10, 128, 128, 212, 162, 0), (11, 128, 212, 0, 0, 0), (10, 128, 128, 213, 162, 0), (11, 128, 213, 0, 0, 0), (10, 128, 128, 214, 162, 0), (11, 128, 214, 0, 0, 0), (9, 128, 128, 215, 168, 0), (11, 128, 215, 0, 0, 0), (9, 128, 128, 216, 168, 0), (11, 128, 216, 0, 0, 0), (9, 128, 128, 217, 168, 0), (11, 128, 217, 0, 0, 0), (10, 128, 128, 183, 162, 0), (11, 128, 183, 0, 0, 0), (10, 128, 128, 218, 162, 0), (11, 128, 218, 0, 0, 0), (10, 128, 128, 93, 162, 0), (11, 128, 93, 0, 0, 0), (10, 128, 128, 172, 162, 0), (11, 128, 172, 0, 0, 0), (10, 128, 128, 163, 162, 0), (11, 128, 163, 0, 0, 0), (9, 128, 128, 92, 168, 0), (11, 128, 92, 0, 0, 0), (9, 128, 128, 169, 168, 0), (11, 128, 169, 0, 0, 0), (9, 128, 128, 170, 168, 0), (11, 128, 170, 0, 0, 0), (9, 128, 128, 174, 168, 0), (11, 128, 174, 0, 0, 0)],
  [(10, 128, 128, 194, 162, 0), (11, 128, 194, 0, 0, 0), (9, 128, 128, 180, 168, 0), (11, 128, 180, 0, 0, 0), (9, 128, 128, 83, 168, 0), (11, 128, 83, 0, 0, 0), (9, 128, 128, 219, 168, 0), (11, 128, 219, 0, 0, 0), (10, 128, 128, 220, 162, 0), (11, 128, 220, 0, 0, 0), (9, 128, 128, 221, 168, 0), (11, 128, 221, 0, 0, 0), (10, 128, 128, 222, 162, 0), (11, 128, 222, 0, 0, 0), (10, 128, 128, 223, 224, 0), (11, 128, 223, 0, 0, 0), (10, 128, 128, 225, 224, 0), (11, 128, 225, 0, 0, 0), (10, 128, 128, 226, 162, 0), (11, 128, 226, 0, 0, 0), (9, 128, 128, 185, 168, 0), (11, 128, 185, 0, 0, 0), (10, 128, 128, 227, 162, 0), (11, 128, 227, 0, 0, 0), (10, 128, 128, 187, 162, 0), (11, 128, 187, 0, 0, 0), (10, 128, 128, 228, 162, 0), (11, 128, 228, 0, 0, 0), (10, 128, 128, 229, 162, 0), (11, 128, 229, 0, 0, 0), (10, 128, 128, 230, 224, 0), (11, 128, 230, 0, 0, 0)],
  [(10, 128, 128, 231, 162, 0), (11, 128, 231, 0, 0, 0), (10, 128, 128, 232, 162, 0), (11, 128, 232, 0, 0, 0), (10, 128, 128, 233, 162, 0), (11, 128, 233, 0, 0, 0), (10, 128, 128, 234, 162, 0), (11, 128, 234, 0, 0, 0), (10, 128, 128, 235, 162, 0), (11, 128, 235, 0, 0, 0), (12, 128, 236, 0, 0, 0), (17, 1, 0, 0, 0, 0), (4, 158, 19, 110, 0, 0), (5, 110, 0, 0, 0, 0), (7, 128, 110, 110, 0, 0), (6, 110, 0, 0, 0, 0), (16, 128, 90, 8, 0, 0), (4, 128, 92, 109, 0, 0), (14, 109, 0, 0, 0, 0), (6, 109, 0, 0, 0, 0), (16, 128, 99, 255, 0, 0), (4, 158, 24, 111, 0, 0), (5, 111, 0, 0, 0, 0), (7, 128, 111, 111, 0, 0), (6, 111, 0, 0, 0, 0), (4, 158, 28, 120, 0, 0), (5, 120, 0, 0, 0, 0), (7, 128, 120, 120, 0, 0), (6, 120, 0, 0, 0, 0), (4, 128, 146, 117, 0, 0), (19, 117, 0, 0, 0, 0), (5, 117, 0, 0, 0, 0)],
  [(6, 117, 0, 0, 0, 0), (4, 128, 107, 112, 0, 0), (19, 112, 0, 0, 0, 0), (5, 112, 0, 0, 0, 0), (6, 112, 0, 0, 0, 0), (4, 128, 126, 114, 0, 0), (19, 114, 0, 0, 0, 0), (5, 114, 0, 0, 0, 0), (6, 114, 0, 0, 0, 0), (16, 128, 111, 9, 0, 0), (4, 128, 113, 113, 0, 0), (19, 113, 0, 0, 0, 0), (5, 113, 0, 0, 0, 0), (6, 113, 0, 0, 0, 0), (4, 128, 132, 119, 0, 0), (19, 119, 0, 0, 0, 0), (5, 119, 0, 0, 0, 0), (6, 119, 0, 0, 0, 0), (16, 128, 138, 97, 0, 0), (16, 128, 140, 102, 0, 0), (4, 128, 142, 118, 0, 0), (19, 118, 0, 0, 0, 0), (5, 118, 0, 0, 0, 0), (6, 118, 0, 0, 0, 0), (4, 128, 135, 115, 0, 0), (19, 115, 0, 0, 0, 0), (5, 115, 0, 0, 0, 0), (6, 115, 0, 0, 0, 0), (4, 128, 119, 116, 0, 0), (19, 116, 0, 0, 0, 0), (5, 116, 0, 0, 0, 0), (6, 116, 0, 0, 0, 0)],
  [(4, 158, 32, 121, 0, 0), (5, 121, 0, 0, 0, 0), (7, 128, 121, 121, 0, 0), (6, 121, 0, 0, 0, 0), (4, 158, 37, 124, 0, 0), (5, 124, 0, 0, 0, 0), (7, 128, 124, 124, 0, 0), (6, 124, 0, 0, 0, 0), (4, 128, 158, 122, 0, 0), (19, 122, 0, 0, 0, 0), (5, 122, 0, 0, 0, 0), (6, 122, 0, 0, 0, 0), (4, 158, 41, 128, 0, 0), (5, 128, 0, 0, 0, 0), (7, 128, 128, 128, 0, 0), (6, 128, 0, 0, 0, 0), (4, 128, 172, 127, 0, 0), (19, 127, 0, 0, 0, 0), (5, 127, 0, 0, 0, 0), (6, 127, 0, 0, 0, 0), (4, 128, 169, 126, 0, 0), (19, 126, 0, 0, 0, 0), (5, 126, 0, 0, 0, 0), (6, 126, 0, 0, 0, 0), (4, 128, 165, 125, 0, 0), (14, 125, 0, 0, 0, 0), (6, 125, 0, 0, 0, 0), (4, 158, 46, 131, 0, 0), (5, 131, 0, 0, 0, 0), (7, 128, 131, 131, 0, 0), (6, 131, 0, 0, 0, 0), (4, 128, 176, 129, 0, 0)],
  [(19, 129, 0, 0, 0, 0), (5, 129, 0, 0, 0, 0), (6, 129, 0, 0, 0, 0), (4, 128, 179, 130, 0, 0), (19, 130, 0, 0, 0, 0), (5, 130, 0, 0, 0, 0), (6, 130, 0, 0, 0, 0), (4, 158, 50, 132, 0, 0), (5, 132, 0, 0, 0, 0), (7, 128, 132, 132, 0, 0), (6, 132, 0, 0, 0, 0), (4, 158, 54, 134, 0, 0), (5, 134, 0, 0, 0, 0), (7, 128, 134, 134, 0, 0), (6, 134, 0, 0, 0, 0), (4, 128, 182, 133, 0, 0), (19, 133, 0, 0, 0, 0), (5, 133, 0, 0, 0, 0), (6, 133, 0, 0, 0, 0), (4, 158, 58, 135, 0, 0), (5, 135, 0, 0, 0, 0), (7, 128, 135, 135, 0, 0), (6, 135, 0, 0, 0, 0), (16, 128, 185, 99, 0, 0), (4, 158, 62, 136, 0, 0), (5, 136, 0, 0, 0, 0), (7, 128, 136, 136, 0, 0), (6, 136, 0, 0, 0, 0), (4, 158, 67, 138, 0, 0), (5, 138, 0, 0, 0, 0), (7, 128, 138, 138, 0, 0), (6, 138, 0, 0, 0, 0)],
  [(4, 128, 187, 123, 0, 0), (19, 123, 0, 0, 0, 0), (5, 123, 0, 0, 0, 0), (6, 123, 0, 0, 0, 0), (4, 128, 190, 137, 0, 0), (19, 137, 0, 0, 0, 0), (5, 137, 0, 0, 0, 0), (6, 137, 0, 0, 0, 0), (4, 158, 71, 139, 0, 0), (5, 139, 0, 0, 0, 0), (7, 128, 139, 139, 0, 0), (6, 139, 0, 0, 0, 0), (4, 158, 75, 141, 0, 0), (5, 141, 0, 0, 0, 0), (7, 128, 141, 141, 0, 0), (6, 141, 0, 0, 0, 0), (4, 128, 194, 140, 0, 0), (19, 140, 0, 0, 0, 0), (5, 140, 0, 0, 0, 0), (6, 140, 0, 0, 0, 0), (4, 158, 79, 142, 0, 0), (5, 142, 0, 0, 0, 0), (7, 128, 142, 142, 0, 0), (6, 142, 0, 0, 0, 0), (4, 158, 83, 144, 0, 0), (5, 144, 0, 0, 0, 0), (7, 128, 144, 144, 0, 0), (6, 144, 0, 0, 0, 0), (4, 128, 197, 143, 0, 0), (19, 143, 0, 0, 0, 0), (5, 143, 0, 0, 0, 0), (6, 143, 0, 0, 0, 0)],
  [(4, 158, 87, 147, 0, 0), (5, 147, 0, 0, 0, 0), (7, 128, 147, 147, 0, 0), (6, 147, 0, 0, 0, 0), (4, 128, 200, 145, 0, 0), (19, 145, 0, 0, 0, 0), (5, 145, 0, 0, 0, 0), (6, 145, 0, 0, 0, 0), (4, 128, 203, 146, 0, 0), (19, 146, 0, 0, 0, 0), (5, 146, 0, 0, 0, 0), (6, 146, 0, 0, 0, 0), (4, 158, 91, 150, 0, 0), (5, 150, 0, 0, 0, 0), (7, 128, 150, 150, 0, 0), (6, 150, 0, 0, 0, 0), (4, 128, 209, 148, 0, 0), (19, 148, 0, 0, 0, 0), (5, 148, 0, 0, 0, 0), (6, 148, 0, 0, 0, 0), (4, 128, 206, 149, 0, 0), (19, 149, 0, 0, 0, 0), (5, 149, 0, 0, 0, 0), (6, 149, 0, 0, 0, 0), (4, 158, 95, 152, 0, 0), (5, 152, 0, 0, 0, 0), (7, 128, 152, 152, 0, 0), (6, 152, 0, 0, 0, 0), (4, 128, 213, 151, 0, 0), (19, 151, 0, 0, 0, 0), (5, 151, 0, 0, 0, 0), (6, 151, 0, 0, 0, 0)],
  [(4, 158, 99, 153, 0, 0), (5, 153, 0, 0, 0, 0), (7, 128, 153, 153, 0, 0), (6, 153, 0, 0, 0, 0), (4, 158, 103, 154, 0, 0), (5, 154, 0, 0, 0, 0), (7, 128, 154, 154, 0, 0), (6, 154, 0, 0, 0, 0), (4, 158, 107, 155, 0, 0), (5, 155, 0, 0, 0, 0), (7, 128, 155, 155, 0, 0), (6, 155, 0, 0, 0, 0), (4, 158, 111, 156, 0, 0), (5, 156, 0, 0, 0, 0), (7, 128, 156, 156, 0, 0), (6, 156, 0, 0, 0, 0), (16, 128, 216, 7, 0, 0), (4, 158, 115, 157, 0, 0), (5, 157, 0, 0, 0, 0), (7, 128, 157, 157, 0, 0), (6, 157, 0, 0, 0, 0), (4, 158, 119, 160, 0, 0), (5, 160, 0, 0, 0, 0), (7, 128, 160, 160, 0, 0), (6, 160, 0, 0, 0, 0), (4, 128, 224, 158, 0, 0), (19, 158, 0, 0, 0, 0), (5, 158, 0, 0, 0, 0), (6, 158, 0, 0, 0, 0), (4, 128, 221, 159, 0, 0), (19, 159, 0, 0, 0, 0), (5, 159, 0, 0, 0, 0)],
  [(6, 159, 0, 0, 0, 0), (4, 158, 123, 161, 0, 0), (5, 161, 0, 0, 0, 0), (7, 128, 161, 161, 0, 0), (6, 161, 0, 0, 0, 0), (4, 158, 127, 162, 0, 0), (5, 162, 0, 0, 0, 0), (7, 128, 162, 162, 0, 0), (6, 162, 0, 0, 0, 0), (4, 158, 131, 163, 0, 0), (5, 163, 0, 0, 0, 0), (7, 128, 163, 163, 0, 0), (6, 163, 0, 0, 0, 0), (16, 128, 227, 5, 0, 0), (4, 158, 135, 164, 0, 0), (5, 164, 0, 0, 0, 0), (7, 128, 164, 164, 0, 0), (6, 164, 0, 0, 0, 0), (4, 158, 139, 165, 0, 0), (5, 165, 0, 0, 0, 0), (7, 128, 165, 165, 0, 0), (6, 165, 0, 0, 0, 0), (4, 158, 143, 166, 0, 0), (5, 166, 0, 0, 0, 0), (7, 128, 166, 166, 0, 0), (6, 166, 0, 0, 0, 0), (16, 158, 13, 4294967295, 0, 0)]]
def iv_owns : List (List Nat) := [[0, 0, 0, 0, 0, 0, 0, 0, 0, 0, 0, 1, 1, 1, 1, 1],
  [1, 2, 2, 2, 2, 2, 2, 2, 99, 99, 99, 99, 3, 3, 3, 3],
  [3, 4, 4, 4, 4, 4, 4, 4, 4, 4, 5, 5, 5, 5, 5, 5],
  [5, 5, 6, 6, 6, 6, 6, 6, 6, 6, 6, 6, 6, 6, 6, 7],
  [7, 7, 8, 8, 8, 8, 8, 8, 8, 8, 8, 8, 8, 8, 8, 8],
  [8, 8, 8, 8, 8, 8, 8, 8, 8, 8, 8, 8, 8, 8, 8, 8],
  [8, 8, 8, 8, 8, 8, 8, 8, 8, 8, 8, 8, 9, 9, 9, 9],
  [9, 9, 9, 9, 9, 9, 9, 9, 9, 9, 9, 9, 9, 9, 9, 9],
  [9, 9, 9, 9, 9, 9, 9, 9, 9, 9, 9, 9, 9, 9, 9, 9],
  [9, 9, 9, 9, 9, 9, 9, 9, 9, 9, 9, 9, 9, 9, 9, 9],
  [9, 9, 9, 9, 9, 9, 9, 99, 99, 99, 99]]
def iv_own (mi : Nat) : Nat := (iv_owns.getD (mi / 16) []).getD (mi % 16) 99
def iv_zbs : List (List Bool) := [[false, false, false, false, false, false, true, false, false, false, true, false, false, true, true, true],
  [true, false, false, false, true, false, false, false, false, false, false, false, false, false, false, false],
  [false, false, false, false, false, false, true, true, true, false, false, false, false, false, false, false],
  [false, false, false, false, true, true, true, true, true, true, true, true, true, true, true, false],
  [false, false, false, false, false, false, false, false, false, false, false, false, false, false, false, false],
  [false, false, false, false, false, false, false, false, false, false, false, false, false, false, false, false],
  [false, false, true, true, false, false, false, false, false, false, false, false, false, true, false, false],
  [false, false, false, false, false, false, true, false, false, false, true, true, false, false, false, false],
  [false, true, false, false, false, false, false, false, false, true, false, false, true, false, false, false],
  [false, true, false, false, false, false, false, false, false, false, false, false, false, false, false, false],
  [false, false, false, false, false, false, false, false, false, false, true]]
def iv_zb (mi : Nat) : Bool := (iv_zbs.getD (mi / 16) []).getD (mi % 16) false
def iv_rms : List (List (Nat × Nat)) := [[(1, 20), (0, 0), (4, 93), (3, 71), (2, 45), (0, 0), (1, 21), (0, 0), (3, 69), (2, 45), (1, 21), (1, 20), (0, 0), (0, 0), (0, 0), (0, 0)],
  [(0, 0), (1, 20), (0, 0), (0, 0), (0, 0), (1, 21), (2, 43), (1, 21), (0, 0), (0, 0), (0, 0), (1, 22), (1, 20), (2, 48), (1, 21), (1, 22)],
  [(1, 21), (2, 40), (0, 0), (2, 43), (0, 0), (4, 98), (3, 74), (2, 46), (2, 48), (1, 22), (1, 20), (0, 0), (3, 68), (3, 68), (4, 90), (0, 0)],
  [(2, 45), (1, 21), (1, 20), (4, 85), (3, 64), (0, 0), (0, 0), (0, 0), (2, 42), (1, 22), (0, 0), (0, 0), (2, 43), (1, 21), (1, 21), (1, 20)],
  [(0, 0), (0, 0), (3, 61), (1, 21), (0, 0), (5, 107), (5, 107), (1, 22), (3, 72), (4, 96), (1, 21), (2, 43), (3, 67), (1, 21), (1, 21), (1, 21)],
  [(6, 141), (6, 141), (5, 121), (5, 121), (6, 143), (6, 143), (6, 143), (2, 46), (5, 121), (1, 22), (0, 0), (4, 90), (4, 94), (5, 112), (2, 46), (1, 22)],
  [(1, 22), (2, 43), (0, 0), (0, 0), (0, 0), (1, 21), (1, 21), (5, 120), (3, 72), (4, 96), (1, 21), (5, 121), (1, 20), (0, 0), (1, 25), (0, 0)],
  [(0, 0), (0, 0), (1, 25), (1, 23), (0, 0), (2, 47), (0, 0), (1, 25), (3, 70), (3, 70), (1, 25), (1, 25), (2, 46), (0, 0), (1, 23), (2, 47)],
  [(3, 70), (0, 0), (3, 70), (4, 93), (2, 46), (1, 21), (2, 43), (2, 43), (2, 46), (0, 0), (2, 46), (2, 46), (2, 47), (3, 73), (3, 73), (4, 93)],
  [(5, 116), (1, 25), (0, 0), (5, 116), (5, 116), (0, 0), (6, 141), (0, 0), (6, 141), (6, 141), (2, 46), (5, 116), (1, 25), (0, 0), (1, 24), (0, 0)],
  [(2, 47), (2, 47), (2, 47), (1, 25), (1, 25), (1, 25), (1, 21), (0, 0), (0, 0), (0, 0), (7, 167)]]
def iv_rm (mi : Nat) : Nat × Nat := (iv_rms.getD (mi / 16) []).getD (mi % 16) (0, 0)
end
section
/-! SOUNDNESS: numbers -/
def iv_in (x : Int) : Prop := -2147483648 ≤ x ∧ x ≤ 2147483647
def iv_il (x : Int) : Prop := -9223372036854775808 ≤ x ∧ x ≤ 9223372036854775807
theorem iv_in32 (v : Int32) : iv_in v.toInt := ⟨by have := Int32.le_toInt v; omega, by have := Int32.toInt_lt v; omega⟩
theorem iv_in64 (v : Int64) : iv_il v.toInt := ⟨by have := Int64.le_toInt v; omega, by have := Int64.toInt_lt v; omega⟩
theorem iv_of32 {x : Int} (h : iv_in x) : (Int32.ofInt x).toInt = x := Int32.toInt_ofInt_of_le (by have := h.1; omega) (by have := h.2; omega)
theorem iv_of64 {x : Int} (h : iv_il x) : (Int64.ofInt x).toInt = x := Int64.toInt_ofInt_of_le (by have := h.1; omega) (by have := h.2; omega)
theorem iv_back32 (v : Int32) : Int32.ofInt v.toInt = v := Int32.ofInt_toInt v
theorem iv_back64 (v : Int64) : Int64.ofInt v.toInt = v := Int64.ofInt_toInt v
theorem iv_eq32 {x y : Int} (hx : iv_in x) (hy : iv_in y) : Int32.ofInt x = Int32.ofInt y ↔ x = y := ⟨fun h => by rw [← iv_of32 hx, ← iv_of32 hy, h], fun h => by rw [h]⟩
theorem iv_lt32 {x y : Int} (hx : iv_in x) (hy : iv_in y) : Int32.ofInt x < Int32.ofInt y ↔ x < y := by rw [Int32.lt_iff_toInt_lt, iv_of32 hx, iv_of32 hy]
theorem iv_le32 {x y : Int} (hx : iv_in x) (hy : iv_in y) : Int32.ofInt x ≤ Int32.ofInt y ↔ x ≤ y := by rw [Int32.le_iff_toInt_le, iv_of32 hx, iv_of32 hy]
theorem iv_in0 : iv_in 0 := by unfold iv_in; omega
theorem iv_zero32 : Int32.ofInt 0 = 0 := rfl
theorem iv_idx {i : Int} {n : Nat} (hi : iv_in i) (h0 : 0 ≤ i) (h1 : i < n) : vp_in (Int32.ofInt i) n ∧ (Int32.ofInt i).toNatClampNeg = i.toNat := by
  have e : (Int32.ofInt i).toNatClampNeg = i.toNat := by show (Int32.ofInt i).toInt.toNat = i.toNat; rw [iv_of32 hi]
  refine ⟨?_, e⟩
  rintro (h | h)
  · rw [← iv_zero32, iv_lt32 hi iv_in0] at h
    omega
  · rw [e] at h
    omega
theorem iv_and1 {v : Int} (hv : iv_in v) : Int32.ofInt v &&& 1 = Int32.ofInt (v % 2) ∧ iv_in (v % 2) := by
  refine ⟨?_, by unfold iv_in; omega⟩
  apply Int32.toInt_inj.mp
  have h2 : iv_in (v % 2) := by unfold iv_in; omega
  rw [iv_of32 h2, ← Int32.toInt_toBitVec, Int32.toBitVec_and]
  have e1 : (1 : Int32).toBitVec = 1#32 := rfl
  rw [e1]
  have e2 : ((Int32.ofInt v).toBitVec &&& 1#32).toInt = ((Int32.ofInt v).toBitVec.toNat % 2 : Nat) := by
    rw [BitVec.toInt_eq_toNat_of_lt]
    · rw [BitVec.toNat_and]
      simp [Nat.and_one_is_mod]
    · rw [BitVec.toNat_and]
      simp [Nat.and_one_is_mod]
      omega
  rw [e2]
  have e3 : ((Int32.ofInt v).toBitVec.toNat : Int) = v % 4294967296 := by
    have h := iv_of32 hv
    rw [← Int32.toInt_toBitVec, BitVec.toInt_eq_toNat_cond] at h
    have hlt := (Int32.ofInt v).toBitVec.isLt
    split at h <;> omega
  omega
theorem iv_narB {v : Int} (hv : iv_in v) : vp_nar .boolean (Int32.ofInt v) = Int32.ofInt (v % 2) := by
  show Int32.ofInt v &&& 1 = _
  exact (iv_and1 hv).1
theorem iv_bool {v : Int} (h : v = 0 ∨ v = 1) : narrow .boolean (.int (Int32.ofInt v)) = .int (Int32.ofInt v) ∧ fits .boolean (.int (Int32.ofInt v)) = true := by rcases h with rfl | rfl <;> exact ⟨rfl, rfl⟩
theorem iv_wr_of (x : Int) : Int32.ofInt (iv_wr x) = Int32.ofInt x := iv_back32 _
theorem iv_i2l {x : Int} (h : iv_in x) : (Int32.ofInt x).toInt64 = Int64.ofInt x := Int32.toInt64_ofInt (by have := h.1; show -2147483648 ≤ x; omega) (by have := h.2; show x ≤ 2147483647; omega)
theorem iv_in_il {x : Int} (h : iv_in x) : iv_il x := by unfold iv_in at h; unfold iv_il; omega
theorem iv_l2i (x : Int) : (Int64.ofInt x).toInt32 = Int32.ofInt x := Int64.toInt32_ofInt
theorem iv_lcmp_of {x y : Int} (hx : iv_il x) (hy : iv_il y) : lg_cmp (Int64.ofInt x) (Int64.ofInt y) = Int32.ofInt (iv_lcmp x y) ∧ iv_in (iv_lcmp x y) := by
  have h1 : (Int64.ofInt x > Int64.ofInt y) ↔ y < x := by show Int64.ofInt y < Int64.ofInt x ↔ _; rw [Int64.lt_iff_toInt_lt, iv_of64 hx, iv_of64 hy]
  have h2 : Int64.ofInt x = Int64.ofInt y ↔ x = y := ⟨fun h => by rw [← iv_of64 hx, ← iv_of64 hy, h], fun h => by rw [h]⟩
  unfold lg_cmp iv_lcmp
  simp only [h1, h2]
  split
  · exact ⟨rfl, by unfold iv_in; omega⟩
  · split
    · exact ⟨rfl, by unfold iv_in; omega⟩
    · exact ⟨rfl, by unfold iv_in; omega⟩
/-! values, cells, heaps -/
def iv_ad (b B0 x : Nat) : Nat := if x = 1 then b else B0 + (x - 2)
def iv_rv (b B0 x : Nat) : Value := if x = 0 then .null else .ref (iv_ad b B0 x)
def iv_cv (b B0 : Nat) (v : ivV) : Value := match v with
  | .inl x => .int (Int32.ofInt x)
  | .inr (.inl x) => .long (Int64.ofInt x)
  | .inr (.inr (.inl x)) => iv_rv b B0 x
  | .inr (.inr (.inr _)) => .null
def iv_ok (n : Nat) (v : ivV) : Prop := match v with
  | .inl x => iv_in x
  | .inr (.inl x) => iv_il x
  | .inr (.inr (.inl x)) => x ≤ n
  | .inr (.inr (.inr _)) => True
def iv_slot (b B0 ty : Nat) (w : ivS) (x k : Nat) : Value := bif Nat.ble 2 ty then iv_rv b B0 (w.2.2 x k) else .int (Int32.ofInt (w.2.1 x k))
def iv_cell (D : va_G) (dA : Nat → ClassId) (L b B0 : Nat) (w : ivS) (H : Heap) (x : Nat) : Prop :=
  ((iv_lay L x).1 = 0 → t_OB (iv_ad b B0 x) (D.1 (iv_lay L x).2.1) (iv_lay L x).2.2 (D.2 (iv_lay L x).2.1) H (fun k => iv_slot b B0 (iv_fty (iv_lay L x).2.1 k) w x k)) ∧
  ((iv_lay L x).1 = 1 → H[iv_ad b B0 x]? = some (arrV (dA (iv_lay L x).2.1) (iv_lay L x).2.2 (fun k => iv_slot b B0 (iv_lay L x).2.1 w x k)))
abbrev iv_tys (dA : Nat → ClassId) : List (ClassId × FieldType) := [(dA 0, .int), (dA 1, .boolean), (dA 2, .object "OnlyNamed$Memory"), (dA 3, .object "OnlyNamed$Ruler"), (dA 4, .array .int)]
def iv_HR (D : va_G) (dA : Nat → ClassId) (L b B0 : Nat) (U : State) (H : Heap) (w : ivS) : Prop :=
  1 ≤ w.1 ∧ H.size = B0 + (w.1 - 1) ∧ b < B0 ∧ va_X b L (fun k => Int32.ofInt (w.2.1 1 k)) U H ∧ (∀ x, 2 ≤ x → x ≤ w.1 → iv_cell D dA L b B0 w H x) ∧ (∀ x k, iv_in (w.2.1 x k)) ∧ (∀ x k, w.2.2 x k ≤ w.1) ∧ va_K D iv_cl (iv_tys dA) U
def iv_lr (b B0 : Nat) (la : Array Slot) (nL : Nat) (ls : List ivV) : Prop := ls.length = nL ∧ la.size = nL ∧ lv_wf la ∧ ∀ (i : Nat) (v : ivV), ls[i]? = some v → v ≠ ivU → la[i]? = some (.val (iv_cv b B0 v))
/-- the words -/
def iv_TB : List Jvm.Cond := lw_tbl.filter goodWord
def iv_ws (mi : Nat) : List Jvm.Cond := .code (iv_nm mi) (iv_cd mi) (iv_ml mi) (iv_rt mi) :: iv_TB
def iv_nest (w : Jvm.Cond) : Bool := match w with
  | .methodLinkNest _ _ _ _ => true
  | _ => false
def iv_AOA (U : State) : Prop := (Jvm.Cond.arrayOver (.array .int)).before #[] U = true
theorem iv_AOA.moved {u U : State} (hvm : u.vm.Alike U.vm) (h : iv_AOA u) : iv_AOA U := by
  obtain ⟨comp, c, k, h1, h2, h3, h4, h5⟩ := arrayOverA_spec h
  obtain ⟨k', hk', he⟩ := hvm.2.2 _ _ h3
  have hi : (U.vm.classes.findIdx? fun (x : Class) => match x.kind with | .array component _ => component == comp | _ => false) = some c := by
    have e3 : U.vm.bare = u.vm.bare := by first | exact hvm.bare_eq | exact hvm.bare_eq.symm
    refine (va_idx_bare U.vm comp).symm.trans ?_
    rw [e3]
    exact (va_idx_bare u.vm comp).trans h2
  have hkind : k'.kind = .array comp (.array .int) := by rw [he]; exact h4
  have f1 : U.vm.findClass (FieldType.array .int).toString = some comp := by rw [hvm.findClass]; exact h1
  have f2 : U.vm.findClass ("[" ++ (FieldType.array .int).toString) = some c := by rw [hvm.findClass]; exact h5
  unfold iv_AOA Jvm.Cond.before Jvm.Cond.holds
  simp only [Jvm.Cond.value]
  rw [f1, Option.bind_some]
  refine (congrArg (fun o : Option Nat => (o.bind (fun c => (U.vm.classes[c]?).map fun (k : Class) => match k.kind with | .array _ ty => decide (ty = FieldType.array .int) && decide (U.vm.findClass ("[" ++ (FieldType.array .int).toString) = some c) | _ => false) == some true)) hi).trans ?_
  simp [hk', hkind, f2]
/-- what of the tables isn't kept by a good word -/
def iv_T (U : State) : Prop := (∀ w ∈ lw_tbl, iv_nest w = true → va_Nw w U) ∧ va_AO "OnlyNamed$Memory" U ∧ va_AO "OnlyNamed$Ruler" U ∧ iv_AOA U
theorem iv_T.warm {s U : State} (hW : s.WarmedH U.vm) (h : iv_T s) : iv_T U := by
  refine ⟨fun w hw hn => ?_, va_AO.moved hW.alike h.2.1, va_AO.moved hW.alike h.2.2.1, iv_AOA.moved hW.alike h.2.2.2⟩
  have h1 := h.1 w hw hn
  cases w <;> first | exact va_Nw.warmM hW h1 | cases hn
theorem iv_T.same {u U : State} (e : u.vm = U.vm) (h : iv_T u) : iv_T U := by
  have hA : u.vm.Alike U.vm := by rw [e]; exact Vm.Alike.refl _
  refine ⟨fun w hw hn => ?_, va_AO.moved hA h.2.1, va_AO.moved hA h.2.2.1, iv_AOA.moved hA h.2.2.2⟩
  have h1 := h.1 w hw hn
  cases w <;> first | exact va_Nw.same rfl e h1 | cases hn
theorem iv_HR.moved {D : va_G} {dA : Nat → ClassId} {L b B0 : Nat} {u U : State} {H : Heap} {w : ivS} (hvm : u.vm.Alike U.vm) (h : iv_HR D dA L b B0 u H w) : iv_HR D dA L b B0 U H w :=
  ⟨h.1, h.2.1, h.2.2.1, va_X.moved hvm h.2.2.2.1, h.2.2.2.2.1, h.2.2.2.2.2.1, h.2.2.2.2.2.2.1, va_K.moved hvm h.2.2.2.2.2.2.2⟩
theorem iv_rv_ne {b B0 x : Nat} (h : x ≠ 0) : iv_rv b B0 x = .ref (iv_ad b B0 x) := if_neg h
theorem iv_ad_inj {b B0 x y : Nat} (hb : b < B0) (hx : 1 ≤ x) (hy : 1 ≤ y) (h : iv_ad b B0 x = iv_ad b B0 y) : x = y := by
  unfold iv_ad at h
  split at h <;> split at h <;> omega
theorem iv_cat (b B0 : Nat) (v : ivV) : (iv_cv b B0 v).category = (bif iv_lg v then 2 else 1) := by
  rcases v with x | x | x | x
  · rfl
  · rfl
  · show (iv_rv b B0 x).category = 1
    unfold iv_rv; split <;> rfl
  · rfl
theorem iv_c1_cat {b B0 : Nat} {v : ivV} (h : iv_c1 v = true) : (iv_cv b B0 v).category = 1 := by
  rw [iv_cat]
  rcases v with x | x | x | x <;> first | rfl | cases h
/-- a heap in which one cell is changed -/
theorem iv_HR.set {D : va_G} {dA : Nat → ClassId} {L b B0 : Nat} {U : State} {H H1 : Heap} {w w1 : ivS} {x : Nat} (h : iv_HR D dA L b B0 U H w) (hx : 2 ≤ x) (hn : w1.1 = w.1) (hz : H1.size = H.size)
    (hH : ∀ q, q ≠ iv_ad b B0 x → H1[q]? = H[q]?) (hc : iv_cell D dA L b B0 w1 H1 x) (hm : ∀ y, y ≠ x → ∀ k, w1.2.1 y k = w.2.1 y k ∧ w1.2.2 y k = w.2.2 y k) (hi : ∀ y k, iv_in (w1.2.1 y k)) (hr : ∀ y k, w1.2.2 y k ≤ w1.1) : iv_HR D dA L b B0 U H1 w1 := by
  obtain ⟨h1, h2, h3, h4, h5, h6, h7, h8⟩ := h
  refine ⟨by rw [hn]; exact h1, by rw [hz, hn]; exact h2, h3, ?_, fun y y2 yn => ?_, hi, hr, h8⟩
  · have e : (fun k => Int32.ofInt (w1.2.1 1 k)) = fun k => Int32.ofInt (w.2.1 1 k) := funext fun k => by rw [(hm 1 (by omega) k).1]
    rw [e]
    refine h4.kept (hH _ fun q => ?_)
    unfold iv_ad at q
    split at q <;> omega
  · by_cases e : y = x
    · rw [e]; exact hc
    · have hq : H1[iv_ad b B0 y]? = H[iv_ad b B0 y]? := hH _ fun q => e (iv_ad_inj h3 (by omega) (by omega) q)
      obtain ⟨c1, c2⟩ := h5 y y2 (by rw [← hn]; exact yn)
      have es : ∀ ty k, iv_slot b B0 ty w1 y k = iv_slot b B0 ty w y k := fun ty k => by unfold iv_slot; rw [(hm y e k).1, (hm y e k).2]
      refine ⟨fun q => ?_, fun q => ?_⟩
      · exact ((c1 q).kept hq).to fun k _ => (es _ k).symm
      · rw [hq, c2 q]
        simp only [es]
end
section
theorem iv_wt0 : iv_wc0.map iv_wd = k2_sels lw_privs := by rfl
set_option maxRecDepth 100000 in
set_option maxHeartbeats 4000000 in
theorem iv_wt1 : iv_wc1.map iv_wd = tables_1_1 := by rfl
set_option maxRecDepth 100000 in
set_option maxHeartbeats 4000000 in
theorem iv_wt2 : iv_wc2.map iv_wd = tables_1_2 := by rfl
set_option maxRecDepth 100000 in
set_option maxHeartbeats 4000000 in
theorem iv_wt3 : iv_wc3.map iv_wd = tables_1_3 := by rfl
set_option maxRecDepth 100000 in
set_option maxHeartbeats 4000000 in
theorem iv_wt4 : iv_wc4.map iv_wd = tables_1_4 := by rfl
set_option maxRecDepth 100000 in
set_option maxHeartbeats 4000000 in
theorem iv_wt5 : iv_wc5.map iv_wd = tables_1_5 := by rfl
def iv_mws : List (List (Nat × Nat × Nat × Nat × Nat)) := [[(2, 234, 233, 0, 66), (1, 618, 616, 617, 66), (1, 573, 571, 572, 66), (1, 577, 576, 22, 66), (1, 582, 581, 23, 66), (1, 590, 589, 25, 66), (1, 586, 585, 24, 66), (1, 594, 592, 593, 66), (1, 598, 596, 597, 66), (1, 602, 601, 26, 66), (1, 606, 605, 27, 66), (2, 147, 146, 0, 62), (1, 387, 385, 386, 62), (1, 403, 401, 402, 62), (1, 477, 475, 476, 62), (1, 561, 559, 560, 62)],
  [(1, 481, 479, 480, 62), (2, 170, 169, 0, 63), (1, 391, 389, 390, 63), (1, 711, 709, 710, 63), (1, 437, 435, 436, 63), (1, 441, 439, 440, 63), (1, 463, 461, 462, 63), (1, 626, 624, 625, 63), (0, 406, 405, 0, 69), (0, 360, 359, 0, 69), (0, 421, 420, 0, 69), (0, 696, 695, 0, 69), (2, 197, 196, 0, 64), (1, 414, 412, 413, 64), (1, 418, 416, 417, 64), (1, 426, 424, 425, 64)],
  [(1, 522, 520, 521, 64), (2, 215, 214, 0, 65), (1, 497, 495, 496, 65), (1, 501, 499, 500, 65), (1, 505, 504, 14, 65), (1, 510, 508, 509, 65), (1, 514, 513, 15, 65), (1, 518, 517, 16, 65), (1, 530, 529, 17, 65), (1, 535, 534, 18, 65), (2, 259, 258, 0, 67), (1, 638, 636, 637, 67), (1, 653, 651, 652, 67), (1, 680, 678, 679, 67), (1, 688, 686, 687, 67), (1, 657, 656, 28, 67)],
  [(1, 661, 660, 29, 67), (1, 665, 664, 30, 67), (2, 100, 99, 0, 61), (1, 325, 323, 324, 61), (1, 333, 332, 0, 61), (1, 337, 336, 1, 61), (1, 341, 340, 2, 61), (1, 357, 356, 6, 61), (1, 345, 344, 3, 61), (1, 349, 348, 4, 61), (1, 353, 352, 5, 61), (1, 364, 363, 7, 61), (1, 368, 367, 8, 61), (1, 379, 378, 10, 61), (1, 372, 371, 9, 61), (2, 84, 83, 0, 60)],
  [(1, 313, 311, 312, 60), (1, 329, 327, 328, 60), (2, 76, 75, 0, 59), (1, 309, 307, 308, 59), (1, 317, 315, 316, 59), (1, 321, 319, 320, 59), (1, 383, 381, 382, 59), (1, 399, 397, 398, 59), (1, 410, 408, 409, 59), (1, 433, 431, 432, 59), (1, 451, 449, 450, 59), (1, 455, 453, 454, 59), (1, 459, 457, 458, 59), (1, 469, 467, 468, 59), (1, 473, 471, 472, 59), (1, 485, 483, 484, 59)],
  [(1, 489, 487, 488, 59), (1, 540, 538, 539, 59), (1, 545, 543, 544, 59), (1, 557, 555, 556, 59), (1, 565, 563, 564, 59), (1, 610, 608, 609, 59), (1, 614, 612, 613, 59), (1, 622, 620, 621, 59), (1, 630, 628, 629, 59), (1, 634, 632, 633, 59), (1, 642, 640, 641, 59), (1, 646, 644, 645, 59), (1, 676, 674, 675, 59), (1, 684, 682, 683, 59), (1, 693, 691, 692, 59), (1, 707, 705, 706, 59)],
  [(1, 715, 713, 714, 59), (1, 719, 717, 718, 59), (0, 375, 374, 0, 59), (0, 649, 648, 0, 59), (1, 395, 394, 11, 59), (1, 724, 723, 32, 59), (1, 703, 702, 31, 59), (1, 493, 492, 13, 59), (1, 446, 445, 12, 59), (1, 549, 548, 19, 59), (1, 553, 552, 20, 59), (1, 569, 568, 21, 59), (2, 729, 728, 0, 68), (0, 851, 850, 0, 68), (1, 847, 845, 846, 68), (1, 856, 854, 855, 68)],
  [(1, 868, 867, 34, 68), (1, 877, 876, 36, 68), (1, 872, 871, 35, 68), (1, 891, 890, 39, 68), (1, 895, 894, 40, 68), (1, 864, 863, 33, 68), (1, 887, 886, 38, 68), (1, 881, 880, 37, 68), (1, 860, 858, 859, 68), (1, 899, 897, 898, 68), (1, 907, 906, 41, 68), (1, 963, 962, 47, 68), (1, 903, 901, 902, 68), (0, 922, 921, 0, 68), (1, 919, 918, 43, 68), (1, 915, 914, 42, 68)],
  [(1, 911, 909, 910, 68), (1, 930, 929, 44, 68), (1, 934, 933, 45, 68), (1, 926, 924, 925, 68), (1, 938, 936, 937, 68), (1, 946, 945, 46, 68), (1, 942, 940, 941, 68), (1, 950, 948, 949, 68), (1, 955, 953, 954, 68), (1, 967, 966, 48, 68), (1, 959, 957, 958, 68), (1, 971, 969, 970, 68), (1, 979, 978, 49, 68), (1, 975, 973, 974, 68), (1, 983, 981, 982, 68), (1, 991, 990, 50, 68)],
  [(1, 987, 985, 986, 68), (1, 999, 998, 51, 68), (1, 1003, 1002, 52, 68), (1, 995, 993, 994, 68), (1, 1011, 1010, 53, 68), (1, 1015, 1014, 54, 68), (1, 1007, 1005, 1006, 68), (1, 1023, 1022, 55, 68), (1, 1019, 1017, 1018, 68), (1, 1027, 1025, 1026, 68), (1, 1031, 1029, 1030, 68), (1, 1035, 1033, 1034, 68), (1, 1039, 1037, 1038, 68), (1, 1044, 1042, 1043, 68), (1, 1052, 1051, 56, 68), (1, 1056, 1055, 57, 68)],
  [(1, 1048, 1046, 1047, 68), (1, 1060, 1058, 1059, 68), (1, 1064, 1062, 1063, 68), (1, 1068, 1066, 1067, 68), (1, 1073, 1071, 1072, 68), (1, 1077, 1075, 1076, 68), (1, 1081, 1079, 1080, 68), (0, 668, 667, 0, 71), (0, 525, 524, 0, 70), (0, 429, 428, 0, 70), (9, 0, 0, 0, 0)]]
def iv_mw (z : Nat) : Nat × Nat × Nat × Nat × Nat := (iv_mws.getD (z / 16) []).getD (z % 16) (9, 0, 0, 0, 0)
def iv_nps : List (List Nat) := [[0, 0, 1, 1, 2, 3, 3, 1, 2, 2, 2, 0, 1, 1, 1, 1],
  [1, 0, 1, 1, 1, 0, 1, 2, 2, 3, 1, 2, 0, 2, 1, 2],
  [2, 0, 0, 1, 1, 1, 2, 2, 4, 1, 0, 2, 2, 2, 1, 2],
  [1, 2, 0, 1, 1, 1, 1, 1, 1, 0, 1, 1, 1, 1, 1, 0],
  [1, 1, 0, 2, 0, 0, 0, 2, 2, 1, 1, 0, 1, 1, 3, 3],
  [1, 2, 1, 2, 2, 1, 1, 2, 1, 2, 0, 1, 2, 1, 1, 1],
  [1, 1, 2, 1, 1, 0, 1, 0, 2, 0, 2, 0, 0, 3, 2, 0],
  [0, 0, 1, 0, 1, 0, 0, 0, 0, 0, 1, 1, 2, 3, 1, 2],
  [2, 1, 1, 1, 1, 0, 0, 1, 1, 2, 3, 3, 0, 1, 2, 1],
  [1, 1, 3, 2, 1, 2, 2, 1, 1, 1, 2, 1, 2, 0, 2, 1],
  [1, 2, 1, 1, 1, 1, 1, 1, 2, 2, 1]]
def iv_np (z : Nat) : Nat := (iv_nps.getD (z / 16) []).getD (z % 16) 0
def iv_lw : List (List Nat) := [[244, 246, 248, 250, 252], [157, 159, 161, 163], [181, 183, 185, 187, 189], [204, 206, 208], [223, 225, 227], [267, 269, 271, 273, 275], [120, 122, 124, 126, 128, 130, 132, 134, 136, 138, 140], [90, 92], [287, 289, 291, 293, 295, 297, 299, 301, 303], [768, 770, 772, 774, 776, 778, 780, 782, 784, 786, 788, 790, 792, 794, 796, 798, 800, 802, 804, 806, 808, 810, 812, 814, 816, 818, 820, 822, 824, 826, 828, 830, 832, 834, 836, 838, 840]]
def iv_cw : List (Nat × Nat) := [(231, 66), (144, 62), (167, 63), (194, 64), (212, 65), (256, 67), (97, 61), (81, 60), (73, 59), (726, 68)]
def iv_plain : List Nat := [0, 21, 29, 37, 43, 48, 58, 66, 81, 84, 128, 153, 155, 158]
def iv_descs : List (Nat × Nat) := [(2, 0), (4, 0), (6, 1), (9, 2), (11, 3), (13, 3), (15, 1), (17, 2), (20, 2), (23, 1), (25, 1), (32, 1), (40, 3), (51, 1), (56, 4), (68, 1), (75, 0), (86, 2), (120, 1), (130, 3)]
/-! WHAT A PROGRAM DECIDES OF THE TABLES -/
def iv_wcg (i : Nat) : Nat × Nat × Nat × Nat × Nat × Nat := (iv_WC.getD (i / 32) []).getD (i % 32) (0, 0, 0, 0, 0, 0)
theorem iv_lw_eq : lw_tbl = iv_WC.flatten.map iv_wd := by
  have e : iv_WC.flatten = iv_wc0 ++ (iv_wc1 ++ (iv_wc2 ++ (iv_wc3 ++ (iv_wc4 ++ (iv_wc5))))) := by decide +kernel
  rw [e]
  simp only [List.map_append, iv_wt0, iv_wt1, iv_wt2, iv_wt3, iv_wt4, iv_wt5]
  rfl
theorem iv_wcg_mem {i : Nat} {c : Nat × Nat × Nat × Nat × Nat × Nat} (h : iv_wcg i = c) (h0 : c.1 ≠ 0) : iv_wd c ∈ lw_tbl := by
  rw [iv_lw_eq]
  refine List.mem_map.mpr ⟨c, ?_, rfl⟩
  unfold iv_wcg at h
  rw [List.getD_eq_getElem?_getD, List.getD_eq_getElem?_getD] at h
  cases h1 : iv_WC[i / 32]? with
  | none =>
    rw [h1] at h
    simp only [Option.getD_none, List.getElem?_nil] at h
    exact absurd (by rw [← h]) h0
  | some r =>
    rw [h1] at h
    simp only [Option.getD_some] at h
    cases h2 : r[i % 32]? with
    | none =>
      rw [h2] at h
      simp only [Option.getD_none] at h
      exact absurd (by rw [← h]) h0
    | some c' =>
      rw [h2] at h
      simp only [Option.getD_some] at h
      rw [← h]
      exact List.mem_flatten.mpr ⟨r, List.mem_of_getElem? h1, List.mem_of_getElem? h2⟩
def iv_at (i : Nat) (c : Nat × Nat × Nat × Nat × Nat × Nat) : Bool := decide (iv_wcg i = c) && (goodWord (iv_wd c) && Nat.blt 0 c.1)
theorem iv_at_mem {i : Nat} {c : Nat × Nat × Nat × Nat × Nat × Nat} (h : iv_at i c = true) : iv_wd c ∈ iv_TB := by
  unfold iv_at at h
  rw [Bool.and_eq_true, Bool.and_eq_true, decide_eq_true_eq] at h
  exact List.mem_filter.mpr ⟨iv_wcg_mem h.1 (by have := Nat.le_of_ble_eq_true h.2.2; omega), h.2.1⟩
def iv_atn (i : Nat) (c : Nat × Nat × Nat × Nat × Nat × Nat) : Bool := decide (iv_wcg i = c) && (iv_nest (iv_wd c) && Nat.blt 0 c.1)
theorem iv_atn_mem {i : Nat} {c : Nat × Nat × Nat × Nat × Nat × Nat} (h : iv_atn i c = true) : iv_wd c ∈ lw_tbl ∧ iv_nest (iv_wd c) = true := by
  unfold iv_atn at h
  rw [Bool.and_eq_true, Bool.and_eq_true, decide_eq_true_eq] at h
  exact ⟨iv_wcg_mem h.1 (by have := Nat.le_of_ble_eq_true h.2.2; omega), h.2.1⟩
def iv_dec (mi : Nat) (e : ivE) : Bool := match decode (iv_cd mi) e.1 with
  | .ok q => decide (q = (e.2.1, e.2.2.1))
  | _ => false
theorem iv_dec_of {mi : Nat} {e : ivE} (h : iv_dec mi e = true) : decode (iv_cd mi) e.1 = .ok (e.2.1, e.2.2.1) := by
  unfold iv_dec at h
  split at h
  · rename_i q hq
    rw [hq, of_decide_eq_true h]
  · cases h
/-- a field's kind and its type -/
def iv_tyk (ty : Option FieldType) (k : Nat) : Bool := match ty with
  | some .int => Nat.beq k 0
  | some .boolean => Nat.beq k 1
  | some (.object _) => Nat.beq k 2
  | some (.array _) => Nat.beq k 2
  | _ => false
def iv_gf (mi : Nat) (e : ivE) (idx : Nat) : Bool := match iv_cls[e.2.2.2.1]? with
  | some q => Nat.blt e.2.2.2.2.1 q.2 && iv_at e.2.2.2.2.2.2 (8, (iv_nc mi).1, idx, (iv_Tc e.2.2.2.1 e.2.2.2.2.1).1, (iv_Tc e.2.2.2.1 e.2.2.2.2.1).2.1, (iv_Tc e.2.2.2.1 e.2.2.2.2.1).2.2.1)
  | none => false
/-- a final field: in a constructor of its class (the name of constructors has the number 1) -/
def iv_gp (mi : Nat) (e : ivE) : Bool := !(iv_Tc e.2.2.2.1 e.2.2.2.2.1).2.2.2 || (decide ((iv_Tc e.2.2.2.1 e.2.2.2.2.1).1 = (iv_nc mi).1) && decide ((iv_nc mi).2.1 = 1))
/-- methods: (0: static, 1: of an object, 2: a constructor), the places of the words of its code, of 'static' or 'instanceMethod', of 'selects', of 'initialized' -/
def iv_mg (z : Nat) : Bool :=
  (List.contains iv_plain (iv_nc z).1 && (List.contains iv_descs ((iv_nc z).2.2, iv_np z) &&
  (iv_at (iv_mw z).2.1 (6, z, 0, 0, 0, 0) && (iv_at (iv_mw z).2.2.2.2 (1, (iv_nc z).1, 0, 0, 0, 0) &&
  (match (iv_mw z).1 with
    | 0 => iv_at (iv_mw z).2.2.1 (14, z, 0, 0, 0, 0)
    | 1 => iv_at (iv_mw z).2.2.1 (5, z, 0, 0, 0, 0) && (iv_at (iv_mw z).2.2.2.1 (7, (iv_nc z).1, z, z, 0, 0) && decide ((iv_cls[iv_own z]?).map (fun q => q.1) = some (iv_nc z).1))
    | 2 => iv_at (iv_mw z).2.2.1 (5, z, 0, 0, 0, 0) && (decide ((iv_nc z).2.1 = 1) && decide (iv_rt z = none))
    | _ => false)))))
/-- a call: the room that it needs, its link -/
def iv_gc (mi : Nat) (e : ivE) (idx kind : Nat) : Bool :=
  Nat.blt e.2.2.2.1 170 && (Nat.beq (iv_mw e.2.2.2.1).1 kind && (Nat.beq e.2.2.2.2.1 (iv_np e.2.2.2.1 + (bif Nat.beq kind 0 then 0 else 1)) &&
  (Nat.ble ((iv_rm e.2.2.2.1).1 + 1) (iv_rm mi).1 && (Nat.ble (8 + (iv_ml e.2.2.2.1 + 11) + (iv_rm e.2.2.2.1).2) (iv_rm mi).2 &&
  (bif decide (e.2.2.2.2.2.1 = 0) then iv_at e.2.2.2.2.2.2 (4, (iv_nc mi).1, idx, e.2.2.2.1, 0, 0) else iv_atn e.2.2.2.2.2.2 (13, (iv_nc mi).1, idx, e.2.2.2.1, 84, 0))))))
def iv_tg (pc : Nat) (o : Int) : Bool := decide (0 ≤ (pc : Int) + o)
def iv_inb (x : Int) : Bool := decide (-2147483648 ≤ x) && decide (x ≤ 2147483647)
def iv_ilb (x : Int) : Bool := decide (-9223372036854775808 ≤ x) && decide (x ≤ 9223372036854775807)
def iv_gi (mi : Nat) (e : ivE) : Bool := match e.2.1 with
  | .iconst x => Nat.beq e.2.2.1 1 && iv_inb x
  | .bipush x => Nat.beq e.2.2.1 2 && iv_inb x && decide ((Int8.ofInt x).toInt32 = Int32.ofInt x)
  | .sipush x => Nat.beq e.2.2.1 3 && iv_inb x && decide ((Int16.ofInt x).toInt32 = Int32.ofInt x)
  | .lconst _ => Nat.beq e.2.2.1 1
  | .ldc idx => Nat.beq e.2.2.1 2 && iv_inb e.2.2.2.2.2.1 && decide (0 ≤ e.2.2.2.2.2.1) && iv_at e.2.2.2.2.2.2 (15, (iv_nc mi).1, idx, e.2.2.2.2.2.1.toNat, 0, 0)
  | .ldc_w idx => Nat.beq e.2.2.1 3 && iv_inb e.2.2.2.2.2.1 && decide (0 ≤ e.2.2.2.2.2.1) && iv_at e.2.2.2.2.2.2 (15, (iv_nc mi).1, idx, e.2.2.2.2.2.1.toNat, 0, 0)
  | .ldc2_w idx => Nat.beq e.2.2.1 3 && iv_ilb e.2.2.2.2.2.1 && decide (0 ≤ e.2.2.2.2.2.1) && iv_at e.2.2.2.2.2.2 (16, (iv_nc mi).1, idx, e.2.2.2.2.2.1.toNat, 0, 0)
  | .iload_n _ => Nat.beq e.2.2.1 1
  | .lload_n _ => Nat.beq e.2.2.1 1
  | .aload_n _ => Nat.beq e.2.2.1 1
  | .istore_n _ => Nat.beq e.2.2.1 1
  | .astore_n _ => Nat.beq e.2.2.1 1
  | .iload _ => Nat.beq e.2.2.1 2
  | .lload _ => Nat.beq e.2.2.1 2
  | .aload _ => Nat.beq e.2.2.1 2
  | .istore _ => Nat.beq e.2.2.1 2
  | .astore _ => Nat.beq e.2.2.1 2
  | .iinc _ _ => Nat.beq e.2.2.1 3
  | .goto o => Nat.beq e.2.2.1 3 && iv_tg e.1 o
  | .if_icmp _ o => Nat.beq e.2.2.1 3 && iv_tg e.1 o
  | .ifCond _ o => Nat.beq e.2.2.1 3 && iv_tg e.1 o
  | .ifnull o => Nat.beq e.2.2.1 3 && iv_tg e.1 o
  | .ifnonnull o => Nat.beq e.2.2.1 3 && iv_tg e.1 o
  | .tableswitch d lo hi os => iv_tg e.1 d && (os.toList.all (fun o => iv_tg e.1 o) && decide (hi - lo + 1 = Int.ofNat os.size))
  | .lookupswitch d ps => iv_tg e.1 d && (ps.toList.all (fun o => iv_tg e.1 o.2) && (ps.toList.zip (ps.toList.drop 1)).all (fun (a, next) => a.1 < next.1))
  | .getfield idx => Nat.beq e.2.2.1 3 && iv_gf mi e idx
  | .putfield idx => Nat.beq e.2.2.1 3 && (iv_gf mi e idx && iv_gp mi e)
  | .new idx => Nat.beq e.2.2.1 3 && (match iv_cls[e.2.2.2.1]? with
    | some q => iv_at e.2.2.2.2.2.2 (2, (iv_nc mi).1, idx, q.1, 0, 0)
    | none => false)
  | .newarray t => Nat.beq e.2.2.1 2 && (bif Nat.beq e.2.2.2.1 0 then decide (t = .int) else Nat.beq e.2.2.2.1 1 && decide (t = .boolean))
  | .anewarray idx => Nat.beq e.2.2.1 3 && (bif Nat.beq e.2.2.2.1 2 then iv_at e.2.2.2.2.2.2 (2, (iv_nc mi).1, idx, 29, 0, 0) else Nat.beq e.2.2.2.1 3 && iv_at e.2.2.2.2.2.2 (2, (iv_nc mi).1, idx, 43, 0, 0))
  | .multianewarray idx k => Nat.beq e.2.2.1 4 && (Nat.beq k 2 && iv_at e.2.2.2.2.2.2 (2, (iv_nc mi).1, idx, 178, 0, 0))
  | .invokevirtual idx => Nat.beq e.2.2.1 3 && iv_gc mi e idx 1
  | .invokestatic idx => Nat.beq e.2.2.1 3 && iv_gc mi e idx 0
  | .invokespecial idx => Nat.beq e.2.2.1 3 && (bif Nat.ble 1000 e.2.2.2.1 then iv_at e.2.2.2.2.2.2 (4, (iv_nc mi).1, idx, 1000, 0, 0) && (Nat.ble 1 (iv_rm mi).1 && Nat.ble 20 (iv_rm mi).2) else iv_gc mi e idx 2)
  | .ireturn => Nat.beq e.2.2.1 1 && (bif iv_zb mi then decide (iv_rt mi = some .boolean) else decide (iv_rt mi = some .int))
  | .areturn => Nat.beq e.2.2.1 1 && (match iv_rt mi with
    | some (.object _) => true
    | some (.array _) => true
    | _ => false)
  | .return_ => Nat.beq e.2.2.1 1 && decide (iv_rt mi = none)
  | _ => Nat.beq e.2.2.1 1
def iv_good (mi : Nat) : Bool := (iv_code mi).all (fun c => c.all (fun e => iv_dec mi e && iv_gi mi e))
def iv_pc (mi j : Nat) : Bool := ((iv_code mi).getD j []).all (fun e => iv_dec mi e && iv_gi mi e)
theorem iv_pc_of {mi : Nat} (h : iv_good mi = true) (j : Nat) : iv_pc mi j = true := by
  unfold iv_pc
  rw [List.getD_eq_getElem?_getD]
  cases hc : (iv_code mi)[j]? with
  | none => rfl
  | some c => exact List.all_eq_true.mp h c (List.mem_of_getElem? hc)
theorem iv_good_of {mi pc : Nat} {e : ivE} (hg : ∀ j, iv_pc mi j = true) (h : iv_ins mi pc = some e) : decode (iv_cd mi) pc = .ok (e.2.1, e.2.2.1) ∧ iv_gi mi e = true ∧ e.1 = pc := by
  unfold iv_ins at h
  have h1 := List.find?_some h
  have h2 := List.mem_of_find?_eq_some h
  have e1 : e.1 = pc := Nat.eq_of_beq_eq_true h1
  have h3 := List.all_eq_true.mp (hg (pc / 16)) e h2
  rw [Bool.and_eq_true] at h3
  exact ⟨by rw [← e1]; exact iv_dec_of h3.1, h3.2, e1⟩
/-- classes -/
def iv_cg (ci : Nat) : Bool := match iv_cls[ci]? with
  | some q => (List.range q.2).all (fun k => iv_at ((iv_lw.getD ci []).getD k 0) (bif (iv_Tc ci k).2.2.2 then 10 else 9, q.1, (iv_Tc ci k).1, (iv_Tc ci k).2.1, (iv_Tc ci k).2.2.1, 0) && (iv_tyk (parseFieldDescriptor (iv_s (iv_Tc ci k).2.2.1)) (iv_fty ci k))) &&
    (iv_at (iv_cw.getD ci (0, 0)).1 (3, q.1, q.2, 0, 0, 0) && iv_at (iv_cw.getD ci (0, 0)).2 (1, q.1, 0, 0, 0, 0))
  | none => true
def iv_lg1 (q : Nat × Nat × Nat) : Bool := bif Nat.beq q.1 0 then decide ((iv_cls[q.2.1]?).map (fun r => r.2) = some q.2.2) else bif Nat.beq q.1 1 then Nat.ble q.2.1 4 && Nat.ble q.2.2 1792 else Nat.beq q.1 9
end
section
set_option maxRecDepth 100000 in
theorem iv_gr_0 : (List.range' 0 20).all iv_good = true := by decide +kernel
set_option maxRecDepth 100000 in
theorem iv_gr_20 : (List.range' 20 20).all iv_good = true := by decide +kernel
set_option maxRecDepth 100000 in
theorem iv_gr_40 : (List.range' 40 20).all iv_good = true := by decide +kernel
set_option maxRecDepth 100000 in
theorem iv_gr_60 : (List.range' 60 20).all iv_good = true := by decide +kernel
set_option maxRecDepth 100000 in
theorem iv_gr_80 : (List.range' 80 20).all iv_good = true := by decide +kernel
set_option maxRecDepth 100000 in
theorem iv_gr_100 : (List.range' 100 15).all iv_good = true := by decide +kernel
set_option maxRecDepth 100000 in
theorem iv_gr_115 : (List.range' 115 15).all iv_good = true := by decide +kernel
set_option maxRecDepth 100000 in
theorem iv_gr_130 : (List.range' 130 15).all iv_good = true := by decide +kernel
set_option maxRecDepth 100000 in
theorem iv_gr_145 : (List.range' 145 15).all iv_good = true := by decide +kernel
set_option maxRecDepth 100000 in
theorem iv_gr_160 : (List.range' 160 10).all iv_good = true := by decide +kernel
theorem iv_gr_of {a n mi : Nat} (h : (List.range' a n).all iv_good = true) (h1 : a ≤ mi) (h2 : mi < a + n) : iv_good mi = true := List.all_eq_true.mp h mi (List.mem_range'_1.mpr ⟨h1, h2⟩)
theorem iv_good_all (mi : Nat) (h : mi < 170) : iv_good mi = true := by
  by_cases h20 : mi < 20
  · exact iv_gr_of iv_gr_0 (by omega) (by omega)
  by_cases h40 : mi < 40
  · exact iv_gr_of iv_gr_20 (by omega) (by omega)
  by_cases h60 : mi < 60
  · exact iv_gr_of iv_gr_40 (by omega) (by omega)
  by_cases h80 : mi < 80
  · exact iv_gr_of iv_gr_60 (by omega) (by omega)
  by_cases h100 : mi < 100
  · exact iv_gr_of iv_gr_80 (by omega) (by omega)
  by_cases h115 : mi < 115
  · exact iv_gr_of iv_gr_100 (by omega) (by omega)
  by_cases h130 : mi < 130
  · exact iv_gr_of iv_gr_115 (by omega) (by omega)
  by_cases h145 : mi < 145
  · exact iv_gr_of iv_gr_130 (by omega) (by omega)
  by_cases h160 : mi < 160
  · exact iv_gr_of iv_gr_145 (by omega) (by omega)
  exact iv_gr_of iv_gr_160 (by omega) (by omega)
set_option maxRecDepth 100000 in
theorem iv_gl_0 : (List.range' 0 4).all (iv_pc 170) = true := by decide +kernel
set_option maxRecDepth 100000 in
theorem iv_gl_4 : (List.range' 4 4).all (iv_pc 170) = true := by decide +kernel
set_option maxRecDepth 100000 in
theorem iv_gl_8 : (List.range' 8 4).all (iv_pc 170) = true := by decide +kernel
set_option maxRecDepth 100000 in
theorem iv_gl_12 : (List.range' 12 4).all (iv_pc 170) = true := by decide +kernel
set_option maxRecDepth 100000 in
theorem iv_gl_16 : (List.range' 16 4).all (iv_pc 170) = true := by decide +kernel
set_option maxRecDepth 100000 in
theorem iv_gl_20 : (List.range' 20 4).all (iv_pc 170) = true := by decide +kernel
set_option maxRecDepth 100000 in
theorem iv_gl_24 : (List.range' 24 4).all (iv_pc 170) = true := by decide +kernel
set_option maxRecDepth 100000 in
theorem iv_gl_28 : (List.range' 28 4).all (iv_pc 170) = true := by decide +kernel
set_option maxRecDepth 100000 in
theorem iv_gl_32 : (List.range' 32 4).all (iv_pc 170) = true := by decide +kernel
set_option maxRecDepth 100000 in
theorem iv_gl_36 : (List.range' 36 4).all (iv_pc 170) = true := by decide +kernel
set_option maxRecDepth 100000 in
theorem iv_gl_40 : (List.range' 40 4).all (iv_pc 170) = true := by decide +kernel
set_option maxRecDepth 100000 in
theorem iv_gl_44 : (List.range' 44 4).all (iv_pc 170) = true := by decide +kernel
set_option maxRecDepth 100000 in
theorem iv_gl_48 : (List.range' 48 4).all (iv_pc 170) = true := by decide +kernel
set_option maxRecDepth 100000 in
theorem iv_gl_52 : (List.range' 52 4).all (iv_pc 170) = true := by decide +kernel
set_option maxRecDepth 100000 in
theorem iv_gl_56 : (List.range' 56 4).all (iv_pc 170) = true := by decide +kernel
set_option maxRecDepth 100000 in
theorem iv_gl_60 : (List.range' 60 3).all (iv_pc 170) = true := by decide +kernel
theorem iv_gl_of {a n j : Nat} (h : (List.range' a n).all (iv_pc 170) = true) (h1 : a ≤ j) (h2 : j < a + n) : iv_pc 170 j = true := List.all_eq_true.mp h j (List.mem_range'_1.mpr ⟨h1, h2⟩)
set_option maxRecDepth 100000 in
theorem iv_len170 : (iv_code 170).length = 63 := by decide +kernel
theorem iv_good_law (j : Nat) : iv_pc 170 j = true := by
  by_cases h0 : j < 4
  · exact iv_gl_of iv_gl_0 (by omega) (by omega)
  by_cases h4 : j < 8
  · exact iv_gl_of iv_gl_4 (by omega) (by omega)
  by_cases h8 : j < 12
  · exact iv_gl_of iv_gl_8 (by omega) (by omega)
  by_cases h12 : j < 16
  · exact iv_gl_of iv_gl_12 (by omega) (by omega)
  by_cases h16 : j < 20
  · exact iv_gl_of iv_gl_16 (by omega) (by omega)
  by_cases h20 : j < 24
  · exact iv_gl_of iv_gl_20 (by omega) (by omega)
  by_cases h24 : j < 28
  · exact iv_gl_of iv_gl_24 (by omega) (by omega)
  by_cases h28 : j < 32
  · exact iv_gl_of iv_gl_28 (by omega) (by omega)
  by_cases h32 : j < 36
  · exact iv_gl_of iv_gl_32 (by omega) (by omega)
  by_cases h36 : j < 40
  · exact iv_gl_of iv_gl_36 (by omega) (by omega)
  by_cases h40 : j < 44
  · exact iv_gl_of iv_gl_40 (by omega) (by omega)
  by_cases h44 : j < 48
  · exact iv_gl_of iv_gl_44 (by omega) (by omega)
  by_cases h48 : j < 52
  · exact iv_gl_of iv_gl_48 (by omega) (by omega)
  by_cases h52 : j < 56
  · exact iv_gl_of iv_gl_52 (by omega) (by omega)
  by_cases h56 : j < 60
  · exact iv_gl_of iv_gl_56 (by omega) (by omega)
  by_cases h60 : j < 63
  · exact iv_gl_of iv_gl_60 (by omega) (by omega)
  unfold iv_pc
  rw [List.getD_eq_getElem?_getD, List.getElem?_eq_none (by rw [iv_len170]; omega)]
  rfl
theorem iv_good_any (mi : Nat) (h : mi < 171) (j : Nat) : iv_pc mi j = true := by
  by_cases e : mi = 170
  · rw [e]; exact iv_good_law j
  · exact iv_pc_of (iv_good_all mi (by omega)) j
set_option maxRecDepth 100000 in
theorem iv_mgr : (List.range 170).all iv_mg = true := by decide +kernel
theorem iv_mg_all (z : Nat) (h : z < 170) : iv_mg z = true := List.all_eq_true.mp iv_mgr z (List.mem_range.mpr h)
set_option maxRecDepth 100000 in
theorem iv_cgr : (List.range 10).all iv_cg = true := by decide +kernel
theorem iv_cg_all (ci : Nat) (h : ci < 10) : iv_cg ci = true := List.all_eq_true.mp iv_cgr ci (List.mem_range.mpr h)
set_option maxRecDepth 100000 in
theorem iv_lgr : iv_Y.all (fun r => r.all iv_lg1) = true := by decide +kernel
set_option maxRecDepth 100000 in
theorem iv_plainr : iv_plain.all (fun c => (plainName (iv_s c) || decide (c = 155)) && (decide (iv_s c ≠ "java/lang/invoke/MethodHandle") && decide (iv_s c ≠ "java/lang/invoke/VarHandle"))) = true := by decide +kernel
set_option maxRecDepth 100000 in
theorem iv_math : (List.range 170).all (fun z => decide ((iv_nc z).1 ≠ 155) || (decide (z = 168) || decide (z = 169))) = true := by decide +kernel
set_option maxRecDepth 100000 in
theorem iv_pf_168 : plainFor (iv_nm 168) = true := by decide +kernel
set_option maxRecDepth 100000 in
theorem iv_pf_169 : plainFor (iv_nm 169) = true := by decide +kernel
set_option maxRecDepth 100000 in
theorem iv_descr : iv_descs.all (fun d => decide ((parseMethodDescriptor (iv_s d.1)).map (fun d => d.parameters.length) = some d.2)) = true := by decide +kernel
end
section
/-! facts out of the checks -/
theorem iv_nbeq {a b : Nat} (h : a ≠ b) : Nat.beq a b = false := by
  cases hb : Nat.beq a b
  · rfl
  · exact absurd (Nat.eq_of_beq_eq_true hb) h
theorem iv_cls_of {ci : Nat} {q : Nat × Nat} (h : iv_cls[ci]? = some q) : iv_cl[ci]? = some (iv_s q.1, iv_Tf ci, q.2) ∧ ci < 10 := by
  have hl : ci < iv_cls.length := (List.getElem?_eq_some_iff.mp h).1
  refine ⟨?_, hl⟩
  unfold iv_cl
  rw [List.getElem?_mapIdx, h]
  rfl
theorem iv_cl_of {ci : Nat} {q : vw_C} (h : iv_cl[ci]? = some q) : ∃ r : Nat × Nat, iv_cls[ci]? = some r ∧ q = (iv_s r.1, iv_Tf ci, r.2) := by
  unfold iv_cl at h
  rw [List.getElem?_mapIdx] at h
  cases hc : iv_cls[ci]? with
  | none => rw [hc] at h; cases h
  | some r => rw [hc] at h; exact ⟨r, rfl, (Option.some.inj h).symm⟩
theorem iv_tyk_of {ty : Option FieldType} {k : Nat} (h : iv_tyk ty k = true) : ∃ t, ty = some t ∧ (k = 0 ∧ t = .int ∨ k = 1 ∧ t = .boolean ∨ k = 2 ∧ ((∃ n, t = .object n) ∨ ∃ c, t = .array c)) := by
  unfold iv_tyk at h
  split at h
  · exact ⟨_, rfl, Or.inl ⟨Nat.eq_of_beq_eq_true h, rfl⟩⟩
  · exact ⟨_, rfl, Or.inr (Or.inl ⟨Nat.eq_of_beq_eq_true h, rfl⟩)⟩
  · exact ⟨_, rfl, Or.inr (Or.inr ⟨Nat.eq_of_beq_eq_true h, Or.inl ⟨_, rfl⟩⟩)⟩
  · exact ⟨_, rfl, Or.inr (Or.inr ⟨Nat.eq_of_beq_eq_true h, Or.inr ⟨_, rfl⟩⟩)⟩
  · cases h
theorem iv_ss_inj : ∀ ci, ci < 10 → ∀ a, a < ((iv_cls.getD ci (0, 0)).2) → ∀ b, b < ((iv_cls.getD ci (0, 0)).2) → a ≠ b → iv_s (iv_Tc ci a).2.1 ≠ iv_s (iv_Tc ci b).2.1 := by decide +kernel
/-- what the tables say of a class -/
theorem iv_cg_of {ci : Nat} {q : Nat × Nat} (h : iv_cls[ci]? = some q) :
    (∀ w ∈ u_ws (iv_s q.1) (iv_Tf ci) q.2, w ∈ iv_TB) ∧ (∀ k, k < q.2 → ∃ t, parseFieldDescriptor (iv_Tf ci k).2.2.1 = some t ∧ (iv_fty ci k = 0 ∧ t = .int ∨ iv_fty ci k = 1 ∧ t = .boolean ∨ iv_fty ci k = 2 ∧ ((∃ n, t = .object n) ∨ ∃ c, t = .array c))) ∧
    (∀ a, a < q.2 → ∀ b, b < q.2 → a ≠ b → (iv_Tf ci a).2.1 ≠ (iv_Tf ci b).2.1) ∧ Jvm.Cond.instantiable (iv_s q.1) q.2 ∈ iv_TB ∧ Jvm.Cond.initialized (iv_s q.1) ∈ iv_TB := by
  have hci := (iv_cls_of h).2
  have hg := iv_cg_all ci hci
  unfold iv_cg at hg
  rw [h] at hg
  simp only [Bool.and_eq_true] at hg
  obtain ⟨h1, h2, h3⟩ := hg
  have h1' : ∀ k, k < q.2 → _ := fun k hk => List.all_eq_true.mp h1 k (List.mem_range.mpr hk)
  refine ⟨fun w hw => ?_, fun k hk => ?_, fun a ha b hb hab => ?_, iv_at_mem h2, iv_at_mem h3⟩
  · unfold u_ws at hw
    obtain ⟨k, hk, rfl⟩ := List.mem_map.mp hw
    have h4 := h1' k (List.mem_range.mp hk)
    rw [Bool.and_eq_true] at h4
    have h5 := iv_at_mem h4.1
    unfold u_lay
    by_cases hf : (iv_Tc ci k).2.2.2 = true
    · rw [hf] at h5
      rw [if_pos (show (iv_Tf ci k).2.2.2 = true from hf)]
      exact h5
    · rw [Bool.not_eq_true] at hf
      rw [hf] at h5
      rw [if_neg (show ¬ (iv_Tf ci k).2.2.2 = true from by rw [show (iv_Tf ci k).2.2.2 = false from hf]; decide)]
      exact h5
  · have h4 := h1' k hk
    rw [Bool.and_eq_true] at h4
    exact iv_tyk_of h4.2
  · have e : iv_cls.getD ci (0, 0) = q := by rw [List.getD_eq_getElem?_getD, h]; rfl
    exact iv_ss_inj ci hci a (by rw [e]; exact ha) b (by rw [e]; exact hb) hab
theorem iv_lay_ok (L x : Nat) (hx : x ≠ 1) : iv_lg1 (iv_lay L x) = true := by
  unfold iv_lay
  rw [show Nat.beq x 1 = false from iv_nbeq hx, cond_false, List.getD_eq_getElem?_getD, List.getD_eq_getElem?_getD]
  cases h1 : iv_Y[x / 16]? with
  | none => rfl
  | some r =>
    rw [Option.getD_some]
    cases h2 : r[x % 16]? with
    | none => rfl
    | some q => exact List.all_eq_true.mp (List.all_eq_true.mp iv_lgr r (List.mem_of_getElem? h1)) q (List.mem_of_getElem? h2)
theorem iv_lay_obj {L x : Nat} (h : (iv_lay L x).1 = 0) : x ≠ 1 ∧ ∃ q, iv_cls[(iv_lay L x).2.1]? = some q ∧ q.2 = (iv_lay L x).2.2 := by
  have hx : x ≠ 1 := fun e => by rw [e] at h; cases h
  refine ⟨hx, ?_⟩
  have h1 := iv_lay_ok L x hx
  unfold iv_lg1 at h1
  rw [h, show Nat.beq 0 0 = true from rfl, cond_true, decide_eq_true_eq] at h1
  cases hc : iv_cls[(iv_lay L x).2.1]? with
  | none => rw [hc] at h1; cases h1
  | some q => rw [hc] at h1; exact ⟨q, rfl, Option.some.inj h1⟩
theorem iv_lay_arr {L x : Nat} (hx : x ≠ 1) (h : (iv_lay L x).1 = 1) : (iv_lay L x).2.1 ≤ 4 ∧ (iv_lay L x).2.2 ≤ 1792 := by
  have h1 := iv_lay_ok L x hx
  unfold iv_lg1 at h1
  rw [h, show Nat.beq 1 0 = false from rfl, cond_false, show Nat.beq 1 1 = true from rfl, cond_true, Bool.and_eq_true] at h1
  exact ⟨Nat.le_of_ble_eq_true h1.1, Nat.le_of_ble_eq_true h1.2⟩
theorem iv_lay0 (L : Nat) : iv_lay L 0 = (9, 0, 0) := rfl
/-- methods -/
theorem iv_mg_of {z : Nat} (hz : z < 170) : plainFor (iv_nm z) = true ∧ ((iv_nm z).cls ≠ "java/lang/invoke/MethodHandle" ∧ (iv_nm z).cls ≠ "java/lang/invoke/VarHandle") ∧ Jvm.Cond.code (iv_nm z) (iv_cd z) (iv_ml z) (iv_rt z) ∈ iv_TB ∧ Jvm.Cond.initialized (iv_nm z).cls ∈ iv_TB ∧
    (parseMethodDescriptor (iv_nm z).desc).map (fun d => d.parameters.length) = some (iv_np z) ∧ ((iv_mw z).1 = 0 → Jvm.Cond.static (iv_nm z) ∈ iv_TB) ∧
    ((iv_mw z).1 = 1 → Jvm.Cond.instanceMethod (iv_nm z) ∈ iv_TB ∧ Jvm.Cond.selects (iv_nm z).cls (iv_nm z) (iv_nm z) ∈ iv_TB ∧ ∃ q, iv_cls[iv_own z]? = some q ∧ iv_s q.1 = (iv_nm z).cls) ∧
    ((iv_mw z).1 = 2 → Jvm.Cond.instanceMethod (iv_nm z) ∈ iv_TB ∧ (iv_nm z).name = "<init>" ∧ iv_rt z = none) := by
  have hg := iv_mg_all z hz
  unfold iv_mg at hg
  simp only [Bool.and_eq_true] at hg
  obtain ⟨h1, h2, h3, h4, h5⟩ := hg
  have hc1 : (iv_nc z).1 ∈ iv_plain := by simpa using h1
  have hc2 : ((iv_nc z).2.2, iv_np z) ∈ iv_descs := by simpa using h2
  have hp := List.all_eq_true.mp iv_plainr _ hc1
  simp only [Bool.and_eq_true, Bool.or_eq_true, decide_eq_true_eq] at hp
  have hd := List.all_eq_true.mp iv_descr _ hc2
  rw [decide_eq_true_eq] at hd
  refine ⟨?_, hp.2, ?_, iv_at_mem h4, hd, fun h0 => ?_, fun h0 => ?_, fun h0 => ?_⟩
  · rcases hp.1 with h | h
    · exact plainFor_of_name h
    · have hm := List.all_eq_true.mp iv_math z (List.mem_range.mpr hz)
      simp only [Bool.or_eq_true, decide_eq_true_eq] at hm
      rcases hm with h' | h' | h'
      · exact absurd h h'
      · rw [h']; exact iv_pf_168
      · rw [h']; exact iv_pf_169
  · have := iv_at_mem h3
    unfold iv_wd at this
    have hb : Nat.beq z 1000 = false := iv_nbeq (by omega)
    simp only [hb, cond_false] at this
    exact this
  · rw [h0] at h5
    exact iv_at_mem h5
  · rw [h0] at h5
    simp only [Bool.and_eq_true, decide_eq_true_eq] at h5
    obtain ⟨g1, g2, g3⟩ := h5
    refine ⟨?_, iv_at_mem g2, ?_⟩
    · have := iv_at_mem g1
      unfold iv_wd at this
      have hb : Nat.beq z 1000 = false := iv_nbeq (by omega)
      simp only [hb, cond_false] at this
      exact this
    · cases hq : iv_cls[iv_own z]? with
      | none => rw [hq] at g3; cases g3
      | some q => rw [hq] at g3; exact ⟨q, rfl, by rw [show q.1 = (iv_nc z).1 from Option.some.inj g3]; rfl⟩
  · rw [h0] at h5
    simp only [Bool.and_eq_true, decide_eq_true_eq] at h5
    obtain ⟨g1, g2, g3⟩ := h5
    refine ⟨?_, ?_, g3⟩
    · have := iv_at_mem g1
      unfold iv_wd at this
      have hb : Nat.beq z 1000 = false := iv_nbeq (by omega)
      simp only [hb, cond_false] at this
      exact this
    · show iv_s (iv_nc z).2.1 = _
      rw [g2]
      rfl
theorem iv_TB_good {w : Jvm.Cond} (h : w ∈ iv_TB) : (w.onTables && w.keeps) = true ∨ ∃ ty, w = .arrayClass ty := good_of_word (List.mem_filter.mp h).2
theorem iv_TB_ws (mi : Nat) : ∀ w ∈ iv_TB, w ∈ iv_ws mi := fun _ h => List.mem_cons_of_mem _ h
theorem iv_good_ws {mi : Nat} {ws : List Jvm.Cond} (h : ∀ w ∈ ws, w ∈ iv_TB) : GoodIn (iv_ws mi) ws := fun w hw => ⟨iv_TB_ws mi w (h w hw), iv_TB_good (h w hw)⟩
end
section
/-- an instruction that is no call and no end: the next place, locals, stack, heap -/
def iv_step (L pc : Nat) (e : ivE) (ls st : List ivV) (w : ivS) : Option (Nat × List ivV × List ivV × ivS) :=
  match e.2.1 with
  | .iconst x => some (pc + 1, ls, ivI x :: st, w)
  | .bipush x => some (pc + 2, ls, ivI x :: st, w)
  | .sipush x => some (pc + 3, ls, ivI x :: st, w)
  | .lconst x => some (pc + 1, ls, ivJ (Int.ofNat x.val) :: st, w)
  | .ldc _ => some (pc + 2, ls, ivI e.2.2.2.2.2.1 :: st, w)
  | .ldc_w _ => some (pc + 3, ls, ivI e.2.2.2.2.2.1 :: st, w)
  | .ldc2_w _ => some (pc + 3, ls, ivJ e.2.2.2.2.2.1 :: st, w)
  | .iload_n k => match ls.getD k.val ivU with
    | .inl x => some (pc + 1, ls, ivI x :: st, w)
    | _ => none
  | .iload k => match ls.getD k ivU with
    | .inl x => some (pc + 2, ls, ivI x :: st, w)
    | _ => none
  | .lload_n k => match ls.getD k.val ivU with
    | .inr (.inl x) => some (pc + 1, ls, ivJ x :: st, w)
    | _ => none
  | .lload k => match ls.getD k ivU with
    | .inr (.inl x) => some (pc + 2, ls, ivJ x :: st, w)
    | _ => none
  | .aload_n k => match ls.getD k.val ivU with
    | .inr (.inr (.inl x)) => some (pc + 1, ls, ivR x :: st, w)
    | _ => none
  | .aload k => match ls.getD k ivU with
    | .inr (.inr (.inl x)) => some (pc + 2, ls, ivR x :: st, w)
    | _ => none
  | .istore_n k => match st with
    | .inl x :: st => bif Nat.blt k.val ls.length then some (pc + 1, (iv_unl ls k.val).set k.val (ivI x), st, w) else none
    | _ => none
  | .istore k => match st with
    | .inl x :: st => bif Nat.blt k ls.length then some (pc + 2, (iv_unl ls k).set k (ivI x), st, w) else none
    | _ => none
  | .astore_n k => match st with
    | .inr (.inr (.inl x)) :: st => bif Nat.blt k.val ls.length then some (pc + 1, (iv_unl ls k.val).set k.val (ivR x), st, w) else none
    | _ => none
  | .astore k => match st with
    | .inr (.inr (.inl x)) :: st => bif Nat.blt k ls.length then some (pc + 2, (iv_unl ls k).set k (ivR x), st, w) else none
    | _ => none
  | .iinc k d => match ls.getD k ivU with
    | .inl x => bif Nat.blt k ls.length then some (pc + 3, (iv_unl ls k).set k (ivI (iv_wr (x + d))), st, w) else none
    | _ => none
  | .iadd => match st with
    | .inl y :: .inl x :: st => some (pc + 1, ls, ivI (iv_wr (x + y)) :: st, w)
    | _ => none
  | .isub => match st with
    | .inl y :: .inl x :: st => some (pc + 1, ls, ivI (iv_wr (x - y)) :: st, w)
    | _ => none
  | .imul => match st with
    | .inl y :: .inl x :: st => some (pc + 1, ls, ivI (iv_wr (x * y)) :: st, w)
    | _ => none
  | .ineg => match st with
    | .inl x :: st => some (pc + 1, ls, ivI (iv_wr (-x)) :: st, w)
    | _ => none
  | .idiv => match st with
    | .inl y :: .inl x :: st => bif decide (y = 0) then none else some (pc + 1, ls, ivI (iv_div x y) :: st, w)
    | _ => none
  | .irem => match st with
    | .inl y :: .inl x :: st => bif decide (y = 0) then none else some (pc + 1, ls, ivI (iv_rem x y) :: st, w)
    | _ => none
  | .iand => match st with
    | .inl y :: .inl x :: st => some (pc + 1, ls, ivI (iv_and x y) :: st, w)
    | _ => none
  | .ior => match st with
    | .inl y :: .inl x :: st => some (pc + 1, ls, ivI (iv_or x y) :: st, w)
    | _ => none
  | .ixor => match st with
    | .inl y :: .inl x :: st => some (pc + 1, ls, ivI (iv_xor x y) :: st, w)
    | _ => none
  | .ishl => match st with
    | .inl y :: .inl x :: st => some (pc + 1, ls, ivI (iv_shl x y) :: st, w)
    | _ => none
  | .ishr => match st with
    | .inl y :: .inl x :: st => some (pc + 1, ls, ivI (iv_shr x y) :: st, w)
    | _ => none
  | .iushr => match st with
    | .inl y :: .inl x :: st => some (pc + 1, ls, ivI (iv_ushr x y) :: st, w)
    | _ => none
  | .i2l => match st with
    | .inl x :: st => some (pc + 1, ls, ivJ x :: st, w)
    | _ => none
  | .l2i => match st with
    | .inr (.inl x) :: st => some (pc + 1, ls, ivI (iv_wr x) :: st, w)
    | _ => none
  | .land => match st with
    | .inr (.inl y) :: .inr (.inl x) :: st => some (pc + 1, ls, ivJ (iv_land x y) :: st, w)
    | _ => none
  | .lor => match st with
    | .inr (.inl y) :: .inr (.inl x) :: st => some (pc + 1, ls, ivJ (iv_lor x y) :: st, w)
    | _ => none
  | .lshl => match st with
    | .inl y :: .inr (.inl x) :: st => some (pc + 1, ls, ivJ (iv_lshl x y) :: st, w)
    | _ => none
  | .lshr => match st with
    | .inl y :: .inr (.inl x) :: st => some (pc + 1, ls, ivJ (iv_lshr x y) :: st, w)
    | _ => none
  | .lushr => match st with
    | .inl y :: .inr (.inl x) :: st => some (pc + 1, ls, ivJ (iv_lushr x y) :: st, w)
    | _ => none
  | .lcmp => match st with
    | .inr (.inl y) :: .inr (.inl x) :: st => some (pc + 1, ls, ivI (iv_lcmp x y) :: st, w)
    | _ => none
  | .dup => match st with
    | v :: st => bif iv_c1 v then some (pc + 1, ls, v :: v :: st, w) else none
    | _ => none
  | .dup2 => match st with
    | v :: u :: st => bif iv_c1 v && iv_c1 u then some (pc + 1, ls, v :: u :: v :: u :: st, w) else none
    | _ => none
  | .pop => match st with
    | v :: st => bif iv_c1 v then some (pc + 1, ls, st, w) else none
    | _ => none
  | .aconst_null => some (pc + 1, ls, ivR 0 :: st, w)
  | .goto o => some (((pc : Int) + o).toNat, ls, st, w)
  | .if_icmp c o => match st with
    | .inl y :: .inl x :: st => some (bif iv_cmp c x y then ((pc : Int) + o).toNat else pc + 3, ls, st, w)
    | _ => none
  | .ifCond c o => match st with
    | .inl x :: st => some (bif iv_cmp c x 0 then ((pc : Int) + o).toNat else pc + 3, ls, st, w)
    | _ => none
  | .ifnull o => match st with
    | .inr (.inr (.inl x)) :: st => some (bif Nat.beq x 0 then ((pc : Int) + o).toNat else pc + 3, ls, st, w)
    | _ => none
  | .ifnonnull o => match st with
    | .inr (.inr (.inl x)) :: st => some (bif Nat.beq x 0 then pc + 3 else ((pc : Int) + o).toNat, ls, st, w)
    | _ => none
  | .tableswitch d lo hi os => match st with
    | .inl x :: st => some (bif decide (x < lo) || decide (hi < x) then ((pc : Int) + d).toNat else ((pc : Int) + os.toList.getD (x - lo).toNat 0).toNat, ls, st, w)
    | _ => none
  | .lookupswitch d ps => match st with
    | .inl x :: st => some (((pc : Int) + Op.lookupswitch.offset ps.toList d x).toNat, ls, st, w)
    | _ => none
  | .getfield _ => match st with
    | .inr (.inr (.inl x)) :: st => bif Nat.beq (iv_lay L x).1 0 && Nat.beq (iv_lay L x).2.1 e.2.2.2.1 && Nat.ble x w.1 then some (pc + 3, ls, (bif Nat.ble 2 (iv_fty e.2.2.2.1 e.2.2.2.2.1) then ivR (w.2.2 x e.2.2.2.2.1) else ivI (w.2.1 x e.2.2.2.2.1)) :: st, w) else none
    | _ => none
  | .putfield _ => match st with
    | .inl v :: .inr (.inr (.inl x)) :: st => bif Nat.beq (iv_lay L x).1 0 && Nat.beq (iv_lay L x).2.1 e.2.2.2.1 && Nat.ble x w.1 && (Nat.beq (iv_fty e.2.2.2.1 e.2.2.2.2.1) 0 || Nat.beq (iv_fty e.2.2.2.1 e.2.2.2.2.1) 1 && (decide (v = 0) || decide (v = 1))) then some (pc + 3, ls, st, w.1, iv_upd w.2.1 x e.2.2.2.2.1 v, w.2.2) else none
    | .inr (.inr (.inl y)) :: .inr (.inr (.inl x)) :: st => bif Nat.beq (iv_lay L x).1 0 && Nat.beq (iv_lay L x).2.1 e.2.2.2.1 && Nat.ble x w.1 && Nat.ble 2 (iv_fty e.2.2.2.1 e.2.2.2.2.1) then some (pc + 3, ls, st, w.1, w.2.1, iv_updR w.2.2 x e.2.2.2.2.1 y) else none
    | _ => none
  | .iaload => match st with
    | .inl i :: .inr (.inr (.inl x)) :: st => bif Nat.beq (iv_lay L x).1 1 && Nat.beq (iv_lay L x).2.1 0 && Nat.ble x w.1 && (decide (0 ≤ i) && decide (i < (iv_lay L x).2.2)) then some (pc + 1, ls, ivI (w.2.1 x i.toNat) :: st, w) else none
    | _ => none
  | .baload => match st with
    | .inl i :: .inr (.inr (.inl x)) :: st => bif Nat.beq (iv_lay L x).1 1 && Nat.beq (iv_lay L x).2.1 1 && Nat.ble x w.1 && (decide (0 ≤ i) && decide (i < (iv_lay L x).2.2)) then some (pc + 1, ls, ivI (w.2.1 x i.toNat) :: st, w) else none
    | _ => none
  | .aaload => match st with
    | .inl i :: .inr (.inr (.inl x)) :: st => bif Nat.beq (iv_lay L x).1 1 && Nat.ble 2 (iv_lay L x).2.1 && Nat.ble x w.1 && (decide (0 ≤ i) && decide (i < (iv_lay L x).2.2)) then some (pc + 1, ls, ivR (w.2.2 x i.toNat) :: st, w) else none
    | _ => none
  | .iastore => match st with
    | .inl v :: .inl i :: .inr (.inr (.inl x)) :: st => bif Nat.ble 2 x && Nat.beq (iv_lay L x).1 1 && Nat.beq (iv_lay L x).2.1 0 && Nat.ble x w.1 && (decide (0 ≤ i) && decide (i < (iv_lay L x).2.2)) then some (pc + 1, ls, st, w.1, iv_upd w.2.1 x i.toNat v, w.2.2) else none
    | _ => none
  | .bastore => match st with
    | .inl v :: .inl i :: .inr (.inr (.inl x)) :: st => bif Nat.ble 2 x && Nat.beq (iv_lay L x).1 1 && Nat.beq (iv_lay L x).2.1 1 && Nat.ble x w.1 && (decide (0 ≤ i) && decide (i < (iv_lay L x).2.2)) then some (pc + 1, ls, st, w.1, iv_upd w.2.1 x i.toNat (v % 2), w.2.2) else none
    | _ => none
  | .aastore => match st with
    | .inr (.inr (.inl y)) :: .inl i :: .inr (.inr (.inl x)) :: st => bif Nat.ble 2 x && Nat.beq (iv_lay L x).1 1 && (Nat.beq (iv_lay L x).2.1 2 || Nat.beq (iv_lay L x).2.1 3) && Nat.ble x w.1 && (decide (0 ≤ i) && decide (i < (iv_lay L x).2.2)) && (Nat.beq (iv_lay L y).1 0 && Nat.beq (iv_lay L y).2.1 (iv_lay L x).2.1 && Nat.ble y w.1) then some (pc + 1, ls, st, w.1, w.2.1, iv_updR w.2.2 x i.toNat y) else none
    | _ => none
  | .arraylength => match st with
    | .inr (.inr (.inl x)) :: st => bif Nat.beq (iv_lay L x).1 1 && Nat.beq (iv_lay L x).2.1 0 && Nat.ble x w.1 then some (pc + 1, ls, ivI (Int.ofNat (iv_lay L x).2.2) :: st, w) else none
    | _ => none
  | .new _ => bif Nat.beq (iv_lay L (w.1 + 1)).1 0 && Nat.beq (iv_lay L (w.1 + 1)).2.1 e.2.2.2.1 then some (pc + 3, ls, ivR (w.1 + 1) :: st, w.1 + 1, iv_zer w.2.1 (w.1 + 1) (w.1 + 1), iv_zerR w.2.2 (w.1 + 1) (w.1 + 1)) else none
  | .newarray _ => match st with
    | .inl x :: st => bif Nat.beq (iv_lay L (w.1 + 1)).1 1 && Nat.beq (iv_lay L (w.1 + 1)).2.1 e.2.2.2.1 && decide (x = (iv_lay L (w.1 + 1)).2.2) then some (pc + 2, ls, ivR (w.1 + 1) :: st, w.1 + 1, iv_zer w.2.1 (w.1 + 1) (w.1 + 1), iv_zerR w.2.2 (w.1 + 1) (w.1 + 1)) else none
    | _ => none
  | .anewarray _ => match st with
    | .inl x :: st => bif Nat.beq (iv_lay L (w.1 + 1)).1 1 && Nat.beq (iv_lay L (w.1 + 1)).2.1 e.2.2.2.1 && decide (x = (iv_lay L (w.1 + 1)).2.2) then some (pc + 3, ls, ivR (w.1 + 1) :: st, w.1 + 1, iv_zer w.2.1 (w.1 + 1) (w.1 + 1), iv_zerR w.2.2 (w.1 + 1) (w.1 + 1)) else none
    | _ => none
  | .multianewarray _ _ => match st with
    | .inl y :: .inl x :: st => bif decide (x = 6) && decide (y = 6) && iv_six L w.1 then some (pc + 4, ls, ivR (w.1 + 1) :: st, w.1 + 7, iv_zer w.2.1 (w.1 + 1) (w.1 + 7), iv_row (iv_zerR w.2.2 (w.1 + 1) (w.1 + 7)) (w.1 + 1) 6) else none
    | _ => none
  | _ => none
def iv_wide (st : List ivV) : Nat := match st with
  | [] => 0
  | v :: st => (bif iv_lg v then 2 else 1) + iv_wide st
def iv_ent (n : Nat) (as : List ivV) : List ivV := let f := as.flatMap (fun v => bif iv_lg v then [v, ivU] else [v]); f ++ List.replicate (n - f.length) ivU
/-- the first of a call's values is an object of the class number ci -/
def iv_obj (L n ci : Nat) (as : List ivV) : Bool := match as with
  | .inr (.inr (.inl x)) :: _ => Nat.beq (iv_lay L x).1 0 && Nat.beq (iv_lay L x).2.1 ci && Nat.ble x n
  | _ => false
def iv_run (L : Nat) : Nat → Nat → Nat → List ivV → List ivV → ivS → Option (Option ivV × ivS)
  | 0, _, _, _, _, _ => none
  | f + 1, mi, pc, ls, st, w =>
    match iv_ins mi pc with
    | none => none
    | some e =>
      match iv_step L pc e ls st w with
      | some g => iv_run L f mi g.1 g.2.1 g.2.2.1 g.2.2.2
      | none =>
        match e.2.1 with
        | .ireturn => match st with
          | [.inl x] => bif iv_zb mi then (bif decide (x = 0) || decide (x = 1) then some (some (ivI x), w) else none) else some (some (ivI x), w)
          | _ => none
        | .areturn => match st with
          | [.inr (.inr (.inl x))] => some (some (ivR x), w)
          | _ => none
        | .return_ => match st with
          | [] => some (none, w)
          | _ => none
        | .invokevirtual _ =>
          bif Nat.ble e.2.2.2.2.1 st.length && Nat.ble (iv_wide (st.drop e.2.2.2.2.1)) 8 && Nat.ble (iv_wide (st.take e.2.2.2.2.1)) (iv_ml e.2.2.2.1) && iv_obj L w.1 (iv_own e.2.2.2.1) (st.take e.2.2.2.2.1).reverse then
            match iv_run L f e.2.2.2.1 0 (iv_ent (iv_ml e.2.2.2.1) (st.take e.2.2.2.2.1).reverse) [] w with
            | some r => iv_run L f mi (pc + 3) ls (r.1.toList ++ st.drop e.2.2.2.2.1) r.2
            | none => none
          else none
        | .invokestatic _ =>
          bif Nat.ble e.2.2.2.2.1 st.length && Nat.ble (iv_wide (st.drop e.2.2.2.2.1)) 8 && Nat.ble (iv_wide (st.take e.2.2.2.2.1)) (iv_ml e.2.2.2.1) then
            match iv_run L f e.2.2.2.1 0 (iv_ent (iv_ml e.2.2.2.1) (st.take e.2.2.2.2.1).reverse) [] w with
            | some r => iv_run L f mi (pc + 3) ls (r.1.toList ++ st.drop e.2.2.2.2.1) r.2
            | none => none
          else none
        | .invokespecial _ =>
          bif Nat.ble 1000 e.2.2.2.1 then
            match st with
            | .inr (.inr (.inl x)) :: st => bif Nat.ble 2 x && Nat.ble (iv_wide st) 8 then iv_run L f mi (pc + 3) ls st w else none
            | _ => none
          else bif Nat.ble e.2.2.2.2.1 st.length && Nat.ble (iv_wide (st.drop e.2.2.2.2.1)) 8 && Nat.ble (iv_wide (st.take e.2.2.2.2.1)) (iv_ml e.2.2.2.1) && iv_obj L w.1 (iv_own e.2.2.2.1) (st.take e.2.2.2.2.1).reverse then
            match iv_run L f e.2.2.2.1 0 (iv_ent (iv_ml e.2.2.2.1) (st.take e.2.2.2.2.1).reverse) [] w with
            | some r => iv_run L f mi (pc + 3) ls (r.1.toList ++ st.drop e.2.2.2.2.1) r.2
            | none => none
          else none
        | _ => none
/-- from here the method ends, with this answer and this heap -/
def iv_Ret (L mi pc : Nat) (ls st : List ivV) (w : ivS) (r : Option ivV) (w' : ivS) : Prop := ∃ f, iv_run L f mi pc ls st w = some (r, w')
end
section
/-! ONE STEP, over the machine: locals -/
theorem iv_getD {ls : List ivV} {k : Nat} {v : ivV} (h : ls.getD k ivU = v) (hv : v ≠ ivU) : ls[k]? = some v := by
  rw [List.getD_eq_getElem?_getD] at h
  cases hc : ls[k]? with
  | none => rw [hc] at h; exact absurd h.symm hv
  | some u => rw [hc] at h; exact congrArg some h
def iv_ll (b B0 : Nat) (ls : List ivV) : List (Nat × Value) := (List.range ls.length).filterMap (fun i => match ls[i]? with
  | some v => if v = ivU then none else some (i, iv_cv b B0 v)
  | none => none)
theorem iv_ll_mem {b B0 : Nat} {ls : List ivV} {i : Nat} {v : ivV} (h : ls[i]? = some v) (hv : v ≠ ivU) : (i, iv_cv b B0 v) ∈ iv_ll b B0 ls := by
  refine List.mem_filterMap.mpr ⟨i, List.mem_range.mpr (List.getElem?_eq_some_iff.mp h).1, ?_⟩
  rw [h]
  exact if_neg hv
theorem iv_ll_of {b B0 : Nat} {ls : List ivV} {q : Nat × Value} (h : q ∈ iv_ll b B0 ls) : ∃ v, ls[q.1]? = some v ∧ v ≠ ivU ∧ q.2 = iv_cv b B0 v := by
  obtain ⟨i, -, h1⟩ := List.mem_filterMap.mp h
  split at h1
  · rename_i v hv
    split at h1
    · cases h1
    · rename_i hne
      cases h1
      exact ⟨v, hv, hne, rfl⟩
  · cases h1
theorem iv_lr.has {b B0 : Nat} {la : Array Slot} {nL : Nat} {ls : List ivV} (h : iv_lr b B0 la nL ls) : lv_has la nL (iv_ll b B0 ls) := by
  refine ⟨h.2.1, h.2.2.1, fun q hq => ?_⟩
  obtain ⟨v, h1, h2, h3⟩ := iv_ll_of hq
  rw [h3]
  exact h.2.2.2 q.1 v h1 h2
theorem iv_unl_len (ls : List ivV) (k : Nat) : (iv_unl ls k).length = ls.length := by
  unfold iv_unl
  split
  · rfl
  · rw [List.length_set]
theorem iv_un_or (v : ivV) : iv_lg v = true ∧ iv_un v = ivU ∨ iv_lg v = false ∧ iv_un v = v := by
  rcases v with x | x | x | x <;> simp [iv_un, iv_lg]
/-- what stands in the locals behind a store's first part -/
theorem iv_unl_at {ls : List ivV} {k i : Nat} {u : ivV} (h : (iv_unl ls k)[i]? = some u) (hu : u ≠ ivU) : ls[i]? = some u ∧ ¬ (i + 1 = k ∧ iv_lg u = true) := by
  unfold iv_unl at h
  split at h
  · exact ⟨h, fun q => by omega⟩
  · rename_i j
    by_cases e : i = j
    · subst e
      by_cases hl : i < ls.length
      · rw [List.getElem?_set_self hl] at h
        rw [List.getD_eq_getElem?_getD, List.getElem?_eq_getElem hl, Option.getD_some] at h
        rw [List.getElem?_eq_getElem hl]
        rcases iv_un_or ls[i] with ⟨h1, h2⟩ | ⟨h1, h2⟩
        · rw [h2] at h
          exact absurd (Option.some.inj h).symm hu
        · rw [h2] at h
          refine ⟨h, fun q => ?_⟩
          rw [← Option.some.inj h, h1] at q
          cases q.2
      · rw [List.getElem?_eq_none (by rw [List.length_set]; omega)] at h
        cases h
    · rw [List.getElem?_set_ne (fun q => e q.symm)] at h
      exact ⟨h, fun q => e (by omega)⟩
theorem iv_lr.set {b B0 : Nat} {la la' : Array Slot} {nL k : Nat} {ls : List ivV} {v : ivV} (h : iv_lr b B0 la nL ls) (hk : k < ls.length)
    (h' : lv_has la' nL ((k, iv_cv b B0 v) :: (iv_ll b B0 ls).filter (fun q => !(q.1 == k) && !(q.1 + 1 == k && q.2.category == 2)))) : iv_lr b B0 la' nL ((iv_unl ls k).set k v) := by
  refine ⟨by rw [List.length_set, iv_unl_len]; exact h.1, h'.1, h'.2.1, fun i u hi hu => ?_⟩
  by_cases e : i = k
  · subst e
    rw [List.getElem?_set_self (by rw [iv_unl_len]; exact hk)] at hi
    cases hi
    exact h'.2.2 (i, iv_cv b B0 v) List.mem_cons_self
  · rw [List.getElem?_set_ne (fun q => e q.symm)] at hi
    obtain ⟨hi1, hi2⟩ := iv_unl_at hi hu
    refine h'.2.2 (i, iv_cv b B0 u) (List.mem_cons_of_mem _ (List.mem_filter.mpr ⟨iv_ll_mem hi1 hu, ?_⟩))
    simp only [Bool.and_eq_true, Bool.not_eq_true', beq_eq_false_iff_ne, ne_eq, Bool.and_eq_false_iff]
    refine ⟨e, ?_⟩
    by_cases e2 : i + 1 = k
    · right
      show ¬ (iv_cv b B0 u).category = 2
      rw [iv_cat]
      cases hl : iv_lg u
      · decide
      · exact absurd ⟨e2, hl⟩ hi2
    · exact Or.inl e2
def iv_sl (L : Nat) : Nat → Nat
  | 0 => 0
  | n + 1 => iv_sl L n + (iv_lay L (n + 1)).2.2
theorem iv_sl_mono (L : Nat) {a b : Nat} (h : a ≤ b) : iv_sl L a ≤ iv_sl L b := by
  induction b with
  | zero => rw [Nat.le_zero.mp h]; exact Nat.le_refl _
  | succ n ih =>
    by_cases e : a = n + 1
    · rw [e]; exact Nat.le_refl _
    · exact Nat.le_trans (ih (by omega)) (Nat.le_add_right _ _)
/-- the machine and the abstract state -/
def iv_Rel (D : va_G) (dA : Nat → ClassId) (L b B0 n0 nL : Nat) (s : State) (H : Heap) (w : ivS) (la : Array Slot) (ls st : List ivV) (locs : List Loc) (cells slots : Nat) : Prop :=
  iv_HR D dA L b B0 s H w ∧ iv_lr b B0 la nL ls ∧ (∀ v ∈ ls, iv_ok w.1 v) ∧ (∀ v ∈ st, iv_ok w.1 v) ∧ va_S (fun q => B0 ≤ q) s.heap H locs ∧ (cells + n0 = w.1 ∧ slots + iv_sl L n0 = iv_sl L w.1) ∧ B0 ≤ s.heap.size
/-- what a method's walk stands on -/
def iv_cx (p : Program) (R : Room) (s : State) (m : MethodId) (args : Array Value) (meth : Method) (c : Code) (mi : Nat) : Prop :=
  p.tables.exec = Jvm.exec ∧ c.code = iv_cd mi ∧ meth.sig.returnType = iv_rt mi ∧ c.maxLocals = iv_ml mi ∧ s.vm.findClass (iv_nm mi).cls = some m.cls ∧ (∀ w ∈ iv_TB, w.before args s = true) ∧ iv_T s ∧ meth.locks = false ∧ ((iv_nm mi).name = "<init>" → meth.name = "<init>") ∧ (iv_rm mi).1 ≤ R.frames ∧ (iv_rm mi).2 ≤ R.locals
section IVS
variable {D : va_G} {dA : Nat → ClassId} {L b B0 n0 nL : Nat} {s : State} {H : Heap} {w : ivS} {la : Array Slot} {ls st : List ivV} {locs : List Loc} {cells slots : Nat}
theorem iv_Rel.stk {st' : List ivV} (h : iv_Rel D dA L b B0 n0 nL s H w la ls st locs cells slots) (h2 : ∀ v ∈ st', iv_ok w.1 v) : iv_Rel D dA L b B0 n0 nL s H w la ls st' locs cells slots := ⟨h.1, h.2.1, h.2.2.1, h2, h.2.2.2.2⟩
theorem iv_Rel.tl {v : ivV} (h : iv_Rel D dA L b B0 n0 nL s H w la ls (v :: st) locs cells slots) : iv_Rel D dA L b B0 n0 nL s H w la ls st locs cells slots := h.stk fun u hu => h.2.2.2.1 u (List.mem_cons_of_mem _ hu)
theorem iv_Rel.cons {v : ivV} (h : iv_Rel D dA L b B0 n0 nL s H w la ls st locs cells slots) (hv : iv_ok w.1 v) : iv_Rel D dA L b B0 n0 nL s H w la ls (v :: st) locs cells slots := h.stk fun u hu => by
  rcases List.mem_cons.mp hu with rfl | hu
  · exact hv
  · exact h.2.2.2.1 u hu
theorem iv_Rel.hd {v : ivV} (h : iv_Rel D dA L b B0 n0 nL s H w la ls (v :: st) locs cells slots) : iv_ok w.1 v := h.2.2.2.1 v List.mem_cons_self
theorem iv_Rel.hd2 {u v : ivV} (h : iv_Rel D dA L b B0 n0 nL s H w la ls (u :: v :: st) locs cells slots) : iv_ok w.1 v := h.tl.hd
theorem iv_Rel.loc {v : ivV} {k : Nat} (h : iv_Rel D dA L b B0 n0 nL s H w la ls st locs cells slots) (hk : ls[k]? = some v) (hv : v ≠ ivU) : la[k]? = some (.val (iv_cv b B0 v)) ∧ iv_ok w.1 v := ⟨h.2.1.2.2.2 k v hk hv, h.2.2.1 v (List.mem_of_getElem? hk)⟩
theorem iv_unl_ok {n : Nat} {k : Nat} (h : ∀ v ∈ ls, iv_ok n v) : ∀ v ∈ iv_unl ls k, iv_ok n v := by
  intro v hv
  obtain ⟨i, hi⟩ := List.getElem?_of_mem hv
  by_cases e : v = ivU
  · rw [e]; trivial
  · exact h v (List.mem_of_getElem? (iv_unl_at hi e).1)
theorem iv_Rel.setl {la' : Array Slot} {k : Nat} {v : ivV} (h : iv_Rel D dA L b B0 n0 nL s H w la ls st locs cells slots) (hk : k < ls.length) (hv : iv_ok w.1 v)
    (h' : lv_has la' nL ((k, iv_cv b B0 v) :: (iv_ll b B0 ls).filter (fun q => !(q.1 == k) && !(q.1 + 1 == k && q.2.category == 2)))) : iv_Rel D dA L b B0 n0 nL s H w la' ((iv_unl ls k).set k v) st locs cells slots :=
  ⟨h.1, h.2.1.set hk h', fun u hu => by
    rcases List.mem_or_eq_of_mem_set hu with hu | rfl
    · exact iv_unl_ok h.2.2.1 u hu
    · exact hv, h.2.2.2⟩
end IVS
end
section
/-! ONE STEP, over the machine: instructions that leave the heap -/
section IVS
variable {p : Program} {l : Launch} {e : Env} {R : Room} {s : State} {m : MethodId} {args : Array Value} {below : List Frame} {meth : Method} {c : Code} {Q : State → Prop}
variable {D : va_G} {dA : Nat → ClassId} {L b B0 n0 mi : Nat} {H : Heap} {w : ivS} {la : Array Slot} {ls st : List ivV} {locs : List Loc} {cells slots : Nat}
/-- the goal at a place of the walk -/
def iv_G (p : Program) (l : Launch) (e : Env) (R : Room) (s : State) (m : MethodId) (args : Array Value) (below : List Frame) (meth : Method) (c : Code) (Q : State → Prop) (b B0 : Nat) (H : Heap) (locs : List Loc) (cells slots pc : Nat) (la : Array Slot) (st : List ivV) : Prop :=
  W p l e R s m args below meth c H locs cells slots Q (F0 m pc la (st.map (iv_cv b B0)))
/-- what goes on behind a step -/
def iv_KK (p : Program) (l : Launch) (e : Env) (R : Room) (s : State) (m : MethodId) (args : Array Value) (below : List Frame) (meth : Method) (c : Code) (Q : State → Prop) (D : va_G) (dA : Nat → ClassId) (L b B0 n0 mi : Nat) (g : Nat × List ivV × List ivV × ivS) : Prop :=
  ∀ (la' : Array Slot) (H' : Heap) (locs' : List Loc) (cells' slots' : Nat), iv_Rel D dA L b B0 n0 (iv_ml mi) s H' g.2.2.2 la' g.2.1 g.2.2.1 locs' cells' slots' → iv_G p l e R s m args below meth c Q b B0 H' locs' cells' slots' g.1 la' g.2.2.1
theorem iv_bin {x y z : Int} {pc : Nat} (hR : iv_Rel D dA L b B0 n0 (iv_ml mi) s H w la ls (ivI y :: ivI x :: st) locs cells slots) {v : Int32} (hv : v = Int32.ofInt z) (hz : iv_in z) (kk : iv_KK p l e R s m args below meth c Q D dA L b B0 n0 mi (pc, ls, ivI z :: st, w)) :
    W p l e R s m args below meth c H locs cells slots Q (F0 m pc la (.int v :: st.map (iv_cv b B0))) := by
  subst hv
  exact kk la H locs cells slots (hR.tl.tl.cons hz)
theorem iv_push {v : ivV} {pc : Nat} (hR : iv_Rel D dA L b B0 n0 (iv_ml mi) s H w la ls st locs cells slots) {u : Value} (hu : u = iv_cv b B0 v) (hv : iv_ok w.1 v) (kk : iv_KK p l e R s m args below meth c Q D dA L b B0 n0 mi (pc, ls, v :: st, w)) :
    W p l e R s m args below meth c H locs cells slots Q (F0 m pc la (u :: st.map (iv_cv b B0))) := by
  subst hu
  exact kk la H locs cells slots (hR.cons hv)
theorem iv_ne1 {x : Int} : ivI x ≠ ivU := fun h => by cases h
theorem iv_ne2 {x : Int} : ivJ x ≠ ivU := fun h => by cases h
theorem iv_ne3 {x : Nat} : ivR x ≠ ivU := fun h => by cases h
theorem iv_tgt {pc : Nat} {o : Int} (h : iv_tg pc o = true) : (pc : Int) + o = (((pc : Int) + o).toNat : Int) := by
  have := of_decide_eq_true h
  omega
theorem iv_inb_of {x : Int} (h : iv_inb x = true) : iv_in x := by
  unfold iv_inb at h
  rw [Bool.and_eq_true, decide_eq_true_eq, decide_eq_true_eq] at h
  exact h
theorem iv_ilb_of {x : Int} (h : iv_ilb x = true) : iv_il x := by
  unfold iv_ilb at h
  rw [Bool.and_eq_true, decide_eq_true_eq, decide_eq_true_eq] at h
  exact h
/-- jumps that compare -/
theorem iv_jmp {pc tgt : Nat} {P : Prop} {bb : Bool} (hR : iv_Rel D dA L b B0 n0 (iv_ml mi) s H w la ls st locs cells slots) (hP : bb = true ↔ P) (kk : iv_KK p l e R s m args below meth c Q D dA L b B0 n0 mi (bif bb then tgt else pc, ls, st, w)) :
    (P → W p l e R s m args below meth c H locs cells slots Q (F0 m tgt la (st.map (iv_cv b B0)))) ∧ (¬ P → W p l e R s m args below meth c H locs cells slots Q (F0 m pc la (st.map (iv_cv b B0)))) := by
  refine ⟨fun h => ?_, fun h => ?_⟩
  · rw [hP.mpr h] at kk
    exact kk la H locs cells slots hR
  · rw [show bb = false from by cases hb : bb; rfl; exact absurd (hP.mp hb) h] at kk
    exact kk la H locs cells slots hR
theorem iv_s_icmp {pc : Nat} {cn : Jvm.ClassFile.Cond} {o x y : Int} (hx : p.tables.exec = Jvm.exec) (hb : c.code = iv_cd mi) (hd : decode (iv_cd mi) pc = .ok (.if_icmp cn o, 3)) (ht : iv_tg pc o = true)
    (hR : iv_Rel D dA L b B0 n0 (iv_ml mi) s H w la ls (ivI y :: ivI x :: st) locs cells slots) (kk : iv_KK p l e R s m args below meth c Q D dA L b B0 n0 mi (bif iv_cmp cn x y then ((pc : Int) + o).toNat else pc + 3, ls, st, w)) :
    iv_G p l e R s m args below meth c Q b B0 H locs cells slots pc la (ivI y :: ivI x :: st) := by
  have hy : iv_in y := hR.hd
  have hxx : iv_in x := hR.hd2
  have ht := iv_tgt ht
  cases cn
  · obtain ⟨k1, k2⟩ := iv_jmp hR.tl.tl (P := Int32.ofInt x = Int32.ofInt y) (by rw [iv_eq32 hxx hy]; exact decide_eq_true_iff) kk
    exact lv_icmp_eq hx hb hd ht k1 k2
  · obtain ⟨k1, k2⟩ := iv_jmp hR.tl.tl (P := ¬ Int32.ofInt x = Int32.ofInt y) (by rw [iv_eq32 hxx hy]; exact decide_eq_true_iff) kk
    exact lv_icmp_ne hx hb hd ht k1 (fun h => k2 fun q => q h)
  · obtain ⟨k1, k2⟩ := iv_jmp hR.tl.tl (P := Int32.ofInt x < Int32.ofInt y) (by rw [iv_lt32 hxx hy]; exact decide_eq_true_iff) kk
    exact lv_icmp_lt hx hb hd ht k1 k2
  · obtain ⟨k1, k2⟩ := iv_jmp hR.tl.tl (P := Int32.ofInt y ≤ Int32.ofInt x) (by rw [iv_le32 hy hxx]; exact decide_eq_true_iff) kk
    exact lv_icmp_ge hx hb hd ht k1 k2
  · obtain ⟨k1, k2⟩ := iv_jmp hR.tl.tl (P := Int32.ofInt y < Int32.ofInt x) (by rw [iv_lt32 hy hxx]; exact decide_eq_true_iff) kk
    exact lv_icmp_gt hx hb hd ht k1 k2
  · obtain ⟨k1, k2⟩ := iv_jmp hR.tl.tl (P := Int32.ofInt x ≤ Int32.ofInt y) (by rw [iv_le32 hxx hy]; exact decide_eq_true_iff) kk
    exact lv_icmp_le hx hb hd ht k1 k2
theorem iv_s_if {pc : Nat} {cn : Jvm.ClassFile.Cond} {o x : Int} (hx : p.tables.exec = Jvm.exec) (hb : c.code = iv_cd mi) (hd : decode (iv_cd mi) pc = .ok (.ifCond cn o, 3)) (ht : iv_tg pc o = true)
    (hR : iv_Rel D dA L b B0 n0 (iv_ml mi) s H w la ls (ivI x :: st) locs cells slots) (kk : iv_KK p l e R s m args below meth c Q D dA L b B0 n0 mi (bif iv_cmp cn x 0 then ((pc : Int) + o).toNat else pc + 3, ls, st, w)) :
    iv_G p l e R s m args below meth c Q b B0 H locs cells slots pc la (ivI x :: st) := by
  have hy : iv_in 0 := iv_in0
  have hxx : iv_in x := hR.hd
  have ht := iv_tgt ht
  cases cn
  · obtain ⟨k1, k2⟩ := iv_jmp hR.tl (P := Int32.ofInt x = Int32.ofInt 0) (by rw [iv_eq32 hxx hy]; exact decide_eq_true_iff) kk
    exact lv_if_eq hx hb hd ht k1 k2
  · obtain ⟨k1, k2⟩ := iv_jmp hR.tl (P := ¬ Int32.ofInt x = Int32.ofInt 0) (by rw [iv_eq32 hxx hy]; exact decide_eq_true_iff) kk
    exact lv_if_ne hx hb hd ht k1 (fun h => k2 fun q => q h)
  · obtain ⟨k1, k2⟩ := iv_jmp hR.tl (P := Int32.ofInt x < Int32.ofInt 0) (by rw [iv_lt32 hxx hy]; exact decide_eq_true_iff) kk
    exact lv_if_lt hx hb hd ht k1 k2
  · obtain ⟨k1, k2⟩ := iv_jmp hR.tl (P := Int32.ofInt 0 ≤ Int32.ofInt x) (by rw [iv_le32 hy hxx]; exact decide_eq_true_iff) kk
    exact lv_if_ge hx hb hd ht k1 k2
  · obtain ⟨k1, k2⟩ := iv_jmp hR.tl (P := Int32.ofInt 0 < Int32.ofInt x) (by rw [iv_lt32 hy hxx]; exact decide_eq_true_iff) kk
    exact lv_if_gt hx hb hd ht k1 k2
  · obtain ⟨k1, k2⟩ := iv_jmp hR.tl (P := Int32.ofInt x ≤ Int32.ofInt 0) (by rw [iv_le32 hxx hy]; exact decide_eq_true_iff) kk
    exact lv_if_le hx hb hd ht k1 k2
theorem iv_s_null {pc x : Nat} {o : Int} (hx : p.tables.exec = Jvm.exec) (hb : c.code = iv_cd mi) (hd : decode (iv_cd mi) pc = .ok (.ifnull o, 3)) (ht : iv_tg pc o = true)
    (hR : iv_Rel D dA L b B0 n0 (iv_ml mi) s H w la ls (ivR x :: st) locs cells slots) (kk : iv_KK p l e R s m args below meth c Q D dA L b B0 n0 mi (bif Nat.beq x 0 then ((pc : Int) + o).toNat else pc + 3, ls, st, w)) :
    iv_G p l e R s m args below meth c Q b B0 H locs cells slots pc la (ivR x :: st) := by
  have ht := iv_tgt ht
  by_cases h : x = 0
  · subst h
    exact lv_ifnullN hx hb hd ht (kk la H locs cells slots hR.tl)
  · rw [iv_nbeq h] at kk
    show W p l e R s m args below meth c H locs cells slots Q (F0 m pc la (iv_rv b B0 x :: _))
    rw [iv_rv_ne h]
    exact lv_ifnull hx hb hd (kk la H locs cells slots hR.tl)
theorem iv_s_nonnull {pc x : Nat} {o : Int} (hx : p.tables.exec = Jvm.exec) (hb : c.code = iv_cd mi) (hd : decode (iv_cd mi) pc = .ok (.ifnonnull o, 3)) (ht : iv_tg pc o = true)
    (hR : iv_Rel D dA L b B0 n0 (iv_ml mi) s H w la ls (ivR x :: st) locs cells slots) (kk : iv_KK p l e R s m args below meth c Q D dA L b B0 n0 mi (bif Nat.beq x 0 then pc + 3 else ((pc : Int) + o).toNat, ls, st, w)) :
    iv_G p l e R s m args below meth c Q b B0 H locs cells slots pc la (ivR x :: st) := by
  have ht := iv_tgt ht
  by_cases h : x = 0
  · subst h
    exact lv_ifnonnullN hx hb hd (kk la H locs cells slots hR.tl)
  · rw [iv_nbeq h] at kk
    show W p l e R s m args below meth c H locs cells slots Q (F0 m pc la (iv_rv b B0 x :: _))
    rw [iv_rv_ne h]
    exact lv_ifnonnull hx hb hd ht (kk la H locs cells slots hR.tl)
/-- stores into the locals -/
theorem iv_sto_n {pc : Nat} {k : Fin 4} {x : Int} (hx : p.tables.exec = Jvm.exec) (hb : c.code = iv_cd mi) (hd : decode (iv_cd mi) pc = .ok (.istore_n k, 1)) (hk : k.val < ls.length)
    (hR : iv_Rel D dA L b B0 n0 (iv_ml mi) s H w la ls (ivI x :: st) locs cells slots) (kk : iv_KK p l e R s m args below meth c Q D dA L b B0 n0 mi (pc + 1, (iv_unl ls k.val).set k.val (ivI x), st, w)) :
    iv_G p l e R s m args below meth c Q b B0 H locs cells slots pc la (ivI x :: st) :=
  lv_istore_n hx hb hd rfl hR.2.1.has (by rw [← hR.2.1.1]; exact hk) rfl fun la' h' => kk la' H locs cells slots (hR.tl.setl (v := ivI x) hk hR.hd h')
theorem iv_sto {pc k : Nat} {x : Int} (hx : p.tables.exec = Jvm.exec) (hb : c.code = iv_cd mi) (hd : decode (iv_cd mi) pc = .ok (.istore k, 2)) (hk : k < ls.length)
    (hR : iv_Rel D dA L b B0 n0 (iv_ml mi) s H w la ls (ivI x :: st) locs cells slots) (kk : iv_KK p l e R s m args below meth c Q D dA L b B0 n0 mi (pc + 2, (iv_unl ls k).set k (ivI x), st, w)) :
    iv_G p l e R s m args below meth c Q b B0 H locs cells slots pc la (ivI x :: st) :=
  lv_istore hx hb hd hR.2.1.has (by rw [← hR.2.1.1]; exact hk) rfl fun la' h' => kk la' H locs cells slots (hR.tl.setl (v := ivI x) hk hR.hd h')
theorem iv_asto_n {pc x : Nat} {k : Fin 4} (hx : p.tables.exec = Jvm.exec) (hb : c.code = iv_cd mi) (hd : decode (iv_cd mi) pc = .ok (.astore_n k, 1)) (hk : k.val < ls.length)
    (hR : iv_Rel D dA L b B0 n0 (iv_ml mi) s H w la ls (ivR x :: st) locs cells slots) (kk : iv_KK p l e R s m args below meth c Q D dA L b B0 n0 mi (pc + 1, (iv_unl ls k.val).set k.val (ivR x), st, w)) :
    iv_G p l e R s m args below meth c Q b B0 H locs cells slots pc la (ivR x :: st) := by
  by_cases h : x = 0
  · subst h
    exact lv_astore_nN hx hb hd rfl hR.2.1.has (by rw [← hR.2.1.1]; exact hk) rfl fun la' h' => kk la' H locs cells slots (hR.tl.setl (v := ivR 0) hk hR.hd h')
  · show W p l e R s m args below meth c H locs cells slots Q (F0 m pc la (iv_rv b B0 x :: _))
    rw [iv_rv_ne h]
    exact lv_astore_n hx hb hd rfl hR.2.1.has (by rw [← hR.2.1.1]; exact hk) rfl fun la' h' => kk la' H locs cells slots (hR.tl.setl (v := ivR x) hk hR.hd (by rw [show iv_cv b B0 (ivR x) = .ref (iv_ad b B0 x) from iv_rv_ne h]; exact h'))
theorem iv_asto {pc x k : Nat} (hx : p.tables.exec = Jvm.exec) (hb : c.code = iv_cd mi) (hd : decode (iv_cd mi) pc = .ok (.astore k, 2)) (hk : k < ls.length)
    (hR : iv_Rel D dA L b B0 n0 (iv_ml mi) s H w la ls (ivR x :: st) locs cells slots) (kk : iv_KK p l e R s m args below meth c Q D dA L b B0 n0 mi (pc + 2, (iv_unl ls k).set k (ivR x), st, w)) :
    iv_G p l e R s m args below meth c Q b B0 H locs cells slots pc la (ivR x :: st) := by
  by_cases h : x = 0
  · subst h
    exact lv_astoreN hx hb hd hR.2.1.has (by rw [← hR.2.1.1]; exact hk) rfl fun la' h' => kk la' H locs cells slots (hR.tl.setl (v := ivR 0) hk hR.hd h')
  · show W p l e R s m args below meth c H locs cells slots Q (F0 m pc la (iv_rv b B0 x :: _))
    rw [iv_rv_ne h]
    exact lv_astore hx hb hd hR.2.1.has (by rw [← hR.2.1.1]; exact hk) rfl fun la' h' => kk la' H locs cells slots (hR.tl.setl (v := ivR x) hk hR.hd (by rw [show iv_cv b B0 (ivR x) = .ref (iv_ad b B0 x) from iv_rv_ne h]; exact h'))
theorem iv_alo_n {pc x : Nat} {k : Fin 4} (hx : p.tables.exec = Jvm.exec) (hb : c.code = iv_cd mi) (hd : decode (iv_cd mi) pc = .ok (.aload_n k, 1)) (hk : ls.getD k.val ivU = ivR x)
    (hR : iv_Rel D dA L b B0 n0 (iv_ml mi) s H w la ls st locs cells slots) (kk : iv_KK p l e R s m args below meth c Q D dA L b B0 n0 mi (pc + 1, ls, ivR x :: st, w)) :
    iv_G p l e R s m args below meth c Q b B0 H locs cells slots pc la st := by
  obtain ⟨h1, h2⟩ := hR.loc (iv_getD hk iv_ne3) iv_ne3
  by_cases h : x = 0
  · subst h
    exact lv_aload_nN hx hb hd rfl h1 (kk la H locs cells slots (hR.cons h2))
  · rw [show iv_cv b B0 (ivR x) = .ref (iv_ad b B0 x) from iv_rv_ne h] at h1
    refine lv_aload_n hx hb hd rfl h1 ?_
    rw [← iv_rv_ne h]
    exact kk la H locs cells slots (hR.cons h2)
theorem iv_alo {pc x k : Nat} (hx : p.tables.exec = Jvm.exec) (hb : c.code = iv_cd mi) (hd : decode (iv_cd mi) pc = .ok (.aload k, 2)) (hk : ls.getD k ivU = ivR x)
    (hR : iv_Rel D dA L b B0 n0 (iv_ml mi) s H w la ls st locs cells slots) (kk : iv_KK p l e R s m args below meth c Q D dA L b B0 n0 mi (pc + 2, ls, ivR x :: st, w)) :
    iv_G p l e R s m args below meth c Q b B0 H locs cells slots pc la st := by
  obtain ⟨h1, h2⟩ := hR.loc (iv_getD hk iv_ne3) iv_ne3
  by_cases h : x = 0
  · subst h
    exact lv_aloadN hx hb hd h1 (kk la H locs cells slots (hR.cons h2))
  · rw [show iv_cv b B0 (ivR x) = .ref (iv_ad b B0 x) from iv_rv_ne h] at h1
    refine lv_aload hx hb hd h1 ?_
    rw [← iv_rv_ne h]
    exact kk la H locs cells slots (hR.cons h2)
theorem iv_s_iinc {pc k : Nat} {d x : Int} (hx : p.tables.exec = Jvm.exec) (hb : c.code = iv_cd mi) (hd : decode (iv_cd mi) pc = .ok (.iinc k d, 3)) (hk : ls.getD k ivU = ivI x) (hlt : k < ls.length)
    (hR : iv_Rel D dA L b B0 n0 (iv_ml mi) s H w la ls st locs cells slots) (kk : iv_KK p l e R s m args below meth c Q D dA L b B0 n0 mi (pc + 3, (iv_unl ls k).set k (ivI (iv_wr (x + d))), st, w)) :
    iv_G p l e R s m args below meth c Q b B0 H locs cells slots pc la st := by
  obtain ⟨j, hj⟩ := List.getElem?_of_mem (iv_ll_mem (b := b) (B0 := B0) (iv_getD hk iv_ne1) iv_ne1)
  refine lv_iinc (v := Int32.ofInt (iv_wr (x + d))) hx hb hd hR.2.1.has hj (by rw [iv_wr_of, Int32.ofInt_add]) (by rw [← hR.2.1.1]; exact hlt) rfl fun la' h' => kk la' H locs cells slots (hR.setl (v := ivI (iv_wr (x + d))) hlt (iv_in32 _) h')
/-- switches -/
theorem iv_s_table {pc len : Nat} {d lo hi x : Int} {os : Array Int} (hx : p.tables.exec = Jvm.exec) (hb : c.code = iv_cd mi) (hd : decode (iv_cd mi) pc = .ok (.tableswitch d lo hi os, len)) (ht : iv_tg pc d = true) (hts : os.toList.all (fun o => iv_tg pc o) = true) (hn : hi - lo + 1 = Int.ofNat os.size)
    (hR : iv_Rel D dA L b B0 n0 (iv_ml mi) s H w la ls (ivI x :: st) locs cells slots) (kk : iv_KK p l e R s m args below meth c Q D dA L b B0 n0 mi (bif decide (x < lo) || decide (hi < x) then ((pc : Int) + d).toNat else ((pc : Int) + os.toList.getD (x - lo).toNat 0).toNat, ls, st, w)) :
    iv_G p l e R s m args below meth c Q b B0 H locs cells slots pc la (ivI x :: st) := by
  have hxx : iv_in x := hR.hd
  by_cases h : x < lo ∨ hi < x
  · have hc : (decide (x < lo) || decide (hi < x)) = true := by simpa using h
    rw [hc] at kk
    exact lv_tableOut hx hb hd (by rw [iv_of32 hxx]; exact h) (iv_tgt ht) (kk la H locs cells slots hR.tl)
  · have hc : (decide (x < lo) || decide (hi < x)) = false := by simpa using h
    rw [hc] at kk
    have h1 : ¬ x < lo := fun q => h (Or.inl q)
    have h2 : ¬ hi < x := fun q => h (Or.inr q)
    have hlt : (x - lo).toNat < os.toList.length := by
      have : Int.ofNat os.toList.length = hi - lo + 1 := by rw [hn]; simp
      have h3 : (os.toList.length : Int) = hi - lo + 1 := this
      omega
    have ho : os[(x - lo).toNat]? = some (os.toList.getD (x - lo).toNat 0) := by
      rw [← Array.getElem?_toList, List.getD_eq_getElem?_getD, List.getElem?_eq_getElem hlt]
      rfl
    have hm : os.toList.getD (x - lo).toNat 0 ∈ os.toList := by
      rw [List.getD_eq_getElem?_getD, List.getElem?_eq_getElem hlt]
      exact List.getElem_mem hlt
    exact lv_tableIn hx hb hd (by rw [iv_of32 hxx]; exact h1) (by rw [iv_of32 hxx]; exact h2) (by rw [iv_of32 hxx]; exact ho) (iv_tgt (List.all_eq_true.mp hts _ hm)) (kk la H locs cells slots hR.tl)
theorem iv_lko {pc : Nat} {d x : Int} : ∀ ps : List (Int × Int), iv_tg pc d = true → ps.all (fun o => iv_tg pc o.2) = true → iv_tg pc (Op.lookupswitch.offset ps d x) = true
  | [], h, _ => h
  | (a, o) :: r, h, hs => by
    rw [List.all_cons, Bool.and_eq_true] at hs
    rw [Op.lookupswitch.offset_cons]
    split
    · exact hs.1
    · exact iv_lko r h hs.2
theorem iv_s_lookup {pc len : Nat} {d x : Int} {ps : Array (Int × Int)} (hx : p.tables.exec = Jvm.exec) (hb : c.code = iv_cd mi) (hd : decode (iv_cd mi) pc = .ok (.lookupswitch d ps, len)) (ht : iv_tg pc d = true) (hts : ps.toList.all (fun o => iv_tg pc o.2) = true) (hz : (ps.toList.zip (ps.toList.drop 1)).all (fun (a, next) => a.1 < next.1) = true)
    (hR : iv_Rel D dA L b B0 n0 (iv_ml mi) s H w la ls (ivI x :: st) locs cells slots) (kk : iv_KK p l e R s m args below meth c Q D dA L b B0 n0 mi (((pc : Int) + Op.lookupswitch.offset ps.toList d x).toNat, ls, st, w)) :
    iv_G p l e R s m args below meth c Q b B0 H locs cells slots pc la (ivI x :: st) := by
  have hxx : iv_in x := hR.hd
  exact lv_lookup hx hb hd hz (by rw [iv_of32 hxx]) (iv_tgt (iv_lko ps.toList ht hts)) (kk la H locs cells slots hR.tl)
end IVS
end
section
/-! ONE STEP, over the machine: fields and arrays -/
section IVS
variable {p : Program} {l : Launch} {e : Env} {R : Room} {s : State} {m : MethodId} {args : Array Value} {below : List Frame} {meth : Method} {c : Code} {Q : State → Prop}
variable {D : va_G} {dA : Nat → ClassId} {L b B0 n0 mi : Nat} {H : Heap} {w : ivS} {la : Array Slot} {ls st : List ivV} {locs : List Loc} {cells slots : Nat}
theorem iv_cells {x : Nat} (h : iv_HR D dA L b B0 s H w) (hx : x ≠ 1) (h0 : (iv_lay L x).1 ≠ 9) (hn : x ≤ w.1) : iv_cell D dA L b B0 w H x ∧ 2 ≤ x := by
  have h2 : 2 ≤ x := by
    rcases (by omega : x = 0 ∨ 2 ≤ x) with e | e
    · subst e; exact absurd rfl h0
    · exact e
  exact ⟨h.2.2.2.2.1 x h2 hn, h2⟩
/-- an object and its class -/
theorem iv_objc {x : Nat} (h : iv_HR D dA L b B0 s H w) (h0 : (iv_lay L x).1 = 0) (hn : x ≤ w.1) :
    ∃ q : Nat × Nat, iv_cls[(iv_lay L x).2.1]? = some q ∧ q.2 = (iv_lay L x).2.2 ∧ 2 ≤ x ∧ t_OB (iv_ad b B0 x) (D.1 (iv_lay L x).2.1) q.2 (D.2 (iv_lay L x).2.1) H (fun k => iv_slot b B0 (iv_fty (iv_lay L x).2.1 k) w x k) ∧ u_Kn s (iv_s q.1) (iv_Tf (iv_lay L x).2.1) q.2 (D.1 (iv_lay L x).2.1) (D.2 (iv_lay L x).2.1) := by
  obtain ⟨hx, q, h1, h2⟩ := iv_lay_obj h0
  obtain ⟨⟨c1, -⟩, x2⟩ := iv_cells h hx (by rw [h0]; decide) hn
  refine ⟨q, h1, h2, x2, by rw [h2]; exact c1 h0, ?_⟩
  exact h.2.2.2.2.2.2.2.1 _ _ (iv_cls_of h1).1
theorem iv_gf_of {mi idx : Nat} {e : ivE} (h : iv_gf mi e idx = true) : ∃ q, iv_cls[e.2.2.2.1]? = some q ∧ e.2.2.2.2.1 < q.2 ∧ Jvm.Cond.fieldLink (iv_nm mi).cls idx (iv_Tf e.2.2.2.1 e.2.2.2.2.1).1 (iv_Tf e.2.2.2.1 e.2.2.2.2.1).2.1 (iv_Tf e.2.2.2.1 e.2.2.2.2.1).2.2.1 ∈ iv_TB := by
  unfold iv_gf at h
  cases hq : iv_cls[e.2.2.2.1]? with
  | none => rw [hq] at h; cases h
  | some q =>
    rw [hq] at h
    simp only [Bool.and_eq_true] at h
    exact ⟨q, rfl, by have := Nat.le_of_ble_eq_true h.1; omega, iv_at_mem h.2⟩
theorem iv_s_get {pc idx x : Nat} {ee : ivE} (hx : p.tables.exec = Jvm.exec) (hb : c.code = iv_cd mi) (hown : s.vm.findClass (iv_nm mi).cls = some m.cls) (hts : ∀ w ∈ iv_TB, w.before args s = true) (hd : decode (iv_cd mi) pc = .ok (.getfield idx, 3)) (hg : iv_gf mi ee idx = true)
    (h0 : (iv_lay L x).1 = 0) (h1 : (iv_lay L x).2.1 = ee.2.2.2.1) (hn : x ≤ w.1)
    (hR : iv_Rel D dA L b B0 n0 (iv_ml mi) s H w la ls (ivR x :: st) locs cells slots) (kk : iv_KK p l e R s m args below meth c Q D dA L b B0 n0 mi (pc + 3, ls, (bif Nat.ble 2 (iv_fty ee.2.2.2.1 ee.2.2.2.2.1) then ivR (w.2.2 x ee.2.2.2.2.1) else ivI (w.2.1 x ee.2.2.2.2.1)) :: st, w)) :
    iv_G p l e R s m args below meth c Q b B0 H locs cells slots pc la (ivR x :: st) := by
  obtain ⟨q, g1, g2, g3⟩ := iv_gf_of hg
  obtain ⟨q', e1, e2, x2, ⟨cell, c1, c2, c3, c4⟩, hS, hfc, kC, hkC, hkind⟩ := iv_objc hR.1 h0 hn
  rw [h1] at e1 c2 c4 hS hfc
  cases g1.symm.trans e1
  obtain ⟨hin, -, -, -, -⟩ := iv_cg_of g1
  obtain ⟨cf, kf, fi, f, hi, hsl⟩ := hS _ g2
  show W p l e R s m args below meth c H locs cells slots Q (F0 m pc la (iv_rv b B0 x :: _))
  rw [iv_rv_ne (by omega)]
  rw [h1] at hkC
  refine W.getf hx hb hown (hts _ g3) hi (u_facts hfc hkC (u_lays hts hin g2) hi).1 c1 (by rw [c3]; exact fun h => by cases h) (v := iv_slot b B0 (iv_fty ee.2.2.2.1 ee.2.2.2.2.1) w x ee.2.2.2.2.1) (by rw [hsl]; exact c4 _ g2) rfl rfl hd ?_
  have hok : iv_ok w.1 (bif Nat.ble 2 (iv_fty ee.2.2.2.1 ee.2.2.2.2.1) then ivR (w.2.2 x ee.2.2.2.2.1) else ivI (w.2.1 x ee.2.2.2.2.1)) := by
    cases Nat.ble 2 (iv_fty ee.2.2.2.1 ee.2.2.2.2.1)
    · exact hR.1.2.2.2.2.2.1 _ _
    · exact hR.1.2.2.2.2.2.2.1 _ _
  have hcv : iv_slot b B0 (iv_fty ee.2.2.2.1 ee.2.2.2.2.1) w x ee.2.2.2.2.1 = iv_cv b B0 (bif Nat.ble 2 (iv_fty ee.2.2.2.1 ee.2.2.2.2.1) then ivR (w.2.2 x ee.2.2.2.2.1) else ivI (w.2.1 x ee.2.2.2.2.1)) := by
    unfold iv_slot
    cases Nat.ble 2 (iv_fty ee.2.2.2.1 ee.2.2.2.2.1) <;> rfl
  exact iv_push hR.tl hcv hok kk
/-- the state behind a store -/
theorem iv_Rel.put {x : Nat} {w1 : ivS} {H1 : Heap} {k : Nat} (hR : iv_Rel D dA L b B0 n0 (iv_ml mi) s H w la ls st locs cells slots) (hx : 2 ≤ x) (hn : w1.1 = w.1) (hz : H1.size = H.size)
    (hH : ∀ q, q ≠ iv_ad b B0 x → H1[q]? = H[q]?) (hc : iv_cell D dA L b B0 w1 H1 x) (hm : ∀ y, y ≠ x → ∀ k, w1.2.1 y k = w.2.1 y k ∧ w1.2.2 y k = w.2.2 y k) (hi : ∀ y k, iv_in (w1.2.1 y k)) (hr : ∀ y k, w1.2.2 y k ≤ w1.1) : iv_Rel D dA L b B0 n0 (iv_ml mi) s H1 w1 la ls st (locs ++ [⟨iv_ad b B0 x, k⟩]) cells slots := by
  obtain ⟨r1, r2, r3, r4, r5, r6, r7⟩ := hR
  refine ⟨r1.set hx hn hz hH hc hm hi hr, r2, by rw [hn]; exact r3, by rw [hn]; exact r4, va_S.put r5 hz hH ?_, by rw [hn]; exact r6, r7⟩
  show B0 ≤ iv_ad b B0 x
  unfold iv_ad
  rw [if_neg (by omega)]
  omega
theorem iv_s_put {pc idx x : Nat} {ee : ivE} {v : ivV} {w1 : ivS} (hx : p.tables.exec = Jvm.exec) (hb : c.code = iv_cd mi) (hown : s.vm.findClass (iv_nm mi).cls = some m.cls) (hts : ∀ w ∈ iv_TB, w.before args s = true) (hname : (iv_nm mi).name = "<init>" → meth.name = "<init>") (hd : decode (iv_cd mi) pc = .ok (.putfield idx, 3)) (hg : iv_gf mi ee idx = true) (hgp : iv_gp mi ee = true)
    (h0 : (iv_lay L x).1 = 0) (h1 : (iv_lay L x).2.1 = ee.2.2.2.1) (hn : x ≤ w.1)
    (hv : ∀ t, parseFieldDescriptor (iv_Tf ee.2.2.2.1 ee.2.2.2.2.1).2.2.1 = some t → (iv_fty ee.2.2.2.1 ee.2.2.2.2.1 = 0 ∧ t = .int ∨ iv_fty ee.2.2.2.1 ee.2.2.2.2.1 = 1 ∧ t = .boolean ∨ iv_fty ee.2.2.2.1 ee.2.2.2.2.1 = 2 ∧ ((∃ n, t = .object n) ∨ ∃ c, t = .array c)) → narrow t (iv_cv b B0 v) = iv_cv b B0 v ∧ fits t (iv_cv b B0 v) = true)
    (hw1 : w1.1 = w.1) (hm : ∀ y, y ≠ x → ∀ k, w1.2.1 y k = w.2.1 y k ∧ w1.2.2 y k = w.2.2 y k) (hi1 : ∀ y k, iv_in (w1.2.1 y k)) (hr1 : ∀ y k, w1.2.2 y k ≤ w1.1)
    (hs : ∀ k, iv_slot b B0 (iv_fty ee.2.2.2.1 k) w1 x k = if k = ee.2.2.2.2.1 then iv_cv b B0 v else iv_slot b B0 (iv_fty ee.2.2.2.1 k) w x k)
    (hR : iv_Rel D dA L b B0 n0 (iv_ml mi) s H w la ls (v :: ivR x :: st) locs cells slots) (kk : iv_KK p l e R s m args below meth c Q D dA L b B0 n0 mi (pc + 3, ls, st, w1)) :
    iv_G p l e R s m args below meth c Q b B0 H locs cells slots pc la (v :: ivR x :: st) := by
  obtain ⟨q, g1, g2, g3⟩ := iv_gf_of hg
  obtain ⟨q', e1, e2, x2, ⟨cell, c1, c2, c3, c4⟩, hS, hfc, kC, hkC, hkind⟩ := iv_objc hR.1 h0 hn
  have hl1 : ¬ (iv_lay L x).1 = 1 := by rw [h0]; decide
  have hOB : ∀ H' : Heap, t_OB (iv_ad b B0 x) (D.1 (iv_lay L x).2.1) q'.2 (D.2 (iv_lay L x).2.1) H' (fun k => iv_slot b B0 (iv_fty (iv_lay L x).2.1 k) w1 x k) → iv_cell D dA L b B0 w1 H' x := fun H' h => ⟨fun _ => by rw [← e2]; exact h, fun h' => absurd h' hl1⟩
  rw [h1] at e1 c2 c4 hS hfc hkC hOB
  cases g1.symm.trans e1
  obtain ⟨hin, hty, hnm, -, -⟩ := iv_cg_of g1
  have hap : ∀ x y, x < q.2 → y < q.2 → x ≠ y → (D.2 ee.2.2.2.1) x ≠ (D.2 ee.2.2.2.1) y := by
    intro x y hx hy hne
    obtain ⟨_, _, _, fa, hia, ea⟩ := hS x hx
    obtain ⟨_, _, _, fb, hib, eb⟩ := hS y hy
    obtain ⟨ta, hta, -⟩ := hty x hx
    obtain ⟨tb, htb, -⟩ := hty y hy
    rw [← ea, ← eb]
    refine u_apart (u_lays hts hin hx) (u_lays hts hin hy) hia hib ?_
    rw [(State.fieldFound?_type hia hta).1, (State.fieldFound?_type hib htb).1]
    exact hnm x hx y hy hne
  obtain ⟨cf, kf, fi, f, hi, hsl⟩ := hS _ g2
  obtain ⟨t, ht, htk⟩ := hty _ g2
  obtain ⟨hn1, hf1⟩ := hv t ht htk
  have hlay := hts _ (hin _ (u_in_lay g2))
  have hst := (u_facts hfc hkC (u_lays hts hin g2) hi).1
  have fin : ∀ H' : Heap, H'[iv_ad b B0 x]? = some (cell.setSlot f.slot (iv_cv b B0 v)) → H'.size = H.size → (∀ q, q ≠ iv_ad b B0 x → H'[q]? = H[q]?) → W p l e R s m args below meth c H' (locs ++ [⟨iv_ad b B0 x, f.slot⟩]) cells slots Q (F0 m (pc + 3) la (st.map (iv_cv b B0))) := by
    intro H' a1 a2 a3
    refine kk la H' _ cells slots (iv_Rel.put hR.tl.tl x2 hw1 a2 a3 (hOB H' ?_) hm hi1 hr1)
    rw [hsl] at a1
    refine t_OB.to (V := updV (fun k => iv_slot b B0 (iv_fty ee.2.2.2.1 k) w x k) ee.2.2.2.2.1 (iv_cv b B0 v)) ⟨_, a1, c2, c3, t_set c4 hap g2 _⟩ fun k hk => ?_
    rw [hs k]
    rfl
  show W p l e R s m args below meth c H locs cells slots Q (F0 m pc la (iv_cv b B0 v :: iv_rv b B0 x :: _))
  rw [iv_rv_ne (by omega)]
  by_cases hfin : (iv_Tc ee.2.2.2.1 ee.2.2.2.2.1).2.2.2 = true
  · unfold u_lay at hlay
    rw [if_pos (show (iv_Tf ee.2.2.2.1 ee.2.2.2.2.1).2.2.2 = true from hfin)] at hlay
    unfold iv_gp at hgp
    rw [hfin] at hgp
    simp only [Bool.not_true, Bool.false_or, Bool.and_eq_true, decide_eq_true_eq] at hgp
    have hdecl : (iv_Tf ee.2.2.2.1 ee.2.2.2.2.1).1 = (iv_nm mi).cls := by show iv_s _ = iv_s _; rw [hgp.1]
    have hinit : meth.name = "<init>" := hname (by show iv_s (iv_nc mi).2.1 = _; rw [hgp.2]; rfl)
    have hcf : m.cls = cf := by
      obtain ⟨_, _, c', _, _, _, -, -, hf', -, -, -, hown2, -⟩ := Cond.laysFinal_spec hlay
      have e1 : c' = cf := by have := hi.symm.trans hf'; simp at this; exact this.1.symm
      rw [hdecl] at hown2
      rw [← e1]; exact Option.some.inj (hown.symm.trans hown2)
    have h6 := u_fits hfc hkC hkind (Or.inr hlay) hi ht hn1 hf1
    exact W.putFinK hx hb hown (hts _ g3) hi hst hcf hinit (by rw [c2]; exact h6) c1 c3 (by rw [hsl]; exact k2_hasslot (c4 _ g2)) rfl rfl hd fin
  · unfold u_lay at hlay
    rw [if_neg (show ¬ (iv_Tf ee.2.2.2.1 ee.2.2.2.2.1).2.2.2 = true from hfin)] at hlay
    have h6 := u_store hfc hkC hkind hlay hi ht hn1 hf1
    exact W.putK hx hb (f := f) ⟨hown, hts _ g3, ⟨_, _, _, hi⟩, hst⟩ (by rw [c2]; exact h6) c1 c3 (by rw [hsl]; exact k2_hasslot (c4 _ g2)) rfl rfl hd fin
/-- arrays -/
theorem iv_arrc {x : Nat} (h : iv_HR D dA L b B0 s H w) (hx : x ≠ 1) (h0 : (iv_lay L x).1 = 1) (hn : x ≤ w.1) :
    H[iv_ad b B0 x]? = some (arrV (dA (iv_lay L x).2.1) (iv_lay L x).2.2 (fun k => iv_slot b B0 (iv_lay L x).2.1 w x k)) ∧ 2 ≤ x := by
  obtain ⟨⟨-, c2⟩, x2⟩ := iv_cells h hx (by rw [h0]; decide) hn
  exact ⟨c2 h0, x2⟩
theorem iv_aty {t : Nat} {ty : FieldType} (h : iv_HR D dA L b B0 s H w) (ht : (iv_tys dA)[t]? = some (dA t, ty)) : ArrOfT s (dA t) ty := (h.2.2.2.2.2.2.2.2 t _ ht).1
theorem iv_s_iald {pc x : Nat} {i : Int} (hx : p.tables.exec = Jvm.exec) (hb : c.code = iv_cd mi) (hd : decode (iv_cd mi) pc = .ok (.iaload, 1))
    (h0 : (iv_lay L x).1 = 1) (h1 : (iv_lay L x).2.1 = 0) (hn : x ≤ w.1) (hi0 : 0 ≤ i) (hi1 : i < (iv_lay L x).2.2)
    (hR : iv_Rel D dA L b B0 n0 (iv_ml mi) s H w la ls (ivI i :: ivR x :: st) locs cells slots) (kk : iv_KK p l e R s m args below meth c Q D dA L b B0 n0 mi (pc + 1, ls, ivI (w.2.1 x i.toNat) :: st, w)) :
    iv_G p l e R s m args below meth c Q b B0 H locs cells slots pc la (ivI i :: ivR x :: st) := by
  have hin : iv_in i := hR.hd
  obtain ⟨j1, j2⟩ := iv_idx hin hi0 hi1
  have hlt : i.toNat < (iv_lay L x).2.2 := by omega
  show W p l e R s m args below meth c H locs cells slots Q (F0 m pc la (.int (Int32.ofInt i) :: iv_rv b B0 x :: _))
  rw [iv_rv_ne (by intro e; rw [e] at h0; cases h0)]
  by_cases e1 : x = 1
  · subst e1
    obtain ⟨scr, s1, s2, s3, s4, s5⟩ := hR.1.2.2.2.1
    have hs4 : scr.slots.size = (iv_lay L 1).2.2 := s4
    refine W.iald (v := .int (Int32.ofInt (w.2.1 1 i.toNat))) hx hb s1 s2 s3 (by rw [hs4]; exact j1) (by rw [j2]; exact s5 _ hlt) rfl rfl hd ?_
    exact iv_push (v := ivI (w.2.1 1 i.toNat)) hR.tl.tl rfl (hR.1.2.2.2.2.2.1 _ _) kk
  · obtain ⟨c1, x2⟩ := iv_arrc hR.1 e1 h0 hn
    rw [h1] at c1
    refine W.iald (v := iv_slot b B0 0 w x i.toNat) hx hb c1 (iv_aty hR.1 (ty := .int) rfl _ _) (fun q => by cases q) (by rw [arrV_size]; exact j1) (by rw [j2, arrV_read _ _ hlt]) rfl rfl hd ?_
    exact iv_push (v := ivI (w.2.1 x i.toNat)) hR.tl.tl rfl (hR.1.2.2.2.2.2.1 _ _) kk
theorem iv_s_bald {pc x : Nat} {i : Int} (hx : p.tables.exec = Jvm.exec) (hb : c.code = iv_cd mi) (hd : decode (iv_cd mi) pc = .ok (.baload, 1))
    (h0 : (iv_lay L x).1 = 1) (h1 : (iv_lay L x).2.1 = 1) (hn : x ≤ w.1) (hi0 : 0 ≤ i) (hi1 : i < (iv_lay L x).2.2)
    (hR : iv_Rel D dA L b B0 n0 (iv_ml mi) s H w la ls (ivI i :: ivR x :: st) locs cells slots) (kk : iv_KK p l e R s m args below meth c Q D dA L b B0 n0 mi (pc + 1, ls, ivI (w.2.1 x i.toNat) :: st, w)) :
    iv_G p l e R s m args below meth c Q b B0 H locs cells slots pc la (ivI i :: ivR x :: st) := by
  have hin : iv_in i := hR.hd
  obtain ⟨j1, j2⟩ := iv_idx hin hi0 hi1
  have hlt : i.toNat < (iv_lay L x).2.2 := by omega
  show W p l e R s m args below meth c H locs cells slots Q (F0 m pc la (.int (Int32.ofInt i) :: iv_rv b B0 x :: _))
  rw [iv_rv_ne (by intro e; rw [e] at h0; cases h0)]
  obtain ⟨c1, x2⟩ := iv_arrc hR.1 (fun e => by rw [e] at h1; cases h1) h0 hn
  rw [h1] at c1
  refine W.zald (v := iv_slot b B0 1 w x i.toNat) hx hb c1 (iv_aty hR.1 (ty := .boolean) rfl _ _) (fun q => by cases q) (by rw [arrV_size]; exact j1) (by rw [j2, arrV_read _ _ hlt]) rfl rfl hd ?_
  exact iv_push (v := ivI (w.2.1 x i.toNat)) hR.tl.tl rfl (hR.1.2.2.2.2.2.1 _ _) kk
theorem iv_s_aald {pc x : Nat} {i : Int} (hx : p.tables.exec = Jvm.exec) (hb : c.code = iv_cd mi) (hd : decode (iv_cd mi) pc = .ok (.aaload, 1))
    (h0 : (iv_lay L x).1 = 1) (h1 : 2 ≤ (iv_lay L x).2.1) (hn : x ≤ w.1) (hi0 : 0 ≤ i) (hi1 : i < (iv_lay L x).2.2)
    (hR : iv_Rel D dA L b B0 n0 (iv_ml mi) s H w la ls (ivI i :: ivR x :: st) locs cells slots) (kk : iv_KK p l e R s m args below meth c Q D dA L b B0 n0 mi (pc + 1, ls, ivR (w.2.2 x i.toNat) :: st, w)) :
    iv_G p l e R s m args below meth c Q b B0 H locs cells slots pc la (ivI i :: ivR x :: st) := by
  have hin : iv_in i := hR.hd
  obtain ⟨j1, j2⟩ := iv_idx hin hi0 hi1
  have hlt : i.toNat < (iv_lay L x).2.2 := by omega
  show W p l e R s m args below meth c H locs cells slots Q (F0 m pc la (.int (Int32.ofInt i) :: iv_rv b B0 x :: _))
  rw [iv_rv_ne (by intro e; rw [e] at h0; cases h0)]
  have hx1 : x ≠ 1 := fun e => by rw [e] at h1; exact absurd (show 2 ≤ 0 from h1) (by decide)
  obtain ⟨c1, x2⟩ := iv_arrc hR.1 hx1 h0 hn
  have h4 := (iv_lay_arr hx1 h0).1
  have hty : ∃ ty, (iv_tys dA)[(iv_lay L x).2.1]? = some (dA (iv_lay L x).2.1, ty) ∧ ty.isReference = true := by
    rcases (by omega : (iv_lay L x).2.1 = 2 ∨ (iv_lay L x).2.1 = 3 ∨ (iv_lay L x).2.1 = 4) with e | e | e <;> rw [e] <;> exact ⟨_, rfl, rfl⟩
  obtain ⟨ty, ht1, ht2⟩ := hty
  have hsv : iv_slot b B0 (iv_lay L x).2.1 w x i.toNat = iv_rv b B0 (w.2.2 x i.toNat) := by unfold iv_slot; rw [Nat.ble_eq_true_of_le h1]; rfl
  refine W.aald (v := iv_slot b B0 (iv_lay L x).2.1 w x i.toNat) (ty := ty) hx hb c1 (iv_aty hR.1 ht1 _ _) ht2 (fun q => by cases q) (by rw [arrV_size]; exact j1) (by rw [j2, arrV_read _ _ hlt]) rfl rfl hd ?_
  exact iv_push (v := ivR (w.2.2 x i.toNat)) hR.tl.tl hsv (hR.1.2.2.2.2.2.2.1 _ _) kk
/-- stores into arrays: the cell behind -/
theorem iv_upd_cell {x k : Nat} {v : Int} {H1 : Heap} (hx : x ≠ 1) (h0 : (iv_lay L x).1 = 1) (ht : (iv_lay L x).2.1 < 2) (hn : x ≤ w.1) (h : iv_HR D dA L b B0 s H w)
    (he : H1[iv_ad b B0 x]? = some ((arrV (dA (iv_lay L x).2.1) (iv_lay L x).2.2 (fun k => iv_slot b B0 (iv_lay L x).2.1 w x k)).setSlot k (.int (Int32.ofInt v)))) : iv_cell D dA L b B0 (w.1, iv_upd w.2.1 x k v, w.2.2) H1 x := by
  refine ⟨fun q => (by rw [h0] at q; cases q), fun _ => ?_⟩
  rw [he, arrV_store]
  congr 2
  funext j
  have hb : Nat.ble 2 (iv_lay L x).2.1 = false := by
    cases hc : Nat.ble 2 (iv_lay L x).2.1
    · rfl
    · have := Nat.le_of_ble_eq_true hc; omega
  unfold iv_slot updV iv_upd
  rw [hb]
  by_cases e : j = k
  · subst e; simp
  · simp [e]
theorem iv_upd_in {x k : Nat} {v : Int} {f : ivM} (h : ∀ y j, iv_in (f y j)) (hv : iv_in v) : ∀ y j, iv_in (iv_upd f x k v y j) := fun y j => by
  unfold iv_upd
  split
  · exact hv
  · exact h y j
theorem iv_upd_ne {x k y : Nat} {v : Int} {f : ivM} (h : y ≠ x) (j : Nat) : iv_upd f x k v y j = f y j := if_neg fun q => h q.1
theorem iv_updR_ne {x k y v : Nat} {f : ivN} (h : y ≠ x) (j : Nat) : iv_updR f x k v y j = f y j := if_neg fun q => h q.1
theorem iv_updR_le {x k v n : Nat} {f : ivN} (h : ∀ y j, f y j ≤ n) (hv : v ≤ n) : ∀ y j, iv_updR f x k v y j ≤ n := fun y j => by
  unfold iv_updR
  split
  · exact hv
  · exact h y j
theorem iv_s_iast {pc x : Nat} {i v : Int} (hx : p.tables.exec = Jvm.exec) (hb : c.code = iv_cd mi) (hd : decode (iv_cd mi) pc = .ok (.iastore, 1)) (hx2 : 2 ≤ x)
    (h0 : (iv_lay L x).1 = 1) (h1 : (iv_lay L x).2.1 = 0) (hn : x ≤ w.1) (hi0 : 0 ≤ i) (hi1 : i < (iv_lay L x).2.2)
    (hR : iv_Rel D dA L b B0 n0 (iv_ml mi) s H w la ls (ivI v :: ivI i :: ivR x :: st) locs cells slots) (kk : iv_KK p l e R s m args below meth c Q D dA L b B0 n0 mi (pc + 1, ls, st, w.1, iv_upd w.2.1 x i.toNat v, w.2.2)) :
    iv_G p l e R s m args below meth c Q b B0 H locs cells slots pc la (ivI v :: ivI i :: ivR x :: st) := by
  have hin : iv_in i := hR.hd2
  have hv : iv_in v := hR.hd
  obtain ⟨j1, j2⟩ := iv_idx hin hi0 hi1
  show W p l e R s m args below meth c H locs cells slots Q (F0 m pc la (.int (Int32.ofInt v) :: .int (Int32.ofInt i) :: iv_rv b B0 x :: _))
  rw [iv_rv_ne (by omega)]
  have hx1 : x ≠ 1 := by omega
  obtain ⟨c1, -⟩ := iv_arrc hR.1 hx1 h0 hn
  have c1' := c1
  rw [h1] at c1
  refine W.iast hx hb c1 (iv_aty hR.1 (ty := .int) rfl _ _) (fun q => by cases q) (by rw [arrV_size]; exact j1) rfl rfl hd fun H1 a1 a2 a3 => ?_
  rw [j2] at a1 ⊢
  exact kk la H1 _ cells slots (iv_Rel.put hR.tl.tl.tl hx2 rfl a2 a3 (iv_upd_cell hx1 h0 (by omega) hn hR.1 (by rw [a1, h1])) (fun y hy j => ⟨iv_upd_ne hy j, rfl⟩) (iv_upd_in hR.1.2.2.2.2.2.1 hv) hR.1.2.2.2.2.2.2.1)
theorem iv_s_bast {pc x : Nat} {i v : Int} (hx : p.tables.exec = Jvm.exec) (hb : c.code = iv_cd mi) (hd : decode (iv_cd mi) pc = .ok (.bastore, 1)) (hx2 : 2 ≤ x)
    (h0 : (iv_lay L x).1 = 1) (h1 : (iv_lay L x).2.1 = 1) (hn : x ≤ w.1) (hi0 : 0 ≤ i) (hi1 : i < (iv_lay L x).2.2)
    (hR : iv_Rel D dA L b B0 n0 (iv_ml mi) s H w la ls (ivI v :: ivI i :: ivR x :: st) locs cells slots) (kk : iv_KK p l e R s m args below meth c Q D dA L b B0 n0 mi (pc + 1, ls, st, w.1, iv_upd w.2.1 x i.toNat (v % 2), w.2.2)) :
    iv_G p l e R s m args below meth c Q b B0 H locs cells slots pc la (ivI v :: ivI i :: ivR x :: st) := by
  have hin : iv_in i := hR.hd2
  have hv : iv_in v := hR.hd
  obtain ⟨j1, j2⟩ := iv_idx hin hi0 hi1
  show W p l e R s m args below meth c H locs cells slots Q (F0 m pc la (.int (Int32.ofInt v) :: .int (Int32.ofInt i) :: iv_rv b B0 x :: _))
  rw [iv_rv_ne (by omega)]
  have hx1 : x ≠ 1 := by omega
  obtain ⟨c1, -⟩ := iv_arrc hR.1 hx1 h0 hn
  rw [h1] at c1
  refine W.zast hx hb c1 (iv_aty hR.1 (ty := .boolean) rfl _ _) (fun q => by cases q) (by rw [arrV_size]; exact j1) rfl rfl hd fun H1 a1 a2 a3 => ?_
  rw [j2] at a1 ⊢
  have en : narrow .boolean (.int (Int32.ofInt v)) = .int (Int32.ofInt (v % 2)) := by show Value.int (Int32.ofInt v &&& 1) = _; rw [(iv_and1 hv).1]
  exact kk la H1 _ cells slots (iv_Rel.put hR.tl.tl.tl hx2 rfl a2 a3 (iv_upd_cell hx1 h0 (by omega) hn hR.1 (by rw [a1, h1, en])) (fun y hy j => ⟨iv_upd_ne hy j, rfl⟩) (iv_upd_in hR.1.2.2.2.2.2.1 (iv_and1 hv).2) hR.1.2.2.2.2.2.2.1)
theorem iv_s_alen {pc x : Nat} (hx : p.tables.exec = Jvm.exec) (hb : c.code = iv_cd mi) (hd : decode (iv_cd mi) pc = .ok (.arraylength, 1)) (hL : L ≤ 2048)
    (h0 : (iv_lay L x).1 = 1) (h1 : (iv_lay L x).2.1 = 0) (hn : x ≤ w.1)
    (hR : iv_Rel D dA L b B0 n0 (iv_ml mi) s H w la ls (ivR x :: st) locs cells slots) (kk : iv_KK p l e R s m args below meth c Q D dA L b B0 n0 mi (pc + 1, ls, ivI (Int.ofNat (iv_lay L x).2.2) :: st, w)) :
    iv_G p l e R s m args below meth c Q b B0 H locs cells slots pc la (ivR x :: st) := by
  show W p l e R s m args below meth c H locs cells slots Q (F0 m pc la (iv_rv b B0 x :: _))
  rw [iv_rv_ne (by intro e; rw [e] at h0; cases h0)]
  have hsz : ∀ n : Nat, n.toInt32 = Int32.ofInt (Int.ofNat n) := fun n => by rw [show Int.ofNat n = (n : Int) from rfl, Int32.ofInt_eq_ofNat]
  by_cases e1 : x = 1
  · subst e1
    obtain ⟨scr, s1, s2, s3, s4, s5⟩ := hR.1.2.2.2.1
    have hok : iv_in (Int.ofNat (iv_lay L 1).2.2) := by
      show iv_in (Int.ofNat L)
      unfold iv_in
      simp only [Int.ofNat_eq_natCast]
      omega
    refine W.alen (n := Int32.ofInt (Int.ofNat L)) hx hb s1 s2 (by rw [s4]; exact hsz L) rfl rfl hd ?_
    exact iv_push (v := ivI (Int.ofNat (iv_lay L 1).2.2)) hR.tl rfl hok kk
  · obtain ⟨c1, x2⟩ := iv_arrc hR.1 e1 h0 hn
    have h4 := (iv_lay_arr e1 h0).2
    rw [h1] at c1
    have hok : iv_in (Int.ofNat (iv_lay L x).2.2) := by
      unfold iv_in
      simp only [Int.ofNat_eq_natCast]
      omega
    refine W.alen (n := Int32.ofInt (Int.ofNat (iv_lay L x).2.2)) hx hb c1 (iv_aty hR.1 (ty := .int) rfl _ _) (by rw [arrV_size]; exact hsz _) rfl rfl hd ?_
    exact iv_push (v := ivI (Int.ofNat (iv_lay L x).2.2)) hR.tl rfl hok kk
theorem iv_s_aast {pc x y : Nat} {i : Int} (hx : p.tables.exec = Jvm.exec) (hb : c.code = iv_cd mi) (hd : decode (iv_cd mi) pc = .ok (.aastore, 1)) (hx2 : 2 ≤ x)
    (h0 : (iv_lay L x).1 = 1) (h1 : (iv_lay L x).2.1 = 2 ∨ (iv_lay L x).2.1 = 3) (hn : x ≤ w.1) (hi0 : 0 ≤ i) (hi1 : i < (iv_lay L x).2.2) (hy0 : (iv_lay L y).1 = 0) (hy1 : (iv_lay L y).2.1 = (iv_lay L x).2.1) (hyn : y ≤ w.1)
    (hR : iv_Rel D dA L b B0 n0 (iv_ml mi) s H w la ls (ivR y :: ivI i :: ivR x :: st) locs cells slots) (kk : iv_KK p l e R s m args below meth c Q D dA L b B0 n0 mi (pc + 1, ls, st, w.1, w.2.1, iv_updR w.2.2 x i.toNat y)) :
    iv_G p l e R s m args below meth c Q b B0 H locs cells slots pc la (ivR y :: ivI i :: ivR x :: st) := by
  have hin : iv_in i := hR.hd2
  obtain ⟨j1, j2⟩ := iv_idx hin hi0 hi1
  have hlt : i.toNat < (iv_lay L x).2.2 := by omega
  obtain ⟨q, g1, g2, y2, ⟨cellV, v1, v2, v3, -⟩, hS, hfc, kC, hkC, hkind⟩ := iv_objc hR.1 hy0 hyn
  show W p l e R s m args below meth c H locs cells slots Q (F0 m pc la (iv_rv b B0 y :: .int (Int32.ofInt i) :: iv_rv b B0 x :: _))
  rw [iv_rv_ne (by omega), iv_rv_ne (by omega)]
  have hx1 : x ≠ 1 := by omega
  obtain ⟨c1, -⟩ := iv_arrc hR.1 hx1 h0 hn
  have hty : ∃ C : String, (iv_tys dA)[(iv_lay L x).2.1]? = some (dA (iv_lay L x).2.1, .object C) ∧ iv_s q.1 = C := by
    rw [hy1] at g1
    rcases h1 with h1 | h1 <;> rw [h1] at g1 ⊢ <;> cases g1 <;> exact ⟨_, rfl, rfl⟩
  obtain ⟨C, t1, t2⟩ := hty
  obtain ⟨kA, comp, k1, k2, k3, -⟩ := (hR.1.2.2.2.2.2.2.2.2 _ _ t1).2
  rw [t2] at hfc
  have hcomp : comp = D.1 (iv_lay L y).2.1 := Option.some.inj (k3.symm.trans hfc)
  subst hcomp
  have hb2 : Nat.ble 2 (iv_lay L x).2.1 = true := Nat.ble_eq_true_of_le (by omega)
  refine W.aast hx hb c1 (fun q h => by cases h) (fun h => by cases h) k1 k2 rfl hkC ⟨fun q => j1 (Or.inl q), by rw [arrV_size, j2]; exact hlt⟩ v1 (fun q h => by rw [v3] at h; cases h) (by rw [v2]; exact hkC) (by rw [v2]; exact va_assign (C := C) ⟨hfc, kC, hkC, hkind⟩) rfl rfl hd fun H1 a1 a2 a3 => ?_
  rw [j2] at a1 ⊢
  refine kk la H1 _ cells slots (iv_Rel.put hR.tl.tl.tl hx2 rfl a2 a3 ⟨fun q => (by rw [h0] at q; cases q), fun _ => ?_⟩ (fun z hz j => ⟨rfl, iv_updR_ne hz j⟩) hR.1.2.2.2.2.2.1 (iv_updR_le hR.1.2.2.2.2.2.2.1 hyn))
  rw [a1, arrV_store]
  congr 2
  funext j
  unfold iv_slot updV iv_updR
  rw [hb2]
  by_cases ej : j = i.toNat
  · subst ej
    simp only [cond_true, and_self, if_true]
    exact (iv_rv_ne (by omega)).symm
  · simp [ej]
end IVS
end
section
/-! ONE STEP, over the machine: new cells -/
theorem iv_ac_int : Jvm.Cond.arrayClass .int ∈ iv_TB := iv_at_mem (i := 95) (c := (17, 0, 0, 0, 0, 0)) (by decide +kernel)
theorem iv_ac_bool : Jvm.Cond.arrayClass .boolean ∈ iv_TB := iv_at_mem (i := 843) (c := (17, 1, 0, 0, 0, 0)) (by decide +kernel)
section IVS
variable {p : Program} {l : Launch} {e : Env} {R : Room} {s : State} {m : MethodId} {args : Array Value} {below : List Frame} {meth : Method} {c : Code} {Q : State → Prop}
variable {D : va_G} {dA : Nat → ClassId} {L b B0 n0 mi : Nat} {H : Heap} {w : ivS} {la : Array Slot} {ls st : List ivV} {locs : List Loc} {cells slots : Nat}
theorem iv_HR.grow {H1 : Heap} {w1 : ivS} {k : Nat} (h : iv_HR D dA L b B0 s H w) (hn : w1.1 = w.1 + k) (hz : H1.size = H.size + k) (ho : ∀ q, q < H.size → H1[q]? = H[q]?) (hc : ∀ x, w.1 < x → x ≤ w.1 + k → iv_cell D dA L b B0 w1 H1 x)
    (hm : ∀ y, y ≤ w.1 → ∀ j, w1.2.1 y j = w.2.1 y j ∧ w1.2.2 y j = w.2.2 y j) (hi : ∀ y j, iv_in (w1.2.1 y j)) (hr : ∀ y j, w1.2.2 y j ≤ w1.1) : iv_HR D dA L b B0 s H1 w1 := by
  obtain ⟨h1, h2, h3, h4, h5, h6, h7, h8⟩ := h
  refine ⟨by omega, by rw [hz, h2, hn]; omega, h3, ?_, fun y y2 yn => ?_, hi, hr, h8⟩
  · have e : (fun k => Int32.ofInt (w1.2.1 1 k)) = fun k => Int32.ofInt (w.2.1 1 k) := funext fun k => by rw [(hm 1 h1 k).1]
    rw [e]
    exact h4.kept (ho _ (by omega))
  · by_cases e : w.1 < y
    · exact hc y e (by rw [← hn]; exact yn)
    · have hq : H1[iv_ad b B0 y]? = H[iv_ad b B0 y]? := ho _ (by unfold iv_ad; rw [if_neg (by omega)]; omega)
      obtain ⟨c1, c2⟩ := h5 y y2 (by omega)
      have es : ∀ ty j, iv_slot b B0 ty w1 y j = iv_slot b B0 ty w y j := fun ty j => by unfold iv_slot; rw [(hm y (by omega) j).1, (hm y (by omega) j).2]
      refine ⟨fun q => ?_, fun q => ?_⟩
      · exact ((c1 q).kept hq).to fun k _ => (es _ k).symm
      · rw [hq, c2 q]
        simp only [es]
theorem iv_ok_mono {n k : Nat} {v : ivV} (h : iv_ok n v) (hk : n ≤ k) : iv_ok k v := by
  rcases v with x | x | x | x
  · exact h
  · exact h
  · exact Nat.le_trans h hk
  · exact h
theorem iv_Rel.grow {H1 : Heap} {w1 : ivS} {k ns : Nat} (hR : iv_Rel D dA L b B0 n0 (iv_ml mi) s H w la ls st locs cells slots) (hn : w1.1 = w.1 + k) (hs : iv_sl L w1.1 = iv_sl L w.1 + ns) (hz : H1.size = H.size + k) (ho : ∀ q, q < H.size → H1[q]? = H[q]?) (hc : ∀ x, w.1 < x → x ≤ w.1 + k → iv_cell D dA L b B0 w1 H1 x)
    (hm : ∀ y, y ≤ w.1 → ∀ j, w1.2.1 y j = w.2.1 y j ∧ w1.2.2 y j = w.2.2 y j) (hi : ∀ y j, iv_in (w1.2.1 y j)) (hr : ∀ y j, w1.2.2 y j ≤ w1.1) : iv_Rel D dA L b B0 n0 (iv_ml mi) s H1 w1 la ls st locs (cells + k) (slots + ns) := by
  obtain ⟨r1, r2, r3, r4, r5, ⟨r6, r8⟩, r7⟩ := hR
  have hle : w.1 ≤ w1.1 := by omega
  refine ⟨r1.grow hn hz ho hc hm hi hr, r2, fun v hv => iv_ok_mono (r3 v hv) hle, fun v hv => iv_ok_mono (r4 v hv) hle, ⟨by rw [hz]; have := r5.1; omega, fun q h1 h2 => ?_, r5.2.2⟩, ⟨by omega, by omega⟩, r7⟩
  rw [ho q (Nat.lt_of_lt_of_le h1 r5.1)]
  exact r5.2.1 q h1 h2
theorem iv_zer_in {lo hi : Nat} {f : ivM} (h : ∀ y j, iv_in (f y j)) : ∀ y j, iv_in (iv_zer f lo hi y j) := fun y j => by
  unfold iv_zer
  split
  · exact iv_in0
  · exact h y j
theorem iv_zer_old {lo hi y : Nat} {f : ivM} (h : y < lo) (j : Nat) : iv_zer f lo hi y j = f y j := if_neg fun q => by omega
theorem iv_zerR_old {lo hi y : Nat} {f : ivN} (h : y < lo) (j : Nat) : iv_zerR f lo hi y j = f y j := if_neg fun q => by omega
theorem iv_zer_new {lo hi y : Nat} {f : ivM} (h : lo ≤ y) (h2 : y ≤ hi) (j : Nat) : iv_zer f lo hi y j = 0 := if_pos ⟨h, h2⟩
theorem iv_zerR_new {lo hi y : Nat} {f : ivN} (h : lo ≤ y) (h2 : y ≤ hi) (j : Nat) : iv_zerR f lo hi y j = 0 := if_pos ⟨h, h2⟩
theorem iv_zerR_le {lo hi n k : Nat} {f : ivN} (h : ∀ y j, f y j ≤ n) (hk : n ≤ k) : ∀ y j, iv_zerR f lo hi y j ≤ k := fun y j => by
  unfold iv_zerR
  split
  · omega
  · exact Nat.le_trans (h y j) hk
theorem iv_ad_new (h : iv_HR D dA L b B0 s H w) : iv_ad b B0 (w.1 + 1) = H.size := by
  have h1 := h.1
  have h2 := h.2.1
  unfold iv_ad
  rw [if_neg (by omega)]
  omega
theorem iv_s_new {pc idx : Nat} {ee : ivE} (hx : p.tables.exec = Jvm.exec) (hb : c.code = iv_cd mi) (hown : s.vm.findClass (iv_nm mi).cls = some m.cls) (hts : ∀ w ∈ iv_TB, w.before args s = true) (hd : decode (iv_cd mi) pc = .ok (.new idx, 3)) {q : Nat × Nat} (hq : iv_cls[ee.2.2.2.1]? = some q) (hw : Jvm.Cond.classLink (iv_nm mi).cls idx (iv_s q.1) ∈ iv_TB)
    (h0 : (iv_lay L (w.1 + 1)).1 = 0) (h1 : (iv_lay L (w.1 + 1)).2.1 = ee.2.2.2.1) (hc : w.1 + 1 ≤ R.cells + n0) (hs : iv_sl L (w.1 + 1) ≤ R.slots + iv_sl L n0)
    (hR : iv_Rel D dA L b B0 n0 (iv_ml mi) s H w la ls st locs cells slots) (kk : iv_KK p l e R s m args below meth c Q D dA L b B0 n0 mi (pc + 3, ls, ivR (w.1 + 1) :: st, w.1 + 1, iv_zer w.2.1 (w.1 + 1) (w.1 + 1), iv_zerR w.2.2 (w.1 + 1) (w.1 + 1))) :
    iv_G p l e R s m args below meth c Q b B0 H locs cells slots pc la st := by
  obtain ⟨hw1, q', g1, g2⟩ := iv_lay_obj h0
  rw [h1] at g1
  cases hq.symm.trans g1
  obtain ⟨hin, hty, -, hinst, hini⟩ := iv_cg_of hq
  have hKn : u_Kn s (iv_s q.1) (iv_Tf ee.2.2.2.1) q.2 (D.1 ee.2.2.2.1) (D.2 ee.2.2.2.1) := hR.1.2.2.2.2.2.2.2.1 _ _ (iv_cls_of hq).1
  have hsl : iv_sl L (w.1 + 1) = iv_sl L w.1 + q.2 := by show iv_sl L w.1 + (iv_lay L (w.1 + 1)).2.2 = _; rw [g2]
  obtain ⟨r6, r8⟩ := hR.2.2.2.2.2.1
  refine W.newcK hx hb hown (hts _ hw) (hts _ hinst) (hts _ hini) rfl hd (by omega) (by omega) hKn.2.1 rfl fun H1 kC hkC e1 z1 o1 => ?_
  have had := iv_ad_new hR.1
  have hrel := iv_Rel.grow (w1 := (w.1 + 1, iv_zer w.2.1 (w.1 + 1) (w.1 + 1), iv_zerR w.2.2 (w.1 + 1) (w.1 + 1))) hR rfl hsl z1 o1 (fun x hx1 hx2 => ?_) (fun y hy j => ⟨iv_zer_old (by omega) j, iv_zerR_old (by omega) j⟩) (iv_zer_in hR.1.2.2.2.2.2.1) (iv_zerR_le hR.1.2.2.2.2.2.2.1 (by show w.1 ≤ w.1 + 1; omega))
  · have h2 := kk la H1 locs (cells + 1) (slots + q.2) (hrel.cons (v := ivR (w.1 + 1)) (Nat.le_refl _))
    have e2 : iv_cv b B0 (ivR (w.1 + 1)) = .ref H.size := by rw [← had]; exact iv_rv_ne (by omega)
    show W p l e R s m args below meth c H1 locs (cells + 1) (slots + q.2) Q (F0 m (pc + 3) la (.ref H.size :: st.map (iv_cv b B0)))
    rw [← e2]
    exact h2
  · have ex : x = w.1 + 1 := by omega
    subst ex
    refine ⟨fun _ => ?_, fun h' => by rw [h0] at h'; cases h'⟩
    rw [h1, ← g2, had]
    refine (u_born (fun k => ((parseFieldDescriptor (iv_Tf ee.2.2.2.1 k).2.2.1).getD .int)) hts hin hKn hkC e1 (fun k hk => by obtain ⟨t, ht, -⟩ := hty k hk; rw [ht]; rfl)).to fun k hk => ?_
    obtain ⟨t, ht, hk3⟩ := hty k hk
    show defaultValue ((parseFieldDescriptor (iv_Tf ee.2.2.2.1 k).2.2.1).getD .int) = iv_slot b B0 _ _ _ _
    rw [ht]
    unfold iv_slot
    dsimp only
    rw [show (iv_zerR w.2.2 (w.1 + 1) (w.1 + 1) (w.1 + 1) k) = 0 from iv_zerR_new (Nat.le_refl _) (Nat.le_refl _) k, show (iv_zer w.2.1 (w.1 + 1) (w.1 + 1) (w.1 + 1) k) = 0 from iv_zer_new (Nat.le_refl _) (Nat.le_refl _) k]
    rcases hk3 with ⟨a, rfl⟩ | ⟨a, rfl⟩ | ⟨a, ⟨n, rfl⟩ | ⟨n, rfl⟩⟩ <;> rw [a] <;> rfl
/-- an array of ints, of booleans, of references: its cell is new -/
theorem iv_narr {pc len : Nat} {cA : ClassId} {H1 : Heap} (hR : iv_Rel D dA L b B0 n0 (iv_ml mi) s H w la ls st locs cells slots) (h0 : (iv_lay L (w.1 + 1)).1 = 1) (hcA : dA (iv_lay L (w.1 + 1)).2.1 = cA) (e1 : H1[H.size]? = some (arrV cA (iv_lay L (w.1 + 1)).2.2 (fun _ => bif Nat.ble 2 (iv_lay L (w.1 + 1)).2.1 then .null else .int 0))) (z1 : H1.size = H.size + 1) (o1 : ∀ q, q < H.size → H1[q]? = H[q]?) (hlen : len = (iv_lay L (w.1 + 1)).2.2)
    (kk : iv_KK p l e R s m args below meth c Q D dA L b B0 n0 mi (pc, ls, ivR (w.1 + 1) :: st, w.1 + 1, iv_zer w.2.1 (w.1 + 1) (w.1 + 1), iv_zerR w.2.2 (w.1 + 1) (w.1 + 1))) :
    W p l e R s m args below meth c H1 locs (cells + 1) (slots + len) Q (F0 m pc la (.ref H.size :: st.map (iv_cv b B0))) := by
  subst hlen
  have had := iv_ad_new hR.1
  have hrel := iv_Rel.grow (w1 := (w.1 + 1, iv_zer w.2.1 (w.1 + 1) (w.1 + 1), iv_zerR w.2.2 (w.1 + 1) (w.1 + 1))) (ns := (iv_lay L (w.1 + 1)).2.2) hR rfl rfl z1 o1 (fun x hx1 hx2 => ?_) (fun y hy j => ⟨iv_zer_old (by omega) j, iv_zerR_old (by omega) j⟩) (iv_zer_in hR.1.2.2.2.2.2.1) (iv_zerR_le hR.1.2.2.2.2.2.2.1 (by show w.1 ≤ w.1 + 1; omega))
  · have h2 := kk la H1 locs _ _ (hrel.cons (v := ivR (w.1 + 1)) (Nat.le_refl _))
    have e2 : iv_cv b B0 (ivR (w.1 + 1)) = .ref H.size := by rw [← had]; exact iv_rv_ne (by omega)
    rw [← e2]
    exact h2
  · have ex : x = w.1 + 1 := by omega
    subst ex
    refine ⟨fun h' => (by rw [h0] at h'; cases h'), fun _ => ?_⟩
    rw [had, e1, hcA]
    congr 2
    funext j
    unfold iv_slot
    dsimp only
    rw [show (iv_zerR w.2.2 (w.1 + 1) (w.1 + 1) (w.1 + 1) j) = 0 from iv_zerR_new (Nat.le_refl _) (Nat.le_refl _) j, show (iv_zer w.2.1 (w.1 + 1) (w.1 + 1) (w.1 + 1) j) = 0 from iv_zer_new (Nat.le_refl _) (Nat.le_refl _) j]
    rfl
theorem iv_small {x : Int} {n : Nat} (hx : x = n) (hn : n ≤ 1792) : ¬ Int32.ofInt x < 0 ∧ (Int32.ofInt x).toNatClampNeg = n := by
  have hi : iv_in x := by unfold iv_in; omega
  have e : (Int32.ofInt x).toNatClampNeg = x.toNat := by show (Int32.ofInt x).toInt.toNat = x.toNat; rw [iv_of32 hi]
  refine ⟨fun h => ?_, by rw [e]; omega⟩
  rw [← iv_zero32, iv_lt32 hi iv_in0] at h
  omega
theorem iv_s_newarr {pc : Nat} {t : ArrayType} {x : Int} {ee : ivE} (hx : p.tables.exec = Jvm.exec) (hb : c.code = iv_cd mi) (hts : ∀ w ∈ iv_TB, w.before args s = true) (hd : decode (iv_cd mi) pc = .ok (.newarray t, 2)) (ht : ee.2.2.2.1 = 0 ∧ t = .int ∨ ee.2.2.2.1 = 1 ∧ t = .boolean) (hw1 : w.1 + 1 ≠ 1)
    (h0 : (iv_lay L (w.1 + 1)).1 = 1) (h1 : (iv_lay L (w.1 + 1)).2.1 = ee.2.2.2.1) (hlen : x = (iv_lay L (w.1 + 1)).2.2) (hc : w.1 + 1 ≤ R.cells + n0) (hs : iv_sl L (w.1 + 1) ≤ R.slots + iv_sl L n0)
    (hR : iv_Rel D dA L b B0 n0 (iv_ml mi) s H w la ls (ivI x :: st) locs cells slots) (kk : iv_KK p l e R s m args below meth c Q D dA L b B0 n0 mi (pc + 2, ls, ivR (w.1 + 1) :: st, w.1 + 1, iv_zer w.2.1 (w.1 + 1) (w.1 + 1), iv_zerR w.2.2 (w.1 + 1) (w.1 + 1))) :
    iv_G p l e R s m args below meth c Q b B0 H locs cells slots pc la (ivI x :: st) := by
  have h4 := (iv_lay_arr hw1 h0).2
  obtain ⟨n1, n2⟩ := iv_small hlen h4
  obtain ⟨r6, r8⟩ := hR.2.2.2.2.2.1
  have hsl : iv_sl L (w.1 + 1) = iv_sl L w.1 + (iv_lay L (w.1 + 1)).2.2 := rfl
  rcases ht with ⟨a, rfl⟩ | ⟨a, rfl⟩
  · refine va_newaK (atype := .int) hx hb (hts _ iv_ac_int) rfl hd rfl n1 n2 (by show (iv_lay L (w.1 + 1)).2.2 * 4 ≤ _; omega) (by omega) (by omega) rfl fun H1 cA e1 z1 o1 _ hNm => ?_
    rw [a] at h1
    have hcA : dA 0 = cA := Option.some.inj ((hR.1.2.2.2.2.2.2.2.2 0 (dA 0, .int) rfl).2.symm.trans hNm)
    exact iv_narr (cA := cA) hR.tl h0 (by rw [h1]; exact hcA) (by rw [e1, h1]; rfl) z1 o1 rfl kk
  · refine va_newaK (atype := .boolean) hx hb (hts _ iv_ac_bool) rfl hd rfl n1 n2 (by show (iv_lay L (w.1 + 1)).2.2 * 1 ≤ _; omega) (by omega) (by omega) rfl fun H1 cA e1 z1 o1 _ hNm => ?_
    rw [a] at h1
    have hcA : dA 1 = cA := Option.some.inj ((hR.1.2.2.2.2.2.2.2.2 1 (dA 1, .boolean) rfl).2.symm.trans hNm)
    exact iv_narr (cA := cA) hR.tl h0 (by rw [h1]; exact hcA) (by rw [e1, h1]; rfl) z1 o1 rfl kk
theorem iv_s_anew {pc idx : Nat} {x : Int} {C : String} {k : Nat} (hx : p.tables.exec = Jvm.exec) (hb : c.code = iv_cd mi) (hown : s.vm.findClass (iv_nm mi).cls = some m.cls) (hd : decode (iv_cd mi) pc = .ok (.anewarray idx, 3)) (hw : (Jvm.Cond.classLink (iv_nm mi).cls idx C).before args s = true) (hAO : va_AO C s) (hk : k = 2 ∨ k = 3) (htk : (iv_tys dA)[k]? = some (dA k, .object C)) (hw1 : w.1 + 1 ≠ 1)
    (h0 : (iv_lay L (w.1 + 1)).1 = 1) (h1 : (iv_lay L (w.1 + 1)).2.1 = k) (hlen : x = (iv_lay L (w.1 + 1)).2.2) (hc : w.1 + 1 ≤ R.cells + n0) (hs : iv_sl L (w.1 + 1) ≤ R.slots + iv_sl L n0)
    (hR : iv_Rel D dA L b B0 n0 (iv_ml mi) s H w la ls (ivI x :: st) locs cells slots) (kk : iv_KK p l e R s m args below meth c Q D dA L b B0 n0 mi (pc + 3, ls, ivR (w.1 + 1) :: st, w.1 + 1, iv_zer w.2.1 (w.1 + 1) (w.1 + 1), iv_zerR w.2.2 (w.1 + 1) (w.1 + 1))) :
    iv_G p l e R s m args below meth c Q b B0 H locs cells slots pc la (ivI x :: st) := by
  have h4 := (iv_lay_arr hw1 h0).2
  obtain ⟨n1, n2⟩ := iv_small hlen h4
  obtain ⟨r6, r8⟩ := hR.2.2.2.2.2.1
  have hsl : iv_sl L (w.1 + 1) = iv_sl L w.1 + (iv_lay L (w.1 + 1)).2.2 := rfl
  refine W.anew hx hb hown hw (va_AO.use hAO) rfl hd rfl n1 (by rw [n2]; omega) (by omega) (by rw [n2]; omega) fun cA kA comp f1 f2 f3 f4 => ?_
  rw [n2]
  generalize hH1 : H.push ({ cls := cA, slots := Array.replicate (iv_lay L (w.1 + 1)).2.2 .null, vm := .none } : Cell) = H1
  have z1 : H1.size = H.size + 1 := by rw [← hH1, Array.size_push]
  have e1 : H1[H.size]? = some (arrV cA (iv_lay L (w.1 + 1)).2.2 (fun _ => .null)) := by rw [← hH1, Array.getElem?_push_size, ← arrV_new]
  have o1 : ∀ q : Nat, q < H.size → H1[q]? = H[q]? := fun q hq => by rw [← hH1, Array.getElem?_push, if_neg (Nat.ne_of_lt hq)]
  obtain ⟨kA', comp', -, -, -, k4⟩ := (hR.1.2.2.2.2.2.2.2.2 _ _ htk).2
  have hcA : dA k = cA := Option.some.inj (k4.symm.trans f1)
  have hb2 : Nat.ble 2 k = true := Nat.ble_eq_true_of_le (by omega)
  exact iv_narr (cA := cA) hR.tl h0 (by rw [h1]; exact hcA) (by rw [e1, h1, hb2]; rfl) z1 o1 rfl kk
theorem iv_outer (cA : ClassId) (N h0 : Nat) : ∀ i : Nat, Jvm.Free.Multi.outerC cA N h0 i = arrV cA N (fun j => if j < i then .ref (h0 + 1 + j) else .null)
  | 0 => (arrV_new cA N .null).trans (congrArg (arrV cA N) (funext fun j => (if_neg (Nat.not_lt_zero j)).symm))
  | i + 1 => by
    show (Jvm.Free.Multi.outerC cA N h0 i).setSlot i (.ref (h0 + 1 + i)) = _
    rw [iv_outer cA N h0 i, arrV_store]
    refine congrArg (arrV cA N) (funext fun j => ?_)
    unfold updV
    by_cases ej : j = i
    · rw [if_pos ej, if_pos (by omega), ej]
    · rw [if_neg ej]
      by_cases h : j < i
      · exact (if_pos h).trans (if_pos (show j < i + 1 by omega)).symm
      · exact (if_neg h).trans (if_neg (show ¬ j < i + 1 by omega)).symm
theorem iv_s_mna {pc idx : Nat} (hx : p.tables.exec = Jvm.exec) (hb : c.code = iv_cd mi) (hown : s.vm.findClass (iv_nm mi).cls = some m.cls) (hts : ∀ w ∈ iv_TB, w.before args s = true) (hd : decode (iv_cd mi) pc = .ok (.multianewarray idx 2, 4)) (hw : (Jvm.Cond.classLink (iv_nm mi).cls idx "[[I").before args s = true) (hAO : iv_AOA s)
    (h6 : iv_six L w.1 = true) (hc : w.1 + 7 ≤ R.cells + n0) (hs : iv_sl L (w.1 + 7) ≤ R.slots + iv_sl L n0)
    (hR : iv_Rel D dA L b B0 n0 (iv_ml mi) s H w la ls (ivI 6 :: ivI 6 :: st) locs cells slots) (kk : iv_KK p l e R s m args below meth c Q D dA L b B0 n0 mi (pc + 4, ls, ivR (w.1 + 1) :: st, w.1 + 7, iv_zer w.2.1 (w.1 + 1) (w.1 + 7), iv_row (iv_zerR w.2.2 (w.1 + 1) (w.1 + 7)) (w.1 + 1) 6)) :
    iv_G p l e R s m args below meth c Q b B0 H locs cells slots pc la (ivI 6 :: ivI 6 :: st) := by
  unfold iv_six at h6
  simp only [Bool.and_eq_true, decide_eq_true_eq] at h6
  obtain ⟨l1, l2, l3, l4, l5, l6, l7⟩ := h6
  have hsl : iv_sl L (w.1 + 7) = iv_sl L w.1 + 42 := by
    show ((((((iv_sl L w.1 + (iv_lay L (w.1 + 1)).2.2) + (iv_lay L (w.1 + 2)).2.2) + (iv_lay L (w.1 + 3)).2.2) + (iv_lay L (w.1 + 4)).2.2) + (iv_lay L (w.1 + 5)).2.2) + (iv_lay L (w.1 + 6)).2.2) + (iv_lay L (w.1 + 7)).2.2 = _
    have e1 : (iv_lay L (w.1 + 1)).2.2 = 6 := by rw [l1]
    have e2 : (iv_lay L (w.1 + 2)).2.2 = 6 := by rw [l2]
    have e3 : (iv_lay L (w.1 + 3)).2.2 = 6 := by rw [l3]
    have e4 : (iv_lay L (w.1 + 4)).2.2 = 6 := by rw [l4]
    have e5 : (iv_lay L (w.1 + 5)).2.2 = 6 := by rw [l5]
    have e6 : (iv_lay L (w.1 + 6)).2.2 = 6 := by rw [l6]
    have e7 : (iv_lay L (w.1 + 7)).2.2 = 6 := by rw [l7]
    rw [e1, e2, e3, e4, e5, e6, e7]
  obtain ⟨r6, r8⟩ := hR.2.2.2.2.2.1
  intro T hT X
  obtain ⟨vm₁, cA, comp, -, fA, fC, -, -, X', step⟩ := Jvm.Stand.multianewarray2F X hx (ty := .int) hown hw hAO (hts _ iv_ac_int) (g := F0 m pc la (.int 6 :: .int 6 :: st.map (iv_cv b B0))) (n := 6) (k := 6) rfl (by rw [hb]; exact hd) rfl (by decide) (by decide) (by decide) (by decide) (by decide) rfl rfl (show cells + 7 ≤ R.cells by omega) (show slots + 42 ≤ R.slots by omega)
  have hcA : dA 4 = cA := Option.some.inj ((hR.1.2.2.2.2.2.2.2.2 4 (dA 4, .array .int) rfl).2.symm.trans fA)
  have hcI : dA 0 = comp := Option.some.inj ((hR.1.2.2.2.2.2.2.2.2 0 (dA 0, .int) rfl).2.symm.trans fC)
  obtain ⟨f1, f2, -, -⟩ := Jvm.Free.Multi.fill_facts (T.setVm vm₁) cA comp 6 6 (.int 0) 6
  have f3 := fun (a : Addr) (ha : a < (T.setVm vm₁).heap.size) => Jvm.Free.Multi.fill_old (T.setVm vm₁) cA comp 6 6 (.int 0) (a := a) ha 6
  have f4 := Jvm.Free.Multi.fill_inner (T.setVm vm₁) cA comp 6 6 (.int 0) 6
  have hTh : (T.setVm vm₁).heap = H := hT
  rw [hTh] at f1 f2 f3 f4
  have had := iv_ad_new hR.1
  have hadj : ∀ j : Nat, iv_ad b B0 (w.1 + 1 + 1 + j) = H.size + 1 + j := fun j => by
    have g1 := hR.1.1
    have g2 := hR.1.2.1
    unfold iv_ad
    rw [if_neg (by omega)]
    omega
  rw [iv_outer] at f2
  have hrel := iv_Rel.grow (H1 := (Jvm.Free.Multi.fill (T.setVm vm₁) cA comp 6 6 (.int 0) 6).heap) (w1 := (w.1 + 7, iv_zer w.2.1 (w.1 + 1) (w.1 + 7), iv_row (iv_zerR w.2.2 (w.1 + 1) (w.1 + 7)) (w.1 + 1) 6)) (k := 7) (ns := 42) hR.tl.tl rfl hsl (by rw [f1]) f3 (fun x hx1 hx2 => ?_) (fun y hy j => ⟨iv_zer_old (by omega) j, ?_⟩) (iv_zer_in hR.1.2.2.2.2.2.1) (fun y j => ?_)
  · have h2 := kk la _ locs _ _ (hrel.cons (v := ivR (w.1 + 1)) (show w.1 + 1 ≤ w.1 + 7 by omega))
    obtain ⟨t, a1, b1⟩ := h2 _ rfl X'
    refine ⟨t, step t ?_, b1⟩
    have e2 : iv_cv b B0 (ivR (w.1 + 1)) = .ref T.heap.size := by rw [hT, ← had]; exact iv_rv_ne (by omega)
    rw [← e2]
    exact a1
  · by_cases ex : x = w.1 + 1
    · subst ex
      refine ⟨fun h' => (by rw [l1] at h'; cases h'), fun _ => ?_⟩
      rw [l1, had, f2, hcA]
      refine congrArg some (congrArg (arrV cA 6) (funext fun j => ?_))
      show _ = iv_rv b B0 (iv_row (iv_zerR w.2.2 (w.1 + 1) (w.1 + 7)) (w.1 + 1) 6 (w.1 + 1) j)
      unfold iv_row
      rw [if_pos rfl]
      show (if j < 6 then Value.ref (H.size + 1 + j) else .null) = iv_rv b B0 (if j < 6 then w.1 + 1 + 1 + j else 0)
      by_cases hj : j < 6
      · rw [if_pos hj, if_pos hj, iv_rv_ne (by omega), hadj]
      · rw [if_neg hj, if_neg hj]; rfl
    · have hlx : iv_lay L x = (1, 0, 6) := by
        rcases (by omega : x = w.1 + 2 ∨ x = w.1 + 3 ∨ x = w.1 + 4 ∨ x = w.1 + 5 ∨ x = w.1 + 6 ∨ x = w.1 + 7) with e | e | e | e | e | e
        · rw [e]; exact l2
        · rw [e]; exact l3
        · rw [e]; exact l4
        · rw [e]; exact l5
        · rw [e]; exact l6
        · rw [e]; exact l7
      obtain ⟨j, hj⟩ : ∃ j, x = w.1 + 1 + 1 + j := ⟨x - (w.1 + 2), by omega⟩
      refine ⟨fun h' => (by rw [hlx] at h'; cases h'), fun _ => ?_⟩
      rw [hlx, hj, hadj, f4 j (by omega), hcI]
      refine congrArg some ((arrV_new comp 6 (.int 0)).trans (congrArg (arrV comp 6) (funext fun k => ?_)))
      show _ = Value.int (Int32.ofInt (iv_zer w.2.1 (w.1 + 1) (w.1 + 7) (w.1 + 1 + 1 + j) k))
      rw [show (iv_zer w.2.1 (w.1 + 1) (w.1 + 7) (w.1 + 1 + 1 + j) k) = 0 from iv_zer_new (by omega) (by omega) k]
      rfl
  · show iv_row (iv_zerR w.2.2 (w.1 + 1) (w.1 + 7)) (w.1 + 1) 6 y j = w.2.2 y j
    unfold iv_row
    rw [if_neg (by omega)]
    exact iv_zerR_old (by omega) j
  · show iv_row (iv_zerR w.2.2 (w.1 + 1) (w.1 + 7)) (w.1 + 1) 6 y j ≤ w.1 + 7
    unfold iv_row
    split
    · split <;> omega
    · exact iv_zerR_le hR.1.2.2.2.2.2.2.1 (by omega) y j
end IVS
end
section
/-! ONE STEP, all instructions -/
theorem iv_bif {α : Type} {bb : Bool} {x : α} {g : α} (h : (bif bb then some x else none) = some g) : bb = true ∧ x = g := by
  cases bb
  · cases h
  · exact ⟨rfl, Option.some.inj h⟩
theorem iv_bifn {α : Type} {bb : Bool} {x : α} {g : α} (h : (bif bb then none else some x) = some g) : bb = false ∧ x = g := by
  cases bb
  · exact ⟨rfl, Option.some.inj h⟩
  · cases h
theorem iv_ofNat32 {c : Int} (h : 0 ≤ c) : Int32.ofNat c.toNat = Int32.ofInt c := by
  rw [← Int32.ofInt_eq_ofNat]
  congr 1
  omega
theorem iv_ofNat64 {c : Int} (h : 0 ≤ c) : Int64.ofNat c.toNat = Int64.ofInt c := by
  rw [← Int64.ofInt_eq_ofNat]
  congr 1
  omega
theorem iv_memA {own idx k : Nat} {C : String} (h : iv_s k = C) (hm : iv_wd (2, own, idx, k, 0, 0) ∈ iv_TB) : Jvm.Cond.classLink (iv_s own) idx C ∈ iv_TB := h ▸ hm
theorem iv_blt {a b : Nat} (h : Nat.blt a b = true) : a < b := Nat.le_of_ble_eq_true h
section IVS
variable {p : Program} {l : Launch} {e : Env} {R : Room} {s : State} {m : MethodId} {args : Array Value} {below : List Frame} {meth : Method} {c : Code} {Q : State → Prop}
variable {D : va_G} {dA : Nat → ClassId} {L b B0 n0 mi : Nat} {H : Heap} {w : ivS} {la : Array Slot} {ls st : List ivV} {locs : List Loc} {cells slots : Nat}
theorem iv_s_putI {pc idx x : Nat} {ee : ivE} {v : Int} (hx : p.tables.exec = Jvm.exec) (hb : c.code = iv_cd mi) (hown : s.vm.findClass (iv_nm mi).cls = some m.cls) (hts : ∀ w ∈ iv_TB, w.before args s = true) (hname : (iv_nm mi).name = "<init>" → meth.name = "<init>") (hd : decode (iv_cd mi) pc = .ok (.putfield idx, 3)) (hg : iv_gf mi ee idx = true) (hgp : iv_gp mi ee = true)
    (h0 : (iv_lay L x).1 = 0) (h1 : (iv_lay L x).2.1 = ee.2.2.2.1) (hn : x ≤ w.1) (hk : (Nat.beq (iv_fty ee.2.2.2.1 ee.2.2.2.2.1) 0 || Nat.beq (iv_fty ee.2.2.2.1 ee.2.2.2.2.1) 1 && (decide (v = 0) || decide (v = 1))) = true)
    (hR : iv_Rel D dA L b B0 n0 (iv_ml mi) s H w la ls (ivI v :: ivR x :: st) locs cells slots) (kk : iv_KK p l e R s m args below meth c Q D dA L b B0 n0 mi (pc + 3, ls, st, w.1, iv_upd w.2.1 x ee.2.2.2.2.1 v, w.2.2)) :
    iv_G p l e R s m args below meth c Q b B0 H locs cells slots pc la (ivI v :: ivR x :: st) := by
  have hv : iv_in v := hR.hd
  have hk1 : iv_fty ee.2.2.2.1 ee.2.2.2.2.1 = 0 ∨ iv_fty ee.2.2.2.1 ee.2.2.2.2.1 = 1 ∧ (v = 0 ∨ v = 1) := by
    simp only [Bool.or_eq_true, Bool.and_eq_true, decide_eq_true_eq] at hk
    exact hk.imp Nat.eq_of_beq_eq_true (fun h => ⟨Nat.eq_of_beq_eq_true h.1, h.2⟩)
  refine iv_s_put (v := ivI v) (w1 := (w.1, iv_upd w.2.1 x ee.2.2.2.2.1 v, w.2.2)) hx hb hown hts hname hd hg hgp h0 h1 hn (fun t ht hc => ?_) rfl (fun y hy k => ⟨iv_upd_ne hy k, rfl⟩) (iv_upd_in hR.1.2.2.2.2.2.1 hv) hR.1.2.2.2.2.2.2.1 (fun k => ?_) hR kk
  · rcases hc with ⟨a, rfl⟩ | ⟨a, rfl⟩ | ⟨a, -⟩
    · exact ⟨rfl, rfl⟩
    · rcases hk1 with h | h
      · rw [a] at h; cases h
      · exact iv_bool h.2
    · rcases hk1 with h | h
      · rw [a] at h; cases h
      · rw [a] at h; cases h.1
  · unfold iv_slot iv_upd
    by_cases e : k = ee.2.2.2.2.1
    · subst e
      have hb2 : Nat.ble 2 (iv_fty ee.2.2.2.1 ee.2.2.2.2.1) = false := by rcases hk1 with h | h <;> first | rw [h]; rfl | rw [h.1]; rfl
      rw [hb2, if_pos rfl]
      simp only [cond_false, and_self, if_true]
      rfl
    · rw [if_neg e]
      simp only [e, and_false, if_false]
theorem iv_s_putR {pc idx x y : Nat} {ee : ivE} (hx : p.tables.exec = Jvm.exec) (hb : c.code = iv_cd mi) (hown : s.vm.findClass (iv_nm mi).cls = some m.cls) (hts : ∀ w ∈ iv_TB, w.before args s = true) (hname : (iv_nm mi).name = "<init>" → meth.name = "<init>") (hd : decode (iv_cd mi) pc = .ok (.putfield idx, 3)) (hg : iv_gf mi ee idx = true) (hgp : iv_gp mi ee = true)
    (h0 : (iv_lay L x).1 = 0) (h1 : (iv_lay L x).2.1 = ee.2.2.2.1) (hn : x ≤ w.1) (hk : 2 ≤ iv_fty ee.2.2.2.1 ee.2.2.2.2.1)
    (hR : iv_Rel D dA L b B0 n0 (iv_ml mi) s H w la ls (ivR y :: ivR x :: st) locs cells slots) (kk : iv_KK p l e R s m args below meth c Q D dA L b B0 n0 mi (pc + 3, ls, st, w.1, w.2.1, iv_updR w.2.2 x ee.2.2.2.2.1 y)) :
    iv_G p l e R s m args below meth c Q b B0 H locs cells slots pc la (ivR y :: ivR x :: st) := by
  have hy : y ≤ w.1 := hR.hd
  refine iv_s_put (v := ivR y) (w1 := (w.1, w.2.1, iv_updR w.2.2 x ee.2.2.2.2.1 y)) hx hb hown hts hname hd hg hgp h0 h1 hn (fun t ht hc => ?_) rfl (fun z hz k => ⟨rfl, iv_updR_ne hz k⟩) hR.1.2.2.2.2.2.1 (iv_updR_le hR.1.2.2.2.2.2.2.1 hy) (fun k => ?_) hR kk
  · show narrow t (iv_rv b B0 y) = iv_rv b B0 y ∧ fits t (iv_rv b B0 y) = true
    unfold iv_rv
    rcases hc with ⟨a, rfl⟩ | ⟨a, rfl⟩ | ⟨a, ⟨n, rfl⟩ | ⟨n, rfl⟩⟩
    · rw [a] at hk; omega
    · rw [a] at hk; omega
    · split <;> exact ⟨rfl, rfl⟩
    · split <;> exact ⟨rfl, rfl⟩
  · unfold iv_slot iv_updR
    by_cases e : k = ee.2.2.2.2.1
    · subst e
      rw [Nat.ble_eq_true_of_le hk, if_pos rfl]
      simp only [cond_true, and_self, if_true]
      rfl
    · rw [if_neg e]
      simp only [e, and_false, if_false]
set_option maxHeartbeats 4000000 in
/-- one step -/
theorem iv_step_snd (cx : iv_cx p R s m args meth c mi) (hmi : mi < 171) {pc : Nat} {ee : ivE} {g : Nat × List ivV × List ivV × ivS} (hi : iv_ins mi pc = some ee) (hs : iv_step L pc ee ls st w = some g) (hL : L ≤ 2048) (hgc : g.2.2.2.1 ≤ R.cells + n0) (hgs : iv_sl L g.2.2.2.1 ≤ R.slots + iv_sl L n0)
    (hR : iv_Rel D dA L b B0 n0 (iv_ml mi) s H w la ls st locs cells slots) (kk : iv_KK p l e R s m args below meth c Q D dA L b B0 n0 mi g) : iv_G p l e R s m args below meth c Q b B0 H locs cells slots pc la st := by
  obtain ⟨hd, hg, hep⟩ := iv_good_of (iv_good_any mi hmi) hi
  obtain ⟨hx, hb, hr, hml, hown, hts, hT, hlocks, hname, hrf, hrl⟩ := cx
  obtain ⟨ep, ei, el, ea, eb, ec, ew⟩ := ee
  clear hi
  dsimp only at hd hg hs hep
  cases ei with
  | iconst x =>
    simp only [iv_gi, Bool.and_eq_true] at hg
    obtain rfl := Nat.eq_of_beq_eq_true hg.1
    simp only [iv_step, Option.some.injEq] at hs
    subst hs
    exact lv_iconst hx hb hd rfl (iv_push (v := ivI x) hR rfl (iv_inb_of hg.2) kk)
  | bipush x =>
    simp only [iv_gi, Bool.and_eq_true] at hg
    obtain rfl := Nat.eq_of_beq_eq_true hg.1.1
    simp only [iv_step, Option.some.injEq] at hs
    subst hs
    exact lv_bipush hx hb hd (of_decide_eq_true hg.2) (iv_push (v := ivI x) hR rfl (iv_inb_of hg.1.2) kk)
  | sipush x =>
    simp only [iv_gi, Bool.and_eq_true] at hg
    obtain rfl := Nat.eq_of_beq_eq_true hg.1.1
    simp only [iv_step, Option.some.injEq] at hs
    subst hs
    exact lv_sipush hx hb hd (of_decide_eq_true hg.2) (iv_push (v := ivI x) hR rfl (iv_inb_of hg.1.2) kk)
  | lconst x =>
    simp only [iv_gi] at hg
    obtain rfl := Nat.eq_of_beq_eq_true hg
    simp only [iv_step, Option.some.injEq] at hs
    subst hs
    exact lv_lconst hx hb hd rfl (iv_push (v := ivJ (Int.ofNat x.val)) hR (congrArg Value.long (Int64.ofInt_eq_ofNat (n := x.val)).symm) (show iv_il (Int.ofNat x.val) from ⟨by have := x.isLt; simp only [Int.ofNat_eq_natCast]; omega, by have := x.isLt; simp only [Int.ofNat_eq_natCast]; omega⟩) kk)
  | ldc idx =>
    simp only [iv_gi, Bool.and_eq_true] at hg
    obtain ⟨⟨⟨h1, h2⟩, h3⟩, h4⟩ := hg
    obtain rfl := Nat.eq_of_beq_eq_true h1
    simp only [iv_step, Option.some.injEq] at hs
    subst hs
    exact lv_ldc hx hb hown (hts _ (iv_at_mem h4)) hd (iv_push (v := ivI ec) hR (congrArg Value.int (iv_ofNat32 (of_decide_eq_true h3))) (iv_inb_of h2) kk)
  | ldc_w idx =>
    simp only [iv_gi, Bool.and_eq_true] at hg
    obtain ⟨⟨⟨h1, h2⟩, h3⟩, h4⟩ := hg
    obtain rfl := Nat.eq_of_beq_eq_true h1
    simp only [iv_step, Option.some.injEq] at hs
    subst hs
    exact lv_ldcw hx hb hown (hts _ (iv_at_mem h4)) hd (iv_push (v := ivI ec) hR (congrArg Value.int (iv_ofNat32 (of_decide_eq_true h3))) (iv_inb_of h2) kk)
  | ldc2_w idx =>
    simp only [iv_gi, Bool.and_eq_true] at hg
    obtain ⟨⟨⟨h1, h2⟩, h3⟩, h4⟩ := hg
    obtain rfl := Nat.eq_of_beq_eq_true h1
    simp only [iv_step, Option.some.injEq] at hs
    subst hs
    exact lv_ldc2 hx hb hown (hts _ (iv_at_mem h4)) hd (iv_push (v := ivJ ec) hR (congrArg Value.long (iv_ofNat64 (of_decide_eq_true h3))) (iv_ilb_of h2) kk)
  | iload_n k =>
    simp only [iv_gi] at hg
    obtain rfl := Nat.eq_of_beq_eq_true hg
    simp only [iv_step] at hs
    split at hs
    · rename_i x hk
      simp only [Option.some.injEq] at hs
      subst hs
      obtain ⟨h1, h2⟩ := hR.loc (iv_getD hk iv_ne1) iv_ne1
      exact lv_iload_n hx hb hd rfl h1 (iv_push (v := ivI x) hR rfl h2 kk)
    · cases hs
  | iload k =>
    simp only [iv_gi] at hg
    obtain rfl := Nat.eq_of_beq_eq_true hg
    simp only [iv_step] at hs
    split at hs
    · rename_i x hk
      simp only [Option.some.injEq] at hs
      subst hs
      obtain ⟨h1, h2⟩ := hR.loc (iv_getD hk iv_ne1) iv_ne1
      exact lv_iload hx hb hd h1 (iv_push (v := ivI x) hR rfl h2 kk)
    · cases hs
  | lload_n k =>
    simp only [iv_gi] at hg
    obtain rfl := Nat.eq_of_beq_eq_true hg
    simp only [iv_step] at hs
    split at hs
    · rename_i x hk
      simp only [Option.some.injEq] at hs
      subst hs
      obtain ⟨h1, h2⟩ := hR.loc (iv_getD hk iv_ne2) iv_ne2
      exact lv_lload_n hx hb hd rfl h1 (iv_push (v := ivJ x) hR rfl h2 kk)
    · cases hs
  | lload k =>
    simp only [iv_gi] at hg
    obtain rfl := Nat.eq_of_beq_eq_true hg
    simp only [iv_step] at hs
    split at hs
    · rename_i x hk
      simp only [Option.some.injEq] at hs
      subst hs
      obtain ⟨h1, h2⟩ := hR.loc (iv_getD hk iv_ne2) iv_ne2
      exact lv_lload hx hb hd h1 (iv_push (v := ivJ x) hR rfl h2 kk)
    · cases hs
  | aload_n k =>
    simp only [iv_gi] at hg
    obtain rfl := Nat.eq_of_beq_eq_true hg
    simp only [iv_step] at hs
    split at hs
    · rename_i x hk
      simp only [Option.some.injEq] at hs
      subst hs
      exact iv_alo_n hx hb hd hk hR kk
    · cases hs
  | aload k =>
    simp only [iv_gi] at hg
    obtain rfl := Nat.eq_of_beq_eq_true hg
    simp only [iv_step] at hs
    split at hs
    · rename_i x hk
      simp only [Option.some.injEq] at hs
      subst hs
      exact iv_alo hx hb hd hk hR kk
    · cases hs
  | istore_n k =>
    simp only [iv_gi] at hg
    obtain rfl := Nat.eq_of_beq_eq_true hg
    simp only [iv_step] at hs
    split at hs
    · rename_i x st'
      obtain ⟨h1, rfl⟩ := iv_bif hs
      exact iv_sto_n hx hb hd (iv_blt h1) hR kk
    · cases hs
  | istore k =>
    simp only [iv_gi] at hg
    obtain rfl := Nat.eq_of_beq_eq_true hg
    simp only [iv_step] at hs
    split at hs
    · rename_i x st'
      obtain ⟨h1, rfl⟩ := iv_bif hs
      exact iv_sto hx hb hd (iv_blt h1) hR kk
    · cases hs
  | astore_n k =>
    simp only [iv_gi] at hg
    obtain rfl := Nat.eq_of_beq_eq_true hg
    simp only [iv_step] at hs
    split at hs
    · rename_i x st'
      obtain ⟨h1, rfl⟩ := iv_bif hs
      exact iv_asto_n hx hb hd (iv_blt h1) hR kk
    · cases hs
  | astore k =>
    simp only [iv_gi] at hg
    obtain rfl := Nat.eq_of_beq_eq_true hg
    simp only [iv_step] at hs
    split at hs
    · rename_i x st'
      obtain ⟨h1, rfl⟩ := iv_bif hs
      exact iv_asto hx hb hd (iv_blt h1) hR kk
    · cases hs
  | iinc k d =>
    simp only [iv_gi] at hg
    obtain rfl := Nat.eq_of_beq_eq_true hg
    simp only [iv_step] at hs
    split at hs
    · rename_i x hk
      obtain ⟨h1, rfl⟩ := iv_bif hs
      exact iv_s_iinc hx hb hd hk (iv_blt h1) hR kk
    · cases hs
  | iadd =>
    simp only [iv_gi] at hg
    obtain rfl := Nat.eq_of_beq_eq_true hg
    simp only [iv_step] at hs
    split at hs
    · rename_i y x st'
      simp only [Option.some.injEq] at hs
      subst hs
      exact lv_iadd hx hb hd (iv_bin hR (by rw [← Int32.ofInt_add]; exact (iv_wr_of _).symm) (iv_in32 _) kk)
    · cases hs
  | isub =>
    simp only [iv_gi] at hg
    obtain rfl := Nat.eq_of_beq_eq_true hg
    simp only [iv_step] at hs
    split at hs
    · rename_i y x st'
      simp only [Option.some.injEq] at hs
      subst hs
      exact lv_isub hx hb hd (iv_bin hR (by rw [← Int32.ofInt_sub]; exact (iv_wr_of _).symm) (iv_in32 _) kk)
    · cases hs
  | imul =>
    simp only [iv_gi] at hg
    obtain rfl := Nat.eq_of_beq_eq_true hg
    simp only [iv_step] at hs
    split at hs
    · rename_i y x st'
      simp only [Option.some.injEq] at hs
      subst hs
      exact lv_imul hx hb hd (iv_bin hR (by rw [← Int32.ofInt_mul]; exact (iv_wr_of _).symm) (iv_in32 _) kk)
    · cases hs
  | iand =>
    simp only [iv_gi] at hg
    obtain rfl := Nat.eq_of_beq_eq_true hg
    simp only [iv_step] at hs
    split at hs
    · rename_i y x st'
      simp only [Option.some.injEq] at hs
      subst hs
      exact lv_iand hx hb hd (iv_bin hR (iv_back32 _).symm (iv_in32 _) kk)
    · cases hs
  | ior =>
    simp only [iv_gi] at hg
    obtain rfl := Nat.eq_of_beq_eq_true hg
    simp only [iv_step] at hs
    split at hs
    · rename_i y x st'
      simp only [Option.some.injEq] at hs
      subst hs
      exact lv_ior hx hb hd (iv_bin hR (iv_back32 _).symm (iv_in32 _) kk)
    · cases hs
  | ixor =>
    simp only [iv_gi] at hg
    obtain rfl := Nat.eq_of_beq_eq_true hg
    simp only [iv_step] at hs
    split at hs
    · rename_i y x st'
      simp only [Option.some.injEq] at hs
      subst hs
      exact lv_ixor hx hb hd (iv_bin hR (iv_back32 _).symm (iv_in32 _) kk)
    · cases hs
  | ishl =>
    simp only [iv_gi] at hg
    obtain rfl := Nat.eq_of_beq_eq_true hg
    simp only [iv_step] at hs
    split at hs
    · rename_i y x st'
      simp only [Option.some.injEq] at hs
      subst hs
      exact lv_ishl hx hb hd (iv_bin hR (iv_back32 _).symm (iv_in32 _) kk)
    · cases hs
  | ishr =>
    simp only [iv_gi] at hg
    obtain rfl := Nat.eq_of_beq_eq_true hg
    simp only [iv_step] at hs
    split at hs
    · rename_i y x st'
      simp only [Option.some.injEq] at hs
      subst hs
      exact lv_ishr hx hb hd (iv_bin hR (iv_back32 _).symm (iv_in32 _) kk)
    · cases hs
  | iushr =>
    simp only [iv_gi] at hg
    obtain rfl := Nat.eq_of_beq_eq_true hg
    simp only [iv_step] at hs
    split at hs
    · rename_i y x st'
      simp only [Option.some.injEq] at hs
      subst hs
      exact lv_iushr hx hb hd rfl (iv_bin hR (iv_back32 _).symm (iv_in32 _) kk)
    · cases hs
  | idiv =>
    simp only [iv_gi] at hg
    obtain rfl := Nat.eq_of_beq_eq_true hg
    simp only [iv_step] at hs
    split at hs
    · rename_i y x st'
      obtain ⟨h1, rfl⟩ := iv_bifn hs
      have hy : iv_in y := hR.hd
      refine lv_idiv hx hb hd (fun h => ?_) (iv_bin hR (iv_back32 _).symm (iv_in32 _) kk)
      rw [← iv_zero32, iv_eq32 hy iv_in0] at h
      rw [decide_eq_true h] at h1
      cases h1
    · cases hs
  | irem =>
    simp only [iv_gi] at hg
    obtain rfl := Nat.eq_of_beq_eq_true hg
    simp only [iv_step] at hs
    split at hs
    · rename_i y x st'
      obtain ⟨h1, rfl⟩ := iv_bifn hs
      have hy : iv_in y := hR.hd
      refine lv_irem hx hb hd (fun h => ?_) (iv_bin hR (iv_back32 _).symm (iv_in32 _) kk)
      rw [← iv_zero32, iv_eq32 hy iv_in0] at h
      rw [decide_eq_true h] at h1
      cases h1
    · cases hs
  | ineg =>
    simp only [iv_gi] at hg
    obtain rfl := Nat.eq_of_beq_eq_true hg
    simp only [iv_step] at hs
    split at hs
    · rename_i x st'
      simp only [Option.some.injEq] at hs
      subst hs
      exact lv_ineg hx hb hd (iv_push (v := ivI (iv_wr (-x))) hR.tl (congrArg Value.int (by rw [iv_wr_of, Int32.ofInt_neg])) (iv_in32 _) kk)
    · cases hs
  | i2l =>
    simp only [iv_gi] at hg
    obtain rfl := Nat.eq_of_beq_eq_true hg
    simp only [iv_step] at hs
    split at hs
    · rename_i x st'
      simp only [Option.some.injEq] at hs
      subst hs
      have hxx : iv_in x := hR.hd
      exact lv_i2l hx hb hd (iv_i2l hxx) (iv_push (v := ivJ x) hR.tl rfl (iv_in_il hxx) kk)
    · cases hs
  | l2i =>
    simp only [iv_gi] at hg
    obtain rfl := Nat.eq_of_beq_eq_true hg
    simp only [iv_step] at hs
    split at hs
    · rename_i x st'
      simp only [Option.some.injEq] at hs
      subst hs
      exact lv_l2i hx hb hd (iv_l2i x) (iv_push (v := ivI (iv_wr x)) hR.tl (congrArg Value.int (iv_wr_of x).symm) (iv_in32 _) kk)
    · cases hs
  | land =>
    simp only [iv_gi] at hg
    obtain rfl := Nat.eq_of_beq_eq_true hg
    simp only [iv_step] at hs
    split at hs
    · rename_i y x st'
      simp only [Option.some.injEq] at hs
      subst hs
      exact lv_land hx hb hd (iv_push (v := ivJ (iv_land x y)) hR.tl.tl (congrArg Value.long (iv_back64 _).symm) (iv_in64 _) kk)
    · cases hs
  | lor =>
    simp only [iv_gi] at hg
    obtain rfl := Nat.eq_of_beq_eq_true hg
    simp only [iv_step] at hs
    split at hs
    · rename_i y x st'
      simp only [Option.some.injEq] at hs
      subst hs
      exact lv_lor hx hb hd (iv_push (v := ivJ (iv_lor x y)) hR.tl.tl (congrArg Value.long (iv_back64 _).symm) (iv_in64 _) kk)
    · cases hs
  | lshl =>
    simp only [iv_gi] at hg
    obtain rfl := Nat.eq_of_beq_eq_true hg
    simp only [iv_step] at hs
    split at hs
    · rename_i y x st'
      simp only [Option.some.injEq] at hs
      subst hs
      exact lv_lshl hx hb hd rfl (iv_push (v := ivJ (iv_lshl x y)) hR.tl.tl (congrArg Value.long (iv_back64 _).symm) (iv_in64 _) kk)
    · cases hs
  | lshr =>
    simp only [iv_gi] at hg
    obtain rfl := Nat.eq_of_beq_eq_true hg
    simp only [iv_step] at hs
    split at hs
    · rename_i y x st'
      simp only [Option.some.injEq] at hs
      subst hs
      exact lv_lshr hx hb hd rfl (iv_push (v := ivJ (iv_lshr x y)) hR.tl.tl (congrArg Value.long (iv_back64 _).symm) (iv_in64 _) kk)
    · cases hs
  | lushr =>
    simp only [iv_gi] at hg
    obtain rfl := Nat.eq_of_beq_eq_true hg
    simp only [iv_step] at hs
    split at hs
    · rename_i y x st'
      simp only [Option.some.injEq] at hs
      subst hs
      exact lv_lushr hx hb hd rfl (iv_push (v := ivJ (iv_lushr x y)) hR.tl.tl (congrArg Value.long (iv_back64 _).symm) (iv_in64 _) kk)
    · cases hs
  | lcmp =>
    simp only [iv_gi] at hg
    obtain rfl := Nat.eq_of_beq_eq_true hg
    simp only [iv_step] at hs
    split at hs
    · rename_i y x st'
      simp only [Option.some.injEq] at hs
      subst hs
      have hy : iv_il y := hR.hd
      have hxx : iv_il x := hR.hd2
      obtain ⟨h1, h2⟩ := iv_lcmp_of hxx hy
      exact W.lcmp hx hb hd (iv_push (v := ivI (iv_lcmp x y)) hR.tl.tl (congrArg Value.int h1) h2 kk)
    · cases hs
  | dup =>
    simp only [iv_gi] at hg
    obtain rfl := Nat.eq_of_beq_eq_true hg
    simp only [iv_step] at hs
    split at hs
    · rename_i v st'
      obtain ⟨h1, rfl⟩ := iv_bif hs
      exact lv_dup hx hb hd (iv_c1_cat h1) (kk la H locs cells slots (hR.cons hR.hd))
    · cases hs
  | dup2 =>
    simp only [iv_gi] at hg
    obtain rfl := Nat.eq_of_beq_eq_true hg
    simp only [iv_step] at hs
    split at hs
    · rename_i v u st'
      obtain ⟨h1, rfl⟩ := iv_bif hs
      rw [Bool.and_eq_true] at h1
      exact lv_dup2_11 hx hb hd (iv_c1_cat h1.1) (iv_c1_cat h1.2) (kk la H locs cells slots ((hR.cons hR.hd2).cons hR.hd))
    · cases hs
  | pop =>
    simp only [iv_gi] at hg
    obtain rfl := Nat.eq_of_beq_eq_true hg
    simp only [iv_step] at hs
    split at hs
    · rename_i v st'
      obtain ⟨h1, rfl⟩ := iv_bif hs
      exact lv_pop hx hb hd (iv_c1_cat h1) (kk la H locs cells slots hR.tl)
    · cases hs
  | aconst_null =>
    simp only [iv_gi] at hg
    obtain rfl := Nat.eq_of_beq_eq_true hg
    simp only [iv_step, Option.some.injEq] at hs
    subst hs
    exact lv_null hx hb hd (kk la H locs cells slots (hR.cons (v := ivR 0) (Nat.zero_le _)))
  | goto o =>
    simp only [iv_gi, Bool.and_eq_true] at hg
    obtain rfl := Nat.eq_of_beq_eq_true hg.1
    rw [hep] at hg
    simp only [iv_step, Option.some.injEq] at hs
    subst hs
    exact lv_goto hx hb hd (iv_tgt hg.2) (kk la H locs cells slots hR)
  | if_icmp cn o =>
    simp only [iv_gi, Bool.and_eq_true] at hg
    obtain rfl := Nat.eq_of_beq_eq_true hg.1
    rw [hep] at hg
    simp only [iv_step] at hs
    split at hs
    · rename_i y x st'
      simp only [Option.some.injEq] at hs
      subst hs
      exact iv_s_icmp hx hb hd hg.2 hR kk
    · cases hs
  | ifCond cn o =>
    simp only [iv_gi, Bool.and_eq_true] at hg
    obtain rfl := Nat.eq_of_beq_eq_true hg.1
    rw [hep] at hg
    simp only [iv_step] at hs
    split at hs
    · rename_i x st'
      simp only [Option.some.injEq] at hs
      subst hs
      exact iv_s_if hx hb hd hg.2 hR kk
    · cases hs
  | ifnull o =>
    simp only [iv_gi, Bool.and_eq_true] at hg
    obtain rfl := Nat.eq_of_beq_eq_true hg.1
    rw [hep] at hg
    simp only [iv_step] at hs
    split at hs
    · rename_i x st'
      simp only [Option.some.injEq] at hs
      subst hs
      exact iv_s_null hx hb hd hg.2 hR kk
    · cases hs
  | ifnonnull o =>
    simp only [iv_gi, Bool.and_eq_true] at hg
    obtain rfl := Nat.eq_of_beq_eq_true hg.1
    rw [hep] at hg
    simp only [iv_step] at hs
    split at hs
    · rename_i x st'
      simp only [Option.some.injEq] at hs
      subst hs
      exact iv_s_nonnull hx hb hd hg.2 hR kk
    · cases hs
  | tableswitch d lo hi os =>
    simp only [iv_gi, Bool.and_eq_true] at hg
    rw [hep] at hg
    simp only [iv_step] at hs
    split at hs
    · rename_i x st'
      simp only [Option.some.injEq] at hs
      subst hs
      exact iv_s_table hx hb hd hg.1 hg.2.1 (of_decide_eq_true hg.2.2) hR kk
    · cases hs
  | lookupswitch d ps =>
    simp only [iv_gi, Bool.and_eq_true] at hg
    rw [hep] at hg
    simp only [iv_step] at hs
    split at hs
    · rename_i x st'
      simp only [Option.some.injEq] at hs
      subst hs
      exact iv_s_lookup hx hb hd hg.1 hg.2.1 hg.2.2 hR kk
    · cases hs
  | getfield idx =>
    simp only [iv_gi, Bool.and_eq_true] at hg
    obtain rfl := Nat.eq_of_beq_eq_true hg.1
    simp only [iv_step] at hs
    split at hs
    · rename_i x st'
      obtain ⟨h1, rfl⟩ := iv_bif hs
      simp only [Bool.and_eq_true] at h1
      exact iv_s_get hx hb hown hts hd hg.2 (Nat.eq_of_beq_eq_true h1.1.1) (Nat.eq_of_beq_eq_true h1.1.2) (Nat.le_of_ble_eq_true h1.2) hR kk
    · cases hs
  | putfield idx =>
    simp only [iv_gi, Bool.and_eq_true] at hg
    obtain rfl := Nat.eq_of_beq_eq_true hg.1
    simp only [iv_step] at hs
    split at hs
    · rename_i v x st'
      obtain ⟨h1, rfl⟩ := iv_bif hs
      simp only [Bool.and_eq_true] at h1
      exact iv_s_putI hx hb hown hts hname hd hg.2.1 hg.2.2 (Nat.eq_of_beq_eq_true h1.1.1.1) (Nat.eq_of_beq_eq_true h1.1.1.2) (Nat.le_of_ble_eq_true h1.1.2) h1.2 hR kk
    · rename_i y x st'
      obtain ⟨h1, rfl⟩ := iv_bif hs
      simp only [Bool.and_eq_true] at h1
      exact iv_s_putR hx hb hown hts hname hd hg.2.1 hg.2.2 (Nat.eq_of_beq_eq_true h1.1.1.1) (Nat.eq_of_beq_eq_true h1.1.1.2) (Nat.le_of_ble_eq_true h1.1.2) (Nat.le_of_ble_eq_true h1.2) hR kk
    · cases hs
  | iaload =>
    simp only [iv_gi] at hg
    obtain rfl := Nat.eq_of_beq_eq_true hg
    simp only [iv_step] at hs
    split at hs
    · rename_i i x st'
      obtain ⟨h1, rfl⟩ := iv_bif hs
      simp only [Bool.and_eq_true, decide_eq_true_eq] at h1
      exact iv_s_iald hx hb hd (Nat.eq_of_beq_eq_true h1.1.1.1) (Nat.eq_of_beq_eq_true h1.1.1.2) (Nat.le_of_ble_eq_true h1.1.2) h1.2.1 h1.2.2 hR kk
    · cases hs
  | baload =>
    simp only [iv_gi] at hg
    obtain rfl := Nat.eq_of_beq_eq_true hg
    simp only [iv_step] at hs
    split at hs
    · rename_i i x st'
      obtain ⟨h1, rfl⟩ := iv_bif hs
      simp only [Bool.and_eq_true, decide_eq_true_eq] at h1
      exact iv_s_bald hx hb hd (Nat.eq_of_beq_eq_true h1.1.1.1) (Nat.eq_of_beq_eq_true h1.1.1.2) (Nat.le_of_ble_eq_true h1.1.2) h1.2.1 h1.2.2 hR kk
    · cases hs
  | aaload =>
    simp only [iv_gi] at hg
    obtain rfl := Nat.eq_of_beq_eq_true hg
    simp only [iv_step] at hs
    split at hs
    · rename_i i x st'
      obtain ⟨h1, rfl⟩ := iv_bif hs
      simp only [Bool.and_eq_true, decide_eq_true_eq] at h1
      exact iv_s_aald hx hb hd (Nat.eq_of_beq_eq_true h1.1.1.1) (Nat.le_of_ble_eq_true h1.1.1.2) (Nat.le_of_ble_eq_true h1.1.2) h1.2.1 h1.2.2 hR kk
    · cases hs
  | iastore =>
    simp only [iv_gi] at hg
    obtain rfl := Nat.eq_of_beq_eq_true hg
    simp only [iv_step] at hs
    split at hs
    · rename_i v i x st'
      obtain ⟨h1, rfl⟩ := iv_bif hs
      simp only [Bool.and_eq_true, decide_eq_true_eq] at h1
      exact iv_s_iast hx hb hd (Nat.le_of_ble_eq_true h1.1.1.1.1) (Nat.eq_of_beq_eq_true h1.1.1.1.2) (Nat.eq_of_beq_eq_true h1.1.1.2) (Nat.le_of_ble_eq_true h1.1.2) h1.2.1 h1.2.2 hR kk
    · cases hs
  | bastore =>
    simp only [iv_gi] at hg
    obtain rfl := Nat.eq_of_beq_eq_true hg
    simp only [iv_step] at hs
    split at hs
    · rename_i v i x st'
      obtain ⟨h1, rfl⟩ := iv_bif hs
      simp only [Bool.and_eq_true, decide_eq_true_eq] at h1
      exact iv_s_bast hx hb hd (Nat.le_of_ble_eq_true h1.1.1.1.1) (Nat.eq_of_beq_eq_true h1.1.1.1.2) (Nat.eq_of_beq_eq_true h1.1.1.2) (Nat.le_of_ble_eq_true h1.1.2) h1.2.1 h1.2.2 hR kk
    · cases hs
  | aastore =>
    simp only [iv_gi] at hg
    obtain rfl := Nat.eq_of_beq_eq_true hg
    simp only [iv_step] at hs
    split at hs
    · rename_i y i x st'
      obtain ⟨h1, rfl⟩ := iv_bif hs
      simp only [Bool.and_eq_true, Bool.or_eq_true, decide_eq_true_eq] at h1
      exact iv_s_aast hx hb hd (Nat.le_of_ble_eq_true h1.1.1.1.1.1) (Nat.eq_of_beq_eq_true h1.1.1.1.1.2) (h1.1.1.1.2.imp Nat.eq_of_beq_eq_true Nat.eq_of_beq_eq_true) (Nat.le_of_ble_eq_true h1.1.1.2) h1.1.2.1 h1.1.2.2 (Nat.eq_of_beq_eq_true h1.2.1.1) (Nat.eq_of_beq_eq_true h1.2.1.2) (Nat.le_of_ble_eq_true h1.2.2) hR kk
    · cases hs
  | arraylength =>
    simp only [iv_gi] at hg
    obtain rfl := Nat.eq_of_beq_eq_true hg
    simp only [iv_step] at hs
    split at hs
    · rename_i x st'
      obtain ⟨h1, rfl⟩ := iv_bif hs
      simp only [Bool.and_eq_true] at h1
      exact iv_s_alen hx hb hd hL (Nat.eq_of_beq_eq_true h1.1.1) (Nat.eq_of_beq_eq_true h1.1.2) (Nat.le_of_ble_eq_true h1.2) hR kk
    · cases hs
  | new idx =>
    simp only [iv_gi, Bool.and_eq_true] at hg
    obtain rfl := Nat.eq_of_beq_eq_true hg.1
    have hg2 := hg.2
    split at hg2
    · rename_i q hq
      simp only [iv_step] at hs
      obtain ⟨h1, rfl⟩ := iv_bif hs
      simp only [Bool.and_eq_true] at h1
      exact iv_s_new (ee := (ep, .new idx, 3, ea, eb, ec, ew)) hx hb hown hts hd hq (iv_at_mem hg2) (Nat.eq_of_beq_eq_true h1.1) (Nat.eq_of_beq_eq_true h1.2) hgc hgs hR kk
    · cases hg2
  | newarray t =>
    simp only [iv_gi, Bool.and_eq_true] at hg
    obtain rfl := Nat.eq_of_beq_eq_true hg.1
    simp only [iv_step] at hs
    split at hs
    · rename_i x st'
      obtain ⟨h1, rfl⟩ := iv_bif hs
      simp only [Bool.and_eq_true, decide_eq_true_eq] at h1
      have ht : ea = 0 ∧ t = .int ∨ ea = 1 ∧ t = .boolean := by
        have hg2 := hg.2
        by_cases e0 : ea = 0
        · subst e0
          exact Or.inl ⟨rfl, of_decide_eq_true hg2⟩
        · rw [iv_nbeq e0, cond_false, Bool.and_eq_true] at hg2
          exact Or.inr ⟨Nat.eq_of_beq_eq_true hg2.1, of_decide_eq_true hg2.2⟩
      have hw1 := hR.1.1
      exact iv_s_newarr (ee := (ep, .newarray t, 2, ea, eb, ec, ew)) hx hb hts hd ht (by omega) (Nat.eq_of_beq_eq_true h1.1.1) (Nat.eq_of_beq_eq_true h1.1.2) h1.2 hgc hgs hR kk
    · cases hs
  | anewarray idx =>
    simp only [iv_gi, Bool.and_eq_true] at hg
    obtain rfl := Nat.eq_of_beq_eq_true hg.1
    simp only [iv_step] at hs
    split at hs
    · rename_i x st'
      obtain ⟨h1, rfl⟩ := iv_bif hs
      simp only [Bool.and_eq_true, decide_eq_true_eq] at h1
      have hw1 := hR.1.1
      have hg2 := hg.2
      by_cases e0 : ea = 2
      · subst e0
        exact iv_s_anew (C := "OnlyNamed$Memory") (k := 2) hx hb hown hd (hts _ (iv_memA (by rfl) (iv_at_mem hg2))) hT.2.1 (Or.inl rfl) rfl (by omega) (Nat.eq_of_beq_eq_true h1.1.1) (Nat.eq_of_beq_eq_true h1.1.2) h1.2 hgc hgs hR kk
      · rw [iv_nbeq e0, cond_false, Bool.and_eq_true] at hg2
        obtain rfl := Nat.eq_of_beq_eq_true hg2.1
        exact iv_s_anew (C := "OnlyNamed$Ruler") (k := 3) hx hb hown hd (hts _ (iv_memA (by rfl) (iv_at_mem hg2.2))) hT.2.2.1 (Or.inr rfl) rfl (by omega) (Nat.eq_of_beq_eq_true h1.1.1) (Nat.eq_of_beq_eq_true h1.1.2) h1.2 hgc hgs hR kk
    · cases hs
  | multianewarray idx k =>
    simp only [iv_gi, Bool.and_eq_true] at hg
    obtain rfl := Nat.eq_of_beq_eq_true hg.1
    obtain rfl := Nat.eq_of_beq_eq_true hg.2.1
    simp only [iv_step] at hs
    split at hs
    · rename_i y x st'
      obtain ⟨h1, rfl⟩ := iv_bif hs
      simp only [Bool.and_eq_true, decide_eq_true_eq] at h1
      obtain ⟨⟨rfl, rfl⟩, h6⟩ := h1
      exact iv_s_mna hx hb hown hts hd (hts _ (iv_memA (by rfl) (iv_at_mem hg.2.2))) hT.2.2.2 h6 hgc hgs hR kk
    · cases hs
  | _ => exact absurd hs (by simp [iv_step])
end IVS
end
section
/-! RUNS, over the machine -/
theorem iv_wide_eq (b B0 : Nat) (st : List ivV) : ((st.map (iv_cv b B0)).map fun v => v.category).sum = iv_wide st := by
  induction st with
  | nil => rfl
  | cons v st ih => simp only [List.map_cons, List.sum_cons, ih, iv_wide, iv_cat]
theorem iv_step_mono {L pc : Nat} {ee : ivE} {ls st : List ivV} {w : ivS} {g : Nat × List ivV × List ivV × ivS} (h : iv_step L pc ee ls st w = some g) : w.1 ≤ g.2.2.2.1 := by
  obtain ⟨ep, ei, el, ea, eb, ec, ew⟩ := ee
  cases ei <;> simp only [iv_step] at h <;> first
    | (cases h; done)
    | (simp only [Option.some.injEq] at h; subst h; exact Nat.le_refl _)
    | (obtain ⟨-, rfl⟩ := iv_bif h; first | exact Nat.le_refl _ | exact Nat.le_add_right _ _)
    | (split at h <;> first | (cases h; done) | (simp only [Option.some.injEq] at h; subst h; exact Nat.le_refl _) | (obtain ⟨-, rfl⟩ := iv_bif h; first | exact Nat.le_refl _ | exact Nat.le_add_right _ _) | (obtain ⟨-, rfl⟩ := iv_bifn h; exact Nat.le_refl _))
theorem iv_bifc {α : Type} {bb : Bool} {x : Option α} {g : α} (h : (bif bb then x else none) = some g) : bb = true ∧ x = some g := by
  cases bb
  · cases h
  · exact ⟨rfl, h⟩
/-- the words and values of a call, out of its check -/
def iv_arg (L : Nat) (e : ivE) (st : List ivV) : Prop := e.2.2.2.2.1 ≤ st.length ∧ iv_wide (st.drop e.2.2.2.2.1) ≤ 8 ∧ iv_wide (st.take e.2.2.2.2.1) ≤ iv_ml e.2.2.2.1
/-- what a run that has an end does first -/
theorem iv_run_cases {L f mi pc : Nat} {ls st : List ivV} {w : ivS} {r : Option ivV × ivS} (h : iv_run L (f + 1) mi pc ls st w = some r) : ∃ e, iv_ins mi pc = some e ∧
    ((∃ g, iv_step L pc e ls st w = some g ∧ iv_run L f mi g.1 g.2.1 g.2.2.1 g.2.2.2 = some r) ∨
     (e.2.1 = .ireturn ∧ ∃ x, st = [ivI x] ∧ (iv_zb mi = true → x = 0 ∨ x = 1) ∧ r = (some (ivI x), w)) ∨
     (e.2.1 = .areturn ∧ ∃ x, st = [ivR x] ∧ r = (some (ivR x), w)) ∨
     (e.2.1 = .return_ ∧ st = [] ∧ r = (none, w)) ∨
     ((∃ idx, e.2.1 = .invokevirtual idx) ∧ iv_arg L e st ∧ iv_obj L w.1 (iv_own e.2.2.2.1) (st.take e.2.2.2.2.1).reverse = true ∧ ∃ r1, iv_run L f e.2.2.2.1 0 (iv_ent (iv_ml e.2.2.2.1) (st.take e.2.2.2.2.1).reverse) [] w = some r1 ∧ iv_run L f mi (pc + 3) ls (r1.1.toList ++ st.drop e.2.2.2.2.1) r1.2 = some r) ∨
     ((∃ idx, e.2.1 = .invokestatic idx) ∧ iv_arg L e st ∧ ∃ r1, iv_run L f e.2.2.2.1 0 (iv_ent (iv_ml e.2.2.2.1) (st.take e.2.2.2.2.1).reverse) [] w = some r1 ∧ iv_run L f mi (pc + 3) ls (r1.1.toList ++ st.drop e.2.2.2.2.1) r1.2 = some r) ∨
     ((∃ idx, e.2.1 = .invokespecial idx) ∧ Nat.ble 1000 e.2.2.2.1 = false ∧ iv_arg L e st ∧ iv_obj L w.1 (iv_own e.2.2.2.1) (st.take e.2.2.2.2.1).reverse = true ∧ ∃ r1, iv_run L f e.2.2.2.1 0 (iv_ent (iv_ml e.2.2.2.1) (st.take e.2.2.2.2.1).reverse) [] w = some r1 ∧ iv_run L f mi (pc + 3) ls (r1.1.toList ++ st.drop e.2.2.2.2.1) r1.2 = some r) ∨
     ((∃ idx, e.2.1 = .invokespecial idx) ∧ Nat.ble 1000 e.2.2.2.1 = true ∧ ∃ x st', st = ivR x :: st' ∧ 2 ≤ x ∧ iv_wide st' ≤ 8 ∧ iv_run L f mi (pc + 3) ls st' w = some r)) := by
  unfold iv_run at h
  split at h
  · cases h
  · rename_i e he
    refine ⟨e, he, ?_⟩
    split at h
    · rename_i g hg
      exact Or.inl ⟨g, hg, h⟩
    · right
      split at h
      · rename_i hi
        split at h
        · rename_i x _
          left
          refine ⟨hi, x, rfl, ?_⟩
          cases hz : iv_zb mi
          · rw [hz] at h
            exact ⟨fun q => (by cases q), (Option.some.inj h).symm⟩
          · rw [hz] at h
            obtain ⟨h1, h2⟩ := iv_bif h
            simp only [Bool.or_eq_true, decide_eq_true_eq] at h1
            exact ⟨fun _ => h1, h2.symm⟩
        · cases h
      · rename_i hi
        split at h
        · rename_i x _
          exact Or.inr (Or.inl ⟨hi, x, rfl, (Option.some.inj h).symm⟩)
        · cases h
      · rename_i hi
        split at h
        · exact Or.inr (Or.inr (Or.inl ⟨hi, rfl, (Option.some.inj h).symm⟩))
        · cases h
      · rename_i idx hi
        obtain ⟨h1, h2⟩ := iv_bifc h
        simp only [Bool.and_eq_true] at h1
        split at h2
        · rename_i r1 hr1
          exact Or.inr (Or.inr (Or.inr (Or.inl ⟨⟨idx, hi⟩, ⟨Nat.le_of_ble_eq_true h1.1.1.1, Nat.le_of_ble_eq_true h1.1.1.2, Nat.le_of_ble_eq_true h1.1.2⟩, h1.2, r1, hr1, h2⟩)))
        · cases h2
      · rename_i idx hi
        obtain ⟨h1, h2⟩ := iv_bifc h
        simp only [Bool.and_eq_true] at h1
        split at h2
        · rename_i r1 hr1
          exact Or.inr (Or.inr (Or.inr (Or.inr (Or.inl ⟨⟨idx, hi⟩, ⟨Nat.le_of_ble_eq_true h1.1.1, Nat.le_of_ble_eq_true h1.1.2, Nat.le_of_ble_eq_true h1.2⟩, r1, hr1, h2⟩))))
        · cases h2
      · rename_i idx hi
        cases hk : Nat.ble 1000 e.2.2.2.1
        · rw [hk, cond_false] at h
          obtain ⟨h1, h2⟩ := iv_bifc h
          simp only [Bool.and_eq_true] at h1
          split at h2
          · rename_i r1 hr1
            exact Or.inr (Or.inr (Or.inr (Or.inr (Or.inr (Or.inl ⟨⟨idx, hi⟩, rfl, ⟨Nat.le_of_ble_eq_true h1.1.1.1, Nat.le_of_ble_eq_true h1.1.1.2, Nat.le_of_ble_eq_true h1.1.2⟩, h1.2, r1, hr1, h2⟩)))))
          · cases h2
        · rw [hk, cond_true] at h
          split at h
          · rename_i x st' _
            obtain ⟨h1, h2⟩ := iv_bifc h
            rw [Bool.and_eq_true] at h1
            exact Or.inr (Or.inr (Or.inr (Or.inr (Or.inr (Or.inr ⟨⟨idx, hi⟩, rfl, x, st', rfl, Nat.le_of_ble_eq_true h1.1, Nat.le_of_ble_eq_true h1.2, h2⟩)))))
          · cases h
      · cases h
theorem iv_run_mono {L : Nat} : ∀ {f mi pc : Nat} {ls st : List ivV} {w : ivS} {r : Option ivV × ivS}, iv_run L f mi pc ls st w = some r → w.1 ≤ r.2.1
  | 0, _, _, _, _, _, _, h => by cases h
  | f + 1, mi, pc, ls, st, w, r, h => by
    obtain ⟨e, he, h | h | h | h | h | h | h | h⟩ := iv_run_cases h
    · obtain ⟨g, h1, h2⟩ := h
      exact Nat.le_trans (iv_step_mono h1) (iv_run_mono h2)
    · obtain ⟨-, x, -, -, rfl⟩ := h; exact Nat.le_refl _
    · obtain ⟨-, x, -, rfl⟩ := h; exact Nat.le_refl _
    · obtain ⟨-, -, rfl⟩ := h; exact Nat.le_refl _
    · obtain ⟨-, -, -, r1, h1, h2⟩ := h
      exact Nat.le_trans (iv_run_mono h1) (iv_run_mono h2)
    · obtain ⟨-, -, r1, h1, h2⟩ := h
      exact Nat.le_trans (iv_run_mono h1) (iv_run_mono h2)
    · obtain ⟨-, -, -, -, r1, h1, h2⟩ := h
      exact Nat.le_trans (iv_run_mono h1) (iv_run_mono h2)
    · obtain ⟨-, -, x, st', -, -, -, h2⟩ := h
      exact iv_run_mono h2
/-- the locals with which a method begins -/
def iv_flat (as : List ivV) : List ivV := as.flatMap (fun v => bif iv_lg v then [v, ivU] else [v])
theorem iv_flat_cons (v : ivV) (as : List ivV) : iv_flat (v :: as) = (bif iv_lg v then [v, ivU] else [v]) ++ iv_flat as := rfl
theorem iv_flat_len (as : List ivV) : (iv_flat as).length = iv_wide as := by
  induction as with
  | nil => rfl
  | cons v as ih =>
    rw [iv_flat_cons, List.length_append, ih]
    show _ = (bif iv_lg v then 2 else 1) + iv_wide as
    cases iv_lg v <;> rfl
theorem iv_wide_rev (as : List ivV) : iv_wide as.reverse = iv_wide as := by
  have h : ∀ (a c : List ivV), iv_wide (a ++ c) = iv_wide a + iv_wide c := by
    intro a c
    induction a with
    | nil => simp [iv_wide]
    | cons v a ih => simp only [List.cons_append, iv_wide, ih]; omega
  induction as with
  | nil => rfl
  | cons v as ih => rw [List.reverse_cons, h, ih]; simp only [iv_wide]; omega
theorem iv_sl_len (b B0 : Nat) (as : List ivV) : (lg_sl (as.map (iv_cv b B0))).length = iv_wide as := by
  induction as with
  | nil => rfl
  | cons v as ih =>
    have e : lg_sl ((v :: as).map (iv_cv b B0)) = (if (iv_cv b B0 v).category = 2 then [Slot.val (iv_cv b B0 v), .second] else [.val (iv_cv b B0 v)]) ++ lg_sl (as.map (iv_cv b B0)) := rfl
    rw [e, List.length_append, ih, iv_cat]
    show _ = (bif iv_lg v then 2 else 1) + iv_wide as
    cases iv_lg v <;> rfl
theorem iv_flat_args (b B0 : Nat) : ∀ (as : List ivV) (k i : Nat) (v : ivV), (iv_flat as)[i]? = some v → v ≠ ivU → (k + i, iv_cv b B0 v) ∈ lv_args k (as.map (iv_cv b B0))
  | [], k, i, v, h, _ => by simp [iv_flat] at h
  | a :: as, k, i, v, h, hv => by
    rw [iv_flat_cons] at h
    show (k + i, iv_cv b B0 v) ∈ (k, iv_cv b B0 a) :: lv_args (if (iv_cv b B0 a).category = 2 then k + 2 else k + 1) (as.map (iv_cv b B0))
    rw [iv_cat]
    cases hl : iv_lg a
    · rw [hl] at h
      cases i with
      | zero =>
        cases h
        exact List.mem_cons_self
      | succ i =>
        have h2 : (iv_flat as)[i]? = some v := h
        have h3 := iv_flat_args b B0 as (k + 1) i v h2 hv
        rw [show k + (i + 1) = k + 1 + i by omega]
        exact List.mem_cons_of_mem _ h3
    · rw [hl] at h
      rcases i with _ | _ | i
      · cases h
        exact List.mem_cons_self
      · cases h
        exact absurd rfl hv
      · have h2 : (iv_flat as)[i]? = some v := h
        have h3 := iv_flat_args b B0 as (k + 2) i v h2 hv
        rw [show k + (i + 1 + 1) = k + 2 + i by omega]
        exact List.mem_cons_of_mem _ h3
theorem iv_ent_lr {b B0 n : Nat} {as : List ivV} (h : iv_wide as ≤ n) : iv_lr b B0 ((lg_sl (as.map (iv_cv b B0)) ++ List.replicate (n - (lg_sl (as.map (iv_cv b B0))).length) Slot.unset).toArray) n (iv_ent n as) := by
  have hl := lv_entry (as.map (iv_cv b B0)) (n := n) (by rw [iv_sl_len]; exact h)
  have hlen : (iv_ent n as).length = n := by
    show (iv_flat as ++ List.replicate (n - (iv_flat as).length) ivU).length = n
    rw [List.length_append, List.length_replicate, iv_flat_len]
    omega
  refine ⟨hlen, hl.1, hl.2.1, fun i v hi hv => ?_⟩
  have hi2 : (iv_flat as ++ List.replicate (n - (iv_flat as).length) ivU)[i]? = some v := hi
  by_cases hlt : i < (iv_flat as).length
  · rw [List.getElem?_append_left hlt] at hi2
    have := iv_flat_args b B0 as 0 i v hi2 hv
    rw [Nat.zero_add] at this
    exact hl.2.2 _ this
  · rw [List.getElem?_append_right (by omega)] at hi2
    exact absurd (List.eq_of_mem_replicate (List.mem_of_getElem? hi2)) hv
theorem iv_ent_ok {n k : Nat} {as : List ivV} (h : ∀ v ∈ as, iv_ok k v) : ∀ v ∈ iv_ent n as, iv_ok k v := by
  intro v hv
  have hv2 : v ∈ iv_flat as ++ List.replicate (n - (iv_flat as).length) ivU := hv
  rcases List.mem_append.mp hv2 with h1 | h1
  · obtain ⟨a, ha, h2⟩ := List.mem_flatMap.mp h1
    cases hl : iv_lg a
    · rw [hl] at h2
      rw [List.mem_singleton.mp h2]
      exact h a ha
    · rw [hl] at h2
      rcases List.mem_cons.mp h2 with e | h2
      · rw [e]; exact h a ha
      · rw [List.mem_singleton.mp h2]; trivial
  · rw [List.eq_of_mem_replicate h1]
    trivial
end
section
/-! THE RUN OF A METHOD IS WHAT THE MACHINE DOES -/
theorem iv_oi : Jvm.Cond.instanceMethod objectInit ∈ iv_TB ∧ Jvm.Cond.code objectInit ⟨#[0xb1]⟩ 1 none ∈ iv_TB := ⟨iv_at_mem (i := 78) (c := (5, 1000, 0, 0, 0, 0)) (by decide +kernel), iv_at_mem (i := 79) (c := (6, 1000, 0, 0, 0, 0)) (by decide +kernel)⟩
/-- a method that its name doesn't bar, by its body -/
theorem iv_ofW {l : Launch} {y : MethodName} {ws ws' : List Jvm.Cond} {rm : Room} {Pc : Array Value → State → Prop} {Qc : Array Value → State → Outcome → State → Prop} {mc ms : Nat} {free : Addr → Prop} {cc : ByteArray} {maxL : Nat} {ret : Option FieldType}
    (hy : plainFor y = true) (hw : ws = Jvm.Cond.code y cc maxL ret :: ws')
    (body : ∀ p e s m args below meth c s₁, BodyLoose p l y (headSpec ws rm) cc maxL ret e s m args below meth c s₁ → c.maxLocals = maxL → Pc args s →
      W p l e (headSpec ws rm).room s m args below meth c s.heap [] 0 0 (MQ below Qc args s mc ms free) (entryFrame m args maxL)) : Met l y ws rm Pc Qc mc ms free := by
  refine MetFree.of_bodySF (code := cc) (maxLocals := maxL) (ret := ret) hy ?_ ?_
  · intro args s m h hn
    obtain ⟨meth, c, h1, h2, h3, h4, h5, h6, -, -⟩ := Cond.code_spec hn (atoms_spec (ws := ws) h _ (by rw [hw]; exact List.mem_cons_self))
    exact ⟨meth, c, h1, h2, h3, h4, h5, h6⟩
  · intro p e s m args below meth c s₁ B hml hP _
    have hh0 : s₁.heap = s.heap := by rw [B.state]; rfl
    obtain ⟨t, a1, o, b1, b2, b3⟩ := body p e s m args below meth c s₁ B hml hP s₁ hh0 (Stand.of_body B)
    exact ⟨t, o, a1, b1, b2, ⟨b3.1, b3.2⟩⟩
section IVS
variable {l : Launch} {D : va_G} {dA : Nat → ClassId} {L b B0 : Nat}
/-- the end of a method, from where the walk goes on -/
def iv_End (l : Launch) (D : va_G) (dA : Nat → ClassId) (L b B0 n0 mi : Nat) (p : Program) (e : Env) (R : Room) (s : State) (m : MethodId) (args : Array Value) (below : List Frame) (meth : Method) (c : Code) (Q : State → Prop) (r : Option ivV) (w : ivS) : Prop :=
  ∀ (pc : Nat) (la : Array Slot) (ls st : List ivV) (H : Heap) (locs : List Loc) (cells slots : Nat), iv_Rel D dA L b B0 n0 (iv_ml mi) s H w la ls st locs cells slots →
    (r = none ∧ decode (iv_cd mi) pc = .ok (.return_, 1) ∧ iv_rt mi = none) ∨ (∃ x : Int, r = some (ivI x) ∧ iv_in x ∧ decode (iv_cd mi) pc = .ok (.ireturn, 1) ∧ (iv_rt mi = some .int ∨ iv_rt mi = some .boolean ∧ (x = 0 ∨ x = 1))) ∨ (∃ x : Nat, r = some (ivR x) ∧ x ≤ w.1 ∧ decode (iv_cd mi) pc = .ok (.areturn, 1) ∧ ∃ rt, iv_rt mi = some rt ∧ ((∃ n, rt = .object n) ∨ ∃ t, rt = .array t)) →
    W p l e R s m args below meth c H locs cells slots Q (F0 m pc la (r.toList.map (iv_cv b B0)))
def iv_Pc (D : va_G) (dA : Nat → ClassId) (L b B0 : Nat) (as : List ivV) (w : ivS) (v : Array Value) (U : State) : Prop := v = (as.map (iv_cv b B0)).toArray ∧ iv_HR D dA L b B0 U U.heap w ∧ (∀ a ∈ as, iv_ok w.1 a) ∧ iv_T U ∧ B0 ≤ U.heap.size
def iv_Qc (D : va_G) (dA : Nat → ClassId) (L b B0 : Nat) (r : Option ivV) (w : ivS) (_ : Array Value) (st : State) (o : Outcome) (t : State) : Prop := o = .returned (r.map (iv_cv b B0)) ∧ iv_HR D dA L b B0 t t.heap w ∧ (∀ v ∈ r, iv_ok w.1 v) ∧ va_F (fun q => B0 ≤ q) st t
def iv_room (L z : Nat) (w w1 : ivS) : Room := { frames := (iv_rm z).1, cells := w1.1 - w.1, slots := iv_sl L w1.1 - iv_sl L w.1, locals := (iv_rm z).2 }
/-- what is proved by induction on the number of steps -/
def iv_IH (l : Launch) (D : va_G) (dA : Nat → ClassId) (L b B0 f : Nat) : Prop :=
  ∀ (mi pc : Nat) (ls st : List ivV) (w : ivS) (r : Option ivV) (w' : ivS), iv_run L f mi pc ls st w = some (r, w') → mi < 171 →
    ∀ (p : Program) (e : Env) (R : Room) (s : State) (m : MethodId) (args : Array Value) (below : List Frame) (meth : Method) (c : Code) (Q : State → Prop) (n0 : Nat) (H : Heap) (la : Array Slot) (locs : List Loc) (cells slots : Nat),
      iv_cx p R s m args meth c mi → w'.1 ≤ R.cells + n0 → iv_sl L w'.1 ≤ R.slots + iv_sl L n0 → iv_Rel D dA L b B0 n0 (iv_ml mi) s H w la ls st locs cells slots → iv_End l D dA L b B0 n0 mi p e R s m args below meth c Q r w' →
      iv_G p l e R s m args below meth c Q b B0 H locs cells slots pc la st
theorem iv_blind {as : List ivV} {w : ivS} : FrameBlind (iv_Pc D dA L b B0 as w) := fun a U g mk q => by
  obtain ⟨q1, q2, q3, q4, q5⟩ := q
  exact ⟨q1, iv_HR.moved (u := U) (U := U.calling g mk a) (Vm.Alike.refl U.vm) q2, q3, iv_T.same (u := U) (U := U.calling g mk a) rfl q4, q5⟩
/-- a callee's contract -/
theorem iv_met {f z : Nat} (ih : iv_IH l D dA L b B0 f) (hz : z < 170) {as : List ivV} {w w1 : ivS} {r : Option ivV} (has : iv_wide as ≤ iv_ml z) (hrun : iv_run L f z 0 (iv_ent (iv_ml z) as) [] w = some (r, w1)) :
    Met l (iv_nm z) (iv_ws z) (iv_room L z w w1) (iv_Pc D dA L b B0 as w) (iv_Qc D dA L b B0 r w1) (w1.1 - w.1) (iv_sl L w1.1 - iv_sl L w.1) (fun q => B0 ≤ q) := by
  obtain ⟨h1, -, -, -, -, -, -, -⟩ := iv_mg_of hz
  refine iv_ofW (cc := iv_cd z) (maxL := iv_ml z) (ret := iv_rt z) h1 rfl ?_
  intro p e s m args below meth c s₁ B hml hv
  obtain ⟨rfl, hHR, hok, hT, hB⟩ := hv
  have hts : ∀ w ∈ iv_ws z, w.before (as.map (iv_cv b B0)).toArray s = true := atoms_spec (ws := iv_ws z) B.pre
  have hmono : w.1 ≤ w1.1 := iv_run_mono hrun
  have hsm := iv_sl_mono L hmono
  have cx : iv_cx p (headSpec (iv_ws z) (iv_room L z w w1)).room s m (as.map (iv_cv b B0)).toArray meth c z := ⟨B.exec, B.bytes, B.returns, hml, findClass_of_methodNamed B.named, fun w hw => hts w (iv_TB_ws z w hw), hT, B.notSynchronized, (fun h => (name_of_methodNamed B.named B.method).1.trans h), Nat.le_refl _, Nat.le_refl _⟩
  have hRel : iv_Rel D dA L b B0 w.1 (iv_ml z) s s.heap w ((lg_sl (as.map (iv_cv b B0)) ++ List.replicate (iv_ml z - (lg_sl (as.map (iv_cv b B0))).length) Slot.unset).toArray) (iv_ent (iv_ml z) as) [] [] 0 0 :=
    ⟨hHR, iv_ent_lr has, iv_ent_ok hok, fun v hv => (by cases hv), va_S.rf, ⟨by omega, by omega⟩, hB⟩
  have hcs : w1.1 ≤ (headSpec (iv_ws z) (iv_room L z w w1)).room.cells + w.1 := by show w1.1 ≤ (w1.1 - w.1) + w.1; omega
  have hss : iv_sl L w1.1 ≤ (headSpec (iv_ws z) (iv_room L z w w1)).room.slots + iv_sl L w.1 := by show iv_sl L w1.1 ≤ (iv_sl L w1.1 - iv_sl L w.1) + iv_sl L w.1; omega
  have hr := B.returns
  have hx := B.exec
  have hb := B.bytes
  have hlocks : meth.locks = false := B.notSynchronized
  have hend : iv_End l D dA L b B0 w.1 z p e (headSpec (iv_ws z) (iv_room L z w w1)).room s m (as.map (iv_cv b B0)).toArray below meth c (MQ below (iv_Qc D dA L b B0 r w1) (as.map (iv_cv b B0)).toArray s (w1.1 - w.1) (iv_sl L w1.1 - iv_sl L w.1) (fun q => B0 ≤ q)) r w1 := by
    intro pc la ls st H locs cells slots hR hcase
    obtain ⟨r1, -, -, -, r5, ⟨r6, r7⟩, -⟩ := hR
    obtain rfl : cells = w1.1 - w.1 := by omega
    obtain rfl : slots = iv_sl L w1.1 - iv_sl L w.1 := by omega
    have hq : ∀ t : State, t.heap = H → s.WarmedH t.vm → (∀ v ∈ r, iv_ok w1.1 v) → iv_Qc D dA L b B0 r w1 (as.map (iv_cv b B0)).toArray s (.returned (r.map (iv_cv b B0))) t := fun t ht hW ho => ⟨rfl, by rw [ht]; exact r1.moved hW.alike, ho, r5.F ht⟩
    rcases hcase with ⟨rfl, hd, hrt⟩ | ⟨x, rfl, hin, hd, hrt⟩ | ⟨x, rfl, hle, hd, rt, hrt, hrr⟩
    · exact W.vret hx hb (by rw [hr, hrt]) (fun t ht hW => hq t ht hW (fun v hv => by cases hv)) r5.2.2 hd
    · rcases hrt with hrt | ⟨hrt, h01⟩
      · exact W.iret hx hb (by rw [hr, hrt]) (fun t ht hW => hq t ht hW (fun v hv => by cases hv; exact hin)) r5.2.2 hd
      · exact W.zret hx hb (by rw [hr, hrt]) (iv_bool h01).1 (fun t ht hW => hq t ht hW (fun v hv => by cases hv; exact hin)) r5.2.2 hd
    · exact W.aret hx hb (by rw [hr, hrt]) hrr (by show iv_rv b B0 x = .null ∨ ∃ a, iv_rv b B0 x = .ref a; unfold iv_rv; split; exact Or.inl rfl; exact Or.inr ⟨_, rfl⟩) (fun t ht hW => hq t ht hW (fun v hv => by cases hv; exact hle)) r5.2.2 hd
  have hg := ih z 0 _ _ w r w1 hrun (by omega) p e _ s m _ below meth c _ w.1 s.heap _ [] 0 0 cx hcs hss hRel hend
  rw [lg_entry_eq]
  exact hg
variable {p : Program} {e : Env} {R : Room} {s : State} {m : MethodId} {args : Array Value} {below : List Frame} {meth : Method} {c : Code} {Q : State → Prop}
variable {n0 mi : Nat} {H : Heap} {w : ivS} {la : Array Slot} {ls st : List ivV} {locs : List Loc} {cells slots : Nat}
/-- behind a call -/
theorem iv_after {f pc : Nat} {rest : List ivV} {w1 : ivS} {r1 : Option ivV} {r : Option ivV} {w' : ivS} {a : Array Value} {st0 : List Value} (ih : iv_IH l D dA L b B0 f) (hmi : mi < 171) (cx : iv_cx p R s m args meth c mi) (hcs : w'.1 ≤ R.cells + n0) (hss : iv_sl L w'.1 ≤ R.slots + iv_sl L n0)
    (hR : iv_Rel D dA L b B0 n0 (iv_ml mi) s H w la ls rest locs cells slots) (hm : w.1 ≤ w1.1) (hrun : iv_run L f mi (pc + 3) ls (r1.toList ++ rest) w1 = some (r, w')) (hend : iv_End l D dA L b B0 n0 mi p e R s m args below meth c Q r w')
    (hr : va_Run p l e R s m args below meth c H locs cells slots (w1.1 - w.1) (iv_sl L w1.1 - iv_sl L w.1) (F0 m pc la st0) (rest.map (iv_cv b B0)) (iv_Qc D dA L b B0 r1 w1 a) (fun q => B0 ≤ q)) :
    W p l e R s m args below meth c H locs cells slots Q (F0 m pc la st0) := by
  intro T hT X
  obtain ⟨v, st₀, t, T', Lx, h0, X', hLx, e1, e2, ⟨ho, hHR, hok, hF⟩, stp⟩ := hr T hT X
  cases ho
  obtain ⟨r1', r2, r3, r4, r5, ⟨r6, r8⟩, r7⟩ := hR
  have hsm := iv_sl_mono L hm
  have hal : T'.vm.Alike s.vm := X'.warmed.alike.symm
  unfold va_F at hF
  rw [h0] at hF
  have hRel : iv_Rel D dA L b B0 n0 (iv_ml mi) s T'.heap w1 la ls (r1.toList ++ rest) (locs ++ Lx) (cells + (w1.1 - w.1)) (slots + (iv_sl L w1.1 - iv_sl L w.1)) := by
    refine ⟨?_, r2, fun v hv => iv_ok_mono (r3 v hv) hm, fun v hv => ?_, ⟨by rw [e1]; exact Nat.le_trans r5.1 hF.1, fun q h1 h2 => by rw [e1, hF.2 q (Nat.lt_of_lt_of_le h1 r5.1) h2]; exact r5.2.1 q h1 h2, fun q hq => ?_⟩, ⟨by omega, by omega⟩, r7⟩
    · rw [e1]
      exact iv_HR.moved (by rw [← e2]; exact hal) hHR
    · rcases List.mem_append.mp hv with h | h
      · exact hok v (by cases r1 with | none => cases h | some u => rw [List.mem_singleton.mp h]; rfl)
      · exact iv_ok_mono (r4 v h) hm
    · rcases List.mem_append.mp hq with h | h
      · exact r5.2.2 q h
      · exact hLx q h
  have hg := ih mi (pc + 3) ls (r1.toList ++ rest) w1 r w' hrun hmi p e R s m args below meth c Q n0 T'.heap la (locs ++ Lx) _ _ cx hcs hss hRel hend
  obtain ⟨t2, a1, b1⟩ := hg T' rfl X'
  refine ⟨t2, stp t2 ?_, b1⟩
  have hmap : (r1.toList ++ rest).map (iv_cv b B0) = (r1.map (iv_cv b B0)).toList ++ rest.map (iv_cv b B0) := by cases r1 <;> rfl
  rw [hmap] at a1
  exact a1
end IVS
end
section
/-! RUNS, by induction on the steps -/
section IVS
variable {l : Launch} {D : va_G} {dA : Nat → ClassId} {L b B0 : Nat}
variable {p : Program} {e : Env} {R : Room} {s : State} {m : MethodId} {args : Array Value} {below : List Frame} {meth : Method} {c : Code} {Q : State → Prop}
variable {n0 mi : Nat} {H : Heap} {w : ivS} {la : Array Slot} {ls st : List ivV} {locs : List Loc} {cells slots : Nat}
theorem iv_rev_map (as rest : List ivV) : ((as.reverse ++ rest).map (iv_cv b B0)) = (as.map (iv_cv b B0)).reverse ++ rest.map (iv_cv b B0) := by
  rw [List.map_append, List.map_reverse]
/-- the parts of a call's check -/
theorem iv_gc_of {idx kind : Nat} {ee : ivE} (h : iv_gc mi ee idx kind = true) : ee.2.2.2.1 < 170 ∧ (iv_mw ee.2.2.2.1).1 = kind ∧ ee.2.2.2.2.1 = iv_np ee.2.2.2.1 + (bif Nat.beq kind 0 then 0 else 1) ∧ (iv_rm ee.2.2.2.1).1 + 1 ≤ (iv_rm mi).1 ∧ 8 + (iv_ml ee.2.2.2.1 + 11) + (iv_rm ee.2.2.2.1).2 ≤ (iv_rm mi).2 ∧
    (Jvm.Cond.methodLink (iv_nm mi).cls idx (iv_nm ee.2.2.2.1) ∈ iv_TB ∨ (Jvm.Cond.methodLinkNest (iv_nm mi).cls idx (iv_nm ee.2.2.2.1) "OnlyNamed" ∈ lw_tbl)) := by
  unfold iv_gc at h
  simp only [Bool.and_eq_true] at h
  obtain ⟨h1, h2, h3, h4, h5, h6⟩ := h
  have hz := iv_blt h1
  refine ⟨hz, Nat.eq_of_beq_eq_true h2, Nat.eq_of_beq_eq_true h3, Nat.le_of_ble_eq_true h4, Nat.le_of_ble_eq_true h5, ?_⟩
  cases hc : decide (ee.2.2.2.2.2.1 = 0)
  · rw [hc, cond_false] at h6
    right
    have := (iv_atn_mem h6).1
    exact (show iv_s 84 = "OnlyNamed" from by rfl) ▸ this
  · rw [hc, cond_true] at h6
    left
    have := iv_at_mem h6
    unfold iv_wd at this
    have hb : Nat.beq ee.2.2.2.1 1000 = false := iv_nbeq (by omega)
    simp only [hb, cond_false] at this
    exact this
theorem iv_list_split {α : Type} (n : Nat) (st : List α) : st = (st.take n).reverse.reverse ++ st.drop n := by
  rw [List.reverse_reverse, List.take_append_drop]
theorem iv_obj_of {n ci : Nat} {as : List ivV} (h : iv_obj L n ci as = true) : ∃ x t, as = ivR x :: t ∧ (iv_lay L x).1 = 0 ∧ (iv_lay L x).2.1 = ci ∧ x ≤ n := by
  unfold iv_obj at h
  split at h
  · rename_i x t
    simp only [Bool.and_eq_true] at h
    exact ⟨x, t, rfl, Nat.eq_of_beq_eq_true h.1.1, Nat.eq_of_beq_eq_true h.1.2, Nat.le_of_ble_eq_true h.2⟩
  · cases h
/-- what a callee asks of the state -/
theorem iv_PcU {as : List ivV} (hR : iv_Rel D dA L b B0 n0 (iv_ml mi) s H w la ls st locs cells slots) (hT : iv_T s) (hok : ∀ a ∈ as, iv_ok w.1 a) : ∀ U : State, U.heap = H → s.WarmedH U.vm → iv_Pc D dA L b B0 as w (as.map (iv_cv b B0)).toArray U := fun U hU hW =>
  ⟨rfl, by rw [hU]; exact hR.1.moved hW.alike, hok, iv_T.warm hW hT, by
    rw [hU]
    obtain ⟨r1, -⟩ := hR
    have h1 := r1.1
    have h2 := r1.2.1
    omega⟩
theorem iv_run_snd (hL : L ≤ 2048) : ∀ f : Nat, iv_IH l D dA L b B0 f
  | 0 => fun mi pc ls st w r w' h => by cases h
  | f + 1 => by
    have ih : iv_IH l D dA L b B0 f := iv_run_snd hL f
    intro mi pc ls st w r w' h hmi p e R s m args below meth c Q n0 H la locs cells slots cx hcs hss hR hend
    obtain ⟨ee, hi, hcase⟩ := iv_run_cases h
    obtain ⟨hd, hg, hep⟩ := iv_good_of (iv_good_any mi hmi) hi
    obtain ⟨hx, hb, hr, hml, hown, hts, hT, hlocks, hname, hrf, hrl⟩ := id cx
    have hfix : CallFix p m c (iv_cd mi) (iv_ml mi) s args (iv_TB) (iv_nm mi).cls := ⟨hx, hb, hml, hown, hts⟩
    have hGB : ∀ {ws : List Jvm.Cond}, (∀ w ∈ ws, w ∈ iv_TB) → GoodIn iv_TB ws := fun h w hw => ⟨h w hw, iv_TB_good (h w hw)⟩
    have hwsz : ∀ {z : Nat}, z < 170 → ∀ w ∈ iv_ws z, w ∈ iv_TB := fun hz w hw => by
      rcases List.mem_cons.mp hw with rfl | hw
      · exact (iv_mg_of hz).2.2.1
      · exact hw
    rcases hcase with ⟨g, h1, h2⟩ | ⟨hi2, x, rfl, hz, hrr⟩ | ⟨hi2, x, rfl, hrr⟩ | ⟨hi2, rfl, hrr⟩ | ⟨⟨idx, hi2⟩, ⟨ha1, ha2, ha3⟩, ho, ⟨r1, w1⟩, h1, h2⟩ | ⟨⟨idx, hi2⟩, ⟨ha1, ha2, ha3⟩, ⟨r1, w1⟩, h1, h2⟩ | ⟨⟨idx, hi2⟩, hk, ⟨ha1, ha2, ha3⟩, ho, ⟨r1, w1⟩, h1, h2⟩ | ⟨⟨idx, hi2⟩, hk, x, st', rfl, hx2, hw8, h2⟩
    · have hm : g.2.2.2.1 ≤ w'.1 := iv_run_mono h2
      have hsm := iv_sl_mono L hm
      refine iv_step_snd cx hmi hi h1 hL (by omega) (by omega) hR fun la' H' locs' cells' slots' hR' => ?_
      exact ih mi g.1 g.2.1 g.2.2.1 g.2.2.2 r w' h2 hmi p e R s m args below meth c Q n0 H' la' locs' cells' slots' cx hcs hss hR' hend
    · cases hrr
      unfold iv_gi at hg
      rw [hi2] at hg hd
      simp only [Bool.and_eq_true] at hg
      rw [Nat.eq_of_beq_eq_true hg.1] at hd
      refine hend pc la ls _ H locs cells slots hR (Or.inr (Or.inl ⟨x, rfl, hR.hd, hd, ?_⟩))
      cases hzb : iv_zb mi
      · rw [hzb] at hg
        exact Or.inl (of_decide_eq_true hg.2)
      · rw [hzb] at hg
        exact Or.inr ⟨of_decide_eq_true hg.2, hz hzb⟩
    · cases hrr
      unfold iv_gi at hg
      rw [hi2] at hg hd
      simp only [Bool.and_eq_true] at hg
      rw [Nat.eq_of_beq_eq_true hg.1] at hd
      refine hend pc la ls _ H locs cells slots hR (Or.inr (Or.inr ⟨x, rfl, hR.hd, hd, ?_⟩))
      have hg2 := hg.2
      split at hg2
      · rename_i n hn; exact ⟨_, hn, Or.inl ⟨n, rfl⟩⟩
      · rename_i t hn; exact ⟨_, hn, Or.inr ⟨t, rfl⟩⟩
      · cases hg2
    · cases hrr
      unfold iv_gi at hg
      rw [hi2] at hg hd
      simp only [Bool.and_eq_true, decide_eq_true_eq] at hg
      rw [Nat.eq_of_beq_eq_true hg.1] at hd
      exact hend pc la ls _ H locs cells slots hR (Or.inl ⟨rfl, hd, hg.2⟩)
    · -- a call on an object
      unfold iv_gi at hg
      rw [hi2] at hg hd
      simp only [Bool.and_eq_true] at hg
      rw [Nat.eq_of_beq_eq_true hg.1] at hd
      obtain ⟨hz, hkind, hnp, hf1, hf2, hlink⟩ := iv_gc_of hg.2
      obtain ⟨m1, m2, m3, m4, m5, -, m7, -⟩ := iv_mg_of hz
      obtain ⟨n1, n2, q, hq1, hq2⟩ := m7 hkind
      have hst := iv_list_split ee.2.2.2.2.1 st
      have hlen : (st.take ee.2.2.2.2.1).reverse.length = iv_np ee.2.2.2.1 + 1 := by rw [List.length_reverse, List.length_take, Nat.min_eq_left ha1, hnp]; rfl
      have hwide : iv_wide (st.take ee.2.2.2.2.1).reverse ≤ iv_ml ee.2.2.2.1 := by rw [iv_wide_rev]; exact ha3
      generalize (st.take ee.2.2.2.2.1).reverse = as at ho h1 hst hlen hwide
      generalize hrest : st.drop ee.2.2.2.2.1 = rest at ha2 h2 hst
      subst hst
      have hok : ∀ a ∈ as, iv_ok w.1 a := fun a ha => hR.2.2.2.1 a (List.mem_append_left _ (List.mem_reverse.mpr ha))
      have hMet := iv_met (l := l) ih hz hwide h1
      obtain ⟨x, as', rfl, o1, o2, o3⟩ := iv_obj_of ho
      have hRr := hR.stk (st' := rest) fun v hv => hR.2.2.2.1 v (List.mem_append_right _ hv)
      obtain ⟨q', e1, e2, x2, ⟨cell, c1, c2, c3, c4⟩, hS, hfc, kC, hkC, hkind2⟩ := iv_objc hR.1 o1 o3
      rw [o2] at e1 c2 hfc
      cases hq1.symm.trans e1
      have hrm : w.1 ≤ w1.1 := iv_run_mono h1
      have hsm := iv_sl_mono L hrm
      have hm2 : w1.1 ≤ w'.1 := iv_run_mono h2
      have hsm2 := iv_sl_mono L hm2
      obtain ⟨-, -, -, -, -, ⟨r6, r8⟩, -⟩ := hR
      have hcv : iv_cv b B0 (ivR x) = .ref (iv_ad b B0 x) := iv_rv_ne (by omega)
      have hPU := iv_PcU (as := ivR x :: as') hRr hT hok
      rw [List.map_cons, hcv] at hPU
      have hcw : CallW R s args (iv_nm mi).cls (iv_nm ee.2.2.2.1).cls idx (iv_nm ee.2.2.2.1) (iv_cd ee.2.2.2.1) (iv_ml ee.2.2.2.1) (iv_rt ee.2.2.2.1) (iv_ws ee.2.2.2.1) (iv_room L ee.2.2.2.1 w w1) (w1.1 - w.1) (iv_sl L w1.1 - iv_sl L w.1) (iv_np ee.2.2.2.1) ∨
          (va_CN R s args (iv_nm mi).cls idx (iv_nm ee.2.2.2.1) "OnlyNamed" (iv_cd ee.2.2.2.1) (iv_ml ee.2.2.2.1) (iv_rt ee.2.2.2.1) (iv_ws ee.2.2.2.1) (iv_room L ee.2.2.2.1 w w1) (w1.1 - w.1) (iv_sl L w1.1 - iv_sl L w.1) (iv_np ee.2.2.2.1) ∧ (Jvm.Cond.instanceMethod (iv_nm ee.2.2.2.1)).before args s = true ∧ (Jvm.Cond.selects (iv_nm ee.2.2.2.1).cls (iv_nm ee.2.2.2.1) (iv_nm ee.2.2.2.1)).before args s = true) := by
        rcases hlink with hlink | hlink
        · left
          refine cwV _ hts (hGB fun w hw => ?_) rfl rfl rfl ⟨rfl, m2.1, m2.2, m5⟩ ⟨by show (iv_rm _).1 + 1 ≤ _; omega, by show 8 + (iv_ml _ + 11) + (iv_rm _).2 ≤ _; omega⟩
          unfold wsV at hw
          rcases List.mem_append.mp hw with hw | hw
          · simp only [List.mem_cons, List.not_mem_nil, or_false] at hw
            rcases hw with rfl | rfl | rfl | rfl
            · exact hlink
            · exact n1
            · exact n2
            · exact m4
          · exact hwsz hz w hw
        · right
          exact ⟨va_cnB _ hts (hGB (hwsz hz)) rfl rfl rfl (hT.1 _ hlink rfl) (hts _ m4) ⟨m2.1, m2.2, m5⟩ ⟨by show (iv_rm _).1 + 1 ≤ _; omega, by show 8 + (iv_ml _ + 11) + (iv_rm _).2 ≤ _; omega⟩, hts _ n1, hts _ n2⟩
      have hstk : ((ivR x :: as').reverse ++ rest).map (iv_cv b B0) = (as'.map (iv_cv b B0)).reverse ++ .ref (iv_ad b B0 x) :: rest.map (iv_cv b B0) := by
        rw [iv_rev_map, List.map_cons, List.reverse_cons, hcv, List.append_assoc]
        rfl
      have hn : (as'.map (iv_cv b B0)).length = iv_np ee.2.2.2.1 := by rw [List.length_map]; simpa using hlen
      have hpre : PreV s H (iv_nm ee.2.2.2.1).cls (iv_ad b B0 x) (iv_Pc D dA L b B0 (ivR x :: as') w) (as'.map (iv_cv b B0)) := ⟨iv_blind, ⟨cell, c1, by rw [c3]; rfl, by rw [c2, ← hq2]; exact hfc⟩, hPU⟩
      have hrun : ∃ a, va_Run p l e R s m args below meth c H locs cells slots (w1.1 - w.1) (iv_sl L w1.1 - iv_sl L w.1) (F0 m pc la (((ivR x :: as').reverse ++ rest).map (iv_cv b B0))) (rest.map (iv_cv b B0)) (iv_Qc D dA L b B0 r1 w1 a) (fun q => B0 ≤ q) := by
        rcases hcw with hcw | hcw
        · exact ⟨_, va_runV hfix hMet hcw hpre rfl hn (by rw [← hRr.2.1.1]; exact hRr.2.1.2.1.trans hRr.2.1.1.symm) hstk (lv_room (by rw [iv_wide_eq]; exact ha2)) hd ⟨by omega, by omega⟩⟩
        · exact ⟨_, va_runVN hfix hMet hcw hpre rfl hn (by rw [← hRr.2.1.1]; exact hRr.2.1.2.1.trans hRr.2.1.1.symm) hstk (lv_room (by rw [iv_wide_eq]; exact ha2)) hd ⟨by omega, by omega⟩⟩
      obtain ⟨a, hrun⟩ := hrun
      exact iv_after ih hmi cx hcs hss hRr hrm h2 hend hrun
    · -- a static call
      unfold iv_gi at hg
      rw [hi2] at hg hd
      simp only [Bool.and_eq_true] at hg
      rw [Nat.eq_of_beq_eq_true hg.1] at hd
      obtain ⟨hz, hkind, hnp, hf1, hf2, hlink⟩ := iv_gc_of hg.2
      obtain ⟨m1, m2, m3, m4, m5, m6, -, -⟩ := iv_mg_of hz
      have n1 := m6 hkind
      have hst := iv_list_split ee.2.2.2.2.1 st
      have hlen : (st.take ee.2.2.2.2.1).reverse.length = iv_np ee.2.2.2.1 := by rw [List.length_reverse, List.length_take, Nat.min_eq_left ha1, hnp]; rfl
      have hwide : iv_wide (st.take ee.2.2.2.2.1).reverse ≤ iv_ml ee.2.2.2.1 := by rw [iv_wide_rev]; exact ha3
      generalize (st.take ee.2.2.2.2.1).reverse = as at h1 hst hlen hwide
      generalize hrest : st.drop ee.2.2.2.2.1 = rest at ha2 h2 hst
      subst hst
      have hok : ∀ a ∈ as, iv_ok w.1 a := fun a ha => hR.2.2.2.1 a (List.mem_append_left _ (List.mem_reverse.mpr ha))
      have hMet := iv_met (l := l) ih hz hwide h1
      have hRr := hR.stk (st' := rest) fun v hv => hR.2.2.2.1 v (List.mem_append_right _ hv)
      have hrm : w.1 ≤ w1.1 := iv_run_mono h1
      have hsm := iv_sl_mono L hrm
      have hm2 : w1.1 ≤ w'.1 := iv_run_mono h2
      have hsm2 := iv_sl_mono L hm2
      obtain ⟨-, -, -, -, -, ⟨r6, r8⟩, -⟩ := hR
      have hPU := iv_PcU (as := as) hRr hT hok
      have hstk : (as.reverse ++ rest).map (iv_cv b B0) = (as.map (iv_cv b B0)).reverse ++ rest.map (iv_cv b B0) := iv_rev_map as rest
      have hn : (as.map (iv_cv b B0)).length = iv_np ee.2.2.2.1 := by rw [List.length_map]; exact hlen
      have hpre : PreS s H (iv_Pc D dA L b B0 as w) (as.map (iv_cv b B0)) := ⟨iv_blind, hPU⟩
      have hrun : ∃ a, va_Run p l e R s m args below meth c H locs cells slots (w1.1 - w.1) (iv_sl L w1.1 - iv_sl L w.1) (F0 m pc la ((as.reverse ++ rest).map (iv_cv b B0))) (rest.map (iv_cv b B0)) (iv_Qc D dA L b B0 r1 w1 a) (fun q => B0 ≤ q) := by
        rcases hlink with hlink | hlink
        · refine ⟨_, va_runS hfix hMet (va_cwS _ hts (hGB fun w hw => ?_) rfl rfl rfl ⟨m2.1, m2.2, m5⟩ ⟨by show (iv_rm _).1 + 1 ≤ _; omega, by show 8 + (iv_ml _ + 11) + (iv_rm _).2 ≤ _; omega⟩) hpre rfl hn (by rw [← hRr.2.1.1]; exact hRr.2.1.2.1.trans hRr.2.1.1.symm) hstk (lv_room (by rw [iv_wide_eq]; exact ha2)) hd ⟨by omega, by omega⟩⟩
          unfold va_wsS at hw
          rcases List.mem_append.mp hw with hw | hw
          · simp only [List.mem_cons, List.not_mem_nil, or_false] at hw
            rcases hw with rfl | rfl | rfl
            · exact hlink
            · exact n1
            · exact m4
          · exact hwsz hz w hw
        · exact ⟨_, va_runSN hfix hMet ⟨va_cnB _ hts (hGB (hwsz hz)) rfl rfl rfl (hT.1 _ hlink rfl) (hts _ m4) ⟨m2.1, m2.2, m5⟩ ⟨by show (iv_rm _).1 + 1 ≤ _; omega, by show 8 + (iv_ml _ + 11) + (iv_rm _).2 ≤ _; omega⟩, hts _ n1, trivial⟩ hpre rfl hn (by rw [← hRr.2.1.1]; exact hRr.2.1.2.1.trans hRr.2.1.1.symm) hstk (lv_room (by rw [iv_wide_eq]; exact ha2)) hd ⟨by omega, by omega⟩⟩
      obtain ⟨a, hrun⟩ := hrun
      exact iv_after ih hmi cx hcs hss hRr hrm h2 hend hrun
    · -- a constructor
      unfold iv_gi at hg
      rw [hi2] at hg hd
      simp only [Bool.and_eq_true, hk, cond_false] at hg
      rw [Nat.eq_of_beq_eq_true hg.1] at hd
      obtain ⟨hz, hkind, hnp, hf1, hf2, hlink⟩ := iv_gc_of hg.2
      obtain ⟨m1, m2, m3, m4, m5, -, -, m8⟩ := iv_mg_of hz
      obtain ⟨n1, n2, n3⟩ := m8 hkind
      have hst := iv_list_split ee.2.2.2.2.1 st
      have hlen : (st.take ee.2.2.2.2.1).reverse.length = iv_np ee.2.2.2.1 + 1 := by rw [List.length_reverse, List.length_take, Nat.min_eq_left ha1, hnp]; rfl
      have hwide : iv_wide (st.take ee.2.2.2.2.1).reverse ≤ iv_ml ee.2.2.2.1 := by rw [iv_wide_rev]; exact ha3
      generalize (st.take ee.2.2.2.2.1).reverse = as at ho h1 hst hlen hwide
      generalize hrest : st.drop ee.2.2.2.2.1 = rest at ha2 h2 hst
      subst hst
      have hok : ∀ a ∈ as, iv_ok w.1 a := fun a ha => hR.2.2.2.1 a (List.mem_append_left _ (List.mem_reverse.mpr ha))
      have hMet := iv_met (l := l) ih hz hwide h1
      have hwn : ∃ ws', iv_ws ee.2.2.2.1 = Jvm.Cond.code (iv_nm ee.2.2.2.1) (iv_cd ee.2.2.2.1) (iv_ml ee.2.2.2.1) none :: ws' := ⟨iv_TB, by unfold iv_ws; rw [n3]⟩
      obtain ⟨ws', hws'⟩ := hwn
      obtain ⟨x, as', rfl, o1, o2, o3⟩ := iv_obj_of ho
      have x2 : 2 ≤ x := (iv_cells hR.1 (iv_lay_obj o1).1 (by rw [o1]; decide) o3).2
      have hRr := hR.stk (st' := rest) fun v hv => hR.2.2.2.1 v (List.mem_append_right _ hv)
      have hrm : w.1 ≤ w1.1 := iv_run_mono h1
      have hsm := iv_sl_mono L hrm
      have hm2 : w1.1 ≤ w'.1 := iv_run_mono h2
      have hsm2 := iv_sl_mono L hm2
      obtain ⟨-, -, -, -, -, ⟨r6, r8⟩, -⟩ := hR
      have hcv : iv_cv b B0 (ivR x) = .ref (iv_ad b B0 x) := iv_rv_ne (by omega)
      have hPU := iv_PcU (as := ivR x :: as') hRr hT hok
      rw [List.map_cons, hcv] at hPU
      have hstk : ((ivR x :: as').reverse ++ rest).map (iv_cv b B0) = (as'.map (iv_cv b B0)).reverse ++ .ref (iv_ad b B0 x) :: rest.map (iv_cv b B0) := by
        rw [iv_rev_map, List.map_cons, List.reverse_cons, hcv, List.append_assoc]
        rfl
      have hn : (as'.map (iv_cv b B0)).length = iv_np ee.2.2.2.1 := by rw [List.length_map]; simpa using hlen
      have hpre : PreS s H (iv_Pc D dA L b B0 (ivR x :: as') w) (.ref (iv_ad b B0 x) :: as'.map (iv_cv b B0)) := ⟨iv_blind, hPU⟩
      have hrun : ∃ a, va_Run p l e R s m args below meth c H locs cells slots (w1.1 - w.1) (iv_sl L w1.1 - iv_sl L w.1) (F0 m pc la (((ivR x :: as').reverse ++ rest).map (iv_cv b B0))) (rest.map (iv_cv b B0)) (iv_Qc D dA L b B0 r1 w1 a) (fun q => B0 ≤ q) := by
        rcases hlink with hlink | hlink
        · exact ⟨_, va_runI hfix hMet (cwI _ hts (hGB (hwsz hz)) hws' rfl rfl (hts _ m4) (hts _ hlink) (hts _ n1) n2 ⟨m2.1, m2.2, m5⟩ ⟨by show (iv_rm _).1 + 1 ≤ _; omega, by show 8 + (iv_ml _ + 11) + (iv_rm _).2 ≤ _; omega⟩) hpre rfl hn (by rw [← hRr.2.1.1]; exact hRr.2.1.2.1.trans hRr.2.1.1.symm) hstk (lv_room (by rw [iv_wide_eq]; exact ha2)) hd ⟨by omega, by omega⟩⟩
        · exact ⟨_, va_runIN hfix hMet ⟨va_cnB _ hts (hGB (hwsz hz)) hws' rfl rfl (hT.1 _ hlink rfl) (hts _ m4) ⟨m2.1, m2.2, m5⟩ ⟨by show (iv_rm _).1 + 1 ≤ _; omega, by show 8 + (iv_ml _ + 11) + (iv_rm _).2 ≤ _; omega⟩, n2, hts _ n1⟩ hpre rfl hn (by rw [← hRr.2.1.1]; exact hRr.2.1.2.1.trans hRr.2.1.1.symm) hstk (lv_room (by rw [iv_wide_eq]; exact ha2)) hd ⟨by omega, by omega⟩⟩
      obtain ⟨a, hrun⟩ := hrun
      exact iv_after ih hmi cx hcs hss hRr hrm h2 hend hrun
    · -- Object's own constructor
      unfold iv_gi at hg
      rw [hi2] at hg hd
      simp only [Bool.and_eq_true, hk, cond_true] at hg
      rw [Nat.eq_of_beq_eq_true hg.1] at hd
      obtain ⟨hl1, hl2, hl3⟩ := hg.2
      have hlk := iv_at_mem hl1
      have hrm1 := Nat.le_of_ble_eq_true hl2
      have hrm2 := Nat.le_of_ble_eq_true hl3
      have hcv : iv_cv b B0 (ivR x) = .ref (iv_ad b B0 x) := iv_rv_ne (by omega)
      show W p l e R s m args below meth c H locs cells slots Q (F0 m pc la (iv_cv b B0 (ivR x) :: st'.map (iv_cv b B0)))
      rw [hcv]
      refine W.objInit hx hb hown (hts _ hlk) (hts _ iv_oi.1) (hts _ iv_oi.2) rfl (by rw [hml]; exact hR.2.1.2.1) rfl hd (by omega) ?_ ?_
      · have := lv_room (m := m) (pc := pc) (ls := la) (rest := Value.ref (iv_ad b B0 x) :: st'.map (iv_cv b B0)) (st := st'.map (iv_cv b B0)) (by rw [iv_wide_eq]; exact hw8)
        omega
      · exact ih mi (pc + 3) ls st' w r w' h2 hmi p e R s m args below meth c Q n0 H la locs cells slots cx hcs hss hR.tl hend
end IVS
end
section
/-! THE CLAIM OUT OF ONE WALK OF THE LAW'S BODY. Your part is whole_start (and what it stands on); all else here is the same for every law, but numbers. -/
def R_law : String := "OnlyNamedLaw"
def lw_P (b : Addr) (xs : List Int32) (args : Array Value) (s : State) : Prop := args = #[.ref b] ∧ s.IntsAt b xs ∧ xs.length ≤ 2048 ∧ (Jvm.Cond.and given_1 narrow_1).before args s = true
def lw_Q (_ : Array Value) (s : State) (o : Outcome) (t : State) : Prop := o = .returned (some (.int 1)) ∧ Framed s o t [] 600000 7302250
def lw_Z (below : List Frame) (a : Array Value) (s : State) : State → Prop := fun t => ∃ o, t.status = .running ∧ Ended t below o ∧ lw_Q a s o t
/-- the law's own end, with 1 on the stack, nothing written that was there before, its room as the claim has it -/
theorem lw_ret {p : Program} {l : Launch} {e : Env} {s : State} {m : MethodId} {below : List Frame} {meth : Method} {c : Code} {b : Nat} (hx : p.tables.exec = Jvm.exec) (hb : c.code = code) (hr : meth.sig.returnType = ret) (hlocks : meth.locks = false) {pc : Nat} {H : Heap} {ls : Array Slot} (hdg : decode code pc = .ok (.ireturn, 1)) : W p l e room_1 s m #[Value.ref b] below meth c H [] 600000 7302250 (lw_Z below #[Value.ref b] s) (F0 m pc ls [.int 1]) := by
  intro T hT X
  obtain ⟨fs, hret, hrun, hended, hW, hframe⟩ := X.leave (v := some (.int 1)) (hlocks := hlocks) (fun h => by rw [hr] at h; cases h)
  have hmeth' : T.vm.method? m = some meth := X.method'
  refine ⟨T.setFrames fs, ?_, .returned (some (.int 1)), hrun, hended, rfl, ⟨_, rfl⟩, hW, hframe⟩
  jvm_step X.here [X.here.top, hx, hb, hdg, hmeth', hr, ret, narrow_b1]
  (try refine ⟨rfl, ?_⟩); (try refine ⟨rfl, ?_⟩)
  first | (intro acts; rw [hret _ acts rfl rfl rfl]) | rw [hret _ _ rfl rfl rfl]
  exact Steps.refl _
/-- what holds at the law's entry: the machine, the code, the tables' words (any of lw_tbl by 'hts w (by decide +kernel)'), the script of L ints xs at the cell b, what the Statement gives of the start (any of its parts by flat_of_before) -/
def lw_At (p : Program) (s : State) (m : MethodId) (meth : Method) (c : Code) (b L : Nat) (xs : Nat → Int32) : Prop :=
  p.tables.exec = Jvm.exec ∧ c.code = code ∧ meth.sig.returnType = ret ∧ c.maxLocals = 4 ∧ s.vm.findClass R_law = some m.cls ∧ (∀ w ∈ lw_tbl, w.before #[Value.ref b] s = true) ∧ va_X b L xs s s.heap ∧ b < s.heap.size ∧ meth.locks = false ∧ (Jvm.Cond.and given_1 narrow_1).before #[Value.ref b] s = true
/-! THE LAW'S RUN GIVES THE WALK -/
theorem iv_sl_shift (L : Nat) : ∀ n : Nat, iv_sl L (n + 1) = iv_sl 0 (n + 1) + L
  | 0 => by show 0 + L = (0 + 0) + L; omega
  | n + 1 => by
    show iv_sl L (n + 1) + (iv_lay L (n + 1 + 1)).2.2 = (iv_sl 0 (n + 1) + (iv_lay 0 (n + 1 + 1)).2.2) + L
    have e : iv_lay L (n + 1 + 1) = iv_lay 0 (n + 1 + 1) := by
      unfold iv_lay
      rw [iv_nbeq (show n + 1 + 1 ≠ 1 by omega)]
      rfl
    rw [iv_sl_shift L n, e]
    omega
theorem iv_sl_135 : iv_sl 0 135 = 5816 := by decide +kernel
def iv_mu0 (xs : Nat → Int32) : ivM := fun a k => if a = 1 then (xs k).toInt else 0
theorem iv_known {s : State} {args : Array Value} (hts : ∀ w ∈ lw_tbl, w.before args s = true) : ∃ (D : va_G) (dA : Nat → ClassId), va_K D iv_cl (iv_tys dA) s := by
  have hTB : ∀ w ∈ iv_TB, w.before args s = true := fun w hw => hts w (List.mem_filter.mp hw).1
  have h1 : ∀ ci : Nat, ∃ q : ClassId × (Nat → Nat), ∀ r, iv_cl[ci]? = some r → u_Kn s r.1 r.2.1 r.2.2 q.1 q.2 := by
    intro ci
    cases hc : iv_cl[ci]? with
    | none => exact ⟨(0, fun _ => 0), fun r h => by cases h⟩
    | some r =>
      obtain ⟨q, hq, rfl⟩ := iv_cl_of hc
      obtain ⟨hin, -, -, hinst, -⟩ := iv_cg_of hq
      obtain ⟨cC, iS, h⟩ := u_known (C := iv_s q.1) (T := iv_Tf ci) (N := q.2) hTB hin (hTB _ hinst)
      exact ⟨(cC, iS), fun r hr => by cases hr; exact h⟩
  obtain ⟨cI, kI, compI, i1, i2, i3⟩ := Cond.arrayClass_spec (hTB _ iv_ac_int)
  obtain ⟨cZ, kZ, compZ, z1, z2, z3⟩ := Cond.arrayClass_spec (hTB _ iv_ac_bool)
  obtain ⟨compM, cM, kM, m1, -, m3, m4, m5⟩ := Cond.arrayOver_spec (hts _ (iv_wcg_mem (i := 192) (c := (18, 0, 0, 0, 0, 0)) (by decide +kernel) (by decide)))
  obtain ⟨compR, cR, kR, r1, -, r3, r4, r5⟩ := Cond.arrayOver_spec (hts _ (iv_wcg_mem (i := 218) (c := (18, 2, 0, 0, 0, 0)) (by decide +kernel) (by decide)))
  obtain ⟨compA, cA, kA, a1, -, a3, a4, a5⟩ := arrayOverA_spec (t := .int) (hts _ (iv_wcg_mem (i := 200) (c := (18, 1, 0, 0, 0, 0)) (by decide +kernel) (by decide)))
  refine ⟨(fun ci => (Classical.choose (h1 ci)).1, fun ci => (Classical.choose (h1 ci)).2), fun t => match t with | 0 => cI | 1 => cZ | 2 => cM | 3 => cR | _ => cA, fun ci r hr => Classical.choose_spec (h1 ci) r hr, fun k q hk => ?_⟩
  rcases k with _ | _ | _ | _ | _ | k
  · cases hk
    exact ⟨fun N z => ⟨(fun q hq => by cases hq), kI, i2, compI, i3⟩, i1⟩
  · cases hk
    exact ⟨fun N z => ⟨(fun q hq => by cases hq), kZ, z2, compZ, z3⟩, z1⟩
  · cases hk
    exact ⟨fun N z => ⟨(fun q hq => by cases hq), kM, m3, compM, m4⟩, kM, compM, m3, m4, m1, m5⟩
  · cases hk
    exact ⟨fun N z => ⟨(fun q hq => by cases hq), kR, r3, compR, r4⟩, kR, compR, r3, r4, r1, r5⟩
  · cases hk
    exact ⟨fun N z => ⟨(fun q hq => by cases hq), kA, a3, compA, a4⟩, a5⟩
  · cases hk
theorem iv_Tlaw {s : State} {args : Array Value} (hts : ∀ w ∈ lw_tbl, w.before args s = true) : iv_T s := by
  refine ⟨fun w hw hn => ?_, ?_, ?_, ?_⟩
  · have h := hts w hw
    cases w <;> first | exact va_Nw.of rfl h | cases hn
  · exact va_AO.of (hts _ (iv_wcg_mem (i := 192) (c := (18, 0, 0, 0, 0, 0)) (by decide +kernel) (by decide)))
  · exact va_AO.of (hts _ (iv_wcg_mem (i := 218) (c := (18, 2, 0, 0, 0, 0)) (by decide +kernel) (by decide)))
  · exact hts _ (iv_wcg_mem (i := 200) (c := (18, 1, 0, 0, 0, 0)) (by decide +kernel) (by decide))
theorem iv_whole {p : Program} {e : Env} {s : State} {m : MethodId} {below : List Frame} {meth : Method} {c : Code} (l : Launch) {b L : Nat} {xs : Nat → Int32} (hL : L ≤ 2048) (C0 : lw_At p s m meth c b L xs) {μ : ivM} {ρ : ivN}
    (hrun : iv_Ret L 170 0 [ivR 1, ivU, ivU, ivU] [] (1, iv_mu0 xs, fun _ _ => 0) (some (ivI 1)) (135, μ, ρ)) : W p l e room_1 s m #[Value.ref b] below meth c s.heap [] 0 0 (lw_Z below #[Value.ref b] s) (entryFrame m ([Value.ref b] : List Value).toArray 4) := by
  obtain ⟨hx, hb, hr, hml, hown, hts, hX, hbl, hlocks, hgv⟩ := id C0
  obtain ⟨f, hf⟩ := hrun
  obtain ⟨D, dA, hK⟩ := iv_known hts
  have cx : iv_cx p room_1 s m #[Value.ref b] meth c 170 := ⟨hx, hb, hr, hml, hown, fun w hw => hts w (List.mem_filter.mp hw).1, iv_Tlaw hts, hlocks, (fun h => absurd h (by decide +kernel)), Nat.le_of_ble_eq_true rfl, Nat.le_of_ble_eq_true rfl⟩
  have hHR : iv_HR D dA L b s.heap.size s s.heap (1, iv_mu0 xs, fun _ _ => 0) := by
    refine ⟨Nat.le_refl _, rfl, hbl, ?_, fun x h1 h2 => ?_, fun x k => ?_, fun x k => Nat.zero_le _, hK⟩
    · have e1 : (fun k => Int32.ofInt (iv_mu0 xs 1 k)) = xs := funext fun k => Int32.ofInt_toInt (xs k)
      show va_X b L (fun k => Int32.ofInt (iv_mu0 xs 1 k)) s s.heap
      rw [e1]
      exact hX
    · have h3 : x ≤ 1 := h2
      omega
    · show iv_in (iv_mu0 xs x k)
      unfold iv_mu0
      split
      · exact iv_in32 _
      · exact iv_in0
  have hmap : ([ivR 1] : List ivV).map (iv_cv b s.heap.size) = [.ref b] := rfl
  have hlr := iv_ent_lr (b := b) (B0 := s.heap.size) (n := 4) (as := [ivR 1]) (by decide)
  rw [hmap] at hlr
  have hRel : iv_Rel D dA L b s.heap.size 1 (iv_ml 170) s s.heap (1, iv_mu0 xs, fun _ _ => 0) ((lg_sl [.ref b] ++ List.replicate (4 - (lg_sl [.ref b]).length) Slot.unset).toArray) [ivR 1, ivU, ivU, ivU] [] [] 0 0 :=
    ⟨hHR, hlr, fun v hv => (by
      rcases List.mem_cons.mp hv with rfl | hv
      · exact Nat.le_refl 1
      · rcases List.mem_cons.mp hv with rfl | hv
        · trivial
        · rcases List.mem_cons.mp hv with rfl | hv
          · trivial
          · rcases List.mem_cons.mp hv with rfl | hv
            · trivial
            · cases hv), fun v hv => (by cases hv), va_S.rf, ⟨rfl, Nat.zero_add _⟩, Nat.le_refl _⟩
  have hsl : iv_sl L 135 = iv_sl L 1 + 5816 := by rw [iv_sl_shift L 134, iv_sl_shift L 0, iv_sl_135]; show 5816 + L = (0 + 0) + L + 5816; omega
  have hend : iv_End l D dA L b s.heap.size 1 170 p e room_1 s m #[Value.ref b] below meth c (lw_Z below #[Value.ref b] s) (some (ivI 1)) (135, μ, ρ) := by
    intro pc la ls st H locs cells slots hR hcase
    obtain ⟨-, -, -, -, r5, ⟨r6, r7⟩, -⟩ := hR
    have r6' : cells + 1 = 135 := r6
    have r7' : slots + iv_sl L 1 = iv_sl L 135 := r7
    rcases hcase with ⟨h, -⟩ | ⟨x, h, -, hd, -⟩ | ⟨x, h, -⟩
    · cases h
    · cases h
      refine va_forget r5.2.2 (W.widen (k := 600000) (n := 7302250) (by omega) (by omega) ?_)
      exact lw_ret hx hb hr hlocks hd
    · cases h
  have hg := iv_run_snd (l := l) (D := D) (dA := dA) (b := b) (B0 := s.heap.size) hL f 170 0 _ _ _ _ _ hf (by omega) p e room_1 s m _ below meth c _ 1 s.heap _ [] 0 0 cx (by show 135 ≤ 600000 + 1; omega) (by show iv_sl L 135 ≤ 7302250 + iv_sl L 1; omega) hRel hend
  rw [lg_entry_eq]
  exact hg
end
section
/-- where the references lead, once all is made -/
def iv_RH : List (List (List Nat)) := [[[], [], [3, 5, 9, 11, 15, 24, 32, 99, 105], [4], [], [6, 7, 8], [], [], [], [10], [], [12, 13, 14], [], [], [], [16, 20]],
  [[17, 18, 19], [], [], [], [21, 22, 23], [], [], [], [25], [26, 27, 28, 29, 30, 31], [], [], [], [], [], []],
  [[34, 33], [], [35, 43, 51, 59, 67, 75, 83, 91], [36], [37, 38, 39, 40, 41, 42], [], [], [], [], [], [], [44], [45, 46, 47, 48, 49, 50], [], [], []],
  [[], [], [], [52], [53, 54, 55, 56, 57, 58], [], [], [], [], [], [], [60], [61, 62, 63, 64, 65, 66], [], [], []],
  [[], [], [], [68], [69, 70, 71, 72, 73, 74], [], [], [], [], [], [], [76], [77, 78, 79, 80, 81, 82], [], [], []],
  [[], [], [], [84], [85, 86, 87, 88, 89, 90], [], [], [], [], [], [], [92], [93, 94, 95, 96, 97, 98], [], [], []],
  [[], [], [], [100, 101, 102, 103, 104], [], [], [], [], [], [0, 106, 107, 108, 109], [], [], [], [], [111, 112, 113, 114, 0, 0, 0, 115, 116, 117, 118, 119, 0, 0, 0, 0, 120, 0, 0, 0, 121, 0, 122, 123, 124, 125, 0, 126, 127, 128, 129, 130, 131, 132, 133, 134, 135], []],
  [[], [], [], [], [], [], [], [], [], [], [], [], [], [], [], []],
  [[], [], [], [], [], [], [], []]]
def iv_rho : ivN := fun a k => ((iv_RH.getD (a / 16) []).getD (a % 16) []).getD k 0
abbrev ivST (μ : ivM) : ivS := (135, μ, iv_rho)
/-! RUNS BY PIECES -/
def iv_steps (L mi : Nat) : Nat → Nat → List ivV → List ivV → ivS → Option (Nat × List ivV × List ivV × ivS)
  | 0, pc, ls, st, w => some (pc, ls, st, w)
  | k + 1, pc, ls, st, w => match iv_ins mi pc with
    | none => none
    | some e => match iv_step L pc e ls st w with
      | none => none
      | some g => iv_steps L mi k g.1 g.2.1 g.2.2.1 g.2.2.2
section IVR
variable {L mi pc : Nat} {ls st : List ivV} {w v : ivS} {r : Option ivV}
theorem iv_Ret.one {e : ivE} {g : Nat × List ivV × List ivV × ivS} (hi : iv_ins mi pc = some e) (hs : iv_step L pc e ls st w = some g) (k : iv_Ret L mi g.1 g.2.1 g.2.2.1 g.2.2.2 r v) : iv_Ret L mi pc ls st w r v := by
  obtain ⟨f, hf⟩ := k
  refine ⟨f + 1, ?_⟩
  show (match iv_ins mi pc with | none => none | some e => _) = _
  rw [hi]
  dsimp only
  rw [hs]
  exact hf
theorem iv_Ret.og {e : ivE} {pc' : Nat} {ls' st' : List ivV} {w' : ivS} (hi : iv_ins mi pc = some e) (k : iv_Ret L mi pc' ls' st' w' r v) (hs : iv_step L pc e ls st w = some (pc', ls', st', w')) : iv_Ret L mi pc ls st w r v := iv_Ret.one hi hs k
theorem iv_Ret.steps {n pc' : Nat} {ls' st' : List ivV} {w' : ivS} (h : iv_steps L mi n pc ls st w = some (pc', ls', st', w')) (k : iv_Ret L mi pc' ls' st' w' r v) : iv_Ret L mi pc ls st w r v := by
  induction n generalizing pc ls st w with
  | zero => cases h; exact k
  | succ n ih =>
    unfold iv_steps at h
    split at h
    · cases h
    · rename_i e he
      split at h
      · cases h
      · rename_i g hg
        exact iv_Ret.one he hg (ih h)
theorem iv_run_more : ∀ {f mi pc : Nat} {ls st : List ivV} {w : ivS} {r : Option ivV × ivS}, iv_run L f mi pc ls st w = some r → iv_run L (f + 1) mi pc ls st w = some r
  | 0, _, _, _, _, _, _, h => by cases h
  | f + 1, mi, pc, ls, st, w, r, h => by
    unfold iv_run at h ⊢
    split at h
    · cases h
    · rename_i e he
      split at h
      · rename_i g hg
        exact iv_run_more h
      · split at h
        · exact h
        · exact h
        · exact h
        · obtain ⟨h1, h2⟩ := iv_bifc h
          rw [h1, cond_true]
          split at h2
          · rename_i r1 hr1
            rw [iv_run_more hr1]
            exact iv_run_more h2
          · cases h2
        · obtain ⟨h1, h2⟩ := iv_bifc h
          rw [h1, cond_true]
          split at h2
          · rename_i r1 hr1
            rw [iv_run_more hr1]
            exact iv_run_more h2
          · cases h2
        · cases hk : Nat.ble 1000 e.2.2.2.1
          · rw [hk, cond_false] at h
            rw [cond_false]
            obtain ⟨h1, h2⟩ := iv_bifc h
            rw [h1, cond_true]
            split at h2
            · rename_i r1 hr1
              rw [iv_run_more hr1]
              exact iv_run_more h2
            · cases h2
          · rw [hk, cond_true] at h
            rw [cond_true]
            split at h
            · obtain ⟨h1, h2⟩ := iv_bifc h
              rw [h1, cond_true]
              exact iv_run_more h2
            · cases h
        · cases h
theorem iv_run_le {f g : Nat} (hg : f ≤ g) {mi pc : Nat} {ls st : List ivV} {w : ivS} {r : Option ivV × ivS} (h : iv_run L f mi pc ls st w = some r) : iv_run L g mi pc ls st w = some r := by
  induction g with
  | zero => rw [Nat.le_zero.mp hg] at h; exact h
  | succ n ih =>
    by_cases e : f = n + 1
    · rw [← e]; exact h
    · exact iv_run_more (ih (by omega))
theorem iv_Ret.callv {ep idx el z nb ew : Nat} {ec : Int} {r1 : Option ivV} {w1 : ivS} (hi : iv_ins mi pc = some (ep, .invokevirtual idx, el, z, nb, ec, ew)) (hc : (Nat.ble nb st.length && Nat.ble (iv_wide (st.drop nb)) 8 && Nat.ble (iv_wide (st.take nb)) (iv_ml z)) = true) (ho : iv_obj L w.1 (iv_own z) (st.take nb).reverse = true)
    (h1 : iv_Ret L z 0 (iv_ent (iv_ml z) (st.take nb).reverse) [] w r1 w1) (h2 : iv_Ret L mi (pc + 3) ls (r1.toList ++ st.drop nb) w1 r v) : iv_Ret L mi pc ls st w r v := by
  obtain ⟨f1, h1⟩ := h1
  obtain ⟨f2, h2⟩ := h2
  refine ⟨max f1 f2 + 1, ?_⟩
  show (match iv_ins mi pc with | none => none | some e => _) = _
  rw [hi]
  dsimp only [iv_step]
  rw [hc, ho, Bool.and_true, cond_true]
  rw [iv_run_le (Nat.le_max_left f1 f2) h1]
  exact iv_run_le (Nat.le_max_right f1 f2) h2
theorem iv_Ret.calls {ep idx el z nb ew : Nat} {ec : Int} {r1 : Option ivV} {w1 : ivS} (hi : iv_ins mi pc = some (ep, .invokestatic idx, el, z, nb, ec, ew)) (hc : (Nat.ble nb st.length && Nat.ble (iv_wide (st.drop nb)) 8 && Nat.ble (iv_wide (st.take nb)) (iv_ml z)) = true)
    (h1 : iv_Ret L z 0 (iv_ent (iv_ml z) (st.take nb).reverse) [] w r1 w1) (h2 : iv_Ret L mi (pc + 3) ls (r1.toList ++ st.drop nb) w1 r v) : iv_Ret L mi pc ls st w r v := by
  obtain ⟨f1, h1⟩ := h1
  obtain ⟨f2, h2⟩ := h2
  refine ⟨max f1 f2 + 1, ?_⟩
  show (match iv_ins mi pc with | none => none | some e => _) = _
  rw [hi]
  dsimp only [iv_step]
  rw [hc, cond_true]
  rw [iv_run_le (Nat.le_max_left f1 f2) h1]
  exact iv_run_le (Nat.le_max_right f1 f2) h2
theorem iv_obj_sym {n ci nf x : Nat} {as : List ivV} (hl : iv_lay L x = (0, ci, nf)) (hn : Nat.ble x n = true) : iv_obj L n ci (ivR x :: as) = true := by
  show (Nat.beq (iv_lay L x).1 0 && Nat.beq (iv_lay L x).2.1 ci && Nat.ble x n) = true
  rw [hl, hn]
  simp
/-- jumps -/
theorem iv_Ret.icT {ep el ea eb ew t : Nat} {ec o x y : Int} {cn : Jvm.ClassFile.Cond} (hi : iv_ins mi pc = some (ep, .if_icmp cn o, el, ea, eb, ec, ew)) (hc : iv_cmp cn x y = true) (ht : ((pc : Int) + o).toNat = t) (k : iv_Ret L mi t ls st w r v) : iv_Ret L mi pc ls (ivI y :: ivI x :: st) w r v :=
  iv_Ret.one hi (by show some (bif iv_cmp cn x y then ((pc : Int) + o).toNat else pc + 3, ls, st, w) = some (t, ls, st, w); rw [hc, ht]; rfl) k
theorem iv_Ret.icF {ep el ea eb ew t : Nat} {ec o x y : Int} {cn : Jvm.ClassFile.Cond} (hi : iv_ins mi pc = some (ep, .if_icmp cn o, el, ea, eb, ec, ew)) (hc : iv_cmp cn x y = false) (ht : pc + 3 = t) (k : iv_Ret L mi t ls st w r v) : iv_Ret L mi pc ls (ivI y :: ivI x :: st) w r v :=
  iv_Ret.one hi (by show some (bif iv_cmp cn x y then ((pc : Int) + o).toNat else pc + 3, ls, st, w) = some (t, ls, st, w); rw [hc, ht]; rfl) k
theorem iv_Ret.ifT {ep el ea eb ew t : Nat} {ec o x : Int} {cn : Jvm.ClassFile.Cond} (hi : iv_ins mi pc = some (ep, .ifCond cn o, el, ea, eb, ec, ew)) (hc : iv_cmp cn x 0 = true) (ht : ((pc : Int) + o).toNat = t) (k : iv_Ret L mi t ls st w r v) : iv_Ret L mi pc ls (ivI x :: st) w r v :=
  iv_Ret.one hi (by show some (bif iv_cmp cn x 0 then ((pc : Int) + o).toNat else pc + 3, ls, st, w) = some (t, ls, st, w); rw [hc, ht]; rfl) k
theorem iv_Ret.ifF {ep el ea eb ew t : Nat} {ec o x : Int} {cn : Jvm.ClassFile.Cond} (hi : iv_ins mi pc = some (ep, .ifCond cn o, el, ea, eb, ec, ew)) (hc : iv_cmp cn x 0 = false) (ht : pc + 3 = t) (k : iv_Ret L mi t ls st w r v) : iv_Ret L mi pc ls (ivI x :: st) w r v :=
  iv_Ret.one hi (by show some (bif iv_cmp cn x 0 then ((pc : Int) + o).toNat else pc + 3, ls, st, w) = some (t, ls, st, w); rw [hc, ht]; rfl) k
theorem iv_Ret.nuT {ep el ea eb ew t x : Nat} {ec o : Int} (hi : iv_ins mi pc = some (ep, .ifnull o, el, ea, eb, ec, ew)) (hc : x = 0) (ht : ((pc : Int) + o).toNat = t) (k : iv_Ret L mi t ls st w r v) : iv_Ret L mi pc ls (ivR x :: st) w r v :=
  iv_Ret.one hi (by show some (bif Nat.beq x 0 then ((pc : Int) + o).toNat else pc + 3, ls, st, w) = some (t, ls, st, w); rw [hc, ht]; rfl) k
theorem iv_Ret.nuF {ep el ea eb ew t x : Nat} {ec o : Int} (hi : iv_ins mi pc = some (ep, .ifnull o, el, ea, eb, ec, ew)) (hc : ¬ x = 0) (ht : pc + 3 = t) (k : iv_Ret L mi t ls st w r v) : iv_Ret L mi pc ls (ivR x :: st) w r v :=
  iv_Ret.one hi (by show some (bif Nat.beq x 0 then ((pc : Int) + o).toNat else pc + 3, ls, st, w) = some (t, ls, st, w); rw [iv_nbeq hc, ht]; rfl) k
theorem iv_Ret.nnT {ep el ea eb ew t x : Nat} {ec o : Int} (hi : iv_ins mi pc = some (ep, .ifnonnull o, el, ea, eb, ec, ew)) (hc : ¬ x = 0) (ht : ((pc : Int) + o).toNat = t) (k : iv_Ret L mi t ls st w r v) : iv_Ret L mi pc ls (ivR x :: st) w r v :=
  iv_Ret.one hi (by show some (bif Nat.beq x 0 then pc + 3 else ((pc : Int) + o).toNat, ls, st, w) = some (t, ls, st, w); rw [iv_nbeq hc, ht]; rfl) k
theorem iv_Ret.nnF {ep el ea eb ew t x : Nat} {ec o : Int} (hi : iv_ins mi pc = some (ep, .ifnonnull o, el, ea, eb, ec, ew)) (hc : x = 0) (ht : pc + 3 = t) (k : iv_Ret L mi t ls st w r v) : iv_Ret L mi pc ls (ivR x :: st) w r v :=
  iv_Ret.one hi (by show some (bif Nat.beq x 0 then pc + 3 else ((pc : Int) + o).toNat, ls, st, w) = some (t, ls, st, w); rw [hc, ht]; rfl) k
/-- switches: the place where the value x leads -/
theorem iv_Ret.tsO {ep el ea eb ew t : Nat} {ec d lo hi x : Int} {os : Array Int} (hin : iv_ins mi pc = some (ep, .tableswitch d lo hi os, el, ea, eb, ec, ew)) (hc : (decide (x < lo) || decide (hi < x)) = true) (ht : ((pc : Int) + d).toNat = t) (k : iv_Ret L mi t ls st w r v) : iv_Ret L mi pc ls (ivI x :: st) w r v :=
  iv_Ret.one hin (by show some (bif decide (x < lo) || decide (hi < x) then ((pc : Int) + d).toNat else ((pc : Int) + os.toList.getD (x - lo).toNat 0).toNat, ls, st, w) = some (t, ls, st, w); rw [hc, ht]; rfl) k
theorem iv_Ret.tsI {ep el ea eb ew t : Nat} {ec d lo hi x y : Int} {os : Array Int} (hin : iv_ins mi pc = some (ep, .tableswitch d lo hi os, el, ea, eb, ec, ew)) (hx : x = y) (ht : (bif decide (y < lo) || decide (hi < y) then ((pc : Int) + d).toNat else ((pc : Int) + os.toList.getD (y - lo).toNat 0).toNat) = t) (k : iv_Ret L mi t ls st w r v) : iv_Ret L mi pc ls (ivI x :: st) w r v :=
  iv_Ret.one hin (by show some (bif decide (x < lo) || decide (hi < x) then ((pc : Int) + d).toNat else ((pc : Int) + os.toList.getD (x - lo).toNat 0).toNat, ls, st, w) = some (t, ls, st, w); rw [hx, ht]) k
theorem iv_Ret.lk {ep el ea eb ew t : Nat} {ec d x : Int} {ps : Array (Int × Int)} (hi : iv_ins mi pc = some (ep, .lookupswitch d ps, el, ea, eb, ec, ew)) (ht : ((pc : Int) + Op.lookupswitch.offset ps.toList d x).toNat = t) (k : iv_Ret L mi t ls st w r v) : iv_Ret L mi pc ls (ivI x :: st) w r v :=
  iv_Ret.one hi (by show some (((pc : Int) + Op.lookupswitch.offset ps.toList d x).toNat, ls, st, w) = some (t, ls, st, w); rw [ht]) k
/-- ends -/
theorem iv_Ret.zret {x : Int} {ep el ea eb ew : Nat} {ec : Int} (hi : iv_ins mi pc = some (ep, .ireturn, el, ea, eb, ec, ew)) (hx : x = 0 ∨ x = 1) : iv_Ret L mi pc ls [ivI x] w (some (ivI x)) w := by
  refine ⟨1, ?_⟩
  show (match iv_ins mi pc with | none => none | some e => _) = _
  rw [hi]
  dsimp only [iv_step]
  cases iv_zb mi
  · rfl
  · rcases hx with rfl | rfl <;> rfl
end IVR
/-! arrays and fields -/
section IVR
variable {L mi pc x ep el ea eb ew n : Nat} {ec : Int} {ls st : List ivV} {μ : ivM} {ρ : ivN} {v : ivS} {r : Option ivV}
theorem iv_Ret.iald {i : Int} {len : Nat} (hi : iv_ins mi pc = some (ep, .iaload, el, ea, eb, ec, ew)) (hl : iv_lay L x = (1, 0, len)) (hn : Nat.ble x n = true) (h0 : 0 ≤ i) (h1 : i < len) (k : iv_Ret L mi (pc + 1) ls (ivI (μ x i.toNat) :: st) (n, μ, ρ) r v) : iv_Ret L mi pc ls (ivI i :: ivR x :: st) (n, μ, ρ) r v := by
  refine iv_Ret.og hi k ?_
  show (bif Nat.beq (iv_lay L x).1 1 && Nat.beq (iv_lay L x).2.1 0 && Nat.ble x n && (decide (0 ≤ i) && decide (i < (iv_lay L x).2.2)) then some _ else none) = _
  rw [hl, hn, decide_eq_true h0, decide_eq_true h1]
  rfl
theorem iv_Ret.bald {i : Int} {len : Nat} (hi : iv_ins mi pc = some (ep, .baload, el, ea, eb, ec, ew)) (hl : iv_lay L x = (1, 1, len)) (hn : Nat.ble x n = true) (h0 : 0 ≤ i) (h1 : i < len) (k : iv_Ret L mi (pc + 1) ls (ivI (μ x i.toNat) :: st) (n, μ, ρ) r v) : iv_Ret L mi pc ls (ivI i :: ivR x :: st) (n, μ, ρ) r v := by
  refine iv_Ret.og hi k ?_
  show (bif Nat.beq (iv_lay L x).1 1 && Nat.beq (iv_lay L x).2.1 1 && Nat.ble x n && (decide (0 ≤ i) && decide (i < (iv_lay L x).2.2)) then some _ else none) = _
  rw [hl, hn, decide_eq_true h0, decide_eq_true h1]
  rfl
theorem iv_Ret.aald {i : Int} {t len y : Nat} (hi : iv_ins mi pc = some (ep, .aaload, el, ea, eb, ec, ew)) (hl : iv_lay L x = (1, t, len)) (ht : Nat.ble 2 t = true) (hn : Nat.ble x n = true) (h0 : 0 ≤ i) (h1 : i < len) (hy : ρ x i.toNat = y) (k : iv_Ret L mi (pc + 1) ls (ivR y :: st) (n, μ, ρ) r v) : iv_Ret L mi pc ls (ivI i :: ivR x :: st) (n, μ, ρ) r v := by
  refine iv_Ret.og hi k ?_
  show (bif Nat.beq (iv_lay L x).1 1 && Nat.ble 2 (iv_lay L x).2.1 && Nat.ble x n && (decide (0 ≤ i) && decide (i < (iv_lay L x).2.2)) then some (pc + 1, ls, ivR (ρ x i.toNat) :: st, n, μ, ρ) else none) = _
  rw [hl, ht, hn, decide_eq_true h0, decide_eq_true h1, hy]
  rfl
theorem iv_Ret.iast {i u : Int} {len : Nat} (hi : iv_ins mi pc = some (ep, .iastore, el, ea, eb, ec, ew)) (h2 : Nat.ble 2 x = true) (hl : iv_lay L x = (1, 0, len)) (hn : Nat.ble x n = true) (h0 : 0 ≤ i) (h1 : i < len) (k : iv_Ret L mi (pc + 1) ls st (n, iv_upd μ x i.toNat u, ρ) r v) : iv_Ret L mi pc ls (ivI u :: ivI i :: ivR x :: st) (n, μ, ρ) r v := by
  refine iv_Ret.og hi k ?_
  show (bif Nat.ble 2 x && Nat.beq (iv_lay L x).1 1 && Nat.beq (iv_lay L x).2.1 0 && Nat.ble x n && (decide (0 ≤ i) && decide (i < (iv_lay L x).2.2)) then some _ else none) = _
  rw [h2, hl, hn, decide_eq_true h0, decide_eq_true h1]
  rfl
theorem iv_Ret.bast {i u : Int} {len : Nat} (hi : iv_ins mi pc = some (ep, .bastore, el, ea, eb, ec, ew)) (h2 : Nat.ble 2 x = true) (hl : iv_lay L x = (1, 1, len)) (hn : Nat.ble x n = true) (h0 : 0 ≤ i) (h1 : i < len) (k : iv_Ret L mi (pc + 1) ls st (n, iv_upd μ x i.toNat (u % 2), ρ) r v) : iv_Ret L mi pc ls (ivI u :: ivI i :: ivR x :: st) (n, μ, ρ) r v := by
  refine iv_Ret.og hi k ?_
  show (bif Nat.ble 2 x && Nat.beq (iv_lay L x).1 1 && Nat.beq (iv_lay L x).2.1 1 && Nat.ble x n && (decide (0 ≤ i) && decide (i < (iv_lay L x).2.2)) then some _ else none) = _
  rw [h2, hl, hn, decide_eq_true h0, decide_eq_true h1]
  rfl
theorem iv_Ret.geti {idx ci k nf : Nat} (hi : iv_ins mi pc = some (ep, .getfield idx, el, ci, k, ec, ew)) (hl : iv_lay L x = (0, ci, nf)) (hn : Nat.ble x n = true) (ht : Nat.ble 2 (iv_fty ci k) = false) (kk : iv_Ret L mi (pc + 3) ls (ivI (μ x k) :: st) (n, μ, ρ) r v) : iv_Ret L mi pc ls (ivR x :: st) (n, μ, ρ) r v := by
  refine iv_Ret.og hi kk ?_
  show (bif Nat.beq (iv_lay L x).1 0 && Nat.beq (iv_lay L x).2.1 ci && Nat.ble x n then some (pc + 3, ls, (bif Nat.ble 2 (iv_fty ci k) then ivR (ρ x k) else ivI (μ x k)) :: st, n, μ, ρ) else none) = _
  rw [hl, hn, ht]
  simp
theorem iv_Ret.getr {idx ci k nf y : Nat} (hi : iv_ins mi pc = some (ep, .getfield idx, el, ci, k, ec, ew)) (hl : iv_lay L x = (0, ci, nf)) (hn : Nat.ble x n = true) (ht : Nat.ble 2 (iv_fty ci k) = true) (hy : ρ x k = y) (kk : iv_Ret L mi (pc + 3) ls (ivR y :: st) (n, μ, ρ) r v) : iv_Ret L mi pc ls (ivR x :: st) (n, μ, ρ) r v := by
  refine iv_Ret.og hi kk ?_
  show (bif Nat.beq (iv_lay L x).1 0 && Nat.beq (iv_lay L x).2.1 ci && Nat.ble x n then some (pc + 3, ls, (bif Nat.ble 2 (iv_fty ci k) then ivR (ρ x k) else ivI (μ x k)) :: st, n, μ, ρ) else none) = _
  rw [hl, hn, ht, hy]
  simp
theorem iv_Ret.puti {idx ci k nf : Nat} {u : Int} (hi : iv_ins mi pc = some (ep, .putfield idx, el, ci, k, ec, ew)) (hl : iv_lay L x = (0, ci, nf)) (hn : Nat.ble x n = true) (ht : (Nat.beq (iv_fty ci k) 0 || Nat.beq (iv_fty ci k) 1 && (decide (u = 0) || decide (u = 1))) = true) (kk : iv_Ret L mi (pc + 3) ls st (n, iv_upd μ x k u, ρ) r v) : iv_Ret L mi pc ls (ivI u :: ivR x :: st) (n, μ, ρ) r v := by
  refine iv_Ret.og hi kk ?_
  show (bif Nat.beq (iv_lay L x).1 0 && Nat.beq (iv_lay L x).2.1 ci && Nat.ble x n && (Nat.beq (iv_fty ci k) 0 || Nat.beq (iv_fty ci k) 1 && (decide (u = 0) || decide (u = 1))) then some (pc + 3, ls, st, n, iv_upd μ x k u, ρ) else none) = _
  rw [hl, hn, ht]
  simp
end IVR
/-! functions that answer as runs do -/
def iv_bnd {α : Type} (o : Option (Int × ivM)) (k : Int → ivM → Option α) : Option α := match o with
  | none => none
  | some q => k q.1 q.2
def iv_ck {α : Type} (c : Prop) [Decidable c] (a : Option α) : Option α := if c then a else none
def iv_let {α β : Type} (a : α) (b : α → β) : β := b a
def iv_fuel : Nat := 1000000
theorem iv_bndE {α : Type} {o : Option (Int × ivM)} {k : Int → ivM → Option α} {x : α} (h : iv_bnd o k = some x) : ∃ r m, o = some (r, m) ∧ k r m = some x := by
  cases o with
  | none => cases h
  | some q => exact ⟨q.1, q.2, rfl, h⟩
theorem iv_ckE {α : Type} {c : Prop} [Decidable c] {a : Option α} {x : α} (h : iv_ck c a = some x) : c ∧ a = some x := by
  unfold iv_ck at h
  split at h
  · exact ⟨‹c›, h⟩
  · cases h
theorem iv_iteE {α : Type} {c : Prop} [Decidable c] {a b x : α} (h : (if c then a else b) = x) : (c ∧ a = x) ∨ (¬ c ∧ b = x) := by
  split at h
  · exact Or.inl ⟨‹c›, h⟩
  · exact Or.inr ⟨‹¬ c›, h⟩
theorem iv_letE {α β : Type} {a : α} {bd : α → β} {x : β} {G : Prop} (P : α → Prop) (h : iv_let a bd = x) (ha : P a) (hb : ∀ j, P j → bd j = x → G) : G := hb a ha h
theorem iv_retE {a r : Int} {b m : ivM} (h : some (a, b) = some (r, m)) : r = a ∧ m = b := by cases h; exact ⟨rfl, rfl⟩
theorem iv_bnd_some {α : Type} {r : Int} {m : ivM} {k : Int → ivM → Option α} : iv_bnd (some (r, m)) k = k r m := rfl
theorem iv_ck_pos {α : Type} {c : Prop} [Decidable c] {a : Option α} (h : c) : iv_ck c a = a := if_pos h
end
