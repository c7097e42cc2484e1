-- ===== PART A: goes FIRST, ahead of the names: the tables' words, and 'selects' of the private methods out of them =====
/-- a private method of a class that the tables say can be made, by its rows of tables_1 -/
def lw_okq (q : MethodName × Nat) : Prop := (q.1.cls ≠ "java/lang/invoke/MethodHandle" ∧ q.1.cls ≠ "java/lang/invoke/VarHandle") ∧ Cond.instantiable q.1.cls q.2 ∈ tables_1 ∧ Cond.privateMethod q.1 ∈ tables_1 ∧ Cond.instanceMethod q.1 ∈ tables_1
theorem lw_p0 : lw_okq (⟨"YamIsland", "refuse", "(I)I"⟩, 8) := ⟨⟨by decide +kernel, by decide +kernel⟩, List.mem_of_getElem? (i := 10) (by decide +kernel), List.mem_of_getElem? (i := 151) (by decide +kernel), List.mem_of_getElem? (i := 152) (by decide +kernel)⟩
theorem lw_p1 : lw_okq (⟨"YamIsland", "isWay", "(I)Z"⟩, 8) := ⟨⟨by decide +kernel, by decide +kernel⟩, List.mem_of_getElem? (i := 10) (by decide +kernel), List.mem_of_getElem? (i := 163) (by decide +kernel), List.mem_of_getElem? (i := 164) (by decide +kernel)⟩
theorem lw_p2 : lw_okq (⟨"YamIsland$Reader", "readRule", "(I)LYamIsland$Rule;"⟩, 3) := ⟨⟨by decide +kernel, by decide +kernel⟩, List.mem_of_getElem? (i := 98) (by decide +kernel), List.mem_of_getElem? (i := 215) (by decide +kernel), List.mem_of_getElem? (i := 216) (by decide +kernel)⟩
theorem lw_p3 : lw_okq (⟨"YamIsland$Reader", "here", "()I"⟩, 3) := ⟨⟨by decide +kernel, by decide +kernel⟩, List.mem_of_getElem? (i := 98) (by decide +kernel), List.mem_of_getElem? (i := 219) (by decide +kernel), List.mem_of_getElem? (i := 220) (by decide +kernel)⟩
theorem lw_p4 : lw_okq (⟨"YamIsland$Reader", "readNumber", "()I"⟩, 3) := ⟨⟨by decide +kernel, by decide +kernel⟩, List.mem_of_getElem? (i := 98) (by decide +kernel), List.mem_of_getElem? (i := 244) (by decide +kernel), List.mem_of_getElem? (i := 245) (by decide +kernel)⟩
theorem lw_p5 : lw_okq (⟨"YamIsland$Reader", "readMixed", "(I)LYamIsland$Rule;"⟩, 3) := ⟨⟨by decide +kernel, by decide +kernel⟩, List.mem_of_getElem? (i := 98) (by decide +kernel), List.mem_of_getElem? (i := 251) (by decide +kernel), List.mem_of_getElem? (i := 252) (by decide +kernel)⟩
theorem lw_p6 : lw_okq (⟨"YamIsland$Reader", "passes", "(C)Z"⟩, 3) := ⟨⟨by decide +kernel, by decide +kernel⟩, List.mem_of_getElem? (i := 98) (by decide +kernel), List.mem_of_getElem? (i := 255) (by decide +kernel), List.mem_of_getElem? (i := 256) (by decide +kernel)⟩
theorem lw_p7 : lw_okq (⟨"YamIsland", "isRule", "(I)Z"⟩, 8) := ⟨⟨by decide +kernel, by decide +kernel⟩, List.mem_of_getElem? (i := 10) (by decide +kernel), List.mem_of_getElem? (i := 267) (by decide +kernel), List.mem_of_getElem? (i := 268) (by decide +kernel)⟩
theorem lw_p8 : lw_okq (⟨"YamIsland", "isPerson", "(I)Z"⟩, 8) := ⟨⟨by decide +kernel, by decide +kernel⟩, List.mem_of_getElem? (i := 10) (by decide +kernel), List.mem_of_getElem? (i := 279) (by decide +kernel), List.mem_of_getElem? (i := 280) (by decide +kernel)⟩
theorem lw_p9 : lw_okq (⟨"YamIsland$Island", "bestSeen", "(I)I"⟩, 19) := ⟨⟨by decide +kernel, by decide +kernel⟩, List.mem_of_getElem? (i := 18) (by decide +kernel), List.mem_of_getElem? (i := 322) (by decide +kernel), List.mem_of_getElem? (i := 323) (by decide +kernel)⟩
theorem lw_p10 : lw_okq (⟨"YamIsland$Island", "mostSeen", "(I)I"⟩, 19) := ⟨⟨by decide +kernel, by decide +kernel⟩, List.mem_of_getElem? (i := 18) (by decide +kernel), List.mem_of_getElem? (i := 326) (by decide +kernel), List.mem_of_getElem? (i := 327) (by decide +kernel)⟩
theorem lw_p11 : lw_okq (⟨"YamIsland$Island", "nearSeen", "(I)I"⟩, 19) := ⟨⟨by decide +kernel, by decide +kernel⟩, List.mem_of_getElem? (i := 18) (by decide +kernel), List.mem_of_getElem? (i := 333) (by decide +kernel), List.mem_of_getElem? (i := 334) (by decide +kernel)⟩
theorem lw_p12 : lw_okq (⟨"YamIsland$Island", "wayBehind", "(I)I"⟩, 19) := ⟨⟨by decide +kernel, by decide +kernel⟩, List.mem_of_getElem? (i := 18) (by decide +kernel), List.mem_of_getElem? (i := 337) (by decide +kernel), List.mem_of_getElem? (i := 338) (by decide +kernel)⟩
theorem lw_p13 : lw_okq (⟨"YamIsland", "whyNoRun", "(I)I"⟩, 8) := ⟨⟨by decide +kernel, by decide +kernel⟩, List.mem_of_getElem? (i := 10) (by decide +kernel), List.mem_of_getElem? (i := 345) (by decide +kernel), List.mem_of_getElem? (i := 346) (by decide +kernel)⟩
theorem lw_p14 : lw_okq (⟨"YamIsland", "faresNow", "(I)I"⟩, 8) := ⟨⟨by decide +kernel, by decide +kernel⟩, List.mem_of_getElem? (i := 10) (by decide +kernel), List.mem_of_getElem? (i := 370) (by decide +kernel), List.mem_of_getElem? (i := 371) (by decide +kernel)⟩
theorem lw_p15 : lw_okq (⟨"YamIsland", "faresInMind", "(I)I"⟩, 8) := ⟨⟨by decide +kernel, by decide +kernel⟩, List.mem_of_getElem? (i := 10) (by decide +kernel), List.mem_of_getElem? (i := 382) (by decide +kernel), List.mem_of_getElem? (i := 383) (by decide +kernel)⟩
def lw_privs_1 : List (MethodName × Nat) := [(⟨"YamIsland", "refuse", "(I)I"⟩, 8), (⟨"YamIsland", "isWay", "(I)Z"⟩, 8), (⟨"YamIsland$Reader", "readRule", "(I)LYamIsland$Rule;"⟩, 3), (⟨"YamIsland$Reader", "here", "()I"⟩, 3), (⟨"YamIsland$Reader", "readNumber", "()I"⟩, 3), (⟨"YamIsland$Reader", "readMixed", "(I)LYamIsland$Rule;"⟩, 3), (⟨"YamIsland$Reader", "passes", "(C)Z"⟩, 3), (⟨"YamIsland", "isRule", "(I)Z"⟩, 8), (⟨"YamIsland", "isPerson", "(I)Z"⟩, 8), (⟨"YamIsland$Island", "bestSeen", "(I)I"⟩, 19), (⟨"YamIsland$Island", "mostSeen", "(I)I"⟩, 19), (⟨"YamIsland$Island", "nearSeen", "(I)I"⟩, 19), (⟨"YamIsland$Island", "wayBehind", "(I)I"⟩, 19), (⟨"YamIsland", "whyNoRun", "(I)I"⟩, 8), (⟨"YamIsland", "faresNow", "(I)I"⟩, 8), (⟨"YamIsland", "faresInMind", "(I)I"⟩, 8)]
theorem lw_r1 : ∀ q ∈ lw_privs_1, lw_okq q := List.forall_mem_cons.mpr ⟨lw_p0, List.forall_mem_cons.mpr ⟨lw_p1, List.forall_mem_cons.mpr ⟨lw_p2, List.forall_mem_cons.mpr ⟨lw_p3, List.forall_mem_cons.mpr ⟨lw_p4, List.forall_mem_cons.mpr ⟨lw_p5, List.forall_mem_cons.mpr ⟨lw_p6, List.forall_mem_cons.mpr ⟨lw_p7, List.forall_mem_cons.mpr ⟨lw_p8, List.forall_mem_cons.mpr ⟨lw_p9, List.forall_mem_cons.mpr ⟨lw_p10, List.forall_mem_cons.mpr ⟨lw_p11, List.forall_mem_cons.mpr ⟨lw_p12, List.forall_mem_cons.mpr ⟨lw_p13, List.forall_mem_cons.mpr ⟨lw_p14, List.forall_mem_cons.mpr ⟨lw_p15, fun _ h => absurd h List.not_mem_nil⟩⟩⟩⟩⟩⟩⟩⟩⟩⟩⟩⟩⟩⟩⟩⟩
theorem lw_p16 : lw_okq (⟨"YamIsland", "refuseFar", "(I)I"⟩, 8) := ⟨⟨by decide +kernel, by decide +kernel⟩, List.mem_of_getElem? (i := 10) (by decide +kernel), List.mem_of_getElem? (i := 413) (by decide +kernel), List.mem_of_getElem? (i := 414) (by decide +kernel)⟩
theorem lw_p17 : lw_okq (⟨"YamIsland", "broughtBy", "(LYamIsland$Island;III)I"⟩, 8) := ⟨⟨by decide +kernel, by decide +kernel⟩, List.mem_of_getElem? (i := 10) (by decide +kernel), List.mem_of_getElem? (i := 418) (by decide +kernel), List.mem_of_getElem? (i := 419) (by decide +kernel)⟩
theorem lw_p18 : lw_okq (⟨"YamIsland", "learnOwn", "(LYamIsland$Island;I)V"⟩, 8) := ⟨⟨by decide +kernel, by decide +kernel⟩, List.mem_of_getElem? (i := 10) (by decide +kernel), List.mem_of_getElem? (i := 426) (by decide +kernel), List.mem_of_getElem? (i := 427) (by decide +kernel)⟩
theorem lw_p19 : lw_okq (⟨"YamIsland", "faresInParts", "(IIII)I"⟩, 8) := ⟨⟨by decide +kernel, by decide +kernel⟩, List.mem_of_getElem? (i := 10) (by decide +kernel), List.mem_of_getElem? (i := 435) (by decide +kernel), List.mem_of_getElem? (i := 436) (by decide +kernel)⟩
theorem lw_p20 : lw_okq (⟨"YamIsland", "bestPart", "(III)I"⟩, 8) := ⟨⟨by decide +kernel, by decide +kernel⟩, List.mem_of_getElem? (i := 10) (by decide +kernel), List.mem_of_getElem? (i := 451) (by decide +kernel), List.mem_of_getElem? (i := 452) (by decide +kernel)⟩
theorem lw_p21 : lw_okq (⟨"YamIsland", "partAtRest", "(III)I"⟩, 8) := ⟨⟨by decide +kernel, by decide +kernel⟩, List.mem_of_getElem? (i := 10) (by decide +kernel), List.mem_of_getElem? (i := 455) (by decide +kernel), List.mem_of_getElem? (i := 456) (by decide +kernel)⟩
theorem lw_p22 : lw_okq (⟨"YamIsland", "nobodyGains", "(IIII)Z"⟩, 8) := ⟨⟨by decide +kernel, by decide +kernel⟩, List.mem_of_getElem? (i := 10) (by decide +kernel), List.mem_of_getElem? (i := 459) (by decide +kernel), List.mem_of_getElem? (i := 460) (by decide +kernel)⟩
theorem lw_p23 : lw_okq (⟨"YamIsland", "faresUnder", "(IIIII)I"⟩, 8) := ⟨⟨by decide +kernel, by decide +kernel⟩, List.mem_of_getElem? (i := 10) (by decide +kernel), List.mem_of_getElem? (i := 467) (by decide +kernel), List.mem_of_getElem? (i := 468) (by decide +kernel)⟩
theorem lw_p24 : lw_okq (⟨"YamIsland", "whyNoRunWith", "(III)I"⟩, 8) := ⟨⟨by decide +kernel, by decide +kernel⟩, List.mem_of_getElem? (i := 10) (by decide +kernel), List.mem_of_getElem? (i := 479) (by decide +kernel), List.mem_of_getElem? (i := 480) (by decide +kernel)⟩
theorem lw_p25 : lw_okq (⟨"YamIslandModel", "refuse", "(I)I"⟩, 43) := ⟨⟨by decide +kernel, by decide +kernel⟩, List.mem_of_getElem? (i := 508) (by decide +kernel), List.mem_of_getElem? (i := 649) (by decide +kernel), List.mem_of_getElem? (i := 650) (by decide +kernel)⟩
theorem lw_p26 : lw_okq (⟨"YamIslandModel", "isWay", "(I)Z"⟩, 43) := ⟨⟨by decide +kernel, by decide +kernel⟩, List.mem_of_getElem? (i := 508) (by decide +kernel), List.mem_of_getElem? (i := 657) (by decide +kernel), List.mem_of_getElem? (i := 658) (by decide +kernel)⟩
theorem lw_p27 : lw_okq (⟨"YamIslandModel", "bestIn", "(I)I"⟩, 43) := ⟨⟨by decide +kernel, by decide +kernel⟩, List.mem_of_getElem? (i := 508) (by decide +kernel), List.mem_of_getElem? (i := 672) (by decide +kernel), List.mem_of_getElem? (i := 673) (by decide +kernel)⟩
theorem lw_p28 : lw_okq (⟨"YamIslandModel", "readOne", "(I)I"⟩, 43) := ⟨⟨by decide +kernel, by decide +kernel⟩, List.mem_of_getElem? (i := 508) (by decide +kernel), List.mem_of_getElem? (i := 694) (by decide +kernel), List.mem_of_getElem? (i := 695) (by decide +kernel)⟩
theorem lw_p29 : lw_okq (⟨"YamIslandModel", "here", "()I"⟩, 43) := ⟨⟨by decide +kernel, by decide +kernel⟩, List.mem_of_getElem? (i := 508) (by decide +kernel), List.mem_of_getElem? (i := 698) (by decide +kernel), List.mem_of_getElem? (i := 699) (by decide +kernel)⟩
theorem lw_p30 : lw_okq (⟨"YamIslandModel", "newKnot", "(III)I"⟩, 43) := ⟨⟨by decide +kernel, by decide +kernel⟩, List.mem_of_getElem? (i := 508) (by decide +kernel), List.mem_of_getElem? (i := 702) (by decide +kernel), List.mem_of_getElem? (i := 703) (by decide +kernel)⟩
theorem lw_p31 : lw_okq (⟨"YamIslandModel", "readNumber", "()I"⟩, 43) := ⟨⟨by decide +kernel, by decide +kernel⟩, List.mem_of_getElem? (i := 508) (by decide +kernel), List.mem_of_getElem? (i := 706) (by decide +kernel), List.mem_of_getElem? (i := 707) (by decide +kernel)⟩
def lw_privs_2 : List (MethodName × Nat) := [(⟨"YamIsland", "refuseFar", "(I)I"⟩, 8), (⟨"YamIsland", "broughtBy", "(LYamIsland$Island;III)I"⟩, 8), (⟨"YamIsland", "learnOwn", "(LYamIsland$Island;I)V"⟩, 8), (⟨"YamIsland", "faresInParts", "(IIII)I"⟩, 8), (⟨"YamIsland", "bestPart", "(III)I"⟩, 8), (⟨"YamIsland", "partAtRest", "(III)I"⟩, 8), (⟨"YamIsland", "nobodyGains", "(IIII)Z"⟩, 8), (⟨"YamIsland", "faresUnder", "(IIIII)I"⟩, 8), (⟨"YamIsland", "whyNoRunWith", "(III)I"⟩, 8), (⟨"YamIslandModel", "refuse", "(I)I"⟩, 43), (⟨"YamIslandModel", "isWay", "(I)Z"⟩, 43), (⟨"YamIslandModel", "bestIn", "(I)I"⟩, 43), (⟨"YamIslandModel", "readOne", "(I)I"⟩, 43), (⟨"YamIslandModel", "here", "()I"⟩, 43), (⟨"YamIslandModel", "newKnot", "(III)I"⟩, 43), (⟨"YamIslandModel", "readNumber", "()I"⟩, 43)]
theorem lw_r2 : ∀ q ∈ lw_privs_2, lw_okq q := List.forall_mem_cons.mpr ⟨lw_p16, List.forall_mem_cons.mpr ⟨lw_p17, List.forall_mem_cons.mpr ⟨lw_p18, List.forall_mem_cons.mpr ⟨lw_p19, List.forall_mem_cons.mpr ⟨lw_p20, List.forall_mem_cons.mpr ⟨lw_p21, List.forall_mem_cons.mpr ⟨lw_p22, List.forall_mem_cons.mpr ⟨lw_p23, List.forall_mem_cons.mpr ⟨lw_p24, List.forall_mem_cons.mpr ⟨lw_p25, List.forall_mem_cons.mpr ⟨lw_p26, List.forall_mem_cons.mpr ⟨lw_p27, List.forall_mem_cons.mpr ⟨lw_p28, List.forall_mem_cons.mpr ⟨lw_p29, List.forall_mem_cons.mpr ⟨lw_p30, List.forall_mem_cons.mpr ⟨lw_p31, fun _ h => absurd h List.not_mem_nil⟩⟩⟩⟩⟩⟩⟩⟩⟩⟩⟩⟩⟩⟩⟩⟩
theorem lw_p32 : lw_okq (⟨"YamIslandModel", "take", "(I)V"⟩, 43) := ⟨⟨by decide +kernel, by decide +kernel⟩, List.mem_of_getElem? (i := 508) (by decide +kernel), List.mem_of_getElem? (i := 713) (by decide +kernel), List.mem_of_getElem? (i := 714) (by decide +kernel)⟩
theorem lw_p33 : lw_okq (⟨"YamIslandModel", "close", "(I)I"⟩, 43) := ⟨⟨by decide +kernel, by decide +kernel⟩, List.mem_of_getElem? (i := 508) (by decide +kernel), List.mem_of_getElem? (i := 717) (by decide +kernel), List.mem_of_getElem? (i := 718) (by decide +kernel)⟩
theorem lw_p34 : lw_okq (⟨"YamIslandModel", "isRule", "(I)Z"⟩, 43) := ⟨⟨by decide +kernel, by decide +kernel⟩, List.mem_of_getElem? (i := 508) (by decide +kernel), List.mem_of_getElem? (i := 725) (by decide +kernel), List.mem_of_getElem? (i := 726) (by decide +kernel)⟩
theorem lw_p35 : lw_okq (⟨"YamIslandModel", "isPerson", "(I)Z"⟩, 43) := ⟨⟨by decide +kernel, by decide +kernel⟩, List.mem_of_getElem? (i := 508) (by decide +kernel), List.mem_of_getElem? (i := 733) (by decide +kernel), List.mem_of_getElem? (i := 734) (by decide +kernel)⟩
theorem lw_p36 : lw_okq (⟨"YamIslandModel", "open", "()V"⟩, 43) := ⟨⟨by decide +kernel, by decide +kernel⟩, List.mem_of_getElem? (i := 508) (by decide +kernel), List.mem_of_getElem? (i := 757) (by decide +kernel), List.mem_of_getElem? (i := 758) (by decide +kernel)⟩
theorem lw_p37 : lw_okq (⟨"YamIslandModel", "chosen", "(III)I"⟩, 43) := ⟨⟨by decide +kernel, by decide +kernel⟩, List.mem_of_getElem? (i := 508) (by decide +kernel), List.mem_of_getElem? (i := 761) (by decide +kernel), List.mem_of_getElem? (i := 762) (by decide +kernel)⟩
theorem lw_p38 : lw_okq (⟨"YamIslandModel", "bestSeen", "(III)I"⟩, 43) := ⟨⟨by decide +kernel, by decide +kernel⟩, List.mem_of_getElem? (i := 508) (by decide +kernel), List.mem_of_getElem? (i := 765) (by decide +kernel), List.mem_of_getElem? (i := 766) (by decide +kernel)⟩
theorem lw_p39 : lw_okq (⟨"YamIslandModel", "doesSee", "(III)Z"⟩, 43) := ⟨⟨by decide +kernel, by decide +kernel⟩, List.mem_of_getElem? (i := 508) (by decide +kernel), List.mem_of_getElem? (i := 769) (by decide +kernel), List.mem_of_getElem? (i := 770) (by decide +kernel)⟩
theorem lw_p40 : lw_okq (⟨"YamIslandModel", "mostSeen", "(II)I"⟩, 43) := ⟨⟨by decide +kernel, by decide +kernel⟩, List.mem_of_getElem? (i := 508) (by decide +kernel), List.mem_of_getElem? (i := 773) (by decide +kernel), List.mem_of_getElem? (i := 774) (by decide +kernel)⟩
theorem lw_p41 : lw_okq (⟨"YamIslandModel", "planting", "(III)I"⟩, 43) := ⟨⟨by decide +kernel, by decide +kernel⟩, List.mem_of_getElem? (i := 508) (by decide +kernel), List.mem_of_getElem? (i := 777) (by decide +kernel), List.mem_of_getElem? (i := 778) (by decide +kernel)⟩
theorem lw_p42 : lw_okq (⟨"YamIslandModel", "nearSeen", "(II)I"⟩, 43) := ⟨⟨by decide +kernel, by decide +kernel⟩, List.mem_of_getElem? (i := 508) (by decide +kernel), List.mem_of_getElem? (i := 781) (by decide +kernel), List.mem_of_getElem? (i := 782) (by decide +kernel)⟩
theorem lw_p43 : lw_okq (⟨"YamIslandModel", "wrongYears", "(I)I"⟩, 43) := ⟨⟨by decide +kernel, by decide +kernel⟩, List.mem_of_getElem? (i := 508) (by decide +kernel), List.mem_of_getElem? (i := 789) (by decide +kernel), List.mem_of_getElem? (i := 790) (by decide +kernel)⟩
theorem lw_p44 : lw_okq (⟨"YamIslandModel", "run", "(I)I"⟩, 43) := ⟨⟨by decide +kernel, by decide +kernel⟩, List.mem_of_getElem? (i := 508) (by decide +kernel), List.mem_of_getElem? (i := 793) (by decide +kernel), List.mem_of_getElem? (i := 794) (by decide +kernel)⟩
theorem lw_p45 : lw_okq (⟨"YamIslandModel", "weatherAt", "(I)I"⟩, 43) := ⟨⟨by decide +kernel, by decide +kernel⟩, List.mem_of_getElem? (i := 508) (by decide +kernel), List.mem_of_getElem? (i := 797) (by decide +kernel), List.mem_of_getElem? (i := 798) (by decide +kernel)⟩
theorem lw_p46 : lw_okq (⟨"YamIslandModel", "areAlike", "()Z"⟩, 43) := ⟨⟨by decide +kernel, by decide +kernel⟩, List.mem_of_getElem? (i := 508) (by decide +kernel), List.mem_of_getElem? (i := 801) (by decide +kernel), List.mem_of_getElem? (i := 802) (by decide +kernel)⟩
theorem lw_p47 : lw_okq (⟨"YamIslandModel", "gainOf", "(IIIIII)I"⟩, 43) := ⟨⟨by decide +kernel, by decide +kernel⟩, List.mem_of_getElem? (i := 508) (by decide +kernel), List.mem_of_getElem? (i := 826) (by decide +kernel), List.mem_of_getElem? (i := 827) (by decide +kernel)⟩
def lw_privs_3 : List (MethodName × Nat) := [(⟨"YamIslandModel", "take", "(I)V"⟩, 43), (⟨"YamIslandModel", "close", "(I)I"⟩, 43), (⟨"YamIslandModel", "isRule", "(I)Z"⟩, 43), (⟨"YamIslandModel", "isPerson", "(I)Z"⟩, 43), (⟨"YamIslandModel", "open", "()V"⟩, 43), (⟨"YamIslandModel", "chosen", "(III)I"⟩, 43), (⟨"YamIslandModel", "bestSeen", "(III)I"⟩, 43), (⟨"YamIslandModel", "doesSee", "(III)Z"⟩, 43), (⟨"YamIslandModel", "mostSeen", "(II)I"⟩, 43), (⟨"YamIslandModel", "planting", "(III)I"⟩, 43), (⟨"YamIslandModel", "nearSeen", "(II)I"⟩, 43), (⟨"YamIslandModel", "wrongYears", "(I)I"⟩, 43), (⟨"YamIslandModel", "run", "(I)I"⟩, 43), (⟨"YamIslandModel", "weatherAt", "(I)I"⟩, 43), (⟨"YamIslandModel", "areAlike", "()Z"⟩, 43), (⟨"YamIslandModel", "gainOf", "(IIIIII)I"⟩, 43)]
theorem lw_r3 : ∀ q ∈ lw_privs_3, lw_okq q := List.forall_mem_cons.mpr ⟨lw_p32, List.forall_mem_cons.mpr ⟨lw_p33, List.forall_mem_cons.mpr ⟨lw_p34, List.forall_mem_cons.mpr ⟨lw_p35, List.forall_mem_cons.mpr ⟨lw_p36, List.forall_mem_cons.mpr ⟨lw_p37, List.forall_mem_cons.mpr ⟨lw_p38, List.forall_mem_cons.mpr ⟨lw_p39, List.forall_mem_cons.mpr ⟨lw_p40, List.forall_mem_cons.mpr ⟨lw_p41, List.forall_mem_cons.mpr ⟨lw_p42, List.forall_mem_cons.mpr ⟨lw_p43, List.forall_mem_cons.mpr ⟨lw_p44, List.forall_mem_cons.mpr ⟨lw_p45, List.forall_mem_cons.mpr ⟨lw_p46, List.forall_mem_cons.mpr ⟨lw_p47, fun _ h => absurd h List.not_mem_nil⟩⟩⟩⟩⟩⟩⟩⟩⟩⟩⟩⟩⟩⟩⟩⟩
theorem lw_p48 : lw_okq (⟨"YamIslandModel", "ownIn", "(IIIIII)I"⟩, 43) := ⟨⟨by decide +kernel, by decide +kernel⟩, List.mem_of_getElem? (i := 508) (by decide +kernel), List.mem_of_getElem? (i := 830) (by decide +kernel), List.mem_of_getElem? (i := 831) (by decide +kernel)⟩
theorem lw_p49 : lw_okq (⟨"YamIslandModel", "faresInParts", "(IIII)I"⟩, 43) := ⟨⟨by decide +kernel, by decide +kernel⟩, List.mem_of_getElem? (i := 508) (by decide +kernel), List.mem_of_getElem? (i := 842) (by decide +kernel), List.mem_of_getElem? (i := 843) (by decide +kernel)⟩
theorem lw_p50 : lw_okq (⟨"YamIslandModel", "restsInParts", "(IIII)Z"⟩, 43) := ⟨⟨by decide +kernel, by decide +kernel⟩, List.mem_of_getElem? (i := 508) (by decide +kernel), List.mem_of_getElem? (i := 854) (by decide +kernel), List.mem_of_getElem? (i := 855) (by decide +kernel)⟩
theorem lw_p51 : lw_okq (⟨"YamIslandModel", "carryAll", "()V"⟩, 43) := ⟨⟨by decide +kernel, by decide +kernel⟩, List.mem_of_getElem? (i := 508) (by decide +kernel), List.mem_of_getElem? (i := 878) (by decide +kernel), List.mem_of_getElem? (i := 879) (by decide +kernel)⟩
theorem lw_p52 : lw_okq (⟨"YamIslandModel", "carry", "(I)I"⟩, 43) := ⟨⟨by decide +kernel, by decide +kernel⟩, List.mem_of_getElem? (i := 508) (by decide +kernel), List.mem_of_getElem? (i := 882) (by decide +kernel), List.mem_of_getElem? (i := 883) (by decide +kernel)⟩
def lw_privs_4 : List (MethodName × Nat) := [(⟨"YamIslandModel", "ownIn", "(IIIIII)I"⟩, 43), (⟨"YamIslandModel", "faresInParts", "(IIII)I"⟩, 43), (⟨"YamIslandModel", "restsInParts", "(IIII)Z"⟩, 43), (⟨"YamIslandModel", "carryAll", "()V"⟩, 43), (⟨"YamIslandModel", "carry", "(I)I"⟩, 43)]
theorem lw_r4 : ∀ q ∈ lw_privs_4, lw_okq q := List.forall_mem_cons.mpr ⟨lw_p48, List.forall_mem_cons.mpr ⟨lw_p49, List.forall_mem_cons.mpr ⟨lw_p50, List.forall_mem_cons.mpr ⟨lw_p51, List.forall_mem_cons.mpr ⟨lw_p52, fun _ h => absurd h List.not_mem_nil⟩⟩⟩⟩⟩
def lw_privs : List (MethodName × Nat) := lw_privs_1 ++ (lw_privs_2 ++ (lw_privs_3 ++ (lw_privs_4)))
def lw_tbl : List Cond := k2_sels lw_privs ++ tables_1
theorem lw_privs_ok : ∀ q ∈ lw_privs, lw_okq q := by
  show ∀ q ∈ lw_privs_1 ++ (lw_privs_2 ++ (lw_privs_3 ++ (lw_privs_4))), lw_okq q
  exact List.forall_mem_append.mpr ⟨lw_r1, List.forall_mem_append.mpr ⟨lw_r2, List.forall_mem_append.mpr ⟨lw_r3, lw_r4⟩⟩⟩

def RX0 : String := "YamIsland$Island"
def TX0 : u_T := fun k => match k with
  | 0 => ("YamIsland$Island", "wayCount", "I", false)
  | 1 => ("YamIsland$Island", "brings", "[I", true)
  | 2 => ("YamIsland$Island", "skyLength", "I", false)
  | 3 => ("YamIsland$Island", "sky", "[I", true)
  | 4 => ("YamIsland$Island", "skyStart", "I", false)
  | 5 => ("YamIsland$Island", "ruleCount", "I", false)
  | 6 => ("YamIsland$Island", "rules", "[LYamIsland$Rule;", true)
  | 7 => ("YamIsland$Island", "peopleCount", "I", false)
  | 8 => ("YamIsland$Island", "wayOf", "[I", true)
  | 9 => ("YamIsland$Island", "ruleOf", "[I", true)
  | 10 => ("YamIsland$Island", "seesOf", "[I", true)
  | 11 => ("YamIsland$Island", "total", "[I", true)
  | 12 => ("YamIsland$Island", "year", "I", false)
  | 13 => ("YamIsland$Island", "show", "I", false)
  | 14 => ("YamIsland$Island", "hidden", "I", false)
  | 15 => ("YamIsland$Island", "brought", "[I", true)
  | 16 => ("YamIsland$Island", "seen", "[I", true)
  | 17 => ("YamIsland$Island", "chosen", "[I", true)
  | _ => ("YamIsland$Island", "planters", "[I", true)
def tyX0 : Nat → FieldType := fun k => match k with
  | 0 => .int
  | 1 => .array .int
  | 2 => .int
  | 3 => .array .int
  | 4 => .int
  | 5 => .int
  | 6 => .array (.object "YamIsland$Rule")
  | 7 => .int
  | 8 => .array .int
  | 9 => .array .int
  | 10 => .array .int
  | 11 => .array .int
  | 12 => .int
  | 13 => .int
  | 14 => .int
  | 15 => .array .int
  | 16 => .array .int
  | 17 => .array .int
  | _ => .array .int
abbrev wsX00 : List Cond := u_ws RX0 TX0 19
theorem nmX0 : ∀ a, a < 19 → ∀ b, b < 19 → a ≠ b → (TX0 a).2.1 ≠ (TX0 b).2.1 := by decide +kernel
theorem tyX0_ok : ∀ k, k < 19 → parseFieldDescriptor (TX0 k).2.2.1 = some (tyX0 k) := by decide +kernel
abbrev cX0_init : ByteArray := prog_2_method_1_code
def yX0_init : MethodName := ⟨RX0, "<init>", "()V"⟩
abbrev cX0_copyFrom : ByteArray := prog_2_method_2_code
def yX0_copyFrom : MethodName := ⟨RX0, "copyFrom", "(LYamIsland$Island;)V"⟩
abbrev cX0_imagine : ByteArray := prog_2_method_3_code
def yX0_imagine : MethodName := ⟨RX0, "imagine", "(LYamIsland$Island;)V"⟩
abbrev cX0_addWay : ByteArray := prog_2_method_4_code
def yX0_addWay : MethodName := ⟨RX0, "addWay", "(IIII)I"⟩
abbrev cX0_addRule : ByteArray := prog_2_method_5_code
def yX0_addRule : MethodName := ⟨RX0, "addRule", "(LYamIsland$Rule;)I"⟩
abbrev cX0_addPerson : ByteArray := prog_2_method_6_code
def yX0_addPerson : MethodName := ⟨RX0, "addPerson", "(II)I"⟩
abbrev cX0_liveInParts : ByteArray := prog_2_method_7_code
def yX0_liveInParts : MethodName := ⟨RX0, "liveInParts", "(III)V"⟩
abbrev cX0_turnSky : ByteArray := prog_2_method_8_code
def yX0_turnSky : MethodName := ⟨RX0, "turnSky", "(III)V"⟩
abbrev cX0_seeAhead : ByteArray := prog_2_method_9_code
def yX0_seeAhead : MethodName := ⟨RX0, "seeAhead", "(I)V"⟩
abbrev cX0_bringsOf : ByteArray := prog_2_method_10_code
def yX0_bringsOf : MethodName := ⟨RX0, "bringsOf", "(II)I"⟩
abbrev cX0_weatherOf : ByteArray := prog_2_method_11_code
def yX0_weatherOf : MethodName := ⟨RX0, "weatherOf", "(I)I"⟩
abbrev cX0_bestIn : ByteArray := prog_2_method_12_code
def yX0_bestIn : MethodName := ⟨RX0, "bestIn", "(I)I"⟩
abbrev cX0_plantersOf : ByteArray := prog_2_method_13_code
def yX0_plantersOf : MethodName := ⟨RX0, "plantersOf", "(I)I"⟩
abbrev cX0_isAlike : ByteArray := prog_2_method_14_code
def yX0_isAlike : MethodName := ⟨RX0, "isAlike", "()Z"⟩
abbrev cX0_isWrong : ByteArray := prog_2_method_15_code
def yX0_isWrong : MethodName := ⟨RX0, "isWrong", "()Z"⟩
abbrev cX0_allBrought : ByteArray := prog_2_method_16_code
def yX0_allBrought : MethodName := ⟨RX0, "allBrought", "()I"⟩
abbrev cX0_passYears : ByteArray := prog_2_method_17_code
def yX0_passYears : MethodName := ⟨RX0, "passYears", "(I)V"⟩
abbrev cX0_harvest : ByteArray := prog_2_method_18_code
def yX0_harvest : MethodName := ⟨RX0, "harvest", "()V"⟩
abbrev cX0_choiceOf : ByteArray := prog_2_method_19_code
def yX0_choiceOf : MethodName := ⟨RX0, "choiceOf", "(I)I"⟩
abbrev cX0_bestSeen : ByteArray := prog_2_method_20_code
def yX0_bestSeen : MethodName := ⟨RX0, "bestSeen", "(I)I"⟩
abbrev cX0_mostSeen : ByteArray := prog_2_method_21_code
def yX0_mostSeen : MethodName := ⟨RX0, "mostSeen", "(I)I"⟩
abbrev cX0_nearSeen : ByteArray := prog_2_method_22_code
def yX0_nearSeen : MethodName := ⟨RX0, "nearSeen", "(I)I"⟩
abbrev cX0_wayBehind : ByteArray := prog_2_method_23_code
def yX0_wayBehind : MethodName := ⟨RX0, "wayBehind", "(I)I"⟩
abbrev cX0_isDivisor : ByteArray := prog_2_method_24_code
def yX0_isDivisor : MethodName := ⟨RX0, "isDivisor", "(II)Z"⟩
def RX1 : String := "YamIsland$Reader"
def TX1 : u_T := fun k => match k with
  | 0 => ("YamIsland$Reader", "text", "[I", true)
  | 1 => ("YamIsland$Reader", "length", "I", false)
  | _ => ("YamIsland$Reader", "place", "I", false)
def tyX1 : Nat → FieldType := fun k => match k with
  | 0 => .array .int
  | 1 => .int
  | _ => .int
abbrev wsX10 : List Cond := u_ws RX1 TX1 3
theorem nmX1 : ∀ a, a < 3 → ∀ b, b < 3 → a ≠ b → (TX1 a).2.1 ≠ (TX1 b).2.1 := by decide +kernel
theorem tyX1_ok : ∀ k, k < 3 → parseFieldDescriptor (TX1 k).2.2.1 = some (tyX1 k) := by decide +kernel
abbrev cX1_init : ByteArray := prog_3_method_1_code
def yX1_init : MethodName := ⟨RX1, "<init>", "()V"⟩
abbrev cX1_take : ByteArray := prog_3_method_2_code
def yX1_take : MethodName := ⟨RX1, "take", "(I)V"⟩
abbrev cX1_readAll : ByteArray := prog_3_method_3_code
def yX1_readAll : MethodName := ⟨RX1, "readAll", "()LYamIsland$Rule;"⟩
abbrev cX1_readRule : ByteArray := prog_3_method_4_code
def yX1_readRule : MethodName := ⟨RX1, "readRule", "(I)LYamIsland$Rule;"⟩
abbrev cX1_readMixed : ByteArray := prog_3_method_5_code
def yX1_readMixed : MethodName := ⟨RX1, "readMixed", "(I)LYamIsland$Rule;"⟩
abbrev cX1_readNumber : ByteArray := prog_3_method_6_code
def yX1_readNumber : MethodName := ⟨RX1, "readNumber", "()I"⟩
abbrev cX1_passes : ByteArray := prog_3_method_7_code
def yX1_passes : MethodName := ⟨RX1, "passes", "(C)Z"⟩
abbrev cX1_here : ByteArray := prog_3_method_8_code
def yX1_here : MethodName := ⟨RX1, "here", "()I"⟩
abbrev cX1_isDigit : ByteArray := prog_3_method_9_code
def yX1_isDigit : MethodName := ⟨RX1, "isDigit", "(I)Z"⟩
def RX2 : String := "YamIsland$Rule"
def TX2 : u_T := fun k => match k with
  | 0 => ("YamIsland$Rule", "sign", "C", true)
  | 1 => ("YamIsland$Rule", "number", "I", true)
  | 2 => ("YamIsland$Rule", "ifLess", "LYamIsland$Rule;", true)
  | _ => ("YamIsland$Rule", "otherwise", "LYamIsland$Rule;", true)
def tyX2 : Nat → FieldType := fun k => match k with
  | 0 => .char
  | 1 => .int
  | 2 => .object "YamIsland$Rule"
  | _ => .object "YamIsland$Rule"
abbrev wsX20 : List Cond := u_ws RX2 TX2 4
theorem nmX2 : ∀ a, a < 4 → ∀ b, b < 4 → a ≠ b → (TX2 a).2.1 ≠ (TX2 b).2.1 := by decide +kernel
theorem tyX2_ok : ∀ k, k < 4 → parseFieldDescriptor (TX2 k).2.2.1 = some (tyX2 k) := by decide +kernel
abbrev cX2_init : ByteArray := prog_4_method_1_code
def yX2_init : MethodName := ⟨RX2, "<init>", "(CILYamIsland$Rule;LYamIsland$Rule;)V"⟩
abbrev cX2_simpleFor : ByteArray := prog_4_method_2_code
def yX2_simpleFor : MethodName := ⟨RX2, "simpleFor", "(I)LYamIsland$Rule;"⟩
def RX3 : String := "YamIsland"
def TX3 : u_T := fun k => match k with
  | 0 => ("YamIsland", "island", "LYamIsland$Island;", true)
  | 1 => ("YamIsland", "taken", "LYamIsland$Island;", true)
  | 2 => ("YamIsland", "parted", "LYamIsland$Island;", true)
  | 3 => ("YamIsland", "mind", "LYamIsland$Island;", true)
  | 4 => ("YamIsland", "ownBrought", "[I", true)
  | 5 => ("YamIsland", "reader", "LYamIsland$Reader;", true)
  | 6 => ("YamIsland", "refusals", "[I", true)
  | _ => ("YamIsland", "isTaken", "Z", false)
def tyX3 : Nat → FieldType := fun k => match k with
  | 0 => .object "YamIsland$Island"
  | 1 => .object "YamIsland$Island"
  | 2 => .object "YamIsland$Island"
  | 3 => .object "YamIsland$Island"
  | 4 => .array .int
  | 5 => .object "YamIsland$Reader"
  | 6 => .array .int
  | _ => .boolean
abbrev wsX30 : List Cond := u_ws RX3 TX3 8
theorem nmX3 : ∀ a, a < 8 → ∀ b, b < 8 → a ≠ b → (TX3 a).2.1 ≠ (TX3 b).2.1 := by decide +kernel
theorem tyX3_ok : ∀ k, k < 8 → parseFieldDescriptor (TX3 k).2.2.1 = some (tyX3 k) := by decide +kernel
abbrev cX3_init : ByteArray := prog_1_method_1_code
def yX3_init : MethodName := ⟨RX3, "<init>", "()V"⟩
abbrev cX3_way : ByteArray := prog_1_method_2_code
def yX3_way : MethodName := ⟨RX3, "way", "(IIII)I"⟩
abbrev cX3_brings : ByteArray := prog_1_method_3_code
def yX3_brings : MethodName := ⟨RX3, "brings", "(III)I"⟩
abbrev cX3_bestWay : ByteArray := prog_1_method_4_code
def yX3_bestWay : MethodName := ⟨RX3, "bestWay", "(I)I"⟩
abbrev cX3_sky : ByteArray := prog_1_method_5_code
def yX3_sky : MethodName := ⟨RX3, "sky", "(IJ)I"⟩
abbrev cX3_weather : ByteArray := prog_1_method_6_code
def yX3_weather : MethodName := ⟨RX3, "weather", "(I)I"⟩
abbrev cX3_feed : ByteArray := prog_1_method_7_code
def yX3_feed : MethodName := ⟨RX3, "feed", "(IJ)I"⟩
abbrev cX3_rule : ByteArray := prog_1_method_8_code
def yX3_rule : MethodName := ⟨RX3, "rule", "()I"⟩
abbrev cX3_person : ByteArray := prog_1_method_9_code
def yX3_person : MethodName := ⟨RX3, "person", "(II)I"⟩
abbrev cX3_sees : ByteArray := prog_1_method_10_code
def yX3_sees : MethodName := ⟨RX3, "sees", "(II)I"⟩
abbrev cX3_lives : ByteArray := prog_1_method_11_code
def yX3_lives : MethodName := ⟨RX3, "lives", "(II)I"⟩
abbrev cX3_plants : ByteArray := prog_1_method_12_code
def yX3_plants : MethodName := ⟨RX3, "plants", "(II)I"⟩
abbrev cX3_show : ByteArray := prog_1_method_13_code
def yX3_show : MethodName := ⟨RX3, "show", "(I)I"⟩
abbrev cX3_of : ByteArray := prog_1_method_14_code
def yX3_of : MethodName := ⟨RX3, "of", "(II)I"⟩
abbrev cX3_next : ByteArray := prog_1_method_15_code
def yX3_next : MethodName := ⟨RX3, "next", "(I)I"⟩
abbrev cX3_go : ByteArray := prog_1_method_16_code
def yX3_go : MethodName := ⟨RX3, "go", "(I)I"⟩
abbrev cX3_share : ByteArray := prog_1_method_17_code
def yX3_share : MethodName := ⟨RX3, "share", "(I)I"⟩
abbrev cX3_fares : ByteArray := prog_1_method_18_code
def yX3_fares : MethodName := ⟨RX3, "fares", "(I)I"⟩
abbrev cX3_wrong : ByteArray := prog_1_method_19_code
def yX3_wrong : MethodName := ⟨RX3, "wrong", "(I)I"⟩
abbrev cX3_alike : ByteArray := prog_1_method_20_code
def yX3_alike : MethodName := ⟨RX3, "alike", "(I)I"⟩
abbrev cX3_gain : ByteArray := prog_1_method_21_code
def yX3_gain : MethodName := ⟨RX3, "gain", "(III)I"⟩
abbrev cX3_rest : ByteArray := prog_1_method_22_code
def yX3_rest : MethodName := ⟨RX3, "rest", "(I)I"⟩
abbrev cX3_ifAll : ByteArray := prog_1_method_23_code
def yX3_ifAll : MethodName := ⟨RX3, "ifAll", "(II)I"⟩
abbrev cX3_bestRule : ByteArray := prog_1_method_24_code
def yX3_bestRule : MethodName := ⟨RX3, "bestRule", "(I)I"⟩
abbrev cX3_part : ByteArray := prog_1_method_25_code
def yX3_part : MethodName := ⟨RX3, "part", "(IIII)I"⟩
abbrev cX3_edge : ByteArray := prog_1_method_26_code
def yX3_edge : MethodName := ⟨RX3, "edge", "(IIII)I"⟩
abbrev cX3_lessSeen : ByteArray := prog_1_method_27_code
def yX3_lessSeen : MethodName := ⟨RX3, "lessSeen", "(II)I"⟩
abbrev cX3_shown : ByteArray := prog_1_method_28_code
def yX3_shown : MethodName := ⟨RX3, "shown", "(II)I"⟩
abbrev cX3_blind : ByteArray := prog_1_method_29_code
def yX3_blind : MethodName := ⟨RX3, "blind", "(I)I"⟩
abbrev cX3_image : ByteArray := prog_1_method_30_code
def yX3_image : MethodName := ⟨RX3, "image", "()I"⟩
abbrev cX3_restore : ByteArray := prog_1_method_31_code
def yX3_restore : MethodName := ⟨RX3, "restore", "()I"⟩
abbrev cX3_count : ByteArray := prog_1_method_32_code
def yX3_count : MethodName := ⟨RX3, "count", "(I)I"⟩
abbrev cX3_isWay : ByteArray := prog_1_method_33_code
def yX3_isWay : MethodName := ⟨RX3, "isWay", "(I)Z"⟩
abbrev cX3_isWeather : ByteArray := prog_1_method_34_code
def yX3_isWeather : MethodName := ⟨RX3, "isWeather", "(I)Z"⟩
abbrev cX3_isPerson : ByteArray := prog_1_method_35_code
def yX3_isPerson : MethodName := ⟨RX3, "isPerson", "(I)Z"⟩
abbrev cX3_isRule : ByteArray := prog_1_method_36_code
def yX3_isRule : MethodName := ⟨RX3, "isRule", "(I)Z"⟩
abbrev cX3_whyOutside : ByteArray := prog_1_method_37_code
def yX3_whyOutside : MethodName := ⟨RX3, "whyOutside", "(III)I"⟩
abbrev cX3_whyNoRun : ByteArray := prog_1_method_38_code
def yX3_whyNoRun : MethodName := ⟨RX3, "whyNoRun", "(I)I"⟩
abbrev cX3_whyNoRunWith : ByteArray := prog_1_method_39_code
def yX3_whyNoRunWith : MethodName := ⟨RX3, "whyNoRunWith", "(III)I"⟩
abbrev cX3_refuse : ByteArray := prog_1_method_40_code
def yX3_refuse : MethodName := ⟨RX3, "refuse", "(I)I"⟩
abbrev cX3_refuseFar : ByteArray := prog_1_method_41_code
def yX3_refuseFar : MethodName := ⟨RX3, "refuseFar", "(I)I"⟩
abbrev cX3_exchange : ByteArray := prog_1_method_42_code
def yX3_exchange : MethodName := ⟨RX3, "exchange", "([III)I"⟩
abbrev cX3_faresNow : ByteArray := prog_1_method_43_code
def yX3_faresNow : MethodName := ⟨RX3, "faresNow", "(I)I"⟩
abbrev cX3_faresInMind : ByteArray := prog_1_method_44_code
def yX3_faresInMind : MethodName := ⟨RX3, "faresInMind", "(I)I"⟩
abbrev cX3_faresInParts : ByteArray := prog_1_method_45_code
def yX3_faresInParts : MethodName := ⟨RX3, "faresInParts", "(IIII)I"⟩
abbrev cX3_faresUnder : ByteArray := prog_1_method_46_code
def yX3_faresUnder : MethodName := ⟨RX3, "faresUnder", "(IIIII)I"⟩
abbrev cX3_bestPart : ByteArray := prog_1_method_47_code
def yX3_bestPart : MethodName := ⟨RX3, "bestPart", "(III)I"⟩
abbrev cX3_partAtRest : ByteArray := prog_1_method_48_code
def yX3_partAtRest : MethodName := ⟨RX3, "partAtRest", "(III)I"⟩
abbrev cX3_nobodyGains : ByteArray := prog_1_method_49_code
def yX3_nobodyGains : MethodName := ⟨RX3, "nobodyGains", "(IIII)Z"⟩
abbrev cX3_learnOwn : ByteArray := prog_1_method_50_code
def yX3_learnOwn : MethodName := ⟨RX3, "learnOwn", "(LYamIsland$Island;I)V"⟩
abbrev cX3_broughtBy : ByteArray := prog_1_method_51_code
def yX3_broughtBy : MethodName := ⟨RX3, "broughtBy", "(LYamIsland$Island;III)I"⟩
def RX4 : String := "YamIslandModel"
def TX4 : u_T := fun k => match k with
  | 0 => ("YamIslandModel", "ways", "I", false)
  | 1 => ("YamIslandModel", "brings", "[I", true)
  | 2 => ("YamIslandModel", "sky", "[I", true)
  | 3 => ("YamIslandModel", "skyMany", "I", false)
  | 4 => ("YamIslandModel", "people", "I", false)
  | 5 => ("YamIslandModel", "wayOf", "[I", true)
  | 6 => ("YamIslandModel", "ruleOf", "[I", true)
  | 7 => ("YamIslandModel", "seesOf", "[I", true)
  | 8 => ("YamIslandModel", "brought", "[I", true)
  | 9 => ("YamIslandModel", "show", "I", false)
  | 10 => ("YamIslandModel", "year", "I", false)
  | 11 => ("YamIslandModel", "rules", "I", false)
  | 12 => ("YamIslandModel", "roots", "[I", true)
  | 13 => ("YamIslandModel", "knotKind", "[I", true)
  | 14 => ("YamIslandModel", "knotK", "[I", true)
  | 15 => ("YamIslandModel", "knotOne", "[I", true)
  | 16 => ("YamIslandModel", "knotOther", "[I", true)
  | 17 => ("YamIslandModel", "text", "[I", true)
  | 18 => ("YamIslandModel", "textMany", "I", false)
  | 19 => ("YamIslandModel", "refused", "[I", true)
  | 20 => ("YamIslandModel", "at", "I", false)
  | 21 => ("YamIslandModel", "end", "I", false)
  | 22 => ("YamIslandModel", "isBad", "Z", false)
  | 23 => ("YamIslandModel", "knots", "I", false)
  | 24 => ("YamIslandModel", "openAt", "[I", true)
  | 25 => ("YamIslandModel", "isSecond", "[Z", true)
  | 26 => ("YamIslandModel", "opens", "I", false)
  | 27 => ("YamIslandModel", "runWay", "[I", true)
  | 28 => ("YamIslandModel", "runRule", "[I", true)
  | 29 => ("YamIslandModel", "runSees", "[I", true)
  | 30 => ("YamIslandModel", "runShow", "I", false)
  | 31 => ("YamIslandModel", "runBlind", "I", false)
  | 32 => ("YamIslandModel", "runLong", "I", false)
  | 33 => ("YamIslandModel", "runX", "I", false)
  | 34 => ("YamIslandModel", "runY", "I", false)
  | 35 => ("YamIslandModel", "runGain", "[I", true)
  | 36 => ("YamIslandModel", "nextWay", "[I", true)
  | 37 => ("YamIslandModel", "runWrong", "I", false)
  | 38 => ("YamIslandModel", "runAlike", "I", false)
  | 39 => ("YamIslandModel", "hasImage", "Z", false)
  | 40 => ("YamIslandModel", "imaged", "[I", true)
  | 41 => ("YamIslandModel", "imageAt", "I", false)
  | _ => ("YamIslandModel", "isTaking", "Z", false)
def tyX4 : Nat → FieldType := fun k => match k with
  | 0 => .int
  | 1 => .array .int
  | 2 => .array .int
  | 3 => .int
  | 4 => .int
  | 5 => .array .int
  | 6 => .array .int
  | 7 => .array .int
  | 8 => .array .int
  | 9 => .int
  | 10 => .int
  | 11 => .int
  | 12 => .array .int
  | 13 => .array .int
  | 14 => .array .int
  | 15 => .array .int
  | 16 => .array .int
  | 17 => .array .int
  | 18 => .int
  | 19 => .array .int
  | 20 => .int
  | 21 => .int
  | 22 => .boolean
  | 23 => .int
  | 24 => .array .int
  | 25 => .array .boolean
  | 26 => .int
  | 27 => .array .int
  | 28 => .array .int
  | 29 => .array .int
  | 30 => .int
  | 31 => .int
  | 32 => .int
  | 33 => .int
  | 34 => .int
  | 35 => .array .int
  | 36 => .array .int
  | 37 => .int
  | 38 => .int
  | 39 => .boolean
  | 40 => .array .int
  | 41 => .int
  | _ => .boolean
abbrev wsX40 : List Cond := u_ws RX4 TX4 43
theorem nmX4 : ∀ a, a < 43 → ∀ b, b < 43 → a ≠ b → (TX4 a).2.1 ≠ (TX4 b).2.1 := by decide +kernel
theorem tyX4_ok : ∀ k, k < 43 → parseFieldDescriptor (TX4 k).2.2.1 = some (tyX4 k) := by decide +kernel
abbrev cX4_init : ByteArray := prog_6_method_1_code
def yX4_init : MethodName := ⟨RX4, "<init>", "()V"⟩
abbrev cX4_in : ByteArray := prog_6_method_3_code
def yX4_in : MethodName := ⟨RX4, "in", "(JJJ)Z"⟩
abbrev cX4_refuse : ByteArray := prog_6_method_4_code
def yX4_refuse : MethodName := ⟨RX4, "refuse", "(I)I"⟩
abbrev cX4_isWay : ByteArray := prog_6_method_5_code
def yX4_isWay : MethodName := ⟨RX4, "isWay", "(I)Z"⟩
abbrev cX4_isPerson : ByteArray := prog_6_method_6_code
def yX4_isPerson : MethodName := ⟨RX4, "isPerson", "(I)Z"⟩
abbrev cX4_isRule : ByteArray := prog_6_method_7_code
def yX4_isRule : MethodName := ⟨RX4, "isRule", "(I)Z"⟩
abbrev cX4_isWeather : ByteArray := prog_6_method_8_code
def yX4_isWeather : MethodName := ⟨RX4, "isWeather", "(I)Z"⟩
abbrev cX4_way : ByteArray := prog_6_method_9_code
def yX4_way : MethodName := ⟨RX4, "way", "(IIII)I"⟩
abbrev cX4_brings : ByteArray := prog_6_method_10_code
def yX4_brings : MethodName := ⟨RX4, "brings", "(III)I"⟩
abbrev cX4_bestIn : ByteArray := prog_6_method_11_code
def yX4_bestIn : MethodName := ⟨RX4, "bestIn", "(I)I"⟩
abbrev cX4_bestWay : ByteArray := prog_6_method_12_code
def yX4_bestWay : MethodName := ⟨RX4, "bestWay", "(I)I"⟩
abbrev cX4_sky : ByteArray := prog_6_method_13_code
def yX4_sky : MethodName := ⟨RX4, "sky", "(IJ)I"⟩
abbrev cX4_weather : ByteArray := prog_6_method_14_code
def yX4_weather : MethodName := ⟨RX4, "weather", "(I)I"⟩
abbrev cX4_feed : ByteArray := prog_6_method_15_code
def yX4_feed : MethodName := ⟨RX4, "feed", "(IJ)I"⟩
abbrev cX4_here : ByteArray := prog_6_method_16_code
def yX4_here : MethodName := ⟨RX4, "here", "()I"⟩
abbrev cX4_take : ByteArray := prog_6_method_17_code
def yX4_take : MethodName := ⟨RX4, "take", "(I)V"⟩
abbrev cX4_readNumber : ByteArray := prog_6_method_18_code
def yX4_readNumber : MethodName := ⟨RX4, "readNumber", "()I"⟩
abbrev cX4_newKnot : ByteArray := prog_6_method_19_code
def yX4_newKnot : MethodName := ⟨RX4, "newKnot", "(III)I"⟩
abbrev cX4_readOne : ByteArray := prog_6_method_20_code
def yX4_readOne : MethodName := ⟨RX4, "readOne", "(I)I"⟩
abbrev cX4_close : ByteArray := prog_6_method_21_code
def yX4_close : MethodName := ⟨RX4, "close", "(I)I"⟩
abbrev cX4_rule : ByteArray := prog_6_method_22_code
def yX4_rule : MethodName := ⟨RX4, "rule", "()I"⟩
abbrev cX4_person : ByteArray := prog_6_method_23_code
def yX4_person : MethodName := ⟨RX4, "person", "(II)I"⟩
abbrev cX4_sees : ByteArray := prog_6_method_24_code
def yX4_sees : MethodName := ⟨RX4, "sees", "(II)I"⟩
abbrev cX4_lives : ByteArray := prog_6_method_25_code
def yX4_lives : MethodName := ⟨RX4, "lives", "(II)I"⟩
abbrev cX4_plants : ByteArray := prog_6_method_26_code
def yX4_plants : MethodName := ⟨RX4, "plants", "(II)I"⟩
abbrev cX4_show : ByteArray := prog_6_method_27_code
def yX4_show : MethodName := ⟨RX4, "show", "(I)I"⟩
abbrev cX4_of : ByteArray := prog_6_method_28_code
def yX4_of : MethodName := ⟨RX4, "of", "(II)I"⟩
abbrev cX4_open : ByteArray := prog_6_method_29_code
def yX4_open : MethodName := ⟨RX4, "open", "()V"⟩
abbrev cX4_weatherAt : ByteArray := prog_6_method_30_code
def yX4_weatherAt : MethodName := ⟨RX4, "weatherAt", "(I)I"⟩
abbrev cX4_doesSee : ByteArray := prog_6_method_31_code
def yX4_doesSee : MethodName := ⟨RX4, "doesSee", "(III)Z"⟩
abbrev cX4_bestSeen : ByteArray := prog_6_method_32_code
def yX4_bestSeen : MethodName := ⟨RX4, "bestSeen", "(III)I"⟩
abbrev cX4_mostSeen : ByteArray := prog_6_method_33_code
def yX4_mostSeen : MethodName := ⟨RX4, "mostSeen", "(II)I"⟩
abbrev cX4_planting : ByteArray := prog_6_method_34_code
def yX4_planting : MethodName := ⟨RX4, "planting", "(III)I"⟩
abbrev cX4_nearSeen : ByteArray := prog_6_method_35_code
def yX4_nearSeen : MethodName := ⟨RX4, "nearSeen", "(II)I"⟩
abbrev cX4_chosen : ByteArray := prog_6_method_36_code
def yX4_chosen : MethodName := ⟨RX4, "chosen", "(III)I"⟩
abbrev cX4_areAlike : ByteArray := prog_6_method_37_code
def yX4_areAlike : MethodName := ⟨RX4, "areAlike", "()Z"⟩
abbrev cX4_run : ByteArray := prog_6_method_38_code
def yX4_run : MethodName := ⟨RX4, "run", "(I)I"⟩
abbrev cX4_wrongYears : ByteArray := prog_6_method_39_code
def yX4_wrongYears : MethodName := ⟨RX4, "wrongYears", "(I)I"⟩
abbrev cX4_next : ByteArray := prog_6_method_40_code
def yX4_next : MethodName := ⟨RX4, "next", "(I)I"⟩
abbrev cX4_go : ByteArray := prog_6_method_41_code
def yX4_go : MethodName := ⟨RX4, "go", "(I)I"⟩
abbrev cX4_share : ByteArray := prog_6_method_42_code
def yX4_share : MethodName := ⟨RX4, "share", "(I)I"⟩
abbrev cX4_fares : ByteArray := prog_6_method_43_code
def yX4_fares : MethodName := ⟨RX4, "fares", "(I)I"⟩
abbrev cX4_wrong : ByteArray := prog_6_method_44_code
def yX4_wrong : MethodName := ⟨RX4, "wrong", "(I)I"⟩
abbrev cX4_alike : ByteArray := prog_6_method_45_code
def yX4_alike : MethodName := ⟨RX4, "alike", "(I)I"⟩
abbrev cX4_gainOf : ByteArray := prog_6_method_46_code
def yX4_gainOf : MethodName := ⟨RX4, "gainOf", "(IIIIII)I"⟩
abbrev cX4_ownIn : ByteArray := prog_6_method_47_code
def yX4_ownIn : MethodName := ⟨RX4, "ownIn", "(IIIIII)I"⟩
abbrev cX4_gain : ByteArray := prog_6_method_48_code
def yX4_gain : MethodName := ⟨RX4, "gain", "(III)I"⟩
abbrev cX4_rest : ByteArray := prog_6_method_49_code
def yX4_rest : MethodName := ⟨RX4, "rest", "(I)I"⟩
abbrev cX4_faresInParts : ByteArray := prog_6_method_50_code
def yX4_faresInParts : MethodName := ⟨RX4, "faresInParts", "(IIII)I"⟩
abbrev cX4_ifAll : ByteArray := prog_6_method_51_code
def yX4_ifAll : MethodName := ⟨RX4, "ifAll", "(II)I"⟩
abbrev cX4_bestRule : ByteArray := prog_6_method_52_code
def yX4_bestRule : MethodName := ⟨RX4, "bestRule", "(I)I"⟩
abbrev cX4_restsInParts : ByteArray := prog_6_method_53_code
def yX4_restsInParts : MethodName := ⟨RX4, "restsInParts", "(IIII)Z"⟩
abbrev cX4_part : ByteArray := prog_6_method_54_code
def yX4_part : MethodName := ⟨RX4, "part", "(IIII)I"⟩
abbrev cX4_edge : ByteArray := prog_6_method_55_code
def yX4_edge : MethodName := ⟨RX4, "edge", "(IIII)I"⟩
abbrev cX4_lessSeen : ByteArray := prog_6_method_56_code
def yX4_lessSeen : MethodName := ⟨RX4, "lessSeen", "(II)I"⟩
abbrev cX4_shown : ByteArray := prog_6_method_57_code
def yX4_shown : MethodName := ⟨RX4, "shown", "(II)I"⟩
abbrev cX4_blind : ByteArray := prog_6_method_58_code
def yX4_blind : MethodName := ⟨RX4, "blind", "(I)I"⟩
abbrev cX4_carry : ByteArray := prog_6_method_59_code
def yX4_carry : MethodName := ⟨RX4, "carry", "(I)I"⟩
abbrev cX4_carryAll : ByteArray := prog_6_method_60_code
def yX4_carryAll : MethodName := ⟨RX4, "carryAll", "()V"⟩
abbrev cX4_image : ByteArray := prog_6_method_61_code
def yX4_image : MethodName := ⟨RX4, "image", "()I"⟩
abbrev cX4_restore : ByteArray := prog_6_method_62_code
def yX4_restore : MethodName := ⟨RX4, "restore", "()I"⟩
abbrev cX4_count : ByteArray := prog_6_method_63_code
def yX4_count : MethodName := ⟨RX4, "count", "(I)I"⟩
def RJ9 : String := "java/lang/Math"
def TJ9 : u_T := fun k => match k with
  | _ => ("", "", "", false)
def tyJ9 : Nat → FieldType := fun k => match k with
  | _ => .int
abbrev wsJ90 : List Cond := u_ws RJ9 TJ9 0
theorem nmJ9 : ∀ a, a < 0 → ∀ b, b < 0 → a ≠ b → (TJ9 a).2.1 ≠ (TJ9 b).2.1 := by decide +kernel
theorem tyJ9_ok : ∀ k, k < 0 → parseFieldDescriptor (TJ9 k).2.2.1 = some (tyJ9 k) := by decide +kernel
abbrev cJ9_max_7cf53 : ByteArray := prog_7_method_65_code
def yJ9_max_7cf53 : MethodName := ⟨RJ9, "max", "(II)I"⟩
abbrev cJ9_min_7cf53 : ByteArray := prog_7_method_69_code
def yJ9_min_7cf53 : MethodName := ⟨RJ9, "min", "(II)I"⟩
def RJ10 : String := "java/lang/System"
def TJ10 : u_T := fun k => match k with
  | _ => ("", "", "", false)
def tyJ10 : Nat → FieldType := fun k => match k with
  | _ => .int
abbrev wsJ100 : List Cond := u_ws RJ10 TJ10 0
theorem nmJ10 : ∀ a, a < 0 → ∀ b, b < 0 → a ≠ b → (TJ10 a).2.1 ≠ (TJ10 b).2.1 := by decide +kernel
theorem tyJ10_ok : ∀ k, k < 0 → parseFieldDescriptor (TJ10 k).2.2.1 = some (tyJ10 k) := by decide +kernel
def RJ7 : String := "java/util/Arrays"
def TJ7 : u_T := fun k => match k with
  | _ => ("", "", "", false)
def tyJ7 : Nat → FieldType := fun k => match k with
  | _ => .int
abbrev wsJ70 : List Cond := u_ws RJ7 TJ7 0
theorem nmJ7 : ∀ a, a < 0 → ∀ b, b < 0 → a ≠ b → (TJ7 a).2.1 ≠ (TJ7 b).2.1 := by decide +kernel
theorem tyJ7_ok : ∀ k, k < 0 → parseFieldDescriptor (TJ7 k).2.2.1 = some (tyJ7 k) := by decide +kernel
abbrev cJ7_fill_53178 : ByteArray := prog_9_method_103_code
def yJ7_fill_53178 : MethodName := ⟨RJ7, "fill", "([II)V"⟩
def RL : String := "YamIslandLaw"
abbrev cL_law : ByteArray := code
def yL_law : MethodName := ⟨RL, "law", "([I)Z"⟩
abbrev vwCl : List vw_C := [(RX0, TX0, 19), (RX1, TX1, 3), (RX2, TX2, 4), (RX3, TX3, 8), (RX4, TX4, 43)]
