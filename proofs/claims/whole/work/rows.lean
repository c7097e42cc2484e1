section
-- ===== PART A: goes FIRST, ahead of the names: the tables' words, and 'selects' of the private methods out of them =====
/-- a private method of a class that the tables say can be made, by its rows of tables_1 -/
def lw_okq (q : MethodName × Nat) : Prop := (q.1.cls ≠ "java/lang/invoke/MethodHandle" ∧ q.1.cls ≠ "java/lang/invoke/VarHandle") ∧ Cond.instantiable q.1.cls q.2 ∈ tables_1 ∧ Cond.privateMethod q.1 ∈ tables_1 ∧ Cond.instanceMethod q.1 ∈ tables_1
theorem lw_p0 : lw_okq (⟨"YamIsland", "refuse", "(I)I"⟩, 8) := ⟨⟨by decide +kernel, by decide +kernel⟩, List.mem_of_getElem? (i := 10) (by decide +kernel), List.mem_of_getElem? (i := 151) (by decide +kernel), List.mem_of_getElem? (i := 152) (by decide +kernel)⟩
theorem lw_p1 : lw_okq (⟨"YamIsland", "isWay", "(I)Z"⟩, 8) := ⟨⟨by decide +kernel, by decide +kernel⟩, List.mem_of_getElem? (i := 10) (by decide +kernel), List.mem_of_getElem? (i := 163) (by decide +kernel), List.mem_of_getElem? (i := 164) (by decide +kernel)⟩
theorem lw_p2 : lw_okq (⟨"YamIsland$Reader", "readRule", "(I)LYamIsland$Rule;"⟩, 3) := ⟨⟨by decide +kernel, by decide +kernel⟩, List.mem_of_getElem? (i := 98) (by decide +kernel), List.mem_of_getElem? (i := 215) (by decide +kernel), List.mem_of_getElem? (i := 216) (by decide +kernel)⟩
theorem lw_p3 : lw_okq (⟨"YamIsland$Reader", "here", "()I"⟩, 3) := ⟨⟨by decide +kernel, by decide +kernel⟩, List.mem_of_getElem? (i := 98) (by decide +kernel), List.mem_of_getElem? (i := 219) (by decide +kernel), List.mem_of_getElem? (i := 220) (by decide +kernel)⟩
theorem lw_p4 : lw_okq (⟨"YamIsland$Reader", "readNumber", "()I"⟩, 3) := ⟨⟨by decide +kernel, by decide +kernel⟩, List.mem_of_getElem? (i := 98) (by decide +kernel), List.mem_of_getElem? (i := 244) (by decide +kernel), List.mem_of_getElem? (i := 245) (by decide +kernel)⟩
theorem lw_p5 : lw_okq (⟨"YamIsland$Reader", "readMixed", "(I)LYamIsland$Rule;"⟩, 3) := ⟨⟨by decide +kernel, by decide +kernel⟩, List.mem_of_getElem? (i := 98) (by decide +kernel), List.mem_of_getElem? (i := 251) (by decide +kernel), List.mem_of_getElem? (i := 252) (by decide +kernel)⟩
theorem lw_p6 : lw_okq (⟨"YamIsland$Reader", "passes", "(C)Z"⟩, 3) := ⟨⟨by decide +kernel, by decide +kernel⟩, List.mem_of_getElem? (i := 98) (by decide +kernel), List.mem_of_getElem? (i := 255) (by decide +kernel), List.mem_of_getElem? (i := 256) (by decide +kernel)⟩
theorem lw_p7 : lw_okq (⟨"YamIsland", "isRule", "(I)Z"⟩, 8) := ⟨⟨by decide +kernel, by decide +kernel⟩, List.mem_of_getElem? (i := 10) (by decide +kernel), List.mem_of_getElem? (i := 267) (by decide +kernel), List.mem_of_getElem? (i := 268) (by decide +kernel)⟩
theorem lw_p8 : lw_okq (⟨"YamIsland", "isPerson", "(I)Z"⟩, 8) := ⟨⟨by decide +kernel, by decide +kernel⟩, List.mem_of_getElem? (i := 10) (by decide +kernel), List.mem_of_getElem? (i := 279) (by decide +kernel), List.mem_of_getElem? (i := 280) (by decide +kernel)⟩
theorem lw_p9 : lw_okq (⟨"YamIsland$Island", "bestSeen", "(I)I"⟩, 19) := ⟨⟨by decide +kernel, by decide +kernel⟩, List.mem_of_getElem? (i := 18) (by decide +kernel), List.mem_of_getElem? (i := 322) (by decide +kernel), List.mem_of_getElem? (i := 323) (by decide +kernel)⟩
theorem lw_p10 : lw_okq (⟨"YamIsland$Island", "mostSeen", "(I)I"⟩, 19) := ⟨⟨by decide +kernel, by decide +kernel⟩, List.mem_of_getElem? (i := 18) (by decide +kernel), List.mem_of_getElem? (i := 326) (by decide +kernel), List.mem_of_getElem? (i := 327) (by decide +kernel)⟩
theorem lw_p11 : lw_okq (⟨"YamIsland$Island", "nearSeen", "(I)I"⟩, 19) := ⟨⟨by decide +kernel, by decide +kernel⟩, List.mem_of_getElem? (i := 18) (by decide +kernel), List.mem_of_getElem? (i := 333) (by decide +kernel), List.mem_of_getElem? (i := 334) (by decide +kernel)⟩
theorem lw_p12 : lw_okq (⟨"YamIsland$Island", "wayBehind", "(I)I"⟩, 19) := ⟨⟨by decide +kernel, by decide +kernel⟩, List.mem_of_getElem? (i := 18) (by decide +kernel), List.mem_of_getElem? (i := 337) (by decide +kernel), List.mem_of_getElem? (i := 338) (by decide +kernel)⟩
theorem lw_p13 : lw_okq (⟨"YamIsland", "whyNoRun", "(I)I"⟩, 8) := ⟨⟨by decide +kernel, by decide +kernel⟩, List.mem_of_getElem? (i := 10) (by decide +kernel), List.mem_of_getElem? (i := 345) (by decide +kernel), List.mem_of_getElem? (i := 346) (by decide +kernel)⟩
theorem lw_p14 : lw_okq (⟨"YamIsland", "faresNow", "(I)I"⟩, 8) := ⟨⟨by decide +kernel, by decide +kernel⟩, List.mem_of_getElem? (i := 10) (by decide +kernel), List.mem_of_getElem? (i := 370) (by decide +kernel), List.mem_of_getElem? (i := 371) (by decide +kernel)⟩
theorem lw_p15 : lw_okq (⟨"YamIsland", "faresInMind", "(I)I"⟩, 8) := ⟨⟨by decide +kernel, by decide +kernel⟩, List.mem_of_getElem? (i := 10) (by decide +kernel), List.mem_of_getElem? (i := 382) (by decide +kernel), List.mem_of_getElem? (i := 383) (by decide +kernel)⟩
def lw_privs_1 : List (MethodName × Nat) := [(⟨"YamIsland", "refuse", "(I)I"⟩, 8), (⟨"YamIsland", "isWay", "(I)Z"⟩, 8), (⟨"YamIsland$Reader", "readRule", "(I)LYamIsland$Rule;"⟩, 3), (⟨"YamIsland$Reader", "here", "()I"⟩, 3), (⟨"YamIsland$Reader", "readNumber", "()I"⟩, 3), (⟨"YamIsland$Reader", "readMixed", "(I)LYamIsland$Rule;"⟩, 3), (⟨"YamIsland$Reader", "passes", "(C)Z"⟩, 3), (⟨"YamIsland", "isRule", "(I)Z"⟩, 8), (⟨"YamIsland", "isPerson", "(I)Z"⟩, 8), (⟨"YamIsland$Island", "bestSeen", "(I)I"⟩, 19), (⟨"YamIsland$Island", "mostSeen", "(I)I"⟩, 19), (⟨"YamIsland$Island", "nearSeen", "(I)I"⟩, 19), (⟨"YamIsland$Island", "wayBehind", "(I)I"⟩, 19), (⟨"YamIsland", "whyNoRun", "(I)I"⟩, 8), (⟨"YamIsland", "faresNow", "(I)I"⟩, 8), (⟨"YamIsland", "faresInMind", "(I)I"⟩, 8)]
theorem lw_r1 : ∀ q ∈ lw_privs_1, lw_okq q := List.forall_mem_cons.mpr ⟨lw_p0, List.forall_mem_cons.mpr ⟨lw_p1, List.forall_mem_cons.mpr ⟨lw_p2, List.forall_mem_cons.mpr ⟨lw_p3, List.forall_mem_cons.mpr ⟨lw_p4, List.forall_mem_cons.mpr ⟨lw_p5, List.forall_mem_cons.mpr ⟨lw_p6, List.forall_mem_cons.mpr ⟨lw_p7, List.forall_mem_cons.mpr ⟨lw_p8, List.forall_mem_cons.mpr ⟨lw_p9, List.forall_mem_cons.mpr ⟨lw_p10, List.forall_mem_cons.mpr ⟨lw_p11, List.forall_mem_cons.mpr ⟨lw_p12, List.forall_mem_cons.mpr ⟨lw_p13, List.forall_mem_cons.mpr ⟨lw_p14, List.forall_mem_cons.mpr ⟨lw_p15, fun _ h => absurd h List.not_mem_nil⟩⟩⟩⟩⟩⟩⟩⟩⟩⟩⟩⟩⟩⟩⟩⟩
theorem lw_p16 : lw_okq (⟨"YamIsland", "refuseFar", "(I)I"⟩, 8) := ⟨⟨by decide +kernel, by decide +kernel⟩, List.mem_of_getElem? (i := 10) (by decide +kernel), List.mem_of_getElem? (i := 413) (by decide +kernel), List.mem_of_getElem? (i := 414) (by decide +kernel)⟩
theorem lw_p17 : lw_okq (⟨"YamIsland", "broughtBy", "(LYamIsland$Island;III)I"⟩, 8) := ⟨⟨by decide +kernel, by decide +kernel⟩, List.mem_of_getElem? (i := 10) (by decide +kernel), List.mem_of_getElem? (i := 418) (by decide +kernel), List.mem_of_getElem? (i := 419) (by decide +kernel)⟩
theorem lw_p18 : lw_okq (⟨"YamIsland", "learnOwn", "(LYamIsland$Island;I)V"⟩, 8) := ⟨⟨by decide +kernel, by decide +kernel⟩, List.mem_of_getElem? (i := 10) (by decide +kernel), List.mem_of_getElem? (i := 426) (by decide +kernel), List.mem_of_getElem? (i := 427) (by decide +kernel)⟩
theorem lw_p19 : lw_okq (⟨"YamIsland", "faresInParts", "(IIII)I"⟩, 8) := ⟨⟨by decide +kernel, by decide +kernel⟩, List.mem_of_getElem? (i := 10) (by decide +kernel), List.mem_of_getElem? (i := 435) (by decide +kernel), List.mem_of_getElem? (i := 436) (by decide +kernel)⟩
theorem lw_p20 : lw_okq (⟨"YamIsland", "bestPart", "(III)I"⟩, 8) := ⟨⟨by decide +kernel, by decide +kernel⟩, List.mem_of_getElem? (i := 10) (by decide +kernel), List.mem_of_getElem? (i := 451) (by decide +kernel), List.mem_of_getElem? (i := 452) (by decide +kernel)⟩
theorem lw_p21 : lw_okq (⟨"YamIsland", "partAtRest", "(III)I"⟩, 8) := ⟨⟨by decide +kernel, by decide +kernel⟩, List.mem_of_getElem? (i := 10) (by decide +kernel), List.mem_of_getElem? (i := 455) (by decide +kernel), List.mem_of_getElem? (i := 456) (by decide +kernel)⟩
theorem lw_p22 : lw_okq (⟨"YamIsland", "nobodyGains", "(IIII)Z"⟩, 8) := ⟨⟨by decide +kernel, by decide +kernel⟩, List.mem_of_getElem? (i := 10) (by decide +kernel), List.mem_of_getElem? (i := 459) (by decide +kernel), List.mem_of_getElem? (i := 460) (by decide +kernel)⟩
theorem lw_p23 : lw_okq (⟨"YamIsland", "faresUnder", "(IIIII)I"⟩, 8) := ⟨⟨by decide +kernel, by decide +kernel⟩, List.mem_of_getElem? (i := 10) (by decide +kernel), List.mem_of_getElem? (i := 467) (by decide +kernel), List.mem_of_getElem? (i := 468) (by decide +kernel)⟩
theorem lw_p24 : lw_okq (⟨"YamIsland", "whyNoRunWith", "(III)I"⟩, 8) := ⟨⟨by decide +kernel, by decide +kernel⟩, List.mem_of_getElem? (i := 10) (by decide +kernel), List.mem_of_getElem? (i := 479) (by decide +kernel), List.mem_of_getElem? (i := 480) (by decide +kernel)⟩
theorem lw_p25 : lw_okq (⟨"YamIslandModel", "refuse", "(I)I"⟩, 43) := ⟨⟨by decide +kernel, by decide +kernel⟩, List.mem_of_getElem? (i := 508) (by decide +kernel), List.mem_of_getElem? (i := 649) (by decide +kernel), List.mem_of_getElem? (i := 650) (by decide +kernel)⟩
theorem lw_p26 : lw_okq (⟨"YamIslandModel", "isWay", "(I)Z"⟩, 43) := ⟨⟨by decide +kernel, by decide +kernel⟩, List.mem_of_getElem? (i := 508) (by decide +kernel), List.mem_of_getElem? (i := 657) (by decide +kernel), List.mem_of_getElem? (i := 658) (by decide +kernel)⟩
theorem lw_p27 : lw_okq (⟨"YamIslandModel", "bestIn", "(I)I"⟩, 43) := ⟨⟨by decide +kernel, by decide +kernel⟩, List.mem_of_getElem? (i := 508) (by decide +kernel), List.mem_of_getElem? (i := 672) (by decide +kernel), List.mem_of_getElem? (i := 673) (by decide +kernel)⟩
theorem lw_p28 : lw_okq (⟨"YamIslandModel", "readOne", "(I)I"⟩, 43) := ⟨⟨by decide +kernel, by decide +kernel⟩, List.mem_of_getElem? (i := 508) (by decide +kernel), List.mem_of_getElem? (i := 694) (by decide +kernel), List.mem_of_getElem? (i := 695) (by decide +kernel)⟩
theorem lw_p29 : lw_okq (⟨"YamIslandModel", "here", "()I"⟩, 43) := ⟨⟨by decide +kernel, by decide +kernel⟩, List.mem_of_getElem? (i := 508) (by decide +kernel), List.mem_of_getElem? (i := 698) (by decide +kernel), List.mem_of_getElem? (i := 699) (by decide +kernel)⟩
theorem lw_p30 : lw_okq (⟨"YamIslandModel", "newKnot", "(III)I"⟩, 43) := ⟨⟨by decide +kernel, by decide +kernel⟩, List.mem_of_getElem? (i := 508) (by decide +kernel), List.mem_of_getElem? (i := 702) (by decide +kernel), List.mem_of_getElem? (i := 703) (by decide +kernel)⟩
theorem lw_p31 : lw_okq (⟨"YamIslandModel", "readNumber", "()I"⟩, 43) := ⟨⟨by decide +kernel, by decide +kernel⟩, List.mem_of_getElem? (i := 508) (by decide +kernel), List.mem_of_getElem? (i := 706) (by decide +kernel), List.mem_of_getElem? (i := 707) (by decide +kernel)⟩
def lw_privs_2 : List (MethodName × Nat) := [(⟨"YamIsland", "refuseFar", "(I)I"⟩, 8), (⟨"YamIsland", "broughtBy", "(LYamIsland$Island;III)I"⟩, 8), (⟨"YamIsland", "learnOwn", "(LYamIsland$Island;I)V"⟩, 8), (⟨"YamIsland", "faresInParts", "(IIII)I"⟩, 8), (⟨"YamIsland", "bestPart", "(III)I"⟩, 8), (⟨"YamIsland", "partAtRest", "(III)I"⟩, 8), (⟨"YamIsland", "nobodyGains", "(IIII)Z"⟩, 8), (⟨"YamIsland", "faresUnder", "(IIIII)I"⟩, 8), (⟨"YamIsland", "whyNoRunWith", "(III)I"⟩, 8), (⟨"YamIslandModel", "refuse", "(I)I"⟩, 43), (⟨"YamIslandModel", "isWay", "(I)Z"⟩, 43), (⟨"YamIslandModel", "bestIn", "(I)I"⟩, 43), (⟨"YamIslandModel", "readOne", "(I)I"⟩, 43), (⟨"YamIslandModel", "here", "()I"⟩, 43), (⟨"YamIslandModel", "newKnot", "(III)I"⟩, 43), (⟨"YamIslandModel", "readNumber", "()I"⟩, 43)]
theorem lw_r2 : ∀ q ∈ lw_privs_2, lw_okq q := List.forall_mem_cons.mpr ⟨lw_p16, List.forall_mem_cons.mpr ⟨lw_p17, List.forall_mem_cons.mpr ⟨lw_p18, List.forall_mem_cons.mpr ⟨lw_p19, List.forall_mem_cons.mpr ⟨lw_p20, List.forall_mem_cons.mpr ⟨lw_p21, List.forall_mem_cons.mpr ⟨lw_p22, List.forall_mem_cons.mpr ⟨lw_p23, List.forall_mem_cons.mpr ⟨lw_p24, List.forall_mem_cons.mpr ⟨lw_p25, List.forall_mem_cons.mpr ⟨lw_p26, List.forall_mem_cons.mpr ⟨lw_p27, List.forall_mem_cons.mpr ⟨lw_p28, List.forall_mem_cons.mpr ⟨lw_p29, List.forall_mem_cons.mpr ⟨lw_p30, List.forall_mem_cons.mpr ⟨lw_p31, fun _ h => absurd h List.not_mem_nil⟩⟩⟩⟩⟩⟩⟩⟩⟩⟩⟩⟩⟩⟩⟩⟩
theorem lw_p32 : lw_okq (⟨"YamIslandModel", "take", "(I)V"⟩, 43) := ⟨⟨by decide +kernel, by decide +kernel⟩, List.mem_of_getElem? (i := 508) (by decide +kernel), List.mem_of_getElem? (i := 713) (by decide +kernel), List.mem_of_getElem? (i := 714) (by decide +kernel)⟩
theorem lw_p33 : lw_okq (⟨"YamIslandModel", "close", "(I)I"⟩, 43) := ⟨⟨by decide +kernel, by decide +kernel⟩, List.mem_of_getElem? (i := 508) (by decide +kernel), List.mem_of_getElem? (i := 717) (by decide +kernel), List.mem_of_getElem? (i := 718) (by decide +kernel)⟩
theorem lw_p34 : lw_okq (⟨"YamIslandModel", "isRule", "(I)Z"⟩, 43) := ⟨⟨by decide +kernel, by decide +kernel⟩, List.mem_of_getElem? (i := 508) (by decide +kernel), List.mem_of_getElem? (i := 725) (by decide +kernel), List.mem_of_getElem? (i := 726) (by decide +kernel)⟩
theorem lw_p35 : lw_okq (⟨"YamIslandModel", "isPerson", "(I)Z"⟩, 43) := ⟨⟨by decide +kernel, by decide +kernel⟩, List.mem_of_getElem? (i := 508) (by decide +kernel), List.mem_of_getElem? (i := 733) (by decide +kernel), List.mem_of_getElem? (i := 734) (by decide +kernel)⟩
theorem lw_p36 : lw_okq (⟨"YamIslandModel", "open", "()V"⟩, 43) := ⟨⟨by decide +kernel, by decide +kernel⟩, List.mem_of_getElem? (i := 508) (by decide +kernel), List.mem_of_getElem? (i := 757) (by decide +kernel), List.mem_of_getElem? (i := 758) (by decide +kernel)⟩
theorem lw_p37 : lw_okq (⟨"YamIslandModel", "chosen", "(III)I"⟩, 43) := ⟨⟨by decide +kernel, by decide +kernel⟩, List.mem_of_getElem? (i := 508) (by decide +kernel), List.mem_of_getElem? (i := 761) (by decide +kernel), List.mem_of_getElem? (i := 762) (by decide +kernel)⟩
theorem lw_p38 : lw_okq (⟨"YamIslandModel", "bestSeen", "(III)I"⟩, 43) := ⟨⟨by decide +kernel, by decide +kernel⟩, List.mem_of_getElem? (i := 508) (by decide +kernel), List.mem_of_getElem? (i := 765) (by decide +kernel), List.mem_of_getElem? (i := 766) (by decide +kernel)⟩
theorem lw_p39 : lw_okq (⟨"YamIslandModel", "doesSee", "(III)Z"⟩, 43) := ⟨⟨by decide +kernel, by decide +kernel⟩, List.mem_of_getElem? (i := 508) (by decide +kernel), List.mem_of_getElem? (i := 769) (by decide +kernel), List.mem_of_getElem? (i := 770) (by decide +kernel)⟩
theorem lw_p40 : lw_okq (⟨"YamIslandModel", "mostSeen", "(II)I"⟩, 43) := ⟨⟨by decide +kernel, by decide +kernel⟩, List.mem_of_getElem? (i := 508) (by decide +kernel), List.mem_of_getElem? (i := 773) (by decide +kernel), List.mem_of_getElem? (i := 774) (by decide +kernel)⟩
theorem lw_p41 : lw_okq (⟨"YamIslandModel", "planting", "(III)I"⟩, 43) := ⟨⟨by decide +kernel, by decide +kernel⟩, List.mem_of_getElem? (i := 508) (by decide +kernel), List.mem_of_getElem? (i := 777) (by decide +kernel), List.mem_of_getElem? (i := 778) (by decide +kernel)⟩
theorem lw_p42 : lw_okq (⟨"YamIslandModel", "nearSeen", "(II)I"⟩, 43) := ⟨⟨by decide +kernel, by decide +kernel⟩, List.mem_of_getElem? (i := 508) (by decide +kernel), List.mem_of_getElem? (i := 781) (by decide +kernel), List.mem_of_getElem? (i := 782) (by decide +kernel)⟩
theorem lw_p43 : lw_okq (⟨"YamIslandModel", "wrongYears", "(I)I"⟩, 43) := ⟨⟨by decide +kernel, by decide +kernel⟩, List.mem_of_getElem? (i := 508) (by decide +kernel), List.mem_of_getElem? (i := 789) (by decide +kernel), List.mem_of_getElem? (i := 790) (by decide +kernel)⟩
theorem lw_p44 : lw_okq (⟨"YamIslandModel", "run", "(I)I"⟩, 43) := ⟨⟨by decide +kernel, by decide +kernel⟩, List.mem_of_getElem? (i := 508) (by decide +kernel), List.mem_of_getElem? (i := 793) (by decide +kernel), List.mem_of_getElem? (i := 794) (by decide +kernel)⟩
theorem lw_p45 : lw_okq (⟨"YamIslandModel", "weatherAt", "(I)I"⟩, 43) := ⟨⟨by decide +kernel, by decide +kernel⟩, List.mem_of_getElem? (i := 508) (by decide +kernel), List.mem_of_getElem? (i := 797) (by decide +kernel), List.mem_of_getElem? (i := 798) (by decide +kernel)⟩
theorem lw_p46 : lw_okq (⟨"YamIslandModel", "areAlike", "()Z"⟩, 43) := ⟨⟨by decide +kernel, by decide +kernel⟩, List.mem_of_getElem? (i := 508) (by decide +kernel), List.mem_of_getElem? (i := 801) (by decide +kernel), List.mem_of_getElem? (i := 802) (by decide +kernel)⟩
theorem lw_p47 : lw_okq (⟨"YamIslandModel", "gainOf", "(IIIIII)I"⟩, 43) := ⟨⟨by decide +kernel, by decide +kernel⟩, List.mem_of_getElem? (i := 508) (by decide +kernel), List.mem_of_getElem? (i := 826) (by decide +kernel), List.mem_of_getElem? (i := 827) (by decide +kernel)⟩
def lw_privs_3 : List (MethodName × Nat) := [(⟨"YamIslandModel", "take", "(I)V"⟩, 43), (⟨"YamIslandModel", "close", "(I)I"⟩, 43), (⟨"YamIslandModel", "isRule", "(I)Z"⟩, 43), (⟨"YamIslandModel", "isPerson", "(I)Z"⟩, 43), (⟨"YamIslandModel", "open", "()V"⟩, 43), (⟨"YamIslandModel", "chosen", "(III)I"⟩, 43), (⟨"YamIslandModel", "bestSeen", "(III)I"⟩, 43), (⟨"YamIslandModel", "doesSee", "(III)Z"⟩, 43), (⟨"YamIslandModel", "mostSeen", "(II)I"⟩, 43), (⟨"YamIslandModel", "planting", "(III)I"⟩, 43), (⟨"YamIslandModel", "nearSeen", "(II)I"⟩, 43), (⟨"YamIslandModel", "wrongYears", "(I)I"⟩, 43), (⟨"YamIslandModel", "run", "(I)I"⟩, 43), (⟨"YamIslandModel", "weatherAt", "(I)I"⟩, 43), (⟨"YamIslandModel", "areAlike", "()Z"⟩, 43), (⟨"YamIslandModel", "gainOf", "(IIIIII)I"⟩, 43)]
theorem lw_r3 : ∀ q ∈ lw_privs_3, lw_okq q := List.forall_mem_cons.mpr ⟨lw_p32, List.forall_mem_cons.mpr ⟨lw_p33, List.forall_mem_cons.mpr ⟨lw_p34, List.forall_mem_cons.mpr ⟨lw_p35, List.forall_mem_cons.mpr ⟨lw_p36, List.forall_mem_cons.mpr ⟨lw_p37, List.forall_mem_cons.mpr ⟨lw_p38, List.forall_mem_cons.mpr ⟨lw_p39, List.forall_mem_cons.mpr ⟨lw_p40, List.forall_mem_cons.mpr ⟨lw_p41, List.forall_mem_cons.mpr ⟨lw_p42, List.forall_mem_cons.mpr ⟨lw_p43, List.forall_mem_cons.mpr ⟨lw_p44, List.forall_mem_cons.mpr ⟨lw_p45, List.forall_mem_cons.mpr ⟨lw_p46, List.forall_mem_cons.mpr ⟨lw_p47, fun _ h => absurd h List.not_mem_nil⟩⟩⟩⟩⟩⟩⟩⟩⟩⟩⟩⟩⟩⟩⟩⟩
theorem lw_p48 : lw_okq (⟨"YamIslandModel", "ownIn", "(IIIIII)I"⟩, 43) := ⟨⟨by decide +kernel, by decide +kernel⟩, List.mem_of_getElem? (i := 508) (by decide +kernel), List.mem_of_getElem? (i := 830) (by decide +kernel), List.mem_of_getElem? (i := 831) (by decide +kernel)⟩
theorem lw_p49 : lw_okq (⟨"YamIslandModel", "faresInParts", "(IIII)I"⟩, 43) := ⟨⟨by decide +kernel, by decide +kernel⟩, List.mem_of_getElem? (i := 508) (by decide +kernel), List.mem_of_getElem? (i := 842) (by decide +kernel), List.mem_of_getElem? (i := 843) (by decide +kernel)⟩
theorem lw_p50 : lw_okq (⟨"YamIslandModel", "restsInParts", "(IIII)Z"⟩, 43) := ⟨⟨by decide +kernel, by decide +kernel⟩, List.mem_of_getElem? (i := 508) (by decide +kernel), List.mem_of_getElem? (i := 854) (by decide +kernel), List.mem_of_getElem? (i := 855) (by decide +kernel)⟩
theorem lw_p51 : lw_okq (⟨"YamIslandModel", "carryAll", "()V"⟩, 43) := ⟨⟨by decide +kernel, by decide +kernel⟩, List.mem_of_getElem? (i := 508) (by decide +kernel), List.mem_of_getElem? (i := 878) (by decide +kernel), List.mem_of_getElem? (i := 879) (by decide +kernel)⟩
theorem lw_p52 : lw_okq (⟨"YamIslandModel", "carry", "(I)I"⟩, 43) := ⟨⟨by decide +kernel, by decide +kernel⟩, List.mem_of_getElem? (i := 508) (by decide +kernel), List.mem_of_getElem? (i := 882) (by decide +kernel), List.mem_of_getElem? (i := 883) (by decide +kernel)⟩
def lw_privs_4 : List (MethodName × Nat) := [(⟨"YamIslandModel", "ownIn", "(IIIIII)I"⟩, 43), (⟨"YamIslandModel", "faresInParts", "(IIII)I"⟩, 43), (⟨"YamIslandModel", "restsInParts", "(IIII)Z"⟩, 43), (⟨"YamIslandModel", "carryAll", "()V"⟩, 43), (⟨"YamIslandModel", "carry", "(I)I"⟩, 43)]
theorem lw_r4 : ∀ q ∈ lw_privs_4, lw_okq q := List.forall_mem_cons.mpr ⟨lw_p48, List.forall_mem_cons.mpr ⟨lw_p49, List.forall_mem_cons.mpr ⟨lw_p50, List.forall_mem_cons.mpr ⟨lw_p51, List.forall_mem_cons.mpr ⟨lw_p52, fun _ h => absurd h List.not_mem_nil⟩⟩⟩⟩⟩
def lw_privs : List (MethodName × Nat) := lw_privs_1 ++ (lw_privs_2 ++ (lw_privs_3 ++ (lw_privs_4)))
def lw_tbl : List Cond := k2_sels lw_privs ++ tables_1
theorem lw_privs_ok : ∀ q ∈ lw_privs, lw_okq q := by
  show ∀ q ∈ lw_privs_1 ++ (lw_privs_2 ++ (lw_privs_3 ++ (lw_privs_4))), lw_okq q
  exact List.forall_mem_append.mpr ⟨lw_r1, List.forall_mem_append.mpr ⟨lw_r2, List.forall_mem_append.mpr ⟨lw_r3, lw_r4⟩⟩⟩

def RX0 : String := "YamIsland$Island"
def TX0 : u_T := fun k => match k with
  | 0 => ("YamIsland$Island", "wayCount", "I", false)
  | 1 => ("YamIsland$Island", "brings", "[I", true)
  | 2 => ("YamIsland$Island", "skyLength", "I", false)
  | 3 => ("YamIsland$Island", "sky", "[I", true)
  | 4 => ("YamIsland$Island", "skyStart", "I", false)
  | 5 => ("YamIsland$Island", "ruleCount", "I", false)
  | 6 => ("YamIsland$Island", "rules", "[LYamIsland$Rule;", true)
  | 7 => ("YamIsland$Island", "peopleCount", "I", false)
  | 8 => ("YamIsland$Island", "wayOf", "[I", true)
  | 9 => ("YamIsland$Island", "ruleOf", "[I", true)
  | 10 => ("YamIsland$Island", "seesOf", "[I", true)
  | 11 => ("YamIsland$Island", "total", "[I", true)
  | 12 => ("YamIsland$Island", "year", "I", false)
  | 13 => ("YamIsland$Island", "show", "I", false)
  | 14 => ("YamIsland$Island", "hidden", "I", false)
  | 15 => ("YamIsland$Island", "brought", "[I", true)
  | 16 => ("YamIsland$Island", "seen", "[I", true)
  | 17 => ("YamIsland$Island", "chosen", "[I", true)
  | _ => ("YamIsland$Island", "planters", "[I", true)
def tyX0 : Nat → FieldType := fun k => match k with
  | 0 => .int
  | 1 => .array .int
  | 2 => .int
  | 3 => .array .int
  | 4 => .int
  | 5 => .int
  | 6 => .array (.object "YamIsland$Rule")
  | 7 => .int
  | 8 => .array .int
  | 9 => .array .int
  | 10 => .array .int
  | 11 => .array .int
  | 12 => .int
  | 13 => .int
  | 14 => .int
  | 15 => .array .int
  | 16 => .array .int
  | 17 => .array .int
  | _ => .array .int
abbrev wsX00 : List Cond := u_ws RX0 TX0 19
theorem nmX0 : ∀ a, a < 19 → ∀ b, b < 19 → a ≠ b → (TX0 a).2.1 ≠ (TX0 b).2.1 := by decide +kernel
theorem tyX0_ok : ∀ k, k < 19 → parseFieldDescriptor (TX0 k).2.2.1 = some (tyX0 k) := by decide +kernel
abbrev cX0_init : ByteArray := prog_2_method_1_code
def yX0_init : MethodName := ⟨RX0, "<init>", "()V"⟩
abbrev cX0_copyFrom : ByteArray := prog_2_method_2_code
def yX0_copyFrom : MethodName := ⟨RX0, "copyFrom", "(LYamIsland$Island;)V"⟩
abbrev cX0_imagine : ByteArray := prog_2_method_3_code
def yX0_imagine : MethodName := ⟨RX0, "imagine", "(LYamIsland$Island;)V"⟩
abbrev cX0_addWay : ByteArray := prog_2_method_4_code
def yX0_addWay : MethodName := ⟨RX0, "addWay", "(IIII)I"⟩
abbrev cX0_addRule : ByteArray := prog_2_method_5_code
def yX0_addRule : MethodName := ⟨RX0, "addRule", "(LYamIsland$Rule;)I"⟩
abbrev cX0_addPerson : ByteArray := prog_2_method_6_code
def yX0_addPerson : MethodName := ⟨RX0, "addPerson", "(II)I"⟩
abbrev cX0_liveInParts : ByteArray := prog_2_method_7_code
def yX0_liveInParts : MethodName := ⟨RX0, "liveInParts", "(III)V"⟩
abbrev cX0_turnSky : ByteArray := prog_2_method_8_code
def yX0_turnSky : MethodName := ⟨RX0, "turnSky", "(III)V"⟩
abbrev cX0_seeAhead : ByteArray := prog_2_method_9_code
def yX0_seeAhead : MethodName := ⟨RX0, "seeAhead", "(I)V"⟩
abbrev cX0_bringsOf : ByteArray := prog_2_method_10_code
def yX0_bringsOf : MethodName := ⟨RX0, "bringsOf", "(II)I"⟩
abbrev cX0_weatherOf : ByteArray := prog_2_method_11_code
def yX0_weatherOf : MethodName := ⟨RX0, "weatherOf", "(I)I"⟩
abbrev cX0_bestIn : ByteArray := prog_2_method_12_code
def yX0_bestIn : MethodName := ⟨RX0, "bestIn", "(I)I"⟩
abbrev cX0_plantersOf : ByteArray := prog_2_method_13_code
def yX0_plantersOf : MethodName := ⟨RX0, "plantersOf", "(I)I"⟩
abbrev cX0_isAlike : ByteArray := prog_2_method_14_code
def yX0_isAlike : MethodName := ⟨RX0, "isAlike", "()Z"⟩
abbrev cX0_isWrong : ByteArray := prog_2_method_15_code
def yX0_isWrong : MethodName := ⟨RX0, "isWrong", "()Z"⟩
abbrev cX0_allBrought : ByteArray := prog_2_method_16_code
def yX0_allBrought : MethodName := ⟨RX0, "allBrought", "()I"⟩
abbrev cX0_passYears : ByteArray := prog_2_method_17_code
def yX0_passYears : MethodName := ⟨RX0, "passYears", "(I)V"⟩
abbrev cX0_harvest : ByteArray := prog_2_method_18_code
def yX0_harvest : MethodName := ⟨RX0, "harvest", "()V"⟩
abbrev cX0_choiceOf : ByteArray := prog_2_method_19_code
def yX0_choiceOf : MethodName := ⟨RX0, "choiceOf", "(I)I"⟩
abbrev cX0_bestSeen : ByteArray := prog_2_method_20_code
def yX0_bestSeen : MethodName := ⟨RX0, "bestSeen", "(I)I"⟩
abbrev cX0_mostSeen : ByteArray := prog_2_method_21_code
def yX0_mostSeen : MethodName := ⟨RX0, "mostSeen", "(I)I"⟩
abbrev cX0_nearSeen : ByteArray := prog_2_method_22_code
def yX0_nearSeen : MethodName := ⟨RX0, "nearSeen", "(I)I"⟩
abbrev cX0_wayBehind : ByteArray := prog_2_method_23_code
def yX0_wayBehind : MethodName := ⟨RX0, "wayBehind", "(I)I"⟩
abbrev cX0_isDivisor : ByteArray := prog_2_method_24_code
def yX0_isDivisor : MethodName := ⟨RX0, "isDivisor", "(II)Z"⟩
def RX1 : String := "YamIsland$Reader"
def TX1 : u_T := fun k => match k with
  | 0 => ("YamIsland$Reader", "text", "[I", true)
  | 1 => ("YamIsland$Reader", "length", "I", false)
  | _ => ("YamIsland$Reader", "place", "I", false)
def tyX1 : Nat → FieldType := fun k => match k with
  | 0 => .array .int
  | 1 => .int
  | _ => .int
abbrev wsX10 : List Cond := u_ws RX1 TX1 3
theorem nmX1 : ∀ a, a < 3 → ∀ b, b < 3 → a ≠ b → (TX1 a).2.1 ≠ (TX1 b).2.1 := by decide +kernel
theorem tyX1_ok : ∀ k, k < 3 → parseFieldDescriptor (TX1 k).2.2.1 = some (tyX1 k) := by decide +kernel
abbrev cX1_init : ByteArray := prog_3_method_1_code
def yX1_init : MethodName := ⟨RX1, "<init>", "()V"⟩
abbrev cX1_take : ByteArray := prog_3_method_2_code
def yX1_take : MethodName := ⟨RX1, "take", "(I)V"⟩
abbrev cX1_readAll : ByteArray := prog_3_method_3_code
def yX1_readAll : MethodName := ⟨RX1, "readAll", "()LYamIsland$Rule;"⟩
abbrev cX1_readRule : ByteArray := prog_3_method_4_code
def yX1_readRule : MethodName := ⟨RX1, "readRule", "(I)LYamIsland$Rule;"⟩
abbrev cX1_readMixed : ByteArray := prog_3_method_5_code
def yX1_readMixed : MethodName := ⟨RX1, "readMixed", "(I)LYamIsland$Rule;"⟩
abbrev cX1_readNumber : ByteArray := prog_3_method_6_code
def yX1_readNumber : MethodName := ⟨RX1, "readNumber", "()I"⟩
abbrev cX1_passes : ByteArray := prog_3_method_7_code
def yX1_passes : MethodName := ⟨RX1, "passes", "(C)Z"⟩
abbrev cX1_here : ByteArray := prog_3_method_8_code
def yX1_here : MethodName := ⟨RX1, "here", "()I"⟩
abbrev cX1_isDigit : ByteArray := prog_3_method_9_code
def yX1_isDigit : MethodName := ⟨RX1, "isDigit", "(I)Z"⟩
def RX2 : String := "YamIsland$Rule"
def TX2 : u_T := fun k => match k with
  | 0 => ("YamIsland$Rule", "sign", "C", true)
  | 1 => ("YamIsland$Rule", "number", "I", true)
  | 2 => ("YamIsland$Rule", "ifLess", "LYamIsland$Rule;", true)
  | _ => ("YamIsland$Rule", "otherwise", "LYamIsland$Rule;", true)
def tyX2 : Nat → FieldType := fun k => match k with
  | 0 => .char
  | 1 => .int
  | 2 => .object "YamIsland$Rule"
  | _ => .object "YamIsland$Rule"
abbrev wsX20 : List Cond := u_ws RX2 TX2 4
theorem nmX2 : ∀ a, a < 4 → ∀ b, b < 4 → a ≠ b → (TX2 a).2.1 ≠ (TX2 b).2.1 := by decide +kernel
theorem tyX2_ok : ∀ k, k < 4 → parseFieldDescriptor (TX2 k).2.2.1 = some (tyX2 k) := by decide +kernel
abbrev cX2_init : ByteArray := prog_4_method_1_code
def yX2_init : MethodName := ⟨RX2, "<init>", "(CILYamIsland$Rule;LYamIsland$Rule;)V"⟩
abbrev cX2_simpleFor : ByteArray := prog_4_method_2_code
def yX2_simpleFor : MethodName := ⟨RX2, "simpleFor", "(I)LYamIsland$Rule;"⟩
def RX3 : String := "YamIsland"
def TX3 : u_T := fun k => match k with
  | 0 => ("YamIsland", "island", "LYamIsland$Island;", true)
  | 1 => ("YamIsland", "taken", "LYamIsland$Island;", true)
  | 2 => ("YamIsland", "parted", "LYamIsland$Island;", true)
  | 3 => ("YamIsland", "mind", "LYamIsland$Island;", true)
  | 4 => ("YamIsland", "ownBrought", "[I", true)
  | 5 => ("YamIsland", "reader", "LYamIsland$Reader;", true)
  | 6 => ("YamIsland", "refusals", "[I", true)
  | _ => ("YamIsland", "isTaken", "Z", false)
def tyX3 : Nat → FieldType := fun k => match k with
  | 0 => .object "YamIsland$Island"
  | 1 => .object "YamIsland$Island"
  | 2 => .object "YamIsland$Island"
  | 3 => .object "YamIsland$Island"
  | 4 => .array .int
  | 5 => .object "YamIsland$Reader"
  | 6 => .array .int
  | _ => .boolean
abbrev wsX30 : List Cond := u_ws RX3 TX3 8
theorem nmX3 : ∀ a, a < 8 → ∀ b, b < 8 → a ≠ b → (TX3 a).2.1 ≠ (TX3 b).2.1 := by decide +kernel
theorem tyX3_ok : ∀ k, k < 8 → parseFieldDescriptor (TX3 k).2.2.1 = some (tyX3 k) := by decide +kernel
abbrev cX3_init : ByteArray := prog_1_method_1_code
def yX3_init : MethodName := ⟨RX3, "<init>", "()V"⟩
abbrev cX3_way : ByteArray := prog_1_method_2_code
def yX3_way : MethodName := ⟨RX3, "way", "(IIII)I"⟩
abbrev cX3_brings : ByteArray := prog_1_method_3_code
def yX3_brings : MethodName := ⟨RX3, "brings", "(III)I"⟩
abbrev cX3_bestWay : ByteArray := prog_1_method_4_code
def yX3_bestWay : MethodName := ⟨RX3, "bestWay", "(I)I"⟩
abbrev cX3_sky : ByteArray := prog_1_method_5_code
def yX3_sky : MethodName := ⟨RX3, "sky", "(IJ)I"⟩
abbrev cX3_weather : ByteArray := prog_1_method_6_code
def yX3_weather : MethodName := ⟨RX3, "weather", "(I)I"⟩
abbrev cX3_feed : ByteArray := prog_1_method_7_code
def yX3_feed : MethodName := ⟨RX3, "feed", "(IJ)I"⟩
abbrev cX3_rule : ByteArray := prog_1_method_8_code
def yX3_rule : MethodName := ⟨RX3, "rule", "()I"⟩
abbrev cX3_person : ByteArray := prog_1_method_9_code
def yX3_person : MethodName := ⟨RX3, "person", "(II)I"⟩
abbrev cX3_sees : ByteArray := prog_1_method_10_code
def yX3_sees : MethodName := ⟨RX3, "sees", "(II)I"⟩
abbrev cX3_lives : ByteArray := prog_1_method_11_code
def yX3_lives : MethodName := ⟨RX3, "lives", "(II)I"⟩
abbrev cX3_plants : ByteArray := prog_1_method_12_code
def yX3_plants : MethodName := ⟨RX3, "plants", "(II)I"⟩
abbrev cX3_show : ByteArray := prog_1_method_13_code
def yX3_show : MethodName := ⟨RX3, "show", "(I)I"⟩
abbrev cX3_of : ByteArray := prog_1_method_14_code
def yX3_of : MethodName := ⟨RX3, "of", "(II)I"⟩
abbrev cX3_next : ByteArray := prog_1_method_15_code
def yX3_next : MethodName := ⟨RX3, "next", "(I)I"⟩
abbrev cX3_go : ByteArray := prog_1_method_16_code
def yX3_go : MethodName := ⟨RX3, "go", "(I)I"⟩
abbrev cX3_share : ByteArray := prog_1_method_17_code
def yX3_share : MethodName := ⟨RX3, "share", "(I)I"⟩
abbrev cX3_fares : ByteArray := prog_1_method_18_code
def yX3_fares : MethodName := ⟨RX3, "fares", "(I)I"⟩
abbrev cX3_wrong : ByteArray := prog_1_method_19_code
def yX3_wrong : MethodName := ⟨RX3, "wrong", "(I)I"⟩
abbrev cX3_alike : ByteArray := prog_1_method_20_code
def yX3_alike : MethodName := ⟨RX3, "alike", "(I)I"⟩
abbrev cX3_gain : ByteArray := prog_1_method_21_code
def yX3_gain : MethodName := ⟨RX3, "gain", "(III)I"⟩
abbrev cX3_rest : ByteArray := prog_1_method_22_code
def yX3_rest : MethodName := ⟨RX3, "rest", "(I)I"⟩
abbrev cX3_ifAll : ByteArray := prog_1_method_23_code
def yX3_ifAll : MethodName := ⟨RX3, "ifAll", "(II)I"⟩
abbrev cX3_bestRule : ByteArray := prog_1_method_24_code
def yX3_bestRule : MethodName := ⟨RX3, "bestRule", "(I)I"⟩
abbrev cX3_part : ByteArray := prog_1_method_25_code
def yX3_part : MethodName := ⟨RX3, "part", "(IIII)I"⟩
abbrev cX3_edge : ByteArray := prog_1_method_26_code
def yX3_edge : MethodName := ⟨RX3, "edge", "(IIII)I"⟩
abbrev cX3_lessSeen : ByteArray := prog_1_method_27_code
def yX3_lessSeen : MethodName := ⟨RX3, "lessSeen", "(II)I"⟩
abbrev cX3_shown : ByteArray := prog_1_method_28_code
def yX3_shown : MethodName := ⟨RX3, "shown", "(II)I"⟩
abbrev cX3_blind : ByteArray := prog_1_method_29_code
def yX3_blind : MethodName := ⟨RX3, "blind", "(I)I"⟩
abbrev cX3_image : ByteArray := prog_1_method_30_code
def yX3_image : MethodName := ⟨RX3, "image", "()I"⟩
abbrev cX3_restore : ByteArray := prog_1_method_31_code
def yX3_restore : MethodName := ⟨RX3, "restore", "()I"⟩
abbrev cX3_count : ByteArray := prog_1_method_32_code
def yX3_count : MethodName := ⟨RX3, "count", "(I)I"⟩
abbrev cX3_isWay : ByteArray := prog_1_method_33_code
def yX3_isWay : MethodName := ⟨RX3, "isWay", "(I)Z"⟩
abbrev cX3_isWeather : ByteArray := prog_1_method_34_code
def yX3_isWeather : MethodName := ⟨RX3, "isWeather", "(I)Z"⟩
abbrev cX3_isPerson : ByteArray := prog_1_method_35_code
def yX3_isPerson : MethodName := ⟨RX3, "isPerson", "(I)Z"⟩
abbrev cX3_isRule : ByteArray := prog_1_method_36_code
def yX3_isRule : MethodName := ⟨RX3, "isRule", "(I)Z"⟩
abbrev cX3_whyOutside : ByteArray := prog_1_method_37_code
def yX3_whyOutside : MethodName := ⟨RX3, "whyOutside", "(III)I"⟩
abbrev cX3_whyNoRun : ByteArray := prog_1_method_38_code
def yX3_whyNoRun : MethodName := ⟨RX3, "whyNoRun", "(I)I"⟩
abbrev cX3_whyNoRunWith : ByteArray := prog_1_method_39_code
def yX3_whyNoRunWith : MethodName := ⟨RX3, "whyNoRunWith", "(III)I"⟩
abbrev cX3_refuse : ByteArray := prog_1_method_40_code
def yX3_refuse : MethodName := ⟨RX3, "refuse", "(I)I"⟩
abbrev cX3_refuseFar : ByteArray := prog_1_method_41_code
def yX3_refuseFar : MethodName := ⟨RX3, "refuseFar", "(I)I"⟩
abbrev cX3_exchange : ByteArray := prog_1_method_42_code
def yX3_exchange : MethodName := ⟨RX3, "exchange", "([III)I"⟩
abbrev cX3_faresNow : ByteArray := prog_1_method_43_code
def yX3_faresNow : MethodName := ⟨RX3, "faresNow", "(I)I"⟩
abbrev cX3_faresInMind : ByteArray := prog_1_method_44_code
def yX3_faresInMind : MethodName := ⟨RX3, "faresInMind", "(I)I"⟩
abbrev cX3_faresInParts : ByteArray := prog_1_method_45_code
def yX3_faresInParts : MethodName := ⟨RX3, "faresInParts", "(IIII)I"⟩
abbrev cX3_faresUnder : ByteArray := prog_1_method_46_code
def yX3_faresUnder : MethodName := ⟨RX3, "faresUnder", "(IIIII)I"⟩
abbrev cX3_bestPart : ByteArray := prog_1_method_47_code
def yX3_bestPart : MethodName := ⟨RX3, "bestPart", "(III)I"⟩
abbrev cX3_partAtRest : ByteArray := prog_1_method_48_code
def yX3_partAtRest : MethodName := ⟨RX3, "partAtRest", "(III)I"⟩
abbrev cX3_nobodyGains : ByteArray := prog_1_method_49_code
def yX3_nobodyGains : MethodName := ⟨RX3, "nobodyGains", "(IIII)Z"⟩
abbrev cX3_learnOwn : ByteArray := prog_1_method_50_code
def yX3_learnOwn : MethodName := ⟨RX3, "learnOwn", "(LYamIsland$Island;I)V"⟩
abbrev cX3_broughtBy : ByteArray := prog_1_method_51_code
def yX3_broughtBy : MethodName := ⟨RX3, "broughtBy", "(LYamIsland$Island;III)I"⟩
def RX4 : String := "YamIslandModel"
def TX4 : u_T := fun k => match k with
  | 0 => ("YamIslandModel", "ways", "I", false)
  | 1 => ("YamIslandModel", "brings", "[I", true)
  | 2 => ("YamIslandModel", "sky", "[I", true)
  | 3 => ("YamIslandModel", "skyMany", "I", false)
  | 4 => ("YamIslandModel", "people", "I", false)
  | 5 => ("YamIslandModel", "wayOf", "[I", true)
  | 6 => ("YamIslandModel", "ruleOf", "[I", true)
  | 7 => ("YamIslandModel", "seesOf", "[I", true)
  | 8 => ("YamIslandModel", "brought", "[I", true)
  | 9 => ("YamIslandModel", "show", "I", false)
  | 10 => ("YamIslandModel", "year", "I", false)
  | 11 => ("YamIslandModel", "rules", "I", false)
  | 12 => ("YamIslandModel", "roots", "[I", true)
  | 13 => ("YamIslandModel", "knotKind", "[I", true)
  | 14 => ("YamIslandModel", "knotK", "[I", true)
  | 15 => ("YamIslandModel", "knotOne", "[I", true)
  | 16 => ("YamIslandModel", "knotOther", "[I", true)
  | 17 => ("YamIslandModel", "text", "[I", true)
  | 18 => ("YamIslandModel", "textMany", "I", false)
  | 19 => ("YamIslandModel", "refused", "[I", true)
  | 20 => ("YamIslandModel", "at", "I", false)
  | 21 => ("YamIslandModel", "end", "I", false)
  | 22 => ("YamIslandModel", "isBad", "Z", false)
  | 23 => ("YamIslandModel", "knots", "I", false)
  | 24 => ("YamIslandModel", "openAt", "[I", true)
  | 25 => ("YamIslandModel", "isSecond", "[Z", true)
  | 26 => ("YamIslandModel", "opens", "I", false)
  | 27 => ("YamIslandModel", "runWay", "[I", true)
  | 28 => ("YamIslandModel", "runRule", "[I", true)
  | 29 => ("YamIslandModel", "runSees", "[I", true)
  | 30 => ("YamIslandModel", "runShow", "I", false)
  | 31 => ("YamIslandModel", "runBlind", "I", false)
  | 32 => ("YamIslandModel", "runLong", "I", false)
  | 33 => ("YamIslandModel", "runX", "I", false)
  | 34 => ("YamIslandModel", "runY", "I", false)
  | 35 => ("YamIslandModel", "runGain", "[I", true)
  | 36 => ("YamIslandModel", "nextWay", "[I", true)
  | 37 => ("YamIslandModel", "runWrong", "I", false)
  | 38 => ("YamIslandModel", "runAlike", "I", false)
  | 39 => ("YamIslandModel", "hasImage", "Z", false)
  | 40 => ("YamIslandModel", "imaged", "[I", true)
  | 41 => ("YamIslandModel", "imageAt", "I", false)
  | _ => ("YamIslandModel", "isTaking", "Z", false)
def tyX4 : Nat → FieldType := fun k => match k with
  | 0 => .int
  | 1 => .array .int
  | 2 => .array .int
  | 3 => .int
  | 4 => .int
  | 5 => .array .int
  | 6 => .array .int
  | 7 => .array .int
  | 8 => .array .int
  | 9 => .int
  | 10 => .int
  | 11 => .int
  | 12 => .array .int
  | 13 => .array .int
  | 14 => .array .int
  | 15 => .array .int
  | 16 => .array .int
  | 17 => .array .int
  | 18 => .int
  | 19 => .array .int
  | 20 => .int
  | 21 => .int
  | 22 => .boolean
  | 23 => .int
  | 24 => .array .int
  | 25 => .array .boolean
  | 26 => .int
  | 27 => .array .int
  | 28 => .array .int
  | 29 => .array .int
  | 30 => .int
  | 31 => .int
  | 32 => .int
  | 33 => .int
  | 34 => .int
  | 35 => .array .int
  | 36 => .array .int
  | 37 => .int
  | 38 => .int
  | 39 => .boolean
  | 40 => .array .int
  | 41 => .int
  | _ => .boolean
abbrev wsX40 : List Cond := u_ws RX4 TX4 43
theorem nmX4 : ∀ a, a < 43 → ∀ b, b < 43 → a ≠ b → (TX4 a).2.1 ≠ (TX4 b).2.1 := by decide +kernel
theorem tyX4_ok : ∀ k, k < 43 → parseFieldDescriptor (TX4 k).2.2.1 = some (tyX4 k) := by decide +kernel
abbrev cX4_init : ByteArray := prog_6_method_1_code
def yX4_init : MethodName := ⟨RX4, "<init>", "()V"⟩
abbrev cX4_in : ByteArray := prog_6_method_3_code
def yX4_in : MethodName := ⟨RX4, "in", "(JJJ)Z"⟩
abbrev cX4_refuse : ByteArray := prog_6_method_4_code
def yX4_refuse : MethodName := ⟨RX4, "refuse", "(I)I"⟩
abbrev cX4_isWay : ByteArray := prog_6_method_5_code
def yX4_isWay : MethodName := ⟨RX4, "isWay", "(I)Z"⟩
abbrev cX4_isPerson : ByteArray := prog_6_method_6_code
def yX4_isPerson : MethodName := ⟨RX4, "isPerson", "(I)Z"⟩
abbrev cX4_isRule : ByteArray := prog_6_method_7_code
def yX4_isRule : MethodName := ⟨RX4, "isRule", "(I)Z"⟩
abbrev cX4_isWeather : ByteArray := prog_6_method_8_code
def yX4_isWeather : MethodName := ⟨RX4, "isWeather", "(I)Z"⟩
abbrev cX4_way : ByteArray := prog_6_method_9_code
def yX4_way : MethodName := ⟨RX4, "way", "(IIII)I"⟩
abbrev cX4_brings : ByteArray := prog_6_method_10_code
def yX4_brings : MethodName := ⟨RX4, "brings", "(III)I"⟩
abbrev cX4_bestIn : ByteArray := prog_6_method_11_code
def yX4_bestIn : MethodName := ⟨RX4, "bestIn", "(I)I"⟩
abbrev cX4_bestWay : ByteArray := prog_6_method_12_code
def yX4_bestWay : MethodName := ⟨RX4, "bestWay", "(I)I"⟩
abbrev cX4_sky : ByteArray := prog_6_method_13_code
def yX4_sky : MethodName := ⟨RX4, "sky", "(IJ)I"⟩
abbrev cX4_weather : ByteArray := prog_6_method_14_code
def yX4_weather : MethodName := ⟨RX4, "weather", "(I)I"⟩
abbrev cX4_feed : ByteArray := prog_6_method_15_code
def yX4_feed : MethodName := ⟨RX4, "feed", "(IJ)I"⟩
abbrev cX4_here : ByteArray := prog_6_method_16_code
def yX4_here : MethodName := ⟨RX4, "here", "()I"⟩
abbrev cX4_take : ByteArray := prog_6_method_17_code
def yX4_take : MethodName := ⟨RX4, "take", "(I)V"⟩
abbrev cX4_readNumber : ByteArray := prog_6_method_18_code
def yX4_readNumber : MethodName := ⟨RX4, "readNumber", "()I"⟩
abbrev cX4_newKnot : ByteArray := prog_6_method_19_code
def yX4_newKnot : MethodName := ⟨RX4, "newKnot", "(III)I"⟩
abbrev cX4_readOne : ByteArray := prog_6_method_20_code
def yX4_readOne : MethodName := ⟨RX4, "readOne", "(I)I"⟩
abbrev cX4_close : ByteArray := prog_6_method_21_code
def yX4_close : MethodName := ⟨RX4, "close", "(I)I"⟩
abbrev cX4_rule : ByteArray := prog_6_method_22_code
def yX4_rule : MethodName := ⟨RX4, "rule", "()I"⟩
abbrev cX4_person : ByteArray := prog_6_method_23_code
def yX4_person : MethodName := ⟨RX4, "person", "(II)I"⟩
abbrev cX4_sees : ByteArray := prog_6_method_24_code
def yX4_sees : MethodName := ⟨RX4, "sees", "(II)I"⟩
abbrev cX4_lives : ByteArray := prog_6_method_25_code
def yX4_lives : MethodName := ⟨RX4, "lives", "(II)I"⟩
abbrev cX4_plants : ByteArray := prog_6_method_26_code
def yX4_plants : MethodName := ⟨RX4, "plants", "(II)I"⟩
abbrev cX4_show : ByteArray := prog_6_method_27_code
def yX4_show : MethodName := ⟨RX4, "show", "(I)I"⟩
abbrev cX4_of : ByteArray := prog_6_method_28_code
def yX4_of : MethodName := ⟨RX4, "of", "(II)I"⟩
abbrev cX4_open : ByteArray := prog_6_method_29_code
def yX4_open : MethodName := ⟨RX4, "open", "()V"⟩
abbrev cX4_weatherAt : ByteArray := prog_6_method_30_code
def yX4_weatherAt : MethodName := ⟨RX4, "weatherAt", "(I)I"⟩
abbrev cX4_doesSee : ByteArray := prog_6_method_31_code
def yX4_doesSee : MethodName := ⟨RX4, "doesSee", "(III)Z"⟩
abbrev cX4_bestSeen : ByteArray := prog_6_method_32_code
def yX4_bestSeen : MethodName := ⟨RX4, "bestSeen", "(III)I"⟩
abbrev cX4_mostSeen : ByteArray := prog_6_method_33_code
def yX4_mostSeen : MethodName := ⟨RX4, "mostSeen", "(II)I"⟩
abbrev cX4_planting : ByteArray := prog_6_method_34_code
def yX4_planting : MethodName := ⟨RX4, "planting", "(III)I"⟩
abbrev cX4_nearSeen : ByteArray := prog_6_method_35_code
def yX4_nearSeen : MethodName := ⟨RX4, "nearSeen", "(II)I"⟩
abbrev cX4_chosen : ByteArray := prog_6_method_36_code
def yX4_chosen : MethodName := ⟨RX4, "chosen", "(III)I"⟩
abbrev cX4_areAlike : ByteArray := prog_6_method_37_code
def yX4_areAlike : MethodName := ⟨RX4, "areAlike", "()Z"⟩
abbrev cX4_run : ByteArray := prog_6_method_38_code
def yX4_run : MethodName := ⟨RX4, "run", "(I)I"⟩
abbrev cX4_wrongYears : ByteArray := prog_6_method_39_code
def yX4_wrongYears : MethodName := ⟨RX4, "wrongYears", "(I)I"⟩
abbrev cX4_next : ByteArray := prog_6_method_40_code
def yX4_next : MethodName := ⟨RX4, "next", "(I)I"⟩
abbrev cX4_go : ByteArray := prog_6_method_41_code
def yX4_go : MethodName := ⟨RX4, "go", "(I)I"⟩
abbrev cX4_share : ByteArray := prog_6_method_42_code
def yX4_share : MethodName := ⟨RX4, "share", "(I)I"⟩
abbrev cX4_fares : ByteArray := prog_6_method_43_code
def yX4_fares : MethodName := ⟨RX4, "fares", "(I)I"⟩
abbrev cX4_wrong : ByteArray := prog_6_method_44_code
def yX4_wrong : MethodName := ⟨RX4, "wrong", "(I)I"⟩
abbrev cX4_alike : ByteArray := prog_6_method_45_code
def yX4_alike : MethodName := ⟨RX4, "alike", "(I)I"⟩
abbrev cX4_gainOf : ByteArray := prog_6_method_46_code
def yX4_gainOf : MethodName := ⟨RX4, "gainOf", "(IIIIII)I"⟩
abbrev cX4_ownIn : ByteArray := prog_6_method_47_code
def yX4_ownIn : MethodName := ⟨RX4, "ownIn", "(IIIIII)I"⟩
abbrev cX4_gain : ByteArray := prog_6_method_48_code
def yX4_gain : MethodName := ⟨RX4, "gain", "(III)I"⟩
abbrev cX4_rest : ByteArray := prog_6_method_49_code
def yX4_rest : MethodName := ⟨RX4, "rest", "(I)I"⟩
abbrev cX4_faresInParts : ByteArray := prog_6_method_50_code
def yX4_faresInParts : MethodName := ⟨RX4, "faresInParts", "(IIII)I"⟩
abbrev cX4_ifAll : ByteArray := prog_6_method_51_code
def yX4_ifAll : MethodName := ⟨RX4, "ifAll", "(II)I"⟩
abbrev cX4_bestRule : ByteArray := prog_6_method_52_code
def yX4_bestRule : MethodName := ⟨RX4, "bestRule", "(I)I"⟩
abbrev cX4_restsInParts : ByteArray := prog_6_method_53_code
def yX4_restsInParts : MethodName := ⟨RX4, "restsInParts", "(IIII)Z"⟩
abbrev cX4_part : ByteArray := prog_6_method_54_code
def yX4_part : MethodName := ⟨RX4, "part", "(IIII)I"⟩
abbrev cX4_edge : ByteArray := prog_6_method_55_code
def yX4_edge : MethodName := ⟨RX4, "edge", "(IIII)I"⟩
abbrev cX4_lessSeen : ByteArray := prog_6_method_56_code
def yX4_lessSeen : MethodName := ⟨RX4, "lessSeen", "(II)I"⟩
abbrev cX4_shown : ByteArray := prog_6_method_57_code
def yX4_shown : MethodName := ⟨RX4, "shown", "(II)I"⟩
abbrev cX4_blind : ByteArray := prog_6_method_58_code
def yX4_blind : MethodName := ⟨RX4, "blind", "(I)I"⟩
abbrev cX4_carry : ByteArray := prog_6_method_59_code
def yX4_carry : MethodName := ⟨RX4, "carry", "(I)I"⟩
abbrev cX4_carryAll : ByteArray := prog_6_method_60_code
def yX4_carryAll : MethodName := ⟨RX4, "carryAll", "()V"⟩
abbrev cX4_image : ByteArray := prog_6_method_61_code
def yX4_image : MethodName := ⟨RX4, "image", "()I"⟩
abbrev cX4_restore : ByteArray := prog_6_method_62_code
def yX4_restore : MethodName := ⟨RX4, "restore", "()I"⟩
abbrev cX4_count : ByteArray := prog_6_method_63_code
def yX4_count : MethodName := ⟨RX4, "count", "(I)I"⟩
def RJ9 : String := "java/lang/Math"
def TJ9 : u_T := fun k => match k with
  | _ => ("", "", "", false)
def tyJ9 : Nat → FieldType := fun k => match k with
  | _ => .int
abbrev wsJ90 : List Cond := u_ws RJ9 TJ9 0
theorem nmJ9 : ∀ a, a < 0 → ∀ b, b < 0 → a ≠ b → (TJ9 a).2.1 ≠ (TJ9 b).2.1 := by decide +kernel
theorem tyJ9_ok : ∀ k, k < 0 → parseFieldDescriptor (TJ9 k).2.2.1 = some (tyJ9 k) := by decide +kernel
abbrev cJ9_max_7cf53 : ByteArray := prog_7_method_65_code
def yJ9_max_7cf53 : MethodName := ⟨RJ9, "max", "(II)I"⟩
abbrev cJ9_min_7cf53 : ByteArray := prog_7_method_69_code
def yJ9_min_7cf53 : MethodName := ⟨RJ9, "min", "(II)I"⟩
def RJ10 : String := "java/lang/System"
def TJ10 : u_T := fun k => match k with
  | _ => ("", "", "", false)
def tyJ10 : Nat → FieldType := fun k => match k with
  | _ => .int
abbrev wsJ100 : List Cond := u_ws RJ10 TJ10 0
theorem nmJ10 : ∀ a, a < 0 → ∀ b, b < 0 → a ≠ b → (TJ10 a).2.1 ≠ (TJ10 b).2.1 := by decide +kernel
theorem tyJ10_ok : ∀ k, k < 0 → parseFieldDescriptor (TJ10 k).2.2.1 = some (tyJ10 k) := by decide +kernel
def RJ7 : String := "java/util/Arrays"
def TJ7 : u_T := fun k => match k with
  | _ => ("", "", "", false)
def tyJ7 : Nat → FieldType := fun k => match k with
  | _ => .int
abbrev wsJ70 : List Cond := u_ws RJ7 TJ7 0
theorem nmJ7 : ∀ a, a < 0 → ∀ b, b < 0 → a ≠ b → (TJ7 a).2.1 ≠ (TJ7 b).2.1 := by decide +kernel
theorem tyJ7_ok : ∀ k, k < 0 → parseFieldDescriptor (TJ7 k).2.2.1 = some (tyJ7 k) := by decide +kernel
abbrev cJ7_fill_53178 : ByteArray := prog_9_method_103_code
def yJ7_fill_53178 : MethodName := ⟨RJ7, "fill", "([II)V"⟩
def RL : String := "YamIslandLaw"
abbrev cL_law : ByteArray := code
def yL_law : MethodName := ⟨RL, "law", "([I)Z"⟩
abbrev vwCl : List vw_C := [(RX0, TX0, 19), (RX1, TX1, 3), (RX2, TX2, 4), (RX3, TX3, 8), (RX4, TX4, 43)]
end
section
/-! THE LAYER: worlds by names (a name is a place in a list of cells), an evaluator of straight code over them, contracts over them -/
def zG : List Jvm.Cond := lw_tbl.filter goodWord
theorem zG_in {w : Jvm.Cond} (h : w ∈ zG) : w ∈ lw_tbl := (List.mem_filter.mp h).1
theorem zG_good {w : Jvm.Cond} (h : w ∈ zG) : (w.onTables && w.keeps) = true ∨ ∃ ty, w = .arrayClass ty := good_of_word (List.mem_filter.mp h).2
def zin (h : Nat) (w : Jvm.Cond) : Bool := decide (lw_tbl[h]? = some w) && goodWord w
theorem zin_mem {h : Nat} {w : Jvm.Cond} (e : zin h w = true) : w ∈ zG := by
  unfold zin at e
  rw [Bool.and_eq_true, decide_eq_true_eq] at e
  exact List.mem_filter.mpr ⟨List.mem_of_getElem? e.1, e.2⟩
-- cells by names
abbrev zE : Type := (Nat × Nat × (Nat → Int32)) ⊕ ((Nat × (Nat → Option Nat)) ⊕ (Nat × List Value))
abbrev zS : Type := List zE
abbrev zL : Type := List (Option Value)
abbrev zC : Type := ClassId × ClassId × ClassId
def zv (q : Nat → Nat) (v : Value) : Value := match v with
  | .ref n => .ref (q n)
  | v => v
def zc (C : zC) (q : Nat → Nat) (x : zE) : va_E := match x with
  | .inl (k, n, f) => .inl (if k = 0 then C.1 else C.2.1, n, .inl f)
  | .inr (.inl (n, f)) => .inl (C.2.2, n, .inr (.inr (.inr (.inr (fun j => (f j).map q)))))
  | .inr (.inr (ci, fs)) => .inr (ci, fs.map (zv q))
def zw (C : zC) (q : Nat → Nat) (ws : zS) : va_W := ws.mapIdx (fun i x => (q i, zc C q x))
abbrev ztys (C : zC) : List (ClassId × FieldType) := [(C.1, .int), (C.2.1, .boolean), (C.2.2, .object RX2)]
theorem zw_at (C : zC) (q : Nat → Nat) (ws : zS) (i : Nat) : (zw C q ws)[i]? = (ws[i]?).map (fun x => (q i, zc C q x)) := by
  simp [zw]
theorem zw_len (C : zC) (q : Nat → Nat) (ws : zS) : (zw C q ws).length = ws.length := by simp [zw]
theorem zw_of {C : zC} {q : Nat → Nat} {ws : zS} {i : Nat} {x : zE} (h : ws[i]? = some x) : (zw C q ws)[i]? = some (q i, zc C q x) := by
  rw [zw_at, h]; rfl
theorem zw_set (C : zC) (q : Nat → Nat) (ws : zS) (i : Nat) (x : zE) : zw C q (ws.set i x) = (zw C q ws).set i (q i, zc C q x) := by
  apply List.ext_getElem?
  intro j
  rw [zw_at, List.getElem?_set, List.getElem?_set, zw_len]
  by_cases h : i = j
  · subst h
    by_cases h2 : i < ws.length <;> simp [h2]
  · simp [h, zw_at]
theorem zw_push (C : zC) (q : Nat → Nat) (ws : zS) (x : zE) : zw C q (ws ++ [x]) = zw C q ws ++ [(q ws.length, zc C q x)] := by
  apply List.ext_getElem?
  intro j
  rw [zw_at, List.getElem?_append, List.getElem?_append, zw_len, zw_at]
  by_cases h : j < ws.length
  · simp [h]
  · simp only [h, if_false]
    by_cases h2 : j = ws.length
    · subst h2; simp
    · have : 1 ≤ j - ws.length := by omega
      rw [List.getElem?_eq_none (by simpa using this), List.getElem?_eq_none (by simpa using this)]; rfl
theorem zv_cat (q : Nat → Nat) (v : Value) : (zv q v).category = v.category := by cases v <;> rfl
-- locals
def zla (q : Nat → Nat) : Nat → zL → List (Nat × Value)
  | _, [] => []
  | i, none :: r => zla q (i + 1) r
  | i, some v :: r => (i, zv q v) :: zla q (i + 1) r
theorem zla_mem (q : Nat → Nat) : ∀ (lv : zL) (i : Nat) (x : Nat × Value), x ∈ zla q i lv ↔ ∃ (k : Nat) (v : Value), lv[k]? = some (some v) ∧ x = (i + k, zv q v)
  | [], i, x => by simp [zla]
  | none :: r, i, x => by
    rw [zla, zla_mem q r (i + 1) x]
    constructor
    · rintro ⟨k, v, h, e⟩
      exact ⟨k + 1, v, by simpa using h, by rw [e]; congr 1; omega⟩
    · rintro ⟨k, v, h, e⟩
      cases k with
      | zero => simp at h
      | succ k => exact ⟨k, v, by simpa using h, by rw [e]; congr 1; omega⟩
  | some w :: r, i, x => by
    rw [zla, List.mem_cons, zla_mem q r (i + 1) x]
    constructor
    · rintro (h | ⟨k, v, h, e⟩)
      · exact ⟨0, w, by simp, by rw [h]; rfl⟩
      · exact ⟨k + 1, v, by simpa using h, by rw [e]; congr 1; omega⟩
    · rintro ⟨k, v, h, e⟩
      cases k with
      | zero =>
        left
        simp at h
        rw [e, ← h]
        rfl
      | succ k => exact Or.inr ⟨k, v, by simpa using h, by rw [e]; congr 1; omega⟩
def zh (q : Nat → Nat) (ls : Array Slot) (nL : Nat) (lv : zL) : Prop := lv.length ≤ nL ∧ lv_has ls nL (zla q 0 lv)
theorem zh_at {q : Nat → Nat} {ls : Array Slot} {nL : Nat} {lv : zL} (h : zh q ls nL lv) {i : Nat} {v : Value} (hi : lv[i]? = some (some v)) : ls[i]? = some (.val (zv q v)) :=
  h.2.2.2 (i, zv q v) ((zla_mem q lv 0 _).mpr ⟨i, v, hi, by simp⟩)
def zok (lv : zL) (i : Nat) : Bool := Nat.blt i lv.length && (match i with
  | 0 => true
  | j + 1 => match lv[j]? with
    | some (some (.long _)) => false
    | some (some (.double _)) => false
    | _ => true)
theorem zok_lt {lv : zL} {i : Nat} (h : zok lv i = true) : i < lv.length := by
  unfold zok at h
  rw [Bool.and_eq_true] at h
  simpa using h.1
theorem zok_cat {lv : zL} {i : Nat} (h : zok lv (i + 1) = true) {v : Value} (hv : lv[i]? = some (some v)) : v.category = 1 := by
  unfold zok at h
  rw [Bool.and_eq_true] at h
  have h2 := h.2
  simp only [hv] at h2
  cases v <;> first | rfl | (simp at h2)
theorem zh_set {q : Nat → Nat} {ls ls' : Array Slot} {nL : Nat} {lv : zL} {i : Nat} {v : Value} (h : zh q ls nL lv) (hk : zok lv i = true)
    (h' : lv_has ls' nL ((i, zv q v) :: (zla q 0 lv).filter (fun q => !(q.1 == i) && !(q.1 + 1 == i && q.2.category == 2)))) : zh q ls' nL (lv.set i (some v)) := by
  refine ⟨by rw [List.length_set]; exact h.1, h'.1, h'.2.1, fun x hx => h'.2.2 x ?_⟩
  obtain ⟨k, w, hw, e⟩ := (zla_mem q _ 0 x).mp hx
  rw [Nat.zero_add] at e
  rw [List.getElem?_set] at hw
  by_cases hik : i = k
  · subst hik
    rw [if_pos rfl, if_pos (zok_lt hk)] at hw
    cases hw
    rw [e]
    exact List.mem_cons_self
  · rw [if_neg hik] at hw
    refine List.mem_cons_of_mem _ (List.mem_filter.mpr ⟨(zla_mem q lv 0 x).mpr ⟨k, w, hw, by rw [e, Nat.zero_add]⟩, ?_⟩)
    rw [e]
    have e1 : (k == i) = false := by simp; omega
    simp only [e1, Bool.not_false, Bool.true_and, Bool.not_eq_true', Bool.and_eq_false_iff]
    by_cases h2 : k + 1 = i
    · right
      subst h2
      rw [zv_cat, zok_cat hk hw]
      rfl
    · left
      simp; omega
end
section
/-! one instruction over a world by names: what must be shown before it, given what is to be shown behind it -/
def zt (pc : Nat) (off : Int) : Nat := ((pc : Int) + off).toNat
def zi (n : Int) : Int32 := match n with
  | .ofNat k => nI k
  | .negSucc k => -(nI (k + 1))
abbrev zP : Type := Nat → zS → zL → List Value → Prop
def zald (k : zP) (pc : Nat) (ws : zS) (lv : zL) (st : List Value) (n : Nat) : Prop := match lv[n]? with
  | some (some (.ref a)) => k pc ws lv (.ref a :: st)
  | some (some .null) => k pc ws lv (.null :: st)
  | _ => False
def zild (k : zP) (pc : Nat) (ws : zS) (lv : zL) (st : List Value) (n : Nat) : Prop := match lv[n]? with
  | some (some (.int a)) => k pc ws lv (.int a :: st)
  | _ => False
def zlld (k : zP) (pc : Nat) (ws : zS) (lv : zL) (st : List Value) (n : Nat) : Prop := match lv[n]? with
  | some (some (.long a)) => k pc ws lv (.long a :: st)
  | _ => False
def zist (k : zP) (pc : Nat) (ws : zS) (lv : zL) (st : List Value) (n : Nat) : Prop := match st with
  | .int x :: r => (match zok lv n with
    | true => k pc ws (lv.set n (some (.int x))) r
    | false => False)
  | _ => False
def zast (k : zP) (pc : Nat) (ws : zS) (lv : zL) (st : List Value) (n : Nat) : Prop := match st with
  | .ref x :: r => (match zok lv n with
    | true => k pc ws (lv.set n (some (.ref x))) r
    | false => False)
  | .null :: r => (match zok lv n with
    | true => k pc ws (lv.set n (some .null)) r
    | false => False)
  | _ => False
def zinc (k : zP) (pc : Nat) (ws : zS) (lv : zL) (st : List Value) (n : Nat) (d : Int) : Prop := match lv[n]? with
  | some (some (.int a)) => (match zok lv n with
    | true => k pc ws (lv.set n (some (.int (a + zi d)))) st
    | false => False)
  | _ => False
def zI1 (st : List Value) (f : Int32 → List Value → Prop) : Prop := match st with
  | .int x :: r => f x r
  | _ => False
def zI2 (st : List Value) (f : Int32 → Int32 → List Value → Prop) : Prop := match st with
  | .int y :: .int x :: r => f x y r
  | _ => False
def zJ1 (st : List Value) (f : Int64 → List Value → Prop) : Prop := match st with
  | .long x :: r => f x r
  | _ => False
def zJ2 (st : List Value) (f : Int64 → Int64 → List Value → Prop) : Prop := match st with
  | .long y :: .long x :: r => f x y r
  | _ => False
def zJI (st : List Value) (f : Int64 → Int32 → List Value → Prop) : Prop := match st with
  | .int y :: .long x :: r => f x y r
  | _ => False
def zc1 : Value → Bool
  | .long _ => false
  | .double _ => false
  | _ => true
def zgf (fl : Nat → Option (Nat × Nat × Nat)) (k : zP) (pc : Nat) (ws : zS) (lv : zL) (st : List Value) (idx : Nat) : Prop := match fl idx, st with
  | some (ci, j, _), .ref a :: r => (match ws[a]? with
    | some (.inr (.inr (c', fs))) => (match Nat.beq c' ci, fs[j]? with
      | true, some v => k (pc + 3) ws lv (v :: r)
      | _, _ => False)
    | _ => False)
  | _, _ => False
def zpf (fl : Nat → Option (Nat × Nat × Nat)) (k : zP) (pc : Nat) (ws : zS) (lv : zL) (st : List Value) (idx : Nat) : Prop := match fl idx, st with
  | some (ci, j, kd), .int x :: .ref a :: r => (match ws[a]? with
    | some (.inr (.inr (c', fs))) => (match Nat.beq c' ci, Nat.blt j fs.length, kd with
      | true, true, 0 => k (pc + 3) (ws.set a (.inr (.inr (ci, fs.set j (.int x))))) lv r
      | true, true, 1 => (x = 0 ∨ x = 1) ∧ k (pc + 3) (ws.set a (.inr (.inr (ci, fs.set j (.int x))))) lv r
      | _, _, _ => False)
    | _ => False)
  | _, _ => False
def zia (k : zP) (pc : Nat) (ws : zS) (lv : zL) (st : List Value) (kd : Nat) : Prop := match st with
  | .int i :: .ref a :: r => (match ws[a]? with
    | some (.inl (k', n, f)) => (match Nat.beq k' kd, Nat.blt n 2147483648 with
      | true, true => ∃ j : Nat, i = nI j ∧ j < n ∧ k (pc + 1) ws lv (.int (f j) :: r)
      | _, _ => False)
    | _ => False)
  | _ => False
def zis (k : zP) (pc : Nat) (ws : zS) (lv : zL) (st : List Value) (kd : Nat) : Prop := match st with
  | .int x :: .int i :: .ref a :: r => (match ws[a]? with
    | some (.inl (k', n, f)) => (match Nat.beq k' kd, Nat.blt n 2147483648 with
      | true, true => ∃ j : Nat, i = nI j ∧ j < n ∧ k (pc + 1) (ws.set a (.inl (kd, n, upd f j (match kd with
        | 0 => x
        | _ => vp_nar .boolean x)))) lv r
      | _, _ => False)
    | _ => False)
  | _ => False
def zal (k : zP) (pc : Nat) (ws : zS) (lv : zL) (st : List Value) : Prop := match st with
  | .ref a :: r => (match ws[a]? with
    | some (.inl (_, n, _)) => k (pc + 1) ws lv (.int (nI n) :: r)
    | some (.inr (.inl (n, _))) => k (pc + 1) ws lv (.int (nI n) :: r)
    | _ => False)
  | _ => False
def zb2 (a b : Prop) (kt kf : Prop) : Prop := (a → kt) ∧ (b → kf)
def zts (k : Nat → Prop) (pc : Nat) (x : Int32) : Int → List Int → Prop
  | _, [] => True
  | lo, o :: r => (x = zi lo → k (zt pc o)) ∧ zts k pc x (lo + 1) r
def zls (k : Nat → Prop) (pc : Nat) (x : Int32) : List (Int × Int) → Prop
  | [] => True
  | (a, o) :: r => (x = zi a → k (zt pc o)) ∧ zls k pc x r
def zln (x : Int32) : List (Int × Int) → Prop
  | [] => True
  | (a, _) :: r => ¬ x = zi a ∧ zln x r
def zstp (fl : Nat → Option (Nat × Nat × Nat)) (ki : Nat → Option Int32) (kj : Nat → Option Int64) (K : zP) (Kr : zS → Option Value → Prop) (k : zP) (i : Instr) (pc : Nat) (ws : zS) (lv : zL) (st : List Value) : Prop := match i with
  | .aconst_null => k (pc + 1) ws lv (.null :: st)
  | .aload n => zald k (pc + 2) ws lv st n
  | .aload_n n => zald k (pc + 1) ws lv st n.val
  | .iload n => zild k (pc + 2) ws lv st n
  | .iload_n n => zild k (pc + 1) ws lv st n.val
  | .lload n => zlld k (pc + 2) ws lv st n
  | .lload_n n => zlld k (pc + 1) ws lv st n.val
  | .istore n => zist k (pc + 2) ws lv st n
  | .istore_n n => zist k (pc + 1) ws lv st n.val
  | .astore n => zast k (pc + 2) ws lv st n
  | .astore_n n => zast k (pc + 1) ws lv st n.val
  | .iinc n d => zinc k (pc + 3) ws lv st n d
  | .iconst n => k (pc + 1) ws lv (.int (zi n) :: st)
  | .bipush n => k (pc + 2) ws lv (.int (zi n) :: st)
  | .sipush n => k (pc + 3) ws lv (.int (zi n) :: st)
  | .lconst n => k (pc + 1) ws lv (.long (lN n.val) :: st)
  | .ldc idx => (match ki idx with
    | some v => k (pc + 2) ws lv (.int v :: st)
    | none => False)
  | .ldc2_w idx => (match kj idx with
    | some v => k (pc + 3) ws lv (.long v :: st)
    | none => False)
  | .iadd => zI2 st fun x y r => k (pc + 1) ws lv (.int (x + y) :: r)
  | .isub => zI2 st fun x y r => k (pc + 1) ws lv (.int (x - y) :: r)
  | .imul => zI2 st fun x y r => k (pc + 1) ws lv (.int (x * y) :: r)
  | .iand => zI2 st fun x y r => k (pc + 1) ws lv (.int (x &&& y) :: r)
  | .ior => zI2 st fun x y r => k (pc + 1) ws lv (.int (x ||| y) :: r)
  | .ixor => zI2 st fun x y r => k (pc + 1) ws lv (.int (x ^^^ y) :: r)
  | .idiv => zI2 st fun x y r => ¬ y = 0 ∧ k (pc + 1) ws lv (.int (x / y) :: r)
  | .irem => zI2 st fun x y r => ¬ y = 0 ∧ k (pc + 1) ws lv (.int (x - x / y * y) :: r)
  | .ineg => zI1 st fun x r => k (pc + 1) ws lv (.int (-x) :: r)
  | .ishl => zI2 st fun x y r => k (pc + 1) ws lv (.int (x <<< (y &&& 31)) :: r)
  | .ishr => zI2 st fun x y r => k (pc + 1) ws lv (.int (x >>> (y &&& 31)) :: r)
  | .i2l => zI1 st fun x r => k (pc + 1) ws lv (.long x.toInt64 :: r)
  | .l2i => zJ1 st fun x r => k (pc + 1) ws lv (.int x.toInt32 :: r)
  | .i2c => zI1 st fun x r => k (pc + 1) ws lv (.int (x.toUInt32 % 65536).toInt32 :: r)
  | .land => zJ2 st fun x y r => k (pc + 1) ws lv (.long (x &&& y) :: r)
  | .lor => zJ2 st fun x y r => k (pc + 1) ws lv (.long (x ||| y) :: r)
  | .lcmp => zJ2 st fun x y r => k (pc + 1) ws lv (.int (lg_cmp x y) :: r)
  | .lshl => zJI st fun x y r => k (pc + 1) ws lv (.long (x <<< (y.toInt64 &&& 63)) :: r)
  | .lshr => zJI st fun x y r => k (pc + 1) ws lv (.long (x >>> (y.toInt64 &&& 63)) :: r)
  | .lushr => zJI st fun x y r => k (pc + 1) ws lv (.long (x.toUInt64 >>> (y.toInt64.toUInt64 &&& Int64.toUInt64 63)).toInt64 :: r)
  | .dup => (match st with
    | v :: r => (match zc1 v with
      | true => k (pc + 1) ws lv (v :: v :: r)
      | false => False)
    | _ => False)
  | .pop => (match st with
    | v :: r => (match zc1 v with
      | true => k (pc + 1) ws lv r
      | false => False)
    | _ => False)
  | .dup_x1 => (match st with
    | v :: w :: r => (match zc1 v, zc1 w with
      | true, true => k (pc + 1) ws lv (v :: w :: v :: r)
      | _, _ => False)
    | _ => False)
  | .dup2 => (match st with
    | v :: w :: r => (match zc1 v, zc1 w with
      | true, true => k (pc + 1) ws lv (v :: w :: v :: w :: r)
      | _, _ => False)
    | _ => False)
  | .goto o => k (zt pc o) ws lv st
  | .ifnull o => (match st with
    | .ref _ :: r => k (pc + 3) ws lv r
    | .null :: r => k (zt pc o) ws lv r
    | _ => False)
  | .ifnonnull o => (match st with
    | .ref _ :: r => k (zt pc o) ws lv r
    | .null :: r => k (pc + 3) ws lv r
    | _ => False)
  | .ifCond .eq o => zI1 st fun x r => (x = 0 → k (zt pc o) ws lv r) ∧ (¬ x = 0 → k (pc + 3) ws lv r)
  | .ifCond .ne o => zI1 st fun x r => (¬ x = 0 → k (zt pc o) ws lv r) ∧ (x = 0 → k (pc + 3) ws lv r)
  | .ifCond .lt o => zI1 st fun x r => (x < 0 → k (zt pc o) ws lv r) ∧ (¬ x < 0 → k (pc + 3) ws lv r)
  | .ifCond .ge o => zI1 st fun x r => (0 ≤ x → k (zt pc o) ws lv r) ∧ (¬ 0 ≤ x → k (pc + 3) ws lv r)
  | .ifCond .gt o => zI1 st fun x r => (0 < x → k (zt pc o) ws lv r) ∧ (¬ 0 < x → k (pc + 3) ws lv r)
  | .ifCond .le o => zI1 st fun x r => (x ≤ 0 → k (zt pc o) ws lv r) ∧ (¬ x ≤ 0 → k (pc + 3) ws lv r)
  | .if_icmp .eq o => zI2 st fun x y r => (x = y → k (zt pc o) ws lv r) ∧ (¬ x = y → k (pc + 3) ws lv r)
  | .if_icmp .ne o => zI2 st fun x y r => (¬ x = y → k (zt pc o) ws lv r) ∧ (x = y → k (pc + 3) ws lv r)
  | .if_icmp .lt o => zI2 st fun x y r => (x < y → k (zt pc o) ws lv r) ∧ (¬ x < y → k (pc + 3) ws lv r)
  | .if_icmp .ge o => zI2 st fun x y r => (y ≤ x → k (zt pc o) ws lv r) ∧ (¬ y ≤ x → k (pc + 3) ws lv r)
  | .if_icmp .gt o => zI2 st fun x y r => (y < x → k (zt pc o) ws lv r) ∧ (¬ y < x → k (pc + 3) ws lv r)
  | .if_icmp .le o => zI2 st fun x y r => (x ≤ y → k (zt pc o) ws lv r) ∧ (¬ x ≤ y → k (pc + 3) ws lv r)
  | .tableswitch d lo hi offs => zI1 st fun x r => zts (fun t => k t ws lv r) pc x lo offs.toList ∧ ((x.toInt < lo ∨ hi < x.toInt) → k (zt pc d) ws lv r)
  | .lookupswitch d ps => zI1 st fun x r => zls (fun t => k t ws lv r) pc x ps.toList ∧ (zln x ps.toList → k (zt pc d) ws lv r)
  | .getfield idx => zgf fl k pc ws lv st idx
  | .putfield idx => zpf fl k pc ws lv st idx
  | .iaload => zia k pc ws lv st 0
  | .iastore => zis k pc ws lv st 0
  | .baload => zia k pc ws lv st 1
  | .bastore => zis k pc ws lv st 1
  | .arraylength => zal k pc ws lv st
  | .ireturn => (match st with
    | [.int v] => Kr ws (some (.int v))
    | _ => False)
  | .areturn => (match st with
    | [.ref a] => Kr ws (some (.ref a))
    | [.null] => Kr ws (some .null)
    | _ => False)
  | .return_ => (match st with
    | [] => Kr ws none
    | _ => False)
  | _ => K pc ws lv st
def zfd : List (Nat × Instr) → Nat → Option Instr
  | [], _ => none
  | (p, i) :: r, pc => match Nat.beq p pc with
    | true => some i
    | false => zfd r pc
def zme (pc : Nat) : List Nat → Bool
  | [] => false
  | p :: r => match Nat.beq p pc with
    | true => true
    | false => zme pc r
def zgo (tab : List (Nat × Instr)) (fl : Nat → Option (Nat × Nat × Nat)) (ki : Nat → Option Int32) (kj : Nat → Option Int64) (stops : List Nat) (K : zP) (Kr : zS → Option Value → Prop) : Nat → zP
  | 0, pc, ws, lv, st => K pc ws lv st
  | n + 1, pc, ws, lv, st => match zfd tab pc with
    | some i => zstp fl ki kj K Kr (fun pc ws lv st => match zme pc stops with
      | true => K pc ws lv st
      | false => zgo tab fl ki kj stops K Kr n pc ws lv st) i pc ws lv st
    | none => False
/-! what a table of a method's code must keep -/
def zlen : Instr → Nat
  | .aload _ => 2 | .iload _ => 2 | .lload _ => 2 | .istore _ => 2 | .astore _ => 2 | .iinc _ _ => 3 | .bipush _ => 2 | .sipush _ => 3 | .ldc _ => 2 | .ldc2_w _ => 3
  | .goto _ => 3 | .ifnull _ => 3 | .ifnonnull _ => 3 | .ifCond _ _ => 3 | .if_icmp _ _ => 3 | .getfield _ => 3 | .putfield _ => 3
  | .invokevirtual _ => 3 | .invokespecial _ => 3 | .invokestatic _ => 3 | .new _ => 3 | .anewarray _ => 3 | .newarray _ => 2
  | _ => 1
def ztok (pc : Nat) (o : Int) : Bool := decide ((pc : Int) + o = (zt pc o : Int))
def zokI (pc : Nat) : Instr → Bool
  | .iconst n => decide (Int32.ofInt n = zi n)
  | .bipush n => decide ((Int8.ofInt n).toInt32 = zi n)
  | .sipush n => decide ((Int16.ofInt n).toInt32 = zi n)
  | .iinc _ n => decide (Int32.ofInt n = zi n)
  | .goto o => ztok pc o | .ifnull o => ztok pc o | .ifnonnull o => ztok pc o | .ifCond _ o => ztok pc o | .if_icmp _ o => ztok pc o
  | .tableswitch d lo hi offs => ztok pc d && decide (hi + 1 = lo + offs.toList.length) && offs.toList.all (ztok pc) && (List.range offs.toList.length).all (fun j => decide ((zi (lo + j)).toInt = lo + j))
  | .lookupswitch d ps => ztok pc d && ps.toList.all (fun e => ztok pc e.2 && decide ((zi e.1).toInt = e.1)) && (ps.toList.zip (ps.toList.drop 1)).all (fun (a, next) => a.1 < next.1)
  | _ => true
def zisw : Instr → Bool
  | .tableswitch _ _ _ _ => true
  | .lookupswitch _ _ => true
  | _ => false
def zokE (cc : ByteArray) (e : Nat × Instr) : Bool := (match decode cc e.1 with
  | .ok (i, l) => decide (i = e.2) && (zisw i || Nat.beq l (zlen i))
  | .error _ => false) && zokI e.1 e.2
def zokC (cc : ByteArray) (tab : List (Nat × Instr)) : Bool := tab.all (zokE cc)
theorem zfd_mem : ∀ {tab : List (Nat × Instr)} {pc : Nat} {i : Instr}, zfd tab pc = some i → (pc, i) ∈ tab
  | [], pc, i, h => by simp [zfd] at h
  | (p, j) :: r, pc, i, h => by
    unfold zfd at h
    by_cases hp : Nat.beq p pc = true
    · rw [hp] at h
      cases h
      rw [Nat.eq_of_beq_eq_true hp]
      exact List.mem_cons_self
    · rw [Bool.not_eq_true] at hp
      rw [hp] at h
      exact List.mem_cons_of_mem _ (zfd_mem h)
theorem zokC_at {cc : ByteArray} {tab : List (Nat × Instr)} (h : zokC cc tab = true) {pc : Nat} {i : Instr} (hf : zfd tab pc = some i) : (∃ l, decode cc pc = .ok (i, l) ∧ (zisw i = true ∨ l = zlen i)) ∧ zokI pc i = true := by
  have h1 := List.all_eq_true.mp h _ (zfd_mem hf)
  unfold zokE at h1
  rw [Bool.and_eq_true] at h1
  refine ⟨?_, h1.2⟩
  have h2 := h1.1
  revert h2
  generalize hd : decode cc pc = d
  intro h2
  match d, h2 with
  | .ok (j, l), h2 =>
    rw [Bool.and_eq_true, decide_eq_true_eq, Bool.or_eq_true] at h2
    obtain ⟨e, h3⟩ := h2
    have e : j = i := e
    subst e
    exact ⟨l, rfl, h3.imp id (fun h => Nat.eq_of_beq_eq_true h)⟩
  | .error _, h2 => exact absurd h2 (by simp)
end
section
/-! the machine stands at a place with a world by names; a step of the evaluator is a step of the machine -/
def zFx (p : Program) (s : State) (m : MethodId) (args : Array Value) (meth : Method) (c : Code) (cc : ByteArray) (nL : Nat) (ret : Option FieldType) (own : String) (D : va_G) (C : zC) : Prop :=
  p.tables.exec = Jvm.exec ∧ c.code = cc ∧ c.maxLocals = nL ∧ meth.sig.returnType = ret ∧ s.vm.findClass own = some m.cls ∧ (∀ w ∈ zG, w.before args s = true) ∧ va_K D vwCl (ztys C) s ∧ meth.locks = false
def zAt (p : Program) (l : Launch) (e : Env) (R : Room) (s : State) (m : MethodId) (args : Array Value) (below : List Frame) (meth : Method) (c : Code) (D : va_G) (C : zC) (A : Nat → Prop) (nL : Nat) (Q : State → Prop) (kc ks : Nat) (q : Nat → Nat) : zP := fun pc ws lv st =>
  ∀ (H : Heap) (locs : List Loc) (ls : Array Slot), va_P D vwCl (zw C q ws) H → va_D A (zw C q ws) → va_S A s.heap H locs → zh q ls nL lv → W p l e R s m args below meth c H locs kc ks Q (F0 m pc ls (st.map (zv q)))
def zFl (own : String) (fl : Nat → Option (Nat × Nat × Nat)) : Prop := ∀ idx ci j kd, fl idx = some (ci, j, kd) → ∃ r : vw_C, vwCl[ci]? = some r ∧ j < r.2.2 ∧ Jvm.Cond.fieldLink own idx (r.2.1 j).1 (r.2.1 j).2.1 (r.2.1 j).2.2.1 ∈ zG ∧ (kd = 0 → (r.2.1 j).2.2.2 = false ∧ (r.2.1 j).2.2.1 = "I") ∧ (kd = 1 → (r.2.1 j).2.2.2 = false ∧ (r.2.1 j).2.2.1 = "Z")
def zTb (own : String) (fl : Nat → Option (Nat × Nat × Nat)) (ki : Nat → Option Int32) (kj : Nat → Option Int64) : Prop :=
  zFl own fl ∧ (∀ idx v, ki idx = some v → Jvm.Cond.constant own idx v ∈ zG) ∧ (∀ idx v, kj idx = some v → Jvm.Cond.constantLong own idx v ∈ zG)
def zRt (ret : Option FieldType) (rv : Option Value) : Prop := match rv with
  | none => ret = none
  | some (.int v) => ∃ ty, ret = some ty ∧ narrow ty (.int v) = .int v
  | some (.ref _) => ∃ n, ret = some (.object n)
  | some .null => ∃ n, ret = some (.object n)
  | _ => False
/-- each class's layout words are among the good words, and its table of types fits -/
def zCls : Prop := ∀ (ci : Nat) (r : vw_C), vwCl[ci]? = some r → (∀ w ∈ u_ws r.1 r.2.1 r.2.2, w ∈ zG) ∧ ∃ ty0 : Nat → FieldType, (∀ k, k < r.2.2 → parseFieldDescriptor (r.2.1 k).2.2.1 = some (ty0 k)) ∧ (∀ a, a < r.2.2 → ∀ b, b < r.2.2 → a ≠ b → (r.2.1 a).2.1 ≠ (r.2.1 b).2.1)
theorem zI1_inv {st : List Value} {f : Int32 → List Value → Prop} (h : zI1 st f) : ∃ x r, st = .int x :: r ∧ f x r := by
  unfold zI1 at h
  split at h
  · exact ⟨_, _, rfl, h⟩
  · exact h.elim
theorem zI2_inv {st : List Value} {f : Int32 → Int32 → List Value → Prop} (h : zI2 st f) : ∃ x y r, st = .int y :: .int x :: r ∧ f x y r := by
  unfold zI2 at h
  split at h
  · exact ⟨_, _, _, rfl, h⟩
  · exact h.elim
theorem zJ1_inv {st : List Value} {f : Int64 → List Value → Prop} (h : zJ1 st f) : ∃ x r, st = .long x :: r ∧ f x r := by
  unfold zJ1 at h
  split at h
  · exact ⟨_, _, rfl, h⟩
  · exact h.elim
theorem zJ2_inv {st : List Value} {f : Int64 → Int64 → List Value → Prop} (h : zJ2 st f) : ∃ x y r, st = .long y :: .long x :: r ∧ f x y r := by
  unfold zJ2 at h
  split at h
  · exact ⟨_, _, _, rfl, h⟩
  · exact h.elim
theorem zJI_inv {st : List Value} {f : Int64 → Int32 → List Value → Prop} (h : zJI st f) : ∃ x y r, st = .int y :: .long x :: r ∧ f x y r := by
  unfold zJI at h
  split at h
  · exact ⟨_, _, _, rfl, h⟩
  · exact h.elim
theorem zc1_cat {q : Nat → Nat} {v : Value} (h : zc1 v = true) : (zv q v).category = 1 := by
  cases v <;> first | rfl | (simp [zc1] at h)
theorem ztok_eq {pc : Nat} {o : Int} (h : ztok pc o = true) : (pc : Int) + o = (zt pc o : Int) := of_decide_eq_true h
theorem zts_inv {k : Nat → Prop} {pc : Nat} {x : Int32} : ∀ (os : List Int) (lo : Int), zts k pc x lo os → (∀ j : Nat, j < os.length → (zi (lo + j)).toInt = lo + j) → ∀ (j : Nat) (o : Int), os[j]? = some o → x.toInt = lo + j → k (zt pc o)
  | [], lo, _, _, j, o, ho, _ => by simp at ho
  | a :: r, lo, h, hz, j, o, ho, hx => by
    cases j with
    | zero =>
      simp at ho
      subst ho
      refine h.1 ?_
      have h1 := hz 0 (by simp)
      apply Int32.toInt_inj.mp
      rw [hx]
      simp at h1 ⊢
      exact h1.symm
    | succ j =>
      refine zts_inv r (lo + 1) h.2 (fun i hi => ?_) j o (by simpa using ho) (by rw [hx]; push_cast; omega)
      have h1 := hz (i + 1) (by simp; omega)
      have e : lo + 1 + (i : Int) = lo + ((i + 1 : Nat) : Int) := by push_cast; omega
      rw [e]
      exact h1
theorem zls_inv {k : Nat → Prop} {pc : Nat} {x : Int32} (d : Int) : ∀ (ps : List (Int × Int)), zls k pc x ps → (zln x ps → k (zt pc d)) → (∀ e ∈ ps, (zi e.1).toInt = e.1) → k (zt pc (lookupswitch.offset ps d x.toInt))
  | [], _, h2, _ => h2 trivial
  | (a, o) :: r, h, h2, hz => by
    rw [lookupswitch.offset_cons]
    by_cases ha : a = x.toInt
    · rw [if_pos ha]
      refine h.1 (Int32.toInt_inj.mp ?_)
      rw [hz (a, o) List.mem_cons_self, ha]
    · rw [if_neg ha]
      refine zls_inv d r h.2 (fun hn => h2 ⟨fun e => ha ?_, hn⟩) (fun e he => hz e (List.mem_cons_of_mem _ he))
      rw [e, hz (a, o) List.mem_cons_self]
section ZA
variable {p : Program} {l : Launch} {e : Env} {R : Room} {s : State} {m : MethodId} {args : Array Value} {below : List Frame} {meth : Method} {c : Code}
variable {cc : ByteArray} {nL : Nat} {ret : Option FieldType} {own : String} {D : va_G} {C : zC} {A : Nat → Prop} {Q : State → Prop} {kc ks : Nat} {q : Nat → Nat}
theorem zAt_ald (F : zFx p s m args meth c cc nL ret own D C) {pc n pc' : Nat} {ws : zS} {lv : zL} {st : List Value} (hd : decode cc pc = .ok (.aload n, 2) ∧ pc' = pc + 2 ∨ ∃ k : Fin 4, decode cc pc = .ok (.aload_n k, 1) ∧ pc' = pc + 1 ∧ (k : Nat) = n)
    (h : zald (zAt p l e R s m args below meth c D C A nL Q kc ks q) pc' ws lv st n) : zAt p l e R s m args below meth c D C A nL Q kc ks q pc ws lv st := by
  obtain ⟨hx, hb, -⟩ := F
  intro H locs ls hP hD hS hl
  unfold zald at h
  split at h
  · rename_i a ha
    rcases hd with ⟨hd, rfl⟩ | ⟨k, hd, rfl, hk⟩
    · exact lv_aload hx hb hd (zh_at hl ha) (h H locs ls hP hD hS hl)
    · exact lv_aload_n hx hb hd hk (zh_at hl ha) (h H locs ls hP hD hS hl)
  · rename_i ha
    rcases hd with ⟨hd, rfl⟩ | ⟨k, hd, rfl, hk⟩
    · exact lv_aloadN hx hb hd (zh_at hl ha) (h H locs ls hP hD hS hl)
    · exact lv_aload_nN hx hb hd hk (zh_at hl ha) (h H locs ls hP hD hS hl)
  · exact h.elim
theorem zAt_ild (F : zFx p s m args meth c cc nL ret own D C) {pc n pc' : Nat} {ws : zS} {lv : zL} {st : List Value} (hd : decode cc pc = .ok (.iload n, 2) ∧ pc' = pc + 2 ∨ ∃ k : Fin 4, decode cc pc = .ok (.iload_n k, 1) ∧ pc' = pc + 1 ∧ (k : Nat) = n)
    (h : zild (zAt p l e R s m args below meth c D C A nL Q kc ks q) pc' ws lv st n) : zAt p l e R s m args below meth c D C A nL Q kc ks q pc ws lv st := by
  obtain ⟨hx, hb, -⟩ := F
  intro H locs ls hP hD hS hl
  unfold zild at h
  split at h
  · rename_i a ha
    rcases hd with ⟨hd, rfl⟩ | ⟨k, hd, rfl, hk⟩
    · exact lv_iload hx hb hd (zh_at hl ha) (h H locs ls hP hD hS hl)
    · exact lv_iload_n hx hb hd hk (zh_at hl ha) (h H locs ls hP hD hS hl)
  · exact h.elim
theorem zAt_lld (F : zFx p s m args meth c cc nL ret own D C) {pc n pc' : Nat} {ws : zS} {lv : zL} {st : List Value} (hd : decode cc pc = .ok (.lload n, 2) ∧ pc' = pc + 2 ∨ ∃ k : Fin 4, decode cc pc = .ok (.lload_n k, 1) ∧ pc' = pc + 1 ∧ (k : Nat) = n)
    (h : zlld (zAt p l e R s m args below meth c D C A nL Q kc ks q) pc' ws lv st n) : zAt p l e R s m args below meth c D C A nL Q kc ks q pc ws lv st := by
  obtain ⟨hx, hb, -⟩ := F
  intro H locs ls hP hD hS hl
  unfold zlld at h
  split at h
  · rename_i a ha
    rcases hd with ⟨hd, rfl⟩ | ⟨k, hd, rfl, hk⟩
    · exact lv_lload hx hb hd (zh_at hl ha) (h H locs ls hP hD hS hl)
    · exact lv_lload_n hx hb hd hk (zh_at hl ha) (h H locs ls hP hD hS hl)
  · exact h.elim
theorem zAt_ist (F : zFx p s m args meth c cc nL ret own D C) {pc n pc' : Nat} {ws : zS} {lv : zL} {st : List Value} (hd : decode cc pc = .ok (.istore n, 2) ∧ pc' = pc + 2 ∨ ∃ k : Fin 4, decode cc pc = .ok (.istore_n k, 1) ∧ pc' = pc + 1 ∧ (k : Nat) = n)
    (h : zist (zAt p l e R s m args below meth c D C A nL Q kc ks q) pc' ws lv st n) : zAt p l e R s m args below meth c D C A nL Q kc ks q pc ws lv st := by
  obtain ⟨hx, hb, -⟩ := F
  intro H locs ls hP hD hS hl
  unfold zist at h
  split at h
  · rename_i x r
    split at h
    · rename_i hk0
      rcases hd with ⟨hd, rfl⟩ | ⟨k, hd, rfl, hk⟩
      · exact lv_istore hx hb hd hl.2 (Nat.lt_of_lt_of_le (zok_lt hk0) hl.1) rfl (fun ls' h' => h H locs ls' hP hD hS (zh_set (v := .int x) hl hk0 h'))
      · exact lv_istore_n hx hb hd hk hl.2 (Nat.lt_of_lt_of_le (zok_lt hk0) hl.1) rfl (fun ls' h' => h H locs ls' hP hD hS (zh_set (v := .int x) hl hk0 h'))
    · exact h.elim
  · exact h.elim
theorem zAt_ast (F : zFx p s m args meth c cc nL ret own D C) {pc n pc' : Nat} {ws : zS} {lv : zL} {st : List Value} (hd : decode cc pc = .ok (.astore n, 2) ∧ pc' = pc + 2 ∨ ∃ k : Fin 4, decode cc pc = .ok (.astore_n k, 1) ∧ pc' = pc + 1 ∧ (k : Nat) = n)
    (h : zast (zAt p l e R s m args below meth c D C A nL Q kc ks q) pc' ws lv st n) : zAt p l e R s m args below meth c D C A nL Q kc ks q pc ws lv st := by
  obtain ⟨hx, hb, -⟩ := F
  intro H locs ls hP hD hS hl
  unfold zast at h
  split at h
  · rename_i x r
    split at h
    · rename_i hk0
      rcases hd with ⟨hd, rfl⟩ | ⟨k, hd, rfl, hk⟩
      · exact lv_astore hx hb hd hl.2 (Nat.lt_of_lt_of_le (zok_lt hk0) hl.1) rfl (fun ls' h' => h H locs ls' hP hD hS (zh_set (v := .ref x) hl hk0 h'))
      · exact lv_astore_n hx hb hd hk hl.2 (Nat.lt_of_lt_of_le (zok_lt hk0) hl.1) rfl (fun ls' h' => h H locs ls' hP hD hS (zh_set (v := .ref x) hl hk0 h'))
    · exact h.elim
  · split at h
    · rename_i r hk0
      rcases hd with ⟨hd, rfl⟩ | ⟨k, hd, rfl, hk⟩
      · exact lv_astoreN hx hb hd hl.2 (Nat.lt_of_lt_of_le (zok_lt hk0) hl.1) rfl (fun ls' h' => h H locs ls' hP hD hS (zh_set (v := .null) hl hk0 h'))
      · exact lv_astore_nN hx hb hd hk hl.2 (Nat.lt_of_lt_of_le (zok_lt hk0) hl.1) rfl (fun ls' h' => h H locs ls' hP hD hS (zh_set (v := .null) hl hk0 h'))
    · exact h.elim
  · exact h.elim
theorem zAt_inc (F : zFx p s m args meth c cc nL ret own D C) {pc n : Nat} {d : Int} {ws : zS} {lv : zL} {st : List Value} (hd : decode cc pc = .ok (.iinc n d, 3)) (hz : Int32.ofInt d = zi d)
    (h : zinc (zAt p l e R s m args below meth c D C A nL Q kc ks q) (pc + 3) ws lv st n d) : zAt p l e R s m args below meth c D C A nL Q kc ks q pc ws lv st := by
  obtain ⟨hx, hb, -⟩ := F
  intro H locs ls hP hD hS hl
  unfold zinc at h
  split at h
  · rename_i a ha
    split at h
    · rename_i hk0
      have hm : (n, Value.int a) ∈ zla q 0 lv := (zla_mem q lv 0 _).mpr ⟨n, .int a, ha, by rw [Nat.zero_add]; rfl⟩
      obtain ⟨k, hk⟩ := List.mem_iff_getElem?.mp hm
      exact lv_iinc (v := a + zi d) hx hb hd hl.2 hk (by rw [hz]) (Nat.lt_of_lt_of_le (zok_lt hk0) hl.1) rfl (fun ls' h' => h H locs ls' hP hD hS (zh_set (v := .int (a + zi d)) hl hk0 h'))
    · exact h.elim
  · exact h.elim
theorem zAt_gf (F : zFx p s m args meth c cc nL ret own D C) (hC : zCls) {fl : Nat → Option (Nat × Nat × Nat)} (hF : zFl own fl) {pc idx : Nat} {ws : zS} {lv : zL} {st : List Value} (hd : decode cc pc = .ok (.getfield idx, 3))
    (h : zgf fl (zAt p l e R s m args below meth c D C A nL Q kc ks q) pc ws lv st idx) : zAt p l e R s m args below meth c D C A nL Q kc ks q pc ws lv st := by
  obtain ⟨hx, hb, -, -, ho, hts, hK, -⟩ := F
  intro H locs ls hP hD hS hl
  unfold zgf at h
  split at h
  · rename_i ci j kd a r hfl
    split at h
    · rename_i c' fs hw
      split at h
      · rename_i v hcc hv
        have hcc := Nat.eq_of_beq_eq_true hcc
        subst hcc
        obtain ⟨⟨Cn, T, N⟩, hr, hj, hlk, -⟩ := hF idx _ j kd hfl
        exact va_get (D := D) hx hb hts (hC _ _ hr).1 ho hK hP a (zw_of hw) hr j hj (hts _ hlk) (fun _ h9 => h9) (by rw [List.getElem?_map, hv]; rfl) hd (h H locs ls hP hD hS hl)
      · exact h.elim
    · exact h.elim
  · exact h.elim
theorem zAt_pf (F : zFx p s m args meth c cc nL ret own D C) (hC : zCls) {fl : Nat → Option (Nat × Nat × Nat)} (hF : zFl own fl) {pc idx : Nat} {ws : zS} {lv : zL} {st : List Value} (hd : decode cc pc = .ok (.putfield idx, 3))
    (h : zpf fl (zAt p l e R s m args below meth c D C A nL Q kc ks q) pc ws lv st idx) : zAt p l e R s m args below meth c D C A nL Q kc ks q pc ws lv st := by
  obtain ⟨hx, hb, -, -, ho, hts, hK, -⟩ := F
  intro H locs ls hP hD hS hl
  unfold zpf at h
  split at h
  · rename_i ci j kd x a r hfl
    split at h
    · rename_i c' fs hw
      split at h
      · rename_i hcc hlt
        have hcc := Nat.eq_of_beq_eq_true hcc
        subst hcc
        obtain ⟨⟨Cn, T, N⟩, hr, hj, hlk, h0, -⟩ := hF idx _ j _ hfl
        obtain ⟨h1, ty0, h2, h3⟩ := hC _ _ hr
        have hlt : j < fs.length := by simpa using hlt
        refine va_put (D := D) (ty := .int) (v := .int x) hx hb hts h1 ty0 h2 h3 ho hK hP hD hS a (zw_of hw) hr j hj (hts _ hlk) (fun _ h9 => h9) (h0 rfl).1 (by rw [(h0 rfl).2]; decide +kernel) rfl rfl (by rw [List.length_map]; exact hlt) hd (fun H1 locs1 hP hD hS => ?_)
        have e1 : (zw C q ws).set a (q a, Sum.inr (c', (fs.map (zv q)).set j (.int x))) = zw C q (ws.set a (.inr (.inr (c', fs.set j (.int x))))) := by
          rw [zw_set]
          show _ = (zw C q ws).set a (q a, Sum.inr (c', (fs.set j (.int x)).map (zv q)))
          rw [List.map_set]
          rfl
        rw [e1] at hP hD
        exact h H1 locs1 ls hP hD hS hl
      · rename_i hcc hlt
        have hcc := Nat.eq_of_beq_eq_true hcc
        subst hcc
        obtain ⟨⟨Cn, T, N⟩, hr, hj, hlk, -, h0⟩ := hF idx _ j _ hfl
        obtain ⟨h1, ty0, h2, h3⟩ := hC _ _ hr
        have hlt : j < fs.length := by simpa using hlt
        obtain ⟨hx01, h⟩ := h
        refine va_put (D := D) (ty := .boolean) (v := .int x) hx hb hts h1 ty0 h2 h3 ho hK hP hD hS a (zw_of hw) hr j hj (hts _ hlk) (fun _ h9 => h9) (h0 rfl).1 (by rw [(h0 rfl).2]; decide +kernel) (by rcases hx01 with rfl | rfl <;> decide +kernel) (by rcases hx01 with rfl | rfl <;> decide +kernel) (by rw [List.length_map]; exact hlt) hd (fun H1 locs1 hP hD hS => ?_)
        have e1 : (zw C q ws).set a (q a, Sum.inr (c', (fs.map (zv q)).set j (.int x))) = zw C q (ws.set a (.inr (.inr (c', fs.set j (.int x))))) := by
          rw [zw_set]
          show _ = (zw C q ws).set a (q a, Sum.inr (c', (fs.set j (.int x)).map (zv q)))
          rw [List.map_set]
          rfl
        rw [e1] at hP hD
        exact h H1 locs1 ls hP hD hS hl
      · exact h.elim
    · exact h.elim
  · exact h.elim
theorem zAt_ia (F : zFx p s m args meth c cc nL ret own D C) {pc kd : Nat} {ws : zS} {lv : zL} {st : List Value} (hd : kd = 0 ∧ decode cc pc = .ok (.iaload, 1) ∨ kd = 1 ∧ decode cc pc = .ok (.baload, 1))
    (h : zia (zAt p l e R s m args below meth c D C A nL Q kc ks q) pc ws lv st kd) : zAt p l e R s m args below meth c D C A nL Q kc ks q pc ws lv st := by
  obtain ⟨hx, hb, -, -, ho, hts, hK, -⟩ := F
  intro H locs ls hP hD hS hl
  unfold zia at h
  split at h
  · rename_i i a r
    split at h
    · rename_i k' n f hw
      split at h
      · rename_i hkk hnn
        have hkk := Nat.eq_of_beq_eq_true hkk
        subst hkk
        obtain ⟨j, rfl, hj, h⟩ := h
        have hn : n < 2 ^ 31 := by simpa using hnn
        have hcl : (nI j).toNatClampNeg = j := nI_clamp (by omega)
        rcases hd with ⟨rfl, hd⟩ | ⟨rfl, hd⟩
        · refine va_iald hx hb hK hP a 0 (zw_of hw) rfl (vp_in_nI hj hn) hd ?_
          rw [hcl]
          exact h H locs ls hP hD hS hl
        · refine va_zald hx hb hK hP a 1 (zw_of hw) rfl (vp_in_nI hj hn) hd ?_
          rw [hcl]
          exact h H locs ls hP hD hS hl
      · exact h.elim
    · exact h.elim
  · exact h.elim
theorem zAt_is (F : zFx p s m args meth c cc nL ret own D C) {pc kd : Nat} {ws : zS} {lv : zL} {st : List Value} (hd : kd = 0 ∧ decode cc pc = .ok (.iastore, 1) ∨ kd = 1 ∧ decode cc pc = .ok (.bastore, 1))
    (h : zis (zAt p l e R s m args below meth c D C A nL Q kc ks q) pc ws lv st kd) : zAt p l e R s m args below meth c D C A nL Q kc ks q pc ws lv st := by
  obtain ⟨hx, hb, -, -, ho, hts, hK, -⟩ := F
  intro H locs ls hP hD hS hl
  unfold zis at h
  split at h
  · rename_i x i a r
    split at h
    · rename_i k' n f hw
      split at h
      · rename_i hkk hnn
        have hkk := Nat.eq_of_beq_eq_true hkk
        subst hkk
        obtain ⟨j, rfl, hj, h⟩ := h
        have hn : n < 2 ^ 31 := by simpa using hnn
        have hcl : (nI j).toNatClampNeg = j := nI_clamp (by omega)
        rcases hd with ⟨rfl, hd⟩ | ⟨rfl, hd⟩
        · refine va_iast hx hb hK hP hD hS a 0 (zw_of hw) rfl (vp_in_nI hj hn) hd (fun H1 locs1 hP hD hS => ?_)
          rw [hcl] at hP hD
          have e1 : (zw C q ws).set a (q a, Sum.inl (C.1, n, Sum.inl (upd f j x))) = zw C q (ws.set a (.inl (0, n, upd f j x))) := by
            rw [zw_set]; rfl
          exact h H1 locs1 ls (e1 ▸ hP) (e1 ▸ hD) hS hl
        · refine va_zast hx hb hK hP hD hS a 1 (zw_of hw) rfl (vp_in_nI hj hn) hd (fun H1 locs1 hP hD hS => ?_)
          rw [hcl] at hP hD
          have e1 : (zw C q ws).set a (q a, Sum.inl (C.2.1, n, Sum.inl (upd f j (vp_nar .boolean x)))) = zw C q (ws.set a (.inl (1, n, upd f j (vp_nar .boolean x)))) := by
            rw [zw_set]; rfl
          exact h H1 locs1 ls (e1 ▸ hP) (e1 ▸ hD) hS hl
      · exact h.elim
    · exact h.elim
  · exact h.elim
theorem zAt_al (F : zFx p s m args meth c cc nL ret own D C) {pc : Nat} {ws : zS} {lv : zL} {st : List Value} (hd : decode cc pc = .ok (.arraylength, 1))
    (h : zal (zAt p l e R s m args below meth c D C A nL Q kc ks q) pc ws lv st) : zAt p l e R s m args below meth c D C A nL Q kc ks q pc ws lv st := by
  obtain ⟨hx, hb, -, -, ho, hts, hK, -⟩ := F
  intro H locs ls hP hD hS hl
  unfold zal at h
  split at h
  · rename_i a r
    split at h
    · rename_i k' n f hw
      by_cases hk : k' = 0
      · exact va_alen (v := nI n) (x := (n, .inl f)) hx hb hK hP a 0 (cA := C.1) (by rw [zw_of hw]; simp [zc, hk]) (rfl : (ztys C)[0]? = _) rfl hd (h H locs ls hP hD hS hl)
      · exact va_alen (v := nI n) (x := (n, .inl f)) hx hb hK hP a 1 (cA := C.2.1) (by rw [zw_of hw]; simp [zc, hk]) (rfl : (ztys C)[1]? = _) rfl hd (h H locs ls hP hD hS hl)
    · rename_i n f hw
      exact va_alen (v := nI n) (x := (n, .inr (.inr (.inr (.inr (fun j => (f j).map q)))))) hx hb hK hP a 2 (cA := C.2.2) (zw_of hw) (rfl : (ztys C)[2]? = _) rfl hd (h H locs ls hP hD hS hl)
    · exact h.elim
  · exact h.elim
end ZA
section ZB
variable {p : Program} {l : Launch} {e : Env} {R : Room} {s : State} {m : MethodId} {args : Array Value} {below : List Frame} {meth : Method} {c : Code}
variable {cc : ByteArray} {nL : Nat} {ret : Option FieldType} {own : String} {D : va_G} {C : zC} {A : Nat → Prop} {kc ks mc ms : Nat} {q : Nat → Nat} {Qc : Array Value → State → Outcome → State → Prop}
/-- what is to be shown where a method returns -/
def zRe (s : State) (args : Array Value) (D : va_G) (C : zC) (A : Nat → Prop) (q : Nat → Nat) (ret : Option FieldType) (Qc : Array Value → State → Outcome → State → Prop) (ws : zS) (rv : Option Value) : Prop :=
  zRt ret rv ∧ ∀ (H : Heap) (locs : List Loc) (t : State), va_P D vwCl (zw C q ws) H → va_D A (zw C q ws) → va_S A s.heap H locs → t.heap = H → s.WarmedH t.vm → Qc args s (.returned (rv.map (zv q))) t
set_option maxHeartbeats 4000000 in
theorem zstp_sound (F : zFx p s m args meth c cc nL ret own D C) (hC : zCls) {fl : Nat → Option (Nat × Nat × Nat)} {ki : Nat → Option Int32} {kj : Nat → Option Int64} (hT : zTb own fl ki kj) {K k : zP} {Kr : zS → Option Value → Prop}
    (hkc : kc ≤ mc) (hks : ks ≤ ms)
    (hK : ∀ pc ws lv st, K pc ws lv st → zAt p l e R s m args below meth c D C A nL (MQ below Qc args s mc ms A) kc ks q pc ws lv st)
    (hk : ∀ pc ws lv st, k pc ws lv st → zAt p l e R s m args below meth c D C A nL (MQ below Qc args s mc ms A) kc ks q pc ws lv st)
    (hR : ∀ ws rv, Kr ws rv → zRe s args D C A q ret Qc ws rv)
    {i : Instr} {l0 pc : Nat} {ws : zS} {lv : zL} {st : List Value} (hd : decode cc pc = .ok (i, l0)) (hl0 : zisw i = true ∨ l0 = zlen i) (hok : zokI pc i = true) (h : zstp fl ki kj K Kr k i pc ws lv st) :
    zAt p l e R s m args below meth c D C A nL (MQ below Qc args s mc ms A) kc ks q pc ws lv st := by
  have hd1 : zisw i = false → decode cc pc = .ok (i, zlen i) := fun hs => by
    rcases hl0 with h0 | h0
    · rw [hs] at h0; cases h0
    · rw [← h0]; exact hd
  have F0' := F
  obtain ⟨hx, hb, hml, hr, ho, hts, hKs, hlocks⟩ := F
  cases i
  case aconst_null => intro H locs ls hP hD hS hl; exact lv_null hx hb (hd1 rfl) (hk _ _ _ _ h H locs ls hP hD hS hl)
  case aload n => exact zAt_ald F0' (Or.inl ⟨hd1 rfl, rfl⟩) (by revert h; show zald k _ _ _ _ _ → _; unfold zald; split <;> first | exact hk _ _ _ _ | exact id)
  case aload_n n => exact zAt_ald F0' (Or.inr ⟨n, hd1 rfl, rfl, rfl⟩) (by revert h; show zald k _ _ _ _ _ → _; unfold zald; split <;> first | exact hk _ _ _ _ | exact id)
  case iload n => exact zAt_ild F0' (Or.inl ⟨hd1 rfl, rfl⟩) (by revert h; show zild k _ _ _ _ _ → _; unfold zild; split <;> first | exact hk _ _ _ _ | exact id)
  case iload_n n => exact zAt_ild F0' (Or.inr ⟨n, hd1 rfl, rfl, rfl⟩) (by revert h; show zild k _ _ _ _ _ → _; unfold zild; split <;> first | exact hk _ _ _ _ | exact id)
  case lload n => exact zAt_lld F0' (Or.inl ⟨hd1 rfl, rfl⟩) (by revert h; show zlld k _ _ _ _ _ → _; unfold zlld; split <;> first | exact hk _ _ _ _ | exact id)
  case lload_n n => exact zAt_lld F0' (Or.inr ⟨n, hd1 rfl, rfl, rfl⟩) (by revert h; show zlld k _ _ _ _ _ → _; unfold zlld; split <;> first | exact hk _ _ _ _ | exact id)
  case istore n => exact zAt_ist F0' (Or.inl ⟨hd1 rfl, rfl⟩) (by revert h; show zist k _ _ _ _ _ → _; unfold zist; split <;> (try split) <;> first | exact hk _ _ _ _ | exact id)
  case istore_n n => exact zAt_ist F0' (Or.inr ⟨n, hd1 rfl, rfl, rfl⟩) (by revert h; show zist k _ _ _ _ _ → _; unfold zist; split <;> (try split) <;> first | exact hk _ _ _ _ | exact id)
  case astore n => exact zAt_ast F0' (Or.inl ⟨hd1 rfl, rfl⟩) (by revert h; show zast k _ _ _ _ _ → _; unfold zast; split <;> (try split) <;> first | exact hk _ _ _ _ | exact id)
  case astore_n n => exact zAt_ast F0' (Or.inr ⟨n, hd1 rfl, rfl, rfl⟩) (by revert h; show zast k _ _ _ _ _ → _; unfold zast; split <;> (try split) <;> first | exact hk _ _ _ _ | exact id)
  case iinc n d => exact zAt_inc F0' (hd1 rfl) (of_decide_eq_true hok) (by revert h; show zinc k _ _ _ _ _ _ → _; unfold zinc; split <;> (try split) <;> first | exact hk _ _ _ _ | exact id)
  case iconst n => intro H locs ls hP hD hS hl; exact lv_iconst hx hb (hd1 rfl) (of_decide_eq_true hok) (hk _ _ _ _ h H locs ls hP hD hS hl)
  case bipush n => intro H locs ls hP hD hS hl; exact lv_bipush hx hb (hd1 rfl) (of_decide_eq_true hok) (hk _ _ _ _ h H locs ls hP hD hS hl)
  case sipush n => intro H locs ls hP hD hS hl; exact lv_sipush hx hb (hd1 rfl) (of_decide_eq_true hok) (hk _ _ _ _ h H locs ls hP hD hS hl)
  case lconst n => intro H locs ls hP hD hS hl; exact lv_lconst hx hb (hd1 rfl) rfl (hk _ _ _ _ h H locs ls hP hD hS hl)
  case ldc idx =>
    have h : (match ki idx with
      | some v => k (pc + 2) ws lv (.int v :: st)
      | none => False) := h
    split at h
    · rename_i v hv
      intro H locs ls hP hD hS hl; exact lv_ldc hx hb ho (hts _ (hT.2.1 idx v hv)) (hd1 rfl) (hk _ _ _ _ h H locs ls hP hD hS hl)
    · exact h.elim
  case ldc2_w idx =>
    have h : (match kj idx with
      | some v => k (pc + 3) ws lv (.long v :: st)
      | none => False) := h
    split at h
    · rename_i v hv
      intro H locs ls hP hD hS hl; exact lv_ldc2 hx hb ho (hts _ (hT.2.2 idx v hv)) (hd1 rfl) (hk _ _ _ _ h H locs ls hP hD hS hl)
    · exact h.elim
  case iadd => obtain ⟨x, y, r, rfl, h⟩ := zI2_inv (show zI2 st fun x y r => k (pc + 1) ws lv (.int (x + y) :: r) from h); intro H locs ls hP hD hS hl; exact lv_iadd hx hb (hd1 rfl) (hk _ _ _ _ h H locs ls hP hD hS hl)
  case isub => obtain ⟨x, y, r, rfl, h⟩ := zI2_inv (show zI2 st fun x y r => k (pc + 1) ws lv (.int (x - y) :: r) from h); intro H locs ls hP hD hS hl; exact lv_isub hx hb (hd1 rfl) (hk _ _ _ _ h H locs ls hP hD hS hl)
  case imul => obtain ⟨x, y, r, rfl, h⟩ := zI2_inv (show zI2 st fun x y r => k (pc + 1) ws lv (.int (x * y) :: r) from h); intro H locs ls hP hD hS hl; exact lv_imul hx hb (hd1 rfl) (hk _ _ _ _ h H locs ls hP hD hS hl)
  case iand => obtain ⟨x, y, r, rfl, h⟩ := zI2_inv (show zI2 st fun x y r => k (pc + 1) ws lv (.int (x &&& y) :: r) from h); intro H locs ls hP hD hS hl; exact lv_iand hx hb (hd1 rfl) (hk _ _ _ _ h H locs ls hP hD hS hl)
  case ior => obtain ⟨x, y, r, rfl, h⟩ := zI2_inv (show zI2 st fun x y r => k (pc + 1) ws lv (.int (x ||| y) :: r) from h); intro H locs ls hP hD hS hl; exact lv_ior hx hb (hd1 rfl) (hk _ _ _ _ h H locs ls hP hD hS hl)
  case ixor => obtain ⟨x, y, r, rfl, h⟩ := zI2_inv (show zI2 st fun x y r => k (pc + 1) ws lv (.int (x ^^^ y) :: r) from h); intro H locs ls hP hD hS hl; exact lv_ixor hx hb (hd1 rfl) (hk _ _ _ _ h H locs ls hP hD hS hl)
  case idiv => obtain ⟨x, y, r, rfl, h0, h⟩ := zI2_inv (show zI2 st fun x y r => ¬ y = 0 ∧ k (pc + 1) ws lv (.int (x / y) :: r) from h); intro H locs ls hP hD hS hl; exact lv_idiv hx hb (hd1 rfl) h0 (hk _ _ _ _ h H locs ls hP hD hS hl)
  case irem => obtain ⟨x, y, r, rfl, h0, h⟩ := zI2_inv (show zI2 st fun x y r => ¬ y = 0 ∧ k (pc + 1) ws lv (.int (x - x / y * y) :: r) from h); intro H locs ls hP hD hS hl; exact lv_irem hx hb (hd1 rfl) h0 (hk _ _ _ _ h H locs ls hP hD hS hl)
  case ineg => obtain ⟨x, r, rfl, h⟩ := zI1_inv (show zI1 st fun x r => k (pc + 1) ws lv (.int (-x) :: r) from h); intro H locs ls hP hD hS hl; exact lv_ineg hx hb (hd1 rfl) (hk _ _ _ _ h H locs ls hP hD hS hl)
  case ishl => obtain ⟨x, y, r, rfl, h⟩ := zI2_inv (show zI2 st fun x y r => k (pc + 1) ws lv (.int (x <<< (y &&& 31)) :: r) from h); intro H locs ls hP hD hS hl; exact lv_ishl hx hb (hd1 rfl) (hk _ _ _ _ h H locs ls hP hD hS hl)
  case ishr => obtain ⟨x, y, r, rfl, h⟩ := zI2_inv (show zI2 st fun x y r => k (pc + 1) ws lv (.int (x >>> (y &&& 31)) :: r) from h); intro H locs ls hP hD hS hl; exact lv_ishr hx hb (hd1 rfl) (hk _ _ _ _ h H locs ls hP hD hS hl)
  case i2l => obtain ⟨x, r, rfl, h⟩ := zI1_inv (show zI1 st fun x r => k (pc + 1) ws lv (.long x.toInt64 :: r) from h); intro H locs ls hP hD hS hl; exact lv_i2l hx hb (hd1 rfl) rfl (hk _ _ _ _ h H locs ls hP hD hS hl)
  case l2i => obtain ⟨x, r, rfl, h⟩ := zJ1_inv (show zJ1 st fun x r => k (pc + 1) ws lv (.int x.toInt32 :: r) from h); intro H locs ls hP hD hS hl; exact lv_l2i hx hb (hd1 rfl) rfl (hk _ _ _ _ h H locs ls hP hD hS hl)
  case i2c => obtain ⟨x, r, rfl, h⟩ := zI1_inv (show zI1 st fun x r => k (pc + 1) ws lv (.int (x.toUInt32 % 65536).toInt32 :: r) from h); intro H locs ls hP hD hS hl; exact lv_i2c hx hb (hd1 rfl) rfl (hk _ _ _ _ h H locs ls hP hD hS hl)
  case land => obtain ⟨x, y, r, rfl, h⟩ := zJ2_inv (show zJ2 st fun x y r => k (pc + 1) ws lv (.long (x &&& y) :: r) from h); intro H locs ls hP hD hS hl; exact lv_land hx hb (hd1 rfl) (hk _ _ _ _ h H locs ls hP hD hS hl)
  case lor => obtain ⟨x, y, r, rfl, h⟩ := zJ2_inv (show zJ2 st fun x y r => k (pc + 1) ws lv (.long (x ||| y) :: r) from h); intro H locs ls hP hD hS hl; exact lv_lor hx hb (hd1 rfl) (hk _ _ _ _ h H locs ls hP hD hS hl)
  case lcmp => obtain ⟨x, y, r, rfl, h⟩ := zJ2_inv (show zJ2 st fun x y r => k (pc + 1) ws lv (.int (lg_cmp x y) :: r) from h); intro H locs ls hP hD hS hl; exact W.lcmp hx hb (hd1 rfl) (hk _ _ _ _ h H locs ls hP hD hS hl)
  case lshl => obtain ⟨x, y, r, rfl, h⟩ := zJI_inv (show zJI st fun x y r => k (pc + 1) ws lv (.long (x <<< (y.toInt64 &&& 63)) :: r) from h); intro H locs ls hP hD hS hl; exact lv_lshl hx hb (hd1 rfl) rfl (hk _ _ _ _ h H locs ls hP hD hS hl)
  case lshr => obtain ⟨x, y, r, rfl, h⟩ := zJI_inv (show zJI st fun x y r => k (pc + 1) ws lv (.long (x >>> (y.toInt64 &&& 63)) :: r) from h); intro H locs ls hP hD hS hl; exact lv_lshr hx hb (hd1 rfl) rfl (hk _ _ _ _ h H locs ls hP hD hS hl)
  case lushr => obtain ⟨x, y, r, rfl, h⟩ := zJI_inv (show zJI st fun x y r => k (pc + 1) ws lv (.long (x.toUInt64 >>> (y.toInt64.toUInt64 &&& Int64.toUInt64 63)).toInt64 :: r) from h); intro H locs ls hP hD hS hl; exact lv_lushr hx hb (hd1 rfl) rfl (hk _ _ _ _ h H locs ls hP hD hS hl)
  case dup =>
    simp only [zstp] at h
    split at h
    · split at h
      · rename_i hv
        intro H locs ls hP hD hS hl; exact lv_dup hx hb (hd1 rfl) (zc1_cat hv) (hk _ _ _ _ h H locs ls hP hD hS hl)
      · exact h.elim
    · exact h.elim
  case pop =>
    simp only [zstp] at h
    split at h
    · split at h
      · rename_i hv
        intro H locs ls hP hD hS hl; exact lv_pop hx hb (hd1 rfl) (zc1_cat hv) (hk _ _ _ _ h H locs ls hP hD hS hl)
      · exact h.elim
    · exact h.elim
  case dup_x1 =>
    simp only [zstp] at h
    split at h
    · split at h
      · rename_i hv hw
        intro H locs ls hP hD hS hl; exact lv_dup_x1 hx hb (hd1 rfl) (zc1_cat hv) (zc1_cat hw) (hk _ _ _ _ h H locs ls hP hD hS hl)
      · exact h.elim
    · exact h.elim
  case dup2 =>
    simp only [zstp] at h
    split at h
    · split at h
      · rename_i hv hw
        intro H locs ls hP hD hS hl; exact lv_dup2_11 hx hb (hd1 rfl) (zc1_cat hv) (zc1_cat hw) (hk _ _ _ _ h H locs ls hP hD hS hl)
      · exact h.elim
    · exact h.elim
  case goto o => intro H locs ls hP hD hS hl; exact lv_goto hx hb (hd1 rfl) (ztok_eq hok) (hk _ _ _ _ h H locs ls hP hD hS hl)
  case ifnull o =>
    simp only [zstp] at h
    split at h
    · intro H locs ls hP hD hS hl; exact lv_ifnull hx hb (hd1 rfl) (hk _ _ _ _ h H locs ls hP hD hS hl)
    · intro H locs ls hP hD hS hl; exact lv_ifnullN hx hb (hd1 rfl) (ztok_eq hok) (hk _ _ _ _ h H locs ls hP hD hS hl)
    · exact h.elim
  case ifnonnull o =>
    simp only [zstp] at h
    split at h
    · intro H locs ls hP hD hS hl; exact lv_ifnonnull hx hb (hd1 rfl) (ztok_eq hok) (hk _ _ _ _ h H locs ls hP hD hS hl)
    · intro H locs ls hP hD hS hl; exact lv_ifnonnullN hx hb (hd1 rfl) (hk _ _ _ _ h H locs ls hP hD hS hl)
    · exact h.elim
  case ifCond cd o =>
    cases cd <;> (obtain ⟨x, r, rfl, h1, h2⟩ := zI1_inv (by simpa only [zstp] using h); intro H locs ls hP hD hS hl)
    · exact lv_if_eq hx hb (hd1 rfl) (ztok_eq hok) (fun g => hk _ _ _ _ (h1 g) H locs ls hP hD hS hl) (fun g => hk _ _ _ _ (h2 g) H locs ls hP hD hS hl)
    · exact lv_if_ne hx hb (hd1 rfl) (ztok_eq hok) (fun g => hk _ _ _ _ (h1 g) H locs ls hP hD hS hl) (fun g => hk _ _ _ _ (h2 g) H locs ls hP hD hS hl)
    · exact lv_if_lt hx hb (hd1 rfl) (ztok_eq hok) (fun g => hk _ _ _ _ (h1 g) H locs ls hP hD hS hl) (fun g => hk _ _ _ _ (h2 g) H locs ls hP hD hS hl)
    · exact lv_if_ge hx hb (hd1 rfl) (ztok_eq hok) (fun g => hk _ _ _ _ (h1 g) H locs ls hP hD hS hl) (fun g => hk _ _ _ _ (h2 g) H locs ls hP hD hS hl)
    · exact lv_if_gt hx hb (hd1 rfl) (ztok_eq hok) (fun g => hk _ _ _ _ (h1 g) H locs ls hP hD hS hl) (fun g => hk _ _ _ _ (h2 g) H locs ls hP hD hS hl)
    · exact lv_if_le hx hb (hd1 rfl) (ztok_eq hok) (fun g => hk _ _ _ _ (h1 g) H locs ls hP hD hS hl) (fun g => hk _ _ _ _ (h2 g) H locs ls hP hD hS hl)
  case if_icmp cd o =>
    cases cd <;> (obtain ⟨x, y, r, rfl, h1, h2⟩ := zI2_inv (by simpa only [zstp] using h); intro H locs ls hP hD hS hl)
    · exact lv_icmp_eq hx hb (hd1 rfl) (ztok_eq hok) (fun g => hk _ _ _ _ (h1 g) H locs ls hP hD hS hl) (fun g => hk _ _ _ _ (h2 g) H locs ls hP hD hS hl)
    · exact lv_icmp_ne hx hb (hd1 rfl) (ztok_eq hok) (fun g => hk _ _ _ _ (h1 g) H locs ls hP hD hS hl) (fun g => hk _ _ _ _ (h2 g) H locs ls hP hD hS hl)
    · exact lv_icmp_lt hx hb (hd1 rfl) (ztok_eq hok) (fun g => hk _ _ _ _ (h1 g) H locs ls hP hD hS hl) (fun g => hk _ _ _ _ (h2 g) H locs ls hP hD hS hl)
    · exact lv_icmp_ge hx hb (hd1 rfl) (ztok_eq hok) (fun g => hk _ _ _ _ (h1 g) H locs ls hP hD hS hl) (fun g => hk _ _ _ _ (h2 g) H locs ls hP hD hS hl)
    · exact lv_icmp_gt hx hb (hd1 rfl) (ztok_eq hok) (fun g => hk _ _ _ _ (h1 g) H locs ls hP hD hS hl) (fun g => hk _ _ _ _ (h2 g) H locs ls hP hD hS hl)
    · exact lv_icmp_le hx hb (hd1 rfl) (ztok_eq hok) (fun g => hk _ _ _ _ (h1 g) H locs ls hP hD hS hl) (fun g => hk _ _ _ _ (h2 g) H locs ls hP hD hS hl)
  case tableswitch d lo hi offs =>
    obtain ⟨x, r, rfl, h1, h2⟩ := zI1_inv (show zI1 st fun x r => zts (fun t => k t ws lv r) pc x lo offs.toList ∧ ((x.toInt < lo ∨ hi < x.toInt) → k (zt pc d) ws lv r) from h)
    simp only [zokI, Bool.and_eq_true, decide_eq_true_eq, List.all_eq_true, List.mem_range] at hok
    obtain ⟨⟨⟨hk1, hk2⟩, hk3⟩, hk4⟩ := hok
    intro H locs ls hP hD hS hl
    by_cases hout : x.toInt < lo ∨ hi < x.toInt
    · exact lv_tableOut hx hb hd hout (ztok_eq hk1) (hk _ _ _ _ (h2 hout) H locs ls hP hD hS hl)
    · have g1 : ¬ x.toInt < lo := fun z => hout (Or.inl z)
      have g2 : ¬ hi < x.toInt := fun z => hout (Or.inr z)
      have g3 : (x.toInt - lo).toNat < offs.toList.length := by omega
      have g4 : offs[(x.toInt - lo).toNat]? = some (offs.toList[(x.toInt - lo).toNat]) := by
        rw [← Array.getElem?_toList]; exact List.getElem?_eq_getElem g3
      have g5 : offs.toList[(x.toInt - lo).toNat]? = some (offs.toList[(x.toInt - lo).toNat]) := List.getElem?_eq_getElem g3
      refine lv_tableIn hx hb hd g1 g2 g4 (ztok_eq (hk3 _ (List.getElem_mem g3))) ?_
      exact hk _ _ _ _ (zts_inv _ _ h1 hk4 _ _ g5 (by omega)) H locs ls hP hD hS hl
  case lookupswitch d ps =>
    obtain ⟨x, r, rfl, h1, h2⟩ := zI1_inv (show zI1 st fun x r => zls (fun t => k t ws lv r) pc x ps.toList ∧ (zln x ps.toList → k (zt pc d) ws lv r) from h)
    simp only [zokI, Bool.and_eq_true, List.all_eq_true, decide_eq_true_eq] at hok
    obtain ⟨⟨hk1, hk2⟩, hk3⟩ := hok
    intro H locs ls hP hD hS hl
    have hz := zls_inv d _ h1 h2 (fun e he => (hk2 e he).2)
    have ht : ∀ (ps : List (Int × Int)), (∀ e ∈ ps, ztok pc e.2 = true ∧ (zi e.1).toInt = e.1) → ztok pc (lookupswitch.offset ps d x.toInt) = true := by
      intro ps
      induction ps with
      | nil => intro _; exact hk1
      | cons a r ih =>
        intro hh
        obtain ⟨a1, a2⟩ := a
        rw [lookupswitch.offset_cons]
        split
        · exact (hh _ List.mem_cons_self).1
        · exact ih (fun e he => hh e (List.mem_cons_of_mem _ he))
    exact lv_lookup hx hb hd (List.all_eq_true.mpr (fun z hz => by simpa using hk3 z hz)) rfl (ztok_eq (ht _ hk2)) (hk _ _ _ _ hz H locs ls hP hD hS hl)
  case getfield idx => exact zAt_gf F0' hC hT.1 (hd1 rfl) (by revert h; show zgf fl k _ _ _ _ _ → _; unfold zgf; (repeat' split); all_goals first | exact hk _ _ _ _ | exact id)
  case putfield idx => exact zAt_pf F0' hC hT.1 (hd1 rfl) (by revert h; show zpf fl k _ _ _ _ _ → _; unfold zpf; (repeat' split); all_goals first | exact hk _ _ _ _ | exact And.imp_right (hk _ _ _ _) | exact id)
  case iaload => exact zAt_ia F0' (Or.inl ⟨rfl, hd1 rfl⟩) (by revert h; show zia k _ _ _ _ _ → _; unfold zia; (repeat' split); all_goals first | exact fun ⟨j, h1, h2, h3⟩ => ⟨j, h1, h2, hk _ _ _ _ h3⟩ | exact id)
  case baload => exact zAt_ia F0' (Or.inr ⟨rfl, hd1 rfl⟩) (by revert h; show zia k _ _ _ _ _ → _; unfold zia; (repeat' split); all_goals first | exact fun ⟨j, h1, h2, h3⟩ => ⟨j, h1, h2, hk _ _ _ _ h3⟩ | exact id)
  case iastore => exact zAt_is F0' (Or.inl ⟨rfl, hd1 rfl⟩) (by revert h; show zis k _ _ _ _ _ → _; unfold zis; (repeat' split); all_goals first | exact fun ⟨j, h1, h2, h3⟩ => ⟨j, h1, h2, hk _ _ _ _ h3⟩ | exact id)
  case bastore => exact zAt_is F0' (Or.inr ⟨rfl, hd1 rfl⟩) (by revert h; show zis k _ _ _ _ _ → _; unfold zis; (repeat' split); all_goals first | exact fun ⟨j, h1, h2, h3⟩ => ⟨j, h1, h2, hk _ _ _ _ h3⟩ | exact id)
  case arraylength => exact zAt_al F0' (hd1 rfl) (by revert h; show zal k _ _ _ _ → _; unfold zal; (repeat' split); all_goals first | exact hk _ _ _ _ | exact id)
  case ireturn =>
    simp only [zstp] at h
    split at h
    · rename_i v
      obtain ⟨⟨ty, hrt, hn⟩, hq⟩ := hR _ _ h
      intro H locs ls hP hD hS hl
      refine W.widen hkc hks ?_
      exact W.zret (v := v) hx hb (hr.trans hrt) hn (fun t ht hW => hq H locs t hP hD hS ht hW) hS.2.2 (hd1 rfl)
    · exact h.elim
  case areturn =>
    simp only [zstp] at h
    split at h
    · rename_i a
      obtain ⟨⟨n, hrt⟩, hq⟩ := hR _ _ h
      intro H locs ls hP hD hS hl
      refine W.widen hkc hks ?_
      exact W.aret (v := .ref (q a)) hx hb (hr.trans hrt) (Or.inl ⟨n, rfl⟩) (Or.inr ⟨_, rfl⟩) (fun t ht hW => hq H locs t hP hD hS ht hW) hS.2.2 (hd1 rfl)
    · obtain ⟨⟨n, hrt⟩, hq⟩ := hR _ _ h
      intro H locs ls hP hD hS hl
      refine W.widen hkc hks ?_
      exact W.aret (v := .null) hx hb (hr.trans hrt) (Or.inl ⟨n, rfl⟩) (Or.inl rfl) (fun t ht hW => hq H locs t hP hD hS ht hW) hS.2.2 (hd1 rfl)
    · exact h.elim
  case return_ =>
    simp only [zstp] at h
    split at h
    · obtain ⟨hrt, hq⟩ := hR _ _ h
      intro H locs ls hP hD hS hl
      refine W.widen hkc hks ?_
      exact W.vret hx hb (hr.trans hrt) (fun t ht hW => hq H locs t hP hD hS ht hW) hS.2.2 (hd1 rfl)
    · exact h.elim
  all_goals exact hK _ _ _ _ h
theorem zgo_sound (F : zFx p s m args meth c cc nL ret own D C) (hC : zCls) {fl : Nat → Option (Nat × Nat × Nat)} {ki : Nat → Option Int32} {kj : Nat → Option Int64} (hT : zTb own fl ki kj) {tab : List (Nat × Instr)} (hO : zokC cc tab = true) {stops : List Nat} {K : zP} {Kr : zS → Option Value → Prop}
    (hkc : kc ≤ mc) (hks : ks ≤ ms)
    (hK : ∀ pc ws lv st, K pc ws lv st → zAt p l e R s m args below meth c D C A nL (MQ below Qc args s mc ms A) kc ks q pc ws lv st)
    (hR : ∀ ws rv, Kr ws rv → zRe s args D C A q ret Qc ws rv) : ∀ (n pc : Nat) (ws : zS) (lv : zL) (st : List Value), zgo tab fl ki kj stops K Kr n pc ws lv st →
    zAt p l e R s m args below meth c D C A nL (MQ below Qc args s mc ms A) kc ks q pc ws lv st
  | 0, pc, ws, lv, st, h => hK _ _ _ _ h
  | n + 1, pc, ws, lv, st, h => by
    unfold zgo at h
    split at h
    · rename_i i hi
      obtain ⟨⟨l0, hd, hl0⟩, hok⟩ := zokC_at hO hi
      refine zstp_sound F hC hT hkc hks hK (fun pc ws lv st h => ?_) hR hd hl0 hok h
      split at h
      · exact hK _ _ _ _ h
      · exact zgo_sound F hC hT hO hkc hks hK hR n pc ws lv st h
    · exact h.elim
end ZB
end
section
/-! contracts over worlds by names, their proofs' beginning, calls -/
def zNs (s : State) : Prop := va_Nw (.methodLinkNest RX3 9 yX0_init RX3) s ∧ va_Nw (.methodLinkNest RX3 31 yX1_init RX3) s ∧ va_AO RX2 s
def zQ (D : va_G) (C : zC) (A : Nat → Prop) (Po : (Nat → Nat) → zS → Option Value → Prop) : Array Value → State → Outcome → State → Prop := fun _ st oc t =>
  (∃ (q : Nat → Nat) (w : zS) (rv : Option Value), Po q w rv ∧ oc = .returned (rv.map (zv q)) ∧ va_P D vwCl (zw C q w) t.heap ∧ va_D A (zw C q w)) ∧ va_F A st t
def zPre (D : va_G) (C : zC) (q0 : Nat → Nat) (sz : Nat) (av : List Value) (wc : zS) : Array Value → State → Prop :=
  va_Pc (av.map (zv q0)) (fun U => U.heap.size = sz ∧ va_P D vwCl (zw C q0 wc) U.heap ∧ (va_K D vwCl (ztys C) U ∧ zNs U) ∧ va_D (fun _ => True) (zw C q0 wc))
def zMet (l : Launch) (D : va_G) (C : zC) (y : MethodName) (cc : ByteArray) (nL : Nat) (ret : Option FieldType) (rm : Room) (av : List Value) (wc : zS) (Po : (Nat → Nat) → (Nat → Nat) → zS → Option Value → Prop) : Prop :=
  ∀ (q0 : Nat → Nat) (sz : Nat), Met l y (.code y cc nL ret :: zG) rm (zPre D C q0 sz av wc) (zQ D C (va_A (zw C q0 wc) sz) (Po q0)) rm.cells rm.slots (va_A (zw C q0 wc) sz)
/-- no cell comes: the world keeps its names -/
def zPk (n : Nat) (Po : zS → Option Value → Prop) : (Nat → Nat) → (Nat → Nat) → zS → Option Value → Prop := fun q0 q w rv => q = q0 ∧ w.length = n ∧ Po w rv
/-- cells may come, at the end -/
def zPg (n : Nat) (Po : zS → Option Value → Prop) : (Nat → Nat) → (Nat → Nat) → zS → Option Value → Prop := fun q0 q w rv => (∀ i, i < n → q i = q0 i) ∧ n ≤ w.length ∧ Po w rv
abbrev zFun (l : Launch) (D : va_G) (C : zC) (y : MethodName) (cc : ByteArray) (nL : Nat) (ret : Option FieldType) (rm : Room) (av : List Value) (wc : zS) (Po : zS → Option Value → Prop) : Prop := zMet l D C y cc nL ret rm av wc (zPk wc.length Po)
abbrev zFunA (l : Launch) (D : va_G) (C : zC) (y : MethodName) (cc : ByteArray) (nL : Nat) (ret : Option FieldType) (rm : Room) (av : List Value) (wc : zS) (Po : zS → Option Value → Prop) : Prop := zMet l D C y cc nL ret rm av wc (zPg wc.length Po)
def zen : List Value → zL
  | [] => []
  | v :: r => match zc1 v with
    | true => some v :: zen r
    | false => some v :: none :: zen r
def zel (nL : Nat) (av : List Value) : zL := zen av ++ List.replicate (nL - (zen av).length) none
theorem zla_none (q : Nat → Nat) : ∀ (n i : Nat), zla q i (List.replicate n none) = []
  | 0, _ => rfl
  | n + 1, i => by rw [List.replicate_succ, zla, zla_none q n]
theorem zla_en (q : Nat → Nat) (n : Nat) : ∀ (av : List Value) (i : Nat), zla q i (zen av ++ List.replicate n none) = lv_args i (av.map (zv q))
  | [], i => by rw [zen, List.nil_append, zla_none]; rfl
  | v :: r, i => by
    have hc : (zv q v).category = v.category := zv_cat q v
    cases v <;> first
      | (show (i, zv q _) :: zla q (i + 1) (zen r ++ List.replicate n none) = _; rw [zla_en q n r (i + 1)]; rfl)
      | (show (i, zv q _) :: zla q (i + 1 + 1) (zen r ++ List.replicate n none) = _; rw [zla_en q n r (i + 1 + 1)]; rfl)
theorem zen_len (q : Nat → Nat) : ∀ (av : List Value), (lg_sl (av.map (zv q))).length = (zen av).length
  | [] => rfl
  | v :: r => by
    have ih := zen_len q r
    cases v <;> simp [lg_sl, zen, zc1, zv, Value.category] at ih ⊢ <;> omega
section ZM
variable {l : Launch} {D : va_G} {C : zC} {y : MethodName} {cc : ByteArray} {nL : Nat} {ret : Option FieldType} {rm : Room} {av : List Value} {wc : zS} {Po : (Nat → Nat) → (Nat → Nat) → zS → Option Value → Prop}
theorem zMet_of (hy : plainName y.cls = true) (hlen : (zen av).length ≤ nL)
    (body : ∀ (p : Program) (e : Env) (s : State) (m : MethodId) (args : Array Value) (below : List Frame) (meth : Method) (c : Code) (q : Nat → Nat) (A : Nat → Prop), zFx p s m args meth c cc nL ret y.cls D C → zNs s → meth.name = y.name → (∀ x, s.heap.size ≤ x → A x) →
      zAt p l e rm s m args below meth c D C A nL (MQ below (zQ D C A (Po q)) args s rm.cells rm.slots A) 0 0 q 0 wc (zel nL av) []) : zMet l D C y cc nL ret rm av wc Po := by
  intro q0 sz
  refine Met.ofW (cc := cc) (maxL := nL) (ret := ret) hy rfl ?_
  intro p e s m args below meth c s₁ B hml hv
  obtain ⟨rfl, hsz, hP, ⟨hK, hN⟩, hD0⟩ := hv
  have hts := atoms_spec (ws := .code y cc nL ret :: zG) B.pre
  have hown : s.vm.findClass y.cls = some m.cls := findClass_of_methodNamed B.named
  have hnm : meth.name = y.name := (name_of_methodNamed B.named B.method).1
  subst hsz
  have hD := hD0.self (sz := s.heap.size)
  have hl := lv_entry (av.map (zv q0)) (n := nL) (by rw [zen_len]; exact hlen)
  rw [lg_entry_eq]
  have F : zFx p s m (av.map (zv q0)).toArray meth c cc nL ret y.cls D C := ⟨B.exec, B.bytes, hml, B.returns, hown, fun w h => hts w (List.mem_cons_of_mem _ h), hK, B.notSynchronized⟩
  refine body p e s m _ below meth c q0 _ F hN hnm (fun x h => Or.inr h) s.heap [] _ hP hD va_S.rf ⟨?_, ?_⟩
  · show (zel nL av).length ≤ nL
    rw [zel, List.length_append, List.length_replicate]
    omega
  · rw [zel, zla_en]
    exact hl
end ZM
-- names of a callee among the caller's
def zr (σ : Nat → Nat) (x : zE) : zE := match x with
  | .inl a => .inl a
  | .inr (.inl (n, f)) => .inr (.inl (n, fun j => (f j).map σ))
  | .inr (.inr (ci, fs)) => .inr (.inr (ci, fs.map (zv σ)))
theorem zv_comp (q σ : Nat → Nat) (v : Value) : zv (fun i => q (σ i)) v = zv q (zv σ v) := by cases v <;> rfl
theorem zc_comp (C : zC) (q σ : Nat → Nat) (x : zE) : zc C (fun i => q (σ i)) x = zc C q (zr σ x) := by
  match x with
  | .inl a => rfl
  | .inr (.inl (n, f)) =>
    simp only [zc, zr, Option.map_map]
    rfl
  | .inr (.inr (ci, fs)) =>
    simp only [zc, zr, List.map_map]
    congr 3
    funext v
    exact zv_comp q σ v
theorem zr_id (x : zE) : zr (fun i => i) x = x := by
  have hv : ∀ v, zv (fun i => i) v = v := fun v => by cases v <;> rfl
  match x with
  | .inl a => rfl
  | .inr (.inl (n, f)) => simp [zr]
  | .inr (.inr (ci, fs)) =>
    simp only [zr]
    congr 3
    exact (List.map_congr_left (fun v _ => hv v)).trans (List.map_id' fs)
theorem zv_id (v : Value) : zv (fun i => i) v = v := by cases v <;> rfl
/-- the world behind a call: the callee's cells at their places, the others as they were -/
def zpl (σ : Nat → Nat) (ws : zS) (n : Nat) (w ws' : zS) : Prop := ws'.length = ws.length ∧ (∀ k x, w[k]? = some x → ws'[σ k]? = some (zr σ x)) ∧ (∀ i, (∀ k, k < n → σ k ≠ i) → ws'[i]? = ws[i]?)
/-- the callee's cells stand at their places -/
def zsb (σ : Nat → Nat) (ws wc : zS) : Prop := (∀ k x, wc[k]? = some x → ws[σ k]? = some (zr σ x)) ∧ (∀ i j, i < wc.length → j < wc.length → σ i = σ j → i = j)
section ZK
variable {p : Program} {l : Launch} {e : Env} {R : Room} {s : State} {m : MethodId} {args : Array Value} {below : List Frame} {meth : Method} {c : Code}
variable {cc : ByteArray} {nL : Nat} {ret : Option FieldType} {own : String} {D : va_G} {C : zC} {A : Nat → Prop} {Q : State → Prop} {kc ks : Nat} {q : Nat → Nat}
theorem zpre_blind {q0 : Nat → Nat} {sz : Nat} {av : List Value} {wc : zS} : FrameBlind (zPre D C q0 sz av wc) := fun a U g mk h => by
  obtain ⟨h0, h1, h2, ⟨h3, h4, h5, h6⟩, h7⟩ := h
  exact ⟨h0, h1, h2, ⟨va_K.moved (u := U) (U := U.calling g mk a) (Vm.Alike.refl U.vm) h3, va_Nw.same (u := U) (U := U.calling g mk a) rfl rfl h4, va_Nw.same (u := U) (U := U.calling g mk a) rfl rfl h5, va_AO.moved (u := U) (U := U.calling g mk a) (Vm.Alike.refl U.vm) h6⟩, h7⟩
theorem zns_warm {U : State} (hW : s.WarmedH U.vm) (h : zNs s) : zNs U := ⟨va_Nw.warmM hW h.1, va_Nw.warmM hW h.2.1, va_AO.moved hW.alike h.2.2⟩
theorem zcell_sub {σ : Nat → Nat} {ws wc : zS} (h : zsb σ ws wc) {k : Nat} {x : Nat × va_E} (hx : (zw C (fun i => q (σ i)) wc)[k]? = some x) : (zw C q ws)[σ k]? = some x := by
  rw [zw_at] at hx
  obtain ⟨y, hy, e⟩ := Option.map_eq_some_iff.mp hx
  rw [zw_of (h.1 k y hy), ← e, zc_comp C q σ]
/-- a call that makes no cell, out of its run -/
theorem zcall_go {pc mc' ms' : Nat} {ws wc : zS} {lv : zL} {st rest : List Value} {σ : Nat → Nat} {Po : zS → Option Value → Prop} {a : Array Value} (hsb : zsb σ ws wc) (hAf : ∀ x, s.heap.size ≤ x → A x)
    (hr : ∀ (H : Heap) (locs : List Loc) (ls : Array Slot), va_P D vwCl (zw C q ws) H → va_D A (zw C q ws) → zh q ls nL lv →
      va_Run p l e R s m args below meth c H locs kc ks mc' ms' (F0 m pc ls (st.map (zv q))) (rest.map (zv q)) (zQ D C (va_A (zw C (fun i => q (σ i)) wc) H.size) (zPk wc.length Po (fun i => q (σ i))) a) (va_A (zw C (fun i => q (σ i)) wc) H.size))
    (kk : ∀ (w : zS) (rv : Option Value), w.length = wc.length → Po w rv → ∃ ws', zpl σ ws wc.length w ws' ∧ zAt p l e R s m args below meth c D C A nL Q (kc + mc') (ks + ms') q (pc + 3) ws' lv ((rv.map (zv σ)).toList ++ rest)) :
    zAt p l e R s m args below meth c D C A nL Q kc ks q pc ws lv st := by
  intro H locs ls hP hD hS hl T hT X
  obtain ⟨v, st₀, t, T', L, h0, X', hL, e1, e2, ⟨⟨q1, w, rv, ⟨hq1, hlen, hpo⟩, hv, hP1, hD1⟩, hz, hk⟩, stp⟩ := hr H locs ls hP hD hl T hT X
  subst hq1
  obtain ⟨ws', ⟨hl1, hl2, hl3⟩, hat⟩ := kk w rv hlen hpo
  rw [h0] at hz hk
  have hAsub : ∀ x, va_A (zw C (fun i => q (σ i)) wc) H.size x → A x := by
    rintro x (⟨k, y, hy⟩ | hx)
    · exact hD.2 _ _ (zcell_sub hsb hy)
    · exact hAf x (Nat.le_trans hS.1 hx)
  have hP' : va_P D vwCl (zw C q ws') T'.heap := by
    intro i x hx
    rw [zw_at] at hx
    obtain ⟨y, hy, rfl⟩ := Option.map_eq_some_iff.mp hx
    by_cases hin : ∃ k, k < wc.length ∧ σ k = i
    · obtain ⟨k, hk1, rfl⟩ := hin
      obtain ⟨z, hz1⟩ : ∃ z, w[k]? = some z := ⟨_, List.getElem?_eq_getElem (by rw [hlen]; exact hk1)⟩
      have e3 := hl2 k z hz1
      rw [hy] at e3
      have e4 : y = zr σ z := Option.some.inj e3
      have h5 := hP1 k _ (zw_of hz1)
      rw [zc_comp C q σ] at h5
      rw [e4, e1]
      exact h5
    · have hno : ∀ k, k < wc.length → σ k ≠ i := fun k hk1 e3 => hin ⟨k, hk1, e3⟩
      rw [hl3 i hno] at hy
      have h5 := hP i _ (zw_of hy)
      have hlt : q i < H.size := h5.lt
      refine h5.kept ?_
      rw [e1]
      refine hk (q i) hlt ?_
      rintro (⟨k, y2, hy2⟩ | hx2)
      · have hkl : k < wc.length := by
          have := (List.getElem?_eq_some_iff.mp hy2).1
          rwa [zw_len] at this
        exact hno k hkl (hD.1 _ _ _ _ (zcell_sub hsb hy2) (zw_of hy) rfl)
      · exact absurd hlt (Nat.not_lt.mpr hx2)
  have hD' : va_D A (zw C q ws') := by
    have hex : ∀ (i : Nat) (x : Nat × va_E), (zw C q ws')[i]? = some x → ∃ y : Nat × va_E, (zw C q ws)[i]? = some y ∧ y.1 = x.1 := by
      intro i x hx
      have hi : i < ws.length := by
        have := (List.getElem?_eq_some_iff.mp hx).1
        rw [zw_len, hl1] at this
        exact this
      rw [zw_at] at hx
      obtain ⟨y, hy, rfl⟩ := Option.map_eq_some_iff.mp hx
      exact ⟨_, zw_of (List.getElem?_eq_getElem hi), rfl⟩
    refine ⟨fun i j x y hx hy hxy => ?_, fun k x hx => ?_⟩
    · obtain ⟨x', hx', ex⟩ := hex i x hx
      obtain ⟨y', hy', ey⟩ := hex j y hy
      exact hD.1 i j x' y' hx' hy' (by rw [ex, ey, hxy])
    · obtain ⟨x', hx', ex⟩ := hex k x hx
      rw [← ex]
      exact hD.2 k x' hx'
  have hS' : va_S A s.heap T'.heap (locs ++ L) := ⟨Nat.le_trans hS.1 (by rw [e1]; exact hz), fun x h1 h2 => by
      rw [e1, hk x (Nat.lt_of_lt_of_le h1 hS.1) (fun z => h2 (hAsub x z))]
      exact hS.2.1 x h1 h2, fun x hx => by
      rcases List.mem_append.mp hx with h | h
      · exact hS.2.2 x h
      · exact hAsub _ (hL x h)⟩
  obtain ⟨t2, a1, b1⟩ := hat T'.heap (locs ++ L) ls hP' hD' hS' hl T' rfl X'
  refine ⟨t2, stp t2 ?_, b1⟩
  have hvv : v = rv.map (zv (fun i => q (σ i))) := by injection hv
  have est : v.toList ++ rest.map (zv q) = ((rv.map (zv σ)).toList ++ rest).map (zv q) := by
    rw [hvv]
    cases rv with
    | none => rfl
    | some r =>
      show zv (fun i => q (σ i)) r :: rest.map (zv q) = zv q (zv σ r) :: rest.map (zv q)
      rw [zv_comp q σ]
  rw [← est] at a1
  exact a1
/-- the words of a call -/
def zCV (own : String) (idx : Nat) (y : MethodName) (cc' : ByteArray) (nL' : Nat) (ret' : Option FieldType) (n : Nat) : Prop :=
  (Jvm.Cond.methodLink own idx y ∈ zG ∧ Jvm.Cond.instanceMethod y ∈ zG ∧ Jvm.Cond.selects y.cls y y ∈ zG ∧ Jvm.Cond.initialized y.cls ∈ zG ∧ Jvm.Cond.code y cc' nL' ret' ∈ zG) ∧ y.cls ≠ "java/lang/invoke/MethodHandle" ∧ y.cls ≠ "java/lang/invoke/VarHandle" ∧ (parseMethodDescriptor y.desc).map (fun d => d.parameters.length) = some n
def zCS (own : String) (idx : Nat) (y : MethodName) (cc' : ByteArray) (nL' : Nat) (ret' : Option FieldType) (n : Nat) : Prop :=
  (Jvm.Cond.methodLink own idx y ∈ zG ∧ Jvm.Cond.static y ∈ zG ∧ Jvm.Cond.initialized y.cls ∈ zG ∧ Jvm.Cond.code y cc' nL' ret' ∈ zG) ∧ y.cls ≠ "java/lang/invoke/MethodHandle" ∧ y.cls ≠ "java/lang/invoke/VarHandle" ∧ (parseMethodDescriptor y.desc).map (fun d => d.parameters.length) = some n
theorem zgood {y : MethodName} {cc' : ByteArray} {nL' : Nat} {ret' : Option FieldType} {us : List Jvm.Cond} (h : ∀ w ∈ us, w ∈ zG) (hc : Jvm.Cond.code y cc' nL' ret' ∈ zG) : GoodIn zG (us ++ (.code y cc' nL' ret' :: zG)) := by
  intro w hw
  have hm : w ∈ zG := by
    rcases List.mem_append.mp hw with h1 | h1
    · exact h w h1
    · rcases List.mem_cons.mp h1 with h2 | h2
      · rw [h2]; exact hc
      · exact h2
  exact ⟨hm, zG_good hm⟩
variable {y : MethodName} {cc' : ByteArray} {nL' n idx pc : Nat} {ret' : Option FieldType} {rm' : Room} {wc ws : zS} {lv : zL} {Po : zS → Option Value → Prop} {σ : Nat → Nat} {As st rest : List Value} {b0 : Nat} {tab : List (Nat × Instr)}
theorem zcallV (F : zFx p s m args meth c cc nL ret own D C) (N : zNs s) (hAf : ∀ x, s.heap.size ≤ x → A x) (hO : zokC cc tab = true) (hM : zFun l D C y cc' nL' ret' rm' (.ref b0 :: As) wc Po) (hW : zCV own idx y cc' nL' ret' n)
    (hsb : zsb σ ws wc) (hrc : ∃ (ci : Nat) (fs : List Value) (r : vw_C), wc[b0]? = some (.inr (.inr (ci, fs))) ∧ vwCl[ci]? = some r ∧ r.1 = y.cls)
    (kk : ∀ (w : zS) (rv : Option Value), w.length = wc.length → Po w rv → ∃ ws', zpl σ ws wc.length w ws' ∧ zAt p l e R s m args below meth c D C A nL Q (kc + rm'.cells) (ks + rm'.slots) q (pc + 3) ws' lv ((rv.map (zv σ)).toList ++ rest))
    (hd : zfd tab pc = some (.invokevirtual idx)) (hst : st = (As.map (zv σ)).reverse ++ .ref (σ b0) :: rest) (hn : As.length = n) (hrest : (rest.map fun v => v.category).sum ≤ 8)
    (hR : rm'.frames + 1 ≤ R.frames ∧ 8 + (nL' + 11) + rm'.locals ≤ R.locals) (hf : kc + rm'.cells ≤ R.cells ∧ ks + rm'.slots ≤ R.slots) :
    zAt p l e R s m args below meth c D C A nL Q kc ks q pc ws lv st := by
  obtain ⟨hx, hb, hml, hr, ho, hts, hK, hlocks⟩ := F
  obtain ⟨⟨w1, w2, w3, w4, w5⟩, hd1, hd2, hd3⟩ := hW
  obtain ⟨⟨l0, hdec, hl0⟩, -⟩ := zokC_at hO hd
  obtain rfl : l0 = 3 := hl0.resolve_left (by simp [zisw])
  obtain ⟨ci, fs, r, hb0, hcl, hcn⟩ := hrc
  refine zcall_go (a := (Value.ref (q (σ b0)) :: As.map (zv (fun i => q (σ i)))).toArray) hsb hAf (fun H locs ls hP hD hl => ?_) kk
  have hP' : va_P D vwCl (zw C (fun i => q (σ i)) wc) H := fun k x hx => hP _ x (zcell_sub hsb hx)
  have hD' : va_D (fun _ => True) (zw C (fun i => q (σ i)) wc) := ⟨fun i j x y hx hy hxy => hsb.2 i j (by have := (List.getElem?_eq_some_iff.mp hx).1; rwa [zw_len] at this) (by have := (List.getElem?_eq_some_iff.mp hy).1; rwa [zw_len] at this) (hD.1 _ _ _ _ (zcell_sub hsb hx) (zcell_sub hsb hy) hxy), fun _ _ _ => trivial⟩
  have hg : GoodIn zG (wsV own idx y.cls y (.code y cc' nL' ret' :: zG)) := zgood (us := [.methodLink own idx y, .instanceMethod y, .selects y.cls y y, .initialized y.cls]) (by
    intro w hw
    simp only [List.mem_cons, List.not_mem_nil, or_false] at hw
    rcases hw with rfl | rfl | rfl | rfl <;> assumption) w5
  refine va_runV (C := y.cls) (b := q (σ b0)) (As := As.map (zv (fun i => q (σ i)))) (Ts := zG) ⟨hx, hb, hml, ho, hts⟩ (hM (fun i => q (σ i)) H.size) (cwV n hts hg rfl rfl rfl ⟨rfl, hd1, hd2, hd3⟩ hR) ⟨zpre_blind, ?_, fun U hU hWU => ⟨rfl, by rw [hU], by rw [hU]; exact hP', ⟨va_K.moved hWU.alike hK, zns_warm hWU N⟩, hD'⟩⟩ rfl (by rw [List.length_map]; exact hn) hl.2.1 ?_ (lv_room (by
      rw [List.map_map]
      have : (rest.map (fun v => v.category)) = rest.map ((fun v => v.category) ∘ zv q) := List.map_congr_left (fun v _ => (zv_cat q v).symm)
      rw [← this]
      exact hrest)) hdec hf
  · have := va_recv (q := r) hK hP' hcl (zw_of hb0)
    rw [hcn] at this
    exact this
  · show st.map (zv q) = _
    rw [hst, List.map_append, List.map_reverse, List.map_map]
    have : (As.map (zv q ∘ zv σ)) = As.map (zv (fun i => q (σ i))) := List.map_congr_left (fun v _ => (zv_comp q σ v).symm)
    rw [this]
    rfl
theorem zcallS (F : zFx p s m args meth c cc nL ret own D C) (N : zNs s) (hAf : ∀ x, s.heap.size ≤ x → A x) (hO : zokC cc tab = true) (hM : zFun l D C y cc' nL' ret' rm' As wc Po) (hW : zCS own idx y cc' nL' ret' n)
    (hsb : zsb σ ws wc)
    (kk : ∀ (w : zS) (rv : Option Value), w.length = wc.length → Po w rv → ∃ ws', zpl σ ws wc.length w ws' ∧ zAt p l e R s m args below meth c D C A nL Q (kc + rm'.cells) (ks + rm'.slots) q (pc + 3) ws' lv ((rv.map (zv σ)).toList ++ rest))
    (hd : zfd tab pc = some (.invokestatic idx)) (hst : st = (As.map (zv σ)).reverse ++ rest) (hn : As.length = n) (hrest : (rest.map fun v => v.category).sum ≤ 8)
    (hR : rm'.frames + 1 ≤ R.frames ∧ 8 + (nL' + 11) + rm'.locals ≤ R.locals) (hf : kc + rm'.cells ≤ R.cells ∧ ks + rm'.slots ≤ R.slots) :
    zAt p l e R s m args below meth c D C A nL Q kc ks q pc ws lv st := by
  obtain ⟨hx, hb, hml, hr, ho, hts, hK, hlocks⟩ := F
  obtain ⟨⟨w1, w2, w4, w5⟩, hd1, hd2, hd3⟩ := hW
  obtain ⟨⟨l0, hdec, hl0⟩, -⟩ := zokC_at hO hd
  obtain rfl : l0 = 3 := hl0.resolve_left (by simp [zisw])
  refine zcall_go (a := (As.map (zv (fun i => q (σ i)))).toArray) hsb hAf (fun H locs ls hP hD hl => ?_) kk
  have hP' : va_P D vwCl (zw C (fun i => q (σ i)) wc) H := fun k x hx => hP _ x (zcell_sub hsb hx)
  have hD' : va_D (fun _ => True) (zw C (fun i => q (σ i)) wc) := ⟨fun i j x y hx hy hxy => hsb.2 i j (by have := (List.getElem?_eq_some_iff.mp hx).1; rwa [zw_len] at this) (by have := (List.getElem?_eq_some_iff.mp hy).1; rwa [zw_len] at this) (hD.1 _ _ _ _ (zcell_sub hsb hx) (zcell_sub hsb hy) hxy), fun _ _ _ => trivial⟩
  have hg : GoodIn zG (.code y cc' nL' ret' :: zG) := zgood (us := []) (fun w hw => absurd hw List.not_mem_nil) w5
  refine va_runS (As := As.map (zv (fun i => q (σ i)))) (Ts := zG) ⟨hx, hb, hml, ho, hts⟩ (hM (fun i => q (σ i)) H.size) ⟨callB_of n hts hg rfl rfl rfl (hts _ w4) (hts _ w1) ⟨hd1, hd2, hd3⟩ hR, hts _ w2⟩ ⟨zpre_blind, fun U hU hWU => ⟨rfl, by rw [hU], by rw [hU]; exact hP', ⟨va_K.moved hWU.alike hK, zns_warm hWU N⟩, hD'⟩⟩ rfl (by rw [List.length_map]; exact hn) hl.2.1 ?_ (lv_room (by
      rw [List.map_map]
      have : (rest.map (fun v => v.category)) = rest.map ((fun v => v.category) ∘ zv q) := List.map_congr_left (fun v _ => (zv_cat q v).symm)
      rw [← this]
      exact hrest)) hdec hf
  show st.map (zv q) = _
  rw [hst, List.map_append, List.map_reverse, List.map_map]
  have : (As.map (zv q ∘ zv σ)) = As.map (zv (fun i => q (σ i))) := List.map_congr_left (fun v _ => (zv_comp q σ v).symm)
  rw [this]
end ZK
end
section
/-! tables: a method's code, a class's fields and constants, the words of each call -/
def zfl : List (Nat × Nat × Nat × Nat × Nat) → Nat → Option (Nat × Nat × Nat)
  | [], _ => none
  | (i, ci, j, kd, _) :: r, idx => match Nat.beq i idx with
    | true => some (ci, j, kd)
    | false => zfl r idx
def zkI : List (Nat × Int32 × Nat) → Nat → Option Int32
  | [], _ => none
  | (i, v, _) :: r, idx => match Nat.beq i idx with
    | true => some v
    | false => zkI r idx
def zkJ : List (Nat × Int64 × Nat) → Nat → Option Int64
  | [], _ => none
  | (i, v, _) :: r, idx => match Nat.beq i idx with
    | true => some v
    | false => zkJ r idx
def zflE (own : String) (e : Nat × Nat × Nat × Nat × Nat) : Bool := match vwCl[e.2.1]? with
  | some r => decide (e.2.2.1 < r.2.2) && zin e.2.2.2.2 (.fieldLink own e.1 (r.2.1 e.2.2.1).1 (r.2.1 e.2.2.1).2.1 (r.2.1 e.2.2.1).2.2.1) && (match e.2.2.2.1 with
    | 0 => decide ((r.2.1 e.2.2.1).2.2.2 = false ∧ (r.2.1 e.2.2.1).2.2.1 = "I")
    | 1 => decide ((r.2.1 e.2.2.1).2.2.2 = false ∧ (r.2.1 e.2.2.1).2.2.1 = "Z")
    | _ => true)
  | none => false
theorem zfl_mem : ∀ {L : List (Nat × Nat × Nat × Nat × Nat)} {idx ci j kd : Nat}, zfl L idx = some (ci, j, kd) → ∃ h, (idx, ci, j, kd, h) ∈ L
  | [], idx, ci, j, kd, h => by simp [zfl] at h
  | (i, a, b, d, t) :: r, idx, ci, j, kd, h => by
    unfold zfl at h
    by_cases hp : Nat.beq i idx = true
    · rw [hp] at h
      cases h
      rw [Nat.eq_of_beq_eq_true hp]
      exact ⟨t, List.mem_cons_self⟩
    · rw [Bool.not_eq_true] at hp
      rw [hp] at h
      obtain ⟨t', h'⟩ := zfl_mem h
      exact ⟨t', List.mem_cons_of_mem _ h'⟩
theorem zFl_of {own : String} {L : List (Nat × Nat × Nat × Nat × Nat)} (h : L.all (zflE own) = true) : zFl own (zfl L) := by
  intro idx ci j kd hf
  obtain ⟨t, hm⟩ := zfl_mem hf
  have h1 := List.all_eq_true.mp h _ hm
  unfold zflE at h1
  dsimp only at h1
  generalize hr : vwCl[ci]? = o at h1
  match o, h1 with
  | none, h1 => exact absurd h1 (by simp)
  | some r, h1 =>
    simp only [Bool.and_eq_true, decide_eq_true_eq] at h1
    refine ⟨r, rfl, h1.1.1, zin_mem h1.1.2, fun e => ?_, fun e => ?_⟩
    · subst e; simpa using h1.2
    · subst e; simpa using h1.2
theorem zkI_mem : ∀ {L : List (Nat × Int32 × Nat)} {idx : Nat} {v : Int32}, zkI L idx = some v → ∃ h, (idx, v, h) ∈ L
  | [], idx, v, h => by simp [zkI] at h
  | (i, a, t) :: r, idx, v, h => by
    unfold zkI at h
    by_cases hp : Nat.beq i idx = true
    · rw [hp] at h
      cases h
      rw [Nat.eq_of_beq_eq_true hp]
      exact ⟨t, List.mem_cons_self⟩
    · rw [Bool.not_eq_true] at hp
      rw [hp] at h
      obtain ⟨t', h'⟩ := zkI_mem h
      exact ⟨t', List.mem_cons_of_mem _ h'⟩
theorem zkJ_mem : ∀ {L : List (Nat × Int64 × Nat)} {idx : Nat} {v : Int64}, zkJ L idx = some v → ∃ h, (idx, v, h) ∈ L
  | [], idx, v, h => by simp [zkJ] at h
  | (i, a, t) :: r, idx, v, h => by
    unfold zkJ at h
    by_cases hp : Nat.beq i idx = true
    · rw [hp] at h
      cases h
      rw [Nat.eq_of_beq_eq_true hp]
      exact ⟨t, List.mem_cons_self⟩
    · rw [Bool.not_eq_true] at hp
      rw [hp] at h
      obtain ⟨t', h'⟩ := zkJ_mem h
      exact ⟨t', List.mem_cons_of_mem _ h'⟩
theorem zTb_of {own : String} {L : List (Nat × Nat × Nat × Nat × Nat)} {LI : List (Nat × Int32 × Nat)} {LJ : List (Nat × Int64 × Nat)} (h : L.all (zflE own) = true) (hI : LI.all (fun e => zin e.2.2 (.constant own e.1 e.2.1)) = true) (hJ : LJ.all (fun e => zin e.2.2 (.constantLong own e.1 e.2.1)) = true) : zTb own (zfl L) (zkI LI) (zkJ LJ) :=
  ⟨zFl_of h, fun idx v hv => by
    obtain ⟨t, hm⟩ := zkI_mem hv
    exact zin_mem (List.all_eq_true.mp hI _ hm), fun idx v hv => by
    obtain ⟨t, hm⟩ := zkJ_mem hv
    exact zin_mem (List.all_eq_true.mp hJ _ hm)⟩
def zall : List Nat → List Jvm.Cond → Bool
  | [], [] => true
  | h :: hs, w :: ws => zin h w && zall hs ws
  | _, _ => false
theorem zall_mem : ∀ {hs : List Nat} {ws : List Jvm.Cond}, zall hs ws = true → ∀ w ∈ ws, w ∈ zG
  | [], [], _, w, hw => absurd hw List.not_mem_nil
  | h :: hs, a :: ws, e, w, hw => by
    unfold zall at e
    rw [Bool.and_eq_true] at e
    rcases List.mem_cons.mp hw with h1 | h1
    · rw [h1]; exact zin_mem e.1
    · exact zall_mem e.2 w h1
  | [], a :: ws, e, w, hw => by simp [zall] at e
  | h :: hs, [], e, w, hw => absurd hw List.not_mem_nil
theorem zwX0 : ∀ w ∈ wsX00, w ∈ zG := zall_mem (hs := [110, 112, 114, 116, 118, 120, 122, 124, 126, 128, 130, 132, 134, 136, 138, 140, 142, 144, 146]) (by decide +kernel)
theorem zwX1 : ∀ w ∈ wsX10, w ∈ zG := zall_mem (hs := [161, 163, 165]) (by decide +kernel)
theorem zwX2 : ∀ w ∈ wsX20, w ∈ zG := zall_mem (hs := [287, 289, 291, 293]) (by decide +kernel)
theorem zwX3 : ∀ w ∈ wsX30, w ∈ zG := zall_mem (hs := [176, 178, 180, 182, 184, 186, 188, 190]) (by decide +kernel)
theorem zwX4 : ∀ w ∈ wsX40, w ∈ zG := zall_mem (hs := [609, 611, 613, 615, 617, 619, 621, 623, 625, 627, 629, 631, 633, 635, 637, 639, 641, 643, 645, 647, 649, 651, 653, 655, 657, 659, 661, 663, 665, 667, 669, 671, 673, 675, 677, 679, 681, 683, 685, 687, 689, 691, 693]) (by decide +kernel)
theorem zcls : zCls := by
  intro ci r hr
  match ci, hr with
  | 0, hr => cases hr; exact ⟨zwX0, tyX0, tyX0_ok, nmX0⟩
  | 1, hr => cases hr; exact ⟨zwX1, tyX1, tyX1_ok, nmX1⟩
  | 2, hr => cases hr; exact ⟨zwX2, tyX2, tyX2_ok, nmX2⟩
  | 3, hr => cases hr; exact ⟨zwX3, tyX3, tyX3_ok, nmX3⟩
  | 4, hr => cases hr; exact ⟨zwX4, tyX4, tyX4_ok, nmX4⟩
  | k + 5, hr => simp [vwCl] at hr
def FX0 : List (Nat × Nat × Nat × Nat × Nat) := [(9, 0, 1, 2, 80), (15, 0, 2, 0, 82), (19, 0, 3, 2, 84), (24, 0, 6, 2, 89), (28, 0, 8, 2, 92), (31, 0, 9, 2, 94), (34, 0, 10, 2, 96), (37, 0, 11, 2, 98), (40, 0, 15, 2, 106), (43, 0, 16, 2, 107), (46, 0, 17, 2, 108), (49, 0, 18, 2, 109), (52, 0, 0, 0, 78), (61, 0, 4, 0, 86), (64, 0, 5, 0, 87), (67, 0, 7, 0, 90), (70, 0, 12, 0, 100), (73, 0, 13, 0, 102), (76, 0, 14, 0, 104), (121, 2, 0, 2, 282), (134, 2, 1, 2, 284)]
def IX0 : List (Nat × Int32 × Nat) := []
def JX0 : List (Nat × Int64 × Nat) := []
theorem tbX0 : zTb RX0 (zfl FX0) (zkI IX0) (zkJ JX0) := zTb_of (by decide +kernel) (by decide +kernel) (by decide +kernel)
def FX1 : List (Nat × Nat × Nat × Nat × Nat) := [(9, 1, 0, 2, 156), (15, 1, 1, 0, 157), (19, 1, 2, 0, 159)]
def IX1 : List (Nat × Int32 × Nat) := []
def JX1 : List (Nat × Int64 × Nat) := []
theorem tbX1 : zTb RX1 (zfl FX1) (zkI IX1) (zkJ JX1) := zTb_of (by decide +kernel) (by decide +kernel) (by decide +kernel)
def FX2 : List (Nat × Nat × Nat × Nat × Nat) := [(9, 2, 0, 2, 281), (15, 2, 1, 2, 283), (19, 2, 2, 2, 285), (23, 2, 3, 2, 286)]
def IX2 : List (Nat × Int32 × Nat) := []
def JX2 : List (Nat × Int64 × Nat) := []
theorem tbX2 : zTb RX2 (zfl FX2) (zkI IX2) (zkJ JX2) := zTb_of (by decide +kernel) (by decide +kernel) (by decide +kernel)
def FX3 : List (Nat × Nat × Nat × Nat × Nat) := [(10, 3, 0, 2, 168), (16, 3, 1, 2, 169), (19, 3, 2, 2, 170), (22, 3, 3, 2, 171), (25, 3, 4, 2, 172), (32, 3, 5, 2, 173), (36, 3, 6, 2, 174), (52, 0, 0, 0, 79), (74, 0, 1, 2, 81), (80, 0, 2, 0, 83), (83, 0, 3, 2, 85), (90, 1, 1, 0, 158), (97, 0, 5, 0, 88), (104, 1, 2, 0, 160), (114, 0, 7, 0, 91), (123, 0, 10, 2, 97), (130, 0, 9, 2, 95), (133, 0, 8, 2, 93), (136, 0, 13, 0, 103), (139, 0, 12, 0, 101), (142, 0, 11, 2, 99), (207, 0, 14, 0, 105), (213, 3, 7, 1, 175)]
def IX3 : List (Nat × Int32 × Nat) := [(86, 999999, 246), (221, (-1000000000), 469)]
def JX3 : List (Nat × Int64 × Nat) := []
theorem tbX3 : zTb RX3 (zfl FX3) (zkI IX3) (zkJ JX3) := zTb_of (by decide +kernel) (by decide +kernel) (by decide +kernel)
def FX4 : List (Nat × Nat × Nat × Nat × Nat) := [(7, 4, 1, 2, 567), (13, 4, 2, 2, 568), (16, 4, 3, 0, 569), (20, 4, 5, 2, 571), (23, 4, 6, 2, 572), (26, 4, 7, 2, 573), (29, 4, 8, 2, 574), (32, 4, 12, 2, 578), (35, 4, 13, 2, 579), (38, 4, 14, 2, 580), (41, 4, 15, 2, 581), (44, 4, 16, 2, 582), (47, 4, 17, 2, 583), (50, 4, 19, 2, 585), (53, 4, 24, 2, 590), (56, 4, 25, 2, 591), (60, 4, 27, 2, 593), (63, 4, 28, 2, 594), (66, 4, 29, 2, 595), (69, 4, 35, 2, 601), (72, 4, 36, 2, 602), (75, 4, 40, 2, 606), (78, 4, 18, 0, 584), (81, 4, 0, 0, 566), (88, 4, 4, 0, 570), (91, 4, 11, 0, 577), (113, 4, 20, 0, 586), (116, 4, 21, 0, 587), (119, 4, 22, 1, 588), (133, 4, 23, 0, 589), (143, 4, 26, 0, 592), (162, 4, 9, 0, 575), (165, 4, 10, 0, 576), (168, 4, 30, 0, 596), (171, 4, 31, 0, 597), (174, 4, 32, 0, 598), (177, 4, 33, 0, 599), (180, 4, 34, 0, 600), (200, 4, 37, 0, 603), (203, 4, 38, 0, 604), (241, 4, 42, 1, 608), (244, 4, 41, 0, 607), (250, 4, 39, 1, 605)]
def IX4 : List (Nat × Int32 × Nat) := [(110, 999999, 736), (229, (-1000000000), 877)]
def JX4 : List (Nat × Int64 × Nat) := [(94, 3, 719), (111, 255, 741), (127, 49, 762), (129, 57, 763), (131, 48, 764), (256, 11, 946), (258, 16, 947)]
theorem tbX4 : zTb RX4 (zfl FX4) (zkI IX4) (zkJ JX4) := zTb_of (by decide +kernel) (by decide +kernel) (by decide +kernel)
def FL : List (Nat × Nat × Nat × Nat × Nat) := []
def IL : List (Nat × Int32 × Nat) := []
def JL : List (Nat × Int64 × Nat) := [(28, 4294967295, 948)]
theorem tbL : zTb RL (zfl FL) (zkI IL) (zkJ JL) := zTb_of (by decide +kernel) (by decide +kernel) (by decide +kernel)
end
section
def kX0_init : List (Nat × Instr) := [(0, .aload_n 0), (1, .invokespecial 3), (4, .aload_n 0), (5, .bipush 24), (7, .newarray .int), (9, .putfield 9), (12, .aload_n 0), (13, .iconst 1), (14, .putfield 15), (17, .aload_n 0), (18, .bipush 24), (20, .newarray .int), (22, .putfield 19), (25, .aload_n 0), (26, .bipush 10), (28, .anewarray 22), (31, .putfield 24), (34, .aload_n 0), (35, .bipush 8), (37, .newarray .int), (39, .putfield 28), (42, .aload_n 0), (43, .bipush 8), (45, .newarray .int), (47, .putfield 31), (50, .aload_n 0), (51, .bipush 8), (53, .newarray .int), (55, .putfield 34), (58, .aload_n 0), (59, .bipush 8), (61, .newarray .int), (63, .putfield 37), (66, .aload_n 0), (67, .bipush 8), (69, .newarray .int), (71, .putfield 40), (74, .aload_n 0), (75, .bipush 8), (77, .newarray .int), (79, .putfield 43), (82, .aload_n 0), (83, .bipush 8), (85, .newarray .int), (87, .putfield 46), (90, .aload_n 0), (91, .bipush 6), (93, .newarray .int), (95, .putfield 49), (98, .return_)]
set_option maxRecDepth 20000 in
theorem oX0_init : zokC cX0_init kX0_init = true := by decide +kernel
def kX0_copyFrom : List (Nat × Instr) := [(0, .aload_n 0), (1, .aload_n 1), (2, .getfield 52), (5, .putfield 52), (8, .aload_n 1), (9, .getfield 9), (12, .iconst 0), (13, .aload_n 0), (14, .getfield 9), (17, .iconst 0), (18, .aload_n 0), (19, .getfield 9), (22, .arraylength), (23, .invokestatic 55), (26, .aload_n 0), (27, .aload_n 1), (28, .getfield 15), (31, .putfield 15), (34, .aload_n 1), (35, .getfield 19), (38, .iconst 0), (39, .aload_n 0), (40, .getfield 19), (43, .iconst 0), (44, .bipush 24), (46, .invokestatic 55), (49, .aload_n 0), (50, .aload_n 1), (51, .getfield 61), (54, .putfield 61), (57, .aload_n 0), (58, .aload_n 1), (59, .getfield 64), (62, .putfield 64), (65, .iconst 0), (66, .istore_n 2), (67, .iload_n 2), (68, .bipush 10), (70, .if_icmp .ge 21), (73, .aload_n 0), (74, .getfield 24), (77, .iload_n 2), (78, .aload_n 1), (79, .getfield 24), (82, .iload_n 2), (83, .aaload), (84, .aastore), (85, .iinc 2 1), (88, .goto (-21)), (91, .aload_n 0), (92, .aload_n 1), (93, .getfield 67), (96, .putfield 67), (99, .aload_n 1), (100, .getfield 28), (103, .iconst 0), (104, .aload_n 0), (105, .getfield 28), (108, .iconst 0), (109, .bipush 8), (111, .invokestatic 55), (114, .aload_n 1), (115, .getfield 31), (118, .iconst 0), (119, .aload_n 0), (120, .getfield 31), (123, .iconst 0), (124, .bipush 8), (126, .invokestatic 55), (129, .aload_n 1), (130, .getfield 34), (133, .iconst 0), (134, .aload_n 0), (135, .getfield 34), (138, .iconst 0), (139, .bipush 8), (141, .invokestatic 55), (144, .aload_n 1), (145, .getfield 37), (148, .iconst 0), (149, .aload_n 0), (150, .getfield 37), (153, .iconst 0), (154, .bipush 8), (156, .invokestatic 55), (159, .aload_n 0), (160, .aload_n 1), (161, .getfield 70), (164, .putfield 70), (167, .aload_n 0), (168, .aload_n 1), (169, .getfield 73), (172, .putfield 73), (175, .aload_n 0), (176, .aload_n 1), (177, .getfield 76), (180, .putfield 76), (183, .return_)]
set_option maxRecDepth 20000 in
theorem oX0_copyFrom : zokC cX0_copyFrom kX0_copyFrom = true := by decide +kernel
def kX0_imagine : List (Nat × Instr) := [(0, .aload_n 0), (1, .aload_n 1), (2, .invokevirtual 79), (5, .aload_n 0), (6, .getfield 37), (9, .iconst 0), (10, .invokestatic 83), (13, .return_)]
set_option maxRecDepth 20000 in
theorem oX0_imagine : zokC cX0_imagine kX0_imagine = true := by decide +kernel
def kX0_addWay : List (Nat × Instr) := [(0, .aload_n 0), (1, .getfield 52), (4, .iconst 4), (5, .imul), (6, .istore 5), (8, .aload_n 0), (9, .getfield 9), (12, .iload 5), (14, .iload_n 1), (15, .iastore), (16, .aload_n 0), (17, .getfield 9), (20, .iload 5), (22, .iconst 1), (23, .iadd), (24, .iload_n 2), (25, .iastore), (26, .aload_n 0), (27, .getfield 9), (30, .iload 5), (32, .iconst 2), (33, .iadd), (34, .iload_n 3), (35, .iastore), (36, .aload_n 0), (37, .getfield 9), (40, .iload 5), (42, .iconst 3), (43, .iadd), (44, .iload 4), (46, .iastore), (47, .aload_n 0), (48, .dup), (49, .getfield 52), (52, .dup_x1), (53, .iconst 1), (54, .iadd), (55, .putfield 52), (58, .ireturn)]
set_option maxRecDepth 20000 in
theorem oX0_addWay : zokC cX0_addWay kX0_addWay = true := by decide +kernel
def kX0_addRule : List (Nat × Instr) := [(0, .aload_n 0), (1, .getfield 24), (4, .aload_n 0), (5, .getfield 64), (8, .aload_n 1), (9, .aastore), (10, .aload_n 0), (11, .dup), (12, .getfield 64), (15, .dup_x1), (16, .iconst 1), (17, .iadd), (18, .putfield 64), (21, .ireturn)]
set_option maxRecDepth 20000 in
theorem oX0_addRule : zokC cX0_addRule kX0_addRule = true := by decide +kernel
def kX0_addPerson : List (Nat × Instr) := [(0, .aload_n 0), (1, .getfield 28), (4, .aload_n 0), (5, .getfield 67), (8, .iload_n 1), (9, .iastore), (10, .aload_n 0), (11, .getfield 31), (14, .aload_n 0), (15, .getfield 67), (18, .iload_n 2), (19, .iastore), (20, .aload_n 0), (21, .getfield 34), (24, .aload_n 0), (25, .getfield 67), (28, .sipush 255), (31, .iastore), (32, .aload_n 0), (33, .getfield 37), (36, .aload_n 0), (37, .getfield 67), (40, .iconst 0), (41, .iastore), (42, .aload_n 0), (43, .dup), (44, .getfield 67), (47, .dup_x1), (48, .iconst 1), (49, .iadd), (50, .putfield 67), (53, .ireturn)]
set_option maxRecDepth 20000 in
theorem oX0_addPerson : zokC cX0_addPerson kX0_addPerson = true := by decide +kernel
def kX0_liveInParts : List (Nat × Instr) := [(0, .iconst 0), (1, .istore 4), (3, .iload 4), (5, .aload_n 0), (6, .getfield 67), (9, .if_icmp .ge 27), (12, .aload_n 0), (13, .getfield 31), (16, .iload 4), (18, .iload 4), (20, .iload_n 3), (21, .if_icmp .ge 7), (24, .iload_n 1), (25, .goto 4), (28, .iload_n 2), (29, .iastore), (30, .iinc 4 1), (33, .goto (-30)), (36, .return_)]
set_option maxRecDepth 20000 in
theorem oX0_liveInParts : zokC cX0_liveInParts kX0_liveInParts = true := by decide +kernel
def kX0_turnSky : List (Nat × Instr) := [(0, .iconst 0), (1, .istore 4), (3, .iload 4), (5, .iload_n 1), (6, .if_icmp .ge 27), (9, .aload_n 0), (10, .getfield 19), (13, .iload 4), (15, .iload_n 2), (16, .iastore), (17, .aload_n 0), (18, .getfield 19), (21, .iload_n 1), (22, .iload 4), (24, .iadd), (25, .iload_n 3), (26, .iastore), (27, .iinc 4 1), (30, .goto (-27)), (33, .aload_n 0), (34, .iconst 2), (35, .iload_n 1), (36, .imul), (37, .putfield 15), (40, .aload_n 0), (41, .aload_n 0), (42, .getfield 70), (45, .putfield 61), (48, .return_)]
set_option maxRecDepth 20000 in
theorem oX0_turnSky : zokC cX0_turnSky kX0_turnSky = true := by decide +kernel
def kX0_seeAhead : List (Nat × Instr) := [(0, .iconst 0), (1, .istore_n 2), (2, .iload_n 2), (3, .aload_n 0), (4, .getfield 67), (7, .if_icmp .ge 65), (10, .iconst 1), (11, .iload_n 2), (12, .ishl), (13, .istore_n 3), (14, .iload_n 2), (15, .istore 4), (17, .iconst 0), (18, .istore 5), (20, .iload 5), (22, .iload_n 1), (23, .if_icmp .ge 36), (26, .iload 4), (28, .ifCond .le 10), (31, .iload 4), (33, .iconst 1), (34, .isub), (35, .goto 9), (38, .aload_n 0), (39, .getfield 67), (42, .iconst 1), (43, .isub), (44, .istore 4), (46, .iload_n 3), (47, .iconst 1), (48, .iload 4), (50, .ishl), (51, .ior), (52, .istore_n 3), (53, .iinc 5 1), (56, .goto (-36)), (59, .aload_n 0), (60, .getfield 34), (63, .iload_n 2), (64, .iload_n 3), (65, .iastore), (66, .iinc 2 1), (69, .goto (-67)), (72, .return_)]
set_option maxRecDepth 20000 in
theorem oX0_seeAhead : zokC cX0_seeAhead kX0_seeAhead = true := by decide +kernel
def kX0_bringsOf : List (Nat × Instr) := [(0, .aload_n 0), (1, .getfield 9), (4, .iload_n 1), (5, .iconst 4), (6, .imul), (7, .iload_n 2), (8, .iadd), (9, .iaload), (10, .ireturn)]
set_option maxRecDepth 20000 in
theorem oX0_bringsOf : zokC cX0_bringsOf kX0_bringsOf = true := by decide +kernel
def kX0_weatherOf : List (Nat × Instr) := [(0, .iload_n 1), (1, .aload_n 0), (2, .getfield 61), (5, .isub), (6, .istore_n 2), (7, .iload_n 2), (8, .ifCond .lt 24), (11, .aload_n 0), (12, .getfield 15), (15, .ifCond .le 17), (18, .aload_n 0), (19, .getfield 19), (22, .iload_n 2), (23, .aload_n 0), (24, .getfield 15), (27, .irem), (28, .iaload), (29, .goto 4), (32, .iconst 0), (33, .ireturn)]
set_option maxRecDepth 20000 in
theorem oX0_weatherOf : zokC cX0_weatherOf kX0_weatherOf = true := by decide +kernel
def kX0_bestIn : List (Nat × Instr) := [(0, .iconst 0), (1, .istore_n 2), (2, .iconst 1), (3, .istore_n 3), (4, .iload_n 3), (5, .aload_n 0), (6, .getfield 52), (9, .if_icmp .ge 26), (12, .aload_n 0), (13, .iload_n 3), (14, .iload_n 1), (15, .invokevirtual 89), (18, .aload_n 0), (19, .iload_n 2), (20, .iload_n 1), (21, .invokevirtual 89), (24, .if_icmp .le 5), (27, .iload_n 3), (28, .istore_n 2), (29, .iinc 3 1), (32, .goto (-28)), (35, .iload_n 2), (36, .ireturn)]
set_option maxRecDepth 20000 in
theorem oX0_bestIn : zokC cX0_bestIn kX0_bestIn = true := by decide +kernel
def kX0_plantersOf : List (Nat × Instr) := [(0, .iconst 0), (1, .istore_n 2), (2, .iconst 0), (3, .istore_n 3), (4, .iload_n 3), (5, .aload_n 0), (6, .getfield 67), (9, .if_icmp .ge 22), (12, .aload_n 0), (13, .getfield 28), (16, .iload_n 3), (17, .iaload), (18, .iload_n 1), (19, .if_icmp .ne 6), (22, .iinc 2 1), (25, .iinc 3 1), (28, .goto (-24)), (31, .iload_n 2), (32, .ireturn)]
set_option maxRecDepth 20000 in
theorem oX0_plantersOf : zokC cX0_plantersOf kX0_plantersOf = true := by decide +kernel
def kX0_isAlike : List (Nat × Instr) := [(0, .aload_n 0), (1, .aload_n 0), (2, .getfield 28), (5, .iconst 0), (6, .iaload), (7, .invokevirtual 93), (10, .aload_n 0), (11, .getfield 67), (14, .if_icmp .ne 7), (17, .iconst 1), (18, .goto 4), (21, .iconst 0), (22, .ireturn)]
set_option maxRecDepth 20000 in
theorem oX0_isAlike : zokC cX0_isAlike kX0_isAlike = true := by decide +kernel
def kX0_isWrong : List (Nat × Instr) := [(0, .aload_n 0), (1, .aload_n 0), (2, .getfield 70), (5, .invokevirtual 97), (8, .istore_n 1), (9, .aload_n 0), (10, .invokevirtual 100), (13, .ifCond .eq 31), (16, .aload_n 0), (17, .aload_n 0), (18, .getfield 28), (21, .iconst 0), (22, .iaload), (23, .iload_n 1), (24, .invokevirtual 89), (27, .aload_n 0), (28, .aload_n 0), (29, .iload_n 1), (30, .invokevirtual 104), (33, .iload_n 1), (34, .invokevirtual 89), (37, .if_icmp .ge 7), (40, .iconst 1), (41, .goto 4), (44, .iconst 0), (45, .ireturn)]
set_option maxRecDepth 20000 in
theorem oX0_isWrong : zokC cX0_isWrong kX0_isWrong = true := by decide +kernel
def kX0_allBrought : List (Nat × Instr) := [(0, .iconst 0), (1, .istore_n 1), (2, .iconst 0), (3, .istore_n 2), (4, .iload_n 2), (5, .aload_n 0), (6, .getfield 67), (9, .if_icmp .ge 18), (12, .iload_n 1), (13, .aload_n 0), (14, .getfield 37), (17, .iload_n 2), (18, .iaload), (19, .iadd), (20, .istore_n 1), (21, .iinc 2 1), (24, .goto (-20)), (27, .iload_n 1), (28, .ireturn)]
set_option maxRecDepth 20000 in
theorem oX0_allBrought : zokC cX0_allBrought kX0_allBrought = true := by decide +kernel
def kX0_passYears : List (Nat × Instr) := [(0, .iconst 0), (1, .istore_n 2), (2, .iload_n 2), (3, .iload_n 1), (4, .if_icmp .ge 82), (7, .aload_n 0), (8, .invokevirtual 107), (11, .iconst 0), (12, .istore_n 3), (13, .iload_n 3), (14, .aload_n 0), (15, .getfield 67), (18, .if_icmp .ge 35), (21, .aload_n 0), (22, .getfield 37), (25, .iload_n 3), (26, .dup2), (27, .iaload), (28, .aload_n 0), (29, .getfield 40), (32, .iload_n 3), (33, .iaload), (34, .iadd), (35, .iastore), (36, .aload_n 0), (37, .getfield 46), (40, .iload_n 3), (41, .aload_n 0), (42, .iload_n 3), (43, .invokevirtual 110), (46, .iastore), (47, .iinc 3 1), (50, .goto (-37)), (53, .aload_n 0), (54, .getfield 46), (57, .iconst 0), (58, .aload_n 0), (59, .getfield 28), (62, .iconst 0), (63, .aload_n 0), (64, .getfield 67), (67, .invokestatic 55), (70, .aload_n 0), (71, .dup), (72, .getfield 70), (75, .iconst 1), (76, .iadd), (77, .putfield 70), (80, .iinc 2 1), (83, .goto (-81)), (86, .return_)]
set_option maxRecDepth 20000 in
theorem oX0_passYears : zokC cX0_passYears kX0_passYears = true := by decide +kernel
def kX0_harvest : List (Nat × Instr) := [(0, .aload_n 0), (1, .aload_n 0), (2, .getfield 70), (5, .invokevirtual 97), (8, .istore_n 1), (9, .aload_n 0), (10, .getfield 73), (13, .aload_n 0), (14, .getfield 70), (17, .invokestatic 113), (20, .istore_n 2), (21, .iconst 0), (22, .istore_n 3), (23, .iload_n 3), (24, .aload_n 0), (25, .getfield 67), (28, .if_icmp .ge 63), (31, .iload_n 2), (32, .ifCond .eq 9), (35, .sipush 255), (38, .goto 9), (41, .aload_n 0), (42, .getfield 34), (45, .iload_n 3), (46, .iaload), (47, .aload_n 0), (48, .getfield 76), (51, .iconst (-1)), (52, .ixor), (53, .iand), (54, .istore 4), (56, .aload_n 0), (57, .getfield 43), (60, .iload_n 3), (61, .iload 4), (63, .iconst 1), (64, .iload_n 3), (65, .ishl), (66, .ior), (67, .iastore), (68, .aload_n 0), (69, .getfield 40), (72, .iload_n 3), (73, .aload_n 0), (74, .aload_n 0), (75, .getfield 28), (78, .iload_n 3), (79, .iaload), (80, .iload_n 1), (81, .invokevirtual 89), (84, .iastore), (85, .iinc 3 1), (88, .goto (-65)), (91, .return_)]
set_option maxRecDepth 20000 in
theorem oX0_harvest : zokC cX0_harvest kX0_harvest = true := by decide +kernel
def kX0_choiceOf : List (Nat × Instr) := [(0, .aload_n 0), (1, .getfield 28), (4, .iload_n 1), (5, .iaload), (6, .istore_n 2), (7, .aload_n 0), (8, .getfield 24), (11, .aload_n 0), (12, .getfield 31), (15, .iload_n 1), (16, .iaload), (17, .aaload), (18, .astore_n 3), (19, .aload_n 3), (20, .ifnonnull 5), (23, .iload_n 2), (24, .ireturn), (25, .aload_n 3), (26, .aload_n 0), (27, .getfield 40), (30, .iload_n 1), (31, .iaload), (32, .invokevirtual 117), (35, .astore 4), (37, .aload 4), (39, .getfield 121), (42, .lookupswitch 85 #[(98, 42), (109, 48), (110, 54), (116, 60)]), (84, .aload_n 0), (85, .iload_n 1), (86, .invokevirtual 125), (89, .ireturn), (90, .aload_n 0), (91, .iload_n 1), (92, .invokevirtual 128), (95, .ireturn), (96, .aload_n 0), (97, .iload_n 1), (98, .invokevirtual 131), (101, .ireturn), (102, .aload 4), (104, .getfield 134), (107, .aload_n 0), (108, .getfield 70), (111, .invokestatic 113), (114, .ifCond .eq 11), (117, .aload_n 0), (118, .iload_n 2), (119, .invokevirtual 137), (122, .goto 4), (125, .iload_n 2), (126, .ireturn), (127, .iload_n 2), (128, .ireturn)]
set_option maxRecDepth 20000 in
theorem oX0_choiceOf : zokC cX0_choiceOf kX0_choiceOf = true := by decide +kernel
def kX0_bestSeen : List (Nat × Instr) := [(0, .iload_n 1), (1, .istore_n 2), (2, .iconst 0), (3, .istore_n 3), (4, .iload_n 3), (5, .aload_n 0), (6, .getfield 67), (9, .if_icmp .ge 39), (12, .aload_n 0), (13, .getfield 43), (16, .iload_n 1), (17, .iaload), (18, .iconst 1), (19, .iload_n 3), (20, .ishl), (21, .iand), (22, .ifCond .eq 20), (25, .aload_n 0), (26, .getfield 40), (29, .iload_n 3), (30, .iaload), (31, .aload_n 0), (32, .getfield 40), (35, .iload_n 2), (36, .iaload), (37, .if_icmp .le 5), (40, .iload_n 3), (41, .istore_n 2), (42, .iinc 3 1), (45, .goto (-41)), (48, .aload_n 0), (49, .getfield 28), (52, .iload_n 2), (53, .iaload), (54, .ireturn)]
set_option maxRecDepth 20000 in
theorem oX0_bestSeen : zokC cX0_bestSeen kX0_bestSeen = true := by decide +kernel
def kX0_mostSeen : List (Nat × Instr) := [(0, .aload_n 0), (1, .getfield 49), (4, .iconst 0), (5, .invokestatic 83), (8, .iconst 0), (9, .istore_n 2), (10, .iload_n 2), (11, .aload_n 0), (12, .getfield 67), (15, .if_icmp .ge 37), (18, .aload_n 0), (19, .getfield 43), (22, .iload_n 1), (23, .iaload), (24, .iconst 1), (25, .iload_n 2), (26, .ishl), (27, .iand), (28, .ifCond .eq 18), (31, .aload_n 0), (32, .getfield 49), (35, .aload_n 0), (36, .getfield 28), (39, .iload_n 2), (40, .iaload), (41, .dup2), (42, .iaload), (43, .iconst 1), (44, .iadd), (45, .iastore), (46, .iinc 2 1), (49, .goto (-39)), (52, .aload_n 0), (53, .getfield 28), (56, .iload_n 1), (57, .iaload), (58, .istore_n 2), (59, .iconst 0), (60, .istore_n 3), (61, .iload_n 3), (62, .aload_n 0), (63, .getfield 52), (66, .if_icmp .ge 26), (69, .aload_n 0), (70, .getfield 49), (73, .iload_n 3), (74, .iaload), (75, .aload_n 0), (76, .getfield 49), (79, .iload_n 2), (80, .iaload), (81, .if_icmp .le 5), (84, .iload_n 3), (85, .istore_n 2), (86, .iinc 3 1), (89, .goto (-28)), (92, .iload_n 2), (93, .ireturn)]
set_option maxRecDepth 20000 in
theorem oX0_mostSeen : zokC cX0_mostSeen kX0_mostSeen = true := by decide +kernel
def kX0_nearSeen : List (Nat × Instr) := [(0, .iload_n 1), (1, .istore_n 2), (2, .iconst (-1)), (3, .istore_n 3), (4, .iconst 0), (5, .istore 4), (7, .iload 4), (9, .aload_n 0), (10, .getfield 67), (13, .if_icmp .ge 39), (16, .aload_n 0), (17, .getfield 43), (20, .iload_n 1), (21, .iaload), (22, .iconst 1), (23, .iload 4), (25, .ishl), (26, .iand), (27, .ifCond .eq 19), (30, .iload 4), (32, .istore_n 2), (33, .iload 4), (35, .iload_n 1), (36, .if_icmp .ge 8), (39, .iload 4), (41, .goto 4), (44, .iload_n 3), (45, .istore_n 3), (46, .iinc 4 1), (49, .goto (-42)), (52, .aload_n 0), (53, .getfield 28), (56, .iload_n 3), (57, .ifCond .lt 7), (60, .iload_n 3), (61, .goto 4), (64, .iload_n 2), (65, .iaload), (66, .ireturn)]
set_option maxRecDepth 20000 in
theorem oX0_nearSeen : zokC cX0_nearSeen kX0_nearSeen = true := by decide +kernel
def kX0_wayBehind : List (Nat × Instr) := [(0, .iload_n 1), (1, .iconst 1), (2, .iadd), (3, .aload_n 0), (4, .getfield 52), (7, .if_icmp .ge 9), (10, .iload_n 1), (11, .iconst 1), (12, .iadd), (13, .goto 4), (16, .iconst 0), (17, .ireturn)]
set_option maxRecDepth 20000 in
theorem oX0_wayBehind : zokC cX0_wayBehind kX0_wayBehind = true := by decide +kernel
def kX0_isDivisor : List (Nat × Instr) := [(0, .iload_n 0), (1, .ifCond .le 13), (4, .iload_n 1), (5, .iload_n 0), (6, .irem), (7, .ifCond .ne 7), (10, .iconst 1), (11, .goto 4), (14, .iconst 0), (15, .ireturn)]
set_option maxRecDepth 20000 in
theorem oX0_isDivisor : zokC cX0_isDivisor kX0_isDivisor = true := by decide +kernel
def kX1_init : List (Nat × Instr) := [(0, .aload_n 0), (1, .invokespecial 3), (4, .aload_n 0), (5, .bipush 24), (7, .newarray .int), (9, .putfield 9), (12, .return_)]
set_option maxRecDepth 20000 in
theorem oX1_init : zokC cX1_init kX1_init = true := by decide +kernel
def kX1_take : List (Nat × Instr) := [(0, .aload_n 0), (1, .getfield 15), (4, .bipush 24), (6, .if_icmp .ge 23), (9, .aload_n 0), (10, .getfield 9), (13, .aload_n 0), (14, .getfield 15), (17, .iload_n 1), (18, .iastore), (19, .aload_n 0), (20, .dup), (21, .getfield 15), (24, .iconst 1), (25, .iadd), (26, .putfield 15), (29, .return_)]
set_option maxRecDepth 20000 in
theorem oX1_take : zokC cX1_take kX1_take = true := by decide +kernel
def kX1_readAll : List (Nat × Instr) := [(0, .aload_n 0), (1, .iconst 0), (2, .putfield 19), (5, .aload_n 0), (6, .iconst 0), (7, .invokevirtual 22), (10, .astore_n 1), (11, .aload_n 0), (12, .getfield 19), (15, .aload_n 0), (16, .getfield 15), (19, .if_icmp .ne 7), (22, .aload_n 1), (23, .goto 4), (26, .aconst_null), (27, .areturn)]
set_option maxRecDepth 20000 in
theorem oX1_readAll : zokC cX1_readAll kX1_readAll = true := by decide +kernel
def kX1_readRule : List (Nat × Instr) := [(0, .aload_n 0), (1, .invokevirtual 26), (4, .istore_n 2), (5, .iload_n 2), (6, .lookupswitch 134 #[(40, 117), (98, 58), (109, 58), (110, 58), (115, 58), (116, 81)]), (64, .aload_n 0), (65, .dup), (66, .getfield 19), (69, .iconst 1), (70, .iadd), (71, .putfield 19), (74, .new 30), (77, .dup), (78, .iload_n 2), (79, .i2c), (80, .iconst 0), (81, .aconst_null), (82, .aconst_null), (83, .invokespecial 32), (86, .areturn), (87, .aload_n 0), (88, .dup), (89, .getfield 19), (92, .iconst 1), (93, .iadd), (94, .putfield 19), (97, .aload_n 0), (98, .invokevirtual 35), (101, .istore_n 3), (102, .iload_n 3), (103, .ifCond .le 18), (106, .new 30), (109, .dup), (110, .bipush 116), (112, .iload_n 3), (113, .aconst_null), (114, .aconst_null), (115, .invokespecial 32), (118, .goto 4), (121, .aconst_null), (122, .areturn), (123, .iload_n 1), (124, .iconst 4), (125, .if_icmp .ge 13), (128, .aload_n 0), (129, .iload_n 1), (130, .iconst 1), (131, .iadd), (132, .invokevirtual 38), (135, .goto 4), (138, .aconst_null), (139, .areturn), (140, .aconst_null), (141, .areturn)]
set_option maxRecDepth 20000 in
theorem oX1_readRule : zokC cX1_readRule kX1_readRule = true := by decide +kernel
def kX1_readMixed : List (Nat × Instr) := [(0, .aload_n 0), (1, .dup), (2, .getfield 19), (5, .iconst 1), (6, .iadd), (7, .putfield 19), (10, .aload_n 0), (11, .invokevirtual 35), (14, .istore_n 2), (15, .iload_n 2), (16, .ifCond .eq 12), (19, .aload_n 0), (20, .bipush 63), (22, .invokevirtual 41), (25, .ifCond .ne 5), (28, .aconst_null), (29, .areturn), (30, .aload_n 0), (31, .iload_n 1), (32, .invokevirtual 22), (35, .astore_n 3), (36, .aload_n 3), (37, .ifnull 12), (40, .aload_n 0), (41, .bipush 58), (43, .invokevirtual 41), (46, .ifCond .ne 5), (49, .aconst_null), (50, .areturn), (51, .aload_n 0), (52, .iload_n 1), (53, .invokevirtual 22), (56, .astore 4), (58, .aload 4), (60, .ifnull 12), (63, .aload_n 0), (64, .bipush 41), (66, .invokevirtual 41), (69, .ifCond .ne 5), (72, .aconst_null), (73, .areturn), (74, .new 30), (77, .dup), (78, .bipush 40), (80, .iload_n 2), (81, .aload_n 3), (82, .aload 4), (84, .invokespecial 32), (87, .areturn)]
set_option maxRecDepth 20000 in
theorem oX1_readMixed : zokC cX1_readMixed kX1_readMixed = true := by decide +kernel
def kX1_readNumber : List (Nat × Instr) := [(0, .aload_n 0), (1, .invokevirtual 26), (4, .invokestatic 45), (7, .ifCond .eq 12), (10, .aload_n 0), (11, .invokevirtual 26), (14, .bipush 48), (16, .if_icmp .ne 5), (19, .iconst 0), (20, .ireturn), (21, .aload_n 0), (22, .invokevirtual 26), (25, .bipush 48), (27, .isub), (28, .istore_n 1), (29, .aload_n 0), (30, .dup), (31, .getfield 19), (34, .iconst 1), (35, .iadd), (36, .putfield 19), (39, .aload_n 0), (40, .invokevirtual 26), (43, .invokestatic 45), (46, .ifCond .eq 26), (49, .bipush 10), (51, .iload_n 1), (52, .imul), (53, .aload_n 0), (54, .invokevirtual 26), (57, .iadd), (58, .bipush 48), (60, .isub), (61, .istore_n 1), (62, .aload_n 0), (63, .dup), (64, .getfield 19), (67, .iconst 1), (68, .iadd), (69, .putfield 19), (72, .iload_n 1), (73, .ireturn)]
set_option maxRecDepth 20000 in
theorem oX1_readNumber : zokC cX1_readNumber kX1_readNumber = true := by decide +kernel
def kX1_passes : List (Nat × Instr) := [(0, .aload_n 0), (1, .invokevirtual 26), (4, .iload_n 1), (5, .if_icmp .ne 7), (8, .iconst 1), (9, .goto 4), (12, .iconst 0), (13, .istore_n 2), (14, .iload_n 2), (15, .ifCond .eq 13), (18, .aload_n 0), (19, .dup), (20, .getfield 19), (23, .iconst 1), (24, .iadd), (25, .putfield 19), (28, .iload_n 2), (29, .ireturn)]
set_option maxRecDepth 20000 in
theorem oX1_passes : zokC cX1_passes kX1_passes = true := by decide +kernel
def kX1_here : List (Nat × Instr) := [(0, .aload_n 0), (1, .getfield 19), (4, .aload_n 0), (5, .getfield 15), (8, .if_icmp .ge 15), (11, .aload_n 0), (12, .getfield 9), (15, .aload_n 0), (16, .getfield 19), (19, .iaload), (20, .goto 4), (23, .iconst (-1)), (24, .ireturn)]
set_option maxRecDepth 20000 in
theorem oX1_here : zokC cX1_here kX1_here = true := by decide +kernel
def kX1_isDigit : List (Nat × Instr) := [(0, .iload_n 0), (1, .bipush 48), (3, .if_icmp .lt 13), (6, .iload_n 0), (7, .bipush 57), (9, .if_icmp .gt 7), (12, .iconst 1), (13, .goto 4), (16, .iconst 0), (17, .ireturn)]
set_option maxRecDepth 20000 in
theorem oX1_isDigit : zokC cX1_isDigit kX1_isDigit = true := by decide +kernel
def kX2_init : List (Nat × Instr) := [(0, .aload_n 0), (1, .invokespecial 3), (4, .aload_n 0), (5, .iload_n 1), (6, .putfield 9), (9, .aload_n 0), (10, .iload_n 2), (11, .putfield 15), (14, .aload_n 0), (15, .aload_n 3), (16, .putfield 19), (19, .aload_n 0), (20, .aload 4), (22, .putfield 23), (25, .return_)]
set_option maxRecDepth 20000 in
theorem oX2_init : zokC cX2_init kX2_init = true := by decide +kernel
def kX2_simpleFor : List (Nat × Instr) := [(0, .aload_n 0), (1, .astore_n 2), (2, .iconst 0), (3, .istore_n 3), (4, .iload_n 3), (5, .iconst 4), (6, .if_icmp .ge 43), (9, .aload_n 2), (10, .getfield 19), (13, .ifnull 36), (16, .aload_n 2), (17, .getfield 23), (20, .ifnull 29), (23, .iload_n 1), (24, .aload_n 2), (25, .getfield 15), (28, .if_icmp .ge 10), (31, .aload_n 2), (32, .getfield 19), (35, .goto 7), (38, .aload_n 2), (39, .getfield 23), (42, .astore_n 2), (43, .iinc 3 1), (46, .goto (-42)), (49, .aload_n 2), (50, .areturn)]
set_option maxRecDepth 20000 in
theorem oX2_simpleFor : zokC cX2_simpleFor kX2_simpleFor = true := by decide +kernel
def kX3_init : List (Nat × Instr) := [(0, .aload_n 0), (1, .invokespecial 1), (4, .aload_n 0), (5, .new 7), (8, .dup), (9, .invokespecial 9), (12, .putfield 10), (15, .aload_n 0), (16, .new 7), (19, .dup), (20, .invokespecial 9), (23, .putfield 16), (26, .aload_n 0), (27, .new 7), (30, .dup), (31, .invokespecial 9), (34, .putfield 19), (37, .aload_n 0), (38, .new 7), (41, .dup), (42, .invokespecial 9), (45, .putfield 22), (48, .aload_n 0), (49, .bipush 8), (51, .newarray .int), (53, .putfield 25), (56, .aload_n 0), (57, .new 29), (60, .dup), (61, .invokespecial 31), (64, .putfield 32), (67, .aload_n 0), (68, .bipush 7), (70, .newarray .int), (72, .putfield 36), (75, .return_)]
set_option maxRecDepth 20000 in
theorem oX3_init : zokC cX3_init kX3_init = true := by decide +kernel
def kX3_way : List (Nat × Instr) := [(0, .iload_n 1), (1, .iload_n 2), (2, .invokestatic 39), (5, .iload_n 3), (6, .iload 4), (8, .invokestatic 39), (11, .invokestatic 39), (14, .istore 5), (16, .iload_n 1), (17, .iload_n 2), (18, .invokestatic 45), (21, .iload_n 3), (22, .iload 4), (24, .invokestatic 45), (27, .invokestatic 45), (30, .istore 6), (32, .iload 5), (34, .ifCond .ge 10), (37, .aload_n 0), (38, .bipush (-4)), (40, .invokevirtual 48), (43, .ireturn), (44, .iload 6), (46, .bipush 99), (48, .if_icmp .gt 15), (51, .aload_n 0), (52, .getfield 10), (55, .getfield 52), (58, .bipush 6), (60, .if_icmp .lt 10), (63, .aload_n 0), (64, .bipush (-6)), (66, .invokevirtual 48), (69, .ireturn), (70, .aload_n 0), (71, .getfield 10), (74, .iload_n 1), (75, .iload_n 2), (76, .iload_n 3), (77, .iload 4), (79, .invokevirtual 56), (82, .ireturn)]
set_option maxRecDepth 20000 in
theorem oX3_way : zokC cX3_way kX3_way = true := by decide +kernel
def kX3_brings : List (Nat × Instr) := [(0, .aload_n 0), (1, .iload_n 1), (2, .invokevirtual 60), (5, .ifCond .eq 10), (8, .iload_n 2), (9, .invokestatic 64), (12, .ifCond .ne 9), (15, .aload_n 0), (16, .iconst (-1)), (17, .invokevirtual 48), (20, .ireturn), (21, .iload_n 3), (22, .iconst 0), (23, .bipush 99), (25, .invokestatic 67), (28, .istore 4), (30, .iload 4), (32, .ifCond .eq 10), (35, .aload_n 0), (36, .iload 4), (38, .invokevirtual 48), (41, .ireturn), (42, .aload_n 0), (43, .getfield 10), (46, .iload_n 1), (47, .iload_n 2), (48, .invokevirtual 71), (51, .istore 5), (53, .aload_n 0), (54, .getfield 10), (57, .getfield 74), (60, .iload_n 1), (61, .iconst 4), (62, .imul), (63, .iload_n 2), (64, .iadd), (65, .iload_n 3), (66, .iastore), (67, .iload 5), (69, .ireturn)]
set_option maxRecDepth 20000 in
theorem oX3_brings : zokC cX3_brings kX3_brings = true := by decide +kernel
def kX3_bestWay : List (Nat × Instr) := [(0, .iload_n 1), (1, .invokestatic 64), (4, .ifCond .ne 9), (7, .aload_n 0), (8, .iconst (-1)), (9, .invokevirtual 48), (12, .ireturn), (13, .aload_n 0), (14, .getfield 10), (17, .getfield 52), (20, .ifCond .ne 10), (23, .aload_n 0), (24, .bipush (-3)), (26, .invokevirtual 48), (29, .ireturn), (30, .aload_n 0), (31, .getfield 10), (34, .iload_n 1), (35, .invokevirtual 77), (38, .ireturn)]
set_option maxRecDepth 20000 in
theorem oX3_bestWay : zokC cX3_bestWay kX3_bestWay = true := by decide +kernel
def kX3_sky : List (Nat × Instr) := [(0, .iload_n 1), (1, .iconst 1), (2, .bipush 24), (4, .invokestatic 67), (7, .istore 4), (9, .iload 4), (11, .ifCond .eq 10), (14, .aload_n 0), (15, .iload 4), (17, .invokevirtual 48), (20, .ireturn), (21, .aload_n 0), (22, .getfield 10), (25, .getfield 80), (28, .istore 5), (30, .iconst 0), (31, .istore 6), (33, .iload 6), (35, .iload_n 1), (36, .if_icmp .ge 28), (39, .aload_n 0), (40, .getfield 10), (43, .getfield 83), (46, .iload 6), (48, .lload_n 2), (49, .iconst 2), (50, .iload 6), (52, .imul), (53, .lushr), (54, .l2i), (55, .iconst 3), (56, .iand), (57, .iastore), (58, .iinc 6 1), (61, .goto (-28)), (64, .aload_n 0), (65, .getfield 10), (68, .iload_n 1), (69, .putfield 80), (72, .iload 5), (74, .ireturn)]
set_option maxRecDepth 20000 in
theorem oX3_sky : zokC cX3_sky kX3_sky = true := by decide +kernel
def kX3_weather : List (Nat × Instr) := [(0, .iload_n 1), (1, .iconst 0), (2, .ldc 86), (4, .invokestatic 67), (7, .istore_n 2), (8, .iload_n 2), (9, .ifCond .eq 11), (12, .aload_n 0), (13, .iload_n 2), (14, .invokevirtual 48), (17, .goto 11), (20, .aload_n 0), (21, .getfield 10), (24, .iload_n 1), (25, .invokevirtual 87), (28, .ireturn)]
set_option maxRecDepth 20000 in
theorem oX3_weather : zokC cX3_weather kX3_weather = true := by decide +kernel
def kX3_feed : List (Nat × Instr) := [(0, .iload_n 1), (1, .iconst 1), (2, .bipush 8), (4, .invokestatic 67), (7, .istore 4), (9, .iload 4), (11, .ifCond .ne 21), (14, .aload_n 0), (15, .getfield 32), (18, .getfield 90), (21, .bipush 24), (23, .iload_n 1), (24, .isub), (25, .if_icmp .le 7), (28, .bipush (-6)), (30, .istore 4), (32, .iload 4), (34, .ifCond .eq 10), (37, .aload_n 0), (38, .iload 4), (40, .invokevirtual 48), (43, .ireturn), (44, .iconst 0), (45, .istore 5), (47, .iload 5), (49, .iload_n 1), (50, .if_icmp .ge 28), (53, .aload_n 0), (54, .getfield 32), (57, .lload_n 2), (58, .bipush 8), (60, .iload 5), (62, .imul), (63, .lushr), (64, .l2i), (65, .sipush 255), (68, .iand), (69, .invokevirtual 93), (72, .iinc 5 1), (75, .goto (-28)), (78, .aload_n 0), (79, .getfield 32), (82, .getfield 90), (85, .ireturn)]
set_option maxRecDepth 20000 in
theorem oX3_feed : zokC cX3_feed kX3_feed = true := by decide +kernel
def kX3_rule : List (Nat × Instr) := [(0, .aload_n 0), (1, .getfield 10), (4, .getfield 97), (7, .bipush 10), (9, .if_icmp .lt 10), (12, .aload_n 0), (13, .bipush (-6)), (15, .invokevirtual 48), (18, .ireturn), (19, .aload_n 0), (20, .getfield 32), (23, .invokevirtual 100), (26, .astore_n 1), (27, .aload_n 0), (28, .getfield 32), (31, .iconst 0), (32, .putfield 90), (35, .aload_n 1), (36, .ifnonnull 14), (39, .bipush (-20)), (41, .aload_n 0), (42, .getfield 32), (45, .getfield 104), (48, .isub), (49, .ireturn), (50, .aload_n 0), (51, .getfield 10), (54, .aload_n 1), (55, .invokevirtual 107), (58, .ireturn)]
set_option maxRecDepth 20000 in
theorem oX3_rule : zokC cX3_rule kX3_rule = true := by decide +kernel
def kX3_person : List (Nat × Instr) := [(0, .aload_n 0), (1, .iload_n 1), (2, .invokevirtual 60), (5, .ifCond .eq 11), (8, .aload_n 0), (9, .iload_n 2), (10, .invokevirtual 111), (13, .ifCond .ne 9), (16, .aload_n 0), (17, .iconst (-1)), (18, .invokevirtual 48), (21, .ireturn), (22, .aload_n 0), (23, .getfield 10), (26, .getfield 114), (29, .bipush 8), (31, .if_icmp .lt 10), (34, .aload_n 0), (35, .bipush (-6)), (37, .invokevirtual 48), (40, .ireturn), (41, .aload_n 0), (42, .getfield 10), (45, .iload_n 1), (46, .iload_n 2), (47, .invokevirtual 117), (50, .ireturn)]
set_option maxRecDepth 20000 in
theorem oX3_person : zokC cX3_person kX3_person = true := by decide +kernel
def kX3_sees : List (Nat × Instr) := [(0, .aload_n 0), (1, .iload_n 1), (2, .invokevirtual 120), (5, .ifCond .eq 14), (8, .iload_n 2), (9, .iconst 0), (10, .sipush 255), (13, .invokestatic 67), (16, .goto 4), (19, .iconst (-1)), (20, .istore_n 3), (21, .iload_n 3), (22, .ifCond .eq 11), (25, .aload_n 0), (26, .iload_n 3), (27, .invokevirtual 48), (30, .goto 15), (33, .aload_n 0), (34, .getfield 10), (37, .getfield 123), (40, .iload_n 1), (41, .iload_n 2), (42, .invokestatic 126), (45, .ireturn)]
set_option maxRecDepth 20000 in
theorem oX3_sees : zokC cX3_sees kX3_sees = true := by decide +kernel
def kX3_lives : List (Nat × Instr) := [(0, .aload_n 0), (1, .iload_n 1), (2, .invokevirtual 120), (5, .ifCond .eq 11), (8, .aload_n 0), (9, .iload_n 2), (10, .invokevirtual 111), (13, .ifCond .ne 9), (16, .aload_n 0), (17, .iconst (-1)), (18, .invokevirtual 48), (21, .ireturn), (22, .aload_n 0), (23, .getfield 10), (26, .getfield 130), (29, .iload_n 1), (30, .iload_n 2), (31, .invokestatic 126), (34, .ireturn)]
set_option maxRecDepth 20000 in
theorem oX3_lives : zokC cX3_lives kX3_lives = true := by decide +kernel
def kX3_plants : List (Nat × Instr) := [(0, .aload_n 0), (1, .iload_n 1), (2, .invokevirtual 120), (5, .ifCond .eq 11), (8, .aload_n 0), (9, .iload_n 2), (10, .invokevirtual 60), (13, .ifCond .ne 9), (16, .aload_n 0), (17, .iconst (-1)), (18, .invokevirtual 48), (21, .ireturn), (22, .aload_n 0), (23, .getfield 10), (26, .getfield 133), (29, .iload_n 1), (30, .iload_n 2), (31, .invokestatic 126), (34, .ireturn)]
set_option maxRecDepth 20000 in
theorem oX3_plants : zokC cX3_plants kX3_plants = true := by decide +kernel
def kX3_show : List (Nat × Instr) := [(0, .iload_n 1), (1, .iconst 0), (2, .bipush 24), (4, .invokestatic 67), (7, .istore_n 2), (8, .iload_n 2), (9, .ifCond .eq 9), (12, .aload_n 0), (13, .iload_n 2), (14, .invokevirtual 48), (17, .ireturn), (18, .aload_n 0), (19, .getfield 10), (22, .getfield 136), (25, .istore_n 3), (26, .aload_n 0), (27, .getfield 10), (30, .iload_n 1), (31, .putfield 136), (34, .iload_n 3), (35, .ireturn)]
set_option maxRecDepth 20000 in
theorem oX3_show : zokC cX3_show kX3_show = true := by decide +kernel
def kX3_of : List (Nat × Instr) := [(0, .aload_n 0), (1, .iload_n 1), (2, .invokevirtual 120), (5, .ifCond .ne 9), (8, .aload_n 0), (9, .iconst (-1)), (10, .invokevirtual 48), (13, .ireturn), (14, .iload_n 2), (15, .tableswitch 104 0 4 #[33, 43, 53, 63, 94]), (48, .aload_n 0), (49, .getfield 10), (52, .getfield 133), (55, .iload_n 1), (56, .iaload), (57, .ireturn), (58, .aload_n 0), (59, .getfield 10), (62, .getfield 130), (65, .iload_n 1), (66, .iaload), (67, .ireturn), (68, .aload_n 0), (69, .getfield 10), (72, .getfield 123), (75, .iload_n 1), (76, .iaload), (77, .ireturn), (78, .aload_n 0), (79, .getfield 10), (82, .aload_n 0), (83, .getfield 10), (86, .getfield 133), (89, .iload_n 1), (90, .iaload), (91, .aload_n 0), (92, .getfield 10), (95, .aload_n 0), (96, .getfield 10), (99, .getfield 139), (102, .invokevirtual 87), (105, .invokevirtual 71), (108, .ireturn), (109, .aload_n 0), (110, .getfield 10), (113, .getfield 142), (116, .iload_n 1), (117, .iaload), (118, .ireturn), (119, .aload_n 0), (120, .bipush (-2)), (122, .invokevirtual 48), (125, .ireturn)]
set_option maxRecDepth 20000 in
theorem oX3_of : zokC cX3_of kX3_of = true := by decide +kernel
def kX3_next : List (Nat × Instr) := [(0, .aload_n 0), (1, .iload_n 1), (2, .invokevirtual 120), (5, .ifCond .ne 9), (8, .aload_n 0), (9, .iconst (-1)), (10, .invokevirtual 48), (13, .ireturn), (14, .aload_n 0), (15, .getfield 10), (18, .invokevirtual 145), (21, .aload_n 0), (22, .getfield 10), (25, .iload_n 1), (26, .invokevirtual 148), (29, .ireturn)]
set_option maxRecDepth 20000 in
theorem oX3_next : zokC cX3_next kX3_next = true := by decide +kernel
def kX3_go : List (Nat × Instr) := [(0, .aload_n 0), (1, .iload_n 1), (2, .invokevirtual 151), (5, .istore_n 2), (6, .iload_n 2), (7, .ifCond .eq 9), (10, .aload_n 0), (11, .iload_n 2), (12, .invokevirtual 48), (15, .ireturn), (16, .aload_n 0), (17, .getfield 10), (20, .iload_n 1), (21, .invokevirtual 154), (24, .aload_n 0), (25, .getfield 10), (28, .getfield 139), (31, .ireturn)]
set_option maxRecDepth 20000 in
theorem oX3_go : zokC cX3_go kX3_go = true := by decide +kernel
def kX3_share : List (Nat × Instr) := [(0, .aload_n 0), (1, .iload_n 1), (2, .invokevirtual 60), (5, .ifCond .eq 14), (8, .aload_n 0), (9, .getfield 10), (12, .iload_n 1), (13, .invokevirtual 157), (16, .goto 8), (19, .aload_n 0), (20, .iconst (-1)), (21, .invokevirtual 48), (24, .ireturn)]
set_option maxRecDepth 20000 in
theorem oX3_share : zokC cX3_share kX3_share = true := by decide +kernel
def kX3_fares : List (Nat × Instr) := [(0, .aload_n 0), (1, .iload_n 1), (2, .invokevirtual 151), (5, .istore_n 2), (6, .iload_n 2), (7, .ifCond .eq 11), (10, .aload_n 0), (11, .iload_n 2), (12, .invokevirtual 48), (15, .goto 8), (18, .aload_n 0), (19, .iload_n 1), (20, .invokevirtual 160), (23, .ireturn)]
set_option maxRecDepth 20000 in
theorem oX3_fares : zokC cX3_fares kX3_fares = true := by decide +kernel
def kX3_wrong : List (Nat × Instr) := [(0, .aload_n 0), (1, .iload_n 1), (2, .invokevirtual 151), (5, .istore_n 2), (6, .iload_n 2), (7, .ifCond .eq 9), (10, .aload_n 0), (11, .iload_n 2), (12, .invokevirtual 48), (15, .ireturn), (16, .iconst 0), (17, .istore_n 3), (18, .aload_n 0), (19, .getfield 22), (22, .aload_n 0), (23, .getfield 10), (26, .invokevirtual 163), (29, .iconst 0), (30, .istore 4), (32, .iload 4), (34, .iload_n 1), (35, .if_icmp .ge 30), (38, .aload_n 0), (39, .getfield 22), (42, .invokevirtual 167), (45, .ifCond .eq 6), (48, .iinc 3 1), (51, .aload_n 0), (52, .getfield 22), (55, .iconst 1), (56, .invokevirtual 154), (59, .iinc 4 1), (62, .goto (-30)), (65, .iload_n 3), (66, .ireturn)]
set_option maxRecDepth 20000 in
theorem oX3_wrong : zokC cX3_wrong kX3_wrong = true := by decide +kernel
def kX3_alike : List (Nat × Instr) := [(0, .aload_n 0), (1, .iload_n 1), (2, .invokevirtual 151), (5, .istore_n 2), (6, .iload_n 2), (7, .ifCond .eq 9), (10, .aload_n 0), (11, .iload_n 2), (12, .invokevirtual 48), (15, .ireturn), (16, .aload_n 0), (17, .getfield 22), (20, .aload_n 0), (21, .getfield 10), (24, .invokevirtual 163), (27, .iconst 0), (28, .istore_n 3), (29, .iload_n 3), (30, .iload_n 1), (31, .if_icmp .gt 29), (34, .aload_n 0), (35, .getfield 22), (38, .invokevirtual 171), (41, .ifCond .eq 5), (44, .iload_n 3), (45, .ireturn), (46, .aload_n 0), (47, .getfield 22), (50, .iconst 1), (51, .invokevirtual 154), (54, .iinc 3 1), (57, .goto (-28)), (60, .bipush (-9)), (62, .ireturn)]
set_option maxRecDepth 20000 in
theorem oX3_alike : zokC cX3_alike kX3_alike = true := by decide +kernel
def kX3_gain : List (Nat × Instr) := [(0, .aload_n 0), (1, .iload_n 1), (2, .invokevirtual 120), (5, .ifCond .eq 19), (8, .aload_n 0), (9, .iload_n 2), (10, .invokevirtual 111), (13, .ifCond .eq 11), (16, .aload_n 0), (17, .iload_n 3), (18, .invokevirtual 151), (21, .goto 4), (24, .iconst (-1)), (25, .istore 4), (27, .iload 4), (29, .ifCond .eq 10), (32, .aload_n 0), (33, .iload 4), (35, .invokevirtual 174), (38, .ireturn), (39, .aload_n 0), (40, .getfield 10), (43, .getfield 130), (46, .iload_n 1), (47, .iaload), (48, .istore 5), (50, .aload_n 0), (51, .aload_n 0), (52, .getfield 10), (55, .iload_n 1), (56, .iload_n 2), (57, .iload_n 3), (58, .invokevirtual 177), (61, .aload_n 0), (62, .aload_n 0), (63, .getfield 10), (66, .iload_n 1), (67, .iload 5), (69, .iload_n 3), (70, .invokevirtual 177), (73, .isub), (74, .ireturn)]
set_option maxRecDepth 20000 in
theorem oX3_gain : zokC cX3_gain kX3_gain = true := by decide +kernel
def kX3_rest : List (Nat × Instr) := [(0, .aload_n 0), (1, .iload_n 1), (2, .invokevirtual 151), (5, .istore_n 2), (6, .iload_n 2), (7, .ifCond .eq 9), (10, .aload_n 0), (11, .iload_n 2), (12, .invokevirtual 48), (15, .ireturn), (16, .aload_n 0), (17, .aload_n 0), (18, .getfield 10), (21, .iload_n 1), (22, .invokevirtual 181), (25, .iconst 0), (26, .istore_n 3), (27, .iload_n 3), (28, .aload_n 0), (29, .getfield 10), (32, .getfield 114), (35, .if_icmp .ge 59), (38, .iconst 0), (39, .istore 4), (41, .iload 4), (43, .aload_n 0), (44, .getfield 10), (47, .getfield 97), (50, .if_icmp .ge 38), (53, .aload_n 0), (54, .aload_n 0), (55, .getfield 10), (58, .iload_n 3), (59, .iload 4), (61, .iload_n 1), (62, .invokevirtual 177), (65, .aload_n 0), (66, .getfield 25), (69, .iload_n 3), (70, .iaload), (71, .if_icmp .le 11), (74, .bipush 10), (76, .iload_n 3), (77, .imul), (78, .iload 4), (80, .iadd), (81, .ireturn), (82, .iinc 4 1), (85, .goto (-44)), (88, .iinc 3 1), (91, .goto (-64)), (94, .bipush (-9)), (96, .ireturn)]
set_option maxRecDepth 20000 in
theorem oX3_rest : zokC cX3_rest kX3_rest = true := by decide +kernel
def kX3_ifAll : List (Nat × Instr) := [(0, .aload_n 0), (1, .iload_n 1), (2, .invokevirtual 111), (5, .ifCond .eq 11), (8, .aload_n 0), (9, .iload_n 2), (10, .invokevirtual 151), (13, .goto 4), (16, .iconst (-1)), (17, .istore_n 3), (18, .iload_n 3), (19, .ifCond .eq 11), (22, .aload_n 0), (23, .iload_n 3), (24, .invokevirtual 48), (27, .goto 11), (30, .aload_n 0), (31, .iload_n 1), (32, .iload_n 1), (33, .iconst 0), (34, .iload_n 2), (35, .invokevirtual 185), (38, .ireturn)]
set_option maxRecDepth 20000 in
theorem oX3_ifAll : zokC cX3_ifAll kX3_ifAll = true := by decide +kernel
def kX3_bestRule : List (Nat × Instr) := [(0, .aload_n 0), (1, .iload_n 1), (2, .invokevirtual 151), (5, .istore_n 2), (6, .iload_n 2), (7, .ifCond .eq 9), (10, .aload_n 0), (11, .iload_n 2), (12, .invokevirtual 48), (15, .ireturn), (16, .iconst 0), (17, .istore_n 3), (18, .iconst (-1)), (19, .istore 4), (21, .iconst 0), (22, .istore 5), (24, .iload 5), (26, .aload_n 0), (27, .getfield 10), (30, .getfield 97), (33, .if_icmp .ge 35), (36, .aload_n 0), (37, .iload 5), (39, .iload 5), (41, .iconst 0), (42, .iload_n 1), (43, .invokevirtual 185), (46, .istore 6), (48, .iload 6), (50, .iload 4), (52, .if_icmp .le 10), (55, .iload 6), (57, .istore 4), (59, .iload 5), (61, .istore_n 3), (62, .iinc 5 1), (65, .goto (-41)), (68, .iload_n 3), (69, .ireturn)]
set_option maxRecDepth 20000 in
theorem oX3_bestRule : zokC cX3_bestRule kX3_bestRule = true := by decide +kernel
def kX3_part : List (Nat × Instr) := [(0, .aload_n 0), (1, .iload_n 1), (2, .invokevirtual 111), (5, .ifCond .eq 11), (8, .aload_n 0), (9, .iload_n 2), (10, .invokevirtual 111), (13, .ifCond .ne 9), (16, .aload_n 0), (17, .iconst (-1)), (18, .invokevirtual 48), (21, .ireturn), (22, .iload_n 3), (23, .ifCond .eq 8), (26, .iload_n 3), (27, .iconst 1), (28, .if_icmp .ne 12), (31, .aload_n 0), (32, .iload 4), (34, .invokevirtual 151), (37, .goto 5), (40, .bipush (-2)), (42, .istore 5), (44, .iload 5), (46, .ifCond .eq 10), (49, .aload_n 0), (50, .iload 5), (52, .invokevirtual 48), (55, .ireturn), (56, .iload_n 3), (57, .ifCond .ne 14), (60, .aload_n 0), (61, .iload_n 1), (62, .iload_n 2), (63, .iload 4), (65, .invokevirtual 188), (68, .goto 11), (71, .aload_n 0), (72, .iload_n 1), (73, .iload_n 2), (74, .iload 4), (76, .invokevirtual 191), (79, .ireturn)]
set_option maxRecDepth 20000 in
theorem oX3_part : zokC cX3_part kX3_part = true := by decide +kernel
def kX3_edge : List (Nat × Instr) := [(0, .aload_n 0), (1, .iload_n 1), (2, .invokevirtual 111), (5, .ifCond .eq 15), (8, .aload_n 0), (9, .iload_n 2), (10, .invokevirtual 111), (13, .ifCond .eq 7), (16, .iload_n 3), (17, .ifCond .ge 9), (20, .aload_n 0), (21, .iconst (-1)), (22, .invokevirtual 48), (25, .ireturn), (26, .iload_n 3), (27, .bipush 10), (29, .idiv), (30, .istore 5), (32, .iload_n 3), (33, .bipush 10), (35, .irem), (36, .istore 6), (38, .iload 5), (40, .invokestatic 64), (43, .ifCond .eq 20), (46, .iload 6), (48, .invokestatic 64), (51, .ifCond .eq 12), (54, .aload_n 0), (55, .iload 4), (57, .invokevirtual 151), (60, .goto 4), (63, .iconst (-1)), (64, .istore 7), (66, .iload 7), (68, .ifCond .eq 10), (71, .aload_n 0), (72, .iload 7), (74, .invokevirtual 48), (77, .ireturn), (78, .iconst 1), (79, .istore 8), (81, .iload 8), (83, .bipush 12), (85, .if_icmp .gt 41), (88, .aload_n 0), (89, .iload 8), (91, .iload 5), (93, .iload 6), (95, .iload_n 1), (96, .iload 4), (98, .invokevirtual 194), (101, .aload_n 0), (102, .iload 8), (104, .iload 5), (106, .iload 6), (108, .iload_n 2), (109, .iload 4), (111, .invokevirtual 194), (114, .if_icmp .le 6), (117, .iload 8), (119, .ireturn), (120, .iinc 8 1), (123, .goto (-42)), (126, .bipush (-9)), (128, .ireturn)]
set_option maxRecDepth 20000 in
theorem oX3_edge : zokC cX3_edge kX3_edge = true := by decide +kernel
def kX3_lessSeen : List (Nat × Instr) := [(0, .aload_n 0), (1, .iload_n 1), (2, .bipush 7), (4, .iload_n 2), (5, .invokevirtual 198), (8, .istore_n 3), (9, .iload_n 3), (10, .ifCond .eq 9), (13, .aload_n 0), (14, .iload_n 3), (15, .invokevirtual 174), (18, .ireturn), (19, .aload_n 0), (20, .iload_n 2), (21, .invokevirtual 160), (24, .istore 4), (26, .aload_n 0), (27, .getfield 22), (30, .aload_n 0), (31, .getfield 10), (34, .invokevirtual 163), (37, .aload_n 0), (38, .getfield 22), (41, .iload_n 1), (42, .invokevirtual 201), (45, .aload_n 0), (46, .iload_n 2), (47, .invokevirtual 204), (50, .iload 4), (52, .isub), (53, .ireturn)]
set_option maxRecDepth 20000 in
theorem oX3_lessSeen : zokC cX3_lessSeen kX3_lessSeen = true := by decide +kernel
def kX3_shown : List (Nat × Instr) := [(0, .aload_n 0), (1, .iload_n 1), (2, .bipush 24), (4, .iload_n 2), (5, .invokevirtual 198), (8, .istore_n 3), (9, .iload_n 3), (10, .ifCond .eq 9), (13, .aload_n 0), (14, .iload_n 3), (15, .invokevirtual 174), (18, .ireturn), (19, .aload_n 0), (20, .iload_n 2), (21, .invokevirtual 160), (24, .istore 4), (26, .aload_n 0), (27, .getfield 22), (30, .aload_n 0), (31, .getfield 10), (34, .invokevirtual 163), (37, .aload_n 0), (38, .getfield 22), (41, .iload_n 1), (42, .putfield 136), (45, .aload_n 0), (46, .iload_n 2), (47, .invokevirtual 204), (50, .iload 4), (52, .isub), (53, .ireturn)]
set_option maxRecDepth 20000 in
theorem oX3_shown : zokC cX3_shown kX3_shown = true := by decide +kernel
def kX3_blind : List (Nat × Instr) := [(0, .aload_n 0), (1, .iload_n 1), (2, .invokevirtual 151), (5, .istore_n 2), (6, .iload_n 2), (7, .ifCond .eq 9), (10, .aload_n 0), (11, .iload_n 2), (12, .invokevirtual 48), (15, .ireturn), (16, .iconst 0), (17, .istore_n 3), (18, .iconst (-1)), (19, .istore 4), (21, .iconst 0), (22, .istore 5), (24, .iload 5), (26, .aload_n 0), (27, .getfield 10), (30, .getfield 114), (33, .if_icmp .ge 52), (36, .aload_n 0), (37, .getfield 22), (40, .aload_n 0), (41, .getfield 10), (44, .invokevirtual 163), (47, .aload_n 0), (48, .getfield 22), (51, .iconst 1), (52, .iload 5), (54, .ishl), (55, .putfield 207), (58, .aload_n 0), (59, .iload_n 1), (60, .invokevirtual 204), (63, .istore 6), (65, .iload 6), (67, .iload 4), (69, .if_icmp .le 10), (72, .iload 6), (74, .istore 4), (76, .iload 5), (78, .istore_n 3), (79, .iinc 5 1), (82, .goto (-58)), (85, .iload_n 3), (86, .ireturn)]
set_option maxRecDepth 20000 in
theorem oX3_blind : zokC cX3_blind kX3_blind = true := by decide +kernel
def kX3_image : List (Nat × Instr) := [(0, .aload_n 0), (1, .getfield 16), (4, .aload_n 0), (5, .getfield 10), (8, .invokevirtual 210), (11, .aload_n 0), (12, .iconst 1), (13, .putfield 213), (16, .aload_n 0), (17, .getfield 10), (20, .getfield 139), (23, .ireturn)]
set_option maxRecDepth 20000 in
theorem oX3_image : zokC cX3_image kX3_image = true := by decide +kernel
def kX3_restore : List (Nat × Instr) := [(0, .aload_n 0), (1, .getfield 213), (4, .ifCond .ne 10), (7, .aload_n 0), (8, .bipush (-3)), (10, .invokevirtual 48), (13, .ireturn), (14, .aload_n 0), (15, .getfield 10), (18, .aload_n 0), (19, .getfield 16), (22, .invokevirtual 210), (25, .aload_n 0), (26, .getfield 10), (29, .getfield 139), (32, .ireturn)]
set_option maxRecDepth 20000 in
theorem oX3_restore : zokC cX3_restore kX3_restore = true := by decide +kernel
def kX3_count : List (Nat × Instr) := [(0, .iload_n 1), (1, .tableswitch 111 0 7 #[47, 55, 63, 71, 79, 87, 95, 103]), (48, .aload_n 0), (49, .getfield 10), (52, .getfield 52), (55, .ireturn), (56, .aload_n 0), (57, .getfield 10), (60, .getfield 114), (63, .ireturn), (64, .aload_n 0), (65, .getfield 10), (68, .getfield 97), (71, .ireturn), (72, .aload_n 0), (73, .getfield 10), (76, .getfield 139), (79, .ireturn), (80, .aload_n 0), (81, .getfield 10), (84, .getfield 80), (87, .ireturn), (88, .aload_n 0), (89, .getfield 10), (92, .getfield 136), (95, .ireturn), (96, .aload_n 0), (97, .getfield 10), (100, .invokevirtual 217), (103, .ireturn), (104, .aload_n 0), (105, .getfield 32), (108, .getfield 90), (111, .ireturn), (112, .iload_n 1), (113, .bipush 11), (115, .if_icmp .lt 21), (118, .iload_n 1), (119, .bipush 16), (121, .if_icmp .gt 15), (124, .aload_n 0), (125, .getfield 36), (128, .iload_n 1), (129, .bipush 10), (131, .isub), (132, .iaload), (133, .goto 5), (136, .bipush (-9)), (138, .ireturn)]
set_option maxRecDepth 20000 in
theorem oX3_count : zokC cX3_count kX3_count = true := by decide +kernel
def kX3_isWay : List (Nat × Instr) := [(0, .iload_n 1), (1, .ifCond .lt 18), (4, .iload_n 1), (5, .aload_n 0), (6, .getfield 10), (9, .getfield 52), (12, .if_icmp .ge 7), (15, .iconst 1), (16, .goto 4), (19, .iconst 0), (20, .ireturn)]
set_option maxRecDepth 20000 in
theorem oX3_isWay : zokC cX3_isWay kX3_isWay = true := by decide +kernel
def kX3_isWeather : List (Nat × Instr) := [(0, .iload_n 0), (1, .ifCond .lt 12), (4, .iload_n 0), (5, .iconst 4), (6, .if_icmp .ge 7), (9, .iconst 1), (10, .goto 4), (13, .iconst 0), (14, .ireturn)]
set_option maxRecDepth 20000 in
theorem oX3_isWeather : zokC cX3_isWeather kX3_isWeather = true := by decide +kernel
def kX3_isPerson : List (Nat × Instr) := [(0, .iload_n 1), (1, .ifCond .lt 18), (4, .iload_n 1), (5, .aload_n 0), (6, .getfield 10), (9, .getfield 114), (12, .if_icmp .ge 7), (15, .iconst 1), (16, .goto 4), (19, .iconst 0), (20, .ireturn)]
set_option maxRecDepth 20000 in
theorem oX3_isPerson : zokC cX3_isPerson kX3_isPerson = true := by decide +kernel
def kX3_isRule : List (Nat × Instr) := [(0, .iload_n 1), (1, .ifCond .lt 18), (4, .iload_n 1), (5, .aload_n 0), (6, .getfield 10), (9, .getfield 97), (12, .if_icmp .ge 7), (15, .iconst 1), (16, .goto 4), (19, .iconst 0), (20, .ireturn)]
set_option maxRecDepth 20000 in
theorem oX3_isRule : zokC cX3_isRule kX3_isRule = true := by decide +kernel
def kX3_whyOutside : List (Nat × Instr) := [(0, .iload_n 0), (1, .iload_n 1), (2, .if_icmp .ge 6), (5, .bipush (-4)), (7, .ireturn), (8, .iload_n 0), (9, .iload_n 2), (10, .if_icmp .le 8), (13, .bipush (-6)), (15, .goto 4), (18, .iconst 0), (19, .ireturn)]
set_option maxRecDepth 20000 in
theorem oX3_whyOutside : zokC cX3_whyOutside kX3_whyOutside = true := by decide +kernel
def kX3_whyNoRun : List (Nat × Instr) := [(0, .iload_n 1), (1, .iconst 1), (2, .bipush 60), (4, .invokestatic 67), (7, .istore_n 2), (8, .iload_n 2), (9, .ifCond .ne 18), (12, .aload_n 0), (13, .getfield 10), (16, .getfield 114), (19, .ifCond .ne 8), (22, .bipush (-3)), (24, .goto 4), (27, .iload_n 2), (28, .ireturn)]
set_option maxRecDepth 20000 in
theorem oX3_whyNoRun : zokC cX3_whyNoRun kX3_whyNoRun = true := by decide +kernel
def kX3_whyNoRunWith : List (Nat × Instr) := [(0, .iload_n 1), (1, .ifCond .ge 6), (4, .bipush (-4)), (6, .ireturn), (7, .aload_n 0), (8, .iload_n 3), (9, .invokevirtual 151), (12, .istore 4), (14, .iload 4), (16, .bipush (-4)), (18, .if_icmp .eq 13), (21, .iload_n 1), (22, .iload_n 2), (23, .if_icmp .le 8), (26, .bipush (-6)), (28, .goto 5), (31, .iload 4), (33, .ireturn)]
set_option maxRecDepth 20000 in
theorem oX3_whyNoRunWith : zokC cX3_whyNoRunWith kX3_whyNoRunWith = true := by decide +kernel
def kX3_refuse : List (Nat × Instr) := [(0, .iload_n 1), (1, .ineg), (2, .istore_n 2), (3, .iload_n 2), (4, .ifCond .le 22), (7, .iload_n 2), (8, .aload_n 0), (9, .getfield 36), (12, .arraylength), (13, .if_icmp .ge 13), (16, .aload_n 0), (17, .getfield 36), (20, .iload_n 2), (21, .dup2), (22, .iaload), (23, .iconst 1), (24, .iadd), (25, .iastore), (26, .iload_n 1), (27, .ireturn)]
set_option maxRecDepth 20000 in
theorem oX3_refuse : zokC cX3_refuse kX3_refuse = true := by decide +kernel
def kX3_refuseFar : List (Nat × Instr) := [(0, .ldc 221), (2, .aload_n 0), (3, .iload_n 1), (4, .invokevirtual 48), (7, .iadd), (8, .ireturn)]
set_option maxRecDepth 20000 in
theorem oX3_refuseFar : zokC cX3_refuseFar kX3_refuseFar = true := by decide +kernel
def kX3_exchange : List (Nat × Instr) := [(0, .aload_n 0), (1, .iload_n 1), (2, .iaload), (3, .istore_n 3), (4, .aload_n 0), (5, .iload_n 1), (6, .iload_n 2), (7, .iastore), (8, .iload_n 3), (9, .ireturn)]
set_option maxRecDepth 20000 in
theorem oX3_exchange : zokC cX3_exchange kX3_exchange = true := by decide +kernel
def kX3_faresNow : List (Nat × Instr) := [(0, .aload_n 0), (1, .getfield 22), (4, .aload_n 0), (5, .getfield 10), (8, .invokevirtual 163), (11, .aload_n 0), (12, .iload_n 1), (13, .invokevirtual 204), (16, .ireturn)]
set_option maxRecDepth 20000 in
theorem oX3_faresNow : zokC cX3_faresNow kX3_faresNow = true := by decide +kernel
def kX3_faresInMind : List (Nat × Instr) := [(0, .aload_n 0), (1, .getfield 22), (4, .iload_n 1), (5, .invokevirtual 154), (8, .aload_n 0), (9, .getfield 22), (12, .invokevirtual 217), (15, .ireturn)]
set_option maxRecDepth 20000 in
theorem oX3_faresInMind : zokC cX3_faresInMind kX3_faresInMind = true := by decide +kernel
def kX3_faresInParts : List (Nat × Instr) := [(0, .aload_n 0), (1, .getfield 22), (4, .aload_n 0), (5, .getfield 10), (8, .invokevirtual 163), (11, .aload_n 0), (12, .getfield 22), (15, .iload_n 1), (16, .iload_n 2), (17, .iload_n 3), (18, .invokevirtual 222), (21, .aload_n 0), (22, .iload 4), (24, .invokevirtual 204), (27, .ireturn)]
set_option maxRecDepth 20000 in
theorem oX3_faresInParts : zokC cX3_faresInParts kX3_faresInParts = true := by decide +kernel
def kX3_faresUnder : List (Nat × Instr) := [(0, .aload_n 0), (1, .getfield 22), (4, .aload_n 0), (5, .getfield 10), (8, .invokevirtual 163), (11, .aload_n 0), (12, .getfield 22), (15, .iload_n 1), (16, .iload_n 2), (17, .iload_n 3), (18, .invokevirtual 226), (21, .aload_n 0), (22, .getfield 22), (25, .iload 4), (27, .iload 4), (29, .iconst 0), (30, .invokevirtual 222), (33, .aload_n 0), (34, .iload 5), (36, .invokevirtual 204), (39, .ireturn)]
set_option maxRecDepth 20000 in
theorem oX3_faresUnder : zokC cX3_faresUnder kX3_faresUnder = true := by decide +kernel
def kX3_bestPart : List (Nat × Instr) := [(0, .iconst 0), (1, .istore 4), (3, .iconst (-1)), (4, .istore 5), (6, .iconst 0), (7, .istore 6), (9, .iload 6), (11, .aload_n 0), (12, .getfield 10), (15, .getfield 114), (18, .if_icmp .gt 35), (21, .aload_n 0), (22, .iload_n 1), (23, .iload_n 2), (24, .iload 6), (26, .iload_n 3), (27, .invokevirtual 185), (30, .istore 7), (32, .iload 7), (34, .iload 5), (36, .if_icmp .le 11), (39, .iload 7), (41, .istore 5), (43, .iload 6), (45, .istore 4), (47, .iinc 6 1), (50, .goto (-41)), (53, .iload 4), (55, .ireturn)]
set_option maxRecDepth 20000 in
theorem oX3_bestPart : zokC cX3_bestPart kX3_bestPart = true := by decide +kernel
def kX3_partAtRest : List (Nat × Instr) := [(0, .iconst 0), (1, .istore 4), (3, .iload 4), (5, .aload_n 0), (6, .getfield 10), (9, .getfield 114), (12, .if_icmp .gt 46), (15, .aload_n 0), (16, .getfield 19), (19, .aload_n 0), (20, .getfield 10), (23, .invokevirtual 163), (26, .aload_n 0), (27, .getfield 19), (30, .iload_n 1), (31, .iload_n 2), (32, .iload 4), (34, .invokevirtual 222), (37, .aload_n 0), (38, .iload_n 1), (39, .iload_n 2), (40, .iload 4), (42, .iload_n 3), (43, .invokevirtual 229), (46, .ifCond .eq 6), (49, .iload 4), (51, .ireturn), (52, .iinc 4 1), (55, .goto (-52)), (58, .bipush (-9)), (60, .ireturn)]
set_option maxRecDepth 20000 in
theorem oX3_partAtRest : zokC cX3_partAtRest kX3_partAtRest = true := by decide +kernel
def kX3_nobodyGains : List (Nat × Instr) := [(0, .aload_n 0), (1, .aload_n 0), (2, .getfield 19), (5, .iload 4), (7, .invokevirtual 181), (10, .iconst 0), (11, .istore 5), (13, .iload 5), (15, .aload_n 0), (16, .getfield 19), (19, .getfield 114), (22, .if_icmp .ge 44), (25, .aload_n 0), (26, .aload_n 0), (27, .getfield 19), (30, .iload 5), (32, .iload 5), (34, .iload_n 3), (35, .if_icmp .ge 7), (38, .iload_n 2), (39, .goto 4), (42, .iload_n 1), (43, .iload 4), (45, .invokevirtual 177), (48, .aload_n 0), (49, .getfield 25), (52, .iload 5), (54, .iaload), (55, .if_icmp .le 5), (58, .iconst 0), (59, .ireturn), (60, .iinc 5 1), (63, .goto (-50)), (66, .iconst 1), (67, .ireturn)]
set_option maxRecDepth 20000 in
theorem oX3_nobodyGains : zokC cX3_nobodyGains kX3_nobodyGains = true := by decide +kernel
def kX3_learnOwn : List (Nat × Instr) := [(0, .aload_n 0), (1, .getfield 22), (4, .aload_n 1), (5, .invokevirtual 163), (8, .aload_n 0), (9, .getfield 22), (12, .iload_n 2), (13, .invokevirtual 154), (16, .aload_n 0), (17, .getfield 22), (20, .getfield 142), (23, .iconst 0), (24, .aload_n 0), (25, .getfield 25), (28, .iconst 0), (29, .bipush 8), (31, .invokestatic 233), (34, .return_)]
set_option maxRecDepth 20000 in
theorem oX3_learnOwn : zokC cX3_learnOwn kX3_learnOwn = true := by decide +kernel
def kX3_broughtBy : List (Nat × Instr) := [(0, .aload_n 0), (1, .getfield 22), (4, .aload_n 1), (5, .invokevirtual 163), (8, .aload_n 0), (9, .getfield 22), (12, .getfield 130), (15, .iload_n 2), (16, .iload_n 3), (17, .iastore), (18, .aload_n 0), (19, .getfield 22), (22, .iload 4), (24, .invokevirtual 154), (27, .aload_n 0), (28, .getfield 22), (31, .getfield 142), (34, .iload_n 2), (35, .iaload), (36, .ireturn)]
set_option maxRecDepth 20000 in
theorem oX3_broughtBy : zokC cX3_broughtBy kX3_broughtBy = true := by decide +kernel
def kX4_init : List (Nat × Instr) := [(0, .aload_n 0), (1, .invokespecial 1), (4, .aload_n 0), (5, .bipush 24), (7, .newarray .int), (9, .putfield 7), (12, .aload_n 0), (13, .bipush 24), (15, .newarray .int), (17, .putfield 13), (20, .aload_n 0), (21, .iconst 1), (22, .putfield 16), (25, .aload_n 0), (26, .bipush 8), (28, .newarray .int), (30, .putfield 20), (33, .aload_n 0), (34, .bipush 8), (36, .newarray .int), (38, .putfield 23), (41, .aload_n 0), (42, .bipush 8), (44, .newarray .int), (46, .putfield 26), (49, .aload_n 0), (50, .bipush 8), (52, .newarray .int), (54, .putfield 29), (57, .aload_n 0), (58, .bipush 10), (60, .newarray .int), (62, .putfield 32), (65, .aload_n 0), (66, .sipush 240), (69, .newarray .int), (71, .putfield 35), (74, .aload_n 0), (75, .sipush 240), (78, .newarray .int), (80, .putfield 38), (83, .aload_n 0), (84, .sipush 240), (87, .newarray .int), (89, .putfield 41), (92, .aload_n 0), (93, .sipush 240), (96, .newarray .int), (98, .putfield 44), (101, .aload_n 0), (102, .bipush 24), (104, .newarray .int), (106, .putfield 47), (109, .aload_n 0), (110, .bipush 7), (112, .newarray .int), (114, .putfield 50), (117, .aload_n 0), (118, .iconst 5), (119, .newarray .int), (121, .putfield 53), (124, .aload_n 0), (125, .iconst 5), (126, .newarray .boolean), (128, .putfield 56), (131, .aload_n 0), (132, .bipush 8), (134, .newarray .int), (136, .putfield 60), (139, .aload_n 0), (140, .bipush 8), (142, .newarray .int), (144, .putfield 63), (147, .aload_n 0), (148, .bipush 8), (150, .newarray .int), (152, .putfield 66), (155, .aload_n 0), (156, .bipush 8), (158, .newarray .int), (160, .putfield 69), (163, .aload_n 0), (164, .bipush 8), (166, .newarray .int), (168, .putfield 72), (171, .aload_n 0), (172, .sipush 1100), (175, .newarray .int), (177, .putfield 75), (180, .aload_n 0), (181, .iconst 0), (182, .putfield 78), (185, .return_)]
set_option maxRecDepth 20000 in
theorem oX4_init : zokC cX4_init kX4_init = true := by decide +kernel
def kX4_in : List (Nat × Instr) := [(0, .lload_n 0), (1, .lload_n 2), (2, .lcmp), (3, .ifCond .lt 14), (6, .lload_n 0), (7, .lload 4), (9, .lcmp), (10, .ifCond .gt 7), (13, .iconst 1), (14, .goto 4), (17, .iconst 0), (18, .ireturn)]
set_option maxRecDepth 20000 in
theorem oX4_in : zokC cX4_in kX4_in = true := by decide +kernel
def kX4_refuse : List (Nat × Instr) := [(0, .aload_n 0), (1, .getfield 50), (4, .iload_n 1), (5, .ineg), (6, .dup2), (7, .iaload), (8, .iconst 1), (9, .iadd), (10, .iastore), (11, .iload_n 1), (12, .ireturn)]
set_option maxRecDepth 20000 in
theorem oX4_refuse : zokC cX4_refuse kX4_refuse = true := by decide +kernel
def kX4_isWay : List (Nat × Instr) := [(0, .iload_n 1), (1, .i2l), (2, .lconst 0), (3, .aload_n 0), (4, .getfield 81), (7, .iconst 1), (8, .isub), (9, .i2l), (10, .invokestatic 84), (13, .ireturn)]
set_option maxRecDepth 20000 in
theorem oX4_isWay : zokC cX4_isWay kX4_isWay = true := by decide +kernel
def kX4_isPerson : List (Nat × Instr) := [(0, .iload_n 1), (1, .i2l), (2, .lconst 0), (3, .aload_n 0), (4, .getfield 88), (7, .iconst 1), (8, .isub), (9, .i2l), (10, .invokestatic 84), (13, .ireturn)]
set_option maxRecDepth 20000 in
theorem oX4_isPerson : zokC cX4_isPerson kX4_isPerson = true := by decide +kernel
def kX4_isRule : List (Nat × Instr) := [(0, .iload_n 1), (1, .i2l), (2, .lconst 0), (3, .aload_n 0), (4, .getfield 91), (7, .iconst 1), (8, .isub), (9, .i2l), (10, .invokestatic 84), (13, .ireturn)]
set_option maxRecDepth 20000 in
theorem oX4_isRule : zokC cX4_isRule kX4_isRule = true := by decide +kernel
def kX4_isWeather : List (Nat × Instr) := [(0, .iload_n 0), (1, .i2l), (2, .lconst 0), (3, .ldc2_w 94), (6, .invokestatic 84), (9, .ireturn)]
set_option maxRecDepth 20000 in
theorem oX4_isWeather : zokC cX4_isWeather kX4_isWeather = true := by decide +kernel
def kX4_way : List (Nat × Instr) := [(0, .iload_n 1), (1, .ifCond .lt 16), (4, .iload_n 2), (5, .ifCond .lt 12), (8, .iload_n 3), (9, .ifCond .lt 8), (12, .iload 4), (14, .ifCond .ge 10), (17, .aload_n 0), (18, .bipush (-4)), (20, .invokevirtual 96), (23, .ireturn), (24, .iload_n 1), (25, .bipush 99), (27, .if_icmp .gt 31), (30, .iload_n 2), (31, .bipush 99), (33, .if_icmp .gt 25), (36, .iload_n 3), (37, .bipush 99), (39, .if_icmp .gt 19), (42, .iload 4), (44, .bipush 99), (46, .if_icmp .gt 12), (49, .aload_n 0), (50, .getfield 81), (53, .bipush 6), (55, .if_icmp .ne 10), (58, .aload_n 0), (59, .bipush (-6)), (61, .invokevirtual 96), (64, .ireturn), (65, .aload_n 0), (66, .getfield 7), (69, .iconst 4), (70, .aload_n 0), (71, .getfield 81), (74, .imul), (75, .iload_n 1), (76, .iastore), (77, .aload_n 0), (78, .getfield 7), (81, .iconst 4), (82, .aload_n 0), (83, .getfield 81), (86, .imul), (87, .iconst 1), (88, .iadd), (89, .iload_n 2), (90, .iastore), (91, .aload_n 0), (92, .getfield 7), (95, .iconst 4), (96, .aload_n 0), (97, .getfield 81), (100, .imul), (101, .iconst 2), (102, .iadd), (103, .iload_n 3), (104, .iastore), (105, .aload_n 0), (106, .getfield 7), (109, .iconst 4), (110, .aload_n 0), (111, .getfield 81), (114, .imul), (115, .iconst 3), (116, .iadd), (117, .iload 4), (119, .iastore), (120, .aload_n 0), (121, .dup), (122, .getfield 81), (125, .iconst 1), (126, .iadd), (127, .putfield 81), (130, .aload_n 0), (131, .getfield 81), (134, .iconst 1), (135, .isub), (136, .ireturn)]
set_option maxRecDepth 20000 in
theorem oX4_way : zokC cX4_way kX4_way = true := by decide +kernel
def kX4_brings : List (Nat × Instr) := [(0, .aload_n 0), (1, .iload_n 1), (2, .invokevirtual 100), (5, .ifCond .eq 10), (8, .iload_n 2), (9, .invokestatic 104), (12, .ifCond .ne 9), (15, .aload_n 0), (16, .iconst (-1)), (17, .invokevirtual 96), (20, .ireturn), (21, .iload_n 3), (22, .ifCond .ge 10), (25, .aload_n 0), (26, .bipush (-4)), (28, .invokevirtual 96), (31, .ireturn), (32, .iload_n 3), (33, .bipush 99), (35, .if_icmp .le 10), (38, .aload_n 0), (39, .bipush (-6)), (41, .invokevirtual 96), (44, .ireturn), (45, .aload_n 0), (46, .getfield 7), (49, .iconst 4), (50, .iload_n 1), (51, .imul), (52, .iload_n 2), (53, .iadd), (54, .iaload), (55, .istore 4), (57, .aload_n 0), (58, .getfield 7), (61, .iconst 4), (62, .iload_n 1), (63, .imul), (64, .iload_n 2), (65, .iadd), (66, .iload_n 3), (67, .iastore), (68, .iload 4), (70, .ireturn)]
set_option maxRecDepth 20000 in
theorem oX4_brings : zokC cX4_brings kX4_brings = true := by decide +kernel
def kX4_bestIn : List (Nat × Instr) := [(0, .iconst 0), (1, .istore_n 2), (2, .iconst 1), (3, .istore_n 3), (4, .iload_n 3), (5, .aload_n 0), (6, .getfield 81), (9, .if_icmp .ge 38), (12, .aload_n 0), (13, .getfield 7), (16, .iconst 4), (17, .iload_n 3), (18, .imul), (19, .iload_n 1), (20, .iadd), (21, .iaload), (22, .aload_n 0), (23, .getfield 7), (26, .iconst 4), (27, .iload_n 2), (28, .imul), (29, .iload_n 1), (30, .iadd), (31, .iaload), (32, .if_icmp .le 7), (35, .iload_n 3), (36, .goto 4), (39, .iload_n 2), (40, .istore_n 2), (41, .iinc 3 1), (44, .goto (-40)), (47, .iload_n 2), (48, .ireturn)]
set_option maxRecDepth 20000 in
theorem oX4_bestIn : zokC cX4_bestIn kX4_bestIn = true := by decide +kernel
def kX4_bestWay : List (Nat × Instr) := [(0, .iload_n 1), (1, .invokestatic 104), (4, .ifCond .ne 11), (7, .aload_n 0), (8, .iconst (-1)), (9, .invokevirtual 96), (12, .goto 24), (15, .aload_n 0), (16, .getfield 81), (19, .ifCond .ne 12), (22, .aload_n 0), (23, .bipush (-3)), (25, .invokevirtual 96), (28, .goto 8), (31, .aload_n 0), (32, .iload_n 1), (33, .invokevirtual 107), (36, .ireturn)]
set_option maxRecDepth 20000 in
theorem oX4_bestWay : zokC cX4_bestWay kX4_bestWay = true := by decide +kernel
def kX4_sky : List (Nat × Instr) := [(0, .iload_n 1), (1, .iconst 1), (2, .if_icmp .ge 10), (5, .aload_n 0), (6, .bipush (-4)), (8, .invokevirtual 96), (11, .ireturn), (12, .iload_n 1), (13, .bipush 24), (15, .if_icmp .le 10), (18, .aload_n 0), (19, .bipush (-6)), (21, .invokevirtual 96), (24, .ireturn), (25, .aload_n 0), (26, .getfield 16), (29, .istore 4), (31, .aload_n 0), (32, .iload_n 1), (33, .putfield 16), (36, .iconst 0), (37, .istore 5), (39, .iload 5), (41, .iload_n 1), (42, .if_icmp .ge 27), (45, .aload_n 0), (46, .getfield 13), (49, .iload 5), (51, .lload_n 2), (52, .iconst 2), (53, .iload 5), (55, .imul), (56, .lshr), (57, .ldc2_w 94), (60, .land), (61, .l2i), (62, .iastore), (63, .iinc 5 1), (66, .goto (-27)), (69, .iload 4), (71, .ireturn)]
set_option maxRecDepth 20000 in
theorem oX4_sky : zokC cX4_sky kX4_sky = true := by decide +kernel
def kX4_weather : List (Nat × Instr) := [(0, .iload_n 1), (1, .ifCond .ge 12), (4, .aload_n 0), (5, .bipush (-4)), (7, .invokevirtual 96), (10, .goto 29), (13, .iload_n 1), (14, .ldc 110), (16, .if_icmp .le 12), (19, .aload_n 0), (20, .bipush (-6)), (22, .invokevirtual 96), (25, .goto 14), (28, .aload_n 0), (29, .getfield 13), (32, .iload_n 1), (33, .aload_n 0), (34, .getfield 16), (37, .irem), (38, .iaload), (39, .ireturn)]
set_option maxRecDepth 20000 in
theorem oX4_weather : zokC cX4_weather kX4_weather = true := by decide +kernel
def kX4_feed : List (Nat × Instr) := [(0, .iload_n 1), (1, .iconst 1), (2, .if_icmp .ge 10), (5, .aload_n 0), (6, .bipush (-4)), (8, .invokevirtual 96), (11, .ireturn), (12, .iload_n 1), (13, .bipush 8), (15, .if_icmp .gt 14), (18, .aload_n 0), (19, .getfield 78), (22, .iload_n 1), (23, .iadd), (24, .bipush 24), (26, .if_icmp .le 10), (29, .aload_n 0), (30, .bipush (-6)), (32, .invokevirtual 96), (35, .ireturn), (36, .iconst 0), (37, .istore 4), (39, .iload 4), (41, .iload_n 1), (42, .if_icmp .ge 40), (45, .aload_n 0), (46, .getfield 47), (49, .aload_n 0), (50, .getfield 78), (53, .lload_n 2), (54, .bipush 8), (56, .iload 4), (58, .imul), (59, .lshr), (60, .ldc2_w 111), (63, .land), (64, .l2i), (65, .iastore), (66, .aload_n 0), (67, .dup), (68, .getfield 78), (71, .iconst 1), (72, .iadd), (73, .putfield 78), (76, .iinc 4 1), (79, .goto (-40)), (82, .aload_n 0), (83, .getfield 78), (86, .ireturn)]
set_option maxRecDepth 20000 in
theorem oX4_feed : zokC cX4_feed kX4_feed = true := by decide +kernel
def kX4_here : List (Nat × Instr) := [(0, .aload_n 0), (1, .getfield 113), (4, .aload_n 0), (5, .getfield 116), (8, .if_icmp .lt 7), (11, .iconst (-1)), (12, .goto 12), (15, .aload_n 0), (16, .getfield 47), (19, .aload_n 0), (20, .getfield 113), (23, .iaload), (24, .ireturn)]
set_option maxRecDepth 20000 in
theorem oX4_here : zokC cX4_here kX4_here = true := by decide +kernel
def kX4_take : List (Nat × Instr) := [(0, .aload_n 0), (1, .aload_n 0), (2, .getfield 119), (5, .ifCond .ne 11), (8, .aload_n 0), (9, .invokevirtual 123), (12, .iload_n 1), (13, .if_icmp .eq 7), (16, .iconst 1), (17, .goto 4), (20, .iconst 0), (21, .putfield 119), (24, .aload_n 0), (25, .dup), (26, .getfield 113), (29, .aload_n 0), (30, .getfield 119), (33, .ifCond .eq 7), (36, .iconst 0), (37, .goto 4), (40, .iconst 1), (41, .iadd), (42, .putfield 113), (45, .return_)]
set_option maxRecDepth 20000 in
theorem oX4_take : zokC cX4_take kX4_take = true := by decide +kernel
def kX4_readNumber : List (Nat × Instr) := [(0, .aload_n 0), (1, .aload_n 0), (2, .getfield 119), (5, .ifCond .ne 20), (8, .aload_n 0), (9, .invokevirtual 123), (12, .i2l), (13, .ldc2_w 127), (16, .ldc2_w 129), (19, .invokestatic 84), (22, .ifCond .ne 7), (25, .iconst 1), (26, .goto 4), (29, .iconst 0), (30, .putfield 119), (33, .aload_n 0), (34, .getfield 119), (37, .ifCond .eq 5), (40, .iconst 0), (41, .ireturn), (42, .aload_n 0), (43, .invokevirtual 123), (46, .bipush 48), (48, .isub), (49, .istore_n 1), (50, .aload_n 0), (51, .dup), (52, .getfield 113), (55, .iconst 1), (56, .iadd), (57, .putfield 113), (60, .aload_n 0), (61, .invokevirtual 123), (64, .i2l), (65, .ldc2_w 131), (68, .ldc2_w 129), (71, .invokestatic 84), (74, .ifCond .eq 26), (77, .bipush 10), (79, .iload_n 1), (80, .imul), (81, .aload_n 0), (82, .invokevirtual 123), (85, .iadd), (86, .bipush 48), (88, .isub), (89, .istore_n 1), (90, .aload_n 0), (91, .dup), (92, .getfield 113), (95, .iconst 1), (96, .iadd), (97, .putfield 113), (100, .iload_n 1), (101, .ireturn)]
set_option maxRecDepth 20000 in
theorem oX4_readNumber : zokC cX4_readNumber kX4_readNumber = true := by decide +kernel
def kX4_newKnot : List (Nat × Instr) := [(0, .aload_n 0), (1, .getfield 35), (4, .iload_n 1), (5, .aload_n 0), (6, .getfield 133), (9, .iadd), (10, .iload_n 2), (11, .iastore), (12, .aload_n 0), (13, .getfield 38), (16, .iload_n 1), (17, .aload_n 0), (18, .getfield 133), (21, .iadd), (22, .iload_n 3), (23, .iastore), (24, .aload_n 0), (25, .dup), (26, .getfield 133), (29, .iconst 1), (30, .iadd), (31, .putfield 133), (34, .iload_n 1), (35, .aload_n 0), (36, .getfield 133), (39, .iadd), (40, .iconst 1), (41, .isub), (42, .ireturn)]
set_option maxRecDepth 20000 in
theorem oX4_newKnot : zokC cX4_newKnot kX4_newKnot = true := by decide +kernel
def kX4_readOne : List (Nat × Instr) := [(0, .aload_n 0), (1, .invokevirtual 123), (4, .istore_n 2), (5, .iload_n 2), (6, .bipush 115), (8, .if_icmp .eq 21), (11, .iload_n 2), (12, .bipush 98), (14, .if_icmp .eq 15), (17, .iload_n 2), (18, .bipush 109), (20, .if_icmp .eq 9), (23, .iload_n 2), (24, .bipush 110), (26, .if_icmp .ne 21), (29, .aload_n 0), (30, .dup), (31, .getfield 113), (34, .iconst 1), (35, .iadd), (36, .putfield 113), (39, .aload_n 0), (40, .iload_n 1), (41, .iload_n 2), (42, .iconst 0), (43, .invokevirtual 136), (46, .ireturn), (47, .iload_n 2), (48, .bipush 116), (50, .if_icmp .ne 37), (53, .aload_n 0), (54, .dup), (55, .getfield 113), (58, .iconst 1), (59, .iadd), (60, .putfield 113), (63, .aload_n 0), (64, .invokevirtual 140), (67, .istore_n 3), (68, .aload_n 0), (69, .getfield 119), (72, .ifCond .eq 7), (75, .iconst 0), (76, .goto 10), (79, .aload_n 0), (80, .iload_n 1), (81, .iload_n 2), (82, .iload_n 3), (83, .invokevirtual 136), (86, .ireturn), (87, .aload_n 0), (88, .iload_n 2), (89, .bipush 40), (91, .if_icmp .ne 11), (94, .aload_n 0), (95, .getfield 143), (98, .iconst 4), (99, .if_icmp .ne 7), (102, .iconst 1), (103, .goto 4), (106, .iconst 0), (107, .putfield 119), (110, .aload_n 0), (111, .getfield 119), (114, .ifCond .ne 71), (117, .aload_n 0), (118, .dup), (119, .getfield 113), (122, .iconst 1), (123, .iadd), (124, .putfield 113), (127, .aload_n 0), (128, .invokevirtual 140), (131, .istore_n 3), (132, .aload_n 0), (133, .bipush 63), (135, .invokevirtual 146), (138, .aload_n 0), (139, .getfield 53), (142, .aload_n 0), (143, .getfield 143), (146, .aload_n 0), (147, .getfield 119), (150, .ifCond .eq 7), (153, .iconst 0), (154, .goto 10), (157, .aload_n 0), (158, .iload_n 1), (159, .iload_n 2), (160, .iload_n 3), (161, .invokevirtual 136), (164, .iastore), (165, .aload_n 0), (166, .getfield 56), (169, .aload_n 0), (170, .getfield 143), (173, .iconst 0), (174, .bastore), (175, .aload_n 0), (176, .dup), (177, .getfield 143), (180, .iconst 1), (181, .iadd), (182, .putfield 143), (185, .iconst (-1)), (186, .ireturn)]
set_option maxRecDepth 20000 in
theorem oX4_readOne : zokC cX4_readOne kX4_readOne = true := by decide +kernel
def kX4_close : List (Nat × Instr) := [(0, .iload_n 1), (1, .istore_n 2), (2, .aload_n 0), (3, .getfield 143), (6, .ifCond .le 70), (9, .aload_n 0), (10, .getfield 56), (13, .aload_n 0), (14, .getfield 143), (17, .iconst 1), (18, .isub), (19, .baload), (20, .ifCond .eq 56), (23, .aload_n 0), (24, .getfield 119), (27, .ifCond .ne 49), (30, .aload_n 0), (31, .getfield 44), (34, .aload_n 0), (35, .getfield 53), (38, .aload_n 0), (39, .getfield 143), (42, .iconst 1), (43, .isub), (44, .iaload), (45, .iload_n 2), (46, .iastore), (47, .aload_n 0), (48, .bipush 41), (50, .invokevirtual 146), (53, .aload_n 0), (54, .dup), (55, .getfield 143), (58, .iconst 1), (59, .isub), (60, .putfield 143), (63, .aload_n 0), (64, .getfield 53), (67, .aload_n 0), (68, .getfield 143), (71, .iaload), (72, .istore_n 2), (73, .goto (-71)), (76, .aload_n 0), (77, .getfield 143), (80, .ifCond .le 47), (83, .aload_n 0), (84, .getfield 119), (87, .ifCond .ne 40), (90, .aload_n 0), (91, .getfield 41), (94, .aload_n 0), (95, .getfield 53), (98, .aload_n 0), (99, .getfield 143), (102, .iconst 1), (103, .isub), (104, .iaload), (105, .iload_n 2), (106, .iastore), (107, .aload_n 0), (108, .bipush 58), (110, .invokevirtual 146), (113, .aload_n 0), (114, .getfield 56), (117, .aload_n 0), (118, .getfield 143), (121, .iconst 1), (122, .isub), (123, .iconst 1), (124, .bastore), (125, .iconst (-1)), (126, .ireturn), (127, .iload_n 2), (128, .ireturn)]
set_option maxRecDepth 20000 in
theorem oX4_close : zokC cX4_close kX4_close = true := by decide +kernel
def kX4_rule : List (Nat × Instr) := [(0, .aload_n 0), (1, .getfield 91), (4, .bipush 10), (6, .if_icmp .ne 10), (9, .aload_n 0), (10, .bipush (-6)), (12, .invokevirtual 96), (15, .ireturn), (16, .aload_n 0), (17, .iconst 0), (18, .putfield 113), (21, .aload_n 0), (22, .aload_n 0), (23, .getfield 78), (26, .putfield 116), (29, .aload_n 0), (30, .iconst 0), (31, .putfield 78), (34, .aload_n 0), (35, .iconst 0), (36, .putfield 119), (39, .aload_n 0), (40, .iconst 0), (41, .putfield 133), (44, .aload_n 0), (45, .iconst 0), (46, .putfield 143), (49, .bipush 24), (51, .aload_n 0), (52, .getfield 91), (55, .imul), (56, .istore_n 1), (57, .iconst (-1)), (58, .istore_n 2), (59, .iload_n 2), (60, .ifCond .ge 40), (63, .aload_n 0), (64, .getfield 119), (67, .ifCond .ne 33), (70, .aload_n 0), (71, .iload_n 1), (72, .invokevirtual 150), (75, .istore_n 3), (76, .iload_n 3), (77, .ifCond .lt 10), (80, .aload_n 0), (81, .getfield 119), (84, .ifCond .eq 7), (87, .iconst (-1)), (88, .goto 8), (91, .aload_n 0), (92, .iload_n 3), (93, .invokevirtual 153), (96, .istore_n 2), (97, .goto (-38)), (100, .aload_n 0), (101, .getfield 119), (104, .ifCond .ne 14), (107, .aload_n 0), (108, .getfield 113), (111, .aload_n 0), (112, .getfield 116), (115, .if_icmp .ge 11), (118, .bipush (-20)), (120, .aload_n 0), (121, .getfield 113), (124, .isub), (125, .ireturn), (126, .aload_n 0), (127, .getfield 32), (130, .aload_n 0), (131, .getfield 91), (134, .iload_n 2), (135, .iastore), (136, .aload_n 0), (137, .dup), (138, .getfield 91), (141, .iconst 1), (142, .iadd), (143, .putfield 91), (146, .aload_n 0), (147, .getfield 91), (150, .iconst 1), (151, .isub), (152, .ireturn)]
set_option maxRecDepth 20000 in
theorem oX4_rule : zokC cX4_rule kX4_rule = true := by decide +kernel
def kX4_person : List (Nat × Instr) := [(0, .aload_n 0), (1, .iload_n 1), (2, .invokevirtual 100), (5, .ifCond .eq 11), (8, .aload_n 0), (9, .iload_n 2), (10, .invokevirtual 156), (13, .ifCond .ne 9), (16, .aload_n 0), (17, .iconst (-1)), (18, .invokevirtual 96), (21, .ireturn), (22, .aload_n 0), (23, .getfield 88), (26, .bipush 8), (28, .if_icmp .ne 10), (31, .aload_n 0), (32, .bipush (-6)), (34, .invokevirtual 96), (37, .ireturn), (38, .aload_n 0), (39, .getfield 20), (42, .aload_n 0), (43, .getfield 88), (46, .iload_n 1), (47, .iastore), (48, .aload_n 0), (49, .getfield 23), (52, .aload_n 0), (53, .getfield 88), (56, .iload_n 2), (57, .iastore), (58, .aload_n 0), (59, .getfield 26), (62, .aload_n 0), (63, .getfield 88), (66, .sipush 255), (69, .iastore), (70, .aload_n 0), (71, .getfield 29), (74, .aload_n 0), (75, .getfield 88), (78, .iconst 0), (79, .iastore), (80, .aload_n 0), (81, .dup), (82, .getfield 88), (85, .iconst 1), (86, .iadd), (87, .putfield 88), (90, .aload_n 0), (91, .getfield 88), (94, .iconst 1), (95, .isub), (96, .ireturn)]
set_option maxRecDepth 20000 in
theorem oX4_person : zokC cX4_person kX4_person = true := by decide +kernel
def kX4_sees : List (Nat × Instr) := [(0, .aload_n 0), (1, .iload_n 1), (2, .invokevirtual 159), (5, .ifCond .ne 9), (8, .aload_n 0), (9, .iconst (-1)), (10, .invokevirtual 96), (13, .ireturn), (14, .iload_n 2), (15, .ifCond .ge 10), (18, .aload_n 0), (19, .bipush (-4)), (21, .invokevirtual 96), (24, .ireturn), (25, .iload_n 2), (26, .sipush 255), (29, .if_icmp .le 10), (32, .aload_n 0), (33, .bipush (-6)), (35, .invokevirtual 96), (38, .ireturn), (39, .aload_n 0), (40, .getfield 26), (43, .iload_n 1), (44, .iaload), (45, .istore_n 3), (46, .aload_n 0), (47, .getfield 26), (50, .iload_n 1), (51, .iload_n 2), (52, .iastore), (53, .iload_n 3), (54, .ireturn)]
set_option maxRecDepth 20000 in
theorem oX4_sees : zokC cX4_sees kX4_sees = true := by decide +kernel
def kX4_lives : List (Nat × Instr) := [(0, .aload_n 0), (1, .iload_n 1), (2, .invokevirtual 159), (5, .ifCond .eq 11), (8, .aload_n 0), (9, .iload_n 2), (10, .invokevirtual 156), (13, .ifCond .ne 9), (16, .aload_n 0), (17, .iconst (-1)), (18, .invokevirtual 96), (21, .ireturn), (22, .aload_n 0), (23, .getfield 23), (26, .iload_n 1), (27, .iaload), (28, .istore_n 3), (29, .aload_n 0), (30, .getfield 23), (33, .iload_n 1), (34, .iload_n 2), (35, .iastore), (36, .iload_n 3), (37, .ireturn)]
set_option maxRecDepth 20000 in
theorem oX4_lives : zokC cX4_lives kX4_lives = true := by decide +kernel
def kX4_plants : List (Nat × Instr) := [(0, .aload_n 0), (1, .iload_n 1), (2, .invokevirtual 159), (5, .ifCond .eq 11), (8, .aload_n 0), (9, .iload_n 2), (10, .invokevirtual 100), (13, .ifCond .ne 9), (16, .aload_n 0), (17, .iconst (-1)), (18, .invokevirtual 96), (21, .ireturn), (22, .aload_n 0), (23, .getfield 20), (26, .iload_n 1), (27, .iaload), (28, .istore_n 3), (29, .aload_n 0), (30, .getfield 20), (33, .iload_n 1), (34, .iload_n 2), (35, .iastore), (36, .iload_n 3), (37, .ireturn)]
set_option maxRecDepth 20000 in
theorem oX4_plants : zokC cX4_plants kX4_plants = true := by decide +kernel
def kX4_show : List (Nat × Instr) := [(0, .iload_n 1), (1, .ifCond .ge 10), (4, .aload_n 0), (5, .bipush (-4)), (7, .invokevirtual 96), (10, .ireturn), (11, .iload_n 1), (12, .bipush 24), (14, .if_icmp .le 10), (17, .aload_n 0), (18, .bipush (-6)), (20, .invokevirtual 96), (23, .ireturn), (24, .aload_n 0), (25, .getfield 162), (28, .istore_n 2), (29, .aload_n 0), (30, .iload_n 1), (31, .putfield 162), (34, .iload_n 2), (35, .ireturn)]
set_option maxRecDepth 20000 in
theorem oX4_show : zokC cX4_show kX4_show = true := by decide +kernel
def kX4_of : List (Nat × Instr) := [(0, .aload_n 0), (1, .iload_n 1), (2, .invokevirtual 159), (5, .ifCond .ne 9), (8, .aload_n 0), (9, .iconst (-1)), (10, .invokevirtual 96), (13, .ireturn), (14, .iload_n 2), (15, .tableswitch 90 0 4 #[33, 40, 47, 54, 83]), (48, .aload_n 0), (49, .getfield 20), (52, .iload_n 1), (53, .iaload), (54, .ireturn), (55, .aload_n 0), (56, .getfield 23), (59, .iload_n 1), (60, .iaload), (61, .ireturn), (62, .aload_n 0), (63, .getfield 26), (66, .iload_n 1), (67, .iaload), (68, .ireturn), (69, .aload_n 0), (70, .getfield 7), (73, .iconst 4), (74, .aload_n 0), (75, .getfield 20), (78, .iload_n 1), (79, .iaload), (80, .imul), (81, .aload_n 0), (82, .getfield 13), (85, .aload_n 0), (86, .getfield 165), (89, .aload_n 0), (90, .getfield 16), (93, .irem), (94, .iaload), (95, .iadd), (96, .iaload), (97, .ireturn), (98, .aload_n 0), (99, .getfield 29), (102, .iload_n 1), (103, .iaload), (104, .ireturn), (105, .aload_n 0), (106, .bipush (-2)), (108, .invokevirtual 96), (111, .ireturn)]
set_option maxRecDepth 20000 in
theorem oX4_of : zokC cX4_of kX4_of = true := by decide +kernel
def kX4_open : List (Nat × Instr) := [(0, .iconst 0), (1, .istore_n 1), (2, .iload_n 1), (3, .aload_n 0), (4, .getfield 88), (7, .if_icmp .ge 45), (10, .aload_n 0), (11, .getfield 60), (14, .iload_n 1), (15, .aload_n 0), (16, .getfield 20), (19, .iload_n 1), (20, .iaload), (21, .iastore), (22, .aload_n 0), (23, .getfield 63), (26, .iload_n 1), (27, .aload_n 0), (28, .getfield 23), (31, .iload_n 1), (32, .iaload), (33, .iastore), (34, .aload_n 0), (35, .getfield 66), (38, .iload_n 1), (39, .aload_n 0), (40, .getfield 26), (43, .iload_n 1), (44, .iaload), (45, .iastore), (46, .iinc 1 1), (49, .goto (-47)), (52, .aload_n 0), (53, .aload_n 0), (54, .getfield 162), (57, .putfield 168), (60, .aload_n 0), (61, .iconst (-1)), (62, .putfield 171), (65, .aload_n 0), (66, .iconst 0), (67, .putfield 174), (70, .return_)]
set_option maxRecDepth 20000 in
theorem oX4_open : zokC cX4_open kX4_open = true := by decide +kernel
def kX4_weatherAt : List (Nat × Instr) := [(0, .aload_n 0), (1, .getfield 174), (4, .ifCond .ne 22), (7, .aload_n 0), (8, .getfield 13), (11, .aload_n 0), (12, .getfield 165), (15, .iload_n 1), (16, .iadd), (17, .aload_n 0), (18, .getfield 16), (21, .irem), (22, .iaload), (23, .goto 29), (26, .iload_n 1), (27, .iconst 2), (28, .aload_n 0), (29, .getfield 174), (32, .imul), (33, .irem), (34, .aload_n 0), (35, .getfield 174), (38, .if_icmp .ge 10), (41, .aload_n 0), (42, .getfield 177), (45, .goto 7), (48, .aload_n 0), (49, .getfield 180), (52, .ireturn)]
set_option maxRecDepth 20000 in
theorem oX4_weatherAt : zokC cX4_weatherAt kX4_weatherAt = true := by decide +kernel
def kX4_doesSee : List (Nat × Instr) := [(0, .iload_n 1), (1, .iload_n 2), (2, .if_icmp .ne 5), (5, .iconst 1), (6, .ireturn), (7, .aload_n 0), (8, .getfield 168), (11, .ifCond .le 16), (14, .iload_n 3), (15, .aload_n 0), (16, .getfield 168), (19, .irem), (20, .ifCond .ne 7), (23, .iconst 1), (24, .goto 4), (27, .iconst 0), (28, .istore 4), (30, .iload_n 2), (31, .aload_n 0), (32, .getfield 171), (35, .if_icmp .eq 26), (38, .iload 4), (40, .ifCond .ne 17), (43, .aload_n 0), (44, .getfield 66), (47, .iload_n 1), (48, .iaload), (49, .iload_n 2), (50, .ishr), (51, .iconst 1), (52, .iand), (53, .iconst 1), (54, .if_icmp .ne 7), (57, .iconst 1), (58, .goto 4), (61, .iconst 0), (62, .ireturn)]
set_option maxRecDepth 20000 in
theorem oX4_doesSee : zokC cX4_doesSee kX4_doesSee = true := by decide +kernel
def kX4_bestSeen : List (Nat × Instr) := [(0, .iload_n 1), (1, .istore 4), (3, .iconst 0), (4, .istore 5), (6, .iload 5), (8, .aload_n 0), (9, .getfield 88), (12, .if_icmp .ge 92), (15, .aload_n 0), (16, .getfield 7), (19, .iconst 4), (20, .aload_n 0), (21, .getfield 60), (24, .iload 5), (26, .iaload), (27, .imul), (28, .iload_n 3), (29, .iadd), (30, .iaload), (31, .istore 6), (33, .aload_n 0), (34, .getfield 7), (37, .iconst 4), (38, .aload_n 0), (39, .getfield 60), (42, .iload 4), (44, .iaload), (45, .imul), (46, .iload_n 3), (47, .iadd), (48, .iaload), (49, .istore 7), (51, .aload_n 0), (52, .iload_n 1), (53, .iload 5), (55, .iload_n 2), (56, .invokevirtual 183), (59, .ifCond .eq 35), (62, .iload 6), (64, .iload 7), (66, .if_icmp .gt 23), (69, .iload 6), (71, .iload 7), (73, .if_icmp .ne 21), (76, .iload 4), (78, .iload_n 1), (79, .if_icmp .eq 15), (82, .iload 5), (84, .iload 4), (86, .if_icmp .ge 8), (89, .iload 5), (91, .goto 5), (94, .iload 4), (96, .istore 4), (98, .iinc 5 1), (101, .goto (-95)), (104, .aload_n 0), (105, .getfield 60), (108, .iload 4), (110, .iaload), (111, .ireturn)]
set_option maxRecDepth 20000 in
theorem oX4_bestSeen : zokC cX4_bestSeen kX4_bestSeen = true := by decide +kernel
def kX4_mostSeen : List (Nat × Instr) := [(0, .aload_n 0), (1, .getfield 60), (4, .iload_n 1), (5, .iaload), (6, .istore_n 3), (7, .aload_n 0), (8, .iload_n 1), (9, .iload_n 2), (10, .iload_n 3), (11, .invokevirtual 187), (14, .istore 4), (16, .iconst 1), (17, .istore 5), (19, .iconst 0), (20, .istore 6), (22, .iload 6), (24, .aload_n 0), (25, .getfield 81), (28, .if_icmp .ge 36), (31, .aload_n 0), (32, .iload_n 1), (33, .iload_n 2), (34, .iload 6), (36, .invokevirtual 187), (39, .istore 7), (41, .iload 7), (43, .iload 4), (45, .if_icmp .le 13), (48, .iload 6), (50, .istore_n 3), (51, .iload 7), (53, .istore 4), (55, .iconst 0), (56, .istore 5), (58, .iinc 6 1), (61, .goto (-39)), (64, .iload 5), (66, .ifCond .eq 12), (69, .aload_n 0), (70, .getfield 60), (73, .iload_n 1), (74, .iaload), (75, .goto 4), (78, .iload_n 3), (79, .ireturn)]
set_option maxRecDepth 20000 in
theorem oX4_mostSeen : zokC cX4_mostSeen kX4_mostSeen = true := by decide +kernel
def kX4_planting : List (Nat × Instr) := [(0, .iconst 0), (1, .istore 4), (3, .iconst 0), (4, .istore 5), (6, .iload 5), (8, .aload_n 0), (9, .getfield 88), (12, .if_icmp .ge 41), (15, .iload 4), (17, .aload_n 0), (18, .iload_n 1), (19, .iload 5), (21, .iload_n 2), (22, .invokevirtual 183), (25, .ifCond .eq 18), (28, .aload_n 0), (29, .getfield 60), (32, .iload 5), (34, .iaload), (35, .iload_n 3), (36, .if_icmp .ne 7), (39, .iconst 1), (40, .goto 4), (43, .iconst 0), (44, .iadd), (45, .istore 4), (47, .iinc 5 1), (50, .goto (-44)), (53, .iload 4), (55, .ireturn)]
set_option maxRecDepth 20000 in
theorem oX4_planting : zokC cX4_planting kX4_planting = true := by decide +kernel
def kX4_nearSeen : List (Nat × Instr) := [(0, .iconst (-1)), (1, .istore_n 3), (2, .iload_n 1), (3, .istore 4), (5, .iconst 0), (6, .istore 5), (8, .iload 5), (10, .aload_n 0), (11, .getfield 88), (14, .if_icmp .ge 49), (17, .aload_n 0), (18, .iload_n 1), (19, .iload 5), (21, .iload_n 2), (22, .invokevirtual 183), (25, .ifCond .eq 32), (28, .iload 5), (30, .iload_n 1), (31, .if_icmp .ge 8), (34, .iload 5), (36, .goto 4), (39, .iload_n 3), (40, .istore_n 3), (41, .iload 5), (43, .iload 4), (45, .if_icmp .le 8), (48, .iload 5), (50, .goto 5), (53, .iload 4), (55, .istore 4), (57, .iinc 5 1), (60, .goto (-52)), (63, .aload_n 0), (64, .getfield 60), (67, .iload_n 3), (68, .ifCond .ge 8), (71, .iload 4), (73, .goto 4), (76, .iload_n 3), (77, .iaload), (78, .ireturn)]
set_option maxRecDepth 20000 in
theorem oX4_nearSeen : zokC cX4_nearSeen kX4_nearSeen = true := by decide +kernel
def kX4_chosen : List (Nat × Instr) := [(0, .aload_n 0), (1, .getfield 32), (4, .aload_n 0), (5, .getfield 63), (8, .iload_n 1), (9, .iaload), (10, .iaload), (11, .istore 4), (13, .aload_n 0), (14, .getfield 35), (17, .iload 4), (19, .iaload), (20, .bipush 40), (22, .if_icmp .ne 50), (25, .aload_n 0), (26, .getfield 7), (29, .iconst 4), (30, .aload_n 0), (31, .getfield 60), (34, .iload_n 1), (35, .iaload), (36, .imul), (37, .iload_n 3), (38, .iadd), (39, .iaload), (40, .aload_n 0), (41, .getfield 38), (44, .iload 4), (46, .iaload), (47, .if_icmp .ge 13), (50, .aload_n 0), (51, .getfield 41), (54, .iload 4), (56, .iaload), (57, .goto 10), (60, .aload_n 0), (61, .getfield 44), (64, .iload 4), (66, .iaload), (67, .istore 4), (69, .goto (-56)), (72, .aload_n 0), (73, .getfield 35), (76, .iload 4), (78, .iaload), (79, .lookupswitch 112 #[(98, 41), (109, 49), (110, 56), (116, 63)]), (120, .aload_n 0), (121, .iload_n 1), (122, .iload_n 2), (123, .iload_n 3), (124, .invokevirtual 190), (127, .ireturn), (128, .aload_n 0), (129, .iload_n 1), (130, .iload_n 2), (131, .invokevirtual 193), (134, .ireturn), (135, .aload_n 0), (136, .iload_n 1), (137, .iload_n 2), (138, .invokevirtual 197), (141, .ireturn), (142, .iload_n 2), (143, .aload_n 0), (144, .getfield 38), (147, .iload 4), (149, .iaload), (150, .irem), (151, .ifCond .eq 12), (154, .aload_n 0), (155, .getfield 60), (158, .iload_n 1), (159, .iaload), (160, .goto 30), (163, .aload_n 0), (164, .getfield 60), (167, .iload_n 1), (168, .iaload), (169, .iconst 1), (170, .iadd), (171, .aload_n 0), (172, .getfield 81), (175, .if_icmp .ne 7), (178, .iconst 0), (179, .goto 11), (182, .aload_n 0), (183, .getfield 60), (186, .iload_n 1), (187, .iaload), (188, .iconst 1), (189, .iadd), (190, .ireturn), (191, .aload_n 0), (192, .getfield 60), (195, .iload_n 1), (196, .iaload), (197, .ireturn)]
set_option maxRecDepth 20000 in
theorem oX4_chosen : zokC cX4_chosen kX4_chosen = true := by decide +kernel
def kX4_areAlike : List (Nat × Instr) := [(0, .iconst 1), (1, .istore_n 1), (2, .iconst 1), (3, .istore_n 2), (4, .iload_n 2), (5, .aload_n 0), (6, .getfield 88), (9, .if_icmp .ge 34), (12, .iload_n 1), (13, .ifCond .eq 22), (16, .aload_n 0), (17, .getfield 60), (20, .iload_n 2), (21, .iaload), (22, .aload_n 0), (23, .getfield 60), (26, .iconst 0), (27, .iaload), (28, .if_icmp .ne 7), (31, .iconst 1), (32, .goto 4), (35, .iconst 0), (36, .istore_n 1), (37, .iinc 2 1), (40, .goto (-36)), (43, .iload_n 1), (44, .ireturn)]
set_option maxRecDepth 20000 in
theorem oX4_areAlike : zokC cX4_areAlike kX4_areAlike = true := by decide +kernel
def kX4_run : List (Nat × Instr) := [(0, .iconst 0), (1, .istore_n 2), (2, .aload_n 0), (3, .iconst 0), (4, .putfield 200), (7, .aload_n 0), (8, .bipush (-9)), (10, .putfield 203), (13, .iconst 0), (14, .istore_n 3), (15, .iload_n 3), (16, .aload_n 0), (17, .getfield 88), (20, .if_icmp .ge 16), (23, .aload_n 0), (24, .getfield 69), (27, .iload_n 3), (28, .iconst 0), (29, .iastore), (30, .iinc 3 1), (33, .goto (-18)), (36, .iconst 0), (37, .istore_n 3), (38, .iload_n 3), (39, .iload_n 1), (40, .if_icmp .ge 207), (43, .aload_n 0), (44, .iload_n 3), (45, .invokevirtual 206), (48, .istore 4), (50, .aload_n 0), (51, .invokevirtual 209), (54, .istore 5), (56, .aload_n 0), (57, .iload 5), (59, .ifCond .eq 14), (62, .aload_n 0), (63, .getfield 203), (66, .ifCond .ge 7), (69, .iload_n 3), (70, .goto 7), (73, .aload_n 0), (74, .getfield 203), (77, .putfield 203), (80, .aload_n 0), (81, .dup), (82, .getfield 200), (85, .iload 5), (87, .ifCond .eq 42), (90, .aload_n 0), (91, .getfield 7), (94, .iconst 4), (95, .aload_n 0), (96, .getfield 60), (99, .iconst 0), (100, .iaload), (101, .imul), (102, .iload 4), (104, .iadd), (105, .iaload), (106, .aload_n 0), (107, .getfield 7), (110, .iconst 4), (111, .aload_n 0), (112, .iload 4), (114, .invokevirtual 107), (117, .imul), (118, .iload 4), (120, .iadd), (121, .iaload), (122, .if_icmp .ge 7), (125, .iconst 1), (126, .goto 4), (129, .iconst 0), (130, .iadd), (131, .putfield 200), (134, .iconst 0), (135, .istore 6), (137, .iload 6), (139, .aload_n 0), (140, .getfield 88), (143, .if_icmp .ge 66), (146, .aload_n 0), (147, .getfield 7), (150, .iconst 4), (151, .aload_n 0), (152, .getfield 60), (155, .iload 6), (157, .iaload), (158, .imul), (159, .iload 4), (161, .iadd), (162, .iaload), (163, .istore 7), (165, .aload_n 0), (166, .getfield 69), (169, .iload 6), (171, .dup2), (172, .iaload), (173, .iload 7), (175, .iadd), (176, .iastore), (177, .iload_n 2), (178, .iload 7), (180, .iadd), (181, .istore_n 2), (182, .aload_n 0), (183, .getfield 72), (186, .iload 6), (188, .aload_n 0), (189, .iload 6), (191, .aload_n 0), (192, .getfield 165), (195, .iload_n 3), (196, .iadd), (197, .iload 4), (199, .invokevirtual 213), (202, .iastore), (203, .iinc 6 1), (206, .goto (-69)), (209, .iconst 0), (210, .istore 6), (212, .iload 6), (214, .aload_n 0), (215, .getfield 88), (218, .if_icmp .ge 23), (221, .aload_n 0), (222, .getfield 60), (225, .iload 6), (227, .aload_n 0), (228, .getfield 72), (231, .iload 6), (233, .iaload), (234, .iastore), (235, .iinc 6 1), (238, .goto (-26)), (241, .iinc 3 1), (244, .goto (-206)), (247, .aload_n 0), (248, .aload_n 0), (249, .invokevirtual 209), (252, .ifCond .eq 14), (255, .aload_n 0), (256, .getfield 203), (259, .ifCond .ge 7), (262, .iload_n 1), (263, .goto 7), (266, .aload_n 0), (267, .getfield 203), (270, .putfield 203), (273, .iload_n 2), (274, .ireturn)]
set_option maxRecDepth 20000 in
theorem oX4_run : zokC cX4_run kX4_run = true := by decide +kernel
def kX4_wrongYears : List (Nat × Instr) := [(0, .iload_n 1), (1, .iconst 1), (2, .if_icmp .ge 8), (5, .bipush (-4)), (7, .goto 27), (10, .iload_n 1), (11, .bipush 60), (13, .if_icmp .le 8), (16, .bipush (-6)), (18, .goto 16), (21, .aload_n 0), (22, .getfield 88), (25, .ifCond .ne 8), (28, .bipush (-3)), (30, .goto 4), (33, .iconst 0), (34, .ireturn)]
set_option maxRecDepth 20000 in
theorem oX4_wrongYears : zokC cX4_wrongYears kX4_wrongYears = true := by decide +kernel
def kX4_next : List (Nat × Instr) := [(0, .aload_n 0), (1, .iload_n 1), (2, .invokevirtual 159), (5, .ifCond .ne 9), (8, .aload_n 0), (9, .iconst (-1)), (10, .invokevirtual 96), (13, .ireturn), (14, .aload_n 0), (15, .invokevirtual 216), (18, .aload_n 0), (19, .iload_n 1), (20, .aload_n 0), (21, .getfield 165), (24, .aload_n 0), (25, .getfield 13), (28, .aload_n 0), (29, .getfield 165), (32, .aload_n 0), (33, .getfield 16), (36, .irem), (37, .iaload), (38, .invokevirtual 213), (41, .ireturn)]
set_option maxRecDepth 20000 in
theorem oX4_next : zokC cX4_next kX4_next = true := by decide +kernel
def kX4_go : List (Nat × Instr) := [(0, .aload_n 0), (1, .iload_n 1), (2, .invokevirtual 219), (5, .ifCond .ge 13), (8, .aload_n 0), (9, .aload_n 0), (10, .iload_n 1), (11, .invokevirtual 219), (14, .invokevirtual 96), (17, .ireturn), (18, .aload_n 0), (19, .invokevirtual 216), (22, .aload_n 0), (23, .iload_n 1), (24, .invokevirtual 222), (27, .pop), (28, .iconst 0), (29, .istore_n 2), (30, .iload_n 2), (31, .aload_n 0), (32, .getfield 88), (35, .if_icmp .ge 36), (38, .aload_n 0), (39, .getfield 29), (42, .iload_n 2), (43, .dup2), (44, .iaload), (45, .aload_n 0), (46, .getfield 69), (49, .iload_n 2), (50, .iaload), (51, .iadd), (52, .iastore), (53, .aload_n 0), (54, .getfield 20), (57, .iload_n 2), (58, .aload_n 0), (59, .getfield 60), (62, .iload_n 2), (63, .iaload), (64, .iastore), (65, .iinc 2 1), (68, .goto (-38)), (71, .aload_n 0), (72, .dup), (73, .getfield 165), (76, .iload_n 1), (77, .iadd), (78, .putfield 165), (81, .aload_n 0), (82, .getfield 165), (85, .ireturn)]
set_option maxRecDepth 20000 in
theorem oX4_go : zokC cX4_go kX4_go = true := by decide +kernel
def kX4_share : List (Nat × Instr) := [(0, .aload_n 0), (1, .iload_n 1), (2, .invokevirtual 100), (5, .ifCond .ne 9), (8, .aload_n 0), (9, .iconst (-1)), (10, .invokevirtual 96), (13, .ireturn), (14, .iconst 0), (15, .istore_n 2), (16, .iconst 0), (17, .istore_n 3), (18, .iload_n 3), (19, .aload_n 0), (20, .getfield 88), (23, .if_icmp .ge 27), (26, .iload_n 2), (27, .aload_n 0), (28, .getfield 20), (31, .iload_n 3), (32, .iaload), (33, .iload_n 1), (34, .if_icmp .ne 7), (37, .iconst 1), (38, .goto 4), (41, .iconst 0), (42, .iadd), (43, .istore_n 2), (44, .iinc 3 1), (47, .goto (-29)), (50, .iload_n 2), (51, .ireturn)]
set_option maxRecDepth 20000 in
theorem oX4_share : zokC cX4_share kX4_share = true := by decide +kernel
def kX4_fares : List (Nat × Instr) := [(0, .aload_n 0), (1, .iload_n 1), (2, .invokevirtual 219), (5, .ifCond .ge 13), (8, .aload_n 0), (9, .aload_n 0), (10, .iload_n 1), (11, .invokevirtual 219), (14, .invokevirtual 96), (17, .ireturn), (18, .aload_n 0), (19, .invokevirtual 216), (22, .aload_n 0), (23, .iload_n 1), (24, .invokevirtual 222), (27, .ireturn)]
set_option maxRecDepth 20000 in
theorem oX4_fares : zokC cX4_fares kX4_fares = true := by decide +kernel
def kX4_wrong : List (Nat × Instr) := [(0, .aload_n 0), (1, .iload_n 1), (2, .invokevirtual 219), (5, .ifCond .ge 13), (8, .aload_n 0), (9, .aload_n 0), (10, .iload_n 1), (11, .invokevirtual 219), (14, .invokevirtual 96), (17, .ireturn), (18, .aload_n 0), (19, .invokevirtual 216), (22, .aload_n 0), (23, .iload_n 1), (24, .invokevirtual 222), (27, .pop), (28, .aload_n 0), (29, .getfield 200), (32, .ireturn)]
set_option maxRecDepth 20000 in
theorem oX4_wrong : zokC cX4_wrong kX4_wrong = true := by decide +kernel
def kX4_alike : List (Nat × Instr) := [(0, .aload_n 0), (1, .iload_n 1), (2, .invokevirtual 219), (5, .ifCond .ge 13), (8, .aload_n 0), (9, .aload_n 0), (10, .iload_n 1), (11, .invokevirtual 219), (14, .invokevirtual 96), (17, .ireturn), (18, .aload_n 0), (19, .invokevirtual 216), (22, .aload_n 0), (23, .iload_n 1), (24, .invokevirtual 222), (27, .pop), (28, .aload_n 0), (29, .getfield 203), (32, .ireturn)]
set_option maxRecDepth 20000 in
theorem oX4_alike : zokC cX4_alike kX4_alike = true := by decide +kernel
def kX4_gainOf : List (Nat × Instr) := [(0, .aload_n 0), (1, .iload_n 1), (2, .iload_n 2), (3, .iload_n 3), (4, .iload 4), (6, .iload 5), (8, .iload 6), (10, .invokevirtual 225), (13, .istore 7), (15, .iload 7), (17, .aload_n 0), (18, .iload_n 1), (19, .iconst (-1)), (20, .iload_n 3), (21, .iload 4), (23, .iload 5), (25, .iload 6), (27, .invokevirtual 225), (30, .isub), (31, .ireturn)]
set_option maxRecDepth 20000 in
theorem oX4_gainOf : zokC cX4_gainOf kX4_gainOf = true := by decide +kernel
def kX4_ownIn : List (Nat × Instr) := [(0, .aload_n 0), (1, .invokevirtual 216), (4, .iconst 0), (5, .istore 7), (7, .iload 7), (9, .aload_n 0), (10, .getfield 88), (13, .if_icmp .ge 35), (16, .iload 4), (18, .ifCond .lt 30), (21, .aload_n 0), (22, .getfield 63), (25, .iload 7), (27, .iload 7), (29, .iload 4), (31, .if_icmp .ge 8), (34, .iload 5), (36, .goto 5), (39, .iload 6), (41, .iastore), (42, .iinc 7 1), (45, .goto (-38)), (48, .aload_n 0), (49, .getfield 63), (52, .iload_n 1), (53, .iload_n 2), (54, .ifCond .lt 7), (57, .iload_n 2), (58, .goto 9), (61, .aload_n 0), (62, .getfield 63), (65, .iload_n 1), (66, .iaload), (67, .iastore), (68, .aload_n 0), (69, .iload_n 3), (70, .invokevirtual 222), (73, .pop), (74, .aload_n 0), (75, .getfield 69), (78, .iload_n 1), (79, .iaload), (80, .ireturn)]
set_option maxRecDepth 20000 in
theorem oX4_ownIn : zokC cX4_ownIn kX4_ownIn = true := by decide +kernel
def kX4_gain : List (Nat × Instr) := [(0, .aload_n 0), (1, .iload_n 1), (2, .invokevirtual 159), (5, .ifCond .eq 11), (8, .aload_n 0), (9, .iload_n 2), (10, .invokevirtual 156), (13, .ifCond .ne 12), (16, .ldc 229), (18, .aload_n 0), (19, .iconst (-1)), (20, .invokevirtual 96), (23, .iadd), (24, .ireturn), (25, .aload_n 0), (26, .iload_n 3), (27, .invokevirtual 219), (30, .ifCond .ge 16), (33, .ldc 229), (35, .aload_n 0), (36, .aload_n 0), (37, .iload_n 3), (38, .invokevirtual 219), (41, .invokevirtual 96), (44, .iadd), (45, .ireturn), (46, .aload_n 0), (47, .iload_n 1), (48, .iload_n 2), (49, .iload_n 3), (50, .iconst (-1)), (51, .iconst 0), (52, .iconst 0), (53, .invokevirtual 230), (56, .ireturn)]
set_option maxRecDepth 20000 in
theorem oX4_gain : zokC cX4_gain kX4_gain = true := by decide +kernel
def kX4_rest : List (Nat × Instr) := [(0, .aload_n 0), (1, .iload_n 1), (2, .invokevirtual 219), (5, .ifCond .ge 13), (8, .aload_n 0), (9, .aload_n 0), (10, .iload_n 1), (11, .invokevirtual 219), (14, .invokevirtual 96), (17, .ireturn), (18, .iconst 0), (19, .istore_n 2), (20, .iload_n 2), (21, .aload_n 0), (22, .getfield 88), (25, .if_icmp .ge 45), (28, .iconst 0), (29, .istore_n 3), (30, .iload_n 3), (31, .aload_n 0), (32, .getfield 91), (35, .if_icmp .ge 29), (38, .aload_n 0), (39, .iload_n 2), (40, .iload_n 3), (41, .iload_n 1), (42, .iconst (-1)), (43, .iconst 0), (44, .iconst 0), (45, .invokevirtual 230), (48, .ifCond .le 10), (51, .bipush 10), (53, .iload_n 2), (54, .imul), (55, .iload_n 3), (56, .iadd), (57, .ireturn), (58, .iinc 3 1), (61, .goto (-31)), (64, .iinc 2 1), (67, .goto (-47)), (70, .bipush (-9)), (72, .ireturn)]
set_option maxRecDepth 20000 in
theorem oX4_rest : zokC cX4_rest kX4_rest = true := by decide +kernel
def kX4_faresInParts : List (Nat × Instr) := [(0, .iconst 0), (1, .istore 5), (3, .iload 5), (5, .aload_n 0), (6, .getfield 88), (9, .if_icmp .ge 27), (12, .aload_n 0), (13, .getfield 63), (16, .iload 5), (18, .iload 5), (20, .iload_n 1), (21, .if_icmp .ge 7), (24, .iload_n 2), (25, .goto 4), (28, .iload_n 3), (29, .iastore), (30, .iinc 5 1), (33, .goto (-30)), (36, .aload_n 0), (37, .iload 4), (39, .invokevirtual 222), (42, .ireturn)]
set_option maxRecDepth 20000 in
theorem oX4_faresInParts : zokC cX4_faresInParts kX4_faresInParts = true := by decide +kernel
def kX4_ifAll : List (Nat × Instr) := [(0, .aload_n 0), (1, .iload_n 1), (2, .invokevirtual 156), (5, .ifCond .ne 9), (8, .aload_n 0), (9, .iconst (-1)), (10, .invokevirtual 96), (13, .ireturn), (14, .aload_n 0), (15, .iload_n 2), (16, .invokevirtual 219), (19, .ifCond .ge 13), (22, .aload_n 0), (23, .aload_n 0), (24, .iload_n 2), (25, .invokevirtual 219), (28, .invokevirtual 96), (31, .ireturn), (32, .aload_n 0), (33, .invokevirtual 216), (36, .aload_n 0), (37, .iconst 0), (38, .iload_n 1), (39, .iload_n 1), (40, .iload_n 2), (41, .invokevirtual 233), (44, .ireturn)]
set_option maxRecDepth 20000 in
theorem oX4_ifAll : zokC cX4_ifAll kX4_ifAll = true := by decide +kernel
def kX4_bestRule : List (Nat × Instr) := [(0, .aload_n 0), (1, .iload_n 1), (2, .invokevirtual 219), (5, .ifCond .ge 13), (8, .aload_n 0), (9, .aload_n 0), (10, .iload_n 1), (11, .invokevirtual 219), (14, .invokevirtual 96), (17, .ireturn), (18, .iconst (-1)), (19, .istore_n 2), (20, .iconst 0), (21, .istore_n 3), (22, .iconst 0), (23, .istore 4), (25, .iload 4), (27, .aload_n 0), (28, .getfield 91), (31, .if_icmp .ge 41), (34, .aload_n 0), (35, .invokevirtual 216), (38, .aload_n 0), (39, .iconst 0), (40, .iload 4), (42, .iload 4), (44, .iload_n 1), (45, .invokevirtual 233), (48, .istore 5), (50, .iload_n 2), (51, .ifCond .lt 9), (54, .iload 5), (56, .iload_n 3), (57, .if_icmp .le 9), (60, .iload 4), (62, .istore_n 2), (63, .iload 5), (65, .istore_n 3), (66, .iinc 4 1), (69, .goto (-44)), (72, .iload_n 2), (73, .ireturn)]
set_option maxRecDepth 20000 in
theorem oX4_bestRule : zokC cX4_bestRule kX4_bestRule = true := by decide +kernel
def kX4_restsInParts : List (Nat × Instr) := [(0, .iconst 0), (1, .istore 5), (3, .iload 5), (5, .aload_n 0), (6, .getfield 88), (9, .if_icmp .ge 36), (12, .aload_n 0), (13, .iload 5), (15, .iload 5), (17, .iload_n 1), (18, .if_icmp .ge 7), (21, .iload_n 3), (22, .goto 4), (25, .iload_n 2), (26, .iload 4), (28, .iload_n 1), (29, .iload_n 2), (30, .iload_n 3), (31, .invokevirtual 230), (34, .ifCond .le 5), (37, .iconst 0), (38, .ireturn), (39, .iinc 5 1), (42, .goto (-39)), (45, .iconst 1), (46, .ireturn)]
set_option maxRecDepth 20000 in
theorem oX4_restsInParts : zokC cX4_restsInParts kX4_restsInParts = true := by decide +kernel
def kX4_part : List (Nat × Instr) := [(0, .aload_n 0), (1, .iload_n 1), (2, .invokevirtual 156), (5, .ifCond .eq 11), (8, .aload_n 0), (9, .iload_n 2), (10, .invokevirtual 156), (13, .ifCond .ne 9), (16, .aload_n 0), (17, .iconst (-1)), (18, .invokevirtual 96), (21, .ireturn), (22, .iload_n 3), (23, .i2l), (24, .lconst 0), (25, .lconst 1), (26, .invokestatic 84), (29, .ifCond .ne 10), (32, .aload_n 0), (33, .bipush (-2)), (35, .invokevirtual 96), (38, .ireturn), (39, .aload_n 0), (40, .iload 4), (42, .invokevirtual 219), (45, .ifCond .ge 14), (48, .aload_n 0), (49, .aload_n 0), (50, .iload 4), (52, .invokevirtual 219), (55, .invokevirtual 96), (58, .ireturn), (59, .bipush (-9)), (61, .istore 5), (63, .iconst 0), (64, .istore 6), (66, .iconst 0), (67, .istore 7), (69, .iload 7), (71, .aload_n 0), (72, .getfield 88), (75, .if_icmp .gt 80), (78, .iload_n 3), (79, .iconst 1), (80, .if_icmp .ne 33), (83, .iload 5), (85, .ifCond .ge 21), (88, .aload_n 0), (89, .iload 7), (91, .iload_n 1), (92, .iload_n 2), (93, .iload 4), (95, .invokevirtual 237), (98, .ifCond .eq 8), (101, .iload 7), (103, .goto 5), (106, .iload 5), (108, .istore 5), (110, .goto 39), (113, .aload_n 0), (114, .invokevirtual 216), (117, .aload_n 0), (118, .iload 7), (120, .iload_n 1), (121, .iload_n 2), (122, .iload 4), (124, .invokevirtual 233), (127, .istore 8), (129, .iload 5), (131, .ifCond .lt 10), (134, .iload 8), (136, .iload 6), (138, .if_icmp .le 11), (141, .iload 7), (143, .istore 5), (145, .iload 8), (147, .istore 6), (149, .iinc 7 1), (152, .goto (-83)), (155, .iload 5), (157, .ireturn)]
set_option maxRecDepth 20000 in
theorem oX4_part : zokC cX4_part kX4_part = true := by decide +kernel
def kX4_edge : List (Nat × Instr) := [(0, .aload_n 0), (1, .iload_n 1), (2, .invokevirtual 156), (5, .ifCond .eq 31), (8, .aload_n 0), (9, .iload_n 2), (10, .invokevirtual 156), (13, .ifCond .eq 23), (16, .iload_n 3), (17, .ifCond .lt 19), (20, .iload_n 3), (21, .bipush 10), (23, .idiv), (24, .iconst 3), (25, .if_icmp .gt 11), (28, .iload_n 3), (29, .bipush 10), (31, .irem), (32, .iconst 3), (33, .if_icmp .le 9), (36, .aload_n 0), (37, .iconst (-1)), (38, .invokevirtual 96), (41, .ireturn), (42, .aload_n 0), (43, .iload 4), (45, .invokevirtual 219), (48, .ifCond .ge 14), (51, .aload_n 0), (52, .aload_n 0), (53, .iload 4), (55, .invokevirtual 219), (58, .invokevirtual 96), (61, .ireturn), (62, .iconst 1), (63, .istore 5), (65, .iload 5), (67, .bipush 12), (69, .if_icmp .gt 77), (72, .aload_n 0), (73, .invokevirtual 216), (76, .aload_n 0), (77, .iload 5), (79, .putfield 174), (82, .aload_n 0), (83, .iload_n 3), (84, .bipush 10), (86, .idiv), (87, .putfield 177), (90, .aload_n 0), (91, .iload_n 3), (92, .bipush 10), (94, .irem), (95, .putfield 180), (98, .aload_n 0), (99, .iconst 0), (100, .iload_n 1), (101, .iload_n 1), (102, .iload 4), (104, .invokevirtual 233), (107, .istore 6), (109, .aload_n 0), (110, .invokevirtual 216), (113, .aload_n 0), (114, .iload 5), (116, .putfield 174), (119, .aload_n 0), (120, .iconst 0), (121, .iload_n 2), (122, .iload_n 2), (123, .iload 4), (125, .invokevirtual 233), (128, .istore 7), (130, .iload 6), (132, .iload 7), (134, .if_icmp .le 6), (137, .iload 5), (139, .ireturn), (140, .iinc 5 1), (143, .goto (-78)), (146, .bipush (-9)), (148, .ireturn)]
set_option maxRecDepth 20000 in
theorem oX4_edge : zokC cX4_edge kX4_edge = true := by decide +kernel
def kX4_lessSeen : List (Nat × Instr) := [(0, .iload_n 1), (1, .ifCond .lt 8), (4, .iload_n 2), (5, .iconst 1), (6, .if_icmp .ge 13), (9, .ldc 229), (11, .aload_n 0), (12, .bipush (-4)), (14, .invokevirtual 96), (17, .iadd), (18, .ireturn), (19, .iload_n 1), (20, .bipush 7), (22, .if_icmp .gt 9), (25, .iload_n 2), (26, .bipush 60), (28, .if_icmp .le 13), (31, .ldc 229), (33, .aload_n 0), (34, .bipush (-6)), (36, .invokevirtual 96), (39, .iadd), (40, .ireturn), (41, .aload_n 0), (42, .getfield 88), (45, .ifCond .ne 13), (48, .ldc 229), (50, .aload_n 0), (51, .bipush (-3)), (53, .invokevirtual 96), (56, .iadd), (57, .ireturn), (58, .aload_n 0), (59, .invokevirtual 216), (62, .aload_n 0), (63, .iload_n 2), (64, .invokevirtual 222), (67, .istore_n 3), (68, .aload_n 0), (69, .invokevirtual 216), (72, .iconst 0), (73, .istore 4), (75, .iload 4), (77, .aload_n 0), (78, .getfield 88), (81, .if_icmp .ge 61), (84, .iconst 0), (85, .istore 5), (87, .iconst 1), (88, .istore 6), (90, .iload 6), (92, .iload_n 1), (93, .if_icmp .gt 34), (96, .iload 5), (98, .iconst 1), (99, .iload 4), (101, .bipush 8), (103, .aload_n 0), (104, .getfield 88), (107, .imul), (108, .iadd), (109, .iload 6), (111, .isub), (112, .aload_n 0), (113, .getfield 88), (116, .irem), (117, .ishl), (118, .ior), (119, .istore 5), (121, .iinc 6 1), (124, .goto (-34)), (127, .aload_n 0), (128, .getfield 66), (131, .iload 4), (133, .iload 5), (135, .iastore), (136, .iinc 4 1), (139, .goto (-64)), (142, .aload_n 0), (143, .iload_n 2), (144, .invokevirtual 222), (147, .iload_n 3), (148, .isub), (149, .ireturn)]
set_option maxRecDepth 20000 in
theorem oX4_lessSeen : zokC cX4_lessSeen kX4_lessSeen = true := by decide +kernel
def kX4_shown : List (Nat × Instr) := [(0, .iload_n 1), (1, .ifCond .lt 8), (4, .iload_n 2), (5, .iconst 1), (6, .if_icmp .ge 13), (9, .ldc 229), (11, .aload_n 0), (12, .bipush (-4)), (14, .invokevirtual 96), (17, .iadd), (18, .ireturn), (19, .iload_n 1), (20, .bipush 24), (22, .if_icmp .gt 9), (25, .iload_n 2), (26, .bipush 60), (28, .if_icmp .le 13), (31, .ldc 229), (33, .aload_n 0), (34, .bipush (-6)), (36, .invokevirtual 96), (39, .iadd), (40, .ireturn), (41, .aload_n 0), (42, .getfield 88), (45, .ifCond .ne 13), (48, .ldc 229), (50, .aload_n 0), (51, .bipush (-3)), (53, .invokevirtual 96), (56, .iadd), (57, .ireturn), (58, .aload_n 0), (59, .invokevirtual 216), (62, .aload_n 0), (63, .iload_n 2), (64, .invokevirtual 222), (67, .istore_n 3), (68, .aload_n 0), (69, .invokevirtual 216), (72, .aload_n 0), (73, .iload_n 1), (74, .putfield 168), (77, .aload_n 0), (78, .iload_n 2), (79, .invokevirtual 222), (82, .iload_n 3), (83, .isub), (84, .ireturn)]
set_option maxRecDepth 20000 in
theorem oX4_shown : zokC cX4_shown kX4_shown = true := by decide +kernel
def kX4_blind : List (Nat × Instr) := [(0, .aload_n 0), (1, .iload_n 1), (2, .invokevirtual 219), (5, .ifCond .ge 13), (8, .aload_n 0), (9, .aload_n 0), (10, .iload_n 1), (11, .invokevirtual 219), (14, .invokevirtual 96), (17, .ireturn), (18, .iconst (-1)), (19, .istore_n 2), (20, .iconst 0), (21, .istore_n 3), (22, .iconst 0), (23, .istore 4), (25, .iload 4), (27, .aload_n 0), (28, .getfield 88), (31, .if_icmp .ge 42), (34, .aload_n 0), (35, .invokevirtual 216), (38, .aload_n 0), (39, .iload 4), (41, .putfield 171), (44, .aload_n 0), (45, .iload_n 1), (46, .invokevirtual 222), (49, .istore 5), (51, .iload_n 2), (52, .ifCond .lt 9), (55, .iload 5), (57, .iload_n 3), (58, .if_icmp .le 9), (61, .iload 4), (63, .istore_n 2), (64, .iload 5), (66, .istore_n 3), (67, .iinc 4 1), (70, .goto (-45)), (73, .iload_n 2), (74, .ireturn)]
set_option maxRecDepth 20000 in
theorem oX4_blind : zokC cX4_blind kX4_blind = true := by decide +kernel
def kX4_carry : List (Nat × Instr) := [(0, .aload_n 0), (1, .getfield 241), (4, .ifCond .eq 13), (7, .aload_n 0), (8, .getfield 75), (11, .aload_n 0), (12, .getfield 244), (15, .iload_n 1), (16, .iastore), (17, .aload_n 0), (18, .dup), (19, .getfield 244), (22, .iconst 1), (23, .iadd), (24, .putfield 244), (27, .aload_n 0), (28, .getfield 75), (31, .aload_n 0), (32, .getfield 244), (35, .iconst 1), (36, .isub), (37, .iaload), (38, .ireturn)]
set_option maxRecDepth 20000 in
theorem oX4_carry : zokC cX4_carry kX4_carry = true := by decide +kernel
def kX4_carryAll : List (Nat × Instr) := [(0, .aload_n 0), (1, .iconst 0), (2, .putfield 244), (5, .aload_n 0), (6, .aload_n 0), (7, .aload_n 0), (8, .getfield 81), (11, .invokevirtual 247), (14, .putfield 81), (17, .aload_n 0), (18, .aload_n 0), (19, .aload_n 0), (20, .getfield 16), (23, .invokevirtual 247), (26, .putfield 16), (29, .aload_n 0), (30, .aload_n 0), (31, .aload_n 0), (32, .getfield 88), (35, .invokevirtual 247), (38, .putfield 88), (41, .aload_n 0), (42, .aload_n 0), (43, .aload_n 0), (44, .getfield 162), (47, .invokevirtual 247), (50, .putfield 162), (53, .aload_n 0), (54, .aload_n 0), (55, .aload_n 0), (56, .getfield 165), (59, .invokevirtual 247), (62, .putfield 165), (65, .aload_n 0), (66, .aload_n 0), (67, .aload_n 0), (68, .getfield 91), (71, .invokevirtual 247), (74, .putfield 91), (77, .iconst 0), (78, .istore_n 1), (79, .iload_n 1), (80, .bipush 24), (82, .if_icmp .ge 41), (85, .aload_n 0), (86, .getfield 7), (89, .iload_n 1), (90, .aload_n 0), (91, .aload_n 0), (92, .getfield 7), (95, .iload_n 1), (96, .iaload), (97, .invokevirtual 247), (100, .iastore), (101, .aload_n 0), (102, .getfield 13), (105, .iload_n 1), (106, .aload_n 0), (107, .aload_n 0), (108, .getfield 13), (111, .iload_n 1), (112, .iaload), (113, .invokevirtual 247), (116, .iastore), (117, .iinc 1 1), (120, .goto (-41)), (123, .iconst 0), (124, .istore_n 1), (125, .iload_n 1), (126, .bipush 8), (128, .if_icmp .ge 73), (131, .aload_n 0), (132, .getfield 20), (135, .iload_n 1), (136, .aload_n 0), (137, .aload_n 0), (138, .getfield 20), (141, .iload_n 1), (142, .iaload), (143, .invokevirtual 247), (146, .iastore), (147, .aload_n 0), (148, .getfield 23), (151, .iload_n 1), (152, .aload_n 0), (153, .aload_n 0), (154, .getfield 23), (157, .iload_n 1), (158, .iaload), (159, .invokevirtual 247), (162, .iastore), (163, .aload_n 0), (164, .getfield 26), (167, .iload_n 1), (168, .aload_n 0), (169, .aload_n 0), (170, .getfield 26), (173, .iload_n 1), (174, .iaload), (175, .invokevirtual 247), (178, .iastore), (179, .aload_n 0), (180, .getfield 29), (183, .iload_n 1), (184, .aload_n 0), (185, .aload_n 0), (186, .getfield 29), (189, .iload_n 1), (190, .iaload), (191, .invokevirtual 247), (194, .iastore), (195, .iinc 1 1), (198, .goto (-73)), (201, .iconst 0), (202, .istore_n 1), (203, .iload_n 1), (204, .bipush 10), (206, .if_icmp .ge 25), (209, .aload_n 0), (210, .getfield 32), (213, .iload_n 1), (214, .aload_n 0), (215, .aload_n 0), (216, .getfield 32), (219, .iload_n 1), (220, .iaload), (221, .invokevirtual 247), (224, .iastore), (225, .iinc 1 1), (228, .goto (-25)), (231, .iconst 0), (232, .istore_n 1), (233, .iload_n 1), (234, .sipush 240), (237, .if_icmp .ge 73), (240, .aload_n 0), (241, .getfield 35), (244, .iload_n 1), (245, .aload_n 0), (246, .aload_n 0), (247, .getfield 35), (250, .iload_n 1), (251, .iaload), (252, .invokevirtual 247), (255, .iastore), (256, .aload_n 0), (257, .getfield 38), (260, .iload_n 1), (261, .aload_n 0), (262, .aload_n 0), (263, .getfield 38), (266, .iload_n 1), (267, .iaload), (268, .invokevirtual 247), (271, .iastore), (272, .aload_n 0), (273, .getfield 41), (276, .iload_n 1), (277, .aload_n 0), (278, .aload_n 0), (279, .getfield 41), (282, .iload_n 1), (283, .iaload), (284, .invokevirtual 247), (287, .iastore), (288, .aload_n 0), (289, .getfield 44), (292, .iload_n 1), (293, .aload_n 0), (294, .aload_n 0), (295, .getfield 44), (298, .iload_n 1), (299, .iaload), (300, .invokevirtual 247), (303, .iastore), (304, .iinc 1 1), (307, .goto (-74)), (310, .return_)]
set_option maxRecDepth 20000 in
theorem oX4_carryAll : zokC cX4_carryAll kX4_carryAll = true := by decide +kernel
def kX4_image : List (Nat × Instr) := [(0, .aload_n 0), (1, .iconst 1), (2, .putfield 250), (5, .aload_n 0), (6, .iconst 1), (7, .putfield 241), (10, .aload_n 0), (11, .invokevirtual 253), (14, .aload_n 0), (15, .getfield 165), (18, .ireturn)]
set_option maxRecDepth 20000 in
theorem oX4_image : zokC cX4_image kX4_image = true := by decide +kernel
def kX4_restore : List (Nat × Instr) := [(0, .aload_n 0), (1, .getfield 250), (4, .ifCond .ne 10), (7, .aload_n 0), (8, .bipush (-3)), (10, .invokevirtual 96), (13, .ireturn), (14, .aload_n 0), (15, .iconst 0), (16, .putfield 241), (19, .aload_n 0), (20, .invokevirtual 253), (23, .aload_n 0), (24, .getfield 165), (27, .ireturn)]
set_option maxRecDepth 20000 in
theorem oX4_restore : zokC cX4_restore kX4_restore = true := by decide +kernel
def kX4_count : List (Nat × Instr) := [(0, .iload_n 1), (1, .tableswitch 111 0 7 #[47, 52, 57, 62, 67, 72, 77, 106]), (48, .aload_n 0), (49, .getfield 81), (52, .ireturn), (53, .aload_n 0), (54, .getfield 88), (57, .ireturn), (58, .aload_n 0), (59, .getfield 91), (62, .ireturn), (63, .aload_n 0), (64, .getfield 165), (67, .ireturn), (68, .aload_n 0), (69, .getfield 16), (72, .ireturn), (73, .aload_n 0), (74, .getfield 162), (77, .ireturn), (78, .iconst 0), (79, .istore_n 2), (80, .iconst 0), (81, .istore_n 3), (82, .iload_n 3), (83, .aload_n 0), (84, .getfield 88), (87, .if_icmp .ge 18), (90, .iload_n 2), (91, .aload_n 0), (92, .getfield 29), (95, .iload_n 3), (96, .iaload), (97, .iadd), (98, .istore_n 2), (99, .iinc 3 1), (102, .goto (-20)), (105, .iload_n 2), (106, .ireturn), (107, .aload_n 0), (108, .getfield 78), (111, .ireturn), (112, .iload_n 1), (113, .i2l), (114, .ldc2_w 256), (117, .ldc2_w 258), (120, .invokestatic 84), (123, .ifCond .eq 15), (126, .aload_n 0), (127, .getfield 50), (130, .iload_n 1), (131, .bipush 10), (133, .isub), (134, .iaload), (135, .goto 5), (138, .bipush (-9)), (140, .ireturn)]
set_option maxRecDepth 20000 in
theorem oX4_count : zokC cX4_count kX4_count = true := by decide +kernel
def kJ9_max_7cf53 : List (Nat × Instr) := [(0, .iload_n 0), (1, .iload_n 1), (2, .if_icmp .lt 7), (5, .iload_n 0), (6, .goto 4), (9, .iload_n 1), (10, .ireturn)]
set_option maxRecDepth 20000 in
theorem oJ9_max_7cf53 : zokC cJ9_max_7cf53 kJ9_max_7cf53 = true := by decide +kernel
def kJ9_min_7cf53 : List (Nat × Instr) := [(0, .iload_n 0), (1, .iload_n 1), (2, .if_icmp .gt 7), (5, .iload_n 0), (6, .goto 4), (9, .iload_n 1), (10, .ireturn)]
set_option maxRecDepth 20000 in
theorem oJ9_min_7cf53 : zokC cJ9_min_7cf53 kJ9_min_7cf53 = true := by decide +kernel
def kJ7_fill_53178 : List (Nat × Instr) := [(0, .iconst 0), (1, .istore_n 2), (2, .aload_n 0), (3, .arraylength), (4, .istore_n 3), (5, .iload_n 2), (6, .iload_n 3), (7, .if_icmp .ge 13), (10, .aload_n 0), (11, .iload_n 2), (12, .iload_n 1), (13, .iastore), (14, .iinc 2 1), (17, .goto (-12)), (20, .return_)]
set_option maxRecDepth 20000 in
theorem oJ7_fill_53178 : zokC cJ7_fill_53178 kJ7_fill_53178 = true := by decide +kernel
end
section
def kL_law_0 : List (Nat × Instr) := [(0, .new 7), (3, .dup), (4, .invokespecial 9), (7, .astore_n 1), (8, .new 10), (11, .dup), (12, .invokespecial 12), (15, .astore_n 2), (16, .iconst 0), (17, .istore_n 3), (18, .iload_n 3), (19, .aload_n 0), (20, .arraylength), (21, .iconst 5), (22, .isub), (23, .if_icmp .gt 1128), (26, .aload_n 0), (27, .iload_n 3), (28, .iaload), (29, .bipush 31), (31, .iand), (32, .tableswitch 1113 0 30 #[140, 193, 236, 259, 322, 345, 408, 421, 454, 487, 520, 553, 576, 609, 632, 655, 678, 701, 724, 747, 790, 813, 846, 869, 922, 975, 1008, 1041, 1064, 1077, 1090]), (172, .aload_n 1), (173, .aload_n 0), (174, .iload_n 3), (175, .iconst 1), (176, .iadd), (177, .iaload), (178, .aload_n 0), (179, .iload_n 3), (180, .iconst 2), (181, .iadd), (182, .iaload), (183, .aload_n 0), (184, .iload_n 3), (185, .iconst 3), (186, .iadd), (187, .iaload), (188, .aload_n 0), (189, .iload_n 3), (190, .iconst 4), (191, .iadd), (192, .iaload), (193, .invokevirtual 13), (196, .aload_n 2), (197, .aload_n 0), (198, .iload_n 3), (199, .iconst 1), (200, .iadd), (201, .iaload), (202, .aload_n 0), (203, .iload_n 3), (204, .iconst 2), (205, .iadd), (206, .iaload), (207, .aload_n 0), (208, .iload_n 3), (209, .iconst 3), (210, .iadd), (211, .iaload)]
set_option maxRecDepth 20000 in
theorem oL_law_0 : zokC code kL_law_0 = true := by decide +kernel
def kL_law_1 : List (Nat × Instr) := [(212, .aload_n 0), (213, .iload_n 3), (214, .iconst 4), (215, .iadd), (216, .iaload), (217, .invokevirtual 17), (220, .if_icmp .eq 925), (223, .iconst 0), (224, .ireturn), (225, .aload_n 1), (226, .aload_n 0), (227, .iload_n 3), (228, .iconst 1), (229, .iadd), (230, .iaload), (231, .aload_n 0), (232, .iload_n 3), (233, .iconst 2), (234, .iadd), (235, .iaload), (236, .aload_n 0), (237, .iload_n 3), (238, .iconst 3), (239, .iadd), (240, .iaload), (241, .invokevirtual 18), (244, .aload_n 2), (245, .aload_n 0), (246, .iload_n 3), (247, .iconst 1), (248, .iadd), (249, .iaload), (250, .aload_n 0), (251, .iload_n 3), (252, .iconst 2), (253, .iadd), (254, .iaload), (255, .aload_n 0), (256, .iload_n 3), (257, .iconst 3), (258, .iadd), (259, .iaload), (260, .invokevirtual 22), (263, .if_icmp .eq 882), (266, .iconst 0), (267, .ireturn), (268, .aload_n 1), (269, .aload_n 0), (270, .iload_n 3), (271, .iconst 1), (272, .iadd), (273, .iaload), (274, .invokevirtual 23), (277, .aload_n 2), (278, .aload_n 0), (279, .iload_n 3), (280, .iconst 1), (281, .iadd), (282, .iaload), (283, .invokevirtual 27)]
set_option maxRecDepth 20000 in
theorem oL_law_1 : zokC code kL_law_1 = true := by decide +kernel
def kL_law_2 : List (Nat × Instr) := [(286, .if_icmp .eq 859), (289, .iconst 0), (290, .ireturn), (291, .aload_n 1), (292, .aload_n 0), (293, .iload_n 3), (294, .iconst 1), (295, .iadd), (296, .iaload), (297, .aload_n 0), (298, .iload_n 3), (299, .iconst 2), (300, .iadd), (301, .iaload), (302, .i2l), (303, .bipush 32), (305, .lshl), (306, .aload_n 0), (307, .iload_n 3), (308, .iconst 3), (309, .iadd), (310, .iaload), (311, .i2l), (312, .ldc2_w 28), (315, .land), (316, .lor), (317, .invokevirtual 30), (320, .aload_n 2), (321, .aload_n 0), (322, .iload_n 3), (323, .iconst 1), (324, .iadd), (325, .iaload), (326, .aload_n 0), (327, .iload_n 3), (328, .iconst 2), (329, .iadd), (330, .iaload), (331, .i2l), (332, .bipush 32), (334, .lshl), (335, .aload_n 0), (336, .iload_n 3), (337, .iconst 3), (338, .iadd), (339, .iaload), (340, .i2l), (341, .ldc2_w 28), (344, .land), (345, .lor), (346, .invokevirtual 34), (349, .if_icmp .eq 796), (352, .iconst 0), (353, .ireturn), (354, .aload_n 1), (355, .aload_n 0), (356, .iload_n 3), (357, .iconst 1), (358, .iadd), (359, .iaload)]
set_option maxRecDepth 20000 in
theorem oL_law_2 : zokC code kL_law_2 = true := by decide +kernel
def kL_law_3 : List (Nat × Instr) := [(360, .invokevirtual 35), (363, .aload_n 2), (364, .aload_n 0), (365, .iload_n 3), (366, .iconst 1), (367, .iadd), (368, .iaload), (369, .invokevirtual 38), (372, .if_icmp .eq 773), (375, .iconst 0), (376, .ireturn), (377, .aload_n 1), (378, .aload_n 0), (379, .iload_n 3), (380, .iconst 1), (381, .iadd), (382, .iaload), (383, .aload_n 0), (384, .iload_n 3), (385, .iconst 2), (386, .iadd), (387, .iaload), (388, .i2l), (389, .bipush 32), (391, .lshl), (392, .aload_n 0), (393, .iload_n 3), (394, .iconst 3), (395, .iadd), (396, .iaload), (397, .i2l), (398, .ldc2_w 28), (401, .land), (402, .lor), (403, .invokevirtual 39), (406, .aload_n 2), (407, .aload_n 0), (408, .iload_n 3), (409, .iconst 1), (410, .iadd), (411, .iaload), (412, .aload_n 0), (413, .iload_n 3), (414, .iconst 2), (415, .iadd), (416, .iaload), (417, .i2l), (418, .bipush 32), (420, .lshl), (421, .aload_n 0), (422, .iload_n 3), (423, .iconst 3), (424, .iadd), (425, .iaload), (426, .i2l), (427, .ldc2_w 28), (430, .land), (431, .lor), (432, .invokevirtual 42), (435, .if_icmp .eq 710)]
set_option maxRecDepth 20000 in
theorem oL_law_3 : zokC code kL_law_3 = true := by decide +kernel
def kL_law_4 : List (Nat × Instr) := [(438, .iconst 0), (439, .ireturn), (440, .aload_n 1), (441, .invokevirtual 43), (444, .aload_n 2), (445, .invokevirtual 47), (448, .if_icmp .eq 697), (451, .iconst 0), (452, .ireturn), (453, .aload_n 1), (454, .aload_n 0), (455, .iload_n 3), (456, .iconst 1), (457, .iadd), (458, .iaload), (459, .aload_n 0), (460, .iload_n 3), (461, .iconst 2), (462, .iadd), (463, .iaload), (464, .invokevirtual 48), (467, .aload_n 2), (468, .aload_n 0), (469, .iload_n 3), (470, .iconst 1), (471, .iadd), (472, .iaload), (473, .aload_n 0), (474, .iload_n 3), (475, .iconst 2), (476, .iadd), (477, .iaload), (478, .invokevirtual 52), (481, .if_icmp .eq 664), (484, .iconst 0), (485, .ireturn), (486, .aload_n 1), (487, .aload_n 0), (488, .iload_n 3), (489, .iconst 1), (490, .iadd), (491, .iaload), (492, .aload_n 0), (493, .iload_n 3), (494, .iconst 2), (495, .iadd), (496, .iaload), (497, .invokevirtual 53), (500, .aload_n 2), (501, .aload_n 0), (502, .iload_n 3), (503, .iconst 1), (504, .iadd), (505, .iaload), (506, .aload_n 0), (507, .iload_n 3), (508, .iconst 2), (509, .iadd), (510, .iaload), (511, .invokevirtual 56)]
set_option maxRecDepth 20000 in
theorem oL_law_4 : zokC code kL_law_4 = true := by decide +kernel
def kL_law_5 : List (Nat × Instr) := [(514, .if_icmp .eq 631), (517, .iconst 0), (518, .ireturn), (519, .aload_n 1), (520, .aload_n 0), (521, .iload_n 3), (522, .iconst 1), (523, .iadd), (524, .iaload), (525, .aload_n 0), (526, .iload_n 3), (527, .iconst 2), (528, .iadd), (529, .iaload), (530, .invokevirtual 57), (533, .aload_n 2), (534, .aload_n 0), (535, .iload_n 3), (536, .iconst 1), (537, .iadd), (538, .iaload), (539, .aload_n 0), (540, .iload_n 3), (541, .iconst 2), (542, .iadd), (543, .iaload), (544, .invokevirtual 60), (547, .if_icmp .eq 598), (550, .iconst 0), (551, .ireturn), (552, .aload_n 1), (553, .aload_n 0), (554, .iload_n 3), (555, .iconst 1), (556, .iadd), (557, .iaload), (558, .aload_n 0), (559, .iload_n 3), (560, .iconst 2), (561, .iadd), (562, .iaload), (563, .invokevirtual 61), (566, .aload_n 2), (567, .aload_n 0), (568, .iload_n 3), (569, .iconst 1), (570, .iadd), (571, .iaload), (572, .aload_n 0), (573, .iload_n 3), (574, .iconst 2), (575, .iadd), (576, .iaload), (577, .invokevirtual 64), (580, .if_icmp .eq 565), (583, .iconst 0), (584, .ireturn), (585, .aload_n 1), (586, .aload_n 0), (587, .iload_n 3)]
set_option maxRecDepth 20000 in
theorem oL_law_5 : zokC code kL_law_5 = true := by decide +kernel
def kL_law_6 : List (Nat × Instr) := [(588, .iconst 1), (589, .iadd), (590, .iaload), (591, .invokevirtual 65), (594, .aload_n 2), (595, .aload_n 0), (596, .iload_n 3), (597, .iconst 1), (598, .iadd), (599, .iaload), (600, .invokevirtual 68), (603, .if_icmp .eq 542), (606, .iconst 0), (607, .ireturn), (608, .aload_n 1), (609, .aload_n 0), (610, .iload_n 3), (611, .iconst 1), (612, .iadd), (613, .iaload), (614, .aload_n 0), (615, .iload_n 3), (616, .iconst 2), (617, .iadd), (618, .iaload), (619, .invokevirtual 69), (622, .aload_n 2), (623, .aload_n 0), (624, .iload_n 3), (625, .iconst 1), (626, .iadd), (627, .iaload), (628, .aload_n 0), (629, .iload_n 3), (630, .iconst 2), (631, .iadd), (632, .iaload), (633, .invokevirtual 72), (636, .if_icmp .eq 509), (639, .iconst 0), (640, .ireturn), (641, .aload_n 1), (642, .aload_n 0), (643, .iload_n 3), (644, .iconst 1), (645, .iadd), (646, .iaload), (647, .invokevirtual 73), (650, .aload_n 2), (651, .aload_n 0), (652, .iload_n 3), (653, .iconst 1), (654, .iadd), (655, .iaload), (656, .invokevirtual 76), (659, .if_icmp .eq 486), (662, .iconst 0), (663, .ireturn), (664, .aload_n 1), (665, .aload_n 0)]
set_option maxRecDepth 20000 in
theorem oL_law_6 : zokC code kL_law_6 = true := by decide +kernel
def kL_law_7 : List (Nat × Instr) := [(666, .iload_n 3), (667, .iconst 1), (668, .iadd), (669, .iaload), (670, .invokevirtual 77), (673, .aload_n 2), (674, .aload_n 0), (675, .iload_n 3), (676, .iconst 1), (677, .iadd), (678, .iaload), (679, .invokevirtual 80), (682, .if_icmp .eq 463), (685, .iconst 0), (686, .ireturn), (687, .aload_n 1), (688, .aload_n 0), (689, .iload_n 3), (690, .iconst 1), (691, .iadd), (692, .iaload), (693, .invokevirtual 81), (696, .aload_n 2), (697, .aload_n 0), (698, .iload_n 3), (699, .iconst 1), (700, .iadd), (701, .iaload), (702, .invokevirtual 84), (705, .if_icmp .eq 440), (708, .iconst 0), (709, .ireturn), (710, .aload_n 1), (711, .aload_n 0), (712, .iload_n 3), (713, .iconst 1), (714, .iadd), (715, .iaload), (716, .invokevirtual 85), (719, .aload_n 2), (720, .aload_n 0), (721, .iload_n 3), (722, .iconst 1), (723, .iadd), (724, .iaload), (725, .invokevirtual 88), (728, .if_icmp .eq 417), (731, .iconst 0), (732, .ireturn), (733, .aload_n 1), (734, .aload_n 0), (735, .iload_n 3), (736, .iconst 1), (737, .iadd), (738, .iaload), (739, .invokevirtual 89), (742, .aload_n 2), (743, .aload_n 0), (744, .iload_n 3), (745, .iconst 1)]
set_option maxRecDepth 20000 in
theorem oL_law_7 : zokC code kL_law_7 = true := by decide +kernel
def kL_law_8 : List (Nat × Instr) := [(746, .iadd), (747, .iaload), (748, .invokevirtual 92), (751, .if_icmp .eq 394), (754, .iconst 0), (755, .ireturn), (756, .aload_n 1), (757, .aload_n 0), (758, .iload_n 3), (759, .iconst 1), (760, .iadd), (761, .iaload), (762, .invokevirtual 93), (765, .aload_n 2), (766, .aload_n 0), (767, .iload_n 3), (768, .iconst 1), (769, .iadd), (770, .iaload), (771, .invokevirtual 96), (774, .if_icmp .eq 371), (777, .iconst 0), (778, .ireturn), (779, .aload_n 1), (780, .aload_n 0), (781, .iload_n 3), (782, .iconst 1), (783, .iadd), (784, .iaload), (785, .aload_n 0), (786, .iload_n 3), (787, .iconst 2), (788, .iadd), (789, .iaload), (790, .aload_n 0), (791, .iload_n 3), (792, .iconst 3), (793, .iadd), (794, .iaload), (795, .invokevirtual 97), (798, .aload_n 2), (799, .aload_n 0), (800, .iload_n 3), (801, .iconst 1), (802, .iadd), (803, .iaload), (804, .aload_n 0), (805, .iload_n 3), (806, .iconst 2), (807, .iadd), (808, .iaload), (809, .aload_n 0), (810, .iload_n 3), (811, .iconst 3), (812, .iadd), (813, .iaload), (814, .invokevirtual 100), (817, .if_icmp .eq 328), (820, .iconst 0), (821, .ireturn)]
set_option maxRecDepth 20000 in
theorem oL_law_8 : zokC code kL_law_8 = true := by decide +kernel
def kL_law_9 : List (Nat × Instr) := [(822, .aload_n 1), (823, .aload_n 0), (824, .iload_n 3), (825, .iconst 1), (826, .iadd), (827, .iaload), (828, .invokevirtual 101), (831, .aload_n 2), (832, .aload_n 0), (833, .iload_n 3), (834, .iconst 1), (835, .iadd), (836, .iaload), (837, .invokevirtual 104), (840, .if_icmp .eq 305), (843, .iconst 0), (844, .ireturn), (845, .aload_n 1), (846, .aload_n 0), (847, .iload_n 3), (848, .iconst 1), (849, .iadd), (850, .iaload), (851, .aload_n 0), (852, .iload_n 3), (853, .iconst 2), (854, .iadd), (855, .iaload), (856, .invokevirtual 105), (859, .aload_n 2), (860, .aload_n 0), (861, .iload_n 3), (862, .iconst 1), (863, .iadd), (864, .iaload), (865, .aload_n 0), (866, .iload_n 3), (867, .iconst 2), (868, .iadd), (869, .iaload), (870, .invokevirtual 108), (873, .if_icmp .eq 272), (876, .iconst 0), (877, .ireturn), (878, .aload_n 1), (879, .aload_n 0), (880, .iload_n 3), (881, .iconst 1), (882, .iadd), (883, .iaload), (884, .invokevirtual 109), (887, .aload_n 2), (888, .aload_n 0), (889, .iload_n 3), (890, .iconst 1), (891, .iadd), (892, .iaload), (893, .invokevirtual 112), (896, .if_icmp .eq 249), (899, .iconst 0)]
set_option maxRecDepth 20000 in
theorem oL_law_9 : zokC code kL_law_9 = true := by decide +kernel
def kL_law_10 : List (Nat × Instr) := [(900, .ireturn), (901, .aload_n 1), (902, .aload_n 0), (903, .iload_n 3), (904, .iconst 1), (905, .iadd), (906, .iaload), (907, .aload_n 0), (908, .iload_n 3), (909, .iconst 2), (910, .iadd), (911, .iaload), (912, .aload_n 0), (913, .iload_n 3), (914, .iconst 3), (915, .iadd), (916, .iaload), (917, .aload_n 0), (918, .iload_n 3), (919, .iconst 4), (920, .iadd), (921, .iaload), (922, .invokevirtual 113), (925, .aload_n 2), (926, .aload_n 0), (927, .iload_n 3), (928, .iconst 1), (929, .iadd), (930, .iaload), (931, .aload_n 0), (932, .iload_n 3), (933, .iconst 2), (934, .iadd), (935, .iaload), (936, .aload_n 0), (937, .iload_n 3), (938, .iconst 3), (939, .iadd), (940, .iaload), (941, .aload_n 0), (942, .iload_n 3), (943, .iconst 4), (944, .iadd), (945, .iaload), (946, .invokevirtual 116), (949, .if_icmp .eq 196), (952, .iconst 0), (953, .ireturn), (954, .aload_n 1), (955, .aload_n 0), (956, .iload_n 3), (957, .iconst 1), (958, .iadd), (959, .iaload), (960, .aload_n 0), (961, .iload_n 3), (962, .iconst 2), (963, .iadd), (964, .iaload), (965, .aload_n 0)]
set_option maxRecDepth 20000 in
theorem oL_law_10 : zokC code kL_law_10 = true := by decide +kernel
def kL_law_11 : List (Nat × Instr) := [(966, .iload_n 3), (967, .iconst 3), (968, .iadd), (969, .iaload), (970, .aload_n 0), (971, .iload_n 3), (972, .iconst 4), (973, .iadd), (974, .iaload), (975, .invokevirtual 117), (978, .aload_n 2), (979, .aload_n 0), (980, .iload_n 3), (981, .iconst 1), (982, .iadd), (983, .iaload), (984, .aload_n 0), (985, .iload_n 3), (986, .iconst 2), (987, .iadd), (988, .iaload), (989, .aload_n 0), (990, .iload_n 3), (991, .iconst 3), (992, .iadd), (993, .iaload), (994, .aload_n 0), (995, .iload_n 3), (996, .iconst 4), (997, .iadd), (998, .iaload), (999, .invokevirtual 120), (1002, .if_icmp .eq 143), (1005, .iconst 0), (1006, .ireturn), (1007, .aload_n 1), (1008, .aload_n 0), (1009, .iload_n 3), (1010, .iconst 1), (1011, .iadd), (1012, .iaload), (1013, .aload_n 0), (1014, .iload_n 3), (1015, .iconst 2), (1016, .iadd), (1017, .iaload), (1018, .invokevirtual 121), (1021, .aload_n 2), (1022, .aload_n 0), (1023, .iload_n 3), (1024, .iconst 1), (1025, .iadd), (1026, .iaload), (1027, .aload_n 0), (1028, .iload_n 3), (1029, .iconst 2), (1030, .iadd), (1031, .iaload), (1032, .invokevirtual 124), (1035, .if_icmp .eq 110)]
set_option maxRecDepth 20000 in
theorem oL_law_11 : zokC code kL_law_11 = true := by decide +kernel
def kL_law_12 : List (Nat × Instr) := [(1038, .iconst 0), (1039, .ireturn), (1040, .aload_n 1), (1041, .aload_n 0), (1042, .iload_n 3), (1043, .iconst 1), (1044, .iadd), (1045, .iaload), (1046, .aload_n 0), (1047, .iload_n 3), (1048, .iconst 2), (1049, .iadd), (1050, .iaload), (1051, .invokevirtual 125), (1054, .aload_n 2), (1055, .aload_n 0), (1056, .iload_n 3), (1057, .iconst 1), (1058, .iadd), (1059, .iaload), (1060, .aload_n 0), (1061, .iload_n 3), (1062, .iconst 2), (1063, .iadd), (1064, .iaload), (1065, .invokevirtual 128), (1068, .if_icmp .eq 77), (1071, .iconst 0), (1072, .ireturn), (1073, .aload_n 1), (1074, .aload_n 0), (1075, .iload_n 3), (1076, .iconst 1), (1077, .iadd), (1078, .iaload), (1079, .invokevirtual 129), (1082, .aload_n 2), (1083, .aload_n 0), (1084, .iload_n 3), (1085, .iconst 1), (1086, .iadd), (1087, .iaload), (1088, .invokevirtual 132), (1091, .if_icmp .eq 54), (1094, .iconst 0), (1095, .ireturn), (1096, .aload_n 1), (1097, .invokevirtual 133), (1100, .aload_n 2), (1101, .invokevirtual 136), (1104, .if_icmp .eq 41), (1107, .iconst 0), (1108, .ireturn), (1109, .aload_n 1), (1110, .invokevirtual 137), (1113, .aload_n 2), (1114, .invokevirtual 140), (1117, .if_icmp .eq 28), (1120, .iconst 0), (1121, .ireturn)]
set_option maxRecDepth 20000 in
theorem oL_law_12 : zokC code kL_law_12 = true := by decide +kernel
def kL_law_13 : List (Nat × Instr) := [(1122, .aload_n 1), (1123, .aload_n 0), (1124, .iload_n 3), (1125, .iconst 1), (1126, .iadd), (1127, .iaload), (1128, .invokevirtual 141), (1131, .aload_n 2), (1132, .aload_n 0), (1133, .iload_n 3), (1134, .iconst 1), (1135, .iadd), (1136, .iaload), (1137, .invokevirtual 144), (1140, .if_icmp .eq 5), (1143, .iconst 0), (1144, .ireturn), (1145, .iinc 3 5), (1148, .goto (-1130)), (1151, .iconst 1), (1152, .ireturn)]
set_option maxRecDepth 20000 in
theorem oL_law_13 : zokC code kL_law_13 = true := by decide +kernel
def kL_law : List (Nat × Instr) := kL_law_0 ++ (kL_law_1 ++ (kL_law_2 ++ (kL_law_3 ++ (kL_law_4 ++ (kL_law_5 ++ (kL_law_6 ++ (kL_law_7 ++ (kL_law_8 ++ (kL_law_9 ++ (kL_law_10 ++ (kL_law_11 ++ (kL_law_12 ++ (kL_law_13)))))))))))))
theorem zokC_app {cc : ByteArray} {a b : List (Nat × Instr)} (h1 : zokC cc a = true) (h2 : zokC cc b = true) : zokC cc (a ++ b) = true := by
  unfold zokC at *
  rw [List.all_append, h1, h2]; rfl
theorem oL_law : zokC code kL_law = true := zokC_app oL_law_0 (zokC_app oL_law_1 (zokC_app oL_law_2 (zokC_app oL_law_3 (zokC_app oL_law_4 (zokC_app oL_law_5 (zokC_app oL_law_6 (zokC_app oL_law_7 (zokC_app oL_law_8 (zokC_app oL_law_9 (zokC_app oL_law_10 (zokC_app oL_law_11 (zokC_app oL_law_12 (oL_law_13)))))))))))))
end
section
theorem vX3_39 : zCS RX3 39 yJ9_min_7cf53 cJ9_min_7cf53 2 (some .int) 2 := ⟨⟨zin_mem (h := 197) (by decide +kernel), zin_mem (h := 198) (by decide +kernel), zin_mem (h := 58) (by decide +kernel), zin_mem (h := 199) (by decide +kernel)⟩, by decide +kernel, by decide +kernel, by decide +kernel⟩
theorem vX3_45 : zCS RX3 45 yJ9_max_7cf53 cJ9_max_7cf53 2 (some .int) 2 := ⟨⟨zin_mem (h := 200) (by decide +kernel), zin_mem (h := 201) (by decide +kernel), zin_mem (h := 58) (by decide +kernel), zin_mem (h := 202) (by decide +kernel)⟩, by decide +kernel, by decide +kernel, by decide +kernel⟩
theorem vX3_48 : zCV RX3 48 yX3_refuse cX3_refuse 3 (some .int) 1 := ⟨⟨zin_mem (h := 203) (by decide +kernel), zin_mem (h := 205) (by decide +kernel), zin_mem (h := 0) (by decide +kernel), zin_mem (h := 54) (by decide +kernel), zin_mem (h := 206) (by decide +kernel)⟩, by decide +kernel, by decide +kernel, by decide +kernel⟩
theorem vX3_56 : zCV RX3 56 yX0_addWay cX0_addWay 6 (some .int) 4 := ⟨⟨zin_mem (h := 207) (by decide +kernel), zin_mem (h := 208) (by decide +kernel), zin_mem (h := 209) (by decide +kernel), zin_mem (h := 55) (by decide +kernel), zin_mem (h := 210) (by decide +kernel)⟩, by decide +kernel, by decide +kernel, by decide +kernel⟩
theorem vX3_60 : zCV RX3 60 yX3_isWay cX3_isWay 2 (some .boolean) 1 := ⟨⟨zin_mem (h := 215) (by decide +kernel), zin_mem (h := 217) (by decide +kernel), zin_mem (h := 1) (by decide +kernel), zin_mem (h := 54) (by decide +kernel), zin_mem (h := 218) (by decide +kernel)⟩, by decide +kernel, by decide +kernel, by decide +kernel⟩
theorem vX3_64 : zCS RX3 64 yX3_isWeather cX3_isWeather 1 (some .boolean) 1 := ⟨⟨zin_mem (h := 219) (by decide +kernel), zin_mem (h := 220) (by decide +kernel), zin_mem (h := 54) (by decide +kernel), zin_mem (h := 221) (by decide +kernel)⟩, by decide +kernel, by decide +kernel, by decide +kernel⟩
theorem vX3_67 : zCS RX3 67 yX3_whyOutside cX3_whyOutside 3 (some .int) 3 := ⟨⟨zin_mem (h := 222) (by decide +kernel), zin_mem (h := 223) (by decide +kernel), zin_mem (h := 54) (by decide +kernel), zin_mem (h := 224) (by decide +kernel)⟩, by decide +kernel, by decide +kernel, by decide +kernel⟩
theorem vX3_71 : zCV RX3 71 yX0_bringsOf cX0_bringsOf 3 (some .int) 2 := ⟨⟨zin_mem (h := 225) (by decide +kernel), zin_mem (h := 226) (by decide +kernel), zin_mem (h := 227) (by decide +kernel), zin_mem (h := 55) (by decide +kernel), zin_mem (h := 228) (by decide +kernel)⟩, by decide +kernel, by decide +kernel, by decide +kernel⟩
theorem vX3_77 : zCV RX3 77 yX0_bestIn cX0_bestIn 4 (some .int) 1 := ⟨⟨zin_mem (h := 233) (by decide +kernel), zin_mem (h := 234) (by decide +kernel), zin_mem (h := 235) (by decide +kernel), zin_mem (h := 55) (by decide +kernel), zin_mem (h := 236) (by decide +kernel)⟩, by decide +kernel, by decide +kernel, by decide +kernel⟩
theorem vX3_87 : zCV RX3 87 yX0_weatherOf cX0_weatherOf 3 (some .int) 1 := ⟨⟨zin_mem (h := 247) (by decide +kernel), zin_mem (h := 248) (by decide +kernel), zin_mem (h := 249) (by decide +kernel), zin_mem (h := 55) (by decide +kernel), zin_mem (h := 250) (by decide +kernel)⟩, by decide +kernel, by decide +kernel, by decide +kernel⟩
theorem vX3_93 : zCV RX3 93 yX1_take cX1_take 2 none 1 := ⟨⟨zin_mem (h := 255) (by decide +kernel), zin_mem (h := 256) (by decide +kernel), zin_mem (h := 257) (by decide +kernel), zin_mem (h := 56) (by decide +kernel), zin_mem (h := 258) (by decide +kernel)⟩, by decide +kernel, by decide +kernel, by decide +kernel⟩
theorem vX3_100 : zCV RX3 100 yX1_readAll cX1_readAll 2 (some (.object "YamIsland$Rule")) 0 := ⟨⟨zin_mem (h := 263) (by decide +kernel), zin_mem (h := 264) (by decide +kernel), zin_mem (h := 265) (by decide +kernel), zin_mem (h := 56) (by decide +kernel), zin_mem (h := 266) (by decide +kernel)⟩, by decide +kernel, by decide +kernel, by decide +kernel⟩
theorem vX3_107 : zCV RX3 107 yX0_addRule cX0_addRule 2 (some .int) 1 := ⟨⟨zin_mem (h := 311) (by decide +kernel), zin_mem (h := 312) (by decide +kernel), zin_mem (h := 313) (by decide +kernel), zin_mem (h := 55) (by decide +kernel), zin_mem (h := 314) (by decide +kernel)⟩, by decide +kernel, by decide +kernel, by decide +kernel⟩
theorem vX3_111 : zCV RX3 111 yX3_isRule cX3_isRule 2 (some .boolean) 1 := ⟨⟨zin_mem (h := 319) (by decide +kernel), zin_mem (h := 321) (by decide +kernel), zin_mem (h := 7) (by decide +kernel), zin_mem (h := 54) (by decide +kernel), zin_mem (h := 322) (by decide +kernel)⟩, by decide +kernel, by decide +kernel, by decide +kernel⟩
theorem vX3_117 : zCV RX3 117 yX0_addPerson cX0_addPerson 3 (some .int) 2 := ⟨⟨zin_mem (h := 323) (by decide +kernel), zin_mem (h := 324) (by decide +kernel), zin_mem (h := 325) (by decide +kernel), zin_mem (h := 55) (by decide +kernel), zin_mem (h := 326) (by decide +kernel)⟩, by decide +kernel, by decide +kernel, by decide +kernel⟩
theorem vX3_120 : zCV RX3 120 yX3_isPerson cX3_isPerson 2 (some .boolean) 1 := ⟨⟨zin_mem (h := 331) (by decide +kernel), zin_mem (h := 333) (by decide +kernel), zin_mem (h := 8) (by decide +kernel), zin_mem (h := 54) (by decide +kernel), zin_mem (h := 334) (by decide +kernel)⟩, by decide +kernel, by decide +kernel, by decide +kernel⟩
theorem vX3_126 : zCS RX3 126 yX3_exchange cX3_exchange 4 (some .int) 3 := ⟨⟨zin_mem (h := 335) (by decide +kernel), zin_mem (h := 336) (by decide +kernel), zin_mem (h := 54) (by decide +kernel), zin_mem (h := 337) (by decide +kernel)⟩, by decide +kernel, by decide +kernel, by decide +kernel⟩
theorem vX3_145 : zCV RX3 145 yX0_harvest cX0_harvest 5 none 0 := ⟨⟨zin_mem (h := 358) (by decide +kernel), zin_mem (h := 359) (by decide +kernel), zin_mem (h := 360) (by decide +kernel), zin_mem (h := 55) (by decide +kernel), zin_mem (h := 361) (by decide +kernel)⟩, by decide +kernel, by decide +kernel, by decide +kernel⟩
theorem vX3_148 : zCV RX3 148 yX0_choiceOf cX0_choiceOf 5 (some .int) 1 := ⟨⟨zin_mem (h := 366) (by decide +kernel), zin_mem (h := 367) (by decide +kernel), zin_mem (h := 368) (by decide +kernel), zin_mem (h := 55) (by decide +kernel), zin_mem (h := 369) (by decide +kernel)⟩, by decide +kernel, by decide +kernel, by decide +kernel⟩
theorem vX3_151 : zCV RX3 151 yX3_whyNoRun cX3_whyNoRun 3 (some .int) 1 := ⟨⟨zin_mem (h := 397) (by decide +kernel), zin_mem (h := 399) (by decide +kernel), zin_mem (h := 13) (by decide +kernel), zin_mem (h := 54) (by decide +kernel), zin_mem (h := 400) (by decide +kernel)⟩, by decide +kernel, by decide +kernel, by decide +kernel⟩
theorem vX3_154 : zCV RX3 154 yX0_passYears cX0_passYears 4 none 1 := ⟨⟨zin_mem (h := 401) (by decide +kernel), zin_mem (h := 402) (by decide +kernel), zin_mem (h := 403) (by decide +kernel), zin_mem (h := 55) (by decide +kernel), zin_mem (h := 404) (by decide +kernel)⟩, by decide +kernel, by decide +kernel, by decide +kernel⟩
theorem vX3_157 : zCV RX3 157 yX0_plantersOf cX0_plantersOf 4 (some .int) 1 := ⟨⟨zin_mem (h := 414) (by decide +kernel), zin_mem (h := 415) (by decide +kernel), zin_mem (h := 416) (by decide +kernel), zin_mem (h := 55) (by decide +kernel), zin_mem (h := 417) (by decide +kernel)⟩, by decide +kernel, by decide +kernel, by decide +kernel⟩
theorem vX3_160 : zCV RX3 160 yX3_faresNow cX3_faresNow 2 (some .int) 1 := ⟨⟨zin_mem (h := 422) (by decide +kernel), zin_mem (h := 424) (by decide +kernel), zin_mem (h := 14) (by decide +kernel), zin_mem (h := 54) (by decide +kernel), zin_mem (h := 425) (by decide +kernel)⟩, by decide +kernel, by decide +kernel, by decide +kernel⟩
theorem vX3_163 : zCV RX3 163 yX0_imagine cX0_imagine 2 none 1 := ⟨⟨zin_mem (h := 426) (by decide +kernel), zin_mem (h := 427) (by decide +kernel), zin_mem (h := 428) (by decide +kernel), zin_mem (h := 55) (by decide +kernel), zin_mem (h := 429) (by decide +kernel)⟩, by decide +kernel, by decide +kernel, by decide +kernel⟩
theorem vX3_167 : zCV RX3 167 yX0_isWrong cX0_isWrong 2 (some .boolean) 0 := ⟨⟨zin_mem (h := 446) (by decide +kernel), zin_mem (h := 447) (by decide +kernel), zin_mem (h := 448) (by decide +kernel), zin_mem (h := 55) (by decide +kernel), zin_mem (h := 449) (by decide +kernel)⟩, by decide +kernel, by decide +kernel, by decide +kernel⟩
theorem vX3_171 : zCV RX3 171 yX0_isAlike cX0_isAlike 1 (some .boolean) 0 := ⟨⟨zin_mem (h := 460) (by decide +kernel), zin_mem (h := 451) (by decide +kernel), zin_mem (h := 452) (by decide +kernel), zin_mem (h := 55) (by decide +kernel), zin_mem (h := 453) (by decide +kernel)⟩, by decide +kernel, by decide +kernel, by decide +kernel⟩
theorem vX3_174 : zCV RX3 174 yX3_refuseFar cX3_refuseFar 2 (some .int) 1 := ⟨⟨zin_mem (h := 465) (by decide +kernel), zin_mem (h := 467) (by decide +kernel), zin_mem (h := 16) (by decide +kernel), zin_mem (h := 54) (by decide +kernel), zin_mem (h := 468) (by decide +kernel)⟩, by decide +kernel, by decide +kernel, by decide +kernel⟩
theorem vX3_177 : zCV RX3 177 yX3_broughtBy cX3_broughtBy 5 (some .int) 4 := ⟨⟨zin_mem (h := 470) (by decide +kernel), zin_mem (h := 472) (by decide +kernel), zin_mem (h := 17) (by decide +kernel), zin_mem (h := 54) (by decide +kernel), zin_mem (h := 473) (by decide +kernel)⟩, by decide +kernel, by decide +kernel, by decide +kernel⟩
theorem vX3_181 : zCV RX3 181 yX3_learnOwn cX3_learnOwn 3 none 2 := ⟨⟨zin_mem (h := 478) (by decide +kernel), zin_mem (h := 480) (by decide +kernel), zin_mem (h := 18) (by decide +kernel), zin_mem (h := 54) (by decide +kernel), zin_mem (h := 481) (by decide +kernel)⟩, by decide +kernel, by decide +kernel, by decide +kernel⟩
theorem vX3_185 : zCV RX3 185 yX3_faresInParts cX3_faresInParts 5 (some .int) 4 := ⟨⟨zin_mem (h := 487) (by decide +kernel), zin_mem (h := 489) (by decide +kernel), zin_mem (h := 19) (by decide +kernel), zin_mem (h := 54) (by decide +kernel), zin_mem (h := 490) (by decide +kernel)⟩, by decide +kernel, by decide +kernel, by decide +kernel⟩
theorem vX3_188 : zCV RX3 188 yX3_bestPart cX3_bestPart 8 (some .int) 3 := ⟨⟨zin_mem (h := 503) (by decide +kernel), zin_mem (h := 505) (by decide +kernel), zin_mem (h := 20) (by decide +kernel), zin_mem (h := 54) (by decide +kernel), zin_mem (h := 506) (by decide +kernel)⟩, by decide +kernel, by decide +kernel, by decide +kernel⟩
theorem vX3_191 : zCV RX3 191 yX3_partAtRest cX3_partAtRest 5 (some .int) 3 := ⟨⟨zin_mem (h := 507) (by decide +kernel), zin_mem (h := 509) (by decide +kernel), zin_mem (h := 21) (by decide +kernel), zin_mem (h := 54) (by decide +kernel), zin_mem (h := 510) (by decide +kernel)⟩, by decide +kernel, by decide +kernel, by decide +kernel⟩
theorem vX3_194 : zCV RX3 194 yX3_faresUnder cX3_faresUnder 6 (some .int) 5 := ⟨⟨zin_mem (h := 519) (by decide +kernel), zin_mem (h := 521) (by decide +kernel), zin_mem (h := 23) (by decide +kernel), zin_mem (h := 54) (by decide +kernel), zin_mem (h := 522) (by decide +kernel)⟩, by decide +kernel, by decide +kernel, by decide +kernel⟩
theorem vX3_198 : zCV RX3 198 yX3_whyNoRunWith cX3_whyNoRunWith 5 (some .int) 3 := ⟨⟨zin_mem (h := 531) (by decide +kernel), zin_mem (h := 533) (by decide +kernel), zin_mem (h := 24) (by decide +kernel), zin_mem (h := 54) (by decide +kernel), zin_mem (h := 534) (by decide +kernel)⟩, by decide +kernel, by decide +kernel, by decide +kernel⟩
theorem vX3_201 : zCV RX3 201 yX0_seeAhead cX0_seeAhead 6 none 1 := ⟨⟨zin_mem (h := 535) (by decide +kernel), zin_mem (h := 536) (by decide +kernel), zin_mem (h := 537) (by decide +kernel), zin_mem (h := 55) (by decide +kernel), zin_mem (h := 538) (by decide +kernel)⟩, by decide +kernel, by decide +kernel, by decide +kernel⟩
theorem vX3_204 : zCV RX3 204 yX3_faresInMind cX3_faresInMind 2 (some .int) 1 := ⟨⟨zin_mem (h := 434) (by decide +kernel), zin_mem (h := 436) (by decide +kernel), zin_mem (h := 15) (by decide +kernel), zin_mem (h := 54) (by decide +kernel), zin_mem (h := 437) (by decide +kernel)⟩, by decide +kernel, by decide +kernel, by decide +kernel⟩
theorem vX3_210 : zCV RX3 210 yX0_copyFrom cX0_copyFrom 3 none 1 := ⟨⟨zin_mem (h := 551) (by decide +kernel), zin_mem (h := 431) (by decide +kernel), zin_mem (h := 432) (by decide +kernel), zin_mem (h := 55) (by decide +kernel), zin_mem (h := 433) (by decide +kernel)⟩, by decide +kernel, by decide +kernel, by decide +kernel⟩
theorem vX3_217 : zCV RX3 217 yX0_allBrought cX0_allBrought 3 (some .int) 0 := ⟨⟨zin_mem (h := 438) (by decide +kernel), zin_mem (h := 439) (by decide +kernel), zin_mem (h := 440) (by decide +kernel), zin_mem (h := 55) (by decide +kernel), zin_mem (h := 441) (by decide +kernel)⟩, by decide +kernel, by decide +kernel, by decide +kernel⟩
theorem vX3_222 : zCV RX3 222 yX0_liveInParts cX0_liveInParts 5 none 3 := ⟨⟨zin_mem (h := 491) (by decide +kernel), zin_mem (h := 492) (by decide +kernel), zin_mem (h := 493) (by decide +kernel), zin_mem (h := 55) (by decide +kernel), zin_mem (h := 494) (by decide +kernel)⟩, by decide +kernel, by decide +kernel, by decide +kernel⟩
theorem vX3_226 : zCV RX3 226 yX0_turnSky cX0_turnSky 5 none 3 := ⟨⟨zin_mem (h := 523) (by decide +kernel), zin_mem (h := 524) (by decide +kernel), zin_mem (h := 525) (by decide +kernel), zin_mem (h := 55) (by decide +kernel), zin_mem (h := 526) (by decide +kernel)⟩, by decide +kernel, by decide +kernel, by decide +kernel⟩
theorem vX3_229 : zCV RX3 229 yX3_nobodyGains cX3_nobodyGains 6 (some .boolean) 4 := ⟨⟨zin_mem (h := 511) (by decide +kernel), zin_mem (h := 513) (by decide +kernel), zin_mem (h := 22) (by decide +kernel), zin_mem (h := 54) (by decide +kernel), zin_mem (h := 514) (by decide +kernel)⟩, by decide +kernel, by decide +kernel, by decide +kernel⟩
theorem vX0_79 : zCV RX0 79 yX0_copyFrom cX0_copyFrom 3 none 1 := ⟨⟨zin_mem (h := 430) (by decide +kernel), zin_mem (h := 431) (by decide +kernel), zin_mem (h := 432) (by decide +kernel), zin_mem (h := 55) (by decide +kernel), zin_mem (h := 433) (by decide +kernel)⟩, by decide +kernel, by decide +kernel, by decide +kernel⟩
theorem vX0_83 : zCS RX0 83 yJ7_fill_53178 cJ7_fill_53178 4 none 2 := ⟨⟨zin_mem (h := 382) (by decide +kernel), zin_mem (h := 383) (by decide +kernel), zin_mem (h := 60) (by decide +kernel), zin_mem (h := 384) (by decide +kernel)⟩, by decide +kernel, by decide +kernel, by decide +kernel⟩
theorem vX0_89 : zCV RX0 89 yX0_bringsOf cX0_bringsOf 3 (some .int) 2 := ⟨⟨zin_mem (h := 237) (by decide +kernel), zin_mem (h := 226) (by decide +kernel), zin_mem (h := 227) (by decide +kernel), zin_mem (h := 55) (by decide +kernel), zin_mem (h := 228) (by decide +kernel)⟩, by decide +kernel, by decide +kernel, by decide +kernel⟩
theorem vX0_93 : zCV RX0 93 yX0_plantersOf cX0_plantersOf 4 (some .int) 1 := ⟨⟨zin_mem (h := 454) (by decide +kernel), zin_mem (h := 415) (by decide +kernel), zin_mem (h := 416) (by decide +kernel), zin_mem (h := 55) (by decide +kernel), zin_mem (h := 417) (by decide +kernel)⟩, by decide +kernel, by decide +kernel, by decide +kernel⟩
theorem vX0_97 : zCV RX0 97 yX0_weatherOf cX0_weatherOf 3 (some .int) 1 := ⟨⟨zin_mem (h := 362) (by decide +kernel), zin_mem (h := 248) (by decide +kernel), zin_mem (h := 249) (by decide +kernel), zin_mem (h := 55) (by decide +kernel), zin_mem (h := 250) (by decide +kernel)⟩, by decide +kernel, by decide +kernel, by decide +kernel⟩
theorem vX0_100 : zCV RX0 100 yX0_isAlike cX0_isAlike 1 (some .boolean) 0 := ⟨⟨zin_mem (h := 450) (by decide +kernel), zin_mem (h := 451) (by decide +kernel), zin_mem (h := 452) (by decide +kernel), zin_mem (h := 55) (by decide +kernel), zin_mem (h := 453) (by decide +kernel)⟩, by decide +kernel, by decide +kernel, by decide +kernel⟩
theorem vX0_104 : zCV RX0 104 yX0_bestIn cX0_bestIn 4 (some .int) 1 := ⟨⟨zin_mem (h := 455) (by decide +kernel), zin_mem (h := 234) (by decide +kernel), zin_mem (h := 235) (by decide +kernel), zin_mem (h := 55) (by decide +kernel), zin_mem (h := 236) (by decide +kernel)⟩, by decide +kernel, by decide +kernel, by decide +kernel⟩
theorem vX0_107 : zCV RX0 107 yX0_harvest cX0_harvest 5 none 0 := ⟨⟨zin_mem (h := 405) (by decide +kernel), zin_mem (h := 359) (by decide +kernel), zin_mem (h := 360) (by decide +kernel), zin_mem (h := 55) (by decide +kernel), zin_mem (h := 361) (by decide +kernel)⟩, by decide +kernel, by decide +kernel, by decide +kernel⟩
theorem vX0_110 : zCV RX0 110 yX0_choiceOf cX0_choiceOf 5 (some .int) 1 := ⟨⟨zin_mem (h := 406) (by decide +kernel), zin_mem (h := 367) (by decide +kernel), zin_mem (h := 368) (by decide +kernel), zin_mem (h := 55) (by decide +kernel), zin_mem (h := 369) (by decide +kernel)⟩, by decide +kernel, by decide +kernel, by decide +kernel⟩
theorem vX0_113 : zCS RX0 113 yX0_isDivisor cX0_isDivisor 2 (some .boolean) 2 := ⟨⟨zin_mem (h := 363) (by decide +kernel), zin_mem (h := 364) (by decide +kernel), zin_mem (h := 55) (by decide +kernel), zin_mem (h := 365) (by decide +kernel)⟩, by decide +kernel, by decide +kernel, by decide +kernel⟩
theorem vX0_117 : zCV RX0 117 yX2_simpleFor cX2_simpleFor 4 (some (.object "YamIsland$Rule")) 1 := ⟨⟨zin_mem (h := 370) (by decide +kernel), zin_mem (h := 371) (by decide +kernel), zin_mem (h := 372) (by decide +kernel), zin_mem (h := 59) (by decide +kernel), zin_mem (h := 373) (by decide +kernel)⟩, by decide +kernel, by decide +kernel, by decide +kernel⟩
theorem vX0_125 : zCV RX0 125 yX0_bestSeen cX0_bestSeen 4 (some .int) 1 := ⟨⟨zin_mem (h := 374) (by decide +kernel), zin_mem (h := 376) (by decide +kernel), zin_mem (h := 9) (by decide +kernel), zin_mem (h := 55) (by decide +kernel), zin_mem (h := 377) (by decide +kernel)⟩, by decide +kernel, by decide +kernel, by decide +kernel⟩
theorem vX0_128 : zCV RX0 128 yX0_mostSeen cX0_mostSeen 4 (some .int) 1 := ⟨⟨zin_mem (h := 378) (by decide +kernel), zin_mem (h := 380) (by decide +kernel), zin_mem (h := 10) (by decide +kernel), zin_mem (h := 55) (by decide +kernel), zin_mem (h := 381) (by decide +kernel)⟩, by decide +kernel, by decide +kernel, by decide +kernel⟩
theorem vX0_131 : zCV RX0 131 yX0_nearSeen cX0_nearSeen 5 (some .int) 1 := ⟨⟨zin_mem (h := 385) (by decide +kernel), zin_mem (h := 387) (by decide +kernel), zin_mem (h := 11) (by decide +kernel), zin_mem (h := 55) (by decide +kernel), zin_mem (h := 388) (by decide +kernel)⟩, by decide +kernel, by decide +kernel, by decide +kernel⟩
theorem vX0_137 : zCV RX0 137 yX0_wayBehind cX0_wayBehind 2 (some .int) 1 := ⟨⟨zin_mem (h := 389) (by decide +kernel), zin_mem (h := 391) (by decide +kernel), zin_mem (h := 12) (by decide +kernel), zin_mem (h := 55) (by decide +kernel), zin_mem (h := 392) (by decide +kernel)⟩, by decide +kernel, by decide +kernel, by decide +kernel⟩
theorem vX1_22 : zCV RX1 22 yX1_readRule cX1_readRule 4 (some (.object "YamIsland$Rule")) 1 := ⟨⟨zin_mem (h := 267) (by decide +kernel), zin_mem (h := 269) (by decide +kernel), zin_mem (h := 2) (by decide +kernel), zin_mem (h := 56) (by decide +kernel), zin_mem (h := 270) (by decide +kernel)⟩, by decide +kernel, by decide +kernel, by decide +kernel⟩
theorem vX1_26 : zCV RX1 26 yX1_here cX1_here 1 (some .int) 0 := ⟨⟨zin_mem (h := 271) (by decide +kernel), zin_mem (h := 273) (by decide +kernel), zin_mem (h := 3) (by decide +kernel), zin_mem (h := 56) (by decide +kernel), zin_mem (h := 274) (by decide +kernel)⟩, by decide +kernel, by decide +kernel, by decide +kernel⟩
-- init X1 32 X2_init: link 277 inst 278 ini 59 code 279 nL 5
theorem vX1_35 : zCV RX1 35 yX1_readNumber cX1_readNumber 2 (some .int) 0 := ⟨⟨zin_mem (h := 296) (by decide +kernel), zin_mem (h := 298) (by decide +kernel), zin_mem (h := 4) (by decide +kernel), zin_mem (h := 56) (by decide +kernel), zin_mem (h := 299) (by decide +kernel)⟩, by decide +kernel, by decide +kernel, by decide +kernel⟩
theorem vX1_38 : zCV RX1 38 yX1_readMixed cX1_readMixed 5 (some (.object "YamIsland$Rule")) 1 := ⟨⟨zin_mem (h := 303) (by decide +kernel), zin_mem (h := 305) (by decide +kernel), zin_mem (h := 5) (by decide +kernel), zin_mem (h := 56) (by decide +kernel), zin_mem (h := 306) (by decide +kernel)⟩, by decide +kernel, by decide +kernel, by decide +kernel⟩
theorem vX1_41 : zCV RX1 41 yX1_passes cX1_passes 3 (some .boolean) 1 := ⟨⟨zin_mem (h := 307) (by decide +kernel), zin_mem (h := 309) (by decide +kernel), zin_mem (h := 6) (by decide +kernel), zin_mem (h := 56) (by decide +kernel), zin_mem (h := 310) (by decide +kernel)⟩, by decide +kernel, by decide +kernel, by decide +kernel⟩
theorem vX1_45 : zCS RX1 45 yX1_isDigit cX1_isDigit 1 (some .boolean) 1 := ⟨⟨zin_mem (h := 300) (by decide +kernel), zin_mem (h := 301) (by decide +kernel), zin_mem (h := 56) (by decide +kernel), zin_mem (h := 302) (by decide +kernel)⟩, by decide +kernel, by decide +kernel, by decide +kernel⟩
-- init L 9 X3_init: link 64 inst 65 ini 54 code 66 nL 1
-- init L 12 X4_init: link 562 inst 563 ini 57 code 564 nL 1
theorem vL_13 : zCV RL 13 yX3_way cX3_way 7 (some .int) 4 := ⟨⟨zin_mem (h := 193) (by decide +kernel), zin_mem (h := 194) (by decide +kernel), zin_mem (h := 195) (by decide +kernel), zin_mem (h := 54) (by decide +kernel), zin_mem (h := 196) (by decide +kernel)⟩, by decide +kernel, by decide +kernel, by decide +kernel⟩
theorem vL_17 : zCV RL 17 yX4_way cX4_way 5 (some .int) 4 := ⟨⟨zin_mem (h := 697) (by decide +kernel), zin_mem (h := 698) (by decide +kernel), zin_mem (h := 699) (by decide +kernel), zin_mem (h := 57) (by decide +kernel), zin_mem (h := 700) (by decide +kernel)⟩, by decide +kernel, by decide +kernel, by decide +kernel⟩
theorem vL_18 : zCV RL 18 yX3_brings cX3_brings 6 (some .int) 3 := ⟨⟨zin_mem (h := 211) (by decide +kernel), zin_mem (h := 212) (by decide +kernel), zin_mem (h := 213) (by decide +kernel), zin_mem (h := 54) (by decide +kernel), zin_mem (h := 214) (by decide +kernel)⟩, by decide +kernel, by decide +kernel, by decide +kernel⟩
theorem vL_22 : zCV RL 22 yX4_brings cX4_brings 5 (some .int) 3 := ⟨⟨zin_mem (h := 705) (by decide +kernel), zin_mem (h := 706) (by decide +kernel), zin_mem (h := 707) (by decide +kernel), zin_mem (h := 57) (by decide +kernel), zin_mem (h := 708) (by decide +kernel)⟩, by decide +kernel, by decide +kernel, by decide +kernel⟩
theorem vL_23 : zCV RL 23 yX3_bestWay cX3_bestWay 2 (some .int) 1 := ⟨⟨zin_mem (h := 229) (by decide +kernel), zin_mem (h := 230) (by decide +kernel), zin_mem (h := 231) (by decide +kernel), zin_mem (h := 54) (by decide +kernel), zin_mem (h := 232) (by decide +kernel)⟩, by decide +kernel, by decide +kernel, by decide +kernel⟩
theorem vL_27 : zCV RL 27 yX4_bestWay cX4_bestWay 2 (some .int) 1 := ⟨⟨zin_mem (h := 720) (by decide +kernel), zin_mem (h := 721) (by decide +kernel), zin_mem (h := 722) (by decide +kernel), zin_mem (h := 57) (by decide +kernel), zin_mem (h := 723) (by decide +kernel)⟩, by decide +kernel, by decide +kernel, by decide +kernel⟩
theorem vL_30 : zCV RL 30 yX3_sky cX3_sky 7 (some .int) 2 := ⟨⟨zin_mem (h := 238) (by decide +kernel), zin_mem (h := 239) (by decide +kernel), zin_mem (h := 240) (by decide +kernel), zin_mem (h := 54) (by decide +kernel), zin_mem (h := 241) (by decide +kernel)⟩, by decide +kernel, by decide +kernel, by decide +kernel⟩
theorem vL_34 : zCV RL 34 yX4_sky cX4_sky 6 (some .int) 2 := ⟨⟨zin_mem (h := 728) (by decide +kernel), zin_mem (h := 729) (by decide +kernel), zin_mem (h := 730) (by decide +kernel), zin_mem (h := 57) (by decide +kernel), zin_mem (h := 731) (by decide +kernel)⟩, by decide +kernel, by decide +kernel, by decide +kernel⟩
theorem vL_35 : zCV RL 35 yX3_weather cX3_weather 3 (some .int) 1 := ⟨⟨zin_mem (h := 242) (by decide +kernel), zin_mem (h := 243) (by decide +kernel), zin_mem (h := 244) (by decide +kernel), zin_mem (h := 54) (by decide +kernel), zin_mem (h := 245) (by decide +kernel)⟩, by decide +kernel, by decide +kernel, by decide +kernel⟩
theorem vL_38 : zCV RL 38 yX4_weather cX4_weather 2 (some .int) 1 := ⟨⟨zin_mem (h := 732) (by decide +kernel), zin_mem (h := 733) (by decide +kernel), zin_mem (h := 734) (by decide +kernel), zin_mem (h := 57) (by decide +kernel), zin_mem (h := 735) (by decide +kernel)⟩, by decide +kernel, by decide +kernel, by decide +kernel⟩
theorem vL_39 : zCV RL 39 yX3_feed cX3_feed 6 (some .int) 2 := ⟨⟨zin_mem (h := 251) (by decide +kernel), zin_mem (h := 252) (by decide +kernel), zin_mem (h := 253) (by decide +kernel), zin_mem (h := 54) (by decide +kernel), zin_mem (h := 254) (by decide +kernel)⟩, by decide +kernel, by decide +kernel, by decide +kernel⟩
theorem vL_42 : zCV RL 42 yX4_feed cX4_feed 5 (some .int) 2 := ⟨⟨zin_mem (h := 737) (by decide +kernel), zin_mem (h := 738) (by decide +kernel), zin_mem (h := 739) (by decide +kernel), zin_mem (h := 57) (by decide +kernel), zin_mem (h := 740) (by decide +kernel)⟩, by decide +kernel, by decide +kernel, by decide +kernel⟩
theorem vL_43 : zCV RL 43 yX3_rule cX3_rule 2 (some .int) 0 := ⟨⟨zin_mem (h := 259) (by decide +kernel), zin_mem (h := 260) (by decide +kernel), zin_mem (h := 261) (by decide +kernel), zin_mem (h := 54) (by decide +kernel), zin_mem (h := 262) (by decide +kernel)⟩, by decide +kernel, by decide +kernel, by decide +kernel⟩
theorem vL_47 : zCV RL 47 yX4_rule cX4_rule 4 (some .int) 0 := ⟨⟨zin_mem (h := 742) (by decide +kernel), zin_mem (h := 743) (by decide +kernel), zin_mem (h := 744) (by decide +kernel), zin_mem (h := 57) (by decide +kernel), zin_mem (h := 745) (by decide +kernel)⟩, by decide +kernel, by decide +kernel, by decide +kernel⟩
theorem vL_48 : zCV RL 48 yX3_person cX3_person 3 (some .int) 2 := ⟨⟨zin_mem (h := 315) (by decide +kernel), zin_mem (h := 316) (by decide +kernel), zin_mem (h := 317) (by decide +kernel), zin_mem (h := 54) (by decide +kernel), zin_mem (h := 318) (by decide +kernel)⟩, by decide +kernel, by decide +kernel, by decide +kernel⟩
theorem vL_52 : zCV RL 52 yX4_person cX4_person 3 (some .int) 2 := ⟨⟨zin_mem (h := 773) (by decide +kernel), zin_mem (h := 774) (by decide +kernel), zin_mem (h := 775) (by decide +kernel), zin_mem (h := 57) (by decide +kernel), zin_mem (h := 776) (by decide +kernel)⟩, by decide +kernel, by decide +kernel, by decide +kernel⟩
theorem vL_53 : zCV RL 53 yX3_sees cX3_sees 4 (some .int) 2 := ⟨⟨zin_mem (h := 327) (by decide +kernel), zin_mem (h := 328) (by decide +kernel), zin_mem (h := 329) (by decide +kernel), zin_mem (h := 54) (by decide +kernel), zin_mem (h := 330) (by decide +kernel)⟩, by decide +kernel, by decide +kernel, by decide +kernel⟩
theorem vL_56 : zCV RL 56 yX4_sees cX4_sees 4 (some .int) 2 := ⟨⟨zin_mem (h := 781) (by decide +kernel), zin_mem (h := 782) (by decide +kernel), zin_mem (h := 783) (by decide +kernel), zin_mem (h := 57) (by decide +kernel), zin_mem (h := 784) (by decide +kernel)⟩, by decide +kernel, by decide +kernel, by decide +kernel⟩
theorem vL_57 : zCV RL 57 yX3_lives cX3_lives 3 (some .int) 2 := ⟨⟨zin_mem (h := 338) (by decide +kernel), zin_mem (h := 339) (by decide +kernel), zin_mem (h := 340) (by decide +kernel), zin_mem (h := 54) (by decide +kernel), zin_mem (h := 341) (by decide +kernel)⟩, by decide +kernel, by decide +kernel, by decide +kernel⟩
theorem vL_60 : zCV RL 60 yX4_lives cX4_lives 4 (some .int) 2 := ⟨⟨zin_mem (h := 789) (by decide +kernel), zin_mem (h := 790) (by decide +kernel), zin_mem (h := 791) (by decide +kernel), zin_mem (h := 57) (by decide +kernel), zin_mem (h := 792) (by decide +kernel)⟩, by decide +kernel, by decide +kernel, by decide +kernel⟩
theorem vL_61 : zCV RL 61 yX3_plants cX3_plants 3 (some .int) 2 := ⟨⟨zin_mem (h := 342) (by decide +kernel), zin_mem (h := 343) (by decide +kernel), zin_mem (h := 344) (by decide +kernel), zin_mem (h := 54) (by decide +kernel), zin_mem (h := 345) (by decide +kernel)⟩, by decide +kernel, by decide +kernel, by decide +kernel⟩
theorem vL_64 : zCV RL 64 yX4_plants cX4_plants 4 (some .int) 2 := ⟨⟨zin_mem (h := 793) (by decide +kernel), zin_mem (h := 794) (by decide +kernel), zin_mem (h := 795) (by decide +kernel), zin_mem (h := 57) (by decide +kernel), zin_mem (h := 796) (by decide +kernel)⟩, by decide +kernel, by decide +kernel, by decide +kernel⟩
theorem vL_65 : zCV RL 65 yX3_show cX3_show 4 (some .int) 1 := ⟨⟨zin_mem (h := 346) (by decide +kernel), zin_mem (h := 347) (by decide +kernel), zin_mem (h := 348) (by decide +kernel), zin_mem (h := 54) (by decide +kernel), zin_mem (h := 349) (by decide +kernel)⟩, by decide +kernel, by decide +kernel, by decide +kernel⟩
theorem vL_68 : zCV RL 68 yX4_show cX4_show 3 (some .int) 1 := ⟨⟨zin_mem (h := 797) (by decide +kernel), zin_mem (h := 798) (by decide +kernel), zin_mem (h := 799) (by decide +kernel), zin_mem (h := 57) (by decide +kernel), zin_mem (h := 800) (by decide +kernel)⟩, by decide +kernel, by decide +kernel, by decide +kernel⟩
theorem vL_69 : zCV RL 69 yX3_of cX3_of 3 (some .int) 2 := ⟨⟨zin_mem (h := 350) (by decide +kernel), zin_mem (h := 351) (by decide +kernel), zin_mem (h := 352) (by decide +kernel), zin_mem (h := 54) (by decide +kernel), zin_mem (h := 353) (by decide +kernel)⟩, by decide +kernel, by decide +kernel, by decide +kernel⟩
theorem vL_72 : zCV RL 72 yX4_of cX4_of 3 (some .int) 2 := ⟨⟨zin_mem (h := 801) (by decide +kernel), zin_mem (h := 802) (by decide +kernel), zin_mem (h := 803) (by decide +kernel), zin_mem (h := 57) (by decide +kernel), zin_mem (h := 804) (by decide +kernel)⟩, by decide +kernel, by decide +kernel, by decide +kernel⟩
theorem vL_73 : zCV RL 73 yX3_next cX3_next 2 (some .int) 1 := ⟨⟨zin_mem (h := 354) (by decide +kernel), zin_mem (h := 355) (by decide +kernel), zin_mem (h := 356) (by decide +kernel), zin_mem (h := 54) (by decide +kernel), zin_mem (h := 357) (by decide +kernel)⟩, by decide +kernel, by decide +kernel, by decide +kernel⟩
theorem vL_76 : zCV RL 76 yX4_next cX4_next 2 (some .int) 1 := ⟨⟨zin_mem (h := 805) (by decide +kernel), zin_mem (h := 806) (by decide +kernel), zin_mem (h := 807) (by decide +kernel), zin_mem (h := 57) (by decide +kernel), zin_mem (h := 808) (by decide +kernel)⟩, by decide +kernel, by decide +kernel, by decide +kernel⟩
theorem vL_77 : zCV RL 77 yX3_go cX3_go 3 (some .int) 1 := ⟨⟨zin_mem (h := 393) (by decide +kernel), zin_mem (h := 394) (by decide +kernel), zin_mem (h := 395) (by decide +kernel), zin_mem (h := 54) (by decide +kernel), zin_mem (h := 396) (by decide +kernel)⟩, by decide +kernel, by decide +kernel, by decide +kernel⟩
theorem vL_80 : zCV RL 80 yX4_go cX4_go 3 (some .int) 1 := ⟨⟨zin_mem (h := 837) (by decide +kernel), zin_mem (h := 838) (by decide +kernel), zin_mem (h := 839) (by decide +kernel), zin_mem (h := 57) (by decide +kernel), zin_mem (h := 840) (by decide +kernel)⟩, by decide +kernel, by decide +kernel, by decide +kernel⟩
theorem vL_81 : zCV RL 81 yX3_share cX3_share 2 (some .int) 1 := ⟨⟨zin_mem (h := 410) (by decide +kernel), zin_mem (h := 411) (by decide +kernel), zin_mem (h := 412) (by decide +kernel), zin_mem (h := 54) (by decide +kernel), zin_mem (h := 413) (by decide +kernel)⟩, by decide +kernel, by decide +kernel, by decide +kernel⟩
theorem vL_84 : zCV RL 84 yX4_share cX4_share 4 (some .int) 1 := ⟨⟨zin_mem (h := 857) (by decide +kernel), zin_mem (h := 858) (by decide +kernel), zin_mem (h := 859) (by decide +kernel), zin_mem (h := 57) (by decide +kernel), zin_mem (h := 860) (by decide +kernel)⟩, by decide +kernel, by decide +kernel, by decide +kernel⟩
theorem vL_85 : zCV RL 85 yX3_fares cX3_fares 3 (some .int) 1 := ⟨⟨zin_mem (h := 418) (by decide +kernel), zin_mem (h := 419) (by decide +kernel), zin_mem (h := 420) (by decide +kernel), zin_mem (h := 54) (by decide +kernel), zin_mem (h := 421) (by decide +kernel)⟩, by decide +kernel, by decide +kernel, by decide +kernel⟩
theorem vL_88 : zCV RL 88 yX4_fares cX4_fares 2 (some .int) 1 := ⟨⟨zin_mem (h := 861) (by decide +kernel), zin_mem (h := 862) (by decide +kernel), zin_mem (h := 863) (by decide +kernel), zin_mem (h := 57) (by decide +kernel), zin_mem (h := 864) (by decide +kernel)⟩, by decide +kernel, by decide +kernel, by decide +kernel⟩
theorem vL_89 : zCV RL 89 yX3_wrong cX3_wrong 5 (some .int) 1 := ⟨⟨zin_mem (h := 442) (by decide +kernel), zin_mem (h := 443) (by decide +kernel), zin_mem (h := 444) (by decide +kernel), zin_mem (h := 54) (by decide +kernel), zin_mem (h := 445) (by decide +kernel)⟩, by decide +kernel, by decide +kernel, by decide +kernel⟩
theorem vL_92 : zCV RL 92 yX4_wrong cX4_wrong 2 (some .int) 1 := ⟨⟨zin_mem (h := 865) (by decide +kernel), zin_mem (h := 866) (by decide +kernel), zin_mem (h := 867) (by decide +kernel), zin_mem (h := 57) (by decide +kernel), zin_mem (h := 868) (by decide +kernel)⟩, by decide +kernel, by decide +kernel, by decide +kernel⟩
theorem vL_93 : zCV RL 93 yX3_alike cX3_alike 4 (some .int) 1 := ⟨⟨zin_mem (h := 456) (by decide +kernel), zin_mem (h := 457) (by decide +kernel), zin_mem (h := 458) (by decide +kernel), zin_mem (h := 54) (by decide +kernel), zin_mem (h := 459) (by decide +kernel)⟩, by decide +kernel, by decide +kernel, by decide +kernel⟩
theorem vL_96 : zCV RL 96 yX4_alike cX4_alike 2 (some .int) 1 := ⟨⟨zin_mem (h := 869) (by decide +kernel), zin_mem (h := 870) (by decide +kernel), zin_mem (h := 871) (by decide +kernel), zin_mem (h := 57) (by decide +kernel), zin_mem (h := 872) (by decide +kernel)⟩, by decide +kernel, by decide +kernel, by decide +kernel⟩
theorem vL_97 : zCV RL 97 yX3_gain cX3_gain 6 (some .int) 3 := ⟨⟨zin_mem (h := 461) (by decide +kernel), zin_mem (h := 462) (by decide +kernel), zin_mem (h := 463) (by decide +kernel), zin_mem (h := 54) (by decide +kernel), zin_mem (h := 464) (by decide +kernel)⟩, by decide +kernel, by decide +kernel, by decide +kernel⟩
theorem vL_100 : zCV RL 100 yX4_gain cX4_gain 4 (some .int) 3 := ⟨⟨zin_mem (h := 873) (by decide +kernel), zin_mem (h := 874) (by decide +kernel), zin_mem (h := 875) (by decide +kernel), zin_mem (h := 57) (by decide +kernel), zin_mem (h := 876) (by decide +kernel)⟩, by decide +kernel, by decide +kernel, by decide +kernel⟩
theorem vL_101 : zCV RL 101 yX3_rest cX3_rest 5 (some .int) 1 := ⟨⟨zin_mem (h := 474) (by decide +kernel), zin_mem (h := 475) (by decide +kernel), zin_mem (h := 476) (by decide +kernel), zin_mem (h := 54) (by decide +kernel), zin_mem (h := 477) (by decide +kernel)⟩, by decide +kernel, by decide +kernel, by decide +kernel⟩
theorem vL_104 : zCV RL 104 yX4_rest cX4_rest 4 (some .int) 1 := ⟨⟨zin_mem (h := 886) (by decide +kernel), zin_mem (h := 887) (by decide +kernel), zin_mem (h := 888) (by decide +kernel), zin_mem (h := 57) (by decide +kernel), zin_mem (h := 889) (by decide +kernel)⟩, by decide +kernel, by decide +kernel, by decide +kernel⟩
theorem vL_105 : zCV RL 105 yX3_ifAll cX3_ifAll 4 (some .int) 2 := ⟨⟨zin_mem (h := 483) (by decide +kernel), zin_mem (h := 484) (by decide +kernel), zin_mem (h := 485) (by decide +kernel), zin_mem (h := 54) (by decide +kernel), zin_mem (h := 486) (by decide +kernel)⟩, by decide +kernel, by decide +kernel, by decide +kernel⟩
theorem vL_108 : zCV RL 108 yX4_ifAll cX4_ifAll 3 (some .int) 2 := ⟨⟨zin_mem (h := 890) (by decide +kernel), zin_mem (h := 891) (by decide +kernel), zin_mem (h := 892) (by decide +kernel), zin_mem (h := 57) (by decide +kernel), zin_mem (h := 893) (by decide +kernel)⟩, by decide +kernel, by decide +kernel, by decide +kernel⟩
theorem vL_109 : zCV RL 109 yX3_bestRule cX3_bestRule 7 (some .int) 1 := ⟨⟨zin_mem (h := 495) (by decide +kernel), zin_mem (h := 496) (by decide +kernel), zin_mem (h := 497) (by decide +kernel), zin_mem (h := 54) (by decide +kernel), zin_mem (h := 498) (by decide +kernel)⟩, by decide +kernel, by decide +kernel, by decide +kernel⟩
theorem vL_112 : zCV RL 112 yX4_bestRule cX4_bestRule 6 (some .int) 1 := ⟨⟨zin_mem (h := 898) (by decide +kernel), zin_mem (h := 899) (by decide +kernel), zin_mem (h := 900) (by decide +kernel), zin_mem (h := 57) (by decide +kernel), zin_mem (h := 901) (by decide +kernel)⟩, by decide +kernel, by decide +kernel, by decide +kernel⟩
theorem vL_113 : zCV RL 113 yX3_part cX3_part 6 (some .int) 4 := ⟨⟨zin_mem (h := 499) (by decide +kernel), zin_mem (h := 500) (by decide +kernel), zin_mem (h := 501) (by decide +kernel), zin_mem (h := 54) (by decide +kernel), zin_mem (h := 502) (by decide +kernel)⟩, by decide +kernel, by decide +kernel, by decide +kernel⟩
theorem vL_116 : zCV RL 116 yX4_part cX4_part 9 (some .int) 4 := ⟨⟨zin_mem (h := 902) (by decide +kernel), zin_mem (h := 903) (by decide +kernel), zin_mem (h := 904) (by decide +kernel), zin_mem (h := 57) (by decide +kernel), zin_mem (h := 905) (by decide +kernel)⟩, by decide +kernel, by decide +kernel, by decide +kernel⟩
theorem vL_117 : zCV RL 117 yX3_edge cX3_edge 9 (some .int) 4 := ⟨⟨zin_mem (h := 515) (by decide +kernel), zin_mem (h := 516) (by decide +kernel), zin_mem (h := 517) (by decide +kernel), zin_mem (h := 54) (by decide +kernel), zin_mem (h := 518) (by decide +kernel)⟩, by decide +kernel, by decide +kernel, by decide +kernel⟩
theorem vL_120 : zCV RL 120 yX4_edge cX4_edge 8 (some .int) 4 := ⟨⟨zin_mem (h := 910) (by decide +kernel), zin_mem (h := 911) (by decide +kernel), zin_mem (h := 912) (by decide +kernel), zin_mem (h := 57) (by decide +kernel), zin_mem (h := 913) (by decide +kernel)⟩, by decide +kernel, by decide +kernel, by decide +kernel⟩
theorem vL_121 : zCV RL 121 yX3_lessSeen cX3_lessSeen 5 (some .int) 2 := ⟨⟨zin_mem (h := 527) (by decide +kernel), zin_mem (h := 528) (by decide +kernel), zin_mem (h := 529) (by decide +kernel), zin_mem (h := 54) (by decide +kernel), zin_mem (h := 530) (by decide +kernel)⟩, by decide +kernel, by decide +kernel, by decide +kernel⟩
theorem vL_124 : zCV RL 124 yX4_lessSeen cX4_lessSeen 7 (some .int) 2 := ⟨⟨zin_mem (h := 914) (by decide +kernel), zin_mem (h := 915) (by decide +kernel), zin_mem (h := 916) (by decide +kernel), zin_mem (h := 57) (by decide +kernel), zin_mem (h := 917) (by decide +kernel)⟩, by decide +kernel, by decide +kernel, by decide +kernel⟩
theorem vL_125 : zCV RL 125 yX3_shown cX3_shown 5 (some .int) 2 := ⟨⟨zin_mem (h := 539) (by decide +kernel), zin_mem (h := 540) (by decide +kernel), zin_mem (h := 541) (by decide +kernel), zin_mem (h := 54) (by decide +kernel), zin_mem (h := 542) (by decide +kernel)⟩, by decide +kernel, by decide +kernel, by decide +kernel⟩
theorem vL_128 : zCV RL 128 yX4_shown cX4_shown 4 (some .int) 2 := ⟨⟨zin_mem (h := 918) (by decide +kernel), zin_mem (h := 919) (by decide +kernel), zin_mem (h := 920) (by decide +kernel), zin_mem (h := 57) (by decide +kernel), zin_mem (h := 921) (by decide +kernel)⟩, by decide +kernel, by decide +kernel, by decide +kernel⟩
theorem vL_129 : zCV RL 129 yX3_blind cX3_blind 7 (some .int) 1 := ⟨⟨zin_mem (h := 543) (by decide +kernel), zin_mem (h := 544) (by decide +kernel), zin_mem (h := 545) (by decide +kernel), zin_mem (h := 54) (by decide +kernel), zin_mem (h := 546) (by decide +kernel)⟩, by decide +kernel, by decide +kernel, by decide +kernel⟩
theorem vL_132 : zCV RL 132 yX4_blind cX4_blind 6 (some .int) 1 := ⟨⟨zin_mem (h := 922) (by decide +kernel), zin_mem (h := 923) (by decide +kernel), zin_mem (h := 924) (by decide +kernel), zin_mem (h := 57) (by decide +kernel), zin_mem (h := 925) (by decide +kernel)⟩, by decide +kernel, by decide +kernel, by decide +kernel⟩
theorem vL_133 : zCV RL 133 yX3_image cX3_image 1 (some .int) 0 := ⟨⟨zin_mem (h := 547) (by decide +kernel), zin_mem (h := 548) (by decide +kernel), zin_mem (h := 549) (by decide +kernel), zin_mem (h := 54) (by decide +kernel), zin_mem (h := 550) (by decide +kernel)⟩, by decide +kernel, by decide +kernel, by decide +kernel⟩
theorem vL_136 : zCV RL 136 yX4_image cX4_image 1 (some .int) 0 := ⟨⟨zin_mem (h := 926) (by decide +kernel), zin_mem (h := 927) (by decide +kernel), zin_mem (h := 928) (by decide +kernel), zin_mem (h := 57) (by decide +kernel), zin_mem (h := 929) (by decide +kernel)⟩, by decide +kernel, by decide +kernel, by decide +kernel⟩
theorem vL_137 : zCV RL 137 yX3_restore cX3_restore 1 (some .int) 0 := ⟨⟨zin_mem (h := 552) (by decide +kernel), zin_mem (h := 553) (by decide +kernel), zin_mem (h := 554) (by decide +kernel), zin_mem (h := 54) (by decide +kernel), zin_mem (h := 555) (by decide +kernel)⟩, by decide +kernel, by decide +kernel, by decide +kernel⟩
theorem vL_140 : zCV RL 140 yX4_restore cX4_restore 1 (some .int) 0 := ⟨⟨zin_mem (h := 938) (by decide +kernel), zin_mem (h := 939) (by decide +kernel), zin_mem (h := 940) (by decide +kernel), zin_mem (h := 57) (by decide +kernel), zin_mem (h := 941) (by decide +kernel)⟩, by decide +kernel, by decide +kernel, by decide +kernel⟩
theorem vL_141 : zCV RL 141 yX3_count cX3_count 2 (some .int) 1 := ⟨⟨zin_mem (h := 556) (by decide +kernel), zin_mem (h := 557) (by decide +kernel), zin_mem (h := 558) (by decide +kernel), zin_mem (h := 54) (by decide +kernel), zin_mem (h := 559) (by decide +kernel)⟩, by decide +kernel, by decide +kernel, by decide +kernel⟩
theorem vL_144 : zCV RL 144 yX4_count cX4_count 4 (some .int) 1 := ⟨⟨zin_mem (h := 942) (by decide +kernel), zin_mem (h := 943) (by decide +kernel), zin_mem (h := 944) (by decide +kernel), zin_mem (h := 57) (by decide +kernel), zin_mem (h := 945) (by decide +kernel)⟩, by decide +kernel, by decide +kernel, by decide +kernel⟩
theorem vX4_84 : zCS RX4 84 yX4_in cX4_in 6 (some .boolean) 3 := ⟨⟨zin_mem (h := 713) (by decide +kernel), zin_mem (h := 714) (by decide +kernel), zin_mem (h := 57) (by decide +kernel), zin_mem (h := 715) (by decide +kernel)⟩, by decide +kernel, by decide +kernel, by decide +kernel⟩
theorem vX4_96 : zCV RX4 96 yX4_refuse cX4_refuse 2 (some .int) 1 := ⟨⟨zin_mem (h := 701) (by decide +kernel), zin_mem (h := 703) (by decide +kernel), zin_mem (h := 25) (by decide +kernel), zin_mem (h := 57) (by decide +kernel), zin_mem (h := 704) (by decide +kernel)⟩, by decide +kernel, by decide +kernel, by decide +kernel⟩
theorem vX4_100 : zCV RX4 100 yX4_isWay cX4_isWay 2 (some .boolean) 1 := ⟨⟨zin_mem (h := 709) (by decide +kernel), zin_mem (h := 711) (by decide +kernel), zin_mem (h := 26) (by decide +kernel), zin_mem (h := 57) (by decide +kernel), zin_mem (h := 712) (by decide +kernel)⟩, by decide +kernel, by decide +kernel, by decide +kernel⟩
theorem vX4_104 : zCS RX4 104 yX4_isWeather cX4_isWeather 1 (some .boolean) 1 := ⟨⟨zin_mem (h := 716) (by decide +kernel), zin_mem (h := 717) (by decide +kernel), zin_mem (h := 57) (by decide +kernel), zin_mem (h := 718) (by decide +kernel)⟩, by decide +kernel, by decide +kernel, by decide +kernel⟩
theorem vX4_107 : zCV RX4 107 yX4_bestIn cX4_bestIn 4 (some .int) 1 := ⟨⟨zin_mem (h := 724) (by decide +kernel), zin_mem (h := 726) (by decide +kernel), zin_mem (h := 27) (by decide +kernel), zin_mem (h := 57) (by decide +kernel), zin_mem (h := 727) (by decide +kernel)⟩, by decide +kernel, by decide +kernel, by decide +kernel⟩
theorem vX4_123 : zCV RX4 123 yX4_here cX4_here 1 (some .int) 0 := ⟨⟨zin_mem (h := 750) (by decide +kernel), zin_mem (h := 752) (by decide +kernel), zin_mem (h := 29) (by decide +kernel), zin_mem (h := 57) (by decide +kernel), zin_mem (h := 753) (by decide +kernel)⟩, by decide +kernel, by decide +kernel, by decide +kernel⟩
theorem vX4_136 : zCV RX4 136 yX4_newKnot cX4_newKnot 4 (some .int) 3 := ⟨⟨zin_mem (h := 754) (by decide +kernel), zin_mem (h := 756) (by decide +kernel), zin_mem (h := 30) (by decide +kernel), zin_mem (h := 57) (by decide +kernel), zin_mem (h := 757) (by decide +kernel)⟩, by decide +kernel, by decide +kernel, by decide +kernel⟩
theorem vX4_140 : zCV RX4 140 yX4_readNumber cX4_readNumber 2 (some .int) 0 := ⟨⟨zin_mem (h := 758) (by decide +kernel), zin_mem (h := 760) (by decide +kernel), zin_mem (h := 31) (by decide +kernel), zin_mem (h := 57) (by decide +kernel), zin_mem (h := 761) (by decide +kernel)⟩, by decide +kernel, by decide +kernel, by decide +kernel⟩
theorem vX4_146 : zCV RX4 146 yX4_take cX4_take 2 none 1 := ⟨⟨zin_mem (h := 765) (by decide +kernel), zin_mem (h := 767) (by decide +kernel), zin_mem (h := 32) (by decide +kernel), zin_mem (h := 57) (by decide +kernel), zin_mem (h := 768) (by decide +kernel)⟩, by decide +kernel, by decide +kernel, by decide +kernel⟩
theorem vX4_150 : zCV RX4 150 yX4_readOne cX4_readOne 4 (some .int) 1 := ⟨⟨zin_mem (h := 746) (by decide +kernel), zin_mem (h := 748) (by decide +kernel), zin_mem (h := 28) (by decide +kernel), zin_mem (h := 57) (by decide +kernel), zin_mem (h := 749) (by decide +kernel)⟩, by decide +kernel, by decide +kernel, by decide +kernel⟩
theorem vX4_153 : zCV RX4 153 yX4_close cX4_close 3 (some .int) 1 := ⟨⟨zin_mem (h := 769) (by decide +kernel), zin_mem (h := 771) (by decide +kernel), zin_mem (h := 33) (by decide +kernel), zin_mem (h := 57) (by decide +kernel), zin_mem (h := 772) (by decide +kernel)⟩, by decide +kernel, by decide +kernel, by decide +kernel⟩
theorem vX4_156 : zCV RX4 156 yX4_isRule cX4_isRule 2 (some .boolean) 1 := ⟨⟨zin_mem (h := 777) (by decide +kernel), zin_mem (h := 779) (by decide +kernel), zin_mem (h := 34) (by decide +kernel), zin_mem (h := 57) (by decide +kernel), zin_mem (h := 780) (by decide +kernel)⟩, by decide +kernel, by decide +kernel, by decide +kernel⟩
theorem vX4_159 : zCV RX4 159 yX4_isPerson cX4_isPerson 2 (some .boolean) 1 := ⟨⟨zin_mem (h := 785) (by decide +kernel), zin_mem (h := 787) (by decide +kernel), zin_mem (h := 35) (by decide +kernel), zin_mem (h := 57) (by decide +kernel), zin_mem (h := 788) (by decide +kernel)⟩, by decide +kernel, by decide +kernel, by decide +kernel⟩
theorem vX4_183 : zCV RX4 183 yX4_doesSee cX4_doesSee 5 (some .boolean) 3 := ⟨⟨zin_mem (h := 821) (by decide +kernel), zin_mem (h := 823) (by decide +kernel), zin_mem (h := 39) (by decide +kernel), zin_mem (h := 57) (by decide +kernel), zin_mem (h := 824) (by decide +kernel)⟩, by decide +kernel, by decide +kernel, by decide +kernel⟩
theorem vX4_187 : zCV RX4 187 yX4_planting cX4_planting 6 (some .int) 3 := ⟨⟨zin_mem (h := 829) (by decide +kernel), zin_mem (h := 831) (by decide +kernel), zin_mem (h := 41) (by decide +kernel), zin_mem (h := 57) (by decide +kernel), zin_mem (h := 832) (by decide +kernel)⟩, by decide +kernel, by decide +kernel, by decide +kernel⟩
theorem vX4_190 : zCV RX4 190 yX4_bestSeen cX4_bestSeen 8 (some .int) 3 := ⟨⟨zin_mem (h := 817) (by decide +kernel), zin_mem (h := 819) (by decide +kernel), zin_mem (h := 38) (by decide +kernel), zin_mem (h := 57) (by decide +kernel), zin_mem (h := 820) (by decide +kernel)⟩, by decide +kernel, by decide +kernel, by decide +kernel⟩
theorem vX4_193 : zCV RX4 193 yX4_mostSeen cX4_mostSeen 8 (some .int) 2 := ⟨⟨zin_mem (h := 825) (by decide +kernel), zin_mem (h := 827) (by decide +kernel), zin_mem (h := 40) (by decide +kernel), zin_mem (h := 57) (by decide +kernel), zin_mem (h := 828) (by decide +kernel)⟩, by decide +kernel, by decide +kernel, by decide +kernel⟩
theorem vX4_197 : zCV RX4 197 yX4_nearSeen cX4_nearSeen 6 (some .int) 2 := ⟨⟨zin_mem (h := 833) (by decide +kernel), zin_mem (h := 835) (by decide +kernel), zin_mem (h := 42) (by decide +kernel), zin_mem (h := 57) (by decide +kernel), zin_mem (h := 836) (by decide +kernel)⟩, by decide +kernel, by decide +kernel, by decide +kernel⟩
theorem vX4_206 : zCV RX4 206 yX4_weatherAt cX4_weatherAt 2 (some .int) 1 := ⟨⟨zin_mem (h := 849) (by decide +kernel), zin_mem (h := 851) (by decide +kernel), zin_mem (h := 45) (by decide +kernel), zin_mem (h := 57) (by decide +kernel), zin_mem (h := 852) (by decide +kernel)⟩, by decide +kernel, by decide +kernel, by decide +kernel⟩
theorem vX4_209 : zCV RX4 209 yX4_areAlike cX4_areAlike 3 (some .boolean) 0 := ⟨⟨zin_mem (h := 853) (by decide +kernel), zin_mem (h := 855) (by decide +kernel), zin_mem (h := 46) (by decide +kernel), zin_mem (h := 57) (by decide +kernel), zin_mem (h := 856) (by decide +kernel)⟩, by decide +kernel, by decide +kernel, by decide +kernel⟩
theorem vX4_213 : zCV RX4 213 yX4_chosen cX4_chosen 5 (some .int) 3 := ⟨⟨zin_mem (h := 813) (by decide +kernel), zin_mem (h := 815) (by decide +kernel), zin_mem (h := 37) (by decide +kernel), zin_mem (h := 57) (by decide +kernel), zin_mem (h := 816) (by decide +kernel)⟩, by decide +kernel, by decide +kernel, by decide +kernel⟩
theorem vX4_216 : zCV RX4 216 yX4_open cX4_open 2 none 0 := ⟨⟨zin_mem (h := 809) (by decide +kernel), zin_mem (h := 811) (by decide +kernel), zin_mem (h := 36) (by decide +kernel), zin_mem (h := 57) (by decide +kernel), zin_mem (h := 812) (by decide +kernel)⟩, by decide +kernel, by decide +kernel, by decide +kernel⟩
theorem vX4_219 : zCV RX4 219 yX4_wrongYears cX4_wrongYears 2 (some .int) 1 := ⟨⟨zin_mem (h := 841) (by decide +kernel), zin_mem (h := 843) (by decide +kernel), zin_mem (h := 43) (by decide +kernel), zin_mem (h := 57) (by decide +kernel), zin_mem (h := 844) (by decide +kernel)⟩, by decide +kernel, by decide +kernel, by decide +kernel⟩
theorem vX4_222 : zCV RX4 222 yX4_run cX4_run 8 (some .int) 1 := ⟨⟨zin_mem (h := 845) (by decide +kernel), zin_mem (h := 847) (by decide +kernel), zin_mem (h := 44) (by decide +kernel), zin_mem (h := 57) (by decide +kernel), zin_mem (h := 848) (by decide +kernel)⟩, by decide +kernel, by decide +kernel, by decide +kernel⟩
theorem vX4_225 : zCV RX4 225 yX4_ownIn cX4_ownIn 8 (some .int) 6 := ⟨⟨zin_mem (h := 882) (by decide +kernel), zin_mem (h := 884) (by decide +kernel), zin_mem (h := 48) (by decide +kernel), zin_mem (h := 57) (by decide +kernel), zin_mem (h := 885) (by decide +kernel)⟩, by decide +kernel, by decide +kernel, by decide +kernel⟩
theorem vX4_230 : zCV RX4 230 yX4_gainOf cX4_gainOf 8 (some .int) 6 := ⟨⟨zin_mem (h := 878) (by decide +kernel), zin_mem (h := 880) (by decide +kernel), zin_mem (h := 47) (by decide +kernel), zin_mem (h := 57) (by decide +kernel), zin_mem (h := 881) (by decide +kernel)⟩, by decide +kernel, by decide +kernel, by decide +kernel⟩
theorem vX4_233 : zCV RX4 233 yX4_faresInParts cX4_faresInParts 6 (some .int) 4 := ⟨⟨zin_mem (h := 894) (by decide +kernel), zin_mem (h := 896) (by decide +kernel), zin_mem (h := 49) (by decide +kernel), zin_mem (h := 57) (by decide +kernel), zin_mem (h := 897) (by decide +kernel)⟩, by decide +kernel, by decide +kernel, by decide +kernel⟩
theorem vX4_237 : zCV RX4 237 yX4_restsInParts cX4_restsInParts 6 (some .boolean) 4 := ⟨⟨zin_mem (h := 906) (by decide +kernel), zin_mem (h := 908) (by decide +kernel), zin_mem (h := 50) (by decide +kernel), zin_mem (h := 57) (by decide +kernel), zin_mem (h := 909) (by decide +kernel)⟩, by decide +kernel, by decide +kernel, by decide +kernel⟩
theorem vX4_247 : zCV RX4 247 yX4_carry cX4_carry 2 (some .int) 1 := ⟨⟨zin_mem (h := 934) (by decide +kernel), zin_mem (h := 936) (by decide +kernel), zin_mem (h := 52) (by decide +kernel), zin_mem (h := 57) (by decide +kernel), zin_mem (h := 937) (by decide +kernel)⟩, by decide +kernel, by decide +kernel, by decide +kernel⟩
theorem vX4_253 : zCV RX4 253 yX4_carryAll cX4_carryAll 2 none 0 := ⟨⟨zin_mem (h := 930) (by decide +kernel), zin_mem (h := 932) (by decide +kernel), zin_mem (h := 51) (by decide +kernel), zin_mem (h := 57) (by decide +kernel), zin_mem (h := 933) (by decide +kernel)⟩, by decide +kernel, by decide +kernel, by decide +kernel⟩
end
section
/-! the island's world; what may be used of the machine in a method's proof -/
def zR (d : Nat) : Room := { frames := d, cells := 0, slots := 0, locals := 40 * d }
theorem zR_le {a b n : Nat} (h : a < b) (hn : n ≤ 21) : (zR a).frames + 1 ≤ (zR b).frames ∧ 8 + (n + 11) + (zR a).locals ≤ (zR b).locals := by
  show a + 1 ≤ b ∧ 8 + (n + 11) + 40 * a ≤ 40 * b
  omega
section ZRUN
variable {p : Program} {l : Launch} {e : Env} {R : Room} {s : State} {m : MethodId} {args : Array Value} {below : List Frame} {meth : Method} {c : Code}
variable {cc : ByteArray} {nL : Nat} {ret : Option FieldType} {own : String} {D : va_G} {C : zC} {A : Nat → Prop} {kc ks n0 : Nat} {q q0 : Nat → Nat} {Q : State → Prop}
/-- straight code of a method that makes no cell -/
theorem zrun (F : zFx p s m args meth c cc nL ret own D C) {tab : List (Nat × Instr)} (hO : zokC cc tab = true) {fl : Nat → Option (Nat × Nat × Nat)} {ki : Nat → Option Int32} {kj : Nat → Option Int64} (hT : zTb own fl ki kj) (n : Nat) (stops : List Nat) {Po : zS → Option Value → Prop} {pc : Nat} {ws : zS} {lv : zL} {st : List Value}
    (h : zgo tab fl ki kj stops (zAt p l e R s m args below meth c D C A nL (MQ below (zQ D C A (zPk n0 Po q)) args s kc ks A) kc ks q) (fun ws rv => zRt ret rv ∧ ws.length = n0 ∧ Po ws rv) n pc ws lv st) :
    zAt p l e R s m args below meth c D C A nL (MQ below (zQ D C A (zPk n0 Po q)) args s kc ks A) kc ks q pc ws lv st :=
  zgo_sound F zcls hT hO (Nat.le_refl _) (Nat.le_refl _) (fun _ _ _ _ h => h) (fun ws rv h => ⟨h.1, fun H locs t hP hD hS ht hW => ⟨⟨q, ws, rv, ⟨rfl, h.2.1, h.2.2⟩, rfl, by rw [ht]; exact hP, hD⟩, hS.F ht⟩⟩) n pc ws lv st h
end ZRUN
theorem zsb_id (ws : zS) : zsb (fun i => i) ws ws := ⟨fun k x h => by rw [zr_id]; exact h, fun i j _ _ h => h⟩
theorem zpl_id {ws w : zS} (h : w.length = ws.length) : zpl (fun i => i) ws ws.length w w := ⟨h, fun k x hx => by rw [zr_id]; exact hx, fun i hi => by
  by_cases h1 : i < ws.length
  · exact absurd rfl (hi i h1)
  · rw [List.getElem?_eq_none (by omega), List.getElem?_eq_none (by omega)]⟩
theorem zrv_id (rv : Option Value) : rv.map (zv fun i => i) = rv := by
  cases rv with
  | none => rfl
  | some v => show some (zv (fun i => i) v) = _; rw [zv_id]
theorem zas_id (As : List Value) : As.map (zv fun i => i) = As := (List.map_congr_left (fun v _ => zv_id v)).trans (List.map_id' As)
theorem zv_rf (q : Nat → Nat) (o : Option Nat) : zv q (va_rf o) = va_rf (o.map q) := by cases o <;> rfl
theorem zsys : Jvm.Cond.native arraycopyName ∈ zG ∧ Jvm.Cond.static arraycopyName ∈ zG ∧ Jvm.Cond.initialized "java/lang/System" ∈ zG := ⟨zin_mem (h := 409) (by decide +kernel), zin_mem (h := 408) (by decide +kernel), zin_mem (h := 61) (by decide +kernel)⟩
/-- what may be used of the machine in a method's proof: Z is 'the method comes to its end well from here' -/
def zOps (l : Launch) (D : va_G) (C : zC) (own : String) (tab : List (Nat × Instr)) (fl : Nat → Option (Nat × Nat × Nat)) (ki : Nat → Option Int32) (kj : Nat → Option Int64) (d : Nat) (Kr : zS → Option Value → Prop) (Z : zP) : Prop :=
  (∀ (n : Nat) (stops : List Nat) (pc : Nat) (ws : zS) (lv : zL) (st : List Value), zgo tab fl ki kj stops Z Kr n pc ws lv st → Z pc ws lv st) ∧
  (∀ (y : MethodName) (cc' : ByteArray) (nL' n idx pc : Nat) (ret' : Option FieldType) (d' : Nat) (σ : Nat → Nat) (wc ws : zS) (lv : zL) (Po : zS → Option Value → Prop) (As st rest : List Value) (b0 : Nat), zCV own idx y cc' nL' ret' n → zFun l D C y cc' nL' ret' (zR d') (.ref b0 :: As) wc Po → zsb σ ws wc →
    (∃ (ci : Nat) (fs : List Value) (r : vw_C), wc[b0]? = some (.inr (.inr (ci, fs))) ∧ vwCl[ci]? = some r ∧ r.1 = y.cls) → zfd tab pc = some (.invokevirtual idx) → st = (As.map (zv σ)).reverse ++ .ref (σ b0) :: rest → As.length = n → (rest.map fun v => v.category).sum ≤ 8 → d' < d → nL' ≤ 21 →
    (∀ (w : zS) (rv : Option Value), w.length = wc.length → Po w rv → ∃ ws', zpl σ ws wc.length w ws' ∧ Z (pc + 3) ws' lv ((rv.map (zv σ)).toList ++ rest)) → Z pc ws lv st) ∧
  (∀ (y : MethodName) (cc' : ByteArray) (nL' n idx pc : Nat) (ret' : Option FieldType) (d' : Nat) (σ : Nat → Nat) (wc ws : zS) (lv : zL) (Po : zS → Option Value → Prop) (As st rest : List Value), zCS own idx y cc' nL' ret' n → zFun l D C y cc' nL' ret' (zR d') As wc Po → zsb σ ws wc →
    zfd tab pc = some (.invokestatic idx) → st = (As.map (zv σ)).reverse ++ rest → As.length = n → (rest.map fun v => v.category).sum ≤ 8 → d' < d → nL' ≤ 21 →
    (∀ (w : zS) (rv : Option Value), w.length = wc.length → Po w rv → ∃ ws', zpl σ ws wc.length w ws' ∧ Z (pc + 3) ws' lv ((rv.map (zv σ)).toList ++ rest)) → Z pc ws lv st) ∧
  (∀ (pc idx : Nat) (ws : zS) (lv : zL) (a0 a1 n0 n1 sp dp n : Nat) (f g : Nat → Int32), zfd tab pc = some (.invokestatic idx) → Jvm.Cond.methodLink own idx arraycopyName ∈ zG → ws[a0]? = some (.inl (0, n0, f)) → ws[a1]? = some (.inl (0, n1, g)) → sp + n ≤ n0 → dp + n ≤ n1 → n0 < 2 ^ 31 → n1 < 2 ^ 31 → 0 < d →
    Z (pc + 3) (ws.set a1 (.inl (0, n1, va_cpy f g sp dp n))) lv [] → Z pc ws lv [.int (nI n), .int (nI dp), .ref a1, .int (nI sp), .ref a0]) ∧
  (∀ (pc : Nat) (ws : zS) (lv : zL) (a n j : Nat) (f : Nat → Option Nat) (r : List Value), zfd tab pc = some .aaload → ws[a]? = some (.inr (.inl (n, f))) → j < n → n < 2 ^ 31 → Z (pc + 1) ws lv (va_rf (f j) :: r) → Z pc ws lv (.int (nI j) :: .ref a :: r)) ∧
  (∀ (pc : Nat) (ws : zS) (lv : zL) (a n j : Nat) (f : Nat → Option Nat) (o : Option Nat) (r : List Value), zfd tab pc = some .aastore → ws[a]? = some (.inr (.inl (n, f))) → j < n → n < 2 ^ 31 → (∀ v, o = some v → ∃ fs, ws[v]? = some (.inr (.inr (2, fs)))) → Z (pc + 1) (ws.set a (.inr (.inl (n, va_up f j o)))) lv r → Z pc ws lv (va_rf o :: .int (nI j) :: .ref a :: r)) ∧
  (∀ (pc : Nat) (ws : zS) (lv : zL) (st : List Value) (a k n : Nat) (f g : Nat → Int32), ws[a]? = some (.inl (k, n, f)) → (∀ j, j < n → f j = g j) → Z pc (ws.set a (.inl (k, n, g))) lv st → Z pc ws lv st) ∧
  (∀ (pc : Nat) (ws : zS) (lv : zL) (st : List Value) (a n : Nat) (f g : Nat → Option Nat), ws[a]? = some (.inr (.inl (n, f))) → (∀ j, j < n → f j = g j) → Z pc (ws.set a (.inr (.inl (n, g)))) lv st → Z pc ws lv st)
theorem arrV_congr (cI : ClassId) (N : Nat) {f g : Nat → Value} (h : ∀ j, j < N → f j = g j) : arrV cI N f = arrV cI N g := by
  unfold arrV
  congr 2
  funext j
  exact h j.val j.isLt
section ZOP
variable {p : Program} {l : Launch} {e : Env} {s : State} {m : MethodId} {args : Array Value} {below : List Frame} {meth : Method} {c : Code}
variable {cc : ByteArray} {nL : Nat} {ret : Option FieldType} {own : String} {D : va_G} {C : zC} {A : Nat → Prop} {kc ks n0 d : Nat} {q : Nat → Nat} {Q : State → Prop} {tab : List (Nat × Instr)}
theorem zop_cp (F : zFx p s m args meth c cc nL ret own D C) (hO : zokC cc tab = true) {pc idx : Nat} {ws : zS} {lv : zL} {a0 a1 n0 n1 sp dp n : Nat} {f g : Nat → Int32} (hd : zfd tab pc = some (.invokestatic idx)) (hl : Jvm.Cond.methodLink own idx arraycopyName ∈ zG) (h0 : ws[a0]? = some (.inl (0, n0, f))) (h1 : ws[a1]? = some (.inl (0, n1, g))) (h2 : sp + n ≤ n0) (h3 : dp + n ≤ n1) (h4 : n0 < 2 ^ 31) (h5 : n1 < 2 ^ 31) (hd0 : 0 < d)
    (kk : zAt p l e (zR d) s m args below meth c D C A nL Q kc ks q (pc + 3) (ws.set a1 (.inl (0, n1, va_cpy f g sp dp n))) lv []) : zAt p l e (zR d) s m args below meth c D C A nL Q kc ks q pc ws lv [.int (nI n), .int (nI dp), .ref a1, .int (nI sp), .ref a0] := by
  obtain ⟨hx, hb, hml, hr, ho, hts, hK, hlocks⟩ := F
  obtain ⟨⟨l0, hdec, hl0⟩, -⟩ := zokC_at hO hd
  obtain rfl : l0 = 3 := hl0.resolve_left (by simp [zisw])
  intro H locs ls hP hD hS hll
  have e1 : (nI n).toNatClampNeg = n := nI_clamp (by omega)
  have e2 : (nI dp).toNatClampNeg = dp := nI_clamp (by omega)
  have e3 : (nI sp).toNatClampNeg = sp := nI_clamp (by omega)
  refine va_copyi (R := zR d) (rest := []) (sp := nI sp) (dp := nI dp) (n := nI n) hx hb (hml.trans hll.2.1.symm) ho (hts _ hl) (hts _ zsys.1) (hts _ zsys.2.1) (hts _ zsys.2.2) hK hP hD hS a0 a1 0 0 (zw_of h0) (zw_of h1) rfl rfl rfl (nI_pos (by omega)) (nI_pos (by omega)) (nI_pos (by omega)) (by rw [e1, e3]; exact h2) (by rw [e1, e2]; exact h3) (fun i _ => rfl) (show 1 ≤ d from hd0) ?_ hdec (fun H1 locs1 hP hD hS => ?_)
  · have h7 : (([] : List Value).map fun v => v.category).sum + (nativeFrameWords "java/lang/System" "arraycopy" 5 + 11) ≤ 40 := by decide +kernel
    exact Nat.le_trans h7 (show 40 ≤ 40 * d by omega)
  · rw [e1, e2, e3] at hP hD
    have e4 : (zw C q ws).set a1 (q a1, Sum.inl (C.1, n1, Sum.inl (va_cpy f g sp dp n))) = zw C q (ws.set a1 (.inl (0, n1, va_cpy f g sp dp n))) := by
      rw [zw_set]; rfl
    exact kk H1 locs1 ls (e4 ▸ hP) (e4 ▸ hD) hS hll
theorem zop_al (F : zFx p s m args meth c cc nL ret own D C) (hO : zokC cc tab = true) {R : Room} {pc : Nat} {ws : zS} {lv : zL} {a n j : Nat} {f : Nat → Option Nat} {r : List Value} (hd : zfd tab pc = some .aaload) (h0 : ws[a]? = some (.inr (.inl (n, f)))) (hj : j < n) (hn : n < 2 ^ 31)
    (kk : zAt p l e R s m args below meth c D C A nL Q kc ks q (pc + 1) ws lv (va_rf (f j) :: r)) : zAt p l e R s m args below meth c D C A nL Q kc ks q pc ws lv (.int (nI j) :: .ref a :: r) := by
  obtain ⟨hx, hb, hml, hr, ho, hts, hK, hlocks⟩ := F
  obtain ⟨⟨l0, hdec, hl0⟩, -⟩ := zokC_at hO hd
  obtain rfl : l0 = 1 := hl0.resolve_left (by simp [zisw])
  intro H locs ls hP hD hS hll
  have e1 : (nI j).toNatClampNeg = j := nI_clamp (by omega)
  refine va_aldq hx hb hK hP a 2 (zw_of h0) rfl (vp_in_nI hj hn) hdec ?_
  rw [e1]
  have h := kk H locs ls hP hD hS hll
  rw [List.map_cons, zv_rf] at h
  exact h
theorem zop_as (F : zFx p s m args meth c cc nL ret own D C) (hO : zokC cc tab = true) {R : Room} {pc : Nat} {ws : zS} {lv : zL} {a n j : Nat} {f : Nat → Option Nat} {o : Option Nat} {r : List Value} (hd : zfd tab pc = some .aastore) (h0 : ws[a]? = some (.inr (.inl (n, f)))) (hj : j < n) (hn : n < 2 ^ 31) (hv : ∀ v, o = some v → ∃ fs, ws[v]? = some (.inr (.inr (2, fs))))
    (kk : zAt p l e R s m args below meth c D C A nL Q kc ks q (pc + 1) (ws.set a (.inr (.inl (n, va_up f j o)))) lv r) : zAt p l e R s m args below meth c D C A nL Q kc ks q pc ws lv (va_rf o :: .int (nI j) :: .ref a :: r) := by
  obtain ⟨hx, hb, hml, hr, ho, hts, hK, hlocks⟩ := F
  obtain ⟨⟨l0, hdec, hl0⟩, -⟩ := zokC_at hO hd
  obtain rfl : l0 = 1 := hl0.resolve_left (by simp [zisw])
  intro H locs ls hP hD hS hll
  have e1 : (nI j).toNatClampNeg = j := nI_clamp (by omega)
  have e4 : ∀ o' : Option Nat, o' = o.map q → (zw C q ws).set a (q a, Sum.inl (C.2.2, n, Sum.inr (Sum.inr (Sum.inr (Sum.inr (va_up (fun j => (f j).map q) j o')))))) = zw C q (ws.set a (.inr (.inl (n, va_up f j o)))) := by
    intro o' ho'
    rw [zw_set]
    congr 1
    show _ = (q a, Sum.inl (C.2.2, n, Sum.inr (Sum.inr (Sum.inr (Sum.inr (fun i => (va_up f j o i).map q))))))
    congr 8
    funext i
    unfold va_up
    split
    · exact ho'
    · rfl
  cases o with
  | none =>
    refine va_astqN hx hb hK hP hD hS a 2 (zw_of h0) rfl (vp_in_nI hj hn) hdec (fun H1 locs1 hP hD hS => ?_)
    rw [e1] at hP hD
    exact kk H1 locs1 ls (e4 _ rfl ▸ hP) (e4 _ rfl ▸ hD) hS hll
  | some v =>
    obtain ⟨fs, hfs⟩ := hv v rfl
    refine va_astq (r := (RX2, TX2, 4)) hx hb hK hP hD hS a 2 v 2 (zw_of h0) rfl (zw_of hfs) rfl (vp_in_nI hj hn) hdec (fun H1 locs1 hP hD hS => ?_)
    rw [e1] at hP hD
    exact kk H1 locs1 ls (e4 _ rfl ▸ hP) (e4 _ rfl ▸ hD) hS hll
theorem zop_x (x' : zE) {R : Room} {pc : Nat} {ws : zS} {lv : zL} {st : List Value} {a : Nat} {x : zE} (h0 : ws[a]? = some x) (hx : ∀ H : Heap, va_at D vwCl (q a, zc C q x) H → va_at D vwCl (q a, zc C q x') H)
    (kk : zAt p l e R s m args below meth c D C A nL Q kc ks q pc (ws.set a x') lv st) : zAt p l e R s m args below meth c D C A nL Q kc ks q pc ws lv st := by
  intro H locs ls hP hD hS hll
  refine kk H locs ls ?_ ?_ hS hll
  · rw [zw_set]
    intro i y hy
    rw [List.getElem?_set] at hy
    by_cases hia : a = i
    · subst hia
      rw [if_pos rfl] at hy
      split at hy
      · cases hy
        exact hx H (hP a _ (zw_of h0))
      · cases hy
    · rw [if_neg hia] at hy
      exact hP i y hy
  · rw [zw_set]
    exact hD.set (zw_of h0)
theorem zops_of (F : zFx p s m args meth c cc nL ret own D C) (N : zNs s) (hAf : ∀ x, s.heap.size ≤ x → A x) (hO : zokC cc tab = true) {fl : Nat → Option (Nat × Nat × Nat)} {ki : Nat → Option Int32} {kj : Nat → Option Int64} (hT : zTb own fl ki kj) {Po : zS → Option Value → Prop} :
    zOps l D C own tab fl ki kj d (fun ws rv => zRt ret rv ∧ ws.length = n0 ∧ Po ws rv) (zAt p l e (zR d) s m args below meth c D C A nL (MQ below (zQ D C A (zPk n0 Po q)) args s 0 0 A) 0 0 q) :=
  ⟨fun n stops pc ws lv st h => zrun F hO hT n stops h,
   fun y cc' nL' n idx pc ret' d' σ wc ws lv Po' As st rest b0 hW hM hsb hrc hd hst hn hrest hdd hL kk => zcallV (R := zR d) (rm' := zR d') (rest := rest) F N hAf hO hM hW hsb hrc kk hd hst hn hrest (zR_le hdd hL) ⟨Nat.le_refl 0, Nat.le_refl 0⟩,
   fun y cc' nL' n idx pc ret' d' σ wc ws lv Po' As st rest hW hM hsb hd hst hn hrest hdd hL kk => zcallS (R := zR d) (rm' := zR d') (rest := rest) F N hAf hO hM hW hsb kk hd hst hn hrest (zR_le hdd hL) ⟨Nat.le_refl 0, Nat.le_refl 0⟩,
   fun pc idx ws lv a0 a1 n0 n1 sp dp n f g hd hl h0 h1 h2 h3 h4 h5 hd0 kk => zop_cp F hO hd hl h0 h1 h2 h3 h4 h5 hd0 kk,
   fun pc ws lv a n j f r hd h0 hj hn kk => zop_al F hO hd h0 hj hn kk,
   fun pc ws lv a n j f o r hd h0 hj hn hv kk => zop_as F hO hd h0 hj hn hv kk,
   fun pc ws lv st a k n f g h0 hx kk => zop_x _ h0 (fun H h => by
     show H[q a]? = some (vp_cell _ (n, .inl g))
     have h : H[q a]? = some (vp_cell _ (n, .inl f)) := h
     rw [h, vp_cell_i, vp_cell_i, arrV_congr _ n (fun j hj => by rw [hx j hj])]) kk,
   fun pc ws lv st a n f g h0 hx kk => zop_x _ h0 (fun H h => by
     show H[q a]? = some (vp_cell _ (n, .inr (.inr (.inr (.inr (fun j => (g j).map q))))))
     have h : H[q a]? = some (vp_cell _ (n, .inr (.inr (.inr (.inr (fun j => (f j).map q)))))) := h
     rw [h, vp_cell_q, vp_cell_q, arrV_congr _ n (fun j hj => by rw [hx j hj])]) kk⟩
end ZOP
section ZOQ
variable {l : Launch} {D : va_G} {C : zC} {y : MethodName} {cc : ByteArray} {nL d : Nat} {ret : Option FieldType} {av : List Value} {wc : zS} {Po : zS → Option Value → Prop} {tab : List (Nat × Instr)} {fl : Nat → Option (Nat × Nat × Nat)} {ki : Nat → Option Int32} {kj : Nat → Option Int64} {Kr : zS → Option Value → Prop} {Z : zP} {own : String}
/-- a method that makes no cell: what is to be proved of it -/
theorem zFun_of (hy : plainName y.cls = true) (hO : zokC cc tab = true) (hT : zTb y.cls fl ki kj) (hlen : (zen av).length ≤ nL)
    (body : ∀ Z : zP, zOps l D C y.cls tab fl ki kj d (fun ws rv => zRt ret rv ∧ ws.length = wc.length ∧ Po ws rv) Z → Z 0 wc (zel nL av) []) : zFun l D C y cc nL ret (zR d) av wc Po :=
  zMet_of hy hlen (fun p e s m args below meth c q A F N _ hA => body _ (zops_of F N hA hO hT))
theorem zOps.run (o : zOps l D C own tab fl ki kj d Kr Z) (n : Nat) (stops : List Nat) {pc : Nat} {ws : zS} {lv : zL} {st : List Value} (h : zgo tab fl ki kj stops Z Kr n pc ws lv st) : Z pc ws lv st := o.1 n stops pc ws lv st h
variable {y' : MethodName} {cc' : ByteArray} {nL' n idx pc d' : Nat} {ret' : Option FieldType} {ws : zS} {lv : zL} {As st rest : List Value} {b0 : Nat}
/-- a virtual call over the caller's own world -/
theorem zOps.cV (o : zOps l D C own tab fl ki kj d Kr Z) (hW : zCV own idx y' cc' nL' ret' n) (hM : zFun l D C y' cc' nL' ret' (zR d') (.ref b0 :: As) ws Po) (kk : ∀ (w : zS) (rv : Option Value), w.length = ws.length → Po w rv → Z (pc + 3) w lv (rv.toList ++ rest))
    (hrc : ∃ (ci : Nat) (fs : List Value) (r : vw_C), ws[b0]? = some (.inr (.inr (ci, fs))) ∧ vwCl[ci]? = some r ∧ r.1 = y'.cls := by exact ⟨_, _, _, rfl, rfl, rfl⟩)
    (hd : zfd tab pc = some (.invokevirtual idx) := by rfl) (hst : st = As.reverse ++ .ref b0 :: rest := by rfl) (hn : As.length = n := by rfl) (hrest : (rest.map fun v => v.category).sum ≤ 8 := by exact Nat.le_of_ble_eq_true rfl)
    (hdd : d' < d := by exact Nat.le_of_ble_eq_true rfl) (hL : nL' ≤ 21 := by exact Nat.le_of_ble_eq_true rfl) : Z pc ws lv st :=
  o.2.1 y' cc' nL' n idx pc ret' d' (fun i => i) ws ws lv Po As st rest b0 hW hM (zsb_id ws) hrc hd (by rw [zas_id]; exact hst) hn hrest hdd hL (fun w rv h1 h2 => ⟨w, zpl_id h1, by rw [zrv_id]; exact kk w rv h1 h2⟩)
/-- a virtual call over another world -/
theorem zOps.cVs (o : zOps l D C own tab fl ki kj d Kr Z) (σ : Nat → Nat) (hW : zCV own idx y' cc' nL' ret' n) (hM : zFun l D C y' cc' nL' ret' (zR d') (.ref b0 :: As) wc Po) (hsb : zsb σ ws wc) (kk : ∀ (w : zS) (rv : Option Value), w.length = wc.length → Po w rv → ∃ ws', zpl σ ws wc.length w ws' ∧ Z (pc + 3) ws' lv ((rv.map (zv σ)).toList ++ rest))
    (hrc : ∃ (ci : Nat) (fs : List Value) (r : vw_C), wc[b0]? = some (.inr (.inr (ci, fs))) ∧ vwCl[ci]? = some r ∧ r.1 = y'.cls := by exact ⟨_, _, _, rfl, rfl, rfl⟩)
    (hd : zfd tab pc = some (.invokevirtual idx) := by rfl) (hst : st = (As.map (zv σ)).reverse ++ .ref (σ b0) :: rest := by rfl) (hn : As.length = n := by rfl) (hrest : (rest.map fun v => v.category).sum ≤ 8 := by exact Nat.le_of_ble_eq_true rfl)
    (hdd : d' < d := by exact Nat.le_of_ble_eq_true rfl) (hL : nL' ≤ 21 := by exact Nat.le_of_ble_eq_true rfl) : Z pc ws lv st :=
  o.2.1 y' cc' nL' n idx pc ret' d' σ wc ws lv Po As st rest b0 hW hM hsb hrc hd hst hn hrest hdd hL kk
/-- a static call that touches no cell -/
theorem zOps.cS (o : zOps l D C own tab fl ki kj d Kr Z) (hW : zCS own idx y' cc' nL' ret' n) (hM : zFun l D C y' cc' nL' ret' (zR d') As [] Po) (kk : ∀ (rv : Option Value), Po [] rv → Z (pc + 3) ws lv (rv.toList ++ rest))
    (hd : zfd tab pc = some (.invokestatic idx) := by rfl) (hst : st = As.reverse ++ rest := by rfl) (hn : As.length = n := by rfl) (hrest : (rest.map fun v => v.category).sum ≤ 8 := by exact Nat.le_of_ble_eq_true rfl)
    (hdd : d' < d := by exact Nat.le_of_ble_eq_true rfl) (hL : nL' ≤ 21 := by exact Nat.le_of_ble_eq_true rfl) : Z pc ws lv st :=
  o.2.2.1 y' cc' nL' n idx pc ret' d' (fun i => i) [] ws lv Po As st rest hW hM ⟨fun k x h => by simp at h, fun i j h => by simp at h⟩ hd (by rw [zas_id]; exact hst) hn hrest hdd hL (fun w rv h1 h2 => ⟨ws, ⟨rfl, fun k x hx => by rw [List.length_eq_zero_iff.mp h1] at hx; simp at hx, fun _ _ => rfl⟩, by rw [zrv_id]; exact kk rv (by rw [List.length_eq_zero_iff.mp h1] at h2; exact h2)⟩)
/-- a static call over another world -/
theorem zOps.cSs (o : zOps l D C own tab fl ki kj d Kr Z) (σ : Nat → Nat) (hW : zCS own idx y' cc' nL' ret' n) (hM : zFun l D C y' cc' nL' ret' (zR d') As wc Po) (hsb : zsb σ ws wc) (kk : ∀ (w : zS) (rv : Option Value), w.length = wc.length → Po w rv → ∃ ws', zpl σ ws wc.length w ws' ∧ Z (pc + 3) ws' lv ((rv.map (zv σ)).toList ++ rest))
    (hd : zfd tab pc = some (.invokestatic idx) := by rfl) (hst : st = (As.map (zv σ)).reverse ++ rest := by rfl) (hn : As.length = n := by rfl) (hrest : (rest.map fun v => v.category).sum ≤ 8 := by exact Nat.le_of_ble_eq_true rfl)
    (hdd : d' < d := by exact Nat.le_of_ble_eq_true rfl) (hL : nL' ≤ 21 := by exact Nat.le_of_ble_eq_true rfl) : Z pc ws lv st :=
  o.2.2.1 y' cc' nL' n idx pc ret' d' σ wc ws lv Po As st rest hW hM hsb hd hst hn hrest hdd hL kk
end ZOQ
/-- the island: its numbers (0 wayCount, 1 skyLength, 2 skyStart, 3 ruleCount, 4 peopleCount, 5 year, 6 show, 7 hidden), its rows (0 brings, 1 sky, 2 wayOf, 3 ruleOf, 4 seesOf, 5 total, 6 brought, 7 seen, 8 chosen, 9 planters), its rules -/
abbrev zI : Type := (Nat → Int32) × (Nat → Nat → Int32) × (Nat → Option Nat)
def isl (b RB : Nat) (I : zI) : zS := [
  .inr (.inr (0, [.int (I.1 0), .ref (b + 1), .int (I.1 1), .ref (b + 2), .int (I.1 2), .int (I.1 3), .ref (b + 3), .int (I.1 4), .ref (b + 4), .ref (b + 5), .ref (b + 6), .ref (b + 7), .int (I.1 5), .int (I.1 6), .int (I.1 7), .ref (b + 8), .ref (b + 9), .ref (b + 10), .ref (b + 11)])),
  .inl (0, 24, I.2.1 0), .inl (0, 24, I.2.1 1), .inr (.inl (10, fun j => (I.2.2 j).map (fun r => r + RB))), .inl (0, 8, I.2.1 2), .inl (0, 8, I.2.1 3), .inl (0, 8, I.2.1 4), .inl (0, 8, I.2.1 5), .inl (0, 8, I.2.1 6), .inl (0, 8, I.2.1 7), .inl (0, 8, I.2.1 8), .inl (0, 6, I.2.1 9)]
def setS (I : zI) (k : Nat) (x : Int32) : zI := (upd I.1 k x, I.2.1, I.2.2)
def setA (I : zI) (k : Nat) (f : Nat → Int32) : zI := (I.1, fun j => if j = k then f else I.2.1 j, I.2.2)
-- pure: the best way among 0 .. k in weather t; counting
def bst (b : Nat → Int32) (t : Nat) : Nat → Nat
  | 0 => 0
  | k + 1 => if b (bst b t k * 4 + t) < b ((k + 1) * 4 + t) then k + 1 else bst b t k
theorem bst_le (b : Nat → Int32) (t : Nat) : ∀ k, bst b t k ≤ k
  | 0 => Nat.le_refl 0
  | k + 1 => by unfold bst; split <;> first | exact Nat.le_refl _ | exact Nat.le_succ_of_le (bst_le b t k)
def cnt (f : Nat → Bool) : Nat → Nat
  | 0 => 0
  | k + 1 => cnt f k + (if f k then 1 else 0)
theorem cnt_le (f : Nat → Bool) : ∀ k, cnt f k ≤ k
  | 0 => Nat.le_refl 0
  | k + 1 => by unfold cnt; have := cnt_le f k; split <;> omega
def sm (f : Nat → Int32) : Nat → Int32
  | 0 => 0
  | k + 1 => sm f k + f k
end
section
/-! the island's reading methods -/
section ISR
variable {l : Launch} {D : va_G} {C : zC} {RB : Nat} {I : zI}
set_option maxRecDepth 10000 in
theorem c_bringsOf {w t : Nat} (hw : w < 6) (ht : t < 4) : zFun l D C yX0_bringsOf cX0_bringsOf 3 (some .int) (zR 0) [.ref 0, .int (nI w), .int (nI t)] (isl 0 RB I) (fun w' rv => w' = isl 0 RB I ∧ rv = some (.int (I.2.1 0 (w * 4 + t)))) := by
  refine zFun_of (by decide) oX0_bringsOf tbX0 (Nat.le_of_ble_eq_true rfl) (fun Z o => ?_)
  refine o.run 100 [] ⟨w * 4 + t, ?_, by omega, ⟨_, rfl, rfl⟩, rfl, rfl, rfl⟩
  show nI w * nI 4 + nI t = _
  rw [pk_mul, nI_add]
set_option maxRecDepth 10000 in
theorem c_weatherOf {y s0 L : Nat} (hy : y < 2 ^ 30) (h0 : s0 ≤ y) (hL : 0 < L) (hL2 : L ≤ 24) (e1 : I.1 1 = nI L) (e2 : I.1 2 = nI s0) : zFun l D C yX0_weatherOf cX0_weatherOf 3 (some .int) (zR 0) [.ref 0, .int (nI y)] (isl 0 RB I) (fun w' rv => w' = isl 0 RB I ∧ rv = some (.int (I.2.1 1 ((y - s0) % L)))) := by
  refine zFun_of (by decide) oX0_weatherOf tbX0 (Nat.le_of_ble_eq_true rfl) (fun Z o => ?_)
  have e3 : nI y - I.1 2 = nI (y - s0) := by rw [e2, pk_sub h0]
  refine o.run 100 [] ⟨fun h => ?_, fun _ => ⟨fun h => ?_, fun _ => ⟨?_, (y - s0) % L, ?_, ?_, ⟨_, rfl, rfl⟩, rfl, rfl, rfl⟩⟩⟩
  · exact absurd h (by rw [e3]; exact nI_pos (by omega))
  · exact absurd h (by rw [e1]; exact nI_nle hL (by omega))
  · rw [e1]; exact nI_ne0 hL (by omega)
  · rw [e1, e3]
    exact pk_rem (by omega) hL (by omega)
  · have := Nat.mod_lt (y - s0) hL; omega
set_option maxRecDepth 10000 in
theorem c_bestIn {W t : Nat} (hW : W ≤ 6) (ht : t < 4) (e0 : I.1 0 = nI W) : zFun l D C yX0_bestIn cX0_bestIn 4 (some .int) (zR 1) [.ref 0, .int (nI t)] (isl 0 RB I) (fun w' rv => w' = isl 0 RB I ∧ rv = some (.int (nI (bst (I.2.1 0) t (W - 1))))) := by
  refine zFun_of (by decide) oX0_bestIn tbX0 (Nat.le_of_ble_eq_true rfl) (fun Z o => ?_)
  have loop : ∀ n k, k + n = W - 1 → Z 4 (isl 0 RB I) [some (.ref 0), some (.int (nI t)), some (.int (nI (bst (I.2.1 0) t k))), some (.int (nI (k + 1)))] [] := by
    intro n
    induction n with
    | zero =>
      intro k hk
      refine o.run 100 [] ⟨fun h => ?_, fun h => ?_⟩
      · obtain rfl : k = W - 1 := by omega
        exact ⟨⟨_, rfl, rfl⟩, rfl, rfl, rfl⟩
      · exact absurd (by rw [e0]; exact nI_le (by omega) (by omega)) h
    | succ n ih =>
      intro k hk
      refine o.run 100 [4] ⟨fun h => ?_, fun h => ?_⟩
      · exact absurd h (by rw [e0]; exact nI_ge (by omega) (by omega))
      · have hb := bst_le (I.2.1 0) t k
        refine o.cV vX0_89 (c_bringsOf (w := k + 1) (t := t) (by omega) ht) (fun w rv _ hpo => ?_)
        obtain ⟨rfl, rfl⟩ := hpo
        refine o.run 100 [4] ?_
        show Z _ _ _ _
        refine o.cV (rest := [.int _]) vX0_89 (c_bringsOf (w := bst (I.2.1 0) t k) (t := t) (by omega) ht) (fun w rv _ hpo => ?_)
        obtain ⟨rfl, rfl⟩ := hpo
        have e9 : nI (k + 1) + zi 1 = nI (k + 1 + 1) := nI_1 (k + 1)
        refine o.run 100 [4] ⟨fun h1 => ?_, fun h1 => ?_⟩
        · have e8 : bst (I.2.1 0) t (k + 1) = bst (I.2.1 0) t k := by
            rw [bst, if_neg (fun h2 => Int32.not_le.mpr h2 h1)]
          have := ih (k + 1) (by omega)
          rw [e8, ← e9] at this
          exact this
        · have e8 : bst (I.2.1 0) t (k + 1) = k + 1 := by
            rw [bst, if_pos (Int32.not_le.mp h1)]
          have := ih (k + 1) (by omega)
          rw [e8, ← e9] at this
          exact this
  exact o.run 100 [4] (loop (W - 1) 0 (by omega))
set_option maxRecDepth 10000 in
theorem c_plantersOf {n : Nat} {x : Int32} (hn : n ≤ 8) (e4 : I.1 4 = nI n) : zFun l D C yX0_plantersOf cX0_plantersOf 4 (some .int) (zR 0) [.ref 0, .int x] (isl 0 RB I) (fun w' rv => w' = isl 0 RB I ∧ rv = some (.int (nI (cnt (fun p => decide (I.2.1 2 p = x)) n)))) := by
  refine zFun_of (by decide) oX0_plantersOf tbX0 (Nat.le_of_ble_eq_true rfl) (fun Z o => ?_)
  have loop : ∀ j k, k + j = n → Z 4 (isl 0 RB I) [some (.ref 0), some (.int x), some (.int (nI (cnt (fun p => decide (I.2.1 2 p = x)) k))), some (.int (nI k))] [] := by
    intro j
    induction j with
    | zero =>
      intro k hk
      obtain rfl : k = n := by omega
      exact o.run 100 [] ⟨fun _ => ⟨⟨_, rfl, rfl⟩, rfl, rfl, rfl⟩, fun h => absurd (by rw [e4]; exact nI_le (Nat.le_refl _) (by omega)) h⟩
    | succ j ih =>
      intro k hk
      refine o.run 100 [4] ⟨fun h => absurd h (by rw [e4]; exact nI_ge (by omega) (by omega)), fun _ => ⟨k, rfl, by omega, fun h1 => ?_, fun h1 => ?_⟩⟩
      · have := ih (k + 1) (by omega)
        rw [cnt, if_neg (by simpa using h1), ← nI_1 k] at this
        exact this
      · have := ih (k + 1) (by omega)
        rw [cnt, if_pos (by simpa using h1), ← nI_1 k, ← nI_1] at this
        exact this
  exact o.run 100 [4] (loop n 0 (by omega))
end ISR
end
section
/-! helpers: calls over a part of the world; the pool of rules; more of the island -/
def zB (b : Bool) : Int32 := if b then nI 1 else nI 0
theorem zB_nar (b : Bool) : narrow .boolean (.int (zB b)) = .int (zB b) := by cases b <;> decide +kernel
theorem zB_rt (b : Bool) : zRt (some .boolean) (some (.int (zB b))) := ⟨_, rfl, zB_nar b⟩
theorem zB_0 (b : Bool) : zB b = 0 ↔ b = false := by cases b <;> decide +kernel
def mix (k : Nat) (g f : Nat → Int32) : Nat → Int32 := fun j => if j < k then g j else f j
theorem mix_0 (g f : Nat → Int32) : mix 0 g f = f := by funext j; simp [mix]
theorem mix_upd (k : Nat) (g f : Nat → Int32) : upd (mix k g f) k (g k) = mix (k + 1) g f := by
  funext j
  unfold upd mix
  by_cases h1 : j = k
  · subst h1; simp
  · by_cases h2 : j < k
    · simp [h1, h2, Nat.lt_succ_of_lt h2]
    · have h3 : ¬ j < k + 1 := by omega
      simp [h1, h2, h3]
theorem mix_lt {k j : Nat} {g f : Nat → Int32} (h : j < k) : mix k g f j = g j := if_pos h
theorem mix_ge {k j : Nat} {g f : Nat → Int32} (h : k ≤ j) : mix k g f j = f j := if_neg (Nat.not_lt.mpr h)
theorem isl_len (b RB : Nat) (I : zI) : (isl b RB I).length = 12 := rfl
abbrev zRu : Type := Int32 × Int32 × Option Nat × Option Nat
def pol (RB : Nat) (RL : List zRu) : zS := RL.map (fun r => .inr (.inr (2, [.int r.1, .int r.2.1, va_rf (r.2.2.1.map (fun i => i + RB)), va_rf (r.2.2.2.map (fun i => i + RB))])))
theorem pol_at (RB : Nat) (RL : List zRu) (i : Nat) : (pol RB RL)[i]? = (RL[i]?).map (fun r => .inr (.inr (2, [.int r.1, .int r.2.1, va_rf (r.2.2.1.map (fun i => i + RB)), va_rf (r.2.2.2.map (fun i => i + RB))]))) := by simp [pol]
theorem zsb_pre {wc tl : zS} : zsb (fun i => i) (wc ++ tl) wc := ⟨fun k x h => by
  rw [zr_id, List.getElem?_append_left (List.getElem?_eq_some_iff.mp h).1]; exact h, fun i j _ _ h => h⟩
theorem zpl_pre {wc tl w : zS} (h : w.length = wc.length) : zpl (fun i => i) (wc ++ tl) wc.length w (w ++ tl) := ⟨by simp [h], fun k x hx => by
  rw [zr_id, List.getElem?_append_left (List.getElem?_eq_some_iff.mp hx).1]; exact hx, fun i hi => by
  have h1 : ¬ i < wc.length := fun h1 => hi i h1 rfl
  rw [List.getElem?_append_right (by omega), List.getElem?_append_right (by omega), h]⟩
theorem zsb_one {ws : zS} {a k n : Nat} {f : Nat → Int32} (h : ws[a]? = some (.inl (k, n, f))) : zsb (fun i => i + a) ws [.inl (k, n, f)] := ⟨fun i x hx => by
  cases i with
  | zero =>
    simp at hx
    subst hx
    show ws[0 + a]? = _
    rw [Nat.zero_add]
    exact h
  | succ i => simp at hx, fun i j hi hj h => by
    have h : i + a = j + a := h
    omega⟩
theorem zpl_one {ws : zS} {a : Nat} (y : Nat × Nat × (Nat → Int32)) (h : a < ws.length) : zpl (fun i => i + a) ws 1 [.inl y] (ws.set a (.inl y)) := ⟨by simp, fun i x hx => by
  cases i with
  | zero => simp at hx; subst hx; simp [h, zr]
  | succ i => simp at hx, fun i hi => by
  have h2 : 0 + a ≠ i := hi 0 (by omega)
  have h1 : a ≠ i := by omega
  rw [List.getElem?_set, if_neg h1]⟩
section ZOQ2
variable {l : Launch} {D : va_G} {C : zC} {d : Nat} {Po : zS → Option Value → Prop} {tab : List (Nat × Instr)} {fl : Nat → Option (Nat × Nat × Nat)} {ki : Nat → Option Int32} {kj : Nat → Option Int64} {Kr : zS → Option Value → Prop} {Z : zP} {own : String}
variable {y' : MethodName} {cc' : ByteArray} {nL' n idx pc d' : Nat} {ret' : Option FieldType} {wc tl ws : zS} {lv : zL} {As st rest : List Value} {b0 : Nat}
/-- a virtual call over the first cells of the caller's world -/
theorem zOps.cVp (o : zOps l D C own tab fl ki kj d Kr Z) (hW : zCV own idx y' cc' nL' ret' n) (hM : zFun l D C y' cc' nL' ret' (zR d') (.ref b0 :: As) wc Po) (kk : ∀ (w : zS) (rv : Option Value), w.length = wc.length → Po w rv → Z (pc + 3) (w ++ tl) lv (rv.toList ++ rest))
    (hrc : ∃ (ci : Nat) (fs : List Value) (r : vw_C), wc[b0]? = some (.inr (.inr (ci, fs))) ∧ vwCl[ci]? = some r ∧ r.1 = y'.cls := by exact ⟨_, _, _, rfl, rfl, rfl⟩)
    (hd : zfd tab pc = some (.invokevirtual idx) := by rfl) (hst : st = As.reverse ++ .ref b0 :: rest := by rfl) (hn : As.length = n := by rfl) (hrest : (rest.map fun v => v.category).sum ≤ 8 := by exact Nat.le_of_ble_eq_true rfl)
    (hdd : d' < d := by exact Nat.le_of_ble_eq_true rfl) (hL : nL' ≤ 21 := by exact Nat.le_of_ble_eq_true rfl) : Z pc (wc ++ tl) lv st :=
  o.2.1 y' cc' nL' n idx pc ret' d' (fun i => i) wc (wc ++ tl) lv Po As st rest b0 hW hM zsb_pre hrc hd (by rw [zas_id]; exact hst) hn hrest hdd hL (fun w rv h1 h2 => ⟨w ++ tl, zpl_pre h1, by rw [zrv_id]; exact kk w rv h1 h2⟩)
/-- a static call over one row of the caller's world -/
theorem zOps.cS1 (o : zOps l D C own tab fl ki kj d Kr Z) {a k m : Nat} {f g : Nat → Int32} {Bs : List Value} {P2 : Option Value → Prop} (hW : zCS own idx y' cc' nL' ret' n) (hM : zFun l D C y' cc' nL' ret' (zR d') (.ref 0 :: Bs) [.inl (k, m, f)] (fun w rv => w = [.inl (k, m, g)] ∧ P2 rv)) (ha : ws[a]? = some (.inl (k, m, f))) (kk : ∀ (rv : Option Value), P2 rv → Z (pc + 3) (ws.set a (.inl (k, m, g))) lv ((rv.map (zv (fun i => i + a))).toList ++ rest))
    (hd : zfd tab pc = some (.invokestatic idx) := by rfl) (hst : st = (Bs.map (zv (fun i => i + a))).reverse ++ .ref a :: rest := by rfl) (hn : Bs.length + 1 = n := by rfl) (hrest : (rest.map fun v => v.category).sum ≤ 8 := by exact Nat.le_of_ble_eq_true rfl)
    (hdd : d' < d := by exact Nat.le_of_ble_eq_true rfl) (hL : nL' ≤ 21 := by exact Nat.le_of_ble_eq_true rfl) : Z pc ws lv st :=
  o.2.2.1 y' cc' nL' n idx pc ret' d' (fun i => i + a) [.inl (k, m, f)] ws lv _ (.ref 0 :: Bs) st rest hW hM (zsb_one ha) hd (by rw [hst, List.map_cons, List.reverse_cons, List.append_assoc]; simp [zv]) hn hrest hdd hL (fun w rv h1 h2 => ⟨ws.set a (.inl (k, m, g)), by rw [h2.1]; exact zpl_one _ (List.getElem?_eq_some_iff.mp ha).1, kk rv h2.2⟩)
/-- a field of an object at any name -/
theorem zOps.gf (o : zOps l D C own tab fl ki kj d Kr Z) {ci j kd a : Nat} {fs : List Value} {v : Value} {r : List Value} (hf : fl idx = some (ci, j, kd)) (ha : ws[a]? = some (.inr (.inr (ci, fs)))) (hv : fs[j]? = some v) (kk : Z (pc + 3) ws lv (v :: r)) (hd : zfd tab pc = some (.getfield idx) := by rfl) : Z pc ws lv (.ref a :: r) := by
  refine o.run 1 [] ?_
  unfold zgo
  rw [hd]
  show zgf fl _ pc ws lv (.ref a :: r) idx
  have hb : Nat.beq ci ci = true := Nat.beq_refl ci
  simp only [zgf, hf, ha, hb, hv]
  exact kk
theorem zOps.ial (o : zOps l D C own tab fl ki kj d Kr Z) {a m j : Nat} {f : Nat → Int32} {r : List Value} (ha : ws[a]? = some (.inl (0, m, f))) (hm : m < 2 ^ 31) (hj : j < m) (kk : Z (pc + 1) ws lv (.int (f j) :: r)) (hd : zfd tab pc = some .iaload := by rfl) : Z pc ws lv (.int (nI j) :: .ref a :: r) := by
  refine o.run 1 [] ?_
  unfold zgo
  rw [hd]
  show zia _ pc ws lv (.int (nI j) :: .ref a :: r) 0
  have hb : Nat.blt m 2147483648 = true := by simpa using hm
  have h0 : Nat.beq 0 0 = true := rfl
  simp only [zia, ha, hb, h0]
  exact ⟨j, rfl, hj, kk⟩
theorem zOps.ias (o : zOps l D C own tab fl ki kj d Kr Z) {a m j : Nat} {f : Nat → Int32} {x : Int32} {r : List Value} (ha : ws[a]? = some (.inl (0, m, f))) (hm : m < 2 ^ 31) (hj : j < m) (kk : Z (pc + 1) (ws.set a (.inl (0, m, upd f j x))) lv r) (hd : zfd tab pc = some .iastore := by rfl) : Z pc ws lv (.int x :: .int (nI j) :: .ref a :: r) := by
  refine o.run 1 [] ?_
  unfold zgo
  rw [hd]
  show zis _ pc ws lv (.int x :: .int (nI j) :: .ref a :: r) 0
  have hb : Nat.blt m 2147483648 = true := by simpa using hm
  have h0 : Nat.beq 0 0 = true := rfl
  simp only [zis, ha, hb, h0]
  exact ⟨j, rfl, hj, kk⟩
end ZOQ2
theorem tbJ7 : zTb RJ7 (fun _ => none) (fun _ => none) (fun _ => none) := ⟨fun _ _ _ _ h => by simp at h, fun _ _ h => by simp at h, fun _ _ h => by simp at h⟩
theorem tbJ9 : zTb RJ9 (fun _ => none) (fun _ => none) (fun _ => none) := ⟨fun _ _ _ _ h => by simp at h, fun _ _ h => by simp at h, fun _ _ h => by simp at h⟩
section ISM
variable {l : Launch} {D : va_G} {C : zC} {RB : Nat} {I : zI}
set_option maxRecDepth 10000 in
theorem c_fill {n : Nat} {f : Nat → Int32} {x : Int32} (hn : n < 1000) : zFun l D C yJ7_fill_53178 cJ7_fill_53178 4 none (zR 0) [.ref 0, .int x] [.inl (0, n, f)] (fun w' rv => w' = [.inl (0, n, mix n (fun _ => x) f)] ∧ rv = none) := by
  refine zFun_of (by decide) oJ7_fill_53178 tbJ7 (Nat.le_of_ble_eq_true rfl) (fun Z o => ?_)
  have loop : ∀ j k, k + j = n → Z 5 [.inl (0, n, mix k (fun _ => x) f)] [some (.ref 0), some (.int x), some (.int (nI k)), some (.int (nI n))] [] := by
    intro j
    induction j with
    | zero =>
      intro k hk
      obtain rfl : k = n := by omega
      exact o.run 100 [] ⟨fun _ => ⟨rfl, rfl, rfl, rfl⟩, fun h => absurd (nI_le (Nat.le_refl _) (by omega)) h⟩
    | succ j ih =>
      intro k hk
      refine o.run 100 [5, 13] ⟨fun h => absurd h (nI_ge (by omega) (by omega)), fun _ => ?_⟩
      show Z _ _ _ _
      refine o.ias (a := 0) rfl (by omega) (show k < n by omega) (o.run 100 [5] ?_)
      have := ih (k + 1) (by omega)
      rw [← mix_upd, ← nI_1 k] at this
      exact this
  have h0 := loop n 0 (by omega)
  rw [mix_0] at h0
  exact o.run 100 [5] h0
set_option maxRecDepth 10000 in
theorem c_isDivisor {k y : Nat} (hk : k < 2 ^ 30) (hy : y < 2 ^ 30) : zFun l D C yX0_isDivisor cX0_isDivisor 2 (some .boolean) (zR 0) [.int (nI k), .int (nI y)] [] (fun w' rv => rv = some (.int (zB (decide (0 < k ∧ y % k = 0))))) := by
  refine zFun_of (by decide) oX0_isDivisor tbX0 (Nat.le_of_ble_eq_true rfl) (fun Z o => ?_)
  have hF : (decide (0 < k ∧ y % k = 0)) = false → zRt (some .boolean) (some (.int (nI 0))) ∧ ([] : zS).length = 0 ∧ some (Value.int (nI 0)) = some (.int (zB (decide (0 < k ∧ y % k = 0)))) := fun h => by
    rw [h]; exact ⟨zB_rt false, rfl, rfl⟩
  refine o.run 100 [] ⟨fun h => hF ?_, fun h => ?_⟩
  · have : k = 0 := by
      rcases Nat.eq_zero_or_pos k with h1 | h1
      · exact h1
      · exact absurd h (nI_nle h1 (by omega))
    subst this; simp
  · have hk0 : 0 < k := by
      rcases Nat.eq_zero_or_pos k with h1 | h1
      · subst h1; exact absurd (by decide) h
      · exact h1
    have e : nI y - nI y / nI k * nI k = nI (y % k) := pk_rem (by omega) hk0 (by omega)
    refine ⟨nI_ne0 hk0 (by omega), fun h1 => hF ?_, fun h1 => ?_⟩
    · rw [e] at h1
      have : y % k ≠ 0 := fun h2 => h1 (by rw [h2]; exact nI_0)
      simp [this]
    · rw [e] at h1
      have : y % k = 0 := by
        rcases Nat.eq_zero_or_pos (y % k) with h2 | h2
        · exact h2
        · exact absurd h1 (nI_ne0 h2 (by have := Nat.mod_lt y hk0; omega))
      have e2 : (decide (0 < k ∧ y % k = 0)) = true := by simp [hk0, this]
      rw [e2]
      exact ⟨zB_rt true, rfl, rfl⟩
set_option maxRecDepth 10000 in
theorem c_wayBehind {w W : Nat} (hw : w < 6) (hW : W ≤ 6) (e0 : I.1 0 = nI W) : zFun l D C yX0_wayBehind cX0_wayBehind 2 (some .int) (zR 0) [.ref 0, .int (nI w)] (isl 0 RB I) (fun w' rv => w' = isl 0 RB I ∧ rv = some (.int (nI (if w + 1 < W then w + 1 else 0)))) := by
  refine zFun_of (by decide) oX0_wayBehind tbX0 (Nat.le_of_ble_eq_true rfl) (fun Z o => ?_)
  have e : nI w + zi 1 = nI (w + 1) := nI_1 w
  refine o.run 100 [] ⟨fun h => ⟨⟨_, rfl, rfl⟩, rfl, rfl, ?_⟩, fun h => ⟨⟨_, rfl, rfl⟩, rfl, rfl, ?_⟩⟩
  · rw [e, e0, nI_leI (by omega) (by omega)] at h
    rw [if_neg (by omega)]; rfl
  · rw [e, e0, nI_leI (by omega) (by omega)] at h
    rw [if_pos (by omega), ← e]
set_option maxRecDepth 10000 in
theorem c_allBrought {n : Nat} (hn : n ≤ 8) (e4 : I.1 4 = nI n) : zFun l D C yX0_allBrought cX0_allBrought 3 (some .int) (zR 0) [.ref 0] (isl 0 RB I) (fun w' rv => w' = isl 0 RB I ∧ rv = some (.int (sm (I.2.1 5) n))) := by
  refine zFun_of (by decide) oX0_allBrought tbX0 (Nat.le_of_ble_eq_true rfl) (fun Z o => ?_)
  have loop : ∀ j k, k + j = n → Z 4 (isl 0 RB I) [some (.ref 0), some (.int (sm (I.2.1 5) k)), some (.int (nI k))] [] := by
    intro j
    induction j with
    | zero =>
      intro k hk
      obtain rfl : k = n := by omega
      exact o.run 100 [] ⟨fun _ => ⟨⟨_, rfl, rfl⟩, rfl, rfl, rfl⟩, fun h => absurd (by rw [e4]; exact nI_le (Nat.le_refl _) (by omega)) h⟩
    | succ j ih =>
      intro k hk
      refine o.run 100 [4] ⟨fun h => absurd h (by rw [e4]; exact nI_ge (by omega) (by omega)), fun _ => ⟨k, rfl, by omega, ?_⟩⟩
      have := ih (k + 1) (by omega)
      rw [sm, ← nI_1 k] at this
      exact this
  exact o.run 100 [4] (loop n 0 (by omega))
set_option maxRecDepth 10000 in
theorem c_isAlike {n : Nat} (hn : n ≤ 8) (e4 : I.1 4 = nI n) : zFun l D C yX0_isAlike cX0_isAlike 1 (some .boolean) (zR 1) [.ref 0] (isl 0 RB I) (fun w' rv => w' = isl 0 RB I ∧ rv = some (.int (zB (decide (cnt (fun p => decide (I.2.1 2 p = I.2.1 2 0)) n = n))))) := by
  refine zFun_of (by decide) oX0_isAlike tbX0 (Nat.le_of_ble_eq_true rfl) (fun Z o => ?_)
  refine o.run 100 [] ⟨0, rfl, by omega, ?_⟩
  show Z _ _ _ _
  refine o.cV vX0_93 (c_plantersOf (x := I.2.1 2 0) hn e4) (fun w rv _ hpo => ?_)
  obtain ⟨rfl, rfl⟩ := hpo
  have hc := cnt_le (fun p => decide (I.2.1 2 p = I.2.1 2 0)) n
  refine o.run 100 [] ⟨fun h => ⟨zB_rt false, rfl, rfl, ?_⟩, fun h => ⟨zB_rt true, rfl, rfl, ?_⟩⟩
  · rw [e4, nI_eq (by omega) (by omega)] at h
    rw [show decide (cnt (fun p => decide (I.2.1 2 p = I.2.1 2 0)) n = n) = false from decide_eq_false h]; rfl
  · rw [e4, nI_eq (by omega) (by omega)] at h
    rw [show decide (cnt (fun p => decide (I.2.1 2 p = I.2.1 2 0)) n = n) = true from decide_eq_true h]; rfl
end ISM
end
section
/-! how one chooses -/
def sb (x : Int32) (o : Nat) : Bool := decide (¬ (x &&& (nI 1 <<< (nI o &&& 31))) = 0)
def bsn (see : Nat → Bool) (br : Nat → Int32) (p : Nat) : Nat → Nat
  | 0 => p
  | k + 1 => if see k = true ∧ br (bsn see br p k) < br k then k else bsn see br p k
theorem bsn_lt {see : Nat → Bool} {br : Nat → Int32} {p n : Nat} (hp : p < n) : ∀ k, k ≤ n → bsn see br p k < n
  | 0, _ => hp
  | k + 1, h => by unfold bsn; split <;> first | omega | exact bsn_lt hp k (by omega)
def msn (c : Nat → Nat) (s0 : Nat) : Nat → Nat
  | 0 => s0
  | k + 1 => if c (msn c s0 k) < c k then k else msn c s0 k
theorem msn_lt {c : Nat → Nat} {s0 n : Nat} (hp : s0 < n) : ∀ k, k ≤ n → msn c s0 k < n
  | 0, _ => hp
  | k + 1, h => by unfold msn; split <;> first | omega | exact msn_lt hp k (by omega)
def nrl (see : Nat → Bool) (p : Nat) : Nat → Nat
  | 0 => p
  | k + 1 => if see k = true then k else nrl see p k
theorem nrl_lt {see : Nat → Bool} {p n : Nat} (hp : p < n) : ∀ k, k ≤ n → nrl see p k < n
  | 0, _ => hp
  | k + 1, h => by unfold nrl; split <;> first | omega | exact nrl_lt hp k (by omega)
def nrb (see : Nat → Bool) (p : Nat) : Nat → Option Nat
  | 0 => none
  | k + 1 => if see k = true ∧ k < p then some k else nrb see p k
theorem nrb_lt {see : Nat → Bool} {p : Nat} : ∀ k j, nrb see p k = some j → j < p
  | 0, j, h => by simp [nrb] at h
  | k + 1, j, h => by
    unfold nrb at h
    split at h
    · cases h; rename_i h2; exact h2.2
    · exact nrb_lt k j h
def nrI : Option Nat → Int32
  | none => zi (-1)
  | some j => nI j
def cho (n W y : Nat) (v : Nat → Nat) (see : Nat → Bool) (br : Nat → Int32) (p : Nat) (sg : Int32) (K : Nat) : Nat :=
  if sg = nI 98 then v (bsn see br p n)
  else if sg = nI 109 then msn (fun w => cnt (fun o => see o && decide (v o = w)) n) (v p) W
  else if sg = nI 110 then v (match nrb see p n with
    | some j => j
    | none => nrl see p n)
  else if sg = nI 116 then (if 0 < K ∧ y % K = 0 then (if v p + 1 < W then v p + 1 else 0) else v p)
  else v p
theorem cho_lt {n W y : Nat} {v : Nat → Nat} {see : Nat → Bool} {br : Nat → Int32} {p : Nat} {sg : Int32} {K : Nat} (hW : W ≤ 6) (hv : ∀ j, v j < 6) : cho n W y v see br p sg K < 6 := by
  unfold cho
  split
  · exact hv _
  · split
    · exact msn_lt (hv p) W hW
    · split
      · exact hv _
      · split
        · split
          · split <;> omega
          · exact hv _
        · exact hv _
def smp (RL : List zRu) (x : Int32) : Nat → Nat → Nat
  | 0, r => r
  | d + 1, r => match RL[r]? with
    | some (_, k, some a, some b) => smp RL x d (if x < k then a else b)
    | _ => r
/-- the rules' parts are rules -/
def wfR (RL : List zRu) : Prop := ∀ (i : Nat) (u : zRu), RL[i]? = some u → (∀ a, u.2.2.1 = some a → a < RL.length) ∧ (∀ a, u.2.2.2 = some a → a < RL.length)
theorem smp_lt {RL : List zRu} (hR : wfR RL) {x : Int32} : ∀ d r, r < RL.length → smp RL x d r < RL.length
  | 0, r, h => h
  | d + 1, r, h => by
    unfold smp
    split
    · rename_i s k a b hu
      have := hR r _ hu
      split
      · exact smp_lt hR d a (this.1 a rfl)
      · exact smp_lt hR d b (this.2 b rfl)
    · exact h
theorem zpl_same {σ : Nat → Nat} {ws wc : zS} (h : zsb σ ws wc) : zpl σ ws wc.length wc ws := ⟨rfl, h.1, fun _ _ => rfl⟩
theorem pol_shift (RB b : Nat) (RL : List zRu) (k : Nat) (x : zE) (h : (pol b RL)[k]? = some x) : (pol (b + RB) RL)[k]? = some (zr (fun i => i + RB) x) := by
  rw [pol_at] at h ⊢
  obtain ⟨u, hu, rfl⟩ := Option.map_eq_some_iff.mp h
  rw [hu]
  obtain ⟨s, n, o1, o2⟩ := u
  simp only [Option.map_some, zr, List.map_cons, List.map_nil]
  congr 4
  cases o1 <;> cases o2 <;> simp [zv, va_rf, Nat.add_assoc]
theorem zsb_pol {pre : zS} {RB : Nat} (RL : List zRu) (h : pre.length = RB) : zsb (fun i => i + RB) (pre ++ pol RB RL) (pol 0 RL) := ⟨fun k x hx => by
  show (pre ++ pol RB RL)[k + RB]? = _
  rw [List.getElem?_append_right (by omega), h, Nat.add_sub_cancel]
  have := pol_shift RB 0 RL k x hx
  rwa [Nat.zero_add] at this, fun i j _ _ h => by
  have h : i + RB = j + RB := h
  omega⟩
section CHO
variable {l : Launch} {D : va_G} {C : zC} {RB : Nat} {I : zI} {RL : List zRu}
set_option maxRecDepth 10000 in
theorem c_simpleFor (hR : wfR RL) {r : Nat} {x : Int32} (hr : r < RL.length) : zFun l D C yX2_simpleFor cX2_simpleFor 4 (some (.object RX2)) (zR 0) [.ref r, .int x] (pol 0 RL) (fun w' rv => w' = pol 0 RL ∧ rv = some (.ref (smp RL x 4 r))) := by
  refine zFun_of (by decide) oX2_simpleFor tbX2 (Nat.le_of_ble_eq_true rfl) (fun Z o => ?_)
  have loop : ∀ j k a, k + j = 4 → a < RL.length → smp RL x j a = smp RL x 4 r → Z 4 (pol 0 RL) [some (.ref r), some (.int x), some (.ref a), some (.int (nI k))] [] := by
    intro j
    induction j with
    | zero =>
      intro k a hk ha hs
      obtain rfl : k = 4 := by omega
      refine o.run 100 [] ⟨fun _ => ⟨⟨_, rfl⟩, rfl, rfl, ?_⟩, fun h => absurd (by decide) h⟩
      rw [← hs]; rfl
    | succ j ih =>
      intro k a hk ha hs
      have h4 : ¬ nI 4 ≤ nI k := nI_ge (by omega) (by omega)
      refine o.run 100 [10] ⟨fun h => absurd h h4, fun _ => ?_⟩
      show Z _ _ _ _
      obtain ⟨⟨s, kk, o1, o2⟩, hu⟩ : ∃ u, RL[a]? = some u := ⟨_, List.getElem?_eq_getElem ha⟩
      have hc : (pol 0 RL)[a]? = some (.inr (.inr (2, [.int s, .int kk, va_rf (o1.map (fun i => i + 0)), va_rf (o2.map (fun i => i + 0))]))) := by rw [pol_at, hu]; rfl
      have hwf := hR a _ hu
      have fin : (∀ a1 b1, ¬ (o1 = some a1 ∧ o2 = some b1)) → smp RL x 4 r = a := fun hno => by
        rw [← hs, smp, hu]
        cases o1 with
        | none => rfl
        | some a1 => cases o2 with
          | none => rfl
          | some b1 => exact absurd ⟨rfl, rfl⟩ (hno a1 b1)
      refine o.gf (ci := 2) (j := 2) (kd := 2) rfl hc rfl ?_
      cases o1 with
      | none => exact o.run 100 [] ⟨⟨_, rfl⟩, rfl, rfl, by rw [fin (by simp)]⟩
      | some a1 =>
        refine o.run 100 [17] ?_
        show Z _ _ _ _
        refine o.gf (ci := 2) (j := 3) (kd := 2) rfl hc rfl ?_
        cases o2 with
        | none => exact o.run 100 [] ⟨⟨_, rfl⟩, rfl, rfl, by rw [fin (by simp)]⟩
        | some b1 =>
          have hs2 : smp RL x j (if x < kk then a1 else b1) = smp RL x 4 r := by rw [← hs, smp, hu]
          refine o.run 100 [25] ?_
          show Z _ _ _ _
          refine o.gf (ci := 2) (j := 1) (kd := 2) rfl hc rfl ?_
          refine o.run 100 [32, 39] ⟨fun h => ?_, fun h => ?_⟩
          · show Z _ _ _ _
            refine o.gf (ci := 2) (j := 3) (kd := 2) rfl hc rfl ?_
            refine o.run 100 [4] ?_
            rw [if_neg (Int32.not_lt.mpr h)] at hs2
            have := ih (k + 1) b1 (by omega) (hwf.2 b1 rfl) hs2
            rw [← nI_1 k] at this
            exact this
          · show Z _ _ _ _
            refine o.gf (ci := 2) (j := 2) (kd := 2) rfl hc rfl ?_
            refine o.run 100 [4] ?_
            rw [if_pos (Int32.not_le.mp h)] at hs2
            have := ih (k + 1) a1 (by omega) (hwf.1 a1 rfl) hs2
            rw [← nI_1 k] at this
            exact this
  exact o.run 100 [4] (loop 4 0 r rfl hr rfl)
set_option maxRecDepth 10000 in
theorem c_bestSeen {n p : Nat} {v : Nat → Nat} (hn : n ≤ 8) (hp : p < n) (e4 : I.1 4 = nI n) : zFun l D C yX0_bestSeen cX0_bestSeen 4 (some .int) (zR 0) [.ref 0, .int (nI p)] (isl 0 RB I) (fun w' rv => w' = isl 0 RB I ∧ rv = some (.int (I.2.1 2 (bsn (sb (I.2.1 7 p)) (I.2.1 6) p n)))) := by
  refine zFun_of (by decide) oX0_bestSeen tbX0 (Nat.le_of_ble_eq_true rfl) (fun Z o => ?_)
  have loop : ∀ j k, k + j = n → Z 4 (isl 0 RB I) [some (.ref 0), some (.int (nI p)), some (.int (nI (bsn (sb (I.2.1 7 p)) (I.2.1 6) p k))), some (.int (nI k))] [] := by
    intro j
    induction j with
    | zero =>
      intro k hk
      obtain rfl : k = n := by omega
      have hb := bsn_lt (see := sb (I.2.1 7 p)) (br := I.2.1 6) hp k (Nat.le_refl _)
      exact o.run 100 [] ⟨fun _ => ⟨_, rfl, by omega, ⟨_, rfl, rfl⟩, rfl, rfl, rfl⟩, fun h => absurd (by rw [e4]; exact nI_le (Nat.le_refl _) (by omega)) h⟩
    | succ j ih =>
      intro k hk
      have hb := bsn_lt (see := sb (I.2.1 7 p)) (br := I.2.1 6) hp k (by omega)
      refine o.run 100 [4] ⟨fun h => absurd h (by rw [e4]; exact nI_ge (by omega) (by omega)), fun _ => ⟨p, rfl, by omega, fun h1 => ?_, fun h1 => ⟨k, rfl, by omega, _, rfl, by omega, fun h2 => ?_, fun h2 => ?_⟩⟩⟩
      · have := ih (k + 1) (by omega)
        have hs : ¬ (sb (I.2.1 7 p) k = true ∧ I.2.1 6 (bsn (sb (I.2.1 7 p)) (I.2.1 6) p k) < I.2.1 6 k) := fun h2 => (of_decide_eq_true h2.1) h1
        rw [bsn, if_neg hs, ← nI_1 k] at this
        exact this
      · have := ih (k + 1) (by omega)
        have hs : ¬ (sb (I.2.1 7 p) k = true ∧ I.2.1 6 (bsn (sb (I.2.1 7 p)) (I.2.1 6) p k) < I.2.1 6 k) := fun h3 => Int32.not_le.mpr h3.2 h2
        rw [bsn, if_neg hs, ← nI_1 k] at this
        exact this
      · have := ih (k + 1) (by omega)
        have hs : (sb (I.2.1 7 p) k = true ∧ I.2.1 6 (bsn (sb (I.2.1 7 p)) (I.2.1 6) p k) < I.2.1 6 k) := ⟨decide_eq_true h1, Int32.not_le.mp h2⟩
        rw [bsn, if_pos hs, ← nI_1 k] at this
        exact this
  exact o.run 100 [4] (loop n 0 (by omega))
set_option maxRecDepth 10000 in
theorem c_nearSeen {n p : Nat} (hn : n ≤ 8) (hp : p < n) (e4 : I.1 4 = nI n) : zFun l D C yX0_nearSeen cX0_nearSeen 5 (some .int) (zR 0) [.ref 0, .int (nI p)] (isl 0 RB I) (fun w' rv => w' = isl 0 RB I ∧ rv = some (.int (I.2.1 2 (match nrb (sb (I.2.1 7 p)) p n with
    | some j => j
    | none => nrl (sb (I.2.1 7 p)) p n)))) := by
  refine zFun_of (by decide) oX0_nearSeen tbX0 (Nat.le_of_ble_eq_true rfl) (fun Z o => ?_)
  have loop : ∀ j k, k + j = n → Z 7 (isl 0 RB I) [some (.ref 0), some (.int (nI p)), some (.int (nI (nrl (sb (I.2.1 7 p)) p k))), some (.int (nrI (nrb (sb (I.2.1 7 p)) p k))), some (.int (nI k))] [] := by
    intro j
    induction j with
    | zero =>
      intro k hk
      obtain rfl : k = n := by omega
      have hb := nrl_lt (see := sb (I.2.1 7 p)) hp k (Nat.le_refl _)
      refine o.run 100 [] ⟨fun _ => ?_, fun h => absurd (by rw [e4]; exact nI_le (Nat.le_refl _) (by omega)) h⟩
      generalize hq : nrb (sb (I.2.1 7 p)) p k = q
      cases q with
      | none =>
        refine ⟨fun _ => ⟨_, rfl, by omega, ⟨_, rfl, rfl⟩, rfl, rfl, ?_⟩, fun h => absurd (by decide) h⟩
        rfl
      | some i =>
        have hi := nrb_lt k i hq
        refine ⟨fun h => absurd h (nI_pos (by omega)), fun _ => ⟨i, rfl, by omega, ⟨_, rfl, rfl⟩, rfl, rfl, ?_⟩⟩
        rfl
    | succ j ih =>
      intro k hk
      refine o.run 100 [7] ⟨fun h => absurd h (by rw [e4]; exact nI_ge (by omega) (by omega)), fun _ => ⟨p, rfl, by omega, fun h1 => ?_, fun h1 => ⟨fun h2 => ?_, fun h2 => ?_⟩⟩⟩
      · have := ih (k + 1) (by omega)
        have hs : ¬ (sb (I.2.1 7 p) k = true) := fun h2 => (of_decide_eq_true h2) h1
        rw [nrl, if_neg hs, nrb, if_neg (fun h2 => hs h2.1), ← nI_1 k] at this
        exact this
      · have := ih (k + 1) (by omega)
        have hs : sb (I.2.1 7 p) k = true := decide_eq_true h1
        rw [nI_leI (by omega) (by omega)] at h2
        rw [nrl, if_pos hs, nrb, if_neg (fun h3 => by omega), ← nI_1 k] at this
        exact this
      · have := ih (k + 1) (by omega)
        have hs : sb (I.2.1 7 p) k = true := decide_eq_true h1
        rw [nI_leI (by omega) (by omega)] at h2
        rw [nrl, if_pos hs, nrb, if_pos ⟨hs, by omega⟩, ← nI_1 k] at this
        exact this
  exact o.run 100 [7] (loop n 0 (by omega))
end CHO
end
section
/-! what most do, the harvest, the choice, the years -/
section YR
variable {l : Launch} {D : va_G} {C : zC} {RB : Nat} {I : zI} {RL : List zRu}
theorem cnt_upd (f : Nat → Bool) (k : Nat) : cnt f (k + 1) = cnt f k + (if f k then 1 else 0) := rfl
set_option maxRecDepth 10000 in
theorem c_mostSeen {n p W : Nat} {v : Nat → Nat} (hn : n ≤ 8) (hp : p < n) (hW : W ≤ 6) (e4 : I.1 4 = nI n) (e0 : I.1 0 = nI W) (ev : ∀ j, I.2.1 2 j = nI (v j)) (hv : ∀ j, v j < 6) : zFun l D C yX0_mostSeen cX0_mostSeen 4 (some .int) (zR 1) [.ref 0, .int (nI p)] (isl 0 RB I) (fun w' rv => (∃ pl, w' = isl 0 RB (setA I 9 pl)) ∧ rv = some (.int (nI (msn (fun w => cnt (fun o => sb (I.2.1 7 p) o && decide (v o = w)) n) (v p) W)))) := by
  refine zFun_of (by decide) oX0_mostSeen tbX0 (Nat.le_of_ble_eq_true rfl) (fun Z o => ?_)
  let g : Nat → Nat → Int32 := fun k w => nI (cnt (fun o => sb (I.2.1 7 p) o && decide (v o = w)) k)
  have hcn : ∀ k w, cnt (fun o => sb (I.2.1 7 p) o && decide (v o = w)) k ≤ k := fun k w => cnt_le _ k
  have loop2 : ∀ j k, k + j = W → Z 61 (isl 0 RB (setA I 9 (mix 6 (g n) (I.2.1 9)))) [some (.ref 0), some (.int (nI p)), some (.int (nI (msn (fun w => cnt (fun o => sb (I.2.1 7 p) o && decide (v o = w)) n) (v p) k))), some (.int (nI k))] [] := by
    intro j
    induction j with
    | zero =>
      intro k hk
      obtain rfl : k = W := by omega
      exact o.run 100 [] ⟨fun _ => ⟨⟨_, rfl, rfl⟩, rfl, ⟨_, rfl⟩, rfl⟩, fun h => absurd (by show I.1 0 ≤ _; rw [e0]; exact nI_le (Nat.le_refl _) (by omega)) h⟩
    | succ j ih =>
      intro k hk
      have hm := msn_lt (c := fun w => cnt (fun o => sb (I.2.1 7 p) o && decide (v o = w)) n) (hv p) k (by omega)
      have h1 := hcn n k
      have h2 := hcn n (msn (fun w => cnt (fun o => sb (I.2.1 7 p) o && decide (v o = w)) n) (v p) k)
      have e1 : mix 6 (g n) (I.2.1 9) k = g n k := mix_lt (by omega)
      have e2 : mix 6 (g n) (I.2.1 9) (msn (fun w => cnt (fun o => sb (I.2.1 7 p) o && decide (v o = w)) n) (v p) k) = g n (msn (fun w => cnt (fun o => sb (I.2.1 7 p) o && decide (v o = w)) n) (v p) k) := mix_lt hm
      refine o.run 100 [61] ⟨fun h => absurd h (by show ¬ I.1 0 ≤ _; rw [e0]; exact nI_ge (by omega) (by omega)), fun _ => ⟨k, rfl, by omega, _, rfl, hm, fun h => ?_, fun h => ?_⟩⟩
      · have h : mix 6 (g n) (I.2.1 9) k ≤ mix 6 (g n) (I.2.1 9) (msn (fun w => cnt (fun o => sb (I.2.1 7 p) o && decide (v o = w)) n) (v p) k) := h
        rw [e1, e2, nI_leI (by omega) (by omega)] at h
        have := ih (k + 1) (by omega)
        rw [msn, if_neg (by omega), ← nI_1 k] at this
        exact this
      · have h : ¬ mix 6 (g n) (I.2.1 9) k ≤ mix 6 (g n) (I.2.1 9) (msn (fun w => cnt (fun o => sb (I.2.1 7 p) o && decide (v o = w)) n) (v p) k) := h
        rw [e1, e2, nI_leI (by omega) (by omega)] at h
        have := ih (k + 1) (by omega)
        rw [msn, if_pos (by omega), ← nI_1 k] at this
        exact this
  have loop1 : ∀ j k, k + j = n → Z 10 (isl 0 RB (setA I 9 (mix 6 (g k) (I.2.1 9)))) [some (.ref 0), some (.int (nI p)), some (.int (nI k)), none] [] := by
    intro j
    induction j with
    | zero =>
      intro k hk
      obtain rfl : k = n := by omega
      refine o.run 100 [61] ⟨fun _ => ⟨p, rfl, by omega, ?_⟩, fun h => absurd (by show I.1 4 ≤ _; rw [e4]; exact nI_le (Nat.le_refl _) (by omega)) h⟩
      have := loop2 W 0 (by omega)
      rw [msn, ← ev p] at this
      exact this
    | succ j ih =>
      intro k hk
      refine o.run 100 [10] ⟨fun h => absurd h (by show ¬ I.1 4 ≤ _; rw [e4]; exact nI_ge (by omega) (by omega)), fun _ => ⟨p, rfl, by omega, fun h1 => ?_, fun h1 => ⟨k, rfl, by omega, v k, ev k, hv k, v k, ev k, hv k, ?_⟩⟩⟩
      · have := ih (k + 1) (by omega)
        have hs : sb (I.2.1 7 p) k = false := decide_eq_false (fun h2 => h2 h1)
        have e : g (k + 1) = g k := by
          funext w
          show nI (cnt _ (k + 1)) = nI (cnt _ k)
          rw [cnt_upd, hs]; rfl
        rw [e, ← nI_1 k] at this
        exact this
      · have := ih (k + 1) (by omega)
        have hs : sb (I.2.1 7 p) k = true := decide_eq_true h1
        have e : mix 6 (g (k + 1)) (I.2.1 9) = upd (mix 6 (g k) (I.2.1 9)) (v k) (mix 6 (g k) (I.2.1 9) (v k) + nI 1) := by
          funext w
          unfold upd
          by_cases hw : w = v k
          · subst hw
            rw [if_pos rfl, mix_lt (hv k), mix_lt (hv k)]
            show nI (cnt _ (k + 1)) = nI (cnt _ k) + nI 1
            rw [cnt_upd, hs, nI_add]; simp
          · rw [if_neg hw]
            by_cases h6 : w < 6
            · rw [mix_lt h6, mix_lt h6]
              show nI (cnt _ (k + 1)) = nI (cnt _ k)
              rw [cnt_upd, hs]
              have : ¬ v k = w := fun h => hw h.symm
              simp [this]
            · rw [mix_ge (by omega), mix_ge (by omega)]
        rw [e, ← nI_1 k] at this
        exact this
  refine o.run 100 [] ?_
  show Z _ _ _ _
  refine o.cS1 (a := 11) (Bs := [.int (nI 0)]) vX0_83 (c_fill (n := 6) (f := I.2.1 9) (x := nI 0) (by omega)) rfl (fun rv hrv => ?_)
  subst hrv
  have e : mix 6 (fun _ => nI 0) (I.2.1 9) = mix 6 (g 0) (I.2.1 9) := rfl
  have := loop1 n 0 (by omega)
  rw [← e] at this
  exact o.run 100 [10] this
/-- who is seen: bits by which one sees in a year -/
def seB (sh y : Nat) (se hi : Int32) (p : Nat) : Int32 := ((if 0 < sh ∧ y % sh = 0 then nI 255 else se) &&& (hi ^^^ zi (-1))) ||| (nI 1 <<< (nI p &&& 31))
set_option maxRecDepth 10000 in
theorem c_harvest {n y s0 L sh : Nat} {v sk : Nat → Nat} (hn : n ≤ 8) (hy : y < 2 ^ 30) (h0 : s0 ≤ y) (hL : 0 < L) (hL2 : L ≤ 24) (hsh : sh ≤ 24) (e1 : I.1 1 = nI L) (e2 : I.1 2 = nI s0) (e4 : I.1 4 = nI n) (e5 : I.1 5 = nI y) (e6 : I.1 6 = nI sh) (ek : ∀ j, I.2.1 1 j = nI (sk j)) (hk : ∀ j, sk j < 4) (ev : ∀ j, I.2.1 2 j = nI (v j)) (hv : ∀ j, v j < 6) :
    zFun l D C yX0_harvest cX0_harvest 5 none (zR 1) [.ref 0] (isl 0 RB I) (fun w' rv => w' = isl 0 RB (setA (setA I 7 (mix n (fun p => seB sh y (I.2.1 4 p) (I.1 7) p) (I.2.1 7))) 6 (mix n (fun p => I.2.1 0 (v p * 4 + sk ((y - s0) % L))) (I.2.1 6))) ∧ rv = none) := by
  refine zFun_of (by decide) oX0_harvest tbX0 (Nat.le_of_ble_eq_true rfl) (fun Z o => ?_)
  let t := sk ((y - s0) % L)
  let bb : Bool := decide (0 < sh ∧ y % sh = 0)
  let sn : Nat → Int32 := fun p => seB sh y (I.2.1 4 p) (I.1 7) p
  let br : Nat → Int32 := fun p => I.2.1 0 (v p * 4 + t)
  let J : Nat → zI := fun k => setA (setA I 7 (mix k sn (I.2.1 7))) 6 (mix k br (I.2.1 6))
  have loop : ∀ j k, k + j = n → ∀ x4, Z 23 (isl 0 RB (J k)) [some (.ref 0), some (.int (nI t)), some (.int (zB bb)), some (.int (nI k)), x4] [] := by
    intro j
    induction j with
    | zero =>
      intro k hk x4
      obtain rfl : k = n := by omega
      exact o.run 100 [] ⟨fun _ => ⟨rfl, rfl, rfl, rfl⟩, fun h => absurd (by show I.1 4 ≤ _; rw [e4]; exact nI_le (Nat.le_refl _) (by omega)) h⟩
    | succ j ih =>
      intro k hkj x4
      have go : ∀ oth : Int32, ((if 0 < sh ∧ y % sh = 0 then nI 255 else I.2.1 4 k) &&& (I.1 7 ^^^ zi (-1))) = oth → Z 56 (isl 0 RB (J k)) [some (.ref 0), some (.int (nI t)), some (.int (zB bb)), some (.int (nI k)), some (.int oth)] [] := by
        intro oth hoth
        refine o.run 100 [] ⟨k, rfl, by omega, k, rfl, by omega, ?_⟩
        show Z _ _ _ _
        have hlen : ∀ (A B : zS), A = B → Z (56 + 1 + 3 + 1 + 2 + 1 + 1 + 1 + 1 + 1 + 1 + 3 + 1 + 1 + 1 + 3 + 1 + 1 + 1) B [some (.ref 0), some (.int (nI t)), some (.int (zB bb)), some (.int (nI k)), some (.int oth)] [.int (nI t), .int (I.2.1 2 k), .ref 0, .int (nI k), .ref 8] → Z (56 + 1 + 3 + 1 + 2 + 1 + 1 + 1 + 1 + 1 + 1 + 3 + 1 + 1 + 1 + 3 + 1 + 1 + 1) A [some (.ref 0), some (.int (nI t)), some (.int (zB bb)), some (.int (nI k)), some (.int oth)] [.int (nI t), .int (I.2.1 2 k), .ref 0, .int (nI k), .ref 8] := fun A B e h => e ▸ h
        have es : oth ||| (nI 1 <<< (nI k &&& 31)) = sn k := by rw [← hoth]; rfl
        refine hlen _ (isl 0 RB (setA (setA I 7 (upd (mix k sn (I.2.1 7)) k (oth ||| (nI 1 <<< (nI k &&& 31))))) 6 (mix k br (I.2.1 6)))) rfl ?_
        rw [es, mix_upd, ev k]
        refine o.cV (rest := [.int (nI k), .ref 8]) vX0_89 (c_bringsOf (w := v k) (t := t) (hv k) (hk _)) (fun w rv _ hpo => ?_)
        obtain ⟨rfl, rfl⟩ := hpo
        refine o.run 100 [23] ⟨k, rfl, by omega, ?_⟩
        have := ih (k + 1) (by omega) (some (.int oth))
        have eb : mix (k + 1) br (I.2.1 6) = upd (mix k br (I.2.1 6)) k (I.2.1 0 (v k * 4 + t)) := (mix_upd k br (I.2.1 6)).symm
        have eJ : J (k + 1) = setA (setA I 7 (mix (k + 1) sn (I.2.1 7))) 6 (upd (mix k br (I.2.1 6)) k (I.2.1 0 (v k * 4 + t))) := by rw [← eb]
        rw [eJ, ← nI_1 k] at this
        exact this
      refine o.run 100 [56] ⟨fun h => absurd h (by show ¬ I.1 4 ≤ _; rw [e4]; exact nI_ge (by omega) (by omega)), fun _ => ⟨fun h => ⟨k, rfl, by omega, ?_⟩, fun h => ?_⟩⟩
      · have hbf : bb = false := (zB_0 bb).mp h
        refine go _ ?_
        rw [if_neg (of_decide_eq_false hbf)]; rfl
      · have hbt : bb = true := by
          cases hq : bb with
          | true => rfl
          | false => exact absurd ((zB_0 bb).mpr hq) h
        refine go _ ?_
        rw [if_pos (of_decide_eq_true hbt)]; rfl
  refine o.run 100 [] ?_
  show Z _ _ _ _
  rw [e5]
  refine o.cV vX0_97 (c_weatherOf (y := y) (s0 := s0) (L := L) hy h0 hL hL2 e1 e2) (fun w rv _ hpo => ?_)
  obtain ⟨rfl, rfl⟩ := hpo
  rw [ek]
  refine o.run 100 [] ?_
  show Z _ _ _ _
  rw [e5, e6]
  refine o.cS vX0_113 (c_isDivisor (k := sh) (y := y) (by omega) hy) (fun rv hpo => ?_)
  subst hpo
  have h1 := loop n 0 (by omega) none
  have e0 : J 0 = setA (setA I 7 (I.2.1 7)) 6 (I.2.1 6) := by show setA (setA I 7 (mix 0 sn (I.2.1 7))) 6 (mix 0 br (I.2.1 6)) = _; rw [mix_0, mix_0]
  rw [e0] at h1
  exact o.run 100 [23] h1
end YR
end
section
/-! the choice of one, years gone by -/
section ZOQ3
variable {l : Launch} {D : va_G} {C : zC} {d : Nat} {tab : List (Nat × Instr)} {fl : Nat → Option (Nat × Nat × Nat)} {ki : Nat → Option Int32} {kj : Nat → Option Int64} {Kr : zS → Option Value → Prop} {Z : zP} {own : String} {idx pc : Nat} {ws : zS} {lv : zL}
theorem zOps.aal (o : zOps l D C own tab fl ki kj d Kr Z) {a n j : Nat} {f : Nat → Option Nat} {r : List Value} (ha : ws[a]? = some (.inr (.inl (n, f)))) (hj : j < n) (hn : n < 2 ^ 31) (kk : Z (pc + 1) ws lv (va_rf (f j) :: r)) (hd : zfd tab pc = some .aaload := by rfl) : Z pc ws lv (.int (nI j) :: .ref a :: r) := o.2.2.2.2.1 pc ws lv a n j f r hd ha hj hn kk
theorem zOps.aas (o : zOps l D C own tab fl ki kj d Kr Z) {a n j : Nat} {f : Nat → Option Nat} {ov : Option Nat} {r : List Value} (ha : ws[a]? = some (.inr (.inl (n, f)))) (hj : j < n) (hn : n < 2 ^ 31) (hv : ∀ v, ov = some v → ∃ fs, ws[v]? = some (.inr (.inr (2, fs)))) (kk : Z (pc + 1) (ws.set a (.inr (.inl (n, va_up f j ov)))) lv r) (hd : zfd tab pc = some .aastore := by rfl) : Z pc ws lv (va_rf ov :: .int (nI j) :: .ref a :: r) := o.2.2.2.2.2.1 pc ws lv a n j f ov r hd ha hj hn hv kk
theorem zOps.cp (o : zOps l D C own tab fl ki kj d Kr Z) {a0 a1 n0 n1 : Nat} (sp dp n : Nat) {f g : Nat → Int32} (hl : Jvm.Cond.methodLink own idx arraycopyName ∈ zG) (h0 : ws[a0]? = some (.inl (0, n0, f))) (h1 : ws[a1]? = some (.inl (0, n1, g))) (h2 : sp + n ≤ n0) (h3 : dp + n ≤ n1) (h4 : n0 < 2 ^ 31) (h5 : n1 < 2 ^ 31) (kk : Z (pc + 3) (ws.set a1 (.inl (0, n1, va_cpy f g sp dp n))) lv []) (hd : zfd tab pc = some (.invokestatic idx) := by rfl) (hd0 : 0 < d := by exact Nat.le_of_ble_eq_true rfl) : Z pc ws lv [.int (nI n), .int (nI dp), .ref a1, .int (nI sp), .ref a0] := o.2.2.2.1 pc idx ws lv a0 a1 n0 n1 sp dp n f g hd hl h0 h1 h2 h3 h4 h5 hd0 kk
theorem zOps.xi (o : zOps l D C own tab fl ki kj d Kr Z) {st : List Value} {k n : Nat} {f : Nat → Int32} (a : Nat) (g : Nat → Int32) (ha : ws[a]? = some (.inl (k, n, f))) (hx : ∀ j, j < n → f j = g j) (kk : Z pc (ws.set a (.inl (k, n, g))) lv st) : Z pc ws lv st := o.2.2.2.2.2.2.1 pc ws lv st a k n f g ha hx kk
theorem zOps.xr (o : zOps l D C own tab fl ki kj d Kr Z) {st : List Value} {n : Nat} {f : Nat → Option Nat} (a : Nat) (g : Nat → Option Nat) (ha : ws[a]? = some (.inr (.inl (n, f)))) (hx : ∀ j, j < n → f j = g j) (kk : Z pc (ws.set a (.inr (.inl (n, g)))) lv st) : Z pc ws lv st := o.2.2.2.2.2.2.2 pc ws lv st a n f g ha hx kk
end ZOQ3
theorem cpy_mix (f g : Nat → Int32) (n : Nat) : va_cpy f g 0 0 n = mix n f g := by
  funext k
  unfold va_cpy mix
  by_cases h : k < n
  · rw [if_pos ⟨Nat.zero_le _, by omega⟩, if_pos h]; congr 1; omega
  · rw [if_neg (by omega), if_neg h]
theorem cpX0 : Jvm.Cond.methodLink RX0 55 arraycopyName ∈ zG := zin_mem (h := 407) (by decide +kernel)
theorem cpX3 : Jvm.Cond.methodLink RX3 233 arraycopyName ∈ zG := zin_mem (h := 482) (by decide +kernel)
/-- the rules as they stand: numbers 0 .. -/
def okR (RL : List zRu) : Prop := wfR RL ∧ ∀ (i : Nat) (u : zRu), RL[i]? = some u → ∃ K, K < 100 ∧ u.2.1 = nI K
def dnI (RL : List zRu) (rl : Nat → Option Nat) (r : Nat) (x : Int32) : Int32 × Nat := match rl r with
  | some i => (match RL[smp RL x 4 i]? with
    | some u => (u.1, u.2.1.toNatClampNeg)
    | none => (0, 0))
  | none => (0, 0)
def yst (n W : Nat) (b : Nat → Int32) (see : Nat → Nat → Bool) (dn : Nat → Int32 → Int32 × Nat) (t y : Nat) (v : Nat → Nat) : Nat → Nat := fun p =>
  if p < n then cho n W y v (see p) (fun o => b (v o * 4 + t)) p (dn p (b (v p * 4 + t))).1 (dn p (b (v p * 4 + t))).2 else v p
def vat (n W : Nat) (b : Nat → Int32) (see : Nat → Nat → Nat → Bool) (dn : Nat → Int32 → Int32 × Nat) (tw : Nat → Nat) (y0 : Nat) (v : Nat → Nat) : Nat → Nat → Nat
  | 0 => v
  | i + 1 => yst n W b (see (y0 + i)) dn (tw i) (y0 + i) (vat n W b see dn tw y0 v i)
def tot (n : Nat) (b : Nat → Int32) (vv : Nat → Nat → Nat) (tw : Nat → Nat) (t0 : Nat → Int32) : Nat → Nat → Int32
  | 0 => t0
  | i + 1 => mix n (fun p => tot n b vv tw t0 i p + b (vv i p * 4 + tw i)) (tot n b vv tw t0 i)
theorem yst_lt {n W : Nat} {b : Nat → Int32} {see : Nat → Nat → Bool} {dn : Nat → Int32 → Int32 × Nat} {t y : Nat} {v : Nat → Nat} (hW : W ≤ 6) (hv : ∀ j, v j < 6) : ∀ j, yst n W b see dn t y v j < 6 := fun j => by
  unfold yst
  split
  · exact cho_lt hW hv
  · exact hv j
theorem vat_lt {n W : Nat} {b : Nat → Int32} {see : Nat → Nat → Nat → Bool} {dn : Nat → Int32 → Int32 × Nat} {tw : Nat → Nat} {y0 : Nat} {v : Nat → Nat} (hW : W ≤ 6) (hv : ∀ j, v j < 6) : ∀ i j, vat n W b see dn tw y0 v i j < 6
  | 0 => hv
  | i + 1 => yst_lt hW (vat_lt hW hv i)
theorem bsn_congr {see : Nat → Bool} {b1 b2 : Nat → Int32} {p n : Nat} (hp : p < n) (h : ∀ q, q < n → b1 q = b2 q) : ∀ k, k ≤ n → bsn see b1 p k = bsn see b2 p k
  | 0, _ => rfl
  | k + 1, hk => by
    have h1 := bsn_congr hp h k (by omega) (see := see)
    have h2 := bsn_lt (see := see) (br := b2) hp k (by omega)
    unfold bsn
    rw [h1, h _ h2, h k (by omega)]
theorem cho_congr {n W y : Nat} {v : Nat → Nat} {see : Nat → Bool} {b1 b2 : Nat → Int32} {p : Nat} {sg : Int32} {K : Nat} (hp : p < n) (h : ∀ q, q < n → b1 q = b2 q) : cho n W y v see b1 p sg K = cho n W y v see b2 p sg K := by
  unfold cho
  rw [bsn_congr hp h n (Nat.le_refl n)]
section PY
variable {l : Launch} {D : va_G} {C : zC} {RB : Nat} {I : zI} {RL : List zRu}
set_option maxRecDepth 10000 in
theorem c_choiceOf {n p W y r : Nat} {v ru : Nat → Nat} (hR : okR RL) (hn : n ≤ 8) (hp : p < n) (hW : W ≤ 6) (hy : y < 2 ^ 30) (e4 : I.1 4 = nI n) (e0 : I.1 0 = nI W) (e5 : I.1 5 = nI y) (ev : ∀ j, I.2.1 2 j = nI (v j)) (hv : ∀ j, v j < 6) (er : I.2.1 3 p = nI (ru p)) (hru : ru p < 10) (erl : I.2.2 (ru p) = some r) (hr : r < RL.length) :
    zFun l D C yX0_choiceOf cX0_choiceOf 5 (some .int) (zR 2) [.ref 0, .int (nI p)] (isl 0 12 I ++ pol 12 RL) (fun w' rv => (∃ pl, w' = isl 0 12 (setA I 9 pl) ++ pol 12 RL) ∧ rv = some (.int (nI (cho n W y v (sb (I.2.1 7 p)) (I.2.1 6) p (dnI RL I.2.2 (ru p) (I.2.1 6 p)).1 (dnI RL I.2.2 (ru p) (I.2.1 6 p)).2)))) := by
  refine zFun_of (by decide) oX0_choiceOf tbX0 (Nat.le_of_ble_eq_true rfl) (fun Z o => ?_)
  have hs := smp_lt hR.1 (x := I.2.1 6 p) 4 r hr
  obtain ⟨⟨sg, num, o1, o2⟩, hu⟩ : ∃ u, RL[smp RL (I.2.1 6 p) 4 r]? = some u := ⟨_, List.getElem?_eq_getElem hs⟩
  obtain ⟨K, hK, eK⟩ := hR.2 _ _ hu
  have eK : num = nI K := eK
  have ed : dnI RL I.2.2 (ru p) (I.2.1 6 p) = (sg, K) := by
    unfold dnI
    rw [erl]
    show (match RL[smp RL (I.2.1 6 p) 4 r]? with
      | some u => (u.1, u.2.1.toNatClampNeg)
      | none => (0, 0)) = _
    rw [hu]
    show (sg, num.toNatClampNeg) = _
    rw [eK, nI_clamp (by omega)]
  have fin : ∀ x, cho n W y v (sb (I.2.1 7 p)) (I.2.1 6) p sg K = x → some (Value.int (nI x)) = some (Value.int (nI (cho n W y v (sb (I.2.1 7 p)) (I.2.1 6) p (dnI RL I.2.2 (ru p) (I.2.1 6 p)).1 (dnI RL I.2.2 (ru p) (I.2.1 6 p)).2))) := fun x h => by rw [ed, h]
  have hc : (isl 0 12 I ++ pol 12 RL)[smp RL (I.2.1 6 p) 4 r + 12]? = some (.inr (.inr (2, [.int sg, .int num, va_rf (o1.map (fun i => i + 12)), va_rf (o2.map (fun i => i + 12))]))) := by
    rw [List.getElem?_append_right (by rw [isl_len]; omega), isl_len, Nat.add_sub_cancel, pol_at, hu]; rfl
  obtain ⟨ur, hur⟩ : ∃ u, RL[r]? = some u := ⟨_, List.getElem?_eq_getElem hr⟩
  refine o.run 100 [] ⟨p, rfl, by omega, p, rfl, by omega, ?_⟩
  show Z _ _ _ _
  rw [er, ev p]
  refine o.aal (a := 3) rfl hru (by omega) ?_
  rw [erl]
  refine o.run 100 [] ⟨p, rfl, by omega, ?_⟩
  show Z _ _ _ _
  have hsb := zsb_pol (pre := isl 0 12 I) (RB := 12) RL rfl
  refine o.cVs (fun i => i + 12) (As := [.int (I.2.1 6 p)]) (b0 := r) (rest := []) vX0_117 (c_simpleFor hR.1 (x := I.2.1 6 p) hr) hsb (fun w rv _ hpo => ?_) ⟨2, _, _, by rw [pol_at, hur]; rfl, rfl, rfl⟩
  obtain ⟨rfl, rfl⟩ := hpo
  refine ⟨_, zpl_same hsb, ?_⟩
  refine o.run 100 [39] ?_
  show Z _ _ _ _
  refine o.gf (ci := 2) (j := 0) (kd := 2) rfl hc rfl ?_
  have hself : isl 0 12 I = isl 0 12 (setA I 9 (I.2.1 9)) := rfl
  refine o.run 100 [104] ⟨⟨fun h => ?_, fun h => ?_, fun h => ?_, fun h => ?_, trivial⟩, fun h => ?_⟩
  · have h : sg = nI 98 := h
    show Z _ _ _ _
    refine o.cVp (wc := isl 0 12 I) (tl := pol 12 RL) vX0_125 (c_bestSeen (v := v) hn hp e4) (fun w rv _ hpo => ?_)
    obtain ⟨rfl, rfl⟩ := hpo
    refine o.run 100 [] ⟨⟨_, rfl, rfl⟩, rfl, ⟨_, by rw [← hself]⟩, ?_⟩
    rw [ev]
    exact fin _ (by rw [cho, if_pos h])
  · have h : sg = nI 109 := h
    show Z _ _ _ _
    refine o.cVp (wc := isl 0 12 I) (tl := pol 12 RL) vX0_128 (c_mostSeen (v := v) hn hp hW e4 e0 ev hv) (fun w rv _ hpo => ?_)
    obtain ⟨⟨pl, rfl⟩, rfl⟩ := hpo
    refine o.run 100 [] ⟨⟨_, rfl, rfl⟩, rfl, ⟨pl, rfl⟩, ?_⟩
    exact fin _ (by rw [cho, if_neg (by rw [h]; decide), if_pos h])
  · have h : sg = nI 110 := h
    show Z _ _ _ _
    refine o.cVp (wc := isl 0 12 I) (tl := pol 12 RL) vX0_131 (c_nearSeen hn hp e4) (fun w rv _ hpo => ?_)
    obtain ⟨rfl, rfl⟩ := hpo
    refine o.run 100 [] ⟨⟨_, rfl, rfl⟩, rfl, ⟨_, by rw [← hself]⟩, ?_⟩
    rw [ev]
    exact fin _ (by rw [cho, if_neg (by rw [h]; decide), if_neg (by rw [h]; decide), if_pos h])
  · have h : sg = nI 116 := h
    show Z _ _ _ _
    refine o.gf (ci := 2) (j := 1) (kd := 2) rfl hc rfl ?_
    refine o.run 100 [] ?_
    show Z _ _ _ _
    rw [eK, e5]
    refine o.cS vX0_113 (c_isDivisor (k := K) (y := y) (by omega) hy) (fun rv hpo => ?_)
    subst hpo
    have ec : cho n W y v (sb (I.2.1 7 p)) (I.2.1 6) p sg K = (if 0 < K ∧ y % K = 0 then (if v p + 1 < W then v p + 1 else 0) else v p) := by
      rw [cho, if_neg (by rw [h]; decide), if_neg (by rw [h]; decide), if_neg (by rw [h]; decide), if_pos h]
    refine o.run 100 [] ⟨fun h1 => ?_, fun h1 => ?_⟩
    · have h1 := of_decide_eq_false ((zB_0 _).mp h1)
      refine ⟨⟨_, rfl, rfl⟩, rfl, ⟨_, by rw [← hself]⟩, ?_⟩
      exact fin _ (by rw [ec, if_neg h1])
    · have h1 : 0 < K ∧ y % K = 0 := by
        by_cases hq : 0 < K ∧ y % K = 0
        · exact hq
        · exact absurd ((zB_0 _).mpr (decide_eq_false hq)) h1
      show Z _ _ _ _
      refine o.cVp (wc := isl 0 12 I) (tl := pol 12 RL) vX0_137 (c_wayBehind (w := v p) (hv p) hW e0) (fun w rv _ hpo => ?_)
      obtain ⟨rfl, rfl⟩ := hpo
      refine o.run 100 [] ⟨⟨_, rfl, rfl⟩, rfl, ⟨_, by rw [← hself]⟩, ?_⟩
      exact fin _ (by rw [ec, if_pos h1])
  · obtain ⟨h1, h2, h3, h4, -⟩ := h
    have h1 : ¬ sg = nI 98 := h1
    have h2 : ¬ sg = nI 109 := h2
    have h3 : ¬ sg = nI 110 := h3
    have h4 : ¬ sg = nI 116 := h4
    refine ⟨⟨_, rfl, rfl⟩, rfl, ⟨_, by rw [← hself]⟩, ?_⟩
    exact fin _ (by rw [cho, if_neg h1, if_neg h2, if_neg h3, if_neg h4])
/-- an island behind some years: the year, the ways, what was brought have changed, and the rows for reckoning -/
def aft (I I' : zI) (y : Nat) (v : Nat → Nat) (tt : Nat → Int32) : Prop := I'.1 = upd I.1 5 (nI y) ∧ I'.2.2 = I.2.2 ∧ (I'.2.1 0 = I.2.1 0 ∧ I'.2.1 1 = I.2.1 1 ∧ I'.2.1 3 = I.2.1 3 ∧ I'.2.1 4 = I.2.1 4) ∧ I'.2.1 2 = (fun j => nI (v j)) ∧ I'.2.1 5 = tt
/-- the island can be lived on: W ways, n people, the year y, a sky of L weathers that began in year s0, shows -/
def okI (I : zI) (W n y s0 L sh : Nat) (sk v ru : Nat → Nat) : Prop :=
  (I.1 0 = nI W ∧ W ≤ 6) ∧ (I.1 4 = nI n ∧ n ≤ 8) ∧ (I.1 5 = nI y ∧ I.1 2 = nI s0 ∧ s0 ≤ y) ∧ (I.1 1 = nI L ∧ 0 < L ∧ L ≤ 24) ∧ (I.1 6 = nI sh ∧ sh ≤ 24) ∧ (∀ j, I.2.1 1 j = nI (sk j) ∧ sk j < 4) ∧ (∀ j, I.2.1 2 j = nI (v j) ∧ v j < 6) ∧ (∀ j, I.2.1 3 j = nI (ru j) ∧ ru j < 10)
/-- every one lives by a rule that is there -/
def okL (RL : List zRu) (rl : Nat → Option Nat) (n : Nat) (ru : Nat → Nat) : Prop := ∀ p, p < n → ∃ r, rl (ru p) = some r ∧ r < RL.length
/-- the ways after i years -/
abbrev vI (RL : List zRu) (I : zI) (W n y s0 L sh : Nat) (sk v ru : Nat → Nat) (i : Nat) : Nat → Nat :=
  vat n W (I.2.1 0) (fun y p o => sb (seB sh y (I.2.1 4 p) (I.1 7) p) o) (fun p x => dnI RL I.2.2 (ru p) x) (fun i => sk ((y + i - s0) % L)) y v i
abbrev tI (RL : List zRu) (I : zI) (W n y s0 L sh : Nat) (sk v ru : Nat → Nat) (i : Nat) : Nat → Int32 :=
  tot n (I.2.1 0) (vI RL I W n y s0 L sh sk v ru) (fun i => sk ((y + i - s0) % L)) (I.2.1 5) i
set_option maxRecDepth 10000 in
theorem c_passYears {W n y s0 L sh m : Nat} {sk v ru : Nat → Nat} (hR : okR RL) (hI : okI I W n y s0 L sh sk v ru) (hl : okL RL I.2.2 n ru) (hy : y + m < 2 ^ 30) :
    zFun l D C yX0_passYears cX0_passYears 4 none (zR 3) [.ref 0, .int (nI m)] (isl 0 12 I ++ pol 12 RL) (fun w' rv => (∃ I', w' = isl 0 12 I' ++ pol 12 RL ∧ aft I I' (y + m) (vI RL I W n y s0 L sh sk v ru m) (tI RL I W n y s0 L sh sk v ru m)) ∧ rv = none) := by
  obtain ⟨⟨e0, hW⟩, ⟨e4, hn⟩, ⟨e5, e2, h0⟩, ⟨e1, hL, hL2⟩, ⟨e6, hsh⟩, hsk, hv, hru⟩ := hI
  refine zFun_of (by decide) oX0_passYears tbX0 (Nat.le_of_ble_eq_true rfl) (fun Z o => ?_)
  have hvl : ∀ i j, vI RL I W n y s0 L sh sk v ru i j < 6 := fun i => vat_lt hW (fun j => (hv j).2) i
  have outer : ∀ j i, i + j = m → ∀ I', aft I I' (y + i) (vI RL I W n y s0 L sh sk v ru i) (tI RL I W n y s0 L sh sk v ru i) → ∀ x3, Z 2 (isl 0 12 I' ++ pol 12 RL) [some (.ref 0), some (.int (nI m)), some (.int (nI i)), x3] [] := by
    intro j
    induction j with
    | zero =>
      intro i hi I' hI' x3
      obtain rfl : i = m := by omega
      exact o.run 100 [] ⟨fun _ => ⟨rfl, rfl, ⟨I', rfl, hI'⟩, rfl⟩, fun h => absurd (nI_le (Nat.le_refl _) (by omega)) h⟩
    | succ j ih =>
      intro i hi I' hI' x3
      obtain ⟨a1, a2, ⟨a30, a31, a33, a34⟩, a4, a5⟩ := hI'
      -- the numbers of I'
      have f0 : I'.1 0 = nI W := by rw [a1, ← e0]; rfl
      have f1 : I'.1 1 = nI L := by rw [a1, ← e1]; rfl
      have f2 : I'.1 2 = nI s0 := by rw [a1, ← e2]; rfl
      have f4 : I'.1 4 = nI n := by rw [a1, ← e4]; rfl
      have f5 : I'.1 5 = nI (y + i) := by rw [a1]; rfl
      have f6 : I'.1 6 = nI sh := by rw [a1, ← e6]; rfl
      have f7 : I'.1 7 = I.1 7 := by rw [a1]; rfl
      have fv : ∀ j, I'.2.1 2 j = nI (vI RL I W n y s0 L sh sk v ru i j) := fun j => by rw [a4]
      have hvi := hvl i
      let t := sk ((y + i - s0) % L)
      let br : Nat → Int32 := fun p => I.2.1 0 (vI RL I W n y s0 L sh sk v ru i p * 4 + t)
      let nw : Nat → Nat := vI RL I W n y s0 L sh sk v ru (i + 1)
      let H : zI := setA (setA I' 7 (mix n (fun p => seB sh (y + i) (I'.2.1 4 p) (I'.1 7) p) (I'.2.1 7))) 6 (mix n (fun p => I'.2.1 0 (vI RL I W n y s0 L sh sk v ru i p * 4 + sk ((y + i - s0) % L))) (I'.2.1 6))
      have hbr : ∀ p, p < n → H.2.1 6 p = br p := fun p hp => by
        have hH6 : H.2.1 6 = mix n (fun p => I'.2.1 0 (vI RL I W n y s0 L sh sk v ru i p * 4 + sk ((y + i - s0) % L))) (I'.2.1 6) := rfl
        rw [hH6, mix_lt hp, a30]
      -- the people, one by one
      let G : Nat → (Nat → Int32) → zI := fun k pl => setA (setA (setA H 5 (mix k (fun p => I'.2.1 5 p + br p) (I'.2.1 5))) 8 (mix k (fun p => nI (nw p)) (I'.2.1 8))) 9 pl
      have inner : ∀ j k, k + j = n → ∀ pl, Z 13 (isl 0 12 (G k pl) ++ pol 12 RL) [some (.ref 0), some (.int (nI m)), some (.int (nI i)), some (.int (nI k))] [] := by
        intro j
        induction j with
        | zero =>
          intro k hk pl
          obtain rfl : k = n := by omega
          refine o.run 100 [] ⟨fun _ => ?_, fun h => absurd (by show I'.1 4 ≤ _; rw [f4]; exact nI_le (Nat.le_refl _) (by omega)) h⟩
          show Z 67 _ _ [.int (I'.1 4), .int (nI 0), .ref 4, .int (nI 0), .ref 10]
          rw [f4]
          refine o.cp (a0 := 10) (a1 := 4) 0 0 k cpX0 rfl rfl (by omega) (by omega) (by omega) (by omega) ?_
          rw [cpy_mix]
          refine o.run 100 [2] ?_
          have hI2 : aft I (setS (setA (G k pl) 2 (mix k (mix k (fun p => nI (nw p)) (I'.2.1 8)) (I'.2.1 2))) 5 (I'.1 5 + nI 1)) (y + (i + 1)) (vI RL I W k y s0 L sh sk v ru (i + 1)) (tI RL I W k y s0 L sh sk v ru (i + 1)) := by
            refine ⟨?_, a2, ⟨a30, a31, a33, a34⟩, ?_, ?_⟩
            · show upd I'.1 5 (I'.1 5 + nI 1) = _
              rw [f5, nI_add, a1]
              funext q
              unfold upd
              by_cases hq : q = 5
              · simp [hq, Nat.add_assoc]
              · simp [hq]
            · show mix k (mix k (fun p => nI (nw p)) (I'.2.1 8)) (I'.2.1 2) = _
              funext q
              by_cases hq : q < k
              · rw [mix_lt hq, mix_lt hq]
              · rw [mix_ge (by omega), fv]
                show _ = nI (yst k W _ _ _ _ _ _ q)
                unfold yst
                rw [if_neg hq]
            · show mix k (fun p => I'.2.1 5 p + br p) (I'.2.1 5) = _
              rw [a5]
              rfl
          have := ih (i + 1) (by omega) _ hI2 (some (.int (nI k)))
          rw [← nI_1 i] at this
          exact this
        | succ j ihj =>
          intro k hk pl
          have hkn : k < n := by omega
          obtain ⟨r, hr1, hr2⟩ := hl k hkn
          refine o.run 100 [] ⟨fun h => absurd h (by show ¬ I'.1 4 ≤ _; rw [f4]; exact nI_ge (by omega) (by omega)), fun _ => ⟨k, rfl, by omega, k, rfl, by omega, k, rfl, by omega, ?_⟩⟩
          show Z 43 _ _ [.int (nI k), .ref 0, .int (nI k), .ref 10]
          have et : upd (mix k (fun p => I'.2.1 5 p + br p) (I'.2.1 5)) k (mix k (fun p => I'.2.1 5 p + br p) (I'.2.1 5) k + H.2.1 6 k) = mix (k + 1) (fun p => I'.2.1 5 p + br p) (I'.2.1 5) := by
            rw [← mix_upd, mix_ge (Nat.le_refl k), hbr k hkn]
          let Gt : zI := setA (setA (setA H 5 (mix (k + 1) (fun p => I'.2.1 5 p + br p) (I'.2.1 5))) 8 (mix k (fun p => nI (nw p)) (I'.2.1 8))) 9 pl
          have hw : ∀ (A B : zS), A = B → Z 43 B [some (.ref 0), some (.int (nI m)), some (.int (nI i)), some (.int (nI k))] [.int (nI k), .ref 0, .int (nI k), .ref 10] → Z 43 A [some (.ref 0), some (.int (nI m)), some (.int (nI i)), some (.int (nI k))] [.int (nI k), .ref 0, .int (nI k), .ref 10] := fun A B e h => e ▸ h
          refine hw _ (isl 0 12 Gt ++ pol 12 RL) ?_ ?_
          · show isl 0 12 (setA (setA (setA H 5 (upd (mix k (fun p => I'.2.1 5 p + br p) (I'.2.1 5)) k (mix k (fun p => I'.2.1 5 p + br p) (I'.2.1 5) k + H.2.1 6 k))) 8 (mix k (fun p => nI (nw p)) (I'.2.1 8))) 9 pl) ++ pol 12 RL = _
            rw [et]
          · refine o.cV (rest := [.int (nI k), .ref 10]) vX0_110 (c_choiceOf (I := Gt) (n := n) (W := W) (y := y + i) (r := r) (v := vI RL I W n y s0 L sh sk v ru i) (ru := ru) hR hn hkn hW (by omega) f4 f0 f5 fv hvi (by show I'.2.1 3 k = _; rw [a33]; exact (hru k).1) (hru k).2 (by show I'.2.2 _ = _; rw [a2]; exact hr1) hr2) (fun w rv _ hpo => ?_)
            obtain ⟨⟨pl2, rfl⟩, rfl⟩ := hpo
            refine o.run 100 [13] ⟨k, rfl, by omega, ?_⟩
            have := ihj (k + 1) (by omega) pl2
            have en : nI (nw k) = nI (cho n W (y + i) (vI RL I W n y s0 L sh sk v ru i) (sb (Gt.2.1 7 k)) (Gt.2.1 6) k (dnI RL Gt.2.2 (ru k) (Gt.2.1 6 k)).1 (dnI RL Gt.2.2 (ru k) (Gt.2.1 6 k)).2) := by
              show nI (yst n W (I.2.1 0) (fun p o => sb (seB sh (y + i) (I.2.1 4 p) (I.1 7) p) o) (fun p x => dnI RL I.2.2 (ru p) x) t (y + i) (vI RL I W n y s0 L sh sk v ru i) k) = _
              unfold yst
              rw [if_pos hkn]
              have g7 : Gt.2.1 7 k = seB sh (y + i) (I.2.1 4 k) (I.1 7) k := by
                have hG7 : Gt.2.1 7 = mix n (fun p => seB sh (y + i) (I'.2.1 4 p) (I'.1 7) p) (I'.2.1 7) := rfl
                rw [hG7, mix_lt hkn, a34, f7]
              have g6 : Gt.2.1 6 k = I.2.1 0 (vI RL I W n y s0 L sh sk v ru i k * 4 + t) := hbr k hkn
              have g2 : Gt.2.2 = I.2.2 := a2
              rw [g7, g6, g2]
              congr 1
              exact cho_congr hkn (fun q hq => (hbr q hq).symm)
            have e8 : mix (k + 1) (fun p => nI (nw p)) (I'.2.1 8) = upd (mix k (fun p => nI (nw p)) (I'.2.1 8)) k (nI (nw k)) := (mix_upd k (fun p => nI (nw p)) (I'.2.1 8)).symm
            have eG : G (k + 1) pl2 = setA (setA (setA H 5 (mix (k + 1) (fun p => I'.2.1 5 p + br p) (I'.2.1 5))) 8 (upd (mix k (fun p => nI (nw p)) (I'.2.1 8)) k (nI (nw k)))) 9 pl2 := by rw [← e8]
            rw [eG, en, ← nI_1 k] at this
            exact this
      refine o.run 100 [] ⟨fun h => absurd h (nI_ge (by omega) (by omega)), fun _ => ?_⟩
      show Z _ _ _ _
      refine o.cVp (wc := isl 0 12 I') (tl := pol 12 RL) vX0_107 (c_harvest (v := vI RL I W n y s0 L sh sk v ru i) (sk := sk) hn (by omega) (by omega) hL hL2 hsh f1 f2 f4 f5 f6 (fun j => by rw [a31]; exact (hsk j).1) (fun j => (hsk j).2) fv hvi) (fun w rv _ hpo => ?_)
      obtain ⟨rfl, rfl⟩ := hpo
      have := inner n 0 (by omega) (I'.2.1 9)
      have eG : G 0 (I'.2.1 9) = setA (setA (setA H 5 (I'.2.1 5)) 8 (I'.2.1 8)) 9 (I'.2.1 9) := by
        show setA (setA (setA H 5 (mix 0 (fun p => I'.2.1 5 p + br p) (I'.2.1 5))) 8 (mix 0 (fun p => nI (nw p)) (I'.2.1 8))) 9 (I'.2.1 9) = _
        rw [mix_0, mix_0]
      rw [eG] at this
      exact o.run 100 [13] this
  refine o.run 100 [2] ?_
  refine outer m 0 (by omega) I ⟨?_, rfl, ⟨rfl, rfl, rfl, rfl⟩, ?_, rfl⟩ none
  · funext q
    unfold upd
    by_cases hq : q = 5
    · simp [hq, e5]
    · simp [hq]
  · funext j
    exact (hv j).1
end PY
end
section
/-! the island's writing methods -/
section ISW
variable {l : Launch} {D : va_G} {C : zC} {RB : Nat} {I : zI} {RL : List zRu}
set_option maxRecDepth 10000 in
theorem c_isWrong {W n y s0 L : Nat} {sk v : Nat → Nat} (hW : W ≤ 6) (hn : n ≤ 8) (hy : y < 2 ^ 30) (h0 : s0 ≤ y) (hL : 0 < L) (hL2 : L ≤ 24) (e0 : I.1 0 = nI W) (e1 : I.1 1 = nI L) (e2 : I.1 2 = nI s0) (e4 : I.1 4 = nI n) (e5 : I.1 5 = nI y) (ek : ∀ j, I.2.1 1 j = nI (sk j)) (hk : ∀ j, sk j < 4) (ev : ∀ j, I.2.1 2 j = nI (v j)) (hv : ∀ j, v j < 6) :
    zFun l D C yX0_isWrong cX0_isWrong 2 (some .boolean) (zR 2) [.ref 0] (isl 0 RB I) (fun w' rv => w' = isl 0 RB I ∧ rv = some (.int (zB (decide (cnt (fun p => decide (I.2.1 2 p = I.2.1 2 0)) n = n ∧ I.2.1 0 (v 0 * 4 + sk ((y - s0) % L)) < I.2.1 0 (bst (I.2.1 0) (sk ((y - s0) % L)) (W - 1) * 4 + sk ((y - s0) % L))))))) := by
  refine zFun_of (by decide) oX0_isWrong tbX0 (Nat.le_of_ble_eq_true rfl) (fun Z o => ?_)
  let t := sk ((y - s0) % L)
  have fin : ∀ b : Bool, decide (cnt (fun p => decide (I.2.1 2 p = I.2.1 2 0)) n = n ∧ I.2.1 0 (v 0 * 4 + t) < I.2.1 0 (bst (I.2.1 0) t (W - 1) * 4 + t)) = b → zRt (some .boolean) (some (.int (zB b))) ∧ (isl 0 RB I).length = (isl 0 RB I).length ∧ isl 0 RB I = isl 0 RB I ∧ some (Value.int (zB b)) = some (.int (zB (decide (cnt (fun p => decide (I.2.1 2 p = I.2.1 2 0)) n = n ∧ I.2.1 0 (v 0 * 4 + sk ((y - s0) % L)) < I.2.1 0 (bst (I.2.1 0) (sk ((y - s0) % L)) (W - 1) * 4 + sk ((y - s0) % L)))))) := fun b h => ⟨zB_rt b, rfl, rfl, by rw [← h]⟩
  refine o.run 100 [] ?_
  show Z _ _ _ _
  rw [e5]
  refine o.cV vX0_97 (c_weatherOf (y := y) (s0 := s0) (L := L) hy h0 hL hL2 e1 e2) (fun w rv _ hpo => ?_)
  obtain ⟨rfl, rfl⟩ := hpo
  rw [ek]
  refine o.run 100 [] ?_
  show Z _ _ _ _
  refine o.cV vX0_100 (c_isAlike hn e4) (fun w rv _ hpo => ?_)
  obtain ⟨rfl, rfl⟩ := hpo
  refine o.run 100 [] ⟨fun h => ?_, fun h => ⟨0, rfl, by omega, ?_⟩⟩
  · have h := of_decide_eq_false ((zB_0 _).mp h)
    exact fin false (decide_eq_false (fun h2 => h h2.1))
  · have hal : cnt (fun p => decide (I.2.1 2 p = I.2.1 2 0)) n = n := by
      by_cases hq : cnt (fun p => decide (I.2.1 2 p = I.2.1 2 0)) n = n
      · exact hq
      · exact absurd ((zB_0 _).mpr (decide_eq_false hq)) h
    show Z _ _ _ _
    have hb := bst_le (I.2.1 0) t (W - 1)
    rw [ev 0]
    refine o.cV vX0_89 (c_bringsOf (w := v 0) (t := t) (hv 0) (hk _)) (fun w rv _ hpo => ?_)
    obtain ⟨rfl, rfl⟩ := hpo
    refine o.run 100 [] ?_
    show Z _ _ _ _
    refine o.cV (rest := [.ref 0, .int _]) vX0_104 (c_bestIn (W := W) (t := t) hW (hk _) e0) (fun w rv _ hpo => ?_)
    obtain ⟨rfl, rfl⟩ := hpo
    refine o.run 100 [] ?_
    show Z _ _ _ _
    refine o.cV (rest := [.int _]) vX0_89 (c_bringsOf (w := bst (I.2.1 0) t (W - 1)) (t := t) (by omega) (hk _)) (fun w rv _ hpo => ?_)
    obtain ⟨rfl, rfl⟩ := hpo
    refine o.run 100 [] ⟨fun h => ?_, fun h => ?_⟩
    · exact fin false (decide_eq_false (fun h2 => Int32.not_le.mpr h2.2 h))
    · exact fin true (decide_eq_true ⟨hal, Int32.not_le.mp h⟩)
set_option maxRecDepth 10000 in
theorem c_liveInParts {n k : Nat} {a b : Int32} (hn : n ≤ 8) (hk : k < 2 ^ 30) (e4 : I.1 4 = nI n) : zFun l D C yX0_liveInParts cX0_liveInParts 5 none (zR 0) [.ref 0, .int a, .int b, .int (nI k)] (isl 0 RB I) (fun w' rv => w' = isl 0 RB (setA I 3 (mix n (fun p => if p < k then a else b) (I.2.1 3))) ∧ rv = none) := by
  refine zFun_of (by decide) oX0_liveInParts tbX0 (Nat.le_of_ble_eq_true rfl) (fun Z o => ?_)
  let g : Nat → Int32 := fun p => if p < k then a else b
  have loop : ∀ j i, i + j = n → Z 3 (isl 0 RB (setA I 3 (mix i g (I.2.1 3)))) [some (.ref 0), some (.int a), some (.int b), some (.int (nI k)), some (.int (nI i))] [] := by
    intro j
    induction j with
    | zero =>
      intro i hi
      obtain rfl : i = n := by omega
      exact o.run 100 [] ⟨fun _ => ⟨rfl, rfl, rfl, rfl⟩, fun h => absurd (by show I.1 4 ≤ _; rw [e4]; exact nI_le (Nat.le_refl _) (by omega)) h⟩
    | succ j ih =>
      intro i hi
      refine o.run 100 [3] ⟨fun h => absurd h (by show ¬ I.1 4 ≤ _; rw [e4]; exact nI_ge (by omega) (by omega)), fun _ => ⟨fun h => ⟨i, rfl, by omega, ?_⟩, fun h => ⟨i, rfl, by omega, ?_⟩⟩⟩
      · rw [nI_leI (by omega) (by omega)] at h
        have := ih (i + 1) (by omega)
        have eg : g i = b := if_neg (by omega)
        rw [← mix_upd, eg, ← nI_1 i] at this
        exact this
      · rw [nI_leI (by omega) (by omega)] at h
        have := ih (i + 1) (by omega)
        have eg : g i = a := if_pos (by omega)
        rw [← mix_upd, eg, ← nI_1 i] at this
        exact this
  have := loop n 0 (by omega)
  rw [mix_0] at this
  exact o.run 100 [3] this
def tsk (L k : Nat) (x y : Int32) (f : Nat → Int32) : Nat → Int32 := fun j => if j < k then x else if L ≤ j ∧ j < L + k then y else f j
set_option maxRecDepth 10000 in
theorem c_turnSky {L : Nat} {x y : Int32} (hL : L ≤ 12) : zFun l D C yX0_turnSky cX0_turnSky 5 none (zR 0) [.ref 0, .int (nI L), .int x, .int y] (isl 0 RB I) (fun w' rv => w' = isl 0 RB (setS (setS (setA I 1 (tsk L L x y (I.2.1 1))) 1 (nI (2 * L))) 2 (I.1 5)) ∧ rv = none) := by
  refine zFun_of (by decide) oX0_turnSky tbX0 (Nat.le_of_ble_eq_true rfl) (fun Z o => ?_)
  have loop : ∀ j k, k + j = L → Z 3 (isl 0 RB (setA I 1 (tsk L k x y (I.2.1 1)))) [some (.ref 0), some (.int (nI L)), some (.int x), some (.int y), some (.int (nI k))] [] := by
    intro j
    induction j with
    | zero =>
      intro k hk
      obtain rfl : k = L := by omega
      refine o.run 100 [] ⟨fun _ => ⟨rfl, rfl, ?_, rfl⟩, fun h => absurd (nI_le (Nat.le_refl _) (by omega)) h⟩
      have e : nI 2 * nI k = nI (2 * k) := pk_mul 2 k
      rw [← e]
      rfl
    | succ j ih =>
      intro k hk
      have e : nI L + nI k = nI (L + k) := nI_add L k
      refine o.run 100 [3] ⟨fun h => absurd h (nI_ge (by omega) (by omega)), fun _ => ⟨k, rfl, by omega, L + k, e, by omega, ?_⟩⟩
      have := ih (k + 1) (by omega)
      have e2 : tsk L (k + 1) x y (I.2.1 1) = upd (upd (tsk L k x y (I.2.1 1)) k x) (L + k) y := by
        funext q
        unfold upd tsk
        by_cases h1 : q = L + k
        · subst h1
          rw [if_pos rfl, if_neg (by omega), if_pos (by omega)]
        · rw [if_neg h1]
          by_cases h2 : q = k
          · subst h2; rw [if_pos rfl, if_pos (by omega)]
          · rw [if_neg h2]
            by_cases h3 : q < k
            · rw [if_pos h3, if_pos (by omega)]
            · rw [if_neg h3, if_neg (by omega)]
              by_cases h4 : L ≤ q ∧ q < L + k
              · rw [if_pos h4, if_pos (by omega)]
              · rw [if_neg h4, if_neg (by omega)]
      rw [e2, ← nI_1 k] at this
      exact this
  have := loop L 0 (by omega)
  have e0 : tsk L 0 x y (I.2.1 1) = I.2.1 1 := by
    funext q
    unfold tsk
    rw [if_neg (by omega), if_neg (by omega)]
  rw [e0] at this
  exact o.run 100 [3] this
/-- who is ahead of p by i, gone round among n; the bits of those seen -/
def ahd (n p : Nat) : Nat → Nat
  | 0 => p
  | i + 1 => if 0 < ahd n p i then ahd n p i - 1 else n - 1
theorem ahd_lt {n p : Nat} (hp : p < n) : ∀ i, ahd n p i < n
  | 0 => hp
  | i + 1 => by have := ahd_lt hp i; unfold ahd; split <;> omega
def ahB (n p : Nat) : Nat → Int32
  | 0 => nI 1 <<< (nI p &&& 31)
  | i + 1 => ahB n p i ||| (nI 1 <<< (nI (ahd n p (i + 1)) &&& 31))
set_option maxRecDepth 10000 in
theorem c_seeAhead {n k : Nat} (hn : n ≤ 8) (hk : k ≤ 7) (e4 : I.1 4 = nI n) : zFun l D C yX0_seeAhead cX0_seeAhead 6 none (zR 0) [.ref 0, .int (nI k)] (isl 0 RB I) (fun w' rv => w' = isl 0 RB (setA I 4 (mix n (fun p => ahB n p k) (I.2.1 4))) ∧ rv = none) := by
  refine zFun_of (by decide) oX0_seeAhead tbX0 (Nat.le_of_ble_eq_true rfl) (fun Z o => ?_)
  let g : Nat → Int32 := fun p => ahB n p k
  have outer : ∀ j p, p + j = n → ∀ x3 x4 x5, Z 2 (isl 0 RB (setA I 4 (mix p g (I.2.1 4)))) [some (.ref 0), some (.int (nI k)), some (.int (nI p)), x3, x4, x5] [] := by
    intro j
    induction j with
    | zero =>
      intro p hp x3 x4 x5
      obtain rfl : p = n := by omega
      exact o.run 100 [] ⟨fun _ => ⟨rfl, rfl, rfl, rfl⟩, fun h => absurd (by show I.1 4 ≤ _; rw [e4]; exact nI_le (Nat.le_refl _) (by omega)) h⟩
    | succ j ih =>
      intro p hp x3 x4 x5
      have inner : ∀ jj i, i + jj = k → Z 20 (isl 0 RB (setA I 4 (mix p g (I.2.1 4)))) [some (.ref 0), some (.int (nI k)), some (.int (nI p)), some (.int (ahB n p i)), some (.int (nI (ahd n p i))), some (.int (nI i))] [] := by
        intro jj
        induction jj with
        | zero =>
          intro i hi
          obtain rfl : i = k := by omega
          refine o.run 100 [2] ⟨fun _ => ⟨p, rfl, by omega, ?_⟩, fun h => absurd (nI_le (Nat.le_refl _) (by omega)) h⟩
          have := ih (p + 1) (by omega) (some (.int (ahB n p i))) (some (.int (nI (ahd n p i)))) (some (.int (nI i)))
          rw [← mix_upd, ← nI_1 p] at this
          exact this
        | succ jj ihh =>
          intro i hi
          have ha := ahd_lt (n := n) (p := p) (by omega) i
          refine o.run 100 [20] ⟨fun h => absurd h (nI_ge (by omega) (by omega)), fun _ => ⟨fun h => ?_, fun h => ?_⟩⟩
          · have h0 : ahd n p i = 0 := by
              rcases Nat.eq_zero_or_pos (ahd n p i) with h1 | h1
              · exact h1
              · exact absurd h (nI_nle h1 (by omega))
            have e : I.1 4 - nI 1 = nI (ahd n p (i + 1)) := by
              rw [e4, pk_sub (by omega), ahd, if_neg (by omega)]
            have := ihh (i + 1) (by omega)
            rw [ahB, ← e, ← nI_1 i] at this
            exact this
          · have h0 : 0 < ahd n p i := by
              rcases Nat.eq_zero_or_pos (ahd n p i) with h1 | h1
              · rw [h1] at h; exact absurd (by decide) h
              · exact h1
            have e : nI (ahd n p i) - nI 1 = nI (ahd n p (i + 1)) := by
              rw [pk_sub (by omega)]
              show _ = nI (if 0 < ahd n p i then ahd n p i - 1 else n - 1)
              rw [if_pos h0]
            have := ihh (i + 1) (by omega)
            rw [ahB, ← e, ← nI_1 i] at this
            exact this
      refine o.run 100 [20] ⟨fun h => absurd h (by show ¬ I.1 4 ≤ _; rw [e4]; exact nI_ge (by omega) (by omega)), fun _ => ?_⟩
      exact inner k 0 (by omega)
  have := outer n 0 (by omega) none none none
  rw [mix_0] at this
  exact o.run 100 [2] this
set_option maxRecDepth 10000 in
theorem c_addWay {W : Nat} {a b c d : Int32} (hW : W < 6) (e0 : I.1 0 = nI W) : zFun l D C yX0_addWay cX0_addWay 6 (some .int) (zR 0) [.ref 0, .int a, .int b, .int c, .int d] (isl 0 RB I) (fun w' rv => w' = isl 0 RB (setS (setA I 0 (upd (upd (upd (upd (I.2.1 0) (W * 4) a) (W * 4 + 1) b) (W * 4 + 2) c) (W * 4 + 3) d)) 0 (nI (W + 1))) ∧ rv = some (.int (nI W))) := by
  refine zFun_of (by decide) oX0_addWay tbX0 (Nat.le_of_ble_eq_true rfl) (fun Z o => ?_)
  have e : I.1 0 * nI 4 = nI (W * 4) := by rw [e0, pk_mul]
  refine o.run 100 [] ⟨W * 4, e, by omega, W * 4 + 1, ?_, by omega, W * 4 + 2, ?_, by omega, W * 4 + 3, ?_, by omega, ⟨_, rfl, rfl⟩, rfl, ?_, ?_⟩
  · show I.1 0 * nI 4 + nI 1 = _
    rw [e, nI_add]
  · show I.1 0 * nI 4 + nI 2 = _
    rw [e, nI_add]
  · show I.1 0 * nI 4 + nI 3 = _
    rw [e, nI_add]
  · rw [← nI_1 W, ← e0]; rfl
  · rw [← e0]
set_option maxRecDepth 10000 in
theorem c_addPerson {n : Nat} {a b : Int32} (hn : n < 8) (e4 : I.1 4 = nI n) : zFun l D C yX0_addPerson cX0_addPerson 3 (some .int) (zR 0) [.ref 0, .int a, .int b] (isl 0 RB I) (fun w' rv => w' = isl 0 RB (setS (setA (setA (setA (setA I 2 (upd (I.2.1 2) n a)) 3 (upd (I.2.1 3) n b)) 4 (upd (I.2.1 4) n (nI 255))) 5 (upd (I.2.1 5) n (nI 0))) 4 (nI (n + 1))) ∧ rv = some (.int (nI n))) := by
  refine zFun_of (by decide) oX0_addPerson tbX0 (Nat.le_of_ble_eq_true rfl) (fun Z o => ?_)
  refine o.run 100 [] ⟨n, e4, by omega, n, e4, by omega, n, e4, by omega, n, e4, by omega, ⟨_, rfl, rfl⟩, rfl, ?_, ?_⟩
  · rw [← nI_1 n, ← e4]; rfl
  · rw [← e4]
end ISW
end
section
/-! copies of an island, a rule more -/
def mixO (k : Nat) (f g : Nat → Option Nat) : Nat → Option Nat := fun j => if j < k then f j else g j
def setR (I : zI) (f : Nat → Option Nat) : zI := (I.1, I.2.1, f)
/-- what copyFrom makes of the island I: the numbers, the first six rows and the rules of O -/
def cpI (I O : zI) : zI := (O.1, fun k => if k < 6 then O.2.1 k else I.2.1 k, O.2.2)
section CPY
variable {l : Launch} {D : va_G} {C : zC} {I O : zI} {RL : List zRu}
set_option maxRecDepth 10000 in
theorem c_addRule {rc r : Nat} (hrc : rc < 10) (hr : r < RL.length) (e3 : I.1 3 = nI rc) : zFun l D C yX0_addRule cX0_addRule 2 (some .int) (zR 0) [.ref 0, .ref (r + 12)] (isl 0 12 I ++ pol 12 RL) (fun w' rv => w' = isl 0 12 (setS (setR I (va_up I.2.2 rc (some r))) 3 (nI (rc + 1))) ++ pol 12 RL ∧ rv = some (.int (nI rc))) := by
  refine zFun_of (by decide) oX0_addRule tbX0 (Nat.le_of_ble_eq_true rfl) (fun Z o => ?_)
  refine o.run 100 [] ?_
  show Z 9 (isl 0 12 I ++ pol 12 RL) [some (.ref 0), some (.ref (r + 12))] (va_rf (some (r + 12)) :: .int (I.1 3) :: .ref 3 :: [])
  rw [e3]
  refine o.aas (a := 3) rfl hrc (by omega) (fun v hv => ?_) ?_
  · cases hv
    refine ⟨[.int (RL[r]).1, .int (RL[r]).2.1, va_rf ((RL[r]).2.2.1.map (fun i => i + 12)), va_rf ((RL[r]).2.2.2.map (fun i => i + 12))], ?_⟩
    · rw [List.getElem?_append_right (by rw [isl_len]; omega), isl_len, Nat.add_sub_cancel, pol_at, List.getElem?_eq_getElem hr]; rfl
  · have e : va_up (fun j => (I.2.2 j).map (fun i => i + 12)) rc (some (r + 12)) = (fun j => (va_up I.2.2 rc (some r) j).map (fun i => i + 12)) := by
      funext j
      unfold va_up
      split <;> rfl
    rw [e]
    refine o.run 100 [] ⟨⟨_, rfl, rfl⟩, rfl, ?_, ?_⟩
    · rw [← nI_1 rc, ← e3]; rfl
    · rw [← e3]
set_option maxRecDepth 10000 in
theorem c_copyFrom (hO : ∀ k, k < 10 → ∀ r, O.2.2 k = some r → r < RL.length) : zFun l D C yX0_copyFrom cX0_copyFrom 3 none (zR 1) [.ref 0, .ref 12] (isl 0 24 I ++ (isl 12 24 O ++ pol 24 RL)) (fun w' rv => w' = isl 0 24 (cpI I O) ++ (isl 12 24 O ++ pol 24 RL) ∧ rv = none) := by
  refine zFun_of (by decide) oX0_copyFrom tbX0 (Nat.le_of_ble_eq_true rfl) (fun Z o => ?_)
  let lv0 : zL := [some (.ref 0), some (.ref 12), none]
  let T : zS := isl 12 24 O ++ pol 24 RL
  have hm : ∀ (n : Nat) (f g : Nat → Int32) j, j < n → va_cpy f g 0 0 n j = f j := fun n f g j hj => by rw [cpy_mix, mix_lt hj]
  -- behind the loop
  have last : ∀ J : zI, (∀ k, k < 4 → J.1 k = O.1 k) → J.2.1 0 = O.2.1 0 → J.2.1 1 = O.2.1 1 → (∀ k, 6 ≤ k → J.2.1 k = I.2.1 k) → J.2.2 = O.2.2 → ∀ x2, Z 91 (isl 0 24 J ++ T) [some (.ref 0), some (.ref 12), x2] [] := by
    intro J h1 h2 h3 h4 h5 x2
    refine o.run 100 [] ?_
    show Z 111 (isl 0 24 (setS J 4 (O.1 4)) ++ T) _ [.int (nI 8), .int (nI 0), .ref 4, .int (nI 0), .ref 16]
    refine o.cp (a0 := 16) (a1 := 4) (n0 := 8) (n1 := 8) (f := O.2.1 2) (g := J.2.1 2) 0 0 8 cpX0 rfl rfl (by omega) (by omega) (by omega) (by omega) ?_
    refine o.xi 4 (O.2.1 2) rfl (hm 8 _ _) (o.run 100 [] ?_)
    show Z 126 (isl 0 24 (setA (setS J 4 (O.1 4)) 2 (O.2.1 2)) ++ T) _ [.int (nI 8), .int (nI 0), .ref 5, .int (nI 0), .ref 17]
    refine o.cp (a0 := 17) (a1 := 5) (n0 := 8) (n1 := 8) (f := O.2.1 3) (g := J.2.1 3) 0 0 8 cpX0 rfl rfl (by omega) (by omega) (by omega) (by omega) ?_
    refine o.xi 5 (O.2.1 3) rfl (hm 8 _ _) (o.run 100 [] ?_)
    show Z 141 (isl 0 24 (setA (setA (setS J 4 (O.1 4)) 2 (O.2.1 2)) 3 (O.2.1 3)) ++ T) _ [.int (nI 8), .int (nI 0), .ref 6, .int (nI 0), .ref 18]
    refine o.cp (a0 := 18) (a1 := 6) (n0 := 8) (n1 := 8) (f := O.2.1 4) (g := J.2.1 4) 0 0 8 cpX0 rfl rfl (by omega) (by omega) (by omega) (by omega) ?_
    refine o.xi 6 (O.2.1 4) rfl (hm 8 _ _) (o.run 100 [] ?_)
    show Z 156 (isl 0 24 (setA (setA (setA (setS J 4 (O.1 4)) 2 (O.2.1 2)) 3 (O.2.1 3)) 4 (O.2.1 4)) ++ T) _ [.int (nI 8), .int (nI 0), .ref 7, .int (nI 0), .ref 19]
    refine o.cp (a0 := 19) (a1 := 7) (n0 := 8) (n1 := 8) (f := O.2.1 5) (g := J.2.1 5) 0 0 8 cpX0 rfl rfl (by omega) (by omega) (by omega) (by omega) ?_
    refine o.xi 7 (O.2.1 5) rfl (hm 8 _ _) (o.run 100 [] ⟨rfl, rfl, ?_, rfl⟩)
    show isl 0 24 (setS (setS (setS (setA (setA (setA (setA (setS J 4 (O.1 4)) 2 (O.2.1 2)) 3 (O.2.1 3)) 4 (O.2.1 4)) 5 (O.2.1 5)) 5 (O.1 5)) 6 (O.1 6)) 7 (O.1 7)) ++ T = isl 0 24 (cpI I O) ++ T
    have g0 := h1 0 (by omega)
    have g1 := h1 1 (by omega)
    have g2 := h1 2 (by omega)
    have g3 := h1 3 (by omega)
    have k6 := h4 6 (by omega)
    have k7 := h4 7 (by omega)
    have k8 := h4 8 (by omega)
    have k9 := h4 9 (by omega)
    congr 1
    simp only [isl, setS, setA, cpI, upd, g0, g1, g2, g3, h2, h3, h5, k6, k7, k8, k9]
    rfl
  -- the loop over the rules
  have loop : ∀ j k, k + j = 10 → ∀ J : zI, (∀ k, k < 4 → J.1 k = O.1 k) → J.2.1 0 = O.2.1 0 → J.2.1 1 = O.2.1 1 → (∀ k, 6 ≤ k → J.2.1 k = I.2.1 k) → J.2.2 = mixO k O.2.2 I.2.2 → Z 67 (isl 0 24 J ++ T) [some (.ref 0), some (.ref 12), some (.int (nI k))] [] := by
    intro j
    induction j with
    | zero =>
      intro k hk J h1 h2 h3 h4 h5
      obtain rfl : k = 10 := by omega
      refine o.run 100 [91] ⟨fun _ => ?_, fun h => absurd (by decide) h⟩
      show Z _ _ _ _
      refine o.xr 3 (fun j => (O.2.2 j).map (fun r => r + 24)) rfl (fun j hj => ?_) ?_
      · show (J.2.2 j).map _ = _
        rw [h5, mixO, if_pos hj]
      · exact last (setR J O.2.2) h1 h2 h3 h4 rfl _
    | succ j ih =>
      intro k hk J h1 h2 h3 h4 h5
      refine o.run 100 [] ⟨fun h => absurd h (show ¬ nI 10 ≤ nI k from nI_ge (by omega) (by omega)), fun _ => ?_⟩
      show Z 83 (isl 0 24 J ++ T) _ [.int (nI k), .ref 15, .int (nI k), .ref 3]
      refine o.aal (a := 15) (n := 10) (f := fun j => (O.2.2 j).map (fun r => r + 24)) rfl (by omega) (by omega) ?_
      refine o.aas (a := 3) (n := 10) (f := fun j => (J.2.2 j).map (fun r => r + 24)) (ov := (O.2.2 k).map (fun r => r + 24)) rfl (by omega) (by omega) (fun v hv => ?_) ?_
      · obtain ⟨r, hr, rfl⟩ := Option.map_eq_some_iff.mp hv
        have hlt := hO k (by omega) r hr
        refine ⟨[.int (RL[r]).1, .int (RL[r]).2.1, va_rf ((RL[r]).2.2.1.map (fun i => i + 24)), va_rf ((RL[r]).2.2.2.map (fun i => i + 24))], ?_⟩
        show (isl 0 24 J ++ (isl 12 24 O ++ pol 24 RL))[r + 24]? = _
        rw [← List.append_assoc, List.getElem?_append_right (by simp [isl_len]), pol_at]
        have : r + 24 - (isl 0 24 J ++ isl 12 24 O).length = r := by simp [isl_len]
        rw [this, List.getElem?_eq_getElem hlt]; rfl
      · have e : va_up (fun j => (J.2.2 j).map (fun r => r + 24)) k ((O.2.2 k).map (fun r => r + 24)) = (fun j => (mixO (k + 1) O.2.2 I.2.2 j).map (fun r => r + 24)) := by
          funext q
          unfold va_up
          rw [h5]
          unfold mixO
          by_cases hq : q = k
          · subst hq; rw [if_pos rfl, if_pos (by omega)]
          · rw [if_neg hq]
            dsimp only
            by_cases h6 : q < k
            · rw [if_pos h6, if_pos (by omega)]
            · rw [if_neg h6, if_neg (by omega)]
        rw [e]
        refine o.run 100 [67] ?_
        have := ih (k + 1) (by omega) (setR J (mixO (k + 1) O.2.2 I.2.2)) h1 h2 h3 h4 rfl
        rw [← nI_1 k] at this
        exact this
  refine o.run 100 [] ?_
  show Z 23 (isl 0 24 (setS I 0 (O.1 0)) ++ T) _ [.int (nI 24), .int (nI 0), .ref 1, .int (nI 0), .ref 13]
  refine o.cp (a0 := 13) (a1 := 1) (n0 := 24) (n1 := 24) (f := O.2.1 0) (g := I.2.1 0) 0 0 24 cpX0 rfl rfl (by omega) (by omega) (by omega) (by omega) ?_
  refine o.xi 1 (O.2.1 0) rfl (hm 24 _ _) (o.run 100 [] ?_)
  show Z 46 (isl 0 24 (setS (setA (setS I 0 (O.1 0)) 0 (O.2.1 0)) 1 (O.1 1)) ++ T) _ [.int (nI 24), .int (nI 0), .ref 2, .int (nI 0), .ref 14]
  refine o.cp (a0 := 14) (a1 := 2) (n0 := 24) (n1 := 24) (f := O.2.1 1) (g := I.2.1 1) 0 0 24 cpX0 rfl rfl (by omega) (by omega) (by omega) (by omega) ?_
  refine o.xi 2 (O.2.1 1) rfl (hm 24 _ _) (o.run 100 [67] ?_)
  refine loop 10 0 rfl (setS (setS (setA (setS (setA (setS I 0 (O.1 0)) 0 (O.2.1 0)) 1 (O.1 1)) 1 (O.2.1 1)) 2 (O.1 2)) 3 (O.1 3)) ?_ rfl rfl ?_ ?_
  · intro k hk
    match k, hk with
    | 0, _ => rfl
    | 1, _ => rfl
    | 2, _ => rfl
    | 3, _ => rfl
  · intro k hk
    have a0 : ¬ k = 0 := by omega
    have a1 : ¬ k = 1 := by omega
    show (if k = 1 then _ else if k = 0 then _ else I.2.1 k) = _
    rw [if_neg a1, if_neg a0]
  · funext q
    show I.2.2 q = mixO 0 O.2.2 I.2.2 q
    unfold mixO
    rw [if_neg (by omega)]
/-- what imagine makes of the island I -/
def imI (I O : zI) : zI := setA (cpI I O) 5 (fun _ => nI 0)
set_option maxRecDepth 10000 in
theorem c_imagine (hO : ∀ k, k < 10 → ∀ r, O.2.2 k = some r → r < RL.length) : zFun l D C yX0_imagine cX0_imagine 2 none (zR 2) [.ref 0, .ref 12] (isl 0 24 I ++ (isl 12 24 O ++ pol 24 RL)) (fun w' rv => w' = isl 0 24 (imI I O) ++ (isl 12 24 O ++ pol 24 RL) ∧ rv = none) := by
  refine zFun_of (by decide) oX0_imagine tbX0 (Nat.le_of_ble_eq_true rfl) (fun Z o => ?_)
  refine o.run 100 [] ?_
  show Z _ _ _ _
  refine o.cV (As := [.ref 12]) vX0_79 (c_copyFrom (I := I) hO) (fun w rv _ hpo => ?_)
  obtain ⟨rfl, rfl⟩ := hpo
  refine o.run 100 [] ?_
  show Z _ _ _ _
  refine o.cS1 (a := 7) (Bs := [.int (nI 0)]) vX0_83 (c_fill (n := 8) (f := O.2.1 5) (x := nI 0) (by omega)) rfl (fun rv hrv => ?_)
  subst hrv
  refine o.xi 7 (fun _ => nI 0) rfl (fun j hj => mix_lt hj) (o.run 100 [] ⟨rfl, rfl, rfl, rfl⟩)
end CPY
end
section
/-! the class's world: four islands (0 island, 1 taken, 2 parted, 3 mind), ownBrought, the reader with its text, refusals; calls on an island -/
/-- islands; rows (0 ownBrought, 1 text, 2 refusals); numbers (0 length, 1 place, 2 isTaken) -/
abbrev zY : Type := (Nat → zI) × (Nat → Nat → Int32) × (Nat → Int32)
def yamW (RB : Nat) (Y : zY) : zS := .inr (.inr (3, [.ref 1, .ref 13, .ref 25, .ref 37, .ref 49, .ref 50, .ref 52, .int (Y.2.2 2)])) :: (isl 1 RB (Y.1 0) ++ (isl 13 RB (Y.1 1) ++ (isl 25 RB (Y.1 2) ++ (isl 37 RB (Y.1 3) ++ [.inl (0, 8, Y.2.1 0), .inr (.inr (1, [.ref 51, .int (Y.2.2 0), .int (Y.2.2 1)])), .inl (0, 24, Y.2.1 1), .inl (0, 7, Y.2.1 2)]))))
def setJ (Y : zY) (k : Nat) (I : zI) : zY := (fun j => if j = k then I else Y.1 j, Y.2)
def setY (Y : zY) (k : Nat) (f : Nat → Int32) : zY := (Y.1, fun j => if j = k then f else Y.2.1 j, Y.2.2)
def setN (Y : zY) (k : Nat) (x : Int32) : zY := (Y.1, Y.2.1, upd Y.2.2 k x)
theorem yamW_len (RB : Nat) (Y : zY) : (yamW RB Y).length = 53 := rfl
theorem setJ_J (Y : zY) (k : Nat) (I : zI) : (setJ Y k I).1 k = I := if_pos rfl
theorem yam_split {RB : Nat} {Y : zY} {k : Nat} (hk : k < 4) : ∃ hd tl : zS, hd.length = 1 + 12 * k ∧ (∀ I, yamW RB (setJ Y k I) = hd ++ (isl (1 + 12 * k) RB I ++ tl)) ∧ yamW RB Y = hd ++ (isl (1 + 12 * k) RB (Y.1 k) ++ tl) := by
  match k, hk with
  | 0, _ => exact ⟨[.inr (.inr (3, [.ref 1, .ref 13, .ref 25, .ref 37, .ref 49, .ref 50, .ref 52, .int (Y.2.2 2)]))], isl 13 RB (Y.1 1) ++ (isl 25 RB (Y.1 2) ++ (isl 37 RB (Y.1 3) ++ [.inl (0, 8, Y.2.1 0), .inr (.inr (1, [.ref 51, .int (Y.2.2 0), .int (Y.2.2 1)])), .inl (0, 24, Y.2.1 1), .inl (0, 7, Y.2.1 2)])), rfl, fun _ => rfl, rfl⟩
  | 1, _ => exact ⟨.inr (.inr (3, [.ref 1, .ref 13, .ref 25, .ref 37, .ref 49, .ref 50, .ref 52, .int (Y.2.2 2)])) :: isl 1 RB (Y.1 0), isl 25 RB (Y.1 2) ++ (isl 37 RB (Y.1 3) ++ [.inl (0, 8, Y.2.1 0), .inr (.inr (1, [.ref 51, .int (Y.2.2 0), .int (Y.2.2 1)])), .inl (0, 24, Y.2.1 1), .inl (0, 7, Y.2.1 2)]), rfl, fun _ => rfl, rfl⟩
  | 2, _ => exact ⟨.inr (.inr (3, [.ref 1, .ref 13, .ref 25, .ref 37, .ref 49, .ref 50, .ref 52, .int (Y.2.2 2)])) :: (isl 1 RB (Y.1 0) ++ isl 13 RB (Y.1 1)), isl 37 RB (Y.1 3) ++ [.inl (0, 8, Y.2.1 0), .inr (.inr (1, [.ref 51, .int (Y.2.2 0), .int (Y.2.2 1)])), .inl (0, 24, Y.2.1 1), .inl (0, 7, Y.2.1 2)], rfl, fun _ => rfl, rfl⟩
  | 3, _ => exact ⟨.inr (.inr (3, [.ref 1, .ref 13, .ref 25, .ref 37, .ref 49, .ref 50, .ref 52, .int (Y.2.2 2)])) :: (isl 1 RB (Y.1 0) ++ (isl 13 RB (Y.1 1) ++ isl 25 RB (Y.1 2))), [.inl (0, 8, Y.2.1 0), .inr (.inr (1, [.ref 51, .int (Y.2.2 0), .int (Y.2.2 1)])), .inl (0, 24, Y.2.1 1), .inl (0, 7, Y.2.1 2)], rfl, fun _ => rfl, rfl⟩
theorem yam_at {RB : Nat} {Y : zY} {k i : Nat} (hk : k < 4) (hi : i < 12) (T : zS) : (yamW RB Y ++ T)[1 + 12 * k + i]? = (isl (1 + 12 * k) RB (Y.1 k))[i]? := by
  obtain ⟨hd, tl, h1, -, h3⟩ := yam_split (RB := RB) (Y := Y) hk
  rw [List.getElem?_append_left (by rw [yamW_len]; omega), h3, List.getElem?_append_right (by omega), h1, List.getElem?_append_left (by rw [isl_len]; omega)]
  congr 1
  omega
theorem app_out {a m1 m2 t : zS} {i : Nat} (hm : m1.length = m2.length) (h : a.length + m1.length ≤ i) : (a ++ (m1 ++ t))[i]? = (a ++ (m2 ++ t))[i]? := by
  have e1 : (a ++ (m1 ++ t))[i]? = t[i - a.length - m1.length]? := by rw [List.getElem?_append_right (by omega), List.getElem?_append_right (by omega)]
  have e2 : (a ++ (m2 ++ t))[i]? = t[i - a.length - m2.length]? := by rw [List.getElem?_append_right (by omega), List.getElem?_append_right (by omega)]
  rw [e1, e2, hm]
theorem yam_out {RB : Nat} {Y : zY} {k i : Nat} (hk : k < 4) (I : zI) (hi : i < 1 + 12 * k ∨ 1 + 12 * k + 12 ≤ i) (T : zS) : (yamW RB (setJ Y k I) ++ T)[i]? = (yamW RB Y ++ T)[i]? := by
  obtain ⟨hd, tl, h1, h2, h3⟩ := yam_split (RB := RB) (Y := Y) hk
  rw [h2, h3]
  simp only [List.append_assoc]
  rcases hi with h | h
  · rw [List.getElem?_append_left (by omega), List.getElem?_append_left (by omega)]
  · exact app_out (by rw [isl_len, isl_len]) (by rw [isl_len]; omega)
theorem isl_zr {σ : Nat → Nat} {b0 RB0 b RB : Nat} (I : zI) (h1 : ∀ i, 1 ≤ i → i < 12 → σ (b0 + i) = b + i) (h2 : ∀ r, σ (r + RB0) = r + RB) {i : Nat} {x : zE} (hx : (isl b0 RB0 I)[i]? = some x) : (isl b RB I)[i]? = some (zr σ x) := by
  have hm : (isl b0 RB0 I).map (zr σ) = isl b RB I := by
    have e : (fun j => ((I.2.2 j).map (fun r => r + RB0)).map σ) = (fun j => (I.2.2 j).map (fun r => r + RB)) := by
      funext j
      cases I.2.2 j with
      | none => rfl
      | some r => show some (σ (r + RB0)) = some (r + RB); rw [h2]
    simp only [isl, List.map_cons, List.map_nil, zr, zv, e]
    rw [h1 1 (by omega) (by omega), h1 2 (by omega) (by omega), h1 3 (by omega) (by omega), h1 4 (by omega) (by omega), h1 5 (by omega) (by omega), h1 6 (by omega) (by omega), h1 7 (by omega) (by omega), h1 8 (by omega) (by omega), h1 9 (by omega) (by omega), h1 10 (by omega) (by omega), h1 11 (by omega) (by omega)]
  rw [← hm, List.getElem?_map, hx]; rfl
theorem pol_zr {σ : Nat → Nat} {RB0 RB : Nat} {RL : List zRu} (h2 : ∀ r, σ (r + RB0) = r + RB) {i : Nat} {x : zE} (hx : (pol RB0 RL)[i]? = some x) : (pol RB RL)[i]? = some (zr σ x) := by
  rw [pol_at] at hx ⊢
  obtain ⟨u, hu, rfl⟩ := Option.map_eq_some_iff.mp hx
  rw [hu]
  obtain ⟨s, n, o1, o2⟩ := u
  simp only [Option.map_some, zr, List.map_cons, List.map_nil]
  congr 4
  cases o1 <;> cases o2 <;> simp [zv, va_rf, h2]
-- an island alone
theorem ysbA {Y : zY} {k : Nat} (hk : k < 4) (T : zS) : zsb (fun i => i + (1 + 12 * k)) (yamW 53 Y ++ T) (isl 0 (52 - 12 * k) (Y.1 k)) := ⟨fun i x hx => by
  have hi : i < 12 := (List.getElem?_eq_some_iff.mp hx).1
  show (yamW 53 Y ++ T)[i + (1 + 12 * k)]? = _
  rw [Nat.add_comm, yam_at hk hi]
  exact isl_zr _ (fun i _ _ => by show 0 + i + (1 + 12 * k) = _; omega) (fun r => by show r + (52 - 12 * k) + (1 + 12 * k) = _; omega) hx, fun i j _ _ h => by
  have h : i + (1 + 12 * k) = j + (1 + 12 * k) := h
  omega⟩
theorem yplA {Y : zY} {k : Nat} (hk : k < 4) (T : zS) (I : zI) : zpl (fun i => i + (1 + 12 * k)) (yamW 53 Y ++ T) 12 (isl 0 (52 - 12 * k) I) (yamW 53 (setJ Y k I) ++ T) := ⟨by simp [yamW_len], fun i x hx => by
  have hi : i < 12 := (List.getElem?_eq_some_iff.mp hx).1
  show (yamW 53 (setJ Y k I) ++ T)[i + (1 + 12 * k)]? = _
  rw [Nat.add_comm, yam_at hk hi, setJ_J]
  exact isl_zr _ (fun i _ _ => by show 0 + i + (1 + 12 * k) = _; omega) (fun r => by show r + (52 - 12 * k) + (1 + 12 * k) = _; omega) hx, fun i hi => by
  refine yam_out hk I ?_ T
  by_cases h1 : i < 1 + 12 * k
  · exact Or.inl h1
  · right
    by_cases h2 : i < 1 + 12 * k + 12
    · exact absurd (show i - (1 + 12 * k) + (1 + 12 * k) = i by omega) (hi (i - (1 + 12 * k)) (by omega))
    · omega⟩
-- an island with the rules
def sgB (k : Nat) : Nat → Nat := fun i => if i < 12 then i + (1 + 12 * k) else i + 41
theorem sgB_lo {k i : Nat} (h : i < 12) : sgB k i = i + (1 + 12 * k) := if_pos h
theorem sgB_hi {k i : Nat} (h : 12 ≤ i) : sgB k i = i + 41 := if_neg (Nat.not_lt.mpr h)
theorem sgB_isl {k : Nat} (I : zI) {i : Nat} {x : zE} (hx : (isl 0 12 I)[i]? = some x) : (isl (1 + 12 * k) 53 I)[i]? = some (zr (sgB k) x) :=
  isl_zr I (fun i _ h => by rw [sgB_lo (by omega)]; omega) (fun r => by rw [sgB_hi (by omega)]) hx
theorem ysbB {Y : zY} {RL : List zRu} {k : Nat} (hk : k < 4) : zsb (sgB k) (yamW 53 Y ++ pol 53 RL) (isl 0 12 (Y.1 k) ++ pol 12 RL) := ⟨fun i x hx => by
  by_cases hi : i < 12
  · rw [List.getElem?_append_left (by rw [isl_len]; exact hi)] at hx
    rw [sgB_lo hi, Nat.add_comm, yam_at hk hi]
    exact sgB_isl _ hx
  · rw [List.getElem?_append_right (by rw [isl_len]; omega), isl_len] at hx
    rw [sgB_hi (by omega), List.getElem?_append_right (by rw [yamW_len]; omega), yamW_len]
    have := pol_zr (σ := sgB k) (RB0 := 12) (RB := 53) (fun r => by rw [sgB_hi (by omega)]) hx
    rw [← this]; congr 1, fun i j _ _ h => by
  unfold sgB at h
  split at h <;> split at h <;> omega⟩
theorem yplB {Y : zY} {RL : List zRu} {k : Nat} (hk : k < 4) (I : zI) : zpl (sgB k) (yamW 53 Y ++ pol 53 RL) (isl 0 12 (Y.1 k) ++ pol 12 RL).length (isl 0 12 I ++ pol 12 RL) (yamW 53 (setJ Y k I) ++ pol 53 RL) := ⟨by simp [yamW_len], fun i x hx => by
  by_cases hi : i < 12
  · rw [List.getElem?_append_left (by rw [isl_len]; exact hi)] at hx
    rw [sgB_lo hi, Nat.add_comm, yam_at hk hi, setJ_J]
    exact sgB_isl _ hx
  · rw [List.getElem?_append_right (by rw [isl_len]; omega), isl_len] at hx
    rw [sgB_hi (by omega), List.getElem?_append_right (by rw [yamW_len]; omega), yamW_len]
    have := pol_zr (σ := sgB k) (RB0 := 12) (RB := 53) (fun r => by rw [sgB_hi (by omega)]) hx
    rw [← this]; congr 1, fun i hi => by
  refine yam_out hk I ?_ _
  by_cases h1 : i < 1 + 12 * k
  · exact Or.inl h1
  · right
    by_cases h2 : i < 1 + 12 * k + 12
    · refine absurd ?_ (hi (i - (1 + 12 * k)) (by rw [List.length_append, isl_len]; omega))
      rw [sgB_lo (by omega)]; omega
    · omega⟩
-- two islands with the rules
def sgC (k1 k2 : Nat) : Nat → Nat := fun i => if i < 12 then i + (1 + 12 * k1) else if i < 24 then i - 12 + (1 + 12 * k2) else i + 29
theorem sgC_1 {k1 k2 i : Nat} (h : i < 12) : sgC k1 k2 i = i + (1 + 12 * k1) := if_pos h
theorem sgC_2 {k1 k2 i : Nat} (h : 12 ≤ i) (h2 : i < 24) : sgC k1 k2 i = i - 12 + (1 + 12 * k2) := by unfold sgC; rw [if_neg (by omega), if_pos h2]
theorem sgC_3 {k1 k2 i : Nat} (h : 24 ≤ i) : sgC k1 k2 i = i + 29 := by unfold sgC; rw [if_neg (by omega), if_neg (by omega)]
theorem ysbC {Y : zY} {RL : List zRu} {k1 k2 : Nat} (h1 : k1 < 4) (h2 : k2 < 4) (hne : k1 ≠ k2) : zsb (sgC k1 k2) (yamW 53 Y ++ pol 53 RL) (isl 0 24 (Y.1 k1) ++ (isl 12 24 (Y.1 k2) ++ pol 24 RL)) := ⟨fun i x hx => by
  by_cases hi : i < 12
  · rw [List.getElem?_append_left (by rw [isl_len]; exact hi)] at hx
    rw [sgC_1 hi, Nat.add_comm, yam_at h1 hi]
    exact isl_zr _ (fun i _ h => by rw [sgC_1 (by omega)]; omega) (fun r => by rw [sgC_3 (by omega)]) hx
  · rw [List.getElem?_append_right (by rw [isl_len]; omega), isl_len] at hx
    by_cases hi2 : i < 24
    · rw [List.getElem?_append_left (by rw [isl_len]; omega)] at hx
      rw [sgC_2 (by omega) hi2, Nat.add_comm, yam_at h2 (by omega)]
      exact isl_zr _ (fun i _ h => by rw [sgC_2 (by omega) (by omega)]; omega) (fun r => by rw [sgC_3 (by omega)]) hx
    · rw [List.getElem?_append_right (by rw [isl_len]; omega), isl_len] at hx
      rw [sgC_3 (by omega), List.getElem?_append_right (by rw [yamW_len]; omega), yamW_len]
      have := pol_zr (σ := sgC k1 k2) (RB0 := 24) (RB := 53) (fun r => by rw [sgC_3 (by omega)]) hx
      rw [← this]; congr 1, fun i j hi hj h => by
  unfold sgC at h
  split at h <;> split at h <;> (try split at h) <;> (try split at h) <;> omega⟩
theorem yplC {Y : zY} {RL : List zRu} {k1 k2 : Nat} (h1 : k1 < 4) (h2 : k2 < 4) (hne : k1 ≠ k2) (I : zI) : zpl (sgC k1 k2) (yamW 53 Y ++ pol 53 RL) (isl 0 24 (Y.1 k1) ++ (isl 12 24 (Y.1 k2) ++ pol 24 RL)).length (isl 0 24 I ++ (isl 12 24 (Y.1 k2) ++ pol 24 RL)) (yamW 53 (setJ Y k1 I) ++ pol 53 RL) := ⟨by simp [yamW_len], fun i x hx => by
  by_cases hi : i < 12
  · rw [List.getElem?_append_left (by rw [isl_len]; exact hi)] at hx
    rw [sgC_1 hi, Nat.add_comm, yam_at h1 hi, setJ_J]
    exact isl_zr _ (fun i _ h => by rw [sgC_1 (by omega)]; omega) (fun r => by rw [sgC_3 (by omega)]) hx
  · have hx0 := hx
    rw [List.getElem?_append_right (by rw [isl_len]; omega), isl_len] at hx
    have hsame : (yamW 53 (setJ Y k1 I) ++ pol 53 RL)[sgC k1 k2 i]? = (yamW 53 Y ++ pol 53 RL)[sgC k1 k2 i]? := by
      refine yam_out h1 I ?_ _
      by_cases hi2 : i < 24
      · rw [sgC_2 (by omega) hi2]; omega
      · rw [sgC_3 (by omega)]; omega
    rw [hsame]
    refine (ysbC h1 h2 hne).1 i x ?_
    rw [List.getElem?_append_right (by rw [isl_len]; omega), isl_len]
    exact hx, fun i hi => by
  refine yam_out h1 I ?_ _
  by_cases g1 : i < 1 + 12 * k1
  · exact Or.inl g1
  · right
    by_cases g2 : i < 1 + 12 * k1 + 12
    · refine absurd ?_ (hi (i - (1 + 12 * k1)) (by rw [List.length_append, isl_len]; omega))
      rw [sgC_1 (by omega)]; omega
    · omega⟩
section YOP
variable {l : Launch} {D : va_G} {C : zC} {d : Nat} {Po : zS → Option Value → Prop} {tab : List (Nat × Instr)} {fl : Nat → Option (Nat × Nat × Nat)} {ki : Nat → Option Int32} {kj : Nat → Option Int64} {Kr : zS → Option Value → Prop} {Z : zP} {own : String}
variable {y' : MethodName} {cc' : ByteArray} {nL' n idx pc d' : Nat} {ret' : Option FieldType} {lv : zL} {As st rest : List Value} {Y : zY} {RL : List zRu}
/-- a call on island k that touches its cells alone -/
theorem zOps.yA (o : zOps l D C own tab fl ki kj d Kr Z) (k : Nat) {Q : zI → Option Value → Prop} (hk : k < 4) (hW : zCV own idx y' cc' nL' ret' n) (hM : zFun l D C y' cc' nL' ret' (zR d') (.ref 0 :: As) (isl 0 (52 - 12 * k) (Y.1 k)) Po) (hP : ∀ w rv, Po w rv → ∃ I, w = isl 0 (52 - 12 * k) I ∧ Q I rv)
    (kk : ∀ (I : zI) (rv : Option Value), Q I rv → Z (pc + 3) (yamW 53 (setJ Y k I) ++ pol 53 RL) lv ((rv.map (zv (fun i => i + (1 + 12 * k)))).toList ++ rest)) (hy : RX0 = y'.cls := by rfl)
    (hd : zfd tab pc = some (.invokevirtual idx) := by rfl) (hst : st = (As.map (zv (fun i => i + (1 + 12 * k)))).reverse ++ .ref (0 + (1 + 12 * k)) :: rest := by rfl) (hn : As.length = n := by rfl) (hrest : (rest.map fun v => v.category).sum ≤ 8 := by exact Nat.le_of_ble_eq_true rfl)
    (hdd : d' < d := by exact Nat.le_of_ble_eq_true rfl) (hL : nL' ≤ 21 := by exact Nat.le_of_ble_eq_true rfl) : Z pc (yamW 53 Y ++ pol 53 RL) lv st :=
  o.cVs (fun i => i + (1 + 12 * k)) hW hM (ysbA hk _) (fun w rv _ h => by
    obtain ⟨I, rfl, hq⟩ := hP w rv h
    exact ⟨_, yplA hk _ I, kk I rv hq⟩) ⟨0, _, _, rfl, rfl, hy⟩ hd hst hn hrest hdd hL
/-- the same, and nothing changes -/
theorem zOps.yAr (o : zOps l D C own tab fl ki kj d Kr Z) (k : Nat) {Q : Option Value → Prop} (hk : k < 4) (hW : zCV own idx y' cc' nL' ret' n) (hM : zFun l D C y' cc' nL' ret' (zR d') (.ref 0 :: As) (isl 0 (52 - 12 * k) (Y.1 k)) (fun w rv => w = isl 0 (52 - 12 * k) (Y.1 k) ∧ Q rv))
    (kk : ∀ (rv : Option Value), Q rv → Z (pc + 3) (yamW 53 Y ++ pol 53 RL) lv ((rv.map (zv (fun i => i + (1 + 12 * k)))).toList ++ rest)) (hy : RX0 = y'.cls := by rfl)
    (hd : zfd tab pc = some (.invokevirtual idx) := by rfl) (hst : st = (As.map (zv (fun i => i + (1 + 12 * k)))).reverse ++ .ref (0 + (1 + 12 * k)) :: rest := by rfl) (hn : As.length = n := by rfl) (hrest : (rest.map fun v => v.category).sum ≤ 8 := by exact Nat.le_of_ble_eq_true rfl)
    (hdd : d' < d := by exact Nat.le_of_ble_eq_true rfl) (hL : nL' ≤ 21 := by exact Nat.le_of_ble_eq_true rfl) : Z pc (yamW 53 Y ++ pol 53 RL) lv st :=
  o.cVs (fun i => i + (1 + 12 * k)) hW hM (ysbA hk _) (fun w rv _ h => by
    obtain ⟨rfl, hq⟩ := h
    exact ⟨_, zpl_same (ysbA hk _), kk rv hq⟩) ⟨0, _, _, rfl, rfl, hy⟩ hd hst hn hrest hdd hL
/-- a call on island k that reads rules -/
theorem zOps.yB (o : zOps l D C own tab fl ki kj d Kr Z) (k : Nat) {Q : zI → Option Value → Prop} (hk : k < 4) (hW : zCV own idx y' cc' nL' ret' n) (hM : zFun l D C y' cc' nL' ret' (zR d') (.ref 0 :: As) (isl 0 12 (Y.1 k) ++ pol 12 RL) Po) (hP : ∀ w rv, Po w rv → ∃ I, w = isl 0 12 I ++ pol 12 RL ∧ Q I rv)
    (kk : ∀ (I : zI) (rv : Option Value), Q I rv → Z (pc + 3) (yamW 53 (setJ Y k I) ++ pol 53 RL) lv ((rv.map (zv (sgB k))).toList ++ rest)) (hy : RX0 = y'.cls := by rfl)
    (hd : zfd tab pc = some (.invokevirtual idx) := by rfl) (hst : st = (As.map (zv (sgB k))).reverse ++ .ref (sgB k 0) :: rest := by rfl) (hn : As.length = n := by rfl) (hrest : (rest.map fun v => v.category).sum ≤ 8 := by exact Nat.le_of_ble_eq_true rfl)
    (hdd : d' < d := by exact Nat.le_of_ble_eq_true rfl) (hL : nL' ≤ 21 := by exact Nat.le_of_ble_eq_true rfl) : Z pc (yamW 53 Y ++ pol 53 RL) lv st :=
  o.cVs (sgB k) hW hM (ysbB hk) (fun w rv _ h => by
    obtain ⟨I, rfl, hq⟩ := hP w rv h
    exact ⟨_, yplB hk I, kk I rv hq⟩) ⟨0, _, _, rfl, rfl, hy⟩ hd hst hn hrest hdd hL
/-- a copy of island k2 into island k1 -/
theorem zOps.yC (o : zOps l D C own tab fl ki kj d Kr Z) (k1 k2 : Nat) {I : zI} {Q : Option Value → Prop} (h1 : k1 < 4) (h2 : k2 < 4) (hne : k1 ≠ k2) (hW : zCV own idx y' cc' nL' ret' 1) (hM : zFun l D C y' cc' nL' ret' (zR d') [.ref 0, .ref 12] (isl 0 24 (Y.1 k1) ++ (isl 12 24 (Y.1 k2) ++ pol 24 RL)) (fun w rv => w = isl 0 24 I ++ (isl 12 24 (Y.1 k2) ++ pol 24 RL) ∧ Q rv))
    (kk : ∀ (rv : Option Value), Q rv → Z (pc + 3) (yamW 53 (setJ Y k1 I) ++ pol 53 RL) lv ((rv.map (zv (sgC k1 k2))).toList ++ rest)) (hy : RX0 = y'.cls := by rfl)
    (hd : zfd tab pc = some (.invokevirtual idx) := by rfl) (hst : st = .ref (sgC k1 k2 12) :: .ref (sgC k1 k2 0) :: rest := by rfl) (hrest : (rest.map fun v => v.category).sum ≤ 8 := by exact Nat.le_of_ble_eq_true rfl)
    (hdd : d' < d := by exact Nat.le_of_ble_eq_true rfl) (hL : nL' ≤ 21 := by exact Nat.le_of_ble_eq_true rfl) : Z pc (yamW 53 Y ++ pol 53 RL) lv st :=
  o.cVs (sgC k1 k2) (As := [.ref 12]) hW hM (ysbC h1 h2 hne) (fun w rv _ h => by
    obtain ⟨rfl, hq⟩ := h
    exact ⟨_, yplC h1 h2 hne I, kk rv hq⟩) ⟨0, _, _, rfl, rfl, hy⟩ hd hst rfl hrest hdd hL
end YOP
end
section
/-! the class's own helpers: refusals, runs in mind -/
def frI (RL : List zRu) (I : zI) (W n y s0 L sh : Nat) (sk v ru : Nat → Nat) (m : Nat) : Int32 := sm (tot n (I.2.1 0) (vI RL I W n y s0 L sh sk v ru) (fun i => sk ((y + i - s0) % L)) (fun _ => nI 0) m) n
def gaI (RL : List zRu) (I : zI) (W n y s0 L sh : Nat) (sk v ru : Nat → Nat) (m : Nat) : Nat → Int32 := tot n (I.2.1 0) (vI RL I W n y s0 L sh sk v ru) (fun i => sk ((y + i - s0) % L)) (fun _ => nI 0) m
def rPart (n a b k : Nat) (ru : Nat → Nat) : Nat → Nat := fun p => if p < n then (if p < k then a else b) else ru p
def rOne (p r : Nat) (ru : Nat → Nat) : Nat → Nat := fun q => if q = p then r else ru q
/-- all rules that an island names are there -/
def okN (RL : List zRu) (I : zI) : Prop := ∀ k, k < 10 → ∀ r, I.2.2 k = some r → r < RL.length
/-- why not: -4 below, -6 above, 0 -/
def whO (x lo hi : Int32) : Int32 := if x < lo then zi (-4) else if hi < x then zi (-6) else nI 0
def whR (x : Int32) (n : Nat) : Int32 := if x < nI 1 then zi (-4) else if nI 60 < x then zi (-6) else if n = 0 then zi (-3) else nI 0
def whW (v hi x : Int32) (n : Nat) : Int32 := if v < 0 then zi (-4) else if whR x n = zi (-4) then zi (-4) else if hi < v then zi (-6) else whR x n
/-- a refusal more -/
def rfu (f : Nat → Int32) (k : Nat) : Nat → Int32 := upd f k (f k + nI 1)
section MM
variable {l : Launch} {D : va_G} {C : zC} {Y : zY} {RL : List zRu}
theorem i0_le {x : Int32} (h : ¬ x < 0) (k : Nat) (h2 : ¬ nI k ≤ x) (hk : k < 2 ^ 31) : ∃ j, j < k ∧ x = nI j := by
  rcases pk_ix x hk with h3 | h3 | h3
  · exact absurd h3 h
  · exact absurd h3 h2
  · exact h3
/-- x is one of 0 .. k-1 -/
def isN (x : Int32) (k : Nat) : Bool := decide (¬ x < 0 ∧ ¬ nI k ≤ x)
theorem isN_t {x : Int32} {k : Nat} (hk : k < 2 ^ 31) (h : isN x k = true) : ∃ j, j < k ∧ x = nI j := by
  have := of_decide_eq_true h
  exact i0_le this.1 k this.2 hk
set_option maxRecDepth 10000 in
theorem c_isWeather {x : Int32} : zFun l D C yX3_isWeather cX3_isWeather 1 (some .boolean) (zR 0) [.int x] [] (fun _ rv => rv = some (.int (zB (isN x 4)))) := by
  refine zFun_of (by decide) oX3_isWeather tbX3 (Nat.le_of_ble_eq_true rfl) (fun Z o => o.run 100 [] ⟨fun h => ⟨zB_rt false, rfl, ?_⟩, fun h => ⟨fun h2 => ⟨zB_rt false, rfl, ?_⟩, fun h2 => ⟨zB_rt true, rfl, ?_⟩⟩⟩)
  · rw [show isN x 4 = false from decide_eq_false (fun q => q.1 h)]; rfl
  · rw [show isN x 4 = false from decide_eq_false (fun q => q.2 h2)]; rfl
  · rw [show isN x 4 = true from decide_eq_true ⟨h, h2⟩]; rfl
set_option maxRecDepth 10000 in
theorem c_isWay {x : Int32} {W : Nat} (e : (Y.1 0).1 0 = nI W) : zFun l D C yX3_isWay cX3_isWay 2 (some .boolean) (zR 0) [.ref 0, .int x] (yamW 53 Y ++ pol 53 RL) (fun w rv => w = yamW 53 Y ++ pol 53 RL ∧ rv = some (.int (zB (isN x W)))) := by
  refine zFun_of (by decide) oX3_isWay tbX3 (Nat.le_of_ble_eq_true rfl) (fun Z o => o.run 100 [] ⟨fun h => ⟨zB_rt false, rfl, rfl, ?_⟩, fun h => ⟨fun h2 => ⟨zB_rt false, rfl, rfl, ?_⟩, fun h2 => ⟨zB_rt true, rfl, rfl, ?_⟩⟩⟩)
  · rw [show isN x W = false from decide_eq_false (fun q => q.1 h)]; rfl
  · have h2 : (Y.1 0).1 0 ≤ x := h2
    rw [e] at h2
    rw [show isN x W = false from decide_eq_false (fun q => q.2 h2)]; rfl
  · have h2 : ¬ (Y.1 0).1 0 ≤ x := h2
    rw [e] at h2
    rw [show isN x W = true from decide_eq_true ⟨h, h2⟩]; rfl
set_option maxRecDepth 10000 in
theorem c_isPerson {x : Int32} {n : Nat} (e : (Y.1 0).1 4 = nI n) : zFun l D C yX3_isPerson cX3_isPerson 2 (some .boolean) (zR 0) [.ref 0, .int x] (yamW 53 Y ++ pol 53 RL) (fun w rv => w = yamW 53 Y ++ pol 53 RL ∧ rv = some (.int (zB (isN x n)))) := by
  refine zFun_of (by decide) oX3_isPerson tbX3 (Nat.le_of_ble_eq_true rfl) (fun Z o => o.run 100 [] ⟨fun h => ⟨zB_rt false, rfl, rfl, ?_⟩, fun h => ⟨fun h2 => ⟨zB_rt false, rfl, rfl, ?_⟩, fun h2 => ⟨zB_rt true, rfl, rfl, ?_⟩⟩⟩)
  · rw [show isN x n = false from decide_eq_false (fun q => q.1 h)]; rfl
  · have h2 : (Y.1 0).1 4 ≤ x := h2
    rw [e] at h2
    rw [show isN x n = false from decide_eq_false (fun q => q.2 h2)]; rfl
  · have h2 : ¬ (Y.1 0).1 4 ≤ x := h2
    rw [e] at h2
    rw [show isN x n = true from decide_eq_true ⟨h, h2⟩]; rfl
set_option maxRecDepth 10000 in
theorem c_isRule {x : Int32} {n : Nat} (e : (Y.1 0).1 3 = nI n) : zFun l D C yX3_isRule cX3_isRule 2 (some .boolean) (zR 0) [.ref 0, .int x] (yamW 53 Y ++ pol 53 RL) (fun w rv => w = yamW 53 Y ++ pol 53 RL ∧ rv = some (.int (zB (isN x n)))) := by
  refine zFun_of (by decide) oX3_isRule tbX3 (Nat.le_of_ble_eq_true rfl) (fun Z o => o.run 100 [] ⟨fun h => ⟨zB_rt false, rfl, rfl, ?_⟩, fun h => ⟨fun h2 => ⟨zB_rt false, rfl, rfl, ?_⟩, fun h2 => ⟨zB_rt true, rfl, rfl, ?_⟩⟩⟩)
  · rw [show isN x n = false from decide_eq_false (fun q => q.1 h)]; rfl
  · have h2 : (Y.1 0).1 3 ≤ x := h2
    rw [e] at h2
    rw [show isN x n = false from decide_eq_false (fun q => q.2 h2)]; rfl
  · have h2 : ¬ (Y.1 0).1 3 ≤ x := h2
    rw [e] at h2
    rw [show isN x n = true from decide_eq_true ⟨h, h2⟩]; rfl
set_option maxRecDepth 10000 in
theorem c_whyOutside {x lo hi : Int32} : zFun l D C yX3_whyOutside cX3_whyOutside 3 (some .int) (zR 0) [.int x, .int lo, .int hi] [] (fun _ rv => rv = some (.int (whO x lo hi))) := by
  refine zFun_of (by decide) oX3_whyOutside tbX3 (Nat.le_of_ble_eq_true rfl) (fun Z o => o.run 100 [] ⟨fun h => ⟨fun h2 => ⟨⟨_, rfl, rfl⟩, rfl, ?_⟩, fun h2 => ⟨⟨_, rfl, rfl⟩, rfl, ?_⟩⟩, fun h => ⟨⟨_, rfl, rfl⟩, rfl, ?_⟩⟩)
  · rw [whO, if_neg (Int32.not_lt.mpr h), if_neg (Int32.not_lt.mpr h2)]; rfl
  · rw [whO, if_neg (Int32.not_lt.mpr h), if_pos (Int32.not_le.mp h2)]
  · rw [whO, if_pos (Int32.not_le.mp h)]
set_option maxRecDepth 10000 in
theorem c_whyNoRun {x : Int32} {n : Nat} (hn : n ≤ 8) (e : (Y.1 0).1 4 = nI n) : zFun l D C yX3_whyNoRun cX3_whyNoRun 3 (some .int) (zR 1) [.ref 0, .int x] (yamW 53 Y ++ pol 53 RL) (fun w rv => w = yamW 53 Y ++ pol 53 RL ∧ rv = some (.int (whR x n))) := by
  refine zFun_of (by decide) oX3_whyNoRun tbX3 (Nat.le_of_ble_eq_true rfl) (fun Z o => o.run 100 [] ?_)
  show Z _ _ _ _
  refine o.cS vX3_67 (c_whyOutside (x := x) (lo := nI 1) (hi := nI 60)) (fun rv hpo => ?_)
  subst hpo
  refine o.run 100 [] ⟨fun h => ⟨⟨_, rfl, rfl⟩, rfl, rfl, ?_⟩, fun h => ⟨fun h2 => ⟨⟨_, rfl, rfl⟩, rfl, rfl, ?_⟩, fun h2 => ⟨⟨_, rfl, rfl⟩, rfl, rfl, ?_⟩⟩⟩
  · congr 2
    unfold whO at h ⊢
    unfold whR
    by_cases g1 : x < nI 1
    · rw [if_pos g1, if_pos g1]
    · rw [if_neg g1] at h ⊢
      rw [if_neg g1]
      by_cases g2 : nI 60 < x
      · rw [if_pos g2, if_pos g2]
      · rw [if_neg g2] at h; exact absurd (by decide) h
  · have h2 : ¬ (Y.1 0).1 4 = 0 := h2
    have hn0 : n ≠ 0 := fun q => h2 (by rw [e, q]; decide)
    congr 2
    unfold whO whR
    rw [if_neg hn0]
  · have h2 : (Y.1 0).1 4 = 0 := h2
    have hn0 : n = 0 := by
      rcases Nat.eq_zero_or_pos n with q | q
      · exact q
      · rw [e] at h2; exact absurd h2 (nI_ne0 q (by omega))
    congr 2
    unfold whO at h
    unfold whR
    by_cases g1 : x < nI 1
    · rw [if_pos g1] at h; exact absurd h (by decide)
    · rw [if_neg g1] at h ⊢
      by_cases g2 : nI 60 < x
      · rw [if_pos g2] at h; exact absurd h (by decide)
      · rw [if_neg g2, if_pos hn0]
set_option maxRecDepth 10000 in
theorem c_whyNoRunWith {v hi x : Int32} {n : Nat} (hn : n ≤ 8) (e : (Y.1 0).1 4 = nI n) : zFun l D C yX3_whyNoRunWith cX3_whyNoRunWith 5 (some .int) (zR 2) [.ref 0, .int v, .int hi, .int x] (yamW 53 Y ++ pol 53 RL) (fun w rv => w = yamW 53 Y ++ pol 53 RL ∧ rv = some (.int (whW v hi x n))) := by
  refine zFun_of (by decide) oX3_whyNoRunWith tbX3 (Nat.le_of_ble_eq_true rfl) (fun Z o => o.run 100 [] ⟨fun h => ?_, fun h => ⟨⟨_, rfl, rfl⟩, rfl, rfl, ?_⟩⟩)
  · show Z _ _ _ _
    refine o.cV vX3_151 (c_whyNoRun (x := x) hn e) (fun w rv _ hpo => ?_)
    obtain ⟨rfl, rfl⟩ := hpo
    refine o.run 100 [] ⟨fun h1 => ⟨⟨_, rfl, rfl⟩, rfl, rfl, ?_⟩, fun h1 => ⟨fun h2 => ⟨⟨_, rfl, rfl⟩, rfl, rfl, ?_⟩, fun h2 => ⟨⟨_, rfl, rfl⟩, rfl, rfl, ?_⟩⟩⟩
    · have h1 : whR x n = zi (-4) := h1
      rw [whW, if_neg (Int32.not_lt.mpr h), if_pos h1, h1]
    · have h1 : ¬ whR x n = zi (-4) := h1
      rw [whW, if_neg (Int32.not_lt.mpr h), if_neg h1, if_neg (Int32.not_lt.mpr h2)]
    · have h1 : ¬ whR x n = zi (-4) := h1
      rw [whW, if_neg (Int32.not_lt.mpr h), if_neg h1, if_pos (Int32.not_le.mp h2)]
  · rw [whW, if_pos (Int32.not_le.mp h)]
set_option maxRecDepth 10000 in
theorem c_refuse {k : Nat} (hk : 0 < k) (hk2 : k < 7) : zFun l D C yX3_refuse cX3_refuse 3 (some .int) (zR 0) [.ref 0, .int (-(nI k))] (yamW 53 Y ++ pol 53 RL) (fun w rv => w = yamW 53 (setY Y 2 (rfu (Y.2.1 2) k)) ++ pol 53 RL ∧ rv = some (.int (-(nI k)))) := by
  refine zFun_of (by decide) oX3_refuse tbX3 (Nat.le_of_ble_eq_true rfl) (fun Z o => ?_)
  have e : - -nI k = nI k := by simp
  refine o.run 100 [] ⟨fun h => ?_, fun h => ⟨fun h2 => ?_, fun h2 => ⟨k, e, hk2, k, e, hk2, ⟨_, rfl, rfl⟩, rfl, rfl, rfl⟩⟩⟩
  · have h : - -nI k ≤ 0 := h
    rw [e] at h
    exact absurd h (nI_nle hk (by omega))
  · have h2 : nI 7 ≤ - -nI k := h2
    rw [e] at h2
    exact absurd h2 (nI_ge hk2 (by omega))
set_option maxRecDepth 10000 in
theorem c_refuseFar {k : Nat} (hk : 0 < k) (hk2 : k < 7) : zFun l D C yX3_refuseFar cX3_refuseFar 2 (some .int) (zR 1) [.ref 0, .int (-(nI k))] (yamW 53 Y ++ pol 53 RL) (fun w rv => w = yamW 53 (setY Y 2 (rfu (Y.2.1 2) k)) ++ pol 53 RL ∧ rv = some (.int (-1000000000 + -(nI k)))) := by
  refine zFun_of (by decide) oX3_refuseFar tbX3 (Nat.le_of_ble_eq_true rfl) (fun Z o => o.run 100 [] ?_)
  show Z _ _ _ _
  refine o.cV (rest := [.int (-1000000000)]) vX3_48 (c_refuse hk hk2) (fun w rv _ hpo => ?_)
  obtain ⟨rfl, rfl⟩ := hpo
  exact o.run 100 [] ⟨⟨_, rfl, rfl⟩, rfl, rfl, rfl⟩
set_option maxRecDepth 10000 in
theorem c_exchange {m j : Nat} {f : Nat → Int32} {x : Int32} (hm : m < 2 ^ 31) (hj : j < m) : zFun l D C yX3_exchange cX3_exchange 4 (some .int) (zR 0) [.ref 0, .int (nI j), .int x] [.inl (0, m, f)] (fun w rv => w = [.inl (0, m, upd f j x)] ∧ rv = some (.int (f j))) := by
  refine zFun_of (by decide) oX3_exchange tbX3 (Nat.le_of_ble_eq_true rfl) (fun Z o => o.run 100 [2] ?_)
  show Z _ _ _ _
  refine o.ial (a := 0) rfl hm hj (o.run 100 [7] ?_)
  show Z _ _ _ _
  refine o.ias (a := 0) rfl hm hj (o.run 100 [] ⟨⟨_, rfl, rfl⟩, rfl, rfl, rfl⟩)
/-- what a run in mind needs of an island -/
def okM (RL : List zRu) (I : zI) (W n y s0 L sh : Nat) (sk v ru : Nat → Nat) (m : Nat) : Prop := okR RL ∧ okI I W n y s0 L sh sk v ru ∧ okL RL I.2.2 n ru ∧ y + m < 2 ^ 30 ∧ okN RL I
set_option maxRecDepth 10000 in
theorem c_faresInMind {W n y s0 L sh m : Nat} {sk v ru : Nat → Nat} (h : okM RL (Y.1 3) W n y s0 L sh sk v ru m) (h5 : (Y.1 3).2.1 5 = fun _ => nI 0) : zFun l D C yX3_faresInMind cX3_faresInMind 2 (some .int) (zR 4) [.ref 0, .int (nI m)] (yamW 53 Y ++ pol 53 RL) (fun w rv => (∃ M, w = yamW 53 (setJ Y 3 M) ++ pol 53 RL) ∧ rv = some (.int (frI RL (Y.1 3) W n y s0 L sh sk v ru m))) := by
  obtain ⟨hR, hI, hl, hy, -⟩ := h
  refine zFun_of (by decide) oX3_faresInMind tbX3 (Nat.le_of_ble_eq_true rfl) (fun Z o => o.run 100 [] ?_)
  show Z _ _ _ _
  refine o.yB 3 (by omega) (Q := fun M rv => aft (Y.1 3) M (y + m) (vI RL (Y.1 3) W n y s0 L sh sk v ru m) (tI RL (Y.1 3) W n y s0 L sh sk v ru m) ∧ rv = none) vX3_154 (c_passYears hR hI hl hy) (fun w rv hpo => ?_) (fun M rv hq => ?_)
  · obtain ⟨⟨M, rfl, ha⟩, rfl⟩ := hpo
    exact ⟨M, rfl, ha, rfl⟩
  · obtain ⟨ha, rfl⟩ := hq
    have e4 : M.1 4 = nI n := by rw [ha.1, ← hI.2.1.1]; rfl
    refine o.run 100 [] ?_
    show Z _ _ _ _
    refine o.yAr 3 (Y := setJ Y 3 M) (by omega) vX3_217 (c_allBrought (I := M) hI.2.1.2 e4) (fun rv hpo => ?_)
    subst hpo
    refine o.run 100 [] ⟨⟨_, rfl, rfl⟩, rfl, ⟨M, rfl⟩, ?_⟩
    rw [ha.2.2.2.2, frI]
    show some (Value.int (sm (tot n ((Y.1 3).2.1 0) _ _ ((Y.1 3).2.1 5) m) n)) = _
    rw [h5]
set_option maxRecDepth 10000 in
theorem c_faresNow {W n y s0 L sh m : Nat} {sk v ru : Nat → Nat} (h : okM RL (Y.1 0) W n y s0 L sh sk v ru m) : zFun l D C yX3_faresNow cX3_faresNow 2 (some .int) (zR 5) [.ref 0, .int (nI m)] (yamW 53 Y ++ pol 53 RL) (fun w rv => (∃ M, w = yamW 53 (setJ Y 3 M) ++ pol 53 RL) ∧ rv = some (.int (frI RL (Y.1 0) W n y s0 L sh sk v ru m))) := by
  refine zFun_of (by decide) oX3_faresNow tbX3 (Nat.le_of_ble_eq_true rfl) (fun Z o => o.run 100 [] ?_)
  show Z _ _ _ _
  refine o.yC 3 0 (by omega) (by omega) (by omega) vX3_163 (c_imagine (I := Y.1 3) h.2.2.2.2) (fun rv hpo => ?_)
  subst hpo
  refine o.run 100 [] ?_
  show Z _ _ _ _
  refine o.cV vX3_204 (c_faresInMind (Y := setJ Y 3 (imI (Y.1 3) (Y.1 0))) (W := W) (n := n) (y := y) (s0 := s0) (L := L) (sh := sh) (m := m) (sk := sk) (v := v) (ru := ru) h rfl) (fun w rv _ hpo => ?_)
  obtain ⟨⟨M, rfl⟩, rfl⟩ := hpo
  exact o.run 100 [] ⟨⟨_, rfl, rfl⟩, rfl, ⟨M, rfl⟩, rfl⟩
theorem okL_part {RL : List zRu} {I : zI} {n a b k : Nat} {ru : Nat → Nat} {ra rb : Nat} (ha : I.2.2 a = some ra ∧ ra < RL.length) (hb : I.2.2 b = some rb ∧ rb < RL.length) : okL RL I.2.2 n (rPart n a b k ru) := fun p hp => by
  unfold rPart
  rw [if_pos hp]
  split
  · exact ⟨ra, ha⟩
  · exact ⟨rb, hb⟩
theorem okI_part {I : zI} {W n y s0 L sh a b k : Nat} {sk v ru : Nat → Nat} (h : okI I W n y s0 L sh sk v ru) (ha : a < 10) (hb : b < 10) : okI (setA I 3 (mix n (fun p => if p < k then nI a else nI b) (I.2.1 3))) W n y s0 L sh sk v (rPart n a b k ru) := by
  obtain ⟨h1, h2, h3, h4, h5, h6, h7, h8⟩ := h
  refine ⟨h1, h2, h3, h4, h5, h6, h7, fun j => ?_⟩
  show mix n (fun p => if p < k then nI a else nI b) (I.2.1 3) j = nI (rPart n a b k ru j) ∧ _
  unfold rPart
  by_cases hj : j < n
  · rw [mix_lt hj, if_pos hj]
    split <;> exact ⟨rfl, by omega⟩
  · rw [mix_ge (by omega), if_neg hj]
    exact h8 j
set_option maxRecDepth 10000 in
theorem c_faresInParts {W n y s0 L sh m a b k ra rb : Nat} {sk v ru : Nat → Nat} (h : okM RL (Y.1 0) W n y s0 L sh sk v ru m) (ha : a < 10) (hb : b < 10) (hk : k ≤ 8) (hra : (Y.1 0).2.2 a = some ra ∧ ra < RL.length) (hrb : (Y.1 0).2.2 b = some rb ∧ rb < RL.length) : zFun l D C yX3_faresInParts cX3_faresInParts 5 (some .int) (zR 5) [.ref 0, .int (nI a), .int (nI b), .int (nI k), .int (nI m)] (yamW 53 Y ++ pol 53 RL) (fun w rv => (∃ M, w = yamW 53 (setJ Y 3 M) ++ pol 53 RL) ∧ rv = some (.int (frI RL (Y.1 0) W n y s0 L sh sk v (rPart n a b k ru) m))) := by
  refine zFun_of (by decide) oX3_faresInParts tbX3 (Nat.le_of_ble_eq_true rfl) (fun Z o => o.run 100 [] ?_)
  show Z _ _ _ _
  refine o.yC 3 0 (by omega) (by omega) (by omega) vX3_163 (c_imagine (I := Y.1 3) h.2.2.2.2) (fun rv hpo => ?_)
  subst hpo
  refine o.run 100 [] ?_
  show Z _ _ _ _
  refine o.yA 3 (Y := setJ Y 3 (imI (Y.1 3) (Y.1 0))) (Q := fun M rv => M = setA (imI (Y.1 3) (Y.1 0)) 3 (mix n (fun p => if p < k then nI a else nI b) ((Y.1 0).2.1 3)) ∧ rv = none) (by omega) vX3_222 (c_liveInParts (I := imI (Y.1 3) (Y.1 0)) (a := nI a) (b := nI b) (k := k) h.2.1.2.1.2 (by omega) h.2.1.2.1.1) (fun w rv hpo => ⟨_, hpo.1, rfl, hpo.2⟩) (fun M rv hq => ?_)
  obtain ⟨rfl, rfl⟩ := hq
  refine o.run 100 [] ?_
  show Z _ _ _ _
  refine o.cV vX3_204 (c_faresInMind (Y := setJ Y 3 (setA (imI (Y.1 3) (Y.1 0)) 3 (mix n (fun p => if p < k then nI a else nI b) ((Y.1 0).2.1 3)))) (W := W) (n := n) (y := y) (s0 := s0) (L := L) (sh := sh) (m := m) (sk := sk) (v := v) (ru := rPart n a b k ru) ⟨h.1, okI_part (I := imI (Y.1 3) (Y.1 0)) h.2.1 ha hb, okL_part (I := Y.1 0) hra hrb, h.2.2.2.1, h.2.2.2.2⟩ rfl) (fun w rv _ hpo => ?_)
  obtain ⟨⟨M, rfl⟩, rfl⟩ := hpo
  exact o.run 100 [] ⟨⟨_, rfl, rfl⟩, rfl, ⟨M, rfl⟩, rfl⟩
end MM
end
section
/-! who gains; parts at rest -/
def skE (L x y : Nat) (sk : Nat → Nat) : Nat → Nat := fun j => if j < L then x else if L ≤ j ∧ j < L + L then y else sk j
def allN (f : Nat → Bool) : Nat → Bool
  | 0 => true
  | k + 1 => allN f k && f k
def fnd (f : Nat → Bool) : Nat → Nat → Option Nat
  | 0, _ => none
  | c + 1, k => if f k = true then some k else fnd f c (k + 1)
def fndI : Option Nat → Int32
  | some k => nI k
  | none => zi (-9)
theorem okI_one {I : zI} {W n y s0 L sh p r : Nat} {sk v ru : Nat → Nat} (h : okI I W n y s0 L sh sk v ru) (hr : r < 10) : okI (setA I 3 (upd (I.2.1 3) p (nI r))) W n y s0 L sh sk v (rOne p r ru) := by
  obtain ⟨h1, h2, h3, h4, h5, h6, h7, h8⟩ := h
  refine ⟨h1, h2, h3, h4, h5, h6, h7, fun j => ?_⟩
  show upd (I.2.1 3) p (nI r) j = nI (rOne p r ru j) ∧ _
  unfold upd rOne
  by_cases hj : j = p
  · rw [if_pos hj, if_pos hj]; exact ⟨rfl, hr⟩
  · rw [if_neg hj, if_neg hj]; exact h8 j
theorem okL_one {RL : List zRu} {rl : Nat → Option Nat} {n p r ra : Nat} {ru : Nat → Nat} (h : okL RL rl n ru) (hr : rl r = some ra ∧ ra < RL.length) : okL RL rl n (rOne p r ru) := fun q hq => by
  unfold rOne
  split
  · exact ⟨ra, hr⟩
  · exact h q hq
theorem allN_false {f : Nat → Bool} {p : Nat} : ∀ {n : Nat}, p < n → f p = false → allN f n = false
  | 0, h, _ => absurd h (Nat.not_lt_zero _)
  | n + 1, h, hf => by
    unfold allN
    by_cases hp : p = n
    · subst hp; rw [hf, Bool.and_false]
    · rw [allN_false (by omega) hf, Bool.false_and]
/-- the place of the greatest among 0 .. k, of several the least -/
def amx (f : Nat → Int32) : Nat → Nat
  | 0 => 0
  | k + 1 => if f (amx f k) < f (k + 1) then k + 1 else amx f k
section GN
variable {l : Launch} {D : va_G} {C : zC} {Y : zY} {RL : List zRu}
set_option maxRecDepth 10000 in
theorem c_faresUnder {W n y s0 L sh m T x z r ra : Nat} {sk v ru : Nat → Nat} (h : okM RL (Y.1 0) W n y s0 L sh sk v ru m) (hT : T ≤ 12) (hT0 : 0 < T) (hx : x < 4) (hz : z < 4) (hr : r < 10) (hra : (Y.1 0).2.2 r = some ra ∧ ra < RL.length) : zFun l D C yX3_faresUnder cX3_faresUnder 6 (some .int) (zR 5) [.ref 0, .int (nI T), .int (nI x), .int (nI z), .int (nI r), .int (nI m)] (yamW 53 Y ++ pol 53 RL) (fun w rv => (∃ M, w = yamW 53 (setJ Y 3 M) ++ pol 53 RL) ∧ rv = some (.int (frI RL (Y.1 0) W n y y (2 * T) sh (skE T x z sk) v (rPart n r r 0 ru) m))) := by
  refine zFun_of (by decide) oX3_faresUnder tbX3 (Nat.le_of_ble_eq_true rfl) (fun Z o => o.run 100 [] ?_)
  show Z _ _ _ _
  refine o.yC 3 0 (by omega) (by omega) (by omega) vX3_163 (c_imagine (I := Y.1 3) h.2.2.2.2) (fun rv hpo => ?_)
  subst hpo
  refine o.run 100 [] ?_
  show Z _ _ _ _
  refine o.yA 3 (Y := setJ Y 3 (imI (Y.1 3) (Y.1 0))) (Q := fun M rv => M = setS (setS (setA (imI (Y.1 3) (Y.1 0)) 1 (tsk T T (nI x) (nI z) ((Y.1 0).2.1 1))) 1 (nI (2 * T))) 2 ((Y.1 0).1 5) ∧ rv = none) (by omega) vX3_226 (c_turnSky (I := imI (Y.1 3) (Y.1 0)) (L := T) (x := nI x) (y := nI z) hT) (fun w rv hpo => ⟨_, hpo.1, rfl, hpo.2⟩) (fun M rv hq => ?_)
  obtain ⟨hM, rfl⟩ := hq
  have e4 : M.1 4 = nI n := by rw [hM]; exact h.2.1.2.1.1
  refine o.run 100 [] ?_
  show Z _ _ _ _
  refine o.yA 3 (Y := setJ Y 3 M) (Q := fun M' rv => M' = setA M 3 (mix n (fun p => if p < 0 then nI r else nI r) (M.2.1 3)) ∧ rv = none) (by omega) vX3_222 (c_liveInParts (I := M) (a := nI r) (b := nI r) (k := 0) h.2.1.2.1.2 (by omega) e4) (fun w rv hpo => ⟨_, hpo.1, rfl, hpo.2⟩) (fun M' rv hq => ?_)
  obtain ⟨hM', rfl⟩ := hq
  have hI : okI M W n y y (2 * T) sh (skE T x z sk) v ru := by
    obtain ⟨h1, h2, h3, h4, h5, h6, h7, h8⟩ := h.2.1
    rw [hM]
    refine ⟨h1, h2, ⟨h3.1, h3.1, Nat.le_refl _⟩, ⟨rfl, by omega, by omega⟩, h5, fun j => ?_, h7, h8⟩
    show tsk T T (nI x) (nI z) ((Y.1 0).2.1 1) j = nI (skE T x z sk j) ∧ _
    unfold tsk skE
    split
    · exact ⟨rfl, hx⟩
    · split
      · exact ⟨rfl, hz⟩
      · exact h6 j
  have hr2 : M.2.2 = (Y.1 0).2.2 := by rw [hM]; rfl
  refine o.run 100 [] ?_
  show Z _ _ _ _
  refine o.cV vX3_204 (c_faresInMind (Y := setJ Y 3 M') (W := W) (n := n) (y := y) (s0 := y) (L := 2 * T) (sh := sh) (m := m) (sk := skE T x z sk) (v := v) (ru := rPart n r r 0 ru) ⟨h.1, ?_, ?_, h.2.2.2.1, ?_⟩ ?_) (fun w rv _ hpo => ?_)
  · show okI M' _ _ _ _ _ _ _ _ _
    rw [hM']
    exact okI_part hI hr hr
  · show okL RL M'.2.2 n _
    rw [hM']
    refine okL_part (I := M) (ra := ra) (rb := ra) ?_ ?_
    · rw [hr2]; exact hra
    · rw [hr2]; exact hra
  · show okN RL M'
    rw [hM']
    show ∀ k, k < 10 → ∀ r, M.2.2 k = some r → r < RL.length
    rw [hr2]
    exact h.2.2.2.2
  · show M'.2.1 5 = _
    rw [hM', hM]; rfl
  obtain ⟨⟨M2, rfl⟩, rfl⟩ := hpo
  refine o.run 100 [] ⟨⟨_, rfl, rfl⟩, rfl, ⟨M2, rfl⟩, ?_⟩
  show some (Value.int (frI RL M' W n y y (2 * T) sh (skE T x z sk) v (rPart n r r 0 ru) m)) = _
  rw [hM', hM]
  rfl
set_option maxRecDepth 10000 in
theorem c_broughtBy {W n y s0 L sh m k p r ra : Nat} {sk v ru : Nat → Nat} (hk : k < 3) (h : okM RL (Y.1 k) W n y s0 L sh sk v ru m) (hp : p < n) (hr : r < 10) (hra : (Y.1 k).2.2 r = some ra ∧ ra < RL.length) : zFun l D C yX3_broughtBy cX3_broughtBy 5 (some .int) (zR 4) [.ref 0, .ref (1 + 12 * k), .int (nI p), .int (nI r), .int (nI m)] (yamW 53 Y ++ pol 53 RL) (fun w rv => (∃ M, w = yamW 53 (setJ Y 3 M) ++ pol 53 RL) ∧ rv = some (.int (gaI RL (Y.1 k) W n y s0 L sh sk v (rOne p r ru) m p))) := by
  have hn : n ≤ 8 := h.2.1.2.1.2
  refine zFun_of (by decide) oX3_broughtBy tbX3 (Nat.le_of_ble_eq_true rfl) (fun Z o => o.run 100 [] ?_)
  show Z _ _ _ _
  refine o.yC 3 k (by omega) (by omega) (by omega) vX3_163 (c_imagine (I := Y.1 3) h.2.2.2.2) (fun rv hpo => ?_) (hst := by rw [sgC_2 (by omega) (by omega), show 12 - 12 + (1 + 12 * k) = 1 + 12 * k by omega]; rfl)
  subst hpo
  refine o.run 100 [] ⟨p, rfl, by omega, ?_⟩
  show Z 24 (yamW 53 (setJ Y 3 (setA (imI (Y.1 3) (Y.1 k)) 3 (upd ((Y.1 k).2.1 3) p (nI r)))) ++ pol 53 RL) _ [.int (nI m), .ref 37]
  have hI : okI (setA (imI (Y.1 3) (Y.1 k)) 3 (upd ((Y.1 k).2.1 3) p (nI r))) W n y s0 L sh sk v (rOne p r ru) := okI_one (I := imI (Y.1 3) (Y.1 k)) h.2.1 hr
  refine o.yB 3 (Y := setJ Y 3 (setA (imI (Y.1 3) (Y.1 k)) 3 (upd ((Y.1 k).2.1 3) p (nI r)))) (by omega) (Q := fun M rv => M.2.1 5 = gaI RL (Y.1 k) W n y s0 L sh sk v (rOne p r ru) m ∧ rv = none) vX3_154 (c_passYears (I := setA (imI (Y.1 3) (Y.1 k)) 3 (upd ((Y.1 k).2.1 3) p (nI r))) h.1 hI (okL_one h.2.2.1 hra) h.2.2.2.1) (fun w rv hpo => ?_) (fun M rv hq => ?_)
  · obtain ⟨⟨M, rfl, ha⟩, rfl⟩ := hpo
    exact ⟨M, rfl, ha.2.2.2.2, rfl⟩
  · obtain ⟨ha, rfl⟩ := hq
    refine o.run 100 [] ⟨p, rfl, by omega, ⟨_, rfl, rfl⟩, rfl, ⟨M, rfl⟩, ?_⟩
    rw [← ha]
    rfl
set_option maxRecDepth 10000 in
theorem c_learnOwn {W n y s0 L sh m k : Nat} {sk v ru : Nat → Nat} (hk : k < 3) (h : okM RL (Y.1 k) W n y s0 L sh sk v ru m) : zFun l D C yX3_learnOwn cX3_learnOwn 3 none (zR 4) [.ref 0, .ref (1 + 12 * k), .int (nI m)] (yamW 53 Y ++ pol 53 RL) (fun w rv => (∃ M, w = yamW 53 (setY (setJ Y 3 M) 0 (gaI RL (Y.1 k) W n y s0 L sh sk v ru m)) ++ pol 53 RL) ∧ rv = none) := by
  refine zFun_of (by decide) oX3_learnOwn tbX3 (Nat.le_of_ble_eq_true rfl) (fun Z o => o.run 100 [] ?_)
  show Z _ _ _ _
  refine o.yC 3 k (by omega) (by omega) (by omega) vX3_163 (c_imagine (I := Y.1 3) h.2.2.2.2) (fun rv hpo => ?_) (hst := by rw [sgC_2 (by omega) (by omega), show 12 - 12 + (1 + 12 * k) = 1 + 12 * k by omega]; rfl)
  subst hpo
  refine o.run 100 [] ?_
  show Z _ _ _ _
  refine o.yB 3 (Y := setJ Y 3 (imI (Y.1 3) (Y.1 k))) (by omega) (Q := fun M rv => M.2.1 5 = gaI RL (Y.1 k) W n y s0 L sh sk v ru m ∧ rv = none) vX3_154 (c_passYears (I := imI (Y.1 3) (Y.1 k)) h.1 h.2.1 h.2.2.1 h.2.2.2.1) (fun w rv hpo => ?_) (fun M rv hq => ?_)
  · obtain ⟨⟨M, rfl, ha⟩, rfl⟩ := hpo
    exact ⟨M, rfl, ha.2.2.2.2, rfl⟩
  · obtain ⟨ha, rfl⟩ := hq
    refine o.run 100 [] ?_
    show Z 31 (yamW 53 (setJ Y 3 M) ++ pol 53 RL) _ [.int (nI 8), .int (nI 0), .ref 49, .int (nI 0), .ref 44]
    refine o.cp (a0 := 44) (a1 := 49) (n0 := 8) (n1 := 8) (f := M.2.1 5) (g := Y.2.1 0) 0 0 8 cpX3 rfl rfl (by omega) (by omega) (by omega) (by omega) ?_
    refine o.xi 49 (gaI RL (Y.1 k) W n y s0 L sh sk v ru m) rfl (fun j hj => by rw [cpy_mix, mix_lt hj, ha]) (o.run 100 [] ⟨rfl, rfl, ⟨M, rfl⟩, rfl⟩)
/-- nobody gains by the other rule -/
def nbG (RL : List zRu) (I : zI) (W n y s0 L sh : Nat) (sk v ru : Nat → Nat) (a b k m : Nat) (p : Nat) : Bool :=
  decide (¬ gaI RL I W n y s0 L sh sk v ru m p < gaI RL I W n y s0 L sh sk v (rOne p (if p < k then b else a) ru) m p)
set_option maxRecDepth 10000 in
theorem c_nobodyGains {W n y s0 L sh m a b k ra rb : Nat} {sk v ru : Nat → Nat} (h : okM RL (Y.1 2) W n y s0 L sh sk v ru m) (ha : a < 10) (hb : b < 10) (hk : k ≤ 8) (hra : (Y.1 2).2.2 a = some ra ∧ ra < RL.length) (hrb : (Y.1 2).2.2 b = some rb ∧ rb < RL.length) : zFun l D C yX3_nobodyGains cX3_nobodyGains 6 (some .boolean) (zR 5) [.ref 0, .int (nI a), .int (nI b), .int (nI k), .int (nI m)] (yamW 53 Y ++ pol 53 RL) (fun w rv => (∃ M g, w = yamW 53 (setY (setJ Y 3 M) 0 g) ++ pol 53 RL) ∧ rv = some (.int (zB (allN (nbG RL (Y.1 2) W n y s0 L sh sk v ru a b k m) n)))) := by
  have hn : n ≤ 8 := h.2.1.2.1.2
  have e4 : (Y.1 2).1 4 = nI n := h.2.1.2.1.1
  refine zFun_of (by decide) oX3_nobodyGains tbX3 (Nat.le_of_ble_eq_true rfl) (fun Z o => ?_)
  let own := gaI RL (Y.1 2) W n y s0 L sh sk v ru m
  let nb := nbG RL (Y.1 2) W n y s0 L sh sk v ru a b k m
  have loop : ∀ j p, p + j = n → allN nb p = true → ∀ M, Z 13 (yamW 53 (setY (setJ Y 3 M) 0 own) ++ pol 53 RL) [some (.ref 0), some (.int (nI a)), some (.int (nI b)), some (.int (nI k)), some (.int (nI m)), some (.int (nI p))] [] := by
    intro j
    induction j with
    | zero =>
      intro p hp hal M
      obtain rfl : p = n := by omega
      refine o.run 100 [] ⟨fun _ => ⟨zB_rt true, rfl, ⟨M, own, rfl⟩, ?_⟩, fun h => absurd (by show (Y.1 2).1 4 ≤ _; rw [e4]; exact nI_le (Nat.le_refl _) (by omega)) h⟩
      rw [show allN (nbG RL (Y.1 2) W p y s0 L sh sk v ru a b k m) p = true from hal]; rfl
    | succ j ih =>
      intro p hp hal M
      have go : ∀ r rr, (if p < k then b else a) = r → r < 10 → (Y.1 2).2.2 r = some rr ∧ rr < RL.length → Z 45 (yamW 53 (setY (setJ Y 3 M) 0 own) ++ pol 53 RL) [some (.ref 0), some (.int (nI a)), some (.int (nI b)), some (.int (nI k)), some (.int (nI m)), some (.int (nI p))] [.int (nI m), .int (nI r), .int (nI p), .ref 25, .ref 0] := by
        intro r rr hr hr10 hrr
        refine o.cV (As := [.ref 25, .int (nI p), .int (nI r), .int (nI m)]) vX3_177 (c_broughtBy (Y := setY (setJ Y 3 M) 0 own) (k := 2) (p := p) (r := r) (ra := rr) (by omega) h (by omega) hr10 hrr) (fun w rv _ hpo => ?_)
        obtain ⟨⟨M2, rfl⟩, rfl⟩ := hpo
        refine o.run 100 [13] ⟨p, rfl, by omega, fun h1 => ?_, fun h1 => ⟨zB_rt false, rfl, ⟨M2, own, rfl⟩, ?_⟩⟩
        · have hnb : nb p = true := by
            refine decide_eq_true ?_
            rw [hr]
            exact Int32.not_lt.mpr h1
          have := ih (p + 1) (by omega) (by rw [allN, hal, hnb]; rfl) M2
          rw [← nI_1 p] at this
          exact this
        · have hnb : nb p = false := by
            refine decide_eq_false ?_
            rw [hr]
            exact fun q => q (Int32.not_le.mp h1)
          rw [show allN (nbG RL (Y.1 2) W n y s0 L sh sk v ru a b k m) n = false from allN_false (show p < n by omega) hnb]; rfl
      refine o.run 100 [45] ⟨fun h => absurd h (by show ¬ (Y.1 2).1 4 ≤ _; rw [e4]; exact nI_ge (by omega) (by omega)), fun _ => ⟨fun h1 => ?_, fun h1 => ?_⟩⟩
      · rw [nI_leI (by omega) (by omega)] at h1
        exact go a ra (if_neg (by omega)) ha hra
      · rw [nI_leI (by omega) (by omega)] at h1
        exact go b rb (if_pos (by omega)) hb hrb
  refine o.run 100 [] ?_
  show Z _ _ _ _
  refine o.cV (As := [.ref 25, .int (nI m)]) vX3_181 (c_learnOwn (k := 2) (by omega) h) (fun w rv _ hpo => ?_)
  obtain ⟨⟨M, rfl⟩, rfl⟩ := hpo
  exact o.run 100 [13] (loop n 0 (by omega) rfl M)
set_option maxRecDepth 10000 in
theorem c_partAtRest {W n y s0 L sh m a b ra rb : Nat} {sk v ru : Nat → Nat} (h : okM RL (Y.1 0) W n y s0 L sh sk v ru m) (ha : a < 10) (hb : b < 10) (hra : (Y.1 0).2.2 a = some ra ∧ ra < RL.length) (hrb : (Y.1 0).2.2 b = some rb ∧ rb < RL.length) : zFun l D C yX3_partAtRest cX3_partAtRest 5 (some .int) (zR 6) [.ref 0, .int (nI a), .int (nI b), .int (nI m)] (yamW 53 Y ++ pol 53 RL) (fun w rv => (∃ P M g, w = yamW 53 (setY (setJ (setJ Y 2 P) 3 M) 0 g) ++ pol 53 RL) ∧ rv = some (.int (fndI (fnd (fun k => allN (nbG RL (Y.1 0) W n y s0 L sh sk v (rPart n a b k ru) a b k m) n) (n + 1) 0)))) := by
  have hn : n ≤ 8 := h.2.1.2.1.2
  have e4 : (Y.1 0).1 4 = nI n := h.2.1.2.1.1
  refine zFun_of (by decide) oX3_partAtRest tbX3 (Nat.le_of_ble_eq_true rfl) (fun Z o => ?_)
  let f : Nat → Bool := fun k => allN (nbG RL (Y.1 0) W n y s0 L sh sk v (rPart n a b k ru) a b k m) n
  have loop : ∀ j k, k + j = n + 1 → fnd f j k = fnd f (n + 1) 0 → ∀ P M g, Z 3 (yamW 53 (setY (setJ (setJ Y 2 P) 3 M) 0 g) ++ pol 53 RL) [some (.ref 0), some (.int (nI a)), some (.int (nI b)), some (.int (nI m)), some (.int (nI k))] [] := by
    intro j
    induction j with
    | zero =>
      intro k hk hf P M g
      obtain rfl : k = n + 1 := by omega
      refine o.run 100 [] ⟨fun _ => ⟨⟨_, rfl, rfl⟩, rfl, ⟨P, M, g, rfl⟩, ?_⟩, fun h => absurd (by show (Y.1 0).1 4 < _; rw [e4]; exact nI_lt (by omega) (by omega)) h⟩
      rw [show fnd (fun k => allN (nbG RL (Y.1 0) W n y s0 L sh sk v (rPart n a b k ru) a b k m) n) (n + 1) 0 = none from hf.symm]; rfl
    | succ j ih =>
      intro k hk hf P M g
      refine o.run 100 [] ⟨fun h => absurd h (by show ¬ (Y.1 0).1 4 < _; rw [e4]; exact nI_nlt (by omega) (by omega)), fun _ => ?_⟩
      show Z _ _ _ _
      refine o.yC 2 0 (Y := setY (setJ (setJ Y 2 P) 3 M) 0 g) (by omega) (by omega) (by omega) vX3_163 (c_imagine (I := P) h.2.2.2.2) (fun rv hpo => ?_)
      subst hpo
      refine o.run 100 [] ?_
      show Z 34 (yamW 53 (setY (setJ (setJ Y 2 (imI P (Y.1 0))) 3 M) 0 g) ++ pol 53 RL) _ _
      refine o.yA 2 (Y := setY (setJ (setJ Y 2 (imI P (Y.1 0))) 3 M) 0 g) (Q := fun M rv => M = setA (imI P (Y.1 0)) 3 (mix n (fun p => if p < k then nI a else nI b) ((Y.1 0).2.1 3)) ∧ rv = none) (by omega) vX3_222 (c_liveInParts (I := imI P (Y.1 0)) (a := nI a) (b := nI b) (k := k) hn (by omega) e4) (fun w rv hpo => ⟨_, hpo.1, rfl, hpo.2⟩) (fun Q rv hq => ?_)
      obtain ⟨rfl, rfl⟩ := hq
      refine o.run 100 [] ?_
      show Z 43 (yamW 53 (setY (setJ (setJ Y 2 (setA (imI P (Y.1 0)) 3 (mix n (fun p => if p < k then nI a else nI b) ((Y.1 0).2.1 3)))) 3 M) 0 g) ++ pol 53 RL) _ _
      refine o.cV vX3_229 (c_nobodyGains (Y := setY (setJ (setJ Y 2 (setA (imI P (Y.1 0)) 3 (mix n (fun p => if p < k then nI a else nI b) ((Y.1 0).2.1 3)))) 3 M) 0 g) (W := W) (n := n) (y := y) (s0 := s0) (L := L) (sh := sh) (m := m) (sk := sk) (v := v) (ru := rPart n a b k ru) (k := k) ⟨h.1, okI_part (I := imI P (Y.1 0)) h.2.1 ha hb, okL_part (I := Y.1 0) hra hrb, h.2.2.2.1, h.2.2.2.2⟩ ha hb (by omega) hra hrb) (fun w rv _ hpo => ?_)
      obtain ⟨⟨M2, g2, rfl⟩, rfl⟩ := hpo
      refine o.run 100 [3] ⟨fun h1 => ?_, fun h1 => ⟨⟨_, rfl, rfl⟩, rfl, ⟨_, M2, g2, rfl⟩, ?_⟩⟩
      · have hfk : f k = false := (zB_0 _).mp h1
        have := ih (k + 1) (by omega) (by rw [← hf, fnd, hfk]; rfl) (setA (imI P (Y.1 0)) 3 (mix n (fun p => if p < k then nI a else nI b) ((Y.1 0).2.1 3))) M2 g2
        rw [← nI_1 k] at this
        exact this
      · have hfk : f k = true := by
          cases hq : f k with
          | true => rfl
          | false => exact absurd ((zB_0 _).mpr hq) h1
        have : fnd f (n + 1) 0 = some k := by rw [← hf, fnd, if_pos hfk]
        rw [show fnd (fun k => allN (nbG RL (Y.1 0) W n y s0 L sh sk v (rPart n a b k ru) a b k m) n) (n + 1) 0 = some k from this]; rfl
  exact o.run 100 [3] (loop (n + 1) 0 (by omega) rfl (Y.1 2) (Y.1 3) (Y.2.1 0))
set_option maxRecDepth 10000 in
theorem c_bestPart {W n y s0 L sh m a b ra rb : Nat} {sk v ru : Nat → Nat} (h : okM RL (Y.1 0) W n y s0 L sh sk v ru m) (ha : a < 10) (hb : b < 10) (hra : (Y.1 0).2.2 a = some ra ∧ ra < RL.length) (hrb : (Y.1 0).2.2 b = some rb ∧ rb < RL.length) (hpos : 0 ≤ frI RL (Y.1 0) W n y s0 L sh sk v (rPart n a b 0 ru) m) : zFun l D C yX3_bestPart cX3_bestPart 8 (some .int) (zR 6) [.ref 0, .int (nI a), .int (nI b), .int (nI m)] (yamW 53 Y ++ pol 53 RL) (fun w rv => (∃ M, w = yamW 53 (setJ Y 3 M) ++ pol 53 RL) ∧ rv = some (.int (nI (amx (fun k => frI RL (Y.1 0) W n y s0 L sh sk v (rPart n a b k ru) m) n)))) := by
  have hn : n ≤ 8 := h.2.1.2.1.2
  have e4 : (Y.1 0).1 4 = nI n := h.2.1.2.1.1
  refine zFun_of (by decide) oX3_bestPart tbX3 (Nat.le_of_ble_eq_true rfl) (fun Z o => ?_)
  let f : Nat → Int32 := fun k => frI RL (Y.1 0) W n y s0 L sh sk v (rPart n a b k ru) m
  have loop : ∀ j k, k + j = n → ∀ x7 M, Z 9 (yamW 53 (setJ Y 3 M) ++ pol 53 RL) [some (.ref 0), some (.int (nI a)), some (.int (nI b)), some (.int (nI m)), some (.int (nI (amx f k))), some (.int (f (amx f k))), some (.int (nI (k + 1))), x7] [] := by
    intro j
    induction j with
    | zero =>
      intro k hk x7 M
      obtain rfl : k = n := by omega
      exact o.run 100 [] ⟨fun _ => ⟨⟨_, rfl, rfl⟩, rfl, ⟨M, rfl⟩, rfl⟩, fun h => absurd (by show (Y.1 0).1 4 < _; rw [e4]; exact nI_lt (by omega) (by omega)) h⟩
    | succ j ih =>
      intro k hk x7 M
      refine o.run 100 [] ⟨fun h => absurd h (by show ¬ (Y.1 0).1 4 < _; rw [e4]; exact nI_nlt (by omega) (by omega)), fun _ => ?_⟩
      show Z _ _ _ _
      refine o.cV vX3_185 (c_faresInParts (Y := setJ Y 3 M) (k := k + 1) h ha hb (by omega) hra hrb) (fun w rv _ hpo => ?_)
      obtain ⟨⟨M2, rfl⟩, rfl⟩ := hpo
      refine o.run 100 [9] ⟨fun h1 => ?_, fun h1 => ?_⟩
      · have := ih (k + 1) (by omega) (some (.int (f (k + 1)))) M2
        have h1 : f (k + 1) ≤ f (amx f k) := h1
        have e : amx f (k + 1) = amx f k := by rw [amx, if_neg (Int32.not_lt.mpr h1)]
        rw [e, ← nI_1 (k + 1)] at this
        exact this
      · have := ih (k + 1) (by omega) (some (.int (f (k + 1)))) M2
        have h1 : ¬ f (k + 1) ≤ f (amx f k) := h1
        have e : amx f (k + 1) = k + 1 := by rw [amx, if_pos (Int32.not_le.mp h1)]
        rw [e, ← nI_1 (k + 1)] at this
        exact this
  refine o.run 100 [9] ?_
  show Z 9 (yamW 53 Y ++ pol 53 RL) _ _
  refine o.run 100 [] ⟨fun h => absurd h (by show ¬ (Y.1 0).1 4 < nI 0; rw [e4]; exact nI_nlt (by omega) (by omega)), fun _ => ?_⟩
  show Z _ _ _ _
  refine o.cV vX3_185 (c_faresInParts (Y := Y) (k := 0) h ha hb (by omega) hra hrb) (fun w rv _ hpo => ?_)
  obtain ⟨⟨M2, rfl⟩, rfl⟩ := hpo
  refine o.run 100 [9] ⟨fun h1 => ?_, fun h1 => ?_⟩
  · have h1 : f 0 ≤ zi (-1) := h1
    exact absurd (Int32.le_trans hpos h1) (by decide)
  · exact loop n 0 (by omega) (some (.int (f 0))) M2
end GN
end
section
/-! ===== Int32 by its bits: bt x i ===== -/
def bt (x : Int32) (i : Nat) : Bool := x.toBitVec.getLsbD i
theorem b_ext {x y : Int32} (h : ∀ i, i < 32 → bt x i = bt y i) : x = y := Int32.toBitVec_inj.mp (BitVec.eq_of_getLsbD_eq (fun i hi => h i hi))
theorem b_or (x y : Int32) (i : Nat) : bt (x ||| y) i = (bt x i || bt y i) := by unfold bt; rw [Int32.toBitVec_or, BitVec.getLsbD_or]
theorem b_and (x y : Int32) (i : Nat) : bt (x &&& y) i = (bt x i && bt y i) := by unfold bt; rw [Int32.toBitVec_and, BitVec.getLsbD_and]
theorem b_xor (x y : Int32) (i : Nat) : bt (x ^^^ y) i = (bt x i ^^ bt y i) := by unfold bt; rw [Int32.toBitVec_xor, BitVec.getLsbD_xor]
theorem b_big {x : Int32} {i : Nat} (h : 32 ≤ i) : bt x i = false := BitVec.getLsbD_of_ge _ _ h
theorem b_255 (i : Nat) : bt 255 i = decide (i < 8) := by
  rcases Nat.lt_or_ge i 32 with h | h
  · exact (by decide +kernel : ∀ i, i < 32 → bt 255 i = decide (i < 8)) i h
  · rw [b_big h, decide_eq_false (by omega)]
theorem b_m1 : ∀ i, i < 32 → bt (-1) i = true := by decide +kernel
theorem b_0 (i : Nat) : bt 0 i = false := BitVec.getLsbD_zero
theorem s_l : ∀ n, n < 32 → ((nI n &&& 31).toBitVec.smod 32).toNat = n := by decide +kernel
theorem b_shl (n : Nat) (hn : n < 32) (x : Int32) {i : Nat} (hi : i < 32) : bt (x <<< (nI n &&& 31)) i = (decide (n ≤ i) && bt x (i - n)) := by
  unfold bt
  rw [Int32.toBitVec_shiftLeft]
  show (x.toBitVec <<< ((nI n &&& 31).toBitVec.smod 32).toNat).getLsbD i = _
  rw [s_l n hn, BitVec.getLsbD_shiftLeft]
  rcases Nat.lt_or_ge i n with h | h
  · simp [h, Nat.not_le.mpr h]
  · simp [hi, h, Nat.not_lt.mpr h]
theorem b_sshr (n : Nat) (hn : n < 32) (x : Int32) {i : Nat} (hi : i < 32) : bt (x >>> (nI n &&& 31)) i = if n + i < 32 then bt x (n + i) else bt x 31 := by
  unfold bt
  rw [Int32.toBitVec_shiftRight]
  show (x.toBitVec.sshiftRight ((nI n &&& 31).toBitVec.smod 32).toNat).getLsbD i = _
  rw [s_l n hn, BitVec.getLsbD_sshiftRight, BitVec.msb_eq_getLsbD_last]
  simp [hi]
theorem b_1 : ∀ i, i < 32 → bt (nI 1) i = decide (i = 0) := by decide +kernel
theorem b_bit {o i : Nat} (ho : o < 32) (hi : i < 32) : bt (nI 1 <<< (nI o &&& 31)) i = decide (o = i) := by
  rw [b_shl o ho _ hi]
  by_cases h : o ≤ i
  · rw [b_1 _ (by omega)]
    by_cases h2 : o = i
    · subst h2; simp
    · have : ¬ i - o = 0 := by omega
      simp [h2, this]
  · have : ¬ o = i := by omega
    simp [h, this]
theorem sb_bt {x : Int32} {o : Nat} (ho : o < 32) : sb x o = bt x o := by
  unfold sb
  by_cases h : bt x o = true
  · rw [h]
    refine decide_eq_true (fun h0 => ?_)
    have h1 : bt (x &&& (nI 1 <<< (nI o &&& 31))) o = bt 0 o := by rw [h0]
    rw [b_and, b_bit ho ho, h, b_0] at h1
    simp at h1
  · rw [Bool.not_eq_true] at h
    rw [h]
    refine decide_eq_false (fun h0 => h0 (b_ext (fun i hi => ?_)))
    rw [b_and, b_bit ho hi, b_0]
    by_cases h2 : o = i
    · subst h2; rw [h]; rfl
    · simp [h2]
theorem b_c255 (i : Nat) : bt (nI 255) i = decide (i < 8) := b_255 i
theorem b_cm1 {i : Nat} (h : i < 32) : bt (zi (-1)) i = true := (by decide +kernel : ∀ i, i < 32 → bt (zi (-1)) i = true) i h
/-- who sees whom: oneself always; of the others those that aren't hidden, at a show all, else by bits -/
def seeS (sh : Nat) (bl : Nat → Bool) (se : Nat → Int32) (y p o : Nat) : Bool := decide (p = o) || (!bl o && (decide (0 < sh ∧ y % sh = 0) || sb (se p) o))
theorem see_class {sh y p o : Nat} {x hid : Int32} (hp : p < 8) (ho : o < 8) : sb (seB sh y x hid p) o = (decide (p = o) || (!sb hid o && (decide (0 < sh ∧ y % sh = 0) || sb x o))) := by
  rw [sb_bt (by omega), sb_bt (by omega), sb_bt (by omega)]
  unfold seB
  rw [b_or, b_bit (by omega) (by omega), b_and, b_xor, b_cm1 (by omega)]
  by_cases h : 0 < sh ∧ y % sh = 0
  · rw [if_pos h, b_c255, decide_eq_true h]
    cases decide (p = o) <;> cases bt hid o <;> simp [ho]
  · rw [if_neg h, decide_eq_false h]
    cases decide (p = o) <;> cases bt hid o <;> cases bt x o <;> rfl
theorem sb_zero (o : Nat) : sb (nI 0) o = false := by
  unfold sb
  refine decide_eq_false (fun h => h ?_)
  show (nI 0) &&& _ = 0
  rw [nI_0]
  apply b_ext
  intro i _
  rw [b_and, b_0]; rfl
theorem sb_shift {k o : Nat} (hk : k < 8) (ho : o < 8) : sb (nI 1 <<< (nI k &&& 31)) o = decide (k = o) := by rw [sb_bt (by omega), b_bit (by omega) (by omega)]
/-- the reference's way to ask for a bit -/
theorem sb_ref {x : Int32} {o : Nat} (ho : o < 8) : (((x >>> (nI o &&& 31)) &&& nI 1) = nI 1) ↔ sb x o = true := by
  rw [sb_bt (by omega)]
  constructor
  · intro h
    have h1 : bt ((x >>> (nI o &&& 31)) &&& nI 1) 0 = bt (nI 1) 0 := by rw [h]
    rw [b_and, b_1 0 (by omega), b_sshr o (by omega) x (by omega), if_pos (by omega)] at h1
    simpa using h1
  · intro h
    apply b_ext
    intro i hi
    rw [b_and, b_1 i hi]
    by_cases h0 : i = 0
    · subst h0
      rw [b_sshr o (by omega) x (by omega), if_pos (by omega), Nat.add_zero, h]; rfl
    · simp [h0]
-- the choice depends on what is seen among the n alone
theorem bsn_see {s1 s2 : Nat → Bool} {br : Nat → Int32} {p n : Nat} (h : ∀ o, o < n → s1 o = s2 o) : ∀ k, k ≤ n → bsn s1 br p k = bsn s2 br p k
  | 0, _ => rfl
  | k + 1, hk => by unfold bsn; rw [bsn_see h k (by omega), h k (by omega)]
theorem cnt_congr {f g : Nat → Bool} : ∀ (n : Nat), (∀ o, o < n → f o = g o) → cnt f n = cnt g n
  | 0, _ => rfl
  | n + 1, h => by unfold cnt; rw [cnt_congr n (fun o ho => h o (by omega)), h n (by omega)]
theorem nrb_see {s1 s2 : Nat → Bool} {p n : Nat} (h : ∀ o, o < n → s1 o = s2 o) : ∀ k, k ≤ n → nrb s1 p k = nrb s2 p k
  | 0, _ => rfl
  | k + 1, hk => by unfold nrb; rw [nrb_see h k (by omega), h k (by omega)]
theorem nrl_see {s1 s2 : Nat → Bool} {p n : Nat} (h : ∀ o, o < n → s1 o = s2 o) : ∀ k, k ≤ n → nrl s1 p k = nrl s2 p k
  | 0, _ => rfl
  | k + 1, hk => by unfold nrl; rw [nrl_see h k (by omega), h k (by omega)]
theorem cho_see {n W y : Nat} {v : Nat → Nat} {s1 s2 : Nat → Bool} {br : Nat → Int32} {p : Nat} {sg : Int32} {K : Nat} (h : ∀ o, o < n → s1 o = s2 o) : cho n W y v s1 br p sg K = cho n W y v s2 br p sg K := by
  unfold cho
  rw [bsn_see h n (Nat.le_refl n), nrb_see h n (Nat.le_refl n), nrl_see h n (Nat.le_refl n)]
  have : (fun w => cnt (fun o => s1 o && decide (v o = w)) n) = (fun w => cnt (fun o => s2 o && decide (v o = w)) n) := by
    funext w
    exact cnt_congr n (fun o ho => by rw [h o ho])
  rw [this]
theorem vat_congr {n W : Nat} {b : Nat → Int32} {s1 s2 : Nat → Nat → Nat → Bool} {d1 d2 : Nat → Int32 → Int32 × Nat} {t1 t2 : Nat → Nat} {y0 : Nat} {v : Nat → Nat} (hs : ∀ y p o, p < n → o < n → s1 y p o = s2 y p o) (hd : ∀ p x, p < n → d1 p x = d2 p x) : ∀ m, (∀ i, i < m → t1 i = t2 i) → vat n W b s1 d1 t1 y0 v m = vat n W b s2 d2 t2 y0 v m
  | 0, _ => rfl
  | m + 1, ht => by
    unfold vat
    rw [vat_congr hs hd m (fun i hi => ht i (by omega)), ht m (by omega)]
    funext p
    unfold yst
    by_cases hp : p < n
    · rw [if_pos hp, if_pos hp, hd p _ hp]
      exact cho_see (fun o ho => hs _ p o hp ho)
    · rw [if_neg hp, if_neg hp]
theorem tot_congr {n : Nat} {b : Nat → Int32} {v1 v2 : Nat → Nat → Nat} {t1 t2 : Nat → Nat} {t0 : Nat → Int32} : ∀ m, (∀ i, i < m → v1 i = v2 i ∧ t1 i = t2 i) → tot n b v1 t1 t0 m = tot n b v2 t2 t0 m
  | 0, _ => rfl
  | m + 1, h => by
    unfold tot
    rw [tot_congr m (fun i hi => h i (by omega)), (h m (by omega)).1, (h m (by omega)).2]
end
section
/-! what there is, without any machine: the state, and what each call answers and makes of it -/
/-- numbers (0 ways, 1 weathers in the sky, 2 rules, 3 people, 4 the year, 5 show); what ways bring; rows (0 sky, 1 way of each, 2 rule of each); rows (0 sees, 1 brought); the rules -/
abbrev zT : Type := (Nat → Nat) × (Nat → Int32) × (Nat → Nat → Nat) × (Nat → Nat → Int32) × (Nat → Int32 → Int32 × Nat)
/-- now; the image; the text; refusals -/
abbrev zF : Type := zT × Option zT × (Nat × (Nat → Int32)) × (Nat → Int32)
def updN (f : Nat → Nat) (k x : Nat) : Nat → Nat := fun j => if j = k then x else f j
def tN (t : zT) (k x : Nat) : zT := (updN t.1 k x, t.2)
def tB (t : zT) (f : Nat → Int32) : zT := (t.1, f, t.2.2)
def tR (t : zT) (k : Nat) (f : Nat → Nat) : zT := (t.1, t.2.1, fun j => if j = k then f else t.2.2.1 j, t.2.2.2)
def tX (t : zT) (k : Nat) (f : Nat → Int32) : zT := (t.1, t.2.1, t.2.2.1, fun j => if j = k then f else t.2.2.2.1 j, t.2.2.2.2)
def tD (t : zT) (f : Nat → Int32 → Int32 × Nat) : zT := (t.1, t.2.1, t.2.2.1, t.2.2.2.1, f)
abbrev cl (x : Int32) : Nat := x.toNatClampNeg
def okT (t : zT) (c : Nat) : Prop := (t.1 0 ≤ 6 ∧ 0 < t.1 1 ∧ t.1 1 ≤ 24 ∧ t.1 2 ≤ 10 ∧ t.1 3 ≤ 8 ∧ t.1 4 ≤ 60 * c ∧ t.1 5 ≤ 24) ∧ (∀ j, ∃ k, k < 100 ∧ t.2.1 j = nI k) ∧ (∀ j, t.2.2.1 0 j < 4 ∧ t.2.2.1 1 j < 6 ∧ t.2.2.1 2 j < 10) ∧ (∀ p, p < t.1 3 → t.2.2.1 2 p < t.1 2 ∧ t.2.2.1 1 p < t.1 0) ∧ (∀ r x, r < t.1 2 → (t.2.2.2.2 r x).2 < 100 ∧ ((t.2.2.2.2 r x).1 = nI 116 → 0 < (t.2.2.2.2 r x).2))
-- runs
def nob : Nat → Bool := fun _ => false
def tT (t : zT) : Nat → Nat := fun i => t.2.2.1 0 ((t.1 4 + i) % t.1 1)
def rV (t : zT) (bl : Nat → Bool) (se : Nat → Int32) (sh : Nat) (ru tw : Nat → Nat) (i : Nat) : Nat → Nat := vat (t.1 3) (t.1 0) t.2.1 (seeS sh bl se) (fun p x => t.2.2.2.2 (ru p) x) tw (t.1 4) (t.2.2.1 1) i
def rG (t : zT) (bl : Nat → Bool) (se : Nat → Int32) (sh : Nat) (ru tw : Nat → Nat) (m : Nat) : Nat → Int32 := tot (t.1 3) t.2.1 (rV t bl se sh ru tw) tw (fun _ => nI 0) m
def rF (t : zT) (bl : Nat → Bool) (se : Nat → Int32) (sh : Nat) (ru tw : Nat → Nat) (m : Nat) : Int32 := sm (rG t bl se sh ru tw m) (t.1 3)
/-- as it is now, but for the rules lived by -/
abbrev rVn (t : zT) (ru : Nat → Nat) (i : Nat) : Nat → Nat := rV t nob (t.2.2.2.1 0) (t.1 5) ru (tT t) i
abbrev rGn (t : zT) (ru : Nat → Nat) (m : Nat) : Nat → Int32 := rG t nob (t.2.2.2.1 0) (t.1 5) ru (tT t) m
abbrev rFn (t : zT) (ru : Nat → Nat) (m : Nat) : Int32 := rF t nob (t.2.2.2.1 0) (t.1 5) ru (tT t) m
abbrev ruT (t : zT) : Nat → Nat := t.2.2.1 2
def alk (n : Nat) (v : Nat → Nat) : Bool := decide (cnt (fun p => decide (v p = v 0)) n = n)
def wrg (t : zT) (i : Nat) : Bool := alk (t.1 3) (rVn t (ruT t) i) && decide (t.2.1 (rVn t (ruT t) i 0 * 4 + tT t i) < t.2.1 (bst t.2.1 (tT t i) (t.1 0 - 1) * 4 + tT t i))
/-- the refusal of a run of x years: 0 none -/
def whK (x : Int32) (n : Nat) : Nat := if x < nI 1 then 4 else if nI 60 < x then 6 else if n = 0 then 3 else 0
def whKW (v hi x : Int32) (n : Nat) : Nat := if v < 0 then 4 else if x < nI 1 then 4 else if hi < v then 6 else if nI 60 < x then 6 else if n = 0 then 3 else 0
-- calls
abbrev zA : Type := Int32 × zF
def sRf (S : zF) (k : Nat) : zA := (-(nI k), (S.1, S.2.1, S.2.2.1, rfu S.2.2.2 k))
def sRff (S : zF) (k : Nat) : zA := (-1000000000 + -(nI k), (S.1, S.2.1, S.2.2.1, rfu S.2.2.2 k))
def sW (S : zF) (t : zT) : zF := (t, S.2)
def sRun (S : zF) (x : Int32) (f : Nat → zA) : zA := if whK x (S.1.1 3) = 0 then f (cl x) else sRf S (whK x (S.1.1 3))
def sWay (S : zF) (a b c d : Int32) : zA := if a < 0 ∨ b < 0 ∨ c < 0 ∨ d < 0 then sRf S 4 else if nI 99 < a ∨ nI 99 < b ∨ nI 99 < c ∨ nI 99 < d ∨ S.1.1 0 = 6 then sRf S 6
  else (nI (S.1.1 0), sW S (tN (tB S.1 (upd (upd (upd (upd S.1.2.1 (S.1.1 0 * 4) a) (S.1.1 0 * 4 + 1) b) (S.1.1 0 * 4 + 2) c) (S.1.1 0 * 4 + 3) d)) 0 (S.1.1 0 + 1)))
def sBrings (S : zF) (w t v : Int32) : zA := if (isN w (S.1.1 0) && isN t 4) = true then (if v < 0 then sRf S 4 else if nI 99 < v then sRf S 6 else (S.1.2.1 (cl w * 4 + cl t), sW S (tB S.1 (upd S.1.2.1 (cl w * 4 + cl t) v)))) else sRf S 1
def sBestWay (S : zF) (t : Int32) : zA := if isN t 4 = true then (if S.1.1 0 = 0 then sRf S 3 else (nI (bst S.1.2.1 (cl t) (S.1.1 0 - 1)), S)) else sRf S 1
/-- two bits of x, eight bits of x -/
def wb2 (x : Int64) (j : Nat) : Nat := x.toBitVec.toNat / 2 ^ (2 * j) % 4
def wb8 (x : Int64) (j : Nat) : Nat := x.toBitVec.toNat / 2 ^ (8 * j) % 256
def mixN (k : Nat) (g f : Nat → Nat) : Nat → Nat := fun j => if j < k then g j else f j
def sSky (S : zF) (n : Int32) (x : Int64) : zA := if n < nI 1 then sRf S 4 else if nI 24 < n then sRf S 6 else (nI (S.1.1 1), sW S (tN (tR S.1 0 (mixN (cl n) (wb2 x) (S.1.2.2.1 0))) 1 (cl n)))
def sWeather (S : zF) (y : Int32) : zA := if y < 0 then sRf S 4 else if 999999 < y then sRf S 6 else (nI (S.1.2.2.1 0 (cl y % S.1.1 1)), S)
def sFeed (S : zF) (n : Int32) (x : Int64) : zA := if n < nI 1 then sRf S 4 else if nI 8 < n then sRf S 6 else if 24 < S.2.2.1.1 + cl n then sRf S 6
  else (nI (S.2.2.1.1 + cl n), (S.1, S.2.1, (S.2.2.1.1 + cl n, fun j => if j < S.2.2.1.1 then S.2.2.1.2 j else nI (wb8 x (j - S.2.2.1.1))), S.2.2.2))
def sPerson (S : zF) (w r : Int32) : zA := if (isN w (S.1.1 0) && isN r (S.1.1 2)) = true then (if S.1.1 3 = 8 then sRf S 6 else (nI (S.1.1 3), sW S (tN (tX (tX (tR (tR S.1 1 (updN (S.1.2.2.1 1) (S.1.1 3) (cl w))) 2 (updN (S.1.2.2.1 2) (S.1.1 3) (cl r))) 0 (upd (S.1.2.2.2.1 0) (S.1.1 3) (nI 255))) 1 (upd (S.1.2.2.2.1 1) (S.1.1 3) (nI 0))) 3 (S.1.1 3 + 1)))) else sRf S 1
def sSees (S : zF) (p x : Int32) : zA := if isN p (S.1.1 3) = true then (if x < 0 then sRf S 4 else if nI 255 < x then sRf S 6 else (S.1.2.2.2.1 0 (cl p), sW S (tX S.1 0 (upd (S.1.2.2.2.1 0) (cl p) x)))) else sRf S 1
def sLives (S : zF) (p r : Int32) : zA := if (isN p (S.1.1 3) && isN r (S.1.1 2)) = true then (nI (ruT S.1 (cl p)), sW S (tR S.1 2 (updN (ruT S.1) (cl p) (cl r)))) else sRf S 1
def sPlants (S : zF) (p w : Int32) : zA := if (isN p (S.1.1 3) && isN w (S.1.1 0)) = true then (nI (S.1.2.2.1 1 (cl p)), sW S (tR S.1 1 (updN (S.1.2.2.1 1) (cl p) (cl w)))) else sRf S 1
def sShow (S : zF) (x : Int32) : zA := if x < 0 then sRf S 4 else if nI 24 < x then sRf S 6 else (nI (S.1.1 5), sW S (tN S.1 5 (cl x)))
def sOf (S : zF) (p w : Int32) : zA := if isN p (S.1.1 3) = true then (if w = nI 0 then (nI (S.1.2.2.1 1 (cl p)), S) else if w = nI 1 then (nI (ruT S.1 (cl p)), S) else if w = nI 2 then (S.1.2.2.2.1 0 (cl p), S) else if w = nI 3 then (S.1.2.1 (S.1.2.2.1 1 (cl p) * 4 + tT S.1 0), S) else if w = nI 4 then (S.1.2.2.2.1 1 (cl p), S) else sRf S 2) else sRf S 1
def sNext (S : zF) (p : Int32) : zA := if isN p (S.1.1 3) = true then (nI (rVn S.1 (ruT S.1) 1 (cl p)), S) else sRf S 1
def goT (t : zT) (m : Nat) : zT := tN (tX (tR t 1 (rVn t (ruT t) m)) 1 (mix (t.1 3) (fun p => t.2.2.2.1 1 p + rGn t (ruT t) m p) (t.2.2.2.1 1))) 4 (t.1 4 + m)
def sGo (S : zF) (x : Int32) : zA := sRun S x fun m => (nI (S.1.1 4 + m), sW S (goT S.1 m))
def sShare (S : zF) (w : Int32) : zA := if isN w (S.1.1 0) = true then (nI (cnt (fun p => decide (S.1.2.2.1 1 p = cl w)) (S.1.1 3)), S) else sRf S 1
def sFares (S : zF) (x : Int32) : zA := sRun S x fun m => (rFn S.1 (ruT S.1) m, S)
def sWrong (S : zF) (x : Int32) : zA := sRun S x fun m => (nI (cnt (wrg S.1) m), S)
def sAlike (S : zF) (x : Int32) : zA := sRun S x fun m => (fndI (fnd (fun i => alk (S.1.1 3) (rVn S.1 (ruT S.1) i)) (m + 1) 0), S)
def sGain (S : zF) (p r x : Int32) : zA := if (isN p (S.1.1 3) && isN r (S.1.1 2)) = true then (if whK x (S.1.1 3) = 0 then (rGn S.1 (rOne (cl p) (cl r) (ruT S.1)) (cl x) (cl p) - rGn S.1 (ruT S.1) (cl x) (cl p), S) else sRff S (whK x (S.1.1 3))) else sRff S 1
/-- person p would gain by rule r -/
def gnr (t : zT) (m p r : Nat) : Bool := decide (rGn t (ruT t) m p < rGn t (rOne p r (ruT t)) m p)
def fnd2 (f : Nat → Nat → Bool) (rc : Nat) : Nat → Nat → Option (Nat × Nat)
  | 0, _ => none
  | c + 1, p => match fnd (f p) rc 0 with
    | some r => some (p, r)
    | none => fnd2 f rc c (p + 1)
def fnd2I : Option (Nat × Nat) → Int32
  | some (p, r) => nI (10 * p + r)
  | none => zi (-9)
def sRest (S : zF) (x : Int32) : zA := sRun S x fun m => (fnd2I (fnd2 (gnr S.1 m) (S.1.1 2) (S.1.1 3) 0), S)
def allR (t : zT) (r : Nat) : Nat → Nat := rPart (t.1 3) r r 0 (ruT t)
def sIfAll (S : zF) (r x : Int32) : zA := if isN r (S.1.1 2) = true then sRun S x (fun m => (rFn S.1 (allR S.1 (cl r)) m, S)) else sRf S 1
def sBestRule (S : zF) (x : Int32) : zA := sRun S x fun m => (nI (amx (fun r => rFn S.1 (allR S.1 r) m) (S.1.1 2 - 1)), S)
/-- nobody gains by the other rule, in parts -/
def nbT (t : zT) (a b m k : Nat) (p : Nat) : Bool := decide (¬ rGn t (rPart (t.1 3) a b k (ruT t)) m p < rGn t (rOne p (if p < k then b else a) (rPart (t.1 3) a b k (ruT t))) m p)
def sPart (S : zF) (a b w x : Int32) : zA := if (isN a (S.1.1 2) && isN b (S.1.1 2)) = true then (if w = nI 0 then sRun S x (fun m => (nI (amx (fun k => rFn S.1 (rPart (S.1.1 3) (cl a) (cl b) k (ruT S.1)) m) (S.1.1 3)), S)) else if w = nI 1 then sRun S x (fun m => (fndI (fnd (fun k => allN (nbT S.1 (cl a) (cl b) m k) (S.1.1 3)) (S.1.1 3 + 1) 0), S)) else sRf S 2) else sRf S 1
def edT (t : zT) (L x y : Nat) : Nat → Nat := fun i => skE L x y (t.2.2.1 0) (i % (2 * L))
def edF (t : zT) (x y m r L : Nat) : Int32 := rF t nob (t.2.2.2.1 0) (t.1 5) (allR t r) (edT t L x y) m
def sEdge (S : zF) (a b w x : Int32) : zA := if (isN a (S.1.1 2) && isN b (S.1.1 2)) = true ∧ ¬ w < 0 ∧ cl w / 10 < 4 ∧ cl w % 10 < 4 then sRun S x (fun m => (fndI (fnd (fun L => decide (edF S.1 (cl w / 10) (cl w % 10) m (cl b) L < edF S.1 (cl w / 10) (cl w % 10) m (cl a) L)) 12 1), S)) else sRf S 1
def sRunF (S : zF) (v hi x : Int32) (f : Nat → zA) : zA := if whKW v hi x (S.1.1 3) = 0 then f (cl x) else sRff S (whKW v hi x (S.1.1 3))
def sLess (S : zF) (k x : Int32) : zA := sRunF S k (nI 7) x fun m => (rF S.1 nob (fun p => ahB (S.1.1 3) p (cl k)) (S.1.1 5) (ruT S.1) (tT S.1) m - rFn S.1 (ruT S.1) m, S)
def sShown (S : zF) (s x : Int32) : zA := sRunF S s (nI 24) x fun m => (rF S.1 nob (S.1.2.2.2.1 0) (cl s) (ruT S.1) (tT S.1) m - rFn S.1 (ruT S.1) m, S)
def sBlind (S : zF) (x : Int32) : zA := sRun S x fun m => (nI (amx (fun p => rF S.1 (fun o => decide (p = o)) (S.1.2.2.2.1 0) (S.1.1 5) (ruT S.1) (tT S.1) m) (S.1.1 3 - 1)), S)
def sImage (S : zF) : zA := (nI (S.1.1 4), (S.1, some S.1, S.2.2))
def sRestore (S : zF) : zA := match S.2.1 with
  | some t => (nI (t.1 4), (t, S.2))
  | none => sRf S 3
def sCount (S : zF) (w : Int32) : zA := if w = nI 0 then (nI (S.1.1 0), S) else if w = nI 1 then (nI (S.1.1 3), S) else if w = nI 2 then (nI (S.1.1 2), S) else if w = nI 3 then (nI (S.1.1 4), S) else if w = nI 4 then (nI (S.1.1 1), S) else if w = nI 5 then (nI (S.1.1 5), S) else if w = nI 6 then (sm (S.1.2.2.2.1 1) (S.1.1 3), S) else if w = nI 7 then (nI S.2.2.1.1, S) else if nI 11 ≤ w ∧ w ≤ nI 16 then (S.2.2.2 (cl w - 10), S) else (zi (-9), S)
-- the class's island as such a state
def repI (RL : List zRu) (I : zI) (t : zT) : Prop :=
  (I.1 0 = nI (t.1 0) ∧ I.1 1 = nI (t.1 1) ∧ I.1 2 = nI 0 ∧ I.1 3 = nI (t.1 2) ∧ I.1 4 = nI (t.1 3) ∧ I.1 5 = nI (t.1 4) ∧ I.1 6 = nI (t.1 5) ∧ I.1 7 = nI 0) ∧
  (I.2.1 0 = t.2.1 ∧ I.2.1 1 = (fun j => nI (t.2.2.1 0 j)) ∧ I.2.1 2 = (fun j => nI (t.2.2.1 1 j)) ∧ I.2.1 3 = (fun j => nI (t.2.2.1 2 j)) ∧ I.2.1 4 = t.2.2.2.1 0 ∧ I.2.1 5 = t.2.2.2.1 1) ∧
  (∀ r, r < t.1 2 → ∃ i, I.2.2 r = some i ∧ i < RL.length ∧ ∀ x, dnI RL I.2.2 r x = t.2.2.2.2 r x) ∧ okN RL I
def repY (RL : List zRu) (Y : zY) (S : zF) (c : Nat) : Prop :=
  okR RL ∧ (repI RL (Y.1 0) S.1 ∧ okT S.1 c) ∧ (match S.2.1 with
    | some t => repI RL (Y.1 1) t ∧ okT t c ∧ Y.2.2 2 = nI 1
    | none => Y.2.2 2 = nI 0) ∧ (Y.2.2 0 = nI S.2.2.1.1 ∧ S.2.2.1.1 ≤ 24 ∧ ∀ j, j < S.2.2.1.1 → Y.2.1 1 j = S.2.2.1.2 j) ∧ Y.2.1 2 = S.2.2.2
theorem ga_eq {RL : List zRu} {I : zI} {t : zT} {bl : Nat → Bool} {se : Nat → Int32} {sh s0 L m : Nat} {ru sk : Nat → Nat} (hb : I.2.1 0 = t.2.1) (hd : ∀ p x, p < t.1 3 → dnI RL I.2.2 (ru p) x = t.2.2.2.2 (ru p) x) (hs : ∀ y p o, p < t.1 3 → o < t.1 3 → sb (seB sh y (I.2.1 4 p) (I.1 7) p) o = seeS sh bl se y p o) :
    gaI RL I (t.1 0) (t.1 3) (t.1 4) s0 L sh sk (t.2.2.1 1) ru m = rG t bl se sh ru (fun i => sk ((t.1 4 + i - s0) % L)) m := by
  unfold gaI rG
  rw [hb]
  refine tot_congr m (fun i _ => ⟨?_, rfl⟩)
  unfold vI rV
  rw [hb]
  exact vat_congr hs hd i (fun _ _ => rfl)
theorem vI_eq {RL : List zRu} {I : zI} {t : zT} {bl : Nat → Bool} {se : Nat → Int32} {sh s0 L i : Nat} {ru sk : Nat → Nat} (hb : I.2.1 0 = t.2.1) (hd : ∀ p x, p < t.1 3 → dnI RL I.2.2 (ru p) x = t.2.2.2.2 (ru p) x) (hs : ∀ y p o, p < t.1 3 → o < t.1 3 → sb (seB sh y (I.2.1 4 p) (I.1 7) p) o = seeS sh bl se y p o) :
    vI RL I (t.1 0) (t.1 3) (t.1 4) s0 L sh sk (t.2.2.1 1) ru i = rV t bl se sh ru (fun i => sk ((t.1 4 + i - s0) % L)) i := by
  unfold vI rV
  rw [hb]
  exact vat_congr hs hd i (fun _ _ => rfl)
theorem rep_see {RL : List zRu} {I : zI} {t : zT} {c sh : Nat} (h : repI RL I t) (ht : okT t c) : ∀ y p o, p < t.1 3 → o < t.1 3 → sb (seB sh y (I.2.1 4 p) (I.1 7) p) o = seeS sh nob (t.2.2.2.1 0) y p o := fun y p o hp ho => by
  have hn : t.1 3 ≤ 8 := ht.1.2.2.2.2.1
  rw [see_class (by omega) (by omega), h.1.2.2.2.2.2.2.2, sb_zero, h.2.1.2.2.2.2.1]
  rfl
theorem rep_dn {RL : List zRu} {I : zI} {t : zT} (h : repI RL I t) {ru : Nat → Nat} (hr : ∀ p, p < t.1 3 → ru p < t.1 2) : ∀ p x, p < t.1 3 → dnI RL I.2.2 (ru p) x = t.2.2.2.2 (ru p) x := fun p x hp => by
  obtain ⟨i, -, -, h3⟩ := h.2.2.1 (ru p) (hr p hp)
  exact h3 x
theorem rep_ga {RL : List zRu} {I : zI} {t : zT} {c m : Nat} {ru : Nat → Nat} (h : repI RL I t) (ht : okT t c) (hr : ∀ p, p < t.1 3 → ru p < t.1 2) : gaI RL I (t.1 0) (t.1 3) (t.1 4) 0 (t.1 1) (t.1 5) (t.2.2.1 0) (t.2.2.1 1) ru m = rGn t ru m := ga_eq h.2.1.1 (rep_dn h hr) (rep_see h ht)
theorem rep_fr {RL : List zRu} {I : zI} {t : zT} {c m : Nat} {ru : Nat → Nat} (h : repI RL I t) (ht : okT t c) (hr : ∀ p, p < t.1 3 → ru p < t.1 2) : frI RL I (t.1 0) (t.1 3) (t.1 4) 0 (t.1 1) (t.1 5) (t.2.2.1 0) (t.2.2.1 1) ru m = rFn t ru m := congrArg (fun f => sm f (t.1 3)) (rep_ga h ht hr)
theorem rep_okM {RL : List zRu} {I : zI} {t : zT} {c m : Nat} (hR : okR RL) (h : repI RL I t) (ht : okT t c) (hc : c ≤ 100) (hm : m ≤ 60) : okM RL I (t.1 0) (t.1 3) (t.1 4) 0 (t.1 1) (t.1 5) (t.2.2.1 0) (t.2.2.1 1) (ruT t) m := by
  obtain ⟨⟨a0, a1, a2, a3, a4, a5, a6, a7⟩, ⟨b0, b1, b2, b3, b4, b5⟩, h3, h4⟩ := h
  obtain ⟨⟨c0, c1, c2, c3, c4, c5, c6⟩, d1, d2, d3, d4⟩ := ht
  refine ⟨hR, ⟨⟨a0, c0⟩, ⟨a4, c4⟩, ⟨a5, a2, Nat.zero_le _⟩, ⟨a1, c1, c2⟩, ⟨a6, c6⟩, fun j => ⟨by rw [b1], (d2 j).1⟩, fun j => ⟨by rw [b2], (d2 j).2.1⟩, fun j => ⟨by rw [b3], (d2 j).2.2⟩⟩, fun p hp => ?_, ?_, h4⟩
  · obtain ⟨i, g1, g2, -⟩ := h3 (ruT t p) (d3 p hp).1
    exact ⟨i, g1, g2⟩
  · have : 60 * c ≤ 6000 := by omega
    omega
end
section
/-! the class's public methods, 1: as the spec says -/
theorem okT_mono {t : zT} {c d : Nat} (h : okT t c) (hd : c ≤ d) : okT t d := by
  obtain ⟨⟨c0, c1, c2, c3, c4, c5, c6⟩, d1⟩ := h
  exact ⟨⟨c0, c1, c2, c3, c4, by omega, c6⟩, d1⟩
theorem rep_mono {RL : List zRu} {Y : zY} {S : zF} {c d : Nat} (h : repY RL Y S c) (hd : c ≤ d) : repY RL Y S d := by
  obtain ⟨h1, ⟨h2, h3⟩, h4, h5⟩ := h
  refine ⟨h1, ⟨h2, okT_mono h3 hd⟩, ?_, h5⟩
  revert h4
  cases S.2.1 with
  | none => exact id
  | some t => exact fun h => ⟨h.1, okT_mono h.2.1 hd, h.2.2⟩
theorem rep_rf {RL : List zRu} {Y : zY} {S : zF} {c : Nat} (h : repY RL Y S c) (k : Nat) : repY RL (setY Y 2 (rfu (Y.2.1 2) k)) (S.1, S.2.1, S.2.2.1, rfu S.2.2.2 k) (c + 1) := by
  obtain ⟨h1, h2, h3, h4, h5⟩ := rep_mono h (Nat.le_succ c)
  refine ⟨h1, h2, h3, h4, ?_⟩
  show rfu (Y.2.1 2) k = rfu S.2.2.2 k
  rw [h5]
/-- the class's public method: a call answers and changes as the spec says -/
def zPub (l : Launch) (D : va_G) (C : zC) (y : MethodName) (cc : ByteArray) (nL d : Nat) (args : List Value) (Y : zY) (RL : List zRu) (c : Nat) (A : zA) : Prop :=
  zFun l D C y cc nL (some .int) (zR d) (.ref 0 :: args) (yamW 53 Y ++ pol 53 RL) (fun w rv => (∃ Y', w = yamW 53 Y' ++ pol 53 RL ∧ repY RL Y' A.2 (c + 1)) ∧ rv = some (.int A.1))
theorem pret {RL : List zRu} {Y : zY} {c : Nat} {A A' : zA} (e : A = A') (Y' : zY) (h : repY RL Y' A'.2 (c + 1)) : zRt (some .int) (some (.int A'.1)) ∧ (yamW 53 Y' ++ pol 53 RL).length = (yamW 53 Y ++ pol 53 RL).length ∧ (∃ Y'', yamW 53 Y' ++ pol 53 RL = yamW 53 Y'' ++ pol 53 RL ∧ repY RL Y'' A.2 (c + 1)) ∧ some (Value.int A'.1) = some (.int A.1) := by
  subst e
  exact ⟨⟨_, rfl, rfl⟩, rfl, ⟨Y', rfl, h⟩, rfl⟩
theorem wh0 {x : Int32} {n : Nat} (h : whK x n = 0) : ∃ m, x = nI m ∧ 1 ≤ m ∧ m ≤ 60 ∧ 0 < n := by
  unfold whK at h
  split at h
  · cases h
  · rename_i h1
    split at h
    · cases h
    · rename_i h2
      split at h
      · cases h
      · rename_i h3
        have h0 : ¬ x < 0 := fun q => h1 (Int32.lt_trans q (by decide))
        obtain ⟨j, hj, rfl⟩ := nI_of h0
        rw [nI_ltI (by omega) (by omega)] at h1 h2
        exact ⟨j, rfl, by omega, by omega, by omega⟩
theorem whR_0 {x : Int32} {n : Nat} (h : whK x n = 0) : whR x n = nI 0 := by
  unfold whK at h
  unfold whR
  split at h
  · cases h
  · rename_i h1
    rw [if_neg h1]
    split at h
    · cases h
    · rename_i h2
      rw [if_neg h2]
      split at h
      · cases h
      · rename_i h3
        rw [if_neg h3]
theorem whR_k {x : Int32} {n : Nat} (h : ¬ whK x n = 0) : whR x n = -(nI (whK x n)) ∧ 0 < whK x n ∧ whK x n < 7 ∧ ¬ -(nI (whK x n)) = 0 := by
  unfold whR
  revert h
  unfold whK
  split
  · exact fun _ => ⟨rfl, by decide, by decide, by decide⟩
  · split
    · exact fun _ => ⟨rfl, by decide, by decide, by decide⟩
    · split
      · exact fun _ => ⟨rfl, by decide, by decide, by decide⟩
      · exact fun h => absurd rfl h
theorem isN_cl {x : Int32} {k : Nat} (hk : k < 2 ^ 31) (h : isN x k = true) : x = nI (cl x) ∧ cl x < k := by
  obtain ⟨j, hj, rfl⟩ := isN_t hk h
  rw [show cl (nI j) = j from nI_clamp (by omega)]
  exact ⟨rfl, hj⟩
theorem zB_t {b : Bool} (h : ¬ zB b = 0) : b = true := by
  cases hb : b with
  | true => rfl
  | false => exact absurd ((zB_0 b).mpr hb) h
/-- an island with the same rules: what it is -/
theorem repI_set {RL : List zRu} {I I' : zI} {t t' : zT} (h : repI RL I t) (hr : I'.2.2 = I.2.2) (h2 : t'.1 2 = t.1 2) (h3 : t'.2.2.2.2 = t.2.2.2.2) (hn : I'.1 0 = nI (t'.1 0) ∧ I'.1 1 = nI (t'.1 1) ∧ I'.1 2 = nI 0 ∧ I'.1 3 = nI (t'.1 2) ∧ I'.1 4 = nI (t'.1 3) ∧ I'.1 5 = nI (t'.1 4) ∧ I'.1 6 = nI (t'.1 5) ∧ I'.1 7 = nI 0)
    (ha : I'.2.1 0 = t'.2.1 ∧ I'.2.1 1 = (fun j => nI (t'.2.2.1 0 j)) ∧ I'.2.1 2 = (fun j => nI (t'.2.2.1 1 j)) ∧ I'.2.1 3 = (fun j => nI (t'.2.2.1 2 j)) ∧ I'.2.1 4 = t'.2.2.2.1 0 ∧ I'.2.1 5 = t'.2.2.2.1 1) : repI RL I' t' := by
  refine ⟨hn, ha, fun r hr2 => ?_, fun k hk r hkr => h.2.2.2 k hk r (by rw [← hr]; exact hkr)⟩
  obtain ⟨i, g1, g2, g3⟩ := h.2.2.1 r (by rw [← h2]; exact hr2)
  exact ⟨i, by rw [hr]; exact g1, g2, fun x => by rw [hr, g3 x, h3]⟩
/-- the island itself changed -/
theorem repY_J {RL : List zRu} {Y : zY} {S : zF} {c d : Nat} {I : zI} {t : zT} (h : repY RL Y S c) (hI : repI RL I t) (ht : okT t d) (hd : c ≤ d) : repY RL (setJ Y 0 I) (sW S t) d := by
  obtain ⟨h1, -, h3, h4⟩ := rep_mono h hd
  exact ⟨h1, ⟨hI, ht⟩, h3, h4⟩
theorem upd_nI (f : Nat → Nat) (k x : Nat) : upd (fun j => nI (f j)) k (nI x) = (fun j => nI (updN f k x j)) := by
  funext j
  unfold upd updN
  split <;> rfl
theorem okT_person {t : zT} {c w r : Nat} (h : okT t c) (hn : t.1 3 < 8) (hw : w < t.1 0) (hr : r < t.1 2) : okT (tN (tX (tX (tR (tR t 1 (updN (t.2.2.1 1) (t.1 3) w)) 2 (updN (t.2.2.1 2) (t.1 3) r)) 0 (upd (t.2.2.2.1 0) (t.1 3) (nI 255))) 1 (upd (t.2.2.2.1 1) (t.1 3) (nI 0))) 3 (t.1 3 + 1)) c := by
  obtain ⟨⟨c0, c1, c2, c3, c4, c5, c6⟩, d1, d2, d3, d4⟩ := h
  refine ⟨⟨c0, c1, c2, c3, by show t.1 3 + 1 ≤ 8; omega, c5, c6⟩, d1, fun j => ⟨(d2 j).1, ?_, ?_⟩, fun p hp => ?_, d4⟩
  · show updN (t.2.2.1 1) (t.1 3) w j < 6
    unfold updN; split
    · omega
    · exact (d2 j).2.1
  · show updN (t.2.2.1 2) (t.1 3) r j < 10
    unfold updN; split
    · omega
    · exact (d2 j).2.2
  · have hp : p < t.1 3 + 1 := hp
    show updN (t.2.2.1 2) (t.1 3) r p < t.1 2 ∧ updN (t.2.2.1 1) (t.1 3) w p < t.1 0
    unfold updN
    by_cases hq : p = t.1 3
    · rw [if_pos hq, if_pos hq]; exact ⟨hr, hw⟩
    · rw [if_neg hq, if_neg hq]; exact d3 p (by omega)
theorem okT_lives {t : zT} {c p r : Nat} (h : okT t c) (hr : r < t.1 2) : okT (tR t 2 (updN (ruT t) p r)) c := by
  obtain ⟨⟨c0, c1, c2, c3, c4, c5, c6⟩, d1, d2, d3, d4⟩ := h
  refine ⟨⟨c0, c1, c2, c3, c4, c5, c6⟩, d1, fun j => ⟨(d2 j).1, (d2 j).2.1, ?_⟩, fun q hq => ⟨?_, (d3 q hq).2⟩, d4⟩
  · show updN (ruT t) p r j < 10
    unfold updN; split
    · omega
    · exact (d2 j).2.2
  · show updN (ruT t) p r q < t.1 2
    unfold updN; split
    · exact hr
    · exact (d3 q hq).1
theorem okT_plants {t : zT} {c p w : Nat} (h : okT t c) (hw : w < t.1 0) : okT (tR t 1 (updN (t.2.2.1 1) p w)) c := by
  obtain ⟨⟨c0, c1, c2, c3, c4, c5, c6⟩, d1, d2, d3, d4⟩ := h
  refine ⟨⟨c0, c1, c2, c3, c4, c5, c6⟩, d1, fun j => ⟨(d2 j).1, ?_, (d2 j).2.2⟩, fun q hq => ⟨(d3 q hq).1, ?_⟩, d4⟩
  · show updN (t.2.2.1 1) p w j < 6
    unfold updN; split
    · omega
    · exact (d2 j).2.1
  · show updN (t.2.2.1 1) p w q < t.1 0
    unfold updN; split
    · exact hw
    · exact (d3 q hq).2
section PUB
variable {l : Launch} {D : va_G} {C : zC} {Y : zY} {RL : List zRu} {S : zF} {c : Nat}
set_option maxRecDepth 10000 in
theorem y_brings (h : repY RL Y S c) {w t v : Int32} : zPub l D C yX3_brings cX3_brings 6 1 [.int w, .int t, .int v] Y RL c (sBrings S w t v) := by
  have hI := h.2.1.1
  have hT := h.2.1.2
  have hWb : S.1.1 0 ≤ 6 := hT.1.1
  have hnb : S.1.1 3 ≤ 8 := hT.1.2.2.2.2.1
  have hrb : S.1.1 2 ≤ 10 := hT.1.2.2.2.1
  have e0 : (Y.1 0).1 0 = nI (S.1.1 0) := hI.1.1
  have e3 : (Y.1 0).1 3 = nI (S.1.1 2) := hI.1.2.2.2.1
  have e4 : (Y.1 0).1 4 = nI (S.1.1 3) := hI.1.2.2.2.2.1
  refine zFun_of (by decide) oX3_brings tbX3 (Nat.le_of_ble_eq_true rfl) (fun Z o => ?_)
  have bad : ((isN w (S.1.1 0) && isN t 4)) = false → Z 17 (yamW 53 Y ++ pol 53 RL) [some (.ref 0), some (.int w), some (.int t), some (.int v), none, none] [.int (zi (-1)), .ref 0] := fun hf => by
    refine o.cV vX3_48 (c_refuse (k := 1) (by omega) (by omega)) (fun w' rv _ hpo => ?_)
    obtain ⟨rfl, rfl⟩ := hpo
    exact o.run 100 [] (pret (A' := sRf S 1) (by rw [sBrings, hf]; rfl) _ (rep_rf h 1))
  have good : (isN w (S.1.1 0) && isN t 4) = true → Z 21 (yamW 53 Y ++ pol 53 RL) [some (.ref 0), some (.int w), some (.int t), some (.int v), none, none] [] := fun hb => by
    obtain ⟨hq1, hq2⟩ := Bool.and_eq_true_iff.mp hb
    obtain ⟨ew, hwl⟩ := isN_cl (by omega) hq1
    obtain ⟨et, htl⟩ := isN_cl (by omega) hq2
    refine o.run 100 [] ?_
    show Z _ _ _ _
    refine o.cS vX3_67 (c_whyOutside (x := v) (lo := nI 0) (hi := nI 99)) (fun rv hpo => ?_)
    subst hpo
    by_cases h4 : v < 0
    · have e : whO v (nI 0) (nI 99) = -(nI 4) := by rw [whO, nI_0, if_pos h4]; rfl
      rw [e]
      refine o.run 100 [] ⟨fun q => absurd q (by decide), fun _ => ?_⟩
      show Z _ _ _ _
      refine o.cV vX3_48 (c_refuse (k := 4) (by omega) (by omega)) (fun w' rv _ hpo => ?_)
      obtain ⟨rfl, rfl⟩ := hpo
      exact o.run 100 [] (pret (A' := sRf S 4) (by rw [sBrings, if_pos hb, if_pos h4]) _ (rep_rf h 4))
    by_cases h6 : nI 99 < v
    · have e : whO v (nI 0) (nI 99) = -(nI 6) := by rw [whO, nI_0, if_neg h4, if_pos h6]; rfl
      rw [e]
      refine o.run 100 [] ⟨fun q => absurd q (by decide), fun _ => ?_⟩
      show Z _ _ _ _
      refine o.cV vX3_48 (c_refuse (k := 6) (by omega) (by omega)) (fun w' rv _ hpo => ?_)
      obtain ⟨rfl, rfl⟩ := hpo
      exact o.run 100 [] (pret (A' := sRf S 6) (by rw [sBrings, if_pos hb, if_neg h4, if_pos h6]) _ (rep_rf h 6))
    have e : whO v (nI 0) (nI 99) = nI 0 := by rw [whO, nI_0, if_neg h4, if_neg h6]
    rw [e]
    refine o.run 100 [] ⟨fun _ => ?_, fun q => absurd nI_0 q⟩
    show Z 48 (yamW 53 Y ++ pol 53 RL) [some (.ref 0), some (.int w), some (.int t), some (.int v), some (.int (nI 0)), none] [.int t, .int w, .ref 1]
    obtain ⟨wn, hwn⟩ : ∃ k, k = cl w := ⟨_, rfl⟩
    obtain ⟨tn, htn⟩ : ∃ k, k = cl t := ⟨_, rfl⟩
    rw [← hwn] at ew hwl
    rw [← htn] at et htl
    subst ew et
    refine o.yAr 0 (by omega) vX3_71 (c_bringsOf (I := Y.1 0) (w := wn) (t := tn) (by omega) htl) (fun rv hpo => ?_)
    subst hpo
    refine o.run 100 [] ⟨wn * 4 + tn, by show nI wn * nI 4 + nI tn = _; rw [pk_mul, nI_add], by omega, ?_⟩
    refine pret (A' := ((Y.1 0).2.1 0 (wn * 4 + tn), sW S (tB S.1 (upd S.1.2.1 (wn * 4 + tn) v)))) ?_ (setJ Y 0 (setA (Y.1 0) 0 (upd ((Y.1 0).2.1 0) (wn * 4 + tn) v))) ?_
    · rw [sBrings, if_pos hb, if_neg h4, if_neg h6, ← hwn, ← htn, hI.2.1.1]
    · refine repY_J h (repI_set hI rfl rfl rfl hI.1 ⟨?_, hI.2.1.2⟩) ?_ (Nat.le_succ c)
      · show upd ((Y.1 0).2.1 0) (wn * 4 + tn) v = upd S.1.2.1 (wn * 4 + tn) v
        rw [hI.2.1.1]
      · refine ⟨(okT_mono hT (Nat.le_succ c)).1, fun j => ?_, hT.2.2⟩
        show ∃ k, k < 100 ∧ upd S.1.2.1 (wn * 4 + tn) v j = nI k
        unfold upd
        split
        · obtain ⟨k, hk, rfl⟩ := nI_of h4
          rw [nI_ltI (by omega) (by omega)] at h6
          exact ⟨k, by omega, rfl⟩
        · exact hT.2.1 j
  refine o.run 100 [] ?_
  show Z _ _ _ _
  refine o.cV vX3_60 (c_isWay (x := w) e0) (fun w' rv _ hpo => ?_)
  obtain ⟨rfl, rfl⟩ := hpo
  refine o.run 100 [17] ⟨fun q => bad ?_, fun q => ?_⟩
  · rw [(zB_0 _).mp q]; rfl
  · have hq1 := zB_t q
    show Z _ _ _ _
    refine o.cS vX3_64 (c_isWeather (x := t)) (fun rv hpo => ?_)
    subst hpo
    refine o.run 100 [17, 21] ⟨fun q => good ?_, fun q => bad ?_⟩
    · rw [hq1, zB_t q]; rfl
    · rw [(zB_0 _).mp q, Bool.and_false]

set_option maxRecDepth 10000 in
theorem y_bestWay (h : repY RL Y S c) {t : Int32} : zPub l D C yX3_bestWay cX3_bestWay 2 2 [.int t] Y RL c (sBestWay S t) := by
  have hI := h.2.1.1
  have hT := h.2.1.2
  have hWb : S.1.1 0 ≤ 6 := hT.1.1
  have hnb : S.1.1 3 ≤ 8 := hT.1.2.2.2.2.1
  have hrb : S.1.1 2 ≤ 10 := hT.1.2.2.2.1
  have e0 : (Y.1 0).1 0 = nI (S.1.1 0) := hI.1.1
  have e3 : (Y.1 0).1 3 = nI (S.1.1 2) := hI.1.2.2.2.1
  have e4 : (Y.1 0).1 4 = nI (S.1.1 3) := hI.1.2.2.2.2.1
  refine zFun_of (by decide) oX3_bestWay tbX3 (Nat.le_of_ble_eq_true rfl) (fun Z o => ?_)
  refine o.run 100 [] ?_
  show Z _ _ _ _
  refine o.cS vX3_64 (c_isWeather (x := t)) (fun rv hpo => ?_)
  subst hpo
  refine o.run 100 [] ⟨fun q => ⟨fun q2 => ?_, fun q2 => ?_⟩, fun q => ?_⟩
  · have ht := zB_t q
    obtain ⟨et, htl⟩ := isN_cl (by omega) ht
    have q2 : ¬ (Y.1 0).1 0 = 0 := q2
    have hW0 : ¬ S.1.1 0 = 0 := fun z => q2 (by rw [e0, z]; exact nI_0)
    show Z 35 (yamW 53 Y ++ pol 53 RL) [some (.ref 0), some (.int t)] [.int t, .ref 1]
    obtain ⟨tn, htn⟩ : ∃ k, k = cl t := ⟨_, rfl⟩
    rw [← htn] at et htl
    subst et
    refine o.yAr 0 (by omega) vX3_77 (c_bestIn (I := Y.1 0) (W := S.1.1 0) (t := tn) hWb htl e0) (fun rv hpo => ?_)
    subst hpo
    refine o.run 100 [] (pret (A' := (nI (bst ((Y.1 0).2.1 0) tn (S.1.1 0 - 1)), S)) ?_ Y (rep_mono h (Nat.le_succ c)))
    rw [sBestWay, if_pos ht, if_neg hW0, hI.2.1.1, ← htn]
  · have ht := zB_t q
    have q2 : (Y.1 0).1 0 = 0 := q2
    have hW0 : S.1.1 0 = 0 := by
      rcases Nat.eq_zero_or_pos (S.1.1 0) with z | z
      · exact z
      · rw [e0] at q2; exact absurd q2 (nI_ne0 z (by omega))
    show Z _ _ _ _
    refine o.cV vX3_48 (c_refuse (k := 3) (by omega) (by omega)) (fun w' rv _ hpo => ?_)
    obtain ⟨rfl, rfl⟩ := hpo
    exact o.run 100 [] (pret (A' := sRf S 3) (by rw [sBestWay, if_pos ht, if_pos hW0]) _ (rep_rf h 3))
  · have ht := (zB_0 _).mp q
    show Z _ _ _ _
    refine o.cV vX3_48 (c_refuse (k := 1) (by omega) (by omega)) (fun w' rv _ hpo => ?_)
    obtain ⟨rfl, rfl⟩ := hpo
    exact o.run 100 [] (pret (A' := sRf S 1) (by rw [sBestWay, ht]; rfl) _ (rep_rf h 1))

set_option maxRecDepth 10000 in
theorem y_weather (h : repY RL Y S c) {y : Int32} : zPub l D C yX3_weather cX3_weather 3 1 [.int y] Y RL c (sWeather S y) := by
  have hI := h.2.1.1
  have hT := h.2.1.2
  have hWb : S.1.1 0 ≤ 6 := hT.1.1
  have hnb : S.1.1 3 ≤ 8 := hT.1.2.2.2.2.1
  have hrb : S.1.1 2 ≤ 10 := hT.1.2.2.2.1
  have e0 : (Y.1 0).1 0 = nI (S.1.1 0) := hI.1.1
  have e3 : (Y.1 0).1 3 = nI (S.1.1 2) := hI.1.2.2.2.1
  have e4 : (Y.1 0).1 4 = nI (S.1.1 3) := hI.1.2.2.2.2.1
  refine zFun_of (by decide) oX3_weather tbX3 (Nat.le_of_ble_eq_true rfl) (fun Z o => ?_)
  refine o.run 100 [] ?_
  show Z _ _ _ _
  refine o.cS vX3_67 (c_whyOutside (x := y) (lo := nI 0) (hi := 999999)) (fun rv hpo => ?_)
  subst hpo
  by_cases h4 : y < 0
  · have e : whO y (nI 0) (999999) = -(nI 4) := by rw [whO, nI_0, if_pos h4]; rfl
    rw [e]
    refine o.run 100 [] ⟨fun q => absurd q (by decide), fun _ => ?_⟩
    show Z _ _ _ _
    refine o.cV vX3_48 (c_refuse (k := 4) (by omega) (by omega)) (fun w' rv _ hpo => ?_)
    obtain ⟨rfl, rfl⟩ := hpo
    exact o.run 100 [] (pret (A' := sRf S 4) (by rw [sWeather, if_pos h4]) _ (rep_rf h 4))
  by_cases h6 : 999999 < y
  · have e : whO y (nI 0) (999999) = -(nI 6) := by rw [whO, nI_0, if_neg h4, if_pos h6]; rfl
    rw [e]
    refine o.run 100 [] ⟨fun q => absurd q (by decide), fun _ => ?_⟩
    show Z _ _ _ _
    refine o.cV vX3_48 (c_refuse (k := 6) (by omega) (by omega)) (fun w' rv _ hpo => ?_)
    obtain ⟨rfl, rfl⟩ := hpo
    exact o.run 100 [] (pret (A' := sRf S 6) (by rw [sWeather, if_neg h4, if_pos h6]) _ (rep_rf h 6))
  have e : whO y (nI 0) (999999) = nI 0 := by rw [whO, nI_0, if_neg h4, if_neg h6]
  rw [e]
  refine o.run 100 [] ⟨fun _ => ?_, fun q => absurd nI_0 q⟩
  show Z 25 (yamW 53 Y ++ pol 53 RL) [some (.ref 0), some (.int y), some (.int (nI 0))] [.int y, .ref 1]
  have hy2 : ¬ nI 999999 < y := h6
  obtain ⟨yn, hyn, rfl⟩ := nI_of h4
  rw [nI_ltI (by omega) (by omega)] at hy2
  refine o.yAr 0 (by omega) vX3_87 (c_weatherOf (I := Y.1 0) (y := yn) (s0 := 0) (L := S.1.1 1) (by omega) (Nat.zero_le _) hT.1.2.1 hT.1.2.2.1 hI.1.2.1 hI.1.2.2.1) (fun rv hpo => ?_)
  subst hpo
  refine o.run 100 [] (pret (A' := ((Y.1 0).2.1 1 ((yn - 0) % S.1.1 1), S)) ?_ Y (rep_mono h (Nat.le_succ c)))
  rw [sWeather, if_neg h4, if_neg h6, hI.2.1.2.1, show cl (nI yn) = yn from nI_clamp (by omega)]
  rfl

set_option maxRecDepth 10000 in
theorem y_person (h : repY RL Y S c) {w r : Int32} : zPub l D C yX3_person cX3_person 3 1 [.int w, .int r] Y RL c (sPerson S w r) := by
  have hI := h.2.1.1
  have hT := h.2.1.2
  have hWb : S.1.1 0 ≤ 6 := hT.1.1
  have hnb : S.1.1 3 ≤ 8 := hT.1.2.2.2.2.1
  have hrb : S.1.1 2 ≤ 10 := hT.1.2.2.2.1
  have e0 : (Y.1 0).1 0 = nI (S.1.1 0) := hI.1.1
  have e3 : (Y.1 0).1 3 = nI (S.1.1 2) := hI.1.2.2.2.1
  have e4 : (Y.1 0).1 4 = nI (S.1.1 3) := hI.1.2.2.2.2.1
  refine zFun_of (by decide) oX3_person tbX3 (Nat.le_of_ble_eq_true rfl) (fun Z o => ?_)
  have bad : ((isN w (S.1.1 0) && isN r (S.1.1 2))) = false → Z 18 (yamW 53 Y ++ pol 53 RL) [some (.ref 0), some (.int w), some (.int r)] [.int (zi (-1)), .ref 0] := fun hf => by
    refine o.cV vX3_48 (c_refuse (k := 1) (by omega) (by omega)) (fun w' rv _ hpo => ?_)
    obtain ⟨rfl, rfl⟩ := hpo
    exact o.run 100 [] (pret (A' := sRf S 1) (by rw [sPerson, hf]; rfl) _ (rep_rf h 1))
  have good : (isN w (S.1.1 0) && isN r (S.1.1 2)) = true → Z 22 (yamW 53 Y ++ pol 53 RL) [some (.ref 0), some (.int w), some (.int r)] [] := fun hb => by
    obtain ⟨hq1, hq2⟩ := Bool.and_eq_true_iff.mp hb
    obtain ⟨ew, hwl⟩ := isN_cl (by omega) hq1
    obtain ⟨et, htl⟩ := isN_cl (by omega) hq2
    obtain ⟨wn, hwn⟩ : ∃ k, k = cl w := ⟨_, rfl⟩
    obtain ⟨rn, hrn⟩ : ∃ k, k = cl r := ⟨_, rfl⟩
    rw [← hwn] at ew hwl
    rw [← hrn] at et htl
    refine o.run 100 [] ⟨fun q => ?_, fun q => ?_⟩
    · have q : (Y.1 0).1 4 < nI 8 := q
      rw [e4, nI_ltI (by omega) (by omega)] at q
      have h8 : ¬ S.1.1 3 = 8 := by omega
      show Z 47 (yamW 53 Y ++ pol 53 RL) [some (.ref 0), some (.int w), some (.int r)] [.int r, .int w, .ref 1]
      subst ew et
      refine o.yA 0 (Q := fun I rv => I = setS (setA (setA (setA (setA (Y.1 0) 2 (upd ((Y.1 0).2.1 2) (S.1.1 3) (nI wn))) 3 (upd ((Y.1 0).2.1 3) (S.1.1 3) (nI rn))) 4 (upd ((Y.1 0).2.1 4) (S.1.1 3) (nI 255))) 5 (upd ((Y.1 0).2.1 5) (S.1.1 3) (nI 0))) 4 (nI (S.1.1 3 + 1)) ∧ rv = some (.int (nI (S.1.1 3)))) (by omega) vX3_117 (c_addPerson (I := Y.1 0) (n := S.1.1 3) (a := nI wn) (b := nI rn) q e4) (fun w rv hpo => ⟨_, hpo.1, rfl, hpo.2⟩) (fun I rv hq => ?_)
      obtain ⟨rfl, rfl⟩ := hq
      refine o.run 100 [] (pret (A' := (nI (S.1.1 3), sW S (tN (tX (tX (tR (tR S.1 1 (updN (S.1.2.2.1 1) (S.1.1 3) wn)) 2 (updN (S.1.2.2.1 2) (S.1.1 3) rn)) 0 (upd (S.1.2.2.2.1 0) (S.1.1 3) (nI 255))) 1 (upd (S.1.2.2.2.1 1) (S.1.1 3) (nI 0))) 3 (S.1.1 3 + 1)))) ?_ _ ?_)
      · rw [sPerson, if_pos hb, if_neg h8, ← hwn, ← hrn]
      · obtain ⟨b0, b1, b2, b3, b4, b5⟩ := hI.2.1
        refine repY_J h (repI_set hI rfl rfl rfl ⟨hI.1.1, hI.1.2.1, hI.1.2.2.1, hI.1.2.2.2.1, rfl, hI.1.2.2.2.2.2⟩ ⟨b0, b1, ?_, ?_, ?_, ?_⟩) ?_ (Nat.le_succ c)
        · show upd ((Y.1 0).2.1 2) (S.1.1 3) (nI wn) = _
          rw [b2]; exact upd_nI _ _ _
        · show upd ((Y.1 0).2.1 3) (S.1.1 3) (nI rn) = _
          rw [b3]; exact upd_nI _ _ _
        · show upd ((Y.1 0).2.1 4) (S.1.1 3) (nI 255) = upd (S.1.2.2.2.1 0) (S.1.1 3) (nI 255)
          rw [b4]
        · show upd ((Y.1 0).2.1 5) (S.1.1 3) (nI 0) = upd (S.1.2.2.2.1 1) (S.1.1 3) (nI 0)
          rw [b5]
        · exact okT_person (okT_mono hT (Nat.le_succ c)) q hwl htl
    · have q : ¬ (Y.1 0).1 4 < nI 8 := q
      rw [e4, nI_ltI (by omega) (by omega)] at q
      have h8 : S.1.1 3 = 8 := by omega
      show Z _ _ _ _
      refine o.cV vX3_48 (c_refuse (k := 6) (by omega) (by omega)) (fun w' rv _ hpo => ?_)
      obtain ⟨rfl, rfl⟩ := hpo
      exact o.run 100 [] (pret (A' := sRf S 6) (by rw [sPerson, if_pos hb, if_pos h8]) _ (rep_rf h 6))

  refine o.run 100 [] ?_
  show Z _ _ _ _
  refine o.cV vX3_60 (c_isWay (x := w) e0) (fun w' rv _ hpo => ?_)
  obtain ⟨rfl, rfl⟩ := hpo
  refine o.run 100 [18] ⟨fun q => bad ?_, fun q => ?_⟩
  · rw [(zB_0 _).mp q]; rfl
  · have hq1 := zB_t q
    show Z _ _ _ _
    refine o.cV vX3_111 (c_isRule (x := r) e3) (fun w' rv _ hpo => ?_)
    obtain ⟨rfl, rfl⟩ := hpo
    refine o.run 100 [18, 22] ⟨fun q => good ?_, fun q => bad ?_⟩
    · rw [hq1, zB_t q]; rfl
    · rw [(zB_0 _).mp q, Bool.and_false]

set_option maxRecDepth 10000 in
theorem y_lives (h : repY RL Y S c) {p r : Int32} : zPub l D C yX3_lives cX3_lives 3 1 [.int p, .int r] Y RL c (sLives S p r) := by
  have hI := h.2.1.1
  have hT := h.2.1.2
  have hWb : S.1.1 0 ≤ 6 := hT.1.1
  have hnb : S.1.1 3 ≤ 8 := hT.1.2.2.2.2.1
  have hrb : S.1.1 2 ≤ 10 := hT.1.2.2.2.1
  have e0 : (Y.1 0).1 0 = nI (S.1.1 0) := hI.1.1
  have e3 : (Y.1 0).1 3 = nI (S.1.1 2) := hI.1.2.2.2.1
  have e4 : (Y.1 0).1 4 = nI (S.1.1 3) := hI.1.2.2.2.2.1
  refine zFun_of (by decide) oX3_lives tbX3 (Nat.le_of_ble_eq_true rfl) (fun Z o => ?_)
  have bad : ((isN p (S.1.1 3) && isN r (S.1.1 2))) = false → Z 18 (yamW 53 Y ++ pol 53 RL) [some (.ref 0), some (.int p), some (.int r)] [.int (zi (-1)), .ref 0] := fun hf => by
    refine o.cV vX3_48 (c_refuse (k := 1) (by omega) (by omega)) (fun w' rv _ hpo => ?_)
    obtain ⟨rfl, rfl⟩ := hpo
    exact o.run 100 [] (pret (A' := sRf S 1) (by rw [sLives, hf]; rfl) _ (rep_rf h 1))
  have good : (isN p (S.1.1 3) && isN r (S.1.1 2)) = true → Z 22 (yamW 53 Y ++ pol 53 RL) [some (.ref 0), some (.int p), some (.int r)] [] := fun hb => by
    obtain ⟨hq1, hq2⟩ := Bool.and_eq_true_iff.mp hb
    obtain ⟨ew, hwl⟩ := isN_cl (by omega) hq1
    obtain ⟨et, htl⟩ := isN_cl (by omega) hq2
    obtain ⟨pn, hpn⟩ : ∃ k, k = cl p := ⟨_, rfl⟩
    obtain ⟨rn, hrn⟩ : ∃ k, k = cl r := ⟨_, rfl⟩
    rw [← hpn] at ew hwl
    rw [← hrn] at et htl
    subst ew et
    refine o.run 100 [] ?_
    show Z 31 (yamW 53 Y ++ pol 53 RL) _ [.int (nI rn), .int (nI pn), .ref 6]
    refine o.cS1 (a := 6) (Bs := [.int (nI pn), .int (nI rn)]) (P2 := fun rv => rv = some (.int ((Y.1 0).2.1 3 pn))) vX3_126 (c_exchange (m := 8) (j := pn) (f := (Y.1 0).2.1 3) (x := nI rn) (by omega) (by omega)) rfl (fun rv hrv => ?_)
    subst hrv
    refine o.run 100 [] (pret (Y' := setJ Y 0 (setA (Y.1 0) 3 (upd ((Y.1 0).2.1 3) pn (nI rn)))) (A' := ((Y.1 0).2.1 3 pn, sW S (tR S.1 2 (updN (ruT S.1) pn rn)))) ?_ ?_)
    · rw [sLives, if_pos hb, ← hpn, ← hrn, hI.2.1.2.2.2.1]
    · obtain ⟨b0, b1, b2, b3, b4, b5⟩ := hI.2.1
      refine repY_J h (repI_set hI rfl rfl rfl hI.1 ⟨b0, b1, b2, ?_, b4, b5⟩) ?_ (Nat.le_succ c)
      · show upd ((Y.1 0).2.1 3) pn (nI rn) = _
        rw [b3]; exact upd_nI _ _ _
      · exact okT_lives (okT_mono hT (Nat.le_succ c)) htl

  refine o.run 100 [] ?_
  show Z _ _ _ _
  refine o.cV vX3_120 (c_isPerson (x := p) e4) (fun w' rv _ hpo => ?_)
  obtain ⟨rfl, rfl⟩ := hpo
  refine o.run 100 [18] ⟨fun q => bad ?_, fun q => ?_⟩
  · rw [(zB_0 _).mp q]; rfl
  · have hq1 := zB_t q
    show Z _ _ _ _
    refine o.cV vX3_111 (c_isRule (x := r) e3) (fun w' rv _ hpo => ?_)
    obtain ⟨rfl, rfl⟩ := hpo
    refine o.run 100 [18, 22] ⟨fun q => good ?_, fun q => bad ?_⟩
    · rw [hq1, zB_t q]; rfl
    · rw [(zB_0 _).mp q, Bool.and_false]

set_option maxRecDepth 10000 in
theorem y_plants (h : repY RL Y S c) {p r : Int32} : zPub l D C yX3_plants cX3_plants 3 1 [.int p, .int r] Y RL c (sPlants S p r) := by
  have hI := h.2.1.1
  have hT := h.2.1.2
  have hWb : S.1.1 0 ≤ 6 := hT.1.1
  have hnb : S.1.1 3 ≤ 8 := hT.1.2.2.2.2.1
  have hrb : S.1.1 2 ≤ 10 := hT.1.2.2.2.1
  have e0 : (Y.1 0).1 0 = nI (S.1.1 0) := hI.1.1
  have e3 : (Y.1 0).1 3 = nI (S.1.1 2) := hI.1.2.2.2.1
  have e4 : (Y.1 0).1 4 = nI (S.1.1 3) := hI.1.2.2.2.2.1
  refine zFun_of (by decide) oX3_plants tbX3 (Nat.le_of_ble_eq_true rfl) (fun Z o => ?_)
  have bad : ((isN p (S.1.1 3) && isN r (S.1.1 0))) = false → Z 18 (yamW 53 Y ++ pol 53 RL) [some (.ref 0), some (.int p), some (.int r)] [.int (zi (-1)), .ref 0] := fun hf => by
    refine o.cV vX3_48 (c_refuse (k := 1) (by omega) (by omega)) (fun w' rv _ hpo => ?_)
    obtain ⟨rfl, rfl⟩ := hpo
    exact o.run 100 [] (pret (A' := sRf S 1) (by rw [sPlants, hf]; rfl) _ (rep_rf h 1))
  have good : (isN p (S.1.1 3) && isN r (S.1.1 0)) = true → Z 22 (yamW 53 Y ++ pol 53 RL) [some (.ref 0), some (.int p), some (.int r)] [] := fun hb => by
    obtain ⟨hq1, hq2⟩ := Bool.and_eq_true_iff.mp hb
    obtain ⟨ew, hwl⟩ := isN_cl (by omega) hq1
    obtain ⟨et, htl⟩ := isN_cl (by omega) hq2
    obtain ⟨pn, hpn⟩ : ∃ k, k = cl p := ⟨_, rfl⟩
    obtain ⟨rn, hrn⟩ : ∃ k, k = cl r := ⟨_, rfl⟩
    rw [← hpn] at ew hwl
    rw [← hrn] at et htl
    subst ew et
    refine o.run 100 [] ?_
    show Z 31 (yamW 53 Y ++ pol 53 RL) _ [.int (nI rn), .int (nI pn), .ref 5]
    refine o.cS1 (a := 5) (Bs := [.int (nI pn), .int (nI rn)]) (P2 := fun rv => rv = some (.int ((Y.1 0).2.1 2 pn))) vX3_126 (c_exchange (m := 8) (j := pn) (f := (Y.1 0).2.1 2) (x := nI rn) (by omega) (by omega)) rfl (fun rv hrv => ?_)
    subst hrv
    refine o.run 100 [] (pret (Y' := setJ Y 0 (setA (Y.1 0) 2 (upd ((Y.1 0).2.1 2) pn (nI rn)))) (A' := ((Y.1 0).2.1 2 pn, sW S (tR S.1 1 (updN (S.1.2.2.1 1) pn rn)))) ?_ ?_)
    · rw [sPlants, if_pos hb, ← hpn, ← hrn, hI.2.1.2.2.1]
    · obtain ⟨b0, b1, b2, b3, b4, b5⟩ := hI.2.1
      refine repY_J h (repI_set hI rfl rfl rfl hI.1 ⟨b0, b1, ?_, b3, b4, b5⟩) ?_ (Nat.le_succ c)
      · show upd ((Y.1 0).2.1 2) pn (nI rn) = _
        rw [b2]; exact upd_nI _ _ _
      · exact okT_plants (okT_mono hT (Nat.le_succ c)) htl

  refine o.run 100 [] ?_
  show Z _ _ _ _
  refine o.cV vX3_120 (c_isPerson (x := p) e4) (fun w' rv _ hpo => ?_)
  obtain ⟨rfl, rfl⟩ := hpo
  refine o.run 100 [18] ⟨fun q => bad ?_, fun q => ?_⟩
  · rw [(zB_0 _).mp q]; rfl
  · have hq1 := zB_t q
    show Z _ _ _ _
    refine o.cV vX3_60 (c_isWay (x := r) e0) (fun w' rv _ hpo => ?_)
    obtain ⟨rfl, rfl⟩ := hpo
    refine o.run 100 [18, 22] ⟨fun q => good ?_, fun q => bad ?_⟩
    · rw [hq1, zB_t q]; rfl
    · rw [(zB_0 _).mp q, Bool.and_false]

set_option maxRecDepth 10000 in
theorem y_sees (h : repY RL Y S c) {p x : Int32} : zPub l D C yX3_sees cX3_sees 4 1 [.int p, .int x] Y RL c (sSees S p x) := by
  have hI := h.2.1.1
  have hT := h.2.1.2
  have hWb : S.1.1 0 ≤ 6 := hT.1.1
  have hnb : S.1.1 3 ≤ 8 := hT.1.2.2.2.2.1
  have hrb : S.1.1 2 ≤ 10 := hT.1.2.2.2.1
  have e0 : (Y.1 0).1 0 = nI (S.1.1 0) := hI.1.1
  have e3 : (Y.1 0).1 3 = nI (S.1.1 2) := hI.1.2.2.2.1
  have e4 : (Y.1 0).1 4 = nI (S.1.1 3) := hI.1.2.2.2.2.1
  refine zFun_of (by decide) oX3_sees tbX3 (Nat.le_of_ble_eq_true rfl) (fun Z o => ?_)
  refine o.run 100 [] ?_
  show Z _ _ _ _
  refine o.cV vX3_120 (c_isPerson (x := p) e4) (fun w' rv _ hpo => ?_)
  obtain ⟨rfl, rfl⟩ := hpo
  refine o.run 100 [] ⟨fun q => ⟨fun q2 => absurd q2 (by decide), fun _ => ?_⟩, fun q => ?_⟩
  · show Z _ _ _ _
    refine o.cV vX3_48 (c_refuse (k := 1) (by omega) (by omega)) (fun w' rv _ hpo => ?_)
    obtain ⟨rfl, rfl⟩ := hpo
    exact o.run 100 [] (pret (A' := sRf S 1) (by rw [sSees, (zB_0 _).mp q]; rfl) _ (rep_rf h 1))
  · have hp := zB_t q
    obtain ⟨ep, hpl⟩ := isN_cl (by omega) hp
    show Z _ _ _ _
    refine o.cS vX3_67 (c_whyOutside (x := x) (lo := nI 0) (hi := nI 255)) (fun rv hpo => ?_)
    subst hpo
    by_cases h4 : x < 0
    · have e : whO x (nI 0) (nI 255) = -(nI 4) := by rw [whO, nI_0, if_pos h4]; rfl
      rw [e]
      refine o.run 100 [] ⟨fun q => absurd q (by decide), fun _ => ?_⟩
      show Z _ _ _ _
      refine o.cV vX3_48 (c_refuse (k := 4) (by omega) (by omega)) (fun w' rv _ hpo => ?_)
      obtain ⟨rfl, rfl⟩ := hpo
      exact o.run 100 [] (pret (A' := sRf S 4) (by rw [sSees, if_pos hp, if_pos h4]) _ (rep_rf h 4))
    by_cases h6 : nI 255 < x
    · have e : whO x (nI 0) (nI 255) = -(nI 6) := by rw [whO, nI_0, if_neg h4, if_pos h6]; rfl
      rw [e]
      refine o.run 100 [] ⟨fun q => absurd q (by decide), fun _ => ?_⟩
      show Z _ _ _ _
      refine o.cV vX3_48 (c_refuse (k := 6) (by omega) (by omega)) (fun w' rv _ hpo => ?_)
      obtain ⟨rfl, rfl⟩ := hpo
      exact o.run 100 [] (pret (A' := sRf S 6) (by rw [sSees, if_pos hp, if_neg h4, if_pos h6]) _ (rep_rf h 6))
    have e : whO x (nI 0) (nI 255) = nI 0 := by rw [whO, nI_0, if_neg h4, if_neg h6]
    rw [e]
    refine o.run 100 [] ⟨fun _ => ?_, fun q => absurd nI_0 q⟩
    obtain ⟨pn, hpn⟩ : ∃ k, k = cl p := ⟨_, rfl⟩
    rw [← hpn] at ep hpl
    subst ep
    show Z 42 (yamW 53 Y ++ pol 53 RL) _ [.int x, .int (nI pn), .ref 7]
    refine o.cS1 (a := 7) (Bs := [.int (nI pn), .int x]) (P2 := fun rv => rv = some (.int ((Y.1 0).2.1 4 pn))) vX3_126 (c_exchange (m := 8) (j := pn) (f := (Y.1 0).2.1 4) (x := x) (by omega) (by omega)) rfl (fun rv hrv => ?_)
    subst hrv
    refine o.run 100 [] (pret (Y' := setJ Y 0 (setA (Y.1 0) 4 (upd ((Y.1 0).2.1 4) pn x))) (A' := ((Y.1 0).2.1 4 pn, sW S (tX S.1 0 (upd (S.1.2.2.2.1 0) pn x)))) ?_ ?_)
    · rw [sSees, if_pos hp, if_neg h4, if_neg h6, ← hpn, hI.2.1.2.2.2.2.1]
    · obtain ⟨b0, b1, b2, b3, b4, b5⟩ := hI.2.1
      refine repY_J h (repI_set hI rfl rfl rfl hI.1 ⟨b0, b1, b2, b3, ?_, b5⟩) (okT_mono hT (Nat.le_succ c)) (Nat.le_succ c)
      show upd ((Y.1 0).2.1 4) pn x = upd (S.1.2.2.2.1 0) pn x
      rw [b4]

set_option maxRecDepth 10000 in
theorem y_show (h : repY RL Y S c) {x : Int32} : zPub l D C yX3_show cX3_show 4 1 [.int x] Y RL c (sShow S x) := by
  have hI := h.2.1.1
  have hT := h.2.1.2
  have hWb : S.1.1 0 ≤ 6 := hT.1.1
  have hnb : S.1.1 3 ≤ 8 := hT.1.2.2.2.2.1
  have hrb : S.1.1 2 ≤ 10 := hT.1.2.2.2.1
  have e0 : (Y.1 0).1 0 = nI (S.1.1 0) := hI.1.1
  have e3 : (Y.1 0).1 3 = nI (S.1.1 2) := hI.1.2.2.2.1
  have e4 : (Y.1 0).1 4 = nI (S.1.1 3) := hI.1.2.2.2.2.1
  refine zFun_of (by decide) oX3_show tbX3 (Nat.le_of_ble_eq_true rfl) (fun Z o => ?_)
  refine o.run 100 [] ?_
  show Z _ _ _ _
  refine o.cS vX3_67 (c_whyOutside (x := x) (lo := nI 0) (hi := nI 24)) (fun rv hpo => ?_)
  subst hpo
  by_cases h4 : x < 0
  · have e : whO x (nI 0) (nI 24) = -(nI 4) := by rw [whO, nI_0, if_pos h4]; rfl
    rw [e]
    refine o.run 100 [] ⟨fun q => absurd q (by decide), fun _ => ?_⟩
    show Z _ _ _ _
    refine o.cV vX3_48 (c_refuse (k := 4) (by omega) (by omega)) (fun w' rv _ hpo => ?_)
    obtain ⟨rfl, rfl⟩ := hpo
    exact o.run 100 [] (pret (A' := sRf S 4) (by rw [sShow, if_pos h4]) _ (rep_rf h 4))
  by_cases h6 : nI 24 < x
  · have e : whO x (nI 0) (nI 24) = -(nI 6) := by rw [whO, nI_0, if_neg h4, if_pos h6]; rfl
    rw [e]
    refine o.run 100 [] ⟨fun q => absurd q (by decide), fun _ => ?_⟩
    show Z _ _ _ _
    refine o.cV vX3_48 (c_refuse (k := 6) (by omega) (by omega)) (fun w' rv _ hpo => ?_)
    obtain ⟨rfl, rfl⟩ := hpo
    exact o.run 100 [] (pret (A' := sRf S 6) (by rw [sShow, if_neg h4, if_pos h6]) _ (rep_rf h 6))
  have e : whO x (nI 0) (nI 24) = nI 0 := by rw [whO, nI_0, if_neg h4, if_neg h6]
  rw [e]
  obtain ⟨s, hs, rfl⟩ := nI_of h4
  have hs2 : ¬ nI 24 < nI s := h6
  rw [nI_ltI (by omega) (by omega)] at hs2
  refine o.run 100 [] ⟨fun _ => pret (Y' := setJ Y 0 (setS (Y.1 0) 6 (nI s))) (A' := ((Y.1 0).1 6, sW S (tN S.1 5 s))) ?_ ?_, fun q => absurd nI_0 q⟩
  · rw [sShow, if_neg h4, if_neg h6, hI.1.2.2.2.2.2.2.1, show cl (nI s) = s from nI_clamp (by omega)]
  · refine repY_J h (repI_set hI rfl rfl rfl ⟨hI.1.1, hI.1.2.1, hI.1.2.2.1, hI.1.2.2.2.1, hI.1.2.2.2.2.1, hI.1.2.2.2.2.2.1, rfl, hI.1.2.2.2.2.2.2.2⟩ hI.2.1) ?_ (Nat.le_succ c)
    obtain ⟨⟨c0, c1, c2, c3, c4, c5, c6⟩, d1⟩ := okT_mono hT (Nat.le_succ c)
    exact ⟨⟨c0, c1, c2, c3, c4, c5, by show s ≤ 24; omega⟩, d1⟩

set_option maxRecDepth 10000 in
theorem y_share (h : repY RL Y S c) {w : Int32} : zPub l D C yX3_share cX3_share 2 1 [.int w] Y RL c (sShare S w) := by
  have hI := h.2.1.1
  have hT := h.2.1.2
  have hWb : S.1.1 0 ≤ 6 := hT.1.1
  have hnb : S.1.1 3 ≤ 8 := hT.1.2.2.2.2.1
  have hrb : S.1.1 2 ≤ 10 := hT.1.2.2.2.1
  have e0 : (Y.1 0).1 0 = nI (S.1.1 0) := hI.1.1
  have e3 : (Y.1 0).1 3 = nI (S.1.1 2) := hI.1.2.2.2.1
  have e4 : (Y.1 0).1 4 = nI (S.1.1 3) := hI.1.2.2.2.2.1
  refine zFun_of (by decide) oX3_share tbX3 (Nat.le_of_ble_eq_true rfl) (fun Z o => ?_)
  refine o.run 100 [] ?_
  show Z _ _ _ _
  refine o.cV vX3_60 (c_isWay (x := w) e0) (fun w' rv _ hpo => ?_)
  obtain ⟨rfl, rfl⟩ := hpo
  refine o.run 100 [] ⟨fun q => ?_, fun q => ?_⟩
  · show Z _ _ _ _
    refine o.cV vX3_48 (c_refuse (k := 1) (by omega) (by omega)) (fun w' rv _ hpo => ?_)
    obtain ⟨rfl, rfl⟩ := hpo
    exact o.run 100 [] (pret (A' := sRf S 1) (by rw [sShare, (zB_0 _).mp q]; rfl) _ (rep_rf h 1))
  · have hp := zB_t q
    obtain ⟨ep, hpl⟩ := isN_cl (by omega) hp
    show Z _ _ _ _
    refine o.yAr 0 (by omega) vX3_157 (c_plantersOf (I := Y.1 0) (n := S.1.1 3) (x := w) hnb e4) (fun rv hpo => ?_)
    subst hpo
    refine o.run 100 [] (pret (A' := (nI (cnt (fun p => decide ((Y.1 0).2.1 2 p = w)) (S.1.1 3)), S)) ?_ Y (rep_mono h (Nat.le_succ c)))
    rw [sShare, if_pos hp]
    congr 2
    refine cnt_congr _ (fun i ho => ?_)
    rw [hI.2.1.2.2.1]
    have hv := (hT.2.2.1 i).2.1
    obtain ⟨wn, hwn⟩ : ∃ k, k = cl w := ⟨_, rfl⟩
    rw [← hwn] at ep hpl ⊢
    subst ep
    show decide (_ = wn) = decide (nI _ = nI wn)
    exact decide_eq_decide.mpr (nI_eq (by omega) (by omega)).symm

set_option maxRecDepth 10000 in
theorem y_image (h : repY RL Y S c)  : zPub l D C yX3_image cX3_image 1 2 [] Y RL c (sImage S) := by
  have hI := h.2.1.1
  have hT := h.2.1.2
  have hWb : S.1.1 0 ≤ 6 := hT.1.1
  have hnb : S.1.1 3 ≤ 8 := hT.1.2.2.2.2.1
  have hrb : S.1.1 2 ≤ 10 := hT.1.2.2.2.1
  have e0 : (Y.1 0).1 0 = nI (S.1.1 0) := hI.1.1
  have e3 : (Y.1 0).1 3 = nI (S.1.1 2) := hI.1.2.2.2.1
  have e4 : (Y.1 0).1 4 = nI (S.1.1 3) := hI.1.2.2.2.2.1
  refine zFun_of (by decide) oX3_image tbX3 (Nat.le_of_ble_eq_true rfl) (fun Z o => ?_)
  refine o.run 100 [] ?_
  show Z _ _ _ _
  refine o.yC 1 0 (by omega) (by omega) (by omega) vX3_210 (c_copyFrom (I := Y.1 1) (O := Y.1 0) hI.2.2.2) (fun rv hpo => ?_)
  subst hpo
  refine o.run 100 [] ⟨Or.inr rfl, pret (Y' := setN (setJ Y 1 (cpI (Y.1 1) (Y.1 0))) 2 (nI 1)) (A' := ((Y.1 0).1 5, (S.1, some S.1, S.2.2))) ?_ ?_⟩
  · rw [sImage, hI.1.2.2.2.2.2.1]
  · obtain ⟨h1, ⟨h2, h3⟩, -, h4⟩ := rep_mono h (Nat.le_succ c)
    exact ⟨h1, ⟨h2, h3⟩, ⟨h2, h3, rfl⟩, h4⟩

set_option maxRecDepth 10000 in
theorem y_restore (h : repY RL Y S c)  : zPub l D C yX3_restore cX3_restore 1 2 [] Y RL c (sRestore S) := by
  have hI := h.2.1.1
  have hT := h.2.1.2
  have hWb : S.1.1 0 ≤ 6 := hT.1.1
  have hnb : S.1.1 3 ≤ 8 := hT.1.2.2.2.2.1
  have hrb : S.1.1 2 ≤ 10 := hT.1.2.2.2.1
  have e0 : (Y.1 0).1 0 = nI (S.1.1 0) := hI.1.1
  have e3 : (Y.1 0).1 3 = nI (S.1.1 2) := hI.1.2.2.2.1
  have e4 : (Y.1 0).1 4 = nI (S.1.1 3) := hI.1.2.2.2.2.1
  refine zFun_of (by decide) oX3_restore tbX3 (Nat.le_of_ble_eq_true rfl) (fun Z o => ?_)
  have h3 := h.2.2.1
  revert h3
  generalize hS : S.2.1 = im
  cases im with
  | none =>
    intro h3
    refine o.run 100 [] ⟨fun q => absurd (show Y.2.2 2 = 0 by rw [h3]; exact nI_0) q, fun q => ?_⟩
    show Z _ _ _ _
    refine o.cV vX3_48 (c_refuse (k := 3) (by omega) (by omega)) (fun w' rv _ hpo => ?_)
    obtain ⟨rfl, rfl⟩ := hpo
    exact o.run 100 [] (pret (A' := sRf S 3) (by rw [sRestore, hS]) _ (rep_rf h 3))
  | some t =>
    intro h3
    obtain ⟨g1, g2, g3⟩ := h3
    refine o.run 100 [] ⟨fun q => ?_, fun q => absurd (show Y.2.2 2 = 0 from q) (by rw [g3]; decide)⟩
    show Z _ _ _ _
    refine o.yC 0 1 (by omega) (by omega) (by omega) vX3_210 (c_copyFrom (I := Y.1 0) (O := Y.1 1) g1.2.2.2) (fun rv hpo => ?_)
    subst hpo
    refine o.run 100 [] (pret (Y' := setJ Y 0 (cpI (Y.1 0) (Y.1 1))) (A' := ((Y.1 1).1 5, (t, S.2))) ?_ ?_)
    · rw [sRestore, hS, g1.1.2.2.2.2.2.1]
    · obtain ⟨k1, -, k3, k4⟩ := rep_mono h (Nat.le_succ c)
      exact ⟨k1, ⟨g1, okT_mono g2 (Nat.le_succ c)⟩, k3, k4⟩

end PUB
end
section
/-! the class's public methods, 2: runs -/
theorem tot_add {n : Nat} {b : Nat → Int32} {vv : Nat → Nat → Nat} {tw : Nat → Nat} {t0 : Nat → Int32} : ∀ m, tot n b vv tw t0 m = mix n (fun p => t0 p + tot n b vv tw (fun _ => nI 0) m p) t0
  | 0 => by
    funext p
    show t0 p = mix n (fun p => t0 p + nI 0) t0 p
    unfold mix
    split
    · show t0 p = t0 p + nI 0
      rw [nI_0, Int32.add_zero]
    · rfl
  | m + 1 => by
    funext p
    show mix n (fun p => tot n b vv tw t0 m p + b (vv m p * 4 + tw m)) (tot n b vv tw t0 m) p = mix n (fun p => t0 p + mix n (fun p => tot n b vv tw (fun _ => nI 0) m p + b (vv m p * 4 + tw m)) (tot n b vv tw (fun _ => nI 0) m) p) t0 p
    rw [tot_add m]
    by_cases hp : p < n
    · rw [mix_lt hp, mix_lt hp, mix_lt hp, mix_lt hp, Int32.add_assoc]
    · rw [mix_ge (by omega), mix_ge (by omega), mix_ge (by omega)]
theorem tot_bd {n : Nat} {b : Nat → Int32} {vv : Nat → Nat → Nat} {tw : Nat → Nat} (hb : ∀ j, ∃ k, k < 100 ∧ b j = nI k) : ∀ m p, ∃ s, s ≤ 99 * m ∧ tot n b vv tw (fun _ => nI 0) m p = nI s
  | 0, p => ⟨0, Nat.le_refl 0, rfl⟩
  | m + 1, p => by
    obtain ⟨s, hs, e⟩ := tot_bd hb m p
    obtain ⟨k, hk, ek⟩ := hb (vv m p * 4 + tw m)
    show ∃ s, s ≤ 99 * (m + 1) ∧ mix n (fun p => tot n b vv tw (fun _ => nI 0) m p + b (vv m p * 4 + tw m)) (tot n b vv tw (fun _ => nI 0) m) p = nI s
    by_cases hp : p < n
    · rw [mix_lt hp, e, ek, nI_add]; exact ⟨s + k, by omega, rfl⟩
    · rw [mix_ge (by omega), e]; exact ⟨s, by omega, rfl⟩
theorem sm_bd {f : Nat → Int32} {M : Nat} : ∀ n, (∀ p, p < n → ∃ s, s ≤ M ∧ f p = nI s) → ∃ s, s ≤ M * n ∧ sm f n = nI s
  | 0, _ => ⟨0, Nat.le_refl 0, by rw [nI_0]; rfl⟩
  | n + 1, h => by
    obtain ⟨s, hs, e⟩ := sm_bd n (fun p hp => h p (by omega))
    obtain ⟨k, hk, ek⟩ := h n (by omega)
    refine ⟨s + k, ?_, ?_⟩
    · rw [Nat.mul_succ]; omega
    · show sm f n + f n = _
      rw [e, ek, nI_add]
theorem rG_bd {t : zT} {c m : Nat} (ht : okT t c) (bl : Nat → Bool) (se : Nat → Int32) (sh : Nat) (ru tw : Nat → Nat) (p : Nat) : ∃ s, s ≤ 99 * m ∧ rG t bl se sh ru tw m p = nI s := tot_bd ht.2.1 m p
theorem rF_bd {t : zT} {c m : Nat} (ht : okT t c) (bl : Nat → Bool) (se : Nat → Int32) (sh : Nat) (ru tw : Nat → Nat) : ∃ s, s ≤ 99 * m * 8 ∧ rF t bl se sh ru tw m = nI s := by
  obtain ⟨s, hs, e⟩ := sm_bd (f := rG t bl se sh ru tw m) (M := 99 * m) (t.1 3) (fun p _ => rG_bd ht bl se sh ru tw p)
  refine ⟨s, Nat.le_trans hs ?_, e⟩
  exact Nat.mul_le_mul_left _ ht.1.2.2.2.2.1
theorem rF_pos {t : zT} {c m : Nat} (ht : okT t c) (hm : m ≤ 60) (bl : Nat → Bool) (se : Nat → Int32) (sh : Nat) (ru tw : Nat → Nat) : 0 ≤ rF t bl se sh ru tw m := by
  obtain ⟨s, hs, e⟩ := rF_bd (m := m) ht bl se sh ru tw
  rw [e]
  exact nI_pos' (by omega)
theorem cho_ltW {n W y : Nat} {v : Nat → Nat} {see : Nat → Bool} {br : Nat → Int32} {p : Nat} {sg : Int32} {K : Nat} (hp : p < n) (hv : ∀ q, q < n → v q < W) : cho n W y v see br p sg K < W := by
  have h0 := hv p hp
  unfold cho
  split
  · exact hv _ (bsn_lt hp n (Nat.le_refl n))
  · split
    · exact msn_lt h0 W (Nat.le_refl W)
    · split
      · generalize hq : nrb see p n = q
        cases q with
        | some j => exact hv j (Nat.lt_trans (nrb_lt n j hq) hp)
        | none => exact hv _ (nrl_lt hp n (Nat.le_refl n))
      · split
        · split
          · split <;> omega
          · exact h0
        · exact h0
theorem vat_ltW {n W : Nat} {b : Nat → Int32} {see : Nat → Nat → Nat → Bool} {dn : Nat → Int32 → Int32 × Nat} {tw : Nat → Nat} {y0 : Nat} {v : Nat → Nat} (hv : ∀ q, q < n → v q < W) : ∀ i q, q < n → vat n W b see dn tw y0 v i q < W
  | 0, q, hq => hv q hq
  | i + 1, q, hq => by
    show yst n W b (see (y0 + i)) dn (tw i) (y0 + i) (vat n W b see dn tw y0 v i) q < W
    unfold yst
    rw [if_pos hq]
    exact cho_ltW hq (vat_ltW hv i)
theorem okT_go {t : zT} {c m : Nat} (h : okT t c) (hm : m ≤ 60) : okT (goT t m) (c + 1) := by
  obtain ⟨⟨c0, c1, c2, c3, c4, c5, c6⟩, d1, d2, d3, d4⟩ := h
  refine ⟨⟨c0, c1, c2, c3, c4, by show t.1 4 + m ≤ 60 * (c + 1); omega, c6⟩, d1, fun j => ⟨(d2 j).1, ?_, (d2 j).2.2⟩, fun p hp => ⟨(d3 p hp).1, ?_⟩, d4⟩
  · show rVn t (ruT t) m j < 6
    exact vat_lt c0 (fun j => (d2 j).2.1) m j
  · show rVn t (ruT t) m p < t.1 0
    exact vat_ltW (fun q hq => (d3 q hq).2) m p hp
theorem rep_rule {RL : List zRu} {I : zI} {t : zT} (h : repI RL I t) {r : Nat} (hr : r < t.1 2) : ∃ ra, I.2.2 r = some ra ∧ ra < RL.length := by
  obtain ⟨i, g1, g2, -⟩ := h.2.2.1 r hr
  exact ⟨i, g1, g2⟩
theorem rPart_lt {n a b k rc : Nat} {ru : Nat → Nat} (ha : a < rc) (hb : b < rc) : ∀ p, p < n → rPart n a b k ru p < rc := fun p hp => by
  unfold rPart
  rw [if_pos hp]
  split <;> assumption
theorem rOne_lt {n p r rc : Nat} {ru : Nat → Nat} (hr : r < rc) (h : ∀ q, q < n → ru q < rc) : ∀ q, q < n → rOne p r ru q < rc := fun q hq => by
  unfold rOne
  split
  · exact hr
  · exact h q hq
theorem rOne_self {p : Nat} {ru : Nat → Nat} : rOne p (ru p) ru = ru := by
  funext q
  unfold rOne
  split
  · rename_i h; rw [h]
  · rfl
theorem aft_okI {M0 M : zI} {W n y s0 L sh i : Nat} {sk v ru vv : Nat → Nat} {tt : Nat → Int32} (h0 : okI M0 W n y s0 L sh sk v ru) (ha : aft M0 M (y + i) vv tt) (hv : ∀ j, vv j < 6) : okI M W n (y + i) s0 L sh sk vv ru := by
  obtain ⟨⟨h1, h1'⟩, ⟨h2, h2'⟩, ⟨h3, h3', h3''⟩, ⟨h4, h4'⟩, ⟨h5, h5'⟩, h6, h7, h8⟩ := h0
  obtain ⟨a1, a2, ⟨a30, a31, a33, a34⟩, a4, a5⟩ := ha
  refine ⟨⟨by rw [a1]; exact h1, h1'⟩, ⟨by rw [a1]; exact h2, h2'⟩, ⟨by rw [a1]; rfl, by rw [a1]; exact h3', by omega⟩, ⟨by rw [a1]; exact h4, h4'⟩, ⟨by rw [a1]; exact h5, h5'⟩, fun j => by rw [a31]; exact h6 j, fun j => ⟨by rw [a4], hv j⟩, fun j => by rw [a33]; exact h8 j⟩
theorem aft_step {RL : List zRu} {M0 M M' : zI} {W n y s0 L sh i : Nat} {sk v ru : Nat → Nat} {tt tt' : Nat → Int32} (ha : aft M0 M (y + i) (vI RL M0 W n y s0 L sh sk v ru i) tt) (hb : aft M M' (y + i + 1) (vI RL M W n (y + i) s0 L sh sk (vI RL M0 W n y s0 L sh sk v ru i) ru 1) tt') : aft M0 M' (y + (i + 1)) (vI RL M0 W n y s0 L sh sk v ru (i + 1)) tt' := by
  obtain ⟨a1, a2, ⟨a30, a31, a33, a34⟩, a4, a5⟩ := ha
  obtain ⟨b1, b2, ⟨b30, b31, b33, b34⟩, b4, b5⟩ := hb
  refine ⟨?_, b2.trans a2, ⟨b30.trans a30, b31.trans a31, b33.trans a33, b34.trans a34⟩, ?_, b5⟩
  · rw [b1, a1]
    funext q
    unfold upd
    by_cases hq : q = 5
    · simp [hq, Nat.add_assoc]
    · simp [hq]
  · rw [b4]
    have e7 : M.1 7 = M0.1 7 := by rw [a1]; rfl
    have : vI RL M W n (y + i) s0 L sh sk (vI RL M0 W n y s0 L sh sk v ru i) ru 1 = vI RL M0 W n y s0 L sh sk v ru (i + 1) := by
      show yst n W (M.2.1 0) (fun p o => sb (seB sh (y + i) (M.2.1 4 p) (M.1 7) p) o) (fun p x => dnI RL M.2.2 (ru p) x) (sk ((y + i - s0) % L)) (y + i) (vI RL M0 W n y s0 L sh sk v ru i) = yst n W (M0.2.1 0) (fun p o => sb (seB sh (y + i) (M0.2.1 4 p) (M0.1 7) p) o) (fun p x => dnI RL M0.2.2 (ru p) x) (sk ((y + i - s0) % L)) (y + i) (vI RL M0 W n y s0 L sh sk v ru i)
      rw [a30, a34, e7, a2]
    rw [this]
theorem alk_nI {n : Nat} {v : Nat → Nat} (hv : ∀ j, v j < 6) : decide (cnt (fun p => decide ((fun j => nI (v j)) p = (fun j => nI (v j)) 0)) n = n) = alk n v := by
  unfold alk
  congr 2
  refine cnt_congr n (fun o _ => ?_)
  have h1 := hv o
  have h2 := hv 0
  exact decide_eq_decide.mpr (nI_eq (by omega) (by omega))
section PUB2
variable {l : Launch} {D : va_G} {C : zC} {Y : zY} {RL : List zRu} {S : zF} {c : Nat}
set_option maxRecDepth 10000 in
theorem y_fares (h : repY RL Y S c) (hc : c ≤ 100) {x : Int32} : zPub l D C yX3_fares cX3_fares 3 6 [.int x] Y RL c (sFares S x) := by
  have hI := h.2.1.1
  have hT := h.2.1.2
  have hWb : S.1.1 0 ≤ 6 := hT.1.1
  have hnb : S.1.1 3 ≤ 8 := hT.1.2.2.2.2.1
  have hrb : S.1.1 2 ≤ 10 := hT.1.2.2.2.1
  have e0 : (Y.1 0).1 0 = nI (S.1.1 0) := hI.1.1
  have e3 : (Y.1 0).1 3 = nI (S.1.1 2) := hI.1.2.2.2.1
  have e4 : (Y.1 0).1 4 = nI (S.1.1 3) := hI.1.2.2.2.2.1
  have hR := h.1
  refine zFun_of (by decide) oX3_fares tbX3 (Nat.le_of_ble_eq_true rfl) (fun Z o => ?_)
  by_cases hz : whK x (S.1.1 3) = 0
  · obtain ⟨m, rfl, hm1, hm2, hn0⟩ := wh0 hz
    have hcl : cl (nI m) = m := nI_clamp (by omega)
    have hM := rep_okM hR hI hT hc hm2
    have hA : ∀ f, sRun S (nI m) f = f m := fun f => by rw [sRun, if_pos hz, hcl]
    refine o.run 100 [] ?_
    show Z _ _ _ _
    refine o.cV vX3_151 (c_whyNoRun (x := nI m) hnb e4) (fun w' rv _ hpo => ?_)
    obtain ⟨rfl, rfl⟩ := hpo
    rw [whR_0 hz]
    refine o.run 100 [] ⟨fun _ => ?_, fun q => absurd nI_0 q⟩
    show Z _ _ _ _
    refine o.cV vX3_160 (c_faresNow hM) (fun w' rv _ hpo => ?_)
    obtain ⟨⟨M, rfl⟩, rfl⟩ := hpo
    exact o.run 100 [] (pret (Y' := setJ Y 3 M) (A' := (frI RL (Y.1 0) (S.1.1 0) (S.1.1 3) (S.1.1 4) 0 (S.1.1 1) (S.1.1 5) (S.1.2.2.1 0) (S.1.2.2.1 1) (ruT S.1) m, S)) (by rw [sFares, hA, rep_fr hI hT (fun p hp => (hT.2.2.2.1 p hp).1)]) (rep_mono h (Nat.le_succ c)))
  · obtain ⟨hk1, hkp, hk7, hk0⟩ := whR_k hz
    refine o.run 100 [] ?_
    show Z _ _ _ _
    refine o.cV vX3_151 (c_whyNoRun (x := x) hnb e4) (fun w' rv _ hpo => ?_)
    obtain ⟨rfl, rfl⟩ := hpo
    rw [hk1]
    refine o.run 100 [] ⟨fun q => absurd q hk0, fun _ => ?_⟩
    show Z _ _ _ _
    refine o.cV vX3_48 (c_refuse (k := (whK x (S.1.1 3))) hkp hk7) (fun w' rv _ hpo => ?_)
    obtain ⟨rfl, rfl⟩ := hpo
    exact o.run 100 [] (pret (A' := sRf S (whK x (S.1.1 3))) (by rw [sFares, sRun, if_neg hz]) _ (rep_rf h (whK x (S.1.1 3))))

set_option maxRecDepth 10000 in
theorem y_go (h : repY RL Y S c) (hc : c ≤ 100) {x : Int32} : zPub l D C yX3_go cX3_go 3 4 [.int x] Y RL c (sGo S x) := by
  have hI := h.2.1.1
  have hT := h.2.1.2
  have hWb : S.1.1 0 ≤ 6 := hT.1.1
  have hnb : S.1.1 3 ≤ 8 := hT.1.2.2.2.2.1
  have hrb : S.1.1 2 ≤ 10 := hT.1.2.2.2.1
  have e0 : (Y.1 0).1 0 = nI (S.1.1 0) := hI.1.1
  have e3 : (Y.1 0).1 3 = nI (S.1.1 2) := hI.1.2.2.2.1
  have e4 : (Y.1 0).1 4 = nI (S.1.1 3) := hI.1.2.2.2.2.1
  have hR := h.1
  refine zFun_of (by decide) oX3_go tbX3 (Nat.le_of_ble_eq_true rfl) (fun Z o => ?_)
  by_cases hz : whK x (S.1.1 3) = 0
  · obtain ⟨m, rfl, hm1, hm2, hn0⟩ := wh0 hz
    have hcl : cl (nI m) = m := nI_clamp (by omega)
    have hM := rep_okM hR hI hT hc hm2
    have hA : ∀ f, sRun S (nI m) f = f m := fun f => by rw [sRun, if_pos hz, hcl]
    refine o.run 100 [] ?_
    show Z _ _ _ _
    refine o.cV vX3_151 (c_whyNoRun (x := nI m) hnb e4) (fun w' rv _ hpo => ?_)
    obtain ⟨rfl, rfl⟩ := hpo
    rw [whR_0 hz]
    refine o.run 100 [] ⟨fun _ => ?_, fun q => absurd nI_0 q⟩
    show Z _ _ _ _
    refine o.yB 0 (by omega) (Q := fun I rv => aft (Y.1 0) I (S.1.1 4 + m) (vI RL (Y.1 0) (S.1.1 0) (S.1.1 3) (S.1.1 4) 0 (S.1.1 1) (S.1.1 5) (S.1.2.2.1 0) (S.1.2.2.1 1) (ruT S.1) m) (tI RL (Y.1 0) (S.1.1 0) (S.1.1 3) (S.1.1 4) 0 (S.1.1 1) (S.1.1 5) (S.1.2.2.1 0) (S.1.2.2.1 1) (ruT S.1) m) ∧ rv = none) vX3_154 (c_passYears hR hM.2.1 hM.2.2.1 hM.2.2.2.1) (fun w rv hpo => ?_) (fun I rv hq => ?_)
    · obtain ⟨⟨I, rfl, ha⟩, rfl⟩ := hpo
      exact ⟨I, rfl, ha, rfl⟩
    · obtain ⟨⟨a1, a2, ⟨a30, a31, a33, a34⟩, a4, a5⟩, rfl⟩ := hq
      have ey : I.1 5 = nI (S.1.1 4 + m) := by rw [a1]; rfl
      refine o.run 100 [] (pret (Y' := setJ Y 0 I) (A' := (I.1 5, sW S (goT S.1 m))) (by rw [sGo, hA, ey]) ?_)
      obtain ⟨b0, b1, b2, b3, b4, b5⟩ := hI.2.1
      have hrl : ∀ p, p < S.1.1 3 → ruT S.1 p < S.1.1 2 := fun p hp => (hT.2.2.2.1 p hp).1
      refine repY_J h (repI_set hI a2 rfl rfl ⟨?_, ?_, ?_, ?_, ?_, ey, ?_, ?_⟩ ⟨by rw [a30]; exact b0, by rw [a31]; exact b1, ?_, by rw [a33]; exact b3, by rw [a34]; exact b4, ?_⟩) (okT_go hT hm2) (Nat.le_succ c)
      · rw [a1]; exact hI.1.1
      · rw [a1]; exact hI.1.2.1
      · rw [a1]; exact hI.1.2.2.1
      · rw [a1]; exact hI.1.2.2.2.1
      · rw [a1]; exact hI.1.2.2.2.2.1
      · rw [a1]; exact hI.1.2.2.2.2.2.2.1
      · rw [a1]; exact hI.1.2.2.2.2.2.2.2
      · rw [a4, vI_eq b0 (rep_dn hI hrl) (rep_see hI hT)]; rfl
      · rw [a5]
        show tot (S.1.1 3) ((Y.1 0).2.1 0) _ _ ((Y.1 0).2.1 5) m = mix (S.1.1 3) (fun p => S.1.2.2.2.1 1 p + rGn S.1 (ruT S.1) m p) (S.1.2.2.2.1 1)
        rw [tot_add, b5, ← rep_ga hI hT hrl]
        rfl
  · obtain ⟨hk1, hkp, hk7, hk0⟩ := whR_k hz
    refine o.run 100 [] ?_
    show Z _ _ _ _
    refine o.cV vX3_151 (c_whyNoRun (x := x) hnb e4) (fun w' rv _ hpo => ?_)
    obtain ⟨rfl, rfl⟩ := hpo
    rw [hk1]
    refine o.run 100 [] ⟨fun q => absurd q hk0, fun _ => ?_⟩
    show Z _ _ _ _
    refine o.cV vX3_48 (c_refuse (k := (whK x (S.1.1 3))) hkp hk7) (fun w' rv _ hpo => ?_)
    obtain ⟨rfl, rfl⟩ := hpo
    exact o.run 100 [] (pret (A' := sRf S (whK x (S.1.1 3))) (by rw [sGo, sRun, if_neg hz]) _ (rep_rf h (whK x (S.1.1 3))))

set_option maxRecDepth 10000 in
theorem y_ifAll (h : repY RL Y S c) (hc : c ≤ 100) {r x : Int32} : zPub l D C yX3_ifAll cX3_ifAll 4 6 [.int r, .int x] Y RL c (sIfAll S r x) := by
  have hI := h.2.1.1
  have hT := h.2.1.2
  have hWb : S.1.1 0 ≤ 6 := hT.1.1
  have hnb : S.1.1 3 ≤ 8 := hT.1.2.2.2.2.1
  have hrb : S.1.1 2 ≤ 10 := hT.1.2.2.2.1
  have e0 : (Y.1 0).1 0 = nI (S.1.1 0) := hI.1.1
  have e3 : (Y.1 0).1 3 = nI (S.1.1 2) := hI.1.2.2.2.1
  have e4 : (Y.1 0).1 4 = nI (S.1.1 3) := hI.1.2.2.2.2.1
  have hR := h.1
  refine zFun_of (by decide) oX3_ifAll tbX3 (Nat.le_of_ble_eq_true rfl) (fun Z o => ?_)
  by_cases hr : isN r (S.1.1 2) = true
  · obtain ⟨er, hrl⟩ := isN_cl (by omega) hr
    obtain ⟨rn, hrn⟩ : ∃ k, k = cl r := ⟨_, rfl⟩
    rw [← hrn] at er hrl
    subst er
    refine o.run 100 [] ?_
    show Z _ _ _ _
    refine o.cV vX3_111 (c_isRule (x := nI rn) e3) (fun w' rv _ hpo => ?_)
    obtain ⟨rfl, rfl⟩ := hpo
    rw [hr]
    refine o.run 100 [] ⟨fun q => absurd q (by decide), fun _ => ?_⟩
    show Z _ _ _ _
    refine o.cV vX3_151 (c_whyNoRun (x := x) hnb e4) (fun w' rv _ hpo => ?_)
    obtain ⟨rfl, rfl⟩ := hpo
    by_cases hz : whK x (S.1.1 3) = 0
    · obtain ⟨m, rfl, hm1, hm2, hn0⟩ := wh0 hz
      have hcl : cl (nI m) = m := nI_clamp (by omega)
      have hM := rep_okM hR hI hT hc hm2
      obtain ⟨ra, hra⟩ := rep_rule hI hrl
      rw [whR_0 hz]
      refine o.run 100 [] ⟨fun _ => ?_, fun q => absurd nI_0 q⟩
      show Z _ _ _ _
      refine o.cV vX3_185 (c_faresInParts (a := rn) (b := rn) (k := 0) hM (by omega) (by omega) (by omega) hra hra) (fun w' rv _ hpo => ?_)
      obtain ⟨⟨M, rfl⟩, rfl⟩ := hpo
      refine o.run 100 [] (pret (Y' := setJ Y 3 M) (A' := (frI RL (Y.1 0) (S.1.1 0) (S.1.1 3) (S.1.1 4) 0 (S.1.1 1) (S.1.1 5) (S.1.2.2.1 0) (S.1.2.2.1 1) (rPart (S.1.1 3) rn rn 0 (ruT S.1)) m, S)) ?_ (rep_mono h (Nat.le_succ c)))
      rw [sIfAll, if_pos hr, sRun, if_pos hz, hcl, ← hrn, rep_fr hI hT (rPart_lt hrl hrl)]; rfl
    · obtain ⟨hk1, hkp, hk7, hk0⟩ := whR_k hz
      rw [hk1]
      refine o.run 100 [] ⟨fun q => absurd q hk0, fun _ => ?_⟩
      show Z _ _ _ _
      refine o.cV vX3_48 (c_refuse (k := (whK x (S.1.1 3))) hkp hk7) (fun w' rv _ hpo => ?_)
      obtain ⟨rfl, rfl⟩ := hpo
      exact o.run 100 [] (pret (A' := sRf S (whK x (S.1.1 3))) (by rw [sIfAll, if_pos hr, sRun, if_neg hz]) _ (rep_rf h (whK x (S.1.1 3))))
  · have hrf : isN r (S.1.1 2) = false := by rw [← Bool.not_eq_true]; exact hr
    refine o.run 100 [] ?_
    show Z _ _ _ _
    refine o.cV vX3_111 (c_isRule (x := r) e3) (fun w' rv _ hpo => ?_)
    obtain ⟨rfl, rfl⟩ := hpo
    rw [hrf]
    refine o.run 100 [] ⟨fun _ => ⟨fun q => absurd q (by decide), fun _ => ?_⟩, fun q => absurd ((zB_0 false).mpr rfl) q⟩
    show Z _ _ _ _
    refine o.cV vX3_48 (c_refuse (k := 1) (by omega) (by omega)) (fun w' rv _ hpo => ?_)
    obtain ⟨rfl, rfl⟩ := hpo
    exact o.run 100 [] (pret (A' := sRf S 1) (by rw [sIfAll, if_neg hr]) _ (rep_rf h 1))

set_option maxRecDepth 10000 in
theorem y_alike (h : repY RL Y S c) (hc : c ≤ 100) {x : Int32} : zPub l D C yX3_alike cX3_alike 4 4 [.int x] Y RL c (sAlike S x) := by
  have hI := h.2.1.1
  have hT := h.2.1.2
  have hWb : S.1.1 0 ≤ 6 := hT.1.1
  have hnb : S.1.1 3 ≤ 8 := hT.1.2.2.2.2.1
  have hrb : S.1.1 2 ≤ 10 := hT.1.2.2.2.1
  have e0 : (Y.1 0).1 0 = nI (S.1.1 0) := hI.1.1
  have e3 : (Y.1 0).1 3 = nI (S.1.1 2) := hI.1.2.2.2.1
  have e4 : (Y.1 0).1 4 = nI (S.1.1 3) := hI.1.2.2.2.2.1
  have hR := h.1
  refine zFun_of (by decide) oX3_alike tbX3 (Nat.le_of_ble_eq_true rfl) (fun Z o => ?_)
  by_cases hz : whK x (S.1.1 3) = 0
  · obtain ⟨m, rfl, hm1, hm2, hn0⟩ := wh0 hz
    have hcl : cl (nI m) = m := nI_clamp (by omega)
    have hM := rep_okM hR hI hT hc hm2
    have hA : ∀ f, sRun S (nI m) f = f m := fun f => by rw [sRun, if_pos hz, hcl]
    refine o.run 100 [] ?_
    show Z _ _ _ _
    refine o.cV vX3_151 (c_whyNoRun (x := nI m) hnb e4) (fun w' rv _ hpo => ?_)
    obtain ⟨rfl, rfl⟩ := hpo
    rw [whR_0 hz]
    refine o.run 100 [] ⟨fun _ => ?_, fun q => absurd nI_0 q⟩
    have hrl : ∀ p, p < S.1.1 3 → ruT S.1 p < S.1.1 2 := fun p hp => (hT.2.2.2.1 p hp).1
    have hV : ∀ i, vI RL (Y.1 0) (S.1.1 0) (S.1.1 3) (S.1.1 4) 0 (S.1.1 1) (S.1.1 5) (S.1.2.2.1 0) (S.1.2.2.1 1) (ruT S.1) i = rVn S.1 (ruT S.1) i := fun i => vI_eq hI.2.1.1 (rep_dn hI hrl) (rep_see hI hT)
    have hv6 : ∀ i j, vI RL (Y.1 0) (S.1.1 0) (S.1.1 3) (S.1.1 4) 0 (S.1.1 1) (S.1.1 5) (S.1.2.2.1 0) (S.1.2.2.1 1) (ruT S.1) i j < 6 := fun i => vat_lt hWb (fun j => (hT.2.2.1 j).2.1) i
    have hy30 : S.1.1 4 + m < 2 ^ 29 := by have := hT.1.2.2.2.2.2.1; omega
    show Z _ _ _ _
    refine o.yC 3 0 (by omega) (by omega) (by omega) vX3_163 (c_imagine (I := Y.1 3) hM.2.2.2.2) (fun rv hpo => ?_)
    subst hpo
    let f : Nat → Bool := fun i => alk (S.1.1 3) (rVn S.1 (ruT S.1) i)
    have loop : ∀ j i, i + j = m + 1 → fnd f j i = fnd f (m + 1) 0 → ∀ M tt, aft (imI (Y.1 3) (Y.1 0)) M (S.1.1 4 + i) (vI RL (Y.1 0) (S.1.1 0) (S.1.1 3) (S.1.1 4) 0 (S.1.1 1) (S.1.1 5) (S.1.2.2.1 0) (S.1.2.2.1 1) (ruT S.1) i) tt → Z 29 (yamW 53 (setJ Y 3 M) ++ pol 53 RL) [some (.ref 0), some (.int (nI m)), some (.int (nI 0)), some (.int (nI i))] [] := by
      intro j
      induction j with
      | zero =>
        intro i hi hf M tt ha
        obtain rfl : i = m + 1 := by omega
        have e : sAlike S (nI m) = (zi (-9), S) := by
          rw [sAlike, hA]
          show (fndI (fnd f (m + 1) 0), S) = _
          rw [← hf]; rfl
        exact o.run 100 [] ⟨fun _ => ⟨⟨_, rfl, rfl⟩, rfl, ⟨setJ Y 3 M, rfl, by rw [e]; exact rep_mono h (Nat.le_succ c)⟩, by rw [e]⟩, fun q => absurd (nI_lt (by omega) (by omega)) q⟩
      | succ j ih =>
        intro i hi hf M tt ha
        have hokI := aft_okI (M0 := imI (Y.1 3) (Y.1 0)) hM.2.1 ha (hv6 i)
        refine o.run 100 [] ⟨fun q => absurd q (nI_nlt (by omega) (by omega)), fun _ => ?_⟩
        show Z _ _ _ _
        refine o.yAr 3 (Y := setJ Y 3 M) (by omega) vX3_171 (c_isAlike (I := M) hnb hokI.2.1.1) (fun rv hpo => ?_)
        have ef : decide (cnt (fun p => decide (M.2.1 2 p = M.2.1 2 0)) (S.1.1 3) = S.1.1 3) = f i := by
          rw [ha.2.2.2.1, alk_nI (hv6 i), hV]
        rw [ef] at hpo
        subst hpo
        refine o.run 100 [] ⟨fun q => ?_, fun q => pret (Y' := setJ Y 3 M) (A' := (nI i, S)) ?_ (rep_mono h (Nat.le_succ c))⟩
        · have hfi : f i = false := (zB_0 _).mp q
          show Z _ _ _ _
          refine o.yB 3 (Y := setJ Y 3 M) (by omega) (Q := fun M' rv => (∃ tt', aft M M' (S.1.1 4 + i + 1) (vI RL M (S.1.1 0) (S.1.1 3) (S.1.1 4 + i) 0 (S.1.1 1) (S.1.1 5) (S.1.2.2.1 0) (vI RL (Y.1 0) (S.1.1 0) (S.1.1 3) (S.1.1 4) 0 (S.1.1 1) (S.1.1 5) (S.1.2.2.1 0) (S.1.2.2.1 1) (ruT S.1) i) (ruT S.1) 1) tt') ∧ rv = none) vX3_154 (c_passYears (I := M) (m := 1) hR hokI (by rw [ha.2.1]; exact hM.2.2.1) (by omega)) (fun w rv hpo => ?_) (fun M' rv hq => ?_)
          · obtain ⟨⟨M', rfl, hb⟩, rfl⟩ := hpo
            exact ⟨M', rfl, ⟨_, hb⟩, rfl⟩
          · obtain ⟨⟨tt', hb⟩, rfl⟩ := hq
            refine o.run 100 [29] ?_
            have := ih (i + 1) (by omega) (by rw [← hf, fnd, hfi]; rfl) M' tt' (aft_step ha hb)
            rw [← nI_1 i] at this
            exact this
        · have hfi : f i = true := zB_t q
          rw [sAlike, hA]
          show (fndI (fnd f (m + 1) 0), S) = _
          rw [← hf, fnd, if_pos hfi]; rfl
    refine o.run 100 [29] (loop (m + 1) 0 (by omega) rfl _ (fun _ => nI 0) ?_)
    refine ⟨?_, rfl, ⟨rfl, rfl, rfl, rfl⟩, ?_, rfl⟩
    · funext q
      unfold upd
      by_cases hq : q = 5
      · subst hq; exact hI.1.2.2.2.2.2.1
      · rw [if_neg hq]
    · exact hI.2.1.2.2.1
  · obtain ⟨hk1, hkp, hk7, hk0⟩ := whR_k hz
    refine o.run 100 [] ?_
    show Z _ _ _ _
    refine o.cV vX3_151 (c_whyNoRun (x := x) hnb e4) (fun w' rv _ hpo => ?_)
    obtain ⟨rfl, rfl⟩ := hpo
    rw [hk1]
    refine o.run 100 [] ⟨fun q => absurd q hk0, fun _ => ?_⟩
    show Z _ _ _ _
    refine o.cV vX3_48 (c_refuse (k := (whK x (S.1.1 3))) hkp hk7) (fun w' rv _ hpo => ?_)
    obtain ⟨rfl, rfl⟩ := hpo
    exact o.run 100 [] (pret (A' := sRf S (whK x (S.1.1 3))) (by rw [sAlike, sRun, if_neg hz]) _ (rep_rf h (whK x (S.1.1 3))))

set_option maxRecDepth 10000 in
theorem y_wrong (h : repY RL Y S c) (hc : c ≤ 100) {x : Int32} : zPub l D C yX3_wrong cX3_wrong 5 4 [.int x] Y RL c (sWrong S x) := by
  have hI := h.2.1.1
  have hT := h.2.1.2
  have hWb : S.1.1 0 ≤ 6 := hT.1.1
  have hnb : S.1.1 3 ≤ 8 := hT.1.2.2.2.2.1
  have hrb : S.1.1 2 ≤ 10 := hT.1.2.2.2.1
  have e0 : (Y.1 0).1 0 = nI (S.1.1 0) := hI.1.1
  have e3 : (Y.1 0).1 3 = nI (S.1.1 2) := hI.1.2.2.2.1
  have e4 : (Y.1 0).1 4 = nI (S.1.1 3) := hI.1.2.2.2.2.1
  have hR := h.1
  refine zFun_of (by decide) oX3_wrong tbX3 (Nat.le_of_ble_eq_true rfl) (fun Z o => ?_)
  by_cases hz : whK x (S.1.1 3) = 0
  · obtain ⟨m, rfl, hm1, hm2, hn0⟩ := wh0 hz
    have hcl : cl (nI m) = m := nI_clamp (by omega)
    have hM := rep_okM hR hI hT hc hm2
    have hA : ∀ f, sRun S (nI m) f = f m := fun f => by rw [sRun, if_pos hz, hcl]
    refine o.run 100 [] ?_
    show Z _ _ _ _
    refine o.cV vX3_151 (c_whyNoRun (x := nI m) hnb e4) (fun w' rv _ hpo => ?_)
    obtain ⟨rfl, rfl⟩ := hpo
    rw [whR_0 hz]
    refine o.run 100 [] ⟨fun _ => ?_, fun q => absurd nI_0 q⟩
    have hrl : ∀ p, p < S.1.1 3 → ruT S.1 p < S.1.1 2 := fun p hp => (hT.2.2.2.1 p hp).1
    have hV : ∀ i, vI RL (Y.1 0) (S.1.1 0) (S.1.1 3) (S.1.1 4) 0 (S.1.1 1) (S.1.1 5) (S.1.2.2.1 0) (S.1.2.2.1 1) (ruT S.1) i = rVn S.1 (ruT S.1) i := fun i => vI_eq hI.2.1.1 (rep_dn hI hrl) (rep_see hI hT)
    have hv6 : ∀ i j, vI RL (Y.1 0) (S.1.1 0) (S.1.1 3) (S.1.1 4) 0 (S.1.1 1) (S.1.1 5) (S.1.2.2.1 0) (S.1.2.2.1 1) (ruT S.1) i j < 6 := fun i => vat_lt hWb (fun j => (hT.2.2.1 j).2.1) i
    have hy30 : S.1.1 4 + m < 2 ^ 29 := by have := hT.1.2.2.2.2.2.1; omega
    show Z _ _ _ _
    refine o.yC 3 0 (by omega) (by omega) (by omega) vX3_163 (c_imagine (I := Y.1 3) hM.2.2.2.2) (fun rv hpo => ?_)
    subst hpo
    have loop : ∀ j i, i + j = m → ∀ M tt, aft (imI (Y.1 3) (Y.1 0)) M (S.1.1 4 + i) (vI RL (Y.1 0) (S.1.1 0) (S.1.1 3) (S.1.1 4) 0 (S.1.1 1) (S.1.1 5) (S.1.2.2.1 0) (S.1.2.2.1 1) (ruT S.1) i) tt → Z 32 (yamW 53 (setJ Y 3 M) ++ pol 53 RL) [some (.ref 0), some (.int (nI m)), some (.int (nI 0)), some (.int (nI (cnt (wrg S.1) i))), some (.int (nI i))] [] := by
      intro j
      induction j with
      | zero =>
        intro i hi M tt ha
        obtain rfl : i = m := by omega
        exact o.run 100 [] ⟨fun _ => pret (Y' := setJ Y 3 M) (A' := (nI (cnt (wrg S.1) i), S)) (by rw [sWrong, hA]) (rep_mono h (Nat.le_succ c)), fun q => absurd (nI_le (Nat.le_refl _) (by omega)) q⟩
      | succ j ih =>
        intro i hi M tt ha
        have hokI := aft_okI (M0 := imI (Y.1 3) (Y.1 0)) hM.2.1 ha (hv6 i)
        have pass : ∀ k, cnt (wrg S.1) (i + 1) = k → Z 51 (yamW 53 (setJ Y 3 M) ++ pol 53 RL) [some (.ref 0), some (.int (nI m)), some (.int (nI 0)), some (.int (nI k)), some (.int (nI i))] [] := by
          intro k hk
          refine o.run 100 [] ?_
          show Z _ _ _ _
          refine o.yB 3 (Y := setJ Y 3 M) (by omega) (Q := fun M' rv => (∃ tt', aft M M' (S.1.1 4 + i + 1) (vI RL M (S.1.1 0) (S.1.1 3) (S.1.1 4 + i) 0 (S.1.1 1) (S.1.1 5) (S.1.2.2.1 0) (vI RL (Y.1 0) (S.1.1 0) (S.1.1 3) (S.1.1 4) 0 (S.1.1 1) (S.1.1 5) (S.1.2.2.1 0) (S.1.2.2.1 1) (ruT S.1) i) (ruT S.1) 1) tt') ∧ rv = none) vX3_154 (c_passYears (I := M) (m := 1) hR hokI (by rw [ha.2.1]; exact hM.2.2.1) (by omega)) (fun w rv hpo => ?_) (fun M' rv hq => ?_)
          · obtain ⟨⟨M', rfl, hb⟩, rfl⟩ := hpo
            exact ⟨M', rfl, ⟨_, hb⟩, rfl⟩
          · obtain ⟨⟨tt', hb⟩, rfl⟩ := hq
            refine o.run 100 [32] ?_
            have := ih (i + 1) (by omega) M' tt' (aft_step ha hb)
            rw [hk, ← nI_1 i] at this
            exact this
        refine o.run 100 [] ⟨fun q => absurd q (nI_ge (by omega) (by omega)), fun _ => ?_⟩
        show Z _ _ _ _
        refine o.yAr 3 (Y := setJ Y 3 M) (by omega) vX3_167 (c_isWrong (I := M) (W := S.1.1 0) (n := S.1.1 3) (y := S.1.1 4 + i) (s0 := 0) (L := S.1.1 1) (sk := S.1.2.2.1 0) (v := (vI RL (Y.1 0) (S.1.1 0) (S.1.1 3) (S.1.1 4) 0 (S.1.1 1) (S.1.1 5) (S.1.2.2.1 0) (S.1.2.2.1 1) (ruT S.1) i)) hWb hnb (by omega) (Nat.zero_le _) hT.1.2.1 hT.1.2.2.1 hokI.1.1 hokI.2.2.2.1.1 hokI.2.2.1.2.1 hokI.2.1.1 hokI.2.2.1.1 (fun j => (hokI.2.2.2.2.2.1 j).1) (fun j => (hT.2.2.1 j).1) (fun j => (hokI.2.2.2.2.2.2.1 j).1) (hv6 i)) (fun rv hpo => ?_)
        have ef : decide (cnt (fun p => decide (M.2.1 2 p = M.2.1 2 0)) (S.1.1 3) = S.1.1 3 ∧ M.2.1 0 ((vI RL (Y.1 0) (S.1.1 0) (S.1.1 3) (S.1.1 4) 0 (S.1.1 1) (S.1.1 5) (S.1.2.2.1 0) (S.1.2.2.1 1) (ruT S.1) i 0) * 4 + S.1.2.2.1 0 ((S.1.1 4 + i - 0) % S.1.1 1)) < M.2.1 0 (bst (M.2.1 0) (S.1.2.2.1 0 ((S.1.1 4 + i - 0) % S.1.1 1)) (S.1.1 0 - 1) * 4 + S.1.2.2.1 0 ((S.1.1 4 + i - 0) % S.1.1 1))) = wrg S.1 i := by
          rw [Bool.decide_and, ha.2.2.2.1, alk_nI (hv6 i), hV, ha.2.2.1.1]
          show _ = (alk (S.1.1 3) (rVn S.1 (ruT S.1) i) && decide _)
          rw [show (imI (Y.1 3) (Y.1 0)).2.1 0 = S.1.2.1 from hI.2.1.1]
          rfl
        rw [ef] at hpo
        subst hpo
        refine o.run 100 [51] ⟨fun q => ?_, fun q => ?_⟩
        · have hfi : wrg S.1 i = false := (zB_0 _).mp q
          exact pass _ (by rw [cnt, hfi]; rfl)
        · have hfi : wrg S.1 i = true := zB_t q
          have := pass (cnt (wrg S.1) i + 1) (by rw [cnt, hfi]; rfl)
          rw [← nI_1] at this
          exact this
    refine o.run 100 [32] (loop m 0 (by omega) _ (fun _ => nI 0) ?_)
    refine ⟨?_, rfl, ⟨rfl, rfl, rfl, rfl⟩, ?_, rfl⟩
    · funext q
      unfold upd
      by_cases hq : q = 5
      · subst hq; exact hI.1.2.2.2.2.2.1
      · rw [if_neg hq]
    · exact hI.2.1.2.2.1
  · obtain ⟨hk1, hkp, hk7, hk0⟩ := whR_k hz
    refine o.run 100 [] ?_
    show Z _ _ _ _
    refine o.cV vX3_151 (c_whyNoRun (x := x) hnb e4) (fun w' rv _ hpo => ?_)
    obtain ⟨rfl, rfl⟩ := hpo
    rw [hk1]
    refine o.run 100 [] ⟨fun q => absurd q hk0, fun _ => ?_⟩
    show Z _ _ _ _
    refine o.cV vX3_48 (c_refuse (k := (whK x (S.1.1 3))) hkp hk7) (fun w' rv _ hpo => ?_)
    obtain ⟨rfl, rfl⟩ := hpo
    exact o.run 100 [] (pret (A' := sRf S (whK x (S.1.1 3))) (by rw [sWrong, sRun, if_neg hz]) _ (rep_rf h (whK x (S.1.1 3))))

end PUB2
end
section
/-! the class's public methods, 3 -/
theorem whW_eq {v hi x : Int32} {n : Nat} : whW v hi x n = (if whKW v hi x n = 0 then nI 0 else -(nI (whKW v hi x n))) ∧ whKW v hi x n < 7 ∧ ¬ -(nI (if whKW v hi x n = 0 then 4 else whKW v hi x n)) = 0 := by
  unfold whW whKW
  by_cases h1 : v < 0
  · rw [if_pos h1, if_pos h1]; exact ⟨rfl, by decide, by decide⟩
  · rw [if_neg h1, if_neg h1]
    unfold whR
    by_cases h2 : x < nI 1
    · rw [if_pos h2, if_pos h2, if_pos rfl]; exact ⟨rfl, by decide, by decide⟩
    · rw [if_neg h2, if_neg h2]
      by_cases h4 : nI 60 < x
      · rw [if_pos h4, if_pos h4, if_neg (by decide)]
        by_cases h3 : hi < v
        · rw [if_pos h3, if_pos h3]; exact ⟨rfl, by decide, by decide⟩
        · rw [if_neg h3, if_neg h3]; exact ⟨rfl, by decide, by decide⟩
      · rw [if_neg h4, if_neg h4]
        by_cases h5 : n = 0
        · rw [if_pos h5, if_pos h5, if_neg (by decide)]
          by_cases h3 : hi < v
          · rw [if_pos h3, if_pos h3]; exact ⟨rfl, by decide, by decide⟩
          · rw [if_neg h3, if_neg h3]; exact ⟨rfl, by decide, by decide⟩
        · rw [if_neg h5, if_neg h5, if_neg (by decide)]
          by_cases h3 : hi < v
          · rw [if_pos h3, if_pos h3]; exact ⟨rfl, by decide, by decide⟩
          · rw [if_neg h3, if_neg h3]; exact ⟨rfl, by decide, by decide⟩
theorem whKW_0 {v hi x : Int32} {n : Nat} (h : whKW v hi x n = 0) : whK x n = 0 ∧ ¬ v < 0 ∧ ¬ hi < v := by
  unfold whKW at h
  unfold whK
  by_cases h1 : v < 0
  · rw [if_pos h1] at h; cases h
  · rw [if_neg h1] at h
    by_cases h2 : x < nI 1
    · rw [if_pos h2] at h; cases h
    · rw [if_neg h2] at h
      by_cases h3 : hi < v
      · rw [if_pos h3] at h; cases h
      · rw [if_neg h3] at h
        rw [if_neg h2]
        exact ⟨h, h1, h3⟩
theorem allN_congr {f g : Nat → Bool} : ∀ {n : Nat}, (∀ p, p < n → f p = g p) → allN f n = allN g n
  | 0, _ => rfl
  | n + 1, h => by unfold allN; rw [allN_congr (fun p hp => h p (by omega)), h n (by omega)]
section PUB3
variable {l : Launch} {D : va_G} {C : zC} {Y : zY} {RL : List zRu} {S : zF} {c : Nat}
set_option maxRecDepth 10000 in
theorem y_gain (h : repY RL Y S c) (hc : c ≤ 100) {p r x : Int32} : zPub l D C yX3_gain cX3_gain 6 5 [.int p, .int r, .int x] Y RL c (sGain S p r x) := by
  have hI := h.2.1.1
  have hT := h.2.1.2
  have hWb : S.1.1 0 ≤ 6 := hT.1.1
  have hnb : S.1.1 3 ≤ 8 := hT.1.2.2.2.2.1
  have hrb : S.1.1 2 ≤ 10 := hT.1.2.2.2.1
  have e0 : (Y.1 0).1 0 = nI (S.1.1 0) := hI.1.1
  have e3 : (Y.1 0).1 3 = nI (S.1.1 2) := hI.1.2.2.2.1
  have e4 : (Y.1 0).1 4 = nI (S.1.1 3) := hI.1.2.2.2.2.1
  have hR := h.1
  refine zFun_of (by decide) oX3_gain tbX3 (Nat.le_of_ble_eq_true rfl) (fun Z o => ?_)
  have far : ∀ k, 0 < k → k < 7 → ¬ -(nI k) = 0 → sGain S p r x = sRff S k → ∀ x5, Z 27 (yamW 53 Y ++ pol 53 RL) [some (.ref 0), some (.int p), some (.int r), some (.int x), some (.int (-(nI k))), x5] [] := fun k hk hk7 hk0 e x5 => by
    refine o.run 100 [] ⟨fun q => absurd q hk0, fun _ => ?_⟩
    show Z _ _ _ _
    refine o.cV vX3_174 (c_refuseFar (k := k) hk hk7) (fun w' rv _ hpo => ?_)
    obtain ⟨rfl, rfl⟩ := hpo
    exact o.run 100 [] (pret (A' := sRff S k) (e) _ (rep_rf h k))
  refine o.run 100 [] ?_
  show Z _ _ _ _
  refine o.cV vX3_120 (c_isPerson (x := p) e4) (fun w' rv _ hpo => ?_)
  obtain ⟨rfl, rfl⟩ := hpo
  refine o.run 100 [27] ⟨fun q => far 1 (by omega) (by omega) (by decide) (by rw [sGain, (zB_0 _).mp q]; rfl) none, fun q => ?_⟩
  have hp := zB_t q
  show Z _ _ _ _
  refine o.cV vX3_111 (c_isRule (x := r) e3) (fun w' rv _ hpo => ?_)
  obtain ⟨rfl, rfl⟩ := hpo
  refine o.run 100 [27] ⟨fun q => far 1 (by omega) (by omega) (by decide) (by rw [sGain, (zB_0 _).mp q, Bool.and_false]; rfl) none, fun q => ?_⟩
  have hr := zB_t q
  have hb : (isN p (S.1.1 3) && isN r (S.1.1 2)) = true := by rw [hp, hr]; rfl
  show Z _ _ _ _
  refine o.cV vX3_151 (c_whyNoRun (x := x) hnb e4) (fun w' rv _ hpo => ?_)
  obtain ⟨rfl, rfl⟩ := hpo
  by_cases hz : whK x (S.1.1 3) = 0
  · obtain ⟨m, rfl, hm1, hm2, hn0⟩ := wh0 hz
    have hcl : cl (nI m) = m := nI_clamp (by omega)
    have hM := rep_okM hR hI hT hc hm2
    obtain ⟨ep, hpl⟩ := isN_cl (by omega) hp
    obtain ⟨er, hrlt⟩ := isN_cl (by omega) hr
    obtain ⟨pn, hpn⟩ : ∃ k, k = cl p := ⟨_, rfl⟩
    obtain ⟨rn, hrn⟩ : ∃ k, k = cl r := ⟨_, rfl⟩
    rw [← hpn] at ep hpl
    rw [← hrn] at er hrlt
    subst ep er
    have hrl : ∀ p, p < S.1.1 3 → ruT S.1 p < S.1.1 2 := fun p hp => (hT.2.2.2.1 p hp).1
    obtain ⟨ra, hra⟩ := rep_rule hI hrlt
    obtain ⟨rb, hrb2⟩ := rep_rule hI (hrl pn hpl)
    have h10 := (hT.2.2.1 pn).2.2
    rw [whR_0 hz]
    refine o.run 100 [] ⟨fun _ => ⟨pn, rfl, by omega, ?_⟩, fun q => absurd nI_0 q⟩
    show Z 58 (yamW 53 Y ++ pol 53 RL) [some (.ref 0), some (.int (nI pn)), some (.int (nI rn)), some (.int (nI m)), some (.int (nI 0)), some (.int ((Y.1 0).2.1 3 pn))] [.int (nI m), .int (nI rn), .int (nI pn), .ref 1, .ref 0]
    rw [show (Y.1 0).2.1 3 pn = nI (ruT S.1 pn) by rw [hI.2.1.2.2.2.1]]
    refine o.cV (As := [.ref 1, .int (nI pn), .int (nI rn), .int (nI m)]) vX3_177 (c_broughtBy (k := 0) (p := pn) (r := rn) (by omega) hM hpl (by omega) hra) (fun w' rv _ hpo => ?_)
    obtain ⟨⟨M, rfl⟩, rfl⟩ := hpo
    refine o.run 100 [] ?_
    show Z _ _ _ _
    refine o.cV (As := [.ref 1, .int (nI pn), .int (nI (ruT S.1 pn)), .int (nI m)]) (rest := [.int _]) vX3_177 (c_broughtBy (Y := setJ Y 3 M) (k := 0) (p := pn) (r := ruT S.1 pn) (by omega) hM hpl h10 hrb2) (fun w' rv _ hpo => ?_)
    obtain ⟨⟨M2, rfl⟩, rfl⟩ := hpo
    refine o.run 100 [] (pret (Y' := setJ Y 3 M2) (A' := (gaI RL (Y.1 0) (S.1.1 0) (S.1.1 3) (S.1.1 4) 0 (S.1.1 1) (S.1.1 5) (S.1.2.2.1 0) (S.1.2.2.1 1) (rOne pn rn (ruT S.1)) m pn - gaI RL (Y.1 0) (S.1.1 0) (S.1.1 3) (S.1.1 4) 0 (S.1.1 1) (S.1.1 5) (S.1.2.2.1 0) (S.1.2.2.1 1) (rOne pn (ruT S.1 pn) (ruT S.1)) m pn, S)) ?_ (rep_mono h (Nat.le_succ c)))
    rw [sGain, if_pos hb, if_pos hz, hcl, ← hpn, ← hrn, rOne_self, rep_ga hI hT (rOne_lt hrlt hrl), rep_ga hI hT hrl]
  · obtain ⟨hk1, hkp, hk7, hk0⟩ := whR_k hz
    rw [hk1]
    exact o.run 100 [27] (far _ hkp hk7 hk0 (by rw [sGain, if_pos hb, if_neg hz]) none)

set_option maxRecDepth 10000 in
theorem y_rest (h : repY RL Y S c) (hc : c ≤ 100) {x : Int32} : zPub l D C yX3_rest cX3_rest 5 5 [.int x] Y RL c (sRest S x) := by
  have hI := h.2.1.1
  have hT := h.2.1.2
  have hWb : S.1.1 0 ≤ 6 := hT.1.1
  have hnb : S.1.1 3 ≤ 8 := hT.1.2.2.2.2.1
  have hrb : S.1.1 2 ≤ 10 := hT.1.2.2.2.1
  have e0 : (Y.1 0).1 0 = nI (S.1.1 0) := hI.1.1
  have e3 : (Y.1 0).1 3 = nI (S.1.1 2) := hI.1.2.2.2.1
  have e4 : (Y.1 0).1 4 = nI (S.1.1 3) := hI.1.2.2.2.2.1
  have hR := h.1
  refine zFun_of (by decide) oX3_rest tbX3 (Nat.le_of_ble_eq_true rfl) (fun Z o => ?_)
  by_cases hz : whK x (S.1.1 3) = 0
  · obtain ⟨m, rfl, hm1, hm2, hn0⟩ := wh0 hz
    have hcl : cl (nI m) = m := nI_clamp (by omega)
    have hM := rep_okM hR hI hT hc hm2
    have hA : ∀ f, sRun S (nI m) f = f m := fun f => by rw [sRun, if_pos hz, hcl]
    refine o.run 100 [] ?_
    show Z _ _ _ _
    refine o.cV vX3_151 (c_whyNoRun (x := nI m) hnb e4) (fun w' rv _ hpo => ?_)
    obtain ⟨rfl, rfl⟩ := hpo
    rw [whR_0 hz]
    refine o.run 100 [] ⟨fun _ => ?_, fun q => absurd nI_0 q⟩
    have hrl : ∀ p, p < S.1.1 3 → ruT S.1 p < S.1.1 2 := fun p hp => (hT.2.2.2.1 p hp).1
    let own := gaI RL (Y.1 0) (S.1.1 0) (S.1.1 3) (S.1.1 4) 0 (S.1.1 1) (S.1.1 5) (S.1.2.2.1 0) (S.1.2.2.1 1) (ruT S.1) m
    have eown : own = rGn S.1 (ruT S.1) m := rep_ga hI hT hrl
    show Z _ _ _ _
    refine o.cV (As := [.ref 1, .int (nI m)]) vX3_181 (c_learnOwn (k := 0) (by omega) hM) (fun w' rv _ hpo => ?_)
    obtain ⟨⟨M0, rfl⟩, rfl⟩ := hpo
    have outer : ∀ j p, p + j = S.1.1 3 → fnd2 (gnr S.1 m) (S.1.1 2) j p = fnd2 (gnr S.1 m) (S.1.1 2) (S.1.1 3) 0 → ∀ M x4, Z 27 (yamW 53 (setY (setJ Y 3 M) 0 own) ++ pol 53 RL) [some (.ref 0), some (.int (nI m)), some (.int (nI 0)), some (.int (nI p)), x4] [] := by
      intro j
      induction j with
      | zero =>
        intro p hp hf M x4
        obtain rfl : p = S.1.1 3 := by omega
        have e : sRest S (nI m) = (zi (-9), S) := by
          rw [sRest, hA]
          show (fnd2I (fnd2 (gnr S.1 m) (S.1.1 2) (S.1.1 3) 0), S) = _
          rw [← hf]; rfl
        exact o.run 100 [] ⟨fun _ => ⟨⟨_, rfl, rfl⟩, rfl, ⟨setY (setJ Y 3 M) 0 own, rfl, by rw [e]; exact rep_mono h (Nat.le_succ c)⟩, by rw [e]⟩, fun q => absurd (by show (Y.1 0).1 4 ≤ _; rw [e4]; exact nI_le (Nat.le_refl _) (by omega)) q⟩
      | succ j ih =>
        intro p hp hf M x4
        have hpn : p < S.1.1 3 := by omega
        have inner : ∀ jj r, r + jj = S.1.1 2 → fnd (gnr S.1 m p) jj r = fnd (gnr S.1 m p) (S.1.1 2) 0 → ∀ M, Z 41 (yamW 53 (setY (setJ Y 3 M) 0 own) ++ pol 53 RL) [some (.ref 0), some (.int (nI m)), some (.int (nI 0)), some (.int (nI p)), some (.int (nI r))] [] := by
          intro jj
          induction jj with
          | zero =>
            intro r hr hff M
            obtain rfl : r = S.1.1 2 := by omega
            refine o.run 100 [27] ⟨fun _ => ?_, fun q => absurd (by show (Y.1 0).1 3 ≤ _; rw [e3]; exact nI_le (Nat.le_refl _) (by omega)) q⟩
            have hnone : fnd (gnr S.1 m p) (S.1.1 2) 0 = none := hff.symm
            have := ih (p + 1) (by omega) (by rw [← hf, fnd2, hnone]) M (some (.int (nI (S.1.1 2))))
            rw [← nI_1 p] at this
            exact this
          | succ jj ihh =>
            intro r hr hff M
            have hrn : r < S.1.1 2 := by omega
            obtain ⟨ra, hra⟩ := rep_rule hI hrn
            refine o.run 100 [] ⟨fun q => absurd q (by show ¬ (Y.1 0).1 3 ≤ _; rw [e3]; exact nI_ge (by omega) (by omega)), fun _ => ?_⟩
            show Z _ _ _ _
            refine o.cV (As := [.ref 1, .int (nI p), .int (nI r), .int (nI m)]) vX3_177 (c_broughtBy (Y := setY (setJ Y 3 M) 0 own) (k := 0) (p := p) (r := r) (by omega) hM hpn (by omega) hra) (fun w' rv _ hpo => ?_)
            obtain ⟨⟨M2, rfl⟩, rfl⟩ := hpo
            have eb : gaI RL (Y.1 0) (S.1.1 0) (S.1.1 3) (S.1.1 4) 0 (S.1.1 1) (S.1.1 5) (S.1.2.2.1 0) (S.1.2.2.1 1) (rOne p r (ruT S.1)) m p = rGn S.1 (rOne p r (ruT S.1)) m p := by rw [rep_ga hI hT (rOne_lt hrn hrl)]
            refine o.run 100 [41] ⟨p, rfl, by omega, fun q => ?_, fun q => ?_⟩
            · have q : gaI RL (Y.1 0) (S.1.1 0) (S.1.1 3) (S.1.1 4) 0 (S.1.1 1) (S.1.1 5) (S.1.2.2.1 0) (S.1.2.2.1 1) (rOne p r (ruT S.1)) m p ≤ own p := q
              rw [eb, eown] at q
              have hg : gnr S.1 m p r = false := decide_eq_false (Int32.not_lt.mpr q)
              have := ihh (r + 1) (by omega) (by rw [← hff, fnd, hg]; rfl) M2
              rw [← nI_1 r] at this
              exact this
            · have q : ¬ gaI RL (Y.1 0) (S.1.1 0) (S.1.1 3) (S.1.1 4) 0 (S.1.1 1) (S.1.1 5) (S.1.2.2.1 0) (S.1.2.2.1 1) (rOne p r (ruT S.1)) m p ≤ own p := q
              rw [eb, eown] at q
              have hg : gnr S.1 m p r = true := decide_eq_true (Int32.not_le.mp q)
              have hsome : fnd (gnr S.1 m p) (S.1.1 2) 0 = some r := by rw [← hff, fnd, if_pos hg]
              have e : sRest S (nI m) = (nI (10 * p + r), S) := by
                rw [sRest, hA]
                show (fnd2I (fnd2 (gnr S.1 m) (S.1.1 2) (S.1.1 3) 0), S) = _
                rw [← hf, fnd2, hsome]; rfl
              have e10 : nI 10 * nI p + nI r = nI (10 * p + r) := by rw [pk_mul, nI_add]
              refine ⟨⟨_, rfl, rfl⟩, rfl, ⟨setY (setJ Y 3 M2) 0 own, rfl, by rw [e]; exact rep_mono h (Nat.le_succ c)⟩, ?_⟩
              rw [e]
              show some (Value.int (nI 10 * nI p + nI r)) = _
              rw [e10]
        refine o.run 100 [41] ⟨fun q => absurd q (by show ¬ (Y.1 0).1 4 ≤ _; rw [e4]; exact nI_ge (by omega) (by omega)), fun _ => ?_⟩
        exact inner (S.1.1 2) 0 (by omega) rfl M
    exact o.run 100 [27] (outer (S.1.1 3) 0 (by omega) rfl M0 none)
  · obtain ⟨hk1, hkp, hk7, hk0⟩ := whR_k hz
    refine o.run 100 [] ?_
    show Z _ _ _ _
    refine o.cV vX3_151 (c_whyNoRun (x := x) hnb e4) (fun w' rv _ hpo => ?_)
    obtain ⟨rfl, rfl⟩ := hpo
    rw [hk1]
    refine o.run 100 [] ⟨fun q => absurd q hk0, fun _ => ?_⟩
    show Z _ _ _ _
    refine o.cV vX3_48 (c_refuse (k := (whK x (S.1.1 3))) hkp hk7) (fun w' rv _ hpo => ?_)
    obtain ⟨rfl, rfl⟩ := hpo
    exact o.run 100 [] (pret (A' := sRf S (whK x (S.1.1 3))) (by rw [sRest, sRun, if_neg hz]) _ (rep_rf h (whK x (S.1.1 3))))

set_option maxRecDepth 10000 in
theorem y_part (h : repY RL Y S c) (hc : c ≤ 100) {a b w x : Int32} : zPub l D C yX3_part cX3_part 6 7 [.int a, .int b, .int w, .int x] Y RL c (sPart S a b w x) := by
  have hI := h.2.1.1
  have hT := h.2.1.2
  have hWb : S.1.1 0 ≤ 6 := hT.1.1
  have hnb : S.1.1 3 ≤ 8 := hT.1.2.2.2.2.1
  have hrb : S.1.1 2 ≤ 10 := hT.1.2.2.2.1
  have e0 : (Y.1 0).1 0 = nI (S.1.1 0) := hI.1.1
  have e3 : (Y.1 0).1 3 = nI (S.1.1 2) := hI.1.2.2.2.1
  have e4 : (Y.1 0).1 4 = nI (S.1.1 3) := hI.1.2.2.2.2.1
  have hR := h.1
  refine zFun_of (by decide) oX3_part tbX3 (Nat.le_of_ble_eq_true rfl) (fun Z o => ?_)
  have bad : (isN a (S.1.1 2) && isN b (S.1.1 2)) = false → Z 18 (yamW 53 Y ++ pol 53 RL) [some (.ref 0), some (.int a), some (.int b), some (.int w), some (.int x), none] [.int (zi (-1)), .ref 0] := fun hf => by
    refine o.cV vX3_48 (c_refuse (k := 1) (by omega) (by omega)) (fun w' rv _ hpo => ?_)
    obtain ⟨rfl, rfl⟩ := hpo
    exact o.run 100 [] (pret (A' := sRf S 1) (by rw [sPart, hf]; rfl) _ (rep_rf h 1))
  refine o.run 100 [] ?_
  show Z _ _ _ _
  refine o.cV vX3_111 (c_isRule (x := a) e3) (fun w' rv _ hpo => ?_)
  obtain ⟨rfl, rfl⟩ := hpo
  refine o.run 100 [18] ⟨fun q => bad (by rw [(zB_0 _).mp q]; rfl), fun q => ?_⟩
  have ha := zB_t q
  show Z _ _ _ _
  refine o.cV vX3_111 (c_isRule (x := b) e3) (fun w' rv _ hpo => ?_)
  obtain ⟨rfl, rfl⟩ := hpo
  refine o.run 100 [18, 22] ⟨fun q => ?_, fun q => bad (by rw [(zB_0 _).mp q, Bool.and_false])⟩
  have hb := zB_t q
  have hab : (isN a (S.1.1 2) && isN b (S.1.1 2)) = true := by rw [ha, hb]; rfl
  obtain ⟨ea, hal⟩ := isN_cl (by omega) ha
  obtain ⟨eb, hbl⟩ := isN_cl (by omega) hb
  show Z 22 (yamW 53 Y ++ pol 53 RL) [some (.ref 0), some (.int a), some (.int b), some (.int w), some (.int x), none] []
  have refu : ∀ k, 0 < k → k < 7 → ¬ -(nI k) = 0 → sPart S a b w x = sRf S k → Z 44 (yamW 53 Y ++ pol 53 RL) [some (.ref 0), some (.int a), some (.int b), some (.int w), some (.int x), some (.int (-(nI k)))] [] := fun k hk hk7 hk0 e => by
    refine o.run 100 [] ⟨fun q => absurd q hk0, fun _ => ?_⟩
    show Z _ _ _ _
    refine o.cV vX3_48 (c_refuse (k := k) hk hk7) (fun w' rv _ hpo => ?_)
    obtain ⟨rfl, rfl⟩ := hpo
    exact o.run 100 [] (pret (A' := sRf S k) (e) _ (rep_rf h k))
  have spec : ∀ kz, (w = nI 0 ∧ kz = 0) ∨ (w = nI 1 ∧ kz = 1) → ∀ f0 f1, sPart S a b w x = (if kz = 0 then sRun S x f0 else sRun S x f1) → True := fun _ _ _ _ _ => trivial
  have run : (w = 0 ∨ w = nI 1) → Z 34 (yamW 53 Y ++ pol 53 RL) [some (.ref 0), some (.int a), some (.int b), some (.int w), some (.int x), none] [.int x, .ref 0] := fun hw => by
    refine o.cV vX3_151 (c_whyNoRun (x := x) hnb e4) (fun w' rv _ hpo => ?_)
    obtain ⟨rfl, rfl⟩ := hpo
    by_cases hz : whK x (S.1.1 3) = 0
    · obtain ⟨m, rfl, hm1, hm2, hn0⟩ := wh0 hz
      have hcl : cl (nI m) = m := nI_clamp (by omega)
      have hA : ∀ f, sRun S (nI m) f = f m := fun f => by rw [sRun, if_pos hz, hcl]
      have hM := rep_okM hR hI hT hc hm2
      obtain ⟨an, han⟩ : ∃ k, k = cl a := ⟨_, rfl⟩
      obtain ⟨bn, hbn⟩ : ∃ k, k = cl b := ⟨_, rfl⟩
      rw [← han] at ea hal
      rw [← hbn] at eb hbl
      subst ea eb
      obtain ⟨ra, hra⟩ := rep_rule hI hal
      obtain ⟨rb, hrb2⟩ := rep_rule hI hbl
      have efr : ∀ k, frI RL (Y.1 0) (S.1.1 0) (S.1.1 3) (S.1.1 4) 0 (S.1.1 1) (S.1.1 5) (S.1.2.2.1 0) (S.1.2.2.1 1) (rPart (S.1.1 3) an bn k (ruT S.1)) m = rFn S.1 (rPart (S.1.1 3) an bn k (ruT S.1)) m := fun k => rep_fr hI hT (rPart_lt hal hbl)
      rw [whR_0 hz]
      refine o.run 100 [] ⟨fun _ => ⟨fun q => ?_, fun q => ?_⟩, fun q => absurd nI_0 q⟩
      · have q : ¬ w = 0 := q
        have hw1 : w = nI 1 := hw.resolve_left q
        show Z _ _ _ _
        refine o.cV vX3_191 (c_partAtRest (a := an) (b := bn) hM (by omega) (by omega) hra hrb2) (fun w' rv _ hpo => ?_)
        obtain ⟨⟨P, M, g, rfl⟩, rfl⟩ := hpo
        have eg : (fun k => allN (nbG RL (Y.1 0) (S.1.1 0) (S.1.1 3) (S.1.1 4) 0 (S.1.1 1) (S.1.1 5) (S.1.2.2.1 0) (S.1.2.2.1 1) (rPart (S.1.1 3) an bn k (ruT S.1)) an bn k m) (S.1.1 3)) = (fun k => allN (nbT S.1 an bn m k) (S.1.1 3)) := by
          funext k
          refine allN_congr (fun p hp => ?_)
          unfold nbG nbT
          rw [rep_ga hI hT (rPart_lt hal hbl), rep_ga hI hT (rOne_lt (by split <;> assumption) (rPart_lt hal hbl))]
        have e : sPart S (nI an) (nI bn) w (nI m) = (fndI (fnd (fun k => allN (nbG RL (Y.1 0) (S.1.1 0) (S.1.1 3) (S.1.1 4) 0 (S.1.1 1) (S.1.1 5) (S.1.2.2.1 0) (S.1.2.2.1 1) (rPart (S.1.1 3) an bn k (ruT S.1)) an bn k m) (S.1.1 3)) (S.1.1 3 + 1) 0), S) := by
          rw [sPart, if_pos hab, if_neg (by rw [hw1]; decide), if_pos hw1, hA, ← han, ← hbn, eg]
        exact o.run 100 [] ⟨⟨_, rfl, rfl⟩, rfl, ⟨setY (setJ (setJ Y 2 P) 3 M) 0 g, rfl, by rw [e]; exact rep_mono h (Nat.le_succ c)⟩, by rw [e]⟩
      · have q : w = 0 := q
        show Z _ _ _ _
        refine o.cV vX3_188 (c_bestPart (a := an) (b := bn) hM (by omega) (by omega) hra hrb2 (by rw [efr]; exact rF_pos hT hm2 _ _ _ _ _)) (fun w' rv _ hpo => ?_)
        obtain ⟨⟨M, rfl⟩, rfl⟩ := hpo
        have e : sPart S (nI an) (nI bn) w (nI m) = (nI (amx (fun k => frI RL (Y.1 0) (S.1.1 0) (S.1.1 3) (S.1.1 4) 0 (S.1.1 1) (S.1.1 5) (S.1.2.2.1 0) (S.1.2.2.1 1) (rPart (S.1.1 3) an bn k (ruT S.1)) m) (S.1.1 3)), S) := by
          rw [sPart, if_pos hab, if_pos (by rw [q]; exact nI_0.symm), hA, ← han, ← hbn]
          have : (fun k => frI RL (Y.1 0) (S.1.1 0) (S.1.1 3) (S.1.1 4) 0 (S.1.1 1) (S.1.1 5) (S.1.2.2.1 0) (S.1.2.2.1 1) (rPart (S.1.1 3) an bn k (ruT S.1)) m) = (fun k => rFn S.1 (rPart (S.1.1 3) an bn k (ruT S.1)) m) := funext efr
          rw [this]
        exact o.run 100 [] ⟨⟨_, rfl, rfl⟩, rfl, ⟨setJ Y 3 M, rfl, by rw [e]; exact rep_mono h (Nat.le_succ c)⟩, by rw [e]⟩
    · obtain ⟨hk1, hkp, hk7, hk0⟩ := whR_k hz
      rw [hk1]
      refine o.run 100 [44] (refu _ hkp hk7 hk0 ?_)
      rw [sPart, if_pos hab]
      rcases hw with hw | hw
      · rw [if_pos (by rw [hw]; exact nI_0.symm), sRun, if_neg hz]
      · rw [if_neg (by rw [hw]; decide), if_pos hw, sRun, if_neg hz]
  refine o.run 100 [34, 44] ⟨fun q => run (Or.inl q), fun q => ⟨fun q2 => refu 2 (by omega) (by omega) (by decide) ?_, fun q2 => run (Or.inr q2)⟩⟩
  rw [sPart, if_pos hab, if_neg (fun z => q (by rw [z]; exact nI_0)), if_neg (show ¬ w = nI 1 from q2)]

end PUB3
end
section
/-! the class's public methods, 4 -/
theorem rep_see2 {RL : List zRu} {I : zI} {t : zT} {c sh : Nat} {bl : Nat → Bool} {se : Nat → Int32} (ht : okT t c) (h4 : ∀ p, p < t.1 3 → I.2.1 4 p = se p) (h7 : ∀ o, o < 8 → sb (I.1 7) o = bl o) : ∀ y p o, p < t.1 3 → o < t.1 3 → sb (seB sh y (I.2.1 4 p) (I.1 7) p) o = seeS sh bl se y p o := fun y p o hp ho => by
  have hn : t.1 3 ≤ 8 := ht.1.2.2.2.2.1
  rw [see_class (by omega) (by omega), h7 o (by omega), h4 p hp]
  rfl
section PUB4
variable {l : Launch} {D : va_G} {C : zC} {Y : zY} {RL : List zRu} {S : zF} {c : Nat}
set_option maxRecDepth 10000 in
theorem y_bestRule (h : repY RL Y S c) (hc : c ≤ 100) {x : Int32} : zPub l D C yX3_bestRule cX3_bestRule 7 6 [.int x] Y RL c (sBestRule S x) := by
  have hI := h.2.1.1
  have hT := h.2.1.2
  have hWb : S.1.1 0 ≤ 6 := hT.1.1
  have hnb : S.1.1 3 ≤ 8 := hT.1.2.2.2.2.1
  have hrb : S.1.1 2 ≤ 10 := hT.1.2.2.2.1
  have e0 : (Y.1 0).1 0 = nI (S.1.1 0) := hI.1.1
  have e3 : (Y.1 0).1 3 = nI (S.1.1 2) := hI.1.2.2.2.1
  have e4 : (Y.1 0).1 4 = nI (S.1.1 3) := hI.1.2.2.2.2.1
  have hR := h.1
  refine zFun_of (by decide) oX3_bestRule tbX3 (Nat.le_of_ble_eq_true rfl) (fun Z o => ?_)
  by_cases hz : whK x (S.1.1 3) = 0
  · obtain ⟨m, rfl, hm1, hm2, hn0⟩ := wh0 hz
    have hcl : cl (nI m) = m := nI_clamp (by omega)
    have hM := rep_okM hR hI hT hc hm2
    have hA : ∀ f, sRun S (nI m) f = f m := fun f => by rw [sRun, if_pos hz, hcl]
    refine o.run 100 [] ?_
    show Z _ _ _ _
    refine o.cV vX3_151 (c_whyNoRun (x := nI m) hnb e4) (fun w' rv _ hpo => ?_)
    obtain ⟨rfl, rfl⟩ := hpo
    rw [whR_0 hz]
    refine o.run 100 [24] ⟨fun _ => ?_, fun q => absurd nI_0 q⟩
    have hrl : ∀ p, p < S.1.1 3 → ruT S.1 p < S.1.1 2 := fun p hp => (hT.2.2.2.1 p hp).1
    have hrc : 0 < S.1.1 2 := by have := hrl 0 hn0; omega
    let f : Nat → Int32 := fun r => rFn S.1 (allR S.1 r) m
    have ef : ∀ r, r < S.1.1 2 → frI RL (Y.1 0) (S.1.1 0) (S.1.1 3) (S.1.1 4) 0 (S.1.1 1) (S.1.1 5) (S.1.2.2.1 0) (S.1.2.2.1 1) (rPart (S.1.1 3) r r 0 (ruT S.1)) m = f r := fun r hr => rep_fr hI hT (rPart_lt hr hr)
    have call : ∀ r, r < S.1.1 2 → ∀ best most x6 M, (∀ M2, Z 48 (yamW 53 (setJ Y 3 M2) ++ pol 53 RL) [some (.ref 0), some (.int (nI m)), some (.int (nI 0)), some (.int best), some (.int most), some (.int (nI r)), some (.int (f r))] []) → Z 43 (yamW 53 (setJ Y 3 M) ++ pol 53 RL) [some (.ref 0), some (.int (nI m)), some (.int (nI 0)), some (.int best), some (.int most), some (.int (nI r)), x6] [.int (nI m), .int (nI 0), .int (nI r), .int (nI r), .ref 0] := fun r hr best most x6 M kk => by
      obtain ⟨ra, hra⟩ := rep_rule hI hr
      refine o.cV vX3_185 (c_faresInParts (Y := setJ Y 3 M) (a := r) (b := r) (k := 0) hM (by omega) (by omega) (by omega) hra hra) (fun w' rv _ hpo => ?_)
      obtain ⟨⟨M2, rfl⟩, rfl⟩ := hpo
      have := kk M2
      rw [← ef r hr] at this
      exact o.run 100 [48] this
    have loop : ∀ j k, k + 1 + j = S.1.1 2 → ∀ x6 M, Z 24 (yamW 53 (setJ Y 3 M) ++ pol 53 RL) [some (.ref 0), some (.int (nI m)), some (.int (nI 0)), some (.int (nI (amx f k))), some (.int (f (amx f k))), some (.int (nI (k + 1))), x6] [] := by
      intro j
      induction j with
      | zero =>
        intro k hk x6 M
        have e : sBestRule S (nI m) = (nI (amx f k), S) := by
          rw [sBestRule, hA, show S.1.1 2 - 1 = k by omega]
        exact o.run 100 [] ⟨fun _ => ⟨⟨_, rfl, rfl⟩, rfl, ⟨setJ Y 3 M, rfl, by rw [e]; exact rep_mono h (Nat.le_succ c)⟩, by rw [e]⟩, fun q => absurd (by show (Y.1 0).1 3 ≤ _; rw [e3]; exact nI_le (by omega) (by omega)) q⟩
      | succ j ih =>
        intro k hk x6 M
        refine o.run 100 [43] ⟨fun q => absurd q (by show ¬ (Y.1 0).1 3 ≤ _; rw [e3]; exact nI_ge (by omega) (by omega)), fun _ => call (k + 1) (by omega) _ _ x6 M (fun M2 => ?_)⟩
        refine o.run 100 [24] ⟨fun q => ?_, fun q => ?_⟩
        · have := ih (k + 1) (by omega) (some (.int (f (k + 1)))) M2
          have q : f (k + 1) ≤ f (amx f k) := q
          rw [show amx f (k + 1) = amx f k by rw [amx, if_neg (Int32.not_lt.mpr q)], ← nI_1 (k + 1)] at this
          exact this
        · have := ih (k + 1) (by omega) (some (.int (f (k + 1)))) M2
          have q : ¬ f (k + 1) ≤ f (amx f k) := q
          rw [show amx f (k + 1) = k + 1 by rw [amx, if_pos (Int32.not_le.mp q)], ← nI_1 (k + 1)] at this
          exact this
    show Z 24 (yamW 53 Y ++ pol 53 RL) [some (.ref 0), some (.int (nI m)), some (.int (nI 0)), some (.int (nI 0)), some (.int (zi (-1))), some (.int (nI 0)), none] []
    refine o.run 100 [43] ⟨fun q => absurd q (by show ¬ (Y.1 0).1 3 ≤ nI 0; rw [e3]; exact nI_ge (by omega) (by omega)), fun _ => call 0 hrc (nI 0) (zi (-1)) none (Y.1 3) (fun M2 => ?_)⟩
    refine o.run 100 [24] ⟨fun q => ?_, fun q => loop (S.1.1 2 - 1) 0 (by omega) _ M2⟩
    have q : f 0 ≤ zi (-1) := q
    exact absurd (Int32.le_trans (rF_pos hT hm2 _ _ _ _ _) q) (by decide)
  · obtain ⟨hk1, hkp, hk7, hk0⟩ := whR_k hz
    refine o.run 100 [] ?_
    show Z _ _ _ _
    refine o.cV vX3_151 (c_whyNoRun (x := x) hnb e4) (fun w' rv _ hpo => ?_)
    obtain ⟨rfl, rfl⟩ := hpo
    rw [hk1]
    refine o.run 100 [] ⟨fun q => absurd q hk0, fun _ => ?_⟩
    show Z _ _ _ _
    refine o.cV vX3_48 (c_refuse (k := (whK x (S.1.1 3))) hkp hk7) (fun w' rv _ hpo => ?_)
    obtain ⟨rfl, rfl⟩ := hpo
    exact o.run 100 [] (pret (A' := sRf S (whK x (S.1.1 3))) (by rw [sBestRule, sRun, if_neg hz]) _ (rep_rf h (whK x (S.1.1 3))))

set_option maxRecDepth 10000 in
theorem y_blind (h : repY RL Y S c) (hc : c ≤ 100) {x : Int32} : zPub l D C yX3_blind cX3_blind 7 5 [.int x] Y RL c (sBlind S x) := by
  have hI := h.2.1.1
  have hT := h.2.1.2
  have hWb : S.1.1 0 ≤ 6 := hT.1.1
  have hnb : S.1.1 3 ≤ 8 := hT.1.2.2.2.2.1
  have hrb : S.1.1 2 ≤ 10 := hT.1.2.2.2.1
  have e0 : (Y.1 0).1 0 = nI (S.1.1 0) := hI.1.1
  have e3 : (Y.1 0).1 3 = nI (S.1.1 2) := hI.1.2.2.2.1
  have e4 : (Y.1 0).1 4 = nI (S.1.1 3) := hI.1.2.2.2.2.1
  have hR := h.1
  refine zFun_of (by decide) oX3_blind tbX3 (Nat.le_of_ble_eq_true rfl) (fun Z o => ?_)
  by_cases hz : whK x (S.1.1 3) = 0
  · obtain ⟨m, rfl, hm1, hm2, hn0⟩ := wh0 hz
    have hcl : cl (nI m) = m := nI_clamp (by omega)
    have hM := rep_okM hR hI hT hc hm2
    have hA : ∀ f, sRun S (nI m) f = f m := fun f => by rw [sRun, if_pos hz, hcl]
    refine o.run 100 [] ?_
    show Z _ _ _ _
    refine o.cV vX3_151 (c_whyNoRun (x := nI m) hnb e4) (fun w' rv _ hpo => ?_)
    obtain ⟨rfl, rfl⟩ := hpo
    rw [whR_0 hz]
    refine o.run 100 [24] ⟨fun _ => ?_, fun q => absurd nI_0 q⟩
    have hrl : ∀ p, p < S.1.1 3 → ruT S.1 p < S.1.1 2 := fun p hp => (hT.2.2.2.1 p hp).1
    let f : Nat → Int32 := fun p => rF S.1 (fun o => decide (p = o)) (S.1.2.2.2.1 0) (S.1.1 5) (ruT S.1) (tT S.1) m
    have call : ∀ p, p < S.1.1 3 → ∀ best most x6 M, (∀ M2, Z 65 (yamW 53 (setJ Y 3 M2) ++ pol 53 RL) [some (.ref 0), some (.int (nI m)), some (.int (nI 0)), some (.int best), some (.int most), some (.int (nI p)), some (.int (f p))] []) → Z 36 (yamW 53 (setJ Y 3 M) ++ pol 53 RL) [some (.ref 0), some (.int (nI m)), some (.int (nI 0)), some (.int best), some (.int most), some (.int (nI p)), x6] [] := fun p hp best most x6 M kk => by
      refine o.run 100 [] ?_
      show Z _ _ _ _
      refine o.yC 3 0 (Y := setJ Y 3 M) (by omega) (by omega) (by omega) vX3_163 (c_imagine (I := M) hM.2.2.2.2) (fun rv hpo => ?_)
      subst hpo
      refine o.run 100 [] ?_
      show Z 60 (yamW 53 (setJ Y 3 (setS (imI M (Y.1 0)) 7 (nI 1 <<< (nI p &&& 31)))) ++ pol 53 RL) _ [.int (nI m), .ref 0]
      refine o.cV vX3_204 (c_faresInMind (Y := setJ Y 3 (setS (imI M (Y.1 0)) 7 (nI 1 <<< (nI p &&& 31)))) (W := S.1.1 0) (n := S.1.1 3) (y := S.1.1 4) (s0 := 0) (L := S.1.1 1) (sh := S.1.1 5) (m := m) (sk := S.1.2.2.1 0) (v := S.1.2.2.1 1) (ru := ruT S.1) hM rfl) (fun w' rv _ hpo => ?_)
      obtain ⟨⟨M2, rfl⟩, rfl⟩ := hpo
      have ef : frI RL (setS (imI M (Y.1 0)) 7 (nI 1 <<< (nI p &&& 31))) (S.1.1 0) (S.1.1 3) (S.1.1 4) 0 (S.1.1 1) (S.1.1 5) (S.1.2.2.1 0) (S.1.2.2.1 1) (ruT S.1) m = f p := congrArg (fun g => sm g (S.1.1 3)) (ga_eq (I := setS (imI M (Y.1 0)) 7 (nI 1 <<< (nI p &&& 31))) (t := S.1) hI.2.1.1 (rep_dn hI hrl) (rep_see2 (RL := RL) hT (fun q _ => by show (Y.1 0).2.1 4 q = _; rw [hI.2.1.2.2.2.2.1]) (fun o ho => by show sb (nI 1 <<< (nI p &&& 31)) o = _; rw [sb_shift (by omega) ho])))
      have := kk M2
      rw [← ef] at this
      exact o.run 100 [65] this
    have loop : ∀ j k, k + 1 + j = S.1.1 3 → ∀ x6 M, Z 24 (yamW 53 (setJ Y 3 M) ++ pol 53 RL) [some (.ref 0), some (.int (nI m)), some (.int (nI 0)), some (.int (nI (amx f k))), some (.int (f (amx f k))), some (.int (nI (k + 1))), x6] [] := by
      intro j
      induction j with
      | zero =>
        intro k hk x6 M
        have e : sBlind S (nI m) = (nI (amx f k), S) := by
          rw [sBlind, hA, show S.1.1 3 - 1 = k by omega]
        exact o.run 100 [] ⟨fun _ => ⟨⟨_, rfl, rfl⟩, rfl, ⟨setJ Y 3 M, rfl, by rw [e]; exact rep_mono h (Nat.le_succ c)⟩, by rw [e]⟩, fun q => absurd (by show (Y.1 0).1 4 ≤ _; rw [e4]; exact nI_le (by omega) (by omega)) q⟩
      | succ j ih =>
        intro k hk x6 M
        refine o.run 100 [36] ⟨fun q => absurd q (by show ¬ (Y.1 0).1 4 ≤ _; rw [e4]; exact nI_ge (by omega) (by omega)), fun _ => call (k + 1) (by omega) _ _ x6 M (fun M2 => ?_)⟩
        refine o.run 100 [24] ⟨fun q => ?_, fun q => ?_⟩
        · have := ih (k + 1) (by omega) (some (.int (f (k + 1)))) M2
          have q : f (k + 1) ≤ f (amx f k) := q
          rw [show amx f (k + 1) = amx f k by rw [amx, if_neg (Int32.not_lt.mpr q)], ← nI_1 (k + 1)] at this
          exact this
        · have := ih (k + 1) (by omega) (some (.int (f (k + 1)))) M2
          have q : ¬ f (k + 1) ≤ f (amx f k) := q
          rw [show amx f (k + 1) = k + 1 by rw [amx, if_pos (Int32.not_le.mp q)], ← nI_1 (k + 1)] at this
          exact this
    show Z 24 (yamW 53 Y ++ pol 53 RL) [some (.ref 0), some (.int (nI m)), some (.int (nI 0)), some (.int (nI 0)), some (.int (zi (-1))), some (.int (nI 0)), none] []
    refine o.run 100 [36] ⟨fun q => absurd q (by show ¬ (Y.1 0).1 4 ≤ nI 0; rw [e4]; exact nI_ge (by omega) (by omega)), fun _ => call 0 hn0 (nI 0) (zi (-1)) none (Y.1 3) (fun M2 => ?_)⟩
    refine o.run 100 [24] ⟨fun q => ?_, fun q => loop (S.1.1 3 - 1) 0 (by omega) _ M2⟩
    have q : f 0 ≤ zi (-1) := q
    exact absurd (Int32.le_trans (rF_pos hT hm2 _ _ _ _ _) q) (by decide)
  · obtain ⟨hk1, hkp, hk7, hk0⟩ := whR_k hz
    refine o.run 100 [] ?_
    show Z _ _ _ _
    refine o.cV vX3_151 (c_whyNoRun (x := x) hnb e4) (fun w' rv _ hpo => ?_)
    obtain ⟨rfl, rfl⟩ := hpo
    rw [hk1]
    refine o.run 100 [] ⟨fun q => absurd q hk0, fun _ => ?_⟩
    show Z _ _ _ _
    refine o.cV vX3_48 (c_refuse (k := (whK x (S.1.1 3))) hkp hk7) (fun w' rv _ hpo => ?_)
    obtain ⟨rfl, rfl⟩ := hpo
    exact o.run 100 [] (pret (A' := sRf S (whK x (S.1.1 3))) (by rw [sBlind, sRun, if_neg hz]) _ (rep_rf h (whK x (S.1.1 3))))

set_option maxRecDepth 10000 in
theorem y_lessSeen (h : repY RL Y S c) (hc : c ≤ 100) {k x : Int32} : zPub l D C yX3_lessSeen cX3_lessSeen 5 6 [.int k, .int x] Y RL c (sLess S k x) := by
  have hI := h.2.1.1
  have hT := h.2.1.2
  have hWb : S.1.1 0 ≤ 6 := hT.1.1
  have hnb : S.1.1 3 ≤ 8 := hT.1.2.2.2.2.1
  have hrb : S.1.1 2 ≤ 10 := hT.1.2.2.2.1
  have e0 : (Y.1 0).1 0 = nI (S.1.1 0) := hI.1.1
  have e3 : (Y.1 0).1 3 = nI (S.1.1 2) := hI.1.2.2.2.1
  have e4 : (Y.1 0).1 4 = nI (S.1.1 3) := hI.1.2.2.2.2.1
  have hR := h.1
  refine zFun_of (by decide) oX3_lessSeen tbX3 (Nat.le_of_ble_eq_true rfl) (fun Z o => ?_)
  obtain ⟨hwe, hw7, hw0⟩ := whW_eq (v := k) (hi := nI 7) (x := x) (n := S.1.1 3)
  refine o.run 100 [] ?_
  show Z _ _ _ _
  refine o.cV vX3_198 (c_whyNoRunWith (v := k) (hi := nI 7) (x := x) hnb e4) (fun w' rv _ hpo => ?_)
  obtain ⟨rfl, rfl⟩ := hpo
  by_cases hz : whKW k (nI 7) x (S.1.1 3) = 0
  · rw [if_pos hz] at hwe
    rw [hwe]
    obtain ⟨hzr, hv0, hv6⟩ := whKW_0 hz
    obtain ⟨m, rfl, hm1, hm2, hn0⟩ := wh0 hzr
    have hcl : cl (nI m) = m := nI_clamp (by omega)
    have hM := rep_okM hR hI hT hc hm2
    have hrl : ∀ p, p < S.1.1 3 → ruT S.1 p < S.1.1 2 := fun p hp => (hT.2.2.2.1 p hp).1
    obtain ⟨kn, hkn, rfl⟩ := nI_of hv0
    rw [nI_ltI (by omega) (by omega)] at hv6
    have hclk : cl (nI kn) = kn := nI_clamp (by omega)
    refine o.run 100 [] ⟨fun _ => ?_, fun q => absurd nI_0 q⟩
    show Z _ _ _ _
    refine o.cV vX3_160 (c_faresNow hM) (fun w' rv _ hpo => ?_)
    obtain ⟨⟨M, rfl⟩, rfl⟩ := hpo
    refine o.run 100 [] ?_
    show Z _ _ _ _
    refine o.yC 3 0 (Y := setJ Y 3 M) (by omega) (by omega) (by omega) vX3_163 (c_imagine (I := M) hM.2.2.2.2) (fun rv hpo => ?_)
    subst hpo
    refine o.run 100 [] ?_
    show Z _ _ _ _
    refine o.yA 3 (Y := setJ Y 3 (imI M (Y.1 0))) (Q := fun M' rv => M' = setA (imI M (Y.1 0)) 4 (mix (S.1.1 3) (fun p => ahB (S.1.1 3) p kn) ((Y.1 0).2.1 4)) ∧ rv = none) (by omega) vX3_201 (c_seeAhead (I := imI M (Y.1 0)) (n := S.1.1 3) (k := kn) hnb (by omega) e4) (fun w rv hpo => ⟨_, hpo.1, rfl, hpo.2⟩) (fun M' rv hq => ?_)
    obtain ⟨rfl, rfl⟩ := hq
    refine o.run 100 [] ?_
    show Z _ _ _ _
    refine o.cV vX3_204 (c_faresInMind (Y := setJ Y 3 (setA (imI M (Y.1 0)) 4 (mix (S.1.1 3) (fun p => ahB (S.1.1 3) p kn) ((Y.1 0).2.1 4)))) (W := S.1.1 0) (n := S.1.1 3) (y := S.1.1 4) (s0 := 0) (L := S.1.1 1) (sh := S.1.1 5) (m := m) (sk := S.1.2.2.1 0) (v := S.1.2.2.1 1) (ru := ruT S.1) hM rfl) (fun w' rv _ hpo => ?_)
    obtain ⟨⟨M2, rfl⟩, rfl⟩ := hpo
    have ef : frI RL (setA (imI M (Y.1 0)) 4 (mix (S.1.1 3) (fun p => ahB (S.1.1 3) p kn) ((Y.1 0).2.1 4))) (S.1.1 0) (S.1.1 3) (S.1.1 4) 0 (S.1.1 1) (S.1.1 5) (S.1.2.2.1 0) (S.1.2.2.1 1) (ruT S.1) m = rF S.1 nob (fun p => ahB (S.1.1 3) p kn) (S.1.1 5) (ruT S.1) (tT S.1) m := congrArg (fun g => sm g (S.1.1 3)) (ga_eq (I := setA (imI M (Y.1 0)) 4 (mix (S.1.1 3) (fun p => ahB (S.1.1 3) p kn) ((Y.1 0).2.1 4))) (t := S.1) hI.2.1.1 (rep_dn hI hrl) (rep_see2 (RL := RL) hT (fun q hq => by show mix (S.1.1 3) (fun p => ahB (S.1.1 3) p kn) ((Y.1 0).2.1 4) q = _; rw [mix_lt hq]) (fun o ho => by show sb ((Y.1 0).1 7) o = _; rw [hI.1.2.2.2.2.2.2.2, sb_zero]; rfl)))
    have e : sLess S (nI kn) (nI m) = (frI RL (setA (imI M (Y.1 0)) 4 (mix (S.1.1 3) (fun p => ahB (S.1.1 3) p kn) ((Y.1 0).2.1 4))) (S.1.1 0) (S.1.1 3) (S.1.1 4) 0 (S.1.1 1) (S.1.1 5) (S.1.2.2.1 0) (S.1.2.2.1 1) (ruT S.1) m - frI RL (Y.1 0) (S.1.1 0) (S.1.1 3) (S.1.1 4) 0 (S.1.1 1) (S.1.1 5) (S.1.2.2.1 0) (S.1.2.2.1 1) (ruT S.1) m, S) := by
      rw [sLess, sRunF, if_pos hz, hcl, hclk, ef, rep_fr hI hT hrl]
    exact o.run 100 [] ⟨⟨_, rfl, rfl⟩, rfl, ⟨setJ Y 3 M2, rfl, by rw [e]; exact rep_mono h (Nat.le_succ c)⟩, by rw [e]; rfl⟩
  · rw [if_neg hz] at hwe
    rw [if_neg hz] at hw0
    rw [hwe]
    refine o.run 100 [] ⟨fun q => absurd q hw0, fun _ => ?_⟩
    show Z _ _ _ _
    refine o.cV vX3_174 (c_refuseFar (k := (whKW k (nI 7) x (S.1.1 3))) (by omega) hw7) (fun w' rv _ hpo => ?_)
    obtain ⟨rfl, rfl⟩ := hpo
    exact o.run 100 [] (pret (A' := sRff S (whKW k (nI 7) x (S.1.1 3))) (by rw [sLess, sRunF, if_neg hz]) _ (rep_rf h (whKW k (nI 7) x (S.1.1 3))))

set_option maxRecDepth 10000 in
theorem y_shown (h : repY RL Y S c) (hc : c ≤ 100) {s x : Int32} : zPub l D C yX3_shown cX3_shown 5 6 [.int s, .int x] Y RL c (sShown S s x) := by
  have hI := h.2.1.1
  have hT := h.2.1.2
  have hWb : S.1.1 0 ≤ 6 := hT.1.1
  have hnb : S.1.1 3 ≤ 8 := hT.1.2.2.2.2.1
  have hrb : S.1.1 2 ≤ 10 := hT.1.2.2.2.1
  have e0 : (Y.1 0).1 0 = nI (S.1.1 0) := hI.1.1
  have e3 : (Y.1 0).1 3 = nI (S.1.1 2) := hI.1.2.2.2.1
  have e4 : (Y.1 0).1 4 = nI (S.1.1 3) := hI.1.2.2.2.2.1
  have hR := h.1
  refine zFun_of (by decide) oX3_shown tbX3 (Nat.le_of_ble_eq_true rfl) (fun Z o => ?_)
  obtain ⟨hwe, hw7, hw0⟩ := whW_eq (v := s) (hi := nI 24) (x := x) (n := S.1.1 3)
  refine o.run 100 [] ?_
  show Z _ _ _ _
  refine o.cV vX3_198 (c_whyNoRunWith (v := s) (hi := nI 24) (x := x) hnb e4) (fun w' rv _ hpo => ?_)
  obtain ⟨rfl, rfl⟩ := hpo
  by_cases hz : whKW s (nI 24) x (S.1.1 3) = 0
  · rw [if_pos hz] at hwe
    rw [hwe]
    obtain ⟨hzr, hv0, hv6⟩ := whKW_0 hz
    obtain ⟨m, rfl, hm1, hm2, hn0⟩ := wh0 hzr
    have hcl : cl (nI m) = m := nI_clamp (by omega)
    have hM := rep_okM hR hI hT hc hm2
    have hrl : ∀ p, p < S.1.1 3 → ruT S.1 p < S.1.1 2 := fun p hp => (hT.2.2.2.1 p hp).1
    obtain ⟨kn, hkn, rfl⟩ := nI_of hv0
    rw [nI_ltI (by omega) (by omega)] at hv6
    have hclk : cl (nI kn) = kn := nI_clamp (by omega)
    refine o.run 100 [] ⟨fun _ => ?_, fun q => absurd nI_0 q⟩
    show Z _ _ _ _
    refine o.cV vX3_160 (c_faresNow hM) (fun w' rv _ hpo => ?_)
    obtain ⟨⟨M, rfl⟩, rfl⟩ := hpo
    refine o.run 100 [] ?_
    show Z _ _ _ _
    refine o.yC 3 0 (Y := setJ Y 3 M) (by omega) (by omega) (by omega) vX3_163 (c_imagine (I := M) hM.2.2.2.2) (fun rv hpo => ?_)
    subst hpo
    refine o.run 100 [] ?_
    show Z 47 (yamW 53 (setJ Y 3 (setS (imI M (Y.1 0)) 6 (nI kn))) ++ pol 53 RL) _ [.int (nI m), .ref 0]
    have hM2 : okM RL (setS (imI M (Y.1 0)) 6 (nI kn)) (S.1.1 0) (S.1.1 3) (S.1.1 4) 0 (S.1.1 1) kn (S.1.2.2.1 0) (S.1.2.2.1 1) (ruT S.1) m := ⟨hM.1, ⟨hM.2.1.1, hM.2.1.2.1, hM.2.1.2.2.1, hM.2.1.2.2.2.1, ⟨rfl, by omega⟩, hM.2.1.2.2.2.2.2⟩, hM.2.2⟩
    refine o.cV vX3_204 (c_faresInMind (Y := setJ Y 3 (setS (imI M (Y.1 0)) 6 (nI kn))) (W := S.1.1 0) (n := S.1.1 3) (y := S.1.1 4) (s0 := 0) (L := S.1.1 1) (sh := kn) (m := m) (sk := S.1.2.2.1 0) (v := S.1.2.2.1 1) (ru := ruT S.1) hM2 rfl) (fun w' rv _ hpo => ?_)
    obtain ⟨⟨M2, rfl⟩, rfl⟩ := hpo
    have ef : frI RL (setS (imI M (Y.1 0)) 6 (nI kn)) (S.1.1 0) (S.1.1 3) (S.1.1 4) 0 (S.1.1 1) kn (S.1.2.2.1 0) (S.1.2.2.1 1) (ruT S.1) m = rF S.1 nob (S.1.2.2.2.1 0) kn (ruT S.1) (tT S.1) m := congrArg (fun g => sm g (S.1.1 3)) (ga_eq (I := setS (imI M (Y.1 0)) 6 (nI kn)) (t := S.1) hI.2.1.1 (rep_dn hI hrl) (rep_see2 (RL := RL) hT (fun q _ => by show (Y.1 0).2.1 4 q = _; rw [hI.2.1.2.2.2.2.1]) (fun o ho => by show sb ((Y.1 0).1 7) o = _; rw [hI.1.2.2.2.2.2.2.2, sb_zero]; rfl)))
    have e : sShown S (nI kn) (nI m) = (frI RL (setS (imI M (Y.1 0)) 6 (nI kn)) (S.1.1 0) (S.1.1 3) (S.1.1 4) 0 (S.1.1 1) kn (S.1.2.2.1 0) (S.1.2.2.1 1) (ruT S.1) m - frI RL (Y.1 0) (S.1.1 0) (S.1.1 3) (S.1.1 4) 0 (S.1.1 1) (S.1.1 5) (S.1.2.2.1 0) (S.1.2.2.1 1) (ruT S.1) m, S) := by
      rw [sShown, sRunF, if_pos hz, hcl, hclk, ef, rep_fr hI hT hrl]
    exact o.run 100 [] ⟨⟨_, rfl, rfl⟩, rfl, ⟨setJ Y 3 M2, rfl, by rw [e]; exact rep_mono h (Nat.le_succ c)⟩, by rw [e]; rfl⟩
  · rw [if_neg hz] at hwe
    rw [if_neg hz] at hw0
    rw [hwe]
    refine o.run 100 [] ⟨fun q => absurd q hw0, fun _ => ?_⟩
    show Z _ _ _ _
    refine o.cV vX3_174 (c_refuseFar (k := (whKW s (nI 24) x (S.1.1 3))) (by omega) hw7) (fun w' rv _ hpo => ?_)
    obtain ⟨rfl, rfl⟩ := hpo
    exact o.run 100 [] (pret (A' := sRff S (whKW s (nI 24) x (S.1.1 3))) (by rw [sShown, sRunF, if_neg hz]) _ (rep_rf h (whKW s (nI 24) x (S.1.1 3))))

set_option maxRecDepth 10000 in
theorem y_next (h : repY RL Y S c) (hc : c ≤ 100) {p : Int32} : zPub l D C yX3_next cX3_next 2 3 [.int p] Y RL c (sNext S p) := by
  have hI := h.2.1.1
  have hT := h.2.1.2
  have hWb : S.1.1 0 ≤ 6 := hT.1.1
  have hnb : S.1.1 3 ≤ 8 := hT.1.2.2.2.2.1
  have hrb : S.1.1 2 ≤ 10 := hT.1.2.2.2.1
  have e0 : (Y.1 0).1 0 = nI (S.1.1 0) := hI.1.1
  have e3 : (Y.1 0).1 3 = nI (S.1.1 2) := hI.1.2.2.2.1
  have e4 : (Y.1 0).1 4 = nI (S.1.1 3) := hI.1.2.2.2.2.1
  have hR := h.1
  refine zFun_of (by decide) oX3_next tbX3 (Nat.le_of_ble_eq_true rfl) (fun Z o => ?_)
  have hM := rep_okM (m := 1) hR hI hT hc (by omega)
  have hrl : ∀ p, p < S.1.1 3 → ruT S.1 p < S.1.1 2 := fun p hp => (hT.2.2.2.1 p hp).1
  refine o.run 100 [] ?_
  show Z _ _ _ _
  refine o.cV vX3_120 (c_isPerson (x := p) e4) (fun w' rv _ hpo => ?_)
  obtain ⟨rfl, rfl⟩ := hpo
  refine o.run 100 [] ⟨fun q => ?_, fun q => ?_⟩
  · have hp := zB_t q
    obtain ⟨ep, hpl⟩ := isN_cl (by omega) hp
    obtain ⟨pn, hpn⟩ : ∃ k, k = cl p := ⟨_, rfl⟩
    rw [← hpn] at ep hpl
    subst ep
    obtain ⟨ra, hra, hra2⟩ := rep_rule hI (hrl pn hpl)
    have hy30 : S.1.1 4 < 2 ^ 30 := by have := hT.1.2.2.2.2.2.1; omega
    let H : zI := setA (setA (Y.1 0) 7 (mix (S.1.1 3) (fun p => seB (S.1.1 5) (S.1.1 4) ((Y.1 0).2.1 4 p) ((Y.1 0).1 7) p) ((Y.1 0).2.1 7))) 6 (mix (S.1.1 3) (fun p => (Y.1 0).2.1 0 (S.1.2.2.1 1 p * 4 + S.1.2.2.1 0 ((S.1.1 4 - 0) % S.1.1 1))) ((Y.1 0).2.1 6))
    show Z _ _ _ _
    refine o.yA 0 (Q := fun I rv => I = H ∧ rv = none) (by omega) vX3_145 (c_harvest (I := Y.1 0) (v := S.1.2.2.1 1) (sk := S.1.2.2.1 0) (n := S.1.1 3) (y := S.1.1 4) (s0 := 0) (L := S.1.1 1) (sh := S.1.1 5) hnb hy30 (Nat.zero_le _) hT.1.2.1 hT.1.2.2.1 hT.1.2.2.2.2.2.2 hI.1.2.1 hI.1.2.2.1 e4 hI.1.2.2.2.2.2.1 hI.1.2.2.2.2.2.2.1 (fun j => by rw [hI.2.1.2.1]) (fun j => (hT.2.2.1 j).1) (fun j => by rw [hI.2.1.2.2.1]) (fun j => (hT.2.2.1 j).2.1)) (fun w rv hpo => ⟨_, hpo.1, rfl, hpo.2⟩) (fun I rv hq => ?_)
    obtain ⟨rfl, rfl⟩ := hq
    refine o.run 100 [] ?_
    show Z _ _ _ _
    refine o.yB 0 (Y := setJ Y 0 H) (by omega) (Q := fun I rv => (∃ pl, I = setA H 9 pl) ∧ rv = some (.int (nI (cho (S.1.1 3) (S.1.1 0) (S.1.1 4) (S.1.2.2.1 1) (sb (H.2.1 7 pn)) (H.2.1 6) pn (dnI RL H.2.2 (ruT S.1 pn) (H.2.1 6 pn)).1 (dnI RL H.2.2 (ruT S.1 pn) (H.2.1 6 pn)).2)))) vX3_148 (c_choiceOf (I := H) (n := S.1.1 3) (p := pn) (W := S.1.1 0) (y := S.1.1 4) (r := ra) (v := S.1.2.2.1 1) (ru := ruT S.1) hR hnb hpl hWb hy30 e4 e0 hI.1.2.2.2.2.2.1 (fun j => by show (Y.1 0).2.1 2 j = _; rw [hI.2.1.2.2.1]) (fun j => (hT.2.2.1 j).2.1) (by show (Y.1 0).2.1 3 pn = _; rw [hI.2.1.2.2.2.1]) (hT.2.2.1 pn).2.2 hra hra2) (fun w rv hpo => ?_) (fun I rv hq => ?_)
    · obtain ⟨⟨pl, rfl⟩, rfl⟩ := hpo
      exact ⟨_, rfl, ⟨pl, rfl⟩, rfl⟩
    · obtain ⟨⟨pl, rfl⟩, rfl⟩ := hq
      have eV : rVn S.1 (ruT S.1) 1 pn = cho (S.1.1 3) (S.1.1 0) (S.1.1 4) (S.1.2.2.1 1) (sb (H.2.1 7 pn)) (H.2.1 6) pn (dnI RL H.2.2 (ruT S.1 pn) (H.2.1 6 pn)).1 (dnI RL H.2.2 (ruT S.1 pn) (H.2.1 6 pn)).2 := by
        have hVe : vI RL (Y.1 0) (S.1.1 0) (S.1.1 3) (S.1.1 4) 0 (S.1.1 1) (S.1.1 5) (S.1.2.2.1 0) (S.1.2.2.1 1) (ruT S.1) 1 = rVn S.1 (ruT S.1) 1 := vI_eq hI.2.1.1 (rep_dn hI hrl) (rep_see hI hT)
        rw [← hVe]
        show yst (S.1.1 3) (S.1.1 0) ((Y.1 0).2.1 0) (fun p o => sb (seB (S.1.1 5) (S.1.1 4) ((Y.1 0).2.1 4 p) ((Y.1 0).1 7) p) o) (fun p x => dnI RL (Y.1 0).2.2 (ruT S.1 p) x) (S.1.2.2.1 0 ((S.1.1 4 + 0 - 0) % S.1.1 1)) (S.1.1 4) (S.1.2.2.1 1) pn = _
        unfold yst
        rw [if_pos hpl]
        have g7 : H.2.1 7 pn = seB (S.1.1 5) (S.1.1 4) ((Y.1 0).2.1 4 pn) ((Y.1 0).1 7) pn := by
          have : H.2.1 7 = mix (S.1.1 3) (fun p => seB (S.1.1 5) (S.1.1 4) ((Y.1 0).2.1 4 p) ((Y.1 0).1 7) p) ((Y.1 0).2.1 7) := rfl
          rw [this, mix_lt hpl]
        have g6 : ∀ q, q < S.1.1 3 → H.2.1 6 q = (Y.1 0).2.1 0 (S.1.2.2.1 1 q * 4 + S.1.2.2.1 0 ((S.1.1 4 - 0) % S.1.1 1)) := fun q hq => by
          have : H.2.1 6 = mix (S.1.1 3) (fun p => (Y.1 0).2.1 0 (S.1.2.2.1 1 p * 4 + S.1.2.2.1 0 ((S.1.1 4 - 0) % S.1.1 1))) ((Y.1 0).2.1 6) := rfl
          rw [this, mix_lt hq]
        rw [g7, g6 pn hpl]
        exact cho_congr hpl (fun q hq => (g6 q hq).symm)
      have e : sNext S (nI pn) = (nI (cho (S.1.1 3) (S.1.1 0) (S.1.1 4) (S.1.2.2.1 1) (sb (H.2.1 7 pn)) (H.2.1 6) pn (dnI RL H.2.2 (ruT S.1 pn) (H.2.1 6 pn)).1 (dnI RL H.2.2 (ruT S.1 pn) (H.2.1 6 pn)).2), S) := by
        rw [sNext, if_pos hp, ← hpn, eV]
      refine o.run 100 [] ⟨⟨_, rfl, rfl⟩, rfl, ⟨setJ Y 0 (setA H 9 pl), rfl, ?_⟩, by rw [e]⟩
      rw [e]
      exact repY_J (I := setA H 9 pl) (t := S.1) h (repI_set hI rfl rfl rfl hI.1 hI.2.1) (okT_mono hT (Nat.le_succ c)) (Nat.le_succ c)
  · show Z _ _ _ _
    refine o.cV vX3_48 (c_refuse (k := 1) (by omega) (by omega)) (fun w' rv _ hpo => ?_)
    obtain ⟨rfl, rfl⟩ := hpo
    exact o.run 100 [] (pret (A' := sRf S 1) (by rw [sNext, (zB_0 _).mp q]; rfl) _ (rep_rf h 1))

end PUB4
end
section
/-! the class's public methods, 5: of, count, edge -/
theorem nI_ne {a b : Nat} (ha : a < 2 ^ 31) (hb : b < 2 ^ 31) (h : a ≠ b) : ¬ nI a = nI b := fun e => h ((nI_eq ha hb).mp e)
theorem isN_lt {j k : Nat} (hj : j < 2 ^ 31) (hk : k < 2 ^ 31) : isN (nI j) k = true ↔ j < k := by
  unfold isN
  rw [decide_eq_true_eq, nI_leI hk hj]
  exact ⟨fun h => by omega, fun h => ⟨nI_pos hj, by omega⟩⟩
section PUB5
variable {l : Launch} {D : va_G} {C : zC} {Y : zY} {RL : List zRu} {S : zF} {c : Nat}
theorem sOf_d {S : zF} {p w : Int32} (h : isN p (S.1.1 3) = true) (hw : w.toInt < 0 ∨ 4 < w.toInt) : sOf S p w = sRf S 2 := by
  have hn : ∀ k, k ≤ 4 → ¬ w = nI k := fun k hk e => by
    have : w.toInt = k := by rw [e]; exact nI_toInt (by omega)
    omega
  rw [sOf, if_pos h, if_neg (hn 0 (by omega)), if_neg (hn 1 (by omega)), if_neg (hn 2 (by omega)), if_neg (hn 3 (by omega)), if_neg (hn 4 (by omega))]
set_option maxRecDepth 10000 in
theorem y_of (h : repY RL Y S c) (hc : c ≤ 100) {p w : Int32} : zPub l D C yX3_of cX3_of 3 1 [.int p, .int w] Y RL c (sOf S p w) := by
  have hI := h.2.1.1
  have hT := h.2.1.2
  have hWb : S.1.1 0 ≤ 6 := hT.1.1
  have hnb : S.1.1 3 ≤ 8 := hT.1.2.2.2.2.1
  have hrb : S.1.1 2 ≤ 10 := hT.1.2.2.2.1
  have e0 : (Y.1 0).1 0 = nI (S.1.1 0) := hI.1.1
  have e3 : (Y.1 0).1 3 = nI (S.1.1 2) := hI.1.2.2.2.1
  have e4 : (Y.1 0).1 4 = nI (S.1.1 3) := hI.1.2.2.2.2.1
  have e5 : (Y.1 0).1 5 = nI (S.1.1 4) := hI.1.2.2.2.2.2.1
  have hy30 : S.1.1 4 < 2 ^ 30 := by have := hT.1.2.2.2.2.2.1; omega
  have hmo := rep_mono h (Nat.le_succ c)
  refine zFun_of (by decide) oX3_of tbX3 (Nat.le_of_ble_eq_true rfl) (fun Z o => ?_)
  refine o.run 100 [] ?_
  show Z _ _ _ _
  refine o.cV vX3_120 (c_isPerson (x := p) e4) (fun w' rv _ hpo => ?_)
  obtain ⟨rfl, rfl⟩ := hpo
  refine o.run 100 [14] ⟨fun q => ?_, fun q => ?_⟩
  · have hp := zB_t q
    obtain ⟨ep, hpl⟩ := isN_cl (by omega) hp
    obtain ⟨pn, hpn⟩ : ∃ k, k = cl p := ⟨_, rfl⟩
    rw [← hpn] at ep hpl
    subst ep
    refine o.run 100 [48, 58, 68, 78, 109, 119] ⟨⟨fun a => ?_, fun a => ?_, fun a => ?_, fun a => ?_, fun a => ?_, trivial⟩, fun a => ?_⟩
    · have a : w = nI 0 := a
      refine o.run 100 [] ⟨pn, rfl, by omega, pret (A' := ((Y.1 0).2.1 2 pn, S)) ?_ Y hmo⟩
      rw [sOf, if_pos hp, if_pos a, ← hpn, hI.2.1.2.2.1]
    · have a : w = nI 1 := a
      refine o.run 100 [] ⟨pn, rfl, by omega, pret (A' := ((Y.1 0).2.1 3 pn, S)) ?_ Y hmo⟩
      subst a
      rw [sOf, if_pos hp, if_neg (by decide), if_pos rfl, ← hpn, hI.2.1.2.2.2.1]
    · have a : w = nI 2 := a
      refine o.run 100 [] ⟨pn, rfl, by omega, pret (A' := ((Y.1 0).2.1 4 pn, S)) ?_ Y hmo⟩
      subst a
      rw [sOf, if_pos hp, if_neg (by decide), if_neg (by decide), if_pos rfl, ← hpn, hI.2.1.2.2.2.2.1]
    · have a : w = nI 3 := a
      refine o.run 100 [] ⟨pn, rfl, by omega, ?_⟩
      show Z _ (yamW 53 Y ++ pol 53 RL) _ [.int ((Y.1 0).1 5), .ref 1, .int ((Y.1 0).2.1 2 pn), .ref 1]
      rw [e5, hI.2.1.2.2.1]
      refine o.yAr 0 (by omega) (rest := [.int (nI (S.1.2.2.1 1 pn)), .ref 1]) vX3_87 (c_weatherOf (I := Y.1 0) (y := S.1.1 4) (s0 := 0) (L := S.1.1 1) hy30 (Nat.zero_le _) hT.1.2.1 hT.1.2.2.1 hI.1.2.1 hI.1.2.2.1) (fun rv hpo => ?_)
      rw [hI.2.1.2.1] at hpo
      subst hpo
      show Z _ (yamW 53 Y ++ pol 53 RL) _ [.int (nI (S.1.2.2.1 0 ((S.1.1 4 - 0) % S.1.1 1))), .int (nI (S.1.2.2.1 1 pn)), .ref 1]
      refine o.yAr 0 (by omega) vX3_71 (c_bringsOf (I := Y.1 0) (w := S.1.2.2.1 1 pn) (t := S.1.2.2.1 0 ((S.1.1 4 - 0) % S.1.1 1)) (hT.2.2.1 _).2.1 (hT.2.2.1 _).1) (fun rv hpo => ?_)
      subst hpo
      refine o.run 100 [] (pret (A' := ((Y.1 0).2.1 0 (S.1.2.2.1 1 pn * 4 + S.1.2.2.1 0 ((S.1.1 4 - 0) % S.1.1 1)), S)) ?_ Y hmo)
      subst a
      rw [sOf, if_pos hp, if_neg (by decide), if_neg (by decide), if_neg (by decide), if_pos rfl, ← hpn, hI.2.1.1]
      rfl
    · have a : w = nI 4 := a
      refine o.run 100 [] ⟨pn, rfl, by omega, pret (A' := ((Y.1 0).2.1 5 pn, S)) ?_ Y hmo⟩
      subst a
      rw [sOf, if_pos hp, if_neg (by decide), if_neg (by decide), if_neg (by decide), if_neg (by decide), if_pos rfl, ← hpn, hI.2.1.2.2.2.2.2]
    · refine o.run 100 [] ?_
      show Z _ _ _ _
      refine o.cV vX3_48 (c_refuse (k := 2) (by omega) (by omega)) (fun w' rv _ hpo => ?_)
      obtain ⟨rfl, rfl⟩ := hpo
      exact o.run 100 [] (pret (A' := sRf S 2) (sOf_d hp a) _ (rep_rf h 2))
  · refine o.run 100 [] ?_
    show Z _ _ _ _
    refine o.cV vX3_48 (c_refuse (k := 1) (by omega) (by omega)) (fun w' rv _ hpo => ?_)
    obtain ⟨rfl, rfl⟩ := hpo
    exact o.run 100 [] (pret (A' := sRf S 1) (by rw [sOf, (zB_0 _).mp q]; rfl) _ (rep_rf h 1))

theorem sCount_d {S : zF} {w : Int32} (hw : w.toInt < 0 ∨ 7 < w.toInt) : sCount S w = if nI 11 ≤ w ∧ w ≤ nI 16 then (S.2.2.2 (cl w - 10), S) else (zi (-9), S) := by
  have hn : ∀ k, k ≤ 7 → ¬ w = nI k := fun k hk e => by
    have : w.toInt = k := by rw [e]; exact nI_toInt (by omega)
    omega
  rw [sCount, if_neg (hn 0 (by omega)), if_neg (hn 1 (by omega)), if_neg (hn 2 (by omega)), if_neg (hn 3 (by omega)), if_neg (hn 4 (by omega)), if_neg (hn 5 (by omega)), if_neg (hn 6 (by omega)), if_neg (hn 7 (by omega))]
set_option maxRecDepth 10000 in
theorem y_count (h : repY RL Y S c) (hc : c ≤ 100) {w : Int32} : zPub l D C yX3_count cX3_count 2 1 [.int w] Y RL c (sCount S w) := by
  have hI := h.2.1.1
  have hT := h.2.1.2
  have hWb : S.1.1 0 ≤ 6 := hT.1.1
  have hnb : S.1.1 3 ≤ 8 := hT.1.2.2.2.2.1
  have hrb : S.1.1 2 ≤ 10 := hT.1.2.2.2.1
  have e0 : (Y.1 0).1 0 = nI (S.1.1 0) := hI.1.1
  have e3 : (Y.1 0).1 3 = nI (S.1.1 2) := hI.1.2.2.2.1
  have e4 : (Y.1 0).1 4 = nI (S.1.1 3) := hI.1.2.2.2.2.1
  have e5 : (Y.1 0).1 5 = nI (S.1.1 4) := hI.1.2.2.2.2.2.1
  have hy30 : S.1.1 4 < 2 ^ 30 := by have := hT.1.2.2.2.2.2.1; omega
  have hmo := rep_mono h (Nat.le_succ c)
  refine zFun_of (by decide) oX3_count tbX3 (Nat.le_of_ble_eq_true rfl) (fun Z o => ?_)
  refine o.run 100 [48, 56, 64, 72, 80, 88, 96, 104, 112] ⟨⟨fun a => ?_, fun a => ?_, fun a => ?_, fun a => ?_, fun a => ?_, fun a => ?_, fun a => ?_, fun a => ?_, trivial⟩, fun a => ?_⟩
  · obtain rfl : w = nI 0 := a
    refine o.run 100 [] (pret (A' := ((Y.1 0).1 0, S)) ?_ Y hmo)
    rw [sCount, if_pos rfl, e0]
  · obtain rfl : w = nI 1 := a
    refine o.run 100 [] (pret (A' := ((Y.1 0).1 4, S)) ?_ Y hmo)
    rw [sCount, if_neg (by decide), if_pos rfl, e4]
  · obtain rfl : w = nI 2 := a
    refine o.run 100 [] (pret (A' := ((Y.1 0).1 3, S)) ?_ Y hmo)
    rw [sCount, if_neg (by decide), if_neg (by decide), if_pos rfl, e3]
  · obtain rfl : w = nI 3 := a
    refine o.run 100 [] (pret (A' := ((Y.1 0).1 5, S)) ?_ Y hmo)
    rw [sCount, if_neg (by decide), if_neg (by decide), if_neg (by decide), if_pos rfl, e5]
  · obtain rfl : w = nI 4 := a
    refine o.run 100 [] (pret (A' := ((Y.1 0).1 1, S)) ?_ Y hmo)
    rw [sCount, if_neg (by decide), if_neg (by decide), if_neg (by decide), if_neg (by decide), if_pos rfl, hI.1.2.1]
  · obtain rfl : w = nI 5 := a
    refine o.run 100 [] (pret (A' := ((Y.1 0).1 6, S)) ?_ Y hmo)
    rw [sCount, if_neg (by decide), if_neg (by decide), if_neg (by decide), if_neg (by decide), if_neg (by decide), if_pos rfl, hI.1.2.2.2.2.2.2.1]
  · obtain rfl : w = nI 6 := a
    refine o.run 100 [] ?_
    show Z _ _ _ _
    refine o.yAr 0 (by omega) vX3_217 (c_allBrought (I := Y.1 0) (n := S.1.1 3) hnb e4) (fun rv hpo => ?_)
    subst hpo
    refine o.run 100 [] (pret (A' := (sm ((Y.1 0).2.1 5) (S.1.1 3), S)) ?_ Y hmo)
    rw [sCount, if_neg (by decide), if_neg (by decide), if_neg (by decide), if_neg (by decide), if_neg (by decide), if_neg (by decide), if_pos rfl, hI.2.1.2.2.2.2.2]
  · obtain rfl : w = nI 7 := a
    refine o.run 100 [] (pret (A' := (Y.2.2 0, S)) ?_ Y hmo)
    rw [sCount, if_neg (by decide), if_neg (by decide), if_neg (by decide), if_neg (by decide), if_neg (by decide), if_neg (by decide), if_neg (by decide), if_pos rfl, h.2.2.2.1.1]
  · have hs := sCount_d (S := S) a
    refine o.run 100 [] ⟨fun q => ?_, fun q => ⟨fun q2 => ?_, fun q2 => ?_⟩⟩
    · have q : w < nI 11 := q
      refine pret (A' := (zi (-9), S)) ?_ Y hmo
      rw [hs, if_neg (fun z => Int32.not_le.mpr q z.1)]
    · have q2 : nI 16 < w := q2
      refine pret (A' := (zi (-9), S)) ?_ Y hmo
      rw [hs, if_neg (fun z => Int32.not_le.mpr q2 z.2)]
    · have q : ¬ w < nI 11 := q
      have q2 : ¬ nI 16 < w := q2
      have h0 : ¬ w < 0 := fun z => q (Int32.lt_trans z (by decide))
      obtain ⟨k, hk, rfl⟩ := nI_of h0
      rw [nI_ltI (by omega) (by omega)] at q q2
      refine ⟨k - 10, by show nI k - nI 10 = _; rw [pk_sub (by omega)], by omega, ?_⟩
      refine pret (A' := (Y.2.1 2 (k - 10), S)) ?_ Y hmo
      rw [hs, if_pos ⟨nI_le (by omega) (by omega), nI_le (by omega) (by omega)⟩, h.2.2.2.2, show cl (nI k) = k from nI_clamp (by omega)]

theorem ed_fr {RL : List zRu} {I : zI} {t : zT} {c m x y r L : Nat} (h : repI RL I t) (ht : okT t c) (hr : r < t.1 2) : frI RL I (t.1 0) (t.1 3) (t.1 4) (t.1 4) (2 * L) (t.1 5) (skE L x y (t.2.2.1 0)) (t.2.2.1 1) (rPart (t.1 3) r r 0 (ruT t)) m = edF t x y m r L := by
  have e : gaI RL I (t.1 0) (t.1 3) (t.1 4) (t.1 4) (2 * L) (t.1 5) (skE L x y (t.2.2.1 0)) (t.2.2.1 1) (rPart (t.1 3) r r 0 (ruT t)) m = rG t nob (t.2.2.2.1 0) (t.1 5) (allR t r) (edT t L x y) m := by
    rw [ga_eq (bl := nob) (se := t.2.2.2.1 0) h.2.1.1 (rep_dn h (rPart_lt hr hr)) (rep_see h ht)]
    congr 1
    funext i
    show skE L x y (t.2.2.1 0) ((t.1 4 + i - t.1 4) % (2 * L)) = _
    rw [Nat.add_sub_cancel_left]
    rfl
  exact congrArg (fun f => sm f (t.1 3)) e
set_option maxRecDepth 10000 in
theorem y_edge (h : repY RL Y S c) (hc : c ≤ 100) {a b w x : Int32} : zPub l D C yX3_edge cX3_edge 9 6 [.int a, .int b, .int w, .int x] Y RL c (sEdge S a b w x) := by
  have hI := h.2.1.1
  have hT := h.2.1.2
  have hWb : S.1.1 0 ≤ 6 := hT.1.1
  have hnb : S.1.1 3 ≤ 8 := hT.1.2.2.2.2.1
  have hrb : S.1.1 2 ≤ 10 := hT.1.2.2.2.1
  have e0 : (Y.1 0).1 0 = nI (S.1.1 0) := hI.1.1
  have e3 : (Y.1 0).1 3 = nI (S.1.1 2) := hI.1.2.2.2.1
  have e4 : (Y.1 0).1 4 = nI (S.1.1 3) := hI.1.2.2.2.2.1
  have e5 : (Y.1 0).1 5 = nI (S.1.1 4) := hI.1.2.2.2.2.2.1
  have hy30 : S.1.1 4 < 2 ^ 30 := by have := hT.1.2.2.2.2.2.1; omega
  have hmo := rep_mono h (Nat.le_succ c)
  have hR := h.1
  refine zFun_of (by decide) oX3_edge tbX3 (Nat.le_of_ble_eq_true rfl) (fun Z o => ?_)
  have bad : ¬ ((isN a (S.1.1 2) && isN b (S.1.1 2)) = true ∧ ¬ w < 0 ∧ cl w / 10 < 4 ∧ cl w % 10 < 4) → ∀ x5 x6 x7 x8, Z 22 (yamW 53 Y ++ pol 53 RL) [some (.ref 0), some (.int a), some (.int b), some (.int w), some (.int x), x5, x6, x7, x8] [.int (zi (-1)), .ref 0] := fun hf x5 x6 x7 x8 => by
    refine o.cV vX3_48 (c_refuse (k := 1) (by omega) (by omega)) (fun w' rv _ hpo => ?_)
    obtain ⟨rfl, rfl⟩ := hpo
    exact o.run 100 [] (pret (A' := sRf S 1) (by rw [sEdge, if_neg hf]) _ (rep_rf h 1))
  have bad2 : ¬ ((isN a (S.1.1 2) && isN b (S.1.1 2)) = true ∧ ¬ w < 0 ∧ cl w / 10 < 4 ∧ cl w % 10 < 4) → ∀ x5 x6 x7 x8, Z 63 (yamW 53 Y ++ pol 53 RL) [some (.ref 0), some (.int a), some (.int b), some (.int w), some (.int x), some (.int x5), some (.int x6), x7, x8] [] := fun hf x5 x6 x7 x8 => by
    refine o.run 100 [] ⟨fun q => absurd q (by decide), fun _ => ?_⟩
    show Z _ _ _ _
    refine o.cV vX3_48 (c_refuse (k := 1) (by omega) (by omega)) (fun w' rv _ hpo => ?_)
    obtain ⟨rfl, rfl⟩ := hpo
    exact o.run 100 [] (pret (A' := sRf S 1) (by rw [sEdge, if_neg hf]) _ (rep_rf h 1))
  have good : ∀ wn, w = nI wn → wn < 2 ^ 31 → wn / 10 < 4 → wn % 10 < 4 → (isN a (S.1.1 2) && isN b (S.1.1 2)) = true → ∀ x7 x8, Z 54 (yamW 53 Y ++ pol 53 RL) [some (.ref 0), some (.int a), some (.int b), some (.int w), some (.int x), some (.int (nI (wn / 10))), some (.int (nI (wn % 10))), x7, x8] [] := fun wn hw hw31 hd hm hab x7 x8 => by
    subst hw
    have hclw : cl (nI wn) = wn := nI_clamp hw31
    have hcond : (isN a (S.1.1 2) && isN b (S.1.1 2)) = true ∧ ¬ nI wn < 0 ∧ cl (nI wn) / 10 < 4 ∧ cl (nI wn) % 10 < 4 := ⟨hab, by rw [← nI_0, nI_ltI (by omega) (by omega)]; omega, by rw [hclw]; exact hd, by rw [hclw]; exact hm⟩
    obtain ⟨hq1, hq2⟩ := Bool.and_eq_true_iff.mp hab
    obtain ⟨ea, hal⟩ := isN_cl (by omega) hq1
    obtain ⟨eb, hbl⟩ := isN_cl (by omega) hq2
    obtain ⟨an, han⟩ : ∃ k, k = cl a := ⟨_, rfl⟩
    obtain ⟨bn, hbn⟩ : ∃ k, k = cl b := ⟨_, rfl⟩
    rw [← han] at ea hal
    rw [← hbn] at eb hbl
    subst ea eb
    by_cases hz : whK x (S.1.1 3) = 0
    · obtain ⟨m, rfl, hm1, hm2, hn0⟩ := wh0 hz
      have hcl : cl (nI m) = m := nI_clamp (by omega)
      have hM := rep_okM hR hI hT hc hm2
      have hA : ∀ f, sRun S (nI m) f = f m := fun f => by rw [sRun, if_pos hz, hcl]
      refine o.run 100 [] ?_
      show Z _ _ _ _
      refine o.cV vX3_151 (c_whyNoRun (x := nI m) hnb e4) (fun w' rv _ hpo => ?_)
      obtain ⟨rfl, rfl⟩ := hpo
      rw [whR_0 hz]
      let fa : Nat → Int32 := fun L => edF S.1 (wn / 10) (wn % 10) m an L
      let fb : Nat → Int32 := fun L => edF S.1 (wn / 10) (wn % 10) m bn L
      let f : Nat → Bool := fun L => decide (fb L < fa L)
      have eE : sEdge S (nI an) (nI bn) (nI wn) (nI m) = (fndI (fnd f 12 1), S) := by
        rw [sEdge, if_pos hcond, hA, hclw, ← han, ← hbn]
      obtain ⟨ra, hra⟩ := rep_rule hI hal
      obtain ⟨rb, hrb2⟩ := rep_rule hI hbl
      have loop : ∀ j i, i + j = 13 → 1 ≤ i → fnd f j i = fnd f 12 1 → ∀ M, Z 81 (yamW 53 (setJ Y 3 M) ++ pol 53 RL) [some (.ref 0), some (.int (nI an)), some (.int (nI bn)), some (.int (nI wn)), some (.int (nI m)), some (.int (nI (wn / 10))), some (.int (nI (wn % 10))), some (.int (nI 0)), some (.int (nI i))] [] := by
        intro j
        induction j with
        | zero =>
          intro i hi h1 hf M
          obtain rfl : i = 13 := by omega
          have e : sEdge S (nI an) (nI bn) (nI wn) (nI m) = (zi (-9), S) := by
            rw [eE, ← hf]; rfl
          exact o.run 100 [] ⟨fun _ => ⟨⟨_, rfl, rfl⟩, rfl, ⟨setJ Y 3 M, rfl, by rw [e]; exact hmo⟩, by rw [e]⟩, fun q => absurd (nI_lt (a := 12) (b := 13) (by omega) (by omega)) q⟩
        | succ j ih =>
          intro i hi h1 hf M
          refine o.run 100 [] ⟨fun q => absurd q (nI_nlt (a := 12) (b := i) (by omega) (by omega)), fun _ => ?_⟩
          show Z _ _ _ _
          refine o.cV vX3_194 (c_faresUnder (Y := setJ Y 3 M) (T := i) (x := wn / 10) (z := wn % 10) (r := an) hM (by omega) (by omega) hd hm (by omega) hra) (fun w' rv _ hpo => ?_)
          obtain ⟨⟨M2, rfl⟩, rfl⟩ := hpo
          refine o.run 100 [] ?_
          show Z _ _ _ _
          refine o.cV (rest := [.int _]) vX3_194 (c_faresUnder (Y := setJ Y 3 M2) (T := i) (x := wn / 10) (z := wn % 10) (r := bn) hM (by omega) (by omega) hd hm (by omega) hrb2) (fun w' rv _ hpo => ?_)
          obtain ⟨⟨M3, rfl⟩, rfl⟩ := hpo
          have ga : frI RL (Y.1 0) (S.1.1 0) (S.1.1 3) (S.1.1 4) (S.1.1 4) (2 * i) (S.1.1 5) (skE i (wn / 10) (wn % 10) (S.1.2.2.1 0)) (S.1.2.2.1 1) (rPart (S.1.1 3) an an 0 (ruT S.1)) m = fa i := ed_fr hI hT hal
          have gb : frI RL (Y.1 0) (S.1.1 0) (S.1.1 3) (S.1.1 4) (S.1.1 4) (2 * i) (S.1.1 5) (skE i (wn / 10) (wn % 10) (S.1.2.2.1 0)) (S.1.2.2.1 1) (rPart (S.1.1 3) bn bn 0 (ruT S.1)) m = fb i := ed_fr hI hT hbl
          show Z _ (yamW 53 (setJ Y 3 M3) ++ pol 53 RL) _ [.int (frI RL (Y.1 0) (S.1.1 0) (S.1.1 3) (S.1.1 4) (S.1.1 4) (2 * i) (S.1.1 5) (skE i (wn / 10) (wn % 10) (S.1.2.2.1 0)) (S.1.2.2.1 1) (rPart (S.1.1 3) bn bn 0 (ruT S.1)) m), .int (frI RL (Y.1 0) (S.1.1 0) (S.1.1 3) (S.1.1 4) (S.1.1 4) (2 * i) (S.1.1 5) (skE i (wn / 10) (wn % 10) (S.1.2.2.1 0)) (S.1.2.2.1 1) (rPart (S.1.1 3) an an 0 (ruT S.1)) m)]
          rw [ga, gb]
          refine o.run 100 [81] ⟨fun q => ?_, fun q => ?_⟩
          · have q : fa i ≤ fb i := q
            have hfi : f i = false := decide_eq_false (Int32.not_lt.mpr q)
            have := ih (i + 1) (by omega) (by omega) (by rw [← hf, fnd, hfi]; rfl) M3
            rw [← nI_1 i] at this
            exact this
          · have q : ¬ fa i ≤ fb i := q
            have hfi : f i = true := decide_eq_true (Int32.not_le.mp q)
            refine pret (Y' := setJ Y 3 M3) (A' := (nI i, S)) ?_ hmo
            rw [eE, ← hf, fnd, if_pos hfi]; rfl
      exact o.run 100 [81] ⟨fun _ => loop 12 1 (by omega) (by omega) rfl (Y.1 3), fun q => absurd nI_0 q⟩
    · obtain ⟨hk1, hkp, hk7, hk0⟩ := whR_k hz
      refine o.run 100 [] ?_
      show Z _ _ _ _
      refine o.cV vX3_151 (c_whyNoRun (x := x) hnb e4) (fun w' rv _ hpo => ?_)
      obtain ⟨rfl, rfl⟩ := hpo
      rw [hk1]
      refine o.run 100 [] ⟨fun q => absurd q hk0, fun _ => ?_⟩
      show Z _ _ _ _
      refine o.cV vX3_48 (c_refuse (k := (whK x (S.1.1 3))) hkp hk7) (fun w' rv _ hpo => ?_)
      obtain ⟨rfl, rfl⟩ := hpo
      exact o.run 100 [] (pret (A' := sRf S (whK x (S.1.1 3))) (by rw [sEdge, if_pos hcond, sRun, if_neg hz]) _ (rep_rf h (whK x (S.1.1 3))))
  refine o.run 100 [] ?_
  show Z _ _ _ _
  refine o.cV vX3_111 (c_isRule (x := a) e3) (fun w' rv _ hpo => ?_)
  obtain ⟨rfl, rfl⟩ := hpo
  refine o.run 100 [22] ⟨fun q => bad (fun z => ?_) _ _ _ _, fun q => ?_⟩
  · rw [(zB_0 _).mp q] at z; exact absurd z.1 (by simp)
  have hq1 := zB_t q
  show Z _ _ _ _
  refine o.cV vX3_111 (c_isRule (x := b) e3) (fun w' rv _ hpo => ?_)
  obtain ⟨rfl, rfl⟩ := hpo
  refine o.run 100 [22, 26] ⟨fun q => bad (fun z => ?_) _ _ _ _, fun q => ⟨fun q2 => ?_, fun q2 => bad (fun z => z.2.1 (Int32.not_le.mp q2)) _ _ _ _⟩⟩
  · rw [(zB_0 _).mp q, Bool.and_false] at z; exact absurd z.1 (by simp)
  have hab : (isN a (S.1.1 2) && isN b (S.1.1 2)) = true := by rw [hq1, zB_t q]; rfl
  obtain ⟨wn, hw31, rfl⟩ := nI_of (Int32.not_lt.mpr q2)
  have hclw : cl (nI wn) = wn := nI_clamp hw31
  have ed1 : nI wn / nI 10 = nI (wn / 10) := pk_div hw31 (by omega) (by omega)
  have ed2 : nI wn - nI wn / nI 10 * nI 10 = nI (wn % 10) := pk_rem hw31 (by omega) (by omega)
  refine o.run 100 [] ⟨by decide, by decide, ?_⟩
  show Z 40 (yamW 53 Y ++ pol 53 RL) [some (.ref 0), some (.int a), some (.int b), some (.int (nI wn)), some (.int x), some (.int (nI wn / nI 10)), some (.int (nI wn - nI wn / nI 10 * nI 10)), none, none] [.int (nI wn / nI 10)]
  rw [ed2, ed1]
  refine o.cS vX3_64 (c_isWeather (x := nI (wn / 10))) (fun rv hpo => ?_)
  subst hpo
  refine o.run 100 [63] ⟨fun q => bad2 (fun z => ?_) _ _ _ _, fun q => ?_⟩
  · have h4 := (zB_0 _).mp q
    have h5 := z.2.2.1
    rw [hclw] at h5
    exact absurd ((isN_lt (by omega) (by omega)).mpr h5) (by rw [h4]; simp)
  have hd := (isN_lt (by omega) (by omega)).mp (zB_t q)
  show Z _ _ _ _
  refine o.cS vX3_64 (c_isWeather (x := nI (wn % 10))) (fun rv hpo => ?_)
  subst hpo
  refine o.run 100 [54, 63] ⟨fun q => bad2 (fun z => ?_) _ _ _ _, fun q => ?_⟩
  · have h4 := (zB_0 _).mp q
    have h5 := z.2.2.2
    rw [hclw] at h5
    exact absurd ((isN_lt (by omega) (by omega)).mpr h5) (by rw [h4]; simp)
  have hm := (isN_lt (by omega) (by omega)).mp (zB_t q)
  exact good wn rfl hw31 hd hm hab _ _
end PUB5
end
section
/-! bits of longs; the reader's take; way, sky, feed -/
theorem bt_nI {n i : Nat} (hi : i < 32) : bt (nI n) i = n.testBit i := by
  show (BitVec.ofNat 32 n).getLsbD i = _
  rw [BitVec.getLsbD_ofNat, decide_eq_true hi, Bool.true_and]
theorem bt_l {z : Int64} {i : Nat} (hi : i < 32) : bt z.toInt32 i = z.toBitVec.getLsbD i := by
  unfold bt
  rw [Int64.toBitVec_toInt32, BitVec.getLsbD_signExtend]
  simp [hi, show i < 64 by omega]
theorem su_l : ∀ n, n < 64 → (((nI n).toInt64.toUInt64 &&& Int64.toUInt64 63).toBitVec % 64).toNat = n := by decide +kernel
theorem ss_l : ∀ n, n < 64 → (((nI n).toInt64 &&& 63).toBitVec.smod 64).toNat = n := by decide +kernel
theorem l_ushr {n : Nat} (hn : n < 64) (x : Int64) (i : Nat) : ((x.toUInt64 >>> ((nI n).toInt64.toUInt64 &&& Int64.toUInt64 63)).toInt64).toBitVec.getLsbD i = x.toBitVec.getLsbD (n + i) := by
  show (x.toUInt64 >>> ((nI n).toInt64.toUInt64 &&& Int64.toUInt64 63)).toBitVec.getLsbD i = _
  rw [UInt64.toBitVec_shiftRight]
  show (x.toBitVec >>> (((nI n).toInt64.toUInt64 &&& Int64.toUInt64 63).toBitVec % 64).toNat).getLsbD i = _
  rw [su_l n hn, BitVec.getLsbD_ushiftRight]
theorem l_sshr {n : Nat} (hn : n < 64) (x : Int64) {i : Nat} (hi : n + i < 64) : (x >>> ((nI n).toInt64 &&& 63)).toBitVec.getLsbD i = x.toBitVec.getLsbD (n + i) := by
  rw [Int64.toBitVec_shiftRight]
  show (x.toBitVec.sshiftRight (((nI n).toInt64 &&& 63).toBitVec.smod 64).toNat).getLsbD i = _
  rw [ss_l n hn, BitVec.getLsbD_sshiftRight]
  simp [hi, show ¬ 64 ≤ i by omega]
theorem wb_bt (x : Int64) (s m i : Nat) (hi : i < 32) : bt (nI (x.toBitVec.toNat / 2 ^ s % 2 ^ m)) i = (decide (i < m) && x.toBitVec.getLsbD (s + i)) := by
  rw [bt_nI hi, Nat.testBit_mod_two_pow, Nat.testBit_div_two_pow, Nat.add_comm i s]
  rfl
theorem b_c3 : ∀ i, i < 32 → bt (nI 3) i = decide (i < 2) := by decide +kernel
theorem l_c3 : ∀ i, i < 32 → (3 : Int64).toBitVec.getLsbD i = decide (i < 2) := by decide +kernel
theorem l_c255 : ∀ i, i < 32 → (255 : Int64).toBitVec.getLsbD i = decide (i < 8) := by decide +kernel
theorem u_wb2 (x : Int64) {k : Nat} (hk : k < 24) : ((x.toUInt64 >>> ((nI 2 * nI k).toInt64.toUInt64 &&& Int64.toUInt64 63)).toInt64).toInt32 &&& nI 3 = nI (wb2 x k) := by
  rw [pk_mul]
  refine b_ext (fun i hi => ?_)
  rw [b_and, bt_l hi, l_ushr (by omega), b_c3 i hi]
  show _ = bt (nI (x.toBitVec.toNat / 2 ^ (2 * k) % 2 ^ 2)) i
  rw [wb_bt x _ _ i hi, Bool.and_comm]
theorem u_wb8 (x : Int64) {k : Nat} (hk : k < 8) : ((x.toUInt64 >>> ((nI 8 * nI k).toInt64.toUInt64 &&& Int64.toUInt64 63)).toInt64).toInt32 &&& nI 255 = nI (wb8 x k) := by
  rw [pk_mul]
  refine b_ext (fun i hi => ?_)
  rw [b_and, bt_l hi, l_ushr (by omega), b_c255 i]
  show _ = bt (nI (x.toBitVec.toNat / 2 ^ (8 * k) % 2 ^ 8)) i
  rw [wb_bt x _ _ i hi, Bool.and_comm]
theorem s_wb2 (x : Int64) {k : Nat} (hk : k < 24) : ((x >>> ((nI 2 * nI k).toInt64 &&& 63)) &&& 3).toInt32 = nI (wb2 x k) := by
  rw [pk_mul]
  refine b_ext (fun i hi => ?_)
  rw [bt_l hi, Int64.toBitVec_and, BitVec.getLsbD_and, l_c3 i hi]
  show _ = bt (nI (x.toBitVec.toNat / 2 ^ (2 * k) % 2 ^ 2)) i
  rw [wb_bt x _ _ i hi]
  by_cases h : i < 2
  · rw [l_sshr (by omega) x (by omega), Bool.and_comm]
  · simp [h]
theorem s_wb8 (x : Int64) {k : Nat} (hk : k < 8) : ((x >>> ((nI 8 * nI k).toInt64 &&& 63)) &&& 255).toInt32 = nI (wb8 x k) := by
  rw [pk_mul]
  refine b_ext (fun i hi => ?_)
  rw [bt_l hi, Int64.toBitVec_and, BitVec.getLsbD_and, l_c255 i hi]
  show _ = bt (nI (x.toBitVec.toNat / 2 ^ (8 * k) % 2 ^ 8)) i
  rw [wb_bt x _ _ i hi]
  by_cases h : i < 8
  · rw [l_sshr (by omega) x (by omega), Bool.and_comm]
  · simp [h]
theorem wb2_lt (x : Int64) (k : Nat) : wb2 x k < 4 := Nat.mod_lt _ (by omega)
-- the reader
def rdr (f : Nat → Int32) (len pl : Int32) : zS := [.inr (.inr (1, [.ref 1, .int len, .int pl])), .inl (0, 24, f)]
def setD (Y : zY) (f : Nat → Int32) (len pl : Int32) : zY := setN (setN (setY Y 1 f) 0 len) 1 pl
theorem yam_rdr (Y : zY) : ∃ hd : zS, hd.length = 50 ∧ (∀ f len pl, yamW 53 (setD Y f len pl) = hd ++ ([.inr (.inr (1, [.ref 51, .int len, .int pl])), .inl (0, 24, f)] ++ [.inl (0, 7, Y.2.1 2)])) ∧ yamW 53 Y = hd ++ ([.inr (.inr (1, [.ref 51, .int (Y.2.2 0), .int (Y.2.2 1)])), .inl (0, 24, Y.2.1 1)] ++ [.inl (0, 7, Y.2.1 2)]) :=
  ⟨.inr (.inr (3, [.ref 1, .ref 13, .ref 25, .ref 37, .ref 49, .ref 50, .ref 52, .int (Y.2.2 2)])) :: (isl 1 53 (Y.1 0) ++ (isl 13 53 (Y.1 1) ++ (isl 25 53 (Y.1 2) ++ (isl 37 53 (Y.1 3) ++ [.inl (0, 8, Y.2.1 0)])))), rfl, fun _ _ _ => rfl, rfl⟩
theorem ysbR {Y : zY} (T : zS) : zsb (fun i => i + 50) (yamW 53 Y ++ T) (rdr (Y.2.1 1) (Y.2.2 0) (Y.2.2 1)) := ⟨fun k x hx => by
  match k, hx with
  | 0, hx => cases hx; rfl
  | 1, hx => cases hx; rfl
  | k + 2, hx => simp [rdr] at hx, fun i j _ _ h => by
  have h : i + 50 = j + 50 := h
  omega⟩
theorem yplR {Y : zY} (T : zS) (f : Nat → Int32) (len pl : Int32) : zpl (fun i => i + 50) (yamW 53 Y ++ T) 2 (rdr f len pl) (yamW 53 (setD Y f len pl) ++ T) := ⟨by simp [yamW_len], fun k x hx => by
  match k, hx with
  | 0, hx => cases hx; rfl
  | 1, hx => cases hx; rfl
  | k + 2, hx => simp [rdr] at hx, fun i hi => by
  have h1 : i ≠ 50 := fun e => hi 0 (by omega) (by show 0 + 50 = i; omega)
  have h2 : i ≠ 51 := fun e => hi 1 (by omega) (by show 1 + 50 = i; omega)
  obtain ⟨hd, hl, ha, hb⟩ := yam_rdr Y
  rw [ha, hb]
  simp only [List.append_assoc]
  rcases Nat.lt_or_ge i 50 with h | h
  · rw [List.getElem?_append_left (by omega), List.getElem?_append_left (by omega)]
  · exact app_out rfl (by show hd.length + 2 ≤ i; omega)⟩
theorem mn_lt {x y z : Int32} : (if y < x then y else x) < z ↔ x < z ∨ y < z := by
  by_cases h : y < x
  · rw [if_pos h]; exact ⟨Or.inr, fun q => q.elim (fun q => Int32.lt_trans h q) id⟩
  · rw [if_neg h]; exact ⟨Or.inl, fun q => q.elim id (fun q => Int32.lt_of_le_of_lt (Int32.not_lt.mp h) q)⟩
theorem mx_lt {x y z : Int32} : z < (if x < y then y else x) ↔ z < x ∨ z < y := by
  by_cases h : x < y
  · rw [if_pos h]; exact ⟨Or.inr, fun q => q.elim (fun q => Int32.lt_trans q h) id⟩
  · rw [if_neg h]; exact ⟨Or.inl, fun q => q.elim id (fun q => Int32.lt_of_lt_of_le q (Int32.not_lt.mp h))⟩
section ZMM
variable {p : Program} {l : Launch} {e : Env} {s : State} {m : MethodId} {args : Array Value} {below : List Frame} {meth : Method} {c : Code}
variable {cc : ByteArray} {nL : Nat} {ret : Option FieldType} {D : va_G} {C : zC} {A : Nat → Prop} {kc ks d : Nat} {q : Nat → Nat} {Q : State → Prop} {tab : List (Nat × Instr)}
theorem zop_min (F : zFx p s m args meth c cc nL ret RX3 D C) (hO : zokC cc tab = true) {pc : Nat} {ws : zS} {lv : zL} {x y : Int32} {rest : List Value} (hd : zfd tab pc = some (.invokestatic 39)) (hrest : (rest.map fun v => v.category).sum ≤ 8) (hd0 : 0 < d)
    (kk : zAt p l e (zR d) s m args below meth c D C A nL Q 0 0 q (pc + 3) ws lv (.int (if y < x then y else x) :: rest)) : zAt p l e (zR d) s m args below meth c D C A nL Q 0 0 q pc ws lv (.int y :: .int x :: rest) := by
  obtain ⟨hx, hb, hml, hr, ho, hts, hK, hlocks⟩ := F
  obtain ⟨⟨l0, hdec, hl0⟩, -⟩ := zokC_at hO hd
  obtain rfl : l0 = 3 := hl0.resolve_left (by simp [zisw])
  intro H locs ls hP hD hS hll
  obtain ⟨⟨w1, w2, w3, w4⟩, -⟩ := vX3_39
  refine va_mmin (R := zR d) (rest := rest.map (zv q)) hx hb (hml.trans hll.2.1.symm) ho (hts _ w1) (hts _ w2) (hts _ w3) (hts _ w4) (show 1 ≤ d from hd0) ?_ (Nat.le_refl 0) (Nat.le_refl 0) hdec ?_
  · have e1 : ((rest.map (zv q)).map fun v => v.category) = rest.map fun v => v.category := by
      rw [List.map_map]; exact List.map_congr_left (fun v _ => zv_cat q v)
    rw [e1]
    show _ + 13 ≤ 40 * d
    omega
  · exact kk H locs ls hP hD hS hll
theorem zop_max (F : zFx p s m args meth c cc nL ret RX3 D C) (hO : zokC cc tab = true) {pc : Nat} {ws : zS} {lv : zL} {x y : Int32} {rest : List Value} (hd : zfd tab pc = some (.invokestatic 45)) (hrest : (rest.map fun v => v.category).sum ≤ 8) (hd0 : 0 < d)
    (kk : zAt p l e (zR d) s m args below meth c D C A nL Q 0 0 q (pc + 3) ws lv (.int (if x < y then y else x) :: rest)) : zAt p l e (zR d) s m args below meth c D C A nL Q 0 0 q pc ws lv (.int y :: .int x :: rest) := by
  obtain ⟨hx, hb, hml, hr, ho, hts, hK, hlocks⟩ := F
  obtain ⟨⟨l0, hdec, hl0⟩, -⟩ := zokC_at hO hd
  obtain rfl : l0 = 3 := hl0.resolve_left (by simp [zisw])
  intro H locs ls hP hD hS hll
  obtain ⟨⟨w1, w2, w3, w4⟩, -⟩ := vX3_45
  refine va_mmax (R := zR d) (rest := rest.map (zv q)) hx hb (hml.trans hll.2.1.symm) ho (hts _ w1) (hts _ w2) (hts _ w3) (hts _ w4) (show 1 ≤ d from hd0) ?_ (Nat.le_refl 0) (Nat.le_refl 0) hdec ?_
  · have e1 : ((rest.map (zv q)).map fun v => v.category) = rest.map fun v => v.category := by
      rw [List.map_map]; exact List.map_congr_left (fun v _ => zv_cat q v)
    rw [e1]
    show _ + 13 ≤ 40 * d
    omega
  · exact kk H locs ls hP hD hS hll
end ZMM
theorem zFunW_of {l : Launch} {D : va_G} {C : zC} {d : Nat} {av : List Value} {wc : zS} {Po : zS → Option Value → Prop} (hlen : (zen av).length ≤ 7)
    (body : ∀ Z : zP, zOps l D C RX3 kX3_way (zfl FX3) (zkI IX3) (zkJ JX3) (d + 1) (fun ws rv => zRt (some .int) rv ∧ ws.length = wc.length ∧ Po ws rv) Z →
      (∀ (pc : Nat) (ws : zS) (lv : zL) (x y : Int32) (rest : List Value), zfd kX3_way pc = some (.invokestatic 39) → (rest.map fun v => v.category).sum ≤ 8 → Z (pc + 3) ws lv (.int (if y < x then y else x) :: rest) → Z pc ws lv (.int y :: .int x :: rest)) →
      (∀ (pc : Nat) (ws : zS) (lv : zL) (x y : Int32) (rest : List Value), zfd kX3_way pc = some (.invokestatic 45) → (rest.map fun v => v.category).sum ≤ 8 → Z (pc + 3) ws lv (.int (if x < y then y else x) :: rest) → Z pc ws lv (.int y :: .int x :: rest)) → Z 0 wc (zel 7 av) []) : zFun l D C yX3_way cX3_way 7 (some .int) (zR (d + 1)) av wc Po :=
  zMet_of (by decide) hlen (fun p e s m args below meth c q A F N _ hA => body _ (zops_of F N hA oX3_way tbX3) (fun pc ws lv x y rest h1 h2 kk => zop_min F oX3_way h1 h2 (Nat.succ_pos d) kk) (fun pc ws lv x y rest h1 h2 kk => zop_max F oX3_way h1 h2 (Nat.succ_pos d) kk))
section PUB6
variable {l : Launch} {D : va_G} {C : zC} {Y : zY} {RL : List zRu} {S : zF} {c : Nat}
set_option maxRecDepth 10000 in
theorem c_take {f : Nat → Int32} {n : Nat} {pl x : Int32} (hn : n < 24) : zFun l D C yX1_take cX1_take 2 none (zR 0) [.ref 0, .int x] (rdr f (nI n) pl) (fun w rv => w = rdr (upd f n x) (nI (n + 1)) pl ∧ rv = none) := by
  refine zFun_of (by decide) oX1_take tbX1 (Nat.le_of_ble_eq_true rfl) (fun Z o => ?_)
  refine o.run 100 [] ⟨fun q => absurd q (by show ¬ nI 24 ≤ nI n; exact nI_ge (by omega) (by omega)), fun _ => ⟨n, rfl, by omega, rfl, rfl, ?_, rfl⟩⟩
  rw [← nI_1 n]; rfl
theorem okT_way {t : zT} {c : Nat} {x0 x1 x2 x3 : Int32} (h : okT t c) (hW : t.1 0 < 6) (h0 : ∃ k, k < 100 ∧ x0 = nI k) (h1 : ∃ k, k < 100 ∧ x1 = nI k) (h2 : ∃ k, k < 100 ∧ x2 = nI k) (h3 : ∃ k, k < 100 ∧ x3 = nI k) : okT (tN (tB t (upd (upd (upd (upd t.2.1 (t.1 0 * 4) x0) (t.1 0 * 4 + 1) x1) (t.1 0 * 4 + 2) x2) (t.1 0 * 4 + 3) x3)) 0 (t.1 0 + 1)) c := by
  obtain ⟨⟨c0, c1, c2, c3, c4, c5, c6⟩, d1, d2, d3, d4⟩ := h
  refine ⟨⟨by show t.1 0 + 1 ≤ 6; omega, c1, c2, c3, c4, c5, c6⟩, fun j => ?_, d2, fun p hp => ⟨(d3 p hp).1, Nat.lt_succ_of_lt (d3 p hp).2⟩, d4⟩
  show ∃ k, k < 100 ∧ upd (upd (upd (upd t.2.1 (t.1 0 * 4) x0) (t.1 0 * 4 + 1) x1) (t.1 0 * 4 + 2) x2) (t.1 0 * 4 + 3) x3 j = nI k
  unfold upd
  split
  · exact h3
  · split
    · exact h2
    · split
      · exact h1
      · split
        · exact h0
        · exact d1 j
theorem b99 {x : Int32} (h0 : ¬ x < 0) (h1 : ¬ nI 99 < x) : ∃ k, k < 100 ∧ x = nI k := by
  obtain ⟨k, hk, rfl⟩ := nI_of h0
  rw [nI_ltI (by omega) (by omega)] at h1
  exact ⟨k, by omega, rfl⟩
set_option maxRecDepth 10000 in
theorem y_way (h : repY RL Y S c) {x0 x1 x2 x3 : Int32} : zPub l D C yX3_way cX3_way 7 1 [.int x0, .int x1, .int x2, .int x3] Y RL c (sWay S x0 x1 x2 x3) := by
  have hI := h.2.1.1
  have hT := h.2.1.2
  have hWb : S.1.1 0 ≤ 6 := hT.1.1
  have hnb : S.1.1 3 ≤ 8 := hT.1.2.2.2.2.1
  have hrb : S.1.1 2 ≤ 10 := hT.1.2.2.2.1
  have e0 : (Y.1 0).1 0 = nI (S.1.1 0) := hI.1.1
  have e3 : (Y.1 0).1 3 = nI (S.1.1 2) := hI.1.2.2.2.1
  have e4 : (Y.1 0).1 4 = nI (S.1.1 3) := hI.1.2.2.2.2.1
  have e5 : (Y.1 0).1 5 = nI (S.1.1 4) := hI.1.2.2.2.2.2.1
  have hmo := rep_mono h (Nat.le_succ c)
  refine zFunW_of (Nat.le_of_ble_eq_true rfl) (fun Z o mn mx => ?_)
  let mi : Int32 → Int32 → Int32 := fun x y => if y < x then y else x
  let ma : Int32 → Int32 → Int32 := fun x y => if x < y then y else x
  have hmi : ∀ z, mi (mi x0 x1) (mi x2 x3) < z ↔ x0 < z ∨ x1 < z ∨ x2 < z ∨ x3 < z := fun z => by
    show (if _ < _ then _ else _) < z ↔ _
    rw [mn_lt, mn_lt, mn_lt, or_assoc]
  have hma : ∀ z, z < ma (ma x0 x1) (ma x2 x3) ↔ z < x0 ∨ z < x1 ∨ z < x2 ∨ z < x3 := fun z => by
    show z < (if _ < _ then _ else _) ↔ _
    rw [mx_lt, mx_lt, mx_lt, or_assoc]
  refine o.run 100 [] ?_
  show Z _ _ _ _
  refine mn _ _ _ _ _ [] rfl (by decide) (o.run 100 [] ?_)
  show Z _ _ _ _
  refine mn _ _ _ _ _ [.int _] rfl (by exact Nat.le_of_ble_eq_true rfl) ?_
  refine mn _ _ _ _ _ [] rfl (by decide) (o.run 100 [] ?_)
  show Z _ _ _ _
  refine mx _ _ _ _ _ [] rfl (by decide) (o.run 100 [] ?_)
  show Z _ _ _ _
  refine mx _ _ _ _ _ [.int _] rfl (by exact Nat.le_of_ble_eq_true rfl) ?_
  refine mx _ _ _ _ _ [] rfl (by decide) ?_
  show Z 30 (yamW 53 Y ++ pol 53 RL) [some (.ref 0), some (.int x0), some (.int x1), some (.int x2), some (.int x3), some (.int (mi (mi x0 x1) (mi x2 x3))), none] [.int (ma (ma x0 x1) (ma x2 x3))]
  generalize mi (mi x0 x1) (mi x2 x3) = lo at hmi ⊢
  generalize ma (ma x0 x1) (ma x2 x3) = hi at hma ⊢
  refine o.run 100 [44] ⟨fun q => ?_, fun q => ?_⟩
  · have h4 : ¬ (x0 < 0 ∨ x1 < 0 ∨ x2 < 0 ∨ x3 < 0) := fun z => Int32.not_le.mpr ((hmi 0).mpr z) q
    have six : (nI 99 < x0 ∨ nI 99 < x1 ∨ nI 99 < x2 ∨ nI 99 < x3 ∨ S.1.1 0 = 6) → Z 63 (yamW 53 Y ++ pol 53 RL) [some (.ref 0), some (.int x0), some (.int x1), some (.int x2), some (.int x3), some (.int lo), some (.int hi)] [] := fun h6 => by
      refine o.run 100 [] ?_
      show Z _ _ _ _
      refine o.cV vX3_48 (c_refuse (k := 6) (by omega) (by omega)) (fun w' rv _ hpo => ?_)
      obtain ⟨rfl, rfl⟩ := hpo
      exact o.run 100 [] (pret (A' := sRf S 6) (by rw [sWay, if_neg h4, if_pos h6]) _ (rep_rf h 6))
    refine o.run 100 [63] ⟨fun q2 => six ?_, fun q2 => ⟨fun q3 => ?_, fun q3 => six ?_⟩⟩
    · have q2 : nI 99 < hi := q2
      rw [hma] at q2
      rcases q2 with z | z | z | z
      · exact Or.inl z
      · exact Or.inr (Or.inl z)
      · exact Or.inr (Or.inr (Or.inl z))
      · exact Or.inr (Or.inr (Or.inr (Or.inl z)))
    · have q2 : ¬ nI 99 < hi := q2
      rw [hma] at q2
      have q3 : (Y.1 0).1 0 < nI 6 := q3
      rw [e0, nI_ltI (by omega) (by omega)] at q3
      show Z _ _ _ _
      refine o.yA 0 (Q := fun I rv => I = setS (setA (Y.1 0) 0 (upd (upd (upd (upd ((Y.1 0).2.1 0) (S.1.1 0 * 4) x0) (S.1.1 0 * 4 + 1) x1) (S.1.1 0 * 4 + 2) x2) (S.1.1 0 * 4 + 3) x3)) 0 (nI (S.1.1 0 + 1)) ∧ rv = some (.int (nI (S.1.1 0)))) (by omega) vX3_56 (c_addWay (I := Y.1 0) (W := S.1.1 0) q3 e0) (fun w rv hpo => ⟨_, hpo.1, rfl, hpo.2⟩) (fun I rv hq => ?_)
      obtain ⟨rfl, rfl⟩ := hq
      refine o.run 100 [] (pret (A' := (nI (S.1.1 0), sW S (tN (tB S.1 (upd (upd (upd (upd S.1.2.1 (S.1.1 0 * 4) x0) (S.1.1 0 * 4 + 1) x1) (S.1.1 0 * 4 + 2) x2) (S.1.1 0 * 4 + 3) x3)) 0 (S.1.1 0 + 1)))) ?_ _ ?_)
      · rw [sWay, if_neg h4, if_neg (fun z => by
          rcases z with z | z | z | z | z
          · exact q2 (Or.inl z)
          · exact q2 (Or.inr (Or.inl z))
          · exact q2 (Or.inr (Or.inr (Or.inl z)))
          · exact q2 (Or.inr (Or.inr (Or.inr z)))
          · omega)]
      · refine repY_J h (repI_set hI rfl rfl rfl ⟨rfl, hI.1.2⟩ ⟨?_, hI.2.1.2⟩) ?_ (Nat.le_succ c)
        · show upd (upd (upd (upd ((Y.1 0).2.1 0) (S.1.1 0 * 4) x0) (S.1.1 0 * 4 + 1) x1) (S.1.1 0 * 4 + 2) x2) (S.1.1 0 * 4 + 3) x3 = upd (upd (upd (upd S.1.2.1 (S.1.1 0 * 4) x0) (S.1.1 0 * 4 + 1) x1) (S.1.1 0 * 4 + 2) x2) (S.1.1 0 * 4 + 3) x3
          rw [hI.2.1.1]
        · exact okT_way (okT_mono hT (Nat.le_succ c)) q3 (b99 (fun z => h4 (Or.inl z)) (fun z => q2 (Or.inl z))) (b99 (fun z => h4 (Or.inr (Or.inl z))) (fun z => q2 (Or.inr (Or.inl z)))) (b99 (fun z => h4 (Or.inr (Or.inr (Or.inl z)))) (fun z => q2 (Or.inr (Or.inr (Or.inl z))))) (b99 (fun z => h4 (Or.inr (Or.inr (Or.inr z)))) (fun z => q2 (Or.inr (Or.inr (Or.inr z)))))
    · have q3 : ¬ (Y.1 0).1 0 < nI 6 := q3
      rw [e0, nI_ltI (by omega) (by omega)] at q3
      exact Or.inr (Or.inr (Or.inr (Or.inr (by omega))))
  · have h4 := (hmi 0).mp (Int32.not_le.mp q)
    refine o.run 100 [] ?_
    show Z _ _ _ _
    refine o.cV vX3_48 (c_refuse (k := 4) (by omega) (by omega)) (fun w' rv _ hpo => ?_)
    obtain ⟨rfl, rfl⟩ := hpo
    exact o.run 100 [] (pret (A' := sRf S 4) (by rw [sWay, if_pos h4]) _ (rep_rf h 4))

theorem mixN_upd (k : Nat) (g f : Nat → Nat) : upd (fun j => nI (mixN k g f j)) k (nI (g k)) = (fun j => nI (mixN (k + 1) g f j)) := by
  funext j
  unfold upd mixN
  by_cases h : j = k
  · subst h
    rw [if_pos rfl, if_pos (Nat.lt_succ_self _)]
  · rw [if_neg h]
    show nI (if j < k then g j else f j) = _
    by_cases h2 : j < k
    · rw [if_pos h2, if_pos (by omega)]
    · rw [if_neg h2, if_neg (by omega)]
set_option maxRecDepth 10000 in
theorem y_sky (h : repY RL Y S c) {n : Int32} {x : Int64} : zPub l D C yX3_sky cX3_sky 7 1 [.int n, .long x] Y RL c (sSky S n x) := by
  have hI := h.2.1.1
  have hT := h.2.1.2
  have hWb : S.1.1 0 ≤ 6 := hT.1.1
  have hnb : S.1.1 3 ≤ 8 := hT.1.2.2.2.2.1
  have hrb : S.1.1 2 ≤ 10 := hT.1.2.2.2.1
  have e0 : (Y.1 0).1 0 = nI (S.1.1 0) := hI.1.1
  have e3 : (Y.1 0).1 3 = nI (S.1.1 2) := hI.1.2.2.2.1
  have e4 : (Y.1 0).1 4 = nI (S.1.1 3) := hI.1.2.2.2.2.1
  have e5 : (Y.1 0).1 5 = nI (S.1.1 4) := hI.1.2.2.2.2.2.1
  have hmo := rep_mono h (Nat.le_succ c)
  refine zFun_of (by decide) oX3_sky tbX3 (Nat.le_of_ble_eq_true rfl) (fun Z o => ?_)
  refine o.run 100 [] ?_
  show Z _ _ _ _
  refine o.cS vX3_67 (c_whyOutside (x := n) (lo := nI 1) (hi := nI 24)) (fun rv hpo => ?_)
  subst hpo
  by_cases h4 : n < nI 1
  · have e : whO n (nI 1) (nI 24) = -(nI 4) := by rw [whO, if_pos h4]; rfl
    rw [e]
    refine o.run 100 [] ⟨fun q => absurd q (by decide), fun _ => ?_⟩
    show Z _ _ _ _
    refine o.cV vX3_48 (c_refuse (k := 4) (by omega) (by omega)) (fun w' rv _ hpo => ?_)
    obtain ⟨rfl, rfl⟩ := hpo
    exact o.run 100 [] (pret (A' := sRf S 4) (by rw [sSky, if_pos h4]) _ (rep_rf h 4))
  by_cases h6 : nI 24 < n
  · have e : whO n (nI 1) (nI 24) = -(nI 6) := by rw [whO, if_neg h4, if_pos h6]; rfl
    rw [e]
    refine o.run 100 [] ⟨fun q => absurd q (by decide), fun _ => ?_⟩
    show Z _ _ _ _
    refine o.cV vX3_48 (c_refuse (k := 6) (by omega) (by omega)) (fun w' rv _ hpo => ?_)
    obtain ⟨rfl, rfl⟩ := hpo
    exact o.run 100 [] (pret (A' := sRf S 6) (by rw [sSky, if_neg h4, if_pos h6]) _ (rep_rf h 6))
  have e : whO n (nI 1) (nI 24) = nI 0 := by rw [whO, if_neg h4, if_neg h6]
  rw [e]
  have h0 : ¬ n < 0 := fun z => h4 (Int32.lt_trans z (by decide))
  obtain ⟨m, hm, rfl⟩ := nI_of h0
  have g4 := h4
  have g6 := h6
  rw [nI_ltI (by omega) (by omega)] at g4 g6
  have hcl : cl (nI m) = m := nI_clamp (by omega)
  let J : Nat → zI := fun k => setA (Y.1 0) 1 (fun j => nI (mixN k (wb2 x) (S.1.2.2.1 0) j))
  have loop : ∀ j k, k + j = m → Z 33 (yamW 53 (setJ Y 0 (J k)) ++ pol 53 RL) [some (.ref 0), some (.int (nI m)), some (.long x), none, some (.int (nI 0)), some (.int ((Y.1 0).1 1)), some (.int (nI k))] [] := by
    intro j
    induction j with
    | zero =>
      intro k hk
      obtain rfl : k = m := by omega
      refine o.run 100 [] ⟨fun _ => pret (Y' := setJ Y 0 (setS (J k) 1 (nI k))) (A' := ((Y.1 0).1 1, sW S (tN (tR S.1 0 (mixN k (wb2 x) (S.1.2.2.1 0))) 1 k))) ?_ ?_, fun q => absurd (nI_le (Nat.le_refl _) (by omega)) q⟩
      · rw [sSky, if_neg h4, if_neg h6, hcl, hI.1.2.1]
      · refine repY_J h (repI_set hI rfl rfl rfl ⟨hI.1.1, rfl, hI.1.2.2⟩ ⟨hI.2.1.1, rfl, hI.2.1.2.2⟩) ?_ (Nat.le_succ c)
        obtain ⟨⟨c0, c1, c2, c3, c4, c5, c6⟩, d1, d2, d3, d4⟩ := okT_mono hT (Nat.le_succ c)
        refine ⟨⟨c0, by show 0 < k; omega, by show k ≤ 24; omega, c3, c4, c5, c6⟩, d1, fun j => ⟨?_, (d2 j).2⟩, d3, d4⟩
        show mixN k (wb2 x) (S.1.2.2.1 0) j < 4
        unfold mixN
        split
        · exact wb2_lt x j
        · exact (d2 j).1
    | succ j ih =>
      intro k hk
      refine o.run 100 [33] ⟨fun q => absurd q (nI_ge (by omega) (by omega)), fun _ => ⟨k, rfl, by omega, ?_⟩⟩
      have := ih (k + 1) (by omega)
      have eJ : J (k + 1) = setA (Y.1 0) 1 (upd (fun j => nI (mixN k (wb2 x) (S.1.2.2.1 0) j)) k (((x.toUInt64 >>> ((nI 2 * nI k).toInt64.toUInt64 &&& Int64.toUInt64 63)).toInt64).toInt32 &&& nI 3)) := by
        rw [u_wb2 x (by omega), mixN_upd]
      rw [eJ, ← nI_1 k] at this
      exact this
  refine o.run 100 [33] ⟨fun _ => ?_, fun q => absurd nI_0 q⟩
  have := loop m 0 (by omega)
  have eJ : J 0 = setA (Y.1 0) 1 ((Y.1 0).2.1 1) := by
    show setA (Y.1 0) 1 (fun j => nI (mixN 0 (wb2 x) (S.1.2.2.1 0) j)) = _
    rw [hI.2.1.2.1]; rfl
  rw [eJ] at this
  exact this

set_option maxRecDepth 10000 in
theorem y_feed (h : repY RL Y S c) {n : Int32} {x : Int64} : zPub l D C yX3_feed cX3_feed 6 1 [.int n, .long x] Y RL c (sFeed S n x) := by
  have hI := h.2.1.1
  have hT := h.2.1.2
  have hWb : S.1.1 0 ≤ 6 := hT.1.1
  have hnb : S.1.1 3 ≤ 8 := hT.1.2.2.2.2.1
  have hrb : S.1.1 2 ≤ 10 := hT.1.2.2.2.1
  have e0 : (Y.1 0).1 0 = nI (S.1.1 0) := hI.1.1
  have e3 : (Y.1 0).1 3 = nI (S.1.1 2) := hI.1.2.2.2.1
  have e4 : (Y.1 0).1 4 = nI (S.1.1 3) := hI.1.2.2.2.2.1
  have e5 : (Y.1 0).1 5 = nI (S.1.1 4) := hI.1.2.2.2.2.2.1
  have hmo := rep_mono h (Nat.le_succ c)
  obtain ⟨t0, t1, t2⟩ := h.2.2.2.1
  refine zFun_of (by decide) oX3_feed tbX3 (Nat.le_of_ble_eq_true rfl) (fun Z o => ?_)
  refine o.run 100 [] ?_
  show Z _ _ _ _
  refine o.cS vX3_67 (c_whyOutside (x := n) (lo := nI 1) (hi := nI 8)) (fun rv hpo => ?_)
  subst hpo
  by_cases h4 : n < nI 1
  · have e : whO n (nI 1) (nI 8) = -(nI 4) := by rw [whO, if_pos h4]; rfl
    rw [e]
    refine o.run 100 [] ⟨fun _ => ⟨fun q => absurd q (by decide), fun _ => ?_⟩, fun q => absurd q (by decide)⟩
    show Z _ _ _ _
    refine o.cV vX3_48 (c_refuse (k := 4) (by omega) (by omega)) (fun w' rv _ hpo => ?_)
    obtain ⟨rfl, rfl⟩ := hpo
    exact o.run 100 [] (pret (A' := sRf S 4) (by rw [sFeed, if_pos h4]) _ (rep_rf h 4))
  by_cases h6 : nI 8 < n
  · have e : whO n (nI 1) (nI 8) = -(nI 6) := by rw [whO, if_neg h4, if_pos h6]; rfl
    rw [e]
    refine o.run 100 [] ⟨fun _ => ⟨fun q => absurd q (by decide), fun _ => ?_⟩, fun q => absurd q (by decide)⟩
    show Z _ _ _ _
    refine o.cV vX3_48 (c_refuse (k := 6) (by omega) (by omega)) (fun w' rv _ hpo => ?_)
    obtain ⟨rfl, rfl⟩ := hpo
    exact o.run 100 [] (pret (A' := sRf S 6) (by rw [sFeed, if_neg h4, if_pos h6]) _ (rep_rf h 6))
  have e : whO n (nI 1) (nI 8) = nI 0 := by rw [whO, if_neg h4, if_neg h6]
  rw [e]
  have h0 : ¬ n < 0 := fun z => h4 (Int32.lt_trans z (by decide))
  obtain ⟨m, hm, rfl⟩ := nI_of h0
  have g4 := h4
  have g6 := h6
  rw [nI_ltI (by omega) (by omega)] at g4 g6
  have hcl : cl (nI m) = m := nI_clamp (by omega)
  have e24 : nI 24 - nI m = nI (24 - m) := pk_sub (by omega)
  refine o.run 100 [44] ⟨fun q => absurd nI_0 q, fun _ => ⟨fun q => ⟨fun _ => ?_, fun q => absurd nI_0 q⟩, fun q => ⟨fun q => absurd q (by decide), fun _ => ?_⟩⟩⟩
  · have q : Y.2.2 0 ≤ nI 24 - nI m := q
    rw [e24, t0, nI_leI (by omega) (by omega)] at q
    let f : Nat → Nat → Int32 := fun k j => if S.2.2.1.1 ≤ j ∧ j < S.2.2.1.1 + k then nI (wb8 x (j - S.2.2.1.1)) else Y.2.1 1 j
    have loop : ∀ j k, k + j = m → Z 47 (yamW 53 (setD Y (f k) (nI (S.2.2.1.1 + k)) (Y.2.2 1)) ++ pol 53 RL) [some (.ref 0), some (.int (nI m)), some (.long x), none, some (.int (nI 0)), some (.int (nI k))] [] := by
      intro j
      induction j with
      | zero =>
        intro k hk
        obtain rfl : k = m := by omega
        refine o.run 100 [] ⟨fun _ => pret (Y' := setD Y (f k) (nI (S.2.2.1.1 + k)) (Y.2.2 1)) (A' := (nI (S.2.2.1.1 + k), (S.1, S.2.1, (S.2.2.1.1 + k, fun j => if j < S.2.2.1.1 then S.2.2.1.2 j else nI (wb8 x (j - S.2.2.1.1))), S.2.2.2))) ?_ ?_, fun q => absurd (nI_le (Nat.le_refl _) (by omega)) q⟩
        · rw [sFeed, if_neg h4, if_neg h6, hcl, if_neg (by omega)]
        · obtain ⟨k1, k2, k3, k4, k5⟩ := hmo
          refine ⟨k1, k2, k3, ⟨rfl, by show S.2.2.1.1 + k ≤ 24; omega, fun j hj => ?_⟩, k5⟩
          have hj : j < S.2.2.1.1 + k := hj
          show f k j = if j < S.2.2.1.1 then S.2.2.1.2 j else nI (wb8 x (j - S.2.2.1.1))
          show (if S.2.2.1.1 ≤ j ∧ j < S.2.2.1.1 + k then nI (wb8 x (j - S.2.2.1.1)) else Y.2.1 1 j) = _
          by_cases hjl : j < S.2.2.1.1
          · rw [if_neg (by omega), if_pos hjl, t2 j hjl]
          · rw [if_pos ⟨by omega, hj⟩, if_neg hjl]
      | succ j ih =>
        intro k hk
        refine o.run 100 [] ⟨fun q => absurd q (nI_ge (by omega) (by omega)), fun _ => ?_⟩
        have ev : ((x.toUInt64 >>> ((nI 8 * nI k).toInt64.toUInt64 &&& Int64.toUInt64 63)).toInt64).toInt32 &&& nI 255 = nI (wb8 x k) := u_wb8 x (by omega)
        show Z _ (yamW 53 (setD Y (f k) (nI (S.2.2.1.1 + k)) (Y.2.2 1)) ++ pol 53 RL) _ [.int (((x.toUInt64 >>> ((nI 8 * nI k).toInt64.toUInt64 &&& Int64.toUInt64 63)).toInt64).toInt32 &&& nI 255), .ref 50]
        rw [ev]
        refine o.cVs (b0 := 0) (As := [.int (nI (wb8 x k))]) (fun i => i + 50) vX3_93 (c_take (f := f k) (n := S.2.2.1.1 + k) (pl := Y.2.2 1) (x := nI (wb8 x k)) (by omega)) (ysbR (Y := setD Y (f k) (nI (S.2.2.1.1 + k)) (Y.2.2 1)) _) (fun w rv _ hpo => ?_)
        obtain ⟨rfl, rfl⟩ := hpo
        refine ⟨_, yplR _ _ _ _, ?_⟩
        refine o.run 100 [47] ?_
        have := ih (k + 1) (by omega)
        have ef : f (k + 1) = upd (f k) (S.2.2.1.1 + k) (nI (wb8 x k)) := by
          funext j
          show (if S.2.2.1.1 ≤ j ∧ j < S.2.2.1.1 + (k + 1) then nI (wb8 x (j - S.2.2.1.1)) else Y.2.1 1 j) = upd (f k) (S.2.2.1.1 + k) (nI (wb8 x k)) j
          unfold upd
          by_cases hj : j = S.2.2.1.1 + k
          · rw [if_pos hj, if_pos ⟨by omega, by omega⟩, hj, Nat.add_sub_cancel_left]
          · rw [if_neg hj]
            show _ = (if S.2.2.1.1 ≤ j ∧ j < S.2.2.1.1 + k then nI (wb8 x (j - S.2.2.1.1)) else Y.2.1 1 j)
            by_cases hj2 : S.2.2.1.1 ≤ j ∧ j < S.2.2.1.1 + k
            · rw [if_pos hj2, if_pos ⟨hj2.1, by omega⟩]
            · rw [if_neg hj2, if_neg (by omega)]
        rw [ef, ← nI_1 k] at this
        exact this
    refine o.run 100 [47] ?_
    have := loop m 0 (by omega)
    have ef : f 0 = Y.2.1 1 := by
      funext j
      show (if S.2.2.1.1 ≤ j ∧ j < S.2.2.1.1 + 0 then nI (wb8 x (j - S.2.2.1.1)) else Y.2.1 1 j) = _
      rw [if_neg (by omega)]
    rw [ef, Nat.add_zero, ← t0] at this
    exact this
  · have q : ¬ Y.2.2 0 ≤ nI 24 - nI m := q
    rw [e24, t0, nI_leI (by omega) (by omega)] at q
    show Z _ _ _ _
    refine o.cV vX3_48 (c_refuse (k := 6) (by omega) (by omega)) (fun w' rv _ hpo => ?_)
    obtain ⟨rfl, rfl⟩ := hpo
    exact o.run 100 [] (pret (A' := sRf S 6) (by rw [sFeed, if_neg h4, if_neg h6, hcl, if_pos (by omega)]) _ (rep_rf h 6))

end PUB6
end
section
/-! methods that make cells: names grow -/
def zBIG : Nat := 1000000
/-- names of what stands outside the world (zBIG: the script) -/
abbrev zfo (i : Nat) : Prop := zBIG ≤ i ∧ (i - zBIG) % 2 = 0
theorem zfo_B : zfo zBIG := ⟨Nat.le_refl _, by rw [Nat.sub_self]⟩
theorem zfo_no {i : Nat} (h : i < zBIG) : ¬ zfo i := fun z => Nat.not_lt.mpr z.1 h
def zRA (d c s : Nat) : Room := { frames := d, cells := c, slots := s, locals := 40 * d }
theorem zRA_le {a b n c s c' s' : Nat} (h : a < b) (hn : n ≤ 21) : (zRA a c s).frames + 1 ≤ (zRA b c' s').frames ∧ 8 + (n + 11) + (zRA a c s).locals ≤ (zRA b c' s').locals := by
  show a + 1 ≤ b ∧ 8 + (n + 11) + 40 * a ≤ 40 * b
  omega
def zcV (n : Nat) (v : Value) : Prop := ∀ r, v = .ref r → r < n ∨ zfo r
def zcE (n : Nat) (x : zE) : Prop := match x with
  | .inl _ => True
  | .inr (.inl (k, f)) => ∀ j, j < k → ∀ r, f j = some r → r < n ∨ zfo r
  | .inr (.inr (_, fs)) => ∀ v ∈ fs, zcV n v
def zcW (ws : zS) : Prop := ∀ x ∈ ws, zcE ws.length x
def zcL (n : Nat) (lv : zL) : Prop := ∀ v, some v ∈ lv → zcV n v
def zcS (n : Nat) (st : List Value) : Prop := ∀ v ∈ st, zcV n v
def zag (n : Nat) (q q' : Nat → Nat) : Prop := ∀ i, i < n ∨ zfo i → q' i = q i
theorem zv_ag {n : Nat} {q q' : Nat → Nat} {v : Value} (h : zag n q q') (hv : zcV n v) : zv q' v = zv q v := by
  cases v <;> first
    | rfl
    | (rename_i r; show Value.ref (q' r) = .ref (q r); rw [h r (hv r rfl)])
theorem zst_ag {n : Nat} {q q' : Nat → Nat} {st : List Value} (h : zag n q q') (hs : zcS n st) : st.map (zv q') = st.map (zv q) := List.map_congr_left (fun v hv => zv_ag h (hs v hv))
theorem zla_ag {n : Nat} {q q' : Nat → Nat} (h : zag n q q') : ∀ (lv : zL) (i : Nat), zcL n lv → zla q' i lv = zla q i lv
  | [], _, _ => rfl
  | none :: r, i, hl => by
    rw [zla, zla, zla_ag h r (i + 1) (fun v hv => hl v (List.mem_cons_of_mem _ hv))]
  | some w :: r, i, hl => by
    rw [zla, zla, zla_ag h r (i + 1) (fun v hv => hl v (List.mem_cons_of_mem _ hv)), zv_ag h (hl w List.mem_cons_self)]
theorem zh_ag {n : Nat} {q q' : Nat → Nat} {ls : Array Slot} {nL : Nat} {lv : zL} (h : zag n q q') (hl : zcL n lv) (z : zh q ls nL lv) : zh q' ls nL lv := ⟨z.1, by rw [zla_ag h lv 0 hl]; exact z.2⟩
theorem zat_ag {D : va_G} {C : zC} {n : Nat} {q q' : Nat → Nat} {x : zE} (h : zag n q q') (hx : zcE n x) {a : Nat} {H : Heap} (z : va_at D vwCl (a, zc C q x) H) : va_at D vwCl (a, zc C q' x) H := by
  match x, hx, z with
  | .inl _, _, z => exact z
  | .inr (.inl (k, f)), hx, z =>
    have z : H[a]? = some (vp_cell C.2.2 (k, .inr (.inr (.inr (.inr (fun j => (f j).map q)))))) := z
    show H[a]? = some (vp_cell C.2.2 (k, .inr (.inr (.inr (.inr (fun j => (f j).map q'))))))
    rw [z, vp_cell_q, vp_cell_q, arrV_congr C.2.2 k (fun j hj => ?_)]
    cases hf : f j with
    | none => rfl
    | some r => show va_rf (some (q r)) = va_rf (some (q' r)); rw [h r (hx j hj r hf)]
  | .inr (.inr (ci, fs)), hx, z =>
    have e : zc C q' (.inr (.inr (ci, fs))) = zc C q (.inr (.inr (ci, fs))) := by
      show Sum.inr (ci, fs.map (zv q')) = Sum.inr (ci, fs.map (zv q))
      rw [zst_ag h hx]
    rw [e]; exact z
theorem zP_ag {D : va_G} {C : zC} {q q' : Nat → Nat} {ws : zS} {H : Heap} (h : zag ws.length q q') (hw : zcW ws) (hP : va_P D vwCl (zw C q ws) H) : va_P D vwCl (zw C q' ws) H := fun i y hy => by
  rw [zw_at] at hy
  obtain ⟨x, hx, rfl⟩ := Option.map_eq_some_iff.mp hy
  have hi : i < ws.length := (List.getElem?_eq_some_iff.mp hx).1
  have e : q' i = q i := h i (Or.inl hi)
  show va_at D vwCl (q' i, zc C q' x) H
  rw [e]
  exact zat_ag h (hw x (List.mem_of_getElem? hx)) (hP i _ (zw_of hx))
theorem zD_adr {A : Nat → Prop} {W : va_W} {C : zC} {q' : Nat → Nat} {ws' : zS} (hD : va_D A W) (h : ∀ (i : Nat) (x : Nat × va_E), (zw C q' ws')[i]? = some x → ∃ y : Nat × va_E, W[i]? = some y ∧ y.1 = x.1) : va_D A (zw C q' ws') := by
  refine ⟨fun i j x y hx hy hxy => ?_, fun k x hx => ?_⟩
  · obtain ⟨x', hx', ex⟩ := h i x hx
    obtain ⟨y', hy', ey⟩ := h j y hy
    exact hD.1 i j x' y' hx' hy' (by rw [ex, ey, hxy])
  · obtain ⟨x', hx', ex⟩ := h k x hx
    rw [← ex]
    exact hD.2 k x' hx'
/-- one cell more: its name is the world's length -/
theorem z_push {D : va_G} {C : zC} {A : Nat → Prop} {q : Nat → Nat} {ws : zS} {a : Nat} {x : zE} {X : va_E} {H : Heap} (hB : ws.length < zBIG) (hw : zcW ws) (hX : ∀ q', zag ws.length q q' → zc C q' x = X) (hP : va_P D vwCl (zw C q ws ++ [(a, X)]) H) (hD : va_D A (zw C q ws ++ [(a, X)])) :
    ∃ q' : Nat → Nat, zag ws.length q q' ∧ q' ws.length = a ∧ va_P D vwCl (zw C q' (ws ++ [x])) H ∧ va_D A (zw C q' (ws ++ [x])) := by
  let q' : Nat → Nat := fun i => if i = ws.length then a else q i
  have hag : zag ws.length q q' := fun i hi => if_neg (by
    rcases hi with h | h
    · omega
    · have := h.1; omega)
  have hself : q' ws.length = a := if_pos rfl
  refine ⟨q', hag, hself, ?_, zD_adr hD ?_⟩
  · have h1 : va_P D vwCl (zw C q ws) H := fun i y hy => hP i y (by
      rw [List.getElem?_append_left (List.getElem?_eq_some_iff.mp hy).1]; exact hy)
    have h2 := zP_ag hag hw h1
    intro i y hy
    rw [zw_push] at hy
    by_cases hi : i < (zw C q' ws).length
    · rw [List.getElem?_append_left hi] at hy
      exact h2 i y hy
    · rw [List.getElem?_append_right (by omega)] at hy
      have hz : i - (zw C q' ws).length < 1 := (List.getElem?_eq_some_iff.mp hy).1
      rw [show i - (zw C q' ws).length = 0 by omega] at hy
      cases hy
      rw [hself, hX q' hag]
      refine hP (zw C q ws).length _ ?_
      rw [List.getElem?_append_right (Nat.le_refl _), Nat.sub_self]
      rfl
  · intro i y hy
    rw [zw_at] at hy
    obtain ⟨z, hz, rfl⟩ := Option.map_eq_some_iff.mp hy
    have hi : i < ws.length + 1 := by
      have := (List.getElem?_eq_some_iff.mp hz).1
      rw [List.length_append] at this
      exact this
    by_cases h1 : i < ws.length
    · refine ⟨(q i, zc C q (ws[i])), ?_, ?_⟩
      · rw [List.getElem?_append_left (by rw [zw_len]; exact h1)]
        exact zw_of (List.getElem?_eq_getElem h1)
      · exact (hag i (Or.inl h1)).symm
    · obtain rfl : i = ws.length := by omega
      refine ⟨(a, X), ?_, hself.symm⟩
      rw [List.getElem?_append_right (by rw [zw_len]; omega), zw_len, Nat.sub_self]
      rfl
/-- cells may come, at the end; the script stays -/
def zPh (n : Nat) (Po : zS → Option Value → Prop) : (Nat → Nat) → (Nat → Nat) → zS → Option Value → Prop := fun q0 q w rv => (∀ i, i < n → q i = q0 i) ∧ (∀ i, zfo i → q i = q0 i) ∧ n ≤ w.length ∧ Po w rv
abbrev zFunB (l : Launch) (D : va_G) (C : zC) (y : MethodName) (cc : ByteArray) (nL : Nat) (ret : Option FieldType) (rm : Room) (av : List Value) (wc : zS) (Po : zS → Option Value → Prop) : Prop := zMet l D C y cc nL ret rm av wc (zPh wc.length Po)
/-- names behind a call that made cells -/
def zsj (n k : Nat) : Nat := if k < zBIG then k - n else zBIG + (k - zBIG) / 2 - n
def zsi (n j : Nat) : Nat := if j + n < zBIG then j + n else zBIG + 2 * (j + n - zBIG) + 1
def zsg (σ : Nat → Nat) (n N : Nat) : Nat → Nat := fun k => if k < n then σ k else if zfo k then k else zsi N (zsj n k)
def zqg (q q1 : Nat → Nat) (n N : Nat) : Nat → Nat := fun i => if i < N ∨ zfo i then q i else q1 (zsi n (zsj N i))
theorem zsij {n N k : Nat} (hN : N ≤ zBIG) (hn : n ≤ zBIG) (h1 : n ≤ k) (h2 : ¬ zfo k) : N ≤ zsi N (zsj n k) ∧ ¬ zfo (zsi N (zsj n k)) ∧ zsi n (zsj N (zsi N (zsj n k))) = k := by
  have h3 : k < zBIG ∨ (zBIG ≤ k ∧ (k - zBIG) % 2 = 1) := by
    rcases Nat.lt_or_ge k zBIG with h | h
    · exact Or.inl h
    · right
      refine ⟨h, ?_⟩
      have : ¬ (k - zBIG) % 2 = 0 := fun z => h2 ⟨h, z⟩
      omega
  have key : ∀ j, N ≤ zsi N j ∧ ¬ zfo (zsi N j) ∧ zsj N (zsi N j) = j := fun j => by
    unfold zsi
    by_cases hj : j + N < zBIG
    · rw [if_pos hj]
      refine ⟨by omega, zfo_no hj, ?_⟩
      unfold zsj
      rw [if_pos hj]; omega
    · rw [if_neg hj]
      refine ⟨by omega, fun z => ?_, ?_⟩
      · have := z.2; omega
      · unfold zsj
        rw [if_neg (by omega)]; omega
  obtain ⟨g1, g2, g3⟩ := key (zsj n k)
  refine ⟨g1, g2, ?_⟩
  rw [g3]
  unfold zsj
  rcases h3 with h | ⟨h, h'⟩
  · rw [if_pos h]
    unfold zsi
    rw [if_pos (by omega)]; omega
  · rw [if_neg (by omega)]
    unfold zsi
    rw [if_neg (by omega)]; omega
theorem zqg_sg {q q1 σ : Nat → Nat} {n N : Nat} (hN : N ≤ zBIG) (hn : n ≤ zBIG) (hσ : ∀ k, k < n → σ k < N) (h : ∀ k, k < n → q1 k = q (σ k)) (hB : ∀ i, zfo i → q1 i = q i) : (fun k => zqg q q1 n N (zsg σ n N k)) = q1 := by
  funext k
  unfold zsg
  by_cases h1 : k < n
  · rw [if_pos h1]
    unfold zqg
    rw [if_pos (Or.inl (hσ k h1)), h k h1]
  · rw [if_neg h1]
    by_cases h2 : zfo k
    · rw [if_pos h2]
      unfold zqg
      rw [if_pos (Or.inr h2), hB k h2]
    · rw [if_neg h2]
      obtain ⟨g1, g2, g3⟩ := zsij (k := k) hN hn (by omega) h2
      unfold zqg
      rw [if_neg (fun z => z.elim (fun z => by omega) g2), g3]
theorem zsg_hi {σ : Nat → Nat} {n N k : Nat} (h1 : n ≤ k) (h2 : k < zBIG) (h3 : k - n + N < zBIG) : zsg σ n N k = k - n + N := by
  unfold zsg zsi zsj
  rw [if_neg (by omega), if_neg (zfo_no h2), if_pos h2, if_pos h3]
theorem zsg_lo {σ : Nat → Nat} {n N k : Nat} (h1 : k < n) : zsg σ n N k = σ k := by
  unfold zsg
  rw [if_pos h1]
theorem zsg_F {σ : Nat → Nat} {n N k : Nat} (h1 : n ≤ zBIG) (h2 : zfo k) : zsg σ n N k = k := by
  unfold zsg
  rw [if_neg (by have := h2.1; omega), if_pos h2]
/-- the world behind a call that made cells -/
def zplA (σ : Nat → Nat) (ws : zS) (n : Nat) (w ws' : zS) : Prop := ws'.length = ws.length + (w.length - n) ∧ (∀ k x, w[k]? = some x → ws'[zsg σ n ws.length k]? = some (zr (zsg σ n ws.length) x)) ∧ (∀ i, i < ws.length → (∀ k, k < n → σ k ≠ i) → ws'[i]? = ws[i]?)
section ZZ
variable {p : Program} {l : Launch} {e : Env} {R : Room} {s : State} {m : MethodId} {args : Array Value} {below : List Frame} {meth : Method} {c : Code}
variable {cc : ByteArray} {nL : Nat} {ret : Option FieldType} {own : String} {D : va_G} {C : zC} {A : Nat → Prop} {Qc : Array Value → State → Outcome → State → Prop} {kc ks n0 : Nat} {q q0 : Nat → Nat} {tab : List (Nat × Instr)}
def zZ (p : Program) (l : Launch) (e : Env) (R : Room) (s : State) (m : MethodId) (args : Array Value) (below : List Frame) (meth : Method) (c : Code) (D : va_G) (C : zC) (A : Nat → Prop) (nL : Nat) (Qc : Array Value → State → Outcome → State → Prop) (n0 : Nat) (q0 : Nat → Nat) (kc ks : Nat) : zP := fun pc ws lv st =>
  ∀ q, zag n0 q0 q → zAt p l e R s m args below meth c D C A nL (MQ below Qc args s R.cells R.slots A) kc ks q pc ws lv st
theorem zag_tr {n N : Nat} {q0 q q' : Nat → Nat} (h : zag n q0 q) (h2 : zag N q q') (hn : n ≤ N) : zag n q0 q' := fun i hi => (h2 i (hi.imp (fun z => Nat.lt_of_lt_of_le z hn) id)).trans (h i hi)
theorem zcallA_go {pc mc' ms' : Nat} {ws wc : zS} {lv : zL} {st rest : List Value} {σ : Nat → Nat} {Po : zS → Option Value → Prop} {a : Array Value} (hsb : zsb σ ws wc) (hσ : ∀ k, k < wc.length → σ k < ws.length) (hσB : ∀ i, zfo i → σ i = i) (hwN : wc.length ≤ ws.length) (hAf : ∀ x, s.heap.size ≤ x → A x)
    (hn0 : n0 ≤ ws.length) (hcW : zcW ws) (hcL : zcL ws.length lv) (hcS : zcS ws.length rest) (hq : zag n0 q0 q)
    (hr : ∀ (H : Heap) (locs : List Loc) (ls : Array Slot), va_P D vwCl (zw C q ws) H → va_D A (zw C q ws) → zh q ls nL lv →
      va_Run p l e R s m args below meth c H locs kc ks mc' ms' (F0 m pc ls (st.map (zv q))) (rest.map (zv q)) (zQ D C (va_A (zw C (fun i => q (σ i)) wc) H.size) (zPh wc.length Po (fun i => q (σ i))) a) (va_A (zw C (fun i => q (σ i)) wc) H.size))
    (kk : ∀ (w : zS) (rv : Option Value), wc.length ≤ w.length → Po w rv → ∃ ws', zplA σ ws wc.length w ws' ∧ ws'.length ≤ zBIG ∧ zZ p l e R s m args below meth c D C A nL Qc n0 q0 (kc + mc') (ks + ms') (pc + 3) ws' lv ((rv.map (zv (zsg σ wc.length ws.length))).toList ++ rest)) :
    zAt p l e R s m args below meth c D C A nL (MQ below Qc args s R.cells R.slots A) kc ks q pc ws lv st := by
  intro H locs ls hP hD hS hl T hT X
  obtain ⟨v, st₀, t, T', L, h0, X', hL, e1, e2, ⟨⟨q1, w, rv, ⟨hq1, hqB, hlen, hpo⟩, hv, hP1, hD1⟩, hz, hk⟩, stp⟩ := hr H locs ls hP hD hl T hT X
  have hqB : ∀ i, zfo i → q1 i = q i := fun i hi => (hqB i hi).trans (congrArg q (hσB i hi))
  obtain ⟨ws', ⟨hl1, hl2, hl3⟩, hBg, hat⟩ := kk w rv hlen hpo
  have hNB : ws.length ≤ zBIG := by omega
  rw [h0] at hz hk
  have hAsub : ∀ x, va_A (zw C (fun i => q (σ i)) wc) H.size x → A x := by
    rintro x (⟨k, y, hy⟩ | hx)
    · exact hD.2 _ _ (zcell_sub hsb hy)
    · exact hAf x (Nat.le_trans hS.1 hx)
  have hnew : ∀ k, wc.length ≤ k → k < w.length → H.size ≤ q1 k := by
    intro k h1 h2
    rcases hD1.2 k _ (zw_of (List.getElem?_eq_getElem h2)) with ⟨k', y, hy⟩ | hx
    · have hk' : k' < wc.length := by
        have := (List.getElem?_eq_some_iff.mp hy).1
        rwa [zw_len] at this
      rw [zw_at, List.getElem?_eq_getElem hk'] at hy
      have hy1 : q (σ k') = q1 k := congrArg (fun o : Option (Nat × va_E) => (o.getD (0, y)).1) hy
      have := hD1.1 k' k _ _ (zw_of (List.getElem?_eq_getElem (Nat.lt_of_lt_of_le hk' hlen))) (zw_of (List.getElem?_eq_getElem h2)) (by show q1 k' = q1 k; rw [hq1 k' hk']; exact hy1)
      omega
    · exact hx
  let q' : Nat → Nat := zqg q q1 wc.length ws.length
  have hcomp : (fun k => q' (zsg σ wc.length ws.length k)) = q1 := zqg_sg hNB (Nat.le_trans hwN hNB) hσ hq1 hqB
  have hag : zag ws.length q q' := fun i hi => if_pos hi
  have hidx : ∀ i, ws.length ≤ i → i < ws'.length → zsg σ wc.length ws.length (i - ws.length + wc.length) = i ∧ i - ws.length + wc.length < w.length := fun i h1 h2 => by
    constructor
    · rw [zsg_hi (by omega) (by omega) (by omega)]; omega
    · omega
  have hq'n : ∀ i, ws.length ≤ i → i < ws'.length → q' i = q1 (i - ws.length + wc.length) := fun i h1 h2 => by
    rw [← congrFun hcomp (i - ws.length + wc.length)]
    show q' i = q' (zsg σ wc.length ws.length (i - ws.length + wc.length))
    rw [(hidx i h1 h2).1]
  have hP' : va_P D vwCl (zw C q' ws') T'.heap := by
    intro i x hx
    rw [zw_at] at hx
    obtain ⟨y, hy, rfl⟩ := Option.map_eq_some_iff.mp hx
    have hil : i < ws'.length := (List.getElem?_eq_some_iff.mp hy).1
    by_cases hin : ∃ k, k < w.length ∧ zsg σ wc.length ws.length k = i
    · obtain ⟨k, hk1, rfl⟩ := hin
      obtain ⟨z, hz1⟩ : ∃ z, w[k]? = some z := ⟨_, List.getElem?_eq_getElem hk1⟩
      have e3 := hl2 k z hz1
      rw [hy] at e3
      have e4 : y = zr (zsg σ wc.length ws.length) z := Option.some.inj e3
      have h5 := hP1 k _ (zw_of hz1)
      rw [← hcomp, zc_comp C q' (zsg σ wc.length ws.length)] at h5
      rw [e4, e1]
      exact h5
    · have hlt : i < ws.length := by
        rcases Nat.lt_or_ge i ws.length with h | h
        · exact h
        · exact absurd ⟨_, (hidx i h hil).2, (hidx i h hil).1⟩ hin
      have hno : ∀ k, k < wc.length → σ k ≠ i := fun k hk1 e3 => hin ⟨k, by omega, by rw [zsg_lo hk1]; exact e3⟩
      rw [hl3 i hlt hno] at hy
      have h5 := hP i _ (zw_of hy)
      have hlt2 : q i < H.size := h5.lt
      have e : q' i = q i := hag i (Or.inl hlt)
      show va_at D vwCl (q' i, zc C q' y) T'.heap
      rw [e]
      refine zat_ag hag (hcW y (List.mem_of_getElem? hy)) (h5.kept ?_)
      rw [e1]
      refine hk (q i) hlt2 ?_
      rintro (⟨k, y2, hy2⟩ | hx2)
      · have hkl : k < wc.length := by
          have := (List.getElem?_eq_some_iff.mp hy2).1
          rwa [zw_len] at this
        exact hno k hkl (hD.1 _ _ _ _ (zcell_sub hsb hy2) (zw_of hy) rfl)
      · exact absurd hlt2 (Nat.not_lt.mpr hx2)
  have hold : ∀ i, i < ws.length → q i < H.size := fun i hi => (hP i _ (zw_of (List.getElem?_eq_getElem hi))).lt
  have hadr : ∀ (i : Nat) (x : Nat × va_E), (zw C q' ws')[i]? = some x → i < ws'.length ∧ x.1 = q' i := fun i x hx => by
    have h1 := (List.getElem?_eq_some_iff.mp hx).1
    rw [zw_len] at h1
    rw [zw_at, List.getElem?_eq_getElem h1] at hx
    exact ⟨h1, (congrArg (fun o : Option (Nat × va_E) => (o.getD x).1) hx).symm⟩
  have hD' : va_D A (zw C q' ws') := by
    refine ⟨fun i j x y hx hy hxy => ?_, fun k x hx => ?_⟩
    · obtain ⟨hi, ex⟩ := hadr i x hx
      obtain ⟨hj, ey⟩ := hadr j y hy
      rw [ex, ey] at hxy
      rcases Nat.lt_or_ge i ws.length with h1 | h1 <;> rcases Nat.lt_or_ge j ws.length with h2 | h2
      · rw [hag i (Or.inl h1), hag j (Or.inl h2)] at hxy
        exact hD.1 i j _ _ (zw_of (List.getElem?_eq_getElem h1)) (zw_of (List.getElem?_eq_getElem h2)) hxy
      · rw [hag i (Or.inl h1), hq'n j h2 hj] at hxy
        have := hnew _ (by omega) (hidx j h2 hj).2
        have := hold i h1
        omega
      · rw [hq'n i h1 hi, hag j (Or.inl h2)] at hxy
        have := hnew _ (by omega) (hidx i h1 hi).2
        have := hold j h2
        omega
      · rw [hq'n i h1 hi, hq'n j h2 hj] at hxy
        have := hD1.1 _ _ _ _ (zw_of (List.getElem?_eq_getElem (hidx i h1 hi).2)) (zw_of (List.getElem?_eq_getElem (hidx j h2 hj).2)) hxy
        omega
    · obtain ⟨hi, ex⟩ := hadr k x hx
      rw [ex]
      rcases Nat.lt_or_ge k ws.length with h1 | h1
      · rw [hag k (Or.inl h1)]
        exact hD.2 k _ (zw_of (List.getElem?_eq_getElem h1))
      · rw [hq'n k h1 hi]
        exact hAf _ (Nat.le_trans hS.1 (hnew _ (by omega) (hidx k h1 hi).2))
  have hS' : va_S A s.heap T'.heap (locs ++ L) := ⟨Nat.le_trans hS.1 (by rw [e1]; exact hz), fun x h1 h2 => by
      rw [e1, hk x (Nat.lt_of_lt_of_le h1 hS.1) (fun z => h2 (hAsub x z))]
      exact hS.2.1 x h1 h2, fun x hx => by
      rcases List.mem_append.mp hx with h | h
      · exact hS.2.2 x h
      · exact hAsub _ (hL x h)⟩
  obtain ⟨t2, a1, b1⟩ := hat q' (zag_tr hq hag hn0) T'.heap (locs ++ L) ls hP' hD' hS' (zh_ag hag hcL hl) T' rfl X'
  refine ⟨t2, stp t2 ?_, b1⟩
  have hvv : v = rv.map (zv q1) := by injection hv
  have est : v.toList ++ rest.map (zv q) = ((rv.map (zv (zsg σ wc.length ws.length))).toList ++ rest).map (zv q') := by
    rw [hvv, List.map_append, zst_ag hag hcS]
    congr 1
    cases rv with
    | none => rfl
    | some r =>
      show [zv q1 r] = [zv q' (zv (zsg σ wc.length ws.length) r)]
      rw [← zv_comp q' (zsg σ wc.length ws.length) r, hcomp]
  rw [← est] at a1
  exact a1
end ZZ
end
section
/-! rows of methods that make cells -/
/-- the words of a constructor's call -/
def zCI (own : String) (idx : Nat) (y : MethodName) (cc' : ByteArray) (nL' n : Nat) : Prop :=
  (Jvm.Cond.methodLink own idx y ∈ zG ∧ Jvm.Cond.instanceMethod y ∈ zG ∧ Jvm.Cond.initialized y.cls ∈ zG ∧ Jvm.Cond.code y cc' nL' none ∈ zG) ∧ y.name = "<init>" ∧ y.cls ≠ "java/lang/invoke/MethodHandle" ∧ y.cls ≠ "java/lang/invoke/VarHandle" ∧ (parseMethodDescriptor y.desc).map (fun d => d.parameters.length) = some n
def zCN (s : State) (idx : Nat) (y : MethodName) (cc' : ByteArray) (nL' n : Nat) : Prop :=
  va_Nw (.methodLinkNest RX3 idx y RX3) s ∧ (Jvm.Cond.instanceMethod y ∈ zG ∧ Jvm.Cond.initialized y.cls ∈ zG ∧ Jvm.Cond.code y cc' nL' none ∈ zG) ∧ y.name = "<init>" ∧ y.cls ≠ "java/lang/invoke/MethodHandle" ∧ y.cls ≠ "java/lang/invoke/VarHandle" ∧ (parseMethodDescriptor y.desc).map (fun d => d.parameters.length) = some n
section ZY
variable {p : Program} {l : Launch} {e : Env} {R : Room} {s : State} {m : MethodId} {args : Array Value} {below : List Frame} {meth : Method} {c : Code}
variable {cc : ByteArray} {nL : Nat} {ret : Option FieldType} {own : String} {D : va_G} {C : zC} {A : Nat → Prop} {Qc : Array Value → State → Outcome → State → Prop} {kc ks n0 : Nat} {q q0 : Nat → Nat} {tab : List (Nat × Instr)}
variable {y : MethodName} {cc' : ByteArray} {nL' n idx pc : Nat} {ret' : Option FieldType} {rm' : Room} {wc ws : zS} {lv : zL} {Po : zS → Option Value → Prop} {σ : Nat → Nat} {As st rest : List Value} {b0 : Nat}
theorem zZ_run (F : zFx p s m args meth c cc nL ret own D C) (hO : zokC cc tab = true) {fl : Nat → Option (Nat × Nat × Nat)} {ki : Nat → Option Int32} {kj : Nat → Option Int64} (hT : zTb own fl ki kj) {Kr : zS → Option Value → Prop} (hR : ∀ q ws rv, zag n0 q0 q → Kr ws rv → zRe s args D C A q ret Qc ws rv) (n : Nat) (stops : List Nat) (hkc : kc ≤ R.cells) (hks : ks ≤ R.slots)
    (h : zgo tab fl ki kj stops (zZ p l e R s m args below meth c D C A nL Qc n0 q0 kc ks) Kr n pc ws lv st) : zZ p l e R s m args below meth c D C A nL Qc n0 q0 kc ks pc ws lv st := fun q hq =>
  zgo_sound F zcls hT hO hkc hks (fun _ _ _ _ h => h q hq) (fun ws rv h => hR q ws rv hq h) n pc ws lv st h
theorem zZ_callV (F : zFx p s m args meth c cc nL ret own D C) (N : zNs s) (hAf : ∀ x, s.heap.size ≤ x → A x) (hO : zokC cc tab = true) (hM : zFun l D C y cc' nL' ret' rm' (.ref b0 :: As) wc Po) (hW : zCV own idx y cc' nL' ret' n)
    (hsb : zsb σ ws wc) (hrc : ∃ (ci : Nat) (fs : List Value) (r : vw_C), wc[b0]? = some (.inr (.inr (ci, fs))) ∧ vwCl[ci]? = some r ∧ r.1 = y.cls)
    (kk : ∀ (w : zS) (rv : Option Value), w.length = wc.length → Po w rv → ∃ ws', zpl σ ws wc.length w ws' ∧ zZ p l e R s m args below meth c D C A nL Qc n0 q0 (kc + rm'.cells) (ks + rm'.slots) (pc + 3) ws' lv ((rv.map (zv σ)).toList ++ rest))
    (hd : zfd tab pc = some (.invokevirtual idx)) (hst : st = (As.map (zv σ)).reverse ++ .ref (σ b0) :: rest) (hn : As.length = n) (hrest : (rest.map fun v => v.category).sum ≤ 8)
    (hR : rm'.frames + 1 ≤ R.frames ∧ 8 + (nL' + 11) + rm'.locals ≤ R.locals) (hf : kc + rm'.cells ≤ R.cells ∧ ks + rm'.slots ≤ R.slots) :
    zZ p l e R s m args below meth c D C A nL Qc n0 q0 kc ks pc ws lv st := fun q hq => zcallV F N hAf hO hM hW hsb hrc (fun w rv h1 h2 => by
      obtain ⟨ws', h3, h4⟩ := kk w rv h1 h2
      exact ⟨ws', h3, h4 q hq⟩) hd hst hn hrest hR hf
theorem zZ_callS (F : zFx p s m args meth c cc nL ret own D C) (N : zNs s) (hAf : ∀ x, s.heap.size ≤ x → A x) (hO : zokC cc tab = true) (hM : zFun l D C y cc' nL' ret' rm' As wc Po) (hW : zCS own idx y cc' nL' ret' n)
    (hsb : zsb σ ws wc)
    (kk : ∀ (w : zS) (rv : Option Value), w.length = wc.length → Po w rv → ∃ ws', zpl σ ws wc.length w ws' ∧ zZ p l e R s m args below meth c D C A nL Qc n0 q0 (kc + rm'.cells) (ks + rm'.slots) (pc + 3) ws' lv ((rv.map (zv σ)).toList ++ rest))
    (hd : zfd tab pc = some (.invokestatic idx)) (hst : st = (As.map (zv σ)).reverse ++ rest) (hn : As.length = n) (hrest : (rest.map fun v => v.category).sum ≤ 8)
    (hR : rm'.frames + 1 ≤ R.frames ∧ 8 + (nL' + 11) + rm'.locals ≤ R.locals) (hf : kc + rm'.cells ≤ R.cells ∧ ks + rm'.slots ≤ R.slots) :
    zZ p l e R s m args below meth c D C A nL Qc n0 q0 kc ks pc ws lv st := fun q hq => zcallS F N hAf hO hM hW hsb (fun w rv h1 h2 => by
      obtain ⟨ws', h3, h4⟩ := kk w rv h1 h2
      exact ⟨ws', h3, h4 q hq⟩) hd hst hn hrest hR hf
theorem zst_eq (hst : st = (As.map (zv σ)).reverse ++ .ref (σ b0) :: rest) : st.map (zv q) = (As.map (zv (fun i => q (σ i)))).reverse ++ Value.ref (q (σ b0)) :: rest.map (zv q) := by
  rw [hst, List.map_append, List.map_reverse, List.map_map]
  have : (As.map (zv q ∘ zv σ)) = As.map (zv (fun i => q (σ i))) := List.map_congr_left (fun v _ => (zv_comp q σ v).symm)
  rw [this]
  rfl
theorem zrest_eq (hrest : (rest.map fun v => v.category).sum ≤ 8) : ((rest.map (zv q)).map fun v => v.category).sum ≤ 8 := by
  rw [List.map_map]
  have : (rest.map (fun v => v.category)) = rest.map ((fun v => v.category) ∘ zv q) := List.map_congr_left (fun v _ => (zv_cat q v).symm)
  rw [← this]
  exact hrest
theorem zsub_D (hsb : zsb σ ws wc) (hD : va_D A (zw C q ws)) : va_D (fun _ => True) (zw C (fun i => q (σ i)) wc) := ⟨fun i j x y hx hy hxy => hsb.2 i j (by have := (List.getElem?_eq_some_iff.mp hx).1; rwa [zw_len] at this) (by have := (List.getElem?_eq_some_iff.mp hy).1; rwa [zw_len] at this) (hD.1 _ _ _ _ (zcell_sub hsb hx) (zcell_sub hsb hy) hxy), fun _ _ _ => trivial⟩
theorem zZ_callA (F : zFx p s m args meth c cc nL ret own D C) (N : zNs s) (hAf : ∀ x, s.heap.size ≤ x → A x) (hO : zokC cc tab = true) (hM : zFunB l D C y cc' nL' ret' rm' (.ref b0 :: As) wc Po) (hW : zCV own idx y cc' nL' ret' n)
    (hsb : zsb σ ws wc) (hσ : ∀ k, k < wc.length → σ k < ws.length) (hσB : ∀ i, zfo i → σ i = i) (hwB : wc.length ≤ ws.length) (hrc : ∃ (ci : Nat) (fs : List Value) (r : vw_C), wc[b0]? = some (.inr (.inr (ci, fs))) ∧ vwCl[ci]? = some r ∧ r.1 = y.cls)
    (hn0 : n0 ≤ ws.length) (hcW : zcW ws) (hcL : zcL ws.length lv) (hcS : zcS ws.length rest)
    (kk : ∀ (w : zS) (rv : Option Value), wc.length ≤ w.length → Po w rv → ∃ ws', zplA σ ws wc.length w ws' ∧ ws'.length ≤ zBIG ∧ zZ p l e R s m args below meth c D C A nL Qc n0 q0 (kc + rm'.cells) (ks + rm'.slots) (pc + 3) ws' lv ((rv.map (zv (zsg σ wc.length ws.length))).toList ++ rest))
    (hd : zfd tab pc = some (.invokevirtual idx)) (hst : st = (As.map (zv σ)).reverse ++ .ref (σ b0) :: rest) (hn : As.length = n) (hrest : (rest.map fun v => v.category).sum ≤ 8)
    (hR : rm'.frames + 1 ≤ R.frames ∧ 8 + (nL' + 11) + rm'.locals ≤ R.locals) (hf : kc + rm'.cells ≤ R.cells ∧ ks + rm'.slots ≤ R.slots) :
    zZ p l e R s m args below meth c D C A nL Qc n0 q0 kc ks pc ws lv st := fun q hq => by
  obtain ⟨hx, hb, hml, hr, ho, hts, hK, hlocks⟩ := F
  obtain ⟨⟨w1, w2, w3, w4, w5⟩, hd1, hd2, hd3⟩ := hW
  obtain ⟨⟨l0, hdec, hl0⟩, -⟩ := zokC_at hO hd
  obtain rfl : l0 = 3 := hl0.resolve_left (by simp [zisw])
  obtain ⟨ci, fs, r, hb0, hcl, hcn⟩ := hrc
  refine zcallA_go (a := (Value.ref (q (σ b0)) :: As.map (zv (fun i => q (σ i)))).toArray) hsb hσ hσB hwB hAf hn0 hcW hcL hcS hq (fun H locs ls hP hD hl => ?_) kk
  have hP' : va_P D vwCl (zw C (fun i => q (σ i)) wc) H := fun k x hx => hP _ x (zcell_sub hsb hx)
  have hD' := zsub_D (C := C) hsb hD
  have hg : GoodIn zG (wsV own idx y.cls y (.code y cc' nL' ret' :: zG)) := zgood (us := [.methodLink own idx y, .instanceMethod y, .selects y.cls y y, .initialized y.cls]) (by
    intro w hw
    simp only [List.mem_cons, List.not_mem_nil, or_false] at hw
    rcases hw with rfl | rfl | rfl | rfl <;> assumption) w5
  refine va_runV (C := y.cls) (b := q (σ b0)) (As := As.map (zv (fun i => q (σ i)))) (Ts := zG) ⟨hx, hb, hml, ho, hts⟩ (hM (fun i => q (σ i)) H.size) (cwV n hts hg rfl rfl rfl ⟨rfl, hd1, hd2, hd3⟩ hR) ⟨zpre_blind, ?_, fun U hU hWU => ⟨rfl, by rw [hU], by rw [hU]; exact hP', ⟨va_K.moved hWU.alike hK, zns_warm hWU N⟩, hD'⟩⟩ rfl (by rw [List.length_map]; exact hn) hl.2.1 (zst_eq hst) (lv_room (zrest_eq hrest)) hdec hf
  have := va_recv (q := r) hK hP' hcl (zw_of hb0)
  rw [hcn] at this
  exact this
theorem zZ_init (F : zFx p s m args meth c cc nL ret own D C) (N : zNs s) (hAf : ∀ x, s.heap.size ≤ x → A x) (hO : zokC cc tab = true) (hM : zFunB l D C y cc' nL' none rm' (.ref b0 :: As) wc Po) (hW : zCI own idx y cc' nL' n)
    (hsb : zsb σ ws wc) (hσ : ∀ k, k < wc.length → σ k < ws.length) (hσB : ∀ i, zfo i → σ i = i) (hwB : wc.length ≤ ws.length)
    (hn0 : n0 ≤ ws.length) (hcW : zcW ws) (hcL : zcL ws.length lv) (hcS : zcS ws.length rest)
    (kk : ∀ (w : zS) (rv : Option Value), wc.length ≤ w.length → Po w rv → ∃ ws', zplA σ ws wc.length w ws' ∧ ws'.length ≤ zBIG ∧ zZ p l e R s m args below meth c D C A nL Qc n0 q0 (kc + rm'.cells) (ks + rm'.slots) (pc + 3) ws' lv ((rv.map (zv (zsg σ wc.length ws.length))).toList ++ rest))
    (hd : zfd tab pc = some (.invokespecial idx)) (hst : st = (As.map (zv σ)).reverse ++ .ref (σ b0) :: rest) (hn : As.length = n) (hrest : (rest.map fun v => v.category).sum ≤ 8)
    (hR : rm'.frames + 1 ≤ R.frames ∧ 8 + (nL' + 11) + rm'.locals ≤ R.locals) (hf : kc + rm'.cells ≤ R.cells ∧ ks + rm'.slots ≤ R.slots) :
    zZ p l e R s m args below meth c D C A nL Qc n0 q0 kc ks pc ws lv st := fun q hq => by
  obtain ⟨hx, hb, hml, hr, ho, hts, hK, hlocks⟩ := F
  obtain ⟨⟨w1, w2, w3, w5⟩, hnm, hd1, hd2, hd3⟩ := hW
  obtain ⟨⟨l0, hdec, hl0⟩, -⟩ := zokC_at hO hd
  obtain rfl : l0 = 3 := hl0.resolve_left (by simp [zisw])
  refine zcallA_go (a := (Value.ref (q (σ b0)) :: As.map (zv (fun i => q (σ i)))).toArray) hsb hσ hσB hwB hAf hn0 hcW hcL hcS hq (fun H locs ls hP hD hl => ?_) kk
  have hP' : va_P D vwCl (zw C (fun i => q (σ i)) wc) H := fun k x hx => hP _ x (zcell_sub hsb hx)
  have hD' := zsub_D (C := C) hsb hD
  have hg : GoodIn zG (.code y cc' nL' none :: zG) := zgood (us := []) (fun w hw => absurd hw List.not_mem_nil) w5
  exact va_runI (b := q (σ b0)) (As := As.map (zv (fun i => q (σ i)))) (Ts := zG) ⟨hx, hb, hml, ho, hts⟩ (hM (fun i => q (σ i)) H.size) (cwI n hts hg rfl rfl rfl (hts _ w3) (hts _ w1) (hts _ w2) hnm ⟨hd1, hd2, hd3⟩ hR) ⟨zpre_blind, fun U hU hWU => ⟨rfl, by rw [hU], by rw [hU]; exact hP', ⟨va_K.moved hWU.alike hK, zns_warm hWU N⟩, hD'⟩⟩ rfl (by rw [List.length_map]; exact hn) hl.2.1 (zst_eq hst) (lv_room (zrest_eq hrest)) hdec hf
theorem zZ_initN (F : zFx p s m args meth c cc nL ret RX3 D C) (N : zNs s) (hAf : ∀ x, s.heap.size ≤ x → A x) (hO : zokC cc tab = true) (hM : zFunB l D C y cc' nL' none rm' (.ref b0 :: As) wc Po) (hW : zCN s idx y cc' nL' n)
    (hsb : zsb σ ws wc) (hσ : ∀ k, k < wc.length → σ k < ws.length) (hσB : ∀ i, zfo i → σ i = i) (hwB : wc.length ≤ ws.length)
    (hn0 : n0 ≤ ws.length) (hcW : zcW ws) (hcL : zcL ws.length lv) (hcS : zcS ws.length rest)
    (kk : ∀ (w : zS) (rv : Option Value), wc.length ≤ w.length → Po w rv → ∃ ws', zplA σ ws wc.length w ws' ∧ ws'.length ≤ zBIG ∧ zZ p l e R s m args below meth c D C A nL Qc n0 q0 (kc + rm'.cells) (ks + rm'.slots) (pc + 3) ws' lv ((rv.map (zv (zsg σ wc.length ws.length))).toList ++ rest))
    (hd : zfd tab pc = some (.invokespecial idx)) (hst : st = (As.map (zv σ)).reverse ++ .ref (σ b0) :: rest) (hn : As.length = n) (hrest : (rest.map fun v => v.category).sum ≤ 8)
    (hR : rm'.frames + 1 ≤ R.frames ∧ 8 + (nL' + 11) + rm'.locals ≤ R.locals) (hf : kc + rm'.cells ≤ R.cells ∧ ks + rm'.slots ≤ R.slots) :
    zZ p l e R s m args below meth c D C A nL Qc n0 q0 kc ks pc ws lv st := fun q hq => by
  obtain ⟨hx, hb, hml, hr, ho, hts, hK, hlocks⟩ := F
  obtain ⟨w1, ⟨w2, w3, w5⟩, hnm, hd1, hd2, hd3⟩ := hW
  obtain ⟨⟨l0, hdec, hl0⟩, -⟩ := zokC_at hO hd
  obtain rfl : l0 = 3 := hl0.resolve_left (by simp [zisw])
  refine zcallA_go (a := (Value.ref (q (σ b0)) :: As.map (zv (fun i => q (σ i)))).toArray) hsb hσ hσB hwB hAf hn0 hcW hcL hcS hq (fun H locs ls hP hD hl => ?_) kk
  have hP' : va_P D vwCl (zw C (fun i => q (σ i)) wc) H := fun k x hx => hP _ x (zcell_sub hsb hx)
  have hD' := zsub_D (C := C) hsb hD
  have hg : GoodIn zG (.code y cc' nL' none :: zG) := zgood (us := []) (fun w hw => absurd hw List.not_mem_nil) w5
  exact va_runIN (b := q (σ b0)) (As := As.map (zv (fun i => q (σ i)))) (Ts := zG) ⟨hx, hb, hml, ho, hts⟩ (hM (fun i => q (σ i)) H.size) ⟨va_cnB n hts hg rfl rfl rfl w1 (hts _ w3) ⟨hd1, hd2, hd3⟩ hR, hnm, hts _ w2⟩ ⟨zpre_blind, fun U hU hWU => ⟨rfl, by rw [hU], by rw [hU]; exact hP', ⟨va_K.moved hWU.alike hK, zns_warm hWU N⟩, hD'⟩⟩ rfl (by rw [List.length_map]; exact hn) hl.2.1 (zst_eq hst) (lv_room (zrest_eq hrest)) hdec hf
/-- the words of a making -/
def zNw (own : String) (idx ci : Nat) (r : vw_C) (fs : List Value) : Prop := (Jvm.Cond.classLink own idx r.1 ∈ zG ∧ Jvm.Cond.instantiable r.1 r.2.2 ∈ zG ∧ Jvm.Cond.initialized r.1 ∈ zG) ∧ vwCl[ci]? = some r ∧ (∀ j, j < r.2.2 → (parseFieldDescriptor (r.2.1 j).2.2.1).map defaultValue = some (vp_V fs j)) ∧ ∀ v ∈ fs, ∀ a, v ≠ .ref a
theorem zZ_new (F : zFx p s m args meth c cc nL ret own D C) (hAf : ∀ x, s.heap.size ≤ x → A x) (hO : zokC cc tab = true) {ci : Nat} {r : vw_C} {fs : List Value} (hd : zfd tab pc = some (.new idx)) (hw : zNw own idx ci r fs) (hn0 : n0 ≤ ws.length) (hB : ws.length < zBIG) (hcW : zcW ws) (hcL : zcL ws.length lv) (hcS : zcS ws.length st) (hkc : kc + 1 ≤ R.cells) (hks : ks + r.2.2 ≤ R.slots)
    (kk : zZ p l e R s m args below meth c D C A nL Qc n0 q0 (kc + 1) (ks + r.2.2) (pc + 3) (ws ++ [.inr (.inr (ci, fs))]) lv (.ref ws.length :: st)) : zZ p l e R s m args below meth c D C A nL Qc n0 q0 kc ks pc ws lv st := fun q hq => by
  obtain ⟨hx, hb, hml, hr, ho, hts, hK, hlocks⟩ := F
  obtain ⟨⟨l0, hdec, hl0⟩, -⟩ := zokC_at hO hd
  obtain rfl : l0 = 3 := hl0.resolve_left (by simp [zisw])
  obtain ⟨⟨w1, w2, w3⟩, hcl, hfs, hnr⟩ := hw
  obtain ⟨hin, ty, hty, hnm⟩ := zcls ci r hcl
  intro H locs ls hP hD hS hl
  refine va_new (C := r.1) (T := r.2.1) (N := r.2.2) (fs := fs) hx hb hts hin ty hty ho (hts _ w1) (hts _ w2) (hts _ w3) hK hP hD hS hAf hcl (fun j hj => ?_) hkc hks hdec (fun a H1 hP1 hD1 hS1 => ?_)
  · have := hfs j hj
    rw [hty j hj] at this
    exact Option.some.inj this
  · obtain ⟨q', hag, hself, hP2, hD2⟩ := z_push (x := .inr (.inr (ci, fs))) hB hcW (fun q' _ => by
      show Sum.inr (ci, fs.map (zv q')) = Sum.inr (ci, fs)
      congr 2
      refine (List.map_congr_left (fun v hv => ?_)).trans (List.map_id' fs)
      cases v <;> first | rfl | exact absurd rfl (hnr _ hv _)) hP1 hD1
    have h := kk q' (zag_tr hq hag hn0) H1 locs ls hP2 hD2 hS1 (zh_ag hag hcL hl)
    have e1 : (Value.ref ws.length :: st).map (zv q') = Value.ref a :: st.map (zv q) := by
      rw [List.map_cons, zst_ag hag hcS]
      show Value.ref (q' ws.length) :: _ = _
      rw [hself]
    rw [e1] at h
    exact h
theorem zZ_newi (F : zFx p s m args meth c cc nL ret own D C) (hAf : ∀ x, s.heap.size ≤ x → A x) (hO : zokC cc tab = true) {N' : Nat} (hd : zfd tab pc = some (.newarray .int)) (hw : Jvm.Cond.arrayClass .int ∈ zG) (hN : N' < 100000) (hn0 : n0 ≤ ws.length) (hB : ws.length < zBIG) (hcW : zcW ws) (hcL : zcL ws.length lv) (hcS : zcS ws.length st) (hkc : kc + 1 ≤ R.cells) (hks : ks + N' ≤ R.slots)
    (hlen : zlen (.newarray .int) = 2) (kk : zZ p l e R s m args below meth c D C A nL Qc n0 q0 (kc + 1) (ks + N') (pc + 2) (ws ++ [.inl (0, N', fun _ => 0)]) lv (.ref ws.length :: st)) : zZ p l e R s m args below meth c D C A nL Qc n0 q0 kc ks pc ws lv (.int (nI N') :: st) := fun q hq => by
  obtain ⟨hx, hb, hml, hr, ho, hts, hK, hlocks⟩ := F
  obtain ⟨⟨l0, hdec, hl0⟩, -⟩ := zokC_at hO hd
  obtain rfl : l0 = 2 := (hl0.resolve_left (by simp [zisw])).trans hlen
  intro H locs ls hP hD hS hl
  refine va_newa (atype := .int) (ty := .int) (N' := N') (a0 := (N', .inl (fun _ => 0))) hx hb (hts _ hw) rfl hK hP hD hS hAf (fun cA => by rw [vp_cell_i]; rfl) (nI_pos (by omega)) (nI_clamp (by omega)) (by show N' * componentBytes .int ≤ _; have : componentBytes .int = 4 := rfl; rw [this]; omega) hkc hks hdec (fun a cA H1 hK1 hP1 hD1 hS1 => ?_)
  have hcA : cA = C.1 := by
    have h1 := va_nm_int (hK1.2 3 _ rfl).2
    have h2 := va_nm_int (hK.2 0 _ rfl).2
    exact Option.some.inj (h1.symm.trans h2)
  subst hcA
  obtain ⟨q', hag, hself, hP2, hD2⟩ := z_push (x := .inl (0, N', fun _ => 0)) hB hcW (fun q' _ => rfl) hP1 hD1
  have h := kk q' (zag_tr hq hag hn0) H1 locs ls hP2 hD2 hS1 (zh_ag hag hcL hl)
  have e1 : (Value.ref ws.length :: st).map (zv q') = Value.ref a :: st.map (zv q) := by
    rw [List.map_cons, zst_ag hag hcS]
    show Value.ref (q' ws.length) :: _ = _
    rw [hself]
  rw [e1] at h
  exact h
theorem zZ_newb (F : zFx p s m args meth c cc nL ret own D C) (hAf : ∀ x, s.heap.size ≤ x → A x) (hO : zokC cc tab = true) {N' : Nat} (hd : zfd tab pc = some (.newarray .boolean)) (hw : Jvm.Cond.arrayClass .boolean ∈ zG) (hN : N' < 100000) (hn0 : n0 ≤ ws.length) (hB : ws.length < zBIG) (hcW : zcW ws) (hcL : zcL ws.length lv) (hcS : zcS ws.length st) (hkc : kc + 1 ≤ R.cells) (hks : ks + N' ≤ R.slots)
    (hlen : zlen (.newarray .boolean) = 2) (kk : zZ p l e R s m args below meth c D C A nL Qc n0 q0 (kc + 1) (ks + N') (pc + 2) (ws ++ [.inl (1, N', fun _ => 0)]) lv (.ref ws.length :: st)) : zZ p l e R s m args below meth c D C A nL Qc n0 q0 kc ks pc ws lv (.int (nI N') :: st) := fun q hq => by
  obtain ⟨hx, hb, hml, hr, ho, hts, hK, hlocks⟩ := F
  obtain ⟨⟨l0, hdec, hl0⟩, -⟩ := zokC_at hO hd
  obtain rfl : l0 = 2 := (hl0.resolve_left (by simp [zisw])).trans hlen
  intro H locs ls hP hD hS hl
  refine va_newa (atype := .boolean) (ty := .boolean) (N' := N') (a0 := (N', .inl (fun _ => 0))) hx hb (hts _ hw) rfl hK hP hD hS hAf (fun cA => by rw [vp_cell_i]; rfl) (nI_pos (by omega)) (nI_clamp (by omega)) (by show N' * componentBytes .boolean ≤ _; have : componentBytes .boolean = 1 := rfl; rw [this]; omega) hkc hks hdec (fun a cA H1 hK1 hP1 hD1 hS1 => ?_)
  have hcA : cA = C.2.1 := by
    have h1 := va_nm_boolean (hK1.2 3 _ rfl).2
    have h2 := va_nm_boolean (hK.2 1 _ rfl).2
    exact Option.some.inj (h1.symm.trans h2)
  subst hcA
  obtain ⟨q', hag, hself, hP2, hD2⟩ := z_push (x := .inl (1, N', fun _ => 0)) hB hcW (fun q' _ => rfl) hP1 hD1
  have h := kk q' (zag_tr hq hag hn0) H1 locs ls hP2 hD2 hS1 (zh_ag hag hcL hl)
  have e1 : (Value.ref ws.length :: st).map (zv q') = Value.ref a :: st.map (zv q) := by
    rw [List.map_cons, zst_ag hag hcS]
    show Value.ref (q' ws.length) :: _ = _
    rw [hself]
  rw [e1] at h
  exact h
theorem zZ_newq (F : zFx p s m args meth c cc nL ret own D C) (N : zNs s) (hAf : ∀ x, s.heap.size ≤ x → A x) (hO : zokC cc tab = true) {N' : Nat} (hd : zfd tab pc = some (.anewarray idx)) (hw : Jvm.Cond.classLink own idx RX2 ∈ zG) (hN : N' < 100000) (hn0 : n0 ≤ ws.length) (hB : ws.length < zBIG) (hcW : zcW ws) (hcL : zcL ws.length lv) (hcS : zcS ws.length st) (hkc : kc + 1 ≤ R.cells) (hks : ks + N' ≤ R.slots)
    (kk : zZ p l e R s m args below meth c D C A nL Qc n0 q0 (kc + 1) (ks + N') (pc + 3) (ws ++ [.inr (.inl (N', fun _ => none))]) lv (.ref ws.length :: st)) : zZ p l e R s m args below meth c D C A nL Qc n0 q0 kc ks pc ws lv (.int (nI N') :: st) := fun q hq => by
  obtain ⟨hx, hb, hml, hr, ho, hts, hK, hlocks⟩ := F
  obtain ⟨⟨l0, hdec, hl0⟩, -⟩ := zokC_at hO hd
  obtain rfl : l0 = 3 := hl0.resolve_left (by simp [zisw])
  intro H locs ls hP hD hS hl
  refine va_newq (N' := N') hx hb ho (hts _ hw) N.2.2 hK hP hD hS hAf (nI_pos (by omega)) (nI_clamp (by omega)) (by omega) hkc hks hdec (fun a cA H1 hK1 hP1 hD1 hS1 => ?_)
  have hcA : cA = C.2.2 := by
    have h1 := va_nmO (hK1.2 3 _ rfl).2 rfl
    have h2 := va_nmO (hK.2 2 _ rfl).2 rfl
    exact Option.some.inj (h1.symm.trans h2)
  subst hcA
  obtain ⟨q', hag, hself, hP2, hD2⟩ := z_push (x := .inr (.inl (N', fun _ => none))) hB hcW (fun q' _ => rfl) hP1 hD1
  have h := kk q' (zag_tr hq hag hn0) H1 locs ls hP2 hD2 hS1 (zh_ag hag hcL hl)
  have e1 : (Value.ref ws.length :: st).map (zv q') = Value.ref a :: st.map (zv q) := by
    rw [List.map_cons, zst_ag hag hcS]
    show Value.ref (q' ws.length) :: _ = _
    rw [hself]
  rw [e1] at h
  exact h
/-- what fits a field -/
def zft (ty : FieldType) (v : Value) : Prop := ∀ q, narrow ty (zv q v) = zv q v ∧ fits ty (zv q v) = true
theorem zAt_putF {Q : State → Prop} (F : zFx p s m args meth c cc nL ret own D C) (hname : meth.name = "<init>") (hO : zokC cc tab = true) {ci j a : Nat} {r : vw_C} {fs : List Value} {v : Value} {ty : FieldType} {rest : List Value} (hd : zfd tab pc = some (.putfield idx)) (ha : ws[a]? = some (.inr (.inr (ci, fs)))) (hcl : vwCl[ci]? = some r) (hj : j < r.2.2) (hlk : Jvm.Cond.fieldLink own idx (r.2.1 j).1 (r.2.1 j).2.1 (r.2.1 j).2.2.1 ∈ zG) (hfin : (r.2.1 j).2.2.2 = true) (hdecl : (r.2.1 j).1 = own) (hty : parseFieldDescriptor (r.2.1 j).2.2.1 = some ty) (hv : zft ty v) (hl : j < fs.length)
    (kk : zAt p l e R s m args below meth c D C A nL Q kc ks q (pc + 3) (ws.set a (.inr (.inr (ci, fs.set j v)))) lv rest) : zAt p l e R s m args below meth c D C A nL Q kc ks q pc ws lv (v :: .ref a :: rest) := by
  obtain ⟨hx, hb, hml, hr, ho, hts, hK, hlocks⟩ := F
  obtain ⟨⟨l0, hdec, hl0⟩, -⟩ := zokC_at hO hd
  obtain rfl : l0 = 3 := hl0.resolve_left (by simp [zisw])
  obtain ⟨hin, ty0, hty0, hnm⟩ := zcls ci r hcl
  intro H locs ls hP hD hS hll
  refine va_putF (C := r.1) (T := r.2.1) (N := r.2.2) (ref := (r.2.1 j).1) (ci := ci) (fs := fs.map (zv q)) (v := zv q v) (ty := ty) hx hb hts hin ty0 hty0 hnm ho hK hP hD hS a (zw_of ha) hcl j hj (hts _ hlk) (fun _ h => h) hfin hname hdecl hty (hv q).1 (hv q).2 (by rw [List.length_map]; exact hl) hdec (fun H1 locs1 hP1 hD1 hS1 => ?_)
  have e4 : (zw C q ws).set a (q a, Sum.inr (ci, (fs.map (zv q)).set j (zv q v))) = zw C q (ws.set a (.inr (.inr (ci, fs.set j v)))) := by
    rw [zw_set]
    congr 1
    show _ = (q a, Sum.inr (ci, (fs.set j v).map (zv q)))
    rw [List.map_set]
  exact kk H1 locs1 ls (e4 ▸ hP1) (e4 ▸ hD1) hS1 hll
theorem zAt_obj {Q : State → Prop} (F : zFx p s m args meth c cc nL ret own D C) (hO : zokC cc tab = true) {a : Nat} (hd : zfd tab pc = some (.invokespecial idx)) (hlk : Jvm.Cond.methodLink own idx Lib.objectInit ∈ zG) (hin : Jvm.Cond.instanceMethod Lib.objectInit ∈ zG) (hco : Jvm.Cond.code Lib.objectInit ⟨#[0xb1]⟩ 1 none ∈ zG) (hf : 1 ≤ R.frames ∧ 40 ≤ R.locals)
    (kk : zAt p l e R s m args below meth c D C A nL Q kc ks q (pc + 3) ws lv []) : zAt p l e R s m args below meth c D C A nL Q kc ks q pc ws lv [.ref a] := by
  obtain ⟨hx, hb, hml, hr, ho, hts, hK, hlocks⟩ := F
  obtain ⟨⟨l0, hdec, hl0⟩, -⟩ := zokC_at hO hd
  obtain rfl : l0 = 3 := hl0.resolve_left (by simp [zisw])
  intro H locs ls hP hD hS hll
  exact W.objInit hx hb ho (hts _ hlk) (hts _ hin) (hts _ hco) rfl (hll.2.1.trans hml.symm) rfl hdec hf.1 (by
    show 2 * 0 + 0 + 12 ≤ R.locals
    have := hf.2
    omega) (kk H locs ls hP hD hS hll)
/-- a constructor that makes no cell -/
theorem zZ_initS (F : zFx p s m args meth c cc nL ret own D C) (N : zNs s) (hAf : ∀ x, s.heap.size ≤ x → A x) (hO : zokC cc tab = true) (hM : zFun l D C y cc' nL' none rm' (.ref b0 :: As) wc Po) (hW : zCI own idx y cc' nL' n)
    (hsb : zsb σ ws wc)
    (kk : ∀ (w : zS) (rv : Option Value), w.length = wc.length → Po w rv → ∃ ws', zpl σ ws wc.length w ws' ∧ zZ p l e R s m args below meth c D C A nL Qc n0 q0 (kc + rm'.cells) (ks + rm'.slots) (pc + 3) ws' lv ((rv.map (zv σ)).toList ++ rest))
    (hd : zfd tab pc = some (.invokespecial idx)) (hst : st = (As.map (zv σ)).reverse ++ .ref (σ b0) :: rest) (hn : As.length = n) (hrest : (rest.map fun v => v.category).sum ≤ 8)
    (hR : rm'.frames + 1 ≤ R.frames ∧ 8 + (nL' + 11) + rm'.locals ≤ R.locals) (hf : kc + rm'.cells ≤ R.cells ∧ ks + rm'.slots ≤ R.slots) :
    zZ p l e R s m args below meth c D C A nL Qc n0 q0 kc ks pc ws lv st := fun q hq => by
  obtain ⟨hx, hb, hml, hr, ho, hts, hK, hlocks⟩ := F
  obtain ⟨⟨w1, w2, w3, w5⟩, hnm, hd1, hd2, hd3⟩ := hW
  obtain ⟨⟨l0, hdec, hl0⟩, -⟩ := zokC_at hO hd
  obtain rfl : l0 = 3 := hl0.resolve_left (by simp [zisw])
  refine zcall_go (a := (Value.ref (q (σ b0)) :: As.map (zv (fun i => q (σ i)))).toArray) hsb hAf (fun H locs ls hP hD hl => ?_) (fun w rv h1 h2 => by
    obtain ⟨ws', h3, h4⟩ := kk w rv h1 h2
    exact ⟨ws', h3, h4 q hq⟩)
  have hP' : va_P D vwCl (zw C (fun i => q (σ i)) wc) H := fun k x hx => hP _ x (zcell_sub hsb hx)
  have hD' := zsub_D (C := C) hsb hD
  have hg : GoodIn zG (.code y cc' nL' none :: zG) := zgood (us := []) (fun w hw => absurd hw List.not_mem_nil) w5
  exact va_runI (b := q (σ b0)) (As := As.map (zv (fun i => q (σ i)))) (Ts := zG) ⟨hx, hb, hml, ho, hts⟩ (hM (fun i => q (σ i)) H.size) (cwI n hts hg rfl rfl rfl (hts _ w3) (hts _ w1) (hts _ w2) hnm ⟨hd1, hd2, hd3⟩ hR) ⟨zpre_blind, fun U hU hWU => ⟨rfl, by rw [hU], by rw [hU]; exact hP', ⟨va_K.moved hWU.alike hK, zns_warm hWU N⟩, hD'⟩⟩ rfl (by rw [List.length_map]; exact hn) hl.2.1 (zst_eq hst) (lv_room (zrest_eq hrest)) hdec hf
theorem zZ_putF (F : zFx p s m args meth c cc nL ret own D C) (hname : meth.name = "<init>") (hO : zokC cc tab = true) {ci j a : Nat} {r : vw_C} {fs : List Value} {v : Value} {ty : FieldType} {rest : List Value} (hd : zfd tab pc = some (.putfield idx)) (ha : ws[a]? = some (.inr (.inr (ci, fs)))) (hcl : vwCl[ci]? = some r) (hj : j < r.2.2) (hlk : Jvm.Cond.fieldLink own idx (r.2.1 j).1 (r.2.1 j).2.1 (r.2.1 j).2.2.1 ∈ zG) (hfin : (r.2.1 j).2.2.2 = true) (hdecl : (r.2.1 j).1 = own) (hty : parseFieldDescriptor (r.2.1 j).2.2.1 = some ty) (hv : zft ty v) (hl : j < fs.length)
    (kk : zZ p l e R s m args below meth c D C A nL Qc n0 q0 kc ks (pc + 3) (ws.set a (.inr (.inr (ci, fs.set j v)))) lv rest) : zZ p l e R s m args below meth c D C A nL Qc n0 q0 kc ks pc ws lv (v :: .ref a :: rest) := fun q hq => by
  obtain ⟨hx, hb, hml, hr, ho, hts, hK, hlocks⟩ := F
  obtain ⟨⟨l0, hdec, hl0⟩, -⟩ := zokC_at hO hd
  obtain rfl : l0 = 3 := hl0.resolve_left (by simp [zisw])
  obtain ⟨hin, ty0, hty0, hnm⟩ := zcls ci r hcl
  intro H locs ls hP hD hS hll
  refine va_putF (C := r.1) (T := r.2.1) (N := r.2.2) (ref := (r.2.1 j).1) (ci := ci) (fs := fs.map (zv q)) (v := zv q v) (ty := ty) hx hb hts hin ty0 hty0 hnm ho hK hP hD hS a (zw_of ha) hcl j hj (hts _ hlk) (fun _ h => h) hfin hname hdecl hty (hv q).1 (hv q).2 (by rw [List.length_map]; exact hl) hdec (fun H1 locs1 hP1 hD1 hS1 => ?_)
  have e4 : (zw C q ws).set a (q a, Sum.inr (ci, (fs.map (zv q)).set j (zv q v))) = zw C q (ws.set a (.inr (.inr (ci, fs.set j v)))) := by
    rw [zw_set]
    congr 1
    show _ = (q a, Sum.inr (ci, (fs.set j v).map (zv q)))
    rw [List.map_set]
  exact kk q hq H1 locs1 ls (e4 ▸ hP1) (e4 ▸ hD1) hS1 hll
theorem zZ_obj (F : zFx p s m args meth c cc nL ret own D C) (hO : zokC cc tab = true) {a : Nat} (hd : zfd tab pc = some (.invokespecial idx)) (hlk : Jvm.Cond.methodLink own idx Lib.objectInit ∈ zG) (hin : Jvm.Cond.instanceMethod Lib.objectInit ∈ zG) (hco : Jvm.Cond.code Lib.objectInit ⟨#[0xb1]⟩ 1 none ∈ zG) (hf : 1 ≤ R.frames ∧ 40 ≤ R.locals)
    (kk : zZ p l e R s m args below meth c D C A nL Qc n0 q0 kc ks (pc + 3) ws lv []) : zZ p l e R s m args below meth c D C A nL Qc n0 q0 kc ks pc ws lv [.ref a] := fun q hq => by
  obtain ⟨hx, hb, hml, hr, ho, hts, hK, hlocks⟩ := F
  obtain ⟨⟨l0, hdec, hl0⟩, -⟩ := zokC_at hO hd
  obtain rfl : l0 = 3 := hl0.resolve_left (by simp [zisw])
  intro H locs ls hP hD hS hll
  exact W.objInit hx hb ho (hts _ hlk) (hts _ hin) (hts _ hco) rfl (hll.2.1.trans hml.symm) rfl hdec hf.1 (by
    show 2 * 0 + 0 + 12 ≤ R.locals
    have := hf.2
    omega) (kk q hq H locs ls hP hD hS hll)
end ZY

/-- what may be used of the machine in the proof of a method that makes cells: Z kc ks is 'the method comes to its end well from here, kc cells and ks slots made' -/
def zOpA (l : Launch) (D : va_G) (C : zC) (own : String) (tab : List (Nat × Instr)) (fl : Nat → Option (Nat × Nat × Nat)) (ki : Nat → Option Int32) (kj : Nat → Option Int64) (d RC RS n0 : Nat) (Kr : zS → Option Value → Prop) (Z : Nat → Nat → zP) : Prop :=
  (∀ (kc ks n : Nat) (stops : List Nat) (pc : Nat) (ws : zS) (lv : zL) (st : List Value), kc ≤ RC → ks ≤ RS → zgo tab fl ki kj stops (Z kc ks) Kr n pc ws lv st → Z kc ks pc ws lv st) ∧
  (∀ (kc ks : Nat) (y : MethodName) (cc' : ByteArray) (nL' n idx pc : Nat) (ret' : Option FieldType) (d' : Nat) (σ : Nat → Nat) (wc ws : zS) (lv : zL) (Po : zS → Option Value → Prop) (As st rest : List Value) (b0 : Nat), zCV own idx y cc' nL' ret' n → zFun l D C y cc' nL' ret' (zR d') (.ref b0 :: As) wc Po → zsb σ ws wc →
    (∃ (ci : Nat) (fs : List Value) (r : vw_C), wc[b0]? = some (.inr (.inr (ci, fs))) ∧ vwCl[ci]? = some r ∧ r.1 = y.cls) → zfd tab pc = some (.invokevirtual idx) → st = (As.map (zv σ)).reverse ++ .ref (σ b0) :: rest → As.length = n → (rest.map fun v => v.category).sum ≤ 8 → d' < d → nL' ≤ 21 → kc ≤ RC → ks ≤ RS →
    (∀ (w : zS) (rv : Option Value), w.length = wc.length → Po w rv → ∃ ws', zpl σ ws wc.length w ws' ∧ Z kc ks (pc + 3) ws' lv ((rv.map (zv σ)).toList ++ rest)) → Z kc ks pc ws lv st) ∧
  (∀ (kc ks : Nat) (y : MethodName) (cc' : ByteArray) (nL' n idx pc : Nat) (ret' : Option FieldType) (d' : Nat) (σ : Nat → Nat) (wc ws : zS) (lv : zL) (Po : zS → Option Value → Prop) (As st rest : List Value), zCS own idx y cc' nL' ret' n → zFun l D C y cc' nL' ret' (zR d') As wc Po → zsb σ ws wc →
    zfd tab pc = some (.invokestatic idx) → st = (As.map (zv σ)).reverse ++ rest → As.length = n → (rest.map fun v => v.category).sum ≤ 8 → d' < d → nL' ≤ 21 → kc ≤ RC → ks ≤ RS →
    (∀ (w : zS) (rv : Option Value), w.length = wc.length → Po w rv → ∃ ws', zpl σ ws wc.length w ws' ∧ Z kc ks (pc + 3) ws' lv ((rv.map (zv σ)).toList ++ rest)) → Z kc ks pc ws lv st) ∧
  (∀ (kc ks mc ms : Nat) (y : MethodName) (cc' : ByteArray) (nL' n idx pc : Nat) (ret' : Option FieldType) (d' : Nat) (σ : Nat → Nat) (wc ws : zS) (lv : zL) (Po : zS → Option Value → Prop) (As st rest : List Value) (b0 : Nat), zCV own idx y cc' nL' ret' n → zFunB l D C y cc' nL' ret' (zRA d' mc ms) (.ref b0 :: As) wc Po → zsb σ ws wc → (∀ k, k < wc.length → σ k < ws.length) → (∀ i, zfo i → σ i = i) → wc.length ≤ ws.length →
    (∃ (ci : Nat) (fs : List Value) (r : vw_C), wc[b0]? = some (.inr (.inr (ci, fs))) ∧ vwCl[ci]? = some r ∧ r.1 = y.cls) → n0 ≤ ws.length → zcW ws → zcL ws.length lv → zcS ws.length rest → zfd tab pc = some (.invokevirtual idx) → st = (As.map (zv σ)).reverse ++ .ref (σ b0) :: rest → As.length = n → (rest.map fun v => v.category).sum ≤ 8 → d' < d → nL' ≤ 21 → kc + mc ≤ RC → ks + ms ≤ RS →
    (∀ (w : zS) (rv : Option Value), wc.length ≤ w.length → Po w rv → ∃ ws', zplA σ ws wc.length w ws' ∧ ws'.length ≤ zBIG ∧ Z (kc + mc) (ks + ms) (pc + 3) ws' lv ((rv.map (zv (zsg σ wc.length ws.length))).toList ++ rest)) → Z kc ks pc ws lv st) ∧
  (∀ (kc ks mc ms : Nat) (y : MethodName) (cc' : ByteArray) (nL' n idx pc : Nat) (d' : Nat) (σ : Nat → Nat) (wc ws : zS) (lv : zL) (Po : zS → Option Value → Prop) (As st rest : List Value) (b0 : Nat), zCI own idx y cc' nL' n → zFunB l D C y cc' nL' none (zRA d' mc ms) (.ref b0 :: As) wc Po → zsb σ ws wc → (∀ k, k < wc.length → σ k < ws.length) → (∀ i, zfo i → σ i = i) → wc.length ≤ ws.length →
    n0 ≤ ws.length → zcW ws → zcL ws.length lv → zcS ws.length rest → zfd tab pc = some (.invokespecial idx) → st = (As.map (zv σ)).reverse ++ .ref (σ b0) :: rest → As.length = n → (rest.map fun v => v.category).sum ≤ 8 → d' < d → nL' ≤ 21 → kc + mc ≤ RC → ks + ms ≤ RS →
    (∀ (w : zS) (rv : Option Value), wc.length ≤ w.length → Po w rv → ∃ ws', zplA σ ws wc.length w ws' ∧ ws'.length ≤ zBIG ∧ Z (kc + mc) (ks + ms) (pc + 3) ws' lv ((rv.map (zv (zsg σ wc.length ws.length))).toList ++ rest)) → Z kc ks pc ws lv st) ∧
  (∀ (kc ks : Nat) (idx pc ci : Nat) (r : vw_C) (fs : List Value) (ws : zS) (lv : zL) (st : List Value), zfd tab pc = some (.new idx) → zNw own idx ci r fs → n0 ≤ ws.length → ws.length < zBIG → zcW ws → zcL ws.length lv → zcS ws.length st → kc + 1 ≤ RC → ks + r.2.2 ≤ RS →
    Z (kc + 1) (ks + r.2.2) (pc + 3) (ws ++ [.inr (.inr (ci, fs))]) lv (.ref ws.length :: st) → Z kc ks pc ws lv st) ∧
  (∀ (kc ks : Nat) (y : MethodName) (cc' : ByteArray) (nL' n idx pc : Nat) (d' : Nat) (σ : Nat → Nat) (wc ws : zS) (lv : zL) (Po : zS → Option Value → Prop) (As st rest : List Value) (b0 : Nat), zCI own idx y cc' nL' n → zFun l D C y cc' nL' none (zR d') (.ref b0 :: As) wc Po → zsb σ ws wc →
    zfd tab pc = some (.invokespecial idx) → st = (As.map (zv σ)).reverse ++ .ref (σ b0) :: rest → As.length = n → (rest.map fun v => v.category).sum ≤ 8 → d' < d → nL' ≤ 21 → kc ≤ RC → ks ≤ RS →
    (∀ (w : zS) (rv : Option Value), w.length = wc.length → Po w rv → ∃ ws', zpl σ ws wc.length w ws' ∧ Z kc ks (pc + 3) ws' lv ((rv.map (zv σ)).toList ++ rest)) → Z kc ks pc ws lv st)
section ZOA
variable {p : Program} {l : Launch} {e : Env} {s : State} {m : MethodId} {args : Array Value} {below : List Frame} {meth : Method} {c : Code}
variable {cc : ByteArray} {nL : Nat} {ret : Option FieldType} {own : String} {D : va_G} {C : zC} {A : Nat → Prop} {Qc : Array Value → State → Outcome → State → Prop} {n0 d RC RS : Nat} {q0 : Nat → Nat} {tab : List (Nat × Instr)}
theorem zopA_of (F : zFx p s m args meth c cc nL ret own D C) (N : zNs s) (hAf : ∀ x, s.heap.size ≤ x → A x) (hO : zokC cc tab = true) {fl : Nat → Option (Nat × Nat × Nat)} {ki : Nat → Option Int32} {kj : Nat → Option Int64} (hT : zTb own fl ki kj) {Kr : zS → Option Value → Prop} (hR : ∀ q ws rv, zag n0 q0 q → Kr ws rv → zRe s args D C A q ret Qc ws rv) :
    zOpA l D C own tab fl ki kj d RC RS n0 Kr (zZ p l e (zRA d RC RS) s m args below meth c D C A nL Qc n0 q0) :=
  ⟨fun kc ks n stops pc ws lv st h1 h2 h => zZ_run F hO hT hR n stops h1 h2 h,
   fun kc ks y cc' nL' n idx pc ret' d' σ wc ws lv Po As st rest b0 hW hM hsb hrc hd hst hn hrest hdd hL h1 h2 kk => zZ_callV (rm' := zR d') (rest := rest) F N hAf hO hM hW hsb hrc kk hd hst hn hrest (zRA_le (c := 0) (s := 0) hdd hL) ⟨h1, h2⟩,
   fun kc ks y cc' nL' n idx pc ret' d' σ wc ws lv Po As st rest hW hM hsb hd hst hn hrest hdd hL h1 h2 kk => zZ_callS (rm' := zR d') (rest := rest) F N hAf hO hM hW hsb kk hd hst hn hrest (zRA_le (c := 0) (s := 0) hdd hL) ⟨h1, h2⟩,
   fun kc ks mc ms y cc' nL' n idx pc ret' d' σ wc ws lv Po As st rest b0 hW hM hsb hσ hσB hwB hrc hn0 hcW hcL hcS hd hst hn hrest hdd hL h1 h2 kk => zZ_callA (rm' := zRA d' mc ms) (rest := rest) F N hAf hO hM hW hsb hσ hσB hwB hrc hn0 hcW hcL hcS kk hd hst hn hrest (zRA_le hdd hL) ⟨h1, h2⟩,
   fun kc ks mc ms y cc' nL' n idx pc d' σ wc ws lv Po As st rest b0 hW hM hsb hσ hσB hwB hn0 hcW hcL hcS hd hst hn hrest hdd hL h1 h2 kk => zZ_init (rm' := zRA d' mc ms) (rest := rest) F N hAf hO hM hW hsb hσ hσB hwB hn0 hcW hcL hcS kk hd hst hn hrest (zRA_le hdd hL) ⟨h1, h2⟩,
   fun kc ks idx pc ci r fs ws lv st hd hw hn0 hB hcW hcL hcS h1 h2 kk => zZ_new F hAf hO hd hw hn0 hB hcW hcL hcS h1 h2 kk,
   fun kc ks y cc' nL' n idx pc d' σ wc ws lv Po As st rest b0 hW hM hsb hd hst hn hrest hdd hL h1 h2 kk => zZ_initS (rm' := zR d') (rest := rest) F N hAf hO hM hW hsb kk hd hst hn hrest (zRA_le (c := 0) (s := 0) hdd hL) ⟨h1, h2⟩⟩
end ZOA
theorem zFunB_of {l : Launch} {D : va_G} {C : zC} {y : MethodName} {cc : ByteArray} {nL d RC RS : Nat} {ret : Option FieldType} {av : List Value} {wc : zS} {Po : zS → Option Value → Prop} {tab : List (Nat × Instr)} {fl : Nat → Option (Nat × Nat × Nat)} {ki : Nat → Option Int32} {kj : Nat → Option Int64} (hy : plainName y.cls = true) (hO : zokC cc tab = true) (hT : zTb y.cls fl ki kj) (hlen : (zen av).length ≤ nL)
    (body : ∀ Z : Nat → Nat → zP, zOpA l D C y.cls tab fl ki kj d RC RS wc.length (fun ws rv => zRt ret rv ∧ wc.length ≤ ws.length ∧ Po ws rv) Z → Z 0 0 0 wc (zel nL av) []) : zFunB l D C y cc nL ret (zRA d RC RS) av wc Po :=
  zMet_of hy hlen (fun p e s m args below meth c q A F N _ hA => body _ (zopA_of F N hA hO hT (fun q' ws rv hq h => ⟨h.1, fun H locs t hP hD hS ht hW => ⟨⟨q', ws, rv, ⟨fun i hi => hq i (Or.inl hi), fun i hi => hq i (Or.inr hi), h.2.1, h.2.2⟩, rfl, by rw [ht]; exact hP, hD⟩, hS.F ht⟩⟩)) q (fun _ _ => rfl))
end
section
/-! constructors -/
def zcVb (n : Nat) : Value → Bool
  | .ref r => Nat.blt r n || Nat.beq r zBIG
  | _ => true
def zcEb (n : Nat) : zE → Bool
  | .inl _ => true
  | .inr (.inl (k, f)) => (List.range k).all (fun j => match f j with
    | some r => Nat.blt r n || Nat.beq r zBIG
    | none => true)
  | .inr (.inr (_, fs)) => fs.all (zcVb n)
theorem zb_or {n r : Nat} (h : (Nat.blt r n || Nat.beq r zBIG) = true) : r < n ∨ zfo r := by
  rw [Bool.or_eq_true] at h
  rcases h with h | h
  · exact Or.inl (Nat.le_of_ble_eq_true h)
  · exact Or.inr (by rw [Nat.eq_of_beq_eq_true h]; exact zfo_B)
theorem zcV_of {n : Nat} {v : Value} (h : zcVb n v = true) : zcV n v := fun r e => by
  subst e
  exact zb_or h
theorem zcE_of {n : Nat} {x : zE} (h : zcEb n x = true) : zcE n x := by
  match x, h with
  | .inl _, _ => exact trivial
  | .inr (.inl (k, f)), h =>
    intro j hj r hr
    have := List.all_eq_true.mp h j (List.mem_range.mpr hj)
    rw [hr] at this
    exact zb_or this
  | .inr (.inr (_, fs)), h => exact fun v hv => zcV_of (List.all_eq_true.mp h v hv)
theorem zcW_of {ws : zS} (h : ws.all (zcEb ws.length) = true) : zcW ws := fun x hx => zcE_of (List.all_eq_true.mp h x hx)
theorem zcS_of {n : Nat} {st : List Value} (h : st.all (zcVb n) = true) : zcS n st := fun v hv => zcV_of (List.all_eq_true.mp h v hv)
def zcLb (n : Nat) : zL → Bool
  | [] => true
  | none :: r => zcLb n r
  | some v :: r => zcVb n v && zcLb n r
theorem zcL_of {n : Nat} : ∀ {lv : zL}, zcLb n lv = true → zcL n lv
  | [], _ => fun v hv => absurd hv (by simp)
  | none :: r, h => fun v hv => by
    rcases List.mem_cons.mp hv with h1 | h1
    · cases h1
    · exact zcL_of (lv := r) h v h1
  | some w :: r, h => fun v hv => by
    have h : (zcVb n w && zcLb n r) = true := h
    rw [Bool.and_eq_true] at h
    rcases List.mem_cons.mp hv with h1 | h1
    · cases h1; exact zcV_of h.1
    · exact zcL_of (lv := r) h.2 v h1
/-- the words of a final field's writing -/
def zPw (own : String) (idx ci j : Nat) (r : vw_C) (ty : FieldType) : Prop := vwCl[ci]? = some r ∧ j < r.2.2 ∧ Jvm.Cond.fieldLink own idx (r.2.1 j).1 (r.2.1 j).2.1 (r.2.1 j).2.2.1 ∈ zG ∧ (r.2.1 j).2.2.2 = true ∧ (r.2.1 j).1 = own ∧ parseFieldDescriptor (r.2.1 j).2.2.1 = some ty
theorem zPw_of {own : String} {fl : Nat → Option (Nat × Nat × Nat)} {ki : Nat → Option Int32} {kj : Nat → Option Int64} {idx ci j : Nat} {r : vw_C} {ty : FieldType} (hT : zTb own fl ki kj) (h : fl idx = some (ci, j, 2)) (hr : vwCl[ci]? = some r) (hf : (r.2.1 j).2.2.2 = true) (hd : (r.2.1 j).1 = own) (hp : parseFieldDescriptor (r.2.1 j).2.2.1 = some ty) : zPw own idx ci j r ty := by
  obtain ⟨r', h1, h2, h3, -⟩ := hT.1 idx ci j 2 h
  obtain rfl : r' = r := Option.some.inj (h1.symm.trans hr)
  exact ⟨hr, h2, h3, hf, hd, hp⟩
def zOpC (l : Launch) (D : va_G) (C : zC) (own : String) (tab : List (Nat × Instr)) (fl : Nat → Option (Nat × Nat × Nat)) (ki : Nat → Option Int32) (kj : Nat → Option Int64) (d RC RS n0 : Nat) (Kr : zS → Option Value → Prop) (Z : Nat → Nat → zP) : Prop :=
  (∀ (kc ks n : Nat) (stops : List Nat) (pc : Nat) (ws : zS) (lv : zL) (st : List Value), kc ≤ RC → ks ≤ RS → zgo tab fl ki kj stops (Z kc ks) Kr n pc ws lv st → Z kc ks pc ws lv st) ∧
  (∀ (kc ks idx pc a : Nat) (ws : zS) (lv : zL), zfd tab pc = some (.invokespecial idx) → Jvm.Cond.methodLink own idx Lib.objectInit ∈ zG → 0 < d → Z kc ks (pc + 3) ws lv [] → Z kc ks pc ws lv [.ref a]) ∧
  (∀ (kc ks idx pc ci j a : Nat) (r : vw_C) (fs : List Value) (v : Value) (ty : FieldType) (ws : zS) (lv : zL) (rest : List Value), zfd tab pc = some (.putfield idx) → zPw own idx ci j r ty → ws[a]? = some (.inr (.inr (ci, fs))) → zft ty v → j < fs.length → Z kc ks (pc + 3) (ws.set a (.inr (.inr (ci, fs.set j v)))) lv rest → Z kc ks pc ws lv (v :: .ref a :: rest)) ∧
  (∀ (kc ks pc N' : Nat) (ws : zS) (lv : zL) (st : List Value), zfd tab pc = some (.newarray .int) → N' < 100000 → n0 ≤ ws.length → ws.length < zBIG → zcW ws → zcL ws.length lv → zcS ws.length st → kc + 1 ≤ RC → ks + N' ≤ RS → Z (kc + 1) (ks + N') (pc + 2) (ws ++ [.inl (0, N', fun _ => 0)]) lv (.ref ws.length :: st) → Z kc ks pc ws lv (.int (nI N') :: st)) ∧
  (∀ (kc ks pc N' : Nat) (ws : zS) (lv : zL) (st : List Value), zfd tab pc = some (.newarray .boolean) → N' < 100000 → n0 ≤ ws.length → ws.length < zBIG → zcW ws → zcL ws.length lv → zcS ws.length st → kc + 1 ≤ RC → ks + N' ≤ RS → Z (kc + 1) (ks + N') (pc + 2) (ws ++ [.inl (1, N', fun _ => 0)]) lv (.ref ws.length :: st) → Z kc ks pc ws lv (.int (nI N') :: st)) ∧
  (∀ (kc ks pc idx N' : Nat) (ws : zS) (lv : zL) (st : List Value), zfd tab pc = some (.anewarray idx) → Jvm.Cond.classLink own idx RX2 ∈ zG → N' < 100000 → n0 ≤ ws.length → ws.length < zBIG → zcW ws → zcL ws.length lv → zcS ws.length st → kc + 1 ≤ RC → ks + N' ≤ RS → Z (kc + 1) (ks + N') (pc + 3) (ws ++ [.inr (.inl (N', fun _ => none))]) lv (.ref ws.length :: st) → Z kc ks pc ws lv (.int (nI N') :: st)) ∧
  (∀ (kc ks : Nat) (idx pc ci : Nat) (r : vw_C) (fs : List Value) (ws : zS) (lv : zL) (st : List Value), zfd tab pc = some (.new idx) → zNw own idx ci r fs → n0 ≤ ws.length → ws.length < zBIG → zcW ws → zcL ws.length lv → zcS ws.length st → kc + 1 ≤ RC → ks + r.2.2 ≤ RS →
    Z (kc + 1) (ks + r.2.2) (pc + 3) (ws ++ [.inr (.inr (ci, fs))]) lv (.ref ws.length :: st) → Z kc ks pc ws lv st)
def zOpN (l : Launch) (D : va_G) (C : zC) (tab : List (Nat × Instr)) (d RC RS n0 : Nat) (Z : Nat → Nat → zP) : Prop :=
  ∀ (kc ks mc ms : Nat) (y : MethodName) (cc' : ByteArray) (nL' n idx pc : Nat) (d' : Nat) (σ : Nat → Nat) (wc ws : zS) (lv : zL) (Po : zS → Option Value → Prop) (As st rest : List Value) (b0 : Nat), ((idx = 9 ∧ y = yX0_init) ∨ (idx = 31 ∧ y = yX1_init)) → (Jvm.Cond.instanceMethod y ∈ zG ∧ Jvm.Cond.initialized y.cls ∈ zG ∧ Jvm.Cond.code y cc' nL' none ∈ zG) → (parseMethodDescriptor y.desc).map (fun d => d.parameters.length) = some n → zFunB l D C y cc' nL' none (zRA d' mc ms) (.ref b0 :: As) wc Po → zsb σ ws wc → (∀ k, k < wc.length → σ k < ws.length) → (∀ i, zfo i → σ i = i) → wc.length ≤ ws.length →
    n0 ≤ ws.length → zcW ws → zcL ws.length lv → zcS ws.length rest → zfd tab pc = some (.invokespecial idx) → st = (As.map (zv σ)).reverse ++ .ref (σ b0) :: rest → As.length = n → (rest.map fun v => v.category).sum ≤ 8 → d' < d → nL' ≤ 21 → kc + mc ≤ RC → ks + ms ≤ RS →
    (∀ (w : zS) (rv : Option Value), wc.length ≤ w.length → Po w rv → ∃ ws', zplA σ ws wc.length w ws' ∧ ws'.length ≤ zBIG ∧ Z (kc + mc) (ks + ms) (pc + 3) ws' lv ((rv.map (zv (zsg σ wc.length ws.length))).toList ++ rest)) → Z kc ks pc ws lv st
theorem zobj : Jvm.Cond.instanceMethod Lib.objectInit ∈ zG ∧ Jvm.Cond.code Lib.objectInit ⟨#[0xb1]⟩ 1 none ∈ zG := ⟨zin_mem (h := 68) (by decide +kernel), zin_mem (h := 69) (by decide +kernel)⟩
theorem zarr : Jvm.Cond.arrayClass .int ∈ zG ∧ Jvm.Cond.arrayClass .boolean ∈ zG := ⟨zin_mem (h := 149) (by decide +kernel), zin_mem (h := 696) (by decide +kernel)⟩
theorem zFunC_of {l : Launch} {D : va_G} {C : zC} {y : MethodName} {cc : ByteArray} {nL d RC RS : Nat} {ret : Option FieldType} {av : List Value} {wc : zS} {Po : zS → Option Value → Prop} {tab : List (Nat × Instr)} {fl : Nat → Option (Nat × Nat × Nat)} {ki : Nat → Option Int32} {kj : Nat → Option Int64} (hy : plainName y.cls = true) (hnm : y.name = "<init>") (hO : zokC cc tab = true) (hT : zTb y.cls fl ki kj) (hlen : (zen av).length ≤ nL)
    (body : ∀ Z : Nat → Nat → zP, zOpC l D C y.cls tab fl ki kj d RC RS wc.length (fun ws rv => zRt ret rv ∧ wc.length ≤ ws.length ∧ Po ws rv) Z → (y.cls = RX3 → zOpN l D C tab d RC RS wc.length Z) → Z 0 0 0 wc (zel nL av) []) : zFunB l D C y cc nL ret (zRA d RC RS) av wc Po :=
  zMet_of hy hlen (fun p e s m args below meth c q A F N hname hA => body (zZ p l e (zRA d RC RS) s m args below meth c D C A nL (zQ D C A (zPh wc.length Po q)) wc.length q)
    ⟨fun kc ks n stops pc ws lv st h1 h2 h => zZ_run F hO hT (fun q' ws rv hq h => ⟨h.1, fun H locs t hP hD hS ht hW => ⟨⟨q', ws, rv, ⟨fun i hi => hq i (Or.inl hi), fun i hi => hq i (Or.inr hi), h.2.1, h.2.2⟩, rfl, by rw [ht]; exact hP, hD⟩, hS.F ht⟩⟩) n stops h1 h2 h,
     fun kc ks idx pc a ws lv hd hl h0 kk => zZ_obj F hO hd hl zobj.1 zobj.2 ⟨h0, by show 40 ≤ 40 * d; omega⟩ kk,
     fun kc ks idx pc ci j a r fs v ty ws lv rest hd hw ha hv hl kk => zZ_putF F (hname.trans hnm) hO hd ha hw.1 hw.2.1 hw.2.2.1 hw.2.2.2.1 hw.2.2.2.2.1 hw.2.2.2.2.2 hv hl kk,
     fun kc ks pc N' ws lv st hd hN hn0 hB hcW hcL hcS h1 h2 kk => zZ_newi F hA hO hd zarr.1 hN hn0 hB hcW hcL hcS h1 h2 rfl kk,
     fun kc ks pc N' ws lv st hd hN hn0 hB hcW hcL hcS h1 h2 kk => zZ_newb F hA hO hd zarr.2 hN hn0 hB hcW hcL hcS h1 h2 rfl kk,
     fun kc ks pc idx N' ws lv st hd hw hN hn0 hB hcW hcL hcS h1 h2 kk => zZ_newq F N hA hO hd hw hN hn0 hB hcW hcL hcS h1 h2 kk,
     fun kc ks idx pc ci r fs ws lv st hd hw hn0 hB hcW hcL hcS h1 h2 kk => zZ_new F hA hO hd hw hn0 hB hcW hcL hcS h1 h2 kk⟩
    (fun hx3 => fun kc ks mc ms y' cc' nL' n idx pc d' σ wc' ws lv Po' As st rest b0 hy' hW hdp hM hsb hσ hσB hwB hn0 hcW hcL hcS hd hst hn hrest hdd hL h1 h2 kk => zZ_initN (rm' := zRA d' mc ms) (rest := rest) (hx3 ▸ F) N hA hO hM ⟨by
      rcases hy' with ⟨rfl, rfl⟩ | ⟨rfl, rfl⟩
      · exact N.1
      · exact N.2.1, hW, by rcases hy' with ⟨rfl, rfl⟩ | ⟨rfl, rfl⟩ <;> rfl, by rcases hy' with ⟨rfl, rfl⟩ | ⟨rfl, rfl⟩ <;> decide, by rcases hy' with ⟨rfl, rfl⟩ | ⟨rfl, rfl⟩ <;> decide, hdp⟩ hsb hσ hσB hwB hn0 hcW hcL hcS kk hd hst hn hrest (zRA_le hdd hL) ⟨h1, h2⟩) q (fun _ _ => rfl))
/-- a constructor that makes no cell -/
def zOpQ (l : Launch) (D : va_G) (C : zC) (own : String) (tab : List (Nat × Instr)) (fl : Nat → Option (Nat × Nat × Nat)) (ki : Nat → Option Int32) (kj : Nat → Option Int64) (Kr : zS → Option Value → Prop) (Z : zP) : Prop :=
  (∀ (n : Nat) (stops : List Nat) (pc : Nat) (ws : zS) (lv : zL) (st : List Value), zgo tab fl ki kj stops Z Kr n pc ws lv st → Z pc ws lv st) ∧
  (∀ (idx pc a : Nat) (ws : zS) (lv : zL), zfd tab pc = some (.invokespecial idx) → Jvm.Cond.methodLink own idx Lib.objectInit ∈ zG → Z (pc + 3) ws lv [] → Z pc ws lv [.ref a]) ∧
  (∀ (idx pc ci j a : Nat) (r : vw_C) (fs : List Value) (v : Value) (ty : FieldType) (ws : zS) (lv : zL) (rest : List Value), zfd tab pc = some (.putfield idx) → zPw own idx ci j r ty → ws[a]? = some (.inr (.inr (ci, fs))) → zft ty v → j < fs.length → Z (pc + 3) (ws.set a (.inr (.inr (ci, fs.set j v)))) lv rest → Z pc ws lv (v :: .ref a :: rest))
theorem zFunQ_of {l : Launch} {D : va_G} {C : zC} {y : MethodName} {cc : ByteArray} {nL d : Nat} {ret : Option FieldType} {av : List Value} {wc : zS} {Po : zS → Option Value → Prop} {tab : List (Nat × Instr)} {fl : Nat → Option (Nat × Nat × Nat)} {ki : Nat → Option Int32} {kj : Nat → Option Int64} (hy : plainName y.cls = true) (hnm : y.name = "<init>") (hO : zokC cc tab = true) (hT : zTb y.cls fl ki kj) (hlen : (zen av).length ≤ nL)
    (body : ∀ Z : zP, zOpQ l D C y.cls tab fl ki kj (fun ws rv => zRt ret rv ∧ ws.length = wc.length ∧ Po ws rv) Z → Z 0 wc (zel nL av) []) : zFun l D C y cc nL ret (zR (d + 1)) av wc Po :=
  zMet_of hy hlen (fun p e s m args below meth c q A F N hname hA => body (zAt p l e (zR (d + 1)) s m args below meth c D C A nL (MQ below (zQ D C A (zPk wc.length Po q)) args s 0 0 A) 0 0 q)
    ⟨fun n stops pc ws lv st h => zrun F hO hT n stops h,
     fun idx pc a ws lv hd hl kk => zAt_obj F hO hd hl zobj.1 zobj.2 ⟨Nat.succ_pos d, by show 40 ≤ 40 * (d + 1); omega⟩ kk,
     fun idx pc ci j a r fs v ty ws lv rest hd hw ha hv hl kk => zAt_putF F (hname.trans hnm) hO hd ha hw.1 hw.2.1 hw.2.2.1 hw.2.2.2.1 hw.2.2.2.2.1 hw.2.2.2.2.2 hv hl kk⟩)
section CON
variable {l : Launch} {D : va_G} {C : zC}
theorem zft_rf (C0 : String) (o : Option Nat) : zft (.object C0) (va_rf o) := fun q => by cases o <;> exact ⟨rfl, rfl⟩
theorem zft_int (x : Int32) : zft .int (.int x) := fun _ => ⟨rfl, rfl⟩
theorem zft_ar (t : FieldType) (a : Nat) : zft (.array t) (.ref a) := fun _ => ⟨rfl, rfl⟩
theorem zft_ob (t : String) (a : Nat) : zft (.object t) (.ref a) := fun _ => ⟨rfl, rfl⟩
set_option maxRecDepth 10000 in
theorem c_rule_init {x n : Int32} {o1 o2 : Option Nat} (hx : zft .char (.int x)) : zFun l D C yX2_init cX2_init 5 none (zR 1) [.ref 0, .int x, .int n, va_rf o1, va_rf o2] [.inr (.inr (2, [.int 0, .int 0, .null, .null]))] (fun w rv => w = [.inr (.inr (2, [.int x, .int n, va_rf o1, va_rf o2]))] ∧ rv = none) := by
  refine zFunQ_of (by decide) rfl oX2_init tbX2 ?_ (fun Z o => ?_)
  · cases o1 <;> cases o2 <;> exact Nat.le_of_ble_eq_true rfl
  · have fin : ∀ (v1 v2 : Value), (v1 = va_rf o1) → (v2 = va_rf o2) → zft (.object RX2) v1 → zft (.object RX2) v2 → (∃ a, v1 = .ref a) ∨ v1 = .null → (∃ a, v2 = .ref a) ∨ v2 = .null → Z 0 [.inr (.inr (2, [.int 0, .int 0, .null, .null]))] [some (.ref 0), some (.int x), some (.int n), some v1, some v2] [] := by
      intro v1 v2 e1 e2 f1 f2 g1 g2
      refine o.1 100 [] 0 _ _ _ ?_
      show Z 1 _ _ [.ref 0]
      refine o.2.1 3 1 0 _ _ rfl (zin_mem (h := 280) (by decide +kernel)) ?_
      refine o.1 100 [6] 4 _ _ _ ?_
      show Z 6 _ _ [.int x, .ref 0]
      refine o.2.2 9 6 2 0 0 (RX2, TX2, 4) [.int 0, .int 0, .null, .null] _ .char _ _ _ rfl (zPw_of tbX2 (ci := 2) (j := 0) rfl rfl rfl rfl (by decide +kernel)) rfl hx (Nat.le_of_ble_eq_true rfl) ?_
      show Z 9 [.inr (.inr (2, [.int x, .int 0, .null, .null]))] _ []
      refine o.1 100 [11] 9 _ _ _ ?_
      show Z 11 _ _ [.int n, .ref 0]
      refine o.2.2 15 11 2 1 0 (RX2, TX2, 4) [.int x, .int 0, .null, .null] _ .int _ _ _ rfl (zPw_of tbX2 (ci := 2) (j := 1) rfl rfl rfl rfl (by decide +kernel)) rfl (zft_int n) (Nat.le_of_ble_eq_true rfl) ?_
      show Z 14 [.inr (.inr (2, [.int x, .int n, .null, .null]))] _ []
      have s1 : Z 16 [.inr (.inr (2, [.int x, .int n, .null, .null]))] [some (.ref 0), some (.int x), some (.int n), some v1, some v2] [v1, .ref 0] := by
        refine o.2.2 19 16 2 2 0 (RX2, TX2, 4) [.int x, .int n, .null, .null] _ (.object RX2) _ _ _ rfl (zPw_of tbX2 (ci := 2) (j := 2) rfl rfl rfl rfl (by decide +kernel)) rfl f1 (Nat.le_of_ble_eq_true rfl) ?_
        show Z 19 [.inr (.inr (2, [.int x, .int n, v1, .null]))] _ []
        have s2 : Z 22 [.inr (.inr (2, [.int x, .int n, v1, .null]))] [some (.ref 0), some (.int x), some (.int n), some v1, some v2] [v2, .ref 0] := by
          refine o.2.2 23 22 2 3 0 (RX2, TX2, 4) [.int x, .int n, v1, .null] _ (.object RX2) _ _ _ rfl (zPw_of tbX2 (ci := 2) (j := 3) rfl rfl rfl rfl (by decide +kernel)) rfl f2 (Nat.le_of_ble_eq_true rfl) ?_
          show Z 25 [.inr (.inr (2, [.int x, .int n, v1, v2]))] _ []
          exact o.1 100 [] 25 _ _ _ ⟨rfl, rfl, by rw [e1, e2], rfl⟩
        rcases g2 with ⟨a, rfl⟩ | rfl
        · exact o.1 100 [22] 19 _ _ _ s2
        · exact o.1 100 [22] 19 _ _ _ s2
      rcases g1 with ⟨a, rfl⟩ | rfl
      · exact o.1 100 [16] 14 _ _ _ s1
      · exact o.1 100 [16] 14 _ _ _ s1
    have h := fin (va_rf o1) (va_rf o2) rfl rfl (zft_rf _ _) (zft_rf _ _) (by cases o1 <;> simp [va_rf]) (by cases o2 <;> simp [va_rf])
    have e : zel 5 [.ref 0, .int x, .int n, va_rf o1, va_rf o2] = [some (.ref 0), some (.int x), some (.int n), some (va_rf o1), some (va_rf o2)] := by cases o1 <;> cases o2 <;> rfl
    rw [e]
    exact h
/-- a new island -/
def isl0 : zI := (fun k => if k = 1 then nI 1 else 0, fun _ _ => 0, fun _ => none)
set_option maxRecDepth 10000 in
theorem c_isl_init {RB : Nat} : zFunB l D C yX0_init cX0_init 1 none (zRA 1 11 120) [.ref 0] [.inr (.inr (0, [.int 0, .null, .int 0, .null, .int 0, .int 0, .null, .int 0, .null, .null, .null, .null, .int 0, .int 0, .int 0, .null, .null, .null, .null]))] (fun w rv => w = isl 0 RB isl0 ∧ rv = none) := by
  refine zFunC_of (by decide) rfl oX0_init tbX0 (Nat.le_of_ble_eq_true rfl) (fun Z o _ => ?_)
  refine o.1 0 0 100 [] 0 _ _ _ (Nat.zero_le _) (Nat.zero_le _) ?_
  show Z 0 0 1 _ _ [.ref 0]
  refine o.2.1 0 0 3 1 0 _ _ rfl (zin_mem (h := 75) (by decide +kernel)) (by omega) ?_
  refine o.1 0 0 100 [] 4 _ _ _ (Nat.le_of_ble_eq_true rfl) (Nat.le_of_ble_eq_true rfl) ?_
  show Z 0 0 7 _ _ [.int (nI 24), .ref 0]
  refine o.2.2.2.1 0 0 7 24 _ _ _ rfl (Nat.le_of_ble_eq_true rfl) (Nat.le_of_ble_eq_true rfl) (Nat.le_of_ble_eq_true rfl) (zcW_of rfl) (zcL_of rfl) (zcS_of rfl) (Nat.le_of_ble_eq_true rfl) (Nat.le_of_ble_eq_true rfl) ?_
  show Z 1 24 9 [.inr (.inr (0, [.int 0, .null, .int 0, .null, .int 0, .int 0, .null, .int 0, .null, .null, .null, .null, .int 0, .int 0, .int 0, .null, .null, .null, .null])), .inl (0, 24, fun _ => 0)] _ [.ref 1, .ref 0]
  refine o.2.2.1 1 24 9 9 0 1 0 (RX0, TX0, 19) [.int 0, .null, .int 0, .null, .int 0, .int 0, .null, .int 0, .null, .null, .null, .null, .int 0, .int 0, .int 0, .null, .null, .null, .null] _ (.array .int) _ _ _ rfl (zPw_of tbX0 (ci := 0) (j := 1) rfl rfl rfl rfl (by decide +kernel)) rfl (zft_ar .int 1) (Nat.le_of_ble_eq_true rfl) ?_
  show Z 1 24 12 [.inr (.inr (0, [.int 0, .ref 1, .int 0, .null, .int 0, .int 0, .null, .int 0, .null, .null, .null, .null, .int 0, .int 0, .int 0, .null, .null, .null, .null])), .inl (0, 24, fun _ => 0)] _ []
  refine o.1 1 24 100 [17] 12 _ _ _ (Nat.le_of_ble_eq_true rfl) (Nat.le_of_ble_eq_true rfl) ?_
  show Z 1 24 17 [.inr (.inr (0, [.int 0, .ref 1, .int (nI 1), .null, .int 0, .int 0, .null, .int 0, .null, .null, .null, .null, .int 0, .int 0, .int 0, .null, .null, .null, .null])), .inl (0, 24, fun _ => 0)] _ []
  refine o.1 1 24 100 [] 17 _ _ _ (Nat.le_of_ble_eq_true rfl) (Nat.le_of_ble_eq_true rfl) ?_
  show Z 1 24 20 _ _ [.int (nI 24), .ref 0]
  refine o.2.2.2.1 1 24 20 24 _ _ _ rfl (Nat.le_of_ble_eq_true rfl) (Nat.le_of_ble_eq_true rfl) (Nat.le_of_ble_eq_true rfl) (zcW_of rfl) (zcL_of rfl) (zcS_of rfl) (Nat.le_of_ble_eq_true rfl) (Nat.le_of_ble_eq_true rfl) ?_
  show Z 2 48 22 [.inr (.inr (0, [.int 0, .ref 1, .int (nI 1), .null, .int 0, .int 0, .null, .int 0, .null, .null, .null, .null, .int 0, .int 0, .int 0, .null, .null, .null, .null])), .inl (0, 24, fun _ => 0), .inl (0, 24, fun _ => 0)] _ [.ref 2, .ref 0]
  refine o.2.2.1 2 48 19 22 0 3 0 (RX0, TX0, 19) [.int 0, .ref 1, .int (nI 1), .null, .int 0, .int 0, .null, .int 0, .null, .null, .null, .null, .int 0, .int 0, .int 0, .null, .null, .null, .null] _ (.array .int) _ _ _ rfl (zPw_of tbX0 (ci := 0) (j := 3) rfl rfl rfl rfl (by decide +kernel)) rfl (zft_ar .int 2) (Nat.le_of_ble_eq_true rfl) ?_
  show Z 2 48 25 [.inr (.inr (0, [.int 0, .ref 1, .int (nI 1), .ref 2, .int 0, .int 0, .null, .int 0, .null, .null, .null, .null, .int 0, .int 0, .int 0, .null, .null, .null, .null])), .inl (0, 24, fun _ => 0), .inl (0, 24, fun _ => 0)] _ []
  refine o.1 2 48 100 [] 25 _ _ _ (Nat.le_of_ble_eq_true rfl) (Nat.le_of_ble_eq_true rfl) ?_
  show Z 2 48 28 _ _ [.int (nI 10), .ref 0]
  refine o.2.2.2.2.2.1 2 48 28 22 10 _ _ _ rfl (zin_mem (h := 76) (by decide +kernel)) (Nat.le_of_ble_eq_true rfl) (Nat.le_of_ble_eq_true rfl) (Nat.le_of_ble_eq_true rfl) (zcW_of rfl) (zcL_of rfl) (zcS_of rfl) (Nat.le_of_ble_eq_true rfl) (Nat.le_of_ble_eq_true rfl) ?_
  show Z 3 58 31 [.inr (.inr (0, [.int 0, .ref 1, .int (nI 1), .ref 2, .int 0, .int 0, .null, .int 0, .null, .null, .null, .null, .int 0, .int 0, .int 0, .null, .null, .null, .null])), .inl (0, 24, fun _ => 0), .inl (0, 24, fun _ => 0), .inr (.inl (10, fun _ => none))] _ [.ref 3, .ref 0]
  refine o.2.2.1 3 58 24 31 0 6 0 (RX0, TX0, 19) [.int 0, .ref 1, .int (nI 1), .ref 2, .int 0, .int 0, .null, .int 0, .null, .null, .null, .null, .int 0, .int 0, .int 0, .null, .null, .null, .null] _ (.array (.object RX2)) _ _ _ rfl (zPw_of tbX0 (ci := 0) (j := 6) rfl rfl rfl rfl (by decide +kernel)) rfl (zft_ar (.object RX2) 3) (Nat.le_of_ble_eq_true rfl) ?_
  show Z 3 58 34 [.inr (.inr (0, [.int 0, .ref 1, .int (nI 1), .ref 2, .int 0, .int 0, .ref 3, .int 0, .null, .null, .null, .null, .int 0, .int 0, .int 0, .null, .null, .null, .null])), .inl (0, 24, fun _ => 0), .inl (0, 24, fun _ => 0), .inr (.inl (10, fun _ => none))] _ []
  refine o.1 3 58 100 [] 34 _ _ _ (Nat.le_of_ble_eq_true rfl) (Nat.le_of_ble_eq_true rfl) ?_
  show Z 3 58 37 _ _ [.int (nI 8), .ref 0]
  refine o.2.2.2.1 3 58 37 8 _ _ _ rfl (Nat.le_of_ble_eq_true rfl) (Nat.le_of_ble_eq_true rfl) (Nat.le_of_ble_eq_true rfl) (zcW_of rfl) (zcL_of rfl) (zcS_of rfl) (Nat.le_of_ble_eq_true rfl) (Nat.le_of_ble_eq_true rfl) ?_
  show Z 4 66 39 [.inr (.inr (0, [.int 0, .ref 1, .int (nI 1), .ref 2, .int 0, .int 0, .ref 3, .int 0, .null, .null, .null, .null, .int 0, .int 0, .int 0, .null, .null, .null, .null])), .inl (0, 24, fun _ => 0), .inl (0, 24, fun _ => 0), .inr (.inl (10, fun _ => none)), .inl (0, 8, fun _ => 0)] _ [.ref 4, .ref 0]
  refine o.2.2.1 4 66 28 39 0 8 0 (RX0, TX0, 19) [.int 0, .ref 1, .int (nI 1), .ref 2, .int 0, .int 0, .ref 3, .int 0, .null, .null, .null, .null, .int 0, .int 0, .int 0, .null, .null, .null, .null] _ (.array .int) _ _ _ rfl (zPw_of tbX0 (ci := 0) (j := 8) rfl rfl rfl rfl (by decide +kernel)) rfl (zft_ar .int 4) (Nat.le_of_ble_eq_true rfl) ?_
  show Z 4 66 42 [.inr (.inr (0, [.int 0, .ref 1, .int (nI 1), .ref 2, .int 0, .int 0, .ref 3, .int 0, .ref 4, .null, .null, .null, .int 0, .int 0, .int 0, .null, .null, .null, .null])), .inl (0, 24, fun _ => 0), .inl (0, 24, fun _ => 0), .inr (.inl (10, fun _ => none)), .inl (0, 8, fun _ => 0)] _ []
  refine o.1 4 66 100 [] 42 _ _ _ (Nat.le_of_ble_eq_true rfl) (Nat.le_of_ble_eq_true rfl) ?_
  show Z 4 66 45 _ _ [.int (nI 8), .ref 0]
  refine o.2.2.2.1 4 66 45 8 _ _ _ rfl (Nat.le_of_ble_eq_true rfl) (Nat.le_of_ble_eq_true rfl) (Nat.le_of_ble_eq_true rfl) (zcW_of rfl) (zcL_of rfl) (zcS_of rfl) (Nat.le_of_ble_eq_true rfl) (Nat.le_of_ble_eq_true rfl) ?_
  show Z 5 74 47 [.inr (.inr (0, [.int 0, .ref 1, .int (nI 1), .ref 2, .int 0, .int 0, .ref 3, .int 0, .ref 4, .null, .null, .null, .int 0, .int 0, .int 0, .null, .null, .null, .null])), .inl (0, 24, fun _ => 0), .inl (0, 24, fun _ => 0), .inr (.inl (10, fun _ => none)), .inl (0, 8, fun _ => 0), .inl (0, 8, fun _ => 0)] _ [.ref 5, .ref 0]
  refine o.2.2.1 5 74 31 47 0 9 0 (RX0, TX0, 19) [.int 0, .ref 1, .int (nI 1), .ref 2, .int 0, .int 0, .ref 3, .int 0, .ref 4, .null, .null, .null, .int 0, .int 0, .int 0, .null, .null, .null, .null] _ (.array .int) _ _ _ rfl (zPw_of tbX0 (ci := 0) (j := 9) rfl rfl rfl rfl (by decide +kernel)) rfl (zft_ar .int 5) (Nat.le_of_ble_eq_true rfl) ?_
  show Z 5 74 50 [.inr (.inr (0, [.int 0, .ref 1, .int (nI 1), .ref 2, .int 0, .int 0, .ref 3, .int 0, .ref 4, .ref 5, .null, .null, .int 0, .int 0, .int 0, .null, .null, .null, .null])), .inl (0, 24, fun _ => 0), .inl (0, 24, fun _ => 0), .inr (.inl (10, fun _ => none)), .inl (0, 8, fun _ => 0), .inl (0, 8, fun _ => 0)] _ []
  refine o.1 5 74 100 [] 50 _ _ _ (Nat.le_of_ble_eq_true rfl) (Nat.le_of_ble_eq_true rfl) ?_
  show Z 5 74 53 _ _ [.int (nI 8), .ref 0]
  refine o.2.2.2.1 5 74 53 8 _ _ _ rfl (Nat.le_of_ble_eq_true rfl) (Nat.le_of_ble_eq_true rfl) (Nat.le_of_ble_eq_true rfl) (zcW_of rfl) (zcL_of rfl) (zcS_of rfl) (Nat.le_of_ble_eq_true rfl) (Nat.le_of_ble_eq_true rfl) ?_
  show Z 6 82 55 [.inr (.inr (0, [.int 0, .ref 1, .int (nI 1), .ref 2, .int 0, .int 0, .ref 3, .int 0, .ref 4, .ref 5, .null, .null, .int 0, .int 0, .int 0, .null, .null, .null, .null])), .inl (0, 24, fun _ => 0), .inl (0, 24, fun _ => 0), .inr (.inl (10, fun _ => none)), .inl (0, 8, fun _ => 0), .inl (0, 8, fun _ => 0), .inl (0, 8, fun _ => 0)] _ [.ref 6, .ref 0]
  refine o.2.2.1 6 82 34 55 0 10 0 (RX0, TX0, 19) [.int 0, .ref 1, .int (nI 1), .ref 2, .int 0, .int 0, .ref 3, .int 0, .ref 4, .ref 5, .null, .null, .int 0, .int 0, .int 0, .null, .null, .null, .null] _ (.array .int) _ _ _ rfl (zPw_of tbX0 (ci := 0) (j := 10) rfl rfl rfl rfl (by decide +kernel)) rfl (zft_ar .int 6) (Nat.le_of_ble_eq_true rfl) ?_
  show Z 6 82 58 [.inr (.inr (0, [.int 0, .ref 1, .int (nI 1), .ref 2, .int 0, .int 0, .ref 3, .int 0, .ref 4, .ref 5, .ref 6, .null, .int 0, .int 0, .int 0, .null, .null, .null, .null])), .inl (0, 24, fun _ => 0), .inl (0, 24, fun _ => 0), .inr (.inl (10, fun _ => none)), .inl (0, 8, fun _ => 0), .inl (0, 8, fun _ => 0), .inl (0, 8, fun _ => 0)] _ []
  refine o.1 6 82 100 [] 58 _ _ _ (Nat.le_of_ble_eq_true rfl) (Nat.le_of_ble_eq_true rfl) ?_
  show Z 6 82 61 _ _ [.int (nI 8), .ref 0]
  refine o.2.2.2.1 6 82 61 8 _ _ _ rfl (Nat.le_of_ble_eq_true rfl) (Nat.le_of_ble_eq_true rfl) (Nat.le_of_ble_eq_true rfl) (zcW_of rfl) (zcL_of rfl) (zcS_of rfl) (Nat.le_of_ble_eq_true rfl) (Nat.le_of_ble_eq_true rfl) ?_
  show Z 7 90 63 [.inr (.inr (0, [.int 0, .ref 1, .int (nI 1), .ref 2, .int 0, .int 0, .ref 3, .int 0, .ref 4, .ref 5, .ref 6, .null, .int 0, .int 0, .int 0, .null, .null, .null, .null])), .inl (0, 24, fun _ => 0), .inl (0, 24, fun _ => 0), .inr (.inl (10, fun _ => none)), .inl (0, 8, fun _ => 0), .inl (0, 8, fun _ => 0), .inl (0, 8, fun _ => 0), .inl (0, 8, fun _ => 0)] _ [.ref 7, .ref 0]
  refine o.2.2.1 7 90 37 63 0 11 0 (RX0, TX0, 19) [.int 0, .ref 1, .int (nI 1), .ref 2, .int 0, .int 0, .ref 3, .int 0, .ref 4, .ref 5, .ref 6, .null, .int 0, .int 0, .int 0, .null, .null, .null, .null] _ (.array .int) _ _ _ rfl (zPw_of tbX0 (ci := 0) (j := 11) rfl rfl rfl rfl (by decide +kernel)) rfl (zft_ar .int 7) (Nat.le_of_ble_eq_true rfl) ?_
  show Z 7 90 66 [.inr (.inr (0, [.int 0, .ref 1, .int (nI 1), .ref 2, .int 0, .int 0, .ref 3, .int 0, .ref 4, .ref 5, .ref 6, .ref 7, .int 0, .int 0, .int 0, .null, .null, .null, .null])), .inl (0, 24, fun _ => 0), .inl (0, 24, fun _ => 0), .inr (.inl (10, fun _ => none)), .inl (0, 8, fun _ => 0), .inl (0, 8, fun _ => 0), .inl (0, 8, fun _ => 0), .inl (0, 8, fun _ => 0)] _ []
  refine o.1 7 90 100 [] 66 _ _ _ (Nat.le_of_ble_eq_true rfl) (Nat.le_of_ble_eq_true rfl) ?_
  show Z 7 90 69 _ _ [.int (nI 8), .ref 0]
  refine o.2.2.2.1 7 90 69 8 _ _ _ rfl (Nat.le_of_ble_eq_true rfl) (Nat.le_of_ble_eq_true rfl) (Nat.le_of_ble_eq_true rfl) (zcW_of rfl) (zcL_of rfl) (zcS_of rfl) (Nat.le_of_ble_eq_true rfl) (Nat.le_of_ble_eq_true rfl) ?_
  show Z 8 98 71 [.inr (.inr (0, [.int 0, .ref 1, .int (nI 1), .ref 2, .int 0, .int 0, .ref 3, .int 0, .ref 4, .ref 5, .ref 6, .ref 7, .int 0, .int 0, .int 0, .null, .null, .null, .null])), .inl (0, 24, fun _ => 0), .inl (0, 24, fun _ => 0), .inr (.inl (10, fun _ => none)), .inl (0, 8, fun _ => 0), .inl (0, 8, fun _ => 0), .inl (0, 8, fun _ => 0), .inl (0, 8, fun _ => 0), .inl (0, 8, fun _ => 0)] _ [.ref 8, .ref 0]
  refine o.2.2.1 8 98 40 71 0 15 0 (RX0, TX0, 19) [.int 0, .ref 1, .int (nI 1), .ref 2, .int 0, .int 0, .ref 3, .int 0, .ref 4, .ref 5, .ref 6, .ref 7, .int 0, .int 0, .int 0, .null, .null, .null, .null] _ (.array .int) _ _ _ rfl (zPw_of tbX0 (ci := 0) (j := 15) rfl rfl rfl rfl (by decide +kernel)) rfl (zft_ar .int 8) (Nat.le_of_ble_eq_true rfl) ?_
  show Z 8 98 74 [.inr (.inr (0, [.int 0, .ref 1, .int (nI 1), .ref 2, .int 0, .int 0, .ref 3, .int 0, .ref 4, .ref 5, .ref 6, .ref 7, .int 0, .int 0, .int 0, .ref 8, .null, .null, .null])), .inl (0, 24, fun _ => 0), .inl (0, 24, fun _ => 0), .inr (.inl (10, fun _ => none)), .inl (0, 8, fun _ => 0), .inl (0, 8, fun _ => 0), .inl (0, 8, fun _ => 0), .inl (0, 8, fun _ => 0), .inl (0, 8, fun _ => 0)] _ []
  refine o.1 8 98 100 [] 74 _ _ _ (Nat.le_of_ble_eq_true rfl) (Nat.le_of_ble_eq_true rfl) ?_
  show Z 8 98 77 _ _ [.int (nI 8), .ref 0]
  refine o.2.2.2.1 8 98 77 8 _ _ _ rfl (Nat.le_of_ble_eq_true rfl) (Nat.le_of_ble_eq_true rfl) (Nat.le_of_ble_eq_true rfl) (zcW_of rfl) (zcL_of rfl) (zcS_of rfl) (Nat.le_of_ble_eq_true rfl) (Nat.le_of_ble_eq_true rfl) ?_
  show Z 9 106 79 [.inr (.inr (0, [.int 0, .ref 1, .int (nI 1), .ref 2, .int 0, .int 0, .ref 3, .int 0, .ref 4, .ref 5, .ref 6, .ref 7, .int 0, .int 0, .int 0, .ref 8, .null, .null, .null])), .inl (0, 24, fun _ => 0), .inl (0, 24, fun _ => 0), .inr (.inl (10, fun _ => none)), .inl (0, 8, fun _ => 0), .inl (0, 8, fun _ => 0), .inl (0, 8, fun _ => 0), .inl (0, 8, fun _ => 0), .inl (0, 8, fun _ => 0), .inl (0, 8, fun _ => 0)] _ [.ref 9, .ref 0]
  refine o.2.2.1 9 106 43 79 0 16 0 (RX0, TX0, 19) [.int 0, .ref 1, .int (nI 1), .ref 2, .int 0, .int 0, .ref 3, .int 0, .ref 4, .ref 5, .ref 6, .ref 7, .int 0, .int 0, .int 0, .ref 8, .null, .null, .null] _ (.array .int) _ _ _ rfl (zPw_of tbX0 (ci := 0) (j := 16) rfl rfl rfl rfl (by decide +kernel)) rfl (zft_ar .int 9) (Nat.le_of_ble_eq_true rfl) ?_
  show Z 9 106 82 [.inr (.inr (0, [.int 0, .ref 1, .int (nI 1), .ref 2, .int 0, .int 0, .ref 3, .int 0, .ref 4, .ref 5, .ref 6, .ref 7, .int 0, .int 0, .int 0, .ref 8, .ref 9, .null, .null])), .inl (0, 24, fun _ => 0), .inl (0, 24, fun _ => 0), .inr (.inl (10, fun _ => none)), .inl (0, 8, fun _ => 0), .inl (0, 8, fun _ => 0), .inl (0, 8, fun _ => 0), .inl (0, 8, fun _ => 0), .inl (0, 8, fun _ => 0), .inl (0, 8, fun _ => 0)] _ []
  refine o.1 9 106 100 [] 82 _ _ _ (Nat.le_of_ble_eq_true rfl) (Nat.le_of_ble_eq_true rfl) ?_
  show Z 9 106 85 _ _ [.int (nI 8), .ref 0]
  refine o.2.2.2.1 9 106 85 8 _ _ _ rfl (Nat.le_of_ble_eq_true rfl) (Nat.le_of_ble_eq_true rfl) (Nat.le_of_ble_eq_true rfl) (zcW_of rfl) (zcL_of rfl) (zcS_of rfl) (Nat.le_of_ble_eq_true rfl) (Nat.le_of_ble_eq_true rfl) ?_
  show Z 10 114 87 [.inr (.inr (0, [.int 0, .ref 1, .int (nI 1), .ref 2, .int 0, .int 0, .ref 3, .int 0, .ref 4, .ref 5, .ref 6, .ref 7, .int 0, .int 0, .int 0, .ref 8, .ref 9, .null, .null])), .inl (0, 24, fun _ => 0), .inl (0, 24, fun _ => 0), .inr (.inl (10, fun _ => none)), .inl (0, 8, fun _ => 0), .inl (0, 8, fun _ => 0), .inl (0, 8, fun _ => 0), .inl (0, 8, fun _ => 0), .inl (0, 8, fun _ => 0), .inl (0, 8, fun _ => 0), .inl (0, 8, fun _ => 0)] _ [.ref 10, .ref 0]
  refine o.2.2.1 10 114 46 87 0 17 0 (RX0, TX0, 19) [.int 0, .ref 1, .int (nI 1), .ref 2, .int 0, .int 0, .ref 3, .int 0, .ref 4, .ref 5, .ref 6, .ref 7, .int 0, .int 0, .int 0, .ref 8, .ref 9, .null, .null] _ (.array .int) _ _ _ rfl (zPw_of tbX0 (ci := 0) (j := 17) rfl rfl rfl rfl (by decide +kernel)) rfl (zft_ar .int 10) (Nat.le_of_ble_eq_true rfl) ?_
  show Z 10 114 90 [.inr (.inr (0, [.int 0, .ref 1, .int (nI 1), .ref 2, .int 0, .int 0, .ref 3, .int 0, .ref 4, .ref 5, .ref 6, .ref 7, .int 0, .int 0, .int 0, .ref 8, .ref 9, .ref 10, .null])), .inl (0, 24, fun _ => 0), .inl (0, 24, fun _ => 0), .inr (.inl (10, fun _ => none)), .inl (0, 8, fun _ => 0), .inl (0, 8, fun _ => 0), .inl (0, 8, fun _ => 0), .inl (0, 8, fun _ => 0), .inl (0, 8, fun _ => 0), .inl (0, 8, fun _ => 0), .inl (0, 8, fun _ => 0)] _ []
  refine o.1 10 114 100 [] 90 _ _ _ (Nat.le_of_ble_eq_true rfl) (Nat.le_of_ble_eq_true rfl) ?_
  show Z 10 114 93 _ _ [.int (nI 6), .ref 0]
  refine o.2.2.2.1 10 114 93 6 _ _ _ rfl (Nat.le_of_ble_eq_true rfl) (Nat.le_of_ble_eq_true rfl) (Nat.le_of_ble_eq_true rfl) (zcW_of rfl) (zcL_of rfl) (zcS_of rfl) (Nat.le_of_ble_eq_true rfl) (Nat.le_of_ble_eq_true rfl) ?_
  show Z 11 120 95 [.inr (.inr (0, [.int 0, .ref 1, .int (nI 1), .ref 2, .int 0, .int 0, .ref 3, .int 0, .ref 4, .ref 5, .ref 6, .ref 7, .int 0, .int 0, .int 0, .ref 8, .ref 9, .ref 10, .null])), .inl (0, 24, fun _ => 0), .inl (0, 24, fun _ => 0), .inr (.inl (10, fun _ => none)), .inl (0, 8, fun _ => 0), .inl (0, 8, fun _ => 0), .inl (0, 8, fun _ => 0), .inl (0, 8, fun _ => 0), .inl (0, 8, fun _ => 0), .inl (0, 8, fun _ => 0), .inl (0, 8, fun _ => 0), .inl (0, 6, fun _ => 0)] _ [.ref 11, .ref 0]
  refine o.2.2.1 11 120 49 95 0 18 0 (RX0, TX0, 19) [.int 0, .ref 1, .int (nI 1), .ref 2, .int 0, .int 0, .ref 3, .int 0, .ref 4, .ref 5, .ref 6, .ref 7, .int 0, .int 0, .int 0, .ref 8, .ref 9, .ref 10, .null] _ (.array .int) _ _ _ rfl (zPw_of tbX0 (ci := 0) (j := 18) rfl rfl rfl rfl (by decide +kernel)) rfl (zft_ar .int 11) (Nat.le_of_ble_eq_true rfl) ?_
  show Z 11 120 98 [.inr (.inr (0, [.int 0, .ref 1, .int (nI 1), .ref 2, .int 0, .int 0, .ref 3, .int 0, .ref 4, .ref 5, .ref 6, .ref 7, .int 0, .int 0, .int 0, .ref 8, .ref 9, .ref 10, .ref 11])), .inl (0, 24, fun _ => 0), .inl (0, 24, fun _ => 0), .inr (.inl (10, fun _ => none)), .inl (0, 8, fun _ => 0), .inl (0, 8, fun _ => 0), .inl (0, 8, fun _ => 0), .inl (0, 8, fun _ => 0), .inl (0, 8, fun _ => 0), .inl (0, 8, fun _ => 0), .inl (0, 8, fun _ => 0), .inl (0, 6, fun _ => 0)] _ []
  exact o.1 11 120 100 [] 98 _ _ _ (Nat.le_of_ble_eq_true rfl) (Nat.le_of_ble_eq_true rfl) ⟨rfl, (Nat.le_of_ble_eq_true rfl), rfl, rfl⟩
set_option maxRecDepth 10000 in
theorem c_rdr_init : zFunB l D C yX1_init cX1_init 1 none (zRA 1 1 24) [.ref 0] [.inr (.inr (1, [.null, .int 0, .int 0]))] (fun w rv => w = rdr (fun _ => 0) 0 0 ∧ rv = none) := by
  refine zFunC_of (by decide) rfl oX1_init tbX1 (Nat.le_of_ble_eq_true rfl) (fun Z o _ => ?_)
  refine o.1 0 0 100 [] 0 _ _ _ (Nat.zero_le _) (Nat.zero_le _) ?_
  show Z 0 0 1 _ _ [.ref 0]
  refine o.2.1 0 0 3 1 0 _ _ rfl (zin_mem (h := 155) (by decide +kernel)) (by omega) ?_
  refine o.1 0 0 100 [] 4 _ _ _ (Nat.le_of_ble_eq_true rfl) (Nat.le_of_ble_eq_true rfl) ?_
  show Z 0 0 7 _ _ [.int (nI 24), .ref 0]
  refine o.2.2.2.1 0 0 7 24 _ _ _ rfl (Nat.le_of_ble_eq_true rfl) (Nat.le_of_ble_eq_true rfl) (Nat.le_of_ble_eq_true rfl) (zcW_of rfl) (zcL_of rfl) (zcS_of rfl) (Nat.le_of_ble_eq_true rfl) (Nat.le_of_ble_eq_true rfl) ?_
  show Z 1 24 9 [.inr (.inr (1, [.null, .int 0, .int 0])), .inl (0, 24, fun _ => 0)] _ [.ref 1, .ref 0]
  refine o.2.2.1 1 24 9 9 1 0 0 (RX1, TX1, 3) [.null, .int 0, .int 0] _ (.array .int) _ _ _ rfl (zPw_of tbX1 (ci := 1) (j := 0) rfl rfl rfl rfl (by decide +kernel)) rfl (zft_ar .int 1) (Nat.le_of_ble_eq_true rfl) ?_
  show Z 1 24 12 [.inr (.inr (1, [.ref 1, .int 0, .int 0])), .inl (0, 24, fun _ => 0)] _ []
  exact o.1 1 24 100 [] 12 _ _ _ (Nat.le_of_ble_eq_true rfl) (Nat.le_of_ble_eq_true rfl) ⟨rfl, (Nat.le_of_ble_eq_true rfl), rfl, rfl⟩
end CON
end
section
/-! the constructor of the class -/
section CON3
variable {l : Launch} {D : va_G} {C : zC}
def sgN (N : Nat) : Nat → Nat := fun i => if i < 1 then i + N else i
theorem sgN_lt {N k : Nat} (h : k < 1) : sgN N k = k + N := if_pos h
theorem sgN_F {N i : Nat} (h : zfo i) : sgN N i = i := if_neg (by have := h.1; unfold zBIG at this; omega)
theorem sgN_inj {i j : Nat} (hi : i < 1) (hj : j < 1) : i = j := by omega
theorem zsg_N {N k : Nat} (h : k + N < zBIG) : zsg (sgN N) 1 (N + 1) k = k + N := by
  by_cases h1 : k < 1
  · rw [zsg_lo h1, sgN_lt h1]
  · rw [zsg_hi (by omega) (by omega) (by omega)]; omega
theorem zplA_tail {front : zS} {x : zE} {w w' : zS} {N : Nat} (hN : front.length = N) (hw : 1 ≤ w.length) (hB : N + w.length ≤ zBIG) (hw' : w'.length = w.length) (h : ∀ (k : Nat) (y : zE), w[k]? = some y → w'[k]? = some (zr (zsg (sgN N) 1 (N + 1)) y)) : zplA (sgN N) (front ++ [x]) 1 w (front ++ w') := by
  subst hN
  have hl : (front ++ [x]).length = front.length + 1 := by simp
  unfold zplA
  rw [hl]
  refine ⟨by rw [List.length_append, hw']; omega, fun k y hy => ?_, fun i hi hne => ?_⟩
  · have hk : k < w.length := (List.getElem?_eq_some_iff.mp hy).1
    rw [zsg_N (by omega), List.getElem?_append_right (by omega), Nat.add_sub_cancel]
    exact h k y hy
  · have h1 : ¬ sgN front.length 0 = i := hne 0 (by omega)
    rw [sgN_lt (by omega)] at h1
    rw [List.getElem?_append_left (by omega), List.getElem?_append_left (by omega)]
theorem zNw_X0 : zNw RX3 7 0 (RX0, TX0, 19) [.int 0, .null, .int 0, .null, .int 0, .int 0, .null, .int 0, .null, .null, .null, .null, .int 0, .int 0, .int 0, .null, .null, .null, .null] := ⟨⟨zin_mem (h := 70) (by decide +kernel), zin_mem (h := 71) (by decide +kernel), zin_mem (h := 55) (by decide +kernel)⟩, rfl, by decide +kernel, by simp⟩
theorem zNw_X1 : zNw RX3 29 1 (RX1, TX1, 3) [.null, .int 0, .int 0] := ⟨⟨zin_mem (h := 150) (by decide +kernel), zin_mem (h := 151) (by decide +kernel), zin_mem (h := 56) (by decide +kernel)⟩, rfl, by decide +kernel, by simp⟩
def yam0 : zY := (fun _ => isl0, fun _ _ => 0, fun _ => 0)
theorem isl_ren (N : Nat) (hN : N = 1 ∨ N = 13 ∨ N = 25 ∨ N = 37) : ∀ (k : Nat) (y : zE), (isl 0 53 isl0)[k]? = some y → (isl N 53 isl0)[k]? = some (zr (zsg (sgN N) 1 (N + 1)) y) := by
  intro k y hy
  have hk : k < 12 := (List.getElem?_eq_some_iff.mp hy).1
  rcases hN with rfl | rfl | rfl | rfl <;> (match k, hk with
    | 0, _ => cases hy; rfl
    | 1, _ => cases hy; rfl
    | 2, _ => cases hy; rfl
    | 3, _ => cases hy; rfl
    | 4, _ => cases hy; rfl
    | 5, _ => cases hy; rfl
    | 6, _ => cases hy; rfl
    | 7, _ => cases hy; rfl
    | 8, _ => cases hy; rfl
    | 9, _ => cases hy; rfl
    | 10, _ => cases hy; rfl
    | 11, _ => cases hy; rfl)
set_option maxRecDepth 20000 in
theorem c_yam_init : zFunB l D C yX3_init cX3_init 1 none (zRA 2 52 598) [.ref 0] [.inr (.inr (3, [.null, .null, .null, .null, .null, .null, .null, .int 0]))] (fun w rv => w = yamW 53 yam0 ∧ rv = none) := by
  refine zFunC_of (by decide) rfl oX3_init tbX3 (Nat.le_of_ble_eq_true rfl) (fun Z o oN => ?_)
  have oN := oN rfl
  refine o.1 0 0 100 [] 0 _ _ _ (Nat.zero_le _) (Nat.zero_le _) ?_
  show Z 0 0 1 _ _ [.ref 0]
  refine o.2.1 0 0 1 1 0 _ _ rfl (zin_mem (h := 67) (by decide +kernel)) (by omega) ?_
  refine o.1 0 0 100 [] 4 _ _ _ (Nat.le_of_ble_eq_true rfl) (Nat.le_of_ble_eq_true rfl) ?_
  show Z 0 0 5 ([.inr (.inr (3, [.null, .null, .null, .null, .null, .null, .null, .int 0]))]) _ [.ref 0]
  refine o.2.2.2.2.2.2 0 0 7 5 0 (RX0, TX0, 19) [.int 0, .null, .int 0, .null, .int 0, .int 0, .null, .int 0, .null, .null, .null, .null, .int 0, .int 0, .int 0, .null, .null, .null, .null] _ _ _ rfl zNw_X0 (Nat.le_of_ble_eq_true rfl) (Nat.le_of_ble_eq_true rfl) (zcW_of rfl) (zcL_of rfl) (zcS_of rfl) (Nat.le_of_ble_eq_true rfl) (Nat.le_of_ble_eq_true rfl) ?_
  show Z 1 19 8 ([.inr (.inr (3, [.null, .null, .null, .null, .null, .null, .null, .int 0]))] ++ [.inr (.inr (0, [.int 0, .null, .int 0, .null, .int 0, .int 0, .null, .int 0, .null, .null, .null, .null, .int 0, .int 0, .int 0, .null, .null, .null, .null]))]) _ [.ref 1, .ref 0]
  refine o.1 1 19 100 [] 8 _ _ _ (Nat.le_of_ble_eq_true rfl) (Nat.le_of_ble_eq_true rfl) ?_
  show Z 1 19 9 ([.inr (.inr (3, [.null, .null, .null, .null, .null, .null, .null, .int 0]))] ++ [.inr (.inr (0, [.int 0, .null, .int 0, .null, .int 0, .int 0, .null, .int 0, .null, .null, .null, .null, .int 0, .int 0, .int 0, .null, .null, .null, .null]))]) _ [.ref 1, .ref 1, .ref 0]
  refine oN 1 19 11 120 yX0_init cX0_init 1 0 9 9 1 (sgN 1) _ _ _ _ [] _ [.ref 1, .ref 0] 0 (Or.inl ⟨rfl, rfl⟩) ⟨zin_mem (h := 73) (by decide +kernel), zin_mem (h := 55) (by decide +kernel), zin_mem (h := 74) (by decide +kernel)⟩ (by decide +kernel) (c_isl_init (RB := 53)) ⟨fun k x hx => ?_, fun i j hi hj h => ?_⟩ (fun k hk => ?_) (fun _ h => sgN_F h) (Nat.le_of_ble_eq_true rfl) (Nat.le_of_ble_eq_true rfl) (zcW_of rfl) (zcL_of rfl) (zcS_of rfl) rfl rfl rfl (Nat.le_of_ble_eq_true rfl) (Nat.le_of_ble_eq_true rfl) (Nat.le_of_ble_eq_true rfl) (Nat.le_of_ble_eq_true rfl) (Nat.le_of_ble_eq_true rfl) (fun w rv _ hpo => ?_)
  · match k, hx with
    | 0, hx => cases hx; rfl
    | k + 1, hx => simp at hx
  · exact sgN_inj hi hj
  · have hk : k < 1 := hk
    rw [sgN_lt hk]
    show k + 1 < 2
    omega
  obtain ⟨rfl, rfl⟩ := hpo
  refine ⟨([.inr (.inr (3, [.null, .null, .null, .null, .null, .null, .null, .int 0]))]) ++ isl 1 53 isl0, zplA_tail (w := isl 0 53 isl0) (w' := isl 1 53 isl0) (N := 1) rfl (Nat.le_of_ble_eq_true rfl) (Nat.le_of_ble_eq_true rfl) rfl (isl_ren 1 (by decide)), (Nat.le_of_ble_eq_true rfl), ?_⟩
  show Z 12 139 12 ([.inr (.inr (3, [.null, .null, .null, .null, .null, .null, .null, .int 0]))] ++ isl 1 53 isl0) _ [.ref 1, .ref 0]
  refine o.2.2.1 12 139 10 12 3 0 0 (RX3, TX3, 8) [.null, .null, .null, .null, .null, .null, .null, .int 0] _ (.object RX0) _ _ _ rfl (zPw_of tbX3 (ci := 3) (j := 0) rfl rfl rfl rfl (by decide +kernel)) rfl (zft_ob RX0 1) (Nat.le_of_ble_eq_true rfl) ?_
  show Z 12 139 15 ([.inr (.inr (3, [.ref 1, .null, .null, .null, .null, .null, .null, .int 0]))] ++ isl 1 53 isl0) _ []
  refine o.1 12 139 100 [] 15 _ _ _ (Nat.le_of_ble_eq_true rfl) (Nat.le_of_ble_eq_true rfl) ?_
  show Z 12 139 16 ([.inr (.inr (3, [.ref 1, .null, .null, .null, .null, .null, .null, .int 0]))] ++ isl 1 53 isl0) _ [.ref 0]
  refine o.2.2.2.2.2.2 12 139 7 16 0 (RX0, TX0, 19) [.int 0, .null, .int 0, .null, .int 0, .int 0, .null, .int 0, .null, .null, .null, .null, .int 0, .int 0, .int 0, .null, .null, .null, .null] _ _ _ rfl zNw_X0 (Nat.le_of_ble_eq_true rfl) (Nat.le_of_ble_eq_true rfl) (zcW_of rfl) (zcL_of rfl) (zcS_of rfl) (Nat.le_of_ble_eq_true rfl) (Nat.le_of_ble_eq_true rfl) ?_
  show Z 13 158 19 ([.inr (.inr (3, [.ref 1, .null, .null, .null, .null, .null, .null, .int 0]))] ++ isl 1 53 isl0 ++ [.inr (.inr (0, [.int 0, .null, .int 0, .null, .int 0, .int 0, .null, .int 0, .null, .null, .null, .null, .int 0, .int 0, .int 0, .null, .null, .null, .null]))]) _ [.ref 13, .ref 0]
  refine o.1 13 158 100 [] 19 _ _ _ (Nat.le_of_ble_eq_true rfl) (Nat.le_of_ble_eq_true rfl) ?_
  show Z 13 158 20 ([.inr (.inr (3, [.ref 1, .null, .null, .null, .null, .null, .null, .int 0]))] ++ isl 1 53 isl0 ++ [.inr (.inr (0, [.int 0, .null, .int 0, .null, .int 0, .int 0, .null, .int 0, .null, .null, .null, .null, .int 0, .int 0, .int 0, .null, .null, .null, .null]))]) _ [.ref 13, .ref 13, .ref 0]
  refine oN 13 158 11 120 yX0_init cX0_init 1 0 9 20 1 (sgN 13) _ _ _ _ [] _ [.ref 13, .ref 0] 0 (Or.inl ⟨rfl, rfl⟩) ⟨zin_mem (h := 73) (by decide +kernel), zin_mem (h := 55) (by decide +kernel), zin_mem (h := 74) (by decide +kernel)⟩ (by decide +kernel) (c_isl_init (RB := 53)) ⟨fun k x hx => ?_, fun i j hi hj h => ?_⟩ (fun k hk => ?_) (fun _ h => sgN_F h) (Nat.le_of_ble_eq_true rfl) (Nat.le_of_ble_eq_true rfl) (zcW_of rfl) (zcL_of rfl) (zcS_of rfl) rfl rfl rfl (Nat.le_of_ble_eq_true rfl) (Nat.le_of_ble_eq_true rfl) (Nat.le_of_ble_eq_true rfl) (Nat.le_of_ble_eq_true rfl) (Nat.le_of_ble_eq_true rfl) (fun w rv _ hpo => ?_)
  · match k, hx with
    | 0, hx => cases hx; rfl
    | k + 1, hx => simp at hx
  · exact sgN_inj hi hj
  · have hk : k < 1 := hk
    rw [sgN_lt hk]
    show k + 13 < 14
    omega
  obtain ⟨rfl, rfl⟩ := hpo
  refine ⟨([.inr (.inr (3, [.ref 1, .null, .null, .null, .null, .null, .null, .int 0]))] ++ isl 1 53 isl0) ++ isl 13 53 isl0, zplA_tail (w := isl 0 53 isl0) (w' := isl 13 53 isl0) (N := 13) rfl (Nat.le_of_ble_eq_true rfl) (Nat.le_of_ble_eq_true rfl) rfl (isl_ren 13 (by decide)), (Nat.le_of_ble_eq_true rfl), ?_⟩
  show Z 24 278 23 ([.inr (.inr (3, [.ref 1, .null, .null, .null, .null, .null, .null, .int 0]))] ++ isl 1 53 isl0 ++ isl 13 53 isl0) _ [.ref 13, .ref 0]
  refine o.2.2.1 24 278 16 23 3 1 0 (RX3, TX3, 8) [.ref 1, .null, .null, .null, .null, .null, .null, .int 0] _ (.object RX0) _ _ _ rfl (zPw_of tbX3 (ci := 3) (j := 1) rfl rfl rfl rfl (by decide +kernel)) rfl (zft_ob RX0 13) (Nat.le_of_ble_eq_true rfl) ?_
  show Z 24 278 26 ([.inr (.inr (3, [.ref 1, .ref 13, .null, .null, .null, .null, .null, .int 0]))] ++ isl 1 53 isl0 ++ isl 13 53 isl0) _ []
  refine o.1 24 278 100 [] 26 _ _ _ (Nat.le_of_ble_eq_true rfl) (Nat.le_of_ble_eq_true rfl) ?_
  show Z 24 278 27 ([.inr (.inr (3, [.ref 1, .ref 13, .null, .null, .null, .null, .null, .int 0]))] ++ isl 1 53 isl0 ++ isl 13 53 isl0) _ [.ref 0]
  refine o.2.2.2.2.2.2 24 278 7 27 0 (RX0, TX0, 19) [.int 0, .null, .int 0, .null, .int 0, .int 0, .null, .int 0, .null, .null, .null, .null, .int 0, .int 0, .int 0, .null, .null, .null, .null] _ _ _ rfl zNw_X0 (Nat.le_of_ble_eq_true rfl) (Nat.le_of_ble_eq_true rfl) (zcW_of rfl) (zcL_of rfl) (zcS_of rfl) (Nat.le_of_ble_eq_true rfl) (Nat.le_of_ble_eq_true rfl) ?_
  show Z 25 297 30 ([.inr (.inr (3, [.ref 1, .ref 13, .null, .null, .null, .null, .null, .int 0]))] ++ isl 1 53 isl0 ++ isl 13 53 isl0 ++ [.inr (.inr (0, [.int 0, .null, .int 0, .null, .int 0, .int 0, .null, .int 0, .null, .null, .null, .null, .int 0, .int 0, .int 0, .null, .null, .null, .null]))]) _ [.ref 25, .ref 0]
  refine o.1 25 297 100 [] 30 _ _ _ (Nat.le_of_ble_eq_true rfl) (Nat.le_of_ble_eq_true rfl) ?_
  show Z 25 297 31 ([.inr (.inr (3, [.ref 1, .ref 13, .null, .null, .null, .null, .null, .int 0]))] ++ isl 1 53 isl0 ++ isl 13 53 isl0 ++ [.inr (.inr (0, [.int 0, .null, .int 0, .null, .int 0, .int 0, .null, .int 0, .null, .null, .null, .null, .int 0, .int 0, .int 0, .null, .null, .null, .null]))]) _ [.ref 25, .ref 25, .ref 0]
  refine oN 25 297 11 120 yX0_init cX0_init 1 0 9 31 1 (sgN 25) _ _ _ _ [] _ [.ref 25, .ref 0] 0 (Or.inl ⟨rfl, rfl⟩) ⟨zin_mem (h := 73) (by decide +kernel), zin_mem (h := 55) (by decide +kernel), zin_mem (h := 74) (by decide +kernel)⟩ (by decide +kernel) (c_isl_init (RB := 53)) ⟨fun k x hx => ?_, fun i j hi hj h => ?_⟩ (fun k hk => ?_) (fun _ h => sgN_F h) (Nat.le_of_ble_eq_true rfl) (Nat.le_of_ble_eq_true rfl) (zcW_of rfl) (zcL_of rfl) (zcS_of rfl) rfl rfl rfl (Nat.le_of_ble_eq_true rfl) (Nat.le_of_ble_eq_true rfl) (Nat.le_of_ble_eq_true rfl) (Nat.le_of_ble_eq_true rfl) (Nat.le_of_ble_eq_true rfl) (fun w rv _ hpo => ?_)
  · match k, hx with
    | 0, hx => cases hx; rfl
    | k + 1, hx => simp at hx
  · exact sgN_inj hi hj
  · have hk : k < 1 := hk
    rw [sgN_lt hk]
    show k + 25 < 26
    omega
  obtain ⟨rfl, rfl⟩ := hpo
  refine ⟨([.inr (.inr (3, [.ref 1, .ref 13, .null, .null, .null, .null, .null, .int 0]))] ++ isl 1 53 isl0 ++ isl 13 53 isl0) ++ isl 25 53 isl0, zplA_tail (w := isl 0 53 isl0) (w' := isl 25 53 isl0) (N := 25) rfl (Nat.le_of_ble_eq_true rfl) (Nat.le_of_ble_eq_true rfl) rfl (isl_ren 25 (by decide)), (Nat.le_of_ble_eq_true rfl), ?_⟩
  show Z 36 417 34 ([.inr (.inr (3, [.ref 1, .ref 13, .null, .null, .null, .null, .null, .int 0]))] ++ isl 1 53 isl0 ++ isl 13 53 isl0 ++ isl 25 53 isl0) _ [.ref 25, .ref 0]
  refine o.2.2.1 36 417 19 34 3 2 0 (RX3, TX3, 8) [.ref 1, .ref 13, .null, .null, .null, .null, .null, .int 0] _ (.object RX0) _ _ _ rfl (zPw_of tbX3 (ci := 3) (j := 2) rfl rfl rfl rfl (by decide +kernel)) rfl (zft_ob RX0 25) (Nat.le_of_ble_eq_true rfl) ?_
  show Z 36 417 37 ([.inr (.inr (3, [.ref 1, .ref 13, .ref 25, .null, .null, .null, .null, .int 0]))] ++ isl 1 53 isl0 ++ isl 13 53 isl0 ++ isl 25 53 isl0) _ []
  refine o.1 36 417 100 [] 37 _ _ _ (Nat.le_of_ble_eq_true rfl) (Nat.le_of_ble_eq_true rfl) ?_
  show Z 36 417 38 ([.inr (.inr (3, [.ref 1, .ref 13, .ref 25, .null, .null, .null, .null, .int 0]))] ++ isl 1 53 isl0 ++ isl 13 53 isl0 ++ isl 25 53 isl0) _ [.ref 0]
  refine o.2.2.2.2.2.2 36 417 7 38 0 (RX0, TX0, 19) [.int 0, .null, .int 0, .null, .int 0, .int 0, .null, .int 0, .null, .null, .null, .null, .int 0, .int 0, .int 0, .null, .null, .null, .null] _ _ _ rfl zNw_X0 (Nat.le_of_ble_eq_true rfl) (Nat.le_of_ble_eq_true rfl) (zcW_of rfl) (zcL_of rfl) (zcS_of rfl) (Nat.le_of_ble_eq_true rfl) (Nat.le_of_ble_eq_true rfl) ?_
  show Z 37 436 41 ([.inr (.inr (3, [.ref 1, .ref 13, .ref 25, .null, .null, .null, .null, .int 0]))] ++ isl 1 53 isl0 ++ isl 13 53 isl0 ++ isl 25 53 isl0 ++ [.inr (.inr (0, [.int 0, .null, .int 0, .null, .int 0, .int 0, .null, .int 0, .null, .null, .null, .null, .int 0, .int 0, .int 0, .null, .null, .null, .null]))]) _ [.ref 37, .ref 0]
  refine o.1 37 436 100 [] 41 _ _ _ (Nat.le_of_ble_eq_true rfl) (Nat.le_of_ble_eq_true rfl) ?_
  show Z 37 436 42 ([.inr (.inr (3, [.ref 1, .ref 13, .ref 25, .null, .null, .null, .null, .int 0]))] ++ isl 1 53 isl0 ++ isl 13 53 isl0 ++ isl 25 53 isl0 ++ [.inr (.inr (0, [.int 0, .null, .int 0, .null, .int 0, .int 0, .null, .int 0, .null, .null, .null, .null, .int 0, .int 0, .int 0, .null, .null, .null, .null]))]) _ [.ref 37, .ref 37, .ref 0]
  refine oN 37 436 11 120 yX0_init cX0_init 1 0 9 42 1 (sgN 37) _ _ _ _ [] _ [.ref 37, .ref 0] 0 (Or.inl ⟨rfl, rfl⟩) ⟨zin_mem (h := 73) (by decide +kernel), zin_mem (h := 55) (by decide +kernel), zin_mem (h := 74) (by decide +kernel)⟩ (by decide +kernel) (c_isl_init (RB := 53)) ⟨fun k x hx => ?_, fun i j hi hj h => ?_⟩ (fun k hk => ?_) (fun _ h => sgN_F h) (Nat.le_of_ble_eq_true rfl) (Nat.le_of_ble_eq_true rfl) (zcW_of rfl) (zcL_of rfl) (zcS_of rfl) rfl rfl rfl (Nat.le_of_ble_eq_true rfl) (Nat.le_of_ble_eq_true rfl) (Nat.le_of_ble_eq_true rfl) (Nat.le_of_ble_eq_true rfl) (Nat.le_of_ble_eq_true rfl) (fun w rv _ hpo => ?_)
  · match k, hx with
    | 0, hx => cases hx; rfl
    | k + 1, hx => simp at hx
  · exact sgN_inj hi hj
  · have hk : k < 1 := hk
    rw [sgN_lt hk]
    show k + 37 < 38
    omega
  obtain ⟨rfl, rfl⟩ := hpo
  refine ⟨([.inr (.inr (3, [.ref 1, .ref 13, .ref 25, .null, .null, .null, .null, .int 0]))] ++ isl 1 53 isl0 ++ isl 13 53 isl0 ++ isl 25 53 isl0) ++ isl 37 53 isl0, zplA_tail (w := isl 0 53 isl0) (w' := isl 37 53 isl0) (N := 37) rfl (Nat.le_of_ble_eq_true rfl) (Nat.le_of_ble_eq_true rfl) rfl (isl_ren 37 (by decide)), (Nat.le_of_ble_eq_true rfl), ?_⟩
  show Z 48 556 45 ([.inr (.inr (3, [.ref 1, .ref 13, .ref 25, .null, .null, .null, .null, .int 0]))] ++ isl 1 53 isl0 ++ isl 13 53 isl0 ++ isl 25 53 isl0 ++ isl 37 53 isl0) _ [.ref 37, .ref 0]
  refine o.2.2.1 48 556 22 45 3 3 0 (RX3, TX3, 8) [.ref 1, .ref 13, .ref 25, .null, .null, .null, .null, .int 0] _ (.object RX0) _ _ _ rfl (zPw_of tbX3 (ci := 3) (j := 3) rfl rfl rfl rfl (by decide +kernel)) rfl (zft_ob RX0 37) (Nat.le_of_ble_eq_true rfl) ?_
  show Z 48 556 48 ([.inr (.inr (3, [.ref 1, .ref 13, .ref 25, .ref 37, .null, .null, .null, .int 0]))] ++ isl 1 53 isl0 ++ isl 13 53 isl0 ++ isl 25 53 isl0 ++ isl 37 53 isl0) _ []
  refine o.1 48 556 100 [] 48 _ _ _ (Nat.le_of_ble_eq_true rfl) (Nat.le_of_ble_eq_true rfl) ?_
  show Z 48 556 51 ([.inr (.inr (3, [.ref 1, .ref 13, .ref 25, .ref 37, .null, .null, .null, .int 0]))] ++ isl 1 53 isl0 ++ isl 13 53 isl0 ++ isl 25 53 isl0 ++ isl 37 53 isl0) _ [.int (nI 8), .ref 0]
  refine o.2.2.2.1 48 556 51 8 _ _ _ rfl (by decide) (Nat.le_of_ble_eq_true rfl) (Nat.le_of_ble_eq_true rfl) (zcW_of rfl) (zcL_of rfl) (zcS_of rfl) (Nat.le_of_ble_eq_true rfl) (Nat.le_of_ble_eq_true rfl) ?_
  show Z 49 564 53 ([.inr (.inr (3, [.ref 1, .ref 13, .ref 25, .ref 37, .null, .null, .null, .int 0]))] ++ isl 1 53 isl0 ++ isl 13 53 isl0 ++ isl 25 53 isl0 ++ isl 37 53 isl0 ++ [.inl (0, 8, fun _ => 0)]) _ [.ref 49, .ref 0]
  refine o.2.2.1 49 564 25 53 3 4 0 (RX3, TX3, 8) [.ref 1, .ref 13, .ref 25, .ref 37, .null, .null, .null, .int 0] _ (.array .int) _ _ _ rfl (zPw_of tbX3 (ci := 3) (j := 4) rfl rfl rfl rfl (by decide +kernel)) rfl (zft_ar .int 49) (Nat.le_of_ble_eq_true rfl) ?_
  show Z 49 564 56 ([.inr (.inr (3, [.ref 1, .ref 13, .ref 25, .ref 37, .ref 49, .null, .null, .int 0]))] ++ isl 1 53 isl0 ++ isl 13 53 isl0 ++ isl 25 53 isl0 ++ isl 37 53 isl0 ++ [.inl (0, 8, fun _ => 0)]) _ []
  refine o.1 49 564 100 [] 56 _ _ _ (Nat.le_of_ble_eq_true rfl) (Nat.le_of_ble_eq_true rfl) ?_
  show Z 49 564 57 ([.inr (.inr (3, [.ref 1, .ref 13, .ref 25, .ref 37, .ref 49, .null, .null, .int 0]))] ++ isl 1 53 isl0 ++ isl 13 53 isl0 ++ isl 25 53 isl0 ++ isl 37 53 isl0 ++ [.inl (0, 8, fun _ => 0)]) _ [.ref 0]
  refine o.2.2.2.2.2.2 49 564 29 57 1 (RX1, TX1, 3) [.null, .int 0, .int 0] _ _ _ rfl zNw_X1 (Nat.le_of_ble_eq_true rfl) (Nat.le_of_ble_eq_true rfl) (zcW_of rfl) (zcL_of rfl) (zcS_of rfl) (Nat.le_of_ble_eq_true rfl) (Nat.le_of_ble_eq_true rfl) ?_
  show Z 50 567 60 ([.inr (.inr (3, [.ref 1, .ref 13, .ref 25, .ref 37, .ref 49, .null, .null, .int 0]))] ++ isl 1 53 isl0 ++ isl 13 53 isl0 ++ isl 25 53 isl0 ++ isl 37 53 isl0 ++ [.inl (0, 8, fun _ => 0)] ++ [.inr (.inr (1, [.null, .int 0, .int 0]))]) _ [.ref 50, .ref 0]
  refine o.1 50 567 100 [] 60 _ _ _ (Nat.le_of_ble_eq_true rfl) (Nat.le_of_ble_eq_true rfl) ?_
  show Z 50 567 61 ([.inr (.inr (3, [.ref 1, .ref 13, .ref 25, .ref 37, .ref 49, .null, .null, .int 0]))] ++ isl 1 53 isl0 ++ isl 13 53 isl0 ++ isl 25 53 isl0 ++ isl 37 53 isl0 ++ [.inl (0, 8, fun _ => 0)] ++ [.inr (.inr (1, [.null, .int 0, .int 0]))]) _ [.ref 50, .ref 50, .ref 0]
  refine oN 50 567 1 24 yX1_init cX1_init 1 0 31 61 1 (sgN 50) _ _ _ _ [] _ [.ref 50, .ref 0] 0 (Or.inr ⟨rfl, rfl⟩) ⟨zin_mem (h := 153) (by decide +kernel), zin_mem (h := 56) (by decide +kernel), zin_mem (h := 154) (by decide +kernel)⟩ (by decide +kernel) c_rdr_init ⟨fun k x hx => ?_, fun i j hi hj h => ?_⟩ (fun k hk => ?_) (fun _ h => sgN_F h) (Nat.le_of_ble_eq_true rfl) (Nat.le_of_ble_eq_true rfl) (zcW_of rfl) (zcL_of rfl) (zcS_of rfl) rfl rfl rfl (Nat.le_of_ble_eq_true rfl) (Nat.le_of_ble_eq_true rfl) (Nat.le_of_ble_eq_true rfl) (Nat.le_of_ble_eq_true rfl) (Nat.le_of_ble_eq_true rfl) (fun w rv _ hpo => ?_)
  · match k, hx with
    | 0, hx => cases hx; rfl
    | k + 1, hx => simp at hx
  · exact sgN_inj hi hj
  · have hk : k < 1 := hk
    rw [sgN_lt hk]
    show k + 50 < 51
    omega
  obtain ⟨rfl, rfl⟩ := hpo
  refine ⟨([.inr (.inr (3, [.ref 1, .ref 13, .ref 25, .ref 37, .ref 49, .null, .null, .int 0]))] ++ isl 1 53 isl0 ++ isl 13 53 isl0 ++ isl 25 53 isl0 ++ isl 37 53 isl0 ++ [.inl (0, 8, fun _ => 0)]) ++ [.inr (.inr (1, [.ref 51, .int 0, .int 0])), .inl (0, 24, fun _ => 0)], zplA_tail (w := rdr (fun _ => 0) 0 0) (w' := [.inr (.inr (1, [.ref 51, .int 0, .int 0])), .inl (0, 24, fun _ => 0)]) (N := 50) rfl (Nat.le_of_ble_eq_true rfl) (Nat.le_of_ble_eq_true rfl) rfl (fun k y hy => ?_), (Nat.le_of_ble_eq_true rfl), ?_⟩
  · match k, hy with
    | 0, hy => cases hy; rfl
    | 1, hy => cases hy; rfl
    | k + 2, hy => simp [rdr] at hy
  show Z 51 591 64 ([.inr (.inr (3, [.ref 1, .ref 13, .ref 25, .ref 37, .ref 49, .null, .null, .int 0]))] ++ isl 1 53 isl0 ++ isl 13 53 isl0 ++ isl 25 53 isl0 ++ isl 37 53 isl0 ++ [.inl (0, 8, fun _ => 0)] ++ [.inr (.inr (1, [.ref 51, .int 0, .int 0])), .inl (0, 24, fun _ => 0)]) _ [.ref 50, .ref 0]
  refine o.2.2.1 51 591 32 64 3 5 0 (RX3, TX3, 8) [.ref 1, .ref 13, .ref 25, .ref 37, .ref 49, .null, .null, .int 0] _ (.object RX1) _ _ _ rfl (zPw_of tbX3 (ci := 3) (j := 5) rfl rfl rfl rfl (by decide +kernel)) rfl (zft_ob RX1 50) (Nat.le_of_ble_eq_true rfl) ?_
  show Z 51 591 67 ([.inr (.inr (3, [.ref 1, .ref 13, .ref 25, .ref 37, .ref 49, .ref 50, .null, .int 0]))] ++ isl 1 53 isl0 ++ isl 13 53 isl0 ++ isl 25 53 isl0 ++ isl 37 53 isl0 ++ [.inl (0, 8, fun _ => 0)] ++ [.inr (.inr (1, [.ref 51, .int 0, .int 0])), .inl (0, 24, fun _ => 0)]) _ []
  refine o.1 51 591 100 [] 67 _ _ _ (Nat.le_of_ble_eq_true rfl) (Nat.le_of_ble_eq_true rfl) ?_
  show Z 51 591 70 ([.inr (.inr (3, [.ref 1, .ref 13, .ref 25, .ref 37, .ref 49, .ref 50, .null, .int 0]))] ++ isl 1 53 isl0 ++ isl 13 53 isl0 ++ isl 25 53 isl0 ++ isl 37 53 isl0 ++ [.inl (0, 8, fun _ => 0)] ++ [.inr (.inr (1, [.ref 51, .int 0, .int 0])), .inl (0, 24, fun _ => 0)]) _ [.int (nI 7), .ref 0]
  refine o.2.2.2.1 51 591 70 7 _ _ _ rfl (by decide) (Nat.le_of_ble_eq_true rfl) (Nat.le_of_ble_eq_true rfl) (zcW_of rfl) (zcL_of rfl) (zcS_of rfl) (Nat.le_of_ble_eq_true rfl) (Nat.le_of_ble_eq_true rfl) ?_
  show Z 52 598 72 ([.inr (.inr (3, [.ref 1, .ref 13, .ref 25, .ref 37, .ref 49, .ref 50, .null, .int 0]))] ++ isl 1 53 isl0 ++ isl 13 53 isl0 ++ isl 25 53 isl0 ++ isl 37 53 isl0 ++ [.inl (0, 8, fun _ => 0)] ++ [.inr (.inr (1, [.ref 51, .int 0, .int 0])), .inl (0, 24, fun _ => 0)] ++ [.inl (0, 7, fun _ => 0)]) _ [.ref 52, .ref 0]
  refine o.2.2.1 52 598 36 72 3 6 0 (RX3, TX3, 8) [.ref 1, .ref 13, .ref 25, .ref 37, .ref 49, .ref 50, .null, .int 0] _ (.array .int) _ _ _ rfl (zPw_of tbX3 (ci := 3) (j := 6) rfl rfl rfl rfl (by decide +kernel)) rfl (zft_ar .int 52) (Nat.le_of_ble_eq_true rfl) ?_
  show Z 52 598 75 ([.inr (.inr (3, [.ref 1, .ref 13, .ref 25, .ref 37, .ref 49, .ref 50, .ref 52, .int 0]))] ++ isl 1 53 isl0 ++ isl 13 53 isl0 ++ isl 25 53 isl0 ++ isl 37 53 isl0 ++ [.inl (0, 8, fun _ => 0)] ++ [.inr (.inr (1, [.ref 51, .int 0, .int 0])), .inl (0, 24, fun _ => 0)] ++ [.inl (0, 7, fun _ => 0)]) _ []
  exact o.1 52 598 100 [] 75 _ _ _ (Nat.le_of_ble_eq_true rfl) (Nat.le_of_ble_eq_true rfl) ⟨rfl, (Nat.le_of_ble_eq_true rfl), rfl, rfl⟩
end CON3
end
section
/-! the reference: its world, its constructor -/
section CON2
variable {l : Launch} {D : va_G} {C : zC}
/-- the reference: numbers (by the fields' order: 0 ways, 3 skyMany, 4 people, 9 show, 10 year, 11 rules, 18 textMany, 20 at, 21 end, 22 isBad, 23 knots, 26 opens, 30 runShow, 31 runBlind, 32 runLong, 33 runX, 34 runY, 37 runWrong, 38 runAlike, 39 hasImage, 41 imageAt, 42 isTaking), rows (1 brings, 2 sky, 3 wayOf, 4 ruleOf, 5 seesOf, 6 brought, 7 roots, 8 knotKind, 9 knotK, 10 knotOne, 11 knotOther, 12 text, 13 refused, 14 openAt, 15 isSecond, 16 runWay, 17 runRule, 18 runSees, 19 runGain, 20 nextWay, 21 imaged) -/
abbrev zM : Type := (Nat → Int32) × (Nat → Nat → Int32)
def mdW (b : Nat) (M : zM) : zS := [.inr (.inr (4, [.int (M.1 0), .ref (b + 1), .ref (b + 2), .int (M.1 3), .int (M.1 4), .ref (b + 3), .ref (b + 4), .ref (b + 5), .ref (b + 6), .int (M.1 9), .int (M.1 10), .int (M.1 11), .ref (b + 7), .ref (b + 8), .ref (b + 9), .ref (b + 10), .ref (b + 11), .ref (b + 12), .int (M.1 18), .ref (b + 13), .int (M.1 20), .int (M.1 21), .int (M.1 22), .int (M.1 23), .ref (b + 14), .ref (b + 15), .int (M.1 26), .ref (b + 16), .ref (b + 17), .ref (b + 18), .int (M.1 30), .int (M.1 31), .int (M.1 32), .int (M.1 33), .int (M.1 34), .ref (b + 19), .ref (b + 20), .int (M.1 37), .int (M.1 38), .int (M.1 39), .ref (b + 21), .int (M.1 41), .int (M.1 42)])), .inl (0, 24, M.2 1), .inl (0, 24, M.2 2), .inl (0, 8, M.2 3), .inl (0, 8, M.2 4), .inl (0, 8, M.2 5), .inl (0, 8, M.2 6), .inl (0, 10, M.2 7), .inl (0, 240, M.2 8), .inl (0, 240, M.2 9), .inl (0, 240, M.2 10), .inl (0, 240, M.2 11), .inl (0, 24, M.2 12), .inl (0, 7, M.2 13), .inl (0, 5, M.2 14), .inl (1, 5, M.2 15), .inl (0, 8, M.2 16), .inl (0, 8, M.2 17), .inl (0, 8, M.2 18), .inl (0, 8, M.2 19), .inl (0, 8, M.2 20), .inl (0, 1100, M.2 21)]
def md0 : zM := (fun k => if k = 3 then nI 1 else 0, fun _ _ => 0)
set_option maxRecDepth 20000 in
theorem c_md_init : zFunB l D C yX4_init cX4_init 1 none (zRA 1 21 2231) [.ref 0] [.inr (.inr (4, [.int 0, .null, .null, .int 0, .int 0, .null, .null, .null, .null, .int 0, .int 0, .int 0, .null, .null, .null, .null, .null, .null, .int 0, .null, .int 0, .int 0, .int 0, .int 0, .null, .null, .int 0, .null, .null, .null, .int 0, .int 0, .int 0, .int 0, .int 0, .null, .null, .int 0, .int 0, .int 0, .null, .int 0, .int 0]))] (fun w rv => w = mdW 0 md0 ∧ rv = none) := by
  refine zFunC_of (by decide) rfl oX4_init tbX4 (Nat.le_of_ble_eq_true rfl) (fun Z o _ => ?_)
  refine o.1 0 0 100 [] 0 _ _ _ (Nat.zero_le _) (Nat.zero_le _) ?_
  show Z 0 0 1 _ _ [.ref 0]
  refine o.2.1 0 0 1 1 0 _ _ rfl (zin_mem (h := 565) (by decide +kernel)) (by omega) ?_
  refine o.1 0 0 100 [] 4 _ _ _ (Nat.le_of_ble_eq_true rfl) (Nat.le_of_ble_eq_true rfl) ?_
  show Z 0 0 7 _ _ [.int (nI 24), .ref 0]
  refine o.2.2.2.1 0 0 7 24 _ _ _ rfl (Nat.le_of_ble_eq_true rfl) (Nat.le_of_ble_eq_true rfl) (Nat.le_of_ble_eq_true rfl) (zcW_of rfl) (zcL_of rfl) (zcS_of rfl) (Nat.le_of_ble_eq_true rfl) (Nat.le_of_ble_eq_true rfl) ?_
  show Z 1 24 9 [.inr (.inr (4, [.int 0, .null, .null, .int 0, .int 0, .null, .null, .null, .null, .int 0, .int 0, .int 0, .null, .null, .null, .null, .null, .null, .int 0, .null, .int 0, .int 0, .int 0, .int 0, .null, .null, .int 0, .null, .null, .null, .int 0, .int 0, .int 0, .int 0, .int 0, .null, .null, .int 0, .int 0, .int 0, .null, .int 0, .int 0])), .inl (0, 24, fun _ => 0)] _ [.ref 1, .ref 0]
  refine o.2.2.1 1 24 7 9 4 1 0 (RX4, TX4, 43) [.int 0, .null, .null, .int 0, .int 0, .null, .null, .null, .null, .int 0, .int 0, .int 0, .null, .null, .null, .null, .null, .null, .int 0, .null, .int 0, .int 0, .int 0, .int 0, .null, .null, .int 0, .null, .null, .null, .int 0, .int 0, .int 0, .int 0, .int 0, .null, .null, .int 0, .int 0, .int 0, .null, .int 0, .int 0] _ (.array .int) _ _ _ rfl (zPw_of tbX4 (ci := 4) (j := 1) rfl rfl rfl rfl (by decide +kernel)) rfl (zft_ar .int 1) (Nat.le_of_ble_eq_true rfl) ?_
  show Z 1 24 12 [.inr (.inr (4, [.int 0, .ref 1, .null, .int 0, .int 0, .null, .null, .null, .null, .int 0, .int 0, .int 0, .null, .null, .null, .null, .null, .null, .int 0, .null, .int 0, .int 0, .int 0, .int 0, .null, .null, .int 0, .null, .null, .null, .int 0, .int 0, .int 0, .int 0, .int 0, .null, .null, .int 0, .int 0, .int 0, .null, .int 0, .int 0])), .inl (0, 24, fun _ => 0)] _ []
  refine o.1 1 24 100 [] 12 _ _ _ (Nat.le_of_ble_eq_true rfl) (Nat.le_of_ble_eq_true rfl) ?_
  show Z 1 24 15 _ _ [.int (nI 24), .ref 0]
  refine o.2.2.2.1 1 24 15 24 _ _ _ rfl (Nat.le_of_ble_eq_true rfl) (Nat.le_of_ble_eq_true rfl) (Nat.le_of_ble_eq_true rfl) (zcW_of rfl) (zcL_of rfl) (zcS_of rfl) (Nat.le_of_ble_eq_true rfl) (Nat.le_of_ble_eq_true rfl) ?_
  show Z 2 48 17 [.inr (.inr (4, [.int 0, .ref 1, .null, .int 0, .int 0, .null, .null, .null, .null, .int 0, .int 0, .int 0, .null, .null, .null, .null, .null, .null, .int 0, .null, .int 0, .int 0, .int 0, .int 0, .null, .null, .int 0, .null, .null, .null, .int 0, .int 0, .int 0, .int 0, .int 0, .null, .null, .int 0, .int 0, .int 0, .null, .int 0, .int 0])), .inl (0, 24, fun _ => 0), .inl (0, 24, fun _ => 0)] _ [.ref 2, .ref 0]
  refine o.2.2.1 2 48 13 17 4 2 0 (RX4, TX4, 43) [.int 0, .ref 1, .null, .int 0, .int 0, .null, .null, .null, .null, .int 0, .int 0, .int 0, .null, .null, .null, .null, .null, .null, .int 0, .null, .int 0, .int 0, .int 0, .int 0, .null, .null, .int 0, .null, .null, .null, .int 0, .int 0, .int 0, .int 0, .int 0, .null, .null, .int 0, .int 0, .int 0, .null, .int 0, .int 0] _ (.array .int) _ _ _ rfl (zPw_of tbX4 (ci := 4) (j := 2) rfl rfl rfl rfl (by decide +kernel)) rfl (zft_ar .int 2) (Nat.le_of_ble_eq_true rfl) ?_
  show Z 2 48 20 [.inr (.inr (4, [.int 0, .ref 1, .ref 2, .int 0, .int 0, .null, .null, .null, .null, .int 0, .int 0, .int 0, .null, .null, .null, .null, .null, .null, .int 0, .null, .int 0, .int 0, .int 0, .int 0, .null, .null, .int 0, .null, .null, .null, .int 0, .int 0, .int 0, .int 0, .int 0, .null, .null, .int 0, .int 0, .int 0, .null, .int 0, .int 0])), .inl (0, 24, fun _ => 0), .inl (0, 24, fun _ => 0)] _ []
  refine o.1 2 48 100 [25] 20 _ _ _ (Nat.le_of_ble_eq_true rfl) (Nat.le_of_ble_eq_true rfl) ?_
  show Z 2 48 25 [.inr (.inr (4, [.int 0, .ref 1, .ref 2, .int (nI 1), .int 0, .null, .null, .null, .null, .int 0, .int 0, .int 0, .null, .null, .null, .null, .null, .null, .int 0, .null, .int 0, .int 0, .int 0, .int 0, .null, .null, .int 0, .null, .null, .null, .int 0, .int 0, .int 0, .int 0, .int 0, .null, .null, .int 0, .int 0, .int 0, .null, .int 0, .int 0])), .inl (0, 24, fun _ => 0), .inl (0, 24, fun _ => 0)] _ []
  refine o.1 2 48 100 [] 25 _ _ _ (Nat.le_of_ble_eq_true rfl) (Nat.le_of_ble_eq_true rfl) ?_
  show Z 2 48 28 _ _ [.int (nI 8), .ref 0]
  refine o.2.2.2.1 2 48 28 8 _ _ _ rfl (Nat.le_of_ble_eq_true rfl) (Nat.le_of_ble_eq_true rfl) (Nat.le_of_ble_eq_true rfl) (zcW_of rfl) (zcL_of rfl) (zcS_of rfl) (Nat.le_of_ble_eq_true rfl) (Nat.le_of_ble_eq_true rfl) ?_
  show Z 3 56 30 [.inr (.inr (4, [.int 0, .ref 1, .ref 2, .int (nI 1), .int 0, .null, .null, .null, .null, .int 0, .int 0, .int 0, .null, .null, .null, .null, .null, .null, .int 0, .null, .int 0, .int 0, .int 0, .int 0, .null, .null, .int 0, .null, .null, .null, .int 0, .int 0, .int 0, .int 0, .int 0, .null, .null, .int 0, .int 0, .int 0, .null, .int 0, .int 0])), .inl (0, 24, fun _ => 0), .inl (0, 24, fun _ => 0), .inl (0, 8, fun _ => 0)] _ [.ref 3, .ref 0]
  refine o.2.2.1 3 56 20 30 4 5 0 (RX4, TX4, 43) [.int 0, .ref 1, .ref 2, .int (nI 1), .int 0, .null, .null, .null, .null, .int 0, .int 0, .int 0, .null, .null, .null, .null, .null, .null, .int 0, .null, .int 0, .int 0, .int 0, .int 0, .null, .null, .int 0, .null, .null, .null, .int 0, .int 0, .int 0, .int 0, .int 0, .null, .null, .int 0, .int 0, .int 0, .null, .int 0, .int 0] _ (.array .int) _ _ _ rfl (zPw_of tbX4 (ci := 4) (j := 5) rfl rfl rfl rfl (by decide +kernel)) rfl (zft_ar .int 3) (Nat.le_of_ble_eq_true rfl) ?_
  show Z 3 56 33 [.inr (.inr (4, [.int 0, .ref 1, .ref 2, .int (nI 1), .int 0, .ref 3, .null, .null, .null, .int 0, .int 0, .int 0, .null, .null, .null, .null, .null, .null, .int 0, .null, .int 0, .int 0, .int 0, .int 0, .null, .null, .int 0, .null, .null, .null, .int 0, .int 0, .int 0, .int 0, .int 0, .null, .null, .int 0, .int 0, .int 0, .null, .int 0, .int 0])), .inl (0, 24, fun _ => 0), .inl (0, 24, fun _ => 0), .inl (0, 8, fun _ => 0)] _ []
  refine o.1 3 56 100 [] 33 _ _ _ (Nat.le_of_ble_eq_true rfl) (Nat.le_of_ble_eq_true rfl) ?_
  show Z 3 56 36 _ _ [.int (nI 8), .ref 0]
  refine o.2.2.2.1 3 56 36 8 _ _ _ rfl (Nat.le_of_ble_eq_true rfl) (Nat.le_of_ble_eq_true rfl) (Nat.le_of_ble_eq_true rfl) (zcW_of rfl) (zcL_of rfl) (zcS_of rfl) (Nat.le_of_ble_eq_true rfl) (Nat.le_of_ble_eq_true rfl) ?_
  show Z 4 64 38 [.inr (.inr (4, [.int 0, .ref 1, .ref 2, .int (nI 1), .int 0, .ref 3, .null, .null, .null, .int 0, .int 0, .int 0, .null, .null, .null, .null, .null, .null, .int 0, .null, .int 0, .int 0, .int 0, .int 0, .null, .null, .int 0, .null, .null, .null, .int 0, .int 0, .int 0, .int 0, .int 0, .null, .null, .int 0, .int 0, .int 0, .null, .int 0, .int 0])), .inl (0, 24, fun _ => 0), .inl (0, 24, fun _ => 0), .inl (0, 8, fun _ => 0), .inl (0, 8, fun _ => 0)] _ [.ref 4, .ref 0]
  refine o.2.2.1 4 64 23 38 4 6 0 (RX4, TX4, 43) [.int 0, .ref 1, .ref 2, .int (nI 1), .int 0, .ref 3, .null, .null, .null, .int 0, .int 0, .int 0, .null, .null, .null, .null, .null, .null, .int 0, .null, .int 0, .int 0, .int 0, .int 0, .null, .null, .int 0, .null, .null, .null, .int 0, .int 0, .int 0, .int 0, .int 0, .null, .null, .int 0, .int 0, .int 0, .null, .int 0, .int 0] _ (.array .int) _ _ _ rfl (zPw_of tbX4 (ci := 4) (j := 6) rfl rfl rfl rfl (by decide +kernel)) rfl (zft_ar .int 4) (Nat.le_of_ble_eq_true rfl) ?_
  show Z 4 64 41 [.inr (.inr (4, [.int 0, .ref 1, .ref 2, .int (nI 1), .int 0, .ref 3, .ref 4, .null, .null, .int 0, .int 0, .int 0, .null, .null, .null, .null, .null, .null, .int 0, .null, .int 0, .int 0, .int 0, .int 0, .null, .null, .int 0, .null, .null, .null, .int 0, .int 0, .int 0, .int 0, .int 0, .null, .null, .int 0, .int 0, .int 0, .null, .int 0, .int 0])), .inl (0, 24, fun _ => 0), .inl (0, 24, fun _ => 0), .inl (0, 8, fun _ => 0), .inl (0, 8, fun _ => 0)] _ []
  refine o.1 4 64 100 [] 41 _ _ _ (Nat.le_of_ble_eq_true rfl) (Nat.le_of_ble_eq_true rfl) ?_
  show Z 4 64 44 _ _ [.int (nI 8), .ref 0]
  refine o.2.2.2.1 4 64 44 8 _ _ _ rfl (Nat.le_of_ble_eq_true rfl) (Nat.le_of_ble_eq_true rfl) (Nat.le_of_ble_eq_true rfl) (zcW_of rfl) (zcL_of rfl) (zcS_of rfl) (Nat.le_of_ble_eq_true rfl) (Nat.le_of_ble_eq_true rfl) ?_
  show Z 5 72 46 [.inr (.inr (4, [.int 0, .ref 1, .ref 2, .int (nI 1), .int 0, .ref 3, .ref 4, .null, .null, .int 0, .int 0, .int 0, .null, .null, .null, .null, .null, .null, .int 0, .null, .int 0, .int 0, .int 0, .int 0, .null, .null, .int 0, .null, .null, .null, .int 0, .int 0, .int 0, .int 0, .int 0, .null, .null, .int 0, .int 0, .int 0, .null, .int 0, .int 0])), .inl (0, 24, fun _ => 0), .inl (0, 24, fun _ => 0), .inl (0, 8, fun _ => 0), .inl (0, 8, fun _ => 0), .inl (0, 8, fun _ => 0)] _ [.ref 5, .ref 0]
  refine o.2.2.1 5 72 26 46 4 7 0 (RX4, TX4, 43) [.int 0, .ref 1, .ref 2, .int (nI 1), .int 0, .ref 3, .ref 4, .null, .null, .int 0, .int 0, .int 0, .null, .null, .null, .null, .null, .null, .int 0, .null, .int 0, .int 0, .int 0, .int 0, .null, .null, .int 0, .null, .null, .null, .int 0, .int 0, .int 0, .int 0, .int 0, .null, .null, .int 0, .int 0, .int 0, .null, .int 0, .int 0] _ (.array .int) _ _ _ rfl (zPw_of tbX4 (ci := 4) (j := 7) rfl rfl rfl rfl (by decide +kernel)) rfl (zft_ar .int 5) (Nat.le_of_ble_eq_true rfl) ?_
  show Z 5 72 49 [.inr (.inr (4, [.int 0, .ref 1, .ref 2, .int (nI 1), .int 0, .ref 3, .ref 4, .ref 5, .null, .int 0, .int 0, .int 0, .null, .null, .null, .null, .null, .null, .int 0, .null, .int 0, .int 0, .int 0, .int 0, .null, .null, .int 0, .null, .null, .null, .int 0, .int 0, .int 0, .int 0, .int 0, .null, .null, .int 0, .int 0, .int 0, .null, .int 0, .int 0])), .inl (0, 24, fun _ => 0), .inl (0, 24, fun _ => 0), .inl (0, 8, fun _ => 0), .inl (0, 8, fun _ => 0), .inl (0, 8, fun _ => 0)] _ []
  refine o.1 5 72 100 [] 49 _ _ _ (Nat.le_of_ble_eq_true rfl) (Nat.le_of_ble_eq_true rfl) ?_
  show Z 5 72 52 _ _ [.int (nI 8), .ref 0]
  refine o.2.2.2.1 5 72 52 8 _ _ _ rfl (Nat.le_of_ble_eq_true rfl) (Nat.le_of_ble_eq_true rfl) (Nat.le_of_ble_eq_true rfl) (zcW_of rfl) (zcL_of rfl) (zcS_of rfl) (Nat.le_of_ble_eq_true rfl) (Nat.le_of_ble_eq_true rfl) ?_
  show Z 6 80 54 [.inr (.inr (4, [.int 0, .ref 1, .ref 2, .int (nI 1), .int 0, .ref 3, .ref 4, .ref 5, .null, .int 0, .int 0, .int 0, .null, .null, .null, .null, .null, .null, .int 0, .null, .int 0, .int 0, .int 0, .int 0, .null, .null, .int 0, .null, .null, .null, .int 0, .int 0, .int 0, .int 0, .int 0, .null, .null, .int 0, .int 0, .int 0, .null, .int 0, .int 0])), .inl (0, 24, fun _ => 0), .inl (0, 24, fun _ => 0), .inl (0, 8, fun _ => 0), .inl (0, 8, fun _ => 0), .inl (0, 8, fun _ => 0), .inl (0, 8, fun _ => 0)] _ [.ref 6, .ref 0]
  refine o.2.2.1 6 80 29 54 4 8 0 (RX4, TX4, 43) [.int 0, .ref 1, .ref 2, .int (nI 1), .int 0, .ref 3, .ref 4, .ref 5, .null, .int 0, .int 0, .int 0, .null, .null, .null, .null, .null, .null, .int 0, .null, .int 0, .int 0, .int 0, .int 0, .null, .null, .int 0, .null, .null, .null, .int 0, .int 0, .int 0, .int 0, .int 0, .null, .null, .int 0, .int 0, .int 0, .null, .int 0, .int 0] _ (.array .int) _ _ _ rfl (zPw_of tbX4 (ci := 4) (j := 8) rfl rfl rfl rfl (by decide +kernel)) rfl (zft_ar .int 6) (Nat.le_of_ble_eq_true rfl) ?_
  show Z 6 80 57 [.inr (.inr (4, [.int 0, .ref 1, .ref 2, .int (nI 1), .int 0, .ref 3, .ref 4, .ref 5, .ref 6, .int 0, .int 0, .int 0, .null, .null, .null, .null, .null, .null, .int 0, .null, .int 0, .int 0, .int 0, .int 0, .null, .null, .int 0, .null, .null, .null, .int 0, .int 0, .int 0, .int 0, .int 0, .null, .null, .int 0, .int 0, .int 0, .null, .int 0, .int 0])), .inl (0, 24, fun _ => 0), .inl (0, 24, fun _ => 0), .inl (0, 8, fun _ => 0), .inl (0, 8, fun _ => 0), .inl (0, 8, fun _ => 0), .inl (0, 8, fun _ => 0)] _ []
  refine o.1 6 80 100 [] 57 _ _ _ (Nat.le_of_ble_eq_true rfl) (Nat.le_of_ble_eq_true rfl) ?_
  show Z 6 80 60 _ _ [.int (nI 10), .ref 0]
  refine o.2.2.2.1 6 80 60 10 _ _ _ rfl (Nat.le_of_ble_eq_true rfl) (Nat.le_of_ble_eq_true rfl) (Nat.le_of_ble_eq_true rfl) (zcW_of rfl) (zcL_of rfl) (zcS_of rfl) (Nat.le_of_ble_eq_true rfl) (Nat.le_of_ble_eq_true rfl) ?_
  show Z 7 90 62 [.inr (.inr (4, [.int 0, .ref 1, .ref 2, .int (nI 1), .int 0, .ref 3, .ref 4, .ref 5, .ref 6, .int 0, .int 0, .int 0, .null, .null, .null, .null, .null, .null, .int 0, .null, .int 0, .int 0, .int 0, .int 0, .null, .null, .int 0, .null, .null, .null, .int 0, .int 0, .int 0, .int 0, .int 0, .null, .null, .int 0, .int 0, .int 0, .null, .int 0, .int 0])), .inl (0, 24, fun _ => 0), .inl (0, 24, fun _ => 0), .inl (0, 8, fun _ => 0), .inl (0, 8, fun _ => 0), .inl (0, 8, fun _ => 0), .inl (0, 8, fun _ => 0), .inl (0, 10, fun _ => 0)] _ [.ref 7, .ref 0]
  refine o.2.2.1 7 90 32 62 4 12 0 (RX4, TX4, 43) [.int 0, .ref 1, .ref 2, .int (nI 1), .int 0, .ref 3, .ref 4, .ref 5, .ref 6, .int 0, .int 0, .int 0, .null, .null, .null, .null, .null, .null, .int 0, .null, .int 0, .int 0, .int 0, .int 0, .null, .null, .int 0, .null, .null, .null, .int 0, .int 0, .int 0, .int 0, .int 0, .null, .null, .int 0, .int 0, .int 0, .null, .int 0, .int 0] _ (.array .int) _ _ _ rfl (zPw_of tbX4 (ci := 4) (j := 12) rfl rfl rfl rfl (by decide +kernel)) rfl (zft_ar .int 7) (Nat.le_of_ble_eq_true rfl) ?_
  show Z 7 90 65 [.inr (.inr (4, [.int 0, .ref 1, .ref 2, .int (nI 1), .int 0, .ref 3, .ref 4, .ref 5, .ref 6, .int 0, .int 0, .int 0, .ref 7, .null, .null, .null, .null, .null, .int 0, .null, .int 0, .int 0, .int 0, .int 0, .null, .null, .int 0, .null, .null, .null, .int 0, .int 0, .int 0, .int 0, .int 0, .null, .null, .int 0, .int 0, .int 0, .null, .int 0, .int 0])), .inl (0, 24, fun _ => 0), .inl (0, 24, fun _ => 0), .inl (0, 8, fun _ => 0), .inl (0, 8, fun _ => 0), .inl (0, 8, fun _ => 0), .inl (0, 8, fun _ => 0), .inl (0, 10, fun _ => 0)] _ []
  refine o.1 7 90 100 [] 65 _ _ _ (Nat.le_of_ble_eq_true rfl) (Nat.le_of_ble_eq_true rfl) ?_
  show Z 7 90 69 _ _ [.int (nI 240), .ref 0]
  refine o.2.2.2.1 7 90 69 240 _ _ _ rfl (Nat.le_of_ble_eq_true rfl) (Nat.le_of_ble_eq_true rfl) (Nat.le_of_ble_eq_true rfl) (zcW_of rfl) (zcL_of rfl) (zcS_of rfl) (Nat.le_of_ble_eq_true rfl) (Nat.le_of_ble_eq_true rfl) ?_
  show Z 8 330 71 [.inr (.inr (4, [.int 0, .ref 1, .ref 2, .int (nI 1), .int 0, .ref 3, .ref 4, .ref 5, .ref 6, .int 0, .int 0, .int 0, .ref 7, .null, .null, .null, .null, .null, .int 0, .null, .int 0, .int 0, .int 0, .int 0, .null, .null, .int 0, .null, .null, .null, .int 0, .int 0, .int 0, .int 0, .int 0, .null, .null, .int 0, .int 0, .int 0, .null, .int 0, .int 0])), .inl (0, 24, fun _ => 0), .inl (0, 24, fun _ => 0), .inl (0, 8, fun _ => 0), .inl (0, 8, fun _ => 0), .inl (0, 8, fun _ => 0), .inl (0, 8, fun _ => 0), .inl (0, 10, fun _ => 0), .inl (0, 240, fun _ => 0)] _ [.ref 8, .ref 0]
  refine o.2.2.1 8 330 35 71 4 13 0 (RX4, TX4, 43) [.int 0, .ref 1, .ref 2, .int (nI 1), .int 0, .ref 3, .ref 4, .ref 5, .ref 6, .int 0, .int 0, .int 0, .ref 7, .null, .null, .null, .null, .null, .int 0, .null, .int 0, .int 0, .int 0, .int 0, .null, .null, .int 0, .null, .null, .null, .int 0, .int 0, .int 0, .int 0, .int 0, .null, .null, .int 0, .int 0, .int 0, .null, .int 0, .int 0] _ (.array .int) _ _ _ rfl (zPw_of tbX4 (ci := 4) (j := 13) rfl rfl rfl rfl (by decide +kernel)) rfl (zft_ar .int 8) (Nat.le_of_ble_eq_true rfl) ?_
  show Z 8 330 74 [.inr (.inr (4, [.int 0, .ref 1, .ref 2, .int (nI 1), .int 0, .ref 3, .ref 4, .ref 5, .ref 6, .int 0, .int 0, .int 0, .ref 7, .ref 8, .null, .null, .null, .null, .int 0, .null, .int 0, .int 0, .int 0, .int 0, .null, .null, .int 0, .null, .null, .null, .int 0, .int 0, .int 0, .int 0, .int 0, .null, .null, .int 0, .int 0, .int 0, .null, .int 0, .int 0])), .inl (0, 24, fun _ => 0), .inl (0, 24, fun _ => 0), .inl (0, 8, fun _ => 0), .inl (0, 8, fun _ => 0), .inl (0, 8, fun _ => 0), .inl (0, 8, fun _ => 0), .inl (0, 10, fun _ => 0), .inl (0, 240, fun _ => 0)] _ []
  refine o.1 8 330 100 [] 74 _ _ _ (Nat.le_of_ble_eq_true rfl) (Nat.le_of_ble_eq_true rfl) ?_
  show Z 8 330 78 _ _ [.int (nI 240), .ref 0]
  refine o.2.2.2.1 8 330 78 240 _ _ _ rfl (Nat.le_of_ble_eq_true rfl) (Nat.le_of_ble_eq_true rfl) (Nat.le_of_ble_eq_true rfl) (zcW_of rfl) (zcL_of rfl) (zcS_of rfl) (Nat.le_of_ble_eq_true rfl) (Nat.le_of_ble_eq_true rfl) ?_
  show Z 9 570 80 [.inr (.inr (4, [.int 0, .ref 1, .ref 2, .int (nI 1), .int 0, .ref 3, .ref 4, .ref 5, .ref 6, .int 0, .int 0, .int 0, .ref 7, .ref 8, .null, .null, .null, .null, .int 0, .null, .int 0, .int 0, .int 0, .int 0, .null, .null, .int 0, .null, .null, .null, .int 0, .int 0, .int 0, .int 0, .int 0, .null, .null, .int 0, .int 0, .int 0, .null, .int 0, .int 0])), .inl (0, 24, fun _ => 0), .inl (0, 24, fun _ => 0), .inl (0, 8, fun _ => 0), .inl (0, 8, fun _ => 0), .inl (0, 8, fun _ => 0), .inl (0, 8, fun _ => 0), .inl (0, 10, fun _ => 0), .inl (0, 240, fun _ => 0), .inl (0, 240, fun _ => 0)] _ [.ref 9, .ref 0]
  refine o.2.2.1 9 570 38 80 4 14 0 (RX4, TX4, 43) [.int 0, .ref 1, .ref 2, .int (nI 1), .int 0, .ref 3, .ref 4, .ref 5, .ref 6, .int 0, .int 0, .int 0, .ref 7, .ref 8, .null, .null, .null, .null, .int 0, .null, .int 0, .int 0, .int 0, .int 0, .null, .null, .int 0, .null, .null, .null, .int 0, .int 0, .int 0, .int 0, .int 0, .null, .null, .int 0, .int 0, .int 0, .null, .int 0, .int 0] _ (.array .int) _ _ _ rfl (zPw_of tbX4 (ci := 4) (j := 14) rfl rfl rfl rfl (by decide +kernel)) rfl (zft_ar .int 9) (Nat.le_of_ble_eq_true rfl) ?_
  show Z 9 570 83 [.inr (.inr (4, [.int 0, .ref 1, .ref 2, .int (nI 1), .int 0, .ref 3, .ref 4, .ref 5, .ref 6, .int 0, .int 0, .int 0, .ref 7, .ref 8, .ref 9, .null, .null, .null, .int 0, .null, .int 0, .int 0, .int 0, .int 0, .null, .null, .int 0, .null, .null, .null, .int 0, .int 0, .int 0, .int 0, .int 0, .null, .null, .int 0, .int 0, .int 0, .null, .int 0, .int 0])), .inl (0, 24, fun _ => 0), .inl (0, 24, fun _ => 0), .inl (0, 8, fun _ => 0), .inl (0, 8, fun _ => 0), .inl (0, 8, fun _ => 0), .inl (0, 8, fun _ => 0), .inl (0, 10, fun _ => 0), .inl (0, 240, fun _ => 0), .inl (0, 240, fun _ => 0)] _ []
  refine o.1 9 570 100 [] 83 _ _ _ (Nat.le_of_ble_eq_true rfl) (Nat.le_of_ble_eq_true rfl) ?_
  show Z 9 570 87 _ _ [.int (nI 240), .ref 0]
  refine o.2.2.2.1 9 570 87 240 _ _ _ rfl (Nat.le_of_ble_eq_true rfl) (Nat.le_of_ble_eq_true rfl) (Nat.le_of_ble_eq_true rfl) (zcW_of rfl) (zcL_of rfl) (zcS_of rfl) (Nat.le_of_ble_eq_true rfl) (Nat.le_of_ble_eq_true rfl) ?_
  show Z 10 810 89 [.inr (.inr (4, [.int 0, .ref 1, .ref 2, .int (nI 1), .int 0, .ref 3, .ref 4, .ref 5, .ref 6, .int 0, .int 0, .int 0, .ref 7, .ref 8, .ref 9, .null, .null, .null, .int 0, .null, .int 0, .int 0, .int 0, .int 0, .null, .null, .int 0, .null, .null, .null, .int 0, .int 0, .int 0, .int 0, .int 0, .null, .null, .int 0, .int 0, .int 0, .null, .int 0, .int 0])), .inl (0, 24, fun _ => 0), .inl (0, 24, fun _ => 0), .inl (0, 8, fun _ => 0), .inl (0, 8, fun _ => 0), .inl (0, 8, fun _ => 0), .inl (0, 8, fun _ => 0), .inl (0, 10, fun _ => 0), .inl (0, 240, fun _ => 0), .inl (0, 240, fun _ => 0), .inl (0, 240, fun _ => 0)] _ [.ref 10, .ref 0]
  refine o.2.2.1 10 810 41 89 4 15 0 (RX4, TX4, 43) [.int 0, .ref 1, .ref 2, .int (nI 1), .int 0, .ref 3, .ref 4, .ref 5, .ref 6, .int 0, .int 0, .int 0, .ref 7, .ref 8, .ref 9, .null, .null, .null, .int 0, .null, .int 0, .int 0, .int 0, .int 0, .null, .null, .int 0, .null, .null, .null, .int 0, .int 0, .int 0, .int 0, .int 0, .null, .null, .int 0, .int 0, .int 0, .null, .int 0, .int 0] _ (.array .int) _ _ _ rfl (zPw_of tbX4 (ci := 4) (j := 15) rfl rfl rfl rfl (by decide +kernel)) rfl (zft_ar .int 10) (Nat.le_of_ble_eq_true rfl) ?_
  show Z 10 810 92 [.inr (.inr (4, [.int 0, .ref 1, .ref 2, .int (nI 1), .int 0, .ref 3, .ref 4, .ref 5, .ref 6, .int 0, .int 0, .int 0, .ref 7, .ref 8, .ref 9, .ref 10, .null, .null, .int 0, .null, .int 0, .int 0, .int 0, .int 0, .null, .null, .int 0, .null, .null, .null, .int 0, .int 0, .int 0, .int 0, .int 0, .null, .null, .int 0, .int 0, .int 0, .null, .int 0, .int 0])), .inl (0, 24, fun _ => 0), .inl (0, 24, fun _ => 0), .inl (0, 8, fun _ => 0), .inl (0, 8, fun _ => 0), .inl (0, 8, fun _ => 0), .inl (0, 8, fun _ => 0), .inl (0, 10, fun _ => 0), .inl (0, 240, fun _ => 0), .inl (0, 240, fun _ => 0), .inl (0, 240, fun _ => 0)] _ []
  refine o.1 10 810 100 [] 92 _ _ _ (Nat.le_of_ble_eq_true rfl) (Nat.le_of_ble_eq_true rfl) ?_
  show Z 10 810 96 _ _ [.int (nI 240), .ref 0]
  refine o.2.2.2.1 10 810 96 240 _ _ _ rfl (Nat.le_of_ble_eq_true rfl) (Nat.le_of_ble_eq_true rfl) (Nat.le_of_ble_eq_true rfl) (zcW_of rfl) (zcL_of rfl) (zcS_of rfl) (Nat.le_of_ble_eq_true rfl) (Nat.le_of_ble_eq_true rfl) ?_
  show Z 11 1050 98 [.inr (.inr (4, [.int 0, .ref 1, .ref 2, .int (nI 1), .int 0, .ref 3, .ref 4, .ref 5, .ref 6, .int 0, .int 0, .int 0, .ref 7, .ref 8, .ref 9, .ref 10, .null, .null, .int 0, .null, .int 0, .int 0, .int 0, .int 0, .null, .null, .int 0, .null, .null, .null, .int 0, .int 0, .int 0, .int 0, .int 0, .null, .null, .int 0, .int 0, .int 0, .null, .int 0, .int 0])), .inl (0, 24, fun _ => 0), .inl (0, 24, fun _ => 0), .inl (0, 8, fun _ => 0), .inl (0, 8, fun _ => 0), .inl (0, 8, fun _ => 0), .inl (0, 8, fun _ => 0), .inl (0, 10, fun _ => 0), .inl (0, 240, fun _ => 0), .inl (0, 240, fun _ => 0), .inl (0, 240, fun _ => 0), .inl (0, 240, fun _ => 0)] _ [.ref 11, .ref 0]
  refine o.2.2.1 11 1050 44 98 4 16 0 (RX4, TX4, 43) [.int 0, .ref 1, .ref 2, .int (nI 1), .int 0, .ref 3, .ref 4, .ref 5, .ref 6, .int 0, .int 0, .int 0, .ref 7, .ref 8, .ref 9, .ref 10, .null, .null, .int 0, .null, .int 0, .int 0, .int 0, .int 0, .null, .null, .int 0, .null, .null, .null, .int 0, .int 0, .int 0, .int 0, .int 0, .null, .null, .int 0, .int 0, .int 0, .null, .int 0, .int 0] _ (.array .int) _ _ _ rfl (zPw_of tbX4 (ci := 4) (j := 16) rfl rfl rfl rfl (by decide +kernel)) rfl (zft_ar .int 11) (Nat.le_of_ble_eq_true rfl) ?_
  show Z 11 1050 101 [.inr (.inr (4, [.int 0, .ref 1, .ref 2, .int (nI 1), .int 0, .ref 3, .ref 4, .ref 5, .ref 6, .int 0, .int 0, .int 0, .ref 7, .ref 8, .ref 9, .ref 10, .ref 11, .null, .int 0, .null, .int 0, .int 0, .int 0, .int 0, .null, .null, .int 0, .null, .null, .null, .int 0, .int 0, .int 0, .int 0, .int 0, .null, .null, .int 0, .int 0, .int 0, .null, .int 0, .int 0])), .inl (0, 24, fun _ => 0), .inl (0, 24, fun _ => 0), .inl (0, 8, fun _ => 0), .inl (0, 8, fun _ => 0), .inl (0, 8, fun _ => 0), .inl (0, 8, fun _ => 0), .inl (0, 10, fun _ => 0), .inl (0, 240, fun _ => 0), .inl (0, 240, fun _ => 0), .inl (0, 240, fun _ => 0), .inl (0, 240, fun _ => 0)] _ []
  refine o.1 11 1050 100 [] 101 _ _ _ (Nat.le_of_ble_eq_true rfl) (Nat.le_of_ble_eq_true rfl) ?_
  show Z 11 1050 104 _ _ [.int (nI 24), .ref 0]
  refine o.2.2.2.1 11 1050 104 24 _ _ _ rfl (Nat.le_of_ble_eq_true rfl) (Nat.le_of_ble_eq_true rfl) (Nat.le_of_ble_eq_true rfl) (zcW_of rfl) (zcL_of rfl) (zcS_of rfl) (Nat.le_of_ble_eq_true rfl) (Nat.le_of_ble_eq_true rfl) ?_
  show Z 12 1074 106 [.inr (.inr (4, [.int 0, .ref 1, .ref 2, .int (nI 1), .int 0, .ref 3, .ref 4, .ref 5, .ref 6, .int 0, .int 0, .int 0, .ref 7, .ref 8, .ref 9, .ref 10, .ref 11, .null, .int 0, .null, .int 0, .int 0, .int 0, .int 0, .null, .null, .int 0, .null, .null, .null, .int 0, .int 0, .int 0, .int 0, .int 0, .null, .null, .int 0, .int 0, .int 0, .null, .int 0, .int 0])), .inl (0, 24, fun _ => 0), .inl (0, 24, fun _ => 0), .inl (0, 8, fun _ => 0), .inl (0, 8, fun _ => 0), .inl (0, 8, fun _ => 0), .inl (0, 8, fun _ => 0), .inl (0, 10, fun _ => 0), .inl (0, 240, fun _ => 0), .inl (0, 240, fun _ => 0), .inl (0, 240, fun _ => 0), .inl (0, 240, fun _ => 0), .inl (0, 24, fun _ => 0)] _ [.ref 12, .ref 0]
  refine o.2.2.1 12 1074 47 106 4 17 0 (RX4, TX4, 43) [.int 0, .ref 1, .ref 2, .int (nI 1), .int 0, .ref 3, .ref 4, .ref 5, .ref 6, .int 0, .int 0, .int 0, .ref 7, .ref 8, .ref 9, .ref 10, .ref 11, .null, .int 0, .null, .int 0, .int 0, .int 0, .int 0, .null, .null, .int 0, .null, .null, .null, .int 0, .int 0, .int 0, .int 0, .int 0, .null, .null, .int 0, .int 0, .int 0, .null, .int 0, .int 0] _ (.array .int) _ _ _ rfl (zPw_of tbX4 (ci := 4) (j := 17) rfl rfl rfl rfl (by decide +kernel)) rfl (zft_ar .int 12) (Nat.le_of_ble_eq_true rfl) ?_
  show Z 12 1074 109 [.inr (.inr (4, [.int 0, .ref 1, .ref 2, .int (nI 1), .int 0, .ref 3, .ref 4, .ref 5, .ref 6, .int 0, .int 0, .int 0, .ref 7, .ref 8, .ref 9, .ref 10, .ref 11, .ref 12, .int 0, .null, .int 0, .int 0, .int 0, .int 0, .null, .null, .int 0, .null, .null, .null, .int 0, .int 0, .int 0, .int 0, .int 0, .null, .null, .int 0, .int 0, .int 0, .null, .int 0, .int 0])), .inl (0, 24, fun _ => 0), .inl (0, 24, fun _ => 0), .inl (0, 8, fun _ => 0), .inl (0, 8, fun _ => 0), .inl (0, 8, fun _ => 0), .inl (0, 8, fun _ => 0), .inl (0, 10, fun _ => 0), .inl (0, 240, fun _ => 0), .inl (0, 240, fun _ => 0), .inl (0, 240, fun _ => 0), .inl (0, 240, fun _ => 0), .inl (0, 24, fun _ => 0)] _ []
  refine o.1 12 1074 100 [] 109 _ _ _ (Nat.le_of_ble_eq_true rfl) (Nat.le_of_ble_eq_true rfl) ?_
  show Z 12 1074 112 _ _ [.int (nI 7), .ref 0]
  refine o.2.2.2.1 12 1074 112 7 _ _ _ rfl (Nat.le_of_ble_eq_true rfl) (Nat.le_of_ble_eq_true rfl) (Nat.le_of_ble_eq_true rfl) (zcW_of rfl) (zcL_of rfl) (zcS_of rfl) (Nat.le_of_ble_eq_true rfl) (Nat.le_of_ble_eq_true rfl) ?_
  show Z 13 1081 114 [.inr (.inr (4, [.int 0, .ref 1, .ref 2, .int (nI 1), .int 0, .ref 3, .ref 4, .ref 5, .ref 6, .int 0, .int 0, .int 0, .ref 7, .ref 8, .ref 9, .ref 10, .ref 11, .ref 12, .int 0, .null, .int 0, .int 0, .int 0, .int 0, .null, .null, .int 0, .null, .null, .null, .int 0, .int 0, .int 0, .int 0, .int 0, .null, .null, .int 0, .int 0, .int 0, .null, .int 0, .int 0])), .inl (0, 24, fun _ => 0), .inl (0, 24, fun _ => 0), .inl (0, 8, fun _ => 0), .inl (0, 8, fun _ => 0), .inl (0, 8, fun _ => 0), .inl (0, 8, fun _ => 0), .inl (0, 10, fun _ => 0), .inl (0, 240, fun _ => 0), .inl (0, 240, fun _ => 0), .inl (0, 240, fun _ => 0), .inl (0, 240, fun _ => 0), .inl (0, 24, fun _ => 0), .inl (0, 7, fun _ => 0)] _ [.ref 13, .ref 0]
  refine o.2.2.1 13 1081 50 114 4 19 0 (RX4, TX4, 43) [.int 0, .ref 1, .ref 2, .int (nI 1), .int 0, .ref 3, .ref 4, .ref 5, .ref 6, .int 0, .int 0, .int 0, .ref 7, .ref 8, .ref 9, .ref 10, .ref 11, .ref 12, .int 0, .null, .int 0, .int 0, .int 0, .int 0, .null, .null, .int 0, .null, .null, .null, .int 0, .int 0, .int 0, .int 0, .int 0, .null, .null, .int 0, .int 0, .int 0, .null, .int 0, .int 0] _ (.array .int) _ _ _ rfl (zPw_of tbX4 (ci := 4) (j := 19) rfl rfl rfl rfl (by decide +kernel)) rfl (zft_ar .int 13) (Nat.le_of_ble_eq_true rfl) ?_
  show Z 13 1081 117 [.inr (.inr (4, [.int 0, .ref 1, .ref 2, .int (nI 1), .int 0, .ref 3, .ref 4, .ref 5, .ref 6, .int 0, .int 0, .int 0, .ref 7, .ref 8, .ref 9, .ref 10, .ref 11, .ref 12, .int 0, .ref 13, .int 0, .int 0, .int 0, .int 0, .null, .null, .int 0, .null, .null, .null, .int 0, .int 0, .int 0, .int 0, .int 0, .null, .null, .int 0, .int 0, .int 0, .null, .int 0, .int 0])), .inl (0, 24, fun _ => 0), .inl (0, 24, fun _ => 0), .inl (0, 8, fun _ => 0), .inl (0, 8, fun _ => 0), .inl (0, 8, fun _ => 0), .inl (0, 8, fun _ => 0), .inl (0, 10, fun _ => 0), .inl (0, 240, fun _ => 0), .inl (0, 240, fun _ => 0), .inl (0, 240, fun _ => 0), .inl (0, 240, fun _ => 0), .inl (0, 24, fun _ => 0), .inl (0, 7, fun _ => 0)] _ []
  refine o.1 13 1081 100 [] 117 _ _ _ (Nat.le_of_ble_eq_true rfl) (Nat.le_of_ble_eq_true rfl) ?_
  show Z 13 1081 119 _ _ [.int (nI 5), .ref 0]
  refine o.2.2.2.1 13 1081 119 5 _ _ _ rfl (Nat.le_of_ble_eq_true rfl) (Nat.le_of_ble_eq_true rfl) (Nat.le_of_ble_eq_true rfl) (zcW_of rfl) (zcL_of rfl) (zcS_of rfl) (Nat.le_of_ble_eq_true rfl) (Nat.le_of_ble_eq_true rfl) ?_
  show Z 14 1086 121 [.inr (.inr (4, [.int 0, .ref 1, .ref 2, .int (nI 1), .int 0, .ref 3, .ref 4, .ref 5, .ref 6, .int 0, .int 0, .int 0, .ref 7, .ref 8, .ref 9, .ref 10, .ref 11, .ref 12, .int 0, .ref 13, .int 0, .int 0, .int 0, .int 0, .null, .null, .int 0, .null, .null, .null, .int 0, .int 0, .int 0, .int 0, .int 0, .null, .null, .int 0, .int 0, .int 0, .null, .int 0, .int 0])), .inl (0, 24, fun _ => 0), .inl (0, 24, fun _ => 0), .inl (0, 8, fun _ => 0), .inl (0, 8, fun _ => 0), .inl (0, 8, fun _ => 0), .inl (0, 8, fun _ => 0), .inl (0, 10, fun _ => 0), .inl (0, 240, fun _ => 0), .inl (0, 240, fun _ => 0), .inl (0, 240, fun _ => 0), .inl (0, 240, fun _ => 0), .inl (0, 24, fun _ => 0), .inl (0, 7, fun _ => 0), .inl (0, 5, fun _ => 0)] _ [.ref 14, .ref 0]
  refine o.2.2.1 14 1086 53 121 4 24 0 (RX4, TX4, 43) [.int 0, .ref 1, .ref 2, .int (nI 1), .int 0, .ref 3, .ref 4, .ref 5, .ref 6, .int 0, .int 0, .int 0, .ref 7, .ref 8, .ref 9, .ref 10, .ref 11, .ref 12, .int 0, .ref 13, .int 0, .int 0, .int 0, .int 0, .null, .null, .int 0, .null, .null, .null, .int 0, .int 0, .int 0, .int 0, .int 0, .null, .null, .int 0, .int 0, .int 0, .null, .int 0, .int 0] _ (.array .int) _ _ _ rfl (zPw_of tbX4 (ci := 4) (j := 24) rfl rfl rfl rfl (by decide +kernel)) rfl (zft_ar .int 14) (Nat.le_of_ble_eq_true rfl) ?_
  show Z 14 1086 124 [.inr (.inr (4, [.int 0, .ref 1, .ref 2, .int (nI 1), .int 0, .ref 3, .ref 4, .ref 5, .ref 6, .int 0, .int 0, .int 0, .ref 7, .ref 8, .ref 9, .ref 10, .ref 11, .ref 12, .int 0, .ref 13, .int 0, .int 0, .int 0, .int 0, .ref 14, .null, .int 0, .null, .null, .null, .int 0, .int 0, .int 0, .int 0, .int 0, .null, .null, .int 0, .int 0, .int 0, .null, .int 0, .int 0])), .inl (0, 24, fun _ => 0), .inl (0, 24, fun _ => 0), .inl (0, 8, fun _ => 0), .inl (0, 8, fun _ => 0), .inl (0, 8, fun _ => 0), .inl (0, 8, fun _ => 0), .inl (0, 10, fun _ => 0), .inl (0, 240, fun _ => 0), .inl (0, 240, fun _ => 0), .inl (0, 240, fun _ => 0), .inl (0, 240, fun _ => 0), .inl (0, 24, fun _ => 0), .inl (0, 7, fun _ => 0), .inl (0, 5, fun _ => 0)] _ []
  refine o.1 14 1086 100 [] 124 _ _ _ (Nat.le_of_ble_eq_true rfl) (Nat.le_of_ble_eq_true rfl) ?_
  show Z 14 1086 126 _ _ [.int (nI 5), .ref 0]
  refine o.2.2.2.2.1 14 1086 126 5 _ _ _ rfl (Nat.le_of_ble_eq_true rfl) (Nat.le_of_ble_eq_true rfl) (Nat.le_of_ble_eq_true rfl) (zcW_of rfl) (zcL_of rfl) (zcS_of rfl) (Nat.le_of_ble_eq_true rfl) (Nat.le_of_ble_eq_true rfl) ?_
  show Z 15 1091 128 [.inr (.inr (4, [.int 0, .ref 1, .ref 2, .int (nI 1), .int 0, .ref 3, .ref 4, .ref 5, .ref 6, .int 0, .int 0, .int 0, .ref 7, .ref 8, .ref 9, .ref 10, .ref 11, .ref 12, .int 0, .ref 13, .int 0, .int 0, .int 0, .int 0, .ref 14, .null, .int 0, .null, .null, .null, .int 0, .int 0, .int 0, .int 0, .int 0, .null, .null, .int 0, .int 0, .int 0, .null, .int 0, .int 0])), .inl (0, 24, fun _ => 0), .inl (0, 24, fun _ => 0), .inl (0, 8, fun _ => 0), .inl (0, 8, fun _ => 0), .inl (0, 8, fun _ => 0), .inl (0, 8, fun _ => 0), .inl (0, 10, fun _ => 0), .inl (0, 240, fun _ => 0), .inl (0, 240, fun _ => 0), .inl (0, 240, fun _ => 0), .inl (0, 240, fun _ => 0), .inl (0, 24, fun _ => 0), .inl (0, 7, fun _ => 0), .inl (0, 5, fun _ => 0), .inl (1, 5, fun _ => 0)] _ [.ref 15, .ref 0]
  refine o.2.2.1 15 1091 56 128 4 25 0 (RX4, TX4, 43) [.int 0, .ref 1, .ref 2, .int (nI 1), .int 0, .ref 3, .ref 4, .ref 5, .ref 6, .int 0, .int 0, .int 0, .ref 7, .ref 8, .ref 9, .ref 10, .ref 11, .ref 12, .int 0, .ref 13, .int 0, .int 0, .int 0, .int 0, .ref 14, .null, .int 0, .null, .null, .null, .int 0, .int 0, .int 0, .int 0, .int 0, .null, .null, .int 0, .int 0, .int 0, .null, .int 0, .int 0] _ (.array .boolean) _ _ _ rfl (zPw_of tbX4 (ci := 4) (j := 25) rfl rfl rfl rfl (by decide +kernel)) rfl (zft_ar .boolean 15) (Nat.le_of_ble_eq_true rfl) ?_
  show Z 15 1091 131 [.inr (.inr (4, [.int 0, .ref 1, .ref 2, .int (nI 1), .int 0, .ref 3, .ref 4, .ref 5, .ref 6, .int 0, .int 0, .int 0, .ref 7, .ref 8, .ref 9, .ref 10, .ref 11, .ref 12, .int 0, .ref 13, .int 0, .int 0, .int 0, .int 0, .ref 14, .ref 15, .int 0, .null, .null, .null, .int 0, .int 0, .int 0, .int 0, .int 0, .null, .null, .int 0, .int 0, .int 0, .null, .int 0, .int 0])), .inl (0, 24, fun _ => 0), .inl (0, 24, fun _ => 0), .inl (0, 8, fun _ => 0), .inl (0, 8, fun _ => 0), .inl (0, 8, fun _ => 0), .inl (0, 8, fun _ => 0), .inl (0, 10, fun _ => 0), .inl (0, 240, fun _ => 0), .inl (0, 240, fun _ => 0), .inl (0, 240, fun _ => 0), .inl (0, 240, fun _ => 0), .inl (0, 24, fun _ => 0), .inl (0, 7, fun _ => 0), .inl (0, 5, fun _ => 0), .inl (1, 5, fun _ => 0)] _ []
  refine o.1 15 1091 100 [] 131 _ _ _ (Nat.le_of_ble_eq_true rfl) (Nat.le_of_ble_eq_true rfl) ?_
  show Z 15 1091 134 _ _ [.int (nI 8), .ref 0]
  refine o.2.2.2.1 15 1091 134 8 _ _ _ rfl (Nat.le_of_ble_eq_true rfl) (Nat.le_of_ble_eq_true rfl) (Nat.le_of_ble_eq_true rfl) (zcW_of rfl) (zcL_of rfl) (zcS_of rfl) (Nat.le_of_ble_eq_true rfl) (Nat.le_of_ble_eq_true rfl) ?_
  show Z 16 1099 136 [.inr (.inr (4, [.int 0, .ref 1, .ref 2, .int (nI 1), .int 0, .ref 3, .ref 4, .ref 5, .ref 6, .int 0, .int 0, .int 0, .ref 7, .ref 8, .ref 9, .ref 10, .ref 11, .ref 12, .int 0, .ref 13, .int 0, .int 0, .int 0, .int 0, .ref 14, .ref 15, .int 0, .null, .null, .null, .int 0, .int 0, .int 0, .int 0, .int 0, .null, .null, .int 0, .int 0, .int 0, .null, .int 0, .int 0])), .inl (0, 24, fun _ => 0), .inl (0, 24, fun _ => 0), .inl (0, 8, fun _ => 0), .inl (0, 8, fun _ => 0), .inl (0, 8, fun _ => 0), .inl (0, 8, fun _ => 0), .inl (0, 10, fun _ => 0), .inl (0, 240, fun _ => 0), .inl (0, 240, fun _ => 0), .inl (0, 240, fun _ => 0), .inl (0, 240, fun _ => 0), .inl (0, 24, fun _ => 0), .inl (0, 7, fun _ => 0), .inl (0, 5, fun _ => 0), .inl (1, 5, fun _ => 0), .inl (0, 8, fun _ => 0)] _ [.ref 16, .ref 0]
  refine o.2.2.1 16 1099 60 136 4 27 0 (RX4, TX4, 43) [.int 0, .ref 1, .ref 2, .int (nI 1), .int 0, .ref 3, .ref 4, .ref 5, .ref 6, .int 0, .int 0, .int 0, .ref 7, .ref 8, .ref 9, .ref 10, .ref 11, .ref 12, .int 0, .ref 13, .int 0, .int 0, .int 0, .int 0, .ref 14, .ref 15, .int 0, .null, .null, .null, .int 0, .int 0, .int 0, .int 0, .int 0, .null, .null, .int 0, .int 0, .int 0, .null, .int 0, .int 0] _ (.array .int) _ _ _ rfl (zPw_of tbX4 (ci := 4) (j := 27) rfl rfl rfl rfl (by decide +kernel)) rfl (zft_ar .int 16) (Nat.le_of_ble_eq_true rfl) ?_
  show Z 16 1099 139 [.inr (.inr (4, [.int 0, .ref 1, .ref 2, .int (nI 1), .int 0, .ref 3, .ref 4, .ref 5, .ref 6, .int 0, .int 0, .int 0, .ref 7, .ref 8, .ref 9, .ref 10, .ref 11, .ref 12, .int 0, .ref 13, .int 0, .int 0, .int 0, .int 0, .ref 14, .ref 15, .int 0, .ref 16, .null, .null, .int 0, .int 0, .int 0, .int 0, .int 0, .null, .null, .int 0, .int 0, .int 0, .null, .int 0, .int 0])), .inl (0, 24, fun _ => 0), .inl (0, 24, fun _ => 0), .inl (0, 8, fun _ => 0), .inl (0, 8, fun _ => 0), .inl (0, 8, fun _ => 0), .inl (0, 8, fun _ => 0), .inl (0, 10, fun _ => 0), .inl (0, 240, fun _ => 0), .inl (0, 240, fun _ => 0), .inl (0, 240, fun _ => 0), .inl (0, 240, fun _ => 0), .inl (0, 24, fun _ => 0), .inl (0, 7, fun _ => 0), .inl (0, 5, fun _ => 0), .inl (1, 5, fun _ => 0), .inl (0, 8, fun _ => 0)] _ []
  refine o.1 16 1099 100 [] 139 _ _ _ (Nat.le_of_ble_eq_true rfl) (Nat.le_of_ble_eq_true rfl) ?_
  show Z 16 1099 142 _ _ [.int (nI 8), .ref 0]
  refine o.2.2.2.1 16 1099 142 8 _ _ _ rfl (Nat.le_of_ble_eq_true rfl) (Nat.le_of_ble_eq_true rfl) (Nat.le_of_ble_eq_true rfl) (zcW_of rfl) (zcL_of rfl) (zcS_of rfl) (Nat.le_of_ble_eq_true rfl) (Nat.le_of_ble_eq_true rfl) ?_
  show Z 17 1107 144 [.inr (.inr (4, [.int 0, .ref 1, .ref 2, .int (nI 1), .int 0, .ref 3, .ref 4, .ref 5, .ref 6, .int 0, .int 0, .int 0, .ref 7, .ref 8, .ref 9, .ref 10, .ref 11, .ref 12, .int 0, .ref 13, .int 0, .int 0, .int 0, .int 0, .ref 14, .ref 15, .int 0, .ref 16, .null, .null, .int 0, .int 0, .int 0, .int 0, .int 0, .null, .null, .int 0, .int 0, .int 0, .null, .int 0, .int 0])), .inl (0, 24, fun _ => 0), .inl (0, 24, fun _ => 0), .inl (0, 8, fun _ => 0), .inl (0, 8, fun _ => 0), .inl (0, 8, fun _ => 0), .inl (0, 8, fun _ => 0), .inl (0, 10, fun _ => 0), .inl (0, 240, fun _ => 0), .inl (0, 240, fun _ => 0), .inl (0, 240, fun _ => 0), .inl (0, 240, fun _ => 0), .inl (0, 24, fun _ => 0), .inl (0, 7, fun _ => 0), .inl (0, 5, fun _ => 0), .inl (1, 5, fun _ => 0), .inl (0, 8, fun _ => 0), .inl (0, 8, fun _ => 0)] _ [.ref 17, .ref 0]
  refine o.2.2.1 17 1107 63 144 4 28 0 (RX4, TX4, 43) [.int 0, .ref 1, .ref 2, .int (nI 1), .int 0, .ref 3, .ref 4, .ref 5, .ref 6, .int 0, .int 0, .int 0, .ref 7, .ref 8, .ref 9, .ref 10, .ref 11, .ref 12, .int 0, .ref 13, .int 0, .int 0, .int 0, .int 0, .ref 14, .ref 15, .int 0, .ref 16, .null, .null, .int 0, .int 0, .int 0, .int 0, .int 0, .null, .null, .int 0, .int 0, .int 0, .null, .int 0, .int 0] _ (.array .int) _ _ _ rfl (zPw_of tbX4 (ci := 4) (j := 28) rfl rfl rfl rfl (by decide +kernel)) rfl (zft_ar .int 17) (Nat.le_of_ble_eq_true rfl) ?_
  show Z 17 1107 147 [.inr (.inr (4, [.int 0, .ref 1, .ref 2, .int (nI 1), .int 0, .ref 3, .ref 4, .ref 5, .ref 6, .int 0, .int 0, .int 0, .ref 7, .ref 8, .ref 9, .ref 10, .ref 11, .ref 12, .int 0, .ref 13, .int 0, .int 0, .int 0, .int 0, .ref 14, .ref 15, .int 0, .ref 16, .ref 17, .null, .int 0, .int 0, .int 0, .int 0, .int 0, .null, .null, .int 0, .int 0, .int 0, .null, .int 0, .int 0])), .inl (0, 24, fun _ => 0), .inl (0, 24, fun _ => 0), .inl (0, 8, fun _ => 0), .inl (0, 8, fun _ => 0), .inl (0, 8, fun _ => 0), .inl (0, 8, fun _ => 0), .inl (0, 10, fun _ => 0), .inl (0, 240, fun _ => 0), .inl (0, 240, fun _ => 0), .inl (0, 240, fun _ => 0), .inl (0, 240, fun _ => 0), .inl (0, 24, fun _ => 0), .inl (0, 7, fun _ => 0), .inl (0, 5, fun _ => 0), .inl (1, 5, fun _ => 0), .inl (0, 8, fun _ => 0), .inl (0, 8, fun _ => 0)] _ []
  refine o.1 17 1107 100 [] 147 _ _ _ (Nat.le_of_ble_eq_true rfl) (Nat.le_of_ble_eq_true rfl) ?_
  show Z 17 1107 150 _ _ [.int (nI 8), .ref 0]
  refine o.2.2.2.1 17 1107 150 8 _ _ _ rfl (Nat.le_of_ble_eq_true rfl) (Nat.le_of_ble_eq_true rfl) (Nat.le_of_ble_eq_true rfl) (zcW_of rfl) (zcL_of rfl) (zcS_of rfl) (Nat.le_of_ble_eq_true rfl) (Nat.le_of_ble_eq_true rfl) ?_
  show Z 18 1115 152 [.inr (.inr (4, [.int 0, .ref 1, .ref 2, .int (nI 1), .int 0, .ref 3, .ref 4, .ref 5, .ref 6, .int 0, .int 0, .int 0, .ref 7, .ref 8, .ref 9, .ref 10, .ref 11, .ref 12, .int 0, .ref 13, .int 0, .int 0, .int 0, .int 0, .ref 14, .ref 15, .int 0, .ref 16, .ref 17, .null, .int 0, .int 0, .int 0, .int 0, .int 0, .null, .null, .int 0, .int 0, .int 0, .null, .int 0, .int 0])), .inl (0, 24, fun _ => 0), .inl (0, 24, fun _ => 0), .inl (0, 8, fun _ => 0), .inl (0, 8, fun _ => 0), .inl (0, 8, fun _ => 0), .inl (0, 8, fun _ => 0), .inl (0, 10, fun _ => 0), .inl (0, 240, fun _ => 0), .inl (0, 240, fun _ => 0), .inl (0, 240, fun _ => 0), .inl (0, 240, fun _ => 0), .inl (0, 24, fun _ => 0), .inl (0, 7, fun _ => 0), .inl (0, 5, fun _ => 0), .inl (1, 5, fun _ => 0), .inl (0, 8, fun _ => 0), .inl (0, 8, fun _ => 0), .inl (0, 8, fun _ => 0)] _ [.ref 18, .ref 0]
  refine o.2.2.1 18 1115 66 152 4 29 0 (RX4, TX4, 43) [.int 0, .ref 1, .ref 2, .int (nI 1), .int 0, .ref 3, .ref 4, .ref 5, .ref 6, .int 0, .int 0, .int 0, .ref 7, .ref 8, .ref 9, .ref 10, .ref 11, .ref 12, .int 0, .ref 13, .int 0, .int 0, .int 0, .int 0, .ref 14, .ref 15, .int 0, .ref 16, .ref 17, .null, .int 0, .int 0, .int 0, .int 0, .int 0, .null, .null, .int 0, .int 0, .int 0, .null, .int 0, .int 0] _ (.array .int) _ _ _ rfl (zPw_of tbX4 (ci := 4) (j := 29) rfl rfl rfl rfl (by decide +kernel)) rfl (zft_ar .int 18) (Nat.le_of_ble_eq_true rfl) ?_
  show Z 18 1115 155 [.inr (.inr (4, [.int 0, .ref 1, .ref 2, .int (nI 1), .int 0, .ref 3, .ref 4, .ref 5, .ref 6, .int 0, .int 0, .int 0, .ref 7, .ref 8, .ref 9, .ref 10, .ref 11, .ref 12, .int 0, .ref 13, .int 0, .int 0, .int 0, .int 0, .ref 14, .ref 15, .int 0, .ref 16, .ref 17, .ref 18, .int 0, .int 0, .int 0, .int 0, .int 0, .null, .null, .int 0, .int 0, .int 0, .null, .int 0, .int 0])), .inl (0, 24, fun _ => 0), .inl (0, 24, fun _ => 0), .inl (0, 8, fun _ => 0), .inl (0, 8, fun _ => 0), .inl (0, 8, fun _ => 0), .inl (0, 8, fun _ => 0), .inl (0, 10, fun _ => 0), .inl (0, 240, fun _ => 0), .inl (0, 240, fun _ => 0), .inl (0, 240, fun _ => 0), .inl (0, 240, fun _ => 0), .inl (0, 24, fun _ => 0), .inl (0, 7, fun _ => 0), .inl (0, 5, fun _ => 0), .inl (1, 5, fun _ => 0), .inl (0, 8, fun _ => 0), .inl (0, 8, fun _ => 0), .inl (0, 8, fun _ => 0)] _ []
  refine o.1 18 1115 100 [] 155 _ _ _ (Nat.le_of_ble_eq_true rfl) (Nat.le_of_ble_eq_true rfl) ?_
  show Z 18 1115 158 _ _ [.int (nI 8), .ref 0]
  refine o.2.2.2.1 18 1115 158 8 _ _ _ rfl (Nat.le_of_ble_eq_true rfl) (Nat.le_of_ble_eq_true rfl) (Nat.le_of_ble_eq_true rfl) (zcW_of rfl) (zcL_of rfl) (zcS_of rfl) (Nat.le_of_ble_eq_true rfl) (Nat.le_of_ble_eq_true rfl) ?_
  show Z 19 1123 160 [.inr (.inr (4, [.int 0, .ref 1, .ref 2, .int (nI 1), .int 0, .ref 3, .ref 4, .ref 5, .ref 6, .int 0, .int 0, .int 0, .ref 7, .ref 8, .ref 9, .ref 10, .ref 11, .ref 12, .int 0, .ref 13, .int 0, .int 0, .int 0, .int 0, .ref 14, .ref 15, .int 0, .ref 16, .ref 17, .ref 18, .int 0, .int 0, .int 0, .int 0, .int 0, .null, .null, .int 0, .int 0, .int 0, .null, .int 0, .int 0])), .inl (0, 24, fun _ => 0), .inl (0, 24, fun _ => 0), .inl (0, 8, fun _ => 0), .inl (0, 8, fun _ => 0), .inl (0, 8, fun _ => 0), .inl (0, 8, fun _ => 0), .inl (0, 10, fun _ => 0), .inl (0, 240, fun _ => 0), .inl (0, 240, fun _ => 0), .inl (0, 240, fun _ => 0), .inl (0, 240, fun _ => 0), .inl (0, 24, fun _ => 0), .inl (0, 7, fun _ => 0), .inl (0, 5, fun _ => 0), .inl (1, 5, fun _ => 0), .inl (0, 8, fun _ => 0), .inl (0, 8, fun _ => 0), .inl (0, 8, fun _ => 0), .inl (0, 8, fun _ => 0)] _ [.ref 19, .ref 0]
  refine o.2.2.1 19 1123 69 160 4 35 0 (RX4, TX4, 43) [.int 0, .ref 1, .ref 2, .int (nI 1), .int 0, .ref 3, .ref 4, .ref 5, .ref 6, .int 0, .int 0, .int 0, .ref 7, .ref 8, .ref 9, .ref 10, .ref 11, .ref 12, .int 0, .ref 13, .int 0, .int 0, .int 0, .int 0, .ref 14, .ref 15, .int 0, .ref 16, .ref 17, .ref 18, .int 0, .int 0, .int 0, .int 0, .int 0, .null, .null, .int 0, .int 0, .int 0, .null, .int 0, .int 0] _ (.array .int) _ _ _ rfl (zPw_of tbX4 (ci := 4) (j := 35) rfl rfl rfl rfl (by decide +kernel)) rfl (zft_ar .int 19) (Nat.le_of_ble_eq_true rfl) ?_
  show Z 19 1123 163 [.inr (.inr (4, [.int 0, .ref 1, .ref 2, .int (nI 1), .int 0, .ref 3, .ref 4, .ref 5, .ref 6, .int 0, .int 0, .int 0, .ref 7, .ref 8, .ref 9, .ref 10, .ref 11, .ref 12, .int 0, .ref 13, .int 0, .int 0, .int 0, .int 0, .ref 14, .ref 15, .int 0, .ref 16, .ref 17, .ref 18, .int 0, .int 0, .int 0, .int 0, .int 0, .ref 19, .null, .int 0, .int 0, .int 0, .null, .int 0, .int 0])), .inl (0, 24, fun _ => 0), .inl (0, 24, fun _ => 0), .inl (0, 8, fun _ => 0), .inl (0, 8, fun _ => 0), .inl (0, 8, fun _ => 0), .inl (0, 8, fun _ => 0), .inl (0, 10, fun _ => 0), .inl (0, 240, fun _ => 0), .inl (0, 240, fun _ => 0), .inl (0, 240, fun _ => 0), .inl (0, 240, fun _ => 0), .inl (0, 24, fun _ => 0), .inl (0, 7, fun _ => 0), .inl (0, 5, fun _ => 0), .inl (1, 5, fun _ => 0), .inl (0, 8, fun _ => 0), .inl (0, 8, fun _ => 0), .inl (0, 8, fun _ => 0), .inl (0, 8, fun _ => 0)] _ []
  refine o.1 19 1123 100 [] 163 _ _ _ (Nat.le_of_ble_eq_true rfl) (Nat.le_of_ble_eq_true rfl) ?_
  show Z 19 1123 166 _ _ [.int (nI 8), .ref 0]
  refine o.2.2.2.1 19 1123 166 8 _ _ _ rfl (Nat.le_of_ble_eq_true rfl) (Nat.le_of_ble_eq_true rfl) (Nat.le_of_ble_eq_true rfl) (zcW_of rfl) (zcL_of rfl) (zcS_of rfl) (Nat.le_of_ble_eq_true rfl) (Nat.le_of_ble_eq_true rfl) ?_
  show Z 20 1131 168 [.inr (.inr (4, [.int 0, .ref 1, .ref 2, .int (nI 1), .int 0, .ref 3, .ref 4, .ref 5, .ref 6, .int 0, .int 0, .int 0, .ref 7, .ref 8, .ref 9, .ref 10, .ref 11, .ref 12, .int 0, .ref 13, .int 0, .int 0, .int 0, .int 0, .ref 14, .ref 15, .int 0, .ref 16, .ref 17, .ref 18, .int 0, .int 0, .int 0, .int 0, .int 0, .ref 19, .null, .int 0, .int 0, .int 0, .null, .int 0, .int 0])), .inl (0, 24, fun _ => 0), .inl (0, 24, fun _ => 0), .inl (0, 8, fun _ => 0), .inl (0, 8, fun _ => 0), .inl (0, 8, fun _ => 0), .inl (0, 8, fun _ => 0), .inl (0, 10, fun _ => 0), .inl (0, 240, fun _ => 0), .inl (0, 240, fun _ => 0), .inl (0, 240, fun _ => 0), .inl (0, 240, fun _ => 0), .inl (0, 24, fun _ => 0), .inl (0, 7, fun _ => 0), .inl (0, 5, fun _ => 0), .inl (1, 5, fun _ => 0), .inl (0, 8, fun _ => 0), .inl (0, 8, fun _ => 0), .inl (0, 8, fun _ => 0), .inl (0, 8, fun _ => 0), .inl (0, 8, fun _ => 0)] _ [.ref 20, .ref 0]
  refine o.2.2.1 20 1131 72 168 4 36 0 (RX4, TX4, 43) [.int 0, .ref 1, .ref 2, .int (nI 1), .int 0, .ref 3, .ref 4, .ref 5, .ref 6, .int 0, .int 0, .int 0, .ref 7, .ref 8, .ref 9, .ref 10, .ref 11, .ref 12, .int 0, .ref 13, .int 0, .int 0, .int 0, .int 0, .ref 14, .ref 15, .int 0, .ref 16, .ref 17, .ref 18, .int 0, .int 0, .int 0, .int 0, .int 0, .ref 19, .null, .int 0, .int 0, .int 0, .null, .int 0, .int 0] _ (.array .int) _ _ _ rfl (zPw_of tbX4 (ci := 4) (j := 36) rfl rfl rfl rfl (by decide +kernel)) rfl (zft_ar .int 20) (Nat.le_of_ble_eq_true rfl) ?_
  show Z 20 1131 171 [.inr (.inr (4, [.int 0, .ref 1, .ref 2, .int (nI 1), .int 0, .ref 3, .ref 4, .ref 5, .ref 6, .int 0, .int 0, .int 0, .ref 7, .ref 8, .ref 9, .ref 10, .ref 11, .ref 12, .int 0, .ref 13, .int 0, .int 0, .int 0, .int 0, .ref 14, .ref 15, .int 0, .ref 16, .ref 17, .ref 18, .int 0, .int 0, .int 0, .int 0, .int 0, .ref 19, .ref 20, .int 0, .int 0, .int 0, .null, .int 0, .int 0])), .inl (0, 24, fun _ => 0), .inl (0, 24, fun _ => 0), .inl (0, 8, fun _ => 0), .inl (0, 8, fun _ => 0), .inl (0, 8, fun _ => 0), .inl (0, 8, fun _ => 0), .inl (0, 10, fun _ => 0), .inl (0, 240, fun _ => 0), .inl (0, 240, fun _ => 0), .inl (0, 240, fun _ => 0), .inl (0, 240, fun _ => 0), .inl (0, 24, fun _ => 0), .inl (0, 7, fun _ => 0), .inl (0, 5, fun _ => 0), .inl (1, 5, fun _ => 0), .inl (0, 8, fun _ => 0), .inl (0, 8, fun _ => 0), .inl (0, 8, fun _ => 0), .inl (0, 8, fun _ => 0), .inl (0, 8, fun _ => 0)] _ []
  refine o.1 20 1131 100 [] 171 _ _ _ (Nat.le_of_ble_eq_true rfl) (Nat.le_of_ble_eq_true rfl) ?_
  show Z 20 1131 175 _ _ [.int (nI 1100), .ref 0]
  refine o.2.2.2.1 20 1131 175 1100 _ _ _ rfl (Nat.le_of_ble_eq_true rfl) (Nat.le_of_ble_eq_true rfl) (Nat.le_of_ble_eq_true rfl) (zcW_of rfl) (zcL_of rfl) (zcS_of rfl) (Nat.le_of_ble_eq_true rfl) (Nat.le_of_ble_eq_true rfl) ?_
  show Z 21 2231 177 [.inr (.inr (4, [.int 0, .ref 1, .ref 2, .int (nI 1), .int 0, .ref 3, .ref 4, .ref 5, .ref 6, .int 0, .int 0, .int 0, .ref 7, .ref 8, .ref 9, .ref 10, .ref 11, .ref 12, .int 0, .ref 13, .int 0, .int 0, .int 0, .int 0, .ref 14, .ref 15, .int 0, .ref 16, .ref 17, .ref 18, .int 0, .int 0, .int 0, .int 0, .int 0, .ref 19, .ref 20, .int 0, .int 0, .int 0, .null, .int 0, .int 0])), .inl (0, 24, fun _ => 0), .inl (0, 24, fun _ => 0), .inl (0, 8, fun _ => 0), .inl (0, 8, fun _ => 0), .inl (0, 8, fun _ => 0), .inl (0, 8, fun _ => 0), .inl (0, 10, fun _ => 0), .inl (0, 240, fun _ => 0), .inl (0, 240, fun _ => 0), .inl (0, 240, fun _ => 0), .inl (0, 240, fun _ => 0), .inl (0, 24, fun _ => 0), .inl (0, 7, fun _ => 0), .inl (0, 5, fun _ => 0), .inl (1, 5, fun _ => 0), .inl (0, 8, fun _ => 0), .inl (0, 8, fun _ => 0), .inl (0, 8, fun _ => 0), .inl (0, 8, fun _ => 0), .inl (0, 8, fun _ => 0), .inl (0, 1100, fun _ => 0)] _ [.ref 21, .ref 0]
  refine o.2.2.1 21 2231 75 177 4 40 0 (RX4, TX4, 43) [.int 0, .ref 1, .ref 2, .int (nI 1), .int 0, .ref 3, .ref 4, .ref 5, .ref 6, .int 0, .int 0, .int 0, .ref 7, .ref 8, .ref 9, .ref 10, .ref 11, .ref 12, .int 0, .ref 13, .int 0, .int 0, .int 0, .int 0, .ref 14, .ref 15, .int 0, .ref 16, .ref 17, .ref 18, .int 0, .int 0, .int 0, .int 0, .int 0, .ref 19, .ref 20, .int 0, .int 0, .int 0, .null, .int 0, .int 0] _ (.array .int) _ _ _ rfl (zPw_of tbX4 (ci := 4) (j := 40) rfl rfl rfl rfl (by decide +kernel)) rfl (zft_ar .int 21) (Nat.le_of_ble_eq_true rfl) ?_
  show Z 21 2231 180 [.inr (.inr (4, [.int 0, .ref 1, .ref 2, .int (nI 1), .int 0, .ref 3, .ref 4, .ref 5, .ref 6, .int 0, .int 0, .int 0, .ref 7, .ref 8, .ref 9, .ref 10, .ref 11, .ref 12, .int 0, .ref 13, .int 0, .int 0, .int 0, .int 0, .ref 14, .ref 15, .int 0, .ref 16, .ref 17, .ref 18, .int 0, .int 0, .int 0, .int 0, .int 0, .ref 19, .ref 20, .int 0, .int 0, .int 0, .ref 21, .int 0, .int 0])), .inl (0, 24, fun _ => 0), .inl (0, 24, fun _ => 0), .inl (0, 8, fun _ => 0), .inl (0, 8, fun _ => 0), .inl (0, 8, fun _ => 0), .inl (0, 8, fun _ => 0), .inl (0, 10, fun _ => 0), .inl (0, 240, fun _ => 0), .inl (0, 240, fun _ => 0), .inl (0, 240, fun _ => 0), .inl (0, 240, fun _ => 0), .inl (0, 24, fun _ => 0), .inl (0, 7, fun _ => 0), .inl (0, 5, fun _ => 0), .inl (1, 5, fun _ => 0), .inl (0, 8, fun _ => 0), .inl (0, 8, fun _ => 0), .inl (0, 8, fun _ => 0), .inl (0, 8, fun _ => 0), .inl (0, 8, fun _ => 0), .inl (0, 1100, fun _ => 0)] _ []
  refine o.1 21 2231 100 [185] 180 _ _ _ (Nat.le_of_ble_eq_true rfl) (Nat.le_of_ble_eq_true rfl) ?_
  show Z 21 2231 185 [.inr (.inr (4, [.int 0, .ref 1, .ref 2, .int (nI 1), .int 0, .ref 3, .ref 4, .ref 5, .ref 6, .int 0, .int 0, .int 0, .ref 7, .ref 8, .ref 9, .ref 10, .ref 11, .ref 12, .int (nI 0), .ref 13, .int 0, .int 0, .int 0, .int 0, .ref 14, .ref 15, .int 0, .ref 16, .ref 17, .ref 18, .int 0, .int 0, .int 0, .int 0, .int 0, .ref 19, .ref 20, .int 0, .int 0, .int 0, .ref 21, .int 0, .int 0])), .inl (0, 24, fun _ => 0), .inl (0, 24, fun _ => 0), .inl (0, 8, fun _ => 0), .inl (0, 8, fun _ => 0), .inl (0, 8, fun _ => 0), .inl (0, 8, fun _ => 0), .inl (0, 10, fun _ => 0), .inl (0, 240, fun _ => 0), .inl (0, 240, fun _ => 0), .inl (0, 240, fun _ => 0), .inl (0, 240, fun _ => 0), .inl (0, 24, fun _ => 0), .inl (0, 7, fun _ => 0), .inl (0, 5, fun _ => 0), .inl (1, 5, fun _ => 0), .inl (0, 8, fun _ => 0), .inl (0, 8, fun _ => 0), .inl (0, 8, fun _ => 0), .inl (0, 8, fun _ => 0), .inl (0, 8, fun _ => 0), .inl (0, 1100, fun _ => 0)] _ []
  exact o.1 21 2231 100 [] 185 _ _ _ (Nat.le_of_ble_eq_true rfl) (Nat.le_of_ble_eq_true rfl) ⟨rfl, (Nat.le_of_ble_eq_true rfl), rfl, rfl⟩
end CON2
end
section
/-! how a rule's text is read: without any machine; the class's reader -/
def hrC (f : Nat → Int32) (len p : Nat) : Int32 := if p < len then f p else zi (-1)
def dgC (x : Int32) : Bool := decide (¬ x < nI 48 ∧ ¬ nI 57 < x)
def rdN (f : Nat → Int32) (len p : Nat) : Nat × Nat := if dgC (hrC f len p) = true ∧ ¬ hrC f len p = nI 48 then (if dgC (hrC f len (p + 1)) = true then (p + 2, 10 * (cl (hrC f len p) - 48) + (cl (hrC f len (p + 1)) - 48)) else (p + 1, cl (hrC f len p) - 48)) else (p, 0)
abbrev zDn : Type := Int32 → Int32 × Nat
def pS (f : Nat → Int32) (len p : Nat) (alt : Nat × Option zDn) : Nat × Option zDn :=
  if hrC f len p = nI 115 ∨ hrC f len p = nI 98 ∨ hrC f len p = nI 109 ∨ hrC f len p = nI 110 then (p + 1, some (fun _ => (hrC f len p, 0)))
  else if hrC f len p = nI 116 then (if (rdN f len (p + 1)).2 = 0 then ((rdN f len (p + 1)).1, none) else ((rdN f len (p + 1)).1, some (fun _ => (nI 116, (rdN f len (p + 1)).2))))
  else if hrC f len p = nI 40 then alt else (p, none)
/-- behind an opened bracket at p, R reads what is inside -/
def pM (f : Nat → Int32) (len : Nat) (R : Nat → Nat × Option zDn) (p : Nat) : Nat × Option zDn :=
  if (rdN f len (p + 1)).2 = 0 then ((rdN f len (p + 1)).1, none)
  else if hrC f len (rdN f len (p + 1)).1 = nI 63 then (match R ((rdN f len (p + 1)).1 + 1) with
    | (p2, none) => (p2, none)
    | (p2, some a) => if hrC f len p2 = nI 58 then (match R (p2 + 1) with
      | (p3, none) => (p3, none)
      | (p3, some b) => if hrC f len p3 = nI 41 then (p3 + 1, some (fun x => if x < nI (rdN f len (p + 1)).2 then a x else b x)) else (p3, none))
      else (p2, none))
  else ((rdN f len (p + 1)).1, none)
def pR (f : Nat → Int32) (len : Nat) : Nat → Nat → Nat × Option zDn
  | 0, p => pS f len p (p, none)
  | d + 1, p => pS f len p (pM f len (pR f len d) p)
theorem hr_lt {f : Nat → Int32} {len p k : Nat} (hk : k < 2 ^ 31) (h : hrC f len p = nI k) : p < len := by
  unfold hrC at h
  split at h
  · assumption
  · exact absurd h (fun e => by
      have : zi (-1) < 0 := by decide
      rw [e] at this
      exact nI_pos hk this)
theorem dg_lt {f : Nat → Int32} {len p : Nat} (h : dgC (hrC f len p) = true) : p < len ∧ ∃ k, 48 ≤ k ∧ k ≤ 57 ∧ hrC f len p = nI k := by
  have h2 := of_decide_eq_true h
  have h0 : ¬ hrC f len p < 0 := fun q => h2.1 (Int32.lt_trans q (by decide))
  obtain ⟨k, hk, e⟩ := nI_of h0
  refine ⟨hr_lt hk e, k, ?_, ?_, e⟩
  · have := h2.1; rw [e, nI_ltI hk (by omega)] at this; omega
  · have := h2.2; rw [e, nI_ltI (by omega) hk] at this; omega
theorem rdN_le {f : Nat → Int32} {len p : Nat} (h : p ≤ len) : (rdN f len p).1 ≤ len ∧ (rdN f len p).2 < 100 := by
  unfold rdN
  split
  · rename_i hc
    obtain ⟨h1, k, k1, k2, e⟩ := dg_lt hc.1
    have e2 : cl (nI k) = k := nI_clamp (by omega)
    split
    · rename_i hc2
      obtain ⟨h3, k', k3, k4, e3⟩ := dg_lt hc2
      have e4 : cl (nI k') = k' := nI_clamp (by omega)
      rw [e, e3]
      show p + 2 ≤ len ∧ 10 * (cl (nI k) - 48) + (cl (nI k') - 48) < 100
      rw [e2, e4]; omega
    · rw [e]
      show p + 1 ≤ len ∧ cl (nI k) - 48 < 100
      rw [e2]; omega
  · exact ⟨h, by show (0 : Nat) < 100; omega⟩
theorem pS_le {f : Nat → Int32} {len p : Nat} {alt : Nat × Option zDn} (h : p ≤ len) (ha : hrC f len p = nI 40 → alt.1 ≤ len) : (pS f len p alt).1 ≤ len := by
  unfold pS
  split
  · rename_i hc
    show p + 1 ≤ len
    rcases hc with e | e | e | e <;> exact hr_lt (by omega) e
  · split
    · rename_i hc
      have := (rdN_le (f := f) (hr_lt (by omega) hc)).1
      split <;> exact this
    · split
      · rename_i hc
        exact ha hc
      · exact h
theorem pM_le {f : Nat → Int32} {len p : Nat} {R : Nat → Nat × Option zDn} (hR : ∀ p, p ≤ len → (R p).1 ≤ len) (hp : p < len) : (pM f len R p).1 ≤ len := by
  have h1 := (rdN_le (f := f) (len := len) (p := p + 1) hp).1
  unfold pM
  split
  · exact h1
  · split
    · rename_i hq
      have h2 := hR _ (hr_lt (by omega) hq)
      split
      · rename_i p2 e2
        rw [e2] at h2; exact h2
      · rename_i p2 a e2
        rw [e2] at h2
        split
        · rename_i hq2
          have h3 := hR _ (hr_lt (by omega) hq2)
          split
          · rename_i p3 e3
            rw [e3] at h3; exact h3
          · rename_i p3 b e3
            split
            · rename_i hq3
              exact hr_lt (by omega) hq3
            · rw [e3] at h3; exact h3
        · exact h2
    · exact h1
theorem pR_le {f : Nat → Int32} {len : Nat} : ∀ d p, p ≤ len → (pR f len d p).1 ≤ len
  | 0, p, h => pS_le h (fun _ => h)
  | d + 1, p, h => pS_le h (fun e => pM_le (pR_le d) (hr_lt (by omega) e))
-- lists of rules
def shR (k : Nat) (NL : List zRu) : List zRu := NL.map (fun u => (u.1, u.2.1, u.2.2.1.map (fun i => i + k), u.2.2.2.map (fun i => i + k)))
theorem shR_len (k : Nat) (NL : List zRu) : (shR k NL).length = NL.length := by simp [shR]
theorem shR_at (k : Nat) (NL : List zRu) (i : Nat) : (shR k NL)[i]? = (NL[i]?).map (fun u => (u.1, u.2.1, u.2.2.1.map (fun i => i + k), u.2.2.2.map (fun i => i + k))) := by simp [shR]
theorem pol_app (b : Nat) (P NL : List zRu) : pol b (P ++ shR P.length NL) = pol b P ++ pol (b + P.length) NL := by
  unfold pol shR
  rw [List.map_append, List.map_map]
  congr 1
  refine List.map_congr_left (fun u _ => ?_)
  obtain ⟨s, n, o1, o2⟩ := u
  have e : ∀ o : Option Nat, (o.map (fun i => i + P.length)).map (fun i => i + b) = o.map (fun i => i + (b + P.length)) := fun o => by
    cases o with
    | none => rfl
    | some a =>
      show some (a + P.length + b) = some (a + (b + P.length))
      congr 1; omega
  show (Sum.inr (Sum.inr (2, [.int s, .int n, va_rf ((o1.map (fun i => i + P.length)).map (fun i => i + b)), va_rf ((o2.map (fun i => i + P.length)).map (fun i => i + b))])) : zE) = _
  rw [e, e]
theorem okR_app {P NL : List zRu} (hP : okR P) (hN : okR NL) : okR (P ++ shR P.length NL) := by
  refine ⟨fun i u hu => ?_, fun i u hu => ?_⟩
  · rw [List.length_append, shR_len]
    rw [List.getElem?_append] at hu
    split at hu
    · have := hP.1 i u hu
      exact ⟨fun a h => Nat.lt_of_lt_of_le (this.1 a h) (Nat.le_add_right _ _), fun a h => Nat.lt_of_lt_of_le (this.2 a h) (Nat.le_add_right _ _)⟩
    · rw [shR_at] at hu
      obtain ⟨v, hv, rfl⟩ := Option.map_eq_some_iff.mp hu
      have := hN.1 _ v hv
      constructor
      · intro a h
        obtain ⟨a', ha', rfl⟩ := Option.map_eq_some_iff.mp (show v.2.2.1.map (fun i => i + P.length) = some a from h)
        have := this.1 a' ha'
        omega
      · intro a h
        obtain ⟨a', ha', rfl⟩ := Option.map_eq_some_iff.mp (show v.2.2.2.map (fun i => i + P.length) = some a from h)
        have := this.2 a' ha'
        omega
  · rw [List.getElem?_append] at hu
    split at hu
    · exact hP.2 i u hu
    · rw [shR_at] at hu
      obtain ⟨v, hv, rfl⟩ := Option.map_eq_some_iff.mp hu
      exact hN.2 _ v hv
theorem okR_one {P : List zRu} {u : zRu} (hP : okR P) (h1 : ∀ a, u.2.2.1 = some a → a < P.length) (h2 : ∀ a, u.2.2.2 = some a → a < P.length) (h3 : ∃ K, K < 100 ∧ u.2.1 = nI K) : okR (P ++ [u]) := by
  refine ⟨fun i v hv => ?_, fun i v hv => ?_⟩
  · rw [List.length_append]
    rw [List.getElem?_append] at hv
    split at hv
    · have := hP.1 i v hv
      exact ⟨fun a h => Nat.lt_of_lt_of_le (this.1 a h) (Nat.le_add_right _ _), fun a h => Nat.lt_of_lt_of_le (this.2 a h) (Nat.le_add_right _ _)⟩
    · have hz : i - P.length < 1 := (List.getElem?_eq_some_iff.mp hv).1
      rw [show i - P.length = 0 by omega] at hv
      cases hv
      exact ⟨fun a h => Nat.lt_of_lt_of_le (h1 a h) (Nat.le_add_right _ _), fun a h => Nat.lt_of_lt_of_le (h2 a h) (Nat.le_add_right _ _)⟩
  · rw [List.getElem?_append] at hv
    split at hv
    · exact hP.2 i v hv
    · have hz : i - P.length < 1 := (List.getElem?_eq_some_iff.mp hv).1
      rw [show i - P.length = 0 by omega] at hv
      cases hv
      exact h3
def lfR (NL : List zRu) (i : Nat) (g : zDn) : Prop := ∃ (s : Int32) (k : Nat), NL[i]? = some (s, nI k, none, none) ∧ k < 100 ∧ g = fun _ => (s, k)
/-- rule i of the list is read as g, and lies at most d deep -/
def DN (NL : List zRu) : Nat → Nat → zDn → Prop
  | 0, i, g => lfR NL i g
  | d + 1, i, g => lfR NL i g ∨ ∃ (s : Int32) (k a b : Nat) (ga gb : zDn), NL[i]? = some (s, nI k, some a, some b) ∧ k < 100 ∧ DN NL d a ga ∧ DN NL d b gb ∧ g = fun x => if x < nI k then ga x else gb x
theorem lfR_app {NL X : List zRu} {i : Nat} {g : zDn} (h : lfR NL i g) : lfR (NL ++ X) i g := by
  obtain ⟨s, k, h1, h2, h3⟩ := h
  exact ⟨s, k, by rw [List.getElem?_append_left (List.getElem?_eq_some_iff.mp h1).1]; exact h1, h2, h3⟩
theorem DN_app {NL X : List zRu} : ∀ {d i : Nat} {g : zDn}, DN NL d i g → DN (NL ++ X) d i g
  | 0, _, _, h => lfR_app h
  | d + 1, i, g, h => by
    rcases h with h | ⟨s, k, a, b, ga, gb, h1, h2, h3, h4, h5⟩
    · exact Or.inl (lfR_app h)
    · exact Or.inr ⟨s, k, a, b, ga, gb, by rw [List.getElem?_append_left (List.getElem?_eq_some_iff.mp h1).1]; exact h1, h2, DN_app h3, DN_app h4, h5⟩
theorem at_sh {P NL : List zRu} {i : Nat} {u : zRu} (h : NL[i]? = some u) : (P ++ shR P.length NL)[i + P.length]? = some (u.1, u.2.1, u.2.2.1.map (fun i => i + P.length), u.2.2.2.map (fun i => i + P.length)) := by
  rw [List.getElem?_append_right (by omega), Nat.add_sub_cancel, shR_at, h]; rfl
theorem lfR_sh {P NL : List zRu} {i : Nat} {g : zDn} (h : lfR NL i g) : lfR (P ++ shR P.length NL) (i + P.length) g := by
  obtain ⟨s, k, h1, h2, h3⟩ := h
  exact ⟨s, k, at_sh h1, h2, h3⟩
theorem DN_sh {P NL : List zRu} : ∀ {d i : Nat} {g : zDn}, DN NL d i g → DN (P ++ shR P.length NL) d (i + P.length) g
  | 0, _, _, h => lfR_sh h
  | d + 1, i, g, h => by
    rcases h with h | ⟨s, k, a, b, ga, gb, h1, h2, h3, h4, h5⟩
    · exact Or.inl (lfR_sh h)
    · exact Or.inr ⟨s, k, a + P.length, b + P.length, ga, gb, at_sh h1, h2, DN_sh h3, DN_sh h4, h5⟩
theorem lf_smp {NL : List zRu} {x : Int32} {i : Nat} {g : zDn} (h : lfR NL i g) (e : Nat) : ∃ u, NL[smp NL x e i]? = some u ∧ (u.1, u.2.1.toNatClampNeg) = g x := by
  obtain ⟨s, k, h1, h2, rfl⟩ := h
  have : smp NL x e i = i := by
    cases e with
    | zero => rfl
    | succ e => unfold smp; rw [h1]
  rw [this]
  exact ⟨_, h1, by show (s, (nI k).toNatClampNeg) = (s, k); rw [nI_clamp (by omega)]⟩
theorem DN_smp {NL : List zRu} {x : Int32} : ∀ {d e i : Nat} {g : zDn}, DN NL d i g → d ≤ e → ∃ u, NL[smp NL x e i]? = some u ∧ (u.1, u.2.1.toNatClampNeg) = g x
  | 0, e, i, g, h, _ => lf_smp h e
  | d + 1, e, i, g, h, he => by
    rcases h with h | ⟨s, k, a, b, ga, gb, h1, h2, h3, h4, rfl⟩
    · exact lf_smp h e
    · obtain ⟨e', rfl⟩ : ∃ e', e = e' + 1 := ⟨e - 1, by omega⟩
      have : smp NL x (e' + 1) i = smp NL x e' (if x < nI k then a else b) := by
        show (match NL[i]? with
          | some (_, k, some a, some b) => smp NL x e' (if x < k then a else b)
          | _ => i) = _
        rw [h1]
      rw [this]
      by_cases hx : x < nI k
      · rw [if_pos hx]
        obtain ⟨u, hu, e⟩ := DN_smp (x := x) (e := e') h3 (by omega)
        exact ⟨u, hu, by rw [e]; show _ = if x < nI k then ga x else gb x; rw [if_pos hx]⟩
      · rw [if_neg hx]
        obtain ⟨u, hu, e⟩ := DN_smp (x := x) (e := e') h4 (by omega)
        exact ⟨u, hu, by rw [e]; show _ = if x < nI k then ga x else gb x; rw [if_neg hx]⟩
theorem DN_dn {NL : List zRu} {rl : Nat → Option Nat} {r i d : Nat} {g : zDn} (h : DN NL d i g) (hd : d ≤ 4) (hr : rl r = some i) (x : Int32) : dnI NL rl r x = g x := by
  obtain ⟨u, hu, e⟩ := DN_smp (x := x) h hd
  unfold dnI
  rw [hr]
  show (match NL[smp NL x 4 i]? with
    | some u => (u.1, u.2.1.toNatClampNeg)
    | none => (0, 0)) = _
  rw [hu, ← e]
theorem DN_ok {NL : List zRu} {x : Int32} : ∀ {d i : Nat} {g : zDn}, DN NL d i g → (g x).2 < 100
  | 0, _, _, h => by obtain ⟨s, k, h1, h2, rfl⟩ := h; exact h2
  | d + 1, i, g, h => by
    rcases h with h | ⟨s, k, a, b, ga, gb, h1, h2, h3, h4, rfl⟩
    · obtain ⟨s, k, h1, h2, rfl⟩ := h; exact h2
    · show (if x < nI k then ga x else gb x).2 < 100
      split
      · exact DN_ok h3
      · exact DN_ok h4
/-- an old rule is read as before when rules come -/
theorem smp_app {RL X : List zRu} (hR : wfR RL) {x : Int32} : ∀ d i, i < RL.length → smp (RL ++ X) x d i = smp RL x d i
  | 0, _, _ => rfl
  | d + 1, i, hi => by
    unfold smp
    rw [List.getElem?_append_left hi]
    split
    · rename_i s k a b hu
      have := hR i _ hu
      split
      · exact smp_app hR d a (this.1 a rfl)
      · exact smp_app hR d b (this.2 b rfl)
    · rfl
theorem dnI_app {RL X : List zRu} (hR : wfR RL) {rl : Nat → Option Nat} {r i : Nat} (hr : rl r = some i) (hi : i < RL.length) (x : Int32) : dnI (RL ++ X) rl r x = dnI RL rl r x := by
  unfold dnI
  rw [hr]
  show (match (RL ++ X)[smp (RL ++ X) x 4 i]? with
    | some u => (u.1, u.2.1.toNatClampNeg)
    | none => (0, 0)) = (match RL[smp RL x 4 i]? with
    | some u => (u.1, u.2.1.toNatClampNeg)
    | none => (0, 0))
  rw [smp_app hR 4 i hi, List.getElem?_append_left (smp_lt hR 4 i hi)]
/-- try's number is above 0 -/
theorem pS_try {f : Nat → Int32} {len p : Nat} {alt : Nat × Option zDn} (ha : ∀ g, alt.2 = some g → ∀ x, (g x).1 = nI 116 → 0 < (g x).2) : ∀ g, (pS f len p alt).2 = some g → ∀ x, (g x).1 = nI 116 → 0 < (g x).2 := by
  unfold pS
  split
  · rename_i hc
    intro g hg x hx
    cases hg
    have hx : hrC f len p = nI 116 := hx
    rw [hx] at hc
    exact absurd hc (by decide)
  · split
    · split
      · intro g hg; cases hg
      · rename_i h0
        intro g hg x hx
        cases hg
        show 0 < (rdN f len (p + 1)).2
        omega
    · split
      · exact ha
      · intro g hg; cases hg
theorem pM_try {f : Nat → Int32} {len p : Nat} {R : Nat → Nat × Option zDn} (hR : ∀ p g, (R p).2 = some g → ∀ x, (g x).1 = nI 116 → 0 < (g x).2) : ∀ g, (pM f len R p).2 = some g → ∀ x, (g x).1 = nI 116 → 0 < (g x).2 := by
  unfold pM
  split
  · intro g hg; cases hg
  · split
    · split
      · intro g hg; cases hg
      · rename_i p2 a e2
        split
        · split
          · intro g hg; cases hg
          · rename_i p3 b e3
            split
            · intro g hg x
              cases hg
              show (if x < nI _ then a x else b x).1 = nI 116 → 0 < (if x < nI _ then a x else b x).2
              split
              · exact hR _ a (by rw [e2]) x
              · exact hR _ b (by rw [e3]) x
            · intro g hg; cases hg
        · intro g hg; cases hg
    · intro g hg; cases hg
theorem pR_try {f : Nat → Int32} {len : Nat} : ∀ d p g, (pR f len d p).2 = some g → ∀ x, (g x).1 = nI 116 → 0 < (g x).2
  | 0, p, g => pS_try (fun g hg => by cases hg) g
  | d + 1, p, g => pS_try (pM_try (pR_try d)) g
end
section
/-! the class's reader -/
theorem zcL_nil {n : Nat} : zcL n [] := fun v hv => absurd hv (by simp)
theorem zcL_n {n : Nat} {r : zL} (h : zcL n r) : zcL n (none :: r) := fun v hv => by
  rcases List.mem_cons.mp hv with h1 | h1
  · cases h1
  · exact h v h1
theorem zcL_s {n : Nat} {w : Value} {r : zL} (hw : zcV n w) (h : zcL n r) : zcL n (some w :: r) := fun v hv => by
  rcases List.mem_cons.mp hv with h1 | h1
  · cases h1; exact hw
  · exact h v h1
theorem zcV_i {n : Nat} {x : Int32} : zcV n (.int x) := fun r e => by cases e
theorem zcV_0 {n : Nat} : zcV n .null := fun r e => by cases e
theorem zcV_r {n r : Nat} (h : r < n) : zcV n (.ref r) := fun r' e => by cases e; exact Or.inl h
theorem zcS_nil {n : Nat} : zcS n [] := fun v hv => absurd hv (by simp)
theorem zcS_c {n : Nat} {w : Value} {r : List Value} (hw : zcV n w) (h : zcS n r) : zcS n (w :: r) := fun v hv => by
  rcases List.mem_cons.mp hv with h1 | h1
  · subst h1; exact hw
  · exact h v h1
theorem zcE_pol {b n : Nat} {P : List zRu} (hP : wfR P) (hn : b + P.length ≤ n) : ∀ x ∈ pol b P, zcE n x := fun x hx => by
  obtain ⟨i, hi, e⟩ := List.getElem_of_mem hx
  have h1 : (pol b P)[i]? = some x := by rw [List.getElem?_eq_getElem hi, e]
  rw [pol_at] at h1
  obtain ⟨u, hu, rfl⟩ := Option.map_eq_some_iff.mp h1
  have := hP i u hu
  intro v hv
  simp only [List.mem_cons, List.not_mem_nil, or_false] at hv
  rcases hv with rfl | rfl | rfl | rfl
  · exact zcV_i
  · exact zcV_i
  · cases h : u.2.2.1 with
    | none => exact zcV_0
    | some a => have := this.1 a h; exact zcV_r (r := a + b) (by omega)
  · cases h : u.2.2.2 with
    | none => exact zcV_0
    | some a => have := this.2 a h; exact zcV_r (r := a + b) (by omega)
theorem pol_len (b : Nat) (P : List zRu) : (pol b P).length = P.length := by simp [pol]
theorem zcW_rdr {f : Nat → Int32} {a b : Int32} {P : List zRu} (hP : wfR P) : zcW (rdr f a b ++ pol 2 P) := fun x hx => by
  have hl : (rdr f a b ++ pol 2 P).length = 2 + P.length := by rw [List.length_append, pol_len]; rfl
  rw [hl]
  rcases List.mem_append.mp hx with h | h
  · simp only [rdr, List.mem_cons, List.not_mem_nil, or_false] at h
    rcases h with rfl | rfl
    · intro v hv
      simp only [List.mem_cons, List.not_mem_nil, or_false] at hv
      rcases hv with rfl | rfl | rfl
      · exact zcV_r (by omega)
      · exact zcV_i
      · exact zcV_i
    · trivial
  · exact zcE_pol hP (Nat.le_refl _) x h
theorem pol_zrw {σ : Nat → Nat} {RB0 RB : Nat} {RL : List zRu} (hw : wfR RL) (h2 : ∀ r, r < RL.length → σ (r + RB0) = r + RB) {i : Nat} {x : zE} (hx : (pol RB0 RL)[i]? = some x) : (pol RB RL)[i]? = some (zr σ x) := by
  rw [pol_at] at hx ⊢
  obtain ⟨u, hu, rfl⟩ := Option.map_eq_some_iff.mp hx
  have hh := hw i u hu
  rw [hu]
  obtain ⟨s, n, o1, o2⟩ := u
  simp only [Option.map_some, zr, List.map_cons, List.map_nil]
  congr 4
  cases o1 <;> cases o2 <;> simp [zv, va_rf] <;> first
    | exact ⟨(h2 _ (hh.1 _ rfl)).symm, (h2 _ (hh.2 _ rfl)).symm⟩
    | exact (h2 _ (hh.1 _ rfl)).symm
    | exact (h2 _ (hh.2 _ rfl)).symm
section RDR
variable {l : Launch} {D : va_G} {C : zC} {f : Nat → Int32} {len : Nat}
set_option maxRecDepth 10000 in
theorem c_here {p : Nat} (hl : len ≤ 24) (hp : p ≤ 24) : zFun l D C yX1_here cX1_here 1 (some .int) (zR 0) [.ref 0] (rdr f (nI len) (nI p)) (fun w rv => w = rdr f (nI len) (nI p) ∧ rv = some (.int (hrC f len p))) := by
  refine zFun_of (by decide) oX1_here tbX1 (Nat.le_of_ble_eq_true rfl) (fun Z o => ?_)
  refine o.run 100 [] ⟨fun q => ?_, fun q => ⟨p, rfl, ?_, ?_⟩⟩
  · have q : nI len ≤ nI p := q
    rw [nI_leI (by omega) (by omega)] at q
    exact ⟨⟨_, rfl, rfl⟩, rfl, rfl, by unfold hrC; rw [if_neg (by omega)]⟩
  · have q : ¬ nI len ≤ nI p := q
    rw [nI_leI (by omega) (by omega)] at q
    omega
  · have q : ¬ nI len ≤ nI p := q
    rw [nI_leI (by omega) (by omega)] at q
    exact ⟨⟨_, rfl, rfl⟩, rfl, rfl, by unfold hrC; rw [if_pos (by omega)]⟩
set_option maxRecDepth 10000 in
theorem c_isDigit {x : Int32} : zFun l D C yX1_isDigit cX1_isDigit 1 (some .boolean) (zR 0) [.int x] [] (fun _ rv => rv = some (.int (zB (dgC x)))) := by
  refine zFun_of (by decide) oX1_isDigit tbX1 (Nat.le_of_ble_eq_true rfl) (fun Z o => ?_)
  refine o.run 100 [] ⟨fun q => ?_, fun q => ⟨fun q2 => ?_, fun q2 => ?_⟩⟩
  · have e : dgC x = false := decide_eq_false (fun z => z.1 q)
    exact ⟨zB_rt false, rfl, by rw [e]; rfl⟩
  · have e : dgC x = false := decide_eq_false (fun z => z.2 q2)
    exact ⟨zB_rt false, rfl, by rw [e]; rfl⟩
  · have e : dgC x = true := decide_eq_true ⟨q, q2⟩
    exact ⟨zB_rt true, rfl, by rw [e]; rfl⟩
set_option maxRecDepth 10000 in
theorem c_readNumber {p : Nat} (hl : len ≤ 24) (hp : p ≤ len) : zFun l D C yX1_readNumber cX1_readNumber 2 (some .int) (zR 1) [.ref 0] (rdr f (nI len) (nI p)) (fun w rv => w = rdr f (nI len) (nI (rdN f len p).1) ∧ rv = some (.int (nI (rdN f len p).2))) := by
  refine zFun_of (by decide) oX1_readNumber tbX1 (Nat.le_of_ble_eq_true rfl) (fun Z o => ?_)
  have fin0 : ¬ (dgC (hrC f len p) = true ∧ ¬ hrC f len p = nI 48) → Z 19 (rdr f (nI len) (nI p)) [some (.ref 0), none] [] := fun hn => by
    have e : rdN f len p = (p, 0) := by unfold rdN; rw [if_neg hn]
    refine o.run 100 [] ⟨⟨_, rfl, rfl⟩, rfl, ?_, ?_⟩
    · rw [e]
    · rw [e]; rfl
  refine o.run 100 [] ?_
  show Z _ _ _ _
  refine o.cV vX1_26 (c_here hl (by omega)) (fun w rv _ hpo => ?_)
  obtain ⟨rfl, rfl⟩ := hpo
  refine o.run 100 [] ?_
  show Z _ _ _ _
  refine o.cS vX1_45 (c_isDigit (x := hrC f len p)) (fun rv hpo => ?_)
  subst hpo
  refine o.run 100 [19] ⟨fun q => fin0 (fun z => by rw [(zB_0 _).mp q] at z; exact absurd z.1 (by simp)), fun q => ?_⟩
  have hd := zB_t q
  show Z _ _ _ _
  refine o.cV vX1_26 (c_here hl (by omega)) (fun w rv _ hpo => ?_)
  obtain ⟨rfl, rfl⟩ := hpo
  refine o.run 100 [19, 21] ⟨fun q => ?_, fun q => fin0 (fun z => z.2 q)⟩
  have hc : dgC (hrC f len p) = true ∧ ¬ hrC f len p = nI 48 := ⟨hd, q⟩
  obtain ⟨h1, k, k1, k2, e⟩ := dg_lt hd
  have ek : cl (nI k) = k := nI_clamp (by omega)
  refine o.run 100 [] ?_
  show Z _ _ _ _
  refine o.cV vX1_26 (c_here hl (by omega)) (fun w rv _ hpo => ?_)
  obtain ⟨rfl, rfl⟩ := hpo
  refine o.run 100 [39] ?_
  show Z 39 (rdr f (nI len) (nI p + nI 1)) [some (.ref 0), some (.int (hrC f len p - nI 48))] []
  rw [nI_add, e, pk_sub k1]
  refine o.run 100 [] ?_
  show Z _ _ _ _
  refine o.cV vX1_26 (c_here hl (by omega)) (fun w rv _ hpo => ?_)
  obtain ⟨rfl, rfl⟩ := hpo
  refine o.run 100 [] ?_
  show Z _ _ _ _
  refine o.cS vX1_45 (c_isDigit (x := hrC f len (p + 1))) (fun rv hpo => ?_)
  subst hpo
  refine o.run 100 [49] ⟨fun q => ?_, fun q => ?_⟩
  · have hn : ¬ dgC (hrC f len (p + 1)) = true := fun z => by rw [(zB_0 _).mp q] at z; exact absurd z (by simp)
    have er : rdN f len p = (p + 1, k - 48) := by unfold rdN; rw [if_pos hc, if_neg hn, e, ek]
    exact ⟨⟨_, rfl, rfl⟩, rfl, by rw [er], by rw [er]⟩
  · have hd2 := zB_t q
    obtain ⟨h3, k', k3, k4, e3⟩ := dg_lt hd2
    have ek' : cl (nI k') = k' := nI_clamp (by omega)
    have er : rdN f len p = (p + 2, 10 * (k - 48) + (k' - 48)) := by unfold rdN; rw [if_pos hc, if_pos hd2, e, e3, ek, ek']
    refine o.run 100 [] ?_
    show Z _ _ _ _
    refine o.cV (rest := [.int _]) vX1_26 (c_here hl (by omega)) (fun w rv _ hpo => ?_)
    obtain ⟨rfl, rfl⟩ := hpo
    refine o.run 100 [] ⟨⟨_, rfl, rfl⟩, rfl, ?_, ?_⟩
    · show rdr f (nI len) (nI (p + 1) + nI 1) = _
      rw [nI_add, er]
    · show some (Value.int (nI 10 * nI (k - 48) + hrC f len (p + 1) - nI 48)) = _
      rw [e3, pk_mul, nI_add, pk_sub (by omega), er]
      congr 2
      show nI _ = nI _
      congr 1
      omega
set_option maxRecDepth 10000 in
theorem c_passes {p k : Nat} (hl : len ≤ 24) (hp : p ≤ len) (hk : k < 2 ^ 31) : zFun l D C yX1_passes cX1_passes 3 (some .boolean) (zR 1) [.ref 0, .int (nI k)] (rdr f (nI len) (nI p)) (fun w rv => w = rdr f (nI len) (nI (if hrC f len p = nI k then p + 1 else p)) ∧ rv = some (.int (zB (decide (hrC f len p = nI k))))) := by
  refine zFun_of (by decide) oX1_passes tbX1 (Nat.le_of_ble_eq_true rfl) (fun Z o => ?_)
  refine o.run 100 [] ?_
  show Z _ _ _ _
  refine o.cV vX1_26 (c_here hl (by omega)) (fun w rv _ hpo => ?_)
  obtain ⟨rfl, rfl⟩ := hpo
  refine o.run 100 [] ⟨fun q => ⟨fun _ => ?_, fun z => absurd nI_0 z⟩, fun q => ⟨fun z => absurd z (by decide), fun _ => ?_⟩⟩
  · exact ⟨zB_rt false, rfl, by rw [if_neg q], by rw [decide_eq_false q]; rfl⟩
  · refine ⟨zB_rt true, rfl, ?_, by rw [decide_eq_true q]; rfl⟩
    show rdr f (nI len) (nI p + nI 1) = _
    rw [nI_add, if_pos q]
/-- what reading leaves: the place, new rules, the rule read -/
def rdP (f : Nat → Int32) (len d cap : Nat) (res : Nat × Option zDn) : zS → Option Value → Prop := fun w rv => ∃ NL : List zRu, w = rdr f (nI len) (nI res.1) ++ pol 2 NL ∧ NL.length ≤ cap ∧ okR NL ∧ (match res.2 with
  | none => rv = some .null
  | some g => ∃ i : Nat, rv = some (.ref (i + 2)) ∧ i < NL.length ∧ DN NL d i g)
variable {d RC RS kc ks mc ms pc idx nL' d' : Nat} {own : String} {tab : List (Nat × Instr)} {fl : Nat → Option (Nat × Nat × Nat)} {ki : Nat → Option Int32} {kj : Nat → Option Int64} {Kr : zS → Option Value → Prop} {Z : Nat → Nat → zP} {y' : MethodName} {cc' : ByteArray} {lv : zL} {x : Int32}
theorem zpl_rd {f : Nat → Int32} {a b : Int32} {P NL : List zRu} {pl' : Int32} (hN : wfR NL) (hB : 2 + P.length + NL.length ≤ zBIG) : zplA (fun i => i) (rdr f a b ++ pol 2 P) 2 (rdr f a pl' ++ pol 2 NL) (rdr f a pl' ++ pol 2 (P ++ shR P.length NL)) := by
  have hl : (rdr f a b ++ pol 2 P).length = 2 + P.length := by rw [List.length_append, pol_len]; rfl
  have hl2 : (rdr f a pl' ++ pol 2 NL).length = 2 + NL.length := by rw [List.length_append, pol_len]; rfl
  have hs : ∀ r, r < NL.length → zsg (fun i => i) 2 (2 + P.length) (r + 2) = r + (2 + P.length) := fun r hr => by
    rw [zsg_hi (by omega) (by unfold zBIG at *; omega) (by omega)]; omega
  unfold zplA
  rw [hl, hl2]
  refine ⟨by rw [List.length_append, pol_len, List.length_append, shR_len]; show 2 + _ = _; omega, fun k y hy => ?_, fun i hi hne => ?_⟩
  · match k, hy with
    | 0, hy => cases hy; rfl
    | 1, hy => cases hy; rfl
    | k + 2, hy =>
      rw [List.getElem?_append_right (by show 2 ≤ k + 2; omega)] at hy
      have hy : (pol 2 NL)[k + 2 - 2]? = some y := hy
      rw [Nat.add_sub_cancel] at hy
      have hk : k < NL.length := by
        have := (List.getElem?_eq_some_iff.mp hy).1
        rwa [pol_len] at this
      rw [hs k hk, pol_app, List.getElem?_append_right (by show 2 ≤ _; omega)]
      show (pol 2 P ++ pol (2 + P.length) NL)[k + (2 + P.length) - 2]? = _
      rw [List.getElem?_append_right (by rw [pol_len]; omega), pol_len, show k + (2 + P.length) - 2 - P.length = k by omega]
      exact pol_zrw hN hs hy
  · have h0 : ¬ 0 = i := hne 0 (by omega)
    have h1 : ¬ 1 = i := hne 1 (by omega)
    have g1 : (rdr f a pl' ++ (pol 2 P ++ pol (2 + P.length) NL))[i]? = (pol 2 P ++ pol (2 + P.length) NL)[i - 2]? := List.getElem?_append_right (by show 2 ≤ i; omega)
    have g2 : (rdr f a b ++ pol 2 P)[i]? = (pol 2 P)[i - 2]? := List.getElem?_append_right (by show 2 ≤ i; omega)
    rw [pol_app, g1, g2, List.getElem?_append_left (by rw [pol_len]; omega)]
/-- a reader's call of a reading -/
theorem zOpA.rd (o : zOpA l D C RX1 tab fl ki kj d RC RS 2 Kr Z) {P : List zRu} {dd cap p : Nat} {res : Nat × Option zDn} (hP : wfR P) (hPl : P.length + cap ≤ 1000) (hW : zCV RX1 idx y' cc' nL' (some (.object RX2)) 1) (hM : zFunB l D C y' cc' nL' (some (.object RX2)) (zRA d' mc ms) [.ref 0, .int x] (rdr f (nI len) (nI p)) (rdP f len dd cap res)) (hy : RX1 = y'.cls) (hcl : zcL (rdr f (nI len) (nI p) ++ pol 2 P).length lv)
    (k0 : ∀ NL : List zRu, NL.length ≤ cap → okR NL → res.2 = none → Z (kc + mc) (ks + ms) (pc + 3) (rdr f (nI len) (nI res.1) ++ pol 2 (P ++ shR P.length NL)) lv [.null])
    (k1 : ∀ (NL : List zRu) (i : Nat) (g : zDn), NL.length ≤ cap → okR NL → res.2 = some g → i < NL.length → DN NL dd i g → Z (kc + mc) (ks + ms) (pc + 3) (rdr f (nI len) (nI res.1) ++ pol 2 (P ++ shR P.length NL)) lv [.ref (i + P.length + 2)])
    (hd : zfd tab pc = some (.invokevirtual idx)) (hdd : d' < d) (hL : nL' ≤ 21) (hkc : kc + mc ≤ RC) (hks : ks + ms ≤ RS) : Z kc ks pc (rdr f (nI len) (nI p) ++ pol 2 P) lv [.int x, .ref 0] := by
  have hl : (rdr f (nI len) (nI p) ++ pol 2 P).length = 2 + P.length := by rw [List.length_append, pol_len]; rfl
  refine o.2.2.2.1 kc ks mc ms y' cc' nL' 1 idx pc (some (.object RX2)) d' (fun i => i) (rdr f (nI len) (nI p)) _ lv _ [.int x] _ [] 0 hW hM zsb_pre (fun k hk => ?_) (fun _ _ => rfl) (by rw [hl]; show 2 ≤ 2 + _; omega) ⟨1, _, _, rfl, rfl, hy⟩ (by rw [hl]; omega) (zcW_rdr hP) hcl zcS_nil hd rfl rfl (by decide) hdd hL hkc hks (fun w rv _ hpo => ?_)
  · have hk : k < 2 := hk
    rw [hl]; omega
  · obtain ⟨NL, rfl, hc, hok, hm⟩ := hpo
    refine ⟨_, zpl_rd hok.1 (by unfold zBIG; omega), by rw [List.length_append, pol_len, List.length_append, shR_len]; show 2 + _ ≤ _; unfold zBIG; omega, ?_⟩
    revert hm
    cases hres : res.2 with
    | none =>
      intro hm
      have hm : rv = some .null := hm
      subst hm
      exact k0 NL hc hok hres
    | some g =>
      rintro ⟨i, rfl, hi, hD⟩
      have := k1 NL i g hc hok hres hi hD
      have e : zsg (fun i => i) 2 (rdr f (nI len) (nI p) ++ pol 2 P).length (i + 2) = i + P.length + 2 := by
        have hb : i + P.length + 2 < 1000000 := by omega
        rw [hl]
        rw [zsg_hi (by omega) (by unfold zBIG; omega) (by unfold zBIG; omega)]; omega
      show Z _ _ _ _ _ [.ref (zsg (fun i => i) 2 (rdr f (nI len) (nI p) ++ pol 2 P).length (i + 2))]
      rw [e]
      exact this
theorem vX1_32 : zCI RX1 32 yX2_init cX2_init 5 4 := ⟨⟨zin_mem (h := 277) (by decide +kernel), zin_mem (h := 278) (by decide +kernel), zin_mem (h := 59) (by decide +kernel), zin_mem (h := 279) (by decide +kernel)⟩, rfl, by decide +kernel, by decide +kernel, by decide +kernel⟩
theorem nX1_30 : zNw RX1 30 2 (RX2, TX2, 4) [.int 0, .int 0, .null, .null] := ⟨⟨zin_mem (h := 275) (by decide +kernel), zin_mem (h := 276) (by decide +kernel), zin_mem (h := 59) (by decide +kernel)⟩, rfl, by decide +kernel, by simp⟩
/-- a rule's cell, empty -/
abbrev nru : zE := .inr (.inr (2, [.int 0, .int 0, .null, .null]))
theorem zOpA.nw (o : zOpA l D C RX1 tab fl ki kj d RC RS 2 Kr Z) {P : List zRu} {a b : Int32} {st : List Value} (hP : wfR P) (hPl : P.length ≤ 1000) (hcl : zcL (rdr f a b ++ pol 2 P).length lv) (hst : zcS (rdr f a b ++ pol 2 P).length st)
    (kk : Z (kc + 1) (ks + 4) (pc + 3) (rdr f a b ++ pol 2 P ++ [nru]) lv (.ref (P.length + 2) :: st)) (hd : zfd tab pc = some (.new 30)) (hkc : kc + 1 ≤ RC) (hks : ks + 4 ≤ RS) : Z kc ks pc (rdr f a b ++ pol 2 P) lv st := by
  have hl : (rdr f a b ++ pol 2 P).length = P.length + 2 := by rw [List.length_append, pol_len]; show 2 + _ = _; omega
  refine o.2.2.2.2.2.1 kc ks 30 pc 2 (RX2, TX2, 4) _ _ _ _ hd nX1_30 (by rw [hl]; omega) (by rw [hl]; unfold zBIG; omega) (zcW_rdr hP) hcl hst hkc hks ?_
  rw [hl]
  exact kk
theorem zcW_one {f : Nat → Int32} {a b : Int32} {P : List zRu} (hP : wfR P) : zcW (rdr f a b ++ pol 2 P ++ [nru]) := fun x hx => by
  rcases List.mem_append.mp hx with h | h
  · have := zcW_rdr (f := f) (a := a) (b := b) hP x h
    rw [List.length_append]
    match x, this with
    | .inl _, _ => trivial
    | .inr (.inl (k, g)), h1 => exact fun j hj r hr => (h1 j hj r hr).imp (fun z => Nat.lt_of_lt_of_le z (Nat.le_add_right _ _)) id
    | .inr (.inr (_, fs)), h1 => exact fun v hv r hr => (h1 v hv r hr).imp (fun z => Nat.lt_of_lt_of_le z (Nat.le_add_right _ _)) id
  · simp only [List.mem_cons, List.not_mem_nil, or_false] at h
    subst h
    intro v hv
    simp only [List.mem_cons, List.not_mem_nil, or_false] at hv
    rcases hv with rfl | rfl | rfl | rfl
    · exact zcV_i
    · exact zcV_i
    · exact zcV_0
    · exact zcV_0
/-- a rule's constructor -/
theorem zOpA.mk (o : zOpA l D C RX1 tab fl ki kj d RC RS 2 Kr Z) {P : List zRu} {a b : Int32} {u : zRu} (hx : zft .char (.int u.1))
    (kk : Z kc ks (pc + 3) (rdr f a b ++ pol 2 (P ++ [u])) lv [.ref (P.length + 2)]) (hd : zfd tab pc = some (.invokespecial 32)) (hdd : 1 < d) (hkc : kc ≤ RC) (hks : ks ≤ RS) : Z kc ks pc (rdr f a b ++ pol 2 P ++ [nru]) lv [va_rf (u.2.2.2.map (fun i => i + 2)), va_rf (u.2.2.1.map (fun i => i + 2)), .int u.2.1, .int u.1, .ref (P.length + 2), .ref (P.length + 2)] := by
  have hl : (rdr f a b ++ pol 2 P).length = P.length + 2 := by rw [List.length_append, pol_len]; show 2 + _ = _; omega
  have hl1 : (rdr f a b ++ pol 2 P ++ [nru]).length = P.length + 3 := by rw [List.length_append, hl]; rfl
  have epol : pol 2 (P ++ [u]) = pol 2 P ++ [.inr (.inr (2, [.int u.1, .int u.2.1, va_rf (u.2.2.1.map (fun i => i + 2)), va_rf (u.2.2.2.map (fun i => i + 2))]))] := by
    unfold pol; rw [List.map_append]; rfl
  let σ : Nat → Nat := fun k => if k = 0 then P.length + 2 else k - 1
  have hσ : ∀ oo : Option Nat, zv σ (va_rf (oo.map (fun i => i + 3))) = va_rf (oo.map (fun i => i + 2)) := fun oo => by cases oo <;> rfl
  refine o.2.2.2.2.2.2 kc ks yX2_init cX2_init 5 4 32 pc 1 σ [nru] _ lv _ [.int u.1, .int u.2.1, va_rf (u.2.2.1.map (fun i => i + 3)), va_rf (u.2.2.2.map (fun i => i + 3))] _ [.ref (P.length + 2)] 0 vX1_32 (c_rule_init hx) ⟨fun k y hy => ?_, fun i j hi hj _ => ?_⟩ hd ?_ rfl (Nat.le_of_ble_eq_true rfl) hdd (by omega) hkc hks (fun w rv _ hpo => ?_)
  · match k, hy with
    | 0, hy =>
      cases hy
      show (rdr f a b ++ pol 2 P ++ [nru])[P.length + 2]? = _
      rw [List.getElem?_append_right (by omega), hl, Nat.sub_self]
      rfl
    | k + 1, hy => simp at hy
  · have hi : i < 1 := hi
    have hj : j < 1 := hj
    omega
  · show _ = [zv σ (va_rf (u.2.2.2.map (fun i => i + 3))), zv σ (va_rf (u.2.2.1.map (fun i => i + 3))), .int u.2.1, .int u.1, .ref (P.length + 2), .ref (P.length + 2)]
    rw [hσ, hσ]
  · obtain ⟨rfl, rfl⟩ := hpo
    refine ⟨rdr f a b ++ pol 2 (P ++ [u]), ⟨?_, fun k y hy => ?_, fun i hne => ?_⟩, kk⟩
    · rw [hl1, List.length_append, pol_len, List.length_append]; show 2 + (P.length + 1) = P.length + 3; omega
    · match k, hy with
      | 0, hy =>
        cases hy
        show (rdr f a b ++ pol 2 (P ++ [u]))[P.length + 2]? = _
        rw [epol, ← List.append_assoc, List.getElem?_append_right (by omega), hl, Nat.sub_self]
        show some _ = some (Sum.inr (Sum.inr (2, [Value.int u.1, .int u.2.1, zv σ (va_rf (u.2.2.1.map (fun i => i + 3))), zv σ (va_rf (u.2.2.2.map (fun i => i + 3)))])))
        rw [hσ, hσ]
      | k + 1, hy => simp at hy
    · have h0 : ¬ P.length + 2 = i := hne 0 (by show 0 < 1; omega)
      rw [epol, ← List.append_assoc]
      by_cases hi : i < P.length + 2
      · exact (List.getElem?_append_left (by omega)).trans (List.getElem?_append_left (by omega)).symm
      · rw [List.getElem?_eq_none (by rw [List.length_append, hl]; show P.length + 2 + 1 ≤ i; omega), List.getElem?_eq_none (by rw [hl1]; omega)]
end RDR
end
section
/-! reading rules: readRule, readMixed, readAll -/
def rcap : Nat → Nat
  | 0 => 1
  | d + 1 => 2 * rcap d + 1
theorem rcap_pos : ∀ d, 1 ≤ rcap d
  | 0 => Nat.le_refl 1
  | d + 1 => by show 1 ≤ 2 * rcap d + 1; omega
theorem shR_0 (NL : List zRu) : shR 0 NL = NL := by
  unfold shR
  refine (List.map_congr_left (fun u _ => ?_)).trans (List.map_id' NL)
  obtain ⟨s, n, o1, o2⟩ := u
  cases o1 <;> cases o2 <;> rfl
theorem okR_nil : okR [] := ⟨fun i u h => by simp at h, fun i u h => by simp at h⟩
theorem chr_ok {k : Nat} (hk : k < 65536) : zft .char (.int (nI k)) := fun q => by
  have e : (nI k).toBitVec.toNat % 65536 = k := by rw [pk_tn (by omega)]; omega
  have h := pk_char (nI k)
  rw [e] at h
  constructor
  · have := pk_nc (nI k); rw [h] at this; exact this
  · have := pk_fc (nI k); rw [h] at this; exact this
theorem chr_eq {k : Nat} (hk : k < 65536) : ((nI k).toUInt32 % 65536).toInt32 = nI k := by
  rw [pk_char, pk_tn (by omega), Nat.mod_eq_of_lt hk]
theorem rdr_le {f : Nat → Int32} {a b : Int32} (T : zS) : 2 ≤ (rdr f a b ++ T).length := by rw [List.length_append]; exact Nat.le_add_right 2 _
section RUL
variable {l : Launch} {D : va_G} {C : zC} {f : Nat → Int32} {len : Nat}
variable {d RC RS kc ks pc idx nL' d' n n0 : Nat} {own : String} {tab : List (Nat × Instr)} {fl : Nat → Option (Nat × Nat × Nat)} {ki : Nat → Option Int32} {kj : Nat → Option Int64} {Kr : zS → Option Value → Prop} {Z : Nat → Nat → zP} {y' : MethodName} {cc' : ByteArray} {lv : zL} {ret' : Option FieldType}
theorem zOpA.cVp (o : zOpA l D C own tab fl ki kj d RC RS n0 Kr Z) {wc tl : zS} {Po : zS → Option Value → Prop} {As st rest : List Value} {b0 : Nat} (hW : zCV own idx y' cc' nL' ret' n) (hM : zFun l D C y' cc' nL' ret' (zR d') (.ref b0 :: As) wc Po) (kk : ∀ (w : zS) (rv : Option Value), w.length = wc.length → Po w rv → Z kc ks (pc + 3) (w ++ tl) lv (rv.toList ++ rest)) (hrc : ∃ (ci : Nat) (fs : List Value) (r : vw_C), wc[b0]? = some (.inr (.inr (ci, fs))) ∧ vwCl[ci]? = some r ∧ r.1 = y'.cls)
    (hd : zfd tab pc = some (.invokevirtual idx)) (hst : st = As.reverse ++ .ref b0 :: rest) (hn : As.length = n) (hrest : (rest.map fun v => v.category).sum ≤ 8) (hdd : d' < d) (hL : nL' ≤ 21) (hkc : kc ≤ RC) (hks : ks ≤ RS) : Z kc ks pc (wc ++ tl) lv st :=
  o.2.1 kc ks y' cc' nL' n idx pc ret' d' (fun i => i) wc (wc ++ tl) lv Po As st rest b0 hW hM zsb_pre hrc hd (by rw [zas_id]; exact hst) hn hrest hdd hL hkc hks (fun w rv h1 h2 => ⟨w ++ tl, zpl_pre h1, by rw [zrv_id]; exact kk w rv h1 h2⟩)
/-- a call of the reader on itself -/
theorem zOpA.cR (o : zOpA l D C RX1 tab fl ki kj d RC RS n0 Kr Z) {P : List zRu} {a b b' : Int32} {As : List Value} {v : Value} (hW : zCV RX1 idx y' cc' nL' ret' n) (hM : zFun l D C y' cc' nL' ret' (zR d') (.ref 0 :: As) (rdr f a b) (fun w rv => w = rdr f a b' ∧ rv = some v)) (hy : RX1 = y'.cls) (kk : Z kc ks (pc + 3) (rdr f a b' ++ pol 2 P) lv [v])
    (hd : zfd tab pc = some (.invokevirtual idx)) (hn : As.length = n) (hdd : d' < d) (hL : nL' ≤ 21) (hkc : kc ≤ RC) (hks : ks ≤ RS) : Z kc ks pc (rdr f a b ++ pol 2 P) lv (As.reverse ++ [.ref 0]) :=
  o.cVp (b0 := 0) (As := As) (rest := []) hW hM (fun w rv _ hpo => by
    obtain ⟨rfl, rfl⟩ := hpo
    exact kk) ⟨1, _, _, rfl, rfl, hy⟩ hd rfl hn (by decide) hdd hL hkc hks
set_option maxRecDepth 10000 in
theorem c_readRule_of {op dd cap p : Nat} {alt : Nat × Option zDn} (hl : len ≤ 24) (hp : p ≤ len) (hcap : 1 ≤ cap) (hd2 : 3 ≤ d) (hRC : 1 ≤ RC) (hRS : 4 ≤ RS)
    (br : hrC f len p = nI 40 → ∀ Z : Nat → Nat → zP, zOpA l D C RX1 kX1_readRule (zfl FX1) (zkI IX1) (zkJ JX1) d RC RS 2 (fun ws rv => zRt (some (.object RX2)) rv ∧ 2 ≤ ws.length ∧ rdP f len dd cap alt ws rv) Z → Z 0 0 123 (rdr f (nI len) (nI p)) [some (.ref 0), some (.int (nI op)), some (.int (nI 40)), none] []) :
    zFunB l D C yX1_readRule cX1_readRule 4 (some (.object RX2)) (zRA d RC RS) [.ref 0, .int (nI op)] (rdr f (nI len) (nI p)) (rdP f len dd cap (pS f len p alt)) := by
  refine zFunB_of (by decide) oX1_readRule tbX1 (Nat.le_of_ble_eq_true rfl) (fun Z o => ?_)
  obtain ⟨c, hc⟩ : ∃ c, c = hrC f len p := ⟨_, rfl⟩
  have leaf : ∀ k, k < 65536 → (nI k = nI 115 ∨ nI k = nI 98 ∨ nI k = nI 109 ∨ nI k = nI 110) → nI k = hrC f len p → Z 0 0 64 (rdr f (nI len) (nI p)) [some (.ref 0), some (.int (nI op)), some (.int (nI k)), none] [] := by
    intro k hk hk4 hkc
    have hp1 : p < len := hr_lt (k := k) (by omega) hkc.symm
    have er : pS f len p alt = (p + 1, some (fun _ => (nI k, 0))) := by
      unfold pS; rw [← hkc, if_pos hk4]
    refine o.1 0 0 100 [] 64 _ _ _ (Nat.zero_le _) (Nat.zero_le _) ?_
    show Z 0 0 74 (rdr f (nI len) (nI p + nI 1)) _ []
    rw [nI_add]
    show Z 0 0 74 (rdr f (nI len) (nI (p + 1)) ++ pol 2 []) _ []
    refine o.nw okR_nil.1 (by decide) (zcL_s (zcV_r (Nat.le_of_ble_eq_true rfl)) (zcL_s zcV_i (zcL_s zcV_i (zcL_n zcL_nil)))) zcS_nil ?_ rfl hRC hRS
    refine o.1 1 4 100 [] 77 _ _ _ hRC hRS ?_
    show Z 1 4 83 (rdr f (nI len) (nI (p + 1)) ++ pol 2 [] ++ [nru]) _ [.null, .null, .int (nI 0), .int ((nI k).toUInt32 % 65536).toInt32, .ref 2, .ref 2]
    rw [chr_eq hk]
    refine o.mk (P := []) (u := (nI k, nI 0, none, none)) (chr_ok hk) ?_ rfl (by omega) hRC hRS
    refine o.1 1 4 100 [] 86 _ _ _ hRC hRS ⟨⟨_, rfl⟩, rdr_le _, [(nI k, nI 0, none, none)], ?_, hcap, okR_one (P := []) okR_nil (fun a h => by cases h) (fun a h => by cases h) ⟨0, by omega, rfl⟩, ?_⟩
    · rw [er]; rfl
    · rw [er]
      refine ⟨0, rfl, Nat.le_of_ble_eq_true rfl, ?_⟩
      have hlf : lfR [(nI k, nI 0, none, none)] 0 (fun _ => (nI k, 0)) := ⟨nI k, 0, rfl, by omega, rfl⟩
      cases dd with
      | zero => exact hlf
      | succ dd => exact Or.inl hlf
  have none0 : (pS f len p alt) = (p, none) → ∀ q, q = 140 → ∀ x2 x3, Z 0 0 q (rdr f (nI len) (nI p)) [some (.ref 0), some (.int (nI op)), x2, x3] [] := by
    intro er q hq x2 x3
    subst hq
    refine o.1 0 0 100 [] 140 _ _ _ (Nat.zero_le _) (Nat.zero_le _) ⟨⟨_, rfl⟩, Nat.le_refl 2, [], ?_, Nat.zero_le _, okR_nil, ?_⟩
    · rw [er]; rfl
    · rw [er]
  refine o.1 0 0 100 [] 0 _ _ _ (Nat.zero_le _) (Nat.zero_le _) ?_
  show Z 0 0 1 (rdr f (nI len) (nI p) ++ pol 2 []) _ ([].reverse ++ [.ref 0])
  refine o.cR vX1_26 (c_here (p := p) hl (by omega)) rfl ?_ rfl rfl (by omega) (by decide) (Nat.zero_le _) (Nat.zero_le _)
  rw [← hc]
  refine o.1 0 0 100 [123, 64, 87, 140] 4 _ _ _ (Nat.zero_le _) (Nat.zero_le _) ⟨⟨fun a => ?_, fun a => ?_, fun a => ?_, fun a => ?_, fun a => ?_, fun a => ?_, trivial⟩, fun a => ?_⟩
  · have a : c = nI 40 := a
    subst a
    have er : pS f len p alt = alt := by
      unfold pS
      rw [← hc, if_neg (by decide), if_neg (by decide), if_pos rfl]
    refine br hc.symm Z ?_
    rw [er] at o
    exact o
  · have a : c = nI 98 := a
    subst a
    exact leaf 98 (by omega) (by decide) hc
  · have a : c = nI 109 := a
    subst a
    exact leaf 109 (by omega) (by decide) hc
  · have a : c = nI 110 := a
    subst a
    exact leaf 110 (by omega) (by decide) hc
  · have a : c = nI 115 := a
    subst a
    exact leaf 115 (by omega) (by decide) hc
  · have a : c = nI 116 := a
    subst a
    have hp1 : p < len := hr_lt (k := 116) (by omega) hc.symm
    have hnl := rdN_le (f := f) (len := len) (p := p + 1) hp1
    refine o.1 0 0 100 [] 87 _ _ _ (Nat.zero_le _) (Nat.zero_le _) ?_
    show Z 0 0 98 (rdr f (nI len) (nI p + nI 1)) _ [.ref 0]
    rw [nI_add]
    show Z 0 0 98 (rdr f (nI len) (nI (p + 1)) ++ pol 2 []) _ ([].reverse ++ [.ref 0])
    refine o.cR vX1_35 (c_readNumber (p := p + 1) hl hp1) rfl ?_ rfl rfl (by omega) (by decide) (Nat.zero_le _) (Nat.zero_le _)
    refine o.1 0 0 100 [106, 121] 101 _ _ _ (Nat.zero_le _) (Nat.zero_le _) ⟨fun q => ?_, fun q => ?_⟩
    · have q : nI (rdN f len (p + 1)).2 ≤ 0 := q
      have h0 : (rdN f len (p + 1)).2 = 0 := by
        rcases Nat.eq_zero_or_pos (rdN f len (p + 1)).2 with z | z
        · exact z
        · exact absurd q (nI_nle z (by omega))
      have er : pS f len p alt = ((rdN f len (p + 1)).1, none) := by
        unfold pS
        rw [← hc, if_neg (by decide), if_pos rfl, if_pos h0]
      refine o.1 0 0 100 [] 121 _ _ _ (Nat.zero_le _) (Nat.zero_le _) ⟨⟨_, rfl⟩, Nat.le_refl 2, [], ?_, Nat.zero_le _, okR_nil, ?_⟩
      · rw [er]
      · rw [er]
    · have q : ¬ nI (rdN f len (p + 1)).2 ≤ 0 := q
      have h0 : ¬ (rdN f len (p + 1)).2 = 0 := fun z => q (by rw [z]; decide)
      have er : pS f len p alt = ((rdN f len (p + 1)).1, some (fun _ => (nI 116, (rdN f len (p + 1)).2))) := by
        unfold pS
        rw [← hc, if_neg (by decide), if_pos rfl, if_neg h0]
      show Z 0 0 106 (rdr f (nI len) (nI (rdN f len (p + 1)).1) ++ pol 2 []) _ []
      refine o.nw okR_nil.1 (by decide) (zcL_s (zcV_r (Nat.le_of_ble_eq_true rfl)) (zcL_s zcV_i (zcL_s zcV_i (zcL_s zcV_i zcL_nil)))) zcS_nil ?_ rfl hRC hRS
      refine o.1 1 4 100 [] 109 _ _ _ hRC hRS ?_
      show Z 1 4 115 (rdr f (nI len) (nI (rdN f len (p + 1)).1) ++ pol 2 [] ++ [nru]) _ [.null, .null, .int (nI (rdN f len (p + 1)).2), .int (nI 116), .ref 2, .ref 2]
      refine o.mk (P := []) (u := (nI 116, nI (rdN f len (p + 1)).2, none, none)) (chr_ok (by omega)) ?_ rfl (by omega) hRC hRS
      refine o.1 1 4 100 [] 118 _ _ _ hRC hRS ⟨⟨_, rfl⟩, rdr_le _, [(nI 116, nI (rdN f len (p + 1)).2, none, none)], ?_, hcap, okR_one (P := []) okR_nil (fun a h => by cases h) (fun a h => by cases h) ⟨_, hnl.2, rfl⟩, ?_⟩
      · rw [er]; rfl
      · rw [er]
        refine ⟨0, rfl, Nat.le_of_ble_eq_true rfl, ?_⟩
        have hlf : lfR [(nI 116, nI (rdN f len (p + 1)).2, none, none)] 0 (fun _ => (nI 116, (rdN f len (p + 1)).2)) := ⟨nI 116, _, rfl, hnl.2, rfl⟩
        cases dd with
        | zero => exact hlf
        | succ dd => exact Or.inl hlf
  · obtain ⟨a1, a2, a3, a4, a5, a6, -⟩ := a
    have er : pS f len p alt = (p, none) := by
      unfold pS
      rw [← hc, if_neg (fun z => by
        rcases z with z | z | z | z
        · exact a5 z
        · exact a2 z
        · exact a3 z
        · exact a4 z), if_neg (show ¬ c = nI 116 from a6), if_neg (show ¬ c = nI 40 from a1)]
    exact none0 er 140 rfl _ _
set_option maxRecDepth 10000 in
theorem c_readMixed {op dd cap p : Nat} {R : Nat → Nat × Option zDn} (hl : len ≤ 24) (hp : p < len) (hRle : ∀ p, p ≤ len → (R p).1 ≤ len) (hcp : cap ≤ 100)
    (ih : ∀ p, p ≤ len → zFunB l D C yX1_readRule cX1_readRule 4 (some (.object RX2)) (zRA d cap (4 * cap)) [.ref 0, .int (nI op)] (rdr f (nI len) (nI p)) (rdP f len dd cap (R p))) (hd3 : 3 ≤ d) :
    zFunB l D C yX1_readMixed cX1_readMixed 5 (some (.object RX2)) (zRA (d + 1) (2 * cap + 1) (4 * (2 * cap + 1))) [.ref 0, .int (nI op)] (rdr f (nI len) (nI p)) (rdP f len (dd + 1) (2 * cap + 1) (pM f len R p)) := by
  have hn1 := rdN_le (f := f) (len := len) (p := p + 1) hp
  refine zFunB_of (by decide) oX1_readMixed tbX1 (Nat.le_of_ble_eq_true rfl) (fun Z o => ?_)
  have nul : ∀ (kc ks pc : Nat) (p' : Nat) (NL : List zRu) (lv : zL), kc ≤ 2 * cap + 1 → ks ≤ 4 * (2 * cap + 1) → (pc = 28 ∨ pc = 49 ∨ pc = 72) → pM f len R p = (p', none) → NL.length ≤ 2 * cap + 1 → okR NL → Z kc ks pc (rdr f (nI len) (nI p') ++ pol 2 NL) lv [] := by
    intro kc ks pc p' NL lv h1 h2 hpc er hc hok
    have fin : zRt (some (.object RX2)) (some .null) ∧ (rdr f (nI len) (nI p)).length ≤ (rdr f (nI len) (nI p') ++ pol 2 NL).length ∧ rdP f len (dd + 1) (2 * cap + 1) (pM f len R p) (rdr f (nI len) (nI p') ++ pol 2 NL) (some .null) := ⟨⟨_, rfl⟩, rdr_le _, NL, by rw [er], hc, hok, by rw [er]⟩
    rcases hpc with rfl | rfl | rfl
    · exact o.1 kc ks 100 [] 28 _ _ _ h1 h2 fin
    · exact o.1 kc ks 100 [] 49 _ _ _ h1 h2 fin
    · exact o.1 kc ks 100 [] 72 _ _ _ h1 h2 fin
  refine o.1 0 0 100 [] 0 _ _ _ (Nat.zero_le _) (Nat.zero_le _) ?_
  show Z 0 0 11 (rdr f (nI len) (nI p + nI 1)) _ [.ref 0]
  rw [nI_add]
  show Z 0 0 11 (rdr f (nI len) (nI (p + 1)) ++ pol 2 []) _ ([].reverse ++ [.ref 0])
  refine o.cR vX1_35 (c_readNumber (p := p + 1) hl hp) rfl ?_ rfl rfl (by omega) (by decide) (Nat.zero_le _) (Nat.zero_le _)
  generalize hrd : rdN f len (p + 1) = rd at hn1 ⊢
  obtain ⟨p1, k⟩ := rd
  obtain ⟨hp1, hk⟩ := hn1
  have hp1 : p1 ≤ len := hp1
  have hk : k < 100 := hk
  show Z 0 0 14 (rdr f (nI len) (nI p1) ++ pol 2 []) _ [.int (nI k)]
  refine o.1 0 0 100 [28] 14 _ _ _ (Nat.zero_le _) (Nat.zero_le _) ⟨fun q => ?_, fun q => ?_⟩
  · have q : nI k = 0 := q
    have h0 : k = 0 := by
      rcases Nat.eq_zero_or_pos k with z | z
      · exact z
      · exact absurd q (nI_ne0 z (by omega))
    exact nul 0 0 28 p1 [] _ (Nat.zero_le _) (Nat.zero_le _) (Or.inl rfl) (by unfold pM; rw [hrd]; show (if k = 0 then _ else _) = _; rw [if_pos h0]) (Nat.zero_le _) okR_nil
  have q : ¬ nI k = 0 := q
  have hk0 : ¬ k = 0 := fun z => q (by rw [z]; decide)
  show Z 0 0 22 (rdr f (nI len) (nI p1) ++ pol 2 []) _ ([.int (nI 63)].reverse ++ [.ref 0])
  refine o.cR vX1_41 (c_passes (p := p1) (k := 63) hl hp1 (by omega)) rfl ?_ rfl rfl (by omega) (by decide) (Nat.zero_le _) (Nat.zero_le _)
  have hpM : pM f len R p = if hrC f len p1 = nI 63 then (match R (p1 + 1) with
    | (p2, none) => (p2, none)
    | (p2, some a) => if hrC f len p2 = nI 58 then (match R (p2 + 1) with
      | (p3, none) => (p3, none)
      | (p3, some b) => if hrC f len p3 = nI 41 then (p3 + 1, some (fun x => if x < nI k then a x else b x)) else (p3, none))
      else (p2, none))
    else (p1, none) := by
    unfold pM
    rw [hrd]
    exact if_neg hk0
  by_cases hq1 : ¬ hrC f len p1 = nI 63
  · rw [if_neg hq1, decide_eq_false hq1]
    refine o.1 0 0 100 [28] 25 _ _ _ (Nat.zero_le _) (Nat.zero_le _) ⟨fun q => absurd ((zB_0 false).mpr rfl) q, fun _ => ?_⟩
    exact nul 0 0 28 p1 [] _ (Nat.zero_le _) (Nat.zero_le _) (Or.inl rfl) (by rw [hpM, if_neg hq1]) (Nat.zero_le _) okR_nil
  have hq1 : hrC f len p1 = nI 63 := Classical.not_not.mp hq1
  have hp1' : p1 + 1 ≤ len := hr_lt (by omega) hq1
  rw [if_pos hq1, decide_eq_true hq1]
  rw [if_pos hq1] at hpM
  refine o.1 0 0 100 [] 25 _ _ _ (Nat.zero_le _) (Nat.zero_le _) ⟨fun _ => ?_, fun q => absurd q (by decide)⟩
  show Z 0 0 32 (rdr f (nI len) (nI (p1 + 1)) ++ pol 2 []) [some (.ref 0), some (.int (nI op)), some (.int (nI k)), none, none] [.int (nI op), .ref 0]
  have hle2 := hRle (p1 + 1) hp1'
  have ih1 := ih (p1 + 1) hp1'
  generalize hR1 : R (p1 + 1) = r1 at hle2 ih1 hpM
  obtain ⟨p2, o2⟩ := r1
  have hle2 : p2 ≤ len := hle2
  refine o.rd (P := []) okR_nil.1 (by show 0 + cap ≤ 1000; omega) vX1_22 ih1 rfl (zcL_s (zcV_r (Nat.le_of_ble_eq_true rfl)) (zcL_s zcV_i (zcL_s zcV_i (zcL_n (zcL_n zcL_nil))))) (fun NL hc hok hres => ?_) (fun NL i a hc hok hres hi hDN => ?_) rfl (by omega) (by decide) (by omega) (by omega)
  · have hres : o2 = none := hres
    subst hres
    have eN : ([] : List zRu) ++ shR ([] : List zRu).length NL = NL := shR_0 NL
    rw [eN, Nat.zero_add, Nat.zero_add]
    refine o.1 cap (4 * cap) 100 [49] 35 _ _ _ (by omega) (by omega) ?_
    exact nul cap (4 * cap) 49 p2 NL _ (by omega) (by omega) (Or.inr (Or.inl rfl)) hpM (by omega) hok
  have hres : o2 = some a := hres
  subst hres
  have eN : ([] : List zRu) ++ shR ([] : List zRu).length NL = NL := shR_0 NL
  rw [eN, Nat.zero_add, Nat.zero_add]
  have hpM : pM f len R p = if hrC f len p2 = nI 58 then (match R (p2 + 1) with
      | (p3, none) => (p3, none)
      | (p3, some b) => if hrC f len p3 = nI 41 then (p3 + 1, some (fun x => if x < nI k then a x else b x)) else (p3, none))
      else (p2, none) := hpM
  show Z cap (4 * cap) 35 (rdr f (nI len) (nI p2) ++ pol 2 NL) [some (.ref 0), some (.int (nI op)), some (.int (nI k)), none, none] [.ref (i + 2)]
  refine o.1 cap (4 * cap) 100 [] 35 _ _ _ (by omega) (by omega) ?_
  show Z cap (4 * cap) 43 (rdr f (nI len) (nI p2) ++ pol 2 NL) [some (.ref 0), some (.int (nI op)), some (.int (nI k)), some (.ref (i + 2)), none] ([.int (nI 58)].reverse ++ [.ref 0])
  refine o.cR vX1_41 (c_passes (p := p2) (k := 58) hl hle2 (by omega)) rfl ?_ rfl rfl (by omega) (by decide) (by omega) (by omega)
  by_cases hq2 : ¬ hrC f len p2 = nI 58
  · rw [if_neg hq2, decide_eq_false hq2]
    refine o.1 cap (4 * cap) 100 [49] 46 _ _ _ (by omega) (by omega) ⟨fun q => absurd ((zB_0 false).mpr rfl) q, fun _ => ?_⟩
    exact nul cap (4 * cap) 49 p2 NL _ (by omega) (by omega) (Or.inr (Or.inl rfl)) (by rw [hpM, if_neg hq2]) (by omega) hok
  have hq2 : hrC f len p2 = nI 58 := Classical.not_not.mp hq2
  have hp2' : p2 + 1 ≤ len := hr_lt (by omega) hq2
  rw [if_pos hq2, decide_eq_true hq2]
  rw [if_pos hq2] at hpM
  refine o.1 cap (4 * cap) 100 [] 46 _ _ _ (by omega) (by omega) ⟨fun _ => ?_, fun q => absurd q (by decide)⟩
  show Z cap (4 * cap) 53 (rdr f (nI len) (nI (p2 + 1)) ++ pol 2 NL) [some (.ref 0), some (.int (nI op)), some (.int (nI k)), some (.ref (i + 2)), none] [.int (nI op), .ref 0]
  have hle3 := hRle (p2 + 1) hp2'
  have ih2 := ih (p2 + 1) hp2'
  generalize hR2 : R (p2 + 1) = r2 at hle3 ih2 hpM
  obtain ⟨p3, o3⟩ := r2
  have hle3 : p3 ≤ len := hle3
  have hln : (rdr f (nI len) (nI (p2 + 1)) ++ pol 2 NL).length = 2 + NL.length := by rw [List.length_append, pol_len]; rfl
  refine o.rd (P := NL) hok.1 (by omega) vX1_22 ih2 rfl (zcL_s (zcV_r (by rw [hln]; omega)) (zcL_s zcV_i (zcL_s zcV_i (zcL_s (zcV_r (by rw [hln]; omega)) (zcL_n zcL_nil))))) (fun NL2 hc2 hok2 hres => ?_) (fun NL2 j b hc2 hok2 hres hj hDN2 => ?_) rfl (by omega) (by decide) (by omega) (by omega)
  · have hres : o3 = none := hres
    subst hres
    have hl3 : (NL ++ shR NL.length NL2).length = NL.length + NL2.length := by rw [List.length_append, shR_len]
    refine o.1 (cap + cap) (4 * cap + 4 * cap) 100 [72] 56 _ _ _ (by omega) (by omega) ?_
    exact nul (cap + cap) (4 * cap + 4 * cap) 72 p3 (NL ++ shR NL.length NL2) _ (by omega) (by omega) (Or.inr (Or.inr rfl)) hpM (by omega) (okR_app hok hok2)
  have hres : o3 = some b := hres
  subst hres
  have hpM : pM f len R p = if hrC f len p3 = nI 41 then (p3 + 1, some (fun x => if x < nI k then a x else b x)) else (p3, none) := hpM
  have hok3 := okR_app hok hok2
  have hl3 : (NL ++ shR NL.length NL2).length = NL.length + NL2.length := by rw [List.length_append, shR_len]
  have hD3 : DN (NL ++ shR NL.length NL2) dd i a := DN_app hDN
  have hD4 : DN (NL ++ shR NL.length NL2) dd (j + NL.length) b := DN_sh hDN2
  generalize hN3 : NL ++ shR NL.length NL2 = N3 at hok3 hl3 hD3 hD4 ⊢
  show Z (cap + cap) (4 * cap + 4 * cap) 56 (rdr f (nI len) (nI p3) ++ pol 2 N3) [some (.ref 0), some (.int (nI op)), some (.int (nI k)), some (.ref (i + 2)), none] [.ref (j + NL.length + 2)]
  refine o.1 (cap + cap) (4 * cap + 4 * cap) 100 [] 56 _ _ _ (by omega) (by omega) ?_
  show Z (cap + cap) (4 * cap + 4 * cap) 66 (rdr f (nI len) (nI p3) ++ pol 2 N3) [some (.ref 0), some (.int (nI op)), some (.int (nI k)), some (.ref (i + 2)), some (.ref (j + NL.length + 2))] ([.int (nI 41)].reverse ++ [.ref 0])
  refine o.cR vX1_41 (c_passes (p := p3) (k := 41) hl hle3 (by omega)) rfl ?_ rfl rfl (by omega) (by decide) (by omega) (by omega)
  by_cases hq3 : ¬ hrC f len p3 = nI 41
  · rw [if_neg hq3, decide_eq_false hq3]
    refine o.1 (cap + cap) (4 * cap + 4 * cap) 100 [72] 69 _ _ _ (by omega) (by omega) ⟨fun q => absurd ((zB_0 false).mpr rfl) q, fun _ => ?_⟩
    exact nul (cap + cap) (4 * cap + 4 * cap) 72 p3 N3 _ (by omega) (by omega) (Or.inr (Or.inr rfl)) (by rw [hpM, if_neg hq3]) (by omega) hok3
  have hq3 : hrC f len p3 = nI 41 := Classical.not_not.mp hq3
  rw [if_pos hq3, decide_eq_true hq3]
  rw [if_pos hq3] at hpM
  refine o.1 (cap + cap) (4 * cap + 4 * cap) 100 [74] 69 _ _ _ (by omega) (by omega) ⟨fun _ => ?_, fun q => absurd q (by decide)⟩
  have hln : (rdr f (nI len) (nI (p3 + 1)) ++ pol 2 N3).length = 2 + N3.length := by rw [List.length_append, pol_len]; rfl
  refine o.nw hok3.1 (by omega) (zcL_s (zcV_r (by rw [hln]; omega)) (zcL_s zcV_i (zcL_s zcV_i (zcL_s (zcV_r (by rw [hln]; omega)) (zcL_s (zcV_r (by rw [hln]; omega)) zcL_nil))))) zcS_nil ?_ rfl (by omega) (by omega)
  refine o.1 (cap + cap + 1) (4 * cap + 4 * cap + 4) 100 [] 77 _ _ _ (by omega) (by omega) ?_
  show Z (cap + cap + 1) (4 * cap + 4 * cap + 4) 84 (rdr f (nI len) (nI (p3 + 1)) ++ pol 2 N3 ++ [nru]) _ [.ref (j + NL.length + 2), .ref (i + 2), .int (nI k), .int (nI 40), .ref (N3.length + 2), .ref (N3.length + 2)]
  refine o.mk (P := N3) (u := (nI 40, nI k, some i, some (j + NL.length))) (chr_ok (by omega)) ?_ rfl (by omega) (by omega) (by omega)
  refine o.1 (cap + cap + 1) (4 * cap + 4 * cap + 4) 100 [] 87 _ _ _ (by omega) (by omega) ⟨⟨_, rfl⟩, rdr_le _, N3 ++ [(nI 40, nI k, some i, some (j + NL.length))], ?_, ?_, okR_one hok3 (fun a h => by cases h; omega) (fun a h => by cases h; omega) ⟨k, hk, rfl⟩, ?_⟩
  · rw [hpM]
  · rw [List.length_append]; show N3.length + 1 ≤ _; omega
  · rw [hpM]
    refine ⟨N3.length, rfl, by rw [List.length_append]; show _ < N3.length + 1; omega, Or.inr ⟨nI 40, k, i, j + NL.length, a, b, ?_, hk, DN_app hD3, DN_app hD4, rfl⟩⟩
    rw [List.getElem?_append_right (Nat.le_refl _), Nat.sub_self]
    rfl
theorem rcap_le {d : Nat} (h : d ≤ 4) : rcap d ≤ 31 := by
  match d, h with
  | 0, _ => decide
  | 1, _ => decide
  | 2, _ => decide
  | 3, _ => decide
  | 4, _ => decide
set_option maxRecDepth 10000 in
theorem c_readRule (hl : len ≤ 24) : ∀ d op, op + d = 4 → ∀ p, p ≤ len → zFunB l D C yX1_readRule cX1_readRule 4 (some (.object RX2)) (zRA (2 * d + 3) (rcap d) (4 * rcap d)) [.ref 0, .int (nI op)] (rdr f (nI len) (nI p)) (rdP f len d (rcap d) (pR f len d p))
  | 0, op, hop, p, hp => c_readRule_of (alt := (p, none)) hl hp (rcap_pos 0) (by omega) (by decide) (by decide) (fun hc Z o => by
    obtain rfl : op = 4 := by omega
    refine o.1 0 0 100 [] 123 _ _ _ (Nat.zero_le _) (Nat.zero_le _) ⟨fun _ => ⟨⟨_, rfl⟩, Nat.le_refl 2, [], rfl, Nat.zero_le _, okR_nil, rfl⟩, fun q => absurd (nI_le (Nat.le_refl 4) (by omega)) q⟩)
  | d + 1, op, hop, p, hp => c_readRule_of (alt := pM f len (pR f len d) p) hl hp (rcap_pos (d + 1)) (by omega) (rcap_pos (d + 1)) (by have := rcap_pos (d + 1); omega) (fun hc Z o => by
    have hc31 := rcap_le (d := d) (by omega)
    refine o.1 0 0 100 [] 123 _ _ _ (Nat.zero_le _) (Nat.zero_le _) ⟨fun q => absurd q (by show ¬ nI 4 ≤ nI op; exact nI_ge (by omega) (by omega)), fun _ => ?_⟩
    show Z 0 0 132 (rdr f (nI len) (nI p) ++ pol 2 []) [some (.ref 0), some (.int (nI op)), some (.int (nI 40)), none] [.int (nI op + nI 1), .ref 0]
    rw [nI_add]
    refine o.rd (P := []) okR_nil.1 (by show 0 + (2 * rcap d + 1) ≤ 1000; omega) vX1_38 (c_readMixed (op := op + 1) (dd := d) hl (hr_lt (by omega) hc) (pR_le d) (by omega) (c_readRule hl d (op + 1) (by omega)) (by omega)) rfl (zcL_s (zcV_r (Nat.le_of_ble_eq_true rfl)) (zcL_s zcV_i (zcL_s zcV_i (zcL_n zcL_nil)))) (fun NL hcc hok hres => ?_) (fun NL i a hcc hok hres hi hDN => ?_) rfl (by omega) (by decide) (by show 0 + (2 * rcap d + 1) ≤ 2 * rcap d + 1; omega) (by show 0 + (4 * (2 * rcap d + 1)) ≤ 4 * (2 * rcap d + 1); omega)
    · have eN : ([] : List zRu) ++ shR ([] : List zRu).length NL = NL := shR_0 NL
      rw [eN]
      exact o.1 _ _ 100 [] 135 _ _ _ (by show 0 + (2 * rcap d + 1) ≤ 2 * rcap d + 1; omega) (by show 0 + (4 * (2 * rcap d + 1)) ≤ 4 * (2 * rcap d + 1); omega) ⟨⟨_, rfl⟩, rdr_le _, NL, rfl, hcc, hok, by rw [hres]⟩
    · have eN : ([] : List zRu) ++ shR ([] : List zRu).length NL = NL := shR_0 NL
      rw [eN]
      exact o.1 _ _ 100 [] 135 _ _ _ (by show 0 + (2 * rcap d + 1) ≤ 2 * rcap d + 1; omega) (by show 0 + (4 * (2 * rcap d + 1)) ≤ 4 * (2 * rcap d + 1); omega) ⟨⟨_, rfl⟩, rdr_le _, NL, rfl, hcc, hok, by rw [hres]; exact ⟨i, rfl, hi, hDN⟩⟩)
/-- the whole text -/
def pA (f : Nat → Int32) (len : Nat) : Nat × Option zDn := if (pR f len 4 0).1 = len then pR f len 4 0 else ((pR f len 4 0).1, none)
set_option maxRecDepth 10000 in
theorem c_readAll {pl : Int32} (hl : len ≤ 24) : zFunB l D C yX1_readAll cX1_readAll 2 (some (.object RX2)) (zRA 12 31 124) [.ref 0] (rdr f (nI len) pl) (rdP f len 4 31 (pA f len)) := by
  refine zFunB_of (by decide) oX1_readAll tbX1 (Nat.le_of_ble_eq_true rfl) (fun Z o => ?_)
  refine o.1 0 0 100 [] 0 _ _ _ (Nat.zero_le _) (Nat.zero_le _) ?_
  show Z 0 0 7 (rdr f (nI len) (nI 0) ++ pol 2 []) [some (.ref 0), none] [.int (nI 0), .ref 0]
  have hle := pR_le (f := f) (len := len) 4 0 (Nat.zero_le _)
  refine o.rd (P := []) okR_nil.1 (by decide) vX1_22 (c_readRule hl 4 0 (by omega) 0 (Nat.zero_le _)) rfl (zcL_s (zcV_r (Nat.le_of_ble_eq_true rfl)) (zcL_n zcL_nil)) (fun NL hcc hok hres => ?_) (fun NL i a hcc hok hres hi hDN => ?_) rfl (by decide) (by decide) (by decide) (by decide)
  · have eN : ([] : List zRu) ++ shR ([] : List zRu).length NL = NL := shR_0 NL
    rw [eN]
    have eA : (pA f len).1 = (pR f len 4 0).1 ∧ (pA f len).2 = none := by
      unfold pA
      split
      · exact ⟨rfl, hres⟩
      · exact ⟨rfl, rfl⟩
    have fin : zRt (some (.object RX2)) (some .null) ∧ (rdr f (nI len) pl).length ≤ (rdr f (nI len) (nI (pR f len 4 0).1) ++ pol 2 NL).length ∧ rdP f len 4 31 (pA f len) (rdr f (nI len) (nI (pR f len 4 0).1) ++ pol 2 NL) (some .null) := ⟨⟨_, rfl⟩, rdr_le _, NL, by rw [eA.1], hcc, hok, by rw [eA.2]⟩
    exact o.1 _ _ 100 [] 10 _ _ _ (by decide) (by decide) ⟨fun _ => fin, fun _ => fin⟩
  · have eN : ([] : List zRu) ++ shR ([] : List zRu).length NL = NL := shR_0 NL
    rw [eN]
    refine o.1 _ _ 100 [] 10 _ _ _ (by decide) (by decide) ⟨fun q => ?_, fun q => ?_⟩
    · have q : ¬ nI (pR f len 4 0).1 = nI len := q
      have hne : ¬ (pR f len 4 0).1 = len := fun z => q (by rw [z])
      have eA : pA f len = ((pR f len 4 0).1, none) := by unfold pA; rw [if_neg hne]
      exact ⟨⟨_, rfl⟩, rdr_le _, NL, by rw [eA], hcc, hok, by rw [eA]⟩
    · have q : nI (pR f len 4 0).1 = nI len := q
      rw [nI_eq (by omega) (by omega)] at q
      have eA : pA f len = pR f len 4 0 := by unfold pA; rw [if_pos q]
      exact ⟨⟨_, rfl⟩, rdr_le _, NL, by rw [eA], hcc, hok, by rw [eA, hres]; exact ⟨i, rfl, hi, hDN⟩⟩
end RUL
end
section
/-! the class's rule() -/
def zcY (RL : List zRu) (Y : zY) : Prop := ∀ k, k < 4 → ∀ j r, (Y.1 k).2.2 j = some r → r < RL.length ∨ zfo (r + 53)
theorem zcE_isl {b n : Nat} {I : zI} (hb : b + 12 ≤ n) (h : ∀ j r, I.2.2 j = some r → r + 53 < n ∨ zfo (r + 53)) : ∀ x ∈ isl b 53 I, zcE n x := fun x hx => by
  simp only [isl, List.mem_cons, List.not_mem_nil, or_false] at hx
  rcases hx with rfl | rfl | rfl | rfl | rfl | rfl | rfl | rfl | rfl | rfl | rfl | rfl
  · intro v hv
    simp only [List.mem_cons, List.not_mem_nil, or_false] at hv
    rcases hv with rfl | rfl | rfl | rfl | rfl | rfl | rfl | rfl | rfl | rfl | rfl | rfl | rfl | rfl | rfl | rfl | rfl | rfl | rfl <;> first
      | exact zcV_i
      | exact zcV_r (by omega)
  · trivial
  · trivial
  · intro j hj r hr
    obtain ⟨a, ha, rfl⟩ := Option.map_eq_some_iff.mp hr
    exact h j a ha
  all_goals trivial
theorem zcW_yam {RL : List zRu} {Y : zY} (hR : wfR RL) (hY : zcY RL Y) : zcW (yamW 53 Y ++ pol 53 RL) := fun x hx => by
  have hl : (yamW 53 Y ++ pol 53 RL).length = 53 + RL.length := by rw [List.length_append, pol_len]; rfl
  rw [hl]
  have hI : ∀ k, k < 4 → ∀ j r, (Y.1 k).2.2 j = some r → r + 53 < 53 + RL.length ∨ zfo (r + 53) := fun k hk j r hr => (hY k hk j r hr).imp (fun h => by omega) id
  rcases List.mem_append.mp hx with h | h
  · rcases List.mem_cons.mp h with h | h
    · subst h
      intro v hv
      simp only [List.mem_cons, List.not_mem_nil, or_false] at hv
      rcases hv with rfl | rfl | rfl | rfl | rfl | rfl | rfl | rfl <;> first
        | exact zcV_i
        | exact zcV_r (by omega)
    rcases List.mem_append.mp h with h | h
    · exact zcE_isl (by omega) (hI 0 (by omega)) x h
    rcases List.mem_append.mp h with h | h
    · exact zcE_isl (by omega) (hI 1 (by omega)) x h
    rcases List.mem_append.mp h with h | h
    · exact zcE_isl (by omega) (hI 2 (by omega)) x h
    rcases List.mem_append.mp h with h | h
    · exact zcE_isl (by omega) (hI 3 (by omega)) x h
    simp only [List.mem_cons, List.not_mem_nil, or_false] at h
    rcases h with rfl | rfl | rfl | rfl
    · trivial
    · intro v hv
      simp only [List.mem_cons, List.not_mem_nil, or_false] at hv
      rcases hv with rfl | rfl | rfl <;> first
        | exact zcV_i
        | exact zcV_r (by omega)
    · trivial
    · trivial
  · exact zcE_pol hR (Nat.le_refl _) x h
def sgR : Nat → Nat := fun i => if i < 2 then i + 50 else i
theorem ysbR2 {Y : zY} (T : zS) : zsb sgR (yamW 53 Y ++ T) (rdr (Y.2.1 1) (Y.2.2 0) (Y.2.2 1)) := ⟨fun k x hx => by
  match k, hx with
  | 0, hx => cases hx; rfl
  | 1, hx => cases hx; rfl
  | k + 2, hx => simp [rdr] at hx, fun i j hi hj h => by
  have hi : i < 2 := hi
  have hj : j < 2 := hj
  unfold sgR at h
  rw [if_pos hi, if_pos hj] at h
  omega⟩
theorem zpl_yr {Y : zY} {RL NL : List zRu} {f : Nat → Int32} {len pl : Int32} (hN : wfR NL) (hB : 53 + RL.length + NL.length ≤ zBIG) : zplA sgR (yamW 53 Y ++ pol 53 RL) 2 (rdr f len pl ++ pol 2 NL) (yamW 53 (setD Y f len pl) ++ pol 53 (RL ++ shR RL.length NL)) := by
  have hl : (yamW 53 Y ++ pol 53 RL).length = 53 + RL.length := by rw [List.length_append, pol_len]; rfl
  have hl2 : (rdr f len pl ++ pol 2 NL).length = 2 + NL.length := by rw [List.length_append, pol_len]; rfl
  have hs : ∀ r, r < NL.length → zsg sgR 2 (53 + RL.length) (r + 2) = r + (53 + RL.length) := fun r hr => by
    rw [zsg_hi (by omega) (by unfold zBIG at *; omega) (by omega)]; omega
  unfold zplA
  rw [hl, hl2]
  refine ⟨by rw [List.length_append, pol_len, List.length_append, shR_len]; show 53 + _ = _; omega, fun k y hy => ?_, fun i hi hne => ?_⟩
  · match k, hy with
    | 0, hy => cases hy; rfl
    | 1, hy => cases hy; rfl
    | k + 2, hy =>
      rw [List.getElem?_append_right (by show 2 ≤ k + 2; omega)] at hy
      have hy : (pol 2 NL)[k + 2 - 2]? = some y := hy
      rw [Nat.add_sub_cancel] at hy
      have hk : k < NL.length := by
        have := (List.getElem?_eq_some_iff.mp hy).1
        rwa [pol_len] at this
      rw [hs k hk, pol_app, List.getElem?_append_right (by rw [yamW_len]; omega), yamW_len, List.getElem?_append_right (by rw [pol_len]; omega), pol_len, show k + (53 + RL.length) - 53 - RL.length = k by omega]
      exact pol_zrw hN hs hy
  · have h0 : ¬ 50 = i := hne 0 (by omega)
    have h1 : ¬ 51 = i := hne 1 (by omega)
    have h3 := (yplR (Y := Y) (pol 53 RL) f len pl).2.2 i (fun k hk => by
      show k + 50 ≠ i
      omega)
    rw [pol_app, ← List.append_assoc, List.getElem?_append_left (by rw [List.length_append, pol_len, yamW_len]; omega)]
    exact h3
-- texts that are alike are read alike
theorem hr_c {f g : Nat → Int32} {len : Nat} (h : ∀ j, j < len → f j = g j) : hrC f len = hrC g len := by
  funext p
  unfold hrC
  split
  · exact h p (by assumption)
  · rfl
theorem rdN_c {f g : Nat → Int32} {len : Nat} (h : hrC f len = hrC g len) : rdN f len = rdN g len := by
  funext p
  unfold rdN
  rw [h]
theorem pS_c {f g : Nat → Int32} {len p : Nat} {alt : Nat × Option zDn} (h : hrC f len = hrC g len) : pS f len p alt = pS g len p alt := by
  unfold pS
  rw [h, rdN_c h]
theorem pM_c {f g : Nat → Int32} {len p : Nat} {R : Nat → Nat × Option zDn} (h : hrC f len = hrC g len) : pM f len R p = pM g len R p := by
  unfold pM
  rw [h, rdN_c h]
theorem pR_c {f g : Nat → Int32} {len : Nat} (h : hrC f len = hrC g len) : ∀ d, pR f len d = pR g len d
  | 0 => by funext p; exact pS_c h
  | d + 1 => by
    funext p
    show pS f len p (pM f len (pR f len d) p) = pS g len p (pM g len (pR g len d) p)
    rw [pS_c h, pM_c h, pR_c h d]
theorem pA_c {f g : Nat → Int32} {len : Nat} (h : ∀ j, j < len → f j = g j) : pA f len = pA g len := by
  unfold pA
  rw [pR_c (hr_c h) 4]
def sRule (S : zF) : zA := if S.1.1 2 = 10 then sRf S 6 else match (pA S.2.2.1.2 S.2.2.1.1).2 with
  | some g => (nI (S.1.1 2), (tN (tD S.1 (fun r => if r = S.1.1 2 then g else S.1.2.2.2.2 r)) 2 (S.1.1 2 + 1), S.2.1, (0, S.2.2.1.2), S.2.2.2))
  | none => (zi (-20) - nI (pA S.2.2.1.2 S.2.2.1.1).1, (S.1, S.2.1, (0, S.2.2.1.2), S.2.2.2))
theorem repI_app {RL X : List zRu} {I : zI} {t : zT} (hR : wfR RL) (h : repI RL I t) : repI (RL ++ X) I t := by
  refine ⟨h.1, h.2.1, fun r hr => ?_, fun k hk r hkr => ?_⟩
  · obtain ⟨i, g1, g2, g3⟩ := h.2.2.1 r hr
    exact ⟨i, g1, by rw [List.length_append]; omega, fun x => by rw [dnI_app hR g1 g2, g3 x]⟩
  · have := h.2.2.2 k hk r hkr
    rw [List.length_append]; omega
section PUB7
variable {l : Launch} {D : va_G} {C : zC} {Y : zY} {RL : List zRu} {S : zF} {c : Nat}
theorem zOpA.cVi {d RC RS kc ks pc idx nL' d' n n0 : Nat} {own : String} {tab : List (Nat × Instr)} {fl : Nat → Option (Nat × Nat × Nat)} {ki : Nat → Option Int32} {kj : Nat → Option Int64} {Kr : zS → Option Value → Prop} {Z : Nat → Nat → zP} {y' : MethodName} {cc' : ByteArray} {lv : zL} {ret' : Option FieldType} (o : zOpA l D C own tab fl ki kj d RC RS n0 Kr Z) {ws : zS} {Po : zS → Option Value → Prop} {As st rest : List Value} {b0 : Nat} (hW : zCV own idx y' cc' nL' ret' n) (hM : zFun l D C y' cc' nL' ret' (zR d') (.ref b0 :: As) ws Po) (kk : ∀ (w : zS) (rv : Option Value), w.length = ws.length → Po w rv → Z kc ks (pc + 3) w lv (rv.toList ++ rest)) (hrc : ∃ (ci : Nat) (fs : List Value) (r : vw_C), ws[b0]? = some (.inr (.inr (ci, fs))) ∧ vwCl[ci]? = some r ∧ r.1 = y'.cls)
    (hd : zfd tab pc = some (.invokevirtual idx)) (hst : st = As.reverse ++ .ref b0 :: rest) (hn : As.length = n) (hrest : (rest.map fun v => v.category).sum ≤ 8) (hdd : d' < d) (hL : nL' ≤ 21) (hkc : kc ≤ RC) (hks : ks ≤ RS) : Z kc ks pc ws lv st :=
  o.2.1 kc ks y' cc' nL' n idx pc ret' d' (fun i => i) ws ws lv Po As st rest b0 hW hM (zsb_id ws) hrc hd (by rw [zas_id]; exact hst) hn hrest hdd hL hkc hks (fun w rv h1 h2 => ⟨w, zpl_id h1, by rw [zrv_id]; exact kk w rv h1 h2⟩)
set_option maxRecDepth 10000 in
theorem y_rule (h : repY RL Y S c) (hY : zcY RL Y) (hlen : RL.length ≤ 5000) : zFunB l D C yX3_rule cX3_rule 2 (some .int) (zRA 13 31 124) [.ref 0] (yamW 53 Y ++ pol 53 RL) (fun w rv => ∃ (Y' : zY) (RL' : List zRu), w = yamW 53 Y' ++ pol 53 RL' ∧ repY RL' Y' (sRule S).2 (c + 1) ∧ RL'.length ≤ RL.length + 31 ∧ zcY RL' Y' ∧ rv = some (.int (sRule S).1)) := by
  have hI := h.2.1.1
  have hT := h.2.1.2
  have hrb : S.1.1 2 ≤ 10 := hT.1.2.2.2.1
  have e3 : (Y.1 0).1 3 = nI (S.1.1 2) := hI.1.2.2.2.1
  obtain ⟨t0, t1, t2⟩ := h.2.2.2.1
  have hl : (yamW 53 Y ++ pol 53 RL).length = 53 + RL.length := by rw [List.length_append, pol_len]; rfl
  refine zFunB_of (by decide) oX3_rule tbX3 (Nat.le_of_ble_eq_true rfl) (fun Z o => ?_)
  refine o.1 0 0 100 [19] 0 _ _ _ (Nat.zero_le _) (Nat.zero_le _) ⟨fun q => ?_, fun q => ?_⟩
  · have q : (Y.1 0).1 3 < nI 10 := q
    rw [e3, nI_ltI (by omega) (by omega)] at q
    have h10 : ¬ S.1.1 2 = 10 := by omega
    refine o.1 0 0 100 [] 19 _ _ _ (Nat.zero_le _) (Nat.zero_le _) ?_
    show Z 0 0 23 (yamW 53 Y ++ pol 53 RL) [some (.ref 0), none] [.ref 50]
    have eA : pA (Y.2.1 1) S.2.2.1.1 = pA S.2.2.1.2 S.2.2.1.1 := pA_c t2
    have hsb := ysbR2 (Y := Y) (pol 53 RL)
    rw [t0] at hsb
    refine o.2.2.2.1 0 0 31 124 yX1_readAll cX1_readAll 2 0 100 23 (some (.object RX2)) 12 sgR (rdr (Y.2.1 1) (nI S.2.2.1.1) (Y.2.2 1)) _ _ _ [] _ [] 0 vX3_100 (c_readAll t1) hsb (fun k hk => ?_) (fun i hi => if_neg (by have := hi.1; unfold zBIG at this; omega)) (by rw [hl]; show 2 ≤ _; omega) ⟨1, _, _, rfl, rfl, rfl⟩ (by rw [hl]; omega) (zcW_yam h.1.1 hY) (zcL_s (zcV_r (by rw [hl]; omega)) (zcL_n zcL_nil)) zcS_nil rfl rfl rfl (by decide) (by decide) (by decide) (by decide) (by decide) (fun w rv _ hpo => ?_)
    · have hk : k < 2 := hk
      unfold sgR
      rw [if_pos hk, hl]; omega
    obtain ⟨NL, rfl, hc, hok, hm⟩ := hpo
    refine ⟨_, zpl_yr hok.1 (by unfold zBIG; omega), by rw [List.length_append, pol_len, yamW_len, List.length_append, shR_len]; unfold zBIG; omega, ?_⟩
    have hok2 := okR_app h.1 hok
    have hl3 : (RL ++ shR RL.length NL).length = RL.length + NL.length := by rw [List.length_append, shR_len]
    rw [eA] at hm ⊢
    have hY2 : zcY (RL ++ shR RL.length NL) Y := fun k hk j r hr => (hY k hk j r hr).imp (fun z => by rw [hl3]; omega) id
    have hmo := rep_mono h (Nat.le_succ c)
    have hI2 : repI (RL ++ shR RL.length NL) (Y.1 0) S.1 := repI_app h.1.1 hI
    have him : ∀ d, c ≤ d → (match S.2.1 with
      | some t => repI (RL ++ shR RL.length NL) (Y.1 1) t ∧ okT t d ∧ Y.2.2 2 = nI 1
      | none => Y.2.2 2 = nI 0) := fun d hd => by
      have h3 := h.2.2.1
      revert h3
      cases S.2.1 with
      | none => exact id
      | some t => exact fun z => ⟨repI_app h.1.1 z.1, okT_mono z.2.1 hd, z.2.2⟩
    revert hm
    generalize hpa : pA S.2.2.1.2 S.2.2.1.1 = pa
    obtain ⟨p', og⟩ := pa
    cases og with
    | none =>
      intro hm
      have hm : rv = some .null := hm
      subst hm
      have es : sRule S = (zi (-20) - nI p', (S.1, S.2.1, (0, S.2.2.1.2), S.2.2.2)) := by
        rw [sRule, if_neg h10, hpa]
      refine o.1 31 124 100 [] 26 _ _ _ (by decide) (by decide) ⟨⟨_, rfl, rfl⟩, ?_, setD Y (Y.2.1 1) (nI 0) (nI p'), RL ++ shR RL.length NL, rfl, ?_, by omega, hY2, by rw [es]; rfl⟩
      · show (yamW 53 Y ++ pol 53 RL).length ≤ (yamW 53 (setD Y (Y.2.1 1) (nI 0) (nI p')) ++ pol 53 (RL ++ shR RL.length NL)).length
        rw [hl, List.length_append, pol_len, yamW_len, hl3]; omega
      · rw [es]
        exact ⟨hok2, ⟨hI2, okT_mono hT (Nat.le_succ c)⟩, him (c + 1) (Nat.le_succ c), ⟨rfl, Nat.zero_le _, fun j hj => absurd hj (Nat.not_lt_zero j)⟩, h.2.2.2.2⟩
    | some g =>
      rintro ⟨i, rfl, hi, hDN⟩
      have es : sRule S = (nI (S.1.1 2), (tN (tD S.1 (fun r => if r = S.1.1 2 then g else S.1.2.2.2.2 r)) 2 (S.1.1 2 + 1), S.2.1, (0, S.2.2.1.2), S.2.2.2)) := by
        rw [sRule, if_neg h10, hpa]
      have ezs : zsg sgR 2 (yamW 53 Y ++ pol 53 RL).length (i + 2) = i + RL.length + 53 := by
        rw [hl, zsg_hi (by omega) (by unfold zBIG; omega) (by unfold zBIG; omega)]; omega
      show Z 31 124 26 (yamW 53 (setD Y (Y.2.1 1) (nI S.2.2.1.1) (nI p')) ++ pol 53 (RL ++ shR RL.length NL)) [some (.ref 0), none] [.ref (zsg sgR 2 (yamW 53 Y ++ pol 53 RL).length (i + 2))]
      rw [ezs]
      refine o.1 31 124 100 [] 26 _ _ _ (by decide) (by decide) ?_
      show Z 31 124 55 (yamW 53 (setD Y (Y.2.1 1) (nI 0) (nI p')) ++ pol 53 (RL ++ shR RL.length NL)) [some (.ref 0), some (.ref (i + RL.length + 53))] [.ref (i + RL.length + 53), .ref 1]
      refine o.2.1 31 124 yX0_addRule cX0_addRule 2 1 107 55 (some .int) 0 (sgB 0) (isl 0 12 (Y.1 0) ++ pol 12 (RL ++ shR RL.length NL)) _ _ _ [.ref (i + RL.length + 12)] _ [] 0 vX3_107 (c_addRule (I := Y.1 0) (rc := S.1.1 2) (r := i + RL.length) q (by rw [hl3]; omega) e3) (ysbB (Y := setD Y (Y.2.1 1) (nI 0) (nI p')) (by omega)) ⟨0, _, _, rfl, rfl, rfl⟩ rfl ?_ rfl (by decide) (by decide) (by decide) (by decide) (by decide) (fun w rv _ hpo => ?_)
      · show _ = [Value.ref (sgB 0 (i + RL.length + 12)), .ref 1]
        rw [sgB_hi (by omega)]
      obtain ⟨rfl, rfl⟩ := hpo
      refine ⟨_, yplB (Y := setD Y (Y.2.1 1) (nI 0) (nI p')) (by omega) _, ?_⟩
      refine o.1 31 124 100 [] 58 _ _ _ (by decide) (by decide) ⟨⟨_, rfl, rfl⟩, ?_, setJ (setD Y (Y.2.1 1) (nI 0) (nI p')) 0 (setS (setR (Y.1 0) (va_up (Y.1 0).2.2 (S.1.1 2) (some (i + RL.length)))) 3 (nI (S.1.1 2 + 1))), RL ++ shR RL.length NL, rfl, ?_, by omega, ?_, by rw [es]⟩
      · show (yamW 53 Y ++ pol 53 RL).length ≤ (yamW 53 (setJ (setD Y (Y.2.1 1) (nI 0) (nI p')) 0 (setS (setR (Y.1 0) (va_up (Y.1 0).2.2 (S.1.1 2) (some (i + RL.length)))) 3 (nI (S.1.1 2 + 1)))) ++ pol 53 (RL ++ shR RL.length NL)).length
        rw [hl, List.length_append, pol_len, yamW_len, hl3]; omega
      · rw [es]
        refine ⟨hok2, ⟨⟨⟨hI2.1.1, hI2.1.2.1, hI2.1.2.2.1, rfl, hI2.1.2.2.2.2⟩, hI2.2.1, fun r hr => ?_, fun k hk r hkr => ?_⟩, ?_⟩, him (c + 1) (Nat.le_succ c), ⟨rfl, Nat.zero_le _, fun j hj => absurd hj (Nat.not_lt_zero j)⟩, h.2.2.2.2⟩
        · have hr : r < S.1.1 2 + 1 := hr
          by_cases hrr : r = S.1.1 2
          · subst hrr
            refine ⟨i + RL.length, ?_, by rw [hl3]; omega, fun x => ?_⟩
            · show va_up (Y.1 0).2.2 (S.1.1 2) (some (i + RL.length)) (S.1.1 2) = _
              unfold va_up; rw [if_pos rfl]
            · have hrl : va_up (Y.1 0).2.2 (S.1.1 2) (some (i + RL.length)) (S.1.1 2) = some (i + RL.length) := by unfold va_up; rw [if_pos rfl]
              have := DN_dn (DN_sh (P := RL) hDN) (Nat.le_refl 4) hrl x
              show dnI (RL ++ shR RL.length NL) (va_up (Y.1 0).2.2 (S.1.1 2) (some (i + RL.length))) (S.1.1 2) x = (if S.1.1 2 = S.1.1 2 then g else S.1.2.2.2.2 (S.1.1 2)) x
              rw [this, if_pos rfl]
          · obtain ⟨i', g1, g2, g3⟩ := hI2.2.2.1 r (by omega)
            have g1' : va_up (Y.1 0).2.2 (S.1.1 2) (some (i + RL.length)) r = some i' := by unfold va_up; rw [if_neg hrr]; exact g1
            refine ⟨i', g1', g2, fun x => ?_⟩
            show dnI (RL ++ shR RL.length NL) (va_up (Y.1 0).2.2 (S.1.1 2) (some (i + RL.length))) r x = (if r = S.1.1 2 then g else S.1.2.2.2.2 r) x
            rw [if_neg hrr, ← g3 x]
            unfold dnI
            rw [g1', g1]
        · have hkr : va_up (Y.1 0).2.2 (S.1.1 2) (some (i + RL.length)) k = some r := hkr
          unfold va_up at hkr
          split at hkr
          · cases hkr; rw [hl3]; omega
          · exact hI2.2.2.2 k hk r hkr
        · obtain ⟨⟨c0, c1, c2, c3, c4, c5, c6⟩, d1, d2, d3, d4⟩ := okT_mono hT (Nat.le_succ c)
          refine ⟨⟨c0, c1, c2, by show S.1.1 2 + 1 ≤ 10; omega, c4, c5, c6⟩, d1, d2, fun p hp => ⟨Nat.lt_succ_of_lt (d3 p hp).1, (d3 p hp).2⟩, fun r x hr => ?_⟩
          have hr : r < S.1.1 2 + 1 := hr
          show (((if r = S.1.1 2 then g else S.1.2.2.2.2 r) x).2 < 100 ∧ (((if r = S.1.1 2 then g else S.1.2.2.2.2 r) x).1 = nI 116 → 0 < ((if r = S.1.1 2 then g else S.1.2.2.2.2 r) x).2))
          by_cases hrr : r = S.1.1 2
          · rw [if_pos hrr]
            refine ⟨DN_ok hDN, ?_⟩
            refine pR_try 4 0 g ?_ x (f := S.2.2.1.2) (len := S.2.2.1.1)
            have : (pA S.2.2.1.2 S.2.2.1.1).2 = some g := by rw [hpa]
            unfold pA at this
            split at this
            · exact this
            · cases this
          · rw [if_neg hrr]
            exact d4 r x (by omega)
      · intro k hk j r hr
        by_cases hk0 : k = 0
        · subst hk0
          have hr : va_up (Y.1 0).2.2 (S.1.1 2) (some (i + RL.length)) j = some r := hr
          unfold va_up at hr
          split at hr
          · cases hr; left; rw [hl3]; omega
          · exact hY2 0 hk j r hr
        · have e : (setJ (setD Y (Y.2.1 1) (nI 0) (nI p')) 0 (setS (setR (Y.1 0) (va_up (Y.1 0).2.2 (S.1.1 2) (some (i + RL.length)))) 3 (nI (S.1.1 2 + 1)))).1 k = Y.1 k := if_neg hk0
          rw [e] at hr
          exact hY2 k hk j r hr
  · have q : ¬ (Y.1 0).1 3 < nI 10 := q
    rw [e3, nI_ltI (by omega) (by omega)] at q
    have h10 : S.1.1 2 = 10 := by omega
    have es : sRule S = sRf S 6 := by rw [sRule, if_pos h10]
    show Z 0 0 15 (yamW 53 Y ++ pol 53 RL) [some (.ref 0), none] [.int (zi (-6)), .ref 0]
    refine o.cVi (As := [.int (-(nI 6))]) vX3_48 (c_refuse (k := 6) (by omega) (by omega)) (fun w' rv _ hpo => ?_) ⟨3, _, _, rfl, rfl, rfl⟩ rfl rfl rfl (by decide) (by decide) (by decide) (by decide) (by decide)
    obtain ⟨rfl, rfl⟩ := hpo
    refine o.1 0 0 100 [] 18 _ _ _ (Nat.zero_le _) (Nat.zero_le _) ⟨⟨_, rfl, rfl⟩, Nat.le_refl _, setY Y 2 (rfu (Y.2.1 2) 6), RL, rfl, ?_, by omega, hY, by rw [es]; rfl⟩
    rw [es]
    exact rep_rf h 6
end PUB7
end
section
/-! the reference: its state, and what is true of it without any machine -/
def mN (M : zM) (k : Nat) (x : Int32) : zM := (upd M.1 k x, M.2)
def mR (M : zM) (k : Nat) (f : Nat → Int32) : zM := (M.1, fun j => if j = k then f else M.2 j)
theorem mdW_len (b : Nat) (M : zM) : (mdW b M).length = 22 := rfl
-- knots
def KL (kd kk : Nat → Int32) (lo i : Nat) (g : zDn) : Prop := (lo ≤ i ∧ i < lo + 24) ∧ ∃ (s : Int32) (k : Nat), kd i = s ∧ ¬ s = nI 40 ∧ kk i = nI k ∧ k < 100 ∧ g = fun _ => (s, k)
/-- the knot i, in the place of a rule at lo, is read as g -/
def KN (kd kk ko kt : Nat → Int32) (lo : Nat) : Nat → Nat → zDn → Prop
  | 0, i, g => KL kd kk lo i g
  | d + 1, i, g => KL kd kk lo i g ∨ ((lo ≤ i ∧ i < lo + 24) ∧ kd i = nI 40 ∧ ∃ (k a b : Nat) (ga gb : zDn), kk i = nI k ∧ k < 100 ∧ ko i = nI a ∧ kt i = nI b ∧ KN kd kk ko kt lo d a ga ∧ KN kd kk ko kt lo d b gb ∧ g = fun x => if x < nI k then ga x else gb x)
theorem KN_in {kd kk ko kt : Nat → Int32} {lo : Nat} : ∀ {d i : Nat} {g : zDn}, KN kd kk ko kt lo d i g → lo ≤ i ∧ i < lo + 24
  | 0, _, _, h => h.1
  | d + 1, _, _, h => h.elim (fun h => h.1) (fun h => h.1)
theorem KL_c {kd kk kd' kk' : Nat → Int32} {lo i : Nat} {g : zDn} (h1 : ∀ j, lo ≤ j → j < lo + 24 → kd' j = kd j) (h2 : ∀ j, lo ≤ j → j < lo + 24 → kk' j = kk j) (h : KL kd kk lo i g) : KL kd' kk' lo i g := by
  obtain ⟨hi, s, k, a1, a2, a3, a4, a5⟩ := h
  exact ⟨hi, s, k, by rw [h1 i hi.1 hi.2]; exact a1, a2, by rw [h2 i hi.1 hi.2]; exact a3, a4, a5⟩
theorem KN_c {kd kk ko kt kd' kk' ko' kt' : Nat → Int32} {lo : Nat} (h1 : ∀ j, lo ≤ j → j < lo + 24 → kd' j = kd j) (h2 : ∀ j, lo ≤ j → j < lo + 24 → kk' j = kk j) (h3 : ∀ j, lo ≤ j → j < lo + 24 → ko' j = ko j) (h4 : ∀ j, lo ≤ j → j < lo + 24 → kt' j = kt j) : ∀ {d i : Nat} {g : zDn}, KN kd kk ko kt lo d i g → KN kd' kk' ko' kt' lo d i g
  | 0, _, _, h => KL_c h1 h2 h
  | d + 1, i, g, h => by
    rcases h with h | ⟨hi, a0, k, a, b, ga, gb, a1, a2, a3, a4, a5, a6, a7⟩
    · exact Or.inl (KL_c h1 h2 h)
    · exact Or.inr ⟨hi, by rw [h1 i hi.1 hi.2]; exact a0, k, a, b, ga, gb, by rw [h2 i hi.1 hi.2]; exact a1, a2, by rw [h3 i hi.1 hi.2]; exact a3, by rw [h4 i hi.1 hi.2]; exact a4, KN_c h1 h2 h3 h4 a5, KN_c h1 h2 h3 h4 a6, a7⟩
/-- the reference's island -/
def repT (M : zM) (t : zT) : Prop :=
  (M.1 0 = nI (t.1 0) ∧ M.1 3 = nI (t.1 1) ∧ M.1 4 = nI (t.1 3) ∧ M.1 9 = nI (t.1 5) ∧ M.1 10 = nI (t.1 4) ∧ M.1 11 = nI (t.1 2)) ∧
  (M.2 1 = t.2.1 ∧ M.2 2 = (fun j => nI (t.2.2.1 0 j)) ∧ M.2 3 = (fun j => nI (t.2.2.1 1 j)) ∧ M.2 4 = (fun j => nI (t.2.2.1 2 j)) ∧ M.2 5 = t.2.2.2.1 0 ∧ M.2 6 = t.2.2.2.1 1) ∧
  (∀ r, r < t.1 2 → ∃ i d, M.2 7 r = nI i ∧ KN (M.2 8) (M.2 9) (M.2 10) (M.2 11) (24 * r) d i (t.2.2.2.2 r))
/-- the image in its row -/
def repP (f : Nat → Int32) (t : zT) : Prop :=
  (f 0 = nI (t.1 0) ∧ f 1 = nI (t.1 1) ∧ f 2 = nI (t.1 3) ∧ f 3 = nI (t.1 5) ∧ f 4 = nI (t.1 4) ∧ f 5 = nI (t.1 2)) ∧
  (∀ k, k < 24 → f (6 + 2 * k) = t.2.1 k ∧ f (7 + 2 * k) = nI (t.2.2.1 0 k)) ∧
  (∀ p, p < 8 → f (54 + 4 * p) = nI (t.2.2.1 1 p) ∧ f (55 + 4 * p) = nI (t.2.2.1 2 p) ∧ f (56 + 4 * p) = t.2.2.2.1 0 p ∧ f (57 + 4 * p) = t.2.2.2.1 1 p) ∧
  (∀ r, r < t.1 2 → ∃ i d, f (86 + r) = nI i ∧ KN (fun k => f (96 + 4 * k)) (fun k => f (97 + 4 * k)) (fun k => f (98 + 4 * k)) (fun k => f (99 + 4 * k)) (24 * r) d i (t.2.2.2.2 r))
def repM (M : zM) (S : zF) : Prop :=
  repT M S.1 ∧ (match S.2.1 with
    | some t => repP (M.2 21) t ∧ M.1 39 = nI 1
    | none => M.1 39 = nI 0) ∧ (M.1 18 = nI S.2.2.1.1 ∧ S.2.2.1.1 ≤ 24 ∧ ∀ j, j < S.2.2.1.1 → M.2 12 j = S.2.2.1.2 j) ∧ M.2 13 = S.2.2.2
/-- nothing that lasts has changed -/
def sm0 (M M' : zM) : Prop := (∀ k, k < 19 ∨ k = 39 → M'.1 k = M.1 k) ∧ (∀ k, k < 14 ∨ k = 21 → M'.2 k = M.2 k)
theorem sm0_rf (M : zM) : sm0 M M := ⟨fun _ _ => rfl, fun _ _ => rfl⟩
theorem sm0_tr {M M' M'' : zM} (h : sm0 M M') (h' : sm0 M' M'') : sm0 M M'' := ⟨fun k hk => (h'.1 k hk).trans (h.1 k hk), fun k hk => (h'.2 k hk).trans (h.2 k hk)⟩
theorem sm0_N {M M' : zM} {k : Nat} {x : Int32} (h : sm0 M M') (h1 : 19 ≤ k) (h2 : k ≠ 39) : sm0 M (mN M' k x) := ⟨fun j hj => by
  show upd M'.1 k x j = _
  unfold upd
  rw [if_neg (by omega)]
  exact h.1 j hj, h.2⟩
theorem sm0_R {M M' : zM} {k : Nat} {f : Nat → Int32} (h : sm0 M M') (h1 : 14 ≤ k) (h2 : k ≠ 21) : sm0 M (mR M' k f) := ⟨h.1, fun j hj => by
  show (if j = k then f else M'.2 j) = _
  rw [if_neg (by omega)]
  exact h.2 j hj⟩
theorem repT_sm {M M' : zM} {t : zT} (h : repT M t) (e : sm0 M M') : repT M' t := by
  obtain ⟨⟨a0, a1, a2, a3, a4, a5⟩, ⟨b1, b2, b3, b4, b5, b6⟩, h3⟩ := h
  obtain ⟨e1, e2⟩ := e
  refine ⟨⟨?_, ?_, ?_, ?_, ?_, ?_⟩, ⟨?_, ?_, ?_, ?_, ?_, ?_⟩, ?_⟩
  · rw [e1 0 (by omega)]; exact a0
  · rw [e1 3 (by omega)]; exact a1
  · rw [e1 4 (by omega)]; exact a2
  · rw [e1 9 (by omega)]; exact a3
  · rw [e1 10 (by omega)]; exact a4
  · rw [e1 11 (by omega)]; exact a5
  · rw [e2 1 (by omega)]; exact b1
  · rw [e2 2 (by omega)]; exact b2
  · rw [e2 3 (by omega)]; exact b3
  · rw [e2 4 (by omega)]; exact b4
  · rw [e2 5 (by omega)]; exact b5
  · rw [e2 6 (by omega)]; exact b6
  · rw [e2 7 (by omega), e2 8 (by omega), e2 9 (by omega), e2 10 (by omega), e2 11 (by omega)]; exact h3
theorem repM_sm {M M' : zM} {S : zF} (h : repM M S) (e : sm0 M M') : repM M' S := by
  obtain ⟨h1, h2, h3, h4⟩ := h
  refine ⟨repT_sm h1 e, ?_, ?_, ?_⟩
  · rw [e.1 39 (by omega), e.2 21 (by omega)]; exact h2
  · rw [e.1 18 (by omega), e.2 12 (by omega)]; exact h3
  · rw [e.2 13 (by omega)]; exact h4
theorem repM_rf {M : zM} {S : zF} (h : repM M S) (k : Nat) : repM (mR M 13 (rfu (M.2 13) k)) (S.1, S.2.1, S.2.2.1, rfu S.2.2.2 k) := by
  obtain ⟨h1, h2, h3, h4⟩ := h
  refine ⟨h1, h2, h3, ?_⟩
  show rfu (M.2 13) k = rfu S.2.2.2 k
  rw [h4]
-- numbers
theorem in_isN {x : Int32} {W : Nat} (hW : W < 100) : decide (lN 0 ≤ x.toInt64 ∧ x.toInt64 ≤ (nI W - nI 1).toInt64) = isN x W := by
  have h0 : (0 : Int32).toInt = 0 := by decide
  have e0 : (lN 0 ≤ x.toInt64) ↔ ¬ x < 0 := by
    rw [Int64.le_iff_toInt_le, Int32.toInt_toInt64, Int32.lt_iff_toInt_lt, lN_toInt (by omega), h0]; omega
  have hw : (nI W - nI 1).toInt = (W : Int) - 1 := by
    rcases Nat.eq_zero_or_pos W with h | h
    · subst h; decide
    · rw [pk_sub h, nI_toInt (by omega)]; omega
  have e1 : (x.toInt64 ≤ (nI W - nI 1).toInt64) ↔ ¬ nI W ≤ x := by
    rw [Int64.le_iff_toInt_le, Int32.toInt_toInt64, Int32.toInt_toInt64, hw, Int32.le_iff_toInt_le, nI_toInt (by omega)]; omega
  unfold isN
  exact decide_eq_decide.mpr (and_congr e0 e1)
theorem in_lit {x : Int32} {a b : Nat} (ha : a < 1000) (hb : b < 1000) : (lN a ≤ x.toInt64 ∧ x.toInt64 ≤ lN b) ↔ (nI a ≤ x ∧ x ≤ nI b) := by
  rw [Int64.le_iff_toInt_le, Int64.le_iff_toInt_le, Int32.toInt_toInt64, lN_toInt (by omega), lN_toInt (by omega), Int32.le_iff_toInt_le, Int32.le_iff_toInt_le, nI_toInt (by omega), nI_toInt (by omega)]
theorem in_4 {x : Int32} : decide (lN 0 ≤ x.toInt64 ∧ x.toInt64 ≤ (3 : Int64)) = isN x 4 := by
  have := in_isN (x := x) (W := 4) (by omega)
  rw [← this]
  have e : (nI 4 - nI 1).toInt64 = (3 : Int64) := by decide +kernel
  rw [e]
-- the best seen: of several the least, as the walk goes up
theorem bsn_or {see : Nat → Bool} {br : Nat → Int32} {p : Nat} : ∀ k, bsn see br p k = p ∨ bsn see br p k < k
  | 0 => Or.inl rfl
  | k + 1 => by
    unfold bsn
    split
    · right; omega
    · rcases bsn_or (see := see) (br := br) (p := p) k with h | h
      · exact Or.inl h
      · right; omega
/-- the greatest seen, from p on -/
def nrm (see : Nat → Bool) (p : Nat) : Nat → Nat
  | 0 => p
  | k + 1 => if see k = true ∧ nrm see p k < k then k else nrm see p k
theorem nrm_lo {see : Nat → Bool} {p : Nat} : ∀ k, k ≤ p → nrm see p k = p
  | 0, _ => rfl
  | k + 1, h => by
    unfold nrm
    rw [nrm_lo k (by omega), if_neg (by omega)]
theorem nrl_b {see : Nat → Bool} {p : Nat} (hs : see p = true) : ∀ k, p < k → p ≤ nrl see p k ∧ nrl see p k < k
  | 0, h => absurd h (Nat.not_lt_zero _)
  | k + 1, h => by
    unfold nrl
    split
    · omega
    · rename_i hk
      by_cases hp : p = k
      · subst hp; exact absurd hs hk
      · have := nrl_b hs k (by omega)
        omega
theorem nrm_eq {see : Nat → Bool} {p : Nat} (hs : see p = true) : ∀ k, p < k → nrm see p k = nrl see p k
  | 0, h => absurd h (Nat.not_lt_zero _)
  | k + 1, h => by
    by_cases hp : p = k
    · subst hp
      unfold nrm nrl
      rw [nrm_lo p (Nat.le_refl _), if_neg (by omega), if_pos hs]
    · have h1 := nrm_eq hs k (by omega)
      have h2 := nrl_b hs k (by omega)
      unfold nrm nrl
      rw [h1]
      by_cases hk : see k = true
      · rw [if_pos ⟨hk, by omega⟩, if_pos hk]
      · rw [if_neg (fun z => hk z.1), if_neg hk]
theorem nrm_lt {see : Nat → Bool} {p n : Nat} (hp : p < n) : ∀ k, k ≤ n → nrm see p k < n
  | 0, _ => hp
  | k + 1, h => by unfold nrm; split <;> first | omega | exact nrm_lt hp k (by omega)
theorem see_self {sh y p : Nat} {bl : Nat → Bool} {se : Nat → Int32} : seeS sh bl se y p p = true := by
  unfold seeS
  rw [decide_eq_true rfl, Bool.true_or]
-- all alike
theorem cnt_all {f : Nat → Bool} : ∀ n, cnt f n = n ↔ allN f n = true
  | 0 => by simp [cnt, allN]
  | n + 1 => by
    have h := cnt_le f n
    have ih := cnt_all (f := f) n
    unfold cnt allN
    rw [Bool.and_eq_true]
    by_cases hf : f n = true
    · rw [if_pos hf]
      constructor
      · exact fun q => ⟨ih.mp (by omega), hf⟩
      · exact fun q => by have := ih.mpr q.1; omega
    · rw [if_neg hf]
      constructor
      · exact fun q => by omega
      · exact fun q => absurd q.2 hf
theorem alk_all {n : Nat} {v : Nat → Nat} : alk n v = allN (fun p => decide (v p = v 0)) n := by
  unfold alk
  by_cases h : cnt (fun p => decide (v p = v 0)) n = n
  · rw [decide_eq_true h, (cnt_all n).mp h]
  · rw [decide_eq_false h]
    cases hb : allN (fun p => decide (v p = v 0)) n with
    | false => rfl
    | true => exact absurd ((cnt_all n).mpr hb) h
theorem alk_c {n : Nat} {v w : Nat → Nat} (h : ∀ p, p < n → v p = w p) : alk n v = alk n w := by
  rcases Nat.eq_zero_or_pos n with h0 | h0
  · subst h0; rfl
  · unfold alk
    rw [h 0 h0, cnt_congr n (fun o ho => by rw [h o ho])]
-- sums
theorem sm_add (f g : Nat → Int32) : ∀ n, sm (fun p => f p + g p) n = sm f n + sm g n
  | 0 => by show (0 : Int32) = 0 + 0; decide
  | n + 1 => by
    show sm (fun p => f p + g p) n + (f n + g n) = (sm f n + f n) + (sm g n + g n)
    rw [sm_add f g n, Int32.add_assoc, Int32.add_assoc]
    congr 1
    rw [← Int32.add_assoc, ← Int32.add_assoc, Int32.add_comm (sm g n) (f n)]
theorem sm_c {f g : Nat → Int32} : ∀ n, (∀ p, p < n → f p = g p) → sm f n = sm g n
  | 0, _ => rfl
  | n + 1, h => by
    show sm f n + f n = sm g n + g n
    rw [sm_c n (fun p hp => h p (by omega)), h n (by omega)]
theorem sm_tot {n : Nat} {b : Nat → Int32} {vv : Nat → Nat → Nat} {tw : Nat → Nat} {t0 : Nat → Int32} (i : Nat) : sm (tot n b vv tw t0 (i + 1)) n = sm (tot n b vv tw t0 i) n + sm (fun p => b (vv i p * 4 + tw i)) n := by
  rw [← sm_add]
  exact sm_c n (fun p hp => mix_lt hp)
-- what comes first
theorem fnd_snoc (f : Nat → Bool) : ∀ c k, fnd f (c + 1) k = match fnd f c k with
    | some j => some j
    | none => if f (k + c) = true then some (k + c) else none
  | 0, k => rfl
  | c + 1, k => by
    have ih := fnd_snoc f c (k + 1)
    unfold fnd
    by_cases h : f k = true
    · rw [if_pos h, if_pos h]
    · rw [if_neg h, if_neg h, ih, show k + 1 + c = k + (c + 1) by omega]
theorem fndI_neg {x : Option Nat} (h : ∀ j, x = some j → j < 1000) : (fndI x < 0) ↔ x = none := by
  cases x with
  | none => exact ⟨fun _ => rfl, fun _ => by show zi (-9) < 0; decide⟩
  | some j => exact ⟨fun q => absurd q (nI_pos (by have := h j rfl; omega)), fun q => by cases q⟩
theorem fnd_lt {f : Nat → Bool} : ∀ {c k j : Nat}, fnd f c k = some j → j < k + c
  | 0, k, j, h => by simp [fnd] at h
  | c + 1, k, j, h => by
    unfold fnd at h
    split at h
    · cases h; omega
    · have := fnd_lt h; omega
theorem fndI_snoc (f : Nat → Bool) {i : Nat} (hi : i < 900) : fndI (fnd f (i + 1) 0) = if fndI (fnd f i 0) < 0 ∧ f i = true then nI i else fndI (fnd f i 0) := by
  have hlt : ∀ j, fnd f i 0 = some j → j < 1000 := fun j hj => by have := fnd_lt hj; omega
  rw [fnd_snoc, Nat.zero_add]
  revert hlt
  generalize fnd f i 0 = x
  intro hlt
  have hn := fndI_neg hlt
  cases x with
  | some j =>
    have h1 : ¬ (fndI (some j) < 0 ∧ f i = true) := fun z => by have := hn.mp z.1; cases this
    rw [if_neg h1]
  | none =>
    have hm : fndI none < 0 := hn.mpr rfl
    show fndI (if f i = true then some i else none) = _
    by_cases hf : f i = true
    · have h1 : fndI none < 0 ∧ f i = true := ⟨hm, hf⟩
      rw [if_pos h1, if_pos hf]; rfl
    · have h1 : ¬ (fndI none < 0 ∧ f i = true) := fun z => hf z.2
      rw [if_neg h1, if_neg hf]
end
section
/-! the reference's methods, 1 -/
theorem ix4 (w t : Nat) : nI 4 * nI w + nI t = nI (w * 4 + t) := by rw [pk_mul, nI_add, Nat.mul_comm]
theorem ad_sb (x : Nat) : nI x + nI 1 - nI 1 = nI x := by rw [nI_add, pk_sub (by omega), Nat.add_sub_cancel]
/-- the reference's public method: a call answers and changes as the spec says -/
def zPm (l : Launch) (D : va_G) (C : zC) (y : MethodName) (cc : ByteArray) (nL d : Nat) (args : List Value) (M : zM) (A : zA) : Prop :=
  zFun l D C y cc nL (some .int) (zR d) (.ref 0 :: args) (mdW 0 M) (fun w rv => (∃ M', w = mdW 0 M' ∧ repM M' A.2) ∧ rv = some (.int A.1))
theorem mret {M : zM} {A A' : zA} (e : A = A') (M' : zM) (h : repM M' A'.2) : zRt (some .int) (some (.int A'.1)) ∧ (mdW 0 M').length = (mdW 0 M).length ∧ (∃ M'', mdW 0 M' = mdW 0 M'' ∧ repM M'' A.2) ∧ some (Value.int A'.1) = some (.int A.1) := by
  subst e
  exact ⟨⟨_, rfl, rfl⟩, rfl, ⟨M', rfl, h⟩, rfl⟩
section MB
variable {l : Launch} {D : va_G} {C : zC} {M : zM} {S : zF} {c : Nat}
set_option maxRecDepth 10000 in
theorem m_in {x a b : Int64} : zFun l D C yX4_in cX4_in 6 (some .boolean) (zR 0) [.long x, .long a, .long b] [] (fun _ rv => rv = some (.int (zB (decide (a ≤ x ∧ x ≤ b))))) := by
  refine zFun_of (by decide) oX4_in tbX4 (Nat.le_of_ble_eq_true rfl) (fun Z o => ?_)
  refine o.run 100 [] ⟨fun q => ?_, fun q => ⟨fun q2 => ?_, fun q2 => ?_⟩⟩
  · have e : decide (a ≤ x ∧ x ≤ b) = false := decide_eq_false (fun z => Int64.not_lt.mpr z.1 ((lg_cmp_lt x a).mp q))
    exact ⟨zB_rt false, rfl, by rw [e]; rfl⟩
  · have e : decide (a ≤ x ∧ x ≤ b) = false := decide_eq_false (fun z => Int64.not_lt.mpr z.2 ((lg_cmp_gt x b).mp q2))
    exact ⟨zB_rt false, rfl, by rw [e]; rfl⟩
  · have e : decide (a ≤ x ∧ x ≤ b) = true := decide_eq_true ⟨Int64.not_lt.mp (fun z => q ((lg_cmp_lt x a).mpr z)), Int64.not_lt.mp (fun z => q2 ((lg_cmp_gt x b).mpr z))⟩
    exact ⟨zB_rt true, rfl, by rw [e]; rfl⟩
set_option maxRecDepth 10000 in
theorem m_refuse {k : Nat} (hk : k < 7) : zFun l D C yX4_refuse cX4_refuse 2 (some .int) (zR 0) [.ref 0, .int (-(nI k))] (mdW 0 M) (fun w rv => w = mdW 0 (mR M 13 (rfu (M.2 13) k)) ∧ rv = some (.int (-(nI k)))) := by
  refine zFun_of (by decide) oX4_refuse tbX4 (Nat.le_of_ble_eq_true rfl) (fun Z o => ?_)
  exact o.run 100 [] ⟨k, Int32.neg_neg, hk, k, Int32.neg_neg, hk, ⟨_, rfl, rfl⟩, rfl, rfl, rfl⟩
set_option maxRecDepth 10000 in
theorem m_isWay {x : Int32} {W : Nat} (hW : W < 100) (e : M.1 0 = nI W) : zFun l D C yX4_isWay cX4_isWay 2 (some .boolean) (zR 1) [.ref 0, .int x] (mdW 0 M) (fun w rv => w = mdW 0 M ∧ rv = some (.int (zB (isN x W)))) := by
  refine zFun_of (by decide) oX4_isWay tbX4 (Nat.le_of_ble_eq_true rfl) (fun Z o => ?_)
  refine o.run 100 [] ?_
  show Z _ _ _ _
  refine o.cS vX4_84 (m_in (x := x.toInt64) (a := lN 0) (b := (M.1 0 - nI 1).toInt64)) (fun rv hpo => ?_)
  subst hpo
  refine o.run 100 [] ⟨zB_rt _, rfl, rfl, ?_⟩
  rw [e, in_isN hW]
set_option maxRecDepth 10000 in
theorem m_isPerson {x : Int32} {W : Nat} (hW : W < 100) (e : M.1 4 = nI W) : zFun l D C yX4_isPerson cX4_isPerson 2 (some .boolean) (zR 1) [.ref 0, .int x] (mdW 0 M) (fun w rv => w = mdW 0 M ∧ rv = some (.int (zB (isN x W)))) := by
  refine zFun_of (by decide) oX4_isPerson tbX4 (Nat.le_of_ble_eq_true rfl) (fun Z o => ?_)
  refine o.run 100 [] ?_
  show Z _ _ _ _
  refine o.cS vX4_84 (m_in (x := x.toInt64) (a := lN 0) (b := (M.1 4 - nI 1).toInt64)) (fun rv hpo => ?_)
  subst hpo
  refine o.run 100 [] ⟨zB_rt _, rfl, rfl, ?_⟩
  rw [e, in_isN hW]
set_option maxRecDepth 10000 in
theorem m_isRule {x : Int32} {W : Nat} (hW : W < 100) (e : M.1 11 = nI W) : zFun l D C yX4_isRule cX4_isRule 2 (some .boolean) (zR 1) [.ref 0, .int x] (mdW 0 M) (fun w rv => w = mdW 0 M ∧ rv = some (.int (zB (isN x W)))) := by
  refine zFun_of (by decide) oX4_isRule tbX4 (Nat.le_of_ble_eq_true rfl) (fun Z o => ?_)
  refine o.run 100 [] ?_
  show Z _ _ _ _
  refine o.cS vX4_84 (m_in (x := x.toInt64) (a := lN 0) (b := (M.1 11 - nI 1).toInt64)) (fun rv hpo => ?_)
  subst hpo
  refine o.run 100 [] ⟨zB_rt _, rfl, rfl, ?_⟩
  rw [e, in_isN hW]
set_option maxRecDepth 10000 in
theorem m_isWeather {x : Int32} : zFun l D C yX4_isWeather cX4_isWeather 1 (some .boolean) (zR 1) [.int x] [] (fun _ rv => rv = some (.int (zB (isN x 4)))) := by
  refine zFun_of (by decide) oX4_isWeather tbX4 (Nat.le_of_ble_eq_true rfl) (fun Z o => ?_)
  refine o.run 100 [] ?_
  show Z _ _ _ _
  refine o.cS vX4_84 (m_in (x := x.toInt64) (a := lN 0) (b := (3 : Int64))) (fun rv hpo => ?_)
  subst hpo
  refine o.run 100 [] ⟨zB_rt _, rfl, ?_⟩
  rw [in_4]
set_option maxRecDepth 10000 in
theorem m_bestIn {W t : Nat} (hW : W ≤ 6) (ht : t < 4) (e0 : M.1 0 = nI W) : zFun l D C yX4_bestIn cX4_bestIn 4 (some .int) (zR 0) [.ref 0, .int (nI t)] (mdW 0 M) (fun w' rv => w' = mdW 0 M ∧ rv = some (.int (nI (bst (M.2 1) t (W - 1))))) := by
  refine zFun_of (by decide) oX4_bestIn tbX4 (Nat.le_of_ble_eq_true rfl) (fun Z o => ?_)
  have loop : ∀ n k, k + n = W - 1 → Z 4 (mdW 0 M) [some (.ref 0), some (.int (nI t)), some (.int (nI (bst (M.2 1) t k))), some (.int (nI (k + 1)))] [] := by
    intro n
    induction n with
    | zero =>
      intro k hk
      refine o.run 100 [] ⟨fun h => ?_, fun h => ?_⟩
      · obtain rfl : k = W - 1 := by omega
        exact ⟨⟨_, rfl, rfl⟩, rfl, rfl, rfl⟩
      · exact absurd (by show M.1 0 ≤ _; rw [e0]; exact nI_le (by omega) (by omega)) h
    | succ n ih =>
      intro k hk
      have hb := bst_le (M.2 1) t k
      refine o.run 100 [4] ⟨fun h => ?_, fun h => ⟨(k + 1) * 4 + t, ix4 _ _, by omega, bst (M.2 1) t k * 4 + t, ix4 _ _, by omega, fun h1 => ?_, fun h1 => ?_⟩⟩
      · exact absurd h (by show ¬ M.1 0 ≤ _; rw [e0]; exact nI_ge (by omega) (by omega))
      · have e8 : bst (M.2 1) t (k + 1) = bst (M.2 1) t k := by
          rw [bst, if_neg (fun h2 => Int32.not_le.mpr h2 h1)]
        have := ih (k + 1) (by omega)
        rw [e8, ← nI_1 (k + 1)] at this
        exact this
      · have e8 : bst (M.2 1) t (k + 1) = k + 1 := by
          rw [bst, if_pos (Int32.not_le.mp h1)]
        have := ih (k + 1) (by omega)
        rw [e8, ← nI_1 (k + 1)] at this
        exact this
  exact o.run 100 [4] (loop (W - 1) 0 (by omega))
set_option maxRecDepth 10000 in
theorem m_wrongYears {x : Int32} {n : Nat} (hn : n < 100) (e : M.1 4 = nI n) : zFun l D C yX4_wrongYears cX4_wrongYears 2 (some .int) (zR 0) [.ref 0, .int x] (mdW 0 M) (fun w rv => w = mdW 0 M ∧ rv = some (.int (whR x n))) := by
  refine zFun_of (by decide) oX4_wrongYears tbX4 (Nat.le_of_ble_eq_true rfl) (fun Z o => ?_)
  refine o.run 100 [] ⟨fun q => ⟨fun q2 => ⟨fun q3 => ⟨⟨_, rfl, rfl⟩, rfl, rfl, ?_⟩, fun q3 => ⟨⟨_, rfl, rfl⟩, rfl, rfl, ?_⟩⟩, fun q2 => ⟨⟨_, rfl, rfl⟩, rfl, rfl, ?_⟩⟩, fun q => ⟨⟨_, rfl, rfl⟩, rfl, rfl, ?_⟩⟩
  · have q3 : ¬ M.1 4 = 0 := q3
    rw [e] at q3
    rw [whR, if_neg (show ¬ x < nI 1 from Int32.not_lt.mpr q), if_neg (show ¬ nI 60 < x from Int32.not_lt.mpr q2), if_neg (fun z => q3 (by rw [z]; decide))]; rfl
  · have q3 : M.1 4 = 0 := q3
    rw [e] at q3
    have h0 : n = 0 := by
      rcases Nat.eq_zero_or_pos n with z | z
      · exact z
      · exact absurd q3 (nI_ne0 z (by omega))
    rw [whR, if_neg (show ¬ x < nI 1 from Int32.not_lt.mpr q), if_neg (show ¬ nI 60 < x from Int32.not_lt.mpr q2), if_pos h0]
  · rw [whR, if_neg (show ¬ x < nI 1 from Int32.not_lt.mpr q), if_pos (show nI 60 < x from Int32.not_le.mp q2)]
  · rw [whR, if_pos (show x < nI 1 from Int32.not_le.mp q)]
end MB
section MRF
variable {l : Launch} {D : va_G} {C : zC} {d pc k : Nat} {tab : List (Nat × Instr)} {Z : zP} {lv : zL} {M M0 : zM} {S : zF} {A : zA}
/-- a refusal -/
theorem zOps.mrf (o : zOps l D C RX4 tab (zfl FX4) (zkI IX4) (zkJ JX4) d (fun ws rv => zRt (some .int) rv ∧ ws.length = (mdW 0 M0).length ∧ (∃ M', ws = mdW 0 M' ∧ repM M' A.2) ∧ rv = some (.int A.1)) Z) (h : repM M S) (hk : k < 7) (e : A = sRf S k)
    (hd : zfd tab pc = some (.invokevirtual 96) := by rfl) (hr : zfd tab (pc + 3) = some .ireturn := by rfl) (hdd : 0 < d := by exact Nat.le_of_ble_eq_true rfl) : Z pc (mdW 0 M) lv [.int (-(nI k)), .ref 0] := by
  refine o.cV vX4_96 (m_refuse (k := k) hk) (fun w rv _ hpo => ?_) ⟨4, _, _, rfl, rfl, rfl⟩ hd rfl rfl (Nat.le_of_ble_eq_true rfl) hdd (Nat.le_of_ble_eq_true rfl)
  obtain ⟨rfl, rfl⟩ := hpo
  refine o.run 1 [] ?_
  unfold zgo
  rw [hr]
  exact mret e _ (repM_rf h k)
/-- a refusal below all answers -/
theorem zOps.mrff (o : zOps l D C RX4 tab (zfl FX4) (zkI IX4) (zkJ JX4) d (fun ws rv => zRt (some .int) rv ∧ ws.length = (mdW 0 M0).length ∧ (∃ M', ws = mdW 0 M' ∧ repM M' A.2) ∧ rv = some (.int A.1)) Z) (h : repM M S) (hk : k < 7) (e : A = sRff S k)
    (hd : zfd tab pc = some (.invokevirtual 96) := by rfl) (ha : zfd tab (pc + 3) = some .iadd := by rfl) (hr : zfd tab (pc + 4) = some .ireturn := by rfl) (hdd : 0 < d := by exact Nat.le_of_ble_eq_true rfl) : Z pc (mdW 0 M) lv [.int (-(nI k)), .ref 0, .int (-1000000000)] := by
  refine o.cV (rest := [.int (-1000000000)]) vX4_96 (m_refuse (k := k) hk) (fun w rv _ hpo => ?_) ⟨4, _, _, rfl, rfl, rfl⟩ hd rfl rfl (Nat.le_of_ble_eq_true rfl) hdd (Nat.le_of_ble_eq_true rfl)
  obtain ⟨rfl, rfl⟩ := hpo
  refine o.run 1 [] ?_
  unfold zgo
  rw [ha]
  show Z (pc + 3 + 1) _ lv [.int (-1000000000 + -(nI k))]
  refine o.run 1 [] ?_
  unfold zgo
  rw [show pc + 3 + 1 = pc + 4 from rfl, hr]
  exact mret e _ (repM_rf h k)
end MRF
end
section
/-! the reference's public methods, 1 -/
section MP1
variable {l : Launch} {D : va_G} {C : zC} {M : zM} {S : zF} {c : Nat}
set_option maxRecDepth 10000 in
theorem m_way (h : repM M S) (hT : okT S.1 c) {x0 x1 x2 x3 : Int32} : zPm l D C yX4_way cX4_way 5 1 [.int x0, .int x1, .int x2, .int x3] M (sWay S x0 x1 x2 x3) := by
  have hWb : S.1.1 0 ≤ 6 := hT.1.1
  have hLb : 0 < S.1.1 1 ∧ S.1.1 1 ≤ 24 := ⟨hT.1.2.1, hT.1.2.2.1⟩
  have hrb : S.1.1 2 ≤ 10 := hT.1.2.2.2.1
  have hnb : S.1.1 3 ≤ 8 := hT.1.2.2.2.2.1
  obtain ⟨⟨⟨a0, a1, a2, a3, a4, a5⟩, ⟨b1, b2, b3, b4, b5, b6⟩, kn⟩, him, tx, rf⟩ := id h
  refine zFun_of (by decide) oX4_way tbX4 (Nat.le_of_ble_eq_true rfl) (fun Z o => ?_)
  have r4 : (x0 < 0 ∨ x1 < 0 ∨ x2 < 0 ∨ x3 < 0) → Z 17 (mdW 0 M) [some (.ref 0), some (.int x0), some (.int x1), some (.int x2), some (.int x3)] [] := fun hc => by
    refine o.run 100 [] ?_
    show Z 20 (mdW 0 M) _ [.int (-(nI 4)), .ref 0]
    exact o.mrf h (by omega) (by rw [sWay, if_pos hc])
  refine o.run 100 [17, 24] ⟨fun q => r4 (Or.inl q), fun q0 => ⟨fun q => r4 (Or.inr (Or.inl q)), fun q1 => ⟨fun q => r4 (Or.inr (Or.inr (Or.inl q))), fun q2 => ⟨fun q3 => ?_, fun q => r4 (Or.inr (Or.inr (Or.inr (Int32.not_le.mp q))))⟩⟩⟩⟩
  have q3 : ¬ x3 < 0 := Int32.not_lt.mpr q3
  have hn : ¬ (x0 < 0 ∨ x1 < 0 ∨ x2 < 0 ∨ x3 < 0) := fun z => z.elim q0 (fun z => z.elim q1 (fun z => z.elim q2 q3))
  have r6 : (nI 99 < x0 ∨ nI 99 < x1 ∨ nI 99 < x2 ∨ nI 99 < x3 ∨ S.1.1 0 = 6) → Z 58 (mdW 0 M) [some (.ref 0), some (.int x0), some (.int x1), some (.int x2), some (.int x3)] [] := fun hc => by
    refine o.run 100 [] ?_
    show Z 61 (mdW 0 M) _ [.int (-(nI 6)), .ref 0]
    exact o.mrf h (by omega) (by rw [sWay, if_neg hn, if_pos hc])
  refine o.run 100 [58, 65] ⟨fun q => r6 (Or.inl q), fun p0 => ⟨fun q => r6 (Or.inr (Or.inl q)), fun p1 => ⟨fun q => r6 (Or.inr (Or.inr (Or.inl q))), fun p2 => ⟨fun q => r6 (Or.inr (Or.inr (Or.inr (Or.inl q)))), fun p3 => ⟨fun q => ?_, fun q => r6 (Or.inr (Or.inr (Or.inr (Or.inr ?_))))⟩⟩⟩⟩⟩
  · have q : ¬ M.1 0 = nI 6 := q
    rw [a0, nI_eq (by omega) (by omega)] at q
    have hn2 : ¬ (nI 99 < x0 ∨ nI 99 < x1 ∨ nI 99 < x2 ∨ nI 99 < x3 ∨ S.1.1 0 = 6) := fun z => z.elim p0 (fun z => z.elim p1 (fun z => z.elim p2 (fun z => z.elim p3 q)))
    refine o.run 100 [] ⟨S.1.1 0 * 4, ?_, by omega, S.1.1 0 * 4 + 1, ?_, by omega, S.1.1 0 * 4 + 2, ?_, by omega, S.1.1 0 * 4 + 3, ?_, by omega, ?_⟩
    · show nI 4 * M.1 0 = _; rw [a0, pk_mul, Nat.mul_comm]
    · show nI 4 * M.1 0 + nI 1 = _; rw [a0]; exact ix4 _ _
    · show nI 4 * M.1 0 + nI 2 = _; rw [a0]; exact ix4 _ _
    · show nI 4 * M.1 0 + nI 3 = _; rw [a0]; exact ix4 _ _
    · refine mret (A' := (M.1 0 + nI 1 - nI 1, sW S (tN (tB S.1 (upd (upd (upd (upd S.1.2.1 (S.1.1 0 * 4) x0) (S.1.1 0 * 4 + 1) x1) (S.1.1 0 * 4 + 2) x2) (S.1.1 0 * 4 + 3) x3)) 0 (S.1.1 0 + 1)))) ?_ (mN (mR M 1 (upd (upd (upd (upd (M.2 1) (S.1.1 0 * 4) x0) (S.1.1 0 * 4 + 1) x1) (S.1.1 0 * 4 + 2) x2) (S.1.1 0 * 4 + 3) x3)) 0 (M.1 0 + nI 1)) ?_
      · rw [sWay, if_neg hn, if_neg hn2, a0, ad_sb]
      · refine ⟨⟨⟨?_, a1, a2, a3, a4, a5⟩, ⟨?_, b2, b3, b4, b5, b6⟩, kn⟩, him, tx, rf⟩
        · show M.1 0 + nI 1 = nI (S.1.1 0 + 1)
          rw [a0, nI_add]
        · show upd (upd (upd (upd (M.2 1) (S.1.1 0 * 4) x0) (S.1.1 0 * 4 + 1) x1) (S.1.1 0 * 4 + 2) x2) (S.1.1 0 * 4 + 3) x3 = _
          rw [b1]; rfl
  · have q : M.1 0 = nI 6 := q
    rw [a0, nI_eq (by omega) (by omega)] at q
    exact q
set_option maxRecDepth 10000 in
theorem m_brings (h : repM M S) (hT : okT S.1 c) {w t v : Int32} : zPm l D C yX4_brings cX4_brings 5 2 [.int w, .int t, .int v] M (sBrings S w t v) := by
  have hWb : S.1.1 0 ≤ 6 := hT.1.1
  have hLb : 0 < S.1.1 1 ∧ S.1.1 1 ≤ 24 := ⟨hT.1.2.1, hT.1.2.2.1⟩
  have hrb : S.1.1 2 ≤ 10 := hT.1.2.2.2.1
  have hnb : S.1.1 3 ≤ 8 := hT.1.2.2.2.2.1
  obtain ⟨⟨⟨a0, a1, a2, a3, a4, a5⟩, ⟨b1, b2, b3, b4, b5, b6⟩, kn⟩, him, tx, rf⟩ := id h
  refine zFun_of (by decide) oX4_brings tbX4 (Nat.le_of_ble_eq_true rfl) (fun Z o => ?_)
  have bad : ((isN w (S.1.1 0) && isN t 4)) = false → Z 15 (mdW 0 M) [some (.ref 0), some (.int w), some (.int t), some (.int v), none] [] := fun hf => by
    refine o.run 100 [] ?_
    show Z 17 (mdW 0 M) _ [.int (-(nI 1)), .ref 0]
    exact o.mrf h (by omega) (by rw [sBrings, hf]; rfl)
  have good : (isN w (S.1.1 0) && isN t 4) = true → Z 21 (mdW 0 M) [some (.ref 0), some (.int w), some (.int t), some (.int v), none] [] := fun hb => by
    obtain ⟨hq1, hq2⟩ := Bool.and_eq_true_iff.mp hb
    obtain ⟨ew, hwl⟩ := isN_cl (by omega) hq1
    obtain ⟨et, htl⟩ := isN_cl (by omega) hq2
    refine o.run 100 [32] ⟨fun q => ?_, fun q => ?_⟩
    · have h4 : ¬ v < 0 := Int32.not_lt.mpr q
      refine o.run 100 [45] ⟨fun q => ?_, fun q => ?_⟩
      · have h6 : ¬ nI 99 < v := Int32.not_lt.mpr q
        have ei : nI 4 * w + t = nI (cl w * 4 + cl t) := by
          have := ix4 (cl w) (cl t)
          rw [← ew, ← et] at this
          exact this
        refine o.run 100 [] ⟨cl w * 4 + cl t, ei, by omega, cl w * 4 + cl t, ei, by omega, ?_⟩
        refine mret (A' := (M.2 1 (cl w * 4 + cl t), sW S (tB S.1 (upd S.1.2.1 (cl w * 4 + cl t) v)))) ?_ (mR M 1 (upd (M.2 1) (cl w * 4 + cl t) v)) ?_
        · rw [sBrings, if_pos hb, if_neg h4, if_neg h6, b1]
        · refine ⟨⟨⟨a0, a1, a2, a3, a4, a5⟩, ⟨?_, b2, b3, b4, b5, b6⟩, kn⟩, him, tx, rf⟩
          show upd (M.2 1) (cl w * 4 + cl t) v = _
          rw [b1]; rfl
      · show Z 41 (mdW 0 M) _ [.int (-(nI 6)), .ref 0]
        exact o.mrf h (by omega) (by rw [sBrings, if_pos hb, if_neg h4, if_pos (show nI 99 < v from Int32.not_le.mp q)])
    · show Z 28 (mdW 0 M) _ [.int (-(nI 4)), .ref 0]
      exact o.mrf h (by omega) (by rw [sBrings, if_pos hb, if_pos (show v < 0 from Int32.not_le.mp q)])
  refine o.run 100 [] ?_
  show Z _ _ _ _
  refine o.cV vX4_100 (m_isWay (x := w) (by omega) a0) (fun w' rv _ hpo => ?_)
  obtain ⟨rfl, rfl⟩ := hpo
  refine o.run 100 [15] ⟨fun q => bad ?_, fun q => ?_⟩
  · rw [(zB_0 _).mp q]; rfl
  · have hq1 := zB_t q
    show Z _ _ _ _
    refine o.cS vX4_104 (m_isWeather (x := t)) (fun rv hpo => ?_)
    subst hpo
    refine o.run 100 [15, 21] ⟨fun q => good ?_, fun q => bad ?_⟩
    · rw [hq1, zB_t q]; rfl
    · rw [hq1, (zB_0 _).mp q]; rfl
set_option maxRecDepth 10000 in
theorem m_bestWay (h : repM M S) (hT : okT S.1 c) {t : Int32} : zPm l D C yX4_bestWay cX4_bestWay 2 2 [.int t] M (sBestWay S t) := by
  have hWb : S.1.1 0 ≤ 6 := hT.1.1
  have hLb : 0 < S.1.1 1 ∧ S.1.1 1 ≤ 24 := ⟨hT.1.2.1, hT.1.2.2.1⟩
  have hrb : S.1.1 2 ≤ 10 := hT.1.2.2.2.1
  have hnb : S.1.1 3 ≤ 8 := hT.1.2.2.2.2.1
  obtain ⟨⟨⟨a0, a1, a2, a3, a4, a5⟩, ⟨b1, b2, b3, b4, b5, b6⟩, kn⟩, him, tx, rf⟩ := id h
  refine zFun_of (by decide) oX4_bestWay tbX4 (Nat.le_of_ble_eq_true rfl) (fun Z o => ?_)
  refine o.run 100 [] ?_
  show Z _ _ _ _
  refine o.cS vX4_104 (m_isWeather (x := t)) (fun rv hpo => ?_)
  subst hpo
  refine o.run 100 [15] ⟨fun q => ?_, fun q => ?_⟩
  · have hq := zB_t q
    obtain ⟨et, htl⟩ := isN_cl (by omega) hq
    refine o.run 100 [31] ⟨fun q => ?_, fun q => ?_⟩
    · have q : ¬ M.1 0 = 0 := q
      rw [a0] at q
      have h0 : ¬ S.1.1 0 = 0 := fun z => q (by rw [z]; decide)
      refine o.run 100 [] ?_
      show Z 33 (mdW 0 M) [some (.ref 0), some (.int t)] [.int t, .ref 0]
      have es : sBestWay S t = (nI (bst S.1.2.1 (cl t) (S.1.1 0 - 1)), S) := by rw [sBestWay, if_pos hq, if_neg h0]
      obtain ⟨tn, htn⟩ : ∃ k, k = cl t := ⟨_, rfl⟩
      rw [← htn] at et htl es
      subst et
      refine o.cV vX4_107 (m_bestIn (t := tn) hWb htl a0) (fun w' rv _ hpo => ?_)
      obtain ⟨rfl, rfl⟩ := hpo
      rw [b1]
      exact o.run 100 [] (mret (A' := (nI (bst S.1.2.1 tn (S.1.1 0 - 1)), S)) es M h)
    · have q : M.1 0 = 0 := q
      rw [a0] at q
      have h0 : S.1.1 0 = 0 := by
        rcases Nat.eq_zero_or_pos (S.1.1 0) with z | z
        · exact z
        · exact absurd q (nI_ne0 z (by omega))
      show Z 25 (mdW 0 M) _ [.int (-(nI 3)), .ref 0]
      refine o.cV vX4_96 (m_refuse (k := 3) (by omega)) (fun w rv _ hpo => ?_)
      obtain ⟨rfl, rfl⟩ := hpo
      exact o.run 100 [] (mret (A' := sRf S 3) (by rw [sBestWay, if_pos hq, if_pos h0]) _ (repM_rf h 3))
  · show Z 9 (mdW 0 M) _ [.int (-(nI 1)), .ref 0]
    refine o.cV vX4_96 (m_refuse (k := 1) (by omega)) (fun w rv _ hpo => ?_)
    obtain ⟨rfl, rfl⟩ := hpo
    exact o.run 100 [] (mret (A' := sRf S 1) (by rw [sBestWay, (zB_0 _).mp q]; rfl) _ (repM_rf h 1))
set_option maxRecDepth 10000 in
theorem m_sky (h : repM M S) (hT : okT S.1 c) {n : Int32} {x : Int64} : zPm l D C yX4_sky cX4_sky 6 1 [.int n, .long x] M (sSky S n x) := by
  have hWb : S.1.1 0 ≤ 6 := hT.1.1
  have hLb : 0 < S.1.1 1 ∧ S.1.1 1 ≤ 24 := ⟨hT.1.2.1, hT.1.2.2.1⟩
  have hrb : S.1.1 2 ≤ 10 := hT.1.2.2.2.1
  have hnb : S.1.1 3 ≤ 8 := hT.1.2.2.2.2.1
  obtain ⟨⟨⟨a0, a1, a2, a3, a4, a5⟩, ⟨b1, b2, b3, b4, b5, b6⟩, kn⟩, him, tx, rf⟩ := id h
  refine zFun_of (by decide) oX4_sky tbX4 (Nat.le_of_ble_eq_true rfl) (fun Z o => ?_)
  refine o.run 100 [12] ⟨fun q => ?_, fun q => ?_⟩
  · have h4 : ¬ n < nI 1 := Int32.not_lt.mpr q
    refine o.run 100 [25] ⟨fun q => ?_, fun q => ?_⟩
    · have h6 : ¬ nI 24 < n := Int32.not_lt.mpr q
      obtain ⟨m, hm, rfl⟩ := nI_of (x := n) (fun z => h4 (Int32.lt_trans z (by decide)))
      rw [nI_ltI (by omega) (by omega)] at h4 h6
      have es : sSky S (nI m) x = (nI (S.1.1 1), sW S (tN (tR S.1 0 (mixN m (wb2 x) (S.1.2.2.1 0))) 1 m)) := by
        rw [sSky, if_neg (by rw [nI_ltI (by omega) (by omega)]; omega), if_neg (by rw [nI_ltI (by omega) (by omega)]; omega), show cl (nI m) = m from nI_clamp (by omega)]
      have loop : ∀ j k, k + j = m → Z 39 (mdW 0 (mR (mN M 3 (nI m)) 2 (fun j => nI (mixN k (wb2 x) (S.1.2.2.1 0) j)))) [some (.ref 0), some (.int (nI m)), some (.long x), none, some (.int (nI (S.1.1 1))), some (.int (nI k))] [] := by
        intro j
        induction j with
        | zero =>
          intro k hk
          obtain rfl : k = m := by omega
          refine o.run 100 [] ⟨fun _ => mret (A' := (nI (S.1.1 1), sW S (tN (tR S.1 0 (mixN k (wb2 x) (S.1.2.2.1 0))) 1 k))) es _ ?_, fun q => absurd (nI_le (Nat.le_refl _) (by omega)) q⟩
          exact ⟨⟨⟨a0, rfl, a2, a3, a4, a5⟩, ⟨b1, rfl, b3, b4, b5, b6⟩, kn⟩, him, tx, rf⟩
        | succ j ih =>
          intro k hk
          refine o.run 100 [39] ⟨fun q => absurd q (nI_ge (by omega) (by omega)), fun _ => ⟨k, rfl, by omega, ?_⟩⟩
          have := ih (k + 1) (by omega)
          rw [← mixN_upd, ← s_wb2 x (by omega), ← nI_1 k] at this
          exact this
      have h0 := loop m 0 (by omega)
      have e0 : (fun j => nI (mixN 0 (wb2 x) (S.1.2.2.1 0) j)) = M.2 2 := by
        rw [b2]
        funext j
        unfold mixN
        rw [if_neg (Nat.not_lt_zero j)]
      rw [e0, ← a1] at h0
      exact o.run 100 [39] h0
    · show Z 21 (mdW 0 M) _ [.int (-(nI 6)), .ref 0]
      exact o.mrf h (by omega) (by rw [sSky, if_neg h4, if_pos (show nI 24 < n from Int32.not_le.mp q)])
  · show Z 8 (mdW 0 M) _ [.int (-(nI 4)), .ref 0]
    exact o.mrf h (by omega) (by rw [sSky, if_pos (show n < nI 1 from Int32.not_le.mp q)])
set_option maxRecDepth 10000 in
theorem m_weather (h : repM M S) (hT : okT S.1 c) {y : Int32} : zPm l D C yX4_weather cX4_weather 2 1 [.int y] M (sWeather S y) := by
  have hWb : S.1.1 0 ≤ 6 := hT.1.1
  have hLb : 0 < S.1.1 1 ∧ S.1.1 1 ≤ 24 := ⟨hT.1.2.1, hT.1.2.2.1⟩
  have hrb : S.1.1 2 ≤ 10 := hT.1.2.2.2.1
  have hnb : S.1.1 3 ≤ 8 := hT.1.2.2.2.2.1
  obtain ⟨⟨⟨a0, a1, a2, a3, a4, a5⟩, ⟨b1, b2, b3, b4, b5, b6⟩, kn⟩, him, tx, rf⟩ := id h
  refine zFun_of (by decide) oX4_weather tbX4 (Nat.le_of_ble_eq_true rfl) (fun Z o => ?_)
  refine o.run 100 [13] ⟨fun q => ?_, fun q => ?_⟩
  · have h4 : ¬ y < 0 := Int32.not_lt.mpr q
    refine o.run 100 [28] ⟨fun q => ?_, fun q => ?_⟩
    · have h6 : ¬ 999999 < y := Int32.not_lt.mpr q
      obtain ⟨m, hm, rfl⟩ := nI_of h4
      refine o.run 100 [] ⟨?_, m % S.1.1 1, ?_, ?_, ?_⟩
      · show ¬ M.1 3 = 0
        rw [a1]; exact nI_ne0 hLb.1 (by omega)
      · show nI m - nI m / M.1 3 * M.1 3 = _
        rw [a1]; exact pk_rem hm hLb.1 (by omega)
      · have := Nat.mod_lt m hLb.1; omega
      · refine mret (A' := (M.2 2 (m % S.1.1 1), S)) ?_ M h
        rw [sWeather, if_neg h4, if_neg h6, show cl (nI m) = m from nI_clamp (by omega), b2]
    · show Z 22 (mdW 0 M) _ [.int (-(nI 6)), .ref 0]
      refine o.cV vX4_96 (m_refuse (k := 6) (by omega)) (fun w rv _ hpo => ?_)
      obtain ⟨rfl, rfl⟩ := hpo
      exact o.run 100 [] (mret (A' := sRf S 6) (by rw [sWeather, if_neg h4, if_pos (show 999999 < y from Int32.not_le.mp q)]) _ (repM_rf h 6))
  · show Z 7 (mdW 0 M) _ [.int (-(nI 4)), .ref 0]
    refine o.cV vX4_96 (m_refuse (k := 4) (by omega)) (fun w rv _ hpo => ?_)
    obtain ⟨rfl, rfl⟩ := hpo
    exact o.run 100 [] (mret (A' := sRf S 4) (by rw [sWeather, if_pos (show y < 0 from Int32.not_le.mp q)]) _ (repM_rf h 4))
/-- k bytes of x behind the first T -/
def mixB (T k : Nat) (x : Int64) (f : Nat → Int32) : Nat → Int32 := fun j => if T ≤ j ∧ j < T + k then nI (wb8 x (j - T)) else f j
theorem mixB_upd (T k : Nat) (x : Int64) (f : Nat → Int32) : upd (mixB T k x f) (T + k) (nI (wb8 x k)) = mixB T (k + 1) x f := by
  funext j
  unfold upd mixB
  by_cases h1 : j = T + k
  · subst h1; rw [if_pos rfl, if_pos (by omega), Nat.add_sub_cancel_left]
  · rw [if_neg h1]
    by_cases h2 : T ≤ j ∧ j < T + k
    · rw [if_pos h2, if_pos (by omega)]
    · rw [if_neg h2, if_neg (by omega)]
theorem mixB_0 (T : Nat) (x : Int64) (f : Nat → Int32) : mixB T 0 x f = f := by
  funext j
  unfold mixB
  rw [if_neg (by omega)]
set_option maxRecDepth 10000 in
theorem m_feed (h : repM M S) (hT : okT S.1 c) {n : Int32} {x : Int64} : zPm l D C yX4_feed cX4_feed 5 1 [.int n, .long x] M (sFeed S n x) := by
  have hWb : S.1.1 0 ≤ 6 := hT.1.1
  have hLb : 0 < S.1.1 1 ∧ S.1.1 1 ≤ 24 := ⟨hT.1.2.1, hT.1.2.2.1⟩
  have hrb : S.1.1 2 ≤ 10 := hT.1.2.2.2.1
  have hnb : S.1.1 3 ≤ 8 := hT.1.2.2.2.2.1
  obtain ⟨⟨⟨a0, a1, a2, a3, a4, a5⟩, ⟨b1, b2, b3, b4, b5, b6⟩, kn⟩, him, tx, rf⟩ := id h
  refine zFun_of (by decide) oX4_feed tbX4 (Nat.le_of_ble_eq_true rfl) (fun Z o => ?_)
  obtain ⟨x0, x1, x2⟩ := tx
  obtain ⟨T, hT0⟩ : ∃ T, T = S.2.2.1.1 := ⟨_, rfl⟩
  rw [← hT0] at x0 x1
  refine o.run 100 [12] ⟨fun q => ?_, fun q => ?_⟩
  · have h4 : ¬ n < nI 1 := Int32.not_lt.mpr q
    obtain ⟨m, hm, rfl⟩ := nI_of (x := n) (fun z => h4 (Int32.lt_trans z (by decide)))
    have ecl : cl (nI m) = m := nI_clamp (by omega)
    refine o.run 100 [29, 36] ⟨fun q => ?_, fun q => ⟨fun q2 => ?_, fun q2 => ?_⟩⟩
    · refine o.run 100 [] ?_
      show Z 32 (mdW 0 M) _ [.int (-(nI 6)), .ref 0]
      exact o.mrf h (by omega) (by rw [sFeed, if_neg h4, if_pos (show nI 8 < nI m from q)])
    · have q0 : ¬ nI 8 < nI m := q
      have q2 : M.1 18 + nI m ≤ nI 24 := q2
      have q : ¬ nI 8 < nI m := q
      rw [nI_ltI (by omega) (by omega)] at h4 q
      rw [x0, nI_add, nI_leI (by omega) (by omega)] at q2
      have es : sFeed S (nI m) x = (nI (T + m), (S.1, S.2.1, (T + m, fun j => if j < T then S.2.2.1.2 j else nI (wb8 x (j - T))), S.2.2.2)) := by
        rw [sFeed, if_neg (by rw [nI_ltI (by omega) (by omega)]; omega), if_neg q0, ecl, ← hT0, if_neg (by omega)]
      have loop : ∀ j k, k + j = m → Z 39 (mdW 0 (mN (mR M 12 (mixB T k x (M.2 12))) 18 (nI (T + k)))) [some (.ref 0), some (.int (nI m)), some (.long x), none, some (.int (nI k))] [] := by
        intro j
        induction j with
        | zero =>
          intro k hk
          obtain rfl : k = m := by omega
          refine o.run 100 [] ⟨fun _ => mret (A' := (nI (T + k), (S.1, S.2.1, (T + k, fun j => if j < T then S.2.2.1.2 j else nI (wb8 x (j - T))), S.2.2.2))) es _ ?_, fun q => absurd (nI_le (Nat.le_refl _) (by omega)) q⟩
          refine ⟨⟨⟨a0, a1, a2, a3, a4, a5⟩, ⟨b1, b2, b3, b4, b5, b6⟩, kn⟩, him, ⟨rfl, by show T + k ≤ 24; omega, fun j hj => ?_⟩, rf⟩
          have hj : j < T + k := hj
          show mixB T k x (M.2 12) j = if j < T then S.2.2.1.2 j else nI (wb8 x (j - T))
          unfold mixB
          by_cases hjT : j < T
          · rw [if_neg (by omega), if_pos hjT, x2 j (by omega)]
          · rw [if_pos (by omega), if_neg hjT]
        | succ j ih =>
          intro k hk
          refine o.run 100 [39] ⟨fun q => absurd q (nI_ge (by omega) (by omega)), fun _ => ⟨T + k, rfl, by omega, ?_⟩⟩
          have := ih (k + 1) (by omega)
          rw [← mixB_upd, ← s_wb8 x (by omega), show T + (k + 1) = T + k + 1 by omega, ← nI_1 (T + k), ← nI_1 k] at this
          exact this
      have h0 := loop m 0 (by omega)
      rw [mixB_0, Nat.add_zero, ← x0] at h0
      exact o.run 100 [39] h0
    · have q0 : ¬ nI 8 < nI m := q
      have q2 : ¬ M.1 18 + nI m ≤ nI 24 := q2
      have q : ¬ nI 8 < nI m := q
      rw [nI_ltI (by omega) (by omega)] at q
      rw [x0, nI_add, nI_leI (by omega) (by omega)] at q2
      refine o.run 100 [] ?_
      show Z 32 (mdW 0 M) _ [.int (-(nI 6)), .ref 0]
      exact o.mrf h (by omega) (by rw [sFeed, if_neg h4, if_neg q0, ecl, ← hT0, if_pos (by omega)])
  · show Z 8 (mdW 0 M) _ [.int (-(nI 4)), .ref 0]
    exact o.mrf h (by omega) (by rw [sFeed, if_pos (show n < nI 1 from Int32.not_le.mp q)])
end MP1
end
section
/-! the reference's public methods, 2 -/
section MP2
variable {l : Launch} {D : va_G} {C : zC} {M : zM} {S : zF} {c : Nat}
set_option maxRecDepth 10000 in
theorem m_person (h : repM M S) (hT : okT S.1 c) {w r : Int32} : zPm l D C yX4_person cX4_person 3 2 [.int w, .int r] M (sPerson S w r) := by
  have hWb : S.1.1 0 ≤ 6 := hT.1.1
  have hLb : 0 < S.1.1 1 ∧ S.1.1 1 ≤ 24 := ⟨hT.1.2.1, hT.1.2.2.1⟩
  have hrb : S.1.1 2 ≤ 10 := hT.1.2.2.2.1
  have hnb : S.1.1 3 ≤ 8 := hT.1.2.2.2.2.1
  obtain ⟨⟨⟨a0, a1, a2, a3, a4, a5⟩, ⟨b1, b2, b3, b4, b5, b6⟩, kn⟩, him, tx, rf⟩ := id h
  refine zFun_of (by decide) oX4_person tbX4 (Nat.le_of_ble_eq_true rfl) (fun Z o => ?_)
  have bad : (isN w (S.1.1 0) && isN r (S.1.1 2)) = false → Z 16 (mdW 0 M) [some (.ref 0), some (.int w), some (.int r)] [] := fun hf => by
    refine o.run 100 [] ?_
    show Z 18 (mdW 0 M) _ [.int (-(nI 1)), .ref 0]
    exact o.mrf h (by omega) (by rw [sPerson, hf]; rfl)
  have good : (isN w (S.1.1 0) && isN r (S.1.1 2)) = true → Z 22 (mdW 0 M) [some (.ref 0), some (.int w), some (.int r)] [] := fun hb => by
    obtain ⟨hq1, hq2⟩ := Bool.and_eq_true_iff.mp hb
    obtain ⟨ew, hwl⟩ := isN_cl (by omega) hq1
    obtain ⟨er, hrl⟩ := isN_cl (by omega) hq2
    refine o.run 100 [38] ⟨fun q => ?_, fun q => ?_⟩
    · have q : ¬ M.1 4 = nI 8 := q
      rw [a2, nI_eq (by omega) (by omega)] at q
      refine o.run 100 [] ⟨S.1.1 3, a2, by omega, S.1.1 3, a2, by omega, S.1.1 3, a2, by omega, S.1.1 3, a2, by omega, ?_⟩
      refine mret (A' := (M.1 4 + nI 1 - nI 1, sW S (tN (tX (tX (tR (tR S.1 1 (updN (S.1.2.2.1 1) (S.1.1 3) (cl w))) 2 (updN (S.1.2.2.1 2) (S.1.1 3) (cl r))) 0 (upd (S.1.2.2.2.1 0) (S.1.1 3) (nI 255))) 1 (upd (S.1.2.2.2.1 1) (S.1.1 3) (nI 0))) 3 (S.1.1 3 + 1)))) ?_ (mN (mR (mR (mR (mR M 3 (upd (M.2 3) (S.1.1 3) w)) 4 (upd (M.2 4) (S.1.1 3) r)) 5 (upd (M.2 5) (S.1.1 3) (nI 255))) 6 (upd (M.2 6) (S.1.1 3) (nI 0))) 4 (M.1 4 + nI 1)) ?_
      · rw [sPerson, if_pos hb, if_neg q, a2, ad_sb]
      · refine ⟨⟨⟨a0, a1, ?_, a3, a4, a5⟩, ⟨b1, b2, ?_, ?_, ?_, ?_⟩, kn⟩, him, tx, rf⟩
        · show M.1 4 + nI 1 = nI (S.1.1 3 + 1)
          rw [a2, nI_add]
        · show upd (M.2 3) (S.1.1 3) w = fun j => nI (updN (S.1.2.2.1 1) (S.1.1 3) (cl w) j)
          rw [b3, ← upd_nI, ← ew]
        · show upd (M.2 4) (S.1.1 3) r = fun j => nI (updN (S.1.2.2.1 2) (S.1.1 3) (cl r) j)
          rw [b4, ← upd_nI, ← er]
        · show upd (M.2 5) (S.1.1 3) (nI 255) = upd (S.1.2.2.2.1 0) (S.1.1 3) (nI 255)
          rw [b5]
        · show upd (M.2 6) (S.1.1 3) (nI 0) = upd (S.1.2.2.2.1 1) (S.1.1 3) (nI 0)
          rw [b6]
    · have q : M.1 4 = nI 8 := q
      rw [a2, nI_eq (by omega) (by omega)] at q
      show Z 34 (mdW 0 M) _ [.int (-(nI 6)), .ref 0]
      exact o.mrf h (by omega) (by rw [sPerson, if_pos hb, if_pos q])
  refine o.run 100 [] ?_
  show Z _ _ _ _
  refine o.cV vX4_100 (m_isWay (x := w) (by omega) a0) (fun w' rv _ hpo => ?_)
  obtain ⟨rfl, rfl⟩ := hpo
  refine o.run 100 [16] ⟨fun q => bad ?_, fun q => ?_⟩
  · rw [(zB_0 _).mp q]; rfl
  · have hq1 := zB_t q
    show Z _ _ _ _
    refine o.cV vX4_156 (m_isRule (x := r) (by omega) a5) (fun w' rv _ hpo => ?_)
    obtain ⟨rfl, rfl⟩ := hpo
    refine o.run 100 [16, 22] ⟨fun q => good ?_, fun q => bad ?_⟩
    · rw [hq1, zB_t q]; rfl
    · rw [hq1, (zB_0 _).mp q]; rfl
set_option maxRecDepth 10000 in
theorem m_lives (h : repM M S) (hT : okT S.1 c) {p r : Int32} : zPm l D C yX4_lives cX4_lives 4 2 [.int p, .int r] M (sLives S p r) := by
  have hWb : S.1.1 0 ≤ 6 := hT.1.1
  have hLb : 0 < S.1.1 1 ∧ S.1.1 1 ≤ 24 := ⟨hT.1.2.1, hT.1.2.2.1⟩
  have hrb : S.1.1 2 ≤ 10 := hT.1.2.2.2.1
  have hnb : S.1.1 3 ≤ 8 := hT.1.2.2.2.2.1
  obtain ⟨⟨⟨a0, a1, a2, a3, a4, a5⟩, ⟨b1, b2, b3, b4, b5, b6⟩, kn⟩, him, tx, rf⟩ := id h
  refine zFun_of (by decide) oX4_lives tbX4 (Nat.le_of_ble_eq_true rfl) (fun Z o => ?_)
  have bad : (isN p (S.1.1 3) && isN r (S.1.1 2)) = false → Z 16 (mdW 0 M) [some (.ref 0), some (.int p), some (.int r), none] [] := fun hf => by
    refine o.run 100 [] ?_
    show Z 18 (mdW 0 M) _ [.int (-(nI 1)), .ref 0]
    exact o.mrf h (by omega) (by rw [sLives, hf]; rfl)
  have good : (isN p (S.1.1 3) && isN r (S.1.1 2)) = true → Z 22 (mdW 0 M) [some (.ref 0), some (.int p), some (.int r), none] [] := fun hb => by
    obtain ⟨hq1, hq2⟩ := Bool.and_eq_true_iff.mp hb
    obtain ⟨ep, hpl⟩ := isN_cl (by omega) hq1
    obtain ⟨er, hrl⟩ := isN_cl (by omega) hq2
    refine o.run 100 [] ⟨cl p, ep, by omega, cl p, ep, by omega, ?_⟩
    refine mret (A' := (M.2 4 (cl p), sW S (tR S.1 2 (updN (ruT S.1) (cl p) (cl r))))) ?_ (mR M 4 (upd (M.2 4) (cl p) r)) ?_
    · rw [sLives, if_pos hb, b4]
    · refine ⟨⟨⟨a0, a1, a2, a3, a4, a5⟩, ⟨b1, b2, b3, ?_, b5, b6⟩, kn⟩, him, tx, rf⟩
      show upd (M.2 4) (cl p) r = fun j => nI (updN (ruT S.1) (cl p) (cl r) j)
      rw [b4, ← upd_nI, ← er]
  refine o.run 100 [] ?_
  show Z _ _ _ _
  refine o.cV vX4_159 (m_isPerson (x := p) (by omega) a2) (fun w' rv _ hpo => ?_)
  obtain ⟨rfl, rfl⟩ := hpo
  refine o.run 100 [16] ⟨fun q => bad ?_, fun q => ?_⟩
  · rw [(zB_0 _).mp q]; rfl
  · have hq1 := zB_t q
    show Z _ _ _ _
    refine o.cV vX4_156 (m_isRule (x := r) (by omega) a5) (fun w' rv _ hpo => ?_)
    obtain ⟨rfl, rfl⟩ := hpo
    refine o.run 100 [16, 22] ⟨fun q => good ?_, fun q => bad ?_⟩
    · rw [hq1, zB_t q]; rfl
    · rw [hq1, (zB_0 _).mp q]; rfl
set_option maxRecDepth 10000 in
theorem m_plants (h : repM M S) (hT : okT S.1 c) {p r : Int32} : zPm l D C yX4_plants cX4_plants 4 2 [.int p, .int r] M (sPlants S p r) := by
  have hWb : S.1.1 0 ≤ 6 := hT.1.1
  have hLb : 0 < S.1.1 1 ∧ S.1.1 1 ≤ 24 := ⟨hT.1.2.1, hT.1.2.2.1⟩
  have hrb : S.1.1 2 ≤ 10 := hT.1.2.2.2.1
  have hnb : S.1.1 3 ≤ 8 := hT.1.2.2.2.2.1
  obtain ⟨⟨⟨a0, a1, a2, a3, a4, a5⟩, ⟨b1, b2, b3, b4, b5, b6⟩, kn⟩, him, tx, rf⟩ := id h
  refine zFun_of (by decide) oX4_plants tbX4 (Nat.le_of_ble_eq_true rfl) (fun Z o => ?_)
  have bad : (isN p (S.1.1 3) && isN r (S.1.1 0)) = false → Z 16 (mdW 0 M) [some (.ref 0), some (.int p), some (.int r), none] [] := fun hf => by
    refine o.run 100 [] ?_
    show Z 18 (mdW 0 M) _ [.int (-(nI 1)), .ref 0]
    exact o.mrf h (by omega) (by rw [sPlants, hf]; rfl)
  have good : (isN p (S.1.1 3) && isN r (S.1.1 0)) = true → Z 22 (mdW 0 M) [some (.ref 0), some (.int p), some (.int r), none] [] := fun hb => by
    obtain ⟨hq1, hq2⟩ := Bool.and_eq_true_iff.mp hb
    obtain ⟨ep, hpl⟩ := isN_cl (by omega) hq1
    obtain ⟨er, hrl⟩ := isN_cl (by omega) hq2
    refine o.run 100 [] ⟨cl p, ep, by omega, cl p, ep, by omega, ?_⟩
    refine mret (A' := (M.2 3 (cl p), sW S (tR S.1 1 (updN (S.1.2.2.1 1) (cl p) (cl r))))) ?_ (mR M 3 (upd (M.2 3) (cl p) r)) ?_
    · rw [sPlants, if_pos hb, b3]
    · refine ⟨⟨⟨a0, a1, a2, a3, a4, a5⟩, ⟨b1, b2, ?_, b4, b5, b6⟩, kn⟩, him, tx, rf⟩
      show upd (M.2 3) (cl p) r = fun j => nI (updN (S.1.2.2.1 1) (cl p) (cl r) j)
      rw [b3, ← upd_nI, ← er]
  refine o.run 100 [] ?_
  show Z _ _ _ _
  refine o.cV vX4_159 (m_isPerson (x := p) (by omega) a2) (fun w' rv _ hpo => ?_)
  obtain ⟨rfl, rfl⟩ := hpo
  refine o.run 100 [16] ⟨fun q => bad ?_, fun q => ?_⟩
  · rw [(zB_0 _).mp q]; rfl
  · have hq1 := zB_t q
    show Z _ _ _ _
    refine o.cV vX4_100 (m_isWay (x := r) (by omega) a0) (fun w' rv _ hpo => ?_)
    obtain ⟨rfl, rfl⟩ := hpo
    refine o.run 100 [16, 22] ⟨fun q => good ?_, fun q => bad ?_⟩
    · rw [hq1, zB_t q]; rfl
    · rw [hq1, (zB_0 _).mp q]; rfl
set_option maxRecDepth 10000 in
theorem m_sees (h : repM M S) (hT : okT S.1 c) {p x : Int32} : zPm l D C yX4_sees cX4_sees 4 2 [.int p, .int x] M (sSees S p x) := by
  have hWb : S.1.1 0 ≤ 6 := hT.1.1
  have hLb : 0 < S.1.1 1 ∧ S.1.1 1 ≤ 24 := ⟨hT.1.2.1, hT.1.2.2.1⟩
  have hrb : S.1.1 2 ≤ 10 := hT.1.2.2.2.1
  have hnb : S.1.1 3 ≤ 8 := hT.1.2.2.2.2.1
  obtain ⟨⟨⟨a0, a1, a2, a3, a4, a5⟩, ⟨b1, b2, b3, b4, b5, b6⟩, kn⟩, him, tx, rf⟩ := id h
  refine zFun_of (by decide) oX4_sees tbX4 (Nat.le_of_ble_eq_true rfl) (fun Z o => ?_)
  refine o.run 100 [] ?_
  show Z _ _ _ _
  refine o.cV vX4_159 (m_isPerson (x := p) (by omega) a2) (fun w' rv _ hpo => ?_)
  obtain ⟨rfl, rfl⟩ := hpo
  refine o.run 100 [14] ⟨fun q => ?_, fun q => ?_⟩
  · have hp := zB_t q
    obtain ⟨ep, hpl⟩ := isN_cl (by omega) hp
    refine o.run 100 [25] ⟨fun q => ?_, fun q => ?_⟩
    · have h4 : ¬ x < 0 := Int32.not_lt.mpr q
      refine o.run 100 [39] ⟨fun q => ?_, fun q => ?_⟩
      · have h6 : ¬ nI 255 < x := Int32.not_lt.mpr q
        refine o.run 100 [] ⟨cl p, ep, by omega, cl p, ep, by omega, ?_⟩
        refine mret (A' := (M.2 5 (cl p), sW S (tX S.1 0 (upd (S.1.2.2.2.1 0) (cl p) x)))) ?_ (mR M 5 (upd (M.2 5) (cl p) x)) ?_
        · rw [sSees, if_pos hp, if_neg h4, if_neg h6, b5]
        · refine ⟨⟨⟨a0, a1, a2, a3, a4, a5⟩, ⟨b1, b2, b3, b4, ?_, b6⟩, kn⟩, him, tx, rf⟩
          show upd (M.2 5) (cl p) x = upd (S.1.2.2.2.1 0) (cl p) x
          rw [b5]
      · show Z 35 (mdW 0 M) _ [.int (-(nI 6)), .ref 0]
        exact o.mrf h (by omega) (by rw [sSees, if_pos hp, if_neg h4, if_pos (show nI 255 < x from Int32.not_le.mp q)])
    · show Z 21 (mdW 0 M) _ [.int (-(nI 4)), .ref 0]
      exact o.mrf h (by omega) (by rw [sSees, if_pos hp, if_pos (show x < 0 from Int32.not_le.mp q)])
  · show Z 10 (mdW 0 M) _ [.int (-(nI 1)), .ref 0]
    exact o.mrf h (by omega) (by rw [sSees, (zB_0 _).mp q]; rfl)
set_option maxRecDepth 10000 in
theorem m_show (h : repM M S) (hT : okT S.1 c) {x : Int32} : zPm l D C yX4_show cX4_show 3 1 [.int x] M (sShow S x) := by
  have hWb : S.1.1 0 ≤ 6 := hT.1.1
  have hLb : 0 < S.1.1 1 ∧ S.1.1 1 ≤ 24 := ⟨hT.1.2.1, hT.1.2.2.1⟩
  have hrb : S.1.1 2 ≤ 10 := hT.1.2.2.2.1
  have hnb : S.1.1 3 ≤ 8 := hT.1.2.2.2.2.1
  obtain ⟨⟨⟨a0, a1, a2, a3, a4, a5⟩, ⟨b1, b2, b3, b4, b5, b6⟩, kn⟩, him, tx, rf⟩ := id h
  refine zFun_of (by decide) oX4_show tbX4 (Nat.le_of_ble_eq_true rfl) (fun Z o => ?_)
  refine o.run 100 [11] ⟨fun q => ?_, fun q => ?_⟩
  · have h4 : ¬ x < 0 := Int32.not_lt.mpr q
    refine o.run 100 [24] ⟨fun q => ?_, fun q => ?_⟩
    · have h6 : ¬ nI 24 < x := Int32.not_lt.mpr q
      refine o.run 100 [] (mret (A' := (M.1 9, sW S (tN S.1 5 (cl x)))) ?_ (mN M 9 x) ?_)
      · rw [sShow, if_neg h4, if_neg h6, a3]
      · refine ⟨⟨⟨a0, a1, a2, ?_, a4, a5⟩, ⟨b1, b2, b3, b4, b5, b6⟩, kn⟩, him, tx, rf⟩
        obtain ⟨k, hk, rfl⟩ := nI_of h4
        show nI k = nI (cl (nI k))
        rw [show cl (nI k) = k from nI_clamp (by omega)]
    · show Z 20 (mdW 0 M) _ [.int (-(nI 6)), .ref 0]
      exact o.mrf h (by omega) (by rw [sShow, if_neg h4, if_pos (show nI 24 < x from Int32.not_le.mp q)])
  · show Z 7 (mdW 0 M) _ [.int (-(nI 4)), .ref 0]
    exact o.mrf h (by omega) (by rw [sShow, if_pos (show x < 0 from Int32.not_le.mp q)])
set_option maxRecDepth 10000 in
theorem m_of (h : repM M S) (hT : okT S.1 c) (hc : c ≤ 100) {p w : Int32} : zPm l D C yX4_of cX4_of 3 2 [.int p, .int w] M (sOf S p w) := by
  have hWb : S.1.1 0 ≤ 6 := hT.1.1
  have hLb : 0 < S.1.1 1 ∧ S.1.1 1 ≤ 24 := ⟨hT.1.2.1, hT.1.2.2.1⟩
  have hrb : S.1.1 2 ≤ 10 := hT.1.2.2.2.1
  have hnb : S.1.1 3 ≤ 8 := hT.1.2.2.2.2.1
  obtain ⟨⟨⟨a0, a1, a2, a3, a4, a5⟩, ⟨b1, b2, b3, b4, b5, b6⟩, kn⟩, him, tx, rf⟩ := id h
  refine zFun_of (by decide) oX4_of tbX4 (Nat.le_of_ble_eq_true rfl) (fun Z o => ?_)
  have hy30 : S.1.1 4 < 2 ^ 30 := by have := hT.1.2.2.2.2.2.1; omega
  refine o.run 100 [] ?_
  show Z _ _ _ _
  refine o.cV vX4_159 (m_isPerson (x := p) (by omega) a2) (fun w' rv _ hpo => ?_)
  obtain ⟨rfl, rfl⟩ := hpo
  refine o.run 100 [14] ⟨fun q => ?_, fun q => ?_⟩
  · have hp := zB_t q
    obtain ⟨ep, hpl⟩ := isN_cl (by omega) hp
    refine o.run 100 [48, 55, 62, 69, 98, 105] ⟨⟨fun a => ?_, fun a => ?_, fun a => ?_, fun a => ?_, fun a => ?_, trivial⟩, fun a => ?_⟩
    · have a : w = nI 0 := a
      refine o.run 100 [] ⟨cl p, ep, by omega, mret (A' := (M.2 3 (cl p), S)) ?_ M h⟩
      rw [sOf, if_pos hp, if_pos a, b3]
    · have a : w = nI 1 := a
      refine o.run 100 [] ⟨cl p, ep, by omega, mret (A' := (M.2 4 (cl p), S)) ?_ M h⟩
      subst a
      rw [sOf, if_pos hp, if_neg (by decide), if_pos rfl, b4]
    · have a : w = nI 2 := a
      refine o.run 100 [] ⟨cl p, ep, by omega, mret (A' := (M.2 5 (cl p), S)) ?_ M h⟩
      subst a
      rw [sOf, if_pos hp, if_neg (by decide), if_neg (by decide), if_pos rfl, b5]
    · have a : w = nI 3 := a
      have hd2 := hT.2.2.1
      refine o.run 100 [] ⟨cl p, ep, by omega, ?_, S.1.1 4 % S.1.1 1, ?_, ?_, S.1.2.2.1 1 (cl p) * 4 + S.1.2.2.1 0 (S.1.1 4 % S.1.1 1), ?_, ?_, mret (A' := (M.2 1 (S.1.2.2.1 1 (cl p) * 4 + S.1.2.2.1 0 (S.1.1 4 % S.1.1 1)), S)) ?_ M h⟩
      · show ¬ M.1 3 = 0
        rw [a1]; exact nI_ne0 hLb.1 (by omega)
      · show M.1 10 - M.1 10 / M.1 3 * M.1 3 = _
        rw [a1, a4]; exact pk_rem (by omega) hLb.1 (by omega)
      · have := Nat.mod_lt (S.1.1 4) hLb.1; omega
      · show nI 4 * M.2 3 (cl p) + M.2 2 (S.1.1 4 % S.1.1 1) = _
        rw [b3, b2]; exact ix4 _ _
      · have := (hd2 (cl p)).2.1
        have := (hd2 (S.1.1 4 % S.1.1 1)).1
        omega
      · subst a
        rw [sOf, if_pos hp, if_neg (by decide), if_neg (by decide), if_neg (by decide), if_pos rfl, b1]
        rfl
    · have a : w = nI 4 := a
      refine o.run 100 [] ⟨cl p, ep, by omega, mret (A' := (M.2 6 (cl p), S)) ?_ M h⟩
      subst a
      rw [sOf, if_pos hp, if_neg (by decide), if_neg (by decide), if_neg (by decide), if_neg (by decide), if_pos rfl, b6]
    · refine o.run 100 [] ?_
      show Z 108 (mdW 0 M) _ [.int (-(nI 2)), .ref 0]
      exact o.mrf h (by omega) (sOf_d hp a)
  · show Z 10 (mdW 0 M) _ [.int (-(nI 1)), .ref 0]
    exact o.mrf h (by omega) (by rw [sOf, (zB_0 _).mp q]; rfl)
set_option maxRecDepth 10000 in
theorem m_share (h : repM M S) (hT : okT S.1 c) {w : Int32} : zPm l D C yX4_share cX4_share 4 2 [.int w] M (sShare S w) := by
  have hWb : S.1.1 0 ≤ 6 := hT.1.1
  have hLb : 0 < S.1.1 1 ∧ S.1.1 1 ≤ 24 := ⟨hT.1.2.1, hT.1.2.2.1⟩
  have hrb : S.1.1 2 ≤ 10 := hT.1.2.2.2.1
  have hnb : S.1.1 3 ≤ 8 := hT.1.2.2.2.2.1
  obtain ⟨⟨⟨a0, a1, a2, a3, a4, a5⟩, ⟨b1, b2, b3, b4, b5, b6⟩, kn⟩, him, tx, rf⟩ := id h
  refine zFun_of (by decide) oX4_share tbX4 (Nat.le_of_ble_eq_true rfl) (fun Z o => ?_)
  refine o.run 100 [] ?_
  show Z _ _ _ _
  refine o.cV vX4_100 (m_isWay (x := w) (by omega) a0) (fun w' rv _ hpo => ?_)
  obtain ⟨rfl, rfl⟩ := hpo
  refine o.run 100 [14] ⟨fun q => ?_, fun q => ?_⟩
  · have hp := zB_t q
    obtain ⟨ep, hpl⟩ := isN_cl (by omega) hp
    have hd2 := hT.2.2.1
    have loop : ∀ j k, k + j = S.1.1 3 → Z 18 (mdW 0 M) [some (.ref 0), some (.int w), some (.int (nI (cnt (fun p => decide (S.1.2.2.1 1 p = cl w)) k))), some (.int (nI k))] [] := by
      intro j
      induction j with
      | zero =>
        intro k hk
        obtain rfl : k = S.1.1 3 := by omega
        exact o.run 100 [] ⟨fun _ => mret (A' := (nI (cnt (fun p => decide (S.1.2.2.1 1 p = cl w)) (S.1.1 3)), S)) (by rw [sShare, if_pos hp]) M h, fun q => absurd (by show M.1 4 ≤ _; rw [a2]; exact nI_le (Nat.le_refl _) (by omega)) q⟩
      | succ j ih =>
        intro k hk
        have hv := (hd2 k).2.1
        refine o.run 100 [18] ⟨fun q => absurd q (by show ¬ M.1 4 ≤ _; rw [a2]; exact nI_ge (by omega) (by omega)), fun _ => ⟨k, rfl, by omega, fun q => ?_, fun q => ?_⟩⟩
        · have q : ¬ M.2 3 k = w := q
          have := ih (k + 1) (by omega)
          have hn : ¬ S.1.2.2.1 1 k = cl w := fun z => q (by rw [b3]; show nI (S.1.2.2.1 1 k) = w; rw [z]; exact ep.symm)
          rw [cnt, if_neg (by simpa using hn), ← nI_1 k] at this
          have e0 : nI (cnt (fun p => decide (S.1.2.2.1 1 p = cl w)) k + 0) = nI (cnt (fun p => decide (S.1.2.2.1 1 p = cl w)) k) + nI 0 := (nI_add _ _).symm
          rw [e0] at this
          exact this
        · have q : M.2 3 k = w := q
          have := ih (k + 1) (by omega)
          have hn : S.1.2.2.1 1 k = cl w := by
            rw [b3] at q
            have q : nI (S.1.2.2.1 1 k) = w := q
            rw [← q]
            exact (nI_clamp (by omega)).symm
          rw [cnt, if_pos (by simpa using hn), ← nI_1 k, ← nI_1] at this
          exact this
    exact o.run 100 [18] (loop (S.1.1 3) 0 (by omega))
  · show Z 10 (mdW 0 M) _ [.int (-(nI 1)), .ref 0]
    exact o.mrf h (by omega) (by rw [sShare, (zB_0 _).mp q]; rfl)
set_option maxRecDepth 10000 in
theorem m_count (h : repM M S) (hT : okT S.1 c) {w : Int32} : zPm l D C yX4_count cX4_count 4 1 [.int w] M (sCount S w) := by
  have hWb : S.1.1 0 ≤ 6 := hT.1.1
  have hLb : 0 < S.1.1 1 ∧ S.1.1 1 ≤ 24 := ⟨hT.1.2.1, hT.1.2.2.1⟩
  have hrb : S.1.1 2 ≤ 10 := hT.1.2.2.2.1
  have hnb : S.1.1 3 ≤ 8 := hT.1.2.2.2.2.1
  obtain ⟨⟨⟨a0, a1, a2, a3, a4, a5⟩, ⟨b1, b2, b3, b4, b5, b6⟩, kn⟩, him, tx, rf⟩ := id h
  refine zFun_of (by decide) oX4_count tbX4 (Nat.le_of_ble_eq_true rfl) (fun Z o => ?_)
  refine o.run 100 [48, 53, 58, 63, 68, 73, 78, 107, 112] ⟨⟨fun a => ?_, fun a => ?_, fun a => ?_, fun a => ?_, fun a => ?_, fun a => ?_, fun a => ?_, fun a => ?_, trivial⟩, fun a => ?_⟩
  · obtain rfl : w = nI 0 := a
    refine o.run 100 [] (mret (A' := (M.1 0, S)) ?_ M h)
    rw [sCount, if_pos rfl, a0]
  · obtain rfl : w = nI 1 := a
    refine o.run 100 [] (mret (A' := (M.1 4, S)) ?_ M h)
    rw [sCount, if_neg (by decide), if_pos rfl, a2]
  · obtain rfl : w = nI 2 := a
    refine o.run 100 [] (mret (A' := (M.1 11, S)) ?_ M h)
    rw [sCount, if_neg (by decide), if_neg (by decide), if_pos rfl, a5]
  · obtain rfl : w = nI 3 := a
    refine o.run 100 [] (mret (A' := (M.1 10, S)) ?_ M h)
    rw [sCount, if_neg (by decide), if_neg (by decide), if_neg (by decide), if_pos rfl, a4]
  · obtain rfl : w = nI 4 := a
    refine o.run 100 [] (mret (A' := (M.1 3, S)) ?_ M h)
    rw [sCount, if_neg (by decide), if_neg (by decide), if_neg (by decide), if_neg (by decide), if_pos rfl, a1]
  · obtain rfl : w = nI 5 := a
    refine o.run 100 [] (mret (A' := (M.1 9, S)) ?_ M h)
    rw [sCount, if_neg (by decide), if_neg (by decide), if_neg (by decide), if_neg (by decide), if_neg (by decide), if_pos rfl, a3]
  · obtain rfl : w = nI 6 := a
    have loop : ∀ j k, k + j = S.1.1 3 → Z 82 (mdW 0 M) [some (.ref 0), some (.int (nI 6)), some (.int (sm (M.2 6) k)), some (.int (nI k))] [] := by
      intro j
      induction j with
      | zero =>
        intro k hk
        obtain rfl : k = S.1.1 3 := by omega
        refine o.run 100 [] ⟨fun _ => mret (A' := (sm (M.2 6) (S.1.1 3), S)) ?_ M h, fun q => absurd (by show M.1 4 ≤ _; rw [a2]; exact nI_le (Nat.le_refl _) (by omega)) q⟩
        rw [sCount, if_neg (by decide), if_neg (by decide), if_neg (by decide), if_neg (by decide), if_neg (by decide), if_neg (by decide), if_pos rfl, b6]
      | succ j ih =>
        intro k hk
        refine o.run 100 [82] ⟨fun q => absurd q (by show ¬ M.1 4 ≤ _; rw [a2]; exact nI_ge (by omega) (by omega)), fun _ => ⟨k, rfl, by omega, ?_⟩⟩
        have := ih (k + 1) (by omega)
        rw [sm, ← nI_1 k] at this
        exact this
    exact o.run 100 [82] (loop (S.1.1 3) 0 (by omega))
  · obtain rfl : w = nI 7 := a
    refine o.run 100 [] (mret (A' := (M.1 18, S)) ?_ M h)
    rw [sCount, if_neg (by decide), if_neg (by decide), if_neg (by decide), if_neg (by decide), if_neg (by decide), if_neg (by decide), if_neg (by decide), if_pos rfl, tx.1]
  · have hs := sCount_d (S := S) a
    refine o.run 100 [] ?_
    show Z _ _ _ _
    refine o.cS vX4_84 (m_in (x := w.toInt64) (a := lN 11) (b := lN 16)) (fun rv hpo => ?_)
    subst hpo
    have hi := in_lit (x := w) (a := 11) (b := 16) (by omega) (by omega)
    refine o.run 100 [126, 138] ⟨fun q => ?_, fun q => ?_⟩
    · have hf : ¬ (nI 11 ≤ w ∧ w ≤ nI 16) := fun z => of_decide_eq_false ((zB_0 _).mp q) (hi.mpr z)
      show Z 138 (mdW 0 M) [some (.ref 0), some (.int w), none, none] []
      have es : sCount S w = (zi (-9), S) := by rw [hs, if_neg hf]
      refine o.run 100 [] ⟨⟨_, rfl, rfl⟩, rfl, ⟨M, rfl, ?_⟩, ?_⟩
      · rw [es]; exact h
      · rw [es]
    · have hp : nI 11 ≤ w ∧ w ≤ nI 16 := hi.mp (of_decide_eq_true (zB_t q))
      have h0 : ¬ w < 0 := fun z => Int32.not_le.mpr (Int32.lt_trans z (by decide : (0 : Int32) < nI 11)) hp.1
      obtain ⟨k, hk, rfl⟩ := nI_of h0
      have hp' := hp
      rw [nI_leI (by omega) (by omega), nI_leI (by omega) (by omega)] at hp'
      refine o.run 100 [] ⟨k - 10, by show nI k - nI 10 = _; rw [pk_sub (by omega)], by omega, mret (A' := (M.2 13 (k - 10), S)) ?_ M h⟩
      rw [hs, if_pos hp, rf, show cl (nI k) = k from nI_clamp (by omega)]
end MP2
end
section
/-! the reference's runs -/
def wthr (M : zM) (t : zT) (tw : Nat → Nat) : Prop := (M.1 32 = nI 0 ∧ ∀ i, tw i = t.2.2.1 0 ((t.1 4 + i) % t.1 1)) ∨ (∃ L x y : Nat, (0 < L ∧ L ≤ 12) ∧ (x < 4 ∧ y < 4) ∧ (M.1 32 = nI L ∧ M.1 33 = nI x ∧ M.1 34 = nI y) ∧ ∀ i, tw i = if i % (2 * L) < L then x else y)
/-- a run is laid out: who plants what, lives by what, sees whom -/
def okQ (M : zM) (t : zT) (bl : Nat → Bool) (se : Nat → Int32) (sh : Nat) (ru tw v : Nat → Nat) : Prop :=
  repT M t ∧ (∀ p, p < t.1 3 → M.2 16 p = nI (v p) ∧ v p < t.1 0) ∧ (∀ p, p < t.1 3 → M.2 17 p = nI (ru p) ∧ ru p < t.1 2) ∧ (∀ p o, p < t.1 3 → o < t.1 3 → ¬ p = o → sb (M.2 18 p) o = sb (se p) o) ∧ (M.1 30 = nI sh ∧ sh ≤ 24) ∧ (∀ o, o < t.1 3 → (nI o = M.1 31 ↔ bl o = true)) ∧ wthr M t tw
theorem tw_lt {M : zM} {t : zT} {tw : Nat → Nat} {c : Nat} (h : wthr M t tw) (hT : okT t c) (i : Nat) : tw i < 4 := by
  rcases h with ⟨-, h⟩ | ⟨L, x, y, -, ⟨hx, hy⟩, -, h⟩
  · rw [h i]; exact (hT.2.2.1 _).1
  · rw [h i]; split <;> assumption
section MQ
variable {l : Launch} {D : va_G} {C : zC} {M : zM} {t : zT} {c : Nat} {bl : Nat → Bool} {se : Nat → Int32} {sh : Nat} {ru tw v : Nat → Nat}
set_option maxRecDepth 10000 in
theorem m_weatherAt {i : Nat} (h : okQ M t bl se sh ru tw v) (hT : okT t c) (hc : c ≤ 100) (hi : i < 100) : zFun l D C yX4_weatherAt cX4_weatherAt 2 (some .int) (zR 0) [.ref 0, .int (nI i)] (mdW 0 M) (fun w rv => w = mdW 0 M ∧ rv = some (.int (nI (tw i)))) := by
  have hLb : 0 < t.1 1 ∧ t.1 1 ≤ 24 := ⟨hT.1.2.1, hT.1.2.2.1⟩
  have hy : t.1 4 ≤ 6000 := by have := hT.1.2.2.2.2.2.1; omega
  obtain ⟨⟨⟨a0, a1, a2, a3, a4, a5⟩, ⟨b1, b2, b3, b4, b5, b6⟩, kn⟩, h1, h2, h3, h4, h5, h6⟩ := h
  refine zFun_of (by decide) oX4_weatherAt tbX4 (Nat.le_of_ble_eq_true rfl) (fun Z o => ?_)
  rcases h6 with ⟨e, h6⟩ | ⟨L, x, y, ⟨hL, hL2⟩, ⟨hx, hy4⟩, ⟨e1, e2, e3⟩, h6⟩
  · refine o.run 100 [26] ⟨fun q => absurd (show M.1 32 = 0 by rw [e]; exact nI_0) q, fun _ => ⟨?_, (t.1 4 + i) % t.1 1, ?_, ?_, ⟨_, rfl, rfl⟩, rfl, rfl, ?_⟩⟩
    · show ¬ M.1 3 = 0
      rw [a1]; exact nI_ne0 hLb.1 (by omega)
    · show (M.1 10 + nI i) - (M.1 10 + nI i) / M.1 3 * M.1 3 = _
      rw [a1, a4, nI_add]; exact pk_rem (by omega) hLb.1 (by omega)
    · have := Nat.mod_lt (t.1 4 + i) hLb.1; omega
    · rw [b2, h6 i]
  · have er : nI i - nI i / (nI 2 * M.1 32) * (nI 2 * M.1 32) = nI (i % (2 * L)) := by
      rw [e1, pk_mul]; exact pk_rem (by omega) (by omega) (by omega)
    refine o.run 100 [26] ⟨fun _ => ?_, fun q => absurd q (by show ¬ M.1 32 = 0; rw [e1]; exact nI_ne0 hL (by omega))⟩
    have hm := Nat.mod_lt i (show 0 < 2 * L by omega)
    refine o.run 100 [] ⟨?_, fun q => ⟨⟨_, rfl, rfl⟩, rfl, rfl, ?_⟩, fun q => ⟨⟨_, rfl, rfl⟩, rfl, rfl, ?_⟩⟩
    · show ¬ nI 2 * M.1 32 = 0
      rw [e1, pk_mul]; exact nI_ne0 (by omega) (by omega)
    · have q : M.1 32 ≤ nI i - nI i / (nI 2 * M.1 32) * (nI 2 * M.1 32) := q
      rw [er, e1, nI_leI (by omega) (by omega)] at q
      rw [h6 i, if_neg (by omega), e3]
    · have q : ¬ M.1 32 ≤ nI i - nI i / (nI 2 * M.1 32) * (nI 2 * M.1 32) := q
      rw [er, e1, nI_leI (by omega) (by omega)] at q
      rw [h6 i, if_pos (by omega), e2]
set_option maxRecDepth 10000 in
theorem m_doesSee {p q y : Nat} (h : okQ M t bl se sh ru tw v) (hT : okT t c) (hp : p < t.1 3) (hq : q < t.1 3) (hy : y < 2 ^ 30) : zFun l D C yX4_doesSee cX4_doesSee 5 (some .boolean) (zR 0) [.ref 0, .int (nI p), .int (nI q), .int (nI y)] (mdW 0 M) (fun w rv => w = mdW 0 M ∧ rv = some (.int (zB (seeS sh bl se y p q)))) := by
  have hnb : t.1 3 ≤ 8 := hT.1.2.2.2.2.1
  obtain ⟨-, h1, h2, h3, ⟨e30, hsh⟩, h5, h6⟩ := h
  refine zFun_of (by decide) oX4_doesSee tbX4 (Nat.le_of_ble_eq_true rfl) (fun Z o => ?_)
  refine o.run 100 [7] ⟨fun g => ?_, fun g => ?_⟩
  · have g : ¬ nI p = nI q := g
    rw [nI_eq (by omega) (by omega)] at g
    have fin : ∀ b : Bool, b = decide (0 < sh ∧ y % sh = 0) → Z 28 (mdW 0 M) [some (.ref 0), some (.int (nI p)), some (.int (nI q)), some (.int (nI y)), none] [.int (zB b)] := fun b hb => by
      have es : seeS sh bl se y p q = (!bl q && (b || sb (se p) q)) := by
        unfold seeS; rw [decide_eq_false g, Bool.false_or, hb]
      refine o.run 100 [61, 57, 43] ⟨fun g1 => ?_, fun g1 => ⟨fun g2 => ?_, fun g2 => ?_⟩⟩
      · have hb1 : bl q = true := (h5 q hq).mp g1
        refine o.run 100 [] ⟨zB_rt false, rfl, rfl, ?_⟩
        rw [es, hb1]; rfl
      · have hb1 : bl q = false := by
          cases hz : bl q with
          | false => rfl
          | true => exact absurd ((h5 q hq).mpr hz) g1
        have hb2 := zB_t g2
        refine o.run 100 [] ⟨zB_rt true, rfl, rfl, ?_⟩
        rw [es, hb1, hb2]; rfl
      · have hb1 : bl q = false := by
          cases hz : bl q with
          | false => rfl
          | true => exact absurd ((h5 q hq).mpr hz) g1
        have hb2 := (zB_0 b).mp g2
        have hs := sb_ref (x := M.2 18 p) (o := q) (by omega)
        refine o.run 100 [] ⟨p, rfl, by omega, fun g3 => ⟨zB_rt false, rfl, rfl, ?_⟩, fun g3 => ⟨zB_rt true, rfl, rfl, ?_⟩⟩
        · have g3 : ¬ ((M.2 18 p >>> (nI q &&& 31)) &&& nI 1) = nI 1 := g3
          have hz : sb (se p) q = false := by
            rw [← h3 p q hp hq g]
            cases hz : sb (M.2 18 p) q with
            | false => rfl
            | true => exact absurd (hs.mpr hz) g3
          rw [es, hb1, hb2, hz]; rfl
        · have hz : sb (se p) q = true := by
            rw [← h3 p q hp hq g]
            exact hs.mp g3
          rw [es, hb1, hb2, hz]; rfl
    refine o.run 100 [27, 28] ⟨fun g1 => ?_, fun g1 => ?_⟩
    · have g1 : M.1 30 ≤ 0 := g1
      have h0 : sh = 0 := by
        rcases Nat.eq_zero_or_pos sh with z | z
        · exact z
        · rw [e30] at g1; exact absurd g1 (nI_nle z (by omega))
      exact o.run 100 [28] (fin false (by rw [decide_eq_false]; omega))
    · have g1 : ¬ M.1 30 ≤ 0 := g1
      have h0 : 0 < sh := by
        rcases Nat.eq_zero_or_pos sh with z | z
        · rw [e30, z] at g1; exact absurd (by decide) g1
        · exact z
      have er : nI y - nI y / M.1 30 * M.1 30 = nI (y % sh) := by rw [e30]; exact pk_rem (by omega) h0 (by omega)
      have hm := Nat.mod_lt y h0
      refine ⟨?_, fun g2 => ?_, fun g2 => ?_⟩
      · show ¬ M.1 30 = 0
        rw [e30]; exact nI_ne0 h0 (by omega)
      · have g2 : ¬ nI y - nI y / M.1 30 * M.1 30 = 0 := g2
        rw [er] at g2
        exact o.run 100 [28] (fin false (by rw [decide_eq_false]; exact fun z => g2 (by rw [z.2]; exact nI_0)))
      · have g2 : nI y - nI y / M.1 30 * M.1 30 = 0 := g2
        rw [er] at g2
        have hz : y % sh = 0 := by
          rcases Nat.eq_zero_or_pos (y % sh) with z | z
          · exact z
          · exact absurd g2 (nI_ne0 z (by omega))
        exact fin true (by rw [decide_eq_true]; exact ⟨h0, hz⟩)
  · have g : nI p = nI q := g
    rw [nI_eq (by omega) (by omega)] at g
    subst g
    refine ⟨zB_rt true, rfl, rfl, ?_⟩
    rw [see_self]; rfl
set_option maxRecDepth 10000 in
theorem m_planting {p y w : Nat} (h : okQ M t bl se sh ru tw v) (hT : okT t c) (hp : p < t.1 3) (hy : y < 2 ^ 30) (hw : w < 6) : zFun l D C yX4_planting cX4_planting 6 (some .int) (zR 1) [.ref 0, .int (nI p), .int (nI y), .int (nI w)] (mdW 0 M) (fun w' rv => w' = mdW 0 M ∧ rv = some (.int (nI (cnt (fun o => seeS sh bl se y p o && decide (v o = w)) (t.1 3))))) := by
  have hnb : t.1 3 ≤ 8 := hT.1.2.2.2.2.1
  have hWb : t.1 0 ≤ 6 := hT.1.1
  have a2 := h.1.1.2.2.1
  have h1 := h.2.1
  refine zFun_of (by decide) oX4_planting tbX4 (Nat.le_of_ble_eq_true rfl) (fun Z o => ?_)
  have loop : ∀ j k, k + j = t.1 3 → Z 6 (mdW 0 M) [some (.ref 0), some (.int (nI p)), some (.int (nI y)), some (.int (nI w)), some (.int (nI (cnt (fun o => seeS sh bl se y p o && decide (v o = w)) k))), some (.int (nI k))] [] := by
    intro j
    induction j with
    | zero =>
      intro k hk
      obtain rfl : k = t.1 3 := by omega
      exact o.run 100 [] ⟨fun _ => ⟨⟨_, rfl, rfl⟩, rfl, rfl, rfl⟩, fun q => absurd (by show M.1 4 ≤ _; rw [a2]; exact nI_le (Nat.le_refl _) (by omega)) q⟩
    | succ j ih =>
      intro k hk
      have hvk := h1 k (by omega)
      have no : (seeS sh bl se y p k && decide (v k = w)) = false → Z 6 (mdW 0 M) [some (.ref 0), some (.int (nI p)), some (.int (nI y)), some (.int (nI w)), some (.int (nI (cnt (fun o => seeS sh bl se y p o && decide (v o = w)) k) + nI 0)), some (.int (nI k + nI 1))] [] := fun hf => by
        have := ih (k + 1) (by omega)
        have e : cnt (fun o => seeS sh bl se y p o && decide (v o = w)) (k + 1) = cnt (fun o => seeS sh bl se y p o && decide (v o = w)) k + 0 := by
          rw [cnt, if_neg (by rw [hf]; simp)]
        rw [e, ← nI_add, ← nI_1 k] at this
        exact this
      refine o.run 100 [] ⟨fun q => absurd q (by show ¬ M.1 4 ≤ _; rw [a2]; exact nI_ge (by omega) (by omega)), fun _ => ?_⟩
      show Z _ _ _ _
      refine o.cV (rest := [.int (nI (cnt (fun o => seeS sh bl se y p o && decide (v o = w)) k))]) vX4_183 (m_doesSee (p := p) (q := k) (y := y) h hT hp (by omega) hy) (fun w' rv _ hpo => ?_)
      obtain ⟨rfl, rfl⟩ := hpo
      refine o.run 100 [6] ⟨fun q => ?_, fun q => ⟨k, rfl, by omega, fun q2 => ?_, fun q2 => ?_⟩⟩
      · exact no (by rw [(zB_0 _).mp q, Bool.false_and])
      · have q2 : ¬ M.2 16 k = nI w := q2
        rw [hvk.1, nI_eq (by omega) (by omega)] at q2
        exact no (by rw [decide_eq_false q2, Bool.and_false])
      · have q2 : M.2 16 k = nI w := q2
        rw [hvk.1, nI_eq (by omega) (by omega)] at q2
        have := ih (k + 1) (by omega)
        have e : cnt (fun o => seeS sh bl se y p o && decide (v o = w)) (k + 1) = cnt (fun o => seeS sh bl se y p o && decide (v o = w)) k + 1 := by
          rw [cnt, if_pos (by rw [zB_t q, decide_eq_true q2]; rfl)]
        rw [e, ← nI_add, ← nI_1 k] at this
        exact this
  exact o.run 100 [6] (loop (t.1 3) 0 (by omega))
set_option maxRecDepth 10000 in
theorem m_bestSeen {p y w : Nat} (h : okQ M t bl se sh ru tw v) (hT : okT t c) (hp : p < t.1 3) (hy : y < 2 ^ 30) (hw : w < 4) : zFun l D C yX4_bestSeen cX4_bestSeen 8 (some .int) (zR 1) [.ref 0, .int (nI p), .int (nI y), .int (nI w)] (mdW 0 M) (fun w' rv => w' = mdW 0 M ∧ rv = some (.int (nI (v (bsn (seeS sh bl se y p) (fun o => t.2.1 (v o * 4 + w)) p (t.1 3)))))) := by
  have hnb : t.1 3 ≤ 8 := hT.1.2.2.2.2.1
  have hWb : t.1 0 ≤ 6 := hT.1.1
  have a2 := h.1.1.2.2.1
  have b1 := h.1.2.1.1
  have h1 := h.2.1
  refine zFun_of (by decide) oX4_bestSeen tbX4 (Nat.le_of_ble_eq_true rfl) (fun Z o => ?_)
  have ix : ∀ q, q < t.1 3 → nI 4 * M.2 16 q + nI w = nI (v q * 4 + w) ∧ v q * 4 + w < 24 := fun q hq => by
    have := h1 q hq
    rw [this.1, ix4]
    exact ⟨rfl, by omega⟩
  have loop : ∀ j k, k + j = t.1 3 → ∀ x6 x7, Z 6 (mdW 0 M) [some (.ref 0), some (.int (nI p)), some (.int (nI y)), some (.int (nI w)), some (.int (nI (bsn (seeS sh bl se y p) (fun o => t.2.1 (v o * 4 + w)) p k))), some (.int (nI k)), x6, x7] [] := by
    intro j
    induction j with
    | zero =>
      intro k hk x6 x7
      obtain rfl : k = t.1 3 := by omega
      have hb := bsn_lt (see := seeS sh bl se y p) (br := fun o => t.2.1 (v o * 4 + w)) hp (t.1 3) (Nat.le_refl _)
      refine o.run 100 [] ⟨fun _ => ⟨_, rfl, by omega, ⟨_, rfl, rfl⟩, rfl, rfl, ?_⟩, fun q => absurd (by show M.1 4 ≤ _; rw [a2]; exact nI_le (Nat.le_refl _) (by omega)) q⟩
      rw [(h1 _ hb).1]
    | succ j ih =>
      intro k hk x6 x7
      have hb := bsn_lt (see := seeS sh bl se y p) (br := fun o => t.2.1 (v o * 4 + w)) hp k (by omega)
      have hor := bsn_or (see := seeS sh bl se y p) (br := fun o => t.2.1 (v o * 4 + w)) (p := p) k
      have hnx := ih (k + 1) (by omega)
      rw [bsn] at hnx
      generalize hB : bsn (seeS sh bl se y p) (fun o => t.2.1 (v o * 4 + w)) p k = B at hb hor hnx ⊢
      have i1 := ix k (by omega)
      have i2 := ix B hb
      refine o.run 100 [] ⟨fun q => absurd q (by show ¬ M.1 4 ≤ _; rw [a2]; exact nI_ge (by omega) (by omega)), fun _ => ⟨k, rfl, by omega, v k * 4 + w, i1.1, i1.2, B, rfl, by omega, v B * 4 + w, i2.1, i2.2, ?_⟩⟩
      show Z 56 (mdW 0 M) [some (.ref 0), some (.int (nI p)), some (.int (nI y)), some (.int (nI w)), some (.int (nI B)), some (.int (nI k)), some (.int (M.2 1 (v k * 4 + w))), some (.int (M.2 1 (v B * 4 + w)))] [.int (nI y), .int (nI k), .int (nI p), .ref 0]
      refine o.cV vX4_183 (m_doesSee (p := p) (q := k) (y := y) h hT hp (by omega) hy) (fun w' rv _ hpo => ?_)
      obtain ⟨rfl, rfl⟩ := hpo
      have no : ¬ (seeS sh bl se y p k = true ∧ t.2.1 (v B * 4 + w) < t.2.1 (v k * 4 + w)) → Z 94 (mdW 0 M) [some (.ref 0), some (.int (nI p)), some (.int (nI y)), some (.int (nI w)), some (.int (nI B)), some (.int (nI k)), some (.int (M.2 1 (v k * 4 + w))), some (.int (M.2 1 (v B * 4 + w)))] [] := fun hn => by
        have := hnx (some (.int (M.2 1 (v k * 4 + w)))) (some (.int (M.2 1 (v B * 4 + w))))
        rw [if_neg hn, ← nI_1 k] at this
        exact o.run 100 [6] this
      refine o.run 100 [89, 94] ⟨fun q => ?_, fun q => ⟨fun q1 => ?_, fun q1 => ⟨fun q2 => ?_, fun q2 => ⟨fun q3 => ?_, fun q3 => ⟨fun q4 => ?_, fun q4 => ?_⟩⟩⟩⟩⟩
      · exact no (fun z => by rw [(zB_0 _).mp q] at z; exact absurd z.1 (by simp))
      · have q1 : M.2 1 (v B * 4 + w) < M.2 1 (v k * 4 + w) := q1
        have := hnx (some (.int (M.2 1 (v k * 4 + w)))) (some (.int (M.2 1 (v B * 4 + w))))
        rw [if_pos ⟨zB_t q, by rw [← b1]; exact q1⟩, ← nI_1 k] at this
        exact o.run 100 [6] this
      · have q1 : ¬ M.2 1 (v B * 4 + w) < M.2 1 (v k * 4 + w) := q1
        exact no (fun z => q1 (by rw [b1]; exact z.2))
      · have q1 : ¬ M.2 1 (v B * 4 + w) < M.2 1 (v k * 4 + w) := q1
        exact no (fun z => q1 (by rw [b1]; exact z.2))
      · have q1 : ¬ M.2 1 (v B * 4 + w) < M.2 1 (v k * 4 + w) := q1
        exact no (fun z => q1 (by rw [b1]; exact z.2))
      · have q3 : ¬ nI B = nI p := q3
        have q4 : ¬ nI B ≤ nI k := q4
        rw [nI_eq (by omega) (by omega)] at q3
        rw [nI_leI (by omega) (by omega)] at q4
        omega
  exact o.run 100 [6] (loop (t.1 3) 0 (by omega) none none)
set_option maxRecDepth 10000 in
theorem m_mostSeen {p y : Nat} (h : okQ M t bl se sh ru tw v) (hT : okT t c) (hp : p < t.1 3) (hy : y < 2 ^ 30) : zFun l D C yX4_mostSeen cX4_mostSeen 8 (some .int) (zR 2) [.ref 0, .int (nI p), .int (nI y)] (mdW 0 M) (fun w' rv => w' = mdW 0 M ∧ rv = some (.int (nI (msn (fun w => cnt (fun o => seeS sh bl se y p o && decide (v o = w)) (t.1 3)) (v p) (t.1 0))))) := by
  have hnb : t.1 3 ≤ 8 := hT.1.2.2.2.2.1
  have hWb : t.1 0 ≤ 6 := hT.1.1
  have a0 := h.1.1.1
  have h1 := h.2.1
  have hvp := h1 p hp
  refine zFun_of (by decide) oX4_mostSeen tbX4 (Nat.le_of_ble_eq_true rfl) (fun Z o => ?_)
  obtain ⟨cc, hcc⟩ : ∃ cc : Nat → Nat, cc = fun w => cnt (fun o => seeS sh bl se y p o && decide (v o = w)) (t.1 3) := ⟨_, rfl⟩
  have hcl : ∀ w, cc w ≤ 8 := fun w => by
    rw [hcc]
    exact Nat.le_trans (cnt_le _ _) hnb
  have hpl : ∀ w, w < 6 → zFun l D C yX4_planting cX4_planting 6 (some .int) (zR 1) [.ref 0, .int (nI p), .int (nI y), .int (nI w)] (mdW 0 M) (fun w' rv => w' = mdW 0 M ∧ rv = some (.int (nI (cc w)))) := fun w hw => by
    rw [hcc]
    exact m_planting h hT hp hy hw
  rw [← hcc] at o
  have loop : ∀ j k, k + j = t.1 0 → ∀ b : Bool, (b = true → msn cc (v p) k = v p) → ∀ x7, Z 22 (mdW 0 M) [some (.ref 0), some (.int (nI p)), some (.int (nI y)), some (.int (nI (msn cc (v p) k))), some (.int (nI (cc (msn cc (v p) k)))), some (.int (zB b)), some (.int (nI k)), x7] [] := by
    intro j
    induction j with
    | zero =>
      intro k hk b hb x7
      obtain rfl : k = t.1 0 := by omega
      refine o.run 100 [] ⟨fun _ => ⟨fun q => ⟨⟨_, rfl, rfl⟩, rfl, rfl, rfl⟩, fun q => ⟨p, rfl, by omega, ⟨_, rfl, rfl⟩, rfl, rfl, ?_⟩⟩, fun q => absurd (by show M.1 0 ≤ _; rw [a0]; exact nI_le (Nat.le_refl _) (by omega)) q⟩
      rw [hvp.1, hb (zB_t q)]
    | succ j ih =>
      intro k hk b hb x7
      refine o.run 100 [] ⟨fun q => absurd q (by show ¬ M.1 0 ≤ _; rw [a0]; exact nI_ge (by omega) (by omega)), fun _ => ?_⟩
      show Z _ _ _ _
      refine o.cV vX4_187 (hpl k (by omega)) (fun w' rv _ hpo => ?_)
      obtain ⟨rfl, rfl⟩ := hpo
      have c1 := hcl k
      have c2 := hcl (msn cc (v p) k)
      refine o.run 100 [22] ⟨fun q => ?_, fun q => ?_⟩
      · have q : nI (cc k) ≤ nI (cc (msn cc (v p) k)) := q
        rw [nI_leI (by omega) (by omega)] at q
        have e : msn cc (v p) (k + 1) = msn cc (v p) k := by rw [msn, if_neg (by omega)]
        have := ih (k + 1) (by omega) b (fun z => by rw [e]; exact hb z) (some (.int (nI (cc k))))
        rw [e, ← nI_1 k] at this
        exact this
      · have q : ¬ nI (cc k) ≤ nI (cc (msn cc (v p) k)) := q
        rw [nI_leI (by omega) (by omega)] at q
        have e : msn cc (v p) (k + 1) = k := by rw [msn, if_pos (by omega)]
        have := ih (k + 1) (by omega) false (fun z => by cases z) (some (.int (nI (cc k))))
        rw [e, ← nI_1 k] at this
        exact this
  refine o.run 100 [] ⟨p, rfl, by omega, ?_⟩
  show Z 11 (mdW 0 M) [some (.ref 0), some (.int (nI p)), some (.int (nI y)), some (.int (M.2 16 p)), none, none, none, none] [.int (M.2 16 p), .int (nI y), .int (nI p), .ref 0]
  rw [hvp.1]
  refine o.cV vX4_187 (hpl (v p) (by omega)) (fun w' rv _ hpo => ?_)
  obtain ⟨rfl, rfl⟩ := hpo
  exact o.run 100 [22] (loop (t.1 0) 0 (by omega) true (fun _ => rfl) none)
set_option maxRecDepth 10000 in
theorem m_nearSeen {p y : Nat} (h : okQ M t bl se sh ru tw v) (hT : okT t c) (hp : p < t.1 3) (hy : y < 2 ^ 30) : zFun l D C yX4_nearSeen cX4_nearSeen 6 (some .int) (zR 1) [.ref 0, .int (nI p), .int (nI y)] (mdW 0 M) (fun w' rv => w' = mdW 0 M ∧ rv = some (.int (nI (v (match nrb (seeS sh bl se y p) p (t.1 3) with
    | some j => j
    | none => nrl (seeS sh bl se y p) p (t.1 3)))))) := by
  have hnb : t.1 3 ≤ 8 := hT.1.2.2.2.2.1
  have a2 := h.1.1.2.2.1
  have h1 := h.2.1
  refine zFun_of (by decide) oX4_nearSeen tbX4 (Nat.le_of_ble_eq_true rfl) (fun Z o => ?_)
  have loop : ∀ j k, k + j = t.1 3 → Z 8 (mdW 0 M) [some (.ref 0), some (.int (nI p)), some (.int (nI y)), some (.int (nrI (nrb (seeS sh bl se y p) p k))), some (.int (nI (nrm (seeS sh bl se y p) p k))), some (.int (nI k))] [] := by
    intro j
    induction j with
    | zero =>
      intro k hk
      obtain rfl : k = t.1 3 := by omega
      have hm := nrm_lt (see := seeS sh bl se y p) hp (t.1 3) (Nat.le_refl _)
      have he := nrm_eq (see := seeS sh bl se y p) see_self (t.1 3) hp
      refine o.run 100 [] ⟨fun _ => ?_, fun q => absurd (by show M.1 4 ≤ _; rw [a2]; exact nI_le (Nat.le_refl _) (by omega)) q⟩
      generalize hq : nrb (seeS sh bl se y p) p (t.1 3) = x
      cases x with
      | none =>
        refine ⟨fun q => absurd q (by decide), fun _ => ⟨_, rfl, by omega, ⟨_, rfl, rfl⟩, rfl, rfl, ?_⟩⟩
        rw [(h1 _ hm).1, he]
      | some i =>
        have hi := nrb_lt (t.1 3) i hq
        refine ⟨fun _ => ⟨i, rfl, by omega, ⟨_, rfl, rfl⟩, rfl, rfl, ?_⟩, fun q => absurd (nI_le (Nat.zero_le i) (by omega)) q⟩
        rw [(h1 i (by omega)).1]
    | succ j ih =>
      intro k hk
      have hm := nrm_lt (see := seeS sh bl se y p) hp k (by omega)
      refine o.run 100 [] ⟨fun q => absurd q (by show ¬ M.1 4 ≤ _; rw [a2]; exact nI_ge (by omega) (by omega)), fun _ => ?_⟩
      show Z _ _ _ _
      refine o.cV vX4_183 (m_doesSee (p := p) (q := k) (y := y) h hT hp (by omega) hy) (fun w' rv _ hpo => ?_)
      obtain ⟨rfl, rfl⟩ := hpo
      have hnx := ih (k + 1) (by omega)
      refine o.run 100 [8] ⟨fun q => ?_, fun q => ⟨fun q1 => ⟨fun q2 => ?_, fun q2 => ?_⟩, fun q1 => ⟨fun q2 => ?_, fun q2 => ?_⟩⟩⟩
      · have hs : ¬ seeS sh bl se y p k = true := by rw [(zB_0 _).mp q]; simp
        rw [nrb, if_neg (fun z => hs z.1), nrm, if_neg (fun z => hs z.1), ← nI_1 k] at hnx
        exact hnx
      · have hs := zB_t q
        have q1 : nI p ≤ nI k := q1
        have q2 : nI k ≤ nI (nrm (seeS sh bl se y p) p k) := q2
        rw [nI_leI (by omega) (by omega)] at q1 q2
        rw [nrb, if_neg (by omega), nrm, if_neg (by omega), ← nI_1 k] at hnx
        exact hnx
      · have hs := zB_t q
        have q1 : nI p ≤ nI k := q1
        have q2 : ¬ nI k ≤ nI (nrm (seeS sh bl se y p) p k) := q2
        rw [nI_leI (by omega) (by omega)] at q1 q2
        rw [nrb, if_neg (by omega), nrm, if_pos ⟨hs, by omega⟩, ← nI_1 k] at hnx
        exact hnx
      · have hs := zB_t q
        have q1 : ¬ nI p ≤ nI k := q1
        have q2 : nI k ≤ nI (nrm (seeS sh bl se y p) p k) := q2
        rw [nI_leI (by omega) (by omega)] at q1 q2
        rw [nrb, if_pos ⟨hs, by omega⟩, nrm, if_neg (by omega), ← nI_1 k] at hnx
        exact hnx
      · have hs := zB_t q
        have q1 : ¬ nI p ≤ nI k := q1
        have q2 : ¬ nI k ≤ nI (nrm (seeS sh bl se y p) p k) := q2
        rw [nI_leI (by omega) (by omega)] at q1 q2
        rw [nrb, if_pos ⟨hs, by omega⟩, nrm, if_pos ⟨hs, by omega⟩, ← nI_1 k] at hnx
        exact hnx
  exact o.run 100 [8] (loop (t.1 3) 0 (by omega))
end MQ
end
section
/-! the reference's choice; all alike; years gone through -/
section MC
variable {l : Launch} {D : va_G} {C : zC} {M : zM} {t : zT} {c : Nat} {bl : Nat → Bool} {se : Nat → Int32} {sh : Nat} {ru tw v : Nat → Nat}
set_option maxRecDepth 10000 in
theorem m_chosen {p y w : Nat} (h : okQ M t bl se sh ru tw v) (hT : okT t c) (hp : p < t.1 3) (hy : y < 2 ^ 30) (hw : w < 4) : zFun l D C yX4_chosen cX4_chosen 5 (some .int) (zR 3) [.ref 0, .int (nI p), .int (nI y), .int (nI w)] (mdW 0 M) (fun w' rv => w' = mdW 0 M ∧ rv = some (.int (nI (cho (t.1 3) (t.1 0) y v (seeS sh bl se y p) (fun o => t.2.1 (v o * 4 + w)) p (t.2.2.2.2 (ru p) (t.2.1 (v p * 4 + w))).1 (t.2.2.2.2 (ru p) (t.2.1 (v p * 4 + w))).2)))) := by
  have hnb : t.1 3 ≤ 8 := hT.1.2.2.2.2.1
  have hWb : t.1 0 ≤ 6 := hT.1.1
  have hrb : t.1 2 ≤ 10 := hT.1.2.2.2.1
  have a0 := h.1.1.1
  have b1 := h.1.2.1.1
  have hvp := h.2.1 p hp
  have hrp := h.2.2.1 p hp
  obtain ⟨i0, d0, hi0, hk0⟩ := h.1.2.2 (ru p) hrp.2
  have hd4 := hT.2.2.2.2 (ru p) (t.2.1 (v p * 4 + w)) hrp.2
  refine zFun_of (by decide) oX4_chosen tbX4 (Nat.le_of_ble_eq_true rfl) (fun Z o => ?_)
  have ix : nI 4 * M.2 16 p + nI w = nI (v p * 4 + w) := by rw [hvp.1, ix4]
  have leaf : ∀ i (g : zDn), KL (M.2 8) (M.2 9) (24 * ru p) i g → g (t.2.1 (v p * 4 + w)) = t.2.2.2.2 (ru p) (t.2.1 (v p * 4 + w)) → Z 13 (mdW 0 M) [some (.ref 0), some (.int (nI p)), some (.int (nI y)), some (.int (nI w)), some (.int (nI i))] [] := by
    rintro i g ⟨hi, s, k, e1, e2, e3, e4, rfl⟩ hg
    rw [← hg] at hd4 o
    have hk0 : s = nI 116 → 0 < k := hd4.2
    refine o.run 100 [25, 72] ⟨i, rfl, by omega, fun _ => ?_, fun q => absurd (by rw [← e1]; exact q) e2⟩
    refine o.run 100 [120, 128, 135, 142, 191] ⟨i, rfl, by omega, ⟨fun a => ?_, fun a => ?_, fun a => ?_, fun a => ?_, trivial⟩, fun a => ?_⟩
    · have a : s = nI 98 := e1.symm.trans a
      refine o.run 100 [] ?_
      show Z _ _ _ _
      refine o.cV vX4_190 (m_bestSeen (p := p) (y := y) (w := w) h hT hp hy hw) (fun w' rv _ hpo => ?_)
      obtain ⟨rfl, rfl⟩ := hpo
      refine o.run 100 [] ⟨⟨_, rfl, rfl⟩, rfl, rfl, ?_⟩
      show _ = some (Value.int (nI (cho _ _ _ _ _ _ _ s k)))
      rw [cho, if_pos a]
    · have a : s = nI 109 := e1.symm.trans a
      refine o.run 100 [] ?_
      show Z _ _ _ _
      refine o.cV vX4_193 (m_mostSeen (p := p) (y := y) h hT hp hy) (fun w' rv _ hpo => ?_)
      obtain ⟨rfl, rfl⟩ := hpo
      refine o.run 100 [] ⟨⟨_, rfl, rfl⟩, rfl, rfl, ?_⟩
      show _ = some (Value.int (nI (cho _ _ _ _ _ _ _ s k)))
      rw [cho, a, if_neg (by decide), if_pos rfl]
    · have a : s = nI 110 := e1.symm.trans a
      refine o.run 100 [] ?_
      show Z _ _ _ _
      refine o.cV vX4_197 (m_nearSeen (p := p) (y := y) h hT hp hy) (fun w' rv _ hpo => ?_)
      obtain ⟨rfl, rfl⟩ := hpo
      refine o.run 100 [] ⟨⟨_, rfl, rfl⟩, rfl, rfl, ?_⟩
      show _ = some (Value.int (nI (cho _ _ _ _ _ _ _ s k)))
      rw [cho, a, if_neg (by decide), if_neg (by decide), if_pos rfl]
      rfl
    · have a : s = nI 116 := e1.symm.trans a
      have hk := hk0 a
      have ec : cho (t.1 3) (t.1 0) y v (seeS sh bl se y p) (fun o => t.2.1 (v o * 4 + w)) p s k = if 0 < k ∧ y % k = 0 then (if v p + 1 < t.1 0 then v p + 1 else 0) else v p := by
        rw [cho, a, if_neg (by decide), if_neg (by decide), if_neg (by decide), if_pos rfl]
      have er : nI y - nI y / M.2 9 i * M.2 9 i = nI (y % k) := by rw [e3]; exact pk_rem (by omega) hk (by omega)
      have hm := Nat.mod_lt y hk
      refine o.run 100 [] ⟨i, rfl, by omega, ?_, fun q => ⟨p, rfl, by omega, fun q2 => ⟨p, rfl, by omega, ⟨_, rfl, rfl⟩, rfl, rfl, ?_⟩, fun q2 => ⟨⟨_, rfl, rfl⟩, rfl, rfl, ?_⟩⟩, fun q => ⟨p, rfl, by omega, ⟨_, rfl, rfl⟩, rfl, rfl, ?_⟩⟩
      · show ¬ M.2 9 i = 0
        rw [e3]; exact nI_ne0 hk (by omega)
      · have q : nI y - nI y / M.2 9 i * M.2 9 i = 0 := q
        have q2 : ¬ M.2 16 p + nI 1 = M.1 0 := q2
        rw [er] at q
        rw [hvp.1, a0, nI_add, nI_eq (by omega) (by omega)] at q2
        have hz : y % k = 0 := by
          rcases Nat.eq_zero_or_pos (y % k) with z | z
          · exact z
          · exact absurd q (nI_ne0 z (by omega))
        show some (Value.int (M.2 16 p + nI 1)) = some (Value.int (nI (cho _ _ _ _ _ _ _ s k)))
        rw [ec, if_pos ⟨hk, hz⟩, if_pos (by omega), hvp.1, nI_add]
      · have q : nI y - nI y / M.2 9 i * M.2 9 i = 0 := q
        have q2 : M.2 16 p + nI 1 = M.1 0 := q2
        rw [er] at q
        rw [hvp.1, a0, nI_add, nI_eq (by omega) (by omega)] at q2
        have hz : y % k = 0 := by
          rcases Nat.eq_zero_or_pos (y % k) with z | z
          · exact z
          · exact absurd q (nI_ne0 z (by omega))
        show some (Value.int (nI 0)) = some (Value.int (nI (cho _ _ _ _ _ _ _ s k)))
        rw [ec, if_pos ⟨hk, hz⟩, if_neg (by omega)]
      · have q : ¬ nI y - nI y / M.2 9 i * M.2 9 i = 0 := q
        rw [er] at q
        show some (Value.int (M.2 16 p)) = some (Value.int (nI (cho _ _ _ _ _ _ _ s k)))
        rw [ec, if_neg (fun z => q (by rw [z.2]; exact nI_0)), hvp.1]
    · obtain ⟨n1, n2, n3, n4, -⟩ := a
      have n1 : ¬ M.2 8 i = nI 98 := n1
      have n2 : ¬ M.2 8 i = nI 109 := n2
      have n3 : ¬ M.2 8 i = nI 110 := n3
      have n4 : ¬ M.2 8 i = nI 116 := n4
      rw [e1] at n1 n2 n3 n4
      refine o.run 100 [] ⟨p, rfl, by omega, ⟨_, rfl, rfl⟩, rfl, rfl, ?_⟩
      show some (Value.int (M.2 16 p)) = some (Value.int (nI (cho _ _ _ _ _ _ _ s k)))
      rw [cho, if_neg n1, if_neg n2, if_neg n3, if_neg n4, hvp.1]
  have loop : ∀ d i (g : zDn), KN (M.2 8) (M.2 9) (M.2 10) (M.2 11) (24 * ru p) d i g → g (t.2.1 (v p * 4 + w)) = t.2.2.2.2 (ru p) (t.2.1 (v p * 4 + w)) → Z 13 (mdW 0 M) [some (.ref 0), some (.int (nI p)), some (.int (nI y)), some (.int (nI w)), some (.int (nI i))] [] := by
    intro d
    induction d with
    | zero => exact leaf
    | succ d ih =>
      intro i g hk hg
      rcases hk with hk | ⟨hi, e1, k, a, b, ga, gb, e2, e3, e4, e5, e6, e7, rfl⟩
      · exact leaf i g hk hg
      · have hg : (if t.2.1 (v p * 4 + w) < nI k then ga (t.2.1 (v p * 4 + w)) else gb (t.2.1 (v p * 4 + w))) = t.2.2.2.2 (ru p) (t.2.1 (v p * 4 + w)) := hg
        refine o.run 100 [13, 25] ⟨i, rfl, by omega, fun q => absurd e1 q, fun _ => ?_⟩
        refine o.run 100 [13] ⟨p, rfl, by omega, v p * 4 + w, ix, by omega, i, rfl, by omega, fun q => ⟨i, rfl, by omega, ?_⟩, fun q => ⟨i, rfl, by omega, ?_⟩⟩
        · have q : M.2 9 i ≤ M.2 1 (v p * 4 + w) := q
          rw [e2, b1] at q
          rw [if_neg (Int32.not_lt.mpr q)] at hg
          have := ih b gb e7 hg
          rw [← e5] at this
          exact this
        · have q : ¬ M.2 9 i ≤ M.2 1 (v p * 4 + w) := q
          rw [e2, b1] at q
          rw [if_pos (Int32.not_le.mp q)] at hg
          have := ih a ga e6 hg
          rw [← e4] at this
          exact this
  have h0 := loop d0 i0 _ hk0 rfl
  rw [← hi0] at h0
  exact o.run 100 [13] ⟨p, rfl, by omega, ru p, hrp.1, by omega, h0⟩
set_option maxRecDepth 10000 in
theorem m_areAlike (h : okQ M t bl se sh ru tw v) (hT : okT t c) (hn : 0 < t.1 3) : zFun l D C yX4_areAlike cX4_areAlike 3 (some .boolean) (zR 0) [.ref 0] (mdW 0 M) (fun w' rv => w' = mdW 0 M ∧ rv = some (.int (zB (alk (t.1 3) v)))) := by
  have hnb : t.1 3 ≤ 8 := hT.1.2.2.2.2.1
  have hWb : t.1 0 ≤ 6 := hT.1.1
  have a2 := h.1.1.2.2.1
  have h1 := h.2.1
  have hv0 := h1 0 hn
  refine zFun_of (by decide) oX4_areAlike tbX4 (Nat.le_of_ble_eq_true rfl) (fun Z o => ?_)
  have loop : ∀ j k, k + j = t.1 3 → Z 4 (mdW 0 M) [some (.ref 0), some (.int (zB (allN (fun p => decide (v p = v 0)) k))), some (.int (nI k))] [] := by
    intro j
    induction j with
    | zero =>
      intro k hk
      obtain rfl : k = t.1 3 := by omega
      refine o.run 100 [] ⟨fun _ => ⟨zB_rt _, rfl, rfl, ?_⟩, fun q => absurd (by show M.1 4 ≤ _; rw [a2]; exact nI_le (Nat.le_refl _) (by omega)) q⟩
      rw [alk_all]
    | succ j ih =>
      intro k hk
      have hvk := h1 k (by omega)
      have hnx := ih (k + 1) (by omega)
      rw [← nI_1 k] at hnx
      refine o.run 100 [4] ⟨fun q => absurd q (by show ¬ M.1 4 ≤ _; rw [a2]; exact nI_ge (by omega) (by omega)), fun _ => ⟨fun q => ?_, fun q => ⟨k, rfl, by omega, 0, rfl, by omega, fun q2 => ?_, fun q2 => ?_⟩⟩⟩
      · rw [allN, (zB_0 _).mp q, Bool.false_and] at hnx
        exact hnx
      · have q2 : ¬ M.2 16 k = M.2 16 0 := q2
        rw [hvk.1, hv0.1, nI_eq (by omega) (by omega)] at q2
        rw [allN, decide_eq_false q2, Bool.and_false] at hnx
        exact hnx
      · have q2 : M.2 16 k = M.2 16 0 := q2
        rw [hvk.1, hv0.1, nI_eq (by omega) (by omega)] at q2
        rw [allN, decide_eq_true q2, zB_t q] at hnx
        exact hnx
  have h0 := loop (t.1 3 - 1) 1 (by omega)
  have e : allN (fun p => decide (v p = v 0)) 1 = true := by simp [allN]
  rw [e] at h0
  exact o.run 100 [4] h0
end MC
end
section
/-! the reference's run -/
def smR (M M' : zM) : Prop := (∀ k, k ≠ 37 → k ≠ 38 → M'.1 k = M.1 k) ∧ (∀ k, k ≠ 16 → k ≠ 19 → k ≠ 20 → M'.2 k = M.2 k)
/-- a run under way: ways, gains, next ways; wrong years, the first year alike -/
def rnS (M M' : zM) (n : Nat) (r16 r19 r20 : Nat → Int32) (w a : Int32) : Prop := smR M M' ∧ (∀ q, q < n → M'.2 16 q = r16 q) ∧ (∀ q, q < n → M'.2 19 q = r19 q) ∧ (∀ q, q < n → M'.2 20 q = r20 q) ∧ M'.1 37 = w ∧ M'.1 38 = a
theorem smR_0 {M M' : zM} (h : smR M M') : sm0 M M' := ⟨fun k hk => h.1 k (by omega) (by omega), fun k hk => h.2 k (by omega) (by omega) (by omega)⟩
section RN
variable {M M' : zM} {n : Nat} {r16 r19 r20 : Nat → Int32} {w a : Int32}
theorem upd_c {f g : Nat → Int32} {n p : Nat} {x : Int32} (h : ∀ q, q < n → f q = g q) : ∀ q, q < n → upd f p x q = upd g p x q := fun q hq => by
  unfold upd
  split
  · rfl
  · exact h q hq
theorem rnS_37 (h : rnS M M' n r16 r19 r20 w a) (x : Int32) : rnS M (mN M' 37 x) n r16 r19 r20 x a := by
  obtain ⟨⟨h1, h2⟩, h3, h4, h5, h6, h7⟩ := h
  refine ⟨⟨fun k k1 k2 => ?_, h2⟩, h3, h4, h5, rfl, h7⟩
  show upd M'.1 37 x k = _
  unfold upd
  rw [if_neg k1]; exact h1 k k1 k2
theorem rnS_38 (h : rnS M M' n r16 r19 r20 w a) (x : Int32) : rnS M (mN M' 38 x) n r16 r19 r20 w x := by
  obtain ⟨⟨h1, h2⟩, h3, h4, h5, h6, h7⟩ := h
  refine ⟨⟨fun k k1 k2 => ?_, h2⟩, h3, h4, h5, h6, rfl⟩
  show upd M'.1 38 x k = _
  unfold upd
  rw [if_neg k2]; exact h1 k k1 k2
theorem rnS_16 (h : rnS M M' n r16 r19 r20 w a) (p : Nat) (x : Int32) : rnS M (mR M' 16 (upd (M'.2 16) p x)) n (upd r16 p x) r19 r20 w a := by
  obtain ⟨⟨h1, h2⟩, h3, h4, h5, h6, h7⟩ := h
  refine ⟨⟨h1, fun k k1 k2 k3 => ?_⟩, upd_c h3, h4, h5, h6, h7⟩
  show (if k = 16 then _ else M'.2 k) = _
  rw [if_neg k1]; exact h2 k k1 k2 k3
theorem rnS_19 (h : rnS M M' n r16 r19 r20 w a) (p : Nat) (x : Int32) : rnS M (mR M' 19 (upd (M'.2 19) p x)) n r16 (upd r19 p x) r20 w a := by
  obtain ⟨⟨h1, h2⟩, h3, h4, h5, h6, h7⟩ := h
  refine ⟨⟨h1, fun k k1 k2 k3 => ?_⟩, h3, upd_c h4, h5, h6, h7⟩
  show (if k = 19 then _ else M'.2 k) = _
  rw [if_neg k2]; exact h2 k k1 k2 k3
theorem rnS_20 (h : rnS M M' n r16 r19 r20 w a) (p : Nat) (x : Int32) : rnS M (mR M' 20 (upd (M'.2 20) p x)) n r16 r19 (upd r20 p x) w a := by
  obtain ⟨⟨h1, h2⟩, h3, h4, h5, h6, h7⟩ := h
  refine ⟨⟨h1, fun k k1 k2 k3 => ?_⟩, h3, h4, upd_c h5, h6, h7⟩
  show (if k = 20 then _ else M'.2 k) = _
  rw [if_neg k3]; exact h2 k k1 k2 k3
theorem rnS_c {s16 s19 s20 : Nat → Int32} (h : rnS M M' n r16 r19 r20 w a) (e1 : ∀ q, q < n → r16 q = s16 q) (e2 : ∀ q, q < n → r19 q = s19 q) (e3 : ∀ q, q < n → r20 q = s20 q) : rnS M M' n s16 s19 s20 w a :=
  ⟨h.1, fun q hq => (h.2.1 q hq).trans (e1 q hq), fun q hq => (h.2.2.1 q hq).trans (e2 q hq), fun q hq => (h.2.2.2.1 q hq).trans (e3 q hq), h.2.2.2.2⟩
theorem okQ_rn {t : zT} {bl : Nat → Bool} {se : Nat → Int32} {sh : Nat} {ru tw v v' : Nat → Nat} (h : okQ M t bl se sh ru tw v) (hr : rnS M M' (t.1 3) (fun q => nI (v' q)) r19 r20 w a) (hv : ∀ q, q < t.1 3 → v' q < t.1 0) : okQ M' t bl se sh ru tw v' := by
  obtain ⟨h1, h2, h3, h4, ⟨h5, h5'⟩, h6, h7⟩ := h
  obtain ⟨⟨s1, s2⟩, g1, -⟩ := hr
  refine ⟨repT_sm h1 (smR_0 ⟨s1, s2⟩), fun p hp => ⟨g1 p hp, hv p hp⟩, ?_, ?_, ⟨?_, h5'⟩, ?_, ?_⟩
  · rw [s2 17 (by omega) (by omega) (by omega)]; exact h3
  · rw [s2 18 (by omega) (by omega) (by omega)]; exact h4
  · rw [s1 30 (by omega) (by omega)]; exact h5
  · rw [s1 31 (by omega) (by omega)]; exact h6
  · unfold wthr
    rw [s1 32 (by omega) (by omega), s1 33 (by omega) (by omega), s1 34 (by omega) (by omega)]; exact h7
end RN
/-- a year in which all are wrong together -/
def wrQ (t : zT) (tw : Nat → Nat) (v : Nat → Nat) (i : Nat) : Bool := alk (t.1 3) v && decide (t.2.1 (v 0 * 4 + tw i) < t.2.1 (bst t.2.1 (tw i) (t.1 0 - 1) * 4 + tw i))
section MG
variable {l : Launch} {D : va_G} {C : zC} {M : zM} {t : zT} {c : Nat} {bl : Nat → Bool} {se : Nat → Int32} {sh : Nat} {ru tw : Nat → Nat}
set_option maxRecDepth 10000 in
set_option maxHeartbeats 1000000 in
theorem m_run {m : Nat} (h : okQ M t bl se sh ru tw (t.2.2.1 1)) (hT : okT t c) (hc : c ≤ 100) (hn : 0 < t.1 3) (hm : m ≤ 60) : zFun l D C yX4_run cX4_run 8 (some .int) (zR 4) [.ref 0, .int (nI m)] (mdW 0 M) (fun w rv => (∃ M' r20, w = mdW 0 M' ∧ rnS M M' (t.1 3) (fun q => nI (rV t bl se sh ru tw m q)) (rG t bl se sh ru tw m) r20 (nI (cnt (fun i => wrQ t tw (rV t bl se sh ru tw i) i) m)) (fndI (fnd (fun i => alk (t.1 3) (rV t bl se sh ru tw i)) (m + 1) 0))) ∧ rv = some (.int (rF t bl se sh ru tw m))) := by
  have hnb : t.1 3 ≤ 8 := hT.1.2.2.2.2.1
  have hWb : t.1 0 ≤ 6 := hT.1.1
  have hyb : t.1 4 ≤ 6000 := by have := hT.1.2.2.2.2.2.1; omega
  have a0 := h.1.1.1
  have a2 := h.1.1.2.2.1
  have a4 := h.1.1.2.2.2.2.1
  have b1 := h.1.2.1.1
  have htw := tw_lt h.2.2.2.2.2.2 hT
  obtain ⟨vv, hvv⟩ : ∃ vv, vv = rV t bl se sh ru tw := ⟨_, rfl⟩
  obtain ⟨G, hG⟩ : ∃ G, G = rG t bl se sh ru tw := ⟨_, rfl⟩
  have hvW : ∀ i q, q < t.1 3 → vv i q < t.1 0 := fun i => by
    rw [hvv]
    exact vat_ltW (fun q hq => (hT.2.2.2.1 q hq).2) i
  have hG0 : ∀ q, G 0 q = nI 0 := fun q => by rw [hG]; rfl
  have hG1 : ∀ i q, q < t.1 3 → G (i + 1) q = G i q + t.2.1 (vv i q * 4 + tw i) := fun i q hq => by
    rw [hG, hvv]
    show mix (t.1 3) (fun p => tot (t.1 3) t.2.1 (rV t bl se sh ru tw) tw (fun _ => nI 0) i p + t.2.1 (rV t bl se sh ru tw i p * 4 + tw i)) (tot (t.1 3) t.2.1 (rV t bl se sh ru tw) tw (fun _ => nI 0) i) q = _
    rw [mix_lt hq]; rfl
  have hGs : ∀ i, sm (G (i + 1)) (t.1 3) = sm (G i) (t.1 3) + sm (fun q => t.2.1 (vv i q * 4 + tw i)) (t.1 3) := fun i => by
    rw [hG, hvv]
    exact sm_tot i
  have hv1 : ∀ i p, p < t.1 3 → vv (i + 1) p = cho (t.1 3) (t.1 0) (t.1 4 + i) (vv i) (seeS sh bl se (t.1 4 + i) p) (fun o => t.2.1 (vv i o * 4 + tw i)) p (t.2.2.2.2 (ru p) (t.2.1 (vv i p * 4 + tw i))).1 (t.2.2.2.2 (ru p) (t.2.1 (vv i p * 4 + tw i))).2 := fun i p hp => by
    rw [hvv]
    exact if_pos hp
  have hv0 : vv 0 = t.2.2.1 1 := by rw [hvv]; rfl
  refine zFun_of (by decide) oX4_run tbX4 (Nat.le_of_ble_eq_true rfl) (fun Z o => ?_)
  have hrF : rF t bl se sh ru tw m = sm (G m) (t.1 3) := by rw [hG]; rfl
  rw [hrF, ← hvv, ← hG] at o
  obtain ⟨al, hal⟩ : ∃ al : Nat → Bool, al = fun i => alk (t.1 3) (vv i) := ⟨_, rfl⟩
  obtain ⟨wr, hwr⟩ : ∃ wr : Nat → Bool, wr = fun i => wrQ t tw (vv i) i := ⟨_, rfl⟩
  rw [← hal, ← hwr] at o
  have hali : ∀ i, alk (t.1 3) (vv i) = al i := fun i => by rw [hal]
  -- copying the next ways
  have copy : ∀ i, i < m → (∀ M' r20, rnS M M' (t.1 3) (fun q => nI (vv (i + 1) q)) (G (i + 1)) r20 (nI (cnt wr (i + 1))) (fndI (fnd al (i + 1) 0)) → ∀ x4 x5 x6 x7, Z 38 (mdW 0 M') [some (.ref 0), some (.int (nI m)), some (.int (sm (G (i + 1)) (t.1 3))), some (.int (nI (i + 1))), x4, x5, x6, x7] []) →
      ∀ j p, p + j = t.1 3 → ∀ M', rnS M M' (t.1 3) (mix p (fun q => nI (vv (i + 1) q)) (fun q => nI (vv i q))) (G (i + 1)) (fun q => nI (vv (i + 1) q)) (nI (cnt wr (i + 1))) (fndI (fnd al (i + 1) 0)) → ∀ x4 (x5 : Int32) x7, Z 212 (mdW 0 M') [some (.ref 0), some (.int (nI m)), some (.int (sm (G (i + 1)) (t.1 3))), some (.int (nI i)), x4, some (.int x5), some (.int (nI p)), x7] [] := by
    intro i hi next j
    induction j with
    | zero =>
      intro p hp M' hM' x4 x5 x7
      obtain rfl : p = t.1 3 := by omega
      have e4 : M'.1 4 = nI (t.1 3) := (hM'.1.1 4 (by omega) (by omega)).trans a2
      refine o.run 100 [38] ⟨fun _ => ?_, fun q => absurd (by show M'.1 4 ≤ _; rw [e4]; exact nI_le (Nat.le_refl _) (by omega)) q⟩
      have := next M' _ (rnS_c hM' (fun q hq => mix_lt hq) (fun _ _ => rfl) (fun _ _ => rfl)) x4 (some (.int x5)) (some (.int (nI (t.1 3)))) x7
      rw [← nI_1 i] at this
      exact this
    | succ j ih =>
      intro p hp M' hM' x4 x5 x7
      have e4 : M'.1 4 = nI (t.1 3) := (hM'.1.1 4 (by omega) (by omega)).trans a2
      have e20 := hM'.2.2.2.1 p (by omega)
      refine o.run 100 [212] ⟨fun q => absurd q (by show ¬ M'.1 4 ≤ _; rw [e4]; exact nI_ge (by omega) (by omega)), fun _ => ⟨p, rfl, by omega, p, rfl, by omega, ?_⟩⟩
      have h16 := rnS_16 hM' p (M'.2 20 p)
      have e20 : M'.2 20 p = (fun q => nI (vv (i + 1) q)) p := e20
      rw [show upd (mix p (fun q => nI (vv (i + 1) q)) (fun q => nI (vv i q))) p (M'.2 20 p) = mix (p + 1) (fun q => nI (vv (i + 1) q)) (fun q => nI (vv i q)) by rw [e20, mix_upd]] at h16
      have := ih (p + 1) (by omega) _ h16 x4 x5 x7
      rw [← nI_1 p] at this
      exact this
  -- the people of a year
  have ppl : ∀ i, i < m → (∀ M' r20, rnS M M' (t.1 3) (fun q => nI (vv (i + 1) q)) (G (i + 1)) r20 (nI (cnt wr (i + 1))) (fndI (fnd al (i + 1) 0)) → ∀ x4 x5 x6 x7, Z 38 (mdW 0 M') [some (.ref 0), some (.int (nI m)), some (.int (sm (G (i + 1)) (t.1 3))), some (.int (nI (i + 1))), x4, x5, x6, x7] []) →
      ∀ j p, p + j = t.1 3 → ∀ M' r20, rnS M M' (t.1 3) (fun q => nI (vv i q)) (mix p (G (i + 1)) (G i)) (mix p (fun q => nI (vv (i + 1) q)) r20) (nI (cnt wr (i + 1))) (fndI (fnd al (i + 1) 0)) → ∀ (x5 : Int32) x7, Z 137 (mdW 0 M') [some (.ref 0), some (.int (nI m)), some (.int (sm (G i) (t.1 3) + sm (fun q => t.2.1 (vv i q * 4 + tw i)) p)), some (.int (nI i)), some (.int (nI (tw i))), some (.int x5), some (.int (nI p)), x7] [] := by
    intro i hi next j
    induction j with
    | zero =>
      intro p hp M' r20 hM' x5 x7
      obtain rfl : p = t.1 3 := by omega
      have e4 : M'.1 4 = nI (t.1 3) := (hM'.1.1 4 (by omega) (by omega)).trans a2
      refine o.run 100 [212] ⟨fun _ => ?_, fun q => absurd (by show M'.1 4 ≤ _; rw [e4]; exact nI_le (Nat.le_refl _) (by omega)) q⟩
      have := copy i hi next (t.1 3) 0 (by omega) M' (rnS_c hM' (fun q hq => by rw [mix_0]) (fun q hq => mix_lt hq) (fun q hq => mix_lt hq)) (some (.int (nI (tw i)))) x5 x7
      rw [hGs] at this
      exact this
    | succ j ih =>
      intro p hp M' r20 hM' x5 x7
      have e4 : M'.1 4 = nI (t.1 3) := (hM'.1.1 4 (by omega) (by omega)).trans a2
      have e10 : M'.1 10 = nI (t.1 4) := (hM'.1.1 10 (by omega) (by omega)).trans a4
      have e1 : M'.2 1 = t.2.1 := (hM'.1.2 1 (by omega) (by omega) (by omega)).trans b1
      have e16 : M'.2 16 p = nI (vv i p) := hM'.2.1 p (by omega)
      have e19 : M'.2 19 p = G i p := (hM'.2.2.1 p (by omega)).trans (mix_ge (Nat.le_refl _))
      have hw1 := hvW i p (by omega)
      have hw2 := htw i
      have ix : nI 4 * M'.2 16 p + nI (tw i) = nI (vv i p * 4 + tw i) := by rw [e16, ix4]
      refine o.run 100 [] ⟨fun q => absurd q (by show ¬ M'.1 4 ≤ _; rw [e4]; exact nI_ge (by omega) (by omega)), fun _ => ⟨p, rfl, by omega, vv i p * 4 + tw i, ix, by omega, p, rfl, by omega, p, rfl, by omega, ?_⟩⟩
      have h19 := rnS_19 hM' p (M'.2 19 p + M'.2 1 (vv i p * 4 + tw i))
      rw [show upd (mix p (G (i + 1)) (G i)) p (M'.2 19 p + M'.2 1 (vv i p * 4 + tw i)) = mix (p + 1) (G (i + 1)) (G i) by rw [e19, e1, ← hG1 i p (by omega), mix_upd]] at h19
      show Z 199 (mdW 0 (mR M' 19 (upd (M'.2 19) p (M'.2 19 p + M'.2 1 (vv i p * 4 + tw i))))) [some (.ref 0), some (.int (nI m)), some (.int (sm (G i) (t.1 3) + sm (fun q => t.2.1 (vv i q * 4 + tw i)) p + M'.2 1 (vv i p * 4 + tw i))), some (.int (nI i)), some (.int (nI (tw i))), some (.int x5), some (.int (nI p)), some (.int (M'.2 1 (vv i p * 4 + tw i)))] [.int (nI (tw i)), .int (M'.1 10 + nI i), .int (nI p), .ref 0, .int (nI p), .ref 20]
      rw [e10, nI_add]
      refine o.cV (rest := [.int (nI p), .ref 20]) vX4_213 (m_chosen (p := p) (y := t.1 4 + i) (w := tw i) (okQ_rn h h19 (hvW i)) hT (by omega) (by omega) hw2) (fun w' rv _ hpo => ?_)
      obtain ⟨rfl, rfl⟩ := hpo
      rw [← hv1 i p (by omega)]
      refine o.run 100 [137] ⟨p, rfl, by omega, ?_⟩
      have h20 := rnS_20 h19 p ((fun q => nI (vv (i + 1) q)) p)
      rw [mix_upd] at h20
      have := ih (p + 1) (by omega) _ r20 h20 x5 (some (.int (M'.2 1 (vv i p * 4 + tw i))))
      rw [sm, ← nI_1 p, ← Int32.add_assoc] at this
      rw [e1] at this ⊢
      exact this
  have years : ∀ j i, i + j = m → ∀ M' r20, rnS M M' (t.1 3) (fun q => nI (vv i q)) (G i) r20 (nI (cnt wr i)) (fndI (fnd al i 0)) → ∀ x4 x5 x6 x7, Z 38 (mdW 0 M') [some (.ref 0), some (.int (nI m)), some (.int (sm (G i) (t.1 3))), some (.int (nI i)), x4, x5, x6, x7] [] := by
    intro j
    induction j with
    | zero =>
      intro i hi M' r20 hM' x4 x5 x6 x7
      obtain rfl : i = m := by omega
      refine o.run 100 [] ⟨fun _ => ?_, fun q => absurd (nI_le (Nat.le_refl _) (by omega)) q⟩
      show Z 249 (mdW 0 M') _ [.ref 0, .ref 0]
      refine o.cV (rest := [.ref 0]) vX4_209 (m_areAlike (okQ_rn h hM' (hvW i)) hT hn) (fun w' rv _ hpo => ?_)
      obtain ⟨rfl, rfl⟩ := hpo
      rw [hali]
      have e38 := hM'.2.2.2.2.2
      have fin : ∀ x, x = fndI (fnd al (i + 1) 0) → Z 270 (mdW 0 M') [some (.ref 0), some (.int (nI i)), some (.int (sm (G i) (t.1 3))), some (.int (nI i)), x4, x5, x6, x7] [.int x, .ref 0] := fun x hx => by
        subst hx
        exact o.run 100 [] ⟨⟨_, rfl, rfl⟩, rfl, ⟨_, r20, rfl, rnS_38 hM' _⟩, rfl⟩
      have es := fndI_snoc al (i := i) (by omega)
      rw [← e38] at es
      refine o.run 100 [270] ⟨fun q => fin _ ?_, fun q => ⟨fun q2 => fin _ ?_, fun q2 => fin _ ?_⟩⟩
      · rw [es, if_neg (fun z => by rw [(zB_0 _).mp q] at z; exact absurd z.2 (by simp))]
      · have q2 : 0 ≤ M'.1 38 := q2
        rw [es, if_neg (fun z => Int32.not_lt.mpr q2 z.1)]
      · have q2 : ¬ 0 ≤ M'.1 38 := q2
        rw [es, if_pos ⟨Int32.not_le.mp q2, zB_t q⟩]
    | succ j ih =>
      intro i hi M' r20 hM' x4 x5 x6 x7
      have hQ := okQ_rn h hM' (hvW i)
      refine o.run 100 [] ⟨fun q => absurd q (nI_ge (by omega) (by omega)), fun _ => ?_⟩
      show Z _ _ _ _
      refine o.cV vX4_206 (m_weatherAt (i := i) hQ hT hc (by omega)) (fun w' rv _ hpo => ?_)
      obtain ⟨rfl, rfl⟩ := hpo
      refine o.run 100 [] ?_
      show Z _ _ _ _
      refine o.cV vX4_209 (m_areAlike hQ hT hn) (fun w' rv _ hpo => ?_)
      obtain ⟨rfl, rfl⟩ := hpo
      rw [hali]
      have e38 := hM'.2.2.2.2.2
      have e37 := hM'.2.2.2.2.1
      have e0 : M'.1 0 = nI (t.1 0) := (hM'.1.1 0 (by omega) (by omega)).trans a0
      have e1 : M'.2 1 = t.2.1 := (hM'.1.2 1 (by omega) (by omega) (by omega)).trans b1
      have e16 : M'.2 16 0 = nI (vv i 0) := hM'.2.1 0 hn
      have hw1 := hvW i 0 hn
      have hw2 := htw i
      have ix : nI 4 * M'.2 16 0 + nI (tw i) = nI (vv i 0 * 4 + tw i) := by rw [e16, ix4]
      have h38 := rnS_38 hM' (fndI (fnd al (i + 1) 0))
      have fin2 : ∀ b : Bool, b = wr i → Z 130 (mdW 0 (mN M' 38 (fndI (fnd al (i + 1) 0)))) [some (.ref 0), some (.int (nI m)), some (.int (sm (G i) (t.1 3))), some (.int (nI i)), some (.int (nI (tw i))), some (.int (zB (al i))), x6, x7] [.int (zB b), .int (M'.1 37), .ref 0] := fun b hb => by
        have ec : M'.1 37 + zB b = nI (cnt wr (i + 1)) := by
          rw [e37, cnt, ← hb]
          cases b
          · exact nI_add _ _
          · exact nI_add _ _
        refine o.run 100 [137] ?_
        have h37 := rnS_37 h38 (M'.1 37 + zB b)
        rw [ec] at h37
        have := ppl i (by omega) (fun M'' r hr x4 x5 x6 x7 => ih (i + 1) (by omega) M'' r hr x4 x5 x6 x7) (t.1 3) 0 (by omega) _ r20 (rnS_c h37 (fun _ _ => rfl) (fun q hq => by rw [mix_0]) (fun q hq => by rw [mix_0])) (zB (al i)) x7
        have es : sm (G i) (t.1 3) + sm (fun q => t.2.1 (vv i q * 4 + tw i)) 0 = sm (G i) (t.1 3) := Int32.add_zero _
        rw [es, ← ec] at this
        exact this
      have fin : ∀ x, x = fndI (fnd al (i + 1) 0) → Z 77 (mdW 0 M') [some (.ref 0), some (.int (nI m)), some (.int (sm (G i) (t.1 3))), some (.int (nI i)), some (.int (nI (tw i))), some (.int (zB (al i))), x6, x7] [.int x, .ref 0] := fun x hx => by
        subst hx
        refine o.run 100 [129] ⟨fun q => ?_, fun q => ⟨0, rfl, by omega, vv i 0 * 4 + tw i, ix, by omega, ?_⟩⟩
        · have ha : al i = false := (zB_0 _).mp q
          exact o.run 100 [130] (fin2 false (by rw [hwr]; show false = wrQ t tw (vv i) i; unfold wrQ; rw [hali, ha, Bool.false_and]))
        · have ha : al i = true := zB_t q
          show Z 114 (mdW 0 (mN M' 38 (fndI (fnd al (i + 1) 0)))) [some (.ref 0), some (.int (nI m)), some (.int (sm (G i) (t.1 3))), some (.int (nI i)), some (.int (nI (tw i))), some (.int (zB (al i))), x6, x7] [.int (nI (tw i)), .ref 0, .int (nI 4), .ref 1, .int (M'.2 1 (vv i 0 * 4 + tw i)), .int (M'.1 37), .ref 0]
          refine o.cV (rest := [.int (nI 4), .ref 1, .int (M'.2 1 (vv i 0 * 4 + tw i)), .int (M'.1 37), .ref 0]) vX4_107 (m_bestIn (M := mN M' 38 (fndI (fnd al (i + 1) 0))) (t := tw i) hWb hw2 e0) (fun w' rv _ hpo => ?_)
          obtain ⟨rfl, rfl⟩ := hpo
          have hbb := bst_le (M'.2 1) (tw i) (t.1 0 - 1)
          refine o.run 100 [129, 130] ⟨bst (M'.2 1) (tw i) (t.1 0 - 1) * 4 + tw i, ix4 _ _, by omega, fun q2 => ?_, fun q2 => ?_⟩
          · have q2 : M'.2 1 (bst (M'.2 1) (tw i) (t.1 0 - 1) * 4 + tw i) ≤ M'.2 1 (vv i 0 * 4 + tw i) := q2
            rw [e1] at q2
            exact o.run 100 [130] (fin2 false (by rw [hwr]; show false = wrQ t tw (vv i) i; unfold wrQ; rw [decide_eq_false (Int32.not_lt.mpr q2), Bool.and_false]))
          · have q2 : ¬ M'.2 1 (bst (M'.2 1) (tw i) (t.1 0 - 1) * 4 + tw i) ≤ M'.2 1 (vv i 0 * 4 + tw i) := q2
            rw [e1] at q2
            exact fin2 true (by rw [hwr]; show true = wrQ t tw (vv i) i; unfold wrQ; rw [hali, ha, decide_eq_true (Int32.not_le.mp q2)]; rfl)
      have es := fndI_snoc al (i := i) (by omega)
      rw [← e38] at es
      refine o.run 100 [77] ⟨fun q => fin _ ?_, fun q => ⟨fun q2 => fin _ ?_, fun q2 => fin _ ?_⟩⟩
      · rw [es, if_neg (fun z => by rw [(zB_0 _).mp q] at z; exact absurd z.2 (by simp))]
      · have q2 : 0 ≤ M'.1 38 := q2
        rw [es, if_neg (fun z => Int32.not_lt.mpr q2 z.1)]
      · have q2 : ¬ 0 ≤ M'.1 38 := q2
        rw [es, if_pos ⟨Int32.not_le.mp q2, zB_t q⟩]
  have zero : ∀ j p, p + j = t.1 3 → ∀ M', rnS M M' (t.1 3) (fun q => nI (vv 0 q)) (mix p (G 0) (M.2 19)) (M.2 20) (nI 0) (zi (-9)) → Z 15 (mdW 0 M') [some (.ref 0), some (.int (nI m)), some (.int (nI 0)), some (.int (nI p)), none, none, none, none] [] := by
    intro j
    induction j with
    | zero =>
      intro p hp M' hM'
      obtain rfl : p = t.1 3 := by omega
      have e4 : M'.1 4 = nI (t.1 3) := (hM'.1.1 4 (by omega) (by omega)).trans a2
      refine o.run 100 [38] ⟨fun _ => ?_, fun q => absurd (by show M'.1 4 ≤ _; rw [e4]; exact nI_le (Nat.le_refl _) (by omega)) q⟩
      have hs : sm (G 0) (t.1 3) = nI 0 := by
        have : ∀ n, sm (G 0) n = nI 0 := fun n => by
          induction n with
          | zero => rfl
          | succ n ih => rw [sm, ih, hG0]; decide
        exact this _
      have := years m 0 (by omega) M' _ (rnS_c hM' (fun _ _ => rfl) (fun q hq => mix_lt hq) (fun _ _ => rfl)) none none none none
      rw [hs] at this
      exact this
    | succ j ih =>
      intro p hp M' hM'
      have e4 : M'.1 4 = nI (t.1 3) := (hM'.1.1 4 (by omega) (by omega)).trans a2
      refine o.run 100 [15] ⟨fun q => absurd q (by show ¬ M'.1 4 ≤ _; rw [e4]; exact nI_ge (by omega) (by omega)), fun _ => ⟨p, rfl, by omega, ?_⟩⟩
      have h19 := rnS_19 hM' p (G 0 p)
      rw [mix_upd] at h19
      have := ih (p + 1) (by omega) _ h19
      rw [← nI_1 p, hG0] at this
      exact this
  refine o.run 100 [15] ?_
  have h00 : rnS M M (t.1 3) (fun q => nI (vv 0 q)) (mix 0 (G 0) (M.2 19)) (M.2 20) (M.1 37) (M.1 38) := ⟨⟨fun _ _ _ => rfl, fun _ _ _ _ => rfl⟩, fun q hq => by rw [hv0]; exact (h.2.1 q hq).1, fun q hq => by rw [mix_0], fun _ _ => rfl, rfl, rfl⟩
  exact zero (t.1 3) 0 (by omega) _ (rnS_38 (rnS_37 h00 (nI 0)) (zi (-9)))
end MG
end
