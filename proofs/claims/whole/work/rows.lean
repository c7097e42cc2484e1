section
-- ===== PART A: goes FIRST, ahead of the names: the tables' words, and 'selects' of the private methods out of them =====
/-- a private method of a class that the tables say can be made, by its rows of tables_1 -/
def lw_okq (q : MethodName × Nat) : Prop := (q.1.cls ≠ "java/lang/invoke/MethodHandle" ∧ q.1.cls ≠ "java/lang/invoke/VarHandle") ∧ Cond.instantiable q.1.cls q.2 ∈ tables_1 ∧ Cond.privateMethod q.1 ∈ tables_1 ∧ Cond.instanceMethod q.1 ∈ tables_1
theorem lw_p0 : lw_okq (⟨"YamIsland", "refuse", "(I)I"⟩, 8) := ⟨⟨by decide +kernel, by decide +kernel⟩, List.mem_of_getElem? (i := 10) (by decide +kernel), List.mem_of_getElem? (i := 151) (by decide +kernel), List.mem_of_getElem? (i := 152) (by decide +kernel)⟩
theorem lw_p1 : lw_okq (⟨"YamIsland", "isWay", "(I)Z"⟩, 8) := ⟨⟨by decide +kernel, by decide +kernel⟩, List.mem_of_getElem? (i := 10) (by decide +kernel), List.mem_of_getElem? (i := 163) (by decide +kernel), List.mem_of_getElem? (i := 164) (by decide +kernel)⟩
theorem lw_p2 : lw_okq (⟨"YamIsland$Reader", "readRule", "(I)LYamIsland$Rule;"⟩, 3) := ⟨⟨by decide +kernel, by decide +kernel⟩, List.mem_of_getElem? (i := 98) (by decide +kernel), List.mem_of_getElem? (i := 215) (by decide +kernel), List.mem_of_getElem? (i := 216) (by decide +kernel)⟩
theorem lw_p3 : lw_okq (⟨"YamIsland$Reader", "here", "()I"⟩, 3) := ⟨⟨by decide +kernel, by decide +kernel⟩, List.mem_of_getElem? (i := 98) (by decide +kernel), List.mem_of_getElem? (i := 219) (by decide +kernel), List.mem_of_getElem? (i := 220) (by decide +kernel)⟩
theorem lw_p4 : lw_okq (⟨"YamIsland$Reader", "readNumber", "()I"⟩, 3) := ⟨⟨by decide +kernel, by decide +kernel⟩, List.mem_of_getElem? (i := 98) (by decide +kernel), List.mem_of_getElem? (i := 244) (by decide +kernel), List.mem_of_getElem? (i := 245) (by decide +kernel)⟩
theorem lw_p5 : lw_okq (⟨"YamIsland$Reader", "readMixed", "(I)LYamIsland$Rule;"⟩, 3) := ⟨⟨by decide +kernel, by decide +kernel⟩, List.mem_of_getElem? (i := 98) (by decide +kernel), List.mem_of_getElem? (i := 251) (by decide +kernel), List.mem_of_getElem? (i := 252) (by decide +kernel)⟩
theorem lw_p6 : lw_okq (⟨"YamIsland$Reader", "passes", "(C)Z"⟩, 3) := ⟨⟨by decide +kernel, by decide +kernel⟩, List.mem_of_getElem? (i := 98) (by decide +kernel), List.mem_of_getElem? (i := 255) (by decide +kernel), List.mem_of_getElem? (i := 256) (by decide +kernel)⟩
theorem lw_p7 : lw_okq (⟨"YamIsland", "isRule", "(I)Z"⟩, 8) := ⟨⟨by decide +kernel, by decide +kernel⟩, List.mem_of_getElem? (i := 10) (by decide +kernel), List.mem_of_getElem? (i := 267) (by decide +kernel), List.mem_of_getElem? (i := 268) (by decide +kernel)⟩
theorem lw_p8 : lw_okq (⟨"YamIsland", "isPerson", "(I)Z"⟩, 8) := ⟨⟨by decide +kernel, by decide +kernel⟩, List.mem_of_getElem? (i := 10) (by decide +kernel), List.mem_of_getElem? (i := 279) (by decide +kernel), List.mem_of_getElem? (i := 280) (by decide +kernel)⟩
theorem lw_p9 : lw_okq (⟨"YamIsland$Island", "bestSeen", "(I)I"⟩, 19) := ⟨⟨by decide +kernel, by decide +kernel⟩, List.mem_of_getElem? (i := 18) (by decide +kernel), List.mem_of_getElem? (i := 322) (by decide +kernel), List.mem_of_getElem? (i := 323) (by decide +kernel)⟩
theorem lw_p10 : lw_okq (⟨"YamIsland$Island", "mostSeen", "(I)I"⟩, 19) := ⟨⟨by decide +kernel, by decide +kernel⟩, List.mem_of_getElem? (i := 18) (by decide +kernel), List.mem_of_getElem? (i := 326) (by decide +kernel), List.mem_of_getElem? (i := 327) (by decide +kernel)⟩
theorem lw_p11 : lw_okq (⟨"YamIsland$Island", "nearSeen", "(I)I"⟩, 19) := ⟨⟨by decide +kernel, by decide +kernel⟩, List.mem_of_getElem? (i := 18) (by decide +kernel), List.mem_of_getElem? (i := 333) (by decide +kernel), List.mem_of_getElem? (i := 334) (by decide +kernel)⟩
theorem lw_p12 : lw_okq (⟨"YamIsland$Island", "wayBehind", "(I)I"⟩, 19) := ⟨⟨by decide +kernel, by decide +kernel⟩, List.mem_of_getElem? (i := 18) (by decide +kernel), List.mem_of_getElem? (i := 337) (by decide +kernel), List.mem_of_getElem? (i := 338) (by decide +kernel)⟩
theorem lw_p13 : lw_okq (⟨"YamIsland", "whyNoRun", "(I)I"⟩, 8) := ⟨⟨by decide +kernel, by decide +kernel⟩, List.mem_of_getElem? (i := 10) (by decide +kernel), List.mem_of_getElem? (i := 345) (by decide +kernel), List.mem_of_getElem? (i := 346) (by decide +kernel)⟩
theorem lw_p14 : lw_okq (⟨"YamIsland", "faresNow", "(I)I"⟩, 8) := ⟨⟨by decide +kernel, by decide +kernel⟩, List.mem_of_getElem? (i := 10) (by decide +kernel), List.mem_of_getElem? (i := 370) (by decide +kernel), List.mem_of_getElem? (i := 371) (by decide +kernel)⟩
theorem lw_p15 : lw_okq (⟨"YamIsland", "faresInMind", "(I)I"⟩, 8) := ⟨⟨by decide +kernel, by decide +kernel⟩, List.mem_of_getElem? (i := 10) (by decide +kernel), List.mem_of_getElem? (i := 382) (by decide +kernel), List.mem_of_getElem? (i := 383) (by decide +kernel)⟩
def lw_privs_1 : List (MethodName × Nat) := [(⟨"YamIsland", "refuse", "(I)I"⟩, 8), (⟨"YamIsland", "isWay", "(I)Z"⟩, 8), (⟨"YamIsland$Reader", "readRule", "(I)LYamIsland$Rule;"⟩, 3), (⟨"YamIsland$Reader", "here", "()I"⟩, 3), (⟨"YamIsland$Reader", "readNumber", "()I"⟩, 3), (⟨"YamIsland$Reader", "readMixed", "(I)LYamIsland$Rule;"⟩, 3), (⟨"YamIsland$Reader", "passes", "(C)Z"⟩, 3), (⟨"YamIsland", "isRule", "(I)Z"⟩, 8), (⟨"YamIsland", "isPerson", "(I)Z"⟩, 8), (⟨"YamIsland$Island", "bestSeen", "(I)I"⟩, 19), (⟨"YamIsland$Island", "mostSeen", "(I)I"⟩, 19), (⟨"YamIsland$Island", "nearSeen", "(I)I"⟩, 19), (⟨"YamIsland$Island", "wayBehind", "(I)I"⟩, 19), (⟨"YamIsland", "whyNoRun", "(I)I"⟩, 8), (⟨"YamIsland", "faresNow", "(I)I"⟩, 8), (⟨"YamIsland", "faresInMind", "(I)I"⟩, 8)]
theorem lw_r1 : ∀ q ∈ lw_privs_1, lw_okq q := List.forall_mem_cons.mpr ⟨lw_p0, List.forall_mem_cons.mpr ⟨lw_p1, List.forall_mem_cons.mpr ⟨lw_p2, List.forall_mem_cons.mpr ⟨lw_p3, List.forall_mem_cons.mpr ⟨lw_p4, List.forall_mem_cons.mpr ⟨lw_p5, List.forall_mem_cons.mpr ⟨lw_p6, List.forall_mem_cons.mpr ⟨lw_p7, List.forall_mem_cons.mpr ⟨lw_p8, List.forall_mem_cons.mpr ⟨lw_p9, List.forall_mem_cons.mpr ⟨lw_p10, List.forall_mem_cons.mpr ⟨lw_p11, List.forall_mem_cons.mpr ⟨lw_p12, List.forall_mem_cons.mpr ⟨lw_p13, List.forall_mem_cons.mpr ⟨lw_p14, List.forall_mem_cons.mpr ⟨lw_p15, fun _ h => absurd h List.not_mem_nil⟩⟩⟩⟩⟩⟩⟩⟩⟩⟩⟩⟩⟩⟩⟩⟩
theorem lw_p16 : lw_okq (⟨"YamIsland", "refuseFar", "(I)I"⟩, 8) := ⟨⟨by decide +kernel, by decide +kernel⟩, List.mem_of_getElem? (i := 10) (by decide +kernel), List.mem_of_getElem? (i := 413) (by decide +kernel), List.mem_of_getElem? (i := 414) (by decide +kernel)⟩
theorem lw_p17 : lw_okq (⟨"YamIsland", "broughtBy", "(LYamIsland$Island;III)I"⟩, 8) := ⟨⟨by decide +kernel, by decide +kernel⟩, List.mem_of_getElem? (i := 10) (by decide +kernel), List.mem_of_getElem? (i := 418) (by decide +kernel), List.mem_of_getElem? (i := 419) (by decide +kernel)⟩
theorem lw_p18 : lw_okq (⟨"YamIsland", "learnOwn", "(LYamIsland$Island;I)V"⟩, 8) := ⟨⟨by decide +kernel, by decide +kernel⟩, List.mem_of_getElem? (i := 10) (by decide +kernel), List.mem_of_getElem? (i := 426) (by decide +kernel), List.mem_of_getElem? (i := 427) (by decide +kernel)⟩
theorem lw_p19 : lw_okq (⟨"YamIsland", "faresInParts", "(IIII)I"⟩, 8) := ⟨⟨by decide +kernel, by decide +kernel⟩, List.mem_of_getElem? (i := 10) (by decide +kernel), List.mem_of_getElem? (i := 435) (by decide +kernel), List.mem_of_getElem? (i := 436) (by decide +kernel)⟩
theorem lw_p20 : lw_okq (⟨"YamIsland", "bestPart", "(III)I"⟩, 8) := ⟨⟨by decide +kernel, by decide +kernel⟩, List.mem_of_getElem? (i := 10) (by decide +kernel), List.mem_of_getElem? (i := 451) (by decide +kernel), List.mem_of_getElem? (i := 452) (by decide +kernel)⟩
theorem lw_p21 : lw_okq (⟨"YamIsland", "partAtRest", "(III)I"⟩, 8) := ⟨⟨by decide +kernel, by decide +kernel⟩, List.mem_of_getElem? (i := 10) (by decide +kernel), List.mem_of_getElem? (i := 455) (by decide +kernel), List.mem_of_getElem? (i := 456) (by decide +kernel)⟩
theorem lw_p22 : lw_okq (⟨"YamIsland", "nobodyGains", "(IIII)Z"⟩, 8) := ⟨⟨by decide +kernel, by decide +kernel⟩, List.mem_of_getElem? (i := 10) (by decide +kernel), List.mem_of_getElem? (i := 459) (by decide +kernel), List.mem_of_getElem? (i := 460) (by decide +kernel)⟩
theorem lw_p23 : lw_okq (⟨"YamIsland", "faresUnder", "(IIIII)I"⟩, 8) := ⟨⟨by decide +kernel, by decide +kernel⟩, List.mem_of_getElem? (i := 10) (by decide +kernel), List.mem_of_getElem? (i := 467) (by decide +kernel), List.mem_of_getElem? (i := 468) (by decide +kernel)⟩
theorem lw_p24 : lw_okq (⟨"YamIsland", "whyNoRunWith", "(III)I"⟩, 8) := ⟨⟨by decide +kernel, by decide +kernel⟩, List.mem_of_getElem? (i := 10) (by decide +kernel), List.mem_of_getElem? (i := 479) (by decide +kernel), List.mem_of_getElem? (i := 480) (by decide +kernel)⟩
theorem lw_p25 : lw_okq (⟨"YamIslandModel", "refuse", "(I)I"⟩, 43) := ⟨⟨by decide +kernel, by decide +kernel⟩, List.mem_of_getElem? (i := 508) (by decide +kernel), List.mem_of_getElem? (i := 649) (by decide +kernel), List.mem_of_getElem? (i := 650) (by decide +kernel)⟩
theorem lw_p26 : lw_okq (⟨"YamIslandModel", "isWay", "(I)Z"⟩, 43) := ⟨⟨by decide +kernel, by decide +kernel⟩, List.mem_of_getElem? (i := 508) (by decide +kernel), List.mem_of_getElem? (i := 657) (by decide +kernel), List.mem_of_getElem? (i := 658) (by decide +kernel)⟩
theorem lw_p27 : lw_okq (⟨"YamIslandModel", "bestIn", "(I)I"⟩, 43) := ⟨⟨by decide +kernel, by decide +kernel⟩, List.mem_of_getElem? (i := 508) (by decide +kernel), List.mem_of_getElem? (i := 672) (by decide +kernel), List.mem_of_getElem? (i := 673) (by decide +kernel)⟩
theorem lw_p28 : lw_okq (⟨"YamIslandModel", "readOne", "(I)I"⟩, 43) := ⟨⟨by decide +kernel, by decide +kernel⟩, List.mem_of_getElem? (i := 508) (by decide +kernel), List.mem_of_getElem? (i := 694) (by decide +kernel), List.mem_of_getElem? (i := 695) (by decide +kernel)⟩
theorem lw_p29 : lw_okq (⟨"YamIslandModel", "here", "()I"⟩, 43) := ⟨⟨by decide +kernel, by decide +kernel⟩, List.mem_of_getElem? (i := 508) (by decide +kernel), List.mem_of_getElem? (i := 698) (by decide +kernel), List.mem_of_getElem? (i := 699) (by decide +kernel)⟩
theorem lw_p30 : lw_okq (⟨"YamIslandModel", "newKnot", "(III)I"⟩, 43) := ⟨⟨by decide +kernel, by decide +kernel⟩, List.mem_of_getElem? (i := 508) (by decide +kernel), List.mem_of_getElem? (i := 702) (by decide +kernel), List.mem_of_getElem? (i := 703) (by decide +kernel)⟩
theorem lw_p31 : lw_okq (⟨"YamIslandModel", "readNumber", "()I"⟩, 43) := ⟨⟨by decide +kernel, by decide +kernel⟩, List.mem_of_getElem? (i := 508) (by decide +kernel), List.mem_of_getElem? (i := 706) (by decide +kernel), List.mem_of_getElem? (i := 707) (by decide +kernel)⟩
def lw_privs_2 : List (MethodName × Nat) := [(⟨"YamIsland", "refuseFar", "(I)I"⟩, 8), (⟨"YamIsland", "broughtBy", "(LYamIsland$Island;III)I"⟩, 8), (⟨"YamIsland", "learnOwn", "(LYamIsland$Island;I)V"⟩, 8), (⟨"YamIsland", "faresInParts", "(IIII)I"⟩, 8), (⟨"YamIsland", "bestPart", "(III)I"⟩, 8), (⟨"YamIsland", "partAtRest", "(III)I"⟩, 8), (⟨"YamIsland", "nobodyGains", "(IIII)Z"⟩, 8), (⟨"YamIsland", "faresUnder", "(IIIII)I"⟩, 8), (⟨"YamIsland", "whyNoRunWith", "(III)I"⟩, 8), (⟨"YamIslandModel", "refuse", "(I)I"⟩, 43), (⟨"YamIslandModel", "isWay", "(I)Z"⟩, 43), (⟨"YamIslandModel", "bestIn", "(I)I"⟩, 43), (⟨"YamIslandModel", "readOne", "(I)I"⟩, 43), (⟨"YamIslandModel", "here", "()I"⟩, 43), (⟨"YamIslandModel", "newKnot", "(III)I"⟩, 43), (⟨"YamIslandModel", "readNumber", "()I"⟩, 43)]
theorem lw_r2 : ∀ q ∈ lw_privs_2, lw_okq q := List.forall_mem_cons.mpr ⟨lw_p16, List.forall_mem_cons.mpr ⟨lw_p17, List.forall_mem_cons.mpr ⟨lw_p18, List.forall_mem_cons.mpr ⟨lw_p19, List.forall_mem_cons.mpr ⟨lw_p20, List.forall_mem_cons.mpr ⟨lw_p21, List.forall_mem_cons.mpr ⟨lw_p22, List.forall_mem_cons.mpr ⟨lw_p23, List.forall_mem_cons.mpr ⟨lw_p24, List.forall_mem_cons.mpr ⟨lw_p25, List.forall_mem_cons.mpr ⟨lw_p26, List.forall_mem_cons.mpr ⟨lw_p27, List.forall_mem_cons.mpr ⟨lw_p28, List.forall_mem_cons.mpr ⟨lw_p29, List.forall_mem_cons.mpr ⟨lw_p30, List.forall_mem_cons.mpr ⟨lw_p31, fun _ h => absurd h List.not_mem_nil⟩⟩⟩⟩⟩⟩⟩⟩⟩⟩⟩⟩⟩⟩⟩⟩
theorem lw_p32 : lw_okq (⟨"YamIslandModel", "take", "(I)V"⟩, 43) := ⟨⟨by decide +kernel, by decide +kernel⟩, List.mem_of_getElem? (i := 508) (by decide +kernel), List.mem_of_getElem? (i := 713) (by decide +kernel), List.mem_of_getElem? (i := 714) (by decide +kernel)⟩
theorem lw_p33 : lw_okq (⟨"YamIslandModel", "close", "(I)I"⟩, 43) := ⟨⟨by decide +kernel, by decide +kernel⟩, List.mem_of_getElem? (i := 508) (by decide +kernel), List.mem_of_getElem? (i := 717) (by decide +kernel), List.mem_of_getElem? (i := 718) (by decide +kernel)⟩
theorem lw_p34 : lw_okq (⟨"YamIslandModel", "isRule", "(I)Z"⟩, 43) := ⟨⟨by decide +kernel, by decide +kernel⟩, List.mem_of_getElem? (i := 508) (by decide +kernel), List.mem_of_getElem? (i := 725) (by decide +kernel), List.mem_of_getElem? (i := 726) (by decide +kernel)⟩
theorem lw_p35 : lw_okq (⟨"YamIslandModel", "isPerson", "(I)Z"⟩, 43) := ⟨⟨by decide +kernel, by decide +kernel⟩, List.mem_of_getElem? (i := 508) (by decide +kernel), List.mem_of_getElem? (i := 733) (by decide +kernel), List.mem_of_getElem? (i := 734) (by decide +kernel)⟩
theorem lw_p36 : lw_okq (⟨"YamIslandModel", "open", "()V"⟩, 43) := ⟨⟨by decide +kernel, by decide +kernel⟩, List.mem_of_getElem? (i := 508) (by decide +kernel), List.mem_of_getElem? (i := 757) (by decide +kernel), List.mem_of_getElem? (i := 758) (by decide +kernel)⟩
theorem lw_p37 : lw_okq (⟨"YamIslandModel", "chosen", "(III)I"⟩, 43) := ⟨⟨by decide +kernel, by decide +kernel⟩, List.mem_of_getElem? (i := 508) (by decide +kernel), List.mem_of_getElem? (i := 761) (by decide +kernel), List.mem_of_getElem? (i := 762) (by decide +kernel)⟩
theorem lw_p38 : lw_okq (⟨"YamIslandModel", "bestSeen", "(III)I"⟩, 43) := ⟨⟨by decide +kernel, by decide +kernel⟩, List.mem_of_getElem? (i := 508) (by decide +kernel), List.mem_of_getElem? (i := 765) (by decide +kernel), List.mem_of_getElem? (i := 766) (by decide +kernel)⟩
theorem lw_p39 : lw_okq (⟨"YamIslandModel", "doesSee", "(III)Z"⟩, 43) := ⟨⟨by decide +kernel, by decide +kernel⟩, List.mem_of_getElem? (i := 508) (by decide +kernel), List.mem_of_getElem? (i := 769) (by decide +kernel), List.mem_of_getElem? (i := 770) (by decide +kernel)⟩
theorem lw_p40 : lw_okq (⟨"YamIslandModel", "mostSeen", "(II)I"⟩, 43) := ⟨⟨by decide +kernel, by decide +kernel⟩, List.mem_of_getElem? (i := 508) (by decide +kernel), List.mem_of_getElem? (i := 773) (by decide +kernel), List.mem_of_getElem? (i := 774) (by decide +kernel)⟩
theorem lw_p41 : lw_okq (⟨"YamIslandModel", "planting", "(III)I"⟩, 43) := ⟨⟨by decide +kernel, by decide +kernel⟩, List.mem_of_getElem? (i := 508) (by decide +kernel), List.mem_of_getElem? (i := 777) (by decide +kernel), List.mem_of_getElem? (i := 778) (by decide +kernel)⟩
theorem lw_p42 : lw_okq (⟨"YamIslandModel", "nearSeen", "(II)I"⟩, 43) := ⟨⟨by decide +kernel, by decide +kernel⟩, List.mem_of_getElem? (i := 508) (by decide +kernel), List.mem_of_getElem? (i := 781) (by decide +kernel), List.mem_of_getElem? (i := 782) (by decide +kernel)⟩
theorem lw_p43 : lw_okq (⟨"YamIslandModel", "wrongYears", "(I)I"⟩, 43) := ⟨⟨by decide +kernel, by decide +kernel⟩, List.mem_of_getElem? (i := 508) (by decide +kernel), List.mem_of_getElem? (i := 789) (by decide +kernel), List.mem_of_getElem? (i := 790) (by decide +kernel)⟩
theorem lw_p44 : lw_okq (⟨"YamIslandModel", "run", "(I)I"⟩, 43) := ⟨⟨by decide +kernel, by decide +kernel⟩, List.mem_of_getElem? (i := 508) (by decide +kernel), List.mem_of_getElem? (i := 793) (by decide +kernel), List.mem_of_getElem? (i := 794) (by decide +kernel)⟩
theorem lw_p45 : lw_okq (⟨"YamIslandModel", "weatherAt", "(I)I"⟩, 43) := ⟨⟨by decide +kernel, by decide +kernel⟩, List.mem_of_getElem? (i := 508) (by decide +kernel), List.mem_of_getElem? (i := 797) (by decide +kernel), List.mem_of_getElem? (i := 798) (by decide +kernel)⟩
theorem lw_p46 : lw_okq (⟨"YamIslandModel", "areAlike", "()Z"⟩, 43) := ⟨⟨by decide +kernel, by decide +kernel⟩, List.mem_of_getElem? (i := 508) (by decide +kernel), List.mem_of_getElem? (i := 801) (by decide +kernel), List.mem_of_getElem? (i := 802) (by decide +kernel)⟩
theorem lw_p47 : lw_okq (⟨"YamIslandModel", "gainOf", "(IIIIII)I"⟩, 43) := ⟨⟨by decide +kernel, by decide +kernel⟩, List.mem_of_getElem? (i := 508) (by decide +kernel), List.mem_of_getElem? (i := 826) (by decide +kernel), List.mem_of_getElem? (i := 827) (by decide +kernel)⟩
def lw_privs_3 : List (MethodName × Nat) := [(⟨"YamIslandModel", "take", "(I)V"⟩, 43), (⟨"YamIslandModel", "close", "(I)I"⟩, 43), (⟨"YamIslandModel", "isRule", "(I)Z"⟩, 43), (⟨"YamIslandModel", "isPerson", "(I)Z"⟩, 43), (⟨"YamIslandModel", "open", "()V"⟩, 43), (⟨"YamIslandModel", "chosen", "(III)I"⟩, 43), (⟨"YamIslandModel", "bestSeen", "(III)I"⟩, 43), (⟨"YamIslandModel", "doesSee", "(III)Z"⟩, 43), (⟨"YamIslandModel", "mostSeen", "(II)I"⟩, 43), (⟨"YamIslandModel", "planting", "(III)I"⟩, 43), (⟨"YamIslandModel", "nearSeen", "(II)I"⟩, 43), (⟨"YamIslandModel", "wrongYears", "(I)I"⟩, 43), (⟨"YamIslandModel", "run", "(I)I"⟩, 43), (⟨"YamIslandModel", "weatherAt", "(I)I"⟩, 43), (⟨"YamIslandModel", "areAlike", "()Z"⟩, 43), (⟨"YamIslandModel", "gainOf", "(IIIIII)I"⟩, 43)]
theorem lw_r3 : ∀ q ∈ lw_privs_3, lw_okq q := List.forall_mem_cons.mpr ⟨lw_p32, List.forall_mem_cons.mpr ⟨lw_p33, List.forall_mem_cons.mpr ⟨lw_p34, List.forall_mem_cons.mpr ⟨lw_p35, List.forall_mem_cons.mpr ⟨lw_p36, List.forall_mem_cons.mpr ⟨lw_p37, List.forall_mem_cons.mpr ⟨lw_p38, List.forall_mem_cons.mpr ⟨lw_p39, List.forall_mem_cons.mpr ⟨lw_p40, List.forall_mem_cons.mpr ⟨lw_p41, List.forall_mem_cons.mpr ⟨lw_p42, List.forall_mem_cons.mpr ⟨lw_p43, List.forall_mem_cons.mpr ⟨lw_p44, List.forall_mem_cons.mpr ⟨lw_p45, List.forall_mem_cons.mpr ⟨lw_p46, List.forall_mem_cons.mpr ⟨lw_p47, fun _ h => absurd h List.not_mem_nil⟩⟩⟩⟩⟩⟩⟩⟩⟩⟩⟩⟩⟩⟩⟩⟩
theorem lw_p48 : lw_okq (⟨"YamIslandModel", "ownIn", "(IIIIII)I"⟩, 43) := ⟨⟨by decide +kernel, by decide +kernel⟩, List.mem_of_getElem? (i := 508) (by decide +kernel), List.mem_of_getElem? (i := 830) (by decide +kernel), List.mem_of_getElem? (i := 831) (by decide +kernel)⟩
theorem lw_p49 : lw_okq (⟨"YamIslandModel", "faresInParts", "(IIII)I"⟩, 43) := ⟨⟨by decide +kernel, by decide +kernel⟩, List.mem_of_getElem? (i := 508) (by decide +kernel), List.mem_of_getElem? (i := 842) (by decide +kernel), List.mem_of_getElem? (i := 843) (by decide +kernel)⟩
theorem lw_p50 : lw_okq (⟨"YamIslandModel", "restsInParts", "(IIII)Z"⟩, 43) := ⟨⟨by decide +kernel, by decide +kernel⟩, List.mem_of_getElem? (i := 508) (by decide +kernel), List.mem_of_getElem? (i := 854) (by decide +kernel), List.mem_of_getElem? (i := 855) (by decide +kernel)⟩
theorem lw_p51 : lw_okq (⟨"YamIslandModel", "carryAll", "()V"⟩, 43) := ⟨⟨by decide +kernel, by decide +kernel⟩, List.mem_of_getElem? (i := 508) (by decide +kernel), List.mem_of_getElem? (i := 878) (by decide +kernel), List.mem_of_getElem? (i := 879) (by decide +kernel)⟩
theorem lw_p52 : lw_okq (⟨"YamIslandModel", "carry", "(I)I"⟩, 43) := ⟨⟨by decide +kernel, by decide +kernel⟩, List.mem_of_getElem? (i := 508) (by decide +kernel), List.mem_of_getElem? (i := 882) (by decide +kernel), List.mem_of_getElem? (i := 883) (by decide +kernel)⟩
def lw_privs_4 : List (MethodName × Nat) := [(⟨"YamIslandModel", "ownIn", "(IIIIII)I"⟩, 43), (⟨"YamIslandModel", "faresInParts", "(IIII)I"⟩, 43), (⟨"YamIslandModel", "restsInParts", "(IIII)Z"⟩, 43), (⟨"YamIslandModel", "carryAll", "()V"⟩, 43), (⟨"YamIslandModel", "carry", "(I)I"⟩, 43)]
theorem lw_r4 : ∀ q ∈ lw_privs_4, lw_okq q := List.forall_mem_cons.mpr ⟨lw_p48, List.forall_mem_cons.mpr ⟨lw_p49, List.forall_mem_cons.mpr ⟨lw_p50, List.forall_mem_cons.mpr ⟨lw_p51, List.forall_mem_cons.mpr ⟨lw_p52, fun _ h => absurd h List.not_mem_nil⟩⟩⟩⟩⟩
def lw_privs : List (MethodName × Nat) := lw_privs_1 ++ (lw_privs_2 ++ (lw_privs_3 ++ (lw_privs_4)))
def lw_tbl : List Cond := k2_sels lw_privs ++ tables_1
theorem lw_privs_ok : ∀ q ∈ lw_privs, lw_okq q := by
  show ∀ q ∈ lw_privs_1 ++ (lw_privs_2 ++ (lw_privs_3 ++ (lw_privs_4))), lw_okq q
  exact List.forall_mem_append.mpr ⟨lw_r1, List.forall_mem_append.mpr ⟨lw_r2, List.forall_mem_append.mpr ⟨lw_r3, lw_r4⟩⟩⟩

def RX0 : String := "YamIsland$Island"
def TX0 : u_T := fun k => match k with
  | 0 => ("YamIsland$Island", "wayCount", "I", false)
  | 1 => ("YamIsland$Island", "brings", "[I", true)
  | 2 => ("YamIsland$Island", "skyLength", "I", false)
  | 3 => ("YamIsland$Island", "sky", "[I", true)
  | 4 => ("YamIsland$Island", "skyStart", "I", false)
  | 5 => ("YamIsland$Island", "ruleCount", "I", false)
  | 6 => ("YamIsland$Island", "rules", "[LYamIsland$Rule;", true)
  | 7 => ("YamIsland$Island", "peopleCount", "I", false)
  | 8 => ("YamIsland$Island", "wayOf", "[I", true)
  | 9 => ("YamIsland$Island", "ruleOf", "[I", true)
  | 10 => ("YamIsland$Island", "seesOf", "[I", true)
  | 11 => ("YamIsland$Island", "total", "[I", true)
  | 12 => ("YamIsland$Island", "year", "I", false)
  | 13 => ("YamIsland$Island", "show", "I", false)
  | 14 => ("YamIsland$Island", "hidden", "I", false)
  | 15 => ("YamIsland$Island", "brought", "[I", true)
  | 16 => ("YamIsland$Island", "seen", "[I", true)
  | 17 => ("YamIsland$Island", "chosen", "[I", true)
  | _ => ("YamIsland$Island", "planters", "[I", true)
def tyX0 : Nat → FieldType := fun k => match k with
  | 0 => .int
  | 1 => .array .int
  | 2 => .int
  | 3 => .array .int
  | 4 => .int
  | 5 => .int
  | 6 => .array (.object "YamIsland$Rule")
  | 7 => .int
  | 8 => .array .int
  | 9 => .array .int
  | 10 => .array .int
  | 11 => .array .int
  | 12 => .int
  | 13 => .int
  | 14 => .int
  | 15 => .array .int
  | 16 => .array .int
  | 17 => .array .int
  | _ => .array .int
abbrev wsX00 : List Cond := u_ws RX0 TX0 19
theorem nmX0 : ∀ a, a < 19 → ∀ b, b < 19 → a ≠ b → (TX0 a).2.1 ≠ (TX0 b).2.1 := by decide +kernel
theorem tyX0_ok : ∀ k, k < 19 → parseFieldDescriptor (TX0 k).2.2.1 = some (tyX0 k) := by decide +kernel
abbrev cX0_init : ByteArray := prog_2_method_1_code
def yX0_init : MethodName := ⟨RX0, "<init>", "()V"⟩
abbrev cX0_copyFrom : ByteArray := prog_2_method_2_code
def yX0_copyFrom : MethodName := ⟨RX0, "copyFrom", "(LYamIsland$Island;)V"⟩
abbrev cX0_imagine : ByteArray := prog_2_method_3_code
def yX0_imagine : MethodName := ⟨RX0, "imagine", "(LYamIsland$Island;)V"⟩
abbrev cX0_addWay : ByteArray := prog_2_method_4_code
def yX0_addWay : MethodName := ⟨RX0, "addWay", "(IIII)I"⟩
abbrev cX0_addRule : ByteArray := prog_2_method_5_code
def yX0_addRule : MethodName := ⟨RX0, "addRule", "(LYamIsland$Rule;)I"⟩
abbrev cX0_addPerson : ByteArray := prog_2_method_6_code
def yX0_addPerson : MethodName := ⟨RX0, "addPerson", "(II)I"⟩
abbrev cX0_liveInParts : ByteArray := prog_2_method_7_code
def yX0_liveInParts : MethodName := ⟨RX0, "liveInParts", "(III)V"⟩
abbrev cX0_turnSky : ByteArray := prog_2_method_8_code
def yX0_turnSky : MethodName := ⟨RX0, "turnSky", "(III)V"⟩
abbrev cX0_seeAhead : ByteArray := prog_2_method_9_code
def yX0_seeAhead : MethodName := ⟨RX0, "seeAhead", "(I)V"⟩
abbrev cX0_bringsOf : ByteArray := prog_2_method_10_code
def yX0_bringsOf : MethodName := ⟨RX0, "bringsOf", "(II)I"⟩
abbrev cX0_weatherOf : ByteArray := prog_2_method_11_code
def yX0_weatherOf : MethodName := ⟨RX0, "weatherOf", "(I)I"⟩
abbrev cX0_bestIn : ByteArray := prog_2_method_12_code
def yX0_bestIn : MethodName := ⟨RX0, "bestIn", "(I)I"⟩
abbrev cX0_plantersOf : ByteArray := prog_2_method_13_code
def yX0_plantersOf : MethodName := ⟨RX0, "plantersOf", "(I)I"⟩
abbrev cX0_isAlike : ByteArray := prog_2_method_14_code
def yX0_isAlike : MethodName := ⟨RX0, "isAlike", "()Z"⟩
abbrev cX0_isWrong : ByteArray := prog_2_method_15_code
def yX0_isWrong : MethodName := ⟨RX0, "isWrong", "()Z"⟩
abbrev cX0_allBrought : ByteArray := prog_2_method_16_code
def yX0_allBrought : MethodName := ⟨RX0, "allBrought", "()I"⟩
abbrev cX0_passYears : ByteArray := prog_2_method_17_code
def yX0_passYears : MethodName := ⟨RX0, "passYears", "(I)V"⟩
abbrev cX0_harvest : ByteArray := prog_2_method_18_code
def yX0_harvest : MethodName := ⟨RX0, "harvest", "()V"⟩
abbrev cX0_choiceOf : ByteArray := prog_2_method_19_code
def yX0_choiceOf : MethodName := ⟨RX0, "choiceOf", "(I)I"⟩
abbrev cX0_bestSeen : ByteArray := prog_2_method_20_code
def yX0_bestSeen : MethodName := ⟨RX0, "bestSeen", "(I)I"⟩
abbrev cX0_mostSeen : ByteArray := prog_2_method_21_code
def yX0_mostSeen : MethodName := ⟨RX0, "mostSeen", "(I)I"⟩
abbrev cX0_nearSeen : ByteArray := prog_2_method_22_code
def yX0_nearSeen : MethodName := ⟨RX0, "nearSeen", "(I)I"⟩
abbrev cX0_wayBehind : ByteArray := prog_2_method_23_code
def yX0_wayBehind : MethodName := ⟨RX0, "wayBehind", "(I)I"⟩
abbrev cX0_isDivisor : ByteArray := prog_2_method_24_code
def yX0_isDivisor : MethodName := ⟨RX0, "isDivisor", "(II)Z"⟩
def RX1 : String := "YamIsland$Reader"
def TX1 : u_T := fun k => match k with
  | 0 => ("YamIsland$Reader", "text", "[I", true)
  | 1 => ("YamIsland$Reader", "length", "I", false)
  | _ => ("YamIsland$Reader", "place", "I", false)
def tyX1 : Nat → FieldType := fun k => match k with
  | 0 => .array .int
  | 1 => .int
  | _ => .int
abbrev wsX10 : List Cond := u_ws RX1 TX1 3
theorem nmX1 : ∀ a, a < 3 → ∀ b, b < 3 → a ≠ b → (TX1 a).2.1 ≠ (TX1 b).2.1 := by decide +kernel
theorem tyX1_ok : ∀ k, k < 3 → parseFieldDescriptor (TX1 k).2.2.1 = some (tyX1 k) := by decide +kernel
abbrev cX1_init : ByteArray := prog_3_method_1_code
def yX1_init : MethodName := ⟨RX1, "<init>", "()V"⟩
abbrev cX1_take : ByteArray := prog_3_method_2_code
def yX1_take : MethodName := ⟨RX1, "take", "(I)V"⟩
abbrev cX1_readAll : ByteArray := prog_3_method_3_code
def yX1_readAll : MethodName := ⟨RX1, "readAll", "()LYamIsland$Rule;"⟩
abbrev cX1_readRule : ByteArray := prog_3_method_4_code
def yX1_readRule : MethodName := ⟨RX1, "readRule", "(I)LYamIsland$Rule;"⟩
abbrev cX1_readMixed : ByteArray := prog_3_method_5_code
def yX1_readMixed : MethodName := ⟨RX1, "readMixed", "(I)LYamIsland$Rule;"⟩
abbrev cX1_readNumber : ByteArray := prog_3_method_6_code
def yX1_readNumber : MethodName := ⟨RX1, "readNumber", "()I"⟩
abbrev cX1_passes : ByteArray := prog_3_method_7_code
def yX1_passes : MethodName := ⟨RX1, "passes", "(C)Z"⟩
abbrev cX1_here : ByteArray := prog_3_method_8_code
def yX1_here : MethodName := ⟨RX1, "here", "()I"⟩
abbrev cX1_isDigit : ByteArray := prog_3_method_9_code
def yX1_isDigit : MethodName := ⟨RX1, "isDigit", "(I)Z"⟩
def RX2 : String := "YamIsland$Rule"
def TX2 : u_T := fun k => match k with
  | 0 => ("YamIsland$Rule", "sign", "C", true)
  | 1 => ("YamIsland$Rule", "number", "I", true)
  | 2 => ("YamIsland$Rule", "ifLess", "LYamIsland$Rule;", true)
  | _ => ("YamIsland$Rule", "otherwise", "LYamIsland$Rule;", true)
def tyX2 : Nat → FieldType := fun k => match k with
  | 0 => .char
  | 1 => .int
  | 2 => .object "YamIsland$Rule"
  | _ => .object "YamIsland$Rule"
abbrev wsX20 : List Cond := u_ws RX2 TX2 4
theorem nmX2 : ∀ a, a < 4 → ∀ b, b < 4 → a ≠ b → (TX2 a).2.1 ≠ (TX2 b).2.1 := by decide +kernel
theorem tyX2_ok : ∀ k, k < 4 → parseFieldDescriptor (TX2 k).2.2.1 = some (tyX2 k) := by decide +kernel
abbrev cX2_init : ByteArray := prog_4_method_1_code
def yX2_init : MethodName := ⟨RX2, "<init>", "(CILYamIsland$Rule;LYamIsland$Rule;)V"⟩
abbrev cX2_simpleFor : ByteArray := prog_4_method_2_code
def yX2_simpleFor : MethodName := ⟨RX2, "simpleFor", "(I)LYamIsland$Rule;"⟩
def RX3 : String := "YamIsland"
def TX3 : u_T := fun k => match k with
  | 0 => ("YamIsland", "island", "LYamIsland$Island;", true)
  | 1 => ("YamIsland", "taken", "LYamIsland$Island;", true)
  | 2 => ("YamIsland", "parted", "LYamIsland$Island;", true)
  | 3 => ("YamIsland", "mind", "LYamIsland$Island;", true)
  | 4 => ("YamIsland", "ownBrought", "[I", true)
  | 5 => ("YamIsland", "reader", "LYamIsland$Reader;", true)
  | 6 => ("YamIsland", "refusals", "[I", true)
  | _ => ("YamIsland", "isTaken", "Z", false)
def tyX3 : Nat → FieldType := fun k => match k with
  | 0 => .object "YamIsland$Island"
  | 1 => .object "YamIsland$Island"
  | 2 => .object "YamIsland$Island"
  | 3 => .object "YamIsland$Island"
  | 4 => .array .int
  | 5 => .object "YamIsland$Reader"
  | 6 => .array .int
  | _ => .boolean
abbrev wsX30 : List Cond := u_ws RX3 TX3 8
theorem nmX3 : ∀ a, a < 8 → ∀ b, b < 8 → a ≠ b → (TX3 a).2.1 ≠ (TX3 b).2.1 := by decide +kernel
theorem tyX3_ok : ∀ k, k < 8 → parseFieldDescriptor (TX3 k).2.2.1 = some (tyX3 k) := by decide +kernel
abbrev cX3_init : ByteArray := prog_1_method_1_code
def yX3_init : MethodName := ⟨RX3, "<init>", "()V"⟩
abbrev cX3_way : ByteArray := prog_1_method_2_code
def yX3_way : MethodName := ⟨RX3, "way", "(IIII)I"⟩
abbrev cX3_brings : ByteArray := prog_1_method_3_code
def yX3_brings : MethodName := ⟨RX3, "brings", "(III)I"⟩
abbrev cX3_bestWay : ByteArray := prog_1_method_4_code
def yX3_bestWay : MethodName := ⟨RX3, "bestWay", "(I)I"⟩
abbrev cX3_sky : ByteArray := prog_1_method_5_code
def yX3_sky : MethodName := ⟨RX3, "sky", "(IJ)I"⟩
abbrev cX3_weather : ByteArray := prog_1_method_6_code
def yX3_weather : MethodName := ⟨RX3, "weather", "(I)I"⟩
abbrev cX3_feed : ByteArray := prog_1_method_7_code
def yX3_feed : MethodName := ⟨RX3, "feed", "(IJ)I"⟩
abbrev cX3_rule : ByteArray := prog_1_method_8_code
def yX3_rule : MethodName := ⟨RX3, "rule", "()I"⟩
abbrev cX3_person : ByteArray := prog_1_method_9_code
def yX3_person : MethodName := ⟨RX3, "person", "(II)I"⟩
abbrev cX3_sees : ByteArray := prog_1_method_10_code
def yX3_sees : MethodName := ⟨RX3, "sees", "(II)I"⟩
abbrev cX3_lives : ByteArray := prog_1_method_11_code
def yX3_lives : MethodName := ⟨RX3, "lives", "(II)I"⟩
abbrev cX3_plants : ByteArray := prog_1_method_12_code
def yX3_plants : MethodName := ⟨RX3, "plants", "(II)I"⟩
abbrev cX3_show : ByteArray := prog_1_method_13_code
def yX3_show : MethodName := ⟨RX3, "show", "(I)I"⟩
abbrev cX3_of : ByteArray := prog_1_method_14_code
def yX3_of : MethodName := ⟨RX3, "of", "(II)I"⟩
abbrev cX3_next : ByteArray := prog_1_method_15_code
def yX3_next : MethodName := ⟨RX3, "next", "(I)I"⟩
abbrev cX3_go : ByteArray := prog_1_method_16_code
def yX3_go : MethodName := ⟨RX3, "go", "(I)I"⟩
abbrev cX3_share : ByteArray := prog_1_method_17_code
def yX3_share : MethodName := ⟨RX3, "share", "(I)I"⟩
abbrev cX3_fares : ByteArray := prog_1_method_18_code
def yX3_fares : MethodName := ⟨RX3, "fares", "(I)I"⟩
abbrev cX3_wrong : ByteArray := prog_1_method_19_code
def yX3_wrong : MethodName := ⟨RX3, "wrong", "(I)I"⟩
abbrev cX3_alike : ByteArray := prog_1_method_20_code
def yX3_alike : MethodName := ⟨RX3, "alike", "(I)I"⟩
abbrev cX3_gain : ByteArray := prog_1_method_21_code
def yX3_gain : MethodName := ⟨RX3, "gain", "(III)I"⟩
abbrev cX3_rest : ByteArray := prog_1_method_22_code
def yX3_rest : MethodName := ⟨RX3, "rest", "(I)I"⟩
abbrev cX3_ifAll : ByteArray := prog_1_method_23_code
def yX3_ifAll : MethodName := ⟨RX3, "ifAll", "(II)I"⟩
abbrev cX3_bestRule : ByteArray := prog_1_method_24_code
def yX3_bestRule : MethodName := ⟨RX3, "bestRule", "(I)I"⟩
abbrev cX3_part : ByteArray := prog_1_method_25_code
def yX3_part : MethodName := ⟨RX3, "part", "(IIII)I"⟩
abbrev cX3_edge : ByteArray := prog_1_method_26_code
def yX3_edge : MethodName := ⟨RX3, "edge", "(IIII)I"⟩
abbrev cX3_lessSeen : ByteArray := prog_1_method_27_code
def yX3_lessSeen : MethodName := ⟨RX3, "lessSeen", "(II)I"⟩
abbrev cX3_shown : ByteArray := prog_1_method_28_code
def yX3_shown : MethodName := ⟨RX3, "shown", "(II)I"⟩
abbrev cX3_blind : ByteArray := prog_1_method_29_code
def yX3_blind : MethodName := ⟨RX3, "blind", "(I)I"⟩
abbrev cX3_image : ByteArray := prog_1_method_30_code
def yX3_image : MethodName := ⟨RX3, "image", "()I"⟩
abbrev cX3_restore : ByteArray := prog_1_method_31_code
def yX3_restore : MethodName := ⟨RX3, "restore", "()I"⟩
abbrev cX3_count : ByteArray := prog_1_method_32_code
def yX3_count : MethodName := ⟨RX3, "count", "(I)I"⟩
abbrev cX3_isWay : ByteArray := prog_1_method_33_code
def yX3_isWay : MethodName := ⟨RX3, "isWay", "(I)Z"⟩
abbrev cX3_isWeather : ByteArray := prog_1_method_34_code
def yX3_isWeather : MethodName := ⟨RX3, "isWeather", "(I)Z"⟩
abbrev cX3_isPerson : ByteArray := prog_1_method_35_code
def yX3_isPerson : MethodName := ⟨RX3, "isPerson", "(I)Z"⟩
abbrev cX3_isRule : ByteArray := prog_1_method_36_code
def yX3_isRule : MethodName := ⟨RX3, "isRule", "(I)Z"⟩
abbrev cX3_whyOutside : ByteArray := prog_1_method_37_code
def yX3_whyOutside : MethodName := ⟨RX3, "whyOutside", "(III)I"⟩
abbrev cX3_whyNoRun : ByteArray := prog_1_method_38_code
def yX3_whyNoRun : MethodName := ⟨RX3, "whyNoRun", "(I)I"⟩
abbrev cX3_whyNoRunWith : ByteArray := prog_1_method_39_code
def yX3_whyNoRunWith : MethodName := ⟨RX3, "whyNoRunWith", "(III)I"⟩
abbrev cX3_refuse : ByteArray := prog_1_method_40_code
def yX3_refuse : MethodName := ⟨RX3, "refuse", "(I)I"⟩
abbrev cX3_refuseFar : ByteArray := prog_1_method_41_code
def yX3_refuseFar : MethodName := ⟨RX3, "refuseFar", "(I)I"⟩
abbrev cX3_exchange : ByteArray := prog_1_method_42_code
def yX3_exchange : MethodName := ⟨RX3, "exchange", "([III)I"⟩
abbrev cX3_faresNow : ByteArray := prog_1_method_43_code
def yX3_faresNow : MethodName := ⟨RX3, "faresNow", "(I)I"⟩
abbrev cX3_faresInMind : ByteArray := prog_1_method_44_code
def yX3_faresInMind : MethodName := ⟨RX3, "faresInMind", "(I)I"⟩
abbrev cX3_faresInParts : ByteArray := prog_1_method_45_code
def yX3_faresInParts : MethodName := ⟨RX3, "faresInParts", "(IIII)I"⟩
abbrev cX3_faresUnder : ByteArray := prog_1_method_46_code
def yX3_faresUnder : MethodName := ⟨RX3, "faresUnder", "(IIIII)I"⟩
abbrev cX3_bestPart : ByteArray := prog_1_method_47_code
def yX3_bestPart : MethodName := ⟨RX3, "bestPart", "(III)I"⟩
abbrev cX3_partAtRest : ByteArray := prog_1_method_48_code
def yX3_partAtRest : MethodName := ⟨RX3, "partAtRest", "(III)I"⟩
abbrev cX3_nobodyGains : ByteArray := prog_1_method_49_code
def yX3_nobodyGains : MethodName := ⟨RX3, "nobodyGains", "(IIII)Z"⟩
abbrev cX3_learnOwn : ByteArray := prog_1_method_50_code
def yX3_learnOwn : MethodName := ⟨RX3, "learnOwn", "(LYamIsland$Island;I)V"⟩
abbrev cX3_broughtBy : ByteArray := prog_1_method_51_code
def yX3_broughtBy : MethodName := ⟨RX3, "broughtBy", "(LYamIsland$Island;III)I"⟩
def RX4 : String := "YamIslandModel"
def TX4 : u_T := fun k => match k with
  | 0 => ("YamIslandModel", "ways", "I", false)
  | 1 => ("YamIslandModel", "brings", "[I", true)
  | 2 => ("YamIslandModel", "sky", "[I", true)
  | 3 => ("YamIslandModel", "skyMany", "I", false)
  | 4 => ("YamIslandModel", "people", "I", false)
  | 5 => ("YamIslandModel", "wayOf", "[I", true)
  | 6 => ("YamIslandModel", "ruleOf", "[I", true)
  | 7 => ("YamIslandModel", "seesOf", "[I", true)
  | 8 => ("YamIslandModel", "brought", "[I", true)
  | 9 => ("YamIslandModel", "show", "I", false)
  | 10 => ("YamIslandModel", "year", "I", false)
  | 11 => ("YamIslandModel", "rules", "I", false)
  | 12 => ("YamIslandModel", "roots", "[I", true)
  | 13 => ("YamIslandModel", "knotKind", "[I", true)
  | 14 => ("YamIslandModel", "knotK", "[I", true)
  | 15 => ("YamIslandModel", "knotOne", "[I", true)
  | 16 => ("YamIslandModel", "knotOther", "[I", true)
  | 17 => ("YamIslandModel", "text", "[I", true)
  | 18 => ("YamIslandModel", "textMany", "I", false)
  | 19 => ("YamIslandModel", "refused", "[I", true)
  | 20 => ("YamIslandModel", "at", "I", false)
  | 21 => ("YamIslandModel", "end", "I", false)
  | 22 => ("YamIslandModel", "isBad", "Z", false)
  | 23 => ("YamIslandModel", "knots", "I", false)
  | 24 => ("YamIslandModel", "openAt", "[I", true)
  | 25 => ("YamIslandModel", "isSecond", "[Z", true)
  | 26 => ("YamIslandModel", "opens", "I", false)
  | 27 => ("YamIslandModel", "runWay", "[I", true)
  | 28 => ("YamIslandModel", "runRule", "[I", true)
  | 29 => ("YamIslandModel", "runSees", "[I", true)
  | 30 => ("YamIslandModel", "runShow", "I", false)
  | 31 => ("YamIslandModel", "runBlind", "I", false)
  | 32 => ("YamIslandModel", "runLong", "I", false)
  | 33 => ("YamIslandModel", "runX", "I", false)
  | 34 => ("YamIslandModel", "runY", "I", false)
  | 35 => ("YamIslandModel", "runGain", "[I", true)
  | 36 => ("YamIslandModel", "nextWay", "[I", true)
  | 37 => ("YamIslandModel", "runWrong", "I", false)
  | 38 => ("YamIslandModel", "runAlike", "I", false)
  | 39 => ("YamIslandModel", "hasImage", "Z", false)
  | 40 => ("YamIslandModel", "imaged", "[I", true)
  | 41 => ("YamIslandModel", "imageAt", "I", false)
  | _ => ("YamIslandModel", "isTaking", "Z", false)
def tyX4 : Nat → FieldType := fun k => match k with
  | 0 => .int
  | 1 => .array .int
  | 2 => .array .int
  | 3 => .int
  | 4 => .int
  | 5 => .array .int
  | 6 => .array .int
  | 7 => .array .int
  | 8 => .array .int
  | 9 => .int
  | 10 => .int
  | 11 => .int
  | 12 => .array .int
  | 13 => .array .int
  | 14 => .array .int
  | 15 => .array .int
  | 16 => .array .int
  | 17 => .array .int
  | 18 => .int
  | 19 => .array .int
  | 20 => .int
  | 21 => .int
  | 22 => .boolean
  | 23 => .int
  | 24 => .array .int
  | 25 => .array .boolean
  | 26 => .int
  | 27 => .array .int
  | 28 => .array .int
  | 29 => .array .int
  | 30 => .int
  | 31 => .int
  | 32 => .int
  | 33 => .int
  | 34 => .int
  | 35 => .array .int
  | 36 => .array .int
  | 37 => .int
  | 38 => .int
  | 39 => .boolean
  | 40 => .array .int
  | 41 => .int
  | _ => .boolean
abbrev wsX40 : List Cond := u_ws RX4 TX4 43
theorem nmX4 : ∀ a, a < 43 → ∀ b, b < 43 → a ≠ b → (TX4 a).2.1 ≠ (TX4 b).2.1 := by decide +kernel
theorem tyX4_ok : ∀ k, k < 43 → parseFieldDescriptor (TX4 k).2.2.1 = some (tyX4 k) := by decide +kernel
abbrev cX4_init : ByteArray := prog_6_method_1_code
def yX4_init : MethodName := ⟨RX4, "<init>", "()V"⟩
abbrev cX4_in : ByteArray := prog_6_method_3_code
def yX4_in : MethodName := ⟨RX4, "in", "(JJJ)Z"⟩
abbrev cX4_refuse : ByteArray := prog_6_method_4_code
def yX4_refuse : MethodName := ⟨RX4, "refuse", "(I)I"⟩
abbrev cX4_isWay : ByteArray := prog_6_method_5_code
def yX4_isWay : MethodName := ⟨RX4, "isWay", "(I)Z"⟩
abbrev cX4_isPerson : ByteArray := prog_6_method_6_code
def yX4_isPerson : MethodName := ⟨RX4, "isPerson", "(I)Z"⟩
abbrev cX4_isRule : ByteArray := prog_6_method_7_code
def yX4_isRule : MethodName := ⟨RX4, "isRule", "(I)Z"⟩
abbrev cX4_isWeather : ByteArray := prog_6_method_8_code
def yX4_isWeather : MethodName := ⟨RX4, "isWeather", "(I)Z"⟩
abbrev cX4_way : ByteArray := prog_6_method_9_code
def yX4_way : MethodName := ⟨RX4, "way", "(IIII)I"⟩
abbrev cX4_brings : ByteArray := prog_6_method_10_code
def yX4_brings : MethodName := ⟨RX4, "brings", "(III)I"⟩
abbrev cX4_bestIn : ByteArray := prog_6_method_11_code
def yX4_bestIn : MethodName := ⟨RX4, "bestIn", "(I)I"⟩
abbrev cX4_bestWay : ByteArray := prog_6_method_12_code
def yX4_bestWay : MethodName := ⟨RX4, "bestWay", "(I)I"⟩
abbrev cX4_sky : ByteArray := prog_6_method_13_code
def yX4_sky : MethodName := ⟨RX4, "sky", "(IJ)I"⟩
abbrev cX4_weather : ByteArray := prog_6_method_14_code
def yX4_weather : MethodName := ⟨RX4, "weather", "(I)I"⟩
abbrev cX4_feed : ByteArray := prog_6_method_15_code
def yX4_feed : MethodName := ⟨RX4, "feed", "(IJ)I"⟩
abbrev cX4_here : ByteArray := prog_6_method_16_code
def yX4_here : MethodName := ⟨RX4, "here", "()I"⟩
abbrev cX4_take : ByteArray := prog_6_method_17_code
def yX4_take : MethodName := ⟨RX4, "take", "(I)V"⟩
abbrev cX4_readNumber : ByteArray := prog_6_method_18_code
def yX4_readNumber : MethodName := ⟨RX4, "readNumber", "()I"⟩
abbrev cX4_newKnot : ByteArray := prog_6_method_19_code
def yX4_newKnot : MethodName := ⟨RX4, "newKnot", "(III)I"⟩
abbrev cX4_readOne : ByteArray := prog_6_method_20_code
def yX4_readOne : MethodName := ⟨RX4, "readOne", "(I)I"⟩
abbrev cX4_close : ByteArray := prog_6_method_21_code
def yX4_close : MethodName := ⟨RX4, "close", "(I)I"⟩
abbrev cX4_rule : ByteArray := prog_6_method_22_code
def yX4_rule : MethodName := ⟨RX4, "rule", "()I"⟩
abbrev cX4_person : ByteArray := prog_6_method_23_code
def yX4_person : MethodName := ⟨RX4, "person", "(II)I"⟩
abbrev cX4_sees : ByteArray := prog_6_method_24_code
def yX4_sees : MethodName := ⟨RX4, "sees", "(II)I"⟩
abbrev cX4_lives : ByteArray := prog_6_method_25_code
def yX4_lives : MethodName := ⟨RX4, "lives", "(II)I"⟩
abbrev cX4_plants : ByteArray := prog_6_method_26_code
def yX4_plants : MethodName := ⟨RX4, "plants", "(II)I"⟩
abbrev cX4_show : ByteArray := prog_6_method_27_code
def yX4_show : MethodName := ⟨RX4, "show", "(I)I"⟩
abbrev cX4_of : ByteArray := prog_6_method_28_code
def yX4_of : MethodName := ⟨RX4, "of", "(II)I"⟩
abbrev cX4_open : ByteArray := prog_6_method_29_code
def yX4_open : MethodName := ⟨RX4, "open", "()V"⟩
abbrev cX4_weatherAt : ByteArray := prog_6_method_30_code
def yX4_weatherAt : MethodName := ⟨RX4, "weatherAt", "(I)I"⟩
abbrev cX4_doesSee : ByteArray := prog_6_method_31_code
def yX4_doesSee : MethodName := ⟨RX4, "doesSee", "(III)Z"⟩
abbrev cX4_bestSeen : ByteArray := prog_6_method_32_code
def yX4_bestSeen : MethodName := ⟨RX4, "bestSeen", "(III)I"⟩
abbrev cX4_mostSeen : ByteArray := prog_6_method_33_code
def yX4_mostSeen : MethodName := ⟨RX4, "mostSeen", "(II)I"⟩
abbrev cX4_planting : ByteArray := prog_6_method_34_code
def yX4_planting : MethodName := ⟨RX4, "planting", "(III)I"⟩
abbrev cX4_nearSeen : ByteArray := prog_6_method_35_code
def yX4_nearSeen : MethodName := ⟨RX4, "nearSeen", "(II)I"⟩
abbrev cX4_chosen : ByteArray := prog_6_method_36_code
def yX4_chosen : MethodName := ⟨RX4, "chosen", "(III)I"⟩
abbrev cX4_areAlike : ByteArray := prog_6_method_37_code
def yX4_areAlike : MethodName := ⟨RX4, "areAlike", "()Z"⟩
abbrev cX4_run : ByteArray := prog_6_method_38_code
def yX4_run : MethodName := ⟨RX4, "run", "(I)I"⟩
abbrev cX4_wrongYears : ByteArray := prog_6_method_39_code
def yX4_wrongYears : MethodName := ⟨RX4, "wrongYears", "(I)I"⟩
abbrev cX4_next : ByteArray := prog_6_method_40_code
def yX4_next : MethodName := ⟨RX4, "next", "(I)I"⟩
abbrev cX4_go : ByteArray := prog_6_method_41_code
def yX4_go : MethodName := ⟨RX4, "go", "(I)I"⟩
abbrev cX4_share : ByteArray := prog_6_method_42_code
def yX4_share : MethodName := ⟨RX4, "share", "(I)I"⟩
abbrev cX4_fares : ByteArray := prog_6_method_43_code
def yX4_fares : MethodName := ⟨RX4, "fares", "(I)I"⟩
abbrev cX4_wrong : ByteArray := prog_6_method_44_code
def yX4_wrong : MethodName := ⟨RX4, "wrong", "(I)I"⟩
abbrev cX4_alike : ByteArray := prog_6_method_45_code
def yX4_alike : MethodName := ⟨RX4, "alike", "(I)I"⟩
abbrev cX4_gainOf : ByteArray := prog_6_method_46_code
def yX4_gainOf : MethodName := ⟨RX4, "gainOf", "(IIIIII)I"⟩
abbrev cX4_ownIn : ByteArray := prog_6_method_47_code
def yX4_ownIn : MethodName := ⟨RX4, "ownIn", "(IIIIII)I"⟩
abbrev cX4_gain : ByteArray := prog_6_method_48_code
def yX4_gain : MethodName := ⟨RX4, "gain", "(III)I"⟩
abbrev cX4_rest : ByteArray := prog_6_method_49_code
def yX4_rest : MethodName := ⟨RX4, "rest", "(I)I"⟩
abbrev cX4_faresInParts : ByteArray := prog_6_method_50_code
def yX4_faresInParts : MethodName := ⟨RX4, "faresInParts", "(IIII)I"⟩
abbrev cX4_ifAll : ByteArray := prog_6_method_51_code
def yX4_ifAll : MethodName := ⟨RX4, "ifAll", "(II)I"⟩
abbrev cX4_bestRule : ByteArray := prog_6_method_52_code
def yX4_bestRule : MethodName := ⟨RX4, "bestRule", "(I)I"⟩
abbrev cX4_restsInParts : ByteArray := prog_6_method_53_code
def yX4_restsInParts : MethodName := ⟨RX4, "restsInParts", "(IIII)Z"⟩
abbrev cX4_part : ByteArray := prog_6_method_54_code
def yX4_part : MethodName := ⟨RX4, "part", "(IIII)I"⟩
abbrev cX4_edge : ByteArray := prog_6_method_55_code
def yX4_edge : MethodName := ⟨RX4, "edge", "(IIII)I"⟩
abbrev cX4_lessSeen : ByteArray := prog_6_method_56_code
def yX4_lessSeen : MethodName := ⟨RX4, "lessSeen", "(II)I"⟩
abbrev cX4_shown : ByteArray := prog_6_method_57_code
def yX4_shown : MethodName := ⟨RX4, "shown", "(II)I"⟩
abbrev cX4_blind : ByteArray := prog_6_method_58_code
def yX4_blind : MethodName := ⟨RX4, "blind", "(I)I"⟩
abbrev cX4_carry : ByteArray := prog_6_method_59_code
def yX4_carry : MethodName := ⟨RX4, "carry", "(I)I"⟩
abbrev cX4_carryAll : ByteArray := prog_6_method_60_code
def yX4_carryAll : MethodName := ⟨RX4, "carryAll", "()V"⟩
abbrev cX4_image : ByteArray := prog_6_method_61_code
def yX4_image : MethodName := ⟨RX4, "image", "()I"⟩
abbrev cX4_restore : ByteArray := prog_6_method_62_code
def yX4_restore : MethodName := ⟨RX4, "restore", "()I"⟩
abbrev cX4_count : ByteArray := prog_6_method_63_code
def yX4_count : MethodName := ⟨RX4, "count", "(I)I"⟩
def RJ9 : String := "java/lang/Math"
def TJ9 : u_T := fun k => match k with
  | _ => ("", "", "", false)
def tyJ9 : Nat → FieldType := fun k => match k with
  | _ => .int
abbrev wsJ90 : List Cond := u_ws RJ9 TJ9 0
theorem nmJ9 : ∀ a, a < 0 → ∀ b, b < 0 → a ≠ b → (TJ9 a).2.1 ≠ (TJ9 b).2.1 := by decide +kernel
theorem tyJ9_ok : ∀ k, k < 0 → parseFieldDescriptor (TJ9 k).2.2.1 = some (tyJ9 k) := by decide +kernel
abbrev cJ9_max_7cf53 : ByteArray := prog_7_method_65_code
def yJ9_max_7cf53 : MethodName := ⟨RJ9, "max", "(II)I"⟩
abbrev cJ9_min_7cf53 : ByteArray := prog_7_method_69_code
def yJ9_min_7cf53 : MethodName := ⟨RJ9, "min", "(II)I"⟩
def RJ10 : String := "java/lang/System"
def TJ10 : u_T := fun k => match k with
  | _ => ("", "", "", false)
def tyJ10 : Nat → FieldType := fun k => match k with
  | _ => .int
abbrev wsJ100 : List Cond := u_ws RJ10 TJ10 0
theorem nmJ10 : ∀ a, a < 0 → ∀ b, b < 0 → a ≠ b → (TJ10 a).2.1 ≠ (TJ10 b).2.1 := by decide +kernel
theorem tyJ10_ok : ∀ k, k < 0 → parseFieldDescriptor (TJ10 k).2.2.1 = some (tyJ10 k) := by decide +kernel
def RJ7 : String := "java/util/Arrays"
def TJ7 : u_T := fun k => match k with
  | _ => ("", "", "", false)
def tyJ7 : Nat → FieldType := fun k => match k with
  | _ => .int
abbrev wsJ70 : List Cond := u_ws RJ7 TJ7 0
theorem nmJ7 : ∀ a, a < 0 → ∀ b, b < 0 → a ≠ b → (TJ7 a).2.1 ≠ (TJ7 b).2.1 := by decide +kernel
theorem tyJ7_ok : ∀ k, k < 0 → parseFieldDescriptor (TJ7 k).2.2.1 = some (tyJ7 k) := by decide +kernel
abbrev cJ7_fill_53178 : ByteArray := prog_9_method_103_code
def yJ7_fill_53178 : MethodName := ⟨RJ7, "fill", "([II)V"⟩
def RL : String := "YamIslandLaw"
abbrev cL_law : ByteArray := code
def yL_law : MethodName := ⟨RL, "law", "([I)Z"⟩
abbrev vwCl : List vw_C := [(RX0, TX0, 19), (RX1, TX1, 3), (RX2, TX2, 4), (RX3, TX3, 8), (RX4, TX4, 43)]
end
section
/-! THE LAYER: worlds by names (a name is a place in a list of cells), an evaluator of straight code over them, contracts over them -/
def zG : List Jvm.Cond := lw_tbl.filter goodWord
theorem zG_in {w : Jvm.Cond} (h : w ∈ zG) : w ∈ lw_tbl := (List.mem_filter.mp h).1
theorem zG_good {w : Jvm.Cond} (h : w ∈ zG) : (w.onTables && w.keeps) = true ∨ ∃ ty, w = .arrayClass ty := good_of_word (List.mem_filter.mp h).2
def zin (h : Nat) (w : Jvm.Cond) : Bool := decide (lw_tbl[h]? = some w) && goodWord w
theorem zin_mem {h : Nat} {w : Jvm.Cond} (e : zin h w = true) : w ∈ zG := by
  unfold zin at e
  rw [Bool.and_eq_true, decide_eq_true_eq] at e
  exact List.mem_filter.mpr ⟨List.mem_of_getElem? e.1, e.2⟩
-- cells by names
abbrev zE : Type := (Nat × Nat × (Nat → Int32)) ⊕ ((Nat × (Nat → Option Nat)) ⊕ (Nat × List Value))
abbrev zS : Type := List zE
abbrev zL : Type := List (Option Value)
abbrev zC : Type := ClassId × ClassId × ClassId
def zv (q : Nat → Nat) (v : Value) : Value := match v with
  | .ref n => .ref (q n)
  | v => v
def zc (C : zC) (q : Nat → Nat) (x : zE) : va_E := match x with
  | .inl (k, n, f) => .inl (if k = 0 then C.1 else C.2.1, n, .inl f)
  | .inr (.inl (n, f)) => .inl (C.2.2, n, .inr (.inr (.inr (.inr (fun j => (f j).map q)))))
  | .inr (.inr (ci, fs)) => .inr (ci, fs.map (zv q))
def zw (C : zC) (q : Nat → Nat) (ws : zS) : va_W := ws.mapIdx (fun i x => (q i, zc C q x))
abbrev ztys (C : zC) : List (ClassId × FieldType) := [(C.1, .int), (C.2.1, .boolean), (C.2.2, .object RX2)]
theorem zw_at (C : zC) (q : Nat → Nat) (ws : zS) (i : Nat) : (zw C q ws)[i]? = (ws[i]?).map (fun x => (q i, zc C q x)) := by
  simp [zw]
theorem zw_len (C : zC) (q : Nat → Nat) (ws : zS) : (zw C q ws).length = ws.length := by simp [zw]
theorem zw_of {C : zC} {q : Nat → Nat} {ws : zS} {i : Nat} {x : zE} (h : ws[i]? = some x) : (zw C q ws)[i]? = some (q i, zc C q x) := by
  rw [zw_at, h]; rfl
theorem zw_set (C : zC) (q : Nat → Nat) (ws : zS) (i : Nat) (x : zE) : zw C q (ws.set i x) = (zw C q ws).set i (q i, zc C q x) := by
  apply List.ext_getElem?
  intro j
  rw [zw_at, List.getElem?_set, List.getElem?_set, zw_len]
  by_cases h : i = j
  · subst h
    by_cases h2 : i < ws.length <;> simp [h2]
  · simp [h, zw_at]
theorem zw_push (C : zC) (q : Nat → Nat) (ws : zS) (x : zE) : zw C q (ws ++ [x]) = zw C q ws ++ [(q ws.length, zc C q x)] := by
  apply List.ext_getElem?
  intro j
  rw [zw_at, List.getElem?_append, List.getElem?_append, zw_len, zw_at]
  by_cases h : j < ws.length
  · simp [h]
  · simp only [h, if_false]
    by_cases h2 : j = ws.length
    · subst h2; simp
    · have : 1 ≤ j - ws.length := by omega
      rw [List.getElem?_eq_none (by simpa using this), List.getElem?_eq_none (by simpa using this)]; rfl
theorem zv_cat (q : Nat → Nat) (v : Value) : (zv q v).category = v.category := by cases v <;> rfl
-- locals
def zla (q : Nat → Nat) : Nat → zL → List (Nat × Value)
  | _, [] => []
  | i, none :: r => zla q (i + 1) r
  | i, some v :: r => (i, zv q v) :: zla q (i + 1) r
theorem zla_mem (q : Nat → Nat) : ∀ (lv : zL) (i : Nat) (x : Nat × Value), x ∈ zla q i lv ↔ ∃ (k : Nat) (v : Value), lv[k]? = some (some v) ∧ x = (i + k, zv q v)
  | [], i, x => by simp [zla]
  | none :: r, i, x => by
    rw [zla, zla_mem q r (i + 1) x]
    constructor
    · rintro ⟨k, v, h, e⟩
      exact ⟨k + 1, v, by simpa using h, by rw [e]; congr 1; omega⟩
    · rintro ⟨k, v, h, e⟩
      cases k with
      | zero => simp at h
      | succ k => exact ⟨k, v, by simpa using h, by rw [e]; congr 1; omega⟩
  | some w :: r, i, x => by
    rw [zla, List.mem_cons, zla_mem q r (i + 1) x]
    constructor
    · rintro (h | ⟨k, v, h, e⟩)
      · exact ⟨0, w, by simp, by rw [h]; rfl⟩
      · exact ⟨k + 1, v, by simpa using h, by rw [e]; congr 1; omega⟩
    · rintro ⟨k, v, h, e⟩
      cases k with
      | zero =>
        left
        simp at h
        rw [e, ← h]
        rfl
      | succ k => exact Or.inr ⟨k, v, by simpa using h, by rw [e]; congr 1; omega⟩
def zh (q : Nat → Nat) (ls : Array Slot) (nL : Nat) (lv : zL) : Prop := lv.length ≤ nL ∧ lv_has ls nL (zla q 0 lv)
theorem zh_at {q : Nat → Nat} {ls : Array Slot} {nL : Nat} {lv : zL} (h : zh q ls nL lv) {i : Nat} {v : Value} (hi : lv[i]? = some (some v)) : ls[i]? = some (.val (zv q v)) :=
  h.2.2.2 (i, zv q v) ((zla_mem q lv 0 _).mpr ⟨i, v, hi, by simp⟩)
def zok (lv : zL) (i : Nat) : Bool := Nat.blt i lv.length && (match i with
  | 0 => true
  | j + 1 => match lv[j]? with
    | some (some (.long _)) => false
    | some (some (.double _)) => false
    | _ => true)
theorem zok_lt {lv : zL} {i : Nat} (h : zok lv i = true) : i < lv.length := by
  unfold zok at h
  rw [Bool.and_eq_true] at h
  simpa using h.1
theorem zok_cat {lv : zL} {i : Nat} (h : zok lv (i + 1) = true) {v : Value} (hv : lv[i]? = some (some v)) : v.category = 1 := by
  unfold zok at h
  rw [Bool.and_eq_true] at h
  have h2 := h.2
  simp only [hv] at h2
  cases v <;> first | rfl | (simp at h2)
theorem zh_set {q : Nat → Nat} {ls ls' : Array Slot} {nL : Nat} {lv : zL} {i : Nat} {v : Value} (h : zh q ls nL lv) (hk : zok lv i = true)
    (h' : lv_has ls' nL ((i, zv q v) :: (zla q 0 lv).filter (fun q => !(q.1 == i) && !(q.1 + 1 == i && q.2.category == 2)))) : zh q ls' nL (lv.set i (some v)) := by
  refine ⟨by rw [List.length_set]; exact h.1, h'.1, h'.2.1, fun x hx => h'.2.2 x ?_⟩
  obtain ⟨k, w, hw, e⟩ := (zla_mem q _ 0 x).mp hx
  rw [Nat.zero_add] at e
  rw [List.getElem?_set] at hw
  by_cases hik : i = k
  · subst hik
    rw [if_pos rfl, if_pos (zok_lt hk)] at hw
    cases hw
    rw [e]
    exact List.mem_cons_self
  · rw [if_neg hik] at hw
    refine List.mem_cons_of_mem _ (List.mem_filter.mpr ⟨(zla_mem q lv 0 x).mpr ⟨k, w, hw, by rw [e, Nat.zero_add]⟩, ?_⟩)
    rw [e]
    have e1 : (k == i) = false := by simp; omega
    simp only [e1, Bool.not_false, Bool.true_and, Bool.not_eq_true', Bool.and_eq_false_iff]
    by_cases h2 : k + 1 = i
    · right
      subst h2
      rw [zv_cat, zok_cat hk hw]
      rfl
    · left
      simp; omega
end
section
/-! one instruction over a world by names: what must be shown before it, given what is to be shown behind it -/
def zt (pc : Nat) (off : Int) : Nat := ((pc : Int) + off).toNat
def zi (n : Int) : Int32 := match n with
  | .ofNat k => nI k
  | .negSucc k => -(nI (k + 1))
abbrev zP : Type := Nat → zS → zL → List Value → Prop
def zald (k : zP) (pc : Nat) (ws : zS) (lv : zL) (st : List Value) (n : Nat) : Prop := match lv[n]? with
  | some (some (.ref a)) => k pc ws lv (.ref a :: st)
  | some (some .null) => k pc ws lv (.null :: st)
  | _ => False
def zild (k : zP) (pc : Nat) (ws : zS) (lv : zL) (st : List Value) (n : Nat) : Prop := match lv[n]? with
  | some (some (.int a)) => k pc ws lv (.int a :: st)
  | _ => False
def zlld (k : zP) (pc : Nat) (ws : zS) (lv : zL) (st : List Value) (n : Nat) : Prop := match lv[n]? with
  | some (some (.long a)) => k pc ws lv (.long a :: st)
  | _ => False
def zist (k : zP) (pc : Nat) (ws : zS) (lv : zL) (st : List Value) (n : Nat) : Prop := match st with
  | .int x :: r => (match zok lv n with
    | true => k pc ws (lv.set n (some (.int x))) r
    | false => False)
  | _ => False
def zast (k : zP) (pc : Nat) (ws : zS) (lv : zL) (st : List Value) (n : Nat) : Prop := match st with
  | .ref x :: r => (match zok lv n with
    | true => k pc ws (lv.set n (some (.ref x))) r
    | false => False)
  | .null :: r => (match zok lv n with
    | true => k pc ws (lv.set n (some .null)) r
    | false => False)
  | _ => False
def zinc (k : zP) (pc : Nat) (ws : zS) (lv : zL) (st : List Value) (n : Nat) (d : Int) : Prop := match lv[n]? with
  | some (some (.int a)) => (match zok lv n with
    | true => k pc ws (lv.set n (some (.int (a + zi d)))) st
    | false => False)
  | _ => False
def zI1 (st : List Value) (f : Int32 → List Value → Prop) : Prop := match st with
  | .int x :: r => f x r
  | _ => False
def zI2 (st : List Value) (f : Int32 → Int32 → List Value → Prop) : Prop := match st with
  | .int y :: .int x :: r => f x y r
  | _ => False
def zJ1 (st : List Value) (f : Int64 → List Value → Prop) : Prop := match st with
  | .long x :: r => f x r
  | _ => False
def zJ2 (st : List Value) (f : Int64 → Int64 → List Value → Prop) : Prop := match st with
  | .long y :: .long x :: r => f x y r
  | _ => False
def zJI (st : List Value) (f : Int64 → Int32 → List Value → Prop) : Prop := match st with
  | .int y :: .long x :: r => f x y r
  | _ => False
def zc1 : Value → Bool
  | .long _ => false
  | .double _ => false
  | _ => true
def zgf (fl : Nat → Option (Nat × Nat × Nat)) (k : zP) (pc : Nat) (ws : zS) (lv : zL) (st : List Value) (idx : Nat) : Prop := match fl idx, st with
  | some (ci, j, _), .ref a :: r => (match ws[a]? with
    | some (.inr (.inr (c', fs))) => (match Nat.beq c' ci, fs[j]? with
      | true, some v => k (pc + 3) ws lv (v :: r)
      | _, _ => False)
    | _ => False)
  | _, _ => False
def zpf (fl : Nat → Option (Nat × Nat × Nat)) (k : zP) (pc : Nat) (ws : zS) (lv : zL) (st : List Value) (idx : Nat) : Prop := match fl idx, st with
  | some (ci, j, kd), .int x :: .ref a :: r => (match ws[a]? with
    | some (.inr (.inr (c', fs))) => (match Nat.beq c' ci, Nat.blt j fs.length, kd with
      | true, true, 0 => k (pc + 3) (ws.set a (.inr (.inr (ci, fs.set j (.int x))))) lv r
      | true, true, 1 => (x = 0 ∨ x = 1) ∧ k (pc + 3) (ws.set a (.inr (.inr (ci, fs.set j (.int x))))) lv r
      | _, _, _ => False)
    | _ => False)
  | _, _ => False
def zia (k : zP) (pc : Nat) (ws : zS) (lv : zL) (st : List Value) (kd : Nat) : Prop := match st with
  | .int i :: .ref a :: r => (match ws[a]? with
    | some (.inl (k', n, f)) => (match Nat.beq k' kd, Nat.blt n 2147483648 with
      | true, true => ∃ j : Nat, i = nI j ∧ j < n ∧ k (pc + 1) ws lv (.int (f j) :: r)
      | _, _ => False)
    | _ => False)
  | _ => False
def zis (k : zP) (pc : Nat) (ws : zS) (lv : zL) (st : List Value) (kd : Nat) : Prop := match st with
  | .int x :: .int i :: .ref a :: r => (match ws[a]? with
    | some (.inl (k', n, f)) => (match Nat.beq k' kd, Nat.blt n 2147483648 with
      | true, true => ∃ j : Nat, i = nI j ∧ j < n ∧ k (pc + 1) (ws.set a (.inl (kd, n, upd f j (match kd with
        | 0 => x
        | _ => vp_nar .boolean x)))) lv r
      | _, _ => False)
    | _ => False)
  | _ => False
def zal (k : zP) (pc : Nat) (ws : zS) (lv : zL) (st : List Value) : Prop := match st with
  | .ref a :: r => (match ws[a]? with
    | some (.inl (_, n, _)) => k (pc + 1) ws lv (.int (nI n) :: r)
    | some (.inr (.inl (n, _))) => k (pc + 1) ws lv (.int (nI n) :: r)
    | _ => False)
  | _ => False
def zb2 (a b : Prop) (kt kf : Prop) : Prop := (a → kt) ∧ (b → kf)
def zts (k : Nat → Prop) (pc : Nat) (x : Int32) : Int → List Int → Prop
  | _, [] => True
  | lo, o :: r => (x = zi lo → k (zt pc o)) ∧ zts k pc x (lo + 1) r
def zls (k : Nat → Prop) (pc : Nat) (x : Int32) : List (Int × Int) → Prop
  | [] => True
  | (a, o) :: r => (x = zi a → k (zt pc o)) ∧ zls k pc x r
def zln (x : Int32) : List (Int × Int) → Prop
  | [] => True
  | (a, _) :: r => ¬ x = zi a ∧ zln x r
def zstp (fl : Nat → Option (Nat × Nat × Nat)) (ki : Nat → Option Int32) (kj : Nat → Option Int64) (K : zP) (Kr : zS → Option Value → Prop) (k : zP) (i : Instr) (pc : Nat) (ws : zS) (lv : zL) (st : List Value) : Prop := match i with
  | .aconst_null => k (pc + 1) ws lv (.null :: st)
  | .aload n => zald k (pc + 2) ws lv st n
  | .aload_n n => zald k (pc + 1) ws lv st n.val
  | .iload n => zild k (pc + 2) ws lv st n
  | .iload_n n => zild k (pc + 1) ws lv st n.val
  | .lload n => zlld k (pc + 2) ws lv st n
  | .lload_n n => zlld k (pc + 1) ws lv st n.val
  | .istore n => zist k (pc + 2) ws lv st n
  | .istore_n n => zist k (pc + 1) ws lv st n.val
  | .astore n => zast k (pc + 2) ws lv st n
  | .astore_n n => zast k (pc + 1) ws lv st n.val
  | .iinc n d => zinc k (pc + 3) ws lv st n d
  | .iconst n => k (pc + 1) ws lv (.int (zi n) :: st)
  | .bipush n => k (pc + 2) ws lv (.int (zi n) :: st)
  | .sipush n => k (pc + 3) ws lv (.int (zi n) :: st)
  | .lconst n => k (pc + 1) ws lv (.long (lN n.val) :: st)
  | .ldc idx => (match ki idx with
    | some v => k (pc + 2) ws lv (.int v :: st)
    | none => False)
  | .ldc2_w idx => (match kj idx with
    | some v => k (pc + 3) ws lv (.long v :: st)
    | none => False)
  | .iadd => zI2 st fun x y r => k (pc + 1) ws lv (.int (x + y) :: r)
  | .isub => zI2 st fun x y r => k (pc + 1) ws lv (.int (x - y) :: r)
  | .imul => zI2 st fun x y r => k (pc + 1) ws lv (.int (x * y) :: r)
  | .iand => zI2 st fun x y r => k (pc + 1) ws lv (.int (x &&& y) :: r)
  | .ior => zI2 st fun x y r => k (pc + 1) ws lv (.int (x ||| y) :: r)
  | .ixor => zI2 st fun x y r => k (pc + 1) ws lv (.int (x ^^^ y) :: r)
  | .idiv => zI2 st fun x y r => ¬ y = 0 ∧ k (pc + 1) ws lv (.int (x / y) :: r)
  | .irem => zI2 st fun x y r => ¬ y = 0 ∧ k (pc + 1) ws lv (.int (x - x / y * y) :: r)
  | .ineg => zI1 st fun x r => k (pc + 1) ws lv (.int (-x) :: r)
  | .ishl => zI2 st fun x y r => k (pc + 1) ws lv (.int (x <<< (y &&& 31)) :: r)
  | .ishr => zI2 st fun x y r => k (pc + 1) ws lv (.int (x >>> (y &&& 31)) :: r)
  | .i2l => zI1 st fun x r => k (pc + 1) ws lv (.long x.toInt64 :: r)
  | .l2i => zJ1 st fun x r => k (pc + 1) ws lv (.int x.toInt32 :: r)
  | .i2c => zI1 st fun x r => k (pc + 1) ws lv (.int (x.toUInt32 % 65536).toInt32 :: r)
  | .land => zJ2 st fun x y r => k (pc + 1) ws lv (.long (x &&& y) :: r)
  | .lor => zJ2 st fun x y r => k (pc + 1) ws lv (.long (x ||| y) :: r)
  | .lcmp => zJ2 st fun x y r => k (pc + 1) ws lv (.int (lg_cmp x y) :: r)
  | .lshl => zJI st fun x y r => k (pc + 1) ws lv (.long (x <<< (y.toInt64 &&& 63)) :: r)
  | .lshr => zJI st fun x y r => k (pc + 1) ws lv (.long (x >>> (y.toInt64 &&& 63)) :: r)
  | .lushr => zJI st fun x y r => k (pc + 1) ws lv (.long (x.toUInt64 >>> (y.toInt64.toUInt64 &&& Int64.toUInt64 63)).toInt64 :: r)
  | .dup => (match st with
    | v :: r => (match zc1 v with
      | true => k (pc + 1) ws lv (v :: v :: r)
      | false => False)
    | _ => False)
  | .pop => (match st with
    | v :: r => (match zc1 v with
      | true => k (pc + 1) ws lv r
      | false => False)
    | _ => False)
  | .dup_x1 => (match st with
    | v :: w :: r => (match zc1 v, zc1 w with
      | true, true => k (pc + 1) ws lv (v :: w :: v :: r)
      | _, _ => False)
    | _ => False)
  | .dup2 => (match st with
    | v :: w :: r => (match zc1 v, zc1 w with
      | true, true => k (pc + 1) ws lv (v :: w :: v :: w :: r)
      | _, _ => False)
    | _ => False)
  | .goto o => k (zt pc o) ws lv st
  | .ifnull o => (match st with
    | .ref _ :: r => k (pc + 3) ws lv r
    | .null :: r => k (zt pc o) ws lv r
    | _ => False)
  | .ifnonnull o => (match st with
    | .ref _ :: r => k (zt pc o) ws lv r
    | .null :: r => k (pc + 3) ws lv r
    | _ => False)
  | .ifCond .eq o => zI1 st fun x r => (x = 0 → k (zt pc o) ws lv r) ∧ (¬ x = 0 → k (pc + 3) ws lv r)
  | .ifCond .ne o => zI1 st fun x r => (¬ x = 0 → k (zt pc o) ws lv r) ∧ (x = 0 → k (pc + 3) ws lv r)
  | .ifCond .lt o => zI1 st fun x r => (x < 0 → k (zt pc o) ws lv r) ∧ (¬ x < 0 → k (pc + 3) ws lv r)
  | .ifCond .ge o => zI1 st fun x r => (0 ≤ x → k (zt pc o) ws lv r) ∧ (¬ 0 ≤ x → k (pc + 3) ws lv r)
  | .ifCond .gt o => zI1 st fun x r => (0 < x → k (zt pc o) ws lv r) ∧ (¬ 0 < x → k (pc + 3) ws lv r)
  | .ifCond .le o => zI1 st fun x r => (x ≤ 0 → k (zt pc o) ws lv r) ∧ (¬ x ≤ 0 → k (pc + 3) ws lv r)
  | .if_icmp .eq o => zI2 st fun x y r => (x = y → k (zt pc o) ws lv r) ∧ (¬ x = y → k (pc + 3) ws lv r)
  | .if_icmp .ne o => zI2 st fun x y r => (¬ x = y → k (zt pc o) ws lv r) ∧ (x = y → k (pc + 3) ws lv r)
  | .if_icmp .lt o => zI2 st fun x y r => (x < y → k (zt pc o) ws lv r) ∧ (¬ x < y → k (pc + 3) ws lv r)
  | .if_icmp .ge o => zI2 st fun x y r => (y ≤ x → k (zt pc o) ws lv r) ∧ (¬ y ≤ x → k (pc + 3) ws lv r)
  | .if_icmp .gt o => zI2 st fun x y r => (y < x → k (zt pc o) ws lv r) ∧ (¬ y < x → k (pc + 3) ws lv r)
  | .if_icmp .le o => zI2 st fun x y r => (x ≤ y → k (zt pc o) ws lv r) ∧ (¬ x ≤ y → k (pc + 3) ws lv r)
  | .tableswitch d lo hi offs => zI1 st fun x r => zts (fun t => k t ws lv r) pc x lo offs.toList ∧ ((x.toInt < lo ∨ hi < x.toInt) → k (zt pc d) ws lv r)
  | .lookupswitch d ps => zI1 st fun x r => zls (fun t => k t ws lv r) pc x ps.toList ∧ (zln x ps.toList → k (zt pc d) ws lv r)
  | .getfield idx => zgf fl k pc ws lv st idx
  | .putfield idx => zpf fl k pc ws lv st idx
  | .iaload => zia k pc ws lv st 0
  | .iastore => zis k pc ws lv st 0
  | .baload => zia k pc ws lv st 1
  | .bastore => zis k pc ws lv st 1
  | .arraylength => zal k pc ws lv st
  | .ireturn => (match st with
    | [.int v] => Kr ws (some (.int v))
    | _ => False)
  | .areturn => (match st with
    | [.ref a] => Kr ws (some (.ref a))
    | [.null] => Kr ws (some .null)
    | _ => False)
  | .return_ => (match st with
    | [] => Kr ws none
    | _ => False)
  | _ => K pc ws lv st
def zfd : List (Nat × Instr) → Nat → Option Instr
  | [], _ => none
  | (p, i) :: r, pc => match Nat.beq p pc with
    | true => some i
    | false => zfd r pc
def zme (pc : Nat) : List Nat → Bool
  | [] => false
  | p :: r => match Nat.beq p pc with
    | true => true
    | false => zme pc r
def zgo (tab : List (Nat × Instr)) (fl : Nat → Option (Nat × Nat × Nat)) (ki : Nat → Option Int32) (kj : Nat → Option Int64) (stops : List Nat) (K : zP) (Kr : zS → Option Value → Prop) : Nat → zP
  | 0, pc, ws, lv, st => K pc ws lv st
  | n + 1, pc, ws, lv, st => match zfd tab pc with
    | some i => zstp fl ki kj K Kr (fun pc ws lv st => match zme pc stops with
      | true => K pc ws lv st
      | false => zgo tab fl ki kj stops K Kr n pc ws lv st) i pc ws lv st
    | none => False
/-! what a table of a method's code must keep -/
def zlen : Instr → Nat
  | .aload _ => 2 | .iload _ => 2 | .lload _ => 2 | .istore _ => 2 | .astore _ => 2 | .iinc _ _ => 3 | .bipush _ => 2 | .sipush _ => 3 | .ldc _ => 2 | .ldc2_w _ => 3
  | .goto _ => 3 | .ifnull _ => 3 | .ifnonnull _ => 3 | .ifCond _ _ => 3 | .if_icmp _ _ => 3 | .getfield _ => 3 | .putfield _ => 3
  | .invokevirtual _ => 3 | .invokespecial _ => 3 | .invokestatic _ => 3 | .new _ => 3 | .anewarray _ => 3 | .newarray _ => 2
  | _ => 1
def ztok (pc : Nat) (o : Int) : Bool := decide ((pc : Int) + o = (zt pc o : Int))
def zokI (pc : Nat) : Instr → Bool
  | .iconst n => decide (Int32.ofInt n = zi n)
  | .bipush n => decide ((Int8.ofInt n).toInt32 = zi n)
  | .sipush n => decide ((Int16.ofInt n).toInt32 = zi n)
  | .iinc _ n => decide (Int32.ofInt n = zi n)
  | .goto o => ztok pc o | .ifnull o => ztok pc o | .ifnonnull o => ztok pc o | .ifCond _ o => ztok pc o | .if_icmp _ o => ztok pc o
  | .tableswitch d lo hi offs => ztok pc d && decide (hi + 1 = lo + offs.toList.length) && offs.toList.all (ztok pc) && (List.range offs.toList.length).all (fun j => decide ((zi (lo + j)).toInt = lo + j))
  | .lookupswitch d ps => ztok pc d && ps.toList.all (fun e => ztok pc e.2 && decide ((zi e.1).toInt = e.1)) && (ps.toList.zip (ps.toList.drop 1)).all (fun (a, next) => a.1 < next.1)
  | _ => true
def zisw : Instr → Bool
  | .tableswitch _ _ _ _ => true
  | .lookupswitch _ _ => true
  | _ => false
def zokE (cc : ByteArray) (e : Nat × Instr) : Bool := (match decode cc e.1 with
  | .ok (i, l) => decide (i = e.2) && (zisw i || Nat.beq l (zlen i))
  | .error _ => false) && zokI e.1 e.2
def zokC (cc : ByteArray) (tab : List (Nat × Instr)) : Bool := tab.all (zokE cc)
theorem zfd_mem : ∀ {tab : List (Nat × Instr)} {pc : Nat} {i : Instr}, zfd tab pc = some i → (pc, i) ∈ tab
  | [], pc, i, h => by simp [zfd] at h
  | (p, j) :: r, pc, i, h => by
    unfold zfd at h
    by_cases hp : Nat.beq p pc = true
    · rw [hp] at h
      cases h
      rw [Nat.eq_of_beq_eq_true hp]
      exact List.mem_cons_self
    · rw [Bool.not_eq_true] at hp
      rw [hp] at h
      exact List.mem_cons_of_mem _ (zfd_mem h)
theorem zokC_at {cc : ByteArray} {tab : List (Nat × Instr)} (h : zokC cc tab = true) {pc : Nat} {i : Instr} (hf : zfd tab pc = some i) : (∃ l, decode cc pc = .ok (i, l) ∧ (zisw i = true ∨ l = zlen i)) ∧ zokI pc i = true := by
  have h1 := List.all_eq_true.mp h _ (zfd_mem hf)
  unfold zokE at h1
  rw [Bool.and_eq_true] at h1
  refine ⟨?_, h1.2⟩
  have h2 := h1.1
  revert h2
  generalize hd : decode cc pc = d
  intro h2
  match d, h2 with
  | .ok (j, l), h2 =>
    rw [Bool.and_eq_true, decide_eq_true_eq, Bool.or_eq_true] at h2
    obtain ⟨e, h3⟩ := h2
    have e : j = i := e
    subst e
    exact ⟨l, rfl, h3.imp id (fun h => Nat.eq_of_beq_eq_true h)⟩
  | .error _, h2 => exact absurd h2 (by simp)
end
section
/-! the machine stands at a place with a world by names; a step of the evaluator is a step of the machine -/
def zFx (p : Program) (s : State) (m : MethodId) (args : Array Value) (meth : Method) (c : Code) (cc : ByteArray) (nL : Nat) (ret : Option FieldType) (own : String) (D : va_G) (C : zC) : Prop :=
  p.tables.exec = Jvm.exec ∧ c.code = cc ∧ c.maxLocals = nL ∧ meth.sig.returnType = ret ∧ s.vm.findClass own = some m.cls ∧ (∀ w ∈ zG, w.before args s = true) ∧ va_K D vwCl (ztys C) s ∧ meth.locks = false
def zAt (p : Program) (l : Launch) (e : Env) (R : Room) (s : State) (m : MethodId) (args : Array Value) (below : List Frame) (meth : Method) (c : Code) (D : va_G) (C : zC) (A : Nat → Prop) (nL : Nat) (Q : State → Prop) (kc ks : Nat) (q : Nat → Nat) : zP := fun pc ws lv st =>
  ∀ (H : Heap) (locs : List Loc) (ls : Array Slot), va_P D vwCl (zw C q ws) H → va_D A (zw C q ws) → va_S A s.heap H locs → zh q ls nL lv → W p l e R s m args below meth c H locs kc ks Q (F0 m pc ls (st.map (zv q)))
def zFl (own : String) (fl : Nat → Option (Nat × Nat × Nat)) : Prop := ∀ idx ci j kd, fl idx = some (ci, j, kd) → ∃ r : vw_C, vwCl[ci]? = some r ∧ j < r.2.2 ∧ Jvm.Cond.fieldLink own idx (r.2.1 j).1 (r.2.1 j).2.1 (r.2.1 j).2.2.1 ∈ zG ∧ (kd = 0 → (r.2.1 j).2.2.2 = false ∧ (r.2.1 j).2.2.1 = "I") ∧ (kd = 1 → (r.2.1 j).2.2.2 = false ∧ (r.2.1 j).2.2.1 = "Z")
def zTb (own : String) (fl : Nat → Option (Nat × Nat × Nat)) (ki : Nat → Option Int32) (kj : Nat → Option Int64) : Prop :=
  zFl own fl ∧ (∀ idx v, ki idx = some v → Jvm.Cond.constant own idx v ∈ zG) ∧ (∀ idx v, kj idx = some v → Jvm.Cond.constantLong own idx v ∈ zG)
def zRt (ret : Option FieldType) (rv : Option Value) : Prop := match rv with
  | none => ret = none
  | some (.int v) => ∃ ty, ret = some ty ∧ narrow ty (.int v) = .int v
  | some (.ref _) => ∃ n, ret = some (.object n)
  | some .null => ∃ n, ret = some (.object n)
  | _ => False
/-- each class's layout words are among the good words, and its table of types fits -/
def zCls : Prop := ∀ (ci : Nat) (r : vw_C), vwCl[ci]? = some r → (∀ w ∈ u_ws r.1 r.2.1 r.2.2, w ∈ zG) ∧ ∃ ty0 : Nat → FieldType, (∀ k, k < r.2.2 → parseFieldDescriptor (r.2.1 k).2.2.1 = some (ty0 k)) ∧ (∀ a, a < r.2.2 → ∀ b, b < r.2.2 → a ≠ b → (r.2.1 a).2.1 ≠ (r.2.1 b).2.1)
theorem zI1_inv {st : List Value} {f : Int32 → List Value → Prop} (h : zI1 st f) : ∃ x r, st = .int x :: r ∧ f x r := by
  unfold zI1 at h
  split at h
  · exact ⟨_, _, rfl, h⟩
  · exact h.elim
theorem zI2_inv {st : List Value} {f : Int32 → Int32 → List Value → Prop} (h : zI2 st f) : ∃ x y r, st = .int y :: .int x :: r ∧ f x y r := by
  unfold zI2 at h
  split at h
  · exact ⟨_, _, _, rfl, h⟩
  · exact h.elim
theorem zJ1_inv {st : List Value} {f : Int64 → List Value → Prop} (h : zJ1 st f) : ∃ x r, st = .long x :: r ∧ f x r := by
  unfold zJ1 at h
  split at h
  · exact ⟨_, _, rfl, h⟩
  · exact h.elim
theorem zJ2_inv {st : List Value} {f : Int64 → Int64 → List Value → Prop} (h : zJ2 st f) : ∃ x y r, st = .long y :: .long x :: r ∧ f x y r := by
  unfold zJ2 at h
  split at h
  · exact ⟨_, _, _, rfl, h⟩
  · exact h.elim
theorem zJI_inv {st : List Value} {f : Int64 → Int32 → List Value → Prop} (h : zJI st f) : ∃ x y r, st = .int y :: .long x :: r ∧ f x y r := by
  unfold zJI at h
  split at h
  · exact ⟨_, _, _, rfl, h⟩
  · exact h.elim
theorem zc1_cat {q : Nat → Nat} {v : Value} (h : zc1 v = true) : (zv q v).category = 1 := by
  cases v <;> first | rfl | (simp [zc1] at h)
theorem ztok_eq {pc : Nat} {o : Int} (h : ztok pc o = true) : (pc : Int) + o = (zt pc o : Int) := of_decide_eq_true h
theorem zts_inv {k : Nat → Prop} {pc : Nat} {x : Int32} : ∀ (os : List Int) (lo : Int), zts k pc x lo os → (∀ j : Nat, j < os.length → (zi (lo + j)).toInt = lo + j) → ∀ (j : Nat) (o : Int), os[j]? = some o → x.toInt = lo + j → k (zt pc o)
  | [], lo, _, _, j, o, ho, _ => by simp at ho
  | a :: r, lo, h, hz, j, o, ho, hx => by
    cases j with
    | zero =>
      simp at ho
      subst ho
      refine h.1 ?_
      have h1 := hz 0 (by simp)
      apply Int32.toInt_inj.mp
      rw [hx]
      simp at h1 ⊢
      exact h1.symm
    | succ j =>
      refine zts_inv r (lo + 1) h.2 (fun i hi => ?_) j o (by simpa using ho) (by rw [hx]; push_cast; omega)
      have h1 := hz (i + 1) (by simp; omega)
      have e : lo + 1 + (i : Int) = lo + ((i + 1 : Nat) : Int) := by push_cast; omega
      rw [e]
      exact h1
theorem zls_inv {k : Nat → Prop} {pc : Nat} {x : Int32} (d : Int) : ∀ (ps : List (Int × Int)), zls k pc x ps → (zln x ps → k (zt pc d)) → (∀ e ∈ ps, (zi e.1).toInt = e.1) → k (zt pc (lookupswitch.offset ps d x.toInt))
  | [], _, h2, _ => h2 trivial
  | (a, o) :: r, h, h2, hz => by
    rw [lookupswitch.offset_cons]
    by_cases ha : a = x.toInt
    · rw [if_pos ha]
      refine h.1 (Int32.toInt_inj.mp ?_)
      rw [hz (a, o) List.mem_cons_self, ha]
    · rw [if_neg ha]
      refine zls_inv d r h.2 (fun hn => h2 ⟨fun e => ha ?_, hn⟩) (fun e he => hz e (List.mem_cons_of_mem _ he))
      rw [e, hz (a, o) List.mem_cons_self]
section ZA
variable {p : Program} {l : Launch} {e : Env} {R : Room} {s : State} {m : MethodId} {args : Array Value} {below : List Frame} {meth : Method} {c : Code}
variable {cc : ByteArray} {nL : Nat} {ret : Option FieldType} {own : String} {D : va_G} {C : zC} {A : Nat → Prop} {Q : State → Prop} {kc ks : Nat} {q : Nat → Nat}
theorem zAt_ald (F : zFx p s m args meth c cc nL ret own D C) {pc n pc' : Nat} {ws : zS} {lv : zL} {st : List Value} (hd : decode cc pc = .ok (.aload n, 2) ∧ pc' = pc + 2 ∨ ∃ k : Fin 4, decode cc pc = .ok (.aload_n k, 1) ∧ pc' = pc + 1 ∧ (k : Nat) = n)
    (h : zald (zAt p l e R s m args below meth c D C A nL Q kc ks q) pc' ws lv st n) : zAt p l e R s m args below meth c D C A nL Q kc ks q pc ws lv st := by
  obtain ⟨hx, hb, -⟩ := F
  intro H locs ls hP hD hS hl
  unfold zald at h
  split at h
  · rename_i a ha
    rcases hd with ⟨hd, rfl⟩ | ⟨k, hd, rfl, hk⟩
    · exact lv_aload hx hb hd (zh_at hl ha) (h H locs ls hP hD hS hl)
    · exact lv_aload_n hx hb hd hk (zh_at hl ha) (h H locs ls hP hD hS hl)
  · rename_i ha
    rcases hd with ⟨hd, rfl⟩ | ⟨k, hd, rfl, hk⟩
    · exact lv_aloadN hx hb hd (zh_at hl ha) (h H locs ls hP hD hS hl)
    · exact lv_aload_nN hx hb hd hk (zh_at hl ha) (h H locs ls hP hD hS hl)
  · exact h.elim
theorem zAt_ild (F : zFx p s m args meth c cc nL ret own D C) {pc n pc' : Nat} {ws : zS} {lv : zL} {st : List Value} (hd : decode cc pc = .ok (.iload n, 2) ∧ pc' = pc + 2 ∨ ∃ k : Fin 4, decode cc pc = .ok (.iload_n k, 1) ∧ pc' = pc + 1 ∧ (k : Nat) = n)
    (h : zild (zAt p l e R s m args below meth c D C A nL Q kc ks q) pc' ws lv st n) : zAt p l e R s m args below meth c D C A nL Q kc ks q pc ws lv st := by
  obtain ⟨hx, hb, -⟩ := F
  intro H locs ls hP hD hS hl
  unfold zild at h
  split at h
  · rename_i a ha
    rcases hd with ⟨hd, rfl⟩ | ⟨k, hd, rfl, hk⟩
    · exact lv_iload hx hb hd (zh_at hl ha) (h H locs ls hP hD hS hl)
    · exact lv_iload_n hx hb hd hk (zh_at hl ha) (h H locs ls hP hD hS hl)
  · exact h.elim
theorem zAt_lld (F : zFx p s m args meth c cc nL ret own D C) {pc n pc' : Nat} {ws : zS} {lv : zL} {st : List Value} (hd : decode cc pc = .ok (.lload n, 2) ∧ pc' = pc + 2 ∨ ∃ k : Fin 4, decode cc pc = .ok (.lload_n k, 1) ∧ pc' = pc + 1 ∧ (k : Nat) = n)
    (h : zlld (zAt p l e R s m args below meth c D C A nL Q kc ks q) pc' ws lv st n) : zAt p l e R s m args below meth c D C A nL Q kc ks q pc ws lv st := by
  obtain ⟨hx, hb, -⟩ := F
  intro H locs ls hP hD hS hl
  unfold zlld at h
  split at h
  · rename_i a ha
    rcases hd with ⟨hd, rfl⟩ | ⟨k, hd, rfl, hk⟩
    · exact lv_lload hx hb hd (zh_at hl ha) (h H locs ls hP hD hS hl)
    · exact lv_lload_n hx hb hd hk (zh_at hl ha) (h H locs ls hP hD hS hl)
  · exact h.elim
theorem zAt_ist (F : zFx p s m args meth c cc nL ret own D C) {pc n pc' : Nat} {ws : zS} {lv : zL} {st : List Value} (hd : decode cc pc = .ok (.istore n, 2) ∧ pc' = pc + 2 ∨ ∃ k : Fin 4, decode cc pc = .ok (.istore_n k, 1) ∧ pc' = pc + 1 ∧ (k : Nat) = n)
    (h : zist (zAt p l e R s m args below meth c D C A nL Q kc ks q) pc' ws lv st n) : zAt p l e R s m args below meth c D C A nL Q kc ks q pc ws lv st := by
  obtain ⟨hx, hb, -⟩ := F
  intro H locs ls hP hD hS hl
  unfold zist at h
  split at h
  · rename_i x r
    split at h
    · rename_i hk0
      rcases hd with ⟨hd, rfl⟩ | ⟨k, hd, rfl, hk⟩
      · exact lv_istore hx hb hd hl.2 (Nat.lt_of_lt_of_le (zok_lt hk0) hl.1) rfl (fun ls' h' => h H locs ls' hP hD hS (zh_set (v := .int x) hl hk0 h'))
      · exact lv_istore_n hx hb hd hk hl.2 (Nat.lt_of_lt_of_le (zok_lt hk0) hl.1) rfl (fun ls' h' => h H locs ls' hP hD hS (zh_set (v := .int x) hl hk0 h'))
    · exact h.elim
  · exact h.elim
theorem zAt_ast (F : zFx p s m args meth c cc nL ret own D C) {pc n pc' : Nat} {ws : zS} {lv : zL} {st : List Value} (hd : decode cc pc = .ok (.astore n, 2) ∧ pc' = pc + 2 ∨ ∃ k : Fin 4, decode cc pc = .ok (.astore_n k, 1) ∧ pc' = pc + 1 ∧ (k : Nat) = n)
    (h : zast (zAt p l e R s m args below meth c D C A nL Q kc ks q) pc' ws lv st n) : zAt p l e R s m args below meth c D C A nL Q kc ks q pc ws lv st := by
  obtain ⟨hx, hb, -⟩ := F
  intro H locs ls hP hD hS hl
  unfold zast at h
  split at h
  · rename_i x r
    split at h
    · rename_i hk0
      rcases hd with ⟨hd, rfl⟩ | ⟨k, hd, rfl, hk⟩
      · exact lv_astore hx hb hd hl.2 (Nat.lt_of_lt_of_le (zok_lt hk0) hl.1) rfl (fun ls' h' => h H locs ls' hP hD hS (zh_set (v := .ref x) hl hk0 h'))
      · exact lv_astore_n hx hb hd hk hl.2 (Nat.lt_of_lt_of_le (zok_lt hk0) hl.1) rfl (fun ls' h' => h H locs ls' hP hD hS (zh_set (v := .ref x) hl hk0 h'))
    · exact h.elim
  · split at h
    · rename_i r hk0
      rcases hd with ⟨hd, rfl⟩ | ⟨k, hd, rfl, hk⟩
      · exact lv_astoreN hx hb hd hl.2 (Nat.lt_of_lt_of_le (zok_lt hk0) hl.1) rfl (fun ls' h' => h H locs ls' hP hD hS (zh_set (v := .null) hl hk0 h'))
      · exact lv_astore_nN hx hb hd hk hl.2 (Nat.lt_of_lt_of_le (zok_lt hk0) hl.1) rfl (fun ls' h' => h H locs ls' hP hD hS (zh_set (v := .null) hl hk0 h'))
    · exact h.elim
  · exact h.elim
theorem zAt_inc (F : zFx p s m args meth c cc nL ret own D C) {pc n : Nat} {d : Int} {ws : zS} {lv : zL} {st : List Value} (hd : decode cc pc = .ok (.iinc n d, 3)) (hz : Int32.ofInt d = zi d)
    (h : zinc (zAt p l e R s m args below meth c D C A nL Q kc ks q) (pc + 3) ws lv st n d) : zAt p l e R s m args below meth c D C A nL Q kc ks q pc ws lv st := by
  obtain ⟨hx, hb, -⟩ := F
  intro H locs ls hP hD hS hl
  unfold zinc at h
  split at h
  · rename_i a ha
    split at h
    · rename_i hk0
      have hm : (n, Value.int a) ∈ zla q 0 lv := (zla_mem q lv 0 _).mpr ⟨n, .int a, ha, by rw [Nat.zero_add]; rfl⟩
      obtain ⟨k, hk⟩ := List.mem_iff_getElem?.mp hm
      exact lv_iinc (v := a + zi d) hx hb hd hl.2 hk (by rw [hz]) (Nat.lt_of_lt_of_le (zok_lt hk0) hl.1) rfl (fun ls' h' => h H locs ls' hP hD hS (zh_set (v := .int (a + zi d)) hl hk0 h'))
    · exact h.elim
  · exact h.elim
theorem zAt_gf (F : zFx p s m args meth c cc nL ret own D C) (hC : zCls) {fl : Nat → Option (Nat × Nat × Nat)} (hF : zFl own fl) {pc idx : Nat} {ws : zS} {lv : zL} {st : List Value} (hd : decode cc pc = .ok (.getfield idx, 3))
    (h : zgf fl (zAt p l e R s m args below meth c D C A nL Q kc ks q) pc ws lv st idx) : zAt p l e R s m args below meth c D C A nL Q kc ks q pc ws lv st := by
  obtain ⟨hx, hb, -, -, ho, hts, hK, -⟩ := F
  intro H locs ls hP hD hS hl
  unfold zgf at h
  split at h
  · rename_i ci j kd a r hfl
    split at h
    · rename_i c' fs hw
      split at h
      · rename_i v hcc hv
        have hcc := Nat.eq_of_beq_eq_true hcc
        subst hcc
        obtain ⟨⟨Cn, T, N⟩, hr, hj, hlk, -⟩ := hF idx _ j kd hfl
        exact va_get (D := D) hx hb hts (hC _ _ hr).1 ho hK hP a (zw_of hw) hr j hj (hts _ hlk) (fun _ h9 => h9) (by rw [List.getElem?_map, hv]; rfl) hd (h H locs ls hP hD hS hl)
      · exact h.elim
    · exact h.elim
  · exact h.elim
theorem zAt_pf (F : zFx p s m args meth c cc nL ret own D C) (hC : zCls) {fl : Nat → Option (Nat × Nat × Nat)} (hF : zFl own fl) {pc idx : Nat} {ws : zS} {lv : zL} {st : List Value} (hd : decode cc pc = .ok (.putfield idx, 3))
    (h : zpf fl (zAt p l e R s m args below meth c D C A nL Q kc ks q) pc ws lv st idx) : zAt p l e R s m args below meth c D C A nL Q kc ks q pc ws lv st := by
  obtain ⟨hx, hb, -, -, ho, hts, hK, -⟩ := F
  intro H locs ls hP hD hS hl
  unfold zpf at h
  split at h
  · rename_i ci j kd x a r hfl
    split at h
    · rename_i c' fs hw
      split at h
      · rename_i hcc hlt
        have hcc := Nat.eq_of_beq_eq_true hcc
        subst hcc
        obtain ⟨⟨Cn, T, N⟩, hr, hj, hlk, h0, -⟩ := hF idx _ j _ hfl
        obtain ⟨h1, ty0, h2, h3⟩ := hC _ _ hr
        have hlt : j < fs.length := by simpa using hlt
        refine va_put (D := D) (ty := .int) (v := .int x) hx hb hts h1 ty0 h2 h3 ho hK hP hD hS a (zw_of hw) hr j hj (hts _ hlk) (fun _ h9 => h9) (h0 rfl).1 (by rw [(h0 rfl).2]; decide +kernel) rfl rfl (by rw [List.length_map]; exact hlt) hd (fun H1 locs1 hP hD hS => ?_)
        have e1 : (zw C q ws).set a (q a, Sum.inr (c', (fs.map (zv q)).set j (.int x))) = zw C q (ws.set a (.inr (.inr (c', fs.set j (.int x))))) := by
          rw [zw_set]
          show _ = (zw C q ws).set a (q a, Sum.inr (c', (fs.set j (.int x)).map (zv q)))
          rw [List.map_set]
          rfl
        rw [e1] at hP hD
        exact h H1 locs1 ls hP hD hS hl
      · rename_i hcc hlt
        have hcc := Nat.eq_of_beq_eq_true hcc
        subst hcc
        obtain ⟨⟨Cn, T, N⟩, hr, hj, hlk, -, h0⟩ := hF idx _ j _ hfl
        obtain ⟨h1, ty0, h2, h3⟩ := hC _ _ hr
        have hlt : j < fs.length := by simpa using hlt
        obtain ⟨hx01, h⟩ := h
        refine va_put (D := D) (ty := .boolean) (v := .int x) hx hb hts h1 ty0 h2 h3 ho hK hP hD hS a (zw_of hw) hr j hj (hts _ hlk) (fun _ h9 => h9) (h0 rfl).1 (by rw [(h0 rfl).2]; decide +kernel) (by rcases hx01 with rfl | rfl <;> decide +kernel) (by rcases hx01 with rfl | rfl <;> decide +kernel) (by rw [List.length_map]; exact hlt) hd (fun H1 locs1 hP hD hS => ?_)
        have e1 : (zw C q ws).set a (q a, Sum.inr (c', (fs.map (zv q)).set j (.int x))) = zw C q (ws.set a (.inr (.inr (c', fs.set j (.int x))))) := by
          rw [zw_set]
          show _ = (zw C q ws).set a (q a, Sum.inr (c', (fs.set j (.int x)).map (zv q)))
          rw [List.map_set]
          rfl
        rw [e1] at hP hD
        exact h H1 locs1 ls hP hD hS hl
      · exact h.elim
    · exact h.elim
  · exact h.elim
theorem zAt_ia (F : zFx p s m args meth c cc nL ret own D C) {pc kd : Nat} {ws : zS} {lv : zL} {st : List Value} (hd : kd = 0 ∧ decode cc pc = .ok (.iaload, 1) ∨ kd = 1 ∧ decode cc pc = .ok (.baload, 1))
    (h : zia (zAt p l e R s m args below meth c D C A nL Q kc ks q) pc ws lv st kd) : zAt p l e R s m args below meth c D C A nL Q kc ks q pc ws lv st := by
  obtain ⟨hx, hb, -, -, ho, hts, hK, -⟩ := F
  intro H locs ls hP hD hS hl
  unfold zia at h
  split at h
  · rename_i i a r
    split at h
    · rename_i k' n f hw
      split at h
      · rename_i hkk hnn
        have hkk := Nat.eq_of_beq_eq_true hkk
        subst hkk
        obtain ⟨j, rfl, hj, h⟩ := h
        have hn : n < 2 ^ 31 := by simpa using hnn
        have hcl : (nI j).toNatClampNeg = j := nI_clamp (by omega)
        rcases hd with ⟨rfl, hd⟩ | ⟨rfl, hd⟩
        · refine va_iald hx hb hK hP a 0 (zw_of hw) rfl (vp_in_nI hj hn) hd ?_
          rw [hcl]
          exact h H locs ls hP hD hS hl
        · refine va_zald hx hb hK hP a 1 (zw_of hw) rfl (vp_in_nI hj hn) hd ?_
          rw [hcl]
          exact h H locs ls hP hD hS hl
      · exact h.elim
    · exact h.elim
  · exact h.elim
theorem zAt_is (F : zFx p s m args meth c cc nL ret own D C) {pc kd : Nat} {ws : zS} {lv : zL} {st : List Value} (hd : kd = 0 ∧ decode cc pc = .ok (.iastore, 1) ∨ kd = 1 ∧ decode cc pc = .ok (.bastore, 1))
    (h : zis (zAt p l e R s m args below meth c D C A nL Q kc ks q) pc ws lv st kd) : zAt p l e R s m args below meth c D C A nL Q kc ks q pc ws lv st := by
  obtain ⟨hx, hb, -, -, ho, hts, hK, -⟩ := F
  intro H locs ls hP hD hS hl
  unfold zis at h
  split at h
  · rename_i x i a r
    split at h
    · rename_i k' n f hw
      split at h
      · rename_i hkk hnn
        have hkk := Nat.eq_of_beq_eq_true hkk
        subst hkk
        obtain ⟨j, rfl, hj, h⟩ := h
        have hn : n < 2 ^ 31 := by simpa using hnn
        have hcl : (nI j).toNatClampNeg = j := nI_clamp (by omega)
        rcases hd with ⟨rfl, hd⟩ | ⟨rfl, hd⟩
        · refine va_iast hx hb hK hP hD hS a 0 (zw_of hw) rfl (vp_in_nI hj hn) hd (fun H1 locs1 hP hD hS => ?_)
          rw [hcl] at hP hD
          have e1 : (zw C q ws).set a (q a, Sum.inl (C.1, n, Sum.inl (upd f j x))) = zw C q (ws.set a (.inl (0, n, upd f j x))) := by
            rw [zw_set]; rfl
          exact h H1 locs1 ls (e1 ▸ hP) (e1 ▸ hD) hS hl
        · refine va_zast hx hb hK hP hD hS a 1 (zw_of hw) rfl (vp_in_nI hj hn) hd (fun H1 locs1 hP hD hS => ?_)
          rw [hcl] at hP hD
          have e1 : (zw C q ws).set a (q a, Sum.inl (C.2.1, n, Sum.inl (upd f j (vp_nar .boolean x)))) = zw C q (ws.set a (.inl (1, n, upd f j (vp_nar .boolean x)))) := by
            rw [zw_set]; rfl
          exact h H1 locs1 ls (e1 ▸ hP) (e1 ▸ hD) hS hl
      · exact h.elim
    · exact h.elim
  · exact h.elim
theorem zAt_al (F : zFx p s m args meth c cc nL ret own D C) {pc : Nat} {ws : zS} {lv : zL} {st : List Value} (hd : decode cc pc = .ok (.arraylength, 1))
    (h : zal (zAt p l e R s m args below meth c D C A nL Q kc ks q) pc ws lv st) : zAt p l e R s m args below meth c D C A nL Q kc ks q pc ws lv st := by
  obtain ⟨hx, hb, -, -, ho, hts, hK, -⟩ := F
  intro H locs ls hP hD hS hl
  unfold zal at h
  split at h
  · rename_i a r
    split at h
    · rename_i k' n f hw
      by_cases hk : k' = 0
      · exact va_alen (v := nI n) (x := (n, .inl f)) hx hb hK hP a 0 (cA := C.1) (by rw [zw_of hw]; simp [zc, hk]) (rfl : (ztys C)[0]? = _) rfl hd (h H locs ls hP hD hS hl)
      · exact va_alen (v := nI n) (x := (n, .inl f)) hx hb hK hP a 1 (cA := C.2.1) (by rw [zw_of hw]; simp [zc, hk]) (rfl : (ztys C)[1]? = _) rfl hd (h H locs ls hP hD hS hl)
    · rename_i n f hw
      exact va_alen (v := nI n) (x := (n, .inr (.inr (.inr (.inr (fun j => (f j).map q)))))) hx hb hK hP a 2 (cA := C.2.2) (zw_of hw) (rfl : (ztys C)[2]? = _) rfl hd (h H locs ls hP hD hS hl)
    · exact h.elim
  · exact h.elim
end ZA
section ZB
variable {p : Program} {l : Launch} {e : Env} {R : Room} {s : State} {m : MethodId} {args : Array Value} {below : List Frame} {meth : Method} {c : Code}
variable {cc : ByteArray} {nL : Nat} {ret : Option FieldType} {own : String} {D : va_G} {C : zC} {A : Nat → Prop} {kc ks mc ms : Nat} {q : Nat → Nat} {Qc : Array Value → State → Outcome → State → Prop}
/-- what is to be shown where a method returns -/
def zRe (s : State) (args : Array Value) (D : va_G) (C : zC) (A : Nat → Prop) (q : Nat → Nat) (ret : Option FieldType) (Qc : Array Value → State → Outcome → State → Prop) (ws : zS) (rv : Option Value) : Prop :=
  zRt ret rv ∧ ∀ (H : Heap) (locs : List Loc) (t : State), va_P D vwCl (zw C q ws) H → va_D A (zw C q ws) → va_S A s.heap H locs → t.heap = H → s.WarmedH t.vm → Qc args s (.returned (rv.map (zv q))) t
set_option maxHeartbeats 4000000 in
theorem zstp_sound (F : zFx p s m args meth c cc nL ret own D C) (hC : zCls) {fl : Nat → Option (Nat × Nat × Nat)} {ki : Nat → Option Int32} {kj : Nat → Option Int64} (hT : zTb own fl ki kj) {K k : zP} {Kr : zS → Option Value → Prop}
    (hkc : kc ≤ mc) (hks : ks ≤ ms)
    (hK : ∀ pc ws lv st, K pc ws lv st → zAt p l e R s m args below meth c D C A nL (MQ below Qc args s mc ms A) kc ks q pc ws lv st)
    (hk : ∀ pc ws lv st, k pc ws lv st → zAt p l e R s m args below meth c D C A nL (MQ below Qc args s mc ms A) kc ks q pc ws lv st)
    (hR : ∀ ws rv, Kr ws rv → zRe s args D C A q ret Qc ws rv)
    {i : Instr} {l0 pc : Nat} {ws : zS} {lv : zL} {st : List Value} (hd : decode cc pc = .ok (i, l0)) (hl0 : zisw i = true ∨ l0 = zlen i) (hok : zokI pc i = true) (h : zstp fl ki kj K Kr k i pc ws lv st) :
    zAt p l e R s m args below meth c D C A nL (MQ below Qc args s mc ms A) kc ks q pc ws lv st := by
  have hd1 : zisw i = false → decode cc pc = .ok (i, zlen i) := fun hs => by
    rcases hl0 with h0 | h0
    · rw [hs] at h0; cases h0
    · rw [← h0]; exact hd
  have F0' := F
  obtain ⟨hx, hb, hml, hr, ho, hts, hKs, hlocks⟩ := F
  cases i
  case aconst_null => intro H locs ls hP hD hS hl; exact lv_null hx hb (hd1 rfl) (hk _ _ _ _ h H locs ls hP hD hS hl)
  case aload n => exact zAt_ald F0' (Or.inl ⟨hd1 rfl, rfl⟩) (by revert h; show zald k _ _ _ _ _ → _; unfold zald; split <;> first | exact hk _ _ _ _ | exact id)
  case aload_n n => exact zAt_ald F0' (Or.inr ⟨n, hd1 rfl, rfl, rfl⟩) (by revert h; show zald k _ _ _ _ _ → _; unfold zald; split <;> first | exact hk _ _ _ _ | exact id)
  case iload n => exact zAt_ild F0' (Or.inl ⟨hd1 rfl, rfl⟩) (by revert h; show zild k _ _ _ _ _ → _; unfold zild; split <;> first | exact hk _ _ _ _ | exact id)
  case iload_n n => exact zAt_ild F0' (Or.inr ⟨n, hd1 rfl, rfl, rfl⟩) (by revert h; show zild k _ _ _ _ _ → _; unfold zild; split <;> first | exact hk _ _ _ _ | exact id)
  case lload n => exact zAt_lld F0' (Or.inl ⟨hd1 rfl, rfl⟩) (by revert h; show zlld k _ _ _ _ _ → _; unfold zlld; split <;> first | exact hk _ _ _ _ | exact id)
  case lload_n n => exact zAt_lld F0' (Or.inr ⟨n, hd1 rfl, rfl, rfl⟩) (by revert h; show zlld k _ _ _ _ _ → _; unfold zlld; split <;> first | exact hk _ _ _ _ | exact id)
  case istore n => exact zAt_ist F0' (Or.inl ⟨hd1 rfl, rfl⟩) (by revert h; show zist k _ _ _ _ _ → _; unfold zist; split <;> (try split) <;> first | exact hk _ _ _ _ | exact id)
  case istore_n n => exact zAt_ist F0' (Or.inr ⟨n, hd1 rfl, rfl, rfl⟩) (by revert h; show zist k _ _ _ _ _ → _; unfold zist; split <;> (try split) <;> first | exact hk _ _ _ _ | exact id)
  case astore n => exact zAt_ast F0' (Or.inl ⟨hd1 rfl, rfl⟩) (by revert h; show zast k _ _ _ _ _ → _; unfold zast; split <;> (try split) <;> first | exact hk _ _ _ _ | exact id)
  case astore_n n => exact zAt_ast F0' (Or.inr ⟨n, hd1 rfl, rfl, rfl⟩) (by revert h; show zast k _ _ _ _ _ → _; unfold zast; split <;> (try split) <;> first | exact hk _ _ _ _ | exact id)
  case iinc n d => exact zAt_inc F0' (hd1 rfl) (of_decide_eq_true hok) (by revert h; show zinc k _ _ _ _ _ _ → _; unfold zinc; split <;> (try split) <;> first | exact hk _ _ _ _ | exact id)
  case iconst n => intro H locs ls hP hD hS hl; exact lv_iconst hx hb (hd1 rfl) (of_decide_eq_true hok) (hk _ _ _ _ h H locs ls hP hD hS hl)
  case bipush n => intro H locs ls hP hD hS hl; exact lv_bipush hx hb (hd1 rfl) (of_decide_eq_true hok) (hk _ _ _ _ h H locs ls hP hD hS hl)
  case sipush n => intro H locs ls hP hD hS hl; exact lv_sipush hx hb (hd1 rfl) (of_decide_eq_true hok) (hk _ _ _ _ h H locs ls hP hD hS hl)
  case lconst n => intro H locs ls hP hD hS hl; exact lv_lconst hx hb (hd1 rfl) rfl (hk _ _ _ _ h H locs ls hP hD hS hl)
  case ldc idx =>
    have h : (match ki idx with
      | some v => k (pc + 2) ws lv (.int v :: st)
      | none => False) := h
    split at h
    · rename_i v hv
      intro H locs ls hP hD hS hl; exact lv_ldc hx hb ho (hts _ (hT.2.1 idx v hv)) (hd1 rfl) (hk _ _ _ _ h H locs ls hP hD hS hl)
    · exact h.elim
  case ldc2_w idx =>
    have h : (match kj idx with
      | some v => k (pc + 3) ws lv (.long v :: st)
      | none => False) := h
    split at h
    · rename_i v hv
      intro H locs ls hP hD hS hl; exact lv_ldc2 hx hb ho (hts _ (hT.2.2 idx v hv)) (hd1 rfl) (hk _ _ _ _ h H locs ls hP hD hS hl)
    · exact h.elim
  case iadd => obtain ⟨x, y, r, rfl, h⟩ := zI2_inv (show zI2 st fun x y r => k (pc + 1) ws lv (.int (x + y) :: r) from h); intro H locs ls hP hD hS hl; exact lv_iadd hx hb (hd1 rfl) (hk _ _ _ _ h H locs ls hP hD hS hl)
  case isub => obtain ⟨x, y, r, rfl, h⟩ := zI2_inv (show zI2 st fun x y r => k (pc + 1) ws lv (.int (x - y) :: r) from h); intro H locs ls hP hD hS hl; exact lv_isub hx hb (hd1 rfl) (hk _ _ _ _ h H locs ls hP hD hS hl)
  case imul => obtain ⟨x, y, r, rfl, h⟩ := zI2_inv (show zI2 st fun x y r => k (pc + 1) ws lv (.int (x * y) :: r) from h); intro H locs ls hP hD hS hl; exact lv_imul hx hb (hd1 rfl) (hk _ _ _ _ h H locs ls hP hD hS hl)
  case iand => obtain ⟨x, y, r, rfl, h⟩ := zI2_inv (show zI2 st fun x y r => k (pc + 1) ws lv (.int (x &&& y) :: r) from h); intro H locs ls hP hD hS hl; exact lv_iand hx hb (hd1 rfl) (hk _ _ _ _ h H locs ls hP hD hS hl)
  case ior => obtain ⟨x, y, r, rfl, h⟩ := zI2_inv (show zI2 st fun x y r => k (pc + 1) ws lv (.int (x ||| y) :: r) from h); intro H locs ls hP hD hS hl; exact lv_ior hx hb (hd1 rfl) (hk _ _ _ _ h H locs ls hP hD hS hl)
  case ixor => obtain ⟨x, y, r, rfl, h⟩ := zI2_inv (show zI2 st fun x y r => k (pc + 1) ws lv (.int (x ^^^ y) :: r) from h); intro H locs ls hP hD hS hl; exact lv_ixor hx hb (hd1 rfl) (hk _ _ _ _ h H locs ls hP hD hS hl)
  case idiv => obtain ⟨x, y, r, rfl, h0, h⟩ := zI2_inv (show zI2 st fun x y r => ¬ y = 0 ∧ k (pc + 1) ws lv (.int (x / y) :: r) from h); intro H locs ls hP hD hS hl; exact lv_idiv hx hb (hd1 rfl) h0 (hk _ _ _ _ h H locs ls hP hD hS hl)
  case irem => obtain ⟨x, y, r, rfl, h0, h⟩ := zI2_inv (show zI2 st fun x y r => ¬ y = 0 ∧ k (pc + 1) ws lv (.int (x - x / y * y) :: r) from h); intro H locs ls hP hD hS hl; exact lv_irem hx hb (hd1 rfl) h0 (hk _ _ _ _ h H locs ls hP hD hS hl)
  case ineg => obtain ⟨x, r, rfl, h⟩ := zI1_inv (show zI1 st fun x r => k (pc + 1) ws lv (.int (-x) :: r) from h); intro H locs ls hP hD hS hl; exact lv_ineg hx hb (hd1 rfl) (hk _ _ _ _ h H locs ls hP hD hS hl)
  case ishl => obtain ⟨x, y, r, rfl, h⟩ := zI2_inv (show zI2 st fun x y r => k (pc + 1) ws lv (.int (x <<< (y &&& 31)) :: r) from h); intro H locs ls hP hD hS hl; exact lv_ishl hx hb (hd1 rfl) (hk _ _ _ _ h H locs ls hP hD hS hl)
  case ishr => obtain ⟨x, y, r, rfl, h⟩ := zI2_inv (show zI2 st fun x y r => k (pc + 1) ws lv (.int (x >>> (y &&& 31)) :: r) from h); intro H locs ls hP hD hS hl; exact lv_ishr hx hb (hd1 rfl) (hk _ _ _ _ h H locs ls hP hD hS hl)
  case i2l => obtain ⟨x, r, rfl, h⟩ := zI1_inv (show zI1 st fun x r => k (pc + 1) ws lv (.long x.toInt64 :: r) from h); intro H locs ls hP hD hS hl; exact lv_i2l hx hb (hd1 rfl) rfl (hk _ _ _ _ h H locs ls hP hD hS hl)
  case l2i => obtain ⟨x, r, rfl, h⟩ := zJ1_inv (show zJ1 st fun x r => k (pc + 1) ws lv (.int x.toInt32 :: r) from h); intro H locs ls hP hD hS hl; exact lv_l2i hx hb (hd1 rfl) rfl (hk _ _ _ _ h H locs ls hP hD hS hl)
  case i2c => obtain ⟨x, r, rfl, h⟩ := zI1_inv (show zI1 st fun x r => k (pc + 1) ws lv (.int (x.toUInt32 % 65536).toInt32 :: r) from h); intro H locs ls hP hD hS hl; exact lv_i2c hx hb (hd1 rfl) rfl (hk _ _ _ _ h H locs ls hP hD hS hl)
  case land => obtain ⟨x, y, r, rfl, h⟩ := zJ2_inv (show zJ2 st fun x y r => k (pc + 1) ws lv (.long (x &&& y) :: r) from h); intro H locs ls hP hD hS hl; exact lv_land hx hb (hd1 rfl) (hk _ _ _ _ h H locs ls hP hD hS hl)
  case lor => obtain ⟨x, y, r, rfl, h⟩ := zJ2_inv (show zJ2 st fun x y r => k (pc + 1) ws lv (.long (x ||| y) :: r) from h); intro H locs ls hP hD hS hl; exact lv_lor hx hb (hd1 rfl) (hk _ _ _ _ h H locs ls hP hD hS hl)
  case lcmp => obtain ⟨x, y, r, rfl, h⟩ := zJ2_inv (show zJ2 st fun x y r => k (pc + 1) ws lv (.int (lg_cmp x y) :: r) from h); intro H locs ls hP hD hS hl; exact W.lcmp hx hb (hd1 rfl) (hk _ _ _ _ h H locs ls hP hD hS hl)
  case lshl => obtain ⟨x, y, r, rfl, h⟩ := zJI_inv (show zJI st fun x y r => k (pc + 1) ws lv (.long (x <<< (y.toInt64 &&& 63)) :: r) from h); intro H locs ls hP hD hS hl; exact lv_lshl hx hb (hd1 rfl) rfl (hk _ _ _ _ h H locs ls hP hD hS hl)
  case lshr => obtain ⟨x, y, r, rfl, h⟩ := zJI_inv (show zJI st fun x y r => k (pc + 1) ws lv (.long (x >>> (y.toInt64 &&& 63)) :: r) from h); intro H locs ls hP hD hS hl; exact lv_lshr hx hb (hd1 rfl) rfl (hk _ _ _ _ h H locs ls hP hD hS hl)
  case lushr => obtain ⟨x, y, r, rfl, h⟩ := zJI_inv (show zJI st fun x y r => k (pc + 1) ws lv (.long (x.toUInt64 >>> (y.toInt64.toUInt64 &&& Int64.toUInt64 63)).toInt64 :: r) from h); intro H locs ls hP hD hS hl; exact lv_lushr hx hb (hd1 rfl) rfl (hk _ _ _ _ h H locs ls hP hD hS hl)
  case dup =>
    simp only [zstp] at h
    split at h
    · split at h
      · rename_i hv
        intro H locs ls hP hD hS hl; exact lv_dup hx hb (hd1 rfl) (zc1_cat hv) (hk _ _ _ _ h H locs ls hP hD hS hl)
      · exact h.elim
    · exact h.elim
  case pop =>
    simp only [zstp] at h
    split at h
    · split at h
      · rename_i hv
        intro H locs ls hP hD hS hl; exact lv_pop hx hb (hd1 rfl) (zc1_cat hv) (hk _ _ _ _ h H locs ls hP hD hS hl)
      · exact h.elim
    · exact h.elim
  case dup_x1 =>
    simp only [zstp] at h
    split at h
    · split at h
      · rename_i hv hw
        intro H locs ls hP hD hS hl; exact lv_dup_x1 hx hb (hd1 rfl) (zc1_cat hv) (zc1_cat hw) (hk _ _ _ _ h H locs ls hP hD hS hl)
      · exact h.elim
    · exact h.elim
  case dup2 =>
    simp only [zstp] at h
    split at h
    · split at h
      · rename_i hv hw
        intro H locs ls hP hD hS hl; exact lv_dup2_11 hx hb (hd1 rfl) (zc1_cat hv) (zc1_cat hw) (hk _ _ _ _ h H locs ls hP hD hS hl)
      · exact h.elim
    · exact h.elim
  case goto o => intro H locs ls hP hD hS hl; exact lv_goto hx hb (hd1 rfl) (ztok_eq hok) (hk _ _ _ _ h H locs ls hP hD hS hl)
  case ifnull o =>
    simp only [zstp] at h
    split at h
    · intro H locs ls hP hD hS hl; exact lv_ifnull hx hb (hd1 rfl) (hk _ _ _ _ h H locs ls hP hD hS hl)
    · intro H locs ls hP hD hS hl; exact lv_ifnullN hx hb (hd1 rfl) (ztok_eq hok) (hk _ _ _ _ h H locs ls hP hD hS hl)
    · exact h.elim
  case ifnonnull o =>
    simp only [zstp] at h
    split at h
    · intro H locs ls hP hD hS hl; exact lv_ifnonnull hx hb (hd1 rfl) (ztok_eq hok) (hk _ _ _ _ h H locs ls hP hD hS hl)
    · intro H locs ls hP hD hS hl; exact lv_ifnonnullN hx hb (hd1 rfl) (hk _ _ _ _ h H locs ls hP hD hS hl)
    · exact h.elim
  case ifCond cd o =>
    cases cd <;> (obtain ⟨x, r, rfl, h1, h2⟩ := zI1_inv (by simpa only [zstp] using h); intro H locs ls hP hD hS hl)
    · exact lv_if_eq hx hb (hd1 rfl) (ztok_eq hok) (fun g => hk _ _ _ _ (h1 g) H locs ls hP hD hS hl) (fun g => hk _ _ _ _ (h2 g) H locs ls hP hD hS hl)
    · exact lv_if_ne hx hb (hd1 rfl) (ztok_eq hok) (fun g => hk _ _ _ _ (h1 g) H locs ls hP hD hS hl) (fun g => hk _ _ _ _ (h2 g) H locs ls hP hD hS hl)
    · exact lv_if_lt hx hb (hd1 rfl) (ztok_eq hok) (fun g => hk _ _ _ _ (h1 g) H locs ls hP hD hS hl) (fun g => hk _ _ _ _ (h2 g) H locs ls hP hD hS hl)
    · exact lv_if_ge hx hb (hd1 rfl) (ztok_eq hok) (fun g => hk _ _ _ _ (h1 g) H locs ls hP hD hS hl) (fun g => hk _ _ _ _ (h2 g) H locs ls hP hD hS hl)
    · exact lv_if_gt hx hb (hd1 rfl) (ztok_eq hok) (fun g => hk _ _ _ _ (h1 g) H locs ls hP hD hS hl) (fun g => hk _ _ _ _ (h2 g) H locs ls hP hD hS hl)
    · exact lv_if_le hx hb (hd1 rfl) (ztok_eq hok) (fun g => hk _ _ _ _ (h1 g) H locs ls hP hD hS hl) (fun g => hk _ _ _ _ (h2 g) H locs ls hP hD hS hl)
  case if_icmp cd o =>
    cases cd <;> (obtain ⟨x, y, r, rfl, h1, h2⟩ := zI2_inv (by simpa only [zstp] using h); intro H locs ls hP hD hS hl)
    · exact lv_icmp_eq hx hb (hd1 rfl) (ztok_eq hok) (fun g => hk _ _ _ _ (h1 g) H locs ls hP hD hS hl) (fun g => hk _ _ _ _ (h2 g) H locs ls hP hD hS hl)
    · exact lv_icmp_ne hx hb (hd1 rfl) (ztok_eq hok) (fun g => hk _ _ _ _ (h1 g) H locs ls hP hD hS hl) (fun g => hk _ _ _ _ (h2 g) H locs ls hP hD hS hl)
    · exact lv_icmp_lt hx hb (hd1 rfl) (ztok_eq hok) (fun g => hk _ _ _ _ (h1 g) H locs ls hP hD hS hl) (fun g => hk _ _ _ _ (h2 g) H locs ls hP hD hS hl)
    · exact lv_icmp_ge hx hb (hd1 rfl) (ztok_eq hok) (fun g => hk _ _ _ _ (h1 g) H locs ls hP hD hS hl) (fun g => hk _ _ _ _ (h2 g) H locs ls hP hD hS hl)
    · exact lv_icmp_gt hx hb (hd1 rfl) (ztok_eq hok) (fun g => hk _ _ _ _ (h1 g) H locs ls hP hD hS hl) (fun g => hk _ _ _ _ (h2 g) H locs ls hP hD hS hl)
    · exact lv_icmp_le hx hb (hd1 rfl) (ztok_eq hok) (fun g => hk _ _ _ _ (h1 g) H locs ls hP hD hS hl) (fun g => hk _ _ _ _ (h2 g) H locs ls hP hD hS hl)
  case tableswitch d lo hi offs =>
    obtain ⟨x, r, rfl, h1, h2⟩ := zI1_inv (show zI1 st fun x r => zts (fun t => k t ws lv r) pc x lo offs.toList ∧ ((x.toInt < lo ∨ hi < x.toInt) → k (zt pc d) ws lv r) from h)
    simp only [zokI, Bool.and_eq_true, decide_eq_true_eq, List.all_eq_true, List.mem_range] at hok
    obtain ⟨⟨⟨hk1, hk2⟩, hk3⟩, hk4⟩ := hok
    intro H locs ls hP hD hS hl
    by_cases hout : x.toInt < lo ∨ hi < x.toInt
    · exact lv_tableOut hx hb hd hout (ztok_eq hk1) (hk _ _ _ _ (h2 hout) H locs ls hP hD hS hl)
    · have g1 : ¬ x.toInt < lo := fun z => hout (Or.inl z)
      have g2 : ¬ hi < x.toInt := fun z => hout (Or.inr z)
      have g3 : (x.toInt - lo).toNat < offs.toList.length := by omega
      have g4 : offs[(x.toInt - lo).toNat]? = some (offs.toList[(x.toInt - lo).toNat]) := by
        rw [← Array.getElem?_toList]; exact List.getElem?_eq_getElem g3
      have g5 : offs.toList[(x.toInt - lo).toNat]? = some (offs.toList[(x.toInt - lo).toNat]) := List.getElem?_eq_getElem g3
      refine lv_tableIn hx hb hd g1 g2 g4 (ztok_eq (hk3 _ (List.getElem_mem g3))) ?_
      exact hk _ _ _ _ (zts_inv _ _ h1 hk4 _ _ g5 (by omega)) H locs ls hP hD hS hl
  case lookupswitch d ps =>
    obtain ⟨x, r, rfl, h1, h2⟩ := zI1_inv (show zI1 st fun x r => zls (fun t => k t ws lv r) pc x ps.toList ∧ (zln x ps.toList → k (zt pc d) ws lv r) from h)
    simp only [zokI, Bool.and_eq_true, List.all_eq_true, decide_eq_true_eq] at hok
    obtain ⟨⟨hk1, hk2⟩, hk3⟩ := hok
    intro H locs ls hP hD hS hl
    have hz := zls_inv d _ h1 h2 (fun e he => (hk2 e he).2)
    have ht : ∀ (ps : List (Int × Int)), (∀ e ∈ ps, ztok pc e.2 = true ∧ (zi e.1).toInt = e.1) → ztok pc (lookupswitch.offset ps d x.toInt) = true := by
      intro ps
      induction ps with
      | nil => intro _; exact hk1
      | cons a r ih =>
        intro hh
        obtain ⟨a1, a2⟩ := a
        rw [lookupswitch.offset_cons]
        split
        · exact (hh _ List.mem_cons_self).1
        · exact ih (fun e he => hh e (List.mem_cons_of_mem _ he))
    exact lv_lookup hx hb hd (List.all_eq_true.mpr (fun z hz => by simpa using hk3 z hz)) rfl (ztok_eq (ht _ hk2)) (hk _ _ _ _ hz H locs ls hP hD hS hl)
  case getfield idx => exact zAt_gf F0' hC hT.1 (hd1 rfl) (by revert h; show zgf fl k _ _ _ _ _ → _; unfold zgf; (repeat' split); all_goals first | exact hk _ _ _ _ | exact id)
  case putfield idx => exact zAt_pf F0' hC hT.1 (hd1 rfl) (by revert h; show zpf fl k _ _ _ _ _ → _; unfold zpf; (repeat' split); all_goals first | exact hk _ _ _ _ | exact And.imp_right (hk _ _ _ _) | exact id)
  case iaload => exact zAt_ia F0' (Or.inl ⟨rfl, hd1 rfl⟩) (by revert h; show zia k _ _ _ _ _ → _; unfold zia; (repeat' split); all_goals first | exact fun ⟨j, h1, h2, h3⟩ => ⟨j, h1, h2, hk _ _ _ _ h3⟩ | exact id)
  case baload => exact zAt_ia F0' (Or.inr ⟨rfl, hd1 rfl⟩) (by revert h; show zia k _ _ _ _ _ → _; unfold zia; (repeat' split); all_goals first | exact fun ⟨j, h1, h2, h3⟩ => ⟨j, h1, h2, hk _ _ _ _ h3⟩ | exact id)
  case iastore => exact zAt_is F0' (Or.inl ⟨rfl, hd1 rfl⟩) (by revert h; show zis k _ _ _ _ _ → _; unfold zis; (repeat' split); all_goals first | exact fun ⟨j, h1, h2, h3⟩ => ⟨j, h1, h2, hk _ _ _ _ h3⟩ | exact id)
  case bastore => exact zAt_is F0' (Or.inr ⟨rfl, hd1 rfl⟩) (by revert h; show zis k _ _ _ _ _ → _; unfold zis; (repeat' split); all_goals first | exact fun ⟨j, h1, h2, h3⟩ => ⟨j, h1, h2, hk _ _ _ _ h3⟩ | exact id)
  case arraylength => exact zAt_al F0' (hd1 rfl) (by revert h; show zal k _ _ _ _ → _; unfold zal; (repeat' split); all_goals first | exact hk _ _ _ _ | exact id)
  case ireturn =>
    simp only [zstp] at h
    split at h
    · rename_i v
      obtain ⟨⟨ty, hrt, hn⟩, hq⟩ := hR _ _ h
      intro H locs ls hP hD hS hl
      refine W.widen hkc hks ?_
      exact W.zret (v := v) hx hb (hr.trans hrt) hn (fun t ht hW => hq H locs t hP hD hS ht hW) hS.2.2 (hd1 rfl)
    · exact h.elim
  case areturn =>
    simp only [zstp] at h
    split at h
    · rename_i a
      obtain ⟨⟨n, hrt⟩, hq⟩ := hR _ _ h
      intro H locs ls hP hD hS hl
      refine W.widen hkc hks ?_
      exact W.aret (v := .ref (q a)) hx hb (hr.trans hrt) (Or.inl ⟨n, rfl⟩) (Or.inr ⟨_, rfl⟩) (fun t ht hW => hq H locs t hP hD hS ht hW) hS.2.2 (hd1 rfl)
    · obtain ⟨⟨n, hrt⟩, hq⟩ := hR _ _ h
      intro H locs ls hP hD hS hl
      refine W.widen hkc hks ?_
      exact W.aret (v := .null) hx hb (hr.trans hrt) (Or.inl ⟨n, rfl⟩) (Or.inl rfl) (fun t ht hW => hq H locs t hP hD hS ht hW) hS.2.2 (hd1 rfl)
    · exact h.elim
  case return_ =>
    simp only [zstp] at h
    split at h
    · obtain ⟨hrt, hq⟩ := hR _ _ h
      intro H locs ls hP hD hS hl
      refine W.widen hkc hks ?_
      exact W.vret hx hb (hr.trans hrt) (fun t ht hW => hq H locs t hP hD hS ht hW) hS.2.2 (hd1 rfl)
    · exact h.elim
  all_goals exact hK _ _ _ _ h
theorem zgo_sound (F : zFx p s m args meth c cc nL ret own D C) (hC : zCls) {fl : Nat → Option (Nat × Nat × Nat)} {ki : Nat → Option Int32} {kj : Nat → Option Int64} (hT : zTb own fl ki kj) {tab : List (Nat × Instr)} (hO : zokC cc tab = true) {stops : List Nat} {K : zP} {Kr : zS → Option Value → Prop}
    (hkc : kc ≤ mc) (hks : ks ≤ ms)
    (hK : ∀ pc ws lv st, K pc ws lv st → zAt p l e R s m args below meth c D C A nL (MQ below Qc args s mc ms A) kc ks q pc ws lv st)
    (hR : ∀ ws rv, Kr ws rv → zRe s args D C A q ret Qc ws rv) : ∀ (n pc : Nat) (ws : zS) (lv : zL) (st : List Value), zgo tab fl ki kj stops K Kr n pc ws lv st →
    zAt p l e R s m args below meth c D C A nL (MQ below Qc args s mc ms A) kc ks q pc ws lv st
  | 0, pc, ws, lv, st, h => hK _ _ _ _ h
  | n + 1, pc, ws, lv, st, h => by
    unfold zgo at h
    split at h
    · rename_i i hi
      obtain ⟨⟨l0, hd, hl0⟩, hok⟩ := zokC_at hO hi
      refine zstp_sound F hC hT hkc hks hK (fun pc ws lv st h => ?_) hR hd hl0 hok h
      split at h
      · exact hK _ _ _ _ h
      · exact zgo_sound F hC hT hO hkc hks hK hR n pc ws lv st h
    · exact h.elim
end ZB
end
