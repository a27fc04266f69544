section
-- ===== PART A: goes FIRST, ahead of the names: the tables' words, and 'selects' of the private methods out of them =====
/-- a private method of a class that the tables say can be made, by its rows of tables_1 -/
def lw_okq (q : MethodName × Nat) : Prop := (q.1.cls ≠ "java/lang/invoke/MethodHandle" ∧ q.1.cls ≠ "java/lang/invoke/VarHandle") ∧ Cond.instantiable q.1.cls q.2 ∈ tables_1 ∧ Cond.privateMethod q.1 ∈ tables_1 ∧ Cond.instanceMethod q.1 ∈ tables_1
theorem lw_p0 : lw_okq (⟨"PackedCase$Reader", "split", "()V"⟩, 7) := ⟨⟨by decide +kernel, by decide +kernel⟩, List.mem_of_getElem? (i := 84) (by decide +kernel), List.mem_of_getElem? (i := 323) (by decide +kernel), List.mem_of_getElem? (i := 324) (by decide +kernel)⟩
theorem lw_p1 : lw_okq (⟨"PackedCase$Reader", "endOf", "(I)I"⟩, 7) := ⟨⟨by decide +kernel, by decide +kernel⟩, List.mem_of_getElem? (i := 84) (by decide +kernel), List.mem_of_getElem? (i := 328) (by decide +kernel), List.mem_of_getElem? (i := 329) (by decide +kernel)⟩
theorem lw_p2 : lw_okq (⟨"PackedCase$Reader", "codeOf", "(II)I"⟩, 7) := ⟨⟨by decide +kernel, by decide +kernel⟩, List.mem_of_getElem? (i := 84) (by decide +kernel), List.mem_of_getElem? (i := 345) (by decide +kernel), List.mem_of_getElem? (i := 346) (by decide +kernel)⟩
theorem lw_p3 : lw_okq (⟨"PackedCase$Reader", "numberCode", "(II)I"⟩, 7) := ⟨⟨by decide +kernel, by decide +kernel⟩, List.mem_of_getElem? (i := 84) (by decide +kernel), List.mem_of_getElem? (i := 349) (by decide +kernel), List.mem_of_getElem? (i := 350) (by decide +kernel)⟩
theorem lw_p4 : lw_okq (⟨"PackedCase$Reader", "wordCode", "(II)I"⟩, 7) := ⟨⟨by decide +kernel, by decide +kernel⟩, List.mem_of_getElem? (i := 84) (by decide +kernel), List.mem_of_getElem? (i := 356) (by decide +kernel), List.mem_of_getElem? (i := 357) (by decide +kernel)⟩
theorem lw_p5 : lw_okq (⟨"PackedCase$Reader", "isWord", "(Ljava/lang/String;II)Z"⟩, 7) := ⟨⟨by decide +kernel, by decide +kernel⟩, List.mem_of_getElem? (i := 84) (by decide +kernel), List.mem_of_getElem? (i := 361) (by decide +kernel), List.mem_of_getElem? (i := 362) (by decide +kernel)⟩
theorem lw_p6 : lw_okq (⟨"PackedCase$Reader", "addToken", "(II)V"⟩, 7) := ⟨⟨by decide +kernel, by decide +kernel⟩, List.mem_of_getElem? (i := 84) (by decide +kernel), List.mem_of_getElem? (i := 420) (by decide +kernel), List.mem_of_getElem? (i := 421) (by decide +kernel)⟩
theorem lw_p7 : lw_okq (⟨"PackedCase$Reader", "isNext", "(I)Z"⟩, 7) := ⟨⟨by decide +kernel, by decide +kernel⟩, List.mem_of_getElem? (i := 84) (by decide +kernel), List.mem_of_getElem? (i := 429) (by decide +kernel), List.mem_of_getElem? (i := 430) (by decide +kernel)⟩
theorem lw_p8 : lw_okq (⟨"PackedCase$Reader", "codeOfNext", "()I"⟩, 7) := ⟨⟨by decide +kernel, by decide +kernel⟩, List.mem_of_getElem? (i := 84) (by decide +kernel), List.mem_of_getElem? (i := 433) (by decide +kernel), List.mem_of_getElem? (i := 434) (by decide +kernel)⟩
theorem lw_p9 : lw_okq (⟨"PackedCase$Reader", "readItem", "()Z"⟩, 7) := ⟨⟨by decide +kernel, by decide +kernel⟩, List.mem_of_getElem? (i := 84) (by decide +kernel), List.mem_of_getElem? (i := 437) (by decide +kernel), List.mem_of_getElem? (i := 438) (by decide +kernel)⟩
theorem lw_p10 : lw_okq (⟨"PackedCase$Reader", "readThing", "()Z"⟩, 7) := ⟨⟨by decide +kernel, by decide +kernel⟩, List.mem_of_getElem? (i := 84) (by decide +kernel), List.mem_of_getElem? (i := 441) (by decide +kernel), List.mem_of_getElem? (i := 442) (by decide +kernel)⟩
theorem lw_p11 : lw_okq (⟨"PackedCase$Reader", "readFact", "(III)Z"⟩, 7) := ⟨⟨by decide +kernel, by decide +kernel⟩, List.mem_of_getElem? (i := 84) (by decide +kernel), List.mem_of_getElem? (i := 454) (by decide +kernel), List.mem_of_getElem? (i := 455) (by decide +kernel)⟩
theorem lw_p12 : lw_okq (⟨"PackedCase$Reader", "takeNumber", "(II)Z"⟩, 7) := ⟨⟨by decide +kernel, by decide +kernel⟩, List.mem_of_getElem? (i := 84) (by decide +kernel), List.mem_of_getElem? (i := 458) (by decide +kernel), List.mem_of_getElem? (i := 459) (by decide +kernel)⟩
theorem lw_p13 : lw_okq (⟨"PackedCase$Reader", "readClothes", "()Z"⟩, 7) := ⟨⟨by decide +kernel, by decide +kernel⟩, List.mem_of_getElem? (i := 84) (by decide +kernel), List.mem_of_getElem? (i := 462) (by decide +kernel), List.mem_of_getElem? (i := 463) (by decide +kernel)⟩
theorem lw_p14 : lw_okq (⟨"PackedCase$Reader", "take", "(I)Z"⟩, 7) := ⟨⟨by decide +kernel, by decide +kernel⟩, List.mem_of_getElem? (i := 84) (by decide +kernel), List.mem_of_getElem? (i := 466) (by decide +kernel), List.mem_of_getElem? (i := 467) (by decide +kernel)⟩
theorem lw_p15 : lw_okq (⟨"PackedCase$Reader", "closeThing", "()Z"⟩, 7) := ⟨⟨by decide +kernel, by decide +kernel⟩, List.mem_of_getElem? (i := 84) (by decide +kernel), List.mem_of_getElem? (i := 470) (by decide +kernel), List.mem_of_getElem? (i := 471) (by decide +kernel)⟩
def lw_privs_1 : List (MethodName × Nat) := [(⟨"PackedCase$Reader", "split", "()V"⟩, 7), (⟨"PackedCase$Reader", "endOf", "(I)I"⟩, 7), (⟨"PackedCase$Reader", "codeOf", "(II)I"⟩, 7), (⟨"PackedCase$Reader", "numberCode", "(II)I"⟩, 7), (⟨"PackedCase$Reader", "wordCode", "(II)I"⟩, 7), (⟨"PackedCase$Reader", "isWord", "(Ljava/lang/String;II)Z"⟩, 7), (⟨"PackedCase$Reader", "addToken", "(II)V"⟩, 7), (⟨"PackedCase$Reader", "isNext", "(I)Z"⟩, 7), (⟨"PackedCase$Reader", "codeOfNext", "()I"⟩, 7), (⟨"PackedCase$Reader", "readItem", "()Z"⟩, 7), (⟨"PackedCase$Reader", "readThing", "()Z"⟩, 7), (⟨"PackedCase$Reader", "readFact", "(III)Z"⟩, 7), (⟨"PackedCase$Reader", "takeNumber", "(II)Z"⟩, 7), (⟨"PackedCase$Reader", "readClothes", "()Z"⟩, 7), (⟨"PackedCase$Reader", "take", "(I)Z"⟩, 7), (⟨"PackedCase$Reader", "closeThing", "()Z"⟩, 7)]
theorem lw_r1 : ∀ q ∈ lw_privs_1, lw_okq q := List.forall_mem_cons.mpr ⟨lw_p0, List.forall_mem_cons.mpr ⟨lw_p1, List.forall_mem_cons.mpr ⟨lw_p2, List.forall_mem_cons.mpr ⟨lw_p3, List.forall_mem_cons.mpr ⟨lw_p4, List.forall_mem_cons.mpr ⟨lw_p5, List.forall_mem_cons.mpr ⟨lw_p6, List.forall_mem_cons.mpr ⟨lw_p7, List.forall_mem_cons.mpr ⟨lw_p8, List.forall_mem_cons.mpr ⟨lw_p9, List.forall_mem_cons.mpr ⟨lw_p10, List.forall_mem_cons.mpr ⟨lw_p11, List.forall_mem_cons.mpr ⟨lw_p12, List.forall_mem_cons.mpr ⟨lw_p13, List.forall_mem_cons.mpr ⟨lw_p14, List.forall_mem_cons.mpr ⟨lw_p15, fun _ h => absurd h List.not_mem_nil⟩⟩⟩⟩⟩⟩⟩⟩⟩⟩⟩⟩⟩⟩⟩⟩
theorem lw_p16 : lw_okq (⟨"PackedCase$Reader", "readApart", "()Z"⟩, 7) := ⟨⟨by decide +kernel, by decide +kernel⟩, List.mem_of_getElem? (i := 84) (by decide +kernel), List.mem_of_getElem? (i := 478) (by decide +kernel), List.mem_of_getElem? (i := 479) (by decide +kernel)⟩
theorem lw_p17 : lw_okq (⟨"PackedCase$Reader", "readDay", "()Z"⟩, 7) := ⟨⟨by decide +kernel, by decide +kernel⟩, List.mem_of_getElem? (i := 84) (by decide +kernel), List.mem_of_getElem? (i := 494) (by decide +kernel), List.mem_of_getElem? (i := 495) (by decide +kernel)⟩
theorem lw_p18 : lw_okq (⟨"PackedCase$Reader", "readWant", "(II)Z"⟩, 7) := ⟨⟨by decide +kernel, by decide +kernel⟩, List.mem_of_getElem? (i := 84) (by decide +kernel), List.mem_of_getElem? (i := 502) (by decide +kernel), List.mem_of_getElem? (i := 503) (by decide +kernel)⟩
theorem lw_p19 : lw_okq (⟨"PackedCase$Reader", "readRain", "()Z"⟩, 7) := ⟨⟨by decide +kernel, by decide +kernel⟩, List.mem_of_getElem? (i := 84) (by decide +kernel), List.mem_of_getElem? (i := 511) (by decide +kernel), List.mem_of_getElem? (i := 512) (by decide +kernel)⟩
theorem lw_p20 : lw_okq (⟨"PackedCase$Reader", "closeDay", "()Z"⟩, 7) := ⟨⟨by decide +kernel, by decide +kernel⟩, List.mem_of_getElem? (i := 84) (by decide +kernel), List.mem_of_getElem? (i := 522) (by decide +kernel), List.mem_of_getElem? (i := 523) (by decide +kernel)⟩
theorem lw_p21 : lw_okq (⟨"PackedCase$Reader", "startOfNext", "()I"⟩, 7) := ⟨⟨by decide +kernel, by decide +kernel⟩, List.mem_of_getElem? (i := 84) (by decide +kernel), List.mem_of_getElem? (i := 531) (by decide +kernel), List.mem_of_getElem? (i := 532) (by decide +kernel)⟩
theorem lw_p22 : lw_okq (⟨"PackedCase$Trip", "worn", "(IIZ)I"⟩, 11) := ⟨⟨by decide +kernel, by decide +kernel⟩, List.mem_of_getElem? (i := 43) (by decide +kernel), List.mem_of_getElem? (i := 673) (by decide +kernel), List.mem_of_getElem? (i := 674) (by decide +kernel)⟩
theorem lw_p23 : lw_okq (⟨"PackedCase$Planner", "prepare", "(II)V"⟩, 9) := ⟨⟨by decide +kernel, by decide +kernel⟩, List.mem_of_getElem? (i := 131) (by decide +kernel), List.mem_of_getElem? (i := 700) (by decide +kernel), List.mem_of_getElem? (i := 701) (by decide +kernel)⟩
theorem lw_p24 : lw_okq (⟨"PackedCase$Planner", "livesOn", "(II)Z"⟩, 9) := ⟨⟨by decide +kernel, by decide +kernel⟩, List.mem_of_getElem? (i := 131) (by decide +kernel), List.mem_of_getElem? (i := 713) (by decide +kernel), List.mem_of_getElem? (i := 714) (by decide +kernel)⟩
theorem lw_p25 : lw_okq (⟨"PackedCase$Planner", "isDay", "(I)Z"⟩, 9) := ⟨⟨by decide +kernel, by decide +kernel⟩, List.mem_of_getElem? (i := 131) (by decide +kernel), List.mem_of_getElem? (i := 717) (by decide +kernel), List.mem_of_getElem? (i := 718) (by decide +kernel)⟩
theorem lw_p26 : lw_okq (⟨"PackedCase$Planner", "livesOnWith", "(III)Z"⟩, 9) := ⟨⟨by decide +kernel, by decide +kernel⟩, List.mem_of_getElem? (i := 131) (by decide +kernel), List.mem_of_getElem? (i := 721) (by decide +kernel), List.mem_of_getElem? (i := 722) (by decide +kernel)⟩
theorem lw_p27 : lw_okq (⟨"PackedCase$Chooser", "chanceOf", "(I)I"⟩, 3) := ⟨⟨by decide +kernel, by decide +kernel⟩, List.mem_of_getElem? (i := 166) (by decide +kernel), List.mem_of_getElem? (i := 753) (by decide +kernel), List.mem_of_getElem? (i := 754) (by decide +kernel)⟩
theorem lw_p28 : lw_okq (⟨"PackedCase$Packer", "lay", "(II)V"⟩, 9) := ⟨⟨by decide +kernel, by decide +kernel⟩, List.mem_of_getElem? (i := 185) (by decide +kernel), List.mem_of_getElem? (i := 830) (by decide +kernel), List.mem_of_getElem? (i := 831) (by decide +kernel)⟩
theorem lw_p29 : lw_okq (⟨"PackedCase$Packer", "troubleOf", "(I)I"⟩, 9) := ⟨⟨by decide +kernel, by decide +kernel⟩, List.mem_of_getElem? (i := 185) (by decide +kernel), List.mem_of_getElem? (i := 836) (by decide +kernel), List.mem_of_getElem? (i := 837) (by decide +kernel)⟩
theorem lw_p30 : lw_okq (⟨"PackedCase$Chooser", "allMatch", "(I)Z"⟩, 3) := ⟨⟨by decide +kernel, by decide +kernel⟩, List.mem_of_getElem? (i := 166) (by decide +kernel), List.mem_of_getElem? (i := 856) (by decide +kernel), List.mem_of_getElem? (i := 857) (by decide +kernel)⟩
theorem lw_p31 : lw_okq (⟨"PackedCase$Planner", "reachNext", "(I)Z"⟩, 9) := ⟨⟨by decide +kernel, by decide +kernel⟩, List.mem_of_getElem? (i := 131) (by decide +kernel), List.mem_of_getElem? (i := 871) (by decide +kernel), List.mem_of_getElem? (i := 872) (by decide +kernel)⟩
def lw_privs_2 : List (MethodName × Nat) := [(⟨"PackedCase$Reader", "readApart", "()Z"⟩, 7), (⟨"PackedCase$Reader", "readDay", "()Z"⟩, 7), (⟨"PackedCase$Reader", "readWant", "(II)Z"⟩, 7), (⟨"PackedCase$Reader", "readRain", "()Z"⟩, 7), (⟨"PackedCase$Reader", "closeDay", "()Z"⟩, 7), (⟨"PackedCase$Reader", "startOfNext", "()I"⟩, 7), (⟨"PackedCase$Trip", "worn", "(IIZ)I"⟩, 11), (⟨"PackedCase$Planner", "prepare", "(II)V"⟩, 9), (⟨"PackedCase$Planner", "livesOn", "(II)Z"⟩, 9), (⟨"PackedCase$Planner", "isDay", "(I)Z"⟩, 9), (⟨"PackedCase$Planner", "livesOnWith", "(III)Z"⟩, 9), (⟨"PackedCase$Chooser", "chanceOf", "(I)I"⟩, 3), (⟨"PackedCase$Packer", "lay", "(II)V"⟩, 9), (⟨"PackedCase$Packer", "troubleOf", "(I)I"⟩, 9), (⟨"PackedCase$Chooser", "allMatch", "(I)Z"⟩, 3), (⟨"PackedCase$Planner", "reachNext", "(I)Z"⟩, 9)]
theorem lw_r2 : ∀ q ∈ lw_privs_2, lw_okq q := List.forall_mem_cons.mpr ⟨lw_p16, List.forall_mem_cons.mpr ⟨lw_p17, List.forall_mem_cons.mpr ⟨lw_p18, List.forall_mem_cons.mpr ⟨lw_p19, List.forall_mem_cons.mpr ⟨lw_p20, List.forall_mem_cons.mpr ⟨lw_p21, List.forall_mem_cons.mpr ⟨lw_p22, List.forall_mem_cons.mpr ⟨lw_p23, List.forall_mem_cons.mpr ⟨lw_p24, List.forall_mem_cons.mpr ⟨lw_p25, List.forall_mem_cons.mpr ⟨lw_p26, List.forall_mem_cons.mpr ⟨lw_p27, List.forall_mem_cons.mpr ⟨lw_p28, List.forall_mem_cons.mpr ⟨lw_p29, List.forall_mem_cons.mpr ⟨lw_p30, List.forall_mem_cons.mpr ⟨lw_p31, fun _ h => absurd h List.not_mem_nil⟩⟩⟩⟩⟩⟩⟩⟩⟩⟩⟩⟩⟩⟩⟩⟩
theorem lw_p32 : lw_okq (⟨"PackedCase$Planner", "reachFrom", "(II)Z"⟩, 9) := ⟨⟨by decide +kernel, by decide +kernel⟩, List.mem_of_getElem? (i := 131) (by decide +kernel), List.mem_of_getElem? (i := 875) (by decide +kernel), List.mem_of_getElem? (i := 876) (by decide +kernel)⟩
theorem lw_p33 : lw_okq (⟨"PackedCase$Planner", "mark", "(I)V"⟩, 9) := ⟨⟨by decide +kernel, by decide +kernel⟩, List.mem_of_getElem? (i := 131) (by decide +kernel), List.mem_of_getElem? (i := 879) (by decide +kernel), List.mem_of_getElem? (i := 880) (by decide +kernel)⟩
theorem lw_p34 : lw_okq (⟨"PackedCase$Lists", "lowered", "(I)I"⟩, 4) := ⟨⟨by decide +kernel, by decide +kernel⟩, List.mem_of_getElem? (i := 219) (by decide +kernel), List.mem_of_getElem? (i := 904) (by decide +kernel), List.mem_of_getElem? (i := 905) (by decide +kernel)⟩
theorem lw_p35 : lw_okq (⟨"PackedCase$Kinds", "asThing", "(I)I"⟩, 2) := ⟨⟨by decide +kernel, by decide +kernel⟩, List.mem_of_getElem? (i := 238) (by decide +kernel), List.mem_of_getElem? (i := 930) (by decide +kernel), List.mem_of_getElem? (i := 931) (by decide +kernel)⟩
theorem lw_p36 : lw_okq (⟨"PackedCase$Kinds", "asOnce", "(I)I"⟩, 2) := ⟨⟨by decide +kernel, by decide +kernel⟩, List.mem_of_getElem? (i := 238) (by decide +kernel), List.mem_of_getElem? (i := 935) (by decide +kernel), List.mem_of_getElem? (i := 936) (by decide +kernel)⟩
theorem lw_p37 : lw_okq (⟨"PackedCase$Kinds", "asSpare", "(I)I"⟩, 2) := ⟨⟨by decide +kernel, by decide +kernel⟩, List.mem_of_getElem? (i := 238) (by decide +kernel), List.mem_of_getElem? (i := 940) (by decide +kernel), List.mem_of_getElem? (i := 941) (by decide +kernel)⟩
theorem lw_p38 : lw_okq (⟨"PackedCase$Kinds", "asDouble", "(I)I"⟩, 2) := ⟨⟨by decide +kernel, by decide +kernel⟩, List.mem_of_getElem? (i := 238) (by decide +kernel), List.mem_of_getElem? (i := 945) (by decide +kernel), List.mem_of_getElem? (i := 946) (by decide +kernel)⟩
theorem lw_p39 : lw_okq (⟨"PackedCase$Kinds", "asBought", "(I)I"⟩, 2) := ⟨⟨by decide +kernel, by decide +kernel⟩, List.mem_of_getElem? (i := 238) (by decide +kernel), List.mem_of_getElem? (i := 950) (by decide +kernel), List.mem_of_getElem? (i := 951) (by decide +kernel)⟩
theorem lw_p40 : lw_okq (⟨"PackedCase$Kinds", "asSingle", "(II)I"⟩, 2) := ⟨⟨by decide +kernel, by decide +kernel⟩, List.mem_of_getElem? (i := 238) (by decide +kernel), List.mem_of_getElem? (i := 955) (by decide +kernel), List.mem_of_getElem? (i := 956) (by decide +kernel)⟩
theorem lw_p41 : lw_okq (⟨"PackedCase", "imageAt", "(I)LPackedCase$Life;"⟩, 13) := ⟨⟨by decide +kernel, by decide +kernel⟩, List.mem_of_getElem? (i := 21) (by decide +kernel), List.mem_of_getElem? (i := 965) (by decide +kernel), List.mem_of_getElem? (i := 966) (by decide +kernel)⟩
theorem lw_p42 : lw_okq (⟨"PackedCaseModel", "next", "()V"⟩, 33) := ⟨⟨by decide +kernel, by decide +kernel⟩, List.mem_of_getElem? (i := 994) (by decide +kernel), List.mem_of_getElem? (i := 1117) (by decide +kernel), List.mem_of_getElem? (i := 1118) (by decide +kernel)⟩
theorem lw_p43 : lw_okq (⟨"PackedCaseModel", "here", "()I"⟩, 33) := ⟨⟨by decide +kernel, by decide +kernel⟩, List.mem_of_getElem? (i := 994) (by decide +kernel), List.mem_of_getElem? (i := 1121) (by decide +kernel), List.mem_of_getElem? (i := 1122) (by decide +kernel)⟩
theorem lw_p44 : lw_okq (⟨"PackedCaseModel", "item", "(I)V"⟩, 33) := ⟨⟨by decide +kernel, by decide +kernel⟩, List.mem_of_getElem? (i := 994) (by decide +kernel), List.mem_of_getElem? (i := 1128) (by decide +kernel), List.mem_of_getElem? (i := 1129) (by decide +kernel)⟩
theorem lw_p45 : lw_okq (⟨"PackedCaseModel", "due", "(Z)I"⟩, 33) := ⟨⟨by decide +kernel, by decide +kernel⟩, List.mem_of_getElem? (i := 994) (by decide +kernel), List.mem_of_getElem? (i := 1132) (by decide +kernel), List.mem_of_getElem? (i := 1133) (by decide +kernel)⟩
theorem lw_p46 : lw_okq (⟨"PackedCaseModel", "readThing", "(I)V"⟩, 33) := ⟨⟨by decide +kernel, by decide +kernel⟩, List.mem_of_getElem? (i := 994) (by decide +kernel), List.mem_of_getElem? (i := 1136) (by decide +kernel), List.mem_of_getElem? (i := 1137) (by decide +kernel)⟩
theorem lw_p47 : lw_okq (⟨"PackedCaseModel", "number", "(II)I"⟩, 33) := ⟨⟨by decide +kernel, by decide +kernel⟩, List.mem_of_getElem? (i := 994) (by decide +kernel), List.mem_of_getElem? (i := 1140) (by decide +kernel), List.mem_of_getElem? (i := 1141) (by decide +kernel)⟩
def lw_privs_3 : List (MethodName × Nat) := [(⟨"PackedCase$Planner", "reachFrom", "(II)Z"⟩, 9), (⟨"PackedCase$Planner", "mark", "(I)V"⟩, 9), (⟨"PackedCase$Lists", "lowered", "(I)I"⟩, 4), (⟨"PackedCase$Kinds", "asThing", "(I)I"⟩, 2), (⟨"PackedCase$Kinds", "asOnce", "(I)I"⟩, 2), (⟨"PackedCase$Kinds", "asSpare", "(I)I"⟩, 2), (⟨"PackedCase$Kinds", "asDouble", "(I)I"⟩, 2), (⟨"PackedCase$Kinds", "asBought", "(I)I"⟩, 2), (⟨"PackedCase$Kinds", "asSingle", "(II)I"⟩, 2), (⟨"PackedCase", "imageAt", "(I)LPackedCase$Life;"⟩, 13), (⟨"PackedCaseModel", "next", "()V"⟩, 33), (⟨"PackedCaseModel", "here", "()I"⟩, 33), (⟨"PackedCaseModel", "item", "(I)V"⟩, 33), (⟨"PackedCaseModel", "due", "(Z)I"⟩, 33), (⟨"PackedCaseModel", "readThing", "(I)V"⟩, 33), (⟨"PackedCaseModel", "number", "(II)I"⟩, 33)]
theorem lw_r3 : ∀ q ∈ lw_privs_3, lw_okq q := List.forall_mem_cons.mpr ⟨lw_p32, List.forall_mem_cons.mpr ⟨lw_p33, List.forall_mem_cons.mpr ⟨lw_p34, List.forall_mem_cons.mpr ⟨lw_p35, List.forall_mem_cons.mpr ⟨lw_p36, List.forall_mem_cons.mpr ⟨lw_p37, List.forall_mem_cons.mpr ⟨lw_p38, List.forall_mem_cons.mpr ⟨lw_p39, List.forall_mem_cons.mpr ⟨lw_p40, List.forall_mem_cons.mpr ⟨lw_p41, List.forall_mem_cons.mpr ⟨lw_p42, List.forall_mem_cons.mpr ⟨lw_p43, List.forall_mem_cons.mpr ⟨lw_p44, List.forall_mem_cons.mpr ⟨lw_p45, List.forall_mem_cons.mpr ⟨lw_p46, List.forall_mem_cons.mpr ⟨lw_p47, fun _ h => absurd h List.not_mem_nil⟩⟩⟩⟩⟩⟩⟩⟩⟩⟩⟩⟩⟩⟩⟩⟩
theorem lw_p48 : lw_okq (⟨"PackedCaseModel", "optional", "(I)Z"⟩, 33) := ⟨⟨by decide +kernel, by decide +kernel⟩, List.mem_of_getElem? (i := 994) (by decide +kernel), List.mem_of_getElem? (i := 1144) (by decide +kernel), List.mem_of_getElem? (i := 1145) (by decide +kernel)⟩
theorem lw_p49 : lw_okq (⟨"PackedCaseModel", "readDay", "()V"⟩, 33) := ⟨⟨by decide +kernel, by decide +kernel⟩, List.mem_of_getElem? (i := 994) (by decide +kernel), List.mem_of_getElem? (i := 1148) (by decide +kernel), List.mem_of_getElem? (i := 1149) (by decide +kernel)⟩
theorem lw_p50 : lw_okq (⟨"PackedCaseModel", "allThings", "()I"⟩, 33) := ⟨⟨by decide +kernel, by decide +kernel⟩, List.mem_of_getElem? (i := 994) (by decide +kernel), List.mem_of_getElem? (i := 1152) (by decide +kernel), List.mem_of_getElem? (i := 1153) (by decide +kernel)⟩
theorem lw_p51 : lw_okq (⟨"PackedCaseModel", "isThing", "(I)Z"⟩, 33) := ⟨⟨by decide +kernel, by decide +kernel⟩, List.mem_of_getElem? (i := 994) (by decide +kernel), List.mem_of_getElem? (i := 1160) (by decide +kernel), List.mem_of_getElem? (i := 1161) (by decide +kernel)⟩
theorem lw_p52 : lw_okq (⟨"PackedCaseModel", "of", "(II)I"⟩, 33) := ⟨⟨by decide +kernel, by decide +kernel⟩, List.mem_of_getElem? (i := 994) (by decide +kernel), List.mem_of_getElem? (i := 1167) (by decide +kernel), List.mem_of_getElem? (i := 1168) (by decide +kernel)⟩
theorem lw_p53 : lw_okq (⟨"PackedCaseModel", "isGoing", "(II)Z"⟩, 33) := ⟨⟨by decide +kernel, by decide +kernel⟩, List.mem_of_getElem? (i := 994) (by decide +kernel), List.mem_of_getElem? (i := 1175) (by decide +kernel), List.mem_of_getElem? (i := 1176) (by decide +kernel)⟩
theorem lw_p54 : lw_okq (⟨"PackedCaseModel", "mayWear", "(IIII)Z"⟩, 33) := ⟨⟨by decide +kernel, by decide +kernel⟩, List.mem_of_getElem? (i := 994) (by decide +kernel), List.mem_of_getElem? (i := 1195) (by decide +kernel), List.mem_of_getElem? (i := 1196) (by decide +kernel)⟩
theorem lw_p55 : lw_okq (⟨"PackedCaseModel", "warmestCoat", "(I)I"⟩, 33) := ⟨⟨by decide +kernel, by decide +kernel⟩, List.mem_of_getElem? (i := 994) (by decide +kernel), List.mem_of_getElem? (i := 1202) (by decide +kernel), List.mem_of_getElem? (i := 1203) (by decide +kernel)⟩
theorem lw_p56 : lw_okq (⟨"PackedCaseModel", "hasCoat", "(I)Z"⟩, 33) := ⟨⟨by decide +kernel, by decide +kernel⟩, List.mem_of_getElem? (i := 994) (by decide +kernel), List.mem_of_getElem? (i := 1209) (by decide +kernel), List.mem_of_getElem? (i := 1210) (by decide +kernel)⟩
theorem lw_p57 : lw_okq (⟨"PackedCaseModel", "behind", "(IIIIIZ)I"⟩, 33) := ⟨⟨by decide +kernel, by decide +kernel⟩, List.mem_of_getElem? (i := 994) (by decide +kernel), List.mem_of_getElem? (i := 1213) (by decide +kernel), List.mem_of_getElem? (i := 1214) (by decide +kernel)⟩
theorem lw_p58 : lw_okq (⟨"PackedCaseModel", "worn", "(IIZ)I"⟩, 33) := ⟨⟨by decide +kernel, by decide +kernel⟩, List.mem_of_getElem? (i := 994) (by decide +kernel), List.mem_of_getElem? (i := 1217) (by decide +kernel), List.mem_of_getElem? (i := 1218) (by decide +kernel)⟩
theorem lw_p59 : lw_okq (⟨"PackedCaseModel", "isServing", "(II)Z"⟩, 33) := ⟨⟨by decide +kernel, by decide +kernel⟩, List.mem_of_getElem? (i := 994) (by decide +kernel), List.mem_of_getElem? (i := 1229) (by decide +kernel), List.mem_of_getElem? (i := 1230) (by decide +kernel)⟩
theorem lw_p60 : lw_okq (⟨"PackedCaseModel", "servesFrom", "(IIII)Z"⟩, 33) := ⟨⟨by decide +kernel, by decide +kernel⟩, List.mem_of_getElem? (i := 994) (by decide +kernel), List.mem_of_getElem? (i := 1233) (by decide +kernel), List.mem_of_getElem? (i := 1234) (by decide +kernel)⟩
theorem lw_p61 : lw_okq (⟨"PackedCaseModel", "begin", "(I)V"⟩, 33) := ⟨⟨by decide +kernel, by decide +kernel⟩, List.mem_of_getElem? (i := 994) (by decide +kernel), List.mem_of_getElem? (i := 1237) (by decide +kernel), List.mem_of_getElem? (i := 1238) (by decide +kernel)⟩
theorem lw_p62 : lw_okq (⟨"PackedCaseModel", "goDay", "(III)V"⟩, 33) := ⟨⟨by decide +kernel, by decide +kernel⟩, List.mem_of_getElem? (i := 994) (by decide +kernel), List.mem_of_getElem? (i := 1241) (by decide +kernel), List.mem_of_getElem? (i := 1242) (by decide +kernel)⟩
theorem lw_p63 : lw_okq (⟨"PackedCaseModel", "isRain", "(II)Z"⟩, 33) := ⟨⟨by decide +kernel, by decide +kernel⟩, List.mem_of_getElem? (i := 994) (by decide +kernel), List.mem_of_getElem? (i := 1245) (by decide +kernel), List.mem_of_getElem? (i := 1246) (by decide +kernel)⟩
def lw_privs_4 : List (MethodName × Nat) := [(⟨"PackedCaseModel", "optional", "(I)Z"⟩, 33), (⟨"PackedCaseModel", "readDay", "()V"⟩, 33), (⟨"PackedCaseModel", "allThings", "()I"⟩, 33), (⟨"PackedCaseModel", "isThing", "(I)Z"⟩, 33), (⟨"PackedCaseModel", "of", "(II)I"⟩, 33), (⟨"PackedCaseModel", "isGoing", "(II)Z"⟩, 33), (⟨"PackedCaseModel", "mayWear", "(IIII)Z"⟩, 33), (⟨"PackedCaseModel", "warmestCoat", "(I)I"⟩, 33), (⟨"PackedCaseModel", "hasCoat", "(I)Z"⟩, 33), (⟨"PackedCaseModel", "behind", "(IIIIIZ)I"⟩, 33), (⟨"PackedCaseModel", "worn", "(IIZ)I"⟩, 33), (⟨"PackedCaseModel", "isServing", "(II)Z"⟩, 33), (⟨"PackedCaseModel", "servesFrom", "(IIII)Z"⟩, 33), (⟨"PackedCaseModel", "begin", "(I)V"⟩, 33), (⟨"PackedCaseModel", "goDay", "(III)V"⟩, 33), (⟨"PackedCaseModel", "isRain", "(II)Z"⟩, 33)]
theorem lw_r4 : ∀ q ∈ lw_privs_4, lw_okq q := List.forall_mem_cons.mpr ⟨lw_p48, List.forall_mem_cons.mpr ⟨lw_p49, List.forall_mem_cons.mpr ⟨lw_p50, List.forall_mem_cons.mpr ⟨lw_p51, List.forall_mem_cons.mpr ⟨lw_p52, List.forall_mem_cons.mpr ⟨lw_p53, List.forall_mem_cons.mpr ⟨lw_p54, List.forall_mem_cons.mpr ⟨lw_p55, List.forall_mem_cons.mpr ⟨lw_p56, List.forall_mem_cons.mpr ⟨lw_p57, List.forall_mem_cons.mpr ⟨lw_p58, List.forall_mem_cons.mpr ⟨lw_p59, List.forall_mem_cons.mpr ⟨lw_p60, List.forall_mem_cons.mpr ⟨lw_p61, List.forall_mem_cons.mpr ⟨lw_p62, List.forall_mem_cons.mpr ⟨lw_p63, fun _ h => absurd h List.not_mem_nil⟩⟩⟩⟩⟩⟩⟩⟩⟩⟩⟩⟩⟩⟩⟩⟩
theorem lw_p64 : lw_okq (⟨"PackedCaseModel", "findPlan", "(II)Z"⟩, 33) := ⟨⟨by decide +kernel, by decide +kernel⟩, List.mem_of_getElem? (i := 994) (by decide +kernel), List.mem_of_getElem? (i := 1253) (by decide +kernel), List.mem_of_getElem? (i := 1254) (by decide +kernel)⟩
theorem lw_p65 : lw_okq (⟨"PackedCaseModel", "oddsOf", "(I)I"⟩, 33) := ⟨⟨by decide +kernel, by decide +kernel⟩, List.mem_of_getElem? (i := 994) (by decide +kernel), List.mem_of_getElem? (i := 1261) (by decide +kernel), List.mem_of_getElem? (i := 1262) (by decide +kernel)⟩
theorem lw_p66 : lw_okq (⟨"PackedCaseModel", "sumOf", "(II)I"⟩, 33) := ⟨⟨by decide +kernel, by decide +kernel⟩, List.mem_of_getElem? (i := 994) (by decide +kernel), List.mem_of_getElem? (i := 1269) (by decide +kernel), List.mem_of_getElem? (i := 1270) (by decide +kernel)⟩
theorem lw_p67 : lw_okq (⟨"PackedCaseModel", "firstDay", "(I)I"⟩, 33) := ⟨⟨by decide +kernel, by decide +kernel⟩, List.mem_of_getElem? (i := 994) (by decide +kernel), List.mem_of_getElem? (i := 1277) (by decide +kernel), List.mem_of_getElem? (i := 1278) (by decide +kernel)⟩
theorem lw_p68 : lw_okq (⟨"PackedCaseModel", "lay", "(II)Z"⟩, 33) := ⟨⟨by decide +kernel, by decide +kernel⟩, List.mem_of_getElem? (i := 994) (by decide +kernel), List.mem_of_getElem? (i := 1296) (by decide +kernel), List.mem_of_getElem? (i := 1297) (by decide +kernel)⟩
theorem lw_p69 : lw_okq (⟨"PackedCaseModel", "troubles", "(I)I"⟩, 33) := ⟨⟨by decide +kernel, by decide +kernel⟩, List.mem_of_getElem? (i := 994) (by decide +kernel), List.mem_of_getElem? (i := 1300) (by decide +kernel), List.mem_of_getElem? (i := 1301) (by decide +kernel)⟩
theorem lw_p70 : lw_okq (⟨"PackedCaseModel", "upTo", "(I)I"⟩, 33) := ⟨⟨by decide +kernel, by decide +kernel⟩, List.mem_of_getElem? (i := 994) (by decide +kernel), List.mem_of_getElem? (i := 1323) (by decide +kernel), List.mem_of_getElem? (i := 1324) (by decide +kernel)⟩
theorem lw_p71 : lw_okq (⟨"PackedCaseModel", "copy", "(II)V"⟩, 33) := ⟨⟨by decide +kernel, by decide +kernel⟩, List.mem_of_getElem? (i := 994) (by decide +kernel), List.mem_of_getElem? (i := 1341) (by decide +kernel), List.mem_of_getElem? (i := 1342) (by decide +kernel)⟩
def lw_privs_5 : List (MethodName × Nat) := [(⟨"PackedCaseModel", "findPlan", "(II)Z"⟩, 33), (⟨"PackedCaseModel", "oddsOf", "(I)I"⟩, 33), (⟨"PackedCaseModel", "sumOf", "(II)I"⟩, 33), (⟨"PackedCaseModel", "firstDay", "(I)I"⟩, 33), (⟨"PackedCaseModel", "lay", "(II)Z"⟩, 33), (⟨"PackedCaseModel", "troubles", "(I)I"⟩, 33), (⟨"PackedCaseModel", "upTo", "(I)I"⟩, 33), (⟨"PackedCaseModel", "copy", "(II)V"⟩, 33)]
theorem lw_r5 : ∀ q ∈ lw_privs_5, lw_okq q := List.forall_mem_cons.mpr ⟨lw_p64, List.forall_mem_cons.mpr ⟨lw_p65, List.forall_mem_cons.mpr ⟨lw_p66, List.forall_mem_cons.mpr ⟨lw_p67, List.forall_mem_cons.mpr ⟨lw_p68, List.forall_mem_cons.mpr ⟨lw_p69, List.forall_mem_cons.mpr ⟨lw_p70, List.forall_mem_cons.mpr ⟨lw_p71, fun _ h => absurd h List.not_mem_nil⟩⟩⟩⟩⟩⟩⟩⟩
def lw_privs : List (MethodName × Nat) := lw_privs_1 ++ (lw_privs_2 ++ (lw_privs_3 ++ (lw_privs_4 ++ (lw_privs_5))))
def lw_tbl : List Cond := k2_sels lw_privs ++ tables_1
theorem lw_privs_ok : ∀ q ∈ lw_privs, lw_okq q := by
  show ∀ q ∈ lw_privs_1 ++ (lw_privs_2 ++ (lw_privs_3 ++ (lw_privs_4 ++ (lw_privs_5)))), lw_okq q
  exact List.forall_mem_append.mpr ⟨lw_r1, List.forall_mem_append.mpr ⟨lw_r2, List.forall_mem_append.mpr ⟨lw_r3, List.forall_mem_append.mpr ⟨lw_r4, lw_r5⟩⟩⟩⟩
-- ===== end of PART A; then your names; then what follows =====
/-! ===== BEGIN words of one list among another's, by their places ===== -/
theorem goodIn_r {big : List Cond} (ws : List Cond) (ps : List Nat) (hp : ws = ps.filterMap (fun i => big[i]?)) (h : ws.all goodWord = true) : GoodIn big ws := by
  intro w hw
  have h1 := List.all_eq_true.mp h w hw
  rw [hp] at hw
  obtain ⟨i, -, hi⟩ := List.mem_filterMap.mp hw
  have hm : w ∈ big := by first | exact List.mem_of_getElem? hi | exact List.getElem?_mem hi
  exact ⟨hm, good_of_word h1⟩
theorem goodIn_app {big a b : List Cond} (ha : GoodIn big a) (hb : GoodIn big b) : GoodIn big (a ++ b) := fun w h => (List.mem_append.mp h).elim (ha w) (hb w)
theorem goodIn_ca {big a b : List Cond} {c : Cond} (ha : GoodIn big (c :: a)) (hb : GoodIn big b) : GoodIn big (c :: (a ++ b)) := fun w h => (List.mem_cons.mp h).elim (fun e => ha w (List.mem_cons.mpr (Or.inl e))) (fun h => (List.mem_append.mp h).elim (fun h => ha w (List.mem_cons.mpr (Or.inr h))) (hb w))
theorem goodIn_sub {big ws : List Cond} (hm : ∀ w ∈ ws, w ∈ big) (h : ws.all goodWord = true) : GoodIn big ws := fun w hw => ⟨hm w hw, good_of_word (List.all_eq_true.mp h w hw)⟩
/-! ===== END ===== -/
end
section
-- part 02: names (printed by wip/gen/emit02.py out of the claim's own lists)
def lw_t : List Cond := lw_tbl.filter goodWord
theorem lw_tgood : GoodIn lw_t lw_t := goodIn_sub (fun w h => h) (List.all_eq_true.mpr (fun w h => (List.mem_filter.mp h).2))
theorem mt0 {w : Cond} (h : w ∈ lw_tbl) (hg : goodWord w = true) : w ∈ lw_t := List.mem_filter.mpr ⟨h, hg⟩
theorem mts {w : Cond} (h : w ∈ k2_sels lw_privs) (hg : goodWord w = true) : w ∈ lw_t := mt0 (List.mem_append.mpr (Or.inl h)) hg
theorem mt1 {w : Cond} (i : Nat) (hi : tables_1_1[i]? = some w) (hg : goodWord w = true) : w ∈ lw_t := have h := List.mem_of_getElem? hi; mt0 (List.mem_append.mpr (Or.inr (List.mem_append.mpr (Or.inl h)))) hg
theorem mt2 {w : Cond} (i : Nat) (hi : tables_1_2[i]? = some w) (hg : goodWord w = true) : w ∈ lw_t := have h := List.mem_of_getElem? hi; mt0 (List.mem_append.mpr (Or.inr (List.mem_append.mpr (Or.inr (List.mem_append.mpr (Or.inl h)))))) hg
theorem mt3 {w : Cond} (i : Nat) (hi : tables_1_3[i]? = some w) (hg : goodWord w = true) : w ∈ lw_t := have h := List.mem_of_getElem? hi; mt0 (List.mem_append.mpr (Or.inr (List.mem_append.mpr (Or.inr (List.mem_append.mpr (Or.inr (List.mem_append.mpr (Or.inl h)))))))) hg
theorem mt4 {w : Cond} (i : Nat) (hi : tables_1_4[i]? = some w) (hg : goodWord w = true) : w ∈ lw_t := have h := List.mem_of_getElem? hi; mt0 (List.mem_append.mpr (Or.inr (List.mem_append.mpr (Or.inr (List.mem_append.mpr (Or.inr (List.mem_append.mpr (Or.inr (List.mem_append.mpr (Or.inl h)))))))))) hg
theorem mt5 {w : Cond} (i : Nat) (hi : tables_1_5[i]? = some w) (hg : goodWord w = true) : w ∈ lw_t := have h := List.mem_of_getElem? hi; mt0 (List.mem_append.mpr (Or.inr (List.mem_append.mpr (Or.inr (List.mem_append.mpr (Or.inr (List.mem_append.mpr (Or.inr (List.mem_append.mpr (Or.inr (List.mem_append.mpr (Or.inl h)))))))))))) hg
theorem mt6 {w : Cond} (i : Nat) (hi : tables_1_6[i]? = some w) (hg : goodWord w = true) : w ∈ lw_t := have h := List.mem_of_getElem? hi; mt0 (List.mem_append.mpr (Or.inr (List.mem_append.mpr (Or.inr (List.mem_append.mpr (Or.inr (List.mem_append.mpr (Or.inr (List.mem_append.mpr (Or.inr (List.mem_append.mpr (Or.inr h)))))))))))) hg
def RX0 : String := "PackedCase$Chooser"
def TX0 : u_T := fun k => match k with
  | 0 => ("PackedCase$Chooser", "trip", "LPackedCase$Trip;", true)
  | 1 => ("PackedCase$Chooser", "planner", "LPackedCase$Planner;", true)
  | _ => ("PackedCase$Chooser", "known", "[I", true)
def tyX0 : Nat → FieldType := fun k => match k with
  | 0 => .object "PackedCase$Trip"
  | 1 => .object "PackedCase$Planner"
  | _ => .array .int
theorem nmX0 : ∀ a, a < 3 → ∀ b, b < 3 → a ≠ b → (TX0 a).2.1 ≠ (TX0 b).2.1 := by decide +kernel
theorem tyX0_ok : ∀ k, k < 3 → parseFieldDescriptor (TX0 k).2.2.1 = some (tyX0 k) := by decide +kernel
abbrev cX0_init : ByteArray := prog_2_method_1_code
def yX0_init : MethodName := ⟨RX0, "<init>", "(LPackedCase$Trip;LPackedCase$Planner;)V"⟩
abbrev cX0_forget : ByteArray := prog_2_method_2_code
def yX0_forget : MethodName := ⟨RX0, "forget", "()V"⟩
abbrev cX0_chances : ByteArray := prog_2_method_3_code
def yX0_chances : MethodName := ⟨RX0, "chances", "(I)I"⟩
abbrev cX0_chanceOf : ByteArray := prog_2_method_4_code
def yX0_chanceOf : MethodName := ⟨RX0, "chanceOf", "(I)I"⟩
abbrev cX0_smallest : ByteArray := prog_2_method_5_code
def yX0_smallest : MethodName := ⟨RX0, "smallest", "(II)I"⟩
abbrev cX0_spares : ByteArray := prog_2_method_6_code
def yX0_spares : MethodName := ⟨RX0, "spares", "(II)I"⟩
abbrev cX0_purchase : ByteArray := prog_2_method_7_code
def yX0_purchase : MethodName := ⟨RX0, "purchase", "(II)I"⟩
abbrev cX0_takenOff : ByteArray := prog_2_method_8_code
def yX0_takenOff : MethodName := ⟨RX0, "takenOff", "(III)I"⟩
abbrev cX0_largestMatch : ByteArray := prog_2_method_9_code
def yX0_largestMatch : MethodName := ⟨RX0, "largestMatch", "()I"⟩
abbrev cX0_allMatch : ByteArray := prog_2_method_10_code
def yX0_allMatch : MethodName := ⟨RX0, "allMatch", "(I)Z"⟩
def RX1 : String := "PackedCase$Kinds"
def TX1 : u_T := fun k => match k with
  | 0 => ("PackedCase$Kinds", "trip", "LPackedCase$Trip;", true)
  | _ => ("PackedCase$Kinds", "asked", "J", false)
def tyX1 : Nat → FieldType := fun k => match k with
  | 0 => .object "PackedCase$Trip"
  | _ => .long
theorem nmX1 : ∀ a, a < 2 → ∀ b, b < 2 → a ≠ b → (TX1 a).2.1 ≠ (TX1 b).2.1 := by decide +kernel
theorem tyX1_ok : ∀ k, k < 2 → parseFieldDescriptor (TX1 k).2.2.1 = some (tyX1 k) := by decide +kernel
abbrev cX1_init : ByteArray := prog_3_method_1_code
def yX1_init : MethodName := ⟨RX1, "<init>", "(LPackedCase$Trip;)V"⟩
abbrev cX1_isKind : ByteArray := prog_3_method_2_code
def yX1_isKind : MethodName := ⟨RX1, "isKind", "(I)Z"⟩
abbrev cX1_asked : ByteArray := prog_3_method_3_code
def yX1_asked : MethodName := ⟨RX1, "asked", "()J"⟩
abbrev cX1_ask : ByteArray := prog_3_method_4_code
def yX1_ask : MethodName := ⟨RX1, "ask", "(III)I"⟩
abbrev cX1_asThing : ByteArray := prog_3_method_5_code
def yX1_asThing : MethodName := ⟨RX1, "asThing", "(I)I"⟩
abbrev cX1_asOnce : ByteArray := prog_3_method_6_code
def yX1_asOnce : MethodName := ⟨RX1, "asOnce", "(I)I"⟩
abbrev cX1_asSpare : ByteArray := prog_3_method_7_code
def yX1_asSpare : MethodName := ⟨RX1, "asSpare", "(I)I"⟩
abbrev cX1_asDouble : ByteArray := prog_3_method_8_code
def yX1_asDouble : MethodName := ⟨RX1, "asDouble", "(I)I"⟩
abbrev cX1_asBought : ByteArray := prog_3_method_9_code
def yX1_asBought : MethodName := ⟨RX1, "asBought", "(I)I"⟩
abbrev cX1_asSingle : ByteArray := prog_3_method_10_code
def yX1_asSingle : MethodName := ⟨RX1, "asSingle", "(II)I"⟩
def RX2 : String := "PackedCase$Life"
def TX2 : u_T := fun k => match k with
  | 0 => ("PackedCase$Life", "date", "I", false)
  | 1 => ("PackedCase$Life", "how", "I", false)
  | 2 => ("PackedCase$Life", "set", "I", false)
  | _ => ("PackedCase$Life", "kept", "Z", false)
def tyX2 : Nat → FieldType := fun k => match k with
  | 0 => .int
  | 1 => .int
  | 2 => .int
  | _ => .boolean
theorem nmX2 : ∀ a, a < 4 → ∀ b, b < 4 → a ≠ b → (TX2 a).2.1 ≠ (TX2 b).2.1 := by decide +kernel
theorem tyX2_ok : ∀ k, k < 4 → parseFieldDescriptor (TX2 k).2.2.1 = some (tyX2 k) := by decide +kernel
abbrev cX2_init : ByteArray := prog_4_method_1_code
def yX2_init : MethodName := ⟨RX2, "<init>", "()V"⟩
abbrev cX2_date : ByteArray := prog_4_method_2_code
def yX2_date : MethodName := ⟨RX2, "date", "()I"⟩
abbrev cX2_how : ByteArray := prog_4_method_3_code
def yX2_how : MethodName := ⟨RX2, "how", "()I"⟩
abbrev cX2_set : ByteArray := prog_4_method_4_code
def yX2_set : MethodName := ⟨RX2, "set", "()I"⟩
abbrev cX2_isKept : ByteArray := prog_4_method_5_code
def yX2_isKept : MethodName := ⟨RX2, "isKept", "()Z"⟩
abbrev cX2_forget : ByteArray := prog_4_method_6_code
def yX2_forget : MethodName := ⟨RX2, "forget", "()V"⟩
abbrev cX2_start : ByteArray := prog_4_method_7_code
def yX2_start : MethodName := ⟨RX2, "start", "(I)V"⟩
abbrev cX2_copy : ByteArray := prog_4_method_8_code
def yX2_copy : MethodName := ⟨RX2, "copy", "(LPackedCase$Life;)V"⟩
abbrev cX2_isOver : ByteArray := prog_4_method_9_code
def yX2_isOver : MethodName := ⟨RX2, "isOver", "(LPackedCase$Trip;)Z"⟩
abbrev cX2_fresh : ByteArray := prog_4_method_10_code
def yX2_fresh : MethodName := ⟨RX2, "fresh", "(LPackedCase$Trip;)I"⟩
abbrev cX2_mayWear : ByteArray := prog_4_method_11_code
def yX2_mayWear : MethodName := ⟨RX2, "mayWear", "(LPackedCase$Trip;III)Z"⟩
abbrev cX2_wear : ByteArray := prog_4_method_12_code
def yX2_wear : MethodName := ⟨RX2, "wear", "(LPackedCase$Trip;IIII)V"⟩
def RX3 : String := "PackedCase$Lists"
def TX3 : u_T := fun k => match k with
  | 0 => ("PackedCase$Lists", "on", "[I", true)
  | 1 => ("PackedCase$Lists", "size", "I", false)
  | 2 => ("PackedCase$Lists", "allHad", "I", false)
  | _ => ("PackedCase$Lists", "allOn", "I", false)
def tyX3 : Nat → FieldType := fun k => match k with
  | 0 => .array .int
  | 1 => .int
  | 2 => .int
  | _ => .int
theorem nmX3 : ∀ a, a < 4 → ∀ b, b < 4 → a ≠ b → (TX3 a).2.1 ≠ (TX3 b).2.1 := by decide +kernel
theorem tyX3_ok : ∀ k, k < 4 → parseFieldDescriptor (TX3 k).2.2.1 = some (tyX3 k) := by decide +kernel
abbrev cX3_init : ByteArray := prog_5_method_1_code
def yX3_init : MethodName := ⟨RX3, "<init>", "()V"⟩
abbrev cX3_size : ByteArray := prog_5_method_2_code
def yX3_size : MethodName := ⟨RX3, "size", "()I"⟩
abbrev cX3_add : ByteArray := prog_5_method_3_code
def yX3_add : MethodName := ⟨RX3, "add", "(II)Z"⟩
abbrev cX3_onAt : ByteArray := prog_5_method_4_code
def yX3_onAt : MethodName := ⟨RX3, "onAt", "(I)I"⟩
abbrev cX3_wasteUpper : ByteArray := prog_5_method_5_code
def yX3_wasteUpper : MethodName := ⟨RX3, "wasteUpper", "()I"⟩
abbrev cX3_wasteLower : ByteArray := prog_5_method_6_code
def yX3_wasteLower : MethodName := ⟨RX3, "wasteLower", "()I"⟩
abbrev cX3_lowered : ByteArray := prog_5_method_7_code
def yX3_lowered : MethodName := ⟨RX3, "lowered", "(I)I"⟩
def RX4 : String := "PackedCase$Packer"
def TX4 : u_T := fun k => match k with
  | 0 => ("PackedCase$Packer", "trip", "LPackedCase$Trip;", true)
  | 1 => ("PackedCase$Packer", "planner", "LPackedCase$Planner;", true)
  | 2 => ("PackedCase$Packer", "firstDay", "[I", true)
  | 3 => ("PackedCase$Packer", "layer", "[I", true)
  | 4 => ("PackedCase$Packer", "bestLayer", "[I", true)
  | 5 => ("PackedCase$Packer", "room", "[I", true)
  | 6 => ("PackedCase$Packer", "set", "I", false)
  | 7 => ("PackedCase$Packer", "layers", "I", false)
  | _ => ("PackedCase$Packer", "leastTrouble", "I", false)
def tyX4 : Nat → FieldType := fun k => match k with
  | 0 => .object "PackedCase$Trip"
  | 1 => .object "PackedCase$Planner"
  | 2 => .array .int
  | 3 => .array .int
  | 4 => .array .int
  | 5 => .array .int
  | 6 => .int
  | 7 => .int
  | _ => .int
theorem nmX4 : ∀ a, a < 9 → ∀ b, b < 9 → a ≠ b → (TX4 a).2.1 ≠ (TX4 b).2.1 := by decide +kernel
theorem tyX4_ok : ∀ k, k < 9 → parseFieldDescriptor (TX4 k).2.2.1 = some (tyX4 k) := by decide +kernel
abbrev cX4_init : ByteArray := prog_6_method_1_code
def yX4_init : MethodName := ⟨RX4, "<init>", "(LPackedCase$Trip;LPackedCase$Planner;)V"⟩
abbrev cX4_arrange : ByteArray := prog_6_method_2_code
def yX4_arrange : MethodName := ⟨RX4, "arrange", "(III)Z"⟩
abbrev cX4_trouble : ByteArray := prog_6_method_3_code
def yX4_trouble : MethodName := ⟨RX4, "trouble", "()I"⟩
abbrev cX4_layerOf : ByteArray := prog_6_method_4_code
def yX4_layerOf : MethodName := ⟨RX4, "layerOf", "(I)I"⟩
abbrev cX4_lay : ByteArray := prog_6_method_5_code
def yX4_lay : MethodName := ⟨RX4, "lay", "(II)V"⟩
abbrev cX4_troubleOf : ByteArray := prog_6_method_6_code
def yX4_troubleOf : MethodName := ⟨RX4, "troubleOf", "(I)I"⟩
def RX5 : String := "PackedCase$Planner"
def TX5 : u_T := fun k => match k with
  | 0 => ("PackedCase$Planner", "trip", "LPackedCase$Trip;", true)
  | 1 => ("PackedCase$Planner", "pairs", "[I", true)
  | 2 => ("PackedCase$Planner", "pairsOn", "[I", true)
  | 3 => ("PackedCase$Planner", "picked", "[I", true)
  | 4 => ("PackedCase$Planner", "washed", "[I", true)
  | 5 => ("PackedCase$Planner", "failed", "[J", true)
  | 6 => ("PackedCase$Planner", "reached", "[J", true)
  | 7 => ("PackedCase$Planner", "nextReached", "[J", true)
  | _ => ("PackedCase$Planner", "soaking", "I", false)
def tyX5 : Nat → FieldType := fun k => match k with
  | 0 => .object "PackedCase$Trip"
  | 1 => .array .int
  | 2 => .array .int
  | 3 => .array .int
  | 4 => .array .int
  | 5 => .array .long
  | 6 => .array .long
  | 7 => .array .long
  | _ => .int
theorem nmX5 : ∀ a, a < 9 → ∀ b, b < 9 → a ≠ b → (TX5 a).2.1 ≠ (TX5 b).2.1 := by decide +kernel
theorem tyX5_ok : ∀ k, k < 9 → parseFieldDescriptor (TX5 k).2.2.1 = some (tyX5 k) := by decide +kernel
abbrev cX5_init : ByteArray := prog_7_method_1_code
def yX5_init : MethodName := ⟨RX5, "<init>", "(LPackedCase$Trip;)V"⟩
abbrev cX5_find : ByteArray := prog_7_method_2_code
def yX5_find : MethodName := ⟨RX5, "find", "(II)Z"⟩
abbrev cX5_topOn : ByteArray := prog_7_method_3_code
def yX5_topOn : MethodName := ⟨RX5, "topOn", "(I)I"⟩
abbrev cX5_bottomOn : ByteArray := prog_7_method_4_code
def yX5_bottomOn : MethodName := ⟨RX5, "bottomOn", "(I)I"⟩
abbrev cX5_washOn : ByteArray := prog_7_method_5_code
def yX5_washOn : MethodName := ⟨RX5, "washOn", "(I)I"⟩
abbrev cX5_firstDayOf : ByteArray := prog_7_method_6_code
def yX5_firstDayOf : MethodName := ⟨RX5, "firstDayOf", "(I)I"⟩
abbrev cX5_neverOn : ByteArray := prog_7_method_7_code
def yX5_neverOn : MethodName := ⟨RX5, "neverOn", "(I)I"⟩
abbrev cX5_times : ByteArray := prog_7_method_8_code
def yX5_times : MethodName := ⟨RX5, "times", "(I)I"⟩
abbrev cX5_prepare : ByteArray := prog_7_method_9_code
def yX5_prepare : MethodName := ⟨RX5, "prepare", "(II)V"⟩
abbrev cX5_isDay : ByteArray := prog_7_method_10_code
def yX5_isDay : MethodName := ⟨RX5, "isDay", "(I)Z"⟩
abbrev cX5_livesOn : ByteArray := prog_7_method_11_code
def yX5_livesOn : MethodName := ⟨RX5, "livesOn", "(II)Z"⟩
abbrev cX5_livesOnWith : ByteArray := prog_7_method_12_code
def yX5_livesOnWith : MethodName := ⟨RX5, "livesOnWith", "(III)Z"⟩
abbrev cX5_reachNext : ByteArray := prog_7_method_13_code
def yX5_reachNext : MethodName := ⟨RX5, "reachNext", "(I)Z"⟩
abbrev cX5_reachFrom : ByteArray := prog_7_method_14_code
def yX5_reachFrom : MethodName := ⟨RX5, "reachFrom", "(II)Z"⟩
abbrev cX5_mark : ByteArray := prog_7_method_15_code
def yX5_mark : MethodName := ⟨RX5, "mark", "(I)V"⟩
def RX6 : String := "PackedCase$Reader"
def TX6 : u_T := fun k => match k with
  | 0 => ("PackedCase$Reader", "text", "LPackedCase$Text;", true)
  | 1 => ("PackedCase$Reader", "trip", "LPackedCase$Trip;", true)
  | 2 => ("PackedCase$Reader", "codes", "[I", true)
  | 3 => ("PackedCase$Reader", "starts", "[I", true)
  | 4 => ("PackedCase$Reader", "tokens", "I", false)
  | 5 => ("PackedCase$Reader", "next", "I", false)
  | _ => ("PackedCase$Reader", "taken", "I", false)
def tyX6 : Nat → FieldType := fun k => match k with
  | 0 => .object "PackedCase$Text"
  | 1 => .object "PackedCase$Trip"
  | 2 => .array .int
  | 3 => .array .int
  | 4 => .int
  | 5 => .int
  | _ => .int
theorem nmX6 : ∀ a, a < 7 → ∀ b, b < 7 → a ≠ b → (TX6 a).2.1 ≠ (TX6 b).2.1 := by decide +kernel
theorem tyX6_ok : ∀ k, k < 7 → parseFieldDescriptor (TX6 k).2.2.1 = some (tyX6 k) := by decide +kernel
abbrev cX6_init : ByteArray := prog_8_method_1_code
def yX6_init : MethodName := ⟨RX6, "<init>", "(LPackedCase$Text;LPackedCase$Trip;)V"⟩
abbrev cX6_read : ByteArray := prog_8_method_2_code
def yX6_read : MethodName := ⟨RX6, "read", "()I"⟩
abbrev cX6_split : ByteArray := prog_8_method_3_code
def yX6_split : MethodName := ⟨RX6, "split", "()V"⟩
abbrev cX6_addToken : ByteArray := prog_8_method_4_code
def yX6_addToken : MethodName := ⟨RX6, "addToken", "(II)V"⟩
abbrev cX6_endOf : ByteArray := prog_8_method_5_code
def yX6_endOf : MethodName := ⟨RX6, "endOf", "(I)I"⟩
abbrev cX6_codeOf : ByteArray := prog_8_method_6_code
def yX6_codeOf : MethodName := ⟨RX6, "codeOf", "(II)I"⟩
abbrev cX6_numberCode : ByteArray := prog_8_method_7_code
def yX6_numberCode : MethodName := ⟨RX6, "numberCode", "(II)I"⟩
abbrev cX6_wordCode : ByteArray := prog_8_method_8_code
def yX6_wordCode : MethodName := ⟨RX6, "wordCode", "(II)I"⟩
abbrev cX6_isWord : ByteArray := prog_8_method_9_code
def yX6_isWord : MethodName := ⟨RX6, "isWord", "(Ljava/lang/String;II)Z"⟩
abbrev cX6_isDigit : ByteArray := prog_8_method_10_code
def yX6_isDigit : MethodName := ⟨RX6, "isDigit", "(I)Z"⟩
abbrev cX6_isLetter : ByteArray := prog_8_method_11_code
def yX6_isLetter : MethodName := ⟨RX6, "isLetter", "(I)Z"⟩
abbrev cX6_readItem : ByteArray := prog_8_method_12_code
def yX6_readItem : MethodName := ⟨RX6, "readItem", "()Z"⟩
abbrev cX6_closeThing : ByteArray := prog_8_method_13_code
def yX6_closeThing : MethodName := ⟨RX6, "closeThing", "()Z"⟩
abbrev cX6_closeDay : ByteArray := prog_8_method_14_code
def yX6_closeDay : MethodName := ⟨RX6, "closeDay", "()Z"⟩
abbrev cX6_readThing : ByteArray := prog_8_method_15_code
def yX6_readThing : MethodName := ⟨RX6, "readThing", "()Z"⟩
abbrev cX6_readClothes : ByteArray := prog_8_method_16_code
def yX6_readClothes : MethodName := ⟨RX6, "readClothes", "()Z"⟩
abbrev cX6_readFact : ByteArray := prog_8_method_17_code
def yX6_readFact : MethodName := ⟨RX6, "readFact", "(III)Z"⟩
abbrev cX6_readApart : ByteArray := prog_8_method_18_code
def yX6_readApart : MethodName := ⟨RX6, "readApart", "()Z"⟩
abbrev cX6_readDay : ByteArray := prog_8_method_19_code
def yX6_readDay : MethodName := ⟨RX6, "readDay", "()Z"⟩
abbrev cX6_readRain : ByteArray := prog_8_method_20_code
def yX6_readRain : MethodName := ⟨RX6, "readRain", "()Z"⟩
abbrev cX6_readWant : ByteArray := prog_8_method_21_code
def yX6_readWant : MethodName := ⟨RX6, "readWant", "(II)Z"⟩
abbrev cX6_take : ByteArray := prog_8_method_22_code
def yX6_take : MethodName := ⟨RX6, "take", "(I)Z"⟩
abbrev cX6_takeNumber : ByteArray := prog_8_method_23_code
def yX6_takeNumber : MethodName := ⟨RX6, "takeNumber", "(II)Z"⟩
abbrev cX6_isNext : ByteArray := prog_8_method_24_code
def yX6_isNext : MethodName := ⟨RX6, "isNext", "(I)Z"⟩
abbrev cX6_codeOfNext : ByteArray := prog_8_method_25_code
def yX6_codeOfNext : MethodName := ⟨RX6, "codeOfNext", "()I"⟩
abbrev cX6_startOfNext : ByteArray := prog_8_method_26_code
def yX6_startOfNext : MethodName := ⟨RX6, "startOfNext", "()I"⟩
def RX7 : String := "PackedCase$Text"
def TX7 : u_T := fun k => match k with
  | 0 => ("PackedCase$Text", "bytes", "[B", true)
  | _ => ("PackedCase$Text", "length", "I", false)
def tyX7 : Nat → FieldType := fun k => match k with
  | 0 => .array .byte
  | _ => .int
theorem nmX7 : ∀ a, a < 2 → ∀ b, b < 2 → a ≠ b → (TX7 a).2.1 ≠ (TX7 b).2.1 := by decide +kernel
theorem tyX7_ok : ∀ k, k < 2 → parseFieldDescriptor (TX7 k).2.2.1 = some (tyX7 k) := by decide +kernel
abbrev cX7_init : ByteArray := prog_9_method_1_code
def yX7_init : MethodName := ⟨RX7, "<init>", "()V"⟩
abbrev cX7_length : ByteArray := prog_9_method_2_code
def yX7_length : MethodName := ⟨RX7, "length", "()I"⟩
abbrev cX7_hasRoom : ByteArray := prog_9_method_3_code
def yX7_hasRoom : MethodName := ⟨RX7, "hasRoom", "(I)Z"⟩
abbrev cX7_add : ByteArray := prog_9_method_4_code
def yX7_add : MethodName := ⟨RX7, "add", "(I)V"⟩
abbrev cX7_empty : ByteArray := prog_9_method_5_code
def yX7_empty : MethodName := ⟨RX7, "empty", "()V"⟩
abbrev cX7_at : ByteArray := prog_9_method_6_code
def yX7_at : MethodName := ⟨RX7, "at", "(I)I"⟩
def RX8 : String := "PackedCase$Trip"
def TX8 : u_T := fun k => match k with
  | 0 => ("PackedCase$Trip", "facts", "[I", true)
  | 1 => ("PackedCase$Trip", "wants", "[I", true)
  | 2 => ("PackedCase$Trip", "apart", "[I", true)
  | 3 => ("PackedCase$Trip", "things", "I", false)
  | 4 => ("PackedCase$Trip", "days", "I", false)
  | 5 => ("PackedCase$Trip", "unsureDays", "I", false)
  | 6 => ("PackedCase$Trip", "tops", "I", false)
  | 7 => ("PackedCase$Trip", "bottoms", "I", false)
  | 8 => ("PackedCase$Trip", "coats", "I", false)
  | 9 => ("PackedCase$Trip", "lasting", "I", false)
  | _ => ("PackedCase$Trip", "lateLowBits", "I", false)
def tyX8 : Nat → FieldType := fun k => match k with
  | 0 => .array .int
  | 1 => .array .int
  | 2 => .array .int
  | 3 => .int
  | 4 => .int
  | 5 => .int
  | 6 => .int
  | 7 => .int
  | 8 => .int
  | 9 => .int
  | _ => .int
theorem nmX8 : ∀ a, a < 11 → ∀ b, b < 11 → a ≠ b → (TX8 a).2.1 ≠ (TX8 b).2.1 := by decide +kernel
theorem tyX8_ok : ∀ k, k < 11 → parseFieldDescriptor (TX8 k).2.2.1 = some (tyX8 k) := by decide +kernel
abbrev cX8_init : ByteArray := prog_10_method_1_code
def yX8_init : MethodName := ⟨RX8, "<init>", "()V"⟩
abbrev cX8_empty : ByteArray := prog_10_method_2_code
def yX8_empty : MethodName := ⟨RX8, "empty", "()V"⟩
abbrev cX8_copy : ByteArray := prog_10_method_3_code
def yX8_copy : MethodName := ⟨RX8, "copy", "(LPackedCase$Trip;)V"⟩
abbrev cX8_things : ByteArray := prog_10_method_4_code
def yX8_things : MethodName := ⟨RX8, "things", "()I"⟩
abbrev cX8_days : ByteArray := prog_10_method_5_code
def yX8_days : MethodName := ⟨RX8, "days", "()I"⟩
abbrev cX8_unsureDays : ByteArray := prog_10_method_6_code
def yX8_unsureDays : MethodName := ⟨RX8, "unsureDays", "()I"⟩
abbrev cX8_allThings : ByteArray := prog_10_method_7_code
def yX8_allThings : MethodName := ⟨RX8, "allThings", "()I"⟩
abbrev cX8_tops : ByteArray := prog_10_method_8_code
def yX8_tops : MethodName := ⟨RX8, "tops", "()I"⟩
abbrev cX8_bottoms : ByteArray := prog_10_method_9_code
def yX8_bottoms : MethodName := ⟨RX8, "bottoms", "()I"⟩
abbrev cX8_coats : ByteArray := prog_10_method_10_code
def yX8_coats : MethodName := ⟨RX8, "coats", "()I"⟩
abbrev cX8_hasThing : ByteArray := prog_10_method_11_code
def yX8_hasThing : MethodName := ⟨RX8, "hasThing", "(I)Z"⟩
abbrev cX8_hasDay : ByteArray := prog_10_method_12_code
def yX8_hasDay : MethodName := ⟨RX8, "hasDay", "(I)Z"⟩
abbrev cX8_hasRoomForThing : ByteArray := prog_10_method_13_code
def yX8_hasRoomForThing : MethodName := ⟨RX8, "hasRoomForThing", "()Z"⟩
abbrev cX8_hasRoomForDay : ByteArray := prog_10_method_14_code
def yX8_hasRoomForDay : MethodName := ⟨RX8, "hasRoomForDay", "()Z"⟩
abbrev cX8_setFact : ByteArray := prog_10_method_15_code
def yX8_setFact : MethodName := ⟨RX8, "setFact", "(II)V"⟩
abbrev cX8_closeThing : ByteArray := prog_10_method_16_code
def yX8_closeThing : MethodName := ⟨RX8, "closeThing", "()V"⟩
abbrev cX8_setWant : ByteArray := prog_10_method_17_code
def yX8_setWant : MethodName := ⟨RX8, "setWant", "(II)V"⟩
abbrev cX8_closeDay : ByteArray := prog_10_method_18_code
def yX8_closeDay : MethodName := ⟨RX8, "closeDay", "()V"⟩
abbrev cX8_setApart : ByteArray := prog_10_method_19_code
def yX8_setApart : MethodName := ⟨RX8, "setApart", "(II)V"⟩
abbrev cX8_fact : ByteArray := prog_10_method_20_code
def yX8_fact : MethodName := ⟨RX8, "fact", "(II)I"⟩
abbrev cX8_want : ByteArray := prog_10_method_21_code
def yX8_want : MethodName := ⟨RX8, "want", "(II)I"⟩
abbrev cX8_together : ByteArray := prog_10_method_22_code
def yX8_together : MethodName := ⟨RX8, "together", "(II)Z"⟩
abbrev cX8_sum : ByteArray := prog_10_method_23_code
def yX8_sum : MethodName := ⟨RX8, "sum", "(II)I"⟩
abbrev cX8_warmestCoat : ByteArray := prog_10_method_24_code
def yX8_warmestCoat : MethodName := ⟨RX8, "warmestCoat", "(I)I"⟩
abbrev cX8_suits : ByteArray := prog_10_method_25_code
def yX8_suits : MethodName := ⟨RX8, "suits", "(IIII)Z"⟩
abbrev cX8_isReady : ByteArray := prog_10_method_26_code
def yX8_isReady : MethodName := ⟨RX8, "isReady", "(II)Z"⟩
abbrev cX8_morning : ByteArray := prog_10_method_27_code
def yX8_morning : MethodName := ⟨RX8, "morning", "(IIIZZ)I"⟩
abbrev cX8_worn : ByteArray := prog_10_method_28_code
def yX8_worn : MethodName := ⟨RX8, "worn", "(IIZ)I"⟩
def RX9 : String := "PackedCase"
def TX9 : u_T := fun k => match k with
  | 0 => ("PackedCase", "text", "LPackedCase$Text;", true)
  | 1 => ("PackedCase", "trip", "LPackedCase$Trip;", true)
  | 2 => ("PackedCase", "draft", "LPackedCase$Trip;", true)
  | 3 => ("PackedCase", "reader", "LPackedCase$Reader;", true)
  | 4 => ("PackedCase", "life", "LPackedCase$Life;", true)
  | 5 => ("PackedCase", "firstImage", "LPackedCase$Life;", true)
  | 6 => ("PackedCase", "secondImage", "LPackedCase$Life;", true)
  | 7 => ("PackedCase", "planner", "LPackedCase$Planner;", true)
  | 8 => ("PackedCase", "chooser", "LPackedCase$Chooser;", true)
  | 9 => ("PackedCase", "packer", "LPackedCase$Packer;", true)
  | 10 => ("PackedCase", "lists", "LPackedCase$Lists;", true)
  | 11 => ("PackedCase", "kinds", "LPackedCase$Kinds;", true)
  | _ => ("PackedCase", "tunes", "[I", true)
def tyX9 : Nat → FieldType := fun k => match k with
  | 0 => .object "PackedCase$Text"
  | 1 => .object "PackedCase$Trip"
  | 2 => .object "PackedCase$Trip"
  | 3 => .object "PackedCase$Reader"
  | 4 => .object "PackedCase$Life"
  | 5 => .object "PackedCase$Life"
  | 6 => .object "PackedCase$Life"
  | 7 => .object "PackedCase$Planner"
  | 8 => .object "PackedCase$Chooser"
  | 9 => .object "PackedCase$Packer"
  | 10 => .object "PackedCase$Lists"
  | 11 => .object "PackedCase$Kinds"
  | _ => .array .int
theorem nmX9 : ∀ a, a < 13 → ∀ b, b < 13 → a ≠ b → (TX9 a).2.1 ≠ (TX9 b).2.1 := by decide +kernel
theorem tyX9_ok : ∀ k, k < 13 → parseFieldDescriptor (TX9 k).2.2.1 = some (tyX9 k) := by decide +kernel
abbrev cX9_init : ByteArray := prog_1_method_1_code
def yX9_init : MethodName := ⟨RX9, "<init>", "()V"⟩
abbrev cX9_type : ByteArray := prog_1_method_2_code
def yX9_type : MethodName := ⟨RX9, "type", "(JI)I"⟩
abbrev cX9_clear : ByteArray := prog_1_method_3_code
def yX9_clear : MethodName := ⟨RX9, "clear", "()I"⟩
abbrev cX9_journey : ByteArray := prog_1_method_4_code
def yX9_journey : MethodName := ⟨RX9, "journey", "()I"⟩
abbrev cX9_thing : ByteArray := prog_1_method_5_code
def yX9_thing : MethodName := ⟨RX9, "thing", "(II)I"⟩
abbrev cX9_goes : ByteArray := prog_1_method_6_code
def yX9_goes : MethodName := ⟨RX9, "goes", "(II)I"⟩
abbrev cX9_day : ByteArray := prog_1_method_7_code
def yX9_day : MethodName := ⟨RX9, "day", "(II)I"⟩
abbrev cX9_tune : ByteArray := prog_1_method_8_code
def yX9_tune : MethodName := ⟨RX9, "tune", "(II)I"⟩
abbrev cX9_packs : ByteArray := prog_1_method_9_code
def yX9_packs : MethodName := ⟨RX9, "packs", "(I)I"⟩
abbrev cX9_live : ByteArray := prog_1_method_10_code
def yX9_live : MethodName := ⟨RX9, "live", "(IIII)I"⟩
abbrev cX9_now : ByteArray := prog_1_method_11_code
def yX9_now : MethodName := ⟨RX9, "now", "(I)I"⟩
abbrev cX9_serves : ByteArray := prog_1_method_12_code
def yX9_serves : MethodName := ⟨RX9, "serves", "(II)I"⟩
abbrev cX9_plan : ByteArray := prog_1_method_13_code
def yX9_plan : MethodName := ⟨RX9, "plan", "(IIII)I"⟩
abbrev cX9_odds : ByteArray := prog_1_method_14_code
def yX9_odds : MethodName := ⟨RX9, "odds", "(I)I"⟩
abbrev cX9_least : ByteArray := prog_1_method_15_code
def yX9_least : MethodName := ⟨RX9, "least", "(II)I"⟩
abbrev cX9_needless : ByteArray := prog_1_method_16_code
def yX9_needless : MethodName := ⟨RX9, "needless", "(III)I"⟩
abbrev cX9_buy : ByteArray := prog_1_method_17_code
def yX9_buy : MethodName := ⟨RX9, "buy", "(III)I"⟩
abbrev cX9_desk : ByteArray := prog_1_method_18_code
def yX9_desk : MethodName := ⟨RX9, "desk", "(II)I"⟩
abbrev cX9_pack : ByteArray := prog_1_method_19_code
def yX9_pack : MethodName := ⟨RX9, "pack", "(III)I"⟩
abbrev cX9_allGo : ByteArray := prog_1_method_20_code
def yX9_allGo : MethodName := ⟨RX9, "allGo", "(I)I"⟩
abbrev cX9_again : ByteArray := prog_1_method_21_code
def yX9_again : MethodName := ⟨RX9, "again", "(I)I"⟩
abbrev cX9_list : ByteArray := prog_1_method_22_code
def yX9_list : MethodName := ⟨RX9, "list", "(II)I"⟩
abbrev cX9_span : ByteArray := prog_1_method_23_code
def yX9_span : MethodName := ⟨RX9, "span", "(I)I"⟩
abbrev cX9_use : ByteArray := prog_1_method_24_code
def yX9_use : MethodName := ⟨RX9, "use", "(II)I"⟩
abbrev cX9_keep : ByteArray := prog_1_method_25_code
def yX9_keep : MethodName := ⟨RX9, "keep", "(I)I"⟩
abbrev cX9_back : ByteArray := prog_1_method_26_code
def yX9_back : MethodName := ⟨RX9, "back", "(I)I"⟩
abbrev cX9_count : ByteArray := prog_1_method_27_code
def yX9_count : MethodName := ⟨RX9, "count", "(I)I"⟩
abbrev cX9_trace : ByteArray := prog_1_method_28_code
def yX9_trace : MethodName := ⟨RX9, "trace", "()J"⟩
abbrev cX9_imageAt : ByteArray := prog_1_method_29_code
def yX9_imageAt : MethodName := ⟨RX9, "imageAt", "(I)LPackedCase$Life;"⟩
abbrev cX9_isBit : ByteArray := prog_1_method_30_code
def yX9_isBit : MethodName := ⟨RX9, "isBit", "(I)Z"⟩
abbrev cX9_isUnsure : ByteArray := prog_1_method_31_code
def yX9_isUnsure : MethodName := ⟨RX9, "isUnsure", "(I)Z"⟩
abbrev cX9_has : ByteArray := prog_1_method_32_code
def yX9_has : MethodName := ⟨RX9, "has", "(II)Z"⟩
abbrev cX9_stateOf : ByteArray := prog_1_method_33_code
def yX9_stateOf : MethodName := ⟨RX9, "stateOf", "(II)I"⟩
def RX10 : String := "PackedCaseModel"
def TX10 : u_T := fun k => match k with
  | 0 => ("PackedCaseModel", "trace", "J", false)
  | 1 => ("PackedCaseModel", "text", "[B", true)
  | 2 => ("PackedCaseModel", "typed", "I", false)
  | 3 => ("PackedCaseModel", "things", "[I", true)
  | 4 => ("PackedCaseModel", "thing", "[I", true)
  | 5 => ("PackedCaseModel", "apart", "[I", true)
  | 6 => ("PackedCaseModel", "days", "[I", true)
  | 7 => ("PackedCaseModel", "day", "[I", true)
  | 8 => ("PackedCaseModel", "tune", "[I", true)
  | 9 => ("PackedCaseModel", "at", "I", false)
  | 10 => ("PackedCaseModel", "start", "I", false)
  | 11 => ("PackedCaseModel", "sort", "I", false)
  | 12 => ("PackedCaseModel", "value", "I", false)
  | 13 => ("PackedCaseModel", "fault", "I", false)
  | 14 => ("PackedCaseModel", "rains", "I", false)
  | 15 => ("PackedCaseModel", "dayNow", "[I", true)
  | 16 => ("PackedCaseModel", "stateNow", "[I", true)
  | 17 => ("PackedCaseModel", "setNow", "[I", true)
  | 18 => ("PackedCaseModel", "isKept", "[Z", true)
  | 19 => ("PackedCaseModel", "list", "[I", true)
  | 20 => ("PackedCaseModel", "nextList", "[I", true)
  | 21 => ("PackedCaseModel", "stamp", "[I", true)
  | 22 => ("PackedCaseModel", "size", "I", false)
  | 23 => ("PackedCaseModel", "stamps", "I", false)
  | 24 => ("PackedCaseModel", "pairs", "[I", true)
  | 25 => ("PackedCaseModel", "planTop", "[I", true)
  | 26 => ("PackedCaseModel", "planBottom", "[I", true)
  | 27 => ("PackedCaseModel", "planWash", "[I", true)
  | 28 => ("PackedCaseModel", "layer", "[I", true)
  | 29 => ("PackedCaseModel", "sizes", "[I", true)
  | 30 => ("PackedCaseModel", "lists", "I", false)
  | 31 => ("PackedCaseModel", "hads", "[I", true)
  | _ => ("PackedCaseModel", "ons", "[I", true)
def tyX10 : Nat → FieldType := fun k => match k with
  | 0 => .long
  | 1 => .array .byte
  | 2 => .int
  | 3 => .array .int
  | 4 => .array .int
  | 5 => .array .int
  | 6 => .array .int
  | 7 => .array .int
  | 8 => .array .int
  | 9 => .int
  | 10 => .int
  | 11 => .int
  | 12 => .int
  | 13 => .int
  | 14 => .int
  | 15 => .array .int
  | 16 => .array .int
  | 17 => .array .int
  | 18 => .array .boolean
  | 19 => .array .int
  | 20 => .array .int
  | 21 => .array .int
  | 22 => .int
  | 23 => .int
  | 24 => .array .int
  | 25 => .array .int
  | 26 => .array .int
  | 27 => .array .int
  | 28 => .array .int
  | 29 => .array .int
  | 30 => .int
  | 31 => .array .int
  | _ => .array .int
theorem nmX10 : ∀ a, a < 33 → ∀ b, b < 33 → a ≠ b → (TX10 a).2.1 ≠ (TX10 b).2.1 := by decide +kernel
theorem tyX10_ok : ∀ k, k < 33 → parseFieldDescriptor (TX10 k).2.2.1 = some (tyX10 k) := by decide +kernel
abbrev cX10_init : ByteArray := prog_12_method_1_code
def yX10_init : MethodName := ⟨RX10, "<init>", "()V"⟩
abbrev cX10_in : ByteArray := prog_12_method_3_code
def yX10_in : MethodName := ⟨RX10, "in", "(III)Z"⟩
abbrev cX10_type : ByteArray := prog_12_method_4_code
def yX10_type : MethodName := ⟨RX10, "type", "(JI)I"⟩
abbrev cX10_clear : ByteArray := prog_12_method_5_code
def yX10_clear : MethodName := ⟨RX10, "clear", "()I"⟩
abbrev cX10_here : ByteArray := prog_12_method_6_code
def yX10_here : MethodName := ⟨RX10, "here", "()I"⟩
abbrev cX10_meaning : ByteArray := prog_12_method_7_code
def yX10_meaning : MethodName := ⟨RX10, "meaning", "(I)I"⟩
abbrev cX10_next : ByteArray := prog_12_method_8_code
def yX10_next : MethodName := ⟨RX10, "next", "()V"⟩
abbrev cX10_due : ByteArray := prog_12_method_9_code
def yX10_due : MethodName := ⟨RX10, "due", "(Z)I"⟩
abbrev cX10_number : ByteArray := prog_12_method_10_code
def yX10_number : MethodName := ⟨RX10, "number", "(II)I"⟩
abbrev cX10_optional : ByteArray := prog_12_method_11_code
def yX10_optional : MethodName := ⟨RX10, "optional", "(I)Z"⟩
abbrev cX10_readThing : ByteArray := prog_12_method_12_code
def yX10_readThing : MethodName := ⟨RX10, "readThing", "(I)V"⟩
abbrev cX10_readDay : ByteArray := prog_12_method_13_code
def yX10_readDay : MethodName := ⟨RX10, "readDay", "()V"⟩
abbrev cX10_item : ByteArray := prog_12_method_14_code
def yX10_item : MethodName := ⟨RX10, "item", "(I)V"⟩
abbrev cX10_journey : ByteArray := prog_12_method_15_code
def yX10_journey : MethodName := ⟨RX10, "journey", "()I"⟩
abbrev cX10_isThing : ByteArray := prog_12_method_16_code
def yX10_isThing : MethodName := ⟨RX10, "isThing", "(I)Z"⟩
abbrev cX10_allThings : ByteArray := prog_12_method_17_code
def yX10_allThings : MethodName := ⟨RX10, "allThings", "()I"⟩
abbrev cX10_of : ByteArray := prog_12_method_18_code
def yX10_of : MethodName := ⟨RX10, "of", "(II)I"⟩
abbrev cX10_howIs : ByteArray := prog_12_method_19_code
def yX10_howIs : MethodName := ⟨RX10, "howIs", "(II)I"⟩
abbrev cX10_thing : ByteArray := prog_12_method_20_code
def yX10_thing : MethodName := ⟨RX10, "thing", "(II)I"⟩
abbrev cX10_isGoing : ByteArray := prog_12_method_21_code
def yX10_isGoing : MethodName := ⟨RX10, "isGoing", "(II)Z"⟩
abbrev cX10_goes : ByteArray := prog_12_method_22_code
def yX10_goes : MethodName := ⟨RX10, "goes", "(II)I"⟩
abbrev cX10_day : ByteArray := prog_12_method_23_code
def yX10_day : MethodName := ⟨RX10, "day", "(II)I"⟩
abbrev cX10_tune : ByteArray := prog_12_method_24_code
def yX10_tune : MethodName := ⟨RX10, "tune", "(II)I"⟩
abbrev cX10_isOf : ByteArray := prog_12_method_25_code
def yX10_isOf : MethodName := ⟨RX10, "isOf", "(II)Z"⟩
abbrev cX10_warmestCoat : ByteArray := prog_12_method_26_code
def yX10_warmestCoat : MethodName := ⟨RX10, "warmestCoat", "(I)I"⟩
abbrev cX10_hasCoat : ByteArray := prog_12_method_27_code
def yX10_hasCoat : MethodName := ⟨RX10, "hasCoat", "(I)Z"⟩
abbrev cX10_mayWear : ByteArray := prog_12_method_28_code
def yX10_mayWear : MethodName := ⟨RX10, "mayWear", "(IIII)Z"⟩
abbrev cX10_isWearable : ByteArray := prog_12_method_29_code
def yX10_isWearable : MethodName := ⟨RX10, "isWearable", "(II)Z"⟩
abbrev cX10_worn : ByteArray := prog_12_method_30_code
def yX10_worn : MethodName := ⟨RX10, "worn", "(IIZ)I"⟩
abbrev cX10_behind : ByteArray := prog_12_method_31_code
def yX10_behind : MethodName := ⟨RX10, "behind", "(IIIIIZ)I"⟩
abbrev cX10_isRain : ByteArray := prog_12_method_32_code
def yX10_isRain : MethodName := ⟨RX10, "isRain", "(II)Z"⟩
abbrev cX10_begin : ByteArray := prog_12_method_33_code
def yX10_begin : MethodName := ⟨RX10, "begin", "(I)V"⟩
abbrev cX10_goDay : ByteArray := prog_12_method_34_code
def yX10_goDay : MethodName := ⟨RX10, "goDay", "(III)V"⟩
abbrev cX10_servesFrom : ByteArray := prog_12_method_35_code
def yX10_servesFrom : MethodName := ⟨RX10, "servesFrom", "(IIII)Z"⟩
abbrev cX10_isServing : ByteArray := prog_12_method_36_code
def yX10_isServing : MethodName := ⟨RX10, "isServing", "(II)Z"⟩
abbrev cX10_packs : ByteArray := prog_12_method_37_code
def yX10_packs : MethodName := ⟨RX10, "packs", "(I)I"⟩
abbrev cX10_live : ByteArray := prog_12_method_38_code
def yX10_live : MethodName := ⟨RX10, "live", "(IIII)I"⟩
abbrev cX10_now : ByteArray := prog_12_method_39_code
def yX10_now : MethodName := ⟨RX10, "now", "(I)I"⟩
abbrev cX10_serves : ByteArray := prog_12_method_40_code
def yX10_serves : MethodName := ⟨RX10, "serves", "(II)I"⟩
abbrev cX10_findPlan : ByteArray := prog_12_method_41_code
def yX10_findPlan : MethodName := ⟨RX10, "findPlan", "(II)Z"⟩
abbrev cX10_plan : ByteArray := prog_12_method_42_code
def yX10_plan : MethodName := ⟨RX10, "plan", "(IIII)I"⟩
abbrev cX10_oddsOf : ByteArray := prog_12_method_43_code
def yX10_oddsOf : MethodName := ⟨RX10, "oddsOf", "(I)I"⟩
abbrev cX10_odds : ByteArray := prog_12_method_44_code
def yX10_odds : MethodName := ⟨RX10, "odds", "(I)I"⟩
abbrev cX10_sumOf : ByteArray := prog_12_method_45_code
def yX10_sumOf : MethodName := ⟨RX10, "sumOf", "(II)I"⟩
abbrev cX10_least : ByteArray := prog_12_method_46_code
def yX10_least : MethodName := ⟨RX10, "least", "(II)I"⟩
abbrev cX10_needless : ByteArray := prog_12_method_47_code
def yX10_needless : MethodName := ⟨RX10, "needless", "(III)I"⟩
abbrev cX10_firstDay : ByteArray := prog_12_method_48_code
def yX10_firstDay : MethodName := ⟨RX10, "firstDay", "(I)I"⟩
abbrev cX10_buy : ByteArray := prog_12_method_49_code
def yX10_buy : MethodName := ⟨RX10, "buy", "(III)I"⟩
abbrev cX10_bitsIn : ByteArray := prog_12_method_50_code
def yX10_bitsIn : MethodName := ⟨RX10, "bitsIn", "(I)I"⟩
abbrev cX10_desk : ByteArray := prog_12_method_51_code
def yX10_desk : MethodName := ⟨RX10, "desk", "(II)I"⟩
abbrev cX10_lay : ByteArray := prog_12_method_52_code
def yX10_lay : MethodName := ⟨RX10, "lay", "(II)Z"⟩
abbrev cX10_troubles : ByteArray := prog_12_method_53_code
def yX10_troubles : MethodName := ⟨RX10, "troubles", "(I)I"⟩
abbrev cX10_pack : ByteArray := prog_12_method_54_code
def yX10_pack : MethodName := ⟨RX10, "pack", "(III)I"⟩
abbrev cX10_allGo : ByteArray := prog_12_method_55_code
def yX10_allGo : MethodName := ⟨RX10, "allGo", "(I)I"⟩
abbrev cX10_again : ByteArray := prog_12_method_56_code
def yX10_again : MethodName := ⟨RX10, "again", "(I)I"⟩
abbrev cX10_list : ByteArray := prog_12_method_57_code
def yX10_list : MethodName := ⟨RX10, "list", "(II)I"⟩
abbrev cX10_common : ByteArray := prog_12_method_58_code
def yX10_common : MethodName := ⟨RX10, "common", "(II)I"⟩
abbrev cX10_upTo : ByteArray := prog_12_method_59_code
def yX10_upTo : MethodName := ⟨RX10, "upTo", "(I)I"⟩
abbrev cX10_span : ByteArray := prog_12_method_60_code
def yX10_span : MethodName := ⟨RX10, "span", "(I)I"⟩
abbrev cX10_use : ByteArray := prog_12_method_61_code
def yX10_use : MethodName := ⟨RX10, "use", "(II)I"⟩
abbrev cX10_copy : ByteArray := prog_12_method_62_code
def yX10_copy : MethodName := ⟨RX10, "copy", "(II)V"⟩
abbrev cX10_keep : ByteArray := prog_12_method_63_code
def yX10_keep : MethodName := ⟨RX10, "keep", "(I)I"⟩
abbrev cX10_back : ByteArray := prog_12_method_64_code
def yX10_back : MethodName := ⟨RX10, "back", "(I)I"⟩
abbrev cX10_count : ByteArray := prog_12_method_65_code
def yX10_count : MethodName := ⟨RX10, "count", "(I)I"⟩
abbrev cX10_trace : ByteArray := prog_12_method_66_code
def yX10_trace : MethodName := ⟨RX10, "trace", "()J"⟩
def RJ6 : String := "java/lang/Integer"
def TJ6 : u_T := fun k => match k with
  | _ => ("", "", "", false)
def tyJ6 : Nat → FieldType := fun k => match k with
  | _ => .int
theorem nmJ6 : ∀ a, a < 0 → ∀ b, b < 0 → a ≠ b → (TJ6 a).2.1 ≠ (TJ6 b).2.1 := by decide +kernel
theorem tyJ6_ok : ∀ k, k < 0 → parseFieldDescriptor (TJ6 k).2.2.1 = some (tyJ6 k) := by decide +kernel
abbrev cJ6_bitCount_0f7a4 : ByteArray := prog_13_method_49_code
def yJ6_bitCount_0f7a4 : MethodName := ⟨RJ6, "bitCount", "(I)I"⟩
def RJ9 : String := "java/lang/Math"
def TJ9 : u_T := fun k => match k with
  | _ => ("", "", "", false)
def tyJ9 : Nat → FieldType := fun k => match k with
  | _ => .int
theorem nmJ9 : ∀ a, a < 0 → ∀ b, b < 0 → a ≠ b → (TJ9 a).2.1 ≠ (TJ9 b).2.1 := by decide +kernel
theorem tyJ9_ok : ∀ k, k < 0 → parseFieldDescriptor (TJ9 k).2.2.1 = some (tyJ9 k) := by decide +kernel
abbrev cJ9_max_7cf53 : ByteArray := prog_14_method_65_code
def yJ9_max_7cf53 : MethodName := ⟨RJ9, "max", "(II)I"⟩
abbrev cJ9_min_7cf53 : ByteArray := prog_14_method_69_code
def yJ9_min_7cf53 : MethodName := ⟨RJ9, "min", "(II)I"⟩
def RJ0 : String := "java/lang/String"
def TJ0 : u_T := fun k => match k with
  | _ => ("", "", "", false)
def tyJ0 : Nat → FieldType := fun k => match k with
  | _ => .int
theorem nmJ0 : ∀ a, a < 0 → ∀ b, b < 0 → a ≠ b → (TJ0 a).2.1 ≠ (TJ0 b).2.1 := by decide +kernel
theorem tyJ0_ok : ∀ k, k < 0 → parseFieldDescriptor (TJ0 k).2.2.1 = some (tyJ0 k) := by decide +kernel
abbrev cJ0_length_8abf5 : ByteArray := prog_15_method_54_code
def yJ0_length_8abf5 : MethodName := ⟨RJ0, "length", "()I"⟩
abbrev cJ0_charAt_5068e : ByteArray := prog_15_method_56_code
def yJ0_charAt_5068e : MethodName := ⟨RJ0, "charAt", "(I)C"⟩
abbrev cJ0_coder_7d493 : ByteArray := prog_15_method_152_code
def yJ0_coder_7d493 : MethodName := ⟨RJ0, "coder", "()B"⟩
abbrev cJ0_isLatin1_aae02 : ByteArray := prog_15_method_154_code
def yJ0_isLatin1_aae02 : MethodName := ⟨RJ0, "isLatin1", "()Z"⟩
abbrev cJ0_checkIndex_df160 : ByteArray := prog_15_method_155_code
def yJ0_checkIndex_df160 : MethodName := ⟨RJ0, "checkIndex", "(II)V"⟩
def RJ1 : String := "java/lang/StringLatin1"
def TJ1 : u_T := fun k => match k with
  | _ => ("", "", "", false)
def tyJ1 : Nat → FieldType := fun k => match k with
  | _ => .int
theorem nmJ1 : ∀ a, a < 0 → ∀ b, b < 0 → a ≠ b → (TJ1 a).2.1 ≠ (TJ1 b).2.1 := by decide +kernel
theorem tyJ1_ok : ∀ k, k < 0 → parseFieldDescriptor (TJ1 k).2.2.1 = some (tyJ1 k) := by decide +kernel
abbrev cJ1_charAt_3b067 : ByteArray := prog_16_method_2_code
def yJ1_charAt_3b067 : MethodName := ⟨RJ1, "charAt", "([BI)C"⟩
def RJ2 : String := "java/lang/StringUTF16"
def TJ2 : u_T := fun k => match k with
  | _ => ("", "", "", false)
def tyJ2 : Nat → FieldType := fun k => match k with
  | _ => .int
theorem nmJ2 : ∀ a, a < 0 → ∀ b, b < 0 → a ≠ b → (TJ2 a).2.1 ≠ (TJ2 b).2.1 := by decide +kernel
theorem tyJ2_ok : ∀ k, k < 0 → parseFieldDescriptor (TJ2 k).2.2.1 = some (tyJ2 k) := by decide +kernel
abbrev cJ2_getChar_3b067 : ByteArray := prog_17_method_5_code
def yJ2_getChar_3b067 : MethodName := ⟨RJ2, "getChar", "([BI)C"⟩
abbrev cJ2_length_9d52b : ByteArray := prog_17_method_6_code
def yJ2_length_9d52b : MethodName := ⟨RJ2, "length", "([B)I"⟩
abbrev cJ2_charAt_3b067 : ByteArray := prog_17_method_83_code
def yJ2_charAt_3b067 : MethodName := ⟨RJ2, "charAt", "([BI)C"⟩
abbrev cJ2_checkIndex_2214a : ByteArray := prog_17_method_91_code
def yJ2_checkIndex_2214a : MethodName := ⟨RJ2, "checkIndex", "(I[B)V"⟩
def RJ10 : String := "java/lang/System"
def TJ10 : u_T := fun k => match k with
  | _ => ("", "", "", false)
def tyJ10 : Nat → FieldType := fun k => match k with
  | _ => .int
theorem nmJ10 : ∀ a, a < 0 → ∀ b, b < 0 → a ≠ b → (TJ10 a).2.1 ≠ (TJ10 b).2.1 := by decide +kernel
theorem tyJ10_ok : ∀ k, k < 0 → parseFieldDescriptor (TJ10 k).2.2.1 = some (tyJ10 k) := by decide +kernel
def RJ7 : String := "java/util/Arrays"
def TJ7 : u_T := fun k => match k with
  | _ => ("", "", "", false)
def tyJ7 : Nat → FieldType := fun k => match k with
  | _ => .int
theorem nmJ7 : ∀ a, a < 0 → ∀ b, b < 0 → a ≠ b → (TJ7 a).2.1 ≠ (TJ7 b).2.1 := by decide +kernel
theorem tyJ7_ok : ∀ k, k < 0 → parseFieldDescriptor (TJ7 k).2.2.1 = some (tyJ7 k) := by decide +kernel
abbrev cJ7_fill_d0a16 : ByteArray := prog_19_method_101_code
def yJ7_fill_d0a16 : MethodName := ⟨RJ7, "fill", "([JJ)V"⟩
abbrev cJ7_fill_53178 : ByteArray := prog_19_method_103_code
def yJ7_fill_53178 : MethodName := ⟨RJ7, "fill", "([II)V"⟩
def RJ3 : String := "jdk/internal/util/Preconditions"
def TJ3 : u_T := fun k => match k with
  | _ => ("", "", "", false)
def tyJ3 : Nat → FieldType := fun k => match k with
  | _ => .int
theorem nmJ3 : ∀ a, a < 0 → ∀ b, b < 0 → a ≠ b → (TJ3 a).2.1 ≠ (TJ3 b).2.1 := by decide +kernel
theorem tyJ3_ok : ∀ k, k < 0 → parseFieldDescriptor (TJ3 k).2.2.1 = some (tyJ3 k) := by decide +kernel
abbrev cJ3_checkIndex_8e157 : ByteArray := prog_20_method_11_code
def yJ3_checkIndex_8e157 : MethodName := ⟨RJ3, "checkIndex", "(IILjava/util/function/BiFunction;)I"⟩
def RL : String := "PackedCaseLaw"
abbrev cL_law : ByteArray := code
def yL_law : MethodName := ⟨RL, "law", "([I)Z"⟩
abbrev cls : List vw_C := [(RX0, TX0, 3), (RX1, TX1, 2), (RX2, TX2, 4), (RX3, TX3, 4), (RX4, TX4, 9), (RX5, TX5, 9), (RX6, TX6, 7), (RX7, TX7, 2), (RX8, TX8, 11), (RX9, TX9, 13), (RX10, TX10, 33)]
/-- the cells of the heap that the two objects own: an array (kind, length) or an object (class, fields: 0 int, 1 long, j + 2 the cell j) -/
def shL : List ((Nat × Nat) ⊕ (Nat × List Nat)) := [.inr (9, [3, 5, 9, 13, 16, 17, 18, 19, 27, 29, 34, 36, 37]), .inr (7, [4, 0]), .inl (1, 500), .inr (8, [6, 7, 8, 0, 0, 0, 0, 0, 0, 0, 0]), .inl (0, 48), .inl (0, 32), .inl (0, 6), .inr (8, [10, 11, 12, 0, 0, 0, 0, 0, 0, 0, 0]), .inl (0, 48), .inl (0, 32), .inl (0, 6), .inr (6, [3, 9, 14, 15, 0, 0, 0]), .inl (0, 501), .inl (0, 501), .inr (2, [0, 0, 0, 0]), .inr (2, [0, 0, 0, 0]), .inr (2, [0, 0, 0, 0]), .inr (5, [5, 20, 21, 22, 23, 24, 25, 26, 0]), .inl (0, 72), .inl (0, 8), .inl (0, 8), .inl (0, 8), .inl (3, 512), .inl (3, 64), .inl (3, 64), .inr (0, [5, 19, 28]), .inl (0, 64), .inr (4, [5, 19, 30, 31, 32, 33, 0, 0, 0]), .inl (0, 6), .inl (0, 6), .inl (0, 6), .inl (0, 4), .inr (3, [35, 0, 0, 0]), .inl (0, 20), .inr (1, [5, 1]), .inl (0, 3), .inr (10, [1, 39, 0, 40, 41, 42, 43, 44, 45, 0, 0, 0, 0, 0, 0, 46, 47, 48, 49, 50, 51, 52, 0, 0, 53, 54, 55, 56, 57, 58, 0, 59, 60]), .inl (1, 500), .inl (0, 2), .inl (0, 96), .inl (0, 12), .inl (0, 2), .inl (0, 64), .inl (0, 3), .inl (0, 3), .inl (0, 3), .inl (0, 3), .inl (2, 2), .inl (0, 4096), .inl (0, 4096), .inl (0, 4096), .inl (0, 9), .inl (0, 8), .inl (0, 8), .inl (0, 8), .inl (0, 6), .inl (0, 4), .inl (0, 20), .inl (0, 20)]
theorem s_0 : shL[0]? = some (.inr (9, [3, 5, 9, 13, 16, 17, 18, 19, 27, 29, 34, 36, 37])) := rfl -- x
theorem s_1 : shL[1]? = some (.inr (7, [4, 0])) := rfl -- text
theorem s_2 : shL[2]? = some (.inl (1, 500)) := rfl -- text.bytes
theorem s_3 : shL[3]? = some (.inr (8, [6, 7, 8, 0, 0, 0, 0, 0, 0, 0, 0])) := rfl -- trip
theorem s_4 : shL[4]? = some (.inl (0, 48)) := rfl -- trip.facts
theorem s_5 : shL[5]? = some (.inl (0, 32)) := rfl -- trip.wants
theorem s_6 : shL[6]? = some (.inl (0, 6)) := rfl -- trip.apart
theorem s_7 : shL[7]? = some (.inr (8, [10, 11, 12, 0, 0, 0, 0, 0, 0, 0, 0])) := rfl -- draft
theorem s_8 : shL[8]? = some (.inl (0, 48)) := rfl -- draft.facts
theorem s_9 : shL[9]? = some (.inl (0, 32)) := rfl -- draft.wants
theorem s_10 : shL[10]? = some (.inl (0, 6)) := rfl -- draft.apart
theorem s_11 : shL[11]? = some (.inr (6, [3, 9, 14, 15, 0, 0, 0])) := rfl -- reader
theorem s_12 : shL[12]? = some (.inl (0, 501)) := rfl -- reader.codes
theorem s_13 : shL[13]? = some (.inl (0, 501)) := rfl -- reader.starts
theorem s_14 : shL[14]? = some (.inr (2, [0, 0, 0, 0])) := rfl -- life
theorem s_15 : shL[15]? = some (.inr (2, [0, 0, 0, 0])) := rfl -- firstImage
theorem s_16 : shL[16]? = some (.inr (2, [0, 0, 0, 0])) := rfl -- secondImage
theorem s_17 : shL[17]? = some (.inr (5, [5, 20, 21, 22, 23, 24, 25, 26, 0])) := rfl -- planner
theorem s_18 : shL[18]? = some (.inl (0, 72)) := rfl -- planner.pairs
theorem s_19 : shL[19]? = some (.inl (0, 8)) := rfl -- planner.pairsOn
theorem s_20 : shL[20]? = some (.inl (0, 8)) := rfl -- planner.picked
theorem s_21 : shL[21]? = some (.inl (0, 8)) := rfl -- planner.washed
theorem s_22 : shL[22]? = some (.inl (3, 512)) := rfl -- planner.failed
theorem s_23 : shL[23]? = some (.inl (3, 64)) := rfl -- planner.reached
theorem s_24 : shL[24]? = some (.inl (3, 64)) := rfl -- planner.nextReached
theorem s_25 : shL[25]? = some (.inr (0, [5, 19, 28])) := rfl -- chooser
theorem s_26 : shL[26]? = some (.inl (0, 64)) := rfl -- chooser.known
theorem s_27 : shL[27]? = some (.inr (4, [5, 19, 30, 31, 32, 33, 0, 0, 0])) := rfl -- packer
theorem s_28 : shL[28]? = some (.inl (0, 6)) := rfl -- packer.firstDay
theorem s_29 : shL[29]? = some (.inl (0, 6)) := rfl -- packer.layer
theorem s_30 : shL[30]? = some (.inl (0, 6)) := rfl -- packer.bestLayer
theorem s_31 : shL[31]? = some (.inl (0, 4)) := rfl -- packer.room
theorem s_32 : shL[32]? = some (.inr (3, [35, 0, 0, 0])) := rfl -- lists
theorem s_33 : shL[33]? = some (.inl (0, 20)) := rfl -- lists.on
theorem s_34 : shL[34]? = some (.inr (1, [5, 1])) := rfl -- kinds
theorem s_35 : shL[35]? = some (.inl (0, 3)) := rfl -- x.tunes
theorem s_36 : shL[36]? = some (.inr (10, [1, 39, 0, 40, 41, 42, 43, 44, 45, 0, 0, 0, 0, 0, 0, 46, 47, 48, 49, 50, 51, 52, 0, 0, 53, 54, 55, 56, 57, 58, 0, 59, 60])) := rfl -- m
theorem s_37 : shL[37]? = some (.inl (1, 500)) := rfl -- m.text
theorem s_38 : shL[38]? = some (.inl (0, 2)) := rfl -- m.things
theorem s_39 : shL[39]? = some (.inl (0, 96)) := rfl -- m.thing
theorem s_40 : shL[40]? = some (.inl (0, 12)) := rfl -- m.apart
theorem s_41 : shL[41]? = some (.inl (0, 2)) := rfl -- m.days
theorem s_42 : shL[42]? = some (.inl (0, 64)) := rfl -- m.day
theorem s_43 : shL[43]? = some (.inl (0, 3)) := rfl -- m.tune
theorem s_44 : shL[44]? = some (.inl (0, 3)) := rfl -- m.dayNow
theorem s_45 : shL[45]? = some (.inl (0, 3)) := rfl -- m.stateNow
theorem s_46 : shL[46]? = some (.inl (0, 3)) := rfl -- m.setNow
theorem s_47 : shL[47]? = some (.inl (2, 2)) := rfl -- m.isKept
theorem s_48 : shL[48]? = some (.inl (0, 4096)) := rfl -- m.list
theorem s_49 : shL[49]? = some (.inl (0, 4096)) := rfl -- m.nextList
theorem s_50 : shL[50]? = some (.inl (0, 4096)) := rfl -- m.stamp
theorem s_51 : shL[51]? = some (.inl (0, 9)) := rfl -- m.pairs
theorem s_52 : shL[52]? = some (.inl (0, 8)) := rfl -- m.planTop
theorem s_53 : shL[53]? = some (.inl (0, 8)) := rfl -- m.planBottom
theorem s_54 : shL[54]? = some (.inl (0, 8)) := rfl -- m.planWash
theorem s_55 : shL[55]? = some (.inl (0, 6)) := rfl -- m.layer
theorem s_56 : shL[56]? = some (.inl (0, 4)) := rfl -- m.sizes
theorem s_57 : shL[57]? = some (.inl (0, 20)) := rfl -- m.hads
theorem s_58 : shL[58]? = some (.inl (0, 20)) := rfl -- m.ons
end
section
-- part 03: the light layer: one judgement RR over the kit's W, with the whole heap as two tables of numbers
abbrev Sh : Type := (Nat × Nat) ⊕ (Nat × List Nat)
abbrev Mem : Type := (Nat → Nat → Int32) × (Nat → Nat → Int64)
abbrev Wd : Type := va_G × (Nat → ClassId) × (Nat → Nat) × (Nat → Nat)
abbrev Mi : Type := ByteArray × Nat × String × Option FieldType
abbrev Res : Type := Option Value × Mem
/-- the address of a cell -/
def wq (w : Wd) (c : Nat) : Nat := w.2.2.1 c
/-- the addresses of the texts and the static arrays -/
def wa (w : Wd) (c : Nat) : Nat := w.2.2.2 c
def fv (w : Wd) (M : Mem) (c k : Nat) : Nat → Value
  | 0 => .int (M.1 c k)
  | 1 => .long (M.2 c k)
  | j + 2 => .ref (wq w j)
def fvs (w : Wd) (M : Mem) (c : Nat) (fs : List Nat) : List Value := fs.mapIdx (fun k x => fv w M c k x)
def entS (w : Wd) (M : Mem) (c : Nat) : Sh → va_E
  | .inl (t, n) => .inl (w.2.1 t, n, if t = 3 then .inr (.inl (M.2 c)) else .inl (M.1 c))
  | .inr (ci, fs) => .inr (ci, fvs w M c fs)
def world (w : Wd) (M : Mem) : va_W := shL.mapIdx (fun c sh => (wq w c, entS w M c sh))
def NC : Nat := 59
theorem NC_ok : shL.length = NC := rfl
def AA (w : Wd) (sz : Nat) : Nat → Prop := fun a => (∃ k, k < NC ∧ wq w k = a) ∨ sz ≤ a
def Inj (w : Wd) : Prop := ∀ i j, i < NC → j < NC → wq w i = wq w j → i = j
def tysOf (w : Wd) : List (ClassId × FieldType) := [(w.2.1 0, .int), (w.2.1 1, .byte), (w.2.1 2, .boolean), (w.2.1 3, .long)]
theorem sh_lt {c : Nat} {sh : Sh} (h : shL[c]? = some sh) : c < NC := NC_ok ▸ (List.getElem?_eq_some_iff.mp h).1
theorem world_at {w : Wd} {M : Mem} {c : Nat} {sh : Sh} (h : shL[c]? = some sh) : (world w M)[c]? = some (wq w c, entS w M c sh) := by
  rw [world, List.getElem?_mapIdx, h]; rfl
theorem world_inv {w : Wd} {M : Mem} {c : Nat} {q : Nat × va_E} (h : (world w M)[c]? = some q) : ∃ sh, shL[c]? = some sh ∧ q = (wq w c, entS w M c sh) := by
  rw [world, List.getElem?_mapIdx] at h
  cases hs : shL[c]? with
  | none => rw [hs] at h; cases h
  | some sh => rw [hs] at h; exact ⟨sh, rfl, (Option.some.inj h).symm⟩
theorem entS_congr {w : Wd} {M M' : Mem} {c : Nat} (h1 : M'.1 c = M.1 c) (h2 : M'.2 c = M.2 c) (sh : Sh) : entS w M' c sh = entS w M c sh := by
  rcases sh with ⟨t, n⟩ | ⟨ci, fs⟩
  · simp only [entS, h1, h2]
  · simp only [entS, fvs]
    congr 2
    apply List.ext_getElem?
    intro k
    simp only [List.getElem?_mapIdx]
    cases fs[k]? with
    | none => rfl
    | some x =>
      match x with
      | 0 => simp [fv, h1]
      | 1 => simp [fv, h2]
      | j + 2 => rfl
theorem world_set {w : Wd} {M M' : Mem} {c : Nat} {sh : Sh} {e : va_E} (h : shL[c]? = some sh) (he : entS w M' c sh = e) (ho : ∀ d, d ≠ c → M'.1 d = M.1 d ∧ M'.2 d = M.2 d) : (world w M).set c (wq w c, e) = world w M' := by
  apply List.ext_getElem?
  intro d
  rw [List.getElem?_set]
  by_cases hd : c = d
  · subst hd
    have hl : c < (world w M).length := by rw [world, List.length_mapIdx]; exact (List.getElem?_eq_some_iff.mp h).1
    rw [if_pos rfl, if_pos hl, world_at h, he]
  · rw [if_neg hd]
    rw [world, world, List.getElem?_mapIdx, List.getElem?_mapIdx]
    cases hs : shL[d]? with
    | none => rfl
    | some x =>
      have h2 := ho d (fun e => hd e.symm)
      show some (wq w d, entS w M d x) = some (wq w d, entS w M' d x)
      rw [entS_congr h2.1 h2.2]
theorem world_D {w : Wd} {M : Mem} {A : Nat → Prop} (hi : Inj w) (hA : ∀ k, k < NC → A (wq w k)) : va_D A (world w M) := by
  refine ⟨fun i j p q hp hq e => ?_, fun k q h => ?_⟩
  · obtain ⟨s1, h1, rfl⟩ := world_inv hp
    obtain ⟨s2, h2, rfl⟩ := world_inv hq
    exact hi i j (sh_lt h1) (sh_lt h2) e
  · obtain ⟨s1, h1, rfl⟩ := world_inv h
    exact hA k (sh_lt h1)
def setI (M : Mem) (c k : Nat) (v : Int32) : Mem := (fun d => if d = c then upd (M.1 c) k v else M.1 d, M.2)
def setL (M : Mem) (c k : Nat) (v : Int64) : Mem := (M.1, fun d => if d = c then vp_updL (M.2 c) k v else M.2 d)
def setA (M : Mem) (c : Nat) (f : Nat → Int32) : Mem := (fun d => if d = c then f else M.1 d, M.2)
def setB (M : Mem) (c : Nat) (f : Nat → Int64) : Mem := (M.1, fun d => if d = c then f else M.2 d)
theorem setI_off {M : Mem} {c k : Nat} {v : Int32} (d : Nat) (h : d ≠ c) : (setI M c k v).1 d = M.1 d ∧ (setI M c k v).2 d = M.2 d := ⟨if_neg h, rfl⟩
theorem setL_off {M : Mem} {c k : Nat} {v : Int64} (d : Nat) (h : d ≠ c) : (setL M c k v).1 d = M.1 d ∧ (setL M c k v).2 d = M.2 d := ⟨rfl, if_neg h⟩
theorem setA_off {M : Mem} {c : Nat} {v : Nat → Int32} (d : Nat) (h : d ≠ c) : (setA M c v).1 d = M.1 d ∧ (setA M c v).2 d = M.2 d := ⟨if_neg h, rfl⟩
theorem setB_off {M : Mem} {c : Nat} {v : Nat → Int64} (d : Nat) (h : d ≠ c) : (setB M c v).1 d = M.1 d ∧ (setB M c v).2 d = M.2 d := ⟨rfl, if_neg h⟩
/-- an index is in range -/
def ck (i : Int32) (n : Nat) : Bool := decide (0 ≤ i.toInt ∧ i.toInt < n)
theorem ck_in {i : Int32} {n : Nat} (h : ck i n = true) : vp_in i n := vp_in_iff.mpr (of_decide_eq_true h)
-- the texts, the static arrays, the nest's links
def lenS : List Nat := [3, 6, 4, 4, 5, 3, 4, 4]
def bytS : List (List Int32) := [[116, 111, 112], [98, 111, 116, 116, 111, 109], [99, 111, 97, 116], [108, 97, 116, 101], [97, 112, 97, 114, 116], [100, 97, 121], [119, 97, 115, 104], [114, 97, 105, 110]]
def idxS : List (Nat × String) := [(93, "top"), (99, "bottom"), (101, "coat"), (103, "late"), (105, "apart"), (107, "day"), (109, "wash"), (111, "rain")]
def tlV : List Int32 := [0, 1, 1]
def tmV : List Int32 := [999, 4, 999]
def nestL : List (String × Nat × MethodName × String) := [(RX6, 183, yX9_isUnsure, RX9), (RX8, 65, yX9_isUnsure, RX9), (RX2, 45, yX9_has, RX9), (RX8, 94, yX9_stateOf, RX9), (RX8, 75, yX9_has, RX9), (RX2, 34, yX9_stateOf, RX9), (RX0, 61, yX9_has, RX9), (RX5, 75, yX9_has, RX9), (RX4, 60, yX9_has, RX9)]
def Glob (w : Wd) (s : State) : Prop :=
  vk_S 8 lenS bytS (fun i => wa w i) (fun i => wa w (8 + i)) (AA w s.heap.size) s s.heap ∧
  (∀ i q, idxS[i]? = some q → vk_R RX6 q.1 q.2 (wa w i) s) ∧
  (va_Z RX9 "TUNE_LEAST" "[I" (.ref (wa w 16)) (AA w s.heap.size) s s.heap ∧ va_T .int (wa w 16) 3 (fun j => .int (tlV.getD j 0)) (AA w s.heap.size) s s.heap) ∧
  (va_Z RX9 "TUNE_MOST" "[I" (.ref (wa w 17)) (AA w s.heap.size) s s.heap ∧ va_T .int (wa w 17) 3 (fun j => .int (tmV.getD j 0)) (AA w s.heap.size) s s.heap) ∧
  (va_Z "java/lang/String" "COMPACT_STRINGS" "Z" (.int 1) (AA w s.heap.size) s s.heap ∧ va_Zq "jdk/internal/util/Preconditions" "SIOOBE_FORMATTER" "Ljava/util/function/BiFunction;" (AA w s.heap.size) s s.heap) ∧
  (∀ q ∈ nestL, va_Nw (.methodLinkNest q.1 q.2.1 q.2.2.1 q.2.2.2) s)
theorem AA_mono {w : Wd} {a b : Nat} (h : a ≤ b) (q : Nat) (hq : AA w b q) : AA w a q := hq.elim Or.inl (fun h2 => Or.inr (Nat.le_trans h h2))
theorem Glob.moved {w : Wd} {s U : State} {locs : List Loc} (h : Glob w s) (hW : s.WarmedH U.vm) (hS : va_S (AA w s.heap.size) s.heap U.heap locs) : Glob w U := by
  obtain ⟨g1, g2, ⟨g3, g4⟩, ⟨g5, g6⟩, ⟨g7, g9⟩, g8⟩ := h
  have hm := AA_mono (w := w) hS.1
  have hv := hW.alike
  refine ⟨((g1.kept hS.2.1).narrow hm).moved hv, fun i q hq => vk_R.warm hW (g2 i q hq), ⟨((g3.kept hS.2.1).narrow hm).moved hv, ((g4.kept hS.2.1).narrow hm).moved hv⟩, ⟨((g5.kept hS.2.1).narrow hm).moved hv, ((g6.kept hS.2.1).narrow hm).moved hv⟩, ⟨((g7.kept hS.2.1).narrow hm).moved hv, ((g9.kept hS.2.1).narrow hm).moved hv⟩, fun q hq => va_Nw.warmM hW (g8 q hq)⟩
/-- what a run of a method stands on -/
abbrev Ctx (w : Wd) (mi : Mi) (dep : Nat) (p : Program) (R : Room) (s : State) (m : MethodId) (args : Array Value) (meth : Method) (c : Code) (cs sl : Nat) : Prop :=
  CallFix p m c mi.1 mi.2.1 s args lw_t mi.2.2.1 ∧ (meth.sig.returnType = mi.2.2.2 ∧ meth.locks = false) ∧ va_K w.1 cls (tysOf w) s ∧ Inj w ∧ Glob w s ∧ (dep ≤ R.frames ∧ 128 * dep ≤ R.locals ∧ cs ≤ R.cells ∧ sl ≤ R.slots)
def lvOf (loc : List (Option Value)) : List (Nat × Value) := (loc.mapIdx (fun i o => o.map (fun v => (i, v)))).filterMap id
theorem mem_lvOf {loc : List (Option Value)} {i : Nat} {v : Value} : (i, v) ∈ lvOf loc ↔ loc[i]? = some (some v) := by
  rw [lvOf, List.mem_filterMap]
  constructor
  · rintro ⟨o, h1, h2⟩
    obtain ⟨k, hk⟩ := List.getElem?_of_mem h1
    rw [List.getElem?_mapIdx] at hk
    cases hx : loc[k]? with
    | none => rw [hx] at hk; cases hk
    | some y =>
      rw [hx] at hk
      have hk : y.map (fun v => (k, v)) = o := Option.some.inj hk
      have h2 : o = some (i, v) := h2
      rw [h2] at hk
      cases y with
      | none => cases hk
      | some z =>
        have hk : (k, z) = (i, v) := Option.some.inj hk
        cases hk
        exact hx
  · intro h
    refine ⟨some (i, v), List.mem_of_getElem? (i := i) ?_, rfl⟩
    rw [List.getElem?_mapIdx, h]
    rfl
theorem lv_mono {ls : Array Slot} {n : Nat} {l l' : List (Nat × Value)} (h : lv_has ls n l) (hs : ∀ q ∈ l', q ∈ l) : lv_has ls n l' := ⟨h.1, h.2.1, fun q hq => h.2.2 q (hs q hq)⟩
theorem lv_get {ls : Array Slot} {n : Nat} {loc : List (Option Value)} (h : lv_has ls n (lvOf loc)) {i : Nat} {v : Value} (hi : loc[i]? = some (some v)) : ls[i]? = some (.val v) := h.2.2 (i, v) (mem_lvOf.mpr hi)
/-- nothing long stands ahead of the place -/
def okS (loc : List (Option Value)) (i : Nat) : Bool := match i with
  | 0 => true
  | j + 1 => match loc[j]? with
    | some (some v) => v.category == 1
    | _ => true
theorem lv_put {ls : Array Slot} {n : Nat} {loc : List (Option Value)} {i : Nat} {v : Value} (h : lv_has ls n ((i, v) :: (lvOf loc).filter (fun q => !(q.1 == i) && !(q.1 + 1 == i && q.2.category == 2)))) (hok : okS loc i = true) : lv_has ls n (lvOf (loc.set i (some v))) := by
  refine lv_mono h (fun q hq => ?_)
  obtain ⟨j, u⟩ := q
  rw [mem_lvOf, List.getElem?_set] at hq
  by_cases hij : i = j
  · subst hij
    rw [if_pos rfl] at hq
    split at hq
    · cases hq
      exact List.mem_cons_self
    · cases hq
  · rw [if_neg hij] at hq
    refine List.mem_cons_of_mem _ (List.mem_filter.mpr ⟨mem_lvOf.mpr hq, ?_⟩)
    have h1 : (j == i) = false := beq_eq_false_iff_ne.mpr (fun e => hij e.symm)
    have h2 : (j + 1 == i && u.category == 2) = false := by
      by_cases hj : j + 1 = i
      · subst hj
        have h3 : u.category = 1 := by
          have h4 : (match loc[j]? with
            | some (some v) => v.category == 1
            | _ => true) = true := hok
          rw [hq] at h4
          exact beq_iff_eq.mp h4
        rw [h3]
        simp
      · rw [beq_eq_false_iff_ne.mpr hj]
        rfl
    show (!(j == i) && !(j + 1 == i && u.category == 2)) = true
    rw [h1, h2]
    rfl
abbrev Kp := Program × Env × Room × State × MethodId × Array Value × List Frame × Method × Code × Nat × Nat × (State → Prop)
def RR (l : Launch) (w : Wd) (mi : Mi) (dep : Nat) (κ : Kp) (pc : Nat) (st : List Value) (loc : List (Option Value)) (M : Mem) : Prop := match κ with
  | (p, e, R, s, m, args, below, meth, c, cs, sl, Q) => Ctx w mi dep p R s m args meth c cs sl → ∀ (H : Heap) (locs : List Loc) (ls : Array Slot), lv_has ls mi.2.1 (lvOf loc) → va_P w.1 cls (world w M) H → va_S (AA w s.heap.size) s.heap H locs → W p l e R s m args below meth c H locs cs sl Q (F0 m pc ls st)
def Dec (mi : Mi) (pc : Nat) (i : Instr) (len n : Nat) : Prop := decode mi.1 pc = .ok (i, len) ∧ pc + len = n
def DecJ (mi : Mi) (pc : Nat) (i : Instr) (off : Int) (n t : Nat) : Prop := decode mi.1 pc = .ok (i, 3) ∧ pc + 3 = n ∧ (pc : Int) + off = (t : Int)
theorem Ctx.D {w : Wd} {M : Mem} {mi : Mi} {dep : Nat} {p : Program} {R : Room} {s : State} {m : MethodId} {args : Array Value} {meth : Method} {c : Code} {cs sl : Nat} (C : Ctx w mi dep p R s m args meth c cs sl) : va_D (AA w s.heap.size) (world w M) := world_D C.2.2.2.1 (fun k hk => Or.inl ⟨k, hk, rfl⟩)
section ROWS
variable {l : Launch} {w : Wd} {mi : Mi} {dep : Nat} {κ : Kp} {pc n : Nat} {st : List Value} {loc : List (Option Value)} {M : Mem}
/-- fewer locals are known -/
theorem r_less {loc' : List (Option Value)} (h : ∀ (i : Nat) (v : Value), loc'[i]? = some (some v) → loc[i]? = some (some v)) (k : RR l w mi dep κ pc st loc' M) : RR l w mi dep κ pc st loc M := by
  obtain ⟨p, e, R, s, m, args, below, meth, c, cs, sl, Q⟩ := κ
  intro C H locs ls hl hP hS
  exact k C H locs ls (lv_mono hl (fun q hq => mem_lvOf.mpr (h q.1 q.2 (mem_lvOf.mp hq)))) hP hS

theorem r_iadd {x y : Int32} (hd : Dec mi pc (.iadd) 1 n) (k : RR l w mi dep κ n (.int (x + y) :: st) loc M) : RR l w mi dep κ pc (.int y :: .int x :: st) loc M := by
  obtain ⟨p, e, R, s, m, args, below, meth, c, cs, sl, Q⟩ := κ
  obtain ⟨hd, rfl⟩ := hd
  intro C H locs ls hl hP hS
  exact lv_iadd C.1.1 C.1.2.1 hd (k C H locs ls hl hP hS)
theorem r_isub {x y : Int32} (hd : Dec mi pc (.isub) 1 n) (k : RR l w mi dep κ n (.int (x - y) :: st) loc M) : RR l w mi dep κ pc (.int y :: .int x :: st) loc M := by
  obtain ⟨p, e, R, s, m, args, below, meth, c, cs, sl, Q⟩ := κ
  obtain ⟨hd, rfl⟩ := hd
  intro C H locs ls hl hP hS
  exact lv_isub C.1.1 C.1.2.1 hd (k C H locs ls hl hP hS)
theorem r_imul {x y : Int32} (hd : Dec mi pc (.imul) 1 n) (k : RR l w mi dep κ n (.int (x * y) :: st) loc M) : RR l w mi dep κ pc (.int y :: .int x :: st) loc M := by
  obtain ⟨p, e, R, s, m, args, below, meth, c, cs, sl, Q⟩ := κ
  obtain ⟨hd, rfl⟩ := hd
  intro C H locs ls hl hP hS
  exact lv_imul C.1.1 C.1.2.1 hd (k C H locs ls hl hP hS)
theorem r_iand {x y : Int32} (hd : Dec mi pc (.iand) 1 n) (k : RR l w mi dep κ n (.int (x &&& y) :: st) loc M) : RR l w mi dep κ pc (.int y :: .int x :: st) loc M := by
  obtain ⟨p, e, R, s, m, args, below, meth, c, cs, sl, Q⟩ := κ
  obtain ⟨hd, rfl⟩ := hd
  intro C H locs ls hl hP hS
  exact lv_iand C.1.1 C.1.2.1 hd (k C H locs ls hl hP hS)
theorem r_ior {x y : Int32} (hd : Dec mi pc (.ior) 1 n) (k : RR l w mi dep κ n (.int (x ||| y) :: st) loc M) : RR l w mi dep κ pc (.int y :: .int x :: st) loc M := by
  obtain ⟨p, e, R, s, m, args, below, meth, c, cs, sl, Q⟩ := κ
  obtain ⟨hd, rfl⟩ := hd
  intro C H locs ls hl hP hS
  exact lv_ior C.1.1 C.1.2.1 hd (k C H locs ls hl hP hS)
theorem r_ixor {x y : Int32} (hd : Dec mi pc (.ixor) 1 n) (k : RR l w mi dep κ n (.int (x ^^^ y) :: st) loc M) : RR l w mi dep κ pc (.int y :: .int x :: st) loc M := by
  obtain ⟨p, e, R, s, m, args, below, meth, c, cs, sl, Q⟩ := κ
  obtain ⟨hd, rfl⟩ := hd
  intro C H locs ls hl hP hS
  exact lv_ixor C.1.1 C.1.2.1 hd (k C H locs ls hl hP hS)
theorem r_ishl {x y : Int32} (hd : Dec mi pc (.ishl) 1 n) (k : RR l w mi dep κ n (.int (x <<< (y &&& 31)) :: st) loc M) : RR l w mi dep κ pc (.int y :: .int x :: st) loc M := by
  obtain ⟨p, e, R, s, m, args, below, meth, c, cs, sl, Q⟩ := κ
  obtain ⟨hd, rfl⟩ := hd
  intro C H locs ls hl hP hS
  exact lv_ishl C.1.1 C.1.2.1 hd (k C H locs ls hl hP hS)
theorem r_ishr {x y : Int32} (hd : Dec mi pc (.ishr) 1 n) (k : RR l w mi dep κ n (.int (x >>> (y &&& 31)) :: st) loc M) : RR l w mi dep κ pc (.int y :: .int x :: st) loc M := by
  obtain ⟨p, e, R, s, m, args, below, meth, c, cs, sl, Q⟩ := κ
  obtain ⟨hd, rfl⟩ := hd
  intro C H locs ls hl hP hS
  exact lv_ishr C.1.1 C.1.2.1 hd (k C H locs ls hl hP hS)
theorem r_idiv {x y : Int32} (hd : Dec mi pc (.idiv) 1 n) (hne : ¬ y = 0) (k : RR l w mi dep κ n (.int (x / y) :: st) loc M) : RR l w mi dep κ pc (.int y :: .int x :: st) loc M := by
  obtain ⟨p, e, R, s, m, args, below, meth, c, cs, sl, Q⟩ := κ
  obtain ⟨hd, rfl⟩ := hd
  intro C H locs ls hl hP hS
  exact lv_idiv C.1.1 C.1.2.1 hd hne (k C H locs ls hl hP hS)
theorem r_irem {x y : Int32} (hd : Dec mi pc (.irem) 1 n) (hne : ¬ y = 0) (k : RR l w mi dep κ n (.int (x - x / y * y) :: st) loc M) : RR l w mi dep κ pc (.int y :: .int x :: st) loc M := by
  obtain ⟨p, e, R, s, m, args, below, meth, c, cs, sl, Q⟩ := κ
  obtain ⟨hd, rfl⟩ := hd
  intro C H locs ls hl hP hS
  exact lv_irem C.1.1 C.1.2.1 hd hne (k C H locs ls hl hP hS)
theorem r_ladd {x y : Int64} (hd : Dec mi pc (.ladd) 1 n) (k : RR l w mi dep κ n (.long (x + y) :: st) loc M) : RR l w mi dep κ pc (.long y :: .long x :: st) loc M := by
  obtain ⟨p, e, R, s, m, args, below, meth, c, cs, sl, Q⟩ := κ
  obtain ⟨hd, rfl⟩ := hd
  intro C H locs ls hl hP hS
  exact lv_ladd C.1.1 C.1.2.1 hd (k C H locs ls hl hP hS)
theorem r_land {x y : Int64} (hd : Dec mi pc (.land) 1 n) (k : RR l w mi dep κ n (.long (x &&& y) :: st) loc M) : RR l w mi dep κ pc (.long y :: .long x :: st) loc M := by
  obtain ⟨p, e, R, s, m, args, below, meth, c, cs, sl, Q⟩ := κ
  obtain ⟨hd, rfl⟩ := hd
  intro C H locs ls hl hP hS
  exact lv_land C.1.1 C.1.2.1 hd (k C H locs ls hl hP hS)
theorem r_lor {x y : Int64} (hd : Dec mi pc (.lor) 1 n) (k : RR l w mi dep κ n (.long (x ||| y) :: st) loc M) : RR l w mi dep κ pc (.long y :: .long x :: st) loc M := by
  obtain ⟨p, e, R, s, m, args, below, meth, c, cs, sl, Q⟩ := κ
  obtain ⟨hd, rfl⟩ := hd
  intro C H locs ls hl hP hS
  exact lv_lor C.1.1 C.1.2.1 hd (k C H locs ls hl hP hS)
theorem r_lshl {x : Int64} {y : Int32} (hd : Dec mi pc (.lshl) 1 n) (k : RR l w mi dep κ n (.long (x <<< (y.toInt64 &&& 63)) :: st) loc M) : RR l w mi dep κ pc (.int y :: .long x :: st) loc M := by
  obtain ⟨p, e, R, s, m, args, below, meth, c, cs, sl, Q⟩ := κ
  obtain ⟨hd, rfl⟩ := hd
  intro C H locs ls hl hP hS
  exact lv_lshl C.1.1 C.1.2.1 hd rfl (k C H locs ls hl hP hS)
theorem r_lshr {x : Int64} {y : Int32} (hd : Dec mi pc (.lshr) 1 n) (k : RR l w mi dep κ n (.long (x >>> (y.toInt64 &&& 63)) :: st) loc M) : RR l w mi dep κ pc (.int y :: .long x :: st) loc M := by
  obtain ⟨p, e, R, s, m, args, below, meth, c, cs, sl, Q⟩ := κ
  obtain ⟨hd, rfl⟩ := hd
  intro C H locs ls hl hP hS
  exact lv_lshr C.1.1 C.1.2.1 hd rfl (k C H locs ls hl hP hS)
theorem r_lushr {x : Int64} {y : Int32} (hd : Dec mi pc (.lushr) 1 n) (k : RR l w mi dep κ n (.long ((x.toUInt64 >>> (y.toInt64.toUInt64 &&& Int64.toUInt64 63)).toInt64) :: st) loc M) : RR l w mi dep κ pc (.int y :: .long x :: st) loc M := by
  obtain ⟨p, e, R, s, m, args, below, meth, c, cs, sl, Q⟩ := κ
  obtain ⟨hd, rfl⟩ := hd
  intro C H locs ls hl hP hS
  exact lv_lushr C.1.1 C.1.2.1 hd rfl (k C H locs ls hl hP hS)
theorem r_iushr {x y : Int32} (hd : Dec mi pc (.iushr) 1 n) (k : RR l w mi dep κ n (.int ((x.toUInt32 >>> (y.toUInt32 &&& Int32.toUInt32 31)).toInt32) :: st) loc M) : RR l w mi dep κ pc (.int y :: .int x :: st) loc M := by
  obtain ⟨p, e, R, s, m, args, below, meth, c, cs, sl, Q⟩ := κ
  obtain ⟨hd, rfl⟩ := hd
  intro C H locs ls hl hP hS
  exact lv_iushr C.1.1 C.1.2.1 hd rfl (k C H locs ls hl hP hS)
theorem r_i2l {x : Int32} (hd : Dec mi pc (.i2l) 1 n) (k : RR l w mi dep κ n (.long x.toInt64 :: st) loc M) : RR l w mi dep κ pc (.int x :: st) loc M := by
  obtain ⟨p, e, R, s, m, args, below, meth, c, cs, sl, Q⟩ := κ
  obtain ⟨hd, rfl⟩ := hd
  intro C H locs ls hl hP hS
  exact lv_i2l C.1.1 C.1.2.1 hd rfl (k C H locs ls hl hP hS)
theorem r_l2i {x : Int64} (hd : Dec mi pc (.l2i) 1 n) (k : RR l w mi dep κ n (.int x.toInt32 :: st) loc M) : RR l w mi dep κ pc (.long x :: st) loc M := by
  obtain ⟨p, e, R, s, m, args, below, meth, c, cs, sl, Q⟩ := κ
  obtain ⟨hd, rfl⟩ := hd
  intro C H locs ls hl hP hS
  exact lv_l2i C.1.1 C.1.2.1 hd rfl (k C H locs ls hl hP hS)
theorem r_i2b {x : Int32} (hd : Dec mi pc (.i2b) 1 n) (k : RR l w mi dep κ n (.int x.toInt8.toInt32 :: st) loc M) : RR l w mi dep κ pc (.int x :: st) loc M := by
  obtain ⟨p, e, R, s, m, args, below, meth, c, cs, sl, Q⟩ := κ
  obtain ⟨hd, rfl⟩ := hd
  intro C H locs ls hl hP hS
  exact lv_i2b C.1.1 C.1.2.1 hd rfl (k C H locs ls hl hP hS)
theorem r_i2c {x : Int32} (hd : Dec mi pc (.i2c) 1 n) (k : RR l w mi dep κ n (.int (x.toUInt32 % 65536).toInt32 :: st) loc M) : RR l w mi dep κ pc (.int x :: st) loc M := by
  obtain ⟨p, e, R, s, m, args, below, meth, c, cs, sl, Q⟩ := κ
  obtain ⟨hd, rfl⟩ := hd
  intro C H locs ls hl hP hS
  exact lv_i2c C.1.1 C.1.2.1 hd rfl (k C H locs ls hl hP hS)
theorem r_pop {va : Value} (hd : Dec mi pc (.pop) 1 n) (hva : va.category = 1) (k : RR l w mi dep κ n (st) loc M) : RR l w mi dep κ pc (va :: st) loc M := by
  obtain ⟨p, e, R, s, m, args, below, meth, c, cs, sl, Q⟩ := κ
  obtain ⟨hd, rfl⟩ := hd
  intro C H locs ls hl hP hS
  exact lv_pop C.1.1 C.1.2.1 hd hva (k C H locs ls hl hP hS)
theorem r_dup {va : Value} (hd : Dec mi pc (.dup) 1 n) (hva : va.category = 1) (k : RR l w mi dep κ n (va :: va :: st) loc M) : RR l w mi dep κ pc (va :: st) loc M := by
  obtain ⟨p, e, R, s, m, args, below, meth, c, cs, sl, Q⟩ := κ
  obtain ⟨hd, rfl⟩ := hd
  intro C H locs ls hl hP hS
  exact lv_dup C.1.1 C.1.2.1 hd hva (k C H locs ls hl hP hS)
theorem r_dup2 {va vb : Value} (hd : Dec mi pc (.dup2) 1 n) (hva : va.category = 1) (hvb : vb.category = 1) (k : RR l w mi dep κ n (va :: vb :: va :: vb :: st) loc M) : RR l w mi dep κ pc (va :: vb :: st) loc M := by
  obtain ⟨p, e, R, s, m, args, below, meth, c, cs, sl, Q⟩ := κ
  obtain ⟨hd, rfl⟩ := hd
  intro C H locs ls hl hP hS
  exact lv_dup2_11 C.1.1 C.1.2.1 hd hva hvb (k C H locs ls hl hP hS)
theorem r_dup2l {va : Value} (hd : Dec mi pc (.dup2) 1 n) (hva : va.category = 2) (k : RR l w mi dep κ n (va :: va :: st) loc M) : RR l w mi dep κ pc (va :: st) loc M := by
  obtain ⟨p, e, R, s, m, args, below, meth, c, cs, sl, Q⟩ := κ
  obtain ⟨hd, rfl⟩ := hd
  intro C H locs ls hl hP hS
  exact lv_dup2_2 C.1.1 C.1.2.1 hd hva (k C H locs ls hl hP hS)
theorem r_lcmp {x y : Int64} (hd : Dec mi pc (.lcmp) 1 n) (k : RR l w mi dep κ n (.int (lg_cmp x y) :: st) loc M) : RR l w mi dep κ pc (.long y :: .long x :: st) loc M := by
  obtain ⟨p, e, R, s, m, args, below, meth, c, cs, sl, Q⟩ := κ
  obtain ⟨hd, rfl⟩ := hd
  intro C H locs ls hl hP hS
  exact W.lcmp C.1.1 C.1.2.1 hd (k C H locs ls hl hP hS)
theorem r_iconst {i : Int} {v : Int32} (hd : Dec mi pc (.iconst i) 1 n) (hv : Int32.ofInt i = v) (k : RR l w mi dep κ n (.int v :: st) loc M) : RR l w mi dep κ pc (st) loc M := by
  obtain ⟨p, e, R, s, m, args, below, meth, c, cs, sl, Q⟩ := κ
  obtain ⟨hd, rfl⟩ := hd
  intro C H locs ls hl hP hS
  exact lv_iconst C.1.1 C.1.2.1 hd hv (k C H locs ls hl hP hS)
theorem r_bipush {i : Int} {v : Int32} (hd : Dec mi pc (.bipush i) 2 n) (hv : (Int8.ofInt i).toInt32 = v) (k : RR l w mi dep κ n (.int v :: st) loc M) : RR l w mi dep κ pc (st) loc M := by
  obtain ⟨p, e, R, s, m, args, below, meth, c, cs, sl, Q⟩ := κ
  obtain ⟨hd, rfl⟩ := hd
  intro C H locs ls hl hP hS
  exact lv_bipush C.1.1 C.1.2.1 hd hv (k C H locs ls hl hP hS)
theorem r_sipush {i : Int} {v : Int32} (hd : Dec mi pc (.sipush i) 3 n) (hv : (Int16.ofInt i).toInt32 = v) (k : RR l w mi dep κ n (.int v :: st) loc M) : RR l w mi dep κ pc (st) loc M := by
  obtain ⟨p, e, R, s, m, args, below, meth, c, cs, sl, Q⟩ := κ
  obtain ⟨hd, rfl⟩ := hd
  intro C H locs ls hl hP hS
  exact lv_sipush C.1.1 C.1.2.1 hd hv (k C H locs ls hl hP hS)
theorem r_lconst {i : Fin 2} {v : Int64} (hd : Dec mi pc (.lconst i) 1 n) (hv : Int64.ofNat (i : Nat) = v) (k : RR l w mi dep κ n (.long v :: st) loc M) : RR l w mi dep κ pc (st) loc M := by
  obtain ⟨p, e, R, s, m, args, below, meth, c, cs, sl, Q⟩ := κ
  obtain ⟨hd, rfl⟩ := hd
  intro C H locs ls hl hP hS
  exact lv_lconst C.1.1 C.1.2.1 hd hv (k C H locs ls hl hP hS)
theorem r_ldc {i : Nat} {v : Int32} (hd : Dec mi pc (.ldc i) 2 n) (hc : Cond.constant mi.2.2.1 i v ∈ lw_t) (k : RR l w mi dep κ n (.int v :: st) loc M) : RR l w mi dep κ pc st loc M := by
  obtain ⟨p, e, R, s, m, args, below, meth, c, cs, sl, Q⟩ := κ
  obtain ⟨hd, rfl⟩ := hd
  intro C H locs ls hl hP hS
  exact lv_ldc C.1.1 C.1.2.1 C.1.2.2.2.1 (C.1.2.2.2.2 _ hc) hd (k C H locs ls hl hP hS)
theorem r_ldcw {i : Nat} {v : Int32} (hd : Dec mi pc (.ldc_w i) 3 n) (hc : Cond.constant mi.2.2.1 i v ∈ lw_t) (k : RR l w mi dep κ n (.int v :: st) loc M) : RR l w mi dep κ pc st loc M := by
  obtain ⟨p, e, R, s, m, args, below, meth, c, cs, sl, Q⟩ := κ
  obtain ⟨hd, rfl⟩ := hd
  intro C H locs ls hl hP hS
  exact lv_ldcw C.1.1 C.1.2.1 C.1.2.2.2.1 (C.1.2.2.2.2 _ hc) hd (k C H locs ls hl hP hS)
theorem r_ldc2 {i : Nat} {v : Int64} (hd : Dec mi pc (.ldc2_w i) 3 n) (hc : Cond.constantLong mi.2.2.1 i v ∈ lw_t) (k : RR l w mi dep κ n (.long v :: st) loc M) : RR l w mi dep κ pc st loc M := by
  obtain ⟨p, e, R, s, m, args, below, meth, c, cs, sl, Q⟩ := κ
  obtain ⟨hd, rfl⟩ := hd
  intro C H locs ls hl hP hS
  exact lv_ldc2 C.1.1 C.1.2.1 C.1.2.2.2.1 (C.1.2.2.2.2 _ hc) hd (k C H locs ls hl hP hS)
theorem r_iload {i : Nat} {x : Int32} (hd : Dec mi pc (.iload i) 2 n) (hi : loc[i]? = some (some (.int x))) (k : RR l w mi dep κ n (.int x :: st) loc M) : RR l w mi dep κ pc st loc M := by
  obtain ⟨p, e, R, s, m, args, below, meth, c, cs, sl, Q⟩ := κ
  obtain ⟨hd, rfl⟩ := hd
  intro C H locs ls hl hP hS
  exact lv_iload C.1.1 C.1.2.1 hd (lv_get hl hi) (k C H locs ls hl hP hS)
theorem r_iload_n {i : Fin 4} {x : Int32} (hd : Dec mi pc (.iload_n i) 1 n) (hi : loc[i.val]? = some (some (.int x))) (k : RR l w mi dep κ n (.int x :: st) loc M) : RR l w mi dep κ pc st loc M := by
  obtain ⟨p, e, R, s, m, args, below, meth, c, cs, sl, Q⟩ := κ
  obtain ⟨hd, rfl⟩ := hd
  intro C H locs ls hl hP hS
  exact lv_iload_n C.1.1 C.1.2.1 hd rfl (lv_get hl hi) (k C H locs ls hl hP hS)
theorem r_aload {i : Nat} {x : Nat} (hd : Dec mi pc (.aload i) 2 n) (hi : loc[i]? = some (some (.ref x))) (k : RR l w mi dep κ n (.ref x :: st) loc M) : RR l w mi dep κ pc st loc M := by
  obtain ⟨p, e, R, s, m, args, below, meth, c, cs, sl, Q⟩ := κ
  obtain ⟨hd, rfl⟩ := hd
  intro C H locs ls hl hP hS
  exact lv_aload C.1.1 C.1.2.1 hd (lv_get hl hi) (k C H locs ls hl hP hS)
theorem r_aload_n {i : Fin 4} {x : Nat} (hd : Dec mi pc (.aload_n i) 1 n) (hi : loc[i.val]? = some (some (.ref x))) (k : RR l w mi dep κ n (.ref x :: st) loc M) : RR l w mi dep κ pc st loc M := by
  obtain ⟨p, e, R, s, m, args, below, meth, c, cs, sl, Q⟩ := κ
  obtain ⟨hd, rfl⟩ := hd
  intro C H locs ls hl hP hS
  exact lv_aload_n C.1.1 C.1.2.1 hd rfl (lv_get hl hi) (k C H locs ls hl hP hS)
theorem r_lload {i : Nat} {x : Int64} (hd : Dec mi pc (.lload i) 2 n) (hi : loc[i]? = some (some (.long x))) (k : RR l w mi dep κ n (.long x :: st) loc M) : RR l w mi dep κ pc st loc M := by
  obtain ⟨p, e, R, s, m, args, below, meth, c, cs, sl, Q⟩ := κ
  obtain ⟨hd, rfl⟩ := hd
  intro C H locs ls hl hP hS
  exact lv_lload C.1.1 C.1.2.1 hd (lv_get hl hi) (k C H locs ls hl hP hS)
theorem r_lload_n {i : Fin 4} {x : Int64} (hd : Dec mi pc (.lload_n i) 1 n) (hi : loc[i.val]? = some (some (.long x))) (k : RR l w mi dep κ n (.long x :: st) loc M) : RR l w mi dep κ pc st loc M := by
  obtain ⟨p, e, R, s, m, args, below, meth, c, cs, sl, Q⟩ := κ
  obtain ⟨hd, rfl⟩ := hd
  intro C H locs ls hl hP hS
  exact lv_lload_n C.1.1 C.1.2.1 hd rfl (lv_get hl hi) (k C H locs ls hl hP hS)
theorem r_istore {i : Nat} {x : Int32} (hd : Dec mi pc (.istore i) 2 n) (hi : i < mi.2.1) (hok : okS loc i = true) (k : RR l w mi dep κ n st (loc.set i (some (.int x))) M) : RR l w mi dep κ pc (.int x :: st) loc M := by
  obtain ⟨p, e, R, s, m, args, below, meth, c, cs, sl, Q⟩ := κ
  obtain ⟨hd, rfl⟩ := hd
  intro C H locs ls hl hP hS
  exact lv_istore C.1.1 C.1.2.1 hd hl hi rfl (fun ls' hl' => k C H locs ls' (lv_put hl' hok) hP hS)
theorem r_istore_n {i : Fin 4} {x : Int32} (hd : Dec mi pc (.istore_n i) 1 n) (hi : i.val < mi.2.1) (hok : okS loc i.val = true) (k : RR l w mi dep κ n st (loc.set i.val (some (.int x))) M) : RR l w mi dep κ pc (.int x :: st) loc M := by
  obtain ⟨p, e, R, s, m, args, below, meth, c, cs, sl, Q⟩ := κ
  obtain ⟨hd, rfl⟩ := hd
  intro C H locs ls hl hP hS
  exact lv_istore_n C.1.1 C.1.2.1 hd rfl hl hi rfl (fun ls' hl' => k C H locs ls' (lv_put hl' hok) hP hS)
theorem r_astore {i : Nat} {x : Nat} (hd : Dec mi pc (.astore i) 2 n) (hi : i < mi.2.1) (hok : okS loc i = true) (k : RR l w mi dep κ n st (loc.set i (some (.ref x))) M) : RR l w mi dep κ pc (.ref x :: st) loc M := by
  obtain ⟨p, e, R, s, m, args, below, meth, c, cs, sl, Q⟩ := κ
  obtain ⟨hd, rfl⟩ := hd
  intro C H locs ls hl hP hS
  exact lv_astore C.1.1 C.1.2.1 hd hl hi rfl (fun ls' hl' => k C H locs ls' (lv_put hl' hok) hP hS)
theorem r_astore_n {i : Fin 4} {x : Nat} (hd : Dec mi pc (.astore_n i) 1 n) (hi : i.val < mi.2.1) (hok : okS loc i.val = true) (k : RR l w mi dep κ n st (loc.set i.val (some (.ref x))) M) : RR l w mi dep κ pc (.ref x :: st) loc M := by
  obtain ⟨p, e, R, s, m, args, below, meth, c, cs, sl, Q⟩ := κ
  obtain ⟨hd, rfl⟩ := hd
  intro C H locs ls hl hP hS
  exact lv_astore_n C.1.1 C.1.2.1 hd rfl hl hi rfl (fun ls' hl' => k C H locs ls' (lv_put hl' hok) hP hS)
theorem r_iinc {i : Nat} {d : Int} {x v : Int32} (hd : Dec mi pc (.iinc i d) 3 n) (hx : loc[i]? = some (some (.int x))) (hv : Int32.ofInt d = v) (hi : i < mi.2.1) (hok : okS loc i = true) (k : RR l w mi dep κ n st (loc.set i (some (.int (x + v)))) M) : RR l w mi dep κ pc st loc M := by
  obtain ⟨p, e, R, s, m, args, below, meth, c, cs, sl, Q⟩ := κ
  obtain ⟨hd, rfl⟩ := hd
  intro C H locs ls hl hP hS
  subst hv
  obtain ⟨z, hz⟩ := List.getElem?_of_mem (mem_lvOf.mpr hx)
  exact lv_iinc C.1.1 C.1.2.1 hd hl hz rfl hi rfl (fun ls' hl' => k C H locs ls' (lv_put hl' hok) hP hS)
theorem r_icmp_eq {x y : Int32} {t : Nat} {off : Int} (hd : DecJ mi pc (.if_icmp .eq off) off n t) (kt : x = y → RR l w mi dep κ t st loc M) (kf : ¬ x = y → RR l w mi dep κ n st loc M) : RR l w mi dep κ pc (.int y :: .int x :: st) loc M := by
  obtain ⟨p, e, R, s, m, args, below, meth, c, cs, sl, Q⟩ := κ
  obtain ⟨hd, rfl, ht⟩ := hd
  intro C H locs ls hl hP hS
  exact lv_icmp_eq C.1.1 C.1.2.1 hd ht (fun z => kt z C H locs ls hl hP hS) (fun z => kf z C H locs ls hl hP hS)
theorem r_if_eq {x : Int32} {t : Nat} {off : Int} (hd : DecJ mi pc (.ifCond .eq off) off n t) (kt : x = 0 → RR l w mi dep κ t st loc M) (kf : ¬ x = 0 → RR l w mi dep κ n st loc M) : RR l w mi dep κ pc (.int x :: st) loc M := by
  obtain ⟨p, e, R, s, m, args, below, meth, c, cs, sl, Q⟩ := κ
  obtain ⟨hd, rfl, ht⟩ := hd
  intro C H locs ls hl hP hS
  exact lv_if_eq C.1.1 C.1.2.1 hd ht (fun z => kt z C H locs ls hl hP hS) (fun z => kf z C H locs ls hl hP hS)
theorem r_icmp_ne {x y : Int32} {t : Nat} {off : Int} (hd : DecJ mi pc (.if_icmp .ne off) off n t) (kt : x = y → RR l w mi dep κ n st loc M) (kf : ¬ x = y → RR l w mi dep κ t st loc M) : RR l w mi dep κ pc (.int y :: .int x :: st) loc M := by
  obtain ⟨p, e, R, s, m, args, below, meth, c, cs, sl, Q⟩ := κ
  obtain ⟨hd, rfl, ht⟩ := hd
  intro C H locs ls hl hP hS
  exact lv_icmp_ne C.1.1 C.1.2.1 hd ht (fun z => kf z C H locs ls hl hP hS) (fun z => kt z C H locs ls hl hP hS)
theorem r_if_ne {x : Int32} {t : Nat} {off : Int} (hd : DecJ mi pc (.ifCond .ne off) off n t) (kt : x = 0 → RR l w mi dep κ n st loc M) (kf : ¬ x = 0 → RR l w mi dep κ t st loc M) : RR l w mi dep κ pc (.int x :: st) loc M := by
  obtain ⟨p, e, R, s, m, args, below, meth, c, cs, sl, Q⟩ := κ
  obtain ⟨hd, rfl, ht⟩ := hd
  intro C H locs ls hl hP hS
  exact lv_if_ne C.1.1 C.1.2.1 hd ht (fun z => kf z C H locs ls hl hP hS) (fun z => kt z C H locs ls hl hP hS)
theorem r_icmp_lt {x y : Int32} {t : Nat} {off : Int} (hd : DecJ mi pc (.if_icmp .lt off) off n t) (kt : x < y → RR l w mi dep κ t st loc M) (kf : ¬ x < y → RR l w mi dep κ n st loc M) : RR l w mi dep κ pc (.int y :: .int x :: st) loc M := by
  obtain ⟨p, e, R, s, m, args, below, meth, c, cs, sl, Q⟩ := κ
  obtain ⟨hd, rfl, ht⟩ := hd
  intro C H locs ls hl hP hS
  exact lv_icmp_lt C.1.1 C.1.2.1 hd ht (fun z => kt z C H locs ls hl hP hS) (fun z => kf z C H locs ls hl hP hS)
theorem r_if_lt {x : Int32} {t : Nat} {off : Int} (hd : DecJ mi pc (.ifCond .lt off) off n t) (kt : x < 0 → RR l w mi dep κ t st loc M) (kf : ¬ x < 0 → RR l w mi dep κ n st loc M) : RR l w mi dep κ pc (.int x :: st) loc M := by
  obtain ⟨p, e, R, s, m, args, below, meth, c, cs, sl, Q⟩ := κ
  obtain ⟨hd, rfl, ht⟩ := hd
  intro C H locs ls hl hP hS
  exact lv_if_lt C.1.1 C.1.2.1 hd ht (fun z => kt z C H locs ls hl hP hS) (fun z => kf z C H locs ls hl hP hS)
theorem r_icmp_ge {x y : Int32} {t : Nat} {off : Int} (hd : DecJ mi pc (.if_icmp .ge off) off n t) (kt : y ≤ x → RR l w mi dep κ t st loc M) (kf : ¬ y ≤ x → RR l w mi dep κ n st loc M) : RR l w mi dep κ pc (.int y :: .int x :: st) loc M := by
  obtain ⟨p, e, R, s, m, args, below, meth, c, cs, sl, Q⟩ := κ
  obtain ⟨hd, rfl, ht⟩ := hd
  intro C H locs ls hl hP hS
  exact lv_icmp_ge C.1.1 C.1.2.1 hd ht (fun z => kt z C H locs ls hl hP hS) (fun z => kf z C H locs ls hl hP hS)
theorem r_if_ge {x : Int32} {t : Nat} {off : Int} (hd : DecJ mi pc (.ifCond .ge off) off n t) (kt : 0 ≤ x → RR l w mi dep κ t st loc M) (kf : ¬ 0 ≤ x → RR l w mi dep κ n st loc M) : RR l w mi dep κ pc (.int x :: st) loc M := by
  obtain ⟨p, e, R, s, m, args, below, meth, c, cs, sl, Q⟩ := κ
  obtain ⟨hd, rfl, ht⟩ := hd
  intro C H locs ls hl hP hS
  exact lv_if_ge C.1.1 C.1.2.1 hd ht (fun z => kt z C H locs ls hl hP hS) (fun z => kf z C H locs ls hl hP hS)
theorem r_icmp_gt {x y : Int32} {t : Nat} {off : Int} (hd : DecJ mi pc (.if_icmp .gt off) off n t) (kt : y < x → RR l w mi dep κ t st loc M) (kf : ¬ y < x → RR l w mi dep κ n st loc M) : RR l w mi dep κ pc (.int y :: .int x :: st) loc M := by
  obtain ⟨p, e, R, s, m, args, below, meth, c, cs, sl, Q⟩ := κ
  obtain ⟨hd, rfl, ht⟩ := hd
  intro C H locs ls hl hP hS
  exact lv_icmp_gt C.1.1 C.1.2.1 hd ht (fun z => kt z C H locs ls hl hP hS) (fun z => kf z C H locs ls hl hP hS)
theorem r_if_gt {x : Int32} {t : Nat} {off : Int} (hd : DecJ mi pc (.ifCond .gt off) off n t) (kt : 0 < x → RR l w mi dep κ t st loc M) (kf : ¬ 0 < x → RR l w mi dep κ n st loc M) : RR l w mi dep κ pc (.int x :: st) loc M := by
  obtain ⟨p, e, R, s, m, args, below, meth, c, cs, sl, Q⟩ := κ
  obtain ⟨hd, rfl, ht⟩ := hd
  intro C H locs ls hl hP hS
  exact lv_if_gt C.1.1 C.1.2.1 hd ht (fun z => kt z C H locs ls hl hP hS) (fun z => kf z C H locs ls hl hP hS)
theorem r_icmp_le {x y : Int32} {t : Nat} {off : Int} (hd : DecJ mi pc (.if_icmp .le off) off n t) (kt : x ≤ y → RR l w mi dep κ t st loc M) (kf : ¬ x ≤ y → RR l w mi dep κ n st loc M) : RR l w mi dep κ pc (.int y :: .int x :: st) loc M := by
  obtain ⟨p, e, R, s, m, args, below, meth, c, cs, sl, Q⟩ := κ
  obtain ⟨hd, rfl, ht⟩ := hd
  intro C H locs ls hl hP hS
  exact lv_icmp_le C.1.1 C.1.2.1 hd ht (fun z => kt z C H locs ls hl hP hS) (fun z => kf z C H locs ls hl hP hS)
theorem r_if_le {x : Int32} {t : Nat} {off : Int} (hd : DecJ mi pc (.ifCond .le off) off n t) (kt : x ≤ 0 → RR l w mi dep κ t st loc M) (kf : ¬ x ≤ 0 → RR l w mi dep κ n st loc M) : RR l w mi dep κ pc (.int x :: st) loc M := by
  obtain ⟨p, e, R, s, m, args, below, meth, c, cs, sl, Q⟩ := κ
  obtain ⟨hd, rfl, ht⟩ := hd
  intro C H locs ls hl hP hS
  exact lv_if_le C.1.1 C.1.2.1 hd ht (fun z => kt z C H locs ls hl hP hS) (fun z => kf z C H locs ls hl hP hS)
theorem r_goto {t : Nat} {off : Int} (hd : DecJ mi pc (.goto off) off n t) (k : RR l w mi dep κ t st loc M) : RR l w mi dep κ pc st loc M := by
  obtain ⟨p, e, R, s, m, args, below, meth, c, cs, sl, Q⟩ := κ
  obtain ⟨hd, rfl, ht⟩ := hd
  intro C H locs ls hl hP hS
  exact lv_goto C.1.1 C.1.2.1 hd ht (k C H locs ls hl hP hS)
-- fields
def FL (own : String) (idx ci k : Nat) : Prop := ∃ (C : String) (T : u_T) (N : Nat), cls[ci]? = some (C, T, N) ∧ k < N ∧ (∀ x ∈ u_ws C T N, x ∈ lw_t) ∧ Cond.fieldLink own idx (T k).1 (T k).2.1 (T k).2.2.1 ∈ lw_t
def FP (own : String) (idx ci k : Nat) (ty : FieldType) : Prop := ∃ (C : String) (T : u_T) (N : Nat) (tf : Nat → FieldType), cls[ci]? = some (C, T, N) ∧ k < N ∧ (∀ x ∈ u_ws C T N, x ∈ lw_t) ∧ Cond.fieldLink own idx (T k).1 (T k).2.1 (T k).2.2.1 ∈ lw_t ∧ (∀ j, j < N → parseFieldDescriptor (T j).2.2.1 = some (tf j)) ∧ (∀ a, a < N → ∀ b, b < N → a ≠ b → (T a).2.1 ≠ (T b).2.1) ∧ (T k).2.2.2 = false ∧ parseFieldDescriptor (T k).2.2.1 = some ty
theorem fvs_at {w : Wd} {M : Mem} {o k x : Nat} {fs : List Nat} (h : fs[k]? = some x) : (fvs w M o fs)[k]? = some (fv w M o k x) := by
  rw [fvs, List.getElem?_mapIdx, h]; rfl
theorem r_get {i ci k o x : Nat} {fs : List Nat} (hd : Dec mi pc (.getfield i) 3 n) (hf : FL mi.2.2.1 i ci k) (hs : shL[o]? = some (.inr (ci, fs))) (hk : fs[k]? = some x) (kk : RR l w mi dep κ n (fv w M o k x :: st) loc M) : RR l w mi dep κ pc (.ref (wq w o) :: st) loc M := by
  obtain ⟨p, e, R, s, m, args, below, meth, c, cs, sl, Q⟩ := κ
  obtain ⟨hd, rfl⟩ := hd
  obtain ⟨CC, T, N, h1, h2, h3, h4⟩ := hf
  intro C H locs ls hl hP hS
  exact va_get C.1.1 C.1.2.1 C.1.2.2.2.2 h3 C.1.2.2.2.1 C.2.2.1 hP o (world_at hs) h1 k h2 (C.1.2.2.2.2 _ h4) (fun _ h => h) (fvs_at hk) hd (kk C H locs ls hl hP hS)
theorem fvs_set {w : Wd} {M M' : Mem} {o k : Nat} {fs : List Nat} {v : Value} (h : ∀ x, fs[k]? = some x → fv w M' o k x = v) (ho : ∀ j x, j ≠ k → fs[j]? = some x → fv w M' o j x = fv w M o j x) : (fvs w M o fs).set k v = fvs w M' o fs := by
  apply List.ext_getElem?
  intro j
  rw [List.getElem?_set, fvs, fvs, List.getElem?_mapIdx, List.getElem?_mapIdx, List.length_mapIdx]
  by_cases hj : k = j
  · subst hj
    rw [if_pos rfl]
    cases hx : fs[k]? with
    | none =>
      rw [if_neg]
      · rfl
      · intro hlt
        rw [List.getElem?_eq_none_iff] at hx
        omega
    | some x =>
      rw [if_pos (List.getElem?_eq_some_iff.mp hx).1]
      show some v = some (fv w M' o k x)
      rw [h x hx]
  · rw [if_neg hj]
    cases hx : fs[j]? with
    | none => rfl
    | some x =>
      show some (fv w M o j x) = some (fv w M' o j x)
      rw [ho j x (fun e => hj e.symm) hx]
theorem upd_at {f : Nat → Int32} {k : Nat} {x : Int32} : upd f k x k = x := if_pos rfl
theorem upd_ne {f : Nat → Int32} {k j : Nat} {x : Int32} (h : j ≠ k) : upd f k x j = f j := if_neg h
theorem updL_at {f : Nat → Int64} {k : Nat} {x : Int64} : vp_updL f k x k = x := if_pos rfl
theorem updL_ne {f : Nat → Int64} {k j : Nat} {x : Int64} (h : j ≠ k) : vp_updL f k x j = f j := if_neg h
theorem setI_self {M : Mem} {c k : Nat} {v : Int32} : (setI M c k v).1 c = upd (M.1 c) k v := if_pos rfl
theorem setL_self {M : Mem} {c k : Nat} {v : Int64} : (setL M c k v).2 c = vp_updL (M.2 c) k v := if_pos rfl
theorem setA_self {M : Mem} {c : Nat} {v : Nat → Int32} : (setA M c v).1 c = v := if_pos rfl
theorem setB_self {M : Mem} {c : Nat} {v : Nat → Int64} : (setB M c v).2 c = v := if_pos rfl
/-- an int or boolean field -/
theorem r_putI {i ci k o : Nat} {fs : List Nat} {ty : FieldType} {v : Int32} (hd : Dec mi pc (.putfield i) 3 n) (hf : FP mi.2.2.1 i ci k ty) (hs : shL[o]? = some (.inr (ci, fs))) (hk : fs[k]? = some 0) (hn : narrow ty (.int v) = .int v) (hfit : fits ty (.int v) = true) (kk : RR l w mi dep κ n st loc (setI M o k v)) : RR l w mi dep κ pc (.int v :: .ref (wq w o) :: st) loc M := by
  obtain ⟨p, e, R, s, m, args, below, meth, c, cs, sl, Q⟩ := κ
  obtain ⟨hd, rfl⟩ := hd
  obtain ⟨CC, T, N, tf, h1, h2, h3, h4, h5, h6, h7, h8⟩ := hf
  intro C H locs ls hl hP hS
  have hlen : k < (fvs w M o fs).length := by rw [fvs, List.length_mapIdx]; exact (List.getElem?_eq_some_iff.mp hk).1
  refine va_put C.1.1 C.1.2.1 C.1.2.2.2.2 h3 tf h5 h6 C.1.2.2.2.1 C.2.2.1 hP C.D hS o (world_at hs) h1 k h2 (C.1.2.2.2.2 _ h4) (fun _ h => h) h7 h8 hn hfit hlen hd (fun H1 locs1 hP1 _ hS1 => kk C H1 locs1 ls hl ?_ hS1)
  have he : entS w (setI M o k v) o (.inr (ci, fs)) = .inr (ci, (fvs w M o fs).set k (.int v)) := by
    show Sum.inr (ci, fvs w (setI M o k v) o fs) = _
    rw [fvs_set (M' := setI M o k v)]
    · intro x hx
      cases hk.symm.trans hx
      show Value.int ((setI M o k v).1 o k) = _
      rw [setI_self, upd_at]
    · intro j x hj hx
      match x with
      | 0 =>
        show Value.int ((setI M o k v).1 o j) = Value.int (M.1 o j)
        rw [setI_self, upd_ne hj]
      | 1 => rfl
      | y + 2 => rfl
  rw [world_set hs he setI_off] at hP1
  exact hP1
/-- a long field -/
theorem r_putL {i ci k o : Nat} {fs : List Nat} {v : Int64} (hd : Dec mi pc (.putfield i) 3 n) (hf : FP mi.2.2.1 i ci k .long) (hs : shL[o]? = some (.inr (ci, fs))) (hk : fs[k]? = some 1) (kk : RR l w mi dep κ n st loc (setL M o k v)) : RR l w mi dep κ pc (.long v :: .ref (wq w o) :: st) loc M := by
  obtain ⟨p, e, R, s, m, args, below, meth, c, cs, sl, Q⟩ := κ
  obtain ⟨hd, rfl⟩ := hd
  obtain ⟨CC, T, N, tf, h1, h2, h3, h4, h5, h6, h7, h8⟩ := hf
  intro C H locs ls hl hP hS
  have hlen : k < (fvs w M o fs).length := by rw [fvs, List.length_mapIdx]; exact (List.getElem?_eq_some_iff.mp hk).1
  refine va_put C.1.1 C.1.2.1 C.1.2.2.2.2 h3 tf h5 h6 C.1.2.2.2.1 C.2.2.1 hP C.D hS o (world_at hs) h1 k h2 (C.1.2.2.2.2 _ h4) (fun _ h => h) h7 h8 rfl rfl hlen hd (fun H1 locs1 hP1 _ hS1 => kk C H1 locs1 ls hl ?_ hS1)
  have he : entS w (setL M o k v) o (.inr (ci, fs)) = .inr (ci, (fvs w M o fs).set k (.long v)) := by
    show Sum.inr (ci, fvs w (setL M o k v) o fs) = _
    rw [fvs_set (M' := setL M o k v)]
    · intro x hx
      cases hk.symm.trans hx
      show Value.long ((setL M o k v).2 o k) = _
      rw [setL_self, updL_at]
    · intro j x hj hx
      match x with
      | 0 => rfl
      | 1 =>
        show Value.long ((setL M o k v).2 o j) = Value.long (M.2 o j)
        rw [setL_self, updL_ne hj]
      | y + 2 => rfl
  rw [world_set hs he setL_off] at hP1
  exact hP1
-- arrays
theorem entS_I {w : Wd} {M : Mem} {c t len : Nat} (ht : t ≠ 3) : entS w M c (.inl (t, len)) = .inl (w.2.1 t, len, .inl (M.1 c)) := by
  show Sum.inl (w.2.1 t, len, if t = 3 then _ else _) = _
  rw [if_neg ht]
theorem entS_L {w : Wd} {M : Mem} {c len : Nat} : entS w M c (.inl (3, len)) = .inl (w.2.1 3, len, .inr (.inl (M.2 c))) := rfl
theorem world_I {w : Wd} {M : Mem} {c t len : Nat} (h : shL[c]? = some (.inl (t, len))) (ht : t ≠ 3) : (world w M)[c]? = some (wq w c, .inl (w.2.1 t, len, .inl (M.1 c))) := by rw [world_at h, entS_I ht]
theorem world_L {w : Wd} {M : Mem} {c len : Nat} (h : shL[c]? = some (.inl (3, len))) : (world w M)[c]? = some (wq w c, .inl (w.2.1 3, len, .inr (.inl (M.2 c)))) := world_at h
theorem r_iald {c len : Nat} {i : Int32} (hd : Dec mi pc .iaload 1 n) (hs : shL[c]? = some (.inl (0, len))) (hc : ck i len = true) (kk : RR l w mi dep κ n (.int (M.1 c i.toNatClampNeg) :: st) loc M) : RR l w mi dep κ pc (.int i :: .ref (wq w c) :: st) loc M := by
  obtain ⟨p, e, R, s, m, args, below, meth, c0, cs, sl, Q⟩ := κ
  obtain ⟨hd, rfl⟩ := hd
  intro C H locs ls hl hP hS
  exact va_iald C.1.1 C.1.2.1 C.2.2.1 hP c 0 (world_I hs (by decide)) rfl (ck_in hc) hd (kk C H locs ls hl hP hS)
theorem r_bald {c len : Nat} {i : Int32} (hd : Dec mi pc .baload 1 n) (hs : shL[c]? = some (.inl (1, len))) (hc : ck i len = true) (kk : RR l w mi dep κ n (.int (M.1 c i.toNatClampNeg) :: st) loc M) : RR l w mi dep κ pc (.int i :: .ref (wq w c) :: st) loc M := by
  obtain ⟨p, e, R, s, m, args, below, meth, c0, cs, sl, Q⟩ := κ
  obtain ⟨hd, rfl⟩ := hd
  intro C H locs ls hl hP hS
  exact va_bald C.1.1 C.1.2.1 C.2.2.1 hP c 1 (world_I hs (by decide)) rfl (ck_in hc) hd (kk C H locs ls hl hP hS)
theorem r_zald {c len : Nat} {i : Int32} (hd : Dec mi pc .baload 1 n) (hs : shL[c]? = some (.inl (2, len))) (hc : ck i len = true) (kk : RR l w mi dep κ n (.int (M.1 c i.toNatClampNeg) :: st) loc M) : RR l w mi dep κ pc (.int i :: .ref (wq w c) :: st) loc M := by
  obtain ⟨p, e, R, s, m, args, below, meth, c0, cs, sl, Q⟩ := κ
  obtain ⟨hd, rfl⟩ := hd
  intro C H locs ls hl hP hS
  exact va_zald C.1.1 C.1.2.1 C.2.2.1 hP c 2 (world_I hs (by decide)) rfl (ck_in hc) hd (kk C H locs ls hl hP hS)
theorem r_lald {c len : Nat} {i : Int32} (hd : Dec mi pc .laload 1 n) (hs : shL[c]? = some (.inl (3, len))) (hc : ck i len = true) (kk : RR l w mi dep κ n (.long (M.2 c i.toNatClampNeg) :: st) loc M) : RR l w mi dep κ pc (.int i :: .ref (wq w c) :: st) loc M := by
  obtain ⟨p, e, R, s, m, args, below, meth, c0, cs, sl, Q⟩ := κ
  obtain ⟨hd, rfl⟩ := hd
  intro C H locs ls hl hP hS
  exact va_lald C.1.1 C.1.2.1 C.2.2.1 hP c 3 (world_L hs) rfl (ck_in hc) hd (kk C H locs ls hl hP hS)
theorem ent_setI {w : Wd} {M : Mem} {c t len k : Nat} {v : Int32} (ht : t ≠ 3) : entS w (setI M c k v) c (.inl (t, len)) = .inl (w.2.1 t, len, .inl (upd (M.1 c) k v)) := by rw [entS_I ht, setI_self]
theorem ent_setA {w : Wd} {M : Mem} {c t len : Nat} {v : Nat → Int32} (ht : t ≠ 3) : entS w (setA M c v) c (.inl (t, len)) = .inl (w.2.1 t, len, .inl v) := by rw [entS_I ht, setA_self]
theorem ent_setL {w : Wd} {M : Mem} {c len k : Nat} {v : Int64} : entS w (setL M c k v) c (.inl (3, len)) = .inl (w.2.1 3, len, .inr (.inl (vp_updL (M.2 c) k v))) := by rw [entS_L, setL_self]
theorem ent_setB {w : Wd} {M : Mem} {c len : Nat} {v : Nat → Int64} : entS w (setB M c v) c (.inl (3, len)) = .inl (w.2.1 3, len, .inr (.inl v)) := by rw [entS_L, setB_self]
theorem r_iast {c len : Nat} {i v : Int32} (hd : Dec mi pc .iastore 1 n) (hs : shL[c]? = some (.inl (0, len))) (hc : ck i len = true) (kk : RR l w mi dep κ n st loc (setI M c i.toNatClampNeg v)) : RR l w mi dep κ pc (.int v :: .int i :: .ref (wq w c) :: st) loc M := by
  obtain ⟨p, e, R, s, m, args, below, meth, c0, cs, sl, Q⟩ := κ
  obtain ⟨hd, rfl⟩ := hd
  intro C H locs ls hl hP hS
  refine va_iast C.1.1 C.1.2.1 C.2.2.1 hP C.D hS c 0 (world_I hs (by decide)) rfl (ck_in hc) hd (fun H1 locs1 hP1 _ hS1 => kk C H1 locs1 ls hl ?_ hS1)
  rw [world_set hs (ent_setI (by decide)) setI_off] at hP1
  exact hP1
theorem r_bast {c len : Nat} {i v : Int32} (hd : Dec mi pc .bastore 1 n) (hs : shL[c]? = some (.inl (1, len))) (hc : ck i len = true) (kk : RR l w mi dep κ n st loc (setI M c i.toNatClampNeg v.toInt8.toInt32)) : RR l w mi dep κ pc (.int v :: .int i :: .ref (wq w c) :: st) loc M := by
  obtain ⟨p, e, R, s, m, args, below, meth, c0, cs, sl, Q⟩ := κ
  obtain ⟨hd, rfl⟩ := hd
  intro C H locs ls hl hP hS
  refine va_bast C.1.1 C.1.2.1 C.2.2.1 hP C.D hS c 1 (world_I hs (by decide)) rfl (ck_in hc) hd (fun H1 locs1 hP1 _ hS1 => kk C H1 locs1 ls hl ?_ hS1)
  rw [vp_nar_byte, world_set hs (ent_setI (by decide)) setI_off] at hP1
  exact hP1
theorem r_zast {c len : Nat} {i v : Int32} (hd : Dec mi pc .bastore 1 n) (hs : shL[c]? = some (.inl (2, len))) (hv : vp_nar .boolean v = v) (hc : ck i len = true) (kk : RR l w mi dep κ n st loc (setI M c i.toNatClampNeg v)) : RR l w mi dep κ pc (.int v :: .int i :: .ref (wq w c) :: st) loc M := by
  obtain ⟨p, e, R, s, m, args, below, meth, c0, cs, sl, Q⟩ := κ
  obtain ⟨hd, rfl⟩ := hd
  intro C H locs ls hl hP hS
  refine va_zast C.1.1 C.1.2.1 C.2.2.1 hP C.D hS c 2 (world_I hs (by decide)) rfl (ck_in hc) hd (fun H1 locs1 hP1 _ hS1 => kk C H1 locs1 ls hl ?_ hS1)
  rw [hv, world_set hs (ent_setI (by decide)) setI_off] at hP1
  exact hP1
theorem r_last {c len : Nat} {i : Int32} {v : Int64} (hd : Dec mi pc .lastore 1 n) (hs : shL[c]? = some (.inl (3, len))) (hc : ck i len = true) (kk : RR l w mi dep κ n st loc (setL M c i.toNatClampNeg v)) : RR l w mi dep κ pc (.long v :: .int i :: .ref (wq w c) :: st) loc M := by
  obtain ⟨p, e, R, s, m, args, below, meth, c0, cs, sl, Q⟩ := κ
  obtain ⟨hd, rfl⟩ := hd
  intro C H locs ls hl hP hS
  refine va_last C.1.1 C.1.2.1 C.2.2.1 hP C.D hS c 3 (world_L hs) rfl (ck_in hc) hd (fun H1 locs1 hP1 _ hS1 => kk C H1 locs1 ls hl ?_ hS1)
  rw [world_set hs ent_setL setL_off] at hP1
  exact hP1
theorem r_alenI {c t len : Nat} {v : Int32} (hd : Dec mi pc .arraylength 1 n) (hs : shL[c]? = some (.inl (t, len))) (ht : t < 4) (hv : Int32.ofNat len = v) (kk : RR l w mi dep κ n (.int v :: st) loc M) : RR l w mi dep κ pc (.ref (wq w c) :: st) loc M := by
  obtain ⟨p, e, R, s, m, args, below, meth, c0, cs, sl, Q⟩ := κ
  obtain ⟨hd, rfl⟩ := hd
  intro C H locs ls hl hP hS
  match t, ht, hs with
  | 0, _, hs => exact va_alen C.1.1 C.1.2.1 C.2.2.1 hP c 0 (world_at hs) rfl hv hd (kk C H locs ls hl hP hS)
  | 1, _, hs => exact va_alen C.1.1 C.1.2.1 C.2.2.1 hP c 1 (world_at hs) rfl hv hd (kk C H locs ls hl hP hS)
  | 2, _, hs => exact va_alen C.1.1 C.1.2.1 C.2.2.1 hP c 2 (world_at hs) rfl hv hd (kk C H locs ls hl hP hS)
  | 3, _, hs => exact va_alen C.1.1 C.1.2.1 C.2.2.1 hP c 3 (world_at hs) rfl hv hd (kk C H locs ls hl hP hS)
/-- a copy of an int array's head over another's -/
theorem r_copyI {i c0 c1 n0 n1 : Nat} {len : Int32} (hd : Dec mi pc (.invokestatic i) 3 n) (hm : Cond.methodLink mi.2.2.1 i arraycopyName ∈ lw_t ∧ Cond.native arraycopyName ∈ lw_t ∧ Cond.static arraycopyName ∈ lw_t ∧ Cond.initialized "java/lang/System" ∈ lw_t) (h0 : shL[c0]? = some (.inl (0, n0))) (h1 : shL[c1]? = some (.inl (0, n1))) (hl0 : ¬ len < 0) (hl1 : len.toNatClampNeg ≤ n0) (hl2 : len.toNatClampNeg ≤ n1) (hdep : 1 ≤ dep) (hst : (st.map fun v => v.category).sum + (nativeFrameWords "java/lang/System" "arraycopy" 5 + 11) ≤ 128) (kk : RR l w mi dep κ n st loc (setA M c1 (va_cpy (M.1 c0) (M.1 c1) 0 0 len.toNatClampNeg))) : RR l w mi dep κ pc (.int len :: .int 0 :: .ref (wq w c1) :: .int 0 :: .ref (wq w c0) :: st) loc M := by
  obtain ⟨p, e, R, s, m, args, below, meth, c, cs, sl, Q⟩ := κ
  obtain ⟨hd, rfl⟩ := hd
  intro C H locs ls hl hP hS
  have hz : (0 : Int32).toNatClampNeg = 0 := rfl
  have hts := C.1.2.2.2.2
  refine va_copyi C.1.1 C.1.2.1 (C.1.2.2.1.trans hl.1.symm) C.1.2.2.2.1 (hts _ hm.1) (hts _ hm.2.1) (hts _ hm.2.2.1) (hts _ hm.2.2.2) C.2.2.1 hP C.D hS c0 c1 0 0 (world_I h0 (by decide)) (world_I h1 (by decide)) rfl rfl rfl (by decide) (by decide) hl0 (by rw [hz]; omega) (by rw [hz]; omega) (fun _ _ => rfl) (by have := C.2.2.2.2.2.1; omega) (by have := C.2.2.2.2.2.2.1; omega) hd (fun H1 locs1 hP1 _ hS1 => kk C H1 locs1 ls hl ?_ hS1)
  rw [hz, world_set h1 (ent_setA (by decide)) setA_off] at hP1
  exact hP1
theorem r_copyL {i c0 c1 n0 n1 : Nat} {len : Int32} (hd : Dec mi pc (.invokestatic i) 3 n) (hm : Cond.methodLink mi.2.2.1 i arraycopyName ∈ lw_t ∧ Cond.native arraycopyName ∈ lw_t ∧ Cond.static arraycopyName ∈ lw_t ∧ Cond.initialized "java/lang/System" ∈ lw_t) (h0 : shL[c0]? = some (.inl (3, n0))) (h1 : shL[c1]? = some (.inl (3, n1))) (hl0 : ¬ len < 0) (hl1 : len.toNatClampNeg ≤ n0) (hl2 : len.toNatClampNeg ≤ n1) (hdep : 1 ≤ dep) (hst : (st.map fun v => v.category).sum + (nativeFrameWords "java/lang/System" "arraycopy" 5 + 11) ≤ 128) (kk : RR l w mi dep κ n st loc (setB M c1 (va_cpy (M.2 c0) (M.2 c1) 0 0 len.toNatClampNeg))) : RR l w mi dep κ pc (.int len :: .int 0 :: .ref (wq w c1) :: .int 0 :: .ref (wq w c0) :: st) loc M := by
  obtain ⟨p, e, R, s, m, args, below, meth, c, cs, sl, Q⟩ := κ
  obtain ⟨hd, rfl⟩ := hd
  intro C H locs ls hl hP hS
  have hz : (0 : Int32).toNatClampNeg = 0 := rfl
  have hts := C.1.2.2.2.2
  refine va_copyl C.1.1 C.1.2.1 (C.1.2.2.1.trans hl.1.symm) C.1.2.2.2.1 (hts _ hm.1) (hts _ hm.2.1) (hts _ hm.2.2.1) (hts _ hm.2.2.2) C.2.2.1 hP C.D hS c0 c1 3 3 (world_L h0) (world_L h1) rfl rfl rfl (by decide) (by decide) hl0 (by rw [hz]; omega) (by rw [hz]; omega) (fun _ _ => rfl) (by have := C.2.2.2.2.2.1; omega) (by have := C.2.2.2.2.2.2.1; omega) hd (fun H1 locs1 hP1 _ hS1 => kk C H1 locs1 ls hl ?_ hS1)
  rw [hz, world_set h1 ent_setB setB_off] at hP1
  exact hP1
-- Math.max, Math.min
def imax (x y : Int32) : Int32 := if x < y then y else x
def imin (x y : Int32) : Int32 := if y < x then y else x
theorem r_max {i : Nat} {x y : Int32} (hd : Dec mi pc (.invokestatic i) 3 n) (hm : Cond.methodLink mi.2.2.1 i Lib.Math.max.name ∈ lw_t ∧ Cond.static Lib.Math.max.name ∈ lw_t ∧ Cond.initialized "java/lang/Math" ∈ lw_t ∧ Cond.code Lib.Math.max.name Lib.Math.max.code 2 (some .int) ∈ lw_t) (hdep : 1 ≤ dep) (hst : (st.map fun v => v.category).sum + 13 ≤ 128) (kk : RR l w mi dep κ n (.int (imax x y) :: st) loc M) : RR l w mi dep κ pc (.int y :: .int x :: st) loc M := by
  obtain ⟨p, e, R, s, m, args, below, meth, c, cs, sl, Q⟩ := κ
  obtain ⟨hd, rfl⟩ := hd
  intro C H locs ls hl hP hS
  have hts := C.1.2.2.2.2
  exact va_mmax C.1.1 C.1.2.1 (C.1.2.2.1.trans hl.1.symm) C.1.2.2.2.1 (hts _ hm.1) (hts _ hm.2.1) (hts _ hm.2.2.1) (hts _ hm.2.2.2) (by have := C.2.2.2.2.2.1; omega) (by have := C.2.2.2.2.2.2.1; omega) C.2.2.2.2.2.2.2.1 C.2.2.2.2.2.2.2.2 hd (kk C H locs ls hl hP hS)
theorem r_min {i : Nat} {x y : Int32} (hd : Dec mi pc (.invokestatic i) 3 n) (hm : Cond.methodLink mi.2.2.1 i Lib.Math.min.name ∈ lw_t ∧ Cond.static Lib.Math.min.name ∈ lw_t ∧ Cond.initialized "java/lang/Math" ∈ lw_t ∧ Cond.code Lib.Math.min.name Lib.Math.min.code 2 (some .int) ∈ lw_t) (hdep : 1 ≤ dep) (hst : (st.map fun v => v.category).sum + 13 ≤ 128) (kk : RR l w mi dep κ n (.int (imin x y) :: st) loc M) : RR l w mi dep κ pc (.int y :: .int x :: st) loc M := by
  obtain ⟨p, e, R, s, m, args, below, meth, c, cs, sl, Q⟩ := κ
  obtain ⟨hd, rfl⟩ := hd
  intro C H locs ls hl hP hS
  have hts := C.1.2.2.2.2
  exact va_mmin C.1.1 C.1.2.1 (C.1.2.2.1.trans hl.1.symm) C.1.2.2.2.1 (hts _ hm.1) (hts _ hm.2.1) (hts _ hm.2.2.1) (hts _ hm.2.2.2) (by have := C.2.2.2.2.2.1; omega) (by have := C.2.2.2.2.2.2.1; omega) C.2.2.2.2.2.2.2.1 C.2.2.2.2.2.2.2.2 hd (kk C H locs ls hl hP hS)
-- the static arrays and the texts
theorem r_gsL {i : Nat} (hd : Dec mi pc (.getstatic i) 3 n) (hf : Cond.fieldLink mi.2.2.1 i RX9 "TUNE_LEAST" "[I" ∈ lw_t) (kk : RR l w mi dep κ n (.ref (wa w 16) :: st) loc M) : RR l w mi dep κ pc st loc M := by
  obtain ⟨p, e, R, s, m, args, below, meth, c, cs, sl, Q⟩ := κ
  obtain ⟨hd, rfl⟩ := hd
  intro C H locs ls hl hP hS
  exact va_gets C.1.1 C.1.2.1 C.2.2.2.2.1.2.2.1.1 hS C.1.2.2.2.1 (C.1.2.2.2.2 _ hf) (fun _ h => h) hd (kk C H locs ls hl hP hS)
theorem r_gsM {i : Nat} (hd : Dec mi pc (.getstatic i) 3 n) (hf : Cond.fieldLink mi.2.2.1 i RX9 "TUNE_MOST" "[I" ∈ lw_t) (kk : RR l w mi dep κ n (.ref (wa w 17) :: st) loc M) : RR l w mi dep κ pc st loc M := by
  obtain ⟨p, e, R, s, m, args, below, meth, c, cs, sl, Q⟩ := κ
  obtain ⟨hd, rfl⟩ := hd
  intro C H locs ls hl hP hS
  exact va_gets C.1.1 C.1.2.1 C.2.2.2.2.1.2.2.2.1.1 hS C.1.2.2.2.1 (C.1.2.2.2.2 _ hf) (fun _ h => h) hd (kk C H locs ls hl hP hS)
theorem r_tl {i : Int32} (hd : Dec mi pc .iaload 1 n) (hc : ck i 3 = true) (kk : RR l w mi dep κ n (.int (tlV.getD i.toNatClampNeg 0) :: st) loc M) : RR l w mi dep κ pc (.int i :: .ref (wa w 16) :: st) loc M := by
  obtain ⟨p, e, R, s, m, args, below, meth, c, cs, sl, Q⟩ := κ
  obtain ⟨hd, rfl⟩ := hd
  intro C H locs ls hl hP hS
  exact va_ti C.1.1 C.1.2.1 C.2.2.2.2.1.2.2.1.2 hS (ck_in hc) rfl hd (kk C H locs ls hl hP hS)
theorem r_tm {i : Int32} (hd : Dec mi pc .iaload 1 n) (hc : ck i 3 = true) (kk : RR l w mi dep κ n (.int (tmV.getD i.toNatClampNeg 0) :: st) loc M) : RR l w mi dep κ pc (.int i :: .ref (wa w 17) :: st) loc M := by
  obtain ⟨p, e, R, s, m, args, below, meth, c, cs, sl, Q⟩ := κ
  obtain ⟨hd, rfl⟩ := hd
  intro C H locs ls hl hP hS
  exact va_ti C.1.1 C.1.2.1 C.2.2.2.2.1.2.2.2.1.2 hS (ck_in hc) rfl hd (kk C H locs ls hl hP hS)
theorem r_text {i j : Nat} {tx : String} (hd : Dec mi pc (.ldc i) 2 n) (ho : mi.2.2.1 = RX6) (hj : idxS[j]? = some (i, tx)) (kk : RR l w mi dep κ n (.ref (wa w j) :: st) loc M) : RR l w mi dep κ pc st loc M := by
  obtain ⟨p, e, R, s, m, args, below, meth, c, cs, sl, Q⟩ := κ
  obtain ⟨hd, rfl⟩ := hd
  intro C H locs ls hl hP hS
  exact va_ldcS C.1.1 C.1.2.1 (ho ▸ C.1.2.2.2.1) (C.2.2.2.2.1.2.1 j _ hj) hd (kk C H locs ls hl hP hS)
-- what a method gives
def Qres (w : Wd) (r : Res) : Array Value → State → Outcome → State → Prop := fun _ st o t => (o = .returned r.1 ∧ va_P w.1 cls (world w r.2) t.heap) ∧ va_F (AA w st.heap.size) st t
def RQ (w : Wd) (r : Res) (κ : Kp) : Prop := match κ with
  | (_, _, _, s, _, args, below, _, _, cs, sl, Q) => Q = MQ below (Qres w r) args s cs sl (AA w s.heap.size)
theorem r_iret {v : Int32} {r : Res} (hq : RQ w r κ) (hd : Dec mi pc .ireturn 1 n) (hr : mi.2.2.2 = some .int) (h : r = (some (.int v), M)) : RR l w mi dep κ pc [.int v] loc M := by
  obtain ⟨p, e, R, s, m, args, below, meth, c, cs, sl, Q⟩ := κ
  intro C H locs ls hl hP hS
  have hq : Q = _ := hq
  subst hq; subst h
  exact W.iret C.1.1 C.1.2.1 (C.2.1.1.trans hr) (fun t ht _ => ⟨⟨rfl, by rw [ht]; exact hP⟩, hS.F ht⟩) hS.2.2 hd.1 C.2.1.2
theorem r_zret {v : Int32} {r : Res} {ty : FieldType} (hq : RQ w r κ) (hd : Dec mi pc .ireturn 1 n) (hr : mi.2.2.2 = some ty) (hn : narrow ty (.int v) = .int v) (h : r = (some (.int v), M)) : RR l w mi dep κ pc [.int v] loc M := by
  obtain ⟨p, e, R, s, m, args, below, meth, c, cs, sl, Q⟩ := κ
  intro C H locs ls hl hP hS
  have hq : Q = _ := hq
  subst hq; subst h
  exact W.zret C.1.1 C.1.2.1 (C.2.1.1.trans hr) hn (fun t ht _ => ⟨⟨rfl, by rw [ht]; exact hP⟩, hS.F ht⟩) hS.2.2 hd.1 C.2.1.2
theorem r_lret {v : Int64} {r : Res} (hq : RQ w r κ) (hd : Dec mi pc .lreturn 1 n) (hr : mi.2.2.2 = some .long) (h : r = (some (.long v), M)) : RR l w mi dep κ pc [.long v] loc M := by
  obtain ⟨p, e, R, s, m, args, below, meth, c, cs, sl, Q⟩ := κ
  intro C H locs ls hl hP hS
  have hq : Q = _ := hq
  subst hq; subst h
  exact W.lret C.1.1 C.1.2.1 (C.2.1.1.trans hr) (fun t ht _ => ⟨⟨rfl, by rw [ht]; exact hP⟩, hS.F ht⟩) hS.2.2 hd.1 C.2.1.2
theorem r_vret {r : Res} (hq : RQ w r κ) (hd : Dec mi pc .return_ 1 n) (hr : mi.2.2.2 = none) (h : r = (none, M)) : RR l w mi dep κ pc [] loc M := by
  obtain ⟨p, e, R, s, m, args, below, meth, c, cs, sl, Q⟩ := κ
  intro C H locs ls hl hP hS
  have hq : Q = _ := hq
  subst hq; subst h
  exact W.vret C.1.1 C.1.2.1 (C.2.1.1.trans hr) (fun t ht _ => ⟨⟨rfl, by rw [ht]; exact hP⟩, hS.F ht⟩) hS.2.2 hd.1 C.2.1.2
theorem r_aret {o : Nat} {nm : String} {r : Res} (hq : RQ w r κ) (hd : Dec mi pc .areturn 1 n) (hr : mi.2.2.2 = some (.object nm)) (h : r = (some (.ref (wq w o)), M)) : RR l w mi dep κ pc [.ref (wq w o)] loc M := by
  obtain ⟨p, e, R, s, m, args, below, meth, c, cs, sl, Q⟩ := κ
  intro C H locs ls hl hP hS
  have hq : Q = _ := hq
  subst hq; subst h
  exact W.aret C.1.1 C.1.2.1 (C.2.1.1.trans hr) (Or.inl ⟨nm, rfl⟩) (Or.inr ⟨_, rfl⟩) (fun t ht _ => ⟨⟨rfl, by rw [ht]; exact hP⟩, hS.F ht⟩) hS.2.2 hd.1 C.2.1.2
-- contracts
def rmD (d : Nat) : Room := { frames := d, cells := 0, slots := 0, locals := 128 * d }
def Bef (w : Wd) (M : Mem) (sz : Nat) (U : State) : Prop := U.heap.size = sz ∧ va_P w.1 cls (world w M) U.heap ∧ va_K w.1 cls (tysOf w) U ∧ Inj w ∧ Glob w U
def wsD (mi : Mi) (y : MethodName) : List Cond := .code y mi.1 mi.2.1 mi.2.2.2 :: lw_t
def Cn (l : Launch) (w : Wd) (mi : Mi) (y : MethodName) (dep : Nat) (av : List Value) (M : Mem) (r : Res) : Prop := ∀ sz : Nat, Met l y (wsD mi y) (rmD dep) (va_Pc av (Bef w M sz)) (Qres w r) 0 0 (AA w sz)
theorem Cn_of {y : MethodName} {av : List Value} {r : Res} {loc0 : List (Option Value)} (hy : plainName y.cls = true) (hc : y.cls = mi.2.2.1) (h0 : lvOf loc0 = lv_args 0 av) (hn : (lg_sl av).length ≤ mi.2.1)
    (body : ∀ κ, RQ w r κ → RR l w mi dep κ 0 [] loc0 M) : Cn l w mi y dep av M r := by
  intro sz
  refine Met.ofW (cc := mi.1) (maxL := mi.2.1) (ret := mi.2.2.2) hy rfl ?_
  intro p e s m args below meth c s₁ B hml hv
  obtain ⟨rfl, hsz, hP, hK, hI, hG⟩ := hv
  subst hsz
  have hts := atoms_spec (ws := wsD mi y) B.pre
  have hown : s.vm.findClass mi.2.2.1 = some m.cls := hc ▸ findClass_of_methodNamed B.named
  have hl := lv_entry av hn
  have C : Ctx w mi dep p (headSpec (wsD mi y) (rmD dep)).room s m av.toArray meth c 0 0 := ⟨⟨B.exec, B.bytes, hml, hown, fun x hx => hts x (List.mem_cons_of_mem _ hx)⟩, ⟨B.returns, B.notSynchronized⟩, hK, hI, hG, ⟨Nat.le_refl _, Nat.le_refl _, Nat.zero_le _, Nat.zero_le _⟩⟩
  have hb := body (p, e, (headSpec (wsD mi y) (rmD dep)).room, s, m, av.toArray, below, meth, c, 0, 0, MQ below (Qres w r) av.toArray s 0 0 (AA w s.heap.size)) rfl
  rw [lg_entry_eq]
  exact hb C s.heap [] _ (by rw [h0]; exact hl) hP va_S.rf
/-- what is known of a method that is called -/
abbrev MF (y : MethodName) (mi : Mi) (n : Nat) : Prop := Cond.initialized y.cls ∈ lw_t ∧ Cond.code y mi.1 mi.2.1 mi.2.2.2 ∈ lw_t ∧ (y.cls ≠ "java/lang/invoke/MethodHandle" ∧ y.cls ≠ "java/lang/invoke/VarHandle") ∧ (parseMethodDescriptor y.desc).map (fun d => d.parameters.length) = some n ∧ mi.2.1 ≤ 100
abbrev MV (y : MethodName) : Prop := Cond.instanceMethod y ∈ lw_t ∧ Cond.selects y.cls y y ∈ lw_t
theorem len_of {y : MethodName} {n : Nat} (h : (parseMethodDescriptor y.desc).map (fun d => d.parameters.length) = some n) : ∀ sig, parseMethodDescriptor y.desc = some sig → n = sig.parameters.length := by
  intro sig hs
  rw [hs] at h
  exact (Option.some.inj h).symm
theorem good_ws {mi' : Mi} {y : MethodName} (h : Cond.code y mi'.1 mi'.2.1 mi'.2.2.2 ∈ lw_t) : GoodIn lw_t (wsD mi' y) := fun x hx => (List.mem_cons.mp hx).elim (fun e => e ▸ lw_tgood _ h) (fun h2 => lw_tgood x h2)
theorem Glob.callg {w : Wd} {U : State} {g : JFrame} {mk : MethodId} {a : Array Value} (h : Glob w U) : Glob w (U.calling g mk a) := by
  obtain ⟨g1, g2, ⟨g3, g4⟩, ⟨g5, g6⟩, ⟨g7, g9⟩, g8⟩ := h
  have hv : U.vm.Alike (U.calling g mk a).vm := Vm.Alike.refl U.vm
  exact ⟨g1.moved hv, fun i q hq => vk_R.same (u := U) rfl (g2 i q hq), ⟨g3.moved hv, g4.moved hv⟩, ⟨g5.moved hv, g6.moved hv⟩, ⟨g7.moved hv, g9.moved hv⟩, fun q hq => va_Nw.same (u := U) rfl rfl (g8 q hq)⟩
theorem blind_of {w : Wd} {M : Mem} {sz : Nat} {av : List Value} : FrameBlind (va_Pc av (Bef w M sz)) := fun a U g mk q => by
  obtain ⟨q1, q2, q3, q4, q5, q6⟩ := q
  exact ⟨q1, q2, q3, va_K.moved (u := U) (U := U.calling g mk a) (Vm.Alike.refl U.vm) q4, q5, q6.callg⟩

theorem Bef_at {κw : Wd} {M : Mem} {mi : Mi} {dep : Nat} {p : Program} {R : Room} {s U : State} {m : MethodId} {args : Array Value} {meth : Method} {c : Code} {cs sl : Nat} {H : Heap} {locs : List Loc} (C : Ctx κw mi dep p R s m args meth c cs sl) (hP : va_P κw.1 cls (world κw M) H) (hS : va_S (AA κw s.heap.size) s.heap H locs) (hU : U.heap = H) (hW : s.WarmedH U.vm) : Bef κw M H.size U := by
  subst hU
  exact ⟨rfl, hP, va_K.moved hW.alike C.2.2.1, C.2.2.2.1, C.2.2.2.2.1.moved hW hS⟩
theorem call_core {p : Program} {e : Env} {R : Room} {s : State} {m : MethodId} {args : Array Value} {below : List Frame} {meth : Method} {c : Code} {cs sl : Nat} {Q : State → Prop} {H : Heap} {locs : List Loc} {ls : Array Slot} {rest st0 : List Value} {av : Array Value} {r : Res}
    (hr : va_Run p l e R s m args below meth c H locs cs sl 0 0 (F0 m pc ls st0) rest (Qres w r av) (AA w H.size)) (hS : va_S (AA w s.heap.size) s.heap H locs)
    (kk : ∀ (H1 : Heap) (locs1 : List Loc), va_P w.1 cls (world w r.2) H1 → va_S (AA w s.heap.size) s.heap H1 locs1 → W p l e R s m args below meth c H1 locs1 cs sl Q (F0 m (pc + 3) ls (r.1.toList ++ rest))) : W p l e R s m args below meth c H locs cs sl Q (F0 m pc ls st0) := by
  intro T hT X
  obtain ⟨v, sb, t, T', L, h0, X', hL, e1, e2, ⟨⟨hv, hp⟩, hz, hk⟩, st⟩ := hr T hT X
  have hv : v = r.1 := by cases hv; rfl
  subst hv
  rw [h0] at hz hk
  have hm := AA_mono (w := w) hS.1
  obtain ⟨t2, a1, b1⟩ := kk T'.heap (locs ++ L) (by rw [e1]; exact hp)
    ⟨Nat.le_trans hS.1 (by rw [e1]; exact hz), fun q h1 h2 => by rw [e1, hk q (Nat.lt_of_lt_of_le h1 hS.1) (fun z => h2 (hm q z))]; exact hS.2.1 q h1 h2, fun q hq => by
      rcases List.mem_append.mp hq with h | h
      · exact hS.2.2 q h
      · exact hm _ (hL q h)⟩ T' rfl X'
  exact ⟨t2, st t2 a1, b1⟩
theorem calls_ok {dep' : Nat} {p : Program} {R : Room} {s : State} {m : MethodId} {args : Array Value} {meth : Method} {c : Code} {cs sl : Nat} (C : Ctx w mi dep p R s m args meth c cs sl) {y : MethodName} {mi' : Mi} {na : Nat} (hy : MF y mi' na) (hd : dep' + 1 ≤ dep) : (rmD dep').frames + 1 ≤ R.frames ∧ 8 + (mi'.2.1 + 11) + (rmD dep').locals ≤ R.locals := by
  have h1 := C.2.2.2.2.2.1
  have h2 := C.2.2.2.2.2.2.1
  have h3 := hy.2.2.2.2
  constructor
  · show dep' + 1 ≤ R.frames
    omega
  · show 8 + (mi'.2.1 + 11) + 128 * dep' ≤ R.locals
    omega
theorem r_callV {i na ci o dep' : Nat} {C0 : String} {T0 : u_T} {N0 : Nat} {y : MethodName} {mi' : Mi} {fs : List Nat} {av stk : List Value} {r : Res} (hd : Dec mi pc (.invokevirtual i) 3 n) (hm : Cond.methodLink mi.2.2.1 i y ∈ lw_t) (hy : MF y mi' na) (hv : MV y) (hs : shL[o]? = some (.inr (ci, fs))) (hci : cls[ci]? = some (C0, T0, N0)) (hcn : C0 = y.cls)
    (hc : Cn l w mi' y dep' (.ref (wq w o) :: av) M r) (hdep : dep' + 1 ≤ dep) (hn : av.length = na) (hst : stk = av.reverse ++ .ref (wq w o) :: st) (hw : (st.map fun v => v.category).sum ≤ 8) (kk : RR l w mi dep κ n (r.1.toList ++ st) loc r.2) : RR l w mi dep κ pc stk loc M := by
  obtain ⟨p, e, R, s, m, args, below, meth, c, cs, sl, Q⟩ := κ
  obtain ⟨hd, rfl⟩ := hd
  subst hcn
  intro C H locs ls hl hP hS
  have hts := C.1.2.2.2.2
  have hR := calls_ok C hy hdep
  have hrun := va_runV (l := l) (e := e) (R := R) (below := below) (meth := meth) (locs := locs) (cells := cs) (slots := sl) (g := F0 m pc ls stk) (rest := st) C.1 (hc H.size) (C := y.cls) (index := i) (bytes := mi'.1) (maxL := mi'.2.1) (ret := mi'.2.2.2) (n := na)
    ⟨⟨rfl, rfl, hR.1, hR.2, pay_in hts (good_ws hy.2.1), List.mem_cons_self, hts _ hy.2.1, hts _ hy.1, hy.2.2.1, len_of hy.2.2.2.1, hts _ hm⟩, hts _ hv.1, hts _ hv.2⟩
    ⟨blind_of, va_recv C.2.2.1 hP hci (world_at hs), fun U hU hW => ⟨rfl, Bef_at C hP hS hU hW⟩⟩ rfl hn hl.1 hst (by show 2 * 0 + _ ≤ 8; omega) hd ⟨C.2.2.2.2.2.2.2.1, C.2.2.2.2.2.2.2.2⟩
  exact call_core hrun hS (fun H1 locs1 hP1 hS1 => kk C H1 locs1 ls hl hP1 hS1)
theorem r_callS {i na dep' : Nat} {y : MethodName} {mi' : Mi} {av stk : List Value} {r : Res} (hd : Dec mi pc (.invokestatic i) 3 n) (hm : Cond.methodLink mi.2.2.1 i y ∈ lw_t) (hy : MF y mi' na) (hv : Cond.static y ∈ lw_t)
    (hc : Cn l w mi' y dep' av M r) (hdep : dep' + 1 ≤ dep) (hn : av.length = na) (hst : stk = av.reverse ++ st) (hw : (st.map fun v => v.category).sum ≤ 8) (kk : RR l w mi dep κ n (r.1.toList ++ st) loc r.2) : RR l w mi dep κ pc stk loc M := by
  obtain ⟨p, e, R, s, m, args, below, meth, c, cs, sl, Q⟩ := κ
  obtain ⟨hd, rfl⟩ := hd
  intro C H locs ls hl hP hS
  have hts := C.1.2.2.2.2
  have hR := calls_ok C hy hdep
  have hrun := va_runS (l := l) (e := e) (R := R) (below := below) (meth := meth) (locs := locs) (cells := cs) (slots := sl) (g := F0 m pc ls stk) (rest := st) C.1 (hc H.size) (index := i) (bytes := mi'.1) (maxL := mi'.2.1) (ret := mi'.2.2.2) (n := na)
    ⟨⟨rfl, rfl, hR.1, hR.2, pay_in hts (good_ws hy.2.1), List.mem_cons_self, hts _ hy.2.1, hts _ hy.1, hy.2.2.1, len_of hy.2.2.2.1, hts _ hm⟩, hts _ hv⟩
    ⟨blind_of, fun U hU hW => ⟨rfl, Bef_at C hP hS hU hW⟩⟩ rfl hn hl.1 hst (by show 2 * 0 + _ ≤ 8; omega) hd ⟨C.2.2.2.2.2.2.2.1, C.2.2.2.2.2.2.2.2⟩
  exact call_core hrun hS (fun H1 locs1 hP1 hS1 => kk C H1 locs1 ls hl hP1 hS1)
/-- a private static method of the nest's host -/
theorem r_callN {i na dep' : Nat} {y : MethodName} {mi' : Mi} {host : String} {av stk : List Value} {r : Res} (hd : Dec mi pc (.invokestatic i) 3 n) (hm : (mi.2.2.1, i, y, host) ∈ nestL) (hy : MF y mi' na) (hv : Cond.static y ∈ lw_t)
    (hc : Cn l w mi' y dep' av M r) (hdep : dep' + 1 ≤ dep) (hn : av.length = na) (hst : stk = av.reverse ++ st) (hw : (st.map fun v => v.category).sum ≤ 8) (kk : RR l w mi dep κ n (r.1.toList ++ st) loc r.2) : RR l w mi dep κ pc stk loc M := by
  obtain ⟨p, e, R, s, m, args, below, meth, c, cs, sl, Q⟩ := κ
  obtain ⟨hd, rfl⟩ := hd
  intro C H locs ls hl hP hS
  have hts := C.1.2.2.2.2
  have hR := calls_ok C hy hdep
  have hrun := va_runSN (l := l) (e := e) (R := R) (below := below) (meth := meth) (locs := locs) (cells := cs) (slots := sl) (g := F0 m pc ls stk) (rest := st) C.1 (hc H.size) (index := i) (host := host) (bytes := mi'.1) (maxL := mi'.2.1) (ret := mi'.2.2.2) (n := na)
    ⟨⟨⟨rfl, rfl, hR.1, hR.2, pay_in hts (good_ws hy.2.1), List.mem_cons_self⟩, hts _ hy.2.1, hts _ hy.1, hy.2.2.1, len_of hy.2.2.2.1, va_Nw.use rfl (C.2.2.2.2.1.2.2.2.2.2 _ hm)⟩, hts _ hv, trivial⟩
    ⟨blind_of, fun U hU hW => ⟨rfl, Bef_at C hP hS hU hW⟩⟩ rfl hn hl.1 hst (by show 2 * 0 + _ ≤ 8; omega) hd ⟨C.2.2.2.2.2.2.2.1, C.2.2.2.2.2.2.2.2⟩
  exact call_core hrun hS (fun H1 locs1 hP1 hS1 => kk C H1 locs1 ls hl hP1 hS1)
-- switches
theorem r_tabIn {dflt lo hi : Int} {offs : Array Int} {ln t : Nat} {x : Int32} {off : Int} (hd : decode mi.1 pc = .ok (.tableswitch dflt lo hi offs, ln)) (h1 : lo ≤ x.toInt) (h2 : x.toInt ≤ hi) (ho : offs[(x.toInt - lo).toNat]? = some off) (ht : (pc : Int) + off = (t : Int)) (k : RR l w mi dep κ t st loc M) : RR l w mi dep κ pc (.int x :: st) loc M := by
  obtain ⟨p, e, R, s, m, args, below, meth, c, cs, sl, Q⟩ := κ
  intro C H locs ls hl hP hS
  exact lv_tableIn C.1.1 C.1.2.1 hd (by omega) (by omega) ho ht (k C H locs ls hl hP hS)
theorem r_tabOut {dflt lo hi : Int} {offs : Array Int} {ln t : Nat} {x : Int32} (hd : decode mi.1 pc = .ok (.tableswitch dflt lo hi offs, ln)) (h : x.toInt < lo ∨ hi < x.toInt) (ht : (pc : Int) + dflt = (t : Int)) (k : RR l w mi dep κ t st loc M) : RR l w mi dep κ pc (.int x :: st) loc M := by
  obtain ⟨p, e, R, s, m, args, below, meth, c, cs, sl, Q⟩ := κ
  intro C H locs ls hl hP hS
  exact lv_tableOut C.1.1 C.1.2.1 hd h ht (k C H locs ls hl hP hS)
theorem r_lookup {dflt : Int} {ps : Array (Int × Int)} {ln t : Nat} {x : Int32} {off : Int} (hd : decode mi.1 pc = .ok (.lookupswitch dflt ps, ln)) (hp : (ps.toList.zip (ps.toList.drop 1)).all (fun (a, next) => a.1 < next.1) = true) (ho : Op.lookupswitch.offset ps.toList dflt x.toInt = off) (ht : (pc : Int) + off = (t : Int)) (k : RR l w mi dep κ t st loc M) : RR l w mi dep κ pc (.int x :: st) loc M := by
  obtain ⟨p, e, R, s, m, args, below, meth, c, cs, sl, Q⟩ := κ
  intro C H locs ls hl hP hS
  exact lv_lookup C.1.1 C.1.2.1 hd hp ho ht (k C H locs ls hl hP hS)
-- the paths of a function
theorem ifT {α : Sort _} {c : Prop} {inst : Decidable c} {a b : α} {r : α} (h : c) (e : (if c then a else b) = r) : a = r := (if_pos h).symm.trans e
theorem ifF {α : Sort _} {c : Prop} {inst : Decidable c} {a b : α} {r : α} (h : ¬ c) (e : (if c then a else b) = r) : b = r := (if_neg h).symm.trans e
theorem ckE {α : Type _} {b : Bool} {a : Option α} {r : α} (e : (if b = true then a else none) = some r) : b = true ∧ a = some r := by
  cases b with
  | false => simp at e
  | true => exact ⟨rfl, e⟩
theorem nzE {α : Type _} {x : Int32} {a : Option α} {r : α} (e : (if x = 0 then none else a) = some r) : ¬ x = 0 ∧ a = some r := by
  by_cases h : x = 0
  · rw [if_pos h] at e; cases e
  · rw [if_neg h] at e; exact ⟨h, e⟩
theorem bdE {α β : Type _} {o : Option α} {f : α → Option β} {r : β} (e : o.bind f = some r) : ∃ a, o = some a ∧ f a = some r := by
  cases o with
  | none => cases e
  | some a => exact ⟨a, rfl, e⟩
end ROWS

section ROWS2
variable {l : Launch} {w : Wd} {mi : Mi} {dep : Nat} {κ : Kp} {pc n : Nat} {st : List Value} {loc : List (Option Value)} {M : Mem}
theorem r_getI {i ci k o : Nat} {fs : List Nat} (hd : Dec mi pc (.getfield i) 3 n) (hf : FL mi.2.2.1 i ci k) (hs : shL[o]? = some (.inr (ci, fs))) (hk : fs[k]? = some 0) (kk : RR l w mi dep κ n (.int (M.1 o k) :: st) loc M) : RR l w mi dep κ pc (.ref (wq w o) :: st) loc M := r_get hd hf hs hk kk
theorem r_getL {i ci k o : Nat} {fs : List Nat} (hd : Dec mi pc (.getfield i) 3 n) (hf : FL mi.2.2.1 i ci k) (hs : shL[o]? = some (.inr (ci, fs))) (hk : fs[k]? = some 1) (kk : RR l w mi dep κ n (.long (M.2 o k) :: st) loc M) : RR l w mi dep κ pc (.ref (wq w o) :: st) loc M := r_get hd hf hs hk kk
theorem r_getR {i ci k o j : Nat} {fs : List Nat} (hd : Dec mi pc (.getfield i) 3 n) (hf : FL mi.2.2.1 i ci k) (hs : shL[o]? = some (.inr (ci, fs))) (hk : fs[k]? = some (j + 2)) (kk : RR l w mi dep κ n (.ref (wq w j) :: st) loc M) : RR l w mi dep κ pc (.ref (wq w o) :: st) loc M := r_get hd hf hs hk kk
/-- fewer locals, place by place -/
def Lss : List (Option Value) → List (Option Value) → Prop
  | [], _ => True
  | none :: a, _ :: b => Lss a b
  | some v :: a, some u :: b => v = u ∧ Lss a b
  | _, _ => False
theorem Lss.ok : ∀ {a b : List (Option Value)}, Lss a b → ∀ (i : Nat) (v : Value), a[i]? = some (some v) → b[i]? = some (some v)
  | [], _, _, i, v, h => by simp at h
  | none :: a, x :: b, hs, i, v, h => by
    have hs : Lss a b := hs
    cases i with
    | zero => simp at h
    | succ i => exact Lss.ok hs i v (by simpa using h)
  | some u :: a, some x :: b, hs, i, v, h => by
    have hs : u = x ∧ Lss a b := hs
    cases i with
    | zero => rw [← hs.1]; simpa using h
    | succ i => simpa using Lss.ok hs.2 i v (by simpa using h)
  | none :: a, [], hs, _, _, _ => hs.elim
  | some u :: a, [], hs, _, _, _ => hs.elim
  | some u :: a, none :: b, hs, _, _, _ => hs.elim
theorem r_ls {loc' : List (Option Value)} (k : RR l w mi dep κ pc st loc' M) (h : Lss loc' loc) : RR l w mi dep κ pc st loc M := r_less h.ok k
/-- a value with a name of its own -/
def vlet {α β : Sort _} (v : α) (f : α → β) : β := f v
theorem vlE {α : Sort _} {β : Sort _} {v : α} {f : α → β} {r : β} (P : α → Prop) (h : vlet v f = r) (k : ∀ x, f x = r → P x) : P v := k v h
theorem mlE {β : Sort _} {v : Mem} {f : Mem → β} {r : β} (h : vlet v f = r) (k : ∀ x, f x = r → RR l w mi dep κ pc st loc x) : RR l w mi dep κ pc st loc v := k v h
def NE (x : Int32) : Nat → Prop
  | 0 => True
  | j + 1 => NE x j ∧ ¬ x = Int32.ofNat j
theorem NE.out {x : Int32} : ∀ {k : Nat}, NE x k → k < 1000 → x.toInt < 0 ∨ (k : Int) - 1 < x.toInt
  | 0, _, _ => by omega
  | k + 1, h, hk => by
    have h1 := NE.out h.1 (by omega)
    have h2 : x.toInt ≠ k := fun e => h.2 (by
      apply Int32.toInt_inj.mp
      rw [e, Int32.toInt_ofNat_of_lt (by omega)])
    omega
theorem ne32 {x k : Int32} {a : Int} (h : ¬ x = k) (e : k.toInt = a) : ¬ x.toInt = a := fun e2 => h (Int32.toInt_inj.mp (e2.trans e.symm))
theorem r_tabEq {dflt lo hi : Int} {offs : Array Int} {ln t : Nat} {x k : Int32} {off : Int} (c : x = k) (hd : decode mi.1 pc = .ok (.tableswitch dflt lo hi offs, ln)) (hk : lo ≤ k.toInt ∧ k.toInt ≤ hi ∧ offs[(k.toInt - lo).toNat]? = some off) (ht : (pc : Int) + off = (t : Int)) (kk : RR l w mi dep κ t st loc M) : RR l w mi dep κ pc (.int x :: st) loc M := by
  subst c
  exact r_tabIn hd hk.1 hk.2.1 hk.2.2 ht kk
theorem r_lookEq {dflt : Int} {ps : Array (Int × Int)} {ln t : Nat} {x k : Int32} {off : Int} (c : x = k) (hd : decode mi.1 pc = .ok (.lookupswitch dflt ps, ln)) (hp : (ps.toList.zip (ps.toList.drop 1)).all (fun (a, next) => a.1 < next.1) = true) (ho : Op.lookupswitch.offset ps.toList dflt k.toInt = off) (ht : (pc : Int) + off = (t : Int)) (kk : RR l w mi dep κ t st loc M) : RR l w mi dep κ pc (.int x :: st) loc M := by
  subst c
  exact r_lookup hd hp ho ht kk
theorem look_out {d v : Int} : ∀ {ps : List (Int × Int)}, (∀ p ∈ ps, ¬ v = p.1) → Op.lookupswitch.offset ps d v = d := by
  intro ps h
  induction ps with
  | nil => rfl
  | cons a t ih =>
    have h1 := h a List.mem_cons_self
    have h2 := ih (fun p hp => h p (List.mem_cons_of_mem _ hp))
    show (if a.1 = v then a.2 else Op.lookupswitch.offset t d v) = d
    rw [if_neg (fun e => h1 e.symm)]
    exact h2
theorem r_lookOut {dflt : Int} {ps : Array (Int × Int)} {ln t : Nat} {x : Int32} (hd : decode mi.1 pc = .ok (.lookupswitch dflt ps, ln)) (hp : (ps.toList.zip (ps.toList.drop 1)).all (fun (a, next) => a.1 < next.1) = true) (ho : ∀ p ∈ ps.toList, ¬ x.toInt = p.1) (ht : (pc : Int) + dflt = (t : Int)) (kk : RR l w mi dep κ t st loc M) : RR l w mi dep κ pc (.int x :: st) loc M := r_lookup hd hp (look_out ho) ht kk
end ROWS2
/-- cells that hold a trip, a life -/
def isTrip (o : Nat) : Prop := shL[o]? = some (.inr (8, [o + 1 + 2, o + 2 + 2, o + 3 + 2, 0, 0, 0, 0, 0, 0, 0, 0])) ∧ shL[o + 1]? = some (.inl (0, 48)) ∧ shL[o + 2]? = some (.inl (0, 32)) ∧ shL[o + 3]? = some (.inl (0, 6))
def isLife (o : Nat) : Prop := shL[o]? = some (.inr (2, [0, 0, 0, 0]))
theorem trip_3 : isTrip 3 := ⟨rfl, rfl, rfl, rfl⟩
theorem trip_7 : isTrip 7 := ⟨rfl, rfl, rfl, rfl⟩
theorem life_14 : isLife 14 := rfl
theorem life_15 : isLife 15 := rfl
theorem life_16 : isLife 16 := rfl
end
section
-- part 04: links and methods, out of the tables (printed by wip/gen/emit.py)

theorem let_h {p : Prop} {q : Prop} (h : p) (k : p → q) : q := k h
theorem dcs {c q : Prop} {inst : Decidable c} (a : c → q) (b : ¬ c → q) : q := if h : c then a h else b h
theorem rtT {v x : Int32} {M : Mem} (h : x = v) : ((some (.int v), M) : Res) = (some (.int x), M) := by rw [h]
theorem rtP {v x : Int32} {M : Mem} (h : some x = some v) : ((some (.int v), M) : Res) = (some (.int x), M) := by cases h; rfl
theorem rtW {v : Int32 × Mem} {x : Int32} {M : Mem} (h : some (x, M) = some v) : ((some (.int v.1), v.2) : Res) = (some (.int x), M) := by cases h; rfl
theorem rtTL {v x : Int64} {M : Mem} (h : x = v) : ((some (.long v), M) : Res) = (some (.long x), M) := by rw [h]
theorem rtPL {v x : Int64} {M : Mem} (h : some x = some v) : ((some (.long v), M) : Res) = (some (.long x), M) := by cases h; rfl
theorem rtWL {v : Int64 × Mem} {x : Int64} {M : Mem} (h : some (x, M) = some v) : ((some (.long v.1), v.2) : Res) = (some (.long x), M) := by cases h; rfl
theorem rtTA {w : Wd} {v x : Nat} {M : Mem} (h : x = v) : ((some (.ref (wq w v)), M) : Res) = (some (.ref (wq w x)), M) := by rw [h]
theorem rtV {v M : Mem} (h : some M = some v) : ((none, v) : Res) = (none, M) := by cases h; rfl
theorem nbz {v : Int32} (h : v &&& 1 = v) : narrow .boolean (.int v) = .int v := by
  show Value.int (v &&& 1) = .int v
  rw [h]
theorem bzE {α : Type _} {c : Prop} {inst : Decidable c} {a : Option α} {r : α} (e : (if c then a else none) = some r) : c ∧ a = some r := by
  by_cases h : c
  · rw [if_pos h] at e; exact ⟨h, e⟩
  · rw [if_neg h] at e; cases e

theorem k16_1000 : (Int16.ofInt (1000)).toInt32 = (1000 : Int32) := by decide
theorem k16_10000 : (Int16.ofInt (10000)).toInt32 = (10000 : Int32) := by decide
theorem k16_1365 : (Int16.ofInt (1365)).toInt32 = (1365 : Int32) := by decide
theorem k16_255 : (Int16.ofInt (255)).toInt32 = (255 : Int32) := by decide
theorem k16_4096 : (Int16.ofInt (4096)).toInt32 = (4096 : Int32) := by decide
theorem k16_500 : (Int16.ofInt (500)).toInt32 = (500 : Int32) := by decide
theorem k16_501 : (Int16.ofInt (501)).toInt32 = (501 : Int32) := by decide
theorem k16_999 : (Int16.ofInt (999)).toInt32 = (999 : Int32) := by decide
theorem k8_10 : (Int8.ofInt (10)).toInt32 = (10 : Int32) := by decide
theorem k8_100 : (Int8.ofInt (100)).toInt32 = (100 : Int32) := by decide
theorem k8_11 : (Int8.ofInt (11)).toInt32 = (11 : Int32) := by decide
theorem k8_12 : (Int8.ofInt (12)).toInt32 = (12 : Int32) := by decide
theorem k8_122 : (Int8.ofInt (122)).toInt32 = (122 : Int32) := by decide
theorem k8_16 : (Int8.ofInt (16)).toInt32 = (16 : Int32) := by decide
theorem k8_20 : (Int8.ofInt (20)).toInt32 = (20 : Int32) := by decide
theorem k8_27 : (Int8.ofInt (27)).toInt32 = (27 : Int32) := by decide
theorem k8_32 : (Int8.ofInt (32)).toInt32 = (32 : Int32) := by decide
theorem k8_36 : (Int8.ofInt (36)).toInt32 = (36 : Int32) := by decide
theorem k8_48 : (Int8.ofInt (48)).toInt32 = (48 : Int32) := by decide
theorem k8_57 : (Int8.ofInt (57)).toInt32 = (57 : Int32) := by decide
theorem k8_59 : (Int8.ofInt (59)).toInt32 = (59 : Int32) := by decide
theorem k8_6 : (Int8.ofInt (6)).toInt32 = (6 : Int32) := by decide
theorem k8_63 : (Int8.ofInt (63)).toInt32 = (63 : Int32) := by decide
theorem k8_64 : (Int8.ofInt (64)).toInt32 = (64 : Int32) := by decide
theorem k8_7 : (Int8.ofInt (7)).toInt32 = (7 : Int32) := by decide
theorem k8_8 : (Int8.ofInt (8)).toInt32 = (8 : Int32) := by decide
theorem k8_9 : (Int8.ofInt (9)).toInt32 = (9 : Int32) := by decide
theorem k8_96 : (Int8.ofInt (96)).toInt32 = (96 : Int32) := by decide
theorem k8_97 : (Int8.ofInt (97)).toInt32 = (97 : Int32) := by decide
theorem k8_99 : (Int8.ofInt (99)).toInt32 = (99 : Int32) := by decide
theorem k8_m10 : (Int8.ofInt (-10)).toInt32 = (-10 : Int32) := by decide
theorem k8_m2 : (Int8.ofInt (-2)).toInt32 = (-2 : Int32) := by decide
theorem k8_m3 : (Int8.ofInt (-3)).toInt32 = (-3 : Int32) := by decide
theorem k8_m9 : (Int8.ofInt (-9)).toInt32 = (-9 : Int32) := by decide
theorem ki_0 : Int32.ofInt (0) = (0 : Int32) := by decide
theorem ki_1 : Int32.ofInt (1) = (1 : Int32) := by decide
theorem ki_2 : Int32.ofInt (2) = (2 : Int32) := by decide
theorem ki_3 : Int32.ofInt (3) = (3 : Int32) := by decide
theorem ki_4 : Int32.ofInt (4) = (4 : Int32) := by decide
theorem ki_5 : Int32.ofInt (5) = (5 : Int32) := by decide
theorem ki_m1 : Int32.ofInt (-1) = (-1 : Int32) := by decide
theorem inw_X0 : ∀ x ∈ u_ws RX0 TX0 3, x ∈ lw_t := by
  intro x hx
  obtain ⟨k, hk, rfl⟩ := List.mem_map.mp hx
  have hk := List.mem_range.mp hk
  exact match k, hk with
  | 0, _ => mt1 177 rfl rfl
  | 1, _ => mt1 179 rfl rfl
  | 2, _ => mt1 181 rfl rfl
  | j + 3, hh => absurd hh (by omega)
theorem inw_X1 : ∀ x ∈ u_ws RX1 TX1 2, x ∈ lw_t := by
  intro x hx
  obtain ⟨k, hk, rfl⟩ := List.mem_map.mp hx
  have hk := List.mem_range.mp hk
  exact match k, hk with
  | 0, _ => mt2 5 rfl rfl
  | 1, _ => mt2 7 rfl rfl
  | j + 2, hh => absurd hh (by omega)
theorem inw_X2 : ∀ x ∈ u_ws RX2 TX2 4, x ∈ lw_t := by
  intro x hx
  obtain ⟨k, hk, rfl⟩ := List.mem_map.mp hx
  have hk := List.mem_range.mp hk
  exact match k, hk with
  | 0, _ => mt1 121 rfl rfl
  | 1, _ => mt1 123 rfl rfl
  | 2, _ => mt1 125 rfl rfl
  | 3, _ => mt1 127 rfl rfl
  | j + 4, hh => absurd hh (by omega)
theorem inw_X3 : ∀ x ∈ u_ws RX3 TX3 4, x ∈ lw_t := by
  intro x hx
  obtain ⟨k, hk, rfl⟩ := List.mem_map.mp hx
  have hk := List.mem_range.mp hk
  exact match k, hk with
  | 0, _ => mt1 228 rfl rfl
  | 1, _ => mt1 230 rfl rfl
  | 2, _ => mt1 232 rfl rfl
  | 3, _ => mt1 234 rfl rfl
  | j + 4, hh => absurd hh (by omega)
theorem inw_X4 : ∀ x ∈ u_ws RX4 TX4 9, x ∈ lw_t := by
  intro x hx
  obtain ⟨k, hk, rfl⟩ := List.mem_map.mp hx
  have hk := List.mem_range.mp hk
  exact match k, hk with
  | 0, _ => mt1 199 rfl rfl
  | 1, _ => mt1 201 rfl rfl
  | 2, _ => mt1 203 rfl rfl
  | 3, _ => mt1 205 rfl rfl
  | 4, _ => mt1 207 rfl rfl
  | 5, _ => mt1 209 rfl rfl
  | 6, _ => mt1 211 rfl rfl
  | 7, _ => mt1 213 rfl rfl
  | 8, _ => mt1 215 rfl rfl
  | j + 9, hh => absurd hh (by omega)
theorem inw_X5 : ∀ x ∈ u_ws RX5 TX5 9, x ∈ lw_t := by
  intro x hx
  obtain ⟨k, hk, rfl⟩ := List.mem_map.mp hx
  have hk := List.mem_range.mp hk
  exact match k, hk with
  | 0, _ => mt1 145 rfl rfl
  | 1, _ => mt1 147 rfl rfl
  | 2, _ => mt1 149 rfl rfl
  | 3, _ => mt1 151 rfl rfl
  | 4, _ => mt1 153 rfl rfl
  | 5, _ => mt1 155 rfl rfl
  | 6, _ => mt1 157 rfl rfl
  | 7, _ => mt1 159 rfl rfl
  | 8, _ => mt1 161 rfl rfl
  | j + 9, hh => absurd hh (by omega)
theorem inw_X6 : ∀ x ∈ u_ws RX6 TX6 7, x ∈ lw_t := by
  intro x hx
  obtain ⟨k, hk, rfl⟩ := List.mem_map.mp hx
  have hk := List.mem_range.mp hk
  exact match k, hk with
  | 0, _ => mt1 96 rfl rfl
  | 1, _ => mt1 98 rfl rfl
  | 2, _ => mt1 100 rfl rfl
  | 3, _ => mt1 102 rfl rfl
  | 4, _ => mt1 104 rfl rfl
  | 5, _ => mt1 106 rfl rfl
  | 6, _ => mt1 108 rfl rfl
  | j + 7, hh => absurd hh (by omega)
theorem inw_X7 : ∀ x ∈ u_ws RX7 TX7 2, x ∈ lw_t := by
  intro x hx
  obtain ⟨k, hk, rfl⟩ := List.mem_map.mp hx
  have hk := List.mem_range.mp hk
  exact match k, hk with
  | 0, _ => mt1 36 rfl rfl
  | 1, _ => mt1 38 rfl rfl
  | j + 2, hh => absurd hh (by omega)
theorem inw_X8 : ∀ x ∈ u_ws RX8 TX8 11, x ∈ lw_t := by
  intro x hx
  obtain ⟨k, hk, rfl⟩ := List.mem_map.mp hx
  have hk := List.mem_range.mp hk
  exact match k, hk with
  | 0, _ => mt1 59 rfl rfl
  | 1, _ => mt1 61 rfl rfl
  | 2, _ => mt1 63 rfl rfl
  | 3, _ => mt1 65 rfl rfl
  | 4, _ => mt1 67 rfl rfl
  | 5, _ => mt1 69 rfl rfl
  | 6, _ => mt1 71 rfl rfl
  | 7, _ => mt1 73 rfl rfl
  | 8, _ => mt1 75 rfl rfl
  | 9, _ => mt1 77 rfl rfl
  | 10, _ => mt1 79 rfl rfl
  | j + 11, hh => absurd hh (by omega)
theorem inw_X9 : ∀ x ∈ u_ws RX9 TX9 13, x ∈ lw_t := by
  intro x hx
  obtain ⟨k, hk, rfl⟩ := List.mem_map.mp hx
  have hk := List.mem_range.mp hk
  exact match k, hk with
  | 0, _ => mt2 23 rfl rfl
  | 1, _ => mt2 25 rfl rfl
  | 2, _ => mt2 27 rfl rfl
  | 3, _ => mt2 29 rfl rfl
  | 4, _ => mt2 31 rfl rfl
  | 5, _ => mt2 33 rfl rfl
  | 6, _ => mt2 35 rfl rfl
  | 7, _ => mt2 37 rfl rfl
  | 8, _ => mt2 39 rfl rfl
  | 9, _ => mt2 41 rfl rfl
  | 10, _ => mt2 43 rfl rfl
  | 11, _ => mt2 45 rfl rfl
  | 12, _ => mt2 47 rfl rfl
  | j + 13, hh => absurd hh (by omega)
theorem inw_X10 : ∀ x ∈ u_ws RX10 TX10 33, x ∈ lw_t := by
  intro x hx
  obtain ⟨k, hk, rfl⟩ := List.mem_map.mp hx
  have hk := List.mem_range.mp hk
  exact match k, hk with
  | 0, _ => mt5 72 rfl rfl
  | 1, _ => mt5 74 rfl rfl
  | 2, _ => mt5 76 rfl rfl
  | 3, _ => mt5 78 rfl rfl
  | 4, _ => mt5 80 rfl rfl
  | 5, _ => mt5 82 rfl rfl
  | 6, _ => mt5 84 rfl rfl
  | 7, _ => mt5 86 rfl rfl
  | 8, _ => mt5 88 rfl rfl
  | 9, _ => mt5 90 rfl rfl
  | 10, _ => mt5 92 rfl rfl
  | 11, _ => mt5 94 rfl rfl
  | 12, _ => mt5 96 rfl rfl
  | 13, _ => mt5 98 rfl rfl
  | 14, _ => mt5 100 rfl rfl
  | 15, _ => mt5 102 rfl rfl
  | 16, _ => mt5 104 rfl rfl
  | 17, _ => mt5 106 rfl rfl
  | 18, _ => mt5 108 rfl rfl
  | 19, _ => mt5 110 rfl rfl
  | 20, _ => mt5 112 rfl rfl
  | 21, _ => mt5 114 rfl rfl
  | 22, _ => mt5 116 rfl rfl
  | 23, _ => mt5 118 rfl rfl
  | 24, _ => mt5 120 rfl rfl
  | 25, _ => mt5 122 rfl rfl
  | 26, _ => mt5 124 rfl rfl
  | 27, _ => mt5 126 rfl rfl
  | 28, _ => mt5 128 rfl rfl
  | 29, _ => mt5 130 rfl rfl
  | 30, _ => mt5 132 rfl rfl
  | 31, _ => mt5 134 rfl rfl
  | 32, _ => mt5 136 rfl rfl
  | j + 33, hh => absurd hh (by omega)
def mi_J7_fill_53178 : Mi := (cJ7_fill_53178, 4, RJ7, none)
def mi_X0_forget : Mi := (cX0_forget, 1, RX0, none)
def mi_X8_days : Mi := (cX8_days, 1, RX8, some .int)
def mi_X8_hasDay : Mi := (cX8_hasDay, 2, RX8, some .boolean)
def mi_X8_want : Mi := (cX8_want, 3, RX8, some .int)
def mi_X0_chanceOf : Mi := (cX0_chanceOf, 5, RX0, some .int)
def mi_X8_coats : Mi := (cX8_coats, 1, RX8, some .int)
def mi_X8_tops : Mi := (cX8_tops, 1, RX8, some .int)
def mi_X8_bottoms : Mi := (cX8_bottoms, 1, RX8, some .int)
def mi_X9_has : Mi := (cX9_has, 2, RX9, some .boolean)
def mi_X8_hasThing : Mi := (cX8_hasThing, 2, RX8, some .boolean)
def mi_X8_fact : Mi := (cX8_fact, 3, RX8, some .int)
def mi_X8_warmestCoat : Mi := (cX8_warmestCoat, 4, RX8, some .int)
def mi_X8_together : Mi := (cX8_together, 3, RX8, some .boolean)
def mi_X8_suits : Mi := (cX8_suits, 6, RX8, some .boolean)
def mi_X5_prepare : Mi := (cX5_prepare, 11, RX5, none)
def mi_J7_fill_d0a16 : Mi := (cJ7_fill_d0a16, 5, RJ7, none)
def mi_X5_isDay : Mi := (cX5_isDay, 2, RX5, some .boolean)
def mi_X9_stateOf : Mi := (cX9_stateOf, 2, RX9, some .int)
def mi_X8_isReady : Mi := (cX8_isReady, 4, RX8, some .boolean)
def mi_X8_worn : Mi := (cX8_worn, 6, RX8, some .int)
def mi_X8_morning : Mi := (cX8_morning, 9, RX8, some .int)
def mi_X5_livesOnWith : Mi := (cX5_livesOnWith, 8, RX5, some .boolean)
def mi_X5_livesOn : Mi := (cX5_livesOn, 5, RX5, some .boolean)
def mi_X5_find : Mi := (cX5_find, 3, RX5, some .boolean)
def mi_X0_chances : Mi := (cX0_chances, 5, RX0, some .int)
def mi_X8_allThings : Mi := (cX8_allThings, 1, RX8, some .int)
def mi_X8_sum : Mi := (cX8_sum, 5, RX8, some .int)
def mi_X0_smallest : Mi := (cX0_smallest, 7, RX0, some .int)
def mi_X8_things : Mi := (cX8_things, 1, RX8, some .int)
def mi_X0_spares : Mi := (cX0_spares, 5, RX0, some .int)
def mi_X0_purchase : Mi := (cX0_purchase, 7, RX0, some .int)
def mi_J6_bitCount_0f7a4 : Mi := (cJ6_bitCount_0f7a4, 1, RJ6, some .int)
def mi_X0_takenOff : Mi := (cX0_takenOff, 9, RX0, some .int)
def mi_X0_allMatch : Mi := (cX0_allMatch, 4, RX0, some .boolean)
def mi_X0_largestMatch : Mi := (cX0_largestMatch, 3, RX0, some .int)
def mi_X1_isKind : Mi := (cX1_isKind, 2, RX1, some .boolean)
def mi_X1_asked : Mi := (cX1_asked, 1, RX1, some .long)
def mi_X1_asThing : Mi := (cX1_asThing, 2, RX1, some .int)
def mi_X1_asOnce : Mi := (cX1_asOnce, 2, RX1, some .int)
def mi_X1_asSpare : Mi := (cX1_asSpare, 2, RX1, some .int)
def mi_X1_asDouble : Mi := (cX1_asDouble, 2, RX1, some .int)
def mi_X1_asBought : Mi := (cX1_asBought, 2, RX1, some .int)
def mi_X1_asSingle : Mi := (cX1_asSingle, 3, RX1, some .int)
def mi_X1_ask : Mi := (cX1_ask, 4, RX1, some .int)
def mi_X2_date : Mi := (cX2_date, 1, RX2, some .int)
def mi_X2_how : Mi := (cX2_how, 1, RX2, some .int)
def mi_X2_set : Mi := (cX2_set, 1, RX2, some .int)
def mi_X2_isKept : Mi := (cX2_isKept, 1, RX2, some .boolean)
def mi_X2_forget : Mi := (cX2_forget, 1, RX2, none)
def mi_X2_start : Mi := (cX2_start, 2, RX2, none)
def mi_X2_copy : Mi := (cX2_copy, 2, RX2, none)
def mi_X2_isOver : Mi := (cX2_isOver, 2, RX2, some .boolean)
def mi_X2_fresh : Mi := (cX2_fresh, 4, RX2, some .int)
def mi_X2_mayWear : Mi := (cX2_mayWear, 5, RX2, some .boolean)
def mi_X2_wear : Mi := (cX2_wear, 7, RX2, none)
def mi_X3_size : Mi := (cX3_size, 1, RX3, some .int)
def mi_X3_add : Mi := (cX3_add, 4, RX3, some .boolean)
def mi_X3_onAt : Mi := (cX3_onAt, 2, RX3, some .int)
def mi_X3_lowered : Mi := (cX3_lowered, 3, RX3, some .int)
def mi_X3_wasteUpper : Mi := (cX3_wasteUpper, 1, RX3, some .int)
def mi_X3_wasteLower : Mi := (cX3_wasteLower, 1, RX3, some .int)
def mi_X5_topOn : Mi := (cX5_topOn, 2, RX5, some .int)
def mi_X5_bottomOn : Mi := (cX5_bottomOn, 2, RX5, some .int)
def mi_X5_firstDayOf : Mi := (cX5_firstDayOf, 3, RX5, some .int)
def mi_X4_troubleOf : Mi := (cX4_troubleOf, 6, RX4, some .int)
def mi_X4_lay : Mi := (cX4_lay, 5, RX4, none)
def mi_X4_arrange : Mi := (cX4_arrange, 6, RX4, some .boolean)
def mi_X4_trouble : Mi := (cX4_trouble, 1, RX4, some .int)
def mi_X4_layerOf : Mi := (cX4_layerOf, 2, RX4, some .int)
def mi_X5_washOn : Mi := (cX5_washOn, 2, RX5, some .int)
def mi_X5_neverOn : Mi := (cX5_neverOn, 4, RX5, some .int)
def mi_X5_mark : Mi := (cX5_mark, 2, RX5, none)
def mi_X5_reachFrom : Mi := (cX5_reachFrom, 8, RX5, some .boolean)
def mi_X5_reachNext : Mi := (cX5_reachNext, 5, RX5, some .boolean)
def mi_X5_times : Mi := (cX5_times, 4, RX5, some .int)
def mi_X7_length : Mi := (cX7_length, 1, RX7, some .int)
def mi_X7_at : Mi := (cX7_at, 2, RX7, some .int)
def mi_X6_isDigit : Mi := (cX6_isDigit, 1, RX6, some .boolean)
def mi_X6_isLetter : Mi := (cX6_isLetter, 1, RX6, some .boolean)
def mi_X6_endOf : Mi := (cX6_endOf, 5, RX6, some .int)
def mi_X6_numberCode : Mi := (cX6_numberCode, 5, RX6, some .int)
def mi_X6_isWord : Mi := (cX6_isWord, 5, RX6, some .boolean)
def mi_X6_wordCode : Mi := (cX6_wordCode, 3, RX6, some .int)
def mi_X6_codeOf : Mi := (cX6_codeOf, 3, RX6, some .int)
def mi_X6_addToken : Mi := (cX6_addToken, 3, RX6, none)
def mi_X6_split : Mi := (cX6_split, 3, RX6, none)
def mi_X8_empty : Mi := (cX8_empty, 1, RX8, none)
def mi_X6_codeOfNext : Mi := (cX6_codeOfNext, 1, RX6, some .int)
def mi_X6_isNext : Mi := (cX6_isNext, 2, RX6, some .boolean)
def mi_X8_hasRoomForThing : Mi := (cX8_hasRoomForThing, 1, RX8, some .boolean)
def mi_X8_setFact : Mi := (cX8_setFact, 3, RX8, none)
def mi_X6_takeNumber : Mi := (cX6_takeNumber, 4, RX6, some .boolean)
def mi_X6_readFact : Mi := (cX6_readFact, 4, RX6, some .boolean)
def mi_X6_readThing : Mi := (cX6_readThing, 1, RX6, some .boolean)
def mi_X6_take : Mi := (cX6_take, 2, RX6, some .boolean)
def mi_X6_readClothes : Mi := (cX6_readClothes, 1, RX6, some .boolean)
def mi_X8_closeThing : Mi := (cX8_closeThing, 2, RX8, none)
def mi_X6_closeThing : Mi := (cX6_closeThing, 1, RX6, some .boolean)
def mi_X8_setApart : Mi := (cX8_setApart, 3, RX8, none)
def mi_X6_readApart : Mi := (cX6_readApart, 3, RX6, some .boolean)
def mi_X8_hasRoomForDay : Mi := (cX8_hasRoomForDay, 1, RX8, some .boolean)
def mi_X8_setWant : Mi := (cX8_setWant, 3, RX8, none)
def mi_X6_readWant : Mi := (cX6_readWant, 3, RX6, some .boolean)
def mi_X9_isUnsure : Mi := (cX9_isUnsure, 1, RX9, some .boolean)
def mi_X8_unsureDays : Mi := (cX8_unsureDays, 1, RX8, some .int)
def mi_X6_readRain : Mi := (cX6_readRain, 2, RX6, some .boolean)
def mi_X6_readDay : Mi := (cX6_readDay, 1, RX6, some .boolean)
def mi_X8_closeDay : Mi := (cX8_closeDay, 1, RX8, none)
def mi_X6_closeDay : Mi := (cX6_closeDay, 1, RX6, some .boolean)
def mi_X6_readItem : Mi := (cX6_readItem, 1, RX6, some .boolean)
def mi_X6_startOfNext : Mi := (cX6_startOfNext, 1, RX6, some .int)
def mi_X6_read : Mi := (cX6_read, 2, RX6, some .int)
def mi_X7_hasRoom : Mi := (cX7_hasRoom, 2, RX7, some .boolean)
def mi_X7_add : Mi := (cX7_add, 2, RX7, none)
def mi_X7_empty : Mi := (cX7_empty, 1, RX7, none)
def mi_X8_copy : Mi := (cX8_copy, 2, RX8, none)
def mi_X9_type : Mi := (cX9_type, 5, RX9, some .int)
def mi_X9_clear : Mi := (cX9_clear, 2, RX9, some .int)
def mi_X9_journey : Mi := (cX9_journey, 2, RX9, some .int)
def mi_X9_thing : Mi := (cX9_thing, 3, RX9, some .int)
def mi_X9_goes : Mi := (cX9_goes, 3, RX9, some .int)
def mi_X9_day : Mi := (cX9_day, 3, RX9, some .int)
def mi_X9_tune : Mi := (cX9_tune, 4, RX9, some .int)
def mi_X9_packs : Mi := (cX9_packs, 3, RX9, some .int)
def mi_X9_isBit : Mi := (cX9_isBit, 1, RX9, some .boolean)
def mi_X9_live : Mi := (cX9_live, 5, RX9, some .int)
def mi_X9_now : Mi := (cX9_now, 2, RX9, some .int)
def mi_X9_serves : Mi := (cX9_serves, 3, RX9, some .int)
def mi_X9_plan : Mi := (cX9_plan, 5, RX9, some .int)
def mi_X9_odds : Mi := (cX9_odds, 2, RX9, some .int)
def mi_X9_least : Mi := (cX9_least, 3, RX9, some .int)
def mi_X9_needless : Mi := (cX9_needless, 5, RX9, some .int)
def mi_X9_buy : Mi := (cX9_buy, 5, RX9, some .int)
def mi_X9_desk : Mi := (cX9_desk, 3, RX9, some .int)
def mi_X9_pack : Mi := (cX9_pack, 5, RX9, some .int)
def mi_X9_allGo : Mi := (cX9_allGo, 3, RX9, some .int)
def mi_X9_again : Mi := (cX9_again, 2, RX9, some .int)
def mi_X9_list : Mi := (cX9_list, 3, RX9, some .int)
def mi_X9_span : Mi := (cX9_span, 2, RX9, some .int)
def mi_X9_use : Mi := (cX9_use, 3, RX9, some .int)
def mi_X9_imageAt : Mi := (cX9_imageAt, 2, RX9, some (.object "PackedCase$Life"))
def mi_X9_keep : Mi := (cX9_keep, 2, RX9, some .int)
def mi_X9_back : Mi := (cX9_back, 3, RX9, some .int)
def mi_X9_count : Mi := (cX9_count, 2, RX9, some .int)
def mi_X9_trace : Mi := (cX9_trace, 1, RX9, some .long)
def mi_X10_in : Mi := (cX10_in, 3, RX10, some .boolean)
def mi_X10_type : Mi := (cX10_type, 5, RX10, some .int)
def mi_X10_clear : Mi := (cX10_clear, 2, RX10, some .int)
def mi_X10_here : Mi := (cX10_here, 1, RX10, some .int)
def mi_X10_meaning : Mi := (cX10_meaning, 1, RX10, some .int)
def mi_X10_next : Mi := (cX10_next, 3, RX10, none)
def mi_X10_due : Mi := (cX10_due, 3, RX10, some .int)
def mi_X10_number : Mi := (cX10_number, 3, RX10, some .int)
def mi_X10_optional : Mi := (cX10_optional, 3, RX10, some .boolean)
def mi_X10_readThing : Mi := (cX10_readThing, 3, RX10, none)
def mi_X10_readDay : Mi := (cX10_readDay, 2, RX10, none)
def mi_X10_item : Mi := (cX10_item, 4, RX10, none)
def mi_X10_allThings : Mi := (cX10_allThings, 1, RX10, some .int)
def mi_X10_journey : Mi := (cX10_journey, 3, RX10, some .int)
def mi_X10_isThing : Mi := (cX10_isThing, 2, RX10, some .boolean)
def mi_X10_of : Mi := (cX10_of, 3, RX10, some .int)
def mi_X10_howIs : Mi := (cX10_howIs, 2, RX10, some .int)
def mi_X10_thing : Mi := (cX10_thing, 3, RX10, some .int)
def mi_X10_isGoing : Mi := (cX10_isGoing, 3, RX10, some .boolean)
def mi_X10_goes : Mi := (cX10_goes, 3, RX10, some .int)
def mi_X10_day : Mi := (cX10_day, 3, RX10, some .int)
def mi_X10_tune : Mi := (cX10_tune, 4, RX10, some .int)
def mi_X10_isOf : Mi := (cX10_isOf, 2, RX10, some .boolean)
def mi_X10_warmestCoat : Mi := (cX10_warmestCoat, 4, RX10, some .int)
def mi_X10_hasCoat : Mi := (cX10_hasCoat, 4, RX10, some .boolean)
def mi_X10_mayWear : Mi := (cX10_mayWear, 6, RX10, some .boolean)
def mi_X10_isWearable : Mi := (cX10_isWearable, 2, RX10, some .boolean)
def mi_X10_worn : Mi := (cX10_worn, 5, RX10, some .int)
def mi_X10_behind : Mi := (cX10_behind, 10, RX10, some .int)
def mi_X10_isRain : Mi := (cX10_isRain, 3, RX10, some .boolean)
def mi_X10_begin : Mi := (cX10_begin, 2, RX10, none)
def mi_X10_goDay : Mi := (cX10_goDay, 13, RX10, none)
def mi_X10_servesFrom : Mi := (cX10_servesFrom, 6, RX10, some .boolean)
def mi_X10_isServing : Mi := (cX10_isServing, 3, RX10, some .boolean)
def mi_X10_packs : Mi := (cX10_packs, 3, RX10, some .int)
def mi_X10_live : Mi := (cX10_live, 7, RX10, some .int)
def mi_X10_now : Mi := (cX10_now, 4, RX10, some .int)
def mi_X10_serves : Mi := (cX10_serves, 3, RX10, some .int)
def mi_X10_findPlan : Mi := (cX10_findPlan, 12, RX10, some .boolean)
def mi_X10_plan : Mi := (cX10_plan, 5, RX10, some .int)
def mi_X10_oddsOf : Mi := (cX10_oddsOf, 9, RX10, some .int)
def mi_X10_odds : Mi := (cX10_odds, 2, RX10, some .int)
def mi_X10_sumOf : Mi := (cX10_sumOf, 5, RX10, some .int)
def mi_X10_least : Mi := (cX10_least, 7, RX10, some .int)
def mi_X10_firstDay : Mi := (cX10_firstDay, 4, RX10, some .int)
def mi_X10_needless : Mi := (cX10_needless, 8, RX10, some .int)
def mi_X10_buy : Mi := (cX10_buy, 8, RX10, some .int)
def mi_X10_bitsIn : Mi := (cX10_bitsIn, 3, RX10, some .int)
def mi_X10_desk : Mi := (cX10_desk, 7, RX10, some .int)
def mi_X10_lay : Mi := (cX10_lay, 6, RX10, some .boolean)
def mi_X10_troubles : Mi := (cX10_troubles, 5, RX10, some .int)
def mi_X10_pack : Mi := (cX10_pack, 10, RX10, some .int)
def mi_X10_allGo : Mi := (cX10_allGo, 6, RX10, some .int)
def mi_X10_again : Mi := (cX10_again, 6, RX10, some .int)
def mi_X10_list : Mi := (cX10_list, 3, RX10, some .int)
def mi_X10_common : Mi := (cX10_common, 5, RX10, some .int)
def mi_X10_upTo : Mi := (cX10_upTo, 4, RX10, some .int)
def mi_X10_span : Mi := (cX10_span, 5, RX10, some .int)
def mi_X10_use : Mi := (cX10_use, 4, RX10, some .int)
def mi_X10_copy : Mi := (cX10_copy, 3, RX10, none)
def mi_X10_keep : Mi := (cX10_keep, 2, RX10, some .int)
def mi_X10_back : Mi := (cX10_back, 2, RX10, some .int)
def mi_X10_count : Mi := (cX10_count, 2, RX10, some .int)
def mi_X10_trace : Mi := (cX10_trace, 1, RX10, some .long)
theorem ci_J6_265 : Cond.constant RJ6 265 (1431655765) ∈ lw_t := mt4 94 rfl rfl
theorem ci_J6_266 : Cond.constant RJ6 266 (858993459) ∈ lw_t := mt4 95 rfl rfl
theorem ci_J6_267 : Cond.constant RJ6 267 (252645135) ∈ lw_t := mt4 96 rfl rfl
theorem ci_X10_231 : Cond.constant RX10 231 (-1000000) ∈ lw_t := mt6 130 rfl rfl
theorem ci_X1_39 : Cond.constant RX1 39 (-1000000) ∈ lw_t := mt4 239 rfl rfl
theorem ci_X9_261 : Cond.constant RX9 261 (-1000000) ∈ lw_t := mt4 204 rfl rfl
theorem cl_X10_236 : Cond.constantLong RX10 236 (11) ∈ lw_t := mt6 131 rfl rfl
theorem cl_X10_238 : Cond.constantLong RX10 238 (101) ∈ lw_t := mt6 132 rfl rfl
theorem cl_X10_240 : Cond.constantLong RX10 240 (1011) ∈ lw_t := mt6 133 rfl rfl
theorem cl_X10_242 : Cond.constantLong RX10 242 (10101) ∈ lw_t := mt6 134 rfl rfl
theorem cl_X10_244 : Cond.constantLong RX10 244 (100001) ∈ lw_t := mt6 135 rfl rfl
theorem cl_X10_86 : Cond.constantLong RX10 86 (255) ∈ lw_t := mt5 147 rfl rfl
theorem cl_X1_45 : Cond.constantLong RX1 45 (10) ∈ lw_t := mt4 218 rfl rfl
theorem cl_X1_47 : Cond.constantLong RX1 47 (100) ∈ lw_t := mt4 223 rfl rfl
theorem cl_X1_49 : Cond.constantLong RX1 49 (1000) ∈ lw_t := mt4 228 rfl rfl
theorem cl_X1_51 : Cond.constantLong RX1 51 (10000) ∈ lw_t := mt4 233 rfl rfl
theorem cl_X1_53 : Cond.constantLong RX1 53 (100000) ∈ lw_t := mt4 238 rfl rfl
theorem fl_X0_15 : FL RX0 15 0 0 := ⟨RX0, TX0, 3, rfl, by decide, inw_X0, mt1 174 rfl rfl⟩
theorem fl_X0_19 : FL RX0 19 0 1 := ⟨RX0, TX0, 3, rfl, by decide, inw_X0, mt1 175 rfl rfl⟩
theorem fl_X0_9 : FL RX0 9 0 2 := ⟨RX0, TX0, 3, rfl, by decide, inw_X0, mt1 176 rfl rfl⟩
theorem fl_X10_101 : FL RX10 101 10 11 := ⟨RX10, TX10, 33, rfl, by decide, inw_X10, mt5 50 rfl rfl⟩
theorem fl_X10_108 : FL RX10 108 10 13 := ⟨RX10, TX10, 33, rfl, by decide, inw_X10, mt5 52 rfl rfl⟩
theorem fl_X10_126 : FL RX10 126 10 14 := ⟨RX10, TX10, 33, rfl, by decide, inw_X10, mt5 53 rfl rfl⟩
theorem fl_X10_13 : FL RX10 13 10 3 := ⟨RX10, TX10, 33, rfl, by decide, inw_X10, mt5 42 rfl rfl⟩
theorem fl_X10_165 : FL RX10 165 10 22 := ⟨RX10, TX10, 33, rfl, by decide, inw_X10, mt5 61 rfl rfl⟩
theorem fl_X10_17 : FL RX10 17 10 4 := ⟨RX10, TX10, 33, rfl, by decide, inw_X10, mt5 43 rfl rfl⟩
theorem fl_X10_178 : FL RX10 178 10 23 := ⟨RX10, TX10, 33, rfl, by decide, inw_X10, mt5 62 rfl rfl⟩
theorem fl_X10_20 : FL RX10 20 10 5 := ⟨RX10, TX10, 33, rfl, by decide, inw_X10, mt5 44 rfl rfl⟩
theorem fl_X10_222 : FL RX10 222 10 30 := ⟨RX10, TX10, 33, rfl, by decide, inw_X10, mt5 69 rfl rfl⟩
theorem fl_X10_23 : FL RX10 23 10 6 := ⟨RX10, TX10, 33, rfl, by decide, inw_X10, mt5 45 rfl rfl⟩
theorem fl_X10_232 : FL RX10 232 10 0 := ⟨RX10, TX10, 33, rfl, by decide, inw_X10, mt5 39 rfl rfl⟩
theorem fl_X10_26 : FL RX10 26 10 7 := ⟨RX10, TX10, 33, rfl, by decide, inw_X10, mt5 46 rfl rfl⟩
theorem fl_X10_29 : FL RX10 29 10 8 := ⟨RX10, TX10, 33, rfl, by decide, inw_X10, mt5 47 rfl rfl⟩
theorem fl_X10_32 : FL RX10 32 10 15 := ⟨RX10, TX10, 33, rfl, by decide, inw_X10, mt5 54 rfl rfl⟩
theorem fl_X10_35 : FL RX10 35 10 16 := ⟨RX10, TX10, 33, rfl, by decide, inw_X10, mt5 55 rfl rfl⟩
theorem fl_X10_38 : FL RX10 38 10 17 := ⟨RX10, TX10, 33, rfl, by decide, inw_X10, mt5 56 rfl rfl⟩
theorem fl_X10_41 : FL RX10 41 10 18 := ⟨RX10, TX10, 33, rfl, by decide, inw_X10, mt5 57 rfl rfl⟩
theorem fl_X10_45 : FL RX10 45 10 19 := ⟨RX10, TX10, 33, rfl, by decide, inw_X10, mt5 58 rfl rfl⟩
theorem fl_X10_48 : FL RX10 48 10 20 := ⟨RX10, TX10, 33, rfl, by decide, inw_X10, mt5 59 rfl rfl⟩
theorem fl_X10_51 : FL RX10 51 10 21 := ⟨RX10, TX10, 33, rfl, by decide, inw_X10, mt5 60 rfl rfl⟩
theorem fl_X10_54 : FL RX10 54 10 24 := ⟨RX10, TX10, 33, rfl, by decide, inw_X10, mt5 63 rfl rfl⟩
theorem fl_X10_57 : FL RX10 57 10 25 := ⟨RX10, TX10, 33, rfl, by decide, inw_X10, mt5 64 rfl rfl⟩
theorem fl_X10_60 : FL RX10 60 10 26 := ⟨RX10, TX10, 33, rfl, by decide, inw_X10, mt5 65 rfl rfl⟩
theorem fl_X10_63 : FL RX10 63 10 27 := ⟨RX10, TX10, 33, rfl, by decide, inw_X10, mt5 66 rfl rfl⟩
theorem fl_X10_66 : FL RX10 66 10 28 := ⟨RX10, TX10, 33, rfl, by decide, inw_X10, mt5 67 rfl rfl⟩
theorem fl_X10_69 : FL RX10 69 10 29 := ⟨RX10, TX10, 33, rfl, by decide, inw_X10, mt5 68 rfl rfl⟩
theorem fl_X10_7 : FL RX10 7 10 1 := ⟨RX10, TX10, 33, rfl, by decide, inw_X10, mt5 40 rfl rfl⟩
theorem fl_X10_72 : FL RX10 72 10 31 := ⟨RX10, TX10, 33, rfl, by decide, inw_X10, mt5 70 rfl rfl⟩
theorem fl_X10_75 : FL RX10 75 10 32 := ⟨RX10, TX10, 33, rfl, by decide, inw_X10, mt5 71 rfl rfl⟩
theorem fl_X10_82 : FL RX10 82 10 2 := ⟨RX10, TX10, 33, rfl, by decide, inw_X10, mt5 41 rfl rfl⟩
theorem fl_X10_88 : FL RX10 88 10 9 := ⟨RX10, TX10, 33, rfl, by decide, inw_X10, mt5 48 rfl rfl⟩
theorem fl_X10_95 : FL RX10 95 10 10 := ⟨RX10, TX10, 33, rfl, by decide, inw_X10, mt5 49 rfl rfl⟩
theorem fl_X10_98 : FL RX10 98 10 12 := ⟨RX10, TX10, 33, rfl, by decide, inw_X10, mt5 51 rfl rfl⟩
theorem fl_X1_15 : FL RX1 15 1 1 := ⟨RX1, TX1, 2, rfl, by decide, inw_X1, mt2 4 rfl rfl⟩
theorem fl_X1_9 : FL RX1 9 1 0 := ⟨RX1, TX1, 2, rfl, by decide, inw_X1, mt2 3 rfl rfl⟩
theorem fl_X2_15 : FL RX2 15 2 1 := ⟨RX2, TX2, 4, rfl, by decide, inw_X2, mt1 118 rfl rfl⟩
theorem fl_X2_18 : FL RX2 18 2 2 := ⟨RX2, TX2, 4, rfl, by decide, inw_X2, mt1 119 rfl rfl⟩
theorem fl_X2_21 : FL RX2 21 2 3 := ⟨RX2, TX2, 4, rfl, by decide, inw_X2, mt1 120 rfl rfl⟩
theorem fl_X2_9 : FL RX2 9 2 0 := ⟨RX2, TX2, 4, rfl, by decide, inw_X2, mt1 117 rfl rfl⟩
theorem fl_X3_11 : FL RX3 11 3 0 := ⟨RX3, TX3, 4, rfl, by decide, inw_X3, mt1 224 rfl rfl⟩
theorem fl_X3_15 : FL RX3 15 3 1 := ⟨RX3, TX3, 4, rfl, by decide, inw_X3, mt1 225 rfl rfl⟩
theorem fl_X3_19 : FL RX3 19 3 2 := ⟨RX3, TX3, 4, rfl, by decide, inw_X3, mt1 226 rfl rfl⟩
theorem fl_X3_22 : FL RX3 22 3 3 := ⟨RX3, TX3, 4, rfl, by decide, inw_X3, mt1 227 rfl rfl⟩
theorem fl_X4_15 : FL RX4 15 4 3 := ⟨RX4, TX4, 9, rfl, by decide, inw_X4, mt1 193 rfl rfl⟩
theorem fl_X4_18 : FL RX4 18 4 4 := ⟨RX4, TX4, 9, rfl, by decide, inw_X4, mt1 194 rfl rfl⟩
theorem fl_X4_21 : FL RX4 21 4 5 := ⟨RX4, TX4, 9, rfl, by decide, inw_X4, mt1 195 rfl rfl⟩
theorem fl_X4_24 : FL RX4 24 4 0 := ⟨RX4, TX4, 9, rfl, by decide, inw_X4, mt1 190 rfl rfl⟩
theorem fl_X4_28 : FL RX4 28 4 1 := ⟨RX4, TX4, 9, rfl, by decide, inw_X4, mt1 191 rfl rfl⟩
theorem fl_X4_32 : FL RX4 32 4 6 := ⟨RX4, TX4, 9, rfl, by decide, inw_X4, mt1 196 rfl rfl⟩
theorem fl_X4_36 : FL RX4 36 4 7 := ⟨RX4, TX4, 9, rfl, by decide, inw_X4, mt1 197 rfl rfl⟩
theorem fl_X4_39 : FL RX4 39 4 8 := ⟨RX4, TX4, 9, rfl, by decide, inw_X4, mt1 198 rfl rfl⟩
theorem fl_X4_9 : FL RX4 9 4 2 := ⟨RX4, TX4, 9, rfl, by decide, inw_X4, mt1 192 rfl rfl⟩
theorem fl_X5_11 : FL RX5 11 5 1 := ⟨RX5, TX5, 9, rfl, by decide, inw_X5, mt1 137 rfl rfl⟩
theorem fl_X5_15 : FL RX5 15 5 2 := ⟨RX5, TX5, 9, rfl, by decide, inw_X5, mt1 138 rfl rfl⟩
theorem fl_X5_18 : FL RX5 18 5 3 := ⟨RX5, TX5, 9, rfl, by decide, inw_X5, mt1 139 rfl rfl⟩
theorem fl_X5_21 : FL RX5 21 5 4 := ⟨RX5, TX5, 9, rfl, by decide, inw_X5, mt1 140 rfl rfl⟩
theorem fl_X5_24 : FL RX5 24 5 5 := ⟨RX5, TX5, 9, rfl, by decide, inw_X5, mt1 141 rfl rfl⟩
theorem fl_X5_28 : FL RX5 28 5 6 := ⟨RX5, TX5, 9, rfl, by decide, inw_X5, mt1 142 rfl rfl⟩
theorem fl_X5_31 : FL RX5 31 5 7 := ⟨RX5, TX5, 9, rfl, by decide, inw_X5, mt1 143 rfl rfl⟩
theorem fl_X5_34 : FL RX5 34 5 0 := ⟨RX5, TX5, 9, rfl, by decide, inw_X5, mt1 136 rfl rfl⟩
theorem fl_X5_84 : FL RX5 84 5 8 := ⟨RX5, TX5, 9, rfl, by decide, inw_X5, mt1 144 rfl rfl⟩
theorem fl_X6_13 : FL RX6 13 6 2 := ⟨RX6, TX6, 7, rfl, by decide, inw_X6, mt1 91 rfl rfl⟩
theorem fl_X6_162 : FL RX6 162 6 6 := ⟨RX6, TX6, 7, rfl, by decide, inw_X6, mt1 95 rfl rfl⟩
theorem fl_X6_17 : FL RX6 17 6 3 := ⟨RX6, TX6, 7, rfl, by decide, inw_X6, mt1 92 rfl rfl⟩
theorem fl_X6_20 : FL RX6 20 6 0 := ⟨RX6, TX6, 7, rfl, by decide, inw_X6, mt1 89 rfl rfl⟩
theorem fl_X6_24 : FL RX6 24 6 1 := ⟨RX6, TX6, 7, rfl, by decide, inw_X6, mt1 90 rfl rfl⟩
theorem fl_X6_36 : FL RX6 36 6 5 := ⟨RX6, TX6, 7, rfl, by decide, inw_X6, mt1 94 rfl rfl⟩
theorem fl_X6_52 : FL RX6 52 6 4 := ⟨RX6, TX6, 7, rfl, by decide, inw_X6, mt1 93 rfl rfl⟩
theorem fl_X7_13 : FL RX7 13 7 1 := ⟨RX7, TX7, 2, rfl, by decide, inw_X7, mt1 35 rfl rfl⟩
theorem fl_X7_9 : FL RX7 9 7 0 := ⟨RX7, TX7, 2, rfl, by decide, inw_X7, mt1 34 rfl rfl⟩
theorem fl_X8_15 : FL RX8 15 8 1 := ⟨RX8, TX8, 11, rfl, by decide, inw_X8, mt1 49 rfl rfl⟩
theorem fl_X8_18 : FL RX8 18 8 2 := ⟨RX8, TX8, 11, rfl, by decide, inw_X8, mt1 50 rfl rfl⟩
theorem fl_X8_27 : FL RX8 27 8 3 := ⟨RX8, TX8, 11, rfl, by decide, inw_X8, mt1 51 rfl rfl⟩
theorem fl_X8_31 : FL RX8 31 8 4 := ⟨RX8, TX8, 11, rfl, by decide, inw_X8, mt1 52 rfl rfl⟩
theorem fl_X8_34 : FL RX8 34 8 5 := ⟨RX8, TX8, 11, rfl, by decide, inw_X8, mt1 53 rfl rfl⟩
theorem fl_X8_37 : FL RX8 37 8 6 := ⟨RX8, TX8, 11, rfl, by decide, inw_X8, mt1 54 rfl rfl⟩
theorem fl_X8_40 : FL RX8 40 8 7 := ⟨RX8, TX8, 11, rfl, by decide, inw_X8, mt1 55 rfl rfl⟩
theorem fl_X8_43 : FL RX8 43 8 8 := ⟨RX8, TX8, 11, rfl, by decide, inw_X8, mt1 56 rfl rfl⟩
theorem fl_X8_46 : FL RX8 46 8 9 := ⟨RX8, TX8, 11, rfl, by decide, inw_X8, mt1 57 rfl rfl⟩
theorem fl_X8_49 : FL RX8 49 8 10 := ⟨RX8, TX8, 11, rfl, by decide, inw_X8, mt1 58 rfl rfl⟩
theorem fl_X8_9 : FL RX8 9 8 0 := ⟨RX8, TX8, 11, rfl, by decide, inw_X8, mt1 48 rfl rfl⟩
theorem fl_X9_12 : FL RX9 12 9 0 := ⟨RX9, TX9, 13, rfl, by decide, inw_X9, mt2 10 rfl rfl⟩
theorem fl_X9_19 : FL RX9 19 9 1 := ⟨RX9, TX9, 13, rfl, by decide, inw_X9, mt2 11 rfl rfl⟩
theorem fl_X9_23 : FL RX9 23 9 2 := ⟨RX9, TX9, 13, rfl, by decide, inw_X9, mt2 12 rfl rfl⟩
theorem fl_X9_31 : FL RX9 31 9 3 := ⟨RX9, TX9, 13, rfl, by decide, inw_X9, mt2 13 rfl rfl⟩
theorem fl_X9_38 : FL RX9 38 9 4 := ⟨RX9, TX9, 13, rfl, by decide, inw_X9, mt2 14 rfl rfl⟩
theorem fl_X9_42 : FL RX9 42 9 5 := ⟨RX9, TX9, 13, rfl, by decide, inw_X9, mt2 15 rfl rfl⟩
theorem fl_X9_45 : FL RX9 45 9 6 := ⟨RX9, TX9, 13, rfl, by decide, inw_X9, mt2 16 rfl rfl⟩
theorem fl_X9_53 : FL RX9 53 9 7 := ⟨RX9, TX9, 13, rfl, by decide, inw_X9, mt2 17 rfl rfl⟩
theorem fl_X9_62 : FL RX9 62 9 8 := ⟨RX9, TX9, 13, rfl, by decide, inw_X9, mt2 18 rfl rfl⟩
theorem fl_X9_69 : FL RX9 69 9 9 := ⟨RX9, TX9, 13, rfl, by decide, inw_X9, mt2 19 rfl rfl⟩
theorem fl_X9_76 : FL RX9 76 9 10 := ⟨RX9, TX9, 13, rfl, by decide, inw_X9, mt2 20 rfl rfl⟩
theorem fl_X9_83 : FL RX9 83 9 11 := ⟨RX9, TX9, 13, rfl, by decide, inw_X9, mt2 21 rfl rfl⟩
theorem fl_X9_87 : FL RX9 87 9 12 := ⟨RX9, TX9, 13, rfl, by decide, inw_X9, mt2 22 rfl rfl⟩
theorem fp_X10_101 : FP RX10 101 10 11 .int := ⟨RX10, TX10, 33, tyX10, rfl, by decide, inw_X10, mt5 50 rfl rfl, tyX10_ok, nmX10, rfl, tyX10_ok 11 (by decide)⟩
theorem fp_X10_108 : FP RX10 108 10 13 .int := ⟨RX10, TX10, 33, tyX10, rfl, by decide, inw_X10, mt5 52 rfl rfl, tyX10_ok, nmX10, rfl, tyX10_ok 13 (by decide)⟩
theorem fp_X10_126 : FP RX10 126 10 14 .int := ⟨RX10, TX10, 33, tyX10, rfl, by decide, inw_X10, mt5 53 rfl rfl, tyX10_ok, nmX10, rfl, tyX10_ok 14 (by decide)⟩
theorem fp_X10_165 : FP RX10 165 10 22 .int := ⟨RX10, TX10, 33, tyX10, rfl, by decide, inw_X10, mt5 61 rfl rfl, tyX10_ok, nmX10, rfl, tyX10_ok 22 (by decide)⟩
theorem fp_X10_178 : FP RX10 178 10 23 .int := ⟨RX10, TX10, 33, tyX10, rfl, by decide, inw_X10, mt5 62 rfl rfl, tyX10_ok, nmX10, rfl, tyX10_ok 23 (by decide)⟩
theorem fp_X10_222 : FP RX10 222 10 30 .int := ⟨RX10, TX10, 33, tyX10, rfl, by decide, inw_X10, mt5 69 rfl rfl, tyX10_ok, nmX10, rfl, tyX10_ok 30 (by decide)⟩
theorem fp_X10_232 : FP RX10 232 10 0 .long := ⟨RX10, TX10, 33, tyX10, rfl, by decide, inw_X10, mt5 39 rfl rfl, tyX10_ok, nmX10, rfl, tyX10_ok 0 (by decide)⟩
theorem fp_X10_82 : FP RX10 82 10 2 .int := ⟨RX10, TX10, 33, tyX10, rfl, by decide, inw_X10, mt5 41 rfl rfl, tyX10_ok, nmX10, rfl, tyX10_ok 2 (by decide)⟩
theorem fp_X10_88 : FP RX10 88 10 9 .int := ⟨RX10, TX10, 33, tyX10, rfl, by decide, inw_X10, mt5 48 rfl rfl, tyX10_ok, nmX10, rfl, tyX10_ok 9 (by decide)⟩
theorem fp_X10_95 : FP RX10 95 10 10 .int := ⟨RX10, TX10, 33, tyX10, rfl, by decide, inw_X10, mt5 49 rfl rfl, tyX10_ok, nmX10, rfl, tyX10_ok 10 (by decide)⟩
theorem fp_X10_98 : FP RX10 98 10 12 .int := ⟨RX10, TX10, 33, tyX10, rfl, by decide, inw_X10, mt5 51 rfl rfl, tyX10_ok, nmX10, rfl, tyX10_ok 12 (by decide)⟩
theorem fp_X1_15 : FP RX1 15 1 1 .long := ⟨RX1, TX1, 2, tyX1, rfl, by decide, inw_X1, mt2 4 rfl rfl, tyX1_ok, nmX1, rfl, tyX1_ok 1 (by decide)⟩
theorem fp_X2_15 : FP RX2 15 2 1 .int := ⟨RX2, TX2, 4, tyX2, rfl, by decide, inw_X2, mt1 118 rfl rfl, tyX2_ok, nmX2, rfl, tyX2_ok 1 (by decide)⟩
theorem fp_X2_18 : FP RX2 18 2 2 .int := ⟨RX2, TX2, 4, tyX2, rfl, by decide, inw_X2, mt1 119 rfl rfl, tyX2_ok, nmX2, rfl, tyX2_ok 2 (by decide)⟩
theorem fp_X2_21 : FP RX2 21 2 3 .boolean := ⟨RX2, TX2, 4, tyX2, rfl, by decide, inw_X2, mt1 120 rfl rfl, tyX2_ok, nmX2, rfl, tyX2_ok 3 (by decide)⟩
theorem fp_X2_9 : FP RX2 9 2 0 .int := ⟨RX2, TX2, 4, tyX2, rfl, by decide, inw_X2, mt1 117 rfl rfl, tyX2_ok, nmX2, rfl, tyX2_ok 0 (by decide)⟩
theorem fp_X3_15 : FP RX3 15 3 1 .int := ⟨RX3, TX3, 4, tyX3, rfl, by decide, inw_X3, mt1 225 rfl rfl, tyX3_ok, nmX3, rfl, tyX3_ok 1 (by decide)⟩
theorem fp_X3_19 : FP RX3 19 3 2 .int := ⟨RX3, TX3, 4, tyX3, rfl, by decide, inw_X3, mt1 226 rfl rfl, tyX3_ok, nmX3, rfl, tyX3_ok 2 (by decide)⟩
theorem fp_X3_22 : FP RX3 22 3 3 .int := ⟨RX3, TX3, 4, tyX3, rfl, by decide, inw_X3, mt1 227 rfl rfl, tyX3_ok, nmX3, rfl, tyX3_ok 3 (by decide)⟩
theorem fp_X4_32 : FP RX4 32 4 6 .int := ⟨RX4, TX4, 9, tyX4, rfl, by decide, inw_X4, mt1 196 rfl rfl, tyX4_ok, nmX4, rfl, tyX4_ok 6 (by decide)⟩
theorem fp_X4_36 : FP RX4 36 4 7 .int := ⟨RX4, TX4, 9, tyX4, rfl, by decide, inw_X4, mt1 197 rfl rfl, tyX4_ok, nmX4, rfl, tyX4_ok 7 (by decide)⟩
theorem fp_X4_39 : FP RX4 39 4 8 .int := ⟨RX4, TX4, 9, tyX4, rfl, by decide, inw_X4, mt1 198 rfl rfl, tyX4_ok, nmX4, rfl, tyX4_ok 8 (by decide)⟩
theorem fp_X5_84 : FP RX5 84 5 8 .int := ⟨RX5, TX5, 9, tyX5, rfl, by decide, inw_X5, mt1 144 rfl rfl, tyX5_ok, nmX5, rfl, tyX5_ok 8 (by decide)⟩
theorem fp_X6_162 : FP RX6 162 6 6 .int := ⟨RX6, TX6, 7, tyX6, rfl, by decide, inw_X6, mt1 95 rfl rfl, tyX6_ok, nmX6, rfl, tyX6_ok 6 (by decide)⟩
theorem fp_X6_36 : FP RX6 36 6 5 .int := ⟨RX6, TX6, 7, tyX6, rfl, by decide, inw_X6, mt1 94 rfl rfl, tyX6_ok, nmX6, rfl, tyX6_ok 5 (by decide)⟩
theorem fp_X6_52 : FP RX6 52 6 4 .int := ⟨RX6, TX6, 7, tyX6, rfl, by decide, inw_X6, mt1 93 rfl rfl, tyX6_ok, nmX6, rfl, tyX6_ok 4 (by decide)⟩
theorem fp_X7_13 : FP RX7 13 7 1 .int := ⟨RX7, TX7, 2, tyX7, rfl, by decide, inw_X7, mt1 35 rfl rfl, tyX7_ok, nmX7, rfl, tyX7_ok 1 (by decide)⟩
theorem fp_X8_27 : FP RX8 27 8 3 .int := ⟨RX8, TX8, 11, tyX8, rfl, by decide, inw_X8, mt1 51 rfl rfl, tyX8_ok, nmX8, rfl, tyX8_ok 3 (by decide)⟩
theorem fp_X8_31 : FP RX8 31 8 4 .int := ⟨RX8, TX8, 11, tyX8, rfl, by decide, inw_X8, mt1 52 rfl rfl, tyX8_ok, nmX8, rfl, tyX8_ok 4 (by decide)⟩
theorem fp_X8_34 : FP RX8 34 8 5 .int := ⟨RX8, TX8, 11, tyX8, rfl, by decide, inw_X8, mt1 53 rfl rfl, tyX8_ok, nmX8, rfl, tyX8_ok 5 (by decide)⟩
theorem fp_X8_37 : FP RX8 37 8 6 .int := ⟨RX8, TX8, 11, tyX8, rfl, by decide, inw_X8, mt1 54 rfl rfl, tyX8_ok, nmX8, rfl, tyX8_ok 6 (by decide)⟩
theorem fp_X8_40 : FP RX8 40 8 7 .int := ⟨RX8, TX8, 11, tyX8, rfl, by decide, inw_X8, mt1 55 rfl rfl, tyX8_ok, nmX8, rfl, tyX8_ok 7 (by decide)⟩
theorem fp_X8_43 : FP RX8 43 8 8 .int := ⟨RX8, TX8, 11, tyX8, rfl, by decide, inw_X8, mt1 56 rfl rfl, tyX8_ok, nmX8, rfl, tyX8_ok 8 (by decide)⟩
theorem fp_X8_46 : FP RX8 46 8 9 .int := ⟨RX8, TX8, 11, tyX8, rfl, by decide, inw_X8, mt1 57 rfl rfl, tyX8_ok, nmX8, rfl, tyX8_ok 9 (by decide)⟩
theorem fp_X8_49 : FP RX8 49 8 10 .int := ⟨RX8, TX8, 11, tyX8, rfl, by decide, inw_X8, mt1 58 rfl rfl, tyX8_ok, nmX8, rfl, tyX8_ok 10 (by decide)⟩
theorem gs_X9_145 : Cond.fieldLink RX9 145 RX9 "TUNE_LEAST" "[I" ∈ lw_t := mt3 118 rfl rfl
theorem gs_X9_148 : Cond.fieldLink RX9 148 RX9 "TUNE_MOST" "[I" ∈ lw_t := mt3 120 rfl rfl
theorem mf_J6_bitCount_0f7a4 : MF yJ6_bitCount_0f7a4 mi_J6_bitCount_0f7a4 1 := ⟨mt1 19 rfl rfl, mt4 93 rfl rfl, ⟨by decide, by decide⟩, by decide +kernel, by decide⟩
theorem mf_J7_fill_53178 : MF yJ7_fill_53178 mi_J7_fill_53178 2 := ⟨mt1 8 rfl rfl, mt1 173 rfl rfl, ⟨by decide, by decide⟩, by decide +kernel, by decide⟩
theorem mf_J7_fill_d0a16 : MF yJ7_fill_d0a16 mi_J7_fill_d0a16 2 := ⟨mt1 8 rfl rfl, mt3 231 rfl rfl, ⟨by decide, by decide⟩, by decide +kernel, by decide⟩
theorem mf_X0_allMatch : MF yX0_allMatch mi_X0_allMatch 1 := ⟨mt1 7 rfl rfl, mt4 138 rfl rfl, ⟨by decide, by decide⟩, by decide +kernel, by decide⟩
theorem mf_X0_chanceOf : MF yX0_chanceOf mi_X0_chanceOf 1 := ⟨mt1 7 rfl rfl, mt4 35 rfl rfl, ⟨by decide, by decide⟩, by decide +kernel, by decide⟩
theorem mf_X0_chances : MF yX0_chances mi_X0_chances 1 := ⟨mt1 7 rfl rfl, mt4 30 rfl rfl, ⟨by decide, by decide⟩, by decide +kernel, by decide⟩
theorem mf_X0_forget : MF yX0_forget mi_X0_forget 0 := ⟨mt1 7 rfl rfl, mt3 76 rfl rfl, ⟨by decide, by decide⟩, by decide +kernel, by decide⟩
theorem mf_X0_largestMatch : MF yX0_largestMatch mi_X0_largestMatch 0 := ⟨mt1 7 rfl rfl, mt4 134 rfl rfl, ⟨by decide, by decide⟩, by decide +kernel, by decide⟩
theorem mf_X0_purchase : MF yX0_purchase mi_X0_purchase 2 := ⟨mt1 7 rfl rfl, mt4 81 rfl rfl, ⟨by decide, by decide⟩, by decide +kernel, by decide⟩
theorem mf_X0_smallest : MF yX0_smallest mi_X0_smallest 2 := ⟨mt1 7 rfl rfl, mt4 45 rfl rfl, ⟨by decide, by decide⟩, by decide +kernel, by decide⟩
theorem mf_X0_spares : MF yX0_spares mi_X0_spares 2 := ⟨mt1 7 rfl rfl, mt4 59 rfl rfl, ⟨by decide, by decide⟩, by decide +kernel, by decide⟩
theorem mf_X0_takenOff : MF yX0_takenOff mi_X0_takenOff 3 := ⟨mt1 7 rfl rfl, mt4 90 rfl rfl, ⟨by decide, by decide⟩, by decide +kernel, by decide⟩
theorem mf_X10_allThings : MF yX10_allThings mi_X10_allThings 0 := ⟨mt1 12 rfl rfl, mt5 194 rfl rfl, ⟨by decide, by decide⟩, by decide +kernel, by decide⟩
theorem mf_X10_begin : MF yX10_begin mi_X10_begin 1 := ⟨mt1 12 rfl rfl, mt6 39 rfl rfl, ⟨by decide, by decide⟩, by decide +kernel, by decide⟩
theorem mf_X10_behind : MF yX10_behind mi_X10_behind 6 := ⟨mt1 12 rfl rfl, mt6 15 rfl rfl, ⟨by decide, by decide⟩, by decide +kernel, by decide⟩
theorem mf_X10_bitsIn : MF yX10_bitsIn mi_X10_bitsIn 1 := ⟨mt1 12 rfl rfl, mt6 90 rfl rfl, ⟨by decide, by decide⟩, by decide +kernel, by decide⟩
theorem mf_X10_common : MF yX10_common mi_X10_common 2 := ⟨mt1 12 rfl rfl, mt6 121 rfl rfl, ⟨by decide, by decide⟩, by decide +kernel, by decide⟩
theorem mf_X10_copy : MF yX10_copy mi_X10_copy 2 := ⟨mt1 12 rfl rfl, mt6 143 rfl rfl, ⟨by decide, by decide⟩, by decide +kernel, by decide⟩
theorem mf_X10_due : MF yX10_due mi_X10_due 1 := ⟨mt1 12 rfl rfl, mt5 174 rfl rfl, ⟨by decide, by decide⟩, by decide +kernel, by decide⟩
theorem mf_X10_findPlan : MF yX10_findPlan mi_X10_findPlan 2 := ⟨mt1 12 rfl rfl, mt6 55 rfl rfl, ⟨by decide, by decide⟩, by decide +kernel, by decide⟩
theorem mf_X10_firstDay : MF yX10_firstDay mi_X10_firstDay 1 := ⟨mt1 12 rfl rfl, mt6 79 rfl rfl, ⟨by decide, by decide⟩, by decide +kernel, by decide⟩
theorem mf_X10_goDay : MF yX10_goDay mi_X10_goDay 3 := ⟨mt1 12 rfl rfl, mt6 43 rfl rfl, ⟨by decide, by decide⟩, by decide +kernel, by decide⟩
theorem mf_X10_hasCoat : MF yX10_hasCoat mi_X10_hasCoat 1 := ⟨mt1 12 rfl rfl, mt6 11 rfl rfl, ⟨by decide, by decide⟩, by decide +kernel, by decide⟩
theorem mf_X10_here : MF yX10_here mi_X10_here 0 := ⟨mt1 12 rfl rfl, mt5 163 rfl rfl, ⟨by decide, by decide⟩, by decide +kernel, by decide⟩
theorem mf_X10_howIs : MF yX10_howIs mi_X10_howIs 2 := ⟨mt1 12 rfl rfl, mt5 205 rfl rfl, ⟨by decide, by decide⟩, by decide +kernel, by decide⟩
theorem mf_X10_in : MF yX10_in mi_X10_in 3 := ⟨mt1 12 rfl rfl, mt5 146 rfl rfl, ⟨by decide, by decide⟩, by decide +kernel, by decide⟩
theorem mf_X10_isGoing : MF yX10_isGoing mi_X10_isGoing 2 := ⟨mt1 12 rfl rfl, mt5 217 rfl rfl, ⟨by decide, by decide⟩, by decide +kernel, by decide⟩
theorem mf_X10_isOf : MF yX10_isOf mi_X10_isOf 2 := ⟨mt1 12 rfl rfl, mt6 0 rfl rfl, ⟨by decide, by decide⟩, by decide +kernel, by decide⟩
theorem mf_X10_isRain : MF yX10_isRain mi_X10_isRain 2 := ⟨mt1 12 rfl rfl, mt6 47 rfl rfl, ⟨by decide, by decide⟩, by decide +kernel, by decide⟩
theorem mf_X10_isServing : MF yX10_isServing mi_X10_isServing 2 := ⟨mt1 12 rfl rfl, mt6 31 rfl rfl, ⟨by decide, by decide⟩, by decide +kernel, by decide⟩
theorem mf_X10_isThing : MF yX10_isThing mi_X10_isThing 1 := ⟨mt1 12 rfl rfl, mt5 202 rfl rfl, ⟨by decide, by decide⟩, by decide +kernel, by decide⟩
theorem mf_X10_isWearable : MF yX10_isWearable mi_X10_isWearable 2 := ⟨mt1 12 rfl rfl, mt6 7 rfl rfl, ⟨by decide, by decide⟩, by decide +kernel, by decide⟩
theorem mf_X10_item : MF yX10_item mi_X10_item 1 := ⟨mt1 12 rfl rfl, mt5 170 rfl rfl, ⟨by decide, by decide⟩, by decide +kernel, by decide⟩
theorem mf_X10_lay : MF yX10_lay mi_X10_lay 2 := ⟨mt1 12 rfl rfl, mt6 98 rfl rfl, ⟨by decide, by decide⟩, by decide +kernel, by decide⟩
theorem mf_X10_mayWear : MF yX10_mayWear mi_X10_mayWear 4 := ⟨mt1 12 rfl rfl, mt5 237 rfl rfl, ⟨by decide, by decide⟩, by decide +kernel, by decide⟩
theorem mf_X10_meaning : MF yX10_meaning mi_X10_meaning 1 := ⟨mt1 12 rfl rfl, mt5 166 rfl rfl, ⟨by decide, by decide⟩, by decide +kernel, by decide⟩
theorem mf_X10_next : MF yX10_next mi_X10_next 0 := ⟨mt1 12 rfl rfl, mt5 159 rfl rfl, ⟨by decide, by decide⟩, by decide +kernel, by decide⟩
theorem mf_X10_number : MF yX10_number mi_X10_number 2 := ⟨mt1 12 rfl rfl, mt5 182 rfl rfl, ⟨by decide, by decide⟩, by decide +kernel, by decide⟩
theorem mf_X10_oddsOf : MF yX10_oddsOf mi_X10_oddsOf 1 := ⟨mt1 12 rfl rfl, mt6 63 rfl rfl, ⟨by decide, by decide⟩, by decide +kernel, by decide⟩
theorem mf_X10_of : MF yX10_of mi_X10_of 2 := ⟨mt1 12 rfl rfl, mt5 209 rfl rfl, ⟨by decide, by decide⟩, by decide +kernel, by decide⟩
theorem mf_X10_optional : MF yX10_optional mi_X10_optional 1 := ⟨mt1 12 rfl rfl, mt5 186 rfl rfl, ⟨by decide, by decide⟩, by decide +kernel, by decide⟩
theorem mf_X10_readDay : MF yX10_readDay mi_X10_readDay 0 := ⟨mt1 12 rfl rfl, mt5 190 rfl rfl, ⟨by decide, by decide⟩, by decide +kernel, by decide⟩
theorem mf_X10_readThing : MF yX10_readThing mi_X10_readThing 1 := ⟨mt1 12 rfl rfl, mt5 178 rfl rfl, ⟨by decide, by decide⟩, by decide +kernel, by decide⟩
theorem mf_X10_servesFrom : MF yX10_servesFrom mi_X10_servesFrom 4 := ⟨mt1 12 rfl rfl, mt6 35 rfl rfl, ⟨by decide, by decide⟩, by decide +kernel, by decide⟩
theorem mf_X10_sumOf : MF yX10_sumOf mi_X10_sumOf 2 := ⟨mt1 12 rfl rfl, mt6 71 rfl rfl, ⟨by decide, by decide⟩, by decide +kernel, by decide⟩
theorem mf_X10_troubles : MF yX10_troubles mi_X10_troubles 1 := ⟨mt1 12 rfl rfl, mt6 102 rfl rfl, ⟨by decide, by decide⟩, by decide +kernel, by decide⟩
theorem mf_X10_upTo : MF yX10_upTo mi_X10_upTo 1 := ⟨mt1 12 rfl rfl, mt6 125 rfl rfl, ⟨by decide, by decide⟩, by decide +kernel, by decide⟩
theorem mf_X10_warmestCoat : MF yX10_warmestCoat mi_X10_warmestCoat 1 := ⟨mt1 12 rfl rfl, mt6 4 rfl rfl, ⟨by decide, by decide⟩, by decide +kernel, by decide⟩
theorem mf_X10_worn : MF yX10_worn mi_X10_worn 3 := ⟨mt1 12 rfl rfl, mt6 19 rfl rfl, ⟨by decide, by decide⟩, by decide +kernel, by decide⟩
theorem mf_X1_asBought : MF yX1_asBought mi_X1_asBought 1 := ⟨mt1 11 rfl rfl, mt4 232 rfl rfl, ⟨by decide, by decide⟩, by decide +kernel, by decide⟩
theorem mf_X1_asDouble : MF yX1_asDouble mi_X1_asDouble 1 := ⟨mt1 11 rfl rfl, mt4 227 rfl rfl, ⟨by decide, by decide⟩, by decide +kernel, by decide⟩
theorem mf_X1_asOnce : MF yX1_asOnce mi_X1_asOnce 1 := ⟨mt1 11 rfl rfl, mt4 217 rfl rfl, ⟨by decide, by decide⟩, by decide +kernel, by decide⟩
theorem mf_X1_asSingle : MF yX1_asSingle mi_X1_asSingle 2 := ⟨mt1 11 rfl rfl, mt4 237 rfl rfl, ⟨by decide, by decide⟩, by decide +kernel, by decide⟩
theorem mf_X1_asSpare : MF yX1_asSpare mi_X1_asSpare 1 := ⟨mt1 11 rfl rfl, mt4 222 rfl rfl, ⟨by decide, by decide⟩, by decide +kernel, by decide⟩
theorem mf_X1_asThing : MF yX1_asThing mi_X1_asThing 1 := ⟨mt1 11 rfl rfl, mt4 212 rfl rfl, ⟨by decide, by decide⟩, by decide +kernel, by decide⟩
theorem mf_X1_ask : MF yX1_ask mi_X1_ask 3 := ⟨mt1 11 rfl rfl, mt4 208 rfl rfl, ⟨by decide, by decide⟩, by decide +kernel, by decide⟩
theorem mf_X1_asked : MF yX1_asked mi_X1_asked 0 := ⟨mt1 11 rfl rfl, mt5 32 rfl rfl, ⟨by decide, by decide⟩, by decide +kernel, by decide⟩
theorem mf_X1_isKind : MF yX1_isKind mi_X1_isKind 1 := ⟨mt1 11 rfl rfl, mt4 203 rfl rfl, ⟨by decide, by decide⟩, by decide +kernel, by decide⟩
theorem mf_X2_copy : MF yX2_copy mi_X2_copy 1 := ⟨mt1 5 rfl rfl, mt5 11 rfl rfl, ⟨by decide, by decide⟩, by decide +kernel, by decide⟩
theorem mf_X2_date : MF yX2_date mi_X2_date 0 := ⟨mt1 5 rfl rfl, mt3 199 rfl rfl, ⟨by decide, by decide⟩, by decide +kernel, by decide⟩
theorem mf_X2_forget : MF yX2_forget mi_X2_forget 0 := ⟨mt1 5 rfl rfl, mt3 72 rfl rfl, ⟨by decide, by decide⟩, by decide +kernel, by decide⟩
theorem mf_X2_fresh : MF yX2_fresh mi_X2_fresh 1 := ⟨mt1 5 rfl rfl, mt3 207 rfl rfl, ⟨by decide, by decide⟩, by decide +kernel, by decide⟩
theorem mf_X2_how : MF yX2_how mi_X2_how 0 := ⟨mt1 5 rfl rfl, mt3 85 rfl rfl, ⟨by decide, by decide⟩, by decide +kernel, by decide⟩
theorem mf_X2_isKept : MF yX2_isKept mi_X2_isKept 0 := ⟨mt1 5 rfl rfl, mt5 19 rfl rfl, ⟨by decide, by decide⟩, by decide +kernel, by decide⟩
theorem mf_X2_isOver : MF yX2_isOver mi_X2_isOver 1 := ⟨mt1 5 rfl rfl, mt3 155 rfl rfl, ⟨by decide, by decide⟩, by decide +kernel, by decide⟩
theorem mf_X2_mayWear : MF yX2_mayWear mi_X2_mayWear 4 := ⟨mt1 5 rfl rfl, mt3 151 rfl rfl, ⟨by decide, by decide⟩, by decide +kernel, by decide⟩
theorem mf_X2_set : MF yX2_set mi_X2_set 0 := ⟨mt1 5 rfl rfl, mt3 129 rfl rfl, ⟨by decide, by decide⟩, by decide +kernel, by decide⟩
theorem mf_X2_start : MF yX2_start mi_X2_start 1 := ⟨mt1 5 rfl rfl, mt3 68 rfl rfl, ⟨by decide, by decide⟩, by decide +kernel, by decide⟩
theorem mf_X2_wear : MF yX2_wear mi_X2_wear 5 := ⟨mt1 5 rfl rfl, mt3 183 rfl rfl, ⟨by decide, by decide⟩, by decide +kernel, by decide⟩
theorem mf_X3_add : MF yX3_add mi_X3_add 2 := ⟨mt1 10 rfl rfl, mt4 170 rfl rfl, ⟨by decide, by decide⟩, by decide +kernel, by decide⟩
theorem mf_X3_lowered : MF yX3_lowered mi_X3_lowered 1 := ⟨mt1 10 rfl rfl, mt4 186 rfl rfl, ⟨by decide, by decide⟩, by decide +kernel, by decide⟩
theorem mf_X3_onAt : MF yX3_onAt mi_X3_onAt 1 := ⟨mt1 10 rfl rfl, mt4 195 rfl rfl, ⟨by decide, by decide⟩, by decide +kernel, by decide⟩
theorem mf_X3_size : MF yX3_size mi_X3_size 0 := ⟨mt1 10 rfl rfl, mt4 174 rfl rfl, ⟨by decide, by decide⟩, by decide +kernel, by decide⟩
theorem mf_X3_wasteLower : MF yX3_wasteLower mi_X3_wasteLower 0 := ⟨mt1 10 rfl rfl, mt4 190 rfl rfl, ⟨by decide, by decide⟩, by decide +kernel, by decide⟩
theorem mf_X3_wasteUpper : MF yX3_wasteUpper mi_X3_wasteUpper 0 := ⟨mt1 10 rfl rfl, mt4 182 rfl rfl, ⟨by decide, by decide⟩, by decide +kernel, by decide⟩
theorem mf_X4_arrange : MF yX4_arrange mi_X4_arrange 3 := ⟨mt1 9 rfl rfl, mt4 104 rfl rfl, ⟨by decide, by decide⟩, by decide +kernel, by decide⟩
theorem mf_X4_lay : MF yX4_lay mi_X4_lay 2 := ⟨mt1 9 rfl rfl, mt4 112 rfl rfl, ⟨by decide, by decide⟩, by decide +kernel, by decide⟩
theorem mf_X4_layerOf : MF yX4_layerOf mi_X4_layerOf 1 := ⟨mt1 9 rfl rfl, mt4 126 rfl rfl, ⟨by decide, by decide⟩, by decide +kernel, by decide⟩
theorem mf_X4_trouble : MF yX4_trouble mi_X4_trouble 0 := ⟨mt1 9 rfl rfl, mt4 122 rfl rfl, ⟨by decide, by decide⟩, by decide +kernel, by decide⟩
theorem mf_X4_troubleOf : MF yX4_troubleOf mi_X4_troubleOf 1 := ⟨mt1 9 rfl rfl, mt4 118 rfl rfl, ⟨by decide, by decide⟩, by decide +kernel, by decide⟩
theorem mf_X5_bottomOn : MF yX5_bottomOn mi_X5_bottomOn 1 := ⟨mt1 6 rfl rfl, mt4 18 rfl rfl, ⟨by decide, by decide⟩, by decide +kernel, by decide⟩
theorem mf_X5_find : MF yX5_find mi_X5_find 2 := ⟨mt1 6 rfl rfl, mt3 218 rfl rfl, ⟨by decide, by decide⟩, by decide +kernel, by decide⟩
theorem mf_X5_firstDayOf : MF yX5_firstDayOf mi_X5_firstDayOf 1 := ⟨mt1 6 rfl rfl, mt4 71 rfl rfl, ⟨by decide, by decide⟩, by decide +kernel, by decide⟩
theorem mf_X5_isDay : MF yX5_isDay mi_X5_isDay 1 := ⟨mt1 6 rfl rfl, mt3 239 rfl rfl, ⟨by decide, by decide⟩, by decide +kernel, by decide⟩
theorem mf_X5_livesOn : MF yX5_livesOn mi_X5_livesOn 2 := ⟨mt1 6 rfl rfl, mt3 235 rfl rfl, ⟨by decide, by decide⟩, by decide +kernel, by decide⟩
theorem mf_X5_livesOnWith : MF yX5_livesOnWith mi_X5_livesOnWith 3 := ⟨mt1 6 rfl rfl, mt4 3 rfl rfl, ⟨by decide, by decide⟩, by decide +kernel, by decide⟩
theorem mf_X5_mark : MF yX5_mark mi_X5_mark 1 := ⟨mt1 6 rfl rfl, mt4 161 rfl rfl, ⟨by decide, by decide⟩, by decide +kernel, by decide⟩
theorem mf_X5_neverOn : MF yX5_neverOn mi_X5_neverOn 1 := ⟨mt1 6 rfl rfl, mt4 65 rfl rfl, ⟨by decide, by decide⟩, by decide +kernel, by decide⟩
theorem mf_X5_prepare : MF yX5_prepare mi_X5_prepare 2 := ⟨mt1 6 rfl rfl, mt3 222 rfl rfl, ⟨by decide, by decide⟩, by decide +kernel, by decide⟩
theorem mf_X5_reachFrom : MF yX5_reachFrom mi_X5_reachFrom 2 := ⟨mt1 6 rfl rfl, mt4 157 rfl rfl, ⟨by decide, by decide⟩, by decide +kernel, by decide⟩
theorem mf_X5_reachNext : MF yX5_reachNext mi_X5_reachNext 1 := ⟨mt1 6 rfl rfl, mt4 153 rfl rfl, ⟨by decide, by decide⟩, by decide +kernel, by decide⟩
theorem mf_X5_times : MF yX5_times mi_X5_times 1 := ⟨mt1 6 rfl rfl, mt4 149 rfl rfl, ⟨by decide, by decide⟩, by decide +kernel, by decide⟩
theorem mf_X5_topOn : MF yX5_topOn mi_X5_topOn 1 := ⟨mt1 6 rfl rfl, mt4 14 rfl rfl, ⟨by decide, by decide⟩, by decide +kernel, by decide⟩
theorem mf_X5_washOn : MF yX5_washOn mi_X5_washOn 1 := ⟨mt1 6 rfl rfl, mt4 22 rfl rfl, ⟨by decide, by decide⟩, by decide +kernel, by decide⟩
theorem mf_X6_addToken : MF yX6_addToken mi_X6_addToken 2 := ⟨mt1 4 rfl rfl, mt2 182 rfl rfl, ⟨by decide, by decide⟩, by decide +kernel, by decide⟩
theorem mf_X6_closeDay : MF yX6_closeDay mi_X6_closeDay 0 := ⟨mt1 4 rfl rfl, mt3 44 rfl rfl, ⟨by decide, by decide⟩, by decide +kernel, by decide⟩
theorem mf_X6_closeThing : MF yX6_closeThing mi_X6_closeThing 0 := ⟨mt1 4 rfl rfl, mt2 232 rfl rfl, ⟨by decide, by decide⟩, by decide +kernel, by decide⟩
theorem mf_X6_codeOf : MF yX6_codeOf mi_X6_codeOf 2 := ⟨mt1 4 rfl rfl, mt2 107 rfl rfl, ⟨by decide, by decide⟩, by decide +kernel, by decide⟩
theorem mf_X6_codeOfNext : MF yX6_codeOfNext mi_X6_codeOfNext 0 := ⟨mt1 4 rfl rfl, mt2 195 rfl rfl, ⟨by decide, by decide⟩, by decide +kernel, by decide⟩
theorem mf_X6_endOf : MF yX6_endOf mi_X6_endOf 1 := ⟨mt1 4 rfl rfl, mt2 90 rfl rfl, ⟨by decide, by decide⟩, by decide +kernel, by decide⟩
theorem mf_X6_isDigit : MF yX6_isDigit mi_X6_isDigit 1 := ⟨mt1 4 rfl rfl, mt2 97 rfl rfl, ⟨by decide, by decide⟩, by decide +kernel, by decide⟩
theorem mf_X6_isLetter : MF yX6_isLetter mi_X6_isLetter 1 := ⟨mt1 4 rfl rfl, mt2 100 rfl rfl, ⟨by decide, by decide⟩, by decide +kernel, by decide⟩
theorem mf_X6_isNext : MF yX6_isNext mi_X6_isNext 1 := ⟨mt1 4 rfl rfl, mt2 191 rfl rfl, ⟨by decide, by decide⟩, by decide +kernel, by decide⟩
theorem mf_X6_isWord : MF yX6_isWord mi_X6_isWord 3 := ⟨mt1 4 rfl rfl, mt2 123 rfl rfl, ⟨by decide, by decide⟩, by decide +kernel, by decide⟩
theorem mf_X6_numberCode : MF yX6_numberCode mi_X6_numberCode 2 := ⟨mt1 4 rfl rfl, mt2 111 rfl rfl, ⟨by decide, by decide⟩, by decide +kernel, by decide⟩
theorem mf_X6_read : MF yX6_read mi_X6_read 0 := ⟨mt1 4 rfl rfl, mt2 81 rfl rfl, ⟨by decide, by decide⟩, by decide +kernel, by decide⟩
theorem mf_X6_readApart : MF yX6_readApart mi_X6_readApart 0 := ⟨mt1 4 rfl rfl, mt3 0 rfl rfl, ⟨by decide, by decide⟩, by decide +kernel, by decide⟩
theorem mf_X6_readClothes : MF yX6_readClothes mi_X6_readClothes 0 := ⟨mt1 4 rfl rfl, mt2 224 rfl rfl, ⟨by decide, by decide⟩, by decide +kernel, by decide⟩
theorem mf_X6_readDay : MF yX6_readDay mi_X6_readDay 0 := ⟨mt1 4 rfl rfl, mt3 16 rfl rfl, ⟨by decide, by decide⟩, by decide +kernel, by decide⟩
theorem mf_X6_readFact : MF yX6_readFact mi_X6_readFact 3 := ⟨mt1 4 rfl rfl, mt2 216 rfl rfl, ⟨by decide, by decide⟩, by decide +kernel, by decide⟩
theorem mf_X6_readItem : MF yX6_readItem mi_X6_readItem 0 := ⟨mt1 4 rfl rfl, mt2 199 rfl rfl, ⟨by decide, by decide⟩, by decide +kernel, by decide⟩
theorem mf_X6_readRain : MF yX6_readRain mi_X6_readRain 0 := ⟨mt1 4 rfl rfl, mt3 33 rfl rfl, ⟨by decide, by decide⟩, by decide +kernel, by decide⟩
theorem mf_X6_readThing : MF yX6_readThing mi_X6_readThing 0 := ⟨mt1 4 rfl rfl, mt2 203 rfl rfl, ⟨by decide, by decide⟩, by decide +kernel, by decide⟩
theorem mf_X6_readWant : MF yX6_readWant mi_X6_readWant 2 := ⟨mt1 4 rfl rfl, mt3 24 rfl rfl, ⟨by decide, by decide⟩, by decide +kernel, by decide⟩
theorem mf_X6_split : MF yX6_split mi_X6_split 0 := ⟨mt1 4 rfl rfl, mt2 85 rfl rfl, ⟨by decide, by decide⟩, by decide +kernel, by decide⟩
theorem mf_X6_startOfNext : MF yX6_startOfNext mi_X6_startOfNext 0 := ⟨mt1 4 rfl rfl, mt3 53 rfl rfl, ⟨by decide, by decide⟩, by decide +kernel, by decide⟩
theorem mf_X6_take : MF yX6_take mi_X6_take 1 := ⟨mt1 4 rfl rfl, mt2 228 rfl rfl, ⟨by decide, by decide⟩, by decide +kernel, by decide⟩
theorem mf_X6_takeNumber : MF yX6_takeNumber mi_X6_takeNumber 2 := ⟨mt1 4 rfl rfl, mt2 220 rfl rfl, ⟨by decide, by decide⟩, by decide +kernel, by decide⟩
theorem mf_X6_wordCode : MF yX6_wordCode mi_X6_wordCode 2 := ⟨mt1 4 rfl rfl, mt2 118 rfl rfl, ⟨by decide, by decide⟩, by decide +kernel, by decide⟩
theorem mf_X7_add : MF yX7_add mi_X7_add 1 := ⟨mt1 2 rfl rfl, mt2 61 rfl rfl, ⟨by decide, by decide⟩, by decide +kernel, by decide⟩
theorem mf_X7_at : MF yX7_at mi_X7_at 1 := ⟨mt1 2 rfl rfl, mt2 94 rfl rfl, ⟨by decide, by decide⟩, by decide +kernel, by decide⟩
theorem mf_X7_empty : MF yX7_empty mi_X7_empty 0 := ⟨mt1 2 rfl rfl, mt2 73 rfl rfl, ⟨by decide, by decide⟩, by decide +kernel, by decide⟩
theorem mf_X7_hasRoom : MF yX7_hasRoom mi_X7_hasRoom 1 := ⟨mt1 2 rfl rfl, mt2 57 rfl rfl, ⟨by decide, by decide⟩, by decide +kernel, by decide⟩
theorem mf_X7_length : MF yX7_length mi_X7_length 0 := ⟨mt1 2 rfl rfl, mt2 65 rfl rfl, ⟨by decide, by decide⟩, by decide +kernel, by decide⟩
theorem mf_X8_allThings : MF yX8_allThings mi_X8_allThings 0 := ⟨mt1 3 rfl rfl, mt3 64 rfl rfl, ⟨by decide, by decide⟩, by decide +kernel, by decide⟩
theorem mf_X8_bottoms : MF yX8_bottoms mi_X8_bottoms 0 := ⟨mt1 3 rfl rfl, mt3 144 rfl rfl, ⟨by decide, by decide⟩, by decide +kernel, by decide⟩
theorem mf_X8_closeDay : MF yX8_closeDay mi_X8_closeDay 0 := ⟨mt1 3 rfl rfl, mt3 48 rfl rfl, ⟨by decide, by decide⟩, by decide +kernel, by decide⟩
theorem mf_X8_closeThing : MF yX8_closeThing mi_X8_closeThing 0 := ⟨mt1 3 rfl rfl, mt2 236 rfl rfl, ⟨by decide, by decide⟩, by decide +kernel, by decide⟩
theorem mf_X8_coats : MF yX8_coats mi_X8_coats 0 := ⟨mt1 3 rfl rfl, mt3 187 rfl rfl, ⟨by decide, by decide⟩, by decide +kernel, by decide⟩
theorem mf_X8_copy : MF yX8_copy mi_X8_copy 1 := ⟨mt1 3 rfl rfl, mt3 57 rfl rfl, ⟨by decide, by decide⟩, by decide +kernel, by decide⟩
theorem mf_X8_days : MF yX8_days mi_X8_days 0 := ⟨mt1 3 rfl rfl, mt3 159 rfl rfl, ⟨by decide, by decide⟩, by decide +kernel, by decide⟩
theorem mf_X8_empty : MF yX8_empty mi_X8_empty 0 := ⟨mt1 3 rfl rfl, mt2 186 rfl rfl, ⟨by decide, by decide⟩, by decide +kernel, by decide⟩
theorem mf_X8_fact : MF yX8_fact mi_X8_fact 2 := ⟨mt1 3 rfl rfl, mt3 92 rfl rfl, ⟨by decide, by decide⟩, by decide +kernel, by decide⟩
theorem mf_X8_hasDay : MF yX8_hasDay mi_X8_hasDay 1 := ⟨mt1 3 rfl rfl, mt3 108 rfl rfl, ⟨by decide, by decide⟩, by decide +kernel, by decide⟩
theorem mf_X8_hasRoomForDay : MF yX8_hasRoomForDay mi_X8_hasRoomForDay 0 := ⟨mt1 3 rfl rfl, mt3 20 rfl rfl, ⟨by decide, by decide⟩, by decide +kernel, by decide⟩
theorem mf_X8_hasRoomForThing : MF yX8_hasRoomForThing mi_X8_hasRoomForThing 0 := ⟨mt1 3 rfl rfl, mt2 207 rfl rfl, ⟨by decide, by decide⟩, by decide +kernel, by decide⟩
theorem mf_X8_hasThing : MF yX8_hasThing mi_X8_hasThing 1 := ⟨mt1 3 rfl rfl, mt3 12 rfl rfl, ⟨by decide, by decide⟩, by decide +kernel, by decide⟩
theorem mf_X8_isReady : MF yX8_isReady mi_X8_isReady 2 := ⟨mt1 3 rfl rfl, mt3 165 rfl rfl, ⟨by decide, by decide⟩, by decide +kernel, by decide⟩
theorem mf_X8_morning : MF yX8_morning mi_X8_morning 5 := ⟨mt1 3 rfl rfl, mt3 191 rfl rfl, ⟨by decide, by decide⟩, by decide +kernel, by decide⟩
theorem mf_X8_setApart : MF yX8_setApart mi_X8_setApart 2 := ⟨mt1 3 rfl rfl, mt3 8 rfl rfl, ⟨by decide, by decide⟩, by decide +kernel, by decide⟩
theorem mf_X8_setFact : MF yX8_setFact mi_X8_setFact 2 := ⟨mt1 3 rfl rfl, mt2 211 rfl rfl, ⟨by decide, by decide⟩, by decide +kernel, by decide⟩
theorem mf_X8_setWant : MF yX8_setWant mi_X8_setWant 2 := ⟨mt1 3 rfl rfl, mt3 28 rfl rfl, ⟨by decide, by decide⟩, by decide +kernel, by decide⟩
theorem mf_X8_suits : MF yX8_suits mi_X8_suits 4 := ⟨mt1 3 rfl rfl, mt3 177 rfl rfl, ⟨by decide, by decide⟩, by decide +kernel, by decide⟩
theorem mf_X8_sum : MF yX8_sum mi_X8_sum 2 := ⟨mt1 3 rfl rfl, mt4 50 rfl rfl, ⟨by decide, by decide⟩, by decide +kernel, by decide⟩
theorem mf_X8_things : MF yX8_things mi_X8_things 0 := ⟨mt1 3 rfl rfl, mt3 4 rfl rfl, ⟨by decide, by decide⟩, by decide +kernel, by decide⟩
theorem mf_X8_together : MF yX8_together mi_X8_together 2 := ⟨mt1 3 rfl rfl, mt3 100 rfl rfl, ⟨by decide, by decide⟩, by decide +kernel, by decide⟩
theorem mf_X8_tops : MF yX8_tops mi_X8_tops 0 := ⟨mt1 3 rfl rfl, mt3 137 rfl rfl, ⟨by decide, by decide⟩, by decide +kernel, by decide⟩
theorem mf_X8_unsureDays : MF yX8_unsureDays mi_X8_unsureDays 0 := ⟨mt1 3 rfl rfl, mt3 40 rfl rfl, ⟨by decide, by decide⟩, by decide +kernel, by decide⟩
theorem mf_X8_want : MF yX8_want mi_X8_want 2 := ⟨mt1 3 rfl rfl, mt3 112 rfl rfl, ⟨by decide, by decide⟩, by decide +kernel, by decide⟩
theorem mf_X8_warmestCoat : MF yX8_warmestCoat mi_X8_warmestCoat 1 := ⟨mt1 3 rfl rfl, mt3 171 rfl rfl, ⟨by decide, by decide⟩, by decide +kernel, by decide⟩
theorem mf_X8_worn : MF yX8_worn mi_X8_worn 3 := ⟨mt1 3 rfl rfl, mt3 195 rfl rfl, ⟨by decide, by decide⟩, by decide +kernel, by decide⟩
theorem mf_X9_has : MF yX9_has mi_X9_has 2 := ⟨mt1 1 rfl rfl, mt3 140 rfl rfl, ⟨by decide, by decide⟩, by decide +kernel, by decide⟩
theorem mf_X9_imageAt : MF yX9_imageAt mi_X9_imageAt 1 := ⟨mt1 1 rfl rfl, mt5 7 rfl rfl, ⟨by decide, by decide⟩, by decide +kernel, by decide⟩
theorem mf_X9_isBit : MF yX9_isBit mi_X9_isBit 1 := ⟨mt1 1 rfl rfl, mt3 147 rfl rfl, ⟨by decide, by decide⟩, by decide +kernel, by decide⟩
theorem mf_X9_isUnsure : MF yX9_isUnsure mi_X9_isUnsure 1 := ⟨mt1 1 rfl rfl, mt3 36 rfl rfl, ⟨by decide, by decide⟩, by decide +kernel, by decide⟩
theorem mf_X9_stateOf : MF yX9_stateOf mi_X9_stateOf 2 := ⟨mt1 1 rfl rfl, mt3 88 rfl rfl, ⟨by decide, by decide⟩, by decide +kernel, by decide⟩
theorem ml_X0_23 : Cond.methodLink RX0 23 yJ7_fill_53178 ∈ lw_t := mt1 171 rfl rfl
theorem ml_X0_29 : Cond.methodLink RX0 29 yX8_days ∈ lw_t := mt4 31 rfl rfl
theorem ml_X0_35 : Cond.methodLink RX0 35 yX0_chanceOf ∈ lw_t := mt4 32 rfl rfl
theorem ml_X0_39 : Cond.methodLink RX0 39 yX5_find ∈ lw_t := mt4 37 rfl rfl
theorem ml_X0_45 : Cond.methodLink RX0 45 yX8_want ∈ lw_t := mt4 36 rfl rfl
theorem ml_X0_49 : Cond.methodLink RX0 49 yX8_allThings ∈ lw_t := mt4 46 rfl rfl
theorem ml_X0_52 : Cond.methodLink RX0 52 yX8_sum ∈ lw_t := mt4 47 rfl rfl
theorem ml_X0_55 : Cond.methodLink RX0 55 yX0_chances ∈ lw_t := mt4 51 rfl rfl
theorem ml_X0_58 : Cond.methodLink RX0 58 yX8_things ∈ lw_t := mt4 60 rfl rfl
theorem ml_X0_64 : Cond.methodLink RX0 64 yJ6_bitCount_0f7a4 ∈ lw_t := mt4 91 rfl rfl
theorem ml_X0_69 : Cond.methodLink RX0 69 yX0_allMatch ∈ lw_t := mt4 135 rfl rfl
theorem ml_X0_73 : Cond.methodLink RX0 73 yX8_together ∈ lw_t := mt4 139 rfl rfl
theorem ml_X10_104 : Cond.methodLink RX10 104 yX10_meaning ∈ lw_t := mt5 164 rfl rfl
theorem ml_X10_111 : Cond.methodLink RX10 111 yX10_next ∈ lw_t := mt5 156 rfl rfl
theorem ml_X10_114 : Cond.methodLink RX10 114 yX10_due ∈ lw_t := mt5 171 rfl rfl
theorem ml_X10_118 : Cond.methodLink RX10 118 yX10_number ∈ lw_t := mt5 179 rfl rfl
theorem ml_X10_122 : Cond.methodLink RX10 122 yX10_optional ∈ lw_t := mt5 183 rfl rfl
theorem ml_X10_129 : Cond.methodLink RX10 129 yX10_readThing ∈ lw_t := mt5 175 rfl rfl
theorem ml_X10_133 : Cond.methodLink RX10 133 yX10_readDay ∈ lw_t := mt5 187 rfl rfl
theorem ml_X10_136 : Cond.methodLink RX10 136 yX10_item ∈ lw_t := mt5 167 rfl rfl
theorem ml_X10_139 : Cond.methodLink RX10 139 yX10_allThings ∈ lw_t := mt5 191 rfl rfl
theorem ml_X10_142 : Cond.methodLink RX10 142 yX10_isThing ∈ lw_t := mt5 199 rfl rfl
theorem ml_X10_145 : Cond.methodLink RX10 145 yX10_howIs ∈ lw_t := mt5 203 rfl rfl
theorem ml_X10_148 : Cond.methodLink RX10 148 yX10_of ∈ lw_t := mt5 206 rfl rfl
theorem ml_X10_151 : Cond.methodLink RX10 151 yX10_isGoing ∈ lw_t := mt5 214 rfl rfl
theorem ml_X10_155 : Cond.methodLink RX10 155 yX10_isOf ∈ lw_t := mt5 238 rfl rfl
theorem ml_X10_158 : Cond.methodLink RX10 158 yX10_warmestCoat ∈ lw_t := mt6 1 rfl rfl
theorem ml_X10_161 : Cond.methodLink RX10 161 yX10_worn ∈ lw_t := mt6 16 rfl rfl
theorem ml_X10_168 : Cond.methodLink RX10 168 yX10_mayWear ∈ lw_t := mt5 234 rfl rfl
theorem ml_X10_172 : Cond.methodLink RX10 172 yX10_isRain ∈ lw_t := mt6 44 rfl rfl
theorem ml_X10_175 : Cond.methodLink RX10 175 yX10_hasCoat ∈ lw_t := mt6 8 rfl rfl
theorem ml_X10_181 : Cond.methodLink RX10 181 yX10_isWearable ∈ lw_t := mt6 5 rfl rfl
theorem ml_X10_184 : Cond.methodLink RX10 184 yX10_behind ∈ lw_t := mt6 12 rfl rfl
theorem ml_X10_188 : Cond.methodLink RX10 188 yX10_begin ∈ lw_t := mt6 36 rfl rfl
theorem ml_X10_191 : Cond.methodLink RX10 191 yX10_goDay ∈ lw_t := mt6 40 rfl rfl
theorem ml_X10_195 : Cond.methodLink RX10 195 yX10_servesFrom ∈ lw_t := mt6 32 rfl rfl
theorem ml_X10_198 : Cond.methodLink RX10 198 yX10_isServing ∈ lw_t := mt6 28 rfl rfl
theorem ml_X10_201 : Cond.methodLink RX10 201 yX10_findPlan ∈ lw_t := mt6 52 rfl rfl
theorem ml_X10_204 : Cond.methodLink RX10 204 yX10_oddsOf ∈ lw_t := mt6 60 rfl rfl
theorem ml_X10_207 : Cond.methodLink RX10 207 yX10_sumOf ∈ lw_t := mt6 68 rfl rfl
theorem ml_X10_210 : Cond.methodLink RX10 210 yX10_firstDay ∈ lw_t := mt6 76 rfl rfl
theorem ml_X10_213 : Cond.methodLink RX10 213 yX10_bitsIn ∈ lw_t := mt6 88 rfl rfl
theorem ml_X10_216 : Cond.methodLink RX10 216 yX10_lay ∈ lw_t := mt6 95 rfl rfl
theorem ml_X10_219 : Cond.methodLink RX10 219 yX10_troubles ∈ lw_t := mt6 99 rfl rfl
theorem ml_X10_225 : Cond.methodLink RX10 225 yX10_common ∈ lw_t := mt6 119 rfl rfl
theorem ml_X10_228 : Cond.methodLink RX10 228 yX10_upTo ∈ lw_t := mt6 122 rfl rfl
theorem ml_X10_246 : Cond.methodLink RX10 246 yX10_copy ∈ lw_t := mt6 140 rfl rfl
theorem ml_X10_78 : Cond.methodLink RX10 78 yX10_in ∈ lw_t := mt5 144 rfl rfl
theorem ml_X10_91 : Cond.methodLink RX10 91 yX10_here ∈ lw_t := mt5 160 rfl rfl
theorem ml_X1_19 : Cond.methodLink RX1 19 yX1_asThing ∈ lw_t := mt4 209 rfl rfl
theorem ml_X1_23 : Cond.methodLink RX1 23 yX1_asOnce ∈ lw_t := mt4 214 rfl rfl
theorem ml_X1_26 : Cond.methodLink RX1 26 yX1_asSpare ∈ lw_t := mt4 219 rfl rfl
theorem ml_X1_29 : Cond.methodLink RX1 29 yX1_asDouble ∈ lw_t := mt4 224 rfl rfl
theorem ml_X1_32 : Cond.methodLink RX1 32 yX1_asBought ∈ lw_t := mt4 229 rfl rfl
theorem ml_X1_35 : Cond.methodLink RX1 35 yX1_asSingle ∈ lw_t := mt4 234 rfl rfl
theorem ml_X1_40 : Cond.methodLink RX1 40 yX8_fact ∈ lw_t := mt4 213 rfl rfl
theorem ml_X2_25 : Cond.methodLink RX2 25 yX8_days ∈ lw_t := mt3 156 rfl rfl
theorem ml_X2_31 : Cond.methodLink RX2 31 yX8_things ∈ lw_t := mt3 208 rfl rfl
theorem ml_X2_38 : Cond.methodLink RX2 38 yX2_isOver ∈ lw_t := mt3 152 rfl rfl
theorem ml_X2_42 : Cond.methodLink RX2 42 yX8_want ∈ lw_t := mt3 160 rfl rfl
theorem ml_X2_49 : Cond.methodLink RX2 49 yX8_isReady ∈ lw_t := mt3 162 rfl rfl
theorem ml_X2_52 : Cond.methodLink RX2 52 yX8_warmestCoat ∈ lw_t := mt3 168 rfl rfl
theorem ml_X2_56 : Cond.methodLink RX2 56 yX8_suits ∈ lw_t := mt3 174 rfl rfl
theorem ml_X2_60 : Cond.methodLink RX2 60 yX8_coats ∈ lw_t := mt3 184 rfl rfl
theorem ml_X2_63 : Cond.methodLink RX2 63 yX8_morning ∈ lw_t := mt3 188 rfl rfl
theorem ml_X3_25 : Cond.methodLink RX3 25 yX3_lowered ∈ lw_t := mt4 183 rfl rfl
theorem ml_X4_42 : Cond.methodLink RX4 42 yJ7_fill_53178 ∈ lw_t := mt4 105 rfl rfl
theorem ml_X4_48 : Cond.methodLink RX4 48 yX5_firstDayOf ∈ lw_t := mt4 106 rfl rfl
theorem ml_X4_54 : Cond.methodLink RX4 54 yX8_coats ∈ lw_t := mt4 107 rfl rfl
theorem ml_X4_64 : Cond.methodLink RX4 64 yX4_lay ∈ lw_t := mt4 109 rfl rfl
theorem ml_X4_74 : Cond.methodLink RX4 74 yX8_fact ∈ lw_t := mt4 114 rfl rfl
theorem ml_X4_78 : Cond.methodLink RX4 78 yX4_troubleOf ∈ lw_t := mt4 115 rfl rfl
theorem ml_X5_101 : Cond.methodLink RX5 101 yX5_livesOnWith ∈ lw_t := mt4 0 rfl rfl
theorem ml_X5_105 : Cond.methodLink RX5 105 yX8_isReady ∈ lw_t := mt4 4 rfl rfl
theorem ml_X5_108 : Cond.methodLink RX5 108 yX8_want ∈ lw_t := mt4 5 rfl rfl
theorem ml_X5_112 : Cond.methodLink RX5 112 yX8_morning ∈ lw_t := mt4 6 rfl rfl
theorem ml_X5_116 : Cond.methodLink RX5 116 yX5_reachFrom ∈ lw_t := mt4 154 rfl rfl
theorem ml_X5_125 : Cond.methodLink RX5 125 yX5_mark ∈ lw_t := mt4 158 rfl rfl
theorem ml_X5_38 : Cond.methodLink RX5 38 yX5_prepare ∈ lw_t := mt3 219 rfl rfl
theorem ml_X5_42 : Cond.methodLink RX5 42 yJ7_fill_d0a16 ∈ lw_t := mt3 229 rfl rfl
theorem ml_X5_48 : Cond.methodLink RX5 48 yX5_livesOn ∈ lw_t := mt3 232 rfl rfl
theorem ml_X5_52 : Cond.methodLink RX5 52 yX5_isDay ∈ lw_t := mt3 236 rfl rfl
theorem ml_X5_56 : Cond.methodLink RX5 56 yX8_days ∈ lw_t := mt3 227 rfl rfl
theorem ml_X5_62 : Cond.methodLink RX5 62 yX5_topOn ∈ lw_t := mt4 72 rfl rfl
theorem ml_X5_66 : Cond.methodLink RX5 66 yX5_bottomOn ∈ lw_t := mt4 73 rfl rfl
theorem ml_X5_69 : Cond.methodLink RX5 69 yX8_things ∈ lw_t := mt4 66 rfl rfl
theorem ml_X5_72 : Cond.methodLink RX5 72 yX8_coats ∈ lw_t := mt3 223 rfl rfl
theorem ml_X5_78 : Cond.methodLink RX5 78 yX5_firstDayOf ∈ lw_t := mt4 68 rfl rfl
theorem ml_X5_81 : Cond.methodLink RX5 81 yX5_reachNext ∈ lw_t := mt4 150 rfl rfl
theorem ml_X5_88 : Cond.methodLink RX5 88 yX8_tops ∈ lw_t := mt3 224 rfl rfl
theorem ml_X5_91 : Cond.methodLink RX5 91 yX8_bottoms ∈ lw_t := mt3 225 rfl rfl
theorem ml_X5_94 : Cond.methodLink RX5 94 yX8_warmestCoat ∈ lw_t := mt3 226 rfl rfl
theorem ml_X5_97 : Cond.methodLink RX5 97 yX8_suits ∈ lw_t := mt3 228 rfl rfl
theorem ml_X6_113 : Cond.methodLink RX6 113 yJ0_length_8abf5 ∈ lw_t := mt2 124 rfl rfl
theorem ml_X6_116 : Cond.methodLink RX6 116 yJ0_charAt_5068e ∈ lw_t := mt2 134 rfl rfl
theorem ml_X6_120 : Cond.methodLink RX6 120 yX6_readThing ∈ lw_t := mt2 200 rfl rfl
theorem ml_X6_123 : Cond.methodLink RX6 123 yX6_readClothes ∈ lw_t := mt2 221 rfl rfl
theorem ml_X6_126 : Cond.methodLink RX6 126 yX6_take ∈ lw_t := mt2 225 rfl rfl
theorem ml_X6_129 : Cond.methodLink RX6 129 yX6_closeThing ∈ lw_t := mt2 229 rfl rfl
theorem ml_X6_132 : Cond.methodLink RX6 132 yX6_readApart ∈ lw_t := mt2 237 rfl rfl
theorem ml_X6_135 : Cond.methodLink RX6 135 yX6_readDay ∈ lw_t := mt3 13 rfl rfl
theorem ml_X6_138 : Cond.methodLink RX6 138 yX6_closeDay ∈ lw_t := mt3 41 rfl rfl
theorem ml_X6_141 : Cond.methodLink RX6 141 yX8_closeThing ∈ lw_t := mt2 233 rfl rfl
theorem ml_X6_143 : Cond.methodLink RX6 143 yX8_closeDay ∈ lw_t := mt3 45 rfl rfl
theorem ml_X6_145 : Cond.methodLink RX6 145 yX8_hasRoomForThing ∈ lw_t := mt2 204 rfl rfl
theorem ml_X6_148 : Cond.methodLink RX6 148 yX6_codeOfNext ∈ lw_t := mt2 192 rfl rfl
theorem ml_X6_151 : Cond.methodLink RX6 151 yX8_setFact ∈ lw_t := mt2 208 rfl rfl
theorem ml_X6_154 : Cond.methodLink RX6 154 yX6_readFact ∈ lw_t := mt2 213 rfl rfl
theorem ml_X6_158 : Cond.methodLink RX6 158 yX6_takeNumber ∈ lw_t := mt2 217 rfl rfl
theorem ml_X6_165 : Cond.methodLink RX6 165 yX8_things ∈ lw_t := mt3 1 rfl rfl
theorem ml_X6_168 : Cond.methodLink RX6 168 yX8_setApart ∈ lw_t := mt3 5 rfl rfl
theorem ml_X6_171 : Cond.methodLink RX6 171 yX8_hasRoomForDay ∈ lw_t := mt3 17 rfl rfl
theorem ml_X6_174 : Cond.methodLink RX6 174 yX6_readWant ∈ lw_t := mt3 21 rfl rfl
theorem ml_X6_177 : Cond.methodLink RX6 177 yX8_setWant ∈ lw_t := mt3 25 rfl rfl
theorem ml_X6_180 : Cond.methodLink RX6 180 yX6_readRain ∈ lw_t := mt3 30 rfl rfl
theorem ml_X6_186 : Cond.methodLink RX6 186 yX8_unsureDays ∈ lw_t := mt3 37 rfl rfl
theorem ml_X6_28 : Cond.methodLink RX6 28 yX6_split ∈ lw_t := mt2 82 rfl rfl
theorem ml_X6_31 : Cond.methodLink RX6 31 yX8_empty ∈ lw_t := mt2 183 rfl rfl
theorem ml_X6_40 : Cond.methodLink RX6 40 yX6_isNext ∈ lw_t := mt2 188 rfl rfl
theorem ml_X6_44 : Cond.methodLink RX6 44 yX6_readItem ∈ lw_t := mt2 196 rfl rfl
theorem ml_X6_48 : Cond.methodLink RX6 48 yX6_startOfNext ∈ lw_t := mt3 50 rfl rfl
theorem ml_X6_55 : Cond.methodLink RX6 55 yX7_length ∈ lw_t := mt2 86 rfl rfl
theorem ml_X6_58 : Cond.methodLink RX6 58 yX6_endOf ∈ lw_t := mt2 87 rfl rfl
theorem ml_X6_68 : Cond.methodLink RX6 68 yX7_at ∈ lw_t := mt2 91 rfl rfl
theorem ml_X6_71 : Cond.methodLink RX6 71 yX6_codeOf ∈ lw_t := mt2 104 rfl rfl
theorem ml_X6_74 : Cond.methodLink RX6 74 yX6_addToken ∈ lw_t := mt2 179 rfl rfl
theorem ml_X6_78 : Cond.methodLink RX6 78 yX6_isDigit ∈ lw_t := mt2 95 rfl rfl
theorem ml_X6_81 : Cond.methodLink RX6 81 yX6_isLetter ∈ lw_t := mt2 98 rfl rfl
theorem ml_X6_84 : Cond.methodLink RX6 84 yX6_numberCode ∈ lw_t := mt2 108 rfl rfl
theorem ml_X6_87 : Cond.methodLink RX6 87 yX6_wordCode ∈ lw_t := mt2 115 rfl rfl
theorem ml_X6_95 : Cond.methodLink RX6 95 yX6_isWord ∈ lw_t := mt2 120 rfl rfl
theorem ml_X8_21 : Cond.methodLink RX8 21 yJ7_fill_53178 ∈ lw_t := mt2 187 rfl rfl
theorem ml_X8_58 : Cond.methodLink RX8 58 yX8_hasRoomForThing ∈ lw_t := mt2 212 rfl rfl
theorem ml_X8_62 : Cond.methodLink RX8 62 yX8_hasRoomForDay ∈ lw_t := mt3 29 rfl rfl
theorem ml_X8_69 : Cond.methodLink RX8 69 yX8_hasThing ∈ lw_t := mt3 9 rfl rfl
theorem ml_X8_72 : Cond.methodLink RX8 72 yX8_hasDay ∈ lw_t := mt3 113 rfl rfl
theorem ml_X8_79 : Cond.methodLink RX8 79 yX8_fact ∈ lw_t := mt3 172 rfl rfl
theorem ml_X8_88 : Cond.methodLink RX8 88 yX8_want ∈ lw_t := mt3 178 rfl rfl
theorem ml_X8_91 : Cond.methodLink RX8 91 yX8_together ∈ lw_t := mt3 179 rfl rfl
theorem ml_X8_97 : Cond.methodLink RX8 97 yX8_worn ∈ lw_t := mt3 192 rfl rfl
theorem ml_X9_103 : Cond.methodLink RX9 103 yX7_empty ∈ lw_t := mt2 70 rfl rfl
theorem ml_X9_106 : Cond.methodLink RX9 106 yX6_read ∈ lw_t := mt2 78 rfl rfl
theorem ml_X9_109 : Cond.methodLink RX9 109 yX8_copy ∈ lw_t := mt3 54 rfl rfl
theorem ml_X9_112 : Cond.methodLink RX9 112 yX8_allThings ∈ lw_t := mt3 61 rfl rfl
theorem ml_X9_115 : Cond.methodLink RX9 115 yX2_start ∈ lw_t := mt3 65 rfl rfl
theorem ml_X9_118 : Cond.methodLink RX9 118 yX2_forget ∈ lw_t := mt3 69 rfl rfl
theorem ml_X9_121 : Cond.methodLink RX9 121 yX0_forget ∈ lw_t := mt3 73 rfl rfl
theorem ml_X9_122 : Cond.methodLink RX9 122 yX8_hasThing ∈ lw_t := mt3 81 rfl rfl
theorem ml_X9_125 : Cond.methodLink RX9 125 yX2_how ∈ lw_t := mt3 82 rfl rfl
theorem ml_X9_128 : Cond.methodLink RX9 128 yX9_stateOf ∈ lw_t := mt3 86 rfl rfl
theorem ml_X9_132 : Cond.methodLink RX9 132 yX8_fact ∈ lw_t := mt3 89 rfl rfl
theorem ml_X9_135 : Cond.methodLink RX9 135 yX8_together ∈ lw_t := mt3 97 rfl rfl
theorem ml_X9_139 : Cond.methodLink RX9 139 yX8_hasDay ∈ lw_t := mt3 105 rfl rfl
theorem ml_X9_142 : Cond.methodLink RX9 142 yX8_want ∈ lw_t := mt3 109 rfl rfl
theorem ml_X9_151 : Cond.methodLink RX9 151 yX2_set ∈ lw_t := mt3 126 rfl rfl
theorem ml_X9_154 : Cond.methodLink RX9 154 yX8_tops ∈ lw_t := mt3 134 rfl rfl
theorem ml_X9_157 : Cond.methodLink RX9 157 yX9_has ∈ lw_t := mt3 138 rfl rfl
theorem ml_X9_160 : Cond.methodLink RX9 160 yX8_bottoms ∈ lw_t := mt3 141 rfl rfl
theorem ml_X9_163 : Cond.methodLink RX9 163 yX9_isBit ∈ lw_t := mt3 145 rfl rfl
theorem ml_X9_166 : Cond.methodLink RX9 166 yX2_mayWear ∈ lw_t := mt3 148 rfl rfl
theorem ml_X9_170 : Cond.methodLink RX9 170 yX2_wear ∈ lw_t := mt3 180 rfl rfl
theorem ml_X9_174 : Cond.methodLink RX9 174 yX2_date ∈ lw_t := mt3 196 rfl rfl
theorem ml_X9_177 : Cond.methodLink RX9 177 yX2_fresh ∈ lw_t := mt3 204 rfl rfl
theorem ml_X9_181 : Cond.methodLink RX9 181 yX2_isOver ∈ lw_t := mt3 210 rfl rfl
theorem ml_X9_185 : Cond.methodLink RX9 185 yX5_find ∈ lw_t := mt3 215 rfl rfl
theorem ml_X9_188 : Cond.methodLink RX9 188 yX5_topOn ∈ lw_t := mt4 11 rfl rfl
theorem ml_X9_192 : Cond.methodLink RX9 192 yX5_bottomOn ∈ lw_t := mt4 15 rfl rfl
theorem ml_X9_195 : Cond.methodLink RX9 195 yX5_washOn ∈ lw_t := mt4 19 rfl rfl
theorem ml_X9_198 : Cond.methodLink RX9 198 yX0_chances ∈ lw_t := mt4 27 rfl rfl
theorem ml_X9_201 : Cond.methodLink RX9 201 yX0_smallest ∈ lw_t := mt4 42 rfl rfl
theorem ml_X9_204 : Cond.methodLink RX9 204 yX0_spares ∈ lw_t := mt4 56 rfl rfl
theorem ml_X9_207 : Cond.methodLink RX9 207 yX5_neverOn ∈ lw_t := mt4 62 rfl rfl
theorem ml_X9_210 : Cond.methodLink RX9 210 yX0_purchase ∈ lw_t := mt4 78 rfl rfl
theorem ml_X9_213 : Cond.methodLink RX9 213 yX8_sum ∈ lw_t := mt4 82 rfl rfl
theorem ml_X9_216 : Cond.methodLink RX9 216 yX0_takenOff ∈ lw_t := mt4 87 rfl rfl
theorem ml_X9_220 : Cond.methodLink RX9 220 yX4_arrange ∈ lw_t := mt4 101 rfl rfl
theorem ml_X9_224 : Cond.methodLink RX9 224 yX4_trouble ∈ lw_t := mt4 119 rfl rfl
theorem ml_X9_227 : Cond.methodLink RX9 227 yX4_layerOf ∈ lw_t := mt4 123 rfl rfl
theorem ml_X9_230 : Cond.methodLink RX9 230 yX0_largestMatch ∈ lw_t := mt4 131 rfl rfl
theorem ml_X9_233 : Cond.methodLink RX9 233 yJ6_bitCount_0f7a4 ∈ lw_t := mt4 140 rfl rfl
theorem ml_X9_238 : Cond.methodLink RX9 238 yX8_days ∈ lw_t := mt4 145 rfl rfl
theorem ml_X9_241 : Cond.methodLink RX9 241 yX5_times ∈ lw_t := mt4 146 rfl rfl
theorem ml_X9_244 : Cond.methodLink RX9 244 yX3_add ∈ lw_t := mt4 167 rfl rfl
theorem ml_X9_246 : Cond.methodLink RX9 246 yX3_size ∈ lw_t := mt4 171 rfl rfl
theorem ml_X9_249 : Cond.methodLink RX9 249 yX3_wasteUpper ∈ lw_t := mt4 179 rfl rfl
theorem ml_X9_252 : Cond.methodLink RX9 252 yX3_wasteLower ∈ lw_t := mt4 187 rfl rfl
theorem ml_X9_255 : Cond.methodLink RX9 255 yX3_onAt ∈ lw_t := mt4 192 rfl rfl
theorem ml_X9_258 : Cond.methodLink RX9 258 yX1_isKind ∈ lw_t := mt4 200 rfl rfl
theorem ml_X9_262 : Cond.methodLink RX9 262 yX1_ask ∈ lw_t := mt4 205 rfl rfl
theorem ml_X9_265 : Cond.methodLink RX9 265 yX9_imageAt ∈ lw_t := mt5 4 rfl rfl
theorem ml_X9_269 : Cond.methodLink RX9 269 yX2_copy ∈ lw_t := mt5 8 rfl rfl
theorem ml_X9_272 : Cond.methodLink RX9 272 yX2_isKept ∈ lw_t := mt5 16 rfl rfl
theorem ml_X9_276 : Cond.methodLink RX9 276 yX8_things ∈ lw_t := mt5 24 rfl rfl
theorem ml_X9_279 : Cond.methodLink RX9 279 yX1_asked ∈ lw_t := mt5 29 rfl rfl
theorem ml_X9_91 : Cond.methodLink RX9 91 yX7_hasRoom ∈ lw_t := mt2 54 rfl rfl
theorem ml_X9_95 : Cond.methodLink RX9 95 yX7_add ∈ lw_t := mt2 58 rfl rfl
theorem ml_X9_99 : Cond.methodLink RX9 99 yX7_length ∈ lw_t := mt2 62 rfl rfl
theorem mn_X3_29 : Cond.methodLink RX3 29 Lib.Math.max.name ∈ lw_t ∧ Cond.static Lib.Math.max.name ∈ lw_t ∧ Cond.initialized "java/lang/Math" ∈ lw_t ∧ Cond.code Lib.Math.max.name Lib.Math.max.code 2 (some .int) ∈ lw_t := ⟨mt4 191 rfl rfl, mt2 102 rfl rfl, mt1 13 rfl rfl, mt2 103 rfl rfl⟩
theorem mn_X4_68 : Cond.methodLink RX4 68 arraycopyName ∈ lw_t ∧ Cond.native arraycopyName ∈ lw_t ∧ Cond.static arraycopyName ∈ lw_t ∧ Cond.initialized "java/lang/System" ∈ lw_t := ⟨mt4 113 rfl rfl, mt3 60 rfl rfl, mt3 59 rfl rfl, mt1 18 rfl rfl⟩
theorem mn_X5_119 : Cond.methodLink RX5 119 arraycopyName ∈ lw_t ∧ Cond.native arraycopyName ∈ lw_t ∧ Cond.static arraycopyName ∈ lw_t ∧ Cond.initialized "java/lang/System" ∈ lw_t := ⟨mt4 162 rfl rfl, mt3 60 rfl rfl, mt3 59 rfl rfl, mt1 18 rfl rfl⟩
theorem mn_X6_62 : Cond.methodLink RX6 62 Lib.Math.max.name ∈ lw_t ∧ Cond.static Lib.Math.max.name ∈ lw_t ∧ Cond.initialized "java/lang/Math" ∈ lw_t ∧ Cond.code Lib.Math.max.name Lib.Math.max.code 2 (some .int) ∈ lw_t := ⟨mt2 101 rfl rfl, mt2 102 rfl rfl, mt1 13 rfl rfl, mt2 103 rfl rfl⟩
theorem mn_X6_90 : Cond.methodLink RX6 90 Lib.Math.min.name ∈ lw_t ∧ Cond.static Lib.Math.min.name ∈ lw_t ∧ Cond.initialized "java/lang/Math" ∈ lw_t ∧ Cond.code Lib.Math.min.name Lib.Math.min.code 2 (some .int) ∈ lw_t := ⟨mt2 112 rfl rfl, mt2 113 rfl rfl, mt1 13 rfl rfl, mt2 114 rfl rfl⟩
theorem mn_X8_52 : Cond.methodLink RX8 52 arraycopyName ∈ lw_t ∧ Cond.native arraycopyName ∈ lw_t ∧ Cond.static arraycopyName ∈ lw_t ∧ Cond.initialized "java/lang/System" ∈ lw_t := ⟨mt3 58 rfl rfl, mt3 60 rfl rfl, mt3 59 rfl rfl, mt1 18 rfl rfl⟩
theorem mn_X8_83 : Cond.methodLink RX8 83 Lib.Math.max.name ∈ lw_t ∧ Cond.static Lib.Math.max.name ∈ lw_t ∧ Cond.initialized "java/lang/Math" ∈ lw_t ∧ Cond.code Lib.Math.max.name Lib.Math.max.code 2 (some .int) ∈ lw_t := ⟨mt3 173 rfl rfl, mt2 102 rfl rfl, mt1 13 rfl rfl, mt2 103 rfl rfl⟩
theorem ms_J6_bitCount_0f7a4 : Cond.static yJ6_bitCount_0f7a4 ∈ lw_t := mt4 92 rfl rfl
theorem ms_J7_fill_53178 : Cond.static yJ7_fill_53178 ∈ lw_t := mt1 172 rfl rfl
theorem ms_J7_fill_d0a16 : Cond.static yJ7_fill_d0a16 ∈ lw_t := mt3 230 rfl rfl
theorem ms_X10_bitsIn : Cond.static yX10_bitsIn ∈ lw_t := mt6 89 rfl rfl
theorem ms_X10_common : Cond.static yX10_common ∈ lw_t := mt6 120 rfl rfl
theorem ms_X10_howIs : Cond.static yX10_howIs ∈ lw_t := mt5 204 rfl rfl
theorem ms_X10_in : Cond.static yX10_in ∈ lw_t := mt5 145 rfl rfl
theorem ms_X10_isOf : Cond.static yX10_isOf ∈ lw_t := mt5 239 rfl rfl
theorem ms_X10_isWearable : Cond.static yX10_isWearable ∈ lw_t := mt6 6 rfl rfl
theorem ms_X10_meaning : Cond.static yX10_meaning ∈ lw_t := mt5 165 rfl rfl
theorem ms_X6_isDigit : Cond.static yX6_isDigit ∈ lw_t := mt2 96 rfl rfl
theorem ms_X6_isLetter : Cond.static yX6_isLetter ∈ lw_t := mt2 99 rfl rfl
theorem ms_X9_has : Cond.static yX9_has ∈ lw_t := mt3 139 rfl rfl
theorem ms_X9_isBit : Cond.static yX9_isBit ∈ lw_t := mt3 146 rfl rfl
theorem ms_X9_isUnsure : Cond.static yX9_isUnsure ∈ lw_t := mt3 35 rfl rfl
theorem ms_X9_stateOf : Cond.static yX9_stateOf ∈ lw_t := mt3 87 rfl rfl
theorem mv_X0_allMatch : MV yX0_allMatch := ⟨mt4 137 rfl rfl, mts (List.mem_of_getElem? (i := 30) rfl) rfl⟩
theorem mv_X0_chanceOf : MV yX0_chanceOf := ⟨mt4 34 rfl rfl, mts (List.mem_of_getElem? (i := 27) rfl) rfl⟩
theorem mv_X0_chances : MV yX0_chances := ⟨mt4 28 rfl rfl, mt4 29 rfl rfl⟩
theorem mv_X0_forget : MV yX0_forget := ⟨mt3 74 rfl rfl, mt3 75 rfl rfl⟩
theorem mv_X0_largestMatch : MV yX0_largestMatch := ⟨mt4 132 rfl rfl, mt4 133 rfl rfl⟩
theorem mv_X0_purchase : MV yX0_purchase := ⟨mt4 79 rfl rfl, mt4 80 rfl rfl⟩
theorem mv_X0_smallest : MV yX0_smallest := ⟨mt4 43 rfl rfl, mt4 44 rfl rfl⟩
theorem mv_X0_spares : MV yX0_spares := ⟨mt4 57 rfl rfl, mt4 58 rfl rfl⟩
theorem mv_X0_takenOff : MV yX0_takenOff := ⟨mt4 88 rfl rfl, mt4 89 rfl rfl⟩
theorem mv_X10_allThings : MV yX10_allThings := ⟨mt5 193 rfl rfl, mts (List.mem_of_getElem? (i := 50) rfl) rfl⟩
theorem mv_X10_begin : MV yX10_begin := ⟨mt6 38 rfl rfl, mts (List.mem_of_getElem? (i := 61) rfl) rfl⟩
theorem mv_X10_behind : MV yX10_behind := ⟨mt6 14 rfl rfl, mts (List.mem_of_getElem? (i := 57) rfl) rfl⟩
theorem mv_X10_copy : MV yX10_copy := ⟨mt6 142 rfl rfl, mts (List.mem_of_getElem? (i := 71) rfl) rfl⟩
theorem mv_X10_due : MV yX10_due := ⟨mt5 173 rfl rfl, mts (List.mem_of_getElem? (i := 45) rfl) rfl⟩
theorem mv_X10_findPlan : MV yX10_findPlan := ⟨mt6 54 rfl rfl, mts (List.mem_of_getElem? (i := 64) rfl) rfl⟩
theorem mv_X10_firstDay : MV yX10_firstDay := ⟨mt6 78 rfl rfl, mts (List.mem_of_getElem? (i := 67) rfl) rfl⟩
theorem mv_X10_goDay : MV yX10_goDay := ⟨mt6 42 rfl rfl, mts (List.mem_of_getElem? (i := 62) rfl) rfl⟩
theorem mv_X10_hasCoat : MV yX10_hasCoat := ⟨mt6 10 rfl rfl, mts (List.mem_of_getElem? (i := 56) rfl) rfl⟩
theorem mv_X10_here : MV yX10_here := ⟨mt5 162 rfl rfl, mts (List.mem_of_getElem? (i := 43) rfl) rfl⟩
theorem mv_X10_isGoing : MV yX10_isGoing := ⟨mt5 216 rfl rfl, mts (List.mem_of_getElem? (i := 53) rfl) rfl⟩
theorem mv_X10_isRain : MV yX10_isRain := ⟨mt6 46 rfl rfl, mts (List.mem_of_getElem? (i := 63) rfl) rfl⟩
theorem mv_X10_isServing : MV yX10_isServing := ⟨mt6 30 rfl rfl, mts (List.mem_of_getElem? (i := 59) rfl) rfl⟩
theorem mv_X10_isThing : MV yX10_isThing := ⟨mt5 201 rfl rfl, mts (List.mem_of_getElem? (i := 51) rfl) rfl⟩
theorem mv_X10_item : MV yX10_item := ⟨mt5 169 rfl rfl, mts (List.mem_of_getElem? (i := 44) rfl) rfl⟩
theorem mv_X10_lay : MV yX10_lay := ⟨mt6 97 rfl rfl, mts (List.mem_of_getElem? (i := 68) rfl) rfl⟩
theorem mv_X10_mayWear : MV yX10_mayWear := ⟨mt5 236 rfl rfl, mts (List.mem_of_getElem? (i := 54) rfl) rfl⟩
theorem mv_X10_next : MV yX10_next := ⟨mt5 158 rfl rfl, mts (List.mem_of_getElem? (i := 42) rfl) rfl⟩
theorem mv_X10_number : MV yX10_number := ⟨mt5 181 rfl rfl, mts (List.mem_of_getElem? (i := 47) rfl) rfl⟩
theorem mv_X10_oddsOf : MV yX10_oddsOf := ⟨mt6 62 rfl rfl, mts (List.mem_of_getElem? (i := 65) rfl) rfl⟩
theorem mv_X10_of : MV yX10_of := ⟨mt5 208 rfl rfl, mts (List.mem_of_getElem? (i := 52) rfl) rfl⟩
theorem mv_X10_optional : MV yX10_optional := ⟨mt5 185 rfl rfl, mts (List.mem_of_getElem? (i := 48) rfl) rfl⟩
theorem mv_X10_readDay : MV yX10_readDay := ⟨mt5 189 rfl rfl, mts (List.mem_of_getElem? (i := 49) rfl) rfl⟩
theorem mv_X10_readThing : MV yX10_readThing := ⟨mt5 177 rfl rfl, mts (List.mem_of_getElem? (i := 46) rfl) rfl⟩
theorem mv_X10_servesFrom : MV yX10_servesFrom := ⟨mt6 34 rfl rfl, mts (List.mem_of_getElem? (i := 60) rfl) rfl⟩
theorem mv_X10_sumOf : MV yX10_sumOf := ⟨mt6 70 rfl rfl, mts (List.mem_of_getElem? (i := 66) rfl) rfl⟩
theorem mv_X10_troubles : MV yX10_troubles := ⟨mt6 101 rfl rfl, mts (List.mem_of_getElem? (i := 69) rfl) rfl⟩
theorem mv_X10_upTo : MV yX10_upTo := ⟨mt6 124 rfl rfl, mts (List.mem_of_getElem? (i := 70) rfl) rfl⟩
theorem mv_X10_warmestCoat : MV yX10_warmestCoat := ⟨mt6 3 rfl rfl, mts (List.mem_of_getElem? (i := 55) rfl) rfl⟩
theorem mv_X10_worn : MV yX10_worn := ⟨mt6 18 rfl rfl, mts (List.mem_of_getElem? (i := 58) rfl) rfl⟩
theorem mv_X1_asBought : MV yX1_asBought := ⟨mt4 231 rfl rfl, mts (List.mem_of_getElem? (i := 39) rfl) rfl⟩
theorem mv_X1_asDouble : MV yX1_asDouble := ⟨mt4 226 rfl rfl, mts (List.mem_of_getElem? (i := 38) rfl) rfl⟩
theorem mv_X1_asOnce : MV yX1_asOnce := ⟨mt4 216 rfl rfl, mts (List.mem_of_getElem? (i := 36) rfl) rfl⟩
theorem mv_X1_asSingle : MV yX1_asSingle := ⟨mt4 236 rfl rfl, mts (List.mem_of_getElem? (i := 40) rfl) rfl⟩
theorem mv_X1_asSpare : MV yX1_asSpare := ⟨mt4 221 rfl rfl, mts (List.mem_of_getElem? (i := 37) rfl) rfl⟩
theorem mv_X1_asThing : MV yX1_asThing := ⟨mt4 211 rfl rfl, mts (List.mem_of_getElem? (i := 35) rfl) rfl⟩
theorem mv_X1_ask : MV yX1_ask := ⟨mt4 206 rfl rfl, mt4 207 rfl rfl⟩
theorem mv_X1_asked : MV yX1_asked := ⟨mt5 30 rfl rfl, mt5 31 rfl rfl⟩
theorem mv_X1_isKind : MV yX1_isKind := ⟨mt4 201 rfl rfl, mt4 202 rfl rfl⟩
theorem mv_X2_copy : MV yX2_copy := ⟨mt5 9 rfl rfl, mt5 10 rfl rfl⟩
theorem mv_X2_date : MV yX2_date := ⟨mt3 197 rfl rfl, mt3 198 rfl rfl⟩
theorem mv_X2_forget : MV yX2_forget := ⟨mt3 70 rfl rfl, mt3 71 rfl rfl⟩
theorem mv_X2_fresh : MV yX2_fresh := ⟨mt3 205 rfl rfl, mt3 206 rfl rfl⟩
theorem mv_X2_how : MV yX2_how := ⟨mt3 83 rfl rfl, mt3 84 rfl rfl⟩
theorem mv_X2_isKept : MV yX2_isKept := ⟨mt5 17 rfl rfl, mt5 18 rfl rfl⟩
theorem mv_X2_isOver : MV yX2_isOver := ⟨mt3 153 rfl rfl, mt3 154 rfl rfl⟩
theorem mv_X2_mayWear : MV yX2_mayWear := ⟨mt3 149 rfl rfl, mt3 150 rfl rfl⟩
theorem mv_X2_set : MV yX2_set := ⟨mt3 127 rfl rfl, mt3 128 rfl rfl⟩
theorem mv_X2_start : MV yX2_start := ⟨mt3 66 rfl rfl, mt3 67 rfl rfl⟩
theorem mv_X2_wear : MV yX2_wear := ⟨mt3 181 rfl rfl, mt3 182 rfl rfl⟩
theorem mv_X3_add : MV yX3_add := ⟨mt4 168 rfl rfl, mt4 169 rfl rfl⟩
theorem mv_X3_lowered : MV yX3_lowered := ⟨mt4 185 rfl rfl, mts (List.mem_of_getElem? (i := 34) rfl) rfl⟩
theorem mv_X3_onAt : MV yX3_onAt := ⟨mt4 193 rfl rfl, mt4 194 rfl rfl⟩
theorem mv_X3_size : MV yX3_size := ⟨mt4 172 rfl rfl, mt4 173 rfl rfl⟩
theorem mv_X3_wasteLower : MV yX3_wasteLower := ⟨mt4 188 rfl rfl, mt4 189 rfl rfl⟩
theorem mv_X3_wasteUpper : MV yX3_wasteUpper := ⟨mt4 180 rfl rfl, mt4 181 rfl rfl⟩
theorem mv_X4_arrange : MV yX4_arrange := ⟨mt4 102 rfl rfl, mt4 103 rfl rfl⟩
theorem mv_X4_lay : MV yX4_lay := ⟨mt4 111 rfl rfl, mts (List.mem_of_getElem? (i := 28) rfl) rfl⟩
theorem mv_X4_layerOf : MV yX4_layerOf := ⟨mt4 124 rfl rfl, mt4 125 rfl rfl⟩
theorem mv_X4_trouble : MV yX4_trouble := ⟨mt4 120 rfl rfl, mt4 121 rfl rfl⟩
theorem mv_X4_troubleOf : MV yX4_troubleOf := ⟨mt4 117 rfl rfl, mts (List.mem_of_getElem? (i := 29) rfl) rfl⟩
theorem mv_X5_bottomOn : MV yX5_bottomOn := ⟨mt4 16 rfl rfl, mt4 17 rfl rfl⟩
theorem mv_X5_find : MV yX5_find := ⟨mt3 216 rfl rfl, mt3 217 rfl rfl⟩
theorem mv_X5_firstDayOf : MV yX5_firstDayOf := ⟨mt4 69 rfl rfl, mt4 70 rfl rfl⟩
theorem mv_X5_isDay : MV yX5_isDay := ⟨mt3 238 rfl rfl, mts (List.mem_of_getElem? (i := 25) rfl) rfl⟩
theorem mv_X5_livesOn : MV yX5_livesOn := ⟨mt3 234 rfl rfl, mts (List.mem_of_getElem? (i := 24) rfl) rfl⟩
theorem mv_X5_livesOnWith : MV yX5_livesOnWith := ⟨mt4 2 rfl rfl, mts (List.mem_of_getElem? (i := 26) rfl) rfl⟩
theorem mv_X5_mark : MV yX5_mark := ⟨mt4 160 rfl rfl, mts (List.mem_of_getElem? (i := 33) rfl) rfl⟩
theorem mv_X5_neverOn : MV yX5_neverOn := ⟨mt4 63 rfl rfl, mt4 64 rfl rfl⟩
theorem mv_X5_prepare : MV yX5_prepare := ⟨mt3 221 rfl rfl, mts (List.mem_of_getElem? (i := 23) rfl) rfl⟩
theorem mv_X5_reachFrom : MV yX5_reachFrom := ⟨mt4 156 rfl rfl, mts (List.mem_of_getElem? (i := 32) rfl) rfl⟩
theorem mv_X5_reachNext : MV yX5_reachNext := ⟨mt4 152 rfl rfl, mts (List.mem_of_getElem? (i := 31) rfl) rfl⟩
theorem mv_X5_times : MV yX5_times := ⟨mt4 147 rfl rfl, mt4 148 rfl rfl⟩
theorem mv_X5_topOn : MV yX5_topOn := ⟨mt4 12 rfl rfl, mt4 13 rfl rfl⟩
theorem mv_X5_washOn : MV yX5_washOn := ⟨mt4 20 rfl rfl, mt4 21 rfl rfl⟩
theorem mv_X6_addToken : MV yX6_addToken := ⟨mt2 181 rfl rfl, mts (List.mem_of_getElem? (i := 6) rfl) rfl⟩
theorem mv_X6_closeDay : MV yX6_closeDay := ⟨mt3 43 rfl rfl, mts (List.mem_of_getElem? (i := 20) rfl) rfl⟩
theorem mv_X6_closeThing : MV yX6_closeThing := ⟨mt2 231 rfl rfl, mts (List.mem_of_getElem? (i := 15) rfl) rfl⟩
theorem mv_X6_codeOf : MV yX6_codeOf := ⟨mt2 106 rfl rfl, mts (List.mem_of_getElem? (i := 2) rfl) rfl⟩
theorem mv_X6_codeOfNext : MV yX6_codeOfNext := ⟨mt2 194 rfl rfl, mts (List.mem_of_getElem? (i := 8) rfl) rfl⟩
theorem mv_X6_endOf : MV yX6_endOf := ⟨mt2 89 rfl rfl, mts (List.mem_of_getElem? (i := 1) rfl) rfl⟩
theorem mv_X6_isNext : MV yX6_isNext := ⟨mt2 190 rfl rfl, mts (List.mem_of_getElem? (i := 7) rfl) rfl⟩
theorem mv_X6_isWord : MV yX6_isWord := ⟨mt2 122 rfl rfl, mts (List.mem_of_getElem? (i := 5) rfl) rfl⟩
theorem mv_X6_numberCode : MV yX6_numberCode := ⟨mt2 110 rfl rfl, mts (List.mem_of_getElem? (i := 3) rfl) rfl⟩
theorem mv_X6_read : MV yX6_read := ⟨mt2 79 rfl rfl, mt2 80 rfl rfl⟩
theorem mv_X6_readApart : MV yX6_readApart := ⟨mt2 239 rfl rfl, mts (List.mem_of_getElem? (i := 16) rfl) rfl⟩
theorem mv_X6_readClothes : MV yX6_readClothes := ⟨mt2 223 rfl rfl, mts (List.mem_of_getElem? (i := 13) rfl) rfl⟩
theorem mv_X6_readDay : MV yX6_readDay := ⟨mt3 15 rfl rfl, mts (List.mem_of_getElem? (i := 17) rfl) rfl⟩
theorem mv_X6_readFact : MV yX6_readFact := ⟨mt2 215 rfl rfl, mts (List.mem_of_getElem? (i := 11) rfl) rfl⟩
theorem mv_X6_readItem : MV yX6_readItem := ⟨mt2 198 rfl rfl, mts (List.mem_of_getElem? (i := 9) rfl) rfl⟩
theorem mv_X6_readRain : MV yX6_readRain := ⟨mt3 32 rfl rfl, mts (List.mem_of_getElem? (i := 19) rfl) rfl⟩
theorem mv_X6_readThing : MV yX6_readThing := ⟨mt2 202 rfl rfl, mts (List.mem_of_getElem? (i := 10) rfl) rfl⟩
theorem mv_X6_readWant : MV yX6_readWant := ⟨mt3 23 rfl rfl, mts (List.mem_of_getElem? (i := 18) rfl) rfl⟩
theorem mv_X6_split : MV yX6_split := ⟨mt2 84 rfl rfl, mts (List.mem_of_getElem? (i := 0) rfl) rfl⟩
theorem mv_X6_startOfNext : MV yX6_startOfNext := ⟨mt3 52 rfl rfl, mts (List.mem_of_getElem? (i := 21) rfl) rfl⟩
theorem mv_X6_take : MV yX6_take := ⟨mt2 227 rfl rfl, mts (List.mem_of_getElem? (i := 14) rfl) rfl⟩
theorem mv_X6_takeNumber : MV yX6_takeNumber := ⟨mt2 219 rfl rfl, mts (List.mem_of_getElem? (i := 12) rfl) rfl⟩
theorem mv_X6_wordCode : MV yX6_wordCode := ⟨mt2 117 rfl rfl, mts (List.mem_of_getElem? (i := 4) rfl) rfl⟩
theorem mv_X7_add : MV yX7_add := ⟨mt2 59 rfl rfl, mt2 60 rfl rfl⟩
theorem mv_X7_at : MV yX7_at := ⟨mt2 92 rfl rfl, mt2 93 rfl rfl⟩
theorem mv_X7_empty : MV yX7_empty := ⟨mt2 71 rfl rfl, mt2 72 rfl rfl⟩
theorem mv_X7_hasRoom : MV yX7_hasRoom := ⟨mt2 55 rfl rfl, mt2 56 rfl rfl⟩
theorem mv_X7_length : MV yX7_length := ⟨mt2 63 rfl rfl, mt2 64 rfl rfl⟩
theorem mv_X8_allThings : MV yX8_allThings := ⟨mt3 62 rfl rfl, mt3 63 rfl rfl⟩
theorem mv_X8_bottoms : MV yX8_bottoms := ⟨mt3 142 rfl rfl, mt3 143 rfl rfl⟩
theorem mv_X8_closeDay : MV yX8_closeDay := ⟨mt3 46 rfl rfl, mt3 47 rfl rfl⟩
theorem mv_X8_closeThing : MV yX8_closeThing := ⟨mt2 234 rfl rfl, mt2 235 rfl rfl⟩
theorem mv_X8_coats : MV yX8_coats := ⟨mt3 185 rfl rfl, mt3 186 rfl rfl⟩
theorem mv_X8_copy : MV yX8_copy := ⟨mt3 55 rfl rfl, mt3 56 rfl rfl⟩
theorem mv_X8_days : MV yX8_days := ⟨mt3 157 rfl rfl, mt3 158 rfl rfl⟩
theorem mv_X8_empty : MV yX8_empty := ⟨mt2 184 rfl rfl, mt2 185 rfl rfl⟩
theorem mv_X8_fact : MV yX8_fact := ⟨mt3 90 rfl rfl, mt3 91 rfl rfl⟩
theorem mv_X8_hasDay : MV yX8_hasDay := ⟨mt3 106 rfl rfl, mt3 107 rfl rfl⟩
theorem mv_X8_hasRoomForDay : MV yX8_hasRoomForDay := ⟨mt3 18 rfl rfl, mt3 19 rfl rfl⟩
theorem mv_X8_hasRoomForThing : MV yX8_hasRoomForThing := ⟨mt2 205 rfl rfl, mt2 206 rfl rfl⟩
theorem mv_X8_hasThing : MV yX8_hasThing := ⟨mt3 10 rfl rfl, mt3 11 rfl rfl⟩
theorem mv_X8_isReady : MV yX8_isReady := ⟨mt3 163 rfl rfl, mt3 164 rfl rfl⟩
theorem mv_X8_morning : MV yX8_morning := ⟨mt3 189 rfl rfl, mt3 190 rfl rfl⟩
theorem mv_X8_setApart : MV yX8_setApart := ⟨mt3 6 rfl rfl, mt3 7 rfl rfl⟩
theorem mv_X8_setFact : MV yX8_setFact := ⟨mt2 209 rfl rfl, mt2 210 rfl rfl⟩
theorem mv_X8_setWant : MV yX8_setWant := ⟨mt3 26 rfl rfl, mt3 27 rfl rfl⟩
theorem mv_X8_suits : MV yX8_suits := ⟨mt3 175 rfl rfl, mt3 176 rfl rfl⟩
theorem mv_X8_sum : MV yX8_sum := ⟨mt4 48 rfl rfl, mt4 49 rfl rfl⟩
theorem mv_X8_things : MV yX8_things := ⟨mt3 2 rfl rfl, mt3 3 rfl rfl⟩
theorem mv_X8_together : MV yX8_together := ⟨mt3 98 rfl rfl, mt3 99 rfl rfl⟩
theorem mv_X8_tops : MV yX8_tops := ⟨mt3 135 rfl rfl, mt3 136 rfl rfl⟩
theorem mv_X8_unsureDays : MV yX8_unsureDays := ⟨mt3 38 rfl rfl, mt3 39 rfl rfl⟩
theorem mv_X8_want : MV yX8_want := ⟨mt3 110 rfl rfl, mt3 111 rfl rfl⟩
theorem mv_X8_warmestCoat : MV yX8_warmestCoat := ⟨mt3 169 rfl rfl, mt3 170 rfl rfl⟩
theorem mv_X8_worn : MV yX8_worn := ⟨mt3 194 rfl rfl, mts (List.mem_of_getElem? (i := 22) rfl) rfl⟩
theorem mv_X9_imageAt : MV yX9_imageAt := ⟨mt5 6 rfl rfl, mts (List.mem_of_getElem? (i := 41) rfl) rfl⟩
theorem nl_X0_61 : (RX0, 61, yX9_has, RX9) ∈ nestL := List.mem_of_getElem? (i := 6) rfl
theorem nl_X2_34 : (RX2, 34, yX9_stateOf, RX9) ∈ nestL := List.mem_of_getElem? (i := 5) rfl
theorem nl_X2_45 : (RX2, 45, yX9_has, RX9) ∈ nestL := List.mem_of_getElem? (i := 2) rfl
theorem nl_X4_60 : (RX4, 60, yX9_has, RX9) ∈ nestL := List.mem_of_getElem? (i := 8) rfl
theorem nl_X5_75 : (RX5, 75, yX9_has, RX9) ∈ nestL := List.mem_of_getElem? (i := 7) rfl
theorem nl_X6_183 : (RX6, 183, yX9_isUnsure, RX9) ∈ nestL := List.mem_of_getElem? (i := 0) rfl
theorem nl_X8_65 : (RX8, 65, yX9_isUnsure, RX9) ∈ nestL := List.mem_of_getElem? (i := 1) rfl
theorem nl_X8_75 : (RX8, 75, yX9_has, RX9) ∈ nestL := List.mem_of_getElem? (i := 4) rfl
theorem nl_X8_94 : (RX8, 94, yX9_stateOf, RX9) ∈ nestL := List.mem_of_getElem? (i := 3) rfl
end
section
-- part 04b: the JDK's String.length and String.charAt over the eight constants
def mi_J0_length_8abf5 : Mi := (cJ0_length_8abf5, 1, RJ0, some .int)
theorem D_J0_length_8abf5_0 : Dec mi_J0_length_8abf5 0 (.aload_n 0) 1 1 := ⟨by decide +kernel, rfl⟩
theorem D_J0_length_8abf5_1 : Dec mi_J0_length_8abf5 1 (.getfield 9) 3 4 := ⟨by decide +kernel, rfl⟩
theorem D_J0_length_8abf5_4 : Dec mi_J0_length_8abf5 4 (.arraylength) 1 5 := ⟨by decide +kernel, rfl⟩
theorem D_J0_length_8abf5_5 : Dec mi_J0_length_8abf5 5 (.aload_n 0) 1 6 := ⟨by decide +kernel, rfl⟩
theorem D_J0_length_8abf5_6 : Dec mi_J0_length_8abf5 6 (.invokevirtual 335) 3 9 := ⟨by decide +kernel, rfl⟩
theorem D_J0_length_8abf5_9 : Dec mi_J0_length_8abf5 9 (.ishr) 1 10 := ⟨by decide +kernel, rfl⟩
theorem D_J0_length_8abf5_10 : Dec mi_J0_length_8abf5 10 (.ireturn) 1 11 := ⟨by decide +kernel, rfl⟩
def mi_J0_coder_7d493 : Mi := (cJ0_coder_7d493, 1, RJ0, some .byte)
theorem D_J0_coder_7d493_0 : Dec mi_J0_coder_7d493 0 (.getstatic 38) 3 3 := ⟨by decide +kernel, rfl⟩
theorem D_J0_coder_7d493_3 : DecJ mi_J0_coder_7d493 3 (.ifCond .eq 10) (10) 6 13 := ⟨by decide +kernel, rfl, by decide⟩
theorem D_J0_coder_7d493_6 : Dec mi_J0_coder_7d493 6 (.aload_n 0) 1 7 := ⟨by decide +kernel, rfl⟩
theorem D_J0_coder_7d493_7 : Dec mi_J0_coder_7d493 7 (.getfield 15) 3 10 := ⟨by decide +kernel, rfl⟩
theorem D_J0_coder_7d493_10 : DecJ mi_J0_coder_7d493 10 (.goto 4) (4) 13 14 := ⟨by decide +kernel, rfl, by decide⟩
theorem D_J0_coder_7d493_13 : Dec mi_J0_coder_7d493 13 (.iconst 1) 1 14 := ⟨by decide +kernel, rfl⟩
theorem D_J0_coder_7d493_14 : Dec mi_J0_coder_7d493 14 (.ireturn) 1 15 := ⟨by decide +kernel, rfl⟩
def mi_J0_charAt_5068e : Mi := (cJ0_charAt_5068e, 2, RJ0, some .char)
theorem D_J0_charAt_5068e_0 : Dec mi_J0_charAt_5068e 0 (.aload_n 0) 1 1 := ⟨by decide +kernel, rfl⟩
theorem D_J0_charAt_5068e_1 : Dec mi_J0_charAt_5068e 1 (.invokevirtual 492) 3 4 := ⟨by decide +kernel, rfl⟩
theorem D_J0_charAt_5068e_4 : DecJ mi_J0_charAt_5068e 4 (.ifCond .eq 12) (12) 7 16 := ⟨by decide +kernel, rfl, by decide⟩
theorem D_J0_charAt_5068e_7 : Dec mi_J0_charAt_5068e 7 (.aload_n 0) 1 8 := ⟨by decide +kernel, rfl⟩
theorem D_J0_charAt_5068e_8 : Dec mi_J0_charAt_5068e 8 (.getfield 9) 3 11 := ⟨by decide +kernel, rfl⟩
theorem D_J0_charAt_5068e_11 : Dec mi_J0_charAt_5068e 11 (.iload_n 1) 1 12 := ⟨by decide +kernel, rfl⟩
theorem D_J0_charAt_5068e_12 : Dec mi_J0_charAt_5068e 12 (.invokestatic 495) 3 15 := ⟨by decide +kernel, rfl⟩
theorem D_J0_charAt_5068e_15 : Dec mi_J0_charAt_5068e 15 (.ireturn) 1 16 := ⟨by decide +kernel, rfl⟩
theorem D_J0_charAt_5068e_16 : Dec mi_J0_charAt_5068e 16 (.aload_n 0) 1 17 := ⟨by decide +kernel, rfl⟩
theorem D_J0_charAt_5068e_17 : Dec mi_J0_charAt_5068e 17 (.getfield 9) 3 20 := ⟨by decide +kernel, rfl⟩
theorem D_J0_charAt_5068e_20 : Dec mi_J0_charAt_5068e 20 (.iload_n 1) 1 21 := ⟨by decide +kernel, rfl⟩
theorem D_J0_charAt_5068e_21 : Dec mi_J0_charAt_5068e 21 (.invokestatic 498) 3 24 := ⟨by decide +kernel, rfl⟩
theorem D_J0_charAt_5068e_24 : Dec mi_J0_charAt_5068e 24 (.ireturn) 1 25 := ⟨by decide +kernel, rfl⟩
def mi_J0_isLatin1_aae02 : Mi := (cJ0_isLatin1_aae02, 1, RJ0, some .boolean)
theorem D_J0_isLatin1_aae02_0 : Dec mi_J0_isLatin1_aae02 0 (.getstatic 38) 3 3 := ⟨by decide +kernel, rfl⟩
theorem D_J0_isLatin1_aae02_3 : DecJ mi_J0_isLatin1_aae02 3 (.ifCond .eq 14) (14) 6 17 := ⟨by decide +kernel, rfl, by decide⟩
theorem D_J0_isLatin1_aae02_6 : Dec mi_J0_isLatin1_aae02 6 (.aload_n 0) 1 7 := ⟨by decide +kernel, rfl⟩
theorem D_J0_isLatin1_aae02_7 : Dec mi_J0_isLatin1_aae02 7 (.getfield 15) 3 10 := ⟨by decide +kernel, rfl⟩
theorem D_J0_isLatin1_aae02_10 : DecJ mi_J0_isLatin1_aae02 10 (.ifCond .ne 7) (7) 13 17 := ⟨by decide +kernel, rfl, by decide⟩
theorem D_J0_isLatin1_aae02_13 : Dec mi_J0_isLatin1_aae02 13 (.iconst 1) 1 14 := ⟨by decide +kernel, rfl⟩
theorem D_J0_isLatin1_aae02_14 : DecJ mi_J0_isLatin1_aae02 14 (.goto 4) (4) 17 18 := ⟨by decide +kernel, rfl, by decide⟩
theorem D_J0_isLatin1_aae02_17 : Dec mi_J0_isLatin1_aae02 17 (.iconst 0) 1 18 := ⟨by decide +kernel, rfl⟩
theorem D_J0_isLatin1_aae02_18 : Dec mi_J0_isLatin1_aae02 18 (.ireturn) 1 19 := ⟨by decide +kernel, rfl⟩
def mi_J0_checkIndex_df160 : Mi := (cJ0_checkIndex_df160, 2, RJ0, none)
theorem D_J0_checkIndex_df160_0 : Dec mi_J0_checkIndex_df160 0 (.iload_n 0) 1 1 := ⟨by decide +kernel, rfl⟩
theorem D_J0_checkIndex_df160_1 : Dec mi_J0_checkIndex_df160 1 (.iload_n 1) 1 2 := ⟨by decide +kernel, rfl⟩
theorem D_J0_checkIndex_df160_2 : Dec mi_J0_checkIndex_df160 2 (.getstatic 1053) 3 5 := ⟨by decide +kernel, rfl⟩
theorem D_J0_checkIndex_df160_5 : Dec mi_J0_checkIndex_df160 5 (.invokestatic 1059) 3 8 := ⟨by decide +kernel, rfl⟩
theorem D_J0_checkIndex_df160_8 : Dec mi_J0_checkIndex_df160 8 (.pop) 1 9 := ⟨by decide +kernel, rfl⟩
theorem D_J0_checkIndex_df160_9 : Dec mi_J0_checkIndex_df160 9 (.return_) 1 10 := ⟨by decide +kernel, rfl⟩
def mi_J1_charAt_3b067 : Mi := (cJ1_charAt_3b067, 2, RJ1, some .char)
theorem D_J1_charAt_3b067_0 : Dec mi_J1_charAt_3b067 0 (.iload_n 1) 1 1 := ⟨by decide +kernel, rfl⟩
theorem D_J1_charAt_3b067_1 : Dec mi_J1_charAt_3b067 1 (.aload_n 0) 1 2 := ⟨by decide +kernel, rfl⟩
theorem D_J1_charAt_3b067_2 : Dec mi_J1_charAt_3b067 2 (.arraylength) 1 3 := ⟨by decide +kernel, rfl⟩
theorem D_J1_charAt_3b067_3 : Dec mi_J1_charAt_3b067 3 (.invokestatic 9) 3 6 := ⟨by decide +kernel, rfl⟩
theorem D_J1_charAt_3b067_6 : Dec mi_J1_charAt_3b067 6 (.aload_n 0) 1 7 := ⟨by decide +kernel, rfl⟩
theorem D_J1_charAt_3b067_7 : Dec mi_J1_charAt_3b067 7 (.iload_n 1) 1 8 := ⟨by decide +kernel, rfl⟩
theorem D_J1_charAt_3b067_8 : Dec mi_J1_charAt_3b067 8 (.baload) 1 9 := ⟨by decide +kernel, rfl⟩
theorem D_J1_charAt_3b067_9 : Dec mi_J1_charAt_3b067 9 (.sipush 255) 3 12 := ⟨by decide +kernel, rfl⟩
theorem D_J1_charAt_3b067_12 : Dec mi_J1_charAt_3b067 12 (.iand) 1 13 := ⟨by decide +kernel, rfl⟩
theorem D_J1_charAt_3b067_13 : Dec mi_J1_charAt_3b067 13 (.i2c) 1 14 := ⟨by decide +kernel, rfl⟩
theorem D_J1_charAt_3b067_14 : Dec mi_J1_charAt_3b067 14 (.ireturn) 1 15 := ⟨by decide +kernel, rfl⟩
def mi_J3_checkIndex_8e157 : Mi := (cJ3_checkIndex_8e157, 3, RJ3, some .int)
theorem D_J3_checkIndex_8e157_0 : Dec mi_J3_checkIndex_8e157 0 (.iload_n 0) 1 1 := ⟨by decide +kernel, rfl⟩
theorem D_J3_checkIndex_8e157_1 : DecJ mi_J3_checkIndex_8e157 1 (.ifCond .lt 8) (8) 4 9 := ⟨by decide +kernel, rfl, by decide⟩
theorem D_J3_checkIndex_8e157_4 : Dec mi_J3_checkIndex_8e157 4 (.iload_n 0) 1 5 := ⟨by decide +kernel, rfl⟩
theorem D_J3_checkIndex_8e157_5 : Dec mi_J3_checkIndex_8e157 5 (.iload_n 1) 1 6 := ⟨by decide +kernel, rfl⟩
theorem D_J3_checkIndex_8e157_6 : DecJ mi_J3_checkIndex_8e157 6 (.if_icmp .lt 10) (10) 9 16 := ⟨by decide +kernel, rfl, by decide⟩
theorem D_J3_checkIndex_8e157_9 : Dec mi_J3_checkIndex_8e157 9 (.aload_n 2) 1 10 := ⟨by decide +kernel, rfl⟩
theorem D_J3_checkIndex_8e157_10 : Dec mi_J3_checkIndex_8e157 10 (.iload_n 0) 1 11 := ⟨by decide +kernel, rfl⟩
theorem D_J3_checkIndex_8e157_11 : Dec mi_J3_checkIndex_8e157 11 (.iload_n 1) 1 12 := ⟨by decide +kernel, rfl⟩
theorem D_J3_checkIndex_8e157_12 : Dec mi_J3_checkIndex_8e157 12 (.invokestatic 95) 3 15 := ⟨by decide +kernel, rfl⟩
theorem D_J3_checkIndex_8e157_15 : Dec mi_J3_checkIndex_8e157 15 (.athrow) 1 16 := ⟨by decide +kernel, rfl⟩
theorem D_J3_checkIndex_8e157_16 : Dec mi_J3_checkIndex_8e157 16 (.iload_n 0) 1 17 := ⟨by decide +kernel, rfl⟩
theorem D_J3_checkIndex_8e157_17 : Dec mi_J3_checkIndex_8e157 17 (.ireturn) 1 18 := ⟨by decide +kernel, rfl⟩
theorem js_cs : Cond.fieldLink RJ0 38 "java/lang/String" "COMPACT_STRINGS" "Z" ∈ lw_t := mt2 132 rfl rfl
theorem js_val : Cond.fieldLink RJ0 9 "java/lang/String" "value" "[B" ∈ lw_t := mt6 157 rfl rfl
theorem js_cod : Cond.fieldLink RJ0 15 "java/lang/String" "coder" "B" ∈ lw_t := mt6 158 rfl rfl
theorem js_fmt : Cond.fieldLink RJ0 1053 "jdk/internal/util/Preconditions" "SIOOBE_FORMATTER" "Ljava/util/function/BiFunction;" ∈ lw_t := mt2 148 rfl rfl
theorem mf_J0_charAt_5068e : MF yJ0_charAt_5068e mi_J0_charAt_5068e 1 := ⟨mt1 14 rfl rfl, mt2 137 rfl rfl, ⟨by decide, by decide⟩, by decide +kernel, by decide⟩
theorem mf_J0_checkIndex_df160 : MF yJ0_checkIndex_df160 mi_J0_checkIndex_df160 2 := ⟨mt1 14 rfl rfl, mt2 147 rfl rfl, ⟨by decide, by decide⟩, by decide +kernel, by decide⟩
theorem mf_J0_coder_7d493 : MF yJ0_coder_7d493 mi_J0_coder_7d493 0 := ⟨mt1 14 rfl rfl, mt2 131 rfl rfl, ⟨by decide, by decide⟩, by decide +kernel, by decide⟩
theorem mf_J0_isLatin1_aae02 : MF yJ0_isLatin1_aae02 mi_J0_isLatin1_aae02 0 := ⟨mt1 14 rfl rfl, mt2 141 rfl rfl, ⟨by decide, by decide⟩, by decide +kernel, by decide⟩
theorem mf_J0_length_8abf5 : MF yJ0_length_8abf5 mi_J0_length_8abf5 0 := ⟨mt1 14 rfl rfl, mt2 127 rfl rfl, ⟨by decide, by decide⟩, by decide +kernel, by decide⟩
theorem mf_J1_charAt_3b067 : MF yJ1_charAt_3b067 mi_J1_charAt_3b067 2 := ⟨mt1 15 rfl rfl, mt2 144 rfl rfl, ⟨by decide, by decide⟩, by decide +kernel, by decide⟩
theorem mf_J3_checkIndex_8e157 : MF yJ3_checkIndex_8e157 mi_J3_checkIndex_8e157 3 := ⟨mt1 16 rfl rfl, mt2 152 rfl rfl, ⟨by decide, by decide⟩, by decide +kernel, by decide⟩
theorem ml_J0_1059 : Cond.methodLink RJ0 1059 yJ3_checkIndex_8e157 ∈ lw_t := mt2 150 rfl rfl
theorem ml_J0_335 : Cond.methodLink RJ0 335 yJ0_coder_7d493 ∈ lw_t := mt2 128 rfl rfl
theorem ml_J0_492 : Cond.methodLink RJ0 492 yJ0_isLatin1_aae02 ∈ lw_t := mt2 138 rfl rfl
theorem ml_J0_495 : Cond.methodLink RJ0 495 yJ1_charAt_3b067 ∈ lw_t := mt2 142 rfl rfl
theorem ml_J1_9 : Cond.methodLink RJ1 9 yJ0_checkIndex_df160 ∈ lw_t := mt2 145 rfl rfl
theorem ms_J0_checkIndex_df160 : Cond.static yJ0_checkIndex_df160 ∈ lw_t := mt2 146 rfl rfl
theorem ms_J1_charAt_3b067 : Cond.static yJ1_charAt_3b067 ∈ lw_t := mt2 143 rfl rfl
theorem ms_J3_checkIndex_8e157 : Cond.static yJ3_checkIndex_8e157 ∈ lw_t := mt2 151 rfl rfl
theorem mv_J0_charAt_5068e : MV yJ0_charAt_5068e := ⟨mt2 135 rfl rfl, mt2 136 rfl rfl⟩
theorem mv_J0_coder_7d493 : MV yJ0_coder_7d493 := ⟨mt2 129 rfl rfl, mt2 130 rfl rfl⟩
theorem mv_J0_isLatin1_aae02 : MV yJ0_isLatin1_aae02 := ⟨mt2 139 rfl rfl, mt2 140 rfl rfl⟩
theorem mv_J0_length_8abf5 : MV yJ0_length_8abf5 := ⟨mt2 125 rfl rfl, mt2 126 rfl rfl⟩
section ROWS3
variable {l : Launch} {w : Wd} {mi : Mi} {dep : Nat} {κ : Kp} {pc n : Nat} {st : List Value} {loc : List (Option Value)} {M : Mem}
theorem r_cs {i : Nat} (hd : Dec mi pc (.getstatic i) 3 n) (hf : Cond.fieldLink mi.2.2.1 i "java/lang/String" "COMPACT_STRINGS" "Z" ∈ lw_t) (kk : RR l w mi dep κ n (.int 1 :: st) loc M) : RR l w mi dep κ pc st loc M := by
  obtain ⟨p, e, R, s, m, args, below, meth, c, cs, sl, Q⟩ := κ
  obtain ⟨hd, rfl⟩ := hd
  intro C H locs ls hl hP hS
  exact va_gets C.1.1 C.1.2.1 C.2.2.2.2.1.2.2.2.2.1.1 hS C.1.2.2.2.1 (C.1.2.2.2.2 _ hf) (fun _ h => h) hd (kk C H locs ls hl hP hS)
theorem r_fmt {i : Nat} (hd : Dec mi pc (.getstatic i) 3 n) (hf : Cond.fieldLink mi.2.2.1 i "jdk/internal/util/Preconditions" "SIOOBE_FORMATTER" "Ljava/util/function/BiFunction;" ∈ lw_t) (kk : ∀ z : Value, z.category = 1 → (z = .null ∨ ∃ t, z = .ref t) → RR l w mi dep κ n (z :: st) loc M) : RR l w mi dep κ pc st loc M := by
  obtain ⟨p, e, R, s, m, args, below, meth, c, cs, sl, Q⟩ := κ
  obtain ⟨hd, rfl⟩ := hd
  intro C H locs ls hl hP hS
  rcases C.2.2.2.2.1.2.2.2.2.1.2 with hz | ⟨t, hz⟩
  · exact va_gets C.1.1 C.1.2.1 hz hS C.1.2.2.2.1 (C.1.2.2.2.2 _ hf) (fun _ h => h) hd (kk .null rfl (Or.inl rfl) C H locs ls hl hP hS)
  · exact va_gets C.1.1 C.1.2.1 hz hS C.1.2.2.2.1 (C.1.2.2.2.2 _ hf) (fun _ h => h) hd (kk (.ref t) rfl (Or.inr ⟨t, rfl⟩) C H locs ls hl hP hS)
theorem r_sval {i j : Nat} (hj : j < 8) (hd : Dec mi pc (.getfield i) 3 n) (hf : Cond.fieldLink mi.2.2.1 i "java/lang/String" "value" "[B" ∈ lw_t) (kk : RR l w mi dep κ n (.ref (wa w (8 + j)) :: st) loc M) : RR l w mi dep κ pc (.ref (wa w j) :: st) loc M := by
  obtain ⟨p, e, R, s, m, args, below, meth, c, cs, sl, Q⟩ := κ
  obtain ⟨hd, rfl⟩ := hd
  intro C H locs ls hl hP hS
  exact vk_getf C.1.1 C.1.2.1 (C.2.2.2.2.1.1.1 j hj).2.2.1 hS C.1.2.2.2.1 (C.1.2.2.2.2 _ hf) (fun _ h => h) hd (kk C H locs ls hl hP hS)
theorem r_scod {i j : Nat} (hj : j < 8) (hd : Dec mi pc (.getfield i) 3 n) (hf : Cond.fieldLink mi.2.2.1 i "java/lang/String" "coder" "B" ∈ lw_t) (kk : RR l w mi dep κ n (.int 0 :: st) loc M) : RR l w mi dep κ pc (.ref (wa w j) :: st) loc M := by
  obtain ⟨p, e, R, s, m, args, below, meth, c, cs, sl, Q⟩ := κ
  obtain ⟨hd, rfl⟩ := hd
  intro C H locs ls hl hP hS
  exact vk_getf C.1.1 C.1.2.1 (C.2.2.2.2.1.1.1 j hj).2.1 hS C.1.2.2.2.1 (C.1.2.2.2.2 _ hf) (fun _ h => h) hd (kk C H locs ls hl hP hS)
theorem r_salen {j : Nat} (hj : j < 8) (hd : Dec mi pc .arraylength 1 n) (kk : RR l w mi dep κ n (.int (nI (lenS.getD j 0)) :: st) loc M) : RR l w mi dep κ pc (.ref (wa w (8 + j)) :: st) loc M := by
  obtain ⟨p, e, R, s, m, args, below, meth, c, cs, sl, Q⟩ := κ
  obtain ⟨hd, rfl⟩ := hd
  intro C H locs ls hl hP hS
  exact va_tlen C.1.1 C.1.2.1 (C.2.2.2.2.1.1.1 j hj).2.2.2 hS rfl hd (kk C H locs ls hl hP hS)
theorem r_sbald {j : Nat} {i : Int32} (hj : j < 8) (hd : Dec mi pc .baload 1 n) (hc : ck i (lenS.getD j 0) = true) (kk : RR l w mi dep κ n (.int ((bytS.getD j []).getD i.toNatClampNeg 0) :: st) loc M) : RR l w mi dep κ pc (.int i :: .ref (wa w (8 + j)) :: st) loc M := by
  obtain ⟨p, e, R, s, m, args, below, meth, c, cs, sl, Q⟩ := κ
  obtain ⟨hd, rfl⟩ := hd
  intro C H locs ls hl hP hS
  exact va_tb C.1.1 C.1.2.1 (C.2.2.2.2.1.1.1 j hj).2.2.2 hS (ck_in hc) rfl hd (kk C H locs ls hl hP hS)
/-- a call on a text -/
theorem r_callT {i na j dep' : Nat} {y : MethodName} {mi' : Mi} {av stk : List Value} {r : Res} (hj : j < 8) (hd : Dec mi pc (.invokevirtual i) 3 n) (hm : Cond.methodLink mi.2.2.1 i y ∈ lw_t) (hy : MF y mi' na) (hv : MV y) (hcn : "java/lang/String" = y.cls)
    (hc : Cn l w mi' y dep' (.ref (wa w j) :: av) M r) (hdep : dep' + 1 ≤ dep) (hn : av.length = na) (hst : stk = av.reverse ++ .ref (wa w j) :: st) (hw : (st.map fun v => v.category).sum ≤ 8) (kk : RR l w mi dep κ n (r.1.toList ++ st) loc r.2) : RR l w mi dep κ pc stk loc M := by
  obtain ⟨p, e, R, s, m, args, below, meth, c, cs, sl, Q⟩ := κ
  obtain ⟨hd, rfl⟩ := hd
  intro C H locs ls hl hP hS
  have hts := C.1.2.2.2.2
  have hR := calls_ok C hy hdep
  have hrec : ∃ cell : Cell, H[wa w j]? = some cell ∧ cell.vm.isStatics = false ∧ s.vm.findClass y.cls = some cell.cls := by rw [← hcn]; exact vk_recv C.2.2.2.2.1.1 hj hS
  have hrun := va_runV (l := l) (e := e) (R := R) (below := below) (meth := meth) (locs := locs) (cells := cs) (slots := sl) (g := F0 m pc ls stk) (rest := st) C.1 (hc H.size) (C := y.cls) (index := i) (bytes := mi'.1) (maxL := mi'.2.1) (ret := mi'.2.2.2) (n := na)
    ⟨⟨rfl, rfl, hR.1, hR.2, pay_in hts (good_ws hy.2.1), List.mem_cons_self, hts _ hy.2.1, hts _ hy.1, hy.2.2.1, len_of hy.2.2.2.1, hts _ hm⟩, hts _ hv.1, hts _ hv.2⟩
    ⟨blind_of, hrec, fun U hU hW => ⟨rfl, Bef_at C hP hS hU hW⟩⟩ rfl hn hl.1 hst (by show 2 * 0 + _ ≤ 8; omega) hd ⟨C.2.2.2.2.2.2.2.1, C.2.2.2.2.2.2.2.2⟩
  exact call_core hrun hS (fun H1 locs1 hP1 hS1 => kk C H1 locs1 ls hl hP1 hS1)
end ROWS3
/-- the sign at k of the text j -/
def sch (j : Nat) (k : Int32) : Int32 := ((((bytS.getD j []).getD k.toNatClampNeg 0) &&& 255).toUInt32 % 65536).toInt32
theorem kj0 : Int32.ofInt 0 = (0 : Int32) := by decide
theorem kj1 : Int32.ofInt 1 = (1 : Int32) := by decide
theorem kj255 : (Int16.ofInt 255).toInt32 = (255 : Int32) := by decide
theorem x_coder {l : Launch} {w : Wd} {M : Mem} {j : Nat} (hj : j < 8) : Cn l w mi_J0_coder_7d493 yJ0_coder_7d493 0 [.ref (wa w j)] M (some (.int 0), M) :=
  Cn_of (loc0 := [some (.ref (wa w j))]) rfl rfl rfl (Nat.le_of_ble_eq_true rfl) fun κ hq => r_cs D_J0_coder_7d493_0 js_cs <| r_if_eq D_J0_coder_7d493_3 (fun c => absurd c (by decide)) (fun _ => r_aload_n D_J0_coder_7d493_6 rfl <| r_scod hj D_J0_coder_7d493_7 js_cod <| r_goto D_J0_coder_7d493_10 <| r_zret hq D_J0_coder_7d493_14 rfl rfl rfl)
theorem x_isLatin1 {l : Launch} {w : Wd} {M : Mem} {j : Nat} (hj : j < 8) : Cn l w mi_J0_isLatin1_aae02 yJ0_isLatin1_aae02 0 [.ref (wa w j)] M (some (.int 1), M) :=
  Cn_of (loc0 := [some (.ref (wa w j))]) rfl rfl rfl (Nat.le_of_ble_eq_true rfl) fun κ hq => r_cs D_J0_isLatin1_aae02_0 js_cs <| r_if_eq D_J0_isLatin1_aae02_3 (fun c => absurd c (by decide)) (fun _ => r_aload_n D_J0_isLatin1_aae02_6 rfl <| r_scod hj D_J0_isLatin1_aae02_7 js_cod <| r_if_ne D_J0_isLatin1_aae02_10 (fun _ => r_iconst D_J0_isLatin1_aae02_13 kj1 <| r_goto D_J0_isLatin1_aae02_14 <| r_zret hq D_J0_isLatin1_aae02_18 rfl rfl rfl) (fun c => absurd rfl c))
theorem shr0 (x : Int32) : x >>> ((0 : Int32) &&& 31) = x := by
  apply Int32.toBitVec_inj.mp
  simp
theorem x_length {l : Launch} {w : Wd} {M : Mem} {j : Nat} (hj : j < 8) : Cn l w mi_J0_length_8abf5 yJ0_length_8abf5 1 [.ref (wa w j)] M (some (.int (nI (lenS.getD j 0))), M) :=
  Cn_of (loc0 := [some (.ref (wa w j))]) rfl rfl rfl (Nat.le_of_ble_eq_true rfl) fun κ hq => r_aload_n D_J0_length_8abf5_0 rfl <| r_sval hj D_J0_length_8abf5_1 js_val <| r_salen hj D_J0_length_8abf5_4 <| r_aload_n D_J0_length_8abf5_5 rfl <| r_callT (av := []) hj D_J0_length_8abf5_6 ml_J0_335 mf_J0_coder_7d493 mv_J0_coder_7d493 rfl (x_coder hj) (Nat.le_of_ble_eq_true rfl) rfl rfl (Nat.le_of_ble_eq_true rfl) <| r_ishr D_J0_length_8abf5_9 <| r_iret hq D_J0_length_8abf5_10 rfl (by rw [shr0])
theorem x_pre {l : Launch} {w : Wd} {M : Mem} {i k : Int32} {z : Value} (hz : z = .null ∨ ∃ t, z = .ref t) (h0 : ¬ i < 0) (h1 : i < k) : Cn l w mi_J3_checkIndex_8e157 yJ3_checkIndex_8e157 0 [.int i, .int k, z] M (some (.int i), M) := by
  refine Cn_of (loc0 := [some (.int i), some (.int k), some z]) rfl rfl rfl ?_ ?_
  · rcases hz with rfl | ⟨t, rfl⟩ <;> exact Nat.le_of_ble_eq_true rfl
  · exact fun κ hq => r_iload_n D_J3_checkIndex_8e157_0 rfl <| r_if_lt D_J3_checkIndex_8e157_1 (fun c => absurd c h0) (fun _ => r_iload_n D_J3_checkIndex_8e157_4 rfl <| r_iload_n D_J3_checkIndex_8e157_5 rfl <| r_icmp_lt D_J3_checkIndex_8e157_6 (fun _ => r_iload_n D_J3_checkIndex_8e157_16 rfl <| r_iret hq D_J3_checkIndex_8e157_17 rfl rfl) (fun c => absurd h1 c))

theorem x_chk {l : Launch} {w : Wd} {M : Mem} {i k : Int32} (h0 : ¬ i < 0) (h1 : i < k) : Cn l w mi_J0_checkIndex_df160 yJ0_checkIndex_df160 1 [.int i, .int k] M (none, M) :=
  Cn_of (loc0 := [some (.int i), some (.int k)]) rfl rfl rfl (Nat.le_of_ble_eq_true rfl) fun κ hq => r_iload_n D_J0_checkIndex_df160_0 rfl <| r_iload_n D_J0_checkIndex_df160_1 rfl <| r_fmt D_J0_checkIndex_df160_2 js_fmt fun z hz1 hz => r_callS (av := [.int i, .int k, z]) D_J0_checkIndex_df160_5 ml_J0_1059 mf_J3_checkIndex_8e157 ms_J3_checkIndex_8e157 (x_pre hz h0 h1) (Nat.le_of_ble_eq_true rfl) rfl rfl (Nat.le_of_ble_eq_true rfl) <| r_pop D_J0_checkIndex_df160_8 rfl <| r_vret hq D_J0_checkIndex_df160_9 rfl rfl
theorem ck_lt {i : Int32} {n : Nat} (hn : n < 2 ^ 31) (h : ck i n = true) : ¬ i < 0 ∧ i < nI n := by
  have h1 := of_decide_eq_true h
  constructor
  · rw [Int32.lt_iff_toInt_lt, Int32.toInt_zero]; omega
  · rw [Int32.lt_iff_toInt_lt, nI_toInt hn]; omega
theorem lenS_lt : ∀ j, j < 8 → lenS.getD j 0 < 2 ^ 31 := by decide
theorem x_l1 {l : Launch} {w : Wd} {M : Mem} {j : Nat} {k : Int32} (hj : j < 8) (hk : ck k (lenS.getD j 0) = true) : Cn l w mi_J1_charAt_3b067 yJ1_charAt_3b067 2 [.ref (wa w (8 + j)), .int k] M (some (.int (sch j k)), M) :=
  have hc := ck_lt (lenS_lt j hj) hk
  Cn_of (loc0 := [some (.ref (wa w (8 + j))), some (.int k)]) rfl rfl rfl (Nat.le_of_ble_eq_true rfl) fun κ hq => r_iload_n D_J1_charAt_3b067_0 rfl <| r_aload_n D_J1_charAt_3b067_1 rfl <| r_salen hj D_J1_charAt_3b067_2 <| r_callS (av := [.int k, .int (nI (lenS.getD j 0))]) D_J1_charAt_3b067_3 ml_J1_9 mf_J0_checkIndex_df160 ms_J0_checkIndex_df160 (x_chk hc.1 hc.2) (Nat.le_of_ble_eq_true rfl) rfl rfl (Nat.le_of_ble_eq_true rfl) <| r_aload_n D_J1_charAt_3b067_6 rfl <| r_iload_n D_J1_charAt_3b067_7 rfl <| r_sbald hj D_J1_charAt_3b067_8 hk <| r_sipush D_J1_charAt_3b067_9 kj255 <| r_iand D_J1_charAt_3b067_12 <| r_i2c D_J1_charAt_3b067_13 <| r_zret hq D_J1_charAt_3b067_14 rfl (pk_nc _) rfl
theorem x_charAt {l : Launch} {w : Wd} {M : Mem} {j : Nat} {k : Int32} (hj : j < 8) (hk : ck k (lenS.getD j 0) = true) : Cn l w mi_J0_charAt_5068e yJ0_charAt_5068e 3 [.ref (wa w j), .int k] M (some (.int (sch j k)), M) :=
  Cn_of (loc0 := [some (.ref (wa w j)), some (.int k)]) rfl rfl rfl (Nat.le_of_ble_eq_true rfl) fun κ hq => r_aload_n D_J0_charAt_5068e_0 rfl <| r_callT (av := []) hj D_J0_charAt_5068e_1 ml_J0_492 mf_J0_isLatin1_aae02 mv_J0_isLatin1_aae02 rfl (x_isLatin1 hj) (Nat.le_of_ble_eq_true rfl) rfl rfl (Nat.le_of_ble_eq_true rfl) <| r_if_eq D_J0_charAt_5068e_4 (fun c => absurd c (by decide)) (fun _ => r_aload_n D_J0_charAt_5068e_7 rfl <| r_sval hj D_J0_charAt_5068e_8 js_val <| r_iload_n D_J0_charAt_5068e_11 rfl <| r_callS (av := [.ref (wa w (8 + j)), .int k]) D_J0_charAt_5068e_12 ml_J0_495 mf_J1_charAt_3b067 ms_J1_charAt_3b067 (x_l1 hj hk) (Nat.le_of_ble_eq_true rfl) rfl rfl (Nat.le_of_ble_eq_true rfl) <| r_zret hq D_J0_charAt_5068e_15 rfl (pk_nc _) rfl)
section ROWS4
variable {l : Launch} {w : Wd} {mi : Mi} {dep : Nat} {κ : Kp} {pc n : Nat} {st : List Value} {loc : List (Option Value)} {M : Mem}
theorem r_slen {i j : Nat} (hd : Dec mi pc (.invokevirtual i) 3 n) (hm : Cond.methodLink mi.2.2.1 i yJ0_length_8abf5 ∈ lw_t) (hj : j < 8) (hdep : 4 ≤ dep) (hw : (st.map fun v => v.category).sum ≤ 8) (kk : RR l w mi dep κ n (.int (nI (lenS.getD j 0)) :: st) loc M) : RR l w mi dep κ pc (.ref (wa w j) :: st) loc M :=
  r_callT (av := []) hj hd hm mf_J0_length_8abf5 mv_J0_length_8abf5 rfl (x_length hj) (by omega) rfl rfl hw kk
theorem r_schar {i j : Nat} {k : Int32} (hd : Dec mi pc (.invokevirtual i) 3 n) (hm : Cond.methodLink mi.2.2.1 i yJ0_charAt_5068e ∈ lw_t) (hj : j < 8) (hk : ck k (lenS.getD j 0) = true) (hdep : 4 ≤ dep) (hw : (st.map fun v => v.category).sum ≤ 8) (kk : RR l w mi dep κ n (.int (sch j k) :: st) loc M) : RR l w mi dep κ pc (.int k :: .ref (wa w j) :: st) loc M :=
  r_callT (av := [.int k]) hj hd hm mf_J0_charAt_5068e mv_J0_charAt_5068e rfl (x_charAt hj hk) (by omega) rfl rfl hw kk
end ROWS4
end
