section
-- ===== PART A: goes FIRST, ahead of the names: the tables' words, and 'selects' of the private methods out of them =====
/-- a private method of a class that the tables say can be made, by its rows of tables_1 -/
def lw_okq (q : MethodName × Nat) : Prop := (q.1.cls ≠ "java/lang/invoke/MethodHandle" ∧ q.1.cls ≠ "java/lang/invoke/VarHandle") ∧ Cond.instantiable q.1.cls q.2 ∈ tables_1 ∧ Cond.privateMethod q.1 ∈ tables_1 ∧ Cond.instanceMethod q.1 ∈ tables_1
theorem lw_p0 : lw_okq (⟨"RibbonRoads", "putOnTape", "(I)V"⟩, 11) := ⟨⟨by decide +kernel, by decide +kernel⟩, List.mem_of_getElem? (i := 23) (by decide +kernel), List.mem_of_getElem? (i := 422) (by decide +kernel), List.mem_of_getElem? (i := 423) (by decide +kernel)⟩
theorem lw_p1 : lw_okq (⟨"RibbonRoads$Tokens", "cutNumber", "([BII)I"⟩, 4) := ⟨⟨by decide +kernel, by decide +kernel⟩, List.mem_of_getElem? (i := 125) (by decide +kernel), List.mem_of_getElem? (i := 450) (by decide +kernel), List.mem_of_getElem? (i := 451) (by decide +kernel)⟩
theorem lw_p2 : lw_okq (⟨"RibbonRoads$Tokens", "add", "(III)V"⟩, 4) := ⟨⟨by decide +kernel, by decide +kernel⟩, List.mem_of_getElem? (i := 125) (by decide +kernel), List.mem_of_getElem? (i := 454) (by decide +kernel), List.mem_of_getElem? (i := 455) (by decide +kernel)⟩
theorem lw_p3 : lw_okq (⟨"RibbonRoads$Tokens", "cutWord", "([BII)I"⟩, 4) := ⟨⟨by decide +kernel, by decide +kernel⟩, List.mem_of_getElem? (i := 125) (by decide +kernel), List.mem_of_getElem? (i := 461) (by decide +kernel), List.mem_of_getElem? (i := 462) (by decide +kernel)⟩
theorem lw_p4 : lw_okq (⟨"RibbonRoads$Reader", "readLand", "()Z"⟩, 7) := ⟨⟨by decide +kernel, by decide +kernel⟩, List.mem_of_getElem? (i := 31) (by decide +kernel), List.mem_of_getElem? (i := 593) (by decide +kernel), List.mem_of_getElem? (i := 594) (by decide +kernel)⟩
theorem lw_p5 : lw_okq (⟨"RibbonRoads$Reader", "skip", "(I)Z"⟩, 7) := ⟨⟨by decide +kernel, by decide +kernel⟩, List.mem_of_getElem? (i := 31) (by decide +kernel), List.mem_of_getElem? (i := 597) (by decide +kernel), List.mem_of_getElem? (i := 598) (by decide +kernel)⟩
theorem lw_p6 : lw_okq (⟨"RibbonRoads$Reader", "kind", "()I"⟩, 7) := ⟨⟨by decide +kernel, by decide +kernel⟩, List.mem_of_getElem? (i := 31) (by decide +kernel), List.mem_of_getElem? (i := 601) (by decide +kernel), List.mem_of_getElem? (i := 602) (by decide +kernel)⟩
theorem lw_p7 : lw_okq (⟨"RibbonRoads$Reader", "fail", "(I)Z"⟩, 7) := ⟨⟨by decide +kernel, by decide +kernel⟩, List.mem_of_getElem? (i := 31) (by decide +kernel), List.mem_of_getElem? (i := 609) (by decide +kernel), List.mem_of_getElem? (i := 610) (by decide +kernel)⟩
theorem lw_p8 : lw_okq (⟨"RibbonRoads$Reader", "readNumber", "(II)I"⟩, 7) := ⟨⟨by decide +kernel, by decide +kernel⟩, List.mem_of_getElem? (i := 31) (by decide +kernel), List.mem_of_getElem? (i := 617) (by decide +kernel), List.mem_of_getElem? (i := 618) (by decide +kernel)⟩
theorem lw_p9 : lw_okq (⟨"RibbonRoads$Reader", "readLine", "()Z"⟩, 7) := ⟨⟨by decide +kernel, by decide +kernel⟩, List.mem_of_getElem? (i := 31) (by decide +kernel), List.mem_of_getElem? (i := 625) (by decide +kernel), List.mem_of_getElem? (i := 626) (by decide +kernel)⟩
theorem lw_p10 : lw_okq (⟨"RibbonRoads$Reader", "readRock", "()Z"⟩, 7) := ⟨⟨by decide +kernel, by decide +kernel⟩, List.mem_of_getElem? (i := 31) (by decide +kernel), List.mem_of_getElem? (i := 629) (by decide +kernel), List.mem_of_getElem? (i := 630) (by decide +kernel)⟩
theorem lw_p11 : lw_okq (⟨"RibbonRoads$Reader", "readEmptyCell", "()I"⟩, 7) := ⟨⟨by decide +kernel, by decide +kernel⟩, List.mem_of_getElem? (i := 31) (by decide +kernel), List.mem_of_getElem? (i := 633) (by decide +kernel), List.mem_of_getElem? (i := 634) (by decide +kernel)⟩
theorem lw_p12 : lw_okq (⟨"RibbonRoads$Reader", "readDrum", "()Z"⟩, 7) := ⟨⟨by decide +kernel, by decide +kernel⟩, List.mem_of_getElem? (i := 31) (by decide +kernel), List.mem_of_getElem? (i := 646) (by decide +kernel), List.mem_of_getElem? (i := 647) (by decide +kernel)⟩
theorem lw_p13 : lw_okq (⟨"RibbonRoads$Reader", "readTakes", "()Z"⟩, 7) := ⟨⟨by decide +kernel, by decide +kernel⟩, List.mem_of_getElem? (i := 31) (by decide +kernel), List.mem_of_getElem? (i := 650) (by decide +kernel), List.mem_of_getElem? (i := 651) (by decide +kernel)⟩
theorem lw_p14 : lw_okq (⟨"RibbonRoads$Reader", "readSum", "(I)Z"⟩, 7) := ⟨⟨by decide +kernel, by decide +kernel⟩, List.mem_of_getElem? (i := 31) (by decide +kernel), List.mem_of_getElem? (i := 655) (by decide +kernel), List.mem_of_getElem? (i := 656) (by decide +kernel)⟩
theorem lw_p15 : lw_okq (⟨"RibbonRoads$Reader", "readTerm", "(I)Z"⟩, 7) := ⟨⟨by decide +kernel, by decide +kernel⟩, List.mem_of_getElem? (i := 31) (by decide +kernel), List.mem_of_getElem? (i := 659) (by decide +kernel), List.mem_of_getElem? (i := 660) (by decide +kernel)⟩
def lw_privs_1 : List (MethodName × Nat) := [(⟨"RibbonRoads", "putOnTape", "(I)V"⟩, 11), (⟨"RibbonRoads$Tokens", "cutNumber", "([BII)I"⟩, 4), (⟨"RibbonRoads$Tokens", "add", "(III)V"⟩, 4), (⟨"RibbonRoads$Tokens", "cutWord", "([BII)I"⟩, 4), (⟨"RibbonRoads$Reader", "readLand", "()Z"⟩, 7), (⟨"RibbonRoads$Reader", "skip", "(I)Z"⟩, 7), (⟨"RibbonRoads$Reader", "kind", "()I"⟩, 7), (⟨"RibbonRoads$Reader", "fail", "(I)Z"⟩, 7), (⟨"RibbonRoads$Reader", "readNumber", "(II)I"⟩, 7), (⟨"RibbonRoads$Reader", "readLine", "()Z"⟩, 7), (⟨"RibbonRoads$Reader", "readRock", "()Z"⟩, 7), (⟨"RibbonRoads$Reader", "readEmptyCell", "()I"⟩, 7), (⟨"RibbonRoads$Reader", "readDrum", "()Z"⟩, 7), (⟨"RibbonRoads$Reader", "readTakes", "()Z"⟩, 7), (⟨"RibbonRoads$Reader", "readSum", "(I)Z"⟩, 7), (⟨"RibbonRoads$Reader", "readTerm", "(I)Z"⟩, 7)]
theorem lw_r1 : ∀ q ∈ lw_privs_1, lw_okq q := List.forall_mem_cons.mpr ⟨lw_p0, List.forall_mem_cons.mpr ⟨lw_p1, List.forall_mem_cons.mpr ⟨lw_p2, List.forall_mem_cons.mpr ⟨lw_p3, List.forall_mem_cons.mpr ⟨lw_p4, List.forall_mem_cons.mpr ⟨lw_p5, List.forall_mem_cons.mpr ⟨lw_p6, List.forall_mem_cons.mpr ⟨lw_p7, List.forall_mem_cons.mpr ⟨lw_p8, List.forall_mem_cons.mpr ⟨lw_p9, List.forall_mem_cons.mpr ⟨lw_p10, List.forall_mem_cons.mpr ⟨lw_p11, List.forall_mem_cons.mpr ⟨lw_p12, List.forall_mem_cons.mpr ⟨lw_p13, List.forall_mem_cons.mpr ⟨lw_p14, List.forall_mem_cons.mpr ⟨lw_p15, fun _ h => absurd h List.not_mem_nil⟩⟩⟩⟩⟩⟩⟩⟩⟩⟩⟩⟩⟩⟩⟩⟩
theorem lw_p16 : lw_okq (⟨"RibbonRoads$Reader", "readAtom", "(I)Z"⟩, 7) := ⟨⟨by decide +kernel, by decide +kernel⟩, List.mem_of_getElem? (i := 31) (by decide +kernel), List.mem_of_getElem? (i := 663) (by decide +kernel), List.mem_of_getElem? (i := 664) (by decide +kernel)⟩
theorem lw_p17 : lw_okq (⟨"RibbonRoads$Reader", "partOf", "(I)I"⟩, 7) := ⟨⟨by decide +kernel, by decide +kernel⟩, List.mem_of_getElem? (i := 31) (by decide +kernel), List.mem_of_getElem? (i := 667) (by decide +kernel), List.mem_of_getElem? (i := 668) (by decide +kernel)⟩
theorem lw_p18 : lw_okq (⟨"RibbonRoads$Reader", "readMay", "()Z"⟩, 7) := ⟨⟨by decide +kernel, by decide +kernel⟩, List.mem_of_getElem? (i := 31) (by decide +kernel), List.mem_of_getElem? (i := 675) (by decide +kernel), List.mem_of_getElem? (i := 676) (by decide +kernel)⟩
theorem lw_p19 : lw_okq (⟨"RibbonRoads$Reader", "readTruth", "(I)Z"⟩, 7) := ⟨⟨by decide +kernel, by decide +kernel⟩, List.mem_of_getElem? (i := 31) (by decide +kernel), List.mem_of_getElem? (i := 679) (by decide +kernel), List.mem_of_getElem? (i := 680) (by decide +kernel)⟩
theorem lw_p20 : lw_okq (⟨"RibbonRoads$Reader", "readBoth", "(I)Z"⟩, 7) := ⟨⟨by decide +kernel, by decide +kernel⟩, List.mem_of_getElem? (i := 31) (by decide +kernel), List.mem_of_getElem? (i := 683) (by decide +kernel), List.mem_of_getElem? (i := 684) (by decide +kernel)⟩
theorem lw_p21 : lw_okq (⟨"RibbonRoads$Reader", "readUnit", "(I)Z"⟩, 7) := ⟨⟨by decide +kernel, by decide +kernel⟩, List.mem_of_getElem? (i := 31) (by decide +kernel), List.mem_of_getElem? (i := 687) (by decide +kernel), List.mem_of_getElem? (i := 688) (by decide +kernel)⟩
theorem lw_p22 : lw_okq (⟨"RibbonRoads$Reader", "readComparison", "(I)Z"⟩, 7) := ⟨⟨by decide +kernel, by decide +kernel⟩, List.mem_of_getElem? (i := 31) (by decide +kernel), List.mem_of_getElem? (i := 691) (by decide +kernel), List.mem_of_getElem? (i := 692) (by decide +kernel)⟩
theorem lw_p23 : lw_okq (⟨"RibbonRoads$Reader", "readWet", "()Z"⟩, 7) := ⟨⟨by decide +kernel, by decide +kernel⟩, List.mem_of_getElem? (i := 31) (by decide +kernel), List.mem_of_getElem? (i := 695) (by decide +kernel), List.mem_of_getElem? (i := 696) (by decide +kernel)⟩
theorem lw_p24 : lw_okq (⟨"RibbonRoads$Reader", "readHour", "()Z"⟩, 7) := ⟨⟨by decide +kernel, by decide +kernel⟩, List.mem_of_getElem? (i := 31) (by decide +kernel), List.mem_of_getElem? (i := 699) (by decide +kernel), List.mem_of_getElem? (i := 700) (by decide +kernel)⟩
theorem lw_p25 : lw_okq (⟨"RibbonRoads$State", "isUnder", "(II)Z"⟩, 12) := ⟨⟨by decide +kernel, by decide +kernel⟩, List.mem_of_getElem? (i := 171) (by decide +kernel), List.mem_of_getElem? (i := 857) (by decide +kernel), List.mem_of_getElem? (i := 858) (by decide +kernel)⟩
theorem lw_p26 : lw_okq (⟨"RibbonRoads$State", "liftLast", "(LRibbonRoads$Land;I)V"⟩, 12) := ⟨⟨by decide +kernel, by decide +kernel⟩, List.mem_of_getElem? (i := 171) (by decide +kernel), List.mem_of_getElem? (i := 866) (by decide +kernel), List.mem_of_getElem? (i := 867) (by decide +kernel)⟩
theorem lw_p27 : lw_okq (⟨"RibbonRoads$State", "goOn", "(I)V"⟩, 12) := ⟨⟨by decide +kernel, by decide +kernel⟩, List.mem_of_getElem? (i := 171) (by decide +kernel), List.mem_of_getElem? (i := 912) (by decide +kernel), List.mem_of_getElem? (i := 913) (by decide +kernel)⟩
theorem lw_p28 : lw_okq (⟨"RibbonRoads", "isTray", "(I)Z"⟩, 11) := ⟨⟨by decide +kernel, by decide +kernel⟩, List.mem_of_getElem? (i := 23) (by decide +kernel), List.mem_of_getElem? (i := 932) (by decide +kernel), List.mem_of_getElem? (i := 933) (by decide +kernel)⟩
theorem lw_p29 : lw_okq (⟨"RibbonRoads", "takeOverTrial", "(I)V"⟩, 11) := ⟨⟨by decide +kernel, by decide +kernel⟩, List.mem_of_getElem? (i := 23) (by decide +kernel), List.mem_of_getElem? (i := 970) (by decide +kernel), List.mem_of_getElem? (i := 971) (by decide +kernel)⟩
theorem lw_p30 : lw_okq (⟨"RibbonRoads$Ways", "leadOf", "(II)I"⟩, 17) := ⟨⟨by decide +kernel, by decide +kernel⟩, List.mem_of_getElem? (i := 253) (by decide +kernel), List.mem_of_getElem? (i := 1004) (by decide +kernel), List.mem_of_getElem? (i := 1005) (by decide +kernel)⟩
theorem lw_p31 : lw_okq (⟨"RibbonRoads$Ways", "find", "()V"⟩, 17) := ⟨⟨by decide +kernel, by decide +kernel⟩, List.mem_of_getElem? (i := 253) (by decide +kernel), List.mem_of_getElem? (i := 1015) (by decide +kernel), List.mem_of_getElem? (i := 1016) (by decide +kernel)⟩
def lw_privs_2 : List (MethodName × Nat) := [(⟨"RibbonRoads$Reader", "readAtom", "(I)Z"⟩, 7), (⟨"RibbonRoads$Reader", "partOf", "(I)I"⟩, 7), (⟨"RibbonRoads$Reader", "readMay", "()Z"⟩, 7), (⟨"RibbonRoads$Reader", "readTruth", "(I)Z"⟩, 7), (⟨"RibbonRoads$Reader", "readBoth", "(I)Z"⟩, 7), (⟨"RibbonRoads$Reader", "readUnit", "(I)Z"⟩, 7), (⟨"RibbonRoads$Reader", "readComparison", "(I)Z"⟩, 7), (⟨"RibbonRoads$Reader", "readWet", "()Z"⟩, 7), (⟨"RibbonRoads$Reader", "readHour", "()Z"⟩, 7), (⟨"RibbonRoads$State", "isUnder", "(II)Z"⟩, 12), (⟨"RibbonRoads$State", "liftLast", "(LRibbonRoads$Land;I)V"⟩, 12), (⟨"RibbonRoads$State", "goOn", "(I)V"⟩, 12), (⟨"RibbonRoads", "isTray", "(I)Z"⟩, 11), (⟨"RibbonRoads", "takeOverTrial", "(I)V"⟩, 11), (⟨"RibbonRoads$Ways", "leadOf", "(II)I"⟩, 17), (⟨"RibbonRoads$Ways", "find", "()V"⟩, 17)]
theorem lw_r2 : ∀ q ∈ lw_privs_2, lw_okq q := List.forall_mem_cons.mpr ⟨lw_p16, List.forall_mem_cons.mpr ⟨lw_p17, List.forall_mem_cons.mpr ⟨lw_p18, List.forall_mem_cons.mpr ⟨lw_p19, List.forall_mem_cons.mpr ⟨lw_p20, List.forall_mem_cons.mpr ⟨lw_p21, List.forall_mem_cons.mpr ⟨lw_p22, List.forall_mem_cons.mpr ⟨lw_p23, List.forall_mem_cons.mpr ⟨lw_p24, List.forall_mem_cons.mpr ⟨lw_p25, List.forall_mem_cons.mpr ⟨lw_p26, List.forall_mem_cons.mpr ⟨lw_p27, List.forall_mem_cons.mpr ⟨lw_p28, List.forall_mem_cons.mpr ⟨lw_p29, List.forall_mem_cons.mpr ⟨lw_p30, List.forall_mem_cons.mpr ⟨lw_p31, fun _ h => absurd h List.not_mem_nil⟩⟩⟩⟩⟩⟩⟩⟩⟩⟩⟩⟩⟩⟩⟩⟩
theorem lw_p32 : lw_okq (⟨"RibbonRoads$Ways", "findNext", "(IJ)J"⟩, 17) := ⟨⟨by decide +kernel, by decide +kernel⟩, List.mem_of_getElem? (i := 253) (by decide +kernel), List.mem_of_getElem? (i := 1023) (by decide +kernel), List.mem_of_getElem? (i := 1024) (by decide +kernel)⟩
theorem lw_p33 : lw_okq (⟨"RibbonRoads$Ways", "betters", "(IIIJ)Z"⟩, 17) := ⟨⟨by decide +kernel, by decide +kernel⟩, List.mem_of_getElem? (i := 253) (by decide +kernel), List.mem_of_getElem? (i := 1027) (by decide +kernel), List.mem_of_getElem? (i := 1028) (by decide +kernel)⟩
theorem lw_p34 : lw_okq (⟨"RibbonRoads$Ways", "manyFrom", "(IIIJ)I"⟩, 17) := ⟨⟨by decide +kernel, by decide +kernel⟩, List.mem_of_getElem? (i := 253) (by decide +kernel), List.mem_of_getElem? (i := 1062) (by decide +kernel), List.mem_of_getElem? (i := 1063) (by decide +kernel)⟩
theorem lw_p35 : lw_okq (⟨"RibbonRoads$Ways", "apart", "(II)I"⟩, 17) := ⟨⟨by decide +kernel, by decide +kernel⟩, List.mem_of_getElem? (i := 253) (by decide +kernel), List.mem_of_getElem? (i := 1066) (by decide +kernel), List.mem_of_getElem? (i := 1067) (by decide +kernel)⟩
theorem lw_p36 : lw_okq (⟨"RibbonRoads$Ways", "besideAll", "(J)J"⟩, 17) := ⟨⟨by decide +kernel, by decide +kernel⟩, List.mem_of_getElem? (i := 253) (by decide +kernel), List.mem_of_getElem? (i := 1091) (by decide +kernel), List.mem_of_getElem? (i := 1092) (by decide +kernel)⟩
theorem lw_p37 : lw_okq (⟨"RibbonRoads$Piles", "timesUnder", "(II)I"⟩, 4) := ⟨⟨by decide +kernel, by decide +kernel⟩, List.mem_of_getElem? (i := 315) (by decide +kernel), List.mem_of_getElem? (i := 1138) (by decide +kernel), List.mem_of_getElem? (i := 1139) (by decide +kernel)⟩
theorem lw_p38 : lw_okq (⟨"RibbonRoads", "hoursTillIn", "(I)I"⟩, 11) := ⟨⟨by decide +kernel, by decide +kernel⟩, List.mem_of_getElem? (i := 23) (by decide +kernel), List.mem_of_getElem? (i := 1155) (by decide +kernel), List.mem_of_getElem? (i := 1156) (by decide +kernel)⟩
theorem lw_p39 : lw_okq (⟨"RibbonRoads", "whyNotFaded", "(II)I"⟩, 11) := ⟨⟨by decide +kernel, by decide +kernel⟩, List.mem_of_getElem? (i := 23) (by decide +kernel), List.mem_of_getElem? (i := 1191) (by decide +kernel), List.mem_of_getElem? (i := 1192) (by decide +kernel)⟩
theorem lw_p40 : lw_okq (⟨"RibbonRoads", "fadedCells", "(II)J"⟩, 11) := ⟨⟨by decide +kernel, by decide +kernel⟩, List.mem_of_getElem? (i := 23) (by decide +kernel), List.mem_of_getElem? (i := 1195) (by decide +kernel), List.mem_of_getElem? (i := 1196) (by decide +kernel)⟩
theorem lw_p41 : lw_okq (⟨"RibbonRoadsModel", "next", "()V"⟩, 31) := ⟨⟨by decide +kernel, by decide +kernel⟩, List.mem_of_getElem? (i := 1265) (by decide +kernel), List.mem_of_getElem? (i := 1380) (by decide +kernel), List.mem_of_getElem? (i := 1381) (by decide +kernel)⟩
theorem lw_p42 : lw_okq (⟨"RibbonRoadsModel", "see", "(I)I"⟩, 31) := ⟨⟨by decide +kernel, by decide +kernel⟩, List.mem_of_getElem? (i := 1265) (by decide +kernel), List.mem_of_getElem? (i := 1384) (by decide +kernel), List.mem_of_getElem? (i := 1385) (by decide +kernel)⟩
theorem lw_p43 : lw_okq (⟨"RibbonRoadsModel", "keyAt", "()I"⟩, 31) := ⟨⟨by decide +kernel, by decide +kernel⟩, List.mem_of_getElem? (i := 1265) (by decide +kernel), List.mem_of_getElem? (i := 1391) (by decide +kernel), List.mem_of_getElem? (i := 1392) (by decide +kernel)⟩
theorem lw_p44 : lw_okq (⟨"RibbonRoadsModel", "eats", "(I)Z"⟩, 31) := ⟨⟨by decide +kernel, by decide +kernel⟩, List.mem_of_getElem? (i := 1265) (by decide +kernel), List.mem_of_getElem? (i := 1402) (by decide +kernel), List.mem_of_getElem? (i := 1403) (by decide +kernel)⟩
theorem lw_p45 : lw_okq (⟨"RibbonRoadsModel", "is", "(I)Z"⟩, 31) := ⟨⟨by decide +kernel, by decide +kernel⟩, List.mem_of_getElem? (i := 1265) (by decide +kernel), List.mem_of_getElem? (i := 1406) (by decide +kernel), List.mem_of_getElem? (i := 1407) (by decide +kernel)⟩
theorem lw_p46 : lw_okq (⟨"RibbonRoadsModel", "fails", "(I)V"⟩, 31) := ⟨⟨by decide +kernel, by decide +kernel⟩, List.mem_of_getElem? (i := 1265) (by decide +kernel), List.mem_of_getElem? (i := 1410) (by decide +kernel), List.mem_of_getElem? (i := 1411) (by decide +kernel)⟩
theorem lw_p47 : lw_okq (⟨"RibbonRoadsModel", "takesN", "(II)I"⟩, 31) := ⟨⟨by decide +kernel, by decide +kernel⟩, List.mem_of_getElem? (i := 1265) (by decide +kernel), List.mem_of_getElem? (i := 1414) (by decide +kernel), List.mem_of_getElem? (i := 1415) (by decide +kernel)⟩
def lw_privs_3 : List (MethodName × Nat) := [(⟨"RibbonRoads$Ways", "findNext", "(IJ)J"⟩, 17), (⟨"RibbonRoads$Ways", "betters", "(IIIJ)Z"⟩, 17), (⟨"RibbonRoads$Ways", "manyFrom", "(IIIJ)I"⟩, 17), (⟨"RibbonRoads$Ways", "apart", "(II)I"⟩, 17), (⟨"RibbonRoads$Ways", "besideAll", "(J)J"⟩, 17), (⟨"RibbonRoads$Piles", "timesUnder", "(II)I"⟩, 4), (⟨"RibbonRoads", "hoursTillIn", "(I)I"⟩, 11), (⟨"RibbonRoads", "whyNotFaded", "(II)I"⟩, 11), (⟨"RibbonRoads", "fadedCells", "(II)J"⟩, 11), (⟨"RibbonRoadsModel", "next", "()V"⟩, 31), (⟨"RibbonRoadsModel", "see", "(I)I"⟩, 31), (⟨"RibbonRoadsModel", "keyAt", "()I"⟩, 31), (⟨"RibbonRoadsModel", "eats", "(I)Z"⟩, 31), (⟨"RibbonRoadsModel", "is", "(I)Z"⟩, 31), (⟨"RibbonRoadsModel", "fails", "(I)V"⟩, 31), (⟨"RibbonRoadsModel", "takesN", "(II)I"⟩, 31)]
theorem lw_r3 : ∀ q ∈ lw_privs_3, lw_okq q := List.forall_mem_cons.mpr ⟨lw_p32, List.forall_mem_cons.mpr ⟨lw_p33, List.forall_mem_cons.mpr ⟨lw_p34, List.forall_mem_cons.mpr ⟨lw_p35, List.forall_mem_cons.mpr ⟨lw_p36, List.forall_mem_cons.mpr ⟨lw_p37, List.forall_mem_cons.mpr ⟨lw_p38, List.forall_mem_cons.mpr ⟨lw_p39, List.forall_mem_cons.mpr ⟨lw_p40, List.forall_mem_cons.mpr ⟨lw_p41, List.forall_mem_cons.mpr ⟨lw_p42, List.forall_mem_cons.mpr ⟨lw_p43, List.forall_mem_cons.mpr ⟨lw_p44, List.forall_mem_cons.mpr ⟨lw_p45, List.forall_mem_cons.mpr ⟨lw_p46, List.forall_mem_cons.mpr ⟨lw_p47, fun _ h => absurd h List.not_mem_nil⟩⟩⟩⟩⟩⟩⟩⟩⟩⟩⟩⟩⟩⟩⟩⟩
theorem lw_p48 : lw_okq (⟨"RibbonRoadsModel", "ends", "()V"⟩, 31) := ⟨⟨by decide +kernel, by decide +kernel⟩, List.mem_of_getElem? (i := 1265) (by decide +kernel), List.mem_of_getElem? (i := 1418) (by decide +kernel), List.mem_of_getElem? (i := 1419) (by decide +kernel)⟩
theorem lw_p49 : lw_okq (⟨"RibbonRoadsModel", "readLine", "()V"⟩, 31) := ⟨⟨by decide +kernel, by decide +kernel⟩, List.mem_of_getElem? (i := 1265) (by decide +kernel), List.mem_of_getElem? (i := 1422) (by decide +kernel), List.mem_of_getElem? (i := 1423) (by decide +kernel)⟩
theorem lw_p50 : lw_okq (⟨"RibbonRoadsModel", "readRock", "()V"⟩, 31) := ⟨⟨by decide +kernel, by decide +kernel⟩, List.mem_of_getElem? (i := 1265) (by decide +kernel), List.mem_of_getElem? (i := 1426) (by decide +kernel), List.mem_of_getElem? (i := 1427) (by decide +kernel)⟩
theorem lw_p51 : lw_okq (⟨"RibbonRoadsModel", "readCell", "()I"⟩, 31) := ⟨⟨by decide +kernel, by decide +kernel⟩, List.mem_of_getElem? (i := 1265) (by decide +kernel), List.mem_of_getElem? (i := 1430) (by decide +kernel), List.mem_of_getElem? (i := 1431) (by decide +kernel)⟩
theorem lw_p52 : lw_okq (⟨"RibbonRoadsModel", "isDrumIn", "(I)Z"⟩, 31) := ⟨⟨by decide +kernel, by decide +kernel⟩, List.mem_of_getElem? (i := 1265) (by decide +kernel), List.mem_of_getElem? (i := 1434) (by decide +kernel), List.mem_of_getElem? (i := 1435) (by decide +kernel)⟩
theorem lw_p53 : lw_okq (⟨"RibbonRoadsModel", "readDrum", "()V"⟩, 31) := ⟨⟨by decide +kernel, by decide +kernel⟩, List.mem_of_getElem? (i := 1265) (by decide +kernel), List.mem_of_getElem? (i := 1438) (by decide +kernel), List.mem_of_getElem? (i := 1439) (by decide +kernel)⟩
theorem lw_p54 : lw_okq (⟨"RibbonRoadsModel", "readLaw", "(I)V"⟩, 31) := ⟨⟨by decide +kernel, by decide +kernel⟩, List.mem_of_getElem? (i := 1265) (by decide +kernel), List.mem_of_getElem? (i := 1442) (by decide +kernel), List.mem_of_getElem? (i := 1443) (by decide +kernel)⟩
theorem lw_p55 : lw_okq (⟨"RibbonRoadsModel", "readSum", "(I)V"⟩, 31) := ⟨⟨by decide +kernel, by decide +kernel⟩, List.mem_of_getElem? (i := 1265) (by decide +kernel), List.mem_of_getElem? (i := 1446) (by decide +kernel), List.mem_of_getElem? (i := 1447) (by decide +kernel)⟩
theorem lw_p56 : lw_okq (⟨"RibbonRoadsModel", "readTerm", "(I)V"⟩, 31) := ⟨⟨by decide +kernel, by decide +kernel⟩, List.mem_of_getElem? (i := 1265) (by decide +kernel), List.mem_of_getElem? (i := 1450) (by decide +kernel), List.mem_of_getElem? (i := 1451) (by decide +kernel)⟩
theorem lw_p57 : lw_okq (⟨"RibbonRoadsModel", "readAtom", "(I)V"⟩, 31) := ⟨⟨by decide +kernel, by decide +kernel⟩, List.mem_of_getElem? (i := 1265) (by decide +kernel), List.mem_of_getElem? (i := 1454) (by decide +kernel), List.mem_of_getElem? (i := 1455) (by decide +kernel)⟩
theorem lw_p58 : lw_okq (⟨"RibbonRoadsModel", "codes", "(I)V"⟩, 31) := ⟨⟨by decide +kernel, by decide +kernel⟩, List.mem_of_getElem? (i := 1265) (by decide +kernel), List.mem_of_getElem? (i := 1458) (by decide +kernel), List.mem_of_getElem? (i := 1459) (by decide +kernel)⟩
theorem lw_p59 : lw_okq (⟨"RibbonRoadsModel", "wordOf", "(I)I"⟩, 31) := ⟨⟨by decide +kernel, by decide +kernel⟩, List.mem_of_getElem? (i := 1265) (by decide +kernel), List.mem_of_getElem? (i := 1462) (by decide +kernel), List.mem_of_getElem? (i := 1463) (by decide +kernel)⟩
theorem lw_p60 : lw_okq (⟨"RibbonRoadsModel", "goesIn", "(I)Z"⟩, 31) := ⟨⟨by decide +kernel, by decide +kernel⟩, List.mem_of_getElem? (i := 1265) (by decide +kernel), List.mem_of_getElem? (i := 1466) (by decide +kernel), List.mem_of_getElem? (i := 1467) (by decide +kernel)⟩
theorem lw_p61 : lw_okq (⟨"RibbonRoadsModel", "readTruth", "(I)V"⟩, 31) := ⟨⟨by decide +kernel, by decide +kernel⟩, List.mem_of_getElem? (i := 1265) (by decide +kernel), List.mem_of_getElem? (i := 1470) (by decide +kernel), List.mem_of_getElem? (i := 1471) (by decide +kernel)⟩
theorem lw_p62 : lw_okq (⟨"RibbonRoadsModel", "readBoth", "(I)V"⟩, 31) := ⟨⟨by decide +kernel, by decide +kernel⟩, List.mem_of_getElem? (i := 1265) (by decide +kernel), List.mem_of_getElem? (i := 1474) (by decide +kernel), List.mem_of_getElem? (i := 1475) (by decide +kernel)⟩
theorem lw_p63 : lw_okq (⟨"RibbonRoadsModel", "readUnit", "(I)V"⟩, 31) := ⟨⟨by decide +kernel, by decide +kernel⟩, List.mem_of_getElem? (i := 1265) (by decide +kernel), List.mem_of_getElem? (i := 1478) (by decide +kernel), List.mem_of_getElem? (i := 1479) (by decide +kernel)⟩
def lw_privs_4 : List (MethodName × Nat) := [(⟨"RibbonRoadsModel", "ends", "()V"⟩, 31), (⟨"RibbonRoadsModel", "readLine", "()V"⟩, 31), (⟨"RibbonRoadsModel", "readRock", "()V"⟩, 31), (⟨"RibbonRoadsModel", "readCell", "()I"⟩, 31), (⟨"RibbonRoadsModel", "isDrumIn", "(I)Z"⟩, 31), (⟨"RibbonRoadsModel", "readDrum", "()V"⟩, 31), (⟨"RibbonRoadsModel", "readLaw", "(I)V"⟩, 31), (⟨"RibbonRoadsModel", "readSum", "(I)V"⟩, 31), (⟨"RibbonRoadsModel", "readTerm", "(I)V"⟩, 31), (⟨"RibbonRoadsModel", "readAtom", "(I)V"⟩, 31), (⟨"RibbonRoadsModel", "codes", "(I)V"⟩, 31), (⟨"RibbonRoadsModel", "wordOf", "(I)I"⟩, 31), (⟨"RibbonRoadsModel", "goesIn", "(I)Z"⟩, 31), (⟨"RibbonRoadsModel", "readTruth", "(I)V"⟩, 31), (⟨"RibbonRoadsModel", "readBoth", "(I)V"⟩, 31), (⟨"RibbonRoadsModel", "readUnit", "(I)V"⟩, 31)]
theorem lw_r4 : ∀ q ∈ lw_privs_4, lw_okq q := List.forall_mem_cons.mpr ⟨lw_p48, List.forall_mem_cons.mpr ⟨lw_p49, List.forall_mem_cons.mpr ⟨lw_p50, List.forall_mem_cons.mpr ⟨lw_p51, List.forall_mem_cons.mpr ⟨lw_p52, List.forall_mem_cons.mpr ⟨lw_p53, List.forall_mem_cons.mpr ⟨lw_p54, List.forall_mem_cons.mpr ⟨lw_p55, List.forall_mem_cons.mpr ⟨lw_p56, List.forall_mem_cons.mpr ⟨lw_p57, List.forall_mem_cons.mpr ⟨lw_p58, List.forall_mem_cons.mpr ⟨lw_p59, List.forall_mem_cons.mpr ⟨lw_p60, List.forall_mem_cons.mpr ⟨lw_p61, List.forall_mem_cons.mpr ⟨lw_p62, List.forall_mem_cons.mpr ⟨lw_p63, fun _ h => absurd h List.not_mem_nil⟩⟩⟩⟩⟩⟩⟩⟩⟩⟩⟩⟩⟩⟩⟩⟩
theorem lw_p64 : lw_okq (⟨"RibbonRoadsModel", "isCell", "(J)Z"⟩, 31) := ⟨⟨by decide +kernel, by decide +kernel⟩, List.mem_of_getElem? (i := 1265) (by decide +kernel), List.mem_of_getElem? (i := 1490) (by decide +kernel), List.mem_of_getElem? (i := 1491) (by decide +kernel)⟩
theorem lw_p65 : lw_okq (⟨"RibbonRoadsModel", "cells", "()I"⟩, 31) := ⟨⟨by decide +kernel, by decide +kernel⟩, List.mem_of_getElem? (i := 1265) (by decide +kernel), List.mem_of_getElem? (i := 1494) (by decide +kernel), List.mem_of_getElem? (i := 1495) (by decide +kernel)⟩
theorem lw_p66 : lw_okq (⟨"RibbonRoadsModel", "isHome", "(I)Z"⟩, 31) := ⟨⟨by decide +kernel, by decide +kernel⟩, List.mem_of_getElem? (i := 1265) (by decide +kernel), List.mem_of_getElem? (i := 1498) (by decide +kernel), List.mem_of_getElem? (i := 1499) (by decide +kernel)⟩
theorem lw_p67 : lw_okq (⟨"RibbonRoadsModel", "lieOn", "(I)I"⟩, 31) := ⟨⟨by decide +kernel, by decide +kernel⟩, List.mem_of_getElem? (i := 1265) (by decide +kernel), List.mem_of_getElem? (i := 1502) (by decide +kernel), List.mem_of_getElem? (i := 1503) (by decide +kernel)⟩
theorem lw_p68 : lw_okq (⟨"RibbonRoadsModel", "goerOn", "(I)I"⟩, 31) := ⟨⟨by decide +kernel, by decide +kernel⟩, List.mem_of_getElem? (i := 1265) (by decide +kernel), List.mem_of_getElem? (i := 1506) (by decide +kernel), List.mem_of_getElem? (i := 1507) (by decide +kernel)⟩
theorem lw_p69 : lw_okq (⟨"RibbonRoadsModel", "cellOf", "(I)I"⟩, 31) := ⟨⟨by decide +kernel, by decide +kernel⟩, List.mem_of_getElem? (i := 1265) (by decide +kernel), List.mem_of_getElem? (i := 1510) (by decide +kernel), List.mem_of_getElem? (i := 1511) (by decide +kernel)⟩
theorem lw_p70 : lw_okq (⟨"RibbonRoadsModel", "isDrum", "(J)Z"⟩, 31) := ⟨⟨by decide +kernel, by decide +kernel⟩, List.mem_of_getElem? (i := 1265) (by decide +kernel), List.mem_of_getElem? (i := 1518) (by decide +kernel), List.mem_of_getElem? (i := 1519) (by decide +kernel)⟩
theorem lw_p71 : lw_okq (⟨"RibbonRoadsModel", "endOf", "(I)I"⟩, 31) := ⟨⟨by decide +kernel, by decide +kernel⟩, List.mem_of_getElem? (i := 1265) (by decide +kernel), List.mem_of_getElem? (i := 1522) (by decide +kernel), List.mem_of_getElem? (i := 1523) (by decide +kernel)⟩
theorem lw_p72 : lw_okq (⟨"RibbonRoadsModel", "tookBy", "(I)I"⟩, 31) := ⟨⟨by decide +kernel, by decide +kernel⟩, List.mem_of_getElem? (i := 1265) (by decide +kernel), List.mem_of_getElem? (i := 1526) (by decide +kernel), List.mem_of_getElem? (i := 1527) (by decide +kernel)⟩
theorem lw_p73 : lw_okq (⟨"RibbonRoadsModel", "isGoer", "(J)Z"⟩, 31) := ⟨⟨by decide +kernel, by decide +kernel⟩, List.mem_of_getElem? (i := 1265) (by decide +kernel), List.mem_of_getElem? (i := 1538) (by decide +kernel), List.mem_of_getElem? (i := 1539) (by decide +kernel)⟩
theorem lw_p74 : lw_okq (⟨"RibbonRoadsModel", "costOf", "(II)I"⟩, 31) := ⟨⟨by decide +kernel, by decide +kernel⟩, List.mem_of_getElem? (i := 1265) (by decide +kernel), List.mem_of_getElem? (i := 1546) (by decide +kernel), List.mem_of_getElem? (i := 1547) (by decide +kernel)⟩
theorem lw_p75 : lw_okq (⟨"RibbonRoadsModel", "reckons", "(III)I"⟩, 31) := ⟨⟨by decide +kernel, by decide +kernel⟩, List.mem_of_getElem? (i := 1265) (by decide +kernel), List.mem_of_getElem? (i := 1550) (by decide +kernel), List.mem_of_getElem? (i := 1551) (by decide +kernel)⟩
theorem lw_p76 : lw_okq (⟨"RibbonRoadsModel", "whyLay", "(JJ)I"⟩, 31) := ⟨⟨by decide +kernel, by decide +kernel⟩, List.mem_of_getElem? (i := 1265) (by decide +kernel), List.mem_of_getElem? (i := 1563) (by decide +kernel), List.mem_of_getElem? (i := 1564) (by decide +kernel)⟩
theorem lw_p77 : lw_okq (⟨"RibbonRoadsModel", "beside", "(II)I"⟩, 31) := ⟨⟨by decide +kernel, by decide +kernel⟩, List.mem_of_getElem? (i := 1265) (by decide +kernel), List.mem_of_getElem? (i := 1568) (by decide +kernel), List.mem_of_getElem? (i := 1569) (by decide +kernel)⟩
theorem lw_p78 : lw_okq (⟨"RibbonRoadsModel", "isOpen", "(II)Z"⟩, 31) := ⟨⟨by decide +kernel, by decide +kernel⟩, List.mem_of_getElem? (i := 1265) (by decide +kernel), List.mem_of_getElem? (i := 1572) (by decide +kernel), List.mem_of_getElem? (i := 1573) (by decide +kernel)⟩
theorem lw_p79 : lw_okq (⟨"RibbonRoadsModel", "lets", "(II)Z"⟩, 31) := ⟨⟨by decide +kernel, by decide +kernel⟩, List.mem_of_getElem? (i := 1265) (by decide +kernel), List.mem_of_getElem? (i := 1576) (by decide +kernel), List.mem_of_getElem? (i := 1577) (by decide +kernel)⟩
def lw_privs_5 : List (MethodName × Nat) := [(⟨"RibbonRoadsModel", "isCell", "(J)Z"⟩, 31), (⟨"RibbonRoadsModel", "cells", "()I"⟩, 31), (⟨"RibbonRoadsModel", "isHome", "(I)Z"⟩, 31), (⟨"RibbonRoadsModel", "lieOn", "(I)I"⟩, 31), (⟨"RibbonRoadsModel", "goerOn", "(I)I"⟩, 31), (⟨"RibbonRoadsModel", "cellOf", "(I)I"⟩, 31), (⟨"RibbonRoadsModel", "isDrum", "(J)Z"⟩, 31), (⟨"RibbonRoadsModel", "endOf", "(I)I"⟩, 31), (⟨"RibbonRoadsModel", "tookBy", "(I)I"⟩, 31), (⟨"RibbonRoadsModel", "isGoer", "(J)Z"⟩, 31), (⟨"RibbonRoadsModel", "costOf", "(II)I"⟩, 31), (⟨"RibbonRoadsModel", "reckons", "(III)I"⟩, 31), (⟨"RibbonRoadsModel", "whyLay", "(JJ)I"⟩, 31), (⟨"RibbonRoadsModel", "beside", "(II)I"⟩, 31), (⟨"RibbonRoadsModel", "isOpen", "(II)Z"⟩, 31), (⟨"RibbonRoadsModel", "lets", "(II)Z"⟩, 31)]
theorem lw_r5 : ∀ q ∈ lw_privs_5, lw_okq q := List.forall_mem_cons.mpr ⟨lw_p64, List.forall_mem_cons.mpr ⟨lw_p65, List.forall_mem_cons.mpr ⟨lw_p66, List.forall_mem_cons.mpr ⟨lw_p67, List.forall_mem_cons.mpr ⟨lw_p68, List.forall_mem_cons.mpr ⟨lw_p69, List.forall_mem_cons.mpr ⟨lw_p70, List.forall_mem_cons.mpr ⟨lw_p71, List.forall_mem_cons.mpr ⟨lw_p72, List.forall_mem_cons.mpr ⟨lw_p73, List.forall_mem_cons.mpr ⟨lw_p74, List.forall_mem_cons.mpr ⟨lw_p75, List.forall_mem_cons.mpr ⟨lw_p76, List.forall_mem_cons.mpr ⟨lw_p77, List.forall_mem_cons.mpr ⟨lw_p78, List.forall_mem_cons.mpr ⟨lw_p79, fun _ h => absurd h List.not_mem_nil⟩⟩⟩⟩⟩⟩⟩⟩⟩⟩⟩⟩⟩⟩⟩⟩
theorem lw_p80 : lw_okq (⟨"RibbonRoadsModel", "keeps", "()V"⟩, 31) := ⟨⟨by decide +kernel, by decide +kernel⟩, List.mem_of_getElem? (i := 1265) (by decide +kernel), List.mem_of_getElem? (i := 1584) (by decide +kernel), List.mem_of_getElem? (i := 1585) (by decide +kernel)⟩
theorem lw_p81 : lw_okq (⟨"RibbonRoadsModel", "lays", "(IIZ)V"⟩, 31) := ⟨⟨by decide +kernel, by decide +kernel⟩, List.mem_of_getElem? (i := 1265) (by decide +kernel), List.mem_of_getElem? (i := 1588) (by decide +kernel), List.mem_of_getElem? (i := 1589) (by decide +kernel)⟩
theorem lw_p82 : lw_okq (⟨"RibbonRoadsModel", "notes", "()V"⟩, 31) := ⟨⟨by decide +kernel, by decide +kernel⟩, List.mem_of_getElem? (i := 1265) (by decide +kernel), List.mem_of_getElem? (i := 1592) (by decide +kernel), List.mem_of_getElem? (i := 1593) (by decide +kernel)⟩
theorem lw_p83 : lw_okq (⟨"RibbonRoadsModel", "whyBack", "(J)I"⟩, 31) := ⟨⟨by decide +kernel, by decide +kernel⟩, List.mem_of_getElem? (i := 1265) (by decide +kernel), List.mem_of_getElem? (i := 1600) (by decide +kernel), List.mem_of_getElem? (i := 1601) (by decide +kernel)⟩
theorem lw_p84 : lw_okq (⟨"RibbonRoadsModel", "takesOff", "(I)V"⟩, 31) := ⟨⟨by decide +kernel, by decide +kernel⟩, List.mem_of_getElem? (i := 1265) (by decide +kernel), List.mem_of_getElem? (i := 1604) (by decide +kernel), List.mem_of_getElem? (i := 1605) (by decide +kernel)⟩
theorem lw_p85 : lw_okq (⟨"RibbonRoadsModel", "whyIn", "(J)I"⟩, 31) := ⟨⟨by decide +kernel, by decide +kernel⟩, List.mem_of_getElem? (i := 1265) (by decide +kernel), List.mem_of_getElem? (i := 1612) (by decide +kernel), List.mem_of_getElem? (i := 1613) (by decide +kernel)⟩
theorem lw_p86 : lw_okq (⟨"RibbonRoadsModel", "takesAll", "(I)V"⟩, 31) := ⟨⟨by decide +kernel, by decide +kernel⟩, List.mem_of_getElem? (i := 1265) (by decide +kernel), List.mem_of_getElem? (i := 1616) (by decide +kernel), List.mem_of_getElem? (i := 1617) (by decide +kernel)⟩
theorem lw_p87 : lw_okq (⟨"RibbonRoadsModel", "whyOut", "(J)I"⟩, 31) := ⟨⟨by decide +kernel, by decide +kernel⟩, List.mem_of_getElem? (i := 1265) (by decide +kernel), List.mem_of_getElem? (i := 1624) (by decide +kernel), List.mem_of_getElem? (i := 1625) (by decide +kernel)⟩
theorem lw_p88 : lw_okq (⟨"RibbonRoadsModel", "setsOut", "(I)V"⟩, 31) := ⟨⟨by decide +kernel, by decide +kernel⟩, List.mem_of_getElem? (i := 1265) (by decide +kernel), List.mem_of_getElem? (i := 1628) (by decide +kernel), List.mem_of_getElem? (i := 1629) (by decide +kernel)⟩
theorem lw_p89 : lw_okq (⟨"RibbonRoadsModel", "goesHour", "()I"⟩, 31) := ⟨⟨by decide +kernel, by decide +kernel⟩, List.mem_of_getElem? (i := 1265) (by decide +kernel), List.mem_of_getElem? (i := 1646) (by decide +kernel), List.mem_of_getElem? (i := 1647) (by decide +kernel)⟩
theorem lw_p90 : lw_okq (⟨"RibbonRoadsModel", "goes", "(I)Z"⟩, 31) := ⟨⟨by decide +kernel, by decide +kernel⟩, List.mem_of_getElem? (i := 1265) (by decide +kernel), List.mem_of_getElem? (i := 1650) (by decide +kernel), List.mem_of_getElem? (i := 1651) (by decide +kernel)⟩
theorem lw_p91 : lw_okq (⟨"RibbonRoadsModel", "noTray", "(I)I"⟩, 31) := ⟨⟨by decide +kernel, by decide +kernel⟩, List.mem_of_getElem? (i := 1265) (by decide +kernel), List.mem_of_getElem? (i := 1664) (by decide +kernel), List.mem_of_getElem? (i := 1665) (by decide +kernel)⟩
theorem lw_p92 : lw_okq (⟨"RibbonRoadsModel", "tells", "(I)I"⟩, 31) := ⟨⟨by decide +kernel, by decide +kernel⟩, List.mem_of_getElem? (i := 1265) (by decide +kernel), List.mem_of_getElem? (i := 1668) (by decide +kernel), List.mem_of_getElem? (i := 1669) (by decide +kernel)⟩
theorem lw_p93 : lw_okq (⟨"RibbonRoadsModel", "whyNot", "(J)I"⟩, 31) := ⟨⟨by decide +kernel, by decide +kernel⟩, List.mem_of_getElem? (i := 1265) (by decide +kernel), List.mem_of_getElem? (i := 1672) (by decide +kernel), List.mem_of_getElem? (i := 1673) (by decide +kernel)⟩
theorem lw_p94 : lw_okq (⟨"RibbonRoadsModel", "does", "(I)V"⟩, 31) := ⟨⟨by decide +kernel, by decide +kernel⟩, List.mem_of_getElem? (i := 1265) (by decide +kernel), List.mem_of_getElem? (i := 1688) (by decide +kernel), List.mem_of_getElem? (i := 1689) (by decide +kernel)⟩
theorem lw_p95 : lw_okq (⟨"RibbonRoadsModel", "isAgain", "()V"⟩, 31) := ⟨⟨by decide +kernel, by decide +kernel⟩, List.mem_of_getElem? (i := 1265) (by decide +kernel), List.mem_of_getElem? (i := 1692) (by decide +kernel), List.mem_of_getElem? (i := 1693) (by decide +kernel)⟩
def lw_privs_6 : List (MethodName × Nat) := [(⟨"RibbonRoadsModel", "keeps", "()V"⟩, 31), (⟨"RibbonRoadsModel", "lays", "(IIZ)V"⟩, 31), (⟨"RibbonRoadsModel", "notes", "()V"⟩, 31), (⟨"RibbonRoadsModel", "whyBack", "(J)I"⟩, 31), (⟨"RibbonRoadsModel", "takesOff", "(I)V"⟩, 31), (⟨"RibbonRoadsModel", "whyIn", "(J)I"⟩, 31), (⟨"RibbonRoadsModel", "takesAll", "(I)V"⟩, 31), (⟨"RibbonRoadsModel", "whyOut", "(J)I"⟩, 31), (⟨"RibbonRoadsModel", "setsOut", "(I)V"⟩, 31), (⟨"RibbonRoadsModel", "goesHour", "()I"⟩, 31), (⟨"RibbonRoadsModel", "goes", "(I)Z"⟩, 31), (⟨"RibbonRoadsModel", "noTray", "(I)I"⟩, 31), (⟨"RibbonRoadsModel", "tells", "(I)I"⟩, 31), (⟨"RibbonRoadsModel", "whyNot", "(J)I"⟩, 31), (⟨"RibbonRoadsModel", "does", "(I)V"⟩, 31), (⟨"RibbonRoadsModel", "isAgain", "()V"⟩, 31)]
theorem lw_r6 : ∀ q ∈ lw_privs_6, lw_okq q := List.forall_mem_cons.mpr ⟨lw_p80, List.forall_mem_cons.mpr ⟨lw_p81, List.forall_mem_cons.mpr ⟨lw_p82, List.forall_mem_cons.mpr ⟨lw_p83, List.forall_mem_cons.mpr ⟨lw_p84, List.forall_mem_cons.mpr ⟨lw_p85, List.forall_mem_cons.mpr ⟨lw_p86, List.forall_mem_cons.mpr ⟨lw_p87, List.forall_mem_cons.mpr ⟨lw_p88, List.forall_mem_cons.mpr ⟨lw_p89, List.forall_mem_cons.mpr ⟨lw_p90, List.forall_mem_cons.mpr ⟨lw_p91, List.forall_mem_cons.mpr ⟨lw_p92, List.forall_mem_cons.mpr ⟨lw_p93, List.forall_mem_cons.mpr ⟨lw_p94, List.forall_mem_cons.mpr ⟨lw_p95, fun _ h => absurd h List.not_mem_nil⟩⟩⟩⟩⟩⟩⟩⟩⟩⟩⟩⟩⟩⟩⟩⟩
theorem lw_p96 : lw_okq (⟨"RibbonRoadsModel", "drawn", "()I"⟩, 31) := ⟨⟨by decide +kernel, by decide +kernel⟩, List.mem_of_getElem? (i := 1265) (by decide +kernel), List.mem_of_getElem? (i := 1705) (by decide +kernel), List.mem_of_getElem? (i := 1706) (by decide +kernel)⟩
theorem lw_p97 : lw_okq (⟨"RibbonRoadsModel", "draw", "(I)I"⟩, 31) := ⟨⟨by decide +kernel, by decide +kernel⟩, List.mem_of_getElem? (i := 1265) (by decide +kernel), List.mem_of_getElem? (i := 1709) (by decide +kernel), List.mem_of_getElem? (i := 1710) (by decide +kernel)⟩
theorem lw_p98 : lw_okq (⟨"RibbonRoadsModel", "leastFor", "(IIZ)I"⟩, 31) := ⟨⟨by decide +kernel, by decide +kernel⟩, List.mem_of_getElem? (i := 1265) (by decide +kernel), List.mem_of_getElem? (i := 1719) (by decide +kernel), List.mem_of_getElem? (i := 1720) (by decide +kernel)⟩
theorem lw_p99 : lw_okq (⟨"RibbonRoadsModel", "laysLeast", "(IIZ)V"⟩, 31) := ⟨⟨by decide +kernel, by decide +kernel⟩, List.mem_of_getElem? (i := 1265) (by decide +kernel), List.mem_of_getElem? (i := 1723) (by decide +kernel), List.mem_of_getElem? (i := 1724) (by decide +kernel)⟩
theorem lw_p100 : lw_okq (⟨"RibbonRoadsModel", "laysOpen", "(IZ)V"⟩, 31) := ⟨⟨by decide +kernel, by decide +kernel⟩, List.mem_of_getElem? (i := 1265) (by decide +kernel), List.mem_of_getElem? (i := 1727) (by decide +kernel), List.mem_of_getElem? (i := 1728) (by decide +kernel)⟩
theorem lw_p101 : lw_okq (⟨"RibbonRoadsModel", "leftOf", "(I)I"⟩, 31) := ⟨⟨by decide +kernel, by decide +kernel⟩, List.mem_of_getElem? (i := 1265) (by decide +kernel), List.mem_of_getElem? (i := 1732) (by decide +kernel), List.mem_of_getElem? (i := 1733) (by decide +kernel)⟩
theorem lw_p102 : lw_okq (⟨"RibbonRoadsModel", "cellsBy", "(I)I"⟩, 31) := ⟨⟨by decide +kernel, by decide +kernel⟩, List.mem_of_getElem? (i := 1265) (by decide +kernel), List.mem_of_getElem? (i := 1736) (by decide +kernel), List.mem_of_getElem? (i := 1737) (by decide +kernel)⟩
theorem lw_p103 : lw_okq (⟨"RibbonRoadsModel", "laysWay", "(II)I"⟩, 31) := ⟨⟨by decide +kernel, by decide +kernel⟩, List.mem_of_getElem? (i := 1265) (by decide +kernel), List.mem_of_getElem? (i := 1748) (by decide +kernel), List.mem_of_getElem? (i := 1749) (by decide +kernel)⟩
theorem lw_p104 : lw_okq (⟨"RibbonRoadsModel", "isNext", "(III)Z"⟩, 31) := ⟨⟨by decide +kernel, by decide +kernel⟩, List.mem_of_getElem? (i := 1265) (by decide +kernel), List.mem_of_getElem? (i := 1752) (by decide +kernel), List.mem_of_getElem? (i := 1753) (by decide +kernel)⟩
theorem lw_p105 : lw_okq (⟨"RibbonRoadsModel", "waysFrom", "(IIIJ)I"⟩, 31) := ⟨⟨by decide +kernel, by decide +kernel⟩, List.mem_of_getElem? (i := 1265) (by decide +kernel), List.mem_of_getElem? (i := 1761) (by decide +kernel), List.mem_of_getElem? (i := 1762) (by decide +kernel)⟩
theorem lw_p106 : lw_okq (⟨"RibbonRoadsModel", "aboveOf", "(I)I"⟩, 31) := ⟨⟨by decide +kernel, by decide +kernel⟩, List.mem_of_getElem? (i := 1265) (by decide +kernel), List.mem_of_getElem? (i := 1784) (by decide +kernel), List.mem_of_getElem? (i := 1785) (by decide +kernel)⟩
theorem lw_p107 : lw_okq (⟨"RibbonRoadsModel", "lying", "()I"⟩, 31) := ⟨⟨by decide +kernel, by decide +kernel⟩, List.mem_of_getElem? (i := 1265) (by decide +kernel), List.mem_of_getElem? (i := 1796) (by decide +kernel), List.mem_of_getElem? (i := 1797) (by decide +kernel)⟩
theorem lw_p108 : lw_okq (⟨"RibbonRoadsModel", "firstOf", "(I)I"⟩, 31) := ⟨⟨by decide +kernel, by decide +kernel⟩, List.mem_of_getElem? (i := 1265) (by decide +kernel), List.mem_of_getElem? (i := 1800) (by decide +kernel), List.mem_of_getElem? (i := 1801) (by decide +kernel)⟩
theorem lw_p109 : lw_okq (⟨"RibbonRoadsModel", "twistsOf", "(I)I"⟩, 31) := ⟨⟨by decide +kernel, by decide +kernel⟩, List.mem_of_getElem? (i := 1265) (by decide +kernel), List.mem_of_getElem? (i := 1815) (by decide +kernel), List.mem_of_getElem? (i := 1816) (by decide +kernel)⟩
theorem lw_p110 : lw_okq (⟨"RibbonRoadsModel", "overs", "(II)I"⟩, 31) := ⟨⟨by decide +kernel, by decide +kernel⟩, List.mem_of_getElem? (i := 1265) (by decide +kernel), List.mem_of_getElem? (i := 1819) (by decide +kernel), List.mem_of_getElem? (i := 1820) (by decide +kernel)⟩
theorem lw_p111 : lw_okq (⟨"RibbonRoadsModel", "ordersOf", "(I)I"⟩, 31) := ⟨⟨by decide +kernel, by decide +kernel⟩, List.mem_of_getElem? (i := 1265) (by decide +kernel), List.mem_of_getElem? (i := 1827) (by decide +kernel), List.mem_of_getElem? (i := 1828) (by decide +kernel)⟩
def lw_privs_7 : List (MethodName × Nat) := [(⟨"RibbonRoadsModel", "drawn", "()I"⟩, 31), (⟨"RibbonRoadsModel", "draw", "(I)I"⟩, 31), (⟨"RibbonRoadsModel", "leastFor", "(IIZ)I"⟩, 31), (⟨"RibbonRoadsModel", "laysLeast", "(IIZ)V"⟩, 31), (⟨"RibbonRoadsModel", "laysOpen", "(IZ)V"⟩, 31), (⟨"RibbonRoadsModel", "leftOf", "(I)I"⟩, 31), (⟨"RibbonRoadsModel", "cellsBy", "(I)I"⟩, 31), (⟨"RibbonRoadsModel", "laysWay", "(II)I"⟩, 31), (⟨"RibbonRoadsModel", "isNext", "(III)Z"⟩, 31), (⟨"RibbonRoadsModel", "waysFrom", "(IIIJ)I"⟩, 31), (⟨"RibbonRoadsModel", "aboveOf", "(I)I"⟩, 31), (⟨"RibbonRoadsModel", "lying", "()I"⟩, 31), (⟨"RibbonRoadsModel", "firstOf", "(I)I"⟩, 31), (⟨"RibbonRoadsModel", "twistsOf", "(I)I"⟩, 31), (⟨"RibbonRoadsModel", "overs", "(II)I"⟩, 31), (⟨"RibbonRoadsModel", "ordersOf", "(I)I"⟩, 31)]
theorem lw_r7 : ∀ q ∈ lw_privs_7, lw_okq q := List.forall_mem_cons.mpr ⟨lw_p96, List.forall_mem_cons.mpr ⟨lw_p97, List.forall_mem_cons.mpr ⟨lw_p98, List.forall_mem_cons.mpr ⟨lw_p99, List.forall_mem_cons.mpr ⟨lw_p100, List.forall_mem_cons.mpr ⟨lw_p101, List.forall_mem_cons.mpr ⟨lw_p102, List.forall_mem_cons.mpr ⟨lw_p103, List.forall_mem_cons.mpr ⟨lw_p104, List.forall_mem_cons.mpr ⟨lw_p105, List.forall_mem_cons.mpr ⟨lw_p106, List.forall_mem_cons.mpr ⟨lw_p107, List.forall_mem_cons.mpr ⟨lw_p108, List.forall_mem_cons.mpr ⟨lw_p109, List.forall_mem_cons.mpr ⟨lw_p110, List.forall_mem_cons.mpr ⟨lw_p111, fun _ h => absurd h List.not_mem_nil⟩⟩⟩⟩⟩⟩⟩⟩⟩⟩⟩⟩⟩⟩⟩⟩
theorem lw_p112 : lw_okq (⟨"RibbonRoadsModel", "arrivesIn", "(I)I"⟩, 31) := ⟨⟨by decide +kernel, by decide +kernel⟩, List.mem_of_getElem? (i := 1265) (by decide +kernel), List.mem_of_getElem? (i := 1835) (by decide +kernel), List.mem_of_getElem? (i := 1836) (by decide +kernel)⟩
theorem lw_p113 : lw_okq (⟨"RibbonRoadsModel", "isAllIn", "()Z"⟩, 31) := ⟨⟨by decide +kernel, by decide +kernel⟩, List.mem_of_getElem? (i := 1265) (by decide +kernel), List.mem_of_getElem? (i := 1847) (by decide +kernel), List.mem_of_getElem? (i := 1848) (by decide +kernel)⟩
theorem lw_p114 : lw_okq (⟨"RibbonRoadsModel", "goersOnCells", "()I"⟩, 31) := ⟨⟨by decide +kernel, by decide +kernel⟩, List.mem_of_getElem? (i := 1265) (by decide +kernel), List.mem_of_getElem? (i := 1859) (by decide +kernel), List.mem_of_getElem? (i := 1860) (by decide +kernel)⟩
theorem lw_p115 : lw_okq (⟨"RibbonRoadsModel", "noFaded", "(II)I"⟩, 31) := ⟨⟨by decide +kernel, by decide +kernel⟩, List.mem_of_getElem? (i := 1265) (by decide +kernel), List.mem_of_getElem? (i := 1871) (by decide +kernel), List.mem_of_getElem? (i := 1872) (by decide +kernel)⟩
theorem lw_p116 : lw_okq (⟨"RibbonRoadsModel", "fits", "(II)J"⟩, 31) := ⟨⟨by decide +kernel, by decide +kernel⟩, List.mem_of_getElem? (i := 1265) (by decide +kernel), List.mem_of_getElem? (i := 1876) (by decide +kernel), List.mem_of_getElem? (i := 1877) (by decide +kernel)⟩
theorem lw_p117 : lw_okq (⟨"RibbonRoadsModel", "rocksMany", "()I"⟩, 31) := ⟨⟨by decide +kernel, by decide +kernel⟩, List.mem_of_getElem? (i := 1265) (by decide +kernel), List.mem_of_getElem? (i := 1919) (by decide +kernel), List.mem_of_getElem? (i := 1920) (by decide +kernel)⟩
theorem lw_p118 : lw_okq (⟨"RibbonRoadsModel", "crossingsMany", "()I"⟩, 31) := ⟨⟨by decide +kernel, by decide +kernel⟩, List.mem_of_getElem? (i := 1265) (by decide +kernel), List.mem_of_getElem? (i := 1923) (by decide +kernel), List.mem_of_getElem? (i := 1924) (by decide +kernel)⟩
theorem lw_p119 : lw_okq (⟨"RibbonRoadsModel", "underWay", "()I"⟩, 31) := ⟨⟨by decide +kernel, by decide +kernel⟩, List.mem_of_getElem? (i := 1265) (by decide +kernel), List.mem_of_getElem? (i := 1927) (by decide +kernel), List.mem_of_getElem? (i := 1928) (by decide +kernel)⟩
def lw_privs_8 : List (MethodName × Nat) := [(⟨"RibbonRoadsModel", "arrivesIn", "(I)I"⟩, 31), (⟨"RibbonRoadsModel", "isAllIn", "()Z"⟩, 31), (⟨"RibbonRoadsModel", "goersOnCells", "()I"⟩, 31), (⟨"RibbonRoadsModel", "noFaded", "(II)I"⟩, 31), (⟨"RibbonRoadsModel", "fits", "(II)J"⟩, 31), (⟨"RibbonRoadsModel", "rocksMany", "()I"⟩, 31), (⟨"RibbonRoadsModel", "crossingsMany", "()I"⟩, 31), (⟨"RibbonRoadsModel", "underWay", "()I"⟩, 31)]
theorem lw_r8 : ∀ q ∈ lw_privs_8, lw_okq q := List.forall_mem_cons.mpr ⟨lw_p112, List.forall_mem_cons.mpr ⟨lw_p113, List.forall_mem_cons.mpr ⟨lw_p114, List.forall_mem_cons.mpr ⟨lw_p115, List.forall_mem_cons.mpr ⟨lw_p116, List.forall_mem_cons.mpr ⟨lw_p117, List.forall_mem_cons.mpr ⟨lw_p118, List.forall_mem_cons.mpr ⟨lw_p119, fun _ h => absurd h List.not_mem_nil⟩⟩⟩⟩⟩⟩⟩⟩
def lw_privs : List (MethodName × Nat) := lw_privs_1 ++ (lw_privs_2 ++ (lw_privs_3 ++ (lw_privs_4 ++ (lw_privs_5 ++ (lw_privs_6 ++ (lw_privs_7 ++ (lw_privs_8)))))))
def lw_tbl : List Cond := k2_sels lw_privs ++ tables_1
theorem lw_privs_ok : ∀ q ∈ lw_privs, lw_okq q := by
  show ∀ q ∈ lw_privs_1 ++ (lw_privs_2 ++ (lw_privs_3 ++ (lw_privs_4 ++ (lw_privs_5 ++ (lw_privs_6 ++ (lw_privs_7 ++ (lw_privs_8))))))), lw_okq q
  exact List.forall_mem_append.mpr ⟨lw_r1, List.forall_mem_append.mpr ⟨lw_r2, List.forall_mem_append.mpr ⟨lw_r3, List.forall_mem_append.mpr ⟨lw_r4, List.forall_mem_append.mpr ⟨lw_r5, List.forall_mem_append.mpr ⟨lw_r6, List.forall_mem_append.mpr ⟨lw_r7, lw_r8⟩⟩⟩⟩⟩⟩⟩
-- ===== end of PART A; then your names; then what follows =====
end
section
def RX0 : String := "RibbonRoads$Image"
def TX0 : u_T := fun k => match k with
  | 0 => ("RibbonRoads$Image", "made", "Z", false)
  | 1 => ("RibbonRoads$Image", "land", "LRibbonRoads$Land;", true)
  | _ => ("RibbonRoads$Image", "state", "LRibbonRoads$State;", true)
def tyX0 : Nat → FieldType := fun k => match k with
  | 0 => .boolean
  | 1 => .object "RibbonRoads$Land"
  | _ => .object "RibbonRoads$State"
abbrev wsX00 : List Cond := u_ws RX0 TX0 3
theorem nmX0 : ∀ a, a < 3 → ∀ b, b < 3 → a ≠ b → (TX0 a).2.1 ≠ (TX0 b).2.1 := by decide +kernel
theorem tyX0_ok : ∀ k, k < 3 → parseFieldDescriptor (TX0 k).2.2.1 = some (tyX0 k) := by decide +kernel
abbrev cX0_init : ByteArray := prog_2_method_1_code
def yX0_init : MethodName := ⟨RX0, "<init>", "()V"⟩
def RX1 : String := "RibbonRoads$Land"
def TX1 : u_T := fun k => match k with
  | 0 => ("RibbonRoads$Land", "wide", "I", false)
  | 1 => ("RibbonRoads$Land", "high", "I", false)
  | 2 => ("RibbonRoads$Land", "drums", "I", false)
  | 3 => ("RibbonRoads$Land", "rocks", "I", false)
  | 4 => ("RibbonRoads$Land", "lines", "I", false)
  | 5 => ("RibbonRoads$Land", "wet", "I", false)
  | 6 => ("RibbonRoads$Land", "hour", "I", false)
  | 7 => ("RibbonRoads$Land", "kinds", "[I", true)
  | 8 => ("RibbonRoads$Land", "drumCells", "[I", true)
  | 9 => ("RibbonRoads$Land", "drumYards", "[I", true)
  | 10 => ("RibbonRoads$Land", "takesLaw", "LRibbonRoads$Law;", true)
  | _ => ("RibbonRoads$Land", "mayLaw", "LRibbonRoads$Law;", true)
def tyX1 : Nat → FieldType := fun k => match k with
  | 0 => .int
  | 1 => .int
  | 2 => .int
  | 3 => .int
  | 4 => .int
  | 5 => .int
  | 6 => .int
  | 7 => .array .int
  | 8 => .array .int
  | 9 => .array .int
  | 10 => .object "RibbonRoads$Law"
  | _ => .object "RibbonRoads$Law"
abbrev wsX10 : List Cond := u_ws RX1 TX1 12
theorem nmX1 : ∀ a, a < 12 → ∀ b, b < 12 → a ≠ b → (TX1 a).2.1 ≠ (TX1 b).2.1 := by decide +kernel
theorem tyX1_ok : ∀ k, k < 12 → parseFieldDescriptor (TX1 k).2.2.1 = some (tyX1 k) := by decide +kernel
abbrev cX1_init : ByteArray := prog_3_method_1_code
def yX1_init : MethodName := ⟨RX1, "<init>", "()V"⟩
abbrev cX1_clear : ByteArray := prog_3_method_2_code
def yX1_clear : MethodName := ⟨RX1, "clear", "()V"⟩
abbrev cX1_copyOf : ByteArray := prog_3_method_3_code
def yX1_copyOf : MethodName := ⟨RX1, "copyOf", "(LRibbonRoads$Land;)V"⟩
abbrev cX1_cells : ByteArray := prog_3_method_4_code
def yX1_cells : MethodName := ⟨RX1, "cells", "()I"⟩
abbrev cX1_hasCell : ByteArray := prog_3_method_5_code
def yX1_hasCell : MethodName := ⟨RX1, "hasCell", "(I)Z"⟩
abbrev cX1_hasDrum : ByteArray := prog_3_method_6_code
def yX1_hasDrum : MethodName := ⟨RX1, "hasDrum", "(I)Z"⟩
abbrev cX1_column : ByteArray := prog_3_method_7_code
def yX1_column : MethodName := ⟨RX1, "column", "(I)I"⟩
abbrev cX1_row : ByteArray := prog_3_method_8_code
def yX1_row : MethodName := ⟨RX1, "row", "(I)I"⟩
abbrev cX1_beside : ByteArray := prog_3_method_9_code
def yX1_beside : MethodName := ⟨RX1, "beside", "(II)I"⟩
abbrev cX1_yardsFor : ByteArray := prog_3_method_10_code
def yX1_yardsFor : MethodName := ⟨RX1, "yardsFor", "(III)I"⟩
abbrev cX1_mayLie : ByteArray := prog_3_method_11_code
def yX1_mayLie : MethodName := ⟨RX1, "mayLie", "(IIII)Z"⟩
def RX2 : String := "RibbonRoads$Law"
def TX2 : u_T := fun k => match k with
  | 0 => ("RibbonRoads$Law", "code", "[I", true)
  | 1 => ("RibbonRoads$Law", "stack", "[I", true)
  | _ => ("RibbonRoads$Law", "size", "I", false)
def tyX2 : Nat → FieldType := fun k => match k with
  | 0 => .array .int
  | 1 => .array .int
  | _ => .int
abbrev wsX20 : List Cond := u_ws RX2 TX2 3
theorem nmX2 : ∀ a, a < 3 → ∀ b, b < 3 → a ≠ b → (TX2 a).2.1 ≠ (TX2 b).2.1 := by decide +kernel
theorem tyX2_ok : ∀ k, k < 3 → parseFieldDescriptor (TX2 k).2.2.1 = some (tyX2 k) := by decide +kernel
abbrev cX2_init : ByteArray := prog_4_method_1_code
def yX2_init : MethodName := ⟨RX2, "<init>", "()V"⟩
abbrev cX2_isTold : ByteArray := prog_4_method_2_code
def yX2_isTold : MethodName := ⟨RX2, "isTold", "()Z"⟩
abbrev cX2_clear : ByteArray := prog_4_method_3_code
def yX2_clear : MethodName := ⟨RX2, "clear", "()V"⟩
abbrev cX2_add : ByteArray := prog_4_method_4_code
def yX2_add : MethodName := ⟨RX2, "add", "(I)V"⟩
abbrev cX2_copyOf : ByteArray := prog_4_method_5_code
def yX2_copyOf : MethodName := ⟨RX2, "copyOf", "(LRibbonRoads$Law;)V"⟩
abbrev cX2_value : ByteArray := prog_4_method_6_code
def yX2_value : MethodName := ⟨RX2, "value", "(IIIII)I"⟩
def RX3 : String := "RibbonRoads$Past"
def TX3 : u_T := fun k => match k with
  | 0 => ("RibbonRoads$Past", "kept", "[LRibbonRoads$State;", true)
  | 1 => ("RibbonRoads$Past", "next", "I", false)
  | _ => ("RibbonRoads$Past", "size", "I", false)
def tyX3 : Nat → FieldType := fun k => match k with
  | 0 => .array (.object "RibbonRoads$State")
  | 1 => .int
  | _ => .int
abbrev wsX30 : List Cond := u_ws RX3 TX3 3
theorem nmX3 : ∀ a, a < 3 → ∀ b, b < 3 → a ≠ b → (TX3 a).2.1 ≠ (TX3 b).2.1 := by decide +kernel
theorem tyX3_ok : ∀ k, k < 3 → parseFieldDescriptor (TX3 k).2.2.1 = some (tyX3 k) := by decide +kernel
abbrev cX3_init : ByteArray := prog_5_method_1_code
def yX3_init : MethodName := ⟨RX3, "<init>", "()V"⟩
abbrev cX3_forget : ByteArray := prog_5_method_2_code
def yX3_forget : MethodName := ⟨RX3, "forget", "()V"⟩
abbrev cX3_keep : ByteArray := prog_5_method_3_code
def yX3_keep : MethodName := ⟨RX3, "keep", "(LRibbonRoads$State;)V"⟩
abbrev cX3_bringBack : ByteArray := prog_5_method_4_code
def yX3_bringBack : MethodName := ⟨RX3, "bringBack", "(ILRibbonRoads$State;)V"⟩
def RX4 : String := "RibbonRoads$Piles"
def TX4 : u_T := fun k => match k with
  | 0 => ("RibbonRoads$Piles", "overs", "[I", true)
  | 1 => ("RibbonRoads$Piles", "times", "[I", true)
  | 2 => ("RibbonRoads$Piles", "known", "[I", true)
  | _ => ("RibbonRoads$Piles", "lying", "I", false)
def tyX4 : Nat → FieldType := fun k => match k with
  | 0 => .array .int
  | 1 => .array .int
  | 2 => .array .int
  | _ => .int
abbrev wsX40 : List Cond := u_ws RX4 TX4 4
theorem nmX4 : ∀ a, a < 4 → ∀ b, b < 4 → a ≠ b → (TX4 a).2.1 ≠ (TX4 b).2.1 := by decide +kernel
theorem tyX4_ok : ∀ k, k < 4 → parseFieldDescriptor (TX4 k).2.2.1 = some (tyX4 k) := by decide +kernel
abbrev cX4_init : ByteArray := prog_6_method_1_code
def yX4_init : MethodName := ⟨RX4, "<init>", "()V"⟩
abbrev cX4_lookAt : ByteArray := prog_6_method_2_code
def yX4_lookAt : MethodName := ⟨RX4, "lookAt", "(LRibbonRoads$Land;LRibbonRoads$State;)V"⟩
abbrev cX4_allOver : ByteArray := prog_6_method_3_code
def yX4_allOver : MethodName := ⟨RX4, "allOver", "(I)I"⟩
abbrev cX4_firstFree : ByteArray := prog_6_method_4_code
def yX4_firstFree : MethodName := ⟨RX4, "firstFree", "(I)I"⟩
abbrev cX4_fewestTurned : ByteArray := prog_6_method_5_code
def yX4_fewestTurned : MethodName := ⟨RX4, "fewestTurned", "()I"⟩
abbrev cX4_timesUnder : ByteArray := prog_6_method_6_code
def yX4_timesUnder : MethodName := ⟨RX4, "timesUnder", "(II)I"⟩
abbrev cX4_howManyOrders : ByteArray := prog_6_method_7_code
def yX4_howManyOrders : MethodName := ⟨RX4, "howManyOrders", "()I"⟩
def RX5 : String := "RibbonRoads$Reader"
def TX5 : u_T := fun k => match k with
  | 0 => ("RibbonRoads$Reader", "fault", "I", false)
  | 1 => ("RibbonRoads$Reader", "place", "I", false)
  | 2 => ("RibbonRoads$Reader", "land", "LRibbonRoads$Land;", true)
  | 3 => ("RibbonRoads$Reader", "tokens", "LRibbonRoads$Tokens;", true)
  | 4 => ("RibbonRoads$Reader", "at", "I", false)
  | 5 => ("RibbonRoads$Reader", "law", "LRibbonRoads$Law;", false)
  | _ => ("RibbonRoads$Reader", "inMay", "Z", false)
def tyX5 : Nat → FieldType := fun k => match k with
  | 0 => .int
  | 1 => .int
  | 2 => .object "RibbonRoads$Land"
  | 3 => .object "RibbonRoads$Tokens"
  | 4 => .int
  | 5 => .object "RibbonRoads$Law"
  | _ => .boolean
abbrev wsX50 : List Cond := u_ws RX5 TX5 7
theorem nmX5 : ∀ a, a < 7 → ∀ b, b < 7 → a ≠ b → (TX5 a).2.1 ≠ (TX5 b).2.1 := by decide +kernel
theorem tyX5_ok : ∀ k, k < 7 → parseFieldDescriptor (TX5 k).2.2.1 = some (tyX5 k) := by decide +kernel
abbrev cX5_init : ByteArray := prog_7_method_1_code
def yX5_init : MethodName := ⟨RX5, "<init>", "()V"⟩
abbrev cX5_read : ByteArray := prog_7_method_2_code
def yX5_read : MethodName := ⟨RX5, "read", "([BI)Z"⟩
abbrev cX5_kind : ByteArray := prog_7_method_3_code
def yX5_kind : MethodName := ⟨RX5, "kind", "()I"⟩
abbrev cX5_fail : ByteArray := prog_7_method_4_code
def yX5_fail : MethodName := ⟨RX5, "fail", "(I)Z"⟩
abbrev cX5_skip : ByteArray := prog_7_method_5_code
def yX5_skip : MethodName := ⟨RX5, "skip", "(I)Z"⟩
abbrev cX5_readNumber : ByteArray := prog_7_method_6_code
def yX5_readNumber : MethodName := ⟨RX5, "readNumber", "(II)I"⟩
abbrev cX5_readLand : ByteArray := prog_7_method_7_code
def yX5_readLand : MethodName := ⟨RX5, "readLand", "()Z"⟩
abbrev cX5_readLine : ByteArray := prog_7_method_8_code
def yX5_readLine : MethodName := ⟨RX5, "readLine", "()Z"⟩
abbrev cX5_readWet : ByteArray := prog_7_method_9_code
def yX5_readWet : MethodName := ⟨RX5, "readWet", "()Z"⟩
abbrev cX5_readHour : ByteArray := prog_7_method_10_code
def yX5_readHour : MethodName := ⟨RX5, "readHour", "()Z"⟩
abbrev cX5_readEmptyCell : ByteArray := prog_7_method_11_code
def yX5_readEmptyCell : MethodName := ⟨RX5, "readEmptyCell", "()I"⟩
abbrev cX5_readRock : ByteArray := prog_7_method_12_code
def yX5_readRock : MethodName := ⟨RX5, "readRock", "()Z"⟩
abbrev cX5_readDrum : ByteArray := prog_7_method_13_code
def yX5_readDrum : MethodName := ⟨RX5, "readDrum", "()Z"⟩
abbrev cX5_readTakes : ByteArray := prog_7_method_14_code
def yX5_readTakes : MethodName := ⟨RX5, "readTakes", "()Z"⟩
abbrev cX5_readMay : ByteArray := prog_7_method_15_code
def yX5_readMay : MethodName := ⟨RX5, "readMay", "()Z"⟩
abbrev cX5_readTruth : ByteArray := prog_7_method_16_code
def yX5_readTruth : MethodName := ⟨RX5, "readTruth", "(I)Z"⟩
abbrev cX5_readBoth : ByteArray := prog_7_method_17_code
def yX5_readBoth : MethodName := ⟨RX5, "readBoth", "(I)Z"⟩
abbrev cX5_readUnit : ByteArray := prog_7_method_18_code
def yX5_readUnit : MethodName := ⟨RX5, "readUnit", "(I)Z"⟩
abbrev cX5_readComparison : ByteArray := prog_7_method_19_code
def yX5_readComparison : MethodName := ⟨RX5, "readComparison", "(I)Z"⟩
abbrev cX5_readSum : ByteArray := prog_7_method_20_code
def yX5_readSum : MethodName := ⟨RX5, "readSum", "(I)Z"⟩
abbrev cX5_readTerm : ByteArray := prog_7_method_21_code
def yX5_readTerm : MethodName := ⟨RX5, "readTerm", "(I)Z"⟩
abbrev cX5_readAtom : ByteArray := prog_7_method_22_code
def yX5_readAtom : MethodName := ⟨RX5, "readAtom", "(I)Z"⟩
abbrev cX5_partOf : ByteArray := prog_7_method_23_code
def yX5_partOf : MethodName := ⟨RX5, "partOf", "(I)I"⟩
def RX6 : String := "RibbonRoads$State"
def TX6 : u_T := fun k => match k with
  | 0 => ("RibbonRoads$State", "lengths", "[I", true)
  | 1 => ("RibbonRoads$State", "yards", "[I", true)
  | 2 => ("RibbonRoads$State", "laid", "[I", true)
  | 3 => ("RibbonRoads$State", "took", "[I", true)
  | 4 => ("RibbonRoads$State", "upper", "[I", true)
  | 5 => ("RibbonRoads$State", "lower", "[I", true)
  | 6 => ("RibbonRoads$State", "travellers", "I", false)
  | 7 => ("RibbonRoads$State", "roads", "[I", true)
  | 8 => ("RibbonRoads$State", "places", "[I", true)
  | 9 => ("RibbonRoads$State", "waited", "[I", true)
  | 10 => ("RibbonRoads$State", "wet", "I", false)
  | _ => ("RibbonRoads$State", "hour", "I", false)
def tyX6 : Nat → FieldType := fun k => match k with
  | 0 => .array .int
  | 1 => .array .int
  | 2 => .array .int
  | 3 => .array .int
  | 4 => .array .int
  | 5 => .array .int
  | 6 => .int
  | 7 => .array .int
  | 8 => .array .int
  | 9 => .array .int
  | 10 => .int
  | _ => .int
abbrev wsX60 : List Cond := u_ws RX6 TX6 12
theorem nmX6 : ∀ a, a < 12 → ∀ b, b < 12 → a ≠ b → (TX6 a).2.1 ≠ (TX6 b).2.1 := by decide +kernel
theorem tyX6_ok : ∀ k, k < 12 → parseFieldDescriptor (TX6 k).2.2.1 = some (tyX6 k) := by decide +kernel
abbrev cX6_init : ByteArray := prog_8_method_1_code
def yX6_init : MethodName := ⟨RX6, "<init>", "()V"⟩
abbrev cX6_begin : ByteArray := prog_8_method_2_code
def yX6_begin : MethodName := ⟨RX6, "begin", "(LRibbonRoads$Land;)V"⟩
abbrev cX6_copyOf : ByteArray := prog_8_method_3_code
def yX6_copyOf : MethodName := ⟨RX6, "copyOf", "(LRibbonRoads$State;)V"⟩
abbrev cX6_lying : ByteArray := prog_8_method_4_code
def yX6_lying : MethodName := ⟨RX6, "lying", "(I)I"⟩
abbrev cX6_cellOf : ByteArray := prog_8_method_5_code
def yX6_cellOf : MethodName := ⟨RX6, "cellOf", "(II)I"⟩
abbrev cX6_endOf : ByteArray := prog_8_method_6_code
def yX6_endOf : MethodName := ⟨RX6, "endOf", "(LRibbonRoads$Land;I)I"⟩
abbrev cX6_yardsLying : ByteArray := prog_8_method_7_code
def yX6_yardsLying : MethodName := ⟨RX6, "yardsLying", "(I)I"⟩
abbrev cX6_allYards : ByteArray := prog_8_method_8_code
def yX6_allYards : MethodName := ⟨RX6, "allYards", "(LRibbonRoads$Land;)I"⟩
abbrev cX6_ribbonsLying : ByteArray := prog_8_method_9_code
def yX6_ribbonsLying : MethodName := ⟨RX6, "ribbonsLying", "(LRibbonRoads$Land;)I"⟩
abbrev cX6_crossed : ByteArray := prog_8_method_10_code
def yX6_crossed : MethodName := ⟨RX6, "crossed", "(LRibbonRoads$Land;)I"⟩
abbrev cX6_isUnder : ByteArray := prog_8_method_11_code
def yX6_isUnder : MethodName := ⟨RX6, "isUnder", "(II)Z"⟩
abbrev cX6_isOpen : ByteArray := prog_8_method_12_code
def yX6_isOpen : MethodName := ⟨RX6, "isOpen", "(LRibbonRoads$Land;II)Z"⟩
abbrev cX6_whyNotLaid : ByteArray := prog_8_method_13_code
def yX6_whyNotLaid : MethodName := ⟨RX6, "whyNotLaid", "(LRibbonRoads$Land;II)I"⟩
abbrev cX6_tryLaying : ByteArray := prog_8_method_14_code
def yX6_tryLaying : MethodName := ⟨RX6, "tryLaying", "(LRibbonRoads$Land;IIZ)I"⟩
abbrev cX6_whyNotBack : ByteArray := prog_8_method_15_code
def yX6_whyNotBack : MethodName := ⟨RX6, "whyNotBack", "(LRibbonRoads$Land;I)I"⟩
abbrev cX6_tryBack : ByteArray := prog_8_method_16_code
def yX6_tryBack : MethodName := ⟨RX6, "tryBack", "(LRibbonRoads$Land;I)I"⟩
abbrev cX6_whyNotIn : ByteArray := prog_8_method_17_code
def yX6_whyNotIn : MethodName := ⟨RX6, "whyNotIn", "(LRibbonRoads$Land;I)I"⟩
abbrev cX6_tryIn : ByteArray := prog_8_method_18_code
def yX6_tryIn : MethodName := ⟨RX6, "tryIn", "(LRibbonRoads$Land;I)I"⟩
abbrev cX6_liftLast : ByteArray := prog_8_method_19_code
def yX6_liftLast : MethodName := ⟨RX6, "liftLast", "(LRibbonRoads$Land;I)V"⟩
abbrev cX6_whyNotOut : ByteArray := prog_8_method_20_code
def yX6_whyNotOut : MethodName := ⟨RX6, "whyNotOut", "(LRibbonRoads$Land;I)I"⟩
abbrev cX6_tryOut : ByteArray := prog_8_method_21_code
def yX6_tryOut : MethodName := ⟨RX6, "tryOut", "(LRibbonRoads$Land;I)I"⟩
abbrev cX6_hasTraveller : ByteArray := prog_8_method_22_code
def yX6_hasTraveller : MethodName := ⟨RX6, "hasTraveller", "(I)Z"⟩
abbrev cX6_hasArrived : ByteArray := prog_8_method_23_code
def yX6_hasArrived : MethodName := ⟨RX6, "hasArrived", "(I)Z"⟩
abbrev cX6_travellerOn : ByteArray := prog_8_method_24_code
def yX6_travellerOn : MethodName := ⟨RX6, "travellerOn", "(I)I"⟩
abbrev cX6_onTheWay : ByteArray := prog_8_method_25_code
def yX6_onTheWay : MethodName := ⟨RX6, "onTheWay", "()I"⟩
abbrev cX6_onCells : ByteArray := prog_8_method_26_code
def yX6_onCells : MethodName := ⟨RX6, "onCells", "()I"⟩
abbrev cX6_passHour : ByteArray := prog_8_method_27_code
def yX6_passHour : MethodName := ⟨RX6, "passHour", "()I"⟩
abbrev cX6_goOn : ByteArray := prog_8_method_28_code
def yX6_goOn : MethodName := ⟨RX6, "goOn", "(I)V"⟩
abbrev cX6_deedOver : ByteArray := prog_8_method_29_code
def yX6_deedOver : MethodName := ⟨RX6, "deedOver", "(II)I"⟩
abbrev cX6_follow : ByteArray := prog_8_method_30_code
def yX6_follow : MethodName := ⟨RX6, "follow", "(LRibbonRoads$Land;J)I"⟩
abbrev cX6_followAll : ByteArray := prog_8_method_31_code
def yX6_followAll : MethodName := ⟨RX6, "followAll", "(LRibbonRoads$Land;LRibbonRoads$Tray;)I"⟩
abbrev cX6_followSeason : ByteArray := prog_8_method_32_code
def yX6_followSeason : MethodName := ⟨RX6, "followSeason", "(LRibbonRoads$Land;II)I"⟩
abbrev cX6_drawn : ByteArray := prog_8_method_33_code
def yX6_drawn : MethodName := ⟨RX6, "drawn", "(I)I"⟩
def RX7 : String := "RibbonRoads$Tokens"
def TX7 : u_T := fun k => match k with
  | 0 => ("RibbonRoads$Tokens", "kinds", "[I", true)
  | 1 => ("RibbonRoads$Tokens", "values", "[I", true)
  | 2 => ("RibbonRoads$Tokens", "places", "[I", true)
  | _ => ("RibbonRoads$Tokens", "size", "I", false)
def tyX7 : Nat → FieldType := fun k => match k with
  | 0 => .array .int
  | 1 => .array .int
  | 2 => .array .int
  | _ => .int
abbrev wsX70 : List Cond := u_ws RX7 TX7 4
theorem nmX7 : ∀ a, a < 4 → ∀ b, b < 4 → a ≠ b → (TX7 a).2.1 ≠ (TX7 b).2.1 := by decide +kernel
theorem tyX7_ok : ∀ k, k < 4 → parseFieldDescriptor (TX7 k).2.2.1 = some (tyX7 k) := by decide +kernel
abbrev cX7_init : ByteArray := prog_9_method_1_code
def yX7_init : MethodName := ⟨RX7, "<init>", "()V"⟩
abbrev cX7_kind : ByteArray := prog_9_method_2_code
def yX7_kind : MethodName := ⟨RX7, "kind", "(I)I"⟩
abbrev cX7_value : ByteArray := prog_9_method_3_code
def yX7_value : MethodName := ⟨RX7, "value", "(I)I"⟩
abbrev cX7_place : ByteArray := prog_9_method_4_code
def yX7_place : MethodName := ⟨RX7, "place", "(I)I"⟩
abbrev cX7_cut : ByteArray := prog_9_method_5_code
def yX7_cut : MethodName := ⟨RX7, "cut", "([BI)V"⟩
abbrev cX7_cutNumber : ByteArray := prog_9_method_6_code
def yX7_cutNumber : MethodName := ⟨RX7, "cutNumber", "([BII)I"⟩
abbrev cX7_cutWord : ByteArray := prog_9_method_7_code
def yX7_cutWord : MethodName := ⟨RX7, "cutWord", "([BII)I"⟩
abbrev cX7_add : ByteArray := prog_9_method_8_code
def yX7_add : MethodName := ⟨RX7, "add", "(III)V"⟩
abbrev cX7_isDigit : ByteArray := prog_9_method_9_code
def yX7_isDigit : MethodName := ⟨RX7, "isDigit", "(I)Z"⟩
abbrev cX7_isLetter : ByteArray := prog_9_method_10_code
def yX7_isLetter : MethodName := ⟨RX7, "isLetter", "(I)Z"⟩
abbrev cX7_wordOf : ByteArray := prog_9_method_11_code
def yX7_wordOf : MethodName := ⟨RX7, "wordOf", "([BII)I"⟩
abbrev cX7_spells : ByteArray := prog_9_method_12_code
def yX7_spells : MethodName := ⟨RX7, "spells", "([BIILjava/lang/String;)Z"⟩
def RX8 : String := "RibbonRoads$Tray"
def TX8 : u_T := fun k => match k with
  | 0 => ("RibbonRoads$Tray", "held", "[J", true)
  | 1 => ("RibbonRoads$Tray", "sort", "I", false)
  | _ => ("RibbonRoads$Tray", "size", "I", false)
def tyX8 : Nat → FieldType := fun k => match k with
  | 0 => .array .long
  | 1 => .int
  | _ => .int
abbrev wsX80 : List Cond := u_ws RX8 TX8 3
theorem nmX8 : ∀ a, a < 3 → ∀ b, b < 3 → a ≠ b → (TX8 a).2.1 ≠ (TX8 b).2.1 := by decide +kernel
theorem tyX8_ok : ∀ k, k < 3 → parseFieldDescriptor (TX8 k).2.2.1 = some (tyX8 k) := by decide +kernel
abbrev cX8_init : ByteArray := prog_10_method_1_code
def yX8_init : MethodName := ⟨RX8, "<init>", "()V"⟩
abbrev cX8_isMissing : ByteArray := prog_10_method_2_code
def yX8_isMissing : MethodName := ⟨RX8, "isMissing", "()Z"⟩
abbrev cX8_begin : ByteArray := prog_10_method_3_code
def yX8_begin : MethodName := ⟨RX8, "begin", "(II)V"⟩
abbrev cX8_number : ByteArray := prog_10_method_4_code
def yX8_number : MethodName := ⟨RX8, "number", "(I)J"⟩
abbrev cX8_put : ByteArray := prog_10_method_5_code
def yX8_put : MethodName := ⟨RX8, "put", "(IJ)J"⟩
def RX9 : String := "RibbonRoads$Ways"
def TX9 : u_T := fun k => match k with
  | 0 => ("RibbonRoads$Ways", "least", "[I", true)
  | 1 => ("RibbonRoads$Ways", "steps", "[I", true)
  | 2 => ("RibbonRoads$Ways", "passed", "[J", true)
  | 3 => ("RibbonRoads$Ways", "turns", "[J", true)
  | 4 => ("RibbonRoads$Ways", "newLeast", "[I", true)
  | 5 => ("RibbonRoads$Ways", "newPassed", "[J", true)
  | 6 => ("RibbonRoads$Ways", "newTurns", "[J", true)
  | 7 => ("RibbonRoads$Ways", "costs", "[I", true)
  | 8 => ("RibbonRoads$Ways", "leads", "[I", true)
  | 9 => ("RibbonRoads$Ways", "cells", "I", false)
  | 10 => ("RibbonRoads$Ways", "wide", "I", false)
  | 11 => ("RibbonRoads$Ways", "start", "I", false)
  | 12 => ("RibbonRoads$Ways", "longest", "I", false)
  | 13 => ("RibbonRoads$Ways", "open", "J", false)
  | 14 => ("RibbonRoads$Ways", "crossed", "J", false)
  | 15 => ("RibbonRoads$Ways", "eastEdge", "J", false)
  | _ => ("RibbonRoads$Ways", "westEdge", "J", false)
def tyX9 : Nat → FieldType := fun k => match k with
  | 0 => .array .int
  | 1 => .array .int
  | 2 => .array .long
  | 3 => .array .long
  | 4 => .array .int
  | 5 => .array .long
  | 6 => .array .long
  | 7 => .array .int
  | 8 => .array .int
  | 9 => .int
  | 10 => .int
  | 11 => .int
  | 12 => .int
  | 13 => .long
  | 14 => .long
  | 15 => .long
  | _ => .long
abbrev wsX90 : List Cond := u_ws RX9 TX9 17
theorem nmX9 : ∀ a, a < 17 → ∀ b, b < 17 → a ≠ b → (TX9 a).2.1 ≠ (TX9 b).2.1 := by decide +kernel
theorem tyX9_ok : ∀ k, k < 17 → parseFieldDescriptor (TX9 k).2.2.1 = some (tyX9 k) := by decide +kernel
abbrev cX9_init : ByteArray := prog_11_method_1_code
def yX9_init : MethodName := ⟨RX9, "<init>", "()V"⟩
abbrev cX9_comesTo : ByteArray := prog_11_method_2_code
def yX9_comesTo : MethodName := ⟨RX9, "comesTo", "(I)Z"⟩
abbrev cX9_begin : ByteArray := prog_11_method_3_code
def yX9_begin : MethodName := ⟨RX9, "begin", "(LRibbonRoads$Land;LRibbonRoads$State;I)V"⟩
abbrev cX9_findShort : ByteArray := prog_11_method_4_code
def yX9_findShort : MethodName := ⟨RX9, "findShort", "(LRibbonRoads$Land;LRibbonRoads$State;I)V"⟩
abbrev cX9_findLeastCrossed : ByteArray := prog_11_method_5_code
def yX9_findLeastCrossed : MethodName := ⟨RX9, "findLeastCrossed", "(LRibbonRoads$Land;LRibbonRoads$State;I)V"⟩
abbrev cX9_find : ByteArray := prog_11_method_6_code
def yX9_find : MethodName := ⟨RX9, "find", "()V"⟩
abbrev cX9_findNext : ByteArray := prog_11_method_7_code
def yX9_findNext : MethodName := ⟨RX9, "findNext", "(IJ)J"⟩
abbrev cX9_betters : ByteArray := prog_11_method_8_code
def yX9_betters : MethodName := ⟨RX9, "betters", "(IIIJ)Z"⟩
abbrev cX9_withTurn : ByteArray := prog_11_method_9_code
def yX9_withTurn : MethodName := ⟨RX9, "withTurn", "(JI)J"⟩
abbrev cX9_turnOf : ByteArray := prog_11_method_10_code
def yX9_turnOf : MethodName := ⟨RX9, "turnOf", "(II)I"⟩
abbrev cX9_endsBy : ByteArray := prog_11_method_11_code
def yX9_endsBy : MethodName := ⟨RX9, "endsBy", "(J)J"⟩
abbrev cX9_reachesWithout : ByteArray := prog_11_method_12_code
def yX9_reachesWithout : MethodName := ⟨RX9, "reachesWithout", "(II)Z"⟩
abbrev cX9_besideAll : ByteArray := prog_11_method_13_code
def yX9_besideAll : MethodName := ⟨RX9, "besideAll", "(J)J"⟩
abbrev cX9_howMany : ByteArray := prog_11_method_14_code
def yX9_howMany : MethodName := ⟨RX9, "howMany", "(II)I"⟩
abbrev cX9_manyFrom : ByteArray := prog_11_method_15_code
def yX9_manyFrom : MethodName := ⟨RX9, "manyFrom", "(IIIJ)I"⟩
abbrev cX9_apart : ByteArray := prog_11_method_16_code
def yX9_apart : MethodName := ⟨RX9, "apart", "(II)I"⟩
abbrev cX9_leadOf : ByteArray := prog_11_method_17_code
def yX9_leadOf : MethodName := ⟨RX9, "leadOf", "(II)I"⟩
abbrev cX9_isIn : ByteArray := prog_11_method_18_code
def yX9_isIn : MethodName := ⟨RX9, "isIn", "(JI)Z"⟩
def RX10 : String := "RibbonRoads"
def TX10 : u_T := fun k => match k with
  | 0 => ("RibbonRoads", "tape", "[B", true)
  | 1 => ("RibbonRoads", "taped", "I", false)
  | 2 => ("RibbonRoads", "reader", "LRibbonRoads$Reader;", true)
  | 3 => ("RibbonRoads", "here", "LRibbonRoads$Land;", true)
  | 4 => ("RibbonRoads", "now", "LRibbonRoads$State;", true)
  | 5 => ("RibbonRoads", "trial", "LRibbonRoads$State;", true)
  | 6 => ("RibbonRoads", "past", "LRibbonRoads$Past;", true)
  | 7 => ("RibbonRoads", "trays", "[LRibbonRoads$Tray;", true)
  | 8 => ("RibbonRoads", "images", "[LRibbonRoads$Image;", true)
  | 9 => ("RibbonRoads", "search", "LRibbonRoads$Ways;", true)
  | _ => ("RibbonRoads", "piles", "LRibbonRoads$Piles;", true)
def tyX10 : Nat → FieldType := fun k => match k with
  | 0 => .array .byte
  | 1 => .int
  | 2 => .object "RibbonRoads$Reader"
  | 3 => .object "RibbonRoads$Land"
  | 4 => .object "RibbonRoads$State"
  | 5 => .object "RibbonRoads$State"
  | 6 => .object "RibbonRoads$Past"
  | 7 => .array (.object "RibbonRoads$Tray")
  | 8 => .array (.object "RibbonRoads$Image")
  | 9 => .object "RibbonRoads$Ways"
  | _ => .object "RibbonRoads$Piles"
abbrev wsX100 : List Cond := u_ws RX10 TX10 11
theorem nmX10 : ∀ a, a < 11 → ∀ b, b < 11 → a ≠ b → (TX10 a).2.1 ≠ (TX10 b).2.1 := by decide +kernel
theorem tyX10_ok : ∀ k, k < 11 → parseFieldDescriptor (TX10 k).2.2.1 = some (tyX10 k) := by decide +kernel
abbrev cX10_init : ByteArray := prog_1_method_1_code
def yX10_init : MethodName := ⟨RX10, "<init>", "()V"⟩
abbrev cX10_feed : ByteArray := prog_1_method_2_code
def yX10_feed : MethodName := ⟨RX10, "feed", "(IIIII)I"⟩
abbrev cX10_putOnTape : ByteArray := prog_1_method_3_code
def yX10_putOnTape : MethodName := ⟨RX10, "putOnTape", "(I)V"⟩
abbrev cX10_land : ByteArray := prog_1_method_4_code
def yX10_land : MethodName := ⟨RX10, "land", "(I)I"⟩
abbrev cX10_fault : ByteArray := prog_1_method_5_code
def yX10_fault : MethodName := ⟨RX10, "fault", "(I)I"⟩
abbrev cX10_cell : ByteArray := prog_1_method_6_code
def yX10_cell : MethodName := ⟨RX10, "cell", "(II)I"⟩
abbrev cX10_drum : ByteArray := prog_1_method_7_code
def yX10_drum : MethodName := ⟨RX10, "drum", "(II)I"⟩
abbrev cX10_lies : ByteArray := prog_1_method_8_code
def yX10_lies : MethodName := ⟨RX10, "lies", "(II)I"⟩
abbrev cX10_traveller : ByteArray := prog_1_method_9_code
def yX10_traveller : MethodName := ⟨RX10, "traveller", "(II)I"⟩
abbrev cX10_takes : ByteArray := prog_1_method_10_code
def yX10_takes : MethodName := ⟨RX10, "takes", "(II)I"⟩
abbrev cX10_why : ByteArray := prog_1_method_11_code
def yX10_why : MethodName := ⟨RX10, "why", "(II)I"⟩
abbrev cX10_lay : ByteArray := prog_1_method_12_code
def yX10_lay : MethodName := ⟨RX10, "lay", "(IIZ)I"⟩
abbrev cX10_back : ByteArray := prog_1_method_13_code
def yX10_back : MethodName := ⟨RX10, "back", "(I)I"⟩
abbrev cX10_takeIn : ByteArray := prog_1_method_14_code
def yX10_takeIn : MethodName := ⟨RX10, "takeIn", "(I)I"⟩
abbrev cX10_setOut : ByteArray := prog_1_method_15_code
def yX10_setOut : MethodName := ⟨RX10, "setOut", "(I)I"⟩
abbrev cX10_turn : ByteArray := prog_1_method_16_code
def yX10_turn : MethodName := ⟨RX10, "turn", "(I)I"⟩
abbrev cX10_rain : ByteArray := prog_1_method_17_code
def yX10_rain : MethodName := ⟨RX10, "rain", "(I)I"⟩
abbrev cX10_hours : ByteArray := prog_1_method_18_code
def yX10_hours : MethodName := ⟨RX10, "hours", "(I)I"⟩
abbrev cX10_undo : ByteArray := prog_1_method_19_code
def yX10_undo : MethodName := ⟨RX10, "undo", "(I)I"⟩
abbrev cX10_judge : ByteArray := prog_1_method_20_code
def yX10_judge : MethodName := ⟨RX10, "judge", "(II)I"⟩
abbrev cX10_perform : ByteArray := prog_1_method_21_code
def yX10_perform : MethodName := ⟨RX10, "perform", "(I)I"⟩
abbrev cX10_season : ByteArray := prog_1_method_22_code
def yX10_season : MethodName := ⟨RX10, "season", "(II)I"⟩
abbrev cX10_takeOverTrial : ByteArray := prog_1_method_23_code
def yX10_takeOverTrial : MethodName := ⟨RX10, "takeOverTrial", "(I)V"⟩
abbrev cX10_reach : ByteArray := prog_1_method_24_code
def yX10_reach : MethodName := ⟨RX10, "reach", "(I)J"⟩
abbrev cX10_fewest : ByteArray := prog_1_method_25_code
def yX10_fewest : MethodName := ⟨RX10, "fewest", "(II)I"⟩
abbrev cX10_way : ByteArray := prog_1_method_26_code
def yX10_way : MethodName := ⟨RX10, "way", "(III)I"⟩
abbrev cX10_ways : ByteArray := prog_1_method_27_code
def yX10_ways : MethodName := ⟨RX10, "ways", "(III)I"⟩
abbrev cX10_crossings : ByteArray := prog_1_method_28_code
def yX10_crossings : MethodName := ⟨RX10, "crossings", "(II)I"⟩
abbrev cX10_needed : ByteArray := prog_1_method_29_code
def yX10_needed : MethodName := ⟨RX10, "needed", "(II)J"⟩
abbrev cX10_farthest : ByteArray := prog_1_method_30_code
def yX10_farthest : MethodName := ⟨RX10, "farthest", "(I)I"⟩
abbrev cX10_above : ByteArray := prog_1_method_31_code
def yX10_above : MethodName := ⟨RX10, "above", "(I)I"⟩
abbrev cX10_ahead : ByteArray := prog_1_method_32_code
def yX10_ahead : MethodName := ⟨RX10, "ahead", "(I)I"⟩
abbrev cX10_order : ByteArray := prog_1_method_33_code
def yX10_order : MethodName := ⟨RX10, "order", "(I)I"⟩
abbrev cX10_stuck : ByteArray := prog_1_method_34_code
def yX10_stuck : MethodName := ⟨RX10, "stuck", "()I"⟩
abbrev cX10_twists : ByteArray := prog_1_method_35_code
def yX10_twists : MethodName := ⟨RX10, "twists", "()I"⟩
abbrev cX10_orders : ByteArray := prog_1_method_36_code
def yX10_orders : MethodName := ⟨RX10, "orders", "()I"⟩
abbrev cX10_arrives : ByteArray := prog_1_method_37_code
def yX10_arrives : MethodName := ⟨RX10, "arrives", "(I)I"⟩
abbrev cX10_hoursTillIn : ByteArray := prog_1_method_38_code
def yX10_hoursTillIn : MethodName := ⟨RX10, "hoursTillIn", "(I)I"⟩
abbrev cX10_waits : ByteArray := prog_1_method_39_code
def yX10_waits : MethodName := ⟨RX10, "waits", "(I)I"⟩
abbrev cX10_allIn : ByteArray := prog_1_method_40_code
def yX10_allIn : MethodName := ⟨RX10, "allIn", "()I"⟩
abbrev cX10_free : ByteArray := prog_1_method_41_code
def yX10_free : MethodName := ⟨RX10, "free", "(I)I"⟩
abbrev cX10_busiest : ByteArray := prog_1_method_42_code
def yX10_busiest : MethodName := ⟨RX10, "busiest", "()I"⟩
abbrev cX10_wouldArrive : ByteArray := prog_1_method_43_code
def yX10_wouldArrive : MethodName := ⟨RX10, "wouldArrive", "(I)I"⟩
abbrev cX10_faded : ByteArray := prog_1_method_44_code
def yX10_faded : MethodName := ⟨RX10, "faded", "(II)J"⟩
abbrev cX10_manyFaded : ByteArray := prog_1_method_45_code
def yX10_manyFaded : MethodName := ⟨RX10, "manyFaded", "(II)I"⟩
abbrev cX10_look : ByteArray := prog_1_method_46_code
def yX10_look : MethodName := ⟨RX10, "look", "(II)I"⟩
abbrev cX10_whyNotFaded : ByteArray := prog_1_method_47_code
def yX10_whyNotFaded : MethodName := ⟨RX10, "whyNotFaded", "(II)I"⟩
abbrev cX10_fadedCells : ByteArray := prog_1_method_48_code
def yX10_fadedCells : MethodName := ⟨RX10, "fadedCells", "(II)J"⟩
abbrev cX10_isTray : ByteArray := prog_1_method_49_code
def yX10_isTray : MethodName := ⟨RX10, "isTray", "(I)Z"⟩
abbrev cX10_numbers : ByteArray := prog_1_method_50_code
def yX10_numbers : MethodName := ⟨RX10, "numbers", "(III)I"⟩
abbrev cX10_write : ByteArray := prog_1_method_51_code
def yX10_write : MethodName := ⟨RX10, "write", "(IIJ)J"⟩
abbrev cX10_lists : ByteArray := prog_1_method_52_code
def yX10_lists : MethodName := ⟨RX10, "lists", "(III)I"⟩
abbrev cX10_image : ByteArray := prog_1_method_53_code
def yX10_image : MethodName := ⟨RX10, "image", "(I)I"⟩
abbrev cX10_restore : ByteArray := prog_1_method_54_code
def yX10_restore : MethodName := ⟨RX10, "restore", "(I)I"⟩
abbrev cX10_count : ByteArray := prog_1_method_55_code
def yX10_count : MethodName := ⟨RX10, "count", "(I)I"⟩
def RX11 : String := "RibbonRoadsModel"
def TX11 : u_T := fun k => match k with
  | 0 => ("RibbonRoadsModel", "thrown", "I", false)
  | 1 => ("RibbonRoadsModel", "all", "[I", true)
  | 2 => ("RibbonRoadsModel", "hasImage", "[Z", true)
  | 3 => ("RibbonRoadsModel", "tape", "[I", true)
  | 4 => ("RibbonRoadsModel", "fresh", "[I", true)
  | 5 => ("RibbonRoadsModel", "taped", "I", false)
  | 6 => ("RibbonRoadsModel", "at", "I", false)
  | 7 => ("RibbonRoadsModel", "behind", "I", false)
  | 8 => ("RibbonRoadsModel", "size", "I", false)
  | 9 => ("RibbonRoadsModel", "kind", "I", false)
  | 10 => ("RibbonRoadsModel", "number", "I", false)
  | 11 => ("RibbonRoadsModel", "wrong", "I", false)
  | 12 => ("RibbonRoadsModel", "wrongAt", "I", false)
  | 13 => ("RibbonRoadsModel", "faultKind", "I", false)
  | 14 => ("RibbonRoadsModel", "faultPlace", "I", false)
  | 15 => ("RibbonRoadsModel", "reading", "I", false)
  | 16 => ("RibbonRoadsModel", "reckoned", "[I", true)
  | 17 => ("RibbonRoadsModel", "words", "[I", true)
  | 18 => ("RibbonRoadsModel", "was", "[I", true)
  | 19 => ("RibbonRoadsModel", "toldWhy", "I", false)
  | 20 => ("RibbonRoadsModel", "x", "I", false)
  | 21 => ("RibbonRoadsModel", "least", "[I", true)
  | 22 => ("RibbonRoadsModel", "open", "[Z", true)
  | 23 => ("RibbonRoadsModel", "price", "[I", true)
  | 24 => ("RibbonRoadsModel", "rockToo", "I", false)
  | 25 => ("RibbonRoadsModel", "turnsOf", "[I", true)
  | 26 => ("RibbonRoadsModel", "comesBy", "J", false)
  | 27 => ("RibbonRoadsModel", "by", "[J", true)
  | 28 => ("RibbonRoadsModel", "rowSort", "[I", true)
  | 29 => ("RibbonRoadsModel", "rowMany", "[I", true)
  | _ => ("RibbonRoadsModel", "numbers", "[J", true)
def tyX11 : Nat → FieldType := fun k => match k with
  | 0 => .int
  | 1 => .array .int
  | 2 => .array .boolean
  | 3 => .array .int
  | 4 => .array .int
  | 5 => .int
  | 6 => .int
  | 7 => .int
  | 8 => .int
  | 9 => .int
  | 10 => .int
  | 11 => .int
  | 12 => .int
  | 13 => .int
  | 14 => .int
  | 15 => .int
  | 16 => .array .int
  | 17 => .array .int
  | 18 => .array .int
  | 19 => .int
  | 20 => .int
  | 21 => .array .int
  | 22 => .array .boolean
  | 23 => .array .int
  | 24 => .int
  | 25 => .array .int
  | 26 => .long
  | 27 => .array .long
  | 28 => .array .int
  | 29 => .array .int
  | _ => .array .long
abbrev wsX110 : List Cond := u_ws RX11 TX11 31
theorem nmX11 : ∀ a, a < 31 → ∀ b, b < 31 → a ≠ b → (TX11 a).2.1 ≠ (TX11 b).2.1 := by decide +kernel
theorem tyX11_ok : ∀ k, k < 31 → parseFieldDescriptor (TX11 k).2.2.1 = some (tyX11 k) := by decide +kernel
abbrev cX11_within : ByteArray := prog_13_method_2_code
def yX11_within : MethodName := ⟨RX11, "within", "(JJJ)Z"⟩
abbrev cX11_init : ByteArray := prog_13_method_3_code
def yX11_init : MethodName := ⟨RX11, "<init>", "()V"⟩
abbrev cX11_plain : ByteArray := prog_13_method_4_code
def yX11_plain : MethodName := ⟨RX11, "plain", "([I)V"⟩
abbrev cX11_feed : ByteArray := prog_13_method_5_code
def yX11_feed : MethodName := ⟨RX11, "feed", "(IIIII)I"⟩
abbrev cX11_see : ByteArray := prog_13_method_6_code
def yX11_see : MethodName := ⟨RX11, "see", "(I)I"⟩
abbrev cX11_isSmall : ByteArray := prog_13_method_7_code
def yX11_isSmall : MethodName := ⟨RX11, "isSmall", "(I)Z"⟩
abbrev cX11_isDigit : ByteArray := prog_13_method_8_code
def yX11_isDigit : MethodName := ⟨RX11, "isDigit", "(I)Z"⟩
abbrev cX11_keyAt : ByteArray := prog_13_method_9_code
def yX11_keyAt : MethodName := ⟨RX11, "keyAt", "()I"⟩
abbrev cX11_next : ByteArray := prog_13_method_10_code
def yX11_next : MethodName := ⟨RX11, "next", "()V"⟩
abbrev cX11_fails : ByteArray := prog_13_method_11_code
def yX11_fails : MethodName := ⟨RX11, "fails", "(I)V"⟩
abbrev cX11_is : ByteArray := prog_13_method_12_code
def yX11_is : MethodName := ⟨RX11, "is", "(I)Z"⟩
abbrev cX11_eats : ByteArray := prog_13_method_13_code
def yX11_eats : MethodName := ⟨RX11, "eats", "(I)Z"⟩
abbrev cX11_takesN : ByteArray := prog_13_method_14_code
def yX11_takesN : MethodName := ⟨RX11, "takesN", "(II)I"⟩
abbrev cX11_isIn : ByteArray := prog_13_method_15_code
def yX11_isIn : MethodName := ⟨RX11, "isIn", "(JI)Z"⟩
abbrev cX11_wordOf : ByteArray := prog_13_method_16_code
def yX11_wordOf : MethodName := ⟨RX11, "wordOf", "(I)I"⟩
abbrev cX11_codes : ByteArray := prog_13_method_17_code
def yX11_codes : MethodName := ⟨RX11, "codes", "(I)V"⟩
abbrev cX11_goesIn : ByteArray := prog_13_method_18_code
def yX11_goesIn : MethodName := ⟨RX11, "goesIn", "(I)Z"⟩
abbrev cX11_readAtom : ByteArray := prog_13_method_19_code
def yX11_readAtom : MethodName := ⟨RX11, "readAtom", "(I)V"⟩
abbrev cX11_readTerm : ByteArray := prog_13_method_20_code
def yX11_readTerm : MethodName := ⟨RX11, "readTerm", "(I)V"⟩
abbrev cX11_readSum : ByteArray := prog_13_method_21_code
def yX11_readSum : MethodName := ⟨RX11, "readSum", "(I)V"⟩
abbrev cX11_readUnit : ByteArray := prog_13_method_22_code
def yX11_readUnit : MethodName := ⟨RX11, "readUnit", "(I)V"⟩
abbrev cX11_readBoth : ByteArray := prog_13_method_23_code
def yX11_readBoth : MethodName := ⟨RX11, "readBoth", "(I)V"⟩
abbrev cX11_readTruth : ByteArray := prog_13_method_24_code
def yX11_readTruth : MethodName := ⟨RX11, "readTruth", "(I)V"⟩
abbrev cX11_isDrumIn : ByteArray := prog_13_method_25_code
def yX11_isDrumIn : MethodName := ⟨RX11, "isDrumIn", "(I)Z"⟩
abbrev cX11_readCell : ByteArray := prog_13_method_26_code
def yX11_readCell : MethodName := ⟨RX11, "readCell", "()I"⟩
abbrev cX11_readRock : ByteArray := prog_13_method_27_code
def yX11_readRock : MethodName := ⟨RX11, "readRock", "()V"⟩
abbrev cX11_readDrum : ByteArray := prog_13_method_28_code
def yX11_readDrum : MethodName := ⟨RX11, "readDrum", "()V"⟩
abbrev cX11_readLaw : ByteArray := prog_13_method_29_code
def yX11_readLaw : MethodName := ⟨RX11, "readLaw", "(I)V"⟩
abbrev cX11_readLine : ByteArray := prog_13_method_30_code
def yX11_readLine : MethodName := ⟨RX11, "readLine", "()V"⟩
abbrev cX11_ends : ByteArray := prog_13_method_31_code
def yX11_ends : MethodName := ⟨RX11, "ends", "()V"⟩
abbrev cX11_land : ByteArray := prog_13_method_32_code
def yX11_land : MethodName := ⟨RX11, "land", "(I)I"⟩
abbrev cX11_fault : ByteArray := prog_13_method_33_code
def yX11_fault : MethodName := ⟨RX11, "fault", "(I)I"⟩
abbrev cX11_cells : ByteArray := prog_13_method_34_code
def yX11_cells : MethodName := ⟨RX11, "cells", "()I"⟩
abbrev cX11_isCell : ByteArray := prog_13_method_35_code
def yX11_isCell : MethodName := ⟨RX11, "isCell", "(J)Z"⟩
abbrev cX11_isDrum : ByteArray := prog_13_method_36_code
def yX11_isDrum : MethodName := ⟨RX11, "isDrum", "(J)Z"⟩
abbrev cX11_isGoer : ByteArray := prog_13_method_37_code
def yX11_isGoer : MethodName := ⟨RX11, "isGoer", "(J)Z"⟩
abbrev cX11_bitsOf : ByteArray := prog_13_method_38_code
def yX11_bitsOf : MethodName := ⟨RX11, "bitsOf", "(I)I"⟩
abbrev cX11_beside : ByteArray := prog_13_method_39_code
def yX11_beside : MethodName := ⟨RX11, "beside", "(II)I"⟩
abbrev cX11_endOf : ByteArray := prog_13_method_40_code
def yX11_endOf : MethodName := ⟨RX11, "endOf", "(I)I"⟩
abbrev cX11_lieOn : ByteArray := prog_13_method_41_code
def yX11_lieOn : MethodName := ⟨RX11, "lieOn", "(I)I"⟩
abbrev cX11_isHome : ByteArray := prog_13_method_42_code
def yX11_isHome : MethodName := ⟨RX11, "isHome", "(I)Z"⟩
abbrev cX11_between : ByteArray := prog_13_method_43_code
def yX11_between : MethodName := ⟨RX11, "between", "(III)I"⟩
abbrev cX11_reckons : ByteArray := prog_13_method_44_code
def yX11_reckons : MethodName := ⟨RX11, "reckons", "(III)I"⟩
abbrev cX11_costOf : ByteArray := prog_13_method_45_code
def yX11_costOf : MethodName := ⟨RX11, "costOf", "(II)I"⟩
abbrev cX11_lets : ByteArray := prog_13_method_46_code
def yX11_lets : MethodName := ⟨RX11, "lets", "(II)Z"⟩
abbrev cX11_isOpen : ByteArray := prog_13_method_47_code
def yX11_isOpen : MethodName := ⟨RX11, "isOpen", "(II)Z"⟩
abbrev cX11_goerOn : ByteArray := prog_13_method_48_code
def yX11_goerOn : MethodName := ⟨RX11, "goerOn", "(I)I"⟩
abbrev cX11_cellOf : ByteArray := prog_13_method_49_code
def yX11_cellOf : MethodName := ⟨RX11, "cellOf", "(I)I"⟩
abbrev cX11_cell : ByteArray := prog_13_method_50_code
def yX11_cell : MethodName := ⟨RX11, "cell", "(II)I"⟩
abbrev cX11_drum : ByteArray := prog_13_method_51_code
def yX11_drum : MethodName := ⟨RX11, "drum", "(II)I"⟩
abbrev cX11_tookBy : ByteArray := prog_13_method_52_code
def yX11_tookBy : MethodName := ⟨RX11, "tookBy", "(I)I"⟩
abbrev cX11_lies : ByteArray := prog_13_method_53_code
def yX11_lies : MethodName := ⟨RX11, "lies", "(II)I"⟩
abbrev cX11_traveller : ByteArray := prog_13_method_54_code
def yX11_traveller : MethodName := ⟨RX11, "traveller", "(II)I"⟩
abbrev cX11_takes : ByteArray := prog_13_method_55_code
def yX11_takes : MethodName := ⟨RX11, "takes", "(II)I"⟩
abbrev cX11_keeps : ByteArray := prog_13_method_56_code
def yX11_keeps : MethodName := ⟨RX11, "keeps", "()V"⟩
abbrev cX11_isAgain : ByteArray := prog_13_method_57_code
def yX11_isAgain : MethodName := ⟨RX11, "isAgain", "()V"⟩
abbrev cX11_notes : ByteArray := prog_13_method_58_code
def yX11_notes : MethodName := ⟨RX11, "notes", "()V"⟩
abbrev cX11_whyLay : ByteArray := prog_13_method_59_code
def yX11_whyLay : MethodName := ⟨RX11, "whyLay", "(JJ)I"⟩
abbrev cX11_lays : ByteArray := prog_13_method_60_code
def yX11_lays : MethodName := ⟨RX11, "lays", "(IIZ)V"⟩
abbrev cX11_takesOff : ByteArray := prog_13_method_61_code
def yX11_takesOff : MethodName := ⟨RX11, "takesOff", "(I)V"⟩
abbrev cX11_whyBack : ByteArray := prog_13_method_62_code
def yX11_whyBack : MethodName := ⟨RX11, "whyBack", "(J)I"⟩
abbrev cX11_whyIn : ByteArray := prog_13_method_63_code
def yX11_whyIn : MethodName := ⟨RX11, "whyIn", "(J)I"⟩
abbrev cX11_whyOut : ByteArray := prog_13_method_64_code
def yX11_whyOut : MethodName := ⟨RX11, "whyOut", "(J)I"⟩
abbrev cX11_setsOut : ByteArray := prog_13_method_65_code
def yX11_setsOut : MethodName := ⟨RX11, "setsOut", "(I)V"⟩
abbrev cX11_takesAll : ByteArray := prog_13_method_66_code
def yX11_takesAll : MethodName := ⟨RX11, "takesAll", "(I)V"⟩
abbrev cX11_why : ByteArray := prog_13_method_67_code
def yX11_why : MethodName := ⟨RX11, "why", "(II)I"⟩
abbrev cX11_lay : ByteArray := prog_13_method_68_code
def yX11_lay : MethodName := ⟨RX11, "lay", "(IIZ)I"⟩
abbrev cX11_back : ByteArray := prog_13_method_69_code
def yX11_back : MethodName := ⟨RX11, "back", "(I)I"⟩
abbrev cX11_takeIn : ByteArray := prog_13_method_70_code
def yX11_takeIn : MethodName := ⟨RX11, "takeIn", "(I)I"⟩
abbrev cX11_setOut : ByteArray := prog_13_method_71_code
def yX11_setOut : MethodName := ⟨RX11, "setOut", "(I)I"⟩
abbrev cX11_turn : ByteArray := prog_13_method_72_code
def yX11_turn : MethodName := ⟨RX11, "turn", "(I)I"⟩
abbrev cX11_rain : ByteArray := prog_13_method_73_code
def yX11_rain : MethodName := ⟨RX11, "rain", "(I)I"⟩
abbrev cX11_goes : ByteArray := prog_13_method_74_code
def yX11_goes : MethodName := ⟨RX11, "goes", "(I)Z"⟩
abbrev cX11_goesHour : ByteArray := prog_13_method_75_code
def yX11_goesHour : MethodName := ⟨RX11, "goesHour", "()I"⟩
abbrev cX11_hours : ByteArray := prog_13_method_76_code
def yX11_hours : MethodName := ⟨RX11, "hours", "(I)I"⟩
abbrev cX11_undo : ByteArray := prog_13_method_77_code
def yX11_undo : MethodName := ⟨RX11, "undo", "(I)I"⟩
abbrev cX11_whyNot : ByteArray := prog_13_method_78_code
def yX11_whyNot : MethodName := ⟨RX11, "whyNot", "(J)I"⟩
abbrev cX11_does : ByteArray := prog_13_method_79_code
def yX11_does : MethodName := ⟨RX11, "does", "(I)V"⟩
abbrev cX11_tells : ByteArray := prog_13_method_80_code
def yX11_tells : MethodName := ⟨RX11, "tells", "(I)I"⟩
abbrev cX11_noTray : ByteArray := prog_13_method_81_code
def yX11_noTray : MethodName := ⟨RX11, "noTray", "(I)I"⟩
abbrev cX11_judge : ByteArray := prog_13_method_82_code
def yX11_judge : MethodName := ⟨RX11, "judge", "(II)I"⟩
abbrev cX11_perform : ByteArray := prog_13_method_83_code
def yX11_perform : MethodName := ⟨RX11, "perform", "(I)I"⟩
abbrev cX11_draw : ByteArray := prog_13_method_84_code
def yX11_draw : MethodName := ⟨RX11, "draw", "(I)I"⟩
abbrev cX11_drawn : ByteArray := prog_13_method_85_code
def yX11_drawn : MethodName := ⟨RX11, "drawn", "()I"⟩
abbrev cX11_season : ByteArray := prog_13_method_86_code
def yX11_season : MethodName := ⟨RX11, "season", "(II)I"⟩
abbrev cX11_laysOpen : ByteArray := prog_13_method_87_code
def yX11_laysOpen : MethodName := ⟨RX11, "laysOpen", "(IZ)V"⟩
abbrev cX11_leftOf : ByteArray := prog_13_method_88_code
def yX11_leftOf : MethodName := ⟨RX11, "leftOf", "(I)I"⟩
abbrev cX11_laysLeast : ByteArray := prog_13_method_89_code
def yX11_laysLeast : MethodName := ⟨RX11, "laysLeast", "(IIZ)V"⟩
abbrev cX11_cellsBy : ByteArray := prog_13_method_90_code
def yX11_cellsBy : MethodName := ⟨RX11, "cellsBy", "(I)I"⟩
abbrev cX11_leastFor : ByteArray := prog_13_method_91_code
def yX11_leastFor : MethodName := ⟨RX11, "leastFor", "(IIZ)I"⟩
abbrev cX11_laysWay : ByteArray := prog_13_method_92_code
def yX11_laysWay : MethodName := ⟨RX11, "laysWay", "(II)I"⟩
abbrev cX11_isNext : ByteArray := prog_13_method_93_code
def yX11_isNext : MethodName := ⟨RX11, "isNext", "(III)Z"⟩
abbrev cX11_reach : ByteArray := prog_13_method_94_code
def yX11_reach : MethodName := ⟨RX11, "reach", "(I)J"⟩
abbrev cX11_fewest : ByteArray := prog_13_method_95_code
def yX11_fewest : MethodName := ⟨RX11, "fewest", "(II)I"⟩
abbrev cX11_way : ByteArray := prog_13_method_96_code
def yX11_way : MethodName := ⟨RX11, "way", "(III)I"⟩
abbrev cX11_waysFrom : ByteArray := prog_13_method_97_code
def yX11_waysFrom : MethodName := ⟨RX11, "waysFrom", "(IIIJ)I"⟩
abbrev cX11_ways : ByteArray := prog_13_method_98_code
def yX11_ways : MethodName := ⟨RX11, "ways", "(III)I"⟩
abbrev cX11_crossings : ByteArray := prog_13_method_99_code
def yX11_crossings : MethodName := ⟨RX11, "crossings", "(II)I"⟩
abbrev cX11_needed : ByteArray := prog_13_method_100_code
def yX11_needed : MethodName := ⟨RX11, "needed", "(II)J"⟩
abbrev cX11_farthest : ByteArray := prog_13_method_101_code
def yX11_farthest : MethodName := ⟨RX11, "farthest", "(I)I"⟩
abbrev cX11_aboveOf : ByteArray := prog_13_method_102_code
def yX11_aboveOf : MethodName := ⟨RX11, "aboveOf", "(I)I"⟩
abbrev cX11_above : ByteArray := prog_13_method_103_code
def yX11_above : MethodName := ⟨RX11, "above", "(I)I"⟩
abbrev cX11_ahead : ByteArray := prog_13_method_104_code
def yX11_ahead : MethodName := ⟨RX11, "ahead", "(I)I"⟩
abbrev cX11_lying : ByteArray := prog_13_method_105_code
def yX11_lying : MethodName := ⟨RX11, "lying", "()I"⟩
abbrev cX11_firstOf : ByteArray := prog_13_method_106_code
def yX11_firstOf : MethodName := ⟨RX11, "firstOf", "(I)I"⟩
abbrev cX11_order : ByteArray := prog_13_method_107_code
def yX11_order : MethodName := ⟨RX11, "order", "(I)I"⟩
abbrev cX11_stuck : ByteArray := prog_13_method_108_code
def yX11_stuck : MethodName := ⟨RX11, "stuck", "()I"⟩
abbrev cX11_overs : ByteArray := prog_13_method_109_code
def yX11_overs : MethodName := ⟨RX11, "overs", "(II)I"⟩
abbrev cX11_twistsOf : ByteArray := prog_13_method_110_code
def yX11_twistsOf : MethodName := ⟨RX11, "twistsOf", "(I)I"⟩
abbrev cX11_twists : ByteArray := prog_13_method_111_code
def yX11_twists : MethodName := ⟨RX11, "twists", "()I"⟩
abbrev cX11_ordersOf : ByteArray := prog_13_method_112_code
def yX11_ordersOf : MethodName := ⟨RX11, "ordersOf", "(I)I"⟩
abbrev cX11_orders : ByteArray := prog_13_method_113_code
def yX11_orders : MethodName := ⟨RX11, "orders", "()I"⟩
abbrev cX11_isAllIn : ByteArray := prog_13_method_114_code
def yX11_isAllIn : MethodName := ⟨RX11, "isAllIn", "()Z"⟩
abbrev cX11_arrivesIn : ByteArray := prog_13_method_115_code
def yX11_arrivesIn : MethodName := ⟨RX11, "arrivesIn", "(I)I"⟩
abbrev cX11_arrives : ByteArray := prog_13_method_116_code
def yX11_arrives : MethodName := ⟨RX11, "arrives", "(I)I"⟩
abbrev cX11_waits : ByteArray := prog_13_method_117_code
def yX11_waits : MethodName := ⟨RX11, "waits", "(I)I"⟩
abbrev cX11_allIn : ByteArray := prog_13_method_118_code
def yX11_allIn : MethodName := ⟨RX11, "allIn", "()I"⟩
abbrev cX11_free : ByteArray := prog_13_method_119_code
def yX11_free : MethodName := ⟨RX11, "free", "(I)I"⟩
abbrev cX11_goersOnCells : ByteArray := prog_13_method_120_code
def yX11_goersOnCells : MethodName := ⟨RX11, "goersOnCells", "()I"⟩
abbrev cX11_busiest : ByteArray := prog_13_method_121_code
def yX11_busiest : MethodName := ⟨RX11, "busiest", "()I"⟩
abbrev cX11_wouldArrive : ByteArray := prog_13_method_122_code
def yX11_wouldArrive : MethodName := ⟨RX11, "wouldArrive", "(I)I"⟩
abbrev cX11_noFaded : ByteArray := prog_13_method_123_code
def yX11_noFaded : MethodName := ⟨RX11, "noFaded", "(II)I"⟩
abbrev cX11_fits : ByteArray := prog_13_method_124_code
def yX11_fits : MethodName := ⟨RX11, "fits", "(II)J"⟩
abbrev cX11_faded : ByteArray := prog_13_method_125_code
def yX11_faded : MethodName := ⟨RX11, "faded", "(II)J"⟩
abbrev cX11_manyOf : ByteArray := prog_13_method_126_code
def yX11_manyOf : MethodName := ⟨RX11, "manyOf", "(J)I"⟩
abbrev cX11_manyFaded : ByteArray := prog_13_method_127_code
def yX11_manyFaded : MethodName := ⟨RX11, "manyFaded", "(II)I"⟩
abbrev cX11_look : ByteArray := prog_13_method_128_code
def yX11_look : MethodName := ⟨RX11, "look", "(II)I"⟩
abbrev cX11_cut : ByteArray := prog_13_method_129_code
def yX11_cut : MethodName := ⟨RX11, "cut", "(JI)J"⟩
abbrev cX11_numbers : ByteArray := prog_13_method_130_code
def yX11_numbers : MethodName := ⟨RX11, "numbers", "(III)I"⟩
abbrev cX11_write : ByteArray := prog_13_method_131_code
def yX11_write : MethodName := ⟨RX11, "write", "(IIJ)J"⟩
abbrev cX11_lists : ByteArray := prog_13_method_132_code
def yX11_lists : MethodName := ⟨RX11, "lists", "(III)I"⟩
abbrev cX11_image : ByteArray := prog_13_method_133_code
def yX11_image : MethodName := ⟨RX11, "image", "(I)I"⟩
abbrev cX11_restore : ByteArray := prog_13_method_134_code
def yX11_restore : MethodName := ⟨RX11, "restore", "(I)I"⟩
abbrev cX11_crossingsMany : ByteArray := prog_13_method_135_code
def yX11_crossingsMany : MethodName := ⟨RX11, "crossingsMany", "()I"⟩
abbrev cX11_rocksMany : ByteArray := prog_13_method_136_code
def yX11_rocksMany : MethodName := ⟨RX11, "rocksMany", "()I"⟩
abbrev cX11_underWay : ByteArray := prog_13_method_137_code
def yX11_underWay : MethodName := ⟨RX11, "underWay", "()I"⟩
abbrev cX11_count : ByteArray := prog_13_method_138_code
def yX11_count : MethodName := ⟨RX11, "count", "(I)I"⟩
def RJx145de : String := "java/io/Serializable"
def TJx145de : u_T := fun k => match k with
  | _ => ("", "", "", false)
def tyJx145de : Nat → FieldType := fun k => match k with
  | _ => .int
abbrev wsJx145de0 : List Cond := u_ws RJx145de TJx145de 0
theorem nmJx145de : ∀ a, a < 0 → ∀ b, b < 0 → a ≠ b → (TJx145de a).2.1 ≠ (TJx145de b).2.1 := by decide +kernel
theorem tyJx145de_ok : ∀ k, k < 0 → parseFieldDescriptor (TJx145de k).2.2.1 = some (tyJx145de k) := by decide +kernel
def RJx9f9b0 : String := "java/lang/CharSequence"
def TJx9f9b0 : u_T := fun k => match k with
  | _ => ("", "", "", false)
def tyJx9f9b0 : Nat → FieldType := fun k => match k with
  | _ => .int
abbrev wsJx9f9b00 : List Cond := u_ws RJx9f9b0 TJx9f9b0 0
theorem nmJx9f9b0 : ∀ a, a < 0 → ∀ b, b < 0 → a ≠ b → (TJx9f9b0 a).2.1 ≠ (TJx9f9b0 b).2.1 := by decide +kernel
theorem tyJx9f9b0_ok : ∀ k, k < 0 → parseFieldDescriptor (TJx9f9b0 k).2.2.1 = some (tyJx9f9b0 k) := by decide +kernel
def RJ11 : String := "java/lang/Character"
def TJ11 : u_T := fun k => match k with
  | _ => ("", "", "", false)
def tyJ11 : Nat → FieldType := fun k => match k with
  | _ => .int
abbrev wsJ110 : List Cond := u_ws RJ11 TJ11 0
theorem nmJ11 : ∀ a, a < 0 → ∀ b, b < 0 → a ≠ b → (TJ11 a).2.1 ≠ (TJ11 b).2.1 := by decide +kernel
theorem tyJ11_ok : ∀ k, k < 0 → parseFieldDescriptor (TJ11 k).2.2.1 = some (tyJ11 k) := by decide +kernel
abbrev cJ11_isValidCodePoint_9a6ad : ByteArray := prog_14_method_11_code
def yJ11_isValidCodePoint_9a6ad : MethodName := ⟨RJ11, "isValidCodePoint", "(I)Z"⟩
abbrev cJ11_highSurrogate_5068e : ByteArray := prog_14_method_28_code
def yJ11_highSurrogate_5068e : MethodName := ⟨RJ11, "highSurrogate", "(I)C"⟩
abbrev cJ11_lowSurrogate_5068e : ByteArray := prog_14_method_29_code
def yJ11_lowSurrogate_5068e : MethodName := ⟨RJ11, "lowSurrogate", "(I)C"⟩
def RJxb160c : String := "java/lang/Comparable"
def TJxb160c : u_T := fun k => match k with
  | _ => ("", "", "", false)
def tyJxb160c : Nat → FieldType := fun k => match k with
  | _ => .int
abbrev wsJxb160c0 : List Cond := u_ws RJxb160c TJxb160c 0
theorem nmJxb160c : ∀ a, a < 0 → ∀ b, b < 0 → a ≠ b → (TJxb160c a).2.1 ≠ (TJxb160c b).2.1 := by decide +kernel
theorem tyJxb160c_ok : ∀ k, k < 0 → parseFieldDescriptor (TJxb160c k).2.2.1 = some (tyJxb160c k) := by decide +kernel
def RJ13 : String := "java/lang/Long"
def TJ13 : u_T := fun k => match k with
  | _ => ("", "", "", false)
def tyJ13 : Nat → FieldType := fun k => match k with
  | _ => .int
abbrev wsJ130 : List Cond := u_ws RJ13 TJ13 0
theorem nmJ13 : ∀ a, a < 0 → ∀ b, b < 0 → a ≠ b → (TJ13 a).2.1 ≠ (TJ13 b).2.1 := by decide +kernel
theorem tyJ13_ok : ∀ k, k < 0 → parseFieldDescriptor (TJ13 k).2.2.1 = some (tyJ13 k) := by decide +kernel
abbrev cJ13_bitCount_95d88 : ByteArray := prog_15_method_50_code
def yJ13_bitCount_95d88 : MethodName := ⟨RJ13, "bitCount", "(J)I"⟩
def RJ9 : String := "java/lang/Math"
def TJ9 : u_T := fun k => match k with
  | _ => ("", "", "", false)
def tyJ9 : Nat → FieldType := fun k => match k with
  | _ => .int
abbrev wsJ90 : List Cond := u_ws RJ9 TJ9 0
theorem nmJ9 : ∀ a, a < 0 → ∀ b, b < 0 → a ≠ b → (TJ9 a).2.1 ≠ (TJ9 b).2.1 := by decide +kernel
theorem tyJ9_ok : ∀ k, k < 0 → parseFieldDescriptor (TJ9 k).2.2.1 = some (tyJ9 k) := by decide +kernel
abbrev cJ9_floorMod_7cf53 : ByteArray := prog_16_method_50_code
def yJ9_floorMod_7cf53 : MethodName := ⟨RJ9, "floorMod", "(II)I"⟩
abbrev cJ9_abs_0f7a4 : ByteArray := prog_16_method_59_code
def yJ9_abs_0f7a4 : MethodName := ⟨RJ9, "abs", "(I)I"⟩
abbrev cJ9_max_7cf53 : ByteArray := prog_16_method_65_code
def yJ9_max_7cf53 : MethodName := ⟨RJ9, "max", "(II)I"⟩
abbrev cJ9_max_f86c9 : ByteArray := prog_16_method_66_code
def yJ9_max_f86c9 : MethodName := ⟨RJ9, "max", "(JJ)J"⟩
abbrev cJ9_min_7cf53 : ByteArray := prog_16_method_69_code
def yJ9_min_7cf53 : MethodName := ⟨RJ9, "min", "(II)I"⟩
abbrev cJ9_min_f86c9 : ByteArray := prog_16_method_70_code
def yJ9_min_f86c9 : MethodName := ⟨RJ9, "min", "(JJ)J"⟩
def RJ0 : String := "java/lang/String"
def TJ0 : u_T := fun k => match k with
  | _ => ("", "", "", false)
def tyJ0 : Nat → FieldType := fun k => match k with
  | _ => .int
abbrev wsJ00 : List Cond := u_ws RJ0 TJ0 0
theorem nmJ0 : ∀ a, a < 0 → ∀ b, b < 0 → a ≠ b → (TJ0 a).2.1 ≠ (TJ0 b).2.1 := by decide +kernel
theorem tyJ0_ok : ∀ k, k < 0 → parseFieldDescriptor (TJ0 k).2.2.1 = some (tyJ0 k) := by decide +kernel
abbrev cJ0_length_8abf5 : ByteArray := prog_17_method_54_code
def yJ0_length_8abf5 : MethodName := ⟨RJ0, "length", "()I"⟩
abbrev cJ0_charAt_5068e : ByteArray := prog_17_method_56_code
def yJ0_charAt_5068e : MethodName := ⟨RJ0, "charAt", "(I)C"⟩
abbrev cJ0_indexOf_0f7a4 : ByteArray := prog_17_method_79_code
def yJ0_indexOf_0f7a4 : MethodName := ⟨RJ0, "indexOf", "(I)I"⟩
abbrev cJ0_indexOf_7cf53 : ByteArray := prog_17_method_80_code
def yJ0_indexOf_7cf53 : MethodName := ⟨RJ0, "indexOf", "(II)I"⟩
abbrev cJ0_coder_7d493 : ByteArray := prog_17_method_152_code
def yJ0_coder_7d493 : MethodName := ⟨RJ0, "coder", "()B"⟩
abbrev cJ0_isLatin1_aae02 : ByteArray := prog_17_method_154_code
def yJ0_isLatin1_aae02 : MethodName := ⟨RJ0, "isLatin1", "()Z"⟩
abbrev cJ0_checkIndex_df160 : ByteArray := prog_17_method_155_code
def yJ0_checkIndex_df160 : MethodName := ⟨RJ0, "checkIndex", "(II)V"⟩
abbrev cJ0_checkBoundsBeginEnd_23922 : ByteArray := prog_17_method_158_code
def yJ0_checkBoundsBeginEnd_23922 : MethodName := ⟨RJ0, "checkBoundsBeginEnd", "(III)V"⟩
def RJ1 : String := "java/lang/StringLatin1"
def TJ1 : u_T := fun k => match k with
  | _ => ("", "", "", false)
def tyJ1 : Nat → FieldType := fun k => match k with
  | _ => .int
abbrev wsJ10 : List Cond := u_ws RJ1 TJ1 0
theorem nmJ1 : ∀ a, a < 0 → ∀ b, b < 0 → a ≠ b → (TJ1 a).2.1 ≠ (TJ1 b).2.1 := by decide +kernel
theorem tyJ1_ok : ∀ k, k < 0 → parseFieldDescriptor (TJ1 k).2.2.1 = some (tyJ1 k) := by decide +kernel
abbrev cJ1_charAt_3b067 : ByteArray := prog_18_method_2_code
def yJ1_charAt_3b067 : MethodName := ⟨RJ1, "charAt", "([BI)C"⟩
abbrev cJ1_canEncode_9a6ad : ByteArray := prog_18_method_4_code
def yJ1_canEncode_9a6ad : MethodName := ⟨RJ1, "canEncode", "(I)Z"⟩
abbrev cJ1_indexOf_4cfef : ByteArray := prog_18_method_22_code
def yJ1_indexOf_4cfef : MethodName := ⟨RJ1, "indexOf", "([BIII)I"⟩
abbrev cJ1_indexOfChar_4cfef : ByteArray := prog_18_method_23_code
def yJ1_indexOfChar_4cfef : MethodName := ⟨RJ1, "indexOfChar", "([BIII)I"⟩
def RJ2 : String := "java/lang/StringUTF16"
def TJ2 : u_T := fun k => match k with
  | _ => ("", "", "", false)
def tyJ2 : Nat → FieldType := fun k => match k with
  | _ => .int
abbrev wsJ20 : List Cond := u_ws RJ2 TJ2 0
theorem nmJ2 : ∀ a, a < 0 → ∀ b, b < 0 → a ≠ b → (TJ2 a).2.1 ≠ (TJ2 b).2.1 := by decide +kernel
theorem tyJ2_ok : ∀ k, k < 0 → parseFieldDescriptor (TJ2 k).2.2.1 = some (tyJ2 k) := by decide +kernel
abbrev cJ2_getChar_3b067 : ByteArray := prog_19_method_5_code
def yJ2_getChar_3b067 : MethodName := ⟨RJ2, "getChar", "([BI)C"⟩
abbrev cJ2_length_9d52b : ByteArray := prog_19_method_6_code
def yJ2_length_9d52b : MethodName := ⟨RJ2, "length", "([B)I"⟩
abbrev cJ2_indexOf_4cfef : ByteArray := prog_19_method_40_code
def yJ2_indexOf_4cfef : MethodName := ⟨RJ2, "indexOf", "([BIII)I"⟩
abbrev cJ2_indexOfChar_4cfef : ByteArray := prog_19_method_47_code
def yJ2_indexOfChar_4cfef : MethodName := ⟨RJ2, "indexOfChar", "([BIII)I"⟩
abbrev cJ2_indexOfCharUnsafe_4cfef : ByteArray := prog_19_method_48_code
def yJ2_indexOfCharUnsafe_4cfef : MethodName := ⟨RJ2, "indexOfCharUnsafe", "([BIII)I"⟩
abbrev cJ2_indexOfSupplementary_4cfef : ByteArray := prog_19_method_49_code
def yJ2_indexOfSupplementary_4cfef : MethodName := ⟨RJ2, "indexOfSupplementary", "([BIII)I"⟩
abbrev cJ2_charAt_3b067 : ByteArray := prog_19_method_83_code
def yJ2_charAt_3b067 : MethodName := ⟨RJ2, "charAt", "([BI)C"⟩
abbrev cJ2_checkIndex_2214a : ByteArray := prog_19_method_91_code
def yJ2_checkIndex_2214a : MethodName := ⟨RJ2, "checkIndex", "(I[B)V"⟩
abbrev cJ2_checkBoundsBeginEnd_d044e : ByteArray := prog_19_method_93_code
def yJ2_checkBoundsBeginEnd_d044e : MethodName := ⟨RJ2, "checkBoundsBeginEnd", "(II[B)V"⟩
def RJ10 : String := "java/lang/System"
def TJ10 : u_T := fun k => match k with
  | _ => ("", "", "", false)
def tyJ10 : Nat → FieldType := fun k => match k with
  | _ => .int
abbrev wsJ100 : List Cond := u_ws RJ10 TJ10 0
theorem nmJ10 : ∀ a, a < 0 → ∀ b, b < 0 → a ≠ b → (TJ10 a).2.1 ≠ (TJ10 b).2.1 := by decide +kernel
theorem tyJ10_ok : ∀ k, k < 0 → parseFieldDescriptor (TJ10 k).2.2.1 = some (tyJ10 k) := by decide +kernel
def RJxfd54e : String := "java/lang/constant/Constable"
def TJxfd54e : u_T := fun k => match k with
  | _ => ("", "", "", false)
def tyJxfd54e : Nat → FieldType := fun k => match k with
  | _ => .int
abbrev wsJxfd54e0 : List Cond := u_ws RJxfd54e TJxfd54e 0
theorem nmJxfd54e : ∀ a, a < 0 → ∀ b, b < 0 → a ≠ b → (TJxfd54e a).2.1 ≠ (TJxfd54e b).2.1 := by decide +kernel
theorem tyJxfd54e_ok : ∀ k, k < 0 → parseFieldDescriptor (TJxfd54e k).2.2.1 = some (tyJxfd54e k) := by decide +kernel
def RJx3cf43 : String := "java/lang/constant/ConstantDesc"
def TJx3cf43 : u_T := fun k => match k with
  | _ => ("", "", "", false)
def tyJx3cf43 : Nat → FieldType := fun k => match k with
  | _ => .int
abbrev wsJx3cf430 : List Cond := u_ws RJx3cf43 TJx3cf43 0
theorem nmJx3cf43 : ∀ a, a < 0 → ∀ b, b < 0 → a ≠ b → (TJx3cf43 a).2.1 ≠ (TJx3cf43 b).2.1 := by decide +kernel
theorem tyJx3cf43_ok : ∀ k, k < 0 → parseFieldDescriptor (TJx3cf43 k).2.2.1 = some (tyJx3cf43 k) := by decide +kernel
def RJ7 : String := "java/util/Arrays"
def TJ7 : u_T := fun k => match k with
  | _ => ("", "", "", false)
def tyJ7 : Nat → FieldType := fun k => match k with
  | _ => .int
abbrev wsJ70 : List Cond := u_ws RJ7 TJ7 0
theorem nmJ7 : ∀ a, a < 0 → ∀ b, b < 0 → a ≠ b → (TJ7 a).2.1 ≠ (TJ7 b).2.1 := by decide +kernel
theorem tyJ7_ok : ∀ k, k < 0 → parseFieldDescriptor (TJ7 k).2.2.1 = some (tyJ7 k) := by decide +kernel
abbrev cJ7_fill_d0a16 : ByteArray := prog_21_method_101_code
def yJ7_fill_d0a16 : MethodName := ⟨RJ7, "fill", "([JJ)V"⟩
abbrev cJ7_fill_53178 : ByteArray := prog_21_method_103_code
def yJ7_fill_53178 : MethodName := ⟨RJ7, "fill", "([II)V"⟩
def RJ3 : String := "jdk/internal/util/Preconditions"
def TJ3 : u_T := fun k => match k with
  | _ => ("", "", "", false)
def tyJ3 : Nat → FieldType := fun k => match k with
  | _ => .int
abbrev wsJ30 : List Cond := u_ws RJ3 TJ3 0
theorem nmJ3 : ∀ a, a < 0 → ∀ b, b < 0 → a ≠ b → (TJ3 a).2.1 ≠ (TJ3 b).2.1 := by decide +kernel
theorem tyJ3_ok : ∀ k, k < 0 → parseFieldDescriptor (TJ3 k).2.2.1 = some (tyJ3 k) := by decide +kernel
abbrev cJ3_checkIndex_8e157 : ByteArray := prog_22_method_11_code
def yJ3_checkIndex_8e157 : MethodName := ⟨RJ3, "checkIndex", "(IILjava/util/function/BiFunction;)I"⟩
abbrev cJ3_checkFromToIndex_8c36e : ByteArray := prog_22_method_12_code
def yJ3_checkFromToIndex_8c36e : MethodName := ⟨RJ3, "checkFromToIndex", "(IIILjava/util/function/BiFunction;)I"⟩
def RL : String := "RibbonRoadsLaw"
abbrev cL_law : ByteArray := code
def yL_law : MethodName := ⟨RL, "law", "([I)Z"⟩
abbrev vwCl : List vw_C := [(RX0, TX0, 3), (RX1, TX1, 12), (RX2, TX2, 3), (RX3, TX3, 3), (RX4, TX4, 4), (RX5, TX5, 7), (RX6, TX6, 12), (RX7, TX7, 4), (RX8, TX8, 3), (RX9, TX9, 17), (RX10, TX10, 11), (RX11, TX11, 31)]
theorem q_places {big : List Cond} (ws : List Cond) (ps : List Nat) (hp : ws = ps.filterMap (fun i => big[i]?)) : ∀ w ∈ ws, w ∈ big := by
  intro w hw
  rw [hp] at hw
  obtain ⟨i, -, hi⟩ := List.mem_filterMap.mp hw
  exact List.mem_of_getElem? hi
theorem inX0 : ∀ w ∈ wsX00, w ∈ lw_tbl := q_places _ [486, 488, 490] (by decide +kernel)
theorem inX1 : ∀ w ∈ wsX10, w ∈ lw_tbl := q_places _ [219, 221, 223, 225, 227, 229, 231, 233, 235, 237, 239, 241] (by decide +kernel)
theorem inX2 : ∀ w ∈ wsX20, w ∈ lw_tbl := q_places _ [171, 173, 175] (by decide +kernel)
theorem inX3 : ∀ w ∈ wsX30, w ∈ lw_tbl := q_places _ [361, 363, 365] (by decide +kernel)
theorem inX4 : ∀ w ∈ wsX40, w ∈ lw_tbl := q_places _ [446, 448, 450, 452] (by decide +kernel)
theorem inX5 : ∀ w ∈ wsX50, w ∈ lw_tbl := q_places _ [273, 275, 277, 279, 281, 283, 285] (by decide +kernel)
theorem inX6 : ∀ w ∈ wsX60, w ∈ lw_tbl := q_places _ [323, 325, 327, 329, 331, 333, 335, 337, 339, 341, 343, 345] (by decide +kernel)
theorem inX7 : ∀ w ∈ wsX70, w ∈ lw_tbl := q_places _ [254, 256, 258, 260] (by decide +kernel)
theorem inX8 : ∀ w ∈ wsX80, w ∈ lw_tbl := q_places _ [465, 467, 469] (by decide +kernel)
theorem inX9 : ∀ w ∈ wsX90, w ∈ lw_tbl := q_places _ [398, 400, 402, 404, 406, 408, 410, 412, 414, 416, 418, 420, 422, 424, 426, 428, 430] (by decide +kernel)
theorem inX10 : ∀ w ∈ wsX100, w ∈ lw_tbl := q_places _ [514, 516, 518, 520, 522, 524, 526, 528, 530, 532, 534] (by decide +kernel)
theorem inX11 : ∀ w ∈ wsX110, w ∈ lw_tbl := q_places _ [1424, 1426, 1428, 1430, 1432, 1434, 1436, 1438, 1440, 1442, 1444, 1446, 1448, 1450, 1452, 1454, 1456, 1458, 1460, 1462, 1464, 1466, 1468, 1470, 1472, 1474, 1476, 1478, 1480, 1482, 1484] (by decide +kernel)
end
section
/-! A SMALL MACHINE over whole numbers: values are a kind (0 int, 1 long, 2 reference) and an Int; a reference is a place (0 on: a cell that the run made, in order; -1 null; below: what was there before). -/
abbrev QV : Type := Nat × Int
abbrev QMem : Type := Int → Int → Int
abbrev QSh : Type := Int → Nat × Int
abbrev QS : Type := Int × QSh × QMem
abbrev QH : Type := QS × QMem
abbrev QIns : Type := Nat × Instr × Nat
abbrev QMeth : Type := Nat × MethodName × ByteArray × Nat × Option FieldType × List QIns
abbrev QX : Type := Launch × va_G × Heap × (Nat → ClassId) × (Nat → Nat) × Nat × (Nat → Int32)
abbrev qxl (X : QX) : Launch := X.1
abbrev qxD (X : QX) : va_G := X.2.1
abbrev qxH (X : QX) : Heap := X.2.2.1
abbrev qxA (X : QX) : Nat → ClassId := X.2.2.2.1
abbrev qxo (X : QX) : Nat → Nat := X.2.2.2.2.1
abbrev qxL (X : QX) : Nat := X.2.2.2.2.2.1
abbrev qxs (X : QX) : Nat → Int32 := X.2.2.2.2.2.2
abbrev qmo (m : QMeth) : Nat := m.1
abbrev qmy (m : QMeth) : MethodName := m.2.1
abbrev qmc (m : QMeth) : ByteArray := m.2.2.1
abbrev qmL (m : QMeth) : Nat := m.2.2.2.1
abbrev qmr (m : QMeth) : Option FieldType := m.2.2.2.2.1
abbrev qmi (m : QMeth) : List QIns := m.2.2.2.2.2
/-- of which class (by its number) a method is -/
def qown (o : Nat) : String := match o with
  | 0 => RX0 | 1 => RX1 | 2 => RX2 | 3 => RX3 | 4 => RX4 | 5 => RX5 | 6 => RX6 | 7 => RX7 | 8 => RX8 | 9 => RX9 | 10 => RX10 | 11 => RX11 | 12 => RL
  | 13 => RJ7 | 14 => RJ9 | 15 => RJ13 | 16 => RJ0 | 17 => RJ1 | _ => RJ3
def qtyf (ci : Nat) : Nat → FieldType := match ci with
  | 0 => tyX0 | 1 => tyX1 | 2 => tyX2 | 3 => tyX3 | 4 => tyX4 | 5 => tyX5 | 6 => tyX6 | 7 => tyX7 | 8 => tyX8 | 9 => tyX9 | 10 => tyX10 | _ => tyX11
def qkd (t : FieldType) : Nat := match t with
  | .long => 1 | .object _ => 2 | .array _ => 2 | _ => 0
def qfk (ci k : Nat) : Nat := qkd (qtyf ci k)
/-- kinds of arrays: 100 int, 101 long, 102 byte, 103 boolean, 104 and on references -/
def qel (k : Nat) : Nat := match k with
  | 100 => 0 | 101 => 1 | 102 => 0 | 103 => 0 | _ => 2
def qty (k : Nat) : FieldType := match k with
  | 100 => .int | 101 => .long | 102 => .byte | 103 => .boolean | 104 => .object RX6 | 105 => .object RX8 | _ => .object RX0
def qrv (X : QX) (x : Int) : Value := if 0 ≤ x then .ref ((qxH X).size + x.toNat) else if x = -1 then .null else .ref (qxo X (-2 - x).toNat)
def qcv (X : QX) (v : QV) : Value := match v.1 with
  | 0 => .int (Int32.ofInt v.2)
  | 1 => .long (Int64.ofInt v.2)
  | _ => qrv X v.2
def qval (h : QH) (kd : Nat) (a j : Int) : Int := match kd with
  | 2 => h.1.2.2 a j
  | _ => h.2 a j
def qat (X : QX) (h : QH) (a : Nat) (H : Heap) : Prop :=
  ((h.1.2.1 a).1 < 100 → ∃ r : vw_C, vwCl[(h.1.2.1 a).1]? = some r ∧ t_OB ((qxH X).size + a) ((qxD X).1 (h.1.2.1 a).1) r.2.2 ((qxD X).2 (h.1.2.1 a).1) H (fun j => qcv X (qfk (h.1.2.1 a).1 j, qval h (qfk (h.1.2.1 a).1 j) a j))) ∧
  (100 ≤ (h.1.2.1 a).1 → (h.1.2.1 a).1 ≤ 106 ∧ 0 ≤ (h.1.2.1 a).2 ∧ (h.1.2.1 a).2 < 2147483648 ∧ H[(qxH X).size + a]? = some (arrV (qxA X (h.1.2.1 a).1) (h.1.2.1 a).2.toNat (fun j => qcv X (qel (h.1.2.1 a).1, qval h (qel (h.1.2.1 a).1) a j))))
/-- the heap holds what the small one says; what was there before is as it was -/
def QHp (X : QX) (h : QH) (H : Heap) : Prop :=
  (H.size : Int) = (qxH X).size + h.1.1 ∧ (∀ q : Nat, q < (qxH X).size → H[q]? = (qxH X)[q]?) ∧ (∀ a : Int, (h.1.2.1 a).1 ≠ 999 → 0 ≤ a ∧ a < h.1.1) ∧ ∀ a : Nat, (a : Int) < h.1.1 → qat X h a H
abbrev qtys (X : QX) : List (ClassId × FieldType) := [(qxA X 100, qty 100), (qxA X 101, qty 101), (qxA X 102, qty 102), (qxA X 103, qty 103), (qxA X 104, qty 104), (qxA X 105, qty 105), (qxA X 106, qty 106)]
def qA (X : QX) : Nat → Prop := fun q => (qxH X).size ≤ q
/-- the texts: (class, pool entry, text, number) -/
def qsl : List (Nat × Nat × String × Nat) := [(7, 54, "land", 0), (7, 60, "rock", 1), (7, 62, "drum", 2), (7, 64, "yards", 3), (7, 66, "takes", 4), (7, 68, "may", 5), (7, 70, "wet", 6), (7, 72, "hour", 7), (7, 74, "x", 8), (7, 76, "y", 9), (7, 78, "lies", 10), (7, 80, "or", 11), (7, 82, "and", 12), (7, 84, "not", 13), (7, 39, ";:+-*()[]=<>", 14), (11, 77, " land rock drum yards takes may wet hour x y lies and or not ", 15), (11, 115, ";:+-*()[]=<>", 14)]
def qsn : List Nat := [4, 4, 4, 5, 5, 3, 3, 4, 1, 1, 4, 2, 3, 3, 12, 61]
def qsb : List (List Int32) := [[108, 97, 110, 100], [114, 111, 99, 107], [100, 114, 117, 109], [121, 97, 114, 100, 115], [116, 97, 107, 101, 115], [109, 97, 121], [119, 101, 116], [104, 111, 117, 114], [120], [121], [108, 105, 101, 115], [111, 114], [97, 110, 100], [110, 111, 116], [59, 58, 43, 45, 42, 40, 41, 91, 93, 61, 60, 62], [32, 108, 97, 110, 100, 32, 114, 111, 99, 107, 32, 100, 114, 117, 109, 32, 121, 97, 114, 100, 115, 32, 116, 97, 107, 101, 115, 32, 109, 97, 121, 32, 119, 101, 116, 32, 104, 111, 117, 114, 32, 120, 32, 121, 32, 108, 105, 101, 115, 32, 97, 110, 100, 32, 111, 114, 32, 110, 111, 116, 32]]
def qfm (X : QX) : Int := if qxo X 200 = 0 then -1 else -203
def QStr (X : QX) (U : State) : Prop := (∀ e ∈ qsl, vk_R (qown e.1) e.2.1 e.2.2.1 (qxo X (1 + e.2.2.2)) U) ∧ vk_S 16 qsn qsb (fun i => qxo X (1 + i)) (fun i => qxo X (101 + i)) (qA X) U (qxH X) ∧ va_Z "java/lang/String" "COMPACT_STRINGS" "Z" (.int 1) (qA X) U (qxH X) ∧ va_Z "jdk/internal/util/Preconditions" "SIOOBE_FORMATTER" "Ljava/util/function/BiFunction;" (qrv X (qfm X)) (qA X) U (qxH X)
/-- what the tables say -/
def QT (X : QX) (U : State) : Prop := va_K (qxD X) vwCl (qtys X) U ∧ (va_AO RX6 U ∧ va_AO RX8 U ∧ va_AO RX0 U) ∧ va_X (qxo X 0) (qxL X) (qxs X) U (qxH X) ∧ (qxo X 0 < (qxH X).size ∧ qxL X ≤ 3072) ∧ QStr X U
theorem QT.moved {X : QX} {u U : State} (hW : u.WarmedH U.vm) (h : QT X u) : QT X U := ⟨va_K.moved hW.alike h.1, ⟨va_AO.moved hW.alike h.2.1.1, va_AO.moved hW.alike h.2.1.2.1, va_AO.moved hW.alike h.2.1.2.2⟩, va_X.moved hW.alike h.2.2.1, h.2.2.2.1, fun e he => vk_R.warm hW (h.2.2.2.2.1 e he), vk_S.moved hW.alike h.2.2.2.2.2.1, va_Z.moved hW.alike h.2.2.2.2.2.2.1, va_Z.moved hW.alike h.2.2.2.2.2.2.2⟩
theorem QT.same {X : QX} {u U : State} (hv : U.vm = u.vm) (h : QT X u) : QT X U := by
  have ha : u.vm.Alike U.vm := by rw [hv]; exact Vm.Alike.refl u.vm
  exact ⟨va_K.moved ha h.1, ⟨va_AO.moved ha h.2.1.1, va_AO.moved ha h.2.1.2.1, va_AO.moved ha h.2.1.2.2⟩, va_X.moved ha h.2.2.1, h.2.2.2.1, fun e he => vk_R.same hv (h.2.2.2.2.1 e he), vk_S.moved ha h.2.2.2.2.2.1, va_Z.moved ha h.2.2.2.2.2.2.1, va_Z.moved ha h.2.2.2.2.2.2.2⟩
def qtbl : List Cond := lw_tbl.filter goodWord
theorem qtbl_good : GoodIn qtbl qtbl := fun w h => ⟨h, good_of_word (List.mem_filter.mp h).2⟩
theorem qin {w : Cond} (i : Nat) (h : lw_tbl[i]? = some w) (hg : goodWord w = true) : w ∈ qtbl := List.mem_filter.mpr ⟨List.mem_of_getElem? h, hg⟩
def qrk (t : Option FieldType) : Nat := match t with
  | none => 0 | some t => qkd t + 1
def qret (X : QX) (rk : Nat) (x : Int) : Option Value := match rk with
  | 0 => none | k + 1 => some (qcv X (k, x))
def QPc (X : QX) (as : List QV) (h : QH) : Array Value → State → Prop := fun v U => v = (as.map (qcv X)).toArray ∧ QT X U ∧ QHp X h U.heap
def QQc (X : QX) (rk : Nat) (post : Int → QH → Prop) : Array Value → State → Outcome → State → Prop := fun _ _ o t => ∃ (x : Int) (h : QH), o = .returned (qret X rk x) ∧ post x h ∧ QT X t ∧ QHp X h t.heap
def qroom (d mc ms : Nat) : Room := { frames := d, cells := mc, slots := ms, locals := 80 * d }
/-- a method's contract: called so, with this heap, it comes back, and 'post' holds of answer and heap -/
def QC (X : QX) (d mc ms rk : Nat) (y : MethodName) (as : List QV) (h : QH) (post : Int → QH → Prop) : Prop :=
  ∃ (cc : ByteArray) (maxL : Nat) (ret : Option FieldType), Cond.code y cc maxL ret ∈ qtbl ∧ maxL ≤ 60 ∧ qrk ret = rk ∧ Met (qxl X) y (Cond.code y cc maxL ret :: qtbl) (qroom d mc ms) (QPc X as h) (QQc X rk post) mc ms (qA X)
/-- what a method's body stands on -/
def QB (X : QX) (m : QMeth) (p : Program) (s : State) (mi : MethodId) (args : Array Value) (meth : Method) (c : Code) : Prop :=
  p.tables.exec = Jvm.exec ∧ c.code = qmc m ∧ c.maxLocals = qmL m ∧ meth.sig.returnType = qmr m ∧ meth.locks = false ∧ s.vm.findClass (qown (qmo m)) = some mi.cls ∧ (∀ w ∈ qtbl, w.before args s = true) ∧ meth.name = (qmy m).name ∧ QT X s
/-- from here the body comes to its end, and 'post' holds -/
def QR (X : QX) (d : Nat) (mx : Nat × Nat) (m : QMeth) (post : Int → QH → Prop) (cs : Nat × Nat) (pc : Nat) (lv : List (Nat × QV)) (st : List QV) (h : QH) : Prop :=
  ∀ (p : Program) (e : Env) (R : Room) (s : State) (mi : MethodId) (args : Array Value) (below : List Frame) (meth : Method) (c : Code) (H : Heap) (locs : List Loc) (ls : Array Slot),
    (d ≤ R.frames ∧ 80 * d ≤ R.locals ∧ R.cells = mx.1 ∧ R.slots = mx.2) → QB X m p s mi args meth c → QHp X h H → (∀ q ∈ locs, (qxH X).size ≤ q.base) → lv_has ls (qmL m) (lv.map fun q => (q.1, qcv X q.2)) →
    W p (qxl X) e R s mi args below meth c H locs cs.1 cs.2 (MQ below (QQc X (qrk (qmr m)) post) args s mx.1 mx.2 (qA X)) (F0 mi pc ls (st.map (qcv X)))
def in32 (x : Int) : Prop := -2147483648 ≤ x ∧ x ≤ 2147483647
def in64 (x : Int) : Prop := -9223372036854775808 ≤ x ∧ x ≤ 9223372036854775807
def qup (M : QMem) (a i x : Int) : QMem := fun b j => if b = a ∧ j = i then x else M b j
/-- a cell changes, all others stay -/
theorem qhp_put {X : QX} {h h' : QH} {H H1 : Heap} {a : Int} (hH : QHp X h H) (hn : h'.1.1 = h.1.1) (hs : h'.1.2.1 = h.1.2.1) (ha : 0 ≤ a ∧ a < h.1.1) (ho : ∀ b : Int, b ≠ a → ∀ j, h'.1.2.2 b j = h.1.2.2 b j ∧ h'.2 b j = h.2 b j) (z : H1.size = H.size) (oq : ∀ q : Nat, q ≠ (qxH X).size + a.toNat → H1[q]? = H[q]?) (hat : qat X h' a.toNat H1) : QHp X h' H1 := by
  obtain ⟨h1, h2, h3, h4⟩ := hH
  refine ⟨by rw [z, hn]; exact h1, fun q hq => ?_, by rw [hs, hn]; exact h3, fun b hb => ?_⟩
  · rw [oq q (by omega)]; exact h2 q hq
  · by_cases e : (b : Int) = a
    · have : b = a.toNat := by omega
      rw [this]; exact hat
    · have hv : ∀ kd j, qval h' kd b j = qval h kd b j := by
        intro kd j
        unfold qval
        split
        · exact (ho b e j).1
        · exact (ho b e j).2
      obtain ⟨g1, g2⟩ := h4 b (by rw [← hn]; exact hb)
      have hq : H1[(qxH X).size + b]? = H[(qxH X).size + b]? := oq _ (by omega)
      refine ⟨fun hc => ?_, fun hc => ?_⟩
      · rw [hs] at hc ⊢
        obtain ⟨r, r1, r2⟩ := g1 hc
        refine ⟨r, r1, (r2.kept hq).to (fun k _ => ?_)⟩
        rw [hv]
      · rw [hs] at hc ⊢
        obtain ⟨r1, r2, r3, r4⟩ := g2 hc
        refine ⟨r1, r2, r3, ?_⟩
        rw [hq, r4]
        congr 2
        funext j
        rw [hv]
end
section
theorem q32 {x : Int} (h : in32 x) : (Int32.ofInt x).toInt = x := Int32.toInt_ofInt_of_le (by have := h.1; omega) (by have := h.2; omega)
theorem q64 {x : Int} (h : in64 x) : (Int64.ofInt x).toInt = x := Int64.toInt_ofInt_of_le (by have := h.1; omega) (by have := h.2; omega)
theorem q_lt {a b : Int} (ha : in32 a) (hb : in32 b) : Int32.ofInt a < Int32.ofInt b ↔ a < b := by rw [Int32.lt_iff_toInt_lt, q32 ha, q32 hb]
theorem q_le {a b : Int} (ha : in32 a) (hb : in32 b) : Int32.ofInt a ≤ Int32.ofInt b ↔ a ≤ b := by rw [Int32.le_iff_toInt_le, q32 ha, q32 hb]
theorem q_eq {a b : Int} (ha : in32 a) (hb : in32 b) : Int32.ofInt a = Int32.ofInt b ↔ a = b := by rw [← Int32.toInt_inj, q32 ha, q32 hb]
theorem ql_lt {a b : Int} (ha : in64 a) (hb : in64 b) : Int64.ofInt a < Int64.ofInt b ↔ a < b := by rw [Int64.lt_iff_toInt_lt, q64 ha, q64 hb]
theorem ql_eq {a b : Int} (ha : in64 a) (hb : in64 b) : Int64.ofInt a = Int64.ofInt b ↔ a = b := by rw [← Int64.toInt_inj, q64 ha, q64 hb]
theorem q_clamp {x : Int} (h : in32 x) : (Int32.ofInt x).toNatClampNeg = x.toNat := by
  show (Int32.ofInt x).toInt.toNat = x.toNat
  rw [q32 h]
def qlook (lv : List (Nat × QV)) (i : Nat) : Option QV := match lv with
  | [] => none
  | q :: r => bif q.1 == i then some q.2 else qlook r i
theorem qlook_mem {lv : List (Nat × QV)} {i : Nat} {v : QV} (h : qlook lv i = some v) : (i, v) ∈ lv := by
  induction lv with
  | nil => cases h
  | cons q r ih =>
    rw [qlook] at h
    by_cases e : q.1 = i
    · rw [show (q.1 == i) = true by simpa using e] at h
      obtain ⟨q1, q2⟩ := q
      cases h; cases e
      exact List.mem_cons_self
    · rw [show (q.1 == i) = false by simpa using e] at h
      exact List.mem_cons_of_mem _ (ih h)
theorem qlook_ls {X : QX} {ls : Array Slot} {nL : Nat} {lv : List (Nat × QV)} {i : Nat} {v : QV} (hl : lv_has ls nL (lv.map fun q => (q.1, qcv X q.2))) (h : qlook lv i = some v) : ls[i]? = some (.val (qcv X v)) := hl.2.2 (i, qcv X v) (List.mem_map.mpr ⟨(i, v), qlook_mem h, rfl⟩)
def qset (lv : List (Nat × QV)) (i : Nat) (v : QV) : List (Nat × QV) := (i, v) :: lv.filter (fun q => !(q.1 == i) && !(q.1 + 1 == i && q.2.1 == 1))
def qsetl (lv : List (Nat × QV)) (i : Nat) (v : QV) : List (Nat × QV) := (i, v) :: lv.filter (fun q => !(q.1 == i) && (!(q.1 == i + 1) && !(q.1 + 1 == i && q.2.1 == 1)))
theorem qcat (X : QX) (v : QV) : ((qcv X v).category == 2) = (v.1 == 1) := by
  obtain ⟨k, x⟩ := v
  match k with
  | 0 => rfl
  | 1 => rfl
  | k + 2 =>
    show ((qrv X x).category == 2) = _
    unfold qrv
    split
    · simp [Value.category]
    · split <;> simp [Value.category]
theorem qset_map (X : QX) (lv : List (Nat × QV)) (i : Nat) (v : QV) : (i, qcv X v) :: (lv.map fun q => (q.1, qcv X q.2)).filter (fun q => !(q.1 == i) && !(q.1 + 1 == i && q.2.category == 2)) = (qset lv i v).map fun q => (q.1, qcv X q.2) := by
  unfold qset
  rw [List.map_cons, List.filter_map]
  congr 2
  apply List.filter_congr
  intro q _
  simp only [Function.comp, qcat]
theorem qsetl_map (X : QX) (lv : List (Nat × QV)) (i : Nat) (v : QV) : (i, qcv X v) :: (lv.map fun q => (q.1, qcv X q.2)).filter (fun q => !(q.1 == i) && (!(q.1 == i + 1) && !(q.1 + 1 == i && q.2.category == 2))) = (qsetl lv i v).map fun q => (q.1, qcv X q.2) := by
  unfold qsetl
  rw [List.map_cons, List.filter_map]
  congr 2
  apply List.filter_congr
  intro q _
  simp only [Function.comp, qcat]
def qand (a b : Int) : Int := (Int32.ofInt a &&& Int32.ofInt b).toInt
def qor (a b : Int) : Int := (Int32.ofInt a ||| Int32.ofInt b).toInt
def qxor (a b : Int) : Int := (Int32.ofInt a ^^^ Int32.ofInt b).toInt
def qshl (a b : Int) : Int := (Int32.ofInt a <<< (Int32.ofInt b &&& 31)).toInt
def qshr (a b : Int) : Int := (Int32.ofInt a >>> (Int32.ofInt b &&& 31)).toInt
def qushr (a b : Int) : Int := (((Int32.ofInt a).toUInt32 >>> ((Int32.ofInt b).toUInt32 &&& Int32.toUInt32 31)).toInt32).toInt
def qland (a b : Int) : Int := (Int64.ofInt a &&& Int64.ofInt b).toInt
def qlor (a b : Int) : Int := (Int64.ofInt a ||| Int64.ofInt b).toInt
def qlxor (a b : Int) : Int := (Int64.ofInt a ^^^ Int64.ofInt b).toInt
def qlshl (a b : Int) : Int := (Int64.ofInt a <<< ((Int32.ofInt b).toInt64 &&& 63)).toInt
def qlshr (a b : Int) : Int := (Int64.ofInt a >>> ((Int32.ofInt b).toInt64 &&& 63)).toInt
def qlushr (a b : Int) : Int := (((Int64.ofInt a).toUInt64 >>> ((Int32.ofInt b).toInt64.toUInt64 &&& Int64.toUInt64 63)).toInt64).toInt
def ql2i (a : Int) : Int := ((Int64.ofInt a).toInt32).toInt
def qi2b (a : Int) : Int := ((Int32.ofInt a).toInt8.toInt32).toInt
def qi2s (a : Int) : Int := ((Int32.ofInt a).toInt16.toInt32).toInt
def qi2c (a : Int) : Int := (((Int32.ofInt a).toUInt32 % 65536).toInt32).toInt
theorem qtdiv_b {a b : Int} (hp : 0 < b) : (0 ≤ a → 0 ≤ a.tdiv b ∧ a.tdiv b ≤ a) ∧ (a ≤ 0 → a ≤ a.tdiv b ∧ a.tdiv b ≤ 0) := by
  refine ⟨fun h => ⟨Int.tdiv_nonneg h (by omega), Int.tdiv_le_self b h⟩, fun h => ?_⟩
  have h1 : 0 ≤ (-a).tdiv b := Int.tdiv_nonneg (by omega) (by omega)
  have h2 : (-a).tdiv b ≤ -a := Int.tdiv_le_self b (by omega)
  rw [Int.neg_tdiv] at h1 h2
  omega
theorem qdiv32 {a b : Int} (ha : in32 a) (hb : in32 b) (hp : 0 < b) : Int32.ofInt a / Int32.ofInt b = Int32.ofInt (a.tdiv b) := by
  have hr : in32 (a.tdiv b) := by
    obtain ⟨h1, h2⟩ := qtdiv_b (a := a) hp
    have := ha.1
    have := ha.2
    by_cases h : 0 ≤ a
    · have := h1 h; exact ⟨by omega, by omega⟩
    · have := h2 (by omega); exact ⟨by omega, by omega⟩
  rw [← Int32.toInt_inj, Int32.toInt_div, q32 ha, q32 hb, q32 hr]
  exact Int.bmod_eq_of_le (by have := hr.1; omega) (by have := hr.2; omega)
theorem qdiv64 {a b : Int} (ha : in64 a) (hb : in64 b) (hp : 0 < b) : Int64.ofInt a / Int64.ofInt b = Int64.ofInt (a.tdiv b) := by
  have hr : in64 (a.tdiv b) := by
    obtain ⟨h1, h2⟩ := qtdiv_b (a := a) hp
    have := ha.1
    have := ha.2
    by_cases h : 0 ≤ a
    · have := h1 h; exact ⟨by omega, by omega⟩
    · have := h2 (by omega); exact ⟨by omega, by omega⟩
  rw [← Int64.toInt_inj, Int64.toInt_div, q64 ha, q64 hb, q64 hr]
  exact Int.bmod_eq_of_le (by have := hr.1; omega) (by have := hr.2; omega)
theorem qcat1 (X : QX) {v : QV} (h : v.1 ≠ 1) : (qcv X v).category = 1 := by
  have e := qcat X v
  rw [show (v.1 == 1) = false by simpa using h] at e
  rcases lv_cat (qcv X v) with h | h
  · exact h
  · rw [h] at e; cases e
theorem ql_cmp {a b : Int} (ha : in64 a) (hb : in64 b) : lg_cmp (Int64.ofInt a) (Int64.ofInt b) = Int32.ofInt (if b < a then 1 else if a = b then 0 else -1) := by
  unfold lg_cmp
  by_cases h1 : b < a
  · rw [if_pos ((ql_lt hb ha).mpr h1), if_pos h1]; rfl
  · rw [if_neg (fun z => h1 ((ql_lt hb ha).mp z)), if_neg h1]
    by_cases h2 : a = b
    · rw [if_pos ((ql_eq ha hb).mpr h2), if_pos h2]; rfl
    · rw [if_neg (fun z => h2 ((ql_eq ha hb).mp z)), if_neg h2]; rfl
section QRows
variable {X : QX} {d : Nat} {mx : Nat × Nat} {m : QMeth} {post : Int → QH → Prop} {cs : Nat × Nat} {pc : Nat} {lv : List (Nat × QV)} {st : List QV} {h : QH}
theorem qs_iadd {a b : Int} (hd : decode (qmc m) pc = .ok (.iadd, 1)) (k : QR X d mx m post cs (pc + 1) lv ((0, a + b) :: st) h) : QR X d mx m post cs pc lv ((0, b) :: (0, a) :: st) h := by
  intro p e R s mi ar be me c H lo ls hR hB hH hL hl
  have k := k p e R s mi ar be me c H lo ls hR hB hH hL hl
  refine lv_iadd (x := Int32.ofInt a) (y := Int32.ofInt b) hB.1 hB.2.1 hd ?_
  rw [← Int32.ofInt_add]; exact k
theorem qs_isub {a b : Int} (hd : decode (qmc m) pc = .ok (.isub, 1)) (k : QR X d mx m post cs (pc + 1) lv ((0, a - b) :: st) h) : QR X d mx m post cs pc lv ((0, b) :: (0, a) :: st) h := by
  intro p e R s mi ar be me c H lo ls hR hB hH hL hl
  have k := k p e R s mi ar be me c H lo ls hR hB hH hL hl
  refine lv_isub (x := Int32.ofInt a) (y := Int32.ofInt b) hB.1 hB.2.1 hd ?_
  rw [← Int32.ofInt_sub]; exact k
theorem qs_imul {a b : Int} (hd : decode (qmc m) pc = .ok (.imul, 1)) (k : QR X d mx m post cs (pc + 1) lv ((0, a * b) :: st) h) : QR X d mx m post cs pc lv ((0, b) :: (0, a) :: st) h := by
  intro p e R s mi ar be me c H lo ls hR hB hH hL hl
  have k := k p e R s mi ar be me c H lo ls hR hB hH hL hl
  refine lv_imul (x := Int32.ofInt a) (y := Int32.ofInt b) hB.1 hB.2.1 hd ?_
  rw [← Int32.ofInt_mul]; exact k
theorem qs_ladd {a b : Int} (hd : decode (qmc m) pc = .ok (.ladd, 1)) (k : QR X d mx m post cs (pc + 1) lv ((1, a + b) :: st) h) : QR X d mx m post cs pc lv ((1, b) :: (1, a) :: st) h := by
  intro p e R s mi ar be me c H lo ls hR hB hH hL hl
  have k := k p e R s mi ar be me c H lo ls hR hB hH hL hl
  refine lv_ladd (x := Int64.ofInt a) (y := Int64.ofInt b) hB.1 hB.2.1 hd ?_
  rw [← Int64.ofInt_add]; exact k
theorem qs_lsub {a b : Int} (hd : decode (qmc m) pc = .ok (.lsub, 1)) (k : QR X d mx m post cs (pc + 1) lv ((1, a - b) :: st) h) : QR X d mx m post cs pc lv ((1, b) :: (1, a) :: st) h := by
  intro p e R s mi ar be me c H lo ls hR hB hH hL hl
  have k := k p e R s mi ar be me c H lo ls hR hB hH hL hl
  refine lv_lsub (x := Int64.ofInt a) (y := Int64.ofInt b) hB.1 hB.2.1 hd ?_
  rw [← Int64.ofInt_sub]; exact k
theorem qs_lmul {a b : Int} (hd : decode (qmc m) pc = .ok (.lmul, 1)) (k : QR X d mx m post cs (pc + 1) lv ((1, a * b) :: st) h) : QR X d mx m post cs pc lv ((1, b) :: (1, a) :: st) h := by
  intro p e R s mi ar be me c H lo ls hR hB hH hL hl
  have k := k p e R s mi ar be me c H lo ls hR hB hH hL hl
  refine lv_lmul (x := Int64.ofInt a) (y := Int64.ofInt b) hB.1 hB.2.1 hd ?_
  rw [← Int64.ofInt_mul]; exact k
theorem qs_iand {a b : Int} (hd : decode (qmc m) pc = .ok (.iand, 1)) (k : QR X d mx m post cs (pc + 1) lv ((0, qand a b) :: st) h) : QR X d mx m post cs pc lv ((0, b) :: (0, a) :: st) h := by
  intro p e R s mi ar be me c H lo ls hR hB hH hL hl
  have k := k p e R s mi ar be me c H lo ls hR hB hH hL hl
  refine lv_iand (x := Int32.ofInt a) (y := Int32.ofInt b) hB.1 hB.2.1 hd ?_
  simp only [List.map_cons, qcv, qand, Int32.ofInt_toInt] at k
  exact k
theorem qs_ior {a b : Int} (hd : decode (qmc m) pc = .ok (.ior, 1)) (k : QR X d mx m post cs (pc + 1) lv ((0, qor a b) :: st) h) : QR X d mx m post cs pc lv ((0, b) :: (0, a) :: st) h := by
  intro p e R s mi ar be me c H lo ls hR hB hH hL hl
  have k := k p e R s mi ar be me c H lo ls hR hB hH hL hl
  refine lv_ior (x := Int32.ofInt a) (y := Int32.ofInt b) hB.1 hB.2.1 hd ?_
  simp only [List.map_cons, qcv, qor, Int32.ofInt_toInt] at k
  exact k
theorem qs_ixor {a b : Int} (hd : decode (qmc m) pc = .ok (.ixor, 1)) (k : QR X d mx m post cs (pc + 1) lv ((0, qxor a b) :: st) h) : QR X d mx m post cs pc lv ((0, b) :: (0, a) :: st) h := by
  intro p e R s mi ar be me c H lo ls hR hB hH hL hl
  have k := k p e R s mi ar be me c H lo ls hR hB hH hL hl
  refine lv_ixor (x := Int32.ofInt a) (y := Int32.ofInt b) hB.1 hB.2.1 hd ?_
  simp only [List.map_cons, qcv, qxor, Int32.ofInt_toInt] at k
  exact k
theorem qs_ishl {a b : Int} (hd : decode (qmc m) pc = .ok (.ishl, 1)) (k : QR X d mx m post cs (pc + 1) lv ((0, qshl a b) :: st) h) : QR X d mx m post cs pc lv ((0, b) :: (0, a) :: st) h := by
  intro p e R s mi ar be me c H lo ls hR hB hH hL hl
  have k := k p e R s mi ar be me c H lo ls hR hB hH hL hl
  refine lv_ishl (x := Int32.ofInt a) (y := Int32.ofInt b) hB.1 hB.2.1 hd ?_
  simp only [List.map_cons, qcv, qshl, Int32.ofInt_toInt] at k
  exact k
theorem qs_ishr {a b : Int} (hd : decode (qmc m) pc = .ok (.ishr, 1)) (k : QR X d mx m post cs (pc + 1) lv ((0, qshr a b) :: st) h) : QR X d mx m post cs pc lv ((0, b) :: (0, a) :: st) h := by
  intro p e R s mi ar be me c H lo ls hR hB hH hL hl
  have k := k p e R s mi ar be me c H lo ls hR hB hH hL hl
  refine lv_ishr (x := Int32.ofInt a) (y := Int32.ofInt b) hB.1 hB.2.1 hd ?_
  simp only [List.map_cons, qcv, qshr, Int32.ofInt_toInt] at k
  exact k
theorem qs_iushr {a b : Int} (hd : decode (qmc m) pc = .ok (.iushr, 1)) (k : QR X d mx m post cs (pc + 1) lv ((0, qushr a b) :: st) h) : QR X d mx m post cs pc lv ((0, b) :: (0, a) :: st) h := by
  intro p e R s mi ar be me c H lo ls hR hB hH hL hl
  have k := k p e R s mi ar be me c H lo ls hR hB hH hL hl
  refine lv_iushr (x := Int32.ofInt a) (y := Int32.ofInt b) hB.1 hB.2.1 hd rfl ?_
  simp only [List.map_cons, qcv, qushr, Int32.ofInt_toInt] at k
  exact k
theorem qs_land {a b : Int} (hd : decode (qmc m) pc = .ok (.land, 1)) (k : QR X d mx m post cs (pc + 1) lv ((1, qland a b) :: st) h) : QR X d mx m post cs pc lv ((1, b) :: (1, a) :: st) h := by
  intro p e R s mi ar be me c H lo ls hR hB hH hL hl
  have k := k p e R s mi ar be me c H lo ls hR hB hH hL hl
  refine lv_land (x := Int64.ofInt a) (y := Int64.ofInt b) hB.1 hB.2.1 hd ?_
  simp only [List.map_cons, qcv, qland, Int64.ofInt_toInt] at k
  exact k
theorem qs_lor {a b : Int} (hd : decode (qmc m) pc = .ok (.lor, 1)) (k : QR X d mx m post cs (pc + 1) lv ((1, qlor a b) :: st) h) : QR X d mx m post cs pc lv ((1, b) :: (1, a) :: st) h := by
  intro p e R s mi ar be me c H lo ls hR hB hH hL hl
  have k := k p e R s mi ar be me c H lo ls hR hB hH hL hl
  refine lv_lor (x := Int64.ofInt a) (y := Int64.ofInt b) hB.1 hB.2.1 hd ?_
  simp only [List.map_cons, qcv, qlor, Int64.ofInt_toInt] at k
  exact k
theorem qs_lxor {a b : Int} (hd : decode (qmc m) pc = .ok (.lxor, 1)) (k : QR X d mx m post cs (pc + 1) lv ((1, qlxor a b) :: st) h) : QR X d mx m post cs pc lv ((1, b) :: (1, a) :: st) h := by
  intro p e R s mi ar be me c H lo ls hR hB hH hL hl
  have k := k p e R s mi ar be me c H lo ls hR hB hH hL hl
  refine lv_lxor (x := Int64.ofInt a) (y := Int64.ofInt b) hB.1 hB.2.1 hd ?_
  simp only [List.map_cons, qcv, qlxor, Int64.ofInt_toInt] at k
  exact k
theorem qs_lshl {a b : Int} (hd : decode (qmc m) pc = .ok (.lshl, 1)) (k : QR X d mx m post cs (pc + 1) lv ((1, qlshl a b) :: st) h) : QR X d mx m post cs pc lv ((0, b) :: (1, a) :: st) h := by
  intro p e R s mi ar be me c H lo ls hR hB hH hL hl
  have k := k p e R s mi ar be me c H lo ls hR hB hH hL hl
  refine lv_lshl (x := Int64.ofInt a) (y := Int32.ofInt b) hB.1 hB.2.1 hd rfl ?_
  simp only [List.map_cons, qcv, qlshl, Int64.ofInt_toInt] at k
  exact k
theorem qs_lshr {a b : Int} (hd : decode (qmc m) pc = .ok (.lshr, 1)) (k : QR X d mx m post cs (pc + 1) lv ((1, qlshr a b) :: st) h) : QR X d mx m post cs pc lv ((0, b) :: (1, a) :: st) h := by
  intro p e R s mi ar be me c H lo ls hR hB hH hL hl
  have k := k p e R s mi ar be me c H lo ls hR hB hH hL hl
  refine lv_lshr (x := Int64.ofInt a) (y := Int32.ofInt b) hB.1 hB.2.1 hd rfl ?_
  simp only [List.map_cons, qcv, qlshr, Int64.ofInt_toInt] at k
  exact k
theorem qs_lushr {a b : Int} (hd : decode (qmc m) pc = .ok (.lushr, 1)) (k : QR X d mx m post cs (pc + 1) lv ((1, qlushr a b) :: st) h) : QR X d mx m post cs pc lv ((0, b) :: (1, a) :: st) h := by
  intro p e R s mi ar be me c H lo ls hR hB hH hL hl
  have k := k p e R s mi ar be me c H lo ls hR hB hH hL hl
  refine lv_lushr (x := Int64.ofInt a) (y := Int32.ofInt b) hB.1 hB.2.1 hd rfl ?_
  simp only [List.map_cons, qcv, qlushr, Int64.ofInt_toInt] at k
  exact k
theorem qs_idiv {a b : Int} (ha : in32 a) (hb : in32 b) (hp : 0 < b) (hd : decode (qmc m) pc = .ok (.idiv, 1)) (k : QR X d mx m post cs (pc + 1) lv ((0, a.tdiv b) :: st) h) : QR X d mx m post cs pc lv ((0, b) :: (0, a) :: st) h := by
  intro p e R s mi ar be me c H lo ls hR hB hH hL hl
  have k := k p e R s mi ar be me c H lo ls hR hB hH hL hl
  refine lv_idiv (x := Int32.ofInt a) (y := Int32.ofInt b) hB.1 hB.2.1 hd (fun z => ?_) ?_
  · have z := congrArg Int32.toInt z
    rw [q32 hb] at z
    simp at z
    omega
  · rw [qdiv32 ha hb hp]; exact k
theorem qs_irem {a b : Int} (ha : in32 a) (hb : in32 b) (hp : 0 < b) (hd : decode (qmc m) pc = .ok (.irem, 1)) (k : QR X d mx m post cs (pc + 1) lv ((0, a.tmod b) :: st) h) : QR X d mx m post cs pc lv ((0, b) :: (0, a) :: st) h := by
  intro p e R s mi ar be me c H lo ls hR hB hH hL hl
  have k := k p e R s mi ar be me c H lo ls hR hB hH hL hl
  refine lv_irem (x := Int32.ofInt a) (y := Int32.ofInt b) hB.1 hB.2.1 hd (fun z => ?_) ?_
  · have z := congrArg Int32.toInt z
    rw [q32 hb] at z
    simp at z
    omega
  · rw [qdiv32 ha hb hp, ← Int32.ofInt_mul, ← Int32.ofInt_sub, show a - a.tdiv b * b = a.tmod b from by rw [Int.tmod_def, Int.mul_comm]]; exact k
theorem qs_ldiv {a b : Int} (ha : in64 a) (hb : in64 b) (hp : 0 < b) (hd : decode (qmc m) pc = .ok (.ldiv, 1)) (k : QR X d mx m post cs (pc + 1) lv ((1, a.tdiv b) :: st) h) : QR X d mx m post cs pc lv ((1, b) :: (1, a) :: st) h := by
  intro p e R s mi ar be me c H lo ls hR hB hH hL hl
  have k := k p e R s mi ar be me c H lo ls hR hB hH hL hl
  refine lv_ldiv (x := Int64.ofInt a) (y := Int64.ofInt b) hB.1 hB.2.1 hd (fun z => ?_) ?_
  · have z := congrArg Int64.toInt z
    rw [q64 hb] at z
    simp at z
    omega
  · rw [qdiv64 ha hb hp]; exact k
theorem qs_lrem {a b : Int} (ha : in64 a) (hb : in64 b) (hp : 0 < b) (hd : decode (qmc m) pc = .ok (.lrem, 1)) (k : QR X d mx m post cs (pc + 1) lv ((1, a.tmod b) :: st) h) : QR X d mx m post cs pc lv ((1, b) :: (1, a) :: st) h := by
  intro p e R s mi ar be me c H lo ls hR hB hH hL hl
  have k := k p e R s mi ar be me c H lo ls hR hB hH hL hl
  refine lv_lrem (x := Int64.ofInt a) (y := Int64.ofInt b) hB.1 hB.2.1 hd (fun z => ?_) ?_
  · have z := congrArg Int64.toInt z
    rw [q64 hb] at z
    simp at z
    omega
  · rw [qdiv64 ha hb hp, ← Int64.ofInt_mul, ← Int64.ofInt_sub, show a - a.tdiv b * b = a.tmod b from by rw [Int.tmod_def, Int.mul_comm]]; exact k
theorem qs_i2l {a : Int} (ha : in32 a) (hd : decode (qmc m) pc = .ok (.i2l, 1)) (k : QR X d mx m post cs (pc + 1) lv ((1, a) :: st) h) : QR X d mx m post cs pc lv ((0, a) :: st) h := by
  intro p e R s mi ar be me c H lo ls hR hB hH hL hl
  have k := k p e R s mi ar be me c H lo ls hR hB hH hL hl
  have e : (Int32.ofInt a).toInt64 = Int64.ofInt a := by
    rw [← Int64.toInt_inj, Int32.toInt_toInt64, q32 ha, q64 ⟨by have := ha.1; omega, by have := ha.2; omega⟩]
  exact lv_i2l (x := Int32.ofInt a) hB.1 hB.2.1 hd e k
theorem qs_l2i {a : Int} (hd : decode (qmc m) pc = .ok (.l2i, 1)) (k : QR X d mx m post cs (pc + 1) lv ((0, ql2i a) :: st) h) : QR X d mx m post cs pc lv ((1, a) :: st) h := by
  intro p e R s mi ar be me c H lo ls hR hB hH hL hl
  have k := k p e R s mi ar be me c H lo ls hR hB hH hL hl
  refine lv_l2i (x := Int64.ofInt a) hB.1 hB.2.1 hd rfl ?_
  simp only [List.map_cons, qcv, ql2i, Int32.ofInt_toInt] at k
  exact k
theorem qs_i2b {a : Int} (hd : decode (qmc m) pc = .ok (.i2b, 1)) (k : QR X d mx m post cs (pc + 1) lv ((0, qi2b a) :: st) h) : QR X d mx m post cs pc lv ((0, a) :: st) h := by
  intro p e R s mi ar be me c H lo ls hR hB hH hL hl
  have k := k p e R s mi ar be me c H lo ls hR hB hH hL hl
  refine lv_i2b (x := Int32.ofInt a) hB.1 hB.2.1 hd rfl ?_
  simp only [List.map_cons, qcv, qi2b, Int32.ofInt_toInt] at k
  exact k
theorem qs_i2s {a : Int} (hd : decode (qmc m) pc = .ok (.i2s, 1)) (k : QR X d mx m post cs (pc + 1) lv ((0, qi2s a) :: st) h) : QR X d mx m post cs pc lv ((0, a) :: st) h := by
  intro p e R s mi ar be me c H lo ls hR hB hH hL hl
  have k := k p e R s mi ar be me c H lo ls hR hB hH hL hl
  refine lv_i2s (x := Int32.ofInt a) hB.1 hB.2.1 hd rfl ?_
  simp only [List.map_cons, qcv, qi2s, Int32.ofInt_toInt] at k
  exact k
theorem qs_i2c {a : Int} (hd : decode (qmc m) pc = .ok (.i2c, 1)) (k : QR X d mx m post cs (pc + 1) lv ((0, qi2c a) :: st) h) : QR X d mx m post cs pc lv ((0, a) :: st) h := by
  intro p e R s mi ar be me c H lo ls hR hB hH hL hl
  have k := k p e R s mi ar be me c H lo ls hR hB hH hL hl
  refine lv_i2c (x := Int32.ofInt a) hB.1 hB.2.1 hd rfl ?_
  simp only [List.map_cons, qcv, qi2c, Int32.ofInt_toInt] at k
  exact k
theorem qs_iconst {n : Int} (hd : decode (qmc m) pc = .ok (.iconst n, 1)) (k : QR X d mx m post cs (pc + 1) lv ((0, n) :: st) h) : QR X d mx m post cs pc lv st h := by
  intro p e R s mi ar be me c H lo ls hR hB hH hL hl
  have k := k p e R s mi ar be me c H lo ls hR hB hH hL hl
  exact lv_iconst hB.1 hB.2.1 hd rfl k
theorem qs_bipush {n : Int} (hn : -128 ≤ n ∧ n ≤ 127) (hd : decode (qmc m) pc = .ok (.bipush n, 2)) (k : QR X d mx m post cs (pc + 2) lv ((0, n) :: st) h) : QR X d mx m post cs pc lv st h := by
  intro p e R s mi ar be me c H lo ls hR hB hH hL hl
  have k := k p e R s mi ar be me c H lo ls hR hB hH hL hl
  have e : (Int8.ofInt n).toInt32 = Int32.ofInt n := by
    rw [← Int32.toInt_inj, Int8.toInt_toInt32, Int8.toInt_ofInt_of_le (by omega) (by omega), q32 ⟨by omega, by omega⟩]
  exact lv_bipush hB.1 hB.2.1 hd e k
theorem qs_sipush {n : Int} (hn : -32768 ≤ n ∧ n ≤ 32767) (hd : decode (qmc m) pc = .ok (.sipush n, 3)) (k : QR X d mx m post cs (pc + 3) lv ((0, n) :: st) h) : QR X d mx m post cs pc lv st h := by
  intro p e R s mi ar be me c H lo ls hR hB hH hL hl
  have k := k p e R s mi ar be me c H lo ls hR hB hH hL hl
  have e : (Int16.ofInt n).toInt32 = Int32.ofInt n := by
    rw [← Int32.toInt_inj, Int16.toInt_toInt32, Int16.toInt_ofInt_of_le (by omega) (by omega), q32 ⟨by omega, by omega⟩]
  exact lv_sipush hB.1 hB.2.1 hd e k
theorem qs_lconst {n : Fin 2} (hd : decode (qmc m) pc = .ok (.lconst n, 1)) (k : QR X d mx m post cs (pc + 1) lv ((1, (n.val : Int)) :: st) h) : QR X d mx m post cs pc lv st h := by
  intro p e R s mi ar be me c H lo ls hR hB hH hL hl
  have k := k p e R s mi ar be me c H lo ls hR hB hH hL hl
  exact lv_lconst hB.1 hB.2.1 hd (by rw [Int64.ofInt_eq_ofNat]) k
theorem qs_ldc {i : Nat} {v : Int32} (hv : Cond.constant (qown (qmo m)) i v ∈ qtbl) (hd : decode (qmc m) pc = .ok (.ldc i, 2)) (k : QR X d mx m post cs (pc + 2) lv ((0, v.toInt) :: st) h) : QR X d mx m post cs pc lv st h := by
  intro p e R s mi ar be me c H lo ls hR hB hH hL hl
  have k := k p e R s mi ar be me c H lo ls hR hB hH hL hl
  simp only [List.map_cons, qcv, Int32.ofInt_toInt] at k
  exact lv_ldc hB.1 hB.2.1 hB.2.2.2.2.2.1 (hB.2.2.2.2.2.2.1 _ hv) hd k
theorem qs_ldcw {i : Nat} {v : Int32} (hv : Cond.constant (qown (qmo m)) i v ∈ qtbl) (hd : decode (qmc m) pc = .ok (.ldc_w i, 3)) (k : QR X d mx m post cs (pc + 3) lv ((0, v.toInt) :: st) h) : QR X d mx m post cs pc lv st h := by
  intro p e R s mi ar be me c H lo ls hR hB hH hL hl
  have k := k p e R s mi ar be me c H lo ls hR hB hH hL hl
  simp only [List.map_cons, qcv, Int32.ofInt_toInt] at k
  exact lv_ldcw hB.1 hB.2.1 hB.2.2.2.2.2.1 (hB.2.2.2.2.2.2.1 _ hv) hd k
theorem qs_ldc2 {i : Nat} {v : Int64} (hv : Cond.constantLong (qown (qmo m)) i v ∈ qtbl) (hd : decode (qmc m) pc = .ok (.ldc2_w i, 3)) (k : QR X d mx m post cs (pc + 3) lv ((1, v.toInt) :: st) h) : QR X d mx m post cs pc lv st h := by
  intro p e R s mi ar be me c H lo ls hR hB hH hL hl
  have k := k p e R s mi ar be me c H lo ls hR hB hH hL hl
  simp only [List.map_cons, qcv, Int64.ofInt_toInt] at k
  exact lv_ldc2 hB.1 hB.2.1 hB.2.2.2.2.2.1 (hB.2.2.2.2.2.2.1 _ hv) hd k
theorem qs_iload {i : Nat} {x : Int} (hv : qlook lv i = some (0, x)) (hd : decode (qmc m) pc = .ok (.iload i, 2)) (k : QR X d mx m post cs (pc + 2) lv ((0, x) :: st) h) : QR X d mx m post cs pc lv st h := by
  intro p e R s mi ar be me c H lo ls hR hB hH hL hl
  have k := k p e R s mi ar be me c H lo ls hR hB hH hL hl
  exact lv_iload hB.1 hB.2.1 hd (qlook_ls hl hv) k
theorem qs_iload_n {i : Fin 4} {x : Int} (hv : qlook lv i.val = some (0, x)) (hd : decode (qmc m) pc = .ok (.iload_n i, 1)) (k : QR X d mx m post cs (pc + 1) lv ((0, x) :: st) h) : QR X d mx m post cs pc lv st h := by
  intro p e R s mi ar be me c H lo ls hR hB hH hL hl
  have k := k p e R s mi ar be me c H lo ls hR hB hH hL hl
  exact lv_iload_n hB.1 hB.2.1 hd rfl (qlook_ls hl hv) k
theorem qs_lload {i : Nat} {x : Int} (hv : qlook lv i = some (1, x)) (hd : decode (qmc m) pc = .ok (.lload i, 2)) (k : QR X d mx m post cs (pc + 2) lv ((1, x) :: st) h) : QR X d mx m post cs pc lv st h := by
  intro p e R s mi ar be me c H lo ls hR hB hH hL hl
  have k := k p e R s mi ar be me c H lo ls hR hB hH hL hl
  exact lv_lload hB.1 hB.2.1 hd (qlook_ls hl hv) k
theorem qs_lload_n {i : Fin 4} {x : Int} (hv : qlook lv i.val = some (1, x)) (hd : decode (qmc m) pc = .ok (.lload_n i, 1)) (k : QR X d mx m post cs (pc + 1) lv ((1, x) :: st) h) : QR X d mx m post cs pc lv st h := by
  intro p e R s mi ar be me c H lo ls hR hB hH hL hl
  have k := k p e R s mi ar be me c H lo ls hR hB hH hL hl
  exact lv_lload_n hB.1 hB.2.1 hd rfl (qlook_ls hl hv) k
theorem qs_aload {i : Nat} {x : Int} (hv : qlook lv i = some (2, x)) (hd : decode (qmc m) pc = .ok (.aload i, 2)) (k : QR X d mx m post cs (pc + 2) lv ((2, x) :: st) h) : QR X d mx m post cs pc lv st h := by
  intro p e R s mi ar be me c H lo ls hR hB hH hL hl
  have k := k p e R s mi ar be me c H lo ls hR hB hH hL hl
  have hg := qlook_ls hl hv
  have ek : qcv X (2, x) = qrv X x := rfl
  simp only [List.map_cons] at k
  rw [ek] at k hg
  unfold qrv at k hg
  split at k
  · rename_i hc; rw [if_pos hc] at hg; exact lv_aload hB.1 hB.2.1 hd hg k
  · rename_i hc; rw [if_neg hc] at hg
    split at k
    · rename_i hc; rw [if_pos hc] at hg; exact lv_aloadN hB.1 hB.2.1 hd hg k
    · rename_i hc; rw [if_neg hc] at hg; exact lv_aload hB.1 hB.2.1 hd hg k
theorem qs_aload_n {i : Fin 4} {x : Int} (hv : qlook lv i.val = some (2, x)) (hd : decode (qmc m) pc = .ok (.aload_n i, 1)) (k : QR X d mx m post cs (pc + 1) lv ((2, x) :: st) h) : QR X d mx m post cs pc lv st h := by
  intro p e R s mi ar be me c H lo ls hR hB hH hL hl
  have k := k p e R s mi ar be me c H lo ls hR hB hH hL hl
  have hg := qlook_ls hl hv
  have ek : qcv X (2, x) = qrv X x := rfl
  simp only [List.map_cons] at k
  rw [ek] at k hg
  unfold qrv at k hg
  split at k
  · rename_i hc; rw [if_pos hc] at hg; exact lv_aload_n hB.1 hB.2.1 hd rfl hg k
  · rename_i hc; rw [if_neg hc] at hg
    split at k
    · rename_i hc; rw [if_pos hc] at hg; exact lv_aload_nN hB.1 hB.2.1 hd rfl hg k
    · rename_i hc; rw [if_neg hc] at hg; exact lv_aload_n hB.1 hB.2.1 hd rfl hg k
theorem qs_istore {i : Nat} {x : Int} (hi : i < qmL m) (hd : decode (qmc m) pc = .ok (.istore i, 2)) (k : QR X d mx m post cs (pc + 2) (qset lv i (0, x)) st h) : QR X d mx m post cs pc lv ((0, x) :: st) h := by
  intro p e R s mi ar be me c H lo ls hR hB hH hL hl
  exact lv_istore hB.1 hB.2.1 hd hl hi (qset_map X lv i (0, x)) (fun ls hl => k p e R s mi ar be me c H lo ls hR hB hH hL hl)
theorem qs_istore_n {i : Fin 4} {x : Int} (hi : i.val < qmL m) (hd : decode (qmc m) pc = .ok (.istore_n i, 1)) (k : QR X d mx m post cs (pc + 1) (qset lv i.val (0, x)) st h) : QR X d mx m post cs pc lv ((0, x) :: st) h := by
  intro p e R s mi ar be me c H lo ls hR hB hH hL hl
  exact lv_istore_n hB.1 hB.2.1 hd rfl hl hi (qset_map X lv i.val (0, x)) (fun ls hl => k p e R s mi ar be me c H lo ls hR hB hH hL hl)
theorem qs_lstore {i : Nat} {x : Int} (hi : i + 1 < qmL m) (hd : decode (qmc m) pc = .ok (.lstore i, 2)) (k : QR X d mx m post cs (pc + 2) (qsetl lv i (1, x)) st h) : QR X d mx m post cs pc lv ((1, x) :: st) h := by
  intro p e R s mi ar be me c H lo ls hR hB hH hL hl
  exact lv_lstore hB.1 hB.2.1 hd hl hi (qsetl_map X lv i (1, x)) (fun ls hl => k p e R s mi ar be me c H lo ls hR hB hH hL hl)
theorem qs_lstore_n {i : Fin 4} {x : Int} (hi : i.val + 1 < qmL m) (hd : decode (qmc m) pc = .ok (.lstore_n i, 1)) (k : QR X d mx m post cs (pc + 1) (qsetl lv i.val (1, x)) st h) : QR X d mx m post cs pc lv ((1, x) :: st) h := by
  intro p e R s mi ar be me c H lo ls hR hB hH hL hl
  exact lv_lstore_n hB.1 hB.2.1 hd rfl hl hi (qsetl_map X lv i.val (1, x)) (fun ls hl => k p e R s mi ar be me c H lo ls hR hB hH hL hl)
theorem qs_astore {i : Nat} {x : Int} (hi : i < qmL m) (hd : decode (qmc m) pc = .ok (.astore i, 2)) (k : QR X d mx m post cs (pc + 2) (qset lv i (2, x)) st h) : QR X d mx m post cs pc lv ((2, x) :: st) h := by
  intro p e R s mi ar be me c H lo ls hR hB hH hL hl
  have hq := qset_map X lv i (2, x)
  have ek : qcv X (2, x) = qrv X x := rfl
  simp only [List.map_cons]
  rw [ek] at hq ⊢
  unfold qrv at hq ⊢
  split
  · rename_i hc; rw [if_pos hc] at hq; exact lv_astore hB.1 hB.2.1 hd hl hi hq (fun ls hl => k p e R s mi ar be me c H lo ls hR hB hH hL hl)
  · rename_i hc; rw [if_neg hc] at hq
    split
    · rename_i hc; rw [if_pos hc] at hq; exact lv_astoreN hB.1 hB.2.1 hd hl hi hq (fun ls hl => k p e R s mi ar be me c H lo ls hR hB hH hL hl)
    · rename_i hc; rw [if_neg hc] at hq; exact lv_astore hB.1 hB.2.1 hd hl hi hq (fun ls hl => k p e R s mi ar be me c H lo ls hR hB hH hL hl)
theorem qs_astore_n {i : Fin 4} {x : Int} (hi : i.val < qmL m) (hd : decode (qmc m) pc = .ok (.astore_n i, 1)) (k : QR X d mx m post cs (pc + 1) (qset lv i.val (2, x)) st h) : QR X d mx m post cs pc lv ((2, x) :: st) h := by
  intro p e R s mi ar be me c H lo ls hR hB hH hL hl
  have hq := qset_map X lv i.val (2, x)
  have ek : qcv X (2, x) = qrv X x := rfl
  simp only [List.map_cons]
  rw [ek] at hq ⊢
  unfold qrv at hq ⊢
  split
  · rename_i hc; rw [if_pos hc] at hq; exact lv_astore_n hB.1 hB.2.1 hd rfl hl hi hq (fun ls hl => k p e R s mi ar be me c H lo ls hR hB hH hL hl)
  · rename_i hc; rw [if_neg hc] at hq
    split
    · rename_i hc; rw [if_pos hc] at hq; exact lv_astore_nN hB.1 hB.2.1 hd rfl hl hi hq (fun ls hl => k p e R s mi ar be me c H lo ls hR hB hH hL hl)
    · rename_i hc; rw [if_neg hc] at hq; exact lv_astore_n hB.1 hB.2.1 hd rfl hl hi hq (fun ls hl => k p e R s mi ar be me c H lo ls hR hB hH hL hl)
theorem qs_iinc {i : Nat} {n x : Int} (hi : i < qmL m) (hv : qlook lv i = some (0, x)) (hd : decode (qmc m) pc = .ok (.iinc i n, 3)) (k : QR X d mx m post cs (pc + 3) (qset lv i (0, x + n)) st h) : QR X d mx m post cs pc lv st h := by
  intro p e R s mi ar be me c H lo ls hR hB hH hL hl
  obtain ⟨k0, hk0⟩ := List.getElem?_of_mem (List.mem_map.mpr ⟨(i, ((0 : Nat), x)), qlook_mem hv, rfl⟩ : ((i, qcv X (0, x)) : Nat × Value) ∈ lv.map fun q => (q.1, qcv X q.2))
  exact lv_iinc hB.1 hB.2.1 hd hl hk0 (Int32.ofInt_add x n).symm hi (qset_map X lv i (0, x + n)) (fun ls hl => k p e R s mi ar be me c H lo ls hR hB hH hL hl)
theorem qs_dup {v : QV} (hv : v.1 ≠ 1) (hd : decode (qmc m) pc = .ok (.dup, 1)) (k : QR X d mx m post cs (pc + 1) lv (v :: v :: st) h) : QR X d mx m post cs pc lv (v :: st) h := by
  intro p e R s mi ar be me c H lo ls hR hB hH hL hl
  have k := k p e R s mi ar be me c H lo ls hR hB hH hL hl
  exact lv_dup hB.1 hB.2.1 hd (qcat1 X hv) k
theorem qs_dup2_11 {v w : QV} (hv : v.1 ≠ 1) (hw : w.1 ≠ 1) (hd : decode (qmc m) pc = .ok (.dup2, 1)) (k : QR X d mx m post cs (pc + 1) lv (v :: w :: v :: w :: st) h) : QR X d mx m post cs pc lv (v :: w :: st) h := by
  intro p e R s mi ar be me c H lo ls hR hB hH hL hl
  have k := k p e R s mi ar be me c H lo ls hR hB hH hL hl
  exact lv_dup2_11 hB.1 hB.2.1 hd (qcat1 X hv) (qcat1 X hw) k
theorem qs_dup2_2 {x : Int} (hd : decode (qmc m) pc = .ok (.dup2, 1)) (k : QR X d mx m post cs (pc + 1) lv ((1, x) :: (1, x) :: st) h) : QR X d mx m post cs pc lv ((1, x) :: st) h := by
  intro p e R s mi ar be me c H lo ls hR hB hH hL hl
  have k := k p e R s mi ar be me c H lo ls hR hB hH hL hl
  exact lv_dup2_2 hB.1 hB.2.1 hd rfl k
theorem qs_pop {v : QV} (hv : v.1 ≠ 1) (hd : decode (qmc m) pc = .ok (.pop, 1)) (k : QR X d mx m post cs (pc + 1) lv st h) : QR X d mx m post cs pc lv (v :: st) h := by
  intro p e R s mi ar be me c H lo ls hR hB hH hL hl
  have k := k p e R s mi ar be me c H lo ls hR hB hH hL hl
  exact lv_pop hB.1 hB.2.1 hd (qcat1 X hv) k
theorem qs_pop2_2 {x : Int} (hd : decode (qmc m) pc = .ok (.pop2, 1)) (k : QR X d mx m post cs (pc + 1) lv st h) : QR X d mx m post cs pc lv ((1, x) :: st) h := by
  intro p e R s mi ar be me c H lo ls hR hB hH hL hl
  have k := k p e R s mi ar be me c H lo ls hR hB hH hL hl
  exact lv_pop2_2 hB.1 hB.2.1 hd rfl k
theorem qs_goto {off : Int} {tgt : Nat} (ht : (pc : Int) + off = (tgt : Int)) (hd : decode (qmc m) pc = .ok (.goto off, 3)) (k : QR X d mx m post cs tgt lv st h) : QR X d mx m post cs pc lv st h := by
  intro p e R s mi ar be me c H lo ls hR hB hH hL hl
  exact lv_goto hB.1 hB.2.1 hd ht (k p e R s mi ar be me c H lo ls hR hB hH hL hl)
theorem qs_icmp_lt {a b off : Int} {tgt : Nat} (ha : in32 a) (hb : in32 b) (ht : (pc : Int) + off = (tgt : Int)) (hd : decode (qmc m) pc = .ok (.if_icmp .lt off, 3)) (kt : a < b → QR X d mx m post cs tgt lv st h) (kf : ¬ a < b → QR X d mx m post cs (pc + 3) lv st h) : QR X d mx m post cs pc lv ((0, b) :: (0, a) :: st) h := by
  intro p e R s mi ar be me c H lo ls hR hB hH hL hl
  exact lv_icmp_lt (x := Int32.ofInt a) (y := Int32.ofInt b) hB.1 hB.2.1 hd ht (fun z => kt ((q_lt ha hb).mp z) p e R s mi ar be me c H lo ls hR hB hH hL hl) (fun z => kf (fun w => z ((q_lt ha hb).mpr w)) p e R s mi ar be me c H lo ls hR hB hH hL hl)
theorem qs_if_lt {a off : Int} {tgt : Nat} (ha : in32 a) (ht : (pc : Int) + off = (tgt : Int)) (hd : decode (qmc m) pc = .ok (.ifCond .lt off, 3)) (kt : a < 0 → QR X d mx m post cs tgt lv st h) (kf : ¬ a < 0 → QR X d mx m post cs (pc + 3) lv st h) : QR X d mx m post cs pc lv ((0, a) :: st) h := by
  intro p e R s mi ar be me c H lo ls hR hB hH hL hl
  exact lv_if_lt (x := Int32.ofInt a) hB.1 hB.2.1 hd ht (fun z => kt ((q_lt ha (show in32 0 from ⟨by decide, by decide⟩)).mp z) p e R s mi ar be me c H lo ls hR hB hH hL hl) (fun z => kf (fun w => z ((q_lt ha (show in32 0 from ⟨by decide, by decide⟩)).mpr w)) p e R s mi ar be me c H lo ls hR hB hH hL hl)
theorem qs_icmp_le {a b off : Int} {tgt : Nat} (ha : in32 a) (hb : in32 b) (ht : (pc : Int) + off = (tgt : Int)) (hd : decode (qmc m) pc = .ok (.if_icmp .le off, 3)) (kt : a ≤ b → QR X d mx m post cs tgt lv st h) (kf : ¬ a ≤ b → QR X d mx m post cs (pc + 3) lv st h) : QR X d mx m post cs pc lv ((0, b) :: (0, a) :: st) h := by
  intro p e R s mi ar be me c H lo ls hR hB hH hL hl
  exact lv_icmp_le (x := Int32.ofInt a) (y := Int32.ofInt b) hB.1 hB.2.1 hd ht (fun z => kt ((q_le ha hb).mp z) p e R s mi ar be me c H lo ls hR hB hH hL hl) (fun z => kf (fun w => z ((q_le ha hb).mpr w)) p e R s mi ar be me c H lo ls hR hB hH hL hl)
theorem qs_if_le {a off : Int} {tgt : Nat} (ha : in32 a) (ht : (pc : Int) + off = (tgt : Int)) (hd : decode (qmc m) pc = .ok (.ifCond .le off, 3)) (kt : a ≤ 0 → QR X d mx m post cs tgt lv st h) (kf : ¬ a ≤ 0 → QR X d mx m post cs (pc + 3) lv st h) : QR X d mx m post cs pc lv ((0, a) :: st) h := by
  intro p e R s mi ar be me c H lo ls hR hB hH hL hl
  exact lv_if_le (x := Int32.ofInt a) hB.1 hB.2.1 hd ht (fun z => kt ((q_le ha (show in32 0 from ⟨by decide, by decide⟩)).mp z) p e R s mi ar be me c H lo ls hR hB hH hL hl) (fun z => kf (fun w => z ((q_le ha (show in32 0 from ⟨by decide, by decide⟩)).mpr w)) p e R s mi ar be me c H lo ls hR hB hH hL hl)
theorem qs_icmp_ge {a b off : Int} {tgt : Nat} (ha : in32 a) (hb : in32 b) (ht : (pc : Int) + off = (tgt : Int)) (hd : decode (qmc m) pc = .ok (.if_icmp .ge off, 3)) (kt : b ≤ a → QR X d mx m post cs tgt lv st h) (kf : ¬ b ≤ a → QR X d mx m post cs (pc + 3) lv st h) : QR X d mx m post cs pc lv ((0, b) :: (0, a) :: st) h := by
  intro p e R s mi ar be me c H lo ls hR hB hH hL hl
  exact lv_icmp_ge (x := Int32.ofInt a) (y := Int32.ofInt b) hB.1 hB.2.1 hd ht (fun z => kt ((q_le hb ha).mp z) p e R s mi ar be me c H lo ls hR hB hH hL hl) (fun z => kf (fun w => z ((q_le hb ha).mpr w)) p e R s mi ar be me c H lo ls hR hB hH hL hl)
theorem qs_if_ge {a off : Int} {tgt : Nat} (ha : in32 a) (ht : (pc : Int) + off = (tgt : Int)) (hd : decode (qmc m) pc = .ok (.ifCond .ge off, 3)) (kt : 0 ≤ a → QR X d mx m post cs tgt lv st h) (kf : ¬ 0 ≤ a → QR X d mx m post cs (pc + 3) lv st h) : QR X d mx m post cs pc lv ((0, a) :: st) h := by
  intro p e R s mi ar be me c H lo ls hR hB hH hL hl
  exact lv_if_ge (x := Int32.ofInt a) hB.1 hB.2.1 hd ht (fun z => kt ((q_le (show in32 0 from ⟨by decide, by decide⟩) ha).mp z) p e R s mi ar be me c H lo ls hR hB hH hL hl) (fun z => kf (fun w => z ((q_le (show in32 0 from ⟨by decide, by decide⟩) ha).mpr w)) p e R s mi ar be me c H lo ls hR hB hH hL hl)
theorem qs_icmp_gt {a b off : Int} {tgt : Nat} (ha : in32 a) (hb : in32 b) (ht : (pc : Int) + off = (tgt : Int)) (hd : decode (qmc m) pc = .ok (.if_icmp .gt off, 3)) (kt : b < a → QR X d mx m post cs tgt lv st h) (kf : ¬ b < a → QR X d mx m post cs (pc + 3) lv st h) : QR X d mx m post cs pc lv ((0, b) :: (0, a) :: st) h := by
  intro p e R s mi ar be me c H lo ls hR hB hH hL hl
  exact lv_icmp_gt (x := Int32.ofInt a) (y := Int32.ofInt b) hB.1 hB.2.1 hd ht (fun z => kt ((q_lt hb ha).mp z) p e R s mi ar be me c H lo ls hR hB hH hL hl) (fun z => kf (fun w => z ((q_lt hb ha).mpr w)) p e R s mi ar be me c H lo ls hR hB hH hL hl)
theorem qs_if_gt {a off : Int} {tgt : Nat} (ha : in32 a) (ht : (pc : Int) + off = (tgt : Int)) (hd : decode (qmc m) pc = .ok (.ifCond .gt off, 3)) (kt : 0 < a → QR X d mx m post cs tgt lv st h) (kf : ¬ 0 < a → QR X d mx m post cs (pc + 3) lv st h) : QR X d mx m post cs pc lv ((0, a) :: st) h := by
  intro p e R s mi ar be me c H lo ls hR hB hH hL hl
  exact lv_if_gt (x := Int32.ofInt a) hB.1 hB.2.1 hd ht (fun z => kt ((q_lt (show in32 0 from ⟨by decide, by decide⟩) ha).mp z) p e R s mi ar be me c H lo ls hR hB hH hL hl) (fun z => kf (fun w => z ((q_lt (show in32 0 from ⟨by decide, by decide⟩) ha).mpr w)) p e R s mi ar be me c H lo ls hR hB hH hL hl)
theorem qs_icmp_eq {a b off : Int} {tgt : Nat} (hb : ¬ a = b → in32 a ∧ in32 b) (ht : (pc : Int) + off = (tgt : Int)) (hd : decode (qmc m) pc = .ok (.if_icmp .eq off, 3)) (ke : a = b → QR X d mx m post cs tgt lv st h) (kn : ¬ a = b → QR X d mx m post cs (pc + 3) lv st h) : QR X d mx m post cs pc lv ((0, b) :: (0, a) :: st) h := by
  intro p e R s mi ar be me c H lo ls hR hB hH hL hl
  exact lv_icmp_eq (x := Int32.ofInt a) (y := Int32.ofInt b) hB.1 hB.2.1 hd ht (fun z => by
    by_cases w : a = b
    · exact ke w p e R s mi ar be me c H lo ls hR hB hH hL hl
    · exact absurd ((q_eq (hb w).1 (hb w).2).mp z) w) (fun z => kn (fun w => z (by rw [w])) p e R s mi ar be me c H lo ls hR hB hH hL hl)
theorem qs_if_eq {a off : Int} {tgt : Nat} (hb : ¬ a = 0 → in32 a ∧ in32 0) (ht : (pc : Int) + off = (tgt : Int)) (hd : decode (qmc m) pc = .ok (.ifCond .eq off, 3)) (ke : a = 0 → QR X d mx m post cs tgt lv st h) (kn : ¬ a = 0 → QR X d mx m post cs (pc + 3) lv st h) : QR X d mx m post cs pc lv ((0, a) :: st) h := by
  intro p e R s mi ar be me c H lo ls hR hB hH hL hl
  exact lv_if_eq (x := Int32.ofInt a) hB.1 hB.2.1 hd ht (fun z => by
    by_cases w : a = 0
    · exact ke w p e R s mi ar be me c H lo ls hR hB hH hL hl
    · exact absurd ((q_eq (hb w).1 (hb w).2).mp z) w) (fun z => kn (fun w => z (by rw [w]; rfl)) p e R s mi ar be me c H lo ls hR hB hH hL hl)
theorem qs_icmp_ne {a b off : Int} {tgt : Nat} (hb : ¬ a = b → in32 a ∧ in32 b) (ht : (pc : Int) + off = (tgt : Int)) (hd : decode (qmc m) pc = .ok (.if_icmp .ne off, 3)) (ke : a = b → QR X d mx m post cs (pc + 3) lv st h) (kn : ¬ a = b → QR X d mx m post cs tgt lv st h) : QR X d mx m post cs pc lv ((0, b) :: (0, a) :: st) h := by
  intro p e R s mi ar be me c H lo ls hR hB hH hL hl
  exact lv_icmp_ne (x := Int32.ofInt a) (y := Int32.ofInt b) hB.1 hB.2.1 hd ht (fun z => kn (fun w => z (by rw [w])) p e R s mi ar be me c H lo ls hR hB hH hL hl) (fun z => by
    by_cases w : a = b
    · exact ke w p e R s mi ar be me c H lo ls hR hB hH hL hl
    · exact absurd ((q_eq (hb w).1 (hb w).2).mp z) w)
theorem qs_if_ne {a off : Int} {tgt : Nat} (hb : ¬ a = 0 → in32 a ∧ in32 0) (ht : (pc : Int) + off = (tgt : Int)) (hd : decode (qmc m) pc = .ok (.ifCond .ne off, 3)) (ke : a = 0 → QR X d mx m post cs (pc + 3) lv st h) (kn : ¬ a = 0 → QR X d mx m post cs tgt lv st h) : QR X d mx m post cs pc lv ((0, a) :: st) h := by
  intro p e R s mi ar be me c H lo ls hR hB hH hL hl
  exact lv_if_ne (x := Int32.ofInt a) hB.1 hB.2.1 hd ht (fun z => kn (fun w => z (by rw [w]; rfl)) p e R s mi ar be me c H lo ls hR hB hH hL hl) (fun z => by
    by_cases w : a = 0
    · exact ke w p e R s mi ar be me c H lo ls hR hB hH hL hl
    · exact absurd ((q_eq (hb w).1 (hb w).2).mp z) w)
theorem qs_lcmp {a b : Int} (ha : in64 a) (hb : in64 b) (hd : decode (qmc m) pc = .ok (.lcmp, 1)) (k : QR X d mx m post cs (pc + 1) lv ((0, if b < a then 1 else if a = b then 0 else -1) :: st) h) : QR X d mx m post cs pc lv ((1, b) :: (1, a) :: st) h := by
  intro p e R s mi ar be me c H lo ls hR hB hH hL hl
  have k := k p e R s mi ar be me c H lo ls hR hB hH hL hl
  refine W.lcmp (x := Int64.ofInt a) (y := Int64.ofInt b) hB.1 hB.2.1 hd ?_
  rw [ql_cmp ha hb]; exact k
theorem qs_lcmp_same {a : Int} (hd : decode (qmc m) pc = .ok (.lcmp, 1)) (k : QR X d mx m post cs (pc + 1) lv ((0, 0) :: st) h) : QR X d mx m post cs pc lv ((1, a) :: (1, a) :: st) h := by
  intro p e R s mi ar be me c H lo ls hR hB hH hL hl
  have k := k p e R s mi ar be me c H lo ls hR hB hH hL hl
  refine W.lcmp (x := Int64.ofInt a) (y := Int64.ofInt a) hB.1 hB.2.1 hd ?_
  rw [show lg_cmp (Int64.ofInt a) (Int64.ofInt a) = Int32.ofInt 0 from by simp [lg_cmp]]; exact k
end QRows
end
section
theorem qlay_good {C : String} {T : u_T} {N : Nat} : ∀ w ∈ u_ws C T N, goodWord w = true := by
  intro w hw
  obtain ⟨k, -, rfl⟩ := List.mem_map.mp hw
  unfold u_lay
  split <;> rfl
theorem qlay_in {C : String} {T : u_T} {N : Nat} (h : ∀ w ∈ u_ws C T N, w ∈ lw_tbl) : ∀ w ∈ u_ws C T N, w ∈ qtbl := fun w hw => List.mem_filter.mpr ⟨h w hw, qlay_good w hw⟩
/-- the classes' tables -/
def qcl (ci : Nat) (C : String) (T : u_T) (N : Nat) : Prop := vwCl[ci]? = some (C, T, N) ∧ ci < 100 ∧ (∀ w ∈ u_ws C T N, w ∈ qtbl) ∧ (∀ k, k < N → parseFieldDescriptor (T k).2.2.1 = some (qtyf ci k)) ∧ (∀ a, a < N → ∀ b, b < N → a ≠ b → (T a).2.1 ≠ (T b).2.1)
theorem qcl_of : ∀ (ci : Nat) (C : String) (T : u_T) (N : Nat), vwCl[ci]? = some (C, T, N) → qcl ci C T N := by
  intro ci C T N hc
  match ci, hc with
  | 0, hc => cases hc; exact ⟨rfl, by decide, qlay_in inX0, tyX0_ok, nmX0⟩
  | 1, hc => cases hc; exact ⟨rfl, by decide, qlay_in inX1, tyX1_ok, nmX1⟩
  | 2, hc => cases hc; exact ⟨rfl, by decide, qlay_in inX2, tyX2_ok, nmX2⟩
  | 3, hc => cases hc; exact ⟨rfl, by decide, qlay_in inX3, tyX3_ok, nmX3⟩
  | 4, hc => cases hc; exact ⟨rfl, by decide, qlay_in inX4, tyX4_ok, nmX4⟩
  | 5, hc => cases hc; exact ⟨rfl, by decide, qlay_in inX5, tyX5_ok, nmX5⟩
  | 6, hc => cases hc; exact ⟨rfl, by decide, qlay_in inX6, tyX6_ok, nmX6⟩
  | 7, hc => cases hc; exact ⟨rfl, by decide, qlay_in inX7, tyX7_ok, nmX7⟩
  | 8, hc => cases hc; exact ⟨rfl, by decide, qlay_in inX8, tyX8_ok, nmX8⟩
  | 9, hc => cases hc; exact ⟨rfl, by decide, qlay_in inX9, tyX9_ok, nmX9⟩
  | 10, hc => cases hc; exact ⟨rfl, by decide, qlay_in inX10, tyX10_ok, nmX10⟩
  | 11, hc => cases hc; exact ⟨rfl, by decide, qlay_in inX11, tyX11_ok, nmX11⟩
  | k + 12, hc => simp at hc
theorem qcv_ref {X : QX} {a : Int} (h : 0 ≤ a) : qcv X (2, a) = .ref ((qxH X).size + a.toNat) := by
  show qrv X a = _
  rw [qrv, if_pos h]
def qfit (t : FieldType) (x : Int) : Prop := match t with
  | .boolean => x = 0 ∨ x = 1
  | .int => True | .long => True | .object _ => True | .array _ => True
  | _ => False
theorem qfit_of (X : QX) {t : FieldType} {x : Int} (h : qfit t x) : narrow t (qcv X (qkd t, x)) = qcv X (qkd t, x) ∧ fits t (qcv X (qkd t, x)) = true := by
  cases t with
  | boolean =>
    rcases h with rfl | rfl
    · exact ⟨rfl, rfl⟩
    · exact ⟨rfl, rfl⟩
  | int => exact ⟨rfl, rfl⟩
  | long => exact ⟨rfl, rfl⟩
  | object n =>
    show narrow (.object n) (qrv X x) = qrv X x ∧ fits (.object n) (qrv X x) = true
    unfold qrv
    split
    · exact ⟨rfl, rfl⟩
    · split <;> exact ⟨rfl, rfl⟩
  | array t =>
    show narrow (.array t) (qrv X x) = qrv X x ∧ fits (.array t) (qrv X x) = true
    unfold qrv
    split
    · exact ⟨rfl, rfl⟩
    · split <;> exact ⟨rfl, rfl⟩
  | _ => exact h.elim
theorem qin_ix {i : Int} {n : Nat} (h0 : 0 ≤ i) (hn : i < n) (hb : n < 2147483648) : (Int32.ofInt i).toNatClampNeg = i.toNat ∧ ¬ (Int32.ofInt i < 0 ∨ n ≤ (Int32.ofInt i).toNatClampNeg) := by
  have h32 : in32 i := ⟨by omega, by omega⟩
  have e := q_clamp h32
  refine ⟨e, ?_⟩
  rw [e]
  rintro (z | z)
  · have := (q_lt h32 (show in32 0 from ⟨by decide, by decide⟩)).mp z
    omega
  · omega
/-- reading an array's cell -/
theorem qarr {X : QX} {h : QH} {H : Heap} {a : Int} {kd : Nat} (hH : QHp X h H) (hs : (h.1.2.1 a).1 = kd) (h1 : 100 ≤ kd) (h2 : kd ≤ 106) : 0 ≤ a ∧ a < h.1.1 ∧ 0 ≤ (h.1.2.1 a).2 ∧ (h.1.2.1 a).2 < 2147483648 ∧ H[(qxH X).size + a.toNat]? = some (arrV (qxA X kd) (h.1.2.1 a).2.toNat (fun j => qcv X (qel kd, qval h (qel kd) a j))) := by
  obtain ⟨-, -, g3, g4⟩ := hH
  have ha := g3 a (by omega)
  have g5 := (g4 a.toNat (by omega)).2
  rw [show ((a.toNat : Nat) : Int) = a by omega] at g5
  obtain ⟨-, r2, r3, r4⟩ := g5 (by omega)
  rw [hs] at r4
  exact ⟨ha.1, ha.2, r2, r3, r4⟩
theorem qtys_at (X : QX) : ∀ kd, 100 ≤ kd → kd ≤ 106 → (qtys X)[kd - 100]? = some (qxA X kd, qty kd) := by
  intro kd h1 h2
  rcases (show kd = 100 ∨ kd = 101 ∨ kd = 102 ∨ kd = 103 ∨ kd = 104 ∨ kd = 105 ∨ kd = 106 by omega) with rfl | rfl | rfl | rfl | rfl | rfl | rfl <;> rfl
theorem qarrof {X : QX} {s : State} (hT : QT X s) {kd : Nat} (h1 : 100 ≤ kd) (h2 : kd ≤ 106) : ArrOfT s (qxA X kd) (qty kd) ∧ va_RA s (qxA X kd) (qty kd) := hT.1.2 (kd - 100) _ (qtys_at X kd h1 h2)
section QHeap
variable {X : QX} {d : Nat} {mx : Nat × Nat} {m : QMeth} {post : Int → QH → Prop} {cs : Nat × Nat} {pc : Nat} {lv : List (Nat × QV)} {st : List QV} {h : QH}
theorem qs_getfield {i ci k : Nat} {C : String} {T : u_T} {N : Nat} {a : Int} (hc : vwCl[ci]? = some (C, T, N)) (hk : k < N) (hlink : Cond.fieldLink (qown (qmo m)) i (T k).1 (T k).2.1 (T k).2.2.1 ∈ qtbl) (hs : (h.1.2.1 a).1 = ci) (hd : decode (qmc m) pc = .ok (.getfield i, 3))
    (kk : QR X d mx m post cs (pc + 3) lv ((qfk ci k, qval h (qfk ci k) a k) :: st) h) : QR X d mx m post cs pc lv ((2, a) :: st) h := by
  intro p e R s mi ar be me c H lo ls hR hB hH hL hl
  have kk := kk p e R s mi ar be me c H lo ls hR hB hH hL hl
  obtain ⟨-, hci, hin, hty, hnm⟩ := qcl_of ci C T N hc
  obtain ⟨hx, hb, hml, hr, hlk, hown, hts, hnme, hT⟩ := hB
  have ha := hH.2.2.1 a (by omega)
  have g := (hH.2.2.2 a.toNat (by omega)).1
  rw [show ((a.toNat : Nat) : Int) = a by omega, hs] at g
  obtain ⟨r, r1, cell, q1, q2, q3, q4⟩ := g hci
  have hr : r = (C, T, N) := Option.some.inj (r1.symm.trans hc)
  subst hr
  obtain ⟨hS, hfc, kC, hkC, hkind⟩ := hT.1.1 ci _ hc
  obtain ⟨cf, kf, fi, f, hi, hsl⟩ := hS k hk
  simp only [List.map_cons]
  rw [qcv_ref ha.1]
  refine W.getf hx hb hown (hts _ hlink) hi (u_facts hfc hkC (u_lays hts hin hk) hi).1 q1 (by rw [q3]; exact fun h => by cases h) (v := qcv X (qfk ci k, qval h (qfk ci k) a k)) ?_ rfl rfl hd kk
  rw [hsl, q4 k hk]
/-- what a store into a field leaves -/
def qputf (h : QH) (kd : Nat) (a j x : Int) : QH := match kd with
  | 2 => ((h.1.1, h.1.2.1, qup h.1.2.2 a j x), h.2)
  | _ => (h.1, qup h.2 a j x)
theorem qputf_ne (h : QH) {kd : Nat} (hk : kd ≠ 2) (a j x : Int) : qputf h kd a j x = (h.1, qup h.2 a j x) := by
  unfold qputf
  split
  · contradiction
  · rfl
theorem qval_ne (h : QH) {kd : Nat} (hk : kd ≠ 2) (a j : Int) : qval h kd a j = h.2 a j := by
  unfold qval
  split
  · contradiction
  · rfl
theorem qputf_val (h : QH) (kd : Nat) (a j x : Int) (kd' : Nat) (b i : Int) : qval (qputf h kd a j x) kd' b i = if (kd = 2 ↔ kd' = 2) ∧ b = a ∧ i = j then x else qval h kd' b i := by
  by_cases h1 : kd = 2
  · subst h1
    by_cases h2 : kd' = 2
    · subst h2
      show qup h.1.2.2 a j x b i = _
      unfold qup
      simp
      rfl
    · rw [qval_ne _ h2, qval_ne _ h2, if_neg (by simp [h2])]
      rfl
  · rw [qputf_ne _ h1]
    by_cases h2 : kd' = 2
    · subst h2
      rw [if_neg (by simp [h1])]
      rfl
    · rw [qval_ne _ h2, qval_ne _ h2]
      unfold qup
      simp [h1, h2]
theorem qputf_s (h : QH) (kd : Nat) (a j x : Int) : (qputf h kd a j x).1.1 = h.1.1 ∧ (qputf h kd a j x).1.2.1 = h.1.2.1 ∧ ∀ b : Int, b ≠ a → ∀ i, (qputf h kd a j x).1.2.2 b i = h.1.2.2 b i ∧ (qputf h kd a j x).2 b i = h.2 b i := by
  unfold qputf
  split
  · exact ⟨rfl, rfl, fun b hb i => ⟨by simp [qup, hb], rfl⟩⟩
  · exact ⟨rfl, rfl, fun b hb i => ⟨rfl, by simp [qup, hb]⟩⟩
theorem qs_putfield {i ci k : Nat} {C : String} {T : u_T} {N : Nat} {a x : Int} (hc : vwCl[ci]? = some (C, T, N)) (hk : k < N) (hlink : Cond.fieldLink (qown (qmo m)) i (T k).1 (T k).2.1 (T k).2.2.1 ∈ qtbl) (hs : (h.1.2.1 a).1 = ci) (hfit : qfit (qtyf ci k) x)
    (hfin : (T k).2.2.2 = false ∨ ((qmy m).name = "<init>" ∧ (T k).1 = qown (qmo m))) (hd : decode (qmc m) pc = .ok (.putfield i, 3))
    (kk : QR X d mx m post cs (pc + 3) lv st (qputf h (qfk ci k) a k x)) : QR X d mx m post cs pc lv ((qfk ci k, x) :: (2, a) :: st) h := by
  intro p e R s mi ar be me c H lo ls hR hB hH hL hl
  have hB0 := hB
  obtain ⟨-, hci, hin, hty, hnm⟩ := qcl_of ci C T N hc
  obtain ⟨hx, hb, hml, hr, hlk, hown, hts, hnme, hT⟩ := hB
  have ha := hH.2.2.1 a (by omega)
  have g := (hH.2.2.2 a.toNat (by omega)).1
  rw [show ((a.toNat : Nat) : Int) = a by omega, hs] at g
  obtain ⟨r, r1, cell, q1, q2, q3, q4⟩ := g hci
  have hr : r = (C, T, N) := Option.some.inj (r1.symm.trans hc)
  subst hr
  have hap := va_apart (own := qown (qmo m)) hts hin (qtyf ci) hty hnm hT.1 hc
  obtain ⟨hS, hfc, kC, hkC, hkind⟩ := hT.1.1 ci _ hc
  obtain ⟨cf, kf, fi, f, hi, hsl⟩ := hS k hk
  have hst := (u_facts hfc hkC (u_lays hts hin hk) hi).1
  have hnf := qfit_of X hfit
  have goal : ∀ H' : Heap, H'[(qxH X).size + a.toNat]? = some (cell.setSlot f.slot (qcv X (qfk ci k, x))) → H'.size = H.size → (∀ q, q ≠ (qxH X).size + a.toNat → H'[q]? = H[q]?) → W p (qxl X) e R s mi ar be me c H' (lo ++ [⟨(qxH X).size + a.toNat, f.slot⟩]) cs.1 cs.2 (MQ be (QQc X (qrk (qmr m)) post) ar s mx.1 mx.2 (qA X)) (F0 mi (pc + 3) ls (st.map (qcv X))) := by
    intro H' e1 e2 e3
    refine kk p e R s mi ar be me c H' _ ls hR hB0 ?_ ?_ hl
    · obtain ⟨s1, s2, s3⟩ := qputf_s h (qfk ci k) a k x
      refine qhp_put hH s1 s2 ha s3 e2 e3 ?_
      refine ⟨fun _ => ?_, fun hz => ?_⟩
      · rw [s2, show ((a.toNat : Nat) : Int) = a by omega, hs]
        rw [hsl] at e1
        refine ⟨_, hc, (show t_OB _ _ _ _ _ (updV _ k _) from ⟨_, e1, q2, q3, t_set q4 hap hk (qcv X (qfk ci k, x))⟩).to (fun j hj => ?_)⟩
        unfold updV
        rw [qputf_val]
        by_cases hjk : j = k
        · subst hjk; simp
        · have : ¬ ((j : Int) = k) := by omega
          simp [hjk, this]
      · rw [s2, show ((a.toNat : Nat) : Int) = a by omega, hs] at hz; omega
    · intro q hq
      rcases List.mem_append.mp hq with hq | hq
      · exact hL q hq
      · rw [List.mem_singleton.mp hq]; exact Nat.le_add_right _ _
  simp only [List.map_cons]
  rw [qcv_ref ha.1]
  have hlay := hts _ (hin _ (u_in_lay hk))
  unfold u_lay at hlay
  by_cases hf : (T k).2.2.2 = true
  · rw [if_pos hf] at hlay
    obtain ⟨hin2, hdecl⟩ : (qmy m).name = "<init>" ∧ (T k).1 = qown (qmo m) := by
      rcases hfin with z | z
      · rw [hf] at z; cases z
      · exact z
    have hcf : mi.cls = cf := by
      obtain ⟨_, _, c', _, _, _, -, -, hf', -, -, -, hown2, -⟩ := Cond.laysFinal_spec hlay
      have e1 : c' = cf := by have := hi.symm.trans hf'; simp at this; exact this.1.symm
      rw [hdecl] at hown2
      rw [← e1]; exact Option.some.inj (hown.symm.trans hown2)
    have h6 := u_fits hfc hkC hkind (Or.inr hlay) hi (hty k hk) hnf.1 hnf.2
    exact W.putFinK hx hb hown (hts _ hlink) hi hst hcf (hnme.trans hin2) (by rw [q2]; exact h6) q1 q3 (by rw [hsl]; exact k2_hasslot (q4 k hk)) rfl rfl hd goal
  · rw [if_neg hf] at hlay
    have h6 := u_store hfc hkC hkind hlay hi (hty k hk) hnf.1 hnf.2
    exact W.putK hx hb (f := f) ⟨hown, hts _ hlink, ⟨_, _, _, hi⟩, hst⟩ (by rw [q2]; exact h6) q1 q3 (by rw [hsl]; exact k2_hasslot (q4 k hk)) rfl rfl hd goal
end QHeap
end
section
section QArr
variable {X : QX} {d : Nat} {mx : Nat × Nat} {m : QMeth} {post : Int → QH → Prop} {cs : Nat × Nat} {pc : Nat} {lv : List (Nat × QV)} {st : List QV} {h : QH}
theorem qs_iaload {a i : Int} (hs : (h.1.2.1 a).1 = 100) (h0 : 0 ≤ i) (hn : i < (h.1.2.1 a).2) (hd : decode (qmc m) pc = .ok (.iaload, 1)) (k : QR X d mx m post cs (pc + 1) lv ((0, h.2 a i) :: st) h) : QR X d mx m post cs pc lv ((0, i) :: (2, a) :: st) h := by
  intro p e R s mi ar be me c H lo ls hR hB hH hL hl
  have k := k p e R s mi ar be me c H lo ls hR hB hH hL hl
  obtain ⟨a0, an, l0, l1, hcell⟩ := qarr hH hs (by decide) (by decide)
  obtain ⟨hx, hb, hml, hr, hlk, hown, hts, hnme, hT⟩ := hB
  obtain ⟨e1, e2⟩ := qin_ix (n := (h.1.2.1 a).2.toNat) h0 (by omega) (by omega)
  simp only [List.map_cons]
  rw [qcv_ref a0]
  refine W.iald (j := Int32.ofInt i) (v := qcv X (0, h.2 a i)) hx hb hcell ((qarrof (kd := 100) hT (by decide) (by decide)).1 _ _) (fun q => by cases q) (by rw [arrV_size]; exact e2) ?_ rfl rfl hd k
  rw [e1, arrV_read _ _ (by omega)]
  show some (qcv X (0, qval h 0 a ((i.toNat : Nat) : Int))) = _
  rw [show ((i.toNat : Nat) : Int) = i by omega]
  rfl
theorem qs_laload {a i : Int} (hs : (h.1.2.1 a).1 = 101) (h0 : 0 ≤ i) (hn : i < (h.1.2.1 a).2) (hd : decode (qmc m) pc = .ok (.laload, 1)) (k : QR X d mx m post cs (pc + 1) lv ((1, h.2 a i) :: st) h) : QR X d mx m post cs pc lv ((0, i) :: (2, a) :: st) h := by
  intro p e R s mi ar be me c H lo ls hR hB hH hL hl
  have k := k p e R s mi ar be me c H lo ls hR hB hH hL hl
  obtain ⟨a0, an, l0, l1, hcell⟩ := qarr hH hs (by decide) (by decide)
  obtain ⟨hx, hb, hml, hr, hlk, hown, hts, hnme, hT⟩ := hB
  obtain ⟨e1, e2⟩ := qin_ix (n := (h.1.2.1 a).2.toNat) h0 (by omega) (by omega)
  simp only [List.map_cons]
  rw [qcv_ref a0]
  refine W.lald (j := Int32.ofInt i) (v := qcv X (1, h.2 a i)) hx hb hcell ((qarrof (kd := 101) hT (by decide) (by decide)).1 _ _) (fun q => by cases q) (by rw [arrV_size]; exact e2) ?_ rfl rfl hd k
  rw [e1, arrV_read _ _ (by omega)]
  show some (qcv X (1, qval h 1 a ((i.toNat : Nat) : Int))) = _
  rw [show ((i.toNat : Nat) : Int) = i by omega]
  rfl
theorem qs_baload {a i : Int} (hs : (h.1.2.1 a).1 = 102) (h0 : 0 ≤ i) (hn : i < (h.1.2.1 a).2) (hd : decode (qmc m) pc = .ok (.baload, 1)) (k : QR X d mx m post cs (pc + 1) lv ((0, h.2 a i) :: st) h) : QR X d mx m post cs pc lv ((0, i) :: (2, a) :: st) h := by
  intro p e R s mi ar be me c H lo ls hR hB hH hL hl
  have k := k p e R s mi ar be me c H lo ls hR hB hH hL hl
  obtain ⟨a0, an, l0, l1, hcell⟩ := qarr hH hs (by decide) (by decide)
  obtain ⟨hx, hb, hml, hr, hlk, hown, hts, hnme, hT⟩ := hB
  obtain ⟨e1, e2⟩ := qin_ix (n := (h.1.2.1 a).2.toNat) h0 (by omega) (by omega)
  simp only [List.map_cons]
  rw [qcv_ref a0]
  refine W.bald (j := Int32.ofInt i) (v := qcv X (0, h.2 a i)) hx hb hcell ((qarrof (kd := 102) hT (by decide) (by decide)).1 _ _) (fun q => by cases q) (by rw [arrV_size]; exact e2) ?_ rfl rfl hd k
  rw [e1, arrV_read _ _ (by omega)]
  show some (qcv X (0, qval h 0 a ((i.toNat : Nat) : Int))) = _
  rw [show ((i.toNat : Nat) : Int) = i by omega]
  rfl
theorem qs_zaload {a i : Int} (hs : (h.1.2.1 a).1 = 103) (h0 : 0 ≤ i) (hn : i < (h.1.2.1 a).2) (hd : decode (qmc m) pc = .ok (.baload, 1)) (k : QR X d mx m post cs (pc + 1) lv ((0, h.2 a i) :: st) h) : QR X d mx m post cs pc lv ((0, i) :: (2, a) :: st) h := by
  intro p e R s mi ar be me c H lo ls hR hB hH hL hl
  have k := k p e R s mi ar be me c H lo ls hR hB hH hL hl
  obtain ⟨a0, an, l0, l1, hcell⟩ := qarr hH hs (by decide) (by decide)
  obtain ⟨hx, hb, hml, hr, hlk, hown, hts, hnme, hT⟩ := hB
  obtain ⟨e1, e2⟩ := qin_ix (n := (h.1.2.1 a).2.toNat) h0 (by omega) (by omega)
  simp only [List.map_cons]
  rw [qcv_ref a0]
  refine W.zald (j := Int32.ofInt i) (v := qcv X (0, h.2 a i)) hx hb hcell ((qarrof (kd := 103) hT (by decide) (by decide)).1 _ _) (fun q => by cases q) (by rw [arrV_size]; exact e2) ?_ rfl rfl hd k
  rw [e1, arrV_read _ _ (by omega)]
  show some (qcv X (0, qval h 0 a ((i.toNat : Nat) : Int))) = _
  rw [show ((i.toNat : Nat) : Int) = i by omega]
  rfl
theorem qs_aaload {kd : Nat} {a i : Int} (hs : (h.1.2.1 a).1 = kd) (hk1 : 104 ≤ kd) (hk2 : kd ≤ 106) (h0 : 0 ≤ i) (hn : i < (h.1.2.1 a).2) (hd : decode (qmc m) pc = .ok (.aaload, 1)) (k : QR X d mx m post cs (pc + 1) lv ((2, h.1.2.2 a i) :: st) h) : QR X d mx m post cs pc lv ((0, i) :: (2, a) :: st) h := by
  intro p e R s mi ar be me c H lo ls hR hB hH hL hl
  have k := k p e R s mi ar be me c H lo ls hR hB hH hL hl
  obtain ⟨a0, an, l0, l1, hcell⟩ := qarr hH hs (by omega) (by omega)
  obtain ⟨hx, hb, hml, hr, hlk, hown, hts, hnme, hT⟩ := hB
  obtain ⟨e1, e2⟩ := qin_ix (n := (h.1.2.1 a).2.toNat) h0 (by omega) (by omega)
  simp only [List.map_cons]
  rw [qcv_ref a0]
  have hel : qel kd = 2 ∧ (qty kd).isReference = true := by
    rcases (show kd = 104 ∨ kd = 105 ∨ kd = 106 by omega) with rfl | rfl | rfl <;> exact ⟨rfl, rfl⟩
  refine W.aald (j := Int32.ofInt i) (v := qcv X (2, h.1.2.2 a i)) hx hb hcell ((qarrof (kd := kd) hT (by omega) (by omega)).1 _ _) hel.2 (fun q => by cases q) (by rw [arrV_size]; exact e2) ?_ rfl rfl hd k
  rw [e1, arrV_read _ _ (by omega), hel.1]
  show some (qcv X (2, qval h 2 a ((i.toNat : Nat) : Int))) = _
  rw [show ((i.toNat : Nat) : Int) = i by omega]
  rfl
theorem qs_alen {a : Int} (h1 : 100 ≤ (h.1.2.1 a).1) (h2 : (h.1.2.1 a).1 ≤ 106) (hd : decode (qmc m) pc = .ok (.arraylength, 1)) (k : QR X d mx m post cs (pc + 1) lv ((0, (h.1.2.1 a).2) :: st) h) : QR X d mx m post cs pc lv ((2, a) :: st) h := by
  intro p e R s mi ar be me c H lo ls hR hB hH hL hl
  have k := k p e R s mi ar be me c H lo ls hR hB hH hL hl
  obtain ⟨a0, an, l0, l1, hcell⟩ := qarr hH rfl h1 h2
  obtain ⟨hx, hb, hml, hr, hlk, hown, hts, hnme, hT⟩ := hB
  simp only [List.map_cons]
  rw [qcv_ref a0]
  refine W.alen (n := Int32.ofInt (h.1.2.1 a).2) hx hb hcell ((qarrof hT h1 h2).1 _ _) ?_ rfl rfl hd k
  rw [arrV_size]
  generalize (h.1.2.1 a).2 = z at l0
  show Int32.ofNat z.toNat = _
  rw [← Int32.ofInt_eq_ofNat, show ((z.toNat : Nat) : Int) = z by omega]
/-- a store into an array: the cell as it is then -/
theorem qhp_ast {H H1 : Heap} {kd : Nat} {a i x : Int} (hH : QHp X h H) (hs : (h.1.2.1 a).1 = kd) (hk1 : 100 ≤ kd) (hk2 : kd ≤ 106) (h0 : 0 ≤ i) (e1 : H1[(qxH X).size + a.toNat]? = some ((arrV (qxA X kd) (h.1.2.1 a).2.toNat (fun j => qcv X (qel kd, qval h (qel kd) a j))).setSlot i.toNat (qcv X (qel kd, x)))) (z : H1.size = H.size) (oq : ∀ q, q ≠ (qxH X).size + a.toNat → H1[q]? = H[q]?) : QHp X (qputf h (qel kd) a i x) H1 := by
  obtain ⟨a0, an, l0, l1, hcell⟩ := qarr hH hs hk1 hk2
  obtain ⟨s1, s2, s3⟩ := qputf_s h (qel kd) a i x
  refine qhp_put hH s1 s2 ⟨a0, an⟩ s3 z oq ⟨fun hz => ?_, fun _ => ?_⟩
  · rw [s2, show ((a.toNat : Nat) : Int) = a by omega, hs] at hz; omega
  · rw [s2, show ((a.toNat : Nat) : Int) = a by omega, hs]
    refine ⟨hk2, l0, l1, ?_⟩
    rw [e1, arrV_store]
    congr 2
    funext j
    unfold updV
    rw [qputf_val]
    by_cases hj : j = i.toNat
    · subst hj
      simp [show ((i.toNat : Nat) : Int) = i by omega]
    · have : ¬ ((j : Int) = i) := by omega
      simp [hj, this]
theorem qlocs {lo : List Loc} {b j : Nat} (hL : ∀ q ∈ lo, (qxH X).size ≤ q.base) (hb : (qxH X).size ≤ b) : ∀ q ∈ lo ++ [(⟨b, j⟩ : Loc)], (qxH X).size ≤ q.base := by
  intro q hq
  rcases List.mem_append.mp hq with hq | hq
  · exact hL q hq
  · rw [List.mem_singleton.mp hq]; exact hb
theorem qs_iastore {a i x : Int} (hs : (h.1.2.1 a).1 = 100) (h0 : 0 ≤ i) (hn : i < (h.1.2.1 a).2) (hd : decode (qmc m) pc = .ok (.iastore, 1)) (k : QR X d mx m post cs (pc + 1) lv st (h.1, qup h.2 a i x)) : QR X d mx m post cs pc lv ((0, x) :: (0, i) :: (2, a) :: st) h := by
  intro p e R s mi ar be me c H lo ls hR hB hH hL hl
  have hB0 := hB
  obtain ⟨a0, an, l0, l1, hcell⟩ := qarr hH hs (by decide) (by decide)
  obtain ⟨hx, hb, hml, hr, hlk, hown, hts, hnme, hT⟩ := hB
  obtain ⟨e1, e2⟩ := qin_ix (n := (h.1.2.1 a).2.toNat) h0 (by omega) (by omega)
  simp only [List.map_cons]
  rw [qcv_ref a0]
  refine W.iast (j := Int32.ofInt i) hx hb hcell ((qarrof (kd := 100) hT (by decide) (by decide)).1 _ _) (fun q => by cases q) (by rw [arrV_size]; exact e2) rfl rfl hd (fun H1 f1 f2 f3 => ?_)
  rw [e1] at f1
  refine k p e R s mi ar be me c H1 _ ls hR hB0 (qhp_ast (kd := 100) (x := x) hH hs (by decide) (by decide) h0 (by exact f1) f2 f3) (qlocs hL (Nat.le_add_right _ _)) hl
theorem qs_lastore {a i x : Int} (hs : (h.1.2.1 a).1 = 101) (h0 : 0 ≤ i) (hn : i < (h.1.2.1 a).2) (hd : decode (qmc m) pc = .ok (.lastore, 1)) (k : QR X d mx m post cs (pc + 1) lv st (h.1, qup h.2 a i x)) : QR X d mx m post cs pc lv ((1, x) :: (0, i) :: (2, a) :: st) h := by
  intro p e R s mi ar be me c H lo ls hR hB hH hL hl
  have hB0 := hB
  obtain ⟨a0, an, l0, l1, hcell⟩ := qarr hH hs (by decide) (by decide)
  obtain ⟨hx, hb, hml, hr, hlk, hown, hts, hnme, hT⟩ := hB
  obtain ⟨e1, e2⟩ := qin_ix (n := (h.1.2.1 a).2.toNat) h0 (by omega) (by omega)
  simp only [List.map_cons]
  rw [qcv_ref a0]
  refine W.last (j := Int32.ofInt i) hx hb hcell ((qarrof (kd := 101) hT (by decide) (by decide)).1 _ _) (fun q => by cases q) (by rw [arrV_size]; exact e2) rfl rfl hd (fun H1 f1 f2 f3 => ?_)
  rw [e1] at f1
  refine k p e R s mi ar be me c H1 _ ls hR hB0 (qhp_ast (kd := 101) (x := x) hH hs (by decide) (by decide) h0 (by exact f1) f2 f3) (qlocs hL (Nat.le_add_right _ _)) hl
theorem qnb (x : Int) : narrow .byte (.int (Int32.ofInt x)) = qcv X (qel 102, qi2b x) := by
  show narrow .byte (.int (Int32.ofInt x)) = .int (Int32.ofInt (qi2b x))
  rw [qi2b, Int32.ofInt_toInt]
  rfl
theorem qnz {x : Int} (hz : x = 0 ∨ x = 1) : narrow .boolean (.int (Int32.ofInt x)) = qcv X (qel 103, x) := by
  rcases hz with rfl | rfl <;> rfl
theorem qs_bastore {a i x : Int} (hs : (h.1.2.1 a).1 = 102) (h0 : 0 ≤ i) (hn : i < (h.1.2.1 a).2) (hd : decode (qmc m) pc = .ok (.bastore, 1)) (k : QR X d mx m post cs (pc + 1) lv st (h.1, qup h.2 a i (qi2b x))) : QR X d mx m post cs pc lv ((0, x) :: (0, i) :: (2, a) :: st) h := by
  intro p e R s mi ar be me c H lo ls hR hB hH hL hl
  have hB0 := hB
  obtain ⟨a0, an, l0, l1, hcell⟩ := qarr hH hs (by decide) (by decide)
  obtain ⟨hx, hb, hml, hr, hlk, hown, hts, hnme, hT⟩ := hB
  obtain ⟨e1, e2⟩ := qin_ix (n := (h.1.2.1 a).2.toNat) h0 (by omega) (by omega)
  simp only [List.map_cons]
  rw [qcv_ref a0]
  refine W.bast (j := Int32.ofInt i) hx hb hcell ((qarrof (kd := 102) hT (by decide) (by decide)).1 _ _) (fun q => by cases q) (by rw [arrV_size]; exact e2) rfl rfl hd (fun H1 f1 f2 f3 => ?_)
  rw [e1] at f1
  refine k p e R s mi ar be me c H1 _ ls hR hB0 (qhp_ast (kd := 102) (x := (qi2b x)) hH hs (by decide) (by decide) h0 (by rw [← qnb]; exact f1) f2 f3) (qlocs hL (Nat.le_add_right _ _)) hl
theorem qs_zastore {a i x : Int} (hz : x = 0 ∨ x = 1) (hs : (h.1.2.1 a).1 = 103) (h0 : 0 ≤ i) (hn : i < (h.1.2.1 a).2) (hd : decode (qmc m) pc = .ok (.bastore, 1)) (k : QR X d mx m post cs (pc + 1) lv st (h.1, qup h.2 a i x)) : QR X d mx m post cs pc lv ((0, x) :: (0, i) :: (2, a) :: st) h := by
  intro p e R s mi ar be me c H lo ls hR hB hH hL hl
  have hB0 := hB
  obtain ⟨a0, an, l0, l1, hcell⟩ := qarr hH hs (by decide) (by decide)
  obtain ⟨hx, hb, hml, hr, hlk, hown, hts, hnme, hT⟩ := hB
  obtain ⟨e1, e2⟩ := qin_ix (n := (h.1.2.1 a).2.toNat) h0 (by omega) (by omega)
  simp only [List.map_cons]
  rw [qcv_ref a0]
  refine W.zast (j := Int32.ofInt i) hx hb hcell ((qarrof (kd := 103) hT (by decide) (by decide)).1 _ _) (fun q => by cases q) (by rw [arrV_size]; exact e2) rfl rfl hd (fun H1 f1 f2 f3 => ?_)
  rw [e1] at f1
  refine k p e R s mi ar be me c H1 _ ls hR hB0 (qhp_ast (kd := 103) (x := x) hH hs (by decide) (by decide) h0 (by rw [← qnz hz]; exact f1) f2 f3) (qlocs hL (Nat.le_add_right _ _)) hl
theorem qs_aastore {kd ci : Nat} {a i x : Int} (hs : (h.1.2.1 a).1 = kd) (hk1 : 104 ≤ kd) (hk2 : kd ≤ 106) (hx : (h.1.2.1 x).1 = ci) (hci : (kd = 104 ∧ ci = 6) ∨ (kd = 105 ∧ ci = 8) ∨ (kd = 106 ∧ ci = 0)) (h0 : 0 ≤ i) (hn : i < (h.1.2.1 a).2) (hd : decode (qmc m) pc = .ok (.aastore, 1)) (k : QR X d mx m post cs (pc + 1) lv st ((h.1.1, h.1.2.1, qup h.1.2.2 a i x), h.2)) : QR X d mx m post cs pc lv ((2, x) :: (0, i) :: (2, a) :: st) h := by
  intro p e R s mi ar be me c H lo ls hR hB hH hL hl
  have hB0 := hB
  obtain ⟨a0, an, l0, l1, hcell⟩ := qarr hH hs (by omega) (by omega)
  obtain ⟨hxx, hb, hml, hr, hlk, hown, hts, hnme, hT⟩ := hB
  obtain ⟨e1, e2⟩ := qin_ix (n := (h.1.2.1 a).2.toNat) h0 (by omega) (by omega)
  have hcx : ci < 100 ∧ ∃ r : vw_C, vwCl[ci]? = some r ∧ qty kd = .object r.1 := by
    rcases hci with ⟨rfl, rfl⟩ | ⟨rfl, rfl⟩ | ⟨rfl, rfl⟩
    · exact ⟨by decide, _, rfl, rfl⟩
    · exact ⟨by decide, _, rfl, rfl⟩
    · exact ⟨by decide, _, rfl, rfl⟩
  obtain ⟨hc100, r, hr0, hty⟩ := hcx
  have hel : qel kd = 2 := by
    rcases (show kd = 104 ∨ kd = 105 ∨ kd = 106 by omega) with rfl | rfl | rfl <;> rfl
  have hax := hH.2.2.1 x (by omega)
  have g := (hH.2.2.2 x.toNat (by omega)).1
  rw [show ((x.toNat : Nat) : Int) = x by omega, hx] at g
  obtain ⟨r', r1, cell, q1, q2, q3, q4⟩ := g hc100
  cases r1.symm.trans hr0
  obtain ⟨kA, comp, k1, k2, k3, -⟩ : ∃ (kA : Class) (comp : ClassId), s.vm.classes[qxA X kd]? = some kA ∧ kA.kind = .array comp (.object r.1) ∧ s.vm.findClass r.1 = some comp ∧ s.vm.findClass ("[" ++ (FieldType.object r.1).toString) = some (qxA X kd) := by
    have := (qarrof (kd := kd) hT (by omega) hk2).2
    rw [hty] at this
    exact this
  have hcls := (hT.1.1 ci _ r1).2
  have hcomp : comp = (qxD X).1 ci := Option.some.inj (k3.symm.trans hcls.1)
  subst hcomp
  have hasg := va_assign hcls
  obtain ⟨-, kC, hkC, -⟩ := hcls
  simp only [List.map_cons]
  rw [qcv_ref a0, qcv_ref hax.1]
  refine W.aast (j := Int32.ofInt i) hxx hb hcell (fun q h => by cases h) (fun h => by cases h) k1 k2 rfl hkC ⟨fun z => e2 (Or.inl z), by rw [arrV_size]; exact Nat.not_le.mp fun z => e2 (Or.inr z)⟩ q1 (fun q h => by rw [q3] at h; cases h) (by rw [q2]; exact hkC) (by rw [q2]; exact hasg) rfl rfl hd (fun H1 f1 f2 f3 => ?_)
  rw [e1] at f1
  have hq := qhp_ast (kd := kd) (x := x) hH hs (by omega) hk2 h0 (by rw [f1, hel, qcv_ref hax.1]) f2 f3
  rw [hel] at hq
  exact k p e R s mi ar be me c H1 _ ls hR hB0 hq (qlocs hL (Nat.le_add_right _ _)) hl
theorem qs_ireturn {x : Int} (hr0 : qmr m = some .int) (hm : cs.1 ≤ mx.1 ∧ cs.2 ≤ mx.2) (hd : decode (qmc m) pc = .ok (.ireturn, 1)) (hp : post x h) : QR X d mx m post cs pc lv [(0, x)] h := by
  intro p e R s mi ar be me c H lo ls hR hB hH hL hl
  obtain ⟨hx, hb, hml, hr, hlk, hown, hts, hnme, hT⟩ := hB
  refine W.widen hm.1 hm.2 ?_
  exact W.iret hx hb (hr.trans hr0) (fun t ht hW => ⟨x, h, by rw [hr0]; rfl, hp, hT.moved hW, by rw [ht]; exact hH⟩) (fun q hq => hL q hq) hd hlk
theorem qs_lreturn {x : Int} (hr0 : qmr m = some .long) (hm : cs.1 ≤ mx.1 ∧ cs.2 ≤ mx.2) (hd : decode (qmc m) pc = .ok (.lreturn, 1)) (hp : post x h) : QR X d mx m post cs pc lv [(1, x)] h := by
  intro p e R s mi ar be me c H lo ls hR hB hH hL hl
  obtain ⟨hx, hb, hml, hr, hlk, hown, hts, hnme, hT⟩ := hB
  refine W.widen hm.1 hm.2 ?_
  exact W.lret hx hb (hr.trans hr0) (fun t ht hW => ⟨x, h, by rw [hr0]; rfl, hp, hT.moved hW, by rw [ht]; exact hH⟩) (fun q hq => hL q hq) hd hlk
theorem qs_zreturn {x : Int} (hr0 : qmr m = some .boolean) (hz : x = 0 ∨ x = 1) (hm : cs.1 ≤ mx.1 ∧ cs.2 ≤ mx.2) (hd : decode (qmc m) pc = .ok (.ireturn, 1)) (hp : post x h) : QR X d mx m post cs pc lv [(0, x)] h := by
  intro p e R s mi ar be me c H lo ls hR hB hH hL hl
  obtain ⟨hx, hb, hml, hr, hlk, hown, hts, hnme, hT⟩ := hB
  refine W.widen hm.1 hm.2 ?_
  exact W.zret hx hb (hr.trans hr0) (by rcases hz with rfl | rfl <;> rfl) (fun t ht hW => ⟨x, h, by rw [hr0]; rfl, hp, hT.moved hW, by rw [ht]; exact hH⟩) (fun q hq => hL q hq) hd hlk
theorem qs_creturn {x : Int} (hr0 : qmr m = some .char) (hz : 0 ≤ x ∧ x ≤ 65535) (hm : cs.1 ≤ mx.1 ∧ cs.2 ≤ mx.2) (hd : decode (qmc m) pc = .ok (.ireturn, 1)) (hp : post x h) : QR X d mx m post cs pc lv [(0, x)] h := by
  intro p e R s mi ar be me c H lo ls hR hB hH hL hl
  obtain ⟨hx, hb, hml, hr, hlk, hown, hts, hnme, hT⟩ := hB
  refine W.widen hm.1 hm.2 ?_
  refine W.zret hx hb (hr.trans hr0) ?_ (fun t ht hW => ⟨x, h, by rw [hr0]; rfl, hp, hT.moved hW, by rw [ht]; exact hH⟩) (fun q hq => hL q hq) hd hlk
  have e : Int32.ofInt x = nI x.toNat := by
    show _ = Int32.ofNat x.toNat
    rw [← Int32.ofInt_eq_ofNat, show ((x.toNat : Nat) : Int) = x by omega]
  show narrow .char (.int (Int32.ofInt x)) = .int (Int32.ofInt x)
  rw [e]
  exact (pk_charN (show x.toNat < 65536 by omega)).1
theorem qs_breturn {x : Int} (hr0 : qmr m = some .byte) (hz : -128 ≤ x ∧ x ≤ 127) (hm : cs.1 ≤ mx.1 ∧ cs.2 ≤ mx.2) (hd : decode (qmc m) pc = .ok (.ireturn, 1)) (hp : post x h) : QR X d mx m post cs pc lv [(0, x)] h := by
  intro p e R s mi ar be me c H lo ls hR hB hH hL hl
  obtain ⟨hx, hb, hml, hr, hlk, hown, hts, hnme, hT⟩ := hB
  refine W.widen hm.1 hm.2 ?_
  refine W.zret hx hb (hr.trans hr0) ?_ (fun t ht hW => ⟨x, h, by rw [hr0]; rfl, hp, hT.moved hW, by rw [ht]; exact hH⟩) (fun q hq => hL q hq) hd hlk
  have e : (Int32.ofInt x).toInt8.toInt32 = Int32.ofInt x := by
    rw [← Int32.toInt_inj, Int8.toInt_toInt32, Int32.toInt_toInt8, q32 ⟨by omega, by omega⟩]
    exact Int.bmod_eq_of_le (by omega) (by omega)
  show narrow .byte (.int (Int32.ofInt x)) = .int (Int32.ofInt x)
  have := pk_nb (Int32.ofInt x)
  rw [e] at this
  exact this
theorem qs_return (hr0 : qmr m = none) (hm : cs.1 ≤ mx.1 ∧ cs.2 ≤ mx.2) (hd : decode (qmc m) pc = .ok (.return_, 1)) (hp : post 0 h) : QR X d mx m post cs pc lv [] h := by
  intro p e R s mi ar be me c H lo ls hR hB hH hL hl
  obtain ⟨hx, hb, hml, hr, hlk, hown, hts, hnme, hT⟩ := hB
  refine W.widen hm.1 hm.2 ?_
  exact W.vret hx hb (hr.trans hr0) (fun t ht hW => ⟨0, h, by rw [hr0]; rfl, hp, hT.moved hW, by rw [ht]; exact hH⟩) (fun q hq => hL q hq) hd hlk
theorem qs_tableOut {dflt lo hi : Int} {offs : Array Int} {len : Nat} {x : Int} {tgt : Nat} (hx : in32 x) (ho : x < lo ∨ hi < x) (ht : (pc : Int) + dflt = (tgt : Int)) (hd : decode (qmc m) pc = .ok (.tableswitch dflt lo hi offs, len)) (k : QR X d mx m post cs tgt lv st h) : QR X d mx m post cs pc lv ((0, x) :: st) h := by
  intro p e R s mi ar be me c H lc ls hR hB hH hL hl
  exact lv_tableOut (x := Int32.ofInt x) hB.1 hB.2.1 hd (by rw [q32 hx]; exact ho) ht (k p e R s mi ar be me c H lc ls hR hB hH hL hl)
theorem qs_tableIn {dflt lo hi : Int} {offs : Array Int} {len : Nat} {x off : Int} {tgt : Nat} (hx : in32 x) (h1 : lo ≤ x) (h2 : x ≤ hi) (ho : offs[(x - lo).toNat]? = some off) (ht : (pc : Int) + off = (tgt : Int)) (hd : decode (qmc m) pc = .ok (.tableswitch dflt lo hi offs, len)) (k : QR X d mx m post cs tgt lv st h) : QR X d mx m post cs pc lv ((0, x) :: st) h := by
  intro p e R s mi ar be me c H lc ls hR hB hH hL hl
  exact lv_tableIn (x := Int32.ofInt x) hB.1 hB.2.1 hd (by rw [q32 hx]; omega) (by rw [q32 hx]; omega) (by rw [q32 hx]; exact ho) ht (k p e R s mi ar be me c H lc ls hR hB hH hL hl)
theorem qs_lookup {dflt : Int} {ps : Array (Int × Int)} {len : Nat} {x off : Int} {tgt : Nat} (hx : in32 x) (hp : (ps.toList.zip (ps.toList.drop 1)).all (fun (a, next) => a.1 < next.1) = true) (ho : Op.lookupswitch.offset ps.toList dflt x = off) (ht : (pc : Int) + off = (tgt : Int)) (hd : decode (qmc m) pc = .ok (.lookupswitch dflt ps, len)) (k : QR X d mx m post cs tgt lv st h) : QR X d mx m post cs pc lv ((0, x) :: st) h := by
  intro p e R s mi ar be me c H lc ls hR hB hH hL hl
  exact lv_lookup (x := Int32.ofInt x) hB.1 hB.2.1 hd hp (by rw [q32 hx]; exact ho) ht (k p e R s mi ar be me c H lc ls hR hB hH hL hl)
end QArr
end
section
section QCalls
variable {X : QX} {d : Nat} {mx : Nat × Nat} {m : QMeth} {post : Int → QH → Prop} {cs : Nat × Nat} {pc : Nat} {lv : List (Nat × QV)} {st : List QV} {h : QH}
theorem qpc_blind {as : List QV} : FrameBlind (QPc X as h) := fun a U g mk q => ⟨q.1, QT.same (u := U) (U := U.calling g mk a) rfl q.2.1, q.2.2⟩
def qrl (rk : Nat) (x : Int) : List QV := match rk with
  | 0 => [] | k + 1 => [(k, x)]
theorem qret_list (rk : Nat) (x : Int) : (qret X rk x).toList = (qrl rk x).map (qcv X) := by
  cases rk <;> rfl
/-- behind a call -/
theorem qcall_go {p : Program} {e : Env} {R : Room} {s : State} {mi : MethodId} {ar : Array Value} {be : List Frame} {me : Method} {c : Code} {H : Heap} {lo : List Loc} {ls : Array Slot} {mc ms rk : Nat} {st0 : List Value} {a : Array Value} {post' : Int → QH → Prop}
    (hR : d ≤ R.frames ∧ 80 * d ≤ R.locals ∧ R.cells = mx.1 ∧ R.slots = mx.2) (hB : QB X m p s mi ar me c) (hL : ∀ q ∈ lo, (qxH X).size ≤ q.base) (hl : lv_has ls (qmL m) (lv.map fun q => (q.1, qcv X q.2)))
    (hr : va_Run p (qxl X) e R s mi ar be me c H lo cs.1 cs.2 mc ms (F0 mi pc ls st0) (st.map (qcv X)) (QQc X rk post' a) (qA X))
    (k : ∀ (x : Int) (h' : QH), post' x h' → QR X d mx m post (cs.1 + mc, cs.2 + ms) (pc + 3) lv (qrl rk x ++ st) h') :
    W p (qxl X) e R s mi ar be me c H lo cs.1 cs.2 (MQ be (QQc X (qrk (qmr m)) post) ar s mx.1 mx.2 (qA X)) (F0 mi pc ls st0) := by
  intro T hT X0
  obtain ⟨v, st₀, t, T', L, h0, X', hL', e1, e2, ⟨x, h', hv, hp, hT', hH'⟩, go⟩ := hr T hT X0
  cases hv
  obtain ⟨t2, a1, b1⟩ := k x h' hp p e R s mi ar be me c T'.heap (lo ++ L) ls hR hB (by rw [e1]; exact hH') (fun q hq => by
    rcases List.mem_append.mp hq with hq | hq
    · exact hL q hq
    · exact hL' q hq) hl T' rfl X'
  refine ⟨t2, go t2 ?_, b1⟩
  rw [List.map_append, ← qret_list] at a1
  exact a1
/-- what a call's own row of the tables says: kind (0 virtual, 1 static, 2 a constructor), callee, how many parameters, the receiver's class -/
def QLk (o i kd : Nat) (y : MethodName) (na ci : Nat) : Prop :=
  Cond.methodLink (qown o) i y ∈ qtbl ∧ Cond.initialized y.cls ∈ qtbl ∧ (y.cls ≠ "java/lang/invoke/MethodHandle" ∧ y.cls ≠ "java/lang/invoke/VarHandle" ∧ (parseMethodDescriptor y.desc).map (fun d => d.parameters.length) = some na) ∧
  (kd = 0 → Cond.instanceMethod y ∈ qtbl ∧ Cond.selects y.cls y y ∈ qtbl ∧ ∃ r : vw_C, vwCl[ci]? = some r ∧ r.1 = y.cls) ∧ (kd = 1 → Cond.static y ∈ qtbl) ∧ (kd = 2 → y.name = "<init>" ∧ Cond.instanceMethod y ∈ qtbl)
theorem qwsum (X : QX) (l : List QV) : ((l.map (qcv X)).map fun v => v.category).sum = (l.map fun v => if v.1 = 1 then 2 else 1).sum := by
  induction l with
  | nil => rfl
  | cons v l ih =>
    simp only [List.map_cons, List.sum_cons]
    rw [ih]
    congr 1
    by_cases hv : v.1 = 1
    · rw [if_pos hv]
      obtain ⟨k, x⟩ := v
      cases hv
      rfl
    · rw [if_neg hv, qcat1 X hv]
abbrev qwt (l : List QV) : Nat := (l.map fun v => if v.1 = 1 then 2 else 1).sum
theorem qcallB {R : Room} {s : State} {args : Array Value} {o i kd na ci dd mc ms maxL : Nat} {y : MethodName} {cc : ByteArray} {ret : Option FieldType} (hts : ∀ w ∈ qtbl, w.before args s = true) (hk : QLk o i kd y na ci) (hcode : Cond.code y cc maxL ret ∈ qtbl) (hmax : maxL ≤ 60) (hR : dd + 1 ≤ R.frames ∧ 80 * (dd + 1) ≤ R.locals) :
    CallB R s args (qown o) i y cc maxL ret (Cond.code y cc maxL ret :: qtbl) (qroom dd mc ms) mc ms na :=
  callB_of na hts (fun w hw => by
    rcases List.mem_cons.mp hw with rfl | hw
    · exact qtbl_good _ hcode
    · exact qtbl_good _ hw) rfl rfl rfl (hts _ hk.2.1) (hts _ hk.1) hk.2.2.1 ⟨hR.1, by show 8 + (maxL + 11) + 80 * dd ≤ R.locals; omega⟩
theorem qs_invokevirtual {i na ci mc ms rk dd : Nat} {y : MethodName} {as : List QV} {a : Int} (hk : QLk (qmo m) i 0 y na ci) (hdd : d = dd + 1) (hn : as.length = na) (hs : (h.1.2.1 a).1 = ci) (hw : qwt st ≤ 8) (hf : cs.1 + mc ≤ mx.1 ∧ cs.2 + ms ≤ mx.2) (hd : decode (qmc m) pc = .ok (.invokevirtual i, 3))
    (kk : QC X dd mc ms rk y ((2, a) :: as) h (fun x h' => QR X d mx m post (cs.1 + mc, cs.2 + ms) (pc + 3) lv (qrl rk x ++ st) h')) : QR X d mx m post cs pc lv (as.reverse ++ (2, a) :: st) h := by
  intro p e R s mi ar be me c H lo ls hR hB hH hL hl
  have hB0 := hB
  subst hdd
  obtain ⟨cc, maxL, ret, hcode, hmax, hrk, hM⟩ := kk
  obtain ⟨hx, hb, hml, hr, hlk, hown, hts, hnme, hT⟩ := hB
  obtain ⟨hi0, hi1, r, hr0, hr1⟩ := hk.2.2.2.1 rfl
  have hc100 := (qcl_of ci r.1 r.2.1 r.2.2 hr0).2.1
  have ha := hH.2.2.1 a (by omega)
  have g := (hH.2.2.2 a.toNat (by omega)).1
  rw [show ((a.toNat : Nat) : Int) = a by omega, hs] at g
  obtain ⟨r', r1, cell, q1, q2, q3, q4⟩ := g hc100
  have hcls := (hT.1.1 ci _ hr0).2.1
  rw [List.map_append, List.map_reverse, List.map_cons, qcv_ref ha.1]
  refine qcall_go hR hB0 hL hl (va_runV (C := y.cls) (As := as.map (qcv X)) (bytes := cc) (maxL := maxL) (ret := ret) (nL := qmL m) (Ts := qtbl) (own := qown (qmo m)) ⟨hx, hb, hml, hown, hts⟩ hM ⟨qcallB hts hk hcode hmax ⟨hR.1, hR.2.1⟩, hts _ hi0, hts _ hi1⟩ ⟨qpc_blind, ⟨cell, q1, by rw [q3]; rfl, ?_⟩, fun U hU hW => ⟨?_, hT.moved hW, by rw [hU]; exact hH⟩⟩ rfl (by rw [List.length_map]; exact hn) hl.1 rfl (lv_room (by rw [qwsum]; exact hw)) hd ⟨by rw [hR.2.2.1]; exact hf.1, by rw [hR.2.2.2]; exact hf.2⟩) (fun x h' hp => hp)
  · rw [q2, ← hr1]; exact hcls
  · rw [List.map_cons, qcv_ref ha.1]
/-- the receiver is one of the texts -/
theorem qs_invokestr {i na ci mc ms rk dd : Nat} {y : MethodName} {as : List QV} {a : Int} (hk : QLk (qmo m) i 5 y na ci) (hk0 : Cond.instanceMethod y ∈ qtbl ∧ Cond.selects y.cls y y ∈ qtbl ∧ y.cls = "java/lang/String") (hdd : d = dd + 1) (hn : as.length = na) (hs : -19 < a ∧ a ≤ -3) (hw : qwt st ≤ 8) (hf : cs.1 + mc ≤ mx.1 ∧ cs.2 + ms ≤ mx.2) (hd : decode (qmc m) pc = .ok (.invokevirtual i, 3))
    (kk : QC X dd mc ms rk y ((2, a) :: as) h (fun x h' => QR X d mx m post (cs.1 + mc, cs.2 + ms) (pc + 3) lv (qrl rk x ++ st) h')) : QR X d mx m post cs pc lv (as.reverse ++ (2, a) :: st) h := by
  intro p e R s mi ar be me c H lo ls hR hB hH hL hl
  have hB0 := hB
  subst hdd
  obtain ⟨cc, maxL, ret, hcode, hmax, hrk, hM⟩ := kk
  obtain ⟨hx, hb, hml, hr, hlk, hown, hts, hnme, hT⟩ := hB
  obtain ⟨hi0, hi1, hyc⟩ := hk0
  have er : qcv X (2, a) = .ref (qxo X (1 + (-3 - a).toNat)) := by
    show qrv X a = _
    rw [qrv, if_neg (by omega), if_neg (by omega), show (-2 - a).toNat = 1 + (-3 - a).toNat by omega]
  obtain ⟨cell, q1, q2, q3, q4⟩ := ((hT.2.2.2.2.2.1).1 (-3 - a).toNat (by omega)).1.kept (fun q hq _ => hH.2.1 q hq)
  rw [List.map_append, List.map_reverse, List.map_cons, er]
  refine qcall_go hR hB0 hL hl (va_runV (C := y.cls) (As := as.map (qcv X)) (bytes := cc) (maxL := maxL) (ret := ret) (nL := qmL m) (Ts := qtbl) (own := qown (qmo m)) ⟨hx, hb, hml, hown, hts⟩ hM ⟨qcallB hts hk hcode hmax ⟨hR.1, hR.2.1⟩, hts _ hi0, hts _ hi1⟩ ⟨qpc_blind, ⟨cell, q1, q2, by rw [hyc]; exact q3⟩, fun U hU hW => ⟨?_, hT.moved hW, by rw [hU]; exact hH⟩⟩ rfl (by rw [List.length_map]; exact hn) hl.1 rfl (lv_room (by rw [qwsum]; exact hw)) hd ⟨by rw [hR.2.2.1]; exact hf.1, by rw [hR.2.2.2]; exact hf.2⟩) (fun x h' hp => hp)
  rw [List.map_cons, er]
theorem qs_invokestatic {i na ci mc ms rk dd : Nat} {y : MethodName} {as : List QV} (hk : QLk (qmo m) i 1 y na ci) (hdd : d = dd + 1) (hn : as.length = na) (hw : qwt st ≤ 8) (hf : cs.1 + mc ≤ mx.1 ∧ cs.2 + ms ≤ mx.2) (hd : decode (qmc m) pc = .ok (.invokestatic i, 3))
    (kk : QC X dd mc ms rk y as h (fun x h' => QR X d mx m post (cs.1 + mc, cs.2 + ms) (pc + 3) lv (qrl rk x ++ st) h')) : QR X d mx m post cs pc lv (as.reverse ++ st) h := by
  intro p e R s mi ar be me c H lo ls hR hB hH hL hl
  have hB0 := hB
  subst hdd
  obtain ⟨cc, maxL, ret, hcode, hmax, hrk, hM⟩ := kk
  obtain ⟨hx, hb, hml, hr, hlk, hown, hts, hnme, hT⟩ := hB
  rw [List.map_append, List.map_reverse]
  exact qcall_go hR hB0 hL hl (va_runS (As := as.map (qcv X)) (bytes := cc) (maxL := maxL) (ret := ret) (nL := qmL m) (Ts := qtbl) (own := qown (qmo m)) ⟨hx, hb, hml, hown, hts⟩ hM ⟨qcallB hts hk hcode hmax ⟨hR.1, hR.2.1⟩, hts _ (hk.2.2.2.2.1 rfl)⟩ ⟨qpc_blind, fun U hU hW => ⟨rfl, hT.moved hW, by rw [hU]; exact hH⟩⟩ rfl (by rw [List.length_map]; exact hn) hl.1 rfl (lv_room (by rw [qwsum]; exact hw)) hd ⟨by rw [hR.2.2.1]; exact hf.1, by rw [hR.2.2.2]; exact hf.2⟩) (fun x h' hp => hp)
theorem qs_invokeinit {i na ci mc ms dd : Nat} {y : MethodName} {as : List QV} {a : Int} (hk : QLk (qmo m) i 2 y na ci) (hdd : d = dd + 1) (hn : as.length = na) (ha : 0 ≤ a) (hw : qwt st ≤ 8) (hf : cs.1 + mc ≤ mx.1 ∧ cs.2 + ms ≤ mx.2) (hd : decode (qmc m) pc = .ok (.invokespecial i, 3))
    (kk : QC X dd mc ms 0 y ((2, a) :: as) h (fun _ h' => QR X d mx m post (cs.1 + mc, cs.2 + ms) (pc + 3) lv st h')) : QR X d mx m post cs pc lv (as.reverse ++ (2, a) :: st) h := by
  intro p e R s mi ar be me c H lo ls hR hB hH hL hl
  have hB0 := hB
  subst hdd
  obtain ⟨cc, maxL, ret, hcode, hmax, hrk, hM⟩ := kk
  have hret : ret = none := by
    cases ret with
    | none => rfl
    | some t => simp [qrk] at hrk
  subst hret
  obtain ⟨hx, hb, hml, hr, hlk, hown, hts, hnme, hT⟩ := hB
  obtain ⟨hi0, hi1⟩ := hk.2.2.2.2.2 rfl
  rw [List.map_append, List.map_reverse, List.map_cons, qcv_ref ha]
  refine qcall_go (rk := 0) hR hB0 hL hl (va_runI (As := as.map (qcv X)) (bytes := cc) (maxL := maxL) (nL := qmL m) (Ts := qtbl) (own := qown (qmo m)) ⟨hx, hb, hml, hown, hts⟩ hM ⟨qcallB hts hk hcode hmax ⟨hR.1, hR.2.1⟩, hi0, hts _ hi1⟩ ⟨qpc_blind, fun U hU hW => ⟨?_, hT.moved hW, by rw [hU]; exact hH⟩⟩ rfl (by rw [List.length_map]; exact hn) hl.1 rfl (lv_room (by rw [qwsum]; exact hw)) hd ⟨by rw [hR.2.2.1]; exact hf.1, by rw [hR.2.2.2]; exact hf.2⟩) (fun x h' hp => hp)
  rw [List.map_cons, qcv_ref ha]
theorem qs_objinit {i : Nat} {a : Int} (hk : Cond.methodLink (qown (qmo m)) i Lib.objectInit ∈ qtbl) (hk1 : Cond.instanceMethod Lib.objectInit ∈ qtbl) (hk2 : Cond.code Lib.objectInit ⟨#[0xb1]⟩ 1 none ∈ qtbl) (hdd : 1 ≤ d) (ha : 0 ≤ a) (hw : qwt st ≤ 8) (hd : decode (qmc m) pc = .ok (.invokespecial i, 3))
    (kk : QR X d mx m post cs (pc + 3) lv st h) : QR X d mx m post cs pc lv ((2, a) :: st) h := by
  intro p e R s mi ar be me c H lo ls hR hB hH hL hl
  have kk := kk p e R s mi ar be me c H lo ls hR hB hH hL hl
  obtain ⟨hx, hb, hml, hr, hlk, hown, hts, hnme, hT⟩ := hB
  rw [List.map_cons, qcv_ref ha]
  exact W.objInit hx hb hown (hts _ hk) (hts _ hk1) (hts _ hk2) rfl (by rw [hml]; exact hl.1) rfl hd (by omega) (by
    have := lv_room (m := mi) (pc := pc) (ls := ls) (rest := Value.ref ((qxH X).size + a.toNat) :: st.map (qcv X)) (st := st.map (qcv X)) (by rw [qwsum]; exact hw)
    omega) kk
/-- a new cell behind all others -/
def qnew (h : QH) (kd : Nat) (n : Int) : QH := ((h.1.1 + 1, (fun b => if b = h.1.1 then (kd, n) else h.1.2.1 b), (fun b j => if b = h.1.1 then -1 else h.1.2.2 b j)), (fun b j => if b = h.1.1 then 0 else h.2 b j))
theorem qhp_new {H H1 : Heap} {kd : Nat} {n : Int} (hH : QHp X h H) (hkd : kd ≠ 999) (z : H1.size = H.size + 1) (oq : ∀ q : Nat, q < H.size → H1[q]? = H[q]?) (hat : 0 ≤ h.1.1 → qat X (qnew h kd n) h.1.1.toNat H1) (h0 : 0 ≤ h.1.1) : QHp X (qnew h kd n) H1 := by
  obtain ⟨g1, g2, g3, g4⟩ := hH
  refine ⟨by show (H1.size : Int) = _ + (h.1.1 + 1); omega, fun q hq => (oq q (by omega)).trans (g2 q hq), fun a ha => ?_, fun a ha => ?_⟩
  · by_cases e : a = h.1.1
    · show 0 ≤ a ∧ a < h.1.1 + 1
      omega
    · have : ((qnew h kd n).1.2.1 a) = h.1.2.1 a := by show (if a = h.1.1 then _ else _) = _; rw [if_neg e]
      rw [this] at ha
      have := g3 a ha
      show 0 ≤ a ∧ a < h.1.1 + 1
      omega
  · by_cases e : (a : Int) = h.1.1
    · have := hat h0
      rw [show h.1.1.toNat = a by omega] at this
      exact this
    · have ha' : (a : Int) < h.1.1 := by
        have : (a : Int) < h.1.1 + 1 := ha
        omega
      obtain ⟨f1, f2⟩ := g4 a ha'
      have hs : ((qnew h kd n).1.2.1 a) = h.1.2.1 a := by show (if (a : Int) = h.1.1 then _ else _) = _; rw [if_neg e]
      have hv : ∀ k (j : Int), qval (qnew h kd n) k a j = qval h k a j := by
        intro k j
        unfold qval
        split
        · show (if (a : Int) = h.1.1 then _ else _) = _; rw [if_neg e]
        · show (if (a : Int) = h.1.1 then _ else _) = _; rw [if_neg e]
      have hq : H1[(qxH X).size + a]? = H[(qxH X).size + a]? := oq _ (by omega)
      refine ⟨fun hc => ?_, fun hc => ?_⟩
      · rw [hs] at hc ⊢
        obtain ⟨r, r1, r2⟩ := f1 hc
        exact ⟨r, r1, (r2.kept hq).to (fun k _ => by rw [hv])⟩
      · rw [hs] at hc ⊢
        obtain ⟨r1, r2, r3, r4⟩ := f2 hc
        refine ⟨r1, r2, r3, ?_⟩
        rw [hq, r4]
        congr 2
        funext j
        rw [hv]
theorem qdef (X : QX) (t : FieldType) : defaultValue t = qcv X (qkd t, if qkd t = 2 then -1 else 0) ∨ t = .float ∨ t = .double := by
  cases t <;> first | exact Or.inl rfl | exact Or.inr (Or.inl rfl) | exact Or.inr (Or.inr rfl)
theorem qnew_val (h : QH) (kd : Nat) (n : Int) (k : Nat) (j : Int) : qval (qnew h kd n) k h.1.1 j = if k = 2 then -1 else 0 := by
  by_cases hk : k = 2
  · subst hk
    show (if h.1.1 = h.1.1 then (-1 : Int) else _) = _
    simp
  · rw [qval_ne _ hk, if_neg hk]
    show (if h.1.1 = h.1.1 then (0 : Int) else _) = _
    simp
theorem qnew_sh (h : QH) (kd : Nat) (n : Int) : (qnew h kd n).1.2.1 h.1.1 = (kd, n) := by
  show (if h.1.1 = h.1.1 then (kd, n) else _) = _
  simp
theorem qs_new {i ci : Nat} {C : String} {T : u_T} {N : Nat} (hc : vwCl[ci]? = some (C, T, N)) (hcl : Cond.classLink (qown (qmo m)) i C ∈ qtbl) (hins : Cond.instantiable C N ∈ qtbl) (hini : Cond.initialized C ∈ qtbl) (hnf : ∀ k, k < N → qtyf ci k ≠ .float ∧ qtyf ci k ≠ .double) (h0 : 0 ≤ h.1.1) (hf : cs.1 + 1 ≤ mx.1 ∧ cs.2 + N ≤ mx.2) (hd : decode (qmc m) pc = .ok (.new i, 3))
    (kk : QR X d mx m post (cs.1 + 1, cs.2 + N) (pc + 3) lv ((2, h.1.1) :: st) (qnew h ci N)) : QR X d mx m post cs pc lv st h := by
  intro p e R s mi ar be me c H lo ls hR hB hH hL hl
  have hB0 := hB
  obtain ⟨-, hci, hin, hty, hnm⟩ := qcl_of ci C T N hc
  obtain ⟨hx, hb, hml, hr, hlk, hown, hts, hnme, hT⟩ := hB
  have hKn := hT.1.1 ci _ hc
  refine W.newcK hx hb hown (hts _ hcl) (hts _ hins) (hts _ hini) rfl hd (by rw [hR.2.2.1]; exact hf.1) (by rw [hR.2.2.2]; exact hf.2) hKn.2.1 rfl fun H1 kC hkC e1 z1 o1 => ?_
  have hsz : H.size = (qxH X).size + h.1.1.toNat := by have := hH.1; omega
  have hH1 : QHp X (qnew h ci N) H1 := by
    refine qhp_new hH (by omega) z1 o1 (fun _ => ?_) h0
    refine ⟨fun _ => ?_, fun hz => ?_⟩
    · rw [show ((h.1.1.toNat : Nat) : Int) = h.1.1 by omega, qnew_sh, ← hsz]
      refine ⟨_, hc, (u_born (qtyf ci) hts hin hKn hkC e1 hty).to (fun j hj => ?_)⟩
      show _ = qcv X (qfk ci j, qval (qnew h ci N) (qfk ci j) h.1.1 j)
      rw [qnew_val]
      rcases qdef X (qtyf ci j) with q | q | q
      · exact q
      · exact absurd q (hnf j hj).1
      · exact absurd q (hnf j hj).2
    · rw [show ((h.1.1.toNat : Nat) : Int) = h.1.1 by omega, qnew_sh] at hz
      exact absurd hz (by show ¬ 100 ≤ ci; omega)
  have := kk p e R s mi ar be me c H1 lo ls hR hB0 hH1 hL hl
  rw [List.map_cons, qcv_ref h0, ← hsz] at this
  exact this
end QCalls
end
section
/-- what System.arraycopy leaves, of int arrays -/
def qcpy (M : QMem) (b a sp dp n : Int) : QMem := fun c j => if c = a ∧ dp ≤ j ∧ j < dp + n then M b (sp + (j - dp)) else M c j
section QMore
variable {X : QX} {d : Nat} {mx : Nat × Nat} {m : QMeth} {post : Int → QH → Prop} {cs : Nat × Nat} {pc : Nat} {lv : List (Nat × QV)} {st : List QV} {h : QH}
def qak (t : ArrayType) : Nat := match t with
  | .int => 100 | .long => 101 | .byte => 102 | .boolean => 103 | _ => 0
theorem qs_newarray {at' : ArrayType} {n : Int} (hat : 100 ≤ qak at') (harr : Cond.arrayClass (qty (qak at')) ∈ qtbl) (hn : 0 ≤ n) (hn2 : n ≤ 100000) (h0 : 0 ≤ h.1.1) (hf : cs.1 + 1 ≤ mx.1 ∧ cs.2 + n.toNat ≤ mx.2) (hd : decode (qmc m) pc = .ok (.newarray at', 2))
    (kk : QR X d mx m post (cs.1 + 1, cs.2 + n.toNat) (pc + 2) lv ((2, h.1.1) :: st) (qnew h (qak at') n)) : QR X d mx m post cs pc lv ((0, n) :: st) h := by
  intro p e R s mi ar be me c H lo ls hR hB hH hL hl
  have hB0 := hB
  obtain ⟨hx, hb, hml, hr, hlk, hown, hts, hnme, hT⟩ := hB
  have h32 : in32 n := ⟨by omega, by omega⟩
  have hkd : qak at' ≤ 106 ∧ newarray.typeOf at' = qty (qak at') ∧ qkd (qty (qak at')) = qel (qak at') ∧ componentBytes (qty (qak at')) ≤ 8 ∧ va_RA s (qxA X (qak at')) (qty (qak at')) = (s.vm.findClass ("[" ++ (qty (qak at')).toString) = some (qxA X (qak at'))) ∧ defaultValue (qty (qak at')) = qcv X (qel (qak at'), 0) ∧ qel (qak at') ≠ 2 := by
    cases at' <;> first | exact ⟨by decide, rfl, rfl, by decide, rfl, rfl, by decide⟩ | exact absurd hat (by decide)
  obtain ⟨k1, k2, k3, k4, k5, k6, k7⟩ := hkd
  have hA := qarrof (kd := qak at') hT hat k1
  rw [k5] at hA
  refine va_newaK (n := Int32.ofInt n) (N := n.toNat) hx hb (by rw [k2]; exact hts _ harr) rfl hd rfl (fun z => ?_) (q_clamp h32) (by
      rw [k2]
      have := Nat.mul_le_mul (show n.toNat ≤ 100000 by omega) k4
      omega) (by rw [hR.2.2.1]; exact hf.1) (by rw [hR.2.2.2]; exact hf.2) rfl fun H1 cA e1 z1 o1 hAr hNm => ?_
  · have := (q_lt h32 (show in32 0 from ⟨by decide, by decide⟩)).mp z
    omega
  · rw [k2] at e1 hNm
    have hcA : cA = qxA X (qak at') := Option.some.inj (hNm.symm.trans hA.2)
    subst hcA
    have hsz : H.size = (qxH X).size + h.1.1.toNat := by have := hH.1; omega
    have hH1 : QHp X (qnew h (qak at') n) H1 := by
      refine qhp_new hH (by omega) z1 o1 (fun _ => ?_) h0
      refine ⟨fun hz => ?_, fun _ => ?_⟩
      · rw [show ((h.1.1.toNat : Nat) : Int) = h.1.1 by omega, qnew_sh] at hz
        exact absurd hz (by show ¬ qak at' < 100; omega)
      · rw [show ((h.1.1.toNat : Nat) : Int) = h.1.1 by omega, qnew_sh, ← hsz]
        refine ⟨k1, hn, by show n < _; omega, ?_⟩
        rw [e1]
        show some (arrV _ n.toNat _) = some (arrV _ n.toNat _)
        congr 2
        funext j
        rw [qnew_val, if_neg k7]
        exact k6
    have := kk p e R s mi ar be me c H1 lo ls hR hB0 hH1 hL hl
    rw [List.map_cons, qcv_ref h0, ← hsz] at this
    exact this
theorem qs_anewarray {i kd : Nat} {C : String} {n : Int} (hkd : (kd = 104 ∧ C = RX6) ∨ (kd = 105 ∧ C = RX8) ∨ (kd = 106 ∧ C = RX0)) (hcl : Cond.classLink (qown (qmo m)) i C ∈ qtbl) (hn : 0 ≤ n) (hn2 : n ≤ 100000) (h0 : 0 ≤ h.1.1) (hf : cs.1 + 1 ≤ mx.1 ∧ cs.2 + n.toNat ≤ mx.2) (hd : decode (qmc m) pc = .ok (.anewarray i, 3))
    (kk : QR X d mx m post (cs.1 + 1, cs.2 + n.toNat) (pc + 3) lv ((2, h.1.1) :: st) (qnew h kd n)) : QR X d mx m post cs pc lv ((0, n) :: st) h := by
  intro p e R s mi ar be me c H lo ls hR hB hH hL hl
  have hB0 := hB
  obtain ⟨hx, hb, hml, hr, hlk, hown, hts, hnme, hT⟩ := hB
  have h32 : in32 n := ⟨by omega, by omega⟩
  have hk : 100 ≤ kd ∧ kd ≤ 106 ∧ qty kd = .object C ∧ qel kd = 2 ∧ va_AO C s := by
    rcases hkd with ⟨rfl, rfl⟩ | ⟨rfl, rfl⟩ | ⟨rfl, rfl⟩
    · exact ⟨by decide, by decide, rfl, rfl, hT.2.1.1⟩
    · exact ⟨by decide, by decide, rfl, rfl, hT.2.1.2.1⟩
    · exact ⟨by decide, by decide, rfl, rfl, hT.2.1.2.2⟩
  obtain ⟨k0, k1, k2, k3, k4⟩ := hk
  have hA := (qarrof (kd := kd) hT k0 k1).2
  rw [k2] at hA
  obtain ⟨kA', comp', -, -, -, hA⟩ := hA
  refine W.anew (n := Int32.ofInt n) hx hb hown (hts _ hcl) (va_AO.use k4) rfl hd rfl (fun z => ?_) (by rw [q_clamp h32]; omega) (by rw [hR.2.2.1]; exact hf.1) (by rw [q_clamp h32, hR.2.2.2]; exact hf.2) fun cA kA comp f1 f2 f3 f4 => ?_
  · have := (q_lt h32 (show in32 0 from ⟨by decide, by decide⟩)).mp z
    omega
  · have hcA : cA = qxA X kd := Option.some.inj (f1.symm.trans hA)
    subst hcA
    rw [q_clamp h32]
    generalize hH1e : H.push ({ cls := qxA X kd, slots := Array.replicate n.toNat .null, vm := .none } : Cell) = H1
    have z1 : H1.size = H.size + 1 := by rw [← hH1e, Array.size_push]
    have e1 : H1[H.size]? = some (arrV (qxA X kd) n.toNat (fun _ => .null)) := by rw [← hH1e, Array.getElem?_push_size, ← arrV_new]
    have o1 : ∀ q : Nat, q < H.size → H1[q]? = H[q]? := fun q hq => by rw [← hH1e, Array.getElem?_push, if_neg (Nat.ne_of_lt hq)]
    have hsz : H.size = (qxH X).size + h.1.1.toNat := by have := hH.1; omega
    have hH1 : QHp X (qnew h kd n) H1 := by
      refine qhp_new hH (by omega) z1 o1 (fun _ => ?_) h0
      refine ⟨fun hz => ?_, fun _ => ?_⟩
      · rw [show ((h.1.1.toNat : Nat) : Int) = h.1.1 by omega, qnew_sh] at hz
        exact absurd hz (by show ¬ kd < 100; omega)
      · rw [show ((h.1.1.toNat : Nat) : Int) = h.1.1 by omega, qnew_sh, ← hsz]
        refine ⟨k1, hn, by show n < _; omega, ?_⟩
        rw [e1]
        show some (arrV _ n.toNat _) = some (arrV _ n.toNat _)
        congr 2
        funext j
        rw [qnew_val]
        show _ = qcv X (qel kd, if qel kd = 2 then -1 else 0)
        rw [k3]
        rfl
    have := kk p e R s mi ar be me c H1 lo ls hR hB0 hH1 hL hl
    rw [List.map_cons, qcv_ref h0, ← hsz] at this
    exact this
theorem qs_arraycopy {i : Nat} {a b sp dp n : Int} (hlink : Cond.methodLink (qown (qmo m)) i arraycopyName ∈ qtbl) (hnat : Cond.native arraycopyName ∈ qtbl) (hstat : Cond.static arraycopyName ∈ qtbl) (hini : Cond.initialized "java/lang/System" ∈ qtbl)
    (hsa : (h.1.2.1 a).1 = 100) (hsb : (h.1.2.1 b).1 = 100) (h1 : 0 ≤ sp) (h2 : 0 ≤ dp) (h3 : 0 ≤ n) (h4 : sp + n ≤ (h.1.2.1 b).2) (h5 : dp + n ≤ (h.1.2.1 a).2) (hdd : 1 ≤ d) (hw : qwt st ≤ 8) (hd : decode (qmc m) pc = .ok (.invokestatic i, 3))
    (kk : QR X d mx m post cs (pc + 3) lv st (h.1, qcpy h.2 b a sp dp n)) : QR X d mx m post cs pc lv ((0, n) :: (0, dp) :: (2, a) :: (0, sp) :: (2, b) :: st) h := by
  intro p e R s mi ar be me c H lo ls hR hB hH hL hl
  have hB0 := hB
  obtain ⟨a0, an, la0, la1, hca⟩ := qarr hH hsa (by decide) (by decide)
  obtain ⟨b0, bn, lb0, lb1, hcb⟩ := qarr hH hsb (by decide) (by decide)
  obtain ⟨hx, hb, hml, hr, hlk, hown, hts, hnme, hT⟩ := hB
  have i1 : in32 sp := ⟨by omega, by omega⟩
  have i2 : in32 dp := ⟨by omega, by omega⟩
  have i3 : in32 n := ⟨by omega, by omega⟩
  have nz : ∀ z : Int, in32 z → 0 ≤ z → ¬ Int32.ofInt z < 0 := fun z hz h0 q => by
    have := (q_lt hz (show in32 0 from ⟨by decide, by decide⟩)).mp q
    omega
  obtain ⟨-, k0, hk0, cm0, hkk0⟩ := (qarrof (kd := 100) hT (by decide) (by decide)).1 (h.1.2.1 b).2.toNat (fun j => qcv X (qel 100, qval h (qel 100) b j))
  obtain ⟨-, k1, hk1, cm1, hkk1⟩ := (qarrof (kd := 100) hT (by decide) (by decide)).1 (h.1.2.1 a).2.toNat (fun j => qcv X (qel 100, qval h (qel 100) a j))
  have hcs : ∀ j, j < (h.1.2.1 b).2.toNat → (arrV (qxA X 100) (h.1.2.1 b).2.toNat (fun j => qcv X (qel 100, qval h (qel 100) b j))).slots[j]? = some ((fun v : Value => v) (qcv X (0, h.2 b j))) := fun j hj => arrV_read _ _ hj
  simp only [List.map_cons]
  rw [qcv_ref a0, qcv_ref b0]
  intro T hT0 X0
  obtain ⟨vm', X', step⟩ := X0.arraycopy hx hown (hts _ hlink) (hts _ hnat) (hts _ hstat) (hts _ hini) (srcPos := Int32.ofInt sp) (destPos := Int32.ofInt dp) (n := Int32.ofInt n) (by rw [hT0]; exact hcb) (by rw [hT0]; exact hca)
    (fun _ h => by cases h) (fun _ h => by cases h) (fun h => by cases h) (fun h => by cases h) hk0 hk1 hkk0 hkk1 (by simp [refKind, qty]) (nz sp i1 h1) (nz dp i2 h2) (nz n i3 h3)
    (by rw [q32 i1, q32 i3, arrV_size]; omega)
    (by rw [q32 i2, q32 i3, arrV_size]; omega)
    (fun vm₁ _ j hj => by
      rw [q_clamp i3] at hj
      rw [Array.getD_eq_getD_getElem?, q_clamp i1, hcs _ (by omega)]
      exact ⟨rfl, trivial⟩)
    (g := F0 mi pc ls (qcv X (0, n) :: qcv X (0, dp) :: .ref ((qxH X).size + a.toNat) :: qcv X (0, sp) :: .ref ((qxH X).size + b.toNat) :: st.map (qcv X))) rfl (by rw [hml]; exact hl.1) (rest := st.map (qcv X)) rfl (by rw [hb]; exact hd) (by omega) (by
      have := lv_room (m := mi) (pc := pc) (ls := ls) (rest := ([] : List Value)) (st := st.map (qcv X)) (by rw [qwsum]; exact hw)
      have e9 : nativeFrameWords "java/lang/System" "arraycopy" 5 = 7 := by decide +kernel
      rw [e9]
      have : 2 * (F0 mi pc ls (qcv X (0, n) :: qcv X (0, dp) :: Value.ref ((qxH X).size + a.toNat) :: qcv X (0, sp) :: .ref ((qxH X).size + b.toNat) :: st.map (qcv X))).monitorRoom = 0 := rfl
      omega)
  have e1 : copied (arrV (qxA X 100) (h.1.2.1 b).2.toNat (fun j => qcv X (qel 100, qval h (qel 100) b j))) (arrV (qxA X 100) (h.1.2.1 a).2.toNat (fun j => qcv X (qel 100, qval h (qel 100) a j))) (Int32.ofInt sp) (Int32.ofInt dp) (Int32.ofInt n) = arrV (qxA X 100) (h.1.2.1 a).2.toNat (fun j => va_cpy (fun j : Nat => qcv X (0, h.2 b j)) (fun j : Nat => qcv X (0, h.2 a j)) sp.toNat dp.toNat n.toNat j) := by
    rw [← q_clamp i1, ← q_clamp i2, ← q_clamp i3]
    exact va_copiedX (fun v : Value => v) _ (qxA X 100) (fun j : Nat => qcv X (0, h.2 b j)) (fun j : Nat => qcv X (0, h.2 a j)) hcs (by rw [q_clamp i1, q_clamp i3]; omega)
  rw [e1] at X' step
  have hl9 : (qxH X).size + a.toNat < H.size := (Array.getElem?_eq_some_iff.mp hca).1
  generalize hce : arrV (qxA X 100) (h.1.2.1 a).2.toNat (fun j => va_cpy (fun j : Nat => qcv X (0, h.2 b j)) (fun j : Nat => qcv X (0, h.2 a j)) sp.toNat dp.toNat n.toNat j) = cell9 at X' step
  have hheap : ((T.setVm vm').setCell ((qxH X).size + a.toNat) cell9).heap = H.setIfInBounds ((qxH X).size + a.toNat) cell9 := by rw [← hT0]; rfl
  have oq : ∀ q : Nat, q ≠ (qxH X).size + a.toNat → (H.setIfInBounds ((qxH X).size + a.toNat) cell9)[q]? = H[q]? := fun q hq => by simp [Array.getElem?_setIfInBounds, Ne.symm hq]
  have hH1 : QHp X (h.1, qcpy h.2 b a sp dp n) (H.setIfInBounds ((qxH X).size + a.toNat) cell9) := by
    refine qhp_put hH rfl rfl ⟨a0, an⟩ (fun c hc j => ⟨rfl, by simp [qcpy, hc]⟩) (by simp) oq ⟨fun hz => ?_, fun _ => ?_⟩
    · rw [show ((a.toNat : Nat) : Int) = a by omega, hsa] at hz; omega
    · rw [show ((a.toNat : Nat) : Int) = a by omega, hsa]
      refine ⟨by decide, la0, la1, ?_⟩
      rw [show (H.setIfInBounds ((qxH X).size + a.toNat) cell9)[(qxH X).size + a.toNat]? = some cell9 by simp [Array.getElem?_setIfInBounds, hl9], ← hce]
      congr 2
      funext j
      show va_cpy (fun j : Nat => qcv X (0, h.2 b j)) (fun j : Nat => qcv X (0, h.2 a j)) sp.toNat dp.toNat n.toNat j = qcv X (0, qcpy h.2 b a sp dp n a j)
      unfold va_cpy qcpy
      by_cases hj : dp.toNat ≤ j ∧ j < dp.toNat + n.toNat
      · rw [if_pos hj, if_pos ⟨rfl, by omega, by omega⟩]
        show qcv X (0, h.2 b ((sp.toNat + (j - dp.toNat) : Nat) : Int)) = _
        rw [show ((sp.toNat + (j - dp.toNat) : Nat) : Int) = sp + ((j : Int) - dp) by omega]
      · rw [if_neg hj, if_neg (by omega)]
  obtain ⟨t, a1, b1⟩ := kk p e R s mi ar be me c _ _ ls hR hB0 hH1 (fun q hq => by
      rcases List.mem_append.mp hq with hq | hq
      · exact hL q hq
      · obtain ⟨z, -, hz⟩ := List.mem_map.mp hq
        rw [← hz]
        exact Nat.le_add_right _ _) hl _ hheap X'
  exact ⟨t, step t a1, b1⟩
/-- the law's own script -/
theorem qs_sload {i : Int} (h0 : 0 ≤ i) (hn : i < qxL X) (hd : decode (qmc m) pc = .ok (.iaload, 1)) (k : QR X d mx m post cs (pc + 1) lv ((0, (qxs X i.toNat).toInt) :: st) h) : QR X d mx m post cs pc lv ((0, i) :: (2, -2) :: st) h := by
  intro p e R s mi ar be me c H lo ls hR hB hH hL hl
  have k := k p e R s mi ar be me c H lo ls hR hB hH hL hl
  obtain ⟨hx, hb, hml, hr, hlk, hown, hts, hnme, hT⟩ := hB
  obtain ⟨-, -, ⟨scr, g1, g2, g3, g4, g5⟩, ⟨hb0, hL2⟩, -⟩ := hT
  obtain ⟨e1, e2⟩ := qin_ix (n := qxL X) h0 hn (by omega)
  simp only [List.map_cons]
  have er : qcv X (2, -2) = .ref (qxo X 0) := rfl
  rw [er]
  refine W.iald (j := Int32.ofInt i) (v := .int (qxs X i.toNat)) hx hb (by rw [hH.2.1 _ hb0]; exact g1) g2 g3 (by rw [g4]; exact e2) (by rw [e1]; exact g5 _ (by omega)) rfl rfl hd ?_
  simp only [List.map_cons, qcv, Int32.ofInt_toInt] at k
  exact k
theorem qs_slen (hd : decode (qmc m) pc = .ok (.arraylength, 1)) (k : QR X d mx m post cs (pc + 1) lv ((0, (qxL X : Int)) :: st) h) : QR X d mx m post cs pc lv ((2, -2) :: st) h := by
  intro p e R s mi ar be me c H lo ls hR hB hH hL hl
  have k := k p e R s mi ar be me c H lo ls hR hB hH hL hl
  obtain ⟨hx, hb, hml, hr, hlk, hown, hts, hnme, hT⟩ := hB
  obtain ⟨-, -, ⟨scr, g1, g2, g3, g4, g5⟩, ⟨hb0, hL2⟩, -⟩ := hT
  simp only [List.map_cons]
  have er : qcv X (2, -2) = .ref (qxo X 0) := rfl
  rw [er]
  refine W.alen (n := Int32.ofInt (qxL X)) hx hb (by rw [hH.2.1 _ hb0]; exact g1) g2 ?_ rfl rfl hd k
  rw [g4, Int32.ofInt_eq_ofNat]
/-- texts -/
theorem qs_ldcS {i : Nat} {e : Nat × String × Nat} (he : (qmo m, i, e.2.1, e.2.2) ∈ qsl) (hd : decode (qmc m) pc = .ok (.ldc i, 2)) (k : QR X d mx m post cs (pc + 2) lv ((2, -3 - (e.2.2 : Int)) :: st) h) : QR X d mx m post cs pc lv st h := by
  intro p ev R s mi ar be me c H lo ls hR hB hH hL hl
  have k := k p ev R s mi ar be me c H lo ls hR hB hH hL hl
  obtain ⟨hx, hb, hml, hr, hlk, hown, hts, hnme, hT⟩ := hB
  have hz := hT.2.2.2.2.1 _ he
  have er : qcv X (2, -3 - (e.2.2 : Int)) = .ref (qxo X (1 + e.2.2)) := by
    show qrv X _ = _
    rw [qrv, if_neg (by omega), if_neg (by omega), show (-2 - (-3 - (e.2.2 : Int))).toNat = 1 + e.2.2 by omega]
  rw [List.map_cons, er] at k
  exact va_ldcS hx hb hown hz hd k
theorem qs_strval {a : Int} (ho : qmo m = 16) (hs : -19 < a ∧ a ≤ -3) (hl9 : Cond.fieldLink RJ0 9 "java/lang/String" "value" "[B" ∈ qtbl) (hd : decode (qmc m) pc = .ok (.getfield 9, 3)) (k : QR X d mx m post cs (pc + 3) lv ((2, a - 100) :: st) h) : QR X d mx m post cs pc lv ((2, a) :: st) h := by
  intro p ev R s mi ar be me c H lo ls hR hB hH hL hl
  have k := k p ev R s mi ar be me c H lo ls hR hB hH hL hl
  obtain ⟨hx, hb, hml, hr, hlk, hown, hts, hnme, hT⟩ := hB
  rw [ho] at hown
  obtain ⟨cf, kc, fi, f, cell, h1, h2, h3, h4, h5, h6⟩ := ((hT.2.2.2.2.2.1).1 (-3 - a).toNat (by omega)).2.2.1.kept (fun q hq _ => hH.2.1 q hq)
  have er : qcv X (2, a) = .ref (qxo X (1 + (-3 - a).toNat)) := by
    show qrv X a = _
    rw [qrv, if_neg (by omega), if_neg (by omega), show (-2 - a).toNat = 1 + (-3 - a).toNat by omega]
  have er2 : qcv X (2, a - 100) = .ref (qxo X (101 + (-3 - a).toNat)) := by
    show qrv X (a - 100) = _
    rw [qrv, if_neg (by omega), if_neg (by omega), show (-2 - (a - 100)).toNat = 101 + (-3 - a).toNat by omega]
  rw [List.map_cons, er2] at k
  rw [List.map_cons, er]
  exact W.getf hx hb hown (hts _ hl9) h1 h2 h3 h4 h5 rfl rfl hd k
theorem qs_strcod {a : Int} (ho : qmo m = 16) (hs : -19 < a ∧ a ≤ -3) (hl9 : Cond.fieldLink RJ0 15 "java/lang/String" "coder" "B" ∈ qtbl) (hd : decode (qmc m) pc = .ok (.getfield 15, 3)) (k : QR X d mx m post cs (pc + 3) lv ((0, 0) :: st) h) : QR X d mx m post cs pc lv ((2, a) :: st) h := by
  intro p ev R s mi ar be me c H lo ls hR hB hH hL hl
  have k := k p ev R s mi ar be me c H lo ls hR hB hH hL hl
  obtain ⟨hx, hb, hml, hr, hlk, hown, hts, hnme, hT⟩ := hB
  rw [ho] at hown
  obtain ⟨cf, kc, fi, f, cell, h1, h2, h3, h4, h5, h6⟩ := ((hT.2.2.2.2.2.1).1 (-3 - a).toNat (by omega)).2.1.kept (fun q hq _ => hH.2.1 q hq)
  have er : qcv X (2, a) = .ref (qxo X (1 + (-3 - a).toNat)) := by
    show qrv X a = _
    rw [qrv, if_neg (by omega), if_neg (by omega), show (-2 - a).toNat = 1 + (-3 - a).toNat by omega]
  rw [List.map_cons, er]
  exact W.getf hx hb hown (hts _ hl9) h1 h2 h3 h4 h5 rfl rfl hd k
theorem qs_stat1 (ho : qmo m = 16) (hl9 : Cond.fieldLink RJ0 38 "java/lang/String" "COMPACT_STRINGS" "Z" ∈ qtbl) (hd : decode (qmc m) pc = .ok (.getstatic 38, 3)) (k : QR X d mx m post cs (pc + 3) lv ((0, 1) :: st) h) : QR X d mx m post cs pc lv st h := by
  intro p ev R s mi ar be me c H lo ls hR hB hH hL hl
  have k := k p ev R s mi ar be me c H lo ls hR hB hH hL hl
  obtain ⟨hx, hb, hml, hr, hlk, hown, hts, hnme, hT⟩ := hB
  rw [ho] at hown
  obtain ⟨cf, kf, fi, f, a, cell, h1, h2, h3, h4, h5, h6, h7, h8⟩ := hT.2.2.2.2.2.2.1.kept (fun q hq _ => hH.2.1 q hq)
  exact W.gets hx hb hown (hts _ hl9) h1 h2 h3 h4 h5 (fun e => by rw [e] at h6; cases h6) h7 rfl hd k
theorem qs_stat2 (ho : qmo m = 16) (hl9 : Cond.fieldLink RJ0 1053 "jdk/internal/util/Preconditions" "SIOOBE_FORMATTER" "Ljava/util/function/BiFunction;" ∈ qtbl) (hd : decode (qmc m) pc = .ok (.getstatic 1053, 3)) (k : QR X d mx m post cs (pc + 3) lv ((2, qfm X) :: st) h) : QR X d mx m post cs pc lv st h := by
  intro p ev R s mi ar be me c H lo ls hR hB hH hL hl
  have k := k p ev R s mi ar be me c H lo ls hR hB hH hL hl
  obtain ⟨hx, hb, hml, hr, hlk, hown, hts, hnme, hT⟩ := hB
  rw [ho] at hown
  obtain ⟨cf, kf, fi, f, a, cell, h1, h2, h3, h4, h5, h6, h7, h8⟩ := hT.2.2.2.2.2.2.2.kept (fun q hq _ => hH.2.1 q hq)
  exact W.gets hx hb hown (hts _ hl9) h1 h2 h3 h4 h5 (fun e => by rw [e] at h6; cases h6) h7 rfl hd k
theorem qslt : ∀ i, i < 16 → qsn.getD i 0 < 100 := by decide
theorem qs_strlen {a : Int} (hs : -119 < a ∧ a ≤ -103) (hd : decode (qmc m) pc = .ok (.arraylength, 1)) (k : QR X d mx m post cs (pc + 1) lv ((0, (qsn.getD (-103 - a).toNat 0 : Int)) :: st) h) : QR X d mx m post cs pc lv ((2, a) :: st) h := by
  intro p ev R s mi ar be me c H lo ls hR hB hH hL hl
  have k := k p ev R s mi ar be me c H lo ls hR hB hH hL hl
  obtain ⟨hx, hb, hml, hr, hlk, hown, hts, hnme, hT⟩ := hB
  obtain ⟨cell, h1, h2, h3, h4, h5, h6, h7⟩ := ((hT.2.2.2.2.2.1).1 (-103 - a).toNat (by omega)).2.2.2.kept (fun q hq _ => hH.2.1 q hq)
  have er : qcv X (2, a) = .ref (qxo X (101 + (-103 - a).toNat)) := by
    show qrv X a = _
    rw [qrv, if_neg (by omega), if_neg (by omega), show (-2 - a).toNat = 101 + (-103 - a).toNat by omega]
  rw [List.map_cons, er]
  refine W.alen (n := Int32.ofInt (qsn.getD (-103 - a).toNat 0 : Int)) hx hb h1 h2 ?_ rfl rfl hd k
  rw [h5, Int32.ofInt_eq_ofNat]
theorem qs_strbyte {a i : Int} (hs : -119 < a ∧ a ≤ -103) (h0 : 0 ≤ i) (hn : i < (qsn.getD (-103 - a).toNat 0 : Int)) (hd : decode (qmc m) pc = .ok (.baload, 1)) (k : QR X d mx m post cs (pc + 1) lv ((0, ((qsb.getD (-103 - a).toNat []).getD i.toNat 0).toInt) :: st) h) : QR X d mx m post cs pc lv ((0, i) :: (2, a) :: st) h := by
  intro p ev R s mi ar be me c H lo ls hR hB hH hL hl
  have k := k p ev R s mi ar be me c H lo ls hR hB hH hL hl
  obtain ⟨hx, hb, hml, hr, hlk, hown, hts, hnme, hT⟩ := hB
  obtain ⟨cell, h1, h2, h3, h4, h5, h6, h7⟩ := ((hT.2.2.2.2.2.1).1 (-103 - a).toNat (by omega)).2.2.2.kept (fun q hq _ => hH.2.1 q hq)
  have hlt := qslt (-103 - a).toNat (by omega)
  obtain ⟨e1, e2⟩ := qin_ix (n := qsn.getD (-103 - a).toNat 0) h0 hn (by omega)
  have er : qcv X (2, a) = .ref (qxo X (101 + (-103 - a).toNat)) := by
    show qrv X a = _
    rw [qrv, if_neg (by omega), if_neg (by omega), show (-2 - a).toNat = 101 + (-103 - a).toNat by omega]
  simp only [List.map_cons, qcv, Int32.ofInt_toInt] at k
  simp only [List.map_cons]
  rw [er]
  refine W.bald (j := Int32.ofInt i) (v := .int ((qsb.getD (-103 - a).toNat []).getD i.toNat 0)) hx hb h1 h2 h3 (fun z => e2 (z.imp id (fun q => by omega))) (by rw [e1]; exact h6 _ (by omega)) rfl rfl hd k
end QMore
end
section
/-- an entry of a list, by its first number -/
def qfnd {α : Type} (l : List (Nat × α)) (i : Nat) : Option α := match l with
  | [] => none
  | q :: r => bif q.1 == i then some q.2 else qfnd r i
theorem qfnd_mem {α : Type} {l : List (Nat × α)} {i : Nat} {v : α} (h : qfnd l i = some v) : (i, v) ∈ l := by
  induction l with
  | nil => cases h
  | cons q r ih =>
    rw [qfnd] at h
    by_cases e : q.1 = i
    · rw [show (q.1 == i) = true by simpa using e] at h
      obtain ⟨q1, q2⟩ := q
      cases h; cases e
      exact List.mem_cons_self
    · rw [show (q.1 == i) = false by simpa using e] at h
      exact List.mem_cons_of_mem _ (ih h)
/-- fields: (pool entry, class, place, its row of the tables) -/
def qflt (o : Nat) : List (Nat × Nat × Nat × Nat) := match o with
  | 0 => [(10, 0, 1, 482), (19, 0, 2, 484)]
  | 1 => [(9, 1, 0, 180), (15, 1, 1, 184), (38, 1, 2, 187), (41, 1, 3, 192), (44, 1, 4, 195), (47, 1, 5, 198), (50, 1, 6, 201), (18, 1, 7, 204), (22, 1, 8, 208), (25, 1, 9, 212), (31, 1, 10, 216), (35, 1, 11, 217)]
  | 2 => [(9, 2, 0, 168), (15, 2, 1, 169), (18, 2, 2, 170)]
  | 3 => [(11, 3, 0, 357), (22, 3, 1, 358), (18, 3, 2, 359)]
  | 4 => [(31, 1, 2, 188), (36, 6, 0, 297), (51, 6, 4, 305), (48, 6, 5, 308), (9, 4, 0, 440), (15, 4, 1, 442), (18, 4, 2, 443), (27, 4, 3, 444)]
  | 5 => [(82, 1, 0, 182), (85, 1, 1, 185), (125, 1, 2, 190), (122, 1, 3, 193), (64, 1, 4, 196), (106, 1, 5, 200), (109, 1, 6, 203), (115, 1, 7, 206), (128, 1, 8, 211), (131, 1, 9, 214), (29, 1, 10, 215), (144, 1, 11, 218), (36, 5, 0, 263), (9, 5, 1, 265), (18, 5, 2, 267), (25, 5, 3, 269), (39, 5, 4, 270), (33, 5, 5, 271), (137, 5, 6, 272)]
  | 6 => [(75, 1, 2, 189), (60, 1, 5, 199), (64, 1, 6, 202), (90, 1, 7, 207), (72, 1, 8, 209), (45, 1, 9, 213), (9, 6, 0, 296), (15, 6, 1, 300), (18, 6, 2, 302), (21, 6, 3, 303), (24, 6, 4, 304), (27, 6, 5, 307), (56, 6, 6, 310), (30, 6, 7, 312), (33, 6, 8, 314), (36, 6, 9, 316), (63, 6, 10, 318), (67, 6, 11, 321), (166, 8, 2, 464)]
  | 7 => [(9, 7, 0, 250), (15, 7, 1, 251), (18, 7, 2, 252), (21, 7, 3, 253)]
  | 8 => [(9, 8, 0, 460), (25, 8, 1, 461), (15, 8, 2, 462)]
  | 9 => [(52, 1, 0, 181), (68, 6, 0, 298), (101, 6, 10, 319), (9, 9, 0, 378), (15, 9, 1, 380), (18, 9, 2, 382), (22, 9, 3, 384), (25, 9, 4, 385), (28, 9, 5, 386), (31, 9, 6, 387), (34, 9, 7, 388), (37, 9, 8, 389), (50, 9, 9, 390), (40, 9, 10, 391), (65, 9, 11, 392), (71, 9, 12, 393), (74, 9, 13, 394), (78, 9, 14, 395), (81, 9, 15, 396), (84, 9, 16, 397)]
  | 10 => [(370, 1, 0, 183), (373, 1, 1, 186), (253, 1, 2, 191), (376, 1, 3, 194), (100, 1, 4, 197), (110, 1, 7, 205), (130, 1, 8, 210), (88, 5, 0, 264), (103, 5, 1, 266), (91, 5, 2, 268), (136, 6, 0, 299), (133, 6, 1, 301), (118, 6, 4, 306), (121, 6, 5, 309), (207, 6, 6, 311), (153, 6, 7, 313), (156, 6, 8, 315), (167, 6, 9, 317), (170, 6, 10, 320), (247, 6, 11, 322), (214, 3, 2, 360), (271, 9, 0, 379), (356, 9, 1, 381), (285, 9, 2, 383), (299, 4, 0, 441), (305, 4, 3, 445), (234, 8, 2, 463), (366, 0, 0, 481), (362, 0, 1, 483), (363, 0, 2, 485), (9, 10, 0, 503), (76, 10, 1, 504), (16, 10, 2, 505), (23, 10, 3, 506), (30, 10, 4, 507), (34, 10, 5, 508), (40, 10, 6, 509), (46, 10, 7, 510), (52, 10, 8, 511), (59, 10, 9, 512), (66, 10, 10, 513)]
  | 11 => [(1, 11, 0, 1393), (13, 11, 1, 1394), (17, 11, 2, 1395), (21, 11, 3, 1396), (24, 11, 4, 1397), (71, 11, 5, 1398), (89, 11, 6, 1399), (92, 11, 7, 1400), (74, 11, 8, 1401), (99, 11, 9, 1402), (112, 11, 10, 1403), (117, 11, 11, 1404), (120, 11, 12, 1405), (195, 11, 13, 1406), (27, 11, 14, 1407), (137, 11, 15, 1408), (30, 11, 16, 1409), (33, 11, 17, 1410), (36, 11, 18, 1411), (324, 11, 19, 1412), (345, 11, 20, 1413), (39, 11, 21, 1414), (42, 11, 22, 1415), (45, 11, 23, 1416), (48, 11, 24, 1417), (51, 11, 25, 1418), (370, 11, 26, 1419), (54, 11, 27, 1420), (58, 11, 28, 1421), (61, 11, 29, 1422), (64, 11, 30, 1423)]
  | _ => []
/-- methods: (pool entry, kind, callee, parameters, receiver, cells, slots, answer, rows of the tables) -/
abbrev QME : Type := Nat × MethodName × Nat × Nat × Nat × Nat × Nat × List Nat
def qmlt (o : Nat) : List (Nat × QME) := match o with
  | 0 => [(1, 3, Lib.objectInit, 0, 0, 0, 0, 0, [476]), (9, 2, yX1_init, 0, 0, 9, 1918, 0, [478, 123, 159]), (18, 2, yX6_init, 0, 0, 9, 300, 0, [480, 126, 293])]
  | 1 => [(3, 3, Lib.objectInit, 0, 0, 0, 0, 0, [161]), (30, 2, yX2_init, 0, 0, 2, 932, 0, [164, 124, 165]), (53, 1, yJ7_fill_53178, 2, 0, 0, 0, 0, [557, 132, 498]), (59, 0, yX2_clear, 0, 2, 0, 0, 0, [558, 124, 559, 560]), (78, 0, yX1_cells, 0, 1, 0, 0, 1, [760, 123, 761, 762]), (72, 1, yJ9_min_7cf53, 2, 0, 0, 0, 1, [764, 139, 672]), (62, 4, arraycopyName, 5, 0, 0, 0, 0, [826]), (68, 0, yX2_copyOf, 1, 2, 0, 0, 0, [827, 124, 828, 829]), (89, 0, yX2_isTold, 0, 2, 0, 0, 1, [900, 124, 901, 902]), (86, 0, yX1_column, 1, 1, 0, 0, 1, [904, 123, 905, 906]), (82, 0, yX1_row, 1, 1, 0, 0, 1, [908, 123, 909, 910]), (93, 0, yX2_value, 5, 2, 0, 0, 1, [912, 124, 913, 914]), (97, 1, yJ9_max_7cf53, 2, 0, 0, 0, 1, [924, 139, 669])]
  | 2 => [(3, 3, Lib.objectInit, 0, 0, 0, 0, 0, [167]), (22, 4, arraycopyName, 5, 0, 0, 0, 0, [831]), (32, 1, yJ9_min_f86c9, 2, 0, 0, 0, 2, [918, 139, 919]), (38, 1, yJ9_max_f86c9, 2, 0, 0, 0, 2, [921, 139, 922])]
  | 3 => [(3, 3, Lib.objectInit, 0, 0, 0, 0, 0, [353]), (17, 2, yX6_init, 0, 0, 9, 300, 0, [356, 126, 293]), (25, 0, yX6_copyOf, 1, 6, 0, 0, 0, [958, 126, 959, 960]), (29, 1, yJ9_min_7cf53, 2, 0, 0, 0, 1, [962, 139, 672]), (35, 1, yJ9_floorMod_7cf53, 2, 0, 0, 0, 1, [1044, 139, 1045])]
  | 4 => [(3, 3, Lib.objectInit, 0, 0, 0, 0, 0, [439]), (21, 1, yJ7_fill_53178, 2, 0, 0, 0, 0, [1226, 132, 498]), (41, 0, yX1_cells, 0, 1, 0, 0, 1, [1227, 123, 761, 762]), (45, 0, yX6_lying, 1, 6, 0, 0, 1, [1228, 126, 846, 847]), (54, 0, yX4_timesUnder, 2, 4, 0, 0, 1, [1257, 129, 1259, 37]), (58, 1, yJ9_min_7cf53, 2, 0, 0, 0, 1, [1261, 139, 672])]
  | 5 => [(3, 3, Lib.objectInit, 0, 0, 0, 0, 0, [155]), (17, 2, yX1_init, 0, 0, 9, 1918, 0, [158, 123, 159]), (24, 2, yX7_init, 0, 0, 3, 2703, 0, [246, 125, 247]), (42, 0, yX1_clear, 0, 1, 0, 0, 0, [553, 123, 554, 555]), (45, 0, yX7_cut, 2, 7, 0, 0, 0, [562, 125, 563, 564]), (49, 0, yX5_readLand, 0, 5, 0, 0, 1, [712, 122, 714, 4]), (60, 0, yX5_skip, 1, 5, 0, 0, 1, [716, 122, 718, 5]), (53, 0, yX5_kind, 0, 5, 0, 0, 1, [720, 122, 722, 6]), (67, 0, yX7_kind, 1, 7, 0, 0, 1, [724, 125, 725, 726]), (72, 0, yX5_fail, 1, 5, 0, 0, 1, [728, 122, 730, 7]), (70, 0, yX7_place, 1, 7, 0, 0, 1, [732, 125, 733, 734]), (78, 0, yX5_readNumber, 2, 5, 0, 0, 1, [736, 122, 738, 8]), (75, 0, yX7_value, 1, 7, 0, 0, 1, [740, 125, 741, 742]), (57, 0, yX5_readLine, 0, 5, 0, 0, 1, [744, 122, 746, 9]), (88, 0, yX5_readRock, 0, 5, 0, 0, 1, [748, 122, 750, 10]), (119, 0, yX5_readEmptyCell, 0, 5, 0, 0, 1, [752, 122, 754, 11]), (112, 0, yX1_hasCell, 1, 1, 0, 0, 1, [756, 123, 757, 758]), (91, 0, yX5_readDrum, 0, 5, 0, 0, 1, [765, 122, 767, 12]), (94, 0, yX5_readTakes, 0, 5, 0, 0, 1, [769, 122, 771, 13]), (134, 0, yX2_clear, 0, 2, 0, 0, 0, [773, 124, 559, 560]), (141, 0, yX5_readSum, 1, 5, 0, 0, 1, [774, 122, 776, 14]), (163, 0, yX5_readTerm, 1, 5, 0, 0, 1, [778, 122, 780, 15]), (166, 0, yX5_readAtom, 1, 5, 0, 0, 1, [782, 122, 784, 16]), (169, 0, yX5_partOf, 1, 5, 0, 0, 1, [786, 122, 788, 17]), (153, 0, yX2_add, 1, 2, 0, 0, 0, [790, 124, 791, 792]), (97, 0, yX5_readMay, 0, 5, 0, 0, 1, [794, 122, 796, 18]), (147, 0, yX5_readTruth, 1, 5, 0, 0, 1, [798, 122, 800, 19]), (150, 0, yX5_readBoth, 1, 5, 0, 0, 1, [802, 122, 804, 20]), (157, 0, yX5_readUnit, 1, 5, 0, 0, 1, [806, 122, 808, 21]), (160, 0, yX5_readComparison, 1, 5, 0, 0, 1, [810, 122, 812, 22]), (100, 0, yX5_readWet, 0, 5, 0, 0, 1, [814, 122, 816, 23]), (103, 0, yX5_readHour, 0, 5, 0, 0, 1, [818, 122, 820, 24])]
  | 6 => [(3, 3, Lib.objectInit, 0, 0, 0, 0, 0, [295]), (39, 1, yJ7_fill_53178, 2, 0, 0, 0, 0, [497, 132, 498]), (50, 4, arraycopyName, 5, 0, 0, 0, 0, [500]), (68, 0, yX6_cellOf, 2, 6, 0, 0, 1, [853, 126, 854, 855]), (136, 0, yX6_hasTraveller, 1, 6, 0, 0, 1, [891, 126, 883, 884]), (93, 0, yX1_hasDrum, 1, 1, 0, 0, 1, [933, 123, 862, 863]), (96, 0, yX6_endOf, 2, 6, 0, 0, 1, [934, 126, 866, 867]), (100, 0, yX1_beside, 2, 1, 0, 0, 1, [935, 123, 936, 937]), (103, 0, yX6_isOpen, 3, 6, 0, 0, 1, [939, 126, 940, 941]), (86, 0, yX1_hasCell, 1, 1, 0, 0, 1, [943, 123, 757, 758]), (82, 0, yX6_lying, 1, 6, 0, 0, 1, [944, 126, 846, 847]), (107, 0, yX1_mayLie, 4, 1, 0, 0, 1, [945, 123, 946, 947]), (111, 0, yX1_yardsFor, 3, 1, 0, 0, 1, [949, 123, 897, 898]), (115, 0, yX6_whyNotLaid, 3, 6, 0, 0, 1, [967, 126, 930, 931]), (119, 0, yX6_isUnder, 2, 6, 0, 0, 1, [976, 126, 978, 25]), (123, 0, yX6_whyNotBack, 2, 6, 0, 0, 1, [984, 126, 973, 974]), (126, 0, yX6_liftLast, 2, 6, 0, 0, 0, [985, 126, 987, 26]), (130, 0, yX6_whyNotIn, 2, 6, 0, 0, 1, [1001, 126, 994, 995]), (133, 0, yX6_whyNotOut, 2, 6, 0, 0, 1, [1014, 126, 1007, 1008]), (139, 0, yX6_goOn, 1, 6, 0, 0, 0, [1031, 126, 1033, 27]), (143, 0, yX6_travellerOn, 1, 6, 0, 0, 1, [1035, 126, 850, 851]), (171, 0, yX8_number, 1, 8, 0, 0, 2, [1064, 130, 1065, 1066]), (175, 0, yX6_follow, 2, 6, 0, 0, 1, [1068, 126, 1069, 1070]), (148, 0, yX6_passHour, 0, 6, 0, 0, 1, [1073, 126, 1028, 1029]), (153, 0, yX6_tryOut, 2, 6, 0, 0, 1, [1075, 126, 1011, 1012]), (156, 0, yX6_tryIn, 2, 6, 0, 0, 1, [1076, 126, 998, 999]), (159, 0, yX6_tryBack, 2, 6, 0, 0, 1, [1077, 126, 981, 982]), (162, 0, yX6_tryLaying, 4, 6, 0, 0, 1, [1078, 126, 964, 965]), (179, 1, yJ9_max_7cf53, 2, 0, 0, 0, 1, [1101, 139, 669]), (184, 1, yX6_drawn, 1, 0, 0, 0, 1, [1102, 126, 1103]), (78, 0, yX1_cells, 0, 1, 0, 0, 1, [1379, 123, 761, 762])]
  | 7 => [(3, 3, Lib.objectInit, 0, 0, 0, 0, 0, [249]), (25, 1, yX7_isDigit, 1, 0, 0, 0, 1, [566, 125, 567]), (29, 0, yX7_cutNumber, 3, 7, 0, 0, 1, [569, 125, 571, 1]), (47, 0, yX7_add, 3, 7, 0, 0, 0, [573, 125, 575, 2]), (33, 1, yX7_isLetter, 1, 0, 0, 0, 1, [577, 125, 578]), (36, 0, yX7_cutWord, 3, 7, 0, 0, 1, [580, 125, 582, 3]), (51, 1, yX7_wordOf, 3, 0, 0, 0, 1, [584, 125, 585]), (56, 1, yX7_spells, 4, 0, 0, 0, 1, [588, 125, 589]), (86, 5, yJ0_length_8abf5, 0, 0, 0, 0, 1, [591, 135, 592, 593]), (90, 5, yJ0_charAt_5068e, 1, 0, 0, 0, 1, [601, 135, 602, 603]), (41, 5, yJ0_indexOf_0f7a4, 1, 0, 0, 0, 1, [653, 135, 654, 655])]
  | 8 => [(3, 3, Lib.objectInit, 0, 0, 0, 0, 0, [459]), (19, 1, yJ7_fill_d0a16, 2, 0, 0, 0, 0, [1345, 132, 1140])]
  | 9 => [(3, 3, Lib.objectInit, 0, 0, 0, 0, 0, [377]), (108, 0, yX9_begin, 3, 9, 0, 0, 0, [1115, 128, 1116, 1117]), (44, 0, yX1_cells, 0, 1, 0, 0, 1, [1119, 123, 761, 762]), (53, 1, yJ9_max_7cf53, 2, 0, 0, 0, 1, [1120, 139, 669]), (59, 0, yX6_endOf, 2, 6, 0, 0, 1, [1121, 126, 866, 867]), (87, 0, yX1_beside, 2, 1, 0, 0, 1, [1122, 123, 936, 937]), (90, 0, yX9_leadOf, 2, 9, 0, 0, 1, [1123, 128, 1125, 30]), (93, 0, yX6_lying, 1, 6, 0, 0, 1, [1127, 126, 846, 847]), (97, 0, yX6_isOpen, 3, 6, 0, 0, 1, [1128, 126, 940, 941]), (104, 0, yX1_mayLie, 4, 1, 0, 0, 1, [1129, 123, 946, 947]), (112, 1, yX9_isIn, 2, 0, 0, 0, 1, [1130, 128, 1131]), (116, 0, yX1_yardsFor, 3, 1, 0, 0, 1, [1133, 123, 897, 898]), (120, 0, yX9_find, 0, 9, 0, 0, 0, [1134, 128, 1136, 31]), (123, 1, yJ7_fill_53178, 2, 0, 0, 0, 0, [1138, 132, 498]), (129, 1, yJ7_fill_d0a16, 2, 0, 0, 0, 0, [1139, 132, 1140]), (132, 0, yX9_findNext, 2, 9, 0, 0, 2, [1142, 128, 1144, 32]), (136, 0, yX9_betters, 4, 9, 0, 0, 1, [1146, 128, 1148, 33]), (140, 1, yX9_withTurn, 2, 0, 0, 0, 2, [1150, 128, 1151]), (154, 0, yX9_manyFrom, 4, 9, 0, 0, 1, [1181, 128, 1183, 34]), (158, 0, yX9_apart, 2, 9, 0, 0, 1, [1185, 128, 1187, 35]), (161, 1, yJ9_abs_0f7a4, 1, 0, 0, 0, 1, [1189, 139, 1190]), (150, 0, yX9_besideAll, 1, 9, 0, 0, 2, [1210, 128, 1212, 36])]
  | 10 => [(1, 3, Lib.objectInit, 0, 0, 0, 0, 0, [147]), (15, 2, yX5_init, 0, 0, 14, 4637, 0, [152, 122, 153]), (22, 2, yX1_init, 0, 0, 9, 1918, 0, [289, 123, 159]), (29, 2, yX6_init, 0, 0, 9, 300, 0, [292, 126, 293]), (39, 2, yX3_init, 0, 0, 101, 3130, 0, [350, 127, 351]), (58, 2, yX9_init, 0, 0, 9, 432, 0, [374, 128, 375]), (65, 2, yX4_init, 0, 0, 3, 106, 0, [436, 129, 437]), (70, 2, yX8_init, 0, 0, 1, 40, 0, [456, 130, 457]), (71, 2, yX0_init, 0, 0, 20, 2242, 0, [473, 131, 474]), (72, 0, yX6_begin, 1, 6, 0, 0, 0, [493, 126, 494, 495]), (80, 0, yX10_putOnTape, 1, 10, 0, 0, 0, [541, 121, 543, 0]), (84, 0, yX5_read, 2, 5, 0, 0, 1, [549, 122, 550, 551]), (94, 0, yX1_copyOf, 1, 1, 0, 0, 0, [822, 123, 823, 824]), (97, 0, yX3_forget, 0, 3, 0, 0, 0, [832, 127, 833, 834]), (106, 0, yX1_hasCell, 1, 1, 0, 0, 1, [844, 123, 757, 758]), (114, 0, yX6_lying, 1, 6, 0, 0, 1, [845, 126, 846, 847]), (124, 0, yX6_travellerOn, 1, 6, 0, 0, 1, [849, 126, 850, 851]), (127, 0, yX1_hasDrum, 1, 1, 0, 0, 1, [861, 123, 862, 863]), (139, 0, yX6_endOf, 2, 6, 0, 0, 1, [865, 126, 866, 867]), (143, 0, yX6_yardsLying, 1, 6, 0, 0, 1, [869, 126, 870, 871]), (146, 0, yX6_cellOf, 2, 6, 0, 0, 1, [877, 126, 854, 855]), (150, 0, yX6_hasTraveller, 1, 6, 0, 0, 1, [882, 126, 883, 884]), (159, 1, yJ9_max_7cf53, 2, 0, 0, 0, 1, [886, 139, 669]), (164, 0, yX6_hasArrived, 1, 6, 0, 0, 1, [887, 126, 888, 889]), (173, 0, yX1_yardsFor, 3, 1, 0, 0, 1, [896, 123, 897, 898]), (177, 0, yX6_whyNotLaid, 3, 6, 0, 0, 1, [929, 126, 930, 931]), (181, 0, yX3_keep, 1, 3, 0, 0, 0, [954, 127, 955, 956]), (185, 0, yX6_tryLaying, 4, 6, 0, 0, 1, [963, 126, 964, 965]), (189, 0, yX6_whyNotBack, 2, 6, 0, 0, 1, [972, 126, 973, 974]), (192, 0, yX6_tryBack, 2, 6, 0, 0, 1, [980, 126, 981, 982]), (195, 0, yX6_whyNotIn, 2, 6, 0, 0, 1, [993, 126, 994, 995]), (198, 0, yX6_tryIn, 2, 6, 0, 0, 1, [997, 126, 998, 999]), (201, 0, yX6_whyNotOut, 2, 6, 0, 0, 1, [1006, 126, 1007, 1008]), (204, 0, yX6_tryOut, 2, 6, 0, 0, 1, [1010, 126, 1011, 1012]), (210, 0, yX6_passHour, 0, 6, 0, 0, 1, [1027, 126, 1028, 1029]), (217, 0, yX3_bringBack, 2, 3, 0, 0, 0, [1040, 127, 1041, 1042]), (221, 0, yX10_isTray, 1, 10, 0, 0, 1, [1051, 121, 1053, 28]), (224, 0, yX8_isMissing, 0, 8, 0, 0, 1, [1055, 130, 1056, 1057]), (228, 0, yX6_copyOf, 1, 6, 0, 0, 0, [1059, 126, 959, 960]), (230, 0, yX6_followAll, 2, 6, 0, 0, 1, [1060, 126, 1061, 1062]), (235, 0, yX8_number, 1, 8, 0, 0, 2, [1079, 130, 1065, 1066]), (239, 0, yX6_follow, 2, 6, 0, 0, 1, [1080, 126, 1069, 1070]), (243, 0, yX6_allYards, 1, 6, 0, 0, 1, [1081, 126, 1082, 1083]), (250, 0, yX10_takeOverTrial, 1, 10, 0, 0, 0, [1089, 121, 1091, 29]), (256, 0, yX6_followSeason, 3, 6, 0, 0, 1, [1097, 126, 1098, 1099]), (261, 0, yX9_findShort, 3, 9, 0, 0, 0, [1111, 128, 1112, 1113]), (265, 0, yX1_cells, 0, 1, 0, 0, 1, [1154, 123, 761, 762]), (268, 0, yX9_comesTo, 1, 9, 0, 0, 1, [1155, 128, 1156, 1157]), (274, 0, yX9_turnOf, 2, 9, 0, 0, 1, [1167, 128, 1168, 1169]), (277, 0, yX9_begin, 3, 9, 0, 0, 0, [1176, 128, 1116, 1117]), (279, 0, yX9_howMany, 2, 9, 0, 0, 1, [1177, 128, 1178, 1179]), (282, 0, yX9_findLeastCrossed, 3, 9, 0, 0, 0, [1197, 128, 1198, 1199]), (291, 0, yX9_reachesWithout, 2, 9, 0, 0, 1, [1206, 128, 1207, 1208]), (295, 0, yX4_lookAt, 2, 4, 0, 0, 0, [1222, 129, 1223, 1224]), (302, 0, yX4_allOver, 1, 4, 0, 0, 1, [1233, 129, 1234, 1235]), (307, 0, yX4_firstFree, 1, 4, 0, 0, 1, [1241, 129, 1242, 1243]), (310, 0, yX4_fewestTurned, 0, 4, 0, 0, 1, [1253, 129, 1254, 1255]), (313, 0, yX4_howManyOrders, 0, 4, 0, 0, 1, [1266, 129, 1267, 1268]), (316, 0, yX10_hoursTillIn, 1, 10, 0, 0, 1, [1274, 121, 1276, 38]), (319, 0, yX6_onTheWay, 0, 6, 0, 0, 1, [1286, 126, 1287, 1288]), (322, 0, yX6_onCells, 0, 6, 0, 0, 1, [1298, 126, 1299, 1300]), (325, 0, yX10_whyNotFaded, 2, 10, 0, 0, 1, [1310, 121, 1312, 39]), (328, 0, yX10_fadedCells, 2, 10, 0, 0, 2, [1314, 121, 1316, 40]), (338, 0, yX9_endsBy, 1, 9, 0, 0, 2, [1318, 128, 1319, 1320]), (332, 1, yJ13_bitCount_95d88, 1, 0, 0, 0, 1, [1326, 141, 1327]), (342, 1, yJ9_min_7cf53, 2, 0, 0, 0, 1, [1336, 139, 672]), (345, 0, yX8_begin, 2, 8, 0, 0, 0, [1341, 130, 1342, 1343]), (352, 0, yX8_put, 2, 8, 0, 0, 2, [1352, 130, 1353, 1354]), (359, 1, yX6_deedOver, 2, 0, 0, 0, 1, [1360, 126, 1361]), (379, 0, yX6_crossed, 1, 6, 0, 0, 1, [1375, 126, 1376, 1377]), (382, 0, yX6_ribbonsLying, 1, 6, 0, 0, 1, [1380, 126, 1381, 1382])]
  | 11 => [(7, 3, Lib.objectInit, 0, 0, 0, 0, 0, [1389]), (67, 1, yX11_plain, 1, 0, 0, 0, 0, [1390, 134, 1391]), (133, 1, yX11_within, 3, 0, 0, 0, 1, [1496, 134, 1497]), (126, 0, yX11_next, 0, 11, 0, 0, 0, [1499, 134, 1501, 41]), (95, 0, yX11_see, 1, 11, 0, 0, 1, [1503, 134, 1505, 42]), (102, 1, yX11_isSmall, 1, 0, 0, 0, 1, [1507, 134, 1508]), (106, 0, yX11_keyAt, 0, 11, 0, 0, 1, [1510, 134, 1512, 43]), (79, 5, yJ0_length_8abf5, 0, 0, 0, 0, 1, [1515, 135, 592, 593]), (85, 5, yJ0_charAt_5068e, 1, 0, 0, 0, 1, [1516, 135, 602, 603]), (109, 1, yX11_isDigit, 1, 0, 0, 0, 1, [1517, 134, 1518]), (152, 0, yX11_eats, 1, 11, 0, 0, 1, [1521, 134, 1523, 44]), (123, 0, yX11_is, 1, 11, 0, 0, 1, [1525, 134, 1527, 45]), (129, 0, yX11_fails, 1, 11, 0, 0, 0, [1529, 134, 1531, 46]), (170, 0, yX11_takesN, 2, 11, 0, 0, 1, [1533, 134, 1535, 47]), (189, 0, yX11_ends, 0, 11, 0, 0, 0, [1537, 134, 1539, 48]), (192, 0, yX11_readLine, 0, 11, 0, 0, 0, [1541, 134, 1543, 49]), (180, 0, yX11_readRock, 0, 11, 0, 0, 0, [1545, 134, 1547, 50]), (177, 0, yX11_readCell, 0, 11, 0, 0, 1, [1549, 134, 1551, 51]), (174, 0, yX11_isDrumIn, 1, 11, 0, 0, 1, [1553, 134, 1555, 52]), (183, 0, yX11_readDrum, 0, 11, 0, 0, 0, [1557, 134, 1559, 53]), (186, 0, yX11_readLaw, 1, 11, 0, 0, 0, [1561, 134, 1563, 54]), (149, 0, yX11_readSum, 1, 11, 0, 0, 0, [1565, 134, 1567, 55]), (158, 0, yX11_readTerm, 1, 11, 0, 0, 0, [1569, 134, 1571, 56]), (155, 0, yX11_readAtom, 1, 11, 0, 0, 0, [1573, 134, 1575, 57]), (140, 0, yX11_codes, 1, 11, 0, 0, 0, [1577, 134, 1579, 58]), (143, 0, yX11_wordOf, 1, 11, 0, 0, 1, [1581, 134, 1583, 59]), (146, 0, yX11_goesIn, 1, 11, 0, 0, 1, [1585, 134, 1587, 60]), (164, 0, yX11_readTruth, 1, 11, 0, 0, 0, [1589, 134, 1591, 61]), (167, 0, yX11_readBoth, 1, 11, 0, 0, 0, [1593, 134, 1595, 62]), (161, 0, yX11_readUnit, 1, 11, 0, 0, 0, [1597, 134, 1599, 63]), (221, 0, yX11_isCell, 1, 11, 0, 0, 1, [1609, 134, 1611, 64]), (198, 0, yX11_cells, 0, 11, 0, 0, 1, [1613, 134, 1615, 65]), (215, 0, yX11_isHome, 1, 11, 0, 0, 1, [1617, 134, 1619, 66]), (205, 0, yX11_lieOn, 1, 11, 0, 0, 1, [1621, 134, 1623, 67]), (225, 0, yX11_goerOn, 1, 11, 0, 0, 1, [1625, 134, 1627, 68]), (218, 0, yX11_cellOf, 1, 11, 0, 0, 1, [1629, 134, 1631, 69]), (228, 0, yX11_isDrum, 1, 11, 0, 0, 1, [1637, 134, 1639, 70]), (231, 0, yX11_endOf, 1, 11, 0, 0, 1, [1641, 134, 1643, 71]), (234, 0, yX11_tookBy, 1, 11, 0, 0, 1, [1645, 134, 1647, 72]), (237, 0, yX11_isGoer, 1, 11, 0, 0, 1, [1657, 134, 1659, 73]), (240, 0, yX11_costOf, 2, 11, 0, 0, 1, [1665, 134, 1667, 74]), (212, 0, yX11_reckons, 3, 11, 0, 0, 1, [1669, 134, 1671, 75]), (208, 1, yX11_between, 3, 0, 0, 0, 1, [1673, 134, 1674]), (258, 0, yX11_whyLay, 2, 11, 0, 0, 1, [1682, 134, 1684, 76]), (245, 0, yX11_beside, 2, 11, 0, 0, 1, [1687, 134, 1689, 77]), (248, 0, yX11_isOpen, 2, 11, 0, 0, 1, [1691, 134, 1693, 78]), (252, 0, yX11_lets, 2, 11, 0, 0, 1, [1695, 134, 1697, 79]), (262, 0, yX11_keeps, 0, 11, 0, 0, 0, [1703, 134, 1705, 80]), (265, 0, yX11_lays, 3, 11, 0, 0, 0, [1707, 134, 1709, 81]), (269, 0, yX11_notes, 0, 11, 0, 0, 0, [1711, 134, 1713, 82]), (272, 0, yX11_whyBack, 1, 11, 0, 0, 1, [1719, 134, 1721, 83]), (255, 0, yX11_takesOff, 1, 11, 0, 0, 0, [1723, 134, 1725, 84]), (276, 0, yX11_whyIn, 1, 11, 0, 0, 1, [1731, 134, 1733, 85]), (279, 0, yX11_takesAll, 1, 11, 0, 0, 0, [1735, 134, 1737, 86]), (282, 0, yX11_whyOut, 1, 11, 0, 0, 1, [1743, 134, 1745, 87]), (285, 0, yX11_setsOut, 1, 11, 0, 0, 0, [1747, 134, 1749, 88]), (295, 0, yX11_goesHour, 0, 11, 0, 0, 1, [1765, 134, 1767, 89]), (290, 0, yX11_goes, 1, 11, 0, 0, 1, [1769, 134, 1771, 90]), (335, 0, yX11_noTray, 1, 11, 0, 0, 1, [1783, 134, 1785, 91]), (338, 0, yX11_tells, 1, 11, 0, 0, 1, [1787, 134, 1789, 92]), (327, 0, yX11_whyNot, 1, 11, 0, 0, 1, [1791, 134, 1793, 93]), (330, 0, yX11_does, 1, 11, 0, 0, 0, [1807, 134, 1809, 94]), (341, 0, yX11_isAgain, 0, 11, 0, 0, 0, [1811, 134, 1813, 95]), (353, 0, yX11_drawn, 0, 11, 0, 0, 1, [1824, 134, 1826, 96]), (348, 0, yX11_draw, 1, 11, 0, 0, 1, [1828, 134, 1830, 97]), (380, 0, yX11_leastFor, 3, 11, 0, 0, 1, [1838, 134, 1840, 98]), (364, 0, yX11_laysLeast, 3, 11, 0, 0, 0, [1842, 134, 1844, 99]), (356, 0, yX11_laysOpen, 2, 11, 0, 0, 0, [1846, 134, 1848, 100]), (361, 0, yX11_leftOf, 1, 11, 0, 0, 1, [1851, 134, 1853, 101]), (367, 0, yX11_cellsBy, 1, 11, 0, 0, 1, [1855, 134, 1857, 102]), (384, 0, yX11_laysWay, 2, 11, 0, 0, 1, [1867, 134, 1869, 103]), (374, 0, yX11_isNext, 3, 11, 0, 0, 1, [1871, 134, 1873, 104]), (391, 0, yX11_waysFrom, 4, 11, 0, 0, 1, [1880, 134, 1882, 105]), (387, 1, yX11_isIn, 2, 0, 0, 0, 1, [1884, 134, 1885]), (397, 0, yX11_aboveOf, 1, 11, 0, 0, 1, [1903, 134, 1905, 106]), (400, 0, yX11_lying, 0, 11, 0, 0, 1, [1915, 134, 1917, 107]), (403, 0, yX11_firstOf, 1, 11, 0, 0, 1, [1919, 134, 1921, 108]), (406, 1, yX11_bitsOf, 1, 0, 0, 0, 1, [1923, 134, 1924]), (412, 0, yX11_twistsOf, 1, 11, 0, 0, 1, [1934, 134, 1936, 109]), (409, 0, yX11_overs, 2, 11, 0, 0, 1, [1938, 134, 1940, 110]), (415, 0, yX11_ordersOf, 1, 11, 0, 0, 1, [1946, 134, 1948, 111]), (418, 0, yX11_arrivesIn, 1, 11, 0, 0, 1, [1954, 134, 1956, 112]), (421, 0, yX11_isAllIn, 0, 11, 0, 0, 1, [1966, 134, 1968, 113]), (425, 0, yX11_goersOnCells, 0, 11, 0, 0, 1, [1978, 134, 1980, 114]), (430, 0, yX11_noFaded, 2, 11, 0, 0, 1, [1990, 134, 1992, 115]), (433, 0, yX11_fits, 2, 11, 0, 0, 2, [1995, 134, 1997, 116]), (437, 1, yX11_manyOf, 1, 0, 0, 0, 1, [2003, 134, 2004]), (442, 1, yX11_cut, 2, 0, 0, 0, 2, [2019, 134, 2020]), (446, 0, yX11_rocksMany, 0, 11, 0, 0, 1, [2038, 134, 2040, 117]), (449, 0, yX11_crossingsMany, 0, 11, 0, 0, 1, [2042, 134, 2044, 118]), (452, 0, yX11_underWay, 0, 11, 0, 0, 1, [2046, 134, 2048, 119])]
  | 12 => [(9, 2, yX10_init, 0, 0, 214, 16458, 0, [144, 121, 145]), (13, 0, yX10_feed, 5, 10, 0, 0, 1, [537, 121, 538, 539]), (18, 0, yX10_land, 1, 10, 0, 0, 1, [545, 121, 546, 547]), (23, 0, yX10_fault, 1, 10, 0, 0, 1, [836, 121, 837, 838]), (27, 0, yX10_cell, 2, 10, 0, 0, 1, [840, 121, 841, 842]), (32, 0, yX10_drum, 2, 10, 0, 0, 1, [857, 121, 858, 859]), (36, 0, yX10_lies, 2, 10, 0, 0, 1, [873, 121, 874, 875]), (40, 0, yX10_traveller, 2, 10, 0, 0, 1, [878, 121, 879, 880]), (44, 0, yX10_takes, 2, 10, 0, 0, 1, [892, 121, 893, 894]), (48, 0, yX10_why, 2, 10, 0, 0, 1, [925, 121, 926, 927]), (52, 0, yX10_lay, 3, 10, 0, 0, 1, [950, 121, 951, 952]), (57, 0, yX10_back, 1, 10, 0, 0, 1, [968, 121, 969, 970]), (61, 0, yX10_takeIn, 1, 10, 0, 0, 1, [989, 121, 990, 991]), (65, 0, yX10_setOut, 1, 10, 0, 0, 1, [1002, 121, 1003, 1004]), (69, 0, yX10_turn, 1, 10, 0, 0, 1, [1015, 121, 1016, 1017]), (73, 0, yX10_rain, 1, 10, 0, 0, 1, [1019, 121, 1020, 1021]), (77, 0, yX10_hours, 1, 10, 0, 0, 1, [1023, 121, 1024, 1025]), (81, 0, yX10_undo, 1, 10, 0, 0, 1, [1036, 121, 1037, 1038]), (85, 0, yX10_judge, 2, 10, 0, 0, 1, [1047, 121, 1048, 1049]), (89, 0, yX10_perform, 1, 10, 0, 0, 1, [1085, 121, 1086, 1087]), (93, 0, yX10_season, 2, 10, 0, 0, 1, [1093, 121, 1094, 1095]), (97, 0, yX10_reach, 1, 10, 0, 0, 2, [1106, 121, 1107, 1108]), (102, 0, yX10_fewest, 2, 10, 0, 0, 1, [1159, 121, 1160, 1161]), (106, 0, yX10_way, 3, 10, 0, 0, 1, [1163, 121, 1164, 1165]), (111, 0, yX10_ways, 3, 10, 0, 0, 1, [1172, 121, 1173, 1174]), (115, 0, yX10_crossings, 2, 10, 0, 0, 1, [1193, 121, 1194, 1195]), (119, 0, yX10_needed, 2, 10, 0, 0, 2, [1201, 121, 1202, 1203]), (124, 0, yX10_farthest, 1, 10, 0, 0, 1, [1214, 121, 1215, 1216]), (128, 0, yX10_above, 1, 10, 0, 0, 1, [1218, 121, 1219, 1220]), (132, 0, yX10_ahead, 1, 10, 0, 0, 1, [1229, 121, 1230, 1231]), (136, 0, yX10_order, 1, 10, 0, 0, 1, [1237, 121, 1238, 1239]), (140, 0, yX10_stuck, 0, 10, 0, 0, 1, [1245, 121, 1246, 1247]), (145, 0, yX10_twists, 0, 10, 0, 0, 1, [1249, 121, 1250, 1251]), (149, 0, yX10_orders, 0, 10, 0, 0, 1, [1262, 121, 1263, 1264]), (153, 0, yX10_arrives, 1, 10, 0, 0, 1, [1270, 121, 1271, 1272]), (157, 0, yX10_waits, 1, 10, 0, 0, 1, [1278, 121, 1279, 1280]), (161, 0, yX10_allIn, 0, 10, 0, 0, 1, [1282, 121, 1283, 1284]), (165, 0, yX10_free, 1, 10, 0, 0, 1, [1290, 121, 1291, 1292]), (169, 0, yX10_busiest, 0, 10, 0, 0, 1, [1294, 121, 1295, 1296]), (173, 0, yX10_wouldArrive, 1, 10, 0, 0, 1, [1302, 121, 1303, 1304]), (177, 0, yX10_faded, 2, 10, 0, 0, 2, [1306, 121, 1307, 1308]), (181, 0, yX10_manyFaded, 2, 10, 0, 0, 1, [1322, 121, 1323, 1324]), (185, 0, yX10_look, 2, 10, 0, 0, 1, [1332, 121, 1333, 1334]), (189, 0, yX10_numbers, 3, 10, 0, 0, 1, [1337, 121, 1338, 1339]), (195, 0, yX10_write, 3, 10, 0, 0, 2, [1346, 121, 1347, 1348]), (200, 0, yX10_lists, 3, 10, 0, 0, 1, [1356, 121, 1357, 1358]), (204, 0, yX10_image, 1, 10, 0, 0, 1, [1363, 121, 1364, 1365]), (208, 0, yX10_restore, 1, 10, 0, 0, 1, [1367, 121, 1368, 1369]), (212, 0, yX10_count, 1, 10, 0, 0, 1, [1371, 121, 1372, 1373]), (12, 2, yX11_init, 0, 0, 15, 20522, 0, [1386, 134, 1387]), (17, 0, yX11_feed, 5, 11, 0, 0, 1, [1488, 134, 1489, 1490]), (22, 0, yX11_land, 1, 11, 0, 0, 1, [1492, 134, 1493, 1494]), (26, 0, yX11_fault, 1, 11, 0, 0, 1, [1601, 134, 1602, 1603]), (31, 0, yX11_cell, 2, 11, 0, 0, 1, [1605, 134, 1606, 1607]), (35, 0, yX11_drum, 2, 11, 0, 0, 1, [1633, 134, 1634, 1635]), (39, 0, yX11_lies, 2, 11, 0, 0, 1, [1649, 134, 1650, 1651]), (43, 0, yX11_traveller, 2, 11, 0, 0, 1, [1653, 134, 1654, 1655]), (47, 0, yX11_takes, 2, 11, 0, 0, 1, [1661, 134, 1662, 1663]), (51, 0, yX11_why, 2, 11, 0, 0, 1, [1678, 134, 1679, 1680]), (56, 0, yX11_lay, 3, 11, 0, 0, 1, [1699, 134, 1700, 1701]), (60, 0, yX11_back, 1, 11, 0, 0, 1, [1715, 134, 1716, 1717]), (64, 0, yX11_takeIn, 1, 11, 0, 0, 1, [1727, 134, 1728, 1729]), (68, 0, yX11_setOut, 1, 11, 0, 0, 1, [1739, 134, 1740, 1741]), (72, 0, yX11_turn, 1, 11, 0, 0, 1, [1751, 134, 1752, 1753]), (76, 0, yX11_rain, 1, 11, 0, 0, 1, [1755, 134, 1756, 1757]), (80, 0, yX11_hours, 1, 11, 0, 0, 1, [1760, 134, 1761, 1762]), (84, 0, yX11_undo, 1, 11, 0, 0, 1, [1773, 134, 1774, 1775]), (88, 0, yX11_judge, 2, 11, 0, 0, 1, [1778, 134, 1779, 1780]), (92, 0, yX11_perform, 1, 11, 0, 0, 1, [1815, 134, 1816, 1817]), (96, 0, yX11_season, 2, 11, 0, 0, 1, [1819, 134, 1820, 1821]), (101, 0, yX11_reach, 1, 11, 0, 0, 2, [1833, 134, 1834, 1835]), (105, 0, yX11_fewest, 2, 11, 0, 0, 1, [1859, 134, 1860, 1861]), (110, 0, yX11_way, 3, 11, 0, 0, 1, [1863, 134, 1864, 1865]), (114, 0, yX11_ways, 3, 11, 0, 0, 1, [1875, 134, 1876, 1877]), (118, 0, yX11_crossings, 2, 11, 0, 0, 1, [1887, 134, 1888, 1889]), (123, 0, yX11_needed, 2, 11, 0, 0, 2, [1891, 134, 1892, 1893]), (127, 0, yX11_farthest, 1, 11, 0, 0, 1, [1895, 134, 1896, 1897]), (131, 0, yX11_above, 1, 11, 0, 0, 1, [1899, 134, 1900, 1901]), (135, 0, yX11_ahead, 1, 11, 0, 0, 1, [1907, 134, 1908, 1909]), (139, 0, yX11_order, 1, 11, 0, 0, 1, [1911, 134, 1912, 1913]), (144, 0, yX11_stuck, 0, 11, 0, 0, 1, [1926, 134, 1927, 1928]), (148, 0, yX11_twists, 0, 11, 0, 0, 1, [1930, 134, 1931, 1932]), (152, 0, yX11_orders, 0, 11, 0, 0, 1, [1942, 134, 1943, 1944]), (156, 0, yX11_arrives, 1, 11, 0, 0, 1, [1950, 134, 1951, 1952]), (160, 0, yX11_waits, 1, 11, 0, 0, 1, [1958, 134, 1959, 1960]), (164, 0, yX11_allIn, 0, 11, 0, 0, 1, [1962, 134, 1963, 1964]), (168, 0, yX11_free, 1, 11, 0, 0, 1, [1970, 134, 1971, 1972]), (172, 0, yX11_busiest, 0, 11, 0, 0, 1, [1974, 134, 1975, 1976]), (176, 0, yX11_wouldArrive, 1, 11, 0, 0, 1, [1982, 134, 1983, 1984]), (180, 0, yX11_faded, 2, 11, 0, 0, 2, [1986, 134, 1987, 1988]), (184, 0, yX11_manyFaded, 2, 11, 0, 0, 1, [1999, 134, 2000, 2001]), (188, 0, yX11_look, 2, 11, 0, 0, 1, [2006, 134, 2007, 2008]), (192, 0, yX11_numbers, 3, 11, 0, 0, 1, [2010, 134, 2011, 2012]), (199, 0, yX11_write, 3, 11, 0, 0, 2, [2014, 134, 2015, 2016]), (203, 0, yX11_lists, 3, 11, 0, 0, 1, [2022, 134, 2023, 2024]), (207, 0, yX11_image, 1, 11, 0, 0, 1, [2026, 134, 2027, 2028]), (211, 0, yX11_restore, 1, 11, 0, 0, 1, [2030, 134, 2031, 2032]), (215, 0, yX11_count, 1, 11, 0, 0, 1, [2034, 134, 2035, 2036])]
  | 16 => [(335, 5, yJ0_coder_7d493, 0, 0, 0, 0, 1, [595, 135, 596, 597]), (492, 5, yJ0_isLatin1_aae02, 0, 0, 0, 0, 1, [605, 135, 606, 607]), (495, 1, yJ1_charAt_3b067, 2, 0, 0, 0, 1, [609, 136, 610]), (1059, 1, yJ3_checkIndex_8e157, 3, 0, 0, 0, 1, [617, 137, 618]), (498, 1, yJ2_charAt_3b067, 2, 0, 0, 0, 1, [620, 138, 621]), (633, 5, yJ0_indexOf_7cf53, 2, 0, 0, 0, 1, [657, 135, 658, 659]), (505, 5, yJ0_length_8abf5, 0, 0, 0, 0, 1, [661, 135, 592, 593]), (637, 1, yJ1_indexOf_4cfef, 4, 0, 0, 0, 1, [662, 136, 663]), (640, 1, yJ2_indexOf_4cfef, 4, 0, 0, 0, 1, [677, 138, 678]), (1062, 1, yJ3_checkFromToIndex_8c36e, 4, 0, 0, 0, 1, [692, 137, 693])]
  | 17 => [(9, 1, yJ0_checkIndex_df160, 2, 0, 0, 0, 0, [612, 135, 613]), (88, 1, yJ1_canEncode_9a6ad, 1, 0, 0, 0, 1, [665, 136, 666]), (92, 1, yJ9_max_7cf53, 2, 0, 0, 0, 1, [668, 139, 669]), (38, 1, yJ9_min_7cf53, 2, 0, 0, 0, 1, [671, 139, 672]), (95, 1, yJ1_indexOfChar_4cfef, 4, 0, 0, 0, 1, [674, 136, 675])]
  | _ => []
def qcit (o : Nat) : List (Nat × Int × Nat) := match o with
  | 6 => [(187, 1103515245, 1105)]
  | 11 => [(344, 1103515245, 1832), (360, 268435456, 1850)]
  | _ => []
def qclt (o : Nat) : List (Nat × Int × Nat) := match o with
  | 2 => [(28, (-1000000), 916), (30, 1000000, 917)]
  | 6 => [(146, (-1), 1072), (151, 9009, 1074)]
  | 9 => [(144, 4, 1153), (146, 3, 1171), (148, (-1), 1192)]
  | 10 => [(259, (-2), 1110), (289, (-1), 1205), (348, (-6), 1350), (350, (-7), 1351)]
  | 11 => [(201, 1000000, 1676), (203, (-1000000), 1677), (243, 4, 1686), (288, 9, 1759), (293, 48, 1764), (298, 10, 1777), (333, 3, 1782), (300, (-1), 1795), (302, 5999, 1796), (304, 100, 1797), (306, 1000, 1798), (308, 6000, 1799), (310, 6999, 1800), (312, 7000, 1801), (314, 7999, 1802), (316, 8000, 1803), (318, 8999, 1804), (320, 9000, 1805), (322, 9009, 1806), (351, 40, 1823), (378, (-2), 1837), (395, 8, 1879), (428, 6, 1994), (440, (-7), 2018)]
  | 12 => [(193, 4294967295, 2050)]
  | 15 => [(314, 6148914691236517205, 1329), (316, 3689348814741910323, 1330), (318, 1085102592571150095, 1331)]
  | _ => []
/-- classes: (pool entry, class, its fields, rows of the tables) -/
def qnwt (o : Nat) : List (Nat × Nat × Nat × Nat × Nat × Nat) := match o with
  | 0 => [(7, 1, 12, 477, 157, 123), (16, 6, 12, 479, 291, 126)]
  | 1 => [(28, 2, 3, 162, 163, 124)]
  | 3 => [(9, 6, 12, 354, 291, 126)]
  | 5 => [(15, 1, 12, 156, 157, 123), (22, 7, 4, 244, 245, 125)]
  | 10 => [(13, 5, 7, 150, 151, 122), (20, 1, 12, 288, 157, 123), (27, 6, 12, 290, 291, 126), (37, 3, 3, 348, 349, 127), (44, 8, 3, 368, 455, 130), (50, 0, 3, 370, 472, 131), (56, 9, 17, 372, 373, 128), (63, 4, 4, 434, 435, 129)]
  | 12 => [(7, 10, 11, 142, 143, 121), (10, 11, 31, 1384, 1385, 134)]
  | _ => []
def qtf (ci : Nat) : u_T := match ci with
  | 0 => TX0 | 1 => TX1 | 2 => TX2 | 3 => TX3 | 4 => TX4 | 5 => TX5 | 6 => TX6 | 7 => TX7 | 8 => TX8 | 9 => TX9 | 10 => TX10 | _ => TX11
def qnf (ci : Nat) : Nat := match ci with
  | 0 => 3
  | 1 => 12
  | 2 => 3
  | 3 => 3
  | 4 => 4
  | 5 => 7
  | 6 => 12
  | 7 => 4
  | 8 => 3
  | 9 => 17
  | 10 => 11
  | _ => 31
theorem qvw : ∀ ci, ci < 12 → vwCl[ci]? = some (qown ci, qtf ci, qnf ci) := by
  intro ci h
  rcases (show ci = 0 ∨ ci = 1 ∨ ci = 2 ∨ ci = 3 ∨ ci = 4 ∨ ci = 5 ∨ ci = 6 ∨ ci = 7 ∨ ci = 8 ∨ ci = 9 ∨ ci = 10 ∨ ci = 11 by omega) with rfl | rfl | rfl | rfl | rfl | rfl | rfl | rfl | rfl | rfl | rfl | rfl <;> rfl
def qrow (i : Nat) (w : Cond) : Bool := decide (lw_tbl[i]? = some w) && goodWord w
theorem qrow_in {i : Nat} {w : Cond} (h : qrow i w = true) : w ∈ qtbl := by
  rw [qrow, Bool.and_eq_true] at h
  exact qin i (of_decide_eq_true h.1) h.2
def qflc (o : Nat) (e : Nat × Nat × Nat × Nat) : Bool := decide (e.2.1 < 12) && (decide (e.2.2.1 < qnf e.2.1) && qrow e.2.2.2 (Cond.fieldLink (qown o) e.1 (qtf e.2.1 e.2.2.1).1 (qtf e.2.1 e.2.2.1).2.1 (qtf e.2.1 e.2.2.1).2.2.1))
def qmlc (o : Nat) (e : Nat × QME) : Bool := match e with
  | (i, kd, y, na, ci, _, _, _, ps) => qrow (ps.getD 0 0) (Cond.methodLink (qown o) i y) && (match kd with
    | 3 => decide (y = Lib.objectInit)
    | 4 => decide (y = arraycopyName)
    | _ => qrow (ps.getD 1 0) (Cond.initialized y.cls) && (decide (y.cls ≠ "java/lang/invoke/MethodHandle" ∧ y.cls ≠ "java/lang/invoke/VarHandle" ∧ (parseMethodDescriptor y.desc).map (fun d => d.parameters.length) = some na) && (match kd with
      | 0 => qrow (ps.getD 2 0) (Cond.instanceMethod y) && (qrow (ps.getD 3 0) (Cond.selects y.cls y y) && (decide (ci < 12) && decide (qown ci = y.cls)))
      | 1 => qrow (ps.getD 2 0) (Cond.static y)
      | 2 => qrow (ps.getD 2 0) (Cond.instanceMethod y) && decide (y.name = "<init>")
      | 5 => qrow (ps.getD 2 0) (Cond.instanceMethod y) && (qrow (ps.getD 3 0) (Cond.selects y.cls y y) && decide (y.cls = "java/lang/String"))
      | _ => false)))
def qcic (o : Nat) (e : Nat × Int × Nat) : Bool := decide (-2147483648 ≤ e.2.1 ∧ e.2.1 ≤ 2147483647) && qrow e.2.2 (Cond.constant (qown o) e.1 (Int32.ofInt e.2.1))
def qclc (o : Nat) (e : Nat × Int × Nat) : Bool := decide (-9223372036854775808 ≤ e.2.1 ∧ e.2.1 ≤ 9223372036854775807) && qrow e.2.2 (Cond.constantLong (qown o) e.1 (Int64.ofInt e.2.1))
def qnwc (o : Nat) (e : Nat × Nat × Nat × Nat × Nat × Nat) : Bool := decide (e.2.1 < 12) && (decide (e.2.2.1 = qnf e.2.1) && (qrow e.2.2.2.1 (Cond.classLink (qown o) e.1 (qown e.2.1)) && (qrow e.2.2.2.2.1 (Cond.instantiable (qown e.2.1) (qnf e.2.1)) && qrow e.2.2.2.2.2 (Cond.initialized (qown e.2.1)))))
theorem qfl_0 : (qflt 0).all (qflc 0) = true := by decide +kernel
theorem qml_0 : (qmlt 0).all (qmlc 0) = true := by decide +kernel
theorem qci_0 : (qcit 0).all (qcic 0) = true := by decide +kernel
theorem qcl_0 : (qclt 0).all (qclc 0) = true := by decide +kernel
theorem qnw_0 : (qnwt 0).all (qnwc 0) = true := by decide +kernel
theorem qfl_1 : (qflt 1).all (qflc 1) = true := by decide +kernel
theorem qml_1 : (qmlt 1).all (qmlc 1) = true := by decide +kernel
theorem qci_1 : (qcit 1).all (qcic 1) = true := by decide +kernel
theorem qcl_1 : (qclt 1).all (qclc 1) = true := by decide +kernel
theorem qnw_1 : (qnwt 1).all (qnwc 1) = true := by decide +kernel
theorem qfl_2 : (qflt 2).all (qflc 2) = true := by decide +kernel
theorem qml_2 : (qmlt 2).all (qmlc 2) = true := by decide +kernel
theorem qci_2 : (qcit 2).all (qcic 2) = true := by decide +kernel
theorem qcl_2 : (qclt 2).all (qclc 2) = true := by decide +kernel
theorem qnw_2 : (qnwt 2).all (qnwc 2) = true := by decide +kernel
theorem qfl_3 : (qflt 3).all (qflc 3) = true := by decide +kernel
theorem qml_3 : (qmlt 3).all (qmlc 3) = true := by decide +kernel
theorem qci_3 : (qcit 3).all (qcic 3) = true := by decide +kernel
theorem qcl_3 : (qclt 3).all (qclc 3) = true := by decide +kernel
theorem qnw_3 : (qnwt 3).all (qnwc 3) = true := by decide +kernel
theorem qfl_4 : (qflt 4).all (qflc 4) = true := by decide +kernel
theorem qml_4 : (qmlt 4).all (qmlc 4) = true := by decide +kernel
theorem qci_4 : (qcit 4).all (qcic 4) = true := by decide +kernel
theorem qcl_4 : (qclt 4).all (qclc 4) = true := by decide +kernel
theorem qnw_4 : (qnwt 4).all (qnwc 4) = true := by decide +kernel
theorem qfl_5 : (qflt 5).all (qflc 5) = true := by decide +kernel
theorem qml_5 : (qmlt 5).all (qmlc 5) = true := by decide +kernel
theorem qci_5 : (qcit 5).all (qcic 5) = true := by decide +kernel
theorem qcl_5 : (qclt 5).all (qclc 5) = true := by decide +kernel
theorem qnw_5 : (qnwt 5).all (qnwc 5) = true := by decide +kernel
theorem qfl_6 : (qflt 6).all (qflc 6) = true := by decide +kernel
theorem qml_6 : (qmlt 6).all (qmlc 6) = true := by decide +kernel
theorem qci_6 : (qcit 6).all (qcic 6) = true := by decide +kernel
theorem qcl_6 : (qclt 6).all (qclc 6) = true := by decide +kernel
theorem qnw_6 : (qnwt 6).all (qnwc 6) = true := by decide +kernel
theorem qfl_7 : (qflt 7).all (qflc 7) = true := by decide +kernel
theorem qml_7 : (qmlt 7).all (qmlc 7) = true := by decide +kernel
theorem qci_7 : (qcit 7).all (qcic 7) = true := by decide +kernel
theorem qcl_7 : (qclt 7).all (qclc 7) = true := by decide +kernel
theorem qnw_7 : (qnwt 7).all (qnwc 7) = true := by decide +kernel
theorem qfl_8 : (qflt 8).all (qflc 8) = true := by decide +kernel
theorem qml_8 : (qmlt 8).all (qmlc 8) = true := by decide +kernel
theorem qci_8 : (qcit 8).all (qcic 8) = true := by decide +kernel
theorem qcl_8 : (qclt 8).all (qclc 8) = true := by decide +kernel
theorem qnw_8 : (qnwt 8).all (qnwc 8) = true := by decide +kernel
theorem qfl_9 : (qflt 9).all (qflc 9) = true := by decide +kernel
theorem qml_9 : (qmlt 9).all (qmlc 9) = true := by decide +kernel
theorem qci_9 : (qcit 9).all (qcic 9) = true := by decide +kernel
theorem qcl_9 : (qclt 9).all (qclc 9) = true := by decide +kernel
theorem qnw_9 : (qnwt 9).all (qnwc 9) = true := by decide +kernel
theorem qfl_10 : (qflt 10).all (qflc 10) = true := by decide +kernel
theorem qml_10 : (qmlt 10).all (qmlc 10) = true := by decide +kernel
theorem qci_10 : (qcit 10).all (qcic 10) = true := by decide +kernel
theorem qcl_10 : (qclt 10).all (qclc 10) = true := by decide +kernel
theorem qnw_10 : (qnwt 10).all (qnwc 10) = true := by decide +kernel
theorem qfl_11 : (qflt 11).all (qflc 11) = true := by decide +kernel
theorem qml_11 : (qmlt 11).all (qmlc 11) = true := by decide +kernel
theorem qci_11 : (qcit 11).all (qcic 11) = true := by decide +kernel
theorem qcl_11 : (qclt 11).all (qclc 11) = true := by decide +kernel
theorem qnw_11 : (qnwt 11).all (qnwc 11) = true := by decide +kernel
theorem qfl_12 : (qflt 12).all (qflc 12) = true := by decide +kernel
theorem qml_12 : (qmlt 12).all (qmlc 12) = true := by decide +kernel
theorem qci_12 : (qcit 12).all (qcic 12) = true := by decide +kernel
theorem qcl_12 : (qclt 12).all (qclc 12) = true := by decide +kernel
theorem qnw_12 : (qnwt 12).all (qnwc 12) = true := by decide +kernel
theorem qfl_13 : (qflt 13).all (qflc 13) = true := by decide +kernel
theorem qml_13 : (qmlt 13).all (qmlc 13) = true := by decide +kernel
theorem qci_13 : (qcit 13).all (qcic 13) = true := by decide +kernel
theorem qcl_13 : (qclt 13).all (qclc 13) = true := by decide +kernel
theorem qnw_13 : (qnwt 13).all (qnwc 13) = true := by decide +kernel
theorem qfl_14 : (qflt 14).all (qflc 14) = true := by decide +kernel
theorem qml_14 : (qmlt 14).all (qmlc 14) = true := by decide +kernel
theorem qci_14 : (qcit 14).all (qcic 14) = true := by decide +kernel
theorem qcl_14 : (qclt 14).all (qclc 14) = true := by decide +kernel
theorem qnw_14 : (qnwt 14).all (qnwc 14) = true := by decide +kernel
theorem qfl_15 : (qflt 15).all (qflc 15) = true := by decide +kernel
theorem qml_15 : (qmlt 15).all (qmlc 15) = true := by decide +kernel
theorem qci_15 : (qcit 15).all (qcic 15) = true := by decide +kernel
theorem qcl_15 : (qclt 15).all (qclc 15) = true := by decide +kernel
theorem qnw_15 : (qnwt 15).all (qnwc 15) = true := by decide +kernel
theorem qfl_16 : (qflt 16).all (qflc 16) = true := by decide +kernel
theorem qml_16 : (qmlt 16).all (qmlc 16) = true := by decide +kernel
theorem qci_16 : (qcit 16).all (qcic 16) = true := by decide +kernel
theorem qcl_16 : (qclt 16).all (qclc 16) = true := by decide +kernel
theorem qnw_16 : (qnwt 16).all (qnwc 16) = true := by decide +kernel
theorem qfl_17 : (qflt 17).all (qflc 17) = true := by decide +kernel
theorem qml_17 : (qmlt 17).all (qmlc 17) = true := by decide +kernel
theorem qci_17 : (qcit 17).all (qcic 17) = true := by decide +kernel
theorem qcl_17 : (qclt 17).all (qclc 17) = true := by decide +kernel
theorem qnw_17 : (qnwt 17).all (qnwc 17) = true := by decide +kernel
theorem qfl_18 : (qflt 18).all (qflc 18) = true := by decide +kernel
theorem qml_18 : (qmlt 18).all (qmlc 18) = true := by decide +kernel
theorem qci_18 : (qcit 18).all (qcic 18) = true := by decide +kernel
theorem qcl_18 : (qclt 18).all (qclc 18) = true := by decide +kernel
theorem qnw_18 : (qnwt 18).all (qnwc 18) = true := by decide +kernel
theorem qfl_all : ∀ o, (qflt o).all (qflc o) = true := by
  intro o
  match o with
  | 0 => exact qfl_0
  | 1 => exact qfl_1
  | 2 => exact qfl_2
  | 3 => exact qfl_3
  | 4 => exact qfl_4
  | 5 => exact qfl_5
  | 6 => exact qfl_6
  | 7 => exact qfl_7
  | 8 => exact qfl_8
  | 9 => exact qfl_9
  | 10 => exact qfl_10
  | 11 => exact qfl_11
  | 12 => exact qfl_12
  | 13 => exact qfl_13
  | 14 => exact qfl_14
  | 15 => exact qfl_15
  | 16 => exact qfl_16
  | 17 => exact qfl_17
  | 18 => exact qfl_18
  | o + 19 => rfl
theorem qml_all : ∀ o, (qmlt o).all (qmlc o) = true := by
  intro o
  match o with
  | 0 => exact qml_0
  | 1 => exact qml_1
  | 2 => exact qml_2
  | 3 => exact qml_3
  | 4 => exact qml_4
  | 5 => exact qml_5
  | 6 => exact qml_6
  | 7 => exact qml_7
  | 8 => exact qml_8
  | 9 => exact qml_9
  | 10 => exact qml_10
  | 11 => exact qml_11
  | 12 => exact qml_12
  | 13 => exact qml_13
  | 14 => exact qml_14
  | 15 => exact qml_15
  | 16 => exact qml_16
  | 17 => exact qml_17
  | 18 => exact qml_18
  | o + 19 => rfl
theorem qci_all : ∀ o, (qcit o).all (qcic o) = true := by
  intro o
  match o with
  | 0 => exact qci_0
  | 1 => exact qci_1
  | 2 => exact qci_2
  | 3 => exact qci_3
  | 4 => exact qci_4
  | 5 => exact qci_5
  | 6 => exact qci_6
  | 7 => exact qci_7
  | 8 => exact qci_8
  | 9 => exact qci_9
  | 10 => exact qci_10
  | 11 => exact qci_11
  | 12 => exact qci_12
  | 13 => exact qci_13
  | 14 => exact qci_14
  | 15 => exact qci_15
  | 16 => exact qci_16
  | 17 => exact qci_17
  | 18 => exact qci_18
  | o + 19 => rfl
theorem qcl_all : ∀ o, (qclt o).all (qclc o) = true := by
  intro o
  match o with
  | 0 => exact qcl_0
  | 1 => exact qcl_1
  | 2 => exact qcl_2
  | 3 => exact qcl_3
  | 4 => exact qcl_4
  | 5 => exact qcl_5
  | 6 => exact qcl_6
  | 7 => exact qcl_7
  | 8 => exact qcl_8
  | 9 => exact qcl_9
  | 10 => exact qcl_10
  | 11 => exact qcl_11
  | 12 => exact qcl_12
  | 13 => exact qcl_13
  | 14 => exact qcl_14
  | 15 => exact qcl_15
  | 16 => exact qcl_16
  | 17 => exact qcl_17
  | 18 => exact qcl_18
  | o + 19 => rfl
theorem qnw_all : ∀ o, (qnwt o).all (qnwc o) = true := by
  intro o
  match o with
  | 0 => exact qnw_0
  | 1 => exact qnw_1
  | 2 => exact qnw_2
  | 3 => exact qnw_3
  | 4 => exact qnw_4
  | 5 => exact qnw_5
  | 6 => exact qnw_6
  | 7 => exact qnw_7
  | 8 => exact qnw_8
  | 9 => exact qnw_9
  | 10 => exact qnw_10
  | 11 => exact qnw_11
  | 12 => exact qnw_12
  | 13 => exact qnw_13
  | 14 => exact qnw_14
  | 15 => exact qnw_15
  | 16 => exact qnw_16
  | 17 => exact qnw_17
  | 18 => exact qnw_18
  | o + 19 => rfl
theorem qobj : Cond.instanceMethod Lib.objectInit ∈ qtbl ∧ Cond.code Lib.objectInit ⟨#[0xb1]⟩ 1 none ∈ qtbl := ⟨qin 148 (by decide +kernel) (by decide +kernel), qin 149 (by decide +kernel) (by decide +kernel)⟩
theorem qacp : Cond.native arraycopyName ∈ qtbl ∧ Cond.static arraycopyName ∈ qtbl ∧ Cond.initialized "java/lang/System" ∈ qtbl := ⟨qin 502 (by decide +kernel) (by decide +kernel), qin 501 (by decide +kernel) (by decide +kernel), qin 133 (by decide +kernel) (by decide +kernel)⟩
theorem qarc_100 : Cond.arrayClass (qty 100) ∈ qtbl := qin 179 (by decide +kernel) (by decide +kernel)
theorem qarc_101 : Cond.arrayClass (qty 101) ∈ qtbl := qin 433 (by decide +kernel) (by decide +kernel)
theorem qarc_102 : Cond.arrayClass (qty 102) ∈ qtbl := qin 178 (by decide +kernel) (by decide +kernel)
theorem qarc_103 : Cond.arrayClass (qty 103) ∈ qtbl := qin 1487 (by decide +kernel) (by decide +kernel)
def qslk (o : Nat) : List (Nat × String × Nat) := match o with
  | 7 => [(54, "land", 0), (60, "rock", 1), (62, "drum", 2), (64, "yards", 3), (66, "takes", 4), (68, "may", 5), (70, "wet", 6), (72, "hour", 7), (74, "x", 8), (76, "y", 9), (78, "lies", 10), (80, "or", 11), (82, "and", 12), (84, "not", 13), (39, ";:+-*()[]=<>", 14)]
  | 11 => [(77, " land rock drum yards takes may wet hour x y lies and or not ", 15), (115, ";:+-*()[]=<>", 14)]
  | _ => []
theorem qslk_7 : ∀ e ∈ qslk 7, (7, e.1, e.2.1, e.2.2) ∈ qsl := by decide +kernel
theorem qslk_11 : ∀ e ∈ qslk 11, (11, e.1, e.2.1, e.2.2) ∈ qsl := by decide +kernel
theorem qslk_ok (o : Nat) (e : Nat × String × Nat) (h : e ∈ qslk o) : (o, e.1, e.2.1, e.2.2) ∈ qsl := by
  by_cases h7 : o = 7
  · subst h7; exact qslk_7 e h
  · by_cases h11 : o = 11
    · subst h11; exact qslk_11 e h
    · have : qslk o = [] := by
        unfold qslk
        split <;> first | contradiction | rfl
      rw [this] at h
      cases h
theorem qsf9 : Cond.fieldLink RJ0 9 "java/lang/String" "value" "[B" ∈ qtbl := qin 2051 (by decide +kernel) (by decide +kernel)
theorem qsf15 : Cond.fieldLink RJ0 15 "java/lang/String" "coder" "B" ∈ qtbl := qin 2052 (by decide +kernel) (by decide +kernel)
theorem qsf38 : Cond.fieldLink RJ0 38 "java/lang/String" "COMPACT_STRINGS" "Z" ∈ qtbl := qin 599 (by decide +kernel) (by decide +kernel)
theorem qsf1053 : Cond.fieldLink RJ0 1053 "jdk/internal/util/Preconditions" "SIOOBE_FORMATTER" "Ljava/util/function/BiFunction;" ∈ qtbl := qin 615 (by decide +kernel) (by decide +kernel)
end
section
def qget (l : List QIns) (pc : Nat) : Option (Instr × Nat) := qfnd l pc
def qtgt (pc : Nat) (off : Int) : Nat := ((pc : Int) + off).toNat
def qp1 (t : Nat) (st : List QV) (f : Int → List QV → Prop) : Prop := match st with
  | v :: r => bif v.1 == t then f v.2 r else False
  | _ => False
def qp2 (t1 t2 : Nat) (st : List QV) (f : Int → Int → List QV → Prop) : Prop := match st with
  | v :: w :: r => bif v.1 == t1 && w.1 == t2 then f v.2 w.2 r else False
  | _ => False
def qp3 (t1 t2 t3 : Nat) (st : List QV) (f : Int → Int → Int → List QV → Prop) : Prop := match st with
  | v :: w :: u :: r => bif v.1 == t1 && (w.1 == t2 && u.1 == t3) then f v.2 w.2 u.2 r else False
  | _ => False
def qpl (lv : List (Nat × QV)) (i t : Nat) (f : Int → Prop) : Prop := match qlook lv i with
  | some v => bif v.1 == t then f v.2 else False
  | none => False
theorem qp1_of {t : Nat} {st : List QV} {f : Int → List QV → Prop} (h : qp1 t st f) : ∃ x r, st = (t, x) :: r ∧ f x r := by
  unfold qp1 at h
  split at h
  · rename_i v r
    by_cases e : v.1 = t
    · rw [show (v.1 == t) = true by simpa using e] at h
      exact ⟨v.2, r, by rw [← e], h⟩
    · rw [show (v.1 == t) = false by simpa using e] at h
      exact h.elim
  · exact h.elim
theorem qp2_of {t1 t2 : Nat} {st : List QV} {f : Int → Int → List QV → Prop} (h : qp2 t1 t2 st f) : ∃ x y r, st = (t1, x) :: (t2, y) :: r ∧ f x y r := by
  unfold qp2 at h
  split at h
  · rename_i v w r
    by_cases e : v.1 = t1 ∧ w.1 = t2
    · rw [show (v.1 == t1 && w.1 == t2) = true by simpa using e] at h
      exact ⟨v.2, w.2, r, by rw [← e.1, ← e.2], h⟩
    · rw [show (v.1 == t1 && w.1 == t2) = false by simpa using e] at h
      exact h.elim
  · exact h.elim
theorem qp3_of {t1 t2 t3 : Nat} {st : List QV} {f : Int → Int → Int → List QV → Prop} (h : qp3 t1 t2 t3 st f) : ∃ x y z r, st = (t1, x) :: (t2, y) :: (t3, z) :: r ∧ f x y z r := by
  unfold qp3 at h
  split at h
  · rename_i v w u r
    by_cases e : v.1 = t1 ∧ w.1 = t2 ∧ u.1 = t3
    · rw [show (v.1 == t1 && (w.1 == t2 && u.1 == t3)) = true by simpa using e] at h
      exact ⟨v.2, w.2, u.2, r, by rw [← e.1, ← e.2.1, ← e.2.2], h⟩
    · rw [show (v.1 == t1 && (w.1 == t2 && u.1 == t3)) = false by simpa using e] at h
      exact h.elim
  · exact h.elim
theorem qpl_of {lv : List (Nat × QV)} {i t : Nat} {f : Int → Prop} (h : qpl lv i t f) : ∃ x, qlook lv i = some (t, x) ∧ f x := by
  unfold qpl at h
  split at h
  · rename_i v hv
    by_cases e : v.1 = t
    · rw [show (v.1 == t) = true by simpa using e] at h
      exact ⟨v.2, by rw [hv, ← e], h⟩
    · rw [show (v.1 == t) = false by simpa using e] at h
      exact h.elim
  · exact h.elim
theorem qbif {b : Bool} {A : Prop} (h : bif b then A else False) : b = true ∧ A := by
  cases b
  · exact h.elim
  · exact ⟨rfl, h⟩
def qbr (c : ClassFile.Cond) (a b : Int) (T F : Prop) : Prop := match c with
  | .eq => (a = b → T) ∧ (¬ a = b → in32 a ∧ in32 b ∧ F)
  | .ne => (¬ a = b → in32 a ∧ in32 b ∧ T) ∧ (a = b → F)
  | .lt => in32 a ∧ in32 b ∧ (a < b → T) ∧ (¬ a < b → F)
  | .ge => in32 a ∧ in32 b ∧ (b ≤ a → T) ∧ (¬ b ≤ a → F)
  | .gt => in32 a ∧ in32 b ∧ (b < a → T) ∧ (¬ b < a → F)
  | .le => in32 a ∧ in32 b ∧ (a ≤ b → T) ∧ (¬ a ≤ b → F)
def qbrl (c : ClassFile.Cond) (a b : Int) (T F : Prop) : Prop := match c with
  | .eq => (a = b → T) ∧ (¬ a = b → in64 a ∧ in64 b ∧ F)
  | .ne => (¬ a = b → in64 a ∧ in64 b ∧ T) ∧ (a = b → F)
  | .lt => in64 a ∧ in64 b ∧ (a < b → T) ∧ (¬ a < b → F)
  | .ge => in64 a ∧ in64 b ∧ (b ≤ a → T) ∧ (¬ b ≤ a → F)
  | .gt => in64 a ∧ in64 b ∧ (b < a → T) ∧ (¬ b < a → F)
  | .le => in64 a ∧ in64 b ∧ (a ≤ b → T) ∧ (¬ a ≤ b → F)
def qsw (x : Int) (f : Int → Prop) (lo : Int) (offs : List Int) : Prop := match offs with
  | [] => True
  | o :: r => (x = lo → f o) ∧ qsw x f (lo + 1) r
def qswl (x : Int) (f : Int → Prop) (dfl : Prop) (ps : List (Int × Int)) : Prop := match ps with
  | [] => dfl
  | p :: r => (x = p.1 → f p.2) ∧ (¬ x = p.1 → qswl x f dfl r)
def qtake (n : Nat) (st : List QV) : Option (List QV × List QV) := match n, st with
  | 0, st => some ([], st)
  | _ + 1, [] => none
  | n + 1, v :: st => match qtake n st with
    | some (as, r) => some (as ++ [v], r)
    | none => none
theorem qtake_of : ∀ {n : Nat} {st as r : List QV}, qtake n st = some (as, r) → st = as.reverse ++ r ∧ as.length = n := by
  intro n
  induction n with
  | zero => intro st as r h; rw [qtake] at h; cases h; exact ⟨rfl, rfl⟩
  | succ n ih =>
    intro st as r h
    cases st with
    | nil => rw [qtake] at h; cases h
    | cons v st =>
      rw [qtake] at h
      split at h
      · rename_i as' r' he
        cases h
        obtain ⟨e1, e2⟩ := ih he
        exact ⟨by rw [e1]; simp, by simp [e2]⟩
      · cases h
def qwn (l : List QV) : Nat := match l with
  | [] => 0
  | v :: r => (bif v.1 == 1 then 2 else 1) + qwn r
theorem qwn_eq (l : List QV) : qwn l = qwt l := by
  induction l with
  | nil => rfl
  | cons v r ih =>
    rw [qwn, ih]
    show _ = (List.map (fun v : QV => if v.1 = 1 then 2 else 1) (v :: r)).sum
    rw [List.map_cons, List.sum_cons]
    congr 1
    by_cases e : v.1 = 1
    · simp [e]
    · rw [show (v.1 == 1) = false by simpa using e, if_neg e]; rfl
def qfitc (t : FieldType) (x : Int) (A : Prop) : Prop := match t with
  | .boolean => (x = 0 ∨ x = 1) ∧ A
  | .int => A | .long => A | .object _ => A | .array _ => A
  | _ => False
theorem qfitc_of {t : FieldType} {x : Int} {A : Prop} (h : qfitc t x A) : qfit t x ∧ A := by
  cases t <;> first | exact ⟨trivial, h⟩ | exact h | exact h.elim
def qpok (m : QMeth) (ci k : Nat) : Bool := !(qtf ci k).2.2.2 || (decide ((qmy m).name = "<init>") && decide ((qtf ci k).1 = qown (qmo m)))
theorem QC.mono {X : QX} {d mc ms rk : Nat} {y : MethodName} {as : List QV} {h : QH} {post post' : Int → QH → Prop} (H : QC X d mc ms rk y as h post) (hp : ∀ x h', post x h' → post' x h') : QC X d mc ms rk y as h post' := by
  obtain ⟨cc, maxL, ret, h1, h2, h3, h4⟩ := H
  refine ⟨cc, maxL, ret, h1, h2, h3, ?_⟩
  intro p e a1 a2 a3 s m args below b1 b2 b3 b4
  obtain ⟨n, o, c1, c2, c3, ⟨x, h', c4, c5, c6⟩, c7⟩ := h4 p e a1 a2 a3 s m args below b1 b2 b3 b4
  exact ⟨n, o, c1, c2, c3, ⟨x, h', c4, hp _ _ c5, c6⟩, c7⟩
abbrev QGo : Type := Nat × Nat → Nat → List (Nat × QV) → List QV → QH → Prop
def qcallV (X : QX) (dd : Nat) (mx : Nat × Nat) (go : QGo) (cs : Nat × Nat) (pc : Nat) (lv : List (Nat × QV)) (st : List QV) (h : QH) (y : MethodName) (na ci mc ms rk : Nat) : Prop := match qtake na st with
  | some (as, st1) => qp1 2 st1 fun a r => (h.1.2.1 a).1 = ci ∧ (bif Nat.ble (qwn r) 8 && (Nat.ble (cs.1 + mc) mx.1 && Nat.ble (cs.2 + ms) mx.2) then
      QC X dd mc ms rk y ((2, a) :: as) h (fun x h' => go (cs.1 + mc, cs.2 + ms) (pc + 3) lv (qrl rk x ++ r) h') else False)
  | none => False
def qcallS (X : QX) (dd : Nat) (mx : Nat × Nat) (go : QGo) (cs : Nat × Nat) (pc : Nat) (lv : List (Nat × QV)) (st : List QV) (h : QH) (y : MethodName) (na mc ms rk : Nat) : Prop := match qtake na st with
  | some (as, r) => bif Nat.ble (qwn r) 8 && (Nat.ble (cs.1 + mc) mx.1 && Nat.ble (cs.2 + ms) mx.2) then
      QC X dd mc ms rk y as h (fun x h' => go (cs.1 + mc, cs.2 + ms) (pc + 3) lv (qrl rk x ++ r) h') else False
  | none => False
def qcallI (X : QX) (dd : Nat) (mx : Nat × Nat) (go : QGo) (cs : Nat × Nat) (pc : Nat) (lv : List (Nat × QV)) (st : List QV) (h : QH) (y : MethodName) (na mc ms : Nat) : Prop := match qtake na st with
  | some (as, st1) => qp1 2 st1 fun a r => 0 ≤ a ∧ (bif Nat.ble (qwn r) 8 && (Nat.ble (cs.1 + mc) mx.1 && Nat.ble (cs.2 + ms) mx.2) then
      QC X dd mc ms 0 y ((2, a) :: as) h (fun _ h' => go (cs.1 + mc, cs.2 + ms) (pc + 3) lv r h') else False)
  | none => False
def qcallT (X : QX) (dd : Nat) (mx : Nat × Nat) (go : QGo) (cs : Nat × Nat) (pc : Nat) (lv : List (Nat × QV)) (st : List QV) (h : QH) (y : MethodName) (na mc ms rk : Nat) : Prop := match qtake na st with
  | some (as, st1) => qp1 2 st1 fun a r => (-19 < a ∧ a ≤ -3) ∧ (bif Nat.ble (qwn r) 8 && (Nat.ble (cs.1 + mc) mx.1 && Nat.ble (cs.2 + ms) mx.2) then
      QC X dd mc ms rk y ((2, a) :: as) h (fun x h' => go (cs.1 + mc, cs.2 + ms) (pc + 3) lv (qrl rk x ++ r) h') else False)
  | none => False
def qcallO (go : QGo) (cs : Nat × Nat) (pc : Nat) (lv : List (Nat × QV)) (st : List QV) (h : QH) : Prop := qp1 2 st fun a r => 0 ≤ a ∧ (bif Nat.ble (qwn r) 8 then go cs (pc + 3) lv r h else False)
def qcallA (go : QGo) (cs : Nat × Nat) (pc : Nat) (lv : List (Nat × QV)) (st : List QV) (h : QH) : Prop := qp3 0 0 2 st fun n dp a r1 => qp2 0 2 r1 fun sp b r => (h.1.2.1 a).1 = 100 ∧ (h.1.2.1 b).1 = 100 ∧ 0 ≤ sp ∧ 0 ≤ dp ∧ 0 ≤ n ∧ sp + n ≤ (h.1.2.1 b).2 ∧ dp + n ≤ (h.1.2.1 a).2 ∧ (bif Nat.ble (qwn r) 8 then go cs (pc + 3) lv r (h.1, qcpy h.2 b a sp dp n) else False)
/-- a call -/
def qcall (X : QX) (d : Nat) (mx : Nat × Nat) (go : QGo) (cs : Nat × Nat) (pc : Nat) (lv : List (Nat × QV)) (st : List QV) (h : QH) (kd : Nat) (E : QME) : Prop := match d with
  | 0 => False
  | dd + 1 => bif kd == E.1 then (match E.1 with
    | 0 => qcallV X dd mx go cs pc lv st h E.2.1 E.2.2.1 E.2.2.2.1 E.2.2.2.2.1 E.2.2.2.2.2.1 E.2.2.2.2.2.2.1
    | 1 => qcallS X dd mx go cs pc lv st h E.2.1 E.2.2.1 E.2.2.2.2.1 E.2.2.2.2.2.1 E.2.2.2.2.2.2.1
    | 2 => qcallI X dd mx go cs pc lv st h E.2.1 E.2.2.1 E.2.2.2.2.1 E.2.2.2.2.2.1
    | 3 => qcallO go cs pc lv st h
    | 4 => qcallA go cs pc lv st h
    | 5 => qcallT X dd mx go cs pc lv st h E.2.1 E.2.2.1 E.2.2.2.2.1 E.2.2.2.2.2.1 E.2.2.2.2.2.2.1
    | _ => False) else False
/-- a call's kind may stand behind the instruction -/
def qkdOf (ins kd : Nat) : Nat := match ins with
  | 0 => bif kd == 5 then 5 else 0
  | 1 => bif kd == 4 then 4 else 1
  | _ => bif kd == 3 then 3 else 2
def qrak (ci : Nat) : Nat := match ci with
  | 6 => 104 | 8 => 105 | 0 => 106 | _ => 0
theorem qrak_of {ci : Nat} (h : 100 ≤ qrak ci) : (qrak ci = 104 ∧ qown ci = RX6) ∨ (qrak ci = 105 ∧ qown ci = RX8) ∨ (qrak ci = 106 ∧ qown ci = RX0) := by
  unfold qrak at h ⊢
  split at h
  · exact Or.inl ⟨rfl, rfl⟩
  · exact Or.inr (Or.inl ⟨rfl, rfl⟩)
  · exact Or.inr (Or.inr ⟨rfl, rfl⟩)
  · omega
theorem qarc (t : ArrayType) (h : 100 ≤ qak t) : Cond.arrayClass (qty (qak t)) ∈ qtbl := by
  cases t <;> first | exact qarc_100 | exact qarc_101 | exact qarc_102 | exact qarc_103 | exact absurd h (by decide)
theorem qnfd : ∀ ci, ci < 12 → ∀ k, k < qnf ci → qtyf ci k ≠ .float ∧ qtyf ci k ≠ .double := by decide +kernel
def qlen (m : QMeth) (pc : Nat) (ins : Instr) (len : Nat) : Bool := match ins with
  | .iadd => len == 1 && true
  | .isub => len == 1 && true
  | .imul => len == 1 && true
  | .iand => len == 1 && true
  | .ior => len == 1 && true
  | .ixor => len == 1 && true
  | .ishl => len == 1 && true
  | .ishr => len == 1 && true
  | .iushr => len == 1 && true
  | .ladd => len == 1 && true
  | .lsub => len == 1 && true
  | .lmul => len == 1 && true
  | .land => len == 1 && true
  | .lor => len == 1 && true
  | .lxor => len == 1 && true
  | .lshl => len == 1 && true
  | .lshr => len == 1 && true
  | .lushr => len == 1 && true
  | .idiv => len == 1 && true
  | .irem => len == 1 && true
  | .ldiv => len == 1 && true
  | .lrem => len == 1 && true
  | .i2l => len == 1 && true
  | .l2i => len == 1 && true
  | .i2b => len == 1 && true
  | .i2s => len == 1 && true
  | .i2c => len == 1 && true
  | .iconst n => len == 1 && true
  | .bipush n => len == 2 && decide (-128 ≤ n ∧ n ≤ 127)
  | .sipush n => len == 3 && decide (-32768 ≤ n ∧ n ≤ 32767)
  | .lconst n => len == 1 && true
  | .ldc i => len == 2 && true
  | .ldc_w i => len == 3 && true
  | .ldc2_w i => len == 3 && true
  | .iload i => len == 2 && true
  | .iload_n i => len == 1 && true
  | .lload i => len == 2 && true
  | .lload_n i => len == 1 && true
  | .aload i => len == 2 && true
  | .aload_n i => len == 1 && true
  | .istore i => len == 2 && decide (i < qmL m)
  | .istore_n i => len == 1 && decide (i.val < qmL m)
  | .lstore i => len == 2 && decide (i + 1 < qmL m)
  | .lstore_n i => len == 1 && decide (i.val + 1 < qmL m)
  | .astore i => len == 2 && decide (i < qmL m)
  | .astore_n i => len == 1 && decide (i.val < qmL m)
  | .iinc i n => len == 3 && decide (i < qmL m)
  | .dup => len == 1 && true
  | .dup2 => len == 1 && true
  | .pop => len == 1 && true
  | .pop2 => len == 1 && true
  | .goto off => len == 3 && decide (0 ≤ (pc : Int) + off)
  | .if_icmp c off => len == 3 && decide (0 ≤ (pc : Int) + off)
  | .ifCond c off => len == 3 && decide (0 ≤ (pc : Int) + off)
  | .lcmp => len == 1 && true
  | .tableswitch dflt lo hi offs => (decide (0 ≤ (pc : Int) + dflt) && (decide ((offs.size : Int) = hi - lo + 1) && offs.toList.all (fun of => decide (0 ≤ (pc : Int) + of))))
  | .getfield i => len == 3 && true
  | .getstatic i => len == 3 && true
  | .lookupswitch dflt ps => (decide (0 ≤ (pc : Int) + dflt) && ((ps.toList.zip (ps.toList.drop 1)).all (fun (a, next) => a.1 < next.1) && ps.toList.all (fun of => decide (0 ≤ (pc : Int) + of.2))))
  | .putfield i => len == 3 && true
  | .iaload => len == 1 && true
  | .laload => len == 1 && true
  | .baload => len == 1 && true
  | .aaload => len == 1 && true
  | .iastore => len == 1 && true
  | .lastore => len == 1 && true
  | .bastore => len == 1 && true
  | .aastore => len == 1 && true
  | .arraylength => len == 1 && true
  | .new i => len == 3 && true
  | .newarray t => len == 2 && true
  | .anewarray i => len == 3 && true
  | .invokevirtual i => len == 3 && true
  | .invokestatic i => len == 3 && true
  | .invokespecial i => len == 3 && true
  | .ireturn => len == 1 && true
  | .lreturn => len == 1 && true
  | .return_ => len == 1 && true
  | _ => false
def qmok (m : QMeth) : Prop := ∀ e ∈ qmi m, decode (qmc m) e.1 = .ok e.2 ∧ qlen m e.1 e.2.1 e.2.2 = true
theorem qmok_get {m : QMeth} {pc len : Nat} {ins : Instr} (hm : qmok m) (h : qget (qmi m) pc = some (ins, len)) : decode (qmc m) pc = .ok (ins, len) ∧ qlen m pc ins len = true := by
  obtain ⟨a, b⟩ := hm (pc, ins, len) (qfnd_mem h)
  exact ⟨a, b⟩
theorem qtgt_of {pc : Nat} {off : Int} (h : decide (0 ≤ (pc : Int) + off) = true) : (pc : Int) + off = ((qtgt pc off : Nat) : Int) := by
  have := of_decide_eq_true h
  unfold qtgt
  omega
theorem qsw_at {x : Int} {f : Int → Prop} : ∀ {offs : List Int} {lo off : Int} {j : Nat}, x = lo + j → offs[j]? = some off → qsw x f lo offs → f off := by
  intro offs
  induction offs with
  | nil => intro lo off j _ h; simp at h
  | cons a r ih =>
    intro lo off j hx hj hs
    rw [qsw] at hs
    cases j with
    | zero => simp at hj; subst hj; exact hs.1 (by omega)
    | succ j => exact ih (lo := lo + 1) (j := j) (by omega) (by simpa using hj) hs.2
theorem qswl_at {x dflt : Int} {f : Int → Prop} {dfl : Prop} : ∀ {ps : List (Int × Int)}, qswl x f dfl ps → (Op.lookupswitch.offset ps dflt x = dflt ∧ dfl) ∨ ∃ q, q ∈ ps ∧ Op.lookupswitch.offset ps dflt x = q.2 ∧ f q.2 := by
  intro ps
  induction ps with
  | nil => intro h; exact Or.inl ⟨rfl, h⟩
  | cons a r ih =>
    intro h
    rw [qswl] at h
    rw [Op.lookupswitch.offset_cons]
    by_cases e : x = a.1
    · right
      refine ⟨a, List.mem_cons_self, ?_, h.1 e⟩
      first | rw [if_pos e] | rw [if_pos e.symm]
    · have e2 : ¬ a.1 = x := fun z => e z.symm
      first | rw [if_neg e] | rw [if_neg e2]
      rcases ih (h.2 e) with ⟨h1, h2⟩ | ⟨q, h1, h2, h3⟩
      · exact Or.inl ⟨h1, h2⟩
      · exact Or.inr ⟨q, List.mem_cons_of_mem _ h1, h2, h3⟩
def qstep (X : QX) (d : Nat) (mx : Nat × Nat) (m : QMeth) (post : Int → QH → Prop) (go : QGo) (cs : Nat × Nat) (pc : Nat) (lv : List (Nat × QV)) (st : List QV) (h : QH) : Prop := match qget (qmi m) pc with
  | none => False
  | some (ins, _) => match ins with
    | .iadd => qp2 0 0 st fun b a r => go cs (pc + 1) lv ((0, a + b) :: r) h
    | .isub => qp2 0 0 st fun b a r => go cs (pc + 1) lv ((0, a - b) :: r) h
    | .imul => qp2 0 0 st fun b a r => go cs (pc + 1) lv ((0, a * b) :: r) h
    | .iand => qp2 0 0 st fun b a r => go cs (pc + 1) lv ((0, qand a b) :: r) h
    | .ior => qp2 0 0 st fun b a r => go cs (pc + 1) lv ((0, qor a b) :: r) h
    | .ixor => qp2 0 0 st fun b a r => go cs (pc + 1) lv ((0, qxor a b) :: r) h
    | .ishl => qp2 0 0 st fun b a r => go cs (pc + 1) lv ((0, qshl a b) :: r) h
    | .ishr => qp2 0 0 st fun b a r => go cs (pc + 1) lv ((0, qshr a b) :: r) h
    | .iushr => qp2 0 0 st fun b a r => go cs (pc + 1) lv ((0, qushr a b) :: r) h
    | .ladd => qp2 1 1 st fun b a r => go cs (pc + 1) lv ((1, a + b) :: r) h
    | .lsub => qp2 1 1 st fun b a r => go cs (pc + 1) lv ((1, a - b) :: r) h
    | .lmul => qp2 1 1 st fun b a r => go cs (pc + 1) lv ((1, a * b) :: r) h
    | .land => qp2 1 1 st fun b a r => go cs (pc + 1) lv ((1, qland a b) :: r) h
    | .lor => qp2 1 1 st fun b a r => go cs (pc + 1) lv ((1, qlor a b) :: r) h
    | .lxor => qp2 1 1 st fun b a r => go cs (pc + 1) lv ((1, qlxor a b) :: r) h
    | .lshl => qp2 0 1 st fun b a r => go cs (pc + 1) lv ((1, qlshl a b) :: r) h
    | .lshr => qp2 0 1 st fun b a r => go cs (pc + 1) lv ((1, qlshr a b) :: r) h
    | .lushr => qp2 0 1 st fun b a r => go cs (pc + 1) lv ((1, qlushr a b) :: r) h
    | .idiv => qp2 0 0 st fun b a r => in32 a ∧ in32 b ∧ 0 < b ∧ go cs (pc + 1) lv ((0, a.tdiv b) :: r) h
    | .irem => qp2 0 0 st fun b a r => in32 a ∧ in32 b ∧ 0 < b ∧ go cs (pc + 1) lv ((0, a.tmod b) :: r) h
    | .ldiv => qp2 1 1 st fun b a r => in64 a ∧ in64 b ∧ 0 < b ∧ go cs (pc + 1) lv ((1, a.tdiv b) :: r) h
    | .lrem => qp2 1 1 st fun b a r => in64 a ∧ in64 b ∧ 0 < b ∧ go cs (pc + 1) lv ((1, a.tmod b) :: r) h
    | .i2l => qp1 0 st fun a r => in32 a ∧ go cs (pc + 1) lv ((1, a) :: r) h
    | .l2i => qp1 1 st fun a r => go cs (pc + 1) lv ((0, ql2i a) :: r) h
    | .i2b => qp1 0 st fun a r => go cs (pc + 1) lv ((0, qi2b a) :: r) h
    | .i2s => qp1 0 st fun a r => go cs (pc + 1) lv ((0, qi2s a) :: r) h
    | .i2c => qp1 0 st fun a r => go cs (pc + 1) lv ((0, qi2c a) :: r) h
    | .iconst n => go cs (pc + 1) lv ((0, n) :: st) h
    | .bipush n => go cs (pc + 2) lv ((0, n) :: st) h
    | .sipush n => go cs (pc + 3) lv ((0, n) :: st) h
    | .lconst n => go cs (pc + 1) lv ((1, (n.val : Int)) :: st) h
    | .ldc i => (match qfnd (qcit (qmo m)) i with | some e => go cs (pc + 2) lv ((0, e.1) :: st) h | none => (match qfnd (qslk (qmo m)) i with | some e => go cs (pc + 2) lv ((2, -3 - (e.2 : Int)) :: st) h | none => False))
    | .ldc_w i => (match qfnd (qcit (qmo m)) i with | some e => go cs (pc + 3) lv ((0, e.1) :: st) h | none => False)
    | .ldc2_w i => (match qfnd (qclt (qmo m)) i with | some e => go cs (pc + 3) lv ((1, e.1) :: st) h | none => False)
    | .iload i => qpl lv i 0 fun x => go cs (pc + 2) lv ((0, x) :: st) h
    | .iload_n i => qpl lv i.val 0 fun x => go cs (pc + 1) lv ((0, x) :: st) h
    | .lload i => qpl lv i 1 fun x => go cs (pc + 2) lv ((1, x) :: st) h
    | .lload_n i => qpl lv i.val 1 fun x => go cs (pc + 1) lv ((1, x) :: st) h
    | .aload i => qpl lv i 2 fun x => go cs (pc + 2) lv ((2, x) :: st) h
    | .aload_n i => qpl lv i.val 2 fun x => go cs (pc + 1) lv ((2, x) :: st) h
    | .istore i => qp1 0 st fun x r => go cs (pc + 2) (qset lv i (0, x)) r h
    | .istore_n i => qp1 0 st fun x r => go cs (pc + 1) (qset lv i.val (0, x)) r h
    | .lstore i => qp1 1 st fun x r => go cs (pc + 2) (qsetl lv i (1, x)) r h
    | .lstore_n i => qp1 1 st fun x r => go cs (pc + 1) (qsetl lv i.val (1, x)) r h
    | .astore i => qp1 2 st fun x r => go cs (pc + 2) (qset lv i (2, x)) r h
    | .astore_n i => qp1 2 st fun x r => go cs (pc + 1) (qset lv i.val (2, x)) r h
    | .iinc i n => qpl lv i 0 fun x => go cs (pc + 3) (qset lv i (0, x + n)) st h
    | .dup => (match st with | v :: r => (bif v.1 == 1 then False else go cs (pc + 1) lv (v :: v :: r) h) | _ => False)
    | .dup2 => (match st with | v :: r => (bif v.1 == 1 then go cs (pc + 1) lv (v :: v :: r) h else (match r with | w :: r1 => (bif w.1 == 1 then False else go cs (pc + 1) lv (v :: w :: v :: w :: r1) h) | _ => False)) | _ => False)
    | .pop => (match st with | v :: r => (bif v.1 == 1 then False else go cs (pc + 1) lv r h) | _ => False)
    | .pop2 => qp1 1 st fun _ r => go cs (pc + 1) lv r h
    | .goto off => go cs (qtgt pc off) lv st h
    | .if_icmp c off => qp2 0 0 st fun b a r => qbr c a b (go cs (qtgt pc off) lv r h) (go cs (pc + 3) lv r h)
    | .ifCond c off => qp1 0 st fun a r => qbr c a 0 (go cs (qtgt pc off) lv r h) (go cs (pc + 3) lv r h)
    | .lcmp => qp2 1 1 st fun b a r => (match qget (qmi m) (pc + 1) with | some (.ifCond c off, _) => qbrl c a b (go cs (qtgt (pc + 1) off) lv r h) (go cs (pc + 1 + 3) lv r h) | _ => False)
    | .tableswitch dflt lo hi offs => qp1 0 st fun x r => in32 x ∧ qsw x (fun of => go cs (qtgt pc of) lv r h) lo offs.toList ∧ ((x < lo ∨ hi < x) → go cs (qtgt pc dflt) lv r h)
    | .getfield i => (bif qmo m == 16 then (qp1 2 st fun a r => (-19 < a ∧ a ≤ -3) ∧ (bif i == 9 then go cs (pc + 3) lv ((2, a - 100) :: r) h else bif i == 15 then go cs (pc + 3) lv ((0, 0) :: r) h else False)) else match qfnd (qflt (qmo m)) i with | some e => qp1 2 st fun a r => (h.1.2.1 a).1 = e.1 ∧ go cs (pc + 3) lv ((qfk e.1 e.2.1, qval h (qfk e.1 e.2.1) a e.2.1) :: r) h | none => False)
    | .getstatic i => (bif qmo m == 16 then (bif i == 38 then go cs (pc + 3) lv ((0, 1) :: st) h else bif i == 1053 then go cs (pc + 3) lv ((2, qfm X) :: st) h else False) else False)
    | .lookupswitch dflt ps => qp1 0 st fun x r => in32 x ∧ qswl x (fun of => go cs (qtgt pc of) lv r h) (go cs (qtgt pc dflt) lv r h) ps.toList
    | .putfield i => (match qfnd (qflt (qmo m)) i with | some e => qp2 (qfk e.1 e.2.1) 2 st fun x a r => (h.1.2.1 a).1 = e.1 ∧ qfitc (qtyf e.1 e.2.1) x (bif qpok m e.1 e.2.1 then go cs (pc + 3) lv r (qputf h (qfk e.1 e.2.1) a e.2.1 x) else False) | none => False)
    | .iaload => (bif qmo m == 12 then (qp2 0 2 st fun i a r => a = -2 ∧ 0 ≤ i ∧ i < (qxL X : Int) ∧ go cs (pc + 1) lv ((0, (qxs X i.toNat).toInt) :: r) h) else (qp2 0 2 st fun i a r => (h.1.2.1 a).1 = 100 ∧ 0 ≤ i ∧ i < (h.1.2.1 a).2 ∧ go cs (pc + 1) lv ((0, h.2 a i) :: r) h))
    | .laload => qp2 0 2 st fun i a r => (h.1.2.1 a).1 = 101 ∧ 0 ≤ i ∧ i < (h.1.2.1 a).2 ∧ go cs (pc + 1) lv ((1, h.2 a i) :: r) h
    | .baload => (bif qmo m == 17 then (qp2 0 2 st fun i a r => (-119 < a ∧ a ≤ -103) ∧ 0 ≤ i ∧ i < (qsn.getD (-103 - a).toNat 0 : Int) ∧ go cs (pc + 1) lv ((0, ((qsb.getD (-103 - a).toNat []).getD i.toNat 0).toInt) :: r) h) else bif qmo m == 11 then (qp2 0 2 st fun i a r => (h.1.2.1 a).1 = 103 ∧ 0 ≤ i ∧ i < (h.1.2.1 a).2 ∧ go cs (pc + 1) lv ((0, h.2 a i) :: r) h) else (qp2 0 2 st fun i a r => (h.1.2.1 a).1 = 102 ∧ 0 ≤ i ∧ i < (h.1.2.1 a).2 ∧ go cs (pc + 1) lv ((0, h.2 a i) :: r) h))
    | .aaload => qp2 0 2 st fun i a r => (104 ≤ (h.1.2.1 a).1 ∧ (h.1.2.1 a).1 ≤ 106) ∧ 0 ≤ i ∧ i < (h.1.2.1 a).2 ∧ go cs (pc + 1) lv ((2, h.1.2.2 a i) :: r) h
    | .iastore => qp3 0 0 2 st fun x i a r => (h.1.2.1 a).1 = 100 ∧ 0 ≤ i ∧ i < (h.1.2.1 a).2 ∧ go cs (pc + 1) lv r (h.1, qup h.2 a i x)
    | .lastore => qp3 1 0 2 st fun x i a r => (h.1.2.1 a).1 = 101 ∧ 0 ≤ i ∧ i < (h.1.2.1 a).2 ∧ go cs (pc + 1) lv r (h.1, qup h.2 a i x)
    | .bastore => (bif qmo m == 11 then (qp3 0 0 2 st fun x i a r => (x = 0 ∨ x = 1) ∧ (h.1.2.1 a).1 = 103 ∧ 0 ≤ i ∧ i < (h.1.2.1 a).2 ∧ go cs (pc + 1) lv r (h.1, qup h.2 a i x)) else (qp3 0 0 2 st fun x i a r => (h.1.2.1 a).1 = 102 ∧ 0 ≤ i ∧ i < (h.1.2.1 a).2 ∧ go cs (pc + 1) lv r (h.1, qup h.2 a i (qi2b x))))
    | .aastore => qp3 2 0 2 st fun x i a r => (((h.1.2.1 a).1 = 104 ∧ (h.1.2.1 x).1 = 6) ∨ ((h.1.2.1 a).1 = 105 ∧ (h.1.2.1 x).1 = 8) ∨ ((h.1.2.1 a).1 = 106 ∧ (h.1.2.1 x).1 = 0)) ∧ 0 ≤ i ∧ i < (h.1.2.1 a).2 ∧ go cs (pc + 1) lv r ((h.1.1, h.1.2.1, qup h.1.2.2 a i x), h.2)
    | .arraylength => (bif qmo m == 16 || qmo m == 17 then (qp1 2 st fun a r => (-119 < a ∧ a ≤ -103) ∧ go cs (pc + 1) lv ((0, (qsn.getD (-103 - a).toNat 0 : Int)) :: r) h) else bif qmo m == 12 then (qp1 2 st fun a r => a = -2 ∧ go cs (pc + 1) lv ((0, (qxL X : Int)) :: r) h) else (qp1 2 st fun a r => (100 ≤ (h.1.2.1 a).1 ∧ (h.1.2.1 a).1 ≤ 106) ∧ go cs (pc + 1) lv ((0, (h.1.2.1 a).2) :: r) h))
    | .new i => (match qfnd (qnwt (qmo m)) i with | some e => 0 ≤ h.1.1 ∧ (bif Nat.ble (cs.1 + 1) mx.1 && Nat.ble (cs.2 + e.2.1) mx.2 then go (cs.1 + 1, cs.2 + e.2.1) (pc + 3) lv ((2, h.1.1) :: st) (qnew h e.1 e.2.1) else False) | none => False)
    | .newarray t => qp1 0 st fun n r => 0 ≤ n ∧ n ≤ 100000 ∧ 0 ≤ h.1.1 ∧ (bif Nat.ble 100 (qak t) && (Nat.ble (cs.1 + 1) mx.1 && Nat.ble (cs.2 + n.toNat) mx.2) then go (cs.1 + 1, cs.2 + n.toNat) (pc + 2) lv ((2, h.1.1) :: r) (qnew h (qak t) n) else False)
    | .anewarray i => (match qfnd (qnwt (qmo m)) i with | some e => qp1 0 st fun n r => 0 ≤ n ∧ n ≤ 100000 ∧ 0 ≤ h.1.1 ∧ (bif Nat.ble 100 (qrak e.1) && (Nat.ble (cs.1 + 1) mx.1 && Nat.ble (cs.2 + n.toNat) mx.2) then go (cs.1 + 1, cs.2 + n.toNat) (pc + 3) lv ((2, h.1.1) :: r) (qnew h (qrak e.1) n) else False) | none => False)
    | .invokevirtual i => (match qfnd (qmlt (qmo m)) i with | some E => qcall X d mx go cs pc lv st h (qkdOf 0 E.1) E | none => False)
    | .invokestatic i => (match qfnd (qmlt (qmo m)) i with | some E => qcall X d mx go cs pc lv st h (qkdOf 1 E.1) E | none => False)
    | .invokespecial i => (match qfnd (qmlt (qmo m)) i with | some E => qcall X d mx go cs pc lv st h (qkdOf 2 E.1) E | none => False)
    | .ireturn => qp1 0 st fun x r => (match r with | [] => (bif Nat.ble cs.1 mx.1 && Nat.ble cs.2 mx.2 then (match qmr m with | some .int => post x h | some .boolean => (x = 0 ∨ x = 1) ∧ post x h | some .char => (0 ≤ x ∧ x ≤ 65535) ∧ post x h | some .byte => (-128 ≤ x ∧ x ≤ 127) ∧ post x h | _ => False) else False) | _ => False)
    | .lreturn => qp1 1 st fun x r => (match r with | [] => (bif Nat.ble cs.1 mx.1 && Nat.ble cs.2 mx.2 then (match qmr m with | some .long => post x h | _ => False) else False) | _ => False)
    | .return_ => (match st with | [] => (bif Nat.ble cs.1 mx.1 && Nat.ble cs.2 mx.2 then (match qmr m with | none => post 0 h | _ => False) else False) | _ => False)
    | _ => False
section QSound
variable {X : QX} {d : Nat} {mx : Nat × Nat} {m : QMeth} {post : Int → QH → Prop} {go : QGo}
theorem qcall_invokevirtual {cs : Nat × Nat} {pc i : Nat} {lv : List (Nat × QV)} {st : List QV} {h : QH} {E : QME} (hgo : ∀ cs pc lv st h, go cs pc lv st h → QR X d mx m post cs pc lv st h) (he : qfnd (qmlt (qmo m)) i = some E) (hd : decode (qmc m) pc = .ok (.invokevirtual i, 3)) (hq : qcall X d mx go cs pc lv st h (qkdOf 0 E.1) E) : QR X d mx m post cs pc lv st h := by
  have hc := List.all_eq_true.mp (qml_all (qmo m)) _ (qfnd_mem he)
  obtain ⟨kd, y, na, ci, mc, ms, rk, ps⟩ := E
  unfold qcall at hq
  split at hq
  · exact hq.elim
  · rename_i dd
    obtain ⟨hb, hq⟩ := qbif hq
    have hkd : kd = 5 ∨ kd = 0 := by
      have hb : (qkdOf 0 kd == kd) = true := hb
      by_cases z : kd = 5
      · exact Or.inl z
      · right
        have : (kd == 5) = false := by simpa using z
        simp [qkdOf, this] at hb
        exact hb.symm
    rcases hkd with rfl | rfl
    · simp only [qmlc, Bool.and_eq_true] at hc
      obtain ⟨c1, c2, c3, c4, c5, c6⟩ := hc
      have hq : qcallT X dd mx go cs pc lv st h y na mc ms rk := hq
      unfold qcallT at hq
      split at hq
      · rename_i as st1 ht
        obtain ⟨e1, e2⟩ := qtake_of ht
        obtain ⟨a, r, rfl, h1, hq2⟩ := qp1_of hq
        obtain ⟨hb, hq3⟩ := qbif hq2
        simp only [Bool.and_eq_true] at hb
        rw [e1]
        exact qs_invokestr (dd := dd) (ci := ci) ⟨qrow_in c1, qrow_in c2, of_decide_eq_true c3, (fun z => by cases z), (fun z => by cases z), (fun z => by cases z)⟩ ⟨qrow_in c4, qrow_in c5, of_decide_eq_true c6⟩ rfl e2 h1 (by rw [← qwn_eq]; exact Nat.le_of_ble_eq_true hb.1) ⟨Nat.le_of_ble_eq_true hb.2.1, Nat.le_of_ble_eq_true hb.2.2⟩ hd (hq3.mono (fun x h' hz => hgo _ _ _ _ _ hz))
      · exact hq.elim
    · simp only [qmlc, Bool.and_eq_true] at hc
      obtain ⟨c1, c2, c3, c4, c5, c6, c7⟩ := hc
      have hq : qcallV X dd mx go cs pc lv st h y na ci mc ms rk := hq
      unfold qcallV at hq
      split at hq
      · rename_i as st1 ht
        obtain ⟨e1, e2⟩ := qtake_of ht
        obtain ⟨a, r, rfl, h1, hq2⟩ := qp1_of hq
        obtain ⟨hb, hq3⟩ := qbif hq2
        simp only [Bool.and_eq_true] at hb
        rw [e1]
        exact qs_invokevirtual (dd := dd) ⟨qrow_in c1, qrow_in c2, of_decide_eq_true c3, fun _ => ⟨qrow_in c4, qrow_in c5, _, qvw ci (of_decide_eq_true c6), of_decide_eq_true c7⟩, (fun z => by cases z), (fun z => by cases z)⟩ rfl e2 h1 (by rw [← qwn_eq]; exact Nat.le_of_ble_eq_true hb.1) ⟨Nat.le_of_ble_eq_true hb.2.1, Nat.le_of_ble_eq_true hb.2.2⟩ hd (hq3.mono (fun x h' hz => hgo _ _ _ _ _ hz))
      · exact hq.elim
theorem qcall_invokestatic {cs : Nat × Nat} {pc i : Nat} {lv : List (Nat × QV)} {st : List QV} {h : QH} {E : QME} (hgo : ∀ cs pc lv st h, go cs pc lv st h → QR X d mx m post cs pc lv st h) (he : qfnd (qmlt (qmo m)) i = some E) (hd : decode (qmc m) pc = .ok (.invokestatic i, 3)) (hq : qcall X d mx go cs pc lv st h (qkdOf 1 E.1) E) : QR X d mx m post cs pc lv st h := by
  have hc := List.all_eq_true.mp (qml_all (qmo m)) _ (qfnd_mem he)
  obtain ⟨kd, y, na, ci, mc, ms, rk, ps⟩ := E
  unfold qcall at hq
  split at hq
  · exact hq.elim
  · rename_i dd
    obtain ⟨hb, hq⟩ := qbif hq
    have hkd : kd = 4 ∨ kd = 1 := by
      have hb : (qkdOf 1 kd == kd) = true := hb
      by_cases z : kd = 4
      · exact Or.inl z
      · right
        have : (kd == 4) = false := by simpa using z
        simp [qkdOf, this] at hb
        exact hb.symm
    rcases hkd with rfl | rfl
    · simp only [qmlc, Bool.and_eq_true] at hc
      obtain ⟨c1, c2⟩ := hc
      have c2 := of_decide_eq_true c2
      subst c2
      have hq : qcallA go cs pc lv st h := hq
      unfold qcallA at hq
      obtain ⟨n, dp, a, r1, rfl, hq2⟩ := qp3_of hq
      obtain ⟨sp, b, r, rfl, h1, h2, h3, h4, h5, h6, h7, hq3⟩ := qp2_of hq2
      obtain ⟨hb, hq4⟩ := qbif hq3
      exact qs_arraycopy (qrow_in c1) qacp.1 qacp.2.1 qacp.2.2 h1 h2 h3 h4 h5 h6 h7 (by omega) (by rw [← qwn_eq]; exact Nat.le_of_ble_eq_true hb) hd (hgo _ _ _ _ _ hq4)
    · simp only [qmlc, Bool.and_eq_true] at hc
      obtain ⟨c1, c2, c3, c4⟩ := hc
      have hq : qcallS X dd mx go cs pc lv st h y na mc ms rk := hq
      unfold qcallS at hq
      split at hq
      · rename_i as r ht
        obtain ⟨e1, e2⟩ := qtake_of ht
        obtain ⟨hb, hq⟩ := qbif hq
        simp only [Bool.and_eq_true] at hb
        rw [e1]
        exact qs_invokestatic (dd := dd) (ci := ci) ⟨qrow_in c1, qrow_in c2, of_decide_eq_true c3, (fun z => by cases z), fun _ => qrow_in c4, (fun z => by cases z)⟩ rfl e2 (by rw [← qwn_eq]; exact Nat.le_of_ble_eq_true hb.1) ⟨Nat.le_of_ble_eq_true hb.2.1, Nat.le_of_ble_eq_true hb.2.2⟩ hd (hq.mono (fun x h' hz => hgo _ _ _ _ _ hz))
      · exact hq.elim
theorem qcall_invokespecial {cs : Nat × Nat} {pc i : Nat} {lv : List (Nat × QV)} {st : List QV} {h : QH} {E : QME} (hgo : ∀ cs pc lv st h, go cs pc lv st h → QR X d mx m post cs pc lv st h) (he : qfnd (qmlt (qmo m)) i = some E) (hd : decode (qmc m) pc = .ok (.invokespecial i, 3)) (hq : qcall X d mx go cs pc lv st h (qkdOf 2 E.1) E) : QR X d mx m post cs pc lv st h := by
  have hc := List.all_eq_true.mp (qml_all (qmo m)) _ (qfnd_mem he)
  obtain ⟨kd, y, na, ci, mc, ms, rk, ps⟩ := E
  unfold qcall at hq
  split at hq
  · exact hq.elim
  · rename_i dd
    obtain ⟨hb, hq⟩ := qbif hq
    have hkd : kd = 3 ∨ kd = 2 := by
      have hb : (qkdOf 2 kd == kd) = true := hb
      by_cases z : kd = 3
      · exact Or.inl z
      · right
        have : (kd == 3) = false := by simpa using z
        simp [qkdOf, this] at hb
        exact hb.symm
    rcases hkd with rfl | rfl
    · simp only [qmlc, Bool.and_eq_true] at hc
      obtain ⟨c1, c2⟩ := hc
      have c2 := of_decide_eq_true c2
      subst c2
      have hq : qcallO go cs pc lv st h := hq
      unfold qcallO at hq
      obtain ⟨a, r, rfl, h1, hq2⟩ := qp1_of hq
      obtain ⟨hb, hq3⟩ := qbif hq2
      exact qs_objinit (qrow_in c1) qobj.1 qobj.2 (by omega) h1 (by rw [← qwn_eq]; exact Nat.le_of_ble_eq_true hb) hd (hgo _ _ _ _ _ hq3)
    · simp only [qmlc, Bool.and_eq_true] at hc
      obtain ⟨c1, c2, c3, c4, c5⟩ := hc
      have hq : qcallI X dd mx go cs pc lv st h y na mc ms := hq
      unfold qcallI at hq
      split at hq
      · rename_i as st1 ht
        obtain ⟨e1, e2⟩ := qtake_of ht
        obtain ⟨a, r, rfl, h1, hq2⟩ := qp1_of hq
        obtain ⟨hb, hq3⟩ := qbif hq2
        simp only [Bool.and_eq_true] at hb
        rw [e1]
        exact qs_invokeinit (dd := dd) (ci := ci) ⟨qrow_in c1, qrow_in c2, of_decide_eq_true c3, (fun z => by cases z), (fun z => by cases z), fun _ => ⟨of_decide_eq_true c5, qrow_in c4⟩⟩ rfl e2 h1 (by rw [← qwn_eq]; exact Nat.le_of_ble_eq_true hb.1) ⟨Nat.le_of_ble_eq_true hb.2.1, Nat.le_of_ble_eq_true hb.2.2⟩ hd (hq3.mono (fun x h' hz => hgo _ _ _ _ _ hz))
      · exact hq.elim
set_option maxHeartbeats 4000000 in
theorem qstep_ok (hm : qmok m) (hgo : ∀ cs pc lv st h, go cs pc lv st h → QR X d mx m post cs pc lv st h) {cs : Nat × Nat} {pc : Nat} {lv : List (Nat × QV)} {st : List QV} {h : QH} (hq : qstep X d mx m post go cs pc lv st h) : QR X d mx m post cs pc lv st h := by
  unfold qstep at hq
  split at hq
  · exact hq.elim
  rename_i ins len hg
  obtain ⟨hd, hk⟩ := qmok_get hm hg
  split at hq
  · skip
    rw [qlen, Bool.and_eq_true] at hk
    obtain ⟨hk0, hk⟩ := hk
    rw [show len = 1 by simpa using hk0] at hd
    obtain ⟨b, a, r, rfl, hq'⟩ := qp2_of hq; exact qs_iadd hd (hgo _ _ _ _ _ hq')
  · skip
    rw [qlen, Bool.and_eq_true] at hk
    obtain ⟨hk0, hk⟩ := hk
    rw [show len = 1 by simpa using hk0] at hd
    obtain ⟨b, a, r, rfl, hq'⟩ := qp2_of hq; exact qs_isub hd (hgo _ _ _ _ _ hq')
  · skip
    rw [qlen, Bool.and_eq_true] at hk
    obtain ⟨hk0, hk⟩ := hk
    rw [show len = 1 by simpa using hk0] at hd
    obtain ⟨b, a, r, rfl, hq'⟩ := qp2_of hq; exact qs_imul hd (hgo _ _ _ _ _ hq')
  · skip
    rw [qlen, Bool.and_eq_true] at hk
    obtain ⟨hk0, hk⟩ := hk
    rw [show len = 1 by simpa using hk0] at hd
    obtain ⟨b, a, r, rfl, hq'⟩ := qp2_of hq; exact qs_iand hd (hgo _ _ _ _ _ hq')
  · skip
    rw [qlen, Bool.and_eq_true] at hk
    obtain ⟨hk0, hk⟩ := hk
    rw [show len = 1 by simpa using hk0] at hd
    obtain ⟨b, a, r, rfl, hq'⟩ := qp2_of hq; exact qs_ior hd (hgo _ _ _ _ _ hq')
  · skip
    rw [qlen, Bool.and_eq_true] at hk
    obtain ⟨hk0, hk⟩ := hk
    rw [show len = 1 by simpa using hk0] at hd
    obtain ⟨b, a, r, rfl, hq'⟩ := qp2_of hq; exact qs_ixor hd (hgo _ _ _ _ _ hq')
  · skip
    rw [qlen, Bool.and_eq_true] at hk
    obtain ⟨hk0, hk⟩ := hk
    rw [show len = 1 by simpa using hk0] at hd
    obtain ⟨b, a, r, rfl, hq'⟩ := qp2_of hq; exact qs_ishl hd (hgo _ _ _ _ _ hq')
  · skip
    rw [qlen, Bool.and_eq_true] at hk
    obtain ⟨hk0, hk⟩ := hk
    rw [show len = 1 by simpa using hk0] at hd
    obtain ⟨b, a, r, rfl, hq'⟩ := qp2_of hq; exact qs_ishr hd (hgo _ _ _ _ _ hq')
  · skip
    rw [qlen, Bool.and_eq_true] at hk
    obtain ⟨hk0, hk⟩ := hk
    rw [show len = 1 by simpa using hk0] at hd
    obtain ⟨b, a, r, rfl, hq'⟩ := qp2_of hq; exact qs_iushr hd (hgo _ _ _ _ _ hq')
  · skip
    rw [qlen, Bool.and_eq_true] at hk
    obtain ⟨hk0, hk⟩ := hk
    rw [show len = 1 by simpa using hk0] at hd
    obtain ⟨b, a, r, rfl, hq'⟩ := qp2_of hq; exact qs_ladd hd (hgo _ _ _ _ _ hq')
  · skip
    rw [qlen, Bool.and_eq_true] at hk
    obtain ⟨hk0, hk⟩ := hk
    rw [show len = 1 by simpa using hk0] at hd
    obtain ⟨b, a, r, rfl, hq'⟩ := qp2_of hq; exact qs_lsub hd (hgo _ _ _ _ _ hq')
  · skip
    rw [qlen, Bool.and_eq_true] at hk
    obtain ⟨hk0, hk⟩ := hk
    rw [show len = 1 by simpa using hk0] at hd
    obtain ⟨b, a, r, rfl, hq'⟩ := qp2_of hq; exact qs_lmul hd (hgo _ _ _ _ _ hq')
  · skip
    rw [qlen, Bool.and_eq_true] at hk
    obtain ⟨hk0, hk⟩ := hk
    rw [show len = 1 by simpa using hk0] at hd
    obtain ⟨b, a, r, rfl, hq'⟩ := qp2_of hq; exact qs_land hd (hgo _ _ _ _ _ hq')
  · skip
    rw [qlen, Bool.and_eq_true] at hk
    obtain ⟨hk0, hk⟩ := hk
    rw [show len = 1 by simpa using hk0] at hd
    obtain ⟨b, a, r, rfl, hq'⟩ := qp2_of hq; exact qs_lor hd (hgo _ _ _ _ _ hq')
  · skip
    rw [qlen, Bool.and_eq_true] at hk
    obtain ⟨hk0, hk⟩ := hk
    rw [show len = 1 by simpa using hk0] at hd
    obtain ⟨b, a, r, rfl, hq'⟩ := qp2_of hq; exact qs_lxor hd (hgo _ _ _ _ _ hq')
  · skip
    rw [qlen, Bool.and_eq_true] at hk
    obtain ⟨hk0, hk⟩ := hk
    rw [show len = 1 by simpa using hk0] at hd
    obtain ⟨b, a, r, rfl, hq'⟩ := qp2_of hq; exact qs_lshl hd (hgo _ _ _ _ _ hq')
  · skip
    rw [qlen, Bool.and_eq_true] at hk
    obtain ⟨hk0, hk⟩ := hk
    rw [show len = 1 by simpa using hk0] at hd
    obtain ⟨b, a, r, rfl, hq'⟩ := qp2_of hq; exact qs_lshr hd (hgo _ _ _ _ _ hq')
  · skip
    rw [qlen, Bool.and_eq_true] at hk
    obtain ⟨hk0, hk⟩ := hk
    rw [show len = 1 by simpa using hk0] at hd
    obtain ⟨b, a, r, rfl, hq'⟩ := qp2_of hq; exact qs_lushr hd (hgo _ _ _ _ _ hq')
  · skip
    rw [qlen, Bool.and_eq_true] at hk
    obtain ⟨hk0, hk⟩ := hk
    rw [show len = 1 by simpa using hk0] at hd
    obtain ⟨b, a, r, rfl, h1, h2, h3, hq'⟩ := qp2_of hq; exact qs_idiv h1 h2 h3 hd (hgo _ _ _ _ _ hq')
  · skip
    rw [qlen, Bool.and_eq_true] at hk
    obtain ⟨hk0, hk⟩ := hk
    rw [show len = 1 by simpa using hk0] at hd
    obtain ⟨b, a, r, rfl, h1, h2, h3, hq'⟩ := qp2_of hq; exact qs_irem h1 h2 h3 hd (hgo _ _ _ _ _ hq')
  · skip
    rw [qlen, Bool.and_eq_true] at hk
    obtain ⟨hk0, hk⟩ := hk
    rw [show len = 1 by simpa using hk0] at hd
    obtain ⟨b, a, r, rfl, h1, h2, h3, hq'⟩ := qp2_of hq; exact qs_ldiv h1 h2 h3 hd (hgo _ _ _ _ _ hq')
  · skip
    rw [qlen, Bool.and_eq_true] at hk
    obtain ⟨hk0, hk⟩ := hk
    rw [show len = 1 by simpa using hk0] at hd
    obtain ⟨b, a, r, rfl, h1, h2, h3, hq'⟩ := qp2_of hq; exact qs_lrem h1 h2 h3 hd (hgo _ _ _ _ _ hq')
  · skip
    rw [qlen, Bool.and_eq_true] at hk
    obtain ⟨hk0, hk⟩ := hk
    rw [show len = 1 by simpa using hk0] at hd
    obtain ⟨a, r, rfl, h1, hq'⟩ := qp1_of hq; exact qs_i2l h1 hd (hgo _ _ _ _ _ hq')
  · skip
    rw [qlen, Bool.and_eq_true] at hk
    obtain ⟨hk0, hk⟩ := hk
    rw [show len = 1 by simpa using hk0] at hd
    obtain ⟨a, r, rfl, hq'⟩ := qp1_of hq; exact qs_l2i hd (hgo _ _ _ _ _ hq')
  · skip
    rw [qlen, Bool.and_eq_true] at hk
    obtain ⟨hk0, hk⟩ := hk
    rw [show len = 1 by simpa using hk0] at hd
    obtain ⟨a, r, rfl, hq'⟩ := qp1_of hq; exact qs_i2b hd (hgo _ _ _ _ _ hq')
  · skip
    rw [qlen, Bool.and_eq_true] at hk
    obtain ⟨hk0, hk⟩ := hk
    rw [show len = 1 by simpa using hk0] at hd
    obtain ⟨a, r, rfl, hq'⟩ := qp1_of hq; exact qs_i2s hd (hgo _ _ _ _ _ hq')
  · skip
    rw [qlen, Bool.and_eq_true] at hk
    obtain ⟨hk0, hk⟩ := hk
    rw [show len = 1 by simpa using hk0] at hd
    obtain ⟨a, r, rfl, hq'⟩ := qp1_of hq; exact qs_i2c hd (hgo _ _ _ _ _ hq')
  · rename_i n
    rw [qlen, Bool.and_eq_true] at hk
    obtain ⟨hk0, hk⟩ := hk
    rw [show len = 1 by simpa using hk0] at hd
    exact qs_iconst hd (hgo _ _ _ _ _ hq)
  · rename_i n
    rw [qlen, Bool.and_eq_true] at hk
    obtain ⟨hk0, hk⟩ := hk
    rw [show len = 2 by simpa using hk0] at hd
    exact qs_bipush (of_decide_eq_true hk) hd (hgo _ _ _ _ _ hq)
  · rename_i n
    rw [qlen, Bool.and_eq_true] at hk
    obtain ⟨hk0, hk⟩ := hk
    rw [show len = 3 by simpa using hk0] at hd
    exact qs_sipush (of_decide_eq_true hk) hd (hgo _ _ _ _ _ hq)
  · rename_i n
    rw [qlen, Bool.and_eq_true] at hk
    obtain ⟨hk0, hk⟩ := hk
    rw [show len = 1 by simpa using hk0] at hd
    exact qs_lconst hd (hgo _ _ _ _ _ hq)
  · rename_i i
    rw [qlen, Bool.and_eq_true] at hk
    obtain ⟨hk0, hk⟩ := hk
    rw [show len = 2 by simpa using hk0] at hd
    split at hq
    · rename_i e he
      have hc := List.all_eq_true.mp (qci_all (qmo m)) _ (qfnd_mem he)
      rw [qcic, Bool.and_eq_true] at hc
      exact qs_ldc (v := Int32.ofInt e.1) (qrow_in hc.2) hd (k := by rw [q32 (show in32 e.1 from by have h9 := of_decide_eq_true hc.1; exact h9)]; exact hgo _ _ _ _ _ hq)
    · split at hq
      · rename_i e he
        exact qs_ldcS (e := (i, e.1, e.2)) (qslk_ok _ _ (qfnd_mem he)) hd (hgo _ _ _ _ _ hq)
      · exact hq.elim
  · rename_i i
    rw [qlen, Bool.and_eq_true] at hk
    obtain ⟨hk0, hk⟩ := hk
    rw [show len = 3 by simpa using hk0] at hd
    split at hq
    · rename_i e he
      have hc := List.all_eq_true.mp (qci_all (qmo m)) _ (qfnd_mem he)
      rw [qcic, Bool.and_eq_true] at hc
      have := qs_ldcw (v := Int32.ofInt e.1) (qrow_in hc.2) hd (k := by rw [q32 (show in32 e.1 from by have h9 := of_decide_eq_true hc.1; exact h9)]; exact hgo _ _ _ _ _ hq)
      exact this
    · exact hq.elim
  · rename_i i
    rw [qlen, Bool.and_eq_true] at hk
    obtain ⟨hk0, hk⟩ := hk
    rw [show len = 3 by simpa using hk0] at hd
    split at hq
    · rename_i e he
      have hc := List.all_eq_true.mp (qcl_all (qmo m)) _ (qfnd_mem he)
      rw [qclc, Bool.and_eq_true] at hc
      exact qs_ldc2 (v := Int64.ofInt e.1) (qrow_in hc.2) hd (k := by rw [q64 (show in64 e.1 from by have h9 := of_decide_eq_true hc.1; exact h9)]; exact hgo _ _ _ _ _ hq)
    · exact hq.elim
  · rename_i i
    rw [qlen, Bool.and_eq_true] at hk
    obtain ⟨hk0, hk⟩ := hk
    rw [show len = 2 by simpa using hk0] at hd
    obtain ⟨x, h1, hq⟩ := qpl_of hq; exact qs_iload h1 hd (hgo _ _ _ _ _ hq)
  · rename_i i
    rw [qlen, Bool.and_eq_true] at hk
    obtain ⟨hk0, hk⟩ := hk
    rw [show len = 1 by simpa using hk0] at hd
    obtain ⟨x, h1, hq⟩ := qpl_of hq; exact qs_iload_n h1 hd (hgo _ _ _ _ _ hq)
  · rename_i i
    rw [qlen, Bool.and_eq_true] at hk
    obtain ⟨hk0, hk⟩ := hk
    rw [show len = 2 by simpa using hk0] at hd
    obtain ⟨x, h1, hq⟩ := qpl_of hq; exact qs_lload h1 hd (hgo _ _ _ _ _ hq)
  · rename_i i
    rw [qlen, Bool.and_eq_true] at hk
    obtain ⟨hk0, hk⟩ := hk
    rw [show len = 1 by simpa using hk0] at hd
    obtain ⟨x, h1, hq⟩ := qpl_of hq; exact qs_lload_n h1 hd (hgo _ _ _ _ _ hq)
  · rename_i i
    rw [qlen, Bool.and_eq_true] at hk
    obtain ⟨hk0, hk⟩ := hk
    rw [show len = 2 by simpa using hk0] at hd
    obtain ⟨x, h1, hq⟩ := qpl_of hq; exact qs_aload h1 hd (hgo _ _ _ _ _ hq)
  · rename_i i
    rw [qlen, Bool.and_eq_true] at hk
    obtain ⟨hk0, hk⟩ := hk
    rw [show len = 1 by simpa using hk0] at hd
    obtain ⟨x, h1, hq⟩ := qpl_of hq; exact qs_aload_n h1 hd (hgo _ _ _ _ _ hq)
  · rename_i i
    rw [qlen, Bool.and_eq_true] at hk
    obtain ⟨hk0, hk⟩ := hk
    rw [show len = 2 by simpa using hk0] at hd
    obtain ⟨x, r, rfl, hq'⟩ := qp1_of hq; exact qs_istore (of_decide_eq_true hk) hd (hgo _ _ _ _ _ hq')
  · rename_i i
    rw [qlen, Bool.and_eq_true] at hk
    obtain ⟨hk0, hk⟩ := hk
    rw [show len = 1 by simpa using hk0] at hd
    obtain ⟨x, r, rfl, hq'⟩ := qp1_of hq; exact qs_istore_n (of_decide_eq_true hk) hd (hgo _ _ _ _ _ hq')
  · rename_i i
    rw [qlen, Bool.and_eq_true] at hk
    obtain ⟨hk0, hk⟩ := hk
    rw [show len = 2 by simpa using hk0] at hd
    obtain ⟨x, r, rfl, hq'⟩ := qp1_of hq; exact qs_lstore (of_decide_eq_true hk) hd (hgo _ _ _ _ _ hq')
  · rename_i i
    rw [qlen, Bool.and_eq_true] at hk
    obtain ⟨hk0, hk⟩ := hk
    rw [show len = 1 by simpa using hk0] at hd
    obtain ⟨x, r, rfl, hq'⟩ := qp1_of hq; exact qs_lstore_n (of_decide_eq_true hk) hd (hgo _ _ _ _ _ hq')
  · rename_i i
    rw [qlen, Bool.and_eq_true] at hk
    obtain ⟨hk0, hk⟩ := hk
    rw [show len = 2 by simpa using hk0] at hd
    obtain ⟨x, r, rfl, hq'⟩ := qp1_of hq; exact qs_astore (of_decide_eq_true hk) hd (hgo _ _ _ _ _ hq')
  · rename_i i
    rw [qlen, Bool.and_eq_true] at hk
    obtain ⟨hk0, hk⟩ := hk
    rw [show len = 1 by simpa using hk0] at hd
    obtain ⟨x, r, rfl, hq'⟩ := qp1_of hq; exact qs_astore_n (of_decide_eq_true hk) hd (hgo _ _ _ _ _ hq')
  · rename_i i n
    rw [qlen, Bool.and_eq_true] at hk
    obtain ⟨hk0, hk⟩ := hk
    rw [show len = 3 by simpa using hk0] at hd
    obtain ⟨x, h1, hq⟩ := qpl_of hq; exact qs_iinc (of_decide_eq_true hk) h1 hd (hgo _ _ _ _ _ hq)
  · skip
    rw [qlen, Bool.and_eq_true] at hk
    obtain ⟨hk0, hk⟩ := hk
    rw [show len = 1 by simpa using hk0] at hd
    split at hq
    · rename_i v r
      by_cases e : v.1 = 1
      · rw [show (v.1 == 1) = true by simpa using e] at hq; exact hq.elim
      · rw [show (v.1 == 1) = false by simpa using e] at hq; exact qs_dup e hd (hgo _ _ _ _ _ hq)
    · exact hq.elim
  · skip
    rw [qlen, Bool.and_eq_true] at hk
    obtain ⟨hk0, hk⟩ := hk
    rw [show len = 1 by simpa using hk0] at hd
    split at hq
    · rename_i v r
      by_cases e : v.1 = 1
      · rw [show (v.1 == 1) = true by simpa using e] at hq
        obtain ⟨v1, v2⟩ := v
        cases e
        exact qs_dup2_2 hd (hgo _ _ _ _ _ hq)
      · rw [show (v.1 == 1) = false by simpa using e, cond_false] at hq
        split at hq
        · rename_i w r1
          by_cases e2 : w.1 = 1
          · rw [show (w.1 == 1) = true by simpa using e2] at hq; exact hq.elim
          · rw [show (w.1 == 1) = false by simpa using e2] at hq; exact qs_dup2_11 e e2 hd (hgo _ _ _ _ _ hq)
        · exact hq.elim
    · exact hq.elim
  · skip
    rw [qlen, Bool.and_eq_true] at hk
    obtain ⟨hk0, hk⟩ := hk
    rw [show len = 1 by simpa using hk0] at hd
    split at hq
    · rename_i v r
      by_cases e : v.1 = 1
      · rw [show (v.1 == 1) = true by simpa using e] at hq; exact hq.elim
      · rw [show (v.1 == 1) = false by simpa using e] at hq; exact qs_pop e hd (hgo _ _ _ _ _ hq)
    · exact hq.elim
  · skip
    rw [qlen, Bool.and_eq_true] at hk
    obtain ⟨hk0, hk⟩ := hk
    rw [show len = 1 by simpa using hk0] at hd
    obtain ⟨x, r, rfl, hq'⟩ := qp1_of hq; exact qs_pop2_2 hd (hgo _ _ _ _ _ hq')
  · rename_i off
    rw [qlen, Bool.and_eq_true] at hk
    obtain ⟨hk0, hk⟩ := hk
    rw [show len = 3 by simpa using hk0] at hd
    exact qs_goto (qtgt_of hk) hd (hgo _ _ _ _ _ hq)
  · rename_i c off
    rw [qlen, Bool.and_eq_true] at hk
    obtain ⟨hk0, hk⟩ := hk
    rw [show len = 3 by simpa using hk0] at hd
    obtain ⟨b, a, r, rfl, hq'⟩ := qp2_of hq
    have ht := qtgt_of hk
    cases c with
    | eq => exact qs_icmp_eq (fun z => ⟨(hq'.2 z).1, (hq'.2 z).2.1⟩) ht hd (fun z => hgo _ _ _ _ _ (hq'.1 z)) (fun z => hgo _ _ _ _ _ (hq'.2 z).2.2)
    | ne => exact qs_icmp_ne (fun z => ⟨(hq'.1 z).1, (hq'.1 z).2.1⟩) ht hd (fun z => hgo _ _ _ _ _ (hq'.2 z)) (fun z => hgo _ _ _ _ _ (hq'.1 z).2.2)
    | lt => exact qs_icmp_lt hq'.1 hq'.2.1 ht hd (fun z => hgo _ _ _ _ _ (hq'.2.2.1 z)) (fun z => hgo _ _ _ _ _ (hq'.2.2.2 z))
    | ge => exact qs_icmp_ge hq'.1 hq'.2.1 ht hd (fun z => hgo _ _ _ _ _ (hq'.2.2.1 z)) (fun z => hgo _ _ _ _ _ (hq'.2.2.2 z))
    | gt => exact qs_icmp_gt hq'.1 hq'.2.1 ht hd (fun z => hgo _ _ _ _ _ (hq'.2.2.1 z)) (fun z => hgo _ _ _ _ _ (hq'.2.2.2 z))
    | le => exact qs_icmp_le hq'.1 hq'.2.1 ht hd (fun z => hgo _ _ _ _ _ (hq'.2.2.1 z)) (fun z => hgo _ _ _ _ _ (hq'.2.2.2 z))
  · rename_i c off
    rw [qlen, Bool.and_eq_true] at hk
    obtain ⟨hk0, hk⟩ := hk
    rw [show len = 3 by simpa using hk0] at hd
    obtain ⟨a, r, rfl, hq'⟩ := qp1_of hq
    have ht := qtgt_of hk
    cases c with
    | eq => exact qs_if_eq (fun z => ⟨(hq'.2 z).1, (hq'.2 z).2.1⟩) ht hd (fun z => hgo _ _ _ _ _ (hq'.1 z)) (fun z => hgo _ _ _ _ _ (hq'.2 z).2.2)
    | ne => exact qs_if_ne (fun z => ⟨(hq'.1 z).1, (hq'.1 z).2.1⟩) ht hd (fun z => hgo _ _ _ _ _ (hq'.2 z)) (fun z => hgo _ _ _ _ _ (hq'.1 z).2.2)
    | lt => exact qs_if_lt hq'.1 ht hd (fun z => hgo _ _ _ _ _ (hq'.2.2.1 z)) (fun z => hgo _ _ _ _ _ (hq'.2.2.2 z))
    | ge => exact qs_if_ge hq'.1 ht hd (fun z => hgo _ _ _ _ _ (hq'.2.2.1 z)) (fun z => hgo _ _ _ _ _ (hq'.2.2.2 z))
    | gt => exact qs_if_gt hq'.1 ht hd (fun z => hgo _ _ _ _ _ (hq'.2.2.1 z)) (fun z => hgo _ _ _ _ _ (hq'.2.2.2 z))
    | le => exact qs_if_le hq'.1 ht hd (fun z => hgo _ _ _ _ _ (hq'.2.2.1 z)) (fun z => hgo _ _ _ _ _ (hq'.2.2.2 z))
  · skip
    rw [qlen, Bool.and_eq_true] at hk
    obtain ⟨hk0, hk⟩ := hk
    rw [show len = 1 by simpa using hk0] at hd
    obtain ⟨b, a, r, rfl, hq'⟩ := qp2_of hq
    split at hq'
    · rename_i c off len2 hg2
      obtain ⟨hd2, hk2⟩ := qmok_get hm hg2
      rw [qlen, Bool.and_eq_true] at hk2
      rw [show len2 = 3 by simpa using hk2.1] at hd2
      have ht := qtgt_of hk2.2
      have one : in32 1 := ⟨by decide, by decide⟩
      have neg : in32 (-1) := ⟨by decide, by decide⟩
      have zer : in32 0 := ⟨by decide, by decide⟩
      have key : ∀ (ha : in64 a) (hb : in64 b), in32 (if b < a then 1 else if a = b then 0 else -1) := fun _ _ => by
        split
        · exact one
        · split
          · exact zer
          · exact neg
      cases c with
      | eq =>
        by_cases z : a = b
        · subst z; exact qs_lcmp_same hd (qs_if_eq (fun w => absurd rfl w) ht hd2 (fun _ => hgo _ _ _ _ _ (hq'.1 rfl)) (fun w => absurd rfl w))
        · obtain ⟨ha, hb, hq'⟩ := hq'.2 z
          exact qs_lcmp ha hb hd (qs_if_eq (fun _ => ⟨key ha hb, zer⟩) ht hd2 (fun w => by (repeat' split at w) <;> omega) (fun _ => hgo _ _ _ _ _ hq'))
      | ne =>
        by_cases z : a = b
        · subst z; exact qs_lcmp_same hd (qs_if_ne (fun w => absurd rfl w) ht hd2 (fun _ => hgo _ _ _ _ _ (hq'.2 rfl)) (fun w => absurd rfl w))
        · obtain ⟨ha, hb, hq'⟩ := hq'.1 z
          exact qs_lcmp ha hb hd (qs_if_ne (fun _ => ⟨key ha hb, zer⟩) ht hd2 (fun w => by (repeat' split at w) <;> omega) (fun _ => hgo _ _ _ _ _ hq'))
      | lt => exact qs_lcmp hq'.1 hq'.2.1 hd (qs_if_lt (key hq'.1 hq'.2.1) ht hd2 (fun w => hgo _ _ _ _ _ (hq'.2.2.1 (by (repeat' split at w) <;> omega))) (fun w => hgo _ _ _ _ _ (hq'.2.2.2 (by (repeat' split at w) <;> omega))))
      | ge => exact qs_lcmp hq'.1 hq'.2.1 hd (qs_if_ge (key hq'.1 hq'.2.1) ht hd2 (fun w => hgo _ _ _ _ _ (hq'.2.2.1 (by (repeat' split at w) <;> omega))) (fun w => hgo _ _ _ _ _ (hq'.2.2.2 (by (repeat' split at w) <;> omega))))
      | gt => exact qs_lcmp hq'.1 hq'.2.1 hd (qs_if_gt (key hq'.1 hq'.2.1) ht hd2 (fun w => hgo _ _ _ _ _ (hq'.2.2.1 (by (repeat' split at w) <;> omega))) (fun w => hgo _ _ _ _ _ (hq'.2.2.2 (by (repeat' split at w) <;> omega))))
      | le => exact qs_lcmp hq'.1 hq'.2.1 hd (qs_if_le (key hq'.1 hq'.2.1) ht hd2 (fun w => hgo _ _ _ _ _ (hq'.2.2.1 (by (repeat' split at w) <;> omega))) (fun w => hgo _ _ _ _ _ (hq'.2.2.2 (by (repeat' split at w) <;> omega))))
    · exact hq'.elim
  · rename_i dflt lo hi offs
    rw [qlen] at hk
    obtain ⟨x, r, rfl, hx, h1, h2⟩ := qp1_of hq
    rw [Bool.and_eq_true, Bool.and_eq_true] at hk
    obtain ⟨hk1, hk2, hk3⟩ := hk
    by_cases hc : x < lo ∨ hi < x
    · exact qs_tableOut hx hc (qtgt_of hk1) hd (hgo _ _ _ _ _ (h2 hc))
    · have hlt : (x - lo).toNat < offs.toList.length := by
        have := of_decide_eq_true hk2
        simp only [Array.length_toList]
        omega
      obtain ⟨off, hoff⟩ : ∃ off, offs.toList[(x - lo).toNat]? = some off := ⟨_, List.getElem?_eq_getElem hlt⟩
      have hq' := qsw_at (j := (x - lo).toNat) (by omega) hoff h1
      have hin : decide (0 ≤ (pc : Int) + off) = true := List.all_eq_true.mp hk3 off (List.mem_of_getElem? hoff)
      exact qs_tableIn hx (by omega) (by omega) (by rw [← Array.getElem?_toList]; exact hoff) (qtgt_of hin) hd (hgo _ _ _ _ _ hq')
  · rename_i i
    rw [qlen, Bool.and_eq_true] at hk
    obtain ⟨hk0, hk⟩ := hk
    rw [show len = 3 by simpa using hk0] at hd
    by_cases e16 : qmo m = 16
    · rw [show (qmo m == 16) = true by simpa using e16, cond_true] at hq
      obtain ⟨a, r, rfl, hs, hq'⟩ := qp1_of hq
      by_cases e9 : i = 9
      · subst e9; exact qs_strval e16 hs qsf9 hd (hgo _ _ _ _ _ hq')
      · rw [show (i == 9) = false by simpa using e9, cond_false] at hq'
        by_cases e15 : i = 15
        · subst e15; exact qs_strcod e16 hs qsf15 hd (hgo _ _ _ _ _ hq')
        · rw [show (i == 15) = false by simpa using e15, cond_false] at hq'; exact hq'.elim
    · rw [show (qmo m == 16) = false by simpa using e16, cond_false] at hq
      split at hq
      · rename_i e he
        obtain ⟨a, r, rfl, h1, hq'⟩ := qp1_of hq
        have hc := List.all_eq_true.mp (qfl_all (qmo m)) _ (qfnd_mem he)
        rw [qflc, Bool.and_eq_true, Bool.and_eq_true] at hc
        exact qs_getfield (qvw e.1 (of_decide_eq_true hc.1)) (of_decide_eq_true hc.2.1) (qrow_in hc.2.2) h1 hd (hgo _ _ _ _ _ hq')
      · exact hq.elim
  · rename_i i
    rw [qlen, Bool.and_eq_true] at hk
    obtain ⟨hk0, hk⟩ := hk
    rw [show len = 3 by simpa using hk0] at hd
    by_cases e16 : qmo m = 16
    · rw [show (qmo m == 16) = true by simpa using e16, cond_true] at hq
      by_cases e9 : i = 38
      · subst e9; exact qs_stat1 e16 qsf38 hd (hgo _ _ _ _ _ hq)
      · rw [show (i == 38) = false by simpa using e9, cond_false] at hq
        by_cases e15 : i = 1053
        · subst e15; exact qs_stat2 e16 qsf1053 hd (hgo _ _ _ _ _ hq)
        · rw [show (i == 1053) = false by simpa using e15, cond_false] at hq; exact hq.elim
    · rw [show (qmo m == 16) = false by simpa using e16, cond_false] at hq; exact hq.elim
  · rename_i dflt ps
    rw [qlen] at hk
    obtain ⟨x, r, rfl, hx, hq'⟩ := qp1_of hq
    rw [Bool.and_eq_true, Bool.and_eq_true] at hk
    obtain ⟨hk1, hk2, hk3⟩ := hk
    rcases qswl_at (dflt := dflt) hq' with ⟨e1, hq'⟩ | ⟨off, hm9, e1, hq'⟩
    · exact qs_lookup hx hk2 e1 (qtgt_of hk1) hd (hgo _ _ _ _ _ hq')
    · exact qs_lookup hx hk2 e1 (qtgt_of (List.all_eq_true.mp hk3 _ hm9)) hd (hgo _ _ _ _ _ hq')
  · rename_i i
    rw [qlen, Bool.and_eq_true] at hk
    obtain ⟨hk0, hk⟩ := hk
    rw [show len = 3 by simpa using hk0] at hd
    split at hq
    · rename_i e he
      obtain ⟨x, a, r, rfl, h1, hq'⟩ := qp2_of hq
      have hc := List.all_eq_true.mp (qfl_all (qmo m)) _ (qfnd_mem he)
      rw [qflc, Bool.and_eq_true, Bool.and_eq_true] at hc
      obtain ⟨hf, hq'⟩ := qfitc_of hq'
      obtain ⟨ho, hq'⟩ := qbif hq'
      refine qs_putfield (qvw e.1 (of_decide_eq_true hc.1)) (of_decide_eq_true hc.2.1) (qrow_in hc.2.2) h1 hf ?_ hd (hgo _ _ _ _ _ hq')
      rw [qpok, Bool.or_eq_true, Bool.and_eq_true] at ho
      rcases ho with ho | ho
      · exact Or.inl (by simpa using ho)
      · exact Or.inr ⟨of_decide_eq_true ho.1, of_decide_eq_true ho.2⟩
    · exact hq.elim
  · skip
    rw [qlen, Bool.and_eq_true] at hk
    obtain ⟨hk0, hk⟩ := hk
    rw [show len = 1 by simpa using hk0] at hd
    by_cases e : qmo m = 12
    · rw [show (qmo m == 12) = true by simpa using e, cond_true] at hq
      obtain ⟨i, a, r, rfl, rfl, h1, h2, hq'⟩ := qp2_of hq
      exact qs_sload h1 h2 hd (hgo _ _ _ _ _ hq')
    · rw [show (qmo m == 12) = false by simpa using e, cond_false] at hq
      obtain ⟨i, a, r, rfl, h0, h1, h2, hq'⟩ := qp2_of hq
      exact qs_iaload h0 h1 h2 hd (hgo _ _ _ _ _ hq')
  · skip
    rw [qlen, Bool.and_eq_true] at hk
    obtain ⟨hk0, hk⟩ := hk
    rw [show len = 1 by simpa using hk0] at hd
    obtain ⟨i, a, r, rfl, h0, h1, h2, hq'⟩ := qp2_of hq; exact qs_laload h0 h1 h2 hd (hgo _ _ _ _ _ hq')
  · skip
    rw [qlen, Bool.and_eq_true] at hk
    obtain ⟨hk0, hk⟩ := hk
    rw [show len = 1 by simpa using hk0] at hd
    by_cases e17 : qmo m = 17
    · rw [show (qmo m == 17) = true by simpa using e17, cond_true] at hq
      obtain ⟨i, a, r, rfl, h0, h1, h2, hq'⟩ := qp2_of hq
      exact qs_strbyte h0 h1 h2 hd (hgo _ _ _ _ _ hq')
    · rw [show (qmo m == 17) = false by simpa using e17, cond_false] at hq
      by_cases e : qmo m = 11
      · rw [show (qmo m == 11) = true by simpa using e, cond_true] at hq
        obtain ⟨i, a, r, rfl, h0, h1, h2, hq'⟩ := qp2_of hq
        exact qs_zaload h0 h1 h2 hd (hgo _ _ _ _ _ hq')
      · rw [show (qmo m == 11) = false by simpa using e, cond_false] at hq
        obtain ⟨i, a, r, rfl, h0, h1, h2, hq'⟩ := qp2_of hq
        exact qs_baload h0 h1 h2 hd (hgo _ _ _ _ _ hq')
  · skip
    rw [qlen, Bool.and_eq_true] at hk
    obtain ⟨hk0, hk⟩ := hk
    rw [show len = 1 by simpa using hk0] at hd
    obtain ⟨i, a, r, rfl, h0, h1, h2, hq'⟩ := qp2_of hq; exact qs_aaload rfl h0.1 h0.2 h1 h2 hd (hgo _ _ _ _ _ hq')
  · skip
    rw [qlen, Bool.and_eq_true] at hk
    obtain ⟨hk0, hk⟩ := hk
    rw [show len = 1 by simpa using hk0] at hd
    obtain ⟨x, i, a, r, rfl, h0, h1, h2, hq'⟩ := qp3_of hq; exact qs_iastore h0 h1 h2 hd (hgo _ _ _ _ _ hq')
  · skip
    rw [qlen, Bool.and_eq_true] at hk
    obtain ⟨hk0, hk⟩ := hk
    rw [show len = 1 by simpa using hk0] at hd
    obtain ⟨x, i, a, r, rfl, h0, h1, h2, hq'⟩ := qp3_of hq; exact qs_lastore h0 h1 h2 hd (hgo _ _ _ _ _ hq')
  · skip
    rw [qlen, Bool.and_eq_true] at hk
    obtain ⟨hk0, hk⟩ := hk
    rw [show len = 1 by simpa using hk0] at hd
    by_cases e : qmo m = 11
    · rw [show (qmo m == 11) = true by simpa using e, cond_true] at hq
      obtain ⟨x, i, a, r, rfl, hz, h0, h1, h2, hq'⟩ := qp3_of hq
      exact qs_zastore hz h0 h1 h2 hd (hgo _ _ _ _ _ hq')
    · rw [show (qmo m == 11) = false by simpa using e, cond_false] at hq
      obtain ⟨x, i, a, r, rfl, h0, h1, h2, hq'⟩ := qp3_of hq
      exact qs_bastore h0 h1 h2 hd (hgo _ _ _ _ _ hq')
  · skip
    rw [qlen, Bool.and_eq_true] at hk
    obtain ⟨hk0, hk⟩ := hk
    rw [show len = 1 by simpa using hk0] at hd
    obtain ⟨x, i, a, r, rfl, h0, h1, h2, hq'⟩ := qp3_of hq; exact qs_aastore rfl (by omega) (by omega) rfl h0 h1 h2 hd (hgo _ _ _ _ _ hq')
  · skip
    rw [qlen, Bool.and_eq_true] at hk
    obtain ⟨hk0, hk⟩ := hk
    rw [show len = 1 by simpa using hk0] at hd
    by_cases e17 : (qmo m == 16 || qmo m == 17) = true
    · rw [e17, cond_true] at hq
      obtain ⟨a, r, rfl, h0, hq'⟩ := qp1_of hq
      exact qs_strlen h0 hd (hgo _ _ _ _ _ hq')
    · rw [show (qmo m == 16 || qmo m == 17) = false by simpa using e17, cond_false] at hq
      by_cases e : qmo m = 12
      · rw [show (qmo m == 12) = true by simpa using e, cond_true] at hq
        obtain ⟨a, r, rfl, rfl, hq'⟩ := qp1_of hq
        exact qs_slen hd (hgo _ _ _ _ _ hq')
      · rw [show (qmo m == 12) = false by simpa using e, cond_false] at hq
        obtain ⟨a, r, rfl, h0, hq'⟩ := qp1_of hq
        exact qs_alen h0.1 h0.2 hd (hgo _ _ _ _ _ hq')
  · rename_i i
    rw [qlen, Bool.and_eq_true] at hk
    obtain ⟨hk0, hk⟩ := hk
    rw [show len = 3 by simpa using hk0] at hd
    split at hq
    · rename_i e he
      obtain ⟨h0, hq⟩ := hq
      obtain ⟨hb, hq⟩ := qbif hq
      rw [Bool.and_eq_true] at hb
      have hc := List.all_eq_true.mp (qnw_all (qmo m)) _ (qfnd_mem he)
      simp only [qnwc, Bool.and_eq_true] at hc
      obtain ⟨c1, c2, c3, c4, c5⟩ := hc
      have c2 := of_decide_eq_true c2
      rw [c2] at hq hb
      exact qs_new (qvw e.1 (of_decide_eq_true c1)) (qrow_in c3) (qrow_in c4) (qrow_in c5) (qnfd e.1 (of_decide_eq_true c1)) h0 ⟨Nat.le_of_ble_eq_true hb.1, Nat.le_of_ble_eq_true hb.2⟩ hd (hgo _ _ _ _ _ hq)
    · exact hq.elim
  · rename_i t
    rw [qlen, Bool.and_eq_true] at hk
    obtain ⟨hk0, hk⟩ := hk
    rw [show len = 2 by simpa using hk0] at hd
    obtain ⟨n, r, rfl, h1, h2, h3, hq'⟩ := qp1_of hq
    obtain ⟨hb, hq'⟩ := qbif hq'
    rw [Bool.and_eq_true, Bool.and_eq_true] at hb
    exact qs_newarray (Nat.le_of_ble_eq_true hb.1) (qarc t (Nat.le_of_ble_eq_true hb.1)) h1 h2 h3 ⟨Nat.le_of_ble_eq_true hb.2.1, Nat.le_of_ble_eq_true hb.2.2⟩ hd (hgo _ _ _ _ _ hq')
  · rename_i i
    rw [qlen, Bool.and_eq_true] at hk
    obtain ⟨hk0, hk⟩ := hk
    rw [show len = 3 by simpa using hk0] at hd
    split at hq
    · rename_i e he
      obtain ⟨n, r, rfl, h1, h2, h3, hq'⟩ := qp1_of hq
      obtain ⟨hb, hq'⟩ := qbif hq'
      rw [Bool.and_eq_true, Bool.and_eq_true] at hb
      have hc := List.all_eq_true.mp (qnw_all (qmo m)) _ (qfnd_mem he)
      simp only [qnwc, Bool.and_eq_true] at hc
      obtain ⟨c1, c2, c3, c4, c5⟩ := hc
      exact qs_anewarray (qrak_of (Nat.le_of_ble_eq_true hb.1)) (qrow_in c3) h1 h2 h3 ⟨Nat.le_of_ble_eq_true hb.2.1, Nat.le_of_ble_eq_true hb.2.2⟩ hd (hgo _ _ _ _ _ hq')
    · exact hq.elim
  · rename_i i
    rw [qlen, Bool.and_eq_true] at hk
    obtain ⟨hk0, hk⟩ := hk
    rw [show len = 3 by simpa using hk0] at hd
    split at hq
    · rename_i E he
      exact qcall_invokevirtual hgo he hd hq
    · exact hq.elim
  · rename_i i
    rw [qlen, Bool.and_eq_true] at hk
    obtain ⟨hk0, hk⟩ := hk
    rw [show len = 3 by simpa using hk0] at hd
    split at hq
    · rename_i E he
      exact qcall_invokestatic hgo he hd hq
    · exact hq.elim
  · rename_i i
    rw [qlen, Bool.and_eq_true] at hk
    obtain ⟨hk0, hk⟩ := hk
    rw [show len = 3 by simpa using hk0] at hd
    split at hq
    · rename_i E he
      exact qcall_invokespecial hgo he hd hq
    · exact hq.elim
  · skip
    rw [qlen, Bool.and_eq_true] at hk
    obtain ⟨hk0, hk⟩ := hk
    rw [show len = 1 by simpa using hk0] at hd
    obtain ⟨x, r, rfl, hq'⟩ := qp1_of hq
    split at hq'
    · obtain ⟨hb, hq'⟩ := qbif hq'
      rw [Bool.and_eq_true] at hb
      split at hq'
      · rename_i hr; exact qs_ireturn hr ⟨Nat.le_of_ble_eq_true hb.1, Nat.le_of_ble_eq_true hb.2⟩ hd hq'
      · rename_i hr; exact qs_zreturn hr hq'.1 ⟨Nat.le_of_ble_eq_true hb.1, Nat.le_of_ble_eq_true hb.2⟩ hd hq'.2
      · rename_i hr; exact qs_creturn hr hq'.1 ⟨Nat.le_of_ble_eq_true hb.1, Nat.le_of_ble_eq_true hb.2⟩ hd hq'.2
      · rename_i hr; exact qs_breturn hr hq'.1 ⟨Nat.le_of_ble_eq_true hb.1, Nat.le_of_ble_eq_true hb.2⟩ hd hq'.2
      · exact hq'.elim
    · exact hq'.elim
  · skip
    rw [qlen, Bool.and_eq_true] at hk
    obtain ⟨hk0, hk⟩ := hk
    rw [show len = 1 by simpa using hk0] at hd
    obtain ⟨x, r, rfl, hq'⟩ := qp1_of hq
    split at hq'
    · obtain ⟨hb, hq'⟩ := qbif hq'
      rw [Bool.and_eq_true] at hb
      split at hq'
      · rename_i hr; exact qs_lreturn hr ⟨Nat.le_of_ble_eq_true hb.1, Nat.le_of_ble_eq_true hb.2⟩ hd hq'
      · exact hq'.elim
    · exact hq'.elim
  · skip
    rw [qlen, Bool.and_eq_true] at hk
    obtain ⟨hk0, hk⟩ := hk
    rw [show len = 1 by simpa using hk0] at hd
    split at hq
    · obtain ⟨hb, hq⟩ := qbif hq
      rw [Bool.and_eq_true] at hb
      split at hq
      · rename_i hr; exact qs_return hr ⟨Nat.le_of_ble_eq_true hb.1, Nat.le_of_ble_eq_true hb.2⟩ hd hq
      · exact hq.elim
    · exact hq.elim
  · exact hq.elim
end QSound
end
