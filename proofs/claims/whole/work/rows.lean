section
-- ===== PART A: goes FIRST, ahead of the names: the tables' words, and 'selects' of the private methods out of them =====
/-- a private method of a class that the tables say can be made, by its rows of tables_1 -/
def lw_okq (q : MethodName × Nat) : Prop := (q.1.cls ≠ "java/lang/invoke/MethodHandle" ∧ q.1.cls ≠ "java/lang/invoke/VarHandle") ∧ Cond.instantiable q.1.cls q.2 ∈ tables_1 ∧ Cond.privateMethod q.1 ∈ tables_1 ∧ Cond.instanceMethod q.1 ∈ tables_1
theorem lw_p0 : lw_okq (⟨"RibbonRoads", "putOnTape", "(I)V"⟩, 11) := ⟨⟨by decide +kernel, by decide +kernel⟩, List.mem_of_getElem? (i := 23) (by decide +kernel), List.mem_of_getElem? (i := 422) (by decide +kernel), List.mem_of_getElem? (i := 423) (by decide +kernel)⟩
theorem lw_p1 : lw_okq (⟨"RibbonRoads$Tokens", "cutNumber", "([BII)I"⟩, 4) := ⟨⟨by decide +kernel, by decide +kernel⟩, List.mem_of_getElem? (i := 125) (by decide +kernel), List.mem_of_getElem? (i := 450) (by decide +kernel), List.mem_of_getElem? (i := 451) (by decide +kernel)⟩
theorem lw_p2 : lw_okq (⟨"RibbonRoads$Tokens", "add", "(III)V"⟩, 4) := ⟨⟨by decide +kernel, by decide +kernel⟩, List.mem_of_getElem? (i := 125) (by decide +kernel), List.mem_of_getElem? (i := 454) (by decide +kernel), List.mem_of_getElem? (i := 455) (by decide +kernel)⟩
theorem lw_p3 : lw_okq (⟨"RibbonRoads$Tokens", "cutWord", "([BII)I"⟩, 4) := ⟨⟨by decide +kernel, by decide +kernel⟩, List.mem_of_getElem? (i := 125) (by decide +kernel), List.mem_of_getElem? (i := 461) (by decide +kernel), List.mem_of_getElem? (i := 462) (by decide +kernel)⟩
theorem lw_p4 : lw_okq (⟨"RibbonRoads$Reader", "readLand", "()Z"⟩, 7) := ⟨⟨by decide +kernel, by decide +kernel⟩, List.mem_of_getElem? (i := 31) (by decide +kernel), List.mem_of_getElem? (i := 593) (by decide +kernel), List.mem_of_getElem? (i := 594) (by decide +kernel)⟩
theorem lw_p5 : lw_okq (⟨"RibbonRoads$Reader", "skip", "(I)Z"⟩, 7) := ⟨⟨by decide +kernel, by decide +kernel⟩, List.mem_of_getElem? (i := 31) (by decide +kernel), List.mem_of_getElem? (i := 597) (by decide +kernel), List.mem_of_getElem? (i := 598) (by decide +kernel)⟩
theorem lw_p6 : lw_okq (⟨"RibbonRoads$Reader", "kind", "()I"⟩, 7) := ⟨⟨by decide +kernel, by decide +kernel⟩, List.mem_of_getElem? (i := 31) (by decide +kernel), List.mem_of_getElem? (i := 601) (by decide +kernel), List.mem_of_getElem? (i := 602) (by decide +kernel)⟩
theorem lw_p7 : lw_okq (⟨"RibbonRoads$Reader", "fail", "(I)Z"⟩, 7) := ⟨⟨by decide +kernel, by decide +kernel⟩, List.mem_of_getElem? (i := 31) (by decide +kernel), List.mem_of_getElem? (i := 609) (by decide +kernel), List.mem_of_getElem? (i := 610) (by decide +kernel)⟩
theorem lw_p8 : lw_okq (⟨"RibbonRoads$Reader", "readNumber", "(II)I"⟩, 7) := ⟨⟨by decide +kernel, by decide +kernel⟩, List.mem_of_getElem? (i := 31) (by decide +kernel), List.mem_of_getElem? (i := 617) (by decide +kernel), List.mem_of_getElem? (i := 618) (by decide +kernel)⟩
theorem lw_p9 : lw_okq (⟨"RibbonRoads$Reader", "readLine", "()Z"⟩, 7) := ⟨⟨by decide +kernel, by decide +kernel⟩, List.mem_of_getElem? (i := 31) (by decide +kernel), List.mem_of_getElem? (i := 625) (by decide +kernel), List.mem_of_getElem? (i := 626) (by decide +kernel)⟩
theorem lw_p10 : lw_okq (⟨"RibbonRoads$Reader", "readRock", "()Z"⟩, 7) := ⟨⟨by decide +kernel, by decide +kernel⟩, List.mem_of_getElem? (i := 31) (by decide +kernel), List.mem_of_getElem? (i := 629) (by decide +kernel), List.mem_of_getElem? (i := 630) (by decide +kernel)⟩
theorem lw_p11 : lw_okq (⟨"RibbonRoads$Reader", "readEmptyCell", "()I"⟩, 7) := ⟨⟨by decide +kernel, by decide +kernel⟩, List.mem_of_getElem? (i := 31) (by decide +kernel), List.mem_of_getElem? (i := 633) (by decide +kernel), List.mem_of_getElem? (i := 634) (by decide +kernel)⟩
theorem lw_p12 : lw_okq (⟨"RibbonRoads$Reader", "readDrum", "()Z"⟩, 7) := ⟨⟨by decide +kernel, by decide +kernel⟩, List.mem_of_getElem? (i := 31) (by decide +kernel), List.mem_of_getElem? (i := 646) (by decide +kernel), List.mem_of_getElem? (i := 647) (by decide +kernel)⟩
theorem lw_p13 : lw_okq (⟨"RibbonRoads$Reader", "readTakes", "()Z"⟩, 7) := ⟨⟨by decide +kernel, by decide +kernel⟩, List.mem_of_getElem? (i := 31) (by decide +kernel), List.mem_of_getElem? (i := 650) (by decide +kernel), List.mem_of_getElem? (i := 651) (by decide +kernel)⟩
theorem lw_p14 : lw_okq (⟨"RibbonRoads$Reader", "readSum", "(I)Z"⟩, 7) := ⟨⟨by decide +kernel, by decide +kernel⟩, List.mem_of_getElem? (i := 31) (by decide +kernel), List.mem_of_getElem? (i := 655) (by decide +kernel), List.mem_of_getElem? (i := 656) (by decide +kernel)⟩
theorem lw_p15 : lw_okq (⟨"RibbonRoads$Reader", "readTerm", "(I)Z"⟩, 7) := ⟨⟨by decide +kernel, by decide +kernel⟩, List.mem_of_getElem? (i := 31) (by decide +kernel), List.mem_of_getElem? (i := 659) (by decide +kernel), List.mem_of_getElem? (i := 660) (by decide +kernel)⟩
def lw_privs_1 : List (MethodName × Nat) := [(⟨"RibbonRoads", "putOnTape", "(I)V"⟩, 11), (⟨"RibbonRoads$Tokens", "cutNumber", "([BII)I"⟩, 4), (⟨"RibbonRoads$Tokens", "add", "(III)V"⟩, 4), (⟨"RibbonRoads$Tokens", "cutWord", "([BII)I"⟩, 4), (⟨"RibbonRoads$Reader", "readLand", "()Z"⟩, 7), (⟨"RibbonRoads$Reader", "skip", "(I)Z"⟩, 7), (⟨"RibbonRoads$Reader", "kind", "()I"⟩, 7), (⟨"RibbonRoads$Reader", "fail", "(I)Z"⟩, 7), (⟨"RibbonRoads$Reader", "readNumber", "(II)I"⟩, 7), (⟨"RibbonRoads$Reader", "readLine", "()Z"⟩, 7), (⟨"RibbonRoads$Reader", "readRock", "()Z"⟩, 7), (⟨"RibbonRoads$Reader", "readEmptyCell", "()I"⟩, 7), (⟨"RibbonRoads$Reader", "readDrum", "()Z"⟩, 7), (⟨"RibbonRoads$Reader", "readTakes", "()Z"⟩, 7), (⟨"RibbonRoads$Reader", "readSum", "(I)Z"⟩, 7), (⟨"RibbonRoads$Reader", "readTerm", "(I)Z"⟩, 7)]
theorem lw_r1 : ∀ q ∈ lw_privs_1, lw_okq q := List.forall_mem_cons.mpr ⟨lw_p0, List.forall_mem_cons.mpr ⟨lw_p1, List.forall_mem_cons.mpr ⟨lw_p2, List.forall_mem_cons.mpr ⟨lw_p3, List.forall_mem_cons.mpr ⟨lw_p4, List.forall_mem_cons.mpr ⟨lw_p5, List.forall_mem_cons.mpr ⟨lw_p6, List.forall_mem_cons.mpr ⟨lw_p7, List.forall_mem_cons.mpr ⟨lw_p8, List.forall_mem_cons.mpr ⟨lw_p9, List.forall_mem_cons.mpr ⟨lw_p10, List.forall_mem_cons.mpr ⟨lw_p11, List.forall_mem_cons.mpr ⟨lw_p12, List.forall_mem_cons.mpr ⟨lw_p13, List.forall_mem_cons.mpr ⟨lw_p14, List.forall_mem_cons.mpr ⟨lw_p15, fun _ h => absurd h List.not_mem_nil⟩⟩⟩⟩⟩⟩⟩⟩⟩⟩⟩⟩⟩⟩⟩⟩
theorem lw_p16 : lw_okq (⟨"RibbonRoads$Reader", "readAtom", "(I)Z"⟩, 7) := ⟨⟨by decide +kernel, by decide +kernel⟩, List.mem_of_getElem? (i := 31) (by decide +kernel), List.mem_of_getElem? (i := 663) (by decide +kernel), List.mem_of_getElem? (i := 664) (by decide +kernel)⟩
theorem lw_p17 : lw_okq (⟨"RibbonRoads$Reader", "partOf", "(I)I"⟩, 7) := ⟨⟨by decide +kernel, by decide +kernel⟩, List.mem_of_getElem? (i := 31) (by decide +kernel), List.mem_of_getElem? (i := 667) (by decide +kernel), List.mem_of_getElem? (i := 668) (by decide +kernel)⟩
theorem lw_p18 : lw_okq (⟨"RibbonRoads$Reader", "readMay", "()Z"⟩, 7) := ⟨⟨by decide +kernel, by decide +kernel⟩, List.mem_of_getElem? (i := 31) (by decide +kernel), List.mem_of_getElem? (i := 675) (by decide +kernel), List.mem_of_getElem? (i := 676) (by decide +kernel)⟩
theorem lw_p19 : lw_okq (⟨"RibbonRoads$Reader", "readTruth", "(I)Z"⟩, 7) := ⟨⟨by decide +kernel, by decide +kernel⟩, List.mem_of_getElem? (i := 31) (by decide +kernel), List.mem_of_getElem? (i := 679) (by decide +kernel), List.mem_of_getElem? (i := 680) (by decide +kernel)⟩
theorem lw_p20 : lw_okq (⟨"RibbonRoads$Reader", "readBoth", "(I)Z"⟩, 7) := ⟨⟨by decide +kernel, by decide +kernel⟩, List.mem_of_getElem? (i := 31) (by decide +kernel), List.mem_of_getElem? (i := 683) (by decide +kernel), List.mem_of_getElem? (i := 684) (by decide +kernel)⟩
theorem lw_p21 : lw_okq (⟨"RibbonRoads$Reader", "readUnit", "(I)Z"⟩, 7) := ⟨⟨by decide +kernel, by decide +kernel⟩, List.mem_of_getElem? (i := 31) (by decide +kernel), List.mem_of_getElem? (i := 687) (by decide +kernel), List.mem_of_getElem? (i := 688) (by decide +kernel)⟩
theorem lw_p22 : lw_okq (⟨"RibbonRoads$Reader", "readComparison", "(I)Z"⟩, 7) := ⟨⟨by decide +kernel, by decide +kernel⟩, List.mem_of_getElem? (i := 31) (by decide +kernel), List.mem_of_getElem? (i := 691) (by decide +kernel), List.mem_of_getElem? (i := 692) (by decide +kernel)⟩
theorem lw_p23 : lw_okq (⟨"RibbonRoads$Reader", "readWet", "()Z"⟩, 7) := ⟨⟨by decide +kernel, by decide +kernel⟩, List.mem_of_getElem? (i := 31) (by decide +kernel), List.mem_of_getElem? (i := 695) (by decide +kernel), List.mem_of_getElem? (i := 696) (by decide +kernel)⟩
theorem lw_p24 : lw_okq (⟨"RibbonRoads$Reader", "readHour", "()Z"⟩, 7) := ⟨⟨by decide +kernel, by decide +kernel⟩, List.mem_of_getElem? (i := 31) (by decide +kernel), List.mem_of_getElem? (i := 699) (by decide +kernel), List.mem_of_getElem? (i := 700) (by decide +kernel)⟩
theorem lw_p25 : lw_okq (⟨"RibbonRoads$State", "isUnder", "(II)Z"⟩, 12) := ⟨⟨by decide +kernel, by decide +kernel⟩, List.mem_of_getElem? (i := 171) (by decide +kernel), List.mem_of_getElem? (i := 857) (by decide +kernel), List.mem_of_getElem? (i := 858) (by decide +kernel)⟩
theorem lw_p26 : lw_okq (⟨"RibbonRoads$State", "liftLast", "(LRibbonRoads$Land;I)V"⟩, 12) := ⟨⟨by decide +kernel, by decide +kernel⟩, List.mem_of_getElem? (i := 171) (by decide +kernel), List.mem_of_getElem? (i := 866) (by decide +kernel), List.mem_of_getElem? (i := 867) (by decide +kernel)⟩
theorem lw_p27 : lw_okq (⟨"RibbonRoads$State", "goOn", "(I)V"⟩, 12) := ⟨⟨by decide +kernel, by decide +kernel⟩, List.mem_of_getElem? (i := 171) (by decide +kernel), List.mem_of_getElem? (i := 912) (by decide +kernel), List.mem_of_getElem? (i := 913) (by decide +kernel)⟩
theorem lw_p28 : lw_okq (⟨"RibbonRoads", "isTray", "(I)Z"⟩, 11) := ⟨⟨by decide +kernel, by decide +kernel⟩, List.mem_of_getElem? (i := 23) (by decide +kernel), List.mem_of_getElem? (i := 932) (by decide +kernel), List.mem_of_getElem? (i := 933) (by decide +kernel)⟩
theorem lw_p29 : lw_okq (⟨"RibbonRoads", "takeOverTrial", "(I)V"⟩, 11) := ⟨⟨by decide +kernel, by decide +kernel⟩, List.mem_of_getElem? (i := 23) (by decide +kernel), List.mem_of_getElem? (i := 970) (by decide +kernel), List.mem_of_getElem? (i := 971) (by decide +kernel)⟩
theorem lw_p30 : lw_okq (⟨"RibbonRoads$Ways", "leadOf", "(II)I"⟩, 17) := ⟨⟨by decide +kernel, by decide +kernel⟩, List.mem_of_getElem? (i := 253) (by decide +kernel), List.mem_of_getElem? (i := 1004) (by decide +kernel), List.mem_of_getElem? (i := 1005) (by decide +kernel)⟩
theorem lw_p31 : lw_okq (⟨"RibbonRoads$Ways", "find", "()V"⟩, 17) := ⟨⟨by decide +kernel, by decide +kernel⟩, List.mem_of_getElem? (i := 253) (by decide +kernel), List.mem_of_getElem? (i := 1015) (by decide +kernel), List.mem_of_getElem? (i := 1016) (by decide +kernel)⟩
def lw_privs_2 : List (MethodName × Nat) := [(⟨"RibbonRoads$Reader", "readAtom", "(I)Z"⟩, 7), (⟨"RibbonRoads$Reader", "partOf", "(I)I"⟩, 7), (⟨"RibbonRoads$Reader", "readMay", "()Z"⟩, 7), (⟨"RibbonRoads$Reader", "readTruth", "(I)Z"⟩, 7), (⟨"RibbonRoads$Reader", "readBoth", "(I)Z"⟩, 7), (⟨"RibbonRoads$Reader", "readUnit", "(I)Z"⟩, 7), (⟨"RibbonRoads$Reader", "readComparison", "(I)Z"⟩, 7), (⟨"RibbonRoads$Reader", "readWet", "()Z"⟩, 7), (⟨"RibbonRoads$Reader", "readHour", "()Z"⟩, 7), (⟨"RibbonRoads$State", "isUnder", "(II)Z"⟩, 12), (⟨"RibbonRoads$State", "liftLast", "(LRibbonRoads$Land;I)V"⟩, 12), (⟨"RibbonRoads$State", "goOn", "(I)V"⟩, 12), (⟨"RibbonRoads", "isTray", "(I)Z"⟩, 11), (⟨"RibbonRoads", "takeOverTrial", "(I)V"⟩, 11), (⟨"RibbonRoads$Ways", "leadOf", "(II)I"⟩, 17), (⟨"RibbonRoads$Ways", "find", "()V"⟩, 17)]
theorem lw_r2 : ∀ q ∈ lw_privs_2, lw_okq q := List.forall_mem_cons.mpr ⟨lw_p16, List.forall_mem_cons.mpr ⟨lw_p17, List.forall_mem_cons.mpr ⟨lw_p18, List.forall_mem_cons.mpr ⟨lw_p19, List.forall_mem_cons.mpr ⟨lw_p20, List.forall_mem_cons.mpr ⟨lw_p21, List.forall_mem_cons.mpr ⟨lw_p22, List.forall_mem_cons.mpr ⟨lw_p23, List.forall_mem_cons.mpr ⟨lw_p24, List.forall_mem_cons.mpr ⟨lw_p25, List.forall_mem_cons.mpr ⟨lw_p26, List.forall_mem_cons.mpr ⟨lw_p27, List.forall_mem_cons.mpr ⟨lw_p28, List.forall_mem_cons.mpr ⟨lw_p29, List.forall_mem_cons.mpr ⟨lw_p30, List.forall_mem_cons.mpr ⟨lw_p31, fun _ h => absurd h List.not_mem_nil⟩⟩⟩⟩⟩⟩⟩⟩⟩⟩⟩⟩⟩⟩⟩⟩
theorem lw_p32 : lw_okq (⟨"RibbonRoads$Ways", "findNext", "(IJ)J"⟩, 17) := ⟨⟨by decide +kernel, by decide +kernel⟩, List.mem_of_getElem? (i := 253) (by decide +kernel), List.mem_of_getElem? (i := 1023) (by decide +kernel), List.mem_of_getElem? (i := 1024) (by decide +kernel)⟩
theorem lw_p33 : lw_okq (⟨"RibbonRoads$Ways", "betters", "(IIIJ)Z"⟩, 17) := ⟨⟨by decide +kernel, by decide +kernel⟩, List.mem_of_getElem? (i := 253) (by decide +kernel), List.mem_of_getElem? (i := 1027) (by decide +kernel), List.mem_of_getElem? (i := 1028) (by decide +kernel)⟩
theorem lw_p34 : lw_okq (⟨"RibbonRoads$Ways", "manyFrom", "(IIIJ)I"⟩, 17) := ⟨⟨by decide +kernel, by decide +kernel⟩, List.mem_of_getElem? (i := 253) (by decide +kernel), List.mem_of_getElem? (i := 1062) (by decide +kernel), List.mem_of_getElem? (i := 1063) (by decide +kernel)⟩
theorem lw_p35 : lw_okq (⟨"RibbonRoads$Ways", "apart", "(II)I"⟩, 17) := ⟨⟨by decide +kernel, by decide +kernel⟩, List.mem_of_getElem? (i := 253) (by decide +kernel), List.mem_of_getElem? (i := 1066) (by decide +kernel), List.mem_of_getElem? (i := 1067) (by decide +kernel)⟩
theorem lw_p36 : lw_okq (⟨"RibbonRoads$Ways", "besideAll", "(J)J"⟩, 17) := ⟨⟨by decide +kernel, by decide +kernel⟩, List.mem_of_getElem? (i := 253) (by decide +kernel), List.mem_of_getElem? (i := 1091) (by decide +kernel), List.mem_of_getElem? (i := 1092) (by decide +kernel)⟩
theorem lw_p37 : lw_okq (⟨"RibbonRoads$Piles", "timesUnder", "(II)I"⟩, 4) := ⟨⟨by decide +kernel, by decide +kernel⟩, List.mem_of_getElem? (i := 315) (by decide +kernel), List.mem_of_getElem? (i := 1138) (by decide +kernel), List.mem_of_getElem? (i := 1139) (by decide +kernel)⟩
theorem lw_p38 : lw_okq (⟨"RibbonRoads", "hoursTillIn", "(I)I"⟩, 11) := ⟨⟨by decide +kernel, by decide +kernel⟩, List.mem_of_getElem? (i := 23) (by decide +kernel), List.mem_of_getElem? (i := 1155) (by decide +kernel), List.mem_of_getElem? (i := 1156) (by decide +kernel)⟩
theorem lw_p39 : lw_okq (⟨"RibbonRoads", "whyNotFaded", "(II)I"⟩, 11) := ⟨⟨by decide +kernel, by decide +kernel⟩, List.mem_of_getElem? (i := 23) (by decide +kernel), List.mem_of_getElem? (i := 1191) (by decide +kernel), List.mem_of_getElem? (i := 1192) (by decide +kernel)⟩
theorem lw_p40 : lw_okq (⟨"RibbonRoads", "fadedCells", "(II)J"⟩, 11) := ⟨⟨by decide +kernel, by decide +kernel⟩, List.mem_of_getElem? (i := 23) (by decide +kernel), List.mem_of_getElem? (i := 1195) (by decide +kernel), List.mem_of_getElem? (i := 1196) (by decide +kernel)⟩
theorem lw_p41 : lw_okq (⟨"RibbonRoadsModel", "next", "()V"⟩, 31) := ⟨⟨by decide +kernel, by decide +kernel⟩, List.mem_of_getElem? (i := 1265) (by decide +kernel), List.mem_of_getElem? (i := 1380) (by decide +kernel), List.mem_of_getElem? (i := 1381) (by decide +kernel)⟩
theorem lw_p42 : lw_okq (⟨"RibbonRoadsModel", "see", "(I)I"⟩, 31) := ⟨⟨by decide +kernel, by decide +kernel⟩, List.mem_of_getElem? (i := 1265) (by decide +kernel), List.mem_of_getElem? (i := 1384) (by decide +kernel), List.mem_of_getElem? (i := 1385) (by decide +kernel)⟩
theorem lw_p43 : lw_okq (⟨"RibbonRoadsModel", "keyAt", "()I"⟩, 31) := ⟨⟨by decide +kernel, by decide +kernel⟩, List.mem_of_getElem? (i := 1265) (by decide +kernel), List.mem_of_getElem? (i := 1391) (by decide +kernel), List.mem_of_getElem? (i := 1392) (by decide +kernel)⟩
theorem lw_p44 : lw_okq (⟨"RibbonRoadsModel", "eats", "(I)Z"⟩, 31) := ⟨⟨by decide +kernel, by decide +kernel⟩, List.mem_of_getElem? (i := 1265) (by decide +kernel), List.mem_of_getElem? (i := 1402) (by decide +kernel), List.mem_of_getElem? (i := 1403) (by decide +kernel)⟩
theorem lw_p45 : lw_okq (⟨"RibbonRoadsModel", "is", "(I)Z"⟩, 31) := ⟨⟨by decide +kernel, by decide +kernel⟩, List.mem_of_getElem? (i := 1265) (by decide +kernel), List.mem_of_getElem? (i := 1406) (by decide +kernel), List.mem_of_getElem? (i := 1407) (by decide +kernel)⟩
theorem lw_p46 : lw_okq (⟨"RibbonRoadsModel", "fails", "(I)V"⟩, 31) := ⟨⟨by decide +kernel, by decide +kernel⟩, List.mem_of_getElem? (i := 1265) (by decide +kernel), List.mem_of_getElem? (i := 1410) (by decide +kernel), List.mem_of_getElem? (i := 1411) (by decide +kernel)⟩
theorem lw_p47 : lw_okq (⟨"RibbonRoadsModel", "takesN", "(II)I"⟩, 31) := ⟨⟨by decide +kernel, by decide +kernel⟩, List.mem_of_getElem? (i := 1265) (by decide +kernel), List.mem_of_getElem? (i := 1414) (by decide +kernel), List.mem_of_getElem? (i := 1415) (by decide +kernel)⟩
def lw_privs_3 : List (MethodName × Nat) := [(⟨"RibbonRoads$Ways", "findNext", "(IJ)J"⟩, 17), (⟨"RibbonRoads$Ways", "betters", "(IIIJ)Z"⟩, 17), (⟨"RibbonRoads$Ways", "manyFrom", "(IIIJ)I"⟩, 17), (⟨"RibbonRoads$Ways", "apart", "(II)I"⟩, 17), (⟨"RibbonRoads$Ways", "besideAll", "(J)J"⟩, 17), (⟨"RibbonRoads$Piles", "timesUnder", "(II)I"⟩, 4), (⟨"RibbonRoads", "hoursTillIn", "(I)I"⟩, 11), (⟨"RibbonRoads", "whyNotFaded", "(II)I"⟩, 11), (⟨"RibbonRoads", "fadedCells", "(II)J"⟩, 11), (⟨"RibbonRoadsModel", "next", "()V"⟩, 31), (⟨"RibbonRoadsModel", "see", "(I)I"⟩, 31), (⟨"RibbonRoadsModel", "keyAt", "()I"⟩, 31), (⟨"RibbonRoadsModel", "eats", "(I)Z"⟩, 31), (⟨"RibbonRoadsModel", "is", "(I)Z"⟩, 31), (⟨"RibbonRoadsModel", "fails", "(I)V"⟩, 31), (⟨"RibbonRoadsModel", "takesN", "(II)I"⟩, 31)]
theorem lw_r3 : ∀ q ∈ lw_privs_3, lw_okq q := List.forall_mem_cons.mpr ⟨lw_p32, List.forall_mem_cons.mpr ⟨lw_p33, List.forall_mem_cons.mpr ⟨lw_p34, List.forall_mem_cons.mpr ⟨lw_p35, List.forall_mem_cons.mpr ⟨lw_p36, List.forall_mem_cons.mpr ⟨lw_p37, List.forall_mem_cons.mpr ⟨lw_p38, List.forall_mem_cons.mpr ⟨lw_p39, List.forall_mem_cons.mpr ⟨lw_p40, List.forall_mem_cons.mpr ⟨lw_p41, List.forall_mem_cons.mpr ⟨lw_p42, List.forall_mem_cons.mpr ⟨lw_p43, List.forall_mem_cons.mpr ⟨lw_p44, List.forall_mem_cons.mpr ⟨lw_p45, List.forall_mem_cons.mpr ⟨lw_p46, List.forall_mem_cons.mpr ⟨lw_p47, fun _ h => absurd h List.not_mem_nil⟩⟩⟩⟩⟩⟩⟩⟩⟩⟩⟩⟩⟩⟩⟩⟩
theorem lw_p48 : lw_okq (⟨"RibbonRoadsModel", "ends", "()V"⟩, 31) := ⟨⟨by decide +kernel, by decide +kernel⟩, List.mem_of_getElem? (i := 1265) (by decide +kernel), List.mem_of_getElem? (i := 1418) (by decide +kernel), List.mem_of_getElem? (i := 1419) (by decide +kernel)⟩
theorem lw_p49 : lw_okq (⟨"RibbonRoadsModel", "readLine", "()V"⟩, 31) := ⟨⟨by decide +kernel, by decide +kernel⟩, List.mem_of_getElem? (i := 1265) (by decide +kernel), List.mem_of_getElem? (i := 1422) (by decide +kernel), List.mem_of_getElem? (i := 1423) (by decide +kernel)⟩
theorem lw_p50 : lw_okq (⟨"RibbonRoadsModel", "readRock", "()V"⟩, 31) := ⟨⟨by decide +kernel, by decide +kernel⟩, List.mem_of_getElem? (i := 1265) (by decide +kernel), List.mem_of_getElem? (i := 1426) (by decide +kernel), List.mem_of_getElem? (i := 1427) (by decide +kernel)⟩
theorem lw_p51 : lw_okq (⟨"RibbonRoadsModel", "readCell", "()I"⟩, 31) := ⟨⟨by decide +kernel, by decide +kernel⟩, List.mem_of_getElem? (i := 1265) (by decide +kernel), List.mem_of_getElem? (i := 1430) (by decide +kernel), List.mem_of_getElem? (i := 1431) (by decide +kernel)⟩
theorem lw_p52 : lw_okq (⟨"RibbonRoadsModel", "isDrumIn", "(I)Z"⟩, 31) := ⟨⟨by decide +kernel, by decide +kernel⟩, List.mem_of_getElem? (i := 1265) (by decide +kernel), List.mem_of_getElem? (i := 1434) (by decide +kernel), List.mem_of_getElem? (i := 1435) (by decide +kernel)⟩
theorem lw_p53 : lw_okq (⟨"RibbonRoadsModel", "readDrum", "()V"⟩, 31) := ⟨⟨by decide +kernel, by decide +kernel⟩, List.mem_of_getElem? (i := 1265) (by decide +kernel), List.mem_of_getElem? (i := 1438) (by decide +kernel), List.mem_of_getElem? (i := 1439) (by decide +kernel)⟩
theorem lw_p54 : lw_okq (⟨"RibbonRoadsModel", "readLaw", "(I)V"⟩, 31) := ⟨⟨by decide +kernel, by decide +kernel⟩, List.mem_of_getElem? (i := 1265) (by decide +kernel), List.mem_of_getElem? (i := 1442) (by decide +kernel), List.mem_of_getElem? (i := 1443) (by decide +kernel)⟩
theorem lw_p55 : lw_okq (⟨"RibbonRoadsModel", "readSum", "(I)V"⟩, 31) := ⟨⟨by decide +kernel, by decide +kernel⟩, List.mem_of_getElem? (i := 1265) (by decide +kernel), List.mem_of_getElem? (i := 1446) (by decide +kernel), List.mem_of_getElem? (i := 1447) (by decide +kernel)⟩
theorem lw_p56 : lw_okq (⟨"RibbonRoadsModel", "readTerm", "(I)V"⟩, 31) := ⟨⟨by decide +kernel, by decide +kernel⟩, List.mem_of_getElem? (i := 1265) (by decide +kernel), List.mem_of_getElem? (i := 1450) (by decide +kernel), List.mem_of_getElem? (i := 1451) (by decide +kernel)⟩
theorem lw_p57 : lw_okq (⟨"RibbonRoadsModel", "readAtom", "(I)V"⟩, 31) := ⟨⟨by decide +kernel, by decide +kernel⟩, List.mem_of_getElem? (i := 1265) (by decide +kernel), List.mem_of_getElem? (i := 1454) (by decide +kernel), List.mem_of_getElem? (i := 1455) (by decide +kernel)⟩
theorem lw_p58 : lw_okq (⟨"RibbonRoadsModel", "codes", "(I)V"⟩, 31) := ⟨⟨by decide +kernel, by decide +kernel⟩, List.mem_of_getElem? (i := 1265) (by decide +kernel), List.mem_of_getElem? (i := 1458) (by decide +kernel), List.mem_of_getElem? (i := 1459) (by decide +kernel)⟩
theorem lw_p59 : lw_okq (⟨"RibbonRoadsModel", "wordOf", "(I)I"⟩, 31) := ⟨⟨by decide +kernel, by decide +kernel⟩, List.mem_of_getElem? (i := 1265) (by decide +kernel), List.mem_of_getElem? (i := 1462) (by decide +kernel), List.mem_of_getElem? (i := 1463) (by decide +kernel)⟩
theorem lw_p60 : lw_okq (⟨"RibbonRoadsModel", "goesIn", "(I)Z"⟩, 31) := ⟨⟨by decide +kernel, by decide +kernel⟩, List.mem_of_getElem? (i := 1265) (by decide +kernel), List.mem_of_getElem? (i := 1466) (by decide +kernel), List.mem_of_getElem? (i := 1467) (by decide +kernel)⟩
theorem lw_p61 : lw_okq (⟨"RibbonRoadsModel", "readTruth", "(I)V"⟩, 31) := ⟨⟨by decide +kernel, by decide +kernel⟩, List.mem_of_getElem? (i := 1265) (by decide +kernel), List.mem_of_getElem? (i := 1470) (by decide +kernel), List.mem_of_getElem? (i := 1471) (by decide +kernel)⟩
theorem lw_p62 : lw_okq (⟨"RibbonRoadsModel", "readBoth", "(I)V"⟩, 31) := ⟨⟨by decide +kernel, by decide +kernel⟩, List.mem_of_getElem? (i := 1265) (by decide +kernel), List.mem_of_getElem? (i := 1474) (by decide +kernel), List.mem_of_getElem? (i := 1475) (by decide +kernel)⟩
theorem lw_p63 : lw_okq (⟨"RibbonRoadsModel", "readUnit", "(I)V"⟩, 31) := ⟨⟨by decide +kernel, by decide +kernel⟩, List.mem_of_getElem? (i := 1265) (by decide +kernel), List.mem_of_getElem? (i := 1478) (by decide +kernel), List.mem_of_getElem? (i := 1479) (by decide +kernel)⟩
def lw_privs_4 : List (MethodName × Nat) := [(⟨"RibbonRoadsModel", "ends", "()V"⟩, 31), (⟨"RibbonRoadsModel", "readLine", "()V"⟩, 31), (⟨"RibbonRoadsModel", "readRock", "()V"⟩, 31), (⟨"RibbonRoadsModel", "readCell", "()I"⟩, 31), (⟨"RibbonRoadsModel", "isDrumIn", "(I)Z"⟩, 31), (⟨"RibbonRoadsModel", "readDrum", "()V"⟩, 31), (⟨"RibbonRoadsModel", "readLaw", "(I)V"⟩, 31), (⟨"RibbonRoadsModel", "readSum", "(I)V"⟩, 31), (⟨"RibbonRoadsModel", "readTerm", "(I)V"⟩, 31), (⟨"RibbonRoadsModel", "readAtom", "(I)V"⟩, 31), (⟨"RibbonRoadsModel", "codes", "(I)V"⟩, 31), (⟨"RibbonRoadsModel", "wordOf", "(I)I"⟩, 31), (⟨"RibbonRoadsModel", "goesIn", "(I)Z"⟩, 31), (⟨"RibbonRoadsModel", "readTruth", "(I)V"⟩, 31), (⟨"RibbonRoadsModel", "readBoth", "(I)V"⟩, 31), (⟨"RibbonRoadsModel", "readUnit", "(I)V"⟩, 31)]
theorem lw_r4 : ∀ q ∈ lw_privs_4, lw_okq q := List.forall_mem_cons.mpr ⟨lw_p48, List.forall_mem_cons.mpr ⟨lw_p49, List.forall_mem_cons.mpr ⟨lw_p50, List.forall_mem_cons.mpr ⟨lw_p51, List.forall_mem_cons.mpr ⟨lw_p52, List.forall_mem_cons.mpr ⟨lw_p53, List.forall_mem_cons.mpr ⟨lw_p54, List.forall_mem_cons.mpr ⟨lw_p55, List.forall_mem_cons.mpr ⟨lw_p56, List.forall_mem_cons.mpr ⟨lw_p57, List.forall_mem_cons.mpr ⟨lw_p58, List.forall_mem_cons.mpr ⟨lw_p59, List.forall_mem_cons.mpr ⟨lw_p60, List.forall_mem_cons.mpr ⟨lw_p61, List.forall_mem_cons.mpr ⟨lw_p62, List.forall_mem_cons.mpr ⟨lw_p63, fun _ h => absurd h List.not_mem_nil⟩⟩⟩⟩⟩⟩⟩⟩⟩⟩⟩⟩⟩⟩⟩⟩
theorem lw_p64 : lw_okq (⟨"RibbonRoadsModel", "isCell", "(J)Z"⟩, 31) := ⟨⟨by decide +kernel, by decide +kernel⟩, List.mem_of_getElem? (i := 1265) (by decide +kernel), List.mem_of_getElem? (i := 1490) (by decide +kernel), List.mem_of_getElem? (i := 1491) (by decide +kernel)⟩
theorem lw_p65 : lw_okq (⟨"RibbonRoadsModel", "cells", "()I"⟩, 31) := ⟨⟨by decide +kernel, by decide +kernel⟩, List.mem_of_getElem? (i := 1265) (by decide +kernel), List.mem_of_getElem? (i := 1494) (by decide +kernel), List.mem_of_getElem? (i := 1495) (by decide +kernel)⟩
theorem lw_p66 : lw_okq (⟨"RibbonRoadsModel", "isHome", "(I)Z"⟩, 31) := ⟨⟨by decide +kernel, by decide +kernel⟩, List.mem_of_getElem? (i := 1265) (by decide +kernel), List.mem_of_getElem? (i := 1498) (by decide +kernel), List.mem_of_getElem? (i := 1499) (by decide +kernel)⟩
theorem lw_p67 : lw_okq (⟨"RibbonRoadsModel", "lieOn", "(I)I"⟩, 31) := ⟨⟨by decide +kernel, by decide +kernel⟩, List.mem_of_getElem? (i := 1265) (by decide +kernel), List.mem_of_getElem? (i := 1502) (by decide +kernel), List.mem_of_getElem? (i := 1503) (by decide +kernel)⟩
theorem lw_p68 : lw_okq (⟨"RibbonRoadsModel", "goerOn", "(I)I"⟩, 31) := ⟨⟨by decide +kernel, by decide +kernel⟩, List.mem_of_getElem? (i := 1265) (by decide +kernel), List.mem_of_getElem? (i := 1506) (by decide +kernel), List.mem_of_getElem? (i := 1507) (by decide +kernel)⟩
theorem lw_p69 : lw_okq (⟨"RibbonRoadsModel", "cellOf", "(I)I"⟩, 31) := ⟨⟨by decide +kernel, by decide +kernel⟩, List.mem_of_getElem? (i := 1265) (by decide +kernel), List.mem_of_getElem? (i := 1510) (by decide +kernel), List.mem_of_getElem? (i := 1511) (by decide +kernel)⟩
theorem lw_p70 : lw_okq (⟨"RibbonRoadsModel", "isDrum", "(J)Z"⟩, 31) := ⟨⟨by decide +kernel, by decide +kernel⟩, List.mem_of_getElem? (i := 1265) (by decide +kernel), List.mem_of_getElem? (i := 1518) (by decide +kernel), List.mem_of_getElem? (i := 1519) (by decide +kernel)⟩
theorem lw_p71 : lw_okq (⟨"RibbonRoadsModel", "endOf", "(I)I"⟩, 31) := ⟨⟨by decide +kernel, by decide +kernel⟩, List.mem_of_getElem? (i := 1265) (by decide +kernel), List.mem_of_getElem? (i := 1522) (by decide +kernel), List.mem_of_getElem? (i := 1523) (by decide +kernel)⟩
theorem lw_p72 : lw_okq (⟨"RibbonRoadsModel", "tookBy", "(I)I"⟩, 31) := ⟨⟨by decide +kernel, by decide +kernel⟩, List.mem_of_getElem? (i := 1265) (by decide +kernel), List.mem_of_getElem? (i := 1526) (by decide +kernel), List.mem_of_getElem? (i := 1527) (by decide +kernel)⟩
theorem lw_p73 : lw_okq (⟨"RibbonRoadsModel", "isGoer", "(J)Z"⟩, 31) := ⟨⟨by decide +kernel, by decide +kernel⟩, List.mem_of_getElem? (i := 1265) (by decide +kernel), List.mem_of_getElem? (i := 1538) (by decide +kernel), List.mem_of_getElem? (i := 1539) (by decide +kernel)⟩
theorem lw_p74 : lw_okq (⟨"RibbonRoadsModel", "costOf", "(II)I"⟩, 31) := ⟨⟨by decide +kernel, by decide +kernel⟩, List.mem_of_getElem? (i := 1265) (by decide +kernel), List.mem_of_getElem? (i := 1546) (by decide +kernel), List.mem_of_getElem? (i := 1547) (by decide +kernel)⟩
theorem lw_p75 : lw_okq (⟨"RibbonRoadsModel", "reckons", "(III)I"⟩, 31) := ⟨⟨by decide +kernel, by decide +kernel⟩, List.mem_of_getElem? (i := 1265) (by decide +kernel), List.mem_of_getElem? (i := 1550) (by decide +kernel), List.mem_of_getElem? (i := 1551) (by decide +kernel)⟩
theorem lw_p76 : lw_okq (⟨"RibbonRoadsModel", "whyLay", "(JJ)I"⟩, 31) := ⟨⟨by decide +kernel, by decide +kernel⟩, List.mem_of_getElem? (i := 1265) (by decide +kernel), List.mem_of_getElem? (i := 1563) (by decide +kernel), List.mem_of_getElem? (i := 1564) (by decide +kernel)⟩
theorem lw_p77 : lw_okq (⟨"RibbonRoadsModel", "beside", "(II)I"⟩, 31) := ⟨⟨by decide +kernel, by decide +kernel⟩, List.mem_of_getElem? (i := 1265) (by decide +kernel), List.mem_of_getElem? (i := 1568) (by decide +kernel), List.mem_of_getElem? (i := 1569) (by decide +kernel)⟩
theorem lw_p78 : lw_okq (⟨"RibbonRoadsModel", "isOpen", "(II)Z"⟩, 31) := ⟨⟨by decide +kernel, by decide +kernel⟩, List.mem_of_getElem? (i := 1265) (by decide +kernel), List.mem_of_getElem? (i := 1572) (by decide +kernel), List.mem_of_getElem? (i := 1573) (by decide +kernel)⟩
theorem lw_p79 : lw_okq (⟨"RibbonRoadsModel", "lets", "(II)Z"⟩, 31) := ⟨⟨by decide +kernel, by decide +kernel⟩, List.mem_of_getElem? (i := 1265) (by decide +kernel), List.mem_of_getElem? (i := 1576) (by decide +kernel), List.mem_of_getElem? (i := 1577) (by decide +kernel)⟩
def lw_privs_5 : List (MethodName × Nat) := [(⟨"RibbonRoadsModel", "isCell", "(J)Z"⟩, 31), (⟨"RibbonRoadsModel", "cells", "()I"⟩, 31), (⟨"RibbonRoadsModel", "isHome", "(I)Z"⟩, 31), (⟨"RibbonRoadsModel", "lieOn", "(I)I"⟩, 31), (⟨"RibbonRoadsModel", "goerOn", "(I)I"⟩, 31), (⟨"RibbonRoadsModel", "cellOf", "(I)I"⟩, 31), (⟨"RibbonRoadsModel", "isDrum", "(J)Z"⟩, 31), (⟨"RibbonRoadsModel", "endOf", "(I)I"⟩, 31), (⟨"RibbonRoadsModel", "tookBy", "(I)I"⟩, 31), (⟨"RibbonRoadsModel", "isGoer", "(J)Z"⟩, 31), (⟨"RibbonRoadsModel", "costOf", "(II)I"⟩, 31), (⟨"RibbonRoadsModel", "reckons", "(III)I"⟩, 31), (⟨"RibbonRoadsModel", "whyLay", "(JJ)I"⟩, 31), (⟨"RibbonRoadsModel", "beside", "(II)I"⟩, 31), (⟨"RibbonRoadsModel", "isOpen", "(II)Z"⟩, 31), (⟨"RibbonRoadsModel", "lets", "(II)Z"⟩, 31)]
theorem lw_r5 : ∀ q ∈ lw_privs_5, lw_okq q := List.forall_mem_cons.mpr ⟨lw_p64, List.forall_mem_cons.mpr ⟨lw_p65, List.forall_mem_cons.mpr ⟨lw_p66, List.forall_mem_cons.mpr ⟨lw_p67, List.forall_mem_cons.mpr ⟨lw_p68, List.forall_mem_cons.mpr ⟨lw_p69, List.forall_mem_cons.mpr ⟨lw_p70, List.forall_mem_cons.mpr ⟨lw_p71, List.forall_mem_cons.mpr ⟨lw_p72, List.forall_mem_cons.mpr ⟨lw_p73, List.forall_mem_cons.mpr ⟨lw_p74, List.forall_mem_cons.mpr ⟨lw_p75, List.forall_mem_cons.mpr ⟨lw_p76, List.forall_mem_cons.mpr ⟨lw_p77, List.forall_mem_cons.mpr ⟨lw_p78, List.forall_mem_cons.mpr ⟨lw_p79, fun _ h => absurd h List.not_mem_nil⟩⟩⟩⟩⟩⟩⟩⟩⟩⟩⟩⟩⟩⟩⟩⟩
theorem lw_p80 : lw_okq (⟨"RibbonRoadsModel", "keeps", "()V"⟩, 31) := ⟨⟨by decide +kernel, by decide +kernel⟩, List.mem_of_getElem? (i := 1265) (by decide +kernel), List.mem_of_getElem? (i := 1584) (by decide +kernel), List.mem_of_getElem? (i := 1585) (by decide +kernel)⟩
theorem lw_p81 : lw_okq (⟨"RibbonRoadsModel", "lays", "(IIZ)V"⟩, 31) := ⟨⟨by decide +kernel, by decide +kernel⟩, List.mem_of_getElem? (i := 1265) (by decide +kernel), List.mem_of_getElem? (i := 1588) (by decide +kernel), List.mem_of_getElem? (i := 1589) (by decide +kernel)⟩
theorem lw_p82 : lw_okq (⟨"RibbonRoadsModel", "notes", "()V"⟩, 31) := ⟨⟨by decide +kernel, by decide +kernel⟩, List.mem_of_getElem? (i := 1265) (by decide +kernel), List.mem_of_getElem? (i := 1592) (by decide +kernel), List.mem_of_getElem? (i := 1593) (by decide +kernel)⟩
theorem lw_p83 : lw_okq (⟨"RibbonRoadsModel", "whyBack", "(J)I"⟩, 31) := ⟨⟨by decide +kernel, by decide +kernel⟩, List.mem_of_getElem? (i := 1265) (by decide +kernel), List.mem_of_getElem? (i := 1600) (by decide +kernel), List.mem_of_getElem? (i := 1601) (by decide +kernel)⟩
theorem lw_p84 : lw_okq (⟨"RibbonRoadsModel", "takesOff", "(I)V"⟩, 31) := ⟨⟨by decide +kernel, by decide +kernel⟩, List.mem_of_getElem? (i := 1265) (by decide +kernel), List.mem_of_getElem? (i := 1604) (by decide +kernel), List.mem_of_getElem? (i := 1605) (by decide +kernel)⟩
theorem lw_p85 : lw_okq (⟨"RibbonRoadsModel", "whyIn", "(J)I"⟩, 31) := ⟨⟨by decide +kernel, by decide +kernel⟩, List.mem_of_getElem? (i := 1265) (by decide +kernel), List.mem_of_getElem? (i := 1612) (by decide +kernel), List.mem_of_getElem? (i := 1613) (by decide +kernel)⟩
theorem lw_p86 : lw_okq (⟨"RibbonRoadsModel", "takesAll", "(I)V"⟩, 31) := ⟨⟨by decide +kernel, by decide +kernel⟩, List.mem_of_getElem? (i := 1265) (by decide +kernel), List.mem_of_getElem? (i := 1616) (by decide +kernel), List.mem_of_getElem? (i := 1617) (by decide +kernel)⟩
theorem lw_p87 : lw_okq (⟨"RibbonRoadsModel", "whyOut", "(J)I"⟩, 31) := ⟨⟨by decide +kernel, by decide +kernel⟩, List.mem_of_getElem? (i := 1265) (by decide +kernel), List.mem_of_getElem? (i := 1624) (by decide +kernel), List.mem_of_getElem? (i := 1625) (by decide +kernel)⟩
theorem lw_p88 : lw_okq (⟨"RibbonRoadsModel", "setsOut", "(I)V"⟩, 31) := ⟨⟨by decide +kernel, by decide +kernel⟩, List.mem_of_getElem? (i := 1265) (by decide +kernel), List.mem_of_getElem? (i := 1628) (by decide +kernel), List.mem_of_getElem? (i := 1629) (by decide +kernel)⟩
theorem lw_p89 : lw_okq (⟨"RibbonRoadsModel", "goesHour", "()I"⟩, 31) := ⟨⟨by decide +kernel, by decide +kernel⟩, List.mem_of_getElem? (i := 1265) (by decide +kernel), List.mem_of_getElem? (i := 1646) (by decide +kernel), List.mem_of_getElem? (i := 1647) (by decide +kernel)⟩
theorem lw_p90 : lw_okq (⟨"RibbonRoadsModel", "goes", "(I)Z"⟩, 31) := ⟨⟨by decide +kernel, by decide +kernel⟩, List.mem_of_getElem? (i := 1265) (by decide +kernel), List.mem_of_getElem? (i := 1650) (by decide +kernel), List.mem_of_getElem? (i := 1651) (by decide +kernel)⟩
theorem lw_p91 : lw_okq (⟨"RibbonRoadsModel", "noTray", "(I)I"⟩, 31) := ⟨⟨by decide +kernel, by decide +kernel⟩, List.mem_of_getElem? (i := 1265) (by decide +kernel), List.mem_of_getElem? (i := 1664) (by decide +kernel), List.mem_of_getElem? (i := 1665) (by decide +kernel)⟩
theorem lw_p92 : lw_okq (⟨"RibbonRoadsModel", "tells", "(I)I"⟩, 31) := ⟨⟨by decide +kernel, by decide +kernel⟩, List.mem_of_getElem? (i := 1265) (by decide +kernel), List.mem_of_getElem? (i := 1668) (by decide +kernel), List.mem_of_getElem? (i := 1669) (by decide +kernel)⟩
theorem lw_p93 : lw_okq (⟨"RibbonRoadsModel", "whyNot", "(J)I"⟩, 31) := ⟨⟨by decide +kernel, by decide +kernel⟩, List.mem_of_getElem? (i := 1265) (by decide +kernel), List.mem_of_getElem? (i := 1672) (by decide +kernel), List.mem_of_getElem? (i := 1673) (by decide +kernel)⟩
theorem lw_p94 : lw_okq (⟨"RibbonRoadsModel", "does", "(I)V"⟩, 31) := ⟨⟨by decide +kernel, by decide +kernel⟩, List.mem_of_getElem? (i := 1265) (by decide +kernel), List.mem_of_getElem? (i := 1688) (by decide +kernel), List.mem_of_getElem? (i := 1689) (by decide +kernel)⟩
theorem lw_p95 : lw_okq (⟨"RibbonRoadsModel", "isAgain", "()V"⟩, 31) := ⟨⟨by decide +kernel, by decide +kernel⟩, List.mem_of_getElem? (i := 1265) (by decide +kernel), List.mem_of_getElem? (i := 1692) (by decide +kernel), List.mem_of_getElem? (i := 1693) (by decide +kernel)⟩
def lw_privs_6 : List (MethodName × Nat) := [(⟨"RibbonRoadsModel", "keeps", "()V"⟩, 31), (⟨"RibbonRoadsModel", "lays", "(IIZ)V"⟩, 31), (⟨"RibbonRoadsModel", "notes", "()V"⟩, 31), (⟨"RibbonRoadsModel", "whyBack", "(J)I"⟩, 31), (⟨"RibbonRoadsModel", "takesOff", "(I)V"⟩, 31), (⟨"RibbonRoadsModel", "whyIn", "(J)I"⟩, 31), (⟨"RibbonRoadsModel", "takesAll", "(I)V"⟩, 31), (⟨"RibbonRoadsModel", "whyOut", "(J)I"⟩, 31), (⟨"RibbonRoadsModel", "setsOut", "(I)V"⟩, 31), (⟨"RibbonRoadsModel", "goesHour", "()I"⟩, 31), (⟨"RibbonRoadsModel", "goes", "(I)Z"⟩, 31), (⟨"RibbonRoadsModel", "noTray", "(I)I"⟩, 31), (⟨"RibbonRoadsModel", "tells", "(I)I"⟩, 31), (⟨"RibbonRoadsModel", "whyNot", "(J)I"⟩, 31), (⟨"RibbonRoadsModel", "does", "(I)V"⟩, 31), (⟨"RibbonRoadsModel", "isAgain", "()V"⟩, 31)]
theorem lw_r6 : ∀ q ∈ lw_privs_6, lw_okq q := List.forall_mem_cons.mpr ⟨lw_p80, List.forall_mem_cons.mpr ⟨lw_p81, List.forall_mem_cons.mpr ⟨lw_p82, List.forall_mem_cons.mpr ⟨lw_p83, List.forall_mem_cons.mpr ⟨lw_p84, List.forall_mem_cons.mpr ⟨lw_p85, List.forall_mem_cons.mpr ⟨lw_p86, List.forall_mem_cons.mpr ⟨lw_p87, List.forall_mem_cons.mpr ⟨lw_p88, List.forall_mem_cons.mpr ⟨lw_p89, List.forall_mem_cons.mpr ⟨lw_p90, List.forall_mem_cons.mpr ⟨lw_p91, List.forall_mem_cons.mpr ⟨lw_p92, List.forall_mem_cons.mpr ⟨lw_p93, List.forall_mem_cons.mpr ⟨lw_p94, List.forall_mem_cons.mpr ⟨lw_p95, fun _ h => absurd h List.not_mem_nil⟩⟩⟩⟩⟩⟩⟩⟩⟩⟩⟩⟩⟩⟩⟩⟩
theorem lw_p96 : lw_okq (⟨"RibbonRoadsModel", "drawn", "()I"⟩, 31) := ⟨⟨by decide +kernel, by decide +kernel⟩, List.mem_of_getElem? (i := 1265) (by decide +kernel), List.mem_of_getElem? (i := 1705) (by decide +kernel), List.mem_of_getElem? (i := 1706) (by decide +kernel)⟩
theorem lw_p97 : lw_okq (⟨"RibbonRoadsModel", "draw", "(I)I"⟩, 31) := ⟨⟨by decide +kernel, by decide +kernel⟩, List.mem_of_getElem? (i := 1265) (by decide +kernel), List.mem_of_getElem? (i := 1709) (by decide +kernel), List.mem_of_getElem? (i := 1710) (by decide +kernel)⟩
theorem lw_p98 : lw_okq (⟨"RibbonRoadsModel", "leastFor", "(IIZ)I"⟩, 31) := ⟨⟨by decide +kernel, by decide +kernel⟩, List.mem_of_getElem? (i := 1265) (by decide +kernel), List.mem_of_getElem? (i := 1719) (by decide +kernel), List.mem_of_getElem? (i := 1720) (by decide +kernel)⟩
theorem lw_p99 : lw_okq (⟨"RibbonRoadsModel", "laysLeast", "(IIZ)V"⟩, 31) := ⟨⟨by decide +kernel, by decide +kernel⟩, List.mem_of_getElem? (i := 1265) (by decide +kernel), List.mem_of_getElem? (i := 1723) (by decide +kernel), List.mem_of_getElem? (i := 1724) (by decide +kernel)⟩
theorem lw_p100 : lw_okq (⟨"RibbonRoadsModel", "laysOpen", "(IZ)V"⟩, 31) := ⟨⟨by decide +kernel, by decide +kernel⟩, List.mem_of_getElem? (i := 1265) (by decide +kernel), List.mem_of_getElem? (i := 1727) (by decide +kernel), List.mem_of_getElem? (i := 1728) (by decide +kernel)⟩
theorem lw_p101 : lw_okq (⟨"RibbonRoadsModel", "leftOf", "(I)I"⟩, 31) := ⟨⟨by decide +kernel, by decide +kernel⟩, List.mem_of_getElem? (i := 1265) (by decide +kernel), List.mem_of_getElem? (i := 1732) (by decide +kernel), List.mem_of_getElem? (i := 1733) (by decide +kernel)⟩
theorem lw_p102 : lw_okq (⟨"RibbonRoadsModel", "cellsBy", "(I)I"⟩, 31) := ⟨⟨by decide +kernel, by decide +kernel⟩, List.mem_of_getElem? (i := 1265) (by decide +kernel), List.mem_of_getElem? (i := 1736) (by decide +kernel), List.mem_of_getElem? (i := 1737) (by decide +kernel)⟩
theorem lw_p103 : lw_okq (⟨"RibbonRoadsModel", "laysWay", "(II)I"⟩, 31) := ⟨⟨by decide +kernel, by decide +kernel⟩, List.mem_of_getElem? (i := 1265) (by decide +kernel), List.mem_of_getElem? (i := 1748) (by decide +kernel), List.mem_of_getElem? (i := 1749) (by decide +kernel)⟩
theorem lw_p104 : lw_okq (⟨"RibbonRoadsModel", "isNext", "(III)Z"⟩, 31) := ⟨⟨by decide +kernel, by decide +kernel⟩, List.mem_of_getElem? (i := 1265) (by decide +kernel), List.mem_of_getElem? (i := 1752) (by decide +kernel), List.mem_of_getElem? (i := 1753) (by decide +kernel)⟩
theorem lw_p105 : lw_okq (⟨"RibbonRoadsModel", "waysFrom", "(IIIJ)I"⟩, 31) := ⟨⟨by decide +kernel, by decide +kernel⟩, List.mem_of_getElem? (i := 1265) (by decide +kernel), List.mem_of_getElem? (i := 1761) (by decide +kernel), List.mem_of_getElem? (i := 1762) (by decide +kernel)⟩
theorem lw_p106 : lw_okq (⟨"RibbonRoadsModel", "aboveOf", "(I)I"⟩, 31) := ⟨⟨by decide +kernel, by decide +kernel⟩, List.mem_of_getElem? (i := 1265) (by decide +kernel), List.mem_of_getElem? (i := 1784) (by decide +kernel), List.mem_of_getElem? (i := 1785) (by decide +kernel)⟩
theorem lw_p107 : lw_okq (⟨"RibbonRoadsModel", "lying", "()I"⟩, 31) := ⟨⟨by decide +kernel, by decide +kernel⟩, List.mem_of_getElem? (i := 1265) (by decide +kernel), List.mem_of_getElem? (i := 1796) (by decide +kernel), List.mem_of_getElem? (i := 1797) (by decide +kernel)⟩
theorem lw_p108 : lw_okq (⟨"RibbonRoadsModel", "firstOf", "(I)I"⟩, 31) := ⟨⟨by decide +kernel, by decide +kernel⟩, List.mem_of_getElem? (i := 1265) (by decide +kernel), List.mem_of_getElem? (i := 1800) (by decide +kernel), List.mem_of_getElem? (i := 1801) (by decide +kernel)⟩
theorem lw_p109 : lw_okq (⟨"RibbonRoadsModel", "twistsOf", "(I)I"⟩, 31) := ⟨⟨by decide +kernel, by decide +kernel⟩, List.mem_of_getElem? (i := 1265) (by decide +kernel), List.mem_of_getElem? (i := 1815) (by decide +kernel), List.mem_of_getElem? (i := 1816) (by decide +kernel)⟩
theorem lw_p110 : lw_okq (⟨"RibbonRoadsModel", "overs", "(II)I"⟩, 31) := ⟨⟨by decide +kernel, by decide +kernel⟩, List.mem_of_getElem? (i := 1265) (by decide +kernel), List.mem_of_getElem? (i := 1819) (by decide +kernel), List.mem_of_getElem? (i := 1820) (by decide +kernel)⟩
theorem lw_p111 : lw_okq (⟨"RibbonRoadsModel", "ordersOf", "(I)I"⟩, 31) := ⟨⟨by decide +kernel, by decide +kernel⟩, List.mem_of_getElem? (i := 1265) (by decide +kernel), List.mem_of_getElem? (i := 1827) (by decide +kernel), List.mem_of_getElem? (i := 1828) (by decide +kernel)⟩
def lw_privs_7 : List (MethodName × Nat) := [(⟨"RibbonRoadsModel", "drawn", "()I"⟩, 31), (⟨"RibbonRoadsModel", "draw", "(I)I"⟩, 31), (⟨"RibbonRoadsModel", "leastFor", "(IIZ)I"⟩, 31), (⟨"RibbonRoadsModel", "laysLeast", "(IIZ)V"⟩, 31), (⟨"RibbonRoadsModel", "laysOpen", "(IZ)V"⟩, 31), (⟨"RibbonRoadsModel", "leftOf", "(I)I"⟩, 31), (⟨"RibbonRoadsModel", "cellsBy", "(I)I"⟩, 31), (⟨"RibbonRoadsModel", "laysWay", "(II)I"⟩, 31), (⟨"RibbonRoadsModel", "isNext", "(III)Z"⟩, 31), (⟨"RibbonRoadsModel", "waysFrom", "(IIIJ)I"⟩, 31), (⟨"RibbonRoadsModel", "aboveOf", "(I)I"⟩, 31), (⟨"RibbonRoadsModel", "lying", "()I"⟩, 31), (⟨"RibbonRoadsModel", "firstOf", "(I)I"⟩, 31), (⟨"RibbonRoadsModel", "twistsOf", "(I)I"⟩, 31), (⟨"RibbonRoadsModel", "overs", "(II)I"⟩, 31), (⟨"RibbonRoadsModel", "ordersOf", "(I)I"⟩, 31)]
theorem lw_r7 : ∀ q ∈ lw_privs_7, lw_okq q := List.forall_mem_cons.mpr ⟨lw_p96, List.forall_mem_cons.mpr ⟨lw_p97, List.forall_mem_cons.mpr ⟨lw_p98, List.forall_mem_cons.mpr ⟨lw_p99, List.forall_mem_cons.mpr ⟨lw_p100, List.forall_mem_cons.mpr ⟨lw_p101, List.forall_mem_cons.mpr ⟨lw_p102, List.forall_mem_cons.mpr ⟨lw_p103, List.forall_mem_cons.mpr ⟨lw_p104, List.forall_mem_cons.mpr ⟨lw_p105, List.forall_mem_cons.mpr ⟨lw_p106, List.forall_mem_cons.mpr ⟨lw_p107, List.forall_mem_cons.mpr ⟨lw_p108, List.forall_mem_cons.mpr ⟨lw_p109, List.forall_mem_cons.mpr ⟨lw_p110, List.forall_mem_cons.mpr ⟨lw_p111, fun _ h => absurd h List.not_mem_nil⟩⟩⟩⟩⟩⟩⟩⟩⟩⟩⟩⟩⟩⟩⟩⟩
theorem lw_p112 : lw_okq (⟨"RibbonRoadsModel", "arrivesIn", "(I)I"⟩, 31) := ⟨⟨by decide +kernel, by decide +kernel⟩, List.mem_of_getElem? (i := 1265) (by decide +kernel), List.mem_of_getElem? (i := 1835) (by decide +kernel), List.mem_of_getElem? (i := 1836) (by decide +kernel)⟩
theorem lw_p113 : lw_okq (⟨"RibbonRoadsModel", "isAllIn", "()Z"⟩, 31) := ⟨⟨by decide +kernel, by decide +kernel⟩, List.mem_of_getElem? (i := 1265) (by decide +kernel), List.mem_of_getElem? (i := 1847) (by decide +kernel), List.mem_of_getElem? (i := 1848) (by decide +kernel)⟩
theorem lw_p114 : lw_okq (⟨"RibbonRoadsModel", "goersOnCells", "()I"⟩, 31) := ⟨⟨by decide +kernel, by decide +kernel⟩, List.mem_of_getElem? (i := 1265) (by decide +kernel), List.mem_of_getElem? (i := 1859) (by decide +kernel), List.mem_of_getElem? (i := 1860) (by decide +kernel)⟩
theorem lw_p115 : lw_okq (⟨"RibbonRoadsModel", "noFaded", "(II)I"⟩, 31) := ⟨⟨by decide +kernel, by decide +kernel⟩, List.mem_of_getElem? (i := 1265) (by decide +kernel), List.mem_of_getElem? (i := 1871) (by decide +kernel), List.mem_of_getElem? (i := 1872) (by decide +kernel)⟩
theorem lw_p116 : lw_okq (⟨"RibbonRoadsModel", "fits", "(II)J"⟩, 31) := ⟨⟨by decide +kernel, by decide +kernel⟩, List.mem_of_getElem? (i := 1265) (by decide +kernel), List.mem_of_getElem? (i := 1876) (by decide +kernel), List.mem_of_getElem? (i := 1877) (by decide +kernel)⟩
theorem lw_p117 : lw_okq (⟨"RibbonRoadsModel", "rocksMany", "()I"⟩, 31) := ⟨⟨by decide +kernel, by decide +kernel⟩, List.mem_of_getElem? (i := 1265) (by decide +kernel), List.mem_of_getElem? (i := 1919) (by decide +kernel), List.mem_of_getElem? (i := 1920) (by decide +kernel)⟩
theorem lw_p118 : lw_okq (⟨"RibbonRoadsModel", "crossingsMany", "()I"⟩, 31) := ⟨⟨by decide +kernel, by decide +kernel⟩, List.mem_of_getElem? (i := 1265) (by decide +kernel), List.mem_of_getElem? (i := 1923) (by decide +kernel), List.mem_of_getElem? (i := 1924) (by decide +kernel)⟩
theorem lw_p119 : lw_okq (⟨"RibbonRoadsModel", "underWay", "()I"⟩, 31) := ⟨⟨by decide +kernel, by decide +kernel⟩, List.mem_of_getElem? (i := 1265) (by decide +kernel), List.mem_of_getElem? (i := 1927) (by decide +kernel), List.mem_of_getElem? (i := 1928) (by decide +kernel)⟩
def lw_privs_8 : List (MethodName × Nat) := [(⟨"RibbonRoadsModel", "arrivesIn", "(I)I"⟩, 31), (⟨"RibbonRoadsModel", "isAllIn", "()Z"⟩, 31), (⟨"RibbonRoadsModel", "goersOnCells", "()I"⟩, 31), (⟨"RibbonRoadsModel", "noFaded", "(II)I"⟩, 31), (⟨"RibbonRoadsModel", "fits", "(II)J"⟩, 31), (⟨"RibbonRoadsModel", "rocksMany", "()I"⟩, 31), (⟨"RibbonRoadsModel", "crossingsMany", "()I"⟩, 31), (⟨"RibbonRoadsModel", "underWay", "()I"⟩, 31)]
theorem lw_r8 : ∀ q ∈ lw_privs_8, lw_okq q := List.forall_mem_cons.mpr ⟨lw_p112, List.forall_mem_cons.mpr ⟨lw_p113, List.forall_mem_cons.mpr ⟨lw_p114, List.forall_mem_cons.mpr ⟨lw_p115, List.forall_mem_cons.mpr ⟨lw_p116, List.forall_mem_cons.mpr ⟨lw_p117, List.forall_mem_cons.mpr ⟨lw_p118, List.forall_mem_cons.mpr ⟨lw_p119, fun _ h => absurd h List.not_mem_nil⟩⟩⟩⟩⟩⟩⟩⟩
def lw_privs : List (MethodName × Nat) := lw_privs_1 ++ (lw_privs_2 ++ (lw_privs_3 ++ (lw_privs_4 ++ (lw_privs_5 ++ (lw_privs_6 ++ (lw_privs_7 ++ (lw_privs_8)))))))
def lw_tbl : List Cond := k2_sels lw_privs ++ tables_1
theorem lw_privs_ok : ∀ q ∈ lw_privs, lw_okq q := by
  show ∀ q ∈ lw_privs_1 ++ (lw_privs_2 ++ (lw_privs_3 ++ (lw_privs_4 ++ (lw_privs_5 ++ (lw_privs_6 ++ (lw_privs_7 ++ (lw_privs_8))))))), lw_okq q
  exact List.forall_mem_append.mpr ⟨lw_r1, List.forall_mem_append.mpr ⟨lw_r2, List.forall_mem_append.mpr ⟨lw_r3, List.forall_mem_append.mpr ⟨lw_r4, List.forall_mem_append.mpr ⟨lw_r5, List.forall_mem_append.mpr ⟨lw_r6, List.forall_mem_append.mpr ⟨lw_r7, lw_r8⟩⟩⟩⟩⟩⟩⟩
-- ===== end of PART A; then your names; then what follows =====
end
section
def RX0 : String := "RibbonRoads$Image"
def TX0 : u_T := fun k => match k with
  | 0 => ("RibbonRoads$Image", "made", "Z", false)
  | 1 => ("RibbonRoads$Image", "land", "LRibbonRoads$Land;", true)
  | _ => ("RibbonRoads$Image", "state", "LRibbonRoads$State;", true)
def tyX0 : Nat → FieldType := fun k => match k with
  | 0 => .boolean
  | 1 => .object "RibbonRoads$Land"
  | _ => .object "RibbonRoads$State"
abbrev wsX00 : List Cond := u_ws RX0 TX0 3
theorem nmX0 : ∀ a, a < 3 → ∀ b, b < 3 → a ≠ b → (TX0 a).2.1 ≠ (TX0 b).2.1 := by decide +kernel
theorem tyX0_ok : ∀ k, k < 3 → parseFieldDescriptor (TX0 k).2.2.1 = some (tyX0 k) := by decide +kernel
abbrev cX0_init : ByteArray := prog_2_method_1_code
def yX0_init : MethodName := ⟨RX0, "<init>", "()V"⟩
def RX1 : String := "RibbonRoads$Land"
def TX1 : u_T := fun k => match k with
  | 0 => ("RibbonRoads$Land", "wide", "I", false)
  | 1 => ("RibbonRoads$Land", "high", "I", false)
  | 2 => ("RibbonRoads$Land", "drums", "I", false)
  | 3 => ("RibbonRoads$Land", "rocks", "I", false)
  | 4 => ("RibbonRoads$Land", "lines", "I", false)
  | 5 => ("RibbonRoads$Land", "wet", "I", false)
  | 6 => ("RibbonRoads$Land", "hour", "I", false)
  | 7 => ("RibbonRoads$Land", "kinds", "[I", true)
  | 8 => ("RibbonRoads$Land", "drumCells", "[I", true)
  | 9 => ("RibbonRoads$Land", "drumYards", "[I", true)
  | 10 => ("RibbonRoads$Land", "takesLaw", "LRibbonRoads$Law;", true)
  | _ => ("RibbonRoads$Land", "mayLaw", "LRibbonRoads$Law;", true)
def tyX1 : Nat → FieldType := fun k => match k with
  | 0 => .int
  | 1 => .int
  | 2 => .int
  | 3 => .int
  | 4 => .int
  | 5 => .int
  | 6 => .int
  | 7 => .array .int
  | 8 => .array .int
  | 9 => .array .int
  | 10 => .object "RibbonRoads$Law"
  | _ => .object "RibbonRoads$Law"
abbrev wsX10 : List Cond := u_ws RX1 TX1 12
theorem nmX1 : ∀ a, a < 12 → ∀ b, b < 12 → a ≠ b → (TX1 a).2.1 ≠ (TX1 b).2.1 := by decide +kernel
theorem tyX1_ok : ∀ k, k < 12 → parseFieldDescriptor (TX1 k).2.2.1 = some (tyX1 k) := by decide +kernel
abbrev cX1_init : ByteArray := prog_3_method_1_code
def yX1_init : MethodName := ⟨RX1, "<init>", "()V"⟩
abbrev cX1_clear : ByteArray := prog_3_method_2_code
def yX1_clear : MethodName := ⟨RX1, "clear", "()V"⟩
abbrev cX1_copyOf : ByteArray := prog_3_method_3_code
def yX1_copyOf : MethodName := ⟨RX1, "copyOf", "(LRibbonRoads$Land;)V"⟩
abbrev cX1_cells : ByteArray := prog_3_method_4_code
def yX1_cells : MethodName := ⟨RX1, "cells", "()I"⟩
abbrev cX1_hasCell : ByteArray := prog_3_method_5_code
def yX1_hasCell : MethodName := ⟨RX1, "hasCell", "(I)Z"⟩
abbrev cX1_hasDrum : ByteArray := prog_3_method_6_code
def yX1_hasDrum : MethodName := ⟨RX1, "hasDrum", "(I)Z"⟩
abbrev cX1_column : ByteArray := prog_3_method_7_code
def yX1_column : MethodName := ⟨RX1, "column", "(I)I"⟩
abbrev cX1_row : ByteArray := prog_3_method_8_code
def yX1_row : MethodName := ⟨RX1, "row", "(I)I"⟩
abbrev cX1_beside : ByteArray := prog_3_method_9_code
def yX1_beside : MethodName := ⟨RX1, "beside", "(II)I"⟩
abbrev cX1_yardsFor : ByteArray := prog_3_method_10_code
def yX1_yardsFor : MethodName := ⟨RX1, "yardsFor", "(III)I"⟩
abbrev cX1_mayLie : ByteArray := prog_3_method_11_code
def yX1_mayLie : MethodName := ⟨RX1, "mayLie", "(IIII)Z"⟩
def RX2 : String := "RibbonRoads$Law"
def TX2 : u_T := fun k => match k with
  | 0 => ("RibbonRoads$Law", "code", "[I", true)
  | 1 => ("RibbonRoads$Law", "stack", "[I", true)
  | _ => ("RibbonRoads$Law", "size", "I", false)
def tyX2 : Nat → FieldType := fun k => match k with
  | 0 => .array .int
  | 1 => .array .int
  | _ => .int
abbrev wsX20 : List Cond := u_ws RX2 TX2 3
theorem nmX2 : ∀ a, a < 3 → ∀ b, b < 3 → a ≠ b → (TX2 a).2.1 ≠ (TX2 b).2.1 := by decide +kernel
theorem tyX2_ok : ∀ k, k < 3 → parseFieldDescriptor (TX2 k).2.2.1 = some (tyX2 k) := by decide +kernel
abbrev cX2_init : ByteArray := prog_4_method_1_code
def yX2_init : MethodName := ⟨RX2, "<init>", "()V"⟩
abbrev cX2_isTold : ByteArray := prog_4_method_2_code
def yX2_isTold : MethodName := ⟨RX2, "isTold", "()Z"⟩
abbrev cX2_clear : ByteArray := prog_4_method_3_code
def yX2_clear : MethodName := ⟨RX2, "clear", "()V"⟩
abbrev cX2_add : ByteArray := prog_4_method_4_code
def yX2_add : MethodName := ⟨RX2, "add", "(I)V"⟩
abbrev cX2_copyOf : ByteArray := prog_4_method_5_code
def yX2_copyOf : MethodName := ⟨RX2, "copyOf", "(LRibbonRoads$Law;)V"⟩
abbrev cX2_value : ByteArray := prog_4_method_6_code
def yX2_value : MethodName := ⟨RX2, "value", "(IIIII)I"⟩
def RX3 : String := "RibbonRoads$Past"
def TX3 : u_T := fun k => match k with
  | 0 => ("RibbonRoads$Past", "kept", "[LRibbonRoads$State;", true)
  | 1 => ("RibbonRoads$Past", "next", "I", false)
  | _ => ("RibbonRoads$Past", "size", "I", false)
def tyX3 : Nat → FieldType := fun k => match k with
  | 0 => .array (.object "RibbonRoads$State")
  | 1 => .int
  | _ => .int
abbrev wsX30 : List Cond := u_ws RX3 TX3 3
theorem nmX3 : ∀ a, a < 3 → ∀ b, b < 3 → a ≠ b → (TX3 a).2.1 ≠ (TX3 b).2.1 := by decide +kernel
theorem tyX3_ok : ∀ k, k < 3 → parseFieldDescriptor (TX3 k).2.2.1 = some (tyX3 k) := by decide +kernel
abbrev cX3_init : ByteArray := prog_5_method_1_code
def yX3_init : MethodName := ⟨RX3, "<init>", "()V"⟩
abbrev cX3_forget : ByteArray := prog_5_method_2_code
def yX3_forget : MethodName := ⟨RX3, "forget", "()V"⟩
abbrev cX3_keep : ByteArray := prog_5_method_3_code
def yX3_keep : MethodName := ⟨RX3, "keep", "(LRibbonRoads$State;)V"⟩
abbrev cX3_bringBack : ByteArray := prog_5_method_4_code
def yX3_bringBack : MethodName := ⟨RX3, "bringBack", "(ILRibbonRoads$State;)V"⟩
def RX4 : String := "RibbonRoads$Piles"
def TX4 : u_T := fun k => match k with
  | 0 => ("RibbonRoads$Piles", "overs", "[I", true)
  | 1 => ("RibbonRoads$Piles", "times", "[I", true)
  | 2 => ("RibbonRoads$Piles", "known", "[I", true)
  | _ => ("RibbonRoads$Piles", "lying", "I", false)
def tyX4 : Nat → FieldType := fun k => match k with
  | 0 => .array .int
  | 1 => .array .int
  | 2 => .array .int
  | _ => .int
abbrev wsX40 : List Cond := u_ws RX4 TX4 4
theorem nmX4 : ∀ a, a < 4 → ∀ b, b < 4 → a ≠ b → (TX4 a).2.1 ≠ (TX4 b).2.1 := by decide +kernel
theorem tyX4_ok : ∀ k, k < 4 → parseFieldDescriptor (TX4 k).2.2.1 = some (tyX4 k) := by decide +kernel
abbrev cX4_init : ByteArray := prog_6_method_1_code
def yX4_init : MethodName := ⟨RX4, "<init>", "()V"⟩
abbrev cX4_lookAt : ByteArray := prog_6_method_2_code
def yX4_lookAt : MethodName := ⟨RX4, "lookAt", "(LRibbonRoads$Land;LRibbonRoads$State;)V"⟩
abbrev cX4_allOver : ByteArray := prog_6_method_3_code
def yX4_allOver : MethodName := ⟨RX4, "allOver", "(I)I"⟩
abbrev cX4_firstFree : ByteArray := prog_6_method_4_code
def yX4_firstFree : MethodName := ⟨RX4, "firstFree", "(I)I"⟩
abbrev cX4_fewestTurned : ByteArray := prog_6_method_5_code
def yX4_fewestTurned : MethodName := ⟨RX4, "fewestTurned", "()I"⟩
abbrev cX4_timesUnder : ByteArray := prog_6_method_6_code
def yX4_timesUnder : MethodName := ⟨RX4, "timesUnder", "(II)I"⟩
abbrev cX4_howManyOrders : ByteArray := prog_6_method_7_code
def yX4_howManyOrders : MethodName := ⟨RX4, "howManyOrders", "()I"⟩
def RX5 : String := "RibbonRoads$Reader"
def TX5 : u_T := fun k => match k with
  | 0 => ("RibbonRoads$Reader", "fault", "I", false)
  | 1 => ("RibbonRoads$Reader", "place", "I", false)
  | 2 => ("RibbonRoads$Reader", "land", "LRibbonRoads$Land;", true)
  | 3 => ("RibbonRoads$Reader", "tokens", "LRibbonRoads$Tokens;", true)
  | 4 => ("RibbonRoads$Reader", "at", "I", false)
  | 5 => ("RibbonRoads$Reader", "law", "LRibbonRoads$Law;", false)
  | _ => ("RibbonRoads$Reader", "inMay", "Z", false)
def tyX5 : Nat → FieldType := fun k => match k with
  | 0 => .int
  | 1 => .int
  | 2 => .object "RibbonRoads$Land"
  | 3 => .object "RibbonRoads$Tokens"
  | 4 => .int
  | 5 => .object "RibbonRoads$Law"
  | _ => .boolean
abbrev wsX50 : List Cond := u_ws RX5 TX5 7
theorem nmX5 : ∀ a, a < 7 → ∀ b, b < 7 → a ≠ b → (TX5 a).2.1 ≠ (TX5 b).2.1 := by decide +kernel
theorem tyX5_ok : ∀ k, k < 7 → parseFieldDescriptor (TX5 k).2.2.1 = some (tyX5 k) := by decide +kernel
abbrev cX5_init : ByteArray := prog_7_method_1_code
def yX5_init : MethodName := ⟨RX5, "<init>", "()V"⟩
abbrev cX5_read : ByteArray := prog_7_method_2_code
def yX5_read : MethodName := ⟨RX5, "read", "([BI)Z"⟩
abbrev cX5_kind : ByteArray := prog_7_method_3_code
def yX5_kind : MethodName := ⟨RX5, "kind", "()I"⟩
abbrev cX5_fail : ByteArray := prog_7_method_4_code
def yX5_fail : MethodName := ⟨RX5, "fail", "(I)Z"⟩
abbrev cX5_skip : ByteArray := prog_7_method_5_code
def yX5_skip : MethodName := ⟨RX5, "skip", "(I)Z"⟩
abbrev cX5_readNumber : ByteArray := prog_7_method_6_code
def yX5_readNumber : MethodName := ⟨RX5, "readNumber", "(II)I"⟩
abbrev cX5_readLand : ByteArray := prog_7_method_7_code
def yX5_readLand : MethodName := ⟨RX5, "readLand", "()Z"⟩
abbrev cX5_readLine : ByteArray := prog_7_method_8_code
def yX5_readLine : MethodName := ⟨RX5, "readLine", "()Z"⟩
abbrev cX5_readWet : ByteArray := prog_7_method_9_code
def yX5_readWet : MethodName := ⟨RX5, "readWet", "()Z"⟩
abbrev cX5_readHour : ByteArray := prog_7_method_10_code
def yX5_readHour : MethodName := ⟨RX5, "readHour", "()Z"⟩
abbrev cX5_readEmptyCell : ByteArray := prog_7_method_11_code
def yX5_readEmptyCell : MethodName := ⟨RX5, "readEmptyCell", "()I"⟩
abbrev cX5_readRock : ByteArray := prog_7_method_12_code
def yX5_readRock : MethodName := ⟨RX5, "readRock", "()Z"⟩
abbrev cX5_readDrum : ByteArray := prog_7_method_13_code
def yX5_readDrum : MethodName := ⟨RX5, "readDrum", "()Z"⟩
abbrev cX5_readTakes : ByteArray := prog_7_method_14_code
def yX5_readTakes : MethodName := ⟨RX5, "readTakes", "()Z"⟩
abbrev cX5_readMay : ByteArray := prog_7_method_15_code
def yX5_readMay : MethodName := ⟨RX5, "readMay", "()Z"⟩
abbrev cX5_readTruth : ByteArray := prog_7_method_16_code
def yX5_readTruth : MethodName := ⟨RX5, "readTruth", "(I)Z"⟩
abbrev cX5_readBoth : ByteArray := prog_7_method_17_code
def yX5_readBoth : MethodName := ⟨RX5, "readBoth", "(I)Z"⟩
abbrev cX5_readUnit : ByteArray := prog_7_method_18_code
def yX5_readUnit : MethodName := ⟨RX5, "readUnit", "(I)Z"⟩
abbrev cX5_readComparison : ByteArray := prog_7_method_19_code
def yX5_readComparison : MethodName := ⟨RX5, "readComparison", "(I)Z"⟩
abbrev cX5_readSum : ByteArray := prog_7_method_20_code
def yX5_readSum : MethodName := ⟨RX5, "readSum", "(I)Z"⟩
abbrev cX5_readTerm : ByteArray := prog_7_method_21_code
def yX5_readTerm : MethodName := ⟨RX5, "readTerm", "(I)Z"⟩
abbrev cX5_readAtom : ByteArray := prog_7_method_22_code
def yX5_readAtom : MethodName := ⟨RX5, "readAtom", "(I)Z"⟩
abbrev cX5_partOf : ByteArray := prog_7_method_23_code
def yX5_partOf : MethodName := ⟨RX5, "partOf", "(I)I"⟩
def RX6 : String := "RibbonRoads$State"
def TX6 : u_T := fun k => match k with
  | 0 => ("RibbonRoads$State", "lengths", "[I", true)
  | 1 => ("RibbonRoads$State", "yards", "[I", true)
  | 2 => ("RibbonRoads$State", "laid", "[I", true)
  | 3 => ("RibbonRoads$State", "took", "[I", true)
  | 4 => ("RibbonRoads$State", "upper", "[I", true)
  | 5 => ("RibbonRoads$State", "lower", "[I", true)
  | 6 => ("RibbonRoads$State", "travellers", "I", false)
  | 7 => ("RibbonRoads$State", "roads", "[I", true)
  | 8 => ("RibbonRoads$State", "places", "[I", true)
  | 9 => ("RibbonRoads$State", "waited", "[I", true)
  | 10 => ("RibbonRoads$State", "wet", "I", false)
  | _ => ("RibbonRoads$State", "hour", "I", false)
def tyX6 : Nat → FieldType := fun k => match k with
  | 0 => .array .int
  | 1 => .array .int
  | 2 => .array .int
  | 3 => .array .int
  | 4 => .array .int
  | 5 => .array .int
  | 6 => .int
  | 7 => .array .int
  | 8 => .array .int
  | 9 => .array .int
  | 10 => .int
  | _ => .int
abbrev wsX60 : List Cond := u_ws RX6 TX6 12
theorem nmX6 : ∀ a, a < 12 → ∀ b, b < 12 → a ≠ b → (TX6 a).2.1 ≠ (TX6 b).2.1 := by decide +kernel
theorem tyX6_ok : ∀ k, k < 12 → parseFieldDescriptor (TX6 k).2.2.1 = some (tyX6 k) := by decide +kernel
abbrev cX6_init : ByteArray := prog_8_method_1_code
def yX6_init : MethodName := ⟨RX6, "<init>", "()V"⟩
abbrev cX6_begin : ByteArray := prog_8_method_2_code
def yX6_begin : MethodName := ⟨RX6, "begin", "(LRibbonRoads$Land;)V"⟩
abbrev cX6_copyOf : ByteArray := prog_8_method_3_code
def yX6_copyOf : MethodName := ⟨RX6, "copyOf", "(LRibbonRoads$State;)V"⟩
abbrev cX6_lying : ByteArray := prog_8_method_4_code
def yX6_lying : MethodName := ⟨RX6, "lying", "(I)I"⟩
abbrev cX6_cellOf : ByteArray := prog_8_method_5_code
def yX6_cellOf : MethodName := ⟨RX6, "cellOf", "(II)I"⟩
abbrev cX6_endOf : ByteArray := prog_8_method_6_code
def yX6_endOf : MethodName := ⟨RX6, "endOf", "(LRibbonRoads$Land;I)I"⟩
abbrev cX6_yardsLying : ByteArray := prog_8_method_7_code
def yX6_yardsLying : MethodName := ⟨RX6, "yardsLying", "(I)I"⟩
abbrev cX6_allYards : ByteArray := prog_8_method_8_code
def yX6_allYards : MethodName := ⟨RX6, "allYards", "(LRibbonRoads$Land;)I"⟩
abbrev cX6_ribbonsLying : ByteArray := prog_8_method_9_code
def yX6_ribbonsLying : MethodName := ⟨RX6, "ribbonsLying", "(LRibbonRoads$Land;)I"⟩
abbrev cX6_crossed : ByteArray := prog_8_method_10_code
def yX6_crossed : MethodName := ⟨RX6, "crossed", "(LRibbonRoads$Land;)I"⟩
abbrev cX6_isUnder : ByteArray := prog_8_method_11_code
def yX6_isUnder : MethodName := ⟨RX6, "isUnder", "(II)Z"⟩
abbrev cX6_isOpen : ByteArray := prog_8_method_12_code
def yX6_isOpen : MethodName := ⟨RX6, "isOpen", "(LRibbonRoads$Land;II)Z"⟩
abbrev cX6_whyNotLaid : ByteArray := prog_8_method_13_code
def yX6_whyNotLaid : MethodName := ⟨RX6, "whyNotLaid", "(LRibbonRoads$Land;II)I"⟩
abbrev cX6_tryLaying : ByteArray := prog_8_method_14_code
def yX6_tryLaying : MethodName := ⟨RX6, "tryLaying", "(LRibbonRoads$Land;IIZ)I"⟩
abbrev cX6_whyNotBack : ByteArray := prog_8_method_15_code
def yX6_whyNotBack : MethodName := ⟨RX6, "whyNotBack", "(LRibbonRoads$Land;I)I"⟩
abbrev cX6_tryBack : ByteArray := prog_8_method_16_code
def yX6_tryBack : MethodName := ⟨RX6, "tryBack", "(LRibbonRoads$Land;I)I"⟩
abbrev cX6_whyNotIn : ByteArray := prog_8_method_17_code
def yX6_whyNotIn : MethodName := ⟨RX6, "whyNotIn", "(LRibbonRoads$Land;I)I"⟩
abbrev cX6_tryIn : ByteArray := prog_8_method_18_code
def yX6_tryIn : MethodName := ⟨RX6, "tryIn", "(LRibbonRoads$Land;I)I"⟩
abbrev cX6_liftLast : ByteArray := prog_8_method_19_code
def yX6_liftLast : MethodName := ⟨RX6, "liftLast", "(LRibbonRoads$Land;I)V"⟩
abbrev cX6_whyNotOut : ByteArray := prog_8_method_20_code
def yX6_whyNotOut : MethodName := ⟨RX6, "whyNotOut", "(LRibbonRoads$Land;I)I"⟩
abbrev cX6_tryOut : ByteArray := prog_8_method_21_code
def yX6_tryOut : MethodName := ⟨RX6, "tryOut", "(LRibbonRoads$Land;I)I"⟩
abbrev cX6_hasTraveller : ByteArray := prog_8_method_22_code
def yX6_hasTraveller : MethodName := ⟨RX6, "hasTraveller", "(I)Z"⟩
abbrev cX6_hasArrived : ByteArray := prog_8_method_23_code
def yX6_hasArrived : MethodName := ⟨RX6, "hasArrived", "(I)Z"⟩
abbrev cX6_travellerOn : ByteArray := prog_8_method_24_code
def yX6_travellerOn : MethodName := ⟨RX6, "travellerOn", "(I)I"⟩
abbrev cX6_onTheWay : ByteArray := prog_8_method_25_code
def yX6_onTheWay : MethodName := ⟨RX6, "onTheWay", "()I"⟩
abbrev cX6_onCells : ByteArray := prog_8_method_26_code
def yX6_onCells : MethodName := ⟨RX6, "onCells", "()I"⟩
abbrev cX6_passHour : ByteArray := prog_8_method_27_code
def yX6_passHour : MethodName := ⟨RX6, "passHour", "()I"⟩
abbrev cX6_goOn : ByteArray := prog_8_method_28_code
def yX6_goOn : MethodName := ⟨RX6, "goOn", "(I)V"⟩
abbrev cX6_deedOver : ByteArray := prog_8_method_29_code
def yX6_deedOver : MethodName := ⟨RX6, "deedOver", "(II)I"⟩
abbrev cX6_follow : ByteArray := prog_8_method_30_code
def yX6_follow : MethodName := ⟨RX6, "follow", "(LRibbonRoads$Land;J)I"⟩
abbrev cX6_followAll : ByteArray := prog_8_method_31_code
def yX6_followAll : MethodName := ⟨RX6, "followAll", "(LRibbonRoads$Land;LRibbonRoads$Tray;)I"⟩
abbrev cX6_followSeason : ByteArray := prog_8_method_32_code
def yX6_followSeason : MethodName := ⟨RX6, "followSeason", "(LRibbonRoads$Land;II)I"⟩
abbrev cX6_drawn : ByteArray := prog_8_method_33_code
def yX6_drawn : MethodName := ⟨RX6, "drawn", "(I)I"⟩
def RX7 : String := "RibbonRoads$Tokens"
def TX7 : u_T := fun k => match k with
  | 0 => ("RibbonRoads$Tokens", "kinds", "[I", true)
  | 1 => ("RibbonRoads$Tokens", "values", "[I", true)
  | 2 => ("RibbonRoads$Tokens", "places", "[I", true)
  | _ => ("RibbonRoads$Tokens", "size", "I", false)
def tyX7 : Nat → FieldType := fun k => match k with
  | 0 => .array .int
  | 1 => .array .int
  | 2 => .array .int
  | _ => .int
abbrev wsX70 : List Cond := u_ws RX7 TX7 4
theorem nmX7 : ∀ a, a < 4 → ∀ b, b < 4 → a ≠ b → (TX7 a).2.1 ≠ (TX7 b).2.1 := by decide +kernel
theorem tyX7_ok : ∀ k, k < 4 → parseFieldDescriptor (TX7 k).2.2.1 = some (tyX7 k) := by decide +kernel
abbrev cX7_init : ByteArray := prog_9_method_1_code
def yX7_init : MethodName := ⟨RX7, "<init>", "()V"⟩
abbrev cX7_kind : ByteArray := prog_9_method_2_code
def yX7_kind : MethodName := ⟨RX7, "kind", "(I)I"⟩
abbrev cX7_value : ByteArray := prog_9_method_3_code
def yX7_value : MethodName := ⟨RX7, "value", "(I)I"⟩
abbrev cX7_place : ByteArray := prog_9_method_4_code
def yX7_place : MethodName := ⟨RX7, "place", "(I)I"⟩
abbrev cX7_cut : ByteArray := prog_9_method_5_code
def yX7_cut : MethodName := ⟨RX7, "cut", "([BI)V"⟩
abbrev cX7_cutNumber : ByteArray := prog_9_method_6_code
def yX7_cutNumber : MethodName := ⟨RX7, "cutNumber", "([BII)I"⟩
abbrev cX7_cutWord : ByteArray := prog_9_method_7_code
def yX7_cutWord : MethodName := ⟨RX7, "cutWord", "([BII)I"⟩
abbrev cX7_add : ByteArray := prog_9_method_8_code
def yX7_add : MethodName := ⟨RX7, "add", "(III)V"⟩
abbrev cX7_isDigit : ByteArray := prog_9_method_9_code
def yX7_isDigit : MethodName := ⟨RX7, "isDigit", "(I)Z"⟩
abbrev cX7_isLetter : ByteArray := prog_9_method_10_code
def yX7_isLetter : MethodName := ⟨RX7, "isLetter", "(I)Z"⟩
abbrev cX7_wordOf : ByteArray := prog_9_method_11_code
def yX7_wordOf : MethodName := ⟨RX7, "wordOf", "([BII)I"⟩
abbrev cX7_spells : ByteArray := prog_9_method_12_code
def yX7_spells : MethodName := ⟨RX7, "spells", "([BIILjava/lang/String;)Z"⟩
def RX8 : String := "RibbonRoads$Tray"
def TX8 : u_T := fun k => match k with
  | 0 => ("RibbonRoads$Tray", "held", "[J", true)
  | 1 => ("RibbonRoads$Tray", "sort", "I", false)
  | _ => ("RibbonRoads$Tray", "size", "I", false)
def tyX8 : Nat → FieldType := fun k => match k with
  | 0 => .array .long
  | 1 => .int
  | _ => .int
abbrev wsX80 : List Cond := u_ws RX8 TX8 3
theorem nmX8 : ∀ a, a < 3 → ∀ b, b < 3 → a ≠ b → (TX8 a).2.1 ≠ (TX8 b).2.1 := by decide +kernel
theorem tyX8_ok : ∀ k, k < 3 → parseFieldDescriptor (TX8 k).2.2.1 = some (tyX8 k) := by decide +kernel
abbrev cX8_init : ByteArray := prog_10_method_1_code
def yX8_init : MethodName := ⟨RX8, "<init>", "()V"⟩
abbrev cX8_isMissing : ByteArray := prog_10_method_2_code
def yX8_isMissing : MethodName := ⟨RX8, "isMissing", "()Z"⟩
abbrev cX8_begin : ByteArray := prog_10_method_3_code
def yX8_begin : MethodName := ⟨RX8, "begin", "(II)V"⟩
abbrev cX8_number : ByteArray := prog_10_method_4_code
def yX8_number : MethodName := ⟨RX8, "number", "(I)J"⟩
abbrev cX8_put : ByteArray := prog_10_method_5_code
def yX8_put : MethodName := ⟨RX8, "put", "(IJ)J"⟩
def RX9 : String := "RibbonRoads$Ways"
def TX9 : u_T := fun k => match k with
  | 0 => ("RibbonRoads$Ways", "least", "[I", true)
  | 1 => ("RibbonRoads$Ways", "steps", "[I", true)
  | 2 => ("RibbonRoads$Ways", "passed", "[J", true)
  | 3 => ("RibbonRoads$Ways", "turns", "[J", true)
  | 4 => ("RibbonRoads$Ways", "newLeast", "[I", true)
  | 5 => ("RibbonRoads$Ways", "newPassed", "[J", true)
  | 6 => ("RibbonRoads$Ways", "newTurns", "[J", true)
  | 7 => ("RibbonRoads$Ways", "costs", "[I", true)
  | 8 => ("RibbonRoads$Ways", "leads", "[I", true)
  | 9 => ("RibbonRoads$Ways", "cells", "I", false)
  | 10 => ("RibbonRoads$Ways", "wide", "I", false)
  | 11 => ("RibbonRoads$Ways", "start", "I", false)
  | 12 => ("RibbonRoads$Ways", "longest", "I", false)
  | 13 => ("RibbonRoads$Ways", "open", "J", false)
  | 14 => ("RibbonRoads$Ways", "crossed", "J", false)
  | 15 => ("RibbonRoads$Ways", "eastEdge", "J", false)
  | _ => ("RibbonRoads$Ways", "westEdge", "J", false)
def tyX9 : Nat → FieldType := fun k => match k with
  | 0 => .array .int
  | 1 => .array .int
  | 2 => .array .long
  | 3 => .array .long
  | 4 => .array .int
  | 5 => .array .long
  | 6 => .array .long
  | 7 => .array .int
  | 8 => .array .int
  | 9 => .int
  | 10 => .int
  | 11 => .int
  | 12 => .int
  | 13 => .long
  | 14 => .long
  | 15 => .long
  | _ => .long
abbrev wsX90 : List Cond := u_ws RX9 TX9 17
theorem nmX9 : ∀ a, a < 17 → ∀ b, b < 17 → a ≠ b → (TX9 a).2.1 ≠ (TX9 b).2.1 := by decide +kernel
theorem tyX9_ok : ∀ k, k < 17 → parseFieldDescriptor (TX9 k).2.2.1 = some (tyX9 k) := by decide +kernel
abbrev cX9_init : ByteArray := prog_11_method_1_code
def yX9_init : MethodName := ⟨RX9, "<init>", "()V"⟩
abbrev cX9_comesTo : ByteArray := prog_11_method_2_code
def yX9_comesTo : MethodName := ⟨RX9, "comesTo", "(I)Z"⟩
abbrev cX9_begin : ByteArray := prog_11_method_3_code
def yX9_begin : MethodName := ⟨RX9, "begin", "(LRibbonRoads$Land;LRibbonRoads$State;I)V"⟩
abbrev cX9_findShort : ByteArray := prog_11_method_4_code
def yX9_findShort : MethodName := ⟨RX9, "findShort", "(LRibbonRoads$Land;LRibbonRoads$State;I)V"⟩
abbrev cX9_findLeastCrossed : ByteArray := prog_11_method_5_code
def yX9_findLeastCrossed : MethodName := ⟨RX9, "findLeastCrossed", "(LRibbonRoads$Land;LRibbonRoads$State;I)V"⟩
abbrev cX9_find : ByteArray := prog_11_method_6_code
def yX9_find : MethodName := ⟨RX9, "find", "()V"⟩
abbrev cX9_findNext : ByteArray := prog_11_method_7_code
def yX9_findNext : MethodName := ⟨RX9, "findNext", "(IJ)J"⟩
abbrev cX9_betters : ByteArray := prog_11_method_8_code
def yX9_betters : MethodName := ⟨RX9, "betters", "(IIIJ)Z"⟩
abbrev cX9_withTurn : ByteArray := prog_11_method_9_code
def yX9_withTurn : MethodName := ⟨RX9, "withTurn", "(JI)J"⟩
abbrev cX9_turnOf : ByteArray := prog_11_method_10_code
def yX9_turnOf : MethodName := ⟨RX9, "turnOf", "(II)I"⟩
abbrev cX9_endsBy : ByteArray := prog_11_method_11_code
def yX9_endsBy : MethodName := ⟨RX9, "endsBy", "(J)J"⟩
abbrev cX9_reachesWithout : ByteArray := prog_11_method_12_code
def yX9_reachesWithout : MethodName := ⟨RX9, "reachesWithout", "(II)Z"⟩
abbrev cX9_besideAll : ByteArray := prog_11_method_13_code
def yX9_besideAll : MethodName := ⟨RX9, "besideAll", "(J)J"⟩
abbrev cX9_howMany : ByteArray := prog_11_method_14_code
def yX9_howMany : MethodName := ⟨RX9, "howMany", "(II)I"⟩
abbrev cX9_manyFrom : ByteArray := prog_11_method_15_code
def yX9_manyFrom : MethodName := ⟨RX9, "manyFrom", "(IIIJ)I"⟩
abbrev cX9_apart : ByteArray := prog_11_method_16_code
def yX9_apart : MethodName := ⟨RX9, "apart", "(II)I"⟩
abbrev cX9_leadOf : ByteArray := prog_11_method_17_code
def yX9_leadOf : MethodName := ⟨RX9, "leadOf", "(II)I"⟩
abbrev cX9_isIn : ByteArray := prog_11_method_18_code
def yX9_isIn : MethodName := ⟨RX9, "isIn", "(JI)Z"⟩
def RX10 : String := "RibbonRoads"
def TX10 : u_T := fun k => match k with
  | 0 => ("RibbonRoads", "tape", "[B", true)
  | 1 => ("RibbonRoads", "taped", "I", false)
  | 2 => ("RibbonRoads", "reader", "LRibbonRoads$Reader;", true)
  | 3 => ("RibbonRoads", "here", "LRibbonRoads$Land;", true)
  | 4 => ("RibbonRoads", "now", "LRibbonRoads$State;", true)
  | 5 => ("RibbonRoads", "trial", "LRibbonRoads$State;", true)
  | 6 => ("RibbonRoads", "past", "LRibbonRoads$Past;", true)
  | 7 => ("RibbonRoads", "trays", "[LRibbonRoads$Tray;", true)
  | 8 => ("RibbonRoads", "images", "[LRibbonRoads$Image;", true)
  | 9 => ("RibbonRoads", "search", "LRibbonRoads$Ways;", true)
  | _ => ("RibbonRoads", "piles", "LRibbonRoads$Piles;", true)
def tyX10 : Nat → FieldType := fun k => match k with
  | 0 => .array .byte
  | 1 => .int
  | 2 => .object "RibbonRoads$Reader"
  | 3 => .object "RibbonRoads$Land"
  | 4 => .object "RibbonRoads$State"
  | 5 => .object "RibbonRoads$State"
  | 6 => .object "RibbonRoads$Past"
  | 7 => .array (.object "RibbonRoads$Tray")
  | 8 => .array (.object "RibbonRoads$Image")
  | 9 => .object "RibbonRoads$Ways"
  | _ => .object "RibbonRoads$Piles"
abbrev wsX100 : List Cond := u_ws RX10 TX10 11
theorem nmX10 : ∀ a, a < 11 → ∀ b, b < 11 → a ≠ b → (TX10 a).2.1 ≠ (TX10 b).2.1 := by decide +kernel
theorem tyX10_ok : ∀ k, k < 11 → parseFieldDescriptor (TX10 k).2.2.1 = some (tyX10 k) := by decide +kernel
abbrev cX10_init : ByteArray := prog_1_method_1_code
def yX10_init : MethodName := ⟨RX10, "<init>", "()V"⟩
abbrev cX10_feed : ByteArray := prog_1_method_2_code
def yX10_feed : MethodName := ⟨RX10, "feed", "(IIIII)I"⟩
abbrev cX10_putOnTape : ByteArray := prog_1_method_3_code
def yX10_putOnTape : MethodName := ⟨RX10, "putOnTape", "(I)V"⟩
abbrev cX10_land : ByteArray := prog_1_method_4_code
def yX10_land : MethodName := ⟨RX10, "land", "(I)I"⟩
abbrev cX10_fault : ByteArray := prog_1_method_5_code
def yX10_fault : MethodName := ⟨RX10, "fault", "(I)I"⟩
abbrev cX10_cell : ByteArray := prog_1_method_6_code
def yX10_cell : MethodName := ⟨RX10, "cell", "(II)I"⟩
abbrev cX10_drum : ByteArray := prog_1_method_7_code
def yX10_drum : MethodName := ⟨RX10, "drum", "(II)I"⟩
abbrev cX10_lies : ByteArray := prog_1_method_8_code
def yX10_lies : MethodName := ⟨RX10, "lies", "(II)I"⟩
abbrev cX10_traveller : ByteArray := prog_1_method_9_code
def yX10_traveller : MethodName := ⟨RX10, "traveller", "(II)I"⟩
abbrev cX10_takes : ByteArray := prog_1_method_10_code
def yX10_takes : MethodName := ⟨RX10, "takes", "(II)I"⟩
abbrev cX10_why : ByteArray := prog_1_method_11_code
def yX10_why : MethodName := ⟨RX10, "why", "(II)I"⟩
abbrev cX10_lay : ByteArray := prog_1_method_12_code
def yX10_lay : MethodName := ⟨RX10, "lay", "(IIZ)I"⟩
abbrev cX10_back : ByteArray := prog_1_method_13_code
def yX10_back : MethodName := ⟨RX10, "back", "(I)I"⟩
abbrev cX10_takeIn : ByteArray := prog_1_method_14_code
def yX10_takeIn : MethodName := ⟨RX10, "takeIn", "(I)I"⟩
abbrev cX10_setOut : ByteArray := prog_1_method_15_code
def yX10_setOut : MethodName := ⟨RX10, "setOut", "(I)I"⟩
abbrev cX10_turn : ByteArray := prog_1_method_16_code
def yX10_turn : MethodName := ⟨RX10, "turn", "(I)I"⟩
abbrev cX10_rain : ByteArray := prog_1_method_17_code
def yX10_rain : MethodName := ⟨RX10, "rain", "(I)I"⟩
abbrev cX10_hours : ByteArray := prog_1_method_18_code
def yX10_hours : MethodName := ⟨RX10, "hours", "(I)I"⟩
abbrev cX10_undo : ByteArray := prog_1_method_19_code
def yX10_undo : MethodName := ⟨RX10, "undo", "(I)I"⟩
abbrev cX10_judge : ByteArray := prog_1_method_20_code
def yX10_judge : MethodName := ⟨RX10, "judge", "(II)I"⟩
abbrev cX10_perform : ByteArray := prog_1_method_21_code
def yX10_perform : MethodName := ⟨RX10, "perform", "(I)I"⟩
abbrev cX10_season : ByteArray := prog_1_method_22_code
def yX10_season : MethodName := ⟨RX10, "season", "(II)I"⟩
abbrev cX10_takeOverTrial : ByteArray := prog_1_method_23_code
def yX10_takeOverTrial : MethodName := ⟨RX10, "takeOverTrial", "(I)V"⟩
abbrev cX10_reach : ByteArray := prog_1_method_24_code
def yX10_reach : MethodName := ⟨RX10, "reach", "(I)J"⟩
abbrev cX10_fewest : ByteArray := prog_1_method_25_code
def yX10_fewest : MethodName := ⟨RX10, "fewest", "(II)I"⟩
abbrev cX10_way : ByteArray := prog_1_method_26_code
def yX10_way : MethodName := ⟨RX10, "way", "(III)I"⟩
abbrev cX10_ways : ByteArray := prog_1_method_27_code
def yX10_ways : MethodName := ⟨RX10, "ways", "(III)I"⟩
abbrev cX10_crossings : ByteArray := prog_1_method_28_code
def yX10_crossings : MethodName := ⟨RX10, "crossings", "(II)I"⟩
abbrev cX10_needed : ByteArray := prog_1_method_29_code
def yX10_needed : MethodName := ⟨RX10, "needed", "(II)J"⟩
abbrev cX10_farthest : ByteArray := prog_1_method_30_code
def yX10_farthest : MethodName := ⟨RX10, "farthest", "(I)I"⟩
abbrev cX10_above : ByteArray := prog_1_method_31_code
def yX10_above : MethodName := ⟨RX10, "above", "(I)I"⟩
abbrev cX10_ahead : ByteArray := prog_1_method_32_code
def yX10_ahead : MethodName := ⟨RX10, "ahead", "(I)I"⟩
abbrev cX10_order : ByteArray := prog_1_method_33_code
def yX10_order : MethodName := ⟨RX10, "order", "(I)I"⟩
abbrev cX10_stuck : ByteArray := prog_1_method_34_code
def yX10_stuck : MethodName := ⟨RX10, "stuck", "()I"⟩
abbrev cX10_twists : ByteArray := prog_1_method_35_code
def yX10_twists : MethodName := ⟨RX10, "twists", "()I"⟩
abbrev cX10_orders : ByteArray := prog_1_method_36_code
def yX10_orders : MethodName := ⟨RX10, "orders", "()I"⟩
abbrev cX10_arrives : ByteArray := prog_1_method_37_code
def yX10_arrives : MethodName := ⟨RX10, "arrives", "(I)I"⟩
abbrev cX10_hoursTillIn : ByteArray := prog_1_method_38_code
def yX10_hoursTillIn : MethodName := ⟨RX10, "hoursTillIn", "(I)I"⟩
abbrev cX10_waits : ByteArray := prog_1_method_39_code
def yX10_waits : MethodName := ⟨RX10, "waits", "(I)I"⟩
abbrev cX10_allIn : ByteArray := prog_1_method_40_code
def yX10_allIn : MethodName := ⟨RX10, "allIn", "()I"⟩
abbrev cX10_free : ByteArray := prog_1_method_41_code
def yX10_free : MethodName := ⟨RX10, "free", "(I)I"⟩
abbrev cX10_busiest : ByteArray := prog_1_method_42_code
def yX10_busiest : MethodName := ⟨RX10, "busiest", "()I"⟩
abbrev cX10_wouldArrive : ByteArray := prog_1_method_43_code
def yX10_wouldArrive : MethodName := ⟨RX10, "wouldArrive", "(I)I"⟩
abbrev cX10_faded : ByteArray := prog_1_method_44_code
def yX10_faded : MethodName := ⟨RX10, "faded", "(II)J"⟩
abbrev cX10_manyFaded : ByteArray := prog_1_method_45_code
def yX10_manyFaded : MethodName := ⟨RX10, "manyFaded", "(II)I"⟩
abbrev cX10_look : ByteArray := prog_1_method_46_code
def yX10_look : MethodName := ⟨RX10, "look", "(II)I"⟩
abbrev cX10_whyNotFaded : ByteArray := prog_1_method_47_code
def yX10_whyNotFaded : MethodName := ⟨RX10, "whyNotFaded", "(II)I"⟩
abbrev cX10_fadedCells : ByteArray := prog_1_method_48_code
def yX10_fadedCells : MethodName := ⟨RX10, "fadedCells", "(II)J"⟩
abbrev cX10_isTray : ByteArray := prog_1_method_49_code
def yX10_isTray : MethodName := ⟨RX10, "isTray", "(I)Z"⟩
abbrev cX10_numbers : ByteArray := prog_1_method_50_code
def yX10_numbers : MethodName := ⟨RX10, "numbers", "(III)I"⟩
abbrev cX10_write : ByteArray := prog_1_method_51_code
def yX10_write : MethodName := ⟨RX10, "write", "(IIJ)J"⟩
abbrev cX10_lists : ByteArray := prog_1_method_52_code
def yX10_lists : MethodName := ⟨RX10, "lists", "(III)I"⟩
abbrev cX10_image : ByteArray := prog_1_method_53_code
def yX10_image : MethodName := ⟨RX10, "image", "(I)I"⟩
abbrev cX10_restore : ByteArray := prog_1_method_54_code
def yX10_restore : MethodName := ⟨RX10, "restore", "(I)I"⟩
abbrev cX10_count : ByteArray := prog_1_method_55_code
def yX10_count : MethodName := ⟨RX10, "count", "(I)I"⟩
def RX11 : String := "RibbonRoadsModel"
def TX11 : u_T := fun k => match k with
  | 0 => ("RibbonRoadsModel", "thrown", "I", false)
  | 1 => ("RibbonRoadsModel", "all", "[I", true)
  | 2 => ("RibbonRoadsModel", "hasImage", "[Z", true)
  | 3 => ("RibbonRoadsModel", "tape", "[I", true)
  | 4 => ("RibbonRoadsModel", "fresh", "[I", true)
  | 5 => ("RibbonRoadsModel", "taped", "I", false)
  | 6 => ("RibbonRoadsModel", "at", "I", false)
  | 7 => ("RibbonRoadsModel", "behind", "I", false)
  | 8 => ("RibbonRoadsModel", "size", "I", false)
  | 9 => ("RibbonRoadsModel", "kind", "I", false)
  | 10 => ("RibbonRoadsModel", "number", "I", false)
  | 11 => ("RibbonRoadsModel", "wrong", "I", false)
  | 12 => ("RibbonRoadsModel", "wrongAt", "I", false)
  | 13 => ("RibbonRoadsModel", "faultKind", "I", false)
  | 14 => ("RibbonRoadsModel", "faultPlace", "I", false)
  | 15 => ("RibbonRoadsModel", "reading", "I", false)
  | 16 => ("RibbonRoadsModel", "reckoned", "[I", true)
  | 17 => ("RibbonRoadsModel", "words", "[I", true)
  | 18 => ("RibbonRoadsModel", "was", "[I", true)
  | 19 => ("RibbonRoadsModel", "toldWhy", "I", false)
  | 20 => ("RibbonRoadsModel", "x", "I", false)
  | 21 => ("RibbonRoadsModel", "least", "[I", true)
  | 22 => ("RibbonRoadsModel", "open", "[Z", true)
  | 23 => ("RibbonRoadsModel", "price", "[I", true)
  | 24 => ("RibbonRoadsModel", "rockToo", "I", false)
  | 25 => ("RibbonRoadsModel", "turnsOf", "[I", true)
  | 26 => ("RibbonRoadsModel", "comesBy", "J", false)
  | 27 => ("RibbonRoadsModel", "by", "[J", true)
  | 28 => ("RibbonRoadsModel", "rowSort", "[I", true)
  | 29 => ("RibbonRoadsModel", "rowMany", "[I", true)
  | _ => ("RibbonRoadsModel", "numbers", "[J", true)
def tyX11 : Nat → FieldType := fun k => match k with
  | 0 => .int
  | 1 => .array .int
  | 2 => .array .boolean
  | 3 => .array .int
  | 4 => .array .int
  | 5 => .int
  | 6 => .int
  | 7 => .int
  | 8 => .int
  | 9 => .int
  | 10 => .int
  | 11 => .int
  | 12 => .int
  | 13 => .int
  | 14 => .int
  | 15 => .int
  | 16 => .array .int
  | 17 => .array .int
  | 18 => .array .int
  | 19 => .int
  | 20 => .int
  | 21 => .array .int
  | 22 => .array .boolean
  | 23 => .array .int
  | 24 => .int
  | 25 => .array .int
  | 26 => .long
  | 27 => .array .long
  | 28 => .array .int
  | 29 => .array .int
  | _ => .array .long
abbrev wsX110 : List Cond := u_ws RX11 TX11 31
theorem nmX11 : ∀ a, a < 31 → ∀ b, b < 31 → a ≠ b → (TX11 a).2.1 ≠ (TX11 b).2.1 := by decide +kernel
theorem tyX11_ok : ∀ k, k < 31 → parseFieldDescriptor (TX11 k).2.2.1 = some (tyX11 k) := by decide +kernel
abbrev cX11_within : ByteArray := prog_13_method_2_code
def yX11_within : MethodName := ⟨RX11, "within", "(JJJ)Z"⟩
abbrev cX11_init : ByteArray := prog_13_method_3_code
def yX11_init : MethodName := ⟨RX11, "<init>", "()V"⟩
abbrev cX11_plain : ByteArray := prog_13_method_4_code
def yX11_plain : MethodName := ⟨RX11, "plain", "([I)V"⟩
abbrev cX11_feed : ByteArray := prog_13_method_5_code
def yX11_feed : MethodName := ⟨RX11, "feed", "(IIIII)I"⟩
abbrev cX11_see : ByteArray := prog_13_method_6_code
def yX11_see : MethodName := ⟨RX11, "see", "(I)I"⟩
abbrev cX11_isSmall : ByteArray := prog_13_method_7_code
def yX11_isSmall : MethodName := ⟨RX11, "isSmall", "(I)Z"⟩
abbrev cX11_isDigit : ByteArray := prog_13_method_8_code
def yX11_isDigit : MethodName := ⟨RX11, "isDigit", "(I)Z"⟩
abbrev cX11_keyAt : ByteArray := prog_13_method_9_code
def yX11_keyAt : MethodName := ⟨RX11, "keyAt", "()I"⟩
abbrev cX11_next : ByteArray := prog_13_method_10_code
def yX11_next : MethodName := ⟨RX11, "next", "()V"⟩
abbrev cX11_fails : ByteArray := prog_13_method_11_code
def yX11_fails : MethodName := ⟨RX11, "fails", "(I)V"⟩
abbrev cX11_is : ByteArray := prog_13_method_12_code
def yX11_is : MethodName := ⟨RX11, "is", "(I)Z"⟩
abbrev cX11_eats : ByteArray := prog_13_method_13_code
def yX11_eats : MethodName := ⟨RX11, "eats", "(I)Z"⟩
abbrev cX11_takesN : ByteArray := prog_13_method_14_code
def yX11_takesN : MethodName := ⟨RX11, "takesN", "(II)I"⟩
abbrev cX11_isIn : ByteArray := prog_13_method_15_code
def yX11_isIn : MethodName := ⟨RX11, "isIn", "(JI)Z"⟩
abbrev cX11_wordOf : ByteArray := prog_13_method_16_code
def yX11_wordOf : MethodName := ⟨RX11, "wordOf", "(I)I"⟩
abbrev cX11_codes : ByteArray := prog_13_method_17_code
def yX11_codes : MethodName := ⟨RX11, "codes", "(I)V"⟩
abbrev cX11_goesIn : ByteArray := prog_13_method_18_code
def yX11_goesIn : MethodName := ⟨RX11, "goesIn", "(I)Z"⟩
abbrev cX11_readAtom : ByteArray := prog_13_method_19_code
def yX11_readAtom : MethodName := ⟨RX11, "readAtom", "(I)V"⟩
abbrev cX11_readTerm : ByteArray := prog_13_method_20_code
def yX11_readTerm : MethodName := ⟨RX11, "readTerm", "(I)V"⟩
abbrev cX11_readSum : ByteArray := prog_13_method_21_code
def yX11_readSum : MethodName := ⟨RX11, "readSum", "(I)V"⟩
abbrev cX11_readUnit : ByteArray := prog_13_method_22_code
def yX11_readUnit : MethodName := ⟨RX11, "readUnit", "(I)V"⟩
abbrev cX11_readBoth : ByteArray := prog_13_method_23_code
def yX11_readBoth : MethodName := ⟨RX11, "readBoth", "(I)V"⟩
abbrev cX11_readTruth : ByteArray := prog_13_method_24_code
def yX11_readTruth : MethodName := ⟨RX11, "readTruth", "(I)V"⟩
abbrev cX11_isDrumIn : ByteArray := prog_13_method_25_code
def yX11_isDrumIn : MethodName := ⟨RX11, "isDrumIn", "(I)Z"⟩
abbrev cX11_readCell : ByteArray := prog_13_method_26_code
def yX11_readCell : MethodName := ⟨RX11, "readCell", "()I"⟩
abbrev cX11_readRock : ByteArray := prog_13_method_27_code
def yX11_readRock : MethodName := ⟨RX11, "readRock", "()V"⟩
abbrev cX11_readDrum : ByteArray := prog_13_method_28_code
def yX11_readDrum : MethodName := ⟨RX11, "readDrum", "()V"⟩
abbrev cX11_readLaw : ByteArray := prog_13_method_29_code
def yX11_readLaw : MethodName := ⟨RX11, "readLaw", "(I)V"⟩
abbrev cX11_readLine : ByteArray := prog_13_method_30_code
def yX11_readLine : MethodName := ⟨RX11, "readLine", "()V"⟩
abbrev cX11_ends : ByteArray := prog_13_method_31_code
def yX11_ends : MethodName := ⟨RX11, "ends", "()V"⟩
abbrev cX11_land : ByteArray := prog_13_method_32_code
def yX11_land : MethodName := ⟨RX11, "land", "(I)I"⟩
abbrev cX11_fault : ByteArray := prog_13_method_33_code
def yX11_fault : MethodName := ⟨RX11, "fault", "(I)I"⟩
abbrev cX11_cells : ByteArray := prog_13_method_34_code
def yX11_cells : MethodName := ⟨RX11, "cells", "()I"⟩
abbrev cX11_isCell : ByteArray := prog_13_method_35_code
def yX11_isCell : MethodName := ⟨RX11, "isCell", "(J)Z"⟩
abbrev cX11_isDrum : ByteArray := prog_13_method_36_code
def yX11_isDrum : MethodName := ⟨RX11, "isDrum", "(J)Z"⟩
abbrev cX11_isGoer : ByteArray := prog_13_method_37_code
def yX11_isGoer : MethodName := ⟨RX11, "isGoer", "(J)Z"⟩
abbrev cX11_bitsOf : ByteArray := prog_13_method_38_code
def yX11_bitsOf : MethodName := ⟨RX11, "bitsOf", "(I)I"⟩
abbrev cX11_beside : ByteArray := prog_13_method_39_code
def yX11_beside : MethodName := ⟨RX11, "beside", "(II)I"⟩
abbrev cX11_endOf : ByteArray := prog_13_method_40_code
def yX11_endOf : MethodName := ⟨RX11, "endOf", "(I)I"⟩
abbrev cX11_lieOn : ByteArray := prog_13_method_41_code
def yX11_lieOn : MethodName := ⟨RX11, "lieOn", "(I)I"⟩
abbrev cX11_isHome : ByteArray := prog_13_method_42_code
def yX11_isHome : MethodName := ⟨RX11, "isHome", "(I)Z"⟩
abbrev cX11_between : ByteArray := prog_13_method_43_code
def yX11_between : MethodName := ⟨RX11, "between", "(III)I"⟩
abbrev cX11_reckons : ByteArray := prog_13_method_44_code
def yX11_reckons : MethodName := ⟨RX11, "reckons", "(III)I"⟩
abbrev cX11_costOf : ByteArray := prog_13_method_45_code
def yX11_costOf : MethodName := ⟨RX11, "costOf", "(II)I"⟩
abbrev cX11_lets : ByteArray := prog_13_method_46_code
def yX11_lets : MethodName := ⟨RX11, "lets", "(II)Z"⟩
abbrev cX11_isOpen : ByteArray := prog_13_method_47_code
def yX11_isOpen : MethodName := ⟨RX11, "isOpen", "(II)Z"⟩
abbrev cX11_goerOn : ByteArray := prog_13_method_48_code
def yX11_goerOn : MethodName := ⟨RX11, "goerOn", "(I)I"⟩
abbrev cX11_cellOf : ByteArray := prog_13_method_49_code
def yX11_cellOf : MethodName := ⟨RX11, "cellOf", "(I)I"⟩
abbrev cX11_cell : ByteArray := prog_13_method_50_code
def yX11_cell : MethodName := ⟨RX11, "cell", "(II)I"⟩
abbrev cX11_drum : ByteArray := prog_13_method_51_code
def yX11_drum : MethodName := ⟨RX11, "drum", "(II)I"⟩
abbrev cX11_tookBy : ByteArray := prog_13_method_52_code
def yX11_tookBy : MethodName := ⟨RX11, "tookBy", "(I)I"⟩
abbrev cX11_lies : ByteArray := prog_13_method_53_code
def yX11_lies : MethodName := ⟨RX11, "lies", "(II)I"⟩
abbrev cX11_traveller : ByteArray := prog_13_method_54_code
def yX11_traveller : MethodName := ⟨RX11, "traveller", "(II)I"⟩
abbrev cX11_takes : ByteArray := prog_13_method_55_code
def yX11_takes : MethodName := ⟨RX11, "takes", "(II)I"⟩
abbrev cX11_keeps : ByteArray := prog_13_method_56_code
def yX11_keeps : MethodName := ⟨RX11, "keeps", "()V"⟩
abbrev cX11_isAgain : ByteArray := prog_13_method_57_code
def yX11_isAgain : MethodName := ⟨RX11, "isAgain", "()V"⟩
abbrev cX11_notes : ByteArray := prog_13_method_58_code
def yX11_notes : MethodName := ⟨RX11, "notes", "()V"⟩
abbrev cX11_whyLay : ByteArray := prog_13_method_59_code
def yX11_whyLay : MethodName := ⟨RX11, "whyLay", "(JJ)I"⟩
abbrev cX11_lays : ByteArray := prog_13_method_60_code
def yX11_lays : MethodName := ⟨RX11, "lays", "(IIZ)V"⟩
abbrev cX11_takesOff : ByteArray := prog_13_method_61_code
def yX11_takesOff : MethodName := ⟨RX11, "takesOff", "(I)V"⟩
abbrev cX11_whyBack : ByteArray := prog_13_method_62_code
def yX11_whyBack : MethodName := ⟨RX11, "whyBack", "(J)I"⟩
abbrev cX11_whyIn : ByteArray := prog_13_method_63_code
def yX11_whyIn : MethodName := ⟨RX11, "whyIn", "(J)I"⟩
abbrev cX11_whyOut : ByteArray := prog_13_method_64_code
def yX11_whyOut : MethodName := ⟨RX11, "whyOut", "(J)I"⟩
abbrev cX11_setsOut : ByteArray := prog_13_method_65_code
def yX11_setsOut : MethodName := ⟨RX11, "setsOut", "(I)V"⟩
abbrev cX11_takesAll : ByteArray := prog_13_method_66_code
def yX11_takesAll : MethodName := ⟨RX11, "takesAll", "(I)V"⟩
abbrev cX11_why : ByteArray := prog_13_method_67_code
def yX11_why : MethodName := ⟨RX11, "why", "(II)I"⟩
abbrev cX11_lay : ByteArray := prog_13_method_68_code
def yX11_lay : MethodName := ⟨RX11, "lay", "(IIZ)I"⟩
abbrev cX11_back : ByteArray := prog_13_method_69_code
def yX11_back : MethodName := ⟨RX11, "back", "(I)I"⟩
abbrev cX11_takeIn : ByteArray := prog_13_method_70_code
def yX11_takeIn : MethodName := ⟨RX11, "takeIn", "(I)I"⟩
abbrev cX11_setOut : ByteArray := prog_13_method_71_code
def yX11_setOut : MethodName := ⟨RX11, "setOut", "(I)I"⟩
abbrev cX11_turn : ByteArray := prog_13_method_72_code
def yX11_turn : MethodName := ⟨RX11, "turn", "(I)I"⟩
abbrev cX11_rain : ByteArray := prog_13_method_73_code
def yX11_rain : MethodName := ⟨RX11, "rain", "(I)I"⟩
abbrev cX11_goes : ByteArray := prog_13_method_74_code
def yX11_goes : MethodName := ⟨RX11, "goes", "(I)Z"⟩
abbrev cX11_goesHour : ByteArray := prog_13_method_75_code
def yX11_goesHour : MethodName := ⟨RX11, "goesHour", "()I"⟩
abbrev cX11_hours : ByteArray := prog_13_method_76_code
def yX11_hours : MethodName := ⟨RX11, "hours", "(I)I"⟩
abbrev cX11_undo : ByteArray := prog_13_method_77_code
def yX11_undo : MethodName := ⟨RX11, "undo", "(I)I"⟩
abbrev cX11_whyNot : ByteArray := prog_13_method_78_code
def yX11_whyNot : MethodName := ⟨RX11, "whyNot", "(J)I"⟩
abbrev cX11_does : ByteArray := prog_13_method_79_code
def yX11_does : MethodName := ⟨RX11, "does", "(I)V"⟩
abbrev cX11_tells : ByteArray := prog_13_method_80_code
def yX11_tells : MethodName := ⟨RX11, "tells", "(I)I"⟩
abbrev cX11_noTray : ByteArray := prog_13_method_81_code
def yX11_noTray : MethodName := ⟨RX11, "noTray", "(I)I"⟩
abbrev cX11_judge : ByteArray := prog_13_method_82_code
def yX11_judge : MethodName := ⟨RX11, "judge", "(II)I"⟩
abbrev cX11_perform : ByteArray := prog_13_method_83_code
def yX11_perform : MethodName := ⟨RX11, "perform", "(I)I"⟩
abbrev cX11_draw : ByteArray := prog_13_method_84_code
def yX11_draw : MethodName := ⟨RX11, "draw", "(I)I"⟩
abbrev cX11_drawn : ByteArray := prog_13_method_85_code
def yX11_drawn : MethodName := ⟨RX11, "drawn", "()I"⟩
abbrev cX11_season : ByteArray := prog_13_method_86_code
def yX11_season : MethodName := ⟨RX11, "season", "(II)I"⟩
abbrev cX11_laysOpen : ByteArray := prog_13_method_87_code
def yX11_laysOpen : MethodName := ⟨RX11, "laysOpen", "(IZ)V"⟩
abbrev cX11_leftOf : ByteArray := prog_13_method_88_code
def yX11_leftOf : MethodName := ⟨RX11, "leftOf", "(I)I"⟩
abbrev cX11_laysLeast : ByteArray := prog_13_method_89_code
def yX11_laysLeast : MethodName := ⟨RX11, "laysLeast", "(IIZ)V"⟩
abbrev cX11_cellsBy : ByteArray := prog_13_method_90_code
def yX11_cellsBy : MethodName := ⟨RX11, "cellsBy", "(I)I"⟩
abbrev cX11_leastFor : ByteArray := prog_13_method_91_code
def yX11_leastFor : MethodName := ⟨RX11, "leastFor", "(IIZ)I"⟩
abbrev cX11_laysWay : ByteArray := prog_13_method_92_code
def yX11_laysWay : MethodName := ⟨RX11, "laysWay", "(II)I"⟩
abbrev cX11_isNext : ByteArray := prog_13_method_93_code
def yX11_isNext : MethodName := ⟨RX11, "isNext", "(III)Z"⟩
abbrev cX11_reach : ByteArray := prog_13_method_94_code
def yX11_reach : MethodName := ⟨RX11, "reach", "(I)J"⟩
abbrev cX11_fewest : ByteArray := prog_13_method_95_code
def yX11_fewest : MethodName := ⟨RX11, "fewest", "(II)I"⟩
abbrev cX11_way : ByteArray := prog_13_method_96_code
def yX11_way : MethodName := ⟨RX11, "way", "(III)I"⟩
abbrev cX11_waysFrom : ByteArray := prog_13_method_97_code
def yX11_waysFrom : MethodName := ⟨RX11, "waysFrom", "(IIIJ)I"⟩
abbrev cX11_ways : ByteArray := prog_13_method_98_code
def yX11_ways : MethodName := ⟨RX11, "ways", "(III)I"⟩
abbrev cX11_crossings : ByteArray := prog_13_method_99_code
def yX11_crossings : MethodName := ⟨RX11, "crossings", "(II)I"⟩
abbrev cX11_needed : ByteArray := prog_13_method_100_code
def yX11_needed : MethodName := ⟨RX11, "needed", "(II)J"⟩
abbrev cX11_farthest : ByteArray := prog_13_method_101_code
def yX11_farthest : MethodName := ⟨RX11, "farthest", "(I)I"⟩
abbrev cX11_aboveOf : ByteArray := prog_13_method_102_code
def yX11_aboveOf : MethodName := ⟨RX11, "aboveOf", "(I)I"⟩
abbrev cX11_above : ByteArray := prog_13_method_103_code
def yX11_above : MethodName := ⟨RX11, "above", "(I)I"⟩
abbrev cX11_ahead : ByteArray := prog_13_method_104_code
def yX11_ahead : MethodName := ⟨RX11, "ahead", "(I)I"⟩
abbrev cX11_lying : ByteArray := prog_13_method_105_code
def yX11_lying : MethodName := ⟨RX11, "lying", "()I"⟩
abbrev cX11_firstOf : ByteArray := prog_13_method_106_code
def yX11_firstOf : MethodName := ⟨RX11, "firstOf", "(I)I"⟩
abbrev cX11_order : ByteArray := prog_13_method_107_code
def yX11_order : MethodName := ⟨RX11, "order", "(I)I"⟩
abbrev cX11_stuck : ByteArray := prog_13_method_108_code
def yX11_stuck : MethodName := ⟨RX11, "stuck", "()I"⟩
abbrev cX11_overs : ByteArray := prog_13_method_109_code
def yX11_overs : MethodName := ⟨RX11, "overs", "(II)I"⟩
abbrev cX11_twistsOf : ByteArray := prog_13_method_110_code
def yX11_twistsOf : MethodName := ⟨RX11, "twistsOf", "(I)I"⟩
abbrev cX11_twists : ByteArray := prog_13_method_111_code
def yX11_twists : MethodName := ⟨RX11, "twists", "()I"⟩
abbrev cX11_ordersOf : ByteArray := prog_13_method_112_code
def yX11_ordersOf : MethodName := ⟨RX11, "ordersOf", "(I)I"⟩
abbrev cX11_orders : ByteArray := prog_13_method_113_code
def yX11_orders : MethodName := ⟨RX11, "orders", "()I"⟩
abbrev cX11_isAllIn : ByteArray := prog_13_method_114_code
def yX11_isAllIn : MethodName := ⟨RX11, "isAllIn", "()Z"⟩
abbrev cX11_arrivesIn : ByteArray := prog_13_method_115_code
def yX11_arrivesIn : MethodName := ⟨RX11, "arrivesIn", "(I)I"⟩
abbrev cX11_arrives : ByteArray := prog_13_method_116_code
def yX11_arrives : MethodName := ⟨RX11, "arrives", "(I)I"⟩
abbrev cX11_waits : ByteArray := prog_13_method_117_code
def yX11_waits : MethodName := ⟨RX11, "waits", "(I)I"⟩
abbrev cX11_allIn : ByteArray := prog_13_method_118_code
def yX11_allIn : MethodName := ⟨RX11, "allIn", "()I"⟩
abbrev cX11_free : ByteArray := prog_13_method_119_code
def yX11_free : MethodName := ⟨RX11, "free", "(I)I"⟩
abbrev cX11_goersOnCells : ByteArray := prog_13_method_120_code
def yX11_goersOnCells : MethodName := ⟨RX11, "goersOnCells", "()I"⟩
abbrev cX11_busiest : ByteArray := prog_13_method_121_code
def yX11_busiest : MethodName := ⟨RX11, "busiest", "()I"⟩
abbrev cX11_wouldArrive : ByteArray := prog_13_method_122_code
def yX11_wouldArrive : MethodName := ⟨RX11, "wouldArrive", "(I)I"⟩
abbrev cX11_noFaded : ByteArray := prog_13_method_123_code
def yX11_noFaded : MethodName := ⟨RX11, "noFaded", "(II)I"⟩
abbrev cX11_fits : ByteArray := prog_13_method_124_code
def yX11_fits : MethodName := ⟨RX11, "fits", "(II)J"⟩
abbrev cX11_faded : ByteArray := prog_13_method_125_code
def yX11_faded : MethodName := ⟨RX11, "faded", "(II)J"⟩
abbrev cX11_manyOf : ByteArray := prog_13_method_126_code
def yX11_manyOf : MethodName := ⟨RX11, "manyOf", "(J)I"⟩
abbrev cX11_manyFaded : ByteArray := prog_13_method_127_code
def yX11_manyFaded : MethodName := ⟨RX11, "manyFaded", "(II)I"⟩
abbrev cX11_look : ByteArray := prog_13_method_128_code
def yX11_look : MethodName := ⟨RX11, "look", "(II)I"⟩
abbrev cX11_cut : ByteArray := prog_13_method_129_code
def yX11_cut : MethodName := ⟨RX11, "cut", "(JI)J"⟩
abbrev cX11_numbers : ByteArray := prog_13_method_130_code
def yX11_numbers : MethodName := ⟨RX11, "numbers", "(III)I"⟩
abbrev cX11_write : ByteArray := prog_13_method_131_code
def yX11_write : MethodName := ⟨RX11, "write", "(IIJ)J"⟩
abbrev cX11_lists : ByteArray := prog_13_method_132_code
def yX11_lists : MethodName := ⟨RX11, "lists", "(III)I"⟩
abbrev cX11_image : ByteArray := prog_13_method_133_code
def yX11_image : MethodName := ⟨RX11, "image", "(I)I"⟩
abbrev cX11_restore : ByteArray := prog_13_method_134_code
def yX11_restore : MethodName := ⟨RX11, "restore", "(I)I"⟩
abbrev cX11_crossingsMany : ByteArray := prog_13_method_135_code
def yX11_crossingsMany : MethodName := ⟨RX11, "crossingsMany", "()I"⟩
abbrev cX11_rocksMany : ByteArray := prog_13_method_136_code
def yX11_rocksMany : MethodName := ⟨RX11, "rocksMany", "()I"⟩
abbrev cX11_underWay : ByteArray := prog_13_method_137_code
def yX11_underWay : MethodName := ⟨RX11, "underWay", "()I"⟩
abbrev cX11_count : ByteArray := prog_13_method_138_code
def yX11_count : MethodName := ⟨RX11, "count", "(I)I"⟩
def RJx145de : String := "java/io/Serializable"
def TJx145de : u_T := fun k => match k with
  | _ => ("", "", "", false)
def tyJx145de : Nat → FieldType := fun k => match k with
  | _ => .int
abbrev wsJx145de0 : List Cond := u_ws RJx145de TJx145de 0
theorem nmJx145de : ∀ a, a < 0 → ∀ b, b < 0 → a ≠ b → (TJx145de a).2.1 ≠ (TJx145de b).2.1 := by decide +kernel
theorem tyJx145de_ok : ∀ k, k < 0 → parseFieldDescriptor (TJx145de k).2.2.1 = some (tyJx145de k) := by decide +kernel
def RJx9f9b0 : String := "java/lang/CharSequence"
def TJx9f9b0 : u_T := fun k => match k with
  | _ => ("", "", "", false)
def tyJx9f9b0 : Nat → FieldType := fun k => match k with
  | _ => .int
abbrev wsJx9f9b00 : List Cond := u_ws RJx9f9b0 TJx9f9b0 0
theorem nmJx9f9b0 : ∀ a, a < 0 → ∀ b, b < 0 → a ≠ b → (TJx9f9b0 a).2.1 ≠ (TJx9f9b0 b).2.1 := by decide +kernel
theorem tyJx9f9b0_ok : ∀ k, k < 0 → parseFieldDescriptor (TJx9f9b0 k).2.2.1 = some (tyJx9f9b0 k) := by decide +kernel
def RJ11 : String := "java/lang/Character"
def TJ11 : u_T := fun k => match k with
  | _ => ("", "", "", false)
def tyJ11 : Nat → FieldType := fun k => match k with
  | _ => .int
abbrev wsJ110 : List Cond := u_ws RJ11 TJ11 0
theorem nmJ11 : ∀ a, a < 0 → ∀ b, b < 0 → a ≠ b → (TJ11 a).2.1 ≠ (TJ11 b).2.1 := by decide +kernel
theorem tyJ11_ok : ∀ k, k < 0 → parseFieldDescriptor (TJ11 k).2.2.1 = some (tyJ11 k) := by decide +kernel
abbrev cJ11_isValidCodePoint_9a6ad : ByteArray := prog_14_method_11_code
def yJ11_isValidCodePoint_9a6ad : MethodName := ⟨RJ11, "isValidCodePoint", "(I)Z"⟩
abbrev cJ11_highSurrogate_5068e : ByteArray := prog_14_method_28_code
def yJ11_highSurrogate_5068e : MethodName := ⟨RJ11, "highSurrogate", "(I)C"⟩
abbrev cJ11_lowSurrogate_5068e : ByteArray := prog_14_method_29_code
def yJ11_lowSurrogate_5068e : MethodName := ⟨RJ11, "lowSurrogate", "(I)C"⟩
def RJxb160c : String := "java/lang/Comparable"
def TJxb160c : u_T := fun k => match k with
  | _ => ("", "", "", false)
def tyJxb160c : Nat → FieldType := fun k => match k with
  | _ => .int
abbrev wsJxb160c0 : List Cond := u_ws RJxb160c TJxb160c 0
theorem nmJxb160c : ∀ a, a < 0 → ∀ b, b < 0 → a ≠ b → (TJxb160c a).2.1 ≠ (TJxb160c b).2.1 := by decide +kernel
theorem tyJxb160c_ok : ∀ k, k < 0 → parseFieldDescriptor (TJxb160c k).2.2.1 = some (tyJxb160c k) := by decide +kernel
def RJ13 : String := "java/lang/Long"
def TJ13 : u_T := fun k => match k with
  | _ => ("", "", "", false)
def tyJ13 : Nat → FieldType := fun k => match k with
  | _ => .int
abbrev wsJ130 : List Cond := u_ws RJ13 TJ13 0
theorem nmJ13 : ∀ a, a < 0 → ∀ b, b < 0 → a ≠ b → (TJ13 a).2.1 ≠ (TJ13 b).2.1 := by decide +kernel
theorem tyJ13_ok : ∀ k, k < 0 → parseFieldDescriptor (TJ13 k).2.2.1 = some (tyJ13 k) := by decide +kernel
abbrev cJ13_bitCount_95d88 : ByteArray := prog_15_method_50_code
def yJ13_bitCount_95d88 : MethodName := ⟨RJ13, "bitCount", "(J)I"⟩
def RJ9 : String := "java/lang/Math"
def TJ9 : u_T := fun k => match k with
  | _ => ("", "", "", false)
def tyJ9 : Nat → FieldType := fun k => match k with
  | _ => .int
abbrev wsJ90 : List Cond := u_ws RJ9 TJ9 0
theorem nmJ9 : ∀ a, a < 0 → ∀ b, b < 0 → a ≠ b → (TJ9 a).2.1 ≠ (TJ9 b).2.1 := by decide +kernel
theorem tyJ9_ok : ∀ k, k < 0 → parseFieldDescriptor (TJ9 k).2.2.1 = some (tyJ9 k) := by decide +kernel
abbrev cJ9_floorMod_7cf53 : ByteArray := prog_16_method_50_code
def yJ9_floorMod_7cf53 : MethodName := ⟨RJ9, "floorMod", "(II)I"⟩
abbrev cJ9_abs_0f7a4 : ByteArray := prog_16_method_59_code
def yJ9_abs_0f7a4 : MethodName := ⟨RJ9, "abs", "(I)I"⟩
abbrev cJ9_max_7cf53 : ByteArray := prog_16_method_65_code
def yJ9_max_7cf53 : MethodName := ⟨RJ9, "max", "(II)I"⟩
abbrev cJ9_max_f86c9 : ByteArray := prog_16_method_66_code
def yJ9_max_f86c9 : MethodName := ⟨RJ9, "max", "(JJ)J"⟩
abbrev cJ9_min_7cf53 : ByteArray := prog_16_method_69_code
def yJ9_min_7cf53 : MethodName := ⟨RJ9, "min", "(II)I"⟩
abbrev cJ9_min_f86c9 : ByteArray := prog_16_method_70_code
def yJ9_min_f86c9 : MethodName := ⟨RJ9, "min", "(JJ)J"⟩
def RJ0 : String := "java/lang/String"
def TJ0 : u_T := fun k => match k with
  | _ => ("", "", "", false)
def tyJ0 : Nat → FieldType := fun k => match k with
  | _ => .int
abbrev wsJ00 : List Cond := u_ws RJ0 TJ0 0
theorem nmJ0 : ∀ a, a < 0 → ∀ b, b < 0 → a ≠ b → (TJ0 a).2.1 ≠ (TJ0 b).2.1 := by decide +kernel
theorem tyJ0_ok : ∀ k, k < 0 → parseFieldDescriptor (TJ0 k).2.2.1 = some (tyJ0 k) := by decide +kernel
abbrev cJ0_length_8abf5 : ByteArray := prog_17_method_54_code
def yJ0_length_8abf5 : MethodName := ⟨RJ0, "length", "()I"⟩
abbrev cJ0_charAt_5068e : ByteArray := prog_17_method_56_code
def yJ0_charAt_5068e : MethodName := ⟨RJ0, "charAt", "(I)C"⟩
abbrev cJ0_indexOf_0f7a4 : ByteArray := prog_17_method_79_code
def yJ0_indexOf_0f7a4 : MethodName := ⟨RJ0, "indexOf", "(I)I"⟩
abbrev cJ0_indexOf_7cf53 : ByteArray := prog_17_method_80_code
def yJ0_indexOf_7cf53 : MethodName := ⟨RJ0, "indexOf", "(II)I"⟩
abbrev cJ0_coder_7d493 : ByteArray := prog_17_method_152_code
def yJ0_coder_7d493 : MethodName := ⟨RJ0, "coder", "()B"⟩
abbrev cJ0_isLatin1_aae02 : ByteArray := prog_17_method_154_code
def yJ0_isLatin1_aae02 : MethodName := ⟨RJ0, "isLatin1", "()Z"⟩
abbrev cJ0_checkIndex_df160 : ByteArray := prog_17_method_155_code
def yJ0_checkIndex_df160 : MethodName := ⟨RJ0, "checkIndex", "(II)V"⟩
abbrev cJ0_checkBoundsBeginEnd_23922 : ByteArray := prog_17_method_158_code
def yJ0_checkBoundsBeginEnd_23922 : MethodName := ⟨RJ0, "checkBoundsBeginEnd", "(III)V"⟩
def RJ1 : String := "java/lang/StringLatin1"
def TJ1 : u_T := fun k => match k with
  | _ => ("", "", "", false)
def tyJ1 : Nat → FieldType := fun k => match k with
  | _ => .int
abbrev wsJ10 : List Cond := u_ws RJ1 TJ1 0
theorem nmJ1 : ∀ a, a < 0 → ∀ b, b < 0 → a ≠ b → (TJ1 a).2.1 ≠ (TJ1 b).2.1 := by decide +kernel
theorem tyJ1_ok : ∀ k, k < 0 → parseFieldDescriptor (TJ1 k).2.2.1 = some (tyJ1 k) := by decide +kernel
abbrev cJ1_charAt_3b067 : ByteArray := prog_18_method_2_code
def yJ1_charAt_3b067 : MethodName := ⟨RJ1, "charAt", "([BI)C"⟩
abbrev cJ1_canEncode_9a6ad : ByteArray := prog_18_method_4_code
def yJ1_canEncode_9a6ad : MethodName := ⟨RJ1, "canEncode", "(I)Z"⟩
abbrev cJ1_indexOf_4cfef : ByteArray := prog_18_method_22_code
def yJ1_indexOf_4cfef : MethodName := ⟨RJ1, "indexOf", "([BIII)I"⟩
abbrev cJ1_indexOfChar_4cfef : ByteArray := prog_18_method_23_code
def yJ1_indexOfChar_4cfef : MethodName := ⟨RJ1, "indexOfChar", "([BIII)I"⟩
def RJ2 : String := "java/lang/StringUTF16"
def TJ2 : u_T := fun k => match k with
  | _ => ("", "", "", false)
def tyJ2 : Nat → FieldType := fun k => match k with
  | _ => .int
abbrev wsJ20 : List Cond := u_ws RJ2 TJ2 0
theorem nmJ2 : ∀ a, a < 0 → ∀ b, b < 0 → a ≠ b → (TJ2 a).2.1 ≠ (TJ2 b).2.1 := by decide +kernel
theorem tyJ2_ok : ∀ k, k < 0 → parseFieldDescriptor (TJ2 k).2.2.1 = some (tyJ2 k) := by decide +kernel
abbrev cJ2_getChar_3b067 : ByteArray := prog_19_method_5_code
def yJ2_getChar_3b067 : MethodName := ⟨RJ2, "getChar", "([BI)C"⟩
abbrev cJ2_length_9d52b : ByteArray := prog_19_method_6_code
def yJ2_length_9d52b : MethodName := ⟨RJ2, "length", "([B)I"⟩
abbrev cJ2_indexOf_4cfef : ByteArray := prog_19_method_40_code
def yJ2_indexOf_4cfef : MethodName := ⟨RJ2, "indexOf", "([BIII)I"⟩
abbrev cJ2_indexOfChar_4cfef : ByteArray := prog_19_method_47_code
def yJ2_indexOfChar_4cfef : MethodName := ⟨RJ2, "indexOfChar", "([BIII)I"⟩
abbrev cJ2_indexOfCharUnsafe_4cfef : ByteArray := prog_19_method_48_code
def yJ2_indexOfCharUnsafe_4cfef : MethodName := ⟨RJ2, "indexOfCharUnsafe", "([BIII)I"⟩
abbrev cJ2_indexOfSupplementary_4cfef : ByteArray := prog_19_method_49_code
def yJ2_indexOfSupplementary_4cfef : MethodName := ⟨RJ2, "indexOfSupplementary", "([BIII)I"⟩
abbrev cJ2_charAt_3b067 : ByteArray := prog_19_method_83_code
def yJ2_charAt_3b067 : MethodName := ⟨RJ2, "charAt", "([BI)C"⟩
abbrev cJ2_checkIndex_2214a : ByteArray := prog_19_method_91_code
def yJ2_checkIndex_2214a : MethodName := ⟨RJ2, "checkIndex", "(I[B)V"⟩
abbrev cJ2_checkBoundsBeginEnd_d044e : ByteArray := prog_19_method_93_code
def yJ2_checkBoundsBeginEnd_d044e : MethodName := ⟨RJ2, "checkBoundsBeginEnd", "(II[B)V"⟩
def RJ10 : String := "java/lang/System"
def TJ10 : u_T := fun k => match k with
  | _ => ("", "", "", false)
def tyJ10 : Nat → FieldType := fun k => match k with
  | _ => .int
abbrev wsJ100 : List Cond := u_ws RJ10 TJ10 0
theorem nmJ10 : ∀ a, a < 0 → ∀ b, b < 0 → a ≠ b → (TJ10 a).2.1 ≠ (TJ10 b).2.1 := by decide +kernel
theorem tyJ10_ok : ∀ k, k < 0 → parseFieldDescriptor (TJ10 k).2.2.1 = some (tyJ10 k) := by decide +kernel
def RJxfd54e : String := "java/lang/constant/Constable"
def TJxfd54e : u_T := fun k => match k with
  | _ => ("", "", "", false)
def tyJxfd54e : Nat → FieldType := fun k => match k with
  | _ => .int
abbrev wsJxfd54e0 : List Cond := u_ws RJxfd54e TJxfd54e 0
theorem nmJxfd54e : ∀ a, a < 0 → ∀ b, b < 0 → a ≠ b → (TJxfd54e a).2.1 ≠ (TJxfd54e b).2.1 := by decide +kernel
theorem tyJxfd54e_ok : ∀ k, k < 0 → parseFieldDescriptor (TJxfd54e k).2.2.1 = some (tyJxfd54e k) := by decide +kernel
def RJx3cf43 : String := "java/lang/constant/ConstantDesc"
def TJx3cf43 : u_T := fun k => match k with
  | _ => ("", "", "", false)
def tyJx3cf43 : Nat → FieldType := fun k => match k with
  | _ => .int
abbrev wsJx3cf430 : List Cond := u_ws RJx3cf43 TJx3cf43 0
theorem nmJx3cf43 : ∀ a, a < 0 → ∀ b, b < 0 → a ≠ b → (TJx3cf43 a).2.1 ≠ (TJx3cf43 b).2.1 := by decide +kernel
theorem tyJx3cf43_ok : ∀ k, k < 0 → parseFieldDescriptor (TJx3cf43 k).2.2.1 = some (tyJx3cf43 k) := by decide +kernel
def RJ7 : String := "java/util/Arrays"
def TJ7 : u_T := fun k => match k with
  | _ => ("", "", "", false)
def tyJ7 : Nat → FieldType := fun k => match k with
  | _ => .int
abbrev wsJ70 : List Cond := u_ws RJ7 TJ7 0
theorem nmJ7 : ∀ a, a < 0 → ∀ b, b < 0 → a ≠ b → (TJ7 a).2.1 ≠ (TJ7 b).2.1 := by decide +kernel
theorem tyJ7_ok : ∀ k, k < 0 → parseFieldDescriptor (TJ7 k).2.2.1 = some (tyJ7 k) := by decide +kernel
abbrev cJ7_fill_d0a16 : ByteArray := prog_21_method_101_code
def yJ7_fill_d0a16 : MethodName := ⟨RJ7, "fill", "([JJ)V"⟩
abbrev cJ7_fill_53178 : ByteArray := prog_21_method_103_code
def yJ7_fill_53178 : MethodName := ⟨RJ7, "fill", "([II)V"⟩
def RJ3 : String := "jdk/internal/util/Preconditions"
def TJ3 : u_T := fun k => match k with
  | _ => ("", "", "", false)
def tyJ3 : Nat → FieldType := fun k => match k with
  | _ => .int
abbrev wsJ30 : List Cond := u_ws RJ3 TJ3 0
theorem nmJ3 : ∀ a, a < 0 → ∀ b, b < 0 → a ≠ b → (TJ3 a).2.1 ≠ (TJ3 b).2.1 := by decide +kernel
theorem tyJ3_ok : ∀ k, k < 0 → parseFieldDescriptor (TJ3 k).2.2.1 = some (tyJ3 k) := by decide +kernel
abbrev cJ3_checkIndex_8e157 : ByteArray := prog_22_method_11_code
def yJ3_checkIndex_8e157 : MethodName := ⟨RJ3, "checkIndex", "(IILjava/util/function/BiFunction;)I"⟩
abbrev cJ3_checkFromToIndex_8c36e : ByteArray := prog_22_method_12_code
def yJ3_checkFromToIndex_8c36e : MethodName := ⟨RJ3, "checkFromToIndex", "(IIILjava/util/function/BiFunction;)I"⟩
def RL : String := "RibbonRoadsLaw"
abbrev cL_law : ByteArray := code
def yL_law : MethodName := ⟨RL, "law", "([I)Z"⟩
abbrev vwCl : List vw_C := [(RX0, TX0, 3), (RX1, TX1, 12), (RX2, TX2, 3), (RX3, TX3, 3), (RX4, TX4, 4), (RX5, TX5, 7), (RX6, TX6, 12), (RX7, TX7, 4), (RX8, TX8, 3), (RX9, TX9, 17), (RX10, TX10, 11), (RX11, TX11, 31)]
theorem q_places {big : List Cond} (ws : List Cond) (ps : List Nat) (hp : ws = ps.filterMap (fun i => big[i]?)) : ∀ w ∈ ws, w ∈ big := by
  intro w hw
  rw [hp] at hw
  obtain ⟨i, -, hi⟩ := List.mem_filterMap.mp hw
  exact List.mem_of_getElem? hi
theorem inX0 : ∀ w ∈ wsX00, w ∈ lw_tbl := q_places _ [486, 488, 490] (by decide +kernel)
theorem inX1 : ∀ w ∈ wsX10, w ∈ lw_tbl := q_places _ [219, 221, 223, 225, 227, 229, 231, 233, 235, 237, 239, 241] (by decide +kernel)
theorem inX2 : ∀ w ∈ wsX20, w ∈ lw_tbl := q_places _ [171, 173, 175] (by decide +kernel)
theorem inX3 : ∀ w ∈ wsX30, w ∈ lw_tbl := q_places _ [361, 363, 365] (by decide +kernel)
theorem inX4 : ∀ w ∈ wsX40, w ∈ lw_tbl := q_places _ [446, 448, 450, 452] (by decide +kernel)
theorem inX5 : ∀ w ∈ wsX50, w ∈ lw_tbl := q_places _ [273, 275, 277, 279, 281, 283, 285] (by decide +kernel)
theorem inX6 : ∀ w ∈ wsX60, w ∈ lw_tbl := q_places _ [323, 325, 327, 329, 331, 333, 335, 337, 339, 341, 343, 345] (by decide +kernel)
theorem inX7 : ∀ w ∈ wsX70, w ∈ lw_tbl := q_places _ [254, 256, 258, 260] (by decide +kernel)
theorem inX8 : ∀ w ∈ wsX80, w ∈ lw_tbl := q_places _ [465, 467, 469] (by decide +kernel)
theorem inX9 : ∀ w ∈ wsX90, w ∈ lw_tbl := q_places _ [398, 400, 402, 404, 406, 408, 410, 412, 414, 416, 418, 420, 422, 424, 426, 428, 430] (by decide +kernel)
theorem inX10 : ∀ w ∈ wsX100, w ∈ lw_tbl := q_places _ [514, 516, 518, 520, 522, 524, 526, 528, 530, 532, 534] (by decide +kernel)
theorem inX11 : ∀ w ∈ wsX110, w ∈ lw_tbl := q_places _ [1424, 1426, 1428, 1430, 1432, 1434, 1436, 1438, 1440, 1442, 1444, 1446, 1448, 1450, 1452, 1454, 1456, 1458, 1460, 1462, 1464, 1466, 1468, 1470, 1472, 1474, 1476, 1478, 1480, 1482, 1484] (by decide +kernel)
end
section
/-! A SMALL MACHINE over whole numbers: values are a kind (0 int, 1 long, 2 reference) and an Int; a reference is a place (0 on: a cell that the run made, in order; -1 null; below: what was there before). -/
abbrev QV : Type := Nat × Int
abbrev QMem : Type := Int → Int → Int
abbrev QSh : Type := Int → Nat × Int
abbrev QS : Type := Int × QSh × QMem
abbrev QH : Type := QS × QMem
abbrev QIns : Type := Nat × Instr × Nat
abbrev QMeth : Type := Nat × MethodName × ByteArray × Nat × Option FieldType × List QIns
abbrev QX : Type := Launch × va_G × Heap × (Nat → ClassId) × (Nat → Nat) × Nat × (Nat → Int32)
abbrev qxl (X : QX) : Launch := X.1
abbrev qxD (X : QX) : va_G := X.2.1
abbrev qxH (X : QX) : Heap := X.2.2.1
abbrev qxA (X : QX) : Nat → ClassId := X.2.2.2.1
abbrev qxo (X : QX) : Nat → Nat := X.2.2.2.2.1
abbrev qxL (X : QX) : Nat := X.2.2.2.2.2.1
abbrev qxs (X : QX) : Nat → Int32 := X.2.2.2.2.2.2
abbrev qmo (m : QMeth) : Nat := m.1
abbrev qmy (m : QMeth) : MethodName := m.2.1
abbrev qmc (m : QMeth) : ByteArray := m.2.2.1
abbrev qmL (m : QMeth) : Nat := m.2.2.2.1
abbrev qmr (m : QMeth) : Option FieldType := m.2.2.2.2.1
abbrev qmi (m : QMeth) : List QIns := m.2.2.2.2.2
/-- of which class (by its number) a method is -/
def qown (o : Nat) : String := match o with
  | 0 => RX0 | 1 => RX1 | 2 => RX2 | 3 => RX3 | 4 => RX4 | 5 => RX5 | 6 => RX6 | 7 => RX7 | 8 => RX8 | 9 => RX9 | 10 => RX10 | 11 => RX11 | 12 => RL
  | 13 => RJ7 | 14 => RJ9 | 15 => RJ13 | 16 => RJ0 | 17 => RJ1 | _ => RJ3
def qtyf (ci : Nat) : Nat → FieldType := match ci with
  | 0 => tyX0 | 1 => tyX1 | 2 => tyX2 | 3 => tyX3 | 4 => tyX4 | 5 => tyX5 | 6 => tyX6 | 7 => tyX7 | 8 => tyX8 | 9 => tyX9 | 10 => tyX10 | _ => tyX11
def qkd (t : FieldType) : Nat := match t with
  | .long => 1 | .object _ => 2 | .array _ => 2 | _ => 0
def qfk (ci k : Nat) : Nat := qkd (qtyf ci k)
/-- kinds of arrays: 100 int, 101 long, 102 byte, 103 boolean, 104 and on references -/
def qel (k : Nat) : Nat := match k with
  | 100 => 0 | 101 => 1 | 102 => 0 | 103 => 0 | _ => 2
def qty (k : Nat) : FieldType := match k with
  | 100 => .int | 101 => .long | 102 => .byte | 103 => .boolean | 104 => .object RX6 | 105 => .object RX8 | _ => .object RX0
def qrv (X : QX) (x : Int) : Value := if 0 ≤ x then .ref ((qxH X).size + x.toNat) else if x = -1 then .null else .ref (qxo X (-2 - x).toNat)
def qcv (X : QX) (v : QV) : Value := match v.1 with
  | 0 => .int (Int32.ofInt v.2)
  | 1 => .long (Int64.ofInt v.2)
  | _ => qrv X v.2
def qval (h : QH) (kd : Nat) (a j : Int) : Int := match kd with
  | 2 => h.1.2.2 a j
  | _ => h.2 a j
def qat (X : QX) (h : QH) (a : Nat) (H : Heap) : Prop :=
  ((h.1.2.1 a).1 < 100 → ∃ r : vw_C, vwCl[(h.1.2.1 a).1]? = some r ∧ t_OB ((qxH X).size + a) ((qxD X).1 (h.1.2.1 a).1) r.2.2 ((qxD X).2 (h.1.2.1 a).1) H (fun j => qcv X (qfk (h.1.2.1 a).1 j, qval h (qfk (h.1.2.1 a).1 j) a j))) ∧
  (100 ≤ (h.1.2.1 a).1 → (h.1.2.1 a).1 ≤ 106 ∧ 0 ≤ (h.1.2.1 a).2 ∧ (h.1.2.1 a).2 < 2147483648 ∧ H[(qxH X).size + a]? = some (arrV (qxA X (h.1.2.1 a).1) (h.1.2.1 a).2.toNat (fun j => qcv X (qel (h.1.2.1 a).1, qval h (qel (h.1.2.1 a).1) a j))))
/-- the heap holds what the small one says; what was there before is as it was -/
def QHp (X : QX) (h : QH) (H : Heap) : Prop :=
  (H.size : Int) = (qxH X).size + h.1.1 ∧ (∀ q : Nat, q < (qxH X).size → H[q]? = (qxH X)[q]?) ∧ (∀ a : Int, (h.1.2.1 a).1 ≠ 999 → 0 ≤ a ∧ a < h.1.1) ∧ ∀ a : Nat, (a : Int) < h.1.1 → qat X h a H
abbrev qtys (X : QX) : List (ClassId × FieldType) := [(qxA X 100, qty 100), (qxA X 101, qty 101), (qxA X 102, qty 102), (qxA X 103, qty 103), (qxA X 104, qty 104), (qxA X 105, qty 105), (qxA X 106, qty 106)]
def qA (X : QX) : Nat → Prop := fun q => (qxH X).size ≤ q
/-- the texts: (class, pool entry, text, number) -/
def qsl : List (Nat × Nat × String × Nat) := [(7, 54, "land", 0), (7, 60, "rock", 1), (7, 62, "drum", 2), (7, 64, "yards", 3), (7, 66, "takes", 4), (7, 68, "may", 5), (7, 70, "wet", 6), (7, 72, "hour", 7), (7, 74, "x", 8), (7, 76, "y", 9), (7, 78, "lies", 10), (7, 80, "or", 11), (7, 82, "and", 12), (7, 84, "not", 13), (7, 39, ";:+-*()[]=<>", 14), (11, 77, " land rock drum yards takes may wet hour x y lies and or not ", 15), (11, 115, ";:+-*()[]=<>", 14)]
def qsn : List Nat := [4, 4, 4, 5, 5, 3, 3, 4, 1, 1, 4, 2, 3, 3, 12, 61]
def qsb : List (List Int32) := [[108, 97, 110, 100], [114, 111, 99, 107], [100, 114, 117, 109], [121, 97, 114, 100, 115], [116, 97, 107, 101, 115], [109, 97, 121], [119, 101, 116], [104, 111, 117, 114], [120], [121], [108, 105, 101, 115], [111, 114], [97, 110, 100], [110, 111, 116], [59, 58, 43, 45, 42, 40, 41, 91, 93, 61, 60, 62], [32, 108, 97, 110, 100, 32, 114, 111, 99, 107, 32, 100, 114, 117, 109, 32, 121, 97, 114, 100, 115, 32, 116, 97, 107, 101, 115, 32, 109, 97, 121, 32, 119, 101, 116, 32, 104, 111, 117, 114, 32, 120, 32, 121, 32, 108, 105, 101, 115, 32, 97, 110, 100, 32, 111, 114, 32, 110, 111, 116, 32]]
def qfm (X : QX) : Int := if qxo X 200 = 0 then -1 else -203
def QStr (X : QX) (U : State) : Prop := (∀ e ∈ qsl, vk_R (qown e.1) e.2.1 e.2.2.1 (qxo X (1 + e.2.2.2)) U) ∧ vk_S 16 qsn qsb (fun i => qxo X (1 + i)) (fun i => qxo X (101 + i)) (qA X) U (qxH X) ∧ va_Z "java/lang/String" "COMPACT_STRINGS" "Z" (.int 1) (qA X) U (qxH X) ∧ va_Z "jdk/internal/util/Preconditions" "SIOOBE_FORMATTER" "Ljava/util/function/BiFunction;" (qrv X (qfm X)) (qA X) U (qxH X)
/-- what the tables say -/
def QT (X : QX) (U : State) : Prop := va_K (qxD X) vwCl (qtys X) U ∧ (va_AO RX6 U ∧ va_AO RX8 U ∧ va_AO RX0 U) ∧ va_X (qxo X 0) (qxL X) (qxs X) U (qxH X) ∧ (qxo X 0 < (qxH X).size ∧ qxL X ≤ 3072) ∧ QStr X U
theorem QT.moved {X : QX} {u U : State} (hW : u.WarmedH U.vm) (h : QT X u) : QT X U := ⟨va_K.moved hW.alike h.1, ⟨va_AO.moved hW.alike h.2.1.1, va_AO.moved hW.alike h.2.1.2.1, va_AO.moved hW.alike h.2.1.2.2⟩, va_X.moved hW.alike h.2.2.1, h.2.2.2.1, fun e he => vk_R.warm hW (h.2.2.2.2.1 e he), vk_S.moved hW.alike h.2.2.2.2.2.1, va_Z.moved hW.alike h.2.2.2.2.2.2.1, va_Z.moved hW.alike h.2.2.2.2.2.2.2⟩
theorem QT.same {X : QX} {u U : State} (hv : U.vm = u.vm) (h : QT X u) : QT X U := by
  have ha : u.vm.Alike U.vm := by rw [hv]; exact Vm.Alike.refl u.vm
  exact ⟨va_K.moved ha h.1, ⟨va_AO.moved ha h.2.1.1, va_AO.moved ha h.2.1.2.1, va_AO.moved ha h.2.1.2.2⟩, va_X.moved ha h.2.2.1, h.2.2.2.1, fun e he => vk_R.same hv (h.2.2.2.2.1 e he), vk_S.moved ha h.2.2.2.2.2.1, va_Z.moved ha h.2.2.2.2.2.2.1, va_Z.moved ha h.2.2.2.2.2.2.2⟩
def qtbl : List Cond := lw_tbl.filter goodWord
theorem qtbl_good : GoodIn qtbl qtbl := fun w h => ⟨h, good_of_word (List.mem_filter.mp h).2⟩
theorem qin {w : Cond} (i : Nat) (h : lw_tbl[i]? = some w) (hg : goodWord w = true) : w ∈ qtbl := List.mem_filter.mpr ⟨List.mem_of_getElem? h, hg⟩
def qrk (t : Option FieldType) : Nat := match t with
  | none => 0 | some t => qkd t + 1
def qret (X : QX) (rk : Nat) (x : Int) : Option Value := match rk with
  | 0 => none | k + 1 => some (qcv X (k, x))
def QPc (X : QX) (as : List QV) (h : QH) : Array Value → State → Prop := fun v U => v = (as.map (qcv X)).toArray ∧ QT X U ∧ QHp X h U.heap
def QQc (X : QX) (rk : Nat) (post : Int → QH → Prop) : Array Value → State → Outcome → State → Prop := fun _ _ o t => ∃ (x : Int) (h : QH), o = .returned (qret X rk x) ∧ post x h ∧ QT X t ∧ QHp X h t.heap
def qroom (d mc ms : Nat) : Room := { frames := d, cells := mc, slots := ms, locals := 80 * d }
/-- a method's contract: called so, with this heap, it comes back, and 'post' holds of answer and heap -/
def QC (X : QX) (d mc ms rk : Nat) (y : MethodName) (as : List QV) (h : QH) (post : Int → QH → Prop) : Prop :=
  ∃ (cc : ByteArray) (maxL : Nat) (ret : Option FieldType), Cond.code y cc maxL ret ∈ qtbl ∧ maxL ≤ 60 ∧ qrk ret = rk ∧ Met (qxl X) y (Cond.code y cc maxL ret :: qtbl) (qroom d mc ms) (QPc X as h) (QQc X rk post) mc ms (qA X)
/-- what a method's body stands on -/
def QB (X : QX) (m : QMeth) (p : Program) (s : State) (mi : MethodId) (args : Array Value) (meth : Method) (c : Code) : Prop :=
  p.tables.exec = Jvm.exec ∧ c.code = qmc m ∧ c.maxLocals = qmL m ∧ meth.sig.returnType = qmr m ∧ meth.locks = false ∧ s.vm.findClass (qown (qmo m)) = some mi.cls ∧ (∀ w ∈ qtbl, w.before args s = true) ∧ meth.name = (qmy m).name ∧ QT X s
/-- from here the body comes to its end, and 'post' holds -/
def QR (X : QX) (d : Nat) (mx : Nat × Nat) (m : QMeth) (post : Int → QH → Prop) (cs : Nat × Nat) (pc : Nat) (lv : List (Nat × QV)) (st : List QV) (h : QH) : Prop :=
  ∀ (p : Program) (e : Env) (R : Room) (s : State) (mi : MethodId) (args : Array Value) (below : List Frame) (meth : Method) (c : Code) (H : Heap) (locs : List Loc) (ls : Array Slot),
    (d ≤ R.frames ∧ 80 * d ≤ R.locals ∧ R.cells = mx.1 ∧ R.slots = mx.2) → QB X m p s mi args meth c → QHp X h H → (∀ q ∈ locs, (qxH X).size ≤ q.base) → lv_has ls (qmL m) (lv.map fun q => (q.1, qcv X q.2)) →
    W p (qxl X) e R s mi args below meth c H locs cs.1 cs.2 (MQ below (QQc X (qrk (qmr m)) post) args s mx.1 mx.2 (qA X)) (F0 mi pc ls (st.map (qcv X)))
def in32 (x : Int) : Prop := -2147483648 ≤ x ∧ x ≤ 2147483647
def in64 (x : Int) : Prop := -9223372036854775808 ≤ x ∧ x ≤ 9223372036854775807
def qup (M : QMem) (a i x : Int) : QMem := fun b j => if b = a ∧ j = i then x else M b j
/-- a cell changes, all others stay -/
theorem qhp_put {X : QX} {h h' : QH} {H H1 : Heap} {a : Int} (hH : QHp X h H) (hn : h'.1.1 = h.1.1) (hs : h'.1.2.1 = h.1.2.1) (ha : 0 ≤ a ∧ a < h.1.1) (ho : ∀ b : Int, b ≠ a → ∀ j, h'.1.2.2 b j = h.1.2.2 b j ∧ h'.2 b j = h.2 b j) (z : H1.size = H.size) (oq : ∀ q : Nat, q ≠ (qxH X).size + a.toNat → H1[q]? = H[q]?) (hat : qat X h' a.toNat H1) : QHp X h' H1 := by
  obtain ⟨h1, h2, h3, h4⟩ := hH
  refine ⟨by rw [z, hn]; exact h1, fun q hq => ?_, by rw [hs, hn]; exact h3, fun b hb => ?_⟩
  · rw [oq q (by omega)]; exact h2 q hq
  · by_cases e : (b : Int) = a
    · have : b = a.toNat := by omega
      rw [this]; exact hat
    · have hv : ∀ kd j, qval h' kd b j = qval h kd b j := by
        intro kd j
        unfold qval
        split
        · exact (ho b e j).1
        · exact (ho b e j).2
      obtain ⟨g1, g2⟩ := h4 b (by rw [← hn]; exact hb)
      have hq : H1[(qxH X).size + b]? = H[(qxH X).size + b]? := oq _ (by omega)
      refine ⟨fun hc => ?_, fun hc => ?_⟩
      · rw [hs] at hc ⊢
        obtain ⟨r, r1, r2⟩ := g1 hc
        refine ⟨r, r1, (r2.kept hq).to (fun k _ => ?_)⟩
        rw [hv]
      · rw [hs] at hc ⊢
        obtain ⟨r1, r2, r3, r4⟩ := g2 hc
        refine ⟨r1, r2, r3, ?_⟩
        rw [hq, r4]
        congr 2
        funext j
        rw [hv]
end
section
theorem q32 {x : Int} (h : in32 x) : (Int32.ofInt x).toInt = x := Int32.toInt_ofInt_of_le (by have := h.1; omega) (by have := h.2; omega)
theorem q64 {x : Int} (h : in64 x) : (Int64.ofInt x).toInt = x := Int64.toInt_ofInt_of_le (by have := h.1; omega) (by have := h.2; omega)
theorem q_lt {a b : Int} (ha : in32 a) (hb : in32 b) : Int32.ofInt a < Int32.ofInt b ↔ a < b := by rw [Int32.lt_iff_toInt_lt, q32 ha, q32 hb]
theorem q_le {a b : Int} (ha : in32 a) (hb : in32 b) : Int32.ofInt a ≤ Int32.ofInt b ↔ a ≤ b := by rw [Int32.le_iff_toInt_le, q32 ha, q32 hb]
theorem q_eq {a b : Int} (ha : in32 a) (hb : in32 b) : Int32.ofInt a = Int32.ofInt b ↔ a = b := by rw [← Int32.toInt_inj, q32 ha, q32 hb]
theorem ql_lt {a b : Int} (ha : in64 a) (hb : in64 b) : Int64.ofInt a < Int64.ofInt b ↔ a < b := by rw [Int64.lt_iff_toInt_lt, q64 ha, q64 hb]
theorem ql_eq {a b : Int} (ha : in64 a) (hb : in64 b) : Int64.ofInt a = Int64.ofInt b ↔ a = b := by rw [← Int64.toInt_inj, q64 ha, q64 hb]
theorem q_clamp {x : Int} (h : in32 x) : (Int32.ofInt x).toNatClampNeg = x.toNat := by
  show (Int32.ofInt x).toInt.toNat = x.toNat
  rw [q32 h]
def qlook (lv : List (Nat × QV)) (i : Nat) : Option QV := match lv with
  | [] => none
  | q :: r => bif q.1 == i then some q.2 else qlook r i
theorem qlook_mem {lv : List (Nat × QV)} {i : Nat} {v : QV} (h : qlook lv i = some v) : (i, v) ∈ lv := by
  induction lv with
  | nil => cases h
  | cons q r ih =>
    rw [qlook] at h
    by_cases e : q.1 = i
    · rw [show (q.1 == i) = true by simpa using e] at h
      obtain ⟨q1, q2⟩ := q
      cases h; cases e
      exact List.mem_cons_self
    · rw [show (q.1 == i) = false by simpa using e] at h
      exact List.mem_cons_of_mem _ (ih h)
theorem qlook_ls {X : QX} {ls : Array Slot} {nL : Nat} {lv : List (Nat × QV)} {i : Nat} {v : QV} (hl : lv_has ls nL (lv.map fun q => (q.1, qcv X q.2))) (h : qlook lv i = some v) : ls[i]? = some (.val (qcv X v)) := hl.2.2 (i, qcv X v) (List.mem_map.mpr ⟨(i, v), qlook_mem h, rfl⟩)
def qset (lv : List (Nat × QV)) (i : Nat) (v : QV) : List (Nat × QV) := (i, v) :: lv.filter (fun q => !(q.1 == i) && !(q.1 + 1 == i && q.2.1 == 1))
def qsetl (lv : List (Nat × QV)) (i : Nat) (v : QV) : List (Nat × QV) := (i, v) :: lv.filter (fun q => !(q.1 == i) && (!(q.1 == i + 1) && !(q.1 + 1 == i && q.2.1 == 1)))
theorem qcat (X : QX) (v : QV) : ((qcv X v).category == 2) = (v.1 == 1) := by
  obtain ⟨k, x⟩ := v
  match k with
  | 0 => rfl
  | 1 => rfl
  | k + 2 =>
    show ((qrv X x).category == 2) = _
    unfold qrv
    split
    · simp [Value.category]
    · split <;> simp [Value.category]
theorem qset_map (X : QX) (lv : List (Nat × QV)) (i : Nat) (v : QV) : (i, qcv X v) :: (lv.map fun q => (q.1, qcv X q.2)).filter (fun q => !(q.1 == i) && !(q.1 + 1 == i && q.2.category == 2)) = (qset lv i v).map fun q => (q.1, qcv X q.2) := by
  unfold qset
  rw [List.map_cons, List.filter_map]
  congr 2
  apply List.filter_congr
  intro q _
  simp only [Function.comp, qcat]
theorem qsetl_map (X : QX) (lv : List (Nat × QV)) (i : Nat) (v : QV) : (i, qcv X v) :: (lv.map fun q => (q.1, qcv X q.2)).filter (fun q => !(q.1 == i) && (!(q.1 == i + 1) && !(q.1 + 1 == i && q.2.category == 2))) = (qsetl lv i v).map fun q => (q.1, qcv X q.2) := by
  unfold qsetl
  rw [List.map_cons, List.filter_map]
  congr 2
  apply List.filter_congr
  intro q _
  simp only [Function.comp, qcat]
def qand (a b : Int) : Int := (Int32.ofInt a &&& Int32.ofInt b).toInt
def qor (a b : Int) : Int := (Int32.ofInt a ||| Int32.ofInt b).toInt
def qxor (a b : Int) : Int := (Int32.ofInt a ^^^ Int32.ofInt b).toInt
def qshl (a b : Int) : Int := (Int32.ofInt a <<< (Int32.ofInt b &&& 31)).toInt
def qshr (a b : Int) : Int := (Int32.ofInt a >>> (Int32.ofInt b &&& 31)).toInt
def qushr (a b : Int) : Int := (((Int32.ofInt a).toUInt32 >>> ((Int32.ofInt b).toUInt32 &&& Int32.toUInt32 31)).toInt32).toInt
def qland (a b : Int) : Int := (Int64.ofInt a &&& Int64.ofInt b).toInt
def qlor (a b : Int) : Int := (Int64.ofInt a ||| Int64.ofInt b).toInt
def qlxor (a b : Int) : Int := (Int64.ofInt a ^^^ Int64.ofInt b).toInt
def qlshl (a b : Int) : Int := (Int64.ofInt a <<< ((Int32.ofInt b).toInt64 &&& 63)).toInt
def qlshr (a b : Int) : Int := (Int64.ofInt a >>> ((Int32.ofInt b).toInt64 &&& 63)).toInt
def qlushr (a b : Int) : Int := (((Int64.ofInt a).toUInt64 >>> ((Int32.ofInt b).toInt64.toUInt64 &&& Int64.toUInt64 63)).toInt64).toInt
def ql2i (a : Int) : Int := ((Int64.ofInt a).toInt32).toInt
def qi2b (a : Int) : Int := ((Int32.ofInt a).toInt8.toInt32).toInt
def qi2s (a : Int) : Int := ((Int32.ofInt a).toInt16.toInt32).toInt
def qi2c (a : Int) : Int := (((Int32.ofInt a).toUInt32 % 65536).toInt32).toInt
theorem qtdiv_b {a b : Int} (hp : 0 < b) : (0 ≤ a → 0 ≤ a.tdiv b ∧ a.tdiv b ≤ a) ∧ (a ≤ 0 → a ≤ a.tdiv b ∧ a.tdiv b ≤ 0) := by
  refine ⟨fun h => ⟨Int.tdiv_nonneg h (by omega), Int.tdiv_le_self b h⟩, fun h => ?_⟩
  have h1 : 0 ≤ (-a).tdiv b := Int.tdiv_nonneg (by omega) (by omega)
  have h2 : (-a).tdiv b ≤ -a := Int.tdiv_le_self b (by omega)
  rw [Int.neg_tdiv] at h1 h2
  omega
theorem qdiv32 {a b : Int} (ha : in32 a) (hb : in32 b) (hp : 0 < b) : Int32.ofInt a / Int32.ofInt b = Int32.ofInt (a.tdiv b) := by
  have hr : in32 (a.tdiv b) := by
    obtain ⟨h1, h2⟩ := qtdiv_b (a := a) hp
    have := ha.1
    have := ha.2
    by_cases h : 0 ≤ a
    · have := h1 h; exact ⟨by omega, by omega⟩
    · have := h2 (by omega); exact ⟨by omega, by omega⟩
  rw [← Int32.toInt_inj, Int32.toInt_div, q32 ha, q32 hb, q32 hr]
  exact Int.bmod_eq_of_le (by have := hr.1; omega) (by have := hr.2; omega)
theorem qdiv64 {a b : Int} (ha : in64 a) (hb : in64 b) (hp : 0 < b) : Int64.ofInt a / Int64.ofInt b = Int64.ofInt (a.tdiv b) := by
  have hr : in64 (a.tdiv b) := by
    obtain ⟨h1, h2⟩ := qtdiv_b (a := a) hp
    have := ha.1
    have := ha.2
    by_cases h : 0 ≤ a
    · have := h1 h; exact ⟨by omega, by omega⟩
    · have := h2 (by omega); exact ⟨by omega, by omega⟩
  rw [← Int64.toInt_inj, Int64.toInt_div, q64 ha, q64 hb, q64 hr]
  exact Int.bmod_eq_of_le (by have := hr.1; omega) (by have := hr.2; omega)
theorem qcat1 (X : QX) {v : QV} (h : v.1 ≠ 1) : (qcv X v).category = 1 := by
  have e := qcat X v
  rw [show (v.1 == 1) = false by simpa using h] at e
  rcases lv_cat (qcv X v) with h | h
  · exact h
  · rw [h] at e; cases e
theorem ql_cmp {a b : Int} (ha : in64 a) (hb : in64 b) : lg_cmp (Int64.ofInt a) (Int64.ofInt b) = Int32.ofInt (if b < a then 1 else if a = b then 0 else -1) := by
  unfold lg_cmp
  by_cases h1 : b < a
  · rw [if_pos ((ql_lt hb ha).mpr h1), if_pos h1]; rfl
  · rw [if_neg (fun z => h1 ((ql_lt hb ha).mp z)), if_neg h1]
    by_cases h2 : a = b
    · rw [if_pos ((ql_eq ha hb).mpr h2), if_pos h2]; rfl
    · rw [if_neg (fun z => h2 ((ql_eq ha hb).mp z)), if_neg h2]; rfl
section QRows
variable {X : QX} {d : Nat} {mx : Nat × Nat} {m : QMeth} {post : Int → QH → Prop} {cs : Nat × Nat} {pc : Nat} {lv : List (Nat × QV)} {st : List QV} {h : QH}
theorem qs_iadd {a b : Int} (hd : decode (qmc m) pc = .ok (.iadd, 1)) (k : QR X d mx m post cs (pc + 1) lv ((0, a + b) :: st) h) : QR X d mx m post cs pc lv ((0, b) :: (0, a) :: st) h := by
  intro p e R s mi ar be me c H lo ls hR hB hH hL hl
  have k := k p e R s mi ar be me c H lo ls hR hB hH hL hl
  refine lv_iadd (x := Int32.ofInt a) (y := Int32.ofInt b) hB.1 hB.2.1 hd ?_
  rw [← Int32.ofInt_add]; exact k
theorem qs_isub {a b : Int} (hd : decode (qmc m) pc = .ok (.isub, 1)) (k : QR X d mx m post cs (pc + 1) lv ((0, a - b) :: st) h) : QR X d mx m post cs pc lv ((0, b) :: (0, a) :: st) h := by
  intro p e R s mi ar be me c H lo ls hR hB hH hL hl
  have k := k p e R s mi ar be me c H lo ls hR hB hH hL hl
  refine lv_isub (x := Int32.ofInt a) (y := Int32.ofInt b) hB.1 hB.2.1 hd ?_
  rw [← Int32.ofInt_sub]; exact k
theorem qs_imul {a b : Int} (hd : decode (qmc m) pc = .ok (.imul, 1)) (k : QR X d mx m post cs (pc + 1) lv ((0, a * b) :: st) h) : QR X d mx m post cs pc lv ((0, b) :: (0, a) :: st) h := by
  intro p e R s mi ar be me c H lo ls hR hB hH hL hl
  have k := k p e R s mi ar be me c H lo ls hR hB hH hL hl
  refine lv_imul (x := Int32.ofInt a) (y := Int32.ofInt b) hB.1 hB.2.1 hd ?_
  rw [← Int32.ofInt_mul]; exact k
theorem qs_ladd {a b : Int} (hd : decode (qmc m) pc = .ok (.ladd, 1)) (k : QR X d mx m post cs (pc + 1) lv ((1, a + b) :: st) h) : QR X d mx m post cs pc lv ((1, b) :: (1, a) :: st) h := by
  intro p e R s mi ar be me c H lo ls hR hB hH hL hl
  have k := k p e R s mi ar be me c H lo ls hR hB hH hL hl
  refine lv_ladd (x := Int64.ofInt a) (y := Int64.ofInt b) hB.1 hB.2.1 hd ?_
  rw [← Int64.ofInt_add]; exact k
theorem qs_lsub {a b : Int} (hd : decode (qmc m) pc = .ok (.lsub, 1)) (k : QR X d mx m post cs (pc + 1) lv ((1, a - b) :: st) h) : QR X d mx m post cs pc lv ((1, b) :: (1, a) :: st) h := by
  intro p e R s mi ar be me c H lo ls hR hB hH hL hl
  have k := k p e R s mi ar be me c H lo ls hR hB hH hL hl
  refine lv_lsub (x := Int64.ofInt a) (y := Int64.ofInt b) hB.1 hB.2.1 hd ?_
  rw [← Int64.ofInt_sub]; exact k
theorem qs_lmul {a b : Int} (hd : decode (qmc m) pc = .ok (.lmul, 1)) (k : QR X d mx m post cs (pc + 1) lv ((1, a * b) :: st) h) : QR X d mx m post cs pc lv ((1, b) :: (1, a) :: st) h := by
  intro p e R s mi ar be me c H lo ls hR hB hH hL hl
  have k := k p e R s mi ar be me c H lo ls hR hB hH hL hl
  refine lv_lmul (x := Int64.ofInt a) (y := Int64.ofInt b) hB.1 hB.2.1 hd ?_
  rw [← Int64.ofInt_mul]; exact k
theorem qs_iand {a b : Int} (hd : decode (qmc m) pc = .ok (.iand, 1)) (k : QR X d mx m post cs (pc + 1) lv ((0, qand a b) :: st) h) : QR X d mx m post cs pc lv ((0, b) :: (0, a) :: st) h := by
  intro p e R s mi ar be me c H lo ls hR hB hH hL hl
  have k := k p e R s mi ar be me c H lo ls hR hB hH hL hl
  refine lv_iand (x := Int32.ofInt a) (y := Int32.ofInt b) hB.1 hB.2.1 hd ?_
  simp only [List.map_cons, qcv, qand, Int32.ofInt_toInt] at k
  exact k
theorem qs_ior {a b : Int} (hd : decode (qmc m) pc = .ok (.ior, 1)) (k : QR X d mx m post cs (pc + 1) lv ((0, qor a b) :: st) h) : QR X d mx m post cs pc lv ((0, b) :: (0, a) :: st) h := by
  intro p e R s mi ar be me c H lo ls hR hB hH hL hl
  have k := k p e R s mi ar be me c H lo ls hR hB hH hL hl
  refine lv_ior (x := Int32.ofInt a) (y := Int32.ofInt b) hB.1 hB.2.1 hd ?_
  simp only [List.map_cons, qcv, qor, Int32.ofInt_toInt] at k
  exact k
theorem qs_ixor {a b : Int} (hd : decode (qmc m) pc = .ok (.ixor, 1)) (k : QR X d mx m post cs (pc + 1) lv ((0, qxor a b) :: st) h) : QR X d mx m post cs pc lv ((0, b) :: (0, a) :: st) h := by
  intro p e R s mi ar be me c H lo ls hR hB hH hL hl
  have k := k p e R s mi ar be me c H lo ls hR hB hH hL hl
  refine lv_ixor (x := Int32.ofInt a) (y := Int32.ofInt b) hB.1 hB.2.1 hd ?_
  simp only [List.map_cons, qcv, qxor, Int32.ofInt_toInt] at k
  exact k
theorem qs_ishl {a b : Int} (hd : decode (qmc m) pc = .ok (.ishl, 1)) (k : QR X d mx m post cs (pc + 1) lv ((0, qshl a b) :: st) h) : QR X d mx m post cs pc lv ((0, b) :: (0, a) :: st) h := by
  intro p e R s mi ar be me c H lo ls hR hB hH hL hl
  have k := k p e R s mi ar be me c H lo ls hR hB hH hL hl
  refine lv_ishl (x := Int32.ofInt a) (y := Int32.ofInt b) hB.1 hB.2.1 hd ?_
  simp only [List.map_cons, qcv, qshl, Int32.ofInt_toInt] at k
  exact k
theorem qs_ishr {a b : Int} (hd : decode (qmc m) pc = .ok (.ishr, 1)) (k : QR X d mx m post cs (pc + 1) lv ((0, qshr a b) :: st) h) : QR X d mx m post cs pc lv ((0, b) :: (0, a) :: st) h := by
  intro p e R s mi ar be me c H lo ls hR hB hH hL hl
  have k := k p e R s mi ar be me c H lo ls hR hB hH hL hl
  refine lv_ishr (x := Int32.ofInt a) (y := Int32.ofInt b) hB.1 hB.2.1 hd ?_
  simp only [List.map_cons, qcv, qshr, Int32.ofInt_toInt] at k
  exact k
theorem qs_iushr {a b : Int} (hd : decode (qmc m) pc = .ok (.iushr, 1)) (k : QR X d mx m post cs (pc + 1) lv ((0, qushr a b) :: st) h) : QR X d mx m post cs pc lv ((0, b) :: (0, a) :: st) h := by
  intro p e R s mi ar be me c H lo ls hR hB hH hL hl
  have k := k p e R s mi ar be me c H lo ls hR hB hH hL hl
  refine lv_iushr (x := Int32.ofInt a) (y := Int32.ofInt b) hB.1 hB.2.1 hd rfl ?_
  simp only [List.map_cons, qcv, qushr, Int32.ofInt_toInt] at k
  exact k
theorem qs_land {a b : Int} (hd : decode (qmc m) pc = .ok (.land, 1)) (k : QR X d mx m post cs (pc + 1) lv ((1, qland a b) :: st) h) : QR X d mx m post cs pc lv ((1, b) :: (1, a) :: st) h := by
  intro p e R s mi ar be me c H lo ls hR hB hH hL hl
  have k := k p e R s mi ar be me c H lo ls hR hB hH hL hl
  refine lv_land (x := Int64.ofInt a) (y := Int64.ofInt b) hB.1 hB.2.1 hd ?_
  simp only [List.map_cons, qcv, qland, Int64.ofInt_toInt] at k
  exact k
theorem qs_lor {a b : Int} (hd : decode (qmc m) pc = .ok (.lor, 1)) (k : QR X d mx m post cs (pc + 1) lv ((1, qlor a b) :: st) h) : QR X d mx m post cs pc lv ((1, b) :: (1, a) :: st) h := by
  intro p e R s mi ar be me c H lo ls hR hB hH hL hl
  have k := k p e R s mi ar be me c H lo ls hR hB hH hL hl
  refine lv_lor (x := Int64.ofInt a) (y := Int64.ofInt b) hB.1 hB.2.1 hd ?_
  simp only [List.map_cons, qcv, qlor, Int64.ofInt_toInt] at k
  exact k
theorem qs_lxor {a b : Int} (hd : decode (qmc m) pc = .ok (.lxor, 1)) (k : QR X d mx m post cs (pc + 1) lv ((1, qlxor a b) :: st) h) : QR X d mx m post cs pc lv ((1, b) :: (1, a) :: st) h := by
  intro p e R s mi ar be me c H lo ls hR hB hH hL hl
  have k := k p e R s mi ar be me c H lo ls hR hB hH hL hl
  refine lv_lxor (x := Int64.ofInt a) (y := Int64.ofInt b) hB.1 hB.2.1 hd ?_
  simp only [List.map_cons, qcv, qlxor, Int64.ofInt_toInt] at k
  exact k
theorem qs_lshl {a b : Int} (hd : decode (qmc m) pc = .ok (.lshl, 1)) (k : QR X d mx m post cs (pc + 1) lv ((1, qlshl a b) :: st) h) : QR X d mx m post cs pc lv ((0, b) :: (1, a) :: st) h := by
  intro p e R s mi ar be me c H lo ls hR hB hH hL hl
  have k := k p e R s mi ar be me c H lo ls hR hB hH hL hl
  refine lv_lshl (x := Int64.ofInt a) (y := Int32.ofInt b) hB.1 hB.2.1 hd rfl ?_
  simp only [List.map_cons, qcv, qlshl, Int64.ofInt_toInt] at k
  exact k
theorem qs_lshr {a b : Int} (hd : decode (qmc m) pc = .ok (.lshr, 1)) (k : QR X d mx m post cs (pc + 1) lv ((1, qlshr a b) :: st) h) : QR X d mx m post cs pc lv ((0, b) :: (1, a) :: st) h := by
  intro p e R s mi ar be me c H lo ls hR hB hH hL hl
  have k := k p e R s mi ar be me c H lo ls hR hB hH hL hl
  refine lv_lshr (x := Int64.ofInt a) (y := Int32.ofInt b) hB.1 hB.2.1 hd rfl ?_
  simp only [List.map_cons, qcv, qlshr, Int64.ofInt_toInt] at k
  exact k
theorem qs_lushr {a b : Int} (hd : decode (qmc m) pc = .ok (.lushr, 1)) (k : QR X d mx m post cs (pc + 1) lv ((1, qlushr a b) :: st) h) : QR X d mx m post cs pc lv ((0, b) :: (1, a) :: st) h := by
  intro p e R s mi ar be me c H lo ls hR hB hH hL hl
  have k := k p e R s mi ar be me c H lo ls hR hB hH hL hl
  refine lv_lushr (x := Int64.ofInt a) (y := Int32.ofInt b) hB.1 hB.2.1 hd rfl ?_
  simp only [List.map_cons, qcv, qlushr, Int64.ofInt_toInt] at k
  exact k
theorem qs_idiv {a b : Int} (ha : in32 a) (hb : in32 b) (hp : 0 < b) (hd : decode (qmc m) pc = .ok (.idiv, 1)) (k : QR X d mx m post cs (pc + 1) lv ((0, a.tdiv b) :: st) h) : QR X d mx m post cs pc lv ((0, b) :: (0, a) :: st) h := by
  intro p e R s mi ar be me c H lo ls hR hB hH hL hl
  have k := k p e R s mi ar be me c H lo ls hR hB hH hL hl
  refine lv_idiv (x := Int32.ofInt a) (y := Int32.ofInt b) hB.1 hB.2.1 hd (fun z => ?_) ?_
  · have z := congrArg Int32.toInt z
    rw [q32 hb] at z
    simp at z
    omega
  · rw [qdiv32 ha hb hp]; exact k
theorem qs_irem {a b : Int} (ha : in32 a) (hb : in32 b) (hp : 0 < b) (hd : decode (qmc m) pc = .ok (.irem, 1)) (k : QR X d mx m post cs (pc + 1) lv ((0, a.tmod b) :: st) h) : QR X d mx m post cs pc lv ((0, b) :: (0, a) :: st) h := by
  intro p e R s mi ar be me c H lo ls hR hB hH hL hl
  have k := k p e R s mi ar be me c H lo ls hR hB hH hL hl
  refine lv_irem (x := Int32.ofInt a) (y := Int32.ofInt b) hB.1 hB.2.1 hd (fun z => ?_) ?_
  · have z := congrArg Int32.toInt z
    rw [q32 hb] at z
    simp at z
    omega
  · rw [qdiv32 ha hb hp, ← Int32.ofInt_mul, ← Int32.ofInt_sub, show a - a.tdiv b * b = a.tmod b from by rw [Int.tmod_def, Int.mul_comm]]; exact k
theorem qs_ldiv {a b : Int} (ha : in64 a) (hb : in64 b) (hp : 0 < b) (hd : decode (qmc m) pc = .ok (.ldiv, 1)) (k : QR X d mx m post cs (pc + 1) lv ((1, a.tdiv b) :: st) h) : QR X d mx m post cs pc lv ((1, b) :: (1, a) :: st) h := by
  intro p e R s mi ar be me c H lo ls hR hB hH hL hl
  have k := k p e R s mi ar be me c H lo ls hR hB hH hL hl
  refine lv_ldiv (x := Int64.ofInt a) (y := Int64.ofInt b) hB.1 hB.2.1 hd (fun z => ?_) ?_
  · have z := congrArg Int64.toInt z
    rw [q64 hb] at z
    simp at z
    omega
  · rw [qdiv64 ha hb hp]; exact k
theorem qs_lrem {a b : Int} (ha : in64 a) (hb : in64 b) (hp : 0 < b) (hd : decode (qmc m) pc = .ok (.lrem, 1)) (k : QR X d mx m post cs (pc + 1) lv ((1, a.tmod b) :: st) h) : QR X d mx m post cs pc lv ((1, b) :: (1, a) :: st) h := by
  intro p e R s mi ar be me c H lo ls hR hB hH hL hl
  have k := k p e R s mi ar be me c H lo ls hR hB hH hL hl
  refine lv_lrem (x := Int64.ofInt a) (y := Int64.ofInt b) hB.1 hB.2.1 hd (fun z => ?_) ?_
  · have z := congrArg Int64.toInt z
    rw [q64 hb] at z
    simp at z
    omega
  · rw [qdiv64 ha hb hp, ← Int64.ofInt_mul, ← Int64.ofInt_sub, show a - a.tdiv b * b = a.tmod b from by rw [Int.tmod_def, Int.mul_comm]]; exact k
theorem qs_i2l {a : Int} (ha : in32 a) (hd : decode (qmc m) pc = .ok (.i2l, 1)) (k : QR X d mx m post cs (pc + 1) lv ((1, a) :: st) h) : QR X d mx m post cs pc lv ((0, a) :: st) h := by
  intro p e R s mi ar be me c H lo ls hR hB hH hL hl
  have k := k p e R s mi ar be me c H lo ls hR hB hH hL hl
  have e : (Int32.ofInt a).toInt64 = Int64.ofInt a := by
    rw [← Int64.toInt_inj, Int32.toInt_toInt64, q32 ha, q64 ⟨by have := ha.1; omega, by have := ha.2; omega⟩]
  exact lv_i2l (x := Int32.ofInt a) hB.1 hB.2.1 hd e k
theorem qs_l2i {a : Int} (hd : decode (qmc m) pc = .ok (.l2i, 1)) (k : QR X d mx m post cs (pc + 1) lv ((0, ql2i a) :: st) h) : QR X d mx m post cs pc lv ((1, a) :: st) h := by
  intro p e R s mi ar be me c H lo ls hR hB hH hL hl
  have k := k p e R s mi ar be me c H lo ls hR hB hH hL hl
  refine lv_l2i (x := Int64.ofInt a) hB.1 hB.2.1 hd rfl ?_
  simp only [List.map_cons, qcv, ql2i, Int32.ofInt_toInt] at k
  exact k
theorem qs_i2b {a : Int} (hd : decode (qmc m) pc = .ok (.i2b, 1)) (k : QR X d mx m post cs (pc + 1) lv ((0, qi2b a) :: st) h) : QR X d mx m post cs pc lv ((0, a) :: st) h := by
  intro p e R s mi ar be me c H lo ls hR hB hH hL hl
  have k := k p e R s mi ar be me c H lo ls hR hB hH hL hl
  refine lv_i2b (x := Int32.ofInt a) hB.1 hB.2.1 hd rfl ?_
  simp only [List.map_cons, qcv, qi2b, Int32.ofInt_toInt] at k
  exact k
theorem qs_i2s {a : Int} (hd : decode (qmc m) pc = .ok (.i2s, 1)) (k : QR X d mx m post cs (pc + 1) lv ((0, qi2s a) :: st) h) : QR X d mx m post cs pc lv ((0, a) :: st) h := by
  intro p e R s mi ar be me c H lo ls hR hB hH hL hl
  have k := k p e R s mi ar be me c H lo ls hR hB hH hL hl
  refine lv_i2s (x := Int32.ofInt a) hB.1 hB.2.1 hd rfl ?_
  simp only [List.map_cons, qcv, qi2s, Int32.ofInt_toInt] at k
  exact k
theorem qs_i2c {a : Int} (hd : decode (qmc m) pc = .ok (.i2c, 1)) (k : QR X d mx m post cs (pc + 1) lv ((0, qi2c a) :: st) h) : QR X d mx m post cs pc lv ((0, a) :: st) h := by
  intro p e R s mi ar be me c H lo ls hR hB hH hL hl
  have k := k p e R s mi ar be me c H lo ls hR hB hH hL hl
  refine lv_i2c (x := Int32.ofInt a) hB.1 hB.2.1 hd rfl ?_
  simp only [List.map_cons, qcv, qi2c, Int32.ofInt_toInt] at k
  exact k
theorem qs_iconst {n : Int} (hd : decode (qmc m) pc = .ok (.iconst n, 1)) (k : QR X d mx m post cs (pc + 1) lv ((0, n) :: st) h) : QR X d mx m post cs pc lv st h := by
  intro p e R s mi ar be me c H lo ls hR hB hH hL hl
  have k := k p e R s mi ar be me c H lo ls hR hB hH hL hl
  exact lv_iconst hB.1 hB.2.1 hd rfl k
theorem qs_bipush {n : Int} (hn : -128 ≤ n ∧ n ≤ 127) (hd : decode (qmc m) pc = .ok (.bipush n, 2)) (k : QR X d mx m post cs (pc + 2) lv ((0, n) :: st) h) : QR X d mx m post cs pc lv st h := by
  intro p e R s mi ar be me c H lo ls hR hB hH hL hl
  have k := k p e R s mi ar be me c H lo ls hR hB hH hL hl
  have e : (Int8.ofInt n).toInt32 = Int32.ofInt n := by
    rw [← Int32.toInt_inj, Int8.toInt_toInt32, Int8.toInt_ofInt_of_le (by omega) (by omega), q32 ⟨by omega, by omega⟩]
  exact lv_bipush hB.1 hB.2.1 hd e k
theorem qs_sipush {n : Int} (hn : -32768 ≤ n ∧ n ≤ 32767) (hd : decode (qmc m) pc = .ok (.sipush n, 3)) (k : QR X d mx m post cs (pc + 3) lv ((0, n) :: st) h) : QR X d mx m post cs pc lv st h := by
  intro p e R s mi ar be me c H lo ls hR hB hH hL hl
  have k := k p e R s mi ar be me c H lo ls hR hB hH hL hl
  have e : (Int16.ofInt n).toInt32 = Int32.ofInt n := by
    rw [← Int32.toInt_inj, Int16.toInt_toInt32, Int16.toInt_ofInt_of_le (by omega) (by omega), q32 ⟨by omega, by omega⟩]
  exact lv_sipush hB.1 hB.2.1 hd e k
theorem qs_lconst {n : Fin 2} (hd : decode (qmc m) pc = .ok (.lconst n, 1)) (k : QR X d mx m post cs (pc + 1) lv ((1, (n.val : Int)) :: st) h) : QR X d mx m post cs pc lv st h := by
  intro p e R s mi ar be me c H lo ls hR hB hH hL hl
  have k := k p e R s mi ar be me c H lo ls hR hB hH hL hl
  exact lv_lconst hB.1 hB.2.1 hd (by rw [Int64.ofInt_eq_ofNat]) k
theorem qs_ldc {i : Nat} {v : Int32} (hv : Cond.constant (qown (qmo m)) i v ∈ qtbl) (hd : decode (qmc m) pc = .ok (.ldc i, 2)) (k : QR X d mx m post cs (pc + 2) lv ((0, v.toInt) :: st) h) : QR X d mx m post cs pc lv st h := by
  intro p e R s mi ar be me c H lo ls hR hB hH hL hl
  have k := k p e R s mi ar be me c H lo ls hR hB hH hL hl
  simp only [List.map_cons, qcv, Int32.ofInt_toInt] at k
  exact lv_ldc hB.1 hB.2.1 hB.2.2.2.2.2.1 (hB.2.2.2.2.2.2.1 _ hv) hd k
theorem qs_ldcw {i : Nat} {v : Int32} (hv : Cond.constant (qown (qmo m)) i v ∈ qtbl) (hd : decode (qmc m) pc = .ok (.ldc_w i, 3)) (k : QR X d mx m post cs (pc + 3) lv ((0, v.toInt) :: st) h) : QR X d mx m post cs pc lv st h := by
  intro p e R s mi ar be me c H lo ls hR hB hH hL hl
  have k := k p e R s mi ar be me c H lo ls hR hB hH hL hl
  simp only [List.map_cons, qcv, Int32.ofInt_toInt] at k
  exact lv_ldcw hB.1 hB.2.1 hB.2.2.2.2.2.1 (hB.2.2.2.2.2.2.1 _ hv) hd k
theorem qs_ldc2 {i : Nat} {v : Int64} (hv : Cond.constantLong (qown (qmo m)) i v ∈ qtbl) (hd : decode (qmc m) pc = .ok (.ldc2_w i, 3)) (k : QR X d mx m post cs (pc + 3) lv ((1, v.toInt) :: st) h) : QR X d mx m post cs pc lv st h := by
  intro p e R s mi ar be me c H lo ls hR hB hH hL hl
  have k := k p e R s mi ar be me c H lo ls hR hB hH hL hl
  simp only [List.map_cons, qcv, Int64.ofInt_toInt] at k
  exact lv_ldc2 hB.1 hB.2.1 hB.2.2.2.2.2.1 (hB.2.2.2.2.2.2.1 _ hv) hd k
theorem qs_iload {i : Nat} {x : Int} (hv : qlook lv i = some (0, x)) (hd : decode (qmc m) pc = .ok (.iload i, 2)) (k : QR X d mx m post cs (pc + 2) lv ((0, x) :: st) h) : QR X d mx m post cs pc lv st h := by
  intro p e R s mi ar be me c H lo ls hR hB hH hL hl
  have k := k p e R s mi ar be me c H lo ls hR hB hH hL hl
  exact lv_iload hB.1 hB.2.1 hd (qlook_ls hl hv) k
theorem qs_iload_n {i : Fin 4} {x : Int} (hv : qlook lv i.val = some (0, x)) (hd : decode (qmc m) pc = .ok (.iload_n i, 1)) (k : QR X d mx m post cs (pc + 1) lv ((0, x) :: st) h) : QR X d mx m post cs pc lv st h := by
  intro p e R s mi ar be me c H lo ls hR hB hH hL hl
  have k := k p e R s mi ar be me c H lo ls hR hB hH hL hl
  exact lv_iload_n hB.1 hB.2.1 hd rfl (qlook_ls hl hv) k
theorem qs_lload {i : Nat} {x : Int} (hv : qlook lv i = some (1, x)) (hd : decode (qmc m) pc = .ok (.lload i, 2)) (k : QR X d mx m post cs (pc + 2) lv ((1, x) :: st) h) : QR X d mx m post cs pc lv st h := by
  intro p e R s mi ar be me c H lo ls hR hB hH hL hl
  have k := k p e R s mi ar be me c H lo ls hR hB hH hL hl
  exact lv_lload hB.1 hB.2.1 hd (qlook_ls hl hv) k
theorem qs_lload_n {i : Fin 4} {x : Int} (hv : qlook lv i.val = some (1, x)) (hd : decode (qmc m) pc = .ok (.lload_n i, 1)) (k : QR X d mx m post cs (pc + 1) lv ((1, x) :: st) h) : QR X d mx m post cs pc lv st h := by
  intro p e R s mi ar be me c H lo ls hR hB hH hL hl
  have k := k p e R s mi ar be me c H lo ls hR hB hH hL hl
  exact lv_lload_n hB.1 hB.2.1 hd rfl (qlook_ls hl hv) k
theorem qs_aload {i : Nat} {x : Int} (hv : qlook lv i = some (2, x)) (hd : decode (qmc m) pc = .ok (.aload i, 2)) (k : QR X d mx m post cs (pc + 2) lv ((2, x) :: st) h) : QR X d mx m post cs pc lv st h := by
  intro p e R s mi ar be me c H lo ls hR hB hH hL hl
  have k := k p e R s mi ar be me c H lo ls hR hB hH hL hl
  have hg := qlook_ls hl hv
  have ek : qcv X (2, x) = qrv X x := rfl
  simp only [List.map_cons] at k
  rw [ek] at k hg
  unfold qrv at k hg
  split at k
  · rename_i hc; rw [if_pos hc] at hg; exact lv_aload hB.1 hB.2.1 hd hg k
  · rename_i hc; rw [if_neg hc] at hg
    split at k
    · rename_i hc; rw [if_pos hc] at hg; exact lv_aloadN hB.1 hB.2.1 hd hg k
    · rename_i hc; rw [if_neg hc] at hg; exact lv_aload hB.1 hB.2.1 hd hg k
theorem qs_aload_n {i : Fin 4} {x : Int} (hv : qlook lv i.val = some (2, x)) (hd : decode (qmc m) pc = .ok (.aload_n i, 1)) (k : QR X d mx m post cs (pc + 1) lv ((2, x) :: st) h) : QR X d mx m post cs pc lv st h := by
  intro p e R s mi ar be me c H lo ls hR hB hH hL hl
  have k := k p e R s mi ar be me c H lo ls hR hB hH hL hl
  have hg := qlook_ls hl hv
  have ek : qcv X (2, x) = qrv X x := rfl
  simp only [List.map_cons] at k
  rw [ek] at k hg
  unfold qrv at k hg
  split at k
  · rename_i hc; rw [if_pos hc] at hg; exact lv_aload_n hB.1 hB.2.1 hd rfl hg k
  · rename_i hc; rw [if_neg hc] at hg
    split at k
    · rename_i hc; rw [if_pos hc] at hg; exact lv_aload_nN hB.1 hB.2.1 hd rfl hg k
    · rename_i hc; rw [if_neg hc] at hg; exact lv_aload_n hB.1 hB.2.1 hd rfl hg k
theorem qs_istore {i : Nat} {x : Int} (hi : i < qmL m) (hd : decode (qmc m) pc = .ok (.istore i, 2)) (k : QR X d mx m post cs (pc + 2) (qset lv i (0, x)) st h) : QR X d mx m post cs pc lv ((0, x) :: st) h := by
  intro p e R s mi ar be me c H lo ls hR hB hH hL hl
  exact lv_istore hB.1 hB.2.1 hd hl hi (qset_map X lv i (0, x)) (fun ls hl => k p e R s mi ar be me c H lo ls hR hB hH hL hl)
theorem qs_istore_n {i : Fin 4} {x : Int} (hi : i.val < qmL m) (hd : decode (qmc m) pc = .ok (.istore_n i, 1)) (k : QR X d mx m post cs (pc + 1) (qset lv i.val (0, x)) st h) : QR X d mx m post cs pc lv ((0, x) :: st) h := by
  intro p e R s mi ar be me c H lo ls hR hB hH hL hl
  exact lv_istore_n hB.1 hB.2.1 hd rfl hl hi (qset_map X lv i.val (0, x)) (fun ls hl => k p e R s mi ar be me c H lo ls hR hB hH hL hl)
theorem qs_lstore {i : Nat} {x : Int} (hi : i + 1 < qmL m) (hd : decode (qmc m) pc = .ok (.lstore i, 2)) (k : QR X d mx m post cs (pc + 2) (qsetl lv i (1, x)) st h) : QR X d mx m post cs pc lv ((1, x) :: st) h := by
  intro p e R s mi ar be me c H lo ls hR hB hH hL hl
  exact lv_lstore hB.1 hB.2.1 hd hl hi (qsetl_map X lv i (1, x)) (fun ls hl => k p e R s mi ar be me c H lo ls hR hB hH hL hl)
theorem qs_lstore_n {i : Fin 4} {x : Int} (hi : i.val + 1 < qmL m) (hd : decode (qmc m) pc = .ok (.lstore_n i, 1)) (k : QR X d mx m post cs (pc + 1) (qsetl lv i.val (1, x)) st h) : QR X d mx m post cs pc lv ((1, x) :: st) h := by
  intro p e R s mi ar be me c H lo ls hR hB hH hL hl
  exact lv_lstore_n hB.1 hB.2.1 hd rfl hl hi (qsetl_map X lv i.val (1, x)) (fun ls hl => k p e R s mi ar be me c H lo ls hR hB hH hL hl)
theorem qs_astore {i : Nat} {x : Int} (hi : i < qmL m) (hd : decode (qmc m) pc = .ok (.astore i, 2)) (k : QR X d mx m post cs (pc + 2) (qset lv i (2, x)) st h) : QR X d mx m post cs pc lv ((2, x) :: st) h := by
  intro p e R s mi ar be me c H lo ls hR hB hH hL hl
  have hq := qset_map X lv i (2, x)
  have ek : qcv X (2, x) = qrv X x := rfl
  simp only [List.map_cons]
  rw [ek] at hq ⊢
  unfold qrv at hq ⊢
  split
  · rename_i hc; rw [if_pos hc] at hq; exact lv_astore hB.1 hB.2.1 hd hl hi hq (fun ls hl => k p e R s mi ar be me c H lo ls hR hB hH hL hl)
  · rename_i hc; rw [if_neg hc] at hq
    split
    · rename_i hc; rw [if_pos hc] at hq; exact lv_astoreN hB.1 hB.2.1 hd hl hi hq (fun ls hl => k p e R s mi ar be me c H lo ls hR hB hH hL hl)
    · rename_i hc; rw [if_neg hc] at hq; exact lv_astore hB.1 hB.2.1 hd hl hi hq (fun ls hl => k p e R s mi ar be me c H lo ls hR hB hH hL hl)
theorem qs_astore_n {i : Fin 4} {x : Int} (hi : i.val < qmL m) (hd : decode (qmc m) pc = .ok (.astore_n i, 1)) (k : QR X d mx m post cs (pc + 1) (qset lv i.val (2, x)) st h) : QR X d mx m post cs pc lv ((2, x) :: st) h := by
  intro p e R s mi ar be me c H lo ls hR hB hH hL hl
  have hq := qset_map X lv i.val (2, x)
  have ek : qcv X (2, x) = qrv X x := rfl
  simp only [List.map_cons]
  rw [ek] at hq ⊢
  unfold qrv at hq ⊢
  split
  · rename_i hc; rw [if_pos hc] at hq; exact lv_astore_n hB.1 hB.2.1 hd rfl hl hi hq (fun ls hl => k p e R s mi ar be me c H lo ls hR hB hH hL hl)
  · rename_i hc; rw [if_neg hc] at hq
    split
    · rename_i hc; rw [if_pos hc] at hq; exact lv_astore_nN hB.1 hB.2.1 hd rfl hl hi hq (fun ls hl => k p e R s mi ar be me c H lo ls hR hB hH hL hl)
    · rename_i hc; rw [if_neg hc] at hq; exact lv_astore_n hB.1 hB.2.1 hd rfl hl hi hq (fun ls hl => k p e R s mi ar be me c H lo ls hR hB hH hL hl)
theorem qs_iinc {i : Nat} {n x : Int} (hi : i < qmL m) (hv : qlook lv i = some (0, x)) (hd : decode (qmc m) pc = .ok (.iinc i n, 3)) (k : QR X d mx m post cs (pc + 3) (qset lv i (0, x + n)) st h) : QR X d mx m post cs pc lv st h := by
  intro p e R s mi ar be me c H lo ls hR hB hH hL hl
  obtain ⟨k0, hk0⟩ := List.getElem?_of_mem (List.mem_map.mpr ⟨(i, ((0 : Nat), x)), qlook_mem hv, rfl⟩ : ((i, qcv X (0, x)) : Nat × Value) ∈ lv.map fun q => (q.1, qcv X q.2))
  exact lv_iinc hB.1 hB.2.1 hd hl hk0 (Int32.ofInt_add x n).symm hi (qset_map X lv i (0, x + n)) (fun ls hl => k p e R s mi ar be me c H lo ls hR hB hH hL hl)
theorem qs_dup {v : QV} (hv : v.1 ≠ 1) (hd : decode (qmc m) pc = .ok (.dup, 1)) (k : QR X d mx m post cs (pc + 1) lv (v :: v :: st) h) : QR X d mx m post cs pc lv (v :: st) h := by
  intro p e R s mi ar be me c H lo ls hR hB hH hL hl
  have k := k p e R s mi ar be me c H lo ls hR hB hH hL hl
  exact lv_dup hB.1 hB.2.1 hd (qcat1 X hv) k
theorem qs_dup2_11 {v w : QV} (hv : v.1 ≠ 1) (hw : w.1 ≠ 1) (hd : decode (qmc m) pc = .ok (.dup2, 1)) (k : QR X d mx m post cs (pc + 1) lv (v :: w :: v :: w :: st) h) : QR X d mx m post cs pc lv (v :: w :: st) h := by
  intro p e R s mi ar be me c H lo ls hR hB hH hL hl
  have k := k p e R s mi ar be me c H lo ls hR hB hH hL hl
  exact lv_dup2_11 hB.1 hB.2.1 hd (qcat1 X hv) (qcat1 X hw) k
theorem qs_dup2_2 {x : Int} (hd : decode (qmc m) pc = .ok (.dup2, 1)) (k : QR X d mx m post cs (pc + 1) lv ((1, x) :: (1, x) :: st) h) : QR X d mx m post cs pc lv ((1, x) :: st) h := by
  intro p e R s mi ar be me c H lo ls hR hB hH hL hl
  have k := k p e R s mi ar be me c H lo ls hR hB hH hL hl
  exact lv_dup2_2 hB.1 hB.2.1 hd rfl k
theorem qs_pop {v : QV} (hv : v.1 ≠ 1) (hd : decode (qmc m) pc = .ok (.pop, 1)) (k : QR X d mx m post cs (pc + 1) lv st h) : QR X d mx m post cs pc lv (v :: st) h := by
  intro p e R s mi ar be me c H lo ls hR hB hH hL hl
  have k := k p e R s mi ar be me c H lo ls hR hB hH hL hl
  exact lv_pop hB.1 hB.2.1 hd (qcat1 X hv) k
theorem qs_pop2_2 {x : Int} (hd : decode (qmc m) pc = .ok (.pop2, 1)) (k : QR X d mx m post cs (pc + 1) lv st h) : QR X d mx m post cs pc lv ((1, x) :: st) h := by
  intro p e R s mi ar be me c H lo ls hR hB hH hL hl
  have k := k p e R s mi ar be me c H lo ls hR hB hH hL hl
  exact lv_pop2_2 hB.1 hB.2.1 hd rfl k
theorem qs_goto {off : Int} {tgt : Nat} (ht : (pc : Int) + off = (tgt : Int)) (hd : decode (qmc m) pc = .ok (.goto off, 3)) (k : QR X d mx m post cs tgt lv st h) : QR X d mx m post cs pc lv st h := by
  intro p e R s mi ar be me c H lo ls hR hB hH hL hl
  exact lv_goto hB.1 hB.2.1 hd ht (k p e R s mi ar be me c H lo ls hR hB hH hL hl)
theorem qs_icmp_lt {a b off : Int} {tgt : Nat} (ha : in32 a) (hb : in32 b) (ht : (pc : Int) + off = (tgt : Int)) (hd : decode (qmc m) pc = .ok (.if_icmp .lt off, 3)) (kt : a < b → QR X d mx m post cs tgt lv st h) (kf : ¬ a < b → QR X d mx m post cs (pc + 3) lv st h) : QR X d mx m post cs pc lv ((0, b) :: (0, a) :: st) h := by
  intro p e R s mi ar be me c H lo ls hR hB hH hL hl
  exact lv_icmp_lt (x := Int32.ofInt a) (y := Int32.ofInt b) hB.1 hB.2.1 hd ht (fun z => kt ((q_lt ha hb).mp z) p e R s mi ar be me c H lo ls hR hB hH hL hl) (fun z => kf (fun w => z ((q_lt ha hb).mpr w)) p e R s mi ar be me c H lo ls hR hB hH hL hl)
theorem qs_if_lt {a off : Int} {tgt : Nat} (ha : in32 a) (ht : (pc : Int) + off = (tgt : Int)) (hd : decode (qmc m) pc = .ok (.ifCond .lt off, 3)) (kt : a < 0 → QR X d mx m post cs tgt lv st h) (kf : ¬ a < 0 → QR X d mx m post cs (pc + 3) lv st h) : QR X d mx m post cs pc lv ((0, a) :: st) h := by
  intro p e R s mi ar be me c H lo ls hR hB hH hL hl
  exact lv_if_lt (x := Int32.ofInt a) hB.1 hB.2.1 hd ht (fun z => kt ((q_lt ha (show in32 0 from ⟨by decide, by decide⟩)).mp z) p e R s mi ar be me c H lo ls hR hB hH hL hl) (fun z => kf (fun w => z ((q_lt ha (show in32 0 from ⟨by decide, by decide⟩)).mpr w)) p e R s mi ar be me c H lo ls hR hB hH hL hl)
theorem qs_icmp_le {a b off : Int} {tgt : Nat} (ha : in32 a) (hb : in32 b) (ht : (pc : Int) + off = (tgt : Int)) (hd : decode (qmc m) pc = .ok (.if_icmp .le off, 3)) (kt : a ≤ b → QR X d mx m post cs tgt lv st h) (kf : ¬ a ≤ b → QR X d mx m post cs (pc + 3) lv st h) : QR X d mx m post cs pc lv ((0, b) :: (0, a) :: st) h := by
  intro p e R s mi ar be me c H lo ls hR hB hH hL hl
  exact lv_icmp_le (x := Int32.ofInt a) (y := Int32.ofInt b) hB.1 hB.2.1 hd ht (fun z => kt ((q_le ha hb).mp z) p e R s mi ar be me c H lo ls hR hB hH hL hl) (fun z => kf (fun w => z ((q_le ha hb).mpr w)) p e R s mi ar be me c H lo ls hR hB hH hL hl)
theorem qs_if_le {a off : Int} {tgt : Nat} (ha : in32 a) (ht : (pc : Int) + off = (tgt : Int)) (hd : decode (qmc m) pc = .ok (.ifCond .le off, 3)) (kt : a ≤ 0 → QR X d mx m post cs tgt lv st h) (kf : ¬ a ≤ 0 → QR X d mx m post cs (pc + 3) lv st h) : QR X d mx m post cs pc lv ((0, a) :: st) h := by
  intro p e R s mi ar be me c H lo ls hR hB hH hL hl
  exact lv_if_le (x := Int32.ofInt a) hB.1 hB.2.1 hd ht (fun z => kt ((q_le ha (show in32 0 from ⟨by decide, by decide⟩)).mp z) p e R s mi ar be me c H lo ls hR hB hH hL hl) (fun z => kf (fun w => z ((q_le ha (show in32 0 from ⟨by decide, by decide⟩)).mpr w)) p e R s mi ar be me c H lo ls hR hB hH hL hl)
theorem qs_icmp_ge {a b off : Int} {tgt : Nat} (ha : in32 a) (hb : in32 b) (ht : (pc : Int) + off = (tgt : Int)) (hd : decode (qmc m) pc = .ok (.if_icmp .ge off, 3)) (kt : b ≤ a → QR X d mx m post cs tgt lv st h) (kf : ¬ b ≤ a → QR X d mx m post cs (pc + 3) lv st h) : QR X d mx m post cs pc lv ((0, b) :: (0, a) :: st) h := by
  intro p e R s mi ar be me c H lo ls hR hB hH hL hl
  exact lv_icmp_ge (x := Int32.ofInt a) (y := Int32.ofInt b) hB.1 hB.2.1 hd ht (fun z => kt ((q_le hb ha).mp z) p e R s mi ar be me c H lo ls hR hB hH hL hl) (fun z => kf (fun w => z ((q_le hb ha).mpr w)) p e R s mi ar be me c H lo ls hR hB hH hL hl)
theorem qs_if_ge {a off : Int} {tgt : Nat} (ha : in32 a) (ht : (pc : Int) + off = (tgt : Int)) (hd : decode (qmc m) pc = .ok (.ifCond .ge off, 3)) (kt : 0 ≤ a → QR X d mx m post cs tgt lv st h) (kf : ¬ 0 ≤ a → QR X d mx m post cs (pc + 3) lv st h) : QR X d mx m post cs pc lv ((0, a) :: st) h := by
  intro p e R s mi ar be me c H lo ls hR hB hH hL hl
  exact lv_if_ge (x := Int32.ofInt a) hB.1 hB.2.1 hd ht (fun z => kt ((q_le (show in32 0 from ⟨by decide, by decide⟩) ha).mp z) p e R s mi ar be me c H lo ls hR hB hH hL hl) (fun z => kf (fun w => z ((q_le (show in32 0 from ⟨by decide, by decide⟩) ha).mpr w)) p e R s mi ar be me c H lo ls hR hB hH hL hl)
theorem qs_icmp_gt {a b off : Int} {tgt : Nat} (ha : in32 a) (hb : in32 b) (ht : (pc : Int) + off = (tgt : Int)) (hd : decode (qmc m) pc = .ok (.if_icmp .gt off, 3)) (kt : b < a → QR X d mx m post cs tgt lv st h) (kf : ¬ b < a → QR X d mx m post cs (pc + 3) lv st h) : QR X d mx m post cs pc lv ((0, b) :: (0, a) :: st) h := by
  intro p e R s mi ar be me c H lo ls hR hB hH hL hl
  exact lv_icmp_gt (x := Int32.ofInt a) (y := Int32.ofInt b) hB.1 hB.2.1 hd ht (fun z => kt ((q_lt hb ha).mp z) p e R s mi ar be me c H lo ls hR hB hH hL hl) (fun z => kf (fun w => z ((q_lt hb ha).mpr w)) p e R s mi ar be me c H lo ls hR hB hH hL hl)
theorem qs_if_gt {a off : Int} {tgt : Nat} (ha : in32 a) (ht : (pc : Int) + off = (tgt : Int)) (hd : decode (qmc m) pc = .ok (.ifCond .gt off, 3)) (kt : 0 < a → QR X d mx m post cs tgt lv st h) (kf : ¬ 0 < a → QR X d mx m post cs (pc + 3) lv st h) : QR X d mx m post cs pc lv ((0, a) :: st) h := by
  intro p e R s mi ar be me c H lo ls hR hB hH hL hl
  exact lv_if_gt (x := Int32.ofInt a) hB.1 hB.2.1 hd ht (fun z => kt ((q_lt (show in32 0 from ⟨by decide, by decide⟩) ha).mp z) p e R s mi ar be me c H lo ls hR hB hH hL hl) (fun z => kf (fun w => z ((q_lt (show in32 0 from ⟨by decide, by decide⟩) ha).mpr w)) p e R s mi ar be me c H lo ls hR hB hH hL hl)
theorem qs_icmp_eq {a b off : Int} {tgt : Nat} (hb : ¬ a = b → in32 a ∧ in32 b) (ht : (pc : Int) + off = (tgt : Int)) (hd : decode (qmc m) pc = .ok (.if_icmp .eq off, 3)) (ke : a = b → QR X d mx m post cs tgt lv st h) (kn : ¬ a = b → QR X d mx m post cs (pc + 3) lv st h) : QR X d mx m post cs pc lv ((0, b) :: (0, a) :: st) h := by
  intro p e R s mi ar be me c H lo ls hR hB hH hL hl
  exact lv_icmp_eq (x := Int32.ofInt a) (y := Int32.ofInt b) hB.1 hB.2.1 hd ht (fun z => by
    by_cases w : a = b
    · exact ke w p e R s mi ar be me c H lo ls hR hB hH hL hl
    · exact absurd ((q_eq (hb w).1 (hb w).2).mp z) w) (fun z => kn (fun w => z (by rw [w])) p e R s mi ar be me c H lo ls hR hB hH hL hl)
theorem qs_if_eq {a off : Int} {tgt : Nat} (hb : ¬ a = 0 → in32 a ∧ in32 0) (ht : (pc : Int) + off = (tgt : Int)) (hd : decode (qmc m) pc = .ok (.ifCond .eq off, 3)) (ke : a = 0 → QR X d mx m post cs tgt lv st h) (kn : ¬ a = 0 → QR X d mx m post cs (pc + 3) lv st h) : QR X d mx m post cs pc lv ((0, a) :: st) h := by
  intro p e R s mi ar be me c H lo ls hR hB hH hL hl
  exact lv_if_eq (x := Int32.ofInt a) hB.1 hB.2.1 hd ht (fun z => by
    by_cases w : a = 0
    · exact ke w p e R s mi ar be me c H lo ls hR hB hH hL hl
    · exact absurd ((q_eq (hb w).1 (hb w).2).mp z) w) (fun z => kn (fun w => z (by rw [w]; rfl)) p e R s mi ar be me c H lo ls hR hB hH hL hl)
theorem qs_icmp_ne {a b off : Int} {tgt : Nat} (hb : ¬ a = b → in32 a ∧ in32 b) (ht : (pc : Int) + off = (tgt : Int)) (hd : decode (qmc m) pc = .ok (.if_icmp .ne off, 3)) (ke : a = b → QR X d mx m post cs (pc + 3) lv st h) (kn : ¬ a = b → QR X d mx m post cs tgt lv st h) : QR X d mx m post cs pc lv ((0, b) :: (0, a) :: st) h := by
  intro p e R s mi ar be me c H lo ls hR hB hH hL hl
  exact lv_icmp_ne (x := Int32.ofInt a) (y := Int32.ofInt b) hB.1 hB.2.1 hd ht (fun z => kn (fun w => z (by rw [w])) p e R s mi ar be me c H lo ls hR hB hH hL hl) (fun z => by
    by_cases w : a = b
    · exact ke w p e R s mi ar be me c H lo ls hR hB hH hL hl
    · exact absurd ((q_eq (hb w).1 (hb w).2).mp z) w)
theorem qs_if_ne {a off : Int} {tgt : Nat} (hb : ¬ a = 0 → in32 a ∧ in32 0) (ht : (pc : Int) + off = (tgt : Int)) (hd : decode (qmc m) pc = .ok (.ifCond .ne off, 3)) (ke : a = 0 → QR X d mx m post cs (pc + 3) lv st h) (kn : ¬ a = 0 → QR X d mx m post cs tgt lv st h) : QR X d mx m post cs pc lv ((0, a) :: st) h := by
  intro p e R s mi ar be me c H lo ls hR hB hH hL hl
  exact lv_if_ne (x := Int32.ofInt a) hB.1 hB.2.1 hd ht (fun z => kn (fun w => z (by rw [w]; rfl)) p e R s mi ar be me c H lo ls hR hB hH hL hl) (fun z => by
    by_cases w : a = 0
    · exact ke w p e R s mi ar be me c H lo ls hR hB hH hL hl
    · exact absurd ((q_eq (hb w).1 (hb w).2).mp z) w)
theorem qs_lcmp {a b : Int} (ha : in64 a) (hb : in64 b) (hd : decode (qmc m) pc = .ok (.lcmp, 1)) (k : QR X d mx m post cs (pc + 1) lv ((0, if b < a then 1 else if a = b then 0 else -1) :: st) h) : QR X d mx m post cs pc lv ((1, b) :: (1, a) :: st) h := by
  intro p e R s mi ar be me c H lo ls hR hB hH hL hl
  have k := k p e R s mi ar be me c H lo ls hR hB hH hL hl
  refine W.lcmp (x := Int64.ofInt a) (y := Int64.ofInt b) hB.1 hB.2.1 hd ?_
  rw [ql_cmp ha hb]; exact k
theorem qs_lcmp_same {a : Int} (hd : decode (qmc m) pc = .ok (.lcmp, 1)) (k : QR X d mx m post cs (pc + 1) lv ((0, 0) :: st) h) : QR X d mx m post cs pc lv ((1, a) :: (1, a) :: st) h := by
  intro p e R s mi ar be me c H lo ls hR hB hH hL hl
  have k := k p e R s mi ar be me c H lo ls hR hB hH hL hl
  refine W.lcmp (x := Int64.ofInt a) (y := Int64.ofInt a) hB.1 hB.2.1 hd ?_
  rw [show lg_cmp (Int64.ofInt a) (Int64.ofInt a) = Int32.ofInt 0 from by simp [lg_cmp]]; exact k
end QRows
end
section
theorem qlay_good {C : String} {T : u_T} {N : Nat} : ∀ w ∈ u_ws C T N, goodWord w = true := by
  intro w hw
  obtain ⟨k, -, rfl⟩ := List.mem_map.mp hw
  unfold u_lay
  split <;> rfl
theorem qlay_in {C : String} {T : u_T} {N : Nat} (h : ∀ w ∈ u_ws C T N, w ∈ lw_tbl) : ∀ w ∈ u_ws C T N, w ∈ qtbl := fun w hw => List.mem_filter.mpr ⟨h w hw, qlay_good w hw⟩
/-- the classes' tables -/
def qcl (ci : Nat) (C : String) (T : u_T) (N : Nat) : Prop := vwCl[ci]? = some (C, T, N) ∧ ci < 100 ∧ (∀ w ∈ u_ws C T N, w ∈ qtbl) ∧ (∀ k, k < N → parseFieldDescriptor (T k).2.2.1 = some (qtyf ci k)) ∧ (∀ a, a < N → ∀ b, b < N → a ≠ b → (T a).2.1 ≠ (T b).2.1)
theorem qcl_of : ∀ (ci : Nat) (C : String) (T : u_T) (N : Nat), vwCl[ci]? = some (C, T, N) → qcl ci C T N := by
  intro ci C T N hc
  match ci, hc with
  | 0, hc => cases hc; exact ⟨rfl, by decide, qlay_in inX0, tyX0_ok, nmX0⟩
  | 1, hc => cases hc; exact ⟨rfl, by decide, qlay_in inX1, tyX1_ok, nmX1⟩
  | 2, hc => cases hc; exact ⟨rfl, by decide, qlay_in inX2, tyX2_ok, nmX2⟩
  | 3, hc => cases hc; exact ⟨rfl, by decide, qlay_in inX3, tyX3_ok, nmX3⟩
  | 4, hc => cases hc; exact ⟨rfl, by decide, qlay_in inX4, tyX4_ok, nmX4⟩
  | 5, hc => cases hc; exact ⟨rfl, by decide, qlay_in inX5, tyX5_ok, nmX5⟩
  | 6, hc => cases hc; exact ⟨rfl, by decide, qlay_in inX6, tyX6_ok, nmX6⟩
  | 7, hc => cases hc; exact ⟨rfl, by decide, qlay_in inX7, tyX7_ok, nmX7⟩
  | 8, hc => cases hc; exact ⟨rfl, by decide, qlay_in inX8, tyX8_ok, nmX8⟩
  | 9, hc => cases hc; exact ⟨rfl, by decide, qlay_in inX9, tyX9_ok, nmX9⟩
  | 10, hc => cases hc; exact ⟨rfl, by decide, qlay_in inX10, tyX10_ok, nmX10⟩
  | 11, hc => cases hc; exact ⟨rfl, by decide, qlay_in inX11, tyX11_ok, nmX11⟩
  | k + 12, hc => simp at hc
theorem qcv_ref {X : QX} {a : Int} (h : 0 ≤ a) : qcv X (2, a) = .ref ((qxH X).size + a.toNat) := by
  show qrv X a = _
  rw [qrv, if_pos h]
def qfit (t : FieldType) (x : Int) : Prop := match t with
  | .boolean => x = 0 ∨ x = 1
  | .int => True | .long => True | .object _ => True | .array _ => True
  | _ => False
theorem qfit_of (X : QX) {t : FieldType} {x : Int} (h : qfit t x) : narrow t (qcv X (qkd t, x)) = qcv X (qkd t, x) ∧ fits t (qcv X (qkd t, x)) = true := by
  cases t with
  | boolean =>
    rcases h with rfl | rfl
    · exact ⟨rfl, rfl⟩
    · exact ⟨rfl, rfl⟩
  | int => exact ⟨rfl, rfl⟩
  | long => exact ⟨rfl, rfl⟩
  | object n =>
    show narrow (.object n) (qrv X x) = qrv X x ∧ fits (.object n) (qrv X x) = true
    unfold qrv
    split
    · exact ⟨rfl, rfl⟩
    · split <;> exact ⟨rfl, rfl⟩
  | array t =>
    show narrow (.array t) (qrv X x) = qrv X x ∧ fits (.array t) (qrv X x) = true
    unfold qrv
    split
    · exact ⟨rfl, rfl⟩
    · split <;> exact ⟨rfl, rfl⟩
  | _ => exact h.elim
theorem qin_ix {i : Int} {n : Nat} (h0 : 0 ≤ i) (hn : i < n) (hb : n < 2147483648) : (Int32.ofInt i).toNatClampNeg = i.toNat ∧ ¬ (Int32.ofInt i < 0 ∨ n ≤ (Int32.ofInt i).toNatClampNeg) := by
  have h32 : in32 i := ⟨by omega, by omega⟩
  have e := q_clamp h32
  refine ⟨e, ?_⟩
  rw [e]
  rintro (z | z)
  · have := (q_lt h32 (show in32 0 from ⟨by decide, by decide⟩)).mp z
    omega
  · omega
/-- reading an array's cell -/
theorem qarr {X : QX} {h : QH} {H : Heap} {a : Int} {kd : Nat} (hH : QHp X h H) (hs : (h.1.2.1 a).1 = kd) (h1 : 100 ≤ kd) (h2 : kd ≤ 106) : 0 ≤ a ∧ a < h.1.1 ∧ 0 ≤ (h.1.2.1 a).2 ∧ (h.1.2.1 a).2 < 2147483648 ∧ H[(qxH X).size + a.toNat]? = some (arrV (qxA X kd) (h.1.2.1 a).2.toNat (fun j => qcv X (qel kd, qval h (qel kd) a j))) := by
  obtain ⟨-, -, g3, g4⟩ := hH
  have ha := g3 a (by omega)
  have g5 := (g4 a.toNat (by omega)).2
  rw [show ((a.toNat : Nat) : Int) = a by omega] at g5
  obtain ⟨-, r2, r3, r4⟩ := g5 (by omega)
  rw [hs] at r4
  exact ⟨ha.1, ha.2, r2, r3, r4⟩
theorem qtys_at (X : QX) : ∀ kd, 100 ≤ kd → kd ≤ 106 → (qtys X)[kd - 100]? = some (qxA X kd, qty kd) := by
  intro kd h1 h2
  rcases (show kd = 100 ∨ kd = 101 ∨ kd = 102 ∨ kd = 103 ∨ kd = 104 ∨ kd = 105 ∨ kd = 106 by omega) with rfl | rfl | rfl | rfl | rfl | rfl | rfl <;> rfl
theorem qarrof {X : QX} {s : State} (hT : QT X s) {kd : Nat} (h1 : 100 ≤ kd) (h2 : kd ≤ 106) : ArrOfT s (qxA X kd) (qty kd) ∧ va_RA s (qxA X kd) (qty kd) := hT.1.2 (kd - 100) _ (qtys_at X kd h1 h2)
section QHeap
variable {X : QX} {d : Nat} {mx : Nat × Nat} {m : QMeth} {post : Int → QH → Prop} {cs : Nat × Nat} {pc : Nat} {lv : List (Nat × QV)} {st : List QV} {h : QH}
theorem qs_getfield {i ci k : Nat} {C : String} {T : u_T} {N : Nat} {a : Int} (hc : vwCl[ci]? = some (C, T, N)) (hk : k < N) (hlink : Cond.fieldLink (qown (qmo m)) i (T k).1 (T k).2.1 (T k).2.2.1 ∈ qtbl) (hs : (h.1.2.1 a).1 = ci) (hd : decode (qmc m) pc = .ok (.getfield i, 3))
    (kk : QR X d mx m post cs (pc + 3) lv ((qfk ci k, qval h (qfk ci k) a k) :: st) h) : QR X d mx m post cs pc lv ((2, a) :: st) h := by
  intro p e R s mi ar be me c H lo ls hR hB hH hL hl
  have kk := kk p e R s mi ar be me c H lo ls hR hB hH hL hl
  obtain ⟨-, hci, hin, hty, hnm⟩ := qcl_of ci C T N hc
  obtain ⟨hx, hb, hml, hr, hlk, hown, hts, hnme, hT⟩ := hB
  have ha := hH.2.2.1 a (by omega)
  have g := (hH.2.2.2 a.toNat (by omega)).1
  rw [show ((a.toNat : Nat) : Int) = a by omega, hs] at g
  obtain ⟨r, r1, cell, q1, q2, q3, q4⟩ := g hci
  have hr : r = (C, T, N) := Option.some.inj (r1.symm.trans hc)
  subst hr
  obtain ⟨hS, hfc, kC, hkC, hkind⟩ := hT.1.1 ci _ hc
  obtain ⟨cf, kf, fi, f, hi, hsl⟩ := hS k hk
  simp only [List.map_cons]
  rw [qcv_ref ha.1]
  refine W.getf hx hb hown (hts _ hlink) hi (u_facts hfc hkC (u_lays hts hin hk) hi).1 q1 (by rw [q3]; exact fun h => by cases h) (v := qcv X (qfk ci k, qval h (qfk ci k) a k)) ?_ rfl rfl hd kk
  rw [hsl, q4 k hk]
/-- what a store into a field leaves -/
def qputf (h : QH) (kd : Nat) (a j x : Int) : QH := match kd with
  | 2 => ((h.1.1, h.1.2.1, qup h.1.2.2 a j x), h.2)
  | _ => (h.1, qup h.2 a j x)
theorem qputf_ne (h : QH) {kd : Nat} (hk : kd ≠ 2) (a j x : Int) : qputf h kd a j x = (h.1, qup h.2 a j x) := by
  unfold qputf
  split
  · contradiction
  · rfl
theorem qval_ne (h : QH) {kd : Nat} (hk : kd ≠ 2) (a j : Int) : qval h kd a j = h.2 a j := by
  unfold qval
  split
  · contradiction
  · rfl
theorem qputf_val (h : QH) (kd : Nat) (a j x : Int) (kd' : Nat) (b i : Int) : qval (qputf h kd a j x) kd' b i = if (kd = 2 ↔ kd' = 2) ∧ b = a ∧ i = j then x else qval h kd' b i := by
  by_cases h1 : kd = 2
  · subst h1
    by_cases h2 : kd' = 2
    · subst h2
      show qup h.1.2.2 a j x b i = _
      unfold qup
      simp
      rfl
    · rw [qval_ne _ h2, qval_ne _ h2, if_neg (by simp [h2])]
      rfl
  · rw [qputf_ne _ h1]
    by_cases h2 : kd' = 2
    · subst h2
      rw [if_neg (by simp [h1])]
      rfl
    · rw [qval_ne _ h2, qval_ne _ h2]
      unfold qup
      simp [h1, h2]
theorem qputf_s (h : QH) (kd : Nat) (a j x : Int) : (qputf h kd a j x).1.1 = h.1.1 ∧ (qputf h kd a j x).1.2.1 = h.1.2.1 ∧ ∀ b : Int, b ≠ a → ∀ i, (qputf h kd a j x).1.2.2 b i = h.1.2.2 b i ∧ (qputf h kd a j x).2 b i = h.2 b i := by
  unfold qputf
  split
  · exact ⟨rfl, rfl, fun b hb i => ⟨by simp [qup, hb], rfl⟩⟩
  · exact ⟨rfl, rfl, fun b hb i => ⟨rfl, by simp [qup, hb]⟩⟩
theorem qs_putfield {i ci k : Nat} {C : String} {T : u_T} {N : Nat} {a x : Int} (hc : vwCl[ci]? = some (C, T, N)) (hk : k < N) (hlink : Cond.fieldLink (qown (qmo m)) i (T k).1 (T k).2.1 (T k).2.2.1 ∈ qtbl) (hs : (h.1.2.1 a).1 = ci) (hfit : qfit (qtyf ci k) x)
    (hfin : (T k).2.2.2 = false ∨ ((qmy m).name = "<init>" ∧ (T k).1 = qown (qmo m))) (hd : decode (qmc m) pc = .ok (.putfield i, 3))
    (kk : QR X d mx m post cs (pc + 3) lv st (qputf h (qfk ci k) a k x)) : QR X d mx m post cs pc lv ((qfk ci k, x) :: (2, a) :: st) h := by
  intro p e R s mi ar be me c H lo ls hR hB hH hL hl
  have hB0 := hB
  obtain ⟨-, hci, hin, hty, hnm⟩ := qcl_of ci C T N hc
  obtain ⟨hx, hb, hml, hr, hlk, hown, hts, hnme, hT⟩ := hB
  have ha := hH.2.2.1 a (by omega)
  have g := (hH.2.2.2 a.toNat (by omega)).1
  rw [show ((a.toNat : Nat) : Int) = a by omega, hs] at g
  obtain ⟨r, r1, cell, q1, q2, q3, q4⟩ := g hci
  have hr : r = (C, T, N) := Option.some.inj (r1.symm.trans hc)
  subst hr
  have hap := va_apart (own := qown (qmo m)) hts hin (qtyf ci) hty hnm hT.1 hc
  obtain ⟨hS, hfc, kC, hkC, hkind⟩ := hT.1.1 ci _ hc
  obtain ⟨cf, kf, fi, f, hi, hsl⟩ := hS k hk
  have hst := (u_facts hfc hkC (u_lays hts hin hk) hi).1
  have hnf := qfit_of X hfit
  have goal : ∀ H' : Heap, H'[(qxH X).size + a.toNat]? = some (cell.setSlot f.slot (qcv X (qfk ci k, x))) → H'.size = H.size → (∀ q, q ≠ (qxH X).size + a.toNat → H'[q]? = H[q]?) → W p (qxl X) e R s mi ar be me c H' (lo ++ [⟨(qxH X).size + a.toNat, f.slot⟩]) cs.1 cs.2 (MQ be (QQc X (qrk (qmr m)) post) ar s mx.1 mx.2 (qA X)) (F0 mi (pc + 3) ls (st.map (qcv X))) := by
    intro H' e1 e2 e3
    refine kk p e R s mi ar be me c H' _ ls hR hB0 ?_ ?_ hl
    · obtain ⟨s1, s2, s3⟩ := qputf_s h (qfk ci k) a k x
      refine qhp_put hH s1 s2 ha s3 e2 e3 ?_
      refine ⟨fun _ => ?_, fun hz => ?_⟩
      · rw [s2, show ((a.toNat : Nat) : Int) = a by omega, hs]
        rw [hsl] at e1
        refine ⟨_, hc, (show t_OB _ _ _ _ _ (updV _ k _) from ⟨_, e1, q2, q3, t_set q4 hap hk (qcv X (qfk ci k, x))⟩).to (fun j hj => ?_)⟩
        unfold updV
        rw [qputf_val]
        by_cases hjk : j = k
        · subst hjk; simp
        · have : ¬ ((j : Int) = k) := by omega
          simp [hjk, this]
      · rw [s2, show ((a.toNat : Nat) : Int) = a by omega, hs] at hz; omega
    · intro q hq
      rcases List.mem_append.mp hq with hq | hq
      · exact hL q hq
      · rw [List.mem_singleton.mp hq]; exact Nat.le_add_right _ _
  simp only [List.map_cons]
  rw [qcv_ref ha.1]
  have hlay := hts _ (hin _ (u_in_lay hk))
  unfold u_lay at hlay
  by_cases hf : (T k).2.2.2 = true
  · rw [if_pos hf] at hlay
    obtain ⟨hin2, hdecl⟩ : (qmy m).name = "<init>" ∧ (T k).1 = qown (qmo m) := by
      rcases hfin with z | z
      · rw [hf] at z; cases z
      · exact z
    have hcf : mi.cls = cf := by
      obtain ⟨_, _, c', _, _, _, -, -, hf', -, -, -, hown2, -⟩ := Cond.laysFinal_spec hlay
      have e1 : c' = cf := by have := hi.symm.trans hf'; simp at this; exact this.1.symm
      rw [hdecl] at hown2
      rw [← e1]; exact Option.some.inj (hown.symm.trans hown2)
    have h6 := u_fits hfc hkC hkind (Or.inr hlay) hi (hty k hk) hnf.1 hnf.2
    exact W.putFinK hx hb hown (hts _ hlink) hi hst hcf (hnme.trans hin2) (by rw [q2]; exact h6) q1 q3 (by rw [hsl]; exact k2_hasslot (q4 k hk)) rfl rfl hd goal
  · rw [if_neg hf] at hlay
    have h6 := u_store hfc hkC hkind hlay hi (hty k hk) hnf.1 hnf.2
    exact W.putK hx hb (f := f) ⟨hown, hts _ hlink, ⟨_, _, _, hi⟩, hst⟩ (by rw [q2]; exact h6) q1 q3 (by rw [hsl]; exact k2_hasslot (q4 k hk)) rfl rfl hd goal
end QHeap
end
section
section QArr
variable {X : QX} {d : Nat} {mx : Nat × Nat} {m : QMeth} {post : Int → QH → Prop} {cs : Nat × Nat} {pc : Nat} {lv : List (Nat × QV)} {st : List QV} {h : QH}
theorem qs_iaload {a i : Int} (hs : (h.1.2.1 a).1 = 100) (h0 : 0 ≤ i) (hn : i < (h.1.2.1 a).2) (hd : decode (qmc m) pc = .ok (.iaload, 1)) (k : QR X d mx m post cs (pc + 1) lv ((0, h.2 a i) :: st) h) : QR X d mx m post cs pc lv ((0, i) :: (2, a) :: st) h := by
  intro p e R s mi ar be me c H lo ls hR hB hH hL hl
  have k := k p e R s mi ar be me c H lo ls hR hB hH hL hl
  obtain ⟨a0, an, l0, l1, hcell⟩ := qarr hH hs (by decide) (by decide)
  obtain ⟨hx, hb, hml, hr, hlk, hown, hts, hnme, hT⟩ := hB
  obtain ⟨e1, e2⟩ := qin_ix (n := (h.1.2.1 a).2.toNat) h0 (by omega) (by omega)
  simp only [List.map_cons]
  rw [qcv_ref a0]
  refine W.iald (j := Int32.ofInt i) (v := qcv X (0, h.2 a i)) hx hb hcell ((qarrof (kd := 100) hT (by decide) (by decide)).1 _ _) (fun q => by cases q) (by rw [arrV_size]; exact e2) ?_ rfl rfl hd k
  rw [e1, arrV_read _ _ (by omega)]
  show some (qcv X (0, qval h 0 a ((i.toNat : Nat) : Int))) = _
  rw [show ((i.toNat : Nat) : Int) = i by omega]
  rfl
theorem qs_laload {a i : Int} (hs : (h.1.2.1 a).1 = 101) (h0 : 0 ≤ i) (hn : i < (h.1.2.1 a).2) (hd : decode (qmc m) pc = .ok (.laload, 1)) (k : QR X d mx m post cs (pc + 1) lv ((1, h.2 a i) :: st) h) : QR X d mx m post cs pc lv ((0, i) :: (2, a) :: st) h := by
  intro p e R s mi ar be me c H lo ls hR hB hH hL hl
  have k := k p e R s mi ar be me c H lo ls hR hB hH hL hl
  obtain ⟨a0, an, l0, l1, hcell⟩ := qarr hH hs (by decide) (by decide)
  obtain ⟨hx, hb, hml, hr, hlk, hown, hts, hnme, hT⟩ := hB
  obtain ⟨e1, e2⟩ := qin_ix (n := (h.1.2.1 a).2.toNat) h0 (by omega) (by omega)
  simp only [List.map_cons]
  rw [qcv_ref a0]
  refine W.lald (j := Int32.ofInt i) (v := qcv X (1, h.2 a i)) hx hb hcell ((qarrof (kd := 101) hT (by decide) (by decide)).1 _ _) (fun q => by cases q) (by rw [arrV_size]; exact e2) ?_ rfl rfl hd k
  rw [e1, arrV_read _ _ (by omega)]
  show some (qcv X (1, qval h 1 a ((i.toNat : Nat) : Int))) = _
  rw [show ((i.toNat : Nat) : Int) = i by omega]
  rfl
theorem qs_baload {a i : Int} (hs : (h.1.2.1 a).1 = 102) (h0 : 0 ≤ i) (hn : i < (h.1.2.1 a).2) (hd : decode (qmc m) pc = .ok (.baload, 1)) (k : QR X d mx m post cs (pc + 1) lv ((0, h.2 a i) :: st) h) : QR X d mx m post cs pc lv ((0, i) :: (2, a) :: st) h := by
  intro p e R s mi ar be me c H lo ls hR hB hH hL hl
  have k := k p e R s mi ar be me c H lo ls hR hB hH hL hl
  obtain ⟨a0, an, l0, l1, hcell⟩ := qarr hH hs (by decide) (by decide)
  obtain ⟨hx, hb, hml, hr, hlk, hown, hts, hnme, hT⟩ := hB
  obtain ⟨e1, e2⟩ := qin_ix (n := (h.1.2.1 a).2.toNat) h0 (by omega) (by omega)
  simp only [List.map_cons]
  rw [qcv_ref a0]
  refine W.bald (j := Int32.ofInt i) (v := qcv X (0, h.2 a i)) hx hb hcell ((qarrof (kd := 102) hT (by decide) (by decide)).1 _ _) (fun q => by cases q) (by rw [arrV_size]; exact e2) ?_ rfl rfl hd k
  rw [e1, arrV_read _ _ (by omega)]
  show some (qcv X (0, qval h 0 a ((i.toNat : Nat) : Int))) = _
  rw [show ((i.toNat : Nat) : Int) = i by omega]
  rfl
theorem qs_zaload {a i : Int} (hs : (h.1.2.1 a).1 = 103) (h0 : 0 ≤ i) (hn : i < (h.1.2.1 a).2) (hd : decode (qmc m) pc = .ok (.baload, 1)) (k : QR X d mx m post cs (pc + 1) lv ((0, h.2 a i) :: st) h) : QR X d mx m post cs pc lv ((0, i) :: (2, a) :: st) h := by
  intro p e R s mi ar be me c H lo ls hR hB hH hL hl
  have k := k p e R s mi ar be me c H lo ls hR hB hH hL hl
  obtain ⟨a0, an, l0, l1, hcell⟩ := qarr hH hs (by decide) (by decide)
  obtain ⟨hx, hb, hml, hr, hlk, hown, hts, hnme, hT⟩ := hB
  obtain ⟨e1, e2⟩ := qin_ix (n := (h.1.2.1 a).2.toNat) h0 (by omega) (by omega)
  simp only [List.map_cons]
  rw [qcv_ref a0]
  refine W.zald (j := Int32.ofInt i) (v := qcv X (0, h.2 a i)) hx hb hcell ((qarrof (kd := 103) hT (by decide) (by decide)).1 _ _) (fun q => by cases q) (by rw [arrV_size]; exact e2) ?_ rfl rfl hd k
  rw [e1, arrV_read _ _ (by omega)]
  show some (qcv X (0, qval h 0 a ((i.toNat : Nat) : Int))) = _
  rw [show ((i.toNat : Nat) : Int) = i by omega]
  rfl
theorem qs_aaload {kd : Nat} {a i : Int} (hs : (h.1.2.1 a).1 = kd) (hk1 : 104 ≤ kd) (hk2 : kd ≤ 106) (h0 : 0 ≤ i) (hn : i < (h.1.2.1 a).2) (hd : decode (qmc m) pc = .ok (.aaload, 1)) (k : QR X d mx m post cs (pc + 1) lv ((2, h.1.2.2 a i) :: st) h) : QR X d mx m post cs pc lv ((0, i) :: (2, a) :: st) h := by
  intro p e R s mi ar be me c H lo ls hR hB hH hL hl
  have k := k p e R s mi ar be me c H lo ls hR hB hH hL hl
  obtain ⟨a0, an, l0, l1, hcell⟩ := qarr hH hs (by omega) (by omega)
  obtain ⟨hx, hb, hml, hr, hlk, hown, hts, hnme, hT⟩ := hB
  obtain ⟨e1, e2⟩ := qin_ix (n := (h.1.2.1 a).2.toNat) h0 (by omega) (by omega)
  simp only [List.map_cons]
  rw [qcv_ref a0]
  have hel : qel kd = 2 ∧ (qty kd).isReference = true := by
    rcases (show kd = 104 ∨ kd = 105 ∨ kd = 106 by omega) with rfl | rfl | rfl <;> exact ⟨rfl, rfl⟩
  refine W.aald (j := Int32.ofInt i) (v := qcv X (2, h.1.2.2 a i)) hx hb hcell ((qarrof (kd := kd) hT (by omega) (by omega)).1 _ _) hel.2 (fun q => by cases q) (by rw [arrV_size]; exact e2) ?_ rfl rfl hd k
  rw [e1, arrV_read _ _ (by omega), hel.1]
  show some (qcv X (2, qval h 2 a ((i.toNat : Nat) : Int))) = _
  rw [show ((i.toNat : Nat) : Int) = i by omega]
  rfl
theorem qs_alen {a : Int} (h1 : 100 ≤ (h.1.2.1 a).1) (h2 : (h.1.2.1 a).1 ≤ 106) (hd : decode (qmc m) pc = .ok (.arraylength, 1)) (k : QR X d mx m post cs (pc + 1) lv ((0, (h.1.2.1 a).2) :: st) h) : QR X d mx m post cs pc lv ((2, a) :: st) h := by
  intro p e R s mi ar be me c H lo ls hR hB hH hL hl
  have k := k p e R s mi ar be me c H lo ls hR hB hH hL hl
  obtain ⟨a0, an, l0, l1, hcell⟩ := qarr hH rfl h1 h2
  obtain ⟨hx, hb, hml, hr, hlk, hown, hts, hnme, hT⟩ := hB
  simp only [List.map_cons]
  rw [qcv_ref a0]
  refine W.alen (n := Int32.ofInt (h.1.2.1 a).2) hx hb hcell ((qarrof hT h1 h2).1 _ _) ?_ rfl rfl hd k
  rw [arrV_size]
  generalize (h.1.2.1 a).2 = z at l0
  show Int32.ofNat z.toNat = _
  rw [← Int32.ofInt_eq_ofNat, show ((z.toNat : Nat) : Int) = z by omega]
/-- a store into an array: the cell as it is then -/
theorem qhp_ast {H H1 : Heap} {kd : Nat} {a i x : Int} (hH : QHp X h H) (hs : (h.1.2.1 a).1 = kd) (hk1 : 100 ≤ kd) (hk2 : kd ≤ 106) (h0 : 0 ≤ i) (e1 : H1[(qxH X).size + a.toNat]? = some ((arrV (qxA X kd) (h.1.2.1 a).2.toNat (fun j => qcv X (qel kd, qval h (qel kd) a j))).setSlot i.toNat (qcv X (qel kd, x)))) (z : H1.size = H.size) (oq : ∀ q, q ≠ (qxH X).size + a.toNat → H1[q]? = H[q]?) : QHp X (qputf h (qel kd) a i x) H1 := by
  obtain ⟨a0, an, l0, l1, hcell⟩ := qarr hH hs hk1 hk2
  obtain ⟨s1, s2, s3⟩ := qputf_s h (qel kd) a i x
  refine qhp_put hH s1 s2 ⟨a0, an⟩ s3 z oq ⟨fun hz => ?_, fun _ => ?_⟩
  · rw [s2, show ((a.toNat : Nat) : Int) = a by omega, hs] at hz; omega
  · rw [s2, show ((a.toNat : Nat) : Int) = a by omega, hs]
    refine ⟨hk2, l0, l1, ?_⟩
    rw [e1, arrV_store]
    congr 2
    funext j
    unfold updV
    rw [qputf_val]
    by_cases hj : j = i.toNat
    · subst hj
      simp [show ((i.toNat : Nat) : Int) = i by omega]
    · have : ¬ ((j : Int) = i) := by omega
      simp [hj, this]
theorem qlocs {lo : List Loc} {b j : Nat} (hL : ∀ q ∈ lo, (qxH X).size ≤ q.base) (hb : (qxH X).size ≤ b) : ∀ q ∈ lo ++ [(⟨b, j⟩ : Loc)], (qxH X).size ≤ q.base := by
  intro q hq
  rcases List.mem_append.mp hq with hq | hq
  · exact hL q hq
  · rw [List.mem_singleton.mp hq]; exact hb
theorem qs_iastore {a i x : Int} (hs : (h.1.2.1 a).1 = 100) (h0 : 0 ≤ i) (hn : i < (h.1.2.1 a).2) (hd : decode (qmc m) pc = .ok (.iastore, 1)) (k : QR X d mx m post cs (pc + 1) lv st (h.1, qup h.2 a i x)) : QR X d mx m post cs pc lv ((0, x) :: (0, i) :: (2, a) :: st) h := by
  intro p e R s mi ar be me c H lo ls hR hB hH hL hl
  have hB0 := hB
  obtain ⟨a0, an, l0, l1, hcell⟩ := qarr hH hs (by decide) (by decide)
  obtain ⟨hx, hb, hml, hr, hlk, hown, hts, hnme, hT⟩ := hB
  obtain ⟨e1, e2⟩ := qin_ix (n := (h.1.2.1 a).2.toNat) h0 (by omega) (by omega)
  simp only [List.map_cons]
  rw [qcv_ref a0]
  refine W.iast (j := Int32.ofInt i) hx hb hcell ((qarrof (kd := 100) hT (by decide) (by decide)).1 _ _) (fun q => by cases q) (by rw [arrV_size]; exact e2) rfl rfl hd (fun H1 f1 f2 f3 => ?_)
  rw [e1] at f1
  refine k p e R s mi ar be me c H1 _ ls hR hB0 (qhp_ast (kd := 100) (x := x) hH hs (by decide) (by decide) h0 (by exact f1) f2 f3) (qlocs hL (Nat.le_add_right _ _)) hl
theorem qs_lastore {a i x : Int} (hs : (h.1.2.1 a).1 = 101) (h0 : 0 ≤ i) (hn : i < (h.1.2.1 a).2) (hd : decode (qmc m) pc = .ok (.lastore, 1)) (k : QR X d mx m post cs (pc + 1) lv st (h.1, qup h.2 a i x)) : QR X d mx m post cs pc lv ((1, x) :: (0, i) :: (2, a) :: st) h := by
  intro p e R s mi ar be me c H lo ls hR hB hH hL hl
  have hB0 := hB
  obtain ⟨a0, an, l0, l1, hcell⟩ := qarr hH hs (by decide) (by decide)
  obtain ⟨hx, hb, hml, hr, hlk, hown, hts, hnme, hT⟩ := hB
  obtain ⟨e1, e2⟩ := qin_ix (n := (h.1.2.1 a).2.toNat) h0 (by omega) (by omega)
  simp only [List.map_cons]
  rw [qcv_ref a0]
  refine W.last (j := Int32.ofInt i) hx hb hcell ((qarrof (kd := 101) hT (by decide) (by decide)).1 _ _) (fun q => by cases q) (by rw [arrV_size]; exact e2) rfl rfl hd (fun H1 f1 f2 f3 => ?_)
  rw [e1] at f1
  refine k p e R s mi ar be me c H1 _ ls hR hB0 (qhp_ast (kd := 101) (x := x) hH hs (by decide) (by decide) h0 (by exact f1) f2 f3) (qlocs hL (Nat.le_add_right _ _)) hl
theorem qnb (x : Int) : narrow .byte (.int (Int32.ofInt x)) = qcv X (qel 102, qi2b x) := by
  show narrow .byte (.int (Int32.ofInt x)) = .int (Int32.ofInt (qi2b x))
  rw [qi2b, Int32.ofInt_toInt]
  rfl
theorem qnz {x : Int} (hz : x = 0 ∨ x = 1) : narrow .boolean (.int (Int32.ofInt x)) = qcv X (qel 103, x) := by
  rcases hz with rfl | rfl <;> rfl
theorem qs_bastore {a i x : Int} (hs : (h.1.2.1 a).1 = 102) (h0 : 0 ≤ i) (hn : i < (h.1.2.1 a).2) (hd : decode (qmc m) pc = .ok (.bastore, 1)) (k : QR X d mx m post cs (pc + 1) lv st (h.1, qup h.2 a i (qi2b x))) : QR X d mx m post cs pc lv ((0, x) :: (0, i) :: (2, a) :: st) h := by
  intro p e R s mi ar be me c H lo ls hR hB hH hL hl
  have hB0 := hB
  obtain ⟨a0, an, l0, l1, hcell⟩ := qarr hH hs (by decide) (by decide)
  obtain ⟨hx, hb, hml, hr, hlk, hown, hts, hnme, hT⟩ := hB
  obtain ⟨e1, e2⟩ := qin_ix (n := (h.1.2.1 a).2.toNat) h0 (by omega) (by omega)
  simp only [List.map_cons]
  rw [qcv_ref a0]
  refine W.bast (j := Int32.ofInt i) hx hb hcell ((qarrof (kd := 102) hT (by decide) (by decide)).1 _ _) (fun q => by cases q) (by rw [arrV_size]; exact e2) rfl rfl hd (fun H1 f1 f2 f3 => ?_)
  rw [e1] at f1
  refine k p e R s mi ar be me c H1 _ ls hR hB0 (qhp_ast (kd := 102) (x := (qi2b x)) hH hs (by decide) (by decide) h0 (by rw [← qnb]; exact f1) f2 f3) (qlocs hL (Nat.le_add_right _ _)) hl
theorem qs_zastore {a i x : Int} (hz : x = 0 ∨ x = 1) (hs : (h.1.2.1 a).1 = 103) (h0 : 0 ≤ i) (hn : i < (h.1.2.1 a).2) (hd : decode (qmc m) pc = .ok (.bastore, 1)) (k : QR X d mx m post cs (pc + 1) lv st (h.1, qup h.2 a i x)) : QR X d mx m post cs pc lv ((0, x) :: (0, i) :: (2, a) :: st) h := by
  intro p e R s mi ar be me c H lo ls hR hB hH hL hl
  have hB0 := hB
  obtain ⟨a0, an, l0, l1, hcell⟩ := qarr hH hs (by decide) (by decide)
  obtain ⟨hx, hb, hml, hr, hlk, hown, hts, hnme, hT⟩ := hB
  obtain ⟨e1, e2⟩ := qin_ix (n := (h.1.2.1 a).2.toNat) h0 (by omega) (by omega)
  simp only [List.map_cons]
  rw [qcv_ref a0]
  refine W.zast (j := Int32.ofInt i) hx hb hcell ((qarrof (kd := 103) hT (by decide) (by decide)).1 _ _) (fun q => by cases q) (by rw [arrV_size]; exact e2) rfl rfl hd (fun H1 f1 f2 f3 => ?_)
  rw [e1] at f1
  refine k p e R s mi ar be me c H1 _ ls hR hB0 (qhp_ast (kd := 103) (x := x) hH hs (by decide) (by decide) h0 (by rw [← qnz hz]; exact f1) f2 f3) (qlocs hL (Nat.le_add_right _ _)) hl
theorem qs_aastore {kd ci : Nat} {a i x : Int} (hs : (h.1.2.1 a).1 = kd) (hk1 : 104 ≤ kd) (hk2 : kd ≤ 106) (hx : (h.1.2.1 x).1 = ci) (hci : (kd = 104 ∧ ci = 6) ∨ (kd = 105 ∧ ci = 8) ∨ (kd = 106 ∧ ci = 0)) (h0 : 0 ≤ i) (hn : i < (h.1.2.1 a).2) (hd : decode (qmc m) pc = .ok (.aastore, 1)) (k : QR X d mx m post cs (pc + 1) lv st ((h.1.1, h.1.2.1, qup h.1.2.2 a i x), h.2)) : QR X d mx m post cs pc lv ((2, x) :: (0, i) :: (2, a) :: st) h := by
  intro p e R s mi ar be me c H lo ls hR hB hH hL hl
  have hB0 := hB
  obtain ⟨a0, an, l0, l1, hcell⟩ := qarr hH hs (by omega) (by omega)
  obtain ⟨hxx, hb, hml, hr, hlk, hown, hts, hnme, hT⟩ := hB
  obtain ⟨e1, e2⟩ := qin_ix (n := (h.1.2.1 a).2.toNat) h0 (by omega) (by omega)
  have hcx : ci < 100 ∧ ∃ r : vw_C, vwCl[ci]? = some r ∧ qty kd = .object r.1 := by
    rcases hci with ⟨rfl, rfl⟩ | ⟨rfl, rfl⟩ | ⟨rfl, rfl⟩
    · exact ⟨by decide, _, rfl, rfl⟩
    · exact ⟨by decide, _, rfl, rfl⟩
    · exact ⟨by decide, _, rfl, rfl⟩
  obtain ⟨hc100, r, hr0, hty⟩ := hcx
  have hel : qel kd = 2 := by
    rcases (show kd = 104 ∨ kd = 105 ∨ kd = 106 by omega) with rfl | rfl | rfl <;> rfl
  have hax := hH.2.2.1 x (by omega)
  have g := (hH.2.2.2 x.toNat (by omega)).1
  rw [show ((x.toNat : Nat) : Int) = x by omega, hx] at g
  obtain ⟨r', r1, cell, q1, q2, q3, q4⟩ := g hc100
  cases r1.symm.trans hr0
  obtain ⟨kA, comp, k1, k2, k3, -⟩ : ∃ (kA : Class) (comp : ClassId), s.vm.classes[qxA X kd]? = some kA ∧ kA.kind = .array comp (.object r.1) ∧ s.vm.findClass r.1 = some comp ∧ s.vm.findClass ("[" ++ (FieldType.object r.1).toString) = some (qxA X kd) := by
    have := (qarrof (kd := kd) hT (by omega) hk2).2
    rw [hty] at this
    exact this
  have hcls := (hT.1.1 ci _ r1).2
  have hcomp : comp = (qxD X).1 ci := Option.some.inj (k3.symm.trans hcls.1)
  subst hcomp
  have hasg := va_assign hcls
  obtain ⟨-, kC, hkC, -⟩ := hcls
  simp only [List.map_cons]
  rw [qcv_ref a0, qcv_ref hax.1]
  refine W.aast (j := Int32.ofInt i) hxx hb hcell (fun q h => by cases h) (fun h => by cases h) k1 k2 rfl hkC ⟨fun z => e2 (Or.inl z), by rw [arrV_size]; exact Nat.not_le.mp fun z => e2 (Or.inr z)⟩ q1 (fun q h => by rw [q3] at h; cases h) (by rw [q2]; exact hkC) (by rw [q2]; exact hasg) rfl rfl hd (fun H1 f1 f2 f3 => ?_)
  rw [e1] at f1
  have hq := qhp_ast (kd := kd) (x := x) hH hs (by omega) hk2 h0 (by rw [f1, hel, qcv_ref hax.1]) f2 f3
  rw [hel] at hq
  exact k p e R s mi ar be me c H1 _ ls hR hB0 hq (qlocs hL (Nat.le_add_right _ _)) hl
theorem qs_ireturn {x : Int} (hr0 : qmr m = some .int) (hm : cs.1 ≤ mx.1 ∧ cs.2 ≤ mx.2) (hd : decode (qmc m) pc = .ok (.ireturn, 1)) (hp : post x h) : QR X d mx m post cs pc lv [(0, x)] h := by
  intro p e R s mi ar be me c H lo ls hR hB hH hL hl
  obtain ⟨hx, hb, hml, hr, hlk, hown, hts, hnme, hT⟩ := hB
  refine W.widen hm.1 hm.2 ?_
  exact W.iret hx hb (hr.trans hr0) (fun t ht hW => ⟨x, h, by rw [hr0]; rfl, hp, hT.moved hW, by rw [ht]; exact hH⟩) (fun q hq => hL q hq) hd hlk
theorem qs_lreturn {x : Int} (hr0 : qmr m = some .long) (hm : cs.1 ≤ mx.1 ∧ cs.2 ≤ mx.2) (hd : decode (qmc m) pc = .ok (.lreturn, 1)) (hp : post x h) : QR X d mx m post cs pc lv [(1, x)] h := by
  intro p e R s mi ar be me c H lo ls hR hB hH hL hl
  obtain ⟨hx, hb, hml, hr, hlk, hown, hts, hnme, hT⟩ := hB
  refine W.widen hm.1 hm.2 ?_
  exact W.lret hx hb (hr.trans hr0) (fun t ht hW => ⟨x, h, by rw [hr0]; rfl, hp, hT.moved hW, by rw [ht]; exact hH⟩) (fun q hq => hL q hq) hd hlk
theorem qs_zreturn {x : Int} (hr0 : qmr m = some .boolean) (hz : x = 0 ∨ x = 1) (hm : cs.1 ≤ mx.1 ∧ cs.2 ≤ mx.2) (hd : decode (qmc m) pc = .ok (.ireturn, 1)) (hp : post x h) : QR X d mx m post cs pc lv [(0, x)] h := by
  intro p e R s mi ar be me c H lo ls hR hB hH hL hl
  obtain ⟨hx, hb, hml, hr, hlk, hown, hts, hnme, hT⟩ := hB
  refine W.widen hm.1 hm.2 ?_
  exact W.zret hx hb (hr.trans hr0) (by rcases hz with rfl | rfl <;> rfl) (fun t ht hW => ⟨x, h, by rw [hr0]; rfl, hp, hT.moved hW, by rw [ht]; exact hH⟩) (fun q hq => hL q hq) hd hlk
theorem qs_creturn {x : Int} (hr0 : qmr m = some .char) (hz : 0 ≤ x ∧ x ≤ 65535) (hm : cs.1 ≤ mx.1 ∧ cs.2 ≤ mx.2) (hd : decode (qmc m) pc = .ok (.ireturn, 1)) (hp : post x h) : QR X d mx m post cs pc lv [(0, x)] h := by
  intro p e R s mi ar be me c H lo ls hR hB hH hL hl
  obtain ⟨hx, hb, hml, hr, hlk, hown, hts, hnme, hT⟩ := hB
  refine W.widen hm.1 hm.2 ?_
  refine W.zret hx hb (hr.trans hr0) ?_ (fun t ht hW => ⟨x, h, by rw [hr0]; rfl, hp, hT.moved hW, by rw [ht]; exact hH⟩) (fun q hq => hL q hq) hd hlk
  have e : Int32.ofInt x = nI x.toNat := by
    show _ = Int32.ofNat x.toNat
    rw [← Int32.ofInt_eq_ofNat, show ((x.toNat : Nat) : Int) = x by omega]
  show narrow .char (.int (Int32.ofInt x)) = .int (Int32.ofInt x)
  rw [e]
  exact (pk_charN (show x.toNat < 65536 by omega)).1
theorem qs_breturn {x : Int} (hr0 : qmr m = some .byte) (hz : -128 ≤ x ∧ x ≤ 127) (hm : cs.1 ≤ mx.1 ∧ cs.2 ≤ mx.2) (hd : decode (qmc m) pc = .ok (.ireturn, 1)) (hp : post x h) : QR X d mx m post cs pc lv [(0, x)] h := by
  intro p e R s mi ar be me c H lo ls hR hB hH hL hl
  obtain ⟨hx, hb, hml, hr, hlk, hown, hts, hnme, hT⟩ := hB
  refine W.widen hm.1 hm.2 ?_
  refine W.zret hx hb (hr.trans hr0) ?_ (fun t ht hW => ⟨x, h, by rw [hr0]; rfl, hp, hT.moved hW, by rw [ht]; exact hH⟩) (fun q hq => hL q hq) hd hlk
  have e : (Int32.ofInt x).toInt8.toInt32 = Int32.ofInt x := by
    rw [← Int32.toInt_inj, Int8.toInt_toInt32, Int32.toInt_toInt8, q32 ⟨by omega, by omega⟩]
    exact Int.bmod_eq_of_le (by omega) (by omega)
  show narrow .byte (.int (Int32.ofInt x)) = .int (Int32.ofInt x)
  have := pk_nb (Int32.ofInt x)
  rw [e] at this
  exact this
theorem qs_return (hr0 : qmr m = none) (hm : cs.1 ≤ mx.1 ∧ cs.2 ≤ mx.2) (hd : decode (qmc m) pc = .ok (.return_, 1)) (hp : post 0 h) : QR X d mx m post cs pc lv [] h := by
  intro p e R s mi ar be me c H lo ls hR hB hH hL hl
  obtain ⟨hx, hb, hml, hr, hlk, hown, hts, hnme, hT⟩ := hB
  refine W.widen hm.1 hm.2 ?_
  exact W.vret hx hb (hr.trans hr0) (fun t ht hW => ⟨0, h, by rw [hr0]; rfl, hp, hT.moved hW, by rw [ht]; exact hH⟩) (fun q hq => hL q hq) hd hlk
theorem qs_tableOut {dflt lo hi : Int} {offs : Array Int} {len : Nat} {x : Int} {tgt : Nat} (hx : in32 x) (ho : x < lo ∨ hi < x) (ht : (pc : Int) + dflt = (tgt : Int)) (hd : decode (qmc m) pc = .ok (.tableswitch dflt lo hi offs, len)) (k : QR X d mx m post cs tgt lv st h) : QR X d mx m post cs pc lv ((0, x) :: st) h := by
  intro p e R s mi ar be me c H lc ls hR hB hH hL hl
  exact lv_tableOut (x := Int32.ofInt x) hB.1 hB.2.1 hd (by rw [q32 hx]; exact ho) ht (k p e R s mi ar be me c H lc ls hR hB hH hL hl)
theorem qs_tableIn {dflt lo hi : Int} {offs : Array Int} {len : Nat} {x off : Int} {tgt : Nat} (hx : in32 x) (h1 : lo ≤ x) (h2 : x ≤ hi) (ho : offs[(x - lo).toNat]? = some off) (ht : (pc : Int) + off = (tgt : Int)) (hd : decode (qmc m) pc = .ok (.tableswitch dflt lo hi offs, len)) (k : QR X d mx m post cs tgt lv st h) : QR X d mx m post cs pc lv ((0, x) :: st) h := by
  intro p e R s mi ar be me c H lc ls hR hB hH hL hl
  exact lv_tableIn (x := Int32.ofInt x) hB.1 hB.2.1 hd (by rw [q32 hx]; omega) (by rw [q32 hx]; omega) (by rw [q32 hx]; exact ho) ht (k p e R s mi ar be me c H lc ls hR hB hH hL hl)
theorem qs_lookup {dflt : Int} {ps : Array (Int × Int)} {len : Nat} {x off : Int} {tgt : Nat} (hx : in32 x) (hp : (ps.toList.zip (ps.toList.drop 1)).all (fun (a, next) => a.1 < next.1) = true) (ho : Op.lookupswitch.offset ps.toList dflt x = off) (ht : (pc : Int) + off = (tgt : Int)) (hd : decode (qmc m) pc = .ok (.lookupswitch dflt ps, len)) (k : QR X d mx m post cs tgt lv st h) : QR X d mx m post cs pc lv ((0, x) :: st) h := by
  intro p e R s mi ar be me c H lc ls hR hB hH hL hl
  exact lv_lookup (x := Int32.ofInt x) hB.1 hB.2.1 hd hp (by rw [q32 hx]; exact ho) ht (k p e R s mi ar be me c H lc ls hR hB hH hL hl)
end QArr
end
section
section QCalls
variable {X : QX} {d : Nat} {mx : Nat × Nat} {m : QMeth} {post : Int → QH → Prop} {cs : Nat × Nat} {pc : Nat} {lv : List (Nat × QV)} {st : List QV} {h : QH}
theorem qpc_blind {as : List QV} : FrameBlind (QPc X as h) := fun a U g mk q => ⟨q.1, QT.same (u := U) (U := U.calling g mk a) rfl q.2.1, q.2.2⟩
def qrl (rk : Nat) (x : Int) : List QV := match rk with
  | 0 => [] | k + 1 => [(k, x)]
theorem qret_list (rk : Nat) (x : Int) : (qret X rk x).toList = (qrl rk x).map (qcv X) := by
  cases rk <;> rfl
/-- behind a call -/
theorem qcall_go {p : Program} {e : Env} {R : Room} {s : State} {mi : MethodId} {ar : Array Value} {be : List Frame} {me : Method} {c : Code} {H : Heap} {lo : List Loc} {ls : Array Slot} {mc ms rk : Nat} {st0 : List Value} {a : Array Value} {post' : Int → QH → Prop}
    (hR : d ≤ R.frames ∧ 80 * d ≤ R.locals ∧ R.cells = mx.1 ∧ R.slots = mx.2) (hB : QB X m p s mi ar me c) (hL : ∀ q ∈ lo, (qxH X).size ≤ q.base) (hl : lv_has ls (qmL m) (lv.map fun q => (q.1, qcv X q.2)))
    (hr : va_Run p (qxl X) e R s mi ar be me c H lo cs.1 cs.2 mc ms (F0 mi pc ls st0) (st.map (qcv X)) (QQc X rk post' a) (qA X))
    (k : ∀ (x : Int) (h' : QH), post' x h' → QR X d mx m post (cs.1 + mc, cs.2 + ms) (pc + 3) lv (qrl rk x ++ st) h') :
    W p (qxl X) e R s mi ar be me c H lo cs.1 cs.2 (MQ be (QQc X (qrk (qmr m)) post) ar s mx.1 mx.2 (qA X)) (F0 mi pc ls st0) := by
  intro T hT X0
  obtain ⟨v, st₀, t, T', L, h0, X', hL', e1, e2, ⟨x, h', hv, hp, hT', hH'⟩, go⟩ := hr T hT X0
  cases hv
  obtain ⟨t2, a1, b1⟩ := k x h' hp p e R s mi ar be me c T'.heap (lo ++ L) ls hR hB (by rw [e1]; exact hH') (fun q hq => by
    rcases List.mem_append.mp hq with hq | hq
    · exact hL q hq
    · exact hL' q hq) hl T' rfl X'
  refine ⟨t2, go t2 ?_, b1⟩
  rw [List.map_append, ← qret_list] at a1
  exact a1
/-- what a call's own row of the tables says: kind (0 virtual, 1 static, 2 a constructor), callee, how many parameters, the receiver's class -/
def QLk (o i kd : Nat) (y : MethodName) (na ci : Nat) : Prop :=
  Cond.methodLink (qown o) i y ∈ qtbl ∧ Cond.initialized y.cls ∈ qtbl ∧ (y.cls ≠ "java/lang/invoke/MethodHandle" ∧ y.cls ≠ "java/lang/invoke/VarHandle" ∧ (parseMethodDescriptor y.desc).map (fun d => d.parameters.length) = some na) ∧
  (kd = 0 → Cond.instanceMethod y ∈ qtbl ∧ Cond.selects y.cls y y ∈ qtbl ∧ ∃ r : vw_C, vwCl[ci]? = some r ∧ r.1 = y.cls) ∧ (kd = 1 → Cond.static y ∈ qtbl) ∧ (kd = 2 → y.name = "<init>" ∧ Cond.instanceMethod y ∈ qtbl)
theorem qwsum (X : QX) (l : List QV) : ((l.map (qcv X)).map fun v => v.category).sum = (l.map fun v => if v.1 = 1 then 2 else 1).sum := by
  induction l with
  | nil => rfl
  | cons v l ih =>
    simp only [List.map_cons, List.sum_cons]
    rw [ih]
    congr 1
    by_cases hv : v.1 = 1
    · rw [if_pos hv]
      obtain ⟨k, x⟩ := v
      cases hv
      rfl
    · rw [if_neg hv, qcat1 X hv]
abbrev qwt (l : List QV) : Nat := (l.map fun v => if v.1 = 1 then 2 else 1).sum
theorem qcallB {R : Room} {s : State} {args : Array Value} {o i kd na ci dd mc ms maxL : Nat} {y : MethodName} {cc : ByteArray} {ret : Option FieldType} (hts : ∀ w ∈ qtbl, w.before args s = true) (hk : QLk o i kd y na ci) (hcode : Cond.code y cc maxL ret ∈ qtbl) (hmax : maxL ≤ 60) (hR : dd + 1 ≤ R.frames ∧ 80 * (dd + 1) ≤ R.locals) :
    CallB R s args (qown o) i y cc maxL ret (Cond.code y cc maxL ret :: qtbl) (qroom dd mc ms) mc ms na :=
  callB_of na hts (fun w hw => by
    rcases List.mem_cons.mp hw with rfl | hw
    · exact qtbl_good _ hcode
    · exact qtbl_good _ hw) rfl rfl rfl (hts _ hk.2.1) (hts _ hk.1) hk.2.2.1 ⟨hR.1, by show 8 + (maxL + 11) + 80 * dd ≤ R.locals; omega⟩
theorem qs_invokevirtual {i na ci mc ms rk dd : Nat} {y : MethodName} {as : List QV} {a : Int} (hk : QLk (qmo m) i 0 y na ci) (hdd : d = dd + 1) (hn : as.length = na) (hs : (h.1.2.1 a).1 = ci) (hw : qwt st ≤ 8) (hf : cs.1 + mc ≤ mx.1 ∧ cs.2 + ms ≤ mx.2) (hd : decode (qmc m) pc = .ok (.invokevirtual i, 3))
    (kk : QC X dd mc ms rk y ((2, a) :: as) h (fun x h' => QR X d mx m post (cs.1 + mc, cs.2 + ms) (pc + 3) lv (qrl rk x ++ st) h')) : QR X d mx m post cs pc lv (as.reverse ++ (2, a) :: st) h := by
  intro p e R s mi ar be me c H lo ls hR hB hH hL hl
  have hB0 := hB
  subst hdd
  obtain ⟨cc, maxL, ret, hcode, hmax, hrk, hM⟩ := kk
  obtain ⟨hx, hb, hml, hr, hlk, hown, hts, hnme, hT⟩ := hB
  obtain ⟨hi0, hi1, r, hr0, hr1⟩ := hk.2.2.2.1 rfl
  have hc100 := (qcl_of ci r.1 r.2.1 r.2.2 hr0).2.1
  have ha := hH.2.2.1 a (by omega)
  have g := (hH.2.2.2 a.toNat (by omega)).1
  rw [show ((a.toNat : Nat) : Int) = a by omega, hs] at g
  obtain ⟨r', r1, cell, q1, q2, q3, q4⟩ := g hc100
  have hcls := (hT.1.1 ci _ hr0).2.1
  rw [List.map_append, List.map_reverse, List.map_cons, qcv_ref ha.1]
  refine qcall_go hR hB0 hL hl (va_runV (C := y.cls) (As := as.map (qcv X)) (bytes := cc) (maxL := maxL) (ret := ret) (nL := qmL m) (Ts := qtbl) (own := qown (qmo m)) ⟨hx, hb, hml, hown, hts⟩ hM ⟨qcallB hts hk hcode hmax ⟨hR.1, hR.2.1⟩, hts _ hi0, hts _ hi1⟩ ⟨qpc_blind, ⟨cell, q1, by rw [q3]; rfl, ?_⟩, fun U hU hW => ⟨?_, hT.moved hW, by rw [hU]; exact hH⟩⟩ rfl (by rw [List.length_map]; exact hn) hl.1 rfl (lv_room (by rw [qwsum]; exact hw)) hd ⟨by rw [hR.2.2.1]; exact hf.1, by rw [hR.2.2.2]; exact hf.2⟩) (fun x h' hp => hp)
  · rw [q2, ← hr1]; exact hcls
  · rw [List.map_cons, qcv_ref ha.1]
/-- the receiver is one of the texts -/
theorem qs_invokestr {i na ci mc ms rk dd : Nat} {y : MethodName} {as : List QV} {a : Int} (hk : QLk (qmo m) i 5 y na ci) (hk0 : Cond.instanceMethod y ∈ qtbl ∧ Cond.selects y.cls y y ∈ qtbl ∧ y.cls = "java/lang/String") (hdd : d = dd + 1) (hn : as.length = na) (hs : -19 < a ∧ a ≤ -3) (hw : qwt st ≤ 8) (hf : cs.1 + mc ≤ mx.1 ∧ cs.2 + ms ≤ mx.2) (hd : decode (qmc m) pc = .ok (.invokevirtual i, 3))
    (kk : QC X dd mc ms rk y ((2, a) :: as) h (fun x h' => QR X d mx m post (cs.1 + mc, cs.2 + ms) (pc + 3) lv (qrl rk x ++ st) h')) : QR X d mx m post cs pc lv (as.reverse ++ (2, a) :: st) h := by
  intro p e R s mi ar be me c H lo ls hR hB hH hL hl
  have hB0 := hB
  subst hdd
  obtain ⟨cc, maxL, ret, hcode, hmax, hrk, hM⟩ := kk
  obtain ⟨hx, hb, hml, hr, hlk, hown, hts, hnme, hT⟩ := hB
  obtain ⟨hi0, hi1, hyc⟩ := hk0
  have er : qcv X (2, a) = .ref (qxo X (1 + (-3 - a).toNat)) := by
    show qrv X a = _
    rw [qrv, if_neg (by omega), if_neg (by omega), show (-2 - a).toNat = 1 + (-3 - a).toNat by omega]
  obtain ⟨cell, q1, q2, q3, q4⟩ := ((hT.2.2.2.2.2.1).1 (-3 - a).toNat (by omega)).1.kept (fun q hq _ => hH.2.1 q hq)
  rw [List.map_append, List.map_reverse, List.map_cons, er]
  refine qcall_go hR hB0 hL hl (va_runV (C := y.cls) (As := as.map (qcv X)) (bytes := cc) (maxL := maxL) (ret := ret) (nL := qmL m) (Ts := qtbl) (own := qown (qmo m)) ⟨hx, hb, hml, hown, hts⟩ hM ⟨qcallB hts hk hcode hmax ⟨hR.1, hR.2.1⟩, hts _ hi0, hts _ hi1⟩ ⟨qpc_blind, ⟨cell, q1, q2, by rw [hyc]; exact q3⟩, fun U hU hW => ⟨?_, hT.moved hW, by rw [hU]; exact hH⟩⟩ rfl (by rw [List.length_map]; exact hn) hl.1 rfl (lv_room (by rw [qwsum]; exact hw)) hd ⟨by rw [hR.2.2.1]; exact hf.1, by rw [hR.2.2.2]; exact hf.2⟩) (fun x h' hp => hp)
  rw [List.map_cons, er]
theorem qs_invokestatic {i na ci mc ms rk dd : Nat} {y : MethodName} {as : List QV} (hk : QLk (qmo m) i 1 y na ci) (hdd : d = dd + 1) (hn : as.length = na) (hw : qwt st ≤ 8) (hf : cs.1 + mc ≤ mx.1 ∧ cs.2 + ms ≤ mx.2) (hd : decode (qmc m) pc = .ok (.invokestatic i, 3))
    (kk : QC X dd mc ms rk y as h (fun x h' => QR X d mx m post (cs.1 + mc, cs.2 + ms) (pc + 3) lv (qrl rk x ++ st) h')) : QR X d mx m post cs pc lv (as.reverse ++ st) h := by
  intro p e R s mi ar be me c H lo ls hR hB hH hL hl
  have hB0 := hB
  subst hdd
  obtain ⟨cc, maxL, ret, hcode, hmax, hrk, hM⟩ := kk
  obtain ⟨hx, hb, hml, hr, hlk, hown, hts, hnme, hT⟩ := hB
  rw [List.map_append, List.map_reverse]
  exact qcall_go hR hB0 hL hl (va_runS (As := as.map (qcv X)) (bytes := cc) (maxL := maxL) (ret := ret) (nL := qmL m) (Ts := qtbl) (own := qown (qmo m)) ⟨hx, hb, hml, hown, hts⟩ hM ⟨qcallB hts hk hcode hmax ⟨hR.1, hR.2.1⟩, hts _ (hk.2.2.2.2.1 rfl)⟩ ⟨qpc_blind, fun U hU hW => ⟨rfl, hT.moved hW, by rw [hU]; exact hH⟩⟩ rfl (by rw [List.length_map]; exact hn) hl.1 rfl (lv_room (by rw [qwsum]; exact hw)) hd ⟨by rw [hR.2.2.1]; exact hf.1, by rw [hR.2.2.2]; exact hf.2⟩) (fun x h' hp => hp)
theorem qs_invokeinit {i na ci mc ms dd : Nat} {y : MethodName} {as : List QV} {a : Int} (hk : QLk (qmo m) i 2 y na ci) (hdd : d = dd + 1) (hn : as.length = na) (ha : 0 ≤ a) (hw : qwt st ≤ 8) (hf : cs.1 + mc ≤ mx.1 ∧ cs.2 + ms ≤ mx.2) (hd : decode (qmc m) pc = .ok (.invokespecial i, 3))
    (kk : QC X dd mc ms 0 y ((2, a) :: as) h (fun _ h' => QR X d mx m post (cs.1 + mc, cs.2 + ms) (pc + 3) lv st h')) : QR X d mx m post cs pc lv (as.reverse ++ (2, a) :: st) h := by
  intro p e R s mi ar be me c H lo ls hR hB hH hL hl
  have hB0 := hB
  subst hdd
  obtain ⟨cc, maxL, ret, hcode, hmax, hrk, hM⟩ := kk
  have hret : ret = none := by
    cases ret with
    | none => rfl
    | some t => simp [qrk] at hrk
  subst hret
  obtain ⟨hx, hb, hml, hr, hlk, hown, hts, hnme, hT⟩ := hB
  obtain ⟨hi0, hi1⟩ := hk.2.2.2.2.2 rfl
  rw [List.map_append, List.map_reverse, List.map_cons, qcv_ref ha]
  refine qcall_go (rk := 0) hR hB0 hL hl (va_runI (As := as.map (qcv X)) (bytes := cc) (maxL := maxL) (nL := qmL m) (Ts := qtbl) (own := qown (qmo m)) ⟨hx, hb, hml, hown, hts⟩ hM ⟨qcallB hts hk hcode hmax ⟨hR.1, hR.2.1⟩, hi0, hts _ hi1⟩ ⟨qpc_blind, fun U hU hW => ⟨?_, hT.moved hW, by rw [hU]; exact hH⟩⟩ rfl (by rw [List.length_map]; exact hn) hl.1 rfl (lv_room (by rw [qwsum]; exact hw)) hd ⟨by rw [hR.2.2.1]; exact hf.1, by rw [hR.2.2.2]; exact hf.2⟩) (fun x h' hp => hp)
  rw [List.map_cons, qcv_ref ha]
theorem qs_objinit {i : Nat} {a : Int} (hk : Cond.methodLink (qown (qmo m)) i Lib.objectInit ∈ qtbl) (hk1 : Cond.instanceMethod Lib.objectInit ∈ qtbl) (hk2 : Cond.code Lib.objectInit ⟨#[0xb1]⟩ 1 none ∈ qtbl) (hdd : 1 ≤ d) (ha : 0 ≤ a) (hw : qwt st ≤ 8) (hd : decode (qmc m) pc = .ok (.invokespecial i, 3))
    (kk : QR X d mx m post cs (pc + 3) lv st h) : QR X d mx m post cs pc lv ((2, a) :: st) h := by
  intro p e R s mi ar be me c H lo ls hR hB hH hL hl
  have kk := kk p e R s mi ar be me c H lo ls hR hB hH hL hl
  obtain ⟨hx, hb, hml, hr, hlk, hown, hts, hnme, hT⟩ := hB
  rw [List.map_cons, qcv_ref ha]
  exact W.objInit hx hb hown (hts _ hk) (hts _ hk1) (hts _ hk2) rfl (by rw [hml]; exact hl.1) rfl hd (by omega) (by
    have := lv_room (m := mi) (pc := pc) (ls := ls) (rest := Value.ref ((qxH X).size + a.toNat) :: st.map (qcv X)) (st := st.map (qcv X)) (by rw [qwsum]; exact hw)
    omega) kk
/-- a new cell behind all others -/
def qnew (h : QH) (kd : Nat) (n : Int) : QH := ((h.1.1 + 1, (fun b => if b = h.1.1 then (kd, n) else h.1.2.1 b), (fun b j => if b = h.1.1 then -1 else h.1.2.2 b j)), (fun b j => if b = h.1.1 then 0 else h.2 b j))
theorem qhp_new {H H1 : Heap} {kd : Nat} {n : Int} (hH : QHp X h H) (hkd : kd ≠ 999) (z : H1.size = H.size + 1) (oq : ∀ q : Nat, q < H.size → H1[q]? = H[q]?) (hat : 0 ≤ h.1.1 → qat X (qnew h kd n) h.1.1.toNat H1) (h0 : 0 ≤ h.1.1) : QHp X (qnew h kd n) H1 := by
  obtain ⟨g1, g2, g3, g4⟩ := hH
  refine ⟨by show (H1.size : Int) = _ + (h.1.1 + 1); omega, fun q hq => (oq q (by omega)).trans (g2 q hq), fun a ha => ?_, fun a ha => ?_⟩
  · by_cases e : a = h.1.1
    · show 0 ≤ a ∧ a < h.1.1 + 1
      omega
    · have : ((qnew h kd n).1.2.1 a) = h.1.2.1 a := by show (if a = h.1.1 then _ else _) = _; rw [if_neg e]
      rw [this] at ha
      have := g3 a ha
      show 0 ≤ a ∧ a < h.1.1 + 1
      omega
  · by_cases e : (a : Int) = h.1.1
    · have := hat h0
      rw [show h.1.1.toNat = a by omega] at this
      exact this
    · have ha' : (a : Int) < h.1.1 := by
        have : (a : Int) < h.1.1 + 1 := ha
        omega
      obtain ⟨f1, f2⟩ := g4 a ha'
      have hs : ((qnew h kd n).1.2.1 a) = h.1.2.1 a := by show (if (a : Int) = h.1.1 then _ else _) = _; rw [if_neg e]
      have hv : ∀ k (j : Int), qval (qnew h kd n) k a j = qval h k a j := by
        intro k j
        unfold qval
        split
        · show (if (a : Int) = h.1.1 then _ else _) = _; rw [if_neg e]
        · show (if (a : Int) = h.1.1 then _ else _) = _; rw [if_neg e]
      have hq : H1[(qxH X).size + a]? = H[(qxH X).size + a]? := oq _ (by omega)
      refine ⟨fun hc => ?_, fun hc => ?_⟩
      · rw [hs] at hc ⊢
        obtain ⟨r, r1, r2⟩ := f1 hc
        exact ⟨r, r1, (r2.kept hq).to (fun k _ => by rw [hv])⟩
      · rw [hs] at hc ⊢
        obtain ⟨r1, r2, r3, r4⟩ := f2 hc
        refine ⟨r1, r2, r3, ?_⟩
        rw [hq, r4]
        congr 2
        funext j
        rw [hv]
theorem qdef (X : QX) (t : FieldType) : defaultValue t = qcv X (qkd t, if qkd t = 2 then -1 else 0) ∨ t = .float ∨ t = .double := by
  cases t <;> first | exact Or.inl rfl | exact Or.inr (Or.inl rfl) | exact Or.inr (Or.inr rfl)
theorem qnew_val (h : QH) (kd : Nat) (n : Int) (k : Nat) (j : Int) : qval (qnew h kd n) k h.1.1 j = if k = 2 then -1 else 0 := by
  by_cases hk : k = 2
  · subst hk
    show (if h.1.1 = h.1.1 then (-1 : Int) else _) = _
    simp
  · rw [qval_ne _ hk, if_neg hk]
    show (if h.1.1 = h.1.1 then (0 : Int) else _) = _
    simp
theorem qnew_sh (h : QH) (kd : Nat) (n : Int) : (qnew h kd n).1.2.1 h.1.1 = (kd, n) := by
  show (if h.1.1 = h.1.1 then (kd, n) else _) = _
  simp
theorem qs_new {i ci : Nat} {C : String} {T : u_T} {N : Nat} (hc : vwCl[ci]? = some (C, T, N)) (hcl : Cond.classLink (qown (qmo m)) i C ∈ qtbl) (hins : Cond.instantiable C N ∈ qtbl) (hini : Cond.initialized C ∈ qtbl) (hnf : ∀ k, k < N → qtyf ci k ≠ .float ∧ qtyf ci k ≠ .double) (h0 : 0 ≤ h.1.1) (hf : cs.1 + 1 ≤ mx.1 ∧ cs.2 + N ≤ mx.2) (hd : decode (qmc m) pc = .ok (.new i, 3))
    (kk : QR X d mx m post (cs.1 + 1, cs.2 + N) (pc + 3) lv ((2, h.1.1) :: st) (qnew h ci N)) : QR X d mx m post cs pc lv st h := by
  intro p e R s mi ar be me c H lo ls hR hB hH hL hl
  have hB0 := hB
  obtain ⟨-, hci, hin, hty, hnm⟩ := qcl_of ci C T N hc
  obtain ⟨hx, hb, hml, hr, hlk, hown, hts, hnme, hT⟩ := hB
  have hKn := hT.1.1 ci _ hc
  refine W.newcK hx hb hown (hts _ hcl) (hts _ hins) (hts _ hini) rfl hd (by rw [hR.2.2.1]; exact hf.1) (by rw [hR.2.2.2]; exact hf.2) hKn.2.1 rfl fun H1 kC hkC e1 z1 o1 => ?_
  have hsz : H.size = (qxH X).size + h.1.1.toNat := by have := hH.1; omega
  have hH1 : QHp X (qnew h ci N) H1 := by
    refine qhp_new hH (by omega) z1 o1 (fun _ => ?_) h0
    refine ⟨fun _ => ?_, fun hz => ?_⟩
    · rw [show ((h.1.1.toNat : Nat) : Int) = h.1.1 by omega, qnew_sh, ← hsz]
      refine ⟨_, hc, (u_born (qtyf ci) hts hin hKn hkC e1 hty).to (fun j hj => ?_)⟩
      show _ = qcv X (qfk ci j, qval (qnew h ci N) (qfk ci j) h.1.1 j)
      rw [qnew_val]
      rcases qdef X (qtyf ci j) with q | q | q
      · exact q
      · exact absurd q (hnf j hj).1
      · exact absurd q (hnf j hj).2
    · rw [show ((h.1.1.toNat : Nat) : Int) = h.1.1 by omega, qnew_sh] at hz
      exact absurd hz (by show ¬ 100 ≤ ci; omega)
  have := kk p e R s mi ar be me c H1 lo ls hR hB0 hH1 hL hl
  rw [List.map_cons, qcv_ref h0, ← hsz] at this
  exact this
end QCalls
end
section
/-- what System.arraycopy leaves, of int arrays -/
def qcpy (M : QMem) (b a sp dp n : Int) : QMem := fun c j => if c = a ∧ dp ≤ j ∧ j < dp + n then M b (sp + (j - dp)) else M c j
section QMore
variable {X : QX} {d : Nat} {mx : Nat × Nat} {m : QMeth} {post : Int → QH → Prop} {cs : Nat × Nat} {pc : Nat} {lv : List (Nat × QV)} {st : List QV} {h : QH}
def qak (t : ArrayType) : Nat := match t with
  | .int => 100 | .long => 101 | .byte => 102 | .boolean => 103 | _ => 0
theorem qs_newarray {at' : ArrayType} {n : Int} (hat : 100 ≤ qak at') (harr : Cond.arrayClass (qty (qak at')) ∈ qtbl) (hn : 0 ≤ n) (hn2 : n ≤ 100000) (h0 : 0 ≤ h.1.1) (hf : cs.1 + 1 ≤ mx.1 ∧ cs.2 + n.toNat ≤ mx.2) (hd : decode (qmc m) pc = .ok (.newarray at', 2))
    (kk : QR X d mx m post (cs.1 + 1, cs.2 + n.toNat) (pc + 2) lv ((2, h.1.1) :: st) (qnew h (qak at') n)) : QR X d mx m post cs pc lv ((0, n) :: st) h := by
  intro p e R s mi ar be me c H lo ls hR hB hH hL hl
  have hB0 := hB
  obtain ⟨hx, hb, hml, hr, hlk, hown, hts, hnme, hT⟩ := hB
  have h32 : in32 n := ⟨by omega, by omega⟩
  have hkd : qak at' ≤ 106 ∧ newarray.typeOf at' = qty (qak at') ∧ qkd (qty (qak at')) = qel (qak at') ∧ componentBytes (qty (qak at')) ≤ 8 ∧ va_RA s (qxA X (qak at')) (qty (qak at')) = (s.vm.findClass ("[" ++ (qty (qak at')).toString) = some (qxA X (qak at'))) ∧ defaultValue (qty (qak at')) = qcv X (qel (qak at'), 0) ∧ qel (qak at') ≠ 2 := by
    cases at' <;> first | exact ⟨by decide, rfl, rfl, by decide, rfl, rfl, by decide⟩ | exact absurd hat (by decide)
  obtain ⟨k1, k2, k3, k4, k5, k6, k7⟩ := hkd
  have hA := qarrof (kd := qak at') hT hat k1
  rw [k5] at hA
  refine va_newaK (n := Int32.ofInt n) (N := n.toNat) hx hb (by rw [k2]; exact hts _ harr) rfl hd rfl (fun z => ?_) (q_clamp h32) (by
      rw [k2]
      have := Nat.mul_le_mul (show n.toNat ≤ 100000 by omega) k4
      omega) (by rw [hR.2.2.1]; exact hf.1) (by rw [hR.2.2.2]; exact hf.2) rfl fun H1 cA e1 z1 o1 hAr hNm => ?_
  · have := (q_lt h32 (show in32 0 from ⟨by decide, by decide⟩)).mp z
    omega
  · rw [k2] at e1 hNm
    have hcA : cA = qxA X (qak at') := Option.some.inj (hNm.symm.trans hA.2)
    subst hcA
    have hsz : H.size = (qxH X).size + h.1.1.toNat := by have := hH.1; omega
    have hH1 : QHp X (qnew h (qak at') n) H1 := by
      refine qhp_new hH (by omega) z1 o1 (fun _ => ?_) h0
      refine ⟨fun hz => ?_, fun _ => ?_⟩
      · rw [show ((h.1.1.toNat : Nat) : Int) = h.1.1 by omega, qnew_sh] at hz
        exact absurd hz (by show ¬ qak at' < 100; omega)
      · rw [show ((h.1.1.toNat : Nat) : Int) = h.1.1 by omega, qnew_sh, ← hsz]
        refine ⟨k1, hn, by show n < _; omega, ?_⟩
        rw [e1]
        show some (arrV _ n.toNat _) = some (arrV _ n.toNat _)
        congr 2
        funext j
        rw [qnew_val, if_neg k7]
        exact k6
    have := kk p e R s mi ar be me c H1 lo ls hR hB0 hH1 hL hl
    rw [List.map_cons, qcv_ref h0, ← hsz] at this
    exact this
theorem qs_anewarray {i kd : Nat} {C : String} {n : Int} (hkd : (kd = 104 ∧ C = RX6) ∨ (kd = 105 ∧ C = RX8) ∨ (kd = 106 ∧ C = RX0)) (hcl : Cond.classLink (qown (qmo m)) i C ∈ qtbl) (hn : 0 ≤ n) (hn2 : n ≤ 100000) (h0 : 0 ≤ h.1.1) (hf : cs.1 + 1 ≤ mx.1 ∧ cs.2 + n.toNat ≤ mx.2) (hd : decode (qmc m) pc = .ok (.anewarray i, 3))
    (kk : QR X d mx m post (cs.1 + 1, cs.2 + n.toNat) (pc + 3) lv ((2, h.1.1) :: st) (qnew h kd n)) : QR X d mx m post cs pc lv ((0, n) :: st) h := by
  intro p e R s mi ar be me c H lo ls hR hB hH hL hl
  have hB0 := hB
  obtain ⟨hx, hb, hml, hr, hlk, hown, hts, hnme, hT⟩ := hB
  have h32 : in32 n := ⟨by omega, by omega⟩
  have hk : 100 ≤ kd ∧ kd ≤ 106 ∧ qty kd = .object C ∧ qel kd = 2 ∧ va_AO C s := by
    rcases hkd with ⟨rfl, rfl⟩ | ⟨rfl, rfl⟩ | ⟨rfl, rfl⟩
    · exact ⟨by decide, by decide, rfl, rfl, hT.2.1.1⟩
    · exact ⟨by decide, by decide, rfl, rfl, hT.2.1.2.1⟩
    · exact ⟨by decide, by decide, rfl, rfl, hT.2.1.2.2⟩
  obtain ⟨k0, k1, k2, k3, k4⟩ := hk
  have hA := (qarrof (kd := kd) hT k0 k1).2
  rw [k2] at hA
  obtain ⟨kA', comp', -, -, -, hA⟩ := hA
  refine W.anew (n := Int32.ofInt n) hx hb hown (hts _ hcl) (va_AO.use k4) rfl hd rfl (fun z => ?_) (by rw [q_clamp h32]; omega) (by rw [hR.2.2.1]; exact hf.1) (by rw [q_clamp h32, hR.2.2.2]; exact hf.2) fun cA kA comp f1 f2 f3 f4 => ?_
  · have := (q_lt h32 (show in32 0 from ⟨by decide, by decide⟩)).mp z
    omega
  · have hcA : cA = qxA X kd := Option.some.inj (f1.symm.trans hA)
    subst hcA
    rw [q_clamp h32]
    generalize hH1e : H.push ({ cls := qxA X kd, slots := Array.replicate n.toNat .null, vm := .none } : Cell) = H1
    have z1 : H1.size = H.size + 1 := by rw [← hH1e, Array.size_push]
    have e1 : H1[H.size]? = some (arrV (qxA X kd) n.toNat (fun _ => .null)) := by rw [← hH1e, Array.getElem?_push_size, ← arrV_new]
    have o1 : ∀ q : Nat, q < H.size → H1[q]? = H[q]? := fun q hq => by rw [← hH1e, Array.getElem?_push, if_neg (Nat.ne_of_lt hq)]
    have hsz : H.size = (qxH X).size + h.1.1.toNat := by have := hH.1; omega
    have hH1 : QHp X (qnew h kd n) H1 := by
      refine qhp_new hH (by omega) z1 o1 (fun _ => ?_) h0
      refine ⟨fun hz => ?_, fun _ => ?_⟩
      · rw [show ((h.1.1.toNat : Nat) : Int) = h.1.1 by omega, qnew_sh] at hz
        exact absurd hz (by show ¬ kd < 100; omega)
      · rw [show ((h.1.1.toNat : Nat) : Int) = h.1.1 by omega, qnew_sh, ← hsz]
        refine ⟨k1, hn, by show n < _; omega, ?_⟩
        rw [e1]
        show some (arrV _ n.toNat _) = some (arrV _ n.toNat _)
        congr 2
        funext j
        rw [qnew_val]
        show _ = qcv X (qel kd, if qel kd = 2 then -1 else 0)
        rw [k3]
        rfl
    have := kk p e R s mi ar be me c H1 lo ls hR hB0 hH1 hL hl
    rw [List.map_cons, qcv_ref h0, ← hsz] at this
    exact this
theorem qs_arraycopy {i : Nat} {a b sp dp n : Int} (hlink : Cond.methodLink (qown (qmo m)) i arraycopyName ∈ qtbl) (hnat : Cond.native arraycopyName ∈ qtbl) (hstat : Cond.static arraycopyName ∈ qtbl) (hini : Cond.initialized "java/lang/System" ∈ qtbl)
    (hsa : (h.1.2.1 a).1 = 100) (hsb : (h.1.2.1 b).1 = 100) (h1 : 0 ≤ sp) (h2 : 0 ≤ dp) (h3 : 0 ≤ n) (h4 : sp + n ≤ (h.1.2.1 b).2) (h5 : dp + n ≤ (h.1.2.1 a).2) (hdd : 1 ≤ d) (hw : qwt st ≤ 8) (hd : decode (qmc m) pc = .ok (.invokestatic i, 3))
    (kk : QR X d mx m post cs (pc + 3) lv st (h.1, qcpy h.2 b a sp dp n)) : QR X d mx m post cs pc lv ((0, n) :: (0, dp) :: (2, a) :: (0, sp) :: (2, b) :: st) h := by
  intro p e R s mi ar be me c H lo ls hR hB hH hL hl
  have hB0 := hB
  obtain ⟨a0, an, la0, la1, hca⟩ := qarr hH hsa (by decide) (by decide)
  obtain ⟨b0, bn, lb0, lb1, hcb⟩ := qarr hH hsb (by decide) (by decide)
  obtain ⟨hx, hb, hml, hr, hlk, hown, hts, hnme, hT⟩ := hB
  have i1 : in32 sp := ⟨by omega, by omega⟩
  have i2 : in32 dp := ⟨by omega, by omega⟩
  have i3 : in32 n := ⟨by omega, by omega⟩
  have nz : ∀ z : Int, in32 z → 0 ≤ z → ¬ Int32.ofInt z < 0 := fun z hz h0 q => by
    have := (q_lt hz (show in32 0 from ⟨by decide, by decide⟩)).mp q
    omega
  obtain ⟨-, k0, hk0, cm0, hkk0⟩ := (qarrof (kd := 100) hT (by decide) (by decide)).1 (h.1.2.1 b).2.toNat (fun j => qcv X (qel 100, qval h (qel 100) b j))
  obtain ⟨-, k1, hk1, cm1, hkk1⟩ := (qarrof (kd := 100) hT (by decide) (by decide)).1 (h.1.2.1 a).2.toNat (fun j => qcv X (qel 100, qval h (qel 100) a j))
  have hcs : ∀ j, j < (h.1.2.1 b).2.toNat → (arrV (qxA X 100) (h.1.2.1 b).2.toNat (fun j => qcv X (qel 100, qval h (qel 100) b j))).slots[j]? = some ((fun v : Value => v) (qcv X (0, h.2 b j))) := fun j hj => arrV_read _ _ hj
  simp only [List.map_cons]
  rw [qcv_ref a0, qcv_ref b0]
  intro T hT0 X0
  obtain ⟨vm', X', step⟩ := X0.arraycopy hx hown (hts _ hlink) (hts _ hnat) (hts _ hstat) (hts _ hini) (srcPos := Int32.ofInt sp) (destPos := Int32.ofInt dp) (n := Int32.ofInt n) (by rw [hT0]; exact hcb) (by rw [hT0]; exact hca)
    (fun _ h => by cases h) (fun _ h => by cases h) (fun h => by cases h) (fun h => by cases h) hk0 hk1 hkk0 hkk1 (by simp [refKind, qty]) (nz sp i1 h1) (nz dp i2 h2) (nz n i3 h3)
    (by rw [q32 i1, q32 i3, arrV_size]; omega)
    (by rw [q32 i2, q32 i3, arrV_size]; omega)
    (fun vm₁ _ j hj => by
      rw [q_clamp i3] at hj
      rw [Array.getD_eq_getD_getElem?, q_clamp i1, hcs _ (by omega)]
      exact ⟨rfl, trivial⟩)
    (g := F0 mi pc ls (qcv X (0, n) :: qcv X (0, dp) :: .ref ((qxH X).size + a.toNat) :: qcv X (0, sp) :: .ref ((qxH X).size + b.toNat) :: st.map (qcv X))) rfl (by rw [hml]; exact hl.1) (rest := st.map (qcv X)) rfl (by rw [hb]; exact hd) (by omega) (by
      have := lv_room (m := mi) (pc := pc) (ls := ls) (rest := ([] : List Value)) (st := st.map (qcv X)) (by rw [qwsum]; exact hw)
      have e9 : nativeFrameWords "java/lang/System" "arraycopy" 5 = 7 := by decide +kernel
      rw [e9]
      have : 2 * (F0 mi pc ls (qcv X (0, n) :: qcv X (0, dp) :: Value.ref ((qxH X).size + a.toNat) :: qcv X (0, sp) :: .ref ((qxH X).size + b.toNat) :: st.map (qcv X))).monitorRoom = 0 := rfl
      omega)
  have e1 : copied (arrV (qxA X 100) (h.1.2.1 b).2.toNat (fun j => qcv X (qel 100, qval h (qel 100) b j))) (arrV (qxA X 100) (h.1.2.1 a).2.toNat (fun j => qcv X (qel 100, qval h (qel 100) a j))) (Int32.ofInt sp) (Int32.ofInt dp) (Int32.ofInt n) = arrV (qxA X 100) (h.1.2.1 a).2.toNat (fun j => va_cpy (fun j : Nat => qcv X (0, h.2 b j)) (fun j : Nat => qcv X (0, h.2 a j)) sp.toNat dp.toNat n.toNat j) := by
    rw [← q_clamp i1, ← q_clamp i2, ← q_clamp i3]
    exact va_copiedX (fun v : Value => v) _ (qxA X 100) (fun j : Nat => qcv X (0, h.2 b j)) (fun j : Nat => qcv X (0, h.2 a j)) hcs (by rw [q_clamp i1, q_clamp i3]; omega)
  rw [e1] at X' step
  have hl9 : (qxH X).size + a.toNat < H.size := (Array.getElem?_eq_some_iff.mp hca).1
  generalize hce : arrV (qxA X 100) (h.1.2.1 a).2.toNat (fun j => va_cpy (fun j : Nat => qcv X (0, h.2 b j)) (fun j : Nat => qcv X (0, h.2 a j)) sp.toNat dp.toNat n.toNat j) = cell9 at X' step
  have hheap : ((T.setVm vm').setCell ((qxH X).size + a.toNat) cell9).heap = H.setIfInBounds ((qxH X).size + a.toNat) cell9 := by rw [← hT0]; rfl
  have oq : ∀ q : Nat, q ≠ (qxH X).size + a.toNat → (H.setIfInBounds ((qxH X).size + a.toNat) cell9)[q]? = H[q]? := fun q hq => by simp [Array.getElem?_setIfInBounds, Ne.symm hq]
  have hH1 : QHp X (h.1, qcpy h.2 b a sp dp n) (H.setIfInBounds ((qxH X).size + a.toNat) cell9) := by
    refine qhp_put hH rfl rfl ⟨a0, an⟩ (fun c hc j => ⟨rfl, by simp [qcpy, hc]⟩) (by simp) oq ⟨fun hz => ?_, fun _ => ?_⟩
    · rw [show ((a.toNat : Nat) : Int) = a by omega, hsa] at hz; omega
    · rw [show ((a.toNat : Nat) : Int) = a by omega, hsa]
      refine ⟨by decide, la0, la1, ?_⟩
      rw [show (H.setIfInBounds ((qxH X).size + a.toNat) cell9)[(qxH X).size + a.toNat]? = some cell9 by simp [Array.getElem?_setIfInBounds, hl9], ← hce]
      congr 2
      funext j
      show va_cpy (fun j : Nat => qcv X (0, h.2 b j)) (fun j : Nat => qcv X (0, h.2 a j)) sp.toNat dp.toNat n.toNat j = qcv X (0, qcpy h.2 b a sp dp n a j)
      unfold va_cpy qcpy
      by_cases hj : dp.toNat ≤ j ∧ j < dp.toNat + n.toNat
      · rw [if_pos hj, if_pos ⟨rfl, by omega, by omega⟩]
        show qcv X (0, h.2 b ((sp.toNat + (j - dp.toNat) : Nat) : Int)) = _
        rw [show ((sp.toNat + (j - dp.toNat) : Nat) : Int) = sp + ((j : Int) - dp) by omega]
      · rw [if_neg hj, if_neg (by omega)]
  obtain ⟨t, a1, b1⟩ := kk p e R s mi ar be me c _ _ ls hR hB0 hH1 (fun q hq => by
      rcases List.mem_append.mp hq with hq | hq
      · exact hL q hq
      · obtain ⟨z, -, hz⟩ := List.mem_map.mp hq
        rw [← hz]
        exact Nat.le_add_right _ _) hl _ hheap X'
  exact ⟨t, step t a1, b1⟩
/-- the law's own script -/
theorem qs_sload {i : Int} (h0 : 0 ≤ i) (hn : i < qxL X) (hd : decode (qmc m) pc = .ok (.iaload, 1)) (k : QR X d mx m post cs (pc + 1) lv ((0, (qxs X i.toNat).toInt) :: st) h) : QR X d mx m post cs pc lv ((0, i) :: (2, -2) :: st) h := by
  intro p e R s mi ar be me c H lo ls hR hB hH hL hl
  have k := k p e R s mi ar be me c H lo ls hR hB hH hL hl
  obtain ⟨hx, hb, hml, hr, hlk, hown, hts, hnme, hT⟩ := hB
  obtain ⟨-, -, ⟨scr, g1, g2, g3, g4, g5⟩, ⟨hb0, hL2⟩, -⟩ := hT
  obtain ⟨e1, e2⟩ := qin_ix (n := qxL X) h0 hn (by omega)
  simp only [List.map_cons]
  have er : qcv X (2, -2) = .ref (qxo X 0) := rfl
  rw [er]
  refine W.iald (j := Int32.ofInt i) (v := .int (qxs X i.toNat)) hx hb (by rw [hH.2.1 _ hb0]; exact g1) g2 g3 (by rw [g4]; exact e2) (by rw [e1]; exact g5 _ (by omega)) rfl rfl hd ?_
  simp only [List.map_cons, qcv, Int32.ofInt_toInt] at k
  exact k
theorem qs_slen (hd : decode (qmc m) pc = .ok (.arraylength, 1)) (k : QR X d mx m post cs (pc + 1) lv ((0, (qxL X : Int)) :: st) h) : QR X d mx m post cs pc lv ((2, -2) :: st) h := by
  intro p e R s mi ar be me c H lo ls hR hB hH hL hl
  have k := k p e R s mi ar be me c H lo ls hR hB hH hL hl
  obtain ⟨hx, hb, hml, hr, hlk, hown, hts, hnme, hT⟩ := hB
  obtain ⟨-, -, ⟨scr, g1, g2, g3, g4, g5⟩, ⟨hb0, hL2⟩, -⟩ := hT
  simp only [List.map_cons]
  have er : qcv X (2, -2) = .ref (qxo X 0) := rfl
  rw [er]
  refine W.alen (n := Int32.ofInt (qxL X)) hx hb (by rw [hH.2.1 _ hb0]; exact g1) g2 ?_ rfl rfl hd k
  rw [g4, Int32.ofInt_eq_ofNat]
/-- texts -/
theorem qs_ldcS {i : Nat} {e : Nat × String × Nat} (he : (qmo m, i, e.2.1, e.2.2) ∈ qsl) (hd : decode (qmc m) pc = .ok (.ldc i, 2)) (k : QR X d mx m post cs (pc + 2) lv ((2, -3 - (e.2.2 : Int)) :: st) h) : QR X d mx m post cs pc lv st h := by
  intro p ev R s mi ar be me c H lo ls hR hB hH hL hl
  have k := k p ev R s mi ar be me c H lo ls hR hB hH hL hl
  obtain ⟨hx, hb, hml, hr, hlk, hown, hts, hnme, hT⟩ := hB
  have hz := hT.2.2.2.2.1 _ he
  have er : qcv X (2, -3 - (e.2.2 : Int)) = .ref (qxo X (1 + e.2.2)) := by
    show qrv X _ = _
    rw [qrv, if_neg (by omega), if_neg (by omega), show (-2 - (-3 - (e.2.2 : Int))).toNat = 1 + e.2.2 by omega]
  rw [List.map_cons, er] at k
  exact va_ldcS hx hb hown hz hd k
theorem qs_strval {a : Int} (ho : qmo m = 16) (hs : -19 < a ∧ a ≤ -3) (hl9 : Cond.fieldLink RJ0 9 "java/lang/String" "value" "[B" ∈ qtbl) (hd : decode (qmc m) pc = .ok (.getfield 9, 3)) (k : QR X d mx m post cs (pc + 3) lv ((2, a - 100) :: st) h) : QR X d mx m post cs pc lv ((2, a) :: st) h := by
  intro p ev R s mi ar be me c H lo ls hR hB hH hL hl
  have k := k p ev R s mi ar be me c H lo ls hR hB hH hL hl
  obtain ⟨hx, hb, hml, hr, hlk, hown, hts, hnme, hT⟩ := hB
  rw [ho] at hown
  obtain ⟨cf, kc, fi, f, cell, h1, h2, h3, h4, h5, h6⟩ := ((hT.2.2.2.2.2.1).1 (-3 - a).toNat (by omega)).2.2.1.kept (fun q hq _ => hH.2.1 q hq)
  have er : qcv X (2, a) = .ref (qxo X (1 + (-3 - a).toNat)) := by
    show qrv X a = _
    rw [qrv, if_neg (by omega), if_neg (by omega), show (-2 - a).toNat = 1 + (-3 - a).toNat by omega]
  have er2 : qcv X (2, a - 100) = .ref (qxo X (101 + (-3 - a).toNat)) := by
    show qrv X (a - 100) = _
    rw [qrv, if_neg (by omega), if_neg (by omega), show (-2 - (a - 100)).toNat = 101 + (-3 - a).toNat by omega]
  rw [List.map_cons, er2] at k
  rw [List.map_cons, er]
  exact W.getf hx hb hown (hts _ hl9) h1 h2 h3 h4 h5 rfl rfl hd k
theorem qs_strcod {a : Int} (ho : qmo m = 16) (hs : -19 < a ∧ a ≤ -3) (hl9 : Cond.fieldLink RJ0 15 "java/lang/String" "coder" "B" ∈ qtbl) (hd : decode (qmc m) pc = .ok (.getfield 15, 3)) (k : QR X d mx m post cs (pc + 3) lv ((0, 0) :: st) h) : QR X d mx m post cs pc lv ((2, a) :: st) h := by
  intro p ev R s mi ar be me c H lo ls hR hB hH hL hl
  have k := k p ev R s mi ar be me c H lo ls hR hB hH hL hl
  obtain ⟨hx, hb, hml, hr, hlk, hown, hts, hnme, hT⟩ := hB
  rw [ho] at hown
  obtain ⟨cf, kc, fi, f, cell, h1, h2, h3, h4, h5, h6⟩ := ((hT.2.2.2.2.2.1).1 (-3 - a).toNat (by omega)).2.1.kept (fun q hq _ => hH.2.1 q hq)
  have er : qcv X (2, a) = .ref (qxo X (1 + (-3 - a).toNat)) := by
    show qrv X a = _
    rw [qrv, if_neg (by omega), if_neg (by omega), show (-2 - a).toNat = 1 + (-3 - a).toNat by omega]
  rw [List.map_cons, er]
  exact W.getf hx hb hown (hts _ hl9) h1 h2 h3 h4 h5 rfl rfl hd k
theorem qs_stat1 (ho : qmo m = 16) (hl9 : Cond.fieldLink RJ0 38 "java/lang/String" "COMPACT_STRINGS" "Z" ∈ qtbl) (hd : decode (qmc m) pc = .ok (.getstatic 38, 3)) (k : QR X d mx m post cs (pc + 3) lv ((0, 1) :: st) h) : QR X d mx m post cs pc lv st h := by
  intro p ev R s mi ar be me c H lo ls hR hB hH hL hl
  have k := k p ev R s mi ar be me c H lo ls hR hB hH hL hl
  obtain ⟨hx, hb, hml, hr, hlk, hown, hts, hnme, hT⟩ := hB
  rw [ho] at hown
  obtain ⟨cf, kf, fi, f, a, cell, h1, h2, h3, h4, h5, h6, h7, h8⟩ := hT.2.2.2.2.2.2.1.kept (fun q hq _ => hH.2.1 q hq)
  exact W.gets hx hb hown (hts _ hl9) h1 h2 h3 h4 h5 (fun e => by rw [e] at h6; cases h6) h7 rfl hd k
theorem qs_stat2 (ho : qmo m = 16) (hl9 : Cond.fieldLink RJ0 1053 "jdk/internal/util/Preconditions" "SIOOBE_FORMATTER" "Ljava/util/function/BiFunction;" ∈ qtbl) (hd : decode (qmc m) pc = .ok (.getstatic 1053, 3)) (k : QR X d mx m post cs (pc + 3) lv ((2, qfm X) :: st) h) : QR X d mx m post cs pc lv st h := by
  intro p ev R s mi ar be me c H lo ls hR hB hH hL hl
  have k := k p ev R s mi ar be me c H lo ls hR hB hH hL hl
  obtain ⟨hx, hb, hml, hr, hlk, hown, hts, hnme, hT⟩ := hB
  rw [ho] at hown
  obtain ⟨cf, kf, fi, f, a, cell, h1, h2, h3, h4, h5, h6, h7, h8⟩ := hT.2.2.2.2.2.2.2.kept (fun q hq _ => hH.2.1 q hq)
  exact W.gets hx hb hown (hts _ hl9) h1 h2 h3 h4 h5 (fun e => by rw [e] at h6; cases h6) h7 rfl hd k
theorem qslt : ∀ i, i < 16 → qsn.getD i 0 < 100 := by decide
theorem qs_strlen {a : Int} (hs : -119 < a ∧ a ≤ -103) (hd : decode (qmc m) pc = .ok (.arraylength, 1)) (k : QR X d mx m post cs (pc + 1) lv ((0, (qsn.getD (-103 - a).toNat 0 : Int)) :: st) h) : QR X d mx m post cs pc lv ((2, a) :: st) h := by
  intro p ev R s mi ar be me c H lo ls hR hB hH hL hl
  have k := k p ev R s mi ar be me c H lo ls hR hB hH hL hl
  obtain ⟨hx, hb, hml, hr, hlk, hown, hts, hnme, hT⟩ := hB
  obtain ⟨cell, h1, h2, h3, h4, h5, h6, h7⟩ := ((hT.2.2.2.2.2.1).1 (-103 - a).toNat (by omega)).2.2.2.kept (fun q hq _ => hH.2.1 q hq)
  have er : qcv X (2, a) = .ref (qxo X (101 + (-103 - a).toNat)) := by
    show qrv X a = _
    rw [qrv, if_neg (by omega), if_neg (by omega), show (-2 - a).toNat = 101 + (-103 - a).toNat by omega]
  rw [List.map_cons, er]
  refine W.alen (n := Int32.ofInt (qsn.getD (-103 - a).toNat 0 : Int)) hx hb h1 h2 ?_ rfl rfl hd k
  rw [h5, Int32.ofInt_eq_ofNat]
theorem qs_strbyte {a i : Int} (hs : -119 < a ∧ a ≤ -103) (h0 : 0 ≤ i) (hn : i < (qsn.getD (-103 - a).toNat 0 : Int)) (hd : decode (qmc m) pc = .ok (.baload, 1)) (k : QR X d mx m post cs (pc + 1) lv ((0, ((qsb.getD (-103 - a).toNat []).getD i.toNat 0).toInt) :: st) h) : QR X d mx m post cs pc lv ((0, i) :: (2, a) :: st) h := by
  intro p ev R s mi ar be me c H lo ls hR hB hH hL hl
  have k := k p ev R s mi ar be me c H lo ls hR hB hH hL hl
  obtain ⟨hx, hb, hml, hr, hlk, hown, hts, hnme, hT⟩ := hB
  obtain ⟨cell, h1, h2, h3, h4, h5, h6, h7⟩ := ((hT.2.2.2.2.2.1).1 (-103 - a).toNat (by omega)).2.2.2.kept (fun q hq _ => hH.2.1 q hq)
  have hlt := qslt (-103 - a).toNat (by omega)
  obtain ⟨e1, e2⟩ := qin_ix (n := qsn.getD (-103 - a).toNat 0) h0 hn (by omega)
  have er : qcv X (2, a) = .ref (qxo X (101 + (-103 - a).toNat)) := by
    show qrv X a = _
    rw [qrv, if_neg (by omega), if_neg (by omega), show (-2 - a).toNat = 101 + (-103 - a).toNat by omega]
  simp only [List.map_cons, qcv, Int32.ofInt_toInt] at k
  simp only [List.map_cons]
  rw [er]
  refine W.bald (j := Int32.ofInt i) (v := .int ((qsb.getD (-103 - a).toNat []).getD i.toNat 0)) hx hb h1 h2 h3 (fun z => e2 (z.imp id (fun q => by omega))) (by rw [e1]; exact h6 _ (by omega)) rfl rfl hd k
end QMore
end
section
/-- an entry of a list, by its first number -/
def qfnd {α : Type} (l : List (Nat × α)) (i : Nat) : Option α := match l with
  | [] => none
  | q :: r => bif q.1 == i then some q.2 else qfnd r i
theorem qfnd_mem {α : Type} {l : List (Nat × α)} {i : Nat} {v : α} (h : qfnd l i = some v) : (i, v) ∈ l := by
  induction l with
  | nil => cases h
  | cons q r ih =>
    rw [qfnd] at h
    by_cases e : q.1 = i
    · rw [show (q.1 == i) = true by simpa using e] at h
      obtain ⟨q1, q2⟩ := q
      cases h; cases e
      exact List.mem_cons_self
    · rw [show (q.1 == i) = false by simpa using e] at h
      exact List.mem_cons_of_mem _ (ih h)
/-- fields: (pool entry, class, place, its row of the tables) -/
def qflt (o : Nat) : List (Nat × Nat × Nat × Nat) := match o with
  | 0 => [(10, 0, 1, 482), (19, 0, 2, 484)]
  | 1 => [(9, 1, 0, 180), (15, 1, 1, 184), (38, 1, 2, 187), (41, 1, 3, 192), (44, 1, 4, 195), (47, 1, 5, 198), (50, 1, 6, 201), (18, 1, 7, 204), (22, 1, 8, 208), (25, 1, 9, 212), (31, 1, 10, 216), (35, 1, 11, 217)]
  | 2 => [(9, 2, 0, 168), (15, 2, 1, 169), (18, 2, 2, 170)]
  | 3 => [(11, 3, 0, 357), (22, 3, 1, 358), (18, 3, 2, 359)]
  | 4 => [(31, 1, 2, 188), (36, 6, 0, 297), (51, 6, 4, 305), (48, 6, 5, 308), (9, 4, 0, 440), (15, 4, 1, 442), (18, 4, 2, 443), (27, 4, 3, 444)]
  | 5 => [(82, 1, 0, 182), (85, 1, 1, 185), (125, 1, 2, 190), (122, 1, 3, 193), (64, 1, 4, 196), (106, 1, 5, 200), (109, 1, 6, 203), (115, 1, 7, 206), (128, 1, 8, 211), (131, 1, 9, 214), (29, 1, 10, 215), (144, 1, 11, 218), (36, 5, 0, 263), (9, 5, 1, 265), (18, 5, 2, 267), (25, 5, 3, 269), (39, 5, 4, 270), (33, 5, 5, 271), (137, 5, 6, 272)]
  | 6 => [(75, 1, 2, 189), (60, 1, 5, 199), (64, 1, 6, 202), (90, 1, 7, 207), (72, 1, 8, 209), (45, 1, 9, 213), (9, 6, 0, 296), (15, 6, 1, 300), (18, 6, 2, 302), (21, 6, 3, 303), (24, 6, 4, 304), (27, 6, 5, 307), (56, 6, 6, 310), (30, 6, 7, 312), (33, 6, 8, 314), (36, 6, 9, 316), (63, 6, 10, 318), (67, 6, 11, 321), (166, 8, 2, 464)]
  | 7 => [(9, 7, 0, 250), (15, 7, 1, 251), (18, 7, 2, 252), (21, 7, 3, 253)]
  | 8 => [(9, 8, 0, 460), (25, 8, 1, 461), (15, 8, 2, 462)]
  | 9 => [(52, 1, 0, 181), (68, 6, 0, 298), (101, 6, 10, 319), (9, 9, 0, 378), (15, 9, 1, 380), (18, 9, 2, 382), (22, 9, 3, 384), (25, 9, 4, 385), (28, 9, 5, 386), (31, 9, 6, 387), (34, 9, 7, 388), (37, 9, 8, 389), (50, 9, 9, 390), (40, 9, 10, 391), (65, 9, 11, 392), (71, 9, 12, 393), (74, 9, 13, 394), (78, 9, 14, 395), (81, 9, 15, 396), (84, 9, 16, 397)]
  | 10 => [(370, 1, 0, 183), (373, 1, 1, 186), (253, 1, 2, 191), (376, 1, 3, 194), (100, 1, 4, 197), (110, 1, 7, 205), (130, 1, 8, 210), (88, 5, 0, 264), (103, 5, 1, 266), (91, 5, 2, 268), (136, 6, 0, 299), (133, 6, 1, 301), (118, 6, 4, 306), (121, 6, 5, 309), (207, 6, 6, 311), (153, 6, 7, 313), (156, 6, 8, 315), (167, 6, 9, 317), (170, 6, 10, 320), (247, 6, 11, 322), (214, 3, 2, 360), (271, 9, 0, 379), (356, 9, 1, 381), (285, 9, 2, 383), (299, 4, 0, 441), (305, 4, 3, 445), (234, 8, 2, 463), (366, 0, 0, 481), (362, 0, 1, 483), (363, 0, 2, 485), (9, 10, 0, 503), (76, 10, 1, 504), (16, 10, 2, 505), (23, 10, 3, 506), (30, 10, 4, 507), (34, 10, 5, 508), (40, 10, 6, 509), (46, 10, 7, 510), (52, 10, 8, 511), (59, 10, 9, 512), (66, 10, 10, 513)]
  | 11 => [(1, 11, 0, 1393), (13, 11, 1, 1394), (17, 11, 2, 1395), (21, 11, 3, 1396), (24, 11, 4, 1397), (71, 11, 5, 1398), (89, 11, 6, 1399), (92, 11, 7, 1400), (74, 11, 8, 1401), (99, 11, 9, 1402), (112, 11, 10, 1403), (117, 11, 11, 1404), (120, 11, 12, 1405), (195, 11, 13, 1406), (27, 11, 14, 1407), (137, 11, 15, 1408), (30, 11, 16, 1409), (33, 11, 17, 1410), (36, 11, 18, 1411), (324, 11, 19, 1412), (345, 11, 20, 1413), (39, 11, 21, 1414), (42, 11, 22, 1415), (45, 11, 23, 1416), (48, 11, 24, 1417), (51, 11, 25, 1418), (370, 11, 26, 1419), (54, 11, 27, 1420), (58, 11, 28, 1421), (61, 11, 29, 1422), (64, 11, 30, 1423)]
  | _ => []
/-- methods: (pool entry, kind, callee, parameters, receiver, cells, slots, answer, rows of the tables) -/
abbrev QME : Type := Nat × MethodName × Nat × Nat × Nat × Nat × Nat × List Nat
def qmlt (o : Nat) : List (Nat × QME) := match o with
  | 0 => [(1, 3, Lib.objectInit, 0, 0, 0, 0, 0, [476]), (9, 2, yX1_init, 0, 0, 9, 1918, 0, [478, 123, 159]), (18, 2, yX6_init, 0, 0, 9, 300, 0, [480, 126, 293])]
  | 1 => [(3, 3, Lib.objectInit, 0, 0, 0, 0, 0, [161]), (30, 2, yX2_init, 0, 0, 2, 932, 0, [164, 124, 165]), (53, 1, yJ7_fill_53178, 2, 0, 0, 0, 0, [557, 132, 498]), (59, 0, yX2_clear, 0, 2, 0, 0, 0, [558, 124, 559, 560]), (78, 0, yX1_cells, 0, 1, 0, 0, 1, [760, 123, 761, 762]), (72, 1, yJ9_min_7cf53, 2, 0, 0, 0, 1, [764, 139, 672]), (62, 4, arraycopyName, 5, 0, 0, 0, 0, [826]), (68, 0, yX2_copyOf, 1, 2, 0, 0, 0, [827, 124, 828, 829]), (89, 0, yX2_isTold, 0, 2, 0, 0, 1, [900, 124, 901, 902]), (86, 0, yX1_column, 1, 1, 0, 0, 1, [904, 123, 905, 906]), (82, 0, yX1_row, 1, 1, 0, 0, 1, [908, 123, 909, 910]), (93, 0, yX2_value, 5, 2, 0, 0, 1, [912, 124, 913, 914]), (97, 1, yJ9_max_7cf53, 2, 0, 0, 0, 1, [924, 139, 669])]
  | 2 => [(3, 3, Lib.objectInit, 0, 0, 0, 0, 0, [167]), (22, 4, arraycopyName, 5, 0, 0, 0, 0, [831]), (32, 1, yJ9_min_f86c9, 2, 0, 0, 0, 2, [918, 139, 919]), (38, 1, yJ9_max_f86c9, 2, 0, 0, 0, 2, [921, 139, 922])]
  | 3 => [(3, 3, Lib.objectInit, 0, 0, 0, 0, 0, [353]), (17, 2, yX6_init, 0, 0, 9, 300, 0, [356, 126, 293]), (25, 0, yX6_copyOf, 1, 6, 0, 0, 0, [958, 126, 959, 960]), (29, 1, yJ9_min_7cf53, 2, 0, 0, 0, 1, [962, 139, 672]), (35, 1, yJ9_floorMod_7cf53, 2, 0, 0, 0, 1, [1044, 139, 1045])]
  | 4 => [(3, 3, Lib.objectInit, 0, 0, 0, 0, 0, [439]), (21, 1, yJ7_fill_53178, 2, 0, 0, 0, 0, [1226, 132, 498]), (41, 0, yX1_cells, 0, 1, 0, 0, 1, [1227, 123, 761, 762]), (45, 0, yX6_lying, 1, 6, 0, 0, 1, [1228, 126, 846, 847]), (54, 0, yX4_timesUnder, 2, 4, 0, 0, 1, [1257, 129, 1259, 37]), (58, 1, yJ9_min_7cf53, 2, 0, 0, 0, 1, [1261, 139, 672])]
  | 5 => [(3, 3, Lib.objectInit, 0, 0, 0, 0, 0, [155]), (17, 2, yX1_init, 0, 0, 9, 1918, 0, [158, 123, 159]), (24, 2, yX7_init, 0, 0, 3, 2703, 0, [246, 125, 247]), (42, 0, yX1_clear, 0, 1, 0, 0, 0, [553, 123, 554, 555]), (45, 0, yX7_cut, 2, 7, 0, 0, 0, [562, 125, 563, 564]), (49, 0, yX5_readLand, 0, 5, 0, 0, 1, [712, 122, 714, 4]), (60, 0, yX5_skip, 1, 5, 0, 0, 1, [716, 122, 718, 5]), (53, 0, yX5_kind, 0, 5, 0, 0, 1, [720, 122, 722, 6]), (67, 0, yX7_kind, 1, 7, 0, 0, 1, [724, 125, 725, 726]), (72, 0, yX5_fail, 1, 5, 0, 0, 1, [728, 122, 730, 7]), (70, 0, yX7_place, 1, 7, 0, 0, 1, [732, 125, 733, 734]), (78, 0, yX5_readNumber, 2, 5, 0, 0, 1, [736, 122, 738, 8]), (75, 0, yX7_value, 1, 7, 0, 0, 1, [740, 125, 741, 742]), (57, 0, yX5_readLine, 0, 5, 0, 0, 1, [744, 122, 746, 9]), (88, 0, yX5_readRock, 0, 5, 0, 0, 1, [748, 122, 750, 10]), (119, 0, yX5_readEmptyCell, 0, 5, 0, 0, 1, [752, 122, 754, 11]), (112, 0, yX1_hasCell, 1, 1, 0, 0, 1, [756, 123, 757, 758]), (91, 0, yX5_readDrum, 0, 5, 0, 0, 1, [765, 122, 767, 12]), (94, 0, yX5_readTakes, 0, 5, 0, 0, 1, [769, 122, 771, 13]), (134, 0, yX2_clear, 0, 2, 0, 0, 0, [773, 124, 559, 560]), (141, 0, yX5_readSum, 1, 5, 0, 0, 1, [774, 122, 776, 14]), (163, 0, yX5_readTerm, 1, 5, 0, 0, 1, [778, 122, 780, 15]), (166, 0, yX5_readAtom, 1, 5, 0, 0, 1, [782, 122, 784, 16]), (169, 0, yX5_partOf, 1, 5, 0, 0, 1, [786, 122, 788, 17]), (153, 0, yX2_add, 1, 2, 0, 0, 0, [790, 124, 791, 792]), (97, 0, yX5_readMay, 0, 5, 0, 0, 1, [794, 122, 796, 18]), (147, 0, yX5_readTruth, 1, 5, 0, 0, 1, [798, 122, 800, 19]), (150, 0, yX5_readBoth, 1, 5, 0, 0, 1, [802, 122, 804, 20]), (157, 0, yX5_readUnit, 1, 5, 0, 0, 1, [806, 122, 808, 21]), (160, 0, yX5_readComparison, 1, 5, 0, 0, 1, [810, 122, 812, 22]), (100, 0, yX5_readWet, 0, 5, 0, 0, 1, [814, 122, 816, 23]), (103, 0, yX5_readHour, 0, 5, 0, 0, 1, [818, 122, 820, 24])]
  | 6 => [(3, 3, Lib.objectInit, 0, 0, 0, 0, 0, [295]), (39, 1, yJ7_fill_53178, 2, 0, 0, 0, 0, [497, 132, 498]), (50, 4, arraycopyName, 5, 0, 0, 0, 0, [500]), (68, 0, yX6_cellOf, 2, 6, 0, 0, 1, [853, 126, 854, 855]), (136, 0, yX6_hasTraveller, 1, 6, 0, 0, 1, [891, 126, 883, 884]), (93, 0, yX1_hasDrum, 1, 1, 0, 0, 1, [933, 123, 862, 863]), (96, 0, yX6_endOf, 2, 6, 0, 0, 1, [934, 126, 866, 867]), (100, 0, yX1_beside, 2, 1, 0, 0, 1, [935, 123, 936, 937]), (103, 0, yX6_isOpen, 3, 6, 0, 0, 1, [939, 126, 940, 941]), (86, 0, yX1_hasCell, 1, 1, 0, 0, 1, [943, 123, 757, 758]), (82, 0, yX6_lying, 1, 6, 0, 0, 1, [944, 126, 846, 847]), (107, 0, yX1_mayLie, 4, 1, 0, 0, 1, [945, 123, 946, 947]), (111, 0, yX1_yardsFor, 3, 1, 0, 0, 1, [949, 123, 897, 898]), (115, 0, yX6_whyNotLaid, 3, 6, 0, 0, 1, [967, 126, 930, 931]), (119, 0, yX6_isUnder, 2, 6, 0, 0, 1, [976, 126, 978, 25]), (123, 0, yX6_whyNotBack, 2, 6, 0, 0, 1, [984, 126, 973, 974]), (126, 0, yX6_liftLast, 2, 6, 0, 0, 0, [985, 126, 987, 26]), (130, 0, yX6_whyNotIn, 2, 6, 0, 0, 1, [1001, 126, 994, 995]), (133, 0, yX6_whyNotOut, 2, 6, 0, 0, 1, [1014, 126, 1007, 1008]), (139, 0, yX6_goOn, 1, 6, 0, 0, 0, [1031, 126, 1033, 27]), (143, 0, yX6_travellerOn, 1, 6, 0, 0, 1, [1035, 126, 850, 851]), (171, 0, yX8_number, 1, 8, 0, 0, 2, [1064, 130, 1065, 1066]), (175, 0, yX6_follow, 2, 6, 0, 0, 1, [1068, 126, 1069, 1070]), (148, 0, yX6_passHour, 0, 6, 0, 0, 1, [1073, 126, 1028, 1029]), (153, 0, yX6_tryOut, 2, 6, 0, 0, 1, [1075, 126, 1011, 1012]), (156, 0, yX6_tryIn, 2, 6, 0, 0, 1, [1076, 126, 998, 999]), (159, 0, yX6_tryBack, 2, 6, 0, 0, 1, [1077, 126, 981, 982]), (162, 0, yX6_tryLaying, 4, 6, 0, 0, 1, [1078, 126, 964, 965]), (179, 1, yJ9_max_7cf53, 2, 0, 0, 0, 1, [1101, 139, 669]), (184, 1, yX6_drawn, 1, 0, 0, 0, 1, [1102, 126, 1103]), (78, 0, yX1_cells, 0, 1, 0, 0, 1, [1379, 123, 761, 762])]
  | 7 => [(3, 3, Lib.objectInit, 0, 0, 0, 0, 0, [249]), (25, 1, yX7_isDigit, 1, 0, 0, 0, 1, [566, 125, 567]), (29, 0, yX7_cutNumber, 3, 7, 0, 0, 1, [569, 125, 571, 1]), (47, 0, yX7_add, 3, 7, 0, 0, 0, [573, 125, 575, 2]), (33, 1, yX7_isLetter, 1, 0, 0, 0, 1, [577, 125, 578]), (36, 0, yX7_cutWord, 3, 7, 0, 0, 1, [580, 125, 582, 3]), (51, 1, yX7_wordOf, 3, 0, 0, 0, 1, [584, 125, 585]), (56, 1, yX7_spells, 4, 0, 0, 0, 1, [588, 125, 589]), (86, 5, yJ0_length_8abf5, 0, 0, 0, 0, 1, [591, 135, 592, 593]), (90, 5, yJ0_charAt_5068e, 1, 0, 0, 0, 1, [601, 135, 602, 603]), (41, 5, yJ0_indexOf_0f7a4, 1, 0, 0, 0, 1, [653, 135, 654, 655])]
  | 8 => [(3, 3, Lib.objectInit, 0, 0, 0, 0, 0, [459]), (19, 1, yJ7_fill_d0a16, 2, 0, 0, 0, 0, [1345, 132, 1140])]
  | 9 => [(3, 3, Lib.objectInit, 0, 0, 0, 0, 0, [377]), (108, 0, yX9_begin, 3, 9, 0, 0, 0, [1115, 128, 1116, 1117]), (44, 0, yX1_cells, 0, 1, 0, 0, 1, [1119, 123, 761, 762]), (53, 1, yJ9_max_7cf53, 2, 0, 0, 0, 1, [1120, 139, 669]), (59, 0, yX6_endOf, 2, 6, 0, 0, 1, [1121, 126, 866, 867]), (87, 0, yX1_beside, 2, 1, 0, 0, 1, [1122, 123, 936, 937]), (90, 0, yX9_leadOf, 2, 9, 0, 0, 1, [1123, 128, 1125, 30]), (93, 0, yX6_lying, 1, 6, 0, 0, 1, [1127, 126, 846, 847]), (97, 0, yX6_isOpen, 3, 6, 0, 0, 1, [1128, 126, 940, 941]), (104, 0, yX1_mayLie, 4, 1, 0, 0, 1, [1129, 123, 946, 947]), (112, 1, yX9_isIn, 2, 0, 0, 0, 1, [1130, 128, 1131]), (116, 0, yX1_yardsFor, 3, 1, 0, 0, 1, [1133, 123, 897, 898]), (120, 0, yX9_find, 0, 9, 0, 0, 0, [1134, 128, 1136, 31]), (123, 1, yJ7_fill_53178, 2, 0, 0, 0, 0, [1138, 132, 498]), (129, 1, yJ7_fill_d0a16, 2, 0, 0, 0, 0, [1139, 132, 1140]), (132, 0, yX9_findNext, 2, 9, 0, 0, 2, [1142, 128, 1144, 32]), (136, 0, yX9_betters, 4, 9, 0, 0, 1, [1146, 128, 1148, 33]), (140, 1, yX9_withTurn, 2, 0, 0, 0, 2, [1150, 128, 1151]), (154, 0, yX9_manyFrom, 4, 9, 0, 0, 1, [1181, 128, 1183, 34]), (158, 0, yX9_apart, 2, 9, 0, 0, 1, [1185, 128, 1187, 35]), (161, 1, yJ9_abs_0f7a4, 1, 0, 0, 0, 1, [1189, 139, 1190]), (150, 0, yX9_besideAll, 1, 9, 0, 0, 2, [1210, 128, 1212, 36])]
  | 10 => [(1, 3, Lib.objectInit, 0, 0, 0, 0, 0, [147]), (15, 2, yX5_init, 0, 0, 14, 4637, 0, [152, 122, 153]), (22, 2, yX1_init, 0, 0, 9, 1918, 0, [289, 123, 159]), (29, 2, yX6_init, 0, 0, 9, 300, 0, [292, 126, 293]), (39, 2, yX3_init, 0, 0, 101, 3130, 0, [350, 127, 351]), (58, 2, yX9_init, 0, 0, 9, 432, 0, [374, 128, 375]), (65, 2, yX4_init, 0, 0, 3, 106, 0, [436, 129, 437]), (70, 2, yX8_init, 0, 0, 1, 40, 0, [456, 130, 457]), (71, 2, yX0_init, 0, 0, 20, 2242, 0, [473, 131, 474]), (72, 0, yX6_begin, 1, 6, 0, 0, 0, [493, 126, 494, 495]), (80, 0, yX10_putOnTape, 1, 10, 0, 0, 0, [541, 121, 543, 0]), (84, 0, yX5_read, 2, 5, 0, 0, 1, [549, 122, 550, 551]), (94, 0, yX1_copyOf, 1, 1, 0, 0, 0, [822, 123, 823, 824]), (97, 0, yX3_forget, 0, 3, 0, 0, 0, [832, 127, 833, 834]), (106, 0, yX1_hasCell, 1, 1, 0, 0, 1, [844, 123, 757, 758]), (114, 0, yX6_lying, 1, 6, 0, 0, 1, [845, 126, 846, 847]), (124, 0, yX6_travellerOn, 1, 6, 0, 0, 1, [849, 126, 850, 851]), (127, 0, yX1_hasDrum, 1, 1, 0, 0, 1, [861, 123, 862, 863]), (139, 0, yX6_endOf, 2, 6, 0, 0, 1, [865, 126, 866, 867]), (143, 0, yX6_yardsLying, 1, 6, 0, 0, 1, [869, 126, 870, 871]), (146, 0, yX6_cellOf, 2, 6, 0, 0, 1, [877, 126, 854, 855]), (150, 0, yX6_hasTraveller, 1, 6, 0, 0, 1, [882, 126, 883, 884]), (159, 1, yJ9_max_7cf53, 2, 0, 0, 0, 1, [886, 139, 669]), (164, 0, yX6_hasArrived, 1, 6, 0, 0, 1, [887, 126, 888, 889]), (173, 0, yX1_yardsFor, 3, 1, 0, 0, 1, [896, 123, 897, 898]), (177, 0, yX6_whyNotLaid, 3, 6, 0, 0, 1, [929, 126, 930, 931]), (181, 0, yX3_keep, 1, 3, 0, 0, 0, [954, 127, 955, 956]), (185, 0, yX6_tryLaying, 4, 6, 0, 0, 1, [963, 126, 964, 965]), (189, 0, yX6_whyNotBack, 2, 6, 0, 0, 1, [972, 126, 973, 974]), (192, 0, yX6_tryBack, 2, 6, 0, 0, 1, [980, 126, 981, 982]), (195, 0, yX6_whyNotIn, 2, 6, 0, 0, 1, [993, 126, 994, 995]), (198, 0, yX6_tryIn, 2, 6, 0, 0, 1, [997, 126, 998, 999]), (201, 0, yX6_whyNotOut, 2, 6, 0, 0, 1, [1006, 126, 1007, 1008]), (204, 0, yX6_tryOut, 2, 6, 0, 0, 1, [1010, 126, 1011, 1012]), (210, 0, yX6_passHour, 0, 6, 0, 0, 1, [1027, 126, 1028, 1029]), (217, 0, yX3_bringBack, 2, 3, 0, 0, 0, [1040, 127, 1041, 1042]), (221, 0, yX10_isTray, 1, 10, 0, 0, 1, [1051, 121, 1053, 28]), (224, 0, yX8_isMissing, 0, 8, 0, 0, 1, [1055, 130, 1056, 1057]), (228, 0, yX6_copyOf, 1, 6, 0, 0, 0, [1059, 126, 959, 960]), (230, 0, yX6_followAll, 2, 6, 0, 0, 1, [1060, 126, 1061, 1062]), (235, 0, yX8_number, 1, 8, 0, 0, 2, [1079, 130, 1065, 1066]), (239, 0, yX6_follow, 2, 6, 0, 0, 1, [1080, 126, 1069, 1070]), (243, 0, yX6_allYards, 1, 6, 0, 0, 1, [1081, 126, 1082, 1083]), (250, 0, yX10_takeOverTrial, 1, 10, 0, 0, 0, [1089, 121, 1091, 29]), (256, 0, yX6_followSeason, 3, 6, 0, 0, 1, [1097, 126, 1098, 1099]), (261, 0, yX9_findShort, 3, 9, 0, 0, 0, [1111, 128, 1112, 1113]), (265, 0, yX1_cells, 0, 1, 0, 0, 1, [1154, 123, 761, 762]), (268, 0, yX9_comesTo, 1, 9, 0, 0, 1, [1155, 128, 1156, 1157]), (274, 0, yX9_turnOf, 2, 9, 0, 0, 1, [1167, 128, 1168, 1169]), (277, 0, yX9_begin, 3, 9, 0, 0, 0, [1176, 128, 1116, 1117]), (279, 0, yX9_howMany, 2, 9, 0, 0, 1, [1177, 128, 1178, 1179]), (282, 0, yX9_findLeastCrossed, 3, 9, 0, 0, 0, [1197, 128, 1198, 1199]), (291, 0, yX9_reachesWithout, 2, 9, 0, 0, 1, [1206, 128, 1207, 1208]), (295, 0, yX4_lookAt, 2, 4, 0, 0, 0, [1222, 129, 1223, 1224]), (302, 0, yX4_allOver, 1, 4, 0, 0, 1, [1233, 129, 1234, 1235]), (307, 0, yX4_firstFree, 1, 4, 0, 0, 1, [1241, 129, 1242, 1243]), (310, 0, yX4_fewestTurned, 0, 4, 0, 0, 1, [1253, 129, 1254, 1255]), (313, 0, yX4_howManyOrders, 0, 4, 0, 0, 1, [1266, 129, 1267, 1268]), (316, 0, yX10_hoursTillIn, 1, 10, 0, 0, 1, [1274, 121, 1276, 38]), (319, 0, yX6_onTheWay, 0, 6, 0, 0, 1, [1286, 126, 1287, 1288]), (322, 0, yX6_onCells, 0, 6, 0, 0, 1, [1298, 126, 1299, 1300]), (325, 0, yX10_whyNotFaded, 2, 10, 0, 0, 1, [1310, 121, 1312, 39]), (328, 0, yX10_fadedCells, 2, 10, 0, 0, 2, [1314, 121, 1316, 40]), (338, 0, yX9_endsBy, 1, 9, 0, 0, 2, [1318, 128, 1319, 1320]), (332, 1, yJ13_bitCount_95d88, 1, 0, 0, 0, 1, [1326, 141, 1327]), (342, 1, yJ9_min_7cf53, 2, 0, 0, 0, 1, [1336, 139, 672]), (345, 0, yX8_begin, 2, 8, 0, 0, 0, [1341, 130, 1342, 1343]), (352, 0, yX8_put, 2, 8, 0, 0, 2, [1352, 130, 1353, 1354]), (359, 1, yX6_deedOver, 2, 0, 0, 0, 1, [1360, 126, 1361]), (379, 0, yX6_crossed, 1, 6, 0, 0, 1, [1375, 126, 1376, 1377]), (382, 0, yX6_ribbonsLying, 1, 6, 0, 0, 1, [1380, 126, 1381, 1382])]
  | 11 => [(7, 3, Lib.objectInit, 0, 0, 0, 0, 0, [1389]), (67, 1, yX11_plain, 1, 0, 0, 0, 0, [1390, 134, 1391]), (133, 1, yX11_within, 3, 0, 0, 0, 1, [1496, 134, 1497]), (126, 0, yX11_next, 0, 11, 0, 0, 0, [1499, 134, 1501, 41]), (95, 0, yX11_see, 1, 11, 0, 0, 1, [1503, 134, 1505, 42]), (102, 1, yX11_isSmall, 1, 0, 0, 0, 1, [1507, 134, 1508]), (106, 0, yX11_keyAt, 0, 11, 0, 0, 1, [1510, 134, 1512, 43]), (79, 5, yJ0_length_8abf5, 0, 0, 0, 0, 1, [1515, 135, 592, 593]), (85, 5, yJ0_charAt_5068e, 1, 0, 0, 0, 1, [1516, 135, 602, 603]), (109, 1, yX11_isDigit, 1, 0, 0, 0, 1, [1517, 134, 1518]), (152, 0, yX11_eats, 1, 11, 0, 0, 1, [1521, 134, 1523, 44]), (123, 0, yX11_is, 1, 11, 0, 0, 1, [1525, 134, 1527, 45]), (129, 0, yX11_fails, 1, 11, 0, 0, 0, [1529, 134, 1531, 46]), (170, 0, yX11_takesN, 2, 11, 0, 0, 1, [1533, 134, 1535, 47]), (189, 0, yX11_ends, 0, 11, 0, 0, 0, [1537, 134, 1539, 48]), (192, 0, yX11_readLine, 0, 11, 0, 0, 0, [1541, 134, 1543, 49]), (180, 0, yX11_readRock, 0, 11, 0, 0, 0, [1545, 134, 1547, 50]), (177, 0, yX11_readCell, 0, 11, 0, 0, 1, [1549, 134, 1551, 51]), (174, 0, yX11_isDrumIn, 1, 11, 0, 0, 1, [1553, 134, 1555, 52]), (183, 0, yX11_readDrum, 0, 11, 0, 0, 0, [1557, 134, 1559, 53]), (186, 0, yX11_readLaw, 1, 11, 0, 0, 0, [1561, 134, 1563, 54]), (149, 0, yX11_readSum, 1, 11, 0, 0, 0, [1565, 134, 1567, 55]), (158, 0, yX11_readTerm, 1, 11, 0, 0, 0, [1569, 134, 1571, 56]), (155, 0, yX11_readAtom, 1, 11, 0, 0, 0, [1573, 134, 1575, 57]), (140, 0, yX11_codes, 1, 11, 0, 0, 0, [1577, 134, 1579, 58]), (143, 0, yX11_wordOf, 1, 11, 0, 0, 1, [1581, 134, 1583, 59]), (146, 0, yX11_goesIn, 1, 11, 0, 0, 1, [1585, 134, 1587, 60]), (164, 0, yX11_readTruth, 1, 11, 0, 0, 0, [1589, 134, 1591, 61]), (167, 0, yX11_readBoth, 1, 11, 0, 0, 0, [1593, 134, 1595, 62]), (161, 0, yX11_readUnit, 1, 11, 0, 0, 0, [1597, 134, 1599, 63]), (221, 0, yX11_isCell, 1, 11, 0, 0, 1, [1609, 134, 1611, 64]), (198, 0, yX11_cells, 0, 11, 0, 0, 1, [1613, 134, 1615, 65]), (215, 0, yX11_isHome, 1, 11, 0, 0, 1, [1617, 134, 1619, 66]), (205, 0, yX11_lieOn, 1, 11, 0, 0, 1, [1621, 134, 1623, 67]), (225, 0, yX11_goerOn, 1, 11, 0, 0, 1, [1625, 134, 1627, 68]), (218, 0, yX11_cellOf, 1, 11, 0, 0, 1, [1629, 134, 1631, 69]), (228, 0, yX11_isDrum, 1, 11, 0, 0, 1, [1637, 134, 1639, 70]), (231, 0, yX11_endOf, 1, 11, 0, 0, 1, [1641, 134, 1643, 71]), (234, 0, yX11_tookBy, 1, 11, 0, 0, 1, [1645, 134, 1647, 72]), (237, 0, yX11_isGoer, 1, 11, 0, 0, 1, [1657, 134, 1659, 73]), (240, 0, yX11_costOf, 2, 11, 0, 0, 1, [1665, 134, 1667, 74]), (212, 0, yX11_reckons, 3, 11, 0, 0, 1, [1669, 134, 1671, 75]), (208, 1, yX11_between, 3, 0, 0, 0, 1, [1673, 134, 1674]), (258, 0, yX11_whyLay, 2, 11, 0, 0, 1, [1682, 134, 1684, 76]), (245, 0, yX11_beside, 2, 11, 0, 0, 1, [1687, 134, 1689, 77]), (248, 0, yX11_isOpen, 2, 11, 0, 0, 1, [1691, 134, 1693, 78]), (252, 0, yX11_lets, 2, 11, 0, 0, 1, [1695, 134, 1697, 79]), (262, 0, yX11_keeps, 0, 11, 0, 0, 0, [1703, 134, 1705, 80]), (265, 0, yX11_lays, 3, 11, 0, 0, 0, [1707, 134, 1709, 81]), (269, 0, yX11_notes, 0, 11, 0, 0, 0, [1711, 134, 1713, 82]), (272, 0, yX11_whyBack, 1, 11, 0, 0, 1, [1719, 134, 1721, 83]), (255, 0, yX11_takesOff, 1, 11, 0, 0, 0, [1723, 134, 1725, 84]), (276, 0, yX11_whyIn, 1, 11, 0, 0, 1, [1731, 134, 1733, 85]), (279, 0, yX11_takesAll, 1, 11, 0, 0, 0, [1735, 134, 1737, 86]), (282, 0, yX11_whyOut, 1, 11, 0, 0, 1, [1743, 134, 1745, 87]), (285, 0, yX11_setsOut, 1, 11, 0, 0, 0, [1747, 134, 1749, 88]), (295, 0, yX11_goesHour, 0, 11, 0, 0, 1, [1765, 134, 1767, 89]), (290, 0, yX11_goes, 1, 11, 0, 0, 1, [1769, 134, 1771, 90]), (335, 0, yX11_noTray, 1, 11, 0, 0, 1, [1783, 134, 1785, 91]), (338, 0, yX11_tells, 1, 11, 0, 0, 1, [1787, 134, 1789, 92]), (327, 0, yX11_whyNot, 1, 11, 0, 0, 1, [1791, 134, 1793, 93]), (330, 0, yX11_does, 1, 11, 0, 0, 0, [1807, 134, 1809, 94]), (341, 0, yX11_isAgain, 0, 11, 0, 0, 0, [1811, 134, 1813, 95]), (353, 0, yX11_drawn, 0, 11, 0, 0, 1, [1824, 134, 1826, 96]), (348, 0, yX11_draw, 1, 11, 0, 0, 1, [1828, 134, 1830, 97]), (380, 0, yX11_leastFor, 3, 11, 0, 0, 1, [1838, 134, 1840, 98]), (364, 0, yX11_laysLeast, 3, 11, 0, 0, 0, [1842, 134, 1844, 99]), (356, 0, yX11_laysOpen, 2, 11, 0, 0, 0, [1846, 134, 1848, 100]), (361, 0, yX11_leftOf, 1, 11, 0, 0, 1, [1851, 134, 1853, 101]), (367, 0, yX11_cellsBy, 1, 11, 0, 0, 1, [1855, 134, 1857, 102]), (384, 0, yX11_laysWay, 2, 11, 0, 0, 1, [1867, 134, 1869, 103]), (374, 0, yX11_isNext, 3, 11, 0, 0, 1, [1871, 134, 1873, 104]), (391, 0, yX11_waysFrom, 4, 11, 0, 0, 1, [1880, 134, 1882, 105]), (387, 1, yX11_isIn, 2, 0, 0, 0, 1, [1884, 134, 1885]), (397, 0, yX11_aboveOf, 1, 11, 0, 0, 1, [1903, 134, 1905, 106]), (400, 0, yX11_lying, 0, 11, 0, 0, 1, [1915, 134, 1917, 107]), (403, 0, yX11_firstOf, 1, 11, 0, 0, 1, [1919, 134, 1921, 108]), (406, 1, yX11_bitsOf, 1, 0, 0, 0, 1, [1923, 134, 1924]), (412, 0, yX11_twistsOf, 1, 11, 0, 0, 1, [1934, 134, 1936, 109]), (409, 0, yX11_overs, 2, 11, 0, 0, 1, [1938, 134, 1940, 110]), (415, 0, yX11_ordersOf, 1, 11, 0, 0, 1, [1946, 134, 1948, 111]), (418, 0, yX11_arrivesIn, 1, 11, 0, 0, 1, [1954, 134, 1956, 112]), (421, 0, yX11_isAllIn, 0, 11, 0, 0, 1, [1966, 134, 1968, 113]), (425, 0, yX11_goersOnCells, 0, 11, 0, 0, 1, [1978, 134, 1980, 114]), (430, 0, yX11_noFaded, 2, 11, 0, 0, 1, [1990, 134, 1992, 115]), (433, 0, yX11_fits, 2, 11, 0, 0, 2, [1995, 134, 1997, 116]), (437, 1, yX11_manyOf, 1, 0, 0, 0, 1, [2003, 134, 2004]), (442, 1, yX11_cut, 2, 0, 0, 0, 2, [2019, 134, 2020]), (446, 0, yX11_rocksMany, 0, 11, 0, 0, 1, [2038, 134, 2040, 117]), (449, 0, yX11_crossingsMany, 0, 11, 0, 0, 1, [2042, 134, 2044, 118]), (452, 0, yX11_underWay, 0, 11, 0, 0, 1, [2046, 134, 2048, 119])]
  | 12 => [(9, 2, yX10_init, 0, 0, 214, 16458, 0, [144, 121, 145]), (13, 0, yX10_feed, 5, 10, 0, 0, 1, [537, 121, 538, 539]), (18, 0, yX10_land, 1, 10, 0, 0, 1, [545, 121, 546, 547]), (23, 0, yX10_fault, 1, 10, 0, 0, 1, [836, 121, 837, 838]), (27, 0, yX10_cell, 2, 10, 0, 0, 1, [840, 121, 841, 842]), (32, 0, yX10_drum, 2, 10, 0, 0, 1, [857, 121, 858, 859]), (36, 0, yX10_lies, 2, 10, 0, 0, 1, [873, 121, 874, 875]), (40, 0, yX10_traveller, 2, 10, 0, 0, 1, [878, 121, 879, 880]), (44, 0, yX10_takes, 2, 10, 0, 0, 1, [892, 121, 893, 894]), (48, 0, yX10_why, 2, 10, 0, 0, 1, [925, 121, 926, 927]), (52, 0, yX10_lay, 3, 10, 0, 0, 1, [950, 121, 951, 952]), (57, 0, yX10_back, 1, 10, 0, 0, 1, [968, 121, 969, 970]), (61, 0, yX10_takeIn, 1, 10, 0, 0, 1, [989, 121, 990, 991]), (65, 0, yX10_setOut, 1, 10, 0, 0, 1, [1002, 121, 1003, 1004]), (69, 0, yX10_turn, 1, 10, 0, 0, 1, [1015, 121, 1016, 1017]), (73, 0, yX10_rain, 1, 10, 0, 0, 1, [1019, 121, 1020, 1021]), (77, 0, yX10_hours, 1, 10, 0, 0, 1, [1023, 121, 1024, 1025]), (81, 0, yX10_undo, 1, 10, 0, 0, 1, [1036, 121, 1037, 1038]), (85, 0, yX10_judge, 2, 10, 0, 0, 1, [1047, 121, 1048, 1049]), (89, 0, yX10_perform, 1, 10, 0, 0, 1, [1085, 121, 1086, 1087]), (93, 0, yX10_season, 2, 10, 0, 0, 1, [1093, 121, 1094, 1095]), (97, 0, yX10_reach, 1, 10, 0, 0, 2, [1106, 121, 1107, 1108]), (102, 0, yX10_fewest, 2, 10, 0, 0, 1, [1159, 121, 1160, 1161]), (106, 0, yX10_way, 3, 10, 0, 0, 1, [1163, 121, 1164, 1165]), (111, 0, yX10_ways, 3, 10, 0, 0, 1, [1172, 121, 1173, 1174]), (115, 0, yX10_crossings, 2, 10, 0, 0, 1, [1193, 121, 1194, 1195]), (119, 0, yX10_needed, 2, 10, 0, 0, 2, [1201, 121, 1202, 1203]), (124, 0, yX10_farthest, 1, 10, 0, 0, 1, [1214, 121, 1215, 1216]), (128, 0, yX10_above, 1, 10, 0, 0, 1, [1218, 121, 1219, 1220]), (132, 0, yX10_ahead, 1, 10, 0, 0, 1, [1229, 121, 1230, 1231]), (136, 0, yX10_order, 1, 10, 0, 0, 1, [1237, 121, 1238, 1239]), (140, 0, yX10_stuck, 0, 10, 0, 0, 1, [1245, 121, 1246, 1247]), (145, 0, yX10_twists, 0, 10, 0, 0, 1, [1249, 121, 1250, 1251]), (149, 0, yX10_orders, 0, 10, 0, 0, 1, [1262, 121, 1263, 1264]), (153, 0, yX10_arrives, 1, 10, 0, 0, 1, [1270, 121, 1271, 1272]), (157, 0, yX10_waits, 1, 10, 0, 0, 1, [1278, 121, 1279, 1280]), (161, 0, yX10_allIn, 0, 10, 0, 0, 1, [1282, 121, 1283, 1284]), (165, 0, yX10_free, 1, 10, 0, 0, 1, [1290, 121, 1291, 1292]), (169, 0, yX10_busiest, 0, 10, 0, 0, 1, [1294, 121, 1295, 1296]), (173, 0, yX10_wouldArrive, 1, 10, 0, 0, 1, [1302, 121, 1303, 1304]), (177, 0, yX10_faded, 2, 10, 0, 0, 2, [1306, 121, 1307, 1308]), (181, 0, yX10_manyFaded, 2, 10, 0, 0, 1, [1322, 121, 1323, 1324]), (185, 0, yX10_look, 2, 10, 0, 0, 1, [1332, 121, 1333, 1334]), (189, 0, yX10_numbers, 3, 10, 0, 0, 1, [1337, 121, 1338, 1339]), (195, 0, yX10_write, 3, 10, 0, 0, 2, [1346, 121, 1347, 1348]), (200, 0, yX10_lists, 3, 10, 0, 0, 1, [1356, 121, 1357, 1358]), (204, 0, yX10_image, 1, 10, 0, 0, 1, [1363, 121, 1364, 1365]), (208, 0, yX10_restore, 1, 10, 0, 0, 1, [1367, 121, 1368, 1369]), (212, 0, yX10_count, 1, 10, 0, 0, 1, [1371, 121, 1372, 1373]), (12, 2, yX11_init, 0, 0, 15, 20522, 0, [1386, 134, 1387]), (17, 0, yX11_feed, 5, 11, 0, 0, 1, [1488, 134, 1489, 1490]), (22, 0, yX11_land, 1, 11, 0, 0, 1, [1492, 134, 1493, 1494]), (26, 0, yX11_fault, 1, 11, 0, 0, 1, [1601, 134, 1602, 1603]), (31, 0, yX11_cell, 2, 11, 0, 0, 1, [1605, 134, 1606, 1607]), (35, 0, yX11_drum, 2, 11, 0, 0, 1, [1633, 134, 1634, 1635]), (39, 0, yX11_lies, 2, 11, 0, 0, 1, [1649, 134, 1650, 1651]), (43, 0, yX11_traveller, 2, 11, 0, 0, 1, [1653, 134, 1654, 1655]), (47, 0, yX11_takes, 2, 11, 0, 0, 1, [1661, 134, 1662, 1663]), (51, 0, yX11_why, 2, 11, 0, 0, 1, [1678, 134, 1679, 1680]), (56, 0, yX11_lay, 3, 11, 0, 0, 1, [1699, 134, 1700, 1701]), (60, 0, yX11_back, 1, 11, 0, 0, 1, [1715, 134, 1716, 1717]), (64, 0, yX11_takeIn, 1, 11, 0, 0, 1, [1727, 134, 1728, 1729]), (68, 0, yX11_setOut, 1, 11, 0, 0, 1, [1739, 134, 1740, 1741]), (72, 0, yX11_turn, 1, 11, 0, 0, 1, [1751, 134, 1752, 1753]), (76, 0, yX11_rain, 1, 11, 0, 0, 1, [1755, 134, 1756, 1757]), (80, 0, yX11_hours, 1, 11, 0, 0, 1, [1760, 134, 1761, 1762]), (84, 0, yX11_undo, 1, 11, 0, 0, 1, [1773, 134, 1774, 1775]), (88, 0, yX11_judge, 2, 11, 0, 0, 1, [1778, 134, 1779, 1780]), (92, 0, yX11_perform, 1, 11, 0, 0, 1, [1815, 134, 1816, 1817]), (96, 0, yX11_season, 2, 11, 0, 0, 1, [1819, 134, 1820, 1821]), (101, 0, yX11_reach, 1, 11, 0, 0, 2, [1833, 134, 1834, 1835]), (105, 0, yX11_fewest, 2, 11, 0, 0, 1, [1859, 134, 1860, 1861]), (110, 0, yX11_way, 3, 11, 0, 0, 1, [1863, 134, 1864, 1865]), (114, 0, yX11_ways, 3, 11, 0, 0, 1, [1875, 134, 1876, 1877]), (118, 0, yX11_crossings, 2, 11, 0, 0, 1, [1887, 134, 1888, 1889]), (123, 0, yX11_needed, 2, 11, 0, 0, 2, [1891, 134, 1892, 1893]), (127, 0, yX11_farthest, 1, 11, 0, 0, 1, [1895, 134, 1896, 1897]), (131, 0, yX11_above, 1, 11, 0, 0, 1, [1899, 134, 1900, 1901]), (135, 0, yX11_ahead, 1, 11, 0, 0, 1, [1907, 134, 1908, 1909]), (139, 0, yX11_order, 1, 11, 0, 0, 1, [1911, 134, 1912, 1913]), (144, 0, yX11_stuck, 0, 11, 0, 0, 1, [1926, 134, 1927, 1928]), (148, 0, yX11_twists, 0, 11, 0, 0, 1, [1930, 134, 1931, 1932]), (152, 0, yX11_orders, 0, 11, 0, 0, 1, [1942, 134, 1943, 1944]), (156, 0, yX11_arrives, 1, 11, 0, 0, 1, [1950, 134, 1951, 1952]), (160, 0, yX11_waits, 1, 11, 0, 0, 1, [1958, 134, 1959, 1960]), (164, 0, yX11_allIn, 0, 11, 0, 0, 1, [1962, 134, 1963, 1964]), (168, 0, yX11_free, 1, 11, 0, 0, 1, [1970, 134, 1971, 1972]), (172, 0, yX11_busiest, 0, 11, 0, 0, 1, [1974, 134, 1975, 1976]), (176, 0, yX11_wouldArrive, 1, 11, 0, 0, 1, [1982, 134, 1983, 1984]), (180, 0, yX11_faded, 2, 11, 0, 0, 2, [1986, 134, 1987, 1988]), (184, 0, yX11_manyFaded, 2, 11, 0, 0, 1, [1999, 134, 2000, 2001]), (188, 0, yX11_look, 2, 11, 0, 0, 1, [2006, 134, 2007, 2008]), (192, 0, yX11_numbers, 3, 11, 0, 0, 1, [2010, 134, 2011, 2012]), (199, 0, yX11_write, 3, 11, 0, 0, 2, [2014, 134, 2015, 2016]), (203, 0, yX11_lists, 3, 11, 0, 0, 1, [2022, 134, 2023, 2024]), (207, 0, yX11_image, 1, 11, 0, 0, 1, [2026, 134, 2027, 2028]), (211, 0, yX11_restore, 1, 11, 0, 0, 1, [2030, 134, 2031, 2032]), (215, 0, yX11_count, 1, 11, 0, 0, 1, [2034, 134, 2035, 2036])]
  | 16 => [(335, 5, yJ0_coder_7d493, 0, 0, 0, 0, 1, [595, 135, 596, 597]), (492, 5, yJ0_isLatin1_aae02, 0, 0, 0, 0, 1, [605, 135, 606, 607]), (495, 1, yJ1_charAt_3b067, 2, 0, 0, 0, 1, [609, 136, 610]), (1059, 1, yJ3_checkIndex_8e157, 3, 0, 0, 0, 1, [617, 137, 618]), (498, 1, yJ2_charAt_3b067, 2, 0, 0, 0, 1, [620, 138, 621]), (633, 5, yJ0_indexOf_7cf53, 2, 0, 0, 0, 1, [657, 135, 658, 659]), (505, 5, yJ0_length_8abf5, 0, 0, 0, 0, 1, [661, 135, 592, 593]), (637, 1, yJ1_indexOf_4cfef, 4, 0, 0, 0, 1, [662, 136, 663]), (640, 1, yJ2_indexOf_4cfef, 4, 0, 0, 0, 1, [677, 138, 678]), (1062, 1, yJ3_checkFromToIndex_8c36e, 4, 0, 0, 0, 1, [692, 137, 693])]
  | 17 => [(9, 1, yJ0_checkIndex_df160, 2, 0, 0, 0, 0, [612, 135, 613]), (88, 1, yJ1_canEncode_9a6ad, 1, 0, 0, 0, 1, [665, 136, 666]), (92, 1, yJ9_max_7cf53, 2, 0, 0, 0, 1, [668, 139, 669]), (38, 1, yJ9_min_7cf53, 2, 0, 0, 0, 1, [671, 139, 672]), (95, 1, yJ1_indexOfChar_4cfef, 4, 0, 0, 0, 1, [674, 136, 675])]
  | _ => []
def qcit (o : Nat) : List (Nat × Int × Nat) := match o with
  | 6 => [(187, 1103515245, 1105)]
  | 11 => [(344, 1103515245, 1832), (360, 268435456, 1850)]
  | _ => []
def qclt (o : Nat) : List (Nat × Int × Nat) := match o with
  | 2 => [(28, (-1000000), 916), (30, 1000000, 917)]
  | 6 => [(146, (-1), 1072), (151, 9009, 1074)]
  | 9 => [(144, 4, 1153), (146, 3, 1171), (148, (-1), 1192)]
  | 10 => [(259, (-2), 1110), (289, (-1), 1205), (348, (-6), 1350), (350, (-7), 1351)]
  | 11 => [(201, 1000000, 1676), (203, (-1000000), 1677), (243, 4, 1686), (288, 9, 1759), (293, 48, 1764), (298, 10, 1777), (333, 3, 1782), (300, (-1), 1795), (302, 5999, 1796), (304, 100, 1797), (306, 1000, 1798), (308, 6000, 1799), (310, 6999, 1800), (312, 7000, 1801), (314, 7999, 1802), (316, 8000, 1803), (318, 8999, 1804), (320, 9000, 1805), (322, 9009, 1806), (351, 40, 1823), (378, (-2), 1837), (395, 8, 1879), (428, 6, 1994), (440, (-7), 2018)]
  | 12 => [(193, 4294967295, 2050)]
  | 15 => [(314, 6148914691236517205, 1329), (316, 3689348814741910323, 1330), (318, 1085102592571150095, 1331)]
  | _ => []
/-- classes: (pool entry, class, its fields, rows of the tables) -/
def qnwt (o : Nat) : List (Nat × Nat × Nat × Nat × Nat × Nat) := match o with
  | 0 => [(7, 1, 12, 477, 157, 123), (16, 6, 12, 479, 291, 126)]
  | 1 => [(28, 2, 3, 162, 163, 124)]
  | 3 => [(9, 6, 12, 354, 291, 126)]
  | 5 => [(15, 1, 12, 156, 157, 123), (22, 7, 4, 244, 245, 125)]
  | 10 => [(13, 5, 7, 150, 151, 122), (20, 1, 12, 288, 157, 123), (27, 6, 12, 290, 291, 126), (37, 3, 3, 348, 349, 127), (44, 8, 3, 368, 455, 130), (50, 0, 3, 370, 472, 131), (56, 9, 17, 372, 373, 128), (63, 4, 4, 434, 435, 129)]
  | 12 => [(7, 10, 11, 142, 143, 121), (10, 11, 31, 1384, 1385, 134)]
  | _ => []
def qtf (ci : Nat) : u_T := match ci with
  | 0 => TX0 | 1 => TX1 | 2 => TX2 | 3 => TX3 | 4 => TX4 | 5 => TX5 | 6 => TX6 | 7 => TX7 | 8 => TX8 | 9 => TX9 | 10 => TX10 | _ => TX11
def qnf (ci : Nat) : Nat := match ci with
  | 0 => 3
  | 1 => 12
  | 2 => 3
  | 3 => 3
  | 4 => 4
  | 5 => 7
  | 6 => 12
  | 7 => 4
  | 8 => 3
  | 9 => 17
  | 10 => 11
  | _ => 31
theorem qvw : ∀ ci, ci < 12 → vwCl[ci]? = some (qown ci, qtf ci, qnf ci) := by
  intro ci h
  rcases (show ci = 0 ∨ ci = 1 ∨ ci = 2 ∨ ci = 3 ∨ ci = 4 ∨ ci = 5 ∨ ci = 6 ∨ ci = 7 ∨ ci = 8 ∨ ci = 9 ∨ ci = 10 ∨ ci = 11 by omega) with rfl | rfl | rfl | rfl | rfl | rfl | rfl | rfl | rfl | rfl | rfl | rfl <;> rfl
def qrow (i : Nat) (w : Cond) : Bool := decide (lw_tbl[i]? = some w) && goodWord w
theorem qrow_in {i : Nat} {w : Cond} (h : qrow i w = true) : w ∈ qtbl := by
  rw [qrow, Bool.and_eq_true] at h
  exact qin i (of_decide_eq_true h.1) h.2
def qflc (o : Nat) (e : Nat × Nat × Nat × Nat) : Bool := decide (e.2.1 < 12) && (decide (e.2.2.1 < qnf e.2.1) && qrow e.2.2.2 (Cond.fieldLink (qown o) e.1 (qtf e.2.1 e.2.2.1).1 (qtf e.2.1 e.2.2.1).2.1 (qtf e.2.1 e.2.2.1).2.2.1))
def qmlc (o : Nat) (e : Nat × QME) : Bool := match e with
  | (i, kd, y, na, ci, _, _, _, ps) => qrow (ps.getD 0 0) (Cond.methodLink (qown o) i y) && (match kd with
    | 3 => decide (y = Lib.objectInit)
    | 4 => decide (y = arraycopyName)
    | _ => qrow (ps.getD 1 0) (Cond.initialized y.cls) && (decide (y.cls ≠ "java/lang/invoke/MethodHandle" ∧ y.cls ≠ "java/lang/invoke/VarHandle" ∧ (parseMethodDescriptor y.desc).map (fun d => d.parameters.length) = some na) && (match kd with
      | 0 => qrow (ps.getD 2 0) (Cond.instanceMethod y) && (qrow (ps.getD 3 0) (Cond.selects y.cls y y) && (decide (ci < 12) && decide (qown ci = y.cls)))
      | 1 => qrow (ps.getD 2 0) (Cond.static y)
      | 2 => qrow (ps.getD 2 0) (Cond.instanceMethod y) && decide (y.name = "<init>")
      | 5 => qrow (ps.getD 2 0) (Cond.instanceMethod y) && (qrow (ps.getD 3 0) (Cond.selects y.cls y y) && decide (y.cls = "java/lang/String"))
      | _ => false)))
def qcic (o : Nat) (e : Nat × Int × Nat) : Bool := decide (-2147483648 ≤ e.2.1 ∧ e.2.1 ≤ 2147483647) && qrow e.2.2 (Cond.constant (qown o) e.1 (Int32.ofInt e.2.1))
def qclc (o : Nat) (e : Nat × Int × Nat) : Bool := decide (-9223372036854775808 ≤ e.2.1 ∧ e.2.1 ≤ 9223372036854775807) && qrow e.2.2 (Cond.constantLong (qown o) e.1 (Int64.ofInt e.2.1))
def qnwc (o : Nat) (e : Nat × Nat × Nat × Nat × Nat × Nat) : Bool := decide (e.2.1 < 12) && (decide (e.2.2.1 = qnf e.2.1) && (qrow e.2.2.2.1 (Cond.classLink (qown o) e.1 (qown e.2.1)) && (qrow e.2.2.2.2.1 (Cond.instantiable (qown e.2.1) (qnf e.2.1)) && qrow e.2.2.2.2.2 (Cond.initialized (qown e.2.1)))))
theorem qfl_0 : (qflt 0).all (qflc 0) = true := by decide +kernel
theorem qml_0 : (qmlt 0).all (qmlc 0) = true := by decide +kernel
theorem qci_0 : (qcit 0).all (qcic 0) = true := by decide +kernel
theorem qcl_0 : (qclt 0).all (qclc 0) = true := by decide +kernel
theorem qnw_0 : (qnwt 0).all (qnwc 0) = true := by decide +kernel
theorem qfl_1 : (qflt 1).all (qflc 1) = true := by decide +kernel
theorem qml_1 : (qmlt 1).all (qmlc 1) = true := by decide +kernel
theorem qci_1 : (qcit 1).all (qcic 1) = true := by decide +kernel
theorem qcl_1 : (qclt 1).all (qclc 1) = true := by decide +kernel
theorem qnw_1 : (qnwt 1).all (qnwc 1) = true := by decide +kernel
theorem qfl_2 : (qflt 2).all (qflc 2) = true := by decide +kernel
theorem qml_2 : (qmlt 2).all (qmlc 2) = true := by decide +kernel
theorem qci_2 : (qcit 2).all (qcic 2) = true := by decide +kernel
theorem qcl_2 : (qclt 2).all (qclc 2) = true := by decide +kernel
theorem qnw_2 : (qnwt 2).all (qnwc 2) = true := by decide +kernel
theorem qfl_3 : (qflt 3).all (qflc 3) = true := by decide +kernel
theorem qml_3 : (qmlt 3).all (qmlc 3) = true := by decide +kernel
theorem qci_3 : (qcit 3).all (qcic 3) = true := by decide +kernel
theorem qcl_3 : (qclt 3).all (qclc 3) = true := by decide +kernel
theorem qnw_3 : (qnwt 3).all (qnwc 3) = true := by decide +kernel
theorem qfl_4 : (qflt 4).all (qflc 4) = true := by decide +kernel
theorem qml_4 : (qmlt 4).all (qmlc 4) = true := by decide +kernel
theorem qci_4 : (qcit 4).all (qcic 4) = true := by decide +kernel
theorem qcl_4 : (qclt 4).all (qclc 4) = true := by decide +kernel
theorem qnw_4 : (qnwt 4).all (qnwc 4) = true := by decide +kernel
theorem qfl_5 : (qflt 5).all (qflc 5) = true := by decide +kernel
theorem qml_5 : (qmlt 5).all (qmlc 5) = true := by decide +kernel
theorem qci_5 : (qcit 5).all (qcic 5) = true := by decide +kernel
theorem qcl_5 : (qclt 5).all (qclc 5) = true := by decide +kernel
theorem qnw_5 : (qnwt 5).all (qnwc 5) = true := by decide +kernel
theorem qfl_6 : (qflt 6).all (qflc 6) = true := by decide +kernel
theorem qml_6 : (qmlt 6).all (qmlc 6) = true := by decide +kernel
theorem qci_6 : (qcit 6).all (qcic 6) = true := by decide +kernel
theorem qcl_6 : (qclt 6).all (qclc 6) = true := by decide +kernel
theorem qnw_6 : (qnwt 6).all (qnwc 6) = true := by decide +kernel
theorem qfl_7 : (qflt 7).all (qflc 7) = true := by decide +kernel
theorem qml_7 : (qmlt 7).all (qmlc 7) = true := by decide +kernel
theorem qci_7 : (qcit 7).all (qcic 7) = true := by decide +kernel
theorem qcl_7 : (qclt 7).all (qclc 7) = true := by decide +kernel
theorem qnw_7 : (qnwt 7).all (qnwc 7) = true := by decide +kernel
theorem qfl_8 : (qflt 8).all (qflc 8) = true := by decide +kernel
theorem qml_8 : (qmlt 8).all (qmlc 8) = true := by decide +kernel
theorem qci_8 : (qcit 8).all (qcic 8) = true := by decide +kernel
theorem qcl_8 : (qclt 8).all (qclc 8) = true := by decide +kernel
theorem qnw_8 : (qnwt 8).all (qnwc 8) = true := by decide +kernel
theorem qfl_9 : (qflt 9).all (qflc 9) = true := by decide +kernel
theorem qml_9 : (qmlt 9).all (qmlc 9) = true := by decide +kernel
theorem qci_9 : (qcit 9).all (qcic 9) = true := by decide +kernel
theorem qcl_9 : (qclt 9).all (qclc 9) = true := by decide +kernel
theorem qnw_9 : (qnwt 9).all (qnwc 9) = true := by decide +kernel
theorem qfl_10 : (qflt 10).all (qflc 10) = true := by decide +kernel
theorem qml_10 : (qmlt 10).all (qmlc 10) = true := by decide +kernel
theorem qci_10 : (qcit 10).all (qcic 10) = true := by decide +kernel
theorem qcl_10 : (qclt 10).all (qclc 10) = true := by decide +kernel
theorem qnw_10 : (qnwt 10).all (qnwc 10) = true := by decide +kernel
theorem qfl_11 : (qflt 11).all (qflc 11) = true := by decide +kernel
theorem qml_11 : (qmlt 11).all (qmlc 11) = true := by decide +kernel
theorem qci_11 : (qcit 11).all (qcic 11) = true := by decide +kernel
theorem qcl_11 : (qclt 11).all (qclc 11) = true := by decide +kernel
theorem qnw_11 : (qnwt 11).all (qnwc 11) = true := by decide +kernel
theorem qfl_12 : (qflt 12).all (qflc 12) = true := by decide +kernel
theorem qml_12 : (qmlt 12).all (qmlc 12) = true := by decide +kernel
theorem qci_12 : (qcit 12).all (qcic 12) = true := by decide +kernel
theorem qcl_12 : (qclt 12).all (qclc 12) = true := by decide +kernel
theorem qnw_12 : (qnwt 12).all (qnwc 12) = true := by decide +kernel
theorem qfl_13 : (qflt 13).all (qflc 13) = true := by decide +kernel
theorem qml_13 : (qmlt 13).all (qmlc 13) = true := by decide +kernel
theorem qci_13 : (qcit 13).all (qcic 13) = true := by decide +kernel
theorem qcl_13 : (qclt 13).all (qclc 13) = true := by decide +kernel
theorem qnw_13 : (qnwt 13).all (qnwc 13) = true := by decide +kernel
theorem qfl_14 : (qflt 14).all (qflc 14) = true := by decide +kernel
theorem qml_14 : (qmlt 14).all (qmlc 14) = true := by decide +kernel
theorem qci_14 : (qcit 14).all (qcic 14) = true := by decide +kernel
theorem qcl_14 : (qclt 14).all (qclc 14) = true := by decide +kernel
theorem qnw_14 : (qnwt 14).all (qnwc 14) = true := by decide +kernel
theorem qfl_15 : (qflt 15).all (qflc 15) = true := by decide +kernel
theorem qml_15 : (qmlt 15).all (qmlc 15) = true := by decide +kernel
theorem qci_15 : (qcit 15).all (qcic 15) = true := by decide +kernel
theorem qcl_15 : (qclt 15).all (qclc 15) = true := by decide +kernel
theorem qnw_15 : (qnwt 15).all (qnwc 15) = true := by decide +kernel
theorem qfl_16 : (qflt 16).all (qflc 16) = true := by decide +kernel
theorem qml_16 : (qmlt 16).all (qmlc 16) = true := by decide +kernel
theorem qci_16 : (qcit 16).all (qcic 16) = true := by decide +kernel
theorem qcl_16 : (qclt 16).all (qclc 16) = true := by decide +kernel
theorem qnw_16 : (qnwt 16).all (qnwc 16) = true := by decide +kernel
theorem qfl_17 : (qflt 17).all (qflc 17) = true := by decide +kernel
theorem qml_17 : (qmlt 17).all (qmlc 17) = true := by decide +kernel
theorem qci_17 : (qcit 17).all (qcic 17) = true := by decide +kernel
theorem qcl_17 : (qclt 17).all (qclc 17) = true := by decide +kernel
theorem qnw_17 : (qnwt 17).all (qnwc 17) = true := by decide +kernel
theorem qfl_18 : (qflt 18).all (qflc 18) = true := by decide +kernel
theorem qml_18 : (qmlt 18).all (qmlc 18) = true := by decide +kernel
theorem qci_18 : (qcit 18).all (qcic 18) = true := by decide +kernel
theorem qcl_18 : (qclt 18).all (qclc 18) = true := by decide +kernel
theorem qnw_18 : (qnwt 18).all (qnwc 18) = true := by decide +kernel
theorem qfl_all : ∀ o, (qflt o).all (qflc o) = true := by
  intro o
  match o with
  | 0 => exact qfl_0
  | 1 => exact qfl_1
  | 2 => exact qfl_2
  | 3 => exact qfl_3
  | 4 => exact qfl_4
  | 5 => exact qfl_5
  | 6 => exact qfl_6
  | 7 => exact qfl_7
  | 8 => exact qfl_8
  | 9 => exact qfl_9
  | 10 => exact qfl_10
  | 11 => exact qfl_11
  | 12 => exact qfl_12
  | 13 => exact qfl_13
  | 14 => exact qfl_14
  | 15 => exact qfl_15
  | 16 => exact qfl_16
  | 17 => exact qfl_17
  | 18 => exact qfl_18
  | o + 19 => rfl
theorem qml_all : ∀ o, (qmlt o).all (qmlc o) = true := by
  intro o
  match o with
  | 0 => exact qml_0
  | 1 => exact qml_1
  | 2 => exact qml_2
  | 3 => exact qml_3
  | 4 => exact qml_4
  | 5 => exact qml_5
  | 6 => exact qml_6
  | 7 => exact qml_7
  | 8 => exact qml_8
  | 9 => exact qml_9
  | 10 => exact qml_10
  | 11 => exact qml_11
  | 12 => exact qml_12
  | 13 => exact qml_13
  | 14 => exact qml_14
  | 15 => exact qml_15
  | 16 => exact qml_16
  | 17 => exact qml_17
  | 18 => exact qml_18
  | o + 19 => rfl
theorem qci_all : ∀ o, (qcit o).all (qcic o) = true := by
  intro o
  match o with
  | 0 => exact qci_0
  | 1 => exact qci_1
  | 2 => exact qci_2
  | 3 => exact qci_3
  | 4 => exact qci_4
  | 5 => exact qci_5
  | 6 => exact qci_6
  | 7 => exact qci_7
  | 8 => exact qci_8
  | 9 => exact qci_9
  | 10 => exact qci_10
  | 11 => exact qci_11
  | 12 => exact qci_12
  | 13 => exact qci_13
  | 14 => exact qci_14
  | 15 => exact qci_15
  | 16 => exact qci_16
  | 17 => exact qci_17
  | 18 => exact qci_18
  | o + 19 => rfl
theorem qcl_all : ∀ o, (qclt o).all (qclc o) = true := by
  intro o
  match o with
  | 0 => exact qcl_0
  | 1 => exact qcl_1
  | 2 => exact qcl_2
  | 3 => exact qcl_3
  | 4 => exact qcl_4
  | 5 => exact qcl_5
  | 6 => exact qcl_6
  | 7 => exact qcl_7
  | 8 => exact qcl_8
  | 9 => exact qcl_9
  | 10 => exact qcl_10
  | 11 => exact qcl_11
  | 12 => exact qcl_12
  | 13 => exact qcl_13
  | 14 => exact qcl_14
  | 15 => exact qcl_15
  | 16 => exact qcl_16
  | 17 => exact qcl_17
  | 18 => exact qcl_18
  | o + 19 => rfl
theorem qnw_all : ∀ o, (qnwt o).all (qnwc o) = true := by
  intro o
  match o with
  | 0 => exact qnw_0
  | 1 => exact qnw_1
  | 2 => exact qnw_2
  | 3 => exact qnw_3
  | 4 => exact qnw_4
  | 5 => exact qnw_5
  | 6 => exact qnw_6
  | 7 => exact qnw_7
  | 8 => exact qnw_8
  | 9 => exact qnw_9
  | 10 => exact qnw_10
  | 11 => exact qnw_11
  | 12 => exact qnw_12
  | 13 => exact qnw_13
  | 14 => exact qnw_14
  | 15 => exact qnw_15
  | 16 => exact qnw_16
  | 17 => exact qnw_17
  | 18 => exact qnw_18
  | o + 19 => rfl
theorem qobj : Cond.instanceMethod Lib.objectInit ∈ qtbl ∧ Cond.code Lib.objectInit ⟨#[0xb1]⟩ 1 none ∈ qtbl := ⟨qin 148 (by decide +kernel) (by decide +kernel), qin 149 (by decide +kernel) (by decide +kernel)⟩
theorem qacp : Cond.native arraycopyName ∈ qtbl ∧ Cond.static arraycopyName ∈ qtbl ∧ Cond.initialized "java/lang/System" ∈ qtbl := ⟨qin 502 (by decide +kernel) (by decide +kernel), qin 501 (by decide +kernel) (by decide +kernel), qin 133 (by decide +kernel) (by decide +kernel)⟩
theorem qarc_100 : Cond.arrayClass (qty 100) ∈ qtbl := qin 179 (by decide +kernel) (by decide +kernel)
theorem qarc_101 : Cond.arrayClass (qty 101) ∈ qtbl := qin 433 (by decide +kernel) (by decide +kernel)
theorem qarc_102 : Cond.arrayClass (qty 102) ∈ qtbl := qin 178 (by decide +kernel) (by decide +kernel)
theorem qarc_103 : Cond.arrayClass (qty 103) ∈ qtbl := qin 1487 (by decide +kernel) (by decide +kernel)
def qslk (o : Nat) : List (Nat × String × Nat) := match o with
  | 7 => [(54, "land", 0), (60, "rock", 1), (62, "drum", 2), (64, "yards", 3), (66, "takes", 4), (68, "may", 5), (70, "wet", 6), (72, "hour", 7), (74, "x", 8), (76, "y", 9), (78, "lies", 10), (80, "or", 11), (82, "and", 12), (84, "not", 13), (39, ";:+-*()[]=<>", 14)]
  | 11 => [(77, " land rock drum yards takes may wet hour x y lies and or not ", 15), (115, ";:+-*()[]=<>", 14)]
  | _ => []
theorem qslk_7 : ∀ e ∈ qslk 7, (7, e.1, e.2.1, e.2.2) ∈ qsl := by decide +kernel
theorem qslk_11 : ∀ e ∈ qslk 11, (11, e.1, e.2.1, e.2.2) ∈ qsl := by decide +kernel
theorem qslk_ok (o : Nat) (e : Nat × String × Nat) (h : e ∈ qslk o) : (o, e.1, e.2.1, e.2.2) ∈ qsl := by
  by_cases h7 : o = 7
  · subst h7; exact qslk_7 e h
  · by_cases h11 : o = 11
    · subst h11; exact qslk_11 e h
    · have : qslk o = [] := by
        unfold qslk
        split <;> first | contradiction | rfl
      rw [this] at h
      cases h
theorem qsf9 : Cond.fieldLink RJ0 9 "java/lang/String" "value" "[B" ∈ qtbl := qin 2051 (by decide +kernel) (by decide +kernel)
theorem qsf15 : Cond.fieldLink RJ0 15 "java/lang/String" "coder" "B" ∈ qtbl := qin 2052 (by decide +kernel) (by decide +kernel)
theorem qsf38 : Cond.fieldLink RJ0 38 "java/lang/String" "COMPACT_STRINGS" "Z" ∈ qtbl := qin 599 (by decide +kernel) (by decide +kernel)
theorem qsf1053 : Cond.fieldLink RJ0 1053 "jdk/internal/util/Preconditions" "SIOOBE_FORMATTER" "Ljava/util/function/BiFunction;" ∈ qtbl := qin 615 (by decide +kernel) (by decide +kernel)
end
section
theorem qs_ineg {X : QX} {d : Nat} {mx : Nat × Nat} {m : QMeth} {post : Int → QH → Prop} {cs : Nat × Nat} {pc : Nat} {lv : List (Nat × QV)} {st : List QV} {h : QH} {a : Int} (hd : decode (qmc m) pc = .ok (.ineg, 1)) (k : QR X d mx m post cs (pc + 1) lv ((0, -a) :: st) h) : QR X d mx m post cs pc lv ((0, a) :: st) h := by
  intro p e R s mi ar be me c H lo ls hR hB hH hL hl
  have k := k p e R s mi ar be me c H lo ls hR hB hH hL hl
  refine lv_ineg (x := Int32.ofInt a) hB.1 hB.2.1 hd ?_
  rw [← Int32.ofInt_neg]; exact k
def qget (l : List QIns) (pc : Nat) : Option (Instr × Nat) := qfnd l pc
def qtgt (pc : Nat) (off : Int) : Nat := ((pc : Int) + off).toNat
def qp1 (t : Nat) (st : List QV) (f : Int → List QV → Prop) : Prop := match st with
  | v :: r => bif v.1 == t then f v.2 r else False
  | _ => False
def qp2 (t1 t2 : Nat) (st : List QV) (f : Int → Int → List QV → Prop) : Prop := match st with
  | v :: w :: r => bif v.1 == t1 && w.1 == t2 then f v.2 w.2 r else False
  | _ => False
def qp3 (t1 t2 t3 : Nat) (st : List QV) (f : Int → Int → Int → List QV → Prop) : Prop := match st with
  | v :: w :: u :: r => bif v.1 == t1 && (w.1 == t2 && u.1 == t3) then f v.2 w.2 u.2 r else False
  | _ => False
def qpl (lv : List (Nat × QV)) (i t : Nat) (f : Int → Prop) : Prop := match qlook lv i with
  | some v => bif v.1 == t then f v.2 else False
  | none => False
theorem qp1_of {t : Nat} {st : List QV} {f : Int → List QV → Prop} (h : qp1 t st f) : ∃ x r, st = (t, x) :: r ∧ f x r := by
  unfold qp1 at h
  split at h
  · rename_i v r
    by_cases e : v.1 = t
    · rw [show (v.1 == t) = true by simpa using e] at h
      exact ⟨v.2, r, by rw [← e], h⟩
    · rw [show (v.1 == t) = false by simpa using e] at h
      exact h.elim
  · exact h.elim
theorem qp2_of {t1 t2 : Nat} {st : List QV} {f : Int → Int → List QV → Prop} (h : qp2 t1 t2 st f) : ∃ x y r, st = (t1, x) :: (t2, y) :: r ∧ f x y r := by
  unfold qp2 at h
  split at h
  · rename_i v w r
    by_cases e : v.1 = t1 ∧ w.1 = t2
    · rw [show (v.1 == t1 && w.1 == t2) = true by simpa using e] at h
      exact ⟨v.2, w.2, r, by rw [← e.1, ← e.2], h⟩
    · rw [show (v.1 == t1 && w.1 == t2) = false by simpa using e] at h
      exact h.elim
  · exact h.elim
theorem qp3_of {t1 t2 t3 : Nat} {st : List QV} {f : Int → Int → Int → List QV → Prop} (h : qp3 t1 t2 t3 st f) : ∃ x y z r, st = (t1, x) :: (t2, y) :: (t3, z) :: r ∧ f x y z r := by
  unfold qp3 at h
  split at h
  · rename_i v w u r
    by_cases e : v.1 = t1 ∧ w.1 = t2 ∧ u.1 = t3
    · rw [show (v.1 == t1 && (w.1 == t2 && u.1 == t3)) = true by simpa using e] at h
      exact ⟨v.2, w.2, u.2, r, by rw [← e.1, ← e.2.1, ← e.2.2], h⟩
    · rw [show (v.1 == t1 && (w.1 == t2 && u.1 == t3)) = false by simpa using e] at h
      exact h.elim
  · exact h.elim
theorem qpl_of {lv : List (Nat × QV)} {i t : Nat} {f : Int → Prop} (h : qpl lv i t f) : ∃ x, qlook lv i = some (t, x) ∧ f x := by
  unfold qpl at h
  split at h
  · rename_i v hv
    by_cases e : v.1 = t
    · rw [show (v.1 == t) = true by simpa using e] at h
      exact ⟨v.2, by rw [hv, ← e], h⟩
    · rw [show (v.1 == t) = false by simpa using e] at h
      exact h.elim
  · exact h.elim
theorem qbif {b : Bool} {A : Prop} (h : bif b then A else False) : b = true ∧ A := by
  cases b
  · exact h.elim
  · exact ⟨rfl, h⟩
def qbr (c : ClassFile.Cond) (a b : Int) (T F : Prop) : Prop := match c with
  | .eq => (a = b → T) ∧ (¬ a = b → in32 a ∧ in32 b ∧ F)
  | .ne => (¬ a = b → in32 a ∧ in32 b ∧ T) ∧ (a = b → F)
  | .lt => in32 a ∧ in32 b ∧ (a < b → T) ∧ (¬ a < b → F)
  | .ge => in32 a ∧ in32 b ∧ (b ≤ a → T) ∧ (¬ b ≤ a → F)
  | .gt => in32 a ∧ in32 b ∧ (b < a → T) ∧ (¬ b < a → F)
  | .le => in32 a ∧ in32 b ∧ (a ≤ b → T) ∧ (¬ a ≤ b → F)
def qbrl (c : ClassFile.Cond) (a b : Int) (T F : Prop) : Prop := match c with
  | .eq => (a = b → T) ∧ (¬ a = b → in64 a ∧ in64 b ∧ F)
  | .ne => (¬ a = b → in64 a ∧ in64 b ∧ T) ∧ (a = b → F)
  | .lt => in64 a ∧ in64 b ∧ (a < b → T) ∧ (¬ a < b → F)
  | .ge => in64 a ∧ in64 b ∧ (b ≤ a → T) ∧ (¬ b ≤ a → F)
  | .gt => in64 a ∧ in64 b ∧ (b < a → T) ∧ (¬ b < a → F)
  | .le => in64 a ∧ in64 b ∧ (a ≤ b → T) ∧ (¬ a ≤ b → F)
def qsw (x : Int) (f : Int → Prop) (lo : Int) (offs : List Int) : Prop := match offs with
  | [] => True
  | o :: r => (x = lo → f o) ∧ qsw x f (lo + 1) r
def qswl (x : Int) (f : Int → Prop) (dfl : Prop) (ps : List (Int × Int)) : Prop := match ps with
  | [] => dfl
  | p :: r => (x = p.1 → f p.2) ∧ (¬ x = p.1 → qswl x f dfl r)
def qtake (n : Nat) (st : List QV) : Option (List QV × List QV) := match n, st with
  | 0, st => some ([], st)
  | _ + 1, [] => none
  | n + 1, v :: st => match qtake n st with
    | some (as, r) => some (as ++ [v], r)
    | none => none
theorem qtake_of : ∀ {n : Nat} {st as r : List QV}, qtake n st = some (as, r) → st = as.reverse ++ r ∧ as.length = n := by
  intro n
  induction n with
  | zero => intro st as r h; rw [qtake] at h; cases h; exact ⟨rfl, rfl⟩
  | succ n ih =>
    intro st as r h
    cases st with
    | nil => rw [qtake] at h; cases h
    | cons v st =>
      rw [qtake] at h
      split at h
      · rename_i as' r' he
        cases h
        obtain ⟨e1, e2⟩ := ih he
        exact ⟨by rw [e1]; simp, by simp [e2]⟩
      · cases h
def qwn (l : List QV) : Nat := match l with
  | [] => 0
  | v :: r => (bif v.1 == 1 then 2 else 1) + qwn r
theorem qwn_eq (l : List QV) : qwn l = qwt l := by
  induction l with
  | nil => rfl
  | cons v r ih =>
    rw [qwn, ih]
    show _ = (List.map (fun v : QV => if v.1 = 1 then 2 else 1) (v :: r)).sum
    rw [List.map_cons, List.sum_cons]
    congr 1
    by_cases e : v.1 = 1
    · simp [e]
    · rw [show (v.1 == 1) = false by simpa using e, if_neg e]; rfl
def qfitc (t : FieldType) (x : Int) (A : Prop) : Prop := match t with
  | .boolean => (x = 0 ∨ x = 1) ∧ A
  | .int => A | .long => A | .object _ => A | .array _ => A
  | _ => False
theorem qfitc_of {t : FieldType} {x : Int} {A : Prop} (h : qfitc t x A) : qfit t x ∧ A := by
  cases t <;> first | exact ⟨trivial, h⟩ | exact h | exact h.elim
def qpok (m : QMeth) (ci k : Nat) : Bool := !(qtf ci k).2.2.2 || (decide ((qmy m).name = "<init>") && decide ((qtf ci k).1 = qown (qmo m)))
theorem QC.mono {X : QX} {d mc ms rk : Nat} {y : MethodName} {as : List QV} {h : QH} {post post' : Int → QH → Prop} (H : QC X d mc ms rk y as h post) (hp : ∀ x h', post x h' → post' x h') : QC X d mc ms rk y as h post' := by
  obtain ⟨cc, maxL, ret, h1, h2, h3, h4⟩ := H
  refine ⟨cc, maxL, ret, h1, h2, h3, ?_⟩
  intro p e a1 a2 a3 s m args below b1 b2 b3 b4
  obtain ⟨n, o, c1, c2, c3, ⟨x, h', c4, c5, c6⟩, c7⟩ := h4 p e a1 a2 a3 s m args below b1 b2 b3 b4
  exact ⟨n, o, c1, c2, c3, ⟨x, h', c4, hp _ _ c5, c6⟩, c7⟩
abbrev QGo : Type := Nat × Nat → Nat → List (Nat × QV) → List QV → QH → Prop
def qcallV (X : QX) (dd : Nat) (mx : Nat × Nat) (go : QGo) (cs : Nat × Nat) (pc : Nat) (lv : List (Nat × QV)) (st : List QV) (h : QH) (y : MethodName) (na ci mc ms rk : Nat) : Prop := match qtake na st with
  | some (as, st1) => qp1 2 st1 fun a r => (h.1.2.1 a).1 = ci ∧ (bif Nat.ble (qwn r) 8 && (Nat.ble (cs.1 + mc) mx.1 && Nat.ble (cs.2 + ms) mx.2) then
      QC X dd mc ms rk y ((2, a) :: as) h (fun x h' => go (cs.1 + mc, cs.2 + ms) (pc + 3) lv (qrl rk x ++ r) h') else False)
  | none => False
def qcallS (X : QX) (dd : Nat) (mx : Nat × Nat) (go : QGo) (cs : Nat × Nat) (pc : Nat) (lv : List (Nat × QV)) (st : List QV) (h : QH) (y : MethodName) (na mc ms rk : Nat) : Prop := match qtake na st with
  | some (as, r) => bif Nat.ble (qwn r) 8 && (Nat.ble (cs.1 + mc) mx.1 && Nat.ble (cs.2 + ms) mx.2) then
      QC X dd mc ms rk y as h (fun x h' => go (cs.1 + mc, cs.2 + ms) (pc + 3) lv (qrl rk x ++ r) h') else False
  | none => False
def qcallI (X : QX) (dd : Nat) (mx : Nat × Nat) (go : QGo) (cs : Nat × Nat) (pc : Nat) (lv : List (Nat × QV)) (st : List QV) (h : QH) (y : MethodName) (na mc ms : Nat) : Prop := match qtake na st with
  | some (as, st1) => qp1 2 st1 fun a r => 0 ≤ a ∧ (bif Nat.ble (qwn r) 8 && (Nat.ble (cs.1 + mc) mx.1 && Nat.ble (cs.2 + ms) mx.2) then
      QC X dd mc ms 0 y ((2, a) :: as) h (fun _ h' => go (cs.1 + mc, cs.2 + ms) (pc + 3) lv r h') else False)
  | none => False
def qcallT (X : QX) (dd : Nat) (mx : Nat × Nat) (go : QGo) (cs : Nat × Nat) (pc : Nat) (lv : List (Nat × QV)) (st : List QV) (h : QH) (y : MethodName) (na mc ms rk : Nat) : Prop := match qtake na st with
  | some (as, st1) => qp1 2 st1 fun a r => (-19 < a ∧ a ≤ -3) ∧ (bif Nat.ble (qwn r) 8 && (Nat.ble (cs.1 + mc) mx.1 && Nat.ble (cs.2 + ms) mx.2) then
      QC X dd mc ms rk y ((2, a) :: as) h (fun x h' => go (cs.1 + mc, cs.2 + ms) (pc + 3) lv (qrl rk x ++ r) h') else False)
  | none => False
def qcallO (go : QGo) (cs : Nat × Nat) (pc : Nat) (lv : List (Nat × QV)) (st : List QV) (h : QH) : Prop := qp1 2 st fun a r => 0 ≤ a ∧ (bif Nat.ble (qwn r) 8 then go cs (pc + 3) lv r h else False)
def qcallA (go : QGo) (cs : Nat × Nat) (pc : Nat) (lv : List (Nat × QV)) (st : List QV) (h : QH) : Prop := qp3 0 0 2 st fun n dp a r1 => qp2 0 2 r1 fun sp b r => (h.1.2.1 a).1 = 100 ∧ (h.1.2.1 b).1 = 100 ∧ 0 ≤ sp ∧ 0 ≤ dp ∧ 0 ≤ n ∧ sp + n ≤ (h.1.2.1 b).2 ∧ dp + n ≤ (h.1.2.1 a).2 ∧ (bif Nat.ble (qwn r) 8 then go cs (pc + 3) lv r (h.1, qcpy h.2 b a sp dp n) else False)
/-- a call -/
def qcall (X : QX) (d : Nat) (mx : Nat × Nat) (go : QGo) (cs : Nat × Nat) (pc : Nat) (lv : List (Nat × QV)) (st : List QV) (h : QH) (kd : Nat) (E : QME) : Prop := match d with
  | 0 => False
  | dd + 1 => bif kd == E.1 then (match E.1 with
    | 0 => qcallV X dd mx go cs pc lv st h E.2.1 E.2.2.1 E.2.2.2.1 E.2.2.2.2.1 E.2.2.2.2.2.1 E.2.2.2.2.2.2.1
    | 1 => qcallS X dd mx go cs pc lv st h E.2.1 E.2.2.1 E.2.2.2.2.1 E.2.2.2.2.2.1 E.2.2.2.2.2.2.1
    | 2 => qcallI X dd mx go cs pc lv st h E.2.1 E.2.2.1 E.2.2.2.2.1 E.2.2.2.2.2.1
    | 3 => qcallO go cs pc lv st h
    | 4 => qcallA go cs pc lv st h
    | 5 => qcallT X dd mx go cs pc lv st h E.2.1 E.2.2.1 E.2.2.2.2.1 E.2.2.2.2.2.1 E.2.2.2.2.2.2.1
    | _ => False) else False
/-- a call's kind may stand behind the instruction -/
def qkdOf (ins kd : Nat) : Nat := match ins with
  | 0 => bif kd == 5 then 5 else 0
  | 1 => bif kd == 4 then 4 else 1
  | _ => bif kd == 3 then 3 else 2
def qrak (ci : Nat) : Nat := match ci with
  | 6 => 104 | 8 => 105 | 0 => 106 | _ => 0
theorem qrak_of {ci : Nat} (h : 100 ≤ qrak ci) : (qrak ci = 104 ∧ qown ci = RX6) ∨ (qrak ci = 105 ∧ qown ci = RX8) ∨ (qrak ci = 106 ∧ qown ci = RX0) := by
  unfold qrak at h ⊢
  split at h
  · exact Or.inl ⟨rfl, rfl⟩
  · exact Or.inr (Or.inl ⟨rfl, rfl⟩)
  · exact Or.inr (Or.inr ⟨rfl, rfl⟩)
  · omega
theorem qarc (t : ArrayType) (h : 100 ≤ qak t) : Cond.arrayClass (qty (qak t)) ∈ qtbl := by
  cases t <;> first | exact qarc_100 | exact qarc_101 | exact qarc_102 | exact qarc_103 | exact absurd h (by decide)
theorem qnfd : ∀ ci, ci < 12 → ∀ k, k < qnf ci → qtyf ci k ≠ .float ∧ qtyf ci k ≠ .double := by decide +kernel
def qlen (m : QMeth) (pc : Nat) (ins : Instr) (len : Nat) : Bool := match ins with
  | .iadd => len == 1 && true
  | .isub => len == 1 && true
  | .imul => len == 1 && true
  | .iand => len == 1 && true
  | .ior => len == 1 && true
  | .ixor => len == 1 && true
  | .ishl => len == 1 && true
  | .ishr => len == 1 && true
  | .iushr => len == 1 && true
  | .ladd => len == 1 && true
  | .lsub => len == 1 && true
  | .lmul => len == 1 && true
  | .land => len == 1 && true
  | .lor => len == 1 && true
  | .lxor => len == 1 && true
  | .lshl => len == 1 && true
  | .lshr => len == 1 && true
  | .lushr => len == 1 && true
  | .idiv => len == 1 && true
  | .irem => len == 1 && true
  | .ldiv => len == 1 && true
  | .lrem => len == 1 && true
  | .ineg => len == 1 && true
  | .i2l => len == 1 && true
  | .l2i => len == 1 && true
  | .i2b => len == 1 && true
  | .i2s => len == 1 && true
  | .i2c => len == 1 && true
  | .iconst n => len == 1 && true
  | .bipush n => len == 2 && decide (-128 ≤ n ∧ n ≤ 127)
  | .sipush n => len == 3 && decide (-32768 ≤ n ∧ n ≤ 32767)
  | .lconst n => len == 1 && true
  | .ldc i => len == 2 && true
  | .ldc_w i => len == 3 && true
  | .ldc2_w i => len == 3 && true
  | .iload i => len == 2 && true
  | .iload_n i => len == 1 && true
  | .lload i => len == 2 && true
  | .lload_n i => len == 1 && true
  | .aload i => len == 2 && true
  | .aload_n i => len == 1 && true
  | .istore i => len == 2 && decide (i < qmL m)
  | .istore_n i => len == 1 && decide (i.val < qmL m)
  | .lstore i => len == 2 && decide (i + 1 < qmL m)
  | .lstore_n i => len == 1 && decide (i.val + 1 < qmL m)
  | .astore i => len == 2 && decide (i < qmL m)
  | .astore_n i => len == 1 && decide (i.val < qmL m)
  | .iinc i n => len == 3 && decide (i < qmL m)
  | .dup => len == 1 && true
  | .dup2 => len == 1 && true
  | .pop => len == 1 && true
  | .pop2 => len == 1 && true
  | .goto off => len == 3 && decide (0 ≤ (pc : Int) + off)
  | .if_icmp c off => len == 3 && decide (0 ≤ (pc : Int) + off)
  | .ifCond c off => len == 3 && decide (0 ≤ (pc : Int) + off)
  | .lcmp => len == 1 && true
  | .tableswitch dflt lo hi offs => (decide (0 ≤ (pc : Int) + dflt) && (decide ((offs.size : Int) = hi - lo + 1) && offs.toList.all (fun of => decide (0 ≤ (pc : Int) + of))))
  | .getfield i => len == 3 && true
  | .getstatic i => len == 3 && true
  | .lookupswitch dflt ps => (decide (0 ≤ (pc : Int) + dflt) && ((ps.toList.zip (ps.toList.drop 1)).all (fun (a, next) => a.1 < next.1) && ps.toList.all (fun of => decide (0 ≤ (pc : Int) + of.2))))
  | .putfield i => len == 3 && true
  | .iaload => len == 1 && true
  | .laload => len == 1 && true
  | .baload => len == 1 && true
  | .aaload => len == 1 && true
  | .iastore => len == 1 && true
  | .lastore => len == 1 && true
  | .bastore => len == 1 && true
  | .aastore => len == 1 && true
  | .arraylength => len == 1 && true
  | .new i => len == 3 && true
  | .newarray t => len == 2 && true
  | .anewarray i => len == 3 && true
  | .invokevirtual i => len == 3 && true
  | .invokestatic i => len == 3 && true
  | .invokespecial i => len == 3 && true
  | .ireturn => len == 1 && true
  | .lreturn => len == 1 && true
  | .return_ => len == 1 && true
  | _ => false
def qmok (m : QMeth) : Prop := ∀ e ∈ qmi m, decode (qmc m) e.1 = .ok e.2 ∧ qlen m e.1 e.2.1 e.2.2 = true
theorem qmok_get {m : QMeth} {pc len : Nat} {ins : Instr} (hm : qmok m) (h : qget (qmi m) pc = some (ins, len)) : decode (qmc m) pc = .ok (ins, len) ∧ qlen m pc ins len = true := by
  obtain ⟨a, b⟩ := hm (pc, ins, len) (qfnd_mem h)
  exact ⟨a, b⟩
theorem qtgt_of {pc : Nat} {off : Int} (h : decide (0 ≤ (pc : Int) + off) = true) : (pc : Int) + off = ((qtgt pc off : Nat) : Int) := by
  have := of_decide_eq_true h
  unfold qtgt
  omega
theorem qsw_at {x : Int} {f : Int → Prop} : ∀ {offs : List Int} {lo off : Int} {j : Nat}, x = lo + j → offs[j]? = some off → qsw x f lo offs → f off := by
  intro offs
  induction offs with
  | nil => intro lo off j _ h; simp at h
  | cons a r ih =>
    intro lo off j hx hj hs
    rw [qsw] at hs
    cases j with
    | zero => simp at hj; subst hj; exact hs.1 (by omega)
    | succ j => exact ih (lo := lo + 1) (j := j) (by omega) (by simpa using hj) hs.2
theorem qswl_at {x dflt : Int} {f : Int → Prop} {dfl : Prop} : ∀ {ps : List (Int × Int)}, qswl x f dfl ps → (Op.lookupswitch.offset ps dflt x = dflt ∧ dfl) ∨ ∃ q, q ∈ ps ∧ Op.lookupswitch.offset ps dflt x = q.2 ∧ f q.2 := by
  intro ps
  induction ps with
  | nil => intro h; exact Or.inl ⟨rfl, h⟩
  | cons a r ih =>
    intro h
    rw [qswl] at h
    rw [Op.lookupswitch.offset_cons]
    by_cases e : x = a.1
    · right
      refine ⟨a, List.mem_cons_self, ?_, h.1 e⟩
      first | rw [if_pos e] | rw [if_pos e.symm]
    · have e2 : ¬ a.1 = x := fun z => e z.symm
      first | rw [if_neg e] | rw [if_neg e2]
      rcases ih (h.2 e) with ⟨h1, h2⟩ | ⟨q, h1, h2, h3⟩
      · exact Or.inl ⟨h1, h2⟩
      · exact Or.inr ⟨q, List.mem_cons_of_mem _ h1, h2, h3⟩
def qstep (X : QX) (d : Nat) (mx : Nat × Nat) (m : QMeth) (post : Int → QH → Prop) (go : QGo) (cs : Nat × Nat) (pc : Nat) (lv : List (Nat × QV)) (st : List QV) (h : QH) : Prop := match qget (qmi m) pc with
  | none => False
  | some (ins, _) => match ins with
    | .iadd => qp2 0 0 st fun b a r => go cs (pc + 1) lv ((0, a + b) :: r) h
    | .isub => qp2 0 0 st fun b a r => go cs (pc + 1) lv ((0, a - b) :: r) h
    | .imul => qp2 0 0 st fun b a r => go cs (pc + 1) lv ((0, a * b) :: r) h
    | .iand => qp2 0 0 st fun b a r => go cs (pc + 1) lv ((0, qand a b) :: r) h
    | .ior => qp2 0 0 st fun b a r => go cs (pc + 1) lv ((0, qor a b) :: r) h
    | .ixor => qp2 0 0 st fun b a r => go cs (pc + 1) lv ((0, qxor a b) :: r) h
    | .ishl => qp2 0 0 st fun b a r => go cs (pc + 1) lv ((0, qshl a b) :: r) h
    | .ishr => qp2 0 0 st fun b a r => go cs (pc + 1) lv ((0, qshr a b) :: r) h
    | .iushr => qp2 0 0 st fun b a r => go cs (pc + 1) lv ((0, qushr a b) :: r) h
    | .ladd => qp2 1 1 st fun b a r => go cs (pc + 1) lv ((1, a + b) :: r) h
    | .lsub => qp2 1 1 st fun b a r => go cs (pc + 1) lv ((1, a - b) :: r) h
    | .lmul => qp2 1 1 st fun b a r => go cs (pc + 1) lv ((1, a * b) :: r) h
    | .land => qp2 1 1 st fun b a r => go cs (pc + 1) lv ((1, qland a b) :: r) h
    | .lor => qp2 1 1 st fun b a r => go cs (pc + 1) lv ((1, qlor a b) :: r) h
    | .lxor => qp2 1 1 st fun b a r => go cs (pc + 1) lv ((1, qlxor a b) :: r) h
    | .lshl => qp2 0 1 st fun b a r => go cs (pc + 1) lv ((1, qlshl a b) :: r) h
    | .lshr => qp2 0 1 st fun b a r => go cs (pc + 1) lv ((1, qlshr a b) :: r) h
    | .lushr => qp2 0 1 st fun b a r => go cs (pc + 1) lv ((1, qlushr a b) :: r) h
    | .idiv => qp2 0 0 st fun b a r => in32 a ∧ in32 b ∧ 0 < b ∧ go cs (pc + 1) lv ((0, a.tdiv b) :: r) h
    | .irem => qp2 0 0 st fun b a r => in32 a ∧ in32 b ∧ 0 < b ∧ go cs (pc + 1) lv ((0, a.tmod b) :: r) h
    | .ldiv => qp2 1 1 st fun b a r => in64 a ∧ in64 b ∧ 0 < b ∧ go cs (pc + 1) lv ((1, a.tdiv b) :: r) h
    | .lrem => qp2 1 1 st fun b a r => in64 a ∧ in64 b ∧ 0 < b ∧ go cs (pc + 1) lv ((1, a.tmod b) :: r) h
    | .ineg => qp1 0 st fun a r => go cs (pc + 1) lv ((0, -a) :: r) h
    | .i2l => qp1 0 st fun a r => in32 a ∧ go cs (pc + 1) lv ((1, a) :: r) h
    | .l2i => qp1 1 st fun a r => go cs (pc + 1) lv ((0, ql2i a) :: r) h
    | .i2b => qp1 0 st fun a r => go cs (pc + 1) lv ((0, qi2b a) :: r) h
    | .i2s => qp1 0 st fun a r => go cs (pc + 1) lv ((0, qi2s a) :: r) h
    | .i2c => qp1 0 st fun a r => go cs (pc + 1) lv ((0, qi2c a) :: r) h
    | .iconst n => go cs (pc + 1) lv ((0, n) :: st) h
    | .bipush n => go cs (pc + 2) lv ((0, n) :: st) h
    | .sipush n => go cs (pc + 3) lv ((0, n) :: st) h
    | .lconst n => go cs (pc + 1) lv ((1, (n.val : Int)) :: st) h
    | .ldc i => (match qfnd (qcit (qmo m)) i with | some e => go cs (pc + 2) lv ((0, e.1) :: st) h | none => (match qfnd (qslk (qmo m)) i with | some e => go cs (pc + 2) lv ((2, -3 - (e.2 : Int)) :: st) h | none => False))
    | .ldc_w i => (match qfnd (qcit (qmo m)) i with | some e => go cs (pc + 3) lv ((0, e.1) :: st) h | none => False)
    | .ldc2_w i => (match qfnd (qclt (qmo m)) i with | some e => go cs (pc + 3) lv ((1, e.1) :: st) h | none => False)
    | .iload i => qpl lv i 0 fun x => go cs (pc + 2) lv ((0, x) :: st) h
    | .iload_n i => qpl lv i.val 0 fun x => go cs (pc + 1) lv ((0, x) :: st) h
    | .lload i => qpl lv i 1 fun x => go cs (pc + 2) lv ((1, x) :: st) h
    | .lload_n i => qpl lv i.val 1 fun x => go cs (pc + 1) lv ((1, x) :: st) h
    | .aload i => qpl lv i 2 fun x => go cs (pc + 2) lv ((2, x) :: st) h
    | .aload_n i => qpl lv i.val 2 fun x => go cs (pc + 1) lv ((2, x) :: st) h
    | .istore i => qp1 0 st fun x r => go cs (pc + 2) (qset lv i (0, x)) r h
    | .istore_n i => qp1 0 st fun x r => go cs (pc + 1) (qset lv i.val (0, x)) r h
    | .lstore i => qp1 1 st fun x r => go cs (pc + 2) (qsetl lv i (1, x)) r h
    | .lstore_n i => qp1 1 st fun x r => go cs (pc + 1) (qsetl lv i.val (1, x)) r h
    | .astore i => qp1 2 st fun x r => go cs (pc + 2) (qset lv i (2, x)) r h
    | .astore_n i => qp1 2 st fun x r => go cs (pc + 1) (qset lv i.val (2, x)) r h
    | .iinc i n => qpl lv i 0 fun x => go cs (pc + 3) (qset lv i (0, x + n)) st h
    | .dup => (match st with | v :: r => (bif v.1 == 1 then False else go cs (pc + 1) lv (v :: v :: r) h) | _ => False)
    | .dup2 => (match st with | v :: r => (bif v.1 == 1 then go cs (pc + 1) lv (v :: v :: r) h else (match r with | w :: r1 => (bif w.1 == 1 then False else go cs (pc + 1) lv (v :: w :: v :: w :: r1) h) | _ => False)) | _ => False)
    | .pop => (match st with | v :: r => (bif v.1 == 1 then False else go cs (pc + 1) lv r h) | _ => False)
    | .pop2 => qp1 1 st fun _ r => go cs (pc + 1) lv r h
    | .goto off => go cs (qtgt pc off) lv st h
    | .if_icmp c off => qp2 0 0 st fun b a r => qbr c a b (go cs (qtgt pc off) lv r h) (go cs (pc + 3) lv r h)
    | .ifCond c off => qp1 0 st fun a r => qbr c a 0 (go cs (qtgt pc off) lv r h) (go cs (pc + 3) lv r h)
    | .lcmp => qp2 1 1 st fun b a r => (match qget (qmi m) (pc + 1) with | some (.ifCond c off, _) => qbrl c a b (go cs (qtgt (pc + 1) off) lv r h) (go cs (pc + 1 + 3) lv r h) | _ => False)
    | .tableswitch dflt lo hi offs => qp1 0 st fun x r => in32 x ∧ qsw x (fun of => go cs (qtgt pc of) lv r h) lo offs.toList ∧ ((x < lo ∨ hi < x) → go cs (qtgt pc dflt) lv r h)
    | .getfield i => (bif qmo m == 16 then (qp1 2 st fun a r => (-19 < a ∧ a ≤ -3) ∧ (bif i == 9 then go cs (pc + 3) lv ((2, a - 100) :: r) h else bif i == 15 then go cs (pc + 3) lv ((0, 0) :: r) h else False)) else match qfnd (qflt (qmo m)) i with | some e => qp1 2 st fun a r => (h.1.2.1 a).1 = e.1 ∧ go cs (pc + 3) lv ((qfk e.1 e.2.1, qval h (qfk e.1 e.2.1) a e.2.1) :: r) h | none => False)
    | .getstatic i => (bif qmo m == 16 then (bif i == 38 then go cs (pc + 3) lv ((0, 1) :: st) h else bif i == 1053 then go cs (pc + 3) lv ((2, qfm X) :: st) h else False) else False)
    | .lookupswitch dflt ps => qp1 0 st fun x r => in32 x ∧ qswl x (fun of => go cs (qtgt pc of) lv r h) (go cs (qtgt pc dflt) lv r h) ps.toList
    | .putfield i => (match qfnd (qflt (qmo m)) i with | some e => qp2 (qfk e.1 e.2.1) 2 st fun x a r => (h.1.2.1 a).1 = e.1 ∧ qfitc (qtyf e.1 e.2.1) x (bif qpok m e.1 e.2.1 then go cs (pc + 3) lv r (qputf h (qfk e.1 e.2.1) a e.2.1 x) else False) | none => False)
    | .iaload => (bif qmo m == 12 then (qp2 0 2 st fun i a r => a = -2 ∧ 0 ≤ i ∧ i < (qxL X : Int) ∧ go cs (pc + 1) lv ((0, (qxs X i.toNat).toInt) :: r) h) else (qp2 0 2 st fun i a r => (h.1.2.1 a).1 = 100 ∧ 0 ≤ i ∧ i < (h.1.2.1 a).2 ∧ go cs (pc + 1) lv ((0, h.2 a i) :: r) h))
    | .laload => qp2 0 2 st fun i a r => (h.1.2.1 a).1 = 101 ∧ 0 ≤ i ∧ i < (h.1.2.1 a).2 ∧ go cs (pc + 1) lv ((1, h.2 a i) :: r) h
    | .baload => (bif qmo m == 17 then (qp2 0 2 st fun i a r => (-119 < a ∧ a ≤ -103) ∧ 0 ≤ i ∧ i < (qsn.getD (-103 - a).toNat 0 : Int) ∧ go cs (pc + 1) lv ((0, ((qsb.getD (-103 - a).toNat []).getD i.toNat 0).toInt) :: r) h) else bif qmo m == 11 then (qp2 0 2 st fun i a r => (h.1.2.1 a).1 = 103 ∧ 0 ≤ i ∧ i < (h.1.2.1 a).2 ∧ go cs (pc + 1) lv ((0, h.2 a i) :: r) h) else (qp2 0 2 st fun i a r => (h.1.2.1 a).1 = 102 ∧ 0 ≤ i ∧ i < (h.1.2.1 a).2 ∧ go cs (pc + 1) lv ((0, h.2 a i) :: r) h))
    | .aaload => qp2 0 2 st fun i a r => (104 ≤ (h.1.2.1 a).1 ∧ (h.1.2.1 a).1 ≤ 106) ∧ 0 ≤ i ∧ i < (h.1.2.1 a).2 ∧ go cs (pc + 1) lv ((2, h.1.2.2 a i) :: r) h
    | .iastore => qp3 0 0 2 st fun x i a r => (h.1.2.1 a).1 = 100 ∧ 0 ≤ i ∧ i < (h.1.2.1 a).2 ∧ go cs (pc + 1) lv r (h.1, qup h.2 a i x)
    | .lastore => qp3 1 0 2 st fun x i a r => (h.1.2.1 a).1 = 101 ∧ 0 ≤ i ∧ i < (h.1.2.1 a).2 ∧ go cs (pc + 1) lv r (h.1, qup h.2 a i x)
    | .bastore => (bif qmo m == 11 then (qp3 0 0 2 st fun x i a r => (x = 0 ∨ x = 1) ∧ (h.1.2.1 a).1 = 103 ∧ 0 ≤ i ∧ i < (h.1.2.1 a).2 ∧ go cs (pc + 1) lv r (h.1, qup h.2 a i x)) else (qp3 0 0 2 st fun x i a r => (h.1.2.1 a).1 = 102 ∧ 0 ≤ i ∧ i < (h.1.2.1 a).2 ∧ go cs (pc + 1) lv r (h.1, qup h.2 a i (qi2b x))))
    | .aastore => qp3 2 0 2 st fun x i a r => (((h.1.2.1 a).1 = 104 ∧ (h.1.2.1 x).1 = 6) ∨ ((h.1.2.1 a).1 = 105 ∧ (h.1.2.1 x).1 = 8) ∨ ((h.1.2.1 a).1 = 106 ∧ (h.1.2.1 x).1 = 0)) ∧ 0 ≤ i ∧ i < (h.1.2.1 a).2 ∧ go cs (pc + 1) lv r ((h.1.1, h.1.2.1, qup h.1.2.2 a i x), h.2)
    | .arraylength => (bif qmo m == 16 || qmo m == 17 then (qp1 2 st fun a r => (-119 < a ∧ a ≤ -103) ∧ go cs (pc + 1) lv ((0, (qsn.getD (-103 - a).toNat 0 : Int)) :: r) h) else bif qmo m == 12 then (qp1 2 st fun a r => a = -2 ∧ go cs (pc + 1) lv ((0, (qxL X : Int)) :: r) h) else (qp1 2 st fun a r => (100 ≤ (h.1.2.1 a).1 ∧ (h.1.2.1 a).1 ≤ 106) ∧ go cs (pc + 1) lv ((0, (h.1.2.1 a).2) :: r) h))
    | .new i => (match qfnd (qnwt (qmo m)) i with | some e => 0 ≤ h.1.1 ∧ (bif Nat.ble (cs.1 + 1) mx.1 && Nat.ble (cs.2 + e.2.1) mx.2 then go (cs.1 + 1, cs.2 + e.2.1) (pc + 3) lv ((2, h.1.1) :: st) (qnew h e.1 e.2.1) else False) | none => False)
    | .newarray t => qp1 0 st fun n r => 0 ≤ n ∧ n ≤ 100000 ∧ 0 ≤ h.1.1 ∧ (bif Nat.ble 100 (qak t) && (Nat.ble (cs.1 + 1) mx.1 && Nat.ble (cs.2 + n.toNat) mx.2) then go (cs.1 + 1, cs.2 + n.toNat) (pc + 2) lv ((2, h.1.1) :: r) (qnew h (qak t) n) else False)
    | .anewarray i => (match qfnd (qnwt (qmo m)) i with | some e => qp1 0 st fun n r => 0 ≤ n ∧ n ≤ 100000 ∧ 0 ≤ h.1.1 ∧ (bif Nat.ble 100 (qrak e.1) && (Nat.ble (cs.1 + 1) mx.1 && Nat.ble (cs.2 + n.toNat) mx.2) then go (cs.1 + 1, cs.2 + n.toNat) (pc + 3) lv ((2, h.1.1) :: r) (qnew h (qrak e.1) n) else False) | none => False)
    | .invokevirtual i => (match qfnd (qmlt (qmo m)) i with | some E => qcall X d mx go cs pc lv st h (qkdOf 0 E.1) E | none => False)
    | .invokestatic i => (match qfnd (qmlt (qmo m)) i with | some E => qcall X d mx go cs pc lv st h (qkdOf 1 E.1) E | none => False)
    | .invokespecial i => (match qfnd (qmlt (qmo m)) i with | some E => qcall X d mx go cs pc lv st h (qkdOf 2 E.1) E | none => False)
    | .ireturn => qp1 0 st fun x r => (match r with | [] => (bif Nat.ble cs.1 mx.1 && Nat.ble cs.2 mx.2 then (match qmr m with | some .int => post x h | some .boolean => (x = 0 ∨ x = 1) ∧ post x h | some .char => (0 ≤ x ∧ x ≤ 65535) ∧ post x h | some .byte => (-128 ≤ x ∧ x ≤ 127) ∧ post x h | _ => False) else False) | _ => False)
    | .lreturn => qp1 1 st fun x r => (match r with | [] => (bif Nat.ble cs.1 mx.1 && Nat.ble cs.2 mx.2 then (match qmr m with | some .long => post x h | _ => False) else False) | _ => False)
    | .return_ => (match st with | [] => (bif Nat.ble cs.1 mx.1 && Nat.ble cs.2 mx.2 then (match qmr m with | none => post 0 h | _ => False) else False) | _ => False)
    | _ => False
section QSound
variable {X : QX} {d : Nat} {mx : Nat × Nat} {m : QMeth} {post : Int → QH → Prop} {go : QGo}
theorem qcall_invokevirtual {cs : Nat × Nat} {pc i : Nat} {lv : List (Nat × QV)} {st : List QV} {h : QH} {E : QME} (hgo : ∀ cs pc lv st h, go cs pc lv st h → QR X d mx m post cs pc lv st h) (he : qfnd (qmlt (qmo m)) i = some E) (hd : decode (qmc m) pc = .ok (.invokevirtual i, 3)) (hq : qcall X d mx go cs pc lv st h (qkdOf 0 E.1) E) : QR X d mx m post cs pc lv st h := by
  have hc := List.all_eq_true.mp (qml_all (qmo m)) _ (qfnd_mem he)
  obtain ⟨kd, y, na, ci, mc, ms, rk, ps⟩ := E
  unfold qcall at hq
  split at hq
  · exact hq.elim
  · rename_i dd
    obtain ⟨hb, hq⟩ := qbif hq
    have hkd : kd = 5 ∨ kd = 0 := by
      have hb : (qkdOf 0 kd == kd) = true := hb
      by_cases z : kd = 5
      · exact Or.inl z
      · right
        have : (kd == 5) = false := by simpa using z
        simp [qkdOf, this] at hb
        exact hb.symm
    rcases hkd with rfl | rfl
    · simp only [qmlc, Bool.and_eq_true] at hc
      obtain ⟨c1, c2, c3, c4, c5, c6⟩ := hc
      have hq : qcallT X dd mx go cs pc lv st h y na mc ms rk := hq
      unfold qcallT at hq
      split at hq
      · rename_i as st1 ht
        obtain ⟨e1, e2⟩ := qtake_of ht
        obtain ⟨a, r, rfl, h1, hq2⟩ := qp1_of hq
        obtain ⟨hb, hq3⟩ := qbif hq2
        simp only [Bool.and_eq_true] at hb
        rw [e1]
        exact qs_invokestr (dd := dd) (ci := ci) ⟨qrow_in c1, qrow_in c2, of_decide_eq_true c3, (fun z => by cases z), (fun z => by cases z), (fun z => by cases z)⟩ ⟨qrow_in c4, qrow_in c5, of_decide_eq_true c6⟩ rfl e2 h1 (by rw [← qwn_eq]; exact Nat.le_of_ble_eq_true hb.1) ⟨Nat.le_of_ble_eq_true hb.2.1, Nat.le_of_ble_eq_true hb.2.2⟩ hd (hq3.mono (fun x h' hz => hgo _ _ _ _ _ hz))
      · exact hq.elim
    · simp only [qmlc, Bool.and_eq_true] at hc
      obtain ⟨c1, c2, c3, c4, c5, c6, c7⟩ := hc
      have hq : qcallV X dd mx go cs pc lv st h y na ci mc ms rk := hq
      unfold qcallV at hq
      split at hq
      · rename_i as st1 ht
        obtain ⟨e1, e2⟩ := qtake_of ht
        obtain ⟨a, r, rfl, h1, hq2⟩ := qp1_of hq
        obtain ⟨hb, hq3⟩ := qbif hq2
        simp only [Bool.and_eq_true] at hb
        rw [e1]
        exact qs_invokevirtual (dd := dd) ⟨qrow_in c1, qrow_in c2, of_decide_eq_true c3, fun _ => ⟨qrow_in c4, qrow_in c5, _, qvw ci (of_decide_eq_true c6), of_decide_eq_true c7⟩, (fun z => by cases z), (fun z => by cases z)⟩ rfl e2 h1 (by rw [← qwn_eq]; exact Nat.le_of_ble_eq_true hb.1) ⟨Nat.le_of_ble_eq_true hb.2.1, Nat.le_of_ble_eq_true hb.2.2⟩ hd (hq3.mono (fun x h' hz => hgo _ _ _ _ _ hz))
      · exact hq.elim
theorem qcall_invokestatic {cs : Nat × Nat} {pc i : Nat} {lv : List (Nat × QV)} {st : List QV} {h : QH} {E : QME} (hgo : ∀ cs pc lv st h, go cs pc lv st h → QR X d mx m post cs pc lv st h) (he : qfnd (qmlt (qmo m)) i = some E) (hd : decode (qmc m) pc = .ok (.invokestatic i, 3)) (hq : qcall X d mx go cs pc lv st h (qkdOf 1 E.1) E) : QR X d mx m post cs pc lv st h := by
  have hc := List.all_eq_true.mp (qml_all (qmo m)) _ (qfnd_mem he)
  obtain ⟨kd, y, na, ci, mc, ms, rk, ps⟩ := E
  unfold qcall at hq
  split at hq
  · exact hq.elim
  · rename_i dd
    obtain ⟨hb, hq⟩ := qbif hq
    have hkd : kd = 4 ∨ kd = 1 := by
      have hb : (qkdOf 1 kd == kd) = true := hb
      by_cases z : kd = 4
      · exact Or.inl z
      · right
        have : (kd == 4) = false := by simpa using z
        simp [qkdOf, this] at hb
        exact hb.symm
    rcases hkd with rfl | rfl
    · simp only [qmlc, Bool.and_eq_true] at hc
      obtain ⟨c1, c2⟩ := hc
      have c2 := of_decide_eq_true c2
      subst c2
      have hq : qcallA go cs pc lv st h := hq
      unfold qcallA at hq
      obtain ⟨n, dp, a, r1, rfl, hq2⟩ := qp3_of hq
      obtain ⟨sp, b, r, rfl, h1, h2, h3, h4, h5, h6, h7, hq3⟩ := qp2_of hq2
      obtain ⟨hb, hq4⟩ := qbif hq3
      exact qs_arraycopy (qrow_in c1) qacp.1 qacp.2.1 qacp.2.2 h1 h2 h3 h4 h5 h6 h7 (by omega) (by rw [← qwn_eq]; exact Nat.le_of_ble_eq_true hb) hd (hgo _ _ _ _ _ hq4)
    · simp only [qmlc, Bool.and_eq_true] at hc
      obtain ⟨c1, c2, c3, c4⟩ := hc
      have hq : qcallS X dd mx go cs pc lv st h y na mc ms rk := hq
      unfold qcallS at hq
      split at hq
      · rename_i as r ht
        obtain ⟨e1, e2⟩ := qtake_of ht
        obtain ⟨hb, hq⟩ := qbif hq
        simp only [Bool.and_eq_true] at hb
        rw [e1]
        exact qs_invokestatic (dd := dd) (ci := ci) ⟨qrow_in c1, qrow_in c2, of_decide_eq_true c3, (fun z => by cases z), fun _ => qrow_in c4, (fun z => by cases z)⟩ rfl e2 (by rw [← qwn_eq]; exact Nat.le_of_ble_eq_true hb.1) ⟨Nat.le_of_ble_eq_true hb.2.1, Nat.le_of_ble_eq_true hb.2.2⟩ hd (hq.mono (fun x h' hz => hgo _ _ _ _ _ hz))
      · exact hq.elim
theorem qcall_invokespecial {cs : Nat × Nat} {pc i : Nat} {lv : List (Nat × QV)} {st : List QV} {h : QH} {E : QME} (hgo : ∀ cs pc lv st h, go cs pc lv st h → QR X d mx m post cs pc lv st h) (he : qfnd (qmlt (qmo m)) i = some E) (hd : decode (qmc m) pc = .ok (.invokespecial i, 3)) (hq : qcall X d mx go cs pc lv st h (qkdOf 2 E.1) E) : QR X d mx m post cs pc lv st h := by
  have hc := List.all_eq_true.mp (qml_all (qmo m)) _ (qfnd_mem he)
  obtain ⟨kd, y, na, ci, mc, ms, rk, ps⟩ := E
  unfold qcall at hq
  split at hq
  · exact hq.elim
  · rename_i dd
    obtain ⟨hb, hq⟩ := qbif hq
    have hkd : kd = 3 ∨ kd = 2 := by
      have hb : (qkdOf 2 kd == kd) = true := hb
      by_cases z : kd = 3
      · exact Or.inl z
      · right
        have : (kd == 3) = false := by simpa using z
        simp [qkdOf, this] at hb
        exact hb.symm
    rcases hkd with rfl | rfl
    · simp only [qmlc, Bool.and_eq_true] at hc
      obtain ⟨c1, c2⟩ := hc
      have c2 := of_decide_eq_true c2
      subst c2
      have hq : qcallO go cs pc lv st h := hq
      unfold qcallO at hq
      obtain ⟨a, r, rfl, h1, hq2⟩ := qp1_of hq
      obtain ⟨hb, hq3⟩ := qbif hq2
      exact qs_objinit (qrow_in c1) qobj.1 qobj.2 (by omega) h1 (by rw [← qwn_eq]; exact Nat.le_of_ble_eq_true hb) hd (hgo _ _ _ _ _ hq3)
    · simp only [qmlc, Bool.and_eq_true] at hc
      obtain ⟨c1, c2, c3, c4, c5⟩ := hc
      have hq : qcallI X dd mx go cs pc lv st h y na mc ms := hq
      unfold qcallI at hq
      split at hq
      · rename_i as st1 ht
        obtain ⟨e1, e2⟩ := qtake_of ht
        obtain ⟨a, r, rfl, h1, hq2⟩ := qp1_of hq
        obtain ⟨hb, hq3⟩ := qbif hq2
        simp only [Bool.and_eq_true] at hb
        rw [e1]
        exact qs_invokeinit (dd := dd) (ci := ci) ⟨qrow_in c1, qrow_in c2, of_decide_eq_true c3, (fun z => by cases z), (fun z => by cases z), fun _ => ⟨of_decide_eq_true c5, qrow_in c4⟩⟩ rfl e2 h1 (by rw [← qwn_eq]; exact Nat.le_of_ble_eq_true hb.1) ⟨Nat.le_of_ble_eq_true hb.2.1, Nat.le_of_ble_eq_true hb.2.2⟩ hd (hq3.mono (fun x h' hz => hgo _ _ _ _ _ hz))
      · exact hq.elim
set_option maxHeartbeats 4000000 in
theorem qstep_ok (hm : qmok m) (hgo : ∀ cs pc lv st h, go cs pc lv st h → QR X d mx m post cs pc lv st h) {cs : Nat × Nat} {pc : Nat} {lv : List (Nat × QV)} {st : List QV} {h : QH} (hq : qstep X d mx m post go cs pc lv st h) : QR X d mx m post cs pc lv st h := by
  unfold qstep at hq
  split at hq
  · exact hq.elim
  rename_i ins len hg
  obtain ⟨hd, hk⟩ := qmok_get hm hg
  split at hq
  · skip
    rw [qlen, Bool.and_eq_true] at hk
    obtain ⟨hk0, hk⟩ := hk
    rw [show len = 1 by simpa using hk0] at hd
    obtain ⟨b, a, r, rfl, hq'⟩ := qp2_of hq; exact qs_iadd hd (hgo _ _ _ _ _ hq')
  · skip
    rw [qlen, Bool.and_eq_true] at hk
    obtain ⟨hk0, hk⟩ := hk
    rw [show len = 1 by simpa using hk0] at hd
    obtain ⟨b, a, r, rfl, hq'⟩ := qp2_of hq; exact qs_isub hd (hgo _ _ _ _ _ hq')
  · skip
    rw [qlen, Bool.and_eq_true] at hk
    obtain ⟨hk0, hk⟩ := hk
    rw [show len = 1 by simpa using hk0] at hd
    obtain ⟨b, a, r, rfl, hq'⟩ := qp2_of hq; exact qs_imul hd (hgo _ _ _ _ _ hq')
  · skip
    rw [qlen, Bool.and_eq_true] at hk
    obtain ⟨hk0, hk⟩ := hk
    rw [show len = 1 by simpa using hk0] at hd
    obtain ⟨b, a, r, rfl, hq'⟩ := qp2_of hq; exact qs_iand hd (hgo _ _ _ _ _ hq')
  · skip
    rw [qlen, Bool.and_eq_true] at hk
    obtain ⟨hk0, hk⟩ := hk
    rw [show len = 1 by simpa using hk0] at hd
    obtain ⟨b, a, r, rfl, hq'⟩ := qp2_of hq; exact qs_ior hd (hgo _ _ _ _ _ hq')
  · skip
    rw [qlen, Bool.and_eq_true] at hk
    obtain ⟨hk0, hk⟩ := hk
    rw [show len = 1 by simpa using hk0] at hd
    obtain ⟨b, a, r, rfl, hq'⟩ := qp2_of hq; exact qs_ixor hd (hgo _ _ _ _ _ hq')
  · skip
    rw [qlen, Bool.and_eq_true] at hk
    obtain ⟨hk0, hk⟩ := hk
    rw [show len = 1 by simpa using hk0] at hd
    obtain ⟨b, a, r, rfl, hq'⟩ := qp2_of hq; exact qs_ishl hd (hgo _ _ _ _ _ hq')
  · skip
    rw [qlen, Bool.and_eq_true] at hk
    obtain ⟨hk0, hk⟩ := hk
    rw [show len = 1 by simpa using hk0] at hd
    obtain ⟨b, a, r, rfl, hq'⟩ := qp2_of hq; exact qs_ishr hd (hgo _ _ _ _ _ hq')
  · skip
    rw [qlen, Bool.and_eq_true] at hk
    obtain ⟨hk0, hk⟩ := hk
    rw [show len = 1 by simpa using hk0] at hd
    obtain ⟨b, a, r, rfl, hq'⟩ := qp2_of hq; exact qs_iushr hd (hgo _ _ _ _ _ hq')
  · skip
    rw [qlen, Bool.and_eq_true] at hk
    obtain ⟨hk0, hk⟩ := hk
    rw [show len = 1 by simpa using hk0] at hd
    obtain ⟨b, a, r, rfl, hq'⟩ := qp2_of hq; exact qs_ladd hd (hgo _ _ _ _ _ hq')
  · skip
    rw [qlen, Bool.and_eq_true] at hk
    obtain ⟨hk0, hk⟩ := hk
    rw [show len = 1 by simpa using hk0] at hd
    obtain ⟨b, a, r, rfl, hq'⟩ := qp2_of hq; exact qs_lsub hd (hgo _ _ _ _ _ hq')
  · skip
    rw [qlen, Bool.and_eq_true] at hk
    obtain ⟨hk0, hk⟩ := hk
    rw [show len = 1 by simpa using hk0] at hd
    obtain ⟨b, a, r, rfl, hq'⟩ := qp2_of hq; exact qs_lmul hd (hgo _ _ _ _ _ hq')
  · skip
    rw [qlen, Bool.and_eq_true] at hk
    obtain ⟨hk0, hk⟩ := hk
    rw [show len = 1 by simpa using hk0] at hd
    obtain ⟨b, a, r, rfl, hq'⟩ := qp2_of hq; exact qs_land hd (hgo _ _ _ _ _ hq')
  · skip
    rw [qlen, Bool.and_eq_true] at hk
    obtain ⟨hk0, hk⟩ := hk
    rw [show len = 1 by simpa using hk0] at hd
    obtain ⟨b, a, r, rfl, hq'⟩ := qp2_of hq; exact qs_lor hd (hgo _ _ _ _ _ hq')
  · skip
    rw [qlen, Bool.and_eq_true] at hk
    obtain ⟨hk0, hk⟩ := hk
    rw [show len = 1 by simpa using hk0] at hd
    obtain ⟨b, a, r, rfl, hq'⟩ := qp2_of hq; exact qs_lxor hd (hgo _ _ _ _ _ hq')
  · skip
    rw [qlen, Bool.and_eq_true] at hk
    obtain ⟨hk0, hk⟩ := hk
    rw [show len = 1 by simpa using hk0] at hd
    obtain ⟨b, a, r, rfl, hq'⟩ := qp2_of hq; exact qs_lshl hd (hgo _ _ _ _ _ hq')
  · skip
    rw [qlen, Bool.and_eq_true] at hk
    obtain ⟨hk0, hk⟩ := hk
    rw [show len = 1 by simpa using hk0] at hd
    obtain ⟨b, a, r, rfl, hq'⟩ := qp2_of hq; exact qs_lshr hd (hgo _ _ _ _ _ hq')
  · skip
    rw [qlen, Bool.and_eq_true] at hk
    obtain ⟨hk0, hk⟩ := hk
    rw [show len = 1 by simpa using hk0] at hd
    obtain ⟨b, a, r, rfl, hq'⟩ := qp2_of hq; exact qs_lushr hd (hgo _ _ _ _ _ hq')
  · skip
    rw [qlen, Bool.and_eq_true] at hk
    obtain ⟨hk0, hk⟩ := hk
    rw [show len = 1 by simpa using hk0] at hd
    obtain ⟨b, a, r, rfl, h1, h2, h3, hq'⟩ := qp2_of hq; exact qs_idiv h1 h2 h3 hd (hgo _ _ _ _ _ hq')
  · skip
    rw [qlen, Bool.and_eq_true] at hk
    obtain ⟨hk0, hk⟩ := hk
    rw [show len = 1 by simpa using hk0] at hd
    obtain ⟨b, a, r, rfl, h1, h2, h3, hq'⟩ := qp2_of hq; exact qs_irem h1 h2 h3 hd (hgo _ _ _ _ _ hq')
  · skip
    rw [qlen, Bool.and_eq_true] at hk
    obtain ⟨hk0, hk⟩ := hk
    rw [show len = 1 by simpa using hk0] at hd
    obtain ⟨b, a, r, rfl, h1, h2, h3, hq'⟩ := qp2_of hq; exact qs_ldiv h1 h2 h3 hd (hgo _ _ _ _ _ hq')
  · skip
    rw [qlen, Bool.and_eq_true] at hk
    obtain ⟨hk0, hk⟩ := hk
    rw [show len = 1 by simpa using hk0] at hd
    obtain ⟨b, a, r, rfl, h1, h2, h3, hq'⟩ := qp2_of hq; exact qs_lrem h1 h2 h3 hd (hgo _ _ _ _ _ hq')
  · skip
    rw [qlen, Bool.and_eq_true] at hk
    obtain ⟨hk0, hk⟩ := hk
    rw [show len = 1 by simpa using hk0] at hd
    obtain ⟨a, r, rfl, hq'⟩ := qp1_of hq; exact qs_ineg hd (hgo _ _ _ _ _ hq')
  · skip
    rw [qlen, Bool.and_eq_true] at hk
    obtain ⟨hk0, hk⟩ := hk
    rw [show len = 1 by simpa using hk0] at hd
    obtain ⟨a, r, rfl, h1, hq'⟩ := qp1_of hq; exact qs_i2l h1 hd (hgo _ _ _ _ _ hq')
  · skip
    rw [qlen, Bool.and_eq_true] at hk
    obtain ⟨hk0, hk⟩ := hk
    rw [show len = 1 by simpa using hk0] at hd
    obtain ⟨a, r, rfl, hq'⟩ := qp1_of hq; exact qs_l2i hd (hgo _ _ _ _ _ hq')
  · skip
    rw [qlen, Bool.and_eq_true] at hk
    obtain ⟨hk0, hk⟩ := hk
    rw [show len = 1 by simpa using hk0] at hd
    obtain ⟨a, r, rfl, hq'⟩ := qp1_of hq; exact qs_i2b hd (hgo _ _ _ _ _ hq')
  · skip
    rw [qlen, Bool.and_eq_true] at hk
    obtain ⟨hk0, hk⟩ := hk
    rw [show len = 1 by simpa using hk0] at hd
    obtain ⟨a, r, rfl, hq'⟩ := qp1_of hq; exact qs_i2s hd (hgo _ _ _ _ _ hq')
  · skip
    rw [qlen, Bool.and_eq_true] at hk
    obtain ⟨hk0, hk⟩ := hk
    rw [show len = 1 by simpa using hk0] at hd
    obtain ⟨a, r, rfl, hq'⟩ := qp1_of hq; exact qs_i2c hd (hgo _ _ _ _ _ hq')
  · rename_i n
    rw [qlen, Bool.and_eq_true] at hk
    obtain ⟨hk0, hk⟩ := hk
    rw [show len = 1 by simpa using hk0] at hd
    exact qs_iconst hd (hgo _ _ _ _ _ hq)
  · rename_i n
    rw [qlen, Bool.and_eq_true] at hk
    obtain ⟨hk0, hk⟩ := hk
    rw [show len = 2 by simpa using hk0] at hd
    exact qs_bipush (of_decide_eq_true hk) hd (hgo _ _ _ _ _ hq)
  · rename_i n
    rw [qlen, Bool.and_eq_true] at hk
    obtain ⟨hk0, hk⟩ := hk
    rw [show len = 3 by simpa using hk0] at hd
    exact qs_sipush (of_decide_eq_true hk) hd (hgo _ _ _ _ _ hq)
  · rename_i n
    rw [qlen, Bool.and_eq_true] at hk
    obtain ⟨hk0, hk⟩ := hk
    rw [show len = 1 by simpa using hk0] at hd
    exact qs_lconst hd (hgo _ _ _ _ _ hq)
  · rename_i i
    rw [qlen, Bool.and_eq_true] at hk
    obtain ⟨hk0, hk⟩ := hk
    rw [show len = 2 by simpa using hk0] at hd
    split at hq
    · rename_i e he
      have hc := List.all_eq_true.mp (qci_all (qmo m)) _ (qfnd_mem he)
      rw [qcic, Bool.and_eq_true] at hc
      exact qs_ldc (v := Int32.ofInt e.1) (qrow_in hc.2) hd (k := by rw [q32 (show in32 e.1 from by have h9 := of_decide_eq_true hc.1; exact h9)]; exact hgo _ _ _ _ _ hq)
    · split at hq
      · rename_i e he
        exact qs_ldcS (e := (i, e.1, e.2)) (qslk_ok _ _ (qfnd_mem he)) hd (hgo _ _ _ _ _ hq)
      · exact hq.elim
  · rename_i i
    rw [qlen, Bool.and_eq_true] at hk
    obtain ⟨hk0, hk⟩ := hk
    rw [show len = 3 by simpa using hk0] at hd
    split at hq
    · rename_i e he
      have hc := List.all_eq_true.mp (qci_all (qmo m)) _ (qfnd_mem he)
      rw [qcic, Bool.and_eq_true] at hc
      have := qs_ldcw (v := Int32.ofInt e.1) (qrow_in hc.2) hd (k := by rw [q32 (show in32 e.1 from by have h9 := of_decide_eq_true hc.1; exact h9)]; exact hgo _ _ _ _ _ hq)
      exact this
    · exact hq.elim
  · rename_i i
    rw [qlen, Bool.and_eq_true] at hk
    obtain ⟨hk0, hk⟩ := hk
    rw [show len = 3 by simpa using hk0] at hd
    split at hq
    · rename_i e he
      have hc := List.all_eq_true.mp (qcl_all (qmo m)) _ (qfnd_mem he)
      rw [qclc, Bool.and_eq_true] at hc
      exact qs_ldc2 (v := Int64.ofInt e.1) (qrow_in hc.2) hd (k := by rw [q64 (show in64 e.1 from by have h9 := of_decide_eq_true hc.1; exact h9)]; exact hgo _ _ _ _ _ hq)
    · exact hq.elim
  · rename_i i
    rw [qlen, Bool.and_eq_true] at hk
    obtain ⟨hk0, hk⟩ := hk
    rw [show len = 2 by simpa using hk0] at hd
    obtain ⟨x, h1, hq⟩ := qpl_of hq; exact qs_iload h1 hd (hgo _ _ _ _ _ hq)
  · rename_i i
    rw [qlen, Bool.and_eq_true] at hk
    obtain ⟨hk0, hk⟩ := hk
    rw [show len = 1 by simpa using hk0] at hd
    obtain ⟨x, h1, hq⟩ := qpl_of hq; exact qs_iload_n h1 hd (hgo _ _ _ _ _ hq)
  · rename_i i
    rw [qlen, Bool.and_eq_true] at hk
    obtain ⟨hk0, hk⟩ := hk
    rw [show len = 2 by simpa using hk0] at hd
    obtain ⟨x, h1, hq⟩ := qpl_of hq; exact qs_lload h1 hd (hgo _ _ _ _ _ hq)
  · rename_i i
    rw [qlen, Bool.and_eq_true] at hk
    obtain ⟨hk0, hk⟩ := hk
    rw [show len = 1 by simpa using hk0] at hd
    obtain ⟨x, h1, hq⟩ := qpl_of hq; exact qs_lload_n h1 hd (hgo _ _ _ _ _ hq)
  · rename_i i
    rw [qlen, Bool.and_eq_true] at hk
    obtain ⟨hk0, hk⟩ := hk
    rw [show len = 2 by simpa using hk0] at hd
    obtain ⟨x, h1, hq⟩ := qpl_of hq; exact qs_aload h1 hd (hgo _ _ _ _ _ hq)
  · rename_i i
    rw [qlen, Bool.and_eq_true] at hk
    obtain ⟨hk0, hk⟩ := hk
    rw [show len = 1 by simpa using hk0] at hd
    obtain ⟨x, h1, hq⟩ := qpl_of hq; exact qs_aload_n h1 hd (hgo _ _ _ _ _ hq)
  · rename_i i
    rw [qlen, Bool.and_eq_true] at hk
    obtain ⟨hk0, hk⟩ := hk
    rw [show len = 2 by simpa using hk0] at hd
    obtain ⟨x, r, rfl, hq'⟩ := qp1_of hq; exact qs_istore (of_decide_eq_true hk) hd (hgo _ _ _ _ _ hq')
  · rename_i i
    rw [qlen, Bool.and_eq_true] at hk
    obtain ⟨hk0, hk⟩ := hk
    rw [show len = 1 by simpa using hk0] at hd
    obtain ⟨x, r, rfl, hq'⟩ := qp1_of hq; exact qs_istore_n (of_decide_eq_true hk) hd (hgo _ _ _ _ _ hq')
  · rename_i i
    rw [qlen, Bool.and_eq_true] at hk
    obtain ⟨hk0, hk⟩ := hk
    rw [show len = 2 by simpa using hk0] at hd
    obtain ⟨x, r, rfl, hq'⟩ := qp1_of hq; exact qs_lstore (of_decide_eq_true hk) hd (hgo _ _ _ _ _ hq')
  · rename_i i
    rw [qlen, Bool.and_eq_true] at hk
    obtain ⟨hk0, hk⟩ := hk
    rw [show len = 1 by simpa using hk0] at hd
    obtain ⟨x, r, rfl, hq'⟩ := qp1_of hq; exact qs_lstore_n (of_decide_eq_true hk) hd (hgo _ _ _ _ _ hq')
  · rename_i i
    rw [qlen, Bool.and_eq_true] at hk
    obtain ⟨hk0, hk⟩ := hk
    rw [show len = 2 by simpa using hk0] at hd
    obtain ⟨x, r, rfl, hq'⟩ := qp1_of hq; exact qs_astore (of_decide_eq_true hk) hd (hgo _ _ _ _ _ hq')
  · rename_i i
    rw [qlen, Bool.and_eq_true] at hk
    obtain ⟨hk0, hk⟩ := hk
    rw [show len = 1 by simpa using hk0] at hd
    obtain ⟨x, r, rfl, hq'⟩ := qp1_of hq; exact qs_astore_n (of_decide_eq_true hk) hd (hgo _ _ _ _ _ hq')
  · rename_i i n
    rw [qlen, Bool.and_eq_true] at hk
    obtain ⟨hk0, hk⟩ := hk
    rw [show len = 3 by simpa using hk0] at hd
    obtain ⟨x, h1, hq⟩ := qpl_of hq; exact qs_iinc (of_decide_eq_true hk) h1 hd (hgo _ _ _ _ _ hq)
  · skip
    rw [qlen, Bool.and_eq_true] at hk
    obtain ⟨hk0, hk⟩ := hk
    rw [show len = 1 by simpa using hk0] at hd
    split at hq
    · rename_i v r
      by_cases e : v.1 = 1
      · rw [show (v.1 == 1) = true by simpa using e] at hq; exact hq.elim
      · rw [show (v.1 == 1) = false by simpa using e] at hq; exact qs_dup e hd (hgo _ _ _ _ _ hq)
    · exact hq.elim
  · skip
    rw [qlen, Bool.and_eq_true] at hk
    obtain ⟨hk0, hk⟩ := hk
    rw [show len = 1 by simpa using hk0] at hd
    split at hq
    · rename_i v r
      by_cases e : v.1 = 1
      · rw [show (v.1 == 1) = true by simpa using e] at hq
        obtain ⟨v1, v2⟩ := v
        cases e
        exact qs_dup2_2 hd (hgo _ _ _ _ _ hq)
      · rw [show (v.1 == 1) = false by simpa using e, cond_false] at hq
        split at hq
        · rename_i w r1
          by_cases e2 : w.1 = 1
          · rw [show (w.1 == 1) = true by simpa using e2] at hq; exact hq.elim
          · rw [show (w.1 == 1) = false by simpa using e2] at hq; exact qs_dup2_11 e e2 hd (hgo _ _ _ _ _ hq)
        · exact hq.elim
    · exact hq.elim
  · skip
    rw [qlen, Bool.and_eq_true] at hk
    obtain ⟨hk0, hk⟩ := hk
    rw [show len = 1 by simpa using hk0] at hd
    split at hq
    · rename_i v r
      by_cases e : v.1 = 1
      · rw [show (v.1 == 1) = true by simpa using e] at hq; exact hq.elim
      · rw [show (v.1 == 1) = false by simpa using e] at hq; exact qs_pop e hd (hgo _ _ _ _ _ hq)
    · exact hq.elim
  · skip
    rw [qlen, Bool.and_eq_true] at hk
    obtain ⟨hk0, hk⟩ := hk
    rw [show len = 1 by simpa using hk0] at hd
    obtain ⟨x, r, rfl, hq'⟩ := qp1_of hq; exact qs_pop2_2 hd (hgo _ _ _ _ _ hq')
  · rename_i off
    rw [qlen, Bool.and_eq_true] at hk
    obtain ⟨hk0, hk⟩ := hk
    rw [show len = 3 by simpa using hk0] at hd
    exact qs_goto (qtgt_of hk) hd (hgo _ _ _ _ _ hq)
  · rename_i c off
    rw [qlen, Bool.and_eq_true] at hk
    obtain ⟨hk0, hk⟩ := hk
    rw [show len = 3 by simpa using hk0] at hd
    obtain ⟨b, a, r, rfl, hq'⟩ := qp2_of hq
    have ht := qtgt_of hk
    cases c with
    | eq => exact qs_icmp_eq (fun z => ⟨(hq'.2 z).1, (hq'.2 z).2.1⟩) ht hd (fun z => hgo _ _ _ _ _ (hq'.1 z)) (fun z => hgo _ _ _ _ _ (hq'.2 z).2.2)
    | ne => exact qs_icmp_ne (fun z => ⟨(hq'.1 z).1, (hq'.1 z).2.1⟩) ht hd (fun z => hgo _ _ _ _ _ (hq'.2 z)) (fun z => hgo _ _ _ _ _ (hq'.1 z).2.2)
    | lt => exact qs_icmp_lt hq'.1 hq'.2.1 ht hd (fun z => hgo _ _ _ _ _ (hq'.2.2.1 z)) (fun z => hgo _ _ _ _ _ (hq'.2.2.2 z))
    | ge => exact qs_icmp_ge hq'.1 hq'.2.1 ht hd (fun z => hgo _ _ _ _ _ (hq'.2.2.1 z)) (fun z => hgo _ _ _ _ _ (hq'.2.2.2 z))
    | gt => exact qs_icmp_gt hq'.1 hq'.2.1 ht hd (fun z => hgo _ _ _ _ _ (hq'.2.2.1 z)) (fun z => hgo _ _ _ _ _ (hq'.2.2.2 z))
    | le => exact qs_icmp_le hq'.1 hq'.2.1 ht hd (fun z => hgo _ _ _ _ _ (hq'.2.2.1 z)) (fun z => hgo _ _ _ _ _ (hq'.2.2.2 z))
  · rename_i c off
    rw [qlen, Bool.and_eq_true] at hk
    obtain ⟨hk0, hk⟩ := hk
    rw [show len = 3 by simpa using hk0] at hd
    obtain ⟨a, r, rfl, hq'⟩ := qp1_of hq
    have ht := qtgt_of hk
    cases c with
    | eq => exact qs_if_eq (fun z => ⟨(hq'.2 z).1, (hq'.2 z).2.1⟩) ht hd (fun z => hgo _ _ _ _ _ (hq'.1 z)) (fun z => hgo _ _ _ _ _ (hq'.2 z).2.2)
    | ne => exact qs_if_ne (fun z => ⟨(hq'.1 z).1, (hq'.1 z).2.1⟩) ht hd (fun z => hgo _ _ _ _ _ (hq'.2 z)) (fun z => hgo _ _ _ _ _ (hq'.1 z).2.2)
    | lt => exact qs_if_lt hq'.1 ht hd (fun z => hgo _ _ _ _ _ (hq'.2.2.1 z)) (fun z => hgo _ _ _ _ _ (hq'.2.2.2 z))
    | ge => exact qs_if_ge hq'.1 ht hd (fun z => hgo _ _ _ _ _ (hq'.2.2.1 z)) (fun z => hgo _ _ _ _ _ (hq'.2.2.2 z))
    | gt => exact qs_if_gt hq'.1 ht hd (fun z => hgo _ _ _ _ _ (hq'.2.2.1 z)) (fun z => hgo _ _ _ _ _ (hq'.2.2.2 z))
    | le => exact qs_if_le hq'.1 ht hd (fun z => hgo _ _ _ _ _ (hq'.2.2.1 z)) (fun z => hgo _ _ _ _ _ (hq'.2.2.2 z))
  · skip
    rw [qlen, Bool.and_eq_true] at hk
    obtain ⟨hk0, hk⟩ := hk
    rw [show len = 1 by simpa using hk0] at hd
    obtain ⟨b, a, r, rfl, hq'⟩ := qp2_of hq
    split at hq'
    · rename_i c off len2 hg2
      obtain ⟨hd2, hk2⟩ := qmok_get hm hg2
      rw [qlen, Bool.and_eq_true] at hk2
      rw [show len2 = 3 by simpa using hk2.1] at hd2
      have ht := qtgt_of hk2.2
      have one : in32 1 := ⟨by decide, by decide⟩
      have neg : in32 (-1) := ⟨by decide, by decide⟩
      have zer : in32 0 := ⟨by decide, by decide⟩
      have key : ∀ (ha : in64 a) (hb : in64 b), in32 (if b < a then 1 else if a = b then 0 else -1) := fun _ _ => by
        split
        · exact one
        · split
          · exact zer
          · exact neg
      cases c with
      | eq =>
        by_cases z : a = b
        · subst z; exact qs_lcmp_same hd (qs_if_eq (fun w => absurd rfl w) ht hd2 (fun _ => hgo _ _ _ _ _ (hq'.1 rfl)) (fun w => absurd rfl w))
        · obtain ⟨ha, hb, hq'⟩ := hq'.2 z
          exact qs_lcmp ha hb hd (qs_if_eq (fun _ => ⟨key ha hb, zer⟩) ht hd2 (fun w => by (repeat' split at w) <;> omega) (fun _ => hgo _ _ _ _ _ hq'))
      | ne =>
        by_cases z : a = b
        · subst z; exact qs_lcmp_same hd (qs_if_ne (fun w => absurd rfl w) ht hd2 (fun _ => hgo _ _ _ _ _ (hq'.2 rfl)) (fun w => absurd rfl w))
        · obtain ⟨ha, hb, hq'⟩ := hq'.1 z
          exact qs_lcmp ha hb hd (qs_if_ne (fun _ => ⟨key ha hb, zer⟩) ht hd2 (fun w => by (repeat' split at w) <;> omega) (fun _ => hgo _ _ _ _ _ hq'))
      | lt => exact qs_lcmp hq'.1 hq'.2.1 hd (qs_if_lt (key hq'.1 hq'.2.1) ht hd2 (fun w => hgo _ _ _ _ _ (hq'.2.2.1 (by (repeat' split at w) <;> omega))) (fun w => hgo _ _ _ _ _ (hq'.2.2.2 (by (repeat' split at w) <;> omega))))
      | ge => exact qs_lcmp hq'.1 hq'.2.1 hd (qs_if_ge (key hq'.1 hq'.2.1) ht hd2 (fun w => hgo _ _ _ _ _ (hq'.2.2.1 (by (repeat' split at w) <;> omega))) (fun w => hgo _ _ _ _ _ (hq'.2.2.2 (by (repeat' split at w) <;> omega))))
      | gt => exact qs_lcmp hq'.1 hq'.2.1 hd (qs_if_gt (key hq'.1 hq'.2.1) ht hd2 (fun w => hgo _ _ _ _ _ (hq'.2.2.1 (by (repeat' split at w) <;> omega))) (fun w => hgo _ _ _ _ _ (hq'.2.2.2 (by (repeat' split at w) <;> omega))))
      | le => exact qs_lcmp hq'.1 hq'.2.1 hd (qs_if_le (key hq'.1 hq'.2.1) ht hd2 (fun w => hgo _ _ _ _ _ (hq'.2.2.1 (by (repeat' split at w) <;> omega))) (fun w => hgo _ _ _ _ _ (hq'.2.2.2 (by (repeat' split at w) <;> omega))))
    · exact hq'.elim
  · rename_i dflt lo hi offs
    rw [qlen] at hk
    obtain ⟨x, r, rfl, hx, h1, h2⟩ := qp1_of hq
    rw [Bool.and_eq_true, Bool.and_eq_true] at hk
    obtain ⟨hk1, hk2, hk3⟩ := hk
    by_cases hc : x < lo ∨ hi < x
    · exact qs_tableOut hx hc (qtgt_of hk1) hd (hgo _ _ _ _ _ (h2 hc))
    · have hlt : (x - lo).toNat < offs.toList.length := by
        have := of_decide_eq_true hk2
        simp only [Array.length_toList]
        omega
      obtain ⟨off, hoff⟩ : ∃ off, offs.toList[(x - lo).toNat]? = some off := ⟨_, List.getElem?_eq_getElem hlt⟩
      have hq' := qsw_at (j := (x - lo).toNat) (by omega) hoff h1
      have hin : decide (0 ≤ (pc : Int) + off) = true := List.all_eq_true.mp hk3 off (List.mem_of_getElem? hoff)
      exact qs_tableIn hx (by omega) (by omega) (by rw [← Array.getElem?_toList]; exact hoff) (qtgt_of hin) hd (hgo _ _ _ _ _ hq')
  · rename_i i
    rw [qlen, Bool.and_eq_true] at hk
    obtain ⟨hk0, hk⟩ := hk
    rw [show len = 3 by simpa using hk0] at hd
    by_cases e16 : qmo m = 16
    · rw [show (qmo m == 16) = true by simpa using e16, cond_true] at hq
      obtain ⟨a, r, rfl, hs, hq'⟩ := qp1_of hq
      by_cases e9 : i = 9
      · subst e9; exact qs_strval e16 hs qsf9 hd (hgo _ _ _ _ _ hq')
      · rw [show (i == 9) = false by simpa using e9, cond_false] at hq'
        by_cases e15 : i = 15
        · subst e15; exact qs_strcod e16 hs qsf15 hd (hgo _ _ _ _ _ hq')
        · rw [show (i == 15) = false by simpa using e15, cond_false] at hq'; exact hq'.elim
    · rw [show (qmo m == 16) = false by simpa using e16, cond_false] at hq
      split at hq
      · rename_i e he
        obtain ⟨a, r, rfl, h1, hq'⟩ := qp1_of hq
        have hc := List.all_eq_true.mp (qfl_all (qmo m)) _ (qfnd_mem he)
        rw [qflc, Bool.and_eq_true, Bool.and_eq_true] at hc
        exact qs_getfield (qvw e.1 (of_decide_eq_true hc.1)) (of_decide_eq_true hc.2.1) (qrow_in hc.2.2) h1 hd (hgo _ _ _ _ _ hq')
      · exact hq.elim
  · rename_i i
    rw [qlen, Bool.and_eq_true] at hk
    obtain ⟨hk0, hk⟩ := hk
    rw [show len = 3 by simpa using hk0] at hd
    by_cases e16 : qmo m = 16
    · rw [show (qmo m == 16) = true by simpa using e16, cond_true] at hq
      by_cases e9 : i = 38
      · subst e9; exact qs_stat1 e16 qsf38 hd (hgo _ _ _ _ _ hq)
      · rw [show (i == 38) = false by simpa using e9, cond_false] at hq
        by_cases e15 : i = 1053
        · subst e15; exact qs_stat2 e16 qsf1053 hd (hgo _ _ _ _ _ hq)
        · rw [show (i == 1053) = false by simpa using e15, cond_false] at hq; exact hq.elim
    · rw [show (qmo m == 16) = false by simpa using e16, cond_false] at hq; exact hq.elim
  · rename_i dflt ps
    rw [qlen] at hk
    obtain ⟨x, r, rfl, hx, hq'⟩ := qp1_of hq
    rw [Bool.and_eq_true, Bool.and_eq_true] at hk
    obtain ⟨hk1, hk2, hk3⟩ := hk
    rcases qswl_at (dflt := dflt) hq' with ⟨e1, hq'⟩ | ⟨off, hm9, e1, hq'⟩
    · exact qs_lookup hx hk2 e1 (qtgt_of hk1) hd (hgo _ _ _ _ _ hq')
    · exact qs_lookup hx hk2 e1 (qtgt_of (List.all_eq_true.mp hk3 _ hm9)) hd (hgo _ _ _ _ _ hq')
  · rename_i i
    rw [qlen, Bool.and_eq_true] at hk
    obtain ⟨hk0, hk⟩ := hk
    rw [show len = 3 by simpa using hk0] at hd
    split at hq
    · rename_i e he
      obtain ⟨x, a, r, rfl, h1, hq'⟩ := qp2_of hq
      have hc := List.all_eq_true.mp (qfl_all (qmo m)) _ (qfnd_mem he)
      rw [qflc, Bool.and_eq_true, Bool.and_eq_true] at hc
      obtain ⟨hf, hq'⟩ := qfitc_of hq'
      obtain ⟨ho, hq'⟩ := qbif hq'
      refine qs_putfield (qvw e.1 (of_decide_eq_true hc.1)) (of_decide_eq_true hc.2.1) (qrow_in hc.2.2) h1 hf ?_ hd (hgo _ _ _ _ _ hq')
      rw [qpok, Bool.or_eq_true, Bool.and_eq_true] at ho
      rcases ho with ho | ho
      · exact Or.inl (by simpa using ho)
      · exact Or.inr ⟨of_decide_eq_true ho.1, of_decide_eq_true ho.2⟩
    · exact hq.elim
  · skip
    rw [qlen, Bool.and_eq_true] at hk
    obtain ⟨hk0, hk⟩ := hk
    rw [show len = 1 by simpa using hk0] at hd
    by_cases e : qmo m = 12
    · rw [show (qmo m == 12) = true by simpa using e, cond_true] at hq
      obtain ⟨i, a, r, rfl, rfl, h1, h2, hq'⟩ := qp2_of hq
      exact qs_sload h1 h2 hd (hgo _ _ _ _ _ hq')
    · rw [show (qmo m == 12) = false by simpa using e, cond_false] at hq
      obtain ⟨i, a, r, rfl, h0, h1, h2, hq'⟩ := qp2_of hq
      exact qs_iaload h0 h1 h2 hd (hgo _ _ _ _ _ hq')
  · skip
    rw [qlen, Bool.and_eq_true] at hk
    obtain ⟨hk0, hk⟩ := hk
    rw [show len = 1 by simpa using hk0] at hd
    obtain ⟨i, a, r, rfl, h0, h1, h2, hq'⟩ := qp2_of hq; exact qs_laload h0 h1 h2 hd (hgo _ _ _ _ _ hq')
  · skip
    rw [qlen, Bool.and_eq_true] at hk
    obtain ⟨hk0, hk⟩ := hk
    rw [show len = 1 by simpa using hk0] at hd
    by_cases e17 : qmo m = 17
    · rw [show (qmo m == 17) = true by simpa using e17, cond_true] at hq
      obtain ⟨i, a, r, rfl, h0, h1, h2, hq'⟩ := qp2_of hq
      exact qs_strbyte h0 h1 h2 hd (hgo _ _ _ _ _ hq')
    · rw [show (qmo m == 17) = false by simpa using e17, cond_false] at hq
      by_cases e : qmo m = 11
      · rw [show (qmo m == 11) = true by simpa using e, cond_true] at hq
        obtain ⟨i, a, r, rfl, h0, h1, h2, hq'⟩ := qp2_of hq
        exact qs_zaload h0 h1 h2 hd (hgo _ _ _ _ _ hq')
      · rw [show (qmo m == 11) = false by simpa using e, cond_false] at hq
        obtain ⟨i, a, r, rfl, h0, h1, h2, hq'⟩ := qp2_of hq
        exact qs_baload h0 h1 h2 hd (hgo _ _ _ _ _ hq')
  · skip
    rw [qlen, Bool.and_eq_true] at hk
    obtain ⟨hk0, hk⟩ := hk
    rw [show len = 1 by simpa using hk0] at hd
    obtain ⟨i, a, r, rfl, h0, h1, h2, hq'⟩ := qp2_of hq; exact qs_aaload rfl h0.1 h0.2 h1 h2 hd (hgo _ _ _ _ _ hq')
  · skip
    rw [qlen, Bool.and_eq_true] at hk
    obtain ⟨hk0, hk⟩ := hk
    rw [show len = 1 by simpa using hk0] at hd
    obtain ⟨x, i, a, r, rfl, h0, h1, h2, hq'⟩ := qp3_of hq; exact qs_iastore h0 h1 h2 hd (hgo _ _ _ _ _ hq')
  · skip
    rw [qlen, Bool.and_eq_true] at hk
    obtain ⟨hk0, hk⟩ := hk
    rw [show len = 1 by simpa using hk0] at hd
    obtain ⟨x, i, a, r, rfl, h0, h1, h2, hq'⟩ := qp3_of hq; exact qs_lastore h0 h1 h2 hd (hgo _ _ _ _ _ hq')
  · skip
    rw [qlen, Bool.and_eq_true] at hk
    obtain ⟨hk0, hk⟩ := hk
    rw [show len = 1 by simpa using hk0] at hd
    by_cases e : qmo m = 11
    · rw [show (qmo m == 11) = true by simpa using e, cond_true] at hq
      obtain ⟨x, i, a, r, rfl, hz, h0, h1, h2, hq'⟩ := qp3_of hq
      exact qs_zastore hz h0 h1 h2 hd (hgo _ _ _ _ _ hq')
    · rw [show (qmo m == 11) = false by simpa using e, cond_false] at hq
      obtain ⟨x, i, a, r, rfl, h0, h1, h2, hq'⟩ := qp3_of hq
      exact qs_bastore h0 h1 h2 hd (hgo _ _ _ _ _ hq')
  · skip
    rw [qlen, Bool.and_eq_true] at hk
    obtain ⟨hk0, hk⟩ := hk
    rw [show len = 1 by simpa using hk0] at hd
    obtain ⟨x, i, a, r, rfl, h0, h1, h2, hq'⟩ := qp3_of hq; exact qs_aastore rfl (by omega) (by omega) rfl h0 h1 h2 hd (hgo _ _ _ _ _ hq')
  · skip
    rw [qlen, Bool.and_eq_true] at hk
    obtain ⟨hk0, hk⟩ := hk
    rw [show len = 1 by simpa using hk0] at hd
    by_cases e17 : (qmo m == 16 || qmo m == 17) = true
    · rw [e17, cond_true] at hq
      obtain ⟨a, r, rfl, h0, hq'⟩ := qp1_of hq
      exact qs_strlen h0 hd (hgo _ _ _ _ _ hq')
    · rw [show (qmo m == 16 || qmo m == 17) = false by simpa using e17, cond_false] at hq
      by_cases e : qmo m = 12
      · rw [show (qmo m == 12) = true by simpa using e, cond_true] at hq
        obtain ⟨a, r, rfl, rfl, hq'⟩ := qp1_of hq
        exact qs_slen hd (hgo _ _ _ _ _ hq')
      · rw [show (qmo m == 12) = false by simpa using e, cond_false] at hq
        obtain ⟨a, r, rfl, h0, hq'⟩ := qp1_of hq
        exact qs_alen h0.1 h0.2 hd (hgo _ _ _ _ _ hq')
  · rename_i i
    rw [qlen, Bool.and_eq_true] at hk
    obtain ⟨hk0, hk⟩ := hk
    rw [show len = 3 by simpa using hk0] at hd
    split at hq
    · rename_i e he
      obtain ⟨h0, hq⟩ := hq
      obtain ⟨hb, hq⟩ := qbif hq
      rw [Bool.and_eq_true] at hb
      have hc := List.all_eq_true.mp (qnw_all (qmo m)) _ (qfnd_mem he)
      simp only [qnwc, Bool.and_eq_true] at hc
      obtain ⟨c1, c2, c3, c4, c5⟩ := hc
      have c2 := of_decide_eq_true c2
      rw [c2] at hq hb
      exact qs_new (qvw e.1 (of_decide_eq_true c1)) (qrow_in c3) (qrow_in c4) (qrow_in c5) (qnfd e.1 (of_decide_eq_true c1)) h0 ⟨Nat.le_of_ble_eq_true hb.1, Nat.le_of_ble_eq_true hb.2⟩ hd (hgo _ _ _ _ _ hq)
    · exact hq.elim
  · rename_i t
    rw [qlen, Bool.and_eq_true] at hk
    obtain ⟨hk0, hk⟩ := hk
    rw [show len = 2 by simpa using hk0] at hd
    obtain ⟨n, r, rfl, h1, h2, h3, hq'⟩ := qp1_of hq
    obtain ⟨hb, hq'⟩ := qbif hq'
    rw [Bool.and_eq_true, Bool.and_eq_true] at hb
    exact qs_newarray (Nat.le_of_ble_eq_true hb.1) (qarc t (Nat.le_of_ble_eq_true hb.1)) h1 h2 h3 ⟨Nat.le_of_ble_eq_true hb.2.1, Nat.le_of_ble_eq_true hb.2.2⟩ hd (hgo _ _ _ _ _ hq')
  · rename_i i
    rw [qlen, Bool.and_eq_true] at hk
    obtain ⟨hk0, hk⟩ := hk
    rw [show len = 3 by simpa using hk0] at hd
    split at hq
    · rename_i e he
      obtain ⟨n, r, rfl, h1, h2, h3, hq'⟩ := qp1_of hq
      obtain ⟨hb, hq'⟩ := qbif hq'
      rw [Bool.and_eq_true, Bool.and_eq_true] at hb
      have hc := List.all_eq_true.mp (qnw_all (qmo m)) _ (qfnd_mem he)
      simp only [qnwc, Bool.and_eq_true] at hc
      obtain ⟨c1, c2, c3, c4, c5⟩ := hc
      exact qs_anewarray (qrak_of (Nat.le_of_ble_eq_true hb.1)) (qrow_in c3) h1 h2 h3 ⟨Nat.le_of_ble_eq_true hb.2.1, Nat.le_of_ble_eq_true hb.2.2⟩ hd (hgo _ _ _ _ _ hq')
    · exact hq.elim
  · rename_i i
    rw [qlen, Bool.and_eq_true] at hk
    obtain ⟨hk0, hk⟩ := hk
    rw [show len = 3 by simpa using hk0] at hd
    split at hq
    · rename_i E he
      exact qcall_invokevirtual hgo he hd hq
    · exact hq.elim
  · rename_i i
    rw [qlen, Bool.and_eq_true] at hk
    obtain ⟨hk0, hk⟩ := hk
    rw [show len = 3 by simpa using hk0] at hd
    split at hq
    · rename_i E he
      exact qcall_invokestatic hgo he hd hq
    · exact hq.elim
  · rename_i i
    rw [qlen, Bool.and_eq_true] at hk
    obtain ⟨hk0, hk⟩ := hk
    rw [show len = 3 by simpa using hk0] at hd
    split at hq
    · rename_i E he
      exact qcall_invokespecial hgo he hd hq
    · exact hq.elim
  · skip
    rw [qlen, Bool.and_eq_true] at hk
    obtain ⟨hk0, hk⟩ := hk
    rw [show len = 1 by simpa using hk0] at hd
    obtain ⟨x, r, rfl, hq'⟩ := qp1_of hq
    split at hq'
    · obtain ⟨hb, hq'⟩ := qbif hq'
      rw [Bool.and_eq_true] at hb
      split at hq'
      · rename_i hr; exact qs_ireturn hr ⟨Nat.le_of_ble_eq_true hb.1, Nat.le_of_ble_eq_true hb.2⟩ hd hq'
      · rename_i hr; exact qs_zreturn hr hq'.1 ⟨Nat.le_of_ble_eq_true hb.1, Nat.le_of_ble_eq_true hb.2⟩ hd hq'.2
      · rename_i hr; exact qs_creturn hr hq'.1 ⟨Nat.le_of_ble_eq_true hb.1, Nat.le_of_ble_eq_true hb.2⟩ hd hq'.2
      · rename_i hr; exact qs_breturn hr hq'.1 ⟨Nat.le_of_ble_eq_true hb.1, Nat.le_of_ble_eq_true hb.2⟩ hd hq'.2
      · exact hq'.elim
    · exact hq'.elim
  · skip
    rw [qlen, Bool.and_eq_true] at hk
    obtain ⟨hk0, hk⟩ := hk
    rw [show len = 1 by simpa using hk0] at hd
    obtain ⟨x, r, rfl, hq'⟩ := qp1_of hq
    split at hq'
    · obtain ⟨hb, hq'⟩ := qbif hq'
      rw [Bool.and_eq_true] at hb
      split at hq'
      · rename_i hr; exact qs_lreturn hr ⟨Nat.le_of_ble_eq_true hb.1, Nat.le_of_ble_eq_true hb.2⟩ hd hq'
      · exact hq'.elim
    · exact hq'.elim
  · skip
    rw [qlen, Bool.and_eq_true] at hk
    obtain ⟨hk0, hk⟩ := hk
    rw [show len = 1 by simpa using hk0] at hd
    split at hq
    · obtain ⟨hb, hq⟩ := qbif hq
      rw [Bool.and_eq_true] at hb
      split at hq
      · rename_i hr; exact qs_return hr ⟨Nat.le_of_ble_eq_true hb.1, Nat.le_of_ble_eq_true hb.2⟩ hd hq
      · exact hq.elim
    · exact hq.elim
  · exact hq.elim
end QSound
end
section
def qpick (lv : List (Nat × QV)) (ks : List Nat) : List (Nat × QV) := match ks with
  | [] => []
  | i :: r => (match qlook lv i with | some v => (i, v) :: qpick lv r | none => qpick lv r)
theorem qpick_sub {lv : List (Nat × QV)} : ∀ {ks : List Nat} {q : Nat × QV}, q ∈ qpick lv ks → q ∈ lv := by
  intro ks
  induction ks with
  | nil => intro q h; cases h
  | cons i r ih =>
    intro q h
    rw [qpick] at h
    split at h
    · rename_i v hv
      rcases List.mem_cons.mp h with rfl | h
      · exact qlook_mem hv
      · exact ih h
    · exact ih h
theorem QR.less {X : QX} {d : Nat} {mx : Nat × Nat} {m : QMeth} {post : Int → QH → Prop} {cs : Nat × Nat} {pc : Nat} {lv lv' : List (Nat × QV)} {st : List QV} {h : QH} (k : QR X d mx m post cs pc lv' st h) (hs : ∀ q ∈ lv', q ∈ lv) : QR X d mx m post cs pc lv st h := by
  intro p e R s mi ar be me c H lo ls hR hB hH hL hl
  refine k p e R s mi ar be me c H lo ls hR hB hH hL ⟨hl.1, hl.2.1, fun q hq => ?_⟩
  obtain ⟨z, hz, rfl⟩ := List.mem_map.mp hq
  exact hl.2.2 _ (List.mem_map.mpr ⟨z, hs z hz, rfl⟩)
/-- n steps, or up to a place where it is cut -/
def qwp (X : QX) (d : Nat) (mx : Nat × Nat) (m : QMeth) (post : Int → QH → Prop) (cut : List (Nat × List Nat)) : Nat → QGo
  | 0 => fun cs pc lv st h => QR X d mx m post cs pc lv st h
  | n + 1 => fun cs pc lv st h => qstep X d mx m post (fun cs pc lv st h => match qfnd cut pc with
    | none => qwp X d mx m post cut n cs pc lv st h
    | some ks => QR X d mx m post cs pc (qpick lv ks) st h) cs pc lv st h
theorem qwp_ok {X : QX} {d : Nat} {mx : Nat × Nat} {m : QMeth} {post : Int → QH → Prop} (hm : qmok m) (cut : List (Nat × List Nat)) : ∀ (n : Nat) {cs : Nat × Nat} {pc : Nat} {lv : List (Nat × QV)} {st : List QV} {h : QH}, qwp X d mx m post cut n cs pc lv st h → QR X d mx m post cs pc lv st h := by
  intro n
  induction n with
  | zero => intro cs pc lv st h hq; exact hq
  | succ n ih =>
    intro cs pc lv st h hq
    rw [qwp] at hq
    refine qstep_ok hm (fun cs pc lv st h hg => ?_) hq
    split at hg
    · exact ih hg
    · exact hg.less (fun q hq => qpick_sub hq)
def qargs (i : Nat) (as : List QV) : List (Nat × QV) := match as with
  | [] => []
  | v :: r => (i, v) :: qargs (bif v.1 == 1 then i + 2 else i + 1) r
theorem qargs_eq (X : QX) : ∀ (as : List QV) (i : Nat), lv_args i (as.map (qcv X)) = (qargs i as).map fun q => (q.1, qcv X q.2) := by
  intro as
  induction as with
  | nil => intro i; rfl
  | cons v r ih =>
    intro i
    rw [List.map_cons, lv_args, qargs, List.map_cons, ← ih]
    congr 2
    have e := qcat X v
    by_cases hv : v.1 = 1
    · rw [show (v.1 == 1) = true by simpa using hv] at e ⊢
      rw [if_pos (by simpa using e), cond_true]
    · rw [show (v.1 == 1) = false by simpa using hv] at e ⊢
      rw [if_neg (by simpa using e), cond_false]
theorem qsl_len (X : QX) : ∀ (as : List QV), (lg_sl (as.map (qcv X))).length = qwn as := by
  intro as
  induction as with
  | nil => rfl
  | cons v r ih =>
    rw [List.map_cons, qwn, ← ih]
    have e := qcat X v
    generalize qcv X v = w at e
    by_cases hv : v.1 = 1
    · rw [show (v.1 == 1) = true by simpa using hv] at e ⊢
      cases w <;> simp [Value.category] at e <;> simp [lg_sl, Value.category] <;> omega
    · rw [show (v.1 == 1) = false by simpa using hv] at e ⊢
      cases w <;> simp [Value.category] at e <;> simp [lg_sl, Value.category] <;> omega
/-- a method of the tables -/
def QMK (m : QMeth) : Prop := qmok m ∧ Cond.code (qmy m) (qmc m) (qmL m) (qmr m) ∈ qtbl ∧ qmL m ≤ 60 ∧ plainFor (qmy m) = true ∧ (qmy m).cls = qown (qmo m)
def qmkb (m : QMeth) (pos : Nat) : Bool := (qmi m).all (fun e => decide (decode (qmc m) e.1 = .ok e.2) && qlen m e.1 e.2.1 e.2.2) && (qrow pos (Cond.code (qmy m) (qmc m) (qmL m) (qmr m)) && (Nat.ble (qmL m) 60 && (plainFor (qmy m) && decide ((qmy m).cls = qown (qmo m)))))
theorem qmk_of {m : QMeth} (pos : Nat) (h : qmkb m pos = true) : QMK m := by
  simp only [qmkb, Bool.and_eq_true] at h
  obtain ⟨h1, h2, h3, h4, h5⟩ := h
  refine ⟨fun e he => ?_, qrow_in h2, Nat.le_of_ble_eq_true h3, h4, of_decide_eq_true h5⟩
  have := List.all_eq_true.mp h1 e he
  rw [Bool.and_eq_true] at this
  exact ⟨of_decide_eq_true this.1, this.2⟩
theorem QC.of {X : QX} {d mc ms : Nat} {m : QMeth} (hm : QMK m) {as : List QV} {h : QH} {post : Int → QH → Prop} (hw : Nat.ble (qwn as) (qmL m) = true) (k : QR X d (mc, ms) m post (0, 0) 0 (qargs 0 as) [] h) : QC X d mc ms (qrk (qmr m)) (qmy m) as h post := by
  obtain ⟨h1, h2, h3, h4, h5⟩ := hm
  refine ⟨qmc m, qmL m, qmr m, h2, h3, rfl, va_MetF (cc := qmc m) (maxL := qmL m) (ret := qmr m) h4 rfl ?_⟩
  intro p e s mi args below meth c s₁ B hml hv
  obtain ⟨rfl, hT, hH⟩ := hv
  have hts := atoms_spec (ws := Cond.code (qmy m) (qmc m) (qmL m) (qmr m) :: qtbl) B.pre
  have hown : s.vm.findClass (qmy m).cls = some mi.cls := findClass_of_methodNamed B.named
  have hl := lv_entry (as.map (qcv X)) (n := qmL m) (by rw [qsl_len]; exact Nat.le_of_ble_eq_true hw)
  rw [lg_entry_eq]
  generalize (lg_sl (as.map (qcv X)) ++ List.replicate (qmL m - (lg_sl (as.map (qcv X))).length) Slot.unset).toArray = ls at hl ⊢
  rw [qargs_eq] at hl
  exact k p e _ s mi _ below meth c s.heap [] ls ⟨Nat.le_refl _, Nat.le_refl _, rfl, rfl⟩ ⟨B.exec, B.bytes, hml, B.returns, B.notSynchronized, by rw [← h5]; exact hown, fun w hw => hts w (List.mem_cons_of_mem _ hw), (name_of_methodNamed B.named B.method).1, hT⟩ hH (fun q hq => by cases hq) hl
end
section
def qmX0_init : QMeth := (0, yX0_init, cX0_init, 1, none, [(0, .aload_n 0, 1), (1, .invokespecial 1, 3), (4, .aload_n 0, 1), (5, .new 7, 3), (8, .dup, 1), (9, .invokespecial 9, 3), (12, .putfield 10, 3), (15, .aload_n 0, 1), (16, .new 16, 3), (19, .dup, 1), (20, .invokespecial 18, 3), (23, .putfield 19, 3), (26, .return_, 1)])
theorem qmX0_init_ok : QMK qmX0_init := qmk_of 475 (by decide +kernel)
def qmX1_init : QMeth := (1, yX1_init, cX1_init, 1, none, [(0, .aload_n 0, 1), (1, .invokespecial 3, 3), (4, .aload_n 0, 1), (5, .iconst 2, 1), (6, .putfield 9, 3), (9, .aload_n 0, 1), (10, .iconst 2, 1), (11, .putfield 15, 3), (14, .aload_n 0, 1), (15, .bipush 36, 2), (17, .newarray .int, 2), (19, .putfield 18, 3), (22, .aload_n 0, 1), (23, .bipush 6, 2), (25, .newarray .int, 2), (27, .putfield 22, 3), (30, .aload_n 0, 1), (31, .bipush 6, 2), (33, .newarray .int, 2), (35, .putfield 25, 3), (38, .aload_n 0, 1), (39, .new 28, 3), (42, .dup, 1), (43, .invokespecial 30, 3), (46, .putfield 31, 3), (49, .aload_n 0, 1), (50, .new 28, 3), (53, .dup, 1), (54, .invokespecial 30, 3), (57, .putfield 35, 3), (60, .return_, 1)])
theorem qmX1_init_ok : QMK qmX1_init := qmk_of 160 (by decide +kernel)
def qmX1_clear : QMeth := (1, yX1_clear, cX1_clear, 1, none, [(0, .aload_n 0, 1), (1, .iconst 2, 1), (2, .putfield 9, 3), (5, .aload_n 0, 1), (6, .iconst 2, 1), (7, .putfield 15, 3), (10, .aload_n 0, 1), (11, .iconst 0, 1), (12, .putfield 38, 3), (15, .aload_n 0, 1), (16, .iconst 0, 1), (17, .putfield 41, 3), (20, .aload_n 0, 1), (21, .iconst 0, 1), (22, .putfield 44, 3), (25, .aload_n 0, 1), (26, .iconst 0, 1), (27, .putfield 47, 3), (30, .aload_n 0, 1), (31, .iconst 0, 1), (32, .putfield 50, 3), (35, .aload_n 0, 1), (36, .getfield 18, 3), (39, .iconst 0, 1), (40, .invokestatic 53, 3), (43, .aload_n 0, 1), (44, .getfield 31, 3), (47, .invokevirtual 59, 3), (50, .aload_n 0, 1), (51, .getfield 35, 3), (54, .invokevirtual 59, 3), (57, .return_, 1)])
theorem qmX1_clear_ok : QMK qmX1_clear := qmk_of 556 (by decide +kernel)
def qmX1_copyOf : QMeth := (1, yX1_copyOf, cX1_copyOf, 2, none, [(0, .aload_n 0, 1), (1, .aload_n 1, 1), (2, .getfield 9, 3), (5, .putfield 9, 3), (8, .aload_n 0, 1), (9, .aload_n 1, 1), (10, .getfield 15, 3), (13, .putfield 15, 3), (16, .aload_n 0, 1), (17, .aload_n 1, 1), (18, .getfield 38, 3), (21, .putfield 38, 3), (24, .aload_n 0, 1), (25, .aload_n 1, 1), (26, .getfield 41, 3), (29, .putfield 41, 3), (32, .aload_n 0, 1), (33, .aload_n 1, 1), (34, .getfield 44, 3), (37, .putfield 44, 3), (40, .aload_n 0, 1), (41, .aload_n 1, 1), (42, .getfield 47, 3), (45, .putfield 47, 3), (48, .aload_n 0, 1), (49, .aload_n 1, 1), (50, .getfield 50, 3), (53, .putfield 50, 3), (56, .aload_n 1, 1), (57, .getfield 18, 3), (60, .iconst 0, 1), (61, .aload_n 0, 1), (62, .getfield 18, 3), (65, .iconst 0, 1), (66, .bipush 36, 2), (68, .invokestatic 62, 3), (71, .aload_n 1, 1), (72, .getfield 22, 3), (75, .iconst 0, 1), (76, .aload_n 0, 1), (77, .getfield 22, 3), (80, .iconst 0, 1), (81, .bipush 6, 2), (83, .invokestatic 62, 3), (86, .aload_n 1, 1), (87, .getfield 25, 3), (90, .iconst 0, 1), (91, .aload_n 0, 1), (92, .getfield 25, 3), (95, .iconst 0, 1), (96, .bipush 6, 2), (98, .invokestatic 62, 3), (101, .aload_n 0, 1), (102, .getfield 31, 3), (105, .aload_n 1, 1), (106, .getfield 31, 3), (109, .invokevirtual 68, 3), (112, .aload_n 0, 1), (113, .getfield 35, 3), (116, .aload_n 1, 1), (117, .getfield 35, 3), (120, .invokevirtual 68, 3), (123, .return_, 1)])
theorem qmX1_copyOf_ok : QMK qmX1_copyOf := qmk_of 825 (by decide +kernel)
def qmX1_cells : QMeth := (1, yX1_cells, cX1_cells, 1, (some .int), [(0, .aload_n 0, 1), (1, .getfield 9, 3), (4, .aload_n 0, 1), (5, .getfield 15, 3), (8, .imul, 1), (9, .bipush 36, 2), (11, .invokestatic 72, 3), (14, .ireturn, 1)])
theorem qmX1_cells_ok : QMK qmX1_cells := qmk_of 763 (by decide +kernel)
def qmX1_hasCell : QMeth := (1, yX1_hasCell, cX1_hasCell, 2, (some .boolean), [(0, .iload_n 1, 1), (1, .ifCond .lt 15, 3), (4, .iload_n 1, 1), (5, .aload_n 0, 1), (6, .invokevirtual 78, 3), (9, .if_icmp .ge 7, 3), (12, .iconst 1, 1), (13, .goto 4, 3), (16, .iconst 0, 1), (17, .ireturn, 1)])
theorem qmX1_hasCell_ok : QMK qmX1_hasCell := qmk_of 759 (by decide +kernel)
def qmX1_hasDrum : QMeth := (1, yX1_hasDrum, cX1_hasDrum, 2, (some .boolean), [(0, .iload_n 1, 1), (1, .ifCond .lt 21, 3), (4, .iload_n 1, 1), (5, .aload_n 0, 1), (6, .getfield 38, 3), (9, .if_icmp .ge 13, 3), (12, .iload_n 1, 1), (13, .bipush 6, 2), (15, .if_icmp .ge 7, 3), (18, .iconst 1, 1), (19, .goto 4, 3), (22, .iconst 0, 1), (23, .ireturn, 1)])
theorem qmX1_hasDrum_ok : QMK qmX1_hasDrum := qmk_of 864 (by decide +kernel)
def qmX1_column : QMeth := (1, yX1_column, cX1_column, 2, (some .int), [(0, .aload_n 0, 1), (1, .getfield 9, 3), (4, .iconst 1, 1), (5, .if_icmp .ge 7, 3), (8, .iconst 0, 1), (9, .goto 9, 3), (12, .iload_n 1, 1), (13, .aload_n 0, 1), (14, .getfield 9, 3), (17, .irem, 1), (18, .ireturn, 1)])
theorem qmX1_column_ok : QMK qmX1_column := qmk_of 907 (by decide +kernel)
def qmX1_row : QMeth := (1, yX1_row, cX1_row, 2, (some .int), [(0, .aload_n 0, 1), (1, .getfield 9, 3), (4, .iconst 1, 1), (5, .if_icmp .ge 7, 3), (8, .iconst 0, 1), (9, .goto 9, 3), (12, .iload_n 1, 1), (13, .aload_n 0, 1), (14, .getfield 9, 3), (17, .idiv, 1), (18, .ireturn, 1)])
theorem qmX1_row_ok : QMK qmX1_row := qmk_of 911 (by decide +kernel)
def qmX1_beside : QMeth := (1, yX1_beside, cX1_beside, 3, (some .int), [(0, .iload_n 2, 1), (1, .tableswitch 113 1 4 #[31, 50, 72, 97], 31), (32, .aload_n 0, 1), (33, .iload_n 1, 1), (34, .invokevirtual 82, 3), (37, .ifCond .le 12, 3), (40, .iload_n 1, 1), (41, .aload_n 0, 1), (42, .getfield 9, 3), (45, .isub, 1), (46, .goto 4, 3), (49, .iconst (-1), 1), (50, .ireturn, 1), (51, .aload_n 0, 1), (52, .iload_n 1, 1), (53, .invokevirtual 86, 3), (56, .aload_n 0, 1), (57, .getfield 9, 3), (60, .iconst 1, 1), (61, .isub, 1), (62, .if_icmp .ge 9, 3), (65, .iload_n 1, 1), (66, .iconst 1, 1), (67, .iadd, 1), (68, .goto 4, 3), (71, .iconst (-1), 1), (72, .ireturn, 1), (73, .aload_n 0, 1), (74, .iload_n 1, 1), (75, .invokevirtual 82, 3), (78, .aload_n 0, 1), (79, .getfield 15, 3), (82, .iconst 1, 1), (83, .isub, 1), (84, .if_icmp .ge 12, 3), (87, .iload_n 1, 1), (88, .aload_n 0, 1), (89, .getfield 9, 3), (92, .iadd, 1), (93, .goto 4, 3), (96, .iconst (-1), 1), (97, .ireturn, 1), (98, .aload_n 0, 1), (99, .iload_n 1, 1), (100, .invokevirtual 86, 3), (103, .ifCond .le 9, 3), (106, .iload_n 1, 1), (107, .iconst 1, 1), (108, .isub, 1), (109, .goto 4, 3), (112, .iconst (-1), 1), (113, .ireturn, 1), (114, .iconst (-1), 1), (115, .ireturn, 1)])
theorem qmX1_beside_ok : QMK qmX1_beside := qmk_of 938 (by decide +kernel)
def qmX1_yardsFor : QMeth := (1, yX1_yardsFor, cX1_yardsFor, 5, (some .int), [(0, .aload_n 0, 1), (1, .getfield 31, 3), (4, .invokevirtual 89, 3), (7, .ifCond .ne 5, 3), (10, .iconst 1, 1), (11, .ireturn, 1), (12, .aload_n 0, 1), (13, .getfield 31, 3), (16, .aload_n 0, 1), (17, .iload_n 2, 1), (18, .invokevirtual 86, 3), (21, .aload_n 0, 1), (22, .iload_n 2, 1), (23, .invokevirtual 82, 3), (26, .iload_n 3, 1), (27, .iload_n 1, 1), (28, .iconst 0, 1), (29, .invokevirtual 93, 3), (32, .istore 4, 2), (34, .iconst 1, 1), (35, .bipush 99, 2), (37, .iload 4, 2), (39, .invokestatic 72, 3), (42, .invokestatic 97, 3), (45, .ireturn, 1)])
theorem qmX1_yardsFor_ok : QMK qmX1_yardsFor := qmk_of 899 (by decide +kernel)
def qmX1_mayLie : QMeth := (1, yX1_mayLie, cX1_mayLie, 5, (some .boolean), [(0, .aload_n 0, 1), (1, .getfield 35, 3), (4, .invokevirtual 89, 3), (7, .ifCond .eq 28, 3), (10, .aload_n 0, 1), (11, .getfield 35, 3), (14, .aload_n 0, 1), (15, .iload_n 2, 1), (16, .invokevirtual 86, 3), (19, .aload_n 0, 1), (20, .iload_n 2, 1), (21, .invokevirtual 82, 3), (24, .iload_n 3, 1), (25, .iload_n 1, 1), (26, .iload 4, 2), (28, .invokevirtual 93, 3), (31, .iconst 1, 1), (32, .if_icmp .ne 7, 3), (35, .iconst 1, 1), (36, .goto 4, 3), (39, .iconst 0, 1), (40, .ireturn, 1)])
theorem qmX1_mayLie_ok : QMK qmX1_mayLie := qmk_of 948 (by decide +kernel)
def qmX2_init : QMeth := (2, yX2_init, cX2_init, 1, none, [(0, .aload_n 0, 1), (1, .invokespecial 3, 3), (4, .aload_n 0, 1), (5, .sipush 900, 3), (8, .newarray .int, 2), (10, .putfield 9, 3), (13, .aload_n 0, 1), (14, .bipush 32, 2), (16, .newarray .int, 2), (18, .putfield 15, 3), (21, .return_, 1)])
theorem qmX2_init_ok : QMK qmX2_init := qmk_of 166 (by decide +kernel)
def qmX2_isTold : QMeth := (2, yX2_isTold, cX2_isTold, 1, (some .boolean), [(0, .aload_n 0, 1), (1, .getfield 18, 3), (4, .ifCond .le 7, 3), (7, .iconst 1, 1), (8, .goto 4, 3), (11, .iconst 0, 1), (12, .ireturn, 1)])
theorem qmX2_isTold_ok : QMK qmX2_isTold := qmk_of 903 (by decide +kernel)
def qmX2_clear : QMeth := (2, yX2_clear, cX2_clear, 1, none, [(0, .aload_n 0, 1), (1, .iconst 0, 1), (2, .putfield 18, 3), (5, .return_, 1)])
theorem qmX2_clear_ok : QMK qmX2_clear := qmk_of 561 (by decide +kernel)
def qmX2_add : QMeth := (2, yX2_add, cX2_add, 2, none, [(0, .aload_n 0, 1), (1, .getfield 18, 3), (4, .aload_n 0, 1), (5, .getfield 9, 3), (8, .arraylength, 1), (9, .if_icmp .ge 23, 3), (12, .aload_n 0, 1), (13, .getfield 9, 3), (16, .aload_n 0, 1), (17, .getfield 18, 3), (20, .iload_n 1, 1), (21, .iastore, 1), (22, .aload_n 0, 1), (23, .dup, 1), (24, .getfield 18, 3), (27, .iconst 1, 1), (28, .iadd, 1), (29, .putfield 18, 3), (32, .return_, 1)])
theorem qmX2_add_ok : QMK qmX2_add := qmk_of 793 (by decide +kernel)
def qmX2_copyOf : QMeth := (2, yX2_copyOf, cX2_copyOf, 2, none, [(0, .aload_n 1, 1), (1, .getfield 9, 3), (4, .iconst 0, 1), (5, .aload_n 0, 1), (6, .getfield 9, 3), (9, .iconst 0, 1), (10, .aload_n 1, 1), (11, .getfield 18, 3), (14, .invokestatic 22, 3), (17, .aload_n 0, 1), (18, .aload_n 1, 1), (19, .getfield 18, 3), (22, .putfield 18, 3), (25, .return_, 1)])
theorem qmX2_copyOf_ok : QMK qmX2_copyOf := qmk_of 830 (by decide +kernel)
def qmX2_value : QMeth := (2, yX2_value, cX2_value, 15, (some .int), [(0, .iconst 0, 1), (1, .istore 6, 2), (3, .iconst 0, 1), (4, .istore 7, 2), (6, .iload 7, 2), (8, .aload_n 0, 1), (9, .getfield 18, 3), (12, .if_icmp .ge 355, 3), (15, .aload_n 0, 1), (16, .getfield 9, 3), (19, .iload 7, 2), (21, .iaload, 1), (22, .istore 8, 2), (24, .iload 8, 2), (26, .sipush 1005, 3), (29, .if_icmp .ge 87, 3), (32, .iload 6, 2), (34, .bipush 32, 2), (36, .if_icmp .ge 80, 3), (39, .aload_n 0, 1), (40, .getfield 15, 3), (43, .iload 6, 2), (45, .iload 8, 2), (47, .sipush 1000, 3), (50, .if_icmp .ne 7, 3), (53, .iload_n 1, 1), (54, .goto 55, 3), (57, .iload 8, 2), (59, .sipush 1001, 3), (62, .if_icmp .ne 7, 3), (65, .iload_n 2, 1), (66, .goto 43, 3), (69, .iload 8, 2), (71, .sipush 1002, 3), (74, .if_icmp .ne 7, 3), (77, .iload_n 3, 1), (78, .goto 31, 3), (81, .iload 8, 2), (83, .sipush 1003, 3), (86, .if_icmp .ne 8, 3), (89, .iload 4, 2), (91, .goto 18, 3), (94, .iload 8, 2), (96, .sipush 1004, 3), (99, .if_icmp .ne 8, 3), (102, .iload 5, 2), (104, .goto 5, 3), (107, .iload 8, 2), (109, .iastore, 1), (110, .iinc 6 1, 3), (113, .goto 248, 3), (116, .iload 8, 2), (118, .sipush 1005, 3), (121, .if_icmp .ne 31, 3), (124, .iload 6, 2), (126, .ifCond .le 26, 3), (129, .aload_n 0, 1), (130, .getfield 15, 3), (133, .iload 6, 2), (135, .iconst 1, 1), (136, .isub, 1), (137, .iconst 1, 1), (138, .aload_n 0, 1), (139, .getfield 15, 3), (142, .iload 6, 2), (144, .iconst 1, 1), (145, .isub, 1), (146, .iaload, 1), (147, .isub, 1), (148, .iastore, 1), (149, .goto 212, 3), (152, .iload 8, 2), (154, .sipush 1005, 3), (157, .if_icmp .le 204, 3), (160, .iload 6, 2), (162, .iconst 1, 1), (163, .if_icmp .le 198, 3), (166, .iinc 6 (-1), 3), (169, .aload_n 0, 1), (170, .getfield 15, 3), (173, .iload 6, 2), (175, .iconst 1, 1), (176, .isub, 1), (177, .iaload, 1), (178, .i2l, 1), (179, .lstore 9, 2), (181, .aload_n 0, 1), (182, .getfield 15, 3), (185, .iload 6, 2), (187, .iaload, 1), (188, .i2l, 1), (189, .lstore 11, 2), (191, .iload 8, 2), (193, .tableswitch 137 1006 1012 #[43, 53, 63, 81, 99, 117, 127], 43), (236, .lload 9, 2), (238, .lload 11, 2), (240, .land, 1), (241, .lstore 13, 2), (243, .goto 94, 3), (246, .lload 9, 2), (248, .lload 11, 2), (250, .lor, 1), (251, .lstore 13, 2), (253, .goto 84, 3), (256, .lload 9, 2), (258, .lload 11, 2), (260, .lcmp, 1), (261, .ifCond .ne 7, 3), (264, .lconst 1, 1), (265, .goto 4, 3), (268, .lconst 0, 1), (269, .lstore 13, 2), (271, .goto 66, 3), (274, .lload 9, 2), (276, .lload 11, 2), (278, .lcmp, 1), (279, .ifCond .ge 7, 3), (282, .lconst 1, 1), (283, .goto 4, 3), (286, .lconst 0, 1), (287, .lstore 13, 2), (289, .goto 48, 3), (292, .lload 9, 2), (294, .lload 11, 2), (296, .lcmp, 1), (297, .ifCond .le 7, 3), (300, .lconst 1, 1), (301, .goto 4, 3), (304, .lconst 0, 1), (305, .lstore 13, 2), (307, .goto 30, 3), (310, .lload 9, 2), (312, .lload 11, 2), (314, .ladd, 1), (315, .lstore 13, 2), (317, .goto 20, 3), (320, .lload 9, 2), (322, .lload 11, 2), (324, .lsub, 1), (325, .lstore 13, 2), (327, .goto 10, 3), (330, .lload 9, 2), (332, .lload 11, 2), (334, .lmul, 1), (335, .lstore 13, 2), (337, .aload_n 0, 1), (338, .getfield 15, 3), (341, .iload 6, 2), (343, .iconst 1, 1), (344, .isub, 1), (345, .ldc2_w 28, 3), (348, .ldc2_w 30, 3), (351, .lload 13, 2), (353, .invokestatic 32, 3), (356, .invokestatic 38, 3), (359, .l2i, 1), (360, .iastore, 1), (361, .iinc 7 1, 3), (364, .goto (-358), 3), (367, .aload_n 0, 1), (368, .getfield 15, 3), (371, .iconst 0, 1), (372, .iaload, 1), (373, .ireturn, 1)])
theorem qmX2_value_ok : QMK qmX2_value := qmk_of 915 (by decide +kernel)
def qmX3_init : QMeth := (3, yX3_init, cX3_init, 2, none, [(0, .aload_n 0, 1), (1, .invokespecial 3, 3), (4, .aload_n 0, 1), (5, .bipush 10, 2), (7, .anewarray 9, 3), (10, .putfield 11, 3), (13, .iconst 0, 1), (14, .istore_n 1, 1), (15, .iload_n 1, 1), (16, .bipush 10, 2), (18, .if_icmp .ge 22, 3), (21, .aload_n 0, 1), (22, .getfield 11, 3), (25, .iload_n 1, 1), (26, .new 9, 3), (29, .dup, 1), (30, .invokespecial 17, 3), (33, .aastore, 1), (34, .iinc 1 1, 3), (37, .goto (-22), 3), (40, .return_, 1)])
theorem qmX3_init_ok : QMK qmX3_init := qmk_of 352 (by decide +kernel)
def qmX3_forget : QMeth := (3, yX3_forget, cX3_forget, 1, none, [(0, .aload_n 0, 1), (1, .iconst 0, 1), (2, .putfield 18, 3), (5, .return_, 1)])
theorem qmX3_forget_ok : QMK qmX3_forget := qmk_of 835 (by decide +kernel)
def qmX3_keep : QMeth := (3, yX3_keep, cX3_keep, 2, none, [(0, .aload_n 0, 1), (1, .getfield 11, 3), (4, .aload_n 0, 1), (5, .getfield 22, 3), (8, .aaload, 1), (9, .aload_n 1, 1), (10, .invokevirtual 25, 3), (13, .aload_n 0, 1), (14, .aload_n 0, 1), (15, .getfield 22, 3), (18, .iconst 1, 1), (19, .iadd, 1), (20, .bipush 10, 2), (22, .irem, 1), (23, .putfield 22, 3), (26, .aload_n 0, 1), (27, .aload_n 0, 1), (28, .getfield 18, 3), (31, .iconst 1, 1), (32, .iadd, 1), (33, .bipush 10, 2), (35, .invokestatic 29, 3), (38, .putfield 18, 3), (41, .return_, 1)])
theorem qmX3_keep_ok : QMK qmX3_keep := qmk_of 957 (by decide +kernel)
def qmX3_bringBack : QMeth := (3, yX3_bringBack, cX3_bringBack, 3, none, [(0, .aload_n 0, 1), (1, .aload_n 0, 1), (2, .getfield 22, 3), (5, .iload_n 1, 1), (6, .isub, 1), (7, .bipush 10, 2), (9, .invokestatic 35, 3), (12, .putfield 22, 3), (15, .aload_n 2, 1), (16, .aload_n 0, 1), (17, .getfield 11, 3), (20, .aload_n 0, 1), (21, .getfield 22, 3), (24, .aaload, 1), (25, .invokevirtual 25, 3), (28, .aload_n 0, 1), (29, .dup, 1), (30, .getfield 18, 3), (33, .iload_n 1, 1), (34, .isub, 1), (35, .putfield 18, 3), (38, .return_, 1)])
theorem qmX3_bringBack_ok : QMK qmX3_bringBack := qmk_of 1043 (by decide +kernel)
def qmX4_init : QMeth := (4, yX4_init, cX4_init, 1, none, [(0, .aload_n 0, 1), (1, .invokespecial 3, 3), (4, .aload_n 0, 1), (5, .bipush 6, 2), (7, .newarray .int, 2), (9, .putfield 9, 3), (12, .aload_n 0, 1), (13, .bipush 36, 2), (15, .newarray .int, 2), (17, .putfield 15, 3), (20, .aload_n 0, 1), (21, .bipush 64, 2), (23, .newarray .int, 2), (25, .putfield 18, 3), (28, .return_, 1)])
theorem qmX4_init_ok : QMK qmX4_init := qmk_of 438 (by decide +kernel)
def qmX4_lookAt : QMeth := (4, yX4_lookAt, cX4_lookAt, 4, none, [(0, .aload_n 0, 1), (1, .getfield 9, 3), (4, .iconst 0, 1), (5, .invokestatic 21, 3), (8, .aload_n 0, 1), (9, .getfield 15, 3), (12, .iconst 0, 1), (13, .invokestatic 21, 3), (16, .aload_n 0, 1), (17, .iconst 0, 1), (18, .putfield 27, 3), (21, .iconst 0, 1), (22, .istore_n 3, 1), (23, .iload_n 3, 1), (24, .aload_n 1, 1), (25, .getfield 31, 3), (28, .if_icmp .ge 40, 3), (31, .iload_n 3, 1), (32, .bipush 6, 2), (34, .if_icmp .ge 34, 3), (37, .aload_n 0, 1), (38, .dup, 1), (39, .getfield 27, 3), (42, .aload_n 2, 1), (43, .getfield 36, 3), (46, .iload_n 3, 1), (47, .iaload, 1), (48, .ifCond .le 9, 3), (51, .iconst 1, 1), (52, .iload_n 3, 1), (53, .ishl, 1), (54, .goto 4, 3), (57, .iconst 0, 1), (58, .ior, 1), (59, .putfield 27, 3), (62, .iinc 3 1, 3), (65, .goto (-42), 3), (68, .iconst 0, 1), (69, .istore_n 3, 1), (70, .iload_n 3, 1), (71, .aload_n 1, 1), (72, .invokevirtual 41, 3), (75, .if_icmp .ge 65, 3), (78, .aload_n 2, 1), (79, .iload_n 3, 1), (80, .invokevirtual 45, 3), (83, .iconst 2, 1), (84, .if_icmp .ne 50, 3), (87, .aload_n 0, 1), (88, .getfield 9, 3), (91, .aload_n 2, 1), (92, .getfield 48, 3), (95, .iload_n 3, 1), (96, .iaload, 1), (97, .dup2, 1), (98, .iaload, 1), (99, .iconst 1, 1), (100, .aload_n 2, 1), (101, .getfield 51, 3), (104, .iload_n 3, 1), (105, .iaload, 1), (106, .ishl, 1), (107, .ior, 1), (108, .iastore, 1), (109, .aload_n 0, 1), (110, .getfield 15, 3), (113, .aload_n 2, 1), (114, .getfield 51, 3), (117, .iload_n 3, 1), (118, .iaload, 1), (119, .bipush 6, 2), (121, .imul, 1), (122, .aload_n 2, 1), (123, .getfield 48, 3), (126, .iload_n 3, 1), (127, .iaload, 1), (128, .iadd, 1), (129, .dup2, 1), (130, .iaload, 1), (131, .iconst 1, 1), (132, .iadd, 1), (133, .iastore, 1), (134, .iinc 3 1, 3), (137, .goto (-67), 3), (140, .return_, 1)])
theorem qmX4_lookAt_ok : QMK qmX4_lookAt := qmk_of 1225 (by decide +kernel)
def qmX4_allOver : QMeth := (4, yX4_allOver, cX4_allOver, 5, (some .int), [(0, .aload_n 0, 1), (1, .getfield 9, 3), (4, .iload_n 1, 1), (5, .iaload, 1), (6, .istore_n 2, 1), (7, .iconst 0, 1), (8, .istore_n 3, 1), (9, .iload_n 3, 1), (10, .bipush 6, 2), (12, .if_icmp .ge 49, 3), (15, .iconst 0, 1), (16, .istore 4, 2), (18, .iload 4, 2), (20, .bipush 6, 2), (22, .if_icmp .ge 33, 3), (25, .iload_n 2, 1), (26, .iload_n 2, 1), (27, .iload 4, 2), (29, .ishr, 1), (30, .iconst 1, 1), (31, .iand, 1), (32, .iconst 1, 1), (33, .if_icmp .ne 13, 3), (36, .aload_n 0, 1), (37, .getfield 9, 3), (40, .iload 4, 2), (42, .iaload, 1), (43, .goto 4, 3), (46, .iconst 0, 1), (47, .ior, 1), (48, .istore_n 2, 1), (49, .iinc 4 1, 3), (52, .goto (-34), 3), (55, .iinc 3 1, 3), (58, .goto (-49), 3), (61, .iload_n 2, 1), (62, .ireturn, 1)])
theorem qmX4_allOver_ok : QMK qmX4_allOver := qmk_of 1236 (by decide +kernel)
def qmX4_firstFree : QMeth := (4, yX4_firstFree, cX4_firstFree, 3, (some .int), [(0, .iconst 0, 1), (1, .istore_n 2, 1), (2, .iload_n 2, 1), (3, .bipush 6, 2), (5, .if_icmp .ge 31, 3), (8, .iload_n 1, 1), (9, .iload_n 2, 1), (10, .ishr, 1), (11, .iconst 1, 1), (12, .iand, 1), (13, .iconst 1, 1), (14, .if_icmp .ne 16, 3), (17, .aload_n 0, 1), (18, .getfield 9, 3), (21, .iload_n 2, 1), (22, .iaload, 1), (23, .iload_n 1, 1), (24, .iand, 1), (25, .ifCond .ne 5, 3), (28, .iload_n 2, 1), (29, .ireturn, 1), (30, .iinc 2 1, 3), (33, .goto (-31), 3), (36, .iconst (-1), 1), (37, .ireturn, 1)])
theorem qmX4_firstFree_ok : QMK qmX4_firstFree := qmk_of 1244 (by decide +kernel)
def qmX4_fewestTurned : QMeth := (4, yX4_fewestTurned, cX4_fewestTurned, 5, (some .int), [(0, .aload_n 0, 1), (1, .getfield 18, 3), (4, .sipush 1000, 3), (7, .invokestatic 21, 3), (10, .aload_n 0, 1), (11, .getfield 18, 3), (14, .iconst 0, 1), (15, .iconst 0, 1), (16, .iastore, 1), (17, .iconst 0, 1), (18, .istore_n 1, 1), (19, .iload_n 1, 1), (20, .aload_n 0, 1), (21, .getfield 27, 3), (24, .if_icmp .ge 90, 3), (27, .aload_n 0, 1), (28, .getfield 27, 3), (31, .iload_n 1, 1), (32, .iconst (-1), 1), (33, .ixor, 1), (34, .iand, 1), (35, .istore_n 2, 1), (36, .iconst 0, 1), (37, .istore_n 3, 1), (38, .iload_n 3, 1), (39, .bipush 6, 2), (41, .if_icmp .ge 67, 3), (44, .aload_n 0, 1), (45, .getfield 18, 3), (48, .iload_n 1, 1), (49, .iaload, 1), (50, .sipush 1000, 3), (53, .if_icmp .eq 49, 3), (56, .iload_n 2, 1), (57, .iload_n 3, 1), (58, .ishr, 1), (59, .iconst 1, 1), (60, .iand, 1), (61, .iconst 1, 1), (62, .if_icmp .ne 40, 3), (65, .iload_n 1, 1), (66, .iconst 1, 1), (67, .iload_n 3, 1), (68, .ishl, 1), (69, .ior, 1), (70, .istore 4, 2), (72, .aload_n 0, 1), (73, .getfield 18, 3), (76, .iload 4, 2), (78, .aload_n 0, 1), (79, .getfield 18, 3), (82, .iload 4, 2), (84, .iaload, 1), (85, .aload_n 0, 1), (86, .getfield 18, 3), (89, .iload_n 1, 1), (90, .iaload, 1), (91, .aload_n 0, 1), (92, .iload_n 3, 1), (93, .iload_n 2, 1), (94, .invokevirtual 54, 3), (97, .iadd, 1), (98, .invokestatic 58, 3), (101, .iastore, 1), (102, .iinc 3 1, 3), (105, .goto (-67), 3), (108, .iinc 1 1, 3), (111, .goto (-92), 3), (114, .aload_n 0, 1), (115, .getfield 18, 3), (118, .aload_n 0, 1), (119, .getfield 27, 3), (122, .iaload, 1), (123, .ireturn, 1)])
theorem qmX4_fewestTurned_ok : QMK qmX4_fewestTurned := qmk_of 1256 (by decide +kernel)
def qmX4_timesUnder : QMeth := (4, yX4_timesUnder, cX4_timesUnder, 5, (some .int), [(0, .iconst 0, 1), (1, .istore_n 3, 1), (2, .iconst 0, 1), (3, .istore 4, 2), (5, .iload 4, 2), (7, .bipush 6, 2), (9, .if_icmp .ge 38, 3), (12, .iload_n 3, 1), (13, .iload_n 2, 1), (14, .iload 4, 2), (16, .ishr, 1), (17, .iconst 1, 1), (18, .iand, 1), (19, .iconst 1, 1), (20, .if_icmp .ne 18, 3), (23, .aload_n 0, 1), (24, .getfield 15, 3), (27, .iload 4, 2), (29, .bipush 6, 2), (31, .imul, 1), (32, .iload_n 1, 1), (33, .iadd, 1), (34, .iaload, 1), (35, .goto 4, 3), (38, .iconst 0, 1), (39, .iadd, 1), (40, .istore_n 3, 1), (41, .iinc 4 1, 3), (44, .goto (-39), 3), (47, .iload_n 3, 1), (48, .ireturn, 1)])
theorem qmX4_timesUnder_ok : QMK qmX4_timesUnder := qmk_of 1260 (by decide +kernel)
def qmX4_howManyOrders : QMeth := (4, yX4_howManyOrders, cX4_howManyOrders, 4, (some .int), [(0, .aload_n 0, 1), (1, .getfield 18, 3), (4, .iconst 0, 1), (5, .invokestatic 21, 3), (8, .aload_n 0, 1), (9, .getfield 18, 3), (12, .iconst 0, 1), (13, .iconst 1, 1), (14, .iastore, 1), (15, .iconst 0, 1), (16, .istore_n 1, 1), (17, .iload_n 1, 1), (18, .aload_n 0, 1), (19, .getfield 27, 3), (22, .if_icmp .ge 71, 3), (25, .aload_n 0, 1), (26, .getfield 27, 3), (29, .iload_n 1, 1), (30, .iconst (-1), 1), (31, .ixor, 1), (32, .iand, 1), (33, .istore_n 2, 1), (34, .iconst 0, 1), (35, .istore_n 3, 1), (36, .iload_n 3, 1), (37, .bipush 6, 2), (39, .if_icmp .ge 48, 3), (42, .iload_n 2, 1), (43, .iload_n 3, 1), (44, .ishr, 1), (45, .iconst 1, 1), (46, .iand, 1), (47, .iconst 1, 1), (48, .if_icmp .ne 33, 3), (51, .aload_n 0, 1), (52, .getfield 9, 3), (55, .iload_n 3, 1), (56, .iaload, 1), (57, .iload_n 2, 1), (58, .iand, 1), (59, .ifCond .ne 22, 3), (62, .aload_n 0, 1), (63, .getfield 18, 3), (66, .iload_n 1, 1), (67, .iconst 1, 1), (68, .iload_n 3, 1), (69, .ishl, 1), (70, .ior, 1), (71, .dup2, 1), (72, .iaload, 1), (73, .aload_n 0, 1), (74, .getfield 18, 3), (77, .iload_n 1, 1), (78, .iaload, 1), (79, .iadd, 1), (80, .iastore, 1), (81, .iinc 3 1, 3), (84, .goto (-48), 3), (87, .iinc 1 1, 3), (90, .goto (-73), 3), (93, .aload_n 0, 1), (94, .getfield 18, 3), (97, .aload_n 0, 1), (98, .getfield 27, 3), (101, .iaload, 1), (102, .ireturn, 1)])
theorem qmX4_howManyOrders_ok : QMK qmX4_howManyOrders := qmk_of 1269 (by decide +kernel)
def qmX5_init : QMeth := (5, yX5_init, cX5_init, 1, none, [(0, .aload_n 0, 1), (1, .invokespecial 3, 3), (4, .aload_n 0, 1), (5, .iconst (-1), 1), (6, .putfield 9, 3), (9, .aload_n 0, 1), (10, .new 15, 3), (13, .dup, 1), (14, .invokespecial 17, 3), (17, .putfield 18, 3), (20, .aload_n 0, 1), (21, .new 22, 3), (24, .dup, 1), (25, .invokespecial 24, 3), (28, .putfield 25, 3), (31, .aload_n 0, 1), (32, .aload_n 0, 1), (33, .getfield 18, 3), (36, .getfield 29, 3), (39, .putfield 33, 3), (42, .return_, 1)])
theorem qmX5_init_ok : QMK qmX5_init := qmk_of 154 (by decide +kernel)
def qmX5_read : QMeth := (5, yX5_read, cX5_read, 4, (some .boolean), [(0, .aload_n 0, 1), (1, .iconst 0, 1), (2, .putfield 36, 3), (5, .aload_n 0, 1), (6, .iconst (-1), 1), (7, .putfield 9, 3), (10, .aload_n 0, 1), (11, .iconst 0, 1), (12, .putfield 39, 3), (15, .aload_n 0, 1), (16, .getfield 18, 3), (19, .invokevirtual 42, 3), (22, .aload_n 0, 1), (23, .getfield 25, 3), (26, .aload_n 1, 1), (27, .iload_n 2, 1), (28, .invokevirtual 45, 3), (31, .aload_n 0, 1), (32, .invokevirtual 49, 3), (35, .ifCond .ne 5, 3), (38, .iconst 0, 1), (39, .ireturn, 1), (40, .iconst 0, 1), (41, .istore_n 3, 1), (42, .iload_n 3, 1), (43, .sipush 900, 3), (46, .if_icmp .ge 47, 3), (49, .aload_n 0, 1), (50, .invokevirtual 53, 3), (53, .ifCond .eq 40, 3), (56, .aload_n 0, 1), (57, .invokevirtual 57, 3), (60, .ifCond .eq 12, 3), (63, .aload_n 0, 1), (64, .bipush 59, 2), (66, .invokevirtual 60, 3), (69, .ifCond .ne 5, 3), (72, .iconst 0, 1), (73, .ireturn, 1), (74, .aload_n 0, 1), (75, .getfield 18, 3), (78, .dup, 1), (79, .getfield 64, 3), (82, .iconst 1, 1), (83, .iadd, 1), (84, .putfield 64, 3), (87, .iinc 3 1, 3), (90, .goto (-48), 3), (93, .iconst 1, 1), (94, .ireturn, 1)])
theorem qmX5_read_ok : QMK qmX5_read := qmk_of 552 (by decide +kernel)
def qmX5_kind : QMeth := (5, yX5_kind, cX5_kind, 1, (some .int), [(0, .aload_n 0, 1), (1, .getfield 25, 3), (4, .aload_n 0, 1), (5, .getfield 39, 3), (8, .invokevirtual 67, 3), (11, .ireturn, 1)])
theorem qmX5_kind_ok : QMK qmX5_kind := qmk_of 723 (by decide +kernel)
def qmX5_fail : QMeth := (5, yX5_fail, cX5_fail, 2, (some .boolean), [(0, .aload_n 0, 1), (1, .aload_n 0, 1), (2, .invokevirtual 53, 3), (5, .iconst 1, 1), (6, .if_icmp .ne 7, 3), (9, .iconst 1, 1), (10, .goto 4, 3), (13, .iload_n 1, 1), (14, .putfield 36, 3), (17, .aload_n 0, 1), (18, .aload_n 0, 1), (19, .getfield 25, 3), (22, .aload_n 0, 1), (23, .getfield 39, 3), (26, .invokevirtual 70, 3), (29, .putfield 9, 3), (32, .iconst 0, 1), (33, .ireturn, 1)])
theorem qmX5_fail_ok : QMK qmX5_fail := qmk_of 731 (by decide +kernel)
def qmX5_skip : QMeth := (5, yX5_skip, cX5_skip, 2, (some .boolean), [(0, .aload_n 0, 1), (1, .invokevirtual 53, 3), (4, .iload_n 1, 1), (5, .if_icmp .eq 9, 3), (8, .aload_n 0, 1), (9, .iconst 2, 1), (10, .invokevirtual 72, 3), (13, .ireturn, 1), (14, .aload_n 0, 1), (15, .dup, 1), (16, .getfield 39, 3), (19, .iconst 1, 1), (20, .iadd, 1), (21, .putfield 39, 3), (24, .iconst 1, 1), (25, .ireturn, 1)])
theorem qmX5_skip_ok : QMK qmX5_skip := qmk_of 719 (by decide +kernel)
def qmX5_readNumber : QMeth := (5, yX5_readNumber, cX5_readNumber, 4, (some .int), [(0, .aload_n 0, 1), (1, .invokevirtual 53, 3), (4, .iconst 2, 1), (5, .if_icmp .eq 11, 3), (8, .aload_n 0, 1), (9, .iconst 2, 1), (10, .invokevirtual 72, 3), (13, .pop, 1), (14, .iconst (-1), 1), (15, .ireturn, 1), (16, .aload_n 0, 1), (17, .getfield 25, 3), (20, .aload_n 0, 1), (21, .getfield 39, 3), (24, .invokevirtual 75, 3), (27, .istore_n 3, 1), (28, .iload_n 3, 1), (29, .iload_n 1, 1), (30, .if_icmp .lt 8, 3), (33, .iload_n 3, 1), (34, .iload_n 2, 1), (35, .if_icmp .le 11, 3), (38, .aload_n 0, 1), (39, .iconst 3, 1), (40, .invokevirtual 72, 3), (43, .pop, 1), (44, .iconst (-1), 1), (45, .ireturn, 1), (46, .aload_n 0, 1), (47, .dup, 1), (48, .getfield 39, 3), (51, .iconst 1, 1), (52, .iadd, 1), (53, .putfield 39, 3), (56, .iload_n 3, 1), (57, .ireturn, 1)])
theorem qmX5_readNumber_ok : QMK qmX5_readNumber := qmk_of 739 (by decide +kernel)
def qmX5_readLand : QMeth := (5, yX5_readLand, cX5_readLand, 3, (some .boolean), [(0, .aload_n 0, 1), (1, .sipush 200, 3), (4, .invokevirtual 60, 3), (7, .ifCond .ne 5, 3), (10, .iconst 0, 1), (11, .ireturn, 1), (12, .aload_n 0, 1), (13, .iconst 2, 1), (14, .bipush 6, 2), (16, .invokevirtual 78, 3), (19, .istore_n 1, 1), (20, .iload_n 1, 1), (21, .iconst (-1), 1), (22, .if_icmp .ne 5, 3), (25, .iconst 0, 1), (26, .ireturn, 1), (27, .aload_n 0, 1), (28, .iconst 2, 1), (29, .bipush 6, 2), (31, .invokevirtual 78, 3), (34, .istore_n 2, 1), (35, .iload_n 2, 1), (36, .iconst (-1), 1), (37, .if_icmp .ne 5, 3), (40, .iconst 0, 1), (41, .ireturn, 1), (42, .aload_n 0, 1), (43, .getfield 18, 3), (46, .iload_n 1, 1), (47, .putfield 82, 3), (50, .aload_n 0, 1), (51, .getfield 18, 3), (54, .iload_n 2, 1), (55, .putfield 85, 3), (58, .aload_n 0, 1), (59, .getfield 18, 3), (62, .iconst 1, 1), (63, .putfield 64, 3), (66, .aload_n 0, 1), (67, .bipush 59, 2), (69, .invokevirtual 60, 3), (72, .ireturn, 1)])
theorem qmX5_readLand_ok : QMK qmX5_readLand := qmk_of 715 (by decide +kernel)
def qmX5_readLine : QMeth := (5, yX5_readLine, cX5_readLine, 1, (some .boolean), [(0, .aload_n 0, 1), (1, .invokevirtual 53, 3), (4, .tableswitch 74 201 207 #[44, 49, 74, 54, 59, 64, 69], 44), (48, .aload_n 0, 1), (49, .invokevirtual 88, 3), (52, .ireturn, 1), (53, .aload_n 0, 1), (54, .invokevirtual 91, 3), (57, .ireturn, 1), (58, .aload_n 0, 1), (59, .invokevirtual 94, 3), (62, .ireturn, 1), (63, .aload_n 0, 1), (64, .invokevirtual 97, 3), (67, .ireturn, 1), (68, .aload_n 0, 1), (69, .invokevirtual 100, 3), (72, .ireturn, 1), (73, .aload_n 0, 1), (74, .invokevirtual 103, 3), (77, .ireturn, 1), (78, .aload_n 0, 1), (79, .iconst 2, 1), (80, .invokevirtual 72, 3), (83, .ireturn, 1)])
theorem qmX5_readLine_ok : QMK qmX5_readLine := qmk_of 747 (by decide +kernel)
def qmX5_readWet : QMeth := (5, yX5_readWet, cX5_readWet, 1, (some .boolean), [(0, .aload_n 0, 1), (1, .dup, 1), (2, .getfield 39, 3), (5, .iconst 1, 1), (6, .iadd, 1), (7, .putfield 39, 3), (10, .aload_n 0, 1), (11, .getfield 18, 3), (14, .aload_n 0, 1), (15, .iconst 0, 1), (16, .bipush 9, 2), (18, .invokevirtual 78, 3), (21, .putfield 106, 3), (24, .aload_n 0, 1), (25, .getfield 18, 3), (28, .getfield 106, 3), (31, .iconst (-1), 1), (32, .if_icmp .eq 7, 3), (35, .iconst 1, 1), (36, .goto 4, 3), (39, .iconst 0, 1), (40, .ireturn, 1)])
theorem qmX5_readWet_ok : QMK qmX5_readWet := qmk_of 817 (by decide +kernel)
def qmX5_readHour : QMeth := (5, yX5_readHour, cX5_readHour, 1, (some .boolean), [(0, .aload_n 0, 1), (1, .dup, 1), (2, .getfield 39, 3), (5, .iconst 1, 1), (6, .iadd, 1), (7, .putfield 39, 3), (10, .aload_n 0, 1), (11, .getfield 18, 3), (14, .aload_n 0, 1), (15, .iconst 0, 1), (16, .sipush 999, 3), (19, .invokevirtual 78, 3), (22, .putfield 109, 3), (25, .aload_n 0, 1), (26, .getfield 18, 3), (29, .getfield 109, 3), (32, .iconst (-1), 1), (33, .if_icmp .eq 7, 3), (36, .iconst 1, 1), (37, .goto 4, 3), (40, .iconst 0, 1), (41, .ireturn, 1)])
theorem qmX5_readHour_ok : QMK qmX5_readHour := qmk_of 821 (by decide +kernel)
def qmX5_readEmptyCell : QMeth := (5, yX5_readEmptyCell, cX5_readEmptyCell, 4, (some .int), [(0, .aload_n 0, 1), (1, .iconst 0, 1), (2, .aload_n 0, 1), (3, .getfield 18, 3), (6, .getfield 82, 3), (9, .iconst 1, 1), (10, .isub, 1), (11, .invokevirtual 78, 3), (14, .istore_n 1, 1), (15, .iload_n 1, 1), (16, .iconst (-1), 1), (17, .if_icmp .ne 5, 3), (20, .iconst (-1), 1), (21, .ireturn, 1), (22, .aload_n 0, 1), (23, .iconst 0, 1), (24, .aload_n 0, 1), (25, .getfield 18, 3), (28, .getfield 85, 3), (31, .iconst 1, 1), (32, .isub, 1), (33, .invokevirtual 78, 3), (36, .istore_n 2, 1), (37, .iload_n 2, 1), (38, .iconst (-1), 1), (39, .if_icmp .ne 5, 3), (42, .iconst (-1), 1), (43, .ireturn, 1), (44, .aload_n 0, 1), (45, .getfield 18, 3), (48, .getfield 82, 3), (51, .iload_n 2, 1), (52, .imul, 1), (53, .iload_n 1, 1), (54, .iadd, 1), (55, .istore_n 3, 1), (56, .aload_n 0, 1), (57, .getfield 18, 3), (60, .iload_n 3, 1), (61, .invokevirtual 112, 3), (64, .ifCond .eq 15, 3), (67, .aload_n 0, 1), (68, .getfield 18, 3), (71, .getfield 115, 3), (74, .iload_n 3, 1), (75, .iaload, 1), (76, .ifCond .eq 21, 3), (79, .aload_n 0, 1), (80, .dup, 1), (81, .getfield 39, 3), (84, .iconst 1, 1), (85, .isub, 1), (86, .putfield 39, 3), (89, .aload_n 0, 1), (90, .iconst 3, 1), (91, .invokevirtual 72, 3), (94, .pop, 1), (95, .iconst (-1), 1), (96, .ireturn, 1), (97, .iload_n 3, 1), (98, .ireturn, 1)])
theorem qmX5_readEmptyCell_ok : QMK qmX5_readEmptyCell := qmk_of 755 (by decide +kernel)
def qmX5_readRock : QMeth := (5, yX5_readRock, cX5_readRock, 2, (some .boolean), [(0, .aload_n 0, 1), (1, .dup, 1), (2, .getfield 39, 3), (5, .iconst 1, 1), (6, .iadd, 1), (7, .putfield 39, 3), (10, .aload_n 0, 1), (11, .invokevirtual 119, 3), (14, .istore_n 1, 1), (15, .iload_n 1, 1), (16, .iconst (-1), 1), (17, .if_icmp .ne 5, 3), (20, .iconst 0, 1), (21, .ireturn, 1), (22, .aload_n 0, 1), (23, .getfield 18, 3), (26, .getfield 115, 3), (29, .iload_n 1, 1), (30, .iconst 1, 1), (31, .iastore, 1), (32, .aload_n 0, 1), (33, .getfield 18, 3), (36, .dup, 1), (37, .getfield 122, 3), (40, .iconst 1, 1), (41, .iadd, 1), (42, .putfield 122, 3), (45, .iconst 1, 1), (46, .ireturn, 1)])
theorem qmX5_readRock_ok : QMK qmX5_readRock := qmk_of 751 (by decide +kernel)
def qmX5_readDrum : QMeth := (5, yX5_readDrum, cX5_readDrum, 3, (some .boolean), [(0, .aload_n 0, 1), (1, .getfield 18, 3), (4, .getfield 125, 3), (7, .bipush 6, 2), (9, .if_icmp .lt 9, 3), (12, .aload_n 0, 1), (13, .iconst 4, 1), (14, .invokevirtual 72, 3), (17, .ireturn, 1), (18, .aload_n 0, 1), (19, .dup, 1), (20, .getfield 39, 3), (23, .iconst 1, 1), (24, .iadd, 1), (25, .putfield 39, 3), (28, .aload_n 0, 1), (29, .invokevirtual 119, 3), (32, .istore_n 1, 1), (33, .iload_n 1, 1), (34, .iconst (-1), 1), (35, .if_icmp .eq 13, 3), (38, .aload_n 0, 1), (39, .sipush 203, 3), (42, .invokevirtual 60, 3), (45, .ifCond .ne 5, 3), (48, .iconst 0, 1), (49, .ireturn, 1), (50, .aload_n 0, 1), (51, .iconst 0, 1), (52, .sipush 999, 3), (55, .invokevirtual 78, 3), (58, .istore_n 2, 1), (59, .iload_n 2, 1), (60, .iconst (-1), 1), (61, .if_icmp .ne 5, 3), (64, .iconst 0, 1), (65, .ireturn, 1), (66, .aload_n 0, 1), (67, .getfield 18, 3), (70, .getfield 115, 3), (73, .iload_n 1, 1), (74, .iconst 2, 1), (75, .iastore, 1), (76, .aload_n 0, 1), (77, .getfield 18, 3), (80, .getfield 128, 3), (83, .aload_n 0, 1), (84, .getfield 18, 3), (87, .getfield 125, 3), (90, .iload_n 1, 1), (91, .iastore, 1), (92, .aload_n 0, 1), (93, .getfield 18, 3), (96, .getfield 131, 3), (99, .aload_n 0, 1), (100, .getfield 18, 3), (103, .getfield 125, 3), (106, .iload_n 2, 1), (107, .iastore, 1), (108, .aload_n 0, 1), (109, .getfield 18, 3), (112, .dup, 1), (113, .getfield 125, 3), (116, .iconst 1, 1), (117, .iadd, 1), (118, .putfield 125, 3), (121, .iconst 1, 1), (122, .ireturn, 1)])
theorem qmX5_readDrum_ok : QMK qmX5_readDrum := qmk_of 768 (by decide +kernel)
def qmX5_readTakes : QMeth := (5, yX5_readTakes, cX5_readTakes, 1, (some .boolean), [(0, .aload_n 0, 1), (1, .dup, 1), (2, .getfield 39, 3), (5, .iconst 1, 1), (6, .iadd, 1), (7, .putfield 39, 3), (10, .aload_n 0, 1), (11, .aload_n 0, 1), (12, .getfield 18, 3), (15, .getfield 29, 3), (18, .putfield 33, 3), (21, .aload_n 0, 1), (22, .getfield 33, 3), (25, .invokevirtual 134, 3), (28, .aload_n 0, 1), (29, .iconst 0, 1), (30, .putfield 137, 3), (33, .aload_n 0, 1), (34, .bipush 58, 2), (36, .invokevirtual 60, 3), (39, .ifCond .eq 15, 3), (42, .aload_n 0, 1), (43, .iconst 0, 1), (44, .invokevirtual 141, 3), (47, .ifCond .eq 7, 3), (50, .iconst 1, 1), (51, .goto 4, 3), (54, .iconst 0, 1), (55, .ireturn, 1)])
theorem qmX5_readTakes_ok : QMK qmX5_readTakes := qmk_of 772 (by decide +kernel)
def qmX5_readMay : QMeth := (5, yX5_readMay, cX5_readMay, 1, (some .boolean), [(0, .aload_n 0, 1), (1, .dup, 1), (2, .getfield 39, 3), (5, .iconst 1, 1), (6, .iadd, 1), (7, .putfield 39, 3), (10, .aload_n 0, 1), (11, .aload_n 0, 1), (12, .getfield 18, 3), (15, .getfield 144, 3), (18, .putfield 33, 3), (21, .aload_n 0, 1), (22, .getfield 33, 3), (25, .invokevirtual 134, 3), (28, .aload_n 0, 1), (29, .iconst 1, 1), (30, .putfield 137, 3), (33, .aload_n 0, 1), (34, .bipush 58, 2), (36, .invokevirtual 60, 3), (39, .ifCond .eq 15, 3), (42, .aload_n 0, 1), (43, .iconst 0, 1), (44, .invokevirtual 147, 3), (47, .ifCond .eq 7, 3), (50, .iconst 1, 1), (51, .goto 4, 3), (54, .iconst 0, 1), (55, .ireturn, 1)])
theorem qmX5_readMay_ok : QMK qmX5_readMay := qmk_of 797 (by decide +kernel)
def qmX5_readTruth : QMeth := (5, yX5_readTruth, cX5_readTruth, 3, (some .boolean), [(0, .aload_n 0, 1), (1, .iload_n 1, 1), (2, .invokevirtual 150, 3), (5, .ifCond .ne 5, 3), (8, .iconst 0, 1), (9, .ireturn, 1), (10, .iconst 0, 1), (11, .istore_n 2, 1), (12, .iload_n 2, 1), (13, .sipush 900, 3), (16, .if_icmp .ge 49, 3), (19, .aload_n 0, 1), (20, .invokevirtual 53, 3), (23, .sipush 211, 3), (26, .if_icmp .ne 39, 3), (29, .aload_n 0, 1), (30, .dup, 1), (31, .getfield 39, 3), (34, .iconst 1, 1), (35, .iadd, 1), (36, .putfield 39, 3), (39, .aload_n 0, 1), (40, .iload_n 1, 1), (41, .invokevirtual 150, 3), (44, .ifCond .ne 5, 3), (47, .iconst 0, 1), (48, .ireturn, 1), (49, .aload_n 0, 1), (50, .getfield 33, 3), (53, .sipush 1007, 3), (56, .invokevirtual 153, 3), (59, .iinc 2 1, 3), (62, .goto (-50), 3), (65, .iconst 1, 1), (66, .ireturn, 1)])
theorem qmX5_readTruth_ok : QMK qmX5_readTruth := qmk_of 801 (by decide +kernel)
def qmX5_readBoth : QMeth := (5, yX5_readBoth, cX5_readBoth, 3, (some .boolean), [(0, .aload_n 0, 1), (1, .iload_n 1, 1), (2, .invokevirtual 157, 3), (5, .ifCond .ne 5, 3), (8, .iconst 0, 1), (9, .ireturn, 1), (10, .iconst 0, 1), (11, .istore_n 2, 1), (12, .iload_n 2, 1), (13, .sipush 900, 3), (16, .if_icmp .ge 49, 3), (19, .aload_n 0, 1), (20, .invokevirtual 53, 3), (23, .sipush 212, 3), (26, .if_icmp .ne 39, 3), (29, .aload_n 0, 1), (30, .dup, 1), (31, .getfield 39, 3), (34, .iconst 1, 1), (35, .iadd, 1), (36, .putfield 39, 3), (39, .aload_n 0, 1), (40, .iload_n 1, 1), (41, .invokevirtual 157, 3), (44, .ifCond .ne 5, 3), (47, .iconst 0, 1), (48, .ireturn, 1), (49, .aload_n 0, 1), (50, .getfield 33, 3), (53, .sipush 1006, 3), (56, .invokevirtual 153, 3), (59, .iinc 2 1, 3), (62, .goto (-50), 3), (65, .iconst 1, 1), (66, .ireturn, 1)])
theorem qmX5_readBoth_ok : QMK qmX5_readBoth := qmk_of 805 (by decide +kernel)
def qmX5_readUnit : QMeth := (5, yX5_readUnit, cX5_readUnit, 3, (some .boolean), [(0, .aload_n 0, 1), (1, .invokevirtual 53, 3), (4, .istore_n 2, 1), (5, .iload_n 2, 1), (6, .sipush 213, 3), (9, .if_icmp .eq 15, 3), (12, .iload_n 2, 1), (13, .bipush 91, 2), (15, .if_icmp .eq 9, 3), (18, .aload_n 0, 1), (19, .iload_n 1, 1), (20, .invokevirtual 160, 3), (23, .ireturn, 1), (24, .iload_n 1, 1), (25, .bipush 6, 2), (27, .if_icmp .lt 9, 3), (30, .aload_n 0, 1), (31, .iconst 4, 1), (32, .invokevirtual 72, 3), (35, .ireturn, 1), (36, .aload_n 0, 1), (37, .dup, 1), (38, .getfield 39, 3), (41, .iconst 1, 1), (42, .iadd, 1), (43, .putfield 39, 3), (46, .iload_n 2, 1), (47, .bipush 91, 2), (49, .if_icmp .ne 28, 3), (52, .aload_n 0, 1), (53, .iload_n 1, 1), (54, .iconst 1, 1), (55, .iadd, 1), (56, .invokevirtual 147, 3), (59, .ifCond .eq 16, 3), (62, .aload_n 0, 1), (63, .bipush 93, 2), (65, .invokevirtual 60, 3), (68, .ifCond .eq 7, 3), (71, .iconst 1, 1), (72, .goto 4, 3), (75, .iconst 0, 1), (76, .ireturn, 1), (77, .aload_n 0, 1), (78, .iload_n 1, 1), (79, .iconst 1, 1), (80, .iadd, 1), (81, .invokevirtual 157, 3), (84, .ifCond .ne 5, 3), (87, .iconst 0, 1), (88, .ireturn, 1), (89, .aload_n 0, 1), (90, .getfield 33, 3), (93, .sipush 1005, 3), (96, .invokevirtual 153, 3), (99, .iconst 1, 1), (100, .ireturn, 1)])
theorem qmX5_readUnit_ok : QMK qmX5_readUnit := qmk_of 809 (by decide +kernel)
end
section
def qmX5_readComparison : QMeth := (5, yX5_readComparison, cX5_readComparison, 3, (some .boolean), [(0, .aload_n 0, 1), (1, .iload_n 1, 1), (2, .invokevirtual 141, 3), (5, .ifCond .ne 5, 3), (8, .iconst 0, 1), (9, .ireturn, 1), (10, .aload_n 0, 1), (11, .invokevirtual 53, 3), (14, .istore_n 2, 1), (15, .iload_n 2, 1), (16, .bipush 61, 2), (18, .if_icmp .eq 21, 3), (21, .iload_n 2, 1), (22, .bipush 60, 2), (24, .if_icmp .eq 15, 3), (27, .iload_n 2, 1), (28, .bipush 62, 2), (30, .if_icmp .eq 9, 3), (33, .aload_n 0, 1), (34, .iconst 2, 1), (35, .invokevirtual 72, 3), (38, .ireturn, 1), (39, .aload_n 0, 1), (40, .dup, 1), (41, .getfield 39, 3), (44, .iconst 1, 1), (45, .iadd, 1), (46, .putfield 39, 3), (49, .aload_n 0, 1), (50, .iload_n 1, 1), (51, .invokevirtual 141, 3), (54, .ifCond .ne 5, 3), (57, .iconst 0, 1), (58, .ireturn, 1), (59, .aload_n 0, 1), (60, .getfield 33, 3), (63, .iload_n 2, 1), (64, .bipush 61, 2), (66, .if_icmp .ne 9, 3), (69, .sipush 1008, 3), (72, .goto 18, 3), (75, .iload_n 2, 1), (76, .bipush 60, 2), (78, .if_icmp .ne 9, 3), (81, .sipush 1009, 3), (84, .goto 6, 3), (87, .sipush 1010, 3), (90, .invokevirtual 153, 3), (93, .iconst 1, 1), (94, .ireturn, 1)])
theorem qmX5_readComparison_ok : QMK qmX5_readComparison := qmk_of 813 (by decide +kernel)
def qmX5_readSum : QMeth := (5, yX5_readSum, cX5_readSum, 4, (some .boolean), [(0, .aload_n 0, 1), (1, .iload_n 1, 1), (2, .invokevirtual 163, 3), (5, .ifCond .ne 5, 3), (8, .iconst 0, 1), (9, .ireturn, 1), (10, .iconst 0, 1), (11, .istore_n 2, 1), (12, .iload_n 2, 1), (13, .sipush 900, 3), (16, .if_icmp .ge 74, 3), (19, .aload_n 0, 1), (20, .invokevirtual 53, 3), (23, .bipush 43, 2), (25, .if_icmp .eq 12, 3), (28, .aload_n 0, 1), (29, .invokevirtual 53, 3), (32, .bipush 45, 2), (34, .if_icmp .ne 56, 3), (37, .aload_n 0, 1), (38, .invokevirtual 53, 3), (41, .istore_n 3, 1), (42, .aload_n 0, 1), (43, .dup, 1), (44, .getfield 39, 3), (47, .iconst 1, 1), (48, .iadd, 1), (49, .putfield 39, 3), (52, .aload_n 0, 1), (53, .iload_n 1, 1), (54, .invokevirtual 163, 3), (57, .ifCond .ne 5, 3), (60, .iconst 0, 1), (61, .ireturn, 1), (62, .aload_n 0, 1), (63, .getfield 33, 3), (66, .iload_n 3, 1), (67, .bipush 43, 2), (69, .if_icmp .ne 9, 3), (72, .sipush 1011, 3), (75, .goto 6, 3), (78, .sipush 1012, 3), (81, .invokevirtual 153, 3), (84, .iinc 2 1, 3), (87, .goto (-75), 3), (90, .iconst 1, 1), (91, .ireturn, 1)])
theorem qmX5_readSum_ok : QMK qmX5_readSum := qmk_of 777 (by decide +kernel)
def qmX5_readTerm : QMeth := (5, yX5_readTerm, cX5_readTerm, 3, (some .boolean), [(0, .aload_n 0, 1), (1, .iload_n 1, 1), (2, .invokevirtual 166, 3), (5, .ifCond .ne 5, 3), (8, .iconst 0, 1), (9, .ireturn, 1), (10, .iconst 0, 1), (11, .istore_n 2, 1), (12, .iload_n 2, 1), (13, .sipush 900, 3), (16, .if_icmp .ge 48, 3), (19, .aload_n 0, 1), (20, .invokevirtual 53, 3), (23, .bipush 42, 2), (25, .if_icmp .ne 39, 3), (28, .aload_n 0, 1), (29, .dup, 1), (30, .getfield 39, 3), (33, .iconst 1, 1), (34, .iadd, 1), (35, .putfield 39, 3), (38, .aload_n 0, 1), (39, .iload_n 1, 1), (40, .invokevirtual 166, 3), (43, .ifCond .ne 5, 3), (46, .iconst 0, 1), (47, .ireturn, 1), (48, .aload_n 0, 1), (49, .getfield 33, 3), (52, .sipush 1013, 3), (55, .invokevirtual 153, 3), (58, .iinc 2 1, 3), (61, .goto (-49), 3), (64, .iconst 1, 1), (65, .ireturn, 1)])
theorem qmX5_readTerm_ok : QMK qmX5_readTerm := qmk_of 781 (by decide +kernel)
def qmX5_readAtom : QMeth := (5, yX5_readAtom, cX5_readAtom, 3, (some .boolean), [(0, .aload_n 0, 1), (1, .invokevirtual 53, 3), (4, .bipush 40, 2), (6, .if_icmp .ne 50, 3), (9, .iload_n 1, 1), (10, .bipush 6, 2), (12, .if_icmp .lt 9, 3), (15, .aload_n 0, 1), (16, .iconst 4, 1), (17, .invokevirtual 72, 3), (20, .ireturn, 1), (21, .aload_n 0, 1), (22, .dup, 1), (23, .getfield 39, 3), (26, .iconst 1, 1), (27, .iadd, 1), (28, .putfield 39, 3), (31, .aload_n 0, 1), (32, .iload_n 1, 1), (33, .iconst 1, 1), (34, .iadd, 1), (35, .invokevirtual 141, 3), (38, .ifCond .eq 16, 3), (41, .aload_n 0, 1), (42, .bipush 41, 2), (44, .invokevirtual 60, 3), (47, .ifCond .eq 7, 3), (50, .iconst 1, 1), (51, .goto 4, 3), (54, .iconst 0, 1), (55, .ireturn, 1), (56, .aload_n 0, 1), (57, .aload_n 0, 1), (58, .invokevirtual 53, 3), (61, .invokevirtual 169, 3), (64, .istore_n 2, 1), (65, .iload_n 2, 1), (66, .iconst (-1), 1), (67, .if_icmp .ne 9, 3), (70, .aload_n 0, 1), (71, .iconst 2, 1), (72, .invokevirtual 72, 3), (75, .ireturn, 1), (76, .aload_n 0, 1), (77, .getfield 33, 3), (80, .iload_n 2, 1), (81, .invokevirtual 153, 3), (84, .aload_n 0, 1), (85, .dup, 1), (86, .getfield 39, 3), (89, .iconst 1, 1), (90, .iadd, 1), (91, .putfield 39, 3), (94, .iconst 1, 1), (95, .ireturn, 1)])
theorem qmX5_readAtom_ok : QMK qmX5_readAtom := qmk_of 785 (by decide +kernel)
def qmX5_partOf : QMeth := (5, yX5_partOf, cX5_partOf, 2, (some .int), [(0, .iload_n 1, 1), (1, .lookupswitch 102 #[(2, 59), (202, 83), (206, 79), (208, 71), (209, 75), (210, 87)], 59), (60, .aload_n 0, 1), (61, .getfield 25, 3), (64, .aload_n 0, 1), (65, .getfield 39, 3), (68, .invokevirtual 75, 3), (71, .ireturn, 1), (72, .sipush 1000, 3), (75, .ireturn, 1), (76, .sipush 1001, 3), (79, .ireturn, 1), (80, .sipush 1002, 3), (83, .ireturn, 1), (84, .sipush 1003, 3), (87, .ireturn, 1), (88, .aload_n 0, 1), (89, .getfield 137, 3), (92, .ifCond .eq 9, 3), (95, .sipush 1004, 3), (98, .goto 4, 3), (101, .iconst (-1), 1), (102, .ireturn, 1), (103, .iconst (-1), 1), (104, .ireturn, 1)])
theorem qmX5_partOf_ok : QMK qmX5_partOf := qmk_of 789 (by decide +kernel)
def qmX6_init : QMeth := (6, yX6_init, cX6_init, 1, none, [(0, .aload_n 0, 1), (1, .invokespecial 3, 3), (4, .aload_n 0, 1), (5, .bipush 6, 2), (7, .newarray .int, 2), (9, .putfield 9, 3), (12, .aload_n 0, 1), (13, .bipush 6, 2), (15, .newarray .int, 2), (17, .putfield 15, 3), (20, .aload_n 0, 1), (21, .bipush 96, 2), (23, .newarray .int, 2), (25, .putfield 18, 3), (28, .aload_n 0, 1), (29, .bipush 96, 2), (31, .newarray .int, 2), (33, .putfield 21, 3), (36, .aload_n 0, 1), (37, .bipush 36, 2), (39, .newarray .int, 2), (41, .putfield 24, 3), (44, .aload_n 0, 1), (45, .bipush 36, 2), (47, .newarray .int, 2), (49, .putfield 27, 3), (52, .aload_n 0, 1), (53, .bipush 8, 2), (55, .newarray .int, 2), (57, .putfield 30, 3), (60, .aload_n 0, 1), (61, .bipush 8, 2), (63, .newarray .int, 2), (65, .putfield 33, 3), (68, .aload_n 0, 1), (69, .bipush 8, 2), (71, .newarray .int, 2), (73, .putfield 36, 3), (76, .return_, 1)])
theorem qmX6_init_ok : QMK qmX6_init := qmk_of 294 (by decide +kernel)
def qmX6_begin : QMeth := (6, yX6_begin, cX6_begin, 2, none, [(0, .aload_n 0, 1), (1, .getfield 9, 3), (4, .iconst 0, 1), (5, .invokestatic 39, 3), (8, .aload_n 1, 1), (9, .getfield 45, 3), (12, .iconst 0, 1), (13, .aload_n 0, 1), (14, .getfield 15, 3), (17, .iconst 0, 1), (18, .bipush 6, 2), (20, .invokestatic 50, 3), (23, .aload_n 0, 1), (24, .getfield 24, 3), (27, .iconst (-1), 1), (28, .invokestatic 39, 3), (31, .aload_n 0, 1), (32, .getfield 27, 3), (35, .iconst (-1), 1), (36, .invokestatic 39, 3), (39, .aload_n 0, 1), (40, .iconst 0, 1), (41, .putfield 56, 3), (44, .aload_n 0, 1), (45, .aload_n 1, 1), (46, .getfield 60, 3), (49, .putfield 63, 3), (52, .aload_n 0, 1), (53, .aload_n 1, 1), (54, .getfield 64, 3), (57, .putfield 67, 3), (60, .return_, 1)])
theorem qmX6_begin_ok : QMK qmX6_begin := qmk_of 496 (by decide +kernel)
def qmX6_copyOf : QMeth := (6, yX6_copyOf, cX6_copyOf, 2, none, [(0, .aload_n 1, 1), (1, .getfield 9, 3), (4, .iconst 0, 1), (5, .aload_n 0, 1), (6, .getfield 9, 3), (9, .iconst 0, 1), (10, .bipush 6, 2), (12, .invokestatic 50, 3), (15, .aload_n 1, 1), (16, .getfield 15, 3), (19, .iconst 0, 1), (20, .aload_n 0, 1), (21, .getfield 15, 3), (24, .iconst 0, 1), (25, .bipush 6, 2), (27, .invokestatic 50, 3), (30, .aload_n 1, 1), (31, .getfield 18, 3), (34, .iconst 0, 1), (35, .aload_n 0, 1), (36, .getfield 18, 3), (39, .iconst 0, 1), (40, .aload_n 0, 1), (41, .getfield 18, 3), (44, .arraylength, 1), (45, .invokestatic 50, 3), (48, .aload_n 1, 1), (49, .getfield 21, 3), (52, .iconst 0, 1), (53, .aload_n 0, 1), (54, .getfield 21, 3), (57, .iconst 0, 1), (58, .aload_n 0, 1), (59, .getfield 21, 3), (62, .arraylength, 1), (63, .invokestatic 50, 3), (66, .aload_n 1, 1), (67, .getfield 24, 3), (70, .iconst 0, 1), (71, .aload_n 0, 1), (72, .getfield 24, 3), (75, .iconst 0, 1), (76, .bipush 36, 2), (78, .invokestatic 50, 3), (81, .aload_n 1, 1), (82, .getfield 27, 3), (85, .iconst 0, 1), (86, .aload_n 0, 1), (87, .getfield 27, 3), (90, .iconst 0, 1), (91, .bipush 36, 2), (93, .invokestatic 50, 3), (96, .aload_n 0, 1), (97, .aload_n 1, 1), (98, .getfield 56, 3), (101, .putfield 56, 3), (104, .aload_n 1, 1), (105, .getfield 30, 3), (108, .iconst 0, 1), (109, .aload_n 0, 1), (110, .getfield 30, 3), (113, .iconst 0, 1), (114, .bipush 8, 2), (116, .invokestatic 50, 3), (119, .aload_n 1, 1), (120, .getfield 33, 3), (123, .iconst 0, 1), (124, .aload_n 0, 1), (125, .getfield 33, 3), (128, .iconst 0, 1), (129, .bipush 8, 2), (131, .invokestatic 50, 3), (134, .aload_n 1, 1), (135, .getfield 36, 3), (138, .iconst 0, 1), (139, .aload_n 0, 1), (140, .getfield 36, 3), (143, .iconst 0, 1), (144, .bipush 8, 2), (146, .invokestatic 50, 3), (149, .aload_n 0, 1), (150, .aload_n 1, 1), (151, .getfield 63, 3), (154, .putfield 63, 3), (157, .aload_n 0, 1), (158, .aload_n 1, 1), (159, .getfield 67, 3), (162, .putfield 67, 3), (165, .return_, 1)])
theorem qmX6_copyOf_ok : QMK qmX6_copyOf := qmk_of 961 (by decide +kernel)
def qmX6_lying : QMeth := (6, yX6_lying, cX6_lying, 2, (some .int), [(0, .aload_n 0, 1), (1, .getfield 24, 3), (4, .iload_n 1, 1), (5, .iaload, 1), (6, .iconst (-1), 1), (7, .if_icmp .ne 7, 3), (10, .iconst 0, 1), (11, .goto 18, 3), (14, .aload_n 0, 1), (15, .getfield 27, 3), (18, .iload_n 1, 1), (19, .iaload, 1), (20, .iconst (-1), 1), (21, .if_icmp .ne 7, 3), (24, .iconst 1, 1), (25, .goto 4, 3), (28, .iconst 2, 1), (29, .ireturn, 1)])
theorem qmX6_lying_ok : QMK qmX6_lying := qmk_of 848 (by decide +kernel)
def qmX6_cellOf : QMeth := (6, yX6_cellOf, cX6_cellOf, 3, (some .int), [(0, .iload_n 2, 1), (1, .ifCond .lt 33, 3), (4, .iload_n 2, 1), (5, .aload_n 0, 1), (6, .getfield 9, 3), (9, .iload_n 1, 1), (10, .iaload, 1), (11, .if_icmp .ge 23, 3), (14, .iload_n 2, 1), (15, .bipush 16, 2), (17, .if_icmp .ge 17, 3), (20, .aload_n 0, 1), (21, .getfield 18, 3), (24, .iload_n 1, 1), (25, .bipush 16, 2), (27, .imul, 1), (28, .iload_n 2, 1), (29, .iadd, 1), (30, .iaload, 1), (31, .goto 4, 3), (34, .iconst (-1), 1), (35, .ireturn, 1)])
theorem qmX6_cellOf_ok : QMK qmX6_cellOf := qmk_of 856 (by decide +kernel)
def qmX6_endOf : QMeth := (6, yX6_endOf, cX6_endOf, 3, (some .int), [(0, .aload_n 0, 1), (1, .getfield 9, 3), (4, .iload_n 2, 1), (5, .iaload, 1), (6, .ifCond .le 19, 3), (9, .aload_n 0, 1), (10, .iload_n 2, 1), (11, .aload_n 0, 1), (12, .getfield 9, 3), (15, .iload_n 2, 1), (16, .iaload, 1), (17, .iconst 1, 1), (18, .isub, 1), (19, .invokevirtual 68, 3), (22, .goto 9, 3), (25, .aload_n 1, 1), (26, .getfield 72, 3), (29, .iload_n 2, 1), (30, .iaload, 1), (31, .ireturn, 1)])
theorem qmX6_endOf_ok : QMK qmX6_endOf := qmk_of 868 (by decide +kernel)
def qmX6_yardsLying : QMeth := (6, yX6_yardsLying, cX6_yardsLying, 4, (some .int), [(0, .iconst 0, 1), (1, .istore_n 2, 1), (2, .iconst 0, 1), (3, .istore_n 3, 1), (4, .iload_n 3, 1), (5, .aload_n 0, 1), (6, .getfield 9, 3), (9, .iload_n 1, 1), (10, .iaload, 1), (11, .if_icmp .ge 29, 3), (14, .iload_n 3, 1), (15, .bipush 16, 2), (17, .if_icmp .ge 23, 3), (20, .iload_n 2, 1), (21, .aload_n 0, 1), (22, .getfield 21, 3), (25, .iload_n 1, 1), (26, .bipush 16, 2), (28, .imul, 1), (29, .iload_n 3, 1), (30, .iadd, 1), (31, .iaload, 1), (32, .iadd, 1), (33, .istore_n 2, 1), (34, .iinc 3 1, 3), (37, .goto (-33), 3), (40, .iload_n 2, 1), (41, .ireturn, 1)])
theorem qmX6_yardsLying_ok : QMK qmX6_yardsLying := qmk_of 872 (by decide +kernel)
def qmX6_allYards : QMeth := (6, yX6_allYards, cX6_allYards, 4, (some .int), [(0, .iconst 0, 1), (1, .istore_n 2, 1), (2, .iconst 0, 1), (3, .istore_n 3, 1), (4, .iload_n 3, 1), (5, .aload_n 1, 1), (6, .getfield 75, 3), (9, .if_icmp .ge 24, 3), (12, .iload_n 3, 1), (13, .bipush 6, 2), (15, .if_icmp .ge 18, 3), (18, .iload_n 2, 1), (19, .aload_n 0, 1), (20, .getfield 15, 3), (23, .iload_n 3, 1), (24, .iaload, 1), (25, .iadd, 1), (26, .istore_n 2, 1), (27, .iinc 3 1, 3), (30, .goto (-26), 3), (33, .iload_n 2, 1), (34, .ireturn, 1)])
theorem qmX6_allYards_ok : QMK qmX6_allYards := qmk_of 1084 (by decide +kernel)
def qmX6_ribbonsLying : QMeth := (6, yX6_ribbonsLying, cX6_ribbonsLying, 4, (some .int), [(0, .iconst 0, 1), (1, .istore_n 2, 1), (2, .iconst 0, 1), (3, .istore_n 3, 1), (4, .iload_n 3, 1), (5, .aload_n 1, 1), (6, .getfield 75, 3), (9, .if_icmp .ge 32, 3), (12, .iload_n 3, 1), (13, .bipush 6, 2), (15, .if_icmp .ge 26, 3), (18, .iload_n 2, 1), (19, .aload_n 0, 1), (20, .getfield 9, 3), (23, .iload_n 3, 1), (24, .iaload, 1), (25, .ifCond .le 7, 3), (28, .iconst 1, 1), (29, .goto 4, 3), (32, .iconst 0, 1), (33, .iadd, 1), (34, .istore_n 2, 1), (35, .iinc 3 1, 3), (38, .goto (-34), 3), (41, .iload_n 2, 1), (42, .ireturn, 1)])
theorem qmX6_ribbonsLying_ok : QMK qmX6_ribbonsLying := qmk_of 1383 (by decide +kernel)
def qmX6_crossed : QMeth := (6, yX6_crossed, cX6_crossed, 4, (some .int), [(0, .iconst 0, 1), (1, .istore_n 2, 1), (2, .iconst 0, 1), (3, .istore_n 3, 1), (4, .iload_n 3, 1), (5, .aload_n 1, 1), (6, .invokevirtual 78, 3), (9, .if_icmp .ge 26, 3), (12, .iload_n 2, 1), (13, .aload_n 0, 1), (14, .iload_n 3, 1), (15, .invokevirtual 82, 3), (18, .iconst 2, 1), (19, .if_icmp .ne 7, 3), (22, .iconst 1, 1), (23, .goto 4, 3), (26, .iconst 0, 1), (27, .iadd, 1), (28, .istore_n 2, 1), (29, .iinc 3 1, 3), (32, .goto (-28), 3), (35, .iload_n 2, 1), (36, .ireturn, 1)])
theorem qmX6_crossed_ok : QMK qmX6_crossed := qmk_of 1378 (by decide +kernel)
def qmX6_isUnder : QMeth := (6, yX6_isUnder, cX6_isUnder, 3, (some .boolean), [(0, .iload_n 2, 1), (1, .ifCond .lt 23, 3), (4, .iload_n 2, 1), (5, .bipush 36, 2), (7, .if_icmp .ge 17, 3), (10, .aload_n 0, 1), (11, .getfield 27, 3), (14, .iload_n 2, 1), (15, .iaload, 1), (16, .iload_n 1, 1), (17, .if_icmp .ne 7, 3), (20, .iconst 1, 1), (21, .goto 4, 3), (24, .iconst 0, 1), (25, .ireturn, 1)])
theorem qmX6_isUnder_ok : QMK qmX6_isUnder := qmk_of 979 (by decide +kernel)
def qmX6_isOpen : QMeth := (6, yX6_isOpen, cX6_isOpen, 4, (some .boolean), [(0, .aload_n 1, 1), (1, .iload_n 3, 1), (2, .invokevirtual 86, 3), (5, .ifCond .eq 35, 3), (8, .aload_n 1, 1), (9, .getfield 90, 3), (12, .iload_n 3, 1), (13, .iaload, 1), (14, .ifCond .ne 26, 3), (17, .aload_n 0, 1), (18, .iload_n 3, 1), (19, .invokevirtual 82, 3), (22, .iconst 2, 1), (23, .if_icmp .ge 17, 3), (26, .aload_n 0, 1), (27, .getfield 24, 3), (30, .iload_n 3, 1), (31, .iaload, 1), (32, .iload_n 2, 1), (33, .if_icmp .eq 7, 3), (36, .iconst 1, 1), (37, .goto 4, 3), (40, .iconst 0, 1), (41, .ireturn, 1)])
theorem qmX6_isOpen_ok : QMK qmX6_isOpen := qmk_of 942 (by decide +kernel)
def qmX6_whyNotLaid : QMeth := (6, yX6_whyNotLaid, cX6_whyNotLaid, 5, (some .int), [(0, .aload_n 1, 1), (1, .iload_n 2, 1), (2, .invokevirtual 93, 3), (5, .ifCond .eq 13, 3), (8, .iload_n 3, 1), (9, .iconst 1, 1), (10, .if_icmp .lt 8, 3), (13, .iload_n 3, 1), (14, .iconst 4, 1), (15, .if_icmp .le 5, 3), (18, .iconst 1, 1), (19, .ireturn, 1), (20, .aload_n 1, 1), (21, .aload_n 0, 1), (22, .aload_n 1, 1), (23, .iload_n 2, 1), (24, .invokevirtual 96, 3), (27, .iload_n 3, 1), (28, .invokevirtual 100, 3), (31, .istore 4, 2), (33, .aload_n 0, 1), (34, .getfield 9, 3), (37, .iload_n 2, 1), (38, .iaload, 1), (39, .bipush 16, 2), (41, .if_icmp .ge 14, 3), (44, .aload_n 0, 1), (45, .aload_n 1, 1), (46, .iload_n 2, 1), (47, .iload 4, 2), (49, .invokevirtual 103, 3), (52, .ifCond .ne 5, 3), (55, .iconst 2, 1), (56, .ireturn, 1), (57, .aload_n 1, 1), (58, .iload_n 2, 1), (59, .iload 4, 2), (61, .aload_n 0, 1), (62, .getfield 63, 3), (65, .aload_n 0, 1), (66, .iload 4, 2), (68, .invokevirtual 82, 3), (71, .invokevirtual 107, 3), (74, .ifCond .ne 5, 3), (77, .iconst 3, 1), (78, .ireturn, 1), (79, .aload_n 1, 1), (80, .iload_n 2, 1), (81, .iload 4, 2), (83, .aload_n 0, 1), (84, .getfield 63, 3), (87, .invokevirtual 111, 3), (90, .aload_n 0, 1), (91, .getfield 15, 3), (94, .iload_n 2, 1), (95, .iaload, 1), (96, .if_icmp .le 7, 3), (99, .iconst 4, 1), (100, .goto 4, 3), (103, .iconst 0, 1), (104, .ireturn, 1)])
theorem qmX6_whyNotLaid_ok : QMK qmX6_whyNotLaid := qmk_of 932 (by decide +kernel)
def qmX6_tryLaying : QMeth := (6, yX6_tryLaying, cX6_tryLaying, 9, (some .int), [(0, .aload_n 0, 1), (1, .aload_n 1, 1), (2, .iload_n 2, 1), (3, .iload_n 3, 1), (4, .invokevirtual 115, 3), (7, .istore 5, 2), (9, .iload 5, 2), (11, .ifCond .ne 155, 3), (14, .aload_n 1, 1), (15, .aload_n 0, 1), (16, .aload_n 1, 1), (17, .iload_n 2, 1), (18, .invokevirtual 96, 3), (21, .iload_n 3, 1), (22, .invokevirtual 100, 3), (25, .istore 6, 2), (27, .aload_n 1, 1), (28, .iload_n 2, 1), (29, .iload 6, 2), (31, .aload_n 0, 1), (32, .getfield 63, 3), (35, .invokevirtual 111, 3), (38, .istore 7, 2), (40, .aload_n 0, 1), (41, .getfield 18, 3), (44, .iload_n 2, 1), (45, .bipush 16, 2), (47, .imul, 1), (48, .aload_n 0, 1), (49, .getfield 9, 3), (52, .iload_n 2, 1), (53, .iaload, 1), (54, .iadd, 1), (55, .iload 6, 2), (57, .iastore, 1), (58, .aload_n 0, 1), (59, .getfield 21, 3), (62, .iload_n 2, 1), (63, .bipush 16, 2), (65, .imul, 1), (66, .aload_n 0, 1), (67, .getfield 9, 3), (70, .iload_n 2, 1), (71, .iaload, 1), (72, .iadd, 1), (73, .iload 7, 2), (75, .iastore, 1), (76, .aload_n 0, 1), (77, .getfield 9, 3), (80, .iload_n 2, 1), (81, .dup2, 1), (82, .iaload, 1), (83, .iconst 1, 1), (84, .iadd, 1), (85, .iastore, 1), (86, .aload_n 0, 1), (87, .getfield 15, 3), (90, .iload_n 2, 1), (91, .dup2, 1), (92, .iaload, 1), (93, .iload 7, 2), (95, .isub, 1), (96, .iastore, 1), (97, .aload_n 0, 1), (98, .getfield 24, 3), (101, .iload 6, 2), (103, .iaload, 1), (104, .iconst (-1), 1), (105, .if_icmp .eq 12, 3), (108, .iload 4, 2), (110, .ifCond .ne 7, 3), (113, .iconst 1, 1), (114, .goto 4, 3), (117, .iconst 0, 1), (118, .istore 8, 2), (120, .aload_n 0, 1), (121, .getfield 27, 3), (124, .iload 6, 2), (126, .iload 8, 2), (128, .ifCond .eq 7, 3), (131, .iload_n 2, 1), (132, .goto 10, 3), (135, .aload_n 0, 1), (136, .getfield 24, 3), (139, .iload 6, 2), (141, .iaload, 1), (142, .iastore, 1), (143, .aload_n 0, 1), (144, .getfield 24, 3), (147, .iload 6, 2), (149, .iload 8, 2), (151, .ifCond .eq 13, 3), (154, .aload_n 0, 1), (155, .getfield 24, 3), (158, .iload 6, 2), (160, .iaload, 1), (161, .goto 4, 3), (164, .iload_n 2, 1), (165, .iastore, 1), (166, .iload 5, 2), (168, .ireturn, 1)])
theorem qmX6_tryLaying_ok : QMK qmX6_tryLaying := qmk_of 966 (by decide +kernel)
def qmX6_whyNotBack : QMeth := (6, yX6_whyNotBack, cX6_whyNotBack, 4, (some .int), [(0, .aload_n 1, 1), (1, .iload_n 2, 1), (2, .invokevirtual 93, 3), (5, .ifCond .ne 5, 3), (8, .iconst 1, 1), (9, .ireturn, 1), (10, .aload_n 0, 1), (11, .getfield 9, 3), (14, .iload_n 2, 1), (15, .iaload, 1), (16, .iconst 1, 1), (17, .if_icmp .ge 5, 3), (20, .iconst 2, 1), (21, .ireturn, 1), (22, .aload_n 0, 1), (23, .iload_n 2, 1), (24, .aload_n 0, 1), (25, .aload_n 1, 1), (26, .iload_n 2, 1), (27, .invokevirtual 96, 3), (30, .invokevirtual 119, 3), (33, .ifCond .eq 5, 3), (36, .iconst 3, 1), (37, .ireturn, 1), (38, .iconst 0, 1), (39, .istore_n 3, 1), (40, .iload_n 3, 1), (41, .aload_n 0, 1), (42, .getfield 56, 3), (45, .if_icmp .ge 38, 3), (48, .aload_n 0, 1), (49, .getfield 30, 3), (52, .iload_n 3, 1), (53, .iaload, 1), (54, .iload_n 2, 1), (55, .if_icmp .ne 22, 3), (58, .aload_n 0, 1), (59, .getfield 33, 3), (62, .iload_n 3, 1), (63, .iaload, 1), (64, .aload_n 0, 1), (65, .getfield 9, 3), (68, .iload_n 2, 1), (69, .iaload, 1), (70, .iconst 1, 1), (71, .isub, 1), (72, .if_icmp .ne 5, 3), (75, .iconst 4, 1), (76, .ireturn, 1), (77, .iinc 3 1, 3), (80, .goto (-40), 3), (83, .iconst 0, 1), (84, .ireturn, 1)])
theorem qmX6_whyNotBack_ok : QMK qmX6_whyNotBack := qmk_of 975 (by decide +kernel)
def qmX6_tryBack : QMeth := (6, yX6_tryBack, cX6_tryBack, 4, (some .int), [(0, .aload_n 0, 1), (1, .aload_n 1, 1), (2, .iload_n 2, 1), (3, .invokevirtual 123, 3), (6, .istore_n 3, 1), (7, .iload_n 3, 1), (8, .ifCond .ne 9, 3), (11, .aload_n 0, 1), (12, .aload_n 1, 1), (13, .iload_n 2, 1), (14, .invokevirtual 126, 3), (17, .iload_n 3, 1), (18, .ireturn, 1)])
theorem qmX6_tryBack_ok : QMK qmX6_tryBack := qmk_of 983 (by decide +kernel)
def qmX6_whyNotIn : QMeth := (6, yX6_whyNotIn, cX6_whyNotIn, 4, (some .int), [(0, .aload_n 1, 1), (1, .iload_n 2, 1), (2, .invokevirtual 93, 3), (5, .ifCond .ne 5, 3), (8, .iconst 1, 1), (9, .ireturn, 1), (10, .aload_n 0, 1), (11, .getfield 9, 3), (14, .iload_n 2, 1), (15, .iaload, 1), (16, .iconst 1, 1), (17, .if_icmp .ge 5, 3), (20, .iconst 2, 1), (21, .ireturn, 1), (22, .iconst 0, 1), (23, .istore_n 3, 1), (24, .iload_n 3, 1), (25, .aload_n 0, 1), (26, .getfield 9, 3), (29, .iload_n 2, 1), (30, .iaload, 1), (31, .if_icmp .ge 25, 3), (34, .aload_n 0, 1), (35, .iload_n 2, 1), (36, .aload_n 0, 1), (37, .iload_n 2, 1), (38, .iload_n 3, 1), (39, .invokevirtual 68, 3), (42, .invokevirtual 119, 3), (45, .ifCond .eq 5, 3), (48, .iconst 3, 1), (49, .ireturn, 1), (50, .iinc 3 1, 3), (53, .goto (-29), 3), (56, .iconst 0, 1), (57, .istore_n 3, 1), (58, .iload_n 3, 1), (59, .aload_n 0, 1), (60, .getfield 56, 3), (63, .if_icmp .ge 32, 3), (66, .aload_n 0, 1), (67, .getfield 30, 3), (70, .iload_n 3, 1), (71, .iaload, 1), (72, .iload_n 2, 1), (73, .if_icmp .ne 16, 3), (76, .aload_n 0, 1), (77, .getfield 33, 3), (80, .iload_n 3, 1), (81, .iaload, 1), (82, .bipush (-2), 2), (84, .if_icmp .eq 5, 3), (87, .iconst 4, 1), (88, .ireturn, 1), (89, .iinc 3 1, 3), (92, .goto (-34), 3), (95, .iconst 0, 1), (96, .ireturn, 1)])
theorem qmX6_whyNotIn_ok : QMK qmX6_whyNotIn := qmk_of 996 (by decide +kernel)
def qmX6_tryIn : QMeth := (6, yX6_tryIn, cX6_tryIn, 5, (some .int), [(0, .aload_n 0, 1), (1, .aload_n 1, 1), (2, .iload_n 2, 1), (3, .invokevirtual 130, 3), (6, .istore_n 3, 1), (7, .iload_n 3, 1), (8, .ifCond .ne 34, 3), (11, .iconst 0, 1), (12, .istore 4, 2), (14, .iload 4, 2), (16, .bipush 16, 2), (18, .if_icmp .ge 24, 3), (21, .aload_n 0, 1), (22, .getfield 9, 3), (25, .iload_n 2, 1), (26, .iaload, 1), (27, .ifCond .le 15, 3), (30, .aload_n 0, 1), (31, .aload_n 1, 1), (32, .iload_n 2, 1), (33, .invokevirtual 126, 3), (36, .iinc 4 1, 3), (39, .goto (-25), 3), (42, .iload_n 3, 1), (43, .ireturn, 1)])
theorem qmX6_tryIn_ok : QMK qmX6_tryIn := qmk_of 1000 (by decide +kernel)
def qmX6_liftLast : QMeth := (6, yX6_liftLast, cX6_liftLast, 4, none, [(0, .aload_n 0, 1), (1, .aload_n 1, 1), (2, .iload_n 2, 1), (3, .invokevirtual 96, 3), (6, .istore_n 3, 1), (7, .aload_n 0, 1), (8, .getfield 24, 3), (11, .iload_n 3, 1), (12, .aload_n 0, 1), (13, .getfield 27, 3), (16, .iload_n 3, 1), (17, .iaload, 1), (18, .iastore, 1), (19, .aload_n 0, 1), (20, .getfield 27, 3), (23, .iload_n 3, 1), (24, .iconst (-1), 1), (25, .iastore, 1), (26, .aload_n 0, 1), (27, .getfield 9, 3), (30, .iload_n 2, 1), (31, .dup2, 1), (32, .iaload, 1), (33, .iconst 1, 1), (34, .isub, 1), (35, .iastore, 1), (36, .aload_n 0, 1), (37, .getfield 15, 3), (40, .iload_n 2, 1), (41, .dup2, 1), (42, .iaload, 1), (43, .aload_n 0, 1), (44, .getfield 21, 3), (47, .iload_n 2, 1), (48, .bipush 16, 2), (50, .imul, 1), (51, .aload_n 0, 1), (52, .getfield 9, 3), (55, .iload_n 2, 1), (56, .iaload, 1), (57, .iadd, 1), (58, .iaload, 1), (59, .iadd, 1), (60, .iastore, 1), (61, .return_, 1)])
theorem qmX6_liftLast_ok : QMK qmX6_liftLast := qmk_of 988 (by decide +kernel)
def qmX6_whyNotOut : QMeth := (6, yX6_whyNotOut, cX6_whyNotOut, 3, (some .int), [(0, .aload_n 1, 1), (1, .iload_n 2, 1), (2, .invokevirtual 93, 3), (5, .ifCond .ne 5, 3), (8, .iconst 1, 1), (9, .ireturn, 1), (10, .aload_n 0, 1), (11, .getfield 9, 3), (14, .iload_n 2, 1), (15, .iaload, 1), (16, .iconst 1, 1), (17, .if_icmp .ge 5, 3), (20, .iconst 2, 1), (21, .ireturn, 1), (22, .aload_n 0, 1), (23, .getfield 56, 3), (26, .bipush 8, 2), (28, .if_icmp .lt 7, 3), (31, .iconst 3, 1), (32, .goto 4, 3), (35, .iconst 0, 1), (36, .ireturn, 1)])
theorem qmX6_whyNotOut_ok : QMK qmX6_whyNotOut := qmk_of 1009 (by decide +kernel)
def qmX6_tryOut : QMeth := (6, yX6_tryOut, cX6_tryOut, 4, (some .int), [(0, .aload_n 0, 1), (1, .aload_n 1, 1), (2, .iload_n 2, 1), (3, .invokevirtual 133, 3), (6, .istore_n 3, 1), (7, .iload_n 3, 1), (8, .ifCond .ne 43, 3), (11, .aload_n 0, 1), (12, .getfield 30, 3), (15, .aload_n 0, 1), (16, .getfield 56, 3), (19, .iload_n 2, 1), (20, .iastore, 1), (21, .aload_n 0, 1), (22, .getfield 33, 3), (25, .aload_n 0, 1), (26, .getfield 56, 3), (29, .iconst (-1), 1), (30, .iastore, 1), (31, .aload_n 0, 1), (32, .getfield 36, 3), (35, .aload_n 0, 1), (36, .getfield 56, 3), (39, .iconst 0, 1), (40, .iastore, 1), (41, .aload_n 0, 1), (42, .dup, 1), (43, .getfield 56, 3), (46, .iconst 1, 1), (47, .iadd, 1), (48, .putfield 56, 3), (51, .iload_n 3, 1), (52, .ireturn, 1)])
theorem qmX6_tryOut_ok : QMK qmX6_tryOut := qmk_of 1013 (by decide +kernel)
def qmX6_hasTraveller : QMeth := (6, yX6_hasTraveller, cX6_hasTraveller, 2, (some .boolean), [(0, .iload_n 1, 1), (1, .ifCond .lt 21, 3), (4, .iload_n 1, 1), (5, .aload_n 0, 1), (6, .getfield 56, 3), (9, .if_icmp .ge 13, 3), (12, .iload_n 1, 1), (13, .bipush 8, 2), (15, .if_icmp .ge 7, 3), (18, .iconst 1, 1), (19, .goto 4, 3), (22, .iconst 0, 1), (23, .ireturn, 1)])
theorem qmX6_hasTraveller_ok : QMK qmX6_hasTraveller := qmk_of 885 (by decide +kernel)
def qmX6_hasArrived : QMeth := (6, yX6_hasArrived, cX6_hasArrived, 2, (some .boolean), [(0, .aload_n 0, 1), (1, .iload_n 1, 1), (2, .invokevirtual 136, 3), (5, .ifCond .eq 18, 3), (8, .aload_n 0, 1), (9, .getfield 33, 3), (12, .iload_n 1, 1), (13, .iaload, 1), (14, .bipush (-2), 2), (16, .if_icmp .ne 7, 3), (19, .iconst 1, 1), (20, .goto 4, 3), (23, .iconst 0, 1), (24, .ireturn, 1)])
theorem qmX6_hasArrived_ok : QMK qmX6_hasArrived := qmk_of 890 (by decide +kernel)
def qmX6_travellerOn : QMeth := (6, yX6_travellerOn, cX6_travellerOn, 3, (some .int), [(0, .iconst 0, 1), (1, .istore_n 2, 1), (2, .iload_n 2, 1), (3, .aload_n 0, 1), (4, .getfield 56, 3), (7, .if_icmp .ge 40, 3), (10, .aload_n 0, 1), (11, .getfield 33, 3), (14, .iload_n 2, 1), (15, .iaload, 1), (16, .ifCond .lt 25, 3), (19, .aload_n 0, 1), (20, .aload_n 0, 1), (21, .getfield 30, 3), (24, .iload_n 2, 1), (25, .iaload, 1), (26, .aload_n 0, 1), (27, .getfield 33, 3), (30, .iload_n 2, 1), (31, .iaload, 1), (32, .invokevirtual 68, 3), (35, .iload_n 1, 1), (36, .if_icmp .ne 5, 3), (39, .iload_n 2, 1), (40, .ireturn, 1), (41, .iinc 2 1, 3), (44, .goto (-42), 3), (47, .iconst (-1), 1), (48, .ireturn, 1)])
theorem qmX6_travellerOn_ok : QMK qmX6_travellerOn := qmk_of 852 (by decide +kernel)
def qmX6_onTheWay : QMeth := (6, yX6_onTheWay, cX6_onTheWay, 3, (some .int), [(0, .iconst 0, 1), (1, .istore_n 1, 1), (2, .iconst 0, 1), (3, .istore_n 2, 1), (4, .iload_n 2, 1), (5, .aload_n 0, 1), (6, .getfield 56, 3), (9, .if_icmp .ge 28, 3), (12, .iload_n 1, 1), (13, .aload_n 0, 1), (14, .getfield 33, 3), (17, .iload_n 2, 1), (18, .iaload, 1), (19, .bipush (-2), 2), (21, .if_icmp .eq 7, 3), (24, .iconst 1, 1), (25, .goto 4, 3), (28, .iconst 0, 1), (29, .iadd, 1), (30, .istore_n 1, 1), (31, .iinc 2 1, 3), (34, .goto (-30), 3), (37, .iload_n 1, 1), (38, .ireturn, 1)])
theorem qmX6_onTheWay_ok : QMK qmX6_onTheWay := qmk_of 1289 (by decide +kernel)
def qmX6_onCells : QMeth := (6, yX6_onCells, cX6_onCells, 3, (some .int), [(0, .iconst 0, 1), (1, .istore_n 1, 1), (2, .iconst 0, 1), (3, .istore_n 2, 1), (4, .iload_n 2, 1), (5, .aload_n 0, 1), (6, .getfield 56, 3), (9, .if_icmp .ge 26, 3), (12, .iload_n 1, 1), (13, .aload_n 0, 1), (14, .getfield 33, 3), (17, .iload_n 2, 1), (18, .iaload, 1), (19, .ifCond .lt 7, 3), (22, .iconst 1, 1), (23, .goto 4, 3), (26, .iconst 0, 1), (27, .iadd, 1), (28, .istore_n 1, 1), (29, .iinc 2 1, 3), (32, .goto (-28), 3), (35, .iload_n 1, 1), (36, .ireturn, 1)])
theorem qmX6_onCells_ok : QMK qmX6_onCells := qmk_of 1301 (by decide +kernel)
def qmX6_passHour : QMeth := (6, yX6_passHour, cX6_passHour, 3, (some .int), [(0, .iconst 0, 1), (1, .istore_n 1, 1), (2, .iconst 0, 1), (3, .istore_n 2, 1), (4, .iload_n 2, 1), (5, .aload_n 0, 1), (6, .getfield 56, 3), (9, .if_icmp .ge 44, 3), (12, .aload_n 0, 1), (13, .getfield 33, 3), (16, .iload_n 2, 1), (17, .iaload, 1), (18, .bipush (-2), 2), (20, .if_icmp .eq 27, 3), (23, .aload_n 0, 1), (24, .iload_n 2, 1), (25, .invokevirtual 139, 3), (28, .iload_n 1, 1), (29, .aload_n 0, 1), (30, .getfield 33, 3), (33, .iload_n 2, 1), (34, .iaload, 1), (35, .bipush (-2), 2), (37, .if_icmp .ne 7, 3), (40, .iconst 1, 1), (41, .goto 4, 3), (44, .iconst 0, 1), (45, .iadd, 1), (46, .istore_n 1, 1), (47, .iinc 2 1, 3), (50, .goto (-46), 3), (53, .aload_n 0, 1), (54, .dup, 1), (55, .getfield 67, 3), (58, .iconst 1, 1), (59, .iadd, 1), (60, .putfield 67, 3), (63, .iload_n 1, 1), (64, .ireturn, 1)])
theorem qmX6_passHour_ok : QMK qmX6_passHour := qmk_of 1030 (by decide +kernel)
def qmX6_goOn : QMeth := (6, yX6_goOn, cX6_goOn, 5, none, [(0, .aload_n 0, 1), (1, .getfield 9, 3), (4, .aload_n 0, 1), (5, .getfield 30, 3), (8, .iload_n 1, 1), (9, .iaload, 1), (10, .iaload, 1), (11, .iconst 1, 1), (12, .isub, 1), (13, .istore_n 2, 1), (14, .aload_n 0, 1), (15, .getfield 33, 3), (18, .iload_n 1, 1), (19, .iaload, 1), (20, .iconst 1, 1), (21, .iadd, 1), (22, .istore_n 3, 1), (23, .iload_n 3, 1), (24, .iload_n 2, 1), (25, .if_icmp .gt 26, 3), (28, .aload_n 0, 1), (29, .aload_n 0, 1), (30, .aload_n 0, 1), (31, .getfield 30, 3), (34, .iload_n 1, 1), (35, .iaload, 1), (36, .iload_n 3, 1), (37, .invokevirtual 68, 3), (40, .invokevirtual 143, 3), (43, .iconst (-1), 1), (44, .if_icmp .ne 7, 3), (47, .iconst 1, 1), (48, .goto 4, 3), (51, .iconst 0, 1), (52, .istore 4, 2), (54, .iload 4, 2), (56, .ifCond .eq 10, 3), (59, .aload_n 0, 1), (60, .getfield 33, 3), (63, .iload_n 1, 1), (64, .iload_n 3, 1), (65, .iastore, 1), (66, .aload_n 0, 1), (67, .getfield 33, 3), (70, .iload_n 1, 1), (71, .iaload, 1), (72, .ifCond .lt 24, 3), (75, .aload_n 0, 1), (76, .getfield 33, 3), (79, .iload_n 1, 1), (80, .iaload, 1), (81, .iload_n 2, 1), (82, .if_icmp .ne 14, 3), (85, .aload_n 0, 1), (86, .getfield 33, 3), (89, .iload_n 1, 1), (90, .bipush (-2), 2), (92, .iastore, 1), (93, .goto 18, 3), (96, .iload 4, 2), (98, .ifCond .ne 13, 3), (101, .aload_n 0, 1), (102, .getfield 36, 3), (105, .iload_n 1, 1), (106, .dup2, 1), (107, .iaload, 1), (108, .iconst 1, 1), (109, .iadd, 1), (110, .iastore, 1), (111, .return_, 1)])
theorem qmX6_goOn_ok : QMK qmX6_goOn := qmk_of 1034 (by decide +kernel)
def qmX6_deedOver : QMeth := (6, yX6_deedOver, cX6_deedOver, 2, (some .int), [(0, .iload_n 0, 1), (1, .sipush 1000, 3), (4, .imul, 1), (5, .bipush 10, 2), (7, .iadd, 1), (8, .iload_n 1, 1), (9, .iadd, 1), (10, .ireturn, 1)])
theorem qmX6_deedOver_ok : QMK qmX6_deedOver := qmk_of 1362 (by decide +kernel)
def qmX6_follow : QMeth := (6, yX6_follow, cX6_follow, 6, (some .int), [(0, .lload_n 2, 1), (1, .ldc2_w 146, 3), (4, .lcmp, 1), (5, .ifCond .ne 10, 3), (8, .aload_n 0, 1), (9, .invokevirtual 148, 3), (12, .pop, 1), (13, .iconst 0, 1), (14, .ireturn, 1), (15, .lload_n 2, 1), (16, .lconst 0, 1), (17, .lcmp, 1), (18, .ifCond .lt 11, 3), (21, .lload_n 2, 1), (22, .ldc2_w 151, 3), (25, .lcmp, 1), (26, .ifCond .le 5, 3), (29, .iconst 1, 1), (30, .ireturn, 1), (31, .lload_n 2, 1), (32, .l2i, 1), (33, .istore 4, 2), (35, .iload 4, 2), (37, .sipush 9000, 3), (40, .if_icmp .lt 15, 3), (43, .aload_n 0, 1), (44, .iload 4, 2), (46, .sipush 9000, 3), (49, .isub, 1), (50, .putfield 63, 3), (53, .iconst 0, 1), (54, .ireturn, 1), (55, .iload 4, 2), (57, .sipush 8000, 3), (60, .if_icmp .lt 15, 3), (63, .aload_n 0, 1), (64, .aload_n 1, 1), (65, .iload 4, 2), (67, .sipush 8000, 3), (70, .isub, 1), (71, .invokevirtual 153, 3), (74, .ireturn, 1), (75, .iload 4, 2), (77, .sipush 7000, 3), (80, .if_icmp .lt 15, 3), (83, .aload_n 0, 1), (84, .aload_n 1, 1), (85, .iload 4, 2), (87, .sipush 7000, 3), (90, .isub, 1), (91, .invokevirtual 156, 3), (94, .ireturn, 1), (95, .iload 4, 2), (97, .sipush 6000, 3), (100, .if_icmp .lt 15, 3), (103, .aload_n 0, 1), (104, .aload_n 1, 1), (105, .iload 4, 2), (107, .sipush 6000, 3), (110, .isub, 1), (111, .invokevirtual 159, 3), (114, .ireturn, 1), (115, .iload 4, 2), (117, .bipush 10, 2), (119, .idiv, 1), (120, .bipush 100, 2), (122, .irem, 1), (123, .istore 5, 2), (125, .iload 5, 2), (127, .iconst 1, 1), (128, .if_icmp .le 7, 3), (131, .iconst 1, 1), (132, .goto 30, 3), (135, .aload_n 0, 1), (136, .aload_n 1, 1), (137, .iload 4, 2), (139, .sipush 1000, 3), (142, .idiv, 1), (143, .iload 4, 2), (145, .bipush 10, 2), (147, .irem, 1), (148, .iload 5, 2), (150, .iconst 1, 1), (151, .if_icmp .ne 7, 3), (154, .iconst 1, 1), (155, .goto 4, 3), (158, .iconst 0, 1), (159, .invokevirtual 162, 3), (162, .ireturn, 1)])
theorem qmX6_follow_ok : QMK qmX6_follow := qmk_of 1071 (by decide +kernel)
def qmX6_followAll : QMeth := (6, yX6_followAll, cX6_followAll, 4, (some .int), [(0, .iconst 0, 1), (1, .istore_n 3, 1), (2, .iload_n 3, 1), (3, .aload_n 2, 1), (4, .getfield 166, 3), (7, .if_icmp .ge 22, 3), (10, .aload_n 0, 1), (11, .aload_n 1, 1), (12, .aload_n 2, 1), (13, .iload_n 3, 1), (14, .invokevirtual 171, 3), (17, .invokevirtual 175, 3), (20, .ifCond .ne 9, 3), (23, .iinc 3 1, 3), (26, .goto (-24), 3), (29, .iload_n 3, 1), (30, .ireturn, 1)])
theorem qmX6_followAll_ok : QMK qmX6_followAll := qmk_of 1063 (by decide +kernel)
def qmX6_followSeason : QMeth := (6, yX6_followSeason, cX6_followSeason, 12, (some .int), [(0, .iload_n 2, 1), (1, .istore 4, 2), (3, .iconst 0, 1), (4, .istore 5, 2), (6, .iconst 1, 1), (7, .aload_n 1, 1), (8, .getfield 75, 3), (11, .invokestatic 179, 3), (14, .istore 6, 2), (16, .iconst 0, 1), (17, .istore 7, 2), (19, .iload 7, 2), (21, .iload_n 3, 1), (22, .if_icmp .ge 161, 3), (25, .iload 4, 2), (27, .invokestatic 184, 3), (30, .istore 4, 2), (32, .iload 4, 2), (34, .bipush 16, 2), (36, .iushr, 1), (37, .bipush 6, 2), (39, .irem, 1), (40, .istore 8, 2), (42, .iload 8, 2), (44, .iconst 3, 1), (45, .if_icmp .ne 14, 3), (48, .aload_n 0, 1), (49, .invokevirtual 148, 3), (52, .pop, 1), (53, .iinc 5 1, 3), (56, .goto 121, 3), (59, .iload 4, 2), (61, .invokestatic 184, 3), (64, .istore 4, 2), (66, .iload 4, 2), (68, .bipush 16, 2), (70, .iushr, 1), (71, .iload 6, 2), (73, .irem, 1), (74, .istore 9, 2), (76, .iload 8, 2), (78, .iconst 3, 1), (79, .if_icmp .ge 58, 3), (82, .iload 4, 2), (84, .invokestatic 184, 3), (87, .istore 4, 2), (89, .iconst 1, 1), (90, .iload 4, 2), (92, .bipush 16, 2), (94, .iushr, 1), (95, .iconst 4, 1), (96, .irem, 1), (97, .iadd, 1), (98, .istore 11, 2), (100, .iload 4, 2), (102, .invokestatic 184, 3), (105, .istore 4, 2), (107, .aload_n 0, 1), (108, .aload_n 1, 1), (109, .iload 9, 2), (111, .iload 11, 2), (113, .iload 4, 2), (115, .bipush 16, 2), (117, .iushr, 1), (118, .iconst 2, 1), (119, .irem, 1), (120, .iconst 1, 1), (121, .if_icmp .ne 7, 3), (124, .iconst 1, 1), (125, .goto 4, 3), (128, .iconst 0, 1), (129, .invokevirtual 162, 3), (132, .istore 10, 2), (134, .goto 28, 3), (137, .iload 8, 2), (139, .iconst 4, 1), (140, .if_icmp .ne 13, 3), (143, .aload_n 0, 1), (144, .aload_n 1, 1), (145, .iload 9, 2), (147, .invokevirtual 153, 3), (150, .goto 10, 3), (153, .aload_n 0, 1), (154, .aload_n 1, 1), (155, .iload 9, 2), (157, .invokevirtual 156, 3), (160, .istore 10, 2), (162, .iload 5, 2), (164, .iload 10, 2), (166, .ifCond .ne 7, 3), (169, .iconst 1, 1), (170, .goto 4, 3), (173, .iconst 0, 1), (174, .iadd, 1), (175, .istore 5, 2), (177, .iinc 7 1, 3), (180, .goto (-161), 3), (183, .iload 5, 2), (185, .ireturn, 1)])
theorem qmX6_followSeason_ok : QMK qmX6_followSeason := qmk_of 1100 (by decide +kernel)
def qmX6_drawn : QMeth := (6, yX6_drawn, cX6_drawn, 1, (some .int), [(0, .ldc 187, 2), (2, .iload_n 0, 1), (3, .imul, 1), (4, .sipush 12345, 3), (7, .iadd, 1), (8, .ireturn, 1)])
theorem qmX6_drawn_ok : QMK qmX6_drawn := qmk_of 1104 (by decide +kernel)
def qmX7_init : QMeth := (7, yX7_init, cX7_init, 1, none, [(0, .aload_n 0, 1), (1, .invokespecial 3, 3), (4, .aload_n 0, 1), (5, .sipush 901, 3), (8, .newarray .int, 2), (10, .putfield 9, 3), (13, .aload_n 0, 1), (14, .sipush 901, 3), (17, .newarray .int, 2), (19, .putfield 15, 3), (22, .aload_n 0, 1), (23, .sipush 901, 3), (26, .newarray .int, 2), (28, .putfield 18, 3), (31, .return_, 1)])
theorem qmX7_init_ok : QMK qmX7_init := qmk_of 248 (by decide +kernel)
def qmX7_kind : QMeth := (7, yX7_kind, cX7_kind, 2, (some .int), [(0, .iload_n 1, 1), (1, .ifCond .lt 20, 3), (4, .iload_n 1, 1), (5, .aload_n 0, 1), (6, .getfield 21, 3), (9, .if_icmp .ge 12, 3), (12, .aload_n 0, 1), (13, .getfield 9, 3), (16, .iload_n 1, 1), (17, .iaload, 1), (18, .goto 4, 3), (21, .iconst 0, 1), (22, .ireturn, 1)])
theorem qmX7_kind_ok : QMK qmX7_kind := qmk_of 727 (by decide +kernel)
def qmX7_value : QMeth := (7, yX7_value, cX7_value, 2, (some .int), [(0, .iload_n 1, 1), (1, .ifCond .lt 20, 3), (4, .iload_n 1, 1), (5, .aload_n 0, 1), (6, .getfield 21, 3), (9, .if_icmp .ge 12, 3), (12, .aload_n 0, 1), (13, .getfield 15, 3), (16, .iload_n 1, 1), (17, .iaload, 1), (18, .goto 4, 3), (21, .iconst 0, 1), (22, .ireturn, 1)])
theorem qmX7_value_ok : QMK qmX7_value := qmk_of 743 (by decide +kernel)
def qmX7_place : QMeth := (7, yX7_place, cX7_place, 2, (some .int), [(0, .iload_n 1, 1), (1, .ifCond .lt 20, 3), (4, .iload_n 1, 1), (5, .aload_n 0, 1), (6, .getfield 21, 3), (9, .if_icmp .ge 12, 3), (12, .aload_n 0, 1), (13, .getfield 18, 3), (16, .iload_n 1, 1), (17, .iaload, 1), (18, .goto 4, 3), (21, .iconst 0, 1), (22, .ireturn, 1)])
theorem qmX7_place_ok : QMK qmX7_place := qmk_of 735 (by decide +kernel)
def qmX7_cut : QMeth := (7, yX7_cut, cX7_cut, 6, none, [(0, .aload_n 0, 1), (1, .iconst 0, 1), (2, .putfield 21, 3), (5, .iconst 0, 1), (6, .istore_n 3, 1), (7, .iconst 0, 1), (8, .istore 4, 2), (10, .iload 4, 2), (12, .iload_n 2, 1), (13, .if_icmp .ge 121, 3), (16, .iload_n 3, 1), (17, .iload_n 2, 1), (18, .if_icmp .ge 116, 3), (21, .iload_n 3, 1), (22, .aload_n 1, 1), (23, .arraylength, 1), (24, .if_icmp .ge 110, 3), (27, .aload_n 1, 1), (28, .iload_n 3, 1), (29, .baload, 1), (30, .sipush 255, 3), (33, .iand, 1), (34, .istore 5, 2), (36, .iload 5, 2), (38, .bipush 10, 2), (40, .if_icmp .eq 10, 3), (43, .iload 5, 2), (45, .bipush 32, 2), (47, .if_icmp .ne 9, 3), (50, .iinc 3 1, 3), (53, .goto 75, 3), (56, .iload 5, 2), (58, .invokestatic 25, 3), (61, .ifCond .eq 14, 3), (64, .aload_n 0, 1), (65, .aload_n 1, 1), (66, .iload_n 3, 1), (67, .iload_n 2, 1), (68, .invokevirtual 29, 3), (71, .istore_n 3, 1), (72, .goto 56, 3), (75, .iload 5, 2), (77, .invokestatic 33, 3), (80, .ifCond .eq 14, 3), (83, .aload_n 0, 1), (84, .aload_n 1, 1), (85, .iload_n 3, 1), (86, .iload_n 2, 1), (87, .invokevirtual 36, 3), (90, .istore_n 3, 1), (91, .goto 37, 3), (94, .ldc 39, 2), (96, .iload 5, 2), (98, .i2c, 1), (99, .invokevirtual 41, 3), (102, .ifCond .lt 17, 3), (105, .aload_n 0, 1), (106, .iload 5, 2), (108, .iload_n 3, 1), (109, .iconst 0, 1), (110, .invokevirtual 47, 3), (113, .iinc 3 1, 3), (116, .goto 12, 3), (119, .aload_n 0, 1), (120, .iconst 1, 1), (121, .iload_n 3, 1), (122, .iconst 0, 1), (123, .invokevirtual 47, 3), (126, .iload_n 2, 1), (127, .istore_n 3, 1), (128, .iinc 4 1, 3), (131, .goto (-121), 3), (134, .aload_n 0, 1), (135, .iconst 0, 1), (136, .iload_n 2, 1), (137, .iconst 0, 1), (138, .invokevirtual 47, 3), (141, .return_, 1)])
theorem qmX7_cut_ok : QMK qmX7_cut := qmk_of 565 (by decide +kernel)
end
section
def qmX7_cutNumber : QMeth := (7, yX7_cutNumber, cX7_cutNumber, 7, (some .int), [(0, .iload_n 2, 1), (1, .istore 4, 2), (3, .iconst 0, 1), (4, .istore 5, 2), (6, .iload 4, 2), (8, .iload_n 3, 1), (9, .if_icmp .ge 49, 3), (12, .iload 4, 2), (14, .aload_n 1, 1), (15, .arraylength, 1), (16, .if_icmp .ge 42, 3), (19, .aload_n 1, 1), (20, .iload 4, 2), (22, .baload, 1), (23, .invokestatic 25, 3), (26, .ifCond .eq 32, 3), (29, .iload 4, 2), (31, .iload_n 2, 1), (32, .iconst 3, 1), (33, .iadd, 1), (34, .if_icmp .ge 18, 3), (37, .iload 5, 2), (39, .bipush 10, 2), (41, .imul, 1), (42, .aload_n 1, 1), (43, .iload 4, 2), (45, .baload, 1), (46, .iadd, 1), (47, .bipush 48, 2), (49, .isub, 1), (50, .istore 5, 2), (52, .iinc 4 1, 3), (55, .goto (-49), 3), (58, .iload 4, 2), (60, .iload_n 2, 1), (61, .isub, 1), (62, .iconst 3, 1), (63, .if_icmp .gt 7, 3), (66, .iconst 1, 1), (67, .goto 4, 3), (70, .iconst 0, 1), (71, .istore 6, 2), (73, .aload_n 0, 1), (74, .iload 6, 2), (76, .ifCond .eq 7, 3), (79, .iconst 2, 1), (80, .goto 4, 3), (83, .iconst 1, 1), (84, .iload_n 2, 1), (85, .iload 5, 2), (87, .invokevirtual 47, 3), (90, .iload 6, 2), (92, .ifCond .eq 8, 3), (95, .iload 4, 2), (97, .goto 4, 3), (100, .iload_n 3, 1), (101, .ireturn, 1)])
theorem qmX7_cutNumber_ok : QMK qmX7_cutNumber := qmk_of 572 (by decide +kernel)
def qmX7_cutWord : QMeth := (7, yX7_cutWord, cX7_cutWord, 5, (some .int), [(0, .iload_n 2, 1), (1, .istore 4, 2), (3, .iload 4, 2), (5, .iload_n 3, 1), (6, .if_icmp .ge 26, 3), (9, .iload 4, 2), (11, .aload_n 1, 1), (12, .arraylength, 1), (13, .if_icmp .ge 19, 3), (16, .aload_n 1, 1), (17, .iload 4, 2), (19, .baload, 1), (20, .invokestatic 33, 3), (23, .ifCond .eq 9, 3), (26, .iinc 4 1, 3), (29, .goto (-26), 3), (32, .aload_n 0, 1), (33, .aload_n 1, 1), (34, .iload_n 2, 1), (35, .iload 4, 2), (37, .invokestatic 51, 3), (40, .iload_n 2, 1), (41, .iconst 0, 1), (42, .invokevirtual 47, 3), (45, .iload 4, 2), (47, .ireturn, 1)])
theorem qmX7_cutWord_ok : QMK qmX7_cutWord := qmk_of 583 (by decide +kernel)
def qmX7_add : QMeth := (7, yX7_add, cX7_add, 4, none, [(0, .aload_n 0, 1), (1, .getfield 21, 3), (4, .aload_n 0, 1), (5, .getfield 9, 3), (8, .arraylength, 1), (9, .if_icmp .ge 43, 3), (12, .aload_n 0, 1), (13, .getfield 9, 3), (16, .aload_n 0, 1), (17, .getfield 21, 3), (20, .iload_n 1, 1), (21, .iastore, 1), (22, .aload_n 0, 1), (23, .getfield 18, 3), (26, .aload_n 0, 1), (27, .getfield 21, 3), (30, .iload_n 2, 1), (31, .iastore, 1), (32, .aload_n 0, 1), (33, .getfield 15, 3), (36, .aload_n 0, 1), (37, .getfield 21, 3), (40, .iload_n 3, 1), (41, .iastore, 1), (42, .aload_n 0, 1), (43, .dup, 1), (44, .getfield 21, 3), (47, .iconst 1, 1), (48, .iadd, 1), (49, .putfield 21, 3), (52, .return_, 1)])
theorem qmX7_add_ok : QMK qmX7_add := qmk_of 576 (by decide +kernel)
def qmX7_isDigit : QMeth := (7, yX7_isDigit, cX7_isDigit, 1, (some .boolean), [(0, .iload_n 0, 1), (1, .bipush 48, 2), (3, .if_icmp .lt 13, 3), (6, .iload_n 0, 1), (7, .bipush 57, 2), (9, .if_icmp .gt 7, 3), (12, .iconst 1, 1), (13, .goto 4, 3), (16, .iconst 0, 1), (17, .ireturn, 1)])
theorem qmX7_isDigit_ok : QMK qmX7_isDigit := qmk_of 568 (by decide +kernel)
def qmX7_isLetter : QMeth := (7, yX7_isLetter, cX7_isLetter, 1, (some .boolean), [(0, .iload_n 0, 1), (1, .bipush 97, 2), (3, .if_icmp .lt 13, 3), (6, .iload_n 0, 1), (7, .bipush 122, 2), (9, .if_icmp .gt 7, 3), (12, .iconst 1, 1), (13, .goto 4, 3), (16, .iconst 0, 1), (17, .ireturn, 1)])
theorem qmX7_isLetter_ok : QMK qmX7_isLetter := qmk_of 579 (by decide +kernel)
def qmX7_wordOf : QMeth := (7, yX7_wordOf, cX7_wordOf, 3, (some .int), [(0, .aload_n 0, 1), (1, .iload_n 1, 1), (2, .iload_n 2, 1), (3, .ldc 54, 2), (5, .invokestatic 56, 3), (8, .ifCond .eq 9, 3), (11, .sipush 200, 3), (14, .goto 225, 3), (17, .aload_n 0, 1), (18, .iload_n 1, 1), (19, .iload_n 2, 1), (20, .ldc 60, 2), (22, .invokestatic 56, 3), (25, .ifCond .eq 9, 3), (28, .sipush 201, 3), (31, .goto 208, 3), (34, .aload_n 0, 1), (35, .iload_n 1, 1), (36, .iload_n 2, 1), (37, .ldc 62, 2), (39, .invokestatic 56, 3), (42, .ifCond .eq 9, 3), (45, .sipush 202, 3), (48, .goto 191, 3), (51, .aload_n 0, 1), (52, .iload_n 1, 1), (53, .iload_n 2, 1), (54, .ldc 64, 2), (56, .invokestatic 56, 3), (59, .ifCond .eq 9, 3), (62, .sipush 203, 3), (65, .goto 174, 3), (68, .aload_n 0, 1), (69, .iload_n 1, 1), (70, .iload_n 2, 1), (71, .ldc 66, 2), (73, .invokestatic 56, 3), (76, .ifCond .eq 9, 3), (79, .sipush 204, 3), (82, .goto 157, 3), (85, .aload_n 0, 1), (86, .iload_n 1, 1), (87, .iload_n 2, 1), (88, .ldc 68, 2), (90, .invokestatic 56, 3), (93, .ifCond .eq 9, 3), (96, .sipush 205, 3), (99, .goto 140, 3), (102, .aload_n 0, 1), (103, .iload_n 1, 1), (104, .iload_n 2, 1), (105, .ldc 70, 2), (107, .invokestatic 56, 3), (110, .ifCond .eq 9, 3), (113, .sipush 206, 3), (116, .goto 123, 3), (119, .aload_n 0, 1), (120, .iload_n 1, 1), (121, .iload_n 2, 1), (122, .ldc 72, 2), (124, .invokestatic 56, 3), (127, .ifCond .eq 9, 3), (130, .sipush 207, 3), (133, .goto 106, 3), (136, .aload_n 0, 1), (137, .iload_n 1, 1), (138, .iload_n 2, 1), (139, .ldc 74, 2), (141, .invokestatic 56, 3), (144, .ifCond .eq 9, 3), (147, .sipush 208, 3), (150, .goto 89, 3), (153, .aload_n 0, 1), (154, .iload_n 1, 1), (155, .iload_n 2, 1), (156, .ldc 76, 2), (158, .invokestatic 56, 3), (161, .ifCond .eq 9, 3), (164, .sipush 209, 3), (167, .goto 72, 3), (170, .aload_n 0, 1), (171, .iload_n 1, 1), (172, .iload_n 2, 1), (173, .ldc 78, 2), (175, .invokestatic 56, 3), (178, .ifCond .eq 9, 3), (181, .sipush 210, 3), (184, .goto 55, 3), (187, .aload_n 0, 1), (188, .iload_n 1, 1), (189, .iload_n 2, 1), (190, .ldc 80, 2), (192, .invokestatic 56, 3), (195, .ifCond .eq 9, 3), (198, .sipush 211, 3), (201, .goto 38, 3), (204, .aload_n 0, 1), (205, .iload_n 1, 1), (206, .iload_n 2, 1), (207, .ldc 82, 2), (209, .invokestatic 56, 3), (212, .ifCond .eq 9, 3), (215, .sipush 212, 3), (218, .goto 21, 3), (221, .aload_n 0, 1), (222, .iload_n 1, 1), (223, .iload_n 2, 1), (224, .ldc 84, 2), (226, .invokestatic 56, 3), (229, .ifCond .eq 9, 3), (232, .sipush 213, 3), (235, .goto 4, 3), (238, .iconst 3, 1), (239, .ireturn, 1)])
theorem qmX7_wordOf_ok : QMK qmX7_wordOf := qmk_of 586 (by decide +kernel)
def qmX7_spells : QMeth := (7, yX7_spells, cX7_spells, 5, (some .boolean), [(0, .iload_n 1, 1), (1, .ifCond .lt 19, 3), (4, .iload_n 2, 1), (5, .aload_n 0, 1), (6, .arraylength, 1), (7, .if_icmp .gt 13, 3), (10, .iload_n 2, 1), (11, .iload_n 1, 1), (12, .isub, 1), (13, .aload_n 3, 1), (14, .invokevirtual 86, 3), (17, .if_icmp .eq 5, 3), (20, .iconst 0, 1), (21, .ireturn, 1), (22, .iconst 0, 1), (23, .istore 4, 2), (25, .iload 4, 2), (27, .aload_n 3, 1), (28, .invokevirtual 86, 3), (31, .if_icmp .ge 26, 3), (34, .aload_n 0, 1), (35, .iload_n 1, 1), (36, .iload 4, 2), (38, .iadd, 1), (39, .baload, 1), (40, .aload_n 3, 1), (41, .iload 4, 2), (43, .invokevirtual 90, 3), (46, .if_icmp .eq 5, 3), (49, .iconst 0, 1), (50, .ireturn, 1), (51, .iinc 4 1, 3), (54, .goto (-29), 3), (57, .iconst 1, 1), (58, .ireturn, 1)])
theorem qmX7_spells_ok : QMK qmX7_spells := qmk_of 590 (by decide +kernel)
def qmX8_init : QMeth := (8, yX8_init, cX8_init, 1, none, [(0, .aload_n 0, 1), (1, .invokespecial 3, 3), (4, .aload_n 0, 1), (5, .bipush 40, 2), (7, .newarray .long, 2), (9, .putfield 9, 3), (12, .aload_n 0, 1), (13, .iconst (-1), 1), (14, .putfield 15, 3), (17, .return_, 1)])
theorem qmX8_init_ok : QMK qmX8_init := qmk_of 458 (by decide +kernel)
def qmX8_isMissing : QMeth := (8, yX8_isMissing, cX8_isMissing, 1, (some .boolean), [(0, .aload_n 0, 1), (1, .getfield 15, 3), (4, .iconst (-1), 1), (5, .if_icmp .ne 7, 3), (8, .iconst 1, 1), (9, .goto 4, 3), (12, .iconst 0, 1), (13, .ireturn, 1)])
theorem qmX8_isMissing_ok : QMK qmX8_isMissing := qmk_of 1058 (by decide +kernel)
def qmX8_begin : QMeth := (8, yX8_begin, cX8_begin, 3, none, [(0, .aload_n 0, 1), (1, .getfield 9, 3), (4, .lconst 0, 1), (5, .invokestatic 19, 3), (8, .aload_n 0, 1), (9, .iload_n 1, 1), (10, .putfield 25, 3), (13, .aload_n 0, 1), (14, .iload_n 2, 1), (15, .putfield 15, 3), (18, .return_, 1)])
theorem qmX8_begin_ok : QMK qmX8_begin := qmk_of 1344 (by decide +kernel)
def qmX8_number : QMeth := (8, yX8_number, cX8_number, 2, (some .long), [(0, .iload_n 1, 1), (1, .ifCond .lt 26, 3), (4, .iload_n 1, 1), (5, .aload_n 0, 1), (6, .getfield 15, 3), (9, .if_icmp .ge 18, 3), (12, .iload_n 1, 1), (13, .bipush 40, 2), (15, .if_icmp .ge 12, 3), (18, .aload_n 0, 1), (19, .getfield 9, 3), (22, .iload_n 1, 1), (23, .laload, 1), (24, .goto 4, 3), (27, .lconst 0, 1), (28, .lreturn, 1)])
theorem qmX8_number_ok : QMK qmX8_number := qmk_of 1067 (by decide +kernel)
def qmX8_put : QMeth := (8, yX8_put, cX8_put, 4, (some .long), [(0, .iload_n 1, 1), (1, .ifCond .lt 17, 3), (4, .iload_n 1, 1), (5, .aload_n 0, 1), (6, .getfield 15, 3), (9, .if_icmp .ge 9, 3), (12, .iload_n 1, 1), (13, .bipush 40, 2), (15, .if_icmp .lt 5, 3), (18, .lconst 0, 1), (19, .lreturn, 1), (20, .aload_n 0, 1), (21, .getfield 9, 3), (24, .iload_n 1, 1), (25, .aload_n 0, 1), (26, .getfield 25, 3), (29, .ifCond .ne 10, 3), (32, .lload_n 2, 1), (33, .l2i, 1), (34, .i2b, 1), (35, .i2l, 1), (36, .goto 33, 3), (39, .aload_n 0, 1), (40, .getfield 25, 3), (43, .iconst 1, 1), (44, .if_icmp .ne 10, 3), (47, .lload_n 2, 1), (48, .l2i, 1), (49, .i2s, 1), (50, .i2l, 1), (51, .goto 18, 3), (54, .aload_n 0, 1), (55, .getfield 25, 3), (58, .iconst 2, 1), (59, .if_icmp .ne 9, 3), (62, .lload_n 2, 1), (63, .l2i, 1), (64, .i2l, 1), (65, .goto 4, 3), (68, .lload_n 2, 1), (69, .lastore, 1), (70, .aload_n 0, 1), (71, .getfield 9, 3), (74, .iload_n 1, 1), (75, .laload, 1), (76, .lreturn, 1)])
theorem qmX8_put_ok : QMK qmX8_put := qmk_of 1355 (by decide +kernel)
def qmX9_init : QMeth := (9, yX9_init, cX9_init, 1, none, [(0, .aload_n 0, 1), (1, .invokespecial 3, 3), (4, .aload_n 0, 1), (5, .bipush 36, 2), (7, .newarray .int, 2), (9, .putfield 9, 3), (12, .aload_n 0, 1), (13, .bipush 36, 2), (15, .newarray .int, 2), (17, .putfield 15, 3), (20, .aload_n 0, 1), (21, .bipush 36, 2), (23, .newarray .long, 2), (25, .putfield 18, 3), (28, .aload_n 0, 1), (29, .bipush 36, 2), (31, .newarray .long, 2), (33, .putfield 22, 3), (36, .aload_n 0, 1), (37, .bipush 36, 2), (39, .newarray .int, 2), (41, .putfield 25, 3), (44, .aload_n 0, 1), (45, .bipush 36, 2), (47, .newarray .long, 2), (49, .putfield 28, 3), (52, .aload_n 0, 1), (53, .bipush 36, 2), (55, .newarray .long, 2), (57, .putfield 31, 3), (60, .aload_n 0, 1), (61, .bipush 36, 2), (63, .newarray .int, 2), (65, .putfield 34, 3), (68, .aload_n 0, 1), (69, .sipush 144, 3), (72, .newarray .int, 2), (74, .putfield 37, 3), (77, .aload_n 0, 1), (78, .iconst 1, 1), (79, .putfield 40, 3), (82, .return_, 1)])
theorem qmX9_init_ok : QMK qmX9_init := qmk_of 376 (by decide +kernel)
def qmX9_comesTo : QMeth := (9, yX9_comesTo, cX9_comesTo, 2, (some .boolean), [(0, .aload_n 0, 1), (1, .getfield 9, 3), (4, .iload_n 1, 1), (5, .iaload, 1), (6, .iconst (-1), 1), (7, .if_icmp .eq 7, 3), (10, .iconst 1, 1), (11, .goto 4, 3), (14, .iconst 0, 1), (15, .ireturn, 1)])
theorem qmX9_comesTo_ok : QMK qmX9_comesTo := qmk_of 1158 (by decide +kernel)
def qmX9_begin : QMeth := (9, yX9_begin, cX9_begin, 6, none, [(0, .aload_n 0, 1), (1, .aload_n 1, 1), (2, .invokevirtual 44, 3), (5, .putfield 50, 3), (8, .aload_n 0, 1), (9, .iconst 1, 1), (10, .aload_n 1, 1), (11, .getfield 52, 3), (14, .invokestatic 53, 3), (17, .putfield 40, 3), (20, .aload_n 0, 1), (21, .aload_n 2, 1), (22, .aload_n 1, 1), (23, .iload_n 3, 1), (24, .invokevirtual 59, 3), (27, .putfield 65, 3), (30, .aload_n 0, 1), (31, .bipush 16, 2), (33, .aload_n 2, 1), (34, .getfield 68, 3), (37, .iload_n 3, 1), (38, .iaload, 1), (39, .isub, 1), (40, .putfield 71, 3), (43, .aload_n 0, 1), (44, .lconst 0, 1), (45, .putfield 74, 3), (48, .aload_n 0, 1), (49, .lconst 0, 1), (50, .putfield 78, 3), (53, .aload_n 0, 1), (54, .lconst 0, 1), (55, .putfield 81, 3), (58, .aload_n 0, 1), (59, .lconst 0, 1), (60, .putfield 84, 3), (63, .iconst 0, 1), (64, .istore 4, 2), (66, .iload 4, 2), (68, .aload_n 0, 1), (69, .getfield 50, 3), (72, .if_icmp .ge 172, 3), (75, .iconst 1, 1), (76, .istore 5, 2), (78, .iload 5, 2), (80, .iconst 4, 1), (81, .if_icmp .gt 31, 3), (84, .aload_n 0, 1), (85, .getfield 37, 3), (88, .iload 4, 2), (90, .iconst 4, 1), (91, .imul, 1), (92, .iload 5, 2), (94, .iadd, 1), (95, .iconst 1, 1), (96, .isub, 1), (97, .aload_n 1, 1), (98, .iload 4, 2), (100, .iload 5, 2), (102, .invokevirtual 87, 3), (105, .iastore, 1), (106, .iinc 5 1, 3), (109, .goto (-31), 3), (112, .aload_n 0, 1), (113, .dup, 1), (114, .getfield 81, 3), (117, .aload_n 0, 1), (118, .iload 4, 2), (120, .iconst 2, 1), (121, .invokevirtual 90, 3), (124, .iconst (-1), 1), (125, .if_icmp .ne 10, 3), (128, .lconst 1, 1), (129, .iload 4, 2), (131, .lshl, 1), (132, .goto 4, 3), (135, .lconst 0, 1), (136, .lor, 1), (137, .putfield 81, 3), (140, .aload_n 0, 1), (141, .dup, 1), (142, .getfield 84, 3), (145, .aload_n 0, 1), (146, .iload 4, 2), (148, .iconst 4, 1), (149, .invokevirtual 90, 3), (152, .iconst (-1), 1), (153, .if_icmp .ne 10, 3), (156, .lconst 1, 1), (157, .iload 4, 2), (159, .lshl, 1), (160, .goto 4, 3), (163, .lconst 0, 1), (164, .lor, 1), (165, .putfield 84, 3), (168, .aload_n 2, 1), (169, .iload 4, 2), (171, .invokevirtual 93, 3), (174, .istore 5, 2), (176, .aload_n 2, 1), (177, .aload_n 1, 1), (178, .iload_n 3, 1), (179, .iload 4, 2), (181, .invokevirtual 97, 3), (184, .ifCond .eq 54, 3), (187, .aload_n 1, 1), (188, .iload_n 3, 1), (189, .iload 4, 2), (191, .aload_n 2, 1), (192, .getfield 101, 3), (195, .iload 5, 2), (197, .invokevirtual 104, 3), (200, .ifCond .eq 38, 3), (203, .aload_n 0, 1), (204, .dup, 1), (205, .getfield 74, 3), (208, .lconst 1, 1), (209, .iload 4, 2), (211, .lshl, 1), (212, .lor, 1), (213, .putfield 74, 3), (216, .aload_n 0, 1), (217, .dup, 1), (218, .getfield 78, 3), (221, .iload 5, 2), (223, .ifCond .le 10, 3), (226, .lconst 1, 1), (227, .iload 4, 2), (229, .lshl, 1), (230, .goto 4, 3), (233, .lconst 0, 1), (234, .lor, 1), (235, .putfield 78, 3), (238, .iinc 4 1, 3), (241, .goto (-175), 3), (244, .return_, 1)])
theorem qmX9_begin_ok : QMK qmX9_begin := qmk_of 1118 (by decide +kernel)
def qmX9_findShort : QMeth := (9, yX9_findShort, cX9_findShort, 5, none, [(0, .aload_n 0, 1), (1, .aload_n 1, 1), (2, .aload_n 2, 1), (3, .iload_n 3, 1), (4, .invokevirtual 108, 3), (7, .iconst 0, 1), (8, .istore 4, 2), (10, .iload 4, 2), (12, .aload_n 0, 1), (13, .getfield 50, 3), (16, .if_icmp .ge 43, 3), (19, .aload_n 0, 1), (20, .getfield 34, 3), (23, .iload 4, 2), (25, .aload_n 0, 1), (26, .getfield 74, 3), (29, .iload 4, 2), (31, .invokestatic 112, 3), (34, .ifCond .eq 17, 3), (37, .aload_n 1, 1), (38, .iload_n 3, 1), (39, .iload 4, 2), (41, .aload_n 2, 1), (42, .getfield 101, 3), (45, .invokevirtual 116, 3), (48, .goto 4, 3), (51, .iconst 0, 1), (52, .iastore, 1), (53, .iinc 4 1, 3), (56, .goto (-46), 3), (59, .aload_n 0, 1), (60, .invokevirtual 120, 3), (63, .return_, 1)])
theorem qmX9_findShort_ok : QMK qmX9_findShort := qmk_of 1114 (by decide +kernel)
def qmX9_findLeastCrossed : QMeth := (9, yX9_findLeastCrossed, cX9_findLeastCrossed, 5, none, [(0, .aload_n 0, 1), (1, .aload_n 1, 1), (2, .aload_n 2, 1), (3, .iload_n 3, 1), (4, .invokevirtual 108, 3), (7, .iconst 0, 1), (8, .istore 4, 2), (10, .iload 4, 2), (12, .aload_n 0, 1), (13, .getfield 50, 3), (16, .if_icmp .ge 33, 3), (19, .aload_n 0, 1), (20, .getfield 34, 3), (23, .iload 4, 2), (25, .aload_n 0, 1), (26, .getfield 78, 3), (29, .iload 4, 2), (31, .invokestatic 112, 3), (34, .ifCond .eq 7, 3), (37, .iconst 1, 1), (38, .goto 4, 3), (41, .iconst 0, 1), (42, .iastore, 1), (43, .iinc 4 1, 3), (46, .goto (-36), 3), (49, .aload_n 0, 1), (50, .invokevirtual 120, 3), (53, .return_, 1)])
theorem qmX9_findLeastCrossed_ok : QMK qmX9_findLeastCrossed := qmk_of 1200 (by decide +kernel)
def qmX9_find : QMeth := (9, yX9_find, cX9_find, 4, none, [(0, .aload_n 0, 1), (1, .getfield 9, 3), (4, .iconst (-1), 1), (5, .invokestatic 123, 3), (8, .aload_n 0, 1), (9, .getfield 15, 3), (12, .iconst 0, 1), (13, .invokestatic 123, 3), (16, .aload_n 0, 1), (17, .getfield 18, 3), (20, .lconst 0, 1), (21, .invokestatic 129, 3), (24, .aload_n 0, 1), (25, .getfield 22, 3), (28, .lconst 0, 1), (29, .invokestatic 129, 3), (32, .aload_n 0, 1), (33, .getfield 9, 3), (36, .aload_n 0, 1), (37, .getfield 65, 3), (40, .iconst 0, 1), (41, .iastore, 1), (42, .lconst 1, 1), (43, .aload_n 0, 1), (44, .getfield 65, 3), (47, .lshl, 1), (48, .lstore_n 1, 1), (49, .iconst 1, 1), (50, .istore_n 3, 1), (51, .iload_n 3, 1), (52, .aload_n 0, 1), (53, .getfield 71, 3), (56, .if_icmp .gt 22, 3), (59, .lload_n 1, 1), (60, .lconst 0, 1), (61, .lcmp, 1), (62, .ifCond .eq 16, 3), (65, .aload_n 0, 1), (66, .iload_n 3, 1), (67, .lload_n 1, 1), (68, .invokevirtual 132, 3), (71, .lstore_n 1, 1), (72, .iinc 3 1, 3), (75, .goto (-24), 3), (78, .return_, 1)])
theorem qmX9_find_ok : QMK qmX9_find := qmk_of 1137 (by decide +kernel)
def qmX9_findNext : QMeth := (9, yX9_findNext, cX9_findNext, 9, (some .long), [(0, .lconst 0, 1), (1, .lstore 4, 2), (3, .iconst 0, 1), (4, .istore 6, 2), (6, .iload 6, 2), (8, .aload_n 0, 1), (9, .getfield 50, 3), (12, .if_icmp .ge 139, 3), (15, .iconst 1, 1), (16, .istore 7, 2), (18, .iload 7, 2), (20, .iconst 4, 1), (21, .if_icmp .gt 124, 3), (24, .lload_n 2, 1), (25, .iload 6, 2), (27, .invokestatic 112, 3), (30, .ifCond .eq 115, 3), (33, .aload_n 0, 1), (34, .iload 6, 2), (36, .iload 7, 2), (38, .invokevirtual 90, 3), (41, .istore 8, 2), (43, .aload_n 0, 1), (44, .getfield 74, 3), (47, .iload 8, 2), (49, .invokestatic 112, 3), (52, .ifCond .eq 87, 3), (55, .aload_n 0, 1), (56, .iload 6, 2), (58, .iload 7, 2), (60, .iload 8, 2), (62, .lload 4, 2), (64, .invokevirtual 136, 3), (67, .ifCond .eq 72, 3), (70, .aload_n 0, 1), (71, .getfield 25, 3), (74, .iload 8, 2), (76, .aload_n 0, 1), (77, .getfield 9, 3), (80, .iload 6, 2), (82, .iaload, 1), (83, .aload_n 0, 1), (84, .getfield 34, 3), (87, .iload 8, 2), (89, .iaload, 1), (90, .iadd, 1), (91, .iastore, 1), (92, .aload_n 0, 1), (93, .getfield 28, 3), (96, .iload 8, 2), (98, .aload_n 0, 1), (99, .getfield 18, 3), (102, .iload 6, 2), (104, .laload, 1), (105, .lconst 1, 1), (106, .iload 8, 2), (108, .lshl, 1), (109, .lor, 1), (110, .lastore, 1), (111, .aload_n 0, 1), (112, .getfield 31, 3), (115, .iload 8, 2), (117, .aload_n 0, 1), (118, .getfield 22, 3), (121, .iload 6, 2), (123, .laload, 1), (124, .iload 7, 2), (126, .invokestatic 140, 3), (129, .lastore, 1), (130, .lload 4, 2), (132, .lconst 1, 1), (133, .iload 8, 2), (135, .lshl, 1), (136, .lor, 1), (137, .lstore 4, 2), (139, .iinc 7 1, 3), (142, .goto (-124), 3), (145, .iinc 6 1, 3), (148, .goto (-142), 3), (151, .iconst 0, 1), (152, .istore 6, 2), (154, .iload 6, 2), (156, .aload_n 0, 1), (157, .getfield 50, 3), (160, .if_icmp .ge 69, 3), (163, .lload 4, 2), (165, .iload 6, 2), (167, .invokestatic 112, 3), (170, .ifCond .eq 53, 3), (173, .aload_n 0, 1), (174, .getfield 9, 3), (177, .iload 6, 2), (179, .aload_n 0, 1), (180, .getfield 25, 3), (183, .iload 6, 2), (185, .iaload, 1), (186, .iastore, 1), (187, .aload_n 0, 1), (188, .getfield 18, 3), (191, .iload 6, 2), (193, .aload_n 0, 1), (194, .getfield 28, 3), (197, .iload 6, 2), (199, .laload, 1), (200, .lastore, 1), (201, .aload_n 0, 1), (202, .getfield 22, 3), (205, .iload 6, 2), (207, .aload_n 0, 1), (208, .getfield 31, 3), (211, .iload 6, 2), (213, .laload, 1), (214, .lastore, 1), (215, .aload_n 0, 1), (216, .getfield 15, 3), (219, .iload 6, 2), (221, .iload_n 1, 1), (222, .iastore, 1), (223, .iinc 6 1, 3), (226, .goto (-72), 3), (229, .lload 4, 2), (231, .lreturn, 1)])
theorem qmX9_findNext_ok : QMK qmX9_findNext := qmk_of 1145 (by decide +kernel)
def qmX9_betters : QMeth := (9, yX9_betters, cX9_betters, 7, (some .boolean), [(0, .aload_n 0, 1), (1, .getfield 9, 3), (4, .iload_n 1, 1), (5, .iaload, 1), (6, .aload_n 0, 1), (7, .getfield 34, 3), (10, .iload_n 3, 1), (11, .iaload, 1), (12, .iadd, 1), (13, .istore 6, 2), (15, .aload_n 0, 1), (16, .getfield 9, 3), (19, .iload_n 3, 1), (20, .iaload, 1), (21, .iconst (-1), 1), (22, .if_icmp .eq 16, 3), (25, .aload_n 0, 1), (26, .getfield 9, 3), (29, .iload_n 3, 1), (30, .iaload, 1), (31, .iload 6, 2), (33, .if_icmp .gt 5, 3), (36, .iconst 0, 1), (37, .ireturn, 1), (38, .lload 4, 2), (40, .iload_n 3, 1), (41, .invokestatic 112, 3), (44, .ifCond .eq 14, 3), (47, .iload 6, 2), (49, .aload_n 0, 1), (50, .getfield 25, 3), (53, .iload_n 3, 1), (54, .iaload, 1), (55, .if_icmp .ge 5, 3), (58, .iconst 1, 1), (59, .ireturn, 1), (60, .iload 6, 2), (62, .aload_n 0, 1), (63, .getfield 25, 3), (66, .iload_n 3, 1), (67, .iaload, 1), (68, .if_icmp .ne 27, 3), (71, .aload_n 0, 1), (72, .getfield 22, 3), (75, .iload_n 1, 1), (76, .laload, 1), (77, .iload_n 2, 1), (78, .invokestatic 140, 3), (81, .aload_n 0, 1), (82, .getfield 31, 3), (85, .iload_n 3, 1), (86, .laload, 1), (87, .lcmp, 1), (88, .ifCond .ge 7, 3), (91, .iconst 1, 1), (92, .goto 4, 3), (95, .iconst 0, 1), (96, .ireturn, 1)])
theorem qmX9_betters_ok : QMK qmX9_betters := qmk_of 1149 (by decide +kernel)
def qmX9_withTurn : QMeth := (9, yX9_withTurn, cX9_withTurn, 3, (some .long), [(0, .lload_n 0, 1), (1, .ldc2_w 144, 3), (4, .lmul, 1), (5, .iload_n 2, 1), (6, .i2l, 1), (7, .ladd, 1), (8, .lconst 1, 1), (9, .lsub, 1), (10, .lreturn, 1)])
theorem qmX9_withTurn_ok : QMK qmX9_withTurn := qmk_of 1152 (by decide +kernel)
def qmX9_turnOf : QMeth := (9, yX9_turnOf, cX9_turnOf, 3, (some .int), [(0, .iload_n 2, 1), (1, .ifCond .lt 13, 3), (4, .iload_n 2, 1), (5, .aload_n 0, 1), (6, .getfield 15, 3), (9, .iload_n 1, 1), (10, .iaload, 1), (11, .if_icmp .lt 5, 3), (14, .iconst (-1), 1), (15, .ireturn, 1), (16, .iconst 1, 1), (17, .aload_n 0, 1), (18, .getfield 22, 3), (21, .iload_n 1, 1), (22, .laload, 1), (23, .iconst 2, 1), (24, .aload_n 0, 1), (25, .getfield 15, 3), (28, .iload_n 1, 1), (29, .iaload, 1), (30, .iconst 1, 1), (31, .isub, 1), (32, .iload_n 2, 1), (33, .isub, 1), (34, .imul, 1), (35, .lushr, 1), (36, .ldc2_w 146, 3), (39, .land, 1), (40, .l2i, 1), (41, .iadd, 1), (42, .ireturn, 1)])
theorem qmX9_turnOf_ok : QMK qmX9_turnOf := qmk_of 1170 (by decide +kernel)
def qmX9_endsBy : QMeth := (9, yX9_endsBy, cX9_endsBy, 6, (some .long), [(0, .lconst 0, 1), (1, .lstore_n 3, 1), (2, .iconst 0, 1), (3, .istore 5, 2), (5, .iload 5, 2), (7, .aload_n 0, 1), (8, .getfield 50, 3), (11, .if_icmp .ge 30, 3), (14, .aload_n 0, 1), (15, .getfield 18, 3), (18, .iload 5, 2), (20, .laload, 1), (21, .lload_n 1, 1), (22, .land, 1), (23, .lload_n 1, 1), (24, .lcmp, 1), (25, .ifCond .ne 10, 3), (28, .lload_n 3, 1), (29, .lconst 1, 1), (30, .iload 5, 2), (32, .lshl, 1), (33, .lor, 1), (34, .lstore_n 3, 1), (35, .iinc 5 1, 3), (38, .goto (-33), 3), (41, .lload_n 3, 1), (42, .lreturn, 1)])
theorem qmX9_endsBy_ok : QMK qmX9_endsBy := qmk_of 1321 (by decide +kernel)
def qmX9_reachesWithout : QMeth := (9, yX9_reachesWithout, cX9_reachesWithout, 8, (some .boolean), [(0, .aload_n 0, 1), (1, .getfield 74, 3), (4, .lconst 1, 1), (5, .iload_n 2, 1), (6, .lshl, 1), (7, .ldc2_w 148, 3), (10, .lxor, 1), (11, .land, 1), (12, .lstore_n 3, 1), (13, .lconst 1, 1), (14, .aload_n 0, 1), (15, .getfield 65, 3), (18, .lshl, 1), (19, .lstore 5, 2), (21, .iconst 0, 1), (22, .istore 7, 2), (24, .iload 7, 2), (26, .aload_n 0, 1), (27, .getfield 71, 3), (30, .if_icmp .ge 31, 3), (33, .lload 5, 2), (35, .iload_n 1, 1), (36, .invokestatic 112, 3), (39, .ifCond .ne 22, 3), (42, .lload 5, 2), (44, .aload_n 0, 1), (45, .lload 5, 2), (47, .invokevirtual 150, 3), (50, .lload_n 3, 1), (51, .land, 1), (52, .lor, 1), (53, .lstore 5, 2), (55, .iinc 7 1, 3), (58, .goto (-34), 3), (61, .lload 5, 2), (63, .iload_n 1, 1), (64, .invokestatic 112, 3), (67, .ireturn, 1)])
theorem qmX9_reachesWithout_ok : QMK qmX9_reachesWithout := qmk_of 1209 (by decide +kernel)
def qmX9_besideAll : QMeth := (9, yX9_besideAll, cX9_besideAll, 5, (some .long), [(0, .lload_n 1, 1), (1, .aload_n 0, 1), (2, .getfield 40, 3), (5, .lushr, 1), (6, .lload_n 1, 1), (7, .aload_n 0, 1), (8, .getfield 40, 3), (11, .lshl, 1), (12, .lor, 1), (13, .lstore_n 3, 1), (14, .lload_n 3, 1), (15, .lload_n 1, 1), (16, .aload_n 0, 1), (17, .getfield 81, 3), (20, .ldc2_w 148, 3), (23, .lxor, 1), (24, .land, 1), (25, .iconst 1, 1), (26, .lshl, 1), (27, .lor, 1), (28, .lload_n 1, 1), (29, .aload_n 0, 1), (30, .getfield 84, 3), (33, .ldc2_w 148, 3), (36, .lxor, 1), (37, .land, 1), (38, .iconst 1, 1), (39, .lushr, 1), (40, .lor, 1), (41, .lreturn, 1)])
theorem qmX9_besideAll_ok : QMK qmX9_besideAll := qmk_of 1213 (by decide +kernel)
def qmX9_howMany : QMeth := (9, yX9_howMany, cX9_howMany, 3, (some .int), [(0, .iload_n 2, 1), (1, .aload_n 0, 1), (2, .getfield 71, 3), (5, .if_icmp .le 7, 3), (8, .iconst 0, 1), (9, .goto 17, 3), (12, .aload_n 0, 1), (13, .aload_n 0, 1), (14, .getfield 65, 3), (17, .iload_n 1, 1), (18, .iload_n 2, 1), (19, .aload_n 0, 1), (20, .getfield 74, 3), (23, .invokevirtual 154, 3), (26, .ireturn, 1)])
theorem qmX9_howMany_ok : QMK qmX9_howMany := qmk_of 1180 (by decide +kernel)
def qmX9_manyFrom : QMeth := (9, yX9_manyFrom, cX9_manyFrom, 9, (some .int), [(0, .iload_n 3, 1), (1, .ifCond .gt 14, 3), (4, .iload_n 1, 1), (5, .iload_n 2, 1), (6, .if_icmp .ne 7, 3), (9, .iconst 1, 1), (10, .goto 4, 3), (13, .iconst 0, 1), (14, .ireturn, 1), (15, .aload_n 0, 1), (16, .iload_n 1, 1), (17, .iload_n 2, 1), (18, .invokevirtual 158, 3), (21, .iload_n 3, 1), (22, .if_icmp .le 5, 3), (25, .iconst 0, 1), (26, .ireturn, 1), (27, .iconst 0, 1), (28, .istore 6, 2), (30, .iconst 1, 1), (31, .istore 7, 2), (33, .iload 7, 2), (35, .iconst 4, 1), (36, .if_icmp .gt 54, 3), (39, .aload_n 0, 1), (40, .iload_n 1, 1), (41, .iload 7, 2), (43, .invokevirtual 90, 3), (46, .istore 8, 2), (48, .lload 4, 2), (50, .iload 8, 2), (52, .invokestatic 112, 3), (55, .ifCond .eq 29, 3), (58, .iload 6, 2), (60, .aload_n 0, 1), (61, .iload 8, 2), (63, .iload_n 2, 1), (64, .iload_n 3, 1), (65, .iconst 1, 1), (66, .isub, 1), (67, .lload 4, 2), (69, .lconst 1, 1), (70, .iload 8, 2), (72, .lshl, 1), (73, .ldc2_w 148, 3), (76, .lxor, 1), (77, .land, 1), (78, .invokevirtual 154, 3), (81, .iadd, 1), (82, .istore 6, 2), (84, .iinc 7 1, 3), (87, .goto (-54), 3), (90, .iload 6, 2), (92, .ireturn, 1)])
theorem qmX9_manyFrom_ok : QMK qmX9_manyFrom := qmk_of 1184 (by decide +kernel)
def qmX9_apart : QMeth := (9, yX9_apart, cX9_apart, 3, (some .int), [(0, .iload_n 1, 1), (1, .aload_n 0, 1), (2, .getfield 40, 3), (5, .irem, 1), (6, .iload_n 2, 1), (7, .aload_n 0, 1), (8, .getfield 40, 3), (11, .irem, 1), (12, .isub, 1), (13, .invokestatic 161, 3), (16, .iload_n 1, 1), (17, .aload_n 0, 1), (18, .getfield 40, 3), (21, .idiv, 1), (22, .iload_n 2, 1), (23, .aload_n 0, 1), (24, .getfield 40, 3), (27, .idiv, 1), (28, .isub, 1), (29, .invokestatic 161, 3), (32, .iadd, 1), (33, .ireturn, 1)])
theorem qmX9_apart_ok : QMK qmX9_apart := qmk_of 1188 (by decide +kernel)
def qmX9_leadOf : QMeth := (9, yX9_leadOf, cX9_leadOf, 4, (some .int), [(0, .iload_n 1, 1), (1, .iconst 4, 1), (2, .imul, 1), (3, .iload_n 2, 1), (4, .iadd, 1), (5, .iconst 1, 1), (6, .isub, 1), (7, .istore_n 3, 1), (8, .iload_n 3, 1), (9, .ifCond .lt 21, 3), (12, .iload_n 3, 1), (13, .aload_n 0, 1), (14, .getfield 37, 3), (17, .arraylength, 1), (18, .if_icmp .ge 12, 3), (21, .aload_n 0, 1), (22, .getfield 37, 3), (25, .iload_n 3, 1), (26, .iaload, 1), (27, .goto 4, 3), (30, .iconst (-1), 1), (31, .ireturn, 1)])
theorem qmX9_leadOf_ok : QMK qmX9_leadOf := qmk_of 1126 (by decide +kernel)
def qmX9_isIn : QMeth := (9, yX9_isIn, cX9_isIn, 3, (some .boolean), [(0, .iload_n 2, 1), (1, .ifCond .lt 17, 3), (4, .lload_n 0, 1), (5, .iload_n 2, 1), (6, .lushr, 1), (7, .lconst 1, 1), (8, .land, 1), (9, .lconst 1, 1), (10, .lcmp, 1), (11, .ifCond .ne 7, 3), (14, .iconst 1, 1), (15, .goto 4, 3), (18, .iconst 0, 1), (19, .ireturn, 1)])
theorem qmX9_isIn_ok : QMK qmX9_isIn := qmk_of 1132 (by decide +kernel)
def qmX10_init : QMeth := (10, yX10_init, cX10_init, 2, none, [(0, .aload_n 0, 1), (1, .invokespecial 1, 3), (4, .aload_n 0, 1), (5, .sipush 900, 3), (8, .newarray .byte, 2), (10, .putfield 9, 3), (13, .aload_n 0, 1), (14, .new 13, 3), (17, .dup, 1), (18, .invokespecial 15, 3), (21, .putfield 16, 3), (24, .aload_n 0, 1), (25, .new 20, 3), (28, .dup, 1), (29, .invokespecial 22, 3), (32, .putfield 23, 3), (35, .aload_n 0, 1), (36, .new 27, 3), (39, .dup, 1), (40, .invokespecial 29, 3), (43, .putfield 30, 3), (46, .aload_n 0, 1), (47, .new 27, 3), (50, .dup, 1), (51, .invokespecial 29, 3), (54, .putfield 34, 3), (57, .aload_n 0, 1), (58, .new 37, 3), (61, .dup, 1), (62, .invokespecial 39, 3), (65, .putfield 40, 3), (68, .aload_n 0, 1), (69, .iconst 4, 1), (70, .anewarray 44, 3), (73, .putfield 46, 3), (76, .aload_n 0, 1), (77, .iconst 2, 1), (78, .anewarray 50, 3), (81, .putfield 52, 3), (84, .aload_n 0, 1), (85, .new 56, 3), (88, .dup, 1), (89, .invokespecial 58, 3), (92, .putfield 59, 3), (95, .aload_n 0, 1), (96, .new 63, 3), (99, .dup, 1), (100, .invokespecial 65, 3), (103, .putfield 66, 3), (106, .iconst 0, 1), (107, .istore_n 1, 1), (108, .iload_n 1, 1), (109, .iconst 4, 1), (110, .if_icmp .ge 22, 3), (113, .aload_n 0, 1), (114, .getfield 46, 3), (117, .iload_n 1, 1), (118, .new 44, 3), (121, .dup, 1), (122, .invokespecial 70, 3), (125, .aastore, 1), (126, .iinc 1 1, 3), (129, .goto (-21), 3), (132, .iconst 0, 1), (133, .istore_n 1, 1), (134, .iload_n 1, 1), (135, .iconst 2, 1), (136, .if_icmp .ge 22, 3), (139, .aload_n 0, 1), (140, .getfield 52, 3), (143, .iload_n 1, 1), (144, .new 50, 3), (147, .dup, 1), (148, .invokespecial 71, 3), (151, .aastore, 1), (152, .iinc 1 1, 3), (155, .goto (-21), 3), (158, .aload_n 0, 1), (159, .getfield 30, 3), (162, .aload_n 0, 1), (163, .getfield 23, 3), (166, .invokevirtual 72, 3), (169, .return_, 1)])
theorem qmX10_init_ok : QMK qmX10_init := qmk_of 146 (by decide +kernel)
def qmX10_feed : QMeth := (10, yX10_feed, cX10_feed, 6, (some .int), [(0, .aload_n 0, 1), (1, .getfield 76, 3), (4, .bipush 20, 2), (6, .iadd, 1), (7, .sipush 900, 3), (10, .if_icmp .le 6, 3), (13, .bipush (-5), 2), (15, .ireturn, 1), (16, .aload_n 0, 1), (17, .iload_n 1, 1), (18, .invokevirtual 80, 3), (21, .aload_n 0, 1), (22, .iload_n 2, 1), (23, .invokevirtual 80, 3), (26, .aload_n 0, 1), (27, .iload_n 3, 1), (28, .invokevirtual 80, 3), (31, .aload_n 0, 1), (32, .iload 4, 2), (34, .invokevirtual 80, 3), (37, .aload_n 0, 1), (38, .iload 5, 2), (40, .invokevirtual 80, 3), (43, .aload_n 0, 1), (44, .getfield 76, 3), (47, .ireturn, 1)])
theorem qmX10_feed_ok : QMK qmX10_feed := qmk_of 540 (by decide +kernel)
def qmX10_putOnTape : QMeth := (10, yX10_putOnTape, cX10_putOnTape, 3, none, [(0, .bipush 24, 2), (2, .istore_n 2, 1), (3, .iload_n 2, 1), (4, .ifCond .lt 42, 3), (7, .aload_n 0, 1), (8, .getfield 76, 3), (11, .sipush 900, 3), (14, .if_icmp .ge 32, 3), (17, .aload_n 0, 1), (18, .getfield 9, 3), (21, .aload_n 0, 1), (22, .getfield 76, 3), (25, .iload_n 1, 1), (26, .iload_n 2, 1), (27, .iushr, 1), (28, .i2b, 1), (29, .bastore, 1), (30, .aload_n 0, 1), (31, .dup, 1), (32, .getfield 76, 3), (35, .iconst 1, 1), (36, .iadd, 1), (37, .putfield 76, 3), (40, .iinc 2 (-8), 3), (43, .goto (-40), 3), (46, .return_, 1)])
theorem qmX10_putOnTape_ok : QMK qmX10_putOnTape := qmk_of 544 (by decide +kernel)
def qmX10_land : QMeth := (10, yX10_land, cX10_land, 2, (some .int), [(0, .iload_n 1, 1), (1, .ifCond .lt 11, 3), (4, .iload_n 1, 1), (5, .aload_n 0, 1), (6, .getfield 76, 3), (9, .if_icmp .le 6, 3), (12, .bipush (-3), 2), (14, .ireturn, 1), (15, .aload_n 0, 1), (16, .iconst 0, 1), (17, .putfield 76, 3), (20, .aload_n 0, 1), (21, .getfield 16, 3), (24, .aload_n 0, 1), (25, .getfield 9, 3), (28, .iload_n 1, 1), (29, .invokevirtual 84, 3), (32, .ifCond .ne 14, 3), (35, .bipush (-30), 2), (37, .aload_n 0, 1), (38, .getfield 16, 3), (41, .getfield 88, 3), (44, .isub, 1), (45, .ireturn, 1), (46, .aload_n 0, 1), (47, .getfield 23, 3), (50, .aload_n 0, 1), (51, .getfield 16, 3), (54, .getfield 91, 3), (57, .invokevirtual 94, 3), (60, .aload_n 0, 1), (61, .getfield 30, 3), (64, .aload_n 0, 1), (65, .getfield 23, 3), (68, .invokevirtual 72, 3), (71, .aload_n 0, 1), (72, .getfield 40, 3), (75, .invokevirtual 97, 3), (78, .aload_n 0, 1), (79, .getfield 23, 3), (82, .getfield 100, 3), (85, .ireturn, 1)])
theorem qmX10_land_ok : QMK qmX10_land := qmk_of 548 (by decide +kernel)
def qmX10_fault : QMeth := (10, yX10_fault, cX10_fault, 2, (some .int), [(0, .iload_n 1, 1), (1, .ifCond .ne 11, 3), (4, .aload_n 0, 1), (5, .getfield 16, 3), (8, .getfield 88, 3), (11, .ireturn, 1), (12, .iload_n 1, 1), (13, .iconst 1, 1), (14, .if_icmp .ne 13, 3), (17, .aload_n 0, 1), (18, .getfield 16, 3), (21, .getfield 103, 3), (24, .goto 4, 3), (27, .iconst (-1), 1), (28, .ireturn, 1)])
theorem qmX10_fault_ok : QMK qmX10_fault := qmk_of 839 (by decide +kernel)
def qmX10_cell : QMeth := (10, yX10_cell, cX10_cell, 3, (some .int), [(0, .aload_n 0, 1), (1, .getfield 23, 3), (4, .iload_n 1, 1), (5, .invokevirtual 106, 3), (8, .ifCond .ne 6, 3), (11, .bipush (-2), 2), (13, .ireturn, 1), (14, .iload_n 2, 1), (15, .tableswitch 81 0 4 #[33, 43, 52, 62, 72], 33), (48, .aload_n 0, 1), (49, .getfield 23, 3), (52, .getfield 110, 3), (55, .iload_n 1, 1), (56, .iaload, 1), (57, .ireturn, 1), (58, .aload_n 0, 1), (59, .getfield 30, 3), (62, .iload_n 1, 1), (63, .invokevirtual 114, 3), (66, .ireturn, 1), (67, .aload_n 0, 1), (68, .getfield 30, 3), (71, .getfield 118, 3), (74, .iload_n 1, 1), (75, .iaload, 1), (76, .ireturn, 1), (77, .aload_n 0, 1), (78, .getfield 30, 3), (81, .getfield 121, 3), (84, .iload_n 1, 1), (85, .iaload, 1), (86, .ireturn, 1), (87, .aload_n 0, 1), (88, .getfield 30, 3), (91, .iload_n 1, 1), (92, .invokevirtual 124, 3), (95, .ireturn, 1), (96, .bipush (-2), 2), (98, .ireturn, 1)])
theorem qmX10_cell_ok : QMK qmX10_cell := qmk_of 843 (by decide +kernel)
def qmX10_drum : QMeth := (10, yX10_drum, cX10_drum, 3, (some .int), [(0, .aload_n 0, 1), (1, .getfield 23, 3), (4, .iload_n 1, 1), (5, .invokevirtual 127, 3), (8, .ifCond .ne 6, 3), (11, .bipush (-2), 2), (13, .ireturn, 1), (14, .iload_n 2, 1), (15, .tableswitch 85 0 4 #[33, 43, 53, 63, 76], 33), (48, .aload_n 0, 1), (49, .getfield 23, 3), (52, .getfield 130, 3), (55, .iload_n 1, 1), (56, .iaload, 1), (57, .ireturn, 1), (58, .aload_n 0, 1), (59, .getfield 30, 3), (62, .getfield 133, 3), (65, .iload_n 1, 1), (66, .iaload, 1), (67, .ireturn, 1), (68, .aload_n 0, 1), (69, .getfield 30, 3), (72, .getfield 136, 3), (75, .iload_n 1, 1), (76, .iaload, 1), (77, .ireturn, 1), (78, .aload_n 0, 1), (79, .getfield 30, 3), (82, .aload_n 0, 1), (83, .getfield 23, 3), (86, .iload_n 1, 1), (87, .invokevirtual 139, 3), (90, .ireturn, 1), (91, .aload_n 0, 1), (92, .getfield 30, 3), (95, .iload_n 1, 1), (96, .invokevirtual 143, 3), (99, .ireturn, 1), (100, .bipush (-2), 2), (102, .ireturn, 1)])
theorem qmX10_drum_ok : QMK qmX10_drum := qmk_of 860 (by decide +kernel)
def qmX10_lies : QMeth := (10, yX10_lies, cX10_lies, 3, (some .int), [(0, .aload_n 0, 1), (1, .getfield 23, 3), (4, .iload_n 1, 1), (5, .invokevirtual 127, 3), (8, .ifCond .ne 6, 3), (11, .bipush (-2), 2), (13, .ireturn, 1), (14, .iload_n 2, 1), (15, .ifCond .ge 8, 3), (18, .bipush (-3), 2), (20, .goto 12, 3), (23, .aload_n 0, 1), (24, .getfield 30, 3), (27, .iload_n 1, 1), (28, .iload_n 2, 1), (29, .invokevirtual 146, 3), (32, .ireturn, 1)])
theorem qmX10_lies_ok : QMK qmX10_lies := qmk_of 876 (by decide +kernel)
def qmX10_traveller : QMeth := (10, yX10_traveller, cX10_traveller, 3, (some .int), [(0, .aload_n 0, 1), (1, .getfield 30, 3), (4, .iload_n 1, 1), (5, .invokevirtual 150, 3), (8, .ifCond .ne 6, 3), (11, .bipush (-2), 2), (13, .ireturn, 1), (14, .iload_n 2, 1), (15, .tableswitch 80 0 3 #[29, 39, 53, 70], 29), (44, .aload_n 0, 1), (45, .getfield 30, 3), (48, .getfield 153, 3), (51, .iload_n 1, 1), (52, .iaload, 1), (53, .ireturn, 1), (54, .aload_n 0, 1), (55, .getfield 30, 3), (58, .getfield 156, 3), (61, .iload_n 1, 1), (62, .iaload, 1), (63, .iconst (-1), 1), (64, .invokestatic 159, 3), (67, .ireturn, 1), (68, .aload_n 0, 1), (69, .getfield 30, 3), (72, .iload_n 1, 1), (73, .invokevirtual 164, 3), (76, .ifCond .eq 7, 3), (79, .iconst 1, 1), (80, .goto 4, 3), (83, .iconst 0, 1), (84, .ireturn, 1), (85, .aload_n 0, 1), (86, .getfield 30, 3), (89, .getfield 167, 3), (92, .iload_n 1, 1), (93, .iaload, 1), (94, .ireturn, 1), (95, .bipush (-2), 2), (97, .ireturn, 1)])
theorem qmX10_traveller_ok : QMK qmX10_traveller := qmk_of 881 (by decide +kernel)
def qmX10_takes : QMeth := (10, yX10_takes, cX10_takes, 3, (some .int), [(0, .aload_n 0, 1), (1, .getfield 23, 3), (4, .iload_n 1, 1), (5, .invokevirtual 127, 3), (8, .ifCond .eq 14, 3), (11, .aload_n 0, 1), (12, .getfield 23, 3), (15, .iload_n 2, 1), (16, .invokevirtual 106, 3), (19, .ifCond .ne 6, 3), (22, .bipush (-2), 2), (24, .ireturn, 1), (25, .aload_n 0, 1), (26, .getfield 23, 3), (29, .iload_n 1, 1), (30, .iload_n 2, 1), (31, .aload_n 0, 1), (32, .getfield 30, 3), (35, .getfield 170, 3), (38, .invokevirtual 173, 3), (41, .ireturn, 1)])
theorem qmX10_takes_ok : QMK qmX10_takes := qmk_of 895 (by decide +kernel)
def qmX10_why : QMeth := (10, yX10_why, cX10_why, 3, (some .int), [(0, .aload_n 0, 1), (1, .getfield 30, 3), (4, .aload_n 0, 1), (5, .getfield 23, 3), (8, .iload_n 1, 1), (9, .iload_n 2, 1), (10, .invokevirtual 177, 3), (13, .ireturn, 1)])
theorem qmX10_why_ok : QMK qmX10_why := qmk_of 928 (by decide +kernel)
def qmX10_lay : QMeth := (10, yX10_lay, cX10_lay, 5, (some .int), [(0, .aload_n 0, 1), (1, .getfield 30, 3), (4, .aload_n 0, 1), (5, .getfield 23, 3), (8, .iload_n 1, 1), (9, .iload_n 2, 1), (10, .invokevirtual 177, 3), (13, .istore 4, 2), (15, .iload 4, 2), (17, .ifCond .eq 9, 3), (20, .bipush (-10), 2), (22, .iload 4, 2), (24, .isub, 1), (25, .ireturn, 1), (26, .aload_n 0, 1), (27, .getfield 40, 3), (30, .aload_n 0, 1), (31, .getfield 30, 3), (34, .invokevirtual 181, 3), (37, .aload_n 0, 1), (38, .getfield 30, 3), (41, .aload_n 0, 1), (42, .getfield 23, 3), (45, .iload_n 1, 1), (46, .iload_n 2, 1), (47, .iload_n 3, 1), (48, .invokevirtual 185, 3), (51, .pop, 1), (52, .aload_n 0, 1), (53, .getfield 30, 3), (56, .getfield 133, 3), (59, .iload_n 1, 1), (60, .iaload, 1), (61, .ireturn, 1)])
theorem qmX10_lay_ok : QMK qmX10_lay := qmk_of 953 (by decide +kernel)
end
section
def qmX10_back : QMeth := (10, yX10_back, cX10_back, 3, (some .int), [(0, .aload_n 0, 1), (1, .getfield 30, 3), (4, .aload_n 0, 1), (5, .getfield 23, 3), (8, .iload_n 1, 1), (9, .invokevirtual 189, 3), (12, .istore_n 2, 1), (13, .iload_n 2, 1), (14, .ifCond .eq 8, 3), (17, .bipush (-10), 2), (19, .iload_n 2, 1), (20, .isub, 1), (21, .ireturn, 1), (22, .aload_n 0, 1), (23, .getfield 40, 3), (26, .aload_n 0, 1), (27, .getfield 30, 3), (30, .invokevirtual 181, 3), (33, .aload_n 0, 1), (34, .getfield 30, 3), (37, .aload_n 0, 1), (38, .getfield 23, 3), (41, .iload_n 1, 1), (42, .invokevirtual 192, 3), (45, .pop, 1), (46, .aload_n 0, 1), (47, .getfield 30, 3), (50, .getfield 133, 3), (53, .iload_n 1, 1), (54, .iaload, 1), (55, .ireturn, 1)])
theorem qmX10_back_ok : QMK qmX10_back := qmk_of 971 (by decide +kernel)
def qmX10_takeIn : QMeth := (10, yX10_takeIn, cX10_takeIn, 3, (some .int), [(0, .aload_n 0, 1), (1, .getfield 30, 3), (4, .aload_n 0, 1), (5, .getfield 23, 3), (8, .iload_n 1, 1), (9, .invokevirtual 195, 3), (12, .istore_n 2, 1), (13, .iload_n 2, 1), (14, .ifCond .eq 8, 3), (17, .bipush (-10), 2), (19, .iload_n 2, 1), (20, .isub, 1), (21, .ireturn, 1), (22, .aload_n 0, 1), (23, .getfield 40, 3), (26, .aload_n 0, 1), (27, .getfield 30, 3), (30, .invokevirtual 181, 3), (33, .aload_n 0, 1), (34, .getfield 30, 3), (37, .aload_n 0, 1), (38, .getfield 23, 3), (41, .iload_n 1, 1), (42, .invokevirtual 198, 3), (45, .pop, 1), (46, .aload_n 0, 1), (47, .getfield 30, 3), (50, .getfield 133, 3), (53, .iload_n 1, 1), (54, .iaload, 1), (55, .ireturn, 1)])
theorem qmX10_takeIn_ok : QMK qmX10_takeIn := qmk_of 992 (by decide +kernel)
def qmX10_setOut : QMeth := (10, yX10_setOut, cX10_setOut, 3, (some .int), [(0, .aload_n 0, 1), (1, .getfield 30, 3), (4, .aload_n 0, 1), (5, .getfield 23, 3), (8, .iload_n 1, 1), (9, .invokevirtual 201, 3), (12, .istore_n 2, 1), (13, .iload_n 2, 1), (14, .ifCond .eq 8, 3), (17, .bipush (-10), 2), (19, .iload_n 2, 1), (20, .isub, 1), (21, .ireturn, 1), (22, .aload_n 0, 1), (23, .getfield 40, 3), (26, .aload_n 0, 1), (27, .getfield 30, 3), (30, .invokevirtual 181, 3), (33, .aload_n 0, 1), (34, .getfield 30, 3), (37, .aload_n 0, 1), (38, .getfield 23, 3), (41, .iload_n 1, 1), (42, .invokevirtual 204, 3), (45, .pop, 1), (46, .aload_n 0, 1), (47, .getfield 30, 3), (50, .getfield 207, 3), (53, .iconst 1, 1), (54, .isub, 1), (55, .ireturn, 1)])
theorem qmX10_setOut_ok : QMK qmX10_setOut := qmk_of 1005 (by decide +kernel)
def qmX10_turn : QMeth := (10, yX10_turn, cX10_turn, 3, (some .int), [(0, .aload_n 0, 1), (1, .getfield 23, 3), (4, .iload_n 1, 1), (5, .invokevirtual 106, 3), (8, .ifCond .ne 6, 3), (11, .bipush (-2), 2), (13, .ireturn, 1), (14, .aload_n 0, 1), (15, .getfield 30, 3), (18, .iload_n 1, 1), (19, .invokevirtual 114, 3), (22, .iconst 2, 1), (23, .if_icmp .ge 6, 3), (26, .bipush (-5), 2), (28, .ireturn, 1), (29, .aload_n 0, 1), (30, .getfield 40, 3), (33, .aload_n 0, 1), (34, .getfield 30, 3), (37, .invokevirtual 181, 3), (40, .aload_n 0, 1), (41, .getfield 30, 3), (44, .getfield 121, 3), (47, .iload_n 1, 1), (48, .iaload, 1), (49, .istore_n 2, 1), (50, .aload_n 0, 1), (51, .getfield 30, 3), (54, .getfield 121, 3), (57, .iload_n 1, 1), (58, .aload_n 0, 1), (59, .getfield 30, 3), (62, .getfield 118, 3), (65, .iload_n 1, 1), (66, .iaload, 1), (67, .iastore, 1), (68, .aload_n 0, 1), (69, .getfield 30, 3), (72, .getfield 118, 3), (75, .iload_n 1, 1), (76, .iload_n 2, 1), (77, .iastore, 1), (78, .iload_n 2, 1), (79, .ireturn, 1)])
theorem qmX10_turn_ok : QMK qmX10_turn := qmk_of 1018 (by decide +kernel)
def qmX10_rain : QMeth := (10, yX10_rain, cX10_rain, 3, (some .int), [(0, .iload_n 1, 1), (1, .ifCond .lt 9, 3), (4, .iload_n 1, 1), (5, .bipush 9, 2), (7, .if_icmp .le 6, 3), (10, .bipush (-3), 2), (12, .ireturn, 1), (13, .aload_n 0, 1), (14, .getfield 40, 3), (17, .aload_n 0, 1), (18, .getfield 30, 3), (21, .invokevirtual 181, 3), (24, .aload_n 0, 1), (25, .getfield 30, 3), (28, .getfield 170, 3), (31, .istore_n 2, 1), (32, .aload_n 0, 1), (33, .getfield 30, 3), (36, .iload_n 1, 1), (37, .putfield 170, 3), (40, .iload_n 2, 1), (41, .ireturn, 1)])
theorem qmX10_rain_ok : QMK qmX10_rain := qmk_of 1022 (by decide +kernel)
def qmX10_hours : QMeth := (10, yX10_hours, cX10_hours, 4, (some .int), [(0, .iload_n 1, 1), (1, .iconst 1, 1), (2, .if_icmp .lt 9, 3), (5, .iload_n 1, 1), (6, .bipush 48, 2), (8, .if_icmp .le 6, 3), (11, .bipush (-3), 2), (13, .ireturn, 1), (14, .aload_n 0, 1), (15, .getfield 40, 3), (18, .aload_n 0, 1), (19, .getfield 30, 3), (22, .invokevirtual 181, 3), (25, .iconst 0, 1), (26, .istore_n 2, 1), (27, .iconst 0, 1), (28, .istore_n 3, 1), (29, .iload_n 3, 1), (30, .iload_n 1, 1), (31, .if_icmp .ge 19, 3), (34, .iload_n 2, 1), (35, .aload_n 0, 1), (36, .getfield 30, 3), (39, .invokevirtual 210, 3), (42, .iadd, 1), (43, .istore_n 2, 1), (44, .iinc 3 1, 3), (47, .goto (-18), 3), (50, .iload_n 2, 1), (51, .ireturn, 1)])
theorem qmX10_hours_ok : QMK qmX10_hours := qmk_of 1026 (by decide +kernel)
def qmX10_undo : QMeth := (10, yX10_undo, cX10_undo, 2, (some .int), [(0, .iload_n 1, 1), (1, .iconst 1, 1), (2, .if_icmp .lt 14, 3), (5, .iload_n 1, 1), (6, .aload_n 0, 1), (7, .getfield 40, 3), (10, .getfield 214, 3), (13, .if_icmp .le 6, 3), (16, .bipush (-3), 2), (18, .ireturn, 1), (19, .aload_n 0, 1), (20, .getfield 40, 3), (23, .iload_n 1, 1), (24, .aload_n 0, 1), (25, .getfield 30, 3), (28, .invokevirtual 217, 3), (31, .aload_n 0, 1), (32, .getfield 40, 3), (35, .getfield 214, 3), (38, .ireturn, 1)])
theorem qmX10_undo_ok : QMK qmX10_undo := qmk_of 1039 (by decide +kernel)
def qmX10_judge : QMeth := (10, yX10_judge, cX10_judge, 6, (some .int), [(0, .aload_n 0, 1), (1, .iload_n 1, 1), (2, .invokevirtual 221, 3), (5, .ifCond .eq 12, 3), (8, .iload_n 2, 1), (9, .ifCond .lt 8, 3), (12, .iload_n 2, 1), (13, .iconst 3, 1), (14, .if_icmp .le 6, 3), (17, .bipush (-2), 2), (19, .ireturn, 1), (20, .aload_n 0, 1), (21, .getfield 46, 3), (24, .iload_n 1, 1), (25, .aaload, 1), (26, .astore_n 3, 1), (27, .aload_n 3, 1), (28, .invokevirtual 224, 3), (31, .ifCond .eq 6, 3), (34, .bipush (-6), 2), (36, .ireturn, 1), (37, .aload_n 0, 1), (38, .getfield 34, 3), (41, .aload_n 0, 1), (42, .getfield 30, 3), (45, .invokevirtual 228, 3), (48, .aload_n 0, 1), (49, .getfield 34, 3), (52, .aload_n 0, 1), (53, .getfield 23, 3), (56, .aload_n 3, 1), (57, .invokevirtual 230, 3), (60, .istore 4, 2), (62, .iload 4, 2), (64, .aload_n 3, 1), (65, .getfield 234, 3), (68, .if_icmp .lt 7, 3), (71, .iconst 1, 1), (72, .goto 4, 3), (75, .iconst 0, 1), (76, .istore 5, 2), (78, .iload_n 2, 1), (79, .tableswitch 76 0 2 #[25, 37, 64], 25), (104, .iload 5, 2), (106, .ifCond .eq 7, 3), (109, .iconst (-1), 1), (110, .goto 5, 3), (113, .iload 4, 2), (115, .ireturn, 1), (116, .iload 5, 2), (118, .ifCond .eq 7, 3), (121, .iconst 0, 1), (122, .goto 20, 3), (125, .aload_n 0, 1), (126, .getfield 34, 3), (129, .aload_n 0, 1), (130, .getfield 23, 3), (133, .aload_n 3, 1), (134, .iload 4, 2), (136, .invokevirtual 235, 3), (139, .invokevirtual 239, 3), (142, .ireturn, 1), (143, .aload_n 0, 1), (144, .getfield 34, 3), (147, .aload_n 0, 1), (148, .getfield 23, 3), (151, .invokevirtual 243, 3), (154, .ireturn, 1), (155, .aload_n 0, 1), (156, .getfield 34, 3), (159, .getfield 247, 3), (162, .ireturn, 1)])
theorem qmX10_judge_ok : QMK qmX10_judge := qmk_of 1050 (by decide +kernel)
def qmX10_perform : QMeth := (10, yX10_perform, cX10_perform, 3, (some .int), [(0, .aload_n 0, 1), (1, .iload_n 1, 1), (2, .invokevirtual 221, 3), (5, .ifCond .ne 6, 3), (8, .bipush (-2), 2), (10, .ireturn, 1), (11, .aload_n 0, 1), (12, .getfield 46, 3), (15, .iload_n 1, 1), (16, .aaload, 1), (17, .invokevirtual 224, 3), (20, .ifCond .eq 6, 3), (23, .bipush (-6), 2), (25, .ireturn, 1), (26, .aload_n 0, 1), (27, .getfield 34, 3), (30, .aload_n 0, 1), (31, .getfield 30, 3), (34, .invokevirtual 228, 3), (37, .aload_n 0, 1), (38, .getfield 34, 3), (41, .aload_n 0, 1), (42, .getfield 23, 3), (45, .aload_n 0, 1), (46, .getfield 46, 3), (49, .iload_n 1, 1), (50, .aaload, 1), (51, .invokevirtual 230, 3), (54, .istore_n 2, 1), (55, .aload_n 0, 1), (56, .iload_n 2, 1), (57, .invokevirtual 250, 3), (60, .iload_n 2, 1), (61, .ireturn, 1)])
theorem qmX10_perform_ok : QMK qmX10_perform := qmk_of 1088 (by decide +kernel)
def qmX10_season : QMeth := (10, yX10_season, cX10_season, 4, (some .int), [(0, .iload_n 2, 1), (1, .iconst 1, 1), (2, .if_icmp .lt 9, 3), (5, .iload_n 2, 1), (6, .bipush 40, 2), (8, .if_icmp .le 6, 3), (11, .bipush (-3), 2), (13, .ireturn, 1), (14, .aload_n 0, 1), (15, .getfield 23, 3), (18, .getfield 253, 3), (21, .iconst 1, 1), (22, .if_icmp .ge 6, 3), (25, .bipush (-5), 2), (27, .ireturn, 1), (28, .aload_n 0, 1), (29, .getfield 34, 3), (32, .aload_n 0, 1), (33, .getfield 30, 3), (36, .invokevirtual 228, 3), (39, .aload_n 0, 1), (40, .getfield 34, 3), (43, .aload_n 0, 1), (44, .getfield 23, 3), (47, .iload_n 1, 1), (48, .iload_n 2, 1), (49, .invokevirtual 256, 3), (52, .istore_n 3, 1), (53, .aload_n 0, 1), (54, .iload_n 3, 1), (55, .invokevirtual 250, 3), (58, .iload_n 3, 1), (59, .ireturn, 1)])
theorem qmX10_season_ok : QMK qmX10_season := qmk_of 1096 (by decide +kernel)
def qmX10_takeOverTrial : QMeth := (10, yX10_takeOverTrial, cX10_takeOverTrial, 2, none, [(0, .iload_n 1, 1), (1, .ifCond .le 25, 3), (4, .aload_n 0, 1), (5, .getfield 40, 3), (8, .aload_n 0, 1), (9, .getfield 30, 3), (12, .invokevirtual 181, 3), (15, .aload_n 0, 1), (16, .getfield 30, 3), (19, .aload_n 0, 1), (20, .getfield 34, 3), (23, .invokevirtual 228, 3), (26, .return_, 1)])
theorem qmX10_takeOverTrial_ok : QMK qmX10_takeOverTrial := qmk_of 1092 (by decide +kernel)
def qmX10_reach : QMeth := (10, yX10_reach, cX10_reach, 5, (some .long), [(0, .aload_n 0, 1), (1, .getfield 23, 3), (4, .iload_n 1, 1), (5, .invokevirtual 127, 3), (8, .ifCond .ne 7, 3), (11, .ldc2_w 259, 3), (14, .lreturn, 1), (15, .aload_n 0, 1), (16, .getfield 59, 3), (19, .aload_n 0, 1), (20, .getfield 23, 3), (23, .aload_n 0, 1), (24, .getfield 30, 3), (27, .iload_n 1, 1), (28, .invokevirtual 261, 3), (31, .lconst 0, 1), (32, .lstore_n 2, 1), (33, .iconst 0, 1), (34, .istore 4, 2), (36, .iload 4, 2), (38, .aload_n 0, 1), (39, .getfield 23, 3), (42, .invokevirtual 265, 3), (45, .if_icmp .ge 50, 3), (48, .aload_n 0, 1), (49, .getfield 59, 3), (52, .iload 4, 2), (54, .invokevirtual 268, 3), (57, .ifCond .eq 32, 3), (60, .aload_n 0, 1), (61, .getfield 59, 3), (64, .getfield 271, 3), (67, .iload 4, 2), (69, .iaload, 1), (70, .aload_n 0, 1), (71, .getfield 30, 3), (74, .getfield 133, 3), (77, .iload_n 1, 1), (78, .iaload, 1), (79, .if_icmp .gt 10, 3), (82, .lload_n 2, 1), (83, .lconst 1, 1), (84, .iload 4, 2), (86, .lshl, 1), (87, .lor, 1), (88, .lstore_n 2, 1), (89, .iinc 4 1, 3), (92, .goto (-56), 3), (95, .lload_n 2, 1), (96, .lreturn, 1)])
theorem qmX10_reach_ok : QMK qmX10_reach := qmk_of 1109 (by decide +kernel)
def qmX10_fewest : QMeth := (10, yX10_fewest, cX10_fewest, 3, (some .int), [(0, .aload_n 0, 1), (1, .getfield 23, 3), (4, .iload_n 1, 1), (5, .invokevirtual 127, 3), (8, .ifCond .eq 14, 3), (11, .aload_n 0, 1), (12, .getfield 23, 3), (15, .iload_n 2, 1), (16, .invokevirtual 106, 3), (19, .ifCond .ne 6, 3), (22, .bipush (-2), 2), (24, .ireturn, 1), (25, .aload_n 0, 1), (26, .getfield 59, 3), (29, .aload_n 0, 1), (30, .getfield 23, 3), (33, .aload_n 0, 1), (34, .getfield 30, 3), (37, .iload_n 1, 1), (38, .invokevirtual 261, 3), (41, .aload_n 0, 1), (42, .getfield 59, 3), (45, .getfield 271, 3), (48, .iload_n 2, 1), (49, .iaload, 1), (50, .ireturn, 1)])
theorem qmX10_fewest_ok : QMK qmX10_fewest := qmk_of 1162 (by decide +kernel)
def qmX10_way : QMeth := (10, yX10_way, cX10_way, 4, (some .int), [(0, .aload_n 0, 1), (1, .getfield 23, 3), (4, .iload_n 1, 1), (5, .invokevirtual 127, 3), (8, .ifCond .eq 14, 3), (11, .aload_n 0, 1), (12, .getfield 23, 3), (15, .iload_n 2, 1), (16, .invokevirtual 106, 3), (19, .ifCond .ne 6, 3), (22, .bipush (-2), 2), (24, .ireturn, 1), (25, .iload_n 3, 1), (26, .ifCond .ge 6, 3), (29, .bipush (-3), 2), (31, .ireturn, 1), (32, .aload_n 0, 1), (33, .getfield 59, 3), (36, .aload_n 0, 1), (37, .getfield 23, 3), (40, .aload_n 0, 1), (41, .getfield 30, 3), (44, .iload_n 1, 1), (45, .invokevirtual 261, 3), (48, .aload_n 0, 1), (49, .getfield 59, 3), (52, .iload_n 2, 1), (53, .iload_n 3, 1), (54, .invokevirtual 274, 3), (57, .ireturn, 1)])
theorem qmX10_way_ok : QMK qmX10_way := qmk_of 1166 (by decide +kernel)
def qmX10_ways : QMeth := (10, yX10_ways, cX10_ways, 4, (some .int), [(0, .aload_n 0, 1), (1, .getfield 23, 3), (4, .iload_n 1, 1), (5, .invokevirtual 127, 3), (8, .ifCond .eq 14, 3), (11, .aload_n 0, 1), (12, .getfield 23, 3), (15, .iload_n 2, 1), (16, .invokevirtual 106, 3), (19, .ifCond .ne 6, 3), (22, .bipush (-2), 2), (24, .ireturn, 1), (25, .iload_n 3, 1), (26, .ifCond .lt 9, 3), (29, .iload_n 3, 1), (30, .bipush 8, 2), (32, .if_icmp .le 6, 3), (35, .bipush (-3), 2), (37, .ireturn, 1), (38, .aload_n 0, 1), (39, .getfield 59, 3), (42, .aload_n 0, 1), (43, .getfield 23, 3), (46, .aload_n 0, 1), (47, .getfield 30, 3), (50, .iload_n 1, 1), (51, .invokevirtual 277, 3), (54, .aload_n 0, 1), (55, .getfield 59, 3), (58, .iload_n 2, 1), (59, .iload_n 3, 1), (60, .invokevirtual 279, 3), (63, .ireturn, 1)])
theorem qmX10_ways_ok : QMK qmX10_ways := qmk_of 1175 (by decide +kernel)
def qmX10_crossings : QMeth := (10, yX10_crossings, cX10_crossings, 3, (some .int), [(0, .aload_n 0, 1), (1, .getfield 23, 3), (4, .iload_n 1, 1), (5, .invokevirtual 127, 3), (8, .ifCond .eq 14, 3), (11, .aload_n 0, 1), (12, .getfield 23, 3), (15, .iload_n 2, 1), (16, .invokevirtual 106, 3), (19, .ifCond .ne 6, 3), (22, .bipush (-2), 2), (24, .ireturn, 1), (25, .aload_n 0, 1), (26, .getfield 59, 3), (29, .aload_n 0, 1), (30, .getfield 23, 3), (33, .aload_n 0, 1), (34, .getfield 30, 3), (37, .iload_n 1, 1), (38, .invokevirtual 282, 3), (41, .aload_n 0, 1), (42, .getfield 59, 3), (45, .getfield 271, 3), (48, .iload_n 2, 1), (49, .iaload, 1), (50, .ireturn, 1)])
theorem qmX10_crossings_ok : QMK qmX10_crossings := qmk_of 1196 (by decide +kernel)
def qmX10_needed : QMeth := (10, yX10_needed, cX10_needed, 8, (some .long), [(0, .aload_n 0, 1), (1, .getfield 23, 3), (4, .iload_n 1, 1), (5, .invokevirtual 127, 3), (8, .ifCond .eq 14, 3), (11, .aload_n 0, 1), (12, .getfield 23, 3), (15, .iload_n 2, 1), (16, .invokevirtual 106, 3), (19, .ifCond .ne 7, 3), (22, .ldc2_w 259, 3), (25, .lreturn, 1), (26, .aload_n 0, 1), (27, .getfield 59, 3), (30, .aload_n 0, 1), (31, .getfield 23, 3), (34, .aload_n 0, 1), (35, .getfield 30, 3), (38, .iload_n 1, 1), (39, .invokevirtual 261, 3), (42, .lconst 0, 1), (43, .lstore_n 3, 1), (44, .aload_n 0, 1), (45, .getfield 59, 3), (48, .getfield 285, 3), (51, .iload_n 2, 1), (52, .laload, 1), (53, .lconst 1, 1), (54, .iload_n 2, 1), (55, .lshl, 1), (56, .ldc2_w 289, 3), (59, .lxor, 1), (60, .land, 1), (61, .lstore 5, 2), (63, .iconst 0, 1), (64, .istore 7, 2), (66, .iload 7, 2), (68, .aload_n 0, 1), (69, .getfield 23, 3), (72, .invokevirtual 265, 3), (75, .if_icmp .ge 41, 3), (78, .lload 5, 2), (80, .iload 7, 2), (82, .lushr, 1), (83, .lconst 1, 1), (84, .land, 1), (85, .lconst 1, 1), (86, .lcmp, 1), (87, .ifCond .ne 23, 3), (90, .aload_n 0, 1), (91, .getfield 59, 3), (94, .iload_n 2, 1), (95, .iload 7, 2), (97, .invokevirtual 291, 3), (100, .ifCond .ne 10, 3), (103, .lload_n 3, 1), (104, .lconst 1, 1), (105, .iload 7, 2), (107, .lshl, 1), (108, .lor, 1), (109, .lstore_n 3, 1), (110, .iinc 7 1, 3), (113, .goto (-47), 3), (116, .lload_n 3, 1), (117, .lreturn, 1)])
theorem qmX10_needed_ok : QMK qmX10_needed := qmk_of 1204 (by decide +kernel)
def qmX10_farthest : QMeth := (10, yX10_farthest, cX10_farthest, 6, (some .int), [(0, .aload_n 0, 1), (1, .getfield 23, 3), (4, .iload_n 1, 1), (5, .invokevirtual 127, 3), (8, .ifCond .ne 6, 3), (11, .bipush (-2), 2), (13, .ireturn, 1), (14, .aload_n 0, 1), (15, .getfield 59, 3), (18, .aload_n 0, 1), (19, .getfield 23, 3), (22, .aload_n 0, 1), (23, .getfield 30, 3), (26, .iload_n 1, 1), (27, .invokevirtual 261, 3), (30, .iconst (-1), 1), (31, .istore_n 2, 1), (32, .iconst (-1), 1), (33, .istore_n 3, 1), (34, .iconst 0, 1), (35, .istore 4, 2), (37, .iload 4, 2), (39, .aload_n 0, 1), (40, .getfield 23, 3), (43, .invokevirtual 265, 3), (46, .if_icmp .ge 47, 3), (49, .aload_n 0, 1), (50, .getfield 59, 3), (53, .getfield 271, 3), (56, .iload 4, 2), (58, .iaload, 1), (59, .istore 5, 2), (61, .iload 5, 2), (63, .aload_n 0, 1), (64, .getfield 30, 3), (67, .getfield 133, 3), (70, .iload_n 1, 1), (71, .iaload, 1), (72, .if_icmp .gt 15, 3), (75, .iload 5, 2), (77, .iload_n 3, 1), (78, .if_icmp .le 9, 3), (81, .iload 4, 2), (83, .istore_n 2, 1), (84, .iload 5, 2), (86, .istore_n 3, 1), (87, .iinc 4 1, 3), (90, .goto (-53), 3), (93, .iload_n 2, 1), (94, .ireturn, 1)])
theorem qmX10_farthest_ok : QMK qmX10_farthest := qmk_of 1217 (by decide +kernel)
def qmX10_above : QMeth := (10, yX10_above, cX10_above, 2, (some .int), [(0, .aload_n 0, 1), (1, .getfield 23, 3), (4, .iload_n 1, 1), (5, .invokevirtual 127, 3), (8, .ifCond .ne 6, 3), (11, .bipush (-2), 2), (13, .ireturn, 1), (14, .aload_n 0, 1), (15, .getfield 66, 3), (18, .aload_n 0, 1), (19, .getfield 23, 3), (22, .aload_n 0, 1), (23, .getfield 30, 3), (26, .invokevirtual 295, 3), (29, .aload_n 0, 1), (30, .getfield 66, 3), (33, .getfield 299, 3), (36, .iload_n 1, 1), (37, .iaload, 1), (38, .ireturn, 1)])
theorem qmX10_above_ok : QMK qmX10_above := qmk_of 1221 (by decide +kernel)
def qmX10_ahead : QMeth := (10, yX10_ahead, cX10_ahead, 2, (some .int), [(0, .aload_n 0, 1), (1, .getfield 23, 3), (4, .iload_n 1, 1), (5, .invokevirtual 127, 3), (8, .ifCond .ne 6, 3), (11, .bipush (-2), 2), (13, .ireturn, 1), (14, .aload_n 0, 1), (15, .getfield 66, 3), (18, .aload_n 0, 1), (19, .getfield 23, 3), (22, .aload_n 0, 1), (23, .getfield 30, 3), (26, .invokevirtual 295, 3), (29, .aload_n 0, 1), (30, .getfield 66, 3), (33, .iload_n 1, 1), (34, .invokevirtual 302, 3), (37, .ireturn, 1)])
theorem qmX10_ahead_ok : QMK qmX10_ahead := qmk_of 1232 (by decide +kernel)
def qmX10_order : QMeth := (10, yX10_order, cX10_order, 5, (some .int), [(0, .iload_n 1, 1), (1, .ifCond .ge 6, 3), (4, .bipush (-3), 2), (6, .ireturn, 1), (7, .aload_n 0, 1), (8, .getfield 66, 3), (11, .aload_n 0, 1), (12, .getfield 23, 3), (15, .aload_n 0, 1), (16, .getfield 30, 3), (19, .invokevirtual 295, 3), (22, .aload_n 0, 1), (23, .getfield 66, 3), (26, .getfield 305, 3), (29, .istore_n 2, 1), (30, .aload_n 0, 1), (31, .getfield 66, 3), (34, .iload_n 2, 1), (35, .invokevirtual 307, 3), (38, .istore_n 3, 1), (39, .iconst 0, 1), (40, .istore 4, 2), (42, .iload 4, 2), (44, .iload_n 1, 1), (45, .if_icmp .ge 38, 3), (48, .iload 4, 2), (50, .bipush 6, 2), (52, .if_icmp .ge 31, 3), (55, .iload_n 3, 1), (56, .iconst (-1), 1), (57, .if_icmp .eq 26, 3), (60, .iload_n 2, 1), (61, .iconst 1, 1), (62, .iload_n 3, 1), (63, .ishl, 1), (64, .iconst (-1), 1), (65, .ixor, 1), (66, .iand, 1), (67, .istore_n 2, 1), (68, .aload_n 0, 1), (69, .getfield 66, 3), (72, .iload_n 2, 1), (73, .invokevirtual 307, 3), (76, .istore_n 3, 1), (77, .iinc 4 1, 3), (80, .goto (-38), 3), (83, .iload_n 3, 1), (84, .ireturn, 1)])
theorem qmX10_order_ok : QMK qmX10_order := qmk_of 1240 (by decide +kernel)
def qmX10_stuck : QMeth := (10, yX10_stuck, cX10_stuck, 4, (some .int), [(0, .aload_n 0, 1), (1, .getfield 66, 3), (4, .aload_n 0, 1), (5, .getfield 23, 3), (8, .aload_n 0, 1), (9, .getfield 30, 3), (12, .invokevirtual 295, 3), (15, .aload_n 0, 1), (16, .getfield 66, 3), (19, .getfield 305, 3), (22, .istore_n 1, 1), (23, .aload_n 0, 1), (24, .getfield 66, 3), (27, .iload_n 1, 1), (28, .invokevirtual 307, 3), (31, .istore_n 2, 1), (32, .iconst 0, 1), (33, .istore_n 3, 1), (34, .iload_n 3, 1), (35, .bipush 6, 2), (37, .if_icmp .ge 31, 3), (40, .iload_n 2, 1), (41, .iconst (-1), 1), (42, .if_icmp .eq 26, 3), (45, .iload_n 1, 1), (46, .iconst 1, 1), (47, .iload_n 2, 1), (48, .ishl, 1), (49, .iconst (-1), 1), (50, .ixor, 1), (51, .iand, 1), (52, .istore_n 1, 1), (53, .aload_n 0, 1), (54, .getfield 66, 3), (57, .iload_n 1, 1), (58, .invokevirtual 307, 3), (61, .istore_n 2, 1), (62, .iinc 3 1, 3), (65, .goto (-31), 3), (68, .iload_n 1, 1), (69, .ireturn, 1)])
theorem qmX10_stuck_ok : QMK qmX10_stuck := qmk_of 1248 (by decide +kernel)
def qmX10_twists : QMeth := (10, yX10_twists, cX10_twists, 1, (some .int), [(0, .aload_n 0, 1), (1, .getfield 66, 3), (4, .aload_n 0, 1), (5, .getfield 23, 3), (8, .aload_n 0, 1), (9, .getfield 30, 3), (12, .invokevirtual 295, 3), (15, .aload_n 0, 1), (16, .getfield 66, 3), (19, .invokevirtual 310, 3), (22, .ireturn, 1)])
theorem qmX10_twists_ok : QMK qmX10_twists := qmk_of 1252 (by decide +kernel)
def qmX10_orders : QMeth := (10, yX10_orders, cX10_orders, 1, (some .int), [(0, .aload_n 0, 1), (1, .getfield 66, 3), (4, .aload_n 0, 1), (5, .getfield 23, 3), (8, .aload_n 0, 1), (9, .getfield 30, 3), (12, .invokevirtual 295, 3), (15, .aload_n 0, 1), (16, .getfield 66, 3), (19, .invokevirtual 313, 3), (22, .ireturn, 1)])
theorem qmX10_orders_ok : QMK qmX10_orders := qmk_of 1265 (by decide +kernel)
def qmX10_arrives : QMeth := (10, yX10_arrives, cX10_arrives, 2, (some .int), [(0, .aload_n 0, 1), (1, .getfield 30, 3), (4, .iload_n 1, 1), (5, .invokevirtual 150, 3), (8, .ifCond .ne 6, 3), (11, .bipush (-2), 2), (13, .ireturn, 1), (14, .aload_n 0, 1), (15, .getfield 34, 3), (18, .aload_n 0, 1), (19, .getfield 30, 3), (22, .invokevirtual 228, 3), (25, .aload_n 0, 1), (26, .iload_n 1, 1), (27, .invokevirtual 316, 3), (30, .ireturn, 1)])
theorem qmX10_arrives_ok : QMK qmX10_arrives := qmk_of 1273 (by decide +kernel)
def qmX10_hoursTillIn : QMeth := (10, yX10_hoursTillIn, cX10_hoursTillIn, 3, (some .int), [(0, .iconst 0, 1), (1, .istore_n 2, 1), (2, .iload_n 2, 1), (3, .bipush 99, 2), (5, .if_icmp .gt 30, 3), (8, .aload_n 0, 1), (9, .getfield 34, 3), (12, .iload_n 1, 1), (13, .invokevirtual 164, 3), (16, .ifCond .eq 5, 3), (19, .iload_n 2, 1), (20, .ireturn, 1), (21, .aload_n 0, 1), (22, .getfield 34, 3), (25, .invokevirtual 210, 3), (28, .pop, 1), (29, .iinc 2 1, 3), (32, .goto (-30), 3), (35, .iconst (-1), 1), (36, .ireturn, 1)])
theorem qmX10_hoursTillIn_ok : QMK qmX10_hoursTillIn := qmk_of 1277 (by decide +kernel)
def qmX10_waits : QMeth := (10, yX10_waits, cX10_waits, 3, (some .int), [(0, .aload_n 0, 1), (1, .getfield 30, 3), (4, .iload_n 1, 1), (5, .invokevirtual 150, 3), (8, .ifCond .ne 6, 3), (11, .bipush (-2), 2), (13, .ireturn, 1), (14, .aload_n 0, 1), (15, .getfield 34, 3), (18, .aload_n 0, 1), (19, .getfield 30, 3), (22, .invokevirtual 228, 3), (25, .iconst 0, 1), (26, .istore_n 2, 1), (27, .iload_n 2, 1), (28, .bipush 99, 2), (30, .if_icmp .ge 28, 3), (33, .aload_n 0, 1), (34, .getfield 34, 3), (37, .iload_n 1, 1), (38, .invokevirtual 164, 3), (41, .ifCond .ne 17, 3), (44, .aload_n 0, 1), (45, .getfield 34, 3), (48, .invokevirtual 210, 3), (51, .pop, 1), (52, .iinc 2 1, 3), (55, .goto (-28), 3), (58, .aload_n 0, 1), (59, .getfield 34, 3), (62, .getfield 167, 3), (65, .iload_n 1, 1), (66, .iaload, 1), (67, .aload_n 0, 1), (68, .getfield 30, 3), (71, .getfield 167, 3), (74, .iload_n 1, 1), (75, .iaload, 1), (76, .isub, 1), (77, .ireturn, 1)])
theorem qmX10_waits_ok : QMK qmX10_waits := qmk_of 1281 (by decide +kernel)
def qmX10_allIn : QMeth := (10, yX10_allIn, cX10_allIn, 2, (some .int), [(0, .aload_n 0, 1), (1, .getfield 34, 3), (4, .aload_n 0, 1), (5, .getfield 30, 3), (8, .invokevirtual 228, 3), (11, .iconst 0, 1), (12, .istore_n 1, 1), (13, .iload_n 1, 1), (14, .bipush 99, 2), (16, .if_icmp .gt 29, 3), (19, .aload_n 0, 1), (20, .getfield 34, 3), (23, .invokevirtual 319, 3), (26, .ifCond .ne 5, 3), (29, .iload_n 1, 1), (30, .ireturn, 1), (31, .aload_n 0, 1), (32, .getfield 34, 3), (35, .invokevirtual 210, 3), (38, .pop, 1), (39, .iinc 1 1, 3), (42, .goto (-29), 3), (45, .iconst (-1), 1), (46, .ireturn, 1)])
theorem qmX10_allIn_ok : QMK qmX10_allIn := qmk_of 1285 (by decide +kernel)
def qmX10_free : QMeth := (10, yX10_free, cX10_free, 3, (some .int), [(0, .aload_n 0, 1), (1, .getfield 23, 3), (4, .iload_n 1, 1), (5, .invokevirtual 127, 3), (8, .ifCond .ne 6, 3), (11, .bipush (-2), 2), (13, .ireturn, 1), (14, .aload_n 0, 1), (15, .getfield 30, 3), (18, .getfield 136, 3), (21, .iload_n 1, 1), (22, .iaload, 1), (23, .iconst 1, 1), (24, .if_icmp .ge 6, 3), (27, .bipush (-5), 2), (29, .ireturn, 1), (30, .aload_n 0, 1), (31, .getfield 34, 3), (34, .aload_n 0, 1), (35, .getfield 30, 3), (38, .invokevirtual 228, 3), (41, .iconst 0, 1), (42, .istore_n 2, 1), (43, .iload_n 2, 1), (44, .bipush 99, 2), (46, .if_icmp .gt 34, 3), (49, .aload_n 0, 1), (50, .getfield 34, 3), (53, .aload_n 0, 1), (54, .getfield 23, 3), (57, .iload_n 1, 1), (58, .invokevirtual 195, 3), (61, .ifCond .ne 5, 3), (64, .iload_n 2, 1), (65, .ireturn, 1), (66, .aload_n 0, 1), (67, .getfield 34, 3), (70, .invokevirtual 210, 3), (73, .pop, 1), (74, .iinc 2 1, 3), (77, .goto (-34), 3), (80, .iconst (-1), 1), (81, .ireturn, 1)])
theorem qmX10_free_ok : QMK qmX10_free := qmk_of 1293 (by decide +kernel)
def qmX10_busiest : QMeth := (10, yX10_busiest, cX10_busiest, 5, (some .int), [(0, .aload_n 0, 1), (1, .getfield 34, 3), (4, .aload_n 0, 1), (5, .getfield 30, 3), (8, .invokevirtual 228, 3), (11, .iconst 0, 1), (12, .istore_n 1, 1), (13, .iconst (-1), 1), (14, .istore_n 2, 1), (15, .iconst 0, 1), (16, .istore_n 3, 1), (17, .iload_n 3, 1), (18, .bipush 99, 2), (20, .if_icmp .gt 47, 3), (23, .aload_n 0, 1), (24, .getfield 34, 3), (27, .invokevirtual 319, 3), (30, .ifCond .le 37, 3), (33, .aload_n 0, 1), (34, .getfield 34, 3), (37, .invokevirtual 322, 3), (40, .istore 4, 2), (42, .iload 4, 2), (44, .iload_n 2, 1), (45, .if_icmp .le 8, 3), (48, .iload 4, 2), (50, .istore_n 2, 1), (51, .iload_n 3, 1), (52, .istore_n 1, 1), (53, .aload_n 0, 1), (54, .getfield 34, 3), (57, .invokevirtual 210, 3), (60, .pop, 1), (61, .iinc 3 1, 3), (64, .goto (-47), 3), (67, .iload_n 1, 1), (68, .ireturn, 1)])
theorem qmX10_busiest_ok : QMK qmX10_busiest := qmk_of 1297 (by decide +kernel)
def qmX10_wouldArrive : QMeth := (10, yX10_wouldArrive, cX10_wouldArrive, 2, (some .int), [(0, .aload_n 0, 1), (1, .getfield 23, 3), (4, .iload_n 1, 1), (5, .invokevirtual 127, 3), (8, .ifCond .ne 6, 3), (11, .bipush (-2), 2), (13, .ireturn, 1), (14, .aload_n 0, 1), (15, .getfield 34, 3), (18, .aload_n 0, 1), (19, .getfield 30, 3), (22, .invokevirtual 228, 3), (25, .aload_n 0, 1), (26, .getfield 34, 3), (29, .aload_n 0, 1), (30, .getfield 23, 3), (33, .iload_n 1, 1), (34, .invokevirtual 204, 3), (37, .ifCond .eq 6, 3), (40, .bipush (-5), 2), (42, .ireturn, 1), (43, .aload_n 0, 1), (44, .aload_n 0, 1), (45, .getfield 34, 3), (48, .getfield 207, 3), (51, .iconst 1, 1), (52, .isub, 1), (53, .invokevirtual 316, 3), (56, .ireturn, 1)])
theorem qmX10_wouldArrive_ok : QMK qmX10_wouldArrive := qmk_of 1305 (by decide +kernel)
def qmX10_faded : QMeth := (10, yX10_faded, cX10_faded, 4, (some .long), [(0, .aload_n 0, 1), (1, .iload_n 1, 1), (2, .iload_n 2, 1), (3, .invokevirtual 325, 3), (6, .istore_n 3, 1), (7, .iload_n 3, 1), (8, .ifCond .eq 6, 3), (11, .iload_n 3, 1), (12, .i2l, 1), (13, .lreturn, 1), (14, .aload_n 0, 1), (15, .iload_n 1, 1), (16, .iload_n 2, 1), (17, .invokevirtual 328, 3), (20, .lreturn, 1)])
theorem qmX10_faded_ok : QMK qmX10_faded := qmk_of 1309 (by decide +kernel)
def qmX10_manyFaded : QMeth := (10, yX10_manyFaded, cX10_manyFaded, 4, (some .int), [(0, .aload_n 0, 1), (1, .iload_n 1, 1), (2, .iload_n 2, 1), (3, .invokevirtual 325, 3), (6, .istore_n 3, 1), (7, .iload_n 3, 1), (8, .ifCond .eq 5, 3), (11, .iload_n 3, 1), (12, .ireturn, 1), (13, .aload_n 0, 1), (14, .iload_n 1, 1), (15, .iload_n 2, 1), (16, .invokevirtual 328, 3), (19, .invokestatic 332, 3), (22, .ireturn, 1)])
theorem qmX10_manyFaded_ok : QMK qmX10_manyFaded := qmk_of 1325 (by decide +kernel)
def qmX10_look : QMeth := (10, yX10_look, cX10_look, 12, (some .int), [(0, .aload_n 0, 1), (1, .iload_n 1, 1), (2, .iload_n 2, 1), (3, .invokevirtual 325, 3), (6, .istore_n 3, 1), (7, .iload_n 3, 1), (8, .ifCond .eq 5, 3), (11, .iload_n 3, 1), (12, .ireturn, 1), (13, .aload_n 0, 1), (14, .iload_n 1, 1), (15, .iload_n 2, 1), (16, .invokevirtual 328, 3), (19, .lstore 4, 2), (21, .lload 4, 2), (23, .invokestatic 332, 3), (26, .istore 6, 2), (28, .iload 6, 2), (30, .ifCond .ne 5, 3), (33, .iconst (-1), 1), (34, .ireturn, 1), (35, .iconst (-1), 1), (36, .istore 7, 2), (38, .iconst (-1), 1), (39, .istore 8, 2), (41, .iconst 0, 1), (42, .istore 9, 2), (44, .iload 9, 2), (46, .aload_n 0, 1), (47, .getfield 23, 3), (50, .invokevirtual 265, 3), (53, .if_icmp .ge 55, 3), (56, .aload_n 0, 1), (57, .getfield 59, 3), (60, .lconst 1, 1), (61, .iload 9, 2), (63, .lshl, 1), (64, .invokevirtual 338, 3), (67, .lload 4, 2), (69, .land, 1), (70, .invokestatic 332, 3), (73, .istore 10, 2), (75, .iload 10, 2), (77, .iload 6, 2), (79, .iload 10, 2), (81, .isub, 1), (82, .invokestatic 342, 3), (85, .istore 11, 2), (87, .iload 11, 2), (89, .iload 8, 2), (91, .if_icmp .le 11, 3), (94, .iload 11, 2), (96, .istore 8, 2), (98, .iload 9, 2), (100, .istore 7, 2), (102, .iinc 9 1, 3), (105, .goto (-61), 3), (108, .iload 7, 2), (110, .ireturn, 1)])
theorem qmX10_look_ok : QMK qmX10_look := qmk_of 1335 (by decide +kernel)
def qmX10_whyNotFaded : QMeth := (10, yX10_whyNotFaded, cX10_whyNotFaded, 7, (some .int), [(0, .aload_n 0, 1), (1, .iload_n 1, 1), (2, .invokevirtual 221, 3), (5, .ifCond .eq 14, 3), (8, .aload_n 0, 1), (9, .getfield 23, 3), (12, .iload_n 2, 1), (13, .invokevirtual 127, 3), (16, .ifCond .ne 6, 3), (19, .bipush (-2), 2), (21, .ireturn, 1), (22, .aload_n 0, 1), (23, .getfield 46, 3), (26, .iload_n 1, 1), (27, .aaload, 1), (28, .astore_n 3, 1), (29, .aload_n 3, 1), (30, .invokevirtual 224, 3), (33, .ifCond .eq 6, 3), (36, .bipush (-6), 2), (38, .ireturn, 1), (39, .aload_n 3, 1), (40, .getfield 234, 3), (43, .iconst 1, 1), (44, .if_icmp .lt 12, 3), (47, .aload_n 3, 1), (48, .getfield 234, 3), (51, .bipush 6, 2), (53, .if_icmp .le 6, 3), (56, .bipush (-4), 2), (58, .ireturn, 1), (59, .iconst 0, 1), (60, .istore 4, 2), (62, .iload 4, 2), (64, .aload_n 3, 1), (65, .getfield 234, 3), (68, .if_icmp .ge 41, 3), (71, .aload_n 3, 1), (72, .iload 4, 2), (74, .invokevirtual 235, 3), (77, .lstore 5, 2), (79, .lload 5, 2), (81, .lconst 0, 1), (82, .lcmp, 1), (83, .ifCond .lt 17, 3), (86, .lload 5, 2), (88, .aload_n 0, 1), (89, .getfield 23, 3), (92, .invokevirtual 265, 3), (95, .i2l, 1), (96, .lcmp, 1), (97, .ifCond .lt 6, 3), (100, .bipush (-3), 2), (102, .ireturn, 1), (103, .iinc 4 1, 3), (106, .goto (-44), 3), (109, .iconst 0, 1), (110, .ireturn, 1)])
theorem qmX10_whyNotFaded_ok : QMK qmX10_whyNotFaded := qmk_of 1313 (by decide +kernel)
def qmX10_fadedCells : QMeth := (10, yX10_fadedCells, cX10_fadedCells, 7, (some .long), [(0, .aload_n 0, 1), (1, .getfield 46, 3), (4, .iload_n 1, 1), (5, .aaload, 1), (6, .astore_n 3, 1), (7, .lconst 0, 1), (8, .lstore 4, 2), (10, .iconst 0, 1), (11, .istore 6, 2), (13, .iload 6, 2), (15, .aload_n 3, 1), (16, .getfield 234, 3), (19, .if_icmp .ge 23, 3), (22, .lload 4, 2), (24, .lconst 1, 1), (25, .aload_n 3, 1), (26, .iload 6, 2), (28, .invokevirtual 235, 3), (31, .l2i, 1), (32, .lshl, 1), (33, .lor, 1), (34, .lstore 4, 2), (36, .iinc 6 1, 3), (39, .goto (-26), 3), (42, .aload_n 0, 1), (43, .getfield 59, 3), (46, .aload_n 0, 1), (47, .getfield 23, 3), (50, .aload_n 0, 1), (51, .getfield 30, 3), (54, .iload_n 2, 1), (55, .invokevirtual 261, 3), (58, .aload_n 0, 1), (59, .getfield 59, 3), (62, .lload 4, 2), (64, .invokevirtual 338, 3), (67, .lreturn, 1)])
theorem qmX10_fadedCells_ok : QMK qmX10_fadedCells := qmk_of 1317 (by decide +kernel)
def qmX10_isTray : QMeth := (10, yX10_isTray, cX10_isTray, 2, (some .boolean), [(0, .iload_n 1, 1), (1, .ifCond .lt 12, 3), (4, .iload_n 1, 1), (5, .iconst 4, 1), (6, .if_icmp .ge 7, 3), (9, .iconst 1, 1), (10, .goto 4, 3), (13, .iconst 0, 1), (14, .ireturn, 1)])
theorem qmX10_isTray_ok : QMK qmX10_isTray := qmk_of 1054 (by decide +kernel)
def qmX10_numbers : QMeth := (10, yX10_numbers, cX10_numbers, 4, (some .int), [(0, .aload_n 0, 1), (1, .iload_n 1, 1), (2, .invokevirtual 221, 3), (5, .ifCond .eq 12, 3), (8, .iload_n 2, 1), (9, .ifCond .lt 8, 3), (12, .iload_n 2, 1), (13, .iconst 4, 1), (14, .if_icmp .lt 6, 3), (17, .bipush (-2), 2), (19, .ireturn, 1), (20, .iload_n 3, 1), (21, .ifCond .lt 9, 3), (24, .iload_n 3, 1), (25, .bipush 40, 2), (27, .if_icmp .le 6, 3), (30, .bipush (-3), 2), (32, .ireturn, 1), (33, .aload_n 0, 1), (34, .getfield 46, 3), (37, .iload_n 1, 1), (38, .aaload, 1), (39, .iload_n 2, 1), (40, .iload_n 3, 1), (41, .invokevirtual 345, 3), (44, .iconst 0, 1), (45, .ireturn, 1)])
theorem qmX10_numbers_ok : QMK qmX10_numbers := qmk_of 1340 (by decide +kernel)
def qmX10_write : QMeth := (10, yX10_write, cX10_write, 5, (some .long), [(0, .aload_n 0, 1), (1, .iload_n 1, 1), (2, .invokevirtual 221, 3), (5, .ifCond .ne 7, 3), (8, .ldc2_w 259, 3), (11, .lreturn, 1), (12, .aload_n 0, 1), (13, .getfield 46, 3), (16, .iload_n 1, 1), (17, .aaload, 1), (18, .invokevirtual 224, 3), (21, .ifCond .eq 7, 3), (24, .ldc2_w 348, 3), (27, .lreturn, 1), (28, .iload_n 2, 1), (29, .ifCond .lt 16, 3), (32, .iload_n 2, 1), (33, .aload_n 0, 1), (34, .getfield 46, 3), (37, .iload_n 1, 1), (38, .aaload, 1), (39, .getfield 234, 3), (42, .if_icmp .lt 7, 3), (45, .ldc2_w 350, 3), (48, .lreturn, 1), (49, .aload_n 0, 1), (50, .getfield 46, 3), (53, .iload_n 1, 1), (54, .aaload, 1), (55, .iload_n 2, 1), (56, .lload_n 3, 1), (57, .invokevirtual 352, 3), (60, .lreturn, 1)])
theorem qmX10_write_ok : QMK qmX10_write := qmk_of 1349 (by decide +kernel)
def qmX10_lists : QMeth := (10, yX10_lists, cX10_lists, 7, (some .int), [(0, .aload_n 0, 1), (1, .iload_n 1, 1), (2, .invokevirtual 221, 3), (5, .ifCond .eq 25, 3), (8, .aload_n 0, 1), (9, .getfield 23, 3), (12, .iload_n 2, 1), (13, .invokevirtual 127, 3), (16, .ifCond .eq 14, 3), (19, .aload_n 0, 1), (20, .getfield 23, 3), (23, .iload_n 3, 1), (24, .invokevirtual 106, 3), (27, .ifCond .ne 6, 3), (30, .bipush (-2), 2), (32, .ireturn, 1), (33, .aload_n 0, 1), (34, .getfield 46, 3), (37, .iload_n 1, 1), (38, .aaload, 1), (39, .astore 4, 2), (41, .aload 4, 2), (43, .invokevirtual 224, 3), (46, .ifCond .eq 6, 3), (49, .bipush (-6), 2), (51, .ireturn, 1), (52, .aload_n 0, 1), (53, .getfield 59, 3), (56, .aload_n 0, 1), (57, .getfield 23, 3), (60, .aload_n 0, 1), (61, .getfield 30, 3), (64, .iload_n 2, 1), (65, .invokevirtual 261, 3), (68, .aload_n 0, 1), (69, .getfield 59, 3), (72, .iload_n 3, 1), (73, .invokevirtual 268, 3), (76, .ifCond .ne 6, 3), (79, .bipush (-5), 2), (81, .ireturn, 1), (82, .aload_n 0, 1), (83, .getfield 59, 3), (86, .getfield 356, 3), (89, .iload_n 3, 1), (90, .iaload, 1), (91, .aload 4, 2), (93, .getfield 234, 3), (96, .invokestatic 342, 3), (99, .istore 5, 2), (101, .iconst 0, 1), (102, .istore 6, 2), (104, .iload 6, 2), (106, .iload 5, 2), (108, .if_icmp .ge 32, 3), (111, .aload 4, 2), (113, .iload 6, 2), (115, .iload_n 2, 1), (116, .aload_n 0, 1), (117, .getfield 59, 3), (120, .iload_n 3, 1), (121, .iload 6, 2), (123, .invokevirtual 274, 3), (126, .invokestatic 359, 3), (129, .i2l, 1), (130, .invokevirtual 352, 3), (133, .pop2, 1), (134, .iinc 6 1, 3), (137, .goto (-33), 3), (140, .iload 5, 2), (142, .ireturn, 1)])
theorem qmX10_lists_ok : QMK qmX10_lists := qmk_of 1359 (by decide +kernel)
def qmX10_image : QMeth := (10, yX10_image, cX10_image, 2, (some .int), [(0, .iload_n 1, 1), (1, .ifCond .lt 8, 3), (4, .iload_n 1, 1), (5, .iconst 2, 1), (6, .if_icmp .lt 6, 3), (9, .bipush (-2), 2), (11, .ireturn, 1), (12, .aload_n 0, 1), (13, .getfield 52, 3), (16, .iload_n 1, 1), (17, .aaload, 1), (18, .getfield 362, 3), (21, .aload_n 0, 1), (22, .getfield 23, 3), (25, .invokevirtual 94, 3), (28, .aload_n 0, 1), (29, .getfield 52, 3), (32, .iload_n 1, 1), (33, .aaload, 1), (34, .getfield 363, 3), (37, .aload_n 0, 1), (38, .getfield 30, 3), (41, .invokevirtual 228, 3), (44, .aload_n 0, 1), (45, .getfield 52, 3), (48, .iload_n 1, 1), (49, .aaload, 1), (50, .iconst 1, 1), (51, .putfield 366, 3), (54, .iconst 0, 1), (55, .ireturn, 1)])
theorem qmX10_image_ok : QMK qmX10_image := qmk_of 1366 (by decide +kernel)
def qmX10_restore : QMeth := (10, yX10_restore, cX10_restore, 2, (some .int), [(0, .iload_n 1, 1), (1, .ifCond .lt 8, 3), (4, .iload_n 1, 1), (5, .iconst 2, 1), (6, .if_icmp .lt 6, 3), (9, .bipush (-2), 2), (11, .ireturn, 1), (12, .aload_n 0, 1), (13, .getfield 52, 3), (16, .iload_n 1, 1), (17, .aaload, 1), (18, .getfield 366, 3), (21, .ifCond .ne 6, 3), (24, .bipush (-5), 2), (26, .ireturn, 1), (27, .aload_n 0, 1), (28, .getfield 23, 3), (31, .aload_n 0, 1), (32, .getfield 52, 3), (35, .iload_n 1, 1), (36, .aaload, 1), (37, .getfield 362, 3), (40, .invokevirtual 94, 3), (43, .aload_n 0, 1), (44, .getfield 30, 3), (47, .aload_n 0, 1), (48, .getfield 52, 3), (51, .iload_n 1, 1), (52, .aaload, 1), (53, .getfield 363, 3), (56, .invokevirtual 228, 3), (59, .aload_n 0, 1), (60, .getfield 40, 3), (63, .invokevirtual 97, 3), (66, .iconst 0, 1), (67, .ireturn, 1)])
theorem qmX10_restore_ok : QMK qmX10_restore := qmk_of 1370 (by decide +kernel)
def qmX10_count : QMeth := (10, yX10_count, cX10_count, 2, (some .int), [(0, .iload_n 1, 1), (1, .tableswitch 176 0 12 #[67, 75, 83, 91, 99, 111, 123, 131, 139, 147, 155, 163, 168], 67), (68, .aload_n 0, 1), (69, .getfield 23, 3), (72, .getfield 370, 3), (75, .ireturn, 1), (76, .aload_n 0, 1), (77, .getfield 23, 3), (80, .getfield 373, 3), (83, .ireturn, 1), (84, .aload_n 0, 1), (85, .getfield 23, 3), (88, .getfield 253, 3), (91, .ireturn, 1), (92, .aload_n 0, 1), (93, .getfield 23, 3), (96, .getfield 376, 3), (99, .ireturn, 1), (100, .aload_n 0, 1), (101, .getfield 30, 3), (104, .aload_n 0, 1), (105, .getfield 23, 3), (108, .invokevirtual 379, 3), (111, .ireturn, 1), (112, .aload_n 0, 1), (113, .getfield 30, 3), (116, .aload_n 0, 1), (117, .getfield 23, 3), (120, .invokevirtual 382, 3), (123, .ireturn, 1), (124, .aload_n 0, 1), (125, .getfield 30, 3), (128, .getfield 207, 3), (131, .ireturn, 1), (132, .aload_n 0, 1), (133, .getfield 30, 3), (136, .invokevirtual 319, 3), (139, .ireturn, 1), (140, .aload_n 0, 1), (141, .getfield 30, 3), (144, .getfield 170, 3), (147, .ireturn, 1), (148, .aload_n 0, 1), (149, .getfield 30, 3), (152, .getfield 247, 3), (155, .ireturn, 1), (156, .aload_n 0, 1), (157, .getfield 40, 3), (160, .getfield 214, 3), (163, .ireturn, 1), (164, .aload_n 0, 1), (165, .getfield 76, 3), (168, .ireturn, 1), (169, .aload_n 0, 1), (170, .getfield 23, 3), (173, .getfield 100, 3), (176, .ireturn, 1), (177, .iconst (-1), 1), (178, .ireturn, 1)])
theorem qmX10_count_ok : QMK qmX10_count := qmk_of 1374 (by decide +kernel)
def qmX11_within : QMeth := (11, yX11_within, cX11_within, 6, (some .boolean), [(0, .lload_n 0, 1), (1, .lload_n 2, 1), (2, .lcmp, 1), (3, .ifCond .lt 14, 3), (6, .lload_n 0, 1), (7, .lload 4, 2), (9, .lcmp, 1), (10, .ifCond .gt 7, 3), (13, .iconst 1, 1), (14, .goto 4, 3), (17, .iconst 0, 1), (18, .ireturn, 1)])
theorem qmX11_within_ok : QMK qmX11_within := qmk_of 1498 (by decide +kernel)
def qmX11_init : QMeth := (11, yX11_init, cX11_init, 1, none, [(0, .aload_n 0, 1), (1, .invokespecial 7, 3), (4, .aload_n 0, 1), (5, .sipush 13125, 3), (8, .newarray .int, 2), (10, .putfield 13, 3), (13, .aload_n 0, 1), (14, .iconst 2, 1), (15, .newarray .boolean, 2), (17, .putfield 17, 3), (20, .aload_n 0, 1), (21, .sipush 900, 3), (24, .newarray .int, 2), (26, .putfield 21, 3), (29, .aload_n 0, 1), (30, .sipush 4375, 3), (33, .newarray .int, 2), (35, .putfield 24, 3), (38, .aload_n 0, 1), (39, .iconst (-1), 1), (40, .putfield 27, 3), (43, .aload_n 0, 1), (44, .sipush 900, 3), (47, .newarray .int, 2), (49, .putfield 30, 3), (52, .aload_n 0, 1), (53, .iconst 5, 1), (54, .newarray .int, 2), (56, .putfield 33, 3), (59, .aload_n 0, 1), (60, .sipush 311, 3), (63, .newarray .int, 2), (65, .putfield 36, 3), (68, .aload_n 0, 1), (69, .sipush 612, 3), (72, .newarray .int, 2), (74, .putfield 39, 3), (77, .aload_n 0, 1), (78, .bipush 36, 2), (80, .newarray .boolean, 2), (82, .putfield 42, 3), (85, .aload_n 0, 1), (86, .bipush 36, 2), (88, .newarray .int, 2), (90, .putfield 45, 3), (93, .aload_n 0, 1), (94, .iconst (-1), 1), (95, .putfield 48, 3), (98, .aload_n 0, 1), (99, .bipush 16, 2), (101, .newarray .int, 2), (103, .putfield 51, 3), (106, .aload_n 0, 1), (107, .bipush 36, 2), (109, .newarray .long, 2), (111, .putfield 54, 3), (114, .aload_n 0, 1), (115, .iconst 4, 1), (116, .newarray .int, 2), (118, .dup, 1), (119, .iconst 0, 1), (120, .iconst (-1), 1), (121, .iastore, 1), (122, .dup, 1), (123, .iconst 1, 1), (124, .iconst (-1), 1), (125, .iastore, 1), (126, .dup, 1), (127, .iconst 2, 1), (128, .iconst (-1), 1), (129, .iastore, 1), (130, .dup, 1), (131, .iconst 3, 1), (132, .iconst (-1), 1), (133, .iastore, 1), (134, .putfield 58, 3), (137, .aload_n 0, 1), (138, .iconst 4, 1), (139, .newarray .int, 2), (141, .putfield 61, 3), (144, .aload_n 0, 1), (145, .sipush 160, 3), (148, .newarray .long, 2), (150, .putfield 64, 3), (153, .aload_n 0, 1), (154, .getfield 13, 3), (157, .invokestatic 67, 3), (160, .return_, 1)])
theorem qmX11_init_ok : QMK qmX11_init := qmk_of 1388 (by decide +kernel)
end
section
def qmX11_plain : QMeth := (11, yX11_plain, cX11_plain, 2, none, [(0, .iconst 0, 1), (1, .istore_n 1, 1), (2, .iload_n 1, 1), (3, .sipush 4375, 3), (6, .if_icmp .ge 13, 3), (9, .aload_n 0, 1), (10, .iload_n 1, 1), (11, .iconst 0, 1), (12, .iastore, 1), (13, .iinc 1 1, 3), (16, .goto (-14), 3), (19, .aload_n 0, 1), (20, .iconst 1, 1), (21, .iconst 2, 1), (22, .iastore, 1), (23, .aload_n 0, 1), (24, .iconst 2, 1), (25, .iconst 2, 1), (26, .iastore, 1), (27, .iconst 0, 1), (28, .istore_n 1, 1), (29, .iload_n 1, 1), (30, .bipush 36, 2), (32, .if_icmp .ge 25, 3), (35, .aload_n 0, 1), (36, .sipush 258, 3), (39, .iload_n 1, 1), (40, .iadd, 1), (41, .iconst (-1), 1), (42, .iastore, 1), (43, .aload_n 0, 1), (44, .sipush 294, 3), (47, .iload_n 1, 1), (48, .iadd, 1), (49, .iconst (-1), 1), (50, .iastore, 1), (51, .iinc 1 1, 3), (54, .goto (-25), 3), (57, .return_, 1)])
theorem qmX11_plain_ok : QMK qmX11_plain := qmk_of 1392 (by decide +kernel)
def qmX11_feed : QMeth := (11, yX11_feed, cX11_feed, 8, (some .int), [(0, .aload_n 0, 1), (1, .iconst 0, 1), (2, .putfield 1, 3), (5, .aload_n 0, 1), (6, .getfield 71, 3), (9, .bipush 20, 2), (11, .iadd, 1), (12, .sipush 900, 3), (15, .if_icmp .le 6, 3), (18, .bipush (-5), 2), (20, .ireturn, 1), (21, .iconst 0, 1), (22, .istore 6, 2), (24, .iload 6, 2), (26, .bipush 20, 2), (28, .if_icmp .ge 93, 3), (31, .iload 6, 2), (33, .iconst 4, 1), (34, .if_icmp .ge 7, 3), (37, .iload_n 1, 1), (38, .goto 39, 3), (41, .iload 6, 2), (43, .bipush 8, 2), (45, .if_icmp .ge 7, 3), (48, .iload_n 2, 1), (49, .goto 28, 3), (52, .iload 6, 2), (54, .bipush 12, 2), (56, .if_icmp .ge 7, 3), (59, .iload_n 3, 1), (60, .goto 17, 3), (63, .iload 6, 2), (65, .bipush 16, 2), (67, .if_icmp .ge 8, 3), (70, .iload 4, 2), (72, .goto 5, 3), (75, .iload 5, 2), (77, .istore 7, 2), (79, .aload_n 0, 1), (80, .getfield 21, 3), (83, .aload_n 0, 1), (84, .getfield 71, 3), (87, .iload 7, 2), (89, .bipush 24, 2), (91, .bipush 8, 2), (93, .iload 6, 2), (95, .iconst 4, 1), (96, .irem, 1), (97, .imul, 1), (98, .isub, 1), (99, .ishr, 1), (100, .sipush 255, 3), (103, .iand, 1), (104, .iastore, 1), (105, .aload_n 0, 1), (106, .dup, 1), (107, .getfield 71, 3), (110, .iconst 1, 1), (111, .iadd, 1), (112, .putfield 71, 3), (115, .iinc 6 1, 3), (118, .goto (-94), 3), (121, .aload_n 0, 1), (122, .getfield 71, 3), (125, .ireturn, 1)])
theorem qmX11_feed_ok : QMK qmX11_feed := qmk_of 1491 (by decide +kernel)
def qmX11_see : QMeth := (11, yX11_see, cX11_see, 2, (some .int), [(0, .iload_n 1, 1), (1, .aload_n 0, 1), (2, .getfield 74, 3), (5, .if_icmp .ge 12, 3), (8, .aload_n 0, 1), (9, .getfield 21, 3), (12, .iload_n 1, 1), (13, .iaload, 1), (14, .goto 4, 3), (17, .iconst (-1), 1), (18, .ireturn, 1)])
theorem qmX11_see_ok : QMK qmX11_see := qmk_of 1506 (by decide +kernel)
def qmX11_isSmall : QMeth := (11, yX11_isSmall, cX11_isSmall, 1, (some .boolean), [(0, .iload_n 0, 1), (1, .bipush 97, 2), (3, .if_icmp .lt 13, 3), (6, .iload_n 0, 1), (7, .bipush 122, 2), (9, .if_icmp .gt 7, 3), (12, .iconst 1, 1), (13, .goto 4, 3), (16, .iconst 0, 1), (17, .ireturn, 1)])
theorem qmX11_isSmall_ok : QMK qmX11_isSmall := qmk_of 1509 (by decide +kernel)
def qmX11_isDigit : QMeth := (11, yX11_isDigit, cX11_isDigit, 1, (some .boolean), [(0, .iload_n 0, 1), (1, .bipush 48, 2), (3, .if_icmp .lt 13, 3), (6, .iload_n 0, 1), (7, .bipush 57, 2), (9, .if_icmp .gt 7, 3), (12, .iconst 1, 1), (13, .goto 4, 3), (16, .iconst 0, 1), (17, .ireturn, 1)])
theorem qmX11_isDigit_ok : QMK qmX11_isDigit := qmk_of 1519 (by decide +kernel)
def qmX11_keyAt : QMeth := (11, yX11_keyAt, cX11_keyAt, 4, (some .int), [(0, .iconst 0, 1), (1, .istore_n 1, 1), (2, .iconst 1, 1), (3, .istore_n 2, 1), (4, .iload_n 2, 1), (5, .ldc 77, 2), (7, .invokevirtual 79, 3), (10, .if_icmp .ge 113, 3), (13, .iconst 0, 1), (14, .istore_n 3, 1), (15, .ldc 77, 2), (17, .iload_n 2, 1), (18, .iload_n 3, 1), (19, .iadd, 1), (20, .invokevirtual 85, 3), (23, .bipush 32, 2), (25, .if_icmp .eq 44, 3), (28, .aload_n 0, 1), (29, .getfield 89, 3), (32, .iload_n 3, 1), (33, .iadd, 1), (34, .aload_n 0, 1), (35, .getfield 92, 3), (38, .if_icmp .ge 31, 3), (41, .aload_n 0, 1), (42, .getfield 21, 3), (45, .aload_n 0, 1), (46, .getfield 89, 3), (49, .iload_n 3, 1), (50, .iadd, 1), (51, .iaload, 1), (52, .ldc 77, 2), (54, .iload_n 2, 1), (55, .iload_n 3, 1), (56, .iadd, 1), (57, .invokevirtual 85, 3), (60, .if_icmp .ne 9, 3), (63, .iinc 3 1, 3), (66, .goto (-51), 3), (69, .ldc 77, 2), (71, .iload_n 2, 1), (72, .iload_n 3, 1), (73, .iadd, 1), (74, .invokevirtual 85, 3), (77, .bipush 32, 2), (79, .if_icmp .ne 18, 3), (82, .aload_n 0, 1), (83, .getfield 89, 3), (86, .iload_n 3, 1), (87, .iadd, 1), (88, .aload_n 0, 1), (89, .getfield 92, 3), (92, .if_icmp .ne 5, 3), (95, .iload_n 1, 1), (96, .ireturn, 1), (97, .ldc 77, 2), (99, .iload_n 2, 1), (100, .invokevirtual 85, 3), (103, .bipush 32, 2), (105, .if_icmp .eq 9, 3), (108, .iinc 2 1, 3), (111, .goto (-14), 3), (114, .iinc 2 1, 3), (117, .iinc 1 1, 3), (120, .goto (-116), 3), (123, .bipush 22, 2), (125, .ireturn, 1)])
theorem qmX11_keyAt_ok : QMK qmX11_keyAt := qmk_of 1513 (by decide +kernel)
def qmX11_next : QMeth := (11, yX11_next, cX11_next, 2, none, [(0, .aload_n 0, 1), (1, .aload_n 0, 1), (2, .getfield 92, 3), (5, .putfield 89, 3), (8, .aload_n 0, 1), (9, .aload_n 0, 1), (10, .getfield 89, 3), (13, .invokevirtual 95, 3), (16, .bipush 10, 2), (18, .if_icmp .eq 16, 3), (21, .aload_n 0, 1), (22, .aload_n 0, 1), (23, .getfield 89, 3), (26, .invokevirtual 95, 3), (29, .bipush 32, 2), (31, .if_icmp .ne 16, 3), (34, .aload_n 0, 1), (35, .dup, 1), (36, .getfield 89, 3), (39, .iconst 1, 1), (40, .iadd, 1), (41, .putfield 89, 3), (44, .goto (-36), 3), (47, .aload_n 0, 1), (48, .aload_n 0, 1), (49, .getfield 89, 3), (52, .putfield 92, 3), (55, .aload_n 0, 1), (56, .getfield 89, 3), (59, .aload_n 0, 1), (60, .getfield 74, 3), (63, .if_icmp .lt 12, 3), (66, .aload_n 0, 1), (67, .bipush 24, 2), (69, .putfield 99, 3), (72, .goto 222, 3), (75, .aload_n 0, 1), (76, .aload_n 0, 1), (77, .getfield 89, 3), (80, .invokevirtual 95, 3), (83, .invokestatic 102, 3), (86, .ifCond .eq 41, 3), (89, .aload_n 0, 1), (90, .aload_n 0, 1), (91, .getfield 92, 3), (94, .invokevirtual 95, 3), (97, .invokestatic 102, 3), (100, .ifCond .eq 16, 3), (103, .aload_n 0, 1), (104, .dup, 1), (105, .getfield 92, 3), (108, .iconst 1, 1), (109, .iadd, 1), (110, .putfield 92, 3), (113, .goto (-24), 3), (116, .aload_n 0, 1), (117, .aload_n 0, 1), (118, .invokevirtual 106, 3), (121, .putfield 99, 3), (124, .goto 170, 3), (127, .aload_n 0, 1), (128, .aload_n 0, 1), (129, .getfield 89, 3), (132, .invokevirtual 95, 3), (135, .invokestatic 109, 3), (138, .ifCond .eq 98, 3), (141, .aload_n 0, 1), (142, .iconst 0, 1), (143, .putfield 112, 3), (146, .aload_n 0, 1), (147, .aload_n 0, 1), (148, .getfield 92, 3), (151, .invokevirtual 95, 3), (154, .invokestatic 109, 3), (157, .ifCond .eq 52, 3), (160, .aload_n 0, 1), (161, .getfield 92, 3), (164, .aload_n 0, 1), (165, .getfield 89, 3), (168, .isub, 1), (169, .iconst 3, 1), (170, .if_icmp .ge 26, 3), (173, .aload_n 0, 1), (174, .bipush 10, 2), (176, .aload_n 0, 1), (177, .getfield 112, 3), (180, .imul, 1), (181, .aload_n 0, 1), (182, .aload_n 0, 1), (183, .getfield 92, 3), (186, .invokevirtual 95, 3), (189, .iadd, 1), (190, .bipush 48, 2), (192, .isub, 1), (193, .putfield 112, 3), (196, .aload_n 0, 1), (197, .dup, 1), (198, .getfield 92, 3), (201, .iconst 1, 1), (202, .iadd, 1), (203, .putfield 92, 3), (206, .goto (-60), 3), (209, .aload_n 0, 1), (210, .aload_n 0, 1), (211, .getfield 92, 3), (214, .aload_n 0, 1), (215, .getfield 89, 3), (218, .isub, 1), (219, .iconst 3, 1), (220, .if_icmp .le 8, 3), (223, .bipush 25, 2), (225, .goto 5, 3), (228, .bipush 23, 2), (230, .putfield 99, 3), (233, .goto 61, 3), (236, .aload_n 0, 1), (237, .dup, 1), (238, .getfield 92, 3), (241, .iconst 1, 1), (242, .iadd, 1), (243, .putfield 92, 3), (246, .aload_n 0, 1), (247, .bipush 25, 2), (249, .putfield 99, 3), (252, .iconst 0, 1), (253, .istore_n 1, 1), (254, .iload_n 1, 1), (255, .ldc 115, 2), (257, .invokevirtual 79, 3), (260, .if_icmp .ge 34, 3), (263, .aload_n 0, 1), (264, .aload_n 0, 1), (265, .getfield 89, 3), (268, .invokevirtual 95, 3), (271, .ldc 115, 2), (273, .iload_n 1, 1), (274, .invokevirtual 85, 3), (277, .if_icmp .ne 11, 3), (280, .aload_n 0, 1), (281, .bipush 30, 2), (283, .iload_n 1, 1), (284, .iadd, 1), (285, .putfield 99, 3), (288, .iinc 1 1, 3), (291, .goto (-37), 3), (294, .return_, 1)])
theorem qmX11_next_ok : QMK qmX11_next := qmk_of 1502 (by decide +kernel)
def qmX11_fails : QMeth := (11, yX11_fails, cX11_fails, 2, none, [(0, .aload_n 0, 1), (1, .getfield 117, 3), (4, .ifCond .eq 4, 3), (7, .return_, 1), (8, .aload_n 0, 1), (9, .aload_n 0, 1), (10, .getfield 99, 3), (13, .bipush 25, 2), (15, .if_icmp .ne 7, 3), (18, .iconst 1, 1), (19, .goto 4, 3), (22, .iload_n 1, 1), (23, .putfield 117, 3), (26, .aload_n 0, 1), (27, .aload_n 0, 1), (28, .getfield 89, 3), (31, .putfield 120, 3), (34, .return_, 1)])
theorem qmX11_fails_ok : QMK qmX11_fails := qmk_of 1532 (by decide +kernel)
def qmX11_is : QMeth := (11, yX11_is, cX11_is, 2, (some .boolean), [(0, .aload_n 0, 1), (1, .getfield 117, 3), (4, .ifCond .ne 15, 3), (7, .aload_n 0, 1), (8, .getfield 99, 3), (11, .iload_n 1, 1), (12, .if_icmp .ne 7, 3), (15, .iconst 1, 1), (16, .goto 4, 3), (19, .iconst 0, 1), (20, .ireturn, 1)])
theorem qmX11_is_ok : QMK qmX11_is := qmk_of 1528 (by decide +kernel)
def qmX11_eats : QMeth := (11, yX11_eats, cX11_eats, 2, (some .boolean), [(0, .aload_n 0, 1), (1, .iload_n 1, 1), (2, .invokevirtual 123, 3), (5, .ifCond .ne 5, 3), (8, .iconst 0, 1), (9, .ireturn, 1), (10, .aload_n 0, 1), (11, .invokevirtual 126, 3), (14, .iconst 1, 1), (15, .ireturn, 1)])
theorem qmX11_eats_ok : QMK qmX11_eats := qmk_of 1524 (by decide +kernel)
def qmX11_takesN : QMeth := (11, yX11_takesN, cX11_takesN, 4, (some .int), [(0, .aload_n 0, 1), (1, .bipush 23, 2), (3, .invokevirtual 123, 3), (6, .ifCond .ne 11, 3), (9, .aload_n 0, 1), (10, .iconst 2, 1), (11, .invokevirtual 129, 3), (14, .goto 23, 3), (17, .aload_n 0, 1), (18, .getfield 112, 3), (21, .i2l, 1), (22, .iload_n 1, 1), (23, .i2l, 1), (24, .iload_n 2, 1), (25, .i2l, 1), (26, .invokestatic 133, 3), (29, .ifCond .ne 8, 3), (32, .aload_n 0, 1), (33, .iconst 3, 1), (34, .invokevirtual 129, 3), (37, .aload_n 0, 1), (38, .getfield 112, 3), (41, .istore_n 3, 1), (42, .aload_n 0, 1), (43, .getfield 117, 3), (46, .ifCond .ne 7, 3), (49, .aload_n 0, 1), (50, .invokevirtual 126, 3), (53, .iload_n 3, 1), (54, .ireturn, 1)])
theorem qmX11_takesN_ok : QMK qmX11_takesN := qmk_of 1536 (by decide +kernel)
def qmX11_isIn : QMeth := (11, yX11_isIn, cX11_isIn, 3, (some .boolean), [(0, .lload_n 0, 1), (1, .iload_n 2, 1), (2, .lshr, 1), (3, .lconst 1, 1), (4, .land, 1), (5, .lconst 1, 1), (6, .lcmp, 1), (7, .ifCond .ne 7, 3), (10, .iconst 1, 1), (11, .goto 4, 3), (14, .iconst 0, 1), (15, .ireturn, 1)])
theorem qmX11_isIn_ok : QMK qmX11_isIn := qmk_of 1886 (by decide +kernel)
def qmX11_wordOf : QMeth := (11, yX11_wordOf, cX11_wordOf, 2, (some .int), [(0, .iload_n 1, 1), (1, .tableswitch 73 2 10 #[57, 73, 73, 73, 55, 73, 51, 53, 59], 51), (52, .iconst 0, 1), (53, .ireturn, 1), (54, .iconst 1, 1), (55, .ireturn, 1), (56, .iconst 2, 1), (57, .ireturn, 1), (58, .iconst 3, 1), (59, .ireturn, 1), (60, .aload_n 0, 1), (61, .getfield 137, 3), (64, .iconst 1, 1), (65, .if_icmp .ne 7, 3), (68, .iconst 4, 1), (69, .goto 4, 3), (72, .iconst (-1), 1), (73, .ireturn, 1), (74, .iconst (-1), 1), (75, .ireturn, 1)])
theorem qmX11_wordOf_ok : QMK qmX11_wordOf := qmk_of 1584 (by decide +kernel)
def qmX11_codes : QMeth := (11, yX11_codes, cX11_codes, 2, none, [(0, .aload_n 0, 1), (1, .getfield 117, 3), (4, .ifCond .eq 4, 3), (7, .return_, 1), (8, .aload_n 0, 1), (9, .getfield 24, 3), (12, .sipush 3475, 3), (15, .aload_n 0, 1), (16, .getfield 24, 3), (19, .sipush 3474, 3), (22, .iaload, 1), (23, .iadd, 1), (24, .iload_n 1, 1), (25, .iastore, 1), (26, .aload_n 0, 1), (27, .getfield 24, 3), (30, .sipush 3474, 3), (33, .dup2, 1), (34, .iaload, 1), (35, .iconst 1, 1), (36, .iadd, 1), (37, .iastore, 1), (38, .return_, 1)])
theorem qmX11_codes_ok : QMK qmX11_codes := qmk_of 1580 (by decide +kernel)
def qmX11_goesIn : QMeth := (11, yX11_goesIn, cX11_goesIn, 2, (some .boolean), [(0, .iload_n 1, 1), (1, .bipush 6, 2), (3, .if_icmp .ne 8, 3), (6, .aload_n 0, 1), (7, .iconst 4, 1), (8, .invokevirtual 129, 3), (11, .aload_n 0, 1), (12, .getfield 117, 3), (15, .ifCond .ne 7, 3), (18, .aload_n 0, 1), (19, .invokevirtual 126, 3), (22, .aload_n 0, 1), (23, .getfield 117, 3), (26, .ifCond .ne 7, 3), (29, .iconst 1, 1), (30, .goto 4, 3), (33, .iconst 0, 1), (34, .ireturn, 1)])
theorem qmX11_goesIn_ok : QMK qmX11_goesIn := qmk_of 1588 (by decide +kernel)
def qmX11_readAtom : QMeth := (11, yX11_readAtom, cX11_readAtom, 2, none, [(0, .aload_n 0, 1), (1, .bipush 23, 2), (3, .invokevirtual 123, 3), (6, .ifCond .eq 18, 3), (9, .aload_n 0, 1), (10, .aload_n 0, 1), (11, .getfield 112, 3), (14, .invokevirtual 140, 3), (17, .aload_n 0, 1), (18, .invokevirtual 126, 3), (21, .goto 92, 3), (24, .aload_n 0, 1), (25, .getfield 117, 3), (28, .ifCond .ne 38, 3), (31, .aload_n 0, 1), (32, .aload_n 0, 1), (33, .getfield 99, 3), (36, .invokevirtual 143, 3), (39, .iconst (-1), 1), (40, .if_icmp .eq 26, 3), (43, .aload_n 0, 1), (44, .sipush 1000, 3), (47, .aload_n 0, 1), (48, .aload_n 0, 1), (49, .getfield 99, 3), (52, .invokevirtual 143, 3), (55, .iadd, 1), (56, .invokevirtual 140, 3), (59, .aload_n 0, 1), (60, .invokevirtual 126, 3), (63, .goto 50, 3), (66, .aload_n 0, 1), (67, .bipush 35, 2), (69, .invokevirtual 123, 3), (72, .ifCond .eq 36, 3), (75, .aload_n 0, 1), (76, .iload_n 1, 1), (77, .invokevirtual 146, 3), (80, .ifCond .ne 4, 3), (83, .return_, 1), (84, .aload_n 0, 1), (85, .iload_n 1, 1), (86, .iconst 1, 1), (87, .iadd, 1), (88, .invokevirtual 149, 3), (91, .aload_n 0, 1), (92, .bipush 36, 2), (94, .invokevirtual 152, 3), (97, .ifCond .ne 16, 3), (100, .aload_n 0, 1), (101, .iconst 2, 1), (102, .invokevirtual 129, 3), (105, .goto 8, 3), (108, .aload_n 0, 1), (109, .iconst 2, 1), (110, .invokevirtual 129, 3), (113, .return_, 1)])
theorem qmX11_readAtom_ok : QMK qmX11_readAtom := qmk_of 1576 (by decide +kernel)
def qmX11_readTerm : QMeth := (11, yX11_readTerm, cX11_readTerm, 2, none, [(0, .aload_n 0, 1), (1, .iload_n 1, 1), (2, .invokevirtual 155, 3), (5, .aload_n 0, 1), (6, .bipush 34, 2), (8, .invokevirtual 152, 3), (11, .ifCond .eq 18, 3), (14, .aload_n 0, 1), (15, .iload_n 1, 1), (16, .invokevirtual 155, 3), (19, .aload_n 0, 1), (20, .sipush 3002, 3), (23, .invokevirtual 140, 3), (26, .goto (-21), 3), (29, .return_, 1)])
theorem qmX11_readTerm_ok : QMK qmX11_readTerm := qmk_of 1572 (by decide +kernel)
def qmX11_readSum : QMeth := (11, yX11_readSum, cX11_readSum, 3, none, [(0, .aload_n 0, 1), (1, .iload_n 1, 1), (2, .invokevirtual 158, 3), (5, .aload_n 0, 1), (6, .bipush 32, 2), (8, .invokevirtual 123, 3), (11, .ifCond .ne 12, 3), (14, .aload_n 0, 1), (15, .bipush 33, 2), (17, .invokevirtual 123, 3), (20, .ifCond .eq 39, 3), (23, .aload_n 0, 1), (24, .getfield 99, 3), (27, .bipush 32, 2), (29, .if_icmp .ne 9, 3), (32, .sipush 3000, 3), (35, .goto 6, 3), (38, .sipush 3001, 3), (41, .istore_n 2, 1), (42, .aload_n 0, 1), (43, .invokevirtual 126, 3), (46, .aload_n 0, 1), (47, .iload_n 1, 1), (48, .invokevirtual 158, 3), (51, .aload_n 0, 1), (52, .iload_n 2, 1), (53, .invokevirtual 140, 3), (56, .goto (-51), 3), (59, .return_, 1)])
theorem qmX11_readSum_ok : QMK qmX11_readSum := qmk_of 1568 (by decide +kernel)
def qmX11_readUnit : QMeth := (11, yX11_readUnit, cX11_readUnit, 3, none, [(0, .aload_n 0, 1), (1, .bipush 13, 2), (3, .invokevirtual 123, 3), (6, .ifCond .eq 27, 3), (9, .aload_n 0, 1), (10, .iload_n 1, 1), (11, .invokevirtual 146, 3), (14, .ifCond .ne 4, 3), (17, .return_, 1), (18, .aload_n 0, 1), (19, .iload_n 1, 1), (20, .iconst 1, 1), (21, .iadd, 1), (22, .invokevirtual 161, 3), (25, .aload_n 0, 1), (26, .sipush 3006, 3), (29, .invokevirtual 140, 3), (32, .return_, 1), (33, .aload_n 0, 1), (34, .bipush 37, 2), (36, .invokevirtual 123, 3), (39, .ifCond .eq 34, 3), (42, .aload_n 0, 1), (43, .iload_n 1, 1), (44, .invokevirtual 146, 3), (47, .ifCond .ne 4, 3), (50, .return_, 1), (51, .aload_n 0, 1), (52, .iload_n 1, 1), (53, .iconst 1, 1), (54, .iadd, 1), (55, .invokevirtual 164, 3), (58, .aload_n 0, 1), (59, .bipush 38, 2), (61, .invokevirtual 152, 3), (64, .ifCond .ne 8, 3), (67, .aload_n 0, 1), (68, .iconst 2, 1), (69, .invokevirtual 129, 3), (72, .return_, 1), (73, .aload_n 0, 1), (74, .iload_n 1, 1), (75, .invokevirtual 149, 3), (78, .aload_n 0, 1), (79, .bipush 39, 2), (81, .invokevirtual 123, 3), (84, .ifCond .eq 9, 3), (87, .sipush 3003, 3), (90, .goto 21, 3), (93, .aload_n 0, 1), (94, .bipush 40, 2), (96, .invokevirtual 123, 3), (99, .ifCond .eq 9, 3), (102, .sipush 3004, 3), (105, .goto 6, 3), (108, .sipush 3005, 3), (111, .istore_n 2, 1), (112, .aload_n 0, 1), (113, .bipush 39, 2), (115, .invokevirtual 123, 3), (118, .ifCond .ne 21, 3), (121, .aload_n 0, 1), (122, .bipush 40, 2), (124, .invokevirtual 123, 3), (127, .ifCond .ne 12, 3), (130, .aload_n 0, 1), (131, .bipush 41, 2), (133, .invokevirtual 123, 3), (136, .ifCond .eq 10, 3), (139, .aload_n 0, 1), (140, .invokevirtual 126, 3), (143, .goto 8, 3), (146, .aload_n 0, 1), (147, .iconst 2, 1), (148, .invokevirtual 129, 3), (151, .aload_n 0, 1), (152, .iload_n 1, 1), (153, .invokevirtual 149, 3), (156, .aload_n 0, 1), (157, .iload_n 2, 1), (158, .invokevirtual 140, 3), (161, .return_, 1)])
theorem qmX11_readUnit_ok : QMK qmX11_readUnit := qmk_of 1600 (by decide +kernel)
def qmX11_readBoth : QMeth := (11, yX11_readBoth, cX11_readBoth, 2, none, [(0, .aload_n 0, 1), (1, .iload_n 1, 1), (2, .invokevirtual 161, 3), (5, .aload_n 0, 1), (6, .bipush 11, 2), (8, .invokevirtual 152, 3), (11, .ifCond .eq 18, 3), (14, .aload_n 0, 1), (15, .iload_n 1, 1), (16, .invokevirtual 161, 3), (19, .aload_n 0, 1), (20, .sipush 3007, 3), (23, .invokevirtual 140, 3), (26, .goto (-21), 3), (29, .return_, 1)])
theorem qmX11_readBoth_ok : QMK qmX11_readBoth := qmk_of 1596 (by decide +kernel)
def qmX11_readTruth : QMeth := (11, yX11_readTruth, cX11_readTruth, 2, none, [(0, .aload_n 0, 1), (1, .iload_n 1, 1), (2, .invokevirtual 167, 3), (5, .aload_n 0, 1), (6, .bipush 12, 2), (8, .invokevirtual 152, 3), (11, .ifCond .eq 18, 3), (14, .aload_n 0, 1), (15, .iload_n 1, 1), (16, .invokevirtual 167, 3), (19, .aload_n 0, 1), (20, .sipush 3008, 3), (23, .invokevirtual 140, 3), (26, .goto (-21), 3), (29, .return_, 1)])
theorem qmX11_readTruth_ok : QMK qmX11_readTruth := qmk_of 1592 (by decide +kernel)
def qmX11_isDrumIn : QMeth := (11, yX11_isDrumIn, cX11_isDrumIn, 3, (some .boolean), [(0, .iconst 0, 1), (1, .istore_n 2, 1), (2, .iload_n 2, 1), (3, .aload_n 0, 1), (4, .getfield 24, 3), (7, .iconst 3, 1), (8, .iaload, 1), (9, .if_icmp .ge 24, 3), (12, .aload_n 0, 1), (13, .getfield 24, 3), (16, .bipush 46, 2), (18, .iload_n 2, 1), (19, .iadd, 1), (20, .iaload, 1), (21, .iload_n 1, 1), (22, .if_icmp .ne 5, 3), (25, .iconst 1, 1), (26, .ireturn, 1), (27, .iinc 2 1, 3), (30, .goto (-28), 3), (33, .iconst 0, 1), (34, .ireturn, 1)])
theorem qmX11_isDrumIn_ok : QMK qmX11_isDrumIn := qmk_of 1556 (by decide +kernel)
def qmX11_readCell : QMeth := (11, yX11_readCell, cX11_readCell, 3, (some .int), [(0, .aload_n 0, 1), (1, .iconst 0, 1), (2, .aload_n 0, 1), (3, .getfield 24, 3), (6, .iconst 1, 1), (7, .iaload, 1), (8, .iconst 1, 1), (9, .isub, 1), (10, .invokevirtual 170, 3), (13, .istore_n 1, 1), (14, .aload_n 0, 1), (15, .bipush 23, 2), (17, .invokevirtual 123, 3), (20, .ifCond .eq 56, 3), (23, .aload_n 0, 1), (24, .getfield 112, 3), (27, .aload_n 0, 1), (28, .getfield 24, 3), (31, .iconst 2, 1), (32, .iaload, 1), (33, .if_icmp .ge 43, 3), (36, .aload_n 0, 1), (37, .getfield 24, 3), (40, .iconst 1, 1), (41, .iaload, 1), (42, .aload_n 0, 1), (43, .getfield 112, 3), (46, .imul, 1), (47, .iload_n 1, 1), (48, .iadd, 1), (49, .istore_n 2, 1), (50, .aload_n 0, 1), (51, .getfield 24, 3), (54, .bipush 10, 2), (56, .iload_n 2, 1), (57, .iadd, 1), (58, .iaload, 1), (59, .iconst 1, 1), (60, .if_icmp .eq 11, 3), (63, .aload_n 0, 1), (64, .iload_n 2, 1), (65, .invokevirtual 174, 3), (68, .ifCond .eq 8, 3), (71, .aload_n 0, 1), (72, .iconst 3, 1), (73, .invokevirtual 129, 3), (76, .aload_n 0, 1), (77, .iconst 0, 1), (78, .aload_n 0, 1), (79, .getfield 24, 3), (82, .iconst 2, 1), (83, .iaload, 1), (84, .iconst 1, 1), (85, .isub, 1), (86, .invokevirtual 170, 3), (89, .istore_n 2, 1), (90, .aload_n 0, 1), (91, .getfield 117, 3), (94, .ifCond .ne 16, 3), (97, .aload_n 0, 1), (98, .getfield 24, 3), (101, .iconst 1, 1), (102, .iaload, 1), (103, .iload_n 2, 1), (104, .imul, 1), (105, .iload_n 1, 1), (106, .iadd, 1), (107, .goto 4, 3), (110, .iconst (-1), 1), (111, .ireturn, 1)])
theorem qmX11_readCell_ok : QMK qmX11_readCell := qmk_of 1552 (by decide +kernel)
def qmX11_readRock : QMeth := (11, yX11_readRock, cX11_readRock, 2, none, [(0, .aload_n 0, 1), (1, .invokevirtual 126, 3), (4, .aload_n 0, 1), (5, .invokevirtual 177, 3), (8, .istore_n 1, 1), (9, .aload_n 0, 1), (10, .getfield 117, 3), (13, .ifCond .ne 13, 3), (16, .aload_n 0, 1), (17, .getfield 24, 3), (20, .bipush 10, 2), (22, .iload_n 1, 1), (23, .iadd, 1), (24, .iconst 1, 1), (25, .iastore, 1), (26, .return_, 1)])
theorem qmX11_readRock_ok : QMK qmX11_readRock := qmk_of 1548 (by decide +kernel)
def qmX11_readDrum : QMeth := (11, yX11_readDrum, cX11_readDrum, 4, none, [(0, .aload_n 0, 1), (1, .getfield 24, 3), (4, .iconst 3, 1), (5, .iaload, 1), (6, .istore_n 1, 1), (7, .iload_n 1, 1), (8, .bipush 6, 2), (10, .if_icmp .ne 8, 3), (13, .aload_n 0, 1), (14, .iconst 4, 1), (15, .invokevirtual 129, 3), (18, .aload_n 0, 1), (19, .getfield 117, 3), (22, .ifCond .eq 4, 3), (25, .return_, 1), (26, .aload_n 0, 1), (27, .invokevirtual 126, 3), (30, .aload_n 0, 1), (31, .invokevirtual 177, 3), (34, .istore_n 2, 1), (35, .aload_n 0, 1), (36, .iconst 3, 1), (37, .invokevirtual 152, 3), (40, .ifCond .ne 8, 3), (43, .aload_n 0, 1), (44, .iconst 2, 1), (45, .invokevirtual 129, 3), (48, .aload_n 0, 1), (49, .iconst 0, 1), (50, .sipush 999, 3), (53, .invokevirtual 170, 3), (56, .istore_n 3, 1), (57, .aload_n 0, 1), (58, .getfield 117, 3), (61, .ifCond .eq 4, 3), (64, .return_, 1), (65, .aload_n 0, 1), (66, .getfield 24, 3), (69, .bipush 46, 2), (71, .iload_n 1, 1), (72, .iadd, 1), (73, .iload_n 2, 1), (74, .iastore, 1), (75, .aload_n 0, 1), (76, .getfield 24, 3), (79, .bipush 54, 2), (81, .iload_n 1, 1), (82, .iadd, 1), (83, .iload_n 3, 1), (84, .iastore, 1), (85, .aload_n 0, 1), (86, .getfield 24, 3), (89, .iconst 3, 1), (90, .dup2, 1), (91, .iaload, 1), (92, .iconst 1, 1), (93, .iadd, 1), (94, .iastore, 1), (95, .return_, 1)])
theorem qmX11_readDrum_ok : QMK qmX11_readDrum := qmk_of 1560 (by decide +kernel)
def qmX11_readLaw : QMeth := (11, yX11_readLaw, cX11_readLaw, 3, none, [(0, .aload_n 0, 1), (1, .invokevirtual 126, 3), (4, .aload_n 0, 1), (5, .bipush 31, 2), (7, .invokevirtual 152, 3), (10, .ifCond .ne 8, 3), (13, .aload_n 0, 1), (14, .iconst 2, 1), (15, .invokevirtual 129, 3), (18, .aload_n 0, 1), (19, .getfield 24, 3), (22, .sipush 3474, 3), (25, .iaload, 1), (26, .istore_n 2, 1), (27, .aload_n 0, 1), (28, .iload_n 1, 1), (29, .putfield 137, 3), (32, .iload_n 1, 1), (33, .ifCond .ne 11, 3), (36, .aload_n 0, 1), (37, .iconst 0, 1), (38, .invokevirtual 149, 3), (41, .goto 8, 3), (44, .aload_n 0, 1), (45, .iconst 0, 1), (46, .invokevirtual 164, 3), (49, .aload_n 0, 1), (50, .getfield 117, 3), (53, .ifCond .eq 4, 3), (56, .return_, 1), (57, .aload_n 0, 1), (58, .getfield 24, 3), (61, .iconst 4, 1), (62, .iload_n 1, 1), (63, .iadd, 1), (64, .iconst 1, 1), (65, .iastore, 1), (66, .aload_n 0, 1), (67, .getfield 24, 3), (70, .bipush 6, 2), (72, .iload_n 1, 1), (73, .iadd, 1), (74, .iload_n 2, 1), (75, .iastore, 1), (76, .aload_n 0, 1), (77, .getfield 24, 3), (80, .bipush 8, 2), (82, .iload_n 1, 1), (83, .iadd, 1), (84, .aload_n 0, 1), (85, .getfield 24, 3), (88, .sipush 3474, 3), (91, .iaload, 1), (92, .iload_n 2, 1), (93, .isub, 1), (94, .iastore, 1), (95, .return_, 1)])
theorem qmX11_readLaw_ok : QMK qmX11_readLaw := qmk_of 1564 (by decide +kernel)
def qmX11_readLine : QMeth := (11, yX11_readLine, cX11_readLine, 1, none, [(0, .aload_n 0, 1), (1, .getfield 117, 3), (4, .ifCond .eq 4, 3), (7, .return_, 1), (8, .aload_n 0, 1), (9, .iconst 1, 1), (10, .invokevirtual 123, 3), (13, .ifCond .eq 10, 3), (16, .aload_n 0, 1), (17, .invokevirtual 180, 3), (20, .goto 105, 3), (23, .aload_n 0, 1), (24, .iconst 2, 1), (25, .invokevirtual 123, 3), (28, .ifCond .eq 10, 3), (31, .aload_n 0, 1), (32, .invokevirtual 183, 3), (35, .goto 90, 3), (38, .aload_n 0, 1), (39, .iconst 4, 1), (40, .invokevirtual 123, 3), (43, .ifCond .ne 11, 3), (46, .aload_n 0, 1), (47, .iconst 5, 1), (48, .invokevirtual 123, 3), (51, .ifCond .eq 16, 3), (54, .aload_n 0, 1), (55, .aload_n 0, 1), (56, .getfield 99, 3), (59, .iconst 4, 1), (60, .isub, 1), (61, .invokevirtual 186, 3), (64, .goto 61, 3), (67, .aload_n 0, 1), (68, .bipush 6, 2), (70, .invokevirtual 152, 3), (73, .ifCond .eq 20, 3), (76, .aload_n 0, 1), (77, .getfield 24, 3), (80, .bipush 52, 2), (82, .aload_n 0, 1), (83, .iconst 0, 1), (84, .bipush 9, 2), (86, .invokevirtual 170, 3), (89, .iastore, 1), (90, .goto 35, 3), (93, .aload_n 0, 1), (94, .bipush 7, 2), (96, .invokevirtual 152, 3), (99, .ifCond .eq 21, 3), (102, .aload_n 0, 1), (103, .getfield 24, 3), (106, .bipush 53, 2), (108, .aload_n 0, 1), (109, .iconst 0, 1), (110, .sipush 999, 3), (113, .invokevirtual 170, 3), (116, .iastore, 1), (117, .goto 8, 3), (120, .aload_n 0, 1), (121, .iconst 2, 1), (122, .invokevirtual 129, 3), (125, .return_, 1)])
theorem qmX11_readLine_ok : QMK qmX11_readLine := qmk_of 1544 (by decide +kernel)
def qmX11_ends : QMeth := (11, yX11_ends, cX11_ends, 1, none, [(0, .aload_n 0, 1), (1, .bipush 30, 2), (3, .invokevirtual 152, 3), (6, .ifCond .ne 8, 3), (9, .aload_n 0, 1), (10, .iconst 2, 1), (11, .invokevirtual 129, 3), (14, .aload_n 0, 1), (15, .getfield 24, 3), (18, .iconst 0, 1), (19, .dup2, 1), (20, .iaload, 1), (21, .iconst 1, 1), (22, .iadd, 1), (23, .iastore, 1), (24, .return_, 1)])
theorem qmX11_ends_ok : QMK qmX11_ends := qmk_of 1540 (by decide +kernel)
def qmX11_land : QMeth := (11, yX11_land, cX11_land, 3, (some .int), [(0, .aload_n 0, 1), (1, .iconst 0, 1), (2, .putfield 1, 3), (5, .iload_n 1, 1), (6, .i2l, 1), (7, .lconst 0, 1), (8, .aload_n 0, 1), (9, .getfield 71, 3), (12, .i2l, 1), (13, .invokestatic 133, 3), (16, .ifCond .ne 6, 3), (19, .bipush (-3), 2), (21, .ireturn, 1), (22, .aload_n 0, 1), (23, .iload_n 1, 1), (24, .putfield 74, 3), (27, .aload_n 0, 1), (28, .iconst 0, 1), (29, .putfield 71, 3), (32, .aload_n 0, 1), (33, .iconst 0, 1), (34, .putfield 92, 3), (37, .aload_n 0, 1), (38, .iconst 0, 1), (39, .putfield 117, 3), (42, .aload_n 0, 1), (43, .getfield 24, 3), (46, .invokestatic 67, 3), (49, .aload_n 0, 1), (50, .invokevirtual 126, 3), (53, .aload_n 0, 1), (54, .iconst 0, 1), (55, .invokevirtual 152, 3), (58, .ifCond .ne 8, 3), (61, .aload_n 0, 1), (62, .iconst 2, 1), (63, .invokevirtual 129, 3), (66, .aload_n 0, 1), (67, .getfield 24, 3), (70, .iconst 1, 1), (71, .aload_n 0, 1), (72, .iconst 2, 1), (73, .bipush 6, 2), (75, .invokevirtual 170, 3), (78, .iastore, 1), (79, .aload_n 0, 1), (80, .getfield 24, 3), (83, .iconst 2, 1), (84, .aload_n 0, 1), (85, .iconst 2, 1), (86, .bipush 6, 2), (88, .invokevirtual 170, 3), (91, .iastore, 1), (92, .aload_n 0, 1), (93, .invokevirtual 189, 3), (96, .aload_n 0, 1), (97, .getfield 117, 3), (100, .ifCond .ne 23, 3), (103, .aload_n 0, 1), (104, .getfield 99, 3), (107, .bipush 24, 2), (109, .if_icmp .eq 14, 3), (112, .aload_n 0, 1), (113, .invokevirtual 192, 3), (116, .aload_n 0, 1), (117, .invokevirtual 189, 3), (120, .goto (-24), 3), (123, .aload_n 0, 1), (124, .aload_n 0, 1), (125, .getfield 117, 3), (128, .putfield 195, 3), (131, .aload_n 0, 1), (132, .aload_n 0, 1), (133, .getfield 117, 3), (136, .ifCond .ne 7, 3), (139, .iconst (-1), 1), (140, .goto 7, 3), (143, .aload_n 0, 1), (144, .getfield 120, 3), (147, .putfield 27, 3), (150, .aload_n 0, 1), (151, .getfield 117, 3), (154, .ifCond .eq 11, 3), (157, .bipush (-30), 2), (159, .aload_n 0, 1), (160, .getfield 117, 3), (163, .isub, 1), (164, .ireturn, 1), (165, .iconst 0, 1), (166, .istore_n 2, 1), (167, .iload_n 2, 1), (168, .sipush 4375, 3), (171, .if_icmp .ge 21, 3), (174, .aload_n 0, 1), (175, .getfield 13, 3), (178, .iload_n 2, 1), (179, .aload_n 0, 1), (180, .getfield 24, 3), (183, .iload_n 2, 1), (184, .iaload, 1), (185, .iastore, 1), (186, .iinc 2 1, 3), (189, .goto (-22), 3), (192, .aload_n 0, 1), (193, .getfield 13, 3), (196, .iconst 0, 1), (197, .iaload, 1), (198, .ireturn, 1)])
theorem qmX11_land_ok : QMK qmX11_land := qmk_of 1495 (by decide +kernel)
def qmX11_fault : QMeth := (11, yX11_fault, cX11_fault, 2, (some .int), [(0, .aload_n 0, 1), (1, .iconst 0, 1), (2, .putfield 1, 3), (5, .iload_n 1, 1), (6, .ifCond .ne 10, 3), (9, .aload_n 0, 1), (10, .getfield 195, 3), (13, .goto 16, 3), (16, .iload_n 1, 1), (17, .iconst 1, 1), (18, .if_icmp .ne 10, 3), (21, .aload_n 0, 1), (22, .getfield 27, 3), (25, .goto 4, 3), (28, .iconst (-1), 1), (29, .ireturn, 1)])
theorem qmX11_fault_ok : QMK qmX11_fault := qmk_of 1604 (by decide +kernel)
def qmX11_cells : QMeth := (11, yX11_cells, cX11_cells, 1, (some .int), [(0, .aload_n 0, 1), (1, .getfield 13, 3), (4, .iconst 1, 1), (5, .iaload, 1), (6, .aload_n 0, 1), (7, .getfield 13, 3), (10, .iconst 2, 1), (11, .iaload, 1), (12, .imul, 1), (13, .ireturn, 1)])
theorem qmX11_cells_ok : QMK qmX11_cells := qmk_of 1616 (by decide +kernel)
def qmX11_isCell : QMeth := (11, yX11_isCell, cX11_isCell, 3, (some .boolean), [(0, .lload_n 1, 1), (1, .lconst 0, 1), (2, .aload_n 0, 1), (3, .invokevirtual 198, 3), (6, .iconst 1, 1), (7, .isub, 1), (8, .i2l, 1), (9, .invokestatic 133, 3), (12, .ireturn, 1)])
theorem qmX11_isCell_ok : QMK qmX11_isCell := qmk_of 1612 (by decide +kernel)
def qmX11_isDrum : QMeth := (11, yX11_isDrum, cX11_isDrum, 3, (some .boolean), [(0, .lload_n 1, 1), (1, .lconst 0, 1), (2, .aload_n 0, 1), (3, .getfield 13, 3), (6, .iconst 3, 1), (7, .iaload, 1), (8, .iconst 1, 1), (9, .isub, 1), (10, .i2l, 1), (11, .invokestatic 133, 3), (14, .ireturn, 1)])
theorem qmX11_isDrum_ok : QMK qmX11_isDrum := qmk_of 1640 (by decide +kernel)
def qmX11_isGoer : QMeth := (11, yX11_isGoer, cX11_isGoer, 3, (some .boolean), [(0, .lload_n 1, 1), (1, .lconst 0, 1), (2, .aload_n 0, 1), (3, .getfield 13, 3), (6, .sipush 330, 3), (9, .iaload, 1), (10, .iconst 1, 1), (11, .isub, 1), (12, .i2l, 1), (13, .invokestatic 133, 3), (16, .ireturn, 1)])
theorem qmX11_isGoer_ok : QMK qmX11_isGoer := qmk_of 1660 (by decide +kernel)
def qmX11_bitsOf : QMeth := (11, yX11_bitsOf, cX11_bitsOf, 3, (some .int), [(0, .iconst 0, 1), (1, .istore_n 1, 1), (2, .iconst 0, 1), (3, .istore_n 2, 1), (4, .iload_n 2, 1), (5, .bipush 8, 2), (7, .if_icmp .ge 17, 3), (10, .iload_n 1, 1), (11, .iload_n 0, 1), (12, .iload_n 2, 1), (13, .ishr, 1), (14, .iconst 1, 1), (15, .iand, 1), (16, .iadd, 1), (17, .istore_n 1, 1), (18, .iinc 2 1, 3), (21, .goto (-17), 3), (24, .iload_n 1, 1), (25, .ireturn, 1)])
theorem qmX11_bitsOf_ok : QMK qmX11_bitsOf := qmk_of 1925 (by decide +kernel)
def qmX11_beside : QMeth := (11, yX11_beside, cX11_beside, 5, (some .int), [(0, .iload_n 1, 1), (1, .aload_n 0, 1), (2, .getfield 13, 3), (5, .iconst 1, 1), (6, .iaload, 1), (7, .irem, 1), (8, .istore_n 3, 1), (9, .iload_n 1, 1), (10, .aload_n 0, 1), (11, .getfield 13, 3), (14, .iconst 1, 1), (15, .iaload, 1), (16, .idiv, 1), (17, .istore 4, 2), (19, .iload_n 2, 1), (20, .iconst 1, 1), (21, .if_icmp .ne 21, 3), (24, .iload 4, 2), (26, .ifCond .ne 7, 3), (29, .iconst (-1), 1), (30, .goto 11, 3), (33, .iload_n 1, 1), (34, .aload_n 0, 1), (35, .getfield 13, 3), (38, .iconst 1, 1), (39, .iaload, 1), (40, .isub, 1), (41, .ireturn, 1), (42, .iload_n 2, 1), (43, .iconst 2, 1), (44, .if_icmp .ne 23, 3), (47, .iload_n 3, 1), (48, .aload_n 0, 1), (49, .getfield 13, 3), (52, .iconst 1, 1), (53, .iaload, 1), (54, .iconst 1, 1), (55, .isub, 1), (56, .if_icmp .ne 7, 3), (59, .iconst (-1), 1), (60, .goto 6, 3), (63, .iload_n 1, 1), (64, .iconst 1, 1), (65, .iadd, 1), (66, .ireturn, 1), (67, .iload_n 2, 1), (68, .iconst 3, 1), (69, .if_icmp .ne 29, 3), (72, .iload 4, 2), (74, .aload_n 0, 1), (75, .getfield 13, 3), (78, .iconst 2, 1), (79, .iaload, 1), (80, .iconst 1, 1), (81, .isub, 1), (82, .if_icmp .ne 7, 3), (85, .iconst (-1), 1), (86, .goto 11, 3), (89, .iload_n 1, 1), (90, .aload_n 0, 1), (91, .getfield 13, 3), (94, .iconst 1, 1), (95, .iaload, 1), (96, .iadd, 1), (97, .ireturn, 1), (98, .iload_n 3, 1), (99, .ifCond .ne 7, 3), (102, .iconst (-1), 1), (103, .goto 6, 3), (106, .iload_n 1, 1), (107, .iconst 1, 1), (108, .isub, 1), (109, .ireturn, 1)])
theorem qmX11_beside_ok : QMK qmX11_beside := qmk_of 1690 (by decide +kernel)
def qmX11_endOf : QMeth := (11, yX11_endOf, cX11_endOf, 2, (some .int), [(0, .aload_n 0, 1), (1, .getfield 13, 3), (4, .bipush 60, 2), (6, .iload_n 1, 1), (7, .iadd, 1), (8, .iaload, 1), (9, .ifCond .ne 15, 3), (12, .aload_n 0, 1), (13, .getfield 13, 3), (16, .bipush 46, 2), (18, .iload_n 1, 1), (19, .iadd, 1), (20, .iaload, 1), (21, .goto 27, 3), (24, .aload_n 0, 1), (25, .getfield 13, 3), (28, .bipush 66, 2), (30, .bipush 16, 2), (32, .iload_n 1, 1), (33, .imul, 1), (34, .iadd, 1), (35, .aload_n 0, 1), (36, .getfield 13, 3), (39, .bipush 60, 2), (41, .iload_n 1, 1), (42, .iadd, 1), (43, .iaload, 1), (44, .iadd, 1), (45, .iconst 1, 1), (46, .isub, 1), (47, .iaload, 1), (48, .ireturn, 1)])
theorem qmX11_endOf_ok : QMK qmX11_endOf := qmk_of 1644 (by decide +kernel)
def qmX11_lieOn : QMeth := (11, yX11_lieOn, cX11_lieOn, 2, (some .int), [(0, .aload_n 0, 1), (1, .getfield 13, 3), (4, .sipush 294, 3), (7, .iload_n 1, 1), (8, .iadd, 1), (9, .iaload, 1), (10, .iconst (-1), 1), (11, .if_icmp .ne 7, 3), (14, .iconst 0, 1), (15, .goto 22, 3), (18, .aload_n 0, 1), (19, .getfield 13, 3), (22, .sipush 258, 3), (25, .iload_n 1, 1), (26, .iadd, 1), (27, .iaload, 1), (28, .iconst (-1), 1), (29, .if_icmp .ne 7, 3), (32, .iconst 1, 1), (33, .goto 4, 3), (36, .iconst 2, 1), (37, .ireturn, 1)])
theorem qmX11_lieOn_ok : QMK qmX11_lieOn := qmk_of 1624 (by decide +kernel)
def qmX11_isHome : QMeth := (11, yX11_isHome, cX11_isHome, 3, (some .boolean), [(0, .iconst 0, 1), (1, .istore_n 2, 1), (2, .iload_n 2, 1), (3, .aload_n 0, 1), (4, .getfield 13, 3), (7, .iconst 3, 1), (8, .iaload, 1), (9, .if_icmp .ge 24, 3), (12, .aload_n 0, 1), (13, .getfield 13, 3), (16, .bipush 46, 2), (18, .iload_n 2, 1), (19, .iadd, 1), (20, .iaload, 1), (21, .iload_n 1, 1), (22, .if_icmp .ne 5, 3), (25, .iconst 1, 1), (26, .ireturn, 1), (27, .iinc 2 1, 3), (30, .goto (-28), 3), (33, .iconst 0, 1), (34, .ireturn, 1)])
theorem qmX11_isHome_ok : QMK qmX11_isHome := qmk_of 1620 (by decide +kernel)
def qmX11_between : QMeth := (11, yX11_between, cX11_between, 5, (some .int), [(0, .iload_n 0, 1), (1, .tableswitch 80 3003 3008 #[39, 50, 61, 80, 72, 76], 39), (40, .iload_n 1, 1), (41, .iload_n 2, 1), (42, .if_icmp .ne 7, 3), (45, .iconst 1, 1), (46, .goto 4, 3), (49, .iconst 0, 1), (50, .ireturn, 1), (51, .iload_n 1, 1), (52, .iload_n 2, 1), (53, .if_icmp .ge 7, 3), (56, .iconst 1, 1), (57, .goto 4, 3), (60, .iconst 0, 1), (61, .ireturn, 1), (62, .iload_n 1, 1), (63, .iload_n 2, 1), (64, .if_icmp .le 7, 3), (67, .iconst 1, 1), (68, .goto 4, 3), (71, .iconst 0, 1), (72, .ireturn, 1), (73, .iload_n 1, 1), (74, .iload_n 2, 1), (75, .iand, 1), (76, .ireturn, 1), (77, .iload_n 1, 1), (78, .iload_n 2, 1), (79, .ior, 1), (80, .ireturn, 1), (81, .iload_n 0, 1), (82, .sipush 3000, 3), (85, .if_icmp .ne 11, 3), (88, .iload_n 1, 1), (89, .i2l, 1), (90, .iload_n 2, 1), (91, .i2l, 1), (92, .ladd, 1), (93, .goto 23, 3), (96, .iload_n 0, 1), (97, .sipush 3001, 3), (100, .if_icmp .ne 11, 3), (103, .iload_n 1, 1), (104, .i2l, 1), (105, .iload_n 2, 1), (106, .i2l, 1), (107, .lsub, 1), (108, .goto 8, 3), (111, .iload_n 1, 1), (112, .i2l, 1), (113, .iload_n 2, 1), (114, .i2l, 1), (115, .lmul, 1), (116, .lstore_n 3, 1), (117, .lload_n 3, 1), (118, .ldc2_w 201, 3), (121, .lcmp, 1), (122, .ifCond .le 9, 3), (125, .ldc2_w 201, 3), (128, .goto 18, 3), (131, .lload_n 3, 1), (132, .ldc2_w 203, 3), (135, .lcmp, 1), (136, .ifCond .ge 9, 3), (139, .ldc2_w 203, 3), (142, .goto 4, 3), (145, .lload_n 3, 1), (146, .l2i, 1), (147, .ireturn, 1)])
theorem qmX11_between_ok : QMK qmX11_between := qmk_of 1675 (by decide +kernel)
def qmX11_reckons : QMeth := (11, yX11_reckons, cX11_reckons, 7, (some .int), [(0, .aload_n 0, 1), (1, .getfield 33, 3), (4, .iconst 0, 1), (5, .iload_n 3, 1), (6, .aload_n 0, 1), (7, .getfield 13, 3), (10, .iconst 1, 1), (11, .iaload, 1), (12, .irem, 1), (13, .iastore, 1), (14, .aload_n 0, 1), (15, .getfield 33, 3), (18, .iconst 1, 1), (19, .iload_n 3, 1), (20, .aload_n 0, 1), (21, .getfield 13, 3), (24, .iconst 1, 1), (25, .iaload, 1), (26, .idiv, 1), (27, .iastore, 1), (28, .aload_n 0, 1), (29, .getfield 33, 3), (32, .iconst 2, 1), (33, .aload_n 0, 1), (34, .getfield 13, 3), (37, .bipush 52, 2), (39, .iaload, 1), (40, .iastore, 1), (41, .aload_n 0, 1), (42, .getfield 33, 3), (45, .iconst 3, 1), (46, .iload_n 2, 1), (47, .iastore, 1), (48, .aload_n 0, 1), (49, .getfield 33, 3), (52, .iconst 4, 1), (53, .aload_n 0, 1), (54, .iload_n 3, 1), (55, .invokevirtual 205, 3), (58, .iastore, 1), (59, .iconst 0, 1), (60, .istore 4, 2), (62, .iconst 0, 1), (63, .istore 5, 2), (65, .iload 5, 2), (67, .aload_n 0, 1), (68, .getfield 13, 3), (71, .bipush 8, 2), (73, .iload_n 1, 1), (74, .iadd, 1), (75, .iaload, 1), (76, .if_icmp .ge 141, 3), (79, .aload_n 0, 1), (80, .getfield 13, 3), (83, .sipush 3475, 3), (86, .aload_n 0, 1), (87, .getfield 13, 3), (90, .bipush 6, 2), (92, .iload_n 1, 1), (93, .iadd, 1), (94, .iaload, 1), (95, .iadd, 1), (96, .iload 5, 2), (98, .iadd, 1), (99, .iaload, 1), (100, .istore 6, 2), (102, .iload 6, 2), (104, .sipush 3000, 3), (107, .if_icmp .ge 40, 3), (110, .aload_n 0, 1), (111, .getfield 30, 3), (114, .iload 4, 2), (116, .iload 6, 2), (118, .sipush 1000, 3), (121, .if_icmp .ge 8, 3), (124, .iload 6, 2), (126, .goto 14, 3), (129, .aload_n 0, 1), (130, .getfield 33, 3), (133, .iload 6, 2), (135, .sipush 1000, 3), (138, .isub, 1), (139, .iaload, 1), (140, .iastore, 1), (141, .iinc 4 1, 3), (144, .goto 67, 3), (147, .iload 6, 2), (149, .sipush 3006, 3), (152, .if_icmp .ne 26, 3), (155, .aload_n 0, 1), (156, .getfield 30, 3), (159, .iload 4, 2), (161, .iconst 1, 1), (162, .isub, 1), (163, .iconst 1, 1), (164, .aload_n 0, 1), (165, .getfield 30, 3), (168, .iload 4, 2), (170, .iconst 1, 1), (171, .isub, 1), (172, .iaload, 1), (173, .isub, 1), (174, .iastore, 1), (175, .goto 36, 3), (178, .iinc 4 (-1), 3), (181, .aload_n 0, 1), (182, .getfield 30, 3), (185, .iload 4, 2), (187, .iconst 1, 1), (188, .isub, 1), (189, .iload 6, 2), (191, .aload_n 0, 1), (192, .getfield 30, 3), (195, .iload 4, 2), (197, .iconst 1, 1), (198, .isub, 1), (199, .iaload, 1), (200, .aload_n 0, 1), (201, .getfield 30, 3), (204, .iload 4, 2), (206, .iaload, 1), (207, .invokestatic 208, 3), (210, .iastore, 1), (211, .iinc 5 1, 3), (214, .goto (-149), 3), (217, .aload_n 0, 1), (218, .getfield 30, 3), (221, .iconst 0, 1), (222, .iaload, 1), (223, .ireturn, 1)])
theorem qmX11_reckons_ok : QMK qmX11_reckons := qmk_of 1672 (by decide +kernel)
end
section
def qmX11_costOf : QMeth := (11, yX11_costOf, cX11_costOf, 4, (some .int), [(0, .aload_n 0, 1), (1, .getfield 13, 3), (4, .iconst 4, 1), (5, .iaload, 1), (6, .ifCond .ne 5, 3), (9, .iconst 1, 1), (10, .ireturn, 1), (11, .aload_n 0, 1), (12, .iconst 0, 1), (13, .iload_n 1, 1), (14, .iload_n 2, 1), (15, .invokevirtual 212, 3), (18, .istore_n 3, 1), (19, .iload_n 3, 1), (20, .iconst 1, 1), (21, .if_icmp .ge 7, 3), (24, .iconst 1, 1), (25, .goto 15, 3), (28, .iload_n 3, 1), (29, .bipush 99, 2), (31, .if_icmp .le 8, 3), (34, .bipush 99, 2), (36, .goto 4, 3), (39, .iload_n 3, 1), (40, .ireturn, 1)])
theorem qmX11_costOf_ok : QMK qmX11_costOf := qmk_of 1668 (by decide +kernel)
def qmX11_lets : QMeth := (11, yX11_lets, cX11_lets, 3, (some .boolean), [(0, .aload_n 0, 1), (1, .getfield 13, 3), (4, .iconst 5, 1), (5, .iaload, 1), (6, .ifCond .eq 14, 3), (9, .aload_n 0, 1), (10, .iconst 1, 1), (11, .iload_n 1, 1), (12, .iload_n 2, 1), (13, .invokevirtual 212, 3), (16, .iconst 1, 1), (17, .if_icmp .ne 7, 3), (20, .iconst 1, 1), (21, .goto 4, 3), (24, .iconst 0, 1), (25, .ireturn, 1)])
theorem qmX11_lets_ok : QMK qmX11_lets := qmk_of 1698 (by decide +kernel)
def qmX11_isOpen : QMeth := (11, yX11_isOpen, cX11_isOpen, 3, (some .boolean), [(0, .aload_n 0, 1), (1, .getfield 13, 3), (4, .bipush 10, 2), (6, .iload_n 2, 1), (7, .iadd, 1), (8, .iaload, 1), (9, .iconst 1, 1), (10, .if_icmp .eq 20, 3), (13, .aload_n 0, 1), (14, .iload_n 2, 1), (15, .invokevirtual 215, 3), (18, .ifCond .ne 12, 3), (21, .aload_n 0, 1), (22, .iload_n 2, 1), (23, .invokevirtual 205, 3), (26, .iconst 2, 1), (27, .if_icmp .ne 5, 3), (30, .iconst 0, 1), (31, .ireturn, 1), (32, .aload_n 0, 1), (33, .getfield 13, 3), (36, .sipush 294, 3), (39, .iload_n 2, 1), (40, .iadd, 1), (41, .iaload, 1), (42, .iload_n 1, 1), (43, .if_icmp .eq 7, 3), (46, .iconst 1, 1), (47, .goto 4, 3), (50, .iconst 0, 1), (51, .ireturn, 1)])
theorem qmX11_isOpen_ok : QMK qmX11_isOpen := qmk_of 1694 (by decide +kernel)
def qmX11_goerOn : QMeth := (11, yX11_goerOn, cX11_goerOn, 3, (some .int), [(0, .iconst 0, 1), (1, .istore_n 2, 1), (2, .iload_n 2, 1), (3, .aload_n 0, 1), (4, .getfield 13, 3), (7, .sipush 330, 3), (10, .iaload, 1), (11, .if_icmp .ge 46, 3), (14, .aload_n 0, 1), (15, .getfield 13, 3), (18, .sipush 347, 3), (21, .iload_n 2, 1), (22, .iadd, 1), (23, .iaload, 1), (24, .ifCond .ne 27, 3), (27, .aload_n 0, 1), (28, .getfield 13, 3), (31, .sipush 339, 3), (34, .iload_n 2, 1), (35, .iadd, 1), (36, .iaload, 1), (37, .ifCond .lt 14, 3), (40, .aload_n 0, 1), (41, .iload_n 2, 1), (42, .invokevirtual 218, 3), (45, .iload_n 1, 1), (46, .if_icmp .ne 5, 3), (49, .iload_n 2, 1), (50, .ireturn, 1), (51, .iinc 2 1, 3), (54, .goto (-52), 3), (57, .iconst (-1), 1), (58, .ireturn, 1)])
theorem qmX11_goerOn_ok : QMK qmX11_goerOn := qmk_of 1628 (by decide +kernel)
def qmX11_cellOf : QMeth := (11, yX11_cellOf, cX11_cellOf, 2, (some .int), [(0, .aload_n 0, 1), (1, .getfield 13, 3), (4, .bipush 66, 2), (6, .bipush 16, 2), (8, .aload_n 0, 1), (9, .getfield 13, 3), (12, .sipush 331, 3), (15, .iload_n 1, 1), (16, .iadd, 1), (17, .iaload, 1), (18, .imul, 1), (19, .iadd, 1), (20, .aload_n 0, 1), (21, .getfield 13, 3), (24, .sipush 339, 3), (27, .iload_n 1, 1), (28, .iadd, 1), (29, .iaload, 1), (30, .iadd, 1), (31, .iaload, 1), (32, .ireturn, 1)])
theorem qmX11_cellOf_ok : QMK qmX11_cellOf := qmk_of 1632 (by decide +kernel)
def qmX11_cell : QMeth := (11, yX11_cell, cX11_cell, 3, (some .int), [(0, .aload_n 0, 1), (1, .iconst 0, 1), (2, .putfield 1, 3), (5, .aload_n 0, 1), (6, .iload_n 1, 1), (7, .i2l, 1), (8, .invokevirtual 221, 3), (11, .ifCond .ne 6, 3), (14, .bipush (-2), 2), (16, .ireturn, 1), (17, .iload_n 2, 1), (18, .tableswitch 99 0 4 #[34, 65, 71, 82, 93], 34), (52, .aload_n 0, 1), (53, .getfield 13, 3), (56, .bipush 10, 2), (58, .iload_n 1, 1), (59, .iadd, 1), (60, .iaload, 1), (61, .iconst 1, 1), (62, .if_icmp .ne 7, 3), (65, .iconst 1, 1), (66, .goto 16, 3), (69, .aload_n 0, 1), (70, .iload_n 1, 1), (71, .invokevirtual 215, 3), (74, .ifCond .eq 7, 3), (77, .iconst 2, 1), (78, .goto 4, 3), (81, .iconst 0, 1), (82, .ireturn, 1), (83, .aload_n 0, 1), (84, .iload_n 1, 1), (85, .invokevirtual 205, 3), (88, .ireturn, 1), (89, .aload_n 0, 1), (90, .getfield 13, 3), (93, .sipush 294, 3), (96, .iload_n 1, 1), (97, .iadd, 1), (98, .iaload, 1), (99, .ireturn, 1), (100, .aload_n 0, 1), (101, .getfield 13, 3), (104, .sipush 258, 3), (107, .iload_n 1, 1), (108, .iadd, 1), (109, .iaload, 1), (110, .ireturn, 1), (111, .aload_n 0, 1), (112, .iload_n 1, 1), (113, .invokevirtual 225, 3), (116, .ireturn, 1), (117, .bipush (-2), 2), (119, .ireturn, 1)])
theorem qmX11_cell_ok : QMK qmX11_cell := qmk_of 1608 (by decide +kernel)
def qmX11_drum : QMeth := (11, yX11_drum, cX11_drum, 3, (some .int), [(0, .aload_n 0, 1), (1, .iconst 0, 1), (2, .putfield 1, 3), (5, .aload_n 0, 1), (6, .iload_n 1, 1), (7, .i2l, 1), (8, .invokevirtual 228, 3), (11, .ifCond .ne 6, 3), (14, .bipush (-2), 2), (16, .ireturn, 1), (17, .iload_n 2, 1), (18, .tableswitch 76 0 4 #[34, 44, 54, 64, 70], 34), (52, .aload_n 0, 1), (53, .getfield 13, 3), (56, .bipush 46, 2), (58, .iload_n 1, 1), (59, .iadd, 1), (60, .iaload, 1), (61, .ireturn, 1), (62, .aload_n 0, 1), (63, .getfield 13, 3), (66, .bipush 54, 2), (68, .iload_n 1, 1), (69, .iadd, 1), (70, .iaload, 1), (71, .ireturn, 1), (72, .aload_n 0, 1), (73, .getfield 13, 3), (76, .bipush 60, 2), (78, .iload_n 1, 1), (79, .iadd, 1), (80, .iaload, 1), (81, .ireturn, 1), (82, .aload_n 0, 1), (83, .iload_n 1, 1), (84, .invokevirtual 231, 3), (87, .ireturn, 1), (88, .aload_n 0, 1), (89, .iload_n 1, 1), (90, .invokevirtual 234, 3), (93, .ireturn, 1), (94, .bipush (-2), 2), (96, .ireturn, 1)])
theorem qmX11_drum_ok : QMK qmX11_drum := qmk_of 1636 (by decide +kernel)
def qmX11_tookBy : QMeth := (11, yX11_tookBy, cX11_tookBy, 4, (some .int), [(0, .iconst 0, 1), (1, .istore_n 2, 1), (2, .iconst 0, 1), (3, .istore_n 3, 1), (4, .iload_n 3, 1), (5, .aload_n 0, 1), (6, .getfield 13, 3), (9, .bipush 60, 2), (11, .iload_n 1, 1), (12, .iadd, 1), (13, .iaload, 1), (14, .if_icmp .ge 27, 3), (17, .iload_n 2, 1), (18, .aload_n 0, 1), (19, .getfield 13, 3), (22, .sipush 162, 3), (25, .bipush 16, 2), (27, .iload_n 1, 1), (28, .imul, 1), (29, .iadd, 1), (30, .iload_n 3, 1), (31, .iadd, 1), (32, .iaload, 1), (33, .iadd, 1), (34, .istore_n 2, 1), (35, .iinc 3 1, 3), (38, .goto (-34), 3), (41, .iload_n 2, 1), (42, .ireturn, 1)])
theorem qmX11_tookBy_ok : QMK qmX11_tookBy := qmk_of 1648 (by decide +kernel)
def qmX11_lies : QMeth := (11, yX11_lies, cX11_lies, 3, (some .int), [(0, .aload_n 0, 1), (1, .iconst 0, 1), (2, .putfield 1, 3), (5, .aload_n 0, 1), (6, .iload_n 1, 1), (7, .i2l, 1), (8, .invokevirtual 228, 3), (11, .ifCond .ne 8, 3), (14, .bipush (-2), 2), (16, .goto 43, 3), (19, .iload_n 2, 1), (20, .ifCond .ge 8, 3), (23, .bipush (-3), 2), (25, .goto 34, 3), (28, .iload_n 2, 1), (29, .aload_n 0, 1), (30, .getfield 13, 3), (33, .bipush 60, 2), (35, .iload_n 1, 1), (36, .iadd, 1), (37, .iaload, 1), (38, .if_icmp .ge 20, 3), (41, .aload_n 0, 1), (42, .getfield 13, 3), (45, .bipush 66, 2), (47, .bipush 16, 2), (49, .iload_n 1, 1), (50, .imul, 1), (51, .iadd, 1), (52, .iload_n 2, 1), (53, .iadd, 1), (54, .iaload, 1), (55, .goto 4, 3), (58, .iconst (-1), 1), (59, .ireturn, 1)])
theorem qmX11_lies_ok : QMK qmX11_lies := qmk_of 1652 (by decide +kernel)
def qmX11_traveller : QMeth := (11, yX11_traveller, cX11_traveller, 3, (some .int), [(0, .aload_n 0, 1), (1, .iconst 0, 1), (2, .putfield 1, 3), (5, .aload_n 0, 1), (6, .iload_n 1, 1), (7, .i2l, 1), (8, .invokevirtual 237, 3), (11, .ifCond .ne 6, 3), (14, .bipush (-2), 2), (16, .ireturn, 1), (17, .iload_n 2, 1), (18, .tableswitch 92 0 3 #[30, 41, 70, 81], 30), (48, .aload_n 0, 1), (49, .getfield 13, 3), (52, .sipush 331, 3), (55, .iload_n 1, 1), (56, .iadd, 1), (57, .iaload, 1), (58, .ireturn, 1), (59, .aload_n 0, 1), (60, .getfield 13, 3), (63, .sipush 347, 3), (66, .iload_n 1, 1), (67, .iadd, 1), (68, .iaload, 1), (69, .iconst 1, 1), (70, .if_icmp .ne 7, 3), (73, .iconst (-1), 1), (74, .goto 13, 3), (77, .aload_n 0, 1), (78, .getfield 13, 3), (81, .sipush 339, 3), (84, .iload_n 1, 1), (85, .iadd, 1), (86, .iaload, 1), (87, .ireturn, 1), (88, .aload_n 0, 1), (89, .getfield 13, 3), (92, .sipush 347, 3), (95, .iload_n 1, 1), (96, .iadd, 1), (97, .iaload, 1), (98, .ireturn, 1), (99, .aload_n 0, 1), (100, .getfield 13, 3), (103, .sipush 355, 3), (106, .iload_n 1, 1), (107, .iadd, 1), (108, .iaload, 1), (109, .ireturn, 1), (110, .bipush (-2), 2), (112, .ireturn, 1)])
theorem qmX11_traveller_ok : QMK qmX11_traveller := qmk_of 1656 (by decide +kernel)
def qmX11_takes : QMeth := (11, yX11_takes, cX11_takes, 3, (some .int), [(0, .aload_n 0, 1), (1, .iconst 0, 1), (2, .putfield 1, 3), (5, .aload_n 0, 1), (6, .iload_n 1, 1), (7, .i2l, 1), (8, .invokevirtual 228, 3), (11, .ifCond .eq 21, 3), (14, .aload_n 0, 1), (15, .iload_n 2, 1), (16, .i2l, 1), (17, .invokevirtual 221, 3), (20, .ifCond .eq 12, 3), (23, .aload_n 0, 1), (24, .iload_n 1, 1), (25, .iload_n 2, 1), (26, .invokevirtual 240, 3), (29, .goto 5, 3), (32, .bipush (-2), 2), (34, .ireturn, 1)])
theorem qmX11_takes_ok : QMK qmX11_takes := qmk_of 1664 (by decide +kernel)
def qmX11_keeps : QMeth := (11, yX11_keeps, cX11_keeps, 2, none, [(0, .iconst 0, 1), (1, .istore_n 1, 1), (2, .iload_n 1, 1), (3, .sipush 311, 3), (6, .if_icmp .ge 24, 3), (9, .aload_n 0, 1), (10, .getfield 36, 3), (13, .iload_n 1, 1), (14, .aload_n 0, 1), (15, .getfield 13, 3), (18, .bipush 52, 2), (20, .iload_n 1, 1), (21, .iadd, 1), (22, .iaload, 1), (23, .iastore, 1), (24, .iinc 1 1, 3), (27, .goto (-25), 3), (30, .return_, 1)])
theorem qmX11_keeps_ok : QMK qmX11_keeps := qmk_of 1706 (by decide +kernel)
def qmX11_isAgain : QMeth := (11, yX11_isAgain, cX11_isAgain, 2, none, [(0, .iconst 0, 1), (1, .istore_n 1, 1), (2, .iload_n 1, 1), (3, .sipush 311, 3), (6, .if_icmp .ge 24, 3), (9, .aload_n 0, 1), (10, .getfield 13, 3), (13, .bipush 52, 2), (15, .iload_n 1, 1), (16, .iadd, 1), (17, .aload_n 0, 1), (18, .getfield 36, 3), (21, .iload_n 1, 1), (22, .iaload, 1), (23, .iastore, 1), (24, .iinc 1 1, 3), (27, .goto (-25), 3), (30, .return_, 1)])
theorem qmX11_isAgain_ok : QMK qmX11_isAgain := qmk_of 1814 (by decide +kernel)
def qmX11_notes : QMeth := (11, yX11_notes, cX11_notes, 2, none, [(0, .aload_n 0, 1), (1, .getfield 13, 3), (4, .sipush 363, 3), (7, .iaload, 1), (8, .bipush 10, 2), (10, .if_icmp .ne 50, 3), (13, .iconst 0, 1), (14, .istore_n 1, 1), (15, .iload_n 1, 1), (16, .sipush 2799, 3), (19, .if_icmp .ge 29, 3), (22, .aload_n 0, 1), (23, .getfield 13, 3), (26, .sipush 364, 3), (29, .iload_n 1, 1), (30, .iadd, 1), (31, .aload_n 0, 1), (32, .getfield 13, 3), (35, .sipush 675, 3), (38, .iload_n 1, 1), (39, .iadd, 1), (40, .iaload, 1), (41, .iastore, 1), (42, .iinc 1 1, 3), (45, .goto (-30), 3), (48, .aload_n 0, 1), (49, .getfield 13, 3), (52, .sipush 363, 3), (55, .dup2, 1), (56, .iaload, 1), (57, .iconst 1, 1), (58, .isub, 1), (59, .iastore, 1), (60, .iconst 0, 1), (61, .istore_n 1, 1), (62, .iload_n 1, 1), (63, .sipush 311, 3), (66, .if_icmp .ge 38, 3), (69, .aload_n 0, 1), (70, .getfield 13, 3), (73, .sipush 364, 3), (76, .sipush 311, 3), (79, .aload_n 0, 1), (80, .getfield 13, 3), (83, .sipush 363, 3), (86, .iaload, 1), (87, .imul, 1), (88, .iadd, 1), (89, .iload_n 1, 1), (90, .iadd, 1), (91, .aload_n 0, 1), (92, .getfield 36, 3), (95, .iload_n 1, 1), (96, .iaload, 1), (97, .iastore, 1), (98, .iinc 1 1, 3), (101, .goto (-39), 3), (104, .aload_n 0, 1), (105, .getfield 13, 3), (108, .sipush 363, 3), (111, .dup2, 1), (112, .iaload, 1), (113, .iconst 1, 1), (114, .iadd, 1), (115, .iastore, 1), (116, .return_, 1)])
theorem qmX11_notes_ok : QMK qmX11_notes := qmk_of 1714 (by decide +kernel)
def qmX11_whyLay : QMeth := (11, yX11_whyLay, cX11_whyLay, 7, (some .int), [(0, .aload_n 0, 1), (1, .lload_n 1, 1), (2, .invokevirtual 228, 3), (5, .ifCond .eq 14, 3), (8, .lload_n 3, 1), (9, .lconst 1, 1), (10, .ldc2_w 243, 3), (13, .invokestatic 133, 3), (16, .ifCond .ne 5, 3), (19, .iconst 1, 1), (20, .ireturn, 1), (21, .lload_n 1, 1), (22, .l2i, 1), (23, .istore 5, 2), (25, .aload_n 0, 1), (26, .aload_n 0, 1), (27, .iload 5, 2), (29, .invokevirtual 231, 3), (32, .lload_n 3, 1), (33, .l2i, 1), (34, .invokevirtual 245, 3), (37, .istore 6, 2), (39, .iload 6, 2), (41, .iconst (-1), 1), (42, .if_icmp .eq 29, 3), (45, .aload_n 0, 1), (46, .iload 5, 2), (48, .iload 6, 2), (50, .invokevirtual 248, 3), (53, .ifCond .eq 18, 3), (56, .aload_n 0, 1), (57, .getfield 13, 3), (60, .bipush 60, 2), (62, .iload 5, 2), (64, .iadd, 1), (65, .iaload, 1), (66, .bipush 16, 2), (68, .if_icmp .ne 5, 3), (71, .iconst 2, 1), (72, .ireturn, 1), (73, .aload_n 0, 1), (74, .iload 5, 2), (76, .iload 6, 2), (78, .invokevirtual 252, 3), (81, .ifCond .ne 5, 3), (84, .iconst 3, 1), (85, .ireturn, 1), (86, .aload_n 0, 1), (87, .getfield 13, 3), (90, .bipush 54, 2), (92, .iload 5, 2), (94, .iadd, 1), (95, .iaload, 1), (96, .aload_n 0, 1), (97, .iload 5, 2), (99, .iload 6, 2), (101, .invokevirtual 240, 3), (104, .if_icmp .ge 7, 3), (107, .iconst 4, 1), (108, .goto 4, 3), (111, .iconst 0, 1), (112, .ireturn, 1)])
theorem qmX11_whyLay_ok : QMK qmX11_whyLay := qmk_of 1685 (by decide +kernel)
def qmX11_lays : QMeth := (11, yX11_lays, cX11_lays, 7, none, [(0, .aload_n 0, 1), (1, .aload_n 0, 1), (2, .iload_n 1, 1), (3, .invokevirtual 231, 3), (6, .iload_n 2, 1), (7, .invokevirtual 245, 3), (10, .istore 4, 2), (12, .aload_n 0, 1), (13, .iload_n 1, 1), (14, .iload 4, 2), (16, .invokevirtual 240, 3), (19, .istore 5, 2), (21, .bipush 16, 2), (23, .iload_n 1, 1), (24, .imul, 1), (25, .aload_n 0, 1), (26, .getfield 13, 3), (29, .bipush 60, 2), (31, .iload_n 1, 1), (32, .iadd, 1), (33, .iaload, 1), (34, .iadd, 1), (35, .istore 6, 2), (37, .aload_n 0, 1), (38, .getfield 13, 3), (41, .bipush 66, 2), (43, .iload 6, 2), (45, .iadd, 1), (46, .iload 4, 2), (48, .iastore, 1), (49, .aload_n 0, 1), (50, .getfield 13, 3), (53, .sipush 162, 3), (56, .iload 6, 2), (58, .iadd, 1), (59, .iload 5, 2), (61, .iastore, 1), (62, .aload_n 0, 1), (63, .getfield 13, 3), (66, .bipush 54, 2), (68, .iload_n 1, 1), (69, .iadd, 1), (70, .dup2, 1), (71, .iaload, 1), (72, .iload 5, 2), (74, .isub, 1), (75, .iastore, 1), (76, .aload_n 0, 1), (77, .getfield 13, 3), (80, .bipush 60, 2), (82, .iload_n 1, 1), (83, .iadd, 1), (84, .dup2, 1), (85, .iaload, 1), (86, .iconst 1, 1), (87, .iadd, 1), (88, .iastore, 1), (89, .iload_n 3, 1), (90, .ifCond .ne 18, 3), (93, .aload_n 0, 1), (94, .getfield 13, 3), (97, .sipush 294, 3), (100, .iload 4, 2), (102, .iadd, 1), (103, .iaload, 1), (104, .iconst (-1), 1), (105, .if_icmp .ne 40, 3), (108, .aload_n 0, 1), (109, .getfield 13, 3), (112, .sipush 258, 3), (115, .iload 4, 2), (117, .iadd, 1), (118, .aload_n 0, 1), (119, .getfield 13, 3), (122, .sipush 294, 3), (125, .iload 4, 2), (127, .iadd, 1), (128, .iaload, 1), (129, .iastore, 1), (130, .aload_n 0, 1), (131, .getfield 13, 3), (134, .sipush 294, 3), (137, .iload 4, 2), (139, .iadd, 1), (140, .iload_n 1, 1), (141, .iastore, 1), (142, .goto 15, 3), (145, .aload_n 0, 1), (146, .getfield 13, 3), (149, .sipush 258, 3), (152, .iload 4, 2), (154, .iadd, 1), (155, .iload_n 1, 1), (156, .iastore, 1), (157, .return_, 1)])
theorem qmX11_lays_ok : QMK qmX11_lays := qmk_of 1710 (by decide +kernel)
def qmX11_takesOff : QMeth := (11, yX11_takesOff, cX11_takesOff, 4, none, [(0, .aload_n 0, 1), (1, .getfield 13, 3), (4, .bipush 60, 2), (6, .iload_n 1, 1), (7, .iadd, 1), (8, .dup2, 1), (9, .iaload, 1), (10, .iconst 1, 1), (11, .isub, 1), (12, .iastore, 1), (13, .bipush 16, 2), (15, .iload_n 1, 1), (16, .imul, 1), (17, .aload_n 0, 1), (18, .getfield 13, 3), (21, .bipush 60, 2), (23, .iload_n 1, 1), (24, .iadd, 1), (25, .iaload, 1), (26, .iadd, 1), (27, .istore_n 2, 1), (28, .aload_n 0, 1), (29, .getfield 13, 3), (32, .bipush 66, 2), (34, .iload_n 2, 1), (35, .iadd, 1), (36, .iaload, 1), (37, .istore_n 3, 1), (38, .aload_n 0, 1), (39, .getfield 13, 3), (42, .bipush 54, 2), (44, .iload_n 1, 1), (45, .iadd, 1), (46, .dup2, 1), (47, .iaload, 1), (48, .aload_n 0, 1), (49, .getfield 13, 3), (52, .sipush 162, 3), (55, .iload_n 2, 1), (56, .iadd, 1), (57, .iaload, 1), (58, .iadd, 1), (59, .iastore, 1), (60, .aload_n 0, 1), (61, .getfield 13, 3), (64, .sipush 294, 3), (67, .iload_n 3, 1), (68, .iadd, 1), (69, .iaload, 1), (70, .iload_n 1, 1), (71, .if_icmp .ne 23, 3), (74, .aload_n 0, 1), (75, .getfield 13, 3), (78, .sipush 294, 3), (81, .iload_n 3, 1), (82, .iadd, 1), (83, .aload_n 0, 1), (84, .getfield 13, 3), (87, .sipush 258, 3), (90, .iload_n 3, 1), (91, .iadd, 1), (92, .iaload, 1), (93, .iastore, 1), (94, .aload_n 0, 1), (95, .getfield 13, 3), (98, .sipush 258, 3), (101, .iload_n 3, 1), (102, .iadd, 1), (103, .iconst (-1), 1), (104, .iastore, 1), (105, .aload_n 0, 1), (106, .getfield 13, 3), (109, .bipush 66, 2), (111, .iload_n 2, 1), (112, .iadd, 1), (113, .iconst 0, 1), (114, .iastore, 1), (115, .aload_n 0, 1), (116, .getfield 13, 3), (119, .sipush 162, 3), (122, .iload_n 2, 1), (123, .iadd, 1), (124, .iconst 0, 1), (125, .iastore, 1), (126, .return_, 1)])
theorem qmX11_takesOff_ok : QMK qmX11_takesOff := qmk_of 1726 (by decide +kernel)
def qmX11_whyBack : QMeth := (11, yX11_whyBack, cX11_whyBack, 6, (some .int), [(0, .aload_n 0, 1), (1, .lload_n 1, 1), (2, .invokevirtual 228, 3), (5, .ifCond .ne 5, 3), (8, .iconst 1, 1), (9, .ireturn, 1), (10, .lload_n 1, 1), (11, .l2i, 1), (12, .istore_n 3, 1), (13, .aload_n 0, 1), (14, .getfield 13, 3), (17, .bipush 60, 2), (19, .iload_n 3, 1), (20, .iadd, 1), (21, .iaload, 1), (22, .ifCond .ne 5, 3), (25, .iconst 2, 1), (26, .ireturn, 1), (27, .aload_n 0, 1), (28, .iload_n 3, 1), (29, .invokevirtual 231, 3), (32, .istore 4, 2), (34, .aload_n 0, 1), (35, .getfield 13, 3), (38, .sipush 294, 3), (41, .iload 4, 2), (43, .iadd, 1), (44, .iaload, 1), (45, .iload_n 3, 1), (46, .if_icmp .eq 5, 3), (49, .iconst 3, 1), (50, .ireturn, 1), (51, .aload_n 0, 1), (52, .iload 4, 2), (54, .invokevirtual 225, 3), (57, .istore 5, 2), (59, .iload 5, 2), (61, .iconst (-1), 1), (62, .if_icmp .eq 22, 3), (65, .aload_n 0, 1), (66, .getfield 13, 3), (69, .sipush 331, 3), (72, .iload 5, 2), (74, .iadd, 1), (75, .iaload, 1), (76, .iload_n 3, 1), (77, .if_icmp .ne 7, 3), (80, .iconst 4, 1), (81, .goto 4, 3), (84, .iconst 0, 1), (85, .ireturn, 1)])
theorem qmX11_whyBack_ok : QMK qmX11_whyBack := qmk_of 1722 (by decide +kernel)
def qmX11_whyIn : QMeth := (11, yX11_whyIn, cX11_whyIn, 5, (some .int), [(0, .aload_n 0, 1), (1, .lload_n 1, 1), (2, .invokevirtual 228, 3), (5, .ifCond .ne 5, 3), (8, .iconst 1, 1), (9, .ireturn, 1), (10, .lload_n 1, 1), (11, .l2i, 1), (12, .istore_n 3, 1), (13, .aload_n 0, 1), (14, .getfield 13, 3), (17, .bipush 60, 2), (19, .iload_n 3, 1), (20, .iadd, 1), (21, .iaload, 1), (22, .ifCond .ne 5, 3), (25, .iconst 2, 1), (26, .ireturn, 1), (27, .iconst 0, 1), (28, .istore 4, 2), (30, .iload 4, 2), (32, .aload_n 0, 1), (33, .getfield 13, 3), (36, .bipush 60, 2), (38, .iload_n 3, 1), (39, .iadd, 1), (40, .iaload, 1), (41, .if_icmp .ge 39, 3), (44, .aload_n 0, 1), (45, .getfield 13, 3), (48, .sipush 294, 3), (51, .aload_n 0, 1), (52, .getfield 13, 3), (55, .bipush 66, 2), (57, .bipush 16, 2), (59, .iload_n 3, 1), (60, .imul, 1), (61, .iadd, 1), (62, .iload 4, 2), (64, .iadd, 1), (65, .iaload, 1), (66, .iadd, 1), (67, .iaload, 1), (68, .iload_n 3, 1), (69, .if_icmp .eq 5, 3), (72, .iconst 3, 1), (73, .ireturn, 1), (74, .iinc 4 1, 3), (77, .goto (-47), 3), (80, .iconst 0, 1), (81, .istore 4, 2), (83, .iload 4, 2), (85, .aload_n 0, 1), (86, .getfield 13, 3), (89, .sipush 330, 3), (92, .iaload, 1), (93, .if_icmp .ge 40, 3), (96, .aload_n 0, 1), (97, .getfield 13, 3), (100, .sipush 331, 3), (103, .iload 4, 2), (105, .iadd, 1), (106, .iaload, 1), (107, .iload_n 3, 1), (108, .if_icmp .ne 19, 3), (111, .aload_n 0, 1), (112, .getfield 13, 3), (115, .sipush 347, 3), (118, .iload 4, 2), (120, .iadd, 1), (121, .iaload, 1), (122, .ifCond .ne 5, 3), (125, .iconst 4, 1), (126, .ireturn, 1), (127, .iinc 4 1, 3), (130, .goto (-47), 3), (133, .iconst 0, 1), (134, .ireturn, 1)])
theorem qmX11_whyIn_ok : QMK qmX11_whyIn := qmk_of 1734 (by decide +kernel)
def qmX11_whyOut : QMeth := (11, yX11_whyOut, cX11_whyOut, 3, (some .int), [(0, .aload_n 0, 1), (1, .lload_n 1, 1), (2, .invokevirtual 228, 3), (5, .ifCond .ne 5, 3), (8, .iconst 1, 1), (9, .ireturn, 1), (10, .aload_n 0, 1), (11, .getfield 13, 3), (14, .bipush 60, 2), (16, .lload_n 1, 1), (17, .l2i, 1), (18, .iadd, 1), (19, .iaload, 1), (20, .ifCond .ne 7, 3), (23, .iconst 2, 1), (24, .goto 21, 3), (27, .aload_n 0, 1), (28, .getfield 13, 3), (31, .sipush 330, 3), (34, .iaload, 1), (35, .bipush 8, 2), (37, .if_icmp .ne 7, 3), (40, .iconst 3, 1), (41, .goto 4, 3), (44, .iconst 0, 1), (45, .ireturn, 1)])
theorem qmX11_whyOut_ok : QMK qmX11_whyOut := qmk_of 1746 (by decide +kernel)
def qmX11_setsOut : QMeth := (11, yX11_setsOut, cX11_setsOut, 3, none, [(0, .aload_n 0, 1), (1, .getfield 13, 3), (4, .sipush 330, 3), (7, .iaload, 1), (8, .istore_n 2, 1), (9, .aload_n 0, 1), (10, .getfield 13, 3), (13, .sipush 330, 3), (16, .dup2, 1), (17, .iaload, 1), (18, .iconst 1, 1), (19, .iadd, 1), (20, .iastore, 1), (21, .aload_n 0, 1), (22, .getfield 13, 3), (25, .sipush 331, 3), (28, .iload_n 2, 1), (29, .iadd, 1), (30, .iload_n 1, 1), (31, .iastore, 1), (32, .aload_n 0, 1), (33, .getfield 13, 3), (36, .sipush 339, 3), (39, .iload_n 2, 1), (40, .iadd, 1), (41, .iconst (-1), 1), (42, .iastore, 1), (43, .aload_n 0, 1), (44, .getfield 13, 3), (47, .sipush 347, 3), (50, .iload_n 2, 1), (51, .iadd, 1), (52, .iconst 0, 1), (53, .iastore, 1), (54, .aload_n 0, 1), (55, .getfield 13, 3), (58, .sipush 355, 3), (61, .iload_n 2, 1), (62, .iadd, 1), (63, .iconst 0, 1), (64, .iastore, 1), (65, .return_, 1)])
theorem qmX11_setsOut_ok : QMK qmX11_setsOut := qmk_of 1750 (by decide +kernel)
def qmX11_takesAll : QMeth := (11, yX11_takesAll, cX11_takesAll, 2, none, [(0, .aload_n 0, 1), (1, .getfield 13, 3), (4, .bipush 60, 2), (6, .iload_n 1, 1), (7, .iadd, 1), (8, .iaload, 1), (9, .ifCond .le 11, 3), (12, .aload_n 0, 1), (13, .iload_n 1, 1), (14, .invokevirtual 255, 3), (17, .goto (-17), 3), (20, .return_, 1)])
theorem qmX11_takesAll_ok : QMK qmX11_takesAll := qmk_of 1738 (by decide +kernel)
def qmX11_why : QMeth := (11, yX11_why, cX11_why, 3, (some .int), [(0, .aload_n 0, 1), (1, .iconst 0, 1), (2, .putfield 1, 3), (5, .aload_n 0, 1), (6, .iload_n 1, 1), (7, .i2l, 1), (8, .iload_n 2, 1), (9, .i2l, 1), (10, .invokevirtual 258, 3), (13, .ireturn, 1)])
theorem qmX11_why_ok : QMK qmX11_why := qmk_of 1681 (by decide +kernel)
def qmX11_lay : QMeth := (11, yX11_lay, cX11_lay, 5, (some .int), [(0, .aload_n 0, 1), (1, .iconst 0, 1), (2, .putfield 1, 3), (5, .aload_n 0, 1), (6, .iload_n 1, 1), (7, .i2l, 1), (8, .iload_n 2, 1), (9, .i2l, 1), (10, .invokevirtual 258, 3), (13, .istore 4, 2), (15, .iload 4, 2), (17, .ifCond .eq 9, 3), (20, .bipush (-10), 2), (22, .iload 4, 2), (24, .isub, 1), (25, .ireturn, 1), (26, .aload_n 0, 1), (27, .invokevirtual 262, 3), (30, .aload_n 0, 1), (31, .iload_n 1, 1), (32, .iload_n 2, 1), (33, .iload_n 3, 1), (34, .invokevirtual 265, 3), (37, .aload_n 0, 1), (38, .invokevirtual 269, 3), (41, .aload_n 0, 1), (42, .getfield 13, 3), (45, .bipush 54, 2), (47, .iload_n 1, 1), (48, .iadd, 1), (49, .iaload, 1), (50, .ireturn, 1)])
theorem qmX11_lay_ok : QMK qmX11_lay := qmk_of 1702 (by decide +kernel)
def qmX11_back : QMeth := (11, yX11_back, cX11_back, 3, (some .int), [(0, .aload_n 0, 1), (1, .iconst 0, 1), (2, .putfield 1, 3), (5, .aload_n 0, 1), (6, .iload_n 1, 1), (7, .i2l, 1), (8, .invokevirtual 272, 3), (11, .istore_n 2, 1), (12, .iload_n 2, 1), (13, .ifCond .eq 8, 3), (16, .bipush (-10), 2), (18, .iload_n 2, 1), (19, .isub, 1), (20, .ireturn, 1), (21, .aload_n 0, 1), (22, .invokevirtual 262, 3), (25, .aload_n 0, 1), (26, .iload_n 1, 1), (27, .invokevirtual 255, 3), (30, .aload_n 0, 1), (31, .invokevirtual 269, 3), (34, .aload_n 0, 1), (35, .getfield 13, 3), (38, .bipush 54, 2), (40, .iload_n 1, 1), (41, .iadd, 1), (42, .iaload, 1), (43, .ireturn, 1)])
theorem qmX11_back_ok : QMK qmX11_back := qmk_of 1718 (by decide +kernel)
def qmX11_takeIn : QMeth := (11, yX11_takeIn, cX11_takeIn, 3, (some .int), [(0, .aload_n 0, 1), (1, .iconst 0, 1), (2, .putfield 1, 3), (5, .aload_n 0, 1), (6, .iload_n 1, 1), (7, .i2l, 1), (8, .invokevirtual 276, 3), (11, .istore_n 2, 1), (12, .iload_n 2, 1), (13, .ifCond .eq 8, 3), (16, .bipush (-10), 2), (18, .iload_n 2, 1), (19, .isub, 1), (20, .ireturn, 1), (21, .aload_n 0, 1), (22, .invokevirtual 262, 3), (25, .aload_n 0, 1), (26, .iload_n 1, 1), (27, .invokevirtual 279, 3), (30, .aload_n 0, 1), (31, .invokevirtual 269, 3), (34, .aload_n 0, 1), (35, .getfield 13, 3), (38, .bipush 54, 2), (40, .iload_n 1, 1), (41, .iadd, 1), (42, .iaload, 1), (43, .ireturn, 1)])
theorem qmX11_takeIn_ok : QMK qmX11_takeIn := qmk_of 1730 (by decide +kernel)
def qmX11_setOut : QMeth := (11, yX11_setOut, cX11_setOut, 3, (some .int), [(0, .aload_n 0, 1), (1, .iconst 0, 1), (2, .putfield 1, 3), (5, .aload_n 0, 1), (6, .iload_n 1, 1), (7, .i2l, 1), (8, .invokevirtual 282, 3), (11, .istore_n 2, 1), (12, .iload_n 2, 1), (13, .ifCond .eq 8, 3), (16, .bipush (-10), 2), (18, .iload_n 2, 1), (19, .isub, 1), (20, .ireturn, 1), (21, .aload_n 0, 1), (22, .invokevirtual 262, 3), (25, .aload_n 0, 1), (26, .iload_n 1, 1), (27, .invokevirtual 285, 3), (30, .aload_n 0, 1), (31, .invokevirtual 269, 3), (34, .aload_n 0, 1), (35, .getfield 13, 3), (38, .sipush 330, 3), (41, .iaload, 1), (42, .iconst 1, 1), (43, .isub, 1), (44, .ireturn, 1)])
theorem qmX11_setOut_ok : QMK qmX11_setOut := qmk_of 1742 (by decide +kernel)
def qmX11_turn : QMeth := (11, yX11_turn, cX11_turn, 3, (some .int), [(0, .aload_n 0, 1), (1, .iconst 0, 1), (2, .putfield 1, 3), (5, .aload_n 0, 1), (6, .iload_n 1, 1), (7, .i2l, 1), (8, .invokevirtual 221, 3), (11, .ifCond .ne 6, 3), (14, .bipush (-2), 2), (16, .ireturn, 1), (17, .aload_n 0, 1), (18, .iload_n 1, 1), (19, .invokevirtual 205, 3), (22, .iconst 2, 1), (23, .if_icmp .ge 6, 3), (26, .bipush (-5), 2), (28, .ireturn, 1), (29, .aload_n 0, 1), (30, .invokevirtual 262, 3), (33, .aload_n 0, 1), (34, .getfield 13, 3), (37, .sipush 258, 3), (40, .iload_n 1, 1), (41, .iadd, 1), (42, .iaload, 1), (43, .istore_n 2, 1), (44, .aload_n 0, 1), (45, .getfield 13, 3), (48, .sipush 258, 3), (51, .iload_n 1, 1), (52, .iadd, 1), (53, .aload_n 0, 1), (54, .getfield 13, 3), (57, .sipush 294, 3), (60, .iload_n 1, 1), (61, .iadd, 1), (62, .iaload, 1), (63, .iastore, 1), (64, .aload_n 0, 1), (65, .getfield 13, 3), (68, .sipush 294, 3), (71, .iload_n 1, 1), (72, .iadd, 1), (73, .iload_n 2, 1), (74, .iastore, 1), (75, .aload_n 0, 1), (76, .invokevirtual 269, 3), (79, .iload_n 2, 1), (80, .ireturn, 1)])
theorem qmX11_turn_ok : QMK qmX11_turn := qmk_of 1754 (by decide +kernel)
def qmX11_rain : QMeth := (11, yX11_rain, cX11_rain, 2, (some .int), [(0, .aload_n 0, 1), (1, .iconst 0, 1), (2, .putfield 1, 3), (5, .iload_n 1, 1), (6, .i2l, 1), (7, .lconst 0, 1), (8, .ldc2_w 288, 3), (11, .invokestatic 133, 3), (14, .ifCond .ne 6, 3), (17, .bipush (-3), 2), (19, .ireturn, 1), (20, .aload_n 0, 1), (21, .invokevirtual 262, 3), (24, .aload_n 0, 1), (25, .getfield 13, 3), (28, .bipush 52, 2), (30, .iload_n 1, 1), (31, .iastore, 1), (32, .aload_n 0, 1), (33, .invokevirtual 269, 3), (36, .aload_n 0, 1), (37, .getfield 36, 3), (40, .iconst 0, 1), (41, .iaload, 1), (42, .ireturn, 1)])
theorem qmX11_rain_ok : QMK qmX11_rain := qmk_of 1758 (by decide +kernel)
def qmX11_goes : QMeth := (11, yX11_goes, cX11_goes, 5, (some .boolean), [(0, .aload_n 0, 1), (1, .getfield 13, 3), (4, .sipush 331, 3), (7, .iload_n 1, 1), (8, .iadd, 1), (9, .iaload, 1), (10, .istore_n 2, 1), (11, .aload_n 0, 1), (12, .getfield 13, 3), (15, .sipush 339, 3), (18, .iload_n 1, 1), (19, .iadd, 1), (20, .iaload, 1), (21, .iconst 1, 1), (22, .iadd, 1), (23, .istore_n 3, 1), (24, .iload_n 3, 1), (25, .aload_n 0, 1), (26, .getfield 13, 3), (29, .bipush 60, 2), (31, .iload_n 2, 1), (32, .iadd, 1), (33, .iaload, 1), (34, .if_icmp .ge 29, 3), (37, .aload_n 0, 1), (38, .aload_n 0, 1), (39, .getfield 13, 3), (42, .bipush 66, 2), (44, .bipush 16, 2), (46, .iload_n 2, 1), (47, .imul, 1), (48, .iadd, 1), (49, .iload_n 3, 1), (50, .iadd, 1), (51, .iaload, 1), (52, .invokevirtual 225, 3), (55, .iconst (-1), 1), (56, .if_icmp .ne 7, 3), (59, .iconst 1, 1), (60, .goto 4, 3), (63, .iconst 0, 1), (64, .istore 4, 2), (66, .iload 4, 2), (68, .ifCond .eq 14, 3), (71, .aload_n 0, 1), (72, .getfield 13, 3), (75, .sipush 339, 3), (78, .iload_n 1, 1), (79, .iadd, 1), (80, .iload_n 3, 1), (81, .iastore, 1), (82, .aload_n 0, 1), (83, .getfield 13, 3), (86, .sipush 339, 3), (89, .iload_n 1, 1), (90, .iadd, 1), (91, .iaload, 1), (92, .ifCond .lt 41, 3), (95, .aload_n 0, 1), (96, .getfield 13, 3), (99, .sipush 339, 3), (102, .iload_n 1, 1), (103, .iadd, 1), (104, .iaload, 1), (105, .aload_n 0, 1), (106, .getfield 13, 3), (109, .bipush 60, 2), (111, .iload_n 2, 1), (112, .iadd, 1), (113, .iaload, 1), (114, .iconst 1, 1), (115, .isub, 1), (116, .if_icmp .ne 17, 3), (119, .aload_n 0, 1), (120, .getfield 13, 3), (123, .sipush 347, 3), (126, .iload_n 1, 1), (127, .iadd, 1), (128, .iconst 1, 1), (129, .iastore, 1), (130, .goto 22, 3), (133, .iload 4, 2), (135, .ifCond .ne 17, 3), (138, .aload_n 0, 1), (139, .getfield 13, 3), (142, .sipush 355, 3), (145, .iload_n 1, 1), (146, .iadd, 1), (147, .dup2, 1), (148, .iaload, 1), (149, .iconst 1, 1), (150, .iadd, 1), (151, .iastore, 1), (152, .aload_n 0, 1), (153, .getfield 13, 3), (156, .sipush 347, 3), (159, .iload_n 1, 1), (160, .iadd, 1), (161, .iaload, 1), (162, .iconst 1, 1), (163, .if_icmp .ne 7, 3), (166, .iconst 1, 1), (167, .goto 4, 3), (170, .iconst 0, 1), (171, .ireturn, 1)])
theorem qmX11_goes_ok : QMK qmX11_goes := qmk_of 1772 (by decide +kernel)
def qmX11_goesHour : QMeth := (11, yX11_goesHour, cX11_goesHour, 3, (some .int), [(0, .iconst 0, 1), (1, .istore_n 1, 1), (2, .iconst 0, 1), (3, .istore_n 2, 1), (4, .iload_n 2, 1), (5, .aload_n 0, 1), (6, .getfield 13, 3), (9, .sipush 330, 3), (12, .iaload, 1), (13, .if_icmp .ge 33, 3), (16, .aload_n 0, 1), (17, .getfield 13, 3), (20, .sipush 347, 3), (23, .iload_n 2, 1), (24, .iadd, 1), (25, .iaload, 1), (26, .ifCond .ne 14, 3), (29, .aload_n 0, 1), (30, .iload_n 2, 1), (31, .invokevirtual 290, 3), (34, .ifCond .eq 6, 3), (37, .iinc 1 1, 3), (40, .iinc 2 1, 3), (43, .goto (-39), 3), (46, .aload_n 0, 1), (47, .getfield 13, 3), (50, .bipush 53, 2), (52, .dup2, 1), (53, .iaload, 1), (54, .iconst 1, 1), (55, .iadd, 1), (56, .iastore, 1), (57, .iload_n 1, 1), (58, .ireturn, 1)])
theorem qmX11_goesHour_ok : QMK qmX11_goesHour := qmk_of 1768 (by decide +kernel)
def qmX11_hours : QMeth := (11, yX11_hours, cX11_hours, 4, (some .int), [(0, .aload_n 0, 1), (1, .iconst 0, 1), (2, .putfield 1, 3), (5, .iload_n 1, 1), (6, .i2l, 1), (7, .lconst 1, 1), (8, .ldc2_w 293, 3), (11, .invokestatic 133, 3), (14, .ifCond .ne 6, 3), (17, .bipush (-3), 2), (19, .ireturn, 1), (20, .aload_n 0, 1), (21, .invokevirtual 262, 3), (24, .iconst 0, 1), (25, .istore_n 2, 1), (26, .iconst 0, 1), (27, .istore_n 3, 1), (28, .iload_n 3, 1), (29, .iload_n 1, 1), (30, .if_icmp .ge 16, 3), (33, .iload_n 2, 1), (34, .aload_n 0, 1), (35, .invokevirtual 295, 3), (38, .iadd, 1), (39, .istore_n 2, 1), (40, .iinc 3 1, 3), (43, .goto (-15), 3), (46, .aload_n 0, 1), (47, .invokevirtual 269, 3), (50, .iload_n 2, 1), (51, .ireturn, 1)])
theorem qmX11_hours_ok : QMK qmX11_hours := qmk_of 1763 (by decide +kernel)
def qmX11_undo : QMeth := (11, yX11_undo, cX11_undo, 3, (some .int), [(0, .aload_n 0, 1), (1, .iconst 0, 1), (2, .putfield 1, 3), (5, .iload_n 1, 1), (6, .i2l, 1), (7, .lconst 1, 1), (8, .ldc2_w 298, 3), (11, .invokestatic 133, 3), (14, .ifCond .eq 15, 3), (17, .iload_n 1, 1), (18, .aload_n 0, 1), (19, .getfield 13, 3), (22, .sipush 363, 3), (25, .iaload, 1), (26, .if_icmp .le 6, 3), (29, .bipush (-3), 2), (31, .ireturn, 1), (32, .aload_n 0, 1), (33, .getfield 13, 3), (36, .sipush 363, 3), (39, .dup2, 1), (40, .iaload, 1), (41, .iload_n 1, 1), (42, .isub, 1), (43, .iastore, 1), (44, .iconst 0, 1), (45, .istore_n 2, 1), (46, .iload_n 2, 1), (47, .sipush 311, 3), (50, .if_icmp .ge 41, 3), (53, .aload_n 0, 1), (54, .getfield 13, 3), (57, .bipush 52, 2), (59, .iload_n 2, 1), (60, .iadd, 1), (61, .aload_n 0, 1), (62, .getfield 13, 3), (65, .sipush 364, 3), (68, .sipush 311, 3), (71, .aload_n 0, 1), (72, .getfield 13, 3), (75, .sipush 363, 3), (78, .iaload, 1), (79, .imul, 1), (80, .iadd, 1), (81, .iload_n 2, 1), (82, .iadd, 1), (83, .iaload, 1), (84, .iastore, 1), (85, .iinc 2 1, 3), (88, .goto (-42), 3), (91, .aload_n 0, 1), (92, .getfield 13, 3), (95, .sipush 363, 3), (98, .iaload, 1), (99, .ireturn, 1)])
theorem qmX11_undo_ok : QMK qmX11_undo := qmk_of 1776 (by decide +kernel)
def qmX11_whyNot : QMeth := (11, yX11_whyNot, cX11_whyNot, 3, (some .int), [(0, .lload_n 1, 1), (1, .ldc2_w 300, 3), (4, .lcmp, 1), (5, .ifCond .ne 5, 3), (8, .iconst 0, 1), (9, .ireturn, 1), (10, .lload_n 1, 1), (11, .lconst 0, 1), (12, .ldc2_w 302, 3), (15, .invokestatic 133, 3), (18, .ifCond .eq 50, 3), (21, .lload_n 1, 1), (22, .ldc2_w 304, 3), (25, .ldiv, 1), (26, .ldc2_w 298, 3), (29, .lrem, 1), (30, .lconst 0, 1), (31, .lcmp, 1), (32, .ifCond .ne 17, 3), (35, .lload_n 1, 1), (36, .ldc2_w 298, 3), (39, .ldiv, 1), (40, .ldc2_w 298, 3), (43, .lrem, 1), (44, .lconst 1, 1), (45, .lcmp, 1), (46, .ifCond .le 7, 3), (49, .iconst 1, 1), (50, .goto 17, 3), (53, .aload_n 0, 1), (54, .lload_n 1, 1), (55, .ldc2_w 306, 3), (58, .ldiv, 1), (59, .lload_n 1, 1), (60, .ldc2_w 298, 3), (63, .lrem, 1), (64, .invokevirtual 258, 3), (67, .ireturn, 1), (68, .lload_n 1, 1), (69, .ldc2_w 308, 3), (72, .ldc2_w 310, 3), (75, .invokestatic 133, 3), (78, .ifCond .eq 13, 3), (81, .aload_n 0, 1), (82, .lload_n 1, 1), (83, .ldc2_w 308, 3), (86, .lsub, 1), (87, .invokevirtual 272, 3), (90, .ireturn, 1), (91, .lload_n 1, 1), (92, .ldc2_w 312, 3), (95, .ldc2_w 314, 3), (98, .invokestatic 133, 3), (101, .ifCond .eq 13, 3), (104, .aload_n 0, 1), (105, .lload_n 1, 1), (106, .ldc2_w 312, 3), (109, .lsub, 1), (110, .invokevirtual 276, 3), (113, .ireturn, 1), (114, .lload_n 1, 1), (115, .ldc2_w 316, 3), (118, .ldc2_w 318, 3), (121, .invokestatic 133, 3), (124, .ifCond .eq 13, 3), (127, .aload_n 0, 1), (128, .lload_n 1, 1), (129, .ldc2_w 316, 3), (132, .lsub, 1), (133, .invokevirtual 282, 3), (136, .ireturn, 1), (137, .lload_n 1, 1), (138, .ldc2_w 320, 3), (141, .ldc2_w 322, 3), (144, .invokestatic 133, 3), (147, .ifCond .eq 7, 3), (150, .iconst 0, 1), (151, .goto 4, 3), (154, .iconst 1, 1), (155, .ireturn, 1)])
theorem qmX11_whyNot_ok : QMK qmX11_whyNot := qmk_of 1794 (by decide +kernel)
def qmX11_does : QMeth := (11, yX11_does, cX11_does, 2, none, [(0, .iload_n 1, 1), (1, .iconst (-1), 1), (2, .if_icmp .ne 11, 3), (5, .aload_n 0, 1), (6, .invokevirtual 295, 3), (9, .pop, 1), (10, .goto 111, 3), (13, .iload_n 1, 1), (14, .sipush 6000, 3), (17, .if_icmp .ge 35, 3), (20, .aload_n 0, 1), (21, .iload_n 1, 1), (22, .sipush 1000, 3), (25, .idiv, 1), (26, .iload_n 1, 1), (27, .bipush 10, 2), (29, .irem, 1), (30, .iload_n 1, 1), (31, .bipush 10, 2), (33, .idiv, 1), (34, .bipush 10, 2), (36, .irem, 1), (37, .iconst 1, 1), (38, .if_icmp .ne 7, 3), (41, .iconst 1, 1), (42, .goto 4, 3), (45, .iconst 0, 1), (46, .invokevirtual 265, 3), (49, .goto 72, 3), (52, .iload_n 1, 1), (53, .sipush 7000, 3), (56, .if_icmp .ge 15, 3), (59, .aload_n 0, 1), (60, .iload_n 1, 1), (61, .sipush 6000, 3), (64, .isub, 1), (65, .invokevirtual 255, 3), (68, .goto 53, 3), (71, .iload_n 1, 1), (72, .sipush 8000, 3), (75, .if_icmp .ge 15, 3), (78, .aload_n 0, 1), (79, .iload_n 1, 1), (80, .sipush 7000, 3), (83, .isub, 1), (84, .invokevirtual 279, 3), (87, .goto 34, 3), (90, .iload_n 1, 1), (91, .sipush 9000, 3), (94, .if_icmp .ge 15, 3), (97, .aload_n 0, 1), (98, .iload_n 1, 1), (99, .sipush 8000, 3), (102, .isub, 1), (103, .invokevirtual 285, 3), (106, .goto 15, 3), (109, .aload_n 0, 1), (110, .getfield 13, 3), (113, .bipush 52, 2), (115, .iload_n 1, 1), (116, .sipush 9000, 3), (119, .isub, 1), (120, .iastore, 1), (121, .return_, 1)])
theorem qmX11_does_ok : QMK qmX11_does := qmk_of 1810 (by decide +kernel)
def qmX11_tells : QMeth := (11, yX11_tells, cX11_tells, 3, (some .int), [(0, .aload_n 0, 1), (1, .iconst 0, 1), (2, .putfield 324, 3), (5, .iconst 0, 1), (6, .istore_n 2, 1), (7, .iload_n 2, 1), (8, .aload_n 0, 1), (9, .getfield 61, 3), (12, .iload_n 1, 1), (13, .iaload, 1), (14, .if_icmp .ge 53, 3), (17, .aload_n 0, 1), (18, .aload_n 0, 1), (19, .aload_n 0, 1), (20, .getfield 64, 3), (23, .bipush 40, 2), (25, .iload_n 1, 1), (26, .imul, 1), (27, .iload_n 2, 1), (28, .iadd, 1), (29, .laload, 1), (30, .invokevirtual 327, 3), (33, .putfield 324, 3), (36, .aload_n 0, 1), (37, .getfield 324, 3), (40, .ifCond .eq 5, 3), (43, .iload_n 2, 1), (44, .ireturn, 1), (45, .aload_n 0, 1), (46, .aload_n 0, 1), (47, .getfield 64, 3), (50, .bipush 40, 2), (52, .iload_n 1, 1), (53, .imul, 1), (54, .iload_n 2, 1), (55, .iadd, 1), (56, .laload, 1), (57, .l2i, 1), (58, .invokevirtual 330, 3), (61, .iinc 2 1, 3), (64, .goto (-57), 3), (67, .aload_n 0, 1), (68, .getfield 61, 3), (71, .iload_n 1, 1), (72, .iaload, 1), (73, .ireturn, 1)])
theorem qmX11_tells_ok : QMK qmX11_tells := qmk_of 1790 (by decide +kernel)
end
section
def qmX11_noTray : QMeth := (11, yX11_noTray, cX11_noTray, 2, (some .int), [(0, .iload_n 1, 1), (1, .i2l, 1), (2, .lconst 0, 1), (3, .ldc2_w 333, 3), (6, .invokestatic 133, 3), (9, .ifCond .ne 8, 3), (12, .bipush (-2), 2), (14, .goto 19, 3), (17, .aload_n 0, 1), (18, .getfield 58, 3), (21, .iload_n 1, 1), (22, .iaload, 1), (23, .iconst (-1), 1), (24, .if_icmp .ne 8, 3), (27, .bipush (-6), 2), (29, .goto 4, 3), (32, .iconst 0, 1), (33, .ireturn, 1)])
theorem qmX11_noTray_ok : QMK qmX11_noTray := qmk_of 1786 (by decide +kernel)
def qmX11_judge : QMeth := (11, yX11_judge, cX11_judge, 7, (some .int), [(0, .aload_n 0, 1), (1, .iconst 0, 1), (2, .putfield 1, 3), (5, .iload_n 2, 1), (6, .i2l, 1), (7, .lconst 0, 1), (8, .ldc2_w 333, 3), (11, .invokestatic 133, 3), (14, .ifCond .ne 6, 3), (17, .bipush (-2), 2), (19, .ireturn, 1), (20, .aload_n 0, 1), (21, .iload_n 1, 1), (22, .invokevirtual 335, 3), (25, .istore_n 3, 1), (26, .iload_n 3, 1), (27, .ifCond .eq 5, 3), (30, .iload_n 3, 1), (31, .ireturn, 1), (32, .aload_n 0, 1), (33, .invokevirtual 262, 3), (36, .aload_n 0, 1), (37, .iload_n 1, 1), (38, .invokevirtual 338, 3), (41, .istore 4, 2), (43, .iconst 0, 1), (44, .istore 5, 2), (46, .iconst 0, 1), (47, .istore 6, 2), (49, .iload 6, 2), (51, .aload_n 0, 1), (52, .getfield 13, 3), (55, .iconst 3, 1), (56, .iaload, 1), (57, .if_icmp .ge 24, 3), (60, .iload 5, 2), (62, .aload_n 0, 1), (63, .getfield 13, 3), (66, .bipush 54, 2), (68, .iload 6, 2), (70, .iadd, 1), (71, .iaload, 1), (72, .iadd, 1), (73, .istore 5, 2), (75, .iinc 6 1, 3), (78, .goto (-29), 3), (81, .aload_n 0, 1), (82, .getfield 13, 3), (85, .bipush 53, 2), (87, .iaload, 1), (88, .istore 6, 2), (90, .aload_n 0, 1), (91, .invokevirtual 341, 3), (94, .iload_n 2, 1), (95, .ifCond .ne 19, 3), (98, .aload_n 0, 1), (99, .getfield 324, 3), (102, .ifCond .ne 7, 3), (105, .iconst (-1), 1), (106, .goto 32, 3), (109, .iload 4, 2), (111, .goto 27, 3), (114, .iload_n 2, 1), (115, .iconst 1, 1), (116, .if_icmp .ne 10, 3), (119, .aload_n 0, 1), (120, .getfield 324, 3), (123, .goto 15, 3), (126, .iload_n 2, 1), (127, .iconst 2, 1), (128, .if_icmp .ne 8, 3), (131, .iload 5, 2), (133, .goto 5, 3), (136, .iload 6, 2), (138, .ireturn, 1)])
theorem qmX11_judge_ok : QMK qmX11_judge := qmk_of 1781 (by decide +kernel)
def qmX11_perform : QMeth := (11, yX11_perform, cX11_perform, 4, (some .int), [(0, .aload_n 0, 1), (1, .iconst 0, 1), (2, .putfield 1, 3), (5, .aload_n 0, 1), (6, .iload_n 1, 1), (7, .invokevirtual 335, 3), (10, .istore_n 2, 1), (11, .iload_n 2, 1), (12, .ifCond .eq 5, 3), (15, .iload_n 2, 1), (16, .ireturn, 1), (17, .aload_n 0, 1), (18, .invokevirtual 262, 3), (21, .aload_n 0, 1), (22, .iload_n 1, 1), (23, .invokevirtual 338, 3), (26, .istore_n 3, 1), (27, .iload_n 3, 1), (28, .ifCond .le 7, 3), (31, .aload_n 0, 1), (32, .invokevirtual 269, 3), (35, .iload_n 3, 1), (36, .ireturn, 1)])
theorem qmX11_perform_ok : QMK qmX11_perform := qmk_of 1818 (by decide +kernel)
def qmX11_draw : QMeth := (11, yX11_draw, cX11_draw, 2, (some .int), [(0, .aload_n 0, 1), (1, .ldc_w 344, 3), (4, .aload_n 0, 1), (5, .getfield 345, 3), (8, .imul, 1), (9, .sipush 12345, 3), (12, .iadd, 1), (13, .putfield 345, 3), (16, .aload_n 0, 1), (17, .getfield 345, 3), (20, .bipush 16, 2), (22, .iushr, 1), (23, .iload_n 1, 1), (24, .irem, 1), (25, .ireturn, 1)])
theorem qmX11_draw_ok : QMK qmX11_draw := qmk_of 1831 (by decide +kernel)
def qmX11_drawn : QMeth := (11, yX11_drawn, cX11_drawn, 4, (some .int), [(0, .aload_n 0, 1), (1, .bipush 6, 2), (3, .invokevirtual 348, 3), (6, .istore_n 1, 1), (7, .iload_n 1, 1), (8, .iconst 3, 1), (9, .if_icmp .ne 5, 3), (12, .iconst (-1), 1), (13, .ireturn, 1), (14, .aload_n 0, 1), (15, .aload_n 0, 1), (16, .getfield 13, 3), (19, .iconst 3, 1), (20, .iaload, 1), (21, .invokevirtual 348, 3), (24, .istore_n 2, 1), (25, .iload_n 1, 1), (26, .iconst 3, 1), (27, .if_icmp .le 22, 3), (30, .iload_n 1, 1), (31, .iconst 4, 1), (32, .if_icmp .ne 11, 3), (35, .sipush 8000, 3), (38, .iload_n 2, 1), (39, .iadd, 1), (40, .goto 8, 3), (43, .sipush 7000, 3), (46, .iload_n 2, 1), (47, .iadd, 1), (48, .ireturn, 1), (49, .iconst 1, 1), (50, .aload_n 0, 1), (51, .iconst 4, 1), (52, .invokevirtual 348, 3), (55, .iadd, 1), (56, .istore_n 3, 1), (57, .sipush 1000, 3), (60, .iload_n 2, 1), (61, .imul, 1), (62, .bipush 10, 2), (64, .aload_n 0, 1), (65, .iconst 2, 1), (66, .invokevirtual 348, 3), (69, .imul, 1), (70, .iadd, 1), (71, .iload_n 3, 1), (72, .iadd, 1), (73, .ireturn, 1)])
theorem qmX11_drawn_ok : QMK qmX11_drawn := qmk_of 1827 (by decide +kernel)
def qmX11_season : QMeth := (11, yX11_season, cX11_season, 6, (some .int), [(0, .aload_n 0, 1), (1, .iconst 0, 1), (2, .putfield 1, 3), (5, .iload_n 2, 1), (6, .i2l, 1), (7, .lconst 1, 1), (8, .ldc2_w 351, 3), (11, .invokestatic 133, 3), (14, .ifCond .ne 6, 3), (17, .bipush (-3), 2), (19, .ireturn, 1), (20, .aload_n 0, 1), (21, .getfield 13, 3), (24, .iconst 3, 1), (25, .iaload, 1), (26, .ifCond .ne 6, 3), (29, .bipush (-5), 2), (31, .ireturn, 1), (32, .aload_n 0, 1), (33, .invokevirtual 262, 3), (36, .aload_n 0, 1), (37, .iload_n 1, 1), (38, .putfield 345, 3), (41, .iconst 0, 1), (42, .istore_n 3, 1), (43, .iconst 0, 1), (44, .istore 4, 2), (46, .iload 4, 2), (48, .iload_n 2, 1), (49, .if_icmp .ge 37, 3), (52, .aload_n 0, 1), (53, .invokevirtual 353, 3), (56, .istore 5, 2), (58, .aload_n 0, 1), (59, .iload 5, 2), (61, .i2l, 1), (62, .invokevirtual 327, 3), (65, .ifCond .eq 6, 3), (68, .goto 12, 3), (71, .aload_n 0, 1), (72, .iload 5, 2), (74, .invokevirtual 330, 3), (77, .iinc 3 1, 3), (80, .iinc 4 1, 3), (83, .goto (-37), 3), (86, .iload_n 3, 1), (87, .ifCond .le 7, 3), (90, .aload_n 0, 1), (91, .invokevirtual 269, 3), (94, .iload_n 3, 1), (95, .ireturn, 1)])
theorem qmX11_season_ok : QMK qmX11_season := qmk_of 1822 (by decide +kernel)
def qmX11_laysOpen : QMeth := (11, yX11_laysOpen, cX11_laysOpen, 4, none, [(0, .iconst 0, 1), (1, .istore_n 3, 1), (2, .iload_n 3, 1), (3, .aload_n 0, 1), (4, .invokevirtual 198, 3), (7, .if_icmp .ge 70, 3), (10, .aload_n 0, 1), (11, .getfield 42, 3), (14, .iload_n 3, 1), (15, .iload_n 3, 1), (16, .aload_n 0, 1), (17, .getfield 48, 3), (20, .if_icmp .eq 25, 3), (23, .aload_n 0, 1), (24, .iload_n 1, 1), (25, .iload_n 3, 1), (26, .invokevirtual 248, 3), (29, .ifCond .eq 16, 3), (32, .aload_n 0, 1), (33, .iload_n 1, 1), (34, .iload_n 3, 1), (35, .invokevirtual 252, 3), (38, .ifCond .eq 7, 3), (41, .iconst 1, 1), (42, .goto 4, 3), (45, .iconst 0, 1), (46, .bastore, 1), (47, .aload_n 0, 1), (48, .getfield 45, 3), (51, .iload_n 3, 1), (52, .iload_n 2, 1), (53, .ifCond .eq 12, 3), (56, .aload_n 0, 1), (57, .iload_n 1, 1), (58, .iload_n 3, 1), (59, .invokevirtual 240, 3), (62, .goto 8, 3), (65, .aload_n 0, 1), (66, .iload_n 3, 1), (67, .invokevirtual 205, 3), (70, .iastore, 1), (71, .iinc 3 1, 3), (74, .goto (-72), 3), (77, .return_, 1)])
theorem qmX11_laysOpen_ok : QMK qmX11_laysOpen := qmk_of 1849 (by decide +kernel)
def qmX11_leftOf : QMeth := (11, yX11_leftOf, cX11_leftOf, 2, (some .int), [(0, .bipush 16, 2), (2, .aload_n 0, 1), (3, .getfield 13, 3), (6, .bipush 60, 2), (8, .iload_n 1, 1), (9, .iadd, 1), (10, .iaload, 1), (11, .isub, 1), (12, .ireturn, 1)])
theorem qmX11_leftOf_ok : QMK qmX11_leftOf := qmk_of 1854 (by decide +kernel)
def qmX11_laysLeast : QMeth := (11, yX11_laysLeast, cX11_laysLeast, 10, none, [(0, .aload_n 0, 1), (1, .iload_n 1, 1), (2, .iload_n 3, 1), (3, .invokevirtual 356, 3), (6, .iconst 0, 1), (7, .istore 4, 2), (9, .iload 4, 2), (11, .bipush 36, 2), (13, .if_icmp .ge 29, 3), (16, .aload_n 0, 1), (17, .getfield 39, 3), (20, .iload 4, 2), (22, .iload 4, 2), (24, .iload_n 2, 1), (25, .if_icmp .ne 7, 3), (28, .iconst 0, 1), (29, .goto 6, 3), (32, .ldc_w 360, 3), (35, .iastore, 1), (36, .iinc 4 1, 3), (39, .goto (-30), 3), (42, .iconst 1, 1), (43, .istore 4, 2), (45, .iload 4, 2), (47, .aload_n 0, 1), (48, .iload_n 1, 1), (49, .invokevirtual 361, 3), (52, .if_icmp .gt 132, 3), (55, .iconst 0, 1), (56, .istore 5, 2), (58, .iload 5, 2), (60, .aload_n 0, 1), (61, .invokevirtual 198, 3), (64, .if_icmp .ge 114, 3), (67, .ldc_w 360, 3), (70, .istore 6, 2), (72, .iconst 1, 1), (73, .istore 7, 2), (75, .iload 7, 2), (77, .iconst 4, 1), (78, .if_icmp .gt 79, 3), (81, .aload_n 0, 1), (82, .iload 5, 2), (84, .iload 7, 2), (86, .invokevirtual 245, 3), (89, .istore 8, 2), (91, .iload 8, 2), (93, .iconst (-1), 1), (94, .if_icmp .eq 57, 3), (97, .aload_n 0, 1), (98, .getfield 42, 3), (101, .iload 8, 2), (103, .baload, 1), (104, .ifCond .ne 6, 3), (107, .goto 44, 3), (110, .aload_n 0, 1), (111, .getfield 39, 3), (114, .bipush 36, 2), (116, .iload 4, 2), (118, .iconst 1, 1), (119, .isub, 1), (120, .imul, 1), (121, .iload 8, 2), (123, .iadd, 1), (124, .iaload, 1), (125, .aload_n 0, 1), (126, .getfield 45, 3), (129, .iload 8, 2), (131, .iaload, 1), (132, .iadd, 1), (133, .istore 9, 2), (135, .iload 9, 2), (137, .iload 6, 2), (139, .if_icmp .ge 8, 3), (142, .iload 9, 2), (144, .goto 5, 3), (147, .iload 6, 2), (149, .istore 6, 2), (151, .iinc 7 1, 3), (154, .goto (-79), 3), (157, .aload_n 0, 1), (158, .getfield 39, 3), (161, .bipush 36, 2), (163, .iload 4, 2), (165, .imul, 1), (166, .iload 5, 2), (168, .iadd, 1), (169, .iload 6, 2), (171, .iastore, 1), (172, .iinc 5 1, 3), (175, .goto (-117), 3), (178, .iinc 4 1, 3), (181, .goto (-136), 3), (184, .return_, 1)])
theorem qmX11_laysLeast_ok : QMK qmX11_laysLeast := qmk_of 1845 (by decide +kernel)
def qmX11_cellsBy : QMeth := (11, yX11_cellsBy, cX11_cellsBy, 5, (some .int), [(0, .iconst (-1), 1), (1, .istore_n 2, 1), (2, .iconst 0, 1), (3, .istore_n 3, 1), (4, .iload_n 3, 1), (5, .aload_n 0, 1), (6, .iload_n 1, 1), (7, .invokevirtual 361, 3), (10, .if_icmp .gt 61, 3), (13, .aload_n 0, 1), (14, .getfield 39, 3), (17, .bipush 36, 2), (19, .iload_n 3, 1), (20, .imul, 1), (21, .aload_n 0, 1), (22, .iload_n 1, 1), (23, .invokevirtual 231, 3), (26, .iadd, 1), (27, .iaload, 1), (28, .istore 4, 2), (30, .iload 4, 2), (32, .ldc_w 360, 3), (35, .if_icmp .ge 30, 3), (38, .iload_n 2, 1), (39, .iconst (-1), 1), (40, .if_icmp .eq 23, 3), (43, .iload 4, 2), (45, .aload_n 0, 1), (46, .getfield 39, 3), (49, .bipush 36, 2), (51, .iload_n 2, 1), (52, .imul, 1), (53, .aload_n 0, 1), (54, .iload_n 1, 1), (55, .invokevirtual 231, 3), (58, .iadd, 1), (59, .iaload, 1), (60, .if_icmp .ge 5, 3), (63, .iload_n 3, 1), (64, .istore_n 2, 1), (65, .iinc 3 1, 3), (68, .goto (-64), 3), (71, .iload_n 2, 1), (72, .ireturn, 1)])
theorem qmX11_cellsBy_ok : QMK qmX11_cellsBy := qmk_of 1858 (by decide +kernel)
def qmX11_leastFor : QMeth := (11, yX11_leastFor, cX11_leastFor, 5, (some .int), [(0, .aload_n 0, 1), (1, .iload_n 1, 1), (2, .iload_n 2, 1), (3, .iload_n 3, 1), (4, .invokevirtual 364, 3), (7, .aload_n 0, 1), (8, .iload_n 1, 1), (9, .invokevirtual 367, 3), (12, .istore 4, 2), (14, .iload 4, 2), (16, .iconst (-1), 1), (17, .if_icmp .ne 7, 3), (20, .iconst (-1), 1), (21, .goto 19, 3), (24, .aload_n 0, 1), (25, .getfield 39, 3), (28, .bipush 36, 2), (30, .iload 4, 2), (32, .imul, 1), (33, .aload_n 0, 1), (34, .iload_n 1, 1), (35, .invokevirtual 231, 3), (38, .iadd, 1), (39, .iaload, 1), (40, .ireturn, 1)])
theorem qmX11_leastFor_ok : QMK qmX11_leastFor := qmk_of 1841 (by decide +kernel)
def qmX11_laysWay : QMeth := (11, yX11_laysWay, cX11_laysWay, 8, (some .int), [(0, .aload_n 0, 1), (1, .iload_n 1, 1), (2, .iload_n 2, 1), (3, .iconst 1, 1), (4, .invokevirtual 364, 3), (7, .aload_n 0, 1), (8, .iload_n 1, 1), (9, .invokevirtual 367, 3), (12, .istore_n 3, 1), (13, .aload_n 0, 1), (14, .iload_n 1, 1), (15, .invokevirtual 231, 3), (18, .istore 4, 2), (20, .aload_n 0, 1), (21, .lconst 0, 1), (22, .putfield 370, 3), (25, .iconst 0, 1), (26, .istore 5, 2), (28, .iload 5, 2), (30, .iload_n 3, 1), (31, .if_icmp .ge 69, 3), (34, .iload_n 3, 1), (35, .iload 5, 2), (37, .isub, 1), (38, .istore 6, 2), (40, .iconst 1, 1), (41, .istore 7, 2), (43, .aload_n 0, 1), (44, .iload 4, 2), (46, .iload 7, 2), (48, .iload 6, 2), (50, .invokevirtual 374, 3), (53, .ifCond .ne 9, 3), (56, .iinc 7 1, 3), (59, .goto (-16), 3), (62, .aload_n 0, 1), (63, .getfield 51, 3), (66, .iload 5, 2), (68, .iload 7, 2), (70, .iastore, 1), (71, .aload_n 0, 1), (72, .iload 4, 2), (74, .iload 7, 2), (76, .invokevirtual 245, 3), (79, .istore 4, 2), (81, .aload_n 0, 1), (82, .dup, 1), (83, .getfield 370, 3), (86, .lconst 1, 1), (87, .iload 4, 2), (89, .lshl, 1), (90, .lor, 1), (91, .putfield 370, 3), (94, .iinc 5 1, 3), (97, .goto (-69), 3), (100, .iload_n 3, 1), (101, .ireturn, 1)])
theorem qmX11_laysWay_ok : QMK qmX11_laysWay := qmk_of 1870 (by decide +kernel)
def qmX11_isNext : QMeth := (11, yX11_isNext, cX11_isNext, 5, (some .boolean), [(0, .aload_n 0, 1), (1, .iload_n 1, 1), (2, .iload_n 2, 1), (3, .invokevirtual 245, 3), (6, .istore 4, 2), (8, .iload 4, 2), (10, .iconst (-1), 1), (11, .if_icmp .eq 53, 3), (14, .aload_n 0, 1), (15, .getfield 42, 3), (18, .iload 4, 2), (20, .baload, 1), (21, .ifCond .eq 43, 3), (24, .aload_n 0, 1), (25, .getfield 39, 3), (28, .bipush 36, 2), (30, .iload_n 3, 1), (31, .iconst 1, 1), (32, .isub, 1), (33, .imul, 1), (34, .iload 4, 2), (36, .iadd, 1), (37, .iaload, 1), (38, .aload_n 0, 1), (39, .getfield 45, 3), (42, .iload 4, 2), (44, .iaload, 1), (45, .iadd, 1), (46, .aload_n 0, 1), (47, .getfield 39, 3), (50, .bipush 36, 2), (52, .iload_n 3, 1), (53, .imul, 1), (54, .iload_n 1, 1), (55, .iadd, 1), (56, .iaload, 1), (57, .if_icmp .ne 7, 3), (60, .iconst 1, 1), (61, .goto 4, 3), (64, .iconst 0, 1), (65, .ireturn, 1)])
theorem qmX11_isNext_ok : QMK qmX11_isNext := qmk_of 1874 (by decide +kernel)
def qmX11_reach : QMeth := (11, yX11_reach, cX11_reach, 6, (some .long), [(0, .aload_n 0, 1), (1, .iconst 0, 1), (2, .putfield 1, 3), (5, .aload_n 0, 1), (6, .iload_n 1, 1), (7, .i2l, 1), (8, .invokevirtual 228, 3), (11, .ifCond .ne 7, 3), (14, .ldc2_w 378, 3), (17, .lreturn, 1), (18, .lconst 0, 1), (19, .lstore_n 2, 1), (20, .iconst 0, 1), (21, .istore 4, 2), (23, .iload 4, 2), (25, .aload_n 0, 1), (26, .invokevirtual 198, 3), (29, .if_icmp .ge 50, 3), (32, .aload_n 0, 1), (33, .iload_n 1, 1), (34, .iload 4, 2), (36, .iconst 1, 1), (37, .invokevirtual 380, 3), (40, .istore 5, 2), (42, .lload_n 2, 1), (43, .iload 5, 2), (45, .iconst (-1), 1), (46, .if_icmp .eq 24, 3), (49, .iload 5, 2), (51, .aload_n 0, 1), (52, .getfield 13, 3), (55, .bipush 54, 2), (57, .iload_n 1, 1), (58, .iadd, 1), (59, .iaload, 1), (60, .if_icmp .gt 10, 3), (63, .lconst 1, 1), (64, .iload 4, 2), (66, .lshl, 1), (67, .goto 4, 3), (70, .lconst 0, 1), (71, .lor, 1), (72, .lstore_n 2, 1), (73, .iinc 4 1, 3), (76, .goto (-53), 3), (79, .lload_n 2, 1), (80, .lreturn, 1)])
theorem qmX11_reach_ok : QMK qmX11_reach := qmk_of 1836 (by decide +kernel)
def qmX11_fewest : QMeth := (11, yX11_fewest, cX11_fewest, 3, (some .int), [(0, .aload_n 0, 1), (1, .iconst 0, 1), (2, .putfield 1, 3), (5, .aload_n 0, 1), (6, .iload_n 1, 1), (7, .i2l, 1), (8, .invokevirtual 228, 3), (11, .ifCond .eq 22, 3), (14, .aload_n 0, 1), (15, .iload_n 2, 1), (16, .i2l, 1), (17, .invokevirtual 221, 3), (20, .ifCond .eq 13, 3), (23, .aload_n 0, 1), (24, .iload_n 1, 1), (25, .iload_n 2, 1), (26, .iconst 1, 1), (27, .invokevirtual 380, 3), (30, .goto 5, 3), (33, .bipush (-2), 2), (35, .ireturn, 1)])
theorem qmX11_fewest_ok : QMK qmX11_fewest := qmk_of 1862 (by decide +kernel)
def qmX11_way : QMeth := (11, yX11_way, cX11_way, 5, (some .int), [(0, .aload_n 0, 1), (1, .iconst 0, 1), (2, .putfield 1, 3), (5, .aload_n 0, 1), (6, .iload_n 1, 1), (7, .i2l, 1), (8, .invokevirtual 228, 3), (11, .ifCond .eq 12, 3), (14, .aload_n 0, 1), (15, .iload_n 2, 1), (16, .i2l, 1), (17, .invokevirtual 221, 3), (20, .ifCond .ne 6, 3), (23, .bipush (-2), 2), (25, .ireturn, 1), (26, .iload_n 3, 1), (27, .ifCond .ge 6, 3), (30, .bipush (-3), 2), (32, .ireturn, 1), (33, .aload_n 0, 1), (34, .iload_n 1, 1), (35, .iload_n 2, 1), (36, .invokevirtual 384, 3), (39, .istore 4, 2), (41, .iload_n 3, 1), (42, .iload 4, 2), (44, .if_icmp .ge 12, 3), (47, .aload_n 0, 1), (48, .getfield 51, 3), (51, .iload_n 3, 1), (52, .iaload, 1), (53, .goto 4, 3), (56, .iconst (-1), 1), (57, .ireturn, 1)])
theorem qmX11_way_ok : QMK qmX11_way := qmk_of 1866 (by decide +kernel)
def qmX11_waysFrom : QMeth := (11, yX11_waysFrom, cX11_waysFrom, 9, (some .int), [(0, .iload_n 3, 1), (1, .ifCond .ne 14, 3), (4, .iload_n 1, 1), (5, .iload_n 2, 1), (6, .if_icmp .ne 7, 3), (9, .iconst 1, 1), (10, .goto 4, 3), (13, .iconst 0, 1), (14, .ireturn, 1), (15, .iconst 0, 1), (16, .istore 6, 2), (18, .iconst 1, 1), (19, .istore 7, 2), (21, .iload 7, 2), (23, .iconst 4, 1), (24, .if_icmp .gt 66, 3), (27, .aload_n 0, 1), (28, .iload_n 1, 1), (29, .iload 7, 2), (31, .invokevirtual 245, 3), (34, .istore 8, 2), (36, .iload 8, 2), (38, .iconst (-1), 1), (39, .if_icmp .eq 45, 3), (42, .aload_n 0, 1), (43, .getfield 42, 3), (46, .iload 8, 2), (48, .baload, 1), (49, .ifCond .eq 35, 3), (52, .lload 4, 2), (54, .iload 8, 2), (56, .invokestatic 387, 3), (59, .ifCond .ne 25, 3), (62, .iload 6, 2), (64, .aload_n 0, 1), (65, .iload 8, 2), (67, .iload_n 2, 1), (68, .iload_n 3, 1), (69, .iconst 1, 1), (70, .isub, 1), (71, .lload 4, 2), (73, .lconst 1, 1), (74, .iload 8, 2), (76, .lshl, 1), (77, .lor, 1), (78, .invokevirtual 391, 3), (81, .iadd, 1), (82, .istore 6, 2), (84, .iinc 7 1, 3), (87, .goto (-66), 3), (90, .iload 6, 2), (92, .ireturn, 1)])
theorem qmX11_waysFrom_ok : QMK qmX11_waysFrom := qmk_of 1883 (by decide +kernel)
def qmX11_ways : QMeth := (11, yX11_ways, cX11_ways, 4, (some .int), [(0, .aload_n 0, 1), (1, .iconst 0, 1), (2, .putfield 1, 3), (5, .aload_n 0, 1), (6, .iload_n 1, 1), (7, .i2l, 1), (8, .invokevirtual 228, 3), (11, .ifCond .eq 12, 3), (14, .aload_n 0, 1), (15, .iload_n 2, 1), (16, .i2l, 1), (17, .invokevirtual 221, 3), (20, .ifCond .ne 6, 3), (23, .bipush (-2), 2), (25, .ireturn, 1), (26, .iload_n 3, 1), (27, .i2l, 1), (28, .lconst 0, 1), (29, .ldc2_w 395, 3), (32, .invokestatic 133, 3), (35, .ifCond .ne 6, 3), (38, .bipush (-3), 2), (40, .ireturn, 1), (41, .aload_n 0, 1), (42, .iload_n 1, 1), (43, .iconst 1, 1), (44, .invokevirtual 356, 3), (47, .iload_n 3, 1), (48, .aload_n 0, 1), (49, .iload_n 1, 1), (50, .invokevirtual 361, 3), (53, .if_icmp .le 7, 3), (56, .iconst 0, 1), (57, .goto 15, 3), (60, .aload_n 0, 1), (61, .aload_n 0, 1), (62, .iload_n 1, 1), (63, .invokevirtual 231, 3), (66, .iload_n 2, 1), (67, .iload_n 3, 1), (68, .lconst 0, 1), (69, .invokevirtual 391, 3), (72, .ireturn, 1)])
theorem qmX11_ways_ok : QMK qmX11_ways := qmk_of 1878 (by decide +kernel)
def qmX11_crossings : QMeth := (11, yX11_crossings, cX11_crossings, 3, (some .int), [(0, .aload_n 0, 1), (1, .iconst 0, 1), (2, .putfield 1, 3), (5, .aload_n 0, 1), (6, .iload_n 1, 1), (7, .i2l, 1), (8, .invokevirtual 228, 3), (11, .ifCond .eq 22, 3), (14, .aload_n 0, 1), (15, .iload_n 2, 1), (16, .i2l, 1), (17, .invokevirtual 221, 3), (20, .ifCond .eq 13, 3), (23, .aload_n 0, 1), (24, .iload_n 1, 1), (25, .iload_n 2, 1), (26, .iconst 0, 1), (27, .invokevirtual 380, 3), (30, .goto 5, 3), (33, .bipush (-2), 2), (35, .ireturn, 1)])
theorem qmX11_crossings_ok : QMK qmX11_crossings := qmk_of 1890 (by decide +kernel)
def qmX11_needed : QMeth := (11, yX11_needed, cX11_needed, 6, (some .long), [(0, .aload_n 0, 1), (1, .iconst 0, 1), (2, .putfield 1, 3), (5, .aload_n 0, 1), (6, .iload_n 1, 1), (7, .i2l, 1), (8, .invokevirtual 228, 3), (11, .ifCond .eq 12, 3), (14, .aload_n 0, 1), (15, .iload_n 2, 1), (16, .i2l, 1), (17, .invokevirtual 221, 3), (20, .ifCond .ne 7, 3), (23, .ldc2_w 378, 3), (26, .lreturn, 1), (27, .lconst 0, 1), (28, .lstore_n 3, 1), (29, .aload_n 0, 1), (30, .iload_n 1, 1), (31, .iload_n 2, 1), (32, .iconst 1, 1), (33, .invokevirtual 380, 3), (36, .iconst (-1), 1), (37, .if_icmp .ne 5, 3), (40, .lload_n 3, 1), (41, .lreturn, 1), (42, .iconst 0, 1), (43, .istore 5, 2), (45, .iload 5, 2), (47, .aload_n 0, 1), (48, .invokevirtual 198, 3), (51, .if_icmp .ge 56, 3), (54, .iload 5, 2), (56, .iload_n 2, 1), (57, .if_icmp .eq 44, 3), (60, .iload 5, 2), (62, .aload_n 0, 1), (63, .iload_n 1, 1), (64, .invokevirtual 231, 3), (67, .if_icmp .ne 6, 3), (70, .goto 31, 3), (73, .aload_n 0, 1), (74, .iload 5, 2), (76, .putfield 48, 3), (79, .lload_n 3, 1), (80, .aload_n 0, 1), (81, .iload_n 1, 1), (82, .iload_n 2, 1), (83, .iconst 1, 1), (84, .invokevirtual 380, 3), (87, .iconst (-1), 1), (88, .if_icmp .ne 10, 3), (91, .lconst 1, 1), (92, .iload 5, 2), (94, .lshl, 1), (95, .goto 4, 3), (98, .lconst 0, 1), (99, .lor, 1), (100, .lstore_n 3, 1), (101, .iinc 5 1, 3), (104, .goto (-59), 3), (107, .aload_n 0, 1), (108, .iconst (-1), 1), (109, .putfield 48, 3), (112, .lload_n 3, 1), (113, .lreturn, 1)])
theorem qmX11_needed_ok : QMK qmX11_needed := qmk_of 1894 (by decide +kernel)
def qmX11_farthest : QMeth := (11, yX11_farthest, cX11_farthest, 6, (some .int), [(0, .aload_n 0, 1), (1, .iconst 0, 1), (2, .putfield 1, 3), (5, .aload_n 0, 1), (6, .iload_n 1, 1), (7, .i2l, 1), (8, .invokevirtual 228, 3), (11, .ifCond .ne 6, 3), (14, .bipush (-2), 2), (16, .ireturn, 1), (17, .iconst (-1), 1), (18, .istore_n 2, 1), (19, .iconst (-1), 1), (20, .istore_n 3, 1), (21, .iconst 0, 1), (22, .istore 4, 2), (24, .iload 4, 2), (26, .aload_n 0, 1), (27, .invokevirtual 198, 3), (30, .if_icmp .ge 48, 3), (33, .aload_n 0, 1), (34, .iload_n 1, 1), (35, .iload 4, 2), (37, .iconst 1, 1), (38, .invokevirtual 380, 3), (41, .istore 5, 2), (43, .iload 5, 2), (45, .iload_n 3, 1), (46, .if_icmp .le 26, 3), (49, .iload 5, 2), (51, .aload_n 0, 1), (52, .getfield 13, 3), (55, .bipush 54, 2), (57, .iload_n 1, 1), (58, .iadd, 1), (59, .iaload, 1), (60, .if_icmp .le 6, 3), (63, .goto 9, 3), (66, .iload 4, 2), (68, .istore_n 2, 1), (69, .iload 5, 2), (71, .istore_n 3, 1), (72, .iinc 4 1, 3), (75, .goto (-51), 3), (78, .iload_n 2, 1), (79, .ireturn, 1)])
theorem qmX11_farthest_ok : QMK qmX11_farthest := qmk_of 1898 (by decide +kernel)
def qmX11_aboveOf : QMeth := (11, yX11_aboveOf, cX11_aboveOf, 4, (some .int), [(0, .iconst 0, 1), (1, .istore_n 2, 1), (2, .iconst 0, 1), (3, .istore_n 3, 1), (4, .iload_n 3, 1), (5, .aload_n 0, 1), (6, .invokevirtual 198, 3), (9, .if_icmp .ge 42, 3), (12, .iload_n 2, 1), (13, .aload_n 0, 1), (14, .getfield 13, 3), (17, .sipush 258, 3), (20, .iload_n 3, 1), (21, .iadd, 1), (22, .iaload, 1), (23, .iload_n 1, 1), (24, .if_icmp .ne 18, 3), (27, .iconst 1, 1), (28, .aload_n 0, 1), (29, .getfield 13, 3), (32, .sipush 294, 3), (35, .iload_n 3, 1), (36, .iadd, 1), (37, .iaload, 1), (38, .ishl, 1), (39, .goto 4, 3), (42, .iconst 0, 1), (43, .ior, 1), (44, .istore_n 2, 1), (45, .iinc 3 1, 3), (48, .goto (-44), 3), (51, .iload_n 2, 1), (52, .ireturn, 1)])
theorem qmX11_aboveOf_ok : QMK qmX11_aboveOf := qmk_of 1906 (by decide +kernel)
def qmX11_above : QMeth := (11, yX11_above, cX11_above, 2, (some .int), [(0, .aload_n 0, 1), (1, .iconst 0, 1), (2, .putfield 1, 3), (5, .aload_n 0, 1), (6, .iload_n 1, 1), (7, .i2l, 1), (8, .invokevirtual 228, 3), (11, .ifCond .eq 11, 3), (14, .aload_n 0, 1), (15, .iload_n 1, 1), (16, .invokevirtual 397, 3), (19, .goto 5, 3), (22, .bipush (-2), 2), (24, .ireturn, 1)])
theorem qmX11_above_ok : QMK qmX11_above := qmk_of 1902 (by decide +kernel)
def qmX11_ahead : QMeth := (11, yX11_ahead, cX11_ahead, 5, (some .int), [(0, .aload_n 0, 1), (1, .iconst 0, 1), (2, .putfield 1, 3), (5, .aload_n 0, 1), (6, .iload_n 1, 1), (7, .i2l, 1), (8, .invokevirtual 228, 3), (11, .ifCond .ne 6, 3), (14, .bipush (-2), 2), (16, .ireturn, 1), (17, .iconst 0, 1), (18, .istore_n 2, 1), (19, .aload_n 0, 1), (20, .iload_n 1, 1), (21, .invokevirtual 397, 3), (24, .istore_n 3, 1), (25, .iload_n 3, 1), (26, .iload_n 2, 1), (27, .if_icmp .eq 47, 3), (30, .iload_n 3, 1), (31, .istore_n 2, 1), (32, .iconst 0, 1), (33, .istore 4, 2), (35, .iload 4, 2), (37, .aload_n 0, 1), (38, .getfield 13, 3), (41, .iconst 3, 1), (42, .iaload, 1), (43, .if_icmp .ge 28, 3), (46, .iload_n 2, 1), (47, .i2l, 1), (48, .iload 4, 2), (50, .invokestatic 387, 3), (53, .ifCond .eq 12, 3), (56, .iload_n 3, 1), (57, .aload_n 0, 1), (58, .iload 4, 2), (60, .invokevirtual 397, 3), (63, .ior, 1), (64, .istore_n 3, 1), (65, .iinc 4 1, 3), (68, .goto (-33), 3), (71, .goto (-46), 3), (74, .iload_n 2, 1), (75, .ireturn, 1)])
theorem qmX11_ahead_ok : QMK qmX11_ahead := qmk_of 1910 (by decide +kernel)
def qmX11_lying : QMeth := (11, yX11_lying, cX11_lying, 3, (some .int), [(0, .iconst 0, 1), (1, .istore_n 1, 1), (2, .iconst 0, 1), (3, .istore_n 2, 1), (4, .iload_n 2, 1), (5, .aload_n 0, 1), (6, .getfield 13, 3), (9, .iconst 3, 1), (10, .iaload, 1), (11, .if_icmp .ge 31, 3), (14, .iload_n 1, 1), (15, .aload_n 0, 1), (16, .getfield 13, 3), (19, .bipush 60, 2), (21, .iload_n 2, 1), (22, .iadd, 1), (23, .iaload, 1), (24, .ifCond .le 9, 3), (27, .iconst 1, 1), (28, .iload_n 2, 1), (29, .ishl, 1), (30, .goto 4, 3), (33, .iconst 0, 1), (34, .ior, 1), (35, .istore_n 1, 1), (36, .iinc 2 1, 3), (39, .goto (-35), 3), (42, .iload_n 1, 1), (43, .ireturn, 1)])
theorem qmX11_lying_ok : QMK qmX11_lying := qmk_of 1918 (by decide +kernel)
def qmX11_firstOf : QMeth := (11, yX11_firstOf, cX11_firstOf, 3, (some .int), [(0, .iconst 0, 1), (1, .istore_n 2, 1), (2, .iload_n 2, 1), (3, .aload_n 0, 1), (4, .getfield 13, 3), (7, .iconst 3, 1), (8, .iaload, 1), (9, .if_icmp .ge 30, 3), (12, .iload_n 1, 1), (13, .i2l, 1), (14, .iload_n 2, 1), (15, .invokestatic 387, 3), (18, .ifCond .eq 15, 3), (21, .aload_n 0, 1), (22, .iload_n 2, 1), (23, .invokevirtual 397, 3), (26, .iload_n 1, 1), (27, .iand, 1), (28, .ifCond .ne 5, 3), (31, .iload_n 2, 1), (32, .ireturn, 1), (33, .iinc 2 1, 3), (36, .goto (-34), 3), (39, .iconst (-1), 1), (40, .ireturn, 1)])
theorem qmX11_firstOf_ok : QMK qmX11_firstOf := qmk_of 1922 (by decide +kernel)
def qmX11_order : QMeth := (11, yX11_order, cX11_order, 4, (some .int), [(0, .aload_n 0, 1), (1, .iconst 0, 1), (2, .putfield 1, 3), (5, .iload_n 1, 1), (6, .ifCond .ge 6, 3), (9, .bipush (-3), 2), (11, .ireturn, 1), (12, .aload_n 0, 1), (13, .invokevirtual 400, 3), (16, .istore_n 2, 1), (17, .iconst 0, 1), (18, .istore_n 3, 1), (19, .iload_n 3, 1), (20, .iload_n 1, 1), (21, .if_icmp .ge 30, 3), (24, .aload_n 0, 1), (25, .iload_n 2, 1), (26, .invokevirtual 403, 3), (29, .iconst (-1), 1), (30, .if_icmp .eq 21, 3), (33, .iload_n 2, 1), (34, .iconst 1, 1), (35, .aload_n 0, 1), (36, .iload_n 2, 1), (37, .invokevirtual 403, 3), (40, .ishl, 1), (41, .iconst (-1), 1), (42, .ixor, 1), (43, .iand, 1), (44, .istore_n 2, 1), (45, .iinc 3 1, 3), (48, .goto (-29), 3), (51, .iload_n 1, 1), (52, .bipush 6, 2), (54, .if_icmp .lt 7, 3), (57, .iconst (-1), 1), (58, .goto 28, 3), (61, .aload_n 0, 1), (62, .invokevirtual 400, 3), (65, .invokestatic 406, 3), (68, .iload_n 2, 1), (69, .invokestatic 406, 3), (72, .isub, 1), (73, .iload_n 1, 1), (74, .if_icmp .ge 7, 3), (77, .iconst (-1), 1), (78, .goto 8, 3), (81, .aload_n 0, 1), (82, .iload_n 2, 1), (83, .invokevirtual 403, 3), (86, .ireturn, 1)])
theorem qmX11_order_ok : QMK qmX11_order := qmk_of 1914 (by decide +kernel)
def qmX11_stuck : QMeth := (11, yX11_stuck, cX11_stuck, 2, (some .int), [(0, .aload_n 0, 1), (1, .iconst 0, 1), (2, .putfield 1, 3), (5, .aload_n 0, 1), (6, .invokevirtual 400, 3), (9, .istore_n 1, 1), (10, .aload_n 0, 1), (11, .iload_n 1, 1), (12, .invokevirtual 403, 3), (15, .iconst (-1), 1), (16, .if_icmp .eq 18, 3), (19, .iload_n 1, 1), (20, .iconst 1, 1), (21, .aload_n 0, 1), (22, .iload_n 1, 1), (23, .invokevirtual 403, 3), (26, .ishl, 1), (27, .iconst (-1), 1), (28, .ixor, 1), (29, .iand, 1), (30, .istore_n 1, 1), (31, .goto (-21), 3), (34, .iload_n 1, 1), (35, .ireturn, 1)])
theorem qmX11_stuck_ok : QMK qmX11_stuck := qmk_of 1929 (by decide +kernel)
def qmX11_overs : QMeth := (11, yX11_overs, cX11_overs, 5, (some .int), [(0, .iconst 0, 1), (1, .istore_n 3, 1), (2, .iconst 0, 1), (3, .istore 4, 2), (5, .iload 4, 2), (7, .aload_n 0, 1), (8, .invokevirtual 198, 3), (11, .if_icmp .ge 47, 3), (14, .iload_n 3, 1), (15, .aload_n 0, 1), (16, .getfield 13, 3), (19, .sipush 294, 3), (22, .iload 4, 2), (24, .iadd, 1), (25, .iaload, 1), (26, .iload_n 1, 1), (27, .if_icmp .ne 22, 3), (30, .aload_n 0, 1), (31, .getfield 13, 3), (34, .sipush 258, 3), (37, .iload 4, 2), (39, .iadd, 1), (40, .iaload, 1), (41, .iload_n 2, 1), (42, .if_icmp .ne 7, 3), (45, .iconst 1, 1), (46, .goto 4, 3), (49, .iconst 0, 1), (50, .iadd, 1), (51, .istore_n 3, 1), (52, .iinc 4 1, 3), (55, .goto (-50), 3), (58, .iload_n 3, 1), (59, .ireturn, 1)])
theorem qmX11_overs_ok : QMK qmX11_overs := qmk_of 1941 (by decide +kernel)
def qmX11_twistsOf : QMeth := (11, yX11_twistsOf, cX11_twistsOf, 6, (some .int), [(0, .iload_n 1, 1), (1, .ifCond .ne 7, 3), (4, .iconst 0, 1), (5, .goto 6, 3), (8, .ldc_w 360, 3), (11, .istore_n 2, 1), (12, .iconst 0, 1), (13, .istore_n 3, 1), (14, .iload_n 3, 1), (15, .aload_n 0, 1), (16, .getfield 13, 3), (19, .iconst 3, 1), (20, .iaload, 1), (21, .if_icmp .ge 105, 3), (24, .iload_n 1, 1), (25, .i2l, 1), (26, .iload_n 3, 1), (27, .invokestatic 387, 3), (30, .ifCond .ne 6, 3), (33, .goto 87, 3), (36, .iconst 0, 1), (37, .istore 4, 2), (39, .iconst 0, 1), (40, .istore 5, 2), (42, .iload 5, 2), (44, .aload_n 0, 1), (45, .getfield 13, 3), (48, .iconst 3, 1), (49, .iaload, 1), (50, .if_icmp .ge 41, 3), (53, .iload 4, 2), (55, .iload 5, 2), (57, .iload_n 3, 1), (58, .if_icmp .eq 23, 3), (61, .iload_n 1, 1), (62, .i2l, 1), (63, .iload 5, 2), (65, .invokestatic 387, 3), (68, .ifCond .eq 13, 3), (71, .aload_n 0, 1), (72, .iload 5, 2), (74, .iload_n 3, 1), (75, .invokevirtual 409, 3), (78, .goto 4, 3), (81, .iconst 0, 1), (82, .iadd, 1), (83, .istore 4, 2), (85, .iinc 5 1, 3), (88, .goto (-46), 3), (91, .iload 4, 2), (93, .aload_n 0, 1), (94, .iload_n 1, 1), (95, .iconst 1, 1), (96, .iload_n 3, 1), (97, .ishl, 1), (98, .iconst (-1), 1), (99, .ixor, 1), (100, .iand, 1), (101, .invokevirtual 412, 3), (104, .iadd, 1), (105, .istore 5, 2), (107, .iload 5, 2), (109, .iload_n 2, 1), (110, .if_icmp .ge 8, 3), (113, .iload 5, 2), (115, .goto 4, 3), (118, .iload_n 2, 1), (119, .istore_n 2, 1), (120, .iinc 3 1, 3), (123, .goto (-109), 3), (126, .iload_n 2, 1), (127, .ireturn, 1)])
theorem qmX11_twistsOf_ok : QMK qmX11_twistsOf := qmk_of 1937 (by decide +kernel)
def qmX11_twists : QMeth := (11, yX11_twists, cX11_twists, 1, (some .int), [(0, .aload_n 0, 1), (1, .iconst 0, 1), (2, .putfield 1, 3), (5, .aload_n 0, 1), (6, .aload_n 0, 1), (7, .invokevirtual 400, 3), (10, .invokevirtual 412, 3), (13, .ireturn, 1)])
theorem qmX11_twists_ok : QMK qmX11_twists := qmk_of 1933 (by decide +kernel)
def qmX11_ordersOf : QMeth := (11, yX11_ordersOf, cX11_ordersOf, 4, (some .int), [(0, .iload_n 1, 1), (1, .ifCond .ne 5, 3), (4, .iconst 1, 1), (5, .ireturn, 1), (6, .iconst 0, 1), (7, .istore_n 2, 1), (8, .iconst 0, 1), (9, .istore_n 3, 1), (10, .iload_n 3, 1), (11, .aload_n 0, 1), (12, .getfield 13, 3), (15, .iconst 3, 1), (16, .iaload, 1), (17, .if_icmp .ge 42, 3), (20, .iload_n 1, 1), (21, .i2l, 1), (22, .iload_n 3, 1), (23, .invokestatic 387, 3), (26, .ifCond .eq 27, 3), (29, .aload_n 0, 1), (30, .iload_n 3, 1), (31, .invokevirtual 397, 3), (34, .iload_n 1, 1), (35, .iand, 1), (36, .ifCond .ne 17, 3), (39, .iload_n 2, 1), (40, .aload_n 0, 1), (41, .iload_n 1, 1), (42, .iconst 1, 1), (43, .iload_n 3, 1), (44, .ishl, 1), (45, .iconst (-1), 1), (46, .ixor, 1), (47, .iand, 1), (48, .invokevirtual 415, 3), (51, .iadd, 1), (52, .istore_n 2, 1), (53, .iinc 3 1, 3), (56, .goto (-46), 3), (59, .iload_n 2, 1), (60, .ireturn, 1)])
theorem qmX11_ordersOf_ok : QMK qmX11_ordersOf := qmk_of 1949 (by decide +kernel)
def qmX11_orders : QMeth := (11, yX11_orders, cX11_orders, 1, (some .int), [(0, .aload_n 0, 1), (1, .iconst 0, 1), (2, .putfield 1, 3), (5, .aload_n 0, 1), (6, .aload_n 0, 1), (7, .invokevirtual 400, 3), (10, .invokevirtual 415, 3), (13, .ireturn, 1)])
theorem qmX11_orders_ok : QMK qmX11_orders := qmk_of 1945 (by decide +kernel)
def qmX11_isAllIn : QMeth := (11, yX11_isAllIn, cX11_isAllIn, 2, (some .boolean), [(0, .iconst 0, 1), (1, .istore_n 1, 1), (2, .iload_n 1, 1), (3, .aload_n 0, 1), (4, .getfield 13, 3), (7, .sipush 330, 3), (10, .iaload, 1), (11, .if_icmp .ge 24, 3), (14, .aload_n 0, 1), (15, .getfield 13, 3), (18, .sipush 347, 3), (21, .iload_n 1, 1), (22, .iadd, 1), (23, .iaload, 1), (24, .ifCond .ne 5, 3), (27, .iconst 0, 1), (28, .ireturn, 1), (29, .iinc 1 1, 3), (32, .goto (-30), 3), (35, .iconst 1, 1), (36, .ireturn, 1)])
theorem qmX11_isAllIn_ok : QMK qmX11_isAllIn := qmk_of 1969 (by decide +kernel)
def qmX11_arrivesIn : QMeth := (11, yX11_arrivesIn, cX11_arrivesIn, 3, (some .int), [(0, .iconst 0, 1), (1, .istore_n 2, 1), (2, .iload_n 2, 1), (3, .bipush 99, 2), (5, .if_icmp .gt 36, 3), (8, .aload_n 0, 1), (9, .getfield 13, 3), (12, .sipush 347, 3), (15, .iload_n 1, 1), (16, .iadd, 1), (17, .iaload, 1), (18, .iconst 1, 1), (19, .if_icmp .ne 5, 3), (22, .iload_n 2, 1), (23, .ireturn, 1), (24, .iload_n 2, 1), (25, .bipush 99, 2), (27, .if_icmp .ge 8, 3), (30, .aload_n 0, 1), (31, .invokevirtual 295, 3), (34, .pop, 1), (35, .iinc 2 1, 3), (38, .goto (-36), 3), (41, .iconst (-1), 1), (42, .ireturn, 1)])
theorem qmX11_arrivesIn_ok : QMK qmX11_arrivesIn := qmk_of 1957 (by decide +kernel)
def qmX11_arrives : QMeth := (11, yX11_arrives, cX11_arrives, 3, (some .int), [(0, .aload_n 0, 1), (1, .iconst 0, 1), (2, .putfield 1, 3), (5, .aload_n 0, 1), (6, .iload_n 1, 1), (7, .i2l, 1), (8, .invokevirtual 237, 3), (11, .ifCond .ne 6, 3), (14, .bipush (-2), 2), (16, .ireturn, 1), (17, .aload_n 0, 1), (18, .invokevirtual 262, 3), (21, .aload_n 0, 1), (22, .iload_n 1, 1), (23, .invokevirtual 418, 3), (26, .istore_n 2, 1), (27, .aload_n 0, 1), (28, .invokevirtual 341, 3), (31, .iload_n 2, 1), (32, .ireturn, 1)])
theorem qmX11_arrives_ok : QMK qmX11_arrives := qmk_of 1953 (by decide +kernel)
def qmX11_waits : QMeth := (11, yX11_waits, cX11_waits, 4, (some .int), [(0, .aload_n 0, 1), (1, .iconst 0, 1), (2, .putfield 1, 3), (5, .aload_n 0, 1), (6, .iload_n 1, 1), (7, .i2l, 1), (8, .invokevirtual 237, 3), (11, .ifCond .ne 6, 3), (14, .bipush (-2), 2), (16, .ireturn, 1), (17, .aload_n 0, 1), (18, .getfield 13, 3), (21, .sipush 355, 3), (24, .iload_n 1, 1), (25, .iadd, 1), (26, .iaload, 1), (27, .istore_n 2, 1), (28, .aload_n 0, 1), (29, .invokevirtual 262, 3), (32, .aload_n 0, 1), (33, .iload_n 1, 1), (34, .invokevirtual 418, 3), (37, .pop, 1), (38, .aload_n 0, 1), (39, .getfield 13, 3), (42, .sipush 355, 3), (45, .iload_n 1, 1), (46, .iadd, 1), (47, .iaload, 1), (48, .iload_n 2, 1), (49, .isub, 1), (50, .istore_n 3, 1), (51, .aload_n 0, 1), (52, .invokevirtual 341, 3), (55, .iload_n 3, 1), (56, .ireturn, 1)])
theorem qmX11_waits_ok : QMK qmX11_waits := qmk_of 1961 (by decide +kernel)
def qmX11_allIn : QMeth := (11, yX11_allIn, cX11_allIn, 3, (some .int), [(0, .aload_n 0, 1), (1, .iconst 0, 1), (2, .putfield 1, 3), (5, .aload_n 0, 1), (6, .invokevirtual 262, 3), (9, .iconst (-1), 1), (10, .istore_n 1, 1), (11, .iconst 0, 1), (12, .istore_n 2, 1), (13, .iload_n 2, 1), (14, .bipush 99, 2), (16, .if_icmp .gt 28, 3), (19, .iload_n 1, 1), (20, .iconst (-1), 1), (21, .if_icmp .ne 23, 3), (24, .aload_n 0, 1), (25, .invokevirtual 421, 3), (28, .ifCond .eq 5, 3), (31, .iload_n 2, 1), (32, .istore_n 1, 1), (33, .aload_n 0, 1), (34, .invokevirtual 295, 3), (37, .pop, 1), (38, .iinc 2 1, 3), (41, .goto (-28), 3), (44, .aload_n 0, 1), (45, .invokevirtual 341, 3), (48, .iload_n 1, 1), (49, .ireturn, 1)])
theorem qmX11_allIn_ok : QMK qmX11_allIn := qmk_of 1965 (by decide +kernel)
def qmX11_free : QMeth := (11, yX11_free, cX11_free, 4, (some .int), [(0, .aload_n 0, 1), (1, .iconst 0, 1), (2, .putfield 1, 3), (5, .aload_n 0, 1), (6, .iload_n 1, 1), (7, .i2l, 1), (8, .invokevirtual 228, 3), (11, .ifCond .ne 6, 3), (14, .bipush (-2), 2), (16, .ireturn, 1), (17, .aload_n 0, 1), (18, .getfield 13, 3), (21, .bipush 60, 2), (23, .iload_n 1, 1), (24, .iadd, 1), (25, .iaload, 1), (26, .ifCond .ne 6, 3), (29, .bipush (-5), 2), (31, .ireturn, 1), (32, .aload_n 0, 1), (33, .invokevirtual 262, 3), (36, .iconst (-1), 1), (37, .istore_n 2, 1), (38, .iconst 0, 1), (39, .istore_n 3, 1), (40, .iload_n 3, 1), (41, .bipush 99, 2), (43, .if_icmp .gt 30, 3), (46, .iload_n 2, 1), (47, .iconst (-1), 1), (48, .if_icmp .ne 25, 3), (51, .aload_n 0, 1), (52, .iload_n 1, 1), (53, .i2l, 1), (54, .invokevirtual 276, 3), (57, .ifCond .ne 5, 3), (60, .iload_n 3, 1), (61, .istore_n 2, 1), (62, .aload_n 0, 1), (63, .invokevirtual 295, 3), (66, .pop, 1), (67, .iinc 3 1, 3), (70, .goto (-30), 3), (73, .aload_n 0, 1), (74, .invokevirtual 341, 3), (77, .iload_n 2, 1), (78, .ireturn, 1)])
theorem qmX11_free_ok : QMK qmX11_free := qmk_of 1973 (by decide +kernel)
def qmX11_goersOnCells : QMeth := (11, yX11_goersOnCells, cX11_goersOnCells, 3, (some .int), [(0, .iconst 0, 1), (1, .istore_n 1, 1), (2, .iconst 0, 1), (3, .istore_n 2, 1), (4, .iload_n 2, 1), (5, .aload_n 0, 1), (6, .getfield 13, 3), (9, .sipush 330, 3), (12, .iaload, 1), (13, .if_icmp .ge 43, 3), (16, .iload_n 1, 1), (17, .aload_n 0, 1), (18, .getfield 13, 3), (21, .sipush 347, 3), (24, .iload_n 2, 1), (25, .iadd, 1), (26, .iaload, 1), (27, .ifCond .ne 20, 3), (30, .aload_n 0, 1), (31, .getfield 13, 3), (34, .sipush 339, 3), (37, .iload_n 2, 1), (38, .iadd, 1), (39, .iaload, 1), (40, .ifCond .lt 7, 3), (43, .iconst 1, 1), (44, .goto 4, 3), (47, .iconst 0, 1), (48, .iadd, 1), (49, .istore_n 1, 1), (50, .iinc 2 1, 3), (53, .goto (-49), 3), (56, .iload_n 1, 1), (57, .ireturn, 1)])
theorem qmX11_goersOnCells_ok : QMK qmX11_goersOnCells := qmk_of 1981 (by decide +kernel)
def qmX11_busiest : QMeth := (11, yX11_busiest, cX11_busiest, 5, (some .int), [(0, .aload_n 0, 1), (1, .iconst 0, 1), (2, .putfield 1, 3), (5, .aload_n 0, 1), (6, .invokevirtual 262, 3), (9, .iconst 0, 1), (10, .istore_n 1, 1), (11, .iconst (-1), 1), (12, .istore_n 2, 1), (13, .iconst 0, 1), (14, .istore_n 3, 1), (15, .iload_n 3, 1), (16, .bipush 99, 2), (18, .if_icmp .gt 31, 3), (21, .aload_n 0, 1), (22, .invokevirtual 425, 3), (25, .istore 4, 2), (27, .iload 4, 2), (29, .iload_n 2, 1), (30, .if_icmp .le 8, 3), (33, .iload_n 3, 1), (34, .istore_n 1, 1), (35, .iload 4, 2), (37, .istore_n 2, 1), (38, .aload_n 0, 1), (39, .invokevirtual 295, 3), (42, .pop, 1), (43, .iinc 3 1, 3), (46, .goto (-31), 3), (49, .aload_n 0, 1), (50, .invokevirtual 341, 3), (53, .iload_n 1, 1), (54, .ireturn, 1)])
theorem qmX11_busiest_ok : QMK qmX11_busiest := qmk_of 1977 (by decide +kernel)
end
section
def qmX11_wouldArrive : QMeth := (11, yX11_wouldArrive, cX11_wouldArrive, 4, (some .int), [(0, .aload_n 0, 1), (1, .iconst 0, 1), (2, .putfield 1, 3), (5, .aload_n 0, 1), (6, .iload_n 1, 1), (7, .i2l, 1), (8, .invokevirtual 282, 3), (11, .istore_n 2, 1), (12, .iload_n 2, 1), (13, .ifCond .eq 16, 3), (16, .iload_n 2, 1), (17, .iconst 1, 1), (18, .if_icmp .ne 8, 3), (21, .bipush (-2), 2), (23, .goto 5, 3), (26, .bipush (-5), 2), (28, .ireturn, 1), (29, .aload_n 0, 1), (30, .invokevirtual 262, 3), (33, .aload_n 0, 1), (34, .iload_n 1, 1), (35, .invokevirtual 285, 3), (38, .aload_n 0, 1), (39, .aload_n 0, 1), (40, .getfield 13, 3), (43, .sipush 330, 3), (46, .iaload, 1), (47, .iconst 1, 1), (48, .isub, 1), (49, .invokevirtual 418, 3), (52, .istore_n 3, 1), (53, .aload_n 0, 1), (54, .invokevirtual 341, 3), (57, .iload_n 3, 1), (58, .ireturn, 1)])
theorem qmX11_wouldArrive_ok : QMK qmX11_wouldArrive := qmk_of 1985 (by decide +kernel)
def qmX11_noFaded : QMeth := (11, yX11_noFaded, cX11_noFaded, 5, (some .int), [(0, .iload_n 1, 1), (1, .i2l, 1), (2, .lconst 0, 1), (3, .ldc2_w 333, 3), (6, .invokestatic 133, 3), (9, .ifCond .eq 12, 3), (12, .aload_n 0, 1), (13, .iload_n 2, 1), (14, .i2l, 1), (15, .invokevirtual 228, 3), (18, .ifCond .ne 6, 3), (21, .bipush (-2), 2), (23, .ireturn, 1), (24, .aload_n 0, 1), (25, .iload_n 1, 1), (26, .invokevirtual 335, 3), (29, .istore_n 3, 1), (30, .iload_n 3, 1), (31, .ifCond .eq 5, 3), (34, .iload_n 3, 1), (35, .ireturn, 1), (36, .aload_n 0, 1), (37, .getfield 61, 3), (40, .iload_n 1, 1), (41, .iaload, 1), (42, .i2l, 1), (43, .lconst 1, 1), (44, .ldc2_w 428, 3), (47, .invokestatic 133, 3), (50, .ifCond .ne 6, 3), (53, .bipush (-4), 2), (55, .ireturn, 1), (56, .iconst 0, 1), (57, .istore 4, 2), (59, .iload 4, 2), (61, .aload_n 0, 1), (62, .getfield 61, 3), (65, .iload_n 1, 1), (66, .iaload, 1), (67, .if_icmp .ge 31, 3), (70, .aload_n 0, 1), (71, .aload_n 0, 1), (72, .getfield 64, 3), (75, .bipush 40, 2), (77, .iload_n 1, 1), (78, .imul, 1), (79, .iload 4, 2), (81, .iadd, 1), (82, .laload, 1), (83, .invokevirtual 221, 3), (86, .ifCond .ne 6, 3), (89, .bipush (-3), 2), (91, .ireturn, 1), (92, .iinc 4 1, 3), (95, .goto (-36), 3), (98, .iconst 0, 1), (99, .ireturn, 1)])
theorem qmX11_noFaded_ok : QMK qmX11_noFaded := qmk_of 1993 (by decide +kernel)
def qmX11_fits : QMeth := (11, yX11_fits, cX11_fits, 9, (some .long), [(0, .lconst 0, 1), (1, .lstore_n 3, 1), (2, .lconst 0, 1), (3, .lstore 5, 2), (5, .iconst 0, 1), (6, .istore 7, 2), (8, .iload 7, 2), (10, .aload_n 0, 1), (11, .getfield 61, 3), (14, .iload_n 1, 1), (15, .iaload, 1), (16, .if_icmp .ge 27, 3), (19, .lload_n 3, 1), (20, .lconst 1, 1), (21, .aload_n 0, 1), (22, .getfield 64, 3), (25, .bipush 40, 2), (27, .iload_n 1, 1), (28, .imul, 1), (29, .iload 7, 2), (31, .iadd, 1), (32, .laload, 1), (33, .l2i, 1), (34, .lshl, 1), (35, .lor, 1), (36, .lstore_n 3, 1), (37, .iinc 7 1, 3), (40, .goto (-32), 3), (43, .iconst 0, 1), (44, .istore 7, 2), (46, .iload 7, 2), (48, .aload_n 0, 1), (49, .invokevirtual 198, 3), (52, .if_icmp .ge 67, 3), (55, .aload_n 0, 1), (56, .iload_n 2, 1), (57, .iload 7, 2), (59, .invokevirtual 384, 3), (62, .iconst (-1), 1), (63, .if_icmp .eq 7, 3), (66, .iconst 1, 1), (67, .goto 4, 3), (70, .iconst 0, 1), (71, .istore 8, 2), (73, .aload_n 0, 1), (74, .getfield 54, 3), (77, .iload 7, 2), (79, .aload_n 0, 1), (80, .getfield 370, 3), (83, .lastore, 1), (84, .lload 5, 2), (86, .iload 8, 2), (88, .ifCond .eq 21, 3), (91, .aload_n 0, 1), (92, .getfield 370, 3), (95, .lload_n 3, 1), (96, .land, 1), (97, .lload_n 3, 1), (98, .lcmp, 1), (99, .ifCond .ne 10, 3), (102, .lconst 1, 1), (103, .iload 7, 2), (105, .lshl, 1), (106, .goto 4, 3), (109, .lconst 0, 1), (110, .lor, 1), (111, .lstore 5, 2), (113, .iinc 7 1, 3), (116, .goto (-70), 3), (119, .lload 5, 2), (121, .lreturn, 1)])
theorem qmX11_fits_ok : QMK qmX11_fits := qmk_of 1998 (by decide +kernel)
def qmX11_faded : QMeth := (11, yX11_faded, cX11_faded, 4, (some .long), [(0, .aload_n 0, 1), (1, .iconst 0, 1), (2, .putfield 1, 3), (5, .aload_n 0, 1), (6, .iload_n 1, 1), (7, .iload_n 2, 1), (8, .invokevirtual 430, 3), (11, .istore_n 3, 1), (12, .iload_n 3, 1), (13, .ifCond .eq 8, 3), (16, .iload_n 3, 1), (17, .i2l, 1), (18, .goto 9, 3), (21, .aload_n 0, 1), (22, .iload_n 1, 1), (23, .iload_n 2, 1), (24, .invokevirtual 433, 3), (27, .lreturn, 1)])
theorem qmX11_faded_ok : QMK qmX11_faded := qmk_of 1989 (by decide +kernel)
def qmX11_manyOf : QMeth := (11, yX11_manyOf, cX11_manyOf, 4, (some .int), [(0, .iconst 0, 1), (1, .istore_n 2, 1), (2, .iconst 0, 1), (3, .istore_n 3, 1), (4, .iload_n 3, 1), (5, .bipush 36, 2), (7, .if_icmp .ge 25, 3), (10, .iload_n 2, 1), (11, .lload_n 0, 1), (12, .iload_n 3, 1), (13, .invokestatic 387, 3), (16, .ifCond .eq 7, 3), (19, .iconst 1, 1), (20, .goto 4, 3), (23, .iconst 0, 1), (24, .iadd, 1), (25, .istore_n 2, 1), (26, .iinc 3 1, 3), (29, .goto (-25), 3), (32, .iload_n 2, 1), (33, .ireturn, 1)])
theorem qmX11_manyOf_ok : QMK qmX11_manyOf := qmk_of 2005 (by decide +kernel)
def qmX11_manyFaded : QMeth := (11, yX11_manyFaded, cX11_manyFaded, 4, (some .int), [(0, .aload_n 0, 1), (1, .iconst 0, 1), (2, .putfield 1, 3), (5, .aload_n 0, 1), (6, .iload_n 1, 1), (7, .iload_n 2, 1), (8, .invokevirtual 430, 3), (11, .istore_n 3, 1), (12, .iload_n 3, 1), (13, .ifCond .eq 7, 3), (16, .iload_n 3, 1), (17, .goto 12, 3), (20, .aload_n 0, 1), (21, .iload_n 1, 1), (22, .iload_n 2, 1), (23, .invokevirtual 433, 3), (26, .invokestatic 437, 3), (29, .ireturn, 1)])
theorem qmX11_manyFaded_ok : QMK qmX11_manyFaded := qmk_of 2002 (by decide +kernel)
def qmX11_look : QMeth := (11, yX11_look, cX11_look, 12, (some .int), [(0, .aload_n 0, 1), (1, .iconst 0, 1), (2, .putfield 1, 3), (5, .aload_n 0, 1), (6, .iload_n 1, 1), (7, .iload_n 2, 1), (8, .invokevirtual 430, 3), (11, .istore_n 3, 1), (12, .iload_n 3, 1), (13, .ifCond .eq 5, 3), (16, .iload_n 3, 1), (17, .ireturn, 1), (18, .aload_n 0, 1), (19, .iload_n 1, 1), (20, .iload_n 2, 1), (21, .invokevirtual 433, 3), (24, .lstore 4, 2), (26, .lload 4, 2), (28, .invokestatic 437, 3), (31, .istore 6, 2), (33, .iconst (-1), 1), (34, .istore 7, 2), (36, .iconst (-1), 1), (37, .istore 8, 2), (39, .iconst 0, 1), (40, .istore 9, 2), (42, .iload 9, 2), (44, .aload_n 0, 1), (45, .invokevirtual 198, 3), (48, .if_icmp .ge 112, 3), (51, .lload 4, 2), (53, .lconst 0, 1), (54, .lcmp, 1), (55, .ifCond .eq 105, 3), (58, .iconst 0, 1), (59, .istore 10, 2), (61, .iconst 0, 1), (62, .istore 11, 2), (64, .iload 11, 2), (66, .aload_n 0, 1), (67, .invokevirtual 198, 3), (70, .if_icmp .ge 44, 3), (73, .iload 10, 2), (75, .lload 4, 2), (77, .iload 11, 2), (79, .invokestatic 387, 3), (82, .ifCond .eq 22, 3), (85, .aload_n 0, 1), (86, .getfield 54, 3), (89, .iload 11, 2), (91, .laload, 1), (92, .iload 9, 2), (94, .invokestatic 387, 3), (97, .ifCond .eq 7, 3), (100, .iconst 1, 1), (101, .goto 4, 3), (104, .iconst 0, 1), (105, .iadd, 1), (106, .istore 10, 2), (108, .iinc 11 1, 3), (111, .goto (-47), 3), (114, .iload 10, 2), (116, .iload 6, 2), (118, .iload 10, 2), (120, .isub, 1), (121, .if_icmp .ge 8, 3), (124, .iload 10, 2), (126, .goto 8, 3), (129, .iload 6, 2), (131, .iload 10, 2), (133, .isub, 1), (134, .istore 11, 2), (136, .iload 11, 2), (138, .iload 8, 2), (140, .if_icmp .gt 6, 3), (143, .goto 11, 3), (146, .iload 9, 2), (148, .istore 7, 2), (150, .iload 11, 2), (152, .istore 8, 2), (154, .iinc 9 1, 3), (157, .goto (-115), 3), (160, .iload 7, 2), (162, .ireturn, 1)])
theorem qmX11_look_ok : QMK qmX11_look := qmk_of 2009 (by decide +kernel)
def qmX11_cut : QMeth := (11, yX11_cut, cX11_cut, 3, (some .long), [(0, .iload_n 2, 1), (1, .ifCond .ne 10, 3), (4, .lload_n 0, 1), (5, .l2i, 1), (6, .i2b, 1), (7, .i2l, 1), (8, .goto 27, 3), (11, .iload_n 2, 1), (12, .iconst 1, 1), (13, .if_icmp .ne 10, 3), (16, .lload_n 0, 1), (17, .l2i, 1), (18, .i2s, 1), (19, .i2l, 1), (20, .goto 15, 3), (23, .iload_n 2, 1), (24, .iconst 2, 1), (25, .if_icmp .ne 9, 3), (28, .lload_n 0, 1), (29, .l2i, 1), (30, .i2l, 1), (31, .goto 4, 3), (34, .lload_n 0, 1), (35, .lreturn, 1)])
theorem qmX11_cut_ok : QMK qmX11_cut := qmk_of 2021 (by decide +kernel)
def qmX11_numbers : QMeth := (11, yX11_numbers, cX11_numbers, 5, (some .int), [(0, .aload_n 0, 1), (1, .iconst 0, 1), (2, .putfield 1, 3), (5, .iload_n 1, 1), (6, .i2l, 1), (7, .lconst 0, 1), (8, .ldc2_w 333, 3), (11, .invokestatic 133, 3), (14, .ifCond .eq 15, 3), (17, .iload_n 2, 1), (18, .i2l, 1), (19, .lconst 0, 1), (20, .ldc2_w 333, 3), (23, .invokestatic 133, 3), (26, .ifCond .ne 6, 3), (29, .bipush (-2), 2), (31, .ireturn, 1), (32, .iload_n 3, 1), (33, .i2l, 1), (34, .lconst 0, 1), (35, .ldc2_w 351, 3), (38, .invokestatic 133, 3), (41, .ifCond .ne 6, 3), (44, .bipush (-3), 2), (46, .ireturn, 1), (47, .aload_n 0, 1), (48, .getfield 58, 3), (51, .iload_n 1, 1), (52, .iload_n 2, 1), (53, .iastore, 1), (54, .aload_n 0, 1), (55, .getfield 61, 3), (58, .iload_n 1, 1), (59, .iload_n 3, 1), (60, .iastore, 1), (61, .iconst 0, 1), (62, .istore 4, 2), (64, .iload 4, 2), (66, .iload_n 3, 1), (67, .if_icmp .ge 22, 3), (70, .aload_n 0, 1), (71, .getfield 64, 3), (74, .bipush 40, 2), (76, .iload_n 1, 1), (77, .imul, 1), (78, .iload 4, 2), (80, .iadd, 1), (81, .lconst 0, 1), (82, .lastore, 1), (83, .iinc 4 1, 3), (86, .goto (-22), 3), (89, .iconst 0, 1), (90, .ireturn, 1)])
theorem qmX11_numbers_ok : QMK qmX11_numbers := qmk_of 2013 (by decide +kernel)
def qmX11_write : QMeth := (11, yX11_write, cX11_write, 6, (some .long), [(0, .aload_n 0, 1), (1, .iconst 0, 1), (2, .putfield 1, 3), (5, .aload_n 0, 1), (6, .iload_n 1, 1), (7, .invokevirtual 335, 3), (10, .istore 5, 2), (12, .iload 5, 2), (14, .ifCond .eq 7, 3), (17, .iload 5, 2), (19, .i2l, 1), (20, .lreturn, 1), (21, .iload_n 2, 1), (22, .i2l, 1), (23, .lconst 0, 1), (24, .aload_n 0, 1), (25, .getfield 61, 3), (28, .iload_n 1, 1), (29, .iaload, 1), (30, .iconst 1, 1), (31, .isub, 1), (32, .i2l, 1), (33, .invokestatic 133, 3), (36, .ifCond .ne 7, 3), (39, .ldc2_w 440, 3), (42, .lreturn, 1), (43, .aload_n 0, 1), (44, .getfield 64, 3), (47, .bipush 40, 2), (49, .iload_n 1, 1), (50, .imul, 1), (51, .iload_n 2, 1), (52, .iadd, 1), (53, .lload_n 3, 1), (54, .aload_n 0, 1), (55, .getfield 58, 3), (58, .iload_n 1, 1), (59, .iaload, 1), (60, .invokestatic 442, 3), (63, .lastore, 1), (64, .aload_n 0, 1), (65, .getfield 64, 3), (68, .bipush 40, 2), (70, .iload_n 1, 1), (71, .imul, 1), (72, .iload_n 2, 1), (73, .iadd, 1), (74, .laload, 1), (75, .lreturn, 1)])
theorem qmX11_write_ok : QMK qmX11_write := qmk_of 2017 (by decide +kernel)
def qmX11_lists : QMeth := (11, yX11_lists, cX11_lists, 8, (some .int), [(0, .aload_n 0, 1), (1, .iconst 0, 1), (2, .putfield 1, 3), (5, .iload_n 1, 1), (6, .i2l, 1), (7, .lconst 0, 1), (8, .ldc2_w 333, 3), (11, .invokestatic 133, 3), (14, .ifCond .eq 21, 3), (17, .aload_n 0, 1), (18, .iload_n 2, 1), (19, .i2l, 1), (20, .invokevirtual 228, 3), (23, .ifCond .eq 12, 3), (26, .aload_n 0, 1), (27, .iload_n 3, 1), (28, .i2l, 1), (29, .invokevirtual 221, 3), (32, .ifCond .ne 6, 3), (35, .bipush (-2), 2), (37, .ireturn, 1), (38, .aload_n 0, 1), (39, .iload_n 1, 1), (40, .invokevirtual 335, 3), (43, .istore 4, 2), (45, .iload 4, 2), (47, .ifCond .eq 6, 3), (50, .iload 4, 2), (52, .ireturn, 1), (53, .aload_n 0, 1), (54, .iload_n 2, 1), (55, .iload_n 3, 1), (56, .invokevirtual 384, 3), (59, .istore 5, 2), (61, .iload 5, 2), (63, .iconst (-1), 1), (64, .if_icmp .ne 6, 3), (67, .bipush (-5), 2), (69, .ireturn, 1), (70, .iload 5, 2), (72, .aload_n 0, 1), (73, .getfield 61, 3), (76, .iload_n 1, 1), (77, .iaload, 1), (78, .if_icmp .ge 8, 3), (81, .iload 5, 2), (83, .goto 9, 3), (86, .aload_n 0, 1), (87, .getfield 61, 3), (90, .iload_n 1, 1), (91, .iaload, 1), (92, .istore 6, 2), (94, .iconst 0, 1), (95, .istore 7, 2), (97, .iload 7, 2), (99, .iload 6, 2), (101, .if_icmp .ge 47, 3), (104, .aload_n 0, 1), (105, .getfield 64, 3), (108, .bipush 40, 2), (110, .iload_n 1, 1), (111, .imul, 1), (112, .iload 7, 2), (114, .iadd, 1), (115, .sipush 1000, 3), (118, .iload_n 2, 1), (119, .imul, 1), (120, .bipush 10, 2), (122, .iadd, 1), (123, .aload_n 0, 1), (124, .getfield 51, 3), (127, .iload 7, 2), (129, .iaload, 1), (130, .iadd, 1), (131, .i2l, 1), (132, .aload_n 0, 1), (133, .getfield 58, 3), (136, .iload_n 1, 1), (137, .iaload, 1), (138, .invokestatic 442, 3), (141, .lastore, 1), (142, .iinc 7 1, 3), (145, .goto (-48), 3), (148, .iload 6, 2), (150, .ireturn, 1)])
theorem qmX11_lists_ok : QMK qmX11_lists := qmk_of 2025 (by decide +kernel)
def qmX11_image : QMeth := (11, yX11_image, cX11_image, 3, (some .int), [(0, .aload_n 0, 1), (1, .iconst 0, 1), (2, .putfield 1, 3), (5, .iload_n 1, 1), (6, .i2l, 1), (7, .lconst 0, 1), (8, .lconst 1, 1), (9, .invokestatic 133, 3), (12, .ifCond .ne 6, 3), (15, .bipush (-2), 2), (17, .ireturn, 1), (18, .iconst 0, 1), (19, .istore_n 2, 1), (20, .iload_n 2, 1), (21, .sipush 4375, 3), (24, .if_icmp .ge 29, 3), (27, .aload_n 0, 1), (28, .getfield 13, 3), (31, .sipush 4375, 3), (34, .iload_n 1, 1), (35, .iconst 1, 1), (36, .iadd, 1), (37, .imul, 1), (38, .iload_n 2, 1), (39, .iadd, 1), (40, .aload_n 0, 1), (41, .getfield 13, 3), (44, .iload_n 2, 1), (45, .iaload, 1), (46, .iastore, 1), (47, .iinc 2 1, 3), (50, .goto (-30), 3), (53, .aload_n 0, 1), (54, .getfield 17, 3), (57, .iload_n 1, 1), (58, .iconst 1, 1), (59, .bastore, 1), (60, .iconst 0, 1), (61, .ireturn, 1)])
theorem qmX11_image_ok : QMK qmX11_image := qmk_of 2029 (by decide +kernel)
def qmX11_restore : QMeth := (11, yX11_restore, cX11_restore, 3, (some .int), [(0, .aload_n 0, 1), (1, .iconst 0, 1), (2, .putfield 1, 3), (5, .iload_n 1, 1), (6, .i2l, 1), (7, .lconst 0, 1), (8, .lconst 1, 1), (9, .invokestatic 133, 3), (12, .ifCond .ne 6, 3), (15, .bipush (-2), 2), (17, .ireturn, 1), (18, .aload_n 0, 1), (19, .getfield 17, 3), (22, .iload_n 1, 1), (23, .baload, 1), (24, .ifCond .ne 6, 3), (27, .bipush (-5), 2), (29, .ireturn, 1), (30, .iconst 0, 1), (31, .istore_n 2, 1), (32, .iload_n 2, 1), (33, .sipush 4375, 3), (36, .if_icmp .ge 29, 3), (39, .aload_n 0, 1), (40, .getfield 13, 3), (43, .iload_n 2, 1), (44, .aload_n 0, 1), (45, .getfield 13, 3), (48, .sipush 4375, 3), (51, .iload_n 1, 1), (52, .iconst 1, 1), (53, .iadd, 1), (54, .imul, 1), (55, .iload_n 2, 1), (56, .iadd, 1), (57, .iaload, 1), (58, .iastore, 1), (59, .iinc 2 1, 3), (62, .goto (-30), 3), (65, .aload_n 0, 1), (66, .getfield 13, 3), (69, .sipush 363, 3), (72, .iconst 0, 1), (73, .iastore, 1), (74, .iconst 0, 1), (75, .ireturn, 1)])
theorem qmX11_restore_ok : QMK qmX11_restore := qmk_of 2033 (by decide +kernel)
def qmX11_crossingsMany : QMeth := (11, yX11_crossingsMany, cX11_crossingsMany, 3, (some .int), [(0, .iconst 0, 1), (1, .istore_n 1, 1), (2, .iconst 0, 1), (3, .istore_n 2, 1), (4, .iload_n 2, 1), (5, .aload_n 0, 1), (6, .invokevirtual 198, 3), (9, .if_icmp .ge 26, 3), (12, .iload_n 1, 1), (13, .aload_n 0, 1), (14, .iload_n 2, 1), (15, .invokevirtual 205, 3), (18, .iconst 2, 1), (19, .if_icmp .ne 7, 3), (22, .iconst 1, 1), (23, .goto 4, 3), (26, .iconst 0, 1), (27, .iadd, 1), (28, .istore_n 1, 1), (29, .iinc 2 1, 3), (32, .goto (-28), 3), (35, .iload_n 1, 1), (36, .ireturn, 1)])
theorem qmX11_crossingsMany_ok : QMK qmX11_crossingsMany := qmk_of 2045 (by decide +kernel)
def qmX11_rocksMany : QMeth := (11, yX11_rocksMany, cX11_rocksMany, 3, (some .int), [(0, .iconst 0, 1), (1, .istore_n 1, 1), (2, .iconst 0, 1), (3, .istore_n 2, 1), (4, .iload_n 2, 1), (5, .aload_n 0, 1), (6, .invokevirtual 198, 3), (9, .if_icmp .ge 21, 3), (12, .iload_n 1, 1), (13, .aload_n 0, 1), (14, .getfield 13, 3), (17, .bipush 10, 2), (19, .iload_n 2, 1), (20, .iadd, 1), (21, .iaload, 1), (22, .iadd, 1), (23, .istore_n 1, 1), (24, .iinc 2 1, 3), (27, .goto (-23), 3), (30, .iload_n 1, 1), (31, .ireturn, 1)])
theorem qmX11_rocksMany_ok : QMK qmX11_rocksMany := qmk_of 2041 (by decide +kernel)
def qmX11_underWay : QMeth := (11, yX11_underWay, cX11_underWay, 3, (some .int), [(0, .iconst 0, 1), (1, .istore_n 1, 1), (2, .iconst 0, 1), (3, .istore_n 2, 1), (4, .iload_n 2, 1), (5, .aload_n 0, 1), (6, .getfield 13, 3), (9, .sipush 330, 3), (12, .iaload, 1), (13, .if_icmp .ge 24, 3), (16, .iload_n 1, 1), (17, .iconst 1, 1), (18, .aload_n 0, 1), (19, .getfield 13, 3), (22, .sipush 347, 3), (25, .iload_n 2, 1), (26, .iadd, 1), (27, .iaload, 1), (28, .isub, 1), (29, .iadd, 1), (30, .istore_n 1, 1), (31, .iinc 2 1, 3), (34, .goto (-30), 3), (37, .iload_n 1, 1), (38, .ireturn, 1)])
theorem qmX11_underWay_ok : QMK qmX11_underWay := qmk_of 2049 (by decide +kernel)
def qmX11_count : QMeth := (11, yX11_count, cX11_count, 2, (some .int), [(0, .aload_n 0, 1), (1, .iconst 0, 1), (2, .putfield 1, 3), (5, .iload_n 1, 1), (6, .tableswitch 156 0 12 #[66, 73, 80, 87, 92, 97, 105, 114, 119, 127, 135, 144, 149], 66), (72, .aload_n 0, 1), (73, .getfield 13, 3), (76, .iconst 1, 1), (77, .iaload, 1), (78, .ireturn, 1), (79, .aload_n 0, 1), (80, .getfield 13, 3), (83, .iconst 2, 1), (84, .iaload, 1), (85, .ireturn, 1), (86, .aload_n 0, 1), (87, .getfield 13, 3), (90, .iconst 3, 1), (91, .iaload, 1), (92, .ireturn, 1), (93, .aload_n 0, 1), (94, .invokevirtual 446, 3), (97, .ireturn, 1), (98, .aload_n 0, 1), (99, .invokevirtual 449, 3), (102, .ireturn, 1), (103, .aload_n 0, 1), (104, .invokevirtual 400, 3), (107, .invokestatic 406, 3), (110, .ireturn, 1), (111, .aload_n 0, 1), (112, .getfield 13, 3), (115, .sipush 330, 3), (118, .iaload, 1), (119, .ireturn, 1), (120, .aload_n 0, 1), (121, .invokevirtual 452, 3), (124, .ireturn, 1), (125, .aload_n 0, 1), (126, .getfield 13, 3), (129, .bipush 52, 2), (131, .iaload, 1), (132, .ireturn, 1), (133, .aload_n 0, 1), (134, .getfield 13, 3), (137, .bipush 53, 2), (139, .iaload, 1), (140, .ireturn, 1), (141, .aload_n 0, 1), (142, .getfield 13, 3), (145, .sipush 363, 3), (148, .iaload, 1), (149, .ireturn, 1), (150, .aload_n 0, 1), (151, .getfield 71, 3), (154, .ireturn, 1), (155, .aload_n 0, 1), (156, .getfield 13, 3), (159, .iconst 0, 1), (160, .iaload, 1), (161, .ireturn, 1), (162, .iconst (-1), 1), (163, .ireturn, 1)])
theorem qmX11_count_ok : QMK qmX11_count := qmk_of 2037 (by decide +kernel)
def qmJ13_bitCount_95d88 : QMeth := (15, yJ13_bitCount_95d88, cJ13_bitCount_95d88, 2, (some .int), [(0, .lload_n 0, 1), (1, .lload_n 0, 1), (2, .iconst 1, 1), (3, .lushr, 1), (4, .ldc2_w 314, 3), (7, .land, 1), (8, .lsub, 1), (9, .lstore_n 0, 1), (10, .lload_n 0, 1), (11, .ldc2_w 316, 3), (14, .land, 1), (15, .lload_n 0, 1), (16, .iconst 2, 1), (17, .lushr, 1), (18, .ldc2_w 316, 3), (21, .land, 1), (22, .ladd, 1), (23, .lstore_n 0, 1), (24, .lload_n 0, 1), (25, .lload_n 0, 1), (26, .iconst 4, 1), (27, .lushr, 1), (28, .ladd, 1), (29, .ldc2_w 318, 3), (32, .land, 1), (33, .lstore_n 0, 1), (34, .lload_n 0, 1), (35, .lload_n 0, 1), (36, .bipush 8, 2), (38, .lushr, 1), (39, .ladd, 1), (40, .lstore_n 0, 1), (41, .lload_n 0, 1), (42, .lload_n 0, 1), (43, .bipush 16, 2), (45, .lushr, 1), (46, .ladd, 1), (47, .lstore_n 0, 1), (48, .lload_n 0, 1), (49, .lload_n 0, 1), (50, .bipush 32, 2), (52, .lushr, 1), (53, .ladd, 1), (54, .lstore_n 0, 1), (55, .lload_n 0, 1), (56, .l2i, 1), (57, .bipush 127, 2), (59, .iand, 1), (60, .ireturn, 1)])
theorem qmJ13_bitCount_95d88_ok : QMK qmJ13_bitCount_95d88 := qmk_of 1328 (by decide +kernel)
def qmJ9_floorMod_7cf53 : QMeth := (14, yJ9_floorMod_7cf53, cJ9_floorMod_7cf53, 3, (some .int), [(0, .iload_n 0, 1), (1, .iload_n 1, 1), (2, .irem, 1), (3, .istore_n 2, 1), (4, .iload_n 0, 1), (5, .iload_n 1, 1), (6, .ixor, 1), (7, .ifCond .ge 11, 3), (10, .iload_n 2, 1), (11, .ifCond .eq 7, 3), (14, .iload_n 2, 1), (15, .iload_n 1, 1), (16, .iadd, 1), (17, .ireturn, 1), (18, .iload_n 2, 1), (19, .ireturn, 1)])
theorem qmJ9_floorMod_7cf53_ok : QMK qmJ9_floorMod_7cf53 := qmk_of 1046 (by decide +kernel)
def qmJ9_abs_0f7a4 : QMeth := (14, yJ9_abs_0f7a4, cJ9_abs_0f7a4, 1, (some .int), [(0, .iload_n 0, 1), (1, .ifCond .ge 8, 3), (4, .iload_n 0, 1), (5, .ineg, 1), (6, .goto 4, 3), (9, .iload_n 0, 1), (10, .ireturn, 1)])
theorem qmJ9_abs_0f7a4_ok : QMK qmJ9_abs_0f7a4 := qmk_of 1191 (by decide +kernel)
def qmJ9_max_7cf53 : QMeth := (14, yJ9_max_7cf53, cJ9_max_7cf53, 2, (some .int), [(0, .iload_n 0, 1), (1, .iload_n 1, 1), (2, .if_icmp .lt 7, 3), (5, .iload_n 0, 1), (6, .goto 4, 3), (9, .iload_n 1, 1), (10, .ireturn, 1)])
theorem qmJ9_max_7cf53_ok : QMK qmJ9_max_7cf53 := qmk_of 670 (by decide +kernel)
def qmJ9_max_f86c9 : QMeth := (14, yJ9_max_f86c9, cJ9_max_f86c9, 4, (some .long), [(0, .lload_n 0, 1), (1, .lload_n 2, 1), (2, .lcmp, 1), (3, .ifCond .lt 7, 3), (6, .lload_n 0, 1), (7, .goto 4, 3), (10, .lload_n 2, 1), (11, .lreturn, 1)])
theorem qmJ9_max_f86c9_ok : QMK qmJ9_max_f86c9 := qmk_of 923 (by decide +kernel)
def qmJ9_min_7cf53 : QMeth := (14, yJ9_min_7cf53, cJ9_min_7cf53, 2, (some .int), [(0, .iload_n 0, 1), (1, .iload_n 1, 1), (2, .if_icmp .gt 7, 3), (5, .iload_n 0, 1), (6, .goto 4, 3), (9, .iload_n 1, 1), (10, .ireturn, 1)])
theorem qmJ9_min_7cf53_ok : QMK qmJ9_min_7cf53 := qmk_of 673 (by decide +kernel)
def qmJ9_min_f86c9 : QMeth := (14, yJ9_min_f86c9, cJ9_min_f86c9, 4, (some .long), [(0, .lload_n 0, 1), (1, .lload_n 2, 1), (2, .lcmp, 1), (3, .ifCond .gt 7, 3), (6, .lload_n 0, 1), (7, .goto 4, 3), (10, .lload_n 2, 1), (11, .lreturn, 1)])
theorem qmJ9_min_f86c9_ok : QMK qmJ9_min_f86c9 := qmk_of 920 (by decide +kernel)
def qmJ0_length_8abf5 : QMeth := (16, yJ0_length_8abf5, cJ0_length_8abf5, 1, (some .int), [(0, .aload_n 0, 1), (1, .getfield 9, 3), (4, .arraylength, 1), (5, .aload_n 0, 1), (6, .invokevirtual 335, 3), (9, .ishr, 1), (10, .ireturn, 1)])
theorem qmJ0_length_8abf5_ok : QMK qmJ0_length_8abf5 := qmk_of 594 (by decide +kernel)
def qmJ0_charAt_5068e : QMeth := (16, yJ0_charAt_5068e, cJ0_charAt_5068e, 2, (some .char), [(0, .aload_n 0, 1), (1, .invokevirtual 492, 3), (4, .ifCond .eq 12, 3), (7, .aload_n 0, 1), (8, .getfield 9, 3), (11, .iload_n 1, 1), (12, .invokestatic 495, 3), (15, .ireturn, 1), (16, .aload_n 0, 1), (17, .getfield 9, 3), (20, .iload_n 1, 1), (21, .invokestatic 498, 3), (24, .ireturn, 1)])
theorem qmJ0_charAt_5068e_ok : QMK qmJ0_charAt_5068e := qmk_of 604 (by decide +kernel)
def qmJ0_indexOf_0f7a4 : QMeth := (16, yJ0_indexOf_0f7a4, cJ0_indexOf_0f7a4, 2, (some .int), [(0, .aload_n 0, 1), (1, .iload_n 1, 1), (2, .iconst 0, 1), (3, .invokevirtual 633, 3), (6, .ireturn, 1)])
theorem qmJ0_indexOf_0f7a4_ok : QMK qmJ0_indexOf_0f7a4 := qmk_of 656 (by decide +kernel)
def qmJ0_indexOf_7cf53 : QMeth := (16, yJ0_indexOf_7cf53, cJ0_indexOf_7cf53, 3, (some .int), [(0, .aload_n 0, 1), (1, .invokevirtual 492, 3), (4, .ifCond .eq 19, 3), (7, .aload_n 0, 1), (8, .getfield 9, 3), (11, .iload_n 1, 1), (12, .iload_n 2, 1), (13, .aload_n 0, 1), (14, .invokevirtual 505, 3), (17, .invokestatic 637, 3), (20, .goto 16, 3), (23, .aload_n 0, 1), (24, .getfield 9, 3), (27, .iload_n 1, 1), (28, .iload_n 2, 1), (29, .aload_n 0, 1), (30, .invokevirtual 505, 3), (33, .invokestatic 640, 3), (36, .ireturn, 1)])
theorem qmJ0_indexOf_7cf53_ok : QMK qmJ0_indexOf_7cf53 := qmk_of 660 (by decide +kernel)
def qmJ0_coder_7d493 : QMeth := (16, yJ0_coder_7d493, cJ0_coder_7d493, 1, (some .byte), [(0, .getstatic 38, 3), (3, .ifCond .eq 10, 3), (6, .aload_n 0, 1), (7, .getfield 15, 3), (10, .goto 4, 3), (13, .iconst 1, 1), (14, .ireturn, 1)])
theorem qmJ0_coder_7d493_ok : QMK qmJ0_coder_7d493 := qmk_of 598 (by decide +kernel)
def qmJ0_isLatin1_aae02 : QMeth := (16, yJ0_isLatin1_aae02, cJ0_isLatin1_aae02, 1, (some .boolean), [(0, .getstatic 38, 3), (3, .ifCond .eq 14, 3), (6, .aload_n 0, 1), (7, .getfield 15, 3), (10, .ifCond .ne 7, 3), (13, .iconst 1, 1), (14, .goto 4, 3), (17, .iconst 0, 1), (18, .ireturn, 1)])
theorem qmJ0_isLatin1_aae02_ok : QMK qmJ0_isLatin1_aae02 := qmk_of 608 (by decide +kernel)
def qmJ0_checkIndex_df160 : QMeth := (16, yJ0_checkIndex_df160, cJ0_checkIndex_df160, 2, none, [(0, .iload_n 0, 1), (1, .iload_n 1, 1), (2, .getstatic 1053, 3), (5, .invokestatic 1059, 3), (8, .pop, 1), (9, .return_, 1)])
theorem qmJ0_checkIndex_df160_ok : QMK qmJ0_checkIndex_df160 := qmk_of 614 (by decide +kernel)
def qmJ1_charAt_3b067 : QMeth := (17, yJ1_charAt_3b067, cJ1_charAt_3b067, 2, (some .char), [(0, .iload_n 1, 1), (1, .aload_n 0, 1), (2, .arraylength, 1), (3, .invokestatic 9, 3), (6, .aload_n 0, 1), (7, .iload_n 1, 1), (8, .baload, 1), (9, .sipush 255, 3), (12, .iand, 1), (13, .i2c, 1), (14, .ireturn, 1)])
theorem qmJ1_charAt_3b067_ok : QMK qmJ1_charAt_3b067 := qmk_of 611 (by decide +kernel)
def qmJ1_canEncode_9a6ad : QMeth := (17, yJ1_canEncode_9a6ad, cJ1_canEncode_9a6ad, 1, (some .boolean), [(0, .iload_n 0, 1), (1, .ifCond .lt 14, 3), (4, .iload_n 0, 1), (5, .sipush 255, 3), (8, .if_icmp .gt 7, 3), (11, .iconst 1, 1), (12, .goto 4, 3), (15, .iconst 0, 1), (16, .ireturn, 1)])
theorem qmJ1_canEncode_9a6ad_ok : QMK qmJ1_canEncode_9a6ad := qmk_of 667 (by decide +kernel)
def qmJ1_indexOf_4cfef : QMeth := (17, yJ1_indexOf_4cfef, cJ1_indexOf_4cfef, 4, (some .int), [(0, .iload_n 1, 1), (1, .invokestatic 88, 3), (4, .ifCond .ne 5, 3), (7, .iconst (-1), 1), (8, .ireturn, 1), (9, .iload_n 2, 1), (10, .iconst 0, 1), (11, .invokestatic 92, 3), (14, .istore_n 2, 1), (15, .iload_n 3, 1), (16, .aload_n 0, 1), (17, .arraylength, 1), (18, .invokestatic 38, 3), (21, .istore_n 3, 1), (22, .iload_n 2, 1), (23, .iload_n 3, 1), (24, .if_icmp .lt 5, 3), (27, .iconst (-1), 1), (28, .ireturn, 1), (29, .aload_n 0, 1), (30, .iload_n 1, 1), (31, .iload_n 2, 1), (32, .iload_n 3, 1), (33, .invokestatic 95, 3), (36, .ireturn, 1)])
theorem qmJ1_indexOf_4cfef_ok : QMK qmJ1_indexOf_4cfef := qmk_of 664 (by decide +kernel)
def qmJ1_indexOfChar_4cfef : QMeth := (17, yJ1_indexOfChar_4cfef, cJ1_indexOfChar_4cfef, 6, (some .int), [(0, .iload_n 1, 1), (1, .i2b, 1), (2, .istore 4, 2), (4, .iload_n 2, 1), (5, .istore 5, 2), (7, .iload 5, 2), (9, .iload_n 3, 1), (10, .if_icmp .ge 21, 3), (13, .aload_n 0, 1), (14, .iload 5, 2), (16, .baload, 1), (17, .iload 4, 2), (19, .if_icmp .ne 6, 3), (22, .iload 5, 2), (24, .ireturn, 1), (25, .iinc 5 1, 3), (28, .goto (-21), 3), (31, .iconst (-1), 1), (32, .ireturn, 1)])
theorem qmJ1_indexOfChar_4cfef_ok : QMK qmJ1_indexOfChar_4cfef := qmk_of 676 (by decide +kernel)
def qmJ7_fill_d0a16 : QMeth := (13, yJ7_fill_d0a16, cJ7_fill_d0a16, 5, none, [(0, .iconst 0, 1), (1, .istore_n 3, 1), (2, .aload_n 0, 1), (3, .arraylength, 1), (4, .istore 4, 2), (6, .iload_n 3, 1), (7, .iload 4, 2), (9, .if_icmp .ge 13, 3), (12, .aload_n 0, 1), (13, .iload_n 3, 1), (14, .lload_n 1, 1), (15, .lastore, 1), (16, .iinc 3 1, 3), (19, .goto (-13), 3), (22, .return_, 1)])
theorem qmJ7_fill_d0a16_ok : QMK qmJ7_fill_d0a16 := qmk_of 1141 (by decide +kernel)
def qmJ7_fill_53178 : QMeth := (13, yJ7_fill_53178, cJ7_fill_53178, 4, none, [(0, .iconst 0, 1), (1, .istore_n 2, 1), (2, .aload_n 0, 1), (3, .arraylength, 1), (4, .istore_n 3, 1), (5, .iload_n 2, 1), (6, .iload_n 3, 1), (7, .if_icmp .ge 13, 3), (10, .aload_n 0, 1), (11, .iload_n 2, 1), (12, .iload_n 1, 1), (13, .iastore, 1), (14, .iinc 2 1, 3), (17, .goto (-12), 3), (20, .return_, 1)])
theorem qmJ7_fill_53178_ok : QMK qmJ7_fill_53178 := qmk_of 499 (by decide +kernel)
def qmJ3_checkIndex_8e157 : QMeth := (18, yJ3_checkIndex_8e157, cJ3_checkIndex_8e157, 3, (some .int), [(0, .iload_n 0, 1), (1, .ifCond .lt 8, 3), (4, .iload_n 0, 1), (5, .iload_n 1, 1), (6, .if_icmp .lt 10, 3), (9, .aload_n 2, 1), (10, .iload_n 0, 1), (11, .iload_n 1, 1), (12, .invokestatic 95, 3), (16, .iload_n 0, 1), (17, .ireturn, 1)])
theorem qmJ3_checkIndex_8e157_ok : QMK qmJ3_checkIndex_8e157 := qmk_of 619 (by decide +kernel)
end
section
def qmL_law : QMeth := (12, yL_law, cL_law, 4, (some .boolean), [(0, .new 7, 3), (3, .dup, 1), (4, .invokespecial 9, 3), (7, .astore_n 1, 1), (8, .new 10, 3), (11, .dup, 1), (12, .invokespecial 12, 3), (15, .astore_n 2, 1), (16, .iconst 0, 1), (17, .istore_n 3, 1), (18, .iload_n 3, 1), (19, .aload_n 0, 1), (20, .arraylength, 1), (21, .bipush 6, 2), (23, .isub, 1), (24, .if_icmp .gt 1626, 3), (27, .aload_n 0, 1), (28, .iload_n 3, 1), (29, .iaload, 1), (30, .bipush 63, 2), (32, .iand, 1), (33, .tableswitch 1611 0 47 #[207, 270, 293, 316, 349, 382, 415, 448, 481, 514, 573, 596, 619, 642, 665, 688, 711, 734, 767, 790, 823, 847, 880, 923, 966, 999, 1033, 1056, 1079, 1102, 1125, 1138, 1151, 1164, 1187, 1210, 1223, 1246, 1259, 1282, 1316, 1349, 1382, 1425, 1499, 1542, 1565, 1588], 207), (240, .aload_n 1, 1), (241, .aload_n 0, 1), (242, .iload_n 3, 1), (243, .iconst 1, 1), (244, .iadd, 1), (245, .iaload, 1), (246, .aload_n 0, 1), (247, .iload_n 3, 1), (248, .iconst 2, 1), (249, .iadd, 1), (250, .iaload, 1), (251, .aload_n 0, 1), (252, .iload_n 3, 1), (253, .iconst 3, 1), (254, .iadd, 1), (255, .iaload, 1), (256, .aload_n 0, 1), (257, .iload_n 3, 1), (258, .iconst 4, 1), (259, .iadd, 1), (260, .iaload, 1), (261, .aload_n 0, 1), (262, .iload_n 3, 1), (263, .iconst 5, 1), (264, .iadd, 1), (265, .iaload, 1), (266, .invokevirtual 13, 3), (269, .aload_n 2, 1), (270, .aload_n 0, 1), (271, .iload_n 3, 1), (272, .iconst 1, 1), (273, .iadd, 1), (274, .iaload, 1), (275, .aload_n 0, 1), (276, .iload_n 3, 1), (277, .iconst 2, 1), (278, .iadd, 1), (279, .iaload, 1), (280, .aload_n 0, 1), (281, .iload_n 3, 1), (282, .iconst 3, 1), (283, .iadd, 1), (284, .iaload, 1), (285, .aload_n 0, 1), (286, .iload_n 3, 1), (287, .iconst 4, 1), (288, .iadd, 1), (289, .iaload, 1), (290, .aload_n 0, 1), (291, .iload_n 3, 1), (292, .iconst 5, 1), (293, .iadd, 1), (294, .iaload, 1), (295, .invokevirtual 17, 3), (298, .if_icmp .eq 1346, 3), (301, .iconst 0, 1), (302, .ireturn, 1), (303, .aload_n 1, 1), (304, .aload_n 0, 1), (305, .iload_n 3, 1), (306, .iconst 1, 1), (307, .iadd, 1), (308, .iaload, 1), (309, .invokevirtual 18, 3), (312, .aload_n 2, 1), (313, .aload_n 0, 1), (314, .iload_n 3, 1), (315, .iconst 1, 1), (316, .iadd, 1), (317, .iaload, 1), (318, .invokevirtual 22, 3), (321, .if_icmp .eq 1323, 3), (324, .iconst 0, 1), (325, .ireturn, 1), (326, .aload_n 1, 1), (327, .aload_n 0, 1), (328, .iload_n 3, 1), (329, .iconst 1, 1), (330, .iadd, 1), (331, .iaload, 1), (332, .invokevirtual 23, 3), (335, .aload_n 2, 1), (336, .aload_n 0, 1), (337, .iload_n 3, 1), (338, .iconst 1, 1), (339, .iadd, 1), (340, .iaload, 1), (341, .invokevirtual 26, 3), (344, .if_icmp .eq 1300, 3), (347, .iconst 0, 1), (348, .ireturn, 1), (349, .aload_n 1, 1), (350, .aload_n 0, 1), (351, .iload_n 3, 1), (352, .iconst 1, 1), (353, .iadd, 1), (354, .iaload, 1), (355, .aload_n 0, 1), (356, .iload_n 3, 1), (357, .iconst 2, 1), (358, .iadd, 1), (359, .iaload, 1), (360, .invokevirtual 27, 3), (363, .aload_n 2, 1), (364, .aload_n 0, 1), (365, .iload_n 3, 1), (366, .iconst 1, 1), (367, .iadd, 1), (368, .iaload, 1), (369, .aload_n 0, 1), (370, .iload_n 3, 1), (371, .iconst 2, 1), (372, .iadd, 1), (373, .iaload, 1), (374, .invokevirtual 31, 3), (377, .if_icmp .eq 1267, 3), (380, .iconst 0, 1), (381, .ireturn, 1), (382, .aload_n 1, 1), (383, .aload_n 0, 1), (384, .iload_n 3, 1), (385, .iconst 1, 1), (386, .iadd, 1), (387, .iaload, 1), (388, .aload_n 0, 1), (389, .iload_n 3, 1), (390, .iconst 2, 1), (391, .iadd, 1), (392, .iaload, 1), (393, .invokevirtual 32, 3), (396, .aload_n 2, 1), (397, .aload_n 0, 1), (398, .iload_n 3, 1), (399, .iconst 1, 1), (400, .iadd, 1), (401, .iaload, 1), (402, .aload_n 0, 1), (403, .iload_n 3, 1), (404, .iconst 2, 1), (405, .iadd, 1), (406, .iaload, 1), (407, .invokevirtual 35, 3), (410, .if_icmp .eq 1234, 3), (413, .iconst 0, 1), (414, .ireturn, 1), (415, .aload_n 1, 1), (416, .aload_n 0, 1), (417, .iload_n 3, 1), (418, .iconst 1, 1), (419, .iadd, 1), (420, .iaload, 1), (421, .aload_n 0, 1), (422, .iload_n 3, 1), (423, .iconst 2, 1), (424, .iadd, 1), (425, .iaload, 1), (426, .invokevirtual 36, 3), (429, .aload_n 2, 1), (430, .aload_n 0, 1), (431, .iload_n 3, 1), (432, .iconst 1, 1), (433, .iadd, 1), (434, .iaload, 1), (435, .aload_n 0, 1), (436, .iload_n 3, 1), (437, .iconst 2, 1), (438, .iadd, 1), (439, .iaload, 1), (440, .invokevirtual 39, 3), (443, .if_icmp .eq 1201, 3), (446, .iconst 0, 1), (447, .ireturn, 1), (448, .aload_n 1, 1), (449, .aload_n 0, 1), (450, .iload_n 3, 1), (451, .iconst 1, 1), (452, .iadd, 1), (453, .iaload, 1), (454, .aload_n 0, 1), (455, .iload_n 3, 1), (456, .iconst 2, 1), (457, .iadd, 1), (458, .iaload, 1), (459, .invokevirtual 40, 3), (462, .aload_n 2, 1), (463, .aload_n 0, 1), (464, .iload_n 3, 1), (465, .iconst 1, 1), (466, .iadd, 1), (467, .iaload, 1), (468, .aload_n 0, 1), (469, .iload_n 3, 1), (470, .iconst 2, 1), (471, .iadd, 1), (472, .iaload, 1), (473, .invokevirtual 43, 3), (476, .if_icmp .eq 1168, 3), (479, .iconst 0, 1), (480, .ireturn, 1), (481, .aload_n 1, 1), (482, .aload_n 0, 1), (483, .iload_n 3, 1), (484, .iconst 1, 1), (485, .iadd, 1), (486, .iaload, 1), (487, .aload_n 0, 1), (488, .iload_n 3, 1), (489, .iconst 2, 1), (490, .iadd, 1), (491, .iaload, 1), (492, .invokevirtual 44, 3), (495, .aload_n 2, 1), (496, .aload_n 0, 1), (497, .iload_n 3, 1), (498, .iconst 1, 1), (499, .iadd, 1), (500, .iaload, 1), (501, .aload_n 0, 1), (502, .iload_n 3, 1), (503, .iconst 2, 1), (504, .iadd, 1), (505, .iaload, 1), (506, .invokevirtual 47, 3), (509, .if_icmp .eq 1135, 3), (512, .iconst 0, 1), (513, .ireturn, 1), (514, .aload_n 1, 1), (515, .aload_n 0, 1), (516, .iload_n 3, 1), (517, .iconst 1, 1), (518, .iadd, 1), (519, .iaload, 1), (520, .aload_n 0, 1), (521, .iload_n 3, 1), (522, .iconst 2, 1), (523, .iadd, 1), (524, .iaload, 1), (525, .invokevirtual 48, 3), (528, .aload_n 2, 1), (529, .aload_n 0, 1), (530, .iload_n 3, 1), (531, .iconst 1, 1), (532, .iadd, 1), (533, .iaload, 1), (534, .aload_n 0, 1), (535, .iload_n 3, 1), (536, .iconst 2, 1), (537, .iadd, 1), (538, .iaload, 1), (539, .invokevirtual 51, 3), (542, .if_icmp .eq 1102, 3), (545, .iconst 0, 1), (546, .ireturn, 1), (547, .aload_n 1, 1), (548, .aload_n 0, 1), (549, .iload_n 3, 1), (550, .iconst 1, 1), (551, .iadd, 1), (552, .iaload, 1), (553, .aload_n 0, 1), (554, .iload_n 3, 1), (555, .iconst 2, 1), (556, .iadd, 1), (557, .iaload, 1), (558, .aload_n 0, 1), (559, .iload_n 3, 1), (560, .iconst 3, 1), (561, .iadd, 1), (562, .iaload, 1), (563, .ifCond .eq 7, 3), (566, .iconst 1, 1), (567, .goto 4, 3), (570, .iconst 0, 1), (571, .invokevirtual 52, 3), (574, .aload_n 2, 1), (575, .aload_n 0, 1), (576, .iload_n 3, 1), (577, .iconst 1, 1), (578, .iadd, 1), (579, .iaload, 1), (580, .aload_n 0, 1), (581, .iload_n 3, 1), (582, .iconst 2, 1), (583, .iadd, 1), (584, .iaload, 1), (585, .aload_n 0, 1), (586, .iload_n 3, 1), (587, .iconst 3, 1), (588, .iadd, 1), (589, .iaload, 1), (590, .ifCond .eq 7, 3), (593, .iconst 1, 1), (594, .goto 4, 3), (597, .iconst 0, 1), (598, .invokevirtual 56, 3), (601, .if_icmp .eq 1043, 3), (604, .iconst 0, 1), (605, .ireturn, 1), (606, .aload_n 1, 1), (607, .aload_n 0, 1), (608, .iload_n 3, 1), (609, .iconst 1, 1), (610, .iadd, 1), (611, .iaload, 1), (612, .invokevirtual 57, 3), (615, .aload_n 2, 1), (616, .aload_n 0, 1), (617, .iload_n 3, 1), (618, .iconst 1, 1), (619, .iadd, 1), (620, .iaload, 1), (621, .invokevirtual 60, 3), (624, .if_icmp .eq 1020, 3), (627, .iconst 0, 1), (628, .ireturn, 1), (629, .aload_n 1, 1), (630, .aload_n 0, 1), (631, .iload_n 3, 1), (632, .iconst 1, 1), (633, .iadd, 1), (634, .iaload, 1), (635, .invokevirtual 61, 3), (638, .aload_n 2, 1), (639, .aload_n 0, 1), (640, .iload_n 3, 1), (641, .iconst 1, 1), (642, .iadd, 1), (643, .iaload, 1), (644, .invokevirtual 64, 3), (647, .if_icmp .eq 997, 3), (650, .iconst 0, 1), (651, .ireturn, 1), (652, .aload_n 1, 1), (653, .aload_n 0, 1), (654, .iload_n 3, 1), (655, .iconst 1, 1), (656, .iadd, 1), (657, .iaload, 1), (658, .invokevirtual 65, 3), (661, .aload_n 2, 1), (662, .aload_n 0, 1), (663, .iload_n 3, 1), (664, .iconst 1, 1), (665, .iadd, 1), (666, .iaload, 1), (667, .invokevirtual 68, 3), (670, .if_icmp .eq 974, 3), (673, .iconst 0, 1), (674, .ireturn, 1), (675, .aload_n 1, 1), (676, .aload_n 0, 1), (677, .iload_n 3, 1), (678, .iconst 1, 1), (679, .iadd, 1), (680, .iaload, 1), (681, .invokevirtual 69, 3), (684, .aload_n 2, 1), (685, .aload_n 0, 1), (686, .iload_n 3, 1), (687, .iconst 1, 1), (688, .iadd, 1), (689, .iaload, 1), (690, .invokevirtual 72, 3), (693, .if_icmp .eq 951, 3), (696, .iconst 0, 1), (697, .ireturn, 1), (698, .aload_n 1, 1), (699, .aload_n 0, 1), (700, .iload_n 3, 1), (701, .iconst 1, 1), (702, .iadd, 1), (703, .iaload, 1), (704, .invokevirtual 73, 3), (707, .aload_n 2, 1), (708, .aload_n 0, 1), (709, .iload_n 3, 1), (710, .iconst 1, 1), (711, .iadd, 1), (712, .iaload, 1), (713, .invokevirtual 76, 3), (716, .if_icmp .eq 928, 3), (719, .iconst 0, 1), (720, .ireturn, 1), (721, .aload_n 1, 1), (722, .aload_n 0, 1), (723, .iload_n 3, 1), (724, .iconst 1, 1), (725, .iadd, 1), (726, .iaload, 1), (727, .invokevirtual 77, 3), (730, .aload_n 2, 1), (731, .aload_n 0, 1), (732, .iload_n 3, 1), (733, .iconst 1, 1), (734, .iadd, 1), (735, .iaload, 1), (736, .invokevirtual 80, 3), (739, .if_icmp .eq 905, 3), (742, .iconst 0, 1), (743, .ireturn, 1), (744, .aload_n 1, 1), (745, .aload_n 0, 1), (746, .iload_n 3, 1), (747, .iconst 1, 1), (748, .iadd, 1), (749, .iaload, 1), (750, .invokevirtual 81, 3), (753, .aload_n 2, 1), (754, .aload_n 0, 1), (755, .iload_n 3, 1), (756, .iconst 1, 1), (757, .iadd, 1), (758, .iaload, 1), (759, .invokevirtual 84, 3), (762, .if_icmp .eq 882, 3), (765, .iconst 0, 1), (766, .ireturn, 1), (767, .aload_n 1, 1), (768, .aload_n 0, 1), (769, .iload_n 3, 1), (770, .iconst 1, 1), (771, .iadd, 1), (772, .iaload, 1), (773, .aload_n 0, 1), (774, .iload_n 3, 1), (775, .iconst 2, 1), (776, .iadd, 1), (777, .iaload, 1), (778, .invokevirtual 85, 3), (781, .aload_n 2, 1), (782, .aload_n 0, 1), (783, .iload_n 3, 1), (784, .iconst 1, 1), (785, .iadd, 1), (786, .iaload, 1), (787, .aload_n 0, 1), (788, .iload_n 3, 1), (789, .iconst 2, 1), (790, .iadd, 1), (791, .iaload, 1), (792, .invokevirtual 88, 3), (795, .if_icmp .eq 849, 3), (798, .iconst 0, 1), (799, .ireturn, 1), (800, .aload_n 1, 1), (801, .aload_n 0, 1), (802, .iload_n 3, 1), (803, .iconst 1, 1), (804, .iadd, 1), (805, .iaload, 1), (806, .invokevirtual 89, 3), (809, .aload_n 2, 1), (810, .aload_n 0, 1), (811, .iload_n 3, 1), (812, .iconst 1, 1), (813, .iadd, 1), (814, .iaload, 1), (815, .invokevirtual 92, 3), (818, .if_icmp .eq 826, 3), (821, .iconst 0, 1), (822, .ireturn, 1), (823, .aload_n 1, 1), (824, .aload_n 0, 1), (825, .iload_n 3, 1), (826, .iconst 1, 1), (827, .iadd, 1), (828, .iaload, 1), (829, .aload_n 0, 1), (830, .iload_n 3, 1), (831, .iconst 2, 1), (832, .iadd, 1), (833, .iaload, 1), (834, .invokevirtual 93, 3), (837, .aload_n 2, 1), (838, .aload_n 0, 1), (839, .iload_n 3, 1), (840, .iconst 1, 1), (841, .iadd, 1), (842, .iaload, 1), (843, .aload_n 0, 1), (844, .iload_n 3, 1), (845, .iconst 2, 1), (846, .iadd, 1), (847, .iaload, 1), (848, .invokevirtual 96, 3), (851, .if_icmp .eq 793, 3), (854, .iconst 0, 1), (855, .ireturn, 1), (856, .aload_n 1, 1), (857, .aload_n 0, 1), (858, .iload_n 3, 1), (859, .iconst 1, 1), (860, .iadd, 1), (861, .iaload, 1), (862, .invokevirtual 97, 3), (865, .aload_n 2, 1), (866, .aload_n 0, 1), (867, .iload_n 3, 1), (868, .iconst 1, 1), (869, .iadd, 1), (870, .iaload, 1), (871, .invokevirtual 101, 3), (874, .lcmp, 1), (875, .ifCond .eq 769, 3), (878, .iconst 0, 1), (879, .ireturn, 1), (880, .aload_n 1, 1), (881, .aload_n 0, 1), (882, .iload_n 3, 1), (883, .iconst 1, 1), (884, .iadd, 1), (885, .iaload, 1), (886, .aload_n 0, 1), (887, .iload_n 3, 1), (888, .iconst 2, 1), (889, .iadd, 1), (890, .iaload, 1), (891, .invokevirtual 102, 3), (894, .aload_n 2, 1), (895, .aload_n 0, 1), (896, .iload_n 3, 1), (897, .iconst 1, 1), (898, .iadd, 1), (899, .iaload, 1), (900, .aload_n 0, 1), (901, .iload_n 3, 1), (902, .iconst 2, 1), (903, .iadd, 1), (904, .iaload, 1), (905, .invokevirtual 105, 3), (908, .if_icmp .eq 736, 3), (911, .iconst 0, 1), (912, .ireturn, 1), (913, .aload_n 1, 1), (914, .aload_n 0, 1), (915, .iload_n 3, 1), (916, .iconst 1, 1), (917, .iadd, 1), (918, .iaload, 1), (919, .aload_n 0, 1), (920, .iload_n 3, 1), (921, .iconst 2, 1), (922, .iadd, 1), (923, .iaload, 1), (924, .aload_n 0, 1), (925, .iload_n 3, 1), (926, .iconst 3, 1), (927, .iadd, 1), (928, .iaload, 1), (929, .invokevirtual 106, 3), (932, .aload_n 2, 1), (933, .aload_n 0, 1), (934, .iload_n 3, 1), (935, .iconst 1, 1), (936, .iadd, 1), (937, .iaload, 1), (938, .aload_n 0, 1), (939, .iload_n 3, 1), (940, .iconst 2, 1), (941, .iadd, 1), (942, .iaload, 1), (943, .aload_n 0, 1), (944, .iload_n 3, 1), (945, .iconst 3, 1), (946, .iadd, 1), (947, .iaload, 1), (948, .invokevirtual 110, 3), (951, .if_icmp .eq 693, 3), (954, .iconst 0, 1), (955, .ireturn, 1), (956, .aload_n 1, 1), (957, .aload_n 0, 1), (958, .iload_n 3, 1), (959, .iconst 1, 1), (960, .iadd, 1), (961, .iaload, 1), (962, .aload_n 0, 1), (963, .iload_n 3, 1), (964, .iconst 2, 1), (965, .iadd, 1), (966, .iaload, 1), (967, .aload_n 0, 1), (968, .iload_n 3, 1), (969, .iconst 3, 1), (970, .iadd, 1), (971, .iaload, 1), (972, .invokevirtual 111, 3), (975, .aload_n 2, 1), (976, .aload_n 0, 1), (977, .iload_n 3, 1), (978, .iconst 1, 1), (979, .iadd, 1), (980, .iaload, 1), (981, .aload_n 0, 1), (982, .iload_n 3, 1), (983, .iconst 2, 1), (984, .iadd, 1), (985, .iaload, 1), (986, .aload_n 0, 1), (987, .iload_n 3, 1), (988, .iconst 3, 1), (989, .iadd, 1), (990, .iaload, 1), (991, .invokevirtual 114, 3), (994, .if_icmp .eq 650, 3), (997, .iconst 0, 1), (998, .ireturn, 1), (999, .aload_n 1, 1), (1000, .aload_n 0, 1), (1001, .iload_n 3, 1), (1002, .iconst 1, 1), (1003, .iadd, 1), (1004, .iaload, 1), (1005, .aload_n 0, 1), (1006, .iload_n 3, 1), (1007, .iconst 2, 1), (1008, .iadd, 1), (1009, .iaload, 1), (1010, .invokevirtual 115, 3), (1013, .aload_n 2, 1), (1014, .aload_n 0, 1), (1015, .iload_n 3, 1), (1016, .iconst 1, 1), (1017, .iadd, 1), (1018, .iaload, 1), (1019, .aload_n 0, 1), (1020, .iload_n 3, 1), (1021, .iconst 2, 1), (1022, .iadd, 1), (1023, .iaload, 1), (1024, .invokevirtual 118, 3), (1027, .if_icmp .eq 617, 3), (1030, .iconst 0, 1), (1031, .ireturn, 1), (1032, .aload_n 1, 1), (1033, .aload_n 0, 1), (1034, .iload_n 3, 1), (1035, .iconst 1, 1), (1036, .iadd, 1), (1037, .iaload, 1), (1038, .aload_n 0, 1), (1039, .iload_n 3, 1), (1040, .iconst 2, 1), (1041, .iadd, 1), (1042, .iaload, 1), (1043, .invokevirtual 119, 3), (1046, .aload_n 2, 1), (1047, .aload_n 0, 1), (1048, .iload_n 3, 1), (1049, .iconst 1, 1), (1050, .iadd, 1), (1051, .iaload, 1), (1052, .aload_n 0, 1), (1053, .iload_n 3, 1), (1054, .iconst 2, 1), (1055, .iadd, 1), (1056, .iaload, 1), (1057, .invokevirtual 123, 3), (1060, .lcmp, 1), (1061, .ifCond .eq 583, 3), (1064, .iconst 0, 1), (1065, .ireturn, 1), (1066, .aload_n 1, 1), (1067, .aload_n 0, 1), (1068, .iload_n 3, 1), (1069, .iconst 1, 1), (1070, .iadd, 1), (1071, .iaload, 1), (1072, .invokevirtual 124, 3), (1075, .aload_n 2, 1), (1076, .aload_n 0, 1), (1077, .iload_n 3, 1), (1078, .iconst 1, 1), (1079, .iadd, 1), (1080, .iaload, 1), (1081, .invokevirtual 127, 3), (1084, .if_icmp .eq 560, 3), (1087, .iconst 0, 1), (1088, .ireturn, 1), (1089, .aload_n 1, 1), (1090, .aload_n 0, 1), (1091, .iload_n 3, 1), (1092, .iconst 1, 1), (1093, .iadd, 1), (1094, .iaload, 1), (1095, .invokevirtual 128, 3), (1098, .aload_n 2, 1), (1099, .aload_n 0, 1), (1100, .iload_n 3, 1), (1101, .iconst 1, 1), (1102, .iadd, 1), (1103, .iaload, 1), (1104, .invokevirtual 131, 3), (1107, .if_icmp .eq 537, 3), (1110, .iconst 0, 1), (1111, .ireturn, 1), (1112, .aload_n 1, 1), (1113, .aload_n 0, 1), (1114, .iload_n 3, 1), (1115, .iconst 1, 1), (1116, .iadd, 1), (1117, .iaload, 1), (1118, .invokevirtual 132, 3), (1121, .aload_n 2, 1), (1122, .aload_n 0, 1), (1123, .iload_n 3, 1), (1124, .iconst 1, 1), (1125, .iadd, 1), (1126, .iaload, 1), (1127, .invokevirtual 135, 3), (1130, .if_icmp .eq 514, 3), (1133, .iconst 0, 1), (1134, .ireturn, 1), (1135, .aload_n 1, 1), (1136, .aload_n 0, 1), (1137, .iload_n 3, 1), (1138, .iconst 1, 1), (1139, .iadd, 1), (1140, .iaload, 1), (1141, .invokevirtual 136, 3), (1144, .aload_n 2, 1), (1145, .aload_n 0, 1), (1146, .iload_n 3, 1), (1147, .iconst 1, 1), (1148, .iadd, 1), (1149, .iaload, 1), (1150, .invokevirtual 139, 3), (1153, .if_icmp .eq 491, 3), (1156, .iconst 0, 1), (1157, .ireturn, 1), (1158, .aload_n 1, 1), (1159, .invokevirtual 140, 3), (1162, .aload_n 2, 1), (1163, .invokevirtual 144, 3), (1166, .if_icmp .eq 478, 3), (1169, .iconst 0, 1), (1170, .ireturn, 1), (1171, .aload_n 1, 1), (1172, .invokevirtual 145, 3), (1175, .aload_n 2, 1), (1176, .invokevirtual 148, 3), (1179, .if_icmp .eq 465, 3), (1182, .iconst 0, 1), (1183, .ireturn, 1), (1184, .aload_n 1, 1), (1185, .invokevirtual 149, 3), (1188, .aload_n 2, 1), (1189, .invokevirtual 152, 3), (1192, .if_icmp .eq 452, 3), (1195, .iconst 0, 1), (1196, .ireturn, 1), (1197, .aload_n 1, 1), (1198, .aload_n 0, 1), (1199, .iload_n 3, 1), (1200, .iconst 1, 1), (1201, .iadd, 1), (1202, .iaload, 1), (1203, .invokevirtual 153, 3), (1206, .aload_n 2, 1), (1207, .aload_n 0, 1), (1208, .iload_n 3, 1), (1209, .iconst 1, 1), (1210, .iadd, 1), (1211, .iaload, 1), (1212, .invokevirtual 156, 3), (1215, .if_icmp .eq 429, 3), (1218, .iconst 0, 1), (1219, .ireturn, 1), (1220, .aload_n 1, 1), (1221, .aload_n 0, 1), (1222, .iload_n 3, 1), (1223, .iconst 1, 1), (1224, .iadd, 1), (1225, .iaload, 1), (1226, .invokevirtual 157, 3), (1229, .aload_n 2, 1), (1230, .aload_n 0, 1), (1231, .iload_n 3, 1), (1232, .iconst 1, 1), (1233, .iadd, 1), (1234, .iaload, 1), (1235, .invokevirtual 160, 3), (1238, .if_icmp .eq 406, 3), (1241, .iconst 0, 1), (1242, .ireturn, 1), (1243, .aload_n 1, 1), (1244, .invokevirtual 161, 3), (1247, .aload_n 2, 1), (1248, .invokevirtual 164, 3), (1251, .if_icmp .eq 393, 3), (1254, .iconst 0, 1), (1255, .ireturn, 1), (1256, .aload_n 1, 1), (1257, .aload_n 0, 1), (1258, .iload_n 3, 1), (1259, .iconst 1, 1), (1260, .iadd, 1), (1261, .iaload, 1), (1262, .invokevirtual 165, 3), (1265, .aload_n 2, 1), (1266, .aload_n 0, 1), (1267, .iload_n 3, 1), (1268, .iconst 1, 1), (1269, .iadd, 1), (1270, .iaload, 1), (1271, .invokevirtual 168, 3), (1274, .if_icmp .eq 370, 3), (1277, .iconst 0, 1), (1278, .ireturn, 1), (1279, .aload_n 1, 1), (1280, .invokevirtual 169, 3), (1283, .aload_n 2, 1), (1284, .invokevirtual 172, 3), (1287, .if_icmp .eq 357, 3), (1290, .iconst 0, 1), (1291, .ireturn, 1), (1292, .aload_n 1, 1), (1293, .aload_n 0, 1), (1294, .iload_n 3, 1), (1295, .iconst 1, 1), (1296, .iadd, 1), (1297, .iaload, 1), (1298, .invokevirtual 173, 3), (1301, .aload_n 2, 1), (1302, .aload_n 0, 1), (1303, .iload_n 3, 1), (1304, .iconst 1, 1), (1305, .iadd, 1), (1306, .iaload, 1), (1307, .invokevirtual 176, 3), (1310, .if_icmp .eq 334, 3), (1313, .iconst 0, 1), (1314, .ireturn, 1), (1315, .aload_n 1, 1), (1316, .aload_n 0, 1), (1317, .iload_n 3, 1), (1318, .iconst 1, 1), (1319, .iadd, 1), (1320, .iaload, 1), (1321, .aload_n 0, 1), (1322, .iload_n 3, 1), (1323, .iconst 2, 1), (1324, .iadd, 1), (1325, .iaload, 1), (1326, .invokevirtual 177, 3), (1329, .aload_n 2, 1), (1330, .aload_n 0, 1), (1331, .iload_n 3, 1), (1332, .iconst 1, 1), (1333, .iadd, 1), (1334, .iaload, 1), (1335, .aload_n 0, 1), (1336, .iload_n 3, 1), (1337, .iconst 2, 1), (1338, .iadd, 1), (1339, .iaload, 1), (1340, .invokevirtual 180, 3), (1343, .lcmp, 1), (1344, .ifCond .eq 300, 3), (1347, .iconst 0, 1), (1348, .ireturn, 1), (1349, .aload_n 1, 1), (1350, .aload_n 0, 1), (1351, .iload_n 3, 1), (1352, .iconst 1, 1), (1353, .iadd, 1), (1354, .iaload, 1), (1355, .aload_n 0, 1), (1356, .iload_n 3, 1), (1357, .iconst 2, 1), (1358, .iadd, 1), (1359, .iaload, 1), (1360, .invokevirtual 181, 3), (1363, .aload_n 2, 1), (1364, .aload_n 0, 1), (1365, .iload_n 3, 1), (1366, .iconst 1, 1), (1367, .iadd, 1), (1368, .iaload, 1), (1369, .aload_n 0, 1), (1370, .iload_n 3, 1), (1371, .iconst 2, 1), (1372, .iadd, 1), (1373, .iaload, 1), (1374, .invokevirtual 184, 3), (1377, .if_icmp .eq 267, 3), (1380, .iconst 0, 1), (1381, .ireturn, 1), (1382, .aload_n 1, 1), (1383, .aload_n 0, 1), (1384, .iload_n 3, 1), (1385, .iconst 1, 1), (1386, .iadd, 1), (1387, .iaload, 1), (1388, .aload_n 0, 1), (1389, .iload_n 3, 1), (1390, .iconst 2, 1), (1391, .iadd, 1), (1392, .iaload, 1), (1393, .invokevirtual 185, 3), (1396, .aload_n 2, 1), (1397, .aload_n 0, 1), (1398, .iload_n 3, 1), (1399, .iconst 1, 1), (1400, .iadd, 1), (1401, .iaload, 1), (1402, .aload_n 0, 1), (1403, .iload_n 3, 1), (1404, .iconst 2, 1), (1405, .iadd, 1), (1406, .iaload, 1), (1407, .invokevirtual 188, 3), (1410, .if_icmp .eq 234, 3), (1413, .iconst 0, 1), (1414, .ireturn, 1), (1415, .aload_n 1, 1), (1416, .aload_n 0, 1), (1417, .iload_n 3, 1), (1418, .iconst 1, 1), (1419, .iadd, 1), (1420, .iaload, 1), (1421, .aload_n 0, 1), (1422, .iload_n 3, 1), (1423, .iconst 2, 1), (1424, .iadd, 1), (1425, .iaload, 1), (1426, .aload_n 0, 1), (1427, .iload_n 3, 1), (1428, .iconst 3, 1), (1429, .iadd, 1), (1430, .iaload, 1), (1431, .invokevirtual 189, 3), (1434, .aload_n 2, 1), (1435, .aload_n 0, 1), (1436, .iload_n 3, 1), (1437, .iconst 1, 1), (1438, .iadd, 1), (1439, .iaload, 1), (1440, .aload_n 0, 1), (1441, .iload_n 3, 1), (1442, .iconst 2, 1), (1443, .iadd, 1), (1444, .iaload, 1), (1445, .aload_n 0, 1), (1446, .iload_n 3, 1), (1447, .iconst 3, 1), (1448, .iadd, 1), (1449, .iaload, 1), (1450, .invokevirtual 192, 3), (1453, .if_icmp .eq 191, 3), (1456, .iconst 0, 1), (1457, .ireturn, 1), (1458, .aload_n 1, 1), (1459, .aload_n 0, 1), (1460, .iload_n 3, 1), (1461, .iconst 1, 1), (1462, .iadd, 1), (1463, .iaload, 1), (1464, .aload_n 0, 1), (1465, .iload_n 3, 1), (1466, .iconst 2, 1), (1467, .iadd, 1), (1468, .iaload, 1), (1469, .aload_n 0, 1), (1470, .iload_n 3, 1), (1471, .iconst 3, 1), (1472, .iadd, 1), (1473, .iaload, 1), (1474, .i2l, 1), (1475, .bipush 32, 2), (1477, .lshl, 1), (1478, .aload_n 0, 1), (1479, .iload_n 3, 1), (1480, .iconst 4, 1), (1481, .iadd, 1), (1482, .iaload, 1), (1483, .i2l, 1), (1484, .ldc2_w 193, 3), (1487, .land, 1), (1488, .lor, 1), (1489, .invokevirtual 195, 3), (1492, .aload_n 2, 1), (1493, .aload_n 0, 1), (1494, .iload_n 3, 1), (1495, .iconst 1, 1), (1496, .iadd, 1), (1497, .iaload, 1), (1498, .aload_n 0, 1), (1499, .iload_n 3, 1), (1500, .iconst 2, 1), (1501, .iadd, 1), (1502, .iaload, 1), (1503, .aload_n 0, 1), (1504, .iload_n 3, 1), (1505, .iconst 3, 1), (1506, .iadd, 1), (1507, .iaload, 1), (1508, .i2l, 1), (1509, .bipush 32, 2), (1511, .lshl, 1), (1512, .aload_n 0, 1), (1513, .iload_n 3, 1), (1514, .iconst 4, 1), (1515, .iadd, 1), (1516, .iaload, 1), (1517, .i2l, 1), (1518, .ldc2_w 193, 3), (1521, .land, 1), (1522, .lor, 1), (1523, .invokevirtual 199, 3), (1526, .lcmp, 1), (1527, .ifCond .eq 117, 3), (1530, .iconst 0, 1), (1531, .ireturn, 1), (1532, .aload_n 1, 1), (1533, .aload_n 0, 1), (1534, .iload_n 3, 1), (1535, .iconst 1, 1), (1536, .iadd, 1), (1537, .iaload, 1), (1538, .aload_n 0, 1), (1539, .iload_n 3, 1), (1540, .iconst 2, 1), (1541, .iadd, 1), (1542, .iaload, 1), (1543, .aload_n 0, 1), (1544, .iload_n 3, 1), (1545, .iconst 3, 1), (1546, .iadd, 1), (1547, .iaload, 1), (1548, .invokevirtual 200, 3), (1551, .aload_n 2, 1), (1552, .aload_n 0, 1), (1553, .iload_n 3, 1), (1554, .iconst 1, 1), (1555, .iadd, 1), (1556, .iaload, 1), (1557, .aload_n 0, 1), (1558, .iload_n 3, 1), (1559, .iconst 2, 1), (1560, .iadd, 1), (1561, .iaload, 1), (1562, .aload_n 0, 1), (1563, .iload_n 3, 1), (1564, .iconst 3, 1), (1565, .iadd, 1), (1566, .iaload, 1), (1567, .invokevirtual 203, 3), (1570, .if_icmp .eq 74, 3), (1573, .iconst 0, 1), (1574, .ireturn, 1), (1575, .aload_n 1, 1), (1576, .aload_n 0, 1), (1577, .iload_n 3, 1), (1578, .iconst 1, 1), (1579, .iadd, 1), (1580, .iaload, 1), (1581, .invokevirtual 204, 3), (1584, .aload_n 2, 1), (1585, .aload_n 0, 1), (1586, .iload_n 3, 1), (1587, .iconst 1, 1), (1588, .iadd, 1), (1589, .iaload, 1), (1590, .invokevirtual 207, 3), (1593, .if_icmp .eq 51, 3), (1596, .iconst 0, 1), (1597, .ireturn, 1), (1598, .aload_n 1, 1), (1599, .aload_n 0, 1), (1600, .iload_n 3, 1), (1601, .iconst 1, 1), (1602, .iadd, 1), (1603, .iaload, 1), (1604, .invokevirtual 208, 3), (1607, .aload_n 2, 1), (1608, .aload_n 0, 1), (1609, .iload_n 3, 1), (1610, .iconst 1, 1), (1611, .iadd, 1), (1612, .iaload, 1), (1613, .invokevirtual 211, 3), (1616, .if_icmp .eq 28, 3), (1619, .iconst 0, 1), (1620, .ireturn, 1), (1621, .aload_n 1, 1), (1622, .aload_n 0, 1), (1623, .iload_n 3, 1), (1624, .iconst 1, 1), (1625, .iadd, 1), (1626, .iaload, 1), (1627, .invokevirtual 212, 3), (1630, .aload_n 2, 1), (1631, .aload_n 0, 1), (1632, .iload_n 3, 1), (1633, .iconst 1, 1), (1634, .iadd, 1), (1635, .iaload, 1), (1636, .invokevirtual 215, 3), (1639, .if_icmp .eq 5, 3), (1642, .iconst 0, 1), (1643, .ireturn, 1), (1644, .iinc 3 6, 3), (1647, .goto (-1629), 3), (1650, .iconst 1, 1), (1651, .ireturn, 1)])
end
section
def qnth {α : Type} (l : List α) (n : Nat) (d : α) : α := match l, n with
  | [], _ => d
  | a :: _, 0 => a
  | _ :: r, n + 1 => qnth r n d
def qtab {α : Type} (t : List (List α)) (n : Nat) (d : α) : α := qnth (qnth t (n / 16) []) (n % 16) d
/-- the cells, once the law has made both objects: kind and size -/
def qshT : List (List (Nat × Int)) := [[(10, 11), (102, 900), (5, 7), (1, 12), (100, 36), (100, 6), (100, 6), (2, 3), (100, 900), (100, 32), (2, 3), (100, 900), (100, 32), (7, 4), (100, 901), (100, 901)],
  [(100, 901), (1, 12), (100, 36), (100, 6), (100, 6), (2, 3), (100, 900), (100, 32), (2, 3), (100, 900), (100, 32), (6, 12), (100, 6), (100, 6), (100, 96), (100, 96)],
  [(100, 36), (100, 36), (100, 8), (100, 8), (100, 8), (6, 12), (100, 6), (100, 6), (100, 96), (100, 96), (100, 36), (100, 36), (100, 8), (100, 8), (100, 8), (3, 3)],
  [(104, 10), (6, 12), (100, 6), (100, 6), (100, 96), (100, 96), (100, 36), (100, 36), (100, 8), (100, 8), (100, 8), (6, 12), (100, 6), (100, 6), (100, 96), (100, 96)],
  [(100, 36), (100, 36), (100, 8), (100, 8), (100, 8), (6, 12), (100, 6), (100, 6), (100, 96), (100, 96), (100, 36), (100, 36), (100, 8), (100, 8), (100, 8), (6, 12)],
  [(100, 6), (100, 6), (100, 96), (100, 96), (100, 36), (100, 36), (100, 8), (100, 8), (100, 8), (6, 12), (100, 6), (100, 6), (100, 96), (100, 96), (100, 36), (100, 36)],
  [(100, 8), (100, 8), (100, 8), (6, 12), (100, 6), (100, 6), (100, 96), (100, 96), (100, 36), (100, 36), (100, 8), (100, 8), (100, 8), (6, 12), (100, 6), (100, 6)],
  [(100, 96), (100, 96), (100, 36), (100, 36), (100, 8), (100, 8), (100, 8), (6, 12), (100, 6), (100, 6), (100, 96), (100, 96), (100, 36), (100, 36), (100, 8), (100, 8)],
  [(100, 8), (6, 12), (100, 6), (100, 6), (100, 96), (100, 96), (100, 36), (100, 36), (100, 8), (100, 8), (100, 8), (6, 12), (100, 6), (100, 6), (100, 96), (100, 96)],
  [(100, 36), (100, 36), (100, 8), (100, 8), (100, 8), (105, 4), (106, 2), (9, 17), (100, 36), (100, 36), (101, 36), (101, 36), (100, 36), (101, 36), (101, 36), (100, 36)],
  [(100, 144), (4, 4), (100, 6), (100, 36), (100, 64), (8, 3), (101, 40), (8, 3), (101, 40), (8, 3), (101, 40), (8, 3), (101, 40), (0, 3), (1, 12), (100, 36)],
  [(100, 6), (100, 6), (2, 3), (100, 900), (100, 32), (2, 3), (100, 900), (100, 32), (6, 12), (100, 6), (100, 6), (100, 96), (100, 96), (100, 36), (100, 36), (100, 8)],
  [(100, 8), (100, 8), (0, 3), (1, 12), (100, 36), (100, 6), (100, 6), (2, 3), (100, 900), (100, 32), (2, 3), (100, 900), (100, 32), (6, 12), (100, 6), (100, 6)],
  [(100, 96), (100, 96), (100, 36), (100, 36), (100, 8), (100, 8), (100, 8), (11, 31), (100, 13125), (103, 2), (100, 900), (100, 4375), (100, 900), (100, 5), (100, 311), (100, 612)],
  [(103, 36), (100, 36), (100, 16), (101, 36), (100, 4), (100, 4), (101, 160)]]
/-- their references; x: the law that the reader of texts is at -/
def qrfT (x : Int) : List (List (List Int)) := [[[1, (-1), 2, 17, 27, 37, 47, 149, 150, 151, 161], [], [(-1), (-1), 3, 13, (-1), x, (-1)], [(-1), (-1), (-1), (-1), (-1), (-1), (-1), 4, 5, 6, 7, 10], [], [], [], [8, 9, (-1)], [], [], [11, 12, (-1)], [], [], [14, 15, 16, (-1)], [], []],
  [[], [(-1), (-1), (-1), (-1), (-1), (-1), (-1), 18, 19, 20, 21, 24], [], [], [], [22, 23, (-1)], [], [], [25, 26, (-1)], [], [], [28, 29, 30, 31, 32, 33, (-1), 34, 35, 36, (-1), (-1)], [], [], [], []],
  [[], [], [], [], [], [38, 39, 40, 41, 42, 43, (-1), 44, 45, 46, (-1), (-1)], [], [], [], [], [], [], [], [], [], [48, (-1), (-1)]],
  [[49, 59, 69, 79, 89, 99, 109, 119, 129, 139], [50, 51, 52, 53, 54, 55, (-1), 56, 57, 58, (-1), (-1)], [], [], [], [], [], [], [], [], [], [60, 61, 62, 63, 64, 65, (-1), 66, 67, 68, (-1), (-1)], [], [], [], []],
  [[], [], [], [], [], [70, 71, 72, 73, 74, 75, (-1), 76, 77, 78, (-1), (-1)], [], [], [], [], [], [], [], [], [], [80, 81, 82, 83, 84, 85, (-1), 86, 87, 88, (-1), (-1)]],
  [[], [], [], [], [], [], [], [], [], [90, 91, 92, 93, 94, 95, (-1), 96, 97, 98, (-1), (-1)], [], [], [], [], [], []],
  [[], [], [], [100, 101, 102, 103, 104, 105, (-1), 106, 107, 108, (-1), (-1)], [], [], [], [], [], [], [], [], [], [110, 111, 112, 113, 114, 115, (-1), 116, 117, 118, (-1), (-1)], [], []],
  [[], [], [], [], [], [], [], [120, 121, 122, 123, 124, 125, (-1), 126, 127, 128, (-1), (-1)], [], [], [], [], [], [], [], []],
  [[], [130, 131, 132, 133, 134, 135, (-1), 136, 137, 138, (-1), (-1)], [], [], [], [], [], [], [], [], [], [140, 141, 142, 143, 144, 145, (-1), 146, 147, 148, (-1), (-1)], [], [], [], []],
  [[], [], [], [], [], [165, 167, 169, 171], [173, 194], [152, 153, 154, 155, 156, 157, 158, 159, 160, (-1), (-1), (-1), (-1), (-1), (-1), (-1), (-1)], [], [], [], [], [], [], [], []],
  [[], [162, 163, 164, (-1)], [], [], [], [166, (-1), (-1)], [], [168, (-1), (-1)], [], [170, (-1), (-1)], [], [172, (-1), (-1)], [], [(-1), 174, 184], [(-1), (-1), (-1), (-1), (-1), (-1), (-1), 175, 176, 177, 178, 181], []],
  [[], [], [179, 180, (-1)], [], [], [182, 183, (-1)], [], [], [185, 186, 187, 188, 189, 190, (-1), 191, 192, 193, (-1), (-1)], [], [], [], [], [], [], []],
  [[], [], [(-1), 195, 205], [(-1), (-1), (-1), (-1), (-1), (-1), (-1), 196, 197, 198, 199, 202], [], [], [], [200, 201, (-1)], [], [], [203, 204, (-1)], [], [], [206, 207, 208, 209, 210, 211, (-1), 212, 213, 214, (-1), (-1)], [], []],
  [[], [], [], [], [], [], [], [(-1), 216, 217, 218, 219, (-1), (-1), (-1), (-1), (-1), (-1), (-1), (-1), (-1), (-1), (-1), 220, 221, 222, (-1), (-1), 223, 224, 225, (-1), 226, (-1), 227, 228, 229, 230], [], [], [], [], [], [], [], []],
  [[], [], [], [], [], [], []]]
def qS (x : Int) : QS := (231, (fun a => match a with | .ofNat n => qtab qshT n (999, 0) | .negSucc _ => (999, 0)), (fun a j => match a, j with | .ofNat n, .ofNat k => qnth (qtab (qrfT x) n []) k (-1) | _, _ => -1))
/-- behind a call: the layout is the same, the numbers may have changed -/
def qk (S : QS) (f : Int → QMem → Prop) : Int → QH → Prop := fun x h => ∃ M : QMem, h = (S, M) ∧ f x M
abbrev QCm (X : QX) (x : Int) (d rk : Nat) (y : MethodName) (as : List QV) (M : QMem) (post : Int → QMem → Prop) : Prop := QC X d 0 0 rk y as (qS x, M) (qk (qS x) post)
abbrev QRm (X : QX) (x : Int) (d : Nat) (m : QMeth) (post : Int → QMem → Prop) (pc : Nat) (lv : List (Nat × QV)) (st : List QV) (M : QMem) : Prop := QR X d (0, 0) m (qk (qS x) post) (0, 0) pc lv st (qS x, M)
end
section
theorem TX11_within_0 {X : QX} {x : Int} {d : Nat} {post : Int → QMem → Prop} {M : QMem} {v0 v2 v4 : Int} (t : in64 v0 ∧ in64 v2 ∧ (v0 < v2 → (post 0 M)) ∧ (¬ v0 < v2 → (in64 v4 ∧ (v4 < v0 → (post 0 M)) ∧ (¬ v4 < v0 → (post 1 M))))) : QRm X x d qmX11_within post 0 [(0, (1, v0)), (2, (1, v2)), (4, (1, v4))] [] M := qwp_ok qmX11_within_ok.1 [] 14 (⟨t.1, t.2.1, fun z1 => ⟨(Or.inl rfl), ⟨_, rfl, (t.2.2.1 z1)⟩⟩, fun z1 => ⟨t.1, (t.2.2.2 z1).1, fun z2 => ⟨(Or.inl rfl), ⟨_, rfl, ((t.2.2.2 z1).2.1 z2)⟩⟩, fun z2 => ⟨(Or.inr rfl), ⟨_, rfl, ((t.2.2.2 z1).2.2 z2)⟩⟩⟩⟩)
theorem TX11_plain_0 {X : QX} {x : Int} {d : Nat} {post : Int → QMem → Prop} {M : QMem} {v0 : Int} (t : QRm X x d qmX11_plain post 2 [(0, (2, v0)), (1, (0, 0))] [] M) : QRm X x d qmX11_plain post 0 [(0, (2, v0))] [] M := qwp_ok qmX11_plain_ok.1 [(2, [0, 1]), (29, [0, 1])] 41 (t)
theorem TX11_plain_2 {X : QX} {x : Int} {d : Nat} {post : Int → QMem → Prop} {M : QMem} {v0 v1 : Int} (t : in32 v1 ∧ ((4375 : Int) ≤ v1 → (((qS x).2.1 v0).1 = 100 ∧ ((1 : Int) < ((qS x).2.1 v0).2 ∧ ((2 : Int) < ((qS x).2.1 v0).2 ∧ (QRm X x d qmX11_plain post 29 [(0, (2, v0)), (1, (0, 0))] [] (qup (qup M v0 1 2) v0 2 2)))))) ∧ (¬ (4375 : Int) ≤ v1 → (((qS x).2.1 v0).1 = 100 ∧ ((0 : Int) ≤ v1 ∧ (v1 < ((qS x).2.1 v0).2 ∧ (QRm X x d qmX11_plain post 2 [(0, (2, v0)), (1, (0, v1 + 1))] [] (qup M v0 v1 0))))))) : QRm X x d qmX11_plain post 2 [(0, (2, v0)), (1, (0, v1))] [] M := qwp_ok qmX11_plain_ok.1 [(2, [0, 1]), (29, [0, 1])] 41 (⟨t.1, (show in32 4375 from ⟨by decide, by decide⟩), fun z1 => ⟨(t.2.1 z1).1, ⟨(show (0 : Int) ≤ 1 by decide), ⟨(t.2.1 z1).2.1, ⟨(t.2.1 z1).1, ⟨(show (0 : Int) ≤ 2 by decide), ⟨(t.2.1 z1).2.2.1, (t.2.1 z1).2.2.2⟩⟩⟩⟩⟩⟩, fun z1 => ⟨(t.2.2 z1).1, ⟨(t.2.2 z1).2.1, ⟨(t.2.2 z1).2.2.1, (t.2.2 z1).2.2.2⟩⟩⟩⟩)
theorem TX11_plain_29 {X : QX} {x : Int} {d : Nat} {post : Int → QMem → Prop} {M : QMem} {v0 v1 : Int} (t : in32 v1 ∧ ((36 : Int) ≤ v1 → (post 0 M)) ∧ (¬ (36 : Int) ≤ v1 → (((qS x).2.1 v0).1 = 100 ∧ ((0 : Int) ≤ 258 + v1 ∧ (258 + v1 < ((qS x).2.1 v0).2 ∧ ((0 : Int) ≤ 294 + v1 ∧ (294 + v1 < ((qS x).2.1 v0).2 ∧ (QRm X x d qmX11_plain post 29 [(0, (2, v0)), (1, (0, v1 + 1))] [] (qup (qup M v0 (258 + v1) (-1)) v0 (294 + v1) (-1)))))))))) : QRm X x d qmX11_plain post 29 [(0, (2, v0)), (1, (0, v1))] [] M := qwp_ok qmX11_plain_ok.1 [(2, [0, 1]), (29, [0, 1])] 41 (⟨t.1, (show in32 36 from ⟨by decide, by decide⟩), fun z1 => ⟨_, rfl, (t.2.1 z1)⟩, fun z1 => ⟨(t.2.2 z1).1, ⟨(t.2.2 z1).2.1, ⟨(t.2.2 z1).2.2.1, ⟨(t.2.2 z1).1, ⟨(t.2.2 z1).2.2.2.1, ⟨(t.2.2 z1).2.2.2.2.1, (t.2.2 z1).2.2.2.2.2⟩⟩⟩⟩⟩⟩⟩)
theorem TX11_feed_0 {X : QX} {x : Int} {d : Nat} {post : Int → QMem → Prop} {M : QMem} {v1 v2 v3 v4 v5 : Int} (t : in32 (((qup M 215 0 0) 215 5) + 20) ∧ (((qup M 215 0 0) 215 5) + 20 ≤ 900 → (QRm X x d qmX11_feed post 24 [(0, (2, 215)), (1, (0, v1)), (2, (0, v2)), (3, (0, v3)), (4, (0, v4)), (5, (0, v5)), (6, (0, 0))] [] (qup M 215 0 0))) ∧ (¬ ((qup M 215 0 0) 215 5) + 20 ≤ 900 → (post (-5) (qup M 215 0 0)))) : QRm X x d qmX11_feed post 0 [(0, (2, 215)), (1, (0, v1)), (2, (0, v2)), (3, (0, v3)), (4, (0, v4)), (5, (0, v5))] [] M := qwp_ok qmX11_feed_ok.1 [(24, [0, 1, 2, 3, 4, 5, 6])] 67 (⟨rfl, ⟨rfl, ⟨t.1, (show in32 900 from ⟨by decide, by decide⟩), fun z1 => (t.2.1 z1), fun z1 => ⟨_, rfl, (t.2.2 z1)⟩⟩⟩⟩)
theorem TX11_feed_24 {X : QX} {x : Int} {d : Nat} {post : Int → QMem → Prop} {M : QMem} {v1 v2 v3 v4 v5 v6 : Int} (t : in32 v6 ∧ ((20 : Int) ≤ v6 → (post (M 215 5) M)) ∧ (¬ (20 : Int) ≤ v6 → (((4 : Int) ≤ v6 → (((8 : Int) ≤ v6 → (((12 : Int) ≤ v6 → (((16 : Int) ≤ v6 → ((0 : Int) ≤ M 215 5 ∧ (M 215 5 < 900 ∧ (QRm X x d qmX11_feed post 24 [(0, (2, 215)), (1, (0, v1)), (2, (0, v2)), (3, (0, v3)), (4, (0, v4)), (5, (0, v5)), (6, (0, v6 + 1))] [] (qup (qup M 218 (M 215 5) (qand (qshr v5 (24 - (8 * (v6.tmod 4)))) 255)) 215 5 (((qup M 218 (M 215 5) (qand (qshr v5 (24 - (8 * (v6.tmod 4)))) 255)) 215 5) + 1)))))) ∧ (¬ (16 : Int) ≤ v6 → ((0 : Int) ≤ M 215 5 ∧ (M 215 5 < 900 ∧ (QRm X x d qmX11_feed post 24 [(0, (2, 215)), (1, (0, v1)), (2, (0, v2)), (3, (0, v3)), (4, (0, v4)), (5, (0, v5)), (6, (0, v6 + 1))] [] (qup (qup M 218 (M 215 5) (qand (qshr v4 (24 - (8 * (v6.tmod 4)))) 255)) 215 5 (((qup M 218 (M 215 5) (qand (qshr v4 (24 - (8 * (v6.tmod 4)))) 255)) 215 5) + 1)))))))) ∧ (¬ (12 : Int) ≤ v6 → ((0 : Int) ≤ M 215 5 ∧ (M 215 5 < 900 ∧ (QRm X x d qmX11_feed post 24 [(0, (2, 215)), (1, (0, v1)), (2, (0, v2)), (3, (0, v3)), (4, (0, v4)), (5, (0, v5)), (6, (0, v6 + 1))] [] (qup (qup M 218 (M 215 5) (qand (qshr v3 (24 - (8 * (v6.tmod 4)))) 255)) 215 5 (((qup M 218 (M 215 5) (qand (qshr v3 (24 - (8 * (v6.tmod 4)))) 255)) 215 5) + 1)))))))) ∧ (¬ (8 : Int) ≤ v6 → ((0 : Int) ≤ M 215 5 ∧ (M 215 5 < 900 ∧ (QRm X x d qmX11_feed post 24 [(0, (2, 215)), (1, (0, v1)), (2, (0, v2)), (3, (0, v3)), (4, (0, v4)), (5, (0, v5)), (6, (0, v6 + 1))] [] (qup (qup M 218 (M 215 5) (qand (qshr v2 (24 - (8 * (v6.tmod 4)))) 255)) 215 5 (((qup M 218 (M 215 5) (qand (qshr v2 (24 - (8 * (v6.tmod 4)))) 255)) 215 5) + 1)))))))) ∧ (¬ (4 : Int) ≤ v6 → ((0 : Int) ≤ M 215 5 ∧ (M 215 5 < 900 ∧ (QRm X x d qmX11_feed post 24 [(0, (2, 215)), (1, (0, v1)), (2, (0, v2)), (3, (0, v3)), (4, (0, v4)), (5, (0, v5)), (6, (0, v6 + 1))] [] (qup (qup M 218 (M 215 5) (qand (qshr v1 (24 - (8 * (v6.tmod 4)))) 255)) 215 5 (((qup M 218 (M 215 5) (qand (qshr v1 (24 - (8 * (v6.tmod 4)))) 255)) 215 5) + 1))))))))) : QRm X x d qmX11_feed post 24 [(0, (2, 215)), (1, (0, v1)), (2, (0, v2)), (3, (0, v3)), (4, (0, v4)), (5, (0, v5)), (6, (0, v6))] [] M := qwp_ok qmX11_feed_ok.1 [(24, [0, 1, 2, 3, 4, 5, 6])] 67 (⟨t.1, (show in32 20 from ⟨by decide, by decide⟩), fun z1 => ⟨rfl, ⟨_, rfl, (t.2.1 z1)⟩⟩, fun z1 => ⟨t.1, (show in32 4 from ⟨by decide, by decide⟩), fun z2 => ⟨t.1, (show in32 8 from ⟨by decide, by decide⟩), fun z3 => ⟨t.1, (show in32 12 from ⟨by decide, by decide⟩), fun z4 => ⟨t.1, (show in32 16 from ⟨by decide, by decide⟩), fun z5 => ⟨rfl, ⟨rfl, ⟨t.1, ⟨(show in32 4 from ⟨by decide, by decide⟩), ⟨(show (0 : Int) < 4 by decide), ⟨rfl, ⟨(((((t.2.2 z1).1 z2).1 z3).1 z4).1 z5).1, ⟨(((((t.2.2 z1).1 z2).1 z3).1 z4).1 z5).2.1, ⟨rfl, ⟨rfl, (((((t.2.2 z1).1 z2).1 z3).1 z4).1 z5).2.2⟩⟩⟩⟩⟩⟩⟩⟩⟩⟩, fun z5 => ⟨rfl, ⟨rfl, ⟨t.1, ⟨(show in32 4 from ⟨by decide, by decide⟩), ⟨(show (0 : Int) < 4 by decide), ⟨rfl, ⟨(((((t.2.2 z1).1 z2).1 z3).1 z4).2 z5).1, ⟨(((((t.2.2 z1).1 z2).1 z3).1 z4).2 z5).2.1, ⟨rfl, ⟨rfl, (((((t.2.2 z1).1 z2).1 z3).1 z4).2 z5).2.2⟩⟩⟩⟩⟩⟩⟩⟩⟩⟩⟩, fun z4 => ⟨rfl, ⟨rfl, ⟨t.1, ⟨(show in32 4 from ⟨by decide, by decide⟩), ⟨(show (0 : Int) < 4 by decide), ⟨rfl, ⟨((((t.2.2 z1).1 z2).1 z3).2 z4).1, ⟨((((t.2.2 z1).1 z2).1 z3).2 z4).2.1, ⟨rfl, ⟨rfl, ((((t.2.2 z1).1 z2).1 z3).2 z4).2.2⟩⟩⟩⟩⟩⟩⟩⟩⟩⟩⟩, fun z3 => ⟨rfl, ⟨rfl, ⟨t.1, ⟨(show in32 4 from ⟨by decide, by decide⟩), ⟨(show (0 : Int) < 4 by decide), ⟨rfl, ⟨(((t.2.2 z1).1 z2).2 z3).1, ⟨(((t.2.2 z1).1 z2).2 z3).2.1, ⟨rfl, ⟨rfl, (((t.2.2 z1).1 z2).2 z3).2.2⟩⟩⟩⟩⟩⟩⟩⟩⟩⟩⟩, fun z2 => ⟨rfl, ⟨rfl, ⟨t.1, ⟨(show in32 4 from ⟨by decide, by decide⟩), ⟨(show (0 : Int) < 4 by decide), ⟨rfl, ⟨((t.2.2 z1).2 z2).1, ⟨((t.2.2 z1).2 z2).2.1, ⟨rfl, ⟨rfl, ((t.2.2 z1).2 z2).2.2⟩⟩⟩⟩⟩⟩⟩⟩⟩⟩⟩⟩)
theorem TX11_see_0 {X : QX} {x : Int} {d : Nat} {post : Int → QMem → Prop} {M : QMem} {v1 : Int} (t : in32 v1 ∧ in32 (M 215 8) ∧ (M 215 8 ≤ v1 → (post (-1) M)) ∧ (¬ M 215 8 ≤ v1 → ((0 : Int) ≤ v1 ∧ (v1 < 900 ∧ (post (M 218 v1) M))))) : QRm X x d qmX11_see post 0 [(0, (2, 215)), (1, (0, v1))] [] M := qwp_ok qmX11_see_ok.1 [] 13 (⟨rfl, ⟨t.1, t.2.1, fun z1 => ⟨_, rfl, (t.2.2.1 z1)⟩, fun z1 => ⟨rfl, ⟨rfl, ⟨(t.2.2.2 z1).1, ⟨(t.2.2.2 z1).2.1, ⟨_, rfl, (t.2.2.2 z1).2.2⟩⟩⟩⟩⟩⟩⟩)
theorem TX11_isSmall_0 {X : QX} {x : Int} {d : Nat} {post : Int → QMem → Prop} {M : QMem} {v0 : Int} (t : in32 v0 ∧ (v0 < 97 → (post 0 M)) ∧ (¬ v0 < 97 → (((122 : Int) < v0 → (post 0 M)) ∧ (¬ (122 : Int) < v0 → (post 1 M))))) : QRm X x d qmX11_isSmall post 0 [(0, (0, v0))] [] M := qwp_ok qmX11_isSmall_ok.1 [] 12 (⟨t.1, (show in32 97 from ⟨by decide, by decide⟩), fun z1 => ⟨(Or.inl rfl), ⟨_, rfl, (t.2.1 z1)⟩⟩, fun z1 => ⟨t.1, (show in32 122 from ⟨by decide, by decide⟩), fun z2 => ⟨(Or.inl rfl), ⟨_, rfl, ((t.2.2 z1).1 z2)⟩⟩, fun z2 => ⟨(Or.inr rfl), ⟨_, rfl, ((t.2.2 z1).2 z2)⟩⟩⟩⟩)
theorem TX11_isDigit_0 {X : QX} {x : Int} {d : Nat} {post : Int → QMem → Prop} {M : QMem} {v0 : Int} (t : in32 v0 ∧ (v0 < 48 → (post 0 M)) ∧ (¬ v0 < 48 → (((57 : Int) < v0 → (post 0 M)) ∧ (¬ (57 : Int) < v0 → (post 1 M))))) : QRm X x d qmX11_isDigit post 0 [(0, (0, v0))] [] M := qwp_ok qmX11_isDigit_ok.1 [] 12 (⟨t.1, (show in32 48 from ⟨by decide, by decide⟩), fun z1 => ⟨(Or.inl rfl), ⟨_, rfl, (t.2.1 z1)⟩⟩, fun z1 => ⟨t.1, (show in32 57 from ⟨by decide, by decide⟩), fun z2 => ⟨(Or.inl rfl), ⟨_, rfl, ((t.2.2 z1).1 z2)⟩⟩, fun z2 => ⟨(Or.inr rfl), ⟨_, rfl, ((t.2.2 z1).2 z2)⟩⟩⟩⟩)
theorem TX11_keyAt_0 {X : QX} {x : Int} {d : Nat} {post : Int → QMem → Prop} {M : QMem} (t : QRm X x (d + 1) qmX11_keyAt post 4 [(0, (2, 215)), (1, (0, 0)), (2, (0, 1))] [] M) : QRm X x (d + 1) qmX11_keyAt post 0 [(0, (2, 215))] [] M := qwp_ok qmX11_keyAt_ok.1 [(4, [0, 1, 2]), (15, [0, 1, 2, 3]), (97, [0, 1, 2])] 69 (t)
theorem TX11_keyAt_4 {X : QX} {x : Int} {d : Nat} {post : Int → QMem → Prop} {M : QMem} {v1 v2 : Int} (t : QCm X x d 1 yJ0_length_8abf5 [(2, (-18))] M (fun x1 M1 => in32 v2 ∧ in32 x1 ∧ (x1 ≤ v2 → (post 22 M1)) ∧ (¬ x1 ≤ v2 → (QRm X x (d + 1) qmX11_keyAt post 15 [(0, (2, 215)), (1, (0, v1)), (2, (0, v2)), (3, (0, 0))] [] M1)))) : QRm X x (d + 1) qmX11_keyAt post 4 [(0, (2, 215)), (1, (0, v1)), (2, (0, v2))] [] M := qwp_ok qmX11_keyAt_ok.1 [(4, [0, 1, 2]), (15, [0, 1, 2, 3]), (97, [0, 1, 2])] 69 (⟨⟨by decide, by decide⟩, QC.mono t (fun x1 h1 u1 => by obtain ⟨M1, rfl, u1⟩ := u1; exact ⟨u1.1, u1.2.1, fun z2 => ⟨_, rfl, (u1.2.2.1 z2)⟩, fun z2 => (u1.2.2.2 z2)⟩)⟩)
theorem TX11_keyAt_15 {X : QX} {x : Int} {d : Nat} {post : Int → QMem → Prop} {M : QMem} {v1 v2 v3 : Int} (t : QCm X x d 1 yJ0_charAt_5068e [(2, (-18)), (0, v2 + v3)] M (fun x1 M1 => (x1 = 32 → (QCm X x d 1 yJ0_charAt_5068e [(2, (-18)), (0, v2 + v3)] M1 (fun x2 M2 => (x2 = 32 → (((M2 215 6) + v3 = M2 215 7 → (post v1 M2)) ∧ (¬ (M2 215 6) + v3 = M2 215 7 → in32 ((M2 215 6) + v3) ∧ in32 (M2 215 7) ∧ (QRm X x (d + 1) qmX11_keyAt post 97 [(0, (2, 215)), (1, (0, v1)), (2, (0, v2))] [] M2)))) ∧ (¬ x2 = 32 → in32 x2 ∧ (QRm X x (d + 1) qmX11_keyAt post 97 [(0, (2, 215)), (1, (0, v1)), (2, (0, v2))] [] M2))))) ∧ (¬ x1 = 32 → in32 x1 ∧ (in32 ((M1 215 6) + v3) ∧ in32 (M1 215 7) ∧ (M1 215 7 ≤ (M1 215 6) + v3 → (QCm X x d 1 yJ0_charAt_5068e [(2, (-18)), (0, v2 + v3)] M1 (fun x3 M3 => (x3 = 32 → (((M3 215 6) + v3 = M3 215 7 → (post v1 M3)) ∧ (¬ (M3 215 6) + v3 = M3 215 7 → in32 ((M3 215 6) + v3) ∧ in32 (M3 215 7) ∧ (QRm X x (d + 1) qmX11_keyAt post 97 [(0, (2, 215)), (1, (0, v1)), (2, (0, v2))] [] M3)))) ∧ (¬ x3 = 32 → in32 x3 ∧ (QRm X x (d + 1) qmX11_keyAt post 97 [(0, (2, 215)), (1, (0, v1)), (2, (0, v2))] [] M3))))) ∧ (¬ M1 215 7 ≤ (M1 215 6) + v3 → ((0 : Int) ≤ (M1 215 6) + v3 ∧ ((M1 215 6) + v3 < 900 ∧ (QCm X x d 1 yJ0_charAt_5068e [(2, (-18)), (0, v2 + v3)] M1 (fun x4 M4 => (M1 218 ((M1 215 6) + v3) = x4 → (QRm X x (d + 1) qmX11_keyAt post 15 [(0, (2, 215)), (1, (0, v1)), (2, (0, v2)), (3, (0, v3 + 1))] [] M4)) ∧ (¬ M1 218 ((M1 215 6) + v3) = x4 → in32 (M1 218 ((M1 215 6) + v3)) ∧ in32 x4 ∧ (QCm X x d 1 yJ0_charAt_5068e [(2, (-18)), (0, v2 + v3)] M4 (fun x5 M5 => (x5 = 32 → (((M5 215 6) + v3 = M5 215 7 → (post v1 M5)) ∧ (¬ (M5 215 6) + v3 = M5 215 7 → in32 ((M5 215 6) + v3) ∧ in32 (M5 215 7) ∧ (QRm X x (d + 1) qmX11_keyAt post 97 [(0, (2, 215)), (1, (0, v1)), (2, (0, v2))] [] M5)))) ∧ (¬ x5 = 32 → in32 x5 ∧ (QRm X x (d + 1) qmX11_keyAt post 97 [(0, (2, 215)), (1, (0, v1)), (2, (0, v2))] [] M5)))))))))))))) : QRm X x (d + 1) qmX11_keyAt post 15 [(0, (2, 215)), (1, (0, v1)), (2, (0, v2)), (3, (0, v3))] [] M := qwp_ok qmX11_keyAt_ok.1 [(4, [0, 1, 2]), (15, [0, 1, 2, 3]), (97, [0, 1, 2])] 69 (⟨⟨by decide, by decide⟩, QC.mono t (fun x1 h1 u1 => by obtain ⟨M1, rfl, u1⟩ := u1; exact ⟨fun z2 => ⟨⟨by decide, by decide⟩, QC.mono (u1.1 z2) (fun x2 h2 u3 => by obtain ⟨M2, rfl, u3⟩ := u3; exact ⟨fun z4 => ⟨(u3.2 z4).1, (show in32 32 from ⟨by decide, by decide⟩), (u3.2 z4).2⟩, fun z4 => ⟨rfl, ⟨rfl, ⟨fun z5 => ⟨((u3.1 z4).2 z5).1, ((u3.1 z4).2 z5).2.1, ((u3.1 z4).2 z5).2.2⟩, fun z5 => ⟨_, rfl, ((u3.1 z4).1 z5)⟩⟩⟩⟩⟩)⟩, fun z2 => ⟨(u1.2 z2).1, (show in32 32 from ⟨by decide, by decide⟩), ⟨rfl, ⟨rfl, ⟨(u1.2 z2).2.1, (u1.2 z2).2.2.1, fun z6 => ⟨⟨by decide, by decide⟩, QC.mono ((u1.2 z2).2.2.2.1 z6) (fun x3 h3 u7 => by obtain ⟨M3, rfl, u7⟩ := u7; exact ⟨fun z8 => ⟨(u7.2 z8).1, (show in32 32 from ⟨by decide, by decide⟩), (u7.2 z8).2⟩, fun z8 => ⟨rfl, ⟨rfl, ⟨fun z9 => ⟨((u7.1 z8).2 z9).1, ((u7.1 z8).2 z9).2.1, ((u7.1 z8).2 z9).2.2⟩, fun z9 => ⟨_, rfl, ((u7.1 z8).1 z9)⟩⟩⟩⟩⟩)⟩, fun z6 => ⟨rfl, ⟨rfl, ⟨rfl, ⟨((u1.2 z2).2.2.2.2 z6).1, ⟨((u1.2 z2).2.2.2.2 z6).2.1, ⟨⟨by decide, by decide⟩, QC.mono (((u1.2 z2).2.2.2.2 z6).2.2) (fun x4 h4 u10 => by obtain ⟨M4, rfl, u10⟩ := u10; exact ⟨fun z11 => ⟨(u10.2 z11).1, (u10.2 z11).2.1, ⟨⟨by decide, by decide⟩, QC.mono ((u10.2 z11).2.2) (fun x5 h5 u12 => by obtain ⟨M5, rfl, u12⟩ := u12; exact ⟨fun z13 => ⟨(u12.2 z13).1, (show in32 32 from ⟨by decide, by decide⟩), (u12.2 z13).2⟩, fun z13 => ⟨rfl, ⟨rfl, ⟨fun z14 => ⟨((u12.1 z13).2 z14).1, ((u12.1 z13).2 z14).2.1, ((u12.1 z13).2 z14).2.2⟩, fun z14 => ⟨_, rfl, ((u12.1 z13).1 z14)⟩⟩⟩⟩⟩)⟩⟩, fun z11 => (u10.1 z11)⟩)⟩⟩⟩⟩⟩⟩⟩⟩⟩⟩⟩)⟩)
theorem TX11_keyAt_97 {X : QX} {x : Int} {d : Nat} {post : Int → QMem → Prop} {M : QMem} {v1 v2 : Int} (t : QCm X x d 1 yJ0_charAt_5068e [(2, (-18)), (0, v2)] M (fun x1 M1 => (x1 = 32 → (QRm X x (d + 1) qmX11_keyAt post 4 [(0, (2, 215)), (1, (0, v1 + 1)), (2, (0, v2 + 1))] [] M1)) ∧ (¬ x1 = 32 → in32 x1 ∧ (QRm X x (d + 1) qmX11_keyAt post 97 [(0, (2, 215)), (1, (0, v1)), (2, (0, v2 + 1))] [] M1)))) : QRm X x (d + 1) qmX11_keyAt post 97 [(0, (2, 215)), (1, (0, v1)), (2, (0, v2))] [] M := qwp_ok qmX11_keyAt_ok.1 [(4, [0, 1, 2]), (15, [0, 1, 2, 3]), (97, [0, 1, 2])] 69 (⟨⟨by decide, by decide⟩, QC.mono t (fun x1 h1 u1 => by obtain ⟨M1, rfl, u1⟩ := u1; exact ⟨fun z2 => (u1.1 z2), fun z2 => ⟨(u1.2 z2).1, (show in32 32 from ⟨by decide, by decide⟩), (u1.2 z2).2⟩⟩)⟩)
theorem TX11_next_0 {X : QX} {x : Int} {d : Nat} {post : Int → QMem → Prop} {M : QMem} (t : QRm X x (d + 1) qmX11_next post 8 [(0, (2, 215))] [] (qup M 215 6 (M 215 7))) : QRm X x (d + 1) qmX11_next post 0 [(0, (2, 215))] [] M := qwp_ok qmX11_next_ok.1 [(8, [0]), (89, [0]), (146, [0]), (254, [0, 1])] 148 (⟨rfl, ⟨rfl, t⟩⟩)
theorem TX11_next_8 {X : QX} {x : Int} {d : Nat} {post : Int → QMem → Prop} {M : QMem} (t : QCm X x d 1 yX11_see [(2, 215), (0, M 215 6)] M (fun x1 M1 => (x1 = 10 → (QRm X x (d + 1) qmX11_next post 8 [(0, (2, 215))] [] (qup M1 215 6 ((M1 215 6) + 1)))) ∧ (¬ x1 = 10 → in32 x1 ∧ (QCm X x d 1 yX11_see [(2, 215), (0, M1 215 6)] M1 (fun x2 M2 => (x2 = 32 → (QRm X x (d + 1) qmX11_next post 8 [(0, (2, 215))] [] (qup M2 215 6 ((M2 215 6) + 1)))) ∧ (¬ x2 = 32 → in32 x2 ∧ (in32 ((qup M2 215 7 (M2 215 6)) 215 6) ∧ in32 ((qup M2 215 7 (M2 215 6)) 215 8) ∧ ((qup M2 215 7 (M2 215 6)) 215 6 < (qup M2 215 7 (M2 215 6)) 215 8 → (QCm X x d 1 yX11_see [(2, 215), (0, (qup M2 215 7 (M2 215 6)) 215 6)] (qup M2 215 7 (M2 215 6)) (fun x3 M3 => QCm X x d 1 yX11_isSmall [(0, x3)] M3 (fun x4 M4 => (x4 = 0 → (QCm X x d 1 yX11_see [(2, 215), (0, M4 215 6)] M4 (fun x5 M5 => QCm X x d 1 yX11_isDigit [(0, x5)] M5 (fun x6 M6 => (x6 = 0 → (QRm X x (d + 1) qmX11_next post 254 [(0, (2, 215)), (1, (0, 0))] [] (qup (qup M6 215 7 ((M6 215 7) + 1)) 215 9 25))) ∧ (¬ x6 = 0 → in32 x6 ∧ (QRm X x (d + 1) qmX11_next post 146 [(0, (2, 215))] [] (qup M6 215 10 0))))))) ∧ (¬ x4 = 0 → in32 x4 ∧ (QRm X x (d + 1) qmX11_next post 89 [(0, (2, 215))] [] M4)))))) ∧ (¬ (qup M2 215 7 (M2 215 6)) 215 6 < (qup M2 215 7 (M2 215 6)) 215 8 → (post 0 (qup (qup M2 215 7 (M2 215 6)) 215 9 24)))))))))) : QRm X x (d + 1) qmX11_next post 8 [(0, (2, 215))] [] M := qwp_ok qmX11_next_ok.1 [(8, [0]), (89, [0]), (146, [0]), (254, [0, 1])] 148 (⟨rfl, ⟨rfl, QC.mono t (fun x1 h1 u1 => by obtain ⟨M1, rfl, u1⟩ := u1; exact ⟨fun z2 => ⟨rfl, ⟨rfl, (u1.1 z2)⟩⟩, fun z2 => ⟨(u1.2 z2).1, (show in32 10 from ⟨by decide, by decide⟩), ⟨rfl, ⟨rfl, QC.mono ((u1.2 z2).2) (fun x2 h2 u3 => by obtain ⟨M2, rfl, u3⟩ := u3; exact ⟨fun z4 => ⟨(u3.2 z4).1, (show in32 32 from ⟨by decide, by decide⟩), ⟨rfl, ⟨rfl, ⟨rfl, ⟨rfl, ⟨(u3.2 z4).2.1, (u3.2 z4).2.2.1, fun z5 => ⟨rfl, ⟨rfl, QC.mono ((u3.2 z4).2.2.2.1 z5) (fun x3 h3 u6 => by obtain ⟨M3, rfl, u6⟩ := u6; exact QC.mono u6 (fun x4 h4 u7 => by obtain ⟨M4, rfl, u7⟩ := u7; exact ⟨fun z8 => ⟨rfl, ⟨rfl, QC.mono (u7.1 z8) (fun x5 h5 u9 => by obtain ⟨M5, rfl, u9⟩ := u9; exact QC.mono u9 (fun x6 h6 u10 => by obtain ⟨M6, rfl, u10⟩ := u10; exact ⟨fun z11 => ⟨rfl, ⟨rfl, ⟨rfl, (u10.1 z11)⟩⟩⟩, fun z11 => ⟨(u10.2 z11).1, (show in32 0 from ⟨by decide, by decide⟩), ⟨rfl, (u10.2 z11).2⟩⟩⟩))⟩⟩, fun z8 => ⟨(u7.2 z8).1, (show in32 0 from ⟨by decide, by decide⟩), (u7.2 z8).2⟩⟩))⟩⟩, fun z5 => ⟨rfl, ⟨_, rfl, ((u3.2 z4).2.2.2.2 z5)⟩⟩⟩⟩⟩⟩⟩⟩, fun z4 => ⟨rfl, ⟨rfl, (u3.1 z4)⟩⟩⟩)⟩⟩⟩⟩)⟩⟩)
theorem TX11_next_254 {X : QX} {x : Int} {d : Nat} {post : Int → QMem → Prop} {M : QMem} {v1 : Int} (t : QCm X x d 1 yJ0_length_8abf5 [(2, (-17))] M (fun x1 M1 => in32 v1 ∧ in32 x1 ∧ (x1 ≤ v1 → (post 0 M1)) ∧ (¬ x1 ≤ v1 → (QCm X x d 1 yX11_see [(2, 215), (0, M1 215 6)] M1 (fun x2 M2 => QCm X x d 1 yJ0_charAt_5068e [(2, (-17)), (0, v1)] M2 (fun x3 M3 => (x2 = x3 → (QRm X x (d + 1) qmX11_next post 254 [(0, (2, 215)), (1, (0, v1 + 1))] [] (qup M3 215 9 (30 + v1)))) ∧ (¬ x2 = x3 → in32 x2 ∧ in32 x3 ∧ (QRm X x (d + 1) qmX11_next post 254 [(0, (2, 215)), (1, (0, v1 + 1))] [] M3)))))))) : QRm X x (d + 1) qmX11_next post 254 [(0, (2, 215)), (1, (0, v1))] [] M := qwp_ok qmX11_next_ok.1 [(8, [0]), (89, [0]), (146, [0]), (254, [0, 1])] 148 (⟨⟨by decide, by decide⟩, QC.mono t (fun x1 h1 u1 => by obtain ⟨M1, rfl, u1⟩ := u1; exact ⟨u1.1, u1.2.1, fun z2 => ⟨_, rfl, (u1.2.2.1 z2)⟩, fun z2 => ⟨rfl, ⟨rfl, QC.mono (u1.2.2.2 z2) (fun x2 h2 u3 => by obtain ⟨M2, rfl, u3⟩ := u3; exact ⟨⟨by decide, by decide⟩, QC.mono u3 (fun x3 h3 u4 => by obtain ⟨M3, rfl, u4⟩ := u4; exact ⟨fun z5 => ⟨(u4.2 z5).1, (u4.2 z5).2.1, (u4.2 z5).2.2⟩, fun z5 => ⟨rfl, (u4.1 z5)⟩⟩)⟩)⟩⟩⟩)⟩)
theorem TX11_next_146 {X : QX} {x : Int} {d : Nat} {post : Int → QMem → Prop} {M : QMem} (t : QCm X x d 1 yX11_see [(2, 215), (0, M 215 7)] M (fun x1 M1 => QCm X x d 1 yX11_isDigit [(0, x1)] M1 (fun x2 M2 => (x2 = 0 → (in32 ((M2 215 7) - (M2 215 6)) ∧ ((M2 215 7) - (M2 215 6) ≤ 3 → (post 0 (qup M2 215 9 23))) ∧ (¬ (M2 215 7) - (M2 215 6) ≤ 3 → (post 0 (qup M2 215 9 25))))) ∧ (¬ x2 = 0 → in32 x2 ∧ (in32 ((M2 215 7) - (M2 215 6)) ∧ ((3 : Int) ≤ (M2 215 7) - (M2 215 6) → (QRm X x (d + 1) qmX11_next post 146 [(0, (2, 215))] [] (qup M2 215 7 ((M2 215 7) + 1)))) ∧ (¬ (3 : Int) ≤ (M2 215 7) - (M2 215 6) → (QCm X x d 1 yX11_see [(2, 215), (0, M2 215 7)] M2 (fun x3 M3 => QRm X x (d + 1) qmX11_next post 146 [(0, (2, 215))] [] (qup (qup M3 215 10 (((10 * (M2 215 10)) + x3) - 48)) 215 7 (((qup M3 215 10 (((10 * (M2 215 10)) + x3) - 48)) 215 7) + 1)))))))))) : QRm X x (d + 1) qmX11_next post 146 [(0, (2, 215))] [] M := qwp_ok qmX11_next_ok.1 [(8, [0]), (89, [0]), (146, [0]), (254, [0, 1])] 148 (⟨rfl, ⟨rfl, QC.mono t (fun x1 h1 u1 => by obtain ⟨M1, rfl, u1⟩ := u1; exact QC.mono u1 (fun x2 h2 u2 => by obtain ⟨M2, rfl, u2⟩ := u2; exact ⟨fun z3 => ⟨rfl, ⟨rfl, ⟨(u2.1 z3).1, (show in32 3 from ⟨by decide, by decide⟩), fun z4 => ⟨rfl, ⟨_, rfl, ((u2.1 z3).2.1 z4)⟩⟩, fun z4 => ⟨rfl, ⟨_, rfl, ((u2.1 z3).2.2 z4)⟩⟩⟩⟩⟩, fun z3 => ⟨(u2.2 z3).1, (show in32 0 from ⟨by decide, by decide⟩), ⟨rfl, ⟨rfl, ⟨(u2.2 z3).2.1, (show in32 3 from ⟨by decide, by decide⟩), fun z5 => ⟨rfl, ⟨rfl, ((u2.2 z3).2.2.1 z5)⟩⟩, fun z5 => ⟨rfl, ⟨rfl, ⟨rfl, QC.mono ((u2.2 z3).2.2.2 z5) (fun x3 h3 u6 => by obtain ⟨M3, rfl, u6⟩ := u6; exact ⟨rfl, ⟨rfl, ⟨rfl, u6⟩⟩⟩)⟩⟩⟩⟩⟩⟩⟩⟩))⟩⟩)
theorem TX11_next_89 {X : QX} {x : Int} {d : Nat} {post : Int → QMem → Prop} {M : QMem} (t : QCm X x d 1 yX11_see [(2, 215), (0, M 215 7)] M (fun x1 M1 => QCm X x d 1 yX11_isSmall [(0, x1)] M1 (fun x2 M2 => (x2 = 0 → (QCm X x d 1 yX11_keyAt [(2, 215)] M2 (fun x3 M3 => post 0 (qup M3 215 9 x3)))) ∧ (¬ x2 = 0 → in32 x2 ∧ (QRm X x (d + 1) qmX11_next post 89 [(0, (2, 215))] [] (qup M2 215 7 ((M2 215 7) + 1))))))) : QRm X x (d + 1) qmX11_next post 89 [(0, (2, 215))] [] M := qwp_ok qmX11_next_ok.1 [(8, [0]), (89, [0]), (146, [0]), (254, [0, 1])] 148 (⟨rfl, ⟨rfl, QC.mono t (fun x1 h1 u1 => by obtain ⟨M1, rfl, u1⟩ := u1; exact QC.mono u1 (fun x2 h2 u2 => by obtain ⟨M2, rfl, u2⟩ := u2; exact ⟨fun z3 => ⟨rfl, QC.mono (u2.1 z3) (fun x3 h3 u4 => by obtain ⟨M3, rfl, u4⟩ := u4; exact ⟨rfl, ⟨_, rfl, u4⟩⟩)⟩, fun z3 => ⟨(u2.2 z3).1, (show in32 0 from ⟨by decide, by decide⟩), ⟨rfl, ⟨rfl, (u2.2 z3).2⟩⟩⟩⟩))⟩⟩)
theorem TX11_fails_0 {X : QX} {x : Int} {d : Nat} {post : Int → QMem → Prop} {M : QMem} {v1 : Int} (t : (M 215 11 = 0 → ((M 215 9 = 25 → (post 0 (qup (qup M 215 11 1) 215 12 ((qup M 215 11 1) 215 6)))) ∧ (¬ M 215 9 = 25 → in32 (M 215 9) ∧ (post 0 (qup (qup M 215 11 v1) 215 12 ((qup M 215 11 v1) 215 6)))))) ∧ (¬ M 215 11 = 0 → in32 (M 215 11) ∧ (post 0 M))) : QRm X x d qmX11_fails post 0 [(0, (2, 215)), (1, (0, v1))] [] M := qwp_ok qmX11_fails_ok.1 [] 20 (⟨rfl, ⟨fun z1 => ⟨rfl, ⟨fun z2 => ⟨((t.1 z1).2 z2).1, (show in32 25 from ⟨by decide, by decide⟩), ⟨rfl, ⟨rfl, ⟨rfl, ⟨_, rfl, ((t.1 z1).2 z2).2⟩⟩⟩⟩⟩, fun z2 => ⟨rfl, ⟨rfl, ⟨rfl, ⟨_, rfl, ((t.1 z1).1 z2)⟩⟩⟩⟩⟩⟩, fun z1 => ⟨(t.2 z1).1, (show in32 0 from ⟨by decide, by decide⟩), ⟨_, rfl, (t.2 z1).2⟩⟩⟩⟩)
theorem TX11_is_0 {X : QX} {x : Int} {d : Nat} {post : Int → QMem → Prop} {M : QMem} {v1 : Int} (t : (M 215 11 = 0 → ((M 215 9 = v1 → (post 1 M)) ∧ (¬ M 215 9 = v1 → in32 (M 215 9) ∧ in32 v1 ∧ (post 0 M)))) ∧ (¬ M 215 11 = 0 → in32 (M 215 11) ∧ (post 0 M))) : QRm X x d qmX11_is post 0 [(0, (2, 215)), (1, (0, v1))] [] M := qwp_ok qmX11_is_ok.1 [] 13 (⟨rfl, ⟨fun z1 => ⟨(t.2 z1).1, (show in32 0 from ⟨by decide, by decide⟩), ⟨(Or.inl rfl), ⟨_, rfl, (t.2 z1).2⟩⟩⟩, fun z1 => ⟨rfl, ⟨fun z2 => ⟨((t.1 z1).2 z2).1, ((t.1 z1).2 z2).2.1, ⟨(Or.inl rfl), ⟨_, rfl, ((t.1 z1).2 z2).2.2⟩⟩⟩, fun z2 => ⟨(Or.inr rfl), ⟨_, rfl, ((t.1 z1).1 z2)⟩⟩⟩⟩⟩⟩)
theorem TX11_eats_0 {X : QX} {x : Int} {d : Nat} {post : Int → QMem → Prop} {M : QMem} {v1 : Int} (t : QCm X x d 1 yX11_is [(2, 215), (0, v1)] M (fun x1 M1 => (x1 = 0 → (post 0 M1)) ∧ (¬ x1 = 0 → in32 x1 ∧ (QCm X x d 0 yX11_next [(2, 215)] M1 (fun _ M2 => post 1 M2))))) : QRm X x (d + 1) qmX11_eats post 0 [(0, (2, 215)), (1, (0, v1))] [] M := qwp_ok qmX11_eats_ok.1 [] 12 (⟨rfl, QC.mono t (fun x1 h1 u1 => by obtain ⟨M1, rfl, u1⟩ := u1; exact ⟨fun z2 => ⟨(u1.2 z2).1, (show in32 0 from ⟨by decide, by decide⟩), ⟨rfl, QC.mono ((u1.2 z2).2) (fun _ h2 u3 => by obtain ⟨M2, rfl, u3⟩ := u3; exact ⟨(Or.inr rfl), ⟨_, rfl, u3⟩⟩)⟩⟩, fun z2 => ⟨(Or.inl rfl), ⟨_, rfl, (u1.1 z2)⟩⟩⟩)⟩)
theorem TX11_takesN_0 {X : QX} {x : Int} {d : Nat} {post : Int → QMem → Prop} {M : QMem} {v1 v2 : Int} (t : QCm X x d 1 yX11_is [(2, 215), (0, 23)] M (fun x1 M1 => (x1 = 0 → (QCm X x d 0 yX11_fails [(2, 215), (0, 2)] M1 (fun _ M2 => (M2 215 11 = 0 → (QCm X x d 0 yX11_next [(2, 215)] M2 (fun _ M3 => post (M2 215 10) M3))) ∧ (¬ M2 215 11 = 0 → in32 (M2 215 11) ∧ (post (M2 215 10) M2))))) ∧ (¬ x1 = 0 → in32 x1 ∧ (in32 (M1 215 10) ∧ (in32 v1 ∧ (in32 v2 ∧ (QCm X x d 1 yX11_within [(1, M1 215 10), (1, v1), (1, v2)] M1 (fun x4 M4 => (x4 = 0 → (QCm X x d 0 yX11_fails [(2, 215), (0, 3)] M4 (fun _ M5 => (M5 215 11 = 0 → (QCm X x d 0 yX11_next [(2, 215)] M5 (fun _ M6 => post (M5 215 10) M6))) ∧ (¬ M5 215 11 = 0 → in32 (M5 215 11) ∧ (post (M5 215 10) M5))))) ∧ (¬ x4 = 0 → in32 x4 ∧ ((M4 215 11 = 0 → (QCm X x d 0 yX11_next [(2, 215)] M4 (fun _ M7 => post (M4 215 10) M7))) ∧ (¬ M4 215 11 = 0 → in32 (M4 215 11) ∧ (post (M4 215 10) M4)))))))))))) : QRm X x (d + 1) qmX11_takesN post 0 [(0, (2, 215)), (1, (0, v1)), (2, (0, v2))] [] M := qwp_ok qmX11_takesN_ok.1 [] 32 (⟨rfl, QC.mono t (fun x1 h1 u1 => by obtain ⟨M1, rfl, u1⟩ := u1; exact ⟨fun z2 => ⟨(u1.2 z2).1, (show in32 0 from ⟨by decide, by decide⟩), ⟨rfl, ⟨(u1.2 z2).2.1, ⟨(u1.2 z2).2.2.1, ⟨(u1.2 z2).2.2.2.1, QC.mono ((u1.2 z2).2.2.2.2) (fun x4 h4 u6 => by obtain ⟨M4, rfl, u6⟩ := u6; exact ⟨fun z7 => ⟨(u6.2 z7).1, (show in32 0 from ⟨by decide, by decide⟩), ⟨rfl, ⟨rfl, ⟨fun z11 => ⟨((u6.2 z7).2.2 z11).1, (show in32 0 from ⟨by decide, by decide⟩), ⟨_, rfl, ((u6.2 z7).2.2 z11).2⟩⟩, fun z11 => ⟨rfl, QC.mono ((u6.2 z7).2.1 z11) (fun _ h7 u12 => by obtain ⟨M7, rfl, u12⟩ := u12; exact ⟨_, rfl, u12⟩)⟩⟩⟩⟩⟩, fun z7 => ⟨rfl, QC.mono (u6.1 z7) (fun _ h5 u8 => by obtain ⟨M5, rfl, u8⟩ := u8; exact ⟨rfl, ⟨rfl, ⟨fun z9 => ⟨(u8.2 z9).1, (show in32 0 from ⟨by decide, by decide⟩), ⟨_, rfl, (u8.2 z9).2⟩⟩, fun z9 => ⟨rfl, QC.mono (u8.1 z9) (fun _ h6 u10 => by obtain ⟨M6, rfl, u10⟩ := u10; exact ⟨_, rfl, u10⟩)⟩⟩⟩⟩)⟩⟩)⟩⟩⟩⟩⟩, fun z2 => ⟨rfl, QC.mono (u1.1 z2) (fun _ h2 u3 => by obtain ⟨M2, rfl, u3⟩ := u3; exact ⟨rfl, ⟨rfl, ⟨fun z4 => ⟨(u3.2 z4).1, (show in32 0 from ⟨by decide, by decide⟩), ⟨_, rfl, (u3.2 z4).2⟩⟩, fun z4 => ⟨rfl, QC.mono (u3.1 z4) (fun _ h3 u5 => by obtain ⟨M3, rfl, u5⟩ := u5; exact ⟨_, rfl, u5⟩)⟩⟩⟩⟩)⟩⟩)⟩)
theorem TX11_isIn_0 {X : QX} {x : Int} {d : Nat} {post : Int → QMem → Prop} {M : QMem} {v0 v2 : Int} (t : (qland (qlshr v0 v2) 1 = 1 → (post 1 M)) ∧ (¬ qland (qlshr v0 v2) 1 = 1 → in64 (qland (qlshr v0 v2) 1) ∧ (post 0 M))) : QRm X x d qmX11_isIn post 0 [(0, (1, v0)), (2, (0, v2))] [] M := qwp_ok qmX11_isIn_ok.1 [] 14 (⟨fun z1 => ⟨(t.2 z1).1, (show in64 1 from ⟨by decide, by decide⟩), ⟨(Or.inl rfl), ⟨_, rfl, (t.2 z1).2⟩⟩⟩, fun z1 => ⟨(Or.inr rfl), ⟨_, rfl, (t.1 z1)⟩⟩⟩)
theorem TX11_wordOf_0 {X : QX} {x : Int} {d : Nat} {post : Int → QMem → Prop} {M : QMem} {v1 : Int} (t : in32 v1 ∧ (v1 = 2 → (post 3 M)) ∧ (v1 = 3 → (post (-1) M)) ∧ (v1 = 4 → (post (-1) M)) ∧ (v1 = 5 → (post (-1) M)) ∧ (v1 = 6 → (post 2 M)) ∧ (v1 = 7 → (post (-1) M)) ∧ (v1 = 8 → (post 0 M)) ∧ (v1 = 9 → (post 1 M)) ∧ (v1 = 10 → ((M 215 15 = 1 → (post 4 M)) ∧ (¬ M 215 15 = 1 → in32 (M 215 15) ∧ (post (-1) M)))) ∧ ((v1 < 2 ∨ 10 < v1) → (post (-1) M))) : QRm X x d qmX11_wordOf post 0 [(0, (2, 215)), (1, (0, v1))] [] M := qwp_ok qmX11_wordOf_ok.1 [] 22 (⟨t.1, ⟨fun z1 => ⟨_, rfl, (t.2.1 z1)⟩, ⟨fun z2 => ⟨_, rfl, (t.2.2.1 z2)⟩, ⟨fun z3 => ⟨_, rfl, (t.2.2.2.1 z3)⟩, ⟨fun z4 => ⟨_, rfl, (t.2.2.2.2.1 z4)⟩, ⟨fun z5 => ⟨_, rfl, (t.2.2.2.2.2.1 z5)⟩, ⟨fun z6 => ⟨_, rfl, (t.2.2.2.2.2.2.1 z6)⟩, ⟨fun z7 => ⟨_, rfl, (t.2.2.2.2.2.2.2.1 z7)⟩, ⟨fun z8 => ⟨_, rfl, (t.2.2.2.2.2.2.2.2.1 z8)⟩, ⟨fun z9 => ⟨rfl, ⟨fun z10 => ⟨((t.2.2.2.2.2.2.2.2.2.1 z9).2 z10).1, (show in32 1 from ⟨by decide, by decide⟩), ⟨_, rfl, ((t.2.2.2.2.2.2.2.2.2.1 z9).2 z10).2⟩⟩, fun z10 => ⟨_, rfl, ((t.2.2.2.2.2.2.2.2.2.1 z9).1 z10)⟩⟩⟩, trivial⟩⟩⟩⟩⟩⟩⟩⟩⟩, fun z11 => ⟨_, rfl, (t.2.2.2.2.2.2.2.2.2.2 z11)⟩⟩)
theorem TX11_codes_0 {X : QX} {x : Int} {d : Nat} {post : Int → QMem → Prop} {M : QMem} {v1 : Int} (t : (M 215 11 = 0 → ((0 : Int) ≤ 3475 + (M 219 3474) ∧ (3475 + (M 219 3474) < 4375 ∧ (post 0 (qup (qup M 219 (3475 + (M 219 3474)) v1) 219 3474 (((qup M 219 (3475 + (M 219 3474)) v1) 219 3474) + 1)))))) ∧ (¬ M 215 11 = 0 → in32 (M 215 11) ∧ (post 0 M))) : QRm X x d qmX11_codes post 0 [(0, (2, 215)), (1, (0, v1))] [] M := qwp_ok qmX11_codes_ok.1 [] 25 (⟨rfl, ⟨fun z1 => ⟨rfl, ⟨rfl, ⟨rfl, ⟨(show (0 : Int) ≤ 3474 by decide), ⟨(show (3474 : Int) < 4375 by decide), ⟨rfl, ⟨(t.1 z1).1, ⟨(t.1 z1).2.1, ⟨rfl, ⟨rfl, ⟨(show (0 : Int) ≤ 3474 by decide), ⟨(show (3474 : Int) < 4375 by decide), ⟨rfl, ⟨(show (0 : Int) ≤ 3474 by decide), ⟨(show (3474 : Int) < 4375 by decide), ⟨_, rfl, (t.1 z1).2.2⟩⟩⟩⟩⟩⟩⟩⟩⟩⟩⟩⟩⟩⟩⟩⟩, fun z1 => ⟨(t.2 z1).1, (show in32 0 from ⟨by decide, by decide⟩), ⟨_, rfl, (t.2 z1).2⟩⟩⟩⟩)
theorem TX11_goesIn_0 {X : QX} {x : Int} {d : Nat} {post : Int → QMem → Prop} {M : QMem} {v1 : Int} (t : (v1 = 6 → (QCm X x d 0 yX11_fails [(2, 215), (0, 4)] M (fun _ M1 => (M1 215 11 = 0 → (QCm X x d 0 yX11_next [(2, 215)] M1 (fun _ M2 => (M2 215 11 = 0 → (post 1 M2)) ∧ (¬ M2 215 11 = 0 → in32 (M2 215 11) ∧ (post 0 M2))))) ∧ (¬ M1 215 11 = 0 → in32 (M1 215 11) ∧ ((M1 215 11 = 0 → (post 1 M1)) ∧ (¬ M1 215 11 = 0 → (post 0 M1))))))) ∧ (¬ v1 = 6 → in32 v1 ∧ ((M 215 11 = 0 → (QCm X x d 0 yX11_next [(2, 215)] M (fun _ M3 => (M3 215 11 = 0 → (post 1 M3)) ∧ (¬ M3 215 11 = 0 → in32 (M3 215 11) ∧ (post 0 M3))))) ∧ (¬ M 215 11 = 0 → in32 (M 215 11) ∧ ((M 215 11 = 0 → (post 1 M)) ∧ (¬ M 215 11 = 0 → (post 0 M))))))) : QRm X x (d + 1) qmX11_goesIn post 0 [(0, (2, 215)), (1, (0, v1))] [] M := qwp_ok qmX11_goesIn_ok.1 [] 20 (⟨fun z1 => ⟨(t.2 z1).1, (show in32 6 from ⟨by decide, by decide⟩), ⟨rfl, ⟨fun z7 => ⟨((t.2 z1).2.2 z7).1, (show in32 0 from ⟨by decide, by decide⟩), ⟨rfl, ⟨fun z10 => ⟨((t.2 z1).2.2 z7).1, (show in32 0 from ⟨by decide, by decide⟩), ⟨(Or.inl rfl), ⟨_, rfl, (((t.2 z1).2.2 z7).2.2 z10)⟩⟩⟩, fun z10 => ⟨(Or.inr rfl), ⟨_, rfl, (((t.2 z1).2.2 z7).2.1 z10)⟩⟩⟩⟩⟩, fun z7 => ⟨rfl, QC.mono ((t.2 z1).2.1 z7) (fun _ h3 u8 => by obtain ⟨M3, rfl, u8⟩ := u8; exact ⟨rfl, ⟨fun z9 => ⟨(u8.2 z9).1, (show in32 0 from ⟨by decide, by decide⟩), ⟨(Or.inl rfl), ⟨_, rfl, (u8.2 z9).2⟩⟩⟩, fun z9 => ⟨(Or.inr rfl), ⟨_, rfl, (u8.1 z9)⟩⟩⟩⟩)⟩⟩⟩⟩, fun z1 => ⟨rfl, QC.mono (t.1 z1) (fun _ h1 u2 => by obtain ⟨M1, rfl, u2⟩ := u2; exact ⟨rfl, ⟨fun z3 => ⟨(u2.2 z3).1, (show in32 0 from ⟨by decide, by decide⟩), ⟨rfl, ⟨fun z6 => ⟨(u2.2 z3).1, (show in32 0 from ⟨by decide, by decide⟩), ⟨(Or.inl rfl), ⟨_, rfl, ((u2.2 z3).2.2 z6)⟩⟩⟩, fun z6 => ⟨(Or.inr rfl), ⟨_, rfl, ((u2.2 z3).2.1 z6)⟩⟩⟩⟩⟩, fun z3 => ⟨rfl, QC.mono (u2.1 z3) (fun _ h2 u4 => by obtain ⟨M2, rfl, u4⟩ := u4; exact ⟨rfl, ⟨fun z5 => ⟨(u4.2 z5).1, (show in32 0 from ⟨by decide, by decide⟩), ⟨(Or.inl rfl), ⟨_, rfl, (u4.2 z5).2⟩⟩⟩, fun z5 => ⟨(Or.inr rfl), ⟨_, rfl, (u4.1 z5)⟩⟩⟩⟩)⟩⟩⟩)⟩⟩)
theorem TX11_readAtom_0 {X : QX} {x : Int} {d : Nat} {post : Int → QMem → Prop} {M : QMem} {v1 : Int} (t : QCm X x d 1 yX11_is [(2, 215), (0, 23)] M (fun x1 M1 => (x1 = 0 → ((M1 215 11 = 0 → (QCm X x d 1 yX11_wordOf [(2, 215), (0, M1 215 9)] M1 (fun x2 M2 => (x2 = (-1) → (QCm X x d 1 yX11_is [(2, 215), (0, 35)] M2 (fun x3 M3 => (x3 = 0 → (QCm X x d 0 yX11_fails [(2, 215), (0, 2)] M3 (fun _ M4 => post 0 M4))) ∧ (¬ x3 = 0 → in32 x3 ∧ (QCm X x d 1 yX11_goesIn [(2, 215), (0, v1)] M3 (fun x5 M5 => (x5 = 0 → (post 0 M5)) ∧ (¬ x5 = 0 → in32 x5 ∧ (QCm X x d 0 yX11_readSum [(2, 215), (0, v1 + 1)] M5 (fun _ M6 => QCm X x d 1 yX11_eats [(2, 215), (0, 36)] M6 (fun x7 M7 => (x7 = 0 → (QCm X x d 0 yX11_fails [(2, 215), (0, 2)] M7 (fun _ M8 => post 0 M8))) ∧ (¬ x7 = 0 → in32 x7 ∧ (post 0 M7)))))))))))) ∧ (¬ x2 = (-1) → in32 x2 ∧ (QCm X x d 1 yX11_wordOf [(2, 215), (0, M2 215 9)] M2 (fun x9 M9 => QCm X x d 0 yX11_codes [(2, 215), (0, 1000 + x9)] M9 (fun _ M10 => QCm X x d 0 yX11_next [(2, 215)] M10 (fun _ M11 => post 0 M11)))))))) ∧ (¬ M1 215 11 = 0 → in32 (M1 215 11) ∧ (QCm X x d 1 yX11_is [(2, 215), (0, 35)] M1 (fun x12 M12 => (x12 = 0 → (QCm X x d 0 yX11_fails [(2, 215), (0, 2)] M12 (fun _ M13 => post 0 M13))) ∧ (¬ x12 = 0 → in32 x12 ∧ (QCm X x d 1 yX11_goesIn [(2, 215), (0, v1)] M12 (fun x14 M14 => (x14 = 0 → (post 0 M14)) ∧ (¬ x14 = 0 → in32 x14 ∧ (QCm X x d 0 yX11_readSum [(2, 215), (0, v1 + 1)] M14 (fun _ M15 => QCm X x d 1 yX11_eats [(2, 215), (0, 36)] M15 (fun x16 M16 => (x16 = 0 → (QCm X x d 0 yX11_fails [(2, 215), (0, 2)] M16 (fun _ M17 => post 0 M17))) ∧ (¬ x16 = 0 → in32 x16 ∧ (post 0 M16)))))))))))))) ∧ (¬ x1 = 0 → in32 x1 ∧ (QCm X x d 0 yX11_codes [(2, 215), (0, M1 215 10)] M1 (fun _ M18 => QCm X x d 0 yX11_next [(2, 215)] M18 (fun _ M19 => post 0 M19)))))) : QRm X x (d + 1) qmX11_readAtom post 0 [(0, (2, 215)), (1, (0, v1))] [] M := qwp_ok qmX11_readAtom_ok.1 [] 59 (⟨rfl, QC.mono t (fun x1 h1 u1 => by obtain ⟨M1, rfl, u1⟩ := u1; exact ⟨fun z2 => ⟨rfl, ⟨fun z3 => ⟨((u1.1 z2).2 z3).1, (show in32 0 from ⟨by decide, by decide⟩), ⟨rfl, QC.mono (((u1.1 z2).2 z3).2) (fun x12 h12 u18 => by obtain ⟨M12, rfl, u18⟩ := u18; exact ⟨fun z19 => ⟨rfl, QC.mono (u18.1 z19) (fun _ h13 u20 => by obtain ⟨M13, rfl, u20⟩ := u20; exact ⟨_, rfl, u20⟩)⟩, fun z19 => ⟨(u18.2 z19).1, (show in32 0 from ⟨by decide, by decide⟩), ⟨rfl, QC.mono ((u18.2 z19).2) (fun x14 h14 u21 => by obtain ⟨M14, rfl, u21⟩ := u21; exact ⟨fun z22 => ⟨(u21.2 z22).1, (show in32 0 from ⟨by decide, by decide⟩), ⟨rfl, QC.mono ((u21.2 z22).2) (fun _ h15 u23 => by obtain ⟨M15, rfl, u23⟩ := u23; exact ⟨rfl, QC.mono u23 (fun x16 h16 u24 => by obtain ⟨M16, rfl, u24⟩ := u24; exact ⟨fun z25 => ⟨(u24.2 z25).1, (show in32 0 from ⟨by decide, by decide⟩), ⟨_, rfl, (u24.2 z25).2⟩⟩, fun z25 => ⟨rfl, QC.mono (u24.1 z25) (fun _ h17 u26 => by obtain ⟨M17, rfl, u26⟩ := u26; exact ⟨_, rfl, u26⟩)⟩⟩)⟩)⟩⟩, fun z22 => ⟨_, rfl, (u21.1 z22)⟩⟩)⟩⟩⟩)⟩⟩, fun z3 => ⟨rfl, ⟨rfl, QC.mono ((u1.1 z2).1 z3) (fun x2 h2 u4 => by obtain ⟨M2, rfl, u4⟩ := u4; exact ⟨fun z5 => ⟨rfl, QC.mono (u4.1 z5) (fun x3 h3 u6 => by obtain ⟨M3, rfl, u6⟩ := u6; exact ⟨fun z7 => ⟨rfl, QC.mono (u6.1 z7) (fun _ h4 u8 => by obtain ⟨M4, rfl, u8⟩ := u8; exact ⟨_, rfl, u8⟩)⟩, fun z7 => ⟨(u6.2 z7).1, (show in32 0 from ⟨by decide, by decide⟩), ⟨rfl, QC.mono ((u6.2 z7).2) (fun x5 h5 u9 => by obtain ⟨M5, rfl, u9⟩ := u9; exact ⟨fun z10 => ⟨(u9.2 z10).1, (show in32 0 from ⟨by decide, by decide⟩), ⟨rfl, QC.mono ((u9.2 z10).2) (fun _ h6 u11 => by obtain ⟨M6, rfl, u11⟩ := u11; exact ⟨rfl, QC.mono u11 (fun x7 h7 u12 => by obtain ⟨M7, rfl, u12⟩ := u12; exact ⟨fun z13 => ⟨(u12.2 z13).1, (show in32 0 from ⟨by decide, by decide⟩), ⟨_, rfl, (u12.2 z13).2⟩⟩, fun z13 => ⟨rfl, QC.mono (u12.1 z13) (fun _ h8 u14 => by obtain ⟨M8, rfl, u14⟩ := u14; exact ⟨_, rfl, u14⟩)⟩⟩)⟩)⟩⟩, fun z10 => ⟨_, rfl, (u9.1 z10)⟩⟩)⟩⟩⟩)⟩, fun z5 => ⟨(u4.2 z5).1, (show in32 (-1) from ⟨by decide, by decide⟩), ⟨rfl, ⟨rfl, QC.mono ((u4.2 z5).2) (fun x9 h9 u15 => by obtain ⟨M9, rfl, u15⟩ := u15; exact ⟨rfl, QC.mono u15 (fun _ h10 u16 => by obtain ⟨M10, rfl, u16⟩ := u16; exact ⟨rfl, QC.mono u16 (fun _ h11 u17 => by obtain ⟨M11, rfl, u17⟩ := u17; exact ⟨_, rfl, u17⟩)⟩)⟩)⟩⟩⟩⟩)⟩⟩⟩⟩, fun z2 => ⟨(u1.2 z2).1, (show in32 0 from ⟨by decide, by decide⟩), ⟨rfl, ⟨rfl, QC.mono ((u1.2 z2).2) (fun _ h18 u27 => by obtain ⟨M18, rfl, u27⟩ := u27; exact ⟨rfl, QC.mono u27 (fun _ h19 u28 => by obtain ⟨M19, rfl, u28⟩ := u28; exact ⟨_, rfl, u28⟩)⟩)⟩⟩⟩⟩)⟩)
theorem TX11_readTerm_0 {X : QX} {x : Int} {d : Nat} {post : Int → QMem → Prop} {M : QMem} {v1 : Int} (t : QCm X x d 0 yX11_readAtom [(2, 215), (0, v1)] M (fun _ M1 => QRm X x (d + 1) qmX11_readTerm post 5 [(0, (2, 215)), (1, (0, v1))] [] M1)) : QRm X x (d + 1) qmX11_readTerm post 0 [(0, (2, 215)), (1, (0, v1))] [] M := qwp_ok qmX11_readTerm_ok.1 [(5, [0, 1])] 17 (⟨rfl, QC.mono t (fun _ h1 u1 => by obtain ⟨M1, rfl, u1⟩ := u1; exact u1)⟩)
theorem TX11_readTerm_5 {X : QX} {x : Int} {d : Nat} {post : Int → QMem → Prop} {M : QMem} {v1 : Int} (t : QCm X x d 1 yX11_eats [(2, 215), (0, 34)] M (fun x1 M1 => (x1 = 0 → (post 0 M1)) ∧ (¬ x1 = 0 → in32 x1 ∧ (QCm X x d 0 yX11_readAtom [(2, 215), (0, v1)] M1 (fun _ M2 => QCm X x d 0 yX11_codes [(2, 215), (0, 3002)] M2 (fun _ M3 => QRm X x (d + 1) qmX11_readTerm post 5 [(0, (2, 215)), (1, (0, v1))] [] M3)))))) : QRm X x (d + 1) qmX11_readTerm post 5 [(0, (2, 215)), (1, (0, v1))] [] M := qwp_ok qmX11_readTerm_ok.1 [(5, [0, 1])] 17 (⟨rfl, QC.mono t (fun x1 h1 u1 => by obtain ⟨M1, rfl, u1⟩ := u1; exact ⟨fun z2 => ⟨_, rfl, (u1.1 z2)⟩, fun z2 => ⟨(u1.2 z2).1, (show in32 0 from ⟨by decide, by decide⟩), ⟨rfl, QC.mono ((u1.2 z2).2) (fun _ h2 u3 => by obtain ⟨M2, rfl, u3⟩ := u3; exact ⟨rfl, QC.mono u3 (fun _ h3 u4 => by obtain ⟨M3, rfl, u4⟩ := u4; exact u4)⟩)⟩⟩⟩)⟩)
theorem TX11_readSum_0 {X : QX} {x : Int} {d : Nat} {post : Int → QMem → Prop} {M : QMem} {v1 : Int} (t : QCm X x d 0 yX11_readTerm [(2, 215), (0, v1)] M (fun _ M1 => QRm X x (d + 1) qmX11_readSum post 5 [(0, (2, 215)), (1, (0, v1))] [] M1)) : QRm X x (d + 1) qmX11_readSum post 0 [(0, (2, 215)), (1, (0, v1))] [] M := qwp_ok qmX11_readSum_ok.1 [(5, [0, 1])] 31 (⟨rfl, QC.mono t (fun _ h1 u1 => by obtain ⟨M1, rfl, u1⟩ := u1; exact u1)⟩)
theorem TX11_readSum_5 {X : QX} {x : Int} {d : Nat} {post : Int → QMem → Prop} {M : QMem} {v1 : Int} (t : QCm X x d 1 yX11_is [(2, 215), (0, 32)] M (fun x1 M1 => (x1 = 0 → (QCm X x d 1 yX11_is [(2, 215), (0, 33)] M1 (fun x2 M2 => (x2 = 0 → (post 0 M2)) ∧ (¬ x2 = 0 → in32 x2 ∧ ((M2 215 9 = 32 → (QCm X x d 0 yX11_next [(2, 215)] M2 (fun _ M3 => QCm X x d 0 yX11_readTerm [(2, 215), (0, v1)] M3 (fun _ M4 => QCm X x d 0 yX11_codes [(2, 215), (0, 3000)] M4 (fun _ M5 => QRm X x (d + 1) qmX11_readSum post 5 [(0, (2, 215)), (1, (0, v1))] [] M5))))) ∧ (¬ M2 215 9 = 32 → in32 (M2 215 9) ∧ (QCm X x d 0 yX11_next [(2, 215)] M2 (fun _ M6 => QCm X x d 0 yX11_readTerm [(2, 215), (0, v1)] M6 (fun _ M7 => QCm X x d 0 yX11_codes [(2, 215), (0, 3001)] M7 (fun _ M8 => QRm X x (d + 1) qmX11_readSum post 5 [(0, (2, 215)), (1, (0, v1))] [] M8)))))))))) ∧ (¬ x1 = 0 → in32 x1 ∧ ((M1 215 9 = 32 → (QCm X x d 0 yX11_next [(2, 215)] M1 (fun _ M9 => QCm X x d 0 yX11_readTerm [(2, 215), (0, v1)] M9 (fun _ M10 => QCm X x d 0 yX11_codes [(2, 215), (0, 3000)] M10 (fun _ M11 => QRm X x (d + 1) qmX11_readSum post 5 [(0, (2, 215)), (1, (0, v1))] [] M11))))) ∧ (¬ M1 215 9 = 32 → in32 (M1 215 9) ∧ (QCm X x d 0 yX11_next [(2, 215)] M1 (fun _ M12 => QCm X x d 0 yX11_readTerm [(2, 215), (0, v1)] M12 (fun _ M13 => QCm X x d 0 yX11_codes [(2, 215), (0, 3001)] M13 (fun _ M14 => QRm X x (d + 1) qmX11_readSum post 5 [(0, (2, 215)), (1, (0, v1))] [] M14))))))))) : QRm X x (d + 1) qmX11_readSum post 5 [(0, (2, 215)), (1, (0, v1))] [] M := qwp_ok qmX11_readSum_ok.1 [(5, [0, 1])] 31 (⟨rfl, QC.mono t (fun x1 h1 u1 => by obtain ⟨M1, rfl, u1⟩ := u1; exact ⟨fun z2 => ⟨(u1.2 z2).1, (show in32 0 from ⟨by decide, by decide⟩), ⟨rfl, ⟨fun z12 => ⟨((u1.2 z2).2.2 z12).1, (show in32 32 from ⟨by decide, by decide⟩), ⟨rfl, QC.mono (((u1.2 z2).2.2 z12).2) (fun _ h12 u16 => by obtain ⟨M12, rfl, u16⟩ := u16; exact ⟨rfl, QC.mono u16 (fun _ h13 u17 => by obtain ⟨M13, rfl, u17⟩ := u17; exact ⟨rfl, QC.mono u17 (fun _ h14 u18 => by obtain ⟨M14, rfl, u18⟩ := u18; exact u18)⟩)⟩)⟩⟩, fun z12 => ⟨rfl, QC.mono ((u1.2 z2).2.1 z12) (fun _ h9 u13 => by obtain ⟨M9, rfl, u13⟩ := u13; exact ⟨rfl, QC.mono u13 (fun _ h10 u14 => by obtain ⟨M10, rfl, u14⟩ := u14; exact ⟨rfl, QC.mono u14 (fun _ h11 u15 => by obtain ⟨M11, rfl, u15⟩ := u15; exact u15)⟩)⟩)⟩⟩⟩⟩, fun z2 => ⟨rfl, QC.mono (u1.1 z2) (fun x2 h2 u3 => by obtain ⟨M2, rfl, u3⟩ := u3; exact ⟨fun z4 => ⟨_, rfl, (u3.1 z4)⟩, fun z4 => ⟨(u3.2 z4).1, (show in32 0 from ⟨by decide, by decide⟩), ⟨rfl, ⟨fun z5 => ⟨((u3.2 z4).2.2 z5).1, (show in32 32 from ⟨by decide, by decide⟩), ⟨rfl, QC.mono (((u3.2 z4).2.2 z5).2) (fun _ h6 u9 => by obtain ⟨M6, rfl, u9⟩ := u9; exact ⟨rfl, QC.mono u9 (fun _ h7 u10 => by obtain ⟨M7, rfl, u10⟩ := u10; exact ⟨rfl, QC.mono u10 (fun _ h8 u11 => by obtain ⟨M8, rfl, u11⟩ := u11; exact u11)⟩)⟩)⟩⟩, fun z5 => ⟨rfl, QC.mono ((u3.2 z4).2.1 z5) (fun _ h3 u6 => by obtain ⟨M3, rfl, u6⟩ := u6; exact ⟨rfl, QC.mono u6 (fun _ h4 u7 => by obtain ⟨M4, rfl, u7⟩ := u7; exact ⟨rfl, QC.mono u7 (fun _ h5 u8 => by obtain ⟨M5, rfl, u8⟩ := u8; exact u8)⟩)⟩)⟩⟩⟩⟩⟩)⟩⟩)⟩)
theorem TX11_readUnit_0 {X : QX} {x : Int} {d : Nat} {post : Int → QMem → Prop} {M : QMem} {v1 : Int} (t : QCm X x d 1 yX11_is [(2, 215), (0, 13)] M (fun x1 M1 => (x1 = 0 → (QCm X x d 1 yX11_is [(2, 215), (0, 37)] M1 (fun x2 M2 => (x2 = 0 → (QCm X x d 0 yX11_readSum [(2, 215), (0, v1)] M2 (fun _ M3 => QCm X x d 1 yX11_is [(2, 215), (0, 39)] M3 (fun x4 M4 => (x4 = 0 → (QCm X x d 1 yX11_is [(2, 215), (0, 40)] M4 (fun x5 M5 => (x5 = 0 → (QCm X x d 1 yX11_is [(2, 215), (0, 39)] M5 (fun x6 M6 => (x6 = 0 → (QCm X x d 1 yX11_is [(2, 215), (0, 40)] M6 (fun x7 M7 => (x7 = 0 → (QCm X x d 1 yX11_is [(2, 215), (0, 41)] M7 (fun x8 M8 => (x8 = 0 → (QCm X x d 0 yX11_fails [(2, 215), (0, 2)] M8 (fun _ M9 => QCm X x d 0 yX11_readSum [(2, 215), (0, v1)] M9 (fun _ M10 => QCm X x d 0 yX11_codes [(2, 215), (0, 3005)] M10 (fun _ M11 => post 0 M11))))) ∧ (¬ x8 = 0 → in32 x8 ∧ (QCm X x d 0 yX11_next [(2, 215)] M8 (fun _ M12 => QCm X x d 0 yX11_readSum [(2, 215), (0, v1)] M12 (fun _ M13 => QCm X x d 0 yX11_codes [(2, 215), (0, 3005)] M13 (fun _ M14 => post 0 M14)))))))) ∧ (¬ x7 = 0 → in32 x7 ∧ (QCm X x d 0 yX11_next [(2, 215)] M7 (fun _ M15 => QCm X x d 0 yX11_readSum [(2, 215), (0, v1)] M15 (fun _ M16 => QCm X x d 0 yX11_codes [(2, 215), (0, 3005)] M16 (fun _ M17 => post 0 M17)))))))) ∧ (¬ x6 = 0 → in32 x6 ∧ (QCm X x d 0 yX11_next [(2, 215)] M6 (fun _ M18 => QCm X x d 0 yX11_readSum [(2, 215), (0, v1)] M18 (fun _ M19 => QCm X x d 0 yX11_codes [(2, 215), (0, 3005)] M19 (fun _ M20 => post 0 M20)))))))) ∧ (¬ x5 = 0 → in32 x5 ∧ (QCm X x d 1 yX11_is [(2, 215), (0, 39)] M5 (fun x21 M21 => (x21 = 0 → (QCm X x d 1 yX11_is [(2, 215), (0, 40)] M21 (fun x22 M22 => (x22 = 0 → (QCm X x d 1 yX11_is [(2, 215), (0, 41)] M22 (fun x23 M23 => (x23 = 0 → (QCm X x d 0 yX11_fails [(2, 215), (0, 2)] M23 (fun _ M24 => QCm X x d 0 yX11_readSum [(2, 215), (0, v1)] M24 (fun _ M25 => QCm X x d 0 yX11_codes [(2, 215), (0, 3004)] M25 (fun _ M26 => post 0 M26))))) ∧ (¬ x23 = 0 → in32 x23 ∧ (QCm X x d 0 yX11_next [(2, 215)] M23 (fun _ M27 => QCm X x d 0 yX11_readSum [(2, 215), (0, v1)] M27 (fun _ M28 => QCm X x d 0 yX11_codes [(2, 215), (0, 3004)] M28 (fun _ M29 => post 0 M29)))))))) ∧ (¬ x22 = 0 → in32 x22 ∧ (QCm X x d 0 yX11_next [(2, 215)] M22 (fun _ M30 => QCm X x d 0 yX11_readSum [(2, 215), (0, v1)] M30 (fun _ M31 => QCm X x d 0 yX11_codes [(2, 215), (0, 3004)] M31 (fun _ M32 => post 0 M32)))))))) ∧ (¬ x21 = 0 → in32 x21 ∧ (QCm X x d 0 yX11_next [(2, 215)] M21 (fun _ M33 => QCm X x d 0 yX11_readSum [(2, 215), (0, v1)] M33 (fun _ M34 => QCm X x d 0 yX11_codes [(2, 215), (0, 3004)] M34 (fun _ M35 => post 0 M35))))))))))) ∧ (¬ x4 = 0 → in32 x4 ∧ (QCm X x d 1 yX11_is [(2, 215), (0, 39)] M4 (fun x36 M36 => (x36 = 0 → (QCm X x d 1 yX11_is [(2, 215), (0, 40)] M36 (fun x37 M37 => (x37 = 0 → (QCm X x d 1 yX11_is [(2, 215), (0, 41)] M37 (fun x38 M38 => (x38 = 0 → (QCm X x d 0 yX11_fails [(2, 215), (0, 2)] M38 (fun _ M39 => QCm X x d 0 yX11_readSum [(2, 215), (0, v1)] M39 (fun _ M40 => QCm X x d 0 yX11_codes [(2, 215), (0, 3003)] M40 (fun _ M41 => post 0 M41))))) ∧ (¬ x38 = 0 → in32 x38 ∧ (QCm X x d 0 yX11_next [(2, 215)] M38 (fun _ M42 => QCm X x d 0 yX11_readSum [(2, 215), (0, v1)] M42 (fun _ M43 => QCm X x d 0 yX11_codes [(2, 215), (0, 3003)] M43 (fun _ M44 => post 0 M44)))))))) ∧ (¬ x37 = 0 → in32 x37 ∧ (QCm X x d 0 yX11_next [(2, 215)] M37 (fun _ M45 => QCm X x d 0 yX11_readSum [(2, 215), (0, v1)] M45 (fun _ M46 => QCm X x d 0 yX11_codes [(2, 215), (0, 3003)] M46 (fun _ M47 => post 0 M47)))))))) ∧ (¬ x36 = 0 → in32 x36 ∧ (QCm X x d 0 yX11_next [(2, 215)] M36 (fun _ M48 => QCm X x d 0 yX11_readSum [(2, 215), (0, v1)] M48 (fun _ M49 => QCm X x d 0 yX11_codes [(2, 215), (0, 3003)] M49 (fun _ M50 => post 0 M50)))))))))))) ∧ (¬ x2 = 0 → in32 x2 ∧ (QCm X x d 1 yX11_goesIn [(2, 215), (0, v1)] M2 (fun x51 M51 => (x51 = 0 → (post 0 M51)) ∧ (¬ x51 = 0 → in32 x51 ∧ (QCm X x d 0 yX11_readTruth [(2, 215), (0, v1 + 1)] M51 (fun _ M52 => QCm X x d 1 yX11_eats [(2, 215), (0, 38)] M52 (fun x53 M53 => (x53 = 0 → (QCm X x d 0 yX11_fails [(2, 215), (0, 2)] M53 (fun _ M54 => post 0 M54))) ∧ (¬ x53 = 0 → in32 x53 ∧ (post 0 M53)))))))))))) ∧ (¬ x1 = 0 → in32 x1 ∧ (QCm X x d 1 yX11_goesIn [(2, 215), (0, v1)] M1 (fun x55 M55 => (x55 = 0 → (post 0 M55)) ∧ (¬ x55 = 0 → in32 x55 ∧ (QCm X x d 0 yX11_readUnit [(2, 215), (0, v1 + 1)] M55 (fun _ M56 => QCm X x d 0 yX11_codes [(2, 215), (0, 3006)] M56 (fun _ M57 => post 0 M57))))))))) : QRm X x (d + 1) qmX11_readUnit post 0 [(0, (2, 215)), (1, (0, v1))] [] M := qwp_ok qmX11_readUnit_ok.1 [] 84 (⟨rfl, QC.mono t (fun x1 h1 u1 => by obtain ⟨M1, rfl, u1⟩ := u1; exact ⟨fun z2 => ⟨rfl, QC.mono (u1.1 z2) (fun x2 h2 u3 => by obtain ⟨M2, rfl, u3⟩ := u3; exact ⟨fun z4 => ⟨rfl, QC.mono (u3.1 z4) (fun _ h3 u5 => by obtain ⟨M3, rfl, u5⟩ := u5; exact ⟨rfl, QC.mono u5 (fun x4 h4 u6 => by obtain ⟨M4, rfl, u6⟩ := u6; exact ⟨fun z7 => ⟨rfl, QC.mono (u6.1 z7) (fun x5 h5 u8 => by obtain ⟨M5, rfl, u8⟩ := u8; exact ⟨fun z9 => ⟨rfl, QC.mono (u8.1 z9) (fun x6 h6 u10 => by obtain ⟨M6, rfl, u10⟩ := u10; exact ⟨fun z11 => ⟨(u10.2 z11).1, (show in32 0 from ⟨by decide, by decide⟩), ⟨rfl, QC.mono ((u10.2 z11).2) (fun _ h18 u25 => by obtain ⟨M18, rfl, u25⟩ := u25; exact ⟨rfl, QC.mono u25 (fun _ h19 u26 => by obtain ⟨M19, rfl, u26⟩ := u26; exact ⟨rfl, QC.mono u26 (fun _ h20 u27 => by obtain ⟨M20, rfl, u27⟩ := u27; exact ⟨_, rfl, u27⟩)⟩)⟩)⟩⟩, fun z11 => ⟨rfl, QC.mono (u10.1 z11) (fun x7 h7 u12 => by obtain ⟨M7, rfl, u12⟩ := u12; exact ⟨fun z13 => ⟨(u12.2 z13).1, (show in32 0 from ⟨by decide, by decide⟩), ⟨rfl, QC.mono ((u12.2 z13).2) (fun _ h15 u22 => by obtain ⟨M15, rfl, u22⟩ := u22; exact ⟨rfl, QC.mono u22 (fun _ h16 u23 => by obtain ⟨M16, rfl, u23⟩ := u23; exact ⟨rfl, QC.mono u23 (fun _ h17 u24 => by obtain ⟨M17, rfl, u24⟩ := u24; exact ⟨_, rfl, u24⟩)⟩)⟩)⟩⟩, fun z13 => ⟨rfl, QC.mono (u12.1 z13) (fun x8 h8 u14 => by obtain ⟨M8, rfl, u14⟩ := u14; exact ⟨fun z15 => ⟨rfl, QC.mono (u14.1 z15) (fun _ h9 u16 => by obtain ⟨M9, rfl, u16⟩ := u16; exact ⟨rfl, QC.mono u16 (fun _ h10 u17 => by obtain ⟨M10, rfl, u17⟩ := u17; exact ⟨rfl, QC.mono u17 (fun _ h11 u18 => by obtain ⟨M11, rfl, u18⟩ := u18; exact ⟨_, rfl, u18⟩)⟩)⟩)⟩, fun z15 => ⟨(u14.2 z15).1, (show in32 0 from ⟨by decide, by decide⟩), ⟨rfl, QC.mono ((u14.2 z15).2) (fun _ h12 u19 => by obtain ⟨M12, rfl, u19⟩ := u19; exact ⟨rfl, QC.mono u19 (fun _ h13 u20 => by obtain ⟨M13, rfl, u20⟩ := u20; exact ⟨rfl, QC.mono u20 (fun _ h14 u21 => by obtain ⟨M14, rfl, u21⟩ := u21; exact ⟨_, rfl, u21⟩)⟩)⟩)⟩⟩⟩)⟩⟩)⟩⟩)⟩, fun z9 => ⟨(u8.2 z9).1, (show in32 0 from ⟨by decide, by decide⟩), ⟨rfl, QC.mono ((u8.2 z9).2) (fun x21 h21 u28 => by obtain ⟨M21, rfl, u28⟩ := u28; exact ⟨fun z29 => ⟨(u28.2 z29).1, (show in32 0 from ⟨by decide, by decide⟩), ⟨rfl, QC.mono ((u28.2 z29).2) (fun _ h33 u43 => by obtain ⟨M33, rfl, u43⟩ := u43; exact ⟨rfl, QC.mono u43 (fun _ h34 u44 => by obtain ⟨M34, rfl, u44⟩ := u44; exact ⟨rfl, QC.mono u44 (fun _ h35 u45 => by obtain ⟨M35, rfl, u45⟩ := u45; exact ⟨_, rfl, u45⟩)⟩)⟩)⟩⟩, fun z29 => ⟨rfl, QC.mono (u28.1 z29) (fun x22 h22 u30 => by obtain ⟨M22, rfl, u30⟩ := u30; exact ⟨fun z31 => ⟨(u30.2 z31).1, (show in32 0 from ⟨by decide, by decide⟩), ⟨rfl, QC.mono ((u30.2 z31).2) (fun _ h30 u40 => by obtain ⟨M30, rfl, u40⟩ := u40; exact ⟨rfl, QC.mono u40 (fun _ h31 u41 => by obtain ⟨M31, rfl, u41⟩ := u41; exact ⟨rfl, QC.mono u41 (fun _ h32 u42 => by obtain ⟨M32, rfl, u42⟩ := u42; exact ⟨_, rfl, u42⟩)⟩)⟩)⟩⟩, fun z31 => ⟨rfl, QC.mono (u30.1 z31) (fun x23 h23 u32 => by obtain ⟨M23, rfl, u32⟩ := u32; exact ⟨fun z33 => ⟨rfl, QC.mono (u32.1 z33) (fun _ h24 u34 => by obtain ⟨M24, rfl, u34⟩ := u34; exact ⟨rfl, QC.mono u34 (fun _ h25 u35 => by obtain ⟨M25, rfl, u35⟩ := u35; exact ⟨rfl, QC.mono u35 (fun _ h26 u36 => by obtain ⟨M26, rfl, u36⟩ := u36; exact ⟨_, rfl, u36⟩)⟩)⟩)⟩, fun z33 => ⟨(u32.2 z33).1, (show in32 0 from ⟨by decide, by decide⟩), ⟨rfl, QC.mono ((u32.2 z33).2) (fun _ h27 u37 => by obtain ⟨M27, rfl, u37⟩ := u37; exact ⟨rfl, QC.mono u37 (fun _ h28 u38 => by obtain ⟨M28, rfl, u38⟩ := u38; exact ⟨rfl, QC.mono u38 (fun _ h29 u39 => by obtain ⟨M29, rfl, u39⟩ := u39; exact ⟨_, rfl, u39⟩)⟩)⟩)⟩⟩⟩)⟩⟩)⟩⟩)⟩⟩⟩)⟩, fun z7 => ⟨(u6.2 z7).1, (show in32 0 from ⟨by decide, by decide⟩), ⟨rfl, QC.mono ((u6.2 z7).2) (fun x36 h36 u46 => by obtain ⟨M36, rfl, u46⟩ := u46; exact ⟨fun z47 => ⟨(u46.2 z47).1, (show in32 0 from ⟨by decide, by decide⟩), ⟨rfl, QC.mono ((u46.2 z47).2) (fun _ h48 u61 => by obtain ⟨M48, rfl, u61⟩ := u61; exact ⟨rfl, QC.mono u61 (fun _ h49 u62 => by obtain ⟨M49, rfl, u62⟩ := u62; exact ⟨rfl, QC.mono u62 (fun _ h50 u63 => by obtain ⟨M50, rfl, u63⟩ := u63; exact ⟨_, rfl, u63⟩)⟩)⟩)⟩⟩, fun z47 => ⟨rfl, QC.mono (u46.1 z47) (fun x37 h37 u48 => by obtain ⟨M37, rfl, u48⟩ := u48; exact ⟨fun z49 => ⟨(u48.2 z49).1, (show in32 0 from ⟨by decide, by decide⟩), ⟨rfl, QC.mono ((u48.2 z49).2) (fun _ h45 u58 => by obtain ⟨M45, rfl, u58⟩ := u58; exact ⟨rfl, QC.mono u58 (fun _ h46 u59 => by obtain ⟨M46, rfl, u59⟩ := u59; exact ⟨rfl, QC.mono u59 (fun _ h47 u60 => by obtain ⟨M47, rfl, u60⟩ := u60; exact ⟨_, rfl, u60⟩)⟩)⟩)⟩⟩, fun z49 => ⟨rfl, QC.mono (u48.1 z49) (fun x38 h38 u50 => by obtain ⟨M38, rfl, u50⟩ := u50; exact ⟨fun z51 => ⟨rfl, QC.mono (u50.1 z51) (fun _ h39 u52 => by obtain ⟨M39, rfl, u52⟩ := u52; exact ⟨rfl, QC.mono u52 (fun _ h40 u53 => by obtain ⟨M40, rfl, u53⟩ := u53; exact ⟨rfl, QC.mono u53 (fun _ h41 u54 => by obtain ⟨M41, rfl, u54⟩ := u54; exact ⟨_, rfl, u54⟩)⟩)⟩)⟩, fun z51 => ⟨(u50.2 z51).1, (show in32 0 from ⟨by decide, by decide⟩), ⟨rfl, QC.mono ((u50.2 z51).2) (fun _ h42 u55 => by obtain ⟨M42, rfl, u55⟩ := u55; exact ⟨rfl, QC.mono u55 (fun _ h43 u56 => by obtain ⟨M43, rfl, u56⟩ := u56; exact ⟨rfl, QC.mono u56 (fun _ h44 u57 => by obtain ⟨M44, rfl, u57⟩ := u57; exact ⟨_, rfl, u57⟩)⟩)⟩)⟩⟩⟩)⟩⟩)⟩⟩)⟩⟩⟩)⟩)⟩, fun z4 => ⟨(u3.2 z4).1, (show in32 0 from ⟨by decide, by decide⟩), ⟨rfl, QC.mono ((u3.2 z4).2) (fun x51 h51 u64 => by obtain ⟨M51, rfl, u64⟩ := u64; exact ⟨fun z65 => ⟨(u64.2 z65).1, (show in32 0 from ⟨by decide, by decide⟩), ⟨rfl, QC.mono ((u64.2 z65).2) (fun _ h52 u66 => by obtain ⟨M52, rfl, u66⟩ := u66; exact ⟨rfl, QC.mono u66 (fun x53 h53 u67 => by obtain ⟨M53, rfl, u67⟩ := u67; exact ⟨fun z68 => ⟨(u67.2 z68).1, (show in32 0 from ⟨by decide, by decide⟩), ⟨_, rfl, (u67.2 z68).2⟩⟩, fun z68 => ⟨rfl, QC.mono (u67.1 z68) (fun _ h54 u69 => by obtain ⟨M54, rfl, u69⟩ := u69; exact ⟨_, rfl, u69⟩)⟩⟩)⟩)⟩⟩, fun z65 => ⟨_, rfl, (u64.1 z65)⟩⟩)⟩⟩⟩)⟩, fun z2 => ⟨(u1.2 z2).1, (show in32 0 from ⟨by decide, by decide⟩), ⟨rfl, QC.mono ((u1.2 z2).2) (fun x55 h55 u70 => by obtain ⟨M55, rfl, u70⟩ := u70; exact ⟨fun z71 => ⟨(u70.2 z71).1, (show in32 0 from ⟨by decide, by decide⟩), ⟨rfl, QC.mono ((u70.2 z71).2) (fun _ h56 u72 => by obtain ⟨M56, rfl, u72⟩ := u72; exact ⟨rfl, QC.mono u72 (fun _ h57 u73 => by obtain ⟨M57, rfl, u73⟩ := u73; exact ⟨_, rfl, u73⟩)⟩)⟩⟩, fun z71 => ⟨_, rfl, (u70.1 z71)⟩⟩)⟩⟩⟩)⟩)
theorem TX11_readBoth_0 {X : QX} {x : Int} {d : Nat} {post : Int → QMem → Prop} {M : QMem} {v1 : Int} (t : QCm X x d 0 yX11_readUnit [(2, 215), (0, v1)] M (fun _ M1 => QRm X x (d + 1) qmX11_readBoth post 5 [(0, (2, 215)), (1, (0, v1))] [] M1)) : QRm X x (d + 1) qmX11_readBoth post 0 [(0, (2, 215)), (1, (0, v1))] [] M := qwp_ok qmX11_readBoth_ok.1 [(5, [0, 1])] 17 (⟨rfl, QC.mono t (fun _ h1 u1 => by obtain ⟨M1, rfl, u1⟩ := u1; exact u1)⟩)
theorem TX11_readBoth_5 {X : QX} {x : Int} {d : Nat} {post : Int → QMem → Prop} {M : QMem} {v1 : Int} (t : QCm X x d 1 yX11_eats [(2, 215), (0, 11)] M (fun x1 M1 => (x1 = 0 → (post 0 M1)) ∧ (¬ x1 = 0 → in32 x1 ∧ (QCm X x d 0 yX11_readUnit [(2, 215), (0, v1)] M1 (fun _ M2 => QCm X x d 0 yX11_codes [(2, 215), (0, 3007)] M2 (fun _ M3 => QRm X x (d + 1) qmX11_readBoth post 5 [(0, (2, 215)), (1, (0, v1))] [] M3)))))) : QRm X x (d + 1) qmX11_readBoth post 5 [(0, (2, 215)), (1, (0, v1))] [] M := qwp_ok qmX11_readBoth_ok.1 [(5, [0, 1])] 17 (⟨rfl, QC.mono t (fun x1 h1 u1 => by obtain ⟨M1, rfl, u1⟩ := u1; exact ⟨fun z2 => ⟨_, rfl, (u1.1 z2)⟩, fun z2 => ⟨(u1.2 z2).1, (show in32 0 from ⟨by decide, by decide⟩), ⟨rfl, QC.mono ((u1.2 z2).2) (fun _ h2 u3 => by obtain ⟨M2, rfl, u3⟩ := u3; exact ⟨rfl, QC.mono u3 (fun _ h3 u4 => by obtain ⟨M3, rfl, u4⟩ := u4; exact u4)⟩)⟩⟩⟩)⟩)
theorem TX11_readTruth_0 {X : QX} {x : Int} {d : Nat} {post : Int → QMem → Prop} {M : QMem} {v1 : Int} (t : QCm X x d 0 yX11_readBoth [(2, 215), (0, v1)] M (fun _ M1 => QRm X x (d + 1) qmX11_readTruth post 5 [(0, (2, 215)), (1, (0, v1))] [] M1)) : QRm X x (d + 1) qmX11_readTruth post 0 [(0, (2, 215)), (1, (0, v1))] [] M := qwp_ok qmX11_readTruth_ok.1 [(5, [0, 1])] 17 (⟨rfl, QC.mono t (fun _ h1 u1 => by obtain ⟨M1, rfl, u1⟩ := u1; exact u1)⟩)
theorem TX11_readTruth_5 {X : QX} {x : Int} {d : Nat} {post : Int → QMem → Prop} {M : QMem} {v1 : Int} (t : QCm X x d 1 yX11_eats [(2, 215), (0, 12)] M (fun x1 M1 => (x1 = 0 → (post 0 M1)) ∧ (¬ x1 = 0 → in32 x1 ∧ (QCm X x d 0 yX11_readBoth [(2, 215), (0, v1)] M1 (fun _ M2 => QCm X x d 0 yX11_codes [(2, 215), (0, 3008)] M2 (fun _ M3 => QRm X x (d + 1) qmX11_readTruth post 5 [(0, (2, 215)), (1, (0, v1))] [] M3)))))) : QRm X x (d + 1) qmX11_readTruth post 5 [(0, (2, 215)), (1, (0, v1))] [] M := qwp_ok qmX11_readTruth_ok.1 [(5, [0, 1])] 17 (⟨rfl, QC.mono t (fun x1 h1 u1 => by obtain ⟨M1, rfl, u1⟩ := u1; exact ⟨fun z2 => ⟨_, rfl, (u1.1 z2)⟩, fun z2 => ⟨(u1.2 z2).1, (show in32 0 from ⟨by decide, by decide⟩), ⟨rfl, QC.mono ((u1.2 z2).2) (fun _ h2 u3 => by obtain ⟨M2, rfl, u3⟩ := u3; exact ⟨rfl, QC.mono u3 (fun _ h3 u4 => by obtain ⟨M3, rfl, u4⟩ := u4; exact u4)⟩)⟩⟩⟩)⟩)
theorem TX11_isDrumIn_0 {X : QX} {x : Int} {d : Nat} {post : Int → QMem → Prop} {M : QMem} {v1 : Int} (t : QRm X x d qmX11_isDrumIn post 2 [(0, (2, 215)), (1, (0, v1)), (2, (0, 0))] [] M) : QRm X x d qmX11_isDrumIn post 0 [(0, (2, 215)), (1, (0, v1))] [] M := qwp_ok qmX11_isDrumIn_ok.1 [(2, [0, 1, 2])] 24 (t)
theorem TX11_isDrumIn_2 {X : QX} {x : Int} {d : Nat} {post : Int → QMem → Prop} {M : QMem} {v1 v2 : Int} (t : in32 v2 ∧ in32 (M 219 3) ∧ (M 219 3 ≤ v2 → (post 0 M)) ∧ (¬ M 219 3 ≤ v2 → ((0 : Int) ≤ 46 + v2 ∧ (46 + v2 < 4375 ∧ ((M 219 (46 + v2) = v1 → (post 1 M)) ∧ (¬ M 219 (46 + v2) = v1 → in32 (M 219 (46 + v2)) ∧ in32 v1 ∧ (QRm X x d qmX11_isDrumIn post 2 [(0, (2, 215)), (1, (0, v1)), (2, (0, v2 + 1))] [] M))))))) : QRm X x d qmX11_isDrumIn post 2 [(0, (2, 215)), (1, (0, v1)), (2, (0, v2))] [] M := qwp_ok qmX11_isDrumIn_ok.1 [(2, [0, 1, 2])] 24 (⟨rfl, ⟨rfl, ⟨(show (0 : Int) ≤ 3 by decide), ⟨(show (3 : Int) < 4375 by decide), ⟨t.1, t.2.1, fun z1 => ⟨(Or.inl rfl), ⟨_, rfl, (t.2.2.1 z1)⟩⟩, fun z1 => ⟨rfl, ⟨rfl, ⟨(t.2.2.2 z1).1, ⟨(t.2.2.2 z1).2.1, ⟨fun z2 => ⟨((t.2.2.2 z1).2.2.2 z2).1, ((t.2.2.2 z1).2.2.2 z2).2.1, ((t.2.2.2 z1).2.2.2 z2).2.2⟩, fun z2 => ⟨(Or.inr rfl), ⟨_, rfl, ((t.2.2.2 z1).2.2.1 z2)⟩⟩⟩⟩⟩⟩⟩⟩⟩⟩⟩⟩)
theorem TX11_readCell_0 {X : QX} {x : Int} {d : Nat} {post : Int → QMem → Prop} {M : QMem} (t : QCm X x d 1 yX11_takesN [(2, 215), (0, 0), (0, (M 219 1) - 1)] M (fun x1 M1 => QCm X x d 1 yX11_is [(2, 215), (0, 23)] M1 (fun x2 M2 => (x2 = 0 → (QCm X x d 1 yX11_takesN [(2, 215), (0, 0), (0, (M2 219 2) - 1)] M2 (fun x3 M3 => (M3 215 11 = 0 → (post (((M3 219 1) * x3) + x1) M3)) ∧ (¬ M3 215 11 = 0 → in32 (M3 215 11) ∧ (post (-1) M3))))) ∧ (¬ x2 = 0 → in32 x2 ∧ (in32 (M2 215 10) ∧ in32 (M2 219 2) ∧ (M2 219 2 ≤ M2 215 10 → (QCm X x d 1 yX11_takesN [(2, 215), (0, 0), (0, (M2 219 2) - 1)] M2 (fun x4 M4 => (M4 215 11 = 0 → (post (((M4 219 1) * x4) + x1) M4)) ∧ (¬ M4 215 11 = 0 → in32 (M4 215 11) ∧ (post (-1) M4))))) ∧ (¬ M2 219 2 ≤ M2 215 10 → ((0 : Int) ≤ 10 + (((M2 219 1) * (M2 215 10)) + x1) ∧ (10 + (((M2 219 1) * (M2 215 10)) + x1) < 4375 ∧ ((M2 219 (10 + (((M2 219 1) * (M2 215 10)) + x1)) = 1 → (QCm X x d 0 yX11_fails [(2, 215), (0, 3)] M2 (fun _ M5 => QCm X x d 1 yX11_takesN [(2, 215), (0, 0), (0, (M5 219 2) - 1)] M5 (fun x6 M6 => (M6 215 11 = 0 → (post (((M6 219 1) * x6) + x1) M6)) ∧ (¬ M6 215 11 = 0 → in32 (M6 215 11) ∧ (post (-1) M6)))))) ∧ (¬ M2 219 (10 + (((M2 219 1) * (M2 215 10)) + x1)) = 1 → in32 (M2 219 (10 + (((M2 219 1) * (M2 215 10)) + x1))) ∧ (QCm X x d 1 yX11_isDrumIn [(2, 215), (0, ((M2 219 1) * (M2 215 10)) + x1)] M2 (fun x7 M7 => (x7 = 0 → (QCm X x d 1 yX11_takesN [(2, 215), (0, 0), (0, (M7 219 2) - 1)] M7 (fun x8 M8 => (M8 215 11 = 0 → (post (((M8 219 1) * x8) + x1) M8)) ∧ (¬ M8 215 11 = 0 → in32 (M8 215 11) ∧ (post (-1) M8))))) ∧ (¬ x7 = 0 → in32 x7 ∧ (QCm X x d 0 yX11_fails [(2, 215), (0, 3)] M7 (fun _ M9 => QCm X x d 1 yX11_takesN [(2, 215), (0, 0), (0, (M9 219 2) - 1)] M9 (fun x10 M10 => (M10 215 11 = 0 → (post (((M10 219 1) * x10) + x1) M10)) ∧ (¬ M10 215 11 = 0 → in32 (M10 215 11) ∧ (post (-1) M10)))))))))))))))))) : QRm X x (d + 1) qmX11_readCell post 0 [(0, (2, 215))] [] M := qwp_ok qmX11_readCell_ok.1 [] 72 (⟨rfl, ⟨rfl, ⟨(show (0 : Int) ≤ 1 by decide), ⟨(show (1 : Int) < 4375 by decide), ⟨rfl, QC.mono t (fun x1 h1 u1 => by obtain ⟨M1, rfl, u1⟩ := u1; exact ⟨rfl, QC.mono u1 (fun x2 h2 u2 => by obtain ⟨M2, rfl, u2⟩ := u2; exact ⟨fun z3 => ⟨rfl, ⟨rfl, ⟨(show (0 : Int) ≤ 2 by decide), ⟨(show (2 : Int) < 4375 by decide), ⟨rfl, QC.mono (u2.1 z3) (fun x3 h3 u4 => by obtain ⟨M3, rfl, u4⟩ := u4; exact ⟨rfl, ⟨fun z5 => ⟨(u4.2 z5).1, (show in32 0 from ⟨by decide, by decide⟩), ⟨_, rfl, (u4.2 z5).2⟩⟩, fun z5 => ⟨rfl, ⟨rfl, ⟨(show (0 : Int) ≤ 1 by decide), ⟨(show (1 : Int) < 4375 by decide), ⟨_, rfl, (u4.1 z5)⟩⟩⟩⟩⟩⟩⟩)⟩⟩⟩⟩⟩, fun z3 => ⟨(u2.2 z3).1, (show in32 0 from ⟨by decide, by decide⟩), ⟨rfl, ⟨rfl, ⟨rfl, ⟨(show (0 : Int) ≤ 2 by decide), ⟨(show (2 : Int) < 4375 by decide), ⟨(u2.2 z3).2.1, (u2.2 z3).2.2.1, fun z6 => ⟨rfl, ⟨rfl, ⟨(show (0 : Int) ≤ 2 by decide), ⟨(show (2 : Int) < 4375 by decide), ⟨rfl, QC.mono ((u2.2 z3).2.2.2.1 z6) (fun x4 h4 u7 => by obtain ⟨M4, rfl, u7⟩ := u7; exact ⟨rfl, ⟨fun z8 => ⟨(u7.2 z8).1, (show in32 0 from ⟨by decide, by decide⟩), ⟨_, rfl, (u7.2 z8).2⟩⟩, fun z8 => ⟨rfl, ⟨rfl, ⟨(show (0 : Int) ≤ 1 by decide), ⟨(show (1 : Int) < 4375 by decide), ⟨_, rfl, (u7.1 z8)⟩⟩⟩⟩⟩⟩⟩)⟩⟩⟩⟩⟩, fun z6 => ⟨rfl, ⟨rfl, ⟨(show (0 : Int) ≤ 1 by decide), ⟨(show (1 : Int) < 4375 by decide), ⟨rfl, ⟨rfl, ⟨rfl, ⟨((u2.2 z3).2.2.2.2 z6).1, ⟨((u2.2 z3).2.2.2.2 z6).2.1, ⟨fun z9 => ⟨rfl, QC.mono (((u2.2 z3).2.2.2.2 z6).2.2.1 z9) (fun _ h5 u10 => by obtain ⟨M5, rfl, u10⟩ := u10; exact ⟨rfl, ⟨rfl, ⟨(show (0 : Int) ≤ 2 by decide), ⟨(show (2 : Int) < 4375 by decide), ⟨rfl, QC.mono u10 (fun x6 h6 u11 => by obtain ⟨M6, rfl, u11⟩ := u11; exact ⟨rfl, ⟨fun z12 => ⟨(u11.2 z12).1, (show in32 0 from ⟨by decide, by decide⟩), ⟨_, rfl, (u11.2 z12).2⟩⟩, fun z12 => ⟨rfl, ⟨rfl, ⟨(show (0 : Int) ≤ 1 by decide), ⟨(show (1 : Int) < 4375 by decide), ⟨_, rfl, (u11.1 z12)⟩⟩⟩⟩⟩⟩⟩)⟩⟩⟩⟩⟩)⟩, fun z9 => ⟨(((u2.2 z3).2.2.2.2 z6).2.2.2 z9).1, (show in32 1 from ⟨by decide, by decide⟩), ⟨rfl, QC.mono ((((u2.2 z3).2.2.2.2 z6).2.2.2 z9).2) (fun x7 h7 u13 => by obtain ⟨M7, rfl, u13⟩ := u13; exact ⟨fun z14 => ⟨rfl, ⟨rfl, ⟨(show (0 : Int) ≤ 2 by decide), ⟨(show (2 : Int) < 4375 by decide), ⟨rfl, QC.mono (u13.1 z14) (fun x8 h8 u15 => by obtain ⟨M8, rfl, u15⟩ := u15; exact ⟨rfl, ⟨fun z16 => ⟨(u15.2 z16).1, (show in32 0 from ⟨by decide, by decide⟩), ⟨_, rfl, (u15.2 z16).2⟩⟩, fun z16 => ⟨rfl, ⟨rfl, ⟨(show (0 : Int) ≤ 1 by decide), ⟨(show (1 : Int) < 4375 by decide), ⟨_, rfl, (u15.1 z16)⟩⟩⟩⟩⟩⟩⟩)⟩⟩⟩⟩⟩, fun z14 => ⟨(u13.2 z14).1, (show in32 0 from ⟨by decide, by decide⟩), ⟨rfl, QC.mono ((u13.2 z14).2) (fun _ h9 u17 => by obtain ⟨M9, rfl, u17⟩ := u17; exact ⟨rfl, ⟨rfl, ⟨(show (0 : Int) ≤ 2 by decide), ⟨(show (2 : Int) < 4375 by decide), ⟨rfl, QC.mono u17 (fun x10 h10 u18 => by obtain ⟨M10, rfl, u18⟩ := u18; exact ⟨rfl, ⟨fun z19 => ⟨(u18.2 z19).1, (show in32 0 from ⟨by decide, by decide⟩), ⟨_, rfl, (u18.2 z19).2⟩⟩, fun z19 => ⟨rfl, ⟨rfl, ⟨(show (0 : Int) ≤ 1 by decide), ⟨(show (1 : Int) < 4375 by decide), ⟨_, rfl, (u18.1 z19)⟩⟩⟩⟩⟩⟩⟩)⟩⟩⟩⟩⟩)⟩⟩⟩)⟩⟩⟩⟩⟩⟩⟩⟩⟩⟩⟩⟩⟩⟩⟩⟩⟩⟩⟩⟩)⟩)⟩⟩⟩⟩⟩)
theorem TX11_readRock_0 {X : QX} {x : Int} {d : Nat} {post : Int → QMem → Prop} {M : QMem} (t : QCm X x d 0 yX11_next [(2, 215)] M (fun _ M1 => QCm X x d 1 yX11_readCell [(2, 215)] M1 (fun x2 M2 => (M2 215 11 = 0 → ((0 : Int) ≤ 10 + x2 ∧ (10 + x2 < 4375 ∧ (post 0 (qup M2 219 (10 + x2) 1))))) ∧ (¬ M2 215 11 = 0 → in32 (M2 215 11) ∧ (post 0 M2))))) : QRm X x (d + 1) qmX11_readRock post 0 [(0, (2, 215))] [] M := qwp_ok qmX11_readRock_ok.1 [] 18 (⟨rfl, QC.mono t (fun _ h1 u1 => by obtain ⟨M1, rfl, u1⟩ := u1; exact ⟨rfl, QC.mono u1 (fun x2 h2 u2 => by obtain ⟨M2, rfl, u2⟩ := u2; exact ⟨rfl, ⟨fun z3 => ⟨(u2.2 z3).1, (show in32 0 from ⟨by decide, by decide⟩), ⟨_, rfl, (u2.2 z3).2⟩⟩, fun z3 => ⟨rfl, ⟨rfl, ⟨(u2.1 z3).1, ⟨(u2.1 z3).2.1, ⟨_, rfl, (u2.1 z3).2.2⟩⟩⟩⟩⟩⟩⟩)⟩)⟩)
theorem TX11_readDrum_0 {X : QX} {x : Int} {d : Nat} {post : Int → QMem → Prop} {M : QMem} (t : (M 219 3 = 6 → (QCm X x d 0 yX11_fails [(2, 215), (0, 4)] M (fun _ M1 => (M1 215 11 = 0 → (QCm X x d 0 yX11_next [(2, 215)] M1 (fun _ M2 => QCm X x d 1 yX11_readCell [(2, 215)] M2 (fun x3 M3 => QCm X x d 1 yX11_eats [(2, 215), (0, 3)] M3 (fun x4 M4 => (x4 = 0 → (QCm X x d 0 yX11_fails [(2, 215), (0, 2)] M4 (fun _ M5 => QCm X x d 1 yX11_takesN [(2, 215), (0, 0), (0, 999)] M5 (fun x6 M6 => (M6 215 11 = 0 → ((0 : Int) ≤ 46 + (M 219 3) ∧ (46 + (M 219 3) < 4375 ∧ ((0 : Int) ≤ 54 + (M 219 3) ∧ (54 + (M 219 3) < 4375 ∧ (post 0 (qup (qup (qup M6 219 (46 + (M 219 3)) x3) 219 (54 + (M 219 3)) x6) 219 3 (((qup (qup M6 219 (46 + (M 219 3)) x3) 219 (54 + (M 219 3)) x6) 219 3) + 1)))))))) ∧ (¬ M6 215 11 = 0 → in32 (M6 215 11) ∧ (post 0 M6)))))) ∧ (¬ x4 = 0 → in32 x4 ∧ (QCm X x d 1 yX11_takesN [(2, 215), (0, 0), (0, 999)] M4 (fun x7 M7 => (M7 215 11 = 0 → ((0 : Int) ≤ 46 + (M 219 3) ∧ (46 + (M 219 3) < 4375 ∧ ((0 : Int) ≤ 54 + (M 219 3) ∧ (54 + (M 219 3) < 4375 ∧ (post 0 (qup (qup (qup M7 219 (46 + (M 219 3)) x3) 219 (54 + (M 219 3)) x7) 219 3 (((qup (qup M7 219 (46 + (M 219 3)) x3) 219 (54 + (M 219 3)) x7) 219 3) + 1)))))))) ∧ (¬ M7 215 11 = 0 → in32 (M7 215 11) ∧ (post 0 M7)))))))))) ∧ (¬ M1 215 11 = 0 → in32 (M1 215 11) ∧ (post 0 M1))))) ∧ (¬ M 219 3 = 6 → in32 (M 219 3) ∧ ((M 215 11 = 0 → (QCm X x d 0 yX11_next [(2, 215)] M (fun _ M8 => QCm X x d 1 yX11_readCell [(2, 215)] M8 (fun x9 M9 => QCm X x d 1 yX11_eats [(2, 215), (0, 3)] M9 (fun x10 M10 => (x10 = 0 → (QCm X x d 0 yX11_fails [(2, 215), (0, 2)] M10 (fun _ M11 => QCm X x d 1 yX11_takesN [(2, 215), (0, 0), (0, 999)] M11 (fun x12 M12 => (M12 215 11 = 0 → ((0 : Int) ≤ 46 + (M 219 3) ∧ (46 + (M 219 3) < 4375 ∧ ((0 : Int) ≤ 54 + (M 219 3) ∧ (54 + (M 219 3) < 4375 ∧ (post 0 (qup (qup (qup M12 219 (46 + (M 219 3)) x9) 219 (54 + (M 219 3)) x12) 219 3 (((qup (qup M12 219 (46 + (M 219 3)) x9) 219 (54 + (M 219 3)) x12) 219 3) + 1)))))))) ∧ (¬ M12 215 11 = 0 → in32 (M12 215 11) ∧ (post 0 M12)))))) ∧ (¬ x10 = 0 → in32 x10 ∧ (QCm X x d 1 yX11_takesN [(2, 215), (0, 0), (0, 999)] M10 (fun x13 M13 => (M13 215 11 = 0 → ((0 : Int) ≤ 46 + (M 219 3) ∧ (46 + (M 219 3) < 4375 ∧ ((0 : Int) ≤ 54 + (M 219 3) ∧ (54 + (M 219 3) < 4375 ∧ (post 0 (qup (qup (qup M13 219 (46 + (M 219 3)) x9) 219 (54 + (M 219 3)) x13) 219 3 (((qup (qup M13 219 (46 + (M 219 3)) x9) 219 (54 + (M 219 3)) x13) 219 3) + 1)))))))) ∧ (¬ M13 215 11 = 0 → in32 (M13 215 11) ∧ (post 0 M13)))))))))) ∧ (¬ M 215 11 = 0 → in32 (M 215 11) ∧ (post 0 M))))) : QRm X x (d + 1) qmX11_readDrum post 0 [(0, (2, 215))] [] M := qwp_ok qmX11_readDrum_ok.1 [] 61 (⟨rfl, ⟨rfl, ⟨(show (0 : Int) ≤ 3 by decide), ⟨(show (3 : Int) < 4375 by decide), ⟨fun z1 => ⟨(t.2 z1).1, (show in32 6 from ⟨by decide, by decide⟩), ⟨rfl, ⟨fun z13 => ⟨rfl, QC.mono ((t.2 z1).2.1 z13) (fun _ h8 u14 => by obtain ⟨M8, rfl, u14⟩ := u14; exact ⟨rfl, QC.mono u14 (fun x9 h9 u15 => by obtain ⟨M9, rfl, u15⟩ := u15; exact ⟨rfl, QC.mono u15 (fun x10 h10 u16 => by obtain ⟨M10, rfl, u16⟩ := u16; exact ⟨fun z17 => ⟨(u16.2 z17).1, (show in32 0 from ⟨by decide, by decide⟩), ⟨rfl, QC.mono ((u16.2 z17).2) (fun x13 h13 u21 => by obtain ⟨M13, rfl, u21⟩ := u21; exact ⟨rfl, ⟨fun z22 => ⟨rfl, ⟨rfl, ⟨(u21.1 z22).1, ⟨(u21.1 z22).2.1, ⟨rfl, ⟨rfl, ⟨(u21.1 z22).2.2.1, ⟨(u21.1 z22).2.2.2.1, ⟨rfl, ⟨rfl, ⟨(show (0 : Int) ≤ 3 by decide), ⟨(show (3 : Int) < 4375 by decide), ⟨rfl, ⟨(show (0 : Int) ≤ 3 by decide), ⟨(show (3 : Int) < 4375 by decide), ⟨_, rfl, (u21.1 z22).2.2.2.2⟩⟩⟩⟩⟩⟩⟩⟩⟩⟩⟩⟩⟩⟩⟩⟩, fun z22 => ⟨(u21.2 z22).1, (show in32 0 from ⟨by decide, by decide⟩), ⟨_, rfl, (u21.2 z22).2⟩⟩⟩⟩)⟩⟩, fun z17 => ⟨rfl, QC.mono (u16.1 z17) (fun _ h11 u18 => by obtain ⟨M11, rfl, u18⟩ := u18; exact ⟨rfl, QC.mono u18 (fun x12 h12 u19 => by obtain ⟨M12, rfl, u19⟩ := u19; exact ⟨rfl, ⟨fun z20 => ⟨rfl, ⟨rfl, ⟨(u19.1 z20).1, ⟨(u19.1 z20).2.1, ⟨rfl, ⟨rfl, ⟨(u19.1 z20).2.2.1, ⟨(u19.1 z20).2.2.2.1, ⟨rfl, ⟨rfl, ⟨(show (0 : Int) ≤ 3 by decide), ⟨(show (3 : Int) < 4375 by decide), ⟨rfl, ⟨(show (0 : Int) ≤ 3 by decide), ⟨(show (3 : Int) < 4375 by decide), ⟨_, rfl, (u19.1 z20).2.2.2.2⟩⟩⟩⟩⟩⟩⟩⟩⟩⟩⟩⟩⟩⟩⟩⟩, fun z20 => ⟨(u19.2 z20).1, (show in32 0 from ⟨by decide, by decide⟩), ⟨_, rfl, (u19.2 z20).2⟩⟩⟩⟩)⟩)⟩⟩)⟩)⟩)⟩, fun z13 => ⟨((t.2 z1).2.2 z13).1, (show in32 0 from ⟨by decide, by decide⟩), ⟨_, rfl, ((t.2 z1).2.2 z13).2⟩⟩⟩⟩⟩, fun z1 => ⟨rfl, QC.mono (t.1 z1) (fun _ h1 u2 => by obtain ⟨M1, rfl, u2⟩ := u2; exact ⟨rfl, ⟨fun z3 => ⟨rfl, QC.mono (u2.1 z3) (fun _ h2 u4 => by obtain ⟨M2, rfl, u4⟩ := u4; exact ⟨rfl, QC.mono u4 (fun x3 h3 u5 => by obtain ⟨M3, rfl, u5⟩ := u5; exact ⟨rfl, QC.mono u5 (fun x4 h4 u6 => by obtain ⟨M4, rfl, u6⟩ := u6; exact ⟨fun z7 => ⟨(u6.2 z7).1, (show in32 0 from ⟨by decide, by decide⟩), ⟨rfl, QC.mono ((u6.2 z7).2) (fun x7 h7 u11 => by obtain ⟨M7, rfl, u11⟩ := u11; exact ⟨rfl, ⟨fun z12 => ⟨rfl, ⟨rfl, ⟨(u11.1 z12).1, ⟨(u11.1 z12).2.1, ⟨rfl, ⟨rfl, ⟨(u11.1 z12).2.2.1, ⟨(u11.1 z12).2.2.2.1, ⟨rfl, ⟨rfl, ⟨(show (0 : Int) ≤ 3 by decide), ⟨(show (3 : Int) < 4375 by decide), ⟨rfl, ⟨(show (0 : Int) ≤ 3 by decide), ⟨(show (3 : Int) < 4375 by decide), ⟨_, rfl, (u11.1 z12).2.2.2.2⟩⟩⟩⟩⟩⟩⟩⟩⟩⟩⟩⟩⟩⟩⟩⟩, fun z12 => ⟨(u11.2 z12).1, (show in32 0 from ⟨by decide, by decide⟩), ⟨_, rfl, (u11.2 z12).2⟩⟩⟩⟩)⟩⟩, fun z7 => ⟨rfl, QC.mono (u6.1 z7) (fun _ h5 u8 => by obtain ⟨M5, rfl, u8⟩ := u8; exact ⟨rfl, QC.mono u8 (fun x6 h6 u9 => by obtain ⟨M6, rfl, u9⟩ := u9; exact ⟨rfl, ⟨fun z10 => ⟨rfl, ⟨rfl, ⟨(u9.1 z10).1, ⟨(u9.1 z10).2.1, ⟨rfl, ⟨rfl, ⟨(u9.1 z10).2.2.1, ⟨(u9.1 z10).2.2.2.1, ⟨rfl, ⟨rfl, ⟨(show (0 : Int) ≤ 3 by decide), ⟨(show (3 : Int) < 4375 by decide), ⟨rfl, ⟨(show (0 : Int) ≤ 3 by decide), ⟨(show (3 : Int) < 4375 by decide), ⟨_, rfl, (u9.1 z10).2.2.2.2⟩⟩⟩⟩⟩⟩⟩⟩⟩⟩⟩⟩⟩⟩⟩⟩, fun z10 => ⟨(u9.2 z10).1, (show in32 0 from ⟨by decide, by decide⟩), ⟨_, rfl, (u9.2 z10).2⟩⟩⟩⟩)⟩)⟩⟩)⟩)⟩)⟩, fun z3 => ⟨(u2.2 z3).1, (show in32 0 from ⟨by decide, by decide⟩), ⟨_, rfl, (u2.2 z3).2⟩⟩⟩⟩)⟩⟩⟩⟩⟩⟩)
theorem TX11_readLaw_0 {X : QX} {x : Int} {d : Nat} {post : Int → QMem → Prop} {M : QMem} {v1 : Int} (t : QCm X x d 0 yX11_next [(2, 215)] M (fun _ M1 => QCm X x d 1 yX11_eats [(2, 215), (0, 31)] M1 (fun x2 M2 => (x2 = 0 → (QCm X x d 0 yX11_fails [(2, 215), (0, 2)] M2 (fun _ M3 => (v1 = 0 → (QCm X x d 0 yX11_readSum [(2, 215), (0, 0)] (qup M3 215 15 v1) (fun _ M4 => (M4 215 11 = 0 → ((0 : Int) ≤ 4 + v1 ∧ (4 + v1 < 4375 ∧ ((0 : Int) ≤ 6 + v1 ∧ (6 + v1 < 4375 ∧ ((0 : Int) ≤ 8 + v1 ∧ (8 + v1 < 4375 ∧ (post 0 (qup (qup (qup M4 219 (4 + v1) 1) 219 (6 + v1) (M3 219 3474)) 219 (8 + v1) (((qup (qup M4 219 (4 + v1) 1) 219 (6 + v1) (M3 219 3474)) 219 3474) - (M3 219 3474))))))))))) ∧ (¬ M4 215 11 = 0 → in32 (M4 215 11) ∧ (post 0 M4))))) ∧ (¬ v1 = 0 → in32 v1 ∧ (QCm X x d 0 yX11_readTruth [(2, 215), (0, 0)] (qup M3 215 15 v1) (fun _ M5 => (M5 215 11 = 0 → ((0 : Int) ≤ 4 + v1 ∧ (4 + v1 < 4375 ∧ ((0 : Int) ≤ 6 + v1 ∧ (6 + v1 < 4375 ∧ ((0 : Int) ≤ 8 + v1 ∧ (8 + v1 < 4375 ∧ (post 0 (qup (qup (qup M5 219 (4 + v1) 1) 219 (6 + v1) (M3 219 3474)) 219 (8 + v1) (((qup (qup M5 219 (4 + v1) 1) 219 (6 + v1) (M3 219 3474)) 219 3474) - (M3 219 3474))))))))))) ∧ (¬ M5 215 11 = 0 → in32 (M5 215 11) ∧ (post 0 M5)))))))) ∧ (¬ x2 = 0 → in32 x2 ∧ ((v1 = 0 → (QCm X x d 0 yX11_readSum [(2, 215), (0, 0)] (qup M2 215 15 v1) (fun _ M6 => (M6 215 11 = 0 → ((0 : Int) ≤ 4 + v1 ∧ (4 + v1 < 4375 ∧ ((0 : Int) ≤ 6 + v1 ∧ (6 + v1 < 4375 ∧ ((0 : Int) ≤ 8 + v1 ∧ (8 + v1 < 4375 ∧ (post 0 (qup (qup (qup M6 219 (4 + v1) 1) 219 (6 + v1) (M2 219 3474)) 219 (8 + v1) (((qup (qup M6 219 (4 + v1) 1) 219 (6 + v1) (M2 219 3474)) 219 3474) - (M2 219 3474))))))))))) ∧ (¬ M6 215 11 = 0 → in32 (M6 215 11) ∧ (post 0 M6))))) ∧ (¬ v1 = 0 → in32 v1 ∧ (QCm X x d 0 yX11_readTruth [(2, 215), (0, 0)] (qup M2 215 15 v1) (fun _ M7 => (M7 215 11 = 0 → ((0 : Int) ≤ 4 + v1 ∧ (4 + v1 < 4375 ∧ ((0 : Int) ≤ 6 + v1 ∧ (6 + v1 < 4375 ∧ ((0 : Int) ≤ 8 + v1 ∧ (8 + v1 < 4375 ∧ (post 0 (qup (qup (qup M7 219 (4 + v1) 1) 219 (6 + v1) (M2 219 3474)) 219 (8 + v1) (((qup (qup M7 219 (4 + v1) 1) 219 (6 + v1) (M2 219 3474)) 219 3474) - (M2 219 3474))))))))))) ∧ (¬ M7 215 11 = 0 → in32 (M7 215 11) ∧ (post 0 M7)))))))))) : QRm X x (d + 1) qmX11_readLaw post 0 [(0, (2, 215)), (1, (0, v1))] [] M := qwp_ok qmX11_readLaw_ok.1 [] 59 (⟨rfl, QC.mono t (fun _ h1 u1 => by obtain ⟨M1, rfl, u1⟩ := u1; exact ⟨rfl, QC.mono u1 (fun x2 h2 u2 => by obtain ⟨M2, rfl, u2⟩ := u2; exact ⟨fun z3 => ⟨(u2.2 z3).1, (show in32 0 from ⟨by decide, by decide⟩), ⟨rfl, ⟨rfl, ⟨(show (0 : Int) ≤ 3474 by decide), ⟨(show (3474 : Int) < 4375 by decide), ⟨rfl, ⟨fun z10 => ⟨((u2.2 z3).2.2 z10).1, (show in32 0 from ⟨by decide, by decide⟩), ⟨rfl, QC.mono (((u2.2 z3).2.2 z10).2) (fun _ h7 u13 => by obtain ⟨M7, rfl, u13⟩ := u13; exact ⟨rfl, ⟨fun z14 => ⟨rfl, ⟨rfl, ⟨(u13.1 z14).1, ⟨(u13.1 z14).2.1, ⟨rfl, ⟨rfl, ⟨(u13.1 z14).2.2.1, ⟨(u13.1 z14).2.2.2.1, ⟨rfl, ⟨rfl, ⟨rfl, ⟨(show (0 : Int) ≤ 3474 by decide), ⟨(show (3474 : Int) < 4375 by decide), ⟨rfl, ⟨(u13.1 z14).2.2.2.2.1, ⟨(u13.1 z14).2.2.2.2.2.1, ⟨_, rfl, (u13.1 z14).2.2.2.2.2.2⟩⟩⟩⟩⟩⟩⟩⟩⟩⟩⟩⟩⟩⟩⟩⟩⟩, fun z14 => ⟨(u13.2 z14).1, (show in32 0 from ⟨by decide, by decide⟩), ⟨_, rfl, (u13.2 z14).2⟩⟩⟩⟩)⟩⟩, fun z10 => ⟨rfl, QC.mono ((u2.2 z3).2.1 z10) (fun _ h6 u11 => by obtain ⟨M6, rfl, u11⟩ := u11; exact ⟨rfl, ⟨fun z12 => ⟨rfl, ⟨rfl, ⟨(u11.1 z12).1, ⟨(u11.1 z12).2.1, ⟨rfl, ⟨rfl, ⟨(u11.1 z12).2.2.1, ⟨(u11.1 z12).2.2.2.1, ⟨rfl, ⟨rfl, ⟨rfl, ⟨(show (0 : Int) ≤ 3474 by decide), ⟨(show (3474 : Int) < 4375 by decide), ⟨rfl, ⟨(u11.1 z12).2.2.2.2.1, ⟨(u11.1 z12).2.2.2.2.2.1, ⟨_, rfl, (u11.1 z12).2.2.2.2.2.2⟩⟩⟩⟩⟩⟩⟩⟩⟩⟩⟩⟩⟩⟩⟩⟩⟩, fun z12 => ⟨(u11.2 z12).1, (show in32 0 from ⟨by decide, by decide⟩), ⟨_, rfl, (u11.2 z12).2⟩⟩⟩⟩)⟩⟩⟩⟩⟩⟩⟩⟩, fun z3 => ⟨rfl, QC.mono (u2.1 z3) (fun _ h3 u4 => by obtain ⟨M3, rfl, u4⟩ := u4; exact ⟨rfl, ⟨rfl, ⟨(show (0 : Int) ≤ 3474 by decide), ⟨(show (3474 : Int) < 4375 by decide), ⟨rfl, ⟨fun z5 => ⟨(u4.2 z5).1, (show in32 0 from ⟨by decide, by decide⟩), ⟨rfl, QC.mono ((u4.2 z5).2) (fun _ h5 u8 => by obtain ⟨M5, rfl, u8⟩ := u8; exact ⟨rfl, ⟨fun z9 => ⟨rfl, ⟨rfl, ⟨(u8.1 z9).1, ⟨(u8.1 z9).2.1, ⟨rfl, ⟨rfl, ⟨(u8.1 z9).2.2.1, ⟨(u8.1 z9).2.2.2.1, ⟨rfl, ⟨rfl, ⟨rfl, ⟨(show (0 : Int) ≤ 3474 by decide), ⟨(show (3474 : Int) < 4375 by decide), ⟨rfl, ⟨(u8.1 z9).2.2.2.2.1, ⟨(u8.1 z9).2.2.2.2.2.1, ⟨_, rfl, (u8.1 z9).2.2.2.2.2.2⟩⟩⟩⟩⟩⟩⟩⟩⟩⟩⟩⟩⟩⟩⟩⟩⟩, fun z9 => ⟨(u8.2 z9).1, (show in32 0 from ⟨by decide, by decide⟩), ⟨_, rfl, (u8.2 z9).2⟩⟩⟩⟩)⟩⟩, fun z5 => ⟨rfl, QC.mono (u4.1 z5) (fun _ h4 u6 => by obtain ⟨M4, rfl, u6⟩ := u6; exact ⟨rfl, ⟨fun z7 => ⟨rfl, ⟨rfl, ⟨(u6.1 z7).1, ⟨(u6.1 z7).2.1, ⟨rfl, ⟨rfl, ⟨(u6.1 z7).2.2.1, ⟨(u6.1 z7).2.2.2.1, ⟨rfl, ⟨rfl, ⟨rfl, ⟨(show (0 : Int) ≤ 3474 by decide), ⟨(show (3474 : Int) < 4375 by decide), ⟨rfl, ⟨(u6.1 z7).2.2.2.2.1, ⟨(u6.1 z7).2.2.2.2.2.1, ⟨_, rfl, (u6.1 z7).2.2.2.2.2.2⟩⟩⟩⟩⟩⟩⟩⟩⟩⟩⟩⟩⟩⟩⟩⟩⟩, fun z7 => ⟨(u6.2 z7).1, (show in32 0 from ⟨by decide, by decide⟩), ⟨_, rfl, (u6.2 z7).2⟩⟩⟩⟩)⟩⟩⟩⟩⟩⟩⟩)⟩⟩)⟩)⟩)
theorem TX11_readLine_0 {X : QX} {x : Int} {d : Nat} {post : Int → QMem → Prop} {M : QMem} (t : (M 215 11 = 0 → (QCm X x d 1 yX11_is [(2, 215), (0, 1)] M (fun x1 M1 => (x1 = 0 → (QCm X x d 1 yX11_is [(2, 215), (0, 2)] M1 (fun x2 M2 => (x2 = 0 → (QCm X x d 1 yX11_is [(2, 215), (0, 4)] M2 (fun x3 M3 => (x3 = 0 → (QCm X x d 1 yX11_is [(2, 215), (0, 5)] M3 (fun x4 M4 => (x4 = 0 → (QCm X x d 1 yX11_eats [(2, 215), (0, 6)] M4 (fun x5 M5 => (x5 = 0 → (QCm X x d 1 yX11_eats [(2, 215), (0, 7)] M5 (fun x6 M6 => (x6 = 0 → (QCm X x d 0 yX11_fails [(2, 215), (0, 2)] M6 (fun _ M7 => post 0 M7))) ∧ (¬ x6 = 0 → in32 x6 ∧ (QCm X x d 1 yX11_takesN [(2, 215), (0, 0), (0, 999)] M6 (fun x8 M8 => post 0 (qup M8 219 53 x8))))))) ∧ (¬ x5 = 0 → in32 x5 ∧ (QCm X x d 1 yX11_takesN [(2, 215), (0, 0), (0, 9)] M5 (fun x9 M9 => post 0 (qup M9 219 52 x9))))))) ∧ (¬ x4 = 0 → in32 x4 ∧ (QCm X x d 0 yX11_readLaw [(2, 215), (0, (M4 215 9) - 4)] M4 (fun _ M10 => post 0 M10)))))) ∧ (¬ x3 = 0 → in32 x3 ∧ (QCm X x d 0 yX11_readLaw [(2, 215), (0, (M3 215 9) - 4)] M3 (fun _ M11 => post 0 M11)))))) ∧ (¬ x2 = 0 → in32 x2 ∧ (QCm X x d 0 yX11_readDrum [(2, 215)] M2 (fun _ M12 => post 0 M12)))))) ∧ (¬ x1 = 0 → in32 x1 ∧ (QCm X x d 0 yX11_readRock [(2, 215)] M1 (fun _ M13 => post 0 M13)))))) ∧ (¬ M 215 11 = 0 → in32 (M 215 11) ∧ (post 0 M))) : QRm X x (d + 1) qmX11_readLine post 0 [(0, (2, 215))] [] M := qwp_ok qmX11_readLine_ok.1 [] 65 (⟨rfl, ⟨fun z1 => ⟨rfl, QC.mono (t.1 z1) (fun x1 h1 u2 => by obtain ⟨M1, rfl, u2⟩ := u2; exact ⟨fun z3 => ⟨rfl, QC.mono (u2.1 z3) (fun x2 h2 u4 => by obtain ⟨M2, rfl, u4⟩ := u4; exact ⟨fun z5 => ⟨rfl, QC.mono (u4.1 z5) (fun x3 h3 u6 => by obtain ⟨M3, rfl, u6⟩ := u6; exact ⟨fun z7 => ⟨(u6.2 z7).1, (show in32 0 from ⟨by decide, by decide⟩), ⟨rfl, ⟨rfl, QC.mono ((u6.2 z7).2) (fun _ h11 u18 => by obtain ⟨M11, rfl, u18⟩ := u18; exact ⟨_, rfl, u18⟩)⟩⟩⟩, fun z7 => ⟨rfl, QC.mono (u6.1 z7) (fun x4 h4 u8 => by obtain ⟨M4, rfl, u8⟩ := u8; exact ⟨fun z9 => ⟨rfl, QC.mono (u8.1 z9) (fun x5 h5 u10 => by obtain ⟨M5, rfl, u10⟩ := u10; exact ⟨fun z11 => ⟨rfl, QC.mono (u10.1 z11) (fun x6 h6 u12 => by obtain ⟨M6, rfl, u12⟩ := u12; exact ⟨fun z13 => ⟨rfl, QC.mono (u12.1 z13) (fun _ h7 u14 => by obtain ⟨M7, rfl, u14⟩ := u14; exact ⟨_, rfl, u14⟩)⟩, fun z13 => ⟨(u12.2 z13).1, (show in32 0 from ⟨by decide, by decide⟩), ⟨rfl, ⟨rfl, QC.mono ((u12.2 z13).2) (fun x8 h8 u15 => by obtain ⟨M8, rfl, u15⟩ := u15; exact ⟨rfl, ⟨(show (0 : Int) ≤ 53 by decide), ⟨(show (53 : Int) < 4375 by decide), ⟨_, rfl, u15⟩⟩⟩⟩)⟩⟩⟩⟩)⟩, fun z11 => ⟨(u10.2 z11).1, (show in32 0 from ⟨by decide, by decide⟩), ⟨rfl, ⟨rfl, QC.mono ((u10.2 z11).2) (fun x9 h9 u16 => by obtain ⟨M9, rfl, u16⟩ := u16; exact ⟨rfl, ⟨(show (0 : Int) ≤ 52 by decide), ⟨(show (52 : Int) < 4375 by decide), ⟨_, rfl, u16⟩⟩⟩⟩)⟩⟩⟩⟩)⟩, fun z9 => ⟨(u8.2 z9).1, (show in32 0 from ⟨by decide, by decide⟩), ⟨rfl, ⟨rfl, QC.mono ((u8.2 z9).2) (fun _ h10 u17 => by obtain ⟨M10, rfl, u17⟩ := u17; exact ⟨_, rfl, u17⟩)⟩⟩⟩⟩)⟩⟩)⟩, fun z5 => ⟨(u4.2 z5).1, (show in32 0 from ⟨by decide, by decide⟩), ⟨rfl, QC.mono ((u4.2 z5).2) (fun _ h12 u19 => by obtain ⟨M12, rfl, u19⟩ := u19; exact ⟨_, rfl, u19⟩)⟩⟩⟩)⟩, fun z3 => ⟨(u2.2 z3).1, (show in32 0 from ⟨by decide, by decide⟩), ⟨rfl, QC.mono ((u2.2 z3).2) (fun _ h13 u20 => by obtain ⟨M13, rfl, u20⟩ := u20; exact ⟨_, rfl, u20⟩)⟩⟩⟩)⟩, fun z1 => ⟨(t.2 z1).1, (show in32 0 from ⟨by decide, by decide⟩), ⟨_, rfl, (t.2 z1).2⟩⟩⟩⟩)
theorem TX11_ends_0 {X : QX} {x : Int} {d : Nat} {post : Int → QMem → Prop} {M : QMem} (t : QCm X x d 1 yX11_eats [(2, 215), (0, 30)] M (fun x1 M1 => (x1 = 0 → (QCm X x d 0 yX11_fails [(2, 215), (0, 2)] M1 (fun _ M2 => post 0 (qup M2 219 0 ((M2 219 0) + 1))))) ∧ (¬ x1 = 0 → in32 x1 ∧ (post 0 (qup M1 219 0 ((M1 219 0) + 1)))))) : QRm X x (d + 1) qmX11_ends post 0 [(0, (2, 215))] [] M := qwp_ok qmX11_ends_ok.1 [] 18 (⟨rfl, QC.mono t (fun x1 h1 u1 => by obtain ⟨M1, rfl, u1⟩ := u1; exact ⟨fun z2 => ⟨(u1.2 z2).1, (show in32 0 from ⟨by decide, by decide⟩), ⟨rfl, ⟨rfl, ⟨(show (0 : Int) ≤ 0 by decide), ⟨(show (0 : Int) < 4375 by decide), ⟨rfl, ⟨(show (0 : Int) ≤ 0 by decide), ⟨(show (0 : Int) < 4375 by decide), ⟨_, rfl, (u1.2 z2).2⟩⟩⟩⟩⟩⟩⟩⟩⟩, fun z2 => ⟨rfl, QC.mono (u1.1 z2) (fun _ h2 u3 => by obtain ⟨M2, rfl, u3⟩ := u3; exact ⟨rfl, ⟨rfl, ⟨(show (0 : Int) ≤ 0 by decide), ⟨(show (0 : Int) < 4375 by decide), ⟨rfl, ⟨(show (0 : Int) ≤ 0 by decide), ⟨(show (0 : Int) < 4375 by decide), ⟨_, rfl, u3⟩⟩⟩⟩⟩⟩⟩⟩)⟩⟩)⟩)
theorem TX11_land_0 {X : QX} {x : Int} {d : Nat} {post : Int → QMem → Prop} {M : QMem} {v1 : Int} (t : in32 v1 ∧ (in32 ((qup M 215 0 0) 215 5) ∧ (QCm X x d 1 yX11_within [(1, v1), (1, 0), (1, (qup M 215 0 0) 215 5)] (qup M 215 0 0) (fun x1 M1 => (x1 = 0 → (post (-3) M1)) ∧ (¬ x1 = 0 → in32 x1 ∧ (QCm X x d 0 yX11_plain [(2, 219)] (qup (qup (qup (qup M1 215 8 v1) 215 5 0) 215 7 0) 215 11 0) (fun _ M2 => QCm X x d 0 yX11_next [(2, 215)] M2 (fun _ M3 => QCm X x d 1 yX11_eats [(2, 215), (0, 0)] M3 (fun x4 M4 => (x4 = 0 → (QCm X x d 0 yX11_fails [(2, 215), (0, 2)] M4 (fun _ M5 => QCm X x d 1 yX11_takesN [(2, 215), (0, 2), (0, 6)] M5 (fun x6 M6 => QCm X x d 1 yX11_takesN [(2, 215), (0, 2), (0, 6)] (qup M6 219 1 x6) (fun x7 M7 => QCm X x d 0 yX11_ends [(2, 215)] (qup M7 219 2 x7) (fun _ M8 => QRm X x (d + 1) qmX11_land post 96 [(0, (2, 215))] [] M8)))))) ∧ (¬ x4 = 0 → in32 x4 ∧ (QCm X x d 1 yX11_takesN [(2, 215), (0, 2), (0, 6)] M4 (fun x9 M9 => QCm X x d 1 yX11_takesN [(2, 215), (0, 2), (0, 6)] (qup M9 219 1 x9) (fun x10 M10 => QCm X x d 0 yX11_ends [(2, 215)] (qup M10 219 2 x10) (fun _ M11 => QRm X x (d + 1) qmX11_land post 96 [(0, (2, 215))] [] M11)))))))))))))) : QRm X x (d + 1) qmX11_land post 0 [(0, (2, 215)), (1, (0, v1))] [] M := qwp_ok qmX11_land_ok.1 [(96, [0]), (167, [0, 2])] 110 (⟨rfl, ⟨t.1, ⟨rfl, ⟨t.2.1, QC.mono t.2.2 (fun x1 h1 u1 => by obtain ⟨M1, rfl, u1⟩ := u1; exact ⟨fun z2 => ⟨(u1.2 z2).1, (show in32 0 from ⟨by decide, by decide⟩), ⟨rfl, ⟨rfl, ⟨rfl, ⟨rfl, ⟨rfl, QC.mono ((u1.2 z2).2) (fun _ h2 u3 => by obtain ⟨M2, rfl, u3⟩ := u3; exact ⟨rfl, QC.mono u3 (fun _ h3 u4 => by obtain ⟨M3, rfl, u4⟩ := u4; exact ⟨rfl, QC.mono u4 (fun x4 h4 u5 => by obtain ⟨M4, rfl, u5⟩ := u5; exact ⟨fun z6 => ⟨(u5.2 z6).1, (show in32 0 from ⟨by decide, by decide⟩), ⟨rfl, ⟨rfl, QC.mono ((u5.2 z6).2) (fun x9 h9 u11 => by obtain ⟨M9, rfl, u11⟩ := u11; exact ⟨rfl, ⟨(show (0 : Int) ≤ 1 by decide), ⟨(show (1 : Int) < 4375 by decide), ⟨rfl, ⟨rfl, QC.mono u11 (fun x10 h10 u12 => by obtain ⟨M10, rfl, u12⟩ := u12; exact ⟨rfl, ⟨(show (0 : Int) ≤ 2 by decide), ⟨(show (2 : Int) < 4375 by decide), ⟨rfl, QC.mono u12 (fun _ h11 u13 => by obtain ⟨M11, rfl, u13⟩ := u13; exact u13)⟩⟩⟩⟩)⟩⟩⟩⟩⟩)⟩⟩⟩, fun z6 => ⟨rfl, QC.mono (u5.1 z6) (fun _ h5 u7 => by obtain ⟨M5, rfl, u7⟩ := u7; exact ⟨rfl, ⟨rfl, QC.mono u7 (fun x6 h6 u8 => by obtain ⟨M6, rfl, u8⟩ := u8; exact ⟨rfl, ⟨(show (0 : Int) ≤ 1 by decide), ⟨(show (1 : Int) < 4375 by decide), ⟨rfl, ⟨rfl, QC.mono u8 (fun x7 h7 u9 => by obtain ⟨M7, rfl, u9⟩ := u9; exact ⟨rfl, ⟨(show (0 : Int) ≤ 2 by decide), ⟨(show (2 : Int) < 4375 by decide), ⟨rfl, QC.mono u9 (fun _ h8 u10 => by obtain ⟨M8, rfl, u10⟩ := u10; exact u10)⟩⟩⟩⟩)⟩⟩⟩⟩⟩)⟩⟩)⟩⟩)⟩)⟩)⟩⟩⟩⟩⟩⟩, fun z2 => ⟨_, rfl, (u1.1 z2)⟩⟩)⟩⟩⟩⟩)
theorem TX11_land_96 {X : QX} {x : Int} {d : Nat} {post : Int → QMem → Prop} {M : QMem} (t : (M 215 11 = 0 → ((M 215 9 = 24 → (((qup M 215 13 (M 215 11)) 215 11 = 0 → (((qup (qup M 215 13 (M 215 11)) 215 14 (-1)) 215 11 = 0 → (QRm X x (d + 1) qmX11_land post 167 [(0, (2, 215)), (2, (0, 0))] [] (qup (qup M 215 13 (M 215 11)) 215 14 (-1)))) ∧ (¬ (qup (qup M 215 13 (M 215 11)) 215 14 (-1)) 215 11 = 0 → in32 ((qup (qup M 215 13 (M 215 11)) 215 14 (-1)) 215 11) ∧ (post ((-30) - ((qup (qup M 215 13 (M 215 11)) 215 14 (-1)) 215 11)) (qup (qup M 215 13 (M 215 11)) 215 14 (-1)))))) ∧ (¬ (qup M 215 13 (M 215 11)) 215 11 = 0 → in32 ((qup M 215 13 (M 215 11)) 215 11) ∧ (((qup (qup M 215 13 (M 215 11)) 215 14 ((qup M 215 13 (M 215 11)) 215 12)) 215 11 = 0 → (QRm X x (d + 1) qmX11_land post 167 [(0, (2, 215)), (2, (0, 0))] [] (qup (qup M 215 13 (M 215 11)) 215 14 ((qup M 215 13 (M 215 11)) 215 12)))) ∧ (¬ (qup (qup M 215 13 (M 215 11)) 215 14 ((qup M 215 13 (M 215 11)) 215 12)) 215 11 = 0 → in32 ((qup (qup M 215 13 (M 215 11)) 215 14 ((qup M 215 13 (M 215 11)) 215 12)) 215 11) ∧ (post ((-30) - ((qup (qup M 215 13 (M 215 11)) 215 14 ((qup M 215 13 (M 215 11)) 215 12)) 215 11)) (qup (qup M 215 13 (M 215 11)) 215 14 ((qup M 215 13 (M 215 11)) 215 12)))))))) ∧ (¬ M 215 9 = 24 → in32 (M 215 9) ∧ (QCm X x d 0 yX11_readLine [(2, 215)] M (fun _ M1 => QCm X x d 0 yX11_ends [(2, 215)] M1 (fun _ M2 => QRm X x (d + 1) qmX11_land post 96 [(0, (2, 215))] [] M2)))))) ∧ (¬ M 215 11 = 0 → in32 (M 215 11) ∧ (((qup M 215 13 (M 215 11)) 215 11 = 0 → (((qup (qup M 215 13 (M 215 11)) 215 14 (-1)) 215 11 = 0 → (QRm X x (d + 1) qmX11_land post 167 [(0, (2, 215)), (2, (0, 0))] [] (qup (qup M 215 13 (M 215 11)) 215 14 (-1)))) ∧ (¬ (qup (qup M 215 13 (M 215 11)) 215 14 (-1)) 215 11 = 0 → in32 ((qup (qup M 215 13 (M 215 11)) 215 14 (-1)) 215 11) ∧ (post ((-30) - ((qup (qup M 215 13 (M 215 11)) 215 14 (-1)) 215 11)) (qup (qup M 215 13 (M 215 11)) 215 14 (-1)))))) ∧ (¬ (qup M 215 13 (M 215 11)) 215 11 = 0 → in32 ((qup M 215 13 (M 215 11)) 215 11) ∧ (((qup (qup M 215 13 (M 215 11)) 215 14 ((qup M 215 13 (M 215 11)) 215 12)) 215 11 = 0 → (QRm X x (d + 1) qmX11_land post 167 [(0, (2, 215)), (2, (0, 0))] [] (qup (qup M 215 13 (M 215 11)) 215 14 ((qup M 215 13 (M 215 11)) 215 12)))) ∧ (¬ (qup (qup M 215 13 (M 215 11)) 215 14 ((qup M 215 13 (M 215 11)) 215 12)) 215 11 = 0 → in32 ((qup (qup M 215 13 (M 215 11)) 215 14 ((qup M 215 13 (M 215 11)) 215 12)) 215 11) ∧ (post ((-30) - ((qup (qup M 215 13 (M 215 11)) 215 14 ((qup M 215 13 (M 215 11)) 215 12)) 215 11)) (qup (qup M 215 13 (M 215 11)) 215 14 ((qup M 215 13 (M 215 11)) 215 12))))))))) : QRm X x (d + 1) qmX11_land post 96 [(0, (2, 215))] [] M := qwp_ok qmX11_land_ok.1 [(96, [0]), (167, [0, 2])] 110 (⟨rfl, ⟨fun z1 => ⟨(t.2 z1).1, (show in32 0 from ⟨by decide, by decide⟩), ⟨rfl, ⟨rfl, ⟨rfl, ⟨fun z8 => ⟨((t.2 z1).2.2 z8).1, (show in32 0 from ⟨by decide, by decide⟩), ⟨rfl, ⟨rfl, ⟨rfl, ⟨fun z10 => (((t.2 z1).2.2 z8).2.1 z10), fun z10 => ⟨(((t.2 z1).2.2 z8).2.2 z10).1, (show in32 0 from ⟨by decide, by decide⟩), ⟨rfl, ⟨_, rfl, (((t.2 z1).2.2 z8).2.2 z10).2⟩⟩⟩⟩⟩⟩⟩⟩, fun z8 => ⟨rfl, ⟨rfl, ⟨fun z9 => (((t.2 z1).2.1 z8).1 z9), fun z9 => ⟨(((t.2 z1).2.1 z8).2 z9).1, (show in32 0 from ⟨by decide, by decide⟩), ⟨rfl, ⟨_, rfl, (((t.2 z1).2.1 z8).2 z9).2⟩⟩⟩⟩⟩⟩⟩⟩⟩⟩⟩, fun z1 => ⟨rfl, ⟨fun z2 => ⟨rfl, ⟨rfl, ⟨rfl, ⟨fun z3 => ⟨(((t.1 z1).1 z2).2 z3).1, (show in32 0 from ⟨by decide, by decide⟩), ⟨rfl, ⟨rfl, ⟨rfl, ⟨fun z5 => ((((t.1 z1).1 z2).2 z3).2.1 z5), fun z5 => ⟨((((t.1 z1).1 z2).2 z3).2.2 z5).1, (show in32 0 from ⟨by decide, by decide⟩), ⟨rfl, ⟨_, rfl, ((((t.1 z1).1 z2).2 z3).2.2 z5).2⟩⟩⟩⟩⟩⟩⟩⟩, fun z3 => ⟨rfl, ⟨rfl, ⟨fun z4 => ((((t.1 z1).1 z2).1 z3).1 z4), fun z4 => ⟨((((t.1 z1).1 z2).1 z3).2 z4).1, (show in32 0 from ⟨by decide, by decide⟩), ⟨rfl, ⟨_, rfl, ((((t.1 z1).1 z2).1 z3).2 z4).2⟩⟩⟩⟩⟩⟩⟩⟩⟩⟩, fun z2 => ⟨((t.1 z1).2 z2).1, (show in32 24 from ⟨by decide, by decide⟩), ⟨rfl, QC.mono (((t.1 z1).2 z2).2) (fun _ h1 u6 => by obtain ⟨M1, rfl, u6⟩ := u6; exact ⟨rfl, QC.mono u6 (fun _ h2 u7 => by obtain ⟨M2, rfl, u7⟩ := u7; exact u7)⟩)⟩⟩⟩⟩⟩⟩)
theorem TX11_land_167 {X : QX} {x : Int} {d : Nat} {post : Int → QMem → Prop} {M : QMem} {v2 : Int} (t : in32 v2 ∧ ((4375 : Int) ≤ v2 → (post (M 216 0) M)) ∧ (¬ (4375 : Int) ≤ v2 → ((0 : Int) ≤ v2 ∧ (v2 < 4375 ∧ (v2 < 13125 ∧ (QRm X x (d + 1) qmX11_land post 167 [(0, (2, 215)), (2, (0, v2 + 1))] [] (qup M 216 v2 (M 219 v2)))))))) : QRm X x (d + 1) qmX11_land post 167 [(0, (2, 215)), (2, (0, v2))] [] M := qwp_ok qmX11_land_ok.1 [(96, [0]), (167, [0, 2])] 110 (⟨t.1, (show in32 4375 from ⟨by decide, by decide⟩), fun z1 => ⟨rfl, ⟨rfl, ⟨(show (0 : Int) ≤ 0 by decide), ⟨(show (0 : Int) < 13125 by decide), ⟨_, rfl, (t.2.1 z1)⟩⟩⟩⟩⟩, fun z1 => ⟨rfl, ⟨rfl, ⟨rfl, ⟨(t.2.2 z1).1, ⟨(t.2.2 z1).2.1, ⟨rfl, ⟨(t.2.2 z1).1, ⟨(t.2.2 z1).2.2.1, (t.2.2 z1).2.2.2⟩⟩⟩⟩⟩⟩⟩⟩⟩)
theorem TX11_fault_0 {X : QX} {x : Int} {d : Nat} {post : Int → QMem → Prop} {M : QMem} {v1 : Int} (t : (v1 = 0 → (post ((qup M 215 0 0) 215 13) (qup M 215 0 0))) ∧ (¬ v1 = 0 → in32 v1 ∧ ((v1 = 1 → (post ((qup M 215 0 0) 215 14) (qup M 215 0 0))) ∧ (¬ v1 = 1 → (post (-1) (qup M 215 0 0)))))) : QRm X x d qmX11_fault post 0 [(0, (2, 215)), (1, (0, v1))] [] M := qwp_ok qmX11_fault_ok.1 [] 18 (⟨rfl, ⟨fun z1 => ⟨(t.2 z1).1, (show in32 0 from ⟨by decide, by decide⟩), ⟨fun z2 => ⟨(t.2 z1).1, (show in32 1 from ⟨by decide, by decide⟩), ⟨_, rfl, ((t.2 z1).2.2 z2)⟩⟩, fun z2 => ⟨rfl, ⟨_, rfl, ((t.2 z1).2.1 z2)⟩⟩⟩⟩, fun z1 => ⟨rfl, ⟨_, rfl, (t.1 z1)⟩⟩⟩⟩)
theorem TX11_cells_0 {X : QX} {x : Int} {d : Nat} {post : Int → QMem → Prop} {M : QMem} (t : post ((M 216 1) * (M 216 2)) M) : QRm X x d qmX11_cells post 0 [(0, (2, 215))] [] M := qwp_ok qmX11_cells_ok.1 [] 12 (⟨rfl, ⟨rfl, ⟨(show (0 : Int) ≤ 1 by decide), ⟨(show (1 : Int) < 13125 by decide), ⟨rfl, ⟨rfl, ⟨(show (0 : Int) ≤ 2 by decide), ⟨(show (2 : Int) < 13125 by decide), ⟨_, rfl, t⟩⟩⟩⟩⟩⟩⟩⟩⟩)
theorem TX11_isCell_0 {X : QX} {x : Int} {d : Nat} {post : Int → QMem → Prop} {M : QMem} {v1 : Int} (t : QCm X x d 1 yX11_cells [(2, 215)] M (fun x1 M1 => in32 (x1 - 1) ∧ (QCm X x d 1 yX11_within [(1, v1), (1, 0), (1, x1 - 1)] M1 (fun x2 M2 => (x2 = 0 ∨ x2 = 1) ∧ (post x2 M2))))) : QRm X x (d + 1) qmX11_isCell post 0 [(0, (2, 215)), (1, (1, v1))] [] M := qwp_ok qmX11_isCell_ok.1 [] 11 (⟨rfl, QC.mono t (fun x1 h1 u1 => by obtain ⟨M1, rfl, u1⟩ := u1; exact ⟨u1.1, QC.mono u1.2 (fun x2 h2 u2 => by obtain ⟨M2, rfl, u2⟩ := u2; exact ⟨u2.1, ⟨_, rfl, u2.2⟩⟩)⟩)⟩)
theorem TX11_isDrum_0 {X : QX} {x : Int} {d : Nat} {post : Int → QMem → Prop} {M : QMem} {v1 : Int} (t : in32 ((M 216 3) - 1) ∧ (QCm X x d 1 yX11_within [(1, v1), (1, 0), (1, (M 216 3) - 1)] M (fun x1 M1 => (x1 = 0 ∨ x1 = 1) ∧ (post x1 M1)))) : QRm X x (d + 1) qmX11_isDrum post 0 [(0, (2, 215)), (1, (1, v1))] [] M := qwp_ok qmX11_isDrum_ok.1 [] 13 (⟨rfl, ⟨rfl, ⟨(show (0 : Int) ≤ 3 by decide), ⟨(show (3 : Int) < 13125 by decide), ⟨t.1, QC.mono t.2 (fun x1 h1 u1 => by obtain ⟨M1, rfl, u1⟩ := u1; exact ⟨u1.1, ⟨_, rfl, u1.2⟩⟩)⟩⟩⟩⟩⟩)
theorem TX11_isGoer_0 {X : QX} {x : Int} {d : Nat} {post : Int → QMem → Prop} {M : QMem} {v1 : Int} (t : in32 ((M 216 330) - 1) ∧ (QCm X x d 1 yX11_within [(1, v1), (1, 0), (1, (M 216 330) - 1)] M (fun x1 M1 => (x1 = 0 ∨ x1 = 1) ∧ (post x1 M1)))) : QRm X x (d + 1) qmX11_isGoer post 0 [(0, (2, 215)), (1, (1, v1))] [] M := qwp_ok qmX11_isGoer_ok.1 [] 13 (⟨rfl, ⟨rfl, ⟨(show (0 : Int) ≤ 330 by decide), ⟨(show (330 : Int) < 13125 by decide), ⟨t.1, QC.mono t.2 (fun x1 h1 u1 => by obtain ⟨M1, rfl, u1⟩ := u1; exact ⟨u1.1, ⟨_, rfl, u1.2⟩⟩)⟩⟩⟩⟩⟩)
theorem TX11_bitsOf_0 {X : QX} {x : Int} {d : Nat} {post : Int → QMem → Prop} {M : QMem} {v0 : Int} (t : QRm X x d qmX11_bitsOf post 4 [(0, (0, v0)), (1, (0, 0)), (2, (0, 0))] [] M) : QRm X x d qmX11_bitsOf post 0 [(0, (0, v0))] [] M := qwp_ok qmX11_bitsOf_ok.1 [(4, [0, 1, 2])] 21 (t)
theorem TX11_bitsOf_4 {X : QX} {x : Int} {d : Nat} {post : Int → QMem → Prop} {M : QMem} {v0 v1 v2 : Int} (t : in32 v2 ∧ ((8 : Int) ≤ v2 → (post v1 M)) ∧ (¬ (8 : Int) ≤ v2 → (QRm X x d qmX11_bitsOf post 4 [(0, (0, v0)), (1, (0, v1 + (qand (qshr v0 v2) 1))), (2, (0, v2 + 1))] [] M))) : QRm X x d qmX11_bitsOf post 4 [(0, (0, v0)), (1, (0, v1)), (2, (0, v2))] [] M := qwp_ok qmX11_bitsOf_ok.1 [(4, [0, 1, 2])] 21 (⟨t.1, (show in32 8 from ⟨by decide, by decide⟩), fun z1 => ⟨_, rfl, (t.2.1 z1)⟩, fun z1 => (t.2.2 z1)⟩)
theorem TX11_beside_0 {X : QX} {x : Int} {d : Nat} {post : Int → QMem → Prop} {M : QMem} {v1 v2 : Int} (t : in32 v1 ∧ (in32 (M 216 1) ∧ ((0 : Int) < M 216 1 ∧ ((v2 = 1 → ((v1.tdiv (M 216 1) = 0 → (post (-1) M)) ∧ (¬ v1.tdiv (M 216 1) = 0 → in32 (v1.tdiv (M 216 1)) ∧ (post (v1 - (M 216 1)) M)))) ∧ (¬ v2 = 1 → in32 v2 ∧ ((v2 = 2 → ((v1.tmod (M 216 1) = (M 216 1) - 1 → (post (-1) M)) ∧ (¬ v1.tmod (M 216 1) = (M 216 1) - 1 → in32 (v1.tmod (M 216 1)) ∧ in32 ((M 216 1) - 1) ∧ (post (v1 + 1) M)))) ∧ (¬ v2 = 2 → ((v2 = 3 → ((v1.tdiv (M 216 1) = (M 216 2) - 1 → (post (-1) M)) ∧ (¬ v1.tdiv (M 216 1) = (M 216 2) - 1 → in32 (v1.tdiv (M 216 1)) ∧ in32 ((M 216 2) - 1) ∧ (post (v1 + (M 216 1)) M)))) ∧ (¬ v2 = 3 → ((v1.tmod (M 216 1) = 0 → (post (-1) M)) ∧ (¬ v1.tmod (M 216 1) = 0 → in32 (v1.tmod (M 216 1)) ∧ (post (v1 - 1) M)))))))))))) : QRm X x d qmX11_beside post 0 [(0, (2, 215)), (1, (0, v1)), (2, (0, v2))] [] M := qwp_ok qmX11_beside_ok.1 [] 75 (⟨rfl, ⟨rfl, ⟨(show (0 : Int) ≤ 1 by decide), ⟨(show (1 : Int) < 13125 by decide), ⟨t.1, ⟨t.2.1, ⟨t.2.2.1, ⟨rfl, ⟨rfl, ⟨(show (0 : Int) ≤ 1 by decide), ⟨(show (1 : Int) < 13125 by decide), ⟨t.1, ⟨t.2.1, ⟨t.2.2.1, ⟨fun z1 => ⟨(t.2.2.2.2 z1).1, (show in32 1 from ⟨by decide, by decide⟩), ⟨fun z3 => ⟨(t.2.2.2.2 z1).1, (show in32 2 from ⟨by decide, by decide⟩), ⟨fun z5 => ⟨(t.2.2.2.2 z1).1, (show in32 3 from ⟨by decide, by decide⟩), ⟨fun z7 => ⟨((((t.2.2.2.2 z1).2.2 z3).2 z5).2 z7).1, (show in32 0 from ⟨by decide, by decide⟩), ⟨_, rfl, ((((t.2.2.2.2 z1).2.2 z3).2 z5).2 z7).2⟩⟩, fun z7 => ⟨_, rfl, ((((t.2.2.2.2 z1).2.2 z3).2 z5).1 z7)⟩⟩⟩, fun z5 => ⟨rfl, ⟨rfl, ⟨(show (0 : Int) ≤ 2 by decide), ⟨(show (2 : Int) < 13125 by decide), ⟨fun z6 => ⟨((((t.2.2.2.2 z1).2.2 z3).1 z5).2 z6).1, ((((t.2.2.2.2 z1).2.2 z3).1 z5).2 z6).2.1, ⟨rfl, ⟨rfl, ⟨(show (0 : Int) ≤ 1 by decide), ⟨(show (1 : Int) < 13125 by decide), ⟨_, rfl, ((((t.2.2.2.2 z1).2.2 z3).1 z5).2 z6).2.2⟩⟩⟩⟩⟩⟩, fun z6 => ⟨_, rfl, ((((t.2.2.2.2 z1).2.2 z3).1 z5).1 z6)⟩⟩⟩⟩⟩⟩⟩⟩, fun z3 => ⟨rfl, ⟨rfl, ⟨(show (0 : Int) ≤ 1 by decide), ⟨(show (1 : Int) < 13125 by decide), ⟨fun z4 => ⟨(((t.2.2.2.2 z1).2.1 z3).2 z4).1, (((t.2.2.2.2 z1).2.1 z3).2 z4).2.1, ⟨_, rfl, (((t.2.2.2.2 z1).2.1 z3).2 z4).2.2⟩⟩, fun z4 => ⟨_, rfl, (((t.2.2.2.2 z1).2.1 z3).1 z4)⟩⟩⟩⟩⟩⟩⟩⟩, fun z1 => ⟨fun z2 => ⟨((t.2.2.2.1 z1).2 z2).1, (show in32 0 from ⟨by decide, by decide⟩), ⟨rfl, ⟨rfl, ⟨(show (0 : Int) ≤ 1 by decide), ⟨(show (1 : Int) < 13125 by decide), ⟨_, rfl, ((t.2.2.2.1 z1).2 z2).2⟩⟩⟩⟩⟩⟩, fun z2 => ⟨_, rfl, ((t.2.2.2.1 z1).1 z2)⟩⟩⟩⟩⟩⟩⟩⟩⟩⟩⟩⟩⟩⟩⟩⟩⟩)
theorem TX11_endOf_0 {X : QX} {x : Int} {d : Nat} {post : Int → QMem → Prop} {M : QMem} {v1 : Int} (t : (0 : Int) ≤ 60 + v1 ∧ (60 + v1 < 13125 ∧ ((M 216 (60 + v1) = 0 → ((0 : Int) ≤ 46 + v1 ∧ (46 + v1 < 13125 ∧ (post (M 216 (46 + v1)) M)))) ∧ (¬ M 216 (60 + v1) = 0 → in32 (M 216 (60 + v1)) ∧ ((0 : Int) ≤ ((66 + (16 * v1)) + (M 216 (60 + v1))) - 1 ∧ (((66 + (16 * v1)) + (M 216 (60 + v1))) - 1 < 13125 ∧ (post (M 216 (((66 + (16 * v1)) + (M 216 (60 + v1))) - 1)) M))))))) : QRm X x d qmX11_endOf post 0 [(0, (2, 215)), (1, (0, v1))] [] M := qwp_ok qmX11_endOf_ok.1 [] 34 (⟨rfl, ⟨rfl, ⟨t.1, ⟨t.2.1, ⟨fun z1 => ⟨(t.2.2.2 z1).1, (show in32 0 from ⟨by decide, by decide⟩), ⟨rfl, ⟨rfl, ⟨rfl, ⟨t.1, ⟨t.2.1, ⟨rfl, ⟨(t.2.2.2 z1).2.1, ⟨(t.2.2.2 z1).2.2.1, ⟨_, rfl, (t.2.2.2 z1).2.2.2⟩⟩⟩⟩⟩⟩⟩⟩⟩⟩, fun z1 => ⟨rfl, ⟨rfl, ⟨(t.2.2.1 z1).1, ⟨(t.2.2.1 z1).2.1, ⟨_, rfl, (t.2.2.1 z1).2.2⟩⟩⟩⟩⟩⟩⟩⟩⟩⟩)
theorem TX11_lieOn_0 {X : QX} {x : Int} {d : Nat} {post : Int → QMem → Prop} {M : QMem} {v1 : Int} (t : (0 : Int) ≤ 294 + v1 ∧ (294 + v1 < 13125 ∧ ((M 216 (294 + v1) = (-1) → (post 0 M)) ∧ (¬ M 216 (294 + v1) = (-1) → in32 (M 216 (294 + v1)) ∧ ((0 : Int) ≤ 258 + v1 ∧ (258 + v1 < 13125 ∧ ((M 216 (258 + v1) = (-1) → (post 1 M)) ∧ (¬ M 216 (258 + v1) = (-1) → in32 (M 216 (258 + v1)) ∧ (post 2 M))))))))) : QRm X x d qmX11_lieOn post 0 [(0, (2, 215)), (1, (0, v1))] [] M := qwp_ok qmX11_lieOn_ok.1 [] 24 (⟨rfl, ⟨rfl, ⟨t.1, ⟨t.2.1, ⟨fun z1 => ⟨(t.2.2.2 z1).1, (show in32 (-1) from ⟨by decide, by decide⟩), ⟨rfl, ⟨rfl, ⟨(t.2.2.2 z1).2.1, ⟨(t.2.2.2 z1).2.2.1, ⟨fun z2 => ⟨((t.2.2.2 z1).2.2.2.2 z2).1, (show in32 (-1) from ⟨by decide, by decide⟩), ⟨_, rfl, ((t.2.2.2 z1).2.2.2.2 z2).2⟩⟩, fun z2 => ⟨_, rfl, ((t.2.2.2 z1).2.2.2.1 z2)⟩⟩⟩⟩⟩⟩⟩, fun z1 => ⟨_, rfl, (t.2.2.1 z1)⟩⟩⟩⟩⟩⟩)
theorem TX11_isHome_0 {X : QX} {x : Int} {d : Nat} {post : Int → QMem → Prop} {M : QMem} {v1 : Int} (t : QRm X x d qmX11_isHome post 2 [(0, (2, 215)), (1, (0, v1)), (2, (0, 0))] [] M) : QRm X x d qmX11_isHome post 0 [(0, (2, 215)), (1, (0, v1))] [] M := qwp_ok qmX11_isHome_ok.1 [(2, [0, 1, 2])] 24 (t)
theorem TX11_isHome_2 {X : QX} {x : Int} {d : Nat} {post : Int → QMem → Prop} {M : QMem} {v1 v2 : Int} (t : in32 v2 ∧ in32 (M 216 3) ∧ (M 216 3 ≤ v2 → (post 0 M)) ∧ (¬ M 216 3 ≤ v2 → ((0 : Int) ≤ 46 + v2 ∧ (46 + v2 < 13125 ∧ ((M 216 (46 + v2) = v1 → (post 1 M)) ∧ (¬ M 216 (46 + v2) = v1 → in32 (M 216 (46 + v2)) ∧ in32 v1 ∧ (QRm X x d qmX11_isHome post 2 [(0, (2, 215)), (1, (0, v1)), (2, (0, v2 + 1))] [] M))))))) : QRm X x d qmX11_isHome post 2 [(0, (2, 215)), (1, (0, v1)), (2, (0, v2))] [] M := qwp_ok qmX11_isHome_ok.1 [(2, [0, 1, 2])] 24 (⟨rfl, ⟨rfl, ⟨(show (0 : Int) ≤ 3 by decide), ⟨(show (3 : Int) < 13125 by decide), ⟨t.1, t.2.1, fun z1 => ⟨(Or.inl rfl), ⟨_, rfl, (t.2.2.1 z1)⟩⟩, fun z1 => ⟨rfl, ⟨rfl, ⟨(t.2.2.2 z1).1, ⟨(t.2.2.2 z1).2.1, ⟨fun z2 => ⟨((t.2.2.2 z1).2.2.2 z2).1, ((t.2.2.2 z1).2.2.2 z2).2.1, ((t.2.2.2 z1).2.2.2 z2).2.2⟩, fun z2 => ⟨(Or.inr rfl), ⟨_, rfl, ((t.2.2.2 z1).2.2.1 z2)⟩⟩⟩⟩⟩⟩⟩⟩⟩⟩⟩⟩)
theorem TX11_between_0 {X : QX} {x : Int} {d : Nat} {post : Int → QMem → Prop} {M : QMem} {v0 v1 v2 : Int} (t : in32 v0 ∧ (v0 = 3003 → ((v1 = v2 → (post 1 M)) ∧ (¬ v1 = v2 → in32 v1 ∧ in32 v2 ∧ (post 0 M)))) ∧ (v0 = 3004 → (in32 v1 ∧ in32 v2 ∧ (v2 ≤ v1 → (post 0 M)) ∧ (¬ v2 ≤ v1 → (post 1 M)))) ∧ (v0 = 3005 → (in32 v1 ∧ in32 v2 ∧ (v1 ≤ v2 → (post 0 M)) ∧ (¬ v1 ≤ v2 → (post 1 M)))) ∧ (v0 = 3006 → ((v0 = 3000 → (in32 v1 ∧ (in32 v2 ∧ (in64 (v1 + v2) ∧ (v1 + v2 ≤ 1000000 → (((-1000000 : Int) ≤ v1 + v2 → (post (ql2i (v1 + v2)) M)) ∧ (¬ (-1000000 : Int) ≤ v1 + v2 → (post (ql2i (-1000000)) M)))) ∧ (¬ v1 + v2 ≤ 1000000 → (post (ql2i 1000000) M)))))) ∧ (¬ v0 = 3000 → ((v0 = 3001 → (in32 v1 ∧ (in32 v2 ∧ (in64 (v1 - v2) ∧ (v1 - v2 ≤ 1000000 → (((-1000000 : Int) ≤ v1 - v2 → (post (ql2i (v1 - v2)) M)) ∧ (¬ (-1000000 : Int) ≤ v1 - v2 → (post (ql2i (-1000000)) M)))) ∧ (¬ v1 - v2 ≤ 1000000 → (post (ql2i 1000000) M)))))) ∧ (¬ v0 = 3001 → (in32 v1 ∧ (in32 v2 ∧ (in64 (v1 * v2) ∧ (v1 * v2 ≤ 1000000 → (((-1000000 : Int) ≤ v1 * v2 → (post (ql2i (v1 * v2)) M)) ∧ (¬ (-1000000 : Int) ≤ v1 * v2 → (post (ql2i (-1000000)) M)))) ∧ (¬ v1 * v2 ≤ 1000000 → (post (ql2i 1000000) M)))))))))) ∧ (v0 = 3007 → (post (qand v1 v2) M)) ∧ (v0 = 3008 → (post (qor v1 v2) M)) ∧ ((v0 < 3003 ∨ 3008 < v0) → ((v0 = 3000 → (in32 v1 ∧ (in32 v2 ∧ (in64 (v1 + v2) ∧ (v1 + v2 ≤ 1000000 → (((-1000000 : Int) ≤ v1 + v2 → (post (ql2i (v1 + v2)) M)) ∧ (¬ (-1000000 : Int) ≤ v1 + v2 → (post (ql2i (-1000000)) M)))) ∧ (¬ v1 + v2 ≤ 1000000 → (post (ql2i 1000000) M)))))) ∧ (¬ v0 = 3000 → ((v0 = 3001 → (in32 v1 ∧ (in32 v2 ∧ (in64 (v1 - v2) ∧ (v1 - v2 ≤ 1000000 → (((-1000000 : Int) ≤ v1 - v2 → (post (ql2i (v1 - v2)) M)) ∧ (¬ (-1000000 : Int) ≤ v1 - v2 → (post (ql2i (-1000000)) M)))) ∧ (¬ v1 - v2 ≤ 1000000 → (post (ql2i 1000000) M)))))) ∧ (¬ v0 = 3001 → (in32 v1 ∧ (in32 v2 ∧ (in64 (v1 * v2) ∧ (v1 * v2 ≤ 1000000 → (((-1000000 : Int) ≤ v1 * v2 → (post (ql2i (v1 * v2)) M)) ∧ (¬ (-1000000 : Int) ≤ v1 * v2 → (post (ql2i (-1000000)) M)))) ∧ (¬ v1 * v2 ≤ 1000000 → (post (ql2i 1000000) M))))))))))) : QRm X x d qmX11_between post 0 [(0, (0, v0)), (1, (0, v1)), (2, (0, v2))] [] M := qwp_ok qmX11_between_ok.1 [] 72 (⟨t.1, ⟨fun z1 => ⟨fun z2 => ⟨((t.2.1 z1).2 z2).1, ((t.2.1 z1).2 z2).2.1, ⟨_, rfl, ((t.2.1 z1).2 z2).2.2⟩⟩, fun z2 => ⟨_, rfl, ((t.2.1 z1).1 z2)⟩⟩, ⟨fun z3 => ⟨(t.2.2.1 z3).1, (t.2.2.1 z3).2.1, fun z4 => ⟨_, rfl, ((t.2.2.1 z3).2.2.1 z4)⟩, fun z4 => ⟨_, rfl, ((t.2.2.1 z3).2.2.2 z4)⟩⟩, ⟨fun z5 => ⟨(t.2.2.2.1 z5).1, (t.2.2.2.1 z5).2.1, fun z6 => ⟨_, rfl, ((t.2.2.2.1 z5).2.2.1 z6)⟩, fun z6 => ⟨_, rfl, ((t.2.2.2.1 z5).2.2.2 z6)⟩⟩, ⟨fun z7 => ⟨fun z8 => ⟨t.1, (show in32 3000 from ⟨by decide, by decide⟩), ⟨fun z11 => ⟨t.1, (show in32 3001 from ⟨by decide, by decide⟩), ⟨(((t.2.2.2.2.1 z7).2 z8).2 z11).1, ⟨(((t.2.2.2.2.1 z7).2 z8).2 z11).2.1, ⟨(((t.2.2.2.2.1 z7).2 z8).2 z11).2.2.1, (show in64 1000000 from ⟨by decide, by decide⟩), fun z14 => ⟨(((t.2.2.2.2.1 z7).2 z8).2 z11).2.2.1, (show in64 (-1000000) from ⟨by decide, by decide⟩), fun z15 => ⟨_, rfl, (((((t.2.2.2.2.1 z7).2 z8).2 z11).2.2.2.1 z14).1 z15)⟩, fun z15 => ⟨_, rfl, (((((t.2.2.2.2.1 z7).2 z8).2 z11).2.2.2.1 z14).2 z15)⟩⟩, fun z14 => ⟨_, rfl, ((((t.2.2.2.2.1 z7).2 z8).2 z11).2.2.2.2 z14)⟩⟩⟩⟩⟩, fun z11 => ⟨(((t.2.2.2.2.1 z7).2 z8).1 z11).1, ⟨(((t.2.2.2.2.1 z7).2 z8).1 z11).2.1, ⟨(((t.2.2.2.2.1 z7).2 z8).1 z11).2.2.1, (show in64 1000000 from ⟨by decide, by decide⟩), fun z12 => ⟨(((t.2.2.2.2.1 z7).2 z8).1 z11).2.2.1, (show in64 (-1000000) from ⟨by decide, by decide⟩), fun z13 => ⟨_, rfl, (((((t.2.2.2.2.1 z7).2 z8).1 z11).2.2.2.1 z12).1 z13)⟩, fun z13 => ⟨_, rfl, (((((t.2.2.2.2.1 z7).2 z8).1 z11).2.2.2.1 z12).2 z13)⟩⟩, fun z12 => ⟨_, rfl, ((((t.2.2.2.2.1 z7).2 z8).1 z11).2.2.2.2 z12)⟩⟩⟩⟩⟩⟩, fun z8 => ⟨((t.2.2.2.2.1 z7).1 z8).1, ⟨((t.2.2.2.2.1 z7).1 z8).2.1, ⟨((t.2.2.2.2.1 z7).1 z8).2.2.1, (show in64 1000000 from ⟨by decide, by decide⟩), fun z9 => ⟨((t.2.2.2.2.1 z7).1 z8).2.2.1, (show in64 (-1000000) from ⟨by decide, by decide⟩), fun z10 => ⟨_, rfl, ((((t.2.2.2.2.1 z7).1 z8).2.2.2.1 z9).1 z10)⟩, fun z10 => ⟨_, rfl, ((((t.2.2.2.2.1 z7).1 z8).2.2.2.1 z9).2 z10)⟩⟩, fun z9 => ⟨_, rfl, (((t.2.2.2.2.1 z7).1 z8).2.2.2.2 z9)⟩⟩⟩⟩⟩, ⟨fun z16 => ⟨_, rfl, (t.2.2.2.2.2.1 z16)⟩, ⟨fun z17 => ⟨_, rfl, (t.2.2.2.2.2.2.1 z17)⟩, trivial⟩⟩⟩⟩⟩⟩, fun z18 => ⟨fun z19 => ⟨t.1, (show in32 3000 from ⟨by decide, by decide⟩), ⟨fun z22 => ⟨t.1, (show in32 3001 from ⟨by decide, by decide⟩), ⟨(((t.2.2.2.2.2.2.2 z18).2 z19).2 z22).1, ⟨(((t.2.2.2.2.2.2.2 z18).2 z19).2 z22).2.1, ⟨(((t.2.2.2.2.2.2.2 z18).2 z19).2 z22).2.2.1, (show in64 1000000 from ⟨by decide, by decide⟩), fun z25 => ⟨(((t.2.2.2.2.2.2.2 z18).2 z19).2 z22).2.2.1, (show in64 (-1000000) from ⟨by decide, by decide⟩), fun z26 => ⟨_, rfl, (((((t.2.2.2.2.2.2.2 z18).2 z19).2 z22).2.2.2.1 z25).1 z26)⟩, fun z26 => ⟨_, rfl, (((((t.2.2.2.2.2.2.2 z18).2 z19).2 z22).2.2.2.1 z25).2 z26)⟩⟩, fun z25 => ⟨_, rfl, ((((t.2.2.2.2.2.2.2 z18).2 z19).2 z22).2.2.2.2 z25)⟩⟩⟩⟩⟩, fun z22 => ⟨(((t.2.2.2.2.2.2.2 z18).2 z19).1 z22).1, ⟨(((t.2.2.2.2.2.2.2 z18).2 z19).1 z22).2.1, ⟨(((t.2.2.2.2.2.2.2 z18).2 z19).1 z22).2.2.1, (show in64 1000000 from ⟨by decide, by decide⟩), fun z23 => ⟨(((t.2.2.2.2.2.2.2 z18).2 z19).1 z22).2.2.1, (show in64 (-1000000) from ⟨by decide, by decide⟩), fun z24 => ⟨_, rfl, (((((t.2.2.2.2.2.2.2 z18).2 z19).1 z22).2.2.2.1 z23).1 z24)⟩, fun z24 => ⟨_, rfl, (((((t.2.2.2.2.2.2.2 z18).2 z19).1 z22).2.2.2.1 z23).2 z24)⟩⟩, fun z23 => ⟨_, rfl, ((((t.2.2.2.2.2.2.2 z18).2 z19).1 z22).2.2.2.2 z23)⟩⟩⟩⟩⟩⟩, fun z19 => ⟨((t.2.2.2.2.2.2.2 z18).1 z19).1, ⟨((t.2.2.2.2.2.2.2 z18).1 z19).2.1, ⟨((t.2.2.2.2.2.2.2 z18).1 z19).2.2.1, (show in64 1000000 from ⟨by decide, by decide⟩), fun z20 => ⟨((t.2.2.2.2.2.2.2 z18).1 z19).2.2.1, (show in64 (-1000000) from ⟨by decide, by decide⟩), fun z21 => ⟨_, rfl, ((((t.2.2.2.2.2.2.2 z18).1 z19).2.2.2.1 z20).1 z21)⟩, fun z21 => ⟨_, rfl, ((((t.2.2.2.2.2.2.2 z18).1 z19).2.2.2.1 z20).2 z21)⟩⟩, fun z20 => ⟨_, rfl, (((t.2.2.2.2.2.2.2 z18).1 z19).2.2.2.2 z20)⟩⟩⟩⟩⟩⟩)
theorem TX11_reckons_0 {X : QX} {x : Int} {d : Nat} {post : Int → QMem → Prop} {M : QMem} {v1 v2 v3 : Int} (t : in32 v3 ∧ (in32 (M 216 1) ∧ ((0 : Int) < M 216 1 ∧ (in32 ((qup M 221 0 (v3.tmod (M 216 1))) 216 1) ∧ ((0 : Int) < (qup M 221 0 (v3.tmod (M 216 1))) 216 1 ∧ (QCm X x d 1 yX11_lieOn [(2, 215), (0, v3)] (qup (qup (qup (qup M 221 0 (v3.tmod (M 216 1))) 221 1 (v3.tdiv ((qup M 221 0 (v3.tmod (M 216 1))) 216 1))) 221 2 ((qup (qup M 221 0 (v3.tmod (M 216 1))) 221 1 (v3.tdiv ((qup M 221 0 (v3.tmod (M 216 1))) 216 1))) 216 52)) 221 3 v2) (fun x1 M1 => QRm X x (d + 1) qmX11_reckons post 65 [(0, (2, 215)), (1, (0, v1)), (4, (0, 0)), (5, (0, 0))] [] (qup M1 221 4 x1)))))))) : QRm X x (d + 1) qmX11_reckons post 0 [(0, (2, 215)), (1, (0, v1)), (2, (0, v2)), (3, (0, v3))] [] M := qwp_ok qmX11_reckons_ok.1 [(65, [0, 1, 4, 5])] 132 (⟨rfl, ⟨rfl, ⟨rfl, ⟨(show (0 : Int) ≤ 1 by decide), ⟨(show (1 : Int) < 13125 by decide), ⟨t.1, ⟨t.2.1, ⟨t.2.2.1, ⟨rfl, ⟨(show (0 : Int) ≤ 0 by decide), ⟨(show (0 : Int) < 5 by decide), ⟨rfl, ⟨rfl, ⟨rfl, ⟨(show (0 : Int) ≤ 1 by decide), ⟨(show (1 : Int) < 13125 by decide), ⟨t.1, ⟨t.2.2.2.1, ⟨t.2.2.2.2.1, ⟨rfl, ⟨(show (0 : Int) ≤ 1 by decide), ⟨(show (1 : Int) < 5 by decide), ⟨rfl, ⟨rfl, ⟨rfl, ⟨(show (0 : Int) ≤ 52 by decide), ⟨(show (52 : Int) < 13125 by decide), ⟨rfl, ⟨(show (0 : Int) ≤ 2 by decide), ⟨(show (2 : Int) < 5 by decide), ⟨rfl, ⟨rfl, ⟨(show (0 : Int) ≤ 3 by decide), ⟨(show (3 : Int) < 5 by decide), ⟨rfl, ⟨rfl, QC.mono t.2.2.2.2.2 (fun x1 h1 u1 => by obtain ⟨M1, rfl, u1⟩ := u1; exact ⟨rfl, ⟨(show (0 : Int) ≤ 4 by decide), ⟨(show (4 : Int) < 5 by decide), u1⟩⟩⟩)⟩⟩⟩⟩⟩⟩⟩⟩⟩⟩⟩⟩⟩⟩⟩⟩⟩⟩⟩⟩⟩⟩⟩⟩⟩⟩⟩⟩⟩⟩⟩⟩⟩⟩⟩⟩)
theorem TX11_reckons_65 {X : QX} {x : Int} {d : Nat} {post : Int → QMem → Prop} {M : QMem} {v1 v4 v5 : Int} (t : (0 : Int) ≤ 8 + v1 ∧ (8 + v1 < 13125 ∧ (in32 v5 ∧ in32 (M 216 (8 + v1)) ∧ (M 216 (8 + v1) ≤ v5 → (post (M 220 0) M)) ∧ (¬ M 216 (8 + v1) ≤ v5 → ((0 : Int) ≤ 6 + v1 ∧ (6 + v1 < 13125 ∧ ((0 : Int) ≤ (3475 + (M 216 (6 + v1))) + v5 ∧ ((3475 + (M 216 (6 + v1))) + v5 < 13125 ∧ (in32 (M 216 ((3475 + (M 216 (6 + v1))) + v5)) ∧ ((3000 : Int) ≤ M 216 ((3475 + (M 216 (6 + v1))) + v5) → ((M 216 ((3475 + (M 216 (6 + v1))) + v5) = 3006 → ((0 : Int) ≤ v4 - 1 ∧ (v4 - 1 < 900 ∧ (QRm X x (d + 1) qmX11_reckons post 65 [(0, (2, 215)), (1, (0, v1)), (4, (0, v4)), (5, (0, v5 + 1))] [] (qup M 220 (v4 - 1) (1 - (M 220 (v4 - 1)))))))) ∧ (¬ M 216 ((3475 + (M 216 (6 + v1))) + v5) = 3006 → ((0 : Int) ≤ (v4 + (-1)) - 1 ∧ ((v4 + (-1)) - 1 < 900 ∧ ((0 : Int) ≤ v4 + (-1) ∧ (v4 + (-1) < 900 ∧ (QCm X x d 1 yX11_between [(0, M 216 ((3475 + (M 216 (6 + v1))) + v5)), (0, M 220 ((v4 + (-1)) - 1)), (0, M 220 (v4 + (-1)))] M (fun x1 M1 => QRm X x (d + 1) qmX11_reckons post 65 [(0, (2, 215)), (1, (0, v1)), (4, (0, v4 + (-1))), (5, (0, v5 + 1))] [] (qup M1 220 ((v4 + (-1)) - 1) x1)))))))))) ∧ (¬ (3000 : Int) ≤ M 216 ((3475 + (M 216 (6 + v1))) + v5) → (((1000 : Int) ≤ M 216 ((3475 + (M 216 (6 + v1))) + v5) → ((0 : Int) ≤ (M 216 ((3475 + (M 216 (6 + v1))) + v5)) - 1000 ∧ ((M 216 ((3475 + (M 216 (6 + v1))) + v5)) - 1000 < 5 ∧ ((0 : Int) ≤ v4 ∧ (v4 < 900 ∧ (QRm X x (d + 1) qmX11_reckons post 65 [(0, (2, 215)), (1, (0, v1)), (4, (0, v4 + 1)), (5, (0, v5 + 1))] [] (qup M 220 v4 (M 221 ((M 216 ((3475 + (M 216 (6 + v1))) + v5)) - 1000))))))))) ∧ (¬ (1000 : Int) ≤ M 216 ((3475 + (M 216 (6 + v1))) + v5) → ((0 : Int) ≤ v4 ∧ (v4 < 900 ∧ (QRm X x (d + 1) qmX11_reckons post 65 [(0, (2, 215)), (1, (0, v1)), (4, (0, v4 + 1)), (5, (0, v5 + 1))] [] (qup M 220 v4 (M 216 ((3475 + (M 216 (6 + v1))) + v5)))))))))))))))))) : QRm X x (d + 1) qmX11_reckons post 65 [(0, (2, 215)), (1, (0, v1)), (4, (0, v4)), (5, (0, v5))] [] M := qwp_ok qmX11_reckons_ok.1 [(65, [0, 1, 4, 5])] 132 (⟨rfl, ⟨rfl, ⟨t.1, ⟨t.2.1, ⟨t.2.2.1, t.2.2.2.1, fun z1 => ⟨rfl, ⟨rfl, ⟨(show (0 : Int) ≤ 0 by decide), ⟨(show (0 : Int) < 900 by decide), ⟨_, rfl, (t.2.2.2.2.1 z1)⟩⟩⟩⟩⟩, fun z1 => ⟨rfl, ⟨rfl, ⟨rfl, ⟨(t.2.2.2.2.2 z1).1, ⟨(t.2.2.2.2.2 z1).2.1, ⟨rfl, ⟨(t.2.2.2.2.2 z1).2.2.1, ⟨(t.2.2.2.2.2 z1).2.2.2.1, ⟨(t.2.2.2.2.2 z1).2.2.2.2.1, (show in32 3000 from ⟨by decide, by decide⟩), fun z2 => ⟨fun z3 => ⟨(t.2.2.2.2.2 z1).2.2.2.2.1, (show in32 3006 from ⟨by decide, by decide⟩), ⟨rfl, ⟨rfl, ⟨rfl, ⟨(((t.2.2.2.2.2 z1).2.2.2.2.2.1 z2).2 z3).1, ⟨(((t.2.2.2.2.2 z1).2.2.2.2.2.1 z2).2 z3).2.1, ⟨rfl, ⟨rfl, ⟨(((t.2.2.2.2.2 z1).2.2.2.2.2.1 z2).2 z3).2.2.1, ⟨(((t.2.2.2.2.2 z1).2.2.2.2.2.1 z2).2 z3).2.2.2.1, QC.mono ((((t.2.2.2.2.2 z1).2.2.2.2.2.1 z2).2 z3).2.2.2.2) (fun x1 h1 u4 => by obtain ⟨M1, rfl, u4⟩ := u4; exact ⟨rfl, ⟨(((t.2.2.2.2.2 z1).2.2.2.2.2.1 z2).2 z3).1, ⟨(((t.2.2.2.2.2 z1).2.2.2.2.2.1 z2).2 z3).2.1, u4⟩⟩⟩)⟩⟩⟩⟩⟩⟩⟩⟩⟩⟩, fun z3 => ⟨rfl, ⟨rfl, ⟨rfl, ⟨(((t.2.2.2.2.2 z1).2.2.2.2.2.1 z2).1 z3).1, ⟨(((t.2.2.2.2.2 z1).2.2.2.2.2.1 z2).1 z3).2.1, ⟨rfl, ⟨(((t.2.2.2.2.2 z1).2.2.2.2.2.1 z2).1 z3).1, ⟨(((t.2.2.2.2.2 z1).2.2.2.2.2.1 z2).1 z3).2.1, (((t.2.2.2.2.2 z1).2.2.2.2.2.1 z2).1 z3).2.2⟩⟩⟩⟩⟩⟩⟩⟩⟩, fun z2 => ⟨rfl, ⟨(t.2.2.2.2.2 z1).2.2.2.2.1, (show in32 1000 from ⟨by decide, by decide⟩), fun z5 => ⟨rfl, ⟨rfl, ⟨(((t.2.2.2.2.2 z1).2.2.2.2.2.2 z2).1 z5).1, ⟨(((t.2.2.2.2.2 z1).2.2.2.2.2.2 z2).1 z5).2.1, ⟨rfl, ⟨(((t.2.2.2.2.2 z1).2.2.2.2.2.2 z2).1 z5).2.2.1, ⟨(((t.2.2.2.2.2 z1).2.2.2.2.2.2 z2).1 z5).2.2.2.1, (((t.2.2.2.2.2 z1).2.2.2.2.2.2 z2).1 z5).2.2.2.2⟩⟩⟩⟩⟩⟩⟩, fun z5 => ⟨rfl, ⟨(((t.2.2.2.2.2 z1).2.2.2.2.2.2 z2).2 z5).1, ⟨(((t.2.2.2.2.2 z1).2.2.2.2.2.2 z2).2 z5).2.1, (((t.2.2.2.2.2 z1).2.2.2.2.2.2 z2).2 z5).2.2⟩⟩⟩⟩⟩⟩⟩⟩⟩⟩⟩⟩⟩⟩⟩⟩⟩⟩⟩)
theorem TX11_costOf_0 {X : QX} {x : Int} {d : Nat} {post : Int → QMem → Prop} {M : QMem} {v1 v2 : Int} (t : (M 216 4 = 0 → (post 1 M)) ∧ (¬ M 216 4 = 0 → in32 (M 216 4) ∧ (QCm X x d 1 yX11_reckons [(2, 215), (0, 0), (0, v1), (0, v2)] M (fun x1 M1 => in32 x1 ∧ ((1 : Int) ≤ x1 → ((x1 ≤ 99 → (post x1 M1)) ∧ (¬ x1 ≤ 99 → (post 99 M1)))) ∧ (¬ (1 : Int) ≤ x1 → (post 1 M1)))))) : QRm X x (d + 1) qmX11_costOf post 0 [(0, (2, 215)), (1, (0, v1)), (2, (0, v2))] [] M := qwp_ok qmX11_costOf_ok.1 [] 27 (⟨rfl, ⟨rfl, ⟨(show (0 : Int) ≤ 4 by decide), ⟨(show (4 : Int) < 13125 by decide), ⟨fun z1 => ⟨(t.2 z1).1, (show in32 0 from ⟨by decide, by decide⟩), ⟨rfl, QC.mono ((t.2 z1).2) (fun x1 h1 u2 => by obtain ⟨M1, rfl, u2⟩ := u2; exact ⟨u2.1, (show in32 1 from ⟨by decide, by decide⟩), fun z3 => ⟨u2.1, (show in32 99 from ⟨by decide, by decide⟩), fun z4 => ⟨_, rfl, ((u2.2.1 z3).1 z4)⟩, fun z4 => ⟨_, rfl, ((u2.2.1 z3).2 z4)⟩⟩, fun z3 => ⟨_, rfl, (u2.2.2 z3)⟩⟩)⟩⟩, fun z1 => ⟨_, rfl, (t.1 z1)⟩⟩⟩⟩⟩⟩)
theorem TX11_lets_0 {X : QX} {x : Int} {d : Nat} {post : Int → QMem → Prop} {M : QMem} {v1 v2 : Int} (t : (M 216 5 = 0 → (post 1 M)) ∧ (¬ M 216 5 = 0 → in32 (M 216 5) ∧ (QCm X x d 1 yX11_reckons [(2, 215), (0, 1), (0, v1), (0, v2)] M (fun x1 M1 => (x1 = 1 → (post 1 M1)) ∧ (¬ x1 = 1 → in32 x1 ∧ (post 0 M1)))))) : QRm X x (d + 1) qmX11_lets post 0 [(0, (2, 215)), (1, (0, v1)), (2, (0, v2))] [] M := qwp_ok qmX11_lets_ok.1 [] 18 (⟨rfl, ⟨rfl, ⟨(show (0 : Int) ≤ 5 by decide), ⟨(show (5 : Int) < 13125 by decide), ⟨fun z1 => ⟨(Or.inr rfl), ⟨_, rfl, (t.1 z1)⟩⟩, fun z1 => ⟨(t.2 z1).1, (show in32 0 from ⟨by decide, by decide⟩), ⟨rfl, QC.mono ((t.2 z1).2) (fun x1 h1 u2 => by obtain ⟨M1, rfl, u2⟩ := u2; exact ⟨fun z3 => ⟨(u2.2 z3).1, (show in32 1 from ⟨by decide, by decide⟩), ⟨(Or.inl rfl), ⟨_, rfl, (u2.2 z3).2⟩⟩⟩, fun z3 => ⟨(Or.inr rfl), ⟨_, rfl, (u2.1 z3)⟩⟩⟩)⟩⟩⟩⟩⟩⟩⟩)
theorem TX11_isOpen_0 {X : QX} {x : Int} {d : Nat} {post : Int → QMem → Prop} {M : QMem} {v1 v2 : Int} (t : (0 : Int) ≤ 10 + v2 ∧ (10 + v2 < 13125 ∧ ((M 216 (10 + v2) = 1 → (post 0 M)) ∧ (¬ M 216 (10 + v2) = 1 → in32 (M 216 (10 + v2)) ∧ (QCm X x d 1 yX11_isHome [(2, 215), (0, v2)] M (fun x1 M1 => (x1 = 0 → (QCm X x d 1 yX11_lieOn [(2, 215), (0, v2)] M1 (fun x2 M2 => (x2 = 2 → (post 0 M2)) ∧ (¬ x2 = 2 → in32 x2 ∧ ((0 : Int) ≤ 294 + v2 ∧ (294 + v2 < 13125 ∧ ((M2 216 (294 + v2) = v1 → (post 0 M2)) ∧ (¬ M2 216 (294 + v2) = v1 → in32 (M2 216 (294 + v2)) ∧ in32 v1 ∧ (post 1 M2))))))))) ∧ (¬ x1 = 0 → in32 x1 ∧ (post 0 M1)))))))) : QRm X x (d + 1) qmX11_isOpen post 0 [(0, (2, 215)), (1, (0, v1)), (2, (0, v2))] [] M := qwp_ok qmX11_isOpen_ok.1 [] 33 (⟨rfl, ⟨rfl, ⟨t.1, ⟨t.2.1, ⟨fun z1 => ⟨(Or.inl rfl), ⟨_, rfl, (t.2.2.1 z1)⟩⟩, fun z1 => ⟨(t.2.2.2 z1).1, (show in32 1 from ⟨by decide, by decide⟩), ⟨rfl, QC.mono ((t.2.2.2 z1).2) (fun x1 h1 u2 => by obtain ⟨M1, rfl, u2⟩ := u2; exact ⟨fun z3 => ⟨(u2.2 z3).1, (show in32 0 from ⟨by decide, by decide⟩), ⟨(Or.inl rfl), ⟨_, rfl, (u2.2 z3).2⟩⟩⟩, fun z3 => ⟨rfl, QC.mono (u2.1 z3) (fun x2 h2 u4 => by obtain ⟨M2, rfl, u4⟩ := u4; exact ⟨fun z5 => ⟨(u4.2 z5).1, (show in32 2 from ⟨by decide, by decide⟩), ⟨rfl, ⟨rfl, ⟨(u4.2 z5).2.1, ⟨(u4.2 z5).2.2.1, ⟨fun z6 => ⟨(Or.inl rfl), ⟨_, rfl, ((u4.2 z5).2.2.2.1 z6)⟩⟩, fun z6 => ⟨((u4.2 z5).2.2.2.2 z6).1, ((u4.2 z5).2.2.2.2 z6).2.1, ⟨(Or.inr rfl), ⟨_, rfl, ((u4.2 z5).2.2.2.2 z6).2.2⟩⟩⟩⟩⟩⟩⟩⟩⟩, fun z5 => ⟨(Or.inl rfl), ⟨_, rfl, (u4.1 z5)⟩⟩⟩)⟩⟩)⟩⟩⟩⟩⟩⟩⟩)
theorem TX11_goerOn_0 {X : QX} {x : Int} {d : Nat} {post : Int → QMem → Prop} {M : QMem} {v1 : Int} (t : QRm X x (d + 1) qmX11_goerOn post 2 [(0, (2, 215)), (1, (0, v1)), (2, (0, 0))] [] M) : QRm X x (d + 1) qmX11_goerOn post 0 [(0, (2, 215)), (1, (0, v1))] [] M := qwp_ok qmX11_goerOn_ok.1 [(2, [0, 1, 2])] 35 (t)
theorem TX11_goerOn_2 {X : QX} {x : Int} {d : Nat} {post : Int → QMem → Prop} {M : QMem} {v1 v2 : Int} (t : in32 v2 ∧ in32 (M 216 330) ∧ (M 216 330 ≤ v2 → (post (-1) M)) ∧ (¬ M 216 330 ≤ v2 → ((0 : Int) ≤ 347 + v2 ∧ (347 + v2 < 13125 ∧ ((M 216 (347 + v2) = 0 → ((0 : Int) ≤ 339 + v2 ∧ (339 + v2 < 13125 ∧ (in32 (M 216 (339 + v2)) ∧ (M 216 (339 + v2) < 0 → (QRm X x (d + 1) qmX11_goerOn post 2 [(0, (2, 215)), (1, (0, v1)), (2, (0, v2 + 1))] [] M)) ∧ (¬ M 216 (339 + v2) < 0 → (QCm X x d 1 yX11_cellOf [(2, 215), (0, v2)] M (fun x1 M1 => (x1 = v1 → (post v2 M1)) ∧ (¬ x1 = v1 → in32 x1 ∧ in32 v1 ∧ (QRm X x (d + 1) qmX11_goerOn post 2 [(0, (2, 215)), (1, (0, v1)), (2, (0, v2 + 1))] [] M1))))))))) ∧ (¬ M 216 (347 + v2) = 0 → in32 (M 216 (347 + v2)) ∧ (QRm X x (d + 1) qmX11_goerOn post 2 [(0, (2, 215)), (1, (0, v1)), (2, (0, v2 + 1))] [] M))))))) : QRm X x (d + 1) qmX11_goerOn post 2 [(0, (2, 215)), (1, (0, v1)), (2, (0, v2))] [] M := qwp_ok qmX11_goerOn_ok.1 [(2, [0, 1, 2])] 35 (⟨rfl, ⟨rfl, ⟨(show (0 : Int) ≤ 330 by decide), ⟨(show (330 : Int) < 13125 by decide), ⟨t.1, t.2.1, fun z1 => ⟨_, rfl, (t.2.2.1 z1)⟩, fun z1 => ⟨rfl, ⟨rfl, ⟨(t.2.2.2 z1).1, ⟨(t.2.2.2 z1).2.1, ⟨fun z2 => ⟨((t.2.2.2 z1).2.2.2 z2).1, (show in32 0 from ⟨by decide, by decide⟩), ((t.2.2.2 z1).2.2.2 z2).2⟩, fun z2 => ⟨rfl, ⟨rfl, ⟨((t.2.2.2 z1).2.2.1 z2).1, ⟨((t.2.2.2 z1).2.2.1 z2).2.1, ⟨((t.2.2.2 z1).2.2.1 z2).2.2.1, (show in32 0 from ⟨by decide, by decide⟩), fun z3 => (((t.2.2.2 z1).2.2.1 z2).2.2.2.1 z3), fun z3 => ⟨rfl, QC.mono (((t.2.2.2 z1).2.2.1 z2).2.2.2.2 z3) (fun x1 h1 u4 => by obtain ⟨M1, rfl, u4⟩ := u4; exact ⟨fun z5 => ⟨(u4.2 z5).1, (u4.2 z5).2.1, (u4.2 z5).2.2⟩, fun z5 => ⟨_, rfl, (u4.1 z5)⟩⟩)⟩⟩⟩⟩⟩⟩⟩⟩⟩⟩⟩⟩⟩⟩⟩⟩)
theorem TX11_cellOf_0 {X : QX} {x : Int} {d : Nat} {post : Int → QMem → Prop} {M : QMem} {v1 : Int} (t : (0 : Int) ≤ 331 + v1 ∧ (331 + v1 < 13125 ∧ ((0 : Int) ≤ 339 + v1 ∧ (339 + v1 < 13125 ∧ ((0 : Int) ≤ (66 + (16 * (M 216 (331 + v1)))) + (M 216 (339 + v1)) ∧ ((66 + (16 * (M 216 (331 + v1)))) + (M 216 (339 + v1)) < 13125 ∧ (post (M 216 ((66 + (16 * (M 216 (331 + v1)))) + (M 216 (339 + v1)))) M))))))) : QRm X x d qmX11_cellOf post 0 [(0, (2, 215)), (1, (0, v1))] [] M := qwp_ok qmX11_cellOf_ok.1 [] 23 (⟨rfl, ⟨rfl, ⟨rfl, ⟨t.1, ⟨t.2.1, ⟨rfl, ⟨rfl, ⟨t.2.2.1, ⟨t.2.2.2.1, ⟨rfl, ⟨t.2.2.2.2.1, ⟨t.2.2.2.2.2.1, ⟨_, rfl, t.2.2.2.2.2.2⟩⟩⟩⟩⟩⟩⟩⟩⟩⟩⟩⟩⟩)
theorem TX11_cell_0 {X : QX} {x : Int} {d : Nat} {post : Int → QMem → Prop} {M : QMem} {v1 v2 : Int} (t : in32 v1 ∧ (QCm X x d 1 yX11_isCell [(2, 215), (1, v1)] (qup M 215 0 0) (fun x1 M1 => (x1 = 0 → (post (-2) M1)) ∧ (¬ x1 = 0 → in32 x1 ∧ (in32 v2 ∧ (v2 = 0 → ((0 : Int) ≤ 10 + v1 ∧ (10 + v1 < 13125 ∧ ((M1 216 (10 + v1) = 1 → (post 1 M1)) ∧ (¬ M1 216 (10 + v1) = 1 → in32 (M1 216 (10 + v1)) ∧ (QCm X x d 1 yX11_isHome [(2, 215), (0, v1)] M1 (fun x4 M4 => (x4 = 0 → (post 0 M4)) ∧ (¬ x4 = 0 → in32 x4 ∧ (post 2 M4))))))))) ∧ (v2 = 1 → (QCm X x d 1 yX11_lieOn [(2, 215), (0, v1)] M1 (fun x2 M2 => post x2 M2))) ∧ (v2 = 2 → ((0 : Int) ≤ 294 + v1 ∧ (294 + v1 < 13125 ∧ (post (M1 216 (294 + v1)) M1)))) ∧ (v2 = 3 → ((0 : Int) ≤ 258 + v1 ∧ (258 + v1 < 13125 ∧ (post (M1 216 (258 + v1)) M1)))) ∧ (v2 = 4 → (QCm X x d 1 yX11_goerOn [(2, 215), (0, v1)] M1 (fun x3 M3 => post x3 M3))) ∧ ((v2 < 0 ∨ 4 < v2) → (post (-2) M1))))))) : QRm X x (d + 1) qmX11_cell post 0 [(0, (2, 215)), (1, (0, v1)), (2, (0, v2))] [] M := qwp_ok qmX11_cell_ok.1 [] 56 (⟨rfl, ⟨t.1, ⟨rfl, QC.mono t.2 (fun x1 h1 u1 => by obtain ⟨M1, rfl, u1⟩ := u1; exact ⟨fun z2 => ⟨(u1.2 z2).1, (show in32 0 from ⟨by decide, by decide⟩), ⟨(u1.2 z2).2.1, ⟨fun z3 => ⟨rfl, ⟨rfl, ⟨((u1.2 z2).2.2.1 z3).1, ⟨((u1.2 z2).2.2.1 z3).2.1, ⟨fun z4 => ⟨(((u1.2 z2).2.2.1 z3).2.2.2 z4).1, (show in32 1 from ⟨by decide, by decide⟩), ⟨rfl, QC.mono ((((u1.2 z2).2.2.1 z3).2.2.2 z4).2) (fun x4 h4 u5 => by obtain ⟨M4, rfl, u5⟩ := u5; exact ⟨fun z6 => ⟨_, rfl, (u5.1 z6)⟩, fun z6 => ⟨(u5.2 z6).1, (show in32 0 from ⟨by decide, by decide⟩), ⟨_, rfl, (u5.2 z6).2⟩⟩⟩)⟩⟩, fun z4 => ⟨_, rfl, (((u1.2 z2).2.2.1 z3).2.2.1 z4)⟩⟩⟩⟩⟩⟩, ⟨fun z7 => ⟨rfl, QC.mono ((u1.2 z2).2.2.2.1 z7) (fun x2 h2 u8 => by obtain ⟨M2, rfl, u8⟩ := u8; exact ⟨_, rfl, u8⟩)⟩, ⟨fun z9 => ⟨rfl, ⟨rfl, ⟨((u1.2 z2).2.2.2.2.1 z9).1, ⟨((u1.2 z2).2.2.2.2.1 z9).2.1, ⟨_, rfl, ((u1.2 z2).2.2.2.2.1 z9).2.2⟩⟩⟩⟩⟩, ⟨fun z10 => ⟨rfl, ⟨rfl, ⟨((u1.2 z2).2.2.2.2.2.1 z10).1, ⟨((u1.2 z2).2.2.2.2.2.1 z10).2.1, ⟨_, rfl, ((u1.2 z2).2.2.2.2.2.1 z10).2.2⟩⟩⟩⟩⟩, ⟨fun z11 => ⟨rfl, QC.mono ((u1.2 z2).2.2.2.2.2.2.1 z11) (fun x3 h3 u12 => by obtain ⟨M3, rfl, u12⟩ := u12; exact ⟨_, rfl, u12⟩)⟩, trivial⟩⟩⟩⟩⟩, fun z13 => ⟨_, rfl, ((u1.2 z2).2.2.2.2.2.2.2 z13)⟩⟩⟩, fun z2 => ⟨_, rfl, (u1.1 z2)⟩⟩)⟩⟩⟩)
theorem TX11_drum_0 {X : QX} {x : Int} {d : Nat} {post : Int → QMem → Prop} {M : QMem} {v1 v2 : Int} (t : in32 v1 ∧ (QCm X x d 1 yX11_isDrum [(2, 215), (1, v1)] (qup M 215 0 0) (fun x1 M1 => (x1 = 0 → (post (-2) M1)) ∧ (¬ x1 = 0 → in32 x1 ∧ (in32 v2 ∧ (v2 = 0 → ((0 : Int) ≤ 46 + v1 ∧ (46 + v1 < 13125 ∧ (post (M1 216 (46 + v1)) M1)))) ∧ (v2 = 1 → ((0 : Int) ≤ 54 + v1 ∧ (54 + v1 < 13125 ∧ (post (M1 216 (54 + v1)) M1)))) ∧ (v2 = 2 → ((0 : Int) ≤ 60 + v1 ∧ (60 + v1 < 13125 ∧ (post (M1 216 (60 + v1)) M1)))) ∧ (v2 = 3 → (QCm X x d 1 yX11_endOf [(2, 215), (0, v1)] M1 (fun x2 M2 => post x2 M2))) ∧ (v2 = 4 → (QCm X x d 1 yX11_tookBy [(2, 215), (0, v1)] M1 (fun x3 M3 => post x3 M3))) ∧ ((v2 < 0 ∨ 4 < v2) → (post (-2) M1))))))) : QRm X x (d + 1) qmX11_drum post 0 [(0, (2, 215)), (1, (0, v1)), (2, (0, v2))] [] M := qwp_ok qmX11_drum_ok.1 [] 45 (⟨rfl, ⟨t.1, ⟨rfl, QC.mono t.2 (fun x1 h1 u1 => by obtain ⟨M1, rfl, u1⟩ := u1; exact ⟨fun z2 => ⟨(u1.2 z2).1, (show in32 0 from ⟨by decide, by decide⟩), ⟨(u1.2 z2).2.1, ⟨fun z3 => ⟨rfl, ⟨rfl, ⟨((u1.2 z2).2.2.1 z3).1, ⟨((u1.2 z2).2.2.1 z3).2.1, ⟨_, rfl, ((u1.2 z2).2.2.1 z3).2.2⟩⟩⟩⟩⟩, ⟨fun z4 => ⟨rfl, ⟨rfl, ⟨((u1.2 z2).2.2.2.1 z4).1, ⟨((u1.2 z2).2.2.2.1 z4).2.1, ⟨_, rfl, ((u1.2 z2).2.2.2.1 z4).2.2⟩⟩⟩⟩⟩, ⟨fun z5 => ⟨rfl, ⟨rfl, ⟨((u1.2 z2).2.2.2.2.1 z5).1, ⟨((u1.2 z2).2.2.2.2.1 z5).2.1, ⟨_, rfl, ((u1.2 z2).2.2.2.2.1 z5).2.2⟩⟩⟩⟩⟩, ⟨fun z6 => ⟨rfl, QC.mono ((u1.2 z2).2.2.2.2.2.1 z6) (fun x2 h2 u7 => by obtain ⟨M2, rfl, u7⟩ := u7; exact ⟨_, rfl, u7⟩)⟩, ⟨fun z8 => ⟨rfl, QC.mono ((u1.2 z2).2.2.2.2.2.2.1 z8) (fun x3 h3 u9 => by obtain ⟨M3, rfl, u9⟩ := u9; exact ⟨_, rfl, u9⟩)⟩, trivial⟩⟩⟩⟩⟩, fun z10 => ⟨_, rfl, ((u1.2 z2).2.2.2.2.2.2.2 z10)⟩⟩⟩, fun z2 => ⟨_, rfl, (u1.1 z2)⟩⟩)⟩⟩⟩)
theorem TX11_tookBy_0 {X : QX} {x : Int} {d : Nat} {post : Int → QMem → Prop} {M : QMem} {v1 : Int} (t : QRm X x d qmX11_tookBy post 4 [(0, (2, 215)), (1, (0, v1)), (2, (0, 0)), (3, (0, 0))] [] M) : QRm X x d qmX11_tookBy post 0 [(0, (2, 215)), (1, (0, v1))] [] M := qwp_ok qmX11_tookBy_ok.1 [(4, [0, 1, 2, 3])] 31 (t)
theorem TX11_tookBy_4 {X : QX} {x : Int} {d : Nat} {post : Int → QMem → Prop} {M : QMem} {v1 v2 v3 : Int} (t : (0 : Int) ≤ 60 + v1 ∧ (60 + v1 < 13125 ∧ (in32 v3 ∧ in32 (M 216 (60 + v1)) ∧ (M 216 (60 + v1) ≤ v3 → (post v2 M)) ∧ (¬ M 216 (60 + v1) ≤ v3 → ((0 : Int) ≤ (162 + (16 * v1)) + v3 ∧ ((162 + (16 * v1)) + v3 < 13125 ∧ (QRm X x d qmX11_tookBy post 4 [(0, (2, 215)), (1, (0, v1)), (2, (0, v2 + (M 216 ((162 + (16 * v1)) + v3)))), (3, (0, v3 + 1))] [] M))))))) : QRm X x d qmX11_tookBy post 4 [(0, (2, 215)), (1, (0, v1)), (2, (0, v2)), (3, (0, v3))] [] M := qwp_ok qmX11_tookBy_ok.1 [(4, [0, 1, 2, 3])] 31 (⟨rfl, ⟨rfl, ⟨t.1, ⟨t.2.1, ⟨t.2.2.1, t.2.2.2.1, fun z1 => ⟨_, rfl, (t.2.2.2.2.1 z1)⟩, fun z1 => ⟨rfl, ⟨rfl, ⟨(t.2.2.2.2.2 z1).1, ⟨(t.2.2.2.2.2 z1).2.1, (t.2.2.2.2.2 z1).2.2⟩⟩⟩⟩⟩⟩⟩⟩⟩)
theorem TX11_lies_0 {X : QX} {x : Int} {d : Nat} {post : Int → QMem → Prop} {M : QMem} {v1 v2 : Int} (t : in32 v1 ∧ (QCm X x d 1 yX11_isDrum [(2, 215), (1, v1)] (qup M 215 0 0) (fun x1 M1 => (x1 = 0 → (post (-2) M1)) ∧ (¬ x1 = 0 → in32 x1 ∧ (in32 v2 ∧ ((0 : Int) ≤ v2 → ((0 : Int) ≤ 60 + v1 ∧ (60 + v1 < 13125 ∧ (in32 (M1 216 (60 + v1)) ∧ (M1 216 (60 + v1) ≤ v2 → (post (-1) M1)) ∧ (¬ M1 216 (60 + v1) ≤ v2 → ((0 : Int) ≤ (66 + (16 * v1)) + v2 ∧ ((66 + (16 * v1)) + v2 < 13125 ∧ (post (M1 216 ((66 + (16 * v1)) + v2)) M1)))))))) ∧ (¬ (0 : Int) ≤ v2 → (post (-3) M1))))))) : QRm X x (d + 1) qmX11_lies post 0 [(0, (2, 215)), (1, (0, v1)), (2, (0, v2))] [] M := qwp_ok qmX11_lies_ok.1 [] 37 (⟨rfl, ⟨t.1, ⟨rfl, QC.mono t.2 (fun x1 h1 u1 => by obtain ⟨M1, rfl, u1⟩ := u1; exact ⟨fun z2 => ⟨(u1.2 z2).1, (show in32 0 from ⟨by decide, by decide⟩), ⟨(u1.2 z2).2.1, (show in32 0 from ⟨by decide, by decide⟩), fun z3 => ⟨rfl, ⟨rfl, ⟨((u1.2 z2).2.2.1 z3).1, ⟨((u1.2 z2).2.2.1 z3).2.1, ⟨(u1.2 z2).2.1, ((u1.2 z2).2.2.1 z3).2.2.1, fun z4 => ⟨_, rfl, (((u1.2 z2).2.2.1 z3).2.2.2.1 z4)⟩, fun z4 => ⟨rfl, ⟨rfl, ⟨(((u1.2 z2).2.2.1 z3).2.2.2.2 z4).1, ⟨(((u1.2 z2).2.2.1 z3).2.2.2.2 z4).2.1, ⟨_, rfl, (((u1.2 z2).2.2.1 z3).2.2.2.2 z4).2.2⟩⟩⟩⟩⟩⟩⟩⟩⟩⟩, fun z3 => ⟨_, rfl, ((u1.2 z2).2.2.2 z3)⟩⟩⟩, fun z2 => ⟨_, rfl, (u1.1 z2)⟩⟩)⟩⟩⟩)
theorem TX11_traveller_0 {X : QX} {x : Int} {d : Nat} {post : Int → QMem → Prop} {M : QMem} {v1 v2 : Int} (t : in32 v1 ∧ (QCm X x d 1 yX11_isGoer [(2, 215), (1, v1)] (qup M 215 0 0) (fun x1 M1 => (x1 = 0 → (post (-2) M1)) ∧ (¬ x1 = 0 → in32 x1 ∧ (in32 v2 ∧ (v2 = 0 → ((0 : Int) ≤ 331 + v1 ∧ (331 + v1 < 13125 ∧ (post (M1 216 (331 + v1)) M1)))) ∧ (v2 = 1 → ((0 : Int) ≤ 347 + v1 ∧ (347 + v1 < 13125 ∧ ((M1 216 (347 + v1) = 1 → (post (-1) M1)) ∧ (¬ M1 216 (347 + v1) = 1 → in32 (M1 216 (347 + v1)) ∧ ((0 : Int) ≤ 339 + v1 ∧ (339 + v1 < 13125 ∧ (post (M1 216 (339 + v1)) M1)))))))) ∧ (v2 = 2 → ((0 : Int) ≤ 347 + v1 ∧ (347 + v1 < 13125 ∧ (post (M1 216 (347 + v1)) M1)))) ∧ (v2 = 3 → ((0 : Int) ≤ 355 + v1 ∧ (355 + v1 < 13125 ∧ (post (M1 216 (355 + v1)) M1)))) ∧ ((v2 < 0 ∨ 3 < v2) → (post (-2) M1))))))) : QRm X x (d + 1) qmX11_traveller post 0 [(0, (2, 215)), (1, (0, v1)), (2, (0, v2))] [] M := qwp_ok qmX11_traveller_ok.1 [] 54 (⟨rfl, ⟨t.1, ⟨rfl, QC.mono t.2 (fun x1 h1 u1 => by obtain ⟨M1, rfl, u1⟩ := u1; exact ⟨fun z2 => ⟨(u1.2 z2).1, (show in32 0 from ⟨by decide, by decide⟩), ⟨(u1.2 z2).2.1, ⟨fun z3 => ⟨rfl, ⟨rfl, ⟨((u1.2 z2).2.2.1 z3).1, ⟨((u1.2 z2).2.2.1 z3).2.1, ⟨_, rfl, ((u1.2 z2).2.2.1 z3).2.2⟩⟩⟩⟩⟩, ⟨fun z4 => ⟨rfl, ⟨rfl, ⟨((u1.2 z2).2.2.2.1 z4).1, ⟨((u1.2 z2).2.2.2.1 z4).2.1, ⟨fun z5 => ⟨(((u1.2 z2).2.2.2.1 z4).2.2.2 z5).1, (show in32 1 from ⟨by decide, by decide⟩), ⟨rfl, ⟨rfl, ⟨(((u1.2 z2).2.2.2.1 z4).2.2.2 z5).2.1, ⟨(((u1.2 z2).2.2.2.1 z4).2.2.2 z5).2.2.1, ⟨_, rfl, (((u1.2 z2).2.2.2.1 z4).2.2.2 z5).2.2.2⟩⟩⟩⟩⟩⟩, fun z5 => ⟨_, rfl, (((u1.2 z2).2.2.2.1 z4).2.2.1 z5)⟩⟩⟩⟩⟩⟩, ⟨fun z6 => ⟨rfl, ⟨rfl, ⟨((u1.2 z2).2.2.2.2.1 z6).1, ⟨((u1.2 z2).2.2.2.2.1 z6).2.1, ⟨_, rfl, ((u1.2 z2).2.2.2.2.1 z6).2.2⟩⟩⟩⟩⟩, ⟨fun z7 => ⟨rfl, ⟨rfl, ⟨((u1.2 z2).2.2.2.2.2.1 z7).1, ⟨((u1.2 z2).2.2.2.2.2.1 z7).2.1, ⟨_, rfl, ((u1.2 z2).2.2.2.2.2.1 z7).2.2⟩⟩⟩⟩⟩, trivial⟩⟩⟩⟩, fun z8 => ⟨_, rfl, ((u1.2 z2).2.2.2.2.2.2 z8)⟩⟩⟩, fun z2 => ⟨_, rfl, (u1.1 z2)⟩⟩)⟩⟩⟩)
theorem TX11_takes_0 {X : QX} {x : Int} {d : Nat} {post : Int → QMem → Prop} {M : QMem} {v1 v2 : Int} (t : in32 v1 ∧ (QCm X x d 1 yX11_isDrum [(2, 215), (1, v1)] (qup M 215 0 0) (fun x1 M1 => (x1 = 0 → (post (-2) M1)) ∧ (¬ x1 = 0 → in32 x1 ∧ (in32 v2 ∧ (QCm X x d 1 yX11_isCell [(2, 215), (1, v2)] M1 (fun x2 M2 => (x2 = 0 → (post (-2) M2)) ∧ (¬ x2 = 0 → in32 x2 ∧ (QCm X x d 1 yX11_costOf [(2, 215), (0, v1), (0, v2)] M2 (fun x3 M3 => post x3 M3)))))))))) : QRm X x (d + 1) qmX11_takes post 0 [(0, (2, 215)), (1, (0, v1)), (2, (0, v2))] [] M := qwp_ok qmX11_takes_ok.1 [] 22 (⟨rfl, ⟨t.1, ⟨rfl, QC.mono t.2 (fun x1 h1 u1 => by obtain ⟨M1, rfl, u1⟩ := u1; exact ⟨fun z2 => ⟨_, rfl, (u1.1 z2)⟩, fun z2 => ⟨(u1.2 z2).1, (show in32 0 from ⟨by decide, by decide⟩), ⟨(u1.2 z2).2.1, ⟨rfl, QC.mono ((u1.2 z2).2.2) (fun x2 h2 u3 => by obtain ⟨M2, rfl, u3⟩ := u3; exact ⟨fun z4 => ⟨_, rfl, (u3.1 z4)⟩, fun z4 => ⟨(u3.2 z4).1, (show in32 0 from ⟨by decide, by decide⟩), ⟨rfl, QC.mono ((u3.2 z4).2) (fun x3 h3 u5 => by obtain ⟨M3, rfl, u5⟩ := u5; exact ⟨_, rfl, u5⟩)⟩⟩⟩)⟩⟩⟩⟩)⟩⟩⟩)
theorem TX11_keeps_0 {X : QX} {x : Int} {d : Nat} {post : Int → QMem → Prop} {M : QMem} (t : QRm X x d qmX11_keeps post 2 [(0, (2, 215)), (1, (0, 0))] [] M) : QRm X x d qmX11_keeps post 0 [(0, (2, 215))] [] M := qwp_ok qmX11_keeps_ok.1 [(2, [0, 1])] 20 (t)
theorem TX11_keeps_2 {X : QX} {x : Int} {d : Nat} {post : Int → QMem → Prop} {M : QMem} {v1 : Int} (t : in32 v1 ∧ ((311 : Int) ≤ v1 → (post 0 M)) ∧ (¬ (311 : Int) ≤ v1 → ((0 : Int) ≤ 52 + v1 ∧ (52 + v1 < 13125 ∧ ((0 : Int) ≤ v1 ∧ (v1 < 311 ∧ (QRm X x d qmX11_keeps post 2 [(0, (2, 215)), (1, (0, v1 + 1))] [] (qup M 222 v1 (M 216 (52 + v1)))))))))) : QRm X x d qmX11_keeps post 2 [(0, (2, 215)), (1, (0, v1))] [] M := qwp_ok qmX11_keeps_ok.1 [(2, [0, 1])] 20 (⟨t.1, (show in32 311 from ⟨by decide, by decide⟩), fun z1 => ⟨_, rfl, (t.2.1 z1)⟩, fun z1 => ⟨rfl, ⟨rfl, ⟨rfl, ⟨(t.2.2 z1).1, ⟨(t.2.2 z1).2.1, ⟨rfl, ⟨(t.2.2 z1).2.2.1, ⟨(t.2.2 z1).2.2.2.1, (t.2.2 z1).2.2.2.2⟩⟩⟩⟩⟩⟩⟩⟩⟩)
theorem TX11_isAgain_0 {X : QX} {x : Int} {d : Nat} {post : Int → QMem → Prop} {M : QMem} (t : QRm X x d qmX11_isAgain post 2 [(0, (2, 215)), (1, (0, 0))] [] M) : QRm X x d qmX11_isAgain post 0 [(0, (2, 215))] [] M := qwp_ok qmX11_isAgain_ok.1 [(2, [0, 1])] 20 (t)
theorem TX11_isAgain_2 {X : QX} {x : Int} {d : Nat} {post : Int → QMem → Prop} {M : QMem} {v1 : Int} (t : in32 v1 ∧ ((311 : Int) ≤ v1 → (post 0 M)) ∧ (¬ (311 : Int) ≤ v1 → ((0 : Int) ≤ v1 ∧ (v1 < 311 ∧ ((0 : Int) ≤ 52 + v1 ∧ (52 + v1 < 13125 ∧ (QRm X x d qmX11_isAgain post 2 [(0, (2, 215)), (1, (0, v1 + 1))] [] (qup M 216 (52 + v1) (M 222 v1))))))))) : QRm X x d qmX11_isAgain post 2 [(0, (2, 215)), (1, (0, v1))] [] M := qwp_ok qmX11_isAgain_ok.1 [(2, [0, 1])] 20 (⟨t.1, (show in32 311 from ⟨by decide, by decide⟩), fun z1 => ⟨_, rfl, (t.2.1 z1)⟩, fun z1 => ⟨rfl, ⟨rfl, ⟨rfl, ⟨(t.2.2 z1).1, ⟨(t.2.2 z1).2.1, ⟨rfl, ⟨(t.2.2 z1).2.2.1, ⟨(t.2.2 z1).2.2.2.1, (t.2.2 z1).2.2.2.2⟩⟩⟩⟩⟩⟩⟩⟩⟩)
theorem TX11_notes_0 {X : QX} {x : Int} {d : Nat} {post : Int → QMem → Prop} {M : QMem} (t : (M 216 363 = 10 → (QRm X x d qmX11_notes post 15 [(0, (2, 215)), (1, (0, 0))] [] M)) ∧ (¬ M 216 363 = 10 → in32 (M 216 363) ∧ (QRm X x d qmX11_notes post 62 [(0, (2, 215)), (1, (0, 0))] [] M))) : QRm X x d qmX11_notes post 0 [(0, (2, 215))] [] M := qwp_ok qmX11_notes_ok.1 [(15, [0, 1]), (62, [0, 1])] 68 (⟨rfl, ⟨rfl, ⟨(show (0 : Int) ≤ 363 by decide), ⟨(show (363 : Int) < 13125 by decide), ⟨fun z1 => ⟨(t.2 z1).1, (show in32 10 from ⟨by decide, by decide⟩), (t.2 z1).2⟩, fun z1 => (t.1 z1)⟩⟩⟩⟩⟩)
theorem TX11_notes_15 {X : QX} {x : Int} {d : Nat} {post : Int → QMem → Prop} {M : QMem} {v1 : Int} (t : in32 v1 ∧ ((2799 : Int) ≤ v1 → (QRm X x d qmX11_notes post 62 [(0, (2, 215)), (1, (0, 0))] [] (qup M 216 363 ((M 216 363) - 1)))) ∧ (¬ (2799 : Int) ≤ v1 → ((0 : Int) ≤ 675 + v1 ∧ (675 + v1 < 13125 ∧ ((0 : Int) ≤ 364 + v1 ∧ (364 + v1 < 13125 ∧ (QRm X x d qmX11_notes post 15 [(0, (2, 215)), (1, (0, v1 + 1))] [] (qup M 216 (364 + v1) (M 216 (675 + v1)))))))))) : QRm X x d qmX11_notes post 15 [(0, (2, 215)), (1, (0, v1))] [] M := qwp_ok qmX11_notes_ok.1 [(15, [0, 1]), (62, [0, 1])] 68 (⟨t.1, (show in32 2799 from ⟨by decide, by decide⟩), fun z1 => ⟨rfl, ⟨rfl, ⟨(show (0 : Int) ≤ 363 by decide), ⟨(show (363 : Int) < 13125 by decide), ⟨rfl, ⟨(show (0 : Int) ≤ 363 by decide), ⟨(show (363 : Int) < 13125 by decide), (t.2.1 z1)⟩⟩⟩⟩⟩⟩⟩, fun z1 => ⟨rfl, ⟨rfl, ⟨rfl, ⟨(t.2.2 z1).1, ⟨(t.2.2 z1).2.1, ⟨rfl, ⟨(t.2.2 z1).2.2.1, ⟨(t.2.2 z1).2.2.2.1, (t.2.2 z1).2.2.2.2⟩⟩⟩⟩⟩⟩⟩⟩⟩)
theorem TX11_notes_62 {X : QX} {x : Int} {d : Nat} {post : Int → QMem → Prop} {M : QMem} {v1 : Int} (t : in32 v1 ∧ ((311 : Int) ≤ v1 → (post 0 (qup M 216 363 ((M 216 363) + 1)))) ∧ (¬ (311 : Int) ≤ v1 → ((0 : Int) ≤ v1 ∧ (v1 < 311 ∧ ((0 : Int) ≤ (364 + (311 * (M 216 363))) + v1 ∧ ((364 + (311 * (M 216 363))) + v1 < 13125 ∧ (QRm X x d qmX11_notes post 62 [(0, (2, 215)), (1, (0, v1 + 1))] [] (qup M 216 ((364 + (311 * (M 216 363))) + v1) (M 222 v1))))))))) : QRm X x d qmX11_notes post 62 [(0, (2, 215)), (1, (0, v1))] [] M := qwp_ok qmX11_notes_ok.1 [(15, [0, 1]), (62, [0, 1])] 68 (⟨t.1, (show in32 311 from ⟨by decide, by decide⟩), fun z1 => ⟨rfl, ⟨rfl, ⟨(show (0 : Int) ≤ 363 by decide), ⟨(show (363 : Int) < 13125 by decide), ⟨rfl, ⟨(show (0 : Int) ≤ 363 by decide), ⟨(show (363 : Int) < 13125 by decide), ⟨_, rfl, (t.2.1 z1)⟩⟩⟩⟩⟩⟩⟩⟩, fun z1 => ⟨rfl, ⟨rfl, ⟨rfl, ⟨(show (0 : Int) ≤ 363 by decide), ⟨(show (363 : Int) < 13125 by decide), ⟨rfl, ⟨rfl, ⟨(t.2.2 z1).1, ⟨(t.2.2 z1).2.1, ⟨rfl, ⟨(t.2.2 z1).2.2.1, ⟨(t.2.2 z1).2.2.2.1, (t.2.2 z1).2.2.2.2⟩⟩⟩⟩⟩⟩⟩⟩⟩⟩⟩⟩⟩)
theorem TX11_whyLay_0 {X : QX} {x : Int} {d : Nat} {post : Int → QMem → Prop} {M : QMem} {v1 v3 : Int} (t : QCm X x d 1 yX11_isDrum [(2, 215), (1, v1)] M (fun x1 M1 => (x1 = 0 → (post 1 M1)) ∧ (¬ x1 = 0 → in32 x1 ∧ (QCm X x d 1 yX11_within [(1, v3), (1, 1), (1, 4)] M1 (fun x2 M2 => (x2 = 0 → (post 1 M2)) ∧ (¬ x2 = 0 → in32 x2 ∧ (QCm X x d 1 yX11_endOf [(2, 215), (0, ql2i v1)] M2 (fun x3 M3 => QCm X x d 1 yX11_beside [(2, 215), (0, x3), (0, ql2i v3)] M3 (fun x4 M4 => (x4 = (-1) → (post 2 M4)) ∧ (¬ x4 = (-1) → in32 x4 ∧ (QCm X x d 1 yX11_isOpen [(2, 215), (0, ql2i v1), (0, x4)] M4 (fun x5 M5 => (x5 = 0 → (post 2 M5)) ∧ (¬ x5 = 0 → in32 x5 ∧ ((0 : Int) ≤ 60 + (ql2i v1) ∧ (60 + (ql2i v1) < 13125 ∧ ((M5 216 (60 + (ql2i v1)) = 16 → (post 2 M5)) ∧ (¬ M5 216 (60 + (ql2i v1)) = 16 → in32 (M5 216 (60 + (ql2i v1))) ∧ (QCm X x d 1 yX11_lets [(2, 215), (0, ql2i v1), (0, x4)] M5 (fun x6 M6 => (x6 = 0 → (post 3 M6)) ∧ (¬ x6 = 0 → in32 x6 ∧ ((0 : Int) ≤ 54 + (ql2i v1) ∧ (54 + (ql2i v1) < 13125 ∧ (QCm X x d 1 yX11_costOf [(2, 215), (0, ql2i v1), (0, x4)] M6 (fun x7 M7 => in32 (M6 216 (54 + (ql2i v1))) ∧ in32 x7 ∧ (x7 ≤ M6 216 (54 + (ql2i v1)) → (post 0 M7)) ∧ (¬ x7 ≤ M6 216 (54 + (ql2i v1)) → (post 4 M7)))))))))))))))))))))))))) : QRm X x (d + 1) qmX11_whyLay post 0 [(0, (2, 215)), (1, (1, v1)), (3, (1, v3))] [] M := qwp_ok qmX11_whyLay_ok.1 [] 64 (⟨rfl, QC.mono t (fun x1 h1 u1 => by obtain ⟨M1, rfl, u1⟩ := u1; exact ⟨fun z2 => ⟨_, rfl, (u1.1 z2)⟩, fun z2 => ⟨(u1.2 z2).1, (show in32 0 from ⟨by decide, by decide⟩), QC.mono ((u1.2 z2).2) (fun x2 h2 u3 => by obtain ⟨M2, rfl, u3⟩ := u3; exact ⟨fun z4 => ⟨(u3.2 z4).1, (show in32 0 from ⟨by decide, by decide⟩), ⟨rfl, QC.mono ((u3.2 z4).2) (fun x3 h3 u5 => by obtain ⟨M3, rfl, u5⟩ := u5; exact ⟨rfl, QC.mono u5 (fun x4 h4 u6 => by obtain ⟨M4, rfl, u6⟩ := u6; exact ⟨fun z7 => ⟨_, rfl, (u6.1 z7)⟩, fun z7 => ⟨(u6.2 z7).1, (show in32 (-1) from ⟨by decide, by decide⟩), ⟨rfl, QC.mono ((u6.2 z7).2) (fun x5 h5 u8 => by obtain ⟨M5, rfl, u8⟩ := u8; exact ⟨fun z9 => ⟨_, rfl, (u8.1 z9)⟩, fun z9 => ⟨(u8.2 z9).1, (show in32 0 from ⟨by decide, by decide⟩), ⟨rfl, ⟨rfl, ⟨(u8.2 z9).2.1, ⟨(u8.2 z9).2.2.1, ⟨fun z10 => ⟨((u8.2 z9).2.2.2.2 z10).1, (show in32 16 from ⟨by decide, by decide⟩), ⟨rfl, QC.mono (((u8.2 z9).2.2.2.2 z10).2) (fun x6 h6 u11 => by obtain ⟨M6, rfl, u11⟩ := u11; exact ⟨fun z12 => ⟨(u11.2 z12).1, (show in32 0 from ⟨by decide, by decide⟩), ⟨rfl, ⟨rfl, ⟨(u11.2 z12).2.1, ⟨(u11.2 z12).2.2.1, ⟨rfl, QC.mono ((u11.2 z12).2.2.2) (fun x7 h7 u13 => by obtain ⟨M7, rfl, u13⟩ := u13; exact ⟨u13.1, u13.2.1, fun z14 => ⟨_, rfl, (u13.2.2.1 z14)⟩, fun z14 => ⟨_, rfl, (u13.2.2.2 z14)⟩⟩)⟩⟩⟩⟩⟩⟩, fun z12 => ⟨_, rfl, (u11.1 z12)⟩⟩)⟩⟩, fun z10 => ⟨_, rfl, ((u8.2 z9).2.2.2.1 z10)⟩⟩⟩⟩⟩⟩⟩⟩)⟩⟩⟩)⟩)⟩⟩, fun z4 => ⟨_, rfl, (u3.1 z4)⟩⟩)⟩⟩)⟩)
theorem TX11_lays_0 {X : QX} {x : Int} {d : Nat} {post : Int → QMem → Prop} {M : QMem} {v1 v2 v3 : Int} (t : QCm X x d 1 yX11_endOf [(2, 215), (0, v1)] M (fun x1 M1 => QCm X x d 1 yX11_beside [(2, 215), (0, x1), (0, v2)] M1 (fun x2 M2 => QCm X x d 1 yX11_costOf [(2, 215), (0, v1), (0, x2)] M2 (fun x3 M3 => (0 : Int) ≤ 60 + v1 ∧ (60 + v1 < 13125 ∧ ((0 : Int) ≤ 66 + ((16 * v1) + (M3 216 (60 + v1))) ∧ (66 + ((16 * v1) + (M3 216 (60 + v1))) < 13125 ∧ ((0 : Int) ≤ 162 + ((16 * v1) + (M3 216 (60 + v1))) ∧ (162 + ((16 * v1) + (M3 216 (60 + v1))) < 13125 ∧ ((0 : Int) ≤ 54 + v1 ∧ (54 + v1 < 13125 ∧ ((v3 = 0 → ((0 : Int) ≤ 294 + x2 ∧ (294 + x2 < 13125 ∧ (((qup (qup (qup (qup M3 216 (66 + ((16 * v1) + (M3 216 (60 + v1)))) x2) 216 (162 + ((16 * v1) + (M3 216 (60 + v1)))) x3) 216 (54 + v1) (((qup (qup M3 216 (66 + ((16 * v1) + (M3 216 (60 + v1)))) x2) 216 (162 + ((16 * v1) + (M3 216 (60 + v1)))) x3) 216 (54 + v1)) - x3)) 216 (60 + v1) (((qup (qup (qup M3 216 (66 + ((16 * v1) + (M3 216 (60 + v1)))) x2) 216 (162 + ((16 * v1) + (M3 216 (60 + v1)))) x3) 216 (54 + v1) (((qup (qup M3 216 (66 + ((16 * v1) + (M3 216 (60 + v1)))) x2) 216 (162 + ((16 * v1) + (M3 216 (60 + v1)))) x3) 216 (54 + v1)) - x3)) 216 (60 + v1)) + 1)) 216 (294 + x2) = (-1) → ((0 : Int) ≤ 258 + x2 ∧ (258 + x2 < 13125 ∧ (post 0 (qup (qup (qup (qup (qup (qup M3 216 (66 + ((16 * v1) + (M3 216 (60 + v1)))) x2) 216 (162 + ((16 * v1) + (M3 216 (60 + v1)))) x3) 216 (54 + v1) (((qup (qup M3 216 (66 + ((16 * v1) + (M3 216 (60 + v1)))) x2) 216 (162 + ((16 * v1) + (M3 216 (60 + v1)))) x3) 216 (54 + v1)) - x3)) 216 (60 + v1) (((qup (qup (qup M3 216 (66 + ((16 * v1) + (M3 216 (60 + v1)))) x2) 216 (162 + ((16 * v1) + (M3 216 (60 + v1)))) x3) 216 (54 + v1) (((qup (qup M3 216 (66 + ((16 * v1) + (M3 216 (60 + v1)))) x2) 216 (162 + ((16 * v1) + (M3 216 (60 + v1)))) x3) 216 (54 + v1)) - x3)) 216 (60 + v1)) + 1)) 216 (258 + x2) ((qup (qup (qup (qup M3 216 (66 + ((16 * v1) + (M3 216 (60 + v1)))) x2) 216 (162 + ((16 * v1) + (M3 216 (60 + v1)))) x3) 216 (54 + v1) (((qup (qup M3 216 (66 + ((16 * v1) + (M3 216 (60 + v1)))) x2) 216 (162 + ((16 * v1) + (M3 216 (60 + v1)))) x3) 216 (54 + v1)) - x3)) 216 (60 + v1) (((qup (qup (qup M3 216 (66 + ((16 * v1) + (M3 216 (60 + v1)))) x2) 216 (162 + ((16 * v1) + (M3 216 (60 + v1)))) x3) 216 (54 + v1) (((qup (qup M3 216 (66 + ((16 * v1) + (M3 216 (60 + v1)))) x2) 216 (162 + ((16 * v1) + (M3 216 (60 + v1)))) x3) 216 (54 + v1)) - x3)) 216 (60 + v1)) + 1)) 216 (294 + x2))) 216 (294 + x2) v1))))) ∧ (¬ (qup (qup (qup (qup M3 216 (66 + ((16 * v1) + (M3 216 (60 + v1)))) x2) 216 (162 + ((16 * v1) + (M3 216 (60 + v1)))) x3) 216 (54 + v1) (((qup (qup M3 216 (66 + ((16 * v1) + (M3 216 (60 + v1)))) x2) 216 (162 + ((16 * v1) + (M3 216 (60 + v1)))) x3) 216 (54 + v1)) - x3)) 216 (60 + v1) (((qup (qup (qup M3 216 (66 + ((16 * v1) + (M3 216 (60 + v1)))) x2) 216 (162 + ((16 * v1) + (M3 216 (60 + v1)))) x3) 216 (54 + v1) (((qup (qup M3 216 (66 + ((16 * v1) + (M3 216 (60 + v1)))) x2) 216 (162 + ((16 * v1) + (M3 216 (60 + v1)))) x3) 216 (54 + v1)) - x3)) 216 (60 + v1)) + 1)) 216 (294 + x2) = (-1) → in32 ((qup (qup (qup (qup M3 216 (66 + ((16 * v1) + (M3 216 (60 + v1)))) x2) 216 (162 + ((16 * v1) + (M3 216 (60 + v1)))) x3) 216 (54 + v1) (((qup (qup M3 216 (66 + ((16 * v1) + (M3 216 (60 + v1)))) x2) 216 (162 + ((16 * v1) + (M3 216 (60 + v1)))) x3) 216 (54 + v1)) - x3)) 216 (60 + v1) (((qup (qup (qup M3 216 (66 + ((16 * v1) + (M3 216 (60 + v1)))) x2) 216 (162 + ((16 * v1) + (M3 216 (60 + v1)))) x3) 216 (54 + v1) (((qup (qup M3 216 (66 + ((16 * v1) + (M3 216 (60 + v1)))) x2) 216 (162 + ((16 * v1) + (M3 216 (60 + v1)))) x3) 216 (54 + v1)) - x3)) 216 (60 + v1)) + 1)) 216 (294 + x2)) ∧ ((0 : Int) ≤ 258 + x2 ∧ (258 + x2 < 13125 ∧ (post 0 (qup (qup (qup (qup (qup M3 216 (66 + ((16 * v1) + (M3 216 (60 + v1)))) x2) 216 (162 + ((16 * v1) + (M3 216 (60 + v1)))) x3) 216 (54 + v1) (((qup (qup M3 216 (66 + ((16 * v1) + (M3 216 (60 + v1)))) x2) 216 (162 + ((16 * v1) + (M3 216 (60 + v1)))) x3) 216 (54 + v1)) - x3)) 216 (60 + v1) (((qup (qup (qup M3 216 (66 + ((16 * v1) + (M3 216 (60 + v1)))) x2) 216 (162 + ((16 * v1) + (M3 216 (60 + v1)))) x3) 216 (54 + v1) (((qup (qup M3 216 (66 + ((16 * v1) + (M3 216 (60 + v1)))) x2) 216 (162 + ((16 * v1) + (M3 216 (60 + v1)))) x3) 216 (54 + v1)) - x3)) 216 (60 + v1)) + 1)) 216 (258 + x2) v1))))))))) ∧ (¬ v3 = 0 → in32 v3 ∧ ((0 : Int) ≤ 294 + x2 ∧ (294 + x2 < 13125 ∧ ((0 : Int) ≤ 258 + x2 ∧ (258 + x2 < 13125 ∧ (post 0 (qup (qup (qup (qup (qup (qup M3 216 (66 + ((16 * v1) + (M3 216 (60 + v1)))) x2) 216 (162 + ((16 * v1) + (M3 216 (60 + v1)))) x3) 216 (54 + v1) (((qup (qup M3 216 (66 + ((16 * v1) + (M3 216 (60 + v1)))) x2) 216 (162 + ((16 * v1) + (M3 216 (60 + v1)))) x3) 216 (54 + v1)) - x3)) 216 (60 + v1) (((qup (qup (qup M3 216 (66 + ((16 * v1) + (M3 216 (60 + v1)))) x2) 216 (162 + ((16 * v1) + (M3 216 (60 + v1)))) x3) 216 (54 + v1) (((qup (qup M3 216 (66 + ((16 * v1) + (M3 216 (60 + v1)))) x2) 216 (162 + ((16 * v1) + (M3 216 (60 + v1)))) x3) 216 (54 + v1)) - x3)) 216 (60 + v1)) + 1)) 216 (258 + x2) ((qup (qup (qup (qup M3 216 (66 + ((16 * v1) + (M3 216 (60 + v1)))) x2) 216 (162 + ((16 * v1) + (M3 216 (60 + v1)))) x3) 216 (54 + v1) (((qup (qup M3 216 (66 + ((16 * v1) + (M3 216 (60 + v1)))) x2) 216 (162 + ((16 * v1) + (M3 216 (60 + v1)))) x3) 216 (54 + v1)) - x3)) 216 (60 + v1) (((qup (qup (qup M3 216 (66 + ((16 * v1) + (M3 216 (60 + v1)))) x2) 216 (162 + ((16 * v1) + (M3 216 (60 + v1)))) x3) 216 (54 + v1) (((qup (qup M3 216 (66 + ((16 * v1) + (M3 216 (60 + v1)))) x2) 216 (162 + ((16 * v1) + (M3 216 (60 + v1)))) x3) 216 (54 + v1)) - x3)) 216 (60 + v1)) + 1)) 216 (294 + x2))) 216 (294 + x2) v1))))))))))))))))))) : QRm X x (d + 1) qmX11_lays post 0 [(0, (2, 215)), (1, (0, v1)), (2, (0, v2)), (3, (0, v3))] [] M := qwp_ok qmX11_lays_ok.1 [] 97 (⟨rfl, QC.mono t (fun x1 h1 u1 => by obtain ⟨M1, rfl, u1⟩ := u1; exact ⟨rfl, QC.mono u1 (fun x2 h2 u2 => by obtain ⟨M2, rfl, u2⟩ := u2; exact ⟨rfl, QC.mono u2 (fun x3 h3 u3 => by obtain ⟨M3, rfl, u3⟩ := u3; exact ⟨rfl, ⟨rfl, ⟨u3.1, ⟨u3.2.1, ⟨rfl, ⟨rfl, ⟨u3.2.2.1, ⟨u3.2.2.2.1, ⟨rfl, ⟨rfl, ⟨u3.2.2.2.2.1, ⟨u3.2.2.2.2.2.1, ⟨rfl, ⟨rfl, ⟨u3.2.2.2.2.2.2.1, ⟨u3.2.2.2.2.2.2.2.1, ⟨rfl, ⟨u3.2.2.2.2.2.2.1, ⟨u3.2.2.2.2.2.2.2.1, ⟨rfl, ⟨rfl, ⟨u3.1, ⟨u3.2.1, ⟨rfl, ⟨u3.1, ⟨u3.2.1, ⟨fun z4 => ⟨(u3.2.2.2.2.2.2.2.2.2 z4).1, (show in32 0 from ⟨by decide, by decide⟩), ⟨rfl, ⟨rfl, ⟨rfl, ⟨(u3.2.2.2.2.2.2.2.2.2 z4).2.1, ⟨(u3.2.2.2.2.2.2.2.2.2 z4).2.2.1, ⟨rfl, ⟨(u3.2.2.2.2.2.2.2.2.2 z4).2.2.2.1, ⟨(u3.2.2.2.2.2.2.2.2.2 z4).2.2.2.2.1, ⟨rfl, ⟨rfl, ⟨(u3.2.2.2.2.2.2.2.2.2 z4).2.1, ⟨(u3.2.2.2.2.2.2.2.2.2 z4).2.2.1, ⟨_, rfl, (u3.2.2.2.2.2.2.2.2.2 z4).2.2.2.2.2⟩⟩⟩⟩⟩⟩⟩⟩⟩⟩⟩⟩⟩⟩, fun z4 => ⟨rfl, ⟨rfl, ⟨(u3.2.2.2.2.2.2.2.2.1 z4).1, ⟨(u3.2.2.2.2.2.2.2.2.1 z4).2.1, ⟨fun z5 => ⟨((u3.2.2.2.2.2.2.2.2.1 z4).2.2.2 z5).1, (show in32 (-1) from ⟨by decide, by decide⟩), ⟨rfl, ⟨rfl, ⟨((u3.2.2.2.2.2.2.2.2.1 z4).2.2.2 z5).2.1, ⟨((u3.2.2.2.2.2.2.2.2.1 z4).2.2.2 z5).2.2.1, ⟨_, rfl, ((u3.2.2.2.2.2.2.2.2.1 z4).2.2.2 z5).2.2.2⟩⟩⟩⟩⟩⟩, fun z5 => ⟨rfl, ⟨rfl, ⟨rfl, ⟨(u3.2.2.2.2.2.2.2.2.1 z4).1, ⟨(u3.2.2.2.2.2.2.2.2.1 z4).2.1, ⟨rfl, ⟨((u3.2.2.2.2.2.2.2.2.1 z4).2.2.1 z5).1, ⟨((u3.2.2.2.2.2.2.2.2.1 z4).2.2.1 z5).2.1, ⟨rfl, ⟨rfl, ⟨(u3.2.2.2.2.2.2.2.2.1 z4).1, ⟨(u3.2.2.2.2.2.2.2.2.1 z4).2.1, ⟨_, rfl, ((u3.2.2.2.2.2.2.2.2.1 z4).2.2.1 z5).2.2⟩⟩⟩⟩⟩⟩⟩⟩⟩⟩⟩⟩⟩⟩⟩⟩⟩⟩⟩⟩⟩⟩⟩⟩⟩⟩⟩⟩⟩⟩⟩⟩⟩⟩⟩⟩⟩⟩⟩⟩⟩⟩⟩⟩⟩)⟩)⟩)⟩)
theorem TX11_takesOff_0 {X : QX} {x : Int} {d : Nat} {post : Int → QMem → Prop} {M : QMem} {v1 : Int} (t : (0 : Int) ≤ 60 + v1 ∧ (60 + v1 < 13125 ∧ ((0 : Int) ≤ 66 + ((16 * v1) + ((qup M 216 (60 + v1) ((M 216 (60 + v1)) - 1)) 216 (60 + v1))) ∧ (66 + ((16 * v1) + ((qup M 216 (60 + v1) ((M 216 (60 + v1)) - 1)) 216 (60 + v1))) < 13125 ∧ ((0 : Int) ≤ 54 + v1 ∧ (54 + v1 < 13125 ∧ ((0 : Int) ≤ 162 + ((16 * v1) + ((qup M 216 (60 + v1) ((M 216 (60 + v1)) - 1)) 216 (60 + v1))) ∧ (162 + ((16 * v1) + ((qup M 216 (60 + v1) ((M 216 (60 + v1)) - 1)) 216 (60 + v1))) < 13125 ∧ ((0 : Int) ≤ 294 + ((qup M 216 (60 + v1) ((M 216 (60 + v1)) - 1)) 216 (66 + ((16 * v1) + ((qup M 216 (60 + v1) ((M 216 (60 + v1)) - 1)) 216 (60 + v1))))) ∧ (294 + ((qup M 216 (60 + v1) ((M 216 (60 + v1)) - 1)) 216 (66 + ((16 * v1) + ((qup M 216 (60 + v1) ((M 216 (60 + v1)) - 1)) 216 (60 + v1))))) < 13125 ∧ (((qup (qup M 216 (60 + v1) ((M 216 (60 + v1)) - 1)) 216 (54 + v1) (((qup M 216 (60 + v1) ((M 216 (60 + v1)) - 1)) 216 (54 + v1)) + ((qup M 216 (60 + v1) ((M 216 (60 + v1)) - 1)) 216 (162 + ((16 * v1) + ((qup M 216 (60 + v1) ((M 216 (60 + v1)) - 1)) 216 (60 + v1))))))) 216 (294 + ((qup M 216 (60 + v1) ((M 216 (60 + v1)) - 1)) 216 (66 + ((16 * v1) + ((qup M 216 (60 + v1) ((M 216 (60 + v1)) - 1)) 216 (60 + v1)))))) = v1 → ((0 : Int) ≤ 258 + ((qup M 216 (60 + v1) ((M 216 (60 + v1)) - 1)) 216 (66 + ((16 * v1) + ((qup M 216 (60 + v1) ((M 216 (60 + v1)) - 1)) 216 (60 + v1))))) ∧ (258 + ((qup M 216 (60 + v1) ((M 216 (60 + v1)) - 1)) 216 (66 + ((16 * v1) + ((qup M 216 (60 + v1) ((M 216 (60 + v1)) - 1)) 216 (60 + v1))))) < 13125 ∧ (post 0 (qup (qup (qup (qup (qup (qup M 216 (60 + v1) ((M 216 (60 + v1)) - 1)) 216 (54 + v1) (((qup M 216 (60 + v1) ((M 216 (60 + v1)) - 1)) 216 (54 + v1)) + ((qup M 216 (60 + v1) ((M 216 (60 + v1)) - 1)) 216 (162 + ((16 * v1) + ((qup M 216 (60 + v1) ((M 216 (60 + v1)) - 1)) 216 (60 + v1))))))) 216 (294 + ((qup M 216 (60 + v1) ((M 216 (60 + v1)) - 1)) 216 (66 + ((16 * v1) + ((qup M 216 (60 + v1) ((M 216 (60 + v1)) - 1)) 216 (60 + v1)))))) ((qup (qup M 216 (60 + v1) ((M 216 (60 + v1)) - 1)) 216 (54 + v1) (((qup M 216 (60 + v1) ((M 216 (60 + v1)) - 1)) 216 (54 + v1)) + ((qup M 216 (60 + v1) ((M 216 (60 + v1)) - 1)) 216 (162 + ((16 * v1) + ((qup M 216 (60 + v1) ((M 216 (60 + v1)) - 1)) 216 (60 + v1))))))) 216 (258 + ((qup M 216 (60 + v1) ((M 216 (60 + v1)) - 1)) 216 (66 + ((16 * v1) + ((qup M 216 (60 + v1) ((M 216 (60 + v1)) - 1)) 216 (60 + v1)))))))) 216 (258 + ((qup M 216 (60 + v1) ((M 216 (60 + v1)) - 1)) 216 (66 + ((16 * v1) + ((qup M 216 (60 + v1) ((M 216 (60 + v1)) - 1)) 216 (60 + v1)))))) (-1)) 216 (66 + ((16 * v1) + ((qup M 216 (60 + v1) ((M 216 (60 + v1)) - 1)) 216 (60 + v1)))) 0) 216 (162 + ((16 * v1) + ((qup M 216 (60 + v1) ((M 216 (60 + v1)) - 1)) 216 (60 + v1)))) 0))))) ∧ (¬ (qup (qup M 216 (60 + v1) ((M 216 (60 + v1)) - 1)) 216 (54 + v1) (((qup M 216 (60 + v1) ((M 216 (60 + v1)) - 1)) 216 (54 + v1)) + ((qup M 216 (60 + v1) ((M 216 (60 + v1)) - 1)) 216 (162 + ((16 * v1) + ((qup M 216 (60 + v1) ((M 216 (60 + v1)) - 1)) 216 (60 + v1))))))) 216 (294 + ((qup M 216 (60 + v1) ((M 216 (60 + v1)) - 1)) 216 (66 + ((16 * v1) + ((qup M 216 (60 + v1) ((M 216 (60 + v1)) - 1)) 216 (60 + v1)))))) = v1 → in32 ((qup (qup M 216 (60 + v1) ((M 216 (60 + v1)) - 1)) 216 (54 + v1) (((qup M 216 (60 + v1) ((M 216 (60 + v1)) - 1)) 216 (54 + v1)) + ((qup M 216 (60 + v1) ((M 216 (60 + v1)) - 1)) 216 (162 + ((16 * v1) + ((qup M 216 (60 + v1) ((M 216 (60 + v1)) - 1)) 216 (60 + v1))))))) 216 (294 + ((qup M 216 (60 + v1) ((M 216 (60 + v1)) - 1)) 216 (66 + ((16 * v1) + ((qup M 216 (60 + v1) ((M 216 (60 + v1)) - 1)) 216 (60 + v1))))))) ∧ in32 v1 ∧ ((0 : Int) ≤ 258 + ((qup M 216 (60 + v1) ((M 216 (60 + v1)) - 1)) 216 (66 + ((16 * v1) + ((qup M 216 (60 + v1) ((M 216 (60 + v1)) - 1)) 216 (60 + v1))))) ∧ (258 + ((qup M 216 (60 + v1) ((M 216 (60 + v1)) - 1)) 216 (66 + ((16 * v1) + ((qup M 216 (60 + v1) ((M 216 (60 + v1)) - 1)) 216 (60 + v1))))) < 13125 ∧ (post 0 (qup (qup (qup (qup (qup M 216 (60 + v1) ((M 216 (60 + v1)) - 1)) 216 (54 + v1) (((qup M 216 (60 + v1) ((M 216 (60 + v1)) - 1)) 216 (54 + v1)) + ((qup M 216 (60 + v1) ((M 216 (60 + v1)) - 1)) 216 (162 + ((16 * v1) + ((qup M 216 (60 + v1) ((M 216 (60 + v1)) - 1)) 216 (60 + v1))))))) 216 (258 + ((qup M 216 (60 + v1) ((M 216 (60 + v1)) - 1)) 216 (66 + ((16 * v1) + ((qup M 216 (60 + v1) ((M 216 (60 + v1)) - 1)) 216 (60 + v1)))))) (-1)) 216 (66 + ((16 * v1) + ((qup M 216 (60 + v1) ((M 216 (60 + v1)) - 1)) 216 (60 + v1)))) 0) 216 (162 + ((16 * v1) + ((qup M 216 (60 + v1) ((M 216 (60 + v1)) - 1)) 216 (60 + v1)))) 0)))))))))))))))) : QRm X x d qmX11_takesOff post 0 [(0, (2, 215)), (1, (0, v1))] [] M := qwp_ok qmX11_takesOff_ok.1 [] 87 (⟨rfl, ⟨rfl, ⟨t.1, ⟨t.2.1, ⟨rfl, ⟨t.1, ⟨t.2.1, ⟨rfl, ⟨rfl, ⟨t.1, ⟨t.2.1, ⟨rfl, ⟨rfl, ⟨t.2.2.1, ⟨t.2.2.2.1, ⟨rfl, ⟨rfl, ⟨t.2.2.2.2.1, ⟨t.2.2.2.2.2.1, ⟨rfl, ⟨rfl, ⟨t.2.2.2.2.2.2.1, ⟨t.2.2.2.2.2.2.2.1, ⟨rfl, ⟨t.2.2.2.2.1, ⟨t.2.2.2.2.2.1, ⟨rfl, ⟨rfl, ⟨t.2.2.2.2.2.2.2.2.1, ⟨t.2.2.2.2.2.2.2.2.2.1, ⟨fun z1 => ⟨(t.2.2.2.2.2.2.2.2.2.2.2 z1).1, (t.2.2.2.2.2.2.2.2.2.2.2 z1).2.1, ⟨rfl, ⟨rfl, ⟨(t.2.2.2.2.2.2.2.2.2.2.2 z1).2.2.1, ⟨(t.2.2.2.2.2.2.2.2.2.2.2 z1).2.2.2.1, ⟨rfl, ⟨rfl, ⟨t.2.2.1, ⟨t.2.2.2.1, ⟨rfl, ⟨rfl, ⟨t.2.2.2.2.2.2.1, ⟨t.2.2.2.2.2.2.2.1, ⟨_, rfl, (t.2.2.2.2.2.2.2.2.2.2.2 z1).2.2.2.2⟩⟩⟩⟩⟩⟩⟩⟩⟩⟩⟩⟩⟩⟩, fun z1 => ⟨rfl, ⟨rfl, ⟨rfl, ⟨(t.2.2.2.2.2.2.2.2.2.2.1 z1).1, ⟨(t.2.2.2.2.2.2.2.2.2.2.1 z1).2.1, ⟨rfl, ⟨t.2.2.2.2.2.2.2.2.1, ⟨t.2.2.2.2.2.2.2.2.2.1, ⟨rfl, ⟨rfl, ⟨(t.2.2.2.2.2.2.2.2.2.2.1 z1).1, ⟨(t.2.2.2.2.2.2.2.2.2.2.1 z1).2.1, ⟨rfl, ⟨rfl, ⟨t.2.2.1, ⟨t.2.2.2.1, ⟨rfl, ⟨rfl, ⟨t.2.2.2.2.2.2.1, ⟨t.2.2.2.2.2.2.2.1, ⟨_, rfl, (t.2.2.2.2.2.2.2.2.2.2.1 z1).2.2⟩⟩⟩⟩⟩⟩⟩⟩⟩⟩⟩⟩⟩⟩⟩⟩⟩⟩⟩⟩⟩⟩⟩⟩⟩⟩⟩⟩⟩⟩⟩⟩⟩⟩⟩⟩⟩⟩⟩⟩⟩⟩⟩⟩⟩⟩⟩⟩⟩⟩⟩⟩)
theorem TX11_whyBack_0 {X : QX} {x : Int} {d : Nat} {post : Int → QMem → Prop} {M : QMem} {v1 : Int} (t : QCm X x d 1 yX11_isDrum [(2, 215), (1, v1)] M (fun x1 M1 => (x1 = 0 → (post 1 M1)) ∧ (¬ x1 = 0 → in32 x1 ∧ ((0 : Int) ≤ 60 + (ql2i v1) ∧ (60 + (ql2i v1) < 13125 ∧ ((M1 216 (60 + (ql2i v1)) = 0 → (post 2 M1)) ∧ (¬ M1 216 (60 + (ql2i v1)) = 0 → in32 (M1 216 (60 + (ql2i v1))) ∧ (QCm X x d 1 yX11_endOf [(2, 215), (0, ql2i v1)] M1 (fun x2 M2 => (0 : Int) ≤ 294 + x2 ∧ (294 + x2 < 13125 ∧ ((M2 216 (294 + x2) = ql2i v1 → (QCm X x d 1 yX11_goerOn [(2, 215), (0, x2)] M2 (fun x3 M3 => (x3 = (-1) → (post 0 M3)) ∧ (¬ x3 = (-1) → in32 x3 ∧ ((0 : Int) ≤ 331 + x3 ∧ (331 + x3 < 13125 ∧ ((M3 216 (331 + x3) = ql2i v1 → (post 4 M3)) ∧ (¬ M3 216 (331 + x3) = ql2i v1 → in32 (M3 216 (331 + x3)) ∧ in32 (ql2i v1) ∧ (post 0 M3))))))))) ∧ (¬ M2 216 (294 + x2) = ql2i v1 → in32 (M2 216 (294 + x2)) ∧ in32 (ql2i v1) ∧ (post 3 M2))))))))))))) : QRm X x (d + 1) qmX11_whyBack post 0 [(0, (2, 215)), (1, (1, v1))] [] M := qwp_ok qmX11_whyBack_ok.1 [] 53 (⟨rfl, QC.mono t (fun x1 h1 u1 => by obtain ⟨M1, rfl, u1⟩ := u1; exact ⟨fun z2 => ⟨(u1.2 z2).1, (show in32 0 from ⟨by decide, by decide⟩), ⟨rfl, ⟨rfl, ⟨(u1.2 z2).2.1, ⟨(u1.2 z2).2.2.1, ⟨fun z3 => ⟨((u1.2 z2).2.2.2.2 z3).1, (show in32 0 from ⟨by decide, by decide⟩), ⟨rfl, QC.mono (((u1.2 z2).2.2.2.2 z3).2) (fun x2 h2 u4 => by obtain ⟨M2, rfl, u4⟩ := u4; exact ⟨rfl, ⟨rfl, ⟨u4.1, ⟨u4.2.1, ⟨fun z5 => ⟨rfl, QC.mono (u4.2.2.1 z5) (fun x3 h3 u6 => by obtain ⟨M3, rfl, u6⟩ := u6; exact ⟨fun z7 => ⟨_, rfl, (u6.1 z7)⟩, fun z7 => ⟨(u6.2 z7).1, (show in32 (-1) from ⟨by decide, by decide⟩), ⟨rfl, ⟨rfl, ⟨(u6.2 z7).2.1, ⟨(u6.2 z7).2.2.1, ⟨fun z8 => ⟨((u6.2 z7).2.2.2.2 z8).1, ((u6.2 z7).2.2.2.2 z8).2.1, ⟨_, rfl, ((u6.2 z7).2.2.2.2 z8).2.2⟩⟩, fun z8 => ⟨_, rfl, ((u6.2 z7).2.2.2.1 z8)⟩⟩⟩⟩⟩⟩⟩⟩)⟩, fun z5 => ⟨(u4.2.2.2 z5).1, (u4.2.2.2 z5).2.1, ⟨_, rfl, (u4.2.2.2 z5).2.2⟩⟩⟩⟩⟩⟩⟩)⟩⟩, fun z3 => ⟨_, rfl, ((u1.2 z2).2.2.2.1 z3)⟩⟩⟩⟩⟩⟩⟩, fun z2 => ⟨_, rfl, (u1.1 z2)⟩⟩)⟩)
theorem TX11_whyIn_0 {X : QX} {x : Int} {d : Nat} {post : Int → QMem → Prop} {M : QMem} {v1 : Int} (t : QCm X x d 1 yX11_isDrum [(2, 215), (1, v1)] M (fun x1 M1 => (x1 = 0 → (post 1 M1)) ∧ (¬ x1 = 0 → in32 x1 ∧ ((0 : Int) ≤ 60 + (ql2i v1) ∧ (60 + (ql2i v1) < 13125 ∧ ((M1 216 (60 + (ql2i v1)) = 0 → (post 2 M1)) ∧ (¬ M1 216 (60 + (ql2i v1)) = 0 → in32 (M1 216 (60 + (ql2i v1))) ∧ (QRm X x (d + 1) qmX11_whyIn post 30 [(0, (2, 215)), (3, (0, ql2i v1)), (4, (0, 0))] [] M1)))))))) : QRm X x (d + 1) qmX11_whyIn post 0 [(0, (2, 215)), (1, (1, v1))] [] M := qwp_ok qmX11_whyIn_ok.1 [(30, [0, 3, 4]), (83, [0, 3, 4])] 80 (⟨rfl, QC.mono t (fun x1 h1 u1 => by obtain ⟨M1, rfl, u1⟩ := u1; exact ⟨fun z2 => ⟨(u1.2 z2).1, (show in32 0 from ⟨by decide, by decide⟩), ⟨rfl, ⟨rfl, ⟨(u1.2 z2).2.1, ⟨(u1.2 z2).2.2.1, ⟨fun z3 => ⟨((u1.2 z2).2.2.2.2 z3).1, (show in32 0 from ⟨by decide, by decide⟩), ((u1.2 z2).2.2.2.2 z3).2⟩, fun z3 => ⟨_, rfl, ((u1.2 z2).2.2.2.1 z3)⟩⟩⟩⟩⟩⟩⟩, fun z2 => ⟨_, rfl, (u1.1 z2)⟩⟩)⟩)
theorem TX11_whyIn_30 {X : QX} {x : Int} {d : Nat} {post : Int → QMem → Prop} {M : QMem} {v3 v4 : Int} (t : (0 : Int) ≤ 60 + v3 ∧ (60 + v3 < 13125 ∧ (in32 v4 ∧ in32 (M 216 (60 + v3)) ∧ (M 216 (60 + v3) ≤ v4 → (QRm X x (d + 1) qmX11_whyIn post 83 [(0, (2, 215)), (3, (0, v3)), (4, (0, 0))] [] M)) ∧ (¬ M 216 (60 + v3) ≤ v4 → ((0 : Int) ≤ (66 + (16 * v3)) + v4 ∧ ((66 + (16 * v3)) + v4 < 13125 ∧ ((0 : Int) ≤ 294 + (M 216 ((66 + (16 * v3)) + v4)) ∧ (294 + (M 216 ((66 + (16 * v3)) + v4)) < 13125 ∧ ((M 216 (294 + (M 216 ((66 + (16 * v3)) + v4))) = v3 → (QRm X x (d + 1) qmX11_whyIn post 30 [(0, (2, 215)), (3, (0, v3)), (4, (0, v4 + 1))] [] M)) ∧ (¬ M 216 (294 + (M 216 ((66 + (16 * v3)) + v4))) = v3 → in32 (M 216 (294 + (M 216 ((66 + (16 * v3)) + v4)))) ∧ in32 v3 ∧ (post 3 M))))))))))) : QRm X x (d + 1) qmX11_whyIn post 30 [(0, (2, 215)), (3, (0, v3)), (4, (0, v4))] [] M := qwp_ok qmX11_whyIn_ok.1 [(30, [0, 3, 4]), (83, [0, 3, 4])] 80 (⟨rfl, ⟨rfl, ⟨t.1, ⟨t.2.1, ⟨t.2.2.1, t.2.2.2.1, fun z1 => (t.2.2.2.2.1 z1), fun z1 => ⟨rfl, ⟨rfl, ⟨rfl, ⟨(t.2.2.2.2.2 z1).1, ⟨(t.2.2.2.2.2 z1).2.1, ⟨rfl, ⟨(t.2.2.2.2.2 z1).2.2.1, ⟨(t.2.2.2.2.2 z1).2.2.2.1, ⟨fun z2 => ((t.2.2.2.2.2 z1).2.2.2.2.1 z2), fun z2 => ⟨((t.2.2.2.2.2 z1).2.2.2.2.2 z2).1, ((t.2.2.2.2.2 z1).2.2.2.2.2 z2).2.1, ⟨_, rfl, ((t.2.2.2.2.2 z1).2.2.2.2.2 z2).2.2⟩⟩⟩⟩⟩⟩⟩⟩⟩⟩⟩⟩⟩⟩⟩⟩)
theorem TX11_whyIn_83 {X : QX} {x : Int} {d : Nat} {post : Int → QMem → Prop} {M : QMem} {v3 v4 : Int} (t : in32 v4 ∧ in32 (M 216 330) ∧ (M 216 330 ≤ v4 → (post 0 M)) ∧ (¬ M 216 330 ≤ v4 → ((0 : Int) ≤ 331 + v4 ∧ (331 + v4 < 13125 ∧ ((M 216 (331 + v4) = v3 → ((0 : Int) ≤ 347 + v4 ∧ (347 + v4 < 13125 ∧ ((M 216 (347 + v4) = 0 → (post 4 M)) ∧ (¬ M 216 (347 + v4) = 0 → in32 (M 216 (347 + v4)) ∧ (QRm X x (d + 1) qmX11_whyIn post 83 [(0, (2, 215)), (3, (0, v3)), (4, (0, v4 + 1))] [] M)))))) ∧ (¬ M 216 (331 + v4) = v3 → in32 (M 216 (331 + v4)) ∧ in32 v3 ∧ (QRm X x (d + 1) qmX11_whyIn post 83 [(0, (2, 215)), (3, (0, v3)), (4, (0, v4 + 1))] [] M))))))) : QRm X x (d + 1) qmX11_whyIn post 83 [(0, (2, 215)), (3, (0, v3)), (4, (0, v4))] [] M := qwp_ok qmX11_whyIn_ok.1 [(30, [0, 3, 4]), (83, [0, 3, 4])] 80 (⟨rfl, ⟨rfl, ⟨(show (0 : Int) ≤ 330 by decide), ⟨(show (330 : Int) < 13125 by decide), ⟨t.1, t.2.1, fun z1 => ⟨_, rfl, (t.2.2.1 z1)⟩, fun z1 => ⟨rfl, ⟨rfl, ⟨(t.2.2.2 z1).1, ⟨(t.2.2.2 z1).2.1, ⟨fun z2 => ⟨((t.2.2.2 z1).2.2.2 z2).1, ((t.2.2.2 z1).2.2.2 z2).2.1, ((t.2.2.2 z1).2.2.2 z2).2.2⟩, fun z2 => ⟨rfl, ⟨rfl, ⟨((t.2.2.2 z1).2.2.1 z2).1, ⟨((t.2.2.2 z1).2.2.1 z2).2.1, ⟨fun z3 => ⟨(((t.2.2.2 z1).2.2.1 z2).2.2.2 z3).1, (show in32 0 from ⟨by decide, by decide⟩), (((t.2.2.2 z1).2.2.1 z2).2.2.2 z3).2⟩, fun z3 => ⟨_, rfl, (((t.2.2.2 z1).2.2.1 z2).2.2.1 z3)⟩⟩⟩⟩⟩⟩⟩⟩⟩⟩⟩⟩⟩⟩⟩⟩)
theorem TX11_whyOut_0 {X : QX} {x : Int} {d : Nat} {post : Int → QMem → Prop} {M : QMem} {v1 : Int} (t : QCm X x d 1 yX11_isDrum [(2, 215), (1, v1)] M (fun x1 M1 => (x1 = 0 → (post 1 M1)) ∧ (¬ x1 = 0 → in32 x1 ∧ ((0 : Int) ≤ 60 + (ql2i v1) ∧ (60 + (ql2i v1) < 13125 ∧ ((M1 216 (60 + (ql2i v1)) = 0 → (post 2 M1)) ∧ (¬ M1 216 (60 + (ql2i v1)) = 0 → in32 (M1 216 (60 + (ql2i v1))) ∧ ((M1 216 330 = 8 → (post 3 M1)) ∧ (¬ M1 216 330 = 8 → in32 (M1 216 330) ∧ (post 0 M1)))))))))) : QRm X x (d + 1) qmX11_whyOut post 0 [(0, (2, 215)), (1, (1, v1))] [] M := qwp_ok qmX11_whyOut_ok.1 [] 28 (⟨rfl, QC.mono t (fun x1 h1 u1 => by obtain ⟨M1, rfl, u1⟩ := u1; exact ⟨fun z2 => ⟨(u1.2 z2).1, (show in32 0 from ⟨by decide, by decide⟩), ⟨rfl, ⟨rfl, ⟨(u1.2 z2).2.1, ⟨(u1.2 z2).2.2.1, ⟨fun z3 => ⟨((u1.2 z2).2.2.2.2 z3).1, (show in32 0 from ⟨by decide, by decide⟩), ⟨rfl, ⟨rfl, ⟨(show (0 : Int) ≤ 330 by decide), ⟨(show (330 : Int) < 13125 by decide), ⟨fun z4 => ⟨(((u1.2 z2).2.2.2.2 z3).2.2 z4).1, (show in32 8 from ⟨by decide, by decide⟩), ⟨_, rfl, (((u1.2 z2).2.2.2.2 z3).2.2 z4).2⟩⟩, fun z4 => ⟨_, rfl, (((u1.2 z2).2.2.2.2 z3).2.1 z4)⟩⟩⟩⟩⟩⟩⟩, fun z3 => ⟨_, rfl, ((u1.2 z2).2.2.2.1 z3)⟩⟩⟩⟩⟩⟩⟩, fun z2 => ⟨_, rfl, (u1.1 z2)⟩⟩)⟩)
theorem TX11_setsOut_0 {X : QX} {x : Int} {d : Nat} {post : Int → QMem → Prop} {M : QMem} {v1 : Int} (t : (0 : Int) ≤ 331 + (M 216 330) ∧ (331 + (M 216 330) < 13125 ∧ ((0 : Int) ≤ 339 + (M 216 330) ∧ (339 + (M 216 330) < 13125 ∧ ((0 : Int) ≤ 347 + (M 216 330) ∧ (347 + (M 216 330) < 13125 ∧ ((0 : Int) ≤ 355 + (M 216 330) ∧ (355 + (M 216 330) < 13125 ∧ (post 0 (qup (qup (qup (qup (qup M 216 330 ((M 216 330) + 1)) 216 (331 + (M 216 330)) v1) 216 (339 + (M 216 330)) (-1)) 216 (347 + (M 216 330)) 0) 216 (355 + (M 216 330)) 0)))))))))) : QRm X x d qmX11_setsOut post 0 [(0, (2, 215)), (1, (0, v1))] [] M := qwp_ok qmX11_setsOut_ok.1 [] 44 (⟨rfl, ⟨rfl, ⟨(show (0 : Int) ≤ 330 by decide), ⟨(show (330 : Int) < 13125 by decide), ⟨rfl, ⟨rfl, ⟨(show (0 : Int) ≤ 330 by decide), ⟨(show (330 : Int) < 13125 by decide), ⟨rfl, ⟨(show (0 : Int) ≤ 330 by decide), ⟨(show (330 : Int) < 13125 by decide), ⟨rfl, ⟨rfl, ⟨t.1, ⟨t.2.1, ⟨rfl, ⟨rfl, ⟨t.2.2.1, ⟨t.2.2.2.1, ⟨rfl, ⟨rfl, ⟨t.2.2.2.2.1, ⟨t.2.2.2.2.2.1, ⟨rfl, ⟨rfl, ⟨t.2.2.2.2.2.2.1, ⟨t.2.2.2.2.2.2.2.1, ⟨_, rfl, t.2.2.2.2.2.2.2.2⟩⟩⟩⟩⟩⟩⟩⟩⟩⟩⟩⟩⟩⟩⟩⟩⟩⟩⟩⟩⟩⟩⟩⟩⟩⟩⟩⟩)
theorem TX11_takesAll_0 {X : QX} {x : Int} {d : Nat} {post : Int → QMem → Prop} {M : QMem} {v1 : Int} (t : (0 : Int) ≤ 60 + v1 ∧ (60 + v1 < 13125 ∧ (in32 (M 216 (60 + v1)) ∧ (M 216 (60 + v1) ≤ 0 → (post 0 M)) ∧ (¬ M 216 (60 + v1) ≤ 0 → (QCm X x d 0 yX11_takesOff [(2, 215), (0, v1)] M (fun _ M1 => QRm X x (d + 1) qmX11_takesAll post 0 [(0, (2, 215)), (1, (0, v1))] [] M1)))))) : QRm X x (d + 1) qmX11_takesAll post 0 [(0, (2, 215)), (1, (0, v1))] [] M := qwp_ok qmX11_takesAll_ok.1 [(0, [0, 1])] 14 (⟨rfl, ⟨rfl, ⟨t.1, ⟨t.2.1, ⟨t.2.2.1, (show in32 0 from ⟨by decide, by decide⟩), fun z1 => ⟨_, rfl, (t.2.2.2.1 z1)⟩, fun z1 => ⟨rfl, QC.mono (t.2.2.2.2 z1) (fun _ h1 u2 => by obtain ⟨M1, rfl, u2⟩ := u2; exact u2)⟩⟩⟩⟩⟩⟩)
theorem TX11_takesAll_0_1 {X : QX} {x : Int} {d : Nat} {post : Int → QMem → Prop} {M : QMem} {v1 : Int} (t : (0 : Int) ≤ 60 + v1 ∧ (60 + v1 < 13125 ∧ (in32 (M 216 (60 + v1)) ∧ (M 216 (60 + v1) ≤ 0 → (post 0 M)) ∧ (¬ M 216 (60 + v1) ≤ 0 → (QCm X x d 0 yX11_takesOff [(2, 215), (0, v1)] M (fun _ M1 => QRm X x (d + 1) qmX11_takesAll post 0 [(0, (2, 215)), (1, (0, v1))] [] M1)))))) : QRm X x (d + 1) qmX11_takesAll post 0 [(0, (2, 215)), (1, (0, v1))] [] M := qwp_ok qmX11_takesAll_ok.1 [(0, [0, 1])] 14 (⟨rfl, ⟨rfl, ⟨t.1, ⟨t.2.1, ⟨t.2.2.1, (show in32 0 from ⟨by decide, by decide⟩), fun z1 => ⟨_, rfl, (t.2.2.2.1 z1)⟩, fun z1 => ⟨rfl, QC.mono (t.2.2.2.2 z1) (fun _ h1 u2 => by obtain ⟨M1, rfl, u2⟩ := u2; exact u2)⟩⟩⟩⟩⟩⟩)
theorem TX11_why_0 {X : QX} {x : Int} {d : Nat} {post : Int → QMem → Prop} {M : QMem} {v1 v2 : Int} (t : in32 v1 ∧ (in32 v2 ∧ (QCm X x d 1 yX11_whyLay [(2, 215), (1, v1), (1, v2)] (qup M 215 0 0) (fun x1 M1 => post x1 M1)))) : QRm X x (d + 1) qmX11_why post 0 [(0, (2, 215)), (1, (0, v1)), (2, (0, v2))] [] M := qwp_ok qmX11_why_ok.1 [] 12 (⟨rfl, ⟨t.1, ⟨t.2.1, ⟨rfl, QC.mono t.2.2 (fun x1 h1 u1 => by obtain ⟨M1, rfl, u1⟩ := u1; exact ⟨_, rfl, u1⟩)⟩⟩⟩⟩)
theorem TX11_lay_0 {X : QX} {x : Int} {d : Nat} {post : Int → QMem → Prop} {M : QMem} {v1 v2 v3 : Int} (t : in32 v1 ∧ (in32 v2 ∧ (QCm X x d 1 yX11_whyLay [(2, 215), (1, v1), (1, v2)] (qup M 215 0 0) (fun x1 M1 => (x1 = 0 → (QCm X x d 0 yX11_keeps [(2, 215)] M1 (fun _ M2 => QCm X x d 0 yX11_lays [(2, 215), (0, v1), (0, v2), (0, v3)] M2 (fun _ M3 => QCm X x d 0 yX11_notes [(2, 215)] M3 (fun _ M4 => (0 : Int) ≤ 54 + v1 ∧ (54 + v1 < 13125 ∧ (post (M4 216 (54 + v1)) M4))))))) ∧ (¬ x1 = 0 → in32 x1 ∧ (post ((-10) - x1) M1)))))) : QRm X x (d + 1) qmX11_lay post 0 [(0, (2, 215)), (1, (0, v1)), (2, (0, v2)), (3, (0, v3))] [] M := qwp_ok qmX11_lay_ok.1 [] 34 (⟨rfl, ⟨t.1, ⟨t.2.1, ⟨rfl, QC.mono t.2.2 (fun x1 h1 u1 => by obtain ⟨M1, rfl, u1⟩ := u1; exact ⟨fun z2 => ⟨rfl, QC.mono (u1.1 z2) (fun _ h2 u3 => by obtain ⟨M2, rfl, u3⟩ := u3; exact ⟨rfl, QC.mono u3 (fun _ h3 u4 => by obtain ⟨M3, rfl, u4⟩ := u4; exact ⟨rfl, QC.mono u4 (fun _ h4 u5 => by obtain ⟨M4, rfl, u5⟩ := u5; exact ⟨rfl, ⟨rfl, ⟨u5.1, ⟨u5.2.1, ⟨_, rfl, u5.2.2⟩⟩⟩⟩⟩)⟩)⟩)⟩, fun z2 => ⟨(u1.2 z2).1, (show in32 0 from ⟨by decide, by decide⟩), ⟨_, rfl, (u1.2 z2).2⟩⟩⟩)⟩⟩⟩⟩)
theorem TX11_back_0 {X : QX} {x : Int} {d : Nat} {post : Int → QMem → Prop} {M : QMem} {v1 : Int} (t : in32 v1 ∧ (QCm X x d 1 yX11_whyBack [(2, 215), (1, v1)] (qup M 215 0 0) (fun x1 M1 => (x1 = 0 → (QCm X x d 0 yX11_keeps [(2, 215)] M1 (fun _ M2 => QCm X x d 0 yX11_takesOff [(2, 215), (0, v1)] M2 (fun _ M3 => QCm X x d 0 yX11_notes [(2, 215)] M3 (fun _ M4 => (0 : Int) ≤ 54 + v1 ∧ (54 + v1 < 13125 ∧ (post (M4 216 (54 + v1)) M4))))))) ∧ (¬ x1 = 0 → in32 x1 ∧ (post ((-10) - x1) M1))))) : QRm X x (d + 1) qmX11_back post 0 [(0, (2, 215)), (1, (0, v1))] [] M := qwp_ok qmX11_back_ok.1 [] 30 (⟨rfl, ⟨t.1, ⟨rfl, QC.mono t.2 (fun x1 h1 u1 => by obtain ⟨M1, rfl, u1⟩ := u1; exact ⟨fun z2 => ⟨rfl, QC.mono (u1.1 z2) (fun _ h2 u3 => by obtain ⟨M2, rfl, u3⟩ := u3; exact ⟨rfl, QC.mono u3 (fun _ h3 u4 => by obtain ⟨M3, rfl, u4⟩ := u4; exact ⟨rfl, QC.mono u4 (fun _ h4 u5 => by obtain ⟨M4, rfl, u5⟩ := u5; exact ⟨rfl, ⟨rfl, ⟨u5.1, ⟨u5.2.1, ⟨_, rfl, u5.2.2⟩⟩⟩⟩⟩)⟩)⟩)⟩, fun z2 => ⟨(u1.2 z2).1, (show in32 0 from ⟨by decide, by decide⟩), ⟨_, rfl, (u1.2 z2).2⟩⟩⟩)⟩⟩⟩)
theorem TX11_takeIn_0 {X : QX} {x : Int} {d : Nat} {post : Int → QMem → Prop} {M : QMem} {v1 : Int} (t : in32 v1 ∧ (QCm X x d 1 yX11_whyIn [(2, 215), (1, v1)] (qup M 215 0 0) (fun x1 M1 => (x1 = 0 → (QCm X x d 0 yX11_keeps [(2, 215)] M1 (fun _ M2 => QCm X x d 0 yX11_takesAll [(2, 215), (0, v1)] M2 (fun _ M3 => QCm X x d 0 yX11_notes [(2, 215)] M3 (fun _ M4 => (0 : Int) ≤ 54 + v1 ∧ (54 + v1 < 13125 ∧ (post (M4 216 (54 + v1)) M4))))))) ∧ (¬ x1 = 0 → in32 x1 ∧ (post ((-10) - x1) M1))))) : QRm X x (d + 1) qmX11_takeIn post 0 [(0, (2, 215)), (1, (0, v1))] [] M := qwp_ok qmX11_takeIn_ok.1 [] 30 (⟨rfl, ⟨t.1, ⟨rfl, QC.mono t.2 (fun x1 h1 u1 => by obtain ⟨M1, rfl, u1⟩ := u1; exact ⟨fun z2 => ⟨rfl, QC.mono (u1.1 z2) (fun _ h2 u3 => by obtain ⟨M2, rfl, u3⟩ := u3; exact ⟨rfl, QC.mono u3 (fun _ h3 u4 => by obtain ⟨M3, rfl, u4⟩ := u4; exact ⟨rfl, QC.mono u4 (fun _ h4 u5 => by obtain ⟨M4, rfl, u5⟩ := u5; exact ⟨rfl, ⟨rfl, ⟨u5.1, ⟨u5.2.1, ⟨_, rfl, u5.2.2⟩⟩⟩⟩⟩)⟩)⟩)⟩, fun z2 => ⟨(u1.2 z2).1, (show in32 0 from ⟨by decide, by decide⟩), ⟨_, rfl, (u1.2 z2).2⟩⟩⟩)⟩⟩⟩)
end
section
theorem TX11_setOut_0 {X : QX} {x : Int} {d : Nat} {post : Int → QMem → Prop} {M : QMem} {v1 : Int} (t : in32 v1 ∧ (QCm X x d 1 yX11_whyOut [(2, 215), (1, v1)] (qup M 215 0 0) (fun x1 M1 => (x1 = 0 → (QCm X x d 0 yX11_keeps [(2, 215)] M1 (fun _ M2 => QCm X x d 0 yX11_setsOut [(2, 215), (0, v1)] M2 (fun _ M3 => QCm X x d 0 yX11_notes [(2, 215)] M3 (fun _ M4 => post ((M4 216 330) - 1) M4))))) ∧ (¬ x1 = 0 → in32 x1 ∧ (post ((-10) - x1) M1))))) : QRm X x (d + 1) qmX11_setOut post 0 [(0, (2, 215)), (1, (0, v1))] [] M := qwp_ok qmX11_setOut_ok.1 [] 30 (⟨rfl, ⟨t.1, ⟨rfl, QC.mono t.2 (fun x1 h1 u1 => by obtain ⟨M1, rfl, u1⟩ := u1; exact ⟨fun z2 => ⟨rfl, QC.mono (u1.1 z2) (fun _ h2 u3 => by obtain ⟨M2, rfl, u3⟩ := u3; exact ⟨rfl, QC.mono u3 (fun _ h3 u4 => by obtain ⟨M3, rfl, u4⟩ := u4; exact ⟨rfl, QC.mono u4 (fun _ h4 u5 => by obtain ⟨M4, rfl, u5⟩ := u5; exact ⟨rfl, ⟨rfl, ⟨(show (0 : Int) ≤ 330 by decide), ⟨(show (330 : Int) < 13125 by decide), ⟨_, rfl, u5⟩⟩⟩⟩⟩)⟩)⟩)⟩, fun z2 => ⟨(u1.2 z2).1, (show in32 0 from ⟨by decide, by decide⟩), ⟨_, rfl, (u1.2 z2).2⟩⟩⟩)⟩⟩⟩)
theorem TX11_turn_0 {X : QX} {x : Int} {d : Nat} {post : Int → QMem → Prop} {M : QMem} {v1 : Int} (t : in32 v1 ∧ (QCm X x d 1 yX11_isCell [(2, 215), (1, v1)] (qup M 215 0 0) (fun x1 M1 => (x1 = 0 → (post (-2) M1)) ∧ (¬ x1 = 0 → in32 x1 ∧ (QCm X x d 1 yX11_lieOn [(2, 215), (0, v1)] M1 (fun x2 M2 => in32 x2 ∧ ((2 : Int) ≤ x2 → (QCm X x d 0 yX11_keeps [(2, 215)] M2 (fun _ M3 => (0 : Int) ≤ 258 + v1 ∧ (258 + v1 < 13125 ∧ ((0 : Int) ≤ 294 + v1 ∧ (294 + v1 < 13125 ∧ (QCm X x d 0 yX11_notes [(2, 215)] (qup (qup M3 216 (258 + v1) (M3 216 (294 + v1))) 216 (294 + v1) (M3 216 (258 + v1))) (fun _ M4 => post (M3 216 (258 + v1)) M4)))))))) ∧ (¬ (2 : Int) ≤ x2 → (post (-5) M2)))))))) : QRm X x (d + 1) qmX11_turn post 0 [(0, (2, 215)), (1, (0, v1))] [] M := qwp_ok qmX11_turn_ok.1 [] 51 (⟨rfl, ⟨t.1, ⟨rfl, QC.mono t.2 (fun x1 h1 u1 => by obtain ⟨M1, rfl, u1⟩ := u1; exact ⟨fun z2 => ⟨(u1.2 z2).1, (show in32 0 from ⟨by decide, by decide⟩), ⟨rfl, QC.mono ((u1.2 z2).2) (fun x2 h2 u3 => by obtain ⟨M2, rfl, u3⟩ := u3; exact ⟨u3.1, (show in32 2 from ⟨by decide, by decide⟩), fun z4 => ⟨rfl, QC.mono (u3.2.1 z4) (fun _ h3 u5 => by obtain ⟨M3, rfl, u5⟩ := u5; exact ⟨rfl, ⟨rfl, ⟨u5.1, ⟨u5.2.1, ⟨rfl, ⟨rfl, ⟨rfl, ⟨u5.2.2.1, ⟨u5.2.2.2.1, ⟨rfl, ⟨u5.1, ⟨u5.2.1, ⟨rfl, ⟨rfl, ⟨u5.2.2.1, ⟨u5.2.2.2.1, ⟨rfl, QC.mono u5.2.2.2.2 (fun _ h4 u6 => by obtain ⟨M4, rfl, u6⟩ := u6; exact ⟨_, rfl, u6⟩)⟩⟩⟩⟩⟩⟩⟩⟩⟩⟩⟩⟩⟩⟩⟩⟩⟩)⟩, fun z4 => ⟨_, rfl, (u3.2.2 z4)⟩⟩)⟩⟩, fun z2 => ⟨_, rfl, (u1.1 z2)⟩⟩)⟩⟩⟩)
theorem TX11_rain_0 {X : QX} {x : Int} {d : Nat} {post : Int → QMem → Prop} {M : QMem} {v1 : Int} (t : in32 v1 ∧ (QCm X x d 1 yX11_within [(1, v1), (1, 0), (1, 9)] (qup M 215 0 0) (fun x1 M1 => (x1 = 0 → (post (-3) M1)) ∧ (¬ x1 = 0 → in32 x1 ∧ (QCm X x d 0 yX11_keeps [(2, 215)] M1 (fun _ M2 => QCm X x d 0 yX11_notes [(2, 215)] (qup M2 216 52 v1) (fun _ M3 => post (M3 222 0) M3))))))) : QRm X x (d + 1) qmX11_rain post 0 [(0, (2, 215)), (1, (0, v1))] [] M := qwp_ok qmX11_rain_ok.1 [] 27 (⟨rfl, ⟨t.1, QC.mono t.2 (fun x1 h1 u1 => by obtain ⟨M1, rfl, u1⟩ := u1; exact ⟨fun z2 => ⟨(u1.2 z2).1, (show in32 0 from ⟨by decide, by decide⟩), ⟨rfl, QC.mono ((u1.2 z2).2) (fun _ h2 u3 => by obtain ⟨M2, rfl, u3⟩ := u3; exact ⟨rfl, ⟨rfl, ⟨(show (0 : Int) ≤ 52 by decide), ⟨(show (52 : Int) < 13125 by decide), ⟨rfl, QC.mono u3 (fun _ h3 u4 => by obtain ⟨M3, rfl, u4⟩ := u4; exact ⟨rfl, ⟨rfl, ⟨(show (0 : Int) ≤ 0 by decide), ⟨(show (0 : Int) < 311 by decide), ⟨_, rfl, u4⟩⟩⟩⟩⟩)⟩⟩⟩⟩⟩)⟩⟩, fun z2 => ⟨_, rfl, (u1.1 z2)⟩⟩)⟩⟩)
theorem TX11_goes_0 {X : QX} {x : Int} {d : Nat} {post : Int → QMem → Prop} {M : QMem} {v1 : Int} (t : (0 : Int) ≤ 331 + v1 ∧ (331 + v1 < 13125 ∧ ((0 : Int) ≤ 339 + v1 ∧ (339 + v1 < 13125 ∧ ((0 : Int) ≤ 60 + (M 216 (331 + v1)) ∧ (60 + (M 216 (331 + v1)) < 13125 ∧ (in32 ((M 216 (339 + v1)) + 1) ∧ in32 (M 216 (60 + (M 216 (331 + v1)))) ∧ (M 216 (60 + (M 216 (331 + v1))) ≤ (M 216 (339 + v1)) + 1 → (in32 (M 216 (339 + v1)) ∧ (M 216 (339 + v1) < 0 → ((0 : Int) ≤ 355 + v1 ∧ (355 + v1 < 13125 ∧ ((0 : Int) ≤ 347 + v1 ∧ (347 + v1 < 13125 ∧ (((qup M 216 (355 + v1) ((M 216 (355 + v1)) + 1)) 216 (347 + v1) = 1 → (post 1 (qup M 216 (355 + v1) ((M 216 (355 + v1)) + 1)))) ∧ (¬ (qup M 216 (355 + v1) ((M 216 (355 + v1)) + 1)) 216 (347 + v1) = 1 → in32 ((qup M 216 (355 + v1) ((M 216 (355 + v1)) + 1)) 216 (347 + v1)) ∧ (post 0 (qup M 216 (355 + v1) ((M 216 (355 + v1)) + 1)))))))))) ∧ (¬ M 216 (339 + v1) < 0 → ((M 216 (339 + v1) = (M 216 (60 + (M 216 (331 + v1)))) - 1 → ((0 : Int) ≤ 347 + v1 ∧ (347 + v1 < 13125 ∧ (((qup M 216 (347 + v1) 1) 216 (347 + v1) = 1 → (post 1 (qup M 216 (347 + v1) 1))) ∧ (¬ (qup M 216 (347 + v1) 1) 216 (347 + v1) = 1 → in32 ((qup M 216 (347 + v1) 1) 216 (347 + v1)) ∧ (post 0 (qup M 216 (347 + v1) 1))))))) ∧ (¬ M 216 (339 + v1) = (M 216 (60 + (M 216 (331 + v1)))) - 1 → in32 ((M 216 (60 + (M 216 (331 + v1)))) - 1) ∧ ((0 : Int) ≤ 355 + v1 ∧ (355 + v1 < 13125 ∧ ((0 : Int) ≤ 347 + v1 ∧ (347 + v1 < 13125 ∧ (((qup M 216 (355 + v1) ((M 216 (355 + v1)) + 1)) 216 (347 + v1) = 1 → (post 1 (qup M 216 (355 + v1) ((M 216 (355 + v1)) + 1)))) ∧ (¬ (qup M 216 (355 + v1) ((M 216 (355 + v1)) + 1)) 216 (347 + v1) = 1 → in32 ((qup M 216 (355 + v1) ((M 216 (355 + v1)) + 1)) 216 (347 + v1)) ∧ (post 0 (qup M 216 (355 + v1) ((M 216 (355 + v1)) + 1)))))))))))))) ∧ (¬ M 216 (60 + (M 216 (331 + v1))) ≤ (M 216 (339 + v1)) + 1 → ((0 : Int) ≤ (66 + (16 * (M 216 (331 + v1)))) + ((M 216 (339 + v1)) + 1) ∧ ((66 + (16 * (M 216 (331 + v1)))) + ((M 216 (339 + v1)) + 1) < 13125 ∧ (QCm X x d 1 yX11_goerOn [(2, 215), (0, M 216 ((66 + (16 * (M 216 (331 + v1)))) + ((M 216 (339 + v1)) + 1)))] M (fun x1 M1 => (x1 = (-1) → (in32 ((qup M1 216 (339 + v1) ((M 216 (339 + v1)) + 1)) 216 (339 + v1)) ∧ ((qup M1 216 (339 + v1) ((M 216 (339 + v1)) + 1)) 216 (339 + v1) < 0 → ((0 : Int) ≤ 347 + v1 ∧ (347 + v1 < 13125 ∧ (((qup M1 216 (339 + v1) ((M 216 (339 + v1)) + 1)) 216 (347 + v1) = 1 → (post 1 (qup M1 216 (339 + v1) ((M 216 (339 + v1)) + 1)))) ∧ (¬ (qup M1 216 (339 + v1) ((M 216 (339 + v1)) + 1)) 216 (347 + v1) = 1 → in32 ((qup M1 216 (339 + v1) ((M 216 (339 + v1)) + 1)) 216 (347 + v1)) ∧ (post 0 (qup M1 216 (339 + v1) ((M 216 (339 + v1)) + 1)))))))) ∧ (¬ (qup M1 216 (339 + v1) ((M 216 (339 + v1)) + 1)) 216 (339 + v1) < 0 → (((qup M1 216 (339 + v1) ((M 216 (339 + v1)) + 1)) 216 (339 + v1) = ((qup M1 216 (339 + v1) ((M 216 (339 + v1)) + 1)) 216 (60 + (M 216 (331 + v1)))) - 1 → ((0 : Int) ≤ 347 + v1 ∧ (347 + v1 < 13125 ∧ (((qup (qup M1 216 (339 + v1) ((M 216 (339 + v1)) + 1)) 216 (347 + v1) 1) 216 (347 + v1) = 1 → (post 1 (qup (qup M1 216 (339 + v1) ((M 216 (339 + v1)) + 1)) 216 (347 + v1) 1))) ∧ (¬ (qup (qup M1 216 (339 + v1) ((M 216 (339 + v1)) + 1)) 216 (347 + v1) 1) 216 (347 + v1) = 1 → in32 ((qup (qup M1 216 (339 + v1) ((M 216 (339 + v1)) + 1)) 216 (347 + v1) 1) 216 (347 + v1)) ∧ (post 0 (qup (qup M1 216 (339 + v1) ((M 216 (339 + v1)) + 1)) 216 (347 + v1) 1))))))) ∧ (¬ (qup M1 216 (339 + v1) ((M 216 (339 + v1)) + 1)) 216 (339 + v1) = ((qup M1 216 (339 + v1) ((M 216 (339 + v1)) + 1)) 216 (60 + (M 216 (331 + v1)))) - 1 → in32 (((qup M1 216 (339 + v1) ((M 216 (339 + v1)) + 1)) 216 (60 + (M 216 (331 + v1)))) - 1) ∧ ((0 : Int) ≤ 347 + v1 ∧ (347 + v1 < 13125 ∧ (((qup M1 216 (339 + v1) ((M 216 (339 + v1)) + 1)) 216 (347 + v1) = 1 → (post 1 (qup M1 216 (339 + v1) ((M 216 (339 + v1)) + 1)))) ∧ (¬ (qup M1 216 (339 + v1) ((M 216 (339 + v1)) + 1)) 216 (347 + v1) = 1 → in32 ((qup M1 216 (339 + v1) ((M 216 (339 + v1)) + 1)) 216 (347 + v1)) ∧ (post 0 (qup M1 216 (339 + v1) ((M 216 (339 + v1)) + 1)))))))))))) ∧ (¬ x1 = (-1) → in32 x1 ∧ (in32 (M1 216 (339 + v1)) ∧ (M1 216 (339 + v1) < 0 → ((0 : Int) ≤ 355 + v1 ∧ (355 + v1 < 13125 ∧ ((0 : Int) ≤ 347 + v1 ∧ (347 + v1 < 13125 ∧ (((qup M1 216 (355 + v1) ((M1 216 (355 + v1)) + 1)) 216 (347 + v1) = 1 → (post 1 (qup M1 216 (355 + v1) ((M1 216 (355 + v1)) + 1)))) ∧ (¬ (qup M1 216 (355 + v1) ((M1 216 (355 + v1)) + 1)) 216 (347 + v1) = 1 → in32 ((qup M1 216 (355 + v1) ((M1 216 (355 + v1)) + 1)) 216 (347 + v1)) ∧ (post 0 (qup M1 216 (355 + v1) ((M1 216 (355 + v1)) + 1)))))))))) ∧ (¬ M1 216 (339 + v1) < 0 → ((M1 216 (339 + v1) = (M1 216 (60 + (M 216 (331 + v1)))) - 1 → ((0 : Int) ≤ 347 + v1 ∧ (347 + v1 < 13125 ∧ (((qup M1 216 (347 + v1) 1) 216 (347 + v1) = 1 → (post 1 (qup M1 216 (347 + v1) 1))) ∧ (¬ (qup M1 216 (347 + v1) 1) 216 (347 + v1) = 1 → in32 ((qup M1 216 (347 + v1) 1) 216 (347 + v1)) ∧ (post 0 (qup M1 216 (347 + v1) 1))))))) ∧ (¬ M1 216 (339 + v1) = (M1 216 (60 + (M 216 (331 + v1)))) - 1 → in32 ((M1 216 (60 + (M 216 (331 + v1)))) - 1) ∧ ((0 : Int) ≤ 355 + v1 ∧ (355 + v1 < 13125 ∧ ((0 : Int) ≤ 347 + v1 ∧ (347 + v1 < 13125 ∧ (((qup M1 216 (355 + v1) ((M1 216 (355 + v1)) + 1)) 216 (347 + v1) = 1 → (post 1 (qup M1 216 (355 + v1) ((M1 216 (355 + v1)) + 1)))) ∧ (¬ (qup M1 216 (355 + v1) ((M1 216 (355 + v1)) + 1)) 216 (347 + v1) = 1 → in32 ((qup M1 216 (355 + v1) ((M1 216 (355 + v1)) + 1)) 216 (347 + v1)) ∧ (post 0 (qup M1 216 (355 + v1) ((M1 216 (355 + v1)) + 1)))))))))))))))))))))))))) : QRm X x (d + 1) qmX11_goes post 0 [(0, (2, 215)), (1, (0, v1))] [] M := qwp_ok qmX11_goes_ok.1 [] 107 (⟨rfl, ⟨rfl, ⟨t.1, ⟨t.2.1, ⟨rfl, ⟨rfl, ⟨t.2.2.1, ⟨t.2.2.2.1, ⟨rfl, ⟨rfl, ⟨t.2.2.2.2.1, ⟨t.2.2.2.2.2.1, ⟨t.2.2.2.2.2.2.1, t.2.2.2.2.2.2.2.1, fun z1 => ⟨fun _ => ⟨rfl, ⟨rfl, ⟨t.2.2.1, ⟨t.2.2.2.1, ⟨(t.2.2.2.2.2.2.2.2.1 z1).1, (show in32 0 from ⟨by decide, by decide⟩), fun z3 => ⟨fun z4 => absurd rfl z4, fun _ => ⟨rfl, ⟨rfl, ⟨((t.2.2.2.2.2.2.2.2.1 z1).2.1 z3).1, ⟨((t.2.2.2.2.2.2.2.2.1 z1).2.1 z3).2.1, ⟨rfl, ⟨((t.2.2.2.2.2.2.2.2.1 z1).2.1 z3).1, ⟨((t.2.2.2.2.2.2.2.2.1 z1).2.1 z3).2.1, ⟨rfl, ⟨rfl, ⟨((t.2.2.2.2.2.2.2.2.1 z1).2.1 z3).2.2.1, ⟨((t.2.2.2.2.2.2.2.2.1 z1).2.1 z3).2.2.2.1, ⟨fun z5 => ⟨(((t.2.2.2.2.2.2.2.2.1 z1).2.1 z3).2.2.2.2.2 z5).1, (show in32 1 from ⟨by decide, by decide⟩), ⟨(Or.inl rfl), ⟨_, rfl, (((t.2.2.2.2.2.2.2.2.1 z1).2.1 z3).2.2.2.2.2 z5).2⟩⟩⟩, fun z5 => ⟨(Or.inr rfl), ⟨_, rfl, (((t.2.2.2.2.2.2.2.2.1 z1).2.1 z3).2.2.2.2.1 z5)⟩⟩⟩⟩⟩⟩⟩⟩⟩⟩⟩⟩⟩⟩⟩, fun z3 => ⟨rfl, ⟨rfl, ⟨t.2.2.1, ⟨t.2.2.2.1, ⟨rfl, ⟨rfl, ⟨t.2.2.2.2.1, ⟨t.2.2.2.2.2.1, ⟨fun z6 => ⟨(t.2.2.2.2.2.2.2.2.1 z1).1, (((t.2.2.2.2.2.2.2.2.1 z1).2.2 z3).2 z6).1, ⟨fun z8 => absurd rfl z8, fun _ => ⟨rfl, ⟨rfl, ⟨(((t.2.2.2.2.2.2.2.2.1 z1).2.2 z3).2 z6).2.1, ⟨(((t.2.2.2.2.2.2.2.2.1 z1).2.2 z3).2 z6).2.2.1, ⟨rfl, ⟨(((t.2.2.2.2.2.2.2.2.1 z1).2.2 z3).2 z6).2.1, ⟨(((t.2.2.2.2.2.2.2.2.1 z1).2.2 z3).2 z6).2.2.1, ⟨rfl, ⟨rfl, ⟨(((t.2.2.2.2.2.2.2.2.1 z1).2.2 z3).2 z6).2.2.2.1, ⟨(((t.2.2.2.2.2.2.2.2.1 z1).2.2 z3).2 z6).2.2.2.2.1, ⟨fun z9 => ⟨((((t.2.2.2.2.2.2.2.2.1 z1).2.2 z3).2 z6).2.2.2.2.2.2 z9).1, (show in32 1 from ⟨by decide, by decide⟩), ⟨(Or.inl rfl), ⟨_, rfl, ((((t.2.2.2.2.2.2.2.2.1 z1).2.2 z3).2 z6).2.2.2.2.2.2 z9).2⟩⟩⟩, fun z9 => ⟨(Or.inr rfl), ⟨_, rfl, ((((t.2.2.2.2.2.2.2.2.1 z1).2.2 z3).2 z6).2.2.2.2.2.1 z9)⟩⟩⟩⟩⟩⟩⟩⟩⟩⟩⟩⟩⟩⟩⟩⟩, fun z6 => ⟨rfl, ⟨rfl, ⟨(((t.2.2.2.2.2.2.2.2.1 z1).2.2 z3).1 z6).1, ⟨(((t.2.2.2.2.2.2.2.2.1 z1).2.2 z3).1 z6).2.1, ⟨rfl, ⟨rfl, ⟨(((t.2.2.2.2.2.2.2.2.1 z1).2.2 z3).1 z6).1, ⟨(((t.2.2.2.2.2.2.2.2.1 z1).2.2 z3).1 z6).2.1, ⟨fun z7 => ⟨((((t.2.2.2.2.2.2.2.2.1 z1).2.2 z3).1 z6).2.2.2 z7).1, (show in32 1 from ⟨by decide, by decide⟩), ⟨(Or.inl rfl), ⟨_, rfl, ((((t.2.2.2.2.2.2.2.2.1 z1).2.2 z3).1 z6).2.2.2 z7).2⟩⟩⟩, fun z7 => ⟨(Or.inr rfl), ⟨_, rfl, ((((t.2.2.2.2.2.2.2.2.1 z1).2.2 z3).1 z6).2.2.1 z7)⟩⟩⟩⟩⟩⟩⟩⟩⟩⟩⟩⟩⟩⟩⟩⟩⟩⟩⟩⟩⟩⟩⟩⟩⟩, fun z2 => absurd rfl z2⟩, fun z1 => ⟨rfl, ⟨rfl, ⟨(t.2.2.2.2.2.2.2.2.2 z1).1, ⟨(t.2.2.2.2.2.2.2.2.2 z1).2.1, ⟨rfl, QC.mono ((t.2.2.2.2.2.2.2.2.2 z1).2.2) (fun x1 h1 u10 => by obtain ⟨M1, rfl, u10⟩ := u10; exact ⟨fun z11 => ⟨(u10.2 z11).1, (show in32 (-1) from ⟨by decide, by decide⟩), ⟨fun _ => ⟨rfl, ⟨rfl, ⟨t.2.2.1, ⟨t.2.2.2.1, ⟨(u10.2 z11).2.1, (show in32 0 from ⟨by decide, by decide⟩), fun z21 => ⟨fun z22 => absurd rfl z22, fun _ => ⟨rfl, ⟨rfl, ⟨((u10.2 z11).2.2.1 z21).1, ⟨((u10.2 z11).2.2.1 z21).2.1, ⟨rfl, ⟨((u10.2 z11).2.2.1 z21).1, ⟨((u10.2 z11).2.2.1 z21).2.1, ⟨rfl, ⟨rfl, ⟨((u10.2 z11).2.2.1 z21).2.2.1, ⟨((u10.2 z11).2.2.1 z21).2.2.2.1, ⟨fun z23 => ⟨(((u10.2 z11).2.2.1 z21).2.2.2.2.2 z23).1, (show in32 1 from ⟨by decide, by decide⟩), ⟨(Or.inl rfl), ⟨_, rfl, (((u10.2 z11).2.2.1 z21).2.2.2.2.2 z23).2⟩⟩⟩, fun z23 => ⟨(Or.inr rfl), ⟨_, rfl, (((u10.2 z11).2.2.1 z21).2.2.2.2.1 z23)⟩⟩⟩⟩⟩⟩⟩⟩⟩⟩⟩⟩⟩⟩⟩, fun z21 => ⟨rfl, ⟨rfl, ⟨t.2.2.1, ⟨t.2.2.2.1, ⟨rfl, ⟨rfl, ⟨t.2.2.2.2.1, ⟨t.2.2.2.2.2.1, ⟨fun z24 => ⟨(u10.2 z11).2.1, (((u10.2 z11).2.2.2 z21).2 z24).1, ⟨fun z26 => absurd rfl z26, fun _ => ⟨rfl, ⟨rfl, ⟨(((u10.2 z11).2.2.2 z21).2 z24).2.1, ⟨(((u10.2 z11).2.2.2 z21).2 z24).2.2.1, ⟨rfl, ⟨(((u10.2 z11).2.2.2 z21).2 z24).2.1, ⟨(((u10.2 z11).2.2.2 z21).2 z24).2.2.1, ⟨rfl, ⟨rfl, ⟨(((u10.2 z11).2.2.2 z21).2 z24).2.2.2.1, ⟨(((u10.2 z11).2.2.2 z21).2 z24).2.2.2.2.1, ⟨fun z27 => ⟨((((u10.2 z11).2.2.2 z21).2 z24).2.2.2.2.2.2 z27).1, (show in32 1 from ⟨by decide, by decide⟩), ⟨(Or.inl rfl), ⟨_, rfl, ((((u10.2 z11).2.2.2 z21).2 z24).2.2.2.2.2.2 z27).2⟩⟩⟩, fun z27 => ⟨(Or.inr rfl), ⟨_, rfl, ((((u10.2 z11).2.2.2 z21).2 z24).2.2.2.2.2.1 z27)⟩⟩⟩⟩⟩⟩⟩⟩⟩⟩⟩⟩⟩⟩⟩⟩, fun z24 => ⟨rfl, ⟨rfl, ⟨(((u10.2 z11).2.2.2 z21).1 z24).1, ⟨(((u10.2 z11).2.2.2 z21).1 z24).2.1, ⟨rfl, ⟨rfl, ⟨(((u10.2 z11).2.2.2 z21).1 z24).1, ⟨(((u10.2 z11).2.2.2 z21).1 z24).2.1, ⟨fun z25 => ⟨((((u10.2 z11).2.2.2 z21).1 z24).2.2.2 z25).1, (show in32 1 from ⟨by decide, by decide⟩), ⟨(Or.inl rfl), ⟨_, rfl, ((((u10.2 z11).2.2.2 z21).1 z24).2.2.2 z25).2⟩⟩⟩, fun z25 => ⟨(Or.inr rfl), ⟨_, rfl, ((((u10.2 z11).2.2.2 z21).1 z24).2.2.1 z25)⟩⟩⟩⟩⟩⟩⟩⟩⟩⟩⟩⟩⟩⟩⟩⟩⟩⟩⟩⟩⟩⟩⟩⟩⟩, fun z20 => absurd rfl z20⟩⟩, fun z11 => ⟨fun z12 => absurd z12 (by decide), fun _ => ⟨(show in32 1 from ⟨by decide, by decide⟩), (show in32 0 from ⟨by decide, by decide⟩), ⟨rfl, ⟨rfl, ⟨t.2.2.1, ⟨t.2.2.2.1, ⟨rfl, ⟨rfl, ⟨t.2.2.1, ⟨t.2.2.2.1, ⟨(u10.1 z11).1, (show in32 0 from ⟨by decide, by decide⟩), fun z13 => ⟨fun _ => ⟨(show in32 1 from ⟨by decide, by decide⟩), (show in32 0 from ⟨by decide, by decide⟩), ⟨rfl, ⟨rfl, ⟨((u10.1 z11).2.1 z13).1, ⟨((u10.1 z11).2.1 z13).2.1, ⟨fun z15 => ⟨(((u10.1 z11).2.1 z13).2.2.2 z15).1, (show in32 1 from ⟨by decide, by decide⟩), ⟨(Or.inl rfl), ⟨_, rfl, (((u10.1 z11).2.1 z13).2.2.2 z15).2⟩⟩⟩, fun z15 => ⟨(Or.inr rfl), ⟨_, rfl, (((u10.1 z11).2.1 z13).2.2.1 z15)⟩⟩⟩⟩⟩⟩⟩⟩, fun z14 => absurd z14 (by decide)⟩, fun z13 => ⟨rfl, ⟨rfl, ⟨t.2.2.1, ⟨t.2.2.2.1, ⟨rfl, ⟨rfl, ⟨t.2.2.2.2.1, ⟨t.2.2.2.2.2.1, ⟨fun z16 => ⟨(u10.1 z11).1, (((u10.1 z11).2.2 z13).2 z16).1, ⟨fun _ => ⟨(show in32 1 from ⟨by decide, by decide⟩), (show in32 0 from ⟨by decide, by decide⟩), ⟨rfl, ⟨rfl, ⟨(((u10.1 z11).2.2 z13).2 z16).2.1, ⟨(((u10.1 z11).2.2 z13).2 z16).2.2.1, ⟨fun z19 => ⟨((((u10.1 z11).2.2 z13).2 z16).2.2.2.2 z19).1, (show in32 1 from ⟨by decide, by decide⟩), ⟨(Or.inl rfl), ⟨_, rfl, ((((u10.1 z11).2.2 z13).2 z16).2.2.2.2 z19).2⟩⟩⟩, fun z19 => ⟨(Or.inr rfl), ⟨_, rfl, ((((u10.1 z11).2.2 z13).2 z16).2.2.2.1 z19)⟩⟩⟩⟩⟩⟩⟩⟩, fun z18 => absurd z18 (by decide)⟩⟩, fun z16 => ⟨rfl, ⟨rfl, ⟨(((u10.1 z11).2.2 z13).1 z16).1, ⟨(((u10.1 z11).2.2 z13).1 z16).2.1, ⟨rfl, ⟨rfl, ⟨(((u10.1 z11).2.2 z13).1 z16).1, ⟨(((u10.1 z11).2.2 z13).1 z16).2.1, ⟨fun z17 => ⟨((((u10.1 z11).2.2 z13).1 z16).2.2.2 z17).1, (show in32 1 from ⟨by decide, by decide⟩), ⟨(Or.inl rfl), ⟨_, rfl, ((((u10.1 z11).2.2 z13).1 z16).2.2.2 z17).2⟩⟩⟩, fun z17 => ⟨(Or.inr rfl), ⟨_, rfl, ((((u10.1 z11).2.2 z13).1 z16).2.2.1 z17)⟩⟩⟩⟩⟩⟩⟩⟩⟩⟩⟩⟩⟩⟩⟩⟩⟩⟩⟩⟩⟩⟩⟩⟩⟩⟩⟩⟩⟩⟩⟩⟩)⟩⟩⟩⟩⟩⟩⟩⟩⟩⟩⟩⟩⟩⟩⟩⟩⟩⟩)
theorem TX11_goesHour_0 {X : QX} {x : Int} {d : Nat} {post : Int → QMem → Prop} {M : QMem} (t : QRm X x (d + 1) qmX11_goesHour post 4 [(0, (2, 215)), (1, (0, 0)), (2, (0, 0))] [] M) : QRm X x (d + 1) qmX11_goesHour post 0 [(0, (2, 215))] [] M := qwp_ok qmX11_goesHour_ok.1 [(4, [0, 1, 2])] 36 (t)
theorem TX11_goesHour_4 {X : QX} {x : Int} {d : Nat} {post : Int → QMem → Prop} {M : QMem} {v1 v2 : Int} (t : in32 v2 ∧ in32 (M 216 330) ∧ (M 216 330 ≤ v2 → (post v1 (qup M 216 53 ((M 216 53) + 1)))) ∧ (¬ M 216 330 ≤ v2 → ((0 : Int) ≤ 347 + v2 ∧ (347 + v2 < 13125 ∧ ((M 216 (347 + v2) = 0 → (QCm X x d 1 yX11_goes [(2, 215), (0, v2)] M (fun x1 M1 => (x1 = 0 → (QRm X x (d + 1) qmX11_goesHour post 4 [(0, (2, 215)), (1, (0, v1)), (2, (0, v2 + 1))] [] M1)) ∧ (¬ x1 = 0 → in32 x1 ∧ (QRm X x (d + 1) qmX11_goesHour post 4 [(0, (2, 215)), (1, (0, v1 + 1)), (2, (0, v2 + 1))] [] M1))))) ∧ (¬ M 216 (347 + v2) = 0 → in32 (M 216 (347 + v2)) ∧ (QRm X x (d + 1) qmX11_goesHour post 4 [(0, (2, 215)), (1, (0, v1)), (2, (0, v2 + 1))] [] M))))))) : QRm X x (d + 1) qmX11_goesHour post 4 [(0, (2, 215)), (1, (0, v1)), (2, (0, v2))] [] M := qwp_ok qmX11_goesHour_ok.1 [(4, [0, 1, 2])] 36 (⟨rfl, ⟨rfl, ⟨(show (0 : Int) ≤ 330 by decide), ⟨(show (330 : Int) < 13125 by decide), ⟨t.1, t.2.1, fun z1 => ⟨rfl, ⟨rfl, ⟨(show (0 : Int) ≤ 53 by decide), ⟨(show (53 : Int) < 13125 by decide), ⟨rfl, ⟨(show (0 : Int) ≤ 53 by decide), ⟨(show (53 : Int) < 13125 by decide), ⟨_, rfl, (t.2.2.1 z1)⟩⟩⟩⟩⟩⟩⟩⟩, fun z1 => ⟨rfl, ⟨rfl, ⟨(t.2.2.2 z1).1, ⟨(t.2.2.2 z1).2.1, ⟨fun z2 => ⟨((t.2.2.2 z1).2.2.2 z2).1, (show in32 0 from ⟨by decide, by decide⟩), ((t.2.2.2 z1).2.2.2 z2).2⟩, fun z2 => ⟨rfl, QC.mono ((t.2.2.2 z1).2.2.1 z2) (fun x1 h1 u3 => by obtain ⟨M1, rfl, u3⟩ := u3; exact ⟨fun z4 => (u3.1 z4), fun z4 => ⟨(u3.2 z4).1, (show in32 0 from ⟨by decide, by decide⟩), (u3.2 z4).2⟩⟩)⟩⟩⟩⟩⟩⟩⟩⟩⟩⟩⟩)
theorem TX11_hours_0 {X : QX} {x : Int} {d : Nat} {post : Int → QMem → Prop} {M : QMem} {v1 : Int} (t : in32 v1 ∧ (QCm X x d 1 yX11_within [(1, v1), (1, 1), (1, 48)] (qup M 215 0 0) (fun x1 M1 => (x1 = 0 → (post (-3) M1)) ∧ (¬ x1 = 0 → in32 x1 ∧ (QCm X x d 0 yX11_keeps [(2, 215)] M1 (fun _ M2 => QRm X x (d + 1) qmX11_hours post 28 [(0, (2, 215)), (1, (0, v1)), (2, (0, 0)), (3, (0, 0))] [] M2)))))) : QRm X x (d + 1) qmX11_hours post 0 [(0, (2, 215)), (1, (0, v1))] [] M := qwp_ok qmX11_hours_ok.1 [(28, [0, 1, 2, 3])] 33 (⟨rfl, ⟨t.1, QC.mono t.2 (fun x1 h1 u1 => by obtain ⟨M1, rfl, u1⟩ := u1; exact ⟨fun z2 => ⟨(u1.2 z2).1, (show in32 0 from ⟨by decide, by decide⟩), ⟨rfl, QC.mono ((u1.2 z2).2) (fun _ h2 u3 => by obtain ⟨M2, rfl, u3⟩ := u3; exact u3)⟩⟩, fun z2 => ⟨_, rfl, (u1.1 z2)⟩⟩)⟩⟩)
theorem TX11_hours_28 {X : QX} {x : Int} {d : Nat} {post : Int → QMem → Prop} {M : QMem} {v1 v2 v3 : Int} (t : in32 v3 ∧ in32 v1 ∧ (v1 ≤ v3 → (QCm X x d 0 yX11_notes [(2, 215)] M (fun _ M1 => post v2 M1))) ∧ (¬ v1 ≤ v3 → (QCm X x d 1 yX11_goesHour [(2, 215)] M (fun x2 M2 => QRm X x (d + 1) qmX11_hours post 28 [(0, (2, 215)), (1, (0, v1)), (2, (0, v2 + x2)), (3, (0, v3 + 1))] [] M2)))) : QRm X x (d + 1) qmX11_hours post 28 [(0, (2, 215)), (1, (0, v1)), (2, (0, v2)), (3, (0, v3))] [] M := qwp_ok qmX11_hours_ok.1 [(28, [0, 1, 2, 3])] 33 (⟨t.1, t.2.1, fun z1 => ⟨rfl, QC.mono (t.2.2.1 z1) (fun _ h1 u2 => by obtain ⟨M1, rfl, u2⟩ := u2; exact ⟨_, rfl, u2⟩)⟩, fun z1 => ⟨rfl, QC.mono (t.2.2.2 z1) (fun x2 h2 u3 => by obtain ⟨M2, rfl, u3⟩ := u3; exact u3)⟩⟩)
theorem TX11_undo_0 {X : QX} {x : Int} {d : Nat} {post : Int → QMem → Prop} {M : QMem} {v1 : Int} (t : in32 v1 ∧ (QCm X x d 1 yX11_within [(1, v1), (1, 1), (1, 10)] (qup M 215 0 0) (fun x1 M1 => (x1 = 0 → (post (-3) M1)) ∧ (¬ x1 = 0 → in32 x1 ∧ (in32 (M1 216 363) ∧ (v1 ≤ M1 216 363 → (QRm X x (d + 1) qmX11_undo post 46 [(0, (2, 215)), (2, (0, 0))] [] (qup M1 216 363 ((M1 216 363) - v1)))) ∧ (¬ v1 ≤ M1 216 363 → (post (-3) M1))))))) : QRm X x (d + 1) qmX11_undo post 0 [(0, (2, 215)), (1, (0, v1))] [] M := qwp_ok qmX11_undo_ok.1 [(46, [0, 2])] 58 (⟨rfl, ⟨t.1, QC.mono t.2 (fun x1 h1 u1 => by obtain ⟨M1, rfl, u1⟩ := u1; exact ⟨fun z2 => ⟨_, rfl, (u1.1 z2)⟩, fun z2 => ⟨(u1.2 z2).1, (show in32 0 from ⟨by decide, by decide⟩), ⟨rfl, ⟨rfl, ⟨(show (0 : Int) ≤ 363 by decide), ⟨(show (363 : Int) < 13125 by decide), ⟨t.1, (u1.2 z2).2.1, fun z3 => ⟨rfl, ⟨rfl, ⟨(show (0 : Int) ≤ 363 by decide), ⟨(show (363 : Int) < 13125 by decide), ⟨rfl, ⟨(show (0 : Int) ≤ 363 by decide), ⟨(show (363 : Int) < 13125 by decide), ((u1.2 z2).2.2.1 z3)⟩⟩⟩⟩⟩⟩⟩, fun z3 => ⟨_, rfl, ((u1.2 z2).2.2.2 z3)⟩⟩⟩⟩⟩⟩⟩⟩)⟩⟩)
theorem TX11_undo_46 {X : QX} {x : Int} {d : Nat} {post : Int → QMem → Prop} {M : QMem} {v2 : Int} (t : in32 v2 ∧ ((311 : Int) ≤ v2 → (post (M 216 363) M)) ∧ (¬ (311 : Int) ≤ v2 → ((0 : Int) ≤ (364 + (311 * (M 216 363))) + v2 ∧ ((364 + (311 * (M 216 363))) + v2 < 13125 ∧ ((0 : Int) ≤ 52 + v2 ∧ (52 + v2 < 13125 ∧ (QRm X x (d + 1) qmX11_undo post 46 [(0, (2, 215)), (2, (0, v2 + 1))] [] (qup M 216 (52 + v2) (M 216 ((364 + (311 * (M 216 363))) + v2)))))))))) : QRm X x (d + 1) qmX11_undo post 46 [(0, (2, 215)), (2, (0, v2))] [] M := qwp_ok qmX11_undo_ok.1 [(46, [0, 2])] 58 (⟨t.1, (show in32 311 from ⟨by decide, by decide⟩), fun z1 => ⟨rfl, ⟨rfl, ⟨(show (0 : Int) ≤ 363 by decide), ⟨(show (363 : Int) < 13125 by decide), ⟨_, rfl, (t.2.1 z1)⟩⟩⟩⟩⟩, fun z1 => ⟨rfl, ⟨rfl, ⟨rfl, ⟨rfl, ⟨(show (0 : Int) ≤ 363 by decide), ⟨(show (363 : Int) < 13125 by decide), ⟨rfl, ⟨(t.2.2 z1).1, ⟨(t.2.2 z1).2.1, ⟨rfl, ⟨(t.2.2 z1).2.2.1, ⟨(t.2.2 z1).2.2.2.1, (t.2.2 z1).2.2.2.2⟩⟩⟩⟩⟩⟩⟩⟩⟩⟩⟩⟩⟩)
theorem TX11_whyNot_0 {X : QX} {x : Int} {d : Nat} {post : Int → QMem → Prop} {M : QMem} {v1 : Int} (t : (v1 = (-1) → (post 0 M)) ∧ (¬ v1 = (-1) → in64 v1 ∧ (QCm X x d 1 yX11_within [(1, v1), (1, 0), (1, 5999)] M (fun x1 M1 => (x1 = 0 → (QCm X x d 1 yX11_within [(1, v1), (1, 6000), (1, 6999)] M1 (fun x2 M2 => (x2 = 0 → (QCm X x d 1 yX11_within [(1, v1), (1, 7000), (1, 7999)] M2 (fun x3 M3 => (x3 = 0 → (QCm X x d 1 yX11_within [(1, v1), (1, 8000), (1, 8999)] M3 (fun x4 M4 => (x4 = 0 → (QCm X x d 1 yX11_within [(1, v1), (1, 9000), (1, 9009)] M4 (fun x5 M5 => (x5 = 0 → (post 1 M5)) ∧ (¬ x5 = 0 → in32 x5 ∧ (post 0 M5))))) ∧ (¬ x4 = 0 → in32 x4 ∧ (QCm X x d 1 yX11_whyOut [(2, 215), (1, v1 - 8000)] M4 (fun x6 M6 => post x6 M6)))))) ∧ (¬ x3 = 0 → in32 x3 ∧ (QCm X x d 1 yX11_whyIn [(2, 215), (1, v1 - 7000)] M3 (fun x7 M7 => post x7 M7)))))) ∧ (¬ x2 = 0 → in32 x2 ∧ (QCm X x d 1 yX11_whyBack [(2, 215), (1, v1 - 6000)] M2 (fun x8 M8 => post x8 M8)))))) ∧ (¬ x1 = 0 → in32 x1 ∧ (in64 (v1.tdiv 100) ∧ (((v1.tdiv 100).tmod 10 = 0 → (in64 (v1.tdiv 10) ∧ (in64 ((v1.tdiv 10).tmod 10) ∧ ((v1.tdiv 10).tmod 10 ≤ 1 → (QCm X x d 1 yX11_whyLay [(2, 215), (1, v1.tdiv 1000), (1, v1.tmod 10)] M1 (fun x9 M9 => post x9 M9))) ∧ (¬ (v1.tdiv 10).tmod 10 ≤ 1 → (post 1 M1))))) ∧ (¬ (v1.tdiv 100).tmod 10 = 0 → in64 ((v1.tdiv 100).tmod 10) ∧ (post 1 M1))))))))) : QRm X x (d + 1) qmX11_whyNot post 0 [(0, (2, 215)), (1, (1, v1))] [] M := qwp_ok qmX11_whyNot_ok.1 [] 82 (⟨fun z1 => ⟨(t.2 z1).1, (show in64 (-1) from ⟨by decide, by decide⟩), QC.mono ((t.2 z1).2) (fun x1 h1 u2 => by obtain ⟨M1, rfl, u2⟩ := u2; exact ⟨fun z3 => QC.mono (u2.1 z3) (fun x2 h2 u4 => by obtain ⟨M2, rfl, u4⟩ := u4; exact ⟨fun z5 => QC.mono (u4.1 z5) (fun x3 h3 u6 => by obtain ⟨M3, rfl, u6⟩ := u6; exact ⟨fun z7 => QC.mono (u6.1 z7) (fun x4 h4 u8 => by obtain ⟨M4, rfl, u8⟩ := u8; exact ⟨fun z9 => QC.mono (u8.1 z9) (fun x5 h5 u10 => by obtain ⟨M5, rfl, u10⟩ := u10; exact ⟨fun z11 => ⟨_, rfl, (u10.1 z11)⟩, fun z11 => ⟨(u10.2 z11).1, (show in32 0 from ⟨by decide, by decide⟩), ⟨_, rfl, (u10.2 z11).2⟩⟩⟩), fun z9 => ⟨(u8.2 z9).1, (show in32 0 from ⟨by decide, by decide⟩), ⟨rfl, QC.mono ((u8.2 z9).2) (fun x6 h6 u12 => by obtain ⟨M6, rfl, u12⟩ := u12; exact ⟨_, rfl, u12⟩)⟩⟩⟩), fun z7 => ⟨(u6.2 z7).1, (show in32 0 from ⟨by decide, by decide⟩), ⟨rfl, QC.mono ((u6.2 z7).2) (fun x7 h7 u13 => by obtain ⟨M7, rfl, u13⟩ := u13; exact ⟨_, rfl, u13⟩)⟩⟩⟩), fun z5 => ⟨(u4.2 z5).1, (show in32 0 from ⟨by decide, by decide⟩), ⟨rfl, QC.mono ((u4.2 z5).2) (fun x8 h8 u14 => by obtain ⟨M8, rfl, u14⟩ := u14; exact ⟨_, rfl, u14⟩)⟩⟩⟩), fun z3 => ⟨(u2.2 z3).1, (show in32 0 from ⟨by decide, by decide⟩), ⟨(t.2 z1).1, ⟨(show in64 100 from ⟨by decide, by decide⟩), ⟨(show (0 : Int) < 100 by decide), ⟨(u2.2 z3).2.1, ⟨(show in64 10 from ⟨by decide, by decide⟩), ⟨(show (0 : Int) < 10 by decide), ⟨fun z15 => ⟨((u2.2 z3).2.2.2 z15).1, (show in64 0 from ⟨by decide, by decide⟩), ⟨_, rfl, ((u2.2 z3).2.2.2 z15).2⟩⟩, fun z15 => ⟨(t.2 z1).1, ⟨(show in64 10 from ⟨by decide, by decide⟩), ⟨(show (0 : Int) < 10 by decide), ⟨((u2.2 z3).2.2.1 z15).1, ⟨(show in64 10 from ⟨by decide, by decide⟩), ⟨(show (0 : Int) < 10 by decide), ⟨((u2.2 z3).2.2.1 z15).2.1, (show in64 1 from ⟨by decide, by decide⟩), fun z16 => ⟨(t.2 z1).1, ⟨(show in64 1000 from ⟨by decide, by decide⟩), ⟨(show (0 : Int) < 1000 by decide), ⟨(t.2 z1).1, ⟨(show in64 10 from ⟨by decide, by decide⟩), ⟨(show (0 : Int) < 10 by decide), ⟨rfl, QC.mono (((u2.2 z3).2.2.1 z15).2.2.1 z16) (fun x9 h9 u17 => by obtain ⟨M9, rfl, u17⟩ := u17; exact ⟨_, rfl, u17⟩)⟩⟩⟩⟩⟩⟩⟩, fun z16 => ⟨_, rfl, (((u2.2 z3).2.2.1 z15).2.2.2 z16)⟩⟩⟩⟩⟩⟩⟩⟩⟩⟩⟩⟩⟩⟩⟩⟩⟩)⟩, fun z1 => ⟨_, rfl, (t.1 z1)⟩⟩)
theorem TX11_does_0 {X : QX} {x : Int} {d : Nat} {post : Int → QMem → Prop} {M : QMem} {v1 : Int} (t : (v1 = (-1) → (QCm X x d 1 yX11_goesHour [(2, 215)] M (fun x1 M1 => post 0 M1))) ∧ (¬ v1 = (-1) → in32 v1 ∧ (((6000 : Int) ≤ v1 → (((7000 : Int) ≤ v1 → (((8000 : Int) ≤ v1 → (((9000 : Int) ≤ v1 → (post 0 (qup M 216 52 (v1 - 9000)))) ∧ (¬ (9000 : Int) ≤ v1 → (QCm X x d 0 yX11_setsOut [(2, 215), (0, v1 - 8000)] M (fun _ M2 => post 0 M2))))) ∧ (¬ (8000 : Int) ≤ v1 → (QCm X x d 0 yX11_takesAll [(2, 215), (0, v1 - 7000)] M (fun _ M3 => post 0 M3))))) ∧ (¬ (7000 : Int) ≤ v1 → (QCm X x d 0 yX11_takesOff [(2, 215), (0, v1 - 6000)] M (fun _ M4 => post 0 M4))))) ∧ (¬ (6000 : Int) ≤ v1 → (in32 (v1.tdiv 10) ∧ (((v1.tdiv 10).tmod 10 = 1 → (QCm X x d 0 yX11_lays [(2, 215), (0, v1.tdiv 1000), (0, v1.tmod 10), (0, 1)] M (fun _ M5 => post 0 M5))) ∧ (¬ (v1.tdiv 10).tmod 10 = 1 → in32 ((v1.tdiv 10).tmod 10) ∧ (QCm X x d 0 yX11_lays [(2, 215), (0, v1.tdiv 1000), (0, v1.tmod 10), (0, 0)] M (fun _ M6 => post 0 M6))))))))) : QRm X x (d + 1) qmX11_does post 0 [(0, (2, 215)), (1, (0, v1))] [] M := qwp_ok qmX11_does_ok.1 [] 66 (⟨fun z1 => ⟨(t.2 z1).1, (show in32 (-1) from ⟨by decide, by decide⟩), ⟨(t.2 z1).1, (show in32 6000 from ⟨by decide, by decide⟩), fun z3 => ⟨(t.2 z1).1, (show in32 7000 from ⟨by decide, by decide⟩), fun z4 => ⟨(t.2 z1).1, (show in32 8000 from ⟨by decide, by decide⟩), fun z5 => ⟨(t.2 z1).1, (show in32 9000 from ⟨by decide, by decide⟩), fun z6 => ⟨rfl, ⟨rfl, ⟨(show (0 : Int) ≤ 52 by decide), ⟨(show (52 : Int) < 13125 by decide), ⟨_, rfl, (((((t.2 z1).2.1 z3).1 z4).1 z5).1 z6)⟩⟩⟩⟩⟩, fun z6 => ⟨rfl, QC.mono (((((t.2 z1).2.1 z3).1 z4).1 z5).2 z6) (fun _ h2 u7 => by obtain ⟨M2, rfl, u7⟩ := u7; exact ⟨_, rfl, u7⟩)⟩⟩, fun z5 => ⟨rfl, QC.mono ((((t.2 z1).2.1 z3).1 z4).2 z5) (fun _ h3 u8 => by obtain ⟨M3, rfl, u8⟩ := u8; exact ⟨_, rfl, u8⟩)⟩⟩, fun z4 => ⟨rfl, QC.mono (((t.2 z1).2.1 z3).2 z4) (fun _ h4 u9 => by obtain ⟨M4, rfl, u9⟩ := u9; exact ⟨_, rfl, u9⟩)⟩⟩, fun z3 => ⟨(t.2 z1).1, ⟨(show in32 1000 from ⟨by decide, by decide⟩), ⟨(show (0 : Int) < 1000 by decide), ⟨(t.2 z1).1, ⟨(show in32 10 from ⟨by decide, by decide⟩), ⟨(show (0 : Int) < 10 by decide), ⟨(t.2 z1).1, ⟨(show in32 10 from ⟨by decide, by decide⟩), ⟨(show (0 : Int) < 10 by decide), ⟨((t.2 z1).2.2 z3).1, ⟨(show in32 10 from ⟨by decide, by decide⟩), ⟨(show (0 : Int) < 10 by decide), ⟨fun z10 => ⟨(((t.2 z1).2.2 z3).2.2 z10).1, (show in32 1 from ⟨by decide, by decide⟩), ⟨rfl, QC.mono ((((t.2 z1).2.2 z3).2.2 z10).2) (fun _ h6 u12 => by obtain ⟨M6, rfl, u12⟩ := u12; exact ⟨_, rfl, u12⟩)⟩⟩, fun z10 => ⟨rfl, QC.mono (((t.2 z1).2.2 z3).2.1 z10) (fun _ h5 u11 => by obtain ⟨M5, rfl, u11⟩ := u11; exact ⟨_, rfl, u11⟩)⟩⟩⟩⟩⟩⟩⟩⟩⟩⟩⟩⟩⟩⟩⟩⟩, fun z1 => ⟨rfl, QC.mono (t.1 z1) (fun x1 h1 u2 => by obtain ⟨M1, rfl, u2⟩ := u2; exact ⟨_, rfl, u2⟩)⟩⟩)
theorem TX11_tells_0 {X : QX} {x : Int} {d : Nat} {post : Int → QMem → Prop} {M : QMem} {v1 : Int} (t : QRm X x (d + 1) qmX11_tells post 7 [(0, (2, 215)), (1, (0, v1)), (2, (0, 0))] [] (qup M 215 19 0)) : QRm X x (d + 1) qmX11_tells post 0 [(0, (2, 215)), (1, (0, v1))] [] M := qwp_ok qmX11_tells_ok.1 [(7, [0, 1, 2])] 48 (⟨rfl, t⟩)
theorem TX11_tells_7 {X : QX} {x : Int} {d : Nat} {post : Int → QMem → Prop} {M : QMem} {v1 v2 : Int} (t : (0 : Int) ≤ v1 ∧ (v1 < 4 ∧ (in32 v2 ∧ in32 (M 229 v1) ∧ (M 229 v1 ≤ v2 → (post (M 229 v1) M)) ∧ (¬ M 229 v1 ≤ v2 → ((0 : Int) ≤ (40 * v1) + v2 ∧ ((40 * v1) + v2 < 160 ∧ (QCm X x d 1 yX11_whyNot [(2, 215), (1, M 230 ((40 * v1) + v2))] M (fun x1 M1 => ((qup M1 215 19 x1) 215 19 = 0 → (QCm X x d 0 yX11_does [(2, 215), (0, ql2i ((qup M1 215 19 x1) 230 ((40 * v1) + v2)))] (qup M1 215 19 x1) (fun _ M2 => QRm X x (d + 1) qmX11_tells post 7 [(0, (2, 215)), (1, (0, v1)), (2, (0, v2 + 1))] [] M2))) ∧ (¬ (qup M1 215 19 x1) 215 19 = 0 → in32 ((qup M1 215 19 x1) 215 19) ∧ (post v2 (qup M1 215 19 x1))))))))))) : QRm X x (d + 1) qmX11_tells post 7 [(0, (2, 215)), (1, (0, v1)), (2, (0, v2))] [] M := qwp_ok qmX11_tells_ok.1 [(7, [0, 1, 2])] 48 (⟨rfl, ⟨rfl, ⟨t.1, ⟨t.2.1, ⟨t.2.2.1, t.2.2.2.1, fun z1 => ⟨rfl, ⟨rfl, ⟨t.1, ⟨t.2.1, ⟨_, rfl, (t.2.2.2.2.1 z1)⟩⟩⟩⟩⟩, fun z1 => ⟨rfl, ⟨rfl, ⟨(t.2.2.2.2.2 z1).1, ⟨(t.2.2.2.2.2 z1).2.1, ⟨rfl, QC.mono ((t.2.2.2.2.2 z1).2.2) (fun x1 h1 u2 => by obtain ⟨M1, rfl, u2⟩ := u2; exact ⟨rfl, ⟨rfl, ⟨fun z3 => ⟨rfl, ⟨rfl, ⟨(t.2.2.2.2.2 z1).1, ⟨(t.2.2.2.2.2 z1).2.1, ⟨rfl, QC.mono (u2.1 z3) (fun _ h2 u4 => by obtain ⟨M2, rfl, u4⟩ := u4; exact u4)⟩⟩⟩⟩⟩, fun z3 => ⟨(u2.2 z3).1, (show in32 0 from ⟨by decide, by decide⟩), ⟨_, rfl, (u2.2 z3).2⟩⟩⟩⟩⟩)⟩⟩⟩⟩⟩⟩⟩⟩⟩⟩)
theorem TX11_noTray_0 {X : QX} {x : Int} {d : Nat} {post : Int → QMem → Prop} {M : QMem} {v1 : Int} (t : in32 v1 ∧ (QCm X x d 1 yX11_within [(1, v1), (1, 0), (1, 3)] M (fun x1 M1 => (x1 = 0 → (post (-2) M1)) ∧ (¬ x1 = 0 → in32 x1 ∧ ((0 : Int) ≤ v1 ∧ (v1 < 4 ∧ ((M1 228 v1 = (-1) → (post (-6) M1)) ∧ (¬ M1 228 v1 = (-1) → in32 (M1 228 v1) ∧ (post 0 M1))))))))) : QRm X x (d + 1) qmX11_noTray post 0 [(0, (2, 215)), (1, (0, v1))] [] M := qwp_ok qmX11_noTray_ok.1 [] 20 (⟨t.1, QC.mono t.2 (fun x1 h1 u1 => by obtain ⟨M1, rfl, u1⟩ := u1; exact ⟨fun z2 => ⟨(u1.2 z2).1, (show in32 0 from ⟨by decide, by decide⟩), ⟨rfl, ⟨rfl, ⟨(u1.2 z2).2.1, ⟨(u1.2 z2).2.2.1, ⟨fun z3 => ⟨((u1.2 z2).2.2.2.2 z3).1, (show in32 (-1) from ⟨by decide, by decide⟩), ⟨_, rfl, ((u1.2 z2).2.2.2.2 z3).2⟩⟩, fun z3 => ⟨_, rfl, ((u1.2 z2).2.2.2.1 z3)⟩⟩⟩⟩⟩⟩⟩, fun z2 => ⟨_, rfl, (u1.1 z2)⟩⟩)⟩)
theorem TX11_judge_0 {X : QX} {x : Int} {d : Nat} {post : Int → QMem → Prop} {M : QMem} {v1 v2 : Int} (t : in32 v2 ∧ (QCm X x d 1 yX11_within [(1, v2), (1, 0), (1, 3)] (qup M 215 0 0) (fun x1 M1 => (x1 = 0 → (post (-2) M1)) ∧ (¬ x1 = 0 → in32 x1 ∧ (QCm X x d 1 yX11_noTray [(2, 215), (0, v1)] M1 (fun x2 M2 => (x2 = 0 → (QCm X x d 0 yX11_keeps [(2, 215)] M2 (fun _ M3 => QCm X x d 1 yX11_tells [(2, 215), (0, v1)] M3 (fun x4 M4 => QRm X x (d + 1) qmX11_judge post 49 [(0, (2, 215)), (2, (0, v2)), (4, (0, x4)), (5, (0, 0)), (6, (0, 0))] [] M4)))) ∧ (¬ x2 = 0 → in32 x2 ∧ (post x2 M2)))))))) : QRm X x (d + 1) qmX11_judge post 0 [(0, (2, 215)), (1, (0, v1)), (2, (0, v2))] [] M := qwp_ok qmX11_judge_ok.1 [(49, [0, 2, 4, 5, 6])] 77 (⟨rfl, ⟨t.1, QC.mono t.2 (fun x1 h1 u1 => by obtain ⟨M1, rfl, u1⟩ := u1; exact ⟨fun z2 => ⟨(u1.2 z2).1, (show in32 0 from ⟨by decide, by decide⟩), ⟨rfl, QC.mono ((u1.2 z2).2) (fun x2 h2 u3 => by obtain ⟨M2, rfl, u3⟩ := u3; exact ⟨fun z4 => ⟨rfl, QC.mono (u3.1 z4) (fun _ h3 u5 => by obtain ⟨M3, rfl, u5⟩ := u5; exact ⟨rfl, QC.mono u5 (fun x4 h4 u6 => by obtain ⟨M4, rfl, u6⟩ := u6; exact u6)⟩)⟩, fun z4 => ⟨(u3.2 z4).1, (show in32 0 from ⟨by decide, by decide⟩), ⟨_, rfl, (u3.2 z4).2⟩⟩⟩)⟩⟩, fun z2 => ⟨_, rfl, (u1.1 z2)⟩⟩)⟩⟩)
theorem TX11_judge_49 {X : QX} {x : Int} {d : Nat} {post : Int → QMem → Prop} {M : QMem} {v2 v4 v5 v6 : Int} (t : in32 v6 ∧ in32 (M 216 3) ∧ (M 216 3 ≤ v6 → (QCm X x d 0 yX11_isAgain [(2, 215)] M (fun _ M1 => (v2 = 0 → ((M1 215 19 = 0 → (post (-1) M1)) ∧ (¬ M1 215 19 = 0 → in32 (M1 215 19) ∧ (post v4 M1)))) ∧ (¬ v2 = 0 → in32 v2 ∧ ((v2 = 1 → (post (M1 215 19) M1)) ∧ (¬ v2 = 1 → ((v2 = 2 → (post v5 M1)) ∧ (¬ v2 = 2 → (post (M 216 53) M1))))))))) ∧ (¬ M 216 3 ≤ v6 → ((0 : Int) ≤ 54 + v6 ∧ (54 + v6 < 13125 ∧ (QRm X x (d + 1) qmX11_judge post 49 [(0, (2, 215)), (2, (0, v2)), (4, (0, v4)), (5, (0, v5 + (M 216 (54 + v6)))), (6, (0, v6 + 1))] [] M))))) : QRm X x (d + 1) qmX11_judge post 49 [(0, (2, 215)), (2, (0, v2)), (4, (0, v4)), (5, (0, v5)), (6, (0, v6))] [] M := qwp_ok qmX11_judge_ok.1 [(49, [0, 2, 4, 5, 6])] 77 (⟨rfl, ⟨rfl, ⟨(show (0 : Int) ≤ 3 by decide), ⟨(show (3 : Int) < 13125 by decide), ⟨t.1, t.2.1, fun z1 => ⟨rfl, ⟨rfl, ⟨(show (0 : Int) ≤ 53 by decide), ⟨(show (53 : Int) < 13125 by decide), ⟨rfl, QC.mono (t.2.2.1 z1) (fun _ h1 u2 => by obtain ⟨M1, rfl, u2⟩ := u2; exact ⟨fun z3 => ⟨(u2.2 z3).1, (show in32 0 from ⟨by decide, by decide⟩), ⟨fun z5 => ⟨(u2.2 z3).1, (show in32 1 from ⟨by decide, by decide⟩), ⟨fun z6 => ⟨(u2.2 z3).1, (show in32 2 from ⟨by decide, by decide⟩), ⟨_, rfl, (((u2.2 z3).2.2 z5).2 z6)⟩⟩, fun z6 => ⟨_, rfl, (((u2.2 z3).2.2 z5).1 z6)⟩⟩⟩, fun z5 => ⟨rfl, ⟨_, rfl, ((u2.2 z3).2.1 z5)⟩⟩⟩⟩, fun z3 => ⟨rfl, ⟨fun z4 => ⟨((u2.1 z3).2 z4).1, (show in32 0 from ⟨by decide, by decide⟩), ⟨_, rfl, ((u2.1 z3).2 z4).2⟩⟩, fun z4 => ⟨_, rfl, ((u2.1 z3).1 z4)⟩⟩⟩⟩)⟩⟩⟩⟩⟩, fun z1 => ⟨rfl, ⟨rfl, ⟨(t.2.2.2 z1).1, ⟨(t.2.2.2 z1).2.1, (t.2.2.2 z1).2.2⟩⟩⟩⟩⟩⟩⟩⟩⟩)
theorem TX11_perform_0 {X : QX} {x : Int} {d : Nat} {post : Int → QMem → Prop} {M : QMem} {v1 : Int} (t : QCm X x d 1 yX11_noTray [(2, 215), (0, v1)] (qup M 215 0 0) (fun x1 M1 => (x1 = 0 → (QCm X x d 0 yX11_keeps [(2, 215)] M1 (fun _ M2 => QCm X x d 1 yX11_tells [(2, 215), (0, v1)] M2 (fun x3 M3 => in32 x3 ∧ (x3 ≤ 0 → (post x3 M3)) ∧ (¬ x3 ≤ 0 → (QCm X x d 0 yX11_notes [(2, 215)] M3 (fun _ M4 => post x3 M4))))))) ∧ (¬ x1 = 0 → in32 x1 ∧ (post x1 M1)))) : QRm X x (d + 1) qmX11_perform post 0 [(0, (2, 215)), (1, (0, v1))] [] M := qwp_ok qmX11_perform_ok.1 [] 25 (⟨rfl, ⟨rfl, QC.mono t (fun x1 h1 u1 => by obtain ⟨M1, rfl, u1⟩ := u1; exact ⟨fun z2 => ⟨rfl, QC.mono (u1.1 z2) (fun _ h2 u3 => by obtain ⟨M2, rfl, u3⟩ := u3; exact ⟨rfl, QC.mono u3 (fun x3 h3 u4 => by obtain ⟨M3, rfl, u4⟩ := u4; exact ⟨u4.1, (show in32 0 from ⟨by decide, by decide⟩), fun z5 => ⟨_, rfl, (u4.2.1 z5)⟩, fun z5 => ⟨rfl, QC.mono (u4.2.2 z5) (fun _ h4 u6 => by obtain ⟨M4, rfl, u6⟩ := u6; exact ⟨_, rfl, u6⟩)⟩⟩)⟩)⟩, fun z2 => ⟨(u1.2 z2).1, (show in32 0 from ⟨by decide, by decide⟩), ⟨_, rfl, (u1.2 z2).2⟩⟩⟩)⟩⟩)
theorem TX11_draw_0 {X : QX} {x : Int} {d : Nat} {post : Int → QMem → Prop} {M : QMem} {v1 : Int} (t : in32 (qushr ((qup M 215 20 ((1103515245 * (M 215 20)) + 12345)) 215 20) 16) ∧ (in32 v1 ∧ ((0 : Int) < v1 ∧ (post ((qushr ((qup M 215 20 ((1103515245 * (M 215 20)) + 12345)) 215 20) 16).tmod v1) (qup M 215 20 ((1103515245 * (M 215 20)) + 12345)))))) : QRm X x d qmX11_draw post 0 [(0, (2, 215)), (1, (0, v1))] [] M := qwp_ok qmX11_draw_ok.1 [] 17 (⟨rfl, ⟨rfl, ⟨rfl, ⟨t.1, ⟨t.2.1, ⟨t.2.2.1, ⟨_, rfl, t.2.2.2⟩⟩⟩⟩⟩⟩⟩)
theorem TX11_drawn_0 {X : QX} {x : Int} {d : Nat} {post : Int → QMem → Prop} {M : QMem} (t : QCm X x d 1 yX11_draw [(2, 215), (0, 6)] M (fun x1 M1 => (x1 = 3 → (post (-1) M1)) ∧ (¬ x1 = 3 → in32 x1 ∧ (QCm X x d 1 yX11_draw [(2, 215), (0, M1 216 3)] M1 (fun x2 M2 => (x1 ≤ 3 → (QCm X x d 1 yX11_draw [(2, 215), (0, 4)] M2 (fun x3 M3 => QCm X x d 1 yX11_draw [(2, 215), (0, 2)] M3 (fun x4 M4 => post (((1000 * x2) + (10 * x4)) + (1 + x3)) M4)))) ∧ (¬ x1 ≤ 3 → ((x1 = 4 → (post (8000 + x2) M2)) ∧ (¬ x1 = 4 → (post (7000 + x2) M2))))))))) : QRm X x (d + 1) qmX11_drawn post 0 [(0, (2, 215))] [] M := qwp_ok qmX11_drawn_ok.1 [] 50 (⟨rfl, QC.mono t (fun x1 h1 u1 => by obtain ⟨M1, rfl, u1⟩ := u1; exact ⟨fun z2 => ⟨(u1.2 z2).1, (show in32 3 from ⟨by decide, by decide⟩), ⟨rfl, ⟨rfl, ⟨(show (0 : Int) ≤ 3 by decide), ⟨(show (3 : Int) < 13125 by decide), ⟨rfl, QC.mono ((u1.2 z2).2) (fun x2 h2 u3 => by obtain ⟨M2, rfl, u3⟩ := u3; exact ⟨(u1.2 z2).1, (show in32 3 from ⟨by decide, by decide⟩), fun z4 => ⟨rfl, QC.mono (u3.1 z4) (fun x3 h3 u5 => by obtain ⟨M3, rfl, u5⟩ := u5; exact ⟨rfl, QC.mono u5 (fun x4 h4 u6 => by obtain ⟨M4, rfl, u6⟩ := u6; exact ⟨_, rfl, u6⟩)⟩)⟩, fun z4 => ⟨fun z7 => ⟨(u1.2 z2).1, (show in32 4 from ⟨by decide, by decide⟩), ⟨_, rfl, ((u3.2 z4).2 z7)⟩⟩, fun z7 => ⟨_, rfl, ((u3.2 z4).1 z7)⟩⟩⟩)⟩⟩⟩⟩⟩⟩, fun z2 => ⟨_, rfl, (u1.1 z2)⟩⟩)⟩)
theorem TX11_season_0 {X : QX} {x : Int} {d : Nat} {post : Int → QMem → Prop} {M : QMem} {v1 v2 : Int} (t : in32 v2 ∧ (QCm X x d 1 yX11_within [(1, v2), (1, 1), (1, 40)] (qup M 215 0 0) (fun x1 M1 => (x1 = 0 → (post (-3) M1)) ∧ (¬ x1 = 0 → in32 x1 ∧ ((M1 216 3 = 0 → (post (-5) M1)) ∧ (¬ M1 216 3 = 0 → in32 (M1 216 3) ∧ (QCm X x d 0 yX11_keeps [(2, 215)] M1 (fun _ M2 => QRm X x (d + 1) qmX11_season post 46 [(0, (2, 215)), (2, (0, v2)), (3, (0, 0)), (4, (0, 0))] [] (qup M2 215 20 v1))))))))) : QRm X x (d + 1) qmX11_season post 0 [(0, (2, 215)), (1, (0, v1)), (2, (0, v2))] [] M := qwp_ok qmX11_season_ok.1 [(46, [0, 2, 3, 4])] 53 (⟨rfl, ⟨t.1, QC.mono t.2 (fun x1 h1 u1 => by obtain ⟨M1, rfl, u1⟩ := u1; exact ⟨fun z2 => ⟨(u1.2 z2).1, (show in32 0 from ⟨by decide, by decide⟩), ⟨rfl, ⟨rfl, ⟨(show (0 : Int) ≤ 3 by decide), ⟨(show (3 : Int) < 13125 by decide), ⟨fun z3 => ⟨((u1.2 z2).2.2 z3).1, (show in32 0 from ⟨by decide, by decide⟩), ⟨rfl, QC.mono (((u1.2 z2).2.2 z3).2) (fun _ h2 u4 => by obtain ⟨M2, rfl, u4⟩ := u4; exact ⟨rfl, u4⟩)⟩⟩, fun z3 => ⟨_, rfl, ((u1.2 z2).2.1 z3)⟩⟩⟩⟩⟩⟩⟩, fun z2 => ⟨_, rfl, (u1.1 z2)⟩⟩)⟩⟩)
theorem TX11_season_46 {X : QX} {x : Int} {d : Nat} {post : Int → QMem → Prop} {M : QMem} {v2 v3 v4 : Int} (t : in32 v4 ∧ in32 v2 ∧ (v2 ≤ v4 → (in32 v3 ∧ (v3 ≤ 0 → (post v3 M)) ∧ (¬ v3 ≤ 0 → (QCm X x d 0 yX11_notes [(2, 215)] M (fun _ M1 => post v3 M1))))) ∧ (¬ v2 ≤ v4 → (QCm X x d 1 yX11_drawn [(2, 215)] M (fun x2 M2 => in32 x2 ∧ (QCm X x d 1 yX11_whyNot [(2, 215), (1, x2)] M2 (fun x3 M3 => (x3 = 0 → (QCm X x d 0 yX11_does [(2, 215), (0, x2)] M3 (fun _ M4 => QRm X x (d + 1) qmX11_season post 46 [(0, (2, 215)), (2, (0, v2)), (3, (0, v3 + 1)), (4, (0, v4 + 1))] [] M4))) ∧ (¬ x3 = 0 → in32 x3 ∧ (QRm X x (d + 1) qmX11_season post 46 [(0, (2, 215)), (2, (0, v2)), (3, (0, v3)), (4, (0, v4 + 1))] [] M3)))))))) : QRm X x (d + 1) qmX11_season post 46 [(0, (2, 215)), (2, (0, v2)), (3, (0, v3)), (4, (0, v4))] [] M := qwp_ok qmX11_season_ok.1 [(46, [0, 2, 3, 4])] 53 (⟨t.1, t.2.1, fun z1 => ⟨(t.2.2.1 z1).1, (show in32 0 from ⟨by decide, by decide⟩), fun z2 => ⟨_, rfl, ((t.2.2.1 z1).2.1 z2)⟩, fun z2 => ⟨rfl, QC.mono ((t.2.2.1 z1).2.2 z2) (fun _ h1 u3 => by obtain ⟨M1, rfl, u3⟩ := u3; exact ⟨_, rfl, u3⟩)⟩⟩, fun z1 => ⟨rfl, QC.mono (t.2.2.2 z1) (fun x2 h2 u4 => by obtain ⟨M2, rfl, u4⟩ := u4; exact ⟨u4.1, ⟨rfl, QC.mono u4.2 (fun x3 h3 u5 => by obtain ⟨M3, rfl, u5⟩ := u5; exact ⟨fun z6 => ⟨rfl, QC.mono (u5.1 z6) (fun _ h4 u7 => by obtain ⟨M4, rfl, u7⟩ := u7; exact u7)⟩, fun z6 => ⟨(u5.2 z6).1, (show in32 0 from ⟨by decide, by decide⟩), (u5.2 z6).2⟩⟩)⟩⟩)⟩⟩)
theorem TX11_laysOpen_0 {X : QX} {x : Int} {d : Nat} {post : Int → QMem → Prop} {M : QMem} {v1 v2 : Int} (t : QRm X x (d + 1) qmX11_laysOpen post 2 [(0, (2, 215)), (1, (0, v1)), (2, (0, v2)), (3, (0, 0))] [] M) : QRm X x (d + 1) qmX11_laysOpen post 0 [(0, (2, 215)), (1, (0, v1)), (2, (0, v2))] [] M := qwp_ok qmX11_laysOpen_ok.1 [(2, [0, 1, 2, 3])] 46 (t)
theorem TX11_laysOpen_2 {X : QX} {x : Int} {d : Nat} {post : Int → QMem → Prop} {M : QMem} {v1 v2 v3 : Int} (t : QCm X x d 1 yX11_cells [(2, 215)] M (fun x1 M1 => in32 v3 ∧ in32 x1 ∧ (x1 ≤ v3 → (post 0 M1)) ∧ (¬ x1 ≤ v3 → ((v3 = M1 215 24 → ((0 : Int) ≤ v3 ∧ (v3 < 36 ∧ ((v2 = 0 → (QCm X x d 1 yX11_lieOn [(2, 215), (0, v3)] (qup M1 224 v3 0) (fun x2 M2 => QRm X x (d + 1) qmX11_laysOpen post 2 [(0, (2, 215)), (1, (0, v1)), (2, (0, v2)), (3, (0, v3 + 1))] [] (qup M2 225 v3 x2)))) ∧ (¬ v2 = 0 → in32 v2 ∧ (QCm X x d 1 yX11_costOf [(2, 215), (0, v1), (0, v3)] (qup M1 224 v3 0) (fun x3 M3 => QRm X x (d + 1) qmX11_laysOpen post 2 [(0, (2, 215)), (1, (0, v1)), (2, (0, v2)), (3, (0, v3 + 1))] [] (qup M3 225 v3 x3)))))))) ∧ (¬ v3 = M1 215 24 → in32 (M1 215 24) ∧ (QCm X x d 1 yX11_isOpen [(2, 215), (0, v1), (0, v3)] M1 (fun x4 M4 => (x4 = 0 → ((0 : Int) ≤ v3 ∧ (v3 < 36 ∧ ((v2 = 0 → (QCm X x d 1 yX11_lieOn [(2, 215), (0, v3)] (qup M4 224 v3 0) (fun x5 M5 => QRm X x (d + 1) qmX11_laysOpen post 2 [(0, (2, 215)), (1, (0, v1)), (2, (0, v2)), (3, (0, v3 + 1))] [] (qup M5 225 v3 x5)))) ∧ (¬ v2 = 0 → in32 v2 ∧ (QCm X x d 1 yX11_costOf [(2, 215), (0, v1), (0, v3)] (qup M4 224 v3 0) (fun x6 M6 => QRm X x (d + 1) qmX11_laysOpen post 2 [(0, (2, 215)), (1, (0, v1)), (2, (0, v2)), (3, (0, v3 + 1))] [] (qup M6 225 v3 x6)))))))) ∧ (¬ x4 = 0 → in32 x4 ∧ (QCm X x d 1 yX11_lets [(2, 215), (0, v1), (0, v3)] M4 (fun x7 M7 => (x7 = 0 → ((0 : Int) ≤ v3 ∧ (v3 < 36 ∧ ((v2 = 0 → (QCm X x d 1 yX11_lieOn [(2, 215), (0, v3)] (qup M7 224 v3 0) (fun x8 M8 => QRm X x (d + 1) qmX11_laysOpen post 2 [(0, (2, 215)), (1, (0, v1)), (2, (0, v2)), (3, (0, v3 + 1))] [] (qup M8 225 v3 x8)))) ∧ (¬ v2 = 0 → in32 v2 ∧ (QCm X x d 1 yX11_costOf [(2, 215), (0, v1), (0, v3)] (qup M7 224 v3 0) (fun x9 M9 => QRm X x (d + 1) qmX11_laysOpen post 2 [(0, (2, 215)), (1, (0, v1)), (2, (0, v2)), (3, (0, v3 + 1))] [] (qup M9 225 v3 x9)))))))) ∧ (¬ x7 = 0 → in32 x7 ∧ ((0 : Int) ≤ v3 ∧ (v3 < 36 ∧ ((v2 = 0 → (QCm X x d 1 yX11_lieOn [(2, 215), (0, v3)] (qup M7 224 v3 1) (fun x10 M10 => QRm X x (d + 1) qmX11_laysOpen post 2 [(0, (2, 215)), (1, (0, v1)), (2, (0, v2)), (3, (0, v3 + 1))] [] (qup M10 225 v3 x10)))) ∧ (¬ v2 = 0 → in32 v2 ∧ (QCm X x d 1 yX11_costOf [(2, 215), (0, v1), (0, v3)] (qup M7 224 v3 1) (fun x11 M11 => QRm X x (d + 1) qmX11_laysOpen post 2 [(0, (2, 215)), (1, (0, v1)), (2, (0, v2)), (3, (0, v3 + 1))] [] (qup M11 225 v3 x11)))))))))))))))))) : QRm X x (d + 1) qmX11_laysOpen post 2 [(0, (2, 215)), (1, (0, v1)), (2, (0, v2)), (3, (0, v3))] [] M := qwp_ok qmX11_laysOpen_ok.1 [(2, [0, 1, 2, 3])] 46 (⟨rfl, QC.mono t (fun x1 h1 u1 => by obtain ⟨M1, rfl, u1⟩ := u1; exact ⟨u1.1, u1.2.1, fun z2 => ⟨_, rfl, (u1.2.2.1 z2)⟩, fun z2 => ⟨rfl, ⟨rfl, ⟨fun z3 => ⟨(Or.inl rfl), ⟨rfl, ⟨((u1.2.2.2 z2).1 z3).1, ⟨((u1.2.2.2 z2).1 z3).2.1, ⟨rfl, ⟨fun z4 => ⟨rfl, QC.mono (((u1.2.2.2 z2).1 z3).2.2.1 z4) (fun x2 h2 u5 => by obtain ⟨M2, rfl, u5⟩ := u5; exact ⟨rfl, ⟨((u1.2.2.2 z2).1 z3).1, ⟨((u1.2.2.2 z2).1 z3).2.1, u5⟩⟩⟩)⟩, fun z4 => ⟨(((u1.2.2.2 z2).1 z3).2.2.2 z4).1, (show in32 0 from ⟨by decide, by decide⟩), ⟨rfl, QC.mono ((((u1.2.2.2 z2).1 z3).2.2.2 z4).2) (fun x3 h3 u6 => by obtain ⟨M3, rfl, u6⟩ := u6; exact ⟨rfl, ⟨((u1.2.2.2 z2).1 z3).1, ⟨((u1.2.2.2 z2).1 z3).2.1, u6⟩⟩⟩)⟩⟩⟩⟩⟩⟩⟩⟩, fun z3 => ⟨u1.1, ((u1.2.2.2 z2).2 z3).1, ⟨rfl, QC.mono (((u1.2.2.2 z2).2 z3).2) (fun x4 h4 u7 => by obtain ⟨M4, rfl, u7⟩ := u7; exact ⟨fun z8 => ⟨(Or.inl rfl), ⟨rfl, ⟨(u7.1 z8).1, ⟨(u7.1 z8).2.1, ⟨rfl, ⟨fun z9 => ⟨rfl, QC.mono ((u7.1 z8).2.2.1 z9) (fun x5 h5 u10 => by obtain ⟨M5, rfl, u10⟩ := u10; exact ⟨rfl, ⟨(u7.1 z8).1, ⟨(u7.1 z8).2.1, u10⟩⟩⟩)⟩, fun z9 => ⟨((u7.1 z8).2.2.2 z9).1, (show in32 0 from ⟨by decide, by decide⟩), ⟨rfl, QC.mono (((u7.1 z8).2.2.2 z9).2) (fun x6 h6 u11 => by obtain ⟨M6, rfl, u11⟩ := u11; exact ⟨rfl, ⟨(u7.1 z8).1, ⟨(u7.1 z8).2.1, u11⟩⟩⟩)⟩⟩⟩⟩⟩⟩⟩⟩, fun z8 => ⟨(u7.2 z8).1, (show in32 0 from ⟨by decide, by decide⟩), ⟨rfl, QC.mono ((u7.2 z8).2) (fun x7 h7 u12 => by obtain ⟨M7, rfl, u12⟩ := u12; exact ⟨fun z13 => ⟨(Or.inl rfl), ⟨rfl, ⟨(u12.1 z13).1, ⟨(u12.1 z13).2.1, ⟨rfl, ⟨fun z14 => ⟨rfl, QC.mono ((u12.1 z13).2.2.1 z14) (fun x8 h8 u15 => by obtain ⟨M8, rfl, u15⟩ := u15; exact ⟨rfl, ⟨(u12.1 z13).1, ⟨(u12.1 z13).2.1, u15⟩⟩⟩)⟩, fun z14 => ⟨((u12.1 z13).2.2.2 z14).1, (show in32 0 from ⟨by decide, by decide⟩), ⟨rfl, QC.mono (((u12.1 z13).2.2.2 z14).2) (fun x9 h9 u16 => by obtain ⟨M9, rfl, u16⟩ := u16; exact ⟨rfl, ⟨(u12.1 z13).1, ⟨(u12.1 z13).2.1, u16⟩⟩⟩)⟩⟩⟩⟩⟩⟩⟩⟩, fun z13 => ⟨(u12.2 z13).1, (show in32 0 from ⟨by decide, by decide⟩), ⟨(Or.inr rfl), ⟨rfl, ⟨(u12.2 z13).2.1, ⟨(u12.2 z13).2.2.1, ⟨rfl, ⟨fun z17 => ⟨rfl, QC.mono ((u12.2 z13).2.2.2.1 z17) (fun x10 h10 u18 => by obtain ⟨M10, rfl, u18⟩ := u18; exact ⟨rfl, ⟨(u12.2 z13).2.1, ⟨(u12.2 z13).2.2.1, u18⟩⟩⟩)⟩, fun z17 => ⟨((u12.2 z13).2.2.2.2 z17).1, (show in32 0 from ⟨by decide, by decide⟩), ⟨rfl, QC.mono (((u12.2 z13).2.2.2.2 z17).2) (fun x11 h11 u19 => by obtain ⟨M11, rfl, u19⟩ := u19; exact ⟨rfl, ⟨(u12.2 z13).2.1, ⟨(u12.2 z13).2.2.1, u19⟩⟩⟩)⟩⟩⟩⟩⟩⟩⟩⟩⟩⟩)⟩⟩⟩)⟩⟩⟩⟩⟩⟩)⟩)
theorem TX11_leftOf_0 {X : QX} {x : Int} {d : Nat} {post : Int → QMem → Prop} {M : QMem} {v1 : Int} (t : (0 : Int) ≤ 60 + v1 ∧ (60 + v1 < 13125 ∧ (post (16 - (M 216 (60 + v1))) M))) : QRm X x d qmX11_leftOf post 0 [(0, (2, 215)), (1, (0, v1))] [] M := qwp_ok qmX11_leftOf_ok.1 [] 11 (⟨rfl, ⟨rfl, ⟨t.1, ⟨t.2.1, ⟨_, rfl, t.2.2⟩⟩⟩⟩⟩)
theorem TX11_laysLeast_0 {X : QX} {x : Int} {d : Nat} {post : Int → QMem → Prop} {M : QMem} {v1 v2 v3 : Int} (t : QCm X x d 0 yX11_laysOpen [(2, 215), (0, v1), (0, v3)] M (fun _ M1 => QRm X x (d + 1) qmX11_laysLeast post 9 [(0, (2, 215)), (1, (0, v1)), (2, (0, v2)), (4, (0, 0))] [] M1)) : QRm X x (d + 1) qmX11_laysLeast post 0 [(0, (2, 215)), (1, (0, v1)), (2, (0, v2)), (3, (0, v3))] [] M := qwp_ok qmX11_laysLeast_ok.1 [(9, [0, 1, 2, 4]), (45, [0, 1, 4]), (58, [0, 1, 4, 5]), (75, [0, 1, 4, 5, 6, 7])] 96 (⟨rfl, QC.mono t (fun _ h1 u1 => by obtain ⟨M1, rfl, u1⟩ := u1; exact u1)⟩)
theorem TX11_laysLeast_9 {X : QX} {x : Int} {d : Nat} {post : Int → QMem → Prop} {M : QMem} {v1 v2 v4 : Int} (t : in32 v4 ∧ ((36 : Int) ≤ v4 → (QRm X x (d + 1) qmX11_laysLeast post 45 [(0, (2, 215)), (1, (0, v1)), (4, (0, 1))] [] M)) ∧ (¬ (36 : Int) ≤ v4 → ((v4 = v2 → ((0 : Int) ≤ v4 ∧ (v4 < 612 ∧ (QRm X x (d + 1) qmX11_laysLeast post 9 [(0, (2, 215)), (1, (0, v1)), (2, (0, v2)), (4, (0, v4 + 1))] [] (qup M 223 v4 0))))) ∧ (¬ v4 = v2 → in32 v2 ∧ ((0 : Int) ≤ v4 ∧ (v4 < 612 ∧ (QRm X x (d + 1) qmX11_laysLeast post 9 [(0, (2, 215)), (1, (0, v1)), (2, (0, v2)), (4, (0, v4 + 1))] [] (qup M 223 v4 268435456)))))))) : QRm X x (d + 1) qmX11_laysLeast post 9 [(0, (2, 215)), (1, (0, v1)), (2, (0, v2)), (4, (0, v4))] [] M := qwp_ok qmX11_laysLeast_ok.1 [(9, [0, 1, 2, 4]), (45, [0, 1, 4]), (58, [0, 1, 4, 5]), (75, [0, 1, 4, 5, 6, 7])] 96 (⟨t.1, (show in32 36 from ⟨by decide, by decide⟩), fun z1 => (t.2.1 z1), fun z1 => ⟨rfl, ⟨fun z2 => ⟨t.1, ((t.2.2 z1).2 z2).1, ⟨rfl, ⟨((t.2.2 z1).2 z2).2.1, ⟨((t.2.2 z1).2 z2).2.2.1, ((t.2.2 z1).2 z2).2.2.2⟩⟩⟩⟩, fun z2 => ⟨rfl, ⟨((t.2.2 z1).1 z2).1, ⟨((t.2.2 z1).1 z2).2.1, ((t.2.2 z1).1 z2).2.2⟩⟩⟩⟩⟩⟩)
theorem TX11_laysLeast_45 {X : QX} {x : Int} {d : Nat} {post : Int → QMem → Prop} {M : QMem} {v1 v4 : Int} (t : QCm X x d 1 yX11_leftOf [(2, 215), (0, v1)] M (fun x1 M1 => in32 v4 ∧ in32 x1 ∧ (x1 < v4 → (post 0 M1)) ∧ (¬ x1 < v4 → (QRm X x (d + 1) qmX11_laysLeast post 58 [(0, (2, 215)), (1, (0, v1)), (4, (0, v4)), (5, (0, 0))] [] M1)))) : QRm X x (d + 1) qmX11_laysLeast post 45 [(0, (2, 215)), (1, (0, v1)), (4, (0, v4))] [] M := qwp_ok qmX11_laysLeast_ok.1 [(9, [0, 1, 2, 4]), (45, [0, 1, 4]), (58, [0, 1, 4, 5]), (75, [0, 1, 4, 5, 6, 7])] 96 (⟨rfl, QC.mono t (fun x1 h1 u1 => by obtain ⟨M1, rfl, u1⟩ := u1; exact ⟨u1.1, u1.2.1, fun z2 => ⟨_, rfl, (u1.2.2.1 z2)⟩, fun z2 => (u1.2.2.2 z2)⟩)⟩)
theorem TX11_laysLeast_58 {X : QX} {x : Int} {d : Nat} {post : Int → QMem → Prop} {M : QMem} {v1 v4 v5 : Int} (t : QCm X x d 1 yX11_cells [(2, 215)] M (fun x1 M1 => in32 v5 ∧ in32 x1 ∧ (x1 ≤ v5 → (QRm X x (d + 1) qmX11_laysLeast post 45 [(0, (2, 215)), (1, (0, v1)), (4, (0, v4 + 1))] [] M1)) ∧ (¬ x1 ≤ v5 → (QRm X x (d + 1) qmX11_laysLeast post 75 [(0, (2, 215)), (1, (0, v1)), (4, (0, v4)), (5, (0, v5)), (6, (0, 268435456)), (7, (0, 1))] [] M1)))) : QRm X x (d + 1) qmX11_laysLeast post 58 [(0, (2, 215)), (1, (0, v1)), (4, (0, v4)), (5, (0, v5))] [] M := qwp_ok qmX11_laysLeast_ok.1 [(9, [0, 1, 2, 4]), (45, [0, 1, 4]), (58, [0, 1, 4, 5]), (75, [0, 1, 4, 5, 6, 7])] 96 (⟨rfl, QC.mono t (fun x1 h1 u1 => by obtain ⟨M1, rfl, u1⟩ := u1; exact ⟨u1.1, u1.2.1, fun z2 => (u1.2.2.1 z2), fun z2 => (u1.2.2.2 z2)⟩)⟩)
theorem TX11_laysLeast_75 {X : QX} {x : Int} {d : Nat} {post : Int → QMem → Prop} {M : QMem} {v1 v4 v5 v6 v7 : Int} (t : in32 v7 ∧ ((4 : Int) < v7 → ((0 : Int) ≤ (36 * v4) + v5 ∧ ((36 * v4) + v5 < 612 ∧ (QRm X x (d + 1) qmX11_laysLeast post 58 [(0, (2, 215)), (1, (0, v1)), (4, (0, v4)), (5, (0, v5 + 1))] [] (qup M 223 ((36 * v4) + v5) v6))))) ∧ (¬ (4 : Int) < v7 → (QCm X x d 1 yX11_beside [(2, 215), (0, v5), (0, v7)] M (fun x1 M1 => (x1 = (-1) → (QRm X x (d + 1) qmX11_laysLeast post 75 [(0, (2, 215)), (1, (0, v1)), (4, (0, v4)), (5, (0, v5)), (6, (0, v6)), (7, (0, v7 + 1))] [] M1)) ∧ (¬ x1 = (-1) → in32 x1 ∧ ((0 : Int) ≤ x1 ∧ (x1 < 36 ∧ ((M1 224 x1 = 0 → (QRm X x (d + 1) qmX11_laysLeast post 75 [(0, (2, 215)), (1, (0, v1)), (4, (0, v4)), (5, (0, v5)), (6, (0, v6)), (7, (0, v7 + 1))] [] M1)) ∧ (¬ M1 224 x1 = 0 → in32 (M1 224 x1) ∧ ((0 : Int) ≤ (36 * (v4 - 1)) + x1 ∧ ((36 * (v4 - 1)) + x1 < 612 ∧ (in32 ((M1 223 ((36 * (v4 - 1)) + x1)) + (M1 225 x1)) ∧ in32 v6 ∧ (v6 ≤ (M1 223 ((36 * (v4 - 1)) + x1)) + (M1 225 x1) → (QRm X x (d + 1) qmX11_laysLeast post 75 [(0, (2, 215)), (1, (0, v1)), (4, (0, v4)), (5, (0, v5)), (6, (0, v6)), (7, (0, v7 + 1))] [] M1)) ∧ (¬ v6 ≤ (M1 223 ((36 * (v4 - 1)) + x1)) + (M1 225 x1) → (QRm X x (d + 1) qmX11_laysLeast post 75 [(0, (2, 215)), (1, (0, v1)), (4, (0, v4)), (5, (0, v5)), (6, (0, (M1 223 ((36 * (v4 - 1)) + x1)) + (M1 225 x1))), (7, (0, v7 + 1))] [] M1)))))))))))))) : QRm X x (d + 1) qmX11_laysLeast post 75 [(0, (2, 215)), (1, (0, v1)), (4, (0, v4)), (5, (0, v5)), (6, (0, v6)), (7, (0, v7))] [] M := qwp_ok qmX11_laysLeast_ok.1 [(9, [0, 1, 2, 4]), (45, [0, 1, 4]), (58, [0, 1, 4, 5]), (75, [0, 1, 4, 5, 6, 7])] 96 (⟨t.1, (show in32 4 from ⟨by decide, by decide⟩), fun z1 => ⟨rfl, ⟨rfl, ⟨(t.2.1 z1).1, ⟨(t.2.1 z1).2.1, (t.2.1 z1).2.2⟩⟩⟩⟩, fun z1 => ⟨rfl, QC.mono (t.2.2 z1) (fun x1 h1 u2 => by obtain ⟨M1, rfl, u2⟩ := u2; exact ⟨fun z3 => (u2.1 z3), fun z3 => ⟨(u2.2 z3).1, (show in32 (-1) from ⟨by decide, by decide⟩), ⟨rfl, ⟨rfl, ⟨(u2.2 z3).2.1, ⟨(u2.2 z3).2.2.1, ⟨fun z4 => ⟨((u2.2 z3).2.2.2.2 z4).1, (show in32 0 from ⟨by decide, by decide⟩), ⟨rfl, ⟨rfl, ⟨((u2.2 z3).2.2.2.2 z4).2.1, ⟨((u2.2 z3).2.2.2.2 z4).2.2.1, ⟨rfl, ⟨rfl, ⟨(u2.2 z3).2.1, ⟨(u2.2 z3).2.2.1, ⟨((u2.2 z3).2.2.2.2 z4).2.2.2.1, ((u2.2 z3).2.2.2.2 z4).2.2.2.2.1, fun z5 => (((u2.2 z3).2.2.2.2 z4).2.2.2.2.2.1 z5), fun z5 => (((u2.2 z3).2.2.2.2 z4).2.2.2.2.2.2 z5)⟩⟩⟩⟩⟩⟩⟩⟩⟩⟩, fun z4 => ((u2.2 z3).2.2.2.1 z4)⟩⟩⟩⟩⟩⟩⟩)⟩⟩)
theorem TX11_cellsBy_0 {X : QX} {x : Int} {d : Nat} {post : Int → QMem → Prop} {M : QMem} {v1 : Int} (t : QRm X x (d + 1) qmX11_cellsBy post 4 [(0, (2, 215)), (1, (0, v1)), (2, (0, (-1))), (3, (0, 0))] [] M) : QRm X x (d + 1) qmX11_cellsBy post 0 [(0, (2, 215)), (1, (0, v1))] [] M := qwp_ok qmX11_cellsBy_ok.1 [(4, [0, 1, 2, 3])] 46 (t)
theorem TX11_cellsBy_4 {X : QX} {x : Int} {d : Nat} {post : Int → QMem → Prop} {M : QMem} {v1 v2 v3 : Int} (t : QCm X x d 1 yX11_leftOf [(2, 215), (0, v1)] M (fun x1 M1 => in32 v3 ∧ in32 x1 ∧ (x1 < v3 → (post v2 M1)) ∧ (¬ x1 < v3 → (QCm X x d 1 yX11_endOf [(2, 215), (0, v1)] M1 (fun x2 M2 => (0 : Int) ≤ (36 * v3) + x2 ∧ ((36 * v3) + x2 < 612 ∧ (in32 (M2 223 ((36 * v3) + x2)) ∧ ((268435456 : Int) ≤ M2 223 ((36 * v3) + x2) → (QRm X x (d + 1) qmX11_cellsBy post 4 [(0, (2, 215)), (1, (0, v1)), (2, (0, v2)), (3, (0, v3 + 1))] [] M2)) ∧ (¬ (268435456 : Int) ≤ M2 223 ((36 * v3) + x2) → ((v2 = (-1) → (QRm X x (d + 1) qmX11_cellsBy post 4 [(0, (2, 215)), (1, (0, v1)), (2, (0, v3)), (3, (0, v3 + 1))] [] M2)) ∧ (¬ v2 = (-1) → in32 v2 ∧ (QCm X x d 1 yX11_endOf [(2, 215), (0, v1)] M2 (fun x3 M3 => (0 : Int) ≤ (36 * v2) + x3 ∧ ((36 * v2) + x3 < 612 ∧ (in32 (M3 223 ((36 * v2) + x3)) ∧ (M3 223 ((36 * v2) + x3) ≤ M2 223 ((36 * v3) + x2) → (QRm X x (d + 1) qmX11_cellsBy post 4 [(0, (2, 215)), (1, (0, v1)), (2, (0, v2)), (3, (0, v3 + 1))] [] M3)) ∧ (¬ M3 223 ((36 * v2) + x3) ≤ M2 223 ((36 * v3) + x2) → (QRm X x (d + 1) qmX11_cellsBy post 4 [(0, (2, 215)), (1, (0, v1)), (2, (0, v3)), (3, (0, v3 + 1))] [] M3)))))))))))))))) : QRm X x (d + 1) qmX11_cellsBy post 4 [(0, (2, 215)), (1, (0, v1)), (2, (0, v2)), (3, (0, v3))] [] M := qwp_ok qmX11_cellsBy_ok.1 [(4, [0, 1, 2, 3])] 46 (⟨rfl, QC.mono t (fun x1 h1 u1 => by obtain ⟨M1, rfl, u1⟩ := u1; exact ⟨u1.1, u1.2.1, fun z2 => ⟨_, rfl, (u1.2.2.1 z2)⟩, fun z2 => ⟨rfl, ⟨rfl, QC.mono (u1.2.2.2 z2) (fun x2 h2 u3 => by obtain ⟨M2, rfl, u3⟩ := u3; exact ⟨rfl, ⟨u3.1, ⟨u3.2.1, ⟨u3.2.2.1, (show in32 268435456 from ⟨by decide, by decide⟩), fun z4 => (u3.2.2.2.1 z4), fun z4 => ⟨fun z5 => ((u3.2.2.2.2 z4).1 z5), fun z5 => ⟨((u3.2.2.2.2 z4).2 z5).1, (show in32 (-1) from ⟨by decide, by decide⟩), ⟨rfl, ⟨rfl, QC.mono (((u3.2.2.2.2 z4).2 z5).2) (fun x3 h3 u6 => by obtain ⟨M3, rfl, u6⟩ := u6; exact ⟨rfl, ⟨u6.1, ⟨u6.2.1, ⟨u3.2.2.1, u6.2.2.1, fun z7 => (u6.2.2.2.1 z7), fun z7 => (u6.2.2.2.2 z7)⟩⟩⟩⟩)⟩⟩⟩⟩⟩⟩⟩⟩)⟩⟩⟩)⟩)
theorem TX11_leastFor_0 {X : QX} {x : Int} {d : Nat} {post : Int → QMem → Prop} {M : QMem} {v1 v2 v3 : Int} (t : QCm X x d 0 yX11_laysLeast [(2, 215), (0, v1), (0, v2), (0, v3)] M (fun _ M1 => QCm X x d 1 yX11_cellsBy [(2, 215), (0, v1)] M1 (fun x2 M2 => (x2 = (-1) → (post (-1) M2)) ∧ (¬ x2 = (-1) → in32 x2 ∧ (QCm X x d 1 yX11_endOf [(2, 215), (0, v1)] M2 (fun x3 M3 => (0 : Int) ≤ (36 * x2) + x3 ∧ ((36 * x2) + x3 < 612 ∧ (post (M3 223 ((36 * x2) + x3)) M3)))))))) : QRm X x (d + 1) qmX11_leastFor post 0 [(0, (2, 215)), (1, (0, v1)), (2, (0, v2)), (3, (0, v3))] [] M := qwp_ok qmX11_leastFor_ok.1 [] 27 (⟨rfl, QC.mono t (fun _ h1 u1 => by obtain ⟨M1, rfl, u1⟩ := u1; exact ⟨rfl, QC.mono u1 (fun x2 h2 u2 => by obtain ⟨M2, rfl, u2⟩ := u2; exact ⟨fun z3 => ⟨(u2.2 z3).1, (show in32 (-1) from ⟨by decide, by decide⟩), ⟨rfl, ⟨rfl, QC.mono ((u2.2 z3).2) (fun x3 h3 u4 => by obtain ⟨M3, rfl, u4⟩ := u4; exact ⟨rfl, ⟨u4.1, ⟨u4.2.1, ⟨_, rfl, u4.2.2⟩⟩⟩⟩)⟩⟩⟩, fun z3 => ⟨_, rfl, (u2.1 z3)⟩⟩)⟩)⟩)
theorem TX11_laysWay_0 {X : QX} {x : Int} {d : Nat} {post : Int → QMem → Prop} {M : QMem} {v1 v2 : Int} (t : QCm X x d 0 yX11_laysLeast [(2, 215), (0, v1), (0, v2), (0, 1)] M (fun _ M1 => QCm X x d 1 yX11_cellsBy [(2, 215), (0, v1)] M1 (fun x2 M2 => QCm X x d 1 yX11_endOf [(2, 215), (0, v1)] M2 (fun x3 M3 => QRm X x (d + 1) qmX11_laysWay post 28 [(0, (2, 215)), (3, (0, x2)), (4, (0, x3)), (5, (0, 0))] [] (qup M3 215 26 0))))) : QRm X x (d + 1) qmX11_laysWay post 0 [(0, (2, 215)), (1, (0, v1)), (2, (0, v2))] [] M := qwp_ok qmX11_laysWay_ok.1 [(28, [0, 3, 4, 5]), (43, [0, 3, 4, 5, 6, 7])] 59 (⟨rfl, QC.mono t (fun _ h1 u1 => by obtain ⟨M1, rfl, u1⟩ := u1; exact ⟨rfl, QC.mono u1 (fun x2 h2 u2 => by obtain ⟨M2, rfl, u2⟩ := u2; exact ⟨rfl, QC.mono u2 (fun x3 h3 u3 => by obtain ⟨M3, rfl, u3⟩ := u3; exact ⟨rfl, u3⟩)⟩)⟩)⟩)
theorem TX11_laysWay_28 {X : QX} {x : Int} {d : Nat} {post : Int → QMem → Prop} {M : QMem} {v3 v4 v5 : Int} (t : in32 v5 ∧ in32 v3 ∧ (v3 ≤ v5 → (post v3 M)) ∧ (¬ v3 ≤ v5 → (QRm X x (d + 1) qmX11_laysWay post 43 [(0, (2, 215)), (3, (0, v3)), (4, (0, v4)), (5, (0, v5)), (6, (0, v3 - v5)), (7, (0, 1))] [] M))) : QRm X x (d + 1) qmX11_laysWay post 28 [(0, (2, 215)), (3, (0, v3)), (4, (0, v4)), (5, (0, v5))] [] M := qwp_ok qmX11_laysWay_ok.1 [(28, [0, 3, 4, 5]), (43, [0, 3, 4, 5, 6, 7])] 59 (⟨t.1, t.2.1, fun z1 => ⟨_, rfl, (t.2.2.1 z1)⟩, fun z1 => (t.2.2.2 z1)⟩)
theorem TX11_laysWay_43 {X : QX} {x : Int} {d : Nat} {post : Int → QMem → Prop} {M : QMem} {v3 v4 v5 v6 v7 : Int} (t : QCm X x d 1 yX11_isNext [(2, 215), (0, v4), (0, v7), (0, v6)] M (fun x1 M1 => (x1 = 0 → (QRm X x (d + 1) qmX11_laysWay post 43 [(0, (2, 215)), (3, (0, v3)), (4, (0, v4)), (5, (0, v5)), (6, (0, v6)), (7, (0, v7 + 1))] [] M1)) ∧ (¬ x1 = 0 → in32 x1 ∧ ((0 : Int) ≤ v5 ∧ (v5 < 16 ∧ (QCm X x d 1 yX11_beside [(2, 215), (0, v4), (0, v7)] (qup M1 226 v5 v7) (fun x2 M2 => QRm X x (d + 1) qmX11_laysWay post 28 [(0, (2, 215)), (3, (0, v3)), (4, (0, x2)), (5, (0, v5 + 1))] [] (qup M2 215 26 (qlor (M2 215 26) (qlshl 1 x2)))))))))) : QRm X x (d + 1) qmX11_laysWay post 43 [(0, (2, 215)), (3, (0, v3)), (4, (0, v4)), (5, (0, v5)), (6, (0, v6)), (7, (0, v7))] [] M := qwp_ok qmX11_laysWay_ok.1 [(28, [0, 3, 4, 5]), (43, [0, 3, 4, 5, 6, 7])] 59 (⟨rfl, QC.mono t (fun x1 h1 u1 => by obtain ⟨M1, rfl, u1⟩ := u1; exact ⟨fun z2 => ⟨(u1.2 z2).1, (show in32 0 from ⟨by decide, by decide⟩), ⟨rfl, ⟨rfl, ⟨(u1.2 z2).2.1, ⟨(u1.2 z2).2.2.1, ⟨rfl, QC.mono ((u1.2 z2).2.2.2) (fun x2 h2 u3 => by obtain ⟨M2, rfl, u3⟩ := u3; exact ⟨rfl, ⟨rfl, u3⟩⟩)⟩⟩⟩⟩⟩⟩, fun z2 => (u1.1 z2)⟩)⟩)
theorem TX11_isNext_0 {X : QX} {x : Int} {d : Nat} {post : Int → QMem → Prop} {M : QMem} {v1 v2 v3 : Int} (t : QCm X x d 1 yX11_beside [(2, 215), (0, v1), (0, v2)] M (fun x1 M1 => (x1 = (-1) → (post 0 M1)) ∧ (¬ x1 = (-1) → in32 x1 ∧ ((0 : Int) ≤ x1 ∧ (x1 < 36 ∧ ((M1 224 x1 = 0 → (post 0 M1)) ∧ (¬ M1 224 x1 = 0 → in32 (M1 224 x1) ∧ ((0 : Int) ≤ (36 * (v3 - 1)) + x1 ∧ ((36 * (v3 - 1)) + x1 < 612 ∧ ((0 : Int) ≤ (36 * v3) + v1 ∧ ((36 * v3) + v1 < 612 ∧ (((M1 223 ((36 * (v3 - 1)) + x1)) + (M1 225 x1) = M1 223 ((36 * v3) + v1) → (post 1 M1)) ∧ (¬ (M1 223 ((36 * (v3 - 1)) + x1)) + (M1 225 x1) = M1 223 ((36 * v3) + v1) → in32 ((M1 223 ((36 * (v3 - 1)) + x1)) + (M1 225 x1)) ∧ in32 (M1 223 ((36 * v3) + v1)) ∧ (post 0 M1)))))))))))))) : QRm X x (d + 1) qmX11_isNext post 0 [(0, (2, 215)), (1, (0, v1)), (2, (0, v2)), (3, (0, v3))] [] M := qwp_ok qmX11_isNext_ok.1 [] 43 (⟨rfl, QC.mono t (fun x1 h1 u1 => by obtain ⟨M1, rfl, u1⟩ := u1; exact ⟨fun z2 => ⟨(Or.inl rfl), ⟨_, rfl, (u1.1 z2)⟩⟩, fun z2 => ⟨(u1.2 z2).1, (show in32 (-1) from ⟨by decide, by decide⟩), ⟨rfl, ⟨rfl, ⟨(u1.2 z2).2.1, ⟨(u1.2 z2).2.2.1, ⟨fun z3 => ⟨(Or.inl rfl), ⟨_, rfl, ((u1.2 z2).2.2.2.1 z3)⟩⟩, fun z3 => ⟨((u1.2 z2).2.2.2.2 z3).1, (show in32 0 from ⟨by decide, by decide⟩), ⟨rfl, ⟨rfl, ⟨((u1.2 z2).2.2.2.2 z3).2.1, ⟨((u1.2 z2).2.2.2.2 z3).2.2.1, ⟨rfl, ⟨rfl, ⟨(u1.2 z2).2.1, ⟨(u1.2 z2).2.2.1, ⟨rfl, ⟨rfl, ⟨((u1.2 z2).2.2.2.2 z3).2.2.2.1, ⟨((u1.2 z2).2.2.2.2 z3).2.2.2.2.1, ⟨fun z4 => ⟨(((u1.2 z2).2.2.2.2 z3).2.2.2.2.2.2 z4).1, (((u1.2 z2).2.2.2.2 z3).2.2.2.2.2.2 z4).2.1, ⟨(Or.inl rfl), ⟨_, rfl, (((u1.2 z2).2.2.2.2 z3).2.2.2.2.2.2 z4).2.2⟩⟩⟩, fun z4 => ⟨(Or.inr rfl), ⟨_, rfl, (((u1.2 z2).2.2.2.2 z3).2.2.2.2.2.1 z4)⟩⟩⟩⟩⟩⟩⟩⟩⟩⟩⟩⟩⟩⟩⟩⟩⟩⟩⟩⟩⟩⟩⟩)⟩)
theorem TX11_reach_0 {X : QX} {x : Int} {d : Nat} {post : Int → QMem → Prop} {M : QMem} {v1 : Int} (t : in32 v1 ∧ (QCm X x d 1 yX11_isDrum [(2, 215), (1, v1)] (qup M 215 0 0) (fun x1 M1 => (x1 = 0 → (post (-2) M1)) ∧ (¬ x1 = 0 → in32 x1 ∧ (QRm X x (d + 1) qmX11_reach post 23 [(0, (2, 215)), (1, (0, v1)), (2, (1, 0)), (4, (0, 0))] [] M1))))) : QRm X x (d + 1) qmX11_reach post 0 [(0, (2, 215)), (1, (0, v1))] [] M := qwp_ok qmX11_reach_ok.1 [(23, [0, 1, 2, 4])] 49 (⟨rfl, ⟨t.1, ⟨rfl, QC.mono t.2 (fun x1 h1 u1 => by obtain ⟨M1, rfl, u1⟩ := u1; exact ⟨fun z2 => ⟨(u1.2 z2).1, (show in32 0 from ⟨by decide, by decide⟩), (u1.2 z2).2⟩, fun z2 => ⟨_, rfl, (u1.1 z2)⟩⟩)⟩⟩⟩)
theorem TX11_reach_23 {X : QX} {x : Int} {d : Nat} {post : Int → QMem → Prop} {M : QMem} {v1 v2 v4 : Int} (t : QCm X x d 1 yX11_cells [(2, 215)] M (fun x1 M1 => in32 v4 ∧ in32 x1 ∧ (x1 ≤ v4 → (post v2 M1)) ∧ (¬ x1 ≤ v4 → (QCm X x d 1 yX11_leastFor [(2, 215), (0, v1), (0, v4), (0, 1)] M1 (fun x2 M2 => (x2 = (-1) → (QRm X x (d + 1) qmX11_reach post 23 [(0, (2, 215)), (1, (0, v1)), (2, (1, qlor v2 0)), (4, (0, v4 + 1))] [] M2)) ∧ (¬ x2 = (-1) → in32 x2 ∧ ((0 : Int) ≤ 54 + v1 ∧ (54 + v1 < 13125 ∧ (in32 (M2 216 (54 + v1)) ∧ (M2 216 (54 + v1) < x2 → (QRm X x (d + 1) qmX11_reach post 23 [(0, (2, 215)), (1, (0, v1)), (2, (1, qlor v2 0)), (4, (0, v4 + 1))] [] M2)) ∧ (¬ M2 216 (54 + v1) < x2 → (QRm X x (d + 1) qmX11_reach post 23 [(0, (2, 215)), (1, (0, v1)), (2, (1, qlor v2 (qlshl 1 v4))), (4, (0, v4 + 1))] [] M2))))))))))) : QRm X x (d + 1) qmX11_reach post 23 [(0, (2, 215)), (1, (0, v1)), (2, (1, v2)), (4, (0, v4))] [] M := qwp_ok qmX11_reach_ok.1 [(23, [0, 1, 2, 4])] 49 (⟨rfl, QC.mono t (fun x1 h1 u1 => by obtain ⟨M1, rfl, u1⟩ := u1; exact ⟨u1.1, u1.2.1, fun z2 => ⟨_, rfl, (u1.2.2.1 z2)⟩, fun z2 => ⟨rfl, QC.mono (u1.2.2.2 z2) (fun x2 h2 u3 => by obtain ⟨M2, rfl, u3⟩ := u3; exact ⟨fun z4 => (u3.1 z4), fun z4 => ⟨(u3.2 z4).1, (show in32 (-1) from ⟨by decide, by decide⟩), ⟨rfl, ⟨rfl, ⟨(u3.2 z4).2.1, ⟨(u3.2 z4).2.2.1, ⟨(u3.2 z4).1, (u3.2 z4).2.2.2.1, fun z5 => ((u3.2 z4).2.2.2.2.1 z5), fun z5 => ((u3.2 z4).2.2.2.2.2 z5)⟩⟩⟩⟩⟩⟩⟩)⟩⟩)⟩)
theorem TX11_fewest_0 {X : QX} {x : Int} {d : Nat} {post : Int → QMem → Prop} {M : QMem} {v1 v2 : Int} (t : in32 v1 ∧ (QCm X x d 1 yX11_isDrum [(2, 215), (1, v1)] (qup M 215 0 0) (fun x1 M1 => (x1 = 0 → (post (-2) M1)) ∧ (¬ x1 = 0 → in32 x1 ∧ (in32 v2 ∧ (QCm X x d 1 yX11_isCell [(2, 215), (1, v2)] M1 (fun x2 M2 => (x2 = 0 → (post (-2) M2)) ∧ (¬ x2 = 0 → in32 x2 ∧ (QCm X x d 1 yX11_leastFor [(2, 215), (0, v1), (0, v2), (0, 1)] M2 (fun x3 M3 => post x3 M3)))))))))) : QRm X x (d + 1) qmX11_fewest post 0 [(0, (2, 215)), (1, (0, v1)), (2, (0, v2))] [] M := qwp_ok qmX11_fewest_ok.1 [] 23 (⟨rfl, ⟨t.1, ⟨rfl, QC.mono t.2 (fun x1 h1 u1 => by obtain ⟨M1, rfl, u1⟩ := u1; exact ⟨fun z2 => ⟨_, rfl, (u1.1 z2)⟩, fun z2 => ⟨(u1.2 z2).1, (show in32 0 from ⟨by decide, by decide⟩), ⟨(u1.2 z2).2.1, ⟨rfl, QC.mono ((u1.2 z2).2.2) (fun x2 h2 u3 => by obtain ⟨M2, rfl, u3⟩ := u3; exact ⟨fun z4 => ⟨_, rfl, (u3.1 z4)⟩, fun z4 => ⟨(u3.2 z4).1, (show in32 0 from ⟨by decide, by decide⟩), ⟨rfl, QC.mono ((u3.2 z4).2) (fun x3 h3 u5 => by obtain ⟨M3, rfl, u5⟩ := u5; exact ⟨_, rfl, u5⟩)⟩⟩⟩)⟩⟩⟩⟩)⟩⟩⟩)
theorem TX11_way_0 {X : QX} {x : Int} {d : Nat} {post : Int → QMem → Prop} {M : QMem} {v1 v2 v3 : Int} (t : in32 v1 ∧ (QCm X x d 1 yX11_isDrum [(2, 215), (1, v1)] (qup M 215 0 0) (fun x1 M1 => (x1 = 0 → (post (-2) M1)) ∧ (¬ x1 = 0 → in32 x1 ∧ (in32 v2 ∧ (QCm X x d 1 yX11_isCell [(2, 215), (1, v2)] M1 (fun x2 M2 => (x2 = 0 → (post (-2) M2)) ∧ (¬ x2 = 0 → in32 x2 ∧ (in32 v3 ∧ ((0 : Int) ≤ v3 → (QCm X x d 1 yX11_laysWay [(2, 215), (0, v1), (0, v2)] M2 (fun x3 M3 => in32 x3 ∧ (x3 ≤ v3 → (post (-1) M3)) ∧ (¬ x3 ≤ v3 → ((0 : Int) ≤ v3 ∧ (v3 < 16 ∧ (post (M3 226 v3) M3))))))) ∧ (¬ (0 : Int) ≤ v3 → (post (-3) M2))))))))))) : QRm X x (d + 1) qmX11_way post 0 [(0, (2, 215)), (1, (0, v1)), (2, (0, v2)), (3, (0, v3))] [] M := qwp_ok qmX11_way_ok.1 [] 36 (⟨rfl, ⟨t.1, ⟨rfl, QC.mono t.2 (fun x1 h1 u1 => by obtain ⟨M1, rfl, u1⟩ := u1; exact ⟨fun z2 => ⟨_, rfl, (u1.1 z2)⟩, fun z2 => ⟨(u1.2 z2).1, (show in32 0 from ⟨by decide, by decide⟩), ⟨(u1.2 z2).2.1, ⟨rfl, QC.mono ((u1.2 z2).2.2) (fun x2 h2 u3 => by obtain ⟨M2, rfl, u3⟩ := u3; exact ⟨fun z4 => ⟨(u3.2 z4).1, (show in32 0 from ⟨by decide, by decide⟩), ⟨(u3.2 z4).2.1, (show in32 0 from ⟨by decide, by decide⟩), fun z5 => ⟨rfl, QC.mono ((u3.2 z4).2.2.1 z5) (fun x3 h3 u6 => by obtain ⟨M3, rfl, u6⟩ := u6; exact ⟨(u3.2 z4).2.1, u6.1, fun z7 => ⟨_, rfl, (u6.2.1 z7)⟩, fun z7 => ⟨rfl, ⟨rfl, ⟨(u6.2.2 z7).1, ⟨(u6.2.2 z7).2.1, ⟨_, rfl, (u6.2.2 z7).2.2⟩⟩⟩⟩⟩⟩)⟩, fun z5 => ⟨_, rfl, ((u3.2 z4).2.2.2 z5)⟩⟩⟩, fun z4 => ⟨_, rfl, (u3.1 z4)⟩⟩)⟩⟩⟩⟩)⟩⟩⟩)
theorem TX11_waysFrom_0 {X : QX} {x : Int} {d : Nat} {post : Int → QMem → Prop} {M : QMem} {v1 v2 v3 v4 : Int} (t : (v3 = 0 → ((v1 = v2 → (post 1 M)) ∧ (¬ v1 = v2 → in32 v1 ∧ in32 v2 ∧ (post 0 M)))) ∧ (¬ v3 = 0 → in32 v3 ∧ (QRm X x (d + 1) qmX11_waysFrom post 21 [(0, (2, 215)), (1, (0, v1)), (2, (0, v2)), (3, (0, v3)), (4, (1, v4)), (6, (0, 0)), (7, (0, 1))] [] M))) : QRm X x (d + 1) qmX11_waysFrom post 0 [(0, (2, 215)), (1, (0, v1)), (2, (0, v2)), (3, (0, v3)), (4, (1, v4))] [] M := qwp_ok qmX11_waysFrom_ok.1 [(21, [0, 1, 2, 3, 4, 6, 7])] 54 (⟨fun z1 => ⟨(t.2 z1).1, (show in32 0 from ⟨by decide, by decide⟩), (t.2 z1).2⟩, fun z1 => ⟨fun z2 => ⟨((t.1 z1).2 z2).1, ((t.1 z1).2 z2).2.1, ⟨_, rfl, ((t.1 z1).2 z2).2.2⟩⟩, fun z2 => ⟨_, rfl, ((t.1 z1).1 z2)⟩⟩⟩)
theorem TX11_waysFrom_21 {X : QX} {x : Int} {d : Nat} {post : Int → QMem → Prop} {M : QMem} {v1 v2 v3 v4 v6 v7 : Int} (t : in32 v7 ∧ ((4 : Int) < v7 → (post v6 M)) ∧ (¬ (4 : Int) < v7 → (QCm X x d 1 yX11_beside [(2, 215), (0, v1), (0, v7)] M (fun x1 M1 => (x1 = (-1) → (QRm X x (d + 1) qmX11_waysFrom post 21 [(0, (2, 215)), (1, (0, v1)), (2, (0, v2)), (3, (0, v3)), (4, (1, v4)), (6, (0, v6)), (7, (0, v7 + 1))] [] M1)) ∧ (¬ x1 = (-1) → in32 x1 ∧ ((0 : Int) ≤ x1 ∧ (x1 < 36 ∧ ((M1 224 x1 = 0 → (QRm X x (d + 1) qmX11_waysFrom post 21 [(0, (2, 215)), (1, (0, v1)), (2, (0, v2)), (3, (0, v3)), (4, (1, v4)), (6, (0, v6)), (7, (0, v7 + 1))] [] M1)) ∧ (¬ M1 224 x1 = 0 → in32 (M1 224 x1) ∧ (QCm X x d 1 yX11_isIn [(1, v4), (0, x1)] M1 (fun x2 M2 => (x2 = 0 → (QCm X x d 1 yX11_waysFrom [(2, 215), (0, x1), (0, v2), (0, v3 - 1), (1, qlor v4 (qlshl 1 x1))] M2 (fun x3 M3 => QRm X x (d + 1) qmX11_waysFrom post 21 [(0, (2, 215)), (1, (0, v1)), (2, (0, v2)), (3, (0, v3)), (4, (1, v4)), (6, (0, v6 + x3)), (7, (0, v7 + 1))] [] M3))) ∧ (¬ x2 = 0 → in32 x2 ∧ (QRm X x (d + 1) qmX11_waysFrom post 21 [(0, (2, 215)), (1, (0, v1)), (2, (0, v2)), (3, (0, v3)), (4, (1, v4)), (6, (0, v6)), (7, (0, v7 + 1))] [] M2))))))))))))) : QRm X x (d + 1) qmX11_waysFrom post 21 [(0, (2, 215)), (1, (0, v1)), (2, (0, v2)), (3, (0, v3)), (4, (1, v4)), (6, (0, v6)), (7, (0, v7))] [] M := qwp_ok qmX11_waysFrom_ok.1 [(21, [0, 1, 2, 3, 4, 6, 7])] 54 (⟨t.1, (show in32 4 from ⟨by decide, by decide⟩), fun z1 => ⟨_, rfl, (t.2.1 z1)⟩, fun z1 => ⟨rfl, QC.mono (t.2.2 z1) (fun x1 h1 u2 => by obtain ⟨M1, rfl, u2⟩ := u2; exact ⟨fun z3 => (u2.1 z3), fun z3 => ⟨(u2.2 z3).1, (show in32 (-1) from ⟨by decide, by decide⟩), ⟨rfl, ⟨rfl, ⟨(u2.2 z3).2.1, ⟨(u2.2 z3).2.2.1, ⟨fun z4 => ((u2.2 z3).2.2.2.1 z4), fun z4 => ⟨((u2.2 z3).2.2.2.2 z4).1, (show in32 0 from ⟨by decide, by decide⟩), QC.mono (((u2.2 z3).2.2.2.2 z4).2) (fun x2 h2 u5 => by obtain ⟨M2, rfl, u5⟩ := u5; exact ⟨fun z6 => ⟨(u5.2 z6).1, (show in32 0 from ⟨by decide, by decide⟩), (u5.2 z6).2⟩, fun z6 => ⟨rfl, QC.mono (u5.1 z6) (fun x3 h3 u7 => by obtain ⟨M3, rfl, u7⟩ := u7; exact u7)⟩⟩)⟩⟩⟩⟩⟩⟩⟩⟩)⟩⟩)
theorem TX11_ways_0 {X : QX} {x : Int} {d : Nat} {post : Int → QMem → Prop} {M : QMem} {v1 v2 v3 : Int} (t : in32 v1 ∧ (QCm X x d 1 yX11_isDrum [(2, 215), (1, v1)] (qup M 215 0 0) (fun x1 M1 => (x1 = 0 → (post (-2) M1)) ∧ (¬ x1 = 0 → in32 x1 ∧ (in32 v2 ∧ (QCm X x d 1 yX11_isCell [(2, 215), (1, v2)] M1 (fun x2 M2 => (x2 = 0 → (post (-2) M2)) ∧ (¬ x2 = 0 → in32 x2 ∧ (in32 v3 ∧ (QCm X x d 1 yX11_within [(1, v3), (1, 0), (1, 8)] M2 (fun x3 M3 => (x3 = 0 → (post (-3) M3)) ∧ (¬ x3 = 0 → in32 x3 ∧ (QCm X x d 0 yX11_laysOpen [(2, 215), (0, v1), (0, 1)] M3 (fun _ M4 => QCm X x d 1 yX11_leftOf [(2, 215), (0, v1)] M4 (fun x5 M5 => in32 x5 ∧ (v3 ≤ x5 → (QCm X x d 1 yX11_endOf [(2, 215), (0, v1)] M5 (fun x6 M6 => QCm X x d 1 yX11_waysFrom [(2, 215), (0, x6), (0, v2), (0, v3), (1, 0)] M6 (fun x7 M7 => post x7 M7)))) ∧ (¬ v3 ≤ x5 → (post 0 M5))))))))))))))))) : QRm X x (d + 1) qmX11_ways post 0 [(0, (2, 215)), (1, (0, v1)), (2, (0, v2)), (3, (0, v3))] [] M := qwp_ok qmX11_ways_ok.1 [] 45 (⟨rfl, ⟨t.1, ⟨rfl, QC.mono t.2 (fun x1 h1 u1 => by obtain ⟨M1, rfl, u1⟩ := u1; exact ⟨fun z2 => ⟨_, rfl, (u1.1 z2)⟩, fun z2 => ⟨(u1.2 z2).1, (show in32 0 from ⟨by decide, by decide⟩), ⟨(u1.2 z2).2.1, ⟨rfl, QC.mono ((u1.2 z2).2.2) (fun x2 h2 u3 => by obtain ⟨M2, rfl, u3⟩ := u3; exact ⟨fun z4 => ⟨(u3.2 z4).1, (show in32 0 from ⟨by decide, by decide⟩), ⟨(u3.2 z4).2.1, QC.mono ((u3.2 z4).2.2) (fun x3 h3 u5 => by obtain ⟨M3, rfl, u5⟩ := u5; exact ⟨fun z6 => ⟨(u5.2 z6).1, (show in32 0 from ⟨by decide, by decide⟩), ⟨rfl, QC.mono ((u5.2 z6).2) (fun _ h4 u7 => by obtain ⟨M4, rfl, u7⟩ := u7; exact ⟨rfl, QC.mono u7 (fun x5 h5 u8 => by obtain ⟨M5, rfl, u8⟩ := u8; exact ⟨(u3.2 z4).2.1, u8.1, fun z9 => ⟨rfl, QC.mono (u8.2.1 z9) (fun x6 h6 u10 => by obtain ⟨M6, rfl, u10⟩ := u10; exact ⟨rfl, QC.mono u10 (fun x7 h7 u11 => by obtain ⟨M7, rfl, u11⟩ := u11; exact ⟨_, rfl, u11⟩)⟩)⟩, fun z9 => ⟨_, rfl, (u8.2.2 z9)⟩⟩)⟩)⟩⟩, fun z6 => ⟨_, rfl, (u5.1 z6)⟩⟩)⟩⟩, fun z4 => ⟨_, rfl, (u3.1 z4)⟩⟩)⟩⟩⟩⟩)⟩⟩⟩)
theorem TX11_crossings_0 {X : QX} {x : Int} {d : Nat} {post : Int → QMem → Prop} {M : QMem} {v1 v2 : Int} (t : in32 v1 ∧ (QCm X x d 1 yX11_isDrum [(2, 215), (1, v1)] (qup M 215 0 0) (fun x1 M1 => (x1 = 0 → (post (-2) M1)) ∧ (¬ x1 = 0 → in32 x1 ∧ (in32 v2 ∧ (QCm X x d 1 yX11_isCell [(2, 215), (1, v2)] M1 (fun x2 M2 => (x2 = 0 → (post (-2) M2)) ∧ (¬ x2 = 0 → in32 x2 ∧ (QCm X x d 1 yX11_leastFor [(2, 215), (0, v1), (0, v2), (0, 0)] M2 (fun x3 M3 => post x3 M3)))))))))) : QRm X x (d + 1) qmX11_crossings post 0 [(0, (2, 215)), (1, (0, v1)), (2, (0, v2))] [] M := qwp_ok qmX11_crossings_ok.1 [] 23 (⟨rfl, ⟨t.1, ⟨rfl, QC.mono t.2 (fun x1 h1 u1 => by obtain ⟨M1, rfl, u1⟩ := u1; exact ⟨fun z2 => ⟨_, rfl, (u1.1 z2)⟩, fun z2 => ⟨(u1.2 z2).1, (show in32 0 from ⟨by decide, by decide⟩), ⟨(u1.2 z2).2.1, ⟨rfl, QC.mono ((u1.2 z2).2.2) (fun x2 h2 u3 => by obtain ⟨M2, rfl, u3⟩ := u3; exact ⟨fun z4 => ⟨_, rfl, (u3.1 z4)⟩, fun z4 => ⟨(u3.2 z4).1, (show in32 0 from ⟨by decide, by decide⟩), ⟨rfl, QC.mono ((u3.2 z4).2) (fun x3 h3 u5 => by obtain ⟨M3, rfl, u5⟩ := u5; exact ⟨_, rfl, u5⟩)⟩⟩⟩)⟩⟩⟩⟩)⟩⟩⟩)
theorem TX11_needed_0 {X : QX} {x : Int} {d : Nat} {post : Int → QMem → Prop} {M : QMem} {v1 v2 : Int} (t : in32 v1 ∧ (QCm X x d 1 yX11_isDrum [(2, 215), (1, v1)] (qup M 215 0 0) (fun x1 M1 => (x1 = 0 → (post (-2) M1)) ∧ (¬ x1 = 0 → in32 x1 ∧ (in32 v2 ∧ (QCm X x d 1 yX11_isCell [(2, 215), (1, v2)] M1 (fun x2 M2 => (x2 = 0 → (post (-2) M2)) ∧ (¬ x2 = 0 → in32 x2 ∧ (QCm X x d 1 yX11_leastFor [(2, 215), (0, v1), (0, v2), (0, 1)] M2 (fun x3 M3 => (x3 = (-1) → (post 0 M3)) ∧ (¬ x3 = (-1) → in32 x3 ∧ (QRm X x (d + 1) qmX11_needed post 45 [(0, (2, 215)), (1, (0, v1)), (2, (0, v2)), (3, (1, 0)), (5, (0, 0))] [] M3)))))))))))) : QRm X x (d + 1) qmX11_needed post 0 [(0, (2, 215)), (1, (0, v1)), (2, (0, v2))] [] M := qwp_ok qmX11_needed_ok.1 [(45, [0, 1, 2, 3, 5])] 68 (⟨rfl, ⟨t.1, ⟨rfl, QC.mono t.2 (fun x1 h1 u1 => by obtain ⟨M1, rfl, u1⟩ := u1; exact ⟨fun z2 => ⟨_, rfl, (u1.1 z2)⟩, fun z2 => ⟨(u1.2 z2).1, (show in32 0 from ⟨by decide, by decide⟩), ⟨(u1.2 z2).2.1, ⟨rfl, QC.mono ((u1.2 z2).2.2) (fun x2 h2 u3 => by obtain ⟨M2, rfl, u3⟩ := u3; exact ⟨fun z4 => ⟨(u3.2 z4).1, (show in32 0 from ⟨by decide, by decide⟩), ⟨rfl, QC.mono ((u3.2 z4).2) (fun x3 h3 u5 => by obtain ⟨M3, rfl, u5⟩ := u5; exact ⟨fun z6 => ⟨(u5.2 z6).1, (show in32 (-1) from ⟨by decide, by decide⟩), (u5.2 z6).2⟩, fun z6 => ⟨_, rfl, (u5.1 z6)⟩⟩)⟩⟩, fun z4 => ⟨_, rfl, (u3.1 z4)⟩⟩)⟩⟩⟩⟩)⟩⟩⟩)
theorem TX11_needed_45 {X : QX} {x : Int} {d : Nat} {post : Int → QMem → Prop} {M : QMem} {v1 v2 v3 v5 : Int} (t : QCm X x d 1 yX11_cells [(2, 215)] M (fun x1 M1 => in32 v5 ∧ in32 x1 ∧ (x1 ≤ v5 → (post v3 (qup M1 215 24 (-1)))) ∧ (¬ x1 ≤ v5 → ((v5 = v2 → (QRm X x (d + 1) qmX11_needed post 45 [(0, (2, 215)), (1, (0, v1)), (2, (0, v2)), (3, (1, v3)), (5, (0, v5 + 1))] [] M1)) ∧ (¬ v5 = v2 → in32 v2 ∧ (QCm X x d 1 yX11_endOf [(2, 215), (0, v1)] M1 (fun x2 M2 => (v5 = x2 → (QRm X x (d + 1) qmX11_needed post 45 [(0, (2, 215)), (1, (0, v1)), (2, (0, v2)), (3, (1, v3)), (5, (0, v5 + 1))] [] M2)) ∧ (¬ v5 = x2 → in32 x2 ∧ (QCm X x d 1 yX11_leastFor [(2, 215), (0, v1), (0, v2), (0, 1)] (qup M2 215 24 v5) (fun x3 M3 => (x3 = (-1) → (QRm X x (d + 1) qmX11_needed post 45 [(0, (2, 215)), (1, (0, v1)), (2, (0, v2)), (3, (1, qlor v3 (qlshl 1 v5))), (5, (0, v5 + 1))] [] M3)) ∧ (¬ x3 = (-1) → in32 x3 ∧ (QRm X x (d + 1) qmX11_needed post 45 [(0, (2, 215)), (1, (0, v1)), (2, (0, v2)), (3, (1, qlor v3 0)), (5, (0, v5 + 1))] [] M3)))))))))))) : QRm X x (d + 1) qmX11_needed post 45 [(0, (2, 215)), (1, (0, v1)), (2, (0, v2)), (3, (1, v3)), (5, (0, v5))] [] M := qwp_ok qmX11_needed_ok.1 [(45, [0, 1, 2, 3, 5])] 68 (⟨rfl, QC.mono t (fun x1 h1 u1 => by obtain ⟨M1, rfl, u1⟩ := u1; exact ⟨u1.1, u1.2.1, fun z2 => ⟨rfl, ⟨_, rfl, (u1.2.2.1 z2)⟩⟩, fun z2 => ⟨fun z3 => ((u1.2.2.2 z2).1 z3), fun z3 => ⟨u1.1, ((u1.2.2.2 z2).2 z3).1, ⟨rfl, QC.mono (((u1.2.2.2 z2).2 z3).2) (fun x2 h2 u4 => by obtain ⟨M2, rfl, u4⟩ := u4; exact ⟨fun z5 => ⟨u1.1, (u4.2 z5).1, ⟨rfl, ⟨rfl, QC.mono ((u4.2 z5).2) (fun x3 h3 u6 => by obtain ⟨M3, rfl, u6⟩ := u6; exact ⟨fun z7 => ⟨(u6.2 z7).1, (show in32 (-1) from ⟨by decide, by decide⟩), (u6.2 z7).2⟩, fun z7 => (u6.1 z7)⟩)⟩⟩⟩, fun z5 => (u4.1 z5)⟩)⟩⟩⟩⟩)⟩)
theorem TX11_farthest_0 {X : QX} {x : Int} {d : Nat} {post : Int → QMem → Prop} {M : QMem} {v1 : Int} (t : in32 v1 ∧ (QCm X x d 1 yX11_isDrum [(2, 215), (1, v1)] (qup M 215 0 0) (fun x1 M1 => (x1 = 0 → (post (-2) M1)) ∧ (¬ x1 = 0 → in32 x1 ∧ (QRm X x (d + 1) qmX11_farthest post 24 [(0, (2, 215)), (1, (0, v1)), (2, (0, (-1))), (3, (0, (-1))), (4, (0, 0))] [] M1))))) : QRm X x (d + 1) qmX11_farthest post 0 [(0, (2, 215)), (1, (0, v1))] [] M := qwp_ok qmX11_farthest_ok.1 [(24, [0, 1, 2, 3, 4])] 48 (⟨rfl, ⟨t.1, ⟨rfl, QC.mono t.2 (fun x1 h1 u1 => by obtain ⟨M1, rfl, u1⟩ := u1; exact ⟨fun z2 => ⟨(u1.2 z2).1, (show in32 0 from ⟨by decide, by decide⟩), (u1.2 z2).2⟩, fun z2 => ⟨_, rfl, (u1.1 z2)⟩⟩)⟩⟩⟩)
theorem TX11_farthest_24 {X : QX} {x : Int} {d : Nat} {post : Int → QMem → Prop} {M : QMem} {v1 v2 v3 v4 : Int} (t : QCm X x d 1 yX11_cells [(2, 215)] M (fun x1 M1 => in32 v4 ∧ in32 x1 ∧ (x1 ≤ v4 → (post v2 M1)) ∧ (¬ x1 ≤ v4 → (QCm X x d 1 yX11_leastFor [(2, 215), (0, v1), (0, v4), (0, 1)] M1 (fun x2 M2 => in32 x2 ∧ in32 v3 ∧ (x2 ≤ v3 → (QRm X x (d + 1) qmX11_farthest post 24 [(0, (2, 215)), (1, (0, v1)), (2, (0, v2)), (3, (0, v3)), (4, (0, v4 + 1))] [] M2)) ∧ (¬ x2 ≤ v3 → ((0 : Int) ≤ 54 + v1 ∧ (54 + v1 < 13125 ∧ (in32 (M2 216 (54 + v1)) ∧ (x2 ≤ M2 216 (54 + v1) → (QRm X x (d + 1) qmX11_farthest post 24 [(0, (2, 215)), (1, (0, v1)), (2, (0, v4)), (3, (0, x2)), (4, (0, v4 + 1))] [] M2)) ∧ (¬ x2 ≤ M2 216 (54 + v1) → (QRm X x (d + 1) qmX11_farthest post 24 [(0, (2, 215)), (1, (0, v1)), (2, (0, v2)), (3, (0, v3)), (4, (0, v4 + 1))] [] M2))))))))))) : QRm X x (d + 1) qmX11_farthest post 24 [(0, (2, 215)), (1, (0, v1)), (2, (0, v2)), (3, (0, v3)), (4, (0, v4))] [] M := qwp_ok qmX11_farthest_ok.1 [(24, [0, 1, 2, 3, 4])] 48 (⟨rfl, QC.mono t (fun x1 h1 u1 => by obtain ⟨M1, rfl, u1⟩ := u1; exact ⟨u1.1, u1.2.1, fun z2 => ⟨_, rfl, (u1.2.2.1 z2)⟩, fun z2 => ⟨rfl, QC.mono (u1.2.2.2 z2) (fun x2 h2 u3 => by obtain ⟨M2, rfl, u3⟩ := u3; exact ⟨u3.1, u3.2.1, fun z4 => (u3.2.2.1 z4), fun z4 => ⟨rfl, ⟨rfl, ⟨(u3.2.2.2 z4).1, ⟨(u3.2.2.2 z4).2.1, ⟨u3.1, (u3.2.2.2 z4).2.2.1, fun z5 => ((u3.2.2.2 z4).2.2.2.1 z5), fun z5 => ((u3.2.2.2 z4).2.2.2.2 z5)⟩⟩⟩⟩⟩⟩)⟩⟩)⟩)
theorem TX11_aboveOf_0 {X : QX} {x : Int} {d : Nat} {post : Int → QMem → Prop} {M : QMem} {v1 : Int} (t : QRm X x (d + 1) qmX11_aboveOf post 4 [(0, (2, 215)), (1, (0, v1)), (2, (0, 0)), (3, (0, 0))] [] M) : QRm X x (d + 1) qmX11_aboveOf post 0 [(0, (2, 215)), (1, (0, v1))] [] M := qwp_ok qmX11_aboveOf_ok.1 [(4, [0, 1, 2, 3])] 35 (t)
theorem TX11_aboveOf_4 {X : QX} {x : Int} {d : Nat} {post : Int → QMem → Prop} {M : QMem} {v1 v2 v3 : Int} (t : QCm X x d 1 yX11_cells [(2, 215)] M (fun x1 M1 => in32 v3 ∧ in32 x1 ∧ (x1 ≤ v3 → (post v2 M1)) ∧ (¬ x1 ≤ v3 → ((0 : Int) ≤ 258 + v3 ∧ (258 + v3 < 13125 ∧ ((M1 216 (258 + v3) = v1 → ((0 : Int) ≤ 294 + v3 ∧ (294 + v3 < 13125 ∧ (QRm X x (d + 1) qmX11_aboveOf post 4 [(0, (2, 215)), (1, (0, v1)), (2, (0, qor v2 (qshl 1 (M1 216 (294 + v3))))), (3, (0, v3 + 1))] [] M1)))) ∧ (¬ M1 216 (258 + v3) = v1 → in32 (M1 216 (258 + v3)) ∧ in32 v1 ∧ (QRm X x (d + 1) qmX11_aboveOf post 4 [(0, (2, 215)), (1, (0, v1)), (2, (0, qor v2 0)), (3, (0, v3 + 1))] [] M1)))))))) : QRm X x (d + 1) qmX11_aboveOf post 4 [(0, (2, 215)), (1, (0, v1)), (2, (0, v2)), (3, (0, v3))] [] M := qwp_ok qmX11_aboveOf_ok.1 [(4, [0, 1, 2, 3])] 35 (⟨rfl, QC.mono t (fun x1 h1 u1 => by obtain ⟨M1, rfl, u1⟩ := u1; exact ⟨u1.1, u1.2.1, fun z2 => ⟨_, rfl, (u1.2.2.1 z2)⟩, fun z2 => ⟨rfl, ⟨rfl, ⟨(u1.2.2.2 z2).1, ⟨(u1.2.2.2 z2).2.1, ⟨fun z3 => ⟨((u1.2.2.2 z2).2.2.2 z3).1, ((u1.2.2.2 z2).2.2.2 z3).2.1, ((u1.2.2.2 z2).2.2.2 z3).2.2⟩, fun z3 => ⟨rfl, ⟨rfl, ⟨((u1.2.2.2 z2).2.2.1 z3).1, ⟨((u1.2.2.2 z2).2.2.1 z3).2.1, ((u1.2.2.2 z2).2.2.1 z3).2.2⟩⟩⟩⟩⟩⟩⟩⟩⟩⟩)⟩)
theorem TX11_above_0 {X : QX} {x : Int} {d : Nat} {post : Int → QMem → Prop} {M : QMem} {v1 : Int} (t : in32 v1 ∧ (QCm X x d 1 yX11_isDrum [(2, 215), (1, v1)] (qup M 215 0 0) (fun x1 M1 => (x1 = 0 → (post (-2) M1)) ∧ (¬ x1 = 0 → in32 x1 ∧ (QCm X x d 1 yX11_aboveOf [(2, 215), (0, v1)] M1 (fun x2 M2 => post x2 M2)))))) : QRm X x (d + 1) qmX11_above post 0 [(0, (2, 215)), (1, (0, v1))] [] M := qwp_ok qmX11_above_ok.1 [] 16 (⟨rfl, ⟨t.1, ⟨rfl, QC.mono t.2 (fun x1 h1 u1 => by obtain ⟨M1, rfl, u1⟩ := u1; exact ⟨fun z2 => ⟨_, rfl, (u1.1 z2)⟩, fun z2 => ⟨(u1.2 z2).1, (show in32 0 from ⟨by decide, by decide⟩), ⟨rfl, QC.mono ((u1.2 z2).2) (fun x2 h2 u3 => by obtain ⟨M2, rfl, u3⟩ := u3; exact ⟨_, rfl, u3⟩)⟩⟩⟩)⟩⟩⟩)
theorem TX11_ahead_0 {X : QX} {x : Int} {d : Nat} {post : Int → QMem → Prop} {M : QMem} {v1 : Int} (t : in32 v1 ∧ (QCm X x d 1 yX11_isDrum [(2, 215), (1, v1)] (qup M 215 0 0) (fun x1 M1 => (x1 = 0 → (post (-2) M1)) ∧ (¬ x1 = 0 → in32 x1 ∧ (QCm X x d 1 yX11_aboveOf [(2, 215), (0, v1)] M1 (fun x2 M2 => QRm X x (d + 1) qmX11_ahead post 25 [(0, (2, 215)), (2, (0, 0)), (3, (0, x2))] [] M2)))))) : QRm X x (d + 1) qmX11_ahead post 0 [(0, (2, 215)), (1, (0, v1))] [] M := qwp_ok qmX11_ahead_ok.1 [(25, [0, 2, 3]), (35, [0, 2, 3, 4])] 47 (⟨rfl, ⟨t.1, ⟨rfl, QC.mono t.2 (fun x1 h1 u1 => by obtain ⟨M1, rfl, u1⟩ := u1; exact ⟨fun z2 => ⟨(u1.2 z2).1, (show in32 0 from ⟨by decide, by decide⟩), ⟨rfl, QC.mono ((u1.2 z2).2) (fun x2 h2 u3 => by obtain ⟨M2, rfl, u3⟩ := u3; exact u3)⟩⟩, fun z2 => ⟨_, rfl, (u1.1 z2)⟩⟩)⟩⟩⟩)
theorem TX11_ahead_25 {X : QX} {x : Int} {d : Nat} {post : Int → QMem → Prop} {M : QMem} {v2 v3 : Int} (t : (v3 = v2 → (post v2 M)) ∧ (¬ v3 = v2 → in32 v3 ∧ in32 v2 ∧ (QRm X x (d + 1) qmX11_ahead post 35 [(0, (2, 215)), (2, (0, v3)), (3, (0, v3)), (4, (0, 0))] [] M))) : QRm X x (d + 1) qmX11_ahead post 25 [(0, (2, 215)), (2, (0, v2)), (3, (0, v3))] [] M := qwp_ok qmX11_ahead_ok.1 [(25, [0, 2, 3]), (35, [0, 2, 3, 4])] 47 (⟨fun z1 => ⟨_, rfl, (t.1 z1)⟩, fun z1 => ⟨(t.2 z1).1, (t.2 z1).2.1, (t.2 z1).2.2⟩⟩)
theorem TX11_ahead_35 {X : QX} {x : Int} {d : Nat} {post : Int → QMem → Prop} {M : QMem} {v2 v3 v4 : Int} (t : in32 v4 ∧ in32 (M 216 3) ∧ (M 216 3 ≤ v4 → (QRm X x (d + 1) qmX11_ahead post 25 [(0, (2, 215)), (2, (0, v2)), (3, (0, v3))] [] M)) ∧ (¬ M 216 3 ≤ v4 → (in32 v2 ∧ (QCm X x d 1 yX11_isIn [(1, v2), (0, v4)] M (fun x1 M1 => (x1 = 0 → (QRm X x (d + 1) qmX11_ahead post 35 [(0, (2, 215)), (2, (0, v2)), (3, (0, v3)), (4, (0, v4 + 1))] [] M1)) ∧ (¬ x1 = 0 → in32 x1 ∧ (QCm X x d 1 yX11_aboveOf [(2, 215), (0, v4)] M1 (fun x2 M2 => QRm X x (d + 1) qmX11_ahead post 35 [(0, (2, 215)), (2, (0, v2)), (3, (0, qor v3 x2)), (4, (0, v4 + 1))] [] M2)))))))) : QRm X x (d + 1) qmX11_ahead post 35 [(0, (2, 215)), (2, (0, v2)), (3, (0, v3)), (4, (0, v4))] [] M := qwp_ok qmX11_ahead_ok.1 [(25, [0, 2, 3]), (35, [0, 2, 3, 4])] 47 (⟨rfl, ⟨rfl, ⟨(show (0 : Int) ≤ 3 by decide), ⟨(show (3 : Int) < 13125 by decide), ⟨t.1, t.2.1, fun z1 => (t.2.2.1 z1), fun z1 => ⟨(t.2.2.2 z1).1, QC.mono ((t.2.2.2 z1).2) (fun x1 h1 u2 => by obtain ⟨M1, rfl, u2⟩ := u2; exact ⟨fun z3 => (u2.1 z3), fun z3 => ⟨(u2.2 z3).1, (show in32 0 from ⟨by decide, by decide⟩), ⟨rfl, QC.mono ((u2.2 z3).2) (fun x2 h2 u4 => by obtain ⟨M2, rfl, u4⟩ := u4; exact u4)⟩⟩⟩)⟩⟩⟩⟩⟩⟩)
theorem TX11_lying_0 {X : QX} {x : Int} {d : Nat} {post : Int → QMem → Prop} {M : QMem} (t : QRm X x d qmX11_lying post 4 [(0, (2, 215)), (1, (0, 0)), (2, (0, 0))] [] M) : QRm X x d qmX11_lying post 0 [(0, (2, 215))] [] M := qwp_ok qmX11_lying_ok.1 [(4, [0, 1, 2])] 31 (t)
theorem TX11_lying_4 {X : QX} {x : Int} {d : Nat} {post : Int → QMem → Prop} {M : QMem} {v1 v2 : Int} (t : in32 v2 ∧ in32 (M 216 3) ∧ (M 216 3 ≤ v2 → (post v1 M)) ∧ (¬ M 216 3 ≤ v2 → ((0 : Int) ≤ 60 + v2 ∧ (60 + v2 < 13125 ∧ (in32 (M 216 (60 + v2)) ∧ (M 216 (60 + v2) ≤ 0 → (QRm X x d qmX11_lying post 4 [(0, (2, 215)), (1, (0, qor v1 0)), (2, (0, v2 + 1))] [] M)) ∧ (¬ M 216 (60 + v2) ≤ 0 → (QRm X x d qmX11_lying post 4 [(0, (2, 215)), (1, (0, qor v1 (qshl 1 v2))), (2, (0, v2 + 1))] [] M))))))) : QRm X x d qmX11_lying post 4 [(0, (2, 215)), (1, (0, v1)), (2, (0, v2))] [] M := qwp_ok qmX11_lying_ok.1 [(4, [0, 1, 2])] 31 (⟨rfl, ⟨rfl, ⟨(show (0 : Int) ≤ 3 by decide), ⟨(show (3 : Int) < 13125 by decide), ⟨t.1, t.2.1, fun z1 => ⟨_, rfl, (t.2.2.1 z1)⟩, fun z1 => ⟨rfl, ⟨rfl, ⟨(t.2.2.2 z1).1, ⟨(t.2.2.2 z1).2.1, ⟨(t.2.2.2 z1).2.2.1, (show in32 0 from ⟨by decide, by decide⟩), fun z2 => ((t.2.2.2 z1).2.2.2.1 z2), fun z2 => ((t.2.2.2 z1).2.2.2.2 z2)⟩⟩⟩⟩⟩⟩⟩⟩⟩⟩)
theorem TX11_firstOf_0 {X : QX} {x : Int} {d : Nat} {post : Int → QMem → Prop} {M : QMem} {v1 : Int} (t : QRm X x (d + 1) qmX11_firstOf post 2 [(0, (2, 215)), (1, (0, v1)), (2, (0, 0))] [] M) : QRm X x (d + 1) qmX11_firstOf post 0 [(0, (2, 215)), (1, (0, v1))] [] M := qwp_ok qmX11_firstOf_ok.1 [(2, [0, 1, 2])] 27 (t)
theorem TX11_firstOf_2 {X : QX} {x : Int} {d : Nat} {post : Int → QMem → Prop} {M : QMem} {v1 v2 : Int} (t : in32 v2 ∧ in32 (M 216 3) ∧ (M 216 3 ≤ v2 → (post (-1) M)) ∧ (¬ M 216 3 ≤ v2 → (in32 v1 ∧ (QCm X x d 1 yX11_isIn [(1, v1), (0, v2)] M (fun x1 M1 => (x1 = 0 → (QRm X x (d + 1) qmX11_firstOf post 2 [(0, (2, 215)), (1, (0, v1)), (2, (0, v2 + 1))] [] M1)) ∧ (¬ x1 = 0 → in32 x1 ∧ (QCm X x d 1 yX11_aboveOf [(2, 215), (0, v2)] M1 (fun x2 M2 => (qand x2 v1 = 0 → (post v2 M2)) ∧ (¬ qand x2 v1 = 0 → in32 (qand x2 v1) ∧ (QRm X x (d + 1) qmX11_firstOf post 2 [(0, (2, 215)), (1, (0, v1)), (2, (0, v2 + 1))] [] M2)))))))))) : QRm X x (d + 1) qmX11_firstOf post 2 [(0, (2, 215)), (1, (0, v1)), (2, (0, v2))] [] M := qwp_ok qmX11_firstOf_ok.1 [(2, [0, 1, 2])] 27 (⟨rfl, ⟨rfl, ⟨(show (0 : Int) ≤ 3 by decide), ⟨(show (3 : Int) < 13125 by decide), ⟨t.1, t.2.1, fun z1 => ⟨_, rfl, (t.2.2.1 z1)⟩, fun z1 => ⟨(t.2.2.2 z1).1, QC.mono ((t.2.2.2 z1).2) (fun x1 h1 u2 => by obtain ⟨M1, rfl, u2⟩ := u2; exact ⟨fun z3 => (u2.1 z3), fun z3 => ⟨(u2.2 z3).1, (show in32 0 from ⟨by decide, by decide⟩), ⟨rfl, QC.mono ((u2.2 z3).2) (fun x2 h2 u4 => by obtain ⟨M2, rfl, u4⟩ := u4; exact ⟨fun z5 => ⟨(u4.2 z5).1, (show in32 0 from ⟨by decide, by decide⟩), (u4.2 z5).2⟩, fun z5 => ⟨_, rfl, (u4.1 z5)⟩⟩)⟩⟩⟩)⟩⟩⟩⟩⟩⟩)
theorem TX11_order_0 {X : QX} {x : Int} {d : Nat} {post : Int → QMem → Prop} {M : QMem} {v1 : Int} (t : in32 v1 ∧ ((0 : Int) ≤ v1 → (QCm X x d 1 yX11_lying [(2, 215)] (qup M 215 0 0) (fun x1 M1 => QRm X x (d + 1) qmX11_order post 19 [(0, (2, 215)), (1, (0, v1)), (2, (0, x1)), (3, (0, 0))] [] M1))) ∧ (¬ (0 : Int) ≤ v1 → (post (-3) (qup M 215 0 0)))) : QRm X x (d + 1) qmX11_order post 0 [(0, (2, 215)), (1, (0, v1))] [] M := qwp_ok qmX11_order_ok.1 [(19, [0, 1, 2, 3])] 53 (⟨rfl, ⟨t.1, (show in32 0 from ⟨by decide, by decide⟩), fun z1 => ⟨rfl, QC.mono (t.2.1 z1) (fun x1 h1 u2 => by obtain ⟨M1, rfl, u2⟩ := u2; exact u2)⟩, fun z1 => ⟨_, rfl, (t.2.2 z1)⟩⟩⟩)
theorem TX11_order_19 {X : QX} {x : Int} {d : Nat} {post : Int → QMem → Prop} {M : QMem} {v1 v2 v3 : Int} (t : in32 v3 ∧ in32 v1 ∧ (v1 ≤ v3 → ((v1 < 6 → (QCm X x d 1 yX11_lying [(2, 215)] M (fun x1 M1 => QCm X x d 1 yX11_bitsOf [(0, x1)] M1 (fun x2 M2 => QCm X x d 1 yX11_bitsOf [(0, v2)] M2 (fun x3 M3 => in32 (x2 - x3) ∧ (v1 ≤ x2 - x3 → (QCm X x d 1 yX11_firstOf [(2, 215), (0, v2)] M3 (fun x4 M4 => post x4 M4))) ∧ (¬ v1 ≤ x2 - x3 → (post (-1) M3))))))) ∧ (¬ v1 < 6 → (post (-1) M)))) ∧ (¬ v1 ≤ v3 → (QCm X x d 1 yX11_firstOf [(2, 215), (0, v2)] M (fun x5 M5 => (x5 = (-1) → ((v1 < 6 → (QCm X x d 1 yX11_lying [(2, 215)] M5 (fun x6 M6 => QCm X x d 1 yX11_bitsOf [(0, x6)] M6 (fun x7 M7 => QCm X x d 1 yX11_bitsOf [(0, v2)] M7 (fun x8 M8 => in32 (x7 - x8) ∧ (v1 ≤ x7 - x8 → (QCm X x d 1 yX11_firstOf [(2, 215), (0, v2)] M8 (fun x9 M9 => post x9 M9))) ∧ (¬ v1 ≤ x7 - x8 → (post (-1) M8))))))) ∧ (¬ v1 < 6 → (post (-1) M5)))) ∧ (¬ x5 = (-1) → in32 x5 ∧ (QCm X x d 1 yX11_firstOf [(2, 215), (0, v2)] M5 (fun x10 M10 => QRm X x (d + 1) qmX11_order post 19 [(0, (2, 215)), (1, (0, v1)), (2, (0, qand v2 (qxor (qshl 1 x10) (-1)))), (3, (0, v3 + 1))] [] M10))))))) : QRm X x (d + 1) qmX11_order post 19 [(0, (2, 215)), (1, (0, v1)), (2, (0, v2)), (3, (0, v3))] [] M := qwp_ok qmX11_order_ok.1 [(19, [0, 1, 2, 3])] 53 (⟨t.1, t.2.1, fun z1 => ⟨t.2.1, (show in32 6 from ⟨by decide, by decide⟩), fun z2 => ⟨rfl, QC.mono ((t.2.2.1 z1).1 z2) (fun x1 h1 u3 => by obtain ⟨M1, rfl, u3⟩ := u3; exact QC.mono u3 (fun x2 h2 u4 => by obtain ⟨M2, rfl, u4⟩ := u4; exact QC.mono u4 (fun x3 h3 u5 => by obtain ⟨M3, rfl, u5⟩ := u5; exact ⟨u5.1, t.2.1, fun z6 => ⟨rfl, QC.mono (u5.2.1 z6) (fun x4 h4 u7 => by obtain ⟨M4, rfl, u7⟩ := u7; exact ⟨_, rfl, u7⟩)⟩, fun z6 => ⟨_, rfl, (u5.2.2 z6)⟩⟩)))⟩, fun z2 => ⟨_, rfl, ((t.2.2.1 z1).2 z2)⟩⟩, fun z1 => ⟨rfl, QC.mono (t.2.2.2 z1) (fun x5 h5 u8 => by obtain ⟨M5, rfl, u8⟩ := u8; exact ⟨fun z9 => ⟨t.2.1, (show in32 6 from ⟨by decide, by decide⟩), fun z10 => ⟨rfl, QC.mono ((u8.1 z9).1 z10) (fun x6 h6 u11 => by obtain ⟨M6, rfl, u11⟩ := u11; exact QC.mono u11 (fun x7 h7 u12 => by obtain ⟨M7, rfl, u12⟩ := u12; exact QC.mono u12 (fun x8 h8 u13 => by obtain ⟨M8, rfl, u13⟩ := u13; exact ⟨u13.1, t.2.1, fun z14 => ⟨rfl, QC.mono (u13.2.1 z14) (fun x9 h9 u15 => by obtain ⟨M9, rfl, u15⟩ := u15; exact ⟨_, rfl, u15⟩)⟩, fun z14 => ⟨_, rfl, (u13.2.2 z14)⟩⟩)))⟩, fun z10 => ⟨_, rfl, ((u8.1 z9).2 z10)⟩⟩, fun z9 => ⟨(u8.2 z9).1, (show in32 (-1) from ⟨by decide, by decide⟩), ⟨rfl, QC.mono ((u8.2 z9).2) (fun x10 h10 u16 => by obtain ⟨M10, rfl, u16⟩ := u16; exact u16)⟩⟩⟩)⟩⟩)
theorem TX11_stuck_0 {X : QX} {x : Int} {d : Nat} {post : Int → QMem → Prop} {M : QMem} (t : QCm X x d 1 yX11_lying [(2, 215)] (qup M 215 0 0) (fun x1 M1 => QRm X x (d + 1) qmX11_stuck post 10 [(0, (2, 215)), (1, (0, x1))] [] M1)) : QRm X x (d + 1) qmX11_stuck post 0 [(0, (2, 215))] [] M := qwp_ok qmX11_stuck_ok.1 [(10, [0, 1])] 26 (⟨rfl, ⟨rfl, QC.mono t (fun x1 h1 u1 => by obtain ⟨M1, rfl, u1⟩ := u1; exact u1)⟩⟩)
theorem TX11_stuck_10 {X : QX} {x : Int} {d : Nat} {post : Int → QMem → Prop} {M : QMem} {v1 : Int} (t : QCm X x d 1 yX11_firstOf [(2, 215), (0, v1)] M (fun x1 M1 => (x1 = (-1) → (post v1 M1)) ∧ (¬ x1 = (-1) → in32 x1 ∧ (QCm X x d 1 yX11_firstOf [(2, 215), (0, v1)] M1 (fun x2 M2 => QRm X x (d + 1) qmX11_stuck post 10 [(0, (2, 215)), (1, (0, qand v1 (qxor (qshl 1 x2) (-1))))] [] M2))))) : QRm X x (d + 1) qmX11_stuck post 10 [(0, (2, 215)), (1, (0, v1))] [] M := qwp_ok qmX11_stuck_ok.1 [(10, [0, 1])] 26 (⟨rfl, QC.mono t (fun x1 h1 u1 => by obtain ⟨M1, rfl, u1⟩ := u1; exact ⟨fun z2 => ⟨_, rfl, (u1.1 z2)⟩, fun z2 => ⟨(u1.2 z2).1, (show in32 (-1) from ⟨by decide, by decide⟩), ⟨rfl, QC.mono ((u1.2 z2).2) (fun x2 h2 u3 => by obtain ⟨M2, rfl, u3⟩ := u3; exact u3)⟩⟩⟩)⟩)
theorem TX11_overs_0 {X : QX} {x : Int} {d : Nat} {post : Int → QMem → Prop} {M : QMem} {v1 v2 : Int} (t : QRm X x (d + 1) qmX11_overs post 5 [(0, (2, 215)), (1, (0, v1)), (2, (0, v2)), (3, (0, 0)), (4, (0, 0))] [] M) : QRm X x (d + 1) qmX11_overs post 0 [(0, (2, 215)), (1, (0, v1)), (2, (0, v2))] [] M := qwp_ok qmX11_overs_ok.1 [(5, [0, 1, 2, 3, 4])] 36 (t)
theorem TX11_overs_5 {X : QX} {x : Int} {d : Nat} {post : Int → QMem → Prop} {M : QMem} {v1 v2 v3 v4 : Int} (t : QCm X x d 1 yX11_cells [(2, 215)] M (fun x1 M1 => in32 v4 ∧ in32 x1 ∧ (x1 ≤ v4 → (post v3 M1)) ∧ (¬ x1 ≤ v4 → ((0 : Int) ≤ 294 + v4 ∧ (294 + v4 < 13125 ∧ ((M1 216 (294 + v4) = v1 → ((0 : Int) ≤ 258 + v4 ∧ (258 + v4 < 13125 ∧ ((M1 216 (258 + v4) = v2 → (QRm X x (d + 1) qmX11_overs post 5 [(0, (2, 215)), (1, (0, v1)), (2, (0, v2)), (3, (0, v3 + 1)), (4, (0, v4 + 1))] [] M1)) ∧ (¬ M1 216 (258 + v4) = v2 → in32 (M1 216 (258 + v4)) ∧ in32 v2 ∧ (QRm X x (d + 1) qmX11_overs post 5 [(0, (2, 215)), (1, (0, v1)), (2, (0, v2)), (3, (0, v3 + 0)), (4, (0, v4 + 1))] [] M1)))))) ∧ (¬ M1 216 (294 + v4) = v1 → in32 (M1 216 (294 + v4)) ∧ in32 v1 ∧ (QRm X x (d + 1) qmX11_overs post 5 [(0, (2, 215)), (1, (0, v1)), (2, (0, v2)), (3, (0, v3 + 0)), (4, (0, v4 + 1))] [] M1)))))))) : QRm X x (d + 1) qmX11_overs post 5 [(0, (2, 215)), (1, (0, v1)), (2, (0, v2)), (3, (0, v3)), (4, (0, v4))] [] M := qwp_ok qmX11_overs_ok.1 [(5, [0, 1, 2, 3, 4])] 36 (⟨rfl, QC.mono t (fun x1 h1 u1 => by obtain ⟨M1, rfl, u1⟩ := u1; exact ⟨u1.1, u1.2.1, fun z2 => ⟨_, rfl, (u1.2.2.1 z2)⟩, fun z2 => ⟨rfl, ⟨rfl, ⟨(u1.2.2.2 z2).1, ⟨(u1.2.2.2 z2).2.1, ⟨fun z3 => ⟨((u1.2.2.2 z2).2.2.2 z3).1, ((u1.2.2.2 z2).2.2.2 z3).2.1, ((u1.2.2.2 z2).2.2.2 z3).2.2⟩, fun z3 => ⟨rfl, ⟨rfl, ⟨((u1.2.2.2 z2).2.2.1 z3).1, ⟨((u1.2.2.2 z2).2.2.1 z3).2.1, ⟨fun z4 => ⟨(((u1.2.2.2 z2).2.2.1 z3).2.2.2 z4).1, (((u1.2.2.2 z2).2.2.1 z3).2.2.2 z4).2.1, (((u1.2.2.2 z2).2.2.1 z3).2.2.2 z4).2.2⟩, fun z4 => (((u1.2.2.2 z2).2.2.1 z3).2.2.1 z4)⟩⟩⟩⟩⟩⟩⟩⟩⟩⟩⟩)⟩)
theorem TX11_twistsOf_0 {X : QX} {x : Int} {d : Nat} {post : Int → QMem → Prop} {M : QMem} {v1 : Int} (t : (v1 = 0 → (QRm X x (d + 1) qmX11_twistsOf post 14 [(0, (2, 215)), (1, (0, v1)), (2, (0, 0)), (3, (0, 0))] [] M)) ∧ (¬ v1 = 0 → in32 v1 ∧ (QRm X x (d + 1) qmX11_twistsOf post 14 [(0, (2, 215)), (1, (0, v1)), (2, (0, 268435456)), (3, (0, 0))] [] M))) : QRm X x (d + 1) qmX11_twistsOf post 0 [(0, (2, 215)), (1, (0, v1))] [] M := qwp_ok qmX11_twistsOf_ok.1 [(14, [0, 1, 2, 3]), (42, [0, 1, 2, 3, 4, 5])] 74 (⟨fun z1 => ⟨(t.2 z1).1, (show in32 0 from ⟨by decide, by decide⟩), (t.2 z1).2⟩, fun z1 => (t.1 z1)⟩)
theorem TX11_twistsOf_14 {X : QX} {x : Int} {d : Nat} {post : Int → QMem → Prop} {M : QMem} {v1 v2 v3 : Int} (t : in32 v3 ∧ in32 (M 216 3) ∧ (M 216 3 ≤ v3 → (post v2 M)) ∧ (¬ M 216 3 ≤ v3 → (in32 v1 ∧ (QCm X x d 1 yX11_isIn [(1, v1), (0, v3)] M (fun x1 M1 => (x1 = 0 → (QRm X x (d + 1) qmX11_twistsOf post 14 [(0, (2, 215)), (1, (0, v1)), (2, (0, v2)), (3, (0, v3 + 1))] [] M1)) ∧ (¬ x1 = 0 → in32 x1 ∧ (QRm X x (d + 1) qmX11_twistsOf post 42 [(0, (2, 215)), (1, (0, v1)), (2, (0, v2)), (3, (0, v3)), (4, (0, 0)), (5, (0, 0))] [] M1))))))) : QRm X x (d + 1) qmX11_twistsOf post 14 [(0, (2, 215)), (1, (0, v1)), (2, (0, v2)), (3, (0, v3))] [] M := qwp_ok qmX11_twistsOf_ok.1 [(14, [0, 1, 2, 3]), (42, [0, 1, 2, 3, 4, 5])] 74 (⟨rfl, ⟨rfl, ⟨(show (0 : Int) ≤ 3 by decide), ⟨(show (3 : Int) < 13125 by decide), ⟨t.1, t.2.1, fun z1 => ⟨_, rfl, (t.2.2.1 z1)⟩, fun z1 => ⟨(t.2.2.2 z1).1, QC.mono ((t.2.2.2 z1).2) (fun x1 h1 u2 => by obtain ⟨M1, rfl, u2⟩ := u2; exact ⟨fun z3 => ⟨(u2.2 z3).1, (show in32 0 from ⟨by decide, by decide⟩), (u2.2 z3).2⟩, fun z3 => (u2.1 z3)⟩)⟩⟩⟩⟩⟩⟩)
theorem TX11_twistsOf_42 {X : QX} {x : Int} {d : Nat} {post : Int → QMem → Prop} {M : QMem} {v1 v2 v3 v4 v5 : Int} (t : in32 v5 ∧ in32 (M 216 3) ∧ (M 216 3 ≤ v5 → (QCm X x d 1 yX11_twistsOf [(2, 215), (0, qand v1 (qxor (qshl 1 v3) (-1)))] M (fun x1 M1 => in32 (v4 + x1) ∧ in32 v2 ∧ (v2 ≤ v4 + x1 → (QRm X x (d + 1) qmX11_twistsOf post 14 [(0, (2, 215)), (1, (0, v1)), (2, (0, v2)), (3, (0, v3 + 1))] [] M1)) ∧ (¬ v2 ≤ v4 + x1 → (QRm X x (d + 1) qmX11_twistsOf post 14 [(0, (2, 215)), (1, (0, v1)), (2, (0, v4 + x1)), (3, (0, v3 + 1))] [] M1))))) ∧ (¬ M 216 3 ≤ v5 → ((v5 = v3 → (QRm X x (d + 1) qmX11_twistsOf post 42 [(0, (2, 215)), (1, (0, v1)), (2, (0, v2)), (3, (0, v3)), (4, (0, v4 + 0)), (5, (0, v5 + 1))] [] M)) ∧ (¬ v5 = v3 → in32 v3 ∧ (in32 v1 ∧ (QCm X x d 1 yX11_isIn [(1, v1), (0, v5)] M (fun x2 M2 => (x2 = 0 → (QRm X x (d + 1) qmX11_twistsOf post 42 [(0, (2, 215)), (1, (0, v1)), (2, (0, v2)), (3, (0, v3)), (4, (0, v4 + 0)), (5, (0, v5 + 1))] [] M2)) ∧ (¬ x2 = 0 → in32 x2 ∧ (QCm X x d 1 yX11_overs [(2, 215), (0, v5), (0, v3)] M2 (fun x3 M3 => QRm X x (d + 1) qmX11_twistsOf post 42 [(0, (2, 215)), (1, (0, v1)), (2, (0, v2)), (3, (0, v3)), (4, (0, v4 + x3)), (5, (0, v5 + 1))] [] M3)))))))))) : QRm X x (d + 1) qmX11_twistsOf post 42 [(0, (2, 215)), (1, (0, v1)), (2, (0, v2)), (3, (0, v3)), (4, (0, v4)), (5, (0, v5))] [] M := qwp_ok qmX11_twistsOf_ok.1 [(14, [0, 1, 2, 3]), (42, [0, 1, 2, 3, 4, 5])] 74 (⟨rfl, ⟨rfl, ⟨(show (0 : Int) ≤ 3 by decide), ⟨(show (3 : Int) < 13125 by decide), ⟨t.1, t.2.1, fun z1 => ⟨rfl, QC.mono (t.2.2.1 z1) (fun x1 h1 u2 => by obtain ⟨M1, rfl, u2⟩ := u2; exact ⟨u2.1, u2.2.1, fun z3 => (u2.2.2.1 z3), fun z3 => (u2.2.2.2 z3)⟩)⟩, fun z1 => ⟨fun z4 => ((t.2.2.2 z1).1 z4), fun z4 => ⟨t.1, ((t.2.2.2 z1).2 z4).1, ⟨((t.2.2.2 z1).2 z4).2.1, QC.mono (((t.2.2.2 z1).2 z4).2.2) (fun x2 h2 u5 => by obtain ⟨M2, rfl, u5⟩ := u5; exact ⟨fun z6 => (u5.1 z6), fun z6 => ⟨(u5.2 z6).1, (show in32 0 from ⟨by decide, by decide⟩), ⟨rfl, QC.mono ((u5.2 z6).2) (fun x3 h3 u7 => by obtain ⟨M3, rfl, u7⟩ := u7; exact u7)⟩⟩⟩)⟩⟩⟩⟩⟩⟩⟩⟩)
theorem TX11_twists_0 {X : QX} {x : Int} {d : Nat} {post : Int → QMem → Prop} {M : QMem} (t : QCm X x d 1 yX11_lying [(2, 215)] (qup M 215 0 0) (fun x1 M1 => QCm X x d 1 yX11_twistsOf [(2, 215), (0, x1)] M1 (fun x2 M2 => post x2 M2))) : QRm X x (d + 1) qmX11_twists post 0 [(0, (2, 215))] [] M := qwp_ok qmX11_twists_ok.1 [] 10 (⟨rfl, ⟨rfl, QC.mono t (fun x1 h1 u1 => by obtain ⟨M1, rfl, u1⟩ := u1; exact ⟨rfl, QC.mono u1 (fun x2 h2 u2 => by obtain ⟨M2, rfl, u2⟩ := u2; exact ⟨_, rfl, u2⟩)⟩)⟩⟩)
theorem TX11_ordersOf_0 {X : QX} {x : Int} {d : Nat} {post : Int → QMem → Prop} {M : QMem} {v1 : Int} (t : (v1 = 0 → (post 1 M)) ∧ (¬ v1 = 0 → in32 v1 ∧ (QRm X x (d + 1) qmX11_ordersOf post 10 [(0, (2, 215)), (1, (0, v1)), (2, (0, 0)), (3, (0, 0))] [] M))) : QRm X x (d + 1) qmX11_ordersOf post 0 [(0, (2, 215)), (1, (0, v1))] [] M := qwp_ok qmX11_ordersOf_ok.1 [(10, [0, 1, 2, 3])] 43 (⟨fun z1 => ⟨(t.2 z1).1, (show in32 0 from ⟨by decide, by decide⟩), (t.2 z1).2⟩, fun z1 => ⟨_, rfl, (t.1 z1)⟩⟩)
theorem TX11_ordersOf_10 {X : QX} {x : Int} {d : Nat} {post : Int → QMem → Prop} {M : QMem} {v1 v2 v3 : Int} (t : in32 v3 ∧ in32 (M 216 3) ∧ (M 216 3 ≤ v3 → (post v2 M)) ∧ (¬ M 216 3 ≤ v3 → (in32 v1 ∧ (QCm X x d 1 yX11_isIn [(1, v1), (0, v3)] M (fun x1 M1 => (x1 = 0 → (QRm X x (d + 1) qmX11_ordersOf post 10 [(0, (2, 215)), (1, (0, v1)), (2, (0, v2)), (3, (0, v3 + 1))] [] M1)) ∧ (¬ x1 = 0 → in32 x1 ∧ (QCm X x d 1 yX11_aboveOf [(2, 215), (0, v3)] M1 (fun x2 M2 => (qand x2 v1 = 0 → (QCm X x d 1 yX11_ordersOf [(2, 215), (0, qand v1 (qxor (qshl 1 v3) (-1)))] M2 (fun x3 M3 => QRm X x (d + 1) qmX11_ordersOf post 10 [(0, (2, 215)), (1, (0, v1)), (2, (0, v2 + x3)), (3, (0, v3 + 1))] [] M3))) ∧ (¬ qand x2 v1 = 0 → in32 (qand x2 v1) ∧ (QRm X x (d + 1) qmX11_ordersOf post 10 [(0, (2, 215)), (1, (0, v1)), (2, (0, v2)), (3, (0, v3 + 1))] [] M2)))))))))) : QRm X x (d + 1) qmX11_ordersOf post 10 [(0, (2, 215)), (1, (0, v1)), (2, (0, v2)), (3, (0, v3))] [] M := qwp_ok qmX11_ordersOf_ok.1 [(10, [0, 1, 2, 3])] 43 (⟨rfl, ⟨rfl, ⟨(show (0 : Int) ≤ 3 by decide), ⟨(show (3 : Int) < 13125 by decide), ⟨t.1, t.2.1, fun z1 => ⟨_, rfl, (t.2.2.1 z1)⟩, fun z1 => ⟨(t.2.2.2 z1).1, QC.mono ((t.2.2.2 z1).2) (fun x1 h1 u2 => by obtain ⟨M1, rfl, u2⟩ := u2; exact ⟨fun z3 => (u2.1 z3), fun z3 => ⟨(u2.2 z3).1, (show in32 0 from ⟨by decide, by decide⟩), ⟨rfl, QC.mono ((u2.2 z3).2) (fun x2 h2 u4 => by obtain ⟨M2, rfl, u4⟩ := u4; exact ⟨fun z5 => ⟨(u4.2 z5).1, (show in32 0 from ⟨by decide, by decide⟩), (u4.2 z5).2⟩, fun z5 => ⟨rfl, QC.mono (u4.1 z5) (fun x3 h3 u6 => by obtain ⟨M3, rfl, u6⟩ := u6; exact u6)⟩⟩)⟩⟩⟩)⟩⟩⟩⟩⟩⟩)
theorem TX11_orders_0 {X : QX} {x : Int} {d : Nat} {post : Int → QMem → Prop} {M : QMem} (t : QCm X x d 1 yX11_lying [(2, 215)] (qup M 215 0 0) (fun x1 M1 => QCm X x d 1 yX11_ordersOf [(2, 215), (0, x1)] M1 (fun x2 M2 => post x2 M2))) : QRm X x (d + 1) qmX11_orders post 0 [(0, (2, 215))] [] M := qwp_ok qmX11_orders_ok.1 [] 10 (⟨rfl, ⟨rfl, QC.mono t (fun x1 h1 u1 => by obtain ⟨M1, rfl, u1⟩ := u1; exact ⟨rfl, QC.mono u1 (fun x2 h2 u2 => by obtain ⟨M2, rfl, u2⟩ := u2; exact ⟨_, rfl, u2⟩)⟩)⟩⟩)
theorem TX11_isAllIn_0 {X : QX} {x : Int} {d : Nat} {post : Int → QMem → Prop} {M : QMem} (t : QRm X x d qmX11_isAllIn post 2 [(0, (2, 215)), (1, (0, 0))] [] M) : QRm X x d qmX11_isAllIn post 0 [(0, (2, 215))] [] M := qwp_ok qmX11_isAllIn_ok.1 [(2, [0, 1])] 23 (t)
theorem TX11_isAllIn_2 {X : QX} {x : Int} {d : Nat} {post : Int → QMem → Prop} {M : QMem} {v1 : Int} (t : in32 v1 ∧ in32 (M 216 330) ∧ (M 216 330 ≤ v1 → (post 1 M)) ∧ (¬ M 216 330 ≤ v1 → ((0 : Int) ≤ 347 + v1 ∧ (347 + v1 < 13125 ∧ ((M 216 (347 + v1) = 0 → (post 0 M)) ∧ (¬ M 216 (347 + v1) = 0 → in32 (M 216 (347 + v1)) ∧ (QRm X x d qmX11_isAllIn post 2 [(0, (2, 215)), (1, (0, v1 + 1))] [] M))))))) : QRm X x d qmX11_isAllIn post 2 [(0, (2, 215)), (1, (0, v1))] [] M := qwp_ok qmX11_isAllIn_ok.1 [(2, [0, 1])] 23 (⟨rfl, ⟨rfl, ⟨(show (0 : Int) ≤ 330 by decide), ⟨(show (330 : Int) < 13125 by decide), ⟨t.1, t.2.1, fun z1 => ⟨(Or.inr rfl), ⟨_, rfl, (t.2.2.1 z1)⟩⟩, fun z1 => ⟨rfl, ⟨rfl, ⟨(t.2.2.2 z1).1, ⟨(t.2.2.2 z1).2.1, ⟨fun z2 => ⟨((t.2.2.2 z1).2.2.2 z2).1, (show in32 0 from ⟨by decide, by decide⟩), ((t.2.2.2 z1).2.2.2 z2).2⟩, fun z2 => ⟨(Or.inl rfl), ⟨_, rfl, ((t.2.2.2 z1).2.2.1 z2)⟩⟩⟩⟩⟩⟩⟩⟩⟩⟩⟩⟩)
theorem TX11_arrivesIn_0 {X : QX} {x : Int} {d : Nat} {post : Int → QMem → Prop} {M : QMem} {v1 : Int} (t : QRm X x (d + 1) qmX11_arrivesIn post 2 [(0, (2, 215)), (1, (0, v1)), (2, (0, 0))] [] M) : QRm X x (d + 1) qmX11_arrivesIn post 0 [(0, (2, 215)), (1, (0, v1))] [] M := qwp_ok qmX11_arrivesIn_ok.1 [(2, [0, 1, 2])] 27 (t)
theorem TX11_arrivesIn_2 {X : QX} {x : Int} {d : Nat} {post : Int → QMem → Prop} {M : QMem} {v1 v2 : Int} (t : in32 v2 ∧ ((99 : Int) < v2 → (post (-1) M)) ∧ (¬ (99 : Int) < v2 → ((0 : Int) ≤ 347 + v1 ∧ (347 + v1 < 13125 ∧ ((M 216 (347 + v1) = 1 → (post v2 M)) ∧ (¬ M 216 (347 + v1) = 1 → in32 (M 216 (347 + v1)) ∧ (((99 : Int) ≤ v2 → (QRm X x (d + 1) qmX11_arrivesIn post 2 [(0, (2, 215)), (1, (0, v1)), (2, (0, v2 + 1))] [] M)) ∧ (¬ (99 : Int) ≤ v2 → (QCm X x d 1 yX11_goesHour [(2, 215)] M (fun x1 M1 => QRm X x (d + 1) qmX11_arrivesIn post 2 [(0, (2, 215)), (1, (0, v1)), (2, (0, v2 + 1))] [] M1)))))))))) : QRm X x (d + 1) qmX11_arrivesIn post 2 [(0, (2, 215)), (1, (0, v1)), (2, (0, v2))] [] M := qwp_ok qmX11_arrivesIn_ok.1 [(2, [0, 1, 2])] 27 (⟨t.1, (show in32 99 from ⟨by decide, by decide⟩), fun z1 => ⟨_, rfl, (t.2.1 z1)⟩, fun z1 => ⟨rfl, ⟨rfl, ⟨(t.2.2 z1).1, ⟨(t.2.2 z1).2.1, ⟨fun z2 => ⟨((t.2.2 z1).2.2.2 z2).1, (show in32 1 from ⟨by decide, by decide⟩), ⟨t.1, (show in32 99 from ⟨by decide, by decide⟩), fun z3 => (((t.2.2 z1).2.2.2 z2).2.1 z3), fun z3 => ⟨rfl, QC.mono (((t.2.2 z1).2.2.2 z2).2.2 z3) (fun x1 h1 u4 => by obtain ⟨M1, rfl, u4⟩ := u4; exact u4)⟩⟩⟩, fun z2 => ⟨_, rfl, ((t.2.2 z1).2.2.1 z2)⟩⟩⟩⟩⟩⟩⟩)
theorem TX11_arrives_0 {X : QX} {x : Int} {d : Nat} {post : Int → QMem → Prop} {M : QMem} {v1 : Int} (t : in32 v1 ∧ (QCm X x d 1 yX11_isGoer [(2, 215), (1, v1)] (qup M 215 0 0) (fun x1 M1 => (x1 = 0 → (post (-2) M1)) ∧ (¬ x1 = 0 → in32 x1 ∧ (QCm X x d 0 yX11_keeps [(2, 215)] M1 (fun _ M2 => QCm X x d 1 yX11_arrivesIn [(2, 215), (0, v1)] M2 (fun x3 M3 => QCm X x d 0 yX11_isAgain [(2, 215)] M3 (fun _ M4 => post x3 M4)))))))) : QRm X x (d + 1) qmX11_arrives post 0 [(0, (2, 215)), (1, (0, v1))] [] M := qwp_ok qmX11_arrives_ok.1 [] 22 (⟨rfl, ⟨t.1, ⟨rfl, QC.mono t.2 (fun x1 h1 u1 => by obtain ⟨M1, rfl, u1⟩ := u1; exact ⟨fun z2 => ⟨(u1.2 z2).1, (show in32 0 from ⟨by decide, by decide⟩), ⟨rfl, QC.mono ((u1.2 z2).2) (fun _ h2 u3 => by obtain ⟨M2, rfl, u3⟩ := u3; exact ⟨rfl, QC.mono u3 (fun x3 h3 u4 => by obtain ⟨M3, rfl, u4⟩ := u4; exact ⟨rfl, QC.mono u4 (fun _ h4 u5 => by obtain ⟨M4, rfl, u5⟩ := u5; exact ⟨_, rfl, u5⟩)⟩)⟩)⟩⟩, fun z2 => ⟨_, rfl, (u1.1 z2)⟩⟩)⟩⟩⟩)
theorem TX11_waits_0 {X : QX} {x : Int} {d : Nat} {post : Int → QMem → Prop} {M : QMem} {v1 : Int} (t : in32 v1 ∧ (QCm X x d 1 yX11_isGoer [(2, 215), (1, v1)] (qup M 215 0 0) (fun x1 M1 => (x1 = 0 → (post (-2) M1)) ∧ (¬ x1 = 0 → in32 x1 ∧ ((0 : Int) ≤ 355 + v1 ∧ (355 + v1 < 13125 ∧ (QCm X x d 0 yX11_keeps [(2, 215)] M1 (fun _ M2 => QCm X x d 1 yX11_arrivesIn [(2, 215), (0, v1)] M2 (fun x3 M3 => QCm X x d 0 yX11_isAgain [(2, 215)] M3 (fun _ M4 => post ((M3 216 (355 + v1)) - (M1 216 (355 + v1))) M4)))))))))) : QRm X x (d + 1) qmX11_waits post 0 [(0, (2, 215)), (1, (0, v1))] [] M := qwp_ok qmX11_waits_ok.1 [] 38 (⟨rfl, ⟨t.1, ⟨rfl, QC.mono t.2 (fun x1 h1 u1 => by obtain ⟨M1, rfl, u1⟩ := u1; exact ⟨fun z2 => ⟨(u1.2 z2).1, (show in32 0 from ⟨by decide, by decide⟩), ⟨rfl, ⟨rfl, ⟨(u1.2 z2).2.1, ⟨(u1.2 z2).2.2.1, ⟨rfl, QC.mono ((u1.2 z2).2.2.2) (fun _ h2 u3 => by obtain ⟨M2, rfl, u3⟩ := u3; exact ⟨rfl, QC.mono u3 (fun x3 h3 u4 => by obtain ⟨M3, rfl, u4⟩ := u4; exact ⟨rfl, ⟨rfl, ⟨(u1.2 z2).2.1, ⟨(u1.2 z2).2.2.1, ⟨rfl, QC.mono u4 (fun _ h4 u5 => by obtain ⟨M4, rfl, u5⟩ := u5; exact ⟨_, rfl, u5⟩)⟩⟩⟩⟩⟩)⟩)⟩⟩⟩⟩⟩⟩, fun z2 => ⟨_, rfl, (u1.1 z2)⟩⟩)⟩⟩⟩)
theorem TX11_allIn_0 {X : QX} {x : Int} {d : Nat} {post : Int → QMem → Prop} {M : QMem} (t : QCm X x d 0 yX11_keeps [(2, 215)] (qup M 215 0 0) (fun _ M1 => QRm X x (d + 1) qmX11_allIn post 13 [(0, (2, 215)), (1, (0, (-1))), (2, (0, 0))] [] M1)) : QRm X x (d + 1) qmX11_allIn post 0 [(0, (2, 215))] [] M := qwp_ok qmX11_allIn_ok.1 [(13, [0, 1, 2])] 31 (⟨rfl, ⟨rfl, QC.mono t (fun _ h1 u1 => by obtain ⟨M1, rfl, u1⟩ := u1; exact u1)⟩⟩)
theorem TX11_allIn_13 {X : QX} {x : Int} {d : Nat} {post : Int → QMem → Prop} {M : QMem} {v1 v2 : Int} (t : in32 v2 ∧ ((99 : Int) < v2 → (QCm X x d 0 yX11_isAgain [(2, 215)] M (fun _ M1 => post v1 M1))) ∧ (¬ (99 : Int) < v2 → ((v1 = (-1) → (QCm X x d 1 yX11_isAllIn [(2, 215)] M (fun x2 M2 => (x2 = 0 → (QCm X x d 1 yX11_goesHour [(2, 215)] M2 (fun x3 M3 => QRm X x (d + 1) qmX11_allIn post 13 [(0, (2, 215)), (1, (0, v1)), (2, (0, v2 + 1))] [] M3))) ∧ (¬ x2 = 0 → in32 x2 ∧ (QCm X x d 1 yX11_goesHour [(2, 215)] M2 (fun x4 M4 => QRm X x (d + 1) qmX11_allIn post 13 [(0, (2, 215)), (1, (0, v2)), (2, (0, v2 + 1))] [] M4)))))) ∧ (¬ v1 = (-1) → in32 v1 ∧ (QCm X x d 0 yX11_isAgain [(2, 215)] M (fun _ M5 => post v1 M5)))))) : QRm X x (d + 1) qmX11_allIn post 13 [(0, (2, 215)), (1, (0, v1)), (2, (0, v2))] [] M := qwp_ok qmX11_allIn_ok.1 [(13, [0, 1, 2])] 31 (⟨t.1, (show in32 99 from ⟨by decide, by decide⟩), fun z1 => ⟨rfl, QC.mono (t.2.1 z1) (fun _ h1 u2 => by obtain ⟨M1, rfl, u2⟩ := u2; exact ⟨_, rfl, u2⟩)⟩, fun z1 => ⟨fun z3 => ⟨((t.2.2 z1).2 z3).1, (show in32 (-1) from ⟨by decide, by decide⟩), ⟨rfl, QC.mono (((t.2.2 z1).2 z3).2) (fun _ h5 u8 => by obtain ⟨M5, rfl, u8⟩ := u8; exact ⟨_, rfl, u8⟩)⟩⟩, fun z3 => ⟨rfl, QC.mono ((t.2.2 z1).1 z3) (fun x2 h2 u4 => by obtain ⟨M2, rfl, u4⟩ := u4; exact ⟨fun z5 => ⟨rfl, QC.mono (u4.1 z5) (fun x3 h3 u6 => by obtain ⟨M3, rfl, u6⟩ := u6; exact u6)⟩, fun z5 => ⟨(u4.2 z5).1, (show in32 0 from ⟨by decide, by decide⟩), ⟨rfl, QC.mono ((u4.2 z5).2) (fun x4 h4 u7 => by obtain ⟨M4, rfl, u7⟩ := u7; exact u7)⟩⟩⟩)⟩⟩⟩)
theorem TX11_free_0 {X : QX} {x : Int} {d : Nat} {post : Int → QMem → Prop} {M : QMem} {v1 : Int} (t : in32 v1 ∧ (QCm X x d 1 yX11_isDrum [(2, 215), (1, v1)] (qup M 215 0 0) (fun x1 M1 => (x1 = 0 → (post (-2) M1)) ∧ (¬ x1 = 0 → in32 x1 ∧ ((0 : Int) ≤ 60 + v1 ∧ (60 + v1 < 13125 ∧ ((M1 216 (60 + v1) = 0 → (post (-5) M1)) ∧ (¬ M1 216 (60 + v1) = 0 → in32 (M1 216 (60 + v1)) ∧ (QCm X x d 0 yX11_keeps [(2, 215)] M1 (fun _ M2 => QRm X x (d + 1) qmX11_free post 40 [(0, (2, 215)), (1, (0, v1)), (2, (0, (-1))), (3, (0, 0))] [] M2)))))))))) : QRm X x (d + 1) qmX11_free post 0 [(0, (2, 215)), (1, (0, v1))] [] M := qwp_ok qmX11_free_ok.1 [(40, [0, 1, 2, 3])] 49 (⟨rfl, ⟨t.1, ⟨rfl, QC.mono t.2 (fun x1 h1 u1 => by obtain ⟨M1, rfl, u1⟩ := u1; exact ⟨fun z2 => ⟨(u1.2 z2).1, (show in32 0 from ⟨by decide, by decide⟩), ⟨rfl, ⟨rfl, ⟨(u1.2 z2).2.1, ⟨(u1.2 z2).2.2.1, ⟨fun z3 => ⟨((u1.2 z2).2.2.2.2 z3).1, (show in32 0 from ⟨by decide, by decide⟩), ⟨rfl, QC.mono (((u1.2 z2).2.2.2.2 z3).2) (fun _ h2 u4 => by obtain ⟨M2, rfl, u4⟩ := u4; exact u4)⟩⟩, fun z3 => ⟨_, rfl, ((u1.2 z2).2.2.2.1 z3)⟩⟩⟩⟩⟩⟩⟩, fun z2 => ⟨_, rfl, (u1.1 z2)⟩⟩)⟩⟩⟩)
theorem TX11_free_40 {X : QX} {x : Int} {d : Nat} {post : Int → QMem → Prop} {M : QMem} {v1 v2 v3 : Int} (t : in32 v3 ∧ ((99 : Int) < v3 → (QCm X x d 0 yX11_isAgain [(2, 215)] M (fun _ M1 => post v2 M1))) ∧ (¬ (99 : Int) < v3 → ((v2 = (-1) → (in32 v1 ∧ (QCm X x d 1 yX11_whyIn [(2, 215), (1, v1)] M (fun x2 M2 => (x2 = 0 → (QCm X x d 1 yX11_goesHour [(2, 215)] M2 (fun x3 M3 => QRm X x (d + 1) qmX11_free post 40 [(0, (2, 215)), (1, (0, v1)), (2, (0, v3)), (3, (0, v3 + 1))] [] M3))) ∧ (¬ x2 = 0 → in32 x2 ∧ (QCm X x d 1 yX11_goesHour [(2, 215)] M2 (fun x4 M4 => QRm X x (d + 1) qmX11_free post 40 [(0, (2, 215)), (1, (0, v1)), (2, (0, v2)), (3, (0, v3 + 1))] [] M4))))))) ∧ (¬ v2 = (-1) → in32 v2 ∧ (QCm X x d 0 yX11_isAgain [(2, 215)] M (fun _ M5 => post v2 M5)))))) : QRm X x (d + 1) qmX11_free post 40 [(0, (2, 215)), (1, (0, v1)), (2, (0, v2)), (3, (0, v3))] [] M := qwp_ok qmX11_free_ok.1 [(40, [0, 1, 2, 3])] 49 (⟨t.1, (show in32 99 from ⟨by decide, by decide⟩), fun z1 => ⟨rfl, QC.mono (t.2.1 z1) (fun _ h1 u2 => by obtain ⟨M1, rfl, u2⟩ := u2; exact ⟨_, rfl, u2⟩)⟩, fun z1 => ⟨fun z3 => ⟨((t.2.2 z1).2 z3).1, (show in32 (-1) from ⟨by decide, by decide⟩), ⟨rfl, QC.mono (((t.2.2 z1).2 z3).2) (fun _ h5 u8 => by obtain ⟨M5, rfl, u8⟩ := u8; exact ⟨_, rfl, u8⟩)⟩⟩, fun z3 => ⟨((t.2.2 z1).1 z3).1, ⟨rfl, QC.mono (((t.2.2 z1).1 z3).2) (fun x2 h2 u4 => by obtain ⟨M2, rfl, u4⟩ := u4; exact ⟨fun z5 => ⟨(u4.2 z5).1, (show in32 0 from ⟨by decide, by decide⟩), ⟨rfl, QC.mono ((u4.2 z5).2) (fun x4 h4 u7 => by obtain ⟨M4, rfl, u7⟩ := u7; exact u7)⟩⟩, fun z5 => ⟨rfl, QC.mono (u4.1 z5) (fun x3 h3 u6 => by obtain ⟨M3, rfl, u6⟩ := u6; exact u6)⟩⟩)⟩⟩⟩⟩)
theorem TX11_goersOnCells_0 {X : QX} {x : Int} {d : Nat} {post : Int → QMem → Prop} {M : QMem} (t : QRm X x d qmX11_goersOnCells post 4 [(0, (2, 215)), (1, (0, 0)), (2, (0, 0))] [] M) : QRm X x d qmX11_goersOnCells post 0 [(0, (2, 215))] [] M := qwp_ok qmX11_goersOnCells_ok.1 [(4, [0, 1, 2])] 36 (t)
theorem TX11_goersOnCells_4 {X : QX} {x : Int} {d : Nat} {post : Int → QMem → Prop} {M : QMem} {v1 v2 : Int} (t : in32 v2 ∧ in32 (M 216 330) ∧ (M 216 330 ≤ v2 → (post v1 M)) ∧ (¬ M 216 330 ≤ v2 → ((0 : Int) ≤ 347 + v2 ∧ (347 + v2 < 13125 ∧ ((M 216 (347 + v2) = 0 → ((0 : Int) ≤ 339 + v2 ∧ (339 + v2 < 13125 ∧ (in32 (M 216 (339 + v2)) ∧ (M 216 (339 + v2) < 0 → (QRm X x d qmX11_goersOnCells post 4 [(0, (2, 215)), (1, (0, v1 + 0)), (2, (0, v2 + 1))] [] M)) ∧ (¬ M 216 (339 + v2) < 0 → (QRm X x d qmX11_goersOnCells post 4 [(0, (2, 215)), (1, (0, v1 + 1)), (2, (0, v2 + 1))] [] M)))))) ∧ (¬ M 216 (347 + v2) = 0 → in32 (M 216 (347 + v2)) ∧ (QRm X x d qmX11_goersOnCells post 4 [(0, (2, 215)), (1, (0, v1 + 0)), (2, (0, v2 + 1))] [] M))))))) : QRm X x d qmX11_goersOnCells post 4 [(0, (2, 215)), (1, (0, v1)), (2, (0, v2))] [] M := qwp_ok qmX11_goersOnCells_ok.1 [(4, [0, 1, 2])] 36 (⟨rfl, ⟨rfl, ⟨(show (0 : Int) ≤ 330 by decide), ⟨(show (330 : Int) < 13125 by decide), ⟨t.1, t.2.1, fun z1 => ⟨_, rfl, (t.2.2.1 z1)⟩, fun z1 => ⟨rfl, ⟨rfl, ⟨(t.2.2.2 z1).1, ⟨(t.2.2.2 z1).2.1, ⟨fun z2 => ⟨((t.2.2.2 z1).2.2.2 z2).1, (show in32 0 from ⟨by decide, by decide⟩), ((t.2.2.2 z1).2.2.2 z2).2⟩, fun z2 => ⟨rfl, ⟨rfl, ⟨((t.2.2.2 z1).2.2.1 z2).1, ⟨((t.2.2.2 z1).2.2.1 z2).2.1, ⟨((t.2.2.2 z1).2.2.1 z2).2.2.1, (show in32 0 from ⟨by decide, by decide⟩), fun z3 => (((t.2.2.2 z1).2.2.1 z2).2.2.2.1 z3), fun z3 => (((t.2.2.2 z1).2.2.1 z2).2.2.2.2 z3)⟩⟩⟩⟩⟩⟩⟩⟩⟩⟩⟩⟩⟩⟩⟩)
theorem TX11_busiest_0 {X : QX} {x : Int} {d : Nat} {post : Int → QMem → Prop} {M : QMem} (t : QCm X x d 0 yX11_keeps [(2, 215)] (qup M 215 0 0) (fun _ M1 => QRm X x (d + 1) qmX11_busiest post 15 [(0, (2, 215)), (1, (0, 0)), (2, (0, (-1))), (3, (0, 0))] [] M1)) : QRm X x (d + 1) qmX11_busiest post 0 [(0, (2, 215))] [] M := qwp_ok qmX11_busiest_ok.1 [(15, [0, 1, 2, 3])] 35 (⟨rfl, ⟨rfl, QC.mono t (fun _ h1 u1 => by obtain ⟨M1, rfl, u1⟩ := u1; exact u1)⟩⟩)
theorem TX11_busiest_15 {X : QX} {x : Int} {d : Nat} {post : Int → QMem → Prop} {M : QMem} {v1 v2 v3 : Int} (t : in32 v3 ∧ ((99 : Int) < v3 → (QCm X x d 0 yX11_isAgain [(2, 215)] M (fun _ M1 => post v1 M1))) ∧ (¬ (99 : Int) < v3 → (QCm X x d 1 yX11_goersOnCells [(2, 215)] M (fun x2 M2 => in32 x2 ∧ in32 v2 ∧ (x2 ≤ v2 → (QCm X x d 1 yX11_goesHour [(2, 215)] M2 (fun x3 M3 => QRm X x (d + 1) qmX11_busiest post 15 [(0, (2, 215)), (1, (0, v1)), (2, (0, v2)), (3, (0, v3 + 1))] [] M3))) ∧ (¬ x2 ≤ v2 → (QCm X x d 1 yX11_goesHour [(2, 215)] M2 (fun x4 M4 => QRm X x (d + 1) qmX11_busiest post 15 [(0, (2, 215)), (1, (0, v3)), (2, (0, x2)), (3, (0, v3 + 1))] [] M4))))))) : QRm X x (d + 1) qmX11_busiest post 15 [(0, (2, 215)), (1, (0, v1)), (2, (0, v2)), (3, (0, v3))] [] M := qwp_ok qmX11_busiest_ok.1 [(15, [0, 1, 2, 3])] 35 (⟨t.1, (show in32 99 from ⟨by decide, by decide⟩), fun z1 => ⟨rfl, QC.mono (t.2.1 z1) (fun _ h1 u2 => by obtain ⟨M1, rfl, u2⟩ := u2; exact ⟨_, rfl, u2⟩)⟩, fun z1 => ⟨rfl, QC.mono (t.2.2 z1) (fun x2 h2 u3 => by obtain ⟨M2, rfl, u3⟩ := u3; exact ⟨u3.1, u3.2.1, fun z4 => ⟨rfl, QC.mono (u3.2.2.1 z4) (fun x3 h3 u5 => by obtain ⟨M3, rfl, u5⟩ := u5; exact u5)⟩, fun z4 => ⟨rfl, QC.mono (u3.2.2.2 z4) (fun x4 h4 u6 => by obtain ⟨M4, rfl, u6⟩ := u6; exact u6)⟩⟩)⟩⟩)
theorem TX11_wouldArrive_0 {X : QX} {x : Int} {d : Nat} {post : Int → QMem → Prop} {M : QMem} {v1 : Int} (t : in32 v1 ∧ (QCm X x d 1 yX11_whyOut [(2, 215), (1, v1)] (qup M 215 0 0) (fun x1 M1 => (x1 = 0 → (QCm X x d 0 yX11_keeps [(2, 215)] M1 (fun _ M2 => QCm X x d 0 yX11_setsOut [(2, 215), (0, v1)] M2 (fun _ M3 => QCm X x d 1 yX11_arrivesIn [(2, 215), (0, (M3 216 330) - 1)] M3 (fun x4 M4 => QCm X x d 0 yX11_isAgain [(2, 215)] M4 (fun _ M5 => post x4 M5)))))) ∧ (¬ x1 = 0 → in32 x1 ∧ ((x1 = 1 → (post (-2) M1)) ∧ (¬ x1 = 1 → (post (-5) M1))))))) : QRm X x (d + 1) qmX11_wouldArrive post 0 [(0, (2, 215)), (1, (0, v1))] [] M := qwp_ok qmX11_wouldArrive_ok.1 [] 37 (⟨rfl, ⟨t.1, ⟨rfl, QC.mono t.2 (fun x1 h1 u1 => by obtain ⟨M1, rfl, u1⟩ := u1; exact ⟨fun z2 => ⟨rfl, QC.mono (u1.1 z2) (fun _ h2 u3 => by obtain ⟨M2, rfl, u3⟩ := u3; exact ⟨rfl, QC.mono u3 (fun _ h3 u4 => by obtain ⟨M3, rfl, u4⟩ := u4; exact ⟨rfl, ⟨rfl, ⟨(show (0 : Int) ≤ 330 by decide), ⟨(show (330 : Int) < 13125 by decide), ⟨rfl, QC.mono u4 (fun x4 h4 u5 => by obtain ⟨M4, rfl, u5⟩ := u5; exact ⟨rfl, QC.mono u5 (fun _ h5 u6 => by obtain ⟨M5, rfl, u6⟩ := u6; exact ⟨_, rfl, u6⟩)⟩)⟩⟩⟩⟩⟩)⟩)⟩, fun z2 => ⟨(u1.2 z2).1, (show in32 0 from ⟨by decide, by decide⟩), ⟨fun z7 => ⟨(u1.2 z2).1, (show in32 1 from ⟨by decide, by decide⟩), ⟨_, rfl, ((u1.2 z2).2.2 z7)⟩⟩, fun z7 => ⟨_, rfl, ((u1.2 z2).2.1 z7)⟩⟩⟩⟩)⟩⟩⟩)
theorem TX11_noFaded_0 {X : QX} {x : Int} {d : Nat} {post : Int → QMem → Prop} {M : QMem} {v1 v2 : Int} (t : in32 v1 ∧ (QCm X x d 1 yX11_within [(1, v1), (1, 0), (1, 3)] M (fun x1 M1 => (x1 = 0 → (post (-2) M1)) ∧ (¬ x1 = 0 → in32 x1 ∧ (in32 v2 ∧ (QCm X x d 1 yX11_isDrum [(2, 215), (1, v2)] M1 (fun x2 M2 => (x2 = 0 → (post (-2) M2)) ∧ (¬ x2 = 0 → in32 x2 ∧ (QCm X x d 1 yX11_noTray [(2, 215), (0, v1)] M2 (fun x3 M3 => (x3 = 0 → ((0 : Int) ≤ v1 ∧ (v1 < 4 ∧ (in32 (M3 229 v1) ∧ (QCm X x d 1 yX11_within [(1, M3 229 v1), (1, 1), (1, 6)] M3 (fun x4 M4 => (x4 = 0 → (post (-4) M4)) ∧ (¬ x4 = 0 → in32 x4 ∧ (QRm X x (d + 1) qmX11_noFaded post 59 [(0, (2, 215)), (1, (0, v1)), (4, (0, 0))] [] M4)))))))) ∧ (¬ x3 = 0 → in32 x3 ∧ (post x3 M3)))))))))))) : QRm X x (d + 1) qmX11_noFaded post 0 [(0, (2, 215)), (1, (0, v1)), (2, (0, v2))] [] M := qwp_ok qmX11_noFaded_ok.1 [(59, [0, 1, 4])] 59 (⟨t.1, QC.mono t.2 (fun x1 h1 u1 => by obtain ⟨M1, rfl, u1⟩ := u1; exact ⟨fun z2 => ⟨_, rfl, (u1.1 z2)⟩, fun z2 => ⟨(u1.2 z2).1, (show in32 0 from ⟨by decide, by decide⟩), ⟨(u1.2 z2).2.1, ⟨rfl, QC.mono ((u1.2 z2).2.2) (fun x2 h2 u3 => by obtain ⟨M2, rfl, u3⟩ := u3; exact ⟨fun z4 => ⟨(u3.2 z4).1, (show in32 0 from ⟨by decide, by decide⟩), ⟨rfl, QC.mono ((u3.2 z4).2) (fun x3 h3 u5 => by obtain ⟨M3, rfl, u5⟩ := u5; exact ⟨fun z6 => ⟨rfl, ⟨rfl, ⟨(u5.1 z6).1, ⟨(u5.1 z6).2.1, ⟨(u5.1 z6).2.2.1, QC.mono ((u5.1 z6).2.2.2) (fun x4 h4 u7 => by obtain ⟨M4, rfl, u7⟩ := u7; exact ⟨fun z8 => ⟨(u7.2 z8).1, (show in32 0 from ⟨by decide, by decide⟩), (u7.2 z8).2⟩, fun z8 => ⟨_, rfl, (u7.1 z8)⟩⟩)⟩⟩⟩⟩⟩, fun z6 => ⟨(u5.2 z6).1, (show in32 0 from ⟨by decide, by decide⟩), ⟨_, rfl, (u5.2 z6).2⟩⟩⟩)⟩⟩, fun z4 => ⟨_, rfl, (u3.1 z4)⟩⟩)⟩⟩⟩⟩)⟩)
theorem TX11_noFaded_59 {X : QX} {x : Int} {d : Nat} {post : Int → QMem → Prop} {M : QMem} {v1 v4 : Int} (t : (0 : Int) ≤ v1 ∧ (v1 < 4 ∧ (in32 v4 ∧ in32 (M 229 v1) ∧ (M 229 v1 ≤ v4 → (post 0 M)) ∧ (¬ M 229 v1 ≤ v4 → ((0 : Int) ≤ (40 * v1) + v4 ∧ ((40 * v1) + v4 < 160 ∧ (QCm X x d 1 yX11_isCell [(2, 215), (1, M 230 ((40 * v1) + v4))] M (fun x1 M1 => (x1 = 0 → (post (-3) M1)) ∧ (¬ x1 = 0 → in32 x1 ∧ (QRm X x (d + 1) qmX11_noFaded post 59 [(0, (2, 215)), (1, (0, v1)), (4, (0, v4 + 1))] [] M1)))))))))) : QRm X x (d + 1) qmX11_noFaded post 59 [(0, (2, 215)), (1, (0, v1)), (4, (0, v4))] [] M := qwp_ok qmX11_noFaded_ok.1 [(59, [0, 1, 4])] 59 (⟨rfl, ⟨rfl, ⟨t.1, ⟨t.2.1, ⟨t.2.2.1, t.2.2.2.1, fun z1 => ⟨_, rfl, (t.2.2.2.2.1 z1)⟩, fun z1 => ⟨rfl, ⟨rfl, ⟨(t.2.2.2.2.2 z1).1, ⟨(t.2.2.2.2.2 z1).2.1, ⟨rfl, QC.mono ((t.2.2.2.2.2 z1).2.2) (fun x1 h1 u2 => by obtain ⟨M1, rfl, u2⟩ := u2; exact ⟨fun z3 => ⟨(u2.2 z3).1, (show in32 0 from ⟨by decide, by decide⟩), (u2.2 z3).2⟩, fun z3 => ⟨_, rfl, (u2.1 z3)⟩⟩)⟩⟩⟩⟩⟩⟩⟩⟩⟩⟩)
theorem TX11_fits_0 {X : QX} {x : Int} {d : Nat} {post : Int → QMem → Prop} {M : QMem} {v1 v2 : Int} (t : QRm X x (d + 1) qmX11_fits post 8 [(0, (2, 215)), (1, (0, v1)), (2, (0, v2)), (3, (1, 0)), (5, (1, 0)), (7, (0, 0))] [] M) : QRm X x (d + 1) qmX11_fits post 0 [(0, (2, 215)), (1, (0, v1)), (2, (0, v2))] [] M := qwp_ok qmX11_fits_ok.1 [(8, [0, 1, 2, 3, 5, 7]), (46, [0, 2, 3, 5, 7])] 73 (t)
theorem TX11_fits_8 {X : QX} {x : Int} {d : Nat} {post : Int → QMem → Prop} {M : QMem} {v1 v2 v3 v5 v7 : Int} (t : (0 : Int) ≤ v1 ∧ (v1 < 4 ∧ (in32 v7 ∧ in32 (M 229 v1) ∧ (M 229 v1 ≤ v7 → (QRm X x (d + 1) qmX11_fits post 46 [(0, (2, 215)), (2, (0, v2)), (3, (1, v3)), (5, (1, v5)), (7, (0, 0))] [] M)) ∧ (¬ M 229 v1 ≤ v7 → ((0 : Int) ≤ (40 * v1) + v7 ∧ ((40 * v1) + v7 < 160 ∧ (QRm X x (d + 1) qmX11_fits post 8 [(0, (2, 215)), (1, (0, v1)), (2, (0, v2)), (3, (1, qlor v3 (qlshl 1 (ql2i (M 230 ((40 * v1) + v7)))))), (5, (1, v5)), (7, (0, v7 + 1))] [] M))))))) : QRm X x (d + 1) qmX11_fits post 8 [(0, (2, 215)), (1, (0, v1)), (2, (0, v2)), (3, (1, v3)), (5, (1, v5)), (7, (0, v7))] [] M := qwp_ok qmX11_fits_ok.1 [(8, [0, 1, 2, 3, 5, 7]), (46, [0, 2, 3, 5, 7])] 73 (⟨rfl, ⟨rfl, ⟨t.1, ⟨t.2.1, ⟨t.2.2.1, t.2.2.2.1, fun z1 => (t.2.2.2.2.1 z1), fun z1 => ⟨rfl, ⟨rfl, ⟨(t.2.2.2.2.2 z1).1, ⟨(t.2.2.2.2.2 z1).2.1, (t.2.2.2.2.2 z1).2.2⟩⟩⟩⟩⟩⟩⟩⟩⟩)
theorem TX11_fits_46 {X : QX} {x : Int} {d : Nat} {post : Int → QMem → Prop} {M : QMem} {v2 v3 v5 v7 : Int} (t : QCm X x d 1 yX11_cells [(2, 215)] M (fun x1 M1 => in32 v7 ∧ in32 x1 ∧ (x1 ≤ v7 → (post v5 M1)) ∧ (¬ x1 ≤ v7 → (QCm X x d 1 yX11_laysWay [(2, 215), (0, v2), (0, v7)] M1 (fun x2 M2 => (x2 = (-1) → ((0 : Int) ≤ v7 ∧ (v7 < 36 ∧ (QRm X x (d + 1) qmX11_fits post 46 [(0, (2, 215)), (2, (0, v2)), (3, (1, v3)), (5, (1, qlor v5 0)), (7, (0, v7 + 1))] [] (qup M2 227 v7 (M2 215 26)))))) ∧ (¬ x2 = (-1) → in32 x2 ∧ ((0 : Int) ≤ v7 ∧ (v7 < 36 ∧ ((qland ((qup M2 227 v7 (M2 215 26)) 215 26) v3 = v3 → (QRm X x (d + 1) qmX11_fits post 46 [(0, (2, 215)), (2, (0, v2)), (3, (1, v3)), (5, (1, qlor v5 (qlshl 1 v7))), (7, (0, v7 + 1))] [] (qup M2 227 v7 (M2 215 26)))) ∧ (¬ qland ((qup M2 227 v7 (M2 215 26)) 215 26) v3 = v3 → in64 (qland ((qup M2 227 v7 (M2 215 26)) 215 26) v3) ∧ in64 v3 ∧ (QRm X x (d + 1) qmX11_fits post 46 [(0, (2, 215)), (2, (0, v2)), (3, (1, v3)), (5, (1, qlor v5 0)), (7, (0, v7 + 1))] [] (qup M2 227 v7 (M2 215 26))))))))))))) : QRm X x (d + 1) qmX11_fits post 46 [(0, (2, 215)), (2, (0, v2)), (3, (1, v3)), (5, (1, v5)), (7, (0, v7))] [] M := qwp_ok qmX11_fits_ok.1 [(8, [0, 1, 2, 3, 5, 7]), (46, [0, 2, 3, 5, 7])] 73 (⟨rfl, QC.mono t (fun x1 h1 u1 => by obtain ⟨M1, rfl, u1⟩ := u1; exact ⟨u1.1, u1.2.1, fun z2 => ⟨_, rfl, (u1.2.2.1 z2)⟩, fun z2 => ⟨rfl, QC.mono (u1.2.2.2 z2) (fun x2 h2 u3 => by obtain ⟨M2, rfl, u3⟩ := u3; exact ⟨fun z4 => ⟨rfl, ⟨rfl, ⟨rfl, ⟨(u3.1 z4).1, ⟨(u3.1 z4).2.1, ⟨fun _ => (u3.1 z4).2.2, fun z5 => absurd rfl z5⟩⟩⟩⟩⟩⟩, fun z4 => ⟨(u3.2 z4).1, (show in32 (-1) from ⟨by decide, by decide⟩), ⟨rfl, ⟨rfl, ⟨rfl, ⟨(u3.2 z4).2.1, ⟨(u3.2 z4).2.2.1, ⟨fun z6 => absurd z6 (by decide), fun _ => ⟨(show in32 1 from ⟨by decide, by decide⟩), (show in32 0 from ⟨by decide, by decide⟩), ⟨rfl, ⟨fun z7 => ⟨((u3.2 z4).2.2.2.2 z7).1, ((u3.2 z4).2.2.2.2 z7).2.1, ((u3.2 z4).2.2.2.2 z7).2.2⟩, fun z7 => ((u3.2 z4).2.2.2.1 z7)⟩⟩⟩⟩⟩⟩⟩⟩⟩⟩⟩)⟩⟩)⟩)
theorem TX11_faded_0 {X : QX} {x : Int} {d : Nat} {post : Int → QMem → Prop} {M : QMem} {v1 v2 : Int} (t : QCm X x d 1 yX11_noFaded [(2, 215), (0, v1), (0, v2)] (qup M 215 0 0) (fun x1 M1 => (x1 = 0 → (QCm X x d 2 yX11_fits [(2, 215), (0, v1), (0, v2)] M1 (fun x2 M2 => post x2 M2))) ∧ (¬ x1 = 0 → in32 x1 ∧ (post x1 M1)))) : QRm X x (d + 1) qmX11_faded post 0 [(0, (2, 215)), (1, (0, v1)), (2, (0, v2))] [] M := qwp_ok qmX11_faded_ok.1 [] 20 (⟨rfl, ⟨rfl, QC.mono t (fun x1 h1 u1 => by obtain ⟨M1, rfl, u1⟩ := u1; exact ⟨fun z2 => ⟨rfl, QC.mono (u1.1 z2) (fun x2 h2 u3 => by obtain ⟨M2, rfl, u3⟩ := u3; exact ⟨_, rfl, u3⟩)⟩, fun z2 => ⟨(u1.2 z2).1, (show in32 0 from ⟨by decide, by decide⟩), ⟨(u1.2 z2).1, ⟨_, rfl, (u1.2 z2).2⟩⟩⟩⟩)⟩⟩)
theorem TX11_manyOf_0 {X : QX} {x : Int} {d : Nat} {post : Int → QMem → Prop} {M : QMem} {v0 : Int} (t : QRm X x (d + 1) qmX11_manyOf post 4 [(0, (1, v0)), (2, (0, 0)), (3, (0, 0))] [] M) : QRm X x (d + 1) qmX11_manyOf post 0 [(0, (1, v0))] [] M := qwp_ok qmX11_manyOf_ok.1 [(4, [0, 2, 3])] 23 (t)
theorem TX11_manyOf_4 {X : QX} {x : Int} {d : Nat} {post : Int → QMem → Prop} {M : QMem} {v0 v2 v3 : Int} (t : in32 v3 ∧ ((36 : Int) ≤ v3 → (post v2 M)) ∧ (¬ (36 : Int) ≤ v3 → (QCm X x d 1 yX11_isIn [(1, v0), (0, v3)] M (fun x1 M1 => (x1 = 0 → (QRm X x (d + 1) qmX11_manyOf post 4 [(0, (1, v0)), (2, (0, v2 + 0)), (3, (0, v3 + 1))] [] M1)) ∧ (¬ x1 = 0 → in32 x1 ∧ (QRm X x (d + 1) qmX11_manyOf post 4 [(0, (1, v0)), (2, (0, v2 + 1)), (3, (0, v3 + 1))] [] M1)))))) : QRm X x (d + 1) qmX11_manyOf post 4 [(0, (1, v0)), (2, (0, v2)), (3, (0, v3))] [] M := qwp_ok qmX11_manyOf_ok.1 [(4, [0, 2, 3])] 23 (⟨t.1, (show in32 36 from ⟨by decide, by decide⟩), fun z1 => ⟨_, rfl, (t.2.1 z1)⟩, fun z1 => QC.mono (t.2.2 z1) (fun x1 h1 u2 => by obtain ⟨M1, rfl, u2⟩ := u2; exact ⟨fun z3 => (u2.1 z3), fun z3 => ⟨(u2.2 z3).1, (show in32 0 from ⟨by decide, by decide⟩), (u2.2 z3).2⟩⟩)⟩)
theorem TX11_manyFaded_0 {X : QX} {x : Int} {d : Nat} {post : Int → QMem → Prop} {M : QMem} {v1 v2 : Int} (t : QCm X x d 1 yX11_noFaded [(2, 215), (0, v1), (0, v2)] (qup M 215 0 0) (fun x1 M1 => (x1 = 0 → (QCm X x d 2 yX11_fits [(2, 215), (0, v1), (0, v2)] M1 (fun x2 M2 => QCm X x d 1 yX11_manyOf [(1, x2)] M2 (fun x3 M3 => post x3 M3)))) ∧ (¬ x1 = 0 → in32 x1 ∧ (post x1 M1)))) : QRm X x (d + 1) qmX11_manyFaded post 0 [(0, (2, 215)), (1, (0, v1)), (2, (0, v2))] [] M := qwp_ok qmX11_manyFaded_ok.1 [] 20 (⟨rfl, ⟨rfl, QC.mono t (fun x1 h1 u1 => by obtain ⟨M1, rfl, u1⟩ := u1; exact ⟨fun z2 => ⟨rfl, QC.mono (u1.1 z2) (fun x2 h2 u3 => by obtain ⟨M2, rfl, u3⟩ := u3; exact QC.mono u3 (fun x3 h3 u4 => by obtain ⟨M3, rfl, u4⟩ := u4; exact ⟨_, rfl, u4⟩))⟩, fun z2 => ⟨(u1.2 z2).1, (show in32 0 from ⟨by decide, by decide⟩), ⟨_, rfl, (u1.2 z2).2⟩⟩⟩)⟩⟩)
theorem TX11_look_0 {X : QX} {x : Int} {d : Nat} {post : Int → QMem → Prop} {M : QMem} {v1 v2 : Int} (t : QCm X x d 1 yX11_noFaded [(2, 215), (0, v1), (0, v2)] (qup M 215 0 0) (fun x1 M1 => (x1 = 0 → (QCm X x d 2 yX11_fits [(2, 215), (0, v1), (0, v2)] M1 (fun x2 M2 => QCm X x d 1 yX11_manyOf [(1, x2)] M2 (fun x3 M3 => QRm X x (d + 1) qmX11_look post 42 [(0, (2, 215)), (4, (1, x2)), (6, (0, x3)), (7, (0, (-1))), (8, (0, (-1))), (9, (0, 0))] [] M3)))) ∧ (¬ x1 = 0 → in32 x1 ∧ (post x1 M1)))) : QRm X x (d + 1) qmX11_look post 0 [(0, (2, 215)), (1, (0, v1)), (2, (0, v2))] [] M := qwp_ok qmX11_look_ok.1 [(42, [0, 4, 6, 7, 8, 9]), (64, [0, 4, 6, 7, 8, 9, 10, 11])] 86 (⟨rfl, ⟨rfl, QC.mono t (fun x1 h1 u1 => by obtain ⟨M1, rfl, u1⟩ := u1; exact ⟨fun z2 => ⟨rfl, QC.mono (u1.1 z2) (fun x2 h2 u3 => by obtain ⟨M2, rfl, u3⟩ := u3; exact QC.mono u3 (fun x3 h3 u4 => by obtain ⟨M3, rfl, u4⟩ := u4; exact u4))⟩, fun z2 => ⟨(u1.2 z2).1, (show in32 0 from ⟨by decide, by decide⟩), ⟨_, rfl, (u1.2 z2).2⟩⟩⟩)⟩⟩)
theorem TX11_look_42 {X : QX} {x : Int} {d : Nat} {post : Int → QMem → Prop} {M : QMem} {v4 v6 v7 v8 v9 : Int} (t : QCm X x d 1 yX11_cells [(2, 215)] M (fun x1 M1 => in32 v9 ∧ in32 x1 ∧ (x1 ≤ v9 → (post v7 M1)) ∧ (¬ x1 ≤ v9 → ((v4 = 0 → (post v7 M1)) ∧ (¬ v4 = 0 → in64 v4 ∧ (QRm X x (d + 1) qmX11_look post 64 [(0, (2, 215)), (4, (1, v4)), (6, (0, v6)), (7, (0, v7)), (8, (0, v8)), (9, (0, v9)), (10, (0, 0)), (11, (0, 0))] [] M1)))))) : QRm X x (d + 1) qmX11_look post 42 [(0, (2, 215)), (4, (1, v4)), (6, (0, v6)), (7, (0, v7)), (8, (0, v8)), (9, (0, v9))] [] M := qwp_ok qmX11_look_ok.1 [(42, [0, 4, 6, 7, 8, 9]), (64, [0, 4, 6, 7, 8, 9, 10, 11])] 86 (⟨rfl, QC.mono t (fun x1 h1 u1 => by obtain ⟨M1, rfl, u1⟩ := u1; exact ⟨u1.1, u1.2.1, fun z2 => ⟨_, rfl, (u1.2.2.1 z2)⟩, fun z2 => ⟨fun z3 => ⟨_, rfl, ((u1.2.2.2 z2).1 z3)⟩, fun z3 => ⟨((u1.2.2.2 z2).2 z3).1, (show in64 0 from ⟨by decide, by decide⟩), ((u1.2.2.2 z2).2 z3).2⟩⟩⟩)⟩)
theorem TX11_look_64 {X : QX} {x : Int} {d : Nat} {post : Int → QMem → Prop} {M : QMem} {v4 v6 v7 v8 v9 v10 v11 : Int} (t : QCm X x d 1 yX11_cells [(2, 215)] M (fun x1 M1 => in32 v11 ∧ in32 x1 ∧ (x1 ≤ v11 → (in32 v10 ∧ in32 (v6 - v10) ∧ (v6 - v10 ≤ v10 → (in32 v8 ∧ (v8 < v6 - v10 → (QRm X x (d + 1) qmX11_look post 42 [(0, (2, 215)), (4, (1, v4)), (6, (0, v6)), (7, (0, v9)), (8, (0, v6 - v10)), (9, (0, v9 + 1))] [] M1)) ∧ (¬ v8 < v6 - v10 → (QRm X x (d + 1) qmX11_look post 42 [(0, (2, 215)), (4, (1, v4)), (6, (0, v6)), (7, (0, v7)), (8, (0, v8)), (9, (0, v9 + 1))] [] M1)))) ∧ (¬ v6 - v10 ≤ v10 → (in32 v8 ∧ (v8 < v10 → (QRm X x (d + 1) qmX11_look post 42 [(0, (2, 215)), (4, (1, v4)), (6, (0, v6)), (7, (0, v9)), (8, (0, v10)), (9, (0, v9 + 1))] [] M1)) ∧ (¬ v8 < v10 → (QRm X x (d + 1) qmX11_look post 42 [(0, (2, 215)), (4, (1, v4)), (6, (0, v6)), (7, (0, v7)), (8, (0, v8)), (9, (0, v9 + 1))] [] M1)))))) ∧ (¬ x1 ≤ v11 → (QCm X x d 1 yX11_isIn [(1, v4), (0, v11)] M1 (fun x2 M2 => (x2 = 0 → (QRm X x (d + 1) qmX11_look post 64 [(0, (2, 215)), (4, (1, v4)), (6, (0, v6)), (7, (0, v7)), (8, (0, v8)), (9, (0, v9)), (10, (0, v10 + 0)), (11, (0, v11 + 1))] [] M2)) ∧ (¬ x2 = 0 → in32 x2 ∧ ((0 : Int) ≤ v11 ∧ (v11 < 36 ∧ (QCm X x d 1 yX11_isIn [(1, M2 227 v11), (0, v9)] M2 (fun x3 M3 => (x3 = 0 → (QRm X x (d + 1) qmX11_look post 64 [(0, (2, 215)), (4, (1, v4)), (6, (0, v6)), (7, (0, v7)), (8, (0, v8)), (9, (0, v9)), (10, (0, v10 + 0)), (11, (0, v11 + 1))] [] M3)) ∧ (¬ x3 = 0 → in32 x3 ∧ (QRm X x (d + 1) qmX11_look post 64 [(0, (2, 215)), (4, (1, v4)), (6, (0, v6)), (7, (0, v7)), (8, (0, v8)), (9, (0, v9)), (10, (0, v10 + 1)), (11, (0, v11 + 1))] [] M3)))))))))))) : QRm X x (d + 1) qmX11_look post 64 [(0, (2, 215)), (4, (1, v4)), (6, (0, v6)), (7, (0, v7)), (8, (0, v8)), (9, (0, v9)), (10, (0, v10)), (11, (0, v11))] [] M := qwp_ok qmX11_look_ok.1 [(42, [0, 4, 6, 7, 8, 9]), (64, [0, 4, 6, 7, 8, 9, 10, 11])] 86 (⟨rfl, QC.mono t (fun x1 h1 u1 => by obtain ⟨M1, rfl, u1⟩ := u1; exact ⟨u1.1, u1.2.1, fun z2 => ⟨(u1.2.2.1 z2).1, (u1.2.2.1 z2).2.1, fun z3 => ⟨(u1.2.2.1 z2).2.1, ((u1.2.2.1 z2).2.2.1 z3).1, fun z4 => (((u1.2.2.1 z2).2.2.1 z3).2.1 z4), fun z4 => (((u1.2.2.1 z2).2.2.1 z3).2.2 z4)⟩, fun z3 => ⟨(u1.2.2.1 z2).1, ((u1.2.2.1 z2).2.2.2 z3).1, fun z5 => (((u1.2.2.1 z2).2.2.2 z3).2.1 z5), fun z5 => (((u1.2.2.1 z2).2.2.2 z3).2.2 z5)⟩⟩, fun z2 => QC.mono (u1.2.2.2 z2) (fun x2 h2 u6 => by obtain ⟨M2, rfl, u6⟩ := u6; exact ⟨fun z7 => (u6.1 z7), fun z7 => ⟨(u6.2 z7).1, (show in32 0 from ⟨by decide, by decide⟩), ⟨rfl, ⟨rfl, ⟨(u6.2 z7).2.1, ⟨(u6.2 z7).2.2.1, QC.mono ((u6.2 z7).2.2.2) (fun x3 h3 u8 => by obtain ⟨M3, rfl, u8⟩ := u8; exact ⟨fun z9 => (u8.1 z9), fun z9 => ⟨(u8.2 z9).1, (show in32 0 from ⟨by decide, by decide⟩), (u8.2 z9).2⟩⟩)⟩⟩⟩⟩⟩⟩)⟩)⟩)
theorem TX11_cut_0 {X : QX} {x : Int} {d : Nat} {post : Int → QMem → Prop} {M : QMem} {v0 v2 : Int} (t : (v2 = 0 → (in32 (qi2b (ql2i v0)) ∧ (post (qi2b (ql2i v0)) M))) ∧ (¬ v2 = 0 → in32 v2 ∧ ((v2 = 1 → (in32 (qi2s (ql2i v0)) ∧ (post (qi2s (ql2i v0)) M))) ∧ (¬ v2 = 1 → ((v2 = 2 → (in32 (ql2i v0) ∧ (post (ql2i v0) M))) ∧ (¬ v2 = 2 → (post v0 M))))))) : QRm X x d qmX11_cut post 0 [(0, (1, v0)), (2, (0, v2))] [] M := qwp_ok qmX11_cut_ok.1 [] 26 (⟨fun z1 => ⟨(t.2 z1).1, (show in32 0 from ⟨by decide, by decide⟩), ⟨fun z2 => ⟨(t.2 z1).1, (show in32 1 from ⟨by decide, by decide⟩), ⟨fun z3 => ⟨(t.2 z1).1, (show in32 2 from ⟨by decide, by decide⟩), ⟨_, rfl, (((t.2 z1).2.2 z2).2 z3)⟩⟩, fun z3 => ⟨(((t.2 z1).2.2 z2).1 z3).1, ⟨_, rfl, (((t.2 z1).2.2 z2).1 z3).2⟩⟩⟩⟩, fun z2 => ⟨((t.2 z1).2.1 z2).1, ⟨_, rfl, ((t.2 z1).2.1 z2).2⟩⟩⟩⟩, fun z1 => ⟨(t.1 z1).1, ⟨_, rfl, (t.1 z1).2⟩⟩⟩)
theorem TX11_numbers_0 {X : QX} {x : Int} {d : Nat} {post : Int → QMem → Prop} {M : QMem} {v1 v2 v3 : Int} (t : in32 v1 ∧ (QCm X x d 1 yX11_within [(1, v1), (1, 0), (1, 3)] (qup M 215 0 0) (fun x1 M1 => (x1 = 0 → (post (-2) M1)) ∧ (¬ x1 = 0 → in32 x1 ∧ (in32 v2 ∧ (QCm X x d 1 yX11_within [(1, v2), (1, 0), (1, 3)] M1 (fun x2 M2 => (x2 = 0 → (post (-2) M2)) ∧ (¬ x2 = 0 → in32 x2 ∧ (in32 v3 ∧ (QCm X x d 1 yX11_within [(1, v3), (1, 0), (1, 40)] M2 (fun x3 M3 => (x3 = 0 → (post (-3) M3)) ∧ (¬ x3 = 0 → in32 x3 ∧ ((0 : Int) ≤ v1 ∧ (v1 < 4 ∧ (QRm X x (d + 1) qmX11_numbers post 64 [(0, (2, 215)), (1, (0, v1)), (3, (0, v3)), (4, (0, 0))] [] (qup (qup M3 228 v1 v2) 229 v1 v3)))))))))))))))) : QRm X x (d + 1) qmX11_numbers post 0 [(0, (2, 215)), (1, (0, v1)), (2, (0, v2)), (3, (0, v3))] [] M := qwp_ok qmX11_numbers_ok.1 [(64, [0, 1, 3, 4])] 55 (⟨rfl, ⟨t.1, QC.mono t.2 (fun x1 h1 u1 => by obtain ⟨M1, rfl, u1⟩ := u1; exact ⟨fun z2 => ⟨_, rfl, (u1.1 z2)⟩, fun z2 => ⟨(u1.2 z2).1, (show in32 0 from ⟨by decide, by decide⟩), ⟨(u1.2 z2).2.1, QC.mono ((u1.2 z2).2.2) (fun x2 h2 u3 => by obtain ⟨M2, rfl, u3⟩ := u3; exact ⟨fun z4 => ⟨(u3.2 z4).1, (show in32 0 from ⟨by decide, by decide⟩), ⟨(u3.2 z4).2.1, QC.mono ((u3.2 z4).2.2) (fun x3 h3 u5 => by obtain ⟨M3, rfl, u5⟩ := u5; exact ⟨fun z6 => ⟨(u5.2 z6).1, (show in32 0 from ⟨by decide, by decide⟩), ⟨rfl, ⟨rfl, ⟨(u5.2 z6).2.1, ⟨(u5.2 z6).2.2.1, ⟨rfl, ⟨rfl, ⟨(u5.2 z6).2.1, ⟨(u5.2 z6).2.2.1, (u5.2 z6).2.2.2⟩⟩⟩⟩⟩⟩⟩⟩⟩, fun z6 => ⟨_, rfl, (u5.1 z6)⟩⟩)⟩⟩, fun z4 => ⟨_, rfl, (u3.1 z4)⟩⟩)⟩⟩⟩)⟩⟩)
theorem TX11_numbers_64 {X : QX} {x : Int} {d : Nat} {post : Int → QMem → Prop} {M : QMem} {v1 v3 v4 : Int} (t : in32 v4 ∧ in32 v3 ∧ (v3 ≤ v4 → (post 0 M)) ∧ (¬ v3 ≤ v4 → ((0 : Int) ≤ (40 * v1) + v4 ∧ ((40 * v1) + v4 < 160 ∧ (QRm X x (d + 1) qmX11_numbers post 64 [(0, (2, 215)), (1, (0, v1)), (3, (0, v3)), (4, (0, v4 + 1))] [] (qup M 230 ((40 * v1) + v4) 0)))))) : QRm X x (d + 1) qmX11_numbers post 64 [(0, (2, 215)), (1, (0, v1)), (3, (0, v3)), (4, (0, v4))] [] M := qwp_ok qmX11_numbers_ok.1 [(64, [0, 1, 3, 4])] 55 (⟨t.1, t.2.1, fun z1 => ⟨_, rfl, (t.2.2.1 z1)⟩, fun z1 => ⟨rfl, ⟨rfl, ⟨(t.2.2.2 z1).1, ⟨(t.2.2.2 z1).2.1, (t.2.2.2 z1).2.2⟩⟩⟩⟩⟩)
theorem TX11_write_0 {X : QX} {x : Int} {d : Nat} {post : Int → QMem → Prop} {M : QMem} {v1 v2 v3 : Int} (t : QCm X x d 1 yX11_noTray [(2, 215), (0, v1)] (qup M 215 0 0) (fun x1 M1 => (x1 = 0 → (in32 v2 ∧ ((0 : Int) ≤ v1 ∧ (v1 < 4 ∧ (in32 ((M1 229 v1) - 1) ∧ (QCm X x d 1 yX11_within [(1, v2), (1, 0), (1, (M1 229 v1) - 1)] M1 (fun x2 M2 => (x2 = 0 → (post (-7) M2)) ∧ (¬ x2 = 0 → in32 x2 ∧ (QCm X x d 2 yX11_cut [(1, v3), (0, M2 228 v1)] M2 (fun x3 M3 => (0 : Int) ≤ (40 * v1) + v2 ∧ ((40 * v1) + v2 < 160 ∧ (post ((qup M3 230 ((40 * v1) + v2) x3) 230 ((40 * v1) + v2)) (qup M3 230 ((40 * v1) + v2) x3))))))))))))) ∧ (¬ x1 = 0 → in32 x1 ∧ (post x1 M1)))) : QRm X x (d + 1) qmX11_write post 0 [(0, (2, 215)), (1, (0, v1)), (2, (0, v2)), (3, (1, v3))] [] M := qwp_ok qmX11_write_ok.1 [] 51 (⟨rfl, ⟨rfl, QC.mono t (fun x1 h1 u1 => by obtain ⟨M1, rfl, u1⟩ := u1; exact ⟨fun z2 => ⟨(u1.1 z2).1, ⟨rfl, ⟨rfl, ⟨(u1.1 z2).2.1, ⟨(u1.1 z2).2.2.1, ⟨(u1.1 z2).2.2.2.1, QC.mono ((u1.1 z2).2.2.2.2) (fun x2 h2 u3 => by obtain ⟨M2, rfl, u3⟩ := u3; exact ⟨fun z4 => ⟨(u3.2 z4).1, (show in32 0 from ⟨by decide, by decide⟩), ⟨rfl, ⟨rfl, ⟨rfl, ⟨(u1.1 z2).2.1, ⟨(u1.1 z2).2.2.1, QC.mono ((u3.2 z4).2) (fun x3 h3 u5 => by obtain ⟨M3, rfl, u5⟩ := u5; exact ⟨rfl, ⟨u5.1, ⟨u5.2.1, ⟨rfl, ⟨rfl, ⟨u5.1, ⟨u5.2.1, ⟨_, rfl, u5.2.2⟩⟩⟩⟩⟩⟩⟩⟩)⟩⟩⟩⟩⟩⟩, fun z4 => ⟨_, rfl, (u3.1 z4)⟩⟩)⟩⟩⟩⟩⟩⟩, fun z2 => ⟨(u1.2 z2).1, (show in32 0 from ⟨by decide, by decide⟩), ⟨(u1.2 z2).1, ⟨_, rfl, (u1.2 z2).2⟩⟩⟩⟩)⟩⟩)
theorem TX11_lists_0 {X : QX} {x : Int} {d : Nat} {post : Int → QMem → Prop} {M : QMem} {v1 v2 v3 : Int} (t : in32 v1 ∧ (QCm X x d 1 yX11_within [(1, v1), (1, 0), (1, 3)] (qup M 215 0 0) (fun x1 M1 => (x1 = 0 → (post (-2) M1)) ∧ (¬ x1 = 0 → in32 x1 ∧ (in32 v2 ∧ (QCm X x d 1 yX11_isDrum [(2, 215), (1, v2)] M1 (fun x2 M2 => (x2 = 0 → (post (-2) M2)) ∧ (¬ x2 = 0 → in32 x2 ∧ (in32 v3 ∧ (QCm X x d 1 yX11_isCell [(2, 215), (1, v3)] M2 (fun x3 M3 => (x3 = 0 → (post (-2) M3)) ∧ (¬ x3 = 0 → in32 x3 ∧ (QCm X x d 1 yX11_noTray [(2, 215), (0, v1)] M3 (fun x4 M4 => (x4 = 0 → (QCm X x d 1 yX11_laysWay [(2, 215), (0, v2), (0, v3)] M4 (fun x5 M5 => (x5 = (-1) → (post (-5) M5)) ∧ (¬ x5 = (-1) → in32 x5 ∧ ((0 : Int) ≤ v1 ∧ (v1 < 4 ∧ (in32 (M5 229 v1) ∧ (M5 229 v1 ≤ x5 → (QRm X x (d + 1) qmX11_lists post 97 [(0, (2, 215)), (1, (0, v1)), (2, (0, v2)), (6, (0, M5 229 v1)), (7, (0, 0))] [] M5)) ∧ (¬ M5 229 v1 ≤ x5 → (QRm X x (d + 1) qmX11_lists post 97 [(0, (2, 215)), (1, (0, v1)), (2, (0, v2)), (6, (0, x5)), (7, (0, 0))] [] M5))))))))) ∧ (¬ x4 = 0 → in32 x4 ∧ (post x4 M4)))))))))))))))) : QRm X x (d + 1) qmX11_lists post 0 [(0, (2, 215)), (1, (0, v1)), (2, (0, v2)), (3, (0, v3))] [] M := qwp_ok qmX11_lists_ok.1 [(97, [0, 1, 2, 6, 7])] 87 (⟨rfl, ⟨t.1, QC.mono t.2 (fun x1 h1 u1 => by obtain ⟨M1, rfl, u1⟩ := u1; exact ⟨fun z2 => ⟨_, rfl, (u1.1 z2)⟩, fun z2 => ⟨(u1.2 z2).1, (show in32 0 from ⟨by decide, by decide⟩), ⟨(u1.2 z2).2.1, ⟨rfl, QC.mono ((u1.2 z2).2.2) (fun x2 h2 u3 => by obtain ⟨M2, rfl, u3⟩ := u3; exact ⟨fun z4 => ⟨_, rfl, (u3.1 z4)⟩, fun z4 => ⟨(u3.2 z4).1, (show in32 0 from ⟨by decide, by decide⟩), ⟨(u3.2 z4).2.1, ⟨rfl, QC.mono ((u3.2 z4).2.2) (fun x3 h3 u5 => by obtain ⟨M3, rfl, u5⟩ := u5; exact ⟨fun z6 => ⟨(u5.2 z6).1, (show in32 0 from ⟨by decide, by decide⟩), ⟨rfl, QC.mono ((u5.2 z6).2) (fun x4 h4 u7 => by obtain ⟨M4, rfl, u7⟩ := u7; exact ⟨fun z8 => ⟨rfl, QC.mono (u7.1 z8) (fun x5 h5 u9 => by obtain ⟨M5, rfl, u9⟩ := u9; exact ⟨fun z10 => ⟨(u9.2 z10).1, (show in32 (-1) from ⟨by decide, by decide⟩), ⟨rfl, ⟨rfl, ⟨(u9.2 z10).2.1, ⟨(u9.2 z10).2.2.1, ⟨(u9.2 z10).1, (u9.2 z10).2.2.2.1, fun z11 => ⟨rfl, ⟨rfl, ⟨(u9.2 z10).2.1, ⟨(u9.2 z10).2.2.1, ((u9.2 z10).2.2.2.2.1 z11)⟩⟩⟩⟩, fun z11 => ((u9.2 z10).2.2.2.2.2 z11)⟩⟩⟩⟩⟩⟩, fun z10 => ⟨_, rfl, (u9.1 z10)⟩⟩)⟩, fun z8 => ⟨(u7.2 z8).1, (show in32 0 from ⟨by decide, by decide⟩), ⟨_, rfl, (u7.2 z8).2⟩⟩⟩)⟩⟩, fun z6 => ⟨_, rfl, (u5.1 z6)⟩⟩)⟩⟩⟩⟩)⟩⟩⟩⟩)⟩⟩)
theorem TX11_lists_97 {X : QX} {x : Int} {d : Nat} {post : Int → QMem → Prop} {M : QMem} {v1 v2 v6 v7 : Int} (t : in32 v7 ∧ in32 v6 ∧ (v6 ≤ v7 → (post v6 M)) ∧ (¬ v6 ≤ v7 → ((0 : Int) ≤ v7 ∧ (v7 < 16 ∧ (in32 (((1000 * v2) + 10) + (M 226 v7)) ∧ ((0 : Int) ≤ v1 ∧ (v1 < 4 ∧ (QCm X x d 2 yX11_cut [(1, ((1000 * v2) + 10) + (M 226 v7)), (0, M 228 v1)] M (fun x1 M1 => (0 : Int) ≤ (40 * v1) + v7 ∧ ((40 * v1) + v7 < 160 ∧ (QRm X x (d + 1) qmX11_lists post 97 [(0, (2, 215)), (1, (0, v1)), (2, (0, v2)), (6, (0, v6)), (7, (0, v7 + 1))] [] (qup M1 230 ((40 * v1) + v7) x1)))))))))))) : QRm X x (d + 1) qmX11_lists post 97 [(0, (2, 215)), (1, (0, v1)), (2, (0, v2)), (6, (0, v6)), (7, (0, v7))] [] M := qwp_ok qmX11_lists_ok.1 [(97, [0, 1, 2, 6, 7])] 87 (⟨t.1, t.2.1, fun z1 => ⟨_, rfl, (t.2.2.1 z1)⟩, fun z1 => ⟨rfl, ⟨rfl, ⟨rfl, ⟨(t.2.2.2 z1).1, ⟨(t.2.2.2 z1).2.1, ⟨(t.2.2.2 z1).2.2.1, ⟨rfl, ⟨rfl, ⟨(t.2.2.2 z1).2.2.2.1, ⟨(t.2.2.2 z1).2.2.2.2.1, QC.mono ((t.2.2.2 z1).2.2.2.2.2) (fun x1 h1 u2 => by obtain ⟨M1, rfl, u2⟩ := u2; exact ⟨rfl, ⟨u2.1, ⟨u2.2.1, u2.2.2⟩⟩⟩)⟩⟩⟩⟩⟩⟩⟩⟩⟩⟩⟩)
theorem TX11_image_0 {X : QX} {x : Int} {d : Nat} {post : Int → QMem → Prop} {M : QMem} {v1 : Int} (t : in32 v1 ∧ (QCm X x d 1 yX11_within [(1, v1), (1, 0), (1, 1)] (qup M 215 0 0) (fun x1 M1 => (x1 = 0 → (post (-2) M1)) ∧ (¬ x1 = 0 → in32 x1 ∧ (QRm X x (d + 1) qmX11_image post 20 [(0, (2, 215)), (1, (0, v1)), (2, (0, 0))] [] M1))))) : QRm X x (d + 1) qmX11_image post 0 [(0, (2, 215)), (1, (0, v1))] [] M := qwp_ok qmX11_image_ok.1 [(20, [0, 1, 2])] 41 (⟨rfl, ⟨t.1, QC.mono t.2 (fun x1 h1 u1 => by obtain ⟨M1, rfl, u1⟩ := u1; exact ⟨fun z2 => ⟨(u1.2 z2).1, (show in32 0 from ⟨by decide, by decide⟩), (u1.2 z2).2⟩, fun z2 => ⟨_, rfl, (u1.1 z2)⟩⟩)⟩⟩)
theorem TX11_image_20 {X : QX} {x : Int} {d : Nat} {post : Int → QMem → Prop} {M : QMem} {v1 v2 : Int} (t : in32 v2 ∧ ((4375 : Int) ≤ v2 → ((0 : Int) ≤ v1 ∧ (v1 < 2 ∧ (post 0 (qup M 217 v1 1))))) ∧ (¬ (4375 : Int) ≤ v2 → ((0 : Int) ≤ v2 ∧ (v2 < 13125 ∧ ((0 : Int) ≤ (4375 * (v1 + 1)) + v2 ∧ ((4375 * (v1 + 1)) + v2 < 13125 ∧ (QRm X x (d + 1) qmX11_image post 20 [(0, (2, 215)), (1, (0, v1)), (2, (0, v2 + 1))] [] (qup M 216 ((4375 * (v1 + 1)) + v2) (M 216 v2))))))))) : QRm X x (d + 1) qmX11_image post 20 [(0, (2, 215)), (1, (0, v1)), (2, (0, v2))] [] M := qwp_ok qmX11_image_ok.1 [(20, [0, 1, 2])] 41 (⟨t.1, (show in32 4375 from ⟨by decide, by decide⟩), fun z1 => ⟨rfl, ⟨(Or.inr rfl), ⟨rfl, ⟨(t.2.1 z1).1, ⟨(t.2.1 z1).2.1, ⟨_, rfl, (t.2.1 z1).2.2⟩⟩⟩⟩⟩⟩, fun z1 => ⟨rfl, ⟨rfl, ⟨rfl, ⟨(t.2.2 z1).1, ⟨(t.2.2 z1).2.1, ⟨rfl, ⟨(t.2.2 z1).2.2.1, ⟨(t.2.2 z1).2.2.2.1, (t.2.2 z1).2.2.2.2⟩⟩⟩⟩⟩⟩⟩⟩⟩)
theorem TX11_restore_0 {X : QX} {x : Int} {d : Nat} {post : Int → QMem → Prop} {M : QMem} {v1 : Int} (t : in32 v1 ∧ (QCm X x d 1 yX11_within [(1, v1), (1, 0), (1, 1)] (qup M 215 0 0) (fun x1 M1 => (x1 = 0 → (post (-2) M1)) ∧ (¬ x1 = 0 → in32 x1 ∧ ((0 : Int) ≤ v1 ∧ (v1 < 2 ∧ ((M1 217 v1 = 0 → (post (-5) M1)) ∧ (¬ M1 217 v1 = 0 → in32 (M1 217 v1) ∧ (QRm X x (d + 1) qmX11_restore post 32 [(0, (2, 215)), (1, (0, v1)), (2, (0, 0))] [] M1))))))))) : QRm X x (d + 1) qmX11_restore post 0 [(0, (2, 215)), (1, (0, v1))] [] M := qwp_ok qmX11_restore_ok.1 [(32, [0, 1, 2])] 48 (⟨rfl, ⟨t.1, QC.mono t.2 (fun x1 h1 u1 => by obtain ⟨M1, rfl, u1⟩ := u1; exact ⟨fun z2 => ⟨(u1.2 z2).1, (show in32 0 from ⟨by decide, by decide⟩), ⟨rfl, ⟨rfl, ⟨(u1.2 z2).2.1, ⟨(u1.2 z2).2.2.1, ⟨fun z3 => ⟨((u1.2 z2).2.2.2.2 z3).1, (show in32 0 from ⟨by decide, by decide⟩), ((u1.2 z2).2.2.2.2 z3).2⟩, fun z3 => ⟨_, rfl, ((u1.2 z2).2.2.2.1 z3)⟩⟩⟩⟩⟩⟩⟩, fun z2 => ⟨_, rfl, (u1.1 z2)⟩⟩)⟩⟩)
theorem TX11_restore_32 {X : QX} {x : Int} {d : Nat} {post : Int → QMem → Prop} {M : QMem} {v1 v2 : Int} (t : in32 v2 ∧ ((4375 : Int) ≤ v2 → (post 0 (qup M 216 363 0))) ∧ (¬ (4375 : Int) ≤ v2 → ((0 : Int) ≤ (4375 * (v1 + 1)) + v2 ∧ ((4375 * (v1 + 1)) + v2 < 13125 ∧ ((0 : Int) ≤ v2 ∧ (v2 < 13125 ∧ (QRm X x (d + 1) qmX11_restore post 32 [(0, (2, 215)), (1, (0, v1)), (2, (0, v2 + 1))] [] (qup M 216 v2 (M 216 ((4375 * (v1 + 1)) + v2)))))))))) : QRm X x (d + 1) qmX11_restore post 32 [(0, (2, 215)), (1, (0, v1)), (2, (0, v2))] [] M := qwp_ok qmX11_restore_ok.1 [(32, [0, 1, 2])] 48 (⟨t.1, (show in32 4375 from ⟨by decide, by decide⟩), fun z1 => ⟨rfl, ⟨rfl, ⟨(show (0 : Int) ≤ 363 by decide), ⟨(show (363 : Int) < 13125 by decide), ⟨_, rfl, (t.2.1 z1)⟩⟩⟩⟩⟩, fun z1 => ⟨rfl, ⟨rfl, ⟨rfl, ⟨(t.2.2 z1).1, ⟨(t.2.2 z1).2.1, ⟨rfl, ⟨(t.2.2 z1).2.2.1, ⟨(t.2.2 z1).2.2.2.1, (t.2.2 z1).2.2.2.2⟩⟩⟩⟩⟩⟩⟩⟩⟩)
theorem TX11_crossingsMany_0 {X : QX} {x : Int} {d : Nat} {post : Int → QMem → Prop} {M : QMem} (t : QRm X x (d + 1) qmX11_crossingsMany post 4 [(0, (2, 215)), (1, (0, 0)), (2, (0, 0))] [] M) : QRm X x (d + 1) qmX11_crossingsMany post 0 [(0, (2, 215))] [] M := qwp_ok qmX11_crossingsMany_ok.1 [(4, [0, 1, 2])] 25 (t)
theorem TX11_crossingsMany_4 {X : QX} {x : Int} {d : Nat} {post : Int → QMem → Prop} {M : QMem} {v1 v2 : Int} (t : QCm X x d 1 yX11_cells [(2, 215)] M (fun x1 M1 => in32 v2 ∧ in32 x1 ∧ (x1 ≤ v2 → (post v1 M1)) ∧ (¬ x1 ≤ v2 → (QCm X x d 1 yX11_lieOn [(2, 215), (0, v2)] M1 (fun x2 M2 => (x2 = 2 → (QRm X x (d + 1) qmX11_crossingsMany post 4 [(0, (2, 215)), (1, (0, v1 + 1)), (2, (0, v2 + 1))] [] M2)) ∧ (¬ x2 = 2 → in32 x2 ∧ (QRm X x (d + 1) qmX11_crossingsMany post 4 [(0, (2, 215)), (1, (0, v1 + 0)), (2, (0, v2 + 1))] [] M2))))))) : QRm X x (d + 1) qmX11_crossingsMany post 4 [(0, (2, 215)), (1, (0, v1)), (2, (0, v2))] [] M := qwp_ok qmX11_crossingsMany_ok.1 [(4, [0, 1, 2])] 25 (⟨rfl, QC.mono t (fun x1 h1 u1 => by obtain ⟨M1, rfl, u1⟩ := u1; exact ⟨u1.1, u1.2.1, fun z2 => ⟨_, rfl, (u1.2.2.1 z2)⟩, fun z2 => ⟨rfl, QC.mono (u1.2.2.2 z2) (fun x2 h2 u3 => by obtain ⟨M2, rfl, u3⟩ := u3; exact ⟨fun z4 => ⟨(u3.2 z4).1, (show in32 2 from ⟨by decide, by decide⟩), (u3.2 z4).2⟩, fun z4 => (u3.1 z4)⟩)⟩⟩)⟩)
theorem TX11_rocksMany_0 {X : QX} {x : Int} {d : Nat} {post : Int → QMem → Prop} {M : QMem} (t : QRm X x (d + 1) qmX11_rocksMany post 4 [(0, (2, 215)), (1, (0, 0)), (2, (0, 0))] [] M) : QRm X x (d + 1) qmX11_rocksMany post 0 [(0, (2, 215))] [] M := qwp_ok qmX11_rocksMany_ok.1 [(4, [0, 1, 2])] 23 (t)
theorem TX11_rocksMany_4 {X : QX} {x : Int} {d : Nat} {post : Int → QMem → Prop} {M : QMem} {v1 v2 : Int} (t : QCm X x d 1 yX11_cells [(2, 215)] M (fun x1 M1 => in32 v2 ∧ in32 x1 ∧ (x1 ≤ v2 → (post v1 M1)) ∧ (¬ x1 ≤ v2 → ((0 : Int) ≤ 10 + v2 ∧ (10 + v2 < 13125 ∧ (QRm X x (d + 1) qmX11_rocksMany post 4 [(0, (2, 215)), (1, (0, v1 + (M1 216 (10 + v2)))), (2, (0, v2 + 1))] [] M1)))))) : QRm X x (d + 1) qmX11_rocksMany post 4 [(0, (2, 215)), (1, (0, v1)), (2, (0, v2))] [] M := qwp_ok qmX11_rocksMany_ok.1 [(4, [0, 1, 2])] 23 (⟨rfl, QC.mono t (fun x1 h1 u1 => by obtain ⟨M1, rfl, u1⟩ := u1; exact ⟨u1.1, u1.2.1, fun z2 => ⟨_, rfl, (u1.2.2.1 z2)⟩, fun z2 => ⟨rfl, ⟨rfl, ⟨(u1.2.2.2 z2).1, ⟨(u1.2.2.2 z2).2.1, (u1.2.2.2 z2).2.2⟩⟩⟩⟩⟩)⟩)
theorem TX11_underWay_0 {X : QX} {x : Int} {d : Nat} {post : Int → QMem → Prop} {M : QMem} (t : QRm X x d qmX11_underWay post 4 [(0, (2, 215)), (1, (0, 0)), (2, (0, 0))] [] M) : QRm X x d qmX11_underWay post 0 [(0, (2, 215))] [] M := qwp_ok qmX11_underWay_ok.1 [(4, [0, 1, 2])] 27 (t)
theorem TX11_underWay_4 {X : QX} {x : Int} {d : Nat} {post : Int → QMem → Prop} {M : QMem} {v1 v2 : Int} (t : in32 v2 ∧ in32 (M 216 330) ∧ (M 216 330 ≤ v2 → (post v1 M)) ∧ (¬ M 216 330 ≤ v2 → ((0 : Int) ≤ 347 + v2 ∧ (347 + v2 < 13125 ∧ (QRm X x d qmX11_underWay post 4 [(0, (2, 215)), (1, (0, v1 + (1 - (M 216 (347 + v2))))), (2, (0, v2 + 1))] [] M))))) : QRm X x d qmX11_underWay post 4 [(0, (2, 215)), (1, (0, v1)), (2, (0, v2))] [] M := qwp_ok qmX11_underWay_ok.1 [(4, [0, 1, 2])] 27 (⟨rfl, ⟨rfl, ⟨(show (0 : Int) ≤ 330 by decide), ⟨(show (330 : Int) < 13125 by decide), ⟨t.1, t.2.1, fun z1 => ⟨_, rfl, (t.2.2.1 z1)⟩, fun z1 => ⟨rfl, ⟨rfl, ⟨(t.2.2.2 z1).1, ⟨(t.2.2.2 z1).2.1, (t.2.2.2 z1).2.2⟩⟩⟩⟩⟩⟩⟩⟩⟩)
theorem TX11_count_0 {X : QX} {x : Int} {d : Nat} {post : Int → QMem → Prop} {M : QMem} {v1 : Int} (t : in32 v1 ∧ (v1 = 0 → (post ((qup M 215 0 0) 216 1) (qup M 215 0 0))) ∧ (v1 = 1 → (post ((qup M 215 0 0) 216 2) (qup M 215 0 0))) ∧ (v1 = 2 → (post ((qup M 215 0 0) 216 3) (qup M 215 0 0))) ∧ (v1 = 3 → (QCm X x d 1 yX11_rocksMany [(2, 215)] (qup M 215 0 0) (fun x1 M1 => post x1 M1))) ∧ (v1 = 4 → (QCm X x d 1 yX11_crossingsMany [(2, 215)] (qup M 215 0 0) (fun x2 M2 => post x2 M2))) ∧ (v1 = 5 → (QCm X x d 1 yX11_lying [(2, 215)] (qup M 215 0 0) (fun x3 M3 => QCm X x d 1 yX11_bitsOf [(0, x3)] M3 (fun x4 M4 => post x4 M4)))) ∧ (v1 = 6 → (post ((qup M 215 0 0) 216 330) (qup M 215 0 0))) ∧ (v1 = 7 → (QCm X x d 1 yX11_underWay [(2, 215)] (qup M 215 0 0) (fun x5 M5 => post x5 M5))) ∧ (v1 = 8 → (post ((qup M 215 0 0) 216 52) (qup M 215 0 0))) ∧ (v1 = 9 → (post ((qup M 215 0 0) 216 53) (qup M 215 0 0))) ∧ (v1 = 10 → (post ((qup M 215 0 0) 216 363) (qup M 215 0 0))) ∧ (v1 = 11 → (post ((qup M 215 0 0) 215 5) (qup M 215 0 0))) ∧ (v1 = 12 → (post ((qup M 215 0 0) 216 0) (qup M 215 0 0))) ∧ ((v1 < 0 ∨ 12 < v1) → (post (-1) (qup M 215 0 0)))) : QRm X x (d + 1) qmX11_count post 0 [(0, (2, 215)), (1, (0, v1))] [] M := qwp_ok qmX11_count_ok.1 [] 65 (⟨rfl, ⟨t.1, ⟨fun z1 => ⟨rfl, ⟨rfl, ⟨(show (0 : Int) ≤ 1 by decide), ⟨(show (1 : Int) < 13125 by decide), ⟨_, rfl, (t.2.1 z1)⟩⟩⟩⟩⟩, ⟨fun z2 => ⟨rfl, ⟨rfl, ⟨(show (0 : Int) ≤ 2 by decide), ⟨(show (2 : Int) < 13125 by decide), ⟨_, rfl, (t.2.2.1 z2)⟩⟩⟩⟩⟩, ⟨fun z3 => ⟨rfl, ⟨rfl, ⟨(show (0 : Int) ≤ 3 by decide), ⟨(show (3 : Int) < 13125 by decide), ⟨_, rfl, (t.2.2.2.1 z3)⟩⟩⟩⟩⟩, ⟨fun z4 => ⟨rfl, QC.mono (t.2.2.2.2.1 z4) (fun x1 h1 u5 => by obtain ⟨M1, rfl, u5⟩ := u5; exact ⟨_, rfl, u5⟩)⟩, ⟨fun z6 => ⟨rfl, QC.mono (t.2.2.2.2.2.1 z6) (fun x2 h2 u7 => by obtain ⟨M2, rfl, u7⟩ := u7; exact ⟨_, rfl, u7⟩)⟩, ⟨fun z8 => ⟨rfl, QC.mono (t.2.2.2.2.2.2.1 z8) (fun x3 h3 u9 => by obtain ⟨M3, rfl, u9⟩ := u9; exact QC.mono u9 (fun x4 h4 u10 => by obtain ⟨M4, rfl, u10⟩ := u10; exact ⟨_, rfl, u10⟩))⟩, ⟨fun z11 => ⟨rfl, ⟨rfl, ⟨(show (0 : Int) ≤ 330 by decide), ⟨(show (330 : Int) < 13125 by decide), ⟨_, rfl, (t.2.2.2.2.2.2.2.1 z11)⟩⟩⟩⟩⟩, ⟨fun z12 => ⟨rfl, QC.mono (t.2.2.2.2.2.2.2.2.1 z12) (fun x5 h5 u13 => by obtain ⟨M5, rfl, u13⟩ := u13; exact ⟨_, rfl, u13⟩)⟩, ⟨fun z14 => ⟨rfl, ⟨rfl, ⟨(show (0 : Int) ≤ 52 by decide), ⟨(show (52 : Int) < 13125 by decide), ⟨_, rfl, (t.2.2.2.2.2.2.2.2.2.1 z14)⟩⟩⟩⟩⟩, ⟨fun z15 => ⟨rfl, ⟨rfl, ⟨(show (0 : Int) ≤ 53 by decide), ⟨(show (53 : Int) < 13125 by decide), ⟨_, rfl, (t.2.2.2.2.2.2.2.2.2.2.1 z15)⟩⟩⟩⟩⟩, ⟨fun z16 => ⟨rfl, ⟨rfl, ⟨(show (0 : Int) ≤ 363 by decide), ⟨(show (363 : Int) < 13125 by decide), ⟨_, rfl, (t.2.2.2.2.2.2.2.2.2.2.2.1 z16)⟩⟩⟩⟩⟩, ⟨fun z17 => ⟨rfl, ⟨_, rfl, (t.2.2.2.2.2.2.2.2.2.2.2.2.1 z17)⟩⟩, ⟨fun z18 => ⟨rfl, ⟨rfl, ⟨(show (0 : Int) ≤ 0 by decide), ⟨(show (0 : Int) < 13125 by decide), ⟨_, rfl, (t.2.2.2.2.2.2.2.2.2.2.2.2.2.1 z18)⟩⟩⟩⟩⟩, trivial⟩⟩⟩⟩⟩⟩⟩⟩⟩⟩⟩⟩⟩, fun z19 => ⟨_, rfl, (t.2.2.2.2.2.2.2.2.2.2.2.2.2.2 z19)⟩⟩⟩)
end
section
/-! contracts of the reference's methods: small ones, which change nothing -/
theorem int_up {P : Int → Prop} (e : Int) (hx : ∀ i, e ≤ i → P i) (hs : ∀ i, i < e → P (i + 1) → P i) : ∀ i, P i := by
  have key : ∀ (n : Nat) (i : Int), (e - i).toNat = n → P i := by
    intro n
    induction n with
    | zero => intro i h; exact hx i (by omega)
    | succ n ih => intro i h; exact hs i (by omega) (ih (i + 1) (by omega))
  exact fun i => key _ i rfl
theorem i32 {x : Int} (h1 : -2147483648 ≤ x) (h2 : x ≤ 2147483647) : in32 x := ⟨h1, h2⟩
theorem i64 {x : Int} (h1 : -9223372036854775808 ≤ x) (h2 : x ≤ 9223372036854775807) : in64 x := ⟨h1, h2⟩
theorem in32.to64 {x : Int} (h : in32 x) : in64 x := ⟨by have := h.1; omega, by have := h.2; omega⟩
section Ref40
variable {X : QX} {x : Int} {d : Nat} {post : Int → QMem → Prop} {M : QMem}
theorem m_within {v lo hi : Int} (h1 : in64 v) (h2 : in64 lo) (h3 : in64 hi) (ht : lo ≤ v ∧ v ≤ hi → post 1 M) (hf : ¬ (lo ≤ v ∧ v ≤ hi) → post 0 M) : QCm X x d 1 yX11_within [(1, v), (1, lo), (1, hi)] M post :=
  QC.of qmX11_within_ok rfl (TX11_within_0 ⟨h1, h2, fun a => hf (by omega), fun a => ⟨h3, fun b => hf (by omega), fun b => ht (by omega)⟩⟩)
theorem m_cells (hp : post (M 216 1 * M 216 2) M) : QCm X x d 1 yX11_cells [(2, 215)] M post := QC.of qmX11_cells_ok rfl (TX11_cells_0 hp)
theorem m_isCell {k : Int} (hk : in64 k) (hc : 0 ≤ M 216 1 * M 216 2 ∧ M 216 1 * M 216 2 ≤ 36) (ht : 0 ≤ k ∧ k < M 216 1 * M 216 2 → post 1 M) (hf : ¬ (0 ≤ k ∧ k < M 216 1 * M 216 2) → post 0 M) : QCm X x (d + 1) 1 yX11_isCell [(2, 215), (1, k)] M post :=
  QC.of qmX11_isCell_ok rfl (TX11_isCell_0 (m_cells ⟨i32 (by omega) (by omega), m_within hk (i64 (by omega) (by omega)) (i64 (by omega) (by omega)) (fun h => ⟨Or.inr rfl, ht ⟨h.1, by omega⟩⟩) (fun h => ⟨Or.inl rfl, hf (fun z => h ⟨z.1, by omega⟩)⟩)⟩))
theorem m_isDrum {v : Int} (hv : in64 v) (hc : 0 ≤ M 216 3 ∧ M 216 3 ≤ 6) (ht : 0 ≤ v ∧ v < M 216 3 → post 1 M) (hf : ¬ (0 ≤ v ∧ v < M 216 3) → post 0 M) : QCm X x (d + 1) 1 yX11_isDrum [(2, 215), (1, v)] M post :=
  QC.of qmX11_isDrum_ok rfl (TX11_isDrum_0 ⟨i32 (by omega) (by omega), m_within hv (i64 (by omega) (by omega)) (i64 (by omega) (by omega)) (fun h => ⟨Or.inr rfl, ht ⟨h.1, by omega⟩⟩) (fun h => ⟨Or.inl rfl, hf (fun z => h ⟨z.1, by omega⟩)⟩)⟩)
theorem m_isGoer {v : Int} (hv : in64 v) (hc : 0 ≤ M 216 330 ∧ M 216 330 ≤ 8) (ht : 0 ≤ v ∧ v < M 216 330 → post 1 M) (hf : ¬ (0 ≤ v ∧ v < M 216 330) → post 0 M) : QCm X x (d + 1) 1 yX11_isGoer [(2, 215), (1, v)] M post :=
  QC.of qmX11_isGoer_ok rfl (TX11_isGoer_0 ⟨i32 (by omega) (by omega), m_within hv (i64 (by omega) (by omega)) (i64 (by omega) (by omega)) (fun h => ⟨Or.inr rfl, ht ⟨h.1, by omega⟩⟩) (fun h => ⟨Or.inl rfl, hf (fun z => h ⟨z.1, by omega⟩)⟩)⟩)
/-- how many lie on a cell -/
def rLie (A : Int → Int) (k : Int) : Int := if A (294 + k) = -1 then 0 else if A (258 + k) = -1 then 1 else 2
theorem m_lieOn {k : Int} (hk : 0 ≤ k ∧ k < 36) (h1 : in32 (M 216 (294 + k))) (h2 : in32 (M 216 (258 + k))) (hp : post (rLie (M 216) k) M) : QCm X x d 1 yX11_lieOn [(2, 215), (0, k)] M post := by
  refine QC.of qmX11_lieOn_ok rfl (TX11_lieOn_0 ⟨by omega, by omega, fun a => ?_, fun a => ⟨h1, by omega, by omega, fun b => ?_, fun b => ⟨h2, ?_⟩⟩⟩)
  · rw [rLie, if_pos a] at hp; exact hp
  · rw [rLie, if_neg a, if_pos b] at hp; exact hp
  · rw [rLie, if_neg a, if_neg b] at hp; exact hp
/-- a cell has a drum -/
def rHome (A : Int → Int) (k : Int) : Prop := ∃ e, 0 ≤ e ∧ e < A 3 ∧ A (46 + e) = k
theorem m_isHome {k : Int} (hk : in32 k) (hc : 0 ≤ M 216 3 ∧ M 216 3 ≤ 6) (hh : ∀ e, 0 ≤ e → e < M 216 3 → in32 (M 216 (46 + e))) (ht : rHome (M 216) k → post 1 M) (hf : ¬ rHome (M 216) k → post 0 M) : QCm X x d 1 yX11_isHome [(2, 215), (0, k)] M post := by
  have key : ∀ i : Int, 0 ≤ i ∧ i ≤ M 216 3 ∧ (∀ e, 0 ≤ e → e < i → M 216 (46 + e) ≠ k) → QRm X x d qmX11_isHome post 2 [(0, (2, 215)), (1, (0, k)), (2, (0, i))] [] M := by
    refine int_up (M 216 3) (fun i hi h => ?_) (fun i hi ih h => ?_)
    · exact TX11_isHome_2 ⟨i32 (by omega) (by omega), i32 (by omega) (by omega), fun _ => hf (fun ⟨e, e0, e1, e2⟩ => h.2.2 e e0 (by omega) e2), fun z => absurd hi (by omega)⟩
    · refine TX11_isHome_2 ⟨i32 (by omega) (by omega), i32 (by omega) (by omega), fun z => absurd hi (by omega), fun _ => ⟨by omega, by omega, fun a => ht ⟨i, by omega, by omega, a⟩, fun a => ⟨hh i (by omega) (by omega), hk, ih ⟨by omega, by omega, fun e e0 e1 => ?_⟩⟩⟩⟩
      by_cases z : e = i
      · subst z; exact a
      · exact h.2.2 e e0 (by omega)
  exact QC.of qmX11_isHome_ok rfl (TX11_isHome_0 (key 0 ⟨by omega, by omega, fun e e0 e1 => by omega⟩))
end Ref40
end
section
theorem td_b {k w : Int} (hk : 0 ≤ k) (hw : 0 < w) : 0 ≤ k.tdiv w ∧ k.tdiv w ≤ k := ⟨Int.tdiv_nonneg hk (by omega), Int.tdiv_le_self w hk⟩
theorem tm_b {k w : Int} (hk : 0 ≤ k) (hw : 0 < w) : 0 ≤ k.tmod w ∧ k.tmod w < w := ⟨Int.tmod_nonneg w hk, Int.tmod_lt_of_pos k hw⟩
section Ref41
variable {X : QX} {x : Int} {d : Nat} {post : Int → QMem → Prop} {M : QMem}
/-- the cell beside -/
def rBeside (A : Int → Int) (k t : Int) : Int :=
  if t = 1 then (if k.tdiv (A 1) = 0 then -1 else k - A 1)
  else if t = 2 then (if k.tmod (A 1) = A 1 - 1 then -1 else k + 1)
  else if t = 3 then (if k.tdiv (A 1) = A 2 - 1 then -1 else k + A 1)
  else (if k.tmod (A 1) = 0 then -1 else k - 1)
theorem m_beside {k t : Int} (hk : 0 ≤ k ∧ k < 36) (ht : in32 t) (hw : 2 ≤ M 216 1 ∧ M 216 1 ≤ 6) (hh : 2 ≤ M 216 2 ∧ M 216 2 ≤ 6) (hp : post (rBeside (M 216) k t) M) : QCm X x d 1 yX11_beside [(2, 215), (0, k), (0, t)] M post := by
  have b1 := td_b (k := k) (w := M 216 1) hk.1 (by omega)
  have b2 := tm_b (k := k) (w := M 216 1) hk.1 (by omega)
  have i1 : in32 (k.tdiv (M 216 1)) := i32 (by omega) (by omega)
  have i2 : in32 (k.tmod (M 216 1)) := i32 (by omega) (by omega)
  refine QC.of qmX11_beside_ok rfl (TX11_beside_0 ⟨i32 (by omega) (by omega), i32 (by omega) (by omega), by omega, fun a => ⟨fun b => ?_, fun b => ⟨i1, ?_⟩⟩, fun a => ⟨ht, fun b => ⟨fun c => ?_, fun c => ⟨i2, i32 (by omega) (by omega), ?_⟩⟩, fun b => ⟨fun c => ⟨fun e => ?_, fun e => ⟨i1, i32 (by omega) (by omega), ?_⟩⟩, fun c => ⟨fun e => ?_, fun e => ⟨i2, ?_⟩⟩⟩⟩⟩)
  · simpa [rBeside, a, b] using hp
  · simpa [rBeside, a, b] using hp
  · simpa [rBeside, a, b, c] using hp
  · simpa [rBeside, a, b, c] using hp
  · simpa [rBeside, a, b, c, e] using hp
  · simpa [rBeside, a, b, c, e] using hp
  · simpa [rBeside, a, b, c, e] using hp
  · simpa [rBeside, a, b, c, e] using hp
/-- a ribbon's end -/
def rEnd (A : Int → Int) (e : Int) : Int := if A (60 + e) = 0 then A (46 + e) else A (66 + 16 * e + A (60 + e) - 1)
theorem m_endOf {e : Int} (he : 0 ≤ e ∧ e < 6) (hl : 0 ≤ M 216 (60 + e) ∧ M 216 (60 + e) ≤ 16) (hp : post (rEnd (M 216) e) M) : QCm X x d 1 yX11_endOf [(2, 215), (0, e)] M post := by
  refine QC.of qmX11_endOf_ok rfl (TX11_endOf_0 ⟨by omega, by omega, fun a => ⟨by omega, by omega, ?_⟩, fun a => ⟨i32 (by omega) (by omega), by omega, by omega, ?_⟩⟩)
  · simpa [rEnd, a] using hp
  · simpa [rEnd, a] using hp
theorem m_cellOf {t : Int} (ht : 0 ≤ t ∧ t < 8) (h1 : 0 ≤ M 216 (331 + t) ∧ M 216 (331 + t) < 6) (h2 : 0 ≤ M 216 (339 + t) ∧ M 216 (339 + t) < 16) (hp : post (M 216 (66 + 16 * M 216 (331 + t) + M 216 (339 + t))) M) : QCm X x d 1 yX11_cellOf [(2, 215), (0, t)] M post :=
  QC.of qmX11_cellOf_ok rfl (TX11_cellOf_0 ⟨by omega, by omega, by omega, by omega, by omega, by omega, hp⟩)
/-- traveller t stands on cell k -/
def rOn (A : Int → Int) (k t : Int) : Prop := A (347 + t) = 0 ∧ 0 ≤ A (339 + t) ∧ A (66 + 16 * A (331 + t) + A (339 + t)) = k
theorem m_goerOn {k : Int} (hk : in32 k) (hT : 0 ≤ M 216 330 ∧ M 216 330 ≤ 8) (h1 : ∀ t, 0 ≤ t → t < M 216 330 → in32 (M 216 (347 + t)) ∧ (0 ≤ M 216 (331 + t) ∧ M 216 (331 + t) < 6) ∧ (-1 ≤ M 216 (339 + t) ∧ M 216 (339 + t) < 16)) (h2 : ∀ i, 0 ≤ i → i < 96 → in32 (M 216 (66 + i)))
    (ht : ∀ t, 0 ≤ t → t < M 216 330 → rOn (M 216) k t → (∀ u, 0 ≤ u → u < t → ¬ rOn (M 216) k u) → post t M) (hf : (∀ u, 0 ≤ u → u < M 216 330 → ¬ rOn (M 216) k u) → post (-1) M) : QCm X x (d + 1) 1 yX11_goerOn [(2, 215), (0, k)] M post := by
  have key : ∀ i : Int, 0 ≤ i ∧ i ≤ M 216 330 ∧ (∀ u, 0 ≤ u → u < i → ¬ rOn (M 216) k u) → QRm X x (d + 1) qmX11_goerOn post 2 [(0, (2, 215)), (1, (0, k)), (2, (0, i))] [] M := by
    refine int_up (M 216 330) (fun i hi h => ?_) (fun i hi ih h => ?_)
    · exact TX11_goerOn_2 ⟨i32 (by omega) (by omega), i32 (by omega) (by omega), fun _ => hf (fun u u0 u1 => h.2.2 u u0 (by omega)), fun z => absurd hi (by omega)⟩
    · obtain ⟨c1, c2, c3⟩ := h1 i (by omega) (by omega)
      have nx : ¬ rOn (M 216) k i → ∀ u, 0 ≤ u → u < i + 1 → ¬ rOn (M 216) k u := fun hn u u0 u1 => by
        by_cases z : u = i
        · subst z; exact hn
        · exact h.2.2 u u0 (by omega)
      refine TX11_goerOn_2 ⟨i32 (by omega) (by omega), i32 (by omega) (by omega), fun z => absurd hi (by omega), fun _ => ⟨by omega, by omega, fun a => ⟨by omega, by omega, i32 (by omega) (by omega), fun b => ?_, fun b => ?_⟩, fun a => ⟨c1, ?_⟩⟩⟩
      · exact ih ⟨by omega, by omega, nx (fun z => by have := z.2.1; omega)⟩
      · refine m_cellOf (by omega) c2 (by omega) ⟨fun c => ?_, fun c => ⟨?_, hk, ?_⟩⟩
        · exact ht i (by omega) (by omega) ⟨a, by omega, c⟩ h.2.2
        · have := h2 (16 * M 216 (331 + i) + M 216 (339 + i)) (by omega) (by omega)
          rw [← Int.add_assoc] at this
          exact this
        · exact ih ⟨by omega, by omega, nx (fun z => c z.2.2)⟩
      · exact ih ⟨by omega, by omega, nx (fun z => a z.1)⟩
  exact QC.of qmX11_goerOn_ok rfl (TX11_goerOn_0 (key 0 ⟨by omega, by omega, fun u u0 u1 => by omega⟩))
end Ref41
end
section
theorem ql2i_id {a : Int} (h : in32 a) : ql2i a = a := by
  unfold ql2i
  rw [Int64.toInt_toInt32, q64 h.to64]
  exact Int.bmod_eq_of_le (by have := h.1; omega) (by have := h.2; omega)
theorem qand_in (a b : Int) : in32 (qand a b) := ⟨Int32.minValue_le_toInt _, Int32.toInt_le _⟩
theorem qor_in (a b : Int) : in32 (qor a b) := ⟨Int32.minValue_le_toInt _, Int32.toInt_le _⟩
theorem in32_mul {a b : Int} (ha : in32 a) (hb : in32 b) : in64 (a * b) := by
  have h1 : a.natAbs ≤ 2147483648 := by have := ha.1; have := ha.2; omega
  have h2 : b.natAbs ≤ 2147483648 := by have := hb.1; have := hb.2; omega
  have h3 : (a * b).natAbs ≤ 2147483648 * 2147483648 := by rw [Int.natAbs_mul]; exact Nat.mul_le_mul h1 h2
  exact ⟨by omega, by omega⟩
def rClamp (v : Int) : Int := if 1000000 < v then 1000000 else if v < -1000000 then -1000000 else v
theorem rClamp_in (v : Int) : in32 (rClamp v) := by
  unfold rClamp
  split
  · exact ⟨by decide, by decide⟩
  · split
    · exact ⟨by decide, by decide⟩
    · exact ⟨by omega, by omega⟩
/-- two values joined by a sign -/
def rBetween (c a b : Int) : Int :=
  if c = 3003 then (if a = b then 1 else 0) else if c = 3004 then (if a < b then 1 else 0) else if c = 3005 then (if b < a then 1 else 0)
  else if c = 3007 then qand a b else if c = 3008 then qor a b
  else rClamp (if c = 3000 then a + b else if c = 3001 then a - b else a * b)
theorem rBetween_in (c a b : Int) : in32 (rBetween c a b) := by
  have o0 : in32 0 := ⟨by decide, by decide⟩
  have o1 : in32 1 := ⟨by decide, by decide⟩
  unfold rBetween
  repeat' split
  all_goals first | exact o0 | exact o1 | exact qand_in _ _ | exact qor_in _ _ | exact rClamp_in _
section Ref42
variable {X : QX} {x : Int} {d : Nat} {post : Int → QMem → Prop} {M : QMem}
theorem m_clamp {v : Int} (h64 : in64 v) (hp : post (rClamp v) M) : (in64 v ∧ (v ≤ 1000000 → (((-1000000 : Int) ≤ v → (post (ql2i v) M)) ∧ (¬ (-1000000 : Int) ≤ v → (post (ql2i (-1000000)) M)))) ∧ (¬ v ≤ 1000000 → (post (ql2i 1000000) M))) := by
  refine ⟨h64, fun a => ⟨fun b => ?_, fun b => ?_⟩, fun a => ?_⟩
  · rw [ql2i_id ⟨by omega, by omega⟩]
    rw [rClamp, if_neg (by omega), if_neg (by omega)] at hp; exact hp
  · rw [ql2i_id ⟨by omega, by omega⟩]
    rw [rClamp, if_neg (by omega), if_pos (by omega)] at hp; exact hp
  · rw [ql2i_id ⟨by omega, by omega⟩]
    rw [rClamp, if_pos (by omega)] at hp; exact hp
theorem m_between {c a b : Int} (hc : in32 c) (ha : in32 a) (hb : in32 b) (hn : c ≠ 3006) (hp : post (rBetween c a b) M) : QCm X x d 1 yX11_between [(0, c), (0, a), (0, b)] M post := by
  have s1 : in64 (a + b) := ⟨by have := ha.1; have := hb.1; omega, by have := ha.2; have := hb.2; omega⟩
  have s2 : in64 (a - b) := ⟨by have := ha.1; have := hb.2; omega, by have := ha.2; have := hb.1; omega⟩
  have s3 := in32_mul ha hb
  refine QC.of qmX11_between_ok rfl (TX11_between_0 ⟨hc, fun z => ⟨fun w => ?_, fun w => ⟨ha, hb, ?_⟩⟩, fun z => ⟨ha, hb, fun w => ?_, fun w => ?_⟩, fun z => ⟨ha, hb, fun w => ?_, fun w => ?_⟩, fun z => absurd z hn, fun z => ?_, fun z => ?_, fun z => ⟨fun w => ⟨ha, hb, m_clamp s1 ?_⟩, fun w => ⟨fun u => ⟨ha, hb, m_clamp s2 ?_⟩, fun u => ⟨ha, hb, m_clamp s3 ?_⟩⟩⟩⟩)
  · simpa [rBetween, z, w] using hp
  · simpa [rBetween, z, w] using hp
  · simpa [rBetween, z, show ¬ a < b by omega] using hp
  · simpa [rBetween, z, show a < b by omega] using hp
  · simpa [rBetween, z, show ¬ b < a by omega] using hp
  · simpa [rBetween, z, show b < a by omega] using hp
  · simpa [rBetween, z] using hp
  · simpa [rBetween, z] using hp
  · simpa [rBetween, w] using hp
  · simpa [rBetween, u] using hp
  · simpa [rBetween, show ¬ c = 3003 by omega, show ¬ c = 3004 by omega, show ¬ c = 3005 by omega, show ¬ c = 3007 by omega, show ¬ c = 3008 by omega, w, u] using hp
/-- the reckoning of a law, c its parts, w its words: the stack behind i parts, and how high it is -/
def lawSt (c w : Int → Int) : Nat → (Int → Int) × Int
  | 0 => (fun _ => 0, 0)
  | i + 1 =>
    if c i < 3000 then ((fun j => if j = (lawSt c w i).2 then (if c i < 1000 then c i else w (c i - 1000)) else (lawSt c w i).1 j), (lawSt c w i).2 + 1)
    else if c i = 3006 then ((fun j => if j = (lawSt c w i).2 - 1 then 1 - (lawSt c w i).1 ((lawSt c w i).2 - 1) else (lawSt c w i).1 j), (lawSt c w i).2)
    else ((fun j => if j = (lawSt c w i).2 - 2 then rBetween (c i) ((lawSt c w i).1 ((lawSt c w i).2 - 2)) ((lawSt c w i).1 ((lawSt c w i).2 - 1)) else (lawSt c w i).1 j), (lawSt c w i).2 - 1)
/-- how high the stack is behind i parts: it doesn't hang on the words -/
def lawHi (c : Int → Int) : Nat → Int
  | 0 => 0
  | i + 1 => if c i < 3000 then lawHi c i + 1 else if c i = 3006 then lawHi c i else lawHi c i - 1
theorem lawSt_hi (c w : Int → Int) : ∀ i, (lawSt c w i).2 = lawHi c i := by
  intro i
  induction i with
  | zero => rfl
  | succ i ih =>
    rw [lawSt, lawHi]
    split
    · show _ + 1 = _; rw [ih]
    · split
      · exact ih
      · show _ - 1 = _; rw [ih]
/-- which places of the stack hold a truth -/
def lawTy (c : Int → Int) : Nat → Int → Bool
  | 0 => fun _ => false
  | i + 1 => if c i < 3000 then (fun j => if j = lawHi c i then false else lawTy c i j) else if c i = 3006 then lawTy c i else (fun j => if j = lawHi c i - 2 then decide (3003 ≤ c i) else lawTy c i j)
/-- n parts that can be reckoned -/
def lawOk (c : Int → Int) (n : Nat) : Prop := ∀ i : Nat, i < n → 0 ≤ c i ∧ c i ≤ 3008 ∧ (c i < 3000 → c i < 1005 ∧ 0 ≤ lawHi c i ∧ lawHi c i < 18) ∧ (c i = 3006 → 1 ≤ lawHi c i ∧ lawHi c i ≤ 18 ∧ lawTy c i (lawHi c i - 1) = true) ∧ (3000 ≤ c i → c i ≠ 3006 → 2 ≤ lawHi c i ∧ lawHi c i ≤ 18) ∧ (3007 ≤ c i → lawTy c i (lawHi c i - 1) = true ∧ lawTy c i (lawHi c i - 2) = true)
theorem rBetween_b {c a b : Int} (h0 : 3000 ≤ c) (h1 : c ≤ 3008) (h6 : c ≠ 3006) (hab : 3007 ≤ c → (a = 0 ∨ a = 1) ∧ (b = 0 ∨ b = 1)) : (3003 ≤ c → rBetween c a b = 0 ∨ rBetween c a b = 1) ∧ -1000000 ≤ rBetween c a b ∧ rBetween c a b ≤ 1000000 := by
  have cl : ∀ v, -1000000 ≤ rClamp v ∧ rClamp v ≤ 1000000 := by
    intro v
    unfold rClamp
    split
    · omega
    · split <;> omega
  have key : (3003 ≤ c → rBetween c a b = 0 ∨ rBetween c a b = 1) := by
    intro h3
    unfold rBetween
    split
    · split <;> simp
    · split
      · split <;> simp
      · split
        · split <;> simp
        · obtain ⟨ha, hb⟩ := hab (by omega)
          split
          · rcases ha with rfl | rfl <;> rcases hb with rfl | rfl <;> decide
          · split
            · rcases ha with rfl | rfl <;> rcases hb with rfl | rfl <;> decide
            · omega
  refine ⟨key, ?_⟩
  by_cases h3 : 3003 ≤ c
  · rcases key h3 with h | h <;> rw [h] <;> omega
  · unfold rBetween
    rw [if_neg (by omega), if_neg (by omega), if_neg (by omega), if_neg (by omega), if_neg (by omega)]
    exact cl _
theorem lawSt_b {c w : Int → Int} {n : Nat} (hc : lawOk c n) (hw : ∀ k, 0 ≤ k → k < 5 → -1000000 ≤ w k ∧ w k ≤ 1000000) : ∀ i, i ≤ n → ∀ j, 0 ≤ j → j < lawHi c i → (lawTy c i j = true → (lawSt c w i).1 j = 0 ∨ (lawSt c w i).1 j = 1) ∧ -1000000 ≤ (lawSt c w i).1 j ∧ (lawSt c w i).1 j ≤ 1000000 := by
  intro i
  induction i with
  | zero => intro _ j h0 h1; rw [lawHi] at h1; omega
  | succ i ih =>
    intro hi j h0 h1
    have ih := ih (by omega)
    obtain ⟨a1, a2, a3, a4, a5, a6⟩ := hc i (by omega)
    have e := lawSt_hi c w i
    rw [lawSt, lawTy]
    rw [lawHi] at h1
    by_cases b : c i < 3000
    · simp only [b, if_true] at h1 ⊢
      rw [e]
      by_cases hj : j = lawHi c i
      · simp only [hj, if_true]
        refine ⟨(fun z => by cases z), ?_⟩
        split
        · omega
        · exact hw (c i - 1000) (by omega) (by have := a3 b; omega)
      · simp only [hj, if_false]
        exact ih j h0 (by omega)
    · simp only [b, if_false] at h1 ⊢
      by_cases b2 : c i = 3006
      · simp only [b2, if_true] at h1 ⊢
        rw [e]
        by_cases hj : j = lawHi c i - 1
        · simp only [hj, if_true]
          obtain ⟨p1, p2, p3⟩ := a4 b2
          rcases (ih (lawHi c i - 1) (by omega) (by omega)).1 p3 with q | q <;> rw [q] <;> exact ⟨fun _ => by decide, by decide, by decide⟩
        · simp only [hj, if_false]
          exact ih j h0 h1
      · simp only [b2, if_false] at h1 ⊢
        rw [e]
        by_cases hj : j = lawHi c i - 2
        · simp only [hj, if_true]
          obtain ⟨p1, p2⟩ := a5 (by omega) b2
          obtain ⟨r1, r2⟩ := rBetween_b (c := c i) (a := (lawSt c w i).1 (lawHi c i - 2)) (b := (lawSt c w i).1 (lawHi c i - 1)) (by omega) a2 b2 (fun z => ⟨(ih _ (by omega) (by omega)).1 (a6 z).2, (ih _ (by omega) (by omega)).1 (a6 z).1⟩)
          exact ⟨fun z => r1 (of_decide_eq_true z), r2⟩
        · simp only [hj, if_false]
          exact ih j h0 (by omega)
end Ref42
end
section
section Ref43
variable {X : QX} {x : Int} {d : Nat} {post : Int → QMem → Prop} {M : QMem}
theorem qup_row {M : QMem} {a b i v : Int} (h : b ≠ a) : qup M a i v b = M b := by
  funext j
  simp [qup, h]
theorem qup_at (M : QMem) (a i v j : Int) : qup M a i v a j = if j = i then v else M a j := by
  simp [qup]
theorem lawSt_lit {c w : Int → Int} {i : Nat} (h : c i < 3000) (j : Int) : (lawSt c w (i + 1)).1 j = if j = lawHi c i then (if c i < 1000 then c i else w (c i - 1000)) else (lawSt c w i).1 j := by
  rw [lawSt, if_pos h, ← lawSt_hi c w i]
theorem lawSt_not {c w : Int → Int} {i : Nat} (h : c i = 3006) (j : Int) : (lawSt c w (i + 1)).1 j = if j = lawHi c i - 1 then 1 - (lawSt c w i).1 (lawHi c i - 1) else (lawSt c w i).1 j := by
  rw [lawSt, if_neg (show ¬ c i < 3000 by omega), if_pos h, ← lawSt_hi c w i]
theorem lawSt_op {c w : Int → Int} {i : Nat} (h : 3000 ≤ c i) (h6 : ¬ c i = 3006) (j : Int) : (lawSt c w (i + 1)).1 j = if j = lawHi c i - 2 then rBetween (c i) ((lawSt c w i).1 (lawHi c i - 2)) ((lawSt c w i).1 (lawHi c i - 1)) else (lawSt c w i).1 j := by
  rw [lawSt, if_neg (show ¬ c i < 3000 by omega), if_neg h6, ← lawSt_hi c w i]
/-- the words of a law -/
def rWord (A : Int → Int) (e k : Int) : Int → Int := fun j => if j = 0 then k.tmod (A 1) else if j = 1 then k.tdiv (A 1) else if j = 2 then A 52 else if j = 3 then e else rLie A k
def rCode (A : Int → Int) (l : Int) : Int → Int := fun i => A (3475 + A (6 + l) + i)
/-- what a law tells -/
def rLaw (A : Int → Int) (l e k : Int) : Int := (lawSt (rCode A l) (rWord A e k) (A (8 + l)).toNat).1 0
/-- a law that is told can be reckoned -/
def rLawOk (A : Int → Int) (l : Int) : Prop := 0 ≤ A (6 + l) ∧ 1 ≤ A (8 + l) ∧ A (6 + l) + A (8 + l) ≤ 900 ∧ lawOk (rCode A l) (A (8 + l)).toNat ∧ lawHi (rCode A l) (A (8 + l)).toNat = 1
theorem rLie_b (A : Int → Int) (k : Int) : 0 ≤ rLie A k ∧ rLie A k ≤ 2 := by
  unfold rLie
  split
  · omega
  · split <;> omega
theorem rWord_b {A : Int → Int} {e k : Int} (hk : 0 ≤ k ∧ k < 36) (hw : 2 ≤ A 1 ∧ A 1 ≤ 6) (hwet : 0 ≤ A 52 ∧ A 52 ≤ 9) (he : 0 ≤ e ∧ e < 6) : ∀ j, 0 ≤ j → j < 5 → -1000000 ≤ rWord A e k j ∧ rWord A e k j ≤ 1000000 := by
  intro j _ _
  have b1 := td_b (k := k) (w := A 1) hk.1 (by omega)
  have b2 := tm_b (k := k) (w := A 1) hk.1 (by omega)
  have b3 := rLie_b A k
  unfold rWord
  repeat' split
  all_goals omega
theorem m_reckons_loop {l e k : Int} {n : Nat} (hl : l = 0 ∨ l = 1) (hk : 0 ≤ k ∧ k < 36) (hw : 2 ≤ M 216 1 ∧ M 216 1 ≤ 6) (hwet : 0 ≤ M 216 52 ∧ M 216 52 ≤ 9) (he : 0 ≤ e ∧ e < 6) (hok : rLawOk (M 216) l) (hn : (M 216 (8 + l)).toNat = n)
    (hp : ∀ M1 : QMem, (∀ a, a ≠ 220 → a ≠ 221 → M1 a = M a) → post (rLaw (M 216) l e k) M1) :
    ∀ (r i : Nat), i + r = n → ∀ M1 : QMem, (∀ a, a ≠ 220 → a ≠ 221 → M1 a = M a) → (∀ j, 0 ≤ j → j < 5 → M1 221 j = rWord (M 216) e k j) → (∀ j, 0 ≤ j → j < lawHi (rCode (M 216) l) i → M1 220 j = (lawSt (rCode (M 216) l) (rWord (M 216) e k) i).1 j) →
      QRm X x (d + 1) qmX11_reckons post 65 [(0, (2, 215)), (1, (0, l)), (4, (0, lawHi (rCode (M 216) l) i)), (5, (0, (i : Int)))] [] M1 := by
  obtain ⟨o1, o2, o3, o4, o5⟩ := hok
  have hb := rWord_b (A := M 216) hk hw hwet he
  intro r
  induction r with
  | zero =>
    intro i hi M1 hs _ hst
    have h216 : M1 216 = M 216 := hs 216 (by decide) (by decide)
    refine TX11_reckons_65 ?_
    simp only [h216]
    refine ⟨by omega, by omega, i32 (by omega) (by omega), i32 (by omega) (by omega), fun _ => ?_, fun z => absurd z (by omega)⟩
    have : M1 220 0 = rLaw (M 216) l e k := by
      rw [hst 0 (by omega) (by rw [show i = (M 216 (8 + l)).toNat by omega, o5]; omega), rLaw, show i = (M 216 (8 + l)).toNat by omega]
    rw [this]
    exact hp M1 hs
  | succ r ih =>
    intro i hi M1 hs hwd hst
    have h216 : M1 216 = M 216 := hs 216 (by decide) (by decide)
    obtain ⟨a1, a2, a3, a4, a5, a6⟩ := o4 i (by omega)
    have ce : M 216 (3475 + M 216 (6 + l) + (i : Int)) = rCode (M 216) l i := rfl
    have eh := lawSt_hi (rCode (M 216) l) (rWord (M 216) e k) i
    have sb := lawSt_b o4 hb i (by omega)
    refine TX11_reckons_65 ?_
    simp only [h216]
    rw [ce]
    refine ⟨by omega, by omega, i32 (by omega) (by omega), i32 (by omega) (by omega), fun z => absurd z (by omega), fun _ => ⟨by omega, by omega, by omega, by omega, i32 (by omega) (by omega), fun b => ⟨fun b2 => ?_, fun b2 => ?_⟩, fun b => ⟨fun b2 => ?_, fun b2 => ?_⟩⟩⟩
    · obtain ⟨p1, p2, p3⟩ := a4 b2
      refine ⟨by omega, by omega, ?_⟩
      have hI : lawHi (rCode (M 216) l) (i + 1) = lawHi (rCode (M 216) l) i := by rw [lawHi, if_neg (by omega), if_pos b2]
      have := ih (i + 1) (by omega) (qup M1 220 (lawHi (rCode (M 216) l) i - 1) (1 - M1 220 (lawHi (rCode (M 216) l) i - 1))) (fun a q1 q2 => by rw [qup_row q1]; exact hs a q1 q2) (fun j q1 q2 => by rw [qup_row (by decide)]; exact hwd j q1 q2) (fun j q1 q2 => ?_)
      · rw [hI] at this; exact this
      · rw [hI] at q2
        rw [qup_at, lawSt_not b2]
        split
        · rw [hst _ (by omega) (by omega)]
        · exact hst j q1 q2
    · obtain ⟨p1, p2⟩ := a5 b b2
      refine ⟨by omega, by omega, by omega, by omega, ?_⟩
      have s1 := (sb (lawHi (rCode (M 216) l) i - 1) (by omega) (by omega)).2
      have s2 := (sb (lawHi (rCode (M 216) l) i - 2) (by omega) (by omega)).2
      have hI : lawHi (rCode (M 216) l) (i + 1) = lawHi (rCode (M 216) l) i + (-1) := by rw [lawHi, if_neg (by omega), if_neg b2]; omega
      rw [show lawHi (rCode (M 216) l) i + (-1) - 1 = lawHi (rCode (M 216) l) i - 2 by omega, show lawHi (rCode (M 216) l) i + (-1) = lawHi (rCode (M 216) l) i - 1 by omega, hst _ (show 0 ≤ lawHi (rCode (M 216) l) i - 2 by omega) (by omega), hst _ (show 0 ≤ lawHi (rCode (M 216) l) i - 1 by omega) (by omega)]
      refine m_between (i32 (by omega) (by omega)) (i32 (by omega) (by omega)) (i32 (by omega) (by omega)) b2 ?_
      have := ih (i + 1) (by omega) (qup M1 220 (lawHi (rCode (M 216) l) i - 2) (rBetween (rCode (M 216) l i) ((lawSt (rCode (M 216) l) (rWord (M 216) e k) i).1 (lawHi (rCode (M 216) l) i - 2)) ((lawSt (rCode (M 216) l) (rWord (M 216) e k) i).1 (lawHi (rCode (M 216) l) i - 1)))) (fun a q1 q2 => by rw [qup_row q1]; exact hs a q1 q2) (fun j q1 q2 => by rw [qup_row (by decide)]; exact hwd j q1 q2) (fun j q1 q2 => ?_)
      · rw [hI, show lawHi (rCode (M 216) l) i + (-1) = lawHi (rCode (M 216) l) i - 1 by omega] at this; exact this
      · rw [hI] at q2
        rw [qup_at, lawSt_op b b2]
        split
        · rfl
        · exact hst j q1 (by omega)
    · have p1 := a3 (by omega)
      refine ⟨by omega, by omega, by omega, by omega, ?_⟩
      have hI : lawHi (rCode (M 216) l) (i + 1) = lawHi (rCode (M 216) l) i + 1 := by rw [lawHi, if_pos (by omega)]
      have := ih (i + 1) (by omega) (qup M1 220 (lawHi (rCode (M 216) l) i) (M1 221 (rCode (M 216) l i - 1000))) (fun a q1 q2 => by rw [qup_row q1]; exact hs a q1 q2) (fun j q1 q2 => by rw [qup_row (by decide)]; exact hwd j q1 q2) (fun j q1 q2 => ?_)
      · rw [hI] at this; exact this
      · rw [hI] at q2
        rw [qup_at, lawSt_lit (by omega)]
        split
        · rw [if_neg (by omega), hwd _ (by omega) (by omega)]
        · exact hst j q1 (by omega)
    · have p1 := a3 (by omega)
      refine ⟨by omega, by omega, ?_⟩
      have hI : lawHi (rCode (M 216) l) (i + 1) = lawHi (rCode (M 216) l) i + 1 := by rw [lawHi, if_pos (by omega)]
      have := ih (i + 1) (by omega) (qup M1 220 (lawHi (rCode (M 216) l) i) (rCode (M 216) l i)) (fun a q1 q2 => by rw [qup_row q1]; exact hs a q1 q2) (fun j q1 q2 => by rw [qup_row (by decide)]; exact hwd j q1 q2) (fun j q1 q2 => ?_)
      · rw [hI] at this; exact this
      · rw [hI] at q2
        rw [qup_at, lawSt_lit (by omega)]
        split
        · rw [if_pos (by omega)]
        · exact hst j q1 (by omega)
theorem m_reckons {l e k : Int} (hl : l = 0 ∨ l = 1) (hk : 0 ≤ k ∧ k < 36) (hw : 2 ≤ M 216 1 ∧ M 216 1 ≤ 6) (hwet : 0 ≤ M 216 52 ∧ M 216 52 ≤ 9) (he : 0 ≤ e ∧ e < 6) (h1 : in32 (M 216 (294 + k))) (h2 : in32 (M 216 (258 + k))) (hok : rLawOk (M 216) l)
    (hp : ∀ M1 : QMem, (∀ a, a ≠ 220 → a ≠ 221 → M1 a = M a) → post (rLaw (M 216) l e k) M1) : QCm X x (d + 1) 1 yX11_reckons [(2, 215), (0, l), (0, e), (0, k)] M post := by
  have hr : ∀ (i v : Int) (M1 : QMem), (qup M1 221 i v) 216 = M1 216 := fun i v M1 => qup_row (by decide)
  refine QC.of qmX11_reckons_ok rfl (TX11_reckons_0 ?_)
  simp only [hr]
  refine ⟨i32 (by omega) (by omega), i32 (by omega) (by omega), by omega, i32 (by omega) (by omega), by omega, ?_⟩
  refine m_lieOn hk ?_ ?_ ?_
  · simp only [hr]; exact h1
  · simp only [hr]; exact h2
  simp only [hr]
  refine m_reckons_loop hl hk hw hwet he hok rfl hp _ 0 (Nat.zero_add _) _ (fun a q1 q2 => ?_) (fun j q1 q2 => ?_) (fun j q1 q2 => ?_)
  · rw [qup_row q2, qup_row q2, qup_row q2, qup_row q2, qup_row q2]
  · rcases (show j = 0 ∨ j = 1 ∨ j = 2 ∨ j = 3 ∨ j = 4 by omega) with rfl | rfl | rfl | rfl | rfl <;> simp [qup, rWord]
  · rw [lawHi] at q2; omega
end Ref43
end
