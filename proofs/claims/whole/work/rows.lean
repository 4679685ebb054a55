section
-- ===== PART A: goes FIRST, ahead of the names: the tables' words, and 'selects' of the private methods out of them =====
/-- a private method of a class that the tables say can be made, by its rows of tables_1 -/
def lw_okq (q : MethodName × Nat) : Prop := (q.1.cls ≠ "java/lang/invoke/MethodHandle" ∧ q.1.cls ≠ "java/lang/invoke/VarHandle") ∧ Cond.instantiable q.1.cls q.2 ∈ tables_1 ∧ Cond.privateMethod q.1 ∈ tables_1 ∧ Cond.instanceMethod q.1 ∈ tables_1
theorem lw_p0 : lw_okq (⟨"ShadowSchool$School", "openTo", "(LShadowSchool$Progress;II)I"⟩, 19) := ⟨⟨by decide +kernel, by decide +kernel⟩, List.mem_of_getElem? (i := 32) (by decide +kernel), List.mem_of_getElem? (i := 456) (by decide +kernel), List.mem_of_getElem? (i := 457) (by decide +kernel)⟩
theorem lw_p1 : lw_okq (⟨"ShadowSchool$School", "deedOf", "(LShadowSchool$Progress;I)I"⟩, 19) := ⟨⟨by decide +kernel, by decide +kernel⟩, List.mem_of_getElem? (i := 32) (by decide +kernel), List.mem_of_getElem? (i := 460) (by decide +kernel), List.mem_of_getElem? (i := 461) (by decide +kernel)⟩
theorem lw_p2 : lw_okq (⟨"ShadowSchool$Rules", "holds", "(II)Z"⟩, 10) := ⟨⟨by decide +kernel, by decide +kernel⟩, List.mem_of_getElem? (i := 40) (by decide +kernel), List.mem_of_getElem? (i := 478) (by decide +kernel), List.mem_of_getElem? (i := 479) (by decide +kernel)⟩
theorem lw_p3 : lw_okq (⟨"ShadowSchool$School", "easiest", "(LShadowSchool$Progress;II)I"⟩, 19) := ⟨⟨by decide +kernel, by decide +kernel⟩, List.mem_of_getElem? (i := 32) (by decide +kernel), List.mem_of_getElem? (i := 489) (by decide +kernel), List.mem_of_getElem? (i := 490) (by decide +kernel)⟩
theorem lw_p4 : lw_okq (⟨"ShadowSchool$Reader", "cutIntoTokens", "()V"⟩, 6) := ⟨⟨by decide +kernel, by decide +kernel⟩, List.mem_of_getElem? (i := 236) (by decide +kernel), List.mem_of_getElem? (i := 599) (by decide +kernel), List.mem_of_getElem? (i := 600) (by decide +kernel)⟩
theorem lw_p5 : lw_okq (⟨"ShadowSchool$Reader", "sortOf", "(I)I"⟩, 6) := ⟨⟨by decide +kernel, by decide +kernel⟩, List.mem_of_getElem? (i := 236) (by decide +kernel), List.mem_of_getElem? (i := 603) (by decide +kernel), List.mem_of_getElem? (i := 604) (by decide +kernel)⟩
theorem lw_p6 : lw_okq (⟨"ShadowSchool$Reader", "tokenAt", "(II)I"⟩, 6) := ⟨⟨by decide +kernel, by decide +kernel⟩, List.mem_of_getElem? (i := 236) (by decide +kernel), List.mem_of_getElem? (i := 607) (by decide +kernel), List.mem_of_getElem? (i := 608) (by decide +kernel)⟩
theorem lw_p7 : lw_okq (⟨"ShadowSchool$Reader", "signAt", "(I)I"⟩, 6) := ⟨⟨by decide +kernel, by decide +kernel⟩, List.mem_of_getElem? (i := 236) (by decide +kernel), List.mem_of_getElem? (i := 611) (by decide +kernel), List.mem_of_getElem? (i := 612) (by decide +kernel)⟩
theorem lw_p8 : lw_okq (⟨"ShadowSchool$Reader", "nameAt", "(II)I"⟩, 6) := ⟨⟨by decide +kernel, by decide +kernel⟩, List.mem_of_getElem? (i := 236) (by decide +kernel), List.mem_of_getElem? (i := 615) (by decide +kernel), List.mem_of_getElem? (i := 616) (by decide +kernel)⟩
theorem lw_p9 : lw_okq (⟨"ShadowSchool$Reader", "isNameAt", "(III)Z"⟩, 6) := ⟨⟨by decide +kernel, by decide +kernel⟩, List.mem_of_getElem? (i := 236) (by decide +kernel), List.mem_of_getElem? (i := 668) (by decide +kernel), List.mem_of_getElem? (i := 669) (by decide +kernel)⟩
theorem lw_p10 : lw_okq (⟨"ShadowSchool$Reader", "numberAt", "(II)I"⟩, 6) := ⟨⟨by decide +kernel, by decide +kernel⟩, List.mem_of_getElem? (i := 236) (by decide +kernel), List.mem_of_getElem? (i := 672) (by decide +kernel), List.mem_of_getElem? (i := 673) (by decide +kernel)⟩
theorem lw_p11 : lw_okq (⟨"ShadowSchool$Reader", "readRule", "()Z"⟩, 6) := ⟨⟨by decide +kernel, by decide +kernel⟩, List.mem_of_getElem? (i := 236) (by decide +kernel), List.mem_of_getElem? (i := 680) (by decide +kernel), List.mem_of_getElem? (i := 681) (by decide +kernel)⟩
theorem lw_p12 : lw_okq (⟨"ShadowSchool$Reader", "goOn", "()V"⟩, 6) := ⟨⟨by decide +kernel, by decide +kernel⟩, List.mem_of_getElem? (i := 236) (by decide +kernel), List.mem_of_getElem? (i := 685) (by decide +kernel), List.mem_of_getElem? (i := 686) (by decide +kernel)⟩
theorem lw_p13 : lw_okq (⟨"ShadowSchool$Reader", "readCondition", "(I)Z"⟩, 6) := ⟨⟨by decide +kernel, by decide +kernel⟩, List.mem_of_getElem? (i := 236) (by decide +kernel), List.mem_of_getElem? (i := 689) (by decide +kernel), List.mem_of_getElem? (i := 690) (by decide +kernel)⟩
theorem lw_p14 : lw_okq (⟨"ShadowSchool$Reader", "readOne", "(I)Z"⟩, 6) := ⟨⟨by decide +kernel, by decide +kernel⟩, List.mem_of_getElem? (i := 236) (by decide +kernel), List.mem_of_getElem? (i := 693) (by decide +kernel), List.mem_of_getElem? (i := 694) (by decide +kernel)⟩
theorem lw_p15 : lw_okq (⟨"ShadowSchool$Reader", "readWithin", "(I)Z"⟩, 6) := ⟨⟨by decide +kernel, by decide +kernel⟩, List.mem_of_getElem? (i := 236) (by decide +kernel), List.mem_of_getElem? (i := 697) (by decide +kernel), List.mem_of_getElem? (i := 698) (by decide +kernel)⟩
def lw_privs_1 : List (MethodName × Nat) := [(⟨"ShadowSchool$School", "openTo", "(LShadowSchool$Progress;II)I"⟩, 19), (⟨"ShadowSchool$School", "deedOf", "(LShadowSchool$Progress;I)I"⟩, 19), (⟨"ShadowSchool$Rules", "holds", "(II)Z"⟩, 10), (⟨"ShadowSchool$School", "easiest", "(LShadowSchool$Progress;II)I"⟩, 19), (⟨"ShadowSchool$Reader", "cutIntoTokens", "()V"⟩, 6), (⟨"ShadowSchool$Reader", "sortOf", "(I)I"⟩, 6), (⟨"ShadowSchool$Reader", "tokenAt", "(II)I"⟩, 6), (⟨"ShadowSchool$Reader", "signAt", "(I)I"⟩, 6), (⟨"ShadowSchool$Reader", "nameAt", "(II)I"⟩, 6), (⟨"ShadowSchool$Reader", "isNameAt", "(III)Z"⟩, 6), (⟨"ShadowSchool$Reader", "numberAt", "(II)I"⟩, 6), (⟨"ShadowSchool$Reader", "readRule", "()Z"⟩, 6), (⟨"ShadowSchool$Reader", "goOn", "()V"⟩, 6), (⟨"ShadowSchool$Reader", "readCondition", "(I)Z"⟩, 6), (⟨"ShadowSchool$Reader", "readOne", "(I)Z"⟩, 6), (⟨"ShadowSchool$Reader", "readWithin", "(I)Z"⟩, 6)]
theorem lw_r1 : ∀ q ∈ lw_privs_1, lw_okq q := List.forall_mem_cons.mpr ⟨lw_p0, List.forall_mem_cons.mpr ⟨lw_p1, List.forall_mem_cons.mpr ⟨lw_p2, List.forall_mem_cons.mpr ⟨lw_p3, List.forall_mem_cons.mpr ⟨lw_p4, List.forall_mem_cons.mpr ⟨lw_p5, List.forall_mem_cons.mpr ⟨lw_p6, List.forall_mem_cons.mpr ⟨lw_p7, List.forall_mem_cons.mpr ⟨lw_p8, List.forall_mem_cons.mpr ⟨lw_p9, List.forall_mem_cons.mpr ⟨lw_p10, List.forall_mem_cons.mpr ⟨lw_p11, List.forall_mem_cons.mpr ⟨lw_p12, List.forall_mem_cons.mpr ⟨lw_p13, List.forall_mem_cons.mpr ⟨lw_p14, List.forall_mem_cons.mpr ⟨lw_p15, fun _ h => absurd h List.not_mem_nil⟩⟩⟩⟩⟩⟩⟩⟩⟩⟩⟩⟩⟩⟩⟩⟩
theorem lw_p16 : lw_okq (⟨"ShadowSchool$Reader", "readSign", "(I)Z"⟩, 6) := ⟨⟨by decide +kernel, by decide +kernel⟩, List.mem_of_getElem? (i := 236) (by decide +kernel), List.mem_of_getElem? (i := 701) (by decide +kernel), List.mem_of_getElem? (i := 702) (by decide +kernel)⟩
theorem lw_p17 : lw_okq (⟨"ShadowSchool$Reader", "readComparison", "()Z"⟩, 6) := ⟨⟨by decide +kernel, by decide +kernel⟩, List.mem_of_getElem? (i := 236) (by decide +kernel), List.mem_of_getElem? (i := 705) (by decide +kernel), List.mem_of_getElem? (i := 706) (by decide +kernel)⟩
theorem lw_p18 : lw_okq (⟨"ShadowSchool$Reader", "isValue", "(I)Z"⟩, 6) := ⟨⟨by decide +kernel, by decide +kernel⟩, List.mem_of_getElem? (i := 236) (by decide +kernel), List.mem_of_getElem? (i := 709) (by decide +kernel), List.mem_of_getElem? (i := 710) (by decide +kernel)⟩
theorem lw_p19 : lw_okq (⟨"ShadowSchool$Reader", "placeOfValue", "(I)I"⟩, 6) := ⟨⟨by decide +kernel, by decide +kernel⟩, List.mem_of_getElem? (i := 236) (by decide +kernel), List.mem_of_getElem? (i := 713) (by decide +kernel), List.mem_of_getElem? (i := 714) (by decide +kernel)⟩
theorem lw_p20 : lw_okq (⟨"ShadowSchool", "worthOfRest", "(I)I"⟩, 8) := ⟨⟨by decide +kernel, by decide +kernel⟩, List.mem_of_getElem? (i := 24) (by decide +kernel), List.mem_of_getElem? (i := 766) (by decide +kernel), List.mem_of_getElem? (i := 767) (by decide +kernel)⟩
theorem lw_p21 : lw_okq (⟨"ShadowSchool", "worthiest", "([III)I"⟩, 8) := ⟨⟨by decide +kernel, by decide +kernel⟩, List.mem_of_getElem? (i := 24) (by decide +kernel), List.mem_of_getElem? (i := 799) (by decide +kernel), List.mem_of_getElem? (i := 800) (by decide +kernel)⟩
theorem lw_p22 : lw_okq (⟨"ShadowSchool", "fewestRooms", "()I"⟩, 8) := ⟨⟨by decide +kernel, by decide +kernel⟩, List.mem_of_getElem? (i := 24) (by decide +kernel), List.mem_of_getElem? (i := 827) (by decide +kernel), List.mem_of_getElem? (i := 828) (by decide +kernel)⟩
theorem lw_p23 : lw_okq (⟨"ShadowSchool", "findSeats", "(II)Z"⟩, 8) := ⟨⟨by decide +kernel, by decide +kernel⟩, List.mem_of_getElem? (i := 24) (by decide +kernel), List.mem_of_getElem? (i := 831) (by decide +kernel), List.mem_of_getElem? (i := 832) (by decide +kernel)⟩
theorem lw_p24 : lw_okq (⟨"ShadowSchool", "mayTake", "(II)Z"⟩, 8) := ⟨⟨by decide +kernel, by decide +kernel⟩, List.mem_of_getElem? (i := 24) (by decide +kernel), List.mem_of_getElem? (i := 835) (by decide +kernel), List.mem_of_getElem? (i := 836) (by decide +kernel)⟩
theorem lw_p25 : lw_okq (⟨"ShadowSchool", "countSeatings", "(II)I"⟩, 8) := ⟨⟨by decide +kernel, by decide +kernel⟩, List.mem_of_getElem? (i := 24) (by decide +kernel), List.mem_of_getElem? (i := 847) (by decide +kernel), List.mem_of_getElem? (i := 848) (by decide +kernel)⟩
theorem lw_p26 : lw_okq (⟨"ShadowSchool", "countGifts", "(IIIII)I"⟩, 8) := ⟨⟨by decide +kernel, by decide +kernel⟩, List.mem_of_getElem? (i := 24) (by decide +kernel), List.mem_of_getElem? (i := 867) (by decide +kernel), List.mem_of_getElem? (i := 868) (by decide +kernel)⟩
theorem lw_p27 : lw_okq (⟨"ShadowSchool$Plans", "walk", "(LShadowSchool$School;III)V"⟩, 12) := ⟨⟨by decide +kernel, by decide +kernel⟩, List.mem_of_getElem? (i := 265) (by decide +kernel), List.mem_of_getElem? (i := 886) (by decide +kernel), List.mem_of_getElem? (i := 887) (by decide +kernel)⟩
theorem lw_p28 : lw_okq (⟨"ShadowSchool$Plans", "weigh", "(III)V"⟩, 12) := ⟨⟨by decide +kernel, by decide +kernel⟩, List.mem_of_getElem? (i := 265) (by decide +kernel), List.mem_of_getElem? (i := 894) (by decide +kernel), List.mem_of_getElem? (i := 895) (by decide +kernel)⟩
theorem lw_p29 : lw_okq (⟨"ShadowSchool$Plans", "valueFrom", "(LShadowSchool$School;II)I"⟩, 12) := ⟨⟨by decide +kernel, by decide +kernel⟩, List.mem_of_getElem? (i := 265) (by decide +kernel), List.mem_of_getElem? (i := 930) (by decide +kernel), List.mem_of_getElem? (i := 931) (by decide +kernel)⟩
theorem lw_p30 : lw_okq (⟨"ShadowSchool$School", "fits", "(II)Z"⟩, 19) := ⟨⟨by decide +kernel, by decide +kernel⟩, List.mem_of_getElem? (i := 32) (by decide +kernel), List.mem_of_getElem? (i := 959) (by decide +kernel), List.mem_of_getElem? (i := 960) (by decide +kernel)⟩
theorem lw_p31 : lw_okq (⟨"ShadowSchool$Host", "actOf", "(LShadowSchool$Shade;II)I"⟩, 11) := ⟨⟨by decide +kernel, by decide +kernel⟩, List.mem_of_getElem? (i := 321) (by decide +kernel), List.mem_of_getElem? (i := 1088) (by decide +kernel), List.mem_of_getElem? (i := 1089) (by decide +kernel)⟩
def lw_privs_2 : List (MethodName × Nat) := [(⟨"ShadowSchool$Reader", "readSign", "(I)Z"⟩, 6), (⟨"ShadowSchool$Reader", "readComparison", "()Z"⟩, 6), (⟨"ShadowSchool$Reader", "isValue", "(I)Z"⟩, 6), (⟨"ShadowSchool$Reader", "placeOfValue", "(I)I"⟩, 6), (⟨"ShadowSchool", "worthOfRest", "(I)I"⟩, 8), (⟨"ShadowSchool", "worthiest", "([III)I"⟩, 8), (⟨"ShadowSchool", "fewestRooms", "()I"⟩, 8), (⟨"ShadowSchool", "findSeats", "(II)Z"⟩, 8), (⟨"ShadowSchool", "mayTake", "(II)Z"⟩, 8), (⟨"ShadowSchool", "countSeatings", "(II)I"⟩, 8), (⟨"ShadowSchool", "countGifts", "(IIIII)I"⟩, 8), (⟨"ShadowSchool$Plans", "walk", "(LShadowSchool$School;III)V"⟩, 12), (⟨"ShadowSchool$Plans", "weigh", "(III)V"⟩, 12), (⟨"ShadowSchool$Plans", "valueFrom", "(LShadowSchool$School;II)I"⟩, 12), (⟨"ShadowSchool$School", "fits", "(II)Z"⟩, 19), (⟨"ShadowSchool$Host", "actOf", "(LShadowSchool$Shade;II)I"⟩, 11)]
theorem lw_r2 : ∀ q ∈ lw_privs_2, lw_okq q := List.forall_mem_cons.mpr ⟨lw_p16, List.forall_mem_cons.mpr ⟨lw_p17, List.forall_mem_cons.mpr ⟨lw_p18, List.forall_mem_cons.mpr ⟨lw_p19, List.forall_mem_cons.mpr ⟨lw_p20, List.forall_mem_cons.mpr ⟨lw_p21, List.forall_mem_cons.mpr ⟨lw_p22, List.forall_mem_cons.mpr ⟨lw_p23, List.forall_mem_cons.mpr ⟨lw_p24, List.forall_mem_cons.mpr ⟨lw_p25, List.forall_mem_cons.mpr ⟨lw_p26, List.forall_mem_cons.mpr ⟨lw_p27, List.forall_mem_cons.mpr ⟨lw_p28, List.forall_mem_cons.mpr ⟨lw_p29, List.forall_mem_cons.mpr ⟨lw_p30, List.forall_mem_cons.mpr ⟨lw_p31, fun _ h => absurd h List.not_mem_nil⟩⟩⟩⟩⟩⟩⟩⟩⟩⟩⟩⟩⟩⟩⟩⟩
theorem lw_p32 : lw_okq (⟨"ShadowSchoolModel", "isShadow", "(I)Z"⟩, 42) := ⟨⟨by decide +kernel, by decide +kernel⟩, List.mem_of_getElem? (i := 1208) (by decide +kernel), List.mem_of_getElem? (i := 1353) (by decide +kernel), List.mem_of_getElem? (i := 1354) (by decide +kernel)⟩
theorem lw_p33 : lw_okq (⟨"ShadowSchoolModel", "of", "(II)I"⟩, 42) := ⟨⟨by decide +kernel, by decide +kernel⟩, List.mem_of_getElem? (i := 1208) (by decide +kernel), List.mem_of_getElem? (i := 1360) (by decide +kernel), List.mem_of_getElem? (i := 1361) (by decide +kernel)⟩
theorem lw_p34 : lw_okq (⟨"ShadowSchoolModel", "emptySeats", "()V"⟩, 42) := ⟨⟨by decide +kernel, by decide +kernel⟩, List.mem_of_getElem? (i := 1208) (by decide +kernel), List.mem_of_getElem? (i := 1367) (by decide +kernel), List.mem_of_getElem? (i := 1368) (by decide +kernel)⟩
theorem lw_p35 : lw_okq (⟨"ShadowSchoolModel", "choiceOf", "(I)I"⟩, 42) := ⟨⟨by decide +kernel, by decide +kernel⟩, List.mem_of_getElem? (i := 1208) (by decide +kernel), List.mem_of_getElem? (i := 1371) (by decide +kernel), List.mem_of_getElem? (i := 1372) (by decide +kernel)⟩
theorem lw_p36 : lw_okq (⟨"ShadowSchoolModel", "ruleFor", "(I)I"⟩, 42) := ⟨⟨by decide +kernel, by decide +kernel⟩, List.mem_of_getElem? (i := 1208) (by decide +kernel), List.mem_of_getElem? (i := 1375) (by decide +kernel), List.mem_of_getElem? (i := 1376) (by decide +kernel)⟩
theorem lw_p37 : lw_okq (⟨"ShadowSchoolModel", "holds", "(II)Z"⟩, 42) := ⟨⟨by decide +kernel, by decide +kernel⟩, List.mem_of_getElem? (i := 1208) (by decide +kernel), List.mem_of_getElem? (i := 1382) (by decide +kernel), List.mem_of_getElem? (i := 1383) (by decide +kernel)⟩
theorem lw_p38 : lw_okq (⟨"ShadowSchoolModel", "factOf", "(II)I"⟩, 42) := ⟨⟨by decide +kernel, by decide +kernel⟩, List.mem_of_getElem? (i := 1208) (by decide +kernel), List.mem_of_getElem? (i := 1386) (by decide +kernel), List.mem_of_getElem? (i := 1387) (by decide +kernel)⟩
theorem lw_p39 : lw_okq (⟨"ShadowSchoolModel", "isOpen", "(II)Z"⟩, 42) := ⟨⟨by decide +kernel, by decide +kernel⟩, List.mem_of_getElem? (i := 1208) (by decide +kernel), List.mem_of_getElem? (i := 1396) (by decide +kernel), List.mem_of_getElem? (i := 1397) (by decide +kernel)⟩
theorem lw_p40 : lw_okq (⟨"ShadowSchoolModel", "lessonNumber", "(II)I"⟩, 42) := ⟨⟨by decide +kernel, by decide +kernel⟩, List.mem_of_getElem? (i := 1208) (by decide +kernel), List.mem_of_getElem? (i := 1400) (by decide +kernel), List.mem_of_getElem? (i := 1401) (by decide +kernel)⟩
theorem lw_p41 : lw_okq (⟨"ShadowSchoolModel", "hasLearnt", "(II)Z"⟩, 42) := ⟨⟨by decide +kernel, by decide +kernel⟩, List.mem_of_getElem? (i := 1208) (by decide +kernel), List.mem_of_getElem? (i := 1404) (by decide +kernel), List.mem_of_getElem? (i := 1405) (by decide +kernel)⟩
theorem lw_p42 : lw_okq (⟨"ShadowSchoolModel", "lacks", "(II)I"⟩, 42) := ⟨⟨by decide +kernel, by decide +kernel⟩, List.mem_of_getElem? (i := 1208) (by decide +kernel), List.mem_of_getElem? (i := 1408) (by decide +kernel), List.mem_of_getElem? (i := 1409) (by decide +kernel)⟩
theorem lw_p43 : lw_okq (⟨"ShadowSchoolModel", "pointsOf", "(II)I"⟩, 42) := ⟨⟨by decide +kernel, by decide +kernel⟩, List.mem_of_getElem? (i := 1208) (by decide +kernel), List.mem_of_getElem? (i := 1412) (by decide +kernel), List.mem_of_getElem? (i := 1413) (by decide +kernel)⟩
theorem lw_p44 : lw_okq (⟨"ShadowSchoolModel", "becomes", "(II)I"⟩, 42) := ⟨⟨by decide +kernel, by decide +kernel⟩, List.mem_of_getElem? (i := 1208) (by decide +kernel), List.mem_of_getElem? (i := 1426) (by decide +kernel), List.mem_of_getElem? (i := 1427) (by decide +kernel)⟩
theorem lw_p45 : lw_okq (⟨"ShadowSchoolModel", "isLesson", "(I)Z"⟩, 42) := ⟨⟨by decide +kernel, by decide +kernel⟩, List.mem_of_getElem? (i := 1208) (by decide +kernel), List.mem_of_getElem? (i := 1442) (by decide +kernel), List.mem_of_getElem? (i := 1443) (by decide +kernel)⟩
theorem lw_p46 : lw_okq (⟨"ShadowSchoolModel", "learntBy", "(I)I"⟩, 42) := ⟨⟨by decide +kernel, by decide +kernel⟩, List.mem_of_getElem? (i := 1208) (by decide +kernel), List.mem_of_getElem? (i := 1446) (by decide +kernel), List.mem_of_getElem? (i := 1447) (by decide +kernel)⟩
theorem lw_p47 : lw_okq (⟨"ShadowSchoolModel", "isOver", "()Z"⟩, 42) := ⟨⟨by decide +kernel, by decide +kernel⟩, List.mem_of_getElem? (i := 1208) (by decide +kernel), List.mem_of_getElem? (i := 1466) (by decide +kernel), List.mem_of_getElem? (i := 1467) (by decide +kernel)⟩
def lw_privs_3 : List (MethodName × Nat) := [(⟨"ShadowSchoolModel", "isShadow", "(I)Z"⟩, 42), (⟨"ShadowSchoolModel", "of", "(II)I"⟩, 42), (⟨"ShadowSchoolModel", "emptySeats", "()V"⟩, 42), (⟨"ShadowSchoolModel", "choiceOf", "(I)I"⟩, 42), (⟨"ShadowSchoolModel", "ruleFor", "(I)I"⟩, 42), (⟨"ShadowSchoolModel", "holds", "(II)Z"⟩, 42), (⟨"ShadowSchoolModel", "factOf", "(II)I"⟩, 42), (⟨"ShadowSchoolModel", "isOpen", "(II)Z"⟩, 42), (⟨"ShadowSchoolModel", "lessonNumber", "(II)I"⟩, 42), (⟨"ShadowSchoolModel", "hasLearnt", "(II)Z"⟩, 42), (⟨"ShadowSchoolModel", "lacks", "(II)I"⟩, 42), (⟨"ShadowSchoolModel", "pointsOf", "(II)I"⟩, 42), (⟨"ShadowSchoolModel", "becomes", "(II)I"⟩, 42), (⟨"ShadowSchoolModel", "isLesson", "(I)Z"⟩, 42), (⟨"ShadowSchoolModel", "learntBy", "(I)I"⟩, 42), (⟨"ShadowSchoolModel", "isOver", "()Z"⟩, 42)]
theorem lw_r3 : ∀ q ∈ lw_privs_3, lw_okq q := List.forall_mem_cons.mpr ⟨lw_p32, List.forall_mem_cons.mpr ⟨lw_p33, List.forall_mem_cons.mpr ⟨lw_p34, List.forall_mem_cons.mpr ⟨lw_p35, List.forall_mem_cons.mpr ⟨lw_p36, List.forall_mem_cons.mpr ⟨lw_p37, List.forall_mem_cons.mpr ⟨lw_p38, List.forall_mem_cons.mpr ⟨lw_p39, List.forall_mem_cons.mpr ⟨lw_p40, List.forall_mem_cons.mpr ⟨lw_p41, List.forall_mem_cons.mpr ⟨lw_p42, List.forall_mem_cons.mpr ⟨lw_p43, List.forall_mem_cons.mpr ⟨lw_p44, List.forall_mem_cons.mpr ⟨lw_p45, List.forall_mem_cons.mpr ⟨lw_p46, List.forall_mem_cons.mpr ⟨lw_p47, fun _ h => absurd h List.not_mem_nil⟩⟩⟩⟩⟩⟩⟩⟩⟩⟩⟩⟩⟩⟩⟩⟩
theorem lw_p48 : lw_okq (⟨"ShadowSchoolModel", "advance", "()V"⟩, 42) := ⟨⟨by decide +kernel, by decide +kernel⟩, List.mem_of_getElem? (i := 1208) (by decide +kernel), List.mem_of_getElem? (i := 1479) (by decide +kernel), List.mem_of_getElem? (i := 1480) (by decide +kernel)⟩
theorem lw_p49 : lw_okq (⟨"ShadowSchoolModel", "byteAt", "(I)I"⟩, 42) := ⟨⟨by decide +kernel, by decide +kernel⟩, List.mem_of_getElem? (i := 1208) (by decide +kernel), List.mem_of_getElem? (i := 1483) (by decide +kernel), List.mem_of_getElem? (i := 1484) (by decide +kernel)⟩
theorem lw_p50 : lw_okq (⟨"ShadowSchoolModel", "readRule", "(I)V"⟩, 42) := ⟨⟨by decide +kernel, by decide +kernel⟩, List.mem_of_getElem? (i := 1208) (by decide +kernel), List.mem_of_getElem? (i := 1496) (by decide +kernel), List.mem_of_getElem? (i := 1497) (by decide +kernel)⟩
theorem lw_p51 : lw_okq (⟨"ShadowSchoolModel", "kindSeen", "()I"⟩, 42) := ⟨⟨by decide +kernel, by decide +kernel⟩, List.mem_of_getElem? (i := 1208) (by decide +kernel), List.mem_of_getElem? (i := 1500) (by decide +kernel), List.mem_of_getElem? (i := 1501) (by decide +kernel)⟩
theorem lw_p52 : lw_okq (⟨"ShadowSchoolModel", "isWord", "(J)Z"⟩, 42) := ⟨⟨by decide +kernel, by decide +kernel⟩, List.mem_of_getElem? (i := 1208) (by decide +kernel), List.mem_of_getElem? (i := 1505) (by decide +kernel), List.mem_of_getElem? (i := 1506) (by decide +kernel)⟩
theorem lw_p53 : lw_okq (⟨"ShadowSchoolModel", "readCondition", "()V"⟩, 42) := ⟨⟨by decide +kernel, by decide +kernel⟩, List.mem_of_getElem? (i := 1208) (by decide +kernel), List.mem_of_getElem? (i := 1515) (by decide +kernel), List.mem_of_getElem? (i := 1516) (by decide +kernel)⟩
theorem lw_p54 : lw_okq (⟨"ShadowSchoolModel", "readAll", "()V"⟩, 42) := ⟨⟨by decide +kernel, by decide +kernel⟩, List.mem_of_getElem? (i := 1208) (by decide +kernel), List.mem_of_getElem? (i := 1519) (by decide +kernel), List.mem_of_getElem? (i := 1520) (by decide +kernel)⟩
theorem lw_p55 : lw_okq (⟨"ShadowSchoolModel", "readOne", "()V"⟩, 42) := ⟨⟨by decide +kernel, by decide +kernel⟩, List.mem_of_getElem? (i := 1208) (by decide +kernel), List.mem_of_getElem? (i := 1523) (by decide +kernel), List.mem_of_getElem? (i := 1524) (by decide +kernel)⟩
theorem lw_p56 : lw_okq (⟨"ShadowSchoolModel", "isMark", "(I)Z"⟩, 42) := ⟨⟨by decide +kernel, by decide +kernel⟩, List.mem_of_getElem? (i := 1208) (by decide +kernel), List.mem_of_getElem? (i := 1528) (by decide +kernel), List.mem_of_getElem? (i := 1529) (by decide +kernel)⟩
theorem lw_p57 : lw_okq (⟨"ShadowSchoolModel", "readTest", "()V"⟩, 42) := ⟨⟨by decide +kernel, by decide +kernel⟩, List.mem_of_getElem? (i := 1208) (by decide +kernel), List.mem_of_getElem? (i := 1532) (by decide +kernel), List.mem_of_getElem? (i := 1533) (by decide +kernel)⟩
theorem lw_p58 : lw_okq (⟨"ShadowSchoolModel", "readValue", "()V"⟩, 42) := ⟨⟨by decide +kernel, by decide +kernel⟩, List.mem_of_getElem? (i := 1208) (by decide +kernel), List.mem_of_getElem? (i := 1536) (by decide +kernel), List.mem_of_getElem? (i := 1537) (by decide +kernel)⟩
theorem lw_p59 : lw_okq (⟨"ShadowSchoolModel", "factSeen", "()I"⟩, 42) := ⟨⟨by decide +kernel, by decide +kernel⟩, List.mem_of_getElem? (i := 1208) (by decide +kernel), List.mem_of_getElem? (i := 1540) (by decide +kernel), List.mem_of_getElem? (i := 1541) (by decide +kernel)⟩
theorem lw_p60 : lw_okq (⟨"ShadowSchoolModel", "step", "(II)V"⟩, 42) := ⟨⟨by decide +kernel, by decide +kernel⟩, List.mem_of_getElem? (i := 1208) (by decide +kernel), List.mem_of_getElem? (i := 1549) (by decide +kernel), List.mem_of_getElem? (i := 1550) (by decide +kernel)⟩
theorem lw_p61 : lw_okq (⟨"ShadowSchoolModel", "goes", "(I)I"⟩, 42) := ⟨⟨by decide +kernel, by decide +kernel⟩, List.mem_of_getElem? (i := 1208) (by decide +kernel), List.mem_of_getElem? (i := 1562) (by decide +kernel), List.mem_of_getElem? (i := 1563) (by decide +kernel)⟩
theorem lw_p62 : lw_okq (⟨"ShadowSchoolModel", "sits", "(II)I"⟩, 42) := ⟨⟨by decide +kernel, by decide +kernel⟩, List.mem_of_getElem? (i := 1208) (by decide +kernel), List.mem_of_getElem? (i := 1566) (by decide +kernel), List.mem_of_getElem? (i := 1567) (by decide +kernel)⟩
theorem lw_p63 : lw_okq (⟨"ShadowSchoolModel", "restWorth", "(I)I"⟩, 42) := ⟨⟨by decide +kernel, by decide +kernel⟩, List.mem_of_getElem? (i := 1208) (by decide +kernel), List.mem_of_getElem? (i := 1578) (by decide +kernel), List.mem_of_getElem? (i := 1579) (by decide +kernel)⟩
def lw_privs_4 : List (MethodName × Nat) := [(⟨"ShadowSchoolModel", "advance", "()V"⟩, 42), (⟨"ShadowSchoolModel", "byteAt", "(I)I"⟩, 42), (⟨"ShadowSchoolModel", "readRule", "(I)V"⟩, 42), (⟨"ShadowSchoolModel", "kindSeen", "()I"⟩, 42), (⟨"ShadowSchoolModel", "isWord", "(J)Z"⟩, 42), (⟨"ShadowSchoolModel", "readCondition", "()V"⟩, 42), (⟨"ShadowSchoolModel", "readAll", "()V"⟩, 42), (⟨"ShadowSchoolModel", "readOne", "()V"⟩, 42), (⟨"ShadowSchoolModel", "isMark", "(I)Z"⟩, 42), (⟨"ShadowSchoolModel", "readTest", "()V"⟩, 42), (⟨"ShadowSchoolModel", "readValue", "()V"⟩, 42), (⟨"ShadowSchoolModel", "factSeen", "()I"⟩, 42), (⟨"ShadowSchoolModel", "step", "(II)V"⟩, 42), (⟨"ShadowSchoolModel", "goes", "(I)I"⟩, 42), (⟨"ShadowSchoolModel", "sits", "(II)I"⟩, 42), (⟨"ShadowSchoolModel", "restWorth", "(I)I"⟩, 42)]
theorem lw_r4 : ∀ q ∈ lw_privs_4, lw_okq q := List.forall_mem_cons.mpr ⟨lw_p48, List.forall_mem_cons.mpr ⟨lw_p49, List.forall_mem_cons.mpr ⟨lw_p50, List.forall_mem_cons.mpr ⟨lw_p51, List.forall_mem_cons.mpr ⟨lw_p52, List.forall_mem_cons.mpr ⟨lw_p53, List.forall_mem_cons.mpr ⟨lw_p54, List.forall_mem_cons.mpr ⟨lw_p55, List.forall_mem_cons.mpr ⟨lw_p56, List.forall_mem_cons.mpr ⟨lw_p57, List.forall_mem_cons.mpr ⟨lw_p58, List.forall_mem_cons.mpr ⟨lw_p59, List.forall_mem_cons.mpr ⟨lw_p60, List.forall_mem_cons.mpr ⟨lw_p61, List.forall_mem_cons.mpr ⟨lw_p62, List.forall_mem_cons.mpr ⟨lw_p63, fun _ h => absurd h List.not_mem_nil⟩⟩⟩⟩⟩⟩⟩⟩⟩⟩⟩⟩⟩⟩⟩⟩
theorem lw_p64 : lw_okq (⟨"ShadowSchoolModel", "save", "(I)V"⟩, 42) := ⟨⟨by decide +kernel, by decide +kernel⟩, List.mem_of_getElem? (i := 1208) (by decide +kernel), List.mem_of_getElem? (i := 1582) (by decide +kernel), List.mem_of_getElem? (i := 1583) (by decide +kernel)⟩
theorem lw_p65 : lw_okq (⟨"ShadowSchoolModel", "rest", "(I)I"⟩, 42) := ⟨⟨by decide +kernel, by decide +kernel⟩, List.mem_of_getElem? (i := 1208) (by decide +kernel), List.mem_of_getElem? (i := 1586) (by decide +kernel), List.mem_of_getElem? (i := 1587) (by decide +kernel)⟩
theorem lw_p66 : lw_okq (⟨"ShadowSchoolModel", "load", "(I)V"⟩, 42) := ⟨⟨by decide +kernel, by decide +kernel⟩, List.mem_of_getElem? (i := 1208) (by decide +kernel), List.mem_of_getElem? (i := 1590) (by decide +kernel), List.mem_of_getElem? (i := 1591) (by decide +kernel)⟩
theorem lw_p67 : lw_okq (⟨"ShadowSchoolModel", "allLessons", "()I"⟩, 42) := ⟨⟨by decide +kernel, by decide +kernel⟩, List.mem_of_getElem? (i := 1208) (by decide +kernel), List.mem_of_getElem? (i := 1602) (by decide +kernel), List.mem_of_getElem? (i := 1603) (by decide +kernel)⟩
theorem lw_p68 : lw_okq (⟨"ShadowSchoolModel", "dearest", "(II)I"⟩, 42) := ⟨⟨by decide +kernel, by decide +kernel⟩, List.mem_of_getElem? (i := 1208) (by decide +kernel), List.mem_of_getElem? (i := 1614) (by decide +kernel), List.mem_of_getElem? (i := 1615) (by decide +kernel)⟩
theorem lw_p69 : lw_okq (⟨"ShadowSchoolModel", "isFirstSeating", "(I)Z"⟩, 42) := ⟨⟨by decide +kernel, by decide +kernel⟩, List.mem_of_getElem? (i := 1208) (by decide +kernel), List.mem_of_getElem? (i := 1639) (by decide +kernel), List.mem_of_getElem? (i := 1640) (by decide +kernel)⟩
theorem lw_p70 : lw_okq (⟨"ShadowSchoolModel", "allInFirst", "()V"⟩, 42) := ⟨⟨by decide +kernel, by decide +kernel⟩, List.mem_of_getElem? (i := 1208) (by decide +kernel), List.mem_of_getElem? (i := 1643) (by decide +kernel), List.mem_of_getElem? (i := 1644) (by decide +kernel)⟩
theorem lw_p71 : lw_okq (⟨"ShadowSchoolModel", "isSeating", "()Z"⟩, 42) := ⟨⟨by decide +kernel, by decide +kernel⟩, List.mem_of_getElem? (i := 1208) (by decide +kernel), List.mem_of_getElem? (i := 1647) (by decide +kernel), List.mem_of_getElem? (i := 1648) (by decide +kernel)⟩
theorem lw_p72 : lw_okq (⟨"ShadowSchoolModel", "isNextWay", "(I)Z"⟩, 42) := ⟨⟨by decide +kernel, by decide +kernel⟩, List.mem_of_getElem? (i := 1208) (by decide +kernel), List.mem_of_getElem? (i := 1651) (by decide +kernel), List.mem_of_getElem? (i := 1652) (by decide +kernel)⟩
theorem lw_p73 : lw_okq (⟨"ShadowSchoolModel", "lacksSort", "(II)I"⟩, 42) := ⟨⟨by decide +kernel, by decide +kernel⟩, List.mem_of_getElem? (i := 1208) (by decide +kernel), List.mem_of_getElem? (i := 1671) (by decide +kernel), List.mem_of_getElem? (i := 1672) (by decide +kernel)⟩
theorem lw_p74 : lw_okq (⟨"ShadowSchoolModel", "planHours", "(I)I"⟩, 42) := ⟨⟨by decide +kernel, by decide +kernel⟩, List.mem_of_getElem? (i := 1208) (by decide +kernel), List.mem_of_getElem? (i := 1679) (by decide +kernel), List.mem_of_getElem? (i := 1680) (by decide +kernel)⟩
theorem lw_p75 : lw_okq (⟨"ShadowSchoolModel", "findBest", "(I)V"⟩, 42) := ⟨⟨by decide +kernel, by decide +kernel⟩, List.mem_of_getElem? (i := 1208) (by decide +kernel), List.mem_of_getElem? (i := 1683) (by decide +kernel), List.mem_of_getElem? (i := 1684) (by decide +kernel)⟩
theorem lw_p76 : lw_okq (⟨"ShadowSchoolModel", "plans", "(I)I"⟩, 42) := ⟨⟨by decide +kernel, by decide +kernel⟩, List.mem_of_getElem? (i := 1208) (by decide +kernel), List.mem_of_getElem? (i := 1687) (by decide +kernel), List.mem_of_getElem? (i := 1688) (by decide +kernel)⟩
theorem lw_p77 : lw_okq (⟨"ShadowSchoolModel", "plays", "(II)I"⟩, 42) := ⟨⟨by decide +kernel, by decide +kernel⟩, List.mem_of_getElem? (i := 1208) (by decide +kernel), List.mem_of_getElem? (i := 1691) (by decide +kernel), List.mem_of_getElem? (i := 1692) (by decide +kernel)⟩
theorem lw_p78 : lw_okq (⟨"ShadowSchoolModel", "actIn", "(III)I"⟩, 42) := ⟨⟨by decide +kernel, by decide +kernel⟩, List.mem_of_getElem? (i := 1208) (by decide +kernel), List.mem_of_getElem? (i := 1695) (by decide +kernel), List.mem_of_getElem? (i := 1696) (by decide +kernel)⟩
theorem lw_p79 : lw_okq (⟨"ShadowSchoolModel", "findTaught", "(II)V"⟩, 42) := ⟨⟨by decide +kernel, by decide +kernel⟩, List.mem_of_getElem? (i := 1208) (by decide +kernel), List.mem_of_getElem? (i := 1711) (by decide +kernel), List.mem_of_getElem? (i := 1712) (by decide +kernel)⟩
def lw_privs_5 : List (MethodName × Nat) := [(⟨"ShadowSchoolModel", "save", "(I)V"⟩, 42), (⟨"ShadowSchoolModel", "rest", "(I)I"⟩, 42), (⟨"ShadowSchoolModel", "load", "(I)V"⟩, 42), (⟨"ShadowSchoolModel", "allLessons", "()I"⟩, 42), (⟨"ShadowSchoolModel", "dearest", "(II)I"⟩, 42), (⟨"ShadowSchoolModel", "isFirstSeating", "(I)Z"⟩, 42), (⟨"ShadowSchoolModel", "allInFirst", "()V"⟩, 42), (⟨"ShadowSchoolModel", "isSeating", "()Z"⟩, 42), (⟨"ShadowSchoolModel", "isNextWay", "(I)Z"⟩, 42), (⟨"ShadowSchoolModel", "lacksSort", "(II)I"⟩, 42), (⟨"ShadowSchoolModel", "planHours", "(I)I"⟩, 42), (⟨"ShadowSchoolModel", "findBest", "(I)V"⟩, 42), (⟨"ShadowSchoolModel", "plans", "(I)I"⟩, 42), (⟨"ShadowSchoolModel", "plays", "(II)I"⟩, 42), (⟨"ShadowSchoolModel", "actIn", "(III)I"⟩, 42), (⟨"ShadowSchoolModel", "findTaught", "(II)V"⟩, 42)]
theorem lw_r5 : ∀ q ∈ lw_privs_5, lw_okq q := List.forall_mem_cons.mpr ⟨lw_p64, List.forall_mem_cons.mpr ⟨lw_p65, List.forall_mem_cons.mpr ⟨lw_p66, List.forall_mem_cons.mpr ⟨lw_p67, List.forall_mem_cons.mpr ⟨lw_p68, List.forall_mem_cons.mpr ⟨lw_p69, List.forall_mem_cons.mpr ⟨lw_p70, List.forall_mem_cons.mpr ⟨lw_p71, List.forall_mem_cons.mpr ⟨lw_p72, List.forall_mem_cons.mpr ⟨lw_p73, List.forall_mem_cons.mpr ⟨lw_p74, List.forall_mem_cons.mpr ⟨lw_p75, List.forall_mem_cons.mpr ⟨lw_p76, List.forall_mem_cons.mpr ⟨lw_p77, List.forall_mem_cons.mpr ⟨lw_p78, List.forall_mem_cons.mpr ⟨lw_p79, fun _ h => absurd h List.not_mem_nil⟩⟩⟩⟩⟩⟩⟩⟩⟩⟩⟩⟩⟩⟩⟩⟩
theorem lw_p80 : lw_okq (⟨"ShadowSchoolModel", "someLearnt", "()I"⟩, 42) := ⟨⟨by decide +kernel, by decide +kernel⟩, List.mem_of_getElem? (i := 1208) (by decide +kernel), List.mem_of_getElem? (i := 1715) (by decide +kernel), List.mem_of_getElem? (i := 1716) (by decide +kernel)⟩
theorem lw_p81 : lw_okq (⟨"ShadowSchoolModel", "actsOf", "(II)I"⟩, 42) := ⟨⟨by decide +kernel, by decide +kernel⟩, List.mem_of_getElem? (i := 1208) (by decide +kernel), List.mem_of_getElem? (i := 1719) (by decide +kernel), List.mem_of_getElem? (i := 1720) (by decide +kernel)⟩
theorem lw_p82 : lw_okq (⟨"ShadowSchoolModel", "valueOf", "(IIZ)I"⟩, 42) := ⟨⟨by decide +kernel, by decide +kernel⟩, List.mem_of_getElem? (i := 1208) (by decide +kernel), List.mem_of_getElem? (i := 1731) (by decide +kernel), List.mem_of_getElem? (i := 1732) (by decide +kernel)⟩
theorem lw_p83 : lw_okq (⟨"ShadowSchoolModel", "fits", "(II)Z"⟩, 42) := ⟨⟨by decide +kernel, by decide +kernel⟩, List.mem_of_getElem? (i := 1208) (by decide +kernel), List.mem_of_getElem? (i := 1751) (by decide +kernel), List.mem_of_getElem? (i := 1752) (by decide +kernel)⟩
theorem lw_p84 : lw_okq (⟨"ShadowSchoolModel", "firstMoment", "(I)I"⟩, 42) := ⟨⟨by decide +kernel, by decide +kernel⟩, List.mem_of_getElem? (i := 1208) (by decide +kernel), List.mem_of_getElem? (i := 1755) (by decide +kernel), List.mem_of_getElem? (i := 1756) (by decide +kernel)⟩
theorem lw_p85 : lw_okq (⟨"ShadowSchoolModel", "lotGoes", "()I"⟩, 42) := ⟨⟨by decide +kernel, by decide +kernel⟩, List.mem_of_getElem? (i := 1208) (by decide +kernel), List.mem_of_getElem? (i := 1771) (by decide +kernel), List.mem_of_getElem? (i := 1772) (by decide +kernel)⟩
theorem lw_p86 : lw_okq (⟨"ShadowSchoolModel", "isCell", "(II)Z"⟩, 42) := ⟨⟨by decide +kernel, by decide +kernel⟩, List.mem_of_getElem? (i := 1208) (by decide +kernel), List.mem_of_getElem? (i := 1788) (by decide +kernel), List.mem_of_getElem? (i := 1789) (by decide +kernel)⟩
theorem lw_p87 : lw_okq (⟨"ShadowSchoolModel", "isRight", "(I)Z"⟩, 42) := ⟨⟨by decide +kernel, by decide +kernel⟩, List.mem_of_getElem? (i := 1208) (by decide +kernel), List.mem_of_getElem? (i := 1800) (by decide +kernel), List.mem_of_getElem? (i := 1801) (by decide +kernel)⟩
theorem lw_p88 : lw_okq (⟨"ShadowSchoolModel", "wouldGo", "(III)I"⟩, 42) := ⟨⟨by decide +kernel, by decide +kernel⟩, List.mem_of_getElem? (i := 1208) (by decide +kernel), List.mem_of_getElem? (i := 1827) (by decide +kernel), List.mem_of_getElem? (i := 1828) (by decide +kernel)⟩
theorem lw_p89 : lw_okq (⟨"ShadowSchoolModel", "isHeld", "(II)Z"⟩, 42) := ⟨⟨by decide +kernel, by decide +kernel⟩, List.mem_of_getElem? (i := 1208) (by decide +kernel), List.mem_of_getElem? (i := 1835) (by decide +kernel), List.mem_of_getElem? (i := 1836) (by decide +kernel)⟩
theorem lw_p90 : lw_okq (⟨"ShadowSchoolModel", "kindOn", "(I)I"⟩, 42) := ⟨⟨by decide +kernel, by decide +kernel⟩, List.mem_of_getElem? (i := 1208) (by decide +kernel), List.mem_of_getElem? (i := 1843) (by decide +kernel), List.mem_of_getElem? (i := 1844) (by decide +kernel)⟩
theorem lw_p91 : lw_okq (⟨"ShadowSchoolModel", "lies", "(I)I"⟩, 42) := ⟨⟨by decide +kernel, by decide +kernel⟩, List.mem_of_getElem? (i := 1208) (by decide +kernel), List.mem_of_getElem? (i := 1851) (by decide +kernel), List.mem_of_getElem? (i := 1852) (by decide +kernel)⟩
theorem lw_p92 : lw_okq (⟨"ShadowSchoolModel", "ran", "(I)V"⟩, 42) := ⟨⟨by decide +kernel, by decide +kernel⟩, List.mem_of_getElem? (i := 1208) (by decide +kernel), List.mem_of_getElem? (i := 1855) (by decide +kernel), List.mem_of_getElem? (i := 1856) (by decide +kernel)⟩
theorem lw_p93 : lw_okq (⟨"ShadowSchoolModel", "plainLies", "(I)I"⟩, 42) := ⟨⟨by decide +kernel, by decide +kernel⟩, List.mem_of_getElem? (i := 1208) (by decide +kernel), List.mem_of_getElem? (i := 1859) (by decide +kernel), List.mem_of_getElem? (i := 1860) (by decide +kernel)⟩
theorem lw_p94 : lw_okq (⟨"ShadowSchoolModel", "turns", "(I)I"⟩, 42) := ⟨⟨by decide +kernel, by decide +kernel⟩, List.mem_of_getElem? (i := 1208) (by decide +kernel), List.mem_of_getElem? (i := 1863) (by decide +kernel), List.mem_of_getElem? (i := 1864) (by decide +kernel)⟩
theorem lw_p95 : lw_okq (⟨"ShadowSchoolModel", "plainTurns", "(I)I"⟩, 42) := ⟨⟨by decide +kernel, by decide +kernel⟩, List.mem_of_getElem? (i := 1208) (by decide +kernel), List.mem_of_getElem? (i := 1867) (by decide +kernel), List.mem_of_getElem? (i := 1868) (by decide +kernel)⟩
def lw_privs_6 : List (MethodName × Nat) := [(⟨"ShadowSchoolModel", "someLearnt", "()I"⟩, 42), (⟨"ShadowSchoolModel", "actsOf", "(II)I"⟩, 42), (⟨"ShadowSchoolModel", "valueOf", "(IIZ)I"⟩, 42), (⟨"ShadowSchoolModel", "fits", "(II)Z"⟩, 42), (⟨"ShadowSchoolModel", "firstMoment", "(I)I"⟩, 42), (⟨"ShadowSchoolModel", "lotGoes", "()I"⟩, 42), (⟨"ShadowSchoolModel", "isCell", "(II)Z"⟩, 42), (⟨"ShadowSchoolModel", "isRight", "(I)Z"⟩, 42), (⟨"ShadowSchoolModel", "wouldGo", "(III)I"⟩, 42), (⟨"ShadowSchoolModel", "isHeld", "(II)Z"⟩, 42), (⟨"ShadowSchoolModel", "kindOn", "(I)I"⟩, 42), (⟨"ShadowSchoolModel", "lies", "(I)I"⟩, 42), (⟨"ShadowSchoolModel", "ran", "(I)V"⟩, 42), (⟨"ShadowSchoolModel", "plainLies", "(I)I"⟩, 42), (⟨"ShadowSchoolModel", "turns", "(I)I"⟩, 42), (⟨"ShadowSchoolModel", "plainTurns", "(I)I"⟩, 42)]
theorem lw_r6 : ∀ q ∈ lw_privs_6, lw_okq q := List.forall_mem_cons.mpr ⟨lw_p80, List.forall_mem_cons.mpr ⟨lw_p81, List.forall_mem_cons.mpr ⟨lw_p82, List.forall_mem_cons.mpr ⟨lw_p83, List.forall_mem_cons.mpr ⟨lw_p84, List.forall_mem_cons.mpr ⟨lw_p85, List.forall_mem_cons.mpr ⟨lw_p86, List.forall_mem_cons.mpr ⟨lw_p87, List.forall_mem_cons.mpr ⟨lw_p88, List.forall_mem_cons.mpr ⟨lw_p89, List.forall_mem_cons.mpr ⟨lw_p90, List.forall_mem_cons.mpr ⟨lw_p91, List.forall_mem_cons.mpr ⟨lw_p92, List.forall_mem_cons.mpr ⟨lw_p93, List.forall_mem_cons.mpr ⟨lw_p94, List.forall_mem_cons.mpr ⟨lw_p95, fun _ h => absurd h List.not_mem_nil⟩⟩⟩⟩⟩⟩⟩⟩⟩⟩⟩⟩⟩⟩⟩⟩
theorem lw_p96 : lw_okq (⟨"ShadowSchoolModel", "folds", "(I)I"⟩, 42) := ⟨⟨by decide +kernel, by decide +kernel⟩, List.mem_of_getElem? (i := 1208) (by decide +kernel), List.mem_of_getElem? (i := 1871) (by decide +kernel), List.mem_of_getElem? (i := 1872) (by decide +kernel)⟩
theorem lw_p97 : lw_okq (⟨"ShadowSchoolModel", "slowFolds", "(I)I"⟩, 42) := ⟨⟨by decide +kernel, by decide +kernel⟩, List.mem_of_getElem? (i := 1208) (by decide +kernel), List.mem_of_getElem? (i := 1875) (by decide +kernel), List.mem_of_getElem? (i := 1876) (by decide +kernel)⟩
theorem lw_p98 : lw_okq (⟨"ShadowSchoolModel", "plainFolds", "(I)I"⟩, 42) := ⟨⟨by decide +kernel, by decide +kernel⟩, List.mem_of_getElem? (i := 1208) (by decide +kernel), List.mem_of_getElem? (i := 1879) (by decide +kernel), List.mem_of_getElem? (i := 1880) (by decide +kernel)⟩
theorem lw_p99 : lw_okq (⟨"ShadowSchoolModel", "asks", "(I)I"⟩, 42) := ⟨⟨by decide +kernel, by decide +kernel⟩, List.mem_of_getElem? (i := 1208) (by decide +kernel), List.mem_of_getElem? (i := 1883) (by decide +kernel), List.mem_of_getElem? (i := 1884) (by decide +kernel)⟩
theorem lw_p100 : lw_okq (⟨"ShadowSchoolModel", "plainAsks", "(I)I"⟩, 42) := ⟨⟨by decide +kernel, by decide +kernel⟩, List.mem_of_getElem? (i := 1208) (by decide +kernel), List.mem_of_getElem? (i := 1887) (by decide +kernel), List.mem_of_getElem? (i := 1888) (by decide +kernel)⟩
theorem lw_p101 : lw_okq (⟨"ShadowSchoolModel", "pairsThatQuarrel", "()I"⟩, 42) := ⟨⟨by decide +kernel, by decide +kernel⟩, List.mem_of_getElem? (i := 1208) (by decide +kernel), List.mem_of_getElem? (i := 1899) (by decide +kernel), List.mem_of_getElem? (i := 1900) (by decide +kernel)⟩
def lw_privs_7 : List (MethodName × Nat) := [(⟨"ShadowSchoolModel", "folds", "(I)I"⟩, 42), (⟨"ShadowSchoolModel", "slowFolds", "(I)I"⟩, 42), (⟨"ShadowSchoolModel", "plainFolds", "(I)I"⟩, 42), (⟨"ShadowSchoolModel", "asks", "(I)I"⟩, 42), (⟨"ShadowSchoolModel", "plainAsks", "(I)I"⟩, 42), (⟨"ShadowSchoolModel", "pairsThatQuarrel", "()I"⟩, 42)]
theorem lw_r7 : ∀ q ∈ lw_privs_7, lw_okq q := List.forall_mem_cons.mpr ⟨lw_p96, List.forall_mem_cons.mpr ⟨lw_p97, List.forall_mem_cons.mpr ⟨lw_p98, List.forall_mem_cons.mpr ⟨lw_p99, List.forall_mem_cons.mpr ⟨lw_p100, List.forall_mem_cons.mpr ⟨lw_p101, fun _ h => absurd h List.not_mem_nil⟩⟩⟩⟩⟩⟩
def lw_privs : List (MethodName × Nat) := lw_privs_1 ++ (lw_privs_2 ++ (lw_privs_3 ++ (lw_privs_4 ++ (lw_privs_5 ++ (lw_privs_6 ++ (lw_privs_7))))))
def lw_tbl : List Cond := k2_sels lw_privs ++ tables_1
theorem lw_privs_ok : ∀ q ∈ lw_privs, lw_okq q := by
  show ∀ q ∈ lw_privs_1 ++ (lw_privs_2 ++ (lw_privs_3 ++ (lw_privs_4 ++ (lw_privs_5 ++ (lw_privs_6 ++ (lw_privs_7)))))), lw_okq q
  exact List.forall_mem_append.mpr ⟨lw_r1, List.forall_mem_append.mpr ⟨lw_r2, List.forall_mem_append.mpr ⟨lw_r3, List.forall_mem_append.mpr ⟨lw_r4, List.forall_mem_append.mpr ⟨lw_r5, List.forall_mem_append.mpr ⟨lw_r6, lw_r7⟩⟩⟩⟩⟩⟩
end
section
def RX0 : String := "ShadowSchool$Borrowed"
def TX0 : u_T := fun k => match k with
  | _ => ("", "", "", false)
def tyX0 : Nat → FieldType := fun k => match k with
  | _ => .int
theorem nmX0 : ∀ a, a < 0 → ∀ b, b < 0 → a ≠ b → (TX0 a).2.1 ≠ (TX0 b).2.1 := by decide +kernel
theorem tyX0_ok : ∀ k, k < 0 → parseFieldDescriptor (TX0 k).2.2.1 = some (tyX0 k) := by decide +kernel
abbrev cX0_init : ByteArray := prog_2_method_1_code
def yX0_init : MethodName := ⟨RX0, "<init>", "()V"⟩
abbrev cX0_paceIn : ByteArray := prog_2_method_2_code
def yX0_paceIn : MethodName := ⟨RX0, "paceIn", "(II)I"⟩
abbrev cX0_lengthIn : ByteArray := prog_2_method_3_code
def yX0_lengthIn : MethodName := ⟨RX0, "lengthIn", "(II)I"⟩
abbrev cX0_turns : ByteArray := prog_2_method_4_code
def yX0_turns : MethodName := ⟨RX0, "turns", "(LShadowSchool$Host;I)I"⟩
abbrev cX0_folds : ByteArray := prog_2_method_5_code
def yX0_folds : MethodName := ⟨RX0, "folds", "(LShadowSchool$Host;I)I"⟩
def RX1 : String := "ShadowSchool$Coloured"
def TX1 : u_T := fun k => match k with
  | _ => ("", "", "", false)
def tyX1 : Nat → FieldType := fun k => match k with
  | _ => .int
theorem nmX1 : ∀ a, a < 0 → ∀ b, b < 0 → a ≠ b → (TX1 a).2.1 ≠ (TX1 b).2.1 := by decide +kernel
theorem tyX1_ok : ∀ k, k < 0 → parseFieldDescriptor (TX1 k).2.2.1 = some (tyX1 k) := by decide +kernel
abbrev cX1_init : ByteArray := prog_3_method_1_code
def yX1_init : MethodName := ⟨RX1, "<init>", "()V"⟩
abbrev cX1_paceIn : ByteArray := prog_3_method_2_code
def yX1_paceIn : MethodName := ⟨RX1, "paceIn", "(II)I"⟩
abbrev cX1_lengthIn : ByteArray := prog_3_method_3_code
def yX1_lengthIn : MethodName := ⟨RX1, "lengthIn", "(II)I"⟩
abbrev cX1_lies : ByteArray := prog_3_method_4_code
def yX1_lies : MethodName := ⟨RX1, "lies", "(LShadowSchool$Host;I)I"⟩
abbrev cX1_asks : ByteArray := prog_3_method_5_code
def yX1_asks : MethodName := ⟨RX1, "asks", "(LShadowSchool$Host;I)I"⟩
def RX2 : String := "ShadowSchool$Gifted"
def TX2 : u_T := fun k => match k with
  | _ => ("", "", "", false)
def tyX2 : Nat → FieldType := fun k => match k with
  | _ => .int
theorem nmX2 : ∀ a, a < 0 → ∀ b, b < 0 → a ≠ b → (TX2 a).2.1 ≠ (TX2 b).2.1 := by decide +kernel
theorem tyX2_ok : ∀ k, k < 0 → parseFieldDescriptor (TX2 k).2.2.1 = some (tyX2 k) := by decide +kernel
abbrev cX2_init : ByteArray := prog_4_method_1_code
def yX2_init : MethodName := ⟨RX2, "<init>", "()V"⟩
abbrev cX2_paceIn : ByteArray := prog_4_method_2_code
def yX2_paceIn : MethodName := ⟨RX2, "paceIn", "(II)I"⟩
abbrev cX2_turns : ByteArray := prog_4_method_3_code
def yX2_turns : MethodName := ⟨RX2, "turns", "(LShadowSchool$Host;I)I"⟩
def RX3 : String := "ShadowSchool$Host"
def TX3 : u_T := fun k => match k with
  | 0 => ("ShadowSchool$Host", "sorts", "[I", true)
  | 1 => ("ShadowSchool$Host", "sizes", "[I", true)
  | 2 => ("ShadowSchool$Host", "items", "[[I", true)
  | 3 => ("ShadowSchool$Host", "holds", "[I", true)
  | 4 => ("ShadowSchool$Host", "numbers", "[I", true)
  | 5 => ("ShadowSchool$Host", "rowSorts", "[I", true)
  | 6 => ("ShadowSchool$Host", "bodies", "[I", true)
  | 7 => ("ShadowSchool$Host", "bodyCount", "I", false)
  | 8 => ("ShadowSchool$Host", "isParted", "Z", false)
  | 9 => ("ShadowSchool$Host", "number", "I", false)
  | _ => ("ShadowSchool$Host", "quick", "I", false)
def tyX3 : Nat → FieldType := fun k => match k with
  | 0 => .array .int
  | 1 => .array .int
  | 2 => .array (.array .int)
  | 3 => .array .int
  | 4 => .array .int
  | 5 => .array .int
  | 6 => .array .int
  | 7 => .int
  | 8 => .boolean
  | 9 => .int
  | _ => .int
theorem nmX3 : ∀ a, a < 11 → ∀ b, b < 11 → a ≠ b → (TX3 a).2.1 ≠ (TX3 b).2.1 := by decide +kernel
theorem tyX3_ok : ∀ k, k < 11 → parseFieldDescriptor (TX3 k).2.2.1 = some (tyX3 k) := by decide +kernel
abbrev cX3_init : ByteArray := prog_5_method_1_code
def yX3_init : MethodName := ⟨RX3, "<init>", "()V"⟩
abbrev cX3_isSheet : ByteArray := prog_5_method_2_code
def yX3_isSheet : MethodName := ⟨RX3, "isSheet", "(I)Z"⟩
abbrev cX3_isShelf : ByteArray := prog_5_method_3_code
def yX3_isShelf : MethodName := ⟨RX3, "isShelf", "(I)Z"⟩
abbrev cX3_hasItem : ByteArray := prog_5_method_4_code
def yX3_hasItem : MethodName := ⟨RX3, "hasItem", "(II)Z"⟩
abbrev cX3_hasItems : ByteArray := prog_5_method_5_code
def yX3_hasItems : MethodName := ⟨RX3, "hasItems", "(III)Z"⟩
abbrev cX3_refusalAs : ByteArray := prog_5_method_6_code
def yX3_refusalAs : MethodName := ⟨RX3, "refusalAs", "(II)I"⟩
abbrev cX3_makeRow : ByteArray := prog_5_method_7_code
def yX3_makeRow : MethodName := ⟨RX3, "makeRow", "(III)V"⟩
abbrev cX3_itemAt : ByteArray := prog_5_method_8_code
def yX3_itemAt : MethodName := ⟨RX3, "itemAt", "(II)I"⟩
abbrev cX3_putItem : ByteArray := prog_5_method_9_code
def yX3_putItem : MethodName := ⟨RX3, "putItem", "(III)V"⟩
abbrev cX3_put : ByteArray := prog_5_method_10_code
def yX3_put : MethodName := ⟨RX3, "put", "(III)V"⟩
abbrev cX3_shadowOn : ByteArray := prog_5_method_11_code
def yX3_shadowOn : MethodName := ⟨RX3, "shadowOn", "(I)I"⟩
abbrev cX3_clearTrace : ByteArray := prog_5_method_12_code
def yX3_clearTrace : MethodName := ⟨RX3, "clearTrace", "()V"⟩
abbrev cX3_perform : ByteArray := prog_5_method_13_code
def yX3_perform : MethodName := ⟨RX3, "perform", "(LShadowSchool$Shade;IIII)I"⟩
abbrev cX3_actOf : ByteArray := prog_5_method_14_code
def yX3_actOf : MethodName := ⟨RX3, "actOf", "(LShadowSchool$Shade;II)I"⟩
abbrev cX3_begins : ByteArray := prog_5_method_15_code
def yX3_begins : MethodName := ⟨RX3, "begins", "(I)V"⟩
abbrev cX3_part : ByteArray := prog_5_method_16_code
def yX3_part : MethodName := ⟨RX3, "part", "(II)I"⟩
def RX4 : String := "ShadowSchool$Joined"
def TX4 : u_T := fun k => match k with
  | _ => ("", "", "", false)
def tyX4 : Nat → FieldType := fun k => match k with
  | _ => .int
theorem nmX4 : ∀ a, a < 0 → ∀ b, b < 0 → a ≠ b → (TX4 a).2.1 ≠ (TX4 b).2.1 := by decide +kernel
theorem tyX4_ok : ∀ k, k < 0 → parseFieldDescriptor (TX4 k).2.2.1 = some (tyX4 k) := by decide +kernel
abbrev cX4_init : ByteArray := prog_6_method_1_code
def yX4_init : MethodName := ⟨RX4, "<init>", "()V"⟩
abbrev cX4_paceIn : ByteArray := prog_6_method_2_code
def yX4_paceIn : MethodName := ⟨RX4, "paceIn", "(II)I"⟩
abbrev cX4_lies : ByteArray := prog_6_method_3_code
def yX4_lies : MethodName := ⟨RX4, "lies", "(LShadowSchool$Host;I)I"⟩
def RX5 : String := "ShadowSchool$Plans"
def TX5 : u_T := fun k => match k with
  | 0 => ("ShadowSchool$Plans", "behind", "[LShadowSchool$Progress;", true)
  | 1 => ("ShadowSchool$Plans", "acts", "[I", true)
  | 2 => ("ShadowSchool$Plans", "length", "I", false)
  | 3 => ("ShadowSchool$Plans", "top", "I", false)
  | 4 => ("ShadowSchool$Plans", "tops", "I", false)
  | 5 => ("ShadowSchool$Plans", "first", "[I", true)
  | 6 => ("ShadowSchool$Plans", "wanted", "I", false)
  | 7 => ("ShadowSchool$Plans", "fewest", "I", false)
  | 8 => ("ShadowSchool$Plans", "reached", "I", false)
  | 9 => ("ShadowSchool$Plans", "opening", "I", false)
  | 10 => ("ShadowSchool$Plans", "rowCount", "I", false)
  | _ => ("ShadowSchool$Plans", "rows", "[[I", true)
def tyX5 : Nat → FieldType := fun k => match k with
  | 0 => .array (.object "ShadowSchool$Progress")
  | 1 => .array .int
  | 2 => .int
  | 3 => .int
  | 4 => .int
  | 5 => .array .int
  | 6 => .int
  | 7 => .int
  | 8 => .int
  | 9 => .int
  | 10 => .int
  | _ => .array (.array .int)
theorem nmX5 : ∀ a, a < 12 → ∀ b, b < 12 → a ≠ b → (TX5 a).2.1 ≠ (TX5 b).2.1 := by decide +kernel
theorem tyX5_ok : ∀ k, k < 12 → parseFieldDescriptor (TX5 k).2.2.1 = some (tyX5 k) := by decide +kernel
abbrev cX5_init : ByteArray := prog_7_method_1_code
def yX5_init : MethodName := ⟨RX5, "<init>", "()V"⟩
abbrev cX5_walkAll : ByteArray := prog_7_method_2_code
def yX5_walkAll : MethodName := ⟨RX5, "walkAll", "(LShadowSchool$School;II)V"⟩
abbrev cX5_walk : ByteArray := prog_7_method_3_code
def yX5_walk : MethodName := ⟨RX5, "walk", "(LShadowSchool$School;III)V"⟩
abbrev cX5_weigh : ByteArray := prog_7_method_4_code
def yX5_weigh : MethodName := ⟨RX5, "weigh", "(III)V"⟩
abbrev cX5_valueOfGame : ByteArray := prog_7_method_5_code
def yX5_valueOfGame : MethodName := ⟨RX5, "valueOfGame", "(LShadowSchool$School;I)I"⟩
abbrev cX5_valueFrom : ByteArray := prog_7_method_6_code
def yX5_valueFrom : MethodName := ⟨RX5, "valueFrom", "(LShadowSchool$School;II)I"⟩
abbrev cX5_makeRows : ByteArray := prog_7_method_7_code
def yX5_makeRows : MethodName := ⟨RX5, "makeRows", "(LShadowSchool$School;)I"⟩
abbrev cX5_hasRowPart : ByteArray := prog_7_method_8_code
def yX5_hasRowPart : MethodName := ⟨RX5, "hasRowPart", "(II)Z"⟩
abbrev cX5_firstWrongRow : ByteArray := prog_7_method_9_code
def yX5_firstWrongRow : MethodName := ⟨RX5, "firstWrongRow", "(LShadowSchool$School;)I"⟩
def RX6 : String := "ShadowSchool$Progress"
def TX6 : u_T := fun k => match k with
  | 0 => ("ShadowSchool$Progress", "hour", "I", false)
  | 1 => ("ShadowSchool$Progress", "score", "I", false)
  | 2 => ("ShadowSchool$Progress", "points", "[I", true)
  | 3 => ("ShadowSchool$Progress", "learnt", "[I", true)
  | _ => ("ShadowSchool$Progress", "sat", "[I", true)
def tyX6 : Nat → FieldType := fun k => match k with
  | 0 => .int
  | 1 => .int
  | 2 => .array .int
  | 3 => .array .int
  | _ => .array .int
theorem nmX6 : ∀ a, a < 5 → ∀ b, b < 5 → a ≠ b → (TX6 a).2.1 ≠ (TX6 b).2.1 := by decide +kernel
theorem tyX6_ok : ∀ k, k < 5 → parseFieldDescriptor (TX6 k).2.2.1 = some (tyX6 k) := by decide +kernel
abbrev cX6_init : ByteArray := prog_8_method_1_code
def yX6_init : MethodName := ⟨RX6, "<init>", "()V"⟩
abbrev cX6_copyFrom : ByteArray := prog_8_method_2_code
def yX6_copyFrom : MethodName := ⟨RX6, "copyFrom", "(LShadowSchool$Progress;)V"⟩
abbrev cX6_clear : ByteArray := prog_8_method_3_code
def yX6_clear : MethodName := ⟨RX6, "clear", "()V"⟩
abbrev cX6_hasLearnt : ByteArray := prog_8_method_4_code
def yX6_hasLearnt : MethodName := ⟨RX6, "hasLearnt", "(II)Z"⟩
abbrev cX6_howManyLearnt : ByteArray := prog_8_method_5_code
def yX6_howManyLearnt : MethodName := ⟨RX6, "howManyLearnt", "(I)I"⟩
abbrev cX6_learntBySome : ByteArray := prog_8_method_6_code
def yX6_learntBySome : MethodName := ⟨RX6, "learntBySome", "()I"⟩
abbrev cX6_gain : ByteArray := prog_8_method_7_code
def yX6_gain : MethodName := ⟨RX6, "gain", "(IIII)Z"⟩
def RX7 : String := "ShadowSchool$Reader"
def TX7 : u_T := fun k => match k with
  | 0 => ("ShadowSchool$Reader", "count", "I", false)
  | 1 => ("ShadowSchool$Reader", "bytes", "[I", true)
  | 2 => ("ShadowSchool$Reader", "tokens", "[I", true)
  | 3 => ("ShadowSchool$Reader", "places", "[I", true)
  | 4 => ("ShadowSchool$Reader", "at", "I", false)
  | _ => ("ShadowSchool$Reader", "draft", "LShadowSchool$Rules;", true)
def tyX7 : Nat → FieldType := fun k => match k with
  | 0 => .int
  | 1 => .array .int
  | 2 => .array .int
  | 3 => .array .int
  | 4 => .int
  | _ => .object "ShadowSchool$Rules"
theorem nmX7 : ∀ a, a < 6 → ∀ b, b < 6 → a ≠ b → (TX7 a).2.1 ≠ (TX7 b).2.1 := by decide +kernel
theorem tyX7_ok : ∀ k, k < 6 → parseFieldDescriptor (TX7 k).2.2.1 = some (tyX7 k) := by decide +kernel
abbrev cX7_init : ByteArray := prog_9_method_1_code
def yX7_init : MethodName := ⟨RX7, "<init>", "()V"⟩
abbrev cX7_take : ByteArray := prog_9_method_2_code
def yX7_take : MethodName := ⟨RX7, "take", "(JI)I"⟩
abbrev cX7_readAll : ByteArray := prog_9_method_3_code
def yX7_readAll : MethodName := ⟨RX7, "readAll", "()I"⟩
abbrev cX7_cutIntoTokens : ByteArray := prog_9_method_4_code
def yX7_cutIntoTokens : MethodName := ⟨RX7, "cutIntoTokens", "()V"⟩
abbrev cX7_sortOf : ByteArray := prog_9_method_5_code
def yX7_sortOf : MethodName := ⟨RX7, "sortOf", "(I)I"⟩
abbrev cX7_tokenAt : ByteArray := prog_9_method_6_code
def yX7_tokenAt : MethodName := ⟨RX7, "tokenAt", "(II)I"⟩
abbrev cX7_signAt : ByteArray := prog_9_method_7_code
def yX7_signAt : MethodName := ⟨RX7, "signAt", "(I)I"⟩
abbrev cX7_nameAt : ByteArray := prog_9_method_8_code
def yX7_nameAt : MethodName := ⟨RX7, "nameAt", "(II)I"⟩
abbrev cX7_isNameAt : ByteArray := prog_9_method_9_code
def yX7_isNameAt : MethodName := ⟨RX7, "isNameAt", "(III)Z"⟩
abbrev cX7_numberAt : ByteArray := prog_9_method_10_code
def yX7_numberAt : MethodName := ⟨RX7, "numberAt", "(II)I"⟩
abbrev cX7_readRule : ByteArray := prog_9_method_11_code
def yX7_readRule : MethodName := ⟨RX7, "readRule", "()Z"⟩
abbrev cX7_readCondition : ByteArray := prog_9_method_12_code
def yX7_readCondition : MethodName := ⟨RX7, "readCondition", "(I)Z"⟩
abbrev cX7_readOne : ByteArray := prog_9_method_13_code
def yX7_readOne : MethodName := ⟨RX7, "readOne", "(I)Z"⟩
abbrev cX7_readWithin : ByteArray := prog_9_method_14_code
def yX7_readWithin : MethodName := ⟨RX7, "readWithin", "(I)Z"⟩
abbrev cX7_readComparison : ByteArray := prog_9_method_15_code
def yX7_readComparison : MethodName := ⟨RX7, "readComparison", "()Z"⟩
abbrev cX7_readSign : ByteArray := prog_9_method_16_code
def yX7_readSign : MethodName := ⟨RX7, "readSign", "(I)Z"⟩
abbrev cX7_isValue : ByteArray := prog_9_method_17_code
def yX7_isValue : MethodName := ⟨RX7, "isValue", "(I)Z"⟩
abbrev cX7_placeOfValue : ByteArray := prog_9_method_18_code
def yX7_placeOfValue : MethodName := ⟨RX7, "placeOfValue", "(I)I"⟩
abbrev cX7_goOn : ByteArray := prog_9_method_19_code
def yX7_goOn : MethodName := ⟨RX7, "goOn", "()V"⟩
def RX8 : String := "ShadowSchool$Rules"
def TX8 : u_T := fun k => match k with
  | 0 => ("ShadowSchool$Rules", "count", "I", false)
  | 1 => ("ShadowSchool$Rules", "size", "I", false)
  | 2 => ("ShadowSchool$Rules", "kinds", "[I", true)
  | 3 => ("ShadowSchool$Rules", "deeds", "[I", true)
  | 4 => ("ShadowSchool$Rules", "ends", "[I", true)
  | 5 => ("ShadowSchool$Rules", "steps", "[I", true)
  | 6 => ("ShadowSchool$Rules", "lefts", "[I", true)
  | 7 => ("ShadowSchool$Rules", "rights", "[I", true)
  | 8 => ("ShadowSchool$Rules", "values", "[I", true)
  | _ => ("ShadowSchool$Rules", "valueCount", "I", false)
def tyX8 : Nat → FieldType := fun k => match k with
  | 0 => .int
  | 1 => .int
  | 2 => .array .int
  | 3 => .array .int
  | 4 => .array .int
  | 5 => .array .int
  | 6 => .array .int
  | 7 => .array .int
  | 8 => .array .int
  | _ => .int
theorem nmX8 : ∀ a, a < 10 → ∀ b, b < 10 → a ≠ b → (TX8 a).2.1 ≠ (TX8 b).2.1 := by decide +kernel
theorem tyX8_ok : ∀ k, k < 10 → parseFieldDescriptor (TX8 k).2.2.1 = some (tyX8 k) := by decide +kernel
abbrev cX8_init : ByteArray := prog_10_method_1_code
def yX8_init : MethodName := ⟨RX8, "<init>", "()V"⟩
abbrev cX8_copyFrom : ByteArray := prog_10_method_2_code
def yX8_copyFrom : MethodName := ⟨RX8, "copyFrom", "(LShadowSchool$Rules;)V"⟩
abbrev cX8_clear : ByteArray := prog_10_method_3_code
def yX8_clear : MethodName := ⟨RX8, "clear", "()V"⟩
abbrev cX8_addValue : ByteArray := prog_10_method_4_code
def yX8_addValue : MethodName := ⟨RX8, "addValue", "(I)I"⟩
abbrev cX8_addStep : ByteArray := prog_10_method_5_code
def yX8_addStep : MethodName := ⟨RX8, "addStep", "(III)V"⟩
abbrev cX8_addRule : ByteArray := prog_10_method_6_code
def yX8_addRule : MethodName := ⟨RX8, "addRule", "(II)V"⟩
abbrev cX8_tell : ByteArray := prog_10_method_7_code
def yX8_tell : MethodName := ⟨RX8, "tell", "(IIIII)V"⟩
abbrev cX8_deedFor : ByteArray := prog_10_method_8_code
def yX8_deedFor : MethodName := ⟨RX8, "deedFor", "(I)I"⟩
abbrev cX8_holds : ByteArray := prog_10_method_9_code
def yX8_holds : MethodName := ⟨RX8, "holds", "(II)Z"⟩
def RX9 : String := "ShadowSchool$School"
def TX9 : u_T := fun k => match k with
  | 0 => ("ShadowSchool$School", "shadows", "I", false)
  | 1 => ("ShadowSchool$School", "kind", "[I", true)
  | 2 => ("ShadowSchool$School", "quick", "[I", true)
  | 3 => ("ShadowSchool$School", "tall", "[I", true)
  | 4 => ("ShadowSchool$School", "quarrels", "[I", true)
  | 5 => ("ShadowSchool$School", "lessons", "I", false)
  | 6 => ("ShadowSchool$School", "hard", "[I", true)
  | 7 => ("ShadowSchool$School", "need", "[I", true)
  | 8 => ("ShadowSchool$School", "from", "[I", true)
  | 9 => ("ShadowSchool$School", "to", "[I", true)
  | 10 => ("ShadowSchool$School", "room", "[I", true)
  | 11 => ("ShadowSchool$School", "given", "[I", true)
  | 12 => ("ShadowSchool$School", "reports", "I", false)
  | 13 => ("ShadowSchool$School", "told", "[[I", true)
  | 14 => ("ShadowSchool$School", "dusk", "I", false)
  | 15 => ("ShadowSchool$School", "z", "I", false)
  | 16 => ("ShadowSchool$School", "rules", "LShadowSchool$Rules;", true)
  | 17 => ("ShadowSchool$School", "now", "LShadowSchool$Progress;", true)
  | _ => ("ShadowSchool$School", "kinds", "[LShadowSchool$Shade;", true)
def tyX9 : Nat → FieldType := fun k => match k with
  | 0 => .int
  | 1 => .array .int
  | 2 => .array .int
  | 3 => .array .int
  | 4 => .array .int
  | 5 => .int
  | 6 => .array .int
  | 7 => .array .int
  | 8 => .array .int
  | 9 => .array .int
  | 10 => .array .int
  | 11 => .array .int
  | 12 => .int
  | 13 => .array (.array .int)
  | 14 => .int
  | 15 => .int
  | 16 => .object "ShadowSchool$Rules"
  | 17 => .object "ShadowSchool$Progress"
  | _ => .array (.object "ShadowSchool$Shade")
theorem nmX9 : ∀ a, a < 19 → ∀ b, b < 19 → a ≠ b → (TX9 a).2.1 ≠ (TX9 b).2.1 := by decide +kernel
theorem tyX9_ok : ∀ k, k < 19 → parseFieldDescriptor (TX9 k).2.2.1 = some (tyX9 k) := by decide +kernel
abbrev cX9_init : ByteArray := prog_11_method_1_code
def yX9_init : MethodName := ⟨RX9, "<init>", "()V"⟩
abbrev cX9_copyFrom : ByteArray := prog_11_method_2_code
def yX9_copyFrom : MethodName := ⟨RX9, "copyFrom", "(LShadowSchool$School;)V"⟩
abbrev cX9_isShadow : ByteArray := prog_11_method_3_code
def yX9_isShadow : MethodName := ⟨RX9, "isShadow", "(I)Z"⟩
abbrev cX9_isLesson : ByteArray := prog_11_method_4_code
def yX9_isLesson : MethodName := ⟨RX9, "isLesson", "(I)Z"⟩
abbrev cX9_isAct : ByteArray := prog_11_method_5_code
def yX9_isAct : MethodName := ⟨RX9, "isAct", "(I)Z"⟩
abbrev cX9_isSetOfLessons : ByteArray := prog_11_method_6_code
def yX9_isSetOfLessons : MethodName := ⟨RX9, "isSetOfLessons", "(I)Z"⟩
abbrev cX9_allLessons : ByteArray := prog_11_method_7_code
def yX9_allLessons : MethodName := ⟨RX9, "allLessons", "()I"⟩
abbrev cX9_isOver : ByteArray := prog_11_method_8_code
def yX9_isOver : MethodName := ⟨RX9, "isOver", "(LShadowSchool$Progress;)Z"⟩
abbrev cX9_addShadow : ByteArray := prog_11_method_9_code
def yX9_addShadow : MethodName := ⟨RX9, "addShadow", "(III)I"⟩
abbrev cX9_addLesson : ByteArray := prog_11_method_10_code
def yX9_addLesson : MethodName := ⟨RX9, "addLesson", "(IIIII)I"⟩
abbrev cX9_addReport : ByteArray := prog_11_method_11_code
def yX9_addReport : MethodName := ⟨RX9, "addReport", "(IIII)I"⟩
abbrev cX9_thing : ByteArray := prog_11_method_12_code
def yX9_thing : MethodName := ⟨RX9, "thing", "(I)LShadowSchool$Shade;"⟩
abbrev cX9_lengthOf : ByteArray := prog_11_method_13_code
def yX9_lengthOf : MethodName := ⟨RX9, "lengthOf", "(I)I"⟩
abbrev cX9_setQuarrel : ByteArray := prog_11_method_14_code
def yX9_setQuarrel : MethodName := ⟨RX9, "setQuarrel", "(III)V"⟩
abbrev cX9_howManyQuarrel : ByteArray := prog_11_method_15_code
def yX9_howManyQuarrel : MethodName := ⟨RX9, "howManyQuarrel", "()I"⟩
abbrev cX9_goBy : ByteArray := prog_11_method_16_code
def yX9_goBy : MethodName := ⟨RX9, "goBy", "(LShadowSchool$Progress;I)I"⟩
abbrev cX9_goByLot : ByteArray := prog_11_method_17_code
def yX9_goByLot : MethodName := ⟨RX9, "goByLot", "(LShadowSchool$Progress;)I"⟩
abbrev cX9_choice : ByteArray := prog_11_method_18_code
def yX9_choice : MethodName := ⟨RX9, "choice", "(LShadowSchool$Progress;II)I"⟩
abbrev cX9_openTo : ByteArray := prog_11_method_19_code
def yX9_openTo : MethodName := ⟨RX9, "openTo", "(LShadowSchool$Progress;II)I"⟩
abbrev cX9_deedOf : ByteArray := prog_11_method_20_code
def yX9_deedOf : MethodName := ⟨RX9, "deedOf", "(LShadowSchool$Progress;I)I"⟩
abbrev cX9_easiest : ByteArray := prog_11_method_21_code
def yX9_easiest : MethodName := ⟨RX9, "easiest", "(LShadowSchool$Progress;II)I"⟩
abbrev cX9_firstFit : ByteArray := prog_11_method_22_code
def yX9_firstFit : MethodName := ⟨RX9, "firstFit", "(I)I"⟩
abbrev cX9_howManyFit : ByteArray := prog_11_method_23_code
def yX9_howManyFit : MethodName := ⟨RX9, "howManyFit", "()I"⟩
abbrev cX9_fits : ByteArray := prog_11_method_24_code
def yX9_fits : MethodName := ⟨RX9, "fits", "(II)Z"⟩
def RX10 : String := "ShadowSchool$Shade"
def TX10 : u_T := fun k => match k with
  | _ => ("", "", "", false)
def tyX10 : Nat → FieldType := fun k => match k with
  | _ => .int
theorem nmX10 : ∀ a, a < 0 → ∀ b, b < 0 → a ≠ b → (TX10 a).2.1 ≠ (TX10 b).2.1 := by decide +kernel
theorem tyX10_ok : ∀ k, k < 0 → parseFieldDescriptor (TX10 k).2.2.1 = some (tyX10 k) := by decide +kernel
abbrev cX10_init : ByteArray := prog_12_method_1_code
def yX10_init : MethodName := ⟨RX10, "<init>", "()V"⟩
abbrev cX10_paceIn : ByteArray := prog_12_method_2_code
def yX10_paceIn : MethodName := ⟨RX10, "paceIn", "(II)I"⟩
abbrev cX10_lengthIn : ByteArray := prog_12_method_3_code
def yX10_lengthIn : MethodName := ⟨RX10, "lengthIn", "(II)I"⟩
abbrev cX10_lies : ByteArray := prog_12_method_4_code
def yX10_lies : MethodName := ⟨RX10, "lies", "(LShadowSchool$Host;I)I"⟩
abbrev cX10_turns : ByteArray := prog_12_method_5_code
def yX10_turns : MethodName := ⟨RX10, "turns", "(LShadowSchool$Host;I)I"⟩
abbrev cX10_folds : ByteArray := prog_12_method_6_code
def yX10_folds : MethodName := ⟨RX10, "folds", "(LShadowSchool$Host;I)I"⟩
abbrev cX10_asks : ByteArray := prog_12_method_7_code
def yX10_asks : MethodName := ⟨RX10, "asks", "(LShadowSchool$Host;I)I"⟩
def RX11 : String := "ShadowSchool$Slow"
def TX11 : u_T := fun k => match k with
  | _ => ("", "", "", false)
def tyX11 : Nat → FieldType := fun k => match k with
  | _ => .int
theorem nmX11 : ∀ a, a < 0 → ∀ b, b < 0 → a ≠ b → (TX11 a).2.1 ≠ (TX11 b).2.1 := by decide +kernel
theorem tyX11_ok : ∀ k, k < 0 → parseFieldDescriptor (TX11 k).2.2.1 = some (tyX11 k) := by decide +kernel
abbrev cX11_init : ByteArray := prog_13_method_1_code
def yX11_init : MethodName := ⟨RX11, "<init>", "()V"⟩
abbrev cX11_paceIn : ByteArray := prog_13_method_2_code
def yX11_paceIn : MethodName := ⟨RX11, "paceIn", "(II)I"⟩
abbrev cX11_lengthIn : ByteArray := prog_13_method_3_code
def yX11_lengthIn : MethodName := ⟨RX11, "lengthIn", "(II)I"⟩
abbrev cX11_folds : ByteArray := prog_13_method_4_code
def yX11_folds : MethodName := ⟨RX11, "folds", "(LShadowSchool$Host;I)I"⟩
def RX12 : String := "ShadowSchool"
def TX12 : u_T := fun k => match k with
  | 0 => ("ShadowSchool", "school", "LShadowSchool$School;", true)
  | 1 => ("ShadowSchool", "kept", "LShadowSchool$School;", true)
  | 2 => ("ShadowSchool", "isKept", "Z", false)
  | 3 => ("ShadowSchool", "trial", "LShadowSchool$Progress;", true)
  | 4 => ("ShadowSchool", "chairs", "[I", true)
  | 5 => ("ShadowSchool", "reader", "LShadowSchool$Reader;", true)
  | 6 => ("ShadowSchool", "plans", "LShadowSchool$Plans;", true)
  | _ => ("ShadowSchool", "host", "LShadowSchool$Host;", true)
def tyX12 : Nat → FieldType := fun k => match k with
  | 0 => .object "ShadowSchool$School"
  | 1 => .object "ShadowSchool$School"
  | 2 => .boolean
  | 3 => .object "ShadowSchool$Progress"
  | 4 => .array .int
  | 5 => .object "ShadowSchool$Reader"
  | 6 => .object "ShadowSchool$Plans"
  | _ => .object "ShadowSchool$Host"
theorem nmX12 : ∀ a, a < 8 → ∀ b, b < 8 → a ≠ b → (TX12 a).2.1 ≠ (TX12 b).2.1 := by decide +kernel
theorem tyX12_ok : ∀ k, k < 8 → parseFieldDescriptor (TX12 k).2.2.1 = some (tyX12 k) := by decide +kernel
abbrev cX12_init : ByteArray := prog_1_method_1_code
def yX12_init : MethodName := ⟨RX12, "<init>", "()V"⟩
abbrev cX12_shadow : ByteArray := prog_1_method_2_code
def yX12_shadow : MethodName := ⟨RX12, "shadow", "(III)I"⟩
abbrev cX12_shadowOf : ByteArray := prog_1_method_3_code
def yX12_shadowOf : MethodName := ⟨RX12, "shadowOf", "(II)I"⟩
abbrev cX12_change : ByteArray := prog_1_method_4_code
def yX12_change : MethodName := ⟨RX12, "change", "(III)I"⟩
abbrev cX12_remake : ByteArray := prog_1_method_5_code
def yX12_remake : MethodName := ⟨RX12, "remake", "(II)I"⟩
abbrev cX12_lesson : ByteArray := prog_1_method_6_code
def yX12_lesson : MethodName := ⟨RX12, "lesson", "(IIIII)I"⟩
abbrev cX12_lessonOf : ByteArray := prog_1_method_7_code
def yX12_lessonOf : MethodName := ⟨RX12, "lessonOf", "(II)I"⟩
abbrev cX12_points : ByteArray := prog_1_method_8_code
def yX12_points : MethodName := ⟨RX12, "points", "(II)I"⟩
abbrev cX12_dusk : ByteArray := prog_1_method_9_code
def yX12_dusk : MethodName := ⟨RX12, "dusk", "(I)I"⟩
abbrev cX12_anew : ByteArray := prog_1_method_10_code
def yX12_anew : MethodName := ⟨RX12, "anew", "()I"⟩
abbrev cX12_state : ByteArray := prog_1_method_11_code
def yX12_state : MethodName := ⟨RX12, "state", "(I)I"⟩
abbrev cX12_feed : ByteArray := prog_1_method_12_code
def yX12_feed : MethodName := ⟨RX12, "feed", "(JI)I"⟩
abbrev cX12_rules : ByteArray := prog_1_method_13_code
def yX12_rules : MethodName := ⟨RX12, "rules", "()I"⟩
abbrev cX12_hour : ByteArray := prog_1_method_14_code
def yX12_hour : MethodName := ⟨RX12, "hour", "()I"⟩
abbrev cX12_learnt : ByteArray := prog_1_method_15_code
def yX12_learnt : MethodName := ⟨RX12, "learnt", "(I)I"⟩
abbrev cX12_on : ByteArray := prog_1_method_16_code
def yX12_on : MethodName := ⟨RX12, "on", "(I)I"⟩
abbrev cX12_when : ByteArray := prog_1_method_17_code
def yX12_when : MethodName := ⟨RX12, "when", "(II)I"⟩
abbrev cX12_letGo : ByteArray := prog_1_method_18_code
def yX12_letGo : MethodName := ⟨RX12, "letGo", "()I"⟩
abbrev cX12_crowd : ByteArray := prog_1_method_19_code
def yX12_crowd : MethodName := ⟨RX12, "crowd", "(I)I"⟩
abbrev cX12_quickFor : ByteArray := prog_1_method_20_code
def yX12_quickFor : MethodName := ⟨RX12, "quickFor", "(I)I"⟩
abbrev cX12_letGoBy : ByteArray := prog_1_method_21_code
def yX12_letGoBy : MethodName := ⟨RX12, "letGoBy", "(I)I"⟩
abbrev cX12_roomFor : ByteArray := prog_1_method_22_code
def yX12_roomFor : MethodName := ⟨RX12, "roomFor", "(I)I"⟩
abbrev cX12_worthOfRest : ByteArray := prog_1_method_23_code
def yX12_worthOfRest : MethodName := ⟨RX12, "worthOfRest", "(I)I"⟩
abbrev cX12_worthiest : ByteArray := prog_1_method_24_code
def yX12_worthiest : MethodName := ⟨RX12, "worthiest", "([III)I"⟩
abbrev cX12_quarrel : ByteArray := prog_1_method_25_code
def yX12_quarrel : MethodName := ⟨RX12, "quarrel", "(III)I"⟩
abbrev cX12_quarrels : ByteArray := prog_1_method_26_code
def yX12_quarrels : MethodName := ⟨RX12, "quarrels", "(I)I"⟩
abbrev cX12_rooms : ByteArray := prog_1_method_27_code
def yX12_rooms : MethodName := ⟨RX12, "rooms", "()I"⟩
abbrev cX12_seat : ByteArray := prog_1_method_28_code
def yX12_seat : MethodName := ⟨RX12, "seat", "(I)I"⟩
abbrev cX12_seatings : ByteArray := prog_1_method_29_code
def yX12_seatings : MethodName := ⟨RX12, "seatings", "(I)I"⟩
abbrev cX12_match : ByteArray := prog_1_method_30_code
def yX12_match : MethodName := ⟨RX12, "match", "(III)I"⟩
abbrev cX12_fewestRooms : ByteArray := prog_1_method_31_code
def yX12_fewestRooms : MethodName := ⟨RX12, "fewestRooms", "()I"⟩
abbrev cX12_findSeats : ByteArray := prog_1_method_32_code
def yX12_findSeats : MethodName := ⟨RX12, "findSeats", "(II)Z"⟩
abbrev cX12_countSeatings : ByteArray := prog_1_method_33_code
def yX12_countSeatings : MethodName := ⟨RX12, "countSeatings", "(II)I"⟩
abbrev cX12_mayTake : ByteArray := prog_1_method_34_code
def yX12_mayTake : MethodName := ⟨RX12, "mayTake", "(II)Z"⟩
abbrev cX12_countGifts : ByteArray := prog_1_method_35_code
def yX12_countGifts : MethodName := ⟨RX12, "countGifts", "(IIIII)I"⟩
abbrev cX12_best : ByteArray := prog_1_method_36_code
def yX12_best : MethodName := ⟨RX12, "best", "(I)I"⟩
abbrev cX12_ith : ByteArray := prog_1_method_37_code
def yX12_ith : MethodName := ⟨RX12, "ith", "(II)I"⟩
abbrev cX12_ways : ByteArray := prog_1_method_38_code
def yX12_ways : MethodName := ⟨RX12, "ways", "(I)I"⟩
abbrev cX12_taught : ByteArray := prog_1_method_39_code
def yX12_taught : MethodName := ⟨RX12, "taught", "(II)I"⟩
abbrev cX12_bars : ByteArray := prog_1_method_40_code
def yX12_bars : MethodName := ⟨RX12, "bars", "(II)I"⟩
abbrev cX12_game : ByteArray := prog_1_method_41_code
def yX12_game : MethodName := ⟨RX12, "game", "(I)I"⟩
abbrev cX12_play : ByteArray := prog_1_method_42_code
def yX12_play : MethodName := ⟨RX12, "play", "(I)I"⟩
abbrev cX12_report : ByteArray := prog_1_method_43_code
def yX12_report : MethodName := ⟨RX12, "report", "(IIII)I"⟩
abbrev cX12_forget : ByteArray := prog_1_method_44_code
def yX12_forget : MethodName := ⟨RX12, "forget", "()I"⟩
abbrev cX12_span : ByteArray := prog_1_method_45_code
def yX12_span : MethodName := ⟨RX12, "span", "(I)I"⟩
abbrev cX12_liar : ByteArray := prog_1_method_46_code
def yX12_liar : MethodName := ⟨RX12, "liar", "()I"⟩
abbrev cX12_seed : ByteArray := prog_1_method_47_code
def yX12_seed : MethodName := ⟨RX12, "seed", "(I)I"⟩
abbrev cX12_lot : ByteArray := prog_1_method_48_code
def yX12_lot : MethodName := ⟨RX12, "lot", "()I"⟩
abbrev cX12_often : ByteArray := prog_1_method_49_code
def yX12_often : MethodName := ⟨RX12, "often", "(II)I"⟩
abbrev cX12_prove : ByteArray := prog_1_method_50_code
def yX12_prove : MethodName := ⟨RX12, "prove", "(I)I"⟩
abbrev cX12_row : ByteArray := prog_1_method_51_code
def yX12_row : MethodName := ⟨RX12, "row", "(II)I"⟩
abbrev cX12_alterRow : ByteArray := prog_1_method_52_code
def yX12_alterRow : MethodName := ⟨RX12, "alterRow", "(III)I"⟩
abbrev cX12_judge : ByteArray := prog_1_method_53_code
def yX12_judge : MethodName := ⟨RX12, "judge", "()I"⟩
abbrev cX12_sheet : ByteArray := prog_1_method_54_code
def yX12_sheet : MethodName := ⟨RX12, "sheet", "(III)I"⟩
abbrev cX12_write : ByteArray := prog_1_method_55_code
def yX12_write : MethodName := ⟨RX12, "write", "(III)I"⟩
abbrev cX12_item : ByteArray := prog_1_method_56_code
def yX12_item : MethodName := ⟨RX12, "item", "(III)I"⟩
abbrev cX12_goAll : ByteArray := prog_1_method_57_code
def yX12_goAll : MethodName := ⟨RX12, "goAll", "(III)I"⟩
abbrev cX12_wouldBe : ByteArray := prog_1_method_58_code
def yX12_wouldBe : MethodName := ⟨RX12, "wouldBe", "(III)I"⟩
abbrev cX12_shelf : ByteArray := prog_1_method_59_code
def yX12_shelf : MethodName := ⟨RX12, "shelf", "(III)I"⟩
abbrev cX12_taken : ByteArray := prog_1_method_60_code
def yX12_taken : MethodName := ⟨RX12, "taken", "(II)I"⟩
abbrev cX12_act : ByteArray := prog_1_method_61_code
def yX12_act : MethodName := ⟨RX12, "act", "(III)I"⟩
abbrev cX12_trace : ByteArray := prog_1_method_62_code
def yX12_trace : MethodName := ⟨RX12, "trace", "(I)I"⟩
abbrev cX12_many : ByteArray := prog_1_method_63_code
def yX12_many : MethodName := ⟨RX12, "many", "(I)I"⟩
abbrev cX12_keep : ByteArray := prog_1_method_64_code
def yX12_keep : MethodName := ⟨RX12, "keep", "()I"⟩
abbrev cX12_again : ByteArray := prog_1_method_65_code
def yX12_again : MethodName := ⟨RX12, "again", "()I"⟩
abbrev cX12_isWithin : ByteArray := prog_1_method_66_code
def yX12_isWithin : MethodName := ⟨RX12, "isWithin", "(III)Z"⟩
abbrev cX12_isOrIsUnder : ByteArray := prog_1_method_67_code
def yX12_isOrIsUnder : MethodName := ⟨RX12, "isOrIsUnder", "(II)Z"⟩
abbrev cX12_copyRow : ByteArray := prog_1_method_68_code
def yX12_copyRow : MethodName := ⟨RX12, "copyRow", "([I[I)V"⟩
def RX13 : String := "ShadowSchoolModel"
def TX13 : u_T := fun k => match k with
  | 0 => ("ShadowSchoolModel", "row", "[I", true)
  | 1 => ("ShadowSchoolModel", "saves", "[I", true)
  | 2 => ("ShadowSchoolModel", "s", "[I", true)
  | 3 => ("ShadowSchoolModel", "keptRow", "[I", true)
  | 4 => ("ShadowSchoolModel", "kept", "[I", true)
  | 5 => ("ShadowSchoolModel", "isKept", "Z", false)
  | 6 => ("ShadowSchoolModel", "tape", "[I", true)
  | 7 => ("ShadowSchoolModel", "taped", "I", false)
  | 8 => ("ShadowSchoolModel", "sort", "I", false)
  | 9 => ("ShadowSchoolModel", "begins", "I", false)
  | 10 => ("ShadowSchoolModel", "tokenEnds", "I", false)
  | 11 => ("ShadowSchoolModel", "word", "J", false)
  | 12 => ("ShadowSchoolModel", "value", "I", false)
  | 13 => ("ShadowSchoolModel", "good", "Z", false)
  | 14 => ("ShadowSchoolModel", "freshRules", "[I", true)
  | 15 => ("ShadowSchoolModel", "freshSteps", "[I", true)
  | 16 => ("ShadowSchoolModel", "stepMany", "I", false)
  | 17 => ("ShadowSchoolModel", "open", "I", false)
  | 18 => ("ShadowSchoolModel", "pile", "[I", true)
  | 19 => ("ShadowSchoolModel", "seats", "[I", true)
  | 20 => ("ShadowSchoolModel", "roomOf", "[I", true)
  | 21 => ("ShadowSchoolModel", "ways", "[I", true)
  | 22 => ("ShadowSchoolModel", "bestWorth", "I", false)
  | 23 => ("ShadowSchoolModel", "firstBest", "I", false)
  | 24 => ("ShadowSchoolModel", "bestMany", "I", false)
  | 25 => ("ShadowSchoolModel", "fewest", "I", false)
  | 26 => ("ShadowSchoolModel", "everLearnt", "I", false)
  | 27 => ("ShadowSchoolModel", "bestAct", "I", false)
  | 28 => ("ShadowSchoolModel", "rows", "[I", true)
  | 29 => ("ShadowSchoolModel", "rowMany", "I", false)
  | 30 => ("ShadowSchoolModel", "sorts", "[I", true)
  | 31 => ("ShadowSchoolModel", "sizes", "[I", true)
  | 32 => ("ShadowSchoolModel", "sheets", "[J", true)
  | 33 => ("ShadowSchoolModel", "held", "[I", true)
  | 34 => ("ShadowSchoolModel", "heldNumber", "[I", true)
  | 35 => ("ShadowSchoolModel", "heldSize", "[I", true)
  | 36 => ("ShadowSchoolModel", "kind", "I", false)
  | 37 => ("ShadowSchoolModel", "own", "I", false)
  | 38 => ("ShadowSchoolModel", "about", "I", false)
  | 39 => ("ShadowSchoolModel", "traced", "[I", true)
  | 40 => ("ShadowSchoolModel", "bodies", "I", false)
  | _ => ("ShadowSchoolModel", "isParted", "Z", false)
def tyX13 : Nat → FieldType := fun k => match k with
  | 0 => .array .int
  | 1 => .array .int
  | 2 => .array .int
  | 3 => .array .int
  | 4 => .array .int
  | 5 => .boolean
  | 6 => .array .int
  | 7 => .int
  | 8 => .int
  | 9 => .int
  | 10 => .int
  | 11 => .long
  | 12 => .int
  | 13 => .boolean
  | 14 => .array .int
  | 15 => .array .int
  | 16 => .int
  | 17 => .int
  | 18 => .array .int
  | 19 => .array .int
  | 20 => .array .int
  | 21 => .array .int
  | 22 => .int
  | 23 => .int
  | 24 => .int
  | 25 => .int
  | 26 => .int
  | 27 => .int
  | 28 => .array .int
  | 29 => .int
  | 30 => .array .int
  | 31 => .array .int
  | 32 => .array .long
  | 33 => .array .int
  | 34 => .array .int
  | 35 => .array .int
  | 36 => .int
  | 37 => .int
  | 38 => .int
  | 39 => .array .int
  | 40 => .int
  | _ => .boolean
theorem nmX13 : ∀ a, a < 42 → ∀ b, b < 42 → a ≠ b → (TX13 a).2.1 ≠ (TX13 b).2.1 := by decide +kernel
theorem tyX13_ok : ∀ k, k < 42 → parseFieldDescriptor (TX13 k).2.2.1 = some (tyX13 k) := by decide +kernel
abbrev cX13_init : ByteArray := prog_15_method_1_code
def yX13_init : MethodName := ⟨RX13, "<init>", "()V"⟩
abbrev cX13_in : ByteArray := prog_15_method_2_code
def yX13_in : MethodName := ⟨RX13, "in", "(III)Z"⟩
abbrev cX13_isShadow : ByteArray := prog_15_method_3_code
def yX13_isShadow : MethodName := ⟨RX13, "isShadow", "(I)Z"⟩
abbrev cX13_isLesson : ByteArray := prog_15_method_4_code
def yX13_isLesson : MethodName := ⟨RX13, "isLesson", "(I)Z"⟩
abbrev cX13_of : ByteArray := prog_15_method_5_code
def yX13_of : MethodName := ⟨RX13, "of", "(II)I"⟩
abbrev cX13_lessonNumber : ByteArray := prog_15_method_6_code
def yX13_lessonNumber : MethodName := ⟨RX13, "lessonNumber", "(II)I"⟩
abbrev cX13_ones : ByteArray := prog_15_method_7_code
def yX13_ones : MethodName := ⟨RX13, "ones", "(I)I"⟩
abbrev cX13_isOver : ByteArray := prog_15_method_8_code
def yX13_isOver : MethodName := ⟨RX13, "isOver", "()Z"⟩
abbrev cX13_hasLearnt : ByteArray := prog_15_method_9_code
def yX13_hasLearnt : MethodName := ⟨RX13, "hasLearnt", "(II)Z"⟩
abbrev cX13_pointsOf : ByteArray := prog_15_method_10_code
def yX13_pointsOf : MethodName := ⟨RX13, "pointsOf", "(II)I"⟩
abbrev cX13_save : ByteArray := prog_15_method_11_code
def yX13_save : MethodName := ⟨RX13, "save", "(I)V"⟩
abbrev cX13_load : ByteArray := prog_15_method_12_code
def yX13_load : MethodName := ⟨RX13, "load", "(I)V"⟩
abbrev cX13_paceBy : ByteArray := prog_15_method_13_code
def yX13_paceBy : MethodName := ⟨RX13, "paceBy", "(III)I"⟩
abbrev cX13_far : ByteArray := prog_15_method_14_code
def yX13_far : MethodName := ⟨RX13, "far", "(II)I"⟩
abbrev cX13_lengthBy : ByteArray := prog_15_method_15_code
def yX13_lengthBy : MethodName := ⟨RX13, "lengthBy", "(III)I"⟩
abbrev cX13_isUnder : ByteArray := prog_15_method_16_code
def yX13_isUnder : MethodName := ⟨RX13, "isUnder", "(II)Z"⟩
abbrev cX13_shadow : ByteArray := prog_15_method_17_code
def yX13_shadow : MethodName := ⟨RX13, "shadow", "(III)I"⟩
abbrev cX13_shadowOf : ByteArray := prog_15_method_18_code
def yX13_shadowOf : MethodName := ⟨RX13, "shadowOf", "(II)I"⟩
abbrev cX13_becomes : ByteArray := prog_15_method_19_code
def yX13_becomes : MethodName := ⟨RX13, "becomes", "(II)I"⟩
abbrev cX13_change : ByteArray := prog_15_method_20_code
def yX13_change : MethodName := ⟨RX13, "change", "(III)I"⟩
abbrev cX13_remake : ByteArray := prog_15_method_21_code
def yX13_remake : MethodName := ⟨RX13, "remake", "(II)I"⟩
abbrev cX13_lesson : ByteArray := prog_15_method_22_code
def yX13_lesson : MethodName := ⟨RX13, "lesson", "(IIIII)I"⟩
abbrev cX13_learntBy : ByteArray := prog_15_method_23_code
def yX13_learntBy : MethodName := ⟨RX13, "learntBy", "(I)I"⟩
abbrev cX13_lessonOf : ByteArray := prog_15_method_24_code
def yX13_lessonOf : MethodName := ⟨RX13, "lessonOf", "(II)I"⟩
abbrev cX13_points : ByteArray := prog_15_method_25_code
def yX13_points : MethodName := ⟨RX13, "points", "(II)I"⟩
abbrev cX13_dusk : ByteArray := prog_15_method_26_code
def yX13_dusk : MethodName := ⟨RX13, "dusk", "(I)I"⟩
abbrev cX13_anew : ByteArray := prog_15_method_27_code
def yX13_anew : MethodName := ⟨RX13, "anew", "()I"⟩
abbrev cX13_state : ByteArray := prog_15_method_28_code
def yX13_state : MethodName := ⟨RX13, "state", "(I)I"⟩
abbrev cX13_feed : ByteArray := prog_15_method_29_code
def yX13_feed : MethodName := ⟨RX13, "feed", "(JI)I"⟩
abbrev cX13_byteAt : ByteArray := prog_15_method_30_code
def yX13_byteAt : MethodName := ⟨RX13, "byteAt", "(I)I"⟩
abbrev cX13_isLetter : ByteArray := prog_15_method_31_code
def yX13_isLetter : MethodName := ⟨RX13, "isLetter", "(I)Z"⟩
abbrev cX13_isDigit : ByteArray := prog_15_method_32_code
def yX13_isDigit : MethodName := ⟨RX13, "isDigit", "(I)Z"⟩
abbrev cX13_advance : ByteArray := prog_15_method_33_code
def yX13_advance : MethodName := ⟨RX13, "advance", "()V"⟩
abbrev cX13_isWord : ByteArray := prog_15_method_34_code
def yX13_isWord : MethodName := ⟨RX13, "isWord", "(J)Z"⟩
abbrev cX13_isMark : ByteArray := prog_15_method_35_code
def yX13_isMark : MethodName := ⟨RX13, "isMark", "(I)Z"⟩
abbrev cX13_step : ByteArray := prog_15_method_36_code
def yX13_step : MethodName := ⟨RX13, "step", "(II)V"⟩
abbrev cX13_kindSeen : ByteArray := prog_15_method_37_code
def yX13_kindSeen : MethodName := ⟨RX13, "kindSeen", "()I"⟩
abbrev cX13_factSeen : ByteArray := prog_15_method_38_code
def yX13_factSeen : MethodName := ⟨RX13, "factSeen", "()I"⟩
abbrev cX13_readValue : ByteArray := prog_15_method_39_code
def yX13_readValue : MethodName := ⟨RX13, "readValue", "()V"⟩
abbrev cX13_readTest : ByteArray := prog_15_method_40_code
def yX13_readTest : MethodName := ⟨RX13, "readTest", "()V"⟩
abbrev cX13_readOne : ByteArray := prog_15_method_41_code
def yX13_readOne : MethodName := ⟨RX13, "readOne", "()V"⟩
abbrev cX13_readAll : ByteArray := prog_15_method_42_code
def yX13_readAll : MethodName := ⟨RX13, "readAll", "()V"⟩
abbrev cX13_readCondition : ByteArray := prog_15_method_43_code
def yX13_readCondition : MethodName := ⟨RX13, "readCondition", "()V"⟩
abbrev cX13_readRule : ByteArray := prog_15_method_44_code
def yX13_readRule : MethodName := ⟨RX13, "readRule", "(I)V"⟩
abbrev cX13_rules : ByteArray := prog_15_method_45_code
def yX13_rules : MethodName := ⟨RX13, "rules", "()I"⟩
abbrev cX13_factOf : ByteArray := prog_15_method_46_code
def yX13_factOf : MethodName := ⟨RX13, "factOf", "(II)I"⟩
abbrev cX13_told : ByteArray := prog_15_method_47_code
def yX13_told : MethodName := ⟨RX13, "told", "(Z)I"⟩
abbrev cX13_joined : ByteArray := prog_15_method_48_code
def yX13_joined : MethodName := ⟨RX13, "joined", "(IIII)I"⟩
abbrev cX13_holds : ByteArray := prog_15_method_49_code
def yX13_holds : MethodName := ⟨RX13, "holds", "(II)Z"⟩
abbrev cX13_emptySeats : ByteArray := prog_15_method_50_code
def yX13_emptySeats : MethodName := ⟨RX13, "emptySeats", "()V"⟩
abbrev cX13_isOpen : ByteArray := prog_15_method_51_code
def yX13_isOpen : MethodName := ⟨RX13, "isOpen", "(II)Z"⟩
abbrev cX13_ruleFor : ByteArray := prog_15_method_52_code
def yX13_ruleFor : MethodName := ⟨RX13, "ruleFor", "(I)I"⟩
abbrev cX13_lacks : ByteArray := prog_15_method_53_code
def yX13_lacks : MethodName := ⟨RX13, "lacks", "(II)I"⟩
abbrev cX13_choiceOf : ByteArray := prog_15_method_54_code
def yX13_choiceOf : MethodName := ⟨RX13, "choiceOf", "(I)I"⟩
abbrev cX13_sits : ByteArray := prog_15_method_55_code
def yX13_sits : MethodName := ⟨RX13, "sits", "(II)I"⟩
abbrev cX13_goes : ByteArray := prog_15_method_56_code
def yX13_goes : MethodName := ⟨RX13, "goes", "(I)I"⟩
abbrev cX13_hour : ByteArray := prog_15_method_57_code
def yX13_hour : MethodName := ⟨RX13, "hour", "()I"⟩
abbrev cX13_learnt : ByteArray := prog_15_method_58_code
def yX13_learnt : MethodName := ⟨RX13, "learnt", "(I)I"⟩
abbrev cX13_rest : ByteArray := prog_15_method_59_code
def yX13_rest : MethodName := ⟨RX13, "rest", "(I)I"⟩
abbrev cX13_restWorth : ByteArray := prog_15_method_60_code
def yX13_restWorth : MethodName := ⟨RX13, "restWorth", "(I)I"⟩
abbrev cX13_on : ByteArray := prog_15_method_61_code
def yX13_on : MethodName := ⟨RX13, "on", "(I)I"⟩
abbrev cX13_when : ByteArray := prog_15_method_62_code
def yX13_when : MethodName := ⟨RX13, "when", "(II)I"⟩
abbrev cX13_allLessons : ByteArray := prog_15_method_63_code
def yX13_allLessons : MethodName := ⟨RX13, "allLessons", "()I"⟩
abbrev cX13_letGo : ByteArray := prog_15_method_64_code
def yX13_letGo : MethodName := ⟨RX13, "letGo", "()I"⟩
abbrev cX13_crowd : ByteArray := prog_15_method_65_code
def yX13_crowd : MethodName := ⟨RX13, "crowd", "(I)I"⟩
abbrev cX13_dearest : ByteArray := prog_15_method_66_code
def yX13_dearest : MethodName := ⟨RX13, "dearest", "(II)I"⟩
abbrev cX13_quickFor : ByteArray := prog_15_method_67_code
def yX13_quickFor : MethodName := ⟨RX13, "quickFor", "(I)I"⟩
abbrev cX13_roomFor : ByteArray := prog_15_method_68_code
def yX13_roomFor : MethodName := ⟨RX13, "roomFor", "(I)I"⟩
abbrev cX13_letGoBy : ByteArray := prog_15_method_69_code
def yX13_letGoBy : MethodName := ⟨RX13, "letGoBy", "(I)I"⟩
abbrev cX13_quarrel : ByteArray := prog_15_method_70_code
def yX13_quarrel : MethodName := ⟨RX13, "quarrel", "(III)I"⟩
abbrev cX13_quarrels : ByteArray := prog_15_method_71_code
def yX13_quarrels : MethodName := ⟨RX13, "quarrels", "(I)I"⟩
abbrev cX13_isSeating : ByteArray := prog_15_method_72_code
def yX13_isSeating : MethodName := ⟨RX13, "isSeating", "()Z"⟩
abbrev cX13_isNextWay : ByteArray := prog_15_method_73_code
def yX13_isNextWay : MethodName := ⟨RX13, "isNextWay", "(I)Z"⟩
abbrev cX13_allInFirst : ByteArray := prog_15_method_74_code
def yX13_allInFirst : MethodName := ⟨RX13, "allInFirst", "()V"⟩
abbrev cX13_isFirstSeating : ByteArray := prog_15_method_75_code
def yX13_isFirstSeating : MethodName := ⟨RX13, "isFirstSeating", "(I)Z"⟩
abbrev cX13_rooms : ByteArray := prog_15_method_76_code
def yX13_rooms : MethodName := ⟨RX13, "rooms", "()I"⟩
abbrev cX13_seat : ByteArray := prog_15_method_77_code
def yX13_seat : MethodName := ⟨RX13, "seat", "(I)I"⟩
abbrev cX13_seatings : ByteArray := prog_15_method_78_code
def yX13_seatings : MethodName := ⟨RX13, "seatings", "(I)I"⟩
abbrev cX13_match : ByteArray := prog_15_method_79_code
def yX13_match : MethodName := ⟨RX13, "match", "(III)I"⟩
abbrev cX13_planHours : ByteArray := prog_15_method_80_code
def yX13_planHours : MethodName := ⟨RX13, "planHours", "(I)I"⟩
abbrev cX13_plans : ByteArray := prog_15_method_81_code
def yX13_plans : MethodName := ⟨RX13, "plans", "(I)I"⟩
abbrev cX13_actIn : ByteArray := prog_15_method_82_code
def yX13_actIn : MethodName := ⟨RX13, "actIn", "(III)I"⟩
abbrev cX13_plays : ByteArray := prog_15_method_83_code
def yX13_plays : MethodName := ⟨RX13, "plays", "(II)I"⟩
abbrev cX13_findBest : ByteArray := prog_15_method_84_code
def yX13_findBest : MethodName := ⟨RX13, "findBest", "(I)V"⟩
abbrev cX13_best : ByteArray := prog_15_method_85_code
def yX13_best : MethodName := ⟨RX13, "best", "(I)I"⟩
abbrev cX13_ith : ByteArray := prog_15_method_86_code
def yX13_ith : MethodName := ⟨RX13, "ith", "(II)I"⟩
abbrev cX13_ways : ByteArray := prog_15_method_87_code
def yX13_ways : MethodName := ⟨RX13, "ways", "(I)I"⟩
abbrev cX13_someLearnt : ByteArray := prog_15_method_88_code
def yX13_someLearnt : MethodName := ⟨RX13, "someLearnt", "()I"⟩
abbrev cX13_actsOf : ByteArray := prog_15_method_89_code
def yX13_actsOf : MethodName := ⟨RX13, "actsOf", "(II)I"⟩
abbrev cX13_findTaught : ByteArray := prog_15_method_90_code
def yX13_findTaught : MethodName := ⟨RX13, "findTaught", "(II)V"⟩
abbrev cX13_taught : ByteArray := prog_15_method_91_code
def yX13_taught : MethodName := ⟨RX13, "taught", "(II)I"⟩
abbrev cX13_bars : ByteArray := prog_15_method_92_code
def yX13_bars : MethodName := ⟨RX13, "bars", "(II)I"⟩
abbrev cX13_valueOf : ByteArray := prog_15_method_93_code
def yX13_valueOf : MethodName := ⟨RX13, "valueOf", "(IIZ)I"⟩
abbrev cX13_game : ByteArray := prog_15_method_94_code
def yX13_game : MethodName := ⟨RX13, "game", "(I)I"⟩
abbrev cX13_play : ByteArray := prog_15_method_95_code
def yX13_play : MethodName := ⟨RX13, "play", "(I)I"⟩
abbrev cX13_report : ByteArray := prog_15_method_96_code
def yX13_report : MethodName := ⟨RX13, "report", "(IIII)I"⟩
abbrev cX13_forget : ByteArray := prog_15_method_97_code
def yX13_forget : MethodName := ⟨RX13, "forget", "()I"⟩
abbrev cX13_fits : ByteArray := prog_15_method_98_code
def yX13_fits : MethodName := ⟨RX13, "fits", "(II)Z"⟩
abbrev cX13_firstMoment : ByteArray := prog_15_method_99_code
def yX13_firstMoment : MethodName := ⟨RX13, "firstMoment", "(I)I"⟩
abbrev cX13_span : ByteArray := prog_15_method_100_code
def yX13_span : MethodName := ⟨RX13, "span", "(I)I"⟩
abbrev cX13_liar : ByteArray := prog_15_method_101_code
def yX13_liar : MethodName := ⟨RX13, "liar", "()I"⟩
abbrev cX13_seed : ByteArray := prog_15_method_102_code
def yX13_seed : MethodName := ⟨RX13, "seed", "(I)I"⟩
abbrev cX13_lotGoes : ByteArray := prog_15_method_103_code
def yX13_lotGoes : MethodName := ⟨RX13, "lotGoes", "()I"⟩
abbrev cX13_lot : ByteArray := prog_15_method_104_code
def yX13_lot : MethodName := ⟨RX13, "lot", "()I"⟩
abbrev cX13_often : ByteArray := prog_15_method_105_code
def yX13_often : MethodName := ⟨RX13, "often", "(II)I"⟩
abbrev cX13_prove : ByteArray := prog_15_method_106_code
def yX13_prove : MethodName := ⟨RX13, "prove", "(I)I"⟩
abbrev cX13_isCell : ByteArray := prog_15_method_107_code
def yX13_isCell : MethodName := ⟨RX13, "isCell", "(II)Z"⟩
abbrev cX13_row : ByteArray := prog_15_method_108_code
def yX13_row : MethodName := ⟨RX13, "row", "(II)I"⟩
abbrev cX13_alterRow : ByteArray := prog_15_method_109_code
def yX13_alterRow : MethodName := ⟨RX13, "alterRow", "(III)I"⟩
abbrev cX13_isRight : ByteArray := prog_15_method_110_code
def yX13_isRight : MethodName := ⟨RX13, "isRight", "(I)Z"⟩
abbrev cX13_judge : ByteArray := prog_15_method_111_code
def yX13_judge : MethodName := ⟨RX13, "judge", "()I"⟩
abbrev cX13_isSheet : ByteArray := prog_15_method_112_code
def yX13_isSheet : MethodName := ⟨RX13, "isSheet", "(I)Z"⟩
abbrev cX13_lacksSort : ByteArray := prog_15_method_113_code
def yX13_lacksSort : MethodName := ⟨RX13, "lacksSort", "(II)I"⟩
abbrev cX13_sheet : ByteArray := prog_15_method_114_code
def yX13_sheet : MethodName := ⟨RX13, "sheet", "(III)I"⟩
abbrev cX13_narrowed : ByteArray := prog_15_method_115_code
def yX13_narrowed : MethodName := ⟨RX13, "narrowed", "(II)J"⟩
abbrev cX13_write : ByteArray := prog_15_method_116_code
def yX13_write : MethodName := ⟨RX13, "write", "(III)I"⟩
abbrev cX13_item : ByteArray := prog_15_method_117_code
def yX13_item : MethodName := ⟨RX13, "item", "(III)I"⟩
abbrev cX13_goAll : ByteArray := prog_15_method_118_code
def yX13_goAll : MethodName := ⟨RX13, "goAll", "(III)I"⟩
abbrev cX13_wouldGo : ByteArray := prog_15_method_119_code
def yX13_wouldGo : MethodName := ⟨RX13, "wouldGo", "(III)I"⟩
abbrev cX13_wouldBe : ByteArray := prog_15_method_120_code
def yX13_wouldBe : MethodName := ⟨RX13, "wouldBe", "(III)I"⟩
abbrev cX13_isHeld : ByteArray := prog_15_method_121_code
def yX13_isHeld : MethodName := ⟨RX13, "isHeld", "(II)Z"⟩
abbrev cX13_shelf : ByteArray := prog_15_method_122_code
def yX13_shelf : MethodName := ⟨RX13, "shelf", "(III)I"⟩
abbrev cX13_kindOn : ByteArray := prog_15_method_123_code
def yX13_kindOn : MethodName := ⟨RX13, "kindOn", "(I)I"⟩
abbrev cX13_taken : ByteArray := prog_15_method_124_code
def yX13_taken : MethodName := ⟨RX13, "taken", "(II)I"⟩
abbrev cX13_ran : ByteArray := prog_15_method_125_code
def yX13_ran : MethodName := ⟨RX13, "ran", "(I)V"⟩
abbrev cX13_plainLies : ByteArray := prog_15_method_126_code
def yX13_plainLies : MethodName := ⟨RX13, "plainLies", "(I)I"⟩
abbrev cX13_lies : ByteArray := prog_15_method_127_code
def yX13_lies : MethodName := ⟨RX13, "lies", "(I)I"⟩
abbrev cX13_plainTurns : ByteArray := prog_15_method_128_code
def yX13_plainTurns : MethodName := ⟨RX13, "plainTurns", "(I)I"⟩
abbrev cX13_turns : ByteArray := prog_15_method_129_code
def yX13_turns : MethodName := ⟨RX13, "turns", "(I)I"⟩
abbrev cX13_plainFolds : ByteArray := prog_15_method_130_code
def yX13_plainFolds : MethodName := ⟨RX13, "plainFolds", "(I)I"⟩
abbrev cX13_slowFolds : ByteArray := prog_15_method_131_code
def yX13_slowFolds : MethodName := ⟨RX13, "slowFolds", "(I)I"⟩
abbrev cX13_folds : ByteArray := prog_15_method_132_code
def yX13_folds : MethodName := ⟨RX13, "folds", "(I)I"⟩
abbrev cX13_plainAsks : ByteArray := prog_15_method_133_code
def yX13_plainAsks : MethodName := ⟨RX13, "plainAsks", "(I)I"⟩
abbrev cX13_asks : ByteArray := prog_15_method_134_code
def yX13_asks : MethodName := ⟨RX13, "asks", "(I)I"⟩
abbrev cX13_act : ByteArray := prog_15_method_135_code
def yX13_act : MethodName := ⟨RX13, "act", "(III)I"⟩
abbrev cX13_trace : ByteArray := prog_15_method_136_code
def yX13_trace : MethodName := ⟨RX13, "trace", "(I)I"⟩
abbrev cX13_pairsThatQuarrel : ByteArray := prog_15_method_137_code
def yX13_pairsThatQuarrel : MethodName := ⟨RX13, "pairsThatQuarrel", "()I"⟩
abbrev cX13_many : ByteArray := prog_15_method_138_code
def yX13_many : MethodName := ⟨RX13, "many", "(I)I"⟩
abbrev cX13_keep : ByteArray := prog_15_method_139_code
def yX13_keep : MethodName := ⟨RX13, "keep", "()I"⟩
abbrev cX13_again : ByteArray := prog_15_method_140_code
def yX13_again : MethodName := ⟨RX13, "again", "()I"⟩
def RJ6 : String := "java/lang/Integer"
abbrev cJ6_compare_7cf53 : ByteArray := prog_16_method_40_code
def yJ6_compare_7cf53 : MethodName := ⟨RJ6, "compare", "(II)I"⟩
abbrev cJ6_numberOfLeadingZeros_0f7a4 : ByteArray := prog_16_method_47_code
def yJ6_numberOfLeadingZeros_0f7a4 : MethodName := ⟨RJ6, "numberOfLeadingZeros", "(I)I"⟩
abbrev cJ6_numberOfTrailingZeros_0f7a4 : ByteArray := prog_16_method_48_code
def yJ6_numberOfTrailingZeros_0f7a4 : MethodName := ⟨RJ6, "numberOfTrailingZeros", "(I)I"⟩
abbrev cJ6_bitCount_0f7a4 : ByteArray := prog_16_method_49_code
def yJ6_bitCount_0f7a4 : MethodName := ⟨RJ6, "bitCount", "(I)I"⟩
def RJ9 : String := "java/lang/Math"
abbrev cJ9_abs_0f7a4 : ByteArray := prog_17_method_59_code
def yJ9_abs_0f7a4 : MethodName := ⟨RJ9, "abs", "(I)I"⟩
abbrev cJ9_max_7cf53 : ByteArray := prog_17_method_65_code
def yJ9_max_7cf53 : MethodName := ⟨RJ9, "max", "(II)I"⟩
abbrev cJ9_min_7cf53 : ByteArray := prog_17_method_69_code
def yJ9_min_7cf53 : MethodName := ⟨RJ9, "min", "(II)I"⟩
def RJ0 : String := "java/lang/String"
def RJ10 : String := "java/lang/System"
def RJ7 : String := "java/util/Arrays"
abbrev cJ7_fill_53178 : ByteArray := prog_22_method_103_code
def yJ7_fill_53178 : MethodName := ⟨RJ7, "fill", "([II)V"⟩
end
section
/-! ===== the abstract machine: memory as two functions (ints, longs) over a shape; instructions as Prop transformers (goal first) ===== -/
/-- a field's kind: inl 0 int, inl 1 long, inl 2 boolean; inr: a reference -/
abbrev jw_K : Type := Nat ⊕ Option Nat
/-- a cell's shape: an object (class, fields' kinds) or an array (type: 0 int, 1 long, else references; length; references) -/
abbrev jw_S : Type := (Nat × List jw_K) ⊕ (Nat × Nat × List (Option Nat))
abbrev jw_M : Type := (Nat → Nat → Int32) × (Nat → Nat → Int64)
abbrev jw_H : Type := List jw_S × jw_M
abbrev jw_L : Type := List (Option Value)
/-- resolution of an instruction: a kind or class or target, a number, a list -/
abbrev jw_R : Type := Nat × Nat × List (Int × Nat)
abbrev jw_I : Type := Nat × Instr × Nat × jw_R
abbrev jw_Q : Type := Option Value → jw_H → Prop
abbrev jw_Y : Type := MethodName × ByteArray × Nat × Option FieldType × (Nat × Nat) × List jw_I
def jw_up {α : Type} (M : Nat → Nat → α) (c k : Nat) (v : α) : Nat → Nat → α := fun c' => if c' = c then va_up (M c) k v else M c'
/-- a whole array laid into a cell -/
def jw_lay {α : Type} (M : Nat → Nat → α) (c : Nat) (f : Nat → α) : Nat → Nat → α := fun c' => if c' = c then f else M c'
def jw_self : Nat := 1000001
def jw_str : Nat := 1000000
def jw_tab : List Int32 := [1, 3, 5, 13, 17, 49]
def jw_txt : List Int32 := [115, 104, 97, 100, 111, 119, 32, 106, 111, 105, 110, 101, 100, 32, 103, 105, 102, 116, 101, 100, 32, 99, 111, 108, 111, 117, 114, 101, 100, 32, 115, 108, 111, 119, 32, 98, 111, 114, 114, 111, 119, 101, 100, 32, 108, 97, 115, 116, 32, 101, 97, 115, 121, 32, 112, 108, 97, 121, 32, 105, 102, 32, 111, 114, 32, 97, 110, 100, 32, 110, 111, 116, 32, 104, 111, 117, 114, 32, 108, 101, 97, 114, 110, 116, 32, 113, 117, 105, 99, 107, 32, 116, 97, 108, 108, 32, 110, 117, 109, 98, 101, 114, 32]
def jw_chr (i : Int32) : Int32 := jw_txt.getD i.toNatClampNeg 0
def jw_ssz : jw_S → Nat
  | .inl (_, ks) => ks.length
  | .inr (_, n, _) => n
def jw_sz : List jw_S → Nat
  | [] => 0
  | a :: l => jw_sz l + jw_ssz a
def jw_cat : List Value → Nat
  | [] => 0
  | v :: l => v.category + jw_cat l
/-- a value of two slots that is cut by a store behind it is gone -/
def jw_clr : Option Value → Option Value
  | some (.long _) => none
  | some (.double _) => none
  | u => u
def jw_cl1 (L : jw_L) : Nat → jw_L
  | 0 => L
  | k + 1 => match L[k]? with
    | some u => L.set k (jw_clr u)
    | none => L
def jw_find (ci : Nat) : List (Int × Nat) → Option Nat
  | [] => none
  | (a, b) :: l => bif a == (ci : Int) then some b else jw_find ci l
def jw_swt (x : Int32) : List (Int × Nat) → Nat → (Nat → Prop) → Prop
  | [], d, K => K d
  | (k, t) :: r, d, K => (x = Int32.ofInt k → K t) ∧ (¬ x = Int32.ofInt k → jw_swt x r d K)
def jw_k1 (st : List Value) (f : Int32 → Prop) : Prop := match st with
  | .int x :: _ => f x
  | _ => False
def jw_i1 (st : List Value) (f : Int32 → List Value → Prop) : Prop := match st with
  | .int x :: r => f x r
  | _ => False
def jw_i2 (st : List Value) (f : Int32 → Int32 → List Value → Prop) : Prop := match st with
  | .int y :: .int x :: r => f x y r
  | _ => False
def jw_l1 (st : List Value) (f : Int64 → List Value → Prop) : Prop := match st with
  | .long x :: r => f x r
  | _ => False
def jw_l2 (st : List Value) (f : Int64 → Int64 → List Value → Prop) : Prop := match st with
  | .long y :: .long x :: r => f x y r
  | _ => False
def jw_li (st : List Value) (f : Int64 → Int32 → List Value → Prop) : Prop := match st with
  | .int y :: .long x :: r => f x y r
  | _ => False
def jw_r1 (st : List Value) (f : Nat → List Value → Prop) : Prop := match st with
  | .ref x :: r => f x r
  | _ => False
/-- an array's place: index over reference -/
def jw_ix (st : List Value) (f : Int32 → Nat → List Value → Prop) : Prop := match st with
  | .int i :: .ref a :: r => f i a r
  | _ => False
def jw_ld (L : jw_L) (k : Nat) (f : Value → Prop) : Prop := match L[k]? with
  | some (some v) => f v
  | _ => False
def jw_ldi (L : jw_L) (k : Nat) (f : Int32 → Prop) : Prop := match L[k]? with
  | some (some (.int x)) => f x
  | _ => False
def jw_ldl (L : jw_L) (k : Nat) (f : Int64 → Prop) : Prop := match L[k]? with
  | some (some (.long x)) => f x
  | _ => False
def jw_lda (L : jw_L) (k : Nat) (f : Nat → Prop) : Prop := match L[k]? with
  | some (some (.ref x)) => f x
  | _ => False
/-- storing a value of one slot -/
def jw_sto (L : jw_L) (k : Nat) (v : Value) (f : jw_L → Prop) : Prop := bif Nat.blt k L.length then f ((jw_cl1 L k).set k (some v)) else False
def jw_stl (L : jw_L) (k : Nat) (x : Int64) (f : jw_L → Prop) : Prop := bif Nat.blt (k + 1) L.length then f (((jw_cl1 L k).set k (some (.long x))).set (k + 1) none) else False
def jw_get (h : jw_H) (ci k i : Nat) (f : Value → Prop) : Prop := match h.1[i]? with
  | some (.inl (cj, ks)) => bif cj == ci then (match ks[k]? with
    | some (.inl 1) => f (.long (h.2.2 i k))
    | some (.inl _) => f (.int (h.2.1 i k))
    | some (.inr o) => f (va_rf o)
    | none => False) else False
  | _ => False
def jw_put (h : jw_H) (ci k : Nat) (code : List (Int × Nat)) (st : List Value) (f : List Value → jw_H → Prop) : Prop := match code, st with
  | [(_, 0)], .int x :: .ref i :: r => (match h.1[i]? with
    | some (.inl (cj, ks)) => bif cj == ci then (match ks[k]? with
      | some (.inl 0) => f r (h.1, jw_up h.2.1 i k x, h.2.2)
      | _ => False) else False
    | _ => False)
  | [(_, 2)], .int x :: .ref i :: r => (match h.1[i]? with
    | some (.inl (cj, ks)) => bif cj == ci then (match ks[k]? with
      | some (.inl 2) => (x = 0 ∨ x = 1) ∧ f r (h.1, jw_up h.2.1 i k x, h.2.2)
      | _ => False) else False
    | _ => False)
  | [(_, 1)], .long x :: .ref i :: r => (match h.1[i]? with
    | some (.inl (cj, ks)) => bif cj == ci then (match ks[k]? with
      | some (.inl 1) => f r (h.1, h.2.1, jw_up h.2.2 i k x)
      | _ => False) else False
    | _ => False)
  | [(_, 3)], .ref j :: .ref i :: r => (match h.1[i]? with
    | some (.inl (cj, ks)) => bif cj == ci then (match ks[k]? with
      | some (.inr _) => f r (h.1.set i (.inl (cj, ks.set k (.inr (some j)))), h.2)
      | _ => False) else False
    | _ => False)
  | _, _ => False
def jw_iald (h : jw_H) (i : Int32) (a : Nat) (f : Int32 → Prop) : Prop := match h.1[a]? with
  | some (.inr (0, n, _)) => vp_in i n ∧ f (h.2.1 a i.toNatClampNeg)
  | some _ => False
  | none => a = jw_self ∧ vp_in i 6 ∧ f (jw_tab.getD i.toNatClampNeg 0)
def jw_lald (h : jw_H) (i : Int32) (a : Nat) (f : Int64 → Prop) : Prop := match h.1[a]? with
  | some (.inr (1, n, _)) => vp_in i n ∧ f (h.2.2 a i.toNatClampNeg)
  | _ => False
def jw_aald (h : jw_H) (i : Int32) (a : Nat) (f : Value → Prop) : Prop := match h.1[a]? with
  | some (.inr (t + 2, n, rs)) => bif Nat.blt t 3 then vp_in i n ∧ f (va_rf (rs.getD i.toNatClampNeg none)) else False
  | _ => False
def jw_iast (h : jw_H) (st : List Value) (f : List Value → jw_H → Prop) : Prop := match st with
  | .int x :: .int i :: .ref a :: r => (match h.1[a]? with
    | some (.inr (0, n, _)) => vp_in i n ∧ f r (h.1, jw_up h.2.1 a i.toNatClampNeg x, h.2.2)
    | _ => False)
  | _ => False
def jw_last (h : jw_H) (st : List Value) (f : List Value → jw_H → Prop) : Prop := match st with
  | .long x :: .int i :: .ref a :: r => (match h.1[a]? with
    | some (.inr (1, n, _)) => vp_in i n ∧ f r (h.1, h.2.1, jw_up h.2.2 a i.toNatClampNeg x)
    | _ => False)
  | _ => False
/-- storing a reference into an array of references: only at places that are numbers already, of objects of the array's class -/
def jw_aast (h : jw_H) (st : List Value) (f : List Value → jw_H → Prop) : Prop := match st with
  | .ref j :: .int i :: .ref a :: r => (match h.1[a]?, h.1[j]? with
    | some (.inr (t + 2, n, rs)), some (.inl (cj, _)) => vp_in i n ∧ (bif ((t == 0 && cj == 6) || (t == 1 && (cj == 0 || cj == 1 || cj == 2 || cj == 4 || cj == 10 || cj == 11))) && Nat.blt i.toNatClampNeg rs.length then f r (h.1.set a (.inr (t + 2, n, rs.set i.toNatClampNeg (some j))), h.2) else False)
    | _, _ => False)
  | _ => False
def jw_alen (h : jw_H) (a : Nat) (f : Int32 → Prop) : Prop := match h.1[a]? with
  | some (.inr (t, n, _)) => bif Nat.blt t 5 then f (Int32.ofNat n) else False
  | _ => False
/-- the cell that 'new' makes: kinds by class -/
def jw_new (h : jw_H) (lim : Nat × Nat) (ci : Nat) (ks : List jw_K) (f : Nat → jw_H → Prop) : Prop :=
  bif Nat.ble (h.1.length + 1) lim.1 && Nat.ble (jw_sz h.1 + ks.length) lim.2 then f h.1.length (h.1 ++ [.inl (ci, ks)], jw_lay h.2.1 h.1.length (fun _ => 0), jw_lay h.2.2 h.1.length (fun _ => 0)) else False
def jw_newa (h : jw_H) (lim : Nat × Nat) (t n : Nat) (f : Nat → jw_H → Prop) : Prop :=
  bif Nat.ble (h.1.length + 1) lim.1 && (Nat.ble (jw_sz h.1 + n) lim.2 && Nat.ble n 100000) then f h.1.length (h.1 ++ [.inr (t, n, bif Nat.blt t 2 then [] else List.replicate n none)], jw_lay h.2.1 h.1.length (fun _ => 0), jw_lay h.2.2 h.1.length (fun _ => 0)) else False
def jw_zero {α : Type} (z : α) (M : Nat → Nat → α) (n : Nat) : Nat → Nat → α := fun c => if c < n then M c else fun _ => z
/-- new int[n][k] -/
def jw_mna (h : jw_H) (lim : Nat × Nat) (n k : Nat) (f : Nat → jw_H → Prop) : Prop :=
  bif Nat.ble (h.1.length + (1 + n)) lim.1 && (Nat.ble (jw_sz h.1 + (n + n * k)) lim.2 && (Nat.ble n 1000 && Nat.ble k 1000)) then f h.1.length (h.1 ++ (.inr (4, n, (List.range n).map (fun i => some (h.1.length + 1 + i))) :: List.replicate n (.inr (0, k, []))), jw_zero 0 h.2.1 h.1.length, jw_zero 0 h.2.2 h.1.length) else False
def jw_ok (ret : Option FieldType) (x : Int32) (P : Prop) : Prop := match ret with
  | some .int => P
  | some .boolean => (x = 0 ∨ x = 1) ∧ P
  | _ => False
/-- a call: the arguments off the stack, the method by the receiver's class -/
def jw_call (C : Nat → List Value → jw_H → jw_Q → Prop) (bud : Nat → Nat × Nat) (lim : Nat × Nat) (res : jw_R) (st : List Value) (h : jw_H) (f : List Value → jw_H → Prop) : Prop :=
  match st.drop res.2.1 with
  | .ref b :: r => (match h.1[b]? with
    | some (.inl (ci, _)) => (match jw_find ci res.2.2 with
      | some mid => bif Nat.blt res.2.1 st.length && (Nat.ble (jw_cat r) 8 && ((bud mid == (0, 0)) || (Nat.ble (h.1.length + (bud mid).1) lim.1 && Nat.ble (jw_sz h.1 + (bud mid).2) lim.2))) then C mid (.ref b :: (st.take res.2.1).reverse) h (fun v h' => f (v.toList ++ r) h') else False
      | none => False)
    | _ => False)
  | _ => False
/-- a virtual call: of an object of the world, or of the String constant -/
def jw_callV (C : Nat → List Value → jw_H → jw_Q → Prop) (bud : Nat → Nat × Nat) (lim : Nat × Nat) (res : jw_R) (st : List Value) (h : jw_H) (f : List Value → jw_H → Prop) : Prop :=
  match st.drop res.2.1 with
  | .ref b :: r => (match h.1[b]? with
    | none => bif b == jw_str && (Nat.blt res.2.1 st.length && (Nat.ble (jw_cat r) 8 && (res.1 == 100000 || res.1 == 100001))) then C res.1 (.ref b :: (st.take res.2.1).reverse) h (fun v h' => f (v.toList ++ r) h') else False
    | some _ => jw_call C bud lim res st h f)
  | _ => False
def jw_callS (C : Nat → List Value → jw_H → jw_Q → Prop) (bud : Nat → Nat × Nat) (lim : Nat × Nat) (res : jw_R) (st : List Value) (h : jw_H) (f : List Value → jw_H → Prop) : Prop :=
  match jw_find 0 res.2.2 with
  | some mid => bif Nat.ble res.2.1 st.length && (Nat.ble (jw_cat (st.drop res.2.1)) 8 && ((bud mid == (0, 0)) || (Nat.ble (h.1.length + (bud mid).1) lim.1 && Nat.ble (jw_sz h.1 + (bud mid).2) lim.2))) then C mid (st.take res.2.1).reverse h (fun v h' => f (v.toList ++ st.drop res.2.1) h') else False
  | none => False
/-- System.arraycopy of ints -/
def jw_copy (h : jw_H) (st : List Value) (f : List Value → jw_H → Prop) : Prop := match st with
  | .int n :: .int dp :: .ref a :: .int sp :: .ref a0 :: r => (match h.1[a]?, h.1[a0]? with
    | some (.inr (0, n1, _)), some (.inr (0, n0, _)) => (¬ sp < 0 ∧ ¬ dp < 0 ∧ ¬ n < 0 ∧ sp.toNatClampNeg + n.toNatClampNeg ≤ n0 ∧ dp.toNatClampNeg + n.toNatClampNeg ≤ n1) ∧ (bif Nat.ble (jw_cat r) 8 then f r (h.1, jw_lay h.2.1 a (va_cpy (h.2.1 a0) (h.2.1 a) sp.toNatClampNeg dp.toNatClampNeg n.toNatClampNeg), h.2.2) else False)
    | _, _ => False)
  | _ => False
/-- one instruction: what must hold that the machine comes to Q; K: the rest -/
def jw_step (kd : Nat → List jw_K) (C : Nat → List Value → jw_H → jw_Q → Prop) (bud : Nat → Nat × Nat) (lim : Nat × Nat) (ret : Option FieldType) (q : jw_I) (L : jw_L) (st : List Value) (h : jw_H) (Q : jw_Q) (K : Nat → jw_L → List Value → jw_H → Prop) : Prop :=
  match q.2.1 with
  | .iconst i => K (q.1 + 1) L (.int (Int32.ofInt i) :: st) h
  | .bipush i => K (q.1 + 2) L (.int (Int8.ofInt i).toInt32 :: st) h
  | .sipush i => K (q.1 + 3) L (.int (Int16.ofInt i).toInt32 :: st) h
  | .lconst i => K (q.1 + 1) L (.long (Int64.ofNat (i : Nat)) :: st) h
  | .ldc _ => match q.2.2.2.2.2 with
    | [(v, _)] => bif q.2.2.2.1 == 0 then K (q.1 + 2) L (.int (Int32.ofInt v) :: st) h else K (q.1 + 2) L (.ref jw_str :: st) h
    | _ => False
  | .ldc_w _ => match q.2.2.2.2.2 with
    | [(v, _)] => K (q.1 + 3) L (.int (Int32.ofInt v) :: st) h
    | _ => False
  | .ldc2_w _ => match q.2.2.2.2.2 with
    | [(v, _)] => K (q.1 + 3) L (.long (Int64.ofInt v) :: st) h
    | _ => False
  | .iload_n k => jw_ldi L k fun x => K (q.1 + 1) L (.int x :: st) h
  | .iload k => jw_ldi L k fun x => K (q.1 + 2) L (.int x :: st) h
  | .lload_n k => jw_ldl L k fun x => K (q.1 + 1) L (.long x :: st) h
  | .lload k => jw_ldl L k fun x => K (q.1 + 2) L (.long x :: st) h
  | .aload_n k => jw_lda L k fun x => K (q.1 + 1) L (.ref x :: st) h
  | .aload k => jw_lda L k fun x => K (q.1 + 2) L (.ref x :: st) h
  | .istore_n k => jw_i1 st fun x r => jw_sto L k (.int x) fun L => K (q.1 + 1) L r h
  | .istore k => jw_i1 st fun x r => jw_sto L k (.int x) fun L => K (q.1 + 2) L r h
  | .lstore_n k => jw_l1 st fun x r => jw_stl L k x fun L => K (q.1 + 1) L r h
  | .lstore k => jw_l1 st fun x r => jw_stl L k x fun L => K (q.1 + 2) L r h
  | .astore_n k => jw_r1 st fun x r => jw_sto L k (.ref x) fun L => K (q.1 + 1) L r h
  | .astore k => jw_r1 st fun x r => jw_sto L k (.ref x) fun L => K (q.1 + 2) L r h
  | .iinc k n => jw_ldi L k fun x => jw_sto L k (.int (x + Int32.ofInt n)) fun L => K (q.1 + 3) L st h
  | .iadd => jw_i2 st fun x y r => K (q.1 + 1) L (.int (x + y) :: r) h
  | .isub => jw_i2 st fun x y r => K (q.1 + 1) L (.int (x - y) :: r) h
  | .imul => jw_i2 st fun x y r => K (q.1 + 1) L (.int (x * y) :: r) h
  | .iand => jw_i2 st fun x y r => K (q.1 + 1) L (.int (x &&& y) :: r) h
  | .ior => jw_i2 st fun x y r => K (q.1 + 1) L (.int (x ||| y) :: r) h
  | .ixor => jw_i2 st fun x y r => K (q.1 + 1) L (.int (x ^^^ y) :: r) h
  | .idiv => jw_i2 st fun x y r => ¬ y = 0 ∧ K (q.1 + 1) L (.int (x / y) :: r) h
  | .irem => jw_i2 st fun x y r => ¬ y = 0 ∧ K (q.1 + 1) L (.int (x - x / y * y) :: r) h
  | .ishl => jw_i2 st fun x y r => K (q.1 + 1) L (.int (x <<< (y &&& 31)) :: r) h
  | .ishr => jw_i2 st fun x y r => K (q.1 + 1) L (.int (x >>> (y &&& 31)) :: r) h
  | .iushr => jw_i2 st fun x y r => K (q.1 + 1) L (.int (x.toUInt32 >>> (y.toUInt32 &&& Int32.toUInt32 31)).toInt32 :: r) h
  | .ineg => jw_i1 st fun x r => K (q.1 + 1) L (.int (-x) :: r) h
  | .ladd => jw_l2 st fun x y r => K (q.1 + 1) L (.long (x + y) :: r) h
  | .lsub => jw_l2 st fun x y r => K (q.1 + 1) L (.long (x - y) :: r) h
  | .lmul => jw_l2 st fun x y r => K (q.1 + 1) L (.long (x * y) :: r) h
  | .land => jw_l2 st fun x y r => K (q.1 + 1) L (.long (x &&& y) :: r) h
  | .lor => jw_l2 st fun x y r => K (q.1 + 1) L (.long (x ||| y) :: r) h
  | .lshl => jw_li st fun x y r => K (q.1 + 1) L (.long (x <<< (y.toInt64 &&& 63)) :: r) h
  | .lshr => jw_li st fun x y r => K (q.1 + 1) L (.long (x >>> (y.toInt64 &&& 63)) :: r) h
  | .lcmp => jw_l2 st fun x y r => K (q.1 + 1) L (.int (lg_cmp x y) :: r) h
  | .i2l => jw_i1 st fun x r => K (q.1 + 1) L (.long x.toInt64 :: r) h
  | .l2i => jw_l1 st fun x r => K (q.1 + 1) L (.int x.toInt32 :: r) h
  | .i2b => jw_i1 st fun x r => K (q.1 + 1) L (.int x.toInt8.toInt32 :: r) h
  | .i2s => jw_i1 st fun x r => K (q.1 + 1) L (.int x.toInt16.toInt32 :: r) h
  | .dup => match st with
    | .int x :: r => K (q.1 + 1) L (.int x :: .int x :: r) h
    | .ref x :: r => K (q.1 + 1) L (.ref x :: .ref x :: r) h
    | _ => False
  | .dup_x1 => match st with
    | .int x :: .ref y :: r => K (q.1 + 1) L (.int x :: .ref y :: .int x :: r) h
    | .int x :: .int y :: r => K (q.1 + 1) L (.int x :: .int y :: .int x :: r) h
    | _ => False
  | .dup2 => match st with
    | .int x :: .ref y :: r => K (q.1 + 1) L (.int x :: .ref y :: .int x :: .ref y :: r) h
    | _ => False
  | .pop => match st with
    | .int _ :: r => K (q.1 + 1) L r h
    | .ref _ :: r => K (q.1 + 1) L r h
    | _ => False
  | .goto _ => K q.2.2.2.1 L st h
  | .ifCond .eq _ => jw_i1 st fun x r => (x = 0 → K q.2.2.2.1 L r h) ∧ (¬ x = 0 → K (q.1 + 3) L r h)
  | .ifCond .ne _ => jw_i1 st fun x r => (¬ x = 0 → K q.2.2.2.1 L r h) ∧ (x = 0 → K (q.1 + 3) L r h)
  | .ifCond .lt _ => jw_i1 st fun x r => (x < 0 → K q.2.2.2.1 L r h) ∧ (¬ x < 0 → K (q.1 + 3) L r h)
  | .ifCond .ge _ => jw_i1 st fun x r => (0 ≤ x → K q.2.2.2.1 L r h) ∧ (¬ 0 ≤ x → K (q.1 + 3) L r h)
  | .ifCond .gt _ => jw_i1 st fun x r => (0 < x → K q.2.2.2.1 L r h) ∧ (¬ 0 < x → K (q.1 + 3) L r h)
  | .ifCond .le _ => jw_i1 st fun x r => (x ≤ 0 → K q.2.2.2.1 L r h) ∧ (¬ x ≤ 0 → K (q.1 + 3) L r h)
  | .if_icmp .eq _ => jw_i2 st fun x y r => (x = y → K q.2.2.2.1 L r h) ∧ (¬ x = y → K (q.1 + 3) L r h)
  | .if_icmp .ne _ => jw_i2 st fun x y r => (¬ x = y → K q.2.2.2.1 L r h) ∧ (x = y → K (q.1 + 3) L r h)
  | .if_icmp .lt _ => jw_i2 st fun x y r => (x < y → K q.2.2.2.1 L r h) ∧ (¬ x < y → K (q.1 + 3) L r h)
  | .if_icmp .ge _ => jw_i2 st fun x y r => (y ≤ x → K q.2.2.2.1 L r h) ∧ (¬ y ≤ x → K (q.1 + 3) L r h)
  | .if_icmp .gt _ => jw_i2 st fun x y r => (y < x → K q.2.2.2.1 L r h) ∧ (¬ y < x → K (q.1 + 3) L r h)
  | .if_icmp .le _ => jw_i2 st fun x y r => (x ≤ y → K q.2.2.2.1 L r h) ∧ (¬ x ≤ y → K (q.1 + 3) L r h)
  | .tableswitch _ _ _ _ => jw_i1 st fun x r => jw_swt x q.2.2.2.2.2 q.2.2.2.1 fun t => K t L r h
  | .lookupswitch _ _ => jw_i1 st fun x r => jw_swt x q.2.2.2.2.2 q.2.2.2.1 fun t => K t L r h
  | .getfield _ => jw_r1 st fun i r => jw_get h q.2.2.2.1 q.2.2.2.2.1 i fun v => K (q.1 + 3) L (v :: r) h
  | .putfield _ => jw_put h q.2.2.2.1 q.2.2.2.2.1 q.2.2.2.2.2 st fun r h => K (q.1 + 3) L r h
  | .getstatic _ => K (q.1 + 3) L (.ref jw_self :: st) h
  | .iaload => jw_ix st fun i a r => jw_iald h i a fun x => K (q.1 + 1) L (.int x :: r) h
  | .laload => jw_ix st fun i a r => jw_lald h i a fun x => K (q.1 + 1) L (.long x :: r) h
  | .aaload => jw_ix st fun i a r => jw_aald h i a fun v => K (q.1 + 1) L (v :: r) h
  | .iastore => jw_iast h st fun r h => K (q.1 + 1) L r h
  | .lastore => jw_last h st fun r h => K (q.1 + 1) L r h
  | .aastore => jw_aast h st fun r h => K (q.1 + 1) L r h
  | .arraylength => jw_r1 st fun a r => jw_alen h a fun x => K (q.1 + 1) L (.int x :: r) h
  | .new _ => jw_new h lim q.2.2.2.1 (kd q.2.2.2.1) fun a h => K (q.1 + 3) L (.ref a :: st) h
  | .newarray _ => jw_i1 st fun x r => ¬ x < 0 ∧ jw_newa h lim q.2.2.2.1 x.toNatClampNeg fun a h => K (q.1 + 2) L (.ref a :: r) h
  | .anewarray _ => jw_i1 st fun x r => ¬ x < 0 ∧ jw_newa h lim q.2.2.2.1 x.toNatClampNeg fun a h => K (q.1 + 3) L (.ref a :: r) h
  | .multianewarray _ _ => match st with
    | .int k :: .int n :: r => ¬ n < 0 ∧ ¬ k < 0 ∧ jw_mna h lim n.toNatClampNeg k.toNatClampNeg fun a h => K (q.1 + 4) L (.ref a :: r) h
    | _ => False
  | .invokevirtual _ => jw_callV C bud lim q.2.2.2 st h fun st h => K (q.1 + 3) L st h
  | .invokespecial _ => bif q.2.2.2.1 == 7 then jw_r1 st fun _ r => (bif Nat.ble (jw_cat r) 8 then K (q.1 + 3) L r h else False) else jw_call C bud lim q.2.2.2 st h fun st h => K (q.1 + 3) L st h
  | .invokestatic _ => bif q.2.2.2.1 == 8 then jw_copy h st fun r h => K (q.1 + 3) L r h else jw_callS C bud lim q.2.2.2 st h fun st h => K (q.1 + 3) L st h
  | .ireturn => match st with
    | [.int x] => jw_ok ret x (Q (some (.int x)) h)
    | _ => False
  | .lreturn => match st with
    | [.long x] => (bif ret == some .long then Q (some (.long x)) h else False)
    | _ => False
  | .areturn => match st with
    | [.ref x] => (match ret with | some (.object _) => Q (some (.ref x)) h | _ => False)
    | _ => False
  | .return_ => match st with
    | [] => (bif ret == none then Q none h else False)
    | _ => False
  | _ => False
def jw_at (pc : Nat) : List jw_I → Option jw_I
  | [] => none
  | q :: l => bif q.1 == pc then some q else jw_at pc l
/-- n instructions at most -/
def jw_wp (kd : Nat → List jw_K) (C : Nat → List Value → jw_H → jw_Q → Prop) (bud : Nat → Nat × Nat) (lim : Nat × Nat) (ret : Option FieldType) (cs : List jw_I) (Q : jw_Q) : Nat → Nat → jw_L → List Value → jw_H → Prop
  | 0, _, _, _, _ => False
  | n + 1, pc, L, st, h => match jw_at pc cs with
    | some q => jw_step kd C bud lim ret q L st h Q (jw_wp kd C bud lim ret cs Q n)
    | none => False
def jw_args : List Value → jw_L
  | [] => []
  | .long x :: l => some (.long x) :: none :: jw_args l
  | v :: l => some v :: jw_args l
def jw_entry (as : List Value) (nL : Nat) : jw_L := jw_args as ++ List.replicate (nL - (jw_args as).length) none
def jw_bud (ys : List jw_Y) (mid : Nat) : Nat × Nat := match ys[mid]? with
  | some y => y.2.2.2.2.1
  | none => (0, 0)
def jw_nod : List Value → Bool
  | [] => true
  | .double _ :: _ => false
  | .retAddr _ :: _ => false
  | _ :: l => jw_nod l
/-- a method, called with so many frames left below it -/
def jw_C (kd : Nat → List jw_K) (ys : List jw_Y) : Nat → Nat → List Value → jw_H → jw_Q → Prop
  | 0, _, _, _, _ => False
  | d + 1, mid, as, h, Q => match ys[mid]? with
    | some y => bif Nat.ble (jw_args as).length y.2.2.1 && jw_nod as then ∃ n, jw_wp kd (jw_C kd ys d) (jw_bud ys) (h.1.length + y.2.2.2.2.1.1, jw_sz h.1 + y.2.2.2.2.1.2) y.2.2.2.1 y.2.2.2.2.2 (fun v h' => Q v h' ∧ h'.1.length = h.1.length + y.2.2.2.2.1.1 ∧ jw_sz h'.1 = jw_sz h.1 + y.2.2.2.2.1.2) n 0 (jw_entry as y.2.2.1) [] h else False
    | none => (mid = 100000 ∧ 4 ≤ d ∧ as = [.ref jw_str] ∧ Q (some (.int 103)) h) ∨ (mid = 100001 ∧ 4 ≤ d ∧ ∃ i, as = [.ref jw_str, .int i] ∧ vp_in i 103 ∧ Q (some (.int (jw_chr i))) h)
end
section
/-! ===== the abstract machine's world as the kit's: addresses by α, array classes by cy ===== -/
def jw_ad (α : Nat → Nat) : Value → Value
  | .ref i => .ref (α i)
  | v => v
theorem jw_ad_cat (α : Nat → Nat) (v : Value) : (jw_ad α v).category = v.category := by cases v <;> rfl
theorem jw_ad_rf (α : Nat → Nat) (o : Option Nat) : jw_ad α (va_rf o) = va_rf (o.map α) := by cases o <;> rfl
def jw_fld (α : Nat → Nat) (M : jw_M) (i k : Nat) : jw_K → Value
  | .inl 1 => .long (M.2 i k)
  | .inl _ => .int (M.1 i k)
  | .inr o => va_rf (o.map α)
def jw_cell (cy : Nat → ClassId) (α : Nat → Nat) (M : jw_M) (i : Nat) : jw_S → va_E
  | .inl (ci, ks) => .inr (ci, ks.mapIdx (jw_fld α M i))
  | .inr (0, n, _) => .inl (cy 0, n, .inl (M.1 i))
  | .inr (1, n, _) => .inl (cy 1, n, .inr (.inl (M.2 i)))
  | .inr (t + 2, n, rs) => .inl (cy (t + 2), n, .inr (.inr (.inr (.inr (fun k => (rs.getD k none).map α)))))
def jw_wld (cy : Nat → ClassId) (α : Nat → Nat) (h : jw_H) : va_W := h.1.mapIdx (fun i sh => (α i, jw_cell cy α h.2 i sh))
theorem jw_wld_get (cy : Nat → ClassId) (α : Nat → Nat) (h : jw_H) (i : Nat) : (jw_wld cy α h)[i]? = (h.1[i]?).map (fun sh => (α i, jw_cell cy α h.2 i sh)) := by
  simp [jw_wld, List.getElem?_mapIdx]
theorem jw_wld_some {cy : Nat → ClassId} {α : Nat → Nat} {h : jw_H} {i : Nat} {sh : jw_S} (hi : h.1[i]? = some sh) : (jw_wld cy α h)[i]? = some (α i, jw_cell cy α h.2 i sh) := by
  rw [jw_wld_get, hi]; rfl
theorem jw_wld_length (cy : Nat → ClassId) (α : Nat → Nat) (h : jw_H) : (jw_wld cy α h).length = h.1.length := by simp [jw_wld]
theorem jw_up_ne {α : Type} {M : Nat → Nat → α} {c k : Nat} {v : α} {i : Nat} (h : i ≠ c) : jw_up M c k v i = M i := if_neg h
theorem jw_up_eq {α : Type} {M : Nat → Nat → α} {c k : Nat} {v : α} : jw_up M c k v c = va_up (M c) k v := if_pos rfl
theorem jw_lay_ne {α : Type} {M : Nat → Nat → α} {c : Nat} {f : Nat → α} {i : Nat} (h : i ≠ c) : jw_lay M c f i = M i := if_neg h
theorem jw_lay_eq {α : Type} {M : Nat → Nat → α} {c : Nat} {f : Nat → α} : jw_lay M c f c = f := if_pos rfl
theorem jw_fld_same {α : Nat → Nat} {M M' : jw_M} {i k : Nat} (h1 : M'.1 i k = M.1 i k) (h2 : M'.2 i k = M.2 i k) (kd : jw_K) : jw_fld α M' i k kd = jw_fld α M i k kd := by
  unfold jw_fld
  split
  · rw [h2]
  · rw [h1]
  · rfl
theorem jw_cell_same {cy : Nat → ClassId} {α : Nat → Nat} {M M' : jw_M} {i : Nat} (h1 : M'.1 i = M.1 i) (h2 : M'.2 i = M.2 i) (sh : jw_S) : jw_cell cy α M' i sh = jw_cell cy α M i sh := by
  unfold jw_cell
  split
  · congr 3
    funext k kd
    exact jw_fld_same (by rw [h1]) (by rw [h2]) kd
  · rw [h1]
  · rw [h2]
  · rfl
/-- the world with one cell changed -/
theorem jw_wld_set {cy : Nat → ClassId} {α : Nat → Nat} {h h' : jw_H} {a : Nat} {sh sh' : jw_S} (ha : h.1[a]? = some sh) (hs : h'.1 = h.1.set a sh') (h1 : ∀ i, i ≠ a → h'.2.1 i = h.2.1 i) (h2 : ∀ i, i ≠ a → h'.2.2 i = h.2.2 i) : jw_wld cy α h' = (jw_wld cy α h).set a (α a, jw_cell cy α h'.2 a sh') := by
  apply List.ext_getElem?
  intro i
  have hal : a < h.1.length := (List.getElem?_eq_some_iff.mp ha).1
  rw [jw_wld_get, hs, List.getElem?_set, List.getElem?_set, jw_wld_get, jw_wld_length]
  by_cases e : a = i
  · subst e
    simp [hal]
  · rw [if_neg e, if_neg e]
    cases hi : h.1[i]? with
    | none => rfl
    | some s0 => simp [jw_cell_same (h1 i (fun q => e q.symm)) (h2 i (fun q => e q.symm)) s0]
theorem jw_list_set {α : Type} {l : List α} {a : Nat} {x : α} (h : l[a]? = some x) : l.set a x = l := by
  apply List.ext_getElem?
  intro i
  rw [List.getElem?_set]
  by_cases e : a = i
  · subst e
    rw [if_pos rfl, if_pos (List.getElem?_eq_some_iff.mp h).1, h]
  · rw [if_neg e]
theorem jw_wld_keep {cy : Nat → ClassId} {α : Nat → Nat} {h h' : jw_H} {a : Nat} {sh : jw_S} (ha : h.1[a]? = some sh) (hs : h'.1 = h.1) (h1 : ∀ i, i ≠ a → h'.2.1 i = h.2.1 i) (h2 : ∀ i, i ≠ a → h'.2.2 i = h.2.2 i) : jw_wld cy α h' = (jw_wld cy α h).set a (α a, jw_cell cy α h'.2 a sh) :=
  jw_wld_set ha (by rw [hs, jw_list_set ha]) h1 h2
/-- an object's cell with one field changed -/
theorem jw_flds_up {α : Nat → Nat} {M M' : jw_M} {i k : Nat} {ks : List jw_K} {kd kd' : jw_K} {v : Value} (hk : ks[k]? = some kd) (hv : jw_fld α M' i k kd' = v) (h : ∀ j, j ≠ k → M'.1 i j = M.1 i j ∧ M'.2 i j = M.2 i j) : (ks.set k kd').mapIdx (jw_fld α M' i) = (ks.mapIdx (jw_fld α M i)).set k v := by
  apply List.ext_getElem?
  intro j
  have hl := (List.getElem?_eq_some_iff.mp hk).1
  rw [List.getElem?_mapIdx, List.getElem?_set, List.getElem?_set, List.getElem?_mapIdx, List.length_mapIdx]
  by_cases e : k = j
  · subst e
    simp [hl, hv]
  · rw [if_neg e, if_neg e]
    cases hj : ks[j]? with
    | none => rfl
    | some q => simp [jw_fld_same (h j (fun z => e z.symm)).1 (h j (fun z => e z.symm)).2 q]
/-! the locals -/
def jw_asc (α : Nat → Nat) : Nat → jw_L → List (Nat × Value)
  | _, [] => []
  | k, none :: l => jw_asc α (k + 1) l
  | k, some v :: l => (k, jw_ad α v) :: jw_asc α (k + 1) l
theorem jw_asc_mem {α : Nat → Nat} {q : Nat × Value} : ∀ {L : jw_L} {k : Nat}, q ∈ jw_asc α k L ↔ ∃ (j : Nat) (v : Value), L[j]? = some (some v) ∧ q = (k + j, jw_ad α v)
  | [], k => by simp [jw_asc]
  | none :: l, k => by
    rw [jw_asc, jw_asc_mem]
    constructor
    · rintro ⟨j, v, h1, h2⟩
      exact ⟨j + 1, v, by simpa using h1, by rw [h2]; congr 1; omega⟩
    · rintro ⟨j, v, h1, h2⟩
      cases j with
      | zero => simp at h1
      | succ j => exact ⟨j, v, by simpa using h1, by rw [h2]; congr 1; omega⟩
  | some u :: l, k => by
    rw [jw_asc, List.mem_cons, jw_asc_mem]
    constructor
    · rintro (h | ⟨j, v, h1, h2⟩)
      · exact ⟨0, u, rfl, by rw [h]; rfl⟩
      · exact ⟨j + 1, v, by simpa using h1, by rw [h2]; congr 1; omega⟩
    · rintro ⟨j, v, h1, h2⟩
      cases j with
      | zero =>
        left
        simp at h1
        rw [h2, h1]
        rfl
      | succ j => exact Or.inr ⟨j, v, by simpa using h1, by rw [h2]; congr 1; omega⟩
theorem jw_loc {α : Nat → Nat} {ls : Array Slot} {nL k : Nat} {L : jw_L} {v : Value} (hl : lv_has ls nL (jw_asc α 0 L)) (hk : L[k]? = some (some v)) : ls[k]? = some (.val (jw_ad α v)) :=
  hl.2.2 (k, jw_ad α v) (jw_asc_mem.mpr ⟨k, v, hk, by simp⟩)
theorem jw_cl1_len (L : jw_L) : ∀ k, (jw_cl1 L k).length = L.length
  | 0 => rfl
  | k + 1 => by
    rw [jw_cl1]
    split
    · rw [List.length_set]
    · rfl
theorem jw_cl1_get {L : jw_L} {j : Nat} {u : Value} : ∀ {k : Nat}, (jw_cl1 L k)[j]? = some (some u) → L[j]? = some (some u) ∧ (j + 1 = k → u.category = 1)
  | 0, h => ⟨h, fun q => by omega⟩
  | k + 1, h => by
    rw [jw_cl1] at h
    split at h
    · rename_i w hw
      rw [List.getElem?_set] at h
      by_cases e : k = j
      · subst e
        rw [if_pos rfl, if_pos (List.getElem?_eq_some_iff.mp hw).1] at h
        have h2 : jw_clr w = some u := Option.some.inj h
        unfold jw_clr at h2
        split at h2
        · cases h2
        · cases h2
        · rename_i n1 n2
          rw [h2] at n1 n2 hw
          refine ⟨hw, fun _ => ?_⟩
          cases u with
          | long v => exact (n1 v rfl).elim
          | double v => exact (n2 v rfl).elim
          | _ => rfl
      · rw [if_neg e] at h
        exact ⟨h, fun q => by omega⟩
    · rename_i hw
      refine ⟨h, fun q => ?_⟩
      have : j = k := by omega
      subst this
      rw [hw] at h
      cases h
theorem jw_sto1 {α : Nat → Nat} {ls : Array Slot} {nL k : Nat} {L : jw_L} {v : Value} (h : lv_has ls nL ((k, jw_ad α v) :: (jw_asc α 0 L).filter (fun q => !(q.1 == k) && !(q.1 + 1 == k && q.2.category == 2)))) (hk : k < L.length) : lv_has ls nL (jw_asc α 0 ((jw_cl1 L k).set k (some v))) := by
  refine ⟨h.1, h.2.1, fun q hq => h.2.2 q ?_⟩
  obtain ⟨j, u, hj, rfl⟩ := jw_asc_mem.mp hq
  rw [List.getElem?_set, jw_cl1_len] at hj
  by_cases e : k = j
  · subst e
    rw [if_pos rfl, if_pos hk] at hj
    cases hj
    simp
  · rw [if_neg e] at hj
    obtain ⟨hj, hcat⟩ := jw_cl1_get hj
    refine List.mem_cons_of_mem _ (List.mem_filter.mpr ⟨jw_asc_mem.mpr ⟨j, u, hj, rfl⟩, ?_⟩)
    have e2 : ¬ j = k := fun q => e q.symm
    by_cases e3 : j + 1 = k
    · simp [e2, jw_ad_cat, hcat e3]
    · simp [e2, e3]
theorem jw_stol {α : Nat → Nat} {ls : Array Slot} {nL k : Nat} {L : jw_L} {x : Int64} (h : lv_has ls nL ((k, .long x) :: (jw_asc α 0 L).filter (fun q => !(q.1 == k) && (!(q.1 == k + 1) && !(q.1 + 1 == k && q.2.category == 2))))) (hk : k + 1 < L.length) : lv_has ls nL (jw_asc α 0 (((jw_cl1 L k).set k (some (.long x))).set (k + 1) none)) := by
  refine ⟨h.1, h.2.1, fun q hq => h.2.2 q ?_⟩
  obtain ⟨j, u, hj, rfl⟩ := jw_asc_mem.mp hq
  rw [List.getElem?_set, List.length_set, jw_cl1_len] at hj
  by_cases e0 : k + 1 = j
  · rw [if_pos e0] at hj
    split at hj <;> cases hj
  · rw [if_neg e0, List.getElem?_set, jw_cl1_len] at hj
    by_cases e : k = j
    · subst e
      rw [if_pos rfl, if_pos (by omega)] at hj
      cases hj
      simp [jw_ad]
    · rw [if_neg e] at hj
      obtain ⟨hj, hcat⟩ := jw_cl1_get hj
      refine List.mem_cons_of_mem _ (List.mem_filter.mpr ⟨jw_asc_mem.mpr ⟨j, u, hj, rfl⟩, ?_⟩)
      have e2 : ¬ j = k := fun q => e q.symm
      have e4 : ¬ j = k + 1 := fun q => e0 q.symm
      by_cases e3 : j + 1 = k
      · simp [e2, e4, jw_ad_cat, hcat e3]
      · simp [e2, e3, e4]
theorem jw_cat_map (α : Nat → Nat) : ∀ r : List Value, ((r.map (jw_ad α)).map fun v => v.category).sum = jw_cat r
  | [] => rfl
  | v :: r => by
    rw [List.map_cons, List.map_cons, List.sum_cons, jw_cat_map α r, jw_ad_cat, jw_cat]
end
section
/-! ===== one instruction of the abstract machine is one of the machine: stack, locals, branches ===== -/
/-- an instruction's length, where it is fixed -/
def jw_len : Instr → Nat
  | .bipush _ | .ldc _ | .iload _ | .lload _ | .aload _ | .istore _ | .lstore _ | .astore _ | .newarray _ => 2
  | .sipush _ | .ldc_w _ | .ldc2_w _ | .iinc _ _ | .goto _ | .ifCond _ _ | .if_icmp _ _ | .getfield _ | .putfield _ | .getstatic _ | .new _ | .anewarray _ | .invokevirtual _ | .invokespecial _ | .invokestatic _ => 3
  | .tableswitch _ _ _ _ | .lookupswitch _ _ => 0
  | .multianewarray _ _ => 4
  | _ => 1
/-- what a branch's offsets and a switch's tables must say -/
def jw_stat (q : jw_I) : Bool := match q.2.1 with
  | .goto off | .ifCond _ off | .if_icmp _ off => decide ((q.1 : Int) + off = (q.2.2.2.1 : Int))
  | .tableswitch d lo hi offs => decide ((q.1 : Int) + d = (q.2.2.2.1 : Int)) && (decide (q.2.2.2.2.2.map (fun z => ((z.2 : Int) - (q.1 : Int))) = offs.toList) && (decide (q.2.2.2.2.2.map (fun z => z.1) = (List.range q.2.2.2.2.2.length).map (fun (i : Nat) => lo + (i : Int))) && (decide (hi + 1 = lo + (q.2.2.2.2.2.length : Int)) && (decide (-2147483648 ≤ lo) && decide (hi < 2147483648)))))
  | .lookupswitch d ps => decide ((q.1 : Int) + d = (q.2.2.2.1 : Int)) && (decide (q.2.2.2.2.2.map (fun z => (z.1, (z.2 : Int) - (q.1 : Int))) = ps.toList) && (((ps.toList.zip (ps.toList.drop 1)).all (fun (a, next) => a.1 < next.1)) && q.2.2.2.2.2.all (fun z => decide (-2147483648 ≤ z.1) && decide (z.1 < 2147483648))))
  | _ => true
def jw_okd (cc : ByteArray) (q : jw_I) : Prop := decode cc q.1 = .ok (q.2.1, q.2.2.1) ∧ (jw_len q.2.1 = 0 ∨ q.2.2.1 = jw_len q.2.1) ∧ jw_stat q = true
theorem jw_ofInt {k : Int} (h1 : -2147483648 ≤ k) (h2 : k < 2147483648) : (Int32.ofInt k).toInt = k := Int32.toInt_ofInt_of_le h1 (by omega)
theorem jw_sw_in {x : Int32} {d : Nat} {K : Nat → Prop} : ∀ {l : List (Int × Nat)}, jw_swt x l d K → ∀ {i : Nat} {k : Int} {t : Nat}, l[i]? = some (k, t) → x = Int32.ofInt k → (∀ j, j < i → ∀ z, l[j]? = some z → ¬ x = Int32.ofInt z.1) → K t
  | [], _, i, k, t, h, _, _ => by simp at h
  | (k0, t0) :: l, hs, i, k, t, h, hx, hj => by
    cases i with
    | zero =>
      simp at h
      obtain ⟨rfl, rfl⟩ := h
      exact hs.1 hx
    | succ i =>
      have h0 : ¬ x = Int32.ofInt k0 := hj 0 (by omega) (k0, t0) rfl
      exact jw_sw_in (hs.2 h0) (by simpa using h) hx (fun j hj1 z hz => hj (j + 1) (by omega) z (by simpa using hz))
theorem jw_sw_out {x : Int32} {d : Nat} {K : Nat → Prop} : ∀ {l : List (Int × Nat)}, jw_swt x l d K → (∀ z ∈ l, ¬ x = Int32.ofInt z.1) → K d
  | [], hs, _ => hs
  | (k0, t0) :: l, hs, h => jw_sw_out (hs.2 (h (k0, t0) List.mem_cons_self)) (fun z hz => h z (List.mem_cons_of_mem _ hz))
theorem jw_lsw {x : Int} {d : Int} : ∀ {l : List (Int × Int)}, (Op.lookupswitch.offset l d x = d ∧ ∀ z ∈ l, ¬ x = z.1) ∨ ∃ (i : Nat) (z : Int × Int), l[i]? = some z ∧ x = z.1 ∧ Op.lookupswitch.offset l d x = z.2 ∧ ∀ (j : Nat), j < i → ∀ (y : Int × Int), l[j]? = some y → ¬ x = y.1
  | [] => Or.inl ⟨rfl, by simp⟩
  | (k, o) :: l => by
    by_cases e : k = x
    · right
      exact ⟨0, (k, o), rfl, e.symm, by simp [Op.lookupswitch.offset, e], fun j hj => by omega⟩
    · have e2 : ¬ x = k := fun q => e q.symm
      rcases jw_lsw (x := x) (d := d) (l := l) with ⟨h1, h2⟩ | ⟨i, z, h1, h2, h3, h4⟩
      · left
        refine ⟨by simp [Op.lookupswitch.offset, e, e2] at h1 ⊢; exact h1, fun z hz => ?_⟩
        rcases List.mem_cons.mp hz with rfl | hz
        · exact e2
        · exact h2 z hz
      · right
        refine ⟨i + 1, z, by simpa using h1, h2, by simp [Op.lookupswitch.offset, e, e2] at h3 ⊢; exact h3, fun j hj y hy => ?_⟩
        cases j with
        | zero => simp at hy; rw [← hy]; exact e2
        | succ j => exact h4 j (by omega) y (by simpa using hy)
section JWS
variable {p : Program} {l : Launch} {e : Env} {R : Room} {s : State} {m : MethodId} {args : Array Value} {below : List Frame} {meth : Method} {c : Code} {H : Heap} {locs : List Loc} {cells slots : Nat} {Qf : State → Prop}
variable {cc : ByteArray} {ls : Array Slot} {kd : Nat → List jw_K} {C : Nat → List Value → jw_H → jw_Q → Prop} {bud : Nat → Nat × Nat} {lim : Nat × Nat} {ret : Option FieldType} {L : jw_L} {st : List Value} {h : jw_H} {Q : jw_Q} {K : Nat → jw_L → List Value → jw_H → Prop} {α : Nat → Nat} {nL : Nat}
/-- the instructions that touch neither heap nor tables -/
def jw_isS : Instr → Bool
  | .iconst _ | .bipush _ | .sipush _ | .lconst _ | .iload_n _ | .iload _ | .lload_n _ | .lload _ | .aload_n _ | .aload _ | .istore_n _ | .istore _ | .lstore_n _ | .lstore _ | .astore_n _ | .astore _ | .iinc _ _ => true
  | .iadd | .isub | .imul | .iand | .ior | .ixor | .idiv | .irem | .ishl | .ishr | .iushr | .ladd | .lsub | .lmul | .land | .lor | .lshl | .lshr | .lcmp | .i2l | .l2i | .i2b | .i2s | .dup | .dup_x1 | .dup2 | .pop | .ineg => true
  | .goto _ | .ifCond _ _ | .if_icmp _ _ | .tableswitch _ _ _ _ | .lookupswitch _ _ => true
  | _ => false
theorem jw_bif {b : Bool} {P : Prop} (h : bif b then P else False) : b = true ∧ P := by
  cases b
  · exact h.elim
  · exact ⟨rfl, h⟩
theorem jw_sto_ok {k : Nat} {v : Value} {f : jw_L → Prop} (h : jw_sto L k v f) : k < L.length ∧ ((jw_cl1 L k).set k (some v)).length = L.length ∧ f ((jw_cl1 L k).set k (some v)) := by
  obtain ⟨h1, h2⟩ := jw_bif h
  exact ⟨by simpa [Nat.blt_eq] using h1, by rw [List.length_set, jw_cl1_len], h2⟩
theorem jw_stl_ok {k : Nat} {x : Int64} {f : jw_L → Prop} (h : jw_stl L k x f) : k + 1 < L.length ∧ (((jw_cl1 L k).set k (some (.long x))).set (k + 1) none).length = L.length ∧ f (((jw_cl1 L k).set k (some (.long x))).set (k + 1) none) := by
  obtain ⟨h1, h2⟩ := jw_bif h
  exact ⟨by simpa [Nat.blt_eq] using h1, by rw [List.length_set, List.length_set, jw_cl1_len], h2⟩
theorem jw_ldi_ok {k : Nat} {f : Int32 → Prop} (h : jw_ldi L k f) : ∃ x, L[k]? = some (some (.int x)) ∧ f x := by
  unfold jw_ldi at h
  split at h
  · exact ⟨_, by assumption, h⟩
  · exact h.elim
theorem jw_ldl_ok {k : Nat} {f : Int64 → Prop} (h : jw_ldl L k f) : ∃ x, L[k]? = some (some (.long x)) ∧ f x := by
  unfold jw_ldl at h
  split at h
  · exact ⟨_, by assumption, h⟩
  · exact h.elim
theorem jw_lda_ok {k : Nat} {f : Nat → Prop} (h : jw_lda L k f) : ∃ x, L[k]? = some (some (.ref x)) ∧ f x := by
  unfold jw_lda at h
  split at h
  · exact ⟨_, by assumption, h⟩
  · exact h.elim
theorem jw_i1_ok {f : Int32 → List Value → Prop} (h : jw_i1 st f) : ∃ x r, st = .int x :: r ∧ f x r := by
  unfold jw_i1 at h
  split at h
  · exact ⟨_, _, rfl, h⟩
  · exact h.elim
theorem jw_i2_ok {f : Int32 → Int32 → List Value → Prop} (h : jw_i2 st f) : ∃ x y r, st = .int y :: .int x :: r ∧ f x y r := by
  unfold jw_i2 at h
  split at h
  · exact ⟨_, _, _, rfl, h⟩
  · exact h.elim
theorem jw_l1_ok {f : Int64 → List Value → Prop} (h : jw_l1 st f) : ∃ x r, st = .long x :: r ∧ f x r := by
  unfold jw_l1 at h
  split at h
  · exact ⟨_, _, rfl, h⟩
  · exact h.elim
theorem jw_l2_ok {f : Int64 → Int64 → List Value → Prop} (h : jw_l2 st f) : ∃ x y r, st = .long y :: .long x :: r ∧ f x y r := by
  unfold jw_l2 at h
  split at h
  · exact ⟨_, _, _, rfl, h⟩
  · exact h.elim
theorem jw_li_ok {f : Int64 → Int32 → List Value → Prop} (h : jw_li st f) : ∃ x y r, st = .int y :: .long x :: r ∧ f x y r := by
  unfold jw_li at h
  split at h
  · exact ⟨_, _, _, rfl, h⟩
  · exact h.elim
theorem jw_r1_ok {f : Nat → List Value → Prop} (h : jw_r1 st f) : ∃ x r, st = .ref x :: r ∧ f x r := by
  unfold jw_r1 at h
  split at h
  · exact ⟨_, _, rfl, h⟩
  · exact h.elim
theorem jw_ix_ok {f : Int32 → Nat → List Value → Prop} (h : jw_ix st f) : ∃ i a r, st = .int i :: .ref a :: r ∧ f i a r := by
  unfold jw_ix at h
  split at h
  · exact ⟨_, _, _, rfl, h⟩
  · exact h.elim
set_option maxHeartbeats 4000000 in
set_option maxRecDepth 100000 in
theorem jo_simple {pc len : Nat} {ins : Instr} {res : jw_R} (hS : jw_isS ins = true) (hx : p.tables.exec = Jvm.exec) (hb : c.code = cc) (hd : jw_okd cc (pc, ins, len, res)) (hl : lv_has ls nL (jw_asc α 0 L)) (hn : L.length = nL)
    (hs : jw_step kd C bud lim ret (pc, ins, len, res) L st h Q K)
    (hK : ∀ (pc' : Nat) (L' : jw_L) (st' : List Value) (ls' : Array Slot), K pc' L' st' h → L'.length = nL → lv_has ls' nL (jw_asc α 0 L') → W p l e R s m args below meth c H locs cells slots Qf (F0 m pc' ls' (st'.map (jw_ad α)))) :
    W p l e R s m args below meth c H locs cells slots Qf (F0 m pc ls (st.map (jw_ad α))) := by
  obtain ⟨hdg, hlen, hst⟩ := hd
  dsimp only at hdg hlen
  have hlen' : ∀ k, jw_len ins = k + 1 → len = k + 1 := fun k hk => by
    rcases hlen with h0 | h0
    · omega
    · omega
  cases ins <;> first | (exact Bool.noConfusion hS) | skip
  case iconst i =>
    have := hlen' 0 rfl; subst this
    exact lv_iconst hx hb hdg rfl (hK _ _ _ _ hs hn hl)
  case bipush i =>
    have := hlen' 1 rfl; subst this
    exact lv_bipush hx hb hdg rfl (hK _ _ _ _ hs hn hl)
  case sipush i =>
    have := hlen' 2 rfl; subst this
    exact lv_sipush hx hb hdg rfl (hK _ _ _ _ hs hn hl)
  case lconst i =>
    have := hlen' 0 rfl; subst this
    exact lv_lconst hx hb hdg rfl (hK _ _ _ _ hs hn hl)
  case iload_n k =>
    have := hlen' 0 rfl; subst this
    obtain ⟨x, h1, h2⟩ := jw_ldi_ok hs
    exact lv_iload_n hx hb hdg rfl (jw_loc hl h1) (hK _ _ _ _ h2 hn hl)
  case iload k =>
    have := hlen' 1 rfl; subst this
    obtain ⟨x, h1, h2⟩ := jw_ldi_ok hs
    exact lv_iload hx hb hdg (jw_loc hl h1) (hK _ _ _ _ h2 hn hl)
  case lload_n k =>
    have := hlen' 0 rfl; subst this
    obtain ⟨x, h1, h2⟩ := jw_ldl_ok hs
    exact lv_lload_n hx hb hdg rfl (jw_loc hl h1) (hK _ _ _ _ h2 hn hl)
  case lload k =>
    have := hlen' 1 rfl; subst this
    obtain ⟨x, h1, h2⟩ := jw_ldl_ok hs
    exact lv_lload hx hb hdg (jw_loc hl h1) (hK _ _ _ _ h2 hn hl)
  case aload_n k =>
    have := hlen' 0 rfl; subst this
    obtain ⟨x, h1, h2⟩ := jw_lda_ok hs
    exact lv_aload_n hx hb hdg rfl (jw_loc hl h1) (hK _ _ _ _ h2 hn hl)
  case aload k =>
    have := hlen' 1 rfl; subst this
    obtain ⟨x, h1, h2⟩ := jw_lda_ok hs
    exact lv_aload hx hb hdg (jw_loc hl h1) (hK _ _ _ _ h2 hn hl)
  case istore_n k =>
    have := hlen' 0 rfl; subst this
    obtain ⟨x, r, rfl, h2⟩ := jw_i1_ok hs
    obtain ⟨h3, h4, h5⟩ := jw_sto_ok h2
    exact lv_istore_n hx hb hdg rfl hl (by omega) rfl (fun ls' hl' => hK _ _ _ _ h5 (h4.trans hn) (jw_sto1 (v := .int x) hl' h3))
  case istore k =>
    have := hlen' 1 rfl; subst this
    obtain ⟨x, r, rfl, h2⟩ := jw_i1_ok hs
    obtain ⟨h3, h4, h5⟩ := jw_sto_ok h2
    exact lv_istore hx hb hdg hl (by omega) rfl (fun ls' hl' => hK _ _ _ _ h5 (h4.trans hn) (jw_sto1 (v := .int x) hl' h3))
  case lstore_n k =>
    have := hlen' 0 rfl; subst this
    obtain ⟨x, r, rfl, h2⟩ := jw_l1_ok hs
    obtain ⟨h3, h4, h5⟩ := jw_stl_ok h2
    exact lv_lstore_n hx hb hdg rfl hl (by omega) rfl (fun ls' hl' => hK _ _ _ _ h5 (h4.trans hn) (jw_stol hl' h3))
  case lstore k =>
    have := hlen' 1 rfl; subst this
    obtain ⟨x, r, rfl, h2⟩ := jw_l1_ok hs
    obtain ⟨h3, h4, h5⟩ := jw_stl_ok h2
    exact lv_lstore hx hb hdg hl (by omega) rfl (fun ls' hl' => hK _ _ _ _ h5 (h4.trans hn) (jw_stol hl' h3))
  case astore_n k =>
    have := hlen' 0 rfl; subst this
    obtain ⟨x, r, rfl, h2⟩ := jw_r1_ok hs
    obtain ⟨h3, h4, h5⟩ := jw_sto_ok h2
    exact lv_astore_n hx hb hdg rfl hl (by omega) rfl (fun ls' hl' => hK _ _ _ _ h5 (h4.trans hn) (jw_sto1 (v := .ref x) hl' h3))
  case astore k =>
    have := hlen' 1 rfl; subst this
    obtain ⟨x, r, rfl, h2⟩ := jw_r1_ok hs
    obtain ⟨h3, h4, h5⟩ := jw_sto_ok h2
    exact lv_astore hx hb hdg hl (by omega) rfl (fun ls' hl' => hK _ _ _ _ h5 (h4.trans hn) (jw_sto1 (v := .ref x) hl' h3))
  case iinc k n =>
    have := hlen' 2 rfl; subst this
    obtain ⟨x, h1, h2⟩ := jw_ldi_ok hs
    obtain ⟨h3, h4, h5⟩ := jw_sto_ok h2
    obtain ⟨j, hj⟩ := List.getElem?_of_mem (jw_asc_mem (α := α) (k := 0) (q := (k, .int x)).mpr ⟨k, .int x, h1, by simp [jw_ad]⟩)
    exact lv_iinc hx hb hdg hl hj rfl (by omega) rfl (fun ls' hl' => hK _ _ _ _ h5 (h4.trans hn) (jw_sto1 (v := .int (x + Int32.ofInt n)) hl' h3))
  case iadd =>
    have := hlen' 0 rfl; subst this
    obtain ⟨x, y, r, rfl, h2⟩ := jw_i2_ok hs
    exact lv_iadd hx hb hdg (hK _ _ _ _ h2 hn hl)
  case isub =>
    have := hlen' 0 rfl; subst this
    obtain ⟨x, y, r, rfl, h2⟩ := jw_i2_ok hs
    exact lv_isub hx hb hdg (hK _ _ _ _ h2 hn hl)
  case imul =>
    have := hlen' 0 rfl; subst this
    obtain ⟨x, y, r, rfl, h2⟩ := jw_i2_ok hs
    exact lv_imul hx hb hdg (hK _ _ _ _ h2 hn hl)
  case iand =>
    have := hlen' 0 rfl; subst this
    obtain ⟨x, y, r, rfl, h2⟩ := jw_i2_ok hs
    exact lv_iand hx hb hdg (hK _ _ _ _ h2 hn hl)
  case ior =>
    have := hlen' 0 rfl; subst this
    obtain ⟨x, y, r, rfl, h2⟩ := jw_i2_ok hs
    exact lv_ior hx hb hdg (hK _ _ _ _ h2 hn hl)
  case ixor =>
    have := hlen' 0 rfl; subst this
    obtain ⟨x, y, r, rfl, h2⟩ := jw_i2_ok hs
    exact lv_ixor hx hb hdg (hK _ _ _ _ h2 hn hl)
  case ishl =>
    have := hlen' 0 rfl; subst this
    obtain ⟨x, y, r, rfl, h2⟩ := jw_i2_ok hs
    exact lv_ishl hx hb hdg (hK _ _ _ _ h2 hn hl)
  case ishr =>
    have := hlen' 0 rfl; subst this
    obtain ⟨x, y, r, rfl, h2⟩ := jw_i2_ok hs
    exact lv_ishr hx hb hdg (hK _ _ _ _ h2 hn hl)
  case iushr =>
    have := hlen' 0 rfl; subst this
    obtain ⟨x, y, r, rfl, h2⟩ := jw_i2_ok hs
    exact lv_iushr hx hb hdg rfl (hK _ _ _ _ h2 hn hl)
  case idiv =>
    have := hlen' 0 rfl; subst this
    obtain ⟨x, y, r, rfl, h2⟩ := jw_i2_ok hs
    exact lv_idiv hx hb hdg h2.1 (hK _ _ _ _ h2.2 hn hl)
  case irem =>
    have := hlen' 0 rfl; subst this
    obtain ⟨x, y, r, rfl, h2⟩ := jw_i2_ok hs
    exact lv_irem hx hb hdg h2.1 (hK _ _ _ _ h2.2 hn hl)
  case ladd =>
    have := hlen' 0 rfl; subst this
    obtain ⟨x, y, r, rfl, h2⟩ := jw_l2_ok hs
    exact lv_ladd hx hb hdg (hK _ _ _ _ h2 hn hl)
  case lsub =>
    have := hlen' 0 rfl; subst this
    obtain ⟨x, y, r, rfl, h2⟩ := jw_l2_ok hs
    exact lv_lsub hx hb hdg (hK _ _ _ _ h2 hn hl)
  case lmul =>
    have := hlen' 0 rfl; subst this
    obtain ⟨x, y, r, rfl, h2⟩ := jw_l2_ok hs
    exact lv_lmul hx hb hdg (hK _ _ _ _ h2 hn hl)
  case land =>
    have := hlen' 0 rfl; subst this
    obtain ⟨x, y, r, rfl, h2⟩ := jw_l2_ok hs
    exact lv_land hx hb hdg (hK _ _ _ _ h2 hn hl)
  case lor =>
    have := hlen' 0 rfl; subst this
    obtain ⟨x, y, r, rfl, h2⟩ := jw_l2_ok hs
    exact lv_lor hx hb hdg (hK _ _ _ _ h2 hn hl)
  case lshl =>
    have := hlen' 0 rfl; subst this
    obtain ⟨x, y, r, rfl, h2⟩ := jw_li_ok hs
    exact lv_lshl hx hb hdg rfl (hK _ _ _ _ h2 hn hl)
  case lshr =>
    have := hlen' 0 rfl; subst this
    obtain ⟨x, y, r, rfl, h2⟩ := jw_li_ok hs
    exact lv_lshr hx hb hdg rfl (hK _ _ _ _ h2 hn hl)
  case i2l =>
    have := hlen' 0 rfl; subst this
    obtain ⟨x, r, rfl, h2⟩ := jw_i1_ok hs
    exact lv_i2l hx hb hdg rfl (hK _ _ _ _ h2 hn hl)
  case l2i =>
    have := hlen' 0 rfl; subst this
    obtain ⟨x, r, rfl, h2⟩ := jw_l1_ok hs
    exact lv_l2i hx hb hdg rfl (hK _ _ _ _ h2 hn hl)
  case i2b =>
    have := hlen' 0 rfl; subst this
    obtain ⟨x, r, rfl, h2⟩ := jw_i1_ok hs
    exact lv_i2b hx hb hdg rfl (hK _ _ _ _ h2 hn hl)
  case i2s =>
    have := hlen' 0 rfl; subst this
    obtain ⟨x, r, rfl, h2⟩ := jw_i1_ok hs
    exact lv_i2s hx hb hdg rfl (hK _ _ _ _ h2 hn hl)
  case ineg =>
    have := hlen' 0 rfl; subst this
    obtain ⟨x, r, rfl, h2⟩ := jw_i1_ok hs
    exact lv_ineg hx hb hdg (hK _ _ _ _ h2 hn hl)
  case lcmp =>
    have := hlen' 0 rfl; subst this
    obtain ⟨x, y, r, rfl, h2⟩ := jw_l2_ok hs
    exact W.lcmp hx hb hdg (hK _ _ _ _ h2 hn hl)
  case dup =>
    have := hlen' 0 rfl; subst this
    unfold jw_step at hs
    dsimp only at hs
    split at hs
    · exact lv_dup hx hb hdg rfl (hK _ _ _ _ hs hn hl)
    · exact lv_dup hx hb hdg rfl (hK _ _ _ _ hs hn hl)
    · exact hs.elim
  case dup_x1 =>
    have := hlen' 0 rfl; subst this
    unfold jw_step at hs
    dsimp only at hs
    split at hs
    · exact lv_dup_x1 hx hb hdg rfl rfl (hK _ _ _ _ hs hn hl)
    · exact lv_dup_x1 hx hb hdg rfl rfl (hK _ _ _ _ hs hn hl)
    · exact hs.elim
  case dup2 =>
    have := hlen' 0 rfl; subst this
    unfold jw_step at hs
    dsimp only at hs
    split at hs
    · exact lv_dup2_11 hx hb hdg rfl rfl (hK _ _ _ _ hs hn hl)
    · exact hs.elim
  case pop =>
    have := hlen' 0 rfl; subst this
    unfold jw_step at hs
    dsimp only at hs
    split at hs
    · exact lv_pop (va := .int _) hx hb hdg rfl (hK _ _ _ _ hs hn hl)
    · exact lv_pop (va := .ref _) hx hb hdg rfl (hK _ _ _ _ hs hn hl)
    · exact hs.elim
  case goto off =>
    have := hlen' 2 rfl; subst this
    exact lv_goto hx hb hdg (of_decide_eq_true hst) (hK _ _ _ _ hs hn hl)
  case ifCond cnd off =>
    have := hlen' 2 rfl; subst this
    have ht := of_decide_eq_true hst
    cases cnd
    case eq =>
      obtain ⟨x, r, rfl, h2⟩ := jw_i1_ok hs
      exact lv_if_eq hx hb hdg ht (fun z => hK _ _ _ _ (h2.1 z) hn hl) (fun z => hK _ _ _ _ (h2.2 z) hn hl)
    case ne =>
      obtain ⟨x, r, rfl, h2⟩ := jw_i1_ok hs
      exact lv_if_ne hx hb hdg ht (fun z => hK _ _ _ _ (h2.1 z) hn hl) (fun z => hK _ _ _ _ (h2.2 z) hn hl)
    case lt =>
      obtain ⟨x, r, rfl, h2⟩ := jw_i1_ok hs
      exact lv_if_lt hx hb hdg ht (fun z => hK _ _ _ _ (h2.1 z) hn hl) (fun z => hK _ _ _ _ (h2.2 z) hn hl)
    case ge =>
      obtain ⟨x, r, rfl, h2⟩ := jw_i1_ok hs
      exact lv_if_ge hx hb hdg ht (fun z => hK _ _ _ _ (h2.1 z) hn hl) (fun z => hK _ _ _ _ (h2.2 z) hn hl)
    case gt =>
      obtain ⟨x, r, rfl, h2⟩ := jw_i1_ok hs
      exact lv_if_gt hx hb hdg ht (fun z => hK _ _ _ _ (h2.1 z) hn hl) (fun z => hK _ _ _ _ (h2.2 z) hn hl)
    case le =>
      obtain ⟨x, r, rfl, h2⟩ := jw_i1_ok hs
      exact lv_if_le hx hb hdg ht (fun z => hK _ _ _ _ (h2.1 z) hn hl) (fun z => hK _ _ _ _ (h2.2 z) hn hl)
  case if_icmp cnd off =>
    have := hlen' 2 rfl; subst this
    have ht := of_decide_eq_true hst
    cases cnd
    case eq =>
      obtain ⟨x, y, r, rfl, h2⟩ := jw_i2_ok hs
      exact lv_icmp_eq hx hb hdg ht (fun z => hK _ _ _ _ (h2.1 z) hn hl) (fun z => hK _ _ _ _ (h2.2 z) hn hl)
    case ne =>
      obtain ⟨x, y, r, rfl, h2⟩ := jw_i2_ok hs
      exact lv_icmp_ne hx hb hdg ht (fun z => hK _ _ _ _ (h2.1 z) hn hl) (fun z => hK _ _ _ _ (h2.2 z) hn hl)
    case lt =>
      obtain ⟨x, y, r, rfl, h2⟩ := jw_i2_ok hs
      exact lv_icmp_lt hx hb hdg ht (fun z => hK _ _ _ _ (h2.1 z) hn hl) (fun z => hK _ _ _ _ (h2.2 z) hn hl)
    case ge =>
      obtain ⟨x, y, r, rfl, h2⟩ := jw_i2_ok hs
      exact lv_icmp_ge hx hb hdg ht (fun z => hK _ _ _ _ (h2.1 z) hn hl) (fun z => hK _ _ _ _ (h2.2 z) hn hl)
    case gt =>
      obtain ⟨x, y, r, rfl, h2⟩ := jw_i2_ok hs
      exact lv_icmp_gt hx hb hdg ht (fun z => hK _ _ _ _ (h2.1 z) hn hl) (fun z => hK _ _ _ _ (h2.2 z) hn hl)
    case le =>
      obtain ⟨x, y, r, rfl, h2⟩ := jw_i2_ok hs
      exact lv_icmp_le hx hb hdg ht (fun z => hK _ _ _ _ (h2.1 z) hn hl) (fun z => hK _ _ _ _ (h2.2 z) hn hl)
  case tableswitch d lo hi offs =>
    obtain ⟨x, r, rfl, h2⟩ := jw_i1_ok hs
    simp only [jw_stat, Bool.and_eq_true, decide_eq_true_eq] at hst
    obtain ⟨t1, t2, t3, t4, t5, t6⟩ := hst
    by_cases hi1 : x.toInt < lo ∨ hi < x.toInt
    · refine lv_tableOut hx hb hdg hi1 t1 (hK _ _ _ _ (jw_sw_out h2 fun z hz hxz => ?_) hn hl)
      have hz1 : z.1 ∈ res.2.2.map (fun z => z.1) := List.mem_map.mpr ⟨z, hz, rfl⟩
      rw [t3] at hz1
      obtain ⟨i, hi2, hi3⟩ := List.mem_map.mp hz1
      have := List.mem_range.mp hi2
      have h9 : x.toInt = z.1 := by rw [hxz]; exact jw_ofInt (by omega) (by omega)
      omega
    · have hlo : ¬ x.toInt < lo := fun q => hi1 (Or.inl q)
      have hhi : ¬ hi < x.toInt := fun q => hi1 (Or.inr q)
      have hlt : (x.toInt - lo).toNat < res.2.2.length := by omega
      have ho : offs[(x.toInt - lo).toNat]? = some (((res.2.2[(x.toInt - lo).toNat]).2 : Int) - (pc : Int)) := by
        rw [← Array.getElem?_toList, ← t2, List.getElem?_map, List.getElem?_eq_getElem hlt]
        rfl
      have key : ∀ (j : Nat) (z : Int × Nat), res.2.2[j]? = some z → z.1 = lo + (j : Int) := by
        intro j z hz
        have h8 : (res.2.2.map (fun z => z.1))[j]? = some z.1 := by rw [List.getElem?_map, hz]; rfl
        rw [t3, List.getElem?_map] at h8
        have hj : j < res.2.2.length := (List.getElem?_eq_some_iff.mp hz).1
        rw [List.getElem?_range hj] at h8
        have := Option.some.inj h8
        dsimp only at this
        omega
      refine lv_tableIn hx hb hdg hlo hhi ho (by omega) (hK _ _ _ _ (jw_sw_in h2 (i := (x.toInt - lo).toNat) (k := (res.2.2[(x.toInt - lo).toNat]).1) (t := (res.2.2[(x.toInt - lo).toNat]).2) (List.getElem?_eq_getElem hlt) ?_ ?_) hn hl)
      · have h7 := key _ _ (List.getElem?_eq_getElem hlt)
        apply Int32.toInt_inj.mp
        rw [h7, jw_ofInt (by omega) (by omega)]
        omega
      · intro j hj z hz hxz
        have h7 := key _ _ hz
        have hj2 : j < res.2.2.length := (List.getElem?_eq_some_iff.mp hz).1
        have h9 : x.toInt = z.1 := by rw [hxz]; exact jw_ofInt (by omega) (by omega)
        omega
  case lookupswitch d ps =>
    obtain ⟨x, r, rfl, h2⟩ := jw_i1_ok hs
    simp only [jw_stat, Bool.and_eq_true, decide_eq_true_eq] at hst
    obtain ⟨t1, t2, t3, t4⟩ := hst
    have hb4 : ∀ z ∈ res.2.2, -2147483648 ≤ z.1 ∧ z.1 < 2147483648 := fun z hz => by
      have := List.all_eq_true.mp t4 z hz
      simpa using this
    have hlist : ∀ (j : Nat) (z : Int × Nat), res.2.2[j]? = some z → ps.toList[j]? = some (z.1, (z.2 : Int) - (pc : Int)) := fun j z hz => by
      rw [← t2, List.getElem?_map, hz]
      rfl
    have hlist2 : ∀ (j : Nat) (z : Int × Int), ps.toList[j]? = some z → ∃ w, res.2.2[j]? = some w ∧ z = (w.1, (w.2 : Int) - (pc : Int)) := fun j z hz => by
      rw [← t2, List.getElem?_map] at hz
      cases hw : res.2.2[j]? with
      | none => rw [hw] at hz; cases hz
      | some w => rw [hw] at hz; exact ⟨w, rfl, (Option.some.inj hz).symm⟩
    rcases jw_lsw (x := x.toInt) (d := d) (l := ps.toList) with ⟨o1, o2⟩ | ⟨i, z, z1, z2, z3, z4⟩
    · refine lv_lookup hx hb hdg t3 o1 t1 (hK _ _ _ _ (jw_sw_out h2 fun z hz hxz => ?_) hn hl)
      obtain ⟨j, hj⟩ := List.getElem?_of_mem hz
      have h9 : x.toInt = z.1 := by rw [hxz]; exact jw_ofInt (hb4 z hz).1 (hb4 z hz).2
      exact o2 _ (List.mem_of_getElem? (hlist j z hj)) h9
    · obtain ⟨w, hw, rfl⟩ := hlist2 i z z1
      refine lv_lookup hx hb hdg t3 z3 (tgt := w.2) (by dsimp only; omega) (hK _ _ _ _ (jw_sw_in h2 (i := i) (k := w.1) (t := w.2) hw ?_ ?_) hn hl)
      · apply Int32.toInt_inj.mp
        have hm := hb4 w (List.mem_of_getElem? hw)
        rw [jw_ofInt hm.1 hm.2]
        exact z2
      · intro j hj y hy hxy
        have hm := hb4 y (List.mem_of_getElem? hy)
        have h9 : x.toInt = y.1 := by rw [hxy]; exact jw_ofInt hm.1 hm.2
        exact z4 j hj _ (hlist j y hy) h9
end JWS
end
section
/-! ===== the heap's instructions ===== -/
def jw_tys (cy : Nat → ClassId) : List (ClassId × FieldType) := [(cy 0, .int), (cy 1, .long), (cy 2, .object "ShadowSchool$Progress"), (cy 3, .object "ShadowSchool$Shade"), (cy 4, .array .int)]
section JWH
variable {p : Program} {l : Launch} {e : Env} {R : Room} {s : State} {m : MethodId} {args : Array Value} {below : List Frame} {meth : Method} {c : Code} {H : Heap} {locs : List Loc} {cells slots : Nat} {Q : State → Prop}
variable {cc : ByteArray} {pc : Nat} {ls : Array Slot} {rest : List Value} {D : va_G} {cl : List vw_C} {A : Nat → Prop} {a : Nat} {tys : List (ClassId × FieldType)} {ws : va_W} {H0 : Heap}
/-- putfield, with the heap's size -/
theorem jo_put (hexec : p.tables.exec = Jvm.exec) (hb : c.code = cc) {own C : String} {T : u_T} {N ci index : Nat} {Ts : List Cond} (hts : ∀ w ∈ Ts, w.before args s = true) (hin : ∀ w ∈ u_ws C T N, w ∈ Ts) (ty0 : Nat → FieldType) (hty : ∀ k, k < N → parseFieldDescriptor (T k).2.2.1 = some (ty0 k)) (hnm : ∀ a, a < N → ∀ b, b < N → a ≠ b → (T a).2.1 ≠ (T b).2.1) (hown : s.vm.findClass own = some m.cls) (hK : va_K D cl tys s) (hP : va_P D cl ws H) (hD : va_D A ws) (hS0 : va_S A H0 H locs) {q0 : Nat} {fs : List Value} (he : ws[q0]? = some (a, .inr (ci, fs))) (hc : cl[ci]? = some (C, T, N)) {k : Nat} (hk : k < N) (hlink : (Cond.fieldLink own index (T k).1 (T k).2.1 (T k).2.2.1).before args s = true) (hfin : (T k).2.2.2 = false ∨ (meth.name = "<init>" ∧ (T k).1 = own)) {ty : FieldType} {v : Value} (hd : parseFieldDescriptor (T k).2.2.1 = some ty) (hn : narrow ty v = v) (hfit : fits ty v = true) (hl : k < fs.length)
    (hdg : decode cc pc = .ok (.putfield index, 3)) (kk : ∀ (H1 : Heap) (locs1 : List Loc), H1.size = H.size → va_P D cl (ws.set q0 (a, .inr (ci, fs.set k v))) H1 → va_D A (ws.set q0 (a, .inr (ci, fs.set k v))) → va_S A H0 H1 locs1 → W p l e R s m args below meth c H1 locs1 cells slots Q (F0 m (pc + 3) ls rest)) : W p l e R s m args below meth c H locs cells slots Q (F0 m pc ls (v :: .ref a :: rest)) := by
  have hap := va_apart (own := own) hts hin ty0 hty hnm hK hc
  obtain ⟨r, h1, cell, q1, q2, q3, q4⟩ := hP q0 _ he
  have hr : r = (C, T, N) := Option.some.inj (h1.symm.trans hc)
  subst hr
  obtain ⟨hS, hfc, kC, hkC, hkind⟩ := hK.1 ci _ hc
  obtain ⟨cf, kf, fi, f, hi, hsl⟩ := hS k hk
  have hlay := hts _ (hin _ (u_in_lay hk))
  unfold u_lay at hlay
  have hst := (u_facts hfc hkC (u_lays hts hin hk) hi).1
  by_cases hfb : (T k).2.2.2 = true
  · have hf2 : meth.name = "<init>" ∧ (T k).1 = own := by
      rcases hfin with h | h
      · rw [h] at hfb; cases hfb
      · exact h
    rw [if_pos hfb] at hlay
    have hcf : m.cls = cf := by
      obtain ⟨_, _, c', _, _, _, -, -, hf', -, -, -, hown2, -⟩ := Cond.laysFinal_spec hlay
      have e1 : c' = cf := by have := hi.symm.trans hf'; simp at this; exact this.1.symm
      rw [hf2.2] at hown2
      rw [← e1]; exact Option.some.inj (hown.symm.trans hown2)
    have h6 := u_fits hfc hkC hkind (Or.inr hlay) hi hd hn hfit
    refine W.putFinK hexec hb hown hlink hi hst hcf hf2.1 (by rw [q2]; exact h6) q1 q3 (by rw [hsl]; exact k2_hasslot (q4 k hk)) rfl rfl hdg fun H' e1 e2 e3 => ?_
    rw [hsl] at e1 ⊢
    exact kk H' _ e2 (hP.set hD he ⟨_, hc, t_OB.to (V := updV (vp_V fs) k v) ⟨_, e1, q2, q3, t_set q4 hap hk v⟩ (fun j _ => vp_updV_set hl v j)⟩ e3) (hD.set he) (hS0.put e2 e3 (hD.2 q0 _ he))
  · rw [if_neg hfb] at hlay
    have h6 := u_store hfc hkC hkind hlay hi hd hn hfit
    refine W.putK hexec hb (f := f) ⟨hown, hlink, ⟨_, _, _, hi⟩, hst⟩ (by rw [q2]; exact h6) q1 q3 (by rw [hsl]; exact k2_hasslot (q4 k hk)) rfl rfl hdg fun H' e1 e2 e3 => ?_
    rw [hsl] at e1 ⊢
    exact kk H' _ e2 (hP.set hD he ⟨_, hc, t_OB.to (V := updV (vp_V fs) k v) ⟨_, e1, q2, q3, t_set q4 hap hk v⟩ (fun j _ => vp_updV_set hl v j)⟩ e3) (hD.set he) (hS0.put e2 e3 (hD.2 q0 _ he))
/-- iastore, with the heap's size -/
theorem jo_iast (hexec : p.tables.exec = Jvm.exec) (hb : c.code = cc) (hK : va_K D cl tys s) (hP : va_P D cl ws H) (hD : va_D A ws) (hS : va_S A H0 H locs) {q0 t0 : Nat} {cA : ClassId} {n : Nat} {f : Nat → Int32} (ha : ws[q0]? = some (a, .inl (cA, n, .inl f))) (ht : tys[t0]? = some (cA, .int)) {i : Int32} {x : Int32} (hin : vp_in i n) (hdg : decode cc pc = .ok (.iastore, 1))
    (kk : ∀ (H1 : Heap) (locs1 : List Loc), H1.size = H.size → va_P D cl (ws.set q0 (a, .inl (cA, n, .inl (va_up f i.toNatClampNeg x)))) H1 → va_D A (ws.set q0 (a, .inl (cA, n, .inl (va_up f i.toNatClampNeg x)))) → va_S A H0 H1 locs1 → W p l e R s m args below meth c H1 locs1 cells slots Q (F0 m (pc + 1) ls rest)) : W p l e R s m args below meth c H locs cells slots Q (F0 m pc ls (.int x :: .int i :: .ref a :: rest)) := by
  refine W.iast hexec hb (hP q0 _ ha) ((hK.2 t0 _ ht).1 n (fun j => .int (f j))) (fun q => by cases q) (by show ¬ (i < 0 ∨ (arrV _ _ _).slots.size ≤ _); rw [arrV_size]; exact hin) rfl rfl hdg fun H1 e z oq => ?_
  refine kk H1 _ z (hP.set hD ha ?_ oq) (hD.set ha) (hS.put z oq (hD.2 q0 _ ha))
  show H1[a]? = some (vp_cell _ _)
  rw [e, vp_cell_i, vp_cell_i, arrV_store]
  congr 2
  funext q
  by_cases hq : q = i.toNatClampNeg
  · subst hq
    simp [updV, va_up]
  · simp [updV, va_up, hq]
theorem jo_last (hexec : p.tables.exec = Jvm.exec) (hb : c.code = cc) (hK : va_K D cl tys s) (hP : va_P D cl ws H) (hD : va_D A ws) (hS : va_S A H0 H locs) {q0 t0 : Nat} {cA : ClassId} {n : Nat} {f : Nat → Int64} (ha : ws[q0]? = some (a, .inl (cA, n, .inr (.inl f)))) (ht : tys[t0]? = some (cA, .long)) {i : Int32} {x : Int64} (hin : vp_in i n) (hdg : decode cc pc = .ok (.lastore, 1))
    (kk : ∀ (H1 : Heap) (locs1 : List Loc), H1.size = H.size → va_P D cl (ws.set q0 (a, .inl (cA, n, .inr (.inl (va_up f i.toNatClampNeg x))))) H1 → va_D A (ws.set q0 (a, .inl (cA, n, .inr (.inl (va_up f i.toNatClampNeg x))))) → va_S A H0 H1 locs1 → W p l e R s m args below meth c H1 locs1 cells slots Q (F0 m (pc + 1) ls rest)) : W p l e R s m args below meth c H locs cells slots Q (F0 m pc ls (.long x :: .int i :: .ref a :: rest)) := by
  refine W.last hexec hb (hP q0 _ ha) ((hK.2 t0 _ ht).1 n (fun j => .long (f j))) (fun q => by cases q) (by show ¬ (i < 0 ∨ (arrV _ _ _).slots.size ≤ _); rw [arrV_size]; exact hin) rfl rfl hdg fun H1 e z oq => ?_
  refine kk H1 _ z (hP.set hD ha ?_ oq) (hD.set ha) (hS.put z oq (hD.2 q0 _ ha))
  show H1[a]? = some (vp_cell _ _)
  rw [e, vp_cell_l, vp_cell_l, arrV_store]
  congr 2
  funext q
  by_cases hq : q = i.toNatClampNeg
  · subst hq
    simp [updV, va_up]
  · simp [updV, va_up, hq]
theorem jo_aald (hexec : p.tables.exec = Jvm.exec) (hb : c.code = cc) (hK : va_K D cl tys s) (hP : va_P D cl ws H) {q0 t0 : Nat} {cA : ClassId} {ty : FieldType} {n : Nat} {f : Nat → Option Nat} (ha : ws[q0]? = some (a, .inl (cA, n, .inr (.inr (.inr (.inr f)))))) (ht : tys[t0]? = some (cA, ty)) (hty : ty.isReference = true) {i : Int32} (hin : vp_in i n) (hdg : decode cc pc = .ok (.aaload, 1))
    (kk : W p l e R s m args below meth c H locs cells slots Q (F0 m (pc + 1) ls (va_rf (f i.toNatClampNeg) :: rest))) : W p l e R s m args below meth c H locs cells slots Q (F0 m pc ls (.int i :: .ref a :: rest)) := by
  have hlt : i.toNatClampNeg < n := Nat.not_le.mp fun q => hin (Or.inr q)
  exact W.aald (v := va_rf (f i.toNatClampNeg)) (ty := ty) hexec hb (hP q0 _ ha) ((hK.2 t0 _ ht).1 n (fun j => va_rf (f j))) hty (fun q => by cases q) (by show ¬ (i < 0 ∨ (arrV _ _ _).slots.size ≤ _); rw [arrV_size]; exact hin) (by show (arrV _ _ _).slots[_]? = _; rw [arrV_read _ _ hlt]) rfl rfl hdg kk
end JWH
end
section
/-! ===== the heap's instructions of the abstract machine ===== -/
/-- the type that a field's kind stands for -/
def jw_fty (code : Nat) (ty : FieldType) : Bool := match code, ty with
  | 0, .int => true
  | 1, .long => true
  | 2, .boolean => true
  | 3, .object _ => true
  | 3, .array _ => true
  | _, _ => false
/-- words of the tables that an instruction needs (calls apart) -/
def jw_wd (own : String) (cl : List vw_C) (q : jw_I) : List Cond := match q.2.1 with
  | .getfield idx | .putfield idx => (match cl[q.2.2.2.1]? with
    | some (_, T, _) => [.fieldLink own idx (T q.2.2.2.2.1).1 (T q.2.2.2.2.1).2.1 (T q.2.2.2.2.1).2.2.1]
    | none => [])
  | .ldc idx => (match q.2.2.2.2.2 with
    | [(v, _)] => bif q.2.2.2.1 == 0 then [.constant own idx (Int32.ofInt v)] else []
    | _ => [])
  | .ldc_w idx => (match q.2.2.2.2.2 with
    | [(v, _)] => [.constant own idx (Int32.ofInt v)]
    | _ => [])
  | .ldc2_w idx => (match q.2.2.2.2.2 with
    | [(v, _)] => [.constantLong own idx (Int64.ofInt v)]
    | _ => [])
  | .getstatic idx => [.fieldLink own idx "ShadowSchool" "SELF_AND_ABOVE" "[I"]
  | _ => []
/-- what else must be so of it -/
def jw_wf (own nm : String) (cl : List vw_C) (q : jw_I) : Bool := match q.2.1 with
  | .getfield _ => (match cl[q.2.2.2.1]? with
    | some (_, _, N) => Nat.blt q.2.2.2.2.1 N
    | none => false)
  | .putfield _ => (match cl[q.2.2.2.1]?, q.2.2.2.2.2 with
    | some (_, T, N), [(_, code)] => Nat.blt q.2.2.2.2.1 N && ((match parseFieldDescriptor (T q.2.2.2.2.1).2.2.1 with | some ty => jw_fty code ty | none => false) && (!(T q.2.2.2.2.1).2.2.2 || (nm == "<init>" && (T q.2.2.2.2.1).1 == own)))
    | _, _ => false)
  | .ldc idx => q.2.2.2.1 == 0 || (own == "ShadowSchool$Reader" && idx == 63)
  | _ => true
/-- the classes' tables -/
def jw_clok (cl : List vw_C) (Ts : List Cond) : Prop := ∀ (ci : Nat) (C : String) (T : u_T) (N : Nat), cl[ci]? = some (C, T, N) → (∀ w ∈ u_ws C T N, w ∈ Ts) ∧ (∃ ty0 : Nat → FieldType, ∀ k, k < N → parseFieldDescriptor (T k).2.2.1 = some (ty0 k)) ∧ ∀ a, a < N → ∀ b, b < N → a ≠ b → (T a).2.1 ≠ (T b).2.1
def jw_isH : Instr → Bool
  | .getfield _ | .putfield _ | .ldc _ | .ldc_w _ | .ldc2_w _ | .getstatic _ | .iaload | .laload | .aaload | .iastore | .lastore | .arraylength => true
  | _ => false
def jw_tx : String := "shadow joined gifted coloured slow borrowed last easy play if or and not hour learnt quick tall number "
/-- the String constant: its object, its bytes, the statics that its methods read -/
def jw_XS (α : Nat → Nat) (A : Nat → Prop) (U : State) (H : Heap) : Prop := vk_R "ShadowSchool$Reader" 63 jw_tx (α jw_str) U ∧ va_O "java/lang/String" (α jw_str) A U H ∧ va_OF "java/lang/String" "coder" "B" (.int 0) (α jw_str) A U H ∧ va_OF "java/lang/String" "value" "[B" (.ref (α (jw_str + 2))) (α jw_str) A U H ∧ va_T .byte (α (jw_str + 2)) 103 (fun j => .int (jw_txt.getD j 0)) A U H ∧ va_Z "java/lang/String" "COMPACT_STRINGS" "Z" (.int 1) A U H ∧ va_Zq "jdk/internal/util/Preconditions" "SIOOBE_FORMATTER" "Ljava/util/function/BiFunction;" A U H
/-- what the world's outside holds: the static row, the String constant -/
def jw_X (α : Nat → Nat) (A : Nat → Prop) (U : State) (H : Heap) : Prop := jw_XS α A U H ∧ va_Z "ShadowSchool" "SELF_AND_ABOVE" "[I" (.ref (α jw_self)) A U H ∧ va_T .int (α jw_self) 6 (fun j => .int (jw_tab.getD j 0)) A U H
theorem jw_sz_set {a b : jw_S} : ∀ {l : List jw_S} {i : Nat}, l[i]? = some a → jw_ssz b = jw_ssz a → jw_sz (l.set i b) = jw_sz l
  | [], i, h, _ => by simp at h
  | x :: l, 0, h, e => by
    simp at h
    subst h
    simp [jw_sz, e]
  | x :: l, i + 1, h, e => by
    simp at h
    simp [jw_sz, jw_sz_set (l := l) (i := i) h e]
theorem jw_tys_get (cy : Nat → ClassId) {t : Nat} (h : t < 5) : ∃ ty, (jw_tys cy)[t]? = some (cy t, ty) ∧ (2 ≤ t → ty.isReference = true) := by
  match t, h with
  | 0, _ => exact ⟨_, rfl, fun q => by omega⟩
  | 1, _ => exact ⟨_, rfl, fun q => by omega⟩
  | 2, _ => exact ⟨_, rfl, fun _ => rfl⟩
  | 3, _ => exact ⟨_, rfl, fun _ => rfl⟩
  | 4, _ => exact ⟨_, rfl, fun _ => rfl⟩
section JWH2
variable {p : Program} {l : Launch} {e : Env} {R : Room} {s : State} {m : MethodId} {args : Array Value} {below : List Frame} {meth : Method} {c : Code} {H : Heap} {locs : List Loc} {cells slots : Nat} {Qf : State → Prop}
variable {cc : ByteArray} {ls : Array Slot} {kd : Nat → List jw_K} {C : Nat → List Value → jw_H → jw_Q → Prop} {bud : Nat → Nat × Nat} {lim : Nat × Nat} {ret : Option FieldType} {L : jw_L} {st : List Value} {h : jw_H} {Q : jw_Q} {K : Nat → jw_L → List Value → jw_H → Prop} {α : Nat → Nat} {nL : Nat}
variable {D : va_G} {cl : List vw_C} {A : Nat → Prop} {cy : Nat → ClassId} {own nm : String} {Ts : List Cond}
theorem jw_get_ok {ci k i : Nat} {f : Value → Prop} (hs : jw_get h ci k i f) : ∃ ks kd0, h.1[i]? = some (.inl (ci, ks)) ∧ ks[k]? = some kd0 ∧ ∀ α : Nat → Nat, ∃ v, f v ∧ jw_ad α v = jw_fld α h.2 i k kd0 := by
  unfold jw_get at hs
  split at hs
  · rename_i cj ks hsh
    obtain ⟨h1, h2⟩ := jw_bif hs
    have h1 : cj = ci := by simpa using h1
    subst h1
    split at h2
    · rename_i hk
      exact ⟨ks, _, hsh, hk, fun α => ⟨_, h2, rfl⟩⟩
    · rename_i n hn1 hk
      refine ⟨ks, _, hsh, hk, fun α => ⟨_, h2, ?_⟩⟩
      unfold jw_fld
      split
      · rename_i h9
        cases h9
        exact absurd rfl hn1
      · rfl
      · rename_i h9
        cases h9
    · rename_i o hk
      exact ⟨ks, _, hsh, hk, fun α => ⟨_, h2, jw_ad_rf α o⟩⟩
    · exact h2.elim
  · exact hs.elim
set_option maxHeartbeats 4000000 in
set_option maxRecDepth 100000 in
theorem jo_heap {pc len : Nat} {ins : Instr} {res : jw_R} (hS0 : jw_isH ins = true) (hx : p.tables.exec = Jvm.exec) (hb : c.code = cc) (hd : jw_okd cc (pc, ins, len, res)) (hw : ∀ w ∈ jw_wd own cl (pc, ins, len, res), w ∈ Ts) (hwf : jw_wf own nm cl (pc, ins, len, res) = true) (hts : ∀ w ∈ Ts, w.before args s = true) (hcl : jw_clok cl Ts) (hown : s.vm.findClass own = some m.cls) (hnm : meth.name = nm)
    (hK0 : va_K D cl (jw_tys cy) s) (hP : va_P D cl (jw_wld cy α h) H) (hD : va_D A (jw_wld cy α h)) (hS : va_S A s.heap H locs) (hX : jw_X α A s s.heap)
    (hs : jw_step kd C bud lim ret (pc, ins, len, res) L st h Q K)
    (hK : ∀ (pc' : Nat) (st' : List Value) (h' : jw_H) (H' : Heap) (locs' : List Loc), K pc' L st' h' → H'.size = H.size → h'.1.length = h.1.length → jw_sz h'.1 = jw_sz h.1 → va_P D cl (jw_wld cy α h') H' → va_D A (jw_wld cy α h') → va_S A s.heap H' locs' → W p l e R s m args below meth c H' locs' cells slots Qf (F0 m pc' ls (st'.map (jw_ad α)))) :
    W p l e R s m args below meth c H locs cells slots Qf (F0 m pc ls (st.map (jw_ad α))) := by
  obtain ⟨hdg, hlen, hst⟩ := hd
  dsimp only at hdg hlen
  have hlen' : ∀ k, jw_len ins = k + 1 → len = k + 1 := fun k hk => by
    rcases hlen with h0 | h0
    · omega
    · omega
  have hK1 : ∀ (pc' : Nat) (st' : List Value), K pc' L st' h → W p l e R s m args below meth c H locs cells slots Qf (F0 m pc' ls (st'.map (jw_ad α))) := fun pc' st' hk => hK pc' st' h H locs hk rfl rfl rfl hP hD hS
  cases ins <;> first | (exact Bool.noConfusion hS0) | skip
  case getfield idx =>
    have := hlen' 2 rfl; subst this
    obtain ⟨i, r, rfl, h2⟩ := jw_r1_ok hs
    obtain ⟨ks, kd0, g1, g2, g3⟩ := jw_get_ok h2
    obtain ⟨v, g4, g5⟩ := g3 α
    unfold jw_wf at hwf
    dsimp only at hwf
    split at hwf
    · rename_i C0 T0 N0 hcl0
      have hkN : res.2.1 < N0 := by simpa [Nat.blt_eq] using hwf
      refine va_get hx hb hts (hcl _ _ _ _ hcl0).1 hown hK0 hP i (jw_wld_some g1) hcl0 res.2.1 hkN (hts _ (hw _ ?_)) (fun _ h => h) (v := jw_ad α v) ?_ hdg (hK1 _ _ g4)
      · unfold jw_wd
        dsimp only
        rw [hcl0]
        exact List.mem_singleton.mpr rfl
      · rw [g5, List.getElem?_mapIdx, g2]
        rfl
    · cases hwf
  case putfield idx =>
    have := hlen' 2 rfl; subst this
    unfold jw_wf at hwf
    dsimp only at hwf
    split at hwf
    · rename_i C0 T0 N0 v0 code hcl0 hres
      simp only [Bool.and_eq_true] at hwf
      obtain ⟨w1, w2, w3⟩ := hwf
      have hkN : res.2.1 < N0 := by simpa [Nat.blt_eq] using w1
      obtain ⟨c1, ⟨ty0, c2⟩, c3⟩ := hcl _ _ _ _ hcl0
      have hlink := hts _ (hw (.fieldLink own idx (T0 res.2.1).1 (T0 res.2.1).2.1 (T0 res.2.1).2.2.1) (by
        unfold jw_wd
        dsimp only
        rw [hcl0]
        exact List.mem_singleton.mpr rfl))
      have hfin : (T0 res.2.1).2.2.2 = false ∨ (meth.name = "<init>" ∧ (T0 res.2.1).1 = own) := by
        simp only [Bool.or_eq_true, Bool.not_eq_true', Bool.and_eq_true, beq_iff_eq] at w3
        rcases w3 with w3 | w3
        · exact Or.inl w3
        · exact Or.inr ⟨hnm.trans w3.1, w3.2⟩
      have hty : ∃ ty, parseFieldDescriptor (T0 res.2.1).2.2.1 = some ty ∧ jw_fty code ty = true := by
        split at w2
        · exact ⟨_, by assumption, w2⟩
        · cases w2
      obtain ⟨ty, hp1, hp2⟩ := hty
      replace hs : jw_put h res.1 res.2.1 res.2.2 st fun r h => K (pc + 3) L r h := hs
      rw [hres] at hs
      unfold jw_put at hs
      split at hs
      · rename_i x i r q0
        cases q0
        split at hs
        · rename_i cj ks hsh
          obtain ⟨h1, h2⟩ := jw_bif hs
          have h1 : cj = res.1 := by simpa using h1
          subst h1
          split at h2
          · rename_i hk
            have e1 : ty = .int := by cases ty <;> first | rfl | exact Bool.noConfusion hp2
            subst e1
            refine jo_put hx hb hts c1 ty0 c2 c3 hown hK0 hP hD hS (jw_wld_some hsh) hcl0 hkN hlink hfin hp1 (v := .int x) rfl rfl (by rw [List.length_mapIdx]; exact (List.getElem?_eq_some_iff.mp hk).1) hdg (fun H1 locs1 z hP1 hD1 hS1 => ?_)
            have e2 : jw_wld cy α (h.1, jw_up h.2.1 i res.2.1 x, h.2.2) = (jw_wld cy α h).set i (α i, .inr (res.1, (ks.mapIdx (jw_fld α h.2 i)).set res.2.1 (.int x))) := by
              rw [jw_wld_keep (h := h) (h' := (h.1, jw_up h.2.1 i res.2.1 x, h.2.2)) hsh rfl (fun j hj => jw_up_ne hj) (fun _ _ => rfl)]
              congr 3
              show Sum.inr (res.1, ks.mapIdx _) = Sum.inr (res.1, _)
              rw [← jw_flds_up (M := h.2) (M' := (jw_up h.2.1 i res.2.1 x, h.2.2)) (kd' := .inl 0) hk (by show Value.int (jw_up _ _ _ _ _ _) = _; rw [jw_up_eq, va_up, if_pos rfl]) (fun j hj => ⟨by show jw_up _ _ _ _ _ _ = _; rw [jw_up_eq, va_up, if_neg hj], rfl⟩), jw_list_set hk]
            rw [← e2] at hP1 hD1
            exact hK _ _ _ _ _ h2 z rfl rfl hP1 hD1 hS1
          · exact h2.elim
        · exact hs.elim
      · rename_i x i r q0
        cases q0
        split at hs
        · rename_i cj ks hsh
          obtain ⟨h1, h2⟩ := jw_bif hs
          have h1 : cj = res.1 := by simpa using h1
          subst h1
          split at h2
          · rename_i hk
            obtain ⟨hx01, h2⟩ := h2
            have e1 : ty = .boolean := by cases ty <;> first | rfl | exact Bool.noConfusion hp2
            subst e1
            refine jo_put hx hb hts c1 ty0 c2 c3 hown hK0 hP hD hS (jw_wld_some hsh) hcl0 hkN hlink hfin hp1 (v := .int x) (by rcases hx01 with rfl | rfl <;> rfl) (by rcases hx01 with rfl | rfl <;> rfl) (by rw [List.length_mapIdx]; exact (List.getElem?_eq_some_iff.mp hk).1) hdg (fun H1 locs1 z hP1 hD1 hS1 => ?_)
            have e2 : jw_wld cy α (h.1, jw_up h.2.1 i res.2.1 x, h.2.2) = (jw_wld cy α h).set i (α i, .inr (res.1, (ks.mapIdx (jw_fld α h.2 i)).set res.2.1 (.int x))) := by
              rw [jw_wld_keep (h := h) (h' := (h.1, jw_up h.2.1 i res.2.1 x, h.2.2)) hsh rfl (fun j hj => jw_up_ne hj) (fun _ _ => rfl)]
              congr 3
              show Sum.inr (res.1, ks.mapIdx _) = Sum.inr (res.1, _)
              rw [← jw_flds_up (M := h.2) (M' := (jw_up h.2.1 i res.2.1 x, h.2.2)) (kd' := .inl 2) hk (by show Value.int (jw_up _ _ _ _ _ _) = _; rw [jw_up_eq, va_up, if_pos rfl]) (fun j hj => ⟨by show jw_up _ _ _ _ _ _ = _; rw [jw_up_eq, va_up, if_neg hj], rfl⟩), jw_list_set hk]
            rw [← e2] at hP1 hD1
            exact hK _ _ _ _ _ h2 z rfl rfl hP1 hD1 hS1
          · exact h2.elim
        · exact hs.elim
      · rename_i x i r q0
        cases q0
        split at hs
        · rename_i cj ks hsh
          obtain ⟨h1, h2⟩ := jw_bif hs
          have h1 : cj = res.1 := by simpa using h1
          subst h1
          split at h2
          · rename_i hk
            have e1 : ty = .long := by cases ty <;> first | rfl | exact Bool.noConfusion hp2
            subst e1
            refine jo_put hx hb hts c1 ty0 c2 c3 hown hK0 hP hD hS (jw_wld_some hsh) hcl0 hkN hlink hfin hp1 (v := .long x) rfl rfl (by rw [List.length_mapIdx]; exact (List.getElem?_eq_some_iff.mp hk).1) hdg (fun H1 locs1 z hP1 hD1 hS1 => ?_)
            have e2 : jw_wld cy α (h.1, h.2.1, jw_up h.2.2 i res.2.1 x) = (jw_wld cy α h).set i (α i, .inr (res.1, (ks.mapIdx (jw_fld α h.2 i)).set res.2.1 (.long x))) := by
              rw [jw_wld_keep (h := h) (h' := (h.1, h.2.1, jw_up h.2.2 i res.2.1 x)) hsh rfl (fun _ _ => rfl) (fun j hj => jw_up_ne hj)]
              congr 3
              show Sum.inr (res.1, ks.mapIdx _) = Sum.inr (res.1, _)
              rw [← jw_flds_up (M := h.2) (M' := (h.2.1, jw_up h.2.2 i res.2.1 x)) (kd' := .inl 1) hk (by show Value.long (jw_up _ _ _ _ _ _) = _; rw [jw_up_eq, va_up, if_pos rfl]) (fun j hj => ⟨rfl, by show jw_up _ _ _ _ _ _ = _; rw [jw_up_eq, va_up, if_neg hj]⟩), jw_list_set hk]
            rw [← e2] at hP1 hD1
            exact hK _ _ _ _ _ h2 z rfl rfl hP1 hD1 hS1
          · exact h2.elim
        · exact hs.elim
      · rename_i j i r q0
        cases q0
        split at hs
        · rename_i cj ks hsh
          obtain ⟨h1, h2⟩ := jw_bif hs
          have h1 : cj = res.1 := by simpa using h1
          subst h1
          split at h2
          · rename_i o hk
            have e1 : (∃ n, ty = .object n) ∨ ∃ t, ty = .array t := by cases ty <;> first | exact Or.inl ⟨_, rfl⟩ | exact Or.inr ⟨_, rfl⟩ | exact Bool.noConfusion hp2
            refine jo_put hx hb hts c1 ty0 c2 c3 hown hK0 hP hD hS (jw_wld_some hsh) hcl0 hkN hlink hfin hp1 (v := .ref (α j)) (by rcases e1 with ⟨n, rfl⟩ | ⟨t, rfl⟩ <;> rfl) (by rcases e1 with ⟨n, rfl⟩ | ⟨t, rfl⟩ <;> rfl) (by rw [List.length_mapIdx]; exact (List.getElem?_eq_some_iff.mp hk).1) hdg (fun H1 locs1 z hP1 hD1 hS1 => ?_)
            have e2 : jw_wld cy α (h.1.set i (.inl (res.1, ks.set res.2.1 (.inr (some j)))), h.2) = (jw_wld cy α h).set i (α i, .inr (res.1, (ks.mapIdx (jw_fld α h.2 i)).set res.2.1 (.ref (α j)))) := by
              rw [jw_wld_set (h := h) (h' := (h.1.set i (.inl (res.1, ks.set res.2.1 (.inr (some j)))), h.2)) hsh rfl (fun _ _ => rfl) (fun _ _ => rfl)]
              congr 3
              show Sum.inr (res.1, (ks.set _ _).mapIdx _) = Sum.inr (res.1, _)
              rw [jw_flds_up (M := h.2) (M' := h.2) (kd' := .inr (some j)) (v := .ref (α j)) hk rfl (fun _ _ => ⟨rfl, rfl⟩)]
            rw [← e2] at hP1 hD1
            exact hK _ _ _ _ _ h2 z (by simp) (jw_sz_set hsh (by simp [jw_ssz])) hP1 hD1 hS1
          · exact h2.elim
        · exact hs.elim
      · exact hs.elim
    · cases hwf
  case ldc idx =>
    have := hlen' 1 rfl; subst this
    unfold jw_step at hs
    dsimp only at hs
    split at hs
    · rename_i v z hv
      cases hk0 : (res.1 == 0) with
      | true =>
        rw [hk0] at hs
        refine lv_ldc hx hb hown (hts _ (hw (.constant own idx (Int32.ofInt v)) ?_)) hdg (hK1 _ _ hs)
        unfold jw_wd
        dsimp only
        rw [hv]
        dsimp only
        rw [hk0]
        exact List.mem_singleton.mpr rfl
      | false =>
        rw [hk0] at hs
        unfold jw_wf at hwf
        dsimp only at hwf
        rw [hk0, Bool.false_or] at hwf
        simp only [Bool.and_eq_true, beq_iff_eq] at hwf
        obtain ⟨rfl, rfl⟩ := hwf
        exact va_ldcS hx hb hown hX.1.1 hdg (hK1 _ _ hs)
    · exact hs.elim
  case ldc_w idx =>
    have := hlen' 2 rfl; subst this
    unfold jw_step at hs
    dsimp only at hs
    split at hs
    · rename_i v z hv
      refine lv_ldcw hx hb hown (hts _ (hw (.constant own idx (Int32.ofInt v)) ?_)) hdg (hK1 _ _ hs)
      unfold jw_wd
      dsimp only
      rw [hv]
      exact List.mem_singleton.mpr rfl
    · exact hs.elim
  case ldc2_w idx =>
    have := hlen' 2 rfl; subst this
    unfold jw_step at hs
    dsimp only at hs
    split at hs
    · rename_i v z hv
      refine lv_ldc2 hx hb hown (hts _ (hw (.constantLong own idx (Int64.ofInt v)) ?_)) hdg (hK1 _ _ hs)
      unfold jw_wd
      dsimp only
      rw [hv]
      exact List.mem_singleton.mpr rfl
    · exact hs.elim
  case getstatic idx =>
    have := hlen' 2 rfl; subst this
    exact va_gets hx hb hX.2.1 hS hown (hts _ (hw (.fieldLink own idx "ShadowSchool" "SELF_AND_ABOVE" "[I") (List.mem_singleton.mpr rfl))) (fun _ h => h) hdg (hK1 _ _ hs)
  case iaload =>
    have := hlen' 0 rfl; subst this
    obtain ⟨i, a, r, rfl, h2⟩ := jw_ix_ok hs
    unfold jw_iald at h2
    split at h2
    · rename_i n rs hsh
      exact va_iald hx hb hK0 hP a 0 (jw_wld_some hsh) rfl h2.1 hdg (hK1 _ _ h2.2)
    · exact h2.elim
    · obtain ⟨rfl, h3, h4⟩ := h2
      exact va_ti hx hb hX.2.2 hS h3 rfl hdg (hK1 _ _ h4)
  case laload =>
    have := hlen' 0 rfl; subst this
    obtain ⟨i, a, r, rfl, h2⟩ := jw_ix_ok hs
    unfold jw_lald at h2
    split at h2
    · rename_i n rs hsh
      exact va_lald hx hb hK0 hP a 1 (jw_wld_some hsh) rfl h2.1 hdg (hK1 _ _ h2.2)
    · exact h2.elim
  case aaload =>
    have := hlen' 0 rfl; subst this
    obtain ⟨i, a, r, rfl, h2⟩ := jw_ix_ok hs
    unfold jw_aald at h2
    split at h2
    · rename_i t n rs hsh
      obtain ⟨h3, h4, h5⟩ := jw_bif h2
      have h3 : t < 3 := by simpa [Nat.blt_eq] using h3
      obtain ⟨ty, t1, t2⟩ := jw_tys_get cy (t := t + 2) (by omega)
      refine jo_aald hx hb hK0 hP (jw_wld_some hsh) t1 (t2 (by omega)) h4 hdg ?_
      have := hK1 _ _ h5
      rw [List.map_cons, jw_ad_rf] at this
      exact this
    · exact h2.elim
  case iastore =>
    have := hlen' 0 rfl; subst this
    replace hs : jw_iast h st fun r h => K (pc + 1) L r h := hs
    unfold jw_iast at hs
    split at hs
    · rename_i x i a r
      split at hs
      · rename_i n rs hsh
        refine jo_iast hx hb hK0 hP hD hS (t0 := 0) (jw_wld_some hsh) rfl hs.1 hdg (fun H1 locs1 z hP1 hD1 hS1 => ?_)
        have e2 : jw_wld cy α (h.1, jw_up h.2.1 a i.toNatClampNeg x, h.2.2) = (jw_wld cy α h).set a (α a, .inl (cy 0, n, .inl (va_up (h.2.1 a) i.toNatClampNeg x))) := by
          rw [jw_wld_keep (h := h) (h' := (h.1, jw_up h.2.1 a i.toNatClampNeg x, h.2.2)) hsh rfl (fun j hj => jw_up_ne hj) (fun _ _ => rfl)]
          congr 3
          show Sum.inl (cy 0, n, Sum.inl (jw_up _ _ _ _ _)) = _
          rw [jw_up_eq]
        rw [← e2] at hP1 hD1
        exact hK _ _ _ _ _ hs.2 z rfl rfl hP1 hD1 hS1
      · exact hs.elim
    · exact hs.elim
  case lastore =>
    have := hlen' 0 rfl; subst this
    replace hs : jw_last h st fun r h => K (pc + 1) L r h := hs
    unfold jw_last at hs
    split at hs
    · rename_i x i a r
      split at hs
      · rename_i n rs hsh
        refine jo_last hx hb hK0 hP hD hS (t0 := 1) (jw_wld_some hsh) rfl hs.1 hdg (fun H1 locs1 z hP1 hD1 hS1 => ?_)
        have e2 : jw_wld cy α (h.1, h.2.1, jw_up h.2.2 a i.toNatClampNeg x) = (jw_wld cy α h).set a (α a, .inl (cy 1, n, .inr (.inl (va_up (h.2.2 a) i.toNatClampNeg x)))) := by
          rw [jw_wld_keep (h := h) (h' := (h.1, h.2.1, jw_up h.2.2 a i.toNatClampNeg x)) hsh rfl (fun _ _ => rfl) (fun j hj => jw_up_ne hj)]
          congr 3
          show Sum.inl (cy 1, n, Sum.inr (Sum.inl (jw_up _ _ _ _ _))) = _
          rw [jw_up_eq]
        rw [← e2] at hP1 hD1
        exact hK _ _ _ _ _ hs.2 z rfl rfl hP1 hD1 hS1
      · exact hs.elim
    · exact hs.elim
  case arraylength =>
    have := hlen' 0 rfl; subst this
    obtain ⟨a, r, rfl, h2⟩ := jw_r1_ok hs
    unfold jw_alen at h2
    split at h2
    · rename_i t n rs hsh
      obtain ⟨h3, h4⟩ := jw_bif h2
      have h3 : t < 5 := by simpa [Nat.blt_eq] using h3
      obtain ⟨ty, t1, -⟩ := jw_tys_get cy h3
      have hg := jw_wld_some (cy := cy) (α := α) hsh
      match t, t1, hg with
      | 0, t1, hg => exact va_alen hx hb hK0 hP a 0 hg t1 rfl hdg (hK1 _ _ h4)
      | 1, t1, hg => exact va_alen hx hb hK0 hP a 1 hg t1 rfl hdg (hK1 _ _ h4)
      | t + 2, t1, hg => exact va_alen hx hb hK0 hP a (t + 2) hg t1 rfl hdg (hK1 _ _ h4)
    · exact h2.elim
end JWH2
end
section
/-! ===== contracts of the abstract machine's methods, and calls ===== -/
def jw_rm (d mc ms : Nat) : Room := { frames := d, cells := mc, slots := ms, locals := 200 * d }
/-- words that are carried in a contract's start: of nest mates, of casts, of arrays' classes -/
def jw_nw (Ns : List Cond) (U : State) : Prop := (∀ w ∈ Ns, va_Nw w U) ∧ va_AO "ShadowSchool$Progress" U ∧ va_AO "ShadowSchool$Shade" U ∧ (Cond.arrayOver (.array .int)).before #[] U = true
def jw_nsok (Ns : List Cond) : Prop := ∀ w ∈ Ns, (∃ a i x h, w = Cond.methodLinkNest a i x h) ∨ ∃ C T, w = Cond.castable C T
def jw_pre (D : va_G) (cl : List vw_C) (cy : Nat → ClassId) (α : Nat → Nat) (Ns : List Cond) (h : jw_H) (sz : Nat) : State → Prop := fun U => U.heap.size = sz ∧ va_P D cl (jw_wld cy α h) U.heap ∧ va_K D cl (jw_tys cy) U ∧ va_D (fun _ => True) (jw_wld cy α h) ∧ jw_X α (va_A (jw_wld cy α h) sz) U U.heap ∧ jw_nw Ns U
def jw_post (D : va_G) (cl : List vw_C) (cy : Nat → ClassId) (α : Nat → Nat) (h : jw_H) (sz mc ms : Nat) (Q : jw_Q) : Option Value → State → Prop := fun v t => ∃ (r : Option Value) (h' : jw_H), v = r.map (jw_ad α) ∧ Q r h' ∧ h'.1.length = h.1.length + mc ∧ jw_sz h'.1 = jw_sz h.1 + ms ∧ t.heap.size = sz + mc ∧ va_P D cl (jw_wld cy α h') t.heap ∧ va_D (va_A (jw_wld cy α h) sz) (jw_wld cy α h')
def jw_Qc (D : va_G) (cl : List vw_C) (cy : Nat → ClassId) (α : Nat → Nat) (h : jw_H) (sz mc ms : Nat) (Q : jw_Q) : Array Value → State → Outcome → State → Prop := fun _ st oc t => (∃ v, oc = .returned v ∧ jw_post D cl cy α h sz mc ms Q v t) ∧ va_F (va_A (jw_wld cy α h) sz) st t
def jw_fut (α : Nat → Nat) (n sz mc : Nat) : Prop := ∀ j, n ≤ j → j < n + mc → α j = sz + (j - n)
def jw_met (l : Launch) (D : va_G) (cl : List vw_C) (cy : Nat → ClassId) (α : Nat → Nat) (Ns Tg : List Cond) (d : Nat) (y : jw_Y) (as : List Value) (h : jw_H) (Q : jw_Q) : Prop :=
  ∀ sz : Nat, jw_fut α h.1.length sz y.2.2.2.2.1.1 → Met l y.1 (Cond.code y.1 y.2.1 y.2.2.1 y.2.2.2.1 :: Tg) (jw_rm d y.2.2.2.2.1.1 y.2.2.2.2.1.2) (va_Pc (as.map (jw_ad α)) (jw_pre D cl cy α Ns h sz)) (jw_Qc D cl cy α h sz y.2.2.2.2.1.1 y.2.2.2.2.1.2 Q) y.2.2.2.2.1.1 y.2.2.2.2.1.2 (va_A (jw_wld cy α h) sz)
theorem jw_nw_same {Ns : List Cond} (hn : jw_nsok Ns) {u U : State} (h : u.vm = U.vm) (hz : jw_nw Ns u) : jw_nw Ns U := by
  refine ⟨fun w hw => ?_, va_AO.moved (h ▸ Vm.Alike.refl u.vm) hz.2.1, va_AO.moved (h ▸ Vm.Alike.refl u.vm) hz.2.2.1, over_moved (h ▸ Vm.Alike.refl u.vm) hz.2.2.2⟩
  rcases hn w hw with ⟨a, i, x, k, rfl⟩ | ⟨C, T, rfl⟩
  · exact va_Nw.same rfl h (hz.1 _ hw)
  · exact va_Nw.same rfl h (hz.1 _ hw)
theorem jw_nw_warm {Ns : List Cond} (hn : jw_nsok Ns) {s U : State} (hW : s.WarmedH U.vm) (hz : jw_nw Ns s) : jw_nw Ns U := by
  refine ⟨fun w hw => ?_, va_AO.moved hW.alike hz.2.1, va_AO.moved hW.alike hz.2.2.1, over_moved hW.alike hz.2.2.2⟩
  rcases hn w hw with ⟨a, i, x, k, rfl⟩ | ⟨C, T, rfl⟩
  · exact va_Nw.warmM hW (hz.1 _ hw)
  · exact va_Nw.warmC hW (hz.1 _ hw)
theorem jw_X_go {α : Nat → Nat} {A B : Nat → Prop} {u U : State} {H H1 : Heap} (h : jw_X α A u H) (hR : vk_R "ShadowSchool$Reader" 63 jw_tx (α jw_str) U) (hvm : u.vm.Alike U.vm) (hq : ∀ a : Nat, a < H.size → ¬ A a → H1[a]? = H[a]?) (hAB : ∀ q, B q → A q) : jw_X α B U H1 := by
  obtain ⟨⟨-, h2, h3, h4, h5, h6, h7⟩, h8, h9⟩ := h
  refine ⟨⟨hR, ((va_O.moved hvm h2).kept hq).narrow hAB, ((va_OF.moved hvm h3).kept hq).narrow hAB, ((va_OF.moved hvm h4).kept hq).narrow hAB, ((va_T.moved hvm h5).kept hq).narrow hAB, ((va_Z.moved hvm h6).kept hq).narrow hAB, ?_⟩, ((va_Z.moved hvm h8).kept hq).narrow hAB, ((va_T.moved hvm h9).kept hq).narrow hAB⟩
  have h7' := (va_Zq.moved hvm h7).kept hq
  rcases h7' with h7' | ⟨t, h7'⟩
  · exact Or.inl (h7'.narrow hAB)
  · exact Or.inr ⟨t, h7'.narrow hAB⟩
theorem jw_X_same {α : Nat → Nat} {A : Nat → Prop} {u U : State} {H : Heap} (h : jw_X α A u H) (hvm : u.vm = U.vm) : jw_X α A U H := jw_X_go h (vk_R.same hvm.symm h.1.1) (hvm ▸ Vm.Alike.refl u.vm) (fun _ _ _ => rfl) (fun _ h => h)
theorem jw_blind {D : va_G} {cl : List vw_C} {cy : Nat → ClassId} {α : Nat → Nat} {Ns : List Cond} (hn : jw_nsok Ns) {h : jw_H} {sz : Nat} {av : List Value} : FrameBlind (va_Pc av (jw_pre D cl cy α Ns h sz)) := by
  intro a U g mk q
  obtain ⟨q0, q1, qP, qK, qD, qX, qN⟩ := q
  exact ⟨q0, q1, qP, va_K.moved (u := U) (U := U.calling g mk a) (Vm.Alike.refl U.vm) qK, qD, jw_X_same (u := U) (U := U.calling g mk a) qX rfl, jw_nw_same hn (u := U) rfl qN⟩
section JWC
variable {p : Program} {l : Launch} {e : Env} {R : Room} {s : State} {m : MethodId} {args : Array Value} {below : List Frame} {meth : Method} {c : Code} {H : Heap} {locs : List Loc} {cells slots : Nat} {Qf : State → Prop}
variable {cc : ByteArray} {ls : Array Slot} {α : Nat → Nat} {nL : Nat} {D : va_G} {cl : List vw_C} {A : Nat → Prop} {cy : Nat → ClassId} {own nm : String} {Ts Tg Ns : List Cond} {h : jw_H}
theorem jo_callg {A0 A1 : Nat → Prop} {H0 : Heap} {pc mc ms : Nat} {rest st0 : List Value} {free : Addr → Prop} {Pv : Option Value → State → Prop} (hr : va_Run p l e R s m args below meth c H locs cells slots mc ms (F0 m pc ls st0) rest (fun st oc t => (∃ v, oc = .returned v ∧ Pv v t) ∧ va_F A1 st t) free) (hS : va_S A0 H0 H locs) (hA : ∀ q, q < H.size → A1 q → A0 q) (hf : ∀ q, free q → A0 q)
    (kk : ∀ (v : Option Value) (t : State) (H1 : Heap) (locs1 : List Loc), t.heap = H1 → Pv v t → va_S A0 H0 H1 locs1 → W p l e R s m args below meth c H1 locs1 (cells + mc) (slots + ms) Qf (F0 m (pc + 3) ls (v.toList ++ rest))) : W p l e R s m args below meth c H locs cells slots Qf (F0 m pc ls st0) := by
  intro T hT X
  obtain ⟨v, st₀, t, T', L, h0, X', hL, e1, e2, ⟨⟨r, hv, hp⟩, hz, hk⟩, st⟩ := hr T hT X
  cases hv
  rw [h0] at hz hk
  obtain ⟨t2, a1, b1⟩ := kk v t T'.heap (locs ++ L) e1.symm hp
    ⟨Nat.le_trans hS.1 (by rw [e1]; exact hz), fun q h1 h2 => by rw [e1, hk q (Nat.lt_of_lt_of_le h1 hS.1) (fun z => h2 (hA q (Nat.lt_of_lt_of_le h1 hS.1) z))]; exact hS.2.1 q h1 h2, fun q hq => by
      rcases List.mem_append.mp hq with h | h
      · exact hS.2.2 q h
      · exact hf _ (hL q h)⟩ T' rfl X'
  exact ⟨t2, st t2 a1, b1⟩
/-- the callee's cells are the caller's -/
theorem jw_sub (hD : va_D A (jw_wld cy α h)) (hS : va_S A s.heap H locs) (hA : ∀ q, s.heap.size ≤ q → A q) : ∀ q, va_A (jw_wld cy α h) H.size q → A q := by
  intro q hq
  rcases hq with ⟨k, e0, hk⟩ | hq
  · exact hD.2 k _ hk
  · exact hA q (Nat.le_trans hS.1 hq)
theorem jw_start (hns : jw_nsok Ns) (hK0 : va_K D cl (jw_tys cy) s) (hP : va_P D cl (jw_wld cy α h) H) (hD : va_D A (jw_wld cy α h)) (hS : va_S A s.heap H locs) (hA : ∀ q, s.heap.size ≤ q → A q) (hX : jw_X α A s s.heap) (hN : jw_nw Ns s) {av : List Value} {a : Array Value} (ha : a = av.toArray) : ∀ U : State, U.heap = H → s.WarmedH U.vm → va_Pc av (jw_pre D cl cy α Ns h H.size) a U := by
  intro U hU hW
  have hsub := jw_sub hD hS hA
  have hkeep : ∀ a : Nat, a < s.heap.size → ¬ A a → U.heap[a]? = s.heap[a]? := fun a h1 h2 => by rw [hU]; exact hS.2.1 a h1 h2
  refine ⟨ha, by rw [hU], by rw [hU]; exact hP, va_K.moved hW.alike hK0, hD.weaken (fun _ _ _ _ => trivial), jw_X_go hX (vk_R.warm hW hX.1.1) hW.alike hkeep hsub, jw_nw_warm hns hW hN⟩
/-- a call's end, whichever instruction made it -/
theorem jo_end {pc d : Nat} {y : jw_Y} {st0 rest : List Value} {Q : jw_Q} {a : Array Value} (hS : va_S A s.heap H locs) (hD : va_D A (jw_wld cy α h)) (hA : ∀ q, s.heap.size ≤ q → A q)
    (hr : va_Run p l e R s m args below meth c H locs cells slots y.2.2.2.2.1.1 y.2.2.2.2.1.2 (F0 m pc ls st0) (rest.map (jw_ad α)) (jw_Qc D cl cy α h H.size y.2.2.2.2.1.1 y.2.2.2.2.1.2 Q a) (va_A (jw_wld cy α h) H.size))
    (hK : ∀ (v : Option Value) (h' : jw_H) (H' : Heap) (locs' : List Loc), Q v h' → H'.size = H.size + y.2.2.2.2.1.1 → h'.1.length = h.1.length + y.2.2.2.2.1.1 → jw_sz h'.1 = jw_sz h.1 + y.2.2.2.2.1.2 → va_P D cl (jw_wld cy α h') H' → va_D A (jw_wld cy α h') → va_S A s.heap H' locs' → W p l e R s m args below meth c H' locs' (cells + y.2.2.2.2.1.1) (slots + y.2.2.2.2.1.2) Qf (F0 m (pc + 3) ls ((v.toList ++ rest).map (jw_ad α)))) :
    W p l e R s m args below meth c H locs cells slots Qf (F0 m pc ls st0) := by
  have hsub := jw_sub hD hS hA
  refine jo_callg (Pv := jw_post D cl cy α h H.size y.2.2.2.2.1.1 y.2.2.2.2.1.2 Q) hr hS (fun q _ h => hsub q h) hsub (fun v t H1 locs1 ht hp hS1 => ?_)
  obtain ⟨r, h', rfl, hq, n1, n2, n3, hP1, hD1⟩ := hp
  subst ht
  have := hK r h' t.heap locs1 hq n3 n1 n2 hP1 (hD1.weaken (fun k q _ hz => hsub q.1 hz)) hS1
  cases r <;> exact this
end JWC
end
section
/-! ===== the calls' instructions of the abstract machine ===== -/
def jw_code (y : jw_Y) : Cond := Cond.code y.1 y.2.1 y.2.2.1 y.2.2.2.1
/-- words of a virtual call: kind 0: the receiver's own method; kind 1: of a class X, found in O, by the receiver's class -/
def jw_wcV (own : String) (cl : List vw_C) (ys : List jw_Y) (idx k : Nat) (z : Int × Nat) : List Cond := match cl[z.1.toNat]?, ys[z.2]? with
  | some (C, _, _), some y => bif k % 16 == 0 then [.methodLink own idx y.1, .instanceMethod y.1, .selects C y.1 y.1, .initialized C, jw_code y]
    else (match cl[k / 16 % 16]?, cl[k / 256 % 16]?, ys[k / 4096]? with
    | some (X, _, _), some (O, _, _), some y0 => [.methodLink own idx ⟨X, y.1.name, y.1.desc⟩, .sameMethod X O y.1.name y.1.desc, .instanceMethod ⟨O, y.1.name, y.1.desc⟩, .selects C ⟨X, y.1.name, y.1.desc⟩ y.1, .instanceMethod y.1, .initialized y.1.cls, jw_code y, jw_code y0]
    | _, _, _ => [])
  | _, _ => []
def jw_nh (C : String) : Bool := C != "java/lang/invoke/MethodHandle" && C != "java/lang/invoke/VarHandle"
def jw_par (desc : String) (n : Nat) : Bool := (match parseMethodDescriptor desc with
  | some d => d.parameters.length == n
  | none => false)
def jw_fcV (cl : List vw_C) (ys : List jw_Y) (k n : Nat) (z : Int × Nat) : Bool := match cl[z.1.toNat]?, ys[z.2]? with
  | some (C, _, _), some y => Nat.ble y.2.2.1 100 && (jw_par y.1.desc n && (bif k % 16 == 0 then y.1.cls == C && jw_nh C
    else (match cl[k / 16 % 16]?, cl[k / 256 % 16]?, ys[k / 4096]? with
    | some (_, _, _), some (O, _, _), some y0 => y0.1 == ⟨O, y.1.name, y.1.desc⟩ && jw_nh O
    | _, _, _ => false)))
  | _, _ => false
theorem jw_find_ok {ci mid : Nat} : ∀ {l : List (Int × Nat)}, jw_find ci l = some mid → ((ci : Int), mid) ∈ l
  | [], h => by cases h
  | (a, b) :: l, h => by
    rw [jw_find] at h
    cases hc : (a == (ci : Int)) with
    | true =>
      rw [hc] at h
      have : b = mid := Option.some.inj h
      rw [← this, ← (beq_iff_eq.mp hc)]
      exact List.mem_cons_self
    | false =>
      rw [hc] at h
      exact List.mem_cons_of_mem _ (jw_find_ok h)
theorem jw_goodIn {Ts Tg X : List Cond} (hTs : ∀ w ∈ Tg, w ∈ Ts) (hg : ∀ w ∈ Tg, goodWord w = true) (hX : ∀ w ∈ X, w ∈ Tg) : GoodIn Ts X := fun w hw => ⟨hTs w (hX w hw), good_of_word (hg w (hX w hw))⟩
theorem jw_par_ok {desc : String} {n : Nat} (h : jw_par desc n = true) : (parseMethodDescriptor desc).map (fun d => d.parameters.length) = some n := by
  unfold jw_par at h
  split at h
  · rename_i d hd
    rw [hd]
    simpa using h
  · cases h
theorem jw_nh_ok {C : String} (h : jw_nh C = true) : C ≠ "java/lang/invoke/MethodHandle" ∧ C ≠ "java/lang/invoke/VarHandle" := by
  simpa [jw_nh] using h
theorem jw_take {st r : List Value} {n : Nat} {v : Value} (h : st.drop n = v :: r) : st = st.take n ++ v :: r := by
  rw [← h, List.take_append_drop]
section JWV
variable {p : Program} {l : Launch} {e : Env} {R : Room} {s : State} {m : MethodId} {args : Array Value} {below : List Frame} {meth : Method} {c : Code} {H : Heap} {locs : List Loc} {cells slots : Nat} {Qf : State → Prop}
variable {cc : ByteArray} {ls : Array Slot} {α : Nat → Nat} {nL : Nat} {D : va_G} {cl : List vw_C} {A : Nat → Prop} {cy : Nat → ClassId} {own nm : String} {Ts Tg Ns : List Cond} {h : jw_H} {ys : List jw_Y} {C : Nat → List Value → jw_H → jw_Q → Prop} {lim : Nat × Nat} {st : List Value} {f : List Value → jw_H → Prop}
theorem jw_call_ok {kind n : Nat} {tg : List (Int × Nat)} {bud : Nat → Nat × Nat} (hs : jw_call C bud lim (kind, n, tg) st h f) : ∃ (b : Nat) (r : List Value) (ci : Nat) (ks : List jw_K) (mid : Nat), st = st.take n ++ .ref b :: r ∧ n < st.length ∧ h.1[b]? = some (.inl (ci, ks)) ∧ ((ci : Int), mid) ∈ tg ∧ jw_cat r ≤ 8 ∧ (bud mid = (0, 0) ∨ (h.1.length + (bud mid).1 ≤ lim.1 ∧ jw_sz h.1 + (bud mid).2 ≤ lim.2)) ∧ C mid (.ref b :: (st.take n).reverse) h (fun v h' => f (v.toList ++ r) h') := by
  unfold jw_call at hs
  dsimp only at hs
  split at hs
  · rename_i b r hdr
    split at hs
    · rename_i ci ks hsh
      split at hs
      · rename_i mid hm
        obtain ⟨h1, h2⟩ := jw_bif hs
        simp only [Bool.and_eq_true, Bool.or_eq_true, Nat.blt_eq, Nat.ble_eq, beq_iff_eq] at h1
        exact ⟨b, r, ci, ks, mid, jw_take hdr, h1.1, hsh, jw_find_ok hm, h1.2.1, h1.2.2, h2⟩
      · exact hs.elim
    · exact hs.elim
  · exact hs.elim
set_option maxHeartbeats 4000000 in
theorem jo_virt {pc idx kind n d : Nat} {tg : List (Int × Nat)} (hx : p.tables.exec = Jvm.exec) (hb : c.code = cc) (hml : c.maxLocals = nL) (hown : s.vm.findClass own = some m.cls) (hts : ∀ w ∈ Ts, w.before args s = true) (hTs : ∀ w ∈ Tg, w ∈ Ts) (hgood : ∀ w ∈ Tg, goodWord w = true) (hns : jw_nsok Ns)
    (hw : ∀ z ∈ tg, ∀ w ∈ jw_wcV own cl ys idx kind z, w ∈ Tg) (hwf : ∀ z ∈ tg, jw_fcV cl ys kind n z = true) (hRf : d + 1 ≤ R.frames) (hRl : 200 * d + 200 ≤ R.locals) (hdg : decode cc pc = .ok (.invokevirtual idx, 3)) (hlz : ls.size = nL)
    (hK0 : va_K D cl (jw_tys cy) s) (hP : va_P D cl (jw_wld cy α h) H) (hD : va_D A (jw_wld cy α h)) (hS : va_S A s.heap H locs) (hA : ∀ q, s.heap.size ≤ q → A q) (hX : jw_X α A s s.heap) (hN : jw_nw Ns s)
    (IH : ∀ (mid : Nat) (as : List Value) (Q : jw_Q), C mid as h Q → ∀ y, ys[mid]? = some y → jw_met l D cl cy α Ns Tg d y as h Q)
    (hfut : ∀ mc, h.1.length + mc ≤ lim.1 → jw_fut α h.1.length H.size mc) (hlim : ∀ mc ms, h.1.length + mc ≤ lim.1 → jw_sz h.1 + ms ≤ lim.2 → cells + mc ≤ R.cells ∧ slots + ms ≤ R.slots) (hin : h.1.length ≤ lim.1 ∧ jw_sz h.1 ≤ lim.2)
    (hs : jw_call C (jw_bud ys) lim (kind, n, tg) st h f)
    (hK : ∀ (st' : List Value) (h' : jw_H) (H' : Heap) (locs' : List Loc) (k n : Nat), f st' h' → H'.size = H.size + k → h'.1.length = h.1.length + k → jw_sz h'.1 = jw_sz h.1 + n → h'.1.length ≤ lim.1 → jw_sz h'.1 ≤ lim.2 → va_P D cl (jw_wld cy α h') H' → va_D A (jw_wld cy α h') → va_S A s.heap H' locs' → W p l e R s m args below meth c H' locs' (cells + k) (slots + n) Qf (F0 m (pc + 3) ls (st'.map (jw_ad α)))) :
    W p l e R s m args below meth c H locs cells slots Qf (F0 m pc ls (st.map (jw_ad α))) := by
  obtain ⟨b, r, ci, ks, mid, e1, e2, hsh, htg, hcat, hbud, hC⟩ := jw_call_ok hs
  have hwf1 := hwf _ htg
  have hw1 := hw _ htg
  unfold jw_fcV at hwf1
  unfold jw_wcV at hw1
  dsimp only [Int.toNat_natCast] at hwf1 hw1
  split at hwf1
  · rename_i C0 T0 N0 y hcl hy
    rw [hcl, hy] at hw1
    dsimp only at hw1
    have hb1 : jw_bud ys mid = y.2.2.2.2.1 := by unfold jw_bud; rw [hy]
    have hbd : h.1.length + y.2.2.2.2.1.1 ≤ lim.1 ∧ jw_sz h.1 + y.2.2.2.2.1.2 ≤ lim.2 := by
      rcases hbud with hz | hz
      · rw [hb1] at hz
        rw [hz]
        exact hin
      · rw [hb1] at hz
        exact hz
    have hM := IH _ _ _ hC y hy H.size (hfut _ hbd.1)
    have hroom := hlim _ _ hbd.1 hbd.2
    simp only [Bool.and_eq_true, Nat.ble_eq] at hwf1
    obtain ⟨w1, w2, w3⟩ := hwf1
    have hrecv := va_recv hK0 hP hcl (jw_wld_some hsh)
    have hpre := jw_start (av := ((Value.ref b :: (st.take n).reverse).map (jw_ad α))) hns hK0 hP hD hS hA hX hN rfl
    have hstk : (F0 m pc ls (st.map (jw_ad α))).stack = ((st.take n).reverse.map (jw_ad α)).reverse ++ .ref (α b) :: r.map (jw_ad α) := by
      show st.map (jw_ad α) = _
      rw [← List.map_reverse, List.reverse_reverse]
      conv => lhs; rw [e1]
      rw [List.map_append]
      rfl
    have hlen : ((st.take n).reverse.map (jw_ad α)).length = n := by simp; omega
    have hrm : (jw_rm d y.2.2.2.2.1.1 y.2.2.2.2.1.2).frames + 1 ≤ R.frames ∧ 8 + (y.2.2.1 + 11) + (jw_rm d y.2.2.2.2.1.1 y.2.2.2.2.1.2).locals ≤ R.locals := ⟨hRf, by show 8 + (y.2.2.1 + 11) + 200 * d ≤ R.locals; omega⟩
    have hgo : ∀ (hr : va_Run p l e R s m args below meth c H locs cells slots y.2.2.2.2.1.1 y.2.2.2.2.1.2 (F0 m pc ls (st.map (jw_ad α))) (r.map (jw_ad α)) (jw_Qc D cl cy α h H.size y.2.2.2.2.1.1 y.2.2.2.2.1.2 (fun v h' => f (v.toList ++ r) h') (Value.ref (α b) :: (st.take n).reverse.map (jw_ad α)).toArray) (va_A (jw_wld cy α h) H.size)), W p l e R s m args below meth c H locs cells slots Qf (F0 m pc ls (st.map (jw_ad α))) := fun hr =>
      jo_end (d := d) hS hD hA hr (fun v h' H' locs' hq n1 n2 n3 hP1 hD1 hS1 => hK _ _ _ _ _ _ hq n1 n2 n3 (by rw [n2]; exact hbd.1) (by rw [n3]; exact hbd.2) hP1 hD1 hS1)
    cases hk0 : (kind % 16 == 0) with
    | true =>
      rw [hk0] at w3 hw1
      dsimp only [cond_true] at w3 hw1
      simp only [Bool.and_eq_true, beq_iff_eq] at w3
      have hT : GoodIn Ts (wsV own idx C0 y.1 (Cond.code y.1 y.2.1 y.2.2.1 y.2.2.2.1 :: Tg)) := jw_goodIn hTs hgood (fun w hw => by
        rcases List.mem_append.mp hw with q | q
        · exact hw1 w (by simp only [List.mem_cons, List.not_mem_nil, or_false] at q ⊢; rcases q with q | q | q | q <;> simp [q])
        · rcases List.mem_cons.mp q with q | q
          · exact hw1 w (by rw [q]; simp [jw_code])
          · exact q)
      exact hgo (va_runV ⟨hx, hb, hml, hown, hts⟩ hM (cwV n hts hT rfl rfl rfl ⟨w3.1, by rw [w3.1]; exact (jw_nh_ok w3.2).1, by rw [w3.1]; exact (jw_nh_ok w3.2).2, jw_par_ok w2⟩ hrm) ⟨jw_blind hns, hrecv, hpre⟩ rfl hlen hlz hstk (lv_room (by rw [jw_cat_map]; exact hcat)) hdg hroom)
    | false =>
      rw [hk0] at w3 hw1
      dsimp only [cond_false] at w3 hw1
      split at w3
      · rename_i X0 TX NX O0 TO NO y0 hX0 hO0 hy0
        rw [hX0, hO0, hy0] at hw1
        dsimp only at hw1
        simp only [Bool.and_eq_true, beq_iff_eq] at w3
        have hT : GoodIn Ts (va_wsO own idx C0 O0 ⟨X0, y.1.name, y.1.desc⟩ y.1 (Cond.code y.1 y.2.1 y.2.2.1 y.2.2.2.1 :: Tg)) := jw_goodIn hTs hgood (fun w hw => by
          rcases List.mem_append.mp hw with q | q
          · exact hw1 w (by simp only [List.mem_cons, List.not_mem_nil, or_false] at q ⊢; rcases q with q | q | q | q | q | q <;> simp [q])
          · rcases List.mem_cons.mp q with q | q
            · exact hw1 w (by rw [q]; simp [jw_code])
            · exact q)
        have h00 : Cond.code ⟨O0, y.1.name, y.1.desc⟩ y0.2.1 y0.2.2.1 y0.2.2.2.1 ∈ Ts := hTs _ (hw1 _ (by rw [← w3.1]; simp [jw_code]))
        exact hgo (va_runU ⟨hx, hb, hml, hown, hts⟩ hM (va_cwO n hts hT rfl rfl rfl h00 ⟨(jw_nh_ok w3.2).1, (jw_nh_ok w3.2).2, jw_par_ok w2⟩ hrm) ⟨jw_blind hns, hrecv, hpre⟩ rfl hlen hlz hstk (lv_room (by rw [jw_cat_map]; exact hcat)) hdg hroom)
      · cases w3
  · cases hwf1
/-- the two methods of the String constant -/
def jw_yLen : MethodName := ⟨"java/lang/String", "length", "()I"⟩
def jw_yChr : MethodName := ⟨"java/lang/String", "charAt", "(I)C"⟩
def jw_cLen : Cond := Cond.code jw_yLen prog_18_method_54_code 1 (some .int)
def jw_cChr : Cond := Cond.code jw_yChr prog_18_method_56_code 2 (some .char)
def jw_strok (l : Launch) (Tg : List Cond) : Prop := ∀ (α : Nat → Nat) (A : Nat → Prop) (sz d : Nat), 4 ≤ d →
  Met l jw_yLen (jw_cLen :: Tg) (jw_rm d 0 0) (va_Pc [.ref (α jw_str)] (fun U => U.heap.size = sz ∧ jw_X α A U U.heap)) (fun _ st oc t => oc = .returned (some (.int 103)) ∧ t.heap = st.heap) 0 0 (fun _ => False) ∧
  ∀ i : Int32, vp_in i 103 → Met l jw_yChr (jw_cChr :: Tg) (jw_rm d 0 0) (va_Pc [.ref (α jw_str), .int i] (fun U => U.heap.size = sz ∧ jw_X α A U U.heap)) (fun _ st oc t => oc = .returned (some (.int (jw_chr i))) ∧ t.heap = st.heap) 0 0 (fun _ => False)
def jw_wcT (own : String) (idx k : Nat) : List Cond := bif k == 100000 then [.methodLink own idx jw_yLen, .instanceMethod jw_yLen, .selects "java/lang/String" jw_yLen jw_yLen, .initialized "java/lang/String", jw_cLen] else [.methodLink own idx jw_yChr, .instanceMethod jw_yChr, .selects "java/lang/String" jw_yChr jw_yChr, .initialized "java/lang/String", jw_cChr]
theorem jo_callh {pc : Nat} {rest st0 : List Value} {v : Value} (hr : va_Run p l e R s m args below meth c H locs cells slots 0 0 (F0 m pc ls st0) rest (fun st oc t => oc = .returned (some v) ∧ t.heap = st.heap) (fun _ => False)) (hS : va_S A s.heap H locs)
    (kk : ∀ (locs1 : List Loc), va_S A s.heap H locs1 → W p l e R s m args below meth c H locs1 cells slots Qf (F0 m (pc + 3) ls (v :: rest))) : W p l e R s m args below meth c H locs cells slots Qf (F0 m pc ls st0) := by
  intro T hT X
  obtain ⟨v1, st₀, t, T', L, h0, X', hL, e1, e2, ⟨hv, hh⟩, st⟩ := hr T hT X
  cases hv
  have hTh : T'.heap = H := by rw [e1, hh, h0]
  obtain ⟨t2, a1, b1⟩ := kk (locs ++ L) ⟨hS.1, hS.2.1, fun q hq => by
      rcases List.mem_append.mp hq with h | h
      · exact hS.2.2 q h
      · exact (hL q h).elim⟩ T' hTh X'
  exact ⟨t2, st t2 a1, b1⟩
theorem jw_len_par : jw_par "()I" 0 = true := by decide +kernel
theorem jw_chr_par : jw_par "(I)C" 1 = true := by decide +kernel
set_option maxHeartbeats 4000000 in
theorem jo_str {pc idx n d d' k : Nat} {tg : List (Int × Nat)} {kd : Nat → List jw_K} (hstr : jw_strok l Tg) (hx : p.tables.exec = Jvm.exec) (hb : c.code = cc) (hml : c.maxLocals = nL) (hown : s.vm.findClass own = some m.cls) (hts : ∀ w ∈ Ts, w.before args s = true) (hTs : ∀ w ∈ Tg, w ∈ Ts) (hgood : ∀ w ∈ Tg, goodWord w = true)
    (hw : ∀ w ∈ jw_wcT own idx k, w ∈ Tg) (hRf : d + 1 ≤ R.frames) (hRl : 200 * d + 200 ≤ R.locals) (hdg : decode cc pc = .ok (.invokevirtual idx, 3)) (hlz : ls.size = nL)
    (hS : va_S A s.heap H locs) (hX : jw_X α A s s.heap) (hys : ys.length ≤ 100000) {r : List Value} (hst : st = st.take n ++ .ref jw_str :: r) (hn : n < st.length) (hcat : jw_cat r ≤ 8) (hk : k = 100000 ∨ k = 100001) {Q : jw_Q} (hC : jw_C kd ys d k (.ref jw_str :: (st.take n).reverse) h Q) (hcs : cells + 0 ≤ R.cells ∧ slots + 0 ≤ R.slots)
    (hK : ∀ (v : Int32) (locs' : List Loc), Q (some (.int v)) h → va_S A s.heap H locs' → W p l e R s m args below meth c H locs' cells slots Qf (F0 m (pc + 3) ls (.int v :: r.map (jw_ad α)))) :
    W p l e R s m args below meth c H locs cells slots Qf (F0 m pc ls (st.map (jw_ad α))) := by
  have hkeep : ∀ (U : State), U.heap = H → ∀ a : Nat, a < s.heap.size → ¬ A a → U.heap[a]? = s.heap[a]? := fun U hU a h1 h2 => by rw [hU]; exact hS.2.1 a h1 h2
  have hpre : ∀ (av : List Value) (a : Array Value), a = av.toArray → ∀ U : State, U.heap = H → s.WarmedH U.vm → va_Pc av (fun U => U.heap.size = H.size ∧ jw_X α A U U.heap) a U := fun av a ha U hU hW =>
    ⟨ha, by rw [hU], jw_X_go hX (vk_R.warm hW hX.1.1) hW.alike (hkeep U hU) (fun _ h => h)⟩
  have hbl : ∀ av : List Value, FrameBlind (va_Pc av (fun U => U.heap.size = H.size ∧ jw_X α A U U.heap)) := fun av a U g mk q => ⟨q.1, q.2.1, jw_X_same (u := U) (U := U.calling g mk a) q.2.2 rfl⟩
  have hrecv : ∃ cell : Cell, H[α jw_str]? = some cell ∧ cell.vm.isStatics = false ∧ s.vm.findClass "java/lang/String" = some cell.cls := by
    obtain ⟨cell, h1, h2, h3, -⟩ := hX.1.2.1.kept hS.2.1
    exact ⟨cell, h1, h2, h3⟩
  have hstk : (F0 m pc ls (st.map (jw_ad α))).stack = ((st.take n).reverse.map (jw_ad α)).reverse ++ .ref (α jw_str) :: r.map (jw_ad α) := by
    show st.map (jw_ad α) = _
    rw [← List.map_reverse, List.reverse_reverse]
    conv => lhs; rw [hst]
    rw [List.map_append]
    rfl
  cases d with
  | zero => exact hC.elim
  | succ d =>
    rw [jw_C] at hC
    rw [List.getElem?_eq_none (by rcases hk with rfl | rfl <;> omega)] at hC
    dsimp only at hC
    have hwT := fun w hz => hw w hz
    rcases hC with ⟨rfl, h4, has, hq⟩ | ⟨rfl, h4, i, has, hin, hq⟩
    · have hnil : (st.take n).reverse = [] := by simpa using has
      rw [hnil] at hstk
      have hM := (hstr α A H.size (d + 1) (by omega)).1
      have hT : GoodIn Ts (wsV own idx "java/lang/String" jw_yLen (jw_cLen :: Tg)) := jw_goodIn hTs hgood (fun w hw1 => by
        rcases List.mem_append.mp hw1 with q | q
        · exact hw w (by simp only [jw_wcT, List.mem_cons, List.not_mem_nil, or_false] at q ⊢; rcases q with q | q | q | q <;> simp [q])
        · rcases List.mem_cons.mp q with q | q
          · exact hw w (by rw [q]; simp [jw_wcT])
          · exact q)
      exact jo_callh (va_runV ⟨hx, hb, hml, hown, hts⟩ hM (cwV 0 hts hT rfl rfl rfl ⟨rfl, by decide, by decide, jw_par_ok jw_len_par⟩ ⟨by show d + 1 + 1 ≤ _; omega, by show 8 + (1 + 11) + 200 * (d + 1) ≤ R.locals; omega⟩) ⟨hbl _, hrecv, hpre _ _ rfl⟩ rfl rfl hlz hstk (lv_room (by rw [jw_cat_map]; exact hcat)) hdg hcs) hS (fun locs1 hS1 => hK _ _ hq hS1)
    · have hone : (st.take n).reverse = [.int i] := by simpa using has
      rw [hone] at hstk
      have hM := (hstr α A H.size (d + 1) (by omega)).2 i hin
      have hT : GoodIn Ts (wsV own idx "java/lang/String" jw_yChr (jw_cChr :: Tg)) := jw_goodIn hTs hgood (fun w hw1 => by
        rcases List.mem_append.mp hw1 with q | q
        · exact hw w (by simp only [jw_wcT, List.mem_cons, List.not_mem_nil, or_false] at q ⊢; rcases q with q | q | q | q <;> simp [q])
        · rcases List.mem_cons.mp q with q | q
          · exact hw w (by rw [q]; simp [jw_wcT])
          · exact q)
      exact jo_callh (va_runV ⟨hx, hb, hml, hown, hts⟩ hM (cwV 1 hts hT rfl rfl rfl ⟨rfl, by decide, by decide, jw_par_ok jw_chr_par⟩ ⟨by show d + 1 + 1 ≤ _; omega, by show 8 + (2 + 11) + 200 * (d + 1) ≤ R.locals; omega⟩) ⟨hbl _, hrecv, hpre _ _ rfl⟩ rfl rfl hlz hstk (lv_room (by rw [jw_cat_map]; exact hcat)) hdg hcs) hS (fun locs1 hS1 => hK _ _ hq hS1)
end JWV
end
section
/-! ===== static and special calls ===== -/
def jw_wcS (own : String) (ys : List jw_Y) (idx k : Nat) (z : Int × Nat) : List Cond := match ys[z.2]? with
  | some y => [.static y.1, .initialized y.1.cls, jw_code y] ++ (bif k == 2 then [.methodLink own idx y.1] else [])
  | none => []
def jw_ncS (own : String) (ys : List jw_Y) (idx k : Nat) (z : Int × Nat) : List Cond := match ys[z.2]? with
  | some y => (bif k == 2 then [] else [.methodLinkNest own idx y.1 "ShadowSchool"])
  | none => []
def jw_fcS (ys : List jw_Y) (n : Nat) (z : Int × Nat) : Bool := match ys[z.2]? with
  | some y => Nat.ble y.2.2.1 100 && (jw_par y.1.desc n && jw_nh y.1.cls)
  | none => false
/-- words of invokespecial: kind 5: a constructor of a nest mate; kind 4: a superclass's method, named by X -/
def jw_wcP (own : String) (cl : List vw_C) (ys : List jw_Y) (idx k : Nat) (z : Int × Nat) : List Cond := match ys[z.2]? with
  | some y => [.instanceMethod y.1, .initialized y.1.cls, jw_code y] ++ (bif k == 5 then [] else (match cl[k / 16]? with
    | some (X, _, _) => [.methodLink own idx ⟨X, y.1.name, y.1.desc⟩, .sameMethod X y.1.cls y.1.name y.1.desc, .superclass own X] ++ (bif X == y.1.cls then [] else [.superclass X y.1.cls])
    | none => []))
  | none => []
def jw_ncP (own : String) (ys : List jw_Y) (idx k : Nat) (z : Int × Nat) : List Cond := match ys[z.2]? with
  | some y => (bif k == 5 then [.methodLinkNest own idx y.1 "ShadowSchool"] else [])
  | none => []
def jw_fcP (cl : List vw_C) (ys : List jw_Y) (k n : Nat) (z : Int × Nat) : Bool := match cl[z.1.toNat]?, ys[z.2]? with
  | some _, some y => Nat.ble y.2.2.1 100 && (jw_par y.1.desc n && (jw_nh y.1.cls && (bif k == 5 then y.1.name == "<init>" && y.2.2.2.1 == none else y.1.name != "<init>" && (match cl[k / 16]? with | some _ => true | none => false))))
  | _, _ => false
section JWT
variable {p : Program} {l : Launch} {e : Env} {R : Room} {s : State} {m : MethodId} {args : Array Value} {below : List Frame} {meth : Method} {c : Code} {H : Heap} {locs : List Loc} {cells slots : Nat} {Qf : State → Prop}
variable {cc : ByteArray} {ls : Array Slot} {α : Nat → Nat} {nL : Nat} {D : va_G} {cl : List vw_C} {A : Nat → Prop} {cy : Nat → ClassId} {own nm : String} {Ts Tg Ns : List Cond} {h : jw_H} {ys : List jw_Y} {C : Nat → List Value → jw_H → jw_Q → Prop} {lim : Nat × Nat} {st : List Value} {f : List Value → jw_H → Prop}
/-- super.m(..), the method found in the superclass named or just above it -/
theorem jo_callSU {T : State} {locs : List Loc} {cells slots : Nat} (X : Stand p l e R s m args below meth c T locs cells slots) (hexec : p.tables.exec = Jvm.exec) {own xc : String} {index : Nat} {y : MethodName} {bytes : ByteArray} {maxL : Nat} {ret : Option FieldType}
    (hown : s.vm.findClass own = some m.cls) (hlink : (Cond.methodLink own index ⟨xc, y.name, y.desc⟩).before args s = true) (hsame : (Cond.sameMethod xc y.cls y.name y.desc).before args s = true) (hsup : (Cond.superclass own xc).before args s = true) (hup : xc = y.cls ∨ (Cond.superclass xc y.cls).before args s = true)
    (hinst : (Cond.instanceMethod y).before args s = true) (hcode : (Cond.code y bytes maxL ret).before args s = true) (hno : y.name ≠ "<init>")
    {W : Nat} {Pre : Pt → Array Value → Prop} {Post : Pt → Array Value → Option Value → Pt → Prop} (hK : Back l R p e below s args y 3 W Pre Post)
    {b : Addr} {cellB : Cell} {kB : Class} (hcell : T.heap[b]? = some cellB) (hobj : cellB.vm.isStatics = false) (hkB : s.vm.classes[cellB.cls]? = some kB)
    {g : JFrame} (hg : g.method = m) (hsize : g.locals.size = c.maxLocals) {argsL rest : List Value} (hlen : ∀ sig, parseMethodDescriptor y.desc = some sig → argsL.length = sig.parameters.length)
    (hstack : g.stack = argsL.reverse ++ .ref b :: rest) (hW : 2 * g.monitorRoom + (rest.map fun v => v.category).sum ≤ W) (hdg : decode c.code g.pc = .ok (.invokespecial index, 3))
    (hpre : ∀ vm₁, s.WarmedH vm₁ → Pre ⟨T.setVm vm₁, locs, cells, slots⟩ (Value.ref b :: argsL).toArray) :
    ∃ (v : Option Value) (vm₁ : Vm) (B : Pt), s.WarmedH vm₁ ∧ Stand p l e R s m args below meth c B.U B.locs B.cells B.slots ∧ Post ⟨T.setVm vm₁, locs, cells, slots⟩ (Value.ref b :: argsL).toArray v B ∧
      ∀ target, Steps p.tables e below (B.U.setTop { g with pc := g.pc + 3, stack := v.toList ++ rest }) target → Steps p.tables e below (T.setTop g) target := by
  obtain ⟨mk, methM, hnamed, hmethM, hstM, habM⟩ := Cond.instanceMethod_spec hinst
  obtain ⟨methM', cM, hmethM', -, -, -, -, -, -, hsigM⟩ := Cond.code_spec hnamed hcode
  cases hmethM.symm.trans hmethM'
  obtain ⟨ps, dk, kp, hps, hdk, hkp, hsuper, -, -, hnid⟩ := Cond.superclass_spec hown hsup
  have hn : s.methodNamed? ⟨y.cls, y.name, y.desc⟩ = some mk := hnamed
  have hmc : s.vm.findClass y.cls = some mk.cls := findClass_of_methodNamed hnamed
  have hsub : s.vm.isSubclass ps mk.cls = true := by
    rcases hup with hup | hup
    · rw [hup] at hps
      have hpm : ps = mk.cls := Option.some.inj (hps.symm.trans hmc)
      rw [hpm]; simp [Vm.isSubclass, Vm.isSubclassAux]
    · obtain ⟨ps2, dk2, kp2, hps2, hdk2, hkp2, hsuper2, -, -, -⟩ := Cond.superclass_spec hps hup
      have hpm : ps2 = mk.cls := Option.some.inj (hps2.symm.trans hmc)
      rw [← hpm]
      have hsz : ps < s.vm.classes.size := (Array.getElem?_eq_some_iff.mp hdk2).1
      unfold Vm.isSubclass
      cases hn9 : s.vm.classes.size with
      | zero => rw [hn9] at hsz; exact absurd hsz (Nat.not_lt_zero _)
      | succ n => simp [Vm.isSubclassAux, hdk2, hsuper2]
  obtain ⟨vm₁, X₁, hstep₁⟩ := X.invokespecialUp hexec (x := ⟨xc, y.name, y.desc⟩) (owner := y.cls) hown hlink hsame hn hmethM hstM habM hno hdk hnid hps hsuper hsub (a := b) (cell := cellB) hcell
    (fun z h => by rw [h] at hobj; cases hobj) hkB (g := g) hg (argsL := argsL) (rest := rest) (hlen _ hsigM) hstack hdg
  obtain ⟨v, B, X', hpost, hsteps⟩ := hK m meth c ⟨T.setVm vm₁, locs, cells, slots⟩ { g with stack := rest } (.invokespecial index) mk (Value.ref b :: argsL).toArray X₁ hg hsize hdg hW (X₁.named hnamed) (hpre vm₁ X₁.warmed)
  exact ⟨v, vm₁, B, X₁.warmed, X', hpost, fun target h => hstep₁ _ (by rw [doInvoke_state]; exact hsteps.trans h)⟩
theorem jo_runSU {y : MethodName} {xc : String} {bytes cc : ByteArray} {maxL nL mc ms n index : Nat} {ret : Option FieldType} {ws ws' : List Cond} {rm : Room} {Pc : Array Value → State → Prop} {Qc : Array Value → State → Outcome → State → Prop} {free : Addr → Prop} {Ts : List Cond} {own C : String} {cC : ClassId} {b : Addr} {As rest : List Value} {g : JFrame}
    (hat : ClassAt s C cC) (S : CallFix p m c cc nL s args Ts own) (hM : Met l y ws rm Pc Qc mc ms free) (hG : GoodIn Ts ws) (hwc : ws = Cond.code y bytes maxL ret :: ws') (hrc : rm.cells = mc) (hrs : rm.slots = ms) (hR : rm.frames + 1 ≤ R.frames ∧ 8 + (maxL + 11) + rm.locals ≤ R.locals) (hini : (Cond.initialized y.cls).before args s = true)
    (hl1 : (Cond.methodLink own index ⟨xc, y.name, y.desc⟩).before args s = true) (hl2 : (Cond.sameMethod xc y.cls y.name y.desc).before args s = true) (hl3 : (Cond.superclass own xc).before args s = true) (hup : xc = y.cls ∨ (Cond.superclass xc y.cls).before args s = true) (hl4 : (Cond.instanceMethod y).before args s = true) (hno : y.name ≠ "<init>") (hpar : (parseMethodDescriptor y.desc).map (fun d => d.parameters.length) = some n)
    (hp : PreV s H C b Pc As)
    (hg : g.method = m) (hn : As.length = n) (hsize : g.locals.size = nL) (hstack : g.stack = As.reverse ++ .ref b :: rest) (hW : 2 * g.monitorRoom + (rest.map fun v => v.category).sum ≤ 8) (hdg : decode cc g.pc = .ok (.invokespecial index, 3)) (hf : cells + mc ≤ R.cells ∧ slots + ms ≤ R.slots) :
    va_Run p l e R s m args below meth c H locs cells slots mc ms g rest (Qc (Value.ref b :: As).toArray) (free) := by
  have hcw : Cond.code y bytes maxL ret ∈ ws := by rw [hwc]; exact List.mem_cons_self
  have hts := S.2.2.2.2
  have hcode : (Cond.code y bytes maxL ret).before args s = true := hts _ (hG _ hcw).1
  have hK : Back l R p e below s args y 3 8 (PreOf R mc ms Pc) (PostOf Qc mc ms free) := back_of (bytes := bytes) (maxL := maxL) (ret := ret) hM hp.1 hrc hrs hR.1 hR.2 (pay_in hts hG) hcw (fun a' U hW => word_at hW (Or.inl (by first | rfl | simp [Cond.onTables, Cond.keeps, Cond.steady])) hini)
  have hlen : ∀ sig, parseMethodDescriptor y.desc = some sig → n = sig.parameters.length := fun sig h => by
    rw [h] at hpar
    exact (Option.some.inj hpar).symm
  obtain ⟨hx, hb, hml, ho, -⟩ := S
  obtain ⟨-, ⟨cellB, hcB, hoB, hclB⟩, hPc⟩ := hp
  obtain ⟨hfc, kB, hkB, -⟩ := hat
  cases hfc.symm.trans hclB
  intro T hT X
  obtain ⟨v, vm₁, ⟨U', l2, c2, s2⟩, hW₁, X', ⟨g', mk, t, L, e1, e2, hq, h1, hL, h2, h3⟩, st⟩ := jo_callSU X hx (bytes := bytes) (maxL := maxL) (ret := ret) ho hl1 hl2 hl3 hup hl4 hcode hno hK (by rw [hT]; exact hcB) hoB hkB hg (hsize.trans hml.symm) (argsL := As) (rest := rest) (fun sig h => hn.trans (hlen sig h)) hstack hW (by rw [hb]; exact hdg)
    (fun vm₁ hW₁ => ⟨hf.1, hf.2, hPc (T.setVm vm₁) hT hW₁⟩)
  dsimp only [Pt.U, Pt.locs, Pt.cells, Pt.slots] at X' e1 e2 h1 h2 h3 st
  subst h1; subst h2; subst h3
  exact ⟨v, (T.setVm vm₁).calling g' mk (Value.ref b :: As).toArray, t, U', L, hT, X', hL, e1, e2, hq, st⟩
set_option maxHeartbeats 4000000 in
theorem jo_spec {pc idx kind n d : Nat} {tg : List (Int × Nat)} (hx : p.tables.exec = Jvm.exec) (hb : c.code = cc) (hml : c.maxLocals = nL) (hown : s.vm.findClass own = some m.cls) (hts : ∀ w ∈ Ts, w.before args s = true) (hTs : ∀ w ∈ Tg, w ∈ Ts) (hgood : ∀ w ∈ Tg, goodWord w = true) (hns : jw_nsok Ns)
    (hw : ∀ z ∈ tg, ∀ w ∈ jw_wcP own cl ys idx kind z, w ∈ Tg) (hwn : ∀ z ∈ tg, ∀ w ∈ jw_ncP own ys idx kind z, w ∈ Ns) (hwf : ∀ z ∈ tg, jw_fcP cl ys kind n z = true) (hRf : d + 1 ≤ R.frames) (hRl : 200 * d + 200 ≤ R.locals) (hdg : decode cc pc = .ok (.invokespecial idx, 3)) (hlz : ls.size = nL)
    (hK0 : va_K D cl (jw_tys cy) s) (hP : va_P D cl (jw_wld cy α h) H) (hD : va_D A (jw_wld cy α h)) (hS : va_S A s.heap H locs) (hA : ∀ q, s.heap.size ≤ q → A q) (hX : jw_X α A s s.heap) (hN : jw_nw Ns s)
    (IH : ∀ (mid : Nat) (as : List Value) (Q : jw_Q), C mid as h Q → ∀ y, ys[mid]? = some y → jw_met l D cl cy α Ns Tg d y as h Q)
    (hfut : ∀ mc, h.1.length + mc ≤ lim.1 → jw_fut α h.1.length H.size mc) (hlim : ∀ mc ms, h.1.length + mc ≤ lim.1 → jw_sz h.1 + ms ≤ lim.2 → cells + mc ≤ R.cells ∧ slots + ms ≤ R.slots) (hin : h.1.length ≤ lim.1 ∧ jw_sz h.1 ≤ lim.2)
    (hs : jw_call C (jw_bud ys) lim (kind, n, tg) st h f)
    (hK : ∀ (st' : List Value) (h' : jw_H) (H' : Heap) (locs' : List Loc) (k n : Nat), f st' h' → H'.size = H.size + k → h'.1.length = h.1.length + k → jw_sz h'.1 = jw_sz h.1 + n → h'.1.length ≤ lim.1 → jw_sz h'.1 ≤ lim.2 → va_P D cl (jw_wld cy α h') H' → va_D A (jw_wld cy α h') → va_S A s.heap H' locs' → W p l e R s m args below meth c H' locs' (cells + k) (slots + n) Qf (F0 m (pc + 3) ls (st'.map (jw_ad α)))) :
    W p l e R s m args below meth c H locs cells slots Qf (F0 m pc ls (st.map (jw_ad α))) := by
  obtain ⟨b, r, ci, ks, mid, e1, e2, hsh, htg, hcat, hbud, hC⟩ := jw_call_ok hs
  have hwf1 := hwf _ htg
  have hw1 := hw _ htg
  have hwn1 := hwn _ htg
  unfold jw_fcP at hwf1
  unfold jw_wcP at hw1
  unfold jw_ncP at hwn1
  dsimp only [Int.toNat_natCast] at hwf1 hw1 hwn1
  split at hwf1
  · rename_i q0 y hcl hy
    obtain ⟨C0, T0, N0⟩ := q0
    rw [hy] at hw1 hwn1
    dsimp only at hw1 hwn1
    have hb1 : jw_bud ys mid = y.2.2.2.2.1 := by unfold jw_bud; rw [hy]
    have hbd : h.1.length + y.2.2.2.2.1.1 ≤ lim.1 ∧ jw_sz h.1 + y.2.2.2.2.1.2 ≤ lim.2 := by
      rcases hbud with hz | hz
      · rw [hb1] at hz
        rw [hz]
        exact hin
      · rw [hb1] at hz
        exact hz
    have hM := IH _ _ _ hC y hy H.size (hfut _ hbd.1)
    have hroom := hlim _ _ hbd.1 hbd.2
    simp only [Bool.and_eq_true, Nat.ble_eq] at hwf1
    obtain ⟨w1, w2, w2', w3⟩ := hwf1
    have hrecv := va_recv hK0 hP hcl (jw_wld_some hsh)
    have hpre := jw_start (av := ((Value.ref b :: (st.take n).reverse).map (jw_ad α))) hns hK0 hP hD hS hA hX hN rfl
    have hstk : (F0 m pc ls (st.map (jw_ad α))).stack = ((st.take n).reverse.map (jw_ad α)).reverse ++ .ref (α b) :: r.map (jw_ad α) := by
      show st.map (jw_ad α) = _
      rw [← List.map_reverse, List.reverse_reverse]
      conv => lhs; rw [e1]
      rw [List.map_append]
      rfl
    have hlen : ((st.take n).reverse.map (jw_ad α)).length = n := by simp; omega
    have hrm : (jw_rm d y.2.2.2.2.1.1 y.2.2.2.2.1.2).frames + 1 ≤ R.frames ∧ 8 + (y.2.2.1 + 11) + (jw_rm d y.2.2.2.2.1.1 y.2.2.2.2.1.2).locals ≤ R.locals := ⟨hRf, by show 8 + (y.2.2.1 + 11) + 200 * d ≤ R.locals; omega⟩
    have hgo : ∀ (hr : va_Run p l e R s m args below meth c H locs cells slots y.2.2.2.2.1.1 y.2.2.2.2.1.2 (F0 m pc ls (st.map (jw_ad α))) (r.map (jw_ad α)) (jw_Qc D cl cy α h H.size y.2.2.2.2.1.1 y.2.2.2.2.1.2 (fun v h' => f (v.toList ++ r) h') (Value.ref (α b) :: (st.take n).reverse.map (jw_ad α)).toArray) (va_A (jw_wld cy α h) H.size)), W p l e R s m args below meth c H locs cells slots Qf (F0 m pc ls (st.map (jw_ad α))) := fun hr =>
      jo_end (d := d) hS hD hA hr (fun v h' H' locs' hq n1 n2 n3 hP1 hD1 hS1 => hK _ _ _ _ _ _ hq n1 n2 n3 (by rw [n2]; exact hbd.1) (by rw [n3]; exact hbd.2) hP1 hD1 hS1)
    have hcd : Cond.code y.1 y.2.1 y.2.2.1 y.2.2.2.1 ∈ Tg := hw1 _ (List.mem_append_left _ (by simp [jw_code]))
    have hini : (Cond.initialized y.1.cls).before args s = true := hts _ (hTs _ (hw1 _ (List.mem_append_left _ (by simp))))
    have hins : (Cond.instanceMethod y.1).before args s = true := hts _ (hTs _ (hw1 _ (List.mem_append_left _ (by simp))))
    have hG : GoodIn Ts (Cond.code y.1 y.2.1 y.2.2.1 y.2.2.2.1 :: Tg) := jw_goodIn hTs hgood (fun w hw => by
      rcases List.mem_cons.mp hw with q | q
      · rw [q]; exact hcd
      · exact q)
    cases hk0 : (kind == 5) with
    | true =>
      rw [hk0] at w3 hw1 hwn1
      dsimp only [cond_true] at w3 hw1 hwn1
      simp only [Bool.and_eq_true, beq_iff_eq] at w3
      have hr0 : y.2.2.2.1 = none := w3.2
      rw [hr0] at hM hG
      have hl : va_Nw (.methodLinkNest own idx y.1 "ShadowSchool") s := hN.1 _ (hwn1 _ (List.mem_singleton.mpr rfl))
      exact hgo (va_runIN ⟨hx, hb, hml, hown, hts⟩ hM ⟨va_cnB n hts hG rfl rfl rfl hl hini ⟨(jw_nh_ok w2').1, (jw_nh_ok w2').2, jw_par_ok w2⟩ hrm, w3.1, hins⟩ ⟨jw_blind hns, hpre⟩ rfl hlen hlz hstk (lv_room (by rw [jw_cat_map]; exact hcat)) hdg hroom)
    | false =>
      rw [hk0] at w3 hw1
      dsimp only [cond_false] at w3 hw1
      simp only [Bool.and_eq_true, bne_iff_ne, ne_eq] at w3
      split at w3
      · rename_i q1 hX0
        obtain ⟨X0, TX, NX⟩ := q1
        rw [hX0] at hw1
        dsimp only at hw1
        have h1 := fun w hz => hts w (hTs w (hw1 w (List.mem_append_right _ (List.mem_append_left _ hz))))
        have hup : X0 = y.1.cls ∨ (Cond.superclass X0 y.1.cls).before args s = true := by
          cases hq : (X0 == y.1.cls) with
          | true => exact Or.inl (by simpa using hq)
          | false => exact Or.inr (hts _ (hTs _ (hw1 _ (List.mem_append_right _ (List.mem_append_right _ (by rw [hq]; simp))))))
        exact hgo (jo_runSU (hK0.1 ci _ hcl).2 ⟨hx, hb, hml, hown, hts⟩ hM hG rfl rfl rfl hrm hini (h1 _ (by simp)) (h1 _ (by simp)) (h1 _ (by simp)) hup hins w3.1 (jw_par_ok w2) ⟨jw_blind hns, hrecv, hpre⟩ rfl hlen hlz hstk (lv_room (by rw [jw_cat_map]; exact hcat)) hdg hroom)
      · exact absurd w3.2 (by decide)
  · cases hwf1
theorem jw_callS_ok {kind n : Nat} {tg : List (Int × Nat)} {bud : Nat → Nat × Nat} (hs : jw_callS C bud lim (kind, n, tg) st h f) : ∃ (mid : Nat), n ≤ st.length ∧ ((0 : Int), mid) ∈ tg ∧ jw_cat (st.drop n) ≤ 8 ∧ (bud mid = (0, 0) ∨ (h.1.length + (bud mid).1 ≤ lim.1 ∧ jw_sz h.1 + (bud mid).2 ≤ lim.2)) ∧ C mid (st.take n).reverse h (fun v h' => f (v.toList ++ st.drop n) h') := by
  unfold jw_callS at hs
  dsimp only at hs
  split at hs
  · rename_i mid hm
    obtain ⟨h1, h2⟩ := jw_bif hs
    simp only [Bool.and_eq_true, Bool.or_eq_true, Nat.ble_eq, beq_iff_eq] at h1
    exact ⟨mid, h1.1, by have := jw_find_ok hm; simpa using this, h1.2.1, h1.2.2, h2⟩
  · exact hs.elim
set_option maxHeartbeats 4000000 in
theorem jo_stat {pc idx kind n d : Nat} {tg : List (Int × Nat)} (hx : p.tables.exec = Jvm.exec) (hb : c.code = cc) (hml : c.maxLocals = nL) (hown : s.vm.findClass own = some m.cls) (hts : ∀ w ∈ Ts, w.before args s = true) (hTs : ∀ w ∈ Tg, w ∈ Ts) (hgood : ∀ w ∈ Tg, goodWord w = true) (hns : jw_nsok Ns)
    (hw : ∀ z ∈ tg, ∀ w ∈ jw_wcS own ys idx kind z, w ∈ Tg) (hwn : ∀ z ∈ tg, ∀ w ∈ jw_ncS own ys idx kind z, w ∈ Ns) (hwf : ∀ z ∈ tg, jw_fcS ys n z = true) (hRf : d + 1 ≤ R.frames) (hRl : 200 * d + 200 ≤ R.locals) (hdg : decode cc pc = .ok (.invokestatic idx, 3)) (hlz : ls.size = nL)
    (hK0 : va_K D cl (jw_tys cy) s) (hP : va_P D cl (jw_wld cy α h) H) (hD : va_D A (jw_wld cy α h)) (hS : va_S A s.heap H locs) (hA : ∀ q, s.heap.size ≤ q → A q) (hX : jw_X α A s s.heap) (hN : jw_nw Ns s)
    (IH : ∀ (mid : Nat) (as : List Value) (Q : jw_Q), C mid as h Q → ∀ y, ys[mid]? = some y → jw_met l D cl cy α Ns Tg d y as h Q)
    (hfut : ∀ mc, h.1.length + mc ≤ lim.1 → jw_fut α h.1.length H.size mc) (hlim : ∀ mc ms, h.1.length + mc ≤ lim.1 → jw_sz h.1 + ms ≤ lim.2 → cells + mc ≤ R.cells ∧ slots + ms ≤ R.slots) (hin : h.1.length ≤ lim.1 ∧ jw_sz h.1 ≤ lim.2)
    (hs : jw_callS C (jw_bud ys) lim (kind, n, tg) st h f)
    (hK : ∀ (st' : List Value) (h' : jw_H) (H' : Heap) (locs' : List Loc) (k n : Nat), f st' h' → H'.size = H.size + k → h'.1.length = h.1.length + k → jw_sz h'.1 = jw_sz h.1 + n → h'.1.length ≤ lim.1 → jw_sz h'.1 ≤ lim.2 → va_P D cl (jw_wld cy α h') H' → va_D A (jw_wld cy α h') → va_S A s.heap H' locs' → W p l e R s m args below meth c H' locs' (cells + k) (slots + n) Qf (F0 m (pc + 3) ls (st'.map (jw_ad α)))) :
    W p l e R s m args below meth c H locs cells slots Qf (F0 m pc ls (st.map (jw_ad α))) := by
  obtain ⟨mid, e2, htg, hcat, hbud, hC⟩ := jw_callS_ok hs
  have hwf1 := hwf _ htg
  have hw1 := hw _ htg
  have hwn1 := hwn _ htg
  unfold jw_fcS at hwf1
  unfold jw_wcS at hw1
  unfold jw_ncS at hwn1
  dsimp only at hwf1 hw1 hwn1
  split at hwf1
  · rename_i y hy
    rw [hy] at hw1 hwn1
    dsimp only at hw1 hwn1
    have hb1 : jw_bud ys mid = y.2.2.2.2.1 := by unfold jw_bud; rw [hy]
    have hbd : h.1.length + y.2.2.2.2.1.1 ≤ lim.1 ∧ jw_sz h.1 + y.2.2.2.2.1.2 ≤ lim.2 := by
      rcases hbud with hz | hz
      · rw [hb1] at hz
        rw [hz]
        exact hin
      · rw [hb1] at hz
        exact hz
    have hM := IH _ _ _ hC y hy H.size (hfut _ hbd.1)
    have hroom := hlim _ _ hbd.1 hbd.2
    simp only [Bool.and_eq_true, Nat.ble_eq] at hwf1
    obtain ⟨w1, w2, w2'⟩ := hwf1
    have hpre := jw_start (av := ((st.take n).reverse.map (jw_ad α))) hns hK0 hP hD hS hA hX hN rfl
    have hstk : (F0 m pc ls (st.map (jw_ad α))).stack = ((st.take n).reverse.map (jw_ad α)).reverse ++ (st.drop n).map (jw_ad α) := by
      show st.map (jw_ad α) = _
      rw [← List.map_reverse, List.reverse_reverse, ← List.map_append, List.take_append_drop]
    have hlen : ((st.take n).reverse.map (jw_ad α)).length = n := by simp; omega
    have hrm : (jw_rm d y.2.2.2.2.1.1 y.2.2.2.2.1.2).frames + 1 ≤ R.frames ∧ 8 + (y.2.2.1 + 11) + (jw_rm d y.2.2.2.2.1.1 y.2.2.2.2.1.2).locals ≤ R.locals := ⟨hRf, by show 8 + (y.2.2.1 + 11) + 200 * d ≤ R.locals; omega⟩
    have hgo : ∀ (hr : va_Run p l e R s m args below meth c H locs cells slots y.2.2.2.2.1.1 y.2.2.2.2.1.2 (F0 m pc ls (st.map (jw_ad α))) ((st.drop n).map (jw_ad α)) (jw_Qc D cl cy α h H.size y.2.2.2.2.1.1 y.2.2.2.2.1.2 (fun v h' => f (v.toList ++ st.drop n) h') ((st.take n).reverse.map (jw_ad α)).toArray) (va_A (jw_wld cy α h) H.size)), W p l e R s m args below meth c H locs cells slots Qf (F0 m pc ls (st.map (jw_ad α))) := fun hr =>
      jo_end (d := d) hS hD hA hr (fun v h' H' locs' hq n1 n2 n3 hP1 hD1 hS1 => hK _ _ _ _ _ _ hq n1 n2 n3 (by rw [n2]; exact hbd.1) (by rw [n3]; exact hbd.2) hP1 hD1 hS1)
    have hcd : Cond.code y.1 y.2.1 y.2.2.1 y.2.2.2.1 ∈ Tg := hw1 _ (List.mem_append_left _ (by simp [jw_code]))
    have hini0 : Cond.initialized y.1.cls ∈ Tg := hw1 _ (List.mem_append_left _ (by simp))
    have hini : (Cond.initialized y.1.cls).before args s = true := hts _ (hTs _ hini0)
    have hsta0 : Cond.static y.1 ∈ Tg := hw1 _ (List.mem_append_left _ (by simp))
    have hsta : (Cond.static y.1).before args s = true := hts _ (hTs _ hsta0)
    cases hk0 : (kind == 2) with
    | true =>
      rw [hk0] at hw1
      dsimp only [cond_true] at hw1
      have hml0 : Cond.methodLink own idx y.1 ∈ Tg := hw1 _ (List.mem_append_right _ (List.mem_singleton.mpr rfl))
      have hT : GoodIn Ts (va_wsS own idx y.1 (Cond.code y.1 y.2.1 y.2.2.1 y.2.2.2.1 :: Tg)) := jw_goodIn hTs hgood (fun w hw => by
        rcases List.mem_append.mp hw with q | q
        · simp only [List.mem_cons, List.not_mem_nil, or_false] at q
          rcases q with q | q | q <;> rw [q] <;> assumption
        · rcases List.mem_cons.mp q with q | q
          · rw [q]; exact hcd
          · exact q)
      exact hgo (va_runS ⟨hx, hb, hml, hown, hts⟩ hM (va_cwS n hts hT rfl rfl rfl ⟨(jw_nh_ok w2').1, (jw_nh_ok w2').2, jw_par_ok w2⟩ hrm) ⟨jw_blind hns, hpre⟩ rfl hlen hlz hstk (lv_room (by rw [jw_cat_map]; exact hcat)) hdg hroom)
    | false =>
      rw [hk0] at hwn1
      dsimp only [cond_false] at hwn1
      have hG : GoodIn Ts (Cond.code y.1 y.2.1 y.2.2.1 y.2.2.2.1 :: Tg) := jw_goodIn hTs hgood (fun w hw => by
        rcases List.mem_cons.mp hw with q | q
        · rw [q]; exact hcd
        · exact q)
      have hl : va_Nw (.methodLinkNest own idx y.1 "ShadowSchool") s := hN.1 _ (hwn1 _ (List.mem_singleton.mpr rfl))
      exact hgo (va_runSN ⟨hx, hb, hml, hown, hts⟩ hM ⟨va_cnB n hts hG rfl rfl rfl hl hini ⟨(jw_nh_ok w2').1, (jw_nh_ok w2').2, jw_par_ok w2⟩ hrm, hsta, trivial⟩ ⟨jw_blind hns, hpre⟩ rfl hlen hlz hstk (lv_room (by rw [jw_cat_map]; exact hcat)) hdg hroom)
  · cases hwf1
end JWT
end
section
/-! ===== Object's constructor, System.arraycopy, returns ===== -/
def jw_wcO (own : String) (idx : Nat) : List Cond := [.methodLink own idx Lib.objectInit, .instanceMethod Lib.objectInit, .code Lib.objectInit ⟨#[0xb1]⟩ 1 none]
def jw_wcA (own : String) (idx : Nat) : List Cond := [.methodLink own idx arraycopyName, .native arraycopyName, .static arraycopyName, .initialized "java/lang/System"]
section JWM
variable {p : Program} {l : Launch} {e : Env} {R : Room} {s : State} {m : MethodId} {args : Array Value} {below : List Frame} {meth : Method} {c : Code} {H : Heap} {locs : List Loc} {cells slots : Nat} {Qf : State → Prop}
variable {cc : ByteArray} {ls : Array Slot} {α : Nat → Nat} {nL : Nat} {D : va_G} {cl : List vw_C} {A : Nat → Prop} {cy : Nat → ClassId} {own nm : String} {Ts Tg Ns : List Cond} {h : jw_H} {st : List Value} {f : List Value → jw_H → Prop}
/-- arraycopy of ints, with the heap's size -/
theorem jo_cpi {pc : Nat} {rest : List Value} {tys : List (ClassId × FieldType)} {ws : va_W} {H0 : Heap} {a : Nat} (hexec : p.tables.exec = Jvm.exec) (hb : c.code = cc) (hml : c.maxLocals = ls.size) {index : Nat} (hown : s.vm.findClass own = some m.cls) (hlink : (Cond.methodLink own index arraycopyName).before args s = true) (hnat : (Cond.native arraycopyName).before args s = true) (hstat : (Cond.static arraycopyName).before args s = true) (hini : (Cond.initialized "java/lang/System").before args s = true)
    (hK : va_K D cl tys s) (hP : va_P D cl ws H) (hD : va_D A ws) (hS : va_S A H0 H locs) {q0 q1 t0 t1 : Nat} {a0 : Nat} {c0 c1 : ClassId} {n0 n1 : Nat} {f g : Nat → Int32} (ha0 : ws[q0]? = some (a0, .inl (c0, n0, .inl f))) (ha1 : ws[q1]? = some (a, .inl (c1, n1, .inl g))) (ht0 : tys[t0]? = some (c0, .int)) (ht1 : tys[t1]? = some (c1, .int))
    {sp dp n : Int32} (h1 : ¬ sp < 0) (h2 : ¬ dp < 0) (h3 : ¬ n < 0) (h4 : sp.toNatClampNeg + n.toNatClampNeg ≤ n0) (h5 : dp.toNatClampNeg + n.toNatClampNeg ≤ n1)
    (hframes : 1 ≤ R.frames) (hlocals : (rest.map fun v => v.category).sum + (nativeFrameWords "java/lang/System" "arraycopy" 5 + 11) ≤ R.locals) (hdg : decode cc pc = .ok (.invokestatic index, 3))
    (kk : ∀ (H1 : Heap) (locs1 : List Loc), H1.size = H.size → va_P D cl (ws.set q1 (a, .inl (c1, n1, .inl (va_cpy f g sp.toNatClampNeg dp.toNatClampNeg n.toNatClampNeg)))) H1 → va_D A (ws.set q1 (a, .inl (c1, n1, .inl (va_cpy f g sp.toNatClampNeg dp.toNatClampNeg n.toNatClampNeg)))) → va_S A H0 H1 locs1 → W p l e R s m args below meth c H1 locs1 cells slots Qf (F0 m (pc + 3) ls rest)) : W p l e R s m args below meth c H locs cells slots Qf (F0 m pc ls (.int n :: .int dp :: .ref a :: .int sp :: .ref a0 :: rest)) := by
  have nn : ∀ x : Int32, ¬ x < 0 → x.toInt = (x.toNatClampNeg : Int) := fun x hx => by
    obtain ⟨j, hj, rfl⟩ := nI_of hx
    rw [nI_toInt hj, nI_clamp hj]
  intro T hT X
  have hc0 : H[a0]? = some (vp_cell c0 (n0, .inl f)) := hP q0 _ ha0
  have hc1 : H[a]? = some (vp_cell c1 (n1, .inl g)) := hP q1 _ ha1
  obtain ⟨-, k0, hk0, cm0, hkk0⟩ := (hK.2 t0 _ ht0).1 n0 (fun j => .int (f j))
  obtain ⟨-, k1, hk1, cm1, hkk1⟩ := (hK.2 t1 _ ht1).1 n1 (fun j => .int (g j))
  obtain ⟨vm', X', step⟩ := X.arraycopy hexec hown hlink hnat hstat hini (src := a0) (dst := a) (cs := vp_cell c0 (n0, .inl f)) (cd := vp_cell c1 (n1, .inl g)) (srcPos := sp) (destPos := dp) (n := n) (by rw [hT]; exact hc0) (by rw [hT]; exact hc1)
    (fun _ h => by cases h) (fun _ h => by cases h) (fun h => by cases h) (fun h => by cases h) hk0 hk1 hkk0 hkk1 (by simp [refKind]) h1 h2 h3
    (by rw [nn sp h1, nn n h3]; show ¬ _ > ((arrV c0 n0 (fun j => .int (f j))).slots.size : Int); rw [arrV_size]; omega)
    (by rw [nn dp h2, nn n h3]; show ¬ _ > ((arrV c1 n1 (fun j => .int (g j))).slots.size : Int); rw [arrV_size]; omega)
    (fun vm₁ _ i hi => by
      have e : (vp_cell c0 (n0, .inl f)).slots.getD (sp.toNatClampNeg + i) .null = .int (f (sp.toNatClampNeg + i)) := by
        show (arrV c0 n0 (fun j => .int (f j))).slots.getD _ _ = _
        rw [Array.getD_eq_getD_getElem?, arrV_read _ _ (by omega)]
        rfl
      refine ⟨?_, ?_⟩
      · rw [e]
        rfl
      · rw [e]
        exact trivial)
    (g := F0 m pc ls (.int n :: .int dp :: .ref a :: .int sp :: .ref a0 :: rest)) rfl (by rw [hml]) (rest := rest) rfl (by rw [hb]; exact hdg) hframes (by show 2 * 0 + _ + _ ≤ _; omega)
  have e1 : copied (vp_cell c0 (n0, .inl f)) (vp_cell c1 (n1, .inl g)) sp dp n = vp_cell c1 (n1, .inl (va_cpy f g sp.toNatClampNeg dp.toNatClampNeg n.toNatClampNeg)) := va_copied (fun z => .int z) c0 c1 f g h4
  rw [e1] at X' step
  have hl : a < H.size := (Array.getElem?_eq_some_iff.mp hc1).1
  have hheap : ((T.setVm vm').setCell a (vp_cell c1 (n1, .inl (va_cpy f g sp.toNatClampNeg dp.toNatClampNeg n.toNatClampNeg)))).heap = H.setIfInBounds a (vp_cell c1 (n1, .inl (va_cpy f g sp.toNatClampNeg dp.toNatClampNeg n.toNatClampNeg))) := by rw [← hT]; rfl
  have oq : ∀ q : Nat, q ≠ a → (H.setIfInBounds a (vp_cell c1 (n1, .inl (va_cpy f g sp.toNatClampNeg dp.toNatClampNeg n.toNatClampNeg))))[q]? = H[q]? := fun q hq => by simp [Array.getElem?_setIfInBounds, Ne.symm hq]
  obtain ⟨t, a1, b1⟩ := kk _ _ (by simp) (hP.set hD ha1 (show (H.setIfInBounds a _)[a]? = some _ by simp [Array.getElem?_setIfInBounds, hl]) oq) (hD.set ha1) ⟨by simp; exact hS.1, fun q g1 g2 => by
      rw [oq q (fun e => g2 (by rw [e]; exact hD.2 q1 _ ha1))]
      exact hS.2.1 q g1 g2, fun q hq => by
      rcases List.mem_append.mp hq with h | h
      · exact hS.2.2 q h
      · obtain ⟨z, -, hz⟩ := List.mem_map.mp h
        rw [← hz]
        exact hD.2 q1 _ ha1⟩ _ hheap X'
  exact ⟨t, step t a1, b1⟩
set_option maxHeartbeats 1000000 in
theorem jo_copy {pc idx : Nat} (hx : p.tables.exec = Jvm.exec) (hb : c.code = cc) (hml : c.maxLocals = nL) (hlz : ls.size = nL) (hown : s.vm.findClass own = some m.cls) (hts : ∀ w ∈ Ts, w.before args s = true) (hw : ∀ w ∈ jw_wcA own idx, w ∈ Ts) (hRf : 1 ≤ R.frames) (hRl : 200 ≤ R.locals) (hdg : decode cc pc = .ok (.invokestatic idx, 3))
    (hK0 : va_K D cl (jw_tys cy) s) (hP : va_P D cl (jw_wld cy α h) H) (hD : va_D A (jw_wld cy α h)) (hS : va_S A s.heap H locs) (hs : jw_copy h st f)
    (hK : ∀ (st' : List Value) (h' : jw_H) (H' : Heap) (locs' : List Loc), f st' h' → H'.size = H.size → h'.1.length = h.1.length → jw_sz h'.1 = jw_sz h.1 → va_P D cl (jw_wld cy α h') H' → va_D A (jw_wld cy α h') → va_S A s.heap H' locs' → W p l e R s m args below meth c H' locs' cells slots Qf (F0 m (pc + 3) ls (st'.map (jw_ad α)))) :
    W p l e R s m args below meth c H locs cells slots Qf (F0 m pc ls (st.map (jw_ad α))) := by
  unfold jw_copy at hs
  split at hs
  · rename_i n dp a sp a0 r
    split at hs
    · rename_i n1 rs1 n0 rs0 ha ha0
      obtain ⟨⟨h1, h2, h3, h4, h5⟩, hs⟩ := hs
      obtain ⟨hc, hs⟩ := jw_bif hs
      have hc : jw_cat r ≤ 8 := by simpa using hc
      refine jo_cpi hx hb (hml.trans hlz.symm) hown (hts _ (hw _ (by simp [jw_wcA]))) (hts _ (hw _ (by simp [jw_wcA]))) (hts _ (hw _ (by simp [jw_wcA]))) (hts _ (hw _ (by simp [jw_wcA]))) hK0 hP hD hS (t0 := 0) (t1 := 0) (jw_wld_some ha0) (jw_wld_some ha) rfl rfl h1 h2 h3 h4 h5 hRf (by rw [jw_cat_map]; show jw_cat r + (5 + 2 + 11) ≤ R.locals; omega) hdg (fun H1 locs1 z hP1 hD1 hS1 => ?_)
      have e2 : jw_wld cy α (h.1, jw_lay h.2.1 a (va_cpy (h.2.1 a0) (h.2.1 a) sp.toNatClampNeg dp.toNatClampNeg n.toNatClampNeg), h.2.2) = (jw_wld cy α h).set a (α a, .inl (cy 0, n1, .inl (va_cpy (h.2.1 a0) (h.2.1 a) sp.toNatClampNeg dp.toNatClampNeg n.toNatClampNeg))) := by
        rw [jw_wld_keep (h := h) (h' := (h.1, jw_lay h.2.1 a (va_cpy (h.2.1 a0) (h.2.1 a) sp.toNatClampNeg dp.toNatClampNeg n.toNatClampNeg), h.2.2)) ha rfl (fun j hj => jw_lay_ne hj) (fun _ _ => rfl)]
        congr 3
        show Sum.inl (cy 0, n1, Sum.inl (jw_lay _ _ _ _)) = _
        rw [jw_lay_eq]
      rw [← e2] at hP1 hD1
      exact hK _ _ _ _ hs z rfl rfl hP1 hD1 hS1
    · exact hs.elim
  · exact hs.elim
end JWM
end
section
/-! ===== new cells ===== -/
theorem jw_wld_app {cy : Nat → ClassId} {α : Nat → Nat} {h h' : jw_H} {X : List jw_S} (hs : h'.1 = h.1 ++ X) (h1 : ∀ i, i < h.1.length → h'.2.1 i = h.2.1 i) (h2 : ∀ i, i < h.1.length → h'.2.2 i = h.2.2 i) : jw_wld cy α h' = jw_wld cy α h ++ X.mapIdx (fun i sh => (α (h.1.length + i), jw_cell cy α h'.2 (h.1.length + i) sh)) := by
  apply List.ext_getElem?
  intro i
  rw [jw_wld_get, hs]
  by_cases hi : i < h.1.length
  · rw [List.getElem?_append_left hi, List.getElem?_append_left (by rw [jw_wld_length]; exact hi), jw_wld_get, List.getElem?_eq_getElem hi]
    simp [jw_cell_same (h1 i hi) (h2 i hi)]
  · rw [List.getElem?_append_right (by omega), List.getElem?_append_right (by rw [jw_wld_length]; omega), jw_wld_length, List.getElem?_mapIdx]
    have : h.1.length + (i - h.1.length) = i := by omega
    rw [this]
theorem jw_sz_app : ∀ (a b : List jw_S), jw_sz (a ++ b) = jw_sz a + jw_sz b
  | [], b => by simp [jw_sz]
  | x :: a, b => by simp [jw_sz, jw_sz_app a b]; omega
/-- the kinds of a class's fields are its fields' types -/
def jw_kdok (kd : Nat → List jw_K) (cl : List vw_C) (ci : Nat) : Bool := match cl[ci]? with
  | some (_, T, N) => (kd ci).length == N && (List.range N).all (fun k => match parseFieldDescriptor (T k).2.2.1, (kd ci)[k]? with
    | some .int, some (.inl 0) => true
    | some .long, some (.inl 1) => true
    | some .boolean, some (.inl 2) => true
    | some (.object _), some (.inr none) => true
    | some (.array _), some (.inr none) => true
    | _, _ => false)
  | none => false
def jw_wcN (own : String) (cl : List vw_C) (q : jw_I) : List Cond := match q.2.1 with
  | .new idx => (match cl[q.2.2.2.1]? with
    | some (C, _, N) => [.classLink own idx C, .instantiable C N, .initialized C]
    | none => [])
  | .newarray a => [.arrayClass (newarray.typeOf a)]
  | .anewarray idx => [.classLink own idx (bif q.2.2.2.1 == 2 then "ShadowSchool$Progress" else "ShadowSchool$Shade")]
  | .multianewarray idx _ => [.classLink own idx "[[I", .arrayClass .int]
  | _ => []
def jw_fcN (kd : Nat → List jw_K) (cl : List vw_C) (q : jw_I) : Bool := match q.2.1 with
  | .new _ => jw_kdok kd cl q.2.2.2.1
  | .newarray a => (match newarray.typeOf a with
    | .int => q.2.2.2.1 == 0
    | .long => q.2.2.2.1 == 1
    | _ => false)
  | .anewarray _ => q.2.2.2.1 == 2 || q.2.2.2.1 == 3
  | .multianewarray _ n => n == 2
  | _ => true
section JWN
variable {p : Program} {l : Launch} {e : Env} {R : Room} {s : State} {m : MethodId} {args : Array Value} {below : List Frame} {meth : Method} {c : Code} {H : Heap} {locs : List Loc} {cells slots : Nat} {Qf : State → Prop}
variable {cc : ByteArray} {ls : Array Slot} {α : Nat → Nat} {nL : Nat} {D : va_G} {cl : List vw_C} {A : Nat → Prop} {cy : Nat → ClassId} {own nm : String} {Ts Tg Ns : List Cond} {h : jw_H} {st : List Value} {kd : Nat → List jw_K} {lim : Nat × Nat}
theorem jw_kd_ok {ci : Nat} {C : String} {T : u_T} {N : Nat} (hcl : cl[ci]? = some (C, T, N)) (hk : jw_kdok kd cl ci = true) {ty0 : Nat → FieldType} (hty : ∀ k, k < N → parseFieldDescriptor (T k).2.2.1 = some (ty0 k)) (M : jw_M) (i : Nat) (h1 : M.1 i = fun _ => 0) (h2 : M.2 i = fun _ => 0) : (kd ci).length = N ∧ ∀ j, j < N → defaultValue (ty0 j) = vp_V ((kd ci).mapIdx (jw_fld α M i)) j := by
  unfold jw_kdok at hk
  rw [hcl] at hk
  dsimp only at hk
  simp only [Bool.and_eq_true, beq_iff_eq] at hk
  obtain ⟨k1, k2⟩ := hk
  refine ⟨k1, fun j hj => ?_⟩
  have k3 := List.all_eq_true.mp k2 j (List.mem_range.mpr hj)
  rw [hty j hj] at k3
  have hg : (kd ci)[j]? = some (kd ci)[j] := List.getElem?_eq_getElem (by omega)
  rw [hg] at k3
  have e : vp_V ((kd ci).mapIdx (jw_fld α M i)) j = jw_fld α M i j (kd ci)[j] := by
    unfold vp_V
    rw [List.getD_eq_getElem?_getD, List.getElem?_mapIdx, hg]
    rfl
  rw [e]
  generalize (kd ci)[j] = kk at k3
  generalize ty0 j = tt at k3
  split at k3
  · rename_i a b
    cases a; cases b
    simp [jw_fld, h1, defaultValue]
  · rename_i a b
    cases a; cases b
    simp [jw_fld, h2, defaultValue]
  · rename_i a b
    cases a; cases b
    simp [jw_fld, h1, defaultValue]
  · rename_i a b
    cases a; cases b
    simp [jw_fld, va_rf, defaultValue]
  · rename_i a b
    cases a; cases b
    simp [jw_fld, va_rf, defaultValue]
  · cases k3
set_option maxHeartbeats 1000000 in
theorem jo_new {pc idx ci : Nat} {f : Nat → jw_H → Prop} (hx : p.tables.exec = Jvm.exec) (hb : c.code = cc) (hown : s.vm.findClass own = some m.cls) (hts : ∀ w ∈ Ts, w.before args s = true) (hcl : jw_clok cl Ts) {C0 : String} {T0 : u_T} {N0 : Nat} (hc : cl[ci]? = some (C0, T0, N0)) (hw : ∀ w ∈ [Cond.classLink own idx C0, .instantiable C0 N0, .initialized C0], w ∈ Ts) (hkd : jw_kdok kd cl ci = true) (hdg : decode cc pc = .ok (.new idx, 3))
    (hK0 : va_K D cl (jw_tys cy) s) (hP : va_P D cl (jw_wld cy α h) H) (hD : va_D A (jw_wld cy α h)) (hS : va_S A s.heap H locs) (hA : ∀ q, s.heap.size ≤ q → A q)
    (hfut : ∀ mc, h.1.length + mc ≤ lim.1 → jw_fut α h.1.length H.size mc) (hlim : ∀ mc ms, h.1.length + mc ≤ lim.1 → jw_sz h.1 + ms ≤ lim.2 → cells + mc ≤ R.cells ∧ slots + ms ≤ R.slots)
    (hs : jw_new h lim ci (kd ci) f)
    (hK : ∀ (a : Nat) (h' : jw_H) (H' : Heap) (locs' : List Loc) (k n : Nat), f a h' → H'.size = H.size + k → h'.1.length = h.1.length + k → jw_sz h'.1 = jw_sz h.1 + n → h'.1.length ≤ lim.1 → jw_sz h'.1 ≤ lim.2 → va_P D cl (jw_wld cy α h') H' → va_D A (jw_wld cy α h') → va_S A s.heap H' locs' → W p l e R s m args below meth c H' locs' (cells + k) (slots + n) Qf (F0 m (pc + 3) ls ((.ref a :: st).map (jw_ad α)))) :
    W p l e R s m args below meth c H locs cells slots Qf (F0 m pc ls (st.map (jw_ad α))) := by
  obtain ⟨hl1, hs⟩ := jw_bif hs
  simp only [Bool.and_eq_true, Nat.ble_eq] at hl1
  obtain ⟨c1, ⟨ty0, c2⟩, c3⟩ := hcl _ _ _ _ hc
  obtain ⟨k1, k2⟩ := jw_kd_ok (α := α) hc hkd c2 (jw_lay h.2.1 h.1.length (fun _ => 0), jw_lay h.2.2 h.1.length (fun _ => 0)) h.1.length jw_lay_eq jw_lay_eq
  have hroom := hlim 1 N0 hl1.1 (by rw [k1] at hl1; exact hl1.2)
  have hadr : α h.1.length = H.size := by have := hfut 1 hl1.1 h.1.length (by omega) (by omega); omega
  have hKn := hK0.1 ci _ hc
  refine W.newcK hx hb hown (hts _ (hw _ (by simp))) (hts _ (hw _ (by simp))) (hts _ (hw _ (by simp))) rfl hdg hroom.1 hroom.2 hKn.2.1 rfl fun H1 kC hkC e1 z1 o1 => ?_
  have e2 : jw_wld cy α (h.1 ++ [.inl (ci, kd ci)], jw_lay h.2.1 h.1.length (fun _ => 0), jw_lay h.2.2 h.1.length (fun _ => 0)) = jw_wld cy α h ++ [(H.size, .inr (ci, (kd ci).mapIdx (jw_fld α (jw_lay h.2.1 h.1.length (fun _ => 0), jw_lay h.2.2 h.1.length (fun _ => 0)) h.1.length)))] := by
    rw [jw_wld_app (h := h) (X := [.inl (ci, kd ci)]) rfl (fun i hi => jw_lay_ne (by omega)) (fun i hi => jw_lay_ne (by omega))]
    simp [hadr, jw_cell]
  have hk : ∀ (k : Nat) (x : Nat × va_E), (jw_wld cy α h)[k]? = some x → H1[x.1]? = H[x.1]? := fun k x hx => o1 x.1 ((hP k x hx).lt)
  have := hK h.1.length _ H1 locs 1 N0 hs z1 (by simp) (by rw [jw_sz_app]; simp [jw_sz, jw_ssz, k1]) (by simp; exact hl1.1) (by rw [jw_sz_app]; simp [jw_sz, jw_ssz]; exact hl1.2) (by
      rw [e2]
      refine (hP.kept hk).app (fun k x hx => ?_)
      have hz : k < 1 := (List.getElem?_eq_some_iff.mp hx).1
      rw [show k = 0 by omega] at hx
      cases hx
      exact ⟨_, hc, (u_born ty0 hts c1 hKn hkC e1 c2).to k2⟩) (by
      rw [e2]
      exact hD.push hP rfl (hA _ hS.1)) ⟨Nat.le_trans hS.1 (by omega), fun x h1 h2 => (o1 x (Nat.lt_of_lt_of_le h1 hS.1)).trans (hS.2.1 x h1 h2), hS.2.2⟩
  rw [List.map_cons, jw_ad, hadr] at this
  exact this
/-- what all new cells need -/
theorem jo_newx {pc' : Nat} {e0 : va_E} {sh : jw_S} {f : Nat → jw_H → Prop} {H1 : Heap} {n : Nat} {r : List Value} {M1 : jw_M} (hsh : jw_ssz sh = n) (hM1 : ∀ i, i < h.1.length → M1.1 i = h.2.1 i) (hM2 : ∀ i, i < h.1.length → M1.2 i = h.2.2 i) (hadr : α h.1.length = H.size) (hc : jw_cell cy α M1 h.1.length sh = e0) (hat : va_at D cl (H.size, e0) H1) (z1 : H1.size = H.size + 1) (o1 : ∀ q, q < H.size → H1[q]? = H[q]?)
    (hP : va_P D cl (jw_wld cy α h) H) (hD : va_D A (jw_wld cy α h)) (hS : va_S A s.heap H locs) (hA : ∀ q, s.heap.size ≤ q → A q) (hl1 : h.1.length + 1 ≤ lim.1) (hl2 : jw_sz h.1 + n ≤ lim.2) (hs : f h.1.length (h.1 ++ [sh], M1))
    (hK : ∀ (a : Nat) (h' : jw_H) (H' : Heap) (locs' : List Loc) (k n : Nat), f a h' → H'.size = H.size + k → h'.1.length = h.1.length + k → jw_sz h'.1 = jw_sz h.1 + n → h'.1.length ≤ lim.1 → jw_sz h'.1 ≤ lim.2 → va_P D cl (jw_wld cy α h') H' → va_D A (jw_wld cy α h') → va_S A s.heap H' locs' → W p l e R s m args below meth c H' locs' (cells + k) (slots + n) Qf (F0 m pc' ls ((.ref a :: r).map (jw_ad α)))) :
    W p l e R s m args below meth c H1 locs (cells + 1) (slots + n) Qf (F0 m pc' ls (.ref H.size :: r.map (jw_ad α))) := by
  have e2 : jw_wld cy α (h.1 ++ [sh], M1) = jw_wld cy α h ++ [(H.size, e0)] := by
    rw [jw_wld_app (h := h) (X := [sh]) rfl hM1 hM2]
    simp [hadr, hc]
  have hk : ∀ (k : Nat) (x : Nat × va_E), (jw_wld cy α h)[k]? = some x → H1[x.1]? = H[x.1]? := fun k x hx => o1 x.1 ((hP k x hx).lt)
  have := hK h.1.length _ H1 locs 1 n hs z1 (by simp) (by rw [jw_sz_app]; simp [jw_sz, hsh]) (by simp; exact hl1) (by rw [jw_sz_app]; simp [jw_sz, hsh]; exact hl2) (by
      rw [e2]
      refine (hP.kept hk).app (fun k x hx => ?_)
      have hz : k < 1 := (List.getElem?_eq_some_iff.mp hx).1
      rw [show k = 0 by omega] at hx
      cases hx
      exact hat) (by
      rw [e2]
      exact hD.push hP rfl (hA _ hS.1)) ⟨Nat.le_trans hS.1 (by omega), fun x h1 h2 => (o1 x (Nat.lt_of_lt_of_le h1 hS.1)).trans (hS.2.1 x h1 h2), hS.2.2⟩
  rw [List.map_cons, jw_ad, hadr] at this
  exact this
set_option maxHeartbeats 1000000 in
theorem jo_newa {pc t : Nat} {a : ArrayType} {f : Nat → jw_H → Prop} {x : Int32} (hx : p.tables.exec = Jvm.exec) (hb : c.code = cc) (hts : ∀ w ∈ Ts, w.before args s = true) (hw : Cond.arrayClass (newarray.typeOf a) ∈ Ts) (ht : (newarray.typeOf a = .int ∧ t = 0) ∨ (newarray.typeOf a = .long ∧ t = 1)) (hdg : decode cc pc = .ok (.newarray a, 2))
    (hK0 : va_K D cl (jw_tys cy) s) (hP : va_P D cl (jw_wld cy α h) H) (hD : va_D A (jw_wld cy α h)) (hS : va_S A s.heap H locs) (hA : ∀ q, s.heap.size ≤ q → A q)
    (hfut : ∀ mc, h.1.length + mc ≤ lim.1 → jw_fut α h.1.length H.size mc) (hlim : ∀ mc ms, h.1.length + mc ≤ lim.1 → jw_sz h.1 + ms ≤ lim.2 → cells + mc ≤ R.cells ∧ slots + ms ≤ R.slots) (hx0 : ¬ x < 0)
    (hs : jw_newa h lim t x.toNatClampNeg f)
    (hK : ∀ (a : Nat) (h' : jw_H) (H' : Heap) (locs' : List Loc) (k n : Nat), f a h' → H'.size = H.size + k → h'.1.length = h.1.length + k → jw_sz h'.1 = jw_sz h.1 + n → h'.1.length ≤ lim.1 → jw_sz h'.1 ≤ lim.2 → va_P D cl (jw_wld cy α h') H' → va_D A (jw_wld cy α h') → va_S A s.heap H' locs' → W p l e R s m args below meth c H' locs' (cells + k) (slots + n) Qf (F0 m (pc + 2) ls ((.ref a :: st).map (jw_ad α)))) :
    W p l e R s m args below meth c H locs cells slots Qf (F0 m pc ls (.int x :: st.map (jw_ad α))) := by
  obtain ⟨hl1, hs⟩ := jw_bif hs
  simp only [Bool.and_eq_true, Nat.ble_eq] at hl1
  obtain ⟨l1, l2, l3⟩ := hl1
  have hroom := hlim 1 x.toNatClampNeg l1 l2
  have hadr : α h.1.length = H.size := by have := hfut 1 l1 h.1.length (by omega) (by omega); omega
  rcases ht with ⟨t1, rfl⟩ | ⟨t1, rfl⟩
  · refine va_newaK hx hb (hts _ hw) (g := F0 m pc ls (.int x :: st.map (jw_ad α))) rfl hdg rfl hx0 rfl (by rw [t1]; show x.toNatClampNeg * 4 ≤ _; omega) hroom.1 hroom.2 rfl fun H1 cA e1 z1 o1 hAr hNm => ?_
    have hcy : cA = cy 0 := by
      have h2 : s.vm.findClass ("[" ++ (FieldType.int).toString) = some (cy 0) := (hK0.2 0 _ rfl).2
      rw [t1] at hNm
      exact Option.some.inj (hNm.symm.trans h2)
    subst hcy
    refine jo_newx (sh := .inr (0, x.toNatClampNeg, [])) (M1 := (jw_lay h.2.1 h.1.length (fun _ => 0), jw_lay h.2.2 h.1.length (fun _ => 0))) rfl (fun i hi => jw_lay_ne (by omega)) (fun i hi => jw_lay_ne (by omega)) hadr rfl ?_ z1 o1 hP hD hS hA l1 l2 hs hK
    show H1[H.size]? = some (vp_cell _ _)
    rw [e1, t1, vp_cell_i]
    congr 2
    funext j
    show _ = Value.int (jw_lay _ _ _ _ _)
    rw [jw_lay_eq]
    rfl
  · refine va_newaK hx hb (hts _ hw) (g := F0 m pc ls (.int x :: st.map (jw_ad α))) rfl hdg rfl hx0 rfl (by rw [t1]; show x.toNatClampNeg * 8 ≤ _; omega) hroom.1 hroom.2 rfl fun H1 cA e1 z1 o1 hAr hNm => ?_
    have hcy : cA = cy 1 := by
      have h2 : s.vm.findClass ("[" ++ (FieldType.long).toString) = some (cy 1) := (hK0.2 1 _ rfl).2
      rw [t1] at hNm
      exact Option.some.inj (hNm.symm.trans h2)
    subst hcy
    refine jo_newx (sh := .inr (1, x.toNatClampNeg, [])) (M1 := (jw_lay h.2.1 h.1.length (fun _ => 0), jw_lay h.2.2 h.1.length (fun _ => 0))) rfl (fun i hi => jw_lay_ne (by omega)) (fun i hi => jw_lay_ne (by omega)) hadr rfl ?_ z1 o1 hP hD hS hA l1 l2 hs hK
    show H1[H.size]? = some (vp_cell _ _)
    rw [e1, t1, vp_cell_l]
    congr 2
    funext j
    show _ = Value.long (jw_lay _ _ _ _ _)
    rw [jw_lay_eq]
    rfl
set_option maxHeartbeats 1000000 in
theorem jo_anew {pc t idx : Nat} {C0 : String} {f : Nat → jw_H → Prop} {x : Int32} (hx : p.tables.exec = Jvm.exec) (hb : c.code = cc) (hown : s.vm.findClass own = some m.cls) (hts : ∀ w ∈ Ts, w.before args s = true) (hw : Cond.classLink own idx C0 ∈ Ts) (hao : va_AO C0 s) (ht : (jw_tys cy)[t + 2]? = some (cy (t + 2), .object C0)) (hdg : decode cc pc = .ok (.anewarray idx, 3))
    (hK0 : va_K D cl (jw_tys cy) s) (hP : va_P D cl (jw_wld cy α h) H) (hD : va_D A (jw_wld cy α h)) (hS : va_S A s.heap H locs) (hA : ∀ q, s.heap.size ≤ q → A q)
    (hfut : ∀ mc, h.1.length + mc ≤ lim.1 → jw_fut α h.1.length H.size mc) (hlim : ∀ mc ms, h.1.length + mc ≤ lim.1 → jw_sz h.1 + ms ≤ lim.2 → cells + mc ≤ R.cells ∧ slots + ms ≤ R.slots) (hx0 : ¬ x < 0)
    (hs : jw_newa h lim (t + 2) x.toNatClampNeg f)
    (hK : ∀ (a : Nat) (h' : jw_H) (H' : Heap) (locs' : List Loc) (k n : Nat), f a h' → H'.size = H.size + k → h'.1.length = h.1.length + k → jw_sz h'.1 = jw_sz h.1 + n → h'.1.length ≤ lim.1 → jw_sz h'.1 ≤ lim.2 → va_P D cl (jw_wld cy α h') H' → va_D A (jw_wld cy α h') → va_S A s.heap H' locs' → W p l e R s m args below meth c H' locs' (cells + k) (slots + n) Qf (F0 m (pc + 3) ls ((.ref a :: st).map (jw_ad α)))) :
    W p l e R s m args below meth c H locs cells slots Qf (F0 m pc ls (.int x :: st.map (jw_ad α))) := by
  obtain ⟨hl1, hs⟩ := jw_bif hs
  simp only [Bool.and_eq_true, Nat.ble_eq] at hl1
  obtain ⟨l1, l2, l3⟩ := hl1
  have hroom := hlim 1 x.toNatClampNeg l1 l2
  have hadr : α h.1.length = H.size := by have := hfut 1 l1 h.1.length (by omega) (by omega); omega
  refine W.anew hx hb hown (hts _ hw) (va_AO.use hao) (g := F0 m pc ls (.int x :: st.map (jw_ad α))) rfl hdg rfl hx0 (by omega) hroom.1 hroom.2 fun cA kA comp f1 f2 f3 f4 => ?_
  have hcy : cA = cy (t + 2) := by
    obtain ⟨_, _, -, -, -, g4⟩ := (hK0.2 (t + 2) _ ht).2
    exact Option.some.inj (f1.symm.trans g4)
  subst hcy
  generalize hH1 : H.push ({ cls := cy (t + 2), slots := Array.replicate x.toNatClampNeg .null, vm := .none } : Cell) = H1
  have z1 : H1.size = H.size + 1 := by rw [← hH1, Array.size_push]
  have e1 : H1[H.size]? = some (arrV (cy (t + 2)) x.toNatClampNeg (fun _ => .null)) := by rw [← hH1, Array.getElem?_push_size, ← arrV_new]
  have o1 : ∀ q : Nat, q < H.size → H1[q]? = H[q]? := fun q hq => by rw [← hH1, Array.getElem?_push, if_neg (Nat.ne_of_lt hq)]
  refine jo_newx (sh := .inr (t + 2, x.toNatClampNeg, List.replicate x.toNatClampNeg none)) (M1 := (jw_lay h.2.1 h.1.length (fun _ => 0), jw_lay h.2.2 h.1.length (fun _ => 0))) rfl (fun i hi => jw_lay_ne (by omega)) (fun i hi => jw_lay_ne (by omega)) hadr rfl ?_ z1 o1 hP hD hS hA l1 l2 hs hK
  show H1[H.size]? = some (vp_cell _ _)
  rw [e1, vp_cell_q]
  congr 2
  funext j
  have : (List.replicate x.toNatClampNeg (none : Option Nat)).getD j none = none := by
    rw [List.getD_eq_getElem?_getD, List.getElem?_replicate]
    split <;> rfl
  rw [this]
  rfl
end JWN
end
section
/-! ===== storing references into arrays; new int[n][k] ===== -/
theorem vr_outer (c : ClassId) (N h0 : Nat) : ∀ i : Nat, Jvm.Free.Multi.outerC c N h0 i = arrV c N (fun j => va_rf (if j < i then some (h0 + 1 + j) else none))
  | 0 => by
    show ({ cls := c, slots := Array.replicate N .null, vm := .none } : Cell) = _
    rw [arrV_new]
    refine congrArg (arrV c N) (funext fun j => ?_)
    simp [va_rf]
  | i + 1 => by
    show (Jvm.Free.Multi.outerC c N h0 i).setSlot i (.ref (h0 + 1 + i)) = _
    rw [vr_outer c N h0 i, arrV_store]
    refine congrArg (arrV c N) (funext fun j => ?_)
    by_cases e : j = i
    · subst e
      simp [updV, va_rf]
    · by_cases h : j < i
      · simp [updV, e, h, Nat.lt_succ_of_lt h]
      · simp [updV, e, h, show ¬ j < i + 1 by omega]
theorem jw_D_app {A : Nat → Prop} {w X : va_W} {z : Nat} (hD : va_D A w) (hlt : ∀ (k : Nat) (q : Nat × va_E), w[k]? = some q → q.1 < z) (hX : ∀ (i : Nat) (q : Nat × va_E), X[i]? = some q → q.1 = z + i) (hA : ∀ q, z ≤ q → A q) : va_D A (w ++ X) := by
  refine ⟨fun i j x y hi hj hxy => ?_, fun k x hx => ?_⟩
  · by_cases h1 : i < w.length <;> by_cases h2 : j < w.length
    · rw [List.getElem?_append_left h1] at hi
      rw [List.getElem?_append_left h2] at hj
      exact hD.1 i j x y hi hj hxy
    · rw [List.getElem?_append_left h1] at hi
      rw [List.getElem?_append_right (by omega)] at hj
      have := hlt _ _ hi
      have := hX _ _ hj
      omega
    · rw [List.getElem?_append_right (by omega)] at hi
      rw [List.getElem?_append_left h2] at hj
      have := hlt _ _ hj
      have := hX _ _ hi
      omega
    · rw [List.getElem?_append_right (by omega)] at hi hj
      have := hX _ _ hi
      have := hX _ _ hj
      omega
  · by_cases h1 : k < w.length
    · rw [List.getElem?_append_left h1] at hx
      exact hD.2 k x hx
    · rw [List.getElem?_append_right (by omega)] at hx
      have := hX _ _ hx
      exact hA _ (by omega)
theorem jw_sz_rep (N K : Nat) : jw_sz (List.replicate N (.inr (0, K, []))) = N * K := by
  induction N with
  | zero => simp [jw_sz]
  | succ N ih => rw [List.replicate_succ, jw_sz, ih, Nat.succ_mul]; rfl
section JWR
variable {p : Program} {l : Launch} {e : Env} {R : Room} {s : State} {m : MethodId} {args : Array Value} {below : List Frame} {meth : Method} {c : Code} {H : Heap} {locs : List Loc} {cells slots : Nat} {Qf : State → Prop}
variable {cc : ByteArray} {ls : Array Slot} {α : Nat → Nat} {nL : Nat} {D : va_G} {cl : List vw_C} {A : Nat → Prop} {cy : Nat → ClassId} {own nm : String} {Ts Tg Ns : List Cond} {h : jw_H} {st : List Value} {kd : Nat → List jw_K} {lim : Nat × Nat}
/-- which classes' objects go into an array of references -/
def jw_asg (cl : List vw_C) (Ns : List Cond) : Prop := (∀ r, cl[6]? = some r → r.1 = "ShadowSchool$Progress") ∧ ∀ cj r, (cj = 0 ∨ cj = 1 ∨ cj = 2 ∨ cj = 4 ∨ cj = 10 ∨ cj = 11) → cl[cj]? = some r → r.1 = "ShadowSchool$Shade" ∨ Cond.castable r.1 "ShadowSchool$Shade" ∈ Ns
theorem jo_ast1 {pc : Nat} {rest : List Value} {tys : List (ClassId × FieldType)} {ws : va_W} {H0 : Heap} {a : Nat} (hexec : p.tables.exec = Jvm.exec) (hb : c.code = cc) (hK : va_K D cl tys s) (hP : va_P D cl ws H) (hD : va_D A ws) (hS : va_S A H0 H locs) {q0 t0 : Nat} {E : String} {cA : ClassId} {n v : Nat} {f : Nat → Option Nat} (ha : ws[q0]? = some (a, .inl (cA, n, .inr (.inr (.inr (.inr f)))))) (ht : tys[t0]? = some (cA, .object E)) (hr : va_Any E s H v) {i : Int32} (hin : vp_in i n) (hdg : decode cc pc = .ok (.aastore, 1))
    (kk : ∀ (H1 : Heap) (locs1 : List Loc), H1.size = H.size → va_P D cl (ws.set q0 (a, .inl (cA, n, .inr (.inr (.inr (.inr (va_up f i.toNatClampNeg (some v)))))))) H1 → va_D A (ws.set q0 (a, .inl (cA, n, .inr (.inr (.inr (.inr (va_up f i.toNatClampNeg (some v)))))))) → va_S A H0 H1 locs1 → W p l e R s m args below meth c H1 locs1 cells slots Qf (F0 m (pc + 1) ls rest)) : W p l e R s m args below meth c H locs cells slots Qf (F0 m pc ls (.ref v :: .int i :: .ref a :: rest)) := by
  have hlt : i.toNatClampNeg < n := Nat.not_le.mp fun q => hin (Or.inr q)
  have h0 : ¬ i < 0 := fun q => hin (Or.inl q)
  obtain ⟨cellV, g1, g3, ⟨kC, hkC⟩, hasg⟩ := hr
  obtain ⟨kA, comp, k1, k2, k3, -⟩ := (hK.2 t0 _ ht).2
  obtain ⟨kE, hkE, -⟩ := Vm.findClass_spec k3
  refine W.aast hexec hb (hP q0 _ ha) (fun q h => by cases h) (fun h => by cases h) k1 k2 rfl hkE ⟨h0, by show _ < (arrV _ _ _).slots.size; rw [arrV_size]; exact hlt⟩ g1 (fun q h => by rw [h] at g3; cases g3) hkC (hasg _ k3) rfl rfl hdg fun H1 e z oq => ?_
  refine kk H1 _ z (hP.set hD ha ?_ oq) (hD.set ha) (hS.put z oq (hD.2 q0 _ ha))
  show H1[a]? = some (vp_cell _ _)
  rw [e]
  rw [vp_cell_q, vp_cell_q, arrV_store]
  congr 2
  funext q
  by_cases hq : q = i.toNatClampNeg
  · subst hq
    simp [updV, va_up, va_rf]
  · simp [updV, va_up, hq]
set_option maxHeartbeats 1000000 in
theorem jo_aast {pc : Nat} {f : List Value → jw_H → Prop} (hx : p.tables.exec = Jvm.exec) (hb : c.code = cc) (hasg : jw_asg cl Ns) (hcl : ∀ (i : Nat) (sh : Nat × List jw_K), h.1[i]? = some (.inl sh) → ∃ r, cl[sh.1]? = some r) (hdg : decode cc pc = .ok (.aastore, 1))
    (hK0 : va_K D cl (jw_tys cy) s) (hP : va_P D cl (jw_wld cy α h) H) (hD : va_D A (jw_wld cy α h)) (hS : va_S A s.heap H locs) (hN : jw_nw Ns s)
    (hs : jw_aast h st f)
    (hK : ∀ (st' : List Value) (h' : jw_H) (H' : Heap) (locs' : List Loc), f st' h' → H'.size = H.size → h'.1.length = h.1.length → jw_sz h'.1 = jw_sz h.1 → va_P D cl (jw_wld cy α h') H' → va_D A (jw_wld cy α h') → va_S A s.heap H' locs' → W p l e R s m args below meth c H' locs' cells slots Qf (F0 m (pc + 1) ls (st'.map (jw_ad α)))) :
    W p l e R s m args below meth c H locs cells slots Qf (F0 m pc ls (st.map (jw_ad α))) := by
  unfold jw_aast at hs
  split at hs
  · rename_i j i a r
    split at hs
    · rename_i t n rs cj ks ha hj
      obtain ⟨hin, hs⟩ := hs
      obtain ⟨hc, hs⟩ := jw_bif hs
      simp only [Bool.and_eq_true, Bool.or_eq_true, beq_iff_eq, Nat.blt_eq] at hc
      obtain ⟨hc, hlt⟩ := hc
      obtain ⟨rc, hrc⟩ := hcl j _ hj
      have hE : ∃ E, (jw_tys cy)[t + 2]? = some (cy (t + 2), .object E) ∧ va_Any E s H (α j) := by
        rcases hc with ⟨rfl, rfl⟩ | ⟨rfl, hc⟩
        · refine ⟨_, rfl, va_rAny hK0 hP (jw_wld_some hj) hrc (fun comp c0 f1 f2 => ?_)⟩
          rw [hasg.1 _ hrc] at f2
          cases f1.symm.trans f2
          exact va_assign (hK0.1 _ _ hrc).2 |> fun z => by
            have := (hK0.1 _ _ hrc).2.1
            rw [hasg.1 _ hrc] at this
            cases this.symm.trans f1
            exact z
        · refine ⟨_, rfl, va_rAny hK0 hP (jw_wld_some hj) hrc (fun comp c0 f1 f2 => ?_)⟩
          rcases hasg.2 cj rc (by rcases hc with ((((hc | hc) | hc) | hc) | hc) | hc <;> simp [hc]) hrc with h9 | h9
          · rw [h9] at f2
            cases f1.symm.trans f2
            exact va_assign (hK0.1 _ _ hrc).2 |> fun z => by
              have := (hK0.1 _ _ hrc).2.1
              rw [h9] at this
              cases this.symm.trans f1
              exact z
          · exact vb_asgC (hN.1 _ h9) comp c0 f1 f2
      obtain ⟨E, hE1, hE2⟩ := hE
      refine jo_ast1 hx hb hK0 hP hD hS (jw_wld_some ha) hE1 hE2 hin hdg (fun H1 locs1 z hP1 hD1 hS1 => ?_)
      have e2 : jw_wld cy α (h.1.set a (.inr (t + 2, n, rs.set i.toNatClampNeg (some j))), h.2) = (jw_wld cy α h).set a (α a, .inl (cy (t + 2), n, .inr (.inr (.inr (.inr (va_up (fun k => (rs.getD k none).map α) i.toNatClampNeg (some (α j)))))))) := by
        rw [jw_wld_set (h := h) (h' := (h.1.set a (.inr (t + 2, n, rs.set i.toNatClampNeg (some j))), h.2)) ha rfl (fun _ _ => rfl) (fun _ _ => rfl)]
        congr 3
        refine congrArg (fun g => (Sum.inl (cy (t + 2), n, Sum.inr (Sum.inr (Sum.inr (Sum.inr g)))) : va_E)) ?_
        funext k
        unfold va_up
        rw [List.getD_eq_getElem?_getD, List.getElem?_set]
        by_cases e : i.toNatClampNeg = k
        · subst e
          simp [hlt]
        · rw [if_neg e, if_neg (fun q => e q.symm), ← List.getD_eq_getElem?_getD]
      rw [← e2] at hP1 hD1
      exact hK _ _ _ _ hs z (by simp) (jw_sz_set ha (by simp [jw_ssz])) hP1 hD1 hS1
    · exact hs.elim
  · exact hs.elim
set_option maxHeartbeats 1000000 in
theorem jo_mna {pc idx : Nat} {f : Nat → jw_H → Prop} {n k : Int32} (hx : p.tables.exec = Jvm.exec) (hb : c.code = cc) (hown : s.vm.findClass own = some m.cls) (hts : ∀ w ∈ Ts, w.before args s = true) (hw1 : Cond.classLink own idx "[[I" ∈ Ts) (hw2 : Cond.arrayClass .int ∈ Ts) (hao : (Cond.arrayOver (.array .int)).before args s = true) (hdg : decode cc pc = .ok (.multianewarray idx 2, 4))
    (hK0 : va_K D cl (jw_tys cy) s) (hP : va_P D cl (jw_wld cy α h) H) (hD : va_D A (jw_wld cy α h)) (hS : va_S A s.heap H locs) (hA : ∀ q, s.heap.size ≤ q → A q)
    (hfut : ∀ mc, h.1.length + mc ≤ lim.1 → jw_fut α h.1.length H.size mc) (hlim : ∀ mc ms, h.1.length + mc ≤ lim.1 → jw_sz h.1 + ms ≤ lim.2 → cells + mc ≤ R.cells ∧ slots + ms ≤ R.slots) (hn0 : ¬ n < 0) (hk0 : ¬ k < 0)
    (hs : jw_mna h lim n.toNatClampNeg k.toNatClampNeg f)
    (hK : ∀ (a : Nat) (h' : jw_H) (H' : Heap) (locs' : List Loc) (k n : Nat), f a h' → H'.size = H.size + k → h'.1.length = h.1.length + k → jw_sz h'.1 = jw_sz h.1 + n → h'.1.length ≤ lim.1 → jw_sz h'.1 ≤ lim.2 → va_P D cl (jw_wld cy α h') H' → va_D A (jw_wld cy α h') → va_S A s.heap H' locs' → W p l e R s m args below meth c H' locs' (cells + k) (slots + n) Qf (F0 m (pc + 4) ls ((.ref a :: st).map (jw_ad α)))) :
    W p l e R s m args below meth c H locs cells slots Qf (F0 m pc ls (.int k :: .int n :: st.map (jw_ad α))) := by
  obtain ⟨hl1, hs⟩ := jw_bif hs
  simp only [Bool.and_eq_true, Nat.ble_eq] at hl1
  obtain ⟨l1, l2, l3, l4⟩ := hl1
  generalize hN : n.toNatClampNeg = N at *
  generalize hKK : k.toNatClampNeg = K at *
  have hroom := hlim (1 + N) (N + N * K) l1 l2
  have hadr : ∀ i, i < 1 + N → α (h.1.length + i) = H.size + i := fun i hi => by have := hfut (1 + N) l1 (h.1.length + i) (by omega) (by omega); omega
  intro T hT Xs
  obtain ⟨vm₁, cA, comp, -, fA, fC, hO, -, X', step⟩ := Xs.multianewarray2F hx hown (hts _ hw1) hao (hts _ hw2) (g := F0 m pc ls (.int k :: .int n :: st.map (jw_ad α))) rfl (by rw [hb]; exact hdg) rfl hn0 hk0 (by omega) (by rw [hKK]; show K * 4 ≤ _; omega) (by omega) rfl rfl (by rw [hN]; exact hroom.1) (by rw [hN, hKK]; exact hroom.2)
  rw [hN, hKK] at X' step
  have e4 : cA = cy 4 := Option.some.inj (fA.symm.trans (hK0.2 4 _ rfl).2)
  have e0 : comp = cy 0 := Option.some.inj (fC.symm.trans (hK0.2 0 _ rfl).2)
  subst e4
  subst e0
  generalize hF : Jvm.Free.Multi.fill (T.setVm vm₁) (cy 4) (cy 0) N K (defaultValue .int) N = F at X' step
  have hTh : (T.setVm vm₁).heap = H := hT
  obtain ⟨f1, f2, -, -⟩ := Jvm.Free.Multi.fill_facts (T.setVm vm₁) (cy 4) (cy 0) N K (defaultValue .int) N
  rw [hF, hTh] at f1 f2
  have hold : ∀ x : Nat, x < H.size → F.heap[x]? = H[x]? := fun x hx => by
    have := Jvm.Free.Multi.fill_old (T.setVm vm₁) (cy 4) (cy 0) N K (defaultValue .int) (a := x) (by rw [hTh]; exact hx) N
    rw [hF, hTh] at this
    exact this
  have hz : ∀ c : ClassId, Jvm.Free.Multi.innerC c K (defaultValue .int) = vp_cell c (K, .inl (fun _ => 0)) := fun c => by
    show ({ cls := c, slots := Array.replicate K (.int 0), vm := .none } : Cell) = _
    rw [vp_cell_i, arrV_new]
  have hrow : ∀ j : Nat, j < N → F.heap[H.size + 1 + j]? = some (vp_cell (cy 0) (K, .inl (fun _ => 0))) := fun j hj => by
    have := Jvm.Free.Multi.fill_inner (T.setVm vm₁) (cy 4) (cy 0) N K (defaultValue .int) N j hj
    rw [hF, hTh, hz] at this
    exact this
  rw [vr_outer] at f2
  generalize hX : (Sum.inr (4, N, (List.range N).map (fun i => some (h.1.length + 1 + i))) :: List.replicate N (Sum.inr (0, K, [])) : List jw_S) = X at hs
  have hXl : X.length = 1 + N := by rw [← hX]; simp; omega
  have hXs : jw_sz X = N + N * K := by rw [← hX, jw_sz, jw_sz_rep]; simp [jw_ssz]; omega
  have e2 := jw_wld_app (cy := cy) (α := α) (h := h) (h' := (h.1 ++ X, jw_zero 0 h.2.1 h.1.length, jw_zero 0 h.2.2 h.1.length)) (X := X) rfl (fun i hi => if_pos hi) (fun i hi => if_pos hi)
  have hXa : ∀ (i : Nat) (q : Nat × va_E), (X.mapIdx (fun i sh => (α (h.1.length + i), jw_cell cy α (jw_zero 0 h.2.1 h.1.length, jw_zero 0 h.2.2 h.1.length) (h.1.length + i) sh)))[i]? = some q → q.1 = H.size + i := by
    intro i q hq
    rw [List.getElem?_mapIdx] at hq
    cases hi : X[i]? with
    | none => rw [hi] at hq; cases hq
    | some sh =>
      rw [hi] at hq
      have hil : i < X.length := (List.getElem?_eq_some_iff.mp hi).1
      have := Option.some.inj hq
      rw [← this]
      exact hadr i (by omega)
  obtain ⟨t, a1, b1⟩ := hK h.1.length _ F.heap locs (1 + N) (N + N * K) hs (by rw [f1]; omega) (by simp [hXl]) (by rw [jw_sz_app, hXs]) (by simp [hXl]; exact l1) (by rw [jw_sz_app, hXs]; exact l2) (by
      rw [e2]
      refine (hP.kept (fun k x hx => hold x.1 ((hP k x hx).lt))).app (fun i q hq => ?_)
      have hq1 := hXa i q hq
      rw [List.getElem?_mapIdx] at hq
      cases hi : X[i]? with
      | none => rw [hi] at hq; cases hq
      | some sh =>
        rw [hi] at hq
        have hq2 := Option.some.inj hq
        rw [← hX] at hi
        cases i with
        | zero =>
          simp at hi
          subst hi
          rw [← hq2]
          show F.heap[α (h.1.length + 0)]? = some (vp_cell _ _)
          rw [hadr 0 (by omega), vp_cell_q]
          refine f2.trans (congrArg some (congrArg (arrV (cy 4) N) (funext fun j => ?_)))
          rw [List.getD_eq_getElem?_getD, List.getElem?_map]
          by_cases hj : j < N
          · rw [if_pos hj, List.getElem?_range hj]
            simp only [Option.map_some, Option.getD_some]
            rw [show h.1.length + 1 + j = h.1.length + (1 + j) by omega, hadr (1 + j) (by omega), show H.size + (1 + j) = H.size + 1 + j by omega]
          · rw [if_neg hj, List.getElem?_eq_none (by rw [List.length_range]; omega)]
            rfl
        | succ i =>
          rw [List.getElem?_cons_succ, List.getElem?_replicate] at hi
          split at hi
          · rename_i hlt
            cases hi
            rw [← hq2]
            show F.heap[α (h.1.length + (i + 1))]? = some (vp_cell _ _)
            rw [hadr (i + 1) (by omega), show H.size + (i + 1) = H.size + 1 + i by omega, hrow i hlt]
            refine congrArg (fun g => some (vp_cell (cy 0) (K, .inl g))) (funext fun j => ?_)
            show _ = jw_zero 0 h.2.1 h.1.length (h.1.length + (i + 1)) j
            unfold jw_zero
            rw [if_neg (by omega)]
          · cases hi) (by
      rw [e2]
      exact jw_D_app hD (fun k q hq => (hP k q hq).lt) hXa (fun q hq => hA q (Nat.le_trans hS.1 hq))) ⟨by rw [f1]; have := hS.1; omega, fun x h1 h2 => (hold x (Nat.lt_of_lt_of_le h1 hS.1)).trans (hS.2.1 x h1 h2), hS.2.2⟩ F rfl (by
      have e9 : cells + (1 + N) = cells + 1 + N := by omega
      have e8 : slots + (N + N * K) = slots + N + N * K := by omega
      rw [e9, e8]
      exact X')
  refine ⟨t, step t ?_, b1⟩
  have e9 : T.heap.size = H.size := by rw [hT]
  rw [e9]
  rw [List.map_cons, jw_ad, show α h.1.length = H.size from hadr 0 (by omega)] at a1
  exact a1
end JWR
end
section
/-! ===== the abstract machine is the machine: a method's contract out of its walk ===== -/
def jw_isC : Instr → Bool
  | .invokevirtual _ | .invokespecial _ | .invokestatic _ | .aastore | .new _ | .newarray _ | .anewarray _ | .multianewarray _ _ => true
  | _ => false
def jw_isR : Instr → Bool
  | .ireturn | .lreturn | .areturn | .return_ => true
  | _ => false
/-- words of a call or a new cell -/
def jw_wc (own : String) (cl : List vw_C) (ys : List jw_Y) (q : jw_I) : List Cond := match q.2.1 with
  | .invokevirtual idx => bif q.2.2.2.1 == 100000 || q.2.2.2.1 == 100001 then jw_wcT own idx q.2.2.2.1 else q.2.2.2.2.2.flatMap (jw_wcV own cl ys idx q.2.2.2.1)
  | .invokespecial idx => bif q.2.2.2.1 == 7 then jw_wcO own idx else q.2.2.2.2.2.flatMap (jw_wcP own cl ys idx q.2.2.2.1)
  | .invokestatic idx => bif q.2.2.2.1 == 8 then jw_wcA own idx else q.2.2.2.2.2.flatMap (jw_wcS own ys idx q.2.2.2.1)
  | _ => jw_wcN own cl q
def jw_nc (own : String) (ys : List jw_Y) (q : jw_I) : List Cond := match q.2.1 with
  | .invokespecial idx => bif q.2.2.2.1 == 7 then [] else q.2.2.2.2.2.flatMap (jw_ncP own ys idx q.2.2.2.1)
  | .invokestatic idx => bif q.2.2.2.1 == 8 then [] else q.2.2.2.2.2.flatMap (jw_ncS own ys idx q.2.2.2.1)
  | _ => []
def jw_fc (kd : Nat → List jw_K) (cl : List vw_C) (ys : List jw_Y) (q : jw_I) : Bool := match q.2.1 with
  | .invokevirtual _ => ((q.2.2.2.1 == 100000 || q.2.2.2.1 == 100001) && q.2.2.2.2.2 == []) || (!(q.2.2.2.1 == 100000 || q.2.2.2.1 == 100001) && q.2.2.2.2.2.all (jw_fcV cl ys q.2.2.2.1 q.2.2.2.2.1))
  | .invokespecial _ => q.2.2.2.1 == 7 || q.2.2.2.2.2.all (jw_fcP cl ys q.2.2.2.1 q.2.2.2.2.1)
  | .invokestatic _ => q.2.2.2.1 == 8 || q.2.2.2.2.2.all (jw_fcS ys q.2.2.2.2.1)
  | .multianewarray _ n => n == 2
  | _ => jw_fcN kd cl q
/-- all that an instruction needs of the tables -/
def jw_okI (own nm : String) (kd : Nat → List jw_K) (cl : List vw_C) (ys : List jw_Y) (Tg Ns : List Cond) (cc : ByteArray) (q : jw_I) : Prop :=
  jw_okd cc q ∧ (jw_len q.2.1 = 1 ∨ jw_isS q.2.1 = true ∨ jw_isH q.2.1 = true ∨ jw_isC q.2.1 = true) ∧ (∀ w ∈ jw_wd own cl q, w ∈ Tg) ∧ jw_wf own nm cl q = true ∧ (∀ w ∈ jw_wc own cl ys q, w ∈ Tg) ∧ (∀ w ∈ jw_nc own ys q, w ∈ Ns) ∧ jw_fc kd cl ys q = true
def jw_shok (cl : List vw_C) (h : jw_H) : Prop := ∀ (i : Nat) (sh : Nat × List jw_K), h.1[i]? = some (.inl sh) → ∃ r, cl[sh.1]? = some r
section JWZ
variable {p : Program} {l : Launch} {e : Env} {R : Room} {s : State} {m : MethodId} {args : Array Value} {below : List Frame} {meth : Method} {c : Code}
variable {cc : ByteArray} {α : Nat → Nat} {nL : Nat} {D : va_G} {cl : List vw_C} {A : Nat → Prop} {cy : Nat → ClassId} {own nm : String} {Ts Tg Ns : List Cond} {kd : Nat → List jw_K} {lim : Nat × Nat} {ys : List jw_Y} {ret : Option FieldType} {cs : List jw_I}
theorem jw_at_ok {pc : Nat} {q : jw_I} : ∀ {cs : List jw_I}, jw_at pc cs = some q → q ∈ cs ∧ q.1 = pc
  | [], h => by cases h
  | x :: cs, h => by
    rw [jw_at] at h
    cases hc : (x.1 == pc) with
    | true =>
      rw [hc] at h
      have : x = q := Option.some.inj h
      subst this
      exact ⟨List.mem_cons_self, by simpa using hc⟩
    | false =>
      rw [hc] at h
      exact ⟨List.mem_cons_of_mem _ (jw_at_ok h).1, (jw_at_ok h).2⟩
set_option maxHeartbeats 4000000 in
set_option maxRecDepth 100000 in
theorem jw_sound_wp {d mc ms : Nat} {Q : jw_Q} {h0 : jw_H} (hx : p.tables.exec = Jvm.exec) (hb : c.code = cc) (hml : c.maxLocals = nL) (hr : meth.sig.returnType = ret) (hlocks : meth.locks = false) (hown : s.vm.findClass own = some m.cls) (hnm : meth.name = nm) (hts : ∀ w ∈ Ts, w.before args s = true) (hTs : ∀ w ∈ Tg, w ∈ Ts) (hgood : ∀ w ∈ Tg, goodWord w = true) (hns : jw_nsok Ns) (hcl : jw_clok cl Tg) (hasg : jw_asg cl Ns) (hstr : jw_strok l Tg) (hysl : ys.length ≤ 100000) (hok : ∀ q ∈ cs, jw_okI own nm kd cl ys Tg Ns cc q)
    (hRf : d + 1 ≤ R.frames) (hRl : 200 * d + 200 ≤ R.locals) (hRc : R.cells = mc) (hRs : R.slots = ms)
    (hK0 : va_K D cl (jw_tys cy) s) (hX : jw_X α A s s.heap) (hN : jw_nw Ns s) (hA : ∀ q, s.heap.size ≤ q → A q) (hAe : A = va_A (jw_wld cy α h0) s.heap.size) (hfut : jw_fut α h0.1.length s.heap.size mc)
    (IH : ∀ (mid : Nat) (as : List Value) (h : jw_H) (Q : jw_Q), jw_C kd ys d mid as h Q → ∀ y, ys[mid]? = some y → jw_met l D cl cy α Ns Tg d y as h Q) :
    ∀ (n pc : Nat) (L : jw_L) (st : List Value) (h : jw_H) (H : Heap) (locs : List Loc) (cells slots : Nat) (ls : Array Slot), jw_wp kd (jw_C kd ys d) (jw_bud ys) (h0.1.length + mc, jw_sz h0.1 + ms) ret cs (fun v h' => Q v h' ∧ h'.1.length = h0.1.length + mc ∧ jw_sz h'.1 = jw_sz h0.1 + ms) n pc L st h → L.length = nL → lv_has ls nL (jw_asc α 0 L) → cells + h0.1.length = h.1.length → slots + jw_sz h0.1 = jw_sz h.1 → H.size + h0.1.length = s.heap.size + h.1.length → h.1.length ≤ h0.1.length + mc → jw_sz h.1 ≤ jw_sz h0.1 + ms → va_P D cl (jw_wld cy α h) H → va_D A (jw_wld cy α h) → va_S A s.heap H locs →
      W p l e R s m args below meth c H locs cells slots (MQ below (jw_Qc D cl cy α h0 s.heap.size mc ms Q) args s mc ms A) (F0 m pc ls (st.map (jw_ad α))) := by
  have hclT : jw_clok cl Ts := fun ci C T N h => ⟨fun w hw => hTs w ((hcl ci C T N h).1 w hw), (hcl ci C T N h).2⟩
  intro n
  induction n with
  | zero => intro pc L st h H locs cells slots ls hs; exact hs.elim
  | succ n ih =>
    intro pc L st h H locs cells slots ls hs hn hl hc1 hc2 hz hb1 hb2 hP hD hS
    rw [jw_wp] at hs
    cases hq : jw_at pc cs with
    | none => rw [hq] at hs; exact hs.elim
    | some q =>
      rw [hq] at hs
      dsimp only at hs
      obtain ⟨hqm, hqp⟩ := jw_at_ok hq
      obtain ⟨k1, k2, k3, k4, k5, k6, k7⟩ := hok q hqm
      obtain ⟨pc1, ins, len, res⟩ := q
      dsimp only at hqp k2
      subst hqp
      have hfut' : ∀ mc', h.1.length + mc' ≤ h0.1.length + mc → jw_fut α h.1.length H.size mc' := fun mc' h9 j h1 h2 => by
        have := hfut j (by omega) (by omega)
        omega
      have hlim' : ∀ mc' ms', h.1.length + mc' ≤ h0.1.length + mc → jw_sz h.1 + ms' ≤ jw_sz h0.1 + ms → cells + mc' ≤ R.cells ∧ slots + ms' ≤ R.slots := fun mc' ms' h9 h8 => ⟨by omega, by omega⟩
      have hdg := k1.1
      dsimp only at hdg
      have hlen' : ∀ k, jw_len ins = k + 1 → len = k + 1 := fun k hk => by
        rcases k1.2.1 with h9 | h9
        · dsimp only at h9; omega
        · dsimp only at h9; omega
      have hfin : ∀ (t : State) (v : Option Value), t.heap = H → Q v h → h.1.length = h0.1.length + mc → jw_sz h.1 = jw_sz h0.1 + ms → jw_Qc D cl cy α h0 s.heap.size mc ms Q args s (.returned (v.map (jw_ad α))) t := fun t v ht hq9 hz1 hz2 =>
        ⟨⟨_, rfl, v, h, rfl, hq9, hz1, hz2, by rw [ht]; omega, by rw [ht]; exact hP, by rw [← hAe]; exact hD⟩, by rw [← hAe]; exact hS.F ht⟩
      by_cases hS1 : jw_isS ins = true
      · exact jo_simple hS1 hx hb k1 hl hn hs (fun pc' L' st' ls' hk hn' hl' => ih pc' L' st' h H locs cells slots ls' hk hn' hl' hc1 hc2 hz hb1 hb2 hP hD hS)
      by_cases hH1 : jw_isH ins = true
      · exact jo_heap hH1 hx hb k1 (fun w hw => hTs w (k3 w hw)) k4 hts hclT hown hnm hK0 hP hD hS hX hs (fun pc' st' h' H' locs' hk z1 z2 z3 hP1 hD1 hS1 => ih pc' L st' h' H' locs' cells slots ls hk hn hl (by omega) (by omega) (by omega) (by omega) (by omega) hP1 hD1 hS1)
      by_cases hC1 : jw_isC ins = true
      · cases ins <;> first | (exact Bool.noConfusion hC1) | skip
        case invokevirtual idx =>
          have := hlen' 2 rfl; subst this
          unfold jw_wc at k5
          unfold jw_fc at k7
          dsimp only at k5 k7
          replace hs : jw_callV (jw_C kd ys d) (jw_bud ys) (h0.1.length + mc, jw_sz h0.1 + ms) res st h fun st h => jw_wp kd (jw_C kd ys d) (jw_bud ys) (h0.1.length + mc, jw_sz h0.1 + ms) ret cs (fun v h' => Q v h' ∧ h'.1.length = h0.1.length + mc ∧ jw_sz h'.1 = jw_sz h0.1 + ms) n (pc1 + 3) L st h := hs
          unfold jw_callV at hs
          split at hs
          · rename_i b r hdr
            split at hs
            · obtain ⟨g1, hs⟩ := jw_bif hs
              simp only [Bool.and_eq_true, Bool.or_eq_true, beq_iff_eq, Nat.blt_eq, Nat.ble_eq] at g1
              obtain ⟨rfl, g2, g3, g4⟩ := g1
              have hkk : (res.1 == 100000 || res.1 == 100001) = true := by simpa using g4
              rw [hkk] at k5
              exact jo_str (ys := ys) (kd := kd) (d' := 0) (tg := res.2.2) hstr hx hb hml hown hts hTs hgood k5 hRf hRl hdg hl.1 hS hX hysl (jw_take hdr) g2 g3 g4 hs (by omega) (fun v locs' hq9 hS1 => ih _ L (.int v :: r) h H locs' cells slots ls hq9 hn hl hc1 hc2 hz hb1 hb2 hP hD hS1)
            · have hkk : (res.1 == 100000 || res.1 == 100001) = true ∨ (res.1 == 100000 || res.1 == 100001) = false := by cases (res.1 == 100000 || res.1 == 100001) <;> simp
              rcases hkk with hkk | hkk
              · exfalso
                obtain ⟨b2, r2, ci2, ks2, mid2, -, -, -, htg2, -⟩ := jw_call_ok (kind := res.1) (n := res.2.1) (tg := res.2.2) hs
                rw [hkk] at k7
                simp only [Bool.true_and] at k7
                have : res.2.2 = [] := by simpa using k7
                rw [this] at htg2
                cases htg2
              · rw [hkk] at k5 k7
                simp only [Bool.not_false, Bool.false_and, Bool.false_or, Bool.true_and] at k7
                exact jo_virt (kind := res.1) (n := res.2.1) (tg := res.2.2) hx hb hml hown hts hTs hgood hns (fun z hz1 w hw => k5 w (List.mem_flatMap.mpr ⟨z, hz1, hw⟩)) (fun z hz1 => List.all_eq_true.mp k7 z hz1) hRf hRl hdg hl.1 hK0 hP hD hS hA hX hN (fun mid as Q h9 => IH mid as h Q h9) hfut' hlim' ⟨hb1, hb2⟩ hs (fun st' h' H' locs' k n9 hk z1 z2 z3 z4 z5 hP1 hD1 hS1 => ih _ L st' h' H' locs' (cells + k) (slots + n9) ls hk hn hl (by omega) (by omega) (by omega) z4 z5 hP1 hD1 hS1)
          · exact hs.elim
        case invokespecial idx =>
          have := hlen' 2 rfl; subst this
          unfold jw_wc at k5
          unfold jw_nc at k6
          unfold jw_fc at k7
          dsimp only at k5 k6 k7
          replace hs : bif res.1 == 7 then jw_r1 st fun _ r => (bif Nat.ble (jw_cat r) 8 then jw_wp kd (jw_C kd ys d) (jw_bud ys) (h0.1.length + mc, jw_sz h0.1 + ms) ret cs (fun v h' => Q v h' ∧ h'.1.length = h0.1.length + mc ∧ jw_sz h'.1 = jw_sz h0.1 + ms) n (pc1 + 3) L r h else False) else jw_call (jw_C kd ys d) (jw_bud ys) (h0.1.length + mc, jw_sz h0.1 + ms) res st h fun st h => jw_wp kd (jw_C kd ys d) (jw_bud ys) (h0.1.length + mc, jw_sz h0.1 + ms) ret cs (fun v h' => Q v h' ∧ h'.1.length = h0.1.length + mc ∧ jw_sz h'.1 = jw_sz h0.1 + ms) n (pc1 + 3) L st h := hs
          cases h7 : (res.1 == 7) with
          | true =>
            rw [h7] at hs k5
            dsimp only [cond_true] at hs k5
            obtain ⟨a, r, rfl, hs⟩ := jw_r1_ok hs
            obtain ⟨hcat, hs⟩ := jw_bif hs
            have hcat : jw_cat r ≤ 8 := by simpa using hcat
            have hw := fun w hz => hts w (hTs w (k5 w hz))
            exact W.objInit hx hb hown (hw _ (by simp [jw_wcO])) (hw _ (by simp [jw_wcO])) (hw _ (by simp [jw_wcO])) (g := F0 m pc1 ls ((.ref a :: r).map (jw_ad α))) rfl (hl.1.trans hml.symm) rfl hdg (by omega) (by show 2 * 0 + _ + 12 ≤ _; rw [jw_cat_map]; omega) (ih _ L r h H locs cells slots ls hs hn hl hc1 hc2 hz hb1 hb2 hP hD hS)
          | false =>
            rw [h7] at hs k5 k6 k7
            dsimp only [cond_false] at hs k5 k6 k7
            rw [Bool.false_or] at k7
            refine jo_spec (kind := res.1) (n := res.2.1) (tg := res.2.2) hx hb hml hown hts hTs hgood hns (fun z hz1 w hw => k5 w (List.mem_flatMap.mpr ⟨z, hz1, hw⟩)) (fun z hz1 w hw => k6 w (List.mem_flatMap.mpr ⟨z, hz1, hw⟩)) (fun z hz1 => List.all_eq_true.mp k7 z hz1) hRf hRl hdg hl.1 hK0 hP hD hS hA hX hN (fun mid as Q h9 => IH mid as h Q h9) hfut' hlim' ⟨hb1, hb2⟩ hs (fun st' h' H' locs' k n9 hk z1 z2 z3 z4 z5 hP1 hD1 hS1 => ih _ L st' h' H' locs' (cells + k) (slots + n9) ls hk hn hl (by omega) (by omega) (by omega) z4 z5 hP1 hD1 hS1)
        case invokestatic idx =>
          have := hlen' 2 rfl; subst this
          unfold jw_wc at k5
          unfold jw_nc at k6
          unfold jw_fc at k7
          dsimp only at k5 k6 k7
          replace hs : bif res.1 == 8 then jw_copy h st fun r h => jw_wp kd (jw_C kd ys d) (jw_bud ys) (h0.1.length + mc, jw_sz h0.1 + ms) ret cs (fun v h' => Q v h' ∧ h'.1.length = h0.1.length + mc ∧ jw_sz h'.1 = jw_sz h0.1 + ms) n (pc1 + 3) L r h else jw_callS (jw_C kd ys d) (jw_bud ys) (h0.1.length + mc, jw_sz h0.1 + ms) res st h fun st h => jw_wp kd (jw_C kd ys d) (jw_bud ys) (h0.1.length + mc, jw_sz h0.1 + ms) ret cs (fun v h' => Q v h' ∧ h'.1.length = h0.1.length + mc ∧ jw_sz h'.1 = jw_sz h0.1 + ms) n (pc1 + 3) L st h := hs
          cases h7 : (res.1 == 8) with
          | true =>
            rw [h7] at hs k5
            dsimp only [cond_true] at hs k5
            exact jo_copy hx hb hml hl.1 hown hts (fun w hz => hTs w (k5 w hz)) (by omega) (by omega) hdg hK0 hP hD hS hs (fun st' h' H' locs' hk z1 z2 z3 hP1 hD1 hS1 => ih _ L st' h' H' locs' cells slots ls hk hn hl (by omega) (by omega) (by omega) (by omega) (by omega) hP1 hD1 hS1)
          | false =>
            rw [h7] at hs k5 k6 k7
            dsimp only [cond_false] at hs k5 k6 k7
            rw [Bool.false_or] at k7
            refine jo_stat (kind := res.1) (n := res.2.1) (tg := res.2.2) hx hb hml hown hts hTs hgood hns (fun z hz1 w hw => k5 w (List.mem_flatMap.mpr ⟨z, hz1, hw⟩)) (fun z hz1 w hw => k6 w (List.mem_flatMap.mpr ⟨z, hz1, hw⟩)) (fun z hz1 => List.all_eq_true.mp k7 z hz1) hRf hRl hdg hl.1 hK0 hP hD hS hA hX hN (fun mid as Q h9 => IH mid as h Q h9) hfut' hlim' ⟨hb1, hb2⟩ hs (fun st' h' H' locs' k n9 hk z1 z2 z3 z4 z5 hP1 hD1 hS1 => ih _ L st' h' H' locs' (cells + k) (slots + n9) ls hk hn hl (by omega) (by omega) (by omega) z4 z5 hP1 hD1 hS1)
        case aastore =>
          have := hlen' 0 rfl; subst this
          refine jo_aast hx hb hasg (fun i sh hi => ?_) hdg hK0 hP hD hS hN hs (fun st' h' H' locs' hk z1 z2 z3 hP1 hD1 hS1 => ih _ L st' h' H' locs' cells slots ls hk hn hl (by omega) (by omega) (by omega) (by omega) (by omega) hP1 hD1 hS1)
          obtain ⟨r, hr1, -⟩ := hP i _ (jw_wld_some hi)
          exact ⟨r, hr1⟩
        case new idx =>
          have := hlen' 2 rfl; subst this
          have hkd : jw_kdok kd cl res.1 = true := k7
          have hex : ∃ r, cl[res.1]? = some r := by
            unfold jw_kdok at hkd
            split at hkd
            · exact ⟨_, by assumption⟩
            · cases hkd
          obtain ⟨⟨C0, T0, N0⟩, hc0⟩ := hex
          unfold jw_step at hs
          dsimp only at hs
          refine jo_new (lim := (h0.1.length + mc, jw_sz h0.1 + ms)) hx hb hown hts hclT hc0 (fun w hw => hTs w (k5 w ?_)) hkd hdg hK0 hP hD hS hA hfut' hlim' hs (fun a h' H' locs' k n9 hk z1 z2 z3 z4 z5 hP1 hD1 hS1 => ih _ L _ h' H' locs' (cells + k) (slots + n9) ls hk hn hl (by omega) (by omega) (by omega) z4 z5 hP1 hD1 hS1)
          unfold jw_wc jw_wcN
          dsimp only
          rw [hc0]
          exact hw
        case newarray a =>
          have := hlen' 1 rfl; subst this
          obtain ⟨x, r, rfl, hx0, hs⟩ := jw_i1_ok hs
          have ht : (newarray.typeOf a = .int ∧ res.1 = 0) ∨ (newarray.typeOf a = .long ∧ res.1 = 1) := by
            unfold jw_fc jw_fcN at k7
            dsimp only at k7
            split at k7
            · exact Or.inl ⟨by assumption, by simpa using k7⟩
            · exact Or.inr ⟨by assumption, by simpa using k7⟩
            · cases k7
          exact jo_newa hx hb hts (hTs _ (k5 _ (List.mem_singleton.mpr rfl))) ht hdg hK0 hP hD hS hA hfut' hlim' hx0 hs (fun a h' H' locs' k n9 hk z1 z2 z3 z4 z5 hP1 hD1 hS1 => ih _ L _ h' H' locs' (cells + k) (slots + n9) ls hk hn hl (by omega) (by omega) (by omega) z4 z5 hP1 hD1 hS1)
        case anewarray idx =>
          have := hlen' 2 rfl; subst this
          obtain ⟨x, r, rfl, hx0, hs⟩ := jw_i1_ok hs
          have k7 : (res.1 == 2 || res.1 == 3) = true := k7
          simp only [Bool.or_eq_true, beq_iff_eq] at k7
          dsimp only at hs
          rcases k7 with k7 | k7
          · rw [k7] at hs
            exact jo_anew (t := 0) (C0 := "ShadowSchool$Progress") hx hb hown hts (hTs _ (k5 _ (by unfold jw_wc jw_wcN; dsimp only; rw [k7]; exact List.mem_singleton.mpr rfl))) hN.2.1 rfl hdg hK0 hP hD hS hA hfut' hlim' hx0 hs (fun a h' H' locs' k n9 hk z1 z2 z3 z4 z5 hP1 hD1 hS1 => ih _ L _ h' H' locs' (cells + k) (slots + n9) ls hk hn hl (by omega) (by omega) (by omega) z4 z5 hP1 hD1 hS1)
          · rw [k7] at hs
            exact jo_anew (t := 1) (C0 := "ShadowSchool$Shade") hx hb hown hts (hTs _ (k5 _ (by unfold jw_wc jw_wcN; dsimp only; rw [k7]; exact List.mem_singleton.mpr rfl))) hN.2.2.1 rfl hdg hK0 hP hD hS hA hfut' hlim' hx0 hs (fun a h' H' locs' k n9 hk z1 z2 z3 z4 z5 hP1 hD1 hS1 => ih _ L _ h' H' locs' (cells + k) (slots + n9) ls hk hn hl (by omega) (by omega) (by omega) z4 z5 hP1 hD1 hS1)
        case multianewarray idx dim =>
          have := hlen' 3 rfl; subst this
          have k7 : (dim == 2) = true := k7
          have k7 : dim = 2 := by simpa using k7
          subst k7
          unfold jw_step at hs
          dsimp only at hs
          split at hs
          · rename_i k9 n9 r
            exact jo_mna (lim := (h0.1.length + mc, jw_sz h0.1 + ms)) hx hb hown hts (hTs _ (k5 _ (by simp [jw_wc, jw_wcN]))) (hTs _ (k5 _ (by simp [jw_wc, jw_wcN]))) (over_moved (Vm.Alike.refl s.vm) hN.2.2.2) hdg hK0 hP hD hS hA hfut' hlim' hs.1 hs.2.1 hs.2.2 (fun a h' H' locs' k n9 hk z1 z2 z3 z4 z5 hP1 hD1 hS1 => ih _ L _ h' H' locs' (cells + k) (slots + n9) ls hk hn hl (by omega) (by omega) (by omega) z4 z5 hP1 hD1 hS1)
          · exact hs.elim
      · cases ins <;> first | (exact absurd rfl hS1) | (exact absurd rfl hH1) | (exact absurd rfl hC1) | (exact hs.elim) | skip
        case ireturn =>
          have := hlen' 0 rfl; subst this
          unfold jw_step at hs
          dsimp only at hs
          split at hs
          · rename_i x
            have hn1 : ∃ ty, ret = some ty ∧ narrow ty (.int x) = .int x ∧ Q (some (.int x)) h ∧ h.1.length = h0.1.length + mc ∧ jw_sz h.1 = jw_sz h0.1 + ms := by
              unfold jw_ok at hs
              split at hs
              · exact ⟨.int, rfl, rfl, hs⟩
              · exact ⟨.boolean, rfl, by rcases hs.1 with h9 | h9 <;> rw [h9] <;> rfl, hs.2⟩
              · exact hs.elim
            obtain ⟨ty, t1, t2, t3, t4, t5⟩ := hn1
            have e1 : cells = mc := by omega
            have e2 : slots = ms := by omega
            subst e1; subst e2
            exact W.zret hx hb (hr.trans t1) t2 (fun t ht hW => hfin t (some (.int x)) ht t3 t4 t5) hS.2.2 hdg hlocks
          · exact hs.elim
        case lreturn =>
          have := hlen' 0 rfl; subst this
          unfold jw_step at hs
          dsimp only at hs
          split at hs
          · rename_i x
            obtain ⟨t1, t3, t4, t5⟩ := jw_bif hs
            have e1 : cells = mc := by omega
            have e2 : slots = ms := by omega
            subst e1; subst e2
            exact W.lret hx hb (hr.trans (by simpa using t1)) (fun t ht hW => hfin t (some (.long x)) ht t3 t4 t5) hS.2.2 hdg hlocks
          · exact hs.elim
        case areturn =>
          have := hlen' 0 rfl; subst this
          unfold jw_step at hs
          dsimp only at hs
          split at hs
          · rename_i x
            split at hs
            · obtain ⟨t3, t4, t5⟩ := hs
              have e1 : cells = mc := by omega
              have e2 : slots = ms := by omega
              subst e1; subst e2
              exact W.aret hx hb hr (Or.inl ⟨_, rfl⟩) (Or.inr ⟨_, rfl⟩) (fun t ht hW => hfin t (some (.ref x)) ht t3 t4 t5) hS.2.2 hdg hlocks
            · exact hs.elim
          · exact hs.elim
        case return_ =>
          have := hlen' 0 rfl; subst this
          unfold jw_step at hs
          dsimp only at hs
          split at hs
          · obtain ⟨t1, t3, t4, t5⟩ := jw_bif hs
            have e1 : cells = mc := by omega
            have e2 : slots = ms := by omega
            subst e1; subst e2
            exact W.vret hx hb (hr.trans (by simpa using t1)) (fun t ht hW => hfin t none ht t3 t4 t5) hS.2.2 hdg hlocks
          · exact hs.elim
end JWZ
/-! the entry -/
theorem jw_entry_args {α : Nat → Nat} : ∀ (as : List Value) (k : Nat), jw_nod as = true → jw_asc α k (jw_args as) = lv_args k (as.map (jw_ad α)) ∧ (lg_sl (as.map (jw_ad α))).length = (jw_args as).length
  | [], k, _ => ⟨rfl, rfl⟩
  | v :: as, k, h => by
    cases v <;> first | (exact Bool.noConfusion h) | skip
    all_goals (obtain ⟨h1, h2⟩ := jw_entry_args (α := α) as (k + 1) h; obtain ⟨h3, h4⟩ := jw_entry_args (α := α) as (k + 2) h)
    all_goals (refine ⟨?_, ?_⟩)
    all_goals first | (simp [jw_args, jw_asc, lv_args, jw_ad, Value.category, h1, h3]; done) | (simp [jw_args, lg_sl, jw_ad, Value.category] at h2 ⊢; omega)
theorem jw_asc_rep {α : Nat → Nat} : ∀ (n k : Nat), jw_asc α k (List.replicate n none) = []
  | 0, _ => rfl
  | n + 1, k => by rw [List.replicate_succ, jw_asc, jw_asc_rep]
theorem jw_asc_app {α : Nat → Nat} : ∀ (L L' : jw_L) (k : Nat), jw_asc α k (L ++ L') = jw_asc α k L ++ jw_asc α (k + L.length) L'
  | [], L', k => by simp [jw_asc]
  | none :: L, L', k => by simp [jw_asc, jw_asc_app L L' (k + 1)]; congr 1; omega
  | some v :: L, L', k => by simp [jw_asc, jw_asc_app L L' (k + 1)]; congr 1; omega
/-- what must hold of the program's tables -/
def jw_prog (l : Launch) (kd : Nat → List jw_K) (cl : List vw_C) (ys : List jw_Y) (Tg Ns : List Cond) : Prop := (∀ w ∈ Tg, goodWord w = true) ∧ jw_nsok Ns ∧ jw_clok cl Tg ∧ jw_asg cl Ns ∧ jw_strok l Tg ∧ ys.length ≤ 100000 ∧ ∀ y ∈ ys, plainName y.1.cls = true ∧ ∀ q ∈ y.2.2.2.2.2, jw_okI y.1.cls y.1.name kd cl ys Tg Ns y.2.1 q
set_option maxHeartbeats 1000000 in
/-- THE ABSTRACT MACHINE IS THE MACHINE -/
theorem jw_sound {l : Launch} {D : va_G} {cl : List vw_C} {cy : Nat → ClassId} {α : Nat → Nat} {kd : Nat → List jw_K} {ys : List jw_Y} {Tg Ns : List Cond} (hp : jw_prog l kd cl ys Tg Ns) : ∀ (d mid : Nat) (as : List Value) (h : jw_H) (Q : jw_Q), jw_C kd ys d mid as h Q → ∀ y, ys[mid]? = some y → jw_met l D cl cy α Ns Tg d y as h Q := by
  obtain ⟨hgood, hns, hcl, hasg, hstr, hysl, hys⟩ := hp
  intro d
  induction d with
  | zero => intro mid as h Q hC; exact hC.elim
  | succ d ih =>
    intro mid as h Q hC y hy sz hfut
    rw [jw_C, hy] at hC
    dsimp only at hC
    obtain ⟨hc1, n, hwp⟩ := jw_bif hC
    simp only [Bool.and_eq_true, Nat.ble_eq] at hc1
    obtain ⟨hpl, hq⟩ := hys y (List.mem_of_getElem? hy)
    refine Met.ofW (cc := y.2.1) (maxL := y.2.2.1) (ret := y.2.2.2.1) hpl rfl ?_
    intro p e s m args below meth c s₁ B hml hv
    obtain ⟨rfl, hsz, hP, hK, hD0, hX, hN⟩ := hv
    subst hsz
    have hts := atoms_spec (ws := Cond.code y.1 y.2.1 y.2.2.1 y.2.2.2.1 :: Tg) B.pre
    have hown : s.vm.findClass y.1.cls = some m.cls := findClass_of_methodNamed B.named
    have hnm : meth.name = y.1.name := (name_of_methodNamed B.named B.method).1
    obtain ⟨ea, el⟩ := jw_entry_args (α := α) as 0 hc1.2
    have hl := lv_entry (as.map (jw_ad α)) (n := y.2.2.1) (by rw [el]; exact hc1.1)
    rw [lg_entry_eq]
    have hl2 : lv_has ((lg_sl (as.map (jw_ad α)) ++ List.replicate (y.2.2.1 - (lg_sl (as.map (jw_ad α))).length) Slot.unset).toArray) y.2.2.1 (jw_asc α 0 (jw_entry as y.2.2.1)) := by
      unfold jw_entry
      rw [jw_asc_app, jw_asc_rep, List.append_nil, ea]
      exact hl
    have := jw_sound_wp (e := e) (R := (headSpec (Cond.code y.1 y.2.1 y.2.2.1 y.2.2.2.1 :: Tg) (jw_rm (d + 1) y.2.2.2.2.1.1 y.2.2.2.2.1.2)).room) (Ts := Cond.code y.1 y.2.1 y.2.2.1 y.2.2.2.1 :: Tg) (cs := y.2.2.2.2.2) (d := d) (mc := y.2.2.2.2.1.1) (ms := y.2.2.2.2.1.2) (Q := Q) (h0 := h) (below := below) (args := ((as.map (jw_ad α)).toArray)) B.exec B.bytes hml B.returns B.notSynchronized hown hnm hts (fun w hw => List.mem_cons_of_mem _ hw) hgood hns hcl hasg hstr hysl hq (Nat.le_refl _) (by show 200 * d + 200 ≤ 200 * (d + 1); omega) rfl rfl hK hX hN (fun q hq => Or.inr hq) rfl hfut (fun mid as h Q hC y hy => ih mid as h Q hC y hy) n 0 (jw_entry as y.2.2.1) [] h s.heap [] 0 0 _ hwp (by unfold jw_entry; simp; omega) hl2 (by omega) (by omega) (by omega) (by omega) (by omega) hP hD0.self va_S.rf
    exact this
end
