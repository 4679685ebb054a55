section
-- ===== PART A: goes FIRST, ahead of the names: the tables' words, and 'selects' of the private methods out of them =====
/-- a private method of a class that the tables say can be made, by its rows of tables_1 -/
def lw_okq (q : MethodName × Nat) : Prop := (q.1.cls ≠ "java/lang/invoke/MethodHandle" ∧ q.1.cls ≠ "java/lang/invoke/VarHandle") ∧ Cond.instantiable q.1.cls q.2 ∈ tables_1 ∧ Cond.privateMethod q.1 ∈ tables_1 ∧ Cond.instanceMethod q.1 ∈ tables_1
theorem lw_p0 : lw_okq (⟨"ShadowSchool$School", "openTo", "(LShadowSchool$Progress;II)I"⟩, 19) := ⟨⟨by decide +kernel, by decide +kernel⟩, List.mem_of_getElem? (i := 32) (by decide +kernel), List.mem_of_getElem? (i := 456) (by decide +kernel), List.mem_of_getElem? (i := 457) (by decide +kernel)⟩
theorem lw_p1 : lw_okq (⟨"ShadowSchool$School", "deedOf", "(LShadowSchool$Progress;I)I"⟩, 19) := ⟨⟨by decide +kernel, by decide +kernel⟩, List.mem_of_getElem? (i := 32) (by decide +kernel), List.mem_of_getElem? (i := 460) (by decide +kernel), List.mem_of_getElem? (i := 461) (by decide +kernel)⟩
theorem lw_p2 : lw_okq (⟨"ShadowSchool$Rules", "holds", "(II)Z"⟩, 10) := ⟨⟨by decide +kernel, by decide +kernel⟩, List.mem_of_getElem? (i := 40) (by decide +kernel), List.mem_of_getElem? (i := 478) (by decide +kernel), List.mem_of_getElem? (i := 479) (by decide +kernel)⟩
theorem lw_p3 : lw_okq (⟨"ShadowSchool$School", "easiest", "(LShadowSchool$Progress;II)I"⟩, 19) := ⟨⟨by decide +kernel, by decide +kernel⟩, List.mem_of_getElem? (i := 32) (by decide +kernel), List.mem_of_getElem? (i := 489) (by decide +kernel), List.mem_of_getElem? (i := 490) (by decide +kernel)⟩
theorem lw_p4 : lw_okq (⟨"ShadowSchool$Reader", "cutIntoTokens", "()V"⟩, 6) := ⟨⟨by decide +kernel, by decide +kernel⟩, List.mem_of_getElem? (i := 236) (by decide +kernel), List.mem_of_getElem? (i := 599) (by decide +kernel), List.mem_of_getElem? (i := 600) (by decide +kernel)⟩
theorem lw_p5 : lw_okq (⟨"ShadowSchool$Reader", "sortOf", "(I)I"⟩, 6) := ⟨⟨by decide +kernel, by decide +kernel⟩, List.mem_of_getElem? (i := 236) (by decide +kernel), List.mem_of_getElem? (i := 603) (by decide +kernel), List.mem_of_getElem? (i := 604) (by decide +kernel)⟩
theorem lw_p6 : lw_okq (⟨"ShadowSchool$Reader", "tokenAt", "(II)I"⟩, 6) := ⟨⟨by decide +kernel, by decide +kernel⟩, List.mem_of_getElem? (i := 236) (by decide +kernel), List.mem_of_getElem? (i := 607) (by decide +kernel), List.mem_of_getElem? (i := 608) (by decide +kernel)⟩
theorem lw_p7 : lw_okq (⟨"ShadowSchool$Reader", "signAt", "(I)I"⟩, 6) := ⟨⟨by decide +kernel, by decide +kernel⟩, List.mem_of_getElem? (i := 236) (by decide +kernel), List.mem_of_getElem? (i := 611) (by decide +kernel), List.mem_of_getElem? (i := 612) (by decide +kernel)⟩
theorem lw_p8 : lw_okq (⟨"ShadowSchool$Reader", "nameAt", "(II)I"⟩, 6) := ⟨⟨by decide +kernel, by decide +kernel⟩, List.mem_of_getElem? (i := 236) (by decide +kernel), List.mem_of_getElem? (i := 615) (by decide +kernel), List.mem_of_getElem? (i := 616) (by decide +kernel)⟩
theorem lw_p9 : lw_okq (⟨"ShadowSchool$Reader", "isNameAt", "(III)Z"⟩, 6) := ⟨⟨by decide +kernel, by decide +kernel⟩, List.mem_of_getElem? (i := 236) (by decide +kernel), List.mem_of_getElem? (i := 668) (by decide +kernel), List.mem_of_getElem? (i := 669) (by decide +kernel)⟩
theorem lw_p10 : lw_okq (⟨"ShadowSchool$Reader", "numberAt", "(II)I"⟩, 6) := ⟨⟨by decide +kernel, by decide +kernel⟩, List.mem_of_getElem? (i := 236) (by decide +kernel), List.mem_of_getElem? (i := 672) (by decide +kernel), List.mem_of_getElem? (i := 673) (by decide +kernel)⟩
theorem lw_p11 : lw_okq (⟨"ShadowSchool$Reader", "readRule", "()Z"⟩, 6) := ⟨⟨by decide +kernel, by decide +kernel⟩, List.mem_of_getElem? (i := 236) (by decide +kernel), List.mem_of_getElem? (i := 680) (by decide +kernel), List.mem_of_getElem? (i := 681) (by decide +kernel)⟩
theorem lw_p12 : lw_okq (⟨"ShadowSchool$Reader", "goOn", "()V"⟩, 6) := ⟨⟨by decide +kernel, by decide +kernel⟩, List.mem_of_getElem? (i := 236) (by decide +kernel), List.mem_of_getElem? (i := 685) (by decide +kernel), List.mem_of_getElem? (i := 686) (by decide +kernel)⟩
theorem lw_p13 : lw_okq (⟨"ShadowSchool$Reader", "readCondition", "(I)Z"⟩, 6) := ⟨⟨by decide +kernel, by decide +kernel⟩, List.mem_of_getElem? (i := 236) (by decide +kernel), List.mem_of_getElem? (i := 689) (by decide +kernel), List.mem_of_getElem? (i := 690) (by decide +kernel)⟩
theorem lw_p14 : lw_okq (⟨"ShadowSchool$Reader", "readOne", "(I)Z"⟩, 6) := ⟨⟨by decide +kernel, by decide +kernel⟩, List.mem_of_getElem? (i := 236) (by decide +kernel), List.mem_of_getElem? (i := 693) (by decide +kernel), List.mem_of_getElem? (i := 694) (by decide +kernel)⟩
theorem lw_p15 : lw_okq (⟨"ShadowSchool$Reader", "readWithin", "(I)Z"⟩, 6) := ⟨⟨by decide +kernel, by decide +kernel⟩, List.mem_of_getElem? (i := 236) (by decide +kernel), List.mem_of_getElem? (i := 697) (by decide +kernel), List.mem_of_getElem? (i := 698) (by decide +kernel)⟩
def lw_privs_1 : List (MethodName × Nat) := [(⟨"ShadowSchool$School", "openTo", "(LShadowSchool$Progress;II)I"⟩, 19), (⟨"ShadowSchool$School", "deedOf", "(LShadowSchool$Progress;I)I"⟩, 19), (⟨"ShadowSchool$Rules", "holds", "(II)Z"⟩, 10), (⟨"ShadowSchool$School", "easiest", "(LShadowSchool$Progress;II)I"⟩, 19), (⟨"ShadowSchool$Reader", "cutIntoTokens", "()V"⟩, 6), (⟨"ShadowSchool$Reader", "sortOf", "(I)I"⟩, 6), (⟨"ShadowSchool$Reader", "tokenAt", "(II)I"⟩, 6), (⟨"ShadowSchool$Reader", "signAt", "(I)I"⟩, 6), (⟨"ShadowSchool$Reader", "nameAt", "(II)I"⟩, 6), (⟨"ShadowSchool$Reader", "isNameAt", "(III)Z"⟩, 6), (⟨"ShadowSchool$Reader", "numberAt", "(II)I"⟩, 6), (⟨"ShadowSchool$Reader", "readRule", "()Z"⟩, 6), (⟨"ShadowSchool$Reader", "goOn", "()V"⟩, 6), (⟨"ShadowSchool$Reader", "readCondition", "(I)Z"⟩, 6), (⟨"ShadowSchool$Reader", "readOne", "(I)Z"⟩, 6), (⟨"ShadowSchool$Reader", "readWithin", "(I)Z"⟩, 6)]
theorem lw_r1 : ∀ q ∈ lw_privs_1, lw_okq q := List.forall_mem_cons.mpr ⟨lw_p0, List.forall_mem_cons.mpr ⟨lw_p1, List.forall_mem_cons.mpr ⟨lw_p2, List.forall_mem_cons.mpr ⟨lw_p3, List.forall_mem_cons.mpr ⟨lw_p4, List.forall_mem_cons.mpr ⟨lw_p5, List.forall_mem_cons.mpr ⟨lw_p6, List.forall_mem_cons.mpr ⟨lw_p7, List.forall_mem_cons.mpr ⟨lw_p8, List.forall_mem_cons.mpr ⟨lw_p9, List.forall_mem_cons.mpr ⟨lw_p10, List.forall_mem_cons.mpr ⟨lw_p11, List.forall_mem_cons.mpr ⟨lw_p12, List.forall_mem_cons.mpr ⟨lw_p13, List.forall_mem_cons.mpr ⟨lw_p14, List.forall_mem_cons.mpr ⟨lw_p15, fun _ h => absurd h List.not_mem_nil⟩⟩⟩⟩⟩⟩⟩⟩⟩⟩⟩⟩⟩⟩⟩⟩
theorem lw_p16 : lw_okq (⟨"ShadowSchool$Reader", "readSign", "(I)Z"⟩, 6) := ⟨⟨by decide +kernel, by decide +kernel⟩, List.mem_of_getElem? (i := 236) (by decide +kernel), List.mem_of_getElem? (i := 701) (by decide +kernel), List.mem_of_getElem? (i := 702) (by decide +kernel)⟩
theorem lw_p17 : lw_okq (⟨"ShadowSchool$Reader", "readComparison", "()Z"⟩, 6) := ⟨⟨by decide +kernel, by decide +kernel⟩, List.mem_of_getElem? (i := 236) (by decide +kernel), List.mem_of_getElem? (i := 705) (by decide +kernel), List.mem_of_getElem? (i := 706) (by decide +kernel)⟩
theorem lw_p18 : lw_okq (⟨"ShadowSchool$Reader", "isValue", "(I)Z"⟩, 6) := ⟨⟨by decide +kernel, by decide +kernel⟩, List.mem_of_getElem? (i := 236) (by decide +kernel), List.mem_of_getElem? (i := 709) (by decide +kernel), List.mem_of_getElem? (i := 710) (by decide +kernel)⟩
theorem lw_p19 : lw_okq (⟨"ShadowSchool$Reader", "placeOfValue", "(I)I"⟩, 6) := ⟨⟨by decide +kernel, by decide +kernel⟩, List.mem_of_getElem? (i := 236) (by decide +kernel), List.mem_of_getElem? (i := 713) (by decide +kernel), List.mem_of_getElem? (i := 714) (by decide +kernel)⟩
theorem lw_p20 : lw_okq (⟨"ShadowSchool", "worthOfRest", "(I)I"⟩, 8) := ⟨⟨by decide +kernel, by decide +kernel⟩, List.mem_of_getElem? (i := 24) (by decide +kernel), List.mem_of_getElem? (i := 766) (by decide +kernel), List.mem_of_getElem? (i := 767) (by decide +kernel)⟩
theorem lw_p21 : lw_okq (⟨"ShadowSchool", "worthiest", "([III)I"⟩, 8) := ⟨⟨by decide +kernel, by decide +kernel⟩, List.mem_of_getElem? (i := 24) (by decide +kernel), List.mem_of_getElem? (i := 799) (by decide +kernel), List.mem_of_getElem? (i := 800) (by decide +kernel)⟩
theorem lw_p22 : lw_okq (⟨"ShadowSchool", "fewestRooms", "()I"⟩, 8) := ⟨⟨by decide +kernel, by decide +kernel⟩, List.mem_of_getElem? (i := 24) (by decide +kernel), List.mem_of_getElem? (i := 827) (by decide +kernel), List.mem_of_getElem? (i := 828) (by decide +kernel)⟩
theorem lw_p23 : lw_okq (⟨"ShadowSchool", "findSeats", "(II)Z"⟩, 8) := ⟨⟨by decide +kernel, by decide +kernel⟩, List.mem_of_getElem? (i := 24) (by decide +kernel), List.mem_of_getElem? (i := 831) (by decide +kernel), List.mem_of_getElem? (i := 832) (by decide +kernel)⟩
theorem lw_p24 : lw_okq (⟨"ShadowSchool", "mayTake", "(II)Z"⟩, 8) := ⟨⟨by decide +kernel, by decide +kernel⟩, List.mem_of_getElem? (i := 24) (by decide +kernel), List.mem_of_getElem? (i := 835) (by decide +kernel), List.mem_of_getElem? (i := 836) (by decide +kernel)⟩
theorem lw_p25 : lw_okq (⟨"ShadowSchool", "countSeatings", "(II)I"⟩, 8) := ⟨⟨by decide +kernel, by decide +kernel⟩, List.mem_of_getElem? (i := 24) (by decide +kernel), List.mem_of_getElem? (i := 847) (by decide +kernel), List.mem_of_getElem? (i := 848) (by decide +kernel)⟩
theorem lw_p26 : lw_okq (⟨"ShadowSchool", "countGifts", "(IIIII)I"⟩, 8) := ⟨⟨by decide +kernel, by decide +kernel⟩, List.mem_of_getElem? (i := 24) (by decide +kernel), List.mem_of_getElem? (i := 867) (by decide +kernel), List.mem_of_getElem? (i := 868) (by decide +kernel)⟩
theorem lw_p27 : lw_okq (⟨"ShadowSchool$Plans", "walk", "(LShadowSchool$School;III)V"⟩, 12) := ⟨⟨by decide +kernel, by decide +kernel⟩, List.mem_of_getElem? (i := 265) (by decide +kernel), List.mem_of_getElem? (i := 886) (by decide +kernel), List.mem_of_getElem? (i := 887) (by decide +kernel)⟩
theorem lw_p28 : lw_okq (⟨"ShadowSchool$Plans", "weigh", "(III)V"⟩, 12) := ⟨⟨by decide +kernel, by decide +kernel⟩, List.mem_of_getElem? (i := 265) (by decide +kernel), List.mem_of_getElem? (i := 894) (by decide +kernel), List.mem_of_getElem? (i := 895) (by decide +kernel)⟩
theorem lw_p29 : lw_okq (⟨"ShadowSchool$Plans", "valueFrom", "(LShadowSchool$School;II)I"⟩, 12) := ⟨⟨by decide +kernel, by decide +kernel⟩, List.mem_of_getElem? (i := 265) (by decide +kernel), List.mem_of_getElem? (i := 930) (by decide +kernel), List.mem_of_getElem? (i := 931) (by decide +kernel)⟩
theorem lw_p30 : lw_okq (⟨"ShadowSchool$School", "fits", "(II)Z"⟩, 19) := ⟨⟨by decide +kernel, by decide +kernel⟩, List.mem_of_getElem? (i := 32) (by decide +kernel), List.mem_of_getElem? (i := 959) (by decide +kernel), List.mem_of_getElem? (i := 960) (by decide +kernel)⟩
theorem lw_p31 : lw_okq (⟨"ShadowSchool$Host", "actOf", "(LShadowSchool$Shade;II)I"⟩, 11) := ⟨⟨by decide +kernel, by decide +kernel⟩, List.mem_of_getElem? (i := 321) (by decide +kernel), List.mem_of_getElem? (i := 1088) (by decide +kernel), List.mem_of_getElem? (i := 1089) (by decide +kernel)⟩
def lw_privs_2 : List (MethodName × Nat) := [(⟨"ShadowSchool$Reader", "readSign", "(I)Z"⟩, 6), (⟨"ShadowSchool$Reader", "readComparison", "()Z"⟩, 6), (⟨"ShadowSchool$Reader", "isValue", "(I)Z"⟩, 6), (⟨"ShadowSchool$Reader", "placeOfValue", "(I)I"⟩, 6), (⟨"ShadowSchool", "worthOfRest", "(I)I"⟩, 8), (⟨"ShadowSchool", "worthiest", "([III)I"⟩, 8), (⟨"ShadowSchool", "fewestRooms", "()I"⟩, 8), (⟨"ShadowSchool", "findSeats", "(II)Z"⟩, 8), (⟨"ShadowSchool", "mayTake", "(II)Z"⟩, 8), (⟨"ShadowSchool", "countSeatings", "(II)I"⟩, 8), (⟨"ShadowSchool", "countGifts", "(IIIII)I"⟩, 8), (⟨"ShadowSchool$Plans", "walk", "(LShadowSchool$School;III)V"⟩, 12), (⟨"ShadowSchool$Plans", "weigh", "(III)V"⟩, 12), (⟨"ShadowSchool$Plans", "valueFrom", "(LShadowSchool$School;II)I"⟩, 12), (⟨"ShadowSchool$School", "fits", "(II)Z"⟩, 19), (⟨"ShadowSchool$Host", "actOf", "(LShadowSchool$Shade;II)I"⟩, 11)]
theorem lw_r2 : ∀ q ∈ lw_privs_2, lw_okq q := List.forall_mem_cons.mpr ⟨lw_p16, List.forall_mem_cons.mpr ⟨lw_p17, List.forall_mem_cons.mpr ⟨lw_p18, List.forall_mem_cons.mpr ⟨lw_p19, List.forall_mem_cons.mpr ⟨lw_p20, List.forall_mem_cons.mpr ⟨lw_p21, List.forall_mem_cons.mpr ⟨lw_p22, List.forall_mem_cons.mpr ⟨lw_p23, List.forall_mem_cons.mpr ⟨lw_p24, List.forall_mem_cons.mpr ⟨lw_p25, List.forall_mem_cons.mpr ⟨lw_p26, List.forall_mem_cons.mpr ⟨lw_p27, List.forall_mem_cons.mpr ⟨lw_p28, List.forall_mem_cons.mpr ⟨lw_p29, List.forall_mem_cons.mpr ⟨lw_p30, List.forall_mem_cons.mpr ⟨lw_p31, fun _ h => absurd h List.not_mem_nil⟩⟩⟩⟩⟩⟩⟩⟩⟩⟩⟩⟩⟩⟩⟩⟩
theorem lw_p32 : lw_okq (⟨"ShadowSchoolModel", "isShadow", "(I)Z"⟩, 42) := ⟨⟨by decide +kernel, by decide +kernel⟩, List.mem_of_getElem? (i := 1208) (by decide +kernel), List.mem_of_getElem? (i := 1353) (by decide +kernel), List.mem_of_getElem? (i := 1354) (by decide +kernel)⟩
theorem lw_p33 : lw_okq (⟨"ShadowSchoolModel", "of", "(II)I"⟩, 42) := ⟨⟨by decide +kernel, by decide +kernel⟩, List.mem_of_getElem? (i := 1208) (by decide +kernel), List.mem_of_getElem? (i := 1360) (by decide +kernel), List.mem_of_getElem? (i := 1361) (by decide +kernel)⟩
theorem lw_p34 : lw_okq (⟨"ShadowSchoolModel", "emptySeats", "()V"⟩, 42) := ⟨⟨by decide +kernel, by decide +kernel⟩, List.mem_of_getElem? (i := 1208) (by decide +kernel), List.mem_of_getElem? (i := 1367) (by decide +kernel), List.mem_of_getElem? (i := 1368) (by decide +kernel)⟩
theorem lw_p35 : lw_okq (⟨"ShadowSchoolModel", "choiceOf", "(I)I"⟩, 42) := ⟨⟨by decide +kernel, by decide +kernel⟩, List.mem_of_getElem? (i := 1208) (by decide +kernel), List.mem_of_getElem? (i := 1371) (by decide +kernel), List.mem_of_getElem? (i := 1372) (by decide +kernel)⟩
theorem lw_p36 : lw_okq (⟨"ShadowSchoolModel", "ruleFor", "(I)I"⟩, 42) := ⟨⟨by decide +kernel, by decide +kernel⟩, List.mem_of_getElem? (i := 1208) (by decide +kernel), List.mem_of_getElem? (i := 1375) (by decide +kernel), List.mem_of_getElem? (i := 1376) (by decide +kernel)⟩
theorem lw_p37 : lw_okq (⟨"ShadowSchoolModel", "holds", "(II)Z"⟩, 42) := ⟨⟨by decide +kernel, by decide +kernel⟩, List.mem_of_getElem? (i := 1208) (by decide +kernel), List.mem_of_getElem? (i := 1382) (by decide +kernel), List.mem_of_getElem? (i := 1383) (by decide +kernel)⟩
theorem lw_p38 : lw_okq (⟨"ShadowSchoolModel", "factOf", "(II)I"⟩, 42) := ⟨⟨by decide +kernel, by decide +kernel⟩, List.mem_of_getElem? (i := 1208) (by decide +kernel), List.mem_of_getElem? (i := 1386) (by decide +kernel), List.mem_of_getElem? (i := 1387) (by decide +kernel)⟩
theorem lw_p39 : lw_okq (⟨"ShadowSchoolModel", "isOpen", "(II)Z"⟩, 42) := ⟨⟨by decide +kernel, by decide +kernel⟩, List.mem_of_getElem? (i := 1208) (by decide +kernel), List.mem_of_getElem? (i := 1396) (by decide +kernel), List.mem_of_getElem? (i := 1397) (by decide +kernel)⟩
theorem lw_p40 : lw_okq (⟨"ShadowSchoolModel", "lessonNumber", "(II)I"⟩, 42) := ⟨⟨by decide +kernel, by decide +kernel⟩, List.mem_of_getElem? (i := 1208) (by decide +kernel), List.mem_of_getElem? (i := 1400) (by decide +kernel), List.mem_of_getElem? (i := 1401) (by decide +kernel)⟩
theorem lw_p41 : lw_okq (⟨"ShadowSchoolModel", "hasLearnt", "(II)Z"⟩, 42) := ⟨⟨by decide +kernel, by decide +kernel⟩, List.mem_of_getElem? (i := 1208) (by decide +kernel), List.mem_of_getElem? (i := 1404) (by decide +kernel), List.mem_of_getElem? (i := 1405) (by decide +kernel)⟩
theorem lw_p42 : lw_okq (⟨"ShadowSchoolModel", "lacks", "(II)I"⟩, 42) := ⟨⟨by decide +kernel, by decide +kernel⟩, List.mem_of_getElem? (i := 1208) (by decide +kernel), List.mem_of_getElem? (i := 1408) (by decide +kernel), List.mem_of_getElem? (i := 1409) (by decide +kernel)⟩
theorem lw_p43 : lw_okq (⟨"ShadowSchoolModel", "pointsOf", "(II)I"⟩, 42) := ⟨⟨by decide +kernel, by decide +kernel⟩, List.mem_of_getElem? (i := 1208) (by decide +kernel), List.mem_of_getElem? (i := 1412) (by decide +kernel), List.mem_of_getElem? (i := 1413) (by decide +kernel)⟩
theorem lw_p44 : lw_okq (⟨"ShadowSchoolModel", "becomes", "(II)I"⟩, 42) := ⟨⟨by decide +kernel, by decide +kernel⟩, List.mem_of_getElem? (i := 1208) (by decide +kernel), List.mem_of_getElem? (i := 1426) (by decide +kernel), List.mem_of_getElem? (i := 1427) (by decide +kernel)⟩
theorem lw_p45 : lw_okq (⟨"ShadowSchoolModel", "isLesson", "(I)Z"⟩, 42) := ⟨⟨by decide +kernel, by decide +kernel⟩, List.mem_of_getElem? (i := 1208) (by decide +kernel), List.mem_of_getElem? (i := 1442) (by decide +kernel), List.mem_of_getElem? (i := 1443) (by decide +kernel)⟩
theorem lw_p46 : lw_okq (⟨"ShadowSchoolModel", "learntBy", "(I)I"⟩, 42) := ⟨⟨by decide +kernel, by decide +kernel⟩, List.mem_of_getElem? (i := 1208) (by decide +kernel), List.mem_of_getElem? (i := 1446) (by decide +kernel), List.mem_of_getElem? (i := 1447) (by decide +kernel)⟩
theorem lw_p47 : lw_okq (⟨"ShadowSchoolModel", "isOver", "()Z"⟩, 42) := ⟨⟨by decide +kernel, by decide +kernel⟩, List.mem_of_getElem? (i := 1208) (by decide +kernel), List.mem_of_getElem? (i := 1466) (by decide +kernel), List.mem_of_getElem? (i := 1467) (by decide +kernel)⟩
def lw_privs_3 : List (MethodName × Nat) := [(⟨"ShadowSchoolModel", "isShadow", "(I)Z"⟩, 42), (⟨"ShadowSchoolModel", "of", "(II)I"⟩, 42), (⟨"ShadowSchoolModel", "emptySeats", "()V"⟩, 42), (⟨"ShadowSchoolModel", "choiceOf", "(I)I"⟩, 42), (⟨"ShadowSchoolModel", "ruleFor", "(I)I"⟩, 42), (⟨"ShadowSchoolModel", "holds", "(II)Z"⟩, 42), (⟨"ShadowSchoolModel", "factOf", "(II)I"⟩, 42), (⟨"ShadowSchoolModel", "isOpen", "(II)Z"⟩, 42), (⟨"ShadowSchoolModel", "lessonNumber", "(II)I"⟩, 42), (⟨"ShadowSchoolModel", "hasLearnt", "(II)Z"⟩, 42), (⟨"ShadowSchoolModel", "lacks", "(II)I"⟩, 42), (⟨"ShadowSchoolModel", "pointsOf", "(II)I"⟩, 42), (⟨"ShadowSchoolModel", "becomes", "(II)I"⟩, 42), (⟨"ShadowSchoolModel", "isLesson", "(I)Z"⟩, 42), (⟨"ShadowSchoolModel", "learntBy", "(I)I"⟩, 42), (⟨"ShadowSchoolModel", "isOver", "()Z"⟩, 42)]
theorem lw_r3 : ∀ q ∈ lw_privs_3, lw_okq q := List.forall_mem_cons.mpr ⟨lw_p32, List.forall_mem_cons.mpr ⟨lw_p33, List.forall_mem_cons.mpr ⟨lw_p34, List.forall_mem_cons.mpr ⟨lw_p35, List.forall_mem_cons.mpr ⟨lw_p36, List.forall_mem_cons.mpr ⟨lw_p37, List.forall_mem_cons.mpr ⟨lw_p38, List.forall_mem_cons.mpr ⟨lw_p39, List.forall_mem_cons.mpr ⟨lw_p40, List.forall_mem_cons.mpr ⟨lw_p41, List.forall_mem_cons.mpr ⟨lw_p42, List.forall_mem_cons.mpr ⟨lw_p43, List.forall_mem_cons.mpr ⟨lw_p44, List.forall_mem_cons.mpr ⟨lw_p45, List.forall_mem_cons.mpr ⟨lw_p46, List.forall_mem_cons.mpr ⟨lw_p47, fun _ h => absurd h List.not_mem_nil⟩⟩⟩⟩⟩⟩⟩⟩⟩⟩⟩⟩⟩⟩⟩⟩
theorem lw_p48 : lw_okq (⟨"ShadowSchoolModel", "advance", "()V"⟩, 42) := ⟨⟨by decide +kernel, by decide +kernel⟩, List.mem_of_getElem? (i := 1208) (by decide +kernel), List.mem_of_getElem? (i := 1479) (by decide +kernel), List.mem_of_getElem? (i := 1480) (by decide +kernel)⟩
theorem lw_p49 : lw_okq (⟨"ShadowSchoolModel", "byteAt", "(I)I"⟩, 42) := ⟨⟨by decide +kernel, by decide +kernel⟩, List.mem_of_getElem? (i := 1208) (by decide +kernel), List.mem_of_getElem? (i := 1483) (by decide +kernel), List.mem_of_getElem? (i := 1484) (by decide +kernel)⟩
theorem lw_p50 : lw_okq (⟨"ShadowSchoolModel", "readRule", "(I)V"⟩, 42) := ⟨⟨by decide +kernel, by decide +kernel⟩, List.mem_of_getElem? (i := 1208) (by decide +kernel), List.mem_of_getElem? (i := 1496) (by decide +kernel), List.mem_of_getElem? (i := 1497) (by decide +kernel)⟩
theorem lw_p51 : lw_okq (⟨"ShadowSchoolModel", "kindSeen", "()I"⟩, 42) := ⟨⟨by decide +kernel, by decide +kernel⟩, List.mem_of_getElem? (i := 1208) (by decide +kernel), List.mem_of_getElem? (i := 1500) (by decide +kernel), List.mem_of_getElem? (i := 1501) (by decide +kernel)⟩
theorem lw_p52 : lw_okq (⟨"ShadowSchoolModel", "isWord", "(J)Z"⟩, 42) := ⟨⟨by decide +kernel, by decide +kernel⟩, List.mem_of_getElem? (i := 1208) (by decide +kernel), List.mem_of_getElem? (i := 1505) (by decide +kernel), List.mem_of_getElem? (i := 1506) (by decide +kernel)⟩
theorem lw_p53 : lw_okq (⟨"ShadowSchoolModel", "readCondition", "()V"⟩, 42) := ⟨⟨by decide +kernel, by decide +kernel⟩, List.mem_of_getElem? (i := 1208) (by decide +kernel), List.mem_of_getElem? (i := 1515) (by decide +kernel), List.mem_of_getElem? (i := 1516) (by decide +kernel)⟩
theorem lw_p54 : lw_okq (⟨"ShadowSchoolModel", "readAll", "()V"⟩, 42) := ⟨⟨by decide +kernel, by decide +kernel⟩, List.mem_of_getElem? (i := 1208) (by decide +kernel), List.mem_of_getElem? (i := 1519) (by decide +kernel), List.mem_of_getElem? (i := 1520) (by decide +kernel)⟩
theorem lw_p55 : lw_okq (⟨"ShadowSchoolModel", "readOne", "()V"⟩, 42) := ⟨⟨by decide +kernel, by decide +kernel⟩, List.mem_of_getElem? (i := 1208) (by decide +kernel), List.mem_of_getElem? (i := 1523) (by decide +kernel), List.mem_of_getElem? (i := 1524) (by decide +kernel)⟩
theorem lw_p56 : lw_okq (⟨"ShadowSchoolModel", "isMark", "(I)Z"⟩, 42) := ⟨⟨by decide +kernel, by decide +kernel⟩, List.mem_of_getElem? (i := 1208) (by decide +kernel), List.mem_of_getElem? (i := 1528) (by decide +kernel), List.mem_of_getElem? (i := 1529) (by decide +kernel)⟩
theorem lw_p57 : lw_okq (⟨"ShadowSchoolModel", "readTest", "()V"⟩, 42) := ⟨⟨by decide +kernel, by decide +kernel⟩, List.mem_of_getElem? (i := 1208) (by decide +kernel), List.mem_of_getElem? (i := 1532) (by decide +kernel), List.mem_of_getElem? (i := 1533) (by decide +kernel)⟩
theorem lw_p58 : lw_okq (⟨"ShadowSchoolModel", "readValue", "()V"⟩, 42) := ⟨⟨by decide +kernel, by decide +kernel⟩, List.mem_of_getElem? (i := 1208) (by decide +kernel), List.mem_of_getElem? (i := 1536) (by decide +kernel), List.mem_of_getElem? (i := 1537) (by decide +kernel)⟩
theorem lw_p59 : lw_okq (⟨"ShadowSchoolModel", "factSeen", "()I"⟩, 42) := ⟨⟨by decide +kernel, by decide +kernel⟩, List.mem_of_getElem? (i := 1208) (by decide +kernel), List.mem_of_getElem? (i := 1540) (by decide +kernel), List.mem_of_getElem? (i := 1541) (by decide +kernel)⟩
theorem lw_p60 : lw_okq (⟨"ShadowSchoolModel", "step", "(II)V"⟩, 42) := ⟨⟨by decide +kernel, by decide +kernel⟩, List.mem_of_getElem? (i := 1208) (by decide +kernel), List.mem_of_getElem? (i := 1549) (by decide +kernel), List.mem_of_getElem? (i := 1550) (by decide +kernel)⟩
theorem lw_p61 : lw_okq (⟨"ShadowSchoolModel", "goes", "(I)I"⟩, 42) := ⟨⟨by decide +kernel, by decide +kernel⟩, List.mem_of_getElem? (i := 1208) (by decide +kernel), List.mem_of_getElem? (i := 1562) (by decide +kernel), List.mem_of_getElem? (i := 1563) (by decide +kernel)⟩
theorem lw_p62 : lw_okq (⟨"ShadowSchoolModel", "sits", "(II)I"⟩, 42) := ⟨⟨by decide +kernel, by decide +kernel⟩, List.mem_of_getElem? (i := 1208) (by decide +kernel), List.mem_of_getElem? (i := 1566) (by decide +kernel), List.mem_of_getElem? (i := 1567) (by decide +kernel)⟩
theorem lw_p63 : lw_okq (⟨"ShadowSchoolModel", "restWorth", "(I)I"⟩, 42) := ⟨⟨by decide +kernel, by decide +kernel⟩, List.mem_of_getElem? (i := 1208) (by decide +kernel), List.mem_of_getElem? (i := 1578) (by decide +kernel), List.mem_of_getElem? (i := 1579) (by decide +kernel)⟩
def lw_privs_4 : List (MethodName × Nat) := [(⟨"ShadowSchoolModel", "advance", "()V"⟩, 42), (⟨"ShadowSchoolModel", "byteAt", "(I)I"⟩, 42), (⟨"ShadowSchoolModel", "readRule", "(I)V"⟩, 42), (⟨"ShadowSchoolModel", "kindSeen", "()I"⟩, 42), (⟨"ShadowSchoolModel", "isWord", "(J)Z"⟩, 42), (⟨"ShadowSchoolModel", "readCondition", "()V"⟩, 42), (⟨"ShadowSchoolModel", "readAll", "()V"⟩, 42), (⟨"ShadowSchoolModel", "readOne", "()V"⟩, 42), (⟨"ShadowSchoolModel", "isMark", "(I)Z"⟩, 42), (⟨"ShadowSchoolModel", "readTest", "()V"⟩, 42), (⟨"ShadowSchoolModel", "readValue", "()V"⟩, 42), (⟨"ShadowSchoolModel", "factSeen", "()I"⟩, 42), (⟨"ShadowSchoolModel", "step", "(II)V"⟩, 42), (⟨"ShadowSchoolModel", "goes", "(I)I"⟩, 42), (⟨"ShadowSchoolModel", "sits", "(II)I"⟩, 42), (⟨"ShadowSchoolModel", "restWorth", "(I)I"⟩, 42)]
theorem lw_r4 : ∀ q ∈ lw_privs_4, lw_okq q := List.forall_mem_cons.mpr ⟨lw_p48, List.forall_mem_cons.mpr ⟨lw_p49, List.forall_mem_cons.mpr ⟨lw_p50, List.forall_mem_cons.mpr ⟨lw_p51, List.forall_mem_cons.mpr ⟨lw_p52, List.forall_mem_cons.mpr ⟨lw_p53, List.forall_mem_cons.mpr ⟨lw_p54, List.forall_mem_cons.mpr ⟨lw_p55, List.forall_mem_cons.mpr ⟨lw_p56, List.forall_mem_cons.mpr ⟨lw_p57, List.forall_mem_cons.mpr ⟨lw_p58, List.forall_mem_cons.mpr ⟨lw_p59, List.forall_mem_cons.mpr ⟨lw_p60, List.forall_mem_cons.mpr ⟨lw_p61, List.forall_mem_cons.mpr ⟨lw_p62, List.forall_mem_cons.mpr ⟨lw_p63, fun _ h => absurd h List.not_mem_nil⟩⟩⟩⟩⟩⟩⟩⟩⟩⟩⟩⟩⟩⟩⟩⟩
theorem lw_p64 : lw_okq (⟨"ShadowSchoolModel", "save", "(I)V"⟩, 42) := ⟨⟨by decide +kernel, by decide +kernel⟩, List.mem_of_getElem? (i := 1208) (by decide +kernel), List.mem_of_getElem? (i := 1582) (by decide +kernel), List.mem_of_getElem? (i := 1583) (by decide +kernel)⟩
theorem lw_p65 : lw_okq (⟨"ShadowSchoolModel", "rest", "(I)I"⟩, 42) := ⟨⟨by decide +kernel, by decide +kernel⟩, List.mem_of_getElem? (i := 1208) (by decide +kernel), List.mem_of_getElem? (i := 1586) (by decide +kernel), List.mem_of_getElem? (i := 1587) (by decide +kernel)⟩
theorem lw_p66 : lw_okq (⟨"ShadowSchoolModel", "load", "(I)V"⟩, 42) := ⟨⟨by decide +kernel, by decide +kernel⟩, List.mem_of_getElem? (i := 1208) (by decide +kernel), List.mem_of_getElem? (i := 1590) (by decide +kernel), List.mem_of_getElem? (i := 1591) (by decide +kernel)⟩
theorem lw_p67 : lw_okq (⟨"ShadowSchoolModel", "allLessons", "()I"⟩, 42) := ⟨⟨by decide +kernel, by decide +kernel⟩, List.mem_of_getElem? (i := 1208) (by decide +kernel), List.mem_of_getElem? (i := 1602) (by decide +kernel), List.mem_of_getElem? (i := 1603) (by decide +kernel)⟩
theorem lw_p68 : lw_okq (⟨"ShadowSchoolModel", "dearest", "(II)I"⟩, 42) := ⟨⟨by decide +kernel, by decide +kernel⟩, List.mem_of_getElem? (i := 1208) (by decide +kernel), List.mem_of_getElem? (i := 1614) (by decide +kernel), List.mem_of_getElem? (i := 1615) (by decide +kernel)⟩
theorem lw_p69 : lw_okq (⟨"ShadowSchoolModel", "isFirstSeating", "(I)Z"⟩, 42) := ⟨⟨by decide +kernel, by decide +kernel⟩, List.mem_of_getElem? (i := 1208) (by decide +kernel), List.mem_of_getElem? (i := 1639) (by decide +kernel), List.mem_of_getElem? (i := 1640) (by decide +kernel)⟩
theorem lw_p70 : lw_okq (⟨"ShadowSchoolModel", "allInFirst", "()V"⟩, 42) := ⟨⟨by decide +kernel, by decide +kernel⟩, List.mem_of_getElem? (i := 1208) (by decide +kernel), List.mem_of_getElem? (i := 1643) (by decide +kernel), List.mem_of_getElem? (i := 1644) (by decide +kernel)⟩
theorem lw_p71 : lw_okq (⟨"ShadowSchoolModel", "isSeating", "()Z"⟩, 42) := ⟨⟨by decide +kernel, by decide +kernel⟩, List.mem_of_getElem? (i := 1208) (by decide +kernel), List.mem_of_getElem? (i := 1647) (by decide +kernel), List.mem_of_getElem? (i := 1648) (by decide +kernel)⟩
theorem lw_p72 : lw_okq (⟨"ShadowSchoolModel", "isNextWay", "(I)Z"⟩, 42) := ⟨⟨by decide +kernel, by decide +kernel⟩, List.mem_of_getElem? (i := 1208) (by decide +kernel), List.mem_of_getElem? (i := 1651) (by decide +kernel), List.mem_of_getElem? (i := 1652) (by decide +kernel)⟩
theorem lw_p73 : lw_okq (⟨"ShadowSchoolModel", "lacksSort", "(II)I"⟩, 42) := ⟨⟨by decide +kernel, by decide +kernel⟩, List.mem_of_getElem? (i := 1208) (by decide +kernel), List.mem_of_getElem? (i := 1671) (by decide +kernel), List.mem_of_getElem? (i := 1672) (by decide +kernel)⟩
theorem lw_p74 : lw_okq (⟨"ShadowSchoolModel", "planHours", "(I)I"⟩, 42) := ⟨⟨by decide +kernel, by decide +kernel⟩, List.mem_of_getElem? (i := 1208) (by decide +kernel), List.mem_of_getElem? (i := 1679) (by decide +kernel), List.mem_of_getElem? (i := 1680) (by decide +kernel)⟩
theorem lw_p75 : lw_okq (⟨"ShadowSchoolModel", "findBest", "(I)V"⟩, 42) := ⟨⟨by decide +kernel, by decide +kernel⟩, List.mem_of_getElem? (i := 1208) (by decide +kernel), List.mem_of_getElem? (i := 1683) (by decide +kernel), List.mem_of_getElem? (i := 1684) (by decide +kernel)⟩
theorem lw_p76 : lw_okq (⟨"ShadowSchoolModel", "plans", "(I)I"⟩, 42) := ⟨⟨by decide +kernel, by decide +kernel⟩, List.mem_of_getElem? (i := 1208) (by decide +kernel), List.mem_of_getElem? (i := 1687) (by decide +kernel), List.mem_of_getElem? (i := 1688) (by decide +kernel)⟩
theorem lw_p77 : lw_okq (⟨"ShadowSchoolModel", "plays", "(II)I"⟩, 42) := ⟨⟨by decide +kernel, by decide +kernel⟩, List.mem_of_getElem? (i := 1208) (by decide +kernel), List.mem_of_getElem? (i := 1691) (by decide +kernel), List.mem_of_getElem? (i := 1692) (by decide +kernel)⟩
theorem lw_p78 : lw_okq (⟨"ShadowSchoolModel", "actIn", "(III)I"⟩, 42) := ⟨⟨by decide +kernel, by decide +kernel⟩, List.mem_of_getElem? (i := 1208) (by decide +kernel), List.mem_of_getElem? (i := 1695) (by decide +kernel), List.mem_of_getElem? (i := 1696) (by decide +kernel)⟩
theorem lw_p79 : lw_okq (⟨"ShadowSchoolModel", "findTaught", "(II)V"⟩, 42) := ⟨⟨by decide +kernel, by decide +kernel⟩, List.mem_of_getElem? (i := 1208) (by decide +kernel), List.mem_of_getElem? (i := 1711) (by decide +kernel), List.mem_of_getElem? (i := 1712) (by decide +kernel)⟩
def lw_privs_5 : List (MethodName × Nat) := [(⟨"ShadowSchoolModel", "save", "(I)V"⟩, 42), (⟨"ShadowSchoolModel", "rest", "(I)I"⟩, 42), (⟨"ShadowSchoolModel", "load", "(I)V"⟩, 42), (⟨"ShadowSchoolModel", "allLessons", "()I"⟩, 42), (⟨"ShadowSchoolModel", "dearest", "(II)I"⟩, 42), (⟨"ShadowSchoolModel", "isFirstSeating", "(I)Z"⟩, 42), (⟨"ShadowSchoolModel", "allInFirst", "()V"⟩, 42), (⟨"ShadowSchoolModel", "isSeating", "()Z"⟩, 42), (⟨"ShadowSchoolModel", "isNextWay", "(I)Z"⟩, 42), (⟨"ShadowSchoolModel", "lacksSort", "(II)I"⟩, 42), (⟨"ShadowSchoolModel", "planHours", "(I)I"⟩, 42), (⟨"ShadowSchoolModel", "findBest", "(I)V"⟩, 42), (⟨"ShadowSchoolModel", "plans", "(I)I"⟩, 42), (⟨"ShadowSchoolModel", "plays", "(II)I"⟩, 42), (⟨"ShadowSchoolModel", "actIn", "(III)I"⟩, 42), (⟨"ShadowSchoolModel", "findTaught", "(II)V"⟩, 42)]
theorem lw_r5 : ∀ q ∈ lw_privs_5, lw_okq q := List.forall_mem_cons.mpr ⟨lw_p64, List.forall_mem_cons.mpr ⟨lw_p65, List.forall_mem_cons.mpr ⟨lw_p66, List.forall_mem_cons.mpr ⟨lw_p67, List.forall_mem_cons.mpr ⟨lw_p68, List.forall_mem_cons.mpr ⟨lw_p69, List.forall_mem_cons.mpr ⟨lw_p70, List.forall_mem_cons.mpr ⟨lw_p71, List.forall_mem_cons.mpr ⟨lw_p72, List.forall_mem_cons.mpr ⟨lw_p73, List.forall_mem_cons.mpr ⟨lw_p74, List.forall_mem_cons.mpr ⟨lw_p75, List.forall_mem_cons.mpr ⟨lw_p76, List.forall_mem_cons.mpr ⟨lw_p77, List.forall_mem_cons.mpr ⟨lw_p78, List.forall_mem_cons.mpr ⟨lw_p79, fun _ h => absurd h List.not_mem_nil⟩⟩⟩⟩⟩⟩⟩⟩⟩⟩⟩⟩⟩⟩⟩⟩
theorem lw_p80 : lw_okq (⟨"ShadowSchoolModel", "someLearnt", "()I"⟩, 42) := ⟨⟨by decide +kernel, by decide +kernel⟩, List.mem_of_getElem? (i := 1208) (by decide +kernel), List.mem_of_getElem? (i := 1715) (by decide +kernel), List.mem_of_getElem? (i := 1716) (by decide +kernel)⟩
theorem lw_p81 : lw_okq (⟨"ShadowSchoolModel", "actsOf", "(II)I"⟩, 42) := ⟨⟨by decide +kernel, by decide +kernel⟩, List.mem_of_getElem? (i := 1208) (by decide +kernel), List.mem_of_getElem? (i := 1719) (by decide +kernel), List.mem_of_getElem? (i := 1720) (by decide +kernel)⟩
theorem lw_p82 : lw_okq (⟨"ShadowSchoolModel", "valueOf", "(IIZ)I"⟩, 42) := ⟨⟨by decide +kernel, by decide +kernel⟩, List.mem_of_getElem? (i := 1208) (by decide +kernel), List.mem_of_getElem? (i := 1731) (by decide +kernel), List.mem_of_getElem? (i := 1732) (by decide +kernel)⟩
theorem lw_p83 : lw_okq (⟨"ShadowSchoolModel", "fits", "(II)Z"⟩, 42) := ⟨⟨by decide +kernel, by decide +kernel⟩, List.mem_of_getElem? (i := 1208) (by decide +kernel), List.mem_of_getElem? (i := 1751) (by decide +kernel), List.mem_of_getElem? (i := 1752) (by decide +kernel)⟩
theorem lw_p84 : lw_okq (⟨"ShadowSchoolModel", "firstMoment", "(I)I"⟩, 42) := ⟨⟨by decide +kernel, by decide +kernel⟩, List.mem_of_getElem? (i := 1208) (by decide +kernel), List.mem_of_getElem? (i := 1755) (by decide +kernel), List.mem_of_getElem? (i := 1756) (by decide +kernel)⟩
theorem lw_p85 : lw_okq (⟨"ShadowSchoolModel", "lotGoes", "()I"⟩, 42) := ⟨⟨by decide +kernel, by decide +kernel⟩, List.mem_of_getElem? (i := 1208) (by decide +kernel), List.mem_of_getElem? (i := 1771) (by decide +kernel), List.mem_of_getElem? (i := 1772) (by decide +kernel)⟩
theorem lw_p86 : lw_okq (⟨"ShadowSchoolModel", "isCell", "(II)Z"⟩, 42) := ⟨⟨by decide +kernel, by decide +kernel⟩, List.mem_of_getElem? (i := 1208) (by decide +kernel), List.mem_of_getElem? (i := 1788) (by decide +kernel), List.mem_of_getElem? (i := 1789) (by decide +kernel)⟩
theorem lw_p87 : lw_okq (⟨"ShadowSchoolModel", "isRight", "(I)Z"⟩, 42) := ⟨⟨by decide +kernel, by decide +kernel⟩, List.mem_of_getElem? (i := 1208) (by decide +kernel), List.mem_of_getElem? (i := 1800) (by decide +kernel), List.mem_of_getElem? (i := 1801) (by decide +kernel)⟩
theorem lw_p88 : lw_okq (⟨"ShadowSchoolModel", "wouldGo", "(III)I"⟩, 42) := ⟨⟨by decide +kernel, by decide +kernel⟩, List.mem_of_getElem? (i := 1208) (by decide +kernel), List.mem_of_getElem? (i := 1827) (by decide +kernel), List.mem_of_getElem? (i := 1828) (by decide +kernel)⟩
theorem lw_p89 : lw_okq (⟨"ShadowSchoolModel", "isHeld", "(II)Z"⟩, 42) := ⟨⟨by decide +kernel, by decide +kernel⟩, List.mem_of_getElem? (i := 1208) (by decide +kernel), List.mem_of_getElem? (i := 1835) (by decide +kernel), List.mem_of_getElem? (i := 1836) (by decide +kernel)⟩
theorem lw_p90 : lw_okq (⟨"ShadowSchoolModel", "kindOn", "(I)I"⟩, 42) := ⟨⟨by decide +kernel, by decide +kernel⟩, List.mem_of_getElem? (i := 1208) (by decide +kernel), List.mem_of_getElem? (i := 1843) (by decide +kernel), List.mem_of_getElem? (i := 1844) (by decide +kernel)⟩
theorem lw_p91 : lw_okq (⟨"ShadowSchoolModel", "lies", "(I)I"⟩, 42) := ⟨⟨by decide +kernel, by decide +kernel⟩, List.mem_of_getElem? (i := 1208) (by decide +kernel), List.mem_of_getElem? (i := 1851) (by decide +kernel), List.mem_of_getElem? (i := 1852) (by decide +kernel)⟩
theorem lw_p92 : lw_okq (⟨"ShadowSchoolModel", "ran", "(I)V"⟩, 42) := ⟨⟨by decide +kernel, by decide +kernel⟩, List.mem_of_getElem? (i := 1208) (by decide +kernel), List.mem_of_getElem? (i := 1855) (by decide +kernel), List.mem_of_getElem? (i := 1856) (by decide +kernel)⟩
theorem lw_p93 : lw_okq (⟨"ShadowSchoolModel", "plainLies", "(I)I"⟩, 42) := ⟨⟨by decide +kernel, by decide +kernel⟩, List.mem_of_getElem? (i := 1208) (by decide +kernel), List.mem_of_getElem? (i := 1859) (by decide +kernel), List.mem_of_getElem? (i := 1860) (by decide +kernel)⟩
theorem lw_p94 : lw_okq (⟨"ShadowSchoolModel", "turns", "(I)I"⟩, 42) := ⟨⟨by decide +kernel, by decide +kernel⟩, List.mem_of_getElem? (i := 1208) (by decide +kernel), List.mem_of_getElem? (i := 1863) (by decide +kernel), List.mem_of_getElem? (i := 1864) (by decide +kernel)⟩
theorem lw_p95 : lw_okq (⟨"ShadowSchoolModel", "plainTurns", "(I)I"⟩, 42) := ⟨⟨by decide +kernel, by decide +kernel⟩, List.mem_of_getElem? (i := 1208) (by decide +kernel), List.mem_of_getElem? (i := 1867) (by decide +kernel), List.mem_of_getElem? (i := 1868) (by decide +kernel)⟩
def lw_privs_6 : List (MethodName × Nat) := [(⟨"ShadowSchoolModel", "someLearnt", "()I"⟩, 42), (⟨"ShadowSchoolModel", "actsOf", "(II)I"⟩, 42), (⟨"ShadowSchoolModel", "valueOf", "(IIZ)I"⟩, 42), (⟨"ShadowSchoolModel", "fits", "(II)Z"⟩, 42), (⟨"ShadowSchoolModel", "firstMoment", "(I)I"⟩, 42), (⟨"ShadowSchoolModel", "lotGoes", "()I"⟩, 42), (⟨"ShadowSchoolModel", "isCell", "(II)Z"⟩, 42), (⟨"ShadowSchoolModel", "isRight", "(I)Z"⟩, 42), (⟨"ShadowSchoolModel", "wouldGo", "(III)I"⟩, 42), (⟨"ShadowSchoolModel", "isHeld", "(II)Z"⟩, 42), (⟨"ShadowSchoolModel", "kindOn", "(I)I"⟩, 42), (⟨"ShadowSchoolModel", "lies", "(I)I"⟩, 42), (⟨"ShadowSchoolModel", "ran", "(I)V"⟩, 42), (⟨"ShadowSchoolModel", "plainLies", "(I)I"⟩, 42), (⟨"ShadowSchoolModel", "turns", "(I)I"⟩, 42), (⟨"ShadowSchoolModel", "plainTurns", "(I)I"⟩, 42)]
theorem lw_r6 : ∀ q ∈ lw_privs_6, lw_okq q := List.forall_mem_cons.mpr ⟨lw_p80, List.forall_mem_cons.mpr ⟨lw_p81, List.forall_mem_cons.mpr ⟨lw_p82, List.forall_mem_cons.mpr ⟨lw_p83, List.forall_mem_cons.mpr ⟨lw_p84, List.forall_mem_cons.mpr ⟨lw_p85, List.forall_mem_cons.mpr ⟨lw_p86, List.forall_mem_cons.mpr ⟨lw_p87, List.forall_mem_cons.mpr ⟨lw_p88, List.forall_mem_cons.mpr ⟨lw_p89, List.forall_mem_cons.mpr ⟨lw_p90, List.forall_mem_cons.mpr ⟨lw_p91, List.forall_mem_cons.mpr ⟨lw_p92, List.forall_mem_cons.mpr ⟨lw_p93, List.forall_mem_cons.mpr ⟨lw_p94, List.forall_mem_cons.mpr ⟨lw_p95, fun _ h => absurd h List.not_mem_nil⟩⟩⟩⟩⟩⟩⟩⟩⟩⟩⟩⟩⟩⟩⟩⟩
theorem lw_p96 : lw_okq (⟨"ShadowSchoolModel", "folds", "(I)I"⟩, 42) := ⟨⟨by decide +kernel, by decide +kernel⟩, List.mem_of_getElem? (i := 1208) (by decide +kernel), List.mem_of_getElem? (i := 1871) (by decide +kernel), List.mem_of_getElem? (i := 1872) (by decide +kernel)⟩
theorem lw_p97 : lw_okq (⟨"ShadowSchoolModel", "slowFolds", "(I)I"⟩, 42) := ⟨⟨by decide +kernel, by decide +kernel⟩, List.mem_of_getElem? (i := 1208) (by decide +kernel), List.mem_of_getElem? (i := 1875) (by decide +kernel), List.mem_of_getElem? (i := 1876) (by decide +kernel)⟩
theorem lw_p98 : lw_okq (⟨"ShadowSchoolModel", "plainFolds", "(I)I"⟩, 42) := ⟨⟨by decide +kernel, by decide +kernel⟩, List.mem_of_getElem? (i := 1208) (by decide +kernel), List.mem_of_getElem? (i := 1879) (by decide +kernel), List.mem_of_getElem? (i := 1880) (by decide +kernel)⟩
theorem lw_p99 : lw_okq (⟨"ShadowSchoolModel", "asks", "(I)I"⟩, 42) := ⟨⟨by decide +kernel, by decide +kernel⟩, List.mem_of_getElem? (i := 1208) (by decide +kernel), List.mem_of_getElem? (i := 1883) (by decide +kernel), List.mem_of_getElem? (i := 1884) (by decide +kernel)⟩
theorem lw_p100 : lw_okq (⟨"ShadowSchoolModel", "plainAsks", "(I)I"⟩, 42) := ⟨⟨by decide +kernel, by decide +kernel⟩, List.mem_of_getElem? (i := 1208) (by decide +kernel), List.mem_of_getElem? (i := 1887) (by decide +kernel), List.mem_of_getElem? (i := 1888) (by decide +kernel)⟩
theorem lw_p101 : lw_okq (⟨"ShadowSchoolModel", "pairsThatQuarrel", "()I"⟩, 42) := ⟨⟨by decide +kernel, by decide +kernel⟩, List.mem_of_getElem? (i := 1208) (by decide +kernel), List.mem_of_getElem? (i := 1899) (by decide +kernel), List.mem_of_getElem? (i := 1900) (by decide +kernel)⟩
def lw_privs_7 : List (MethodName × Nat) := [(⟨"ShadowSchoolModel", "folds", "(I)I"⟩, 42), (⟨"ShadowSchoolModel", "slowFolds", "(I)I"⟩, 42), (⟨"ShadowSchoolModel", "plainFolds", "(I)I"⟩, 42), (⟨"ShadowSchoolModel", "asks", "(I)I"⟩, 42), (⟨"ShadowSchoolModel", "plainAsks", "(I)I"⟩, 42), (⟨"ShadowSchoolModel", "pairsThatQuarrel", "()I"⟩, 42)]
theorem lw_r7 : ∀ q ∈ lw_privs_7, lw_okq q := List.forall_mem_cons.mpr ⟨lw_p96, List.forall_mem_cons.mpr ⟨lw_p97, List.forall_mem_cons.mpr ⟨lw_p98, List.forall_mem_cons.mpr ⟨lw_p99, List.forall_mem_cons.mpr ⟨lw_p100, List.forall_mem_cons.mpr ⟨lw_p101, fun _ h => absurd h List.not_mem_nil⟩⟩⟩⟩⟩⟩
def lw_privs : List (MethodName × Nat) := lw_privs_1 ++ (lw_privs_2 ++ (lw_privs_3 ++ (lw_privs_4 ++ (lw_privs_5 ++ (lw_privs_6 ++ (lw_privs_7))))))
def lw_tbl : List Cond := k2_sels lw_privs ++ tables_1
theorem lw_privs_ok : ∀ q ∈ lw_privs, lw_okq q := by
  show ∀ q ∈ lw_privs_1 ++ (lw_privs_2 ++ (lw_privs_3 ++ (lw_privs_4 ++ (lw_privs_5 ++ (lw_privs_6 ++ (lw_privs_7)))))), lw_okq q
  exact List.forall_mem_append.mpr ⟨lw_r1, List.forall_mem_append.mpr ⟨lw_r2, List.forall_mem_append.mpr ⟨lw_r3, List.forall_mem_append.mpr ⟨lw_r4, List.forall_mem_append.mpr ⟨lw_r5, List.forall_mem_append.mpr ⟨lw_r6, lw_r7⟩⟩⟩⟩⟩⟩
end
section
def RX0 : String := "ShadowSchool$Borrowed"
def TX0 : u_T := fun k => match k with
  | _ => ("", "", "", false)
def tyX0 : Nat → FieldType := fun k => match k with
  | _ => .int
theorem nmX0 : ∀ a, a < 0 → ∀ b, b < 0 → a ≠ b → (TX0 a).2.1 ≠ (TX0 b).2.1 := by decide +kernel
theorem tyX0_ok : ∀ k, k < 0 → parseFieldDescriptor (TX0 k).2.2.1 = some (tyX0 k) := by decide +kernel
abbrev cX0_init : ByteArray := prog_2_method_1_code
def yX0_init : MethodName := ⟨RX0, "<init>", "()V"⟩
abbrev cX0_paceIn : ByteArray := prog_2_method_2_code
def yX0_paceIn : MethodName := ⟨RX0, "paceIn", "(II)I"⟩
abbrev cX0_lengthIn : ByteArray := prog_2_method_3_code
def yX0_lengthIn : MethodName := ⟨RX0, "lengthIn", "(II)I"⟩
abbrev cX0_turns : ByteArray := prog_2_method_4_code
def yX0_turns : MethodName := ⟨RX0, "turns", "(LShadowSchool$Host;I)I"⟩
abbrev cX0_folds : ByteArray := prog_2_method_5_code
def yX0_folds : MethodName := ⟨RX0, "folds", "(LShadowSchool$Host;I)I"⟩
def RX1 : String := "ShadowSchool$Coloured"
def TX1 : u_T := fun k => match k with
  | _ => ("", "", "", false)
def tyX1 : Nat → FieldType := fun k => match k with
  | _ => .int
theorem nmX1 : ∀ a, a < 0 → ∀ b, b < 0 → a ≠ b → (TX1 a).2.1 ≠ (TX1 b).2.1 := by decide +kernel
theorem tyX1_ok : ∀ k, k < 0 → parseFieldDescriptor (TX1 k).2.2.1 = some (tyX1 k) := by decide +kernel
abbrev cX1_init : ByteArray := prog_3_method_1_code
def yX1_init : MethodName := ⟨RX1, "<init>", "()V"⟩
abbrev cX1_paceIn : ByteArray := prog_3_method_2_code
def yX1_paceIn : MethodName := ⟨RX1, "paceIn", "(II)I"⟩
abbrev cX1_lengthIn : ByteArray := prog_3_method_3_code
def yX1_lengthIn : MethodName := ⟨RX1, "lengthIn", "(II)I"⟩
abbrev cX1_lies : ByteArray := prog_3_method_4_code
def yX1_lies : MethodName := ⟨RX1, "lies", "(LShadowSchool$Host;I)I"⟩
abbrev cX1_asks : ByteArray := prog_3_method_5_code
def yX1_asks : MethodName := ⟨RX1, "asks", "(LShadowSchool$Host;I)I"⟩
def RX2 : String := "ShadowSchool$Gifted"
def TX2 : u_T := fun k => match k with
  | _ => ("", "", "", false)
def tyX2 : Nat → FieldType := fun k => match k with
  | _ => .int
theorem nmX2 : ∀ a, a < 0 → ∀ b, b < 0 → a ≠ b → (TX2 a).2.1 ≠ (TX2 b).2.1 := by decide +kernel
theorem tyX2_ok : ∀ k, k < 0 → parseFieldDescriptor (TX2 k).2.2.1 = some (tyX2 k) := by decide +kernel
abbrev cX2_init : ByteArray := prog_4_method_1_code
def yX2_init : MethodName := ⟨RX2, "<init>", "()V"⟩
abbrev cX2_paceIn : ByteArray := prog_4_method_2_code
def yX2_paceIn : MethodName := ⟨RX2, "paceIn", "(II)I"⟩
abbrev cX2_turns : ByteArray := prog_4_method_3_code
def yX2_turns : MethodName := ⟨RX2, "turns", "(LShadowSchool$Host;I)I"⟩
def RX3 : String := "ShadowSchool$Host"
def TX3 : u_T := fun k => match k with
  | 0 => ("ShadowSchool$Host", "sorts", "[I", true)
  | 1 => ("ShadowSchool$Host", "sizes", "[I", true)
  | 2 => ("ShadowSchool$Host", "items", "[[I", true)
  | 3 => ("ShadowSchool$Host", "holds", "[I", true)
  | 4 => ("ShadowSchool$Host", "numbers", "[I", true)
  | 5 => ("ShadowSchool$Host", "rowSorts", "[I", true)
  | 6 => ("ShadowSchool$Host", "bodies", "[I", true)
  | 7 => ("ShadowSchool$Host", "bodyCount", "I", false)
  | 8 => ("ShadowSchool$Host", "isParted", "Z", false)
  | 9 => ("ShadowSchool$Host", "number", "I", false)
  | _ => ("ShadowSchool$Host", "quick", "I", false)
def tyX3 : Nat → FieldType := fun k => match k with
  | 0 => .array .int
  | 1 => .array .int
  | 2 => .array (.array .int)
  | 3 => .array .int
  | 4 => .array .int
  | 5 => .array .int
  | 6 => .array .int
  | 7 => .int
  | 8 => .boolean
  | 9 => .int
  | _ => .int
theorem nmX3 : ∀ a, a < 11 → ∀ b, b < 11 → a ≠ b → (TX3 a).2.1 ≠ (TX3 b).2.1 := by decide +kernel
theorem tyX3_ok : ∀ k, k < 11 → parseFieldDescriptor (TX3 k).2.2.1 = some (tyX3 k) := by decide +kernel
abbrev cX3_init : ByteArray := prog_5_method_1_code
def yX3_init : MethodName := ⟨RX3, "<init>", "()V"⟩
abbrev cX3_isSheet : ByteArray := prog_5_method_2_code
def yX3_isSheet : MethodName := ⟨RX3, "isSheet", "(I)Z"⟩
abbrev cX3_isShelf : ByteArray := prog_5_method_3_code
def yX3_isShelf : MethodName := ⟨RX3, "isShelf", "(I)Z"⟩
abbrev cX3_hasItem : ByteArray := prog_5_method_4_code
def yX3_hasItem : MethodName := ⟨RX3, "hasItem", "(II)Z"⟩
abbrev cX3_hasItems : ByteArray := prog_5_method_5_code
def yX3_hasItems : MethodName := ⟨RX3, "hasItems", "(III)Z"⟩
abbrev cX3_refusalAs : ByteArray := prog_5_method_6_code
def yX3_refusalAs : MethodName := ⟨RX3, "refusalAs", "(II)I"⟩
abbrev cX3_makeRow : ByteArray := prog_5_method_7_code
def yX3_makeRow : MethodName := ⟨RX3, "makeRow", "(III)V"⟩
abbrev cX3_itemAt : ByteArray := prog_5_method_8_code
def yX3_itemAt : MethodName := ⟨RX3, "itemAt", "(II)I"⟩
abbrev cX3_putItem : ByteArray := prog_5_method_9_code
def yX3_putItem : MethodName := ⟨RX3, "putItem", "(III)V"⟩
abbrev cX3_put : ByteArray := prog_5_method_10_code
def yX3_put : MethodName := ⟨RX3, "put", "(III)V"⟩
abbrev cX3_shadowOn : ByteArray := prog_5_method_11_code
def yX3_shadowOn : MethodName := ⟨RX3, "shadowOn", "(I)I"⟩
abbrev cX3_clearTrace : ByteArray := prog_5_method_12_code
def yX3_clearTrace : MethodName := ⟨RX3, "clearTrace", "()V"⟩
abbrev cX3_perform : ByteArray := prog_5_method_13_code
def yX3_perform : MethodName := ⟨RX3, "perform", "(LShadowSchool$Shade;IIII)I"⟩
abbrev cX3_actOf : ByteArray := prog_5_method_14_code
def yX3_actOf : MethodName := ⟨RX3, "actOf", "(LShadowSchool$Shade;II)I"⟩
abbrev cX3_begins : ByteArray := prog_5_method_15_code
def yX3_begins : MethodName := ⟨RX3, "begins", "(I)V"⟩
abbrev cX3_part : ByteArray := prog_5_method_16_code
def yX3_part : MethodName := ⟨RX3, "part", "(II)I"⟩
def RX4 : String := "ShadowSchool$Joined"
def TX4 : u_T := fun k => match k with
  | _ => ("", "", "", false)
def tyX4 : Nat → FieldType := fun k => match k with
  | _ => .int
theorem nmX4 : ∀ a, a < 0 → ∀ b, b < 0 → a ≠ b → (TX4 a).2.1 ≠ (TX4 b).2.1 := by decide +kernel
theorem tyX4_ok : ∀ k, k < 0 → parseFieldDescriptor (TX4 k).2.2.1 = some (tyX4 k) := by decide +kernel
abbrev cX4_init : ByteArray := prog_6_method_1_code
def yX4_init : MethodName := ⟨RX4, "<init>", "()V"⟩
abbrev cX4_paceIn : ByteArray := prog_6_method_2_code
def yX4_paceIn : MethodName := ⟨RX4, "paceIn", "(II)I"⟩
abbrev cX4_lies : ByteArray := prog_6_method_3_code
def yX4_lies : MethodName := ⟨RX4, "lies", "(LShadowSchool$Host;I)I"⟩
def RX5 : String := "ShadowSchool$Plans"
def TX5 : u_T := fun k => match k with
  | 0 => ("ShadowSchool$Plans", "behind", "[LShadowSchool$Progress;", true)
  | 1 => ("ShadowSchool$Plans", "acts", "[I", true)
  | 2 => ("ShadowSchool$Plans", "length", "I", false)
  | 3 => ("ShadowSchool$Plans", "top", "I", false)
  | 4 => ("ShadowSchool$Plans", "tops", "I", false)
  | 5 => ("ShadowSchool$Plans", "first", "[I", true)
  | 6 => ("ShadowSchool$Plans", "wanted", "I", false)
  | 7 => ("ShadowSchool$Plans", "fewest", "I", false)
  | 8 => ("ShadowSchool$Plans", "reached", "I", false)
  | 9 => ("ShadowSchool$Plans", "opening", "I", false)
  | 10 => ("ShadowSchool$Plans", "rowCount", "I", false)
  | _ => ("ShadowSchool$Plans", "rows", "[[I", true)
def tyX5 : Nat → FieldType := fun k => match k with
  | 0 => .array (.object "ShadowSchool$Progress")
  | 1 => .array .int
  | 2 => .int
  | 3 => .int
  | 4 => .int
  | 5 => .array .int
  | 6 => .int
  | 7 => .int
  | 8 => .int
  | 9 => .int
  | 10 => .int
  | _ => .array (.array .int)
theorem nmX5 : ∀ a, a < 12 → ∀ b, b < 12 → a ≠ b → (TX5 a).2.1 ≠ (TX5 b).2.1 := by decide +kernel
theorem tyX5_ok : ∀ k, k < 12 → parseFieldDescriptor (TX5 k).2.2.1 = some (tyX5 k) := by decide +kernel
abbrev cX5_init : ByteArray := prog_7_method_1_code
def yX5_init : MethodName := ⟨RX5, "<init>", "()V"⟩
abbrev cX5_walkAll : ByteArray := prog_7_method_2_code
def yX5_walkAll : MethodName := ⟨RX5, "walkAll", "(LShadowSchool$School;II)V"⟩
abbrev cX5_walk : ByteArray := prog_7_method_3_code
def yX5_walk : MethodName := ⟨RX5, "walk", "(LShadowSchool$School;III)V"⟩
abbrev cX5_weigh : ByteArray := prog_7_method_4_code
def yX5_weigh : MethodName := ⟨RX5, "weigh", "(III)V"⟩
abbrev cX5_valueOfGame : ByteArray := prog_7_method_5_code
def yX5_valueOfGame : MethodName := ⟨RX5, "valueOfGame", "(LShadowSchool$School;I)I"⟩
abbrev cX5_valueFrom : ByteArray := prog_7_method_6_code
def yX5_valueFrom : MethodName := ⟨RX5, "valueFrom", "(LShadowSchool$School;II)I"⟩
abbrev cX5_makeRows : ByteArray := prog_7_method_7_code
def yX5_makeRows : MethodName := ⟨RX5, "makeRows", "(LShadowSchool$School;)I"⟩
abbrev cX5_hasRowPart : ByteArray := prog_7_method_8_code
def yX5_hasRowPart : MethodName := ⟨RX5, "hasRowPart", "(II)Z"⟩
abbrev cX5_firstWrongRow : ByteArray := prog_7_method_9_code
def yX5_firstWrongRow : MethodName := ⟨RX5, "firstWrongRow", "(LShadowSchool$School;)I"⟩
def RX6 : String := "ShadowSchool$Progress"
def TX6 : u_T := fun k => match k with
  | 0 => ("ShadowSchool$Progress", "hour", "I", false)
  | 1 => ("ShadowSchool$Progress", "score", "I", false)
  | 2 => ("ShadowSchool$Progress", "points", "[I", true)
  | 3 => ("ShadowSchool$Progress", "learnt", "[I", true)
  | _ => ("ShadowSchool$Progress", "sat", "[I", true)
def tyX6 : Nat → FieldType := fun k => match k with
  | 0 => .int
  | 1 => .int
  | 2 => .array .int
  | 3 => .array .int
  | _ => .array .int
theorem nmX6 : ∀ a, a < 5 → ∀ b, b < 5 → a ≠ b → (TX6 a).2.1 ≠ (TX6 b).2.1 := by decide +kernel
theorem tyX6_ok : ∀ k, k < 5 → parseFieldDescriptor (TX6 k).2.2.1 = some (tyX6 k) := by decide +kernel
abbrev cX6_init : ByteArray := prog_8_method_1_code
def yX6_init : MethodName := ⟨RX6, "<init>", "()V"⟩
abbrev cX6_copyFrom : ByteArray := prog_8_method_2_code
def yX6_copyFrom : MethodName := ⟨RX6, "copyFrom", "(LShadowSchool$Progress;)V"⟩
abbrev cX6_clear : ByteArray := prog_8_method_3_code
def yX6_clear : MethodName := ⟨RX6, "clear", "()V"⟩
abbrev cX6_hasLearnt : ByteArray := prog_8_method_4_code
def yX6_hasLearnt : MethodName := ⟨RX6, "hasLearnt", "(II)Z"⟩
abbrev cX6_howManyLearnt : ByteArray := prog_8_method_5_code
def yX6_howManyLearnt : MethodName := ⟨RX6, "howManyLearnt", "(I)I"⟩
abbrev cX6_learntBySome : ByteArray := prog_8_method_6_code
def yX6_learntBySome : MethodName := ⟨RX6, "learntBySome", "()I"⟩
abbrev cX6_gain : ByteArray := prog_8_method_7_code
def yX6_gain : MethodName := ⟨RX6, "gain", "(IIII)Z"⟩
def RX7 : String := "ShadowSchool$Reader"
def TX7 : u_T := fun k => match k with
  | 0 => ("ShadowSchool$Reader", "count", "I", false)
  | 1 => ("ShadowSchool$Reader", "bytes", "[I", true)
  | 2 => ("ShadowSchool$Reader", "tokens", "[I", true)
  | 3 => ("ShadowSchool$Reader", "places", "[I", true)
  | 4 => ("ShadowSchool$Reader", "at", "I", false)
  | _ => ("ShadowSchool$Reader", "draft", "LShadowSchool$Rules;", true)
def tyX7 : Nat → FieldType := fun k => match k with
  | 0 => .int
  | 1 => .array .int
  | 2 => .array .int
  | 3 => .array .int
  | 4 => .int
  | _ => .object "ShadowSchool$Rules"
theorem nmX7 : ∀ a, a < 6 → ∀ b, b < 6 → a ≠ b → (TX7 a).2.1 ≠ (TX7 b).2.1 := by decide +kernel
theorem tyX7_ok : ∀ k, k < 6 → parseFieldDescriptor (TX7 k).2.2.1 = some (tyX7 k) := by decide +kernel
abbrev cX7_init : ByteArray := prog_9_method_1_code
def yX7_init : MethodName := ⟨RX7, "<init>", "()V"⟩
abbrev cX7_take : ByteArray := prog_9_method_2_code
def yX7_take : MethodName := ⟨RX7, "take", "(JI)I"⟩
abbrev cX7_readAll : ByteArray := prog_9_method_3_code
def yX7_readAll : MethodName := ⟨RX7, "readAll", "()I"⟩
abbrev cX7_cutIntoTokens : ByteArray := prog_9_method_4_code
def yX7_cutIntoTokens : MethodName := ⟨RX7, "cutIntoTokens", "()V"⟩
abbrev cX7_sortOf : ByteArray := prog_9_method_5_code
def yX7_sortOf : MethodName := ⟨RX7, "sortOf", "(I)I"⟩
abbrev cX7_tokenAt : ByteArray := prog_9_method_6_code
def yX7_tokenAt : MethodName := ⟨RX7, "tokenAt", "(II)I"⟩
abbrev cX7_signAt : ByteArray := prog_9_method_7_code
def yX7_signAt : MethodName := ⟨RX7, "signAt", "(I)I"⟩
abbrev cX7_nameAt : ByteArray := prog_9_method_8_code
def yX7_nameAt : MethodName := ⟨RX7, "nameAt", "(II)I"⟩
abbrev cX7_isNameAt : ByteArray := prog_9_method_9_code
def yX7_isNameAt : MethodName := ⟨RX7, "isNameAt", "(III)Z"⟩
abbrev cX7_numberAt : ByteArray := prog_9_method_10_code
def yX7_numberAt : MethodName := ⟨RX7, "numberAt", "(II)I"⟩
abbrev cX7_readRule : ByteArray := prog_9_method_11_code
def yX7_readRule : MethodName := ⟨RX7, "readRule", "()Z"⟩
abbrev cX7_readCondition : ByteArray := prog_9_method_12_code
def yX7_readCondition : MethodName := ⟨RX7, "readCondition", "(I)Z"⟩
abbrev cX7_readOne : ByteArray := prog_9_method_13_code
def yX7_readOne : MethodName := ⟨RX7, "readOne", "(I)Z"⟩
abbrev cX7_readWithin : ByteArray := prog_9_method_14_code
def yX7_readWithin : MethodName := ⟨RX7, "readWithin", "(I)Z"⟩
abbrev cX7_readComparison : ByteArray := prog_9_method_15_code
def yX7_readComparison : MethodName := ⟨RX7, "readComparison", "()Z"⟩
abbrev cX7_readSign : ByteArray := prog_9_method_16_code
def yX7_readSign : MethodName := ⟨RX7, "readSign", "(I)Z"⟩
abbrev cX7_isValue : ByteArray := prog_9_method_17_code
def yX7_isValue : MethodName := ⟨RX7, "isValue", "(I)Z"⟩
abbrev cX7_placeOfValue : ByteArray := prog_9_method_18_code
def yX7_placeOfValue : MethodName := ⟨RX7, "placeOfValue", "(I)I"⟩
abbrev cX7_goOn : ByteArray := prog_9_method_19_code
def yX7_goOn : MethodName := ⟨RX7, "goOn", "()V"⟩
def RX8 : String := "ShadowSchool$Rules"
def TX8 : u_T := fun k => match k with
  | 0 => ("ShadowSchool$Rules", "count", "I", false)
  | 1 => ("ShadowSchool$Rules", "size", "I", false)
  | 2 => ("ShadowSchool$Rules", "kinds", "[I", true)
  | 3 => ("ShadowSchool$Rules", "deeds", "[I", true)
  | 4 => ("ShadowSchool$Rules", "ends", "[I", true)
  | 5 => ("ShadowSchool$Rules", "steps", "[I", true)
  | 6 => ("ShadowSchool$Rules", "lefts", "[I", true)
  | 7 => ("ShadowSchool$Rules", "rights", "[I", true)
  | 8 => ("ShadowSchool$Rules", "values", "[I", true)
  | _ => ("ShadowSchool$Rules", "valueCount", "I", false)
def tyX8 : Nat → FieldType := fun k => match k with
  | 0 => .int
  | 1 => .int
  | 2 => .array .int
  | 3 => .array .int
  | 4 => .array .int
  | 5 => .array .int
  | 6 => .array .int
  | 7 => .array .int
  | 8 => .array .int
  | _ => .int
theorem nmX8 : ∀ a, a < 10 → ∀ b, b < 10 → a ≠ b → (TX8 a).2.1 ≠ (TX8 b).2.1 := by decide +kernel
theorem tyX8_ok : ∀ k, k < 10 → parseFieldDescriptor (TX8 k).2.2.1 = some (tyX8 k) := by decide +kernel
abbrev cX8_init : ByteArray := prog_10_method_1_code
def yX8_init : MethodName := ⟨RX8, "<init>", "()V"⟩
abbrev cX8_copyFrom : ByteArray := prog_10_method_2_code
def yX8_copyFrom : MethodName := ⟨RX8, "copyFrom", "(LShadowSchool$Rules;)V"⟩
abbrev cX8_clear : ByteArray := prog_10_method_3_code
def yX8_clear : MethodName := ⟨RX8, "clear", "()V"⟩
abbrev cX8_addValue : ByteArray := prog_10_method_4_code
def yX8_addValue : MethodName := ⟨RX8, "addValue", "(I)I"⟩
abbrev cX8_addStep : ByteArray := prog_10_method_5_code
def yX8_addStep : MethodName := ⟨RX8, "addStep", "(III)V"⟩
abbrev cX8_addRule : ByteArray := prog_10_method_6_code
def yX8_addRule : MethodName := ⟨RX8, "addRule", "(II)V"⟩
abbrev cX8_tell : ByteArray := prog_10_method_7_code
def yX8_tell : MethodName := ⟨RX8, "tell", "(IIIII)V"⟩
abbrev cX8_deedFor : ByteArray := prog_10_method_8_code
def yX8_deedFor : MethodName := ⟨RX8, "deedFor", "(I)I"⟩
abbrev cX8_holds : ByteArray := prog_10_method_9_code
def yX8_holds : MethodName := ⟨RX8, "holds", "(II)Z"⟩
def RX9 : String := "ShadowSchool$School"
def TX9 : u_T := fun k => match k with
  | 0 => ("ShadowSchool$School", "shadows", "I", false)
  | 1 => ("ShadowSchool$School", "kind", "[I", true)
  | 2 => ("ShadowSchool$School", "quick", "[I", true)
  | 3 => ("ShadowSchool$School", "tall", "[I", true)
  | 4 => ("ShadowSchool$School", "quarrels", "[I", true)
  | 5 => ("ShadowSchool$School", "lessons", "I", false)
  | 6 => ("ShadowSchool$School", "hard", "[I", true)
  | 7 => ("ShadowSchool$School", "need", "[I", true)
  | 8 => ("ShadowSchool$School", "from", "[I", true)
  | 9 => ("ShadowSchool$School", "to", "[I", true)
  | 10 => ("ShadowSchool$School", "room", "[I", true)
  | 11 => ("ShadowSchool$School", "given", "[I", true)
  | 12 => ("ShadowSchool$School", "reports", "I", false)
  | 13 => ("ShadowSchool$School", "told", "[[I", true)
  | 14 => ("ShadowSchool$School", "dusk", "I", false)
  | 15 => ("ShadowSchool$School", "z", "I", false)
  | 16 => ("ShadowSchool$School", "rules", "LShadowSchool$Rules;", true)
  | 17 => ("ShadowSchool$School", "now", "LShadowSchool$Progress;", true)
  | _ => ("ShadowSchool$School", "kinds", "[LShadowSchool$Shade;", true)
def tyX9 : Nat → FieldType := fun k => match k with
  | 0 => .int
  | 1 => .array .int
  | 2 => .array .int
  | 3 => .array .int
  | 4 => .array .int
  | 5 => .int
  | 6 => .array .int
  | 7 => .array .int
  | 8 => .array .int
  | 9 => .array .int
  | 10 => .array .int
  | 11 => .array .int
  | 12 => .int
  | 13 => .array (.array .int)
  | 14 => .int
  | 15 => .int
  | 16 => .object "ShadowSchool$Rules"
  | 17 => .object "ShadowSchool$Progress"
  | _ => .array (.object "ShadowSchool$Shade")
theorem nmX9 : ∀ a, a < 19 → ∀ b, b < 19 → a ≠ b → (TX9 a).2.1 ≠ (TX9 b).2.1 := by decide +kernel
theorem tyX9_ok : ∀ k, k < 19 → parseFieldDescriptor (TX9 k).2.2.1 = some (tyX9 k) := by decide +kernel
abbrev cX9_init : ByteArray := prog_11_method_1_code
def yX9_init : MethodName := ⟨RX9, "<init>", "()V"⟩
abbrev cX9_copyFrom : ByteArray := prog_11_method_2_code
def yX9_copyFrom : MethodName := ⟨RX9, "copyFrom", "(LShadowSchool$School;)V"⟩
abbrev cX9_isShadow : ByteArray := prog_11_method_3_code
def yX9_isShadow : MethodName := ⟨RX9, "isShadow", "(I)Z"⟩
abbrev cX9_isLesson : ByteArray := prog_11_method_4_code
def yX9_isLesson : MethodName := ⟨RX9, "isLesson", "(I)Z"⟩
abbrev cX9_isAct : ByteArray := prog_11_method_5_code
def yX9_isAct : MethodName := ⟨RX9, "isAct", "(I)Z"⟩
abbrev cX9_isSetOfLessons : ByteArray := prog_11_method_6_code
def yX9_isSetOfLessons : MethodName := ⟨RX9, "isSetOfLessons", "(I)Z"⟩
abbrev cX9_allLessons : ByteArray := prog_11_method_7_code
def yX9_allLessons : MethodName := ⟨RX9, "allLessons", "()I"⟩
abbrev cX9_isOver : ByteArray := prog_11_method_8_code
def yX9_isOver : MethodName := ⟨RX9, "isOver", "(LShadowSchool$Progress;)Z"⟩
abbrev cX9_addShadow : ByteArray := prog_11_method_9_code
def yX9_addShadow : MethodName := ⟨RX9, "addShadow", "(III)I"⟩
abbrev cX9_addLesson : ByteArray := prog_11_method_10_code
def yX9_addLesson : MethodName := ⟨RX9, "addLesson", "(IIIII)I"⟩
abbrev cX9_addReport : ByteArray := prog_11_method_11_code
def yX9_addReport : MethodName := ⟨RX9, "addReport", "(IIII)I"⟩
abbrev cX9_thing : ByteArray := prog_11_method_12_code
def yX9_thing : MethodName := ⟨RX9, "thing", "(I)LShadowSchool$Shade;"⟩
abbrev cX9_lengthOf : ByteArray := prog_11_method_13_code
def yX9_lengthOf : MethodName := ⟨RX9, "lengthOf", "(I)I"⟩
abbrev cX9_setQuarrel : ByteArray := prog_11_method_14_code
def yX9_setQuarrel : MethodName := ⟨RX9, "setQuarrel", "(III)V"⟩
abbrev cX9_howManyQuarrel : ByteArray := prog_11_method_15_code
def yX9_howManyQuarrel : MethodName := ⟨RX9, "howManyQuarrel", "()I"⟩
abbrev cX9_goBy : ByteArray := prog_11_method_16_code
def yX9_goBy : MethodName := ⟨RX9, "goBy", "(LShadowSchool$Progress;I)I"⟩
abbrev cX9_goByLot : ByteArray := prog_11_method_17_code
def yX9_goByLot : MethodName := ⟨RX9, "goByLot", "(LShadowSchool$Progress;)I"⟩
abbrev cX9_choice : ByteArray := prog_11_method_18_code
def yX9_choice : MethodName := ⟨RX9, "choice", "(LShadowSchool$Progress;II)I"⟩
abbrev cX9_openTo : ByteArray := prog_11_method_19_code
def yX9_openTo : MethodName := ⟨RX9, "openTo", "(LShadowSchool$Progress;II)I"⟩
abbrev cX9_deedOf : ByteArray := prog_11_method_20_code
def yX9_deedOf : MethodName := ⟨RX9, "deedOf", "(LShadowSchool$Progress;I)I"⟩
abbrev cX9_easiest : ByteArray := prog_11_method_21_code
def yX9_easiest : MethodName := ⟨RX9, "easiest", "(LShadowSchool$Progress;II)I"⟩
abbrev cX9_firstFit : ByteArray := prog_11_method_22_code
def yX9_firstFit : MethodName := ⟨RX9, "firstFit", "(I)I"⟩
abbrev cX9_howManyFit : ByteArray := prog_11_method_23_code
def yX9_howManyFit : MethodName := ⟨RX9, "howManyFit", "()I"⟩
abbrev cX9_fits : ByteArray := prog_11_method_24_code
def yX9_fits : MethodName := ⟨RX9, "fits", "(II)Z"⟩
def RX10 : String := "ShadowSchool$Shade"
def TX10 : u_T := fun k => match k with
  | _ => ("", "", "", false)
def tyX10 : Nat → FieldType := fun k => match k with
  | _ => .int
theorem nmX10 : ∀ a, a < 0 → ∀ b, b < 0 → a ≠ b → (TX10 a).2.1 ≠ (TX10 b).2.1 := by decide +kernel
theorem tyX10_ok : ∀ k, k < 0 → parseFieldDescriptor (TX10 k).2.2.1 = some (tyX10 k) := by decide +kernel
abbrev cX10_init : ByteArray := prog_12_method_1_code
def yX10_init : MethodName := ⟨RX10, "<init>", "()V"⟩
abbrev cX10_paceIn : ByteArray := prog_12_method_2_code
def yX10_paceIn : MethodName := ⟨RX10, "paceIn", "(II)I"⟩
abbrev cX10_lengthIn : ByteArray := prog_12_method_3_code
def yX10_lengthIn : MethodName := ⟨RX10, "lengthIn", "(II)I"⟩
abbrev cX10_lies : ByteArray := prog_12_method_4_code
def yX10_lies : MethodName := ⟨RX10, "lies", "(LShadowSchool$Host;I)I"⟩
abbrev cX10_turns : ByteArray := prog_12_method_5_code
def yX10_turns : MethodName := ⟨RX10, "turns", "(LShadowSchool$Host;I)I"⟩
abbrev cX10_folds : ByteArray := prog_12_method_6_code
def yX10_folds : MethodName := ⟨RX10, "folds", "(LShadowSchool$Host;I)I"⟩
abbrev cX10_asks : ByteArray := prog_12_method_7_code
def yX10_asks : MethodName := ⟨RX10, "asks", "(LShadowSchool$Host;I)I"⟩
def RX11 : String := "ShadowSchool$Slow"
def TX11 : u_T := fun k => match k with
  | _ => ("", "", "", false)
def tyX11 : Nat → FieldType := fun k => match k with
  | _ => .int
theorem nmX11 : ∀ a, a < 0 → ∀ b, b < 0 → a ≠ b → (TX11 a).2.1 ≠ (TX11 b).2.1 := by decide +kernel
theorem tyX11_ok : ∀ k, k < 0 → parseFieldDescriptor (TX11 k).2.2.1 = some (tyX11 k) := by decide +kernel
abbrev cX11_init : ByteArray := prog_13_method_1_code
def yX11_init : MethodName := ⟨RX11, "<init>", "()V"⟩
abbrev cX11_paceIn : ByteArray := prog_13_method_2_code
def yX11_paceIn : MethodName := ⟨RX11, "paceIn", "(II)I"⟩
abbrev cX11_lengthIn : ByteArray := prog_13_method_3_code
def yX11_lengthIn : MethodName := ⟨RX11, "lengthIn", "(II)I"⟩
abbrev cX11_folds : ByteArray := prog_13_method_4_code
def yX11_folds : MethodName := ⟨RX11, "folds", "(LShadowSchool$Host;I)I"⟩
def RX12 : String := "ShadowSchool"
def TX12 : u_T := fun k => match k with
  | 0 => ("ShadowSchool", "school", "LShadowSchool$School;", true)
  | 1 => ("ShadowSchool", "kept", "LShadowSchool$School;", true)
  | 2 => ("ShadowSchool", "isKept", "Z", false)
  | 3 => ("ShadowSchool", "trial", "LShadowSchool$Progress;", true)
  | 4 => ("ShadowSchool", "chairs", "[I", true)
  | 5 => ("ShadowSchool", "reader", "LShadowSchool$Reader;", true)
  | 6 => ("ShadowSchool", "plans", "LShadowSchool$Plans;", true)
  | _ => ("ShadowSchool", "host", "LShadowSchool$Host;", true)
def tyX12 : Nat → FieldType := fun k => match k with
  | 0 => .object "ShadowSchool$School"
  | 1 => .object "ShadowSchool$School"
  | 2 => .boolean
  | 3 => .object "ShadowSchool$Progress"
  | 4 => .array .int
  | 5 => .object "ShadowSchool$Reader"
  | 6 => .object "ShadowSchool$Plans"
  | _ => .object "ShadowSchool$Host"
theorem nmX12 : ∀ a, a < 8 → ∀ b, b < 8 → a ≠ b → (TX12 a).2.1 ≠ (TX12 b).2.1 := by decide +kernel
theorem tyX12_ok : ∀ k, k < 8 → parseFieldDescriptor (TX12 k).2.2.1 = some (tyX12 k) := by decide +kernel
abbrev cX12_init : ByteArray := prog_1_method_1_code
def yX12_init : MethodName := ⟨RX12, "<init>", "()V"⟩
abbrev cX12_shadow : ByteArray := prog_1_method_2_code
def yX12_shadow : MethodName := ⟨RX12, "shadow", "(III)I"⟩
abbrev cX12_shadowOf : ByteArray := prog_1_method_3_code
def yX12_shadowOf : MethodName := ⟨RX12, "shadowOf", "(II)I"⟩
abbrev cX12_change : ByteArray := prog_1_method_4_code
def yX12_change : MethodName := ⟨RX12, "change", "(III)I"⟩
abbrev cX12_remake : ByteArray := prog_1_method_5_code
def yX12_remake : MethodName := ⟨RX12, "remake", "(II)I"⟩
abbrev cX12_lesson : ByteArray := prog_1_method_6_code
def yX12_lesson : MethodName := ⟨RX12, "lesson", "(IIIII)I"⟩
abbrev cX12_lessonOf : ByteArray := prog_1_method_7_code
def yX12_lessonOf : MethodName := ⟨RX12, "lessonOf", "(II)I"⟩
abbrev cX12_points : ByteArray := prog_1_method_8_code
def yX12_points : MethodName := ⟨RX12, "points", "(II)I"⟩
abbrev cX12_dusk : ByteArray := prog_1_method_9_code
def yX12_dusk : MethodName := ⟨RX12, "dusk", "(I)I"⟩
abbrev cX12_anew : ByteArray := prog_1_method_10_code
def yX12_anew : MethodName := ⟨RX12, "anew", "()I"⟩
abbrev cX12_state : ByteArray := prog_1_method_11_code
def yX12_state : MethodName := ⟨RX12, "state", "(I)I"⟩
abbrev cX12_feed : ByteArray := prog_1_method_12_code
def yX12_feed : MethodName := ⟨RX12, "feed", "(JI)I"⟩
abbrev cX12_rules : ByteArray := prog_1_method_13_code
def yX12_rules : MethodName := ⟨RX12, "rules", "()I"⟩
abbrev cX12_hour : ByteArray := prog_1_method_14_code
def yX12_hour : MethodName := ⟨RX12, "hour", "()I"⟩
abbrev cX12_learnt : ByteArray := prog_1_method_15_code
def yX12_learnt : MethodName := ⟨RX12, "learnt", "(I)I"⟩
abbrev cX12_on : ByteArray := prog_1_method_16_code
def yX12_on : MethodName := ⟨RX12, "on", "(I)I"⟩
abbrev cX12_when : ByteArray := prog_1_method_17_code
def yX12_when : MethodName := ⟨RX12, "when", "(II)I"⟩
abbrev cX12_letGo : ByteArray := prog_1_method_18_code
def yX12_letGo : MethodName := ⟨RX12, "letGo", "()I"⟩
abbrev cX12_crowd : ByteArray := prog_1_method_19_code
def yX12_crowd : MethodName := ⟨RX12, "crowd", "(I)I"⟩
abbrev cX12_quickFor : ByteArray := prog_1_method_20_code
def yX12_quickFor : MethodName := ⟨RX12, "quickFor", "(I)I"⟩
abbrev cX12_letGoBy : ByteArray := prog_1_method_21_code
def yX12_letGoBy : MethodName := ⟨RX12, "letGoBy", "(I)I"⟩
abbrev cX12_roomFor : ByteArray := prog_1_method_22_code
def yX12_roomFor : MethodName := ⟨RX12, "roomFor", "(I)I"⟩
abbrev cX12_worthOfRest : ByteArray := prog_1_method_23_code
def yX12_worthOfRest : MethodName := ⟨RX12, "worthOfRest", "(I)I"⟩
abbrev cX12_worthiest : ByteArray := prog_1_method_24_code
def yX12_worthiest : MethodName := ⟨RX12, "worthiest", "([III)I"⟩
abbrev cX12_quarrel : ByteArray := prog_1_method_25_code
def yX12_quarrel : MethodName := ⟨RX12, "quarrel", "(III)I"⟩
abbrev cX12_quarrels : ByteArray := prog_1_method_26_code
def yX12_quarrels : MethodName := ⟨RX12, "quarrels", "(I)I"⟩
abbrev cX12_rooms : ByteArray := prog_1_method_27_code
def yX12_rooms : MethodName := ⟨RX12, "rooms", "()I"⟩
abbrev cX12_seat : ByteArray := prog_1_method_28_code
def yX12_seat : MethodName := ⟨RX12, "seat", "(I)I"⟩
abbrev cX12_seatings : ByteArray := prog_1_method_29_code
def yX12_seatings : MethodName := ⟨RX12, "seatings", "(I)I"⟩
abbrev cX12_match : ByteArray := prog_1_method_30_code
def yX12_match : MethodName := ⟨RX12, "match", "(III)I"⟩
abbrev cX12_fewestRooms : ByteArray := prog_1_method_31_code
def yX12_fewestRooms : MethodName := ⟨RX12, "fewestRooms", "()I"⟩
abbrev cX12_findSeats : ByteArray := prog_1_method_32_code
def yX12_findSeats : MethodName := ⟨RX12, "findSeats", "(II)Z"⟩
abbrev cX12_countSeatings : ByteArray := prog_1_method_33_code
def yX12_countSeatings : MethodName := ⟨RX12, "countSeatings", "(II)I"⟩
abbrev cX12_mayTake : ByteArray := prog_1_method_34_code
def yX12_mayTake : MethodName := ⟨RX12, "mayTake", "(II)Z"⟩
abbrev cX12_countGifts : ByteArray := prog_1_method_35_code
def yX12_countGifts : MethodName := ⟨RX12, "countGifts", "(IIIII)I"⟩
abbrev cX12_best : ByteArray := prog_1_method_36_code
def yX12_best : MethodName := ⟨RX12, "best", "(I)I"⟩
abbrev cX12_ith : ByteArray := prog_1_method_37_code
def yX12_ith : MethodName := ⟨RX12, "ith", "(II)I"⟩
abbrev cX12_ways : ByteArray := prog_1_method_38_code
def yX12_ways : MethodName := ⟨RX12, "ways", "(I)I"⟩
abbrev cX12_taught : ByteArray := prog_1_method_39_code
def yX12_taught : MethodName := ⟨RX12, "taught", "(II)I"⟩
abbrev cX12_bars : ByteArray := prog_1_method_40_code
def yX12_bars : MethodName := ⟨RX12, "bars", "(II)I"⟩
abbrev cX12_game : ByteArray := prog_1_method_41_code
def yX12_game : MethodName := ⟨RX12, "game", "(I)I"⟩
abbrev cX12_play : ByteArray := prog_1_method_42_code
def yX12_play : MethodName := ⟨RX12, "play", "(I)I"⟩
abbrev cX12_report : ByteArray := prog_1_method_43_code
def yX12_report : MethodName := ⟨RX12, "report", "(IIII)I"⟩
abbrev cX12_forget : ByteArray := prog_1_method_44_code
def yX12_forget : MethodName := ⟨RX12, "forget", "()I"⟩
abbrev cX12_span : ByteArray := prog_1_method_45_code
def yX12_span : MethodName := ⟨RX12, "span", "(I)I"⟩
abbrev cX12_liar : ByteArray := prog_1_method_46_code
def yX12_liar : MethodName := ⟨RX12, "liar", "()I"⟩
abbrev cX12_seed : ByteArray := prog_1_method_47_code
def yX12_seed : MethodName := ⟨RX12, "seed", "(I)I"⟩
abbrev cX12_lot : ByteArray := prog_1_method_48_code
def yX12_lot : MethodName := ⟨RX12, "lot", "()I"⟩
abbrev cX12_often : ByteArray := prog_1_method_49_code
def yX12_often : MethodName := ⟨RX12, "often", "(II)I"⟩
abbrev cX12_prove : ByteArray := prog_1_method_50_code
def yX12_prove : MethodName := ⟨RX12, "prove", "(I)I"⟩
abbrev cX12_row : ByteArray := prog_1_method_51_code
def yX12_row : MethodName := ⟨RX12, "row", "(II)I"⟩
abbrev cX12_alterRow : ByteArray := prog_1_method_52_code
def yX12_alterRow : MethodName := ⟨RX12, "alterRow", "(III)I"⟩
abbrev cX12_judge : ByteArray := prog_1_method_53_code
def yX12_judge : MethodName := ⟨RX12, "judge", "()I"⟩
abbrev cX12_sheet : ByteArray := prog_1_method_54_code
def yX12_sheet : MethodName := ⟨RX12, "sheet", "(III)I"⟩
abbrev cX12_write : ByteArray := prog_1_method_55_code
def yX12_write : MethodName := ⟨RX12, "write", "(III)I"⟩
abbrev cX12_item : ByteArray := prog_1_method_56_code
def yX12_item : MethodName := ⟨RX12, "item", "(III)I"⟩
abbrev cX12_goAll : ByteArray := prog_1_method_57_code
def yX12_goAll : MethodName := ⟨RX12, "goAll", "(III)I"⟩
abbrev cX12_wouldBe : ByteArray := prog_1_method_58_code
def yX12_wouldBe : MethodName := ⟨RX12, "wouldBe", "(III)I"⟩
abbrev cX12_shelf : ByteArray := prog_1_method_59_code
def yX12_shelf : MethodName := ⟨RX12, "shelf", "(III)I"⟩
abbrev cX12_taken : ByteArray := prog_1_method_60_code
def yX12_taken : MethodName := ⟨RX12, "taken", "(II)I"⟩
abbrev cX12_act : ByteArray := prog_1_method_61_code
def yX12_act : MethodName := ⟨RX12, "act", "(III)I"⟩
abbrev cX12_trace : ByteArray := prog_1_method_62_code
def yX12_trace : MethodName := ⟨RX12, "trace", "(I)I"⟩
abbrev cX12_many : ByteArray := prog_1_method_63_code
def yX12_many : MethodName := ⟨RX12, "many", "(I)I"⟩
abbrev cX12_keep : ByteArray := prog_1_method_64_code
def yX12_keep : MethodName := ⟨RX12, "keep", "()I"⟩
abbrev cX12_again : ByteArray := prog_1_method_65_code
def yX12_again : MethodName := ⟨RX12, "again", "()I"⟩
abbrev cX12_isWithin : ByteArray := prog_1_method_66_code
def yX12_isWithin : MethodName := ⟨RX12, "isWithin", "(III)Z"⟩
abbrev cX12_isOrIsUnder : ByteArray := prog_1_method_67_code
def yX12_isOrIsUnder : MethodName := ⟨RX12, "isOrIsUnder", "(II)Z"⟩
abbrev cX12_copyRow : ByteArray := prog_1_method_68_code
def yX12_copyRow : MethodName := ⟨RX12, "copyRow", "([I[I)V"⟩
def RX13 : String := "ShadowSchoolModel"
def TX13 : u_T := fun k => match k with
  | 0 => ("ShadowSchoolModel", "row", "[I", true)
  | 1 => ("ShadowSchoolModel", "saves", "[I", true)
  | 2 => ("ShadowSchoolModel", "s", "[I", true)
  | 3 => ("ShadowSchoolModel", "keptRow", "[I", true)
  | 4 => ("ShadowSchoolModel", "kept", "[I", true)
  | 5 => ("ShadowSchoolModel", "isKept", "Z", false)
  | 6 => ("ShadowSchoolModel", "tape", "[I", true)
  | 7 => ("ShadowSchoolModel", "taped", "I", false)
  | 8 => ("ShadowSchoolModel", "sort", "I", false)
  | 9 => ("ShadowSchoolModel", "begins", "I", false)
  | 10 => ("ShadowSchoolModel", "tokenEnds", "I", false)
  | 11 => ("ShadowSchoolModel", "word", "J", false)
  | 12 => ("ShadowSchoolModel", "value", "I", false)
  | 13 => ("ShadowSchoolModel", "good", "Z", false)
  | 14 => ("ShadowSchoolModel", "freshRules", "[I", true)
  | 15 => ("ShadowSchoolModel", "freshSteps", "[I", true)
  | 16 => ("ShadowSchoolModel", "stepMany", "I", false)
  | 17 => ("ShadowSchoolModel", "open", "I", false)
  | 18 => ("ShadowSchoolModel", "pile", "[I", true)
  | 19 => ("ShadowSchoolModel", "seats", "[I", true)
  | 20 => ("ShadowSchoolModel", "roomOf", "[I", true)
  | 21 => ("ShadowSchoolModel", "ways", "[I", true)
  | 22 => ("ShadowSchoolModel", "bestWorth", "I", false)
  | 23 => ("ShadowSchoolModel", "firstBest", "I", false)
  | 24 => ("ShadowSchoolModel", "bestMany", "I", false)
  | 25 => ("ShadowSchoolModel", "fewest", "I", false)
  | 26 => ("ShadowSchoolModel", "everLearnt", "I", false)
  | 27 => ("ShadowSchoolModel", "bestAct", "I", false)
  | 28 => ("ShadowSchoolModel", "rows", "[I", true)
  | 29 => ("ShadowSchoolModel", "rowMany", "I", false)
  | 30 => ("ShadowSchoolModel", "sorts", "[I", true)
  | 31 => ("ShadowSchoolModel", "sizes", "[I", true)
  | 32 => ("ShadowSchoolModel", "sheets", "[J", true)
  | 33 => ("ShadowSchoolModel", "held", "[I", true)
  | 34 => ("ShadowSchoolModel", "heldNumber", "[I", true)
  | 35 => ("ShadowSchoolModel", "heldSize", "[I", true)
  | 36 => ("ShadowSchoolModel", "kind", "I", false)
  | 37 => ("ShadowSchoolModel", "own", "I", false)
  | 38 => ("ShadowSchoolModel", "about", "I", false)
  | 39 => ("ShadowSchoolModel", "traced", "[I", true)
  | 40 => ("ShadowSchoolModel", "bodies", "I", false)
  | _ => ("ShadowSchoolModel", "isParted", "Z", false)
def tyX13 : Nat → FieldType := fun k => match k with
  | 0 => .array .int
  | 1 => .array .int
  | 2 => .array .int
  | 3 => .array .int
  | 4 => .array .int
  | 5 => .boolean
  | 6 => .array .int
  | 7 => .int
  | 8 => .int
  | 9 => .int
  | 10 => .int
  | 11 => .long
  | 12 => .int
  | 13 => .boolean
  | 14 => .array .int
  | 15 => .array .int
  | 16 => .int
  | 17 => .int
  | 18 => .array .int
  | 19 => .array .int
  | 20 => .array .int
  | 21 => .array .int
  | 22 => .int
  | 23 => .int
  | 24 => .int
  | 25 => .int
  | 26 => .int
  | 27 => .int
  | 28 => .array .int
  | 29 => .int
  | 30 => .array .int
  | 31 => .array .int
  | 32 => .array .long
  | 33 => .array .int
  | 34 => .array .int
  | 35 => .array .int
  | 36 => .int
  | 37 => .int
  | 38 => .int
  | 39 => .array .int
  | 40 => .int
  | _ => .boolean
theorem nmX13 : ∀ a, a < 42 → ∀ b, b < 42 → a ≠ b → (TX13 a).2.1 ≠ (TX13 b).2.1 := by decide +kernel
theorem tyX13_ok : ∀ k, k < 42 → parseFieldDescriptor (TX13 k).2.2.1 = some (tyX13 k) := by decide +kernel
abbrev cX13_init : ByteArray := prog_15_method_1_code
def yX13_init : MethodName := ⟨RX13, "<init>", "()V"⟩
abbrev cX13_in : ByteArray := prog_15_method_2_code
def yX13_in : MethodName := ⟨RX13, "in", "(III)Z"⟩
abbrev cX13_isShadow : ByteArray := prog_15_method_3_code
def yX13_isShadow : MethodName := ⟨RX13, "isShadow", "(I)Z"⟩
abbrev cX13_isLesson : ByteArray := prog_15_method_4_code
def yX13_isLesson : MethodName := ⟨RX13, "isLesson", "(I)Z"⟩
abbrev cX13_of : ByteArray := prog_15_method_5_code
def yX13_of : MethodName := ⟨RX13, "of", "(II)I"⟩
abbrev cX13_lessonNumber : ByteArray := prog_15_method_6_code
def yX13_lessonNumber : MethodName := ⟨RX13, "lessonNumber", "(II)I"⟩
abbrev cX13_ones : ByteArray := prog_15_method_7_code
def yX13_ones : MethodName := ⟨RX13, "ones", "(I)I"⟩
abbrev cX13_isOver : ByteArray := prog_15_method_8_code
def yX13_isOver : MethodName := ⟨RX13, "isOver", "()Z"⟩
abbrev cX13_hasLearnt : ByteArray := prog_15_method_9_code
def yX13_hasLearnt : MethodName := ⟨RX13, "hasLearnt", "(II)Z"⟩
abbrev cX13_pointsOf : ByteArray := prog_15_method_10_code
def yX13_pointsOf : MethodName := ⟨RX13, "pointsOf", "(II)I"⟩
abbrev cX13_save : ByteArray := prog_15_method_11_code
def yX13_save : MethodName := ⟨RX13, "save", "(I)V"⟩
abbrev cX13_load : ByteArray := prog_15_method_12_code
def yX13_load : MethodName := ⟨RX13, "load", "(I)V"⟩
abbrev cX13_paceBy : ByteArray := prog_15_method_13_code
def yX13_paceBy : MethodName := ⟨RX13, "paceBy", "(III)I"⟩
abbrev cX13_far : ByteArray := prog_15_method_14_code
def yX13_far : MethodName := ⟨RX13, "far", "(II)I"⟩
abbrev cX13_lengthBy : ByteArray := prog_15_method_15_code
def yX13_lengthBy : MethodName := ⟨RX13, "lengthBy", "(III)I"⟩
abbrev cX13_isUnder : ByteArray := prog_15_method_16_code
def yX13_isUnder : MethodName := ⟨RX13, "isUnder", "(II)Z"⟩
abbrev cX13_shadow : ByteArray := prog_15_method_17_code
def yX13_shadow : MethodName := ⟨RX13, "shadow", "(III)I"⟩
abbrev cX13_shadowOf : ByteArray := prog_15_method_18_code
def yX13_shadowOf : MethodName := ⟨RX13, "shadowOf", "(II)I"⟩
abbrev cX13_becomes : ByteArray := prog_15_method_19_code
def yX13_becomes : MethodName := ⟨RX13, "becomes", "(II)I"⟩
abbrev cX13_change : ByteArray := prog_15_method_20_code
def yX13_change : MethodName := ⟨RX13, "change", "(III)I"⟩
abbrev cX13_remake : ByteArray := prog_15_method_21_code
def yX13_remake : MethodName := ⟨RX13, "remake", "(II)I"⟩
abbrev cX13_lesson : ByteArray := prog_15_method_22_code
def yX13_lesson : MethodName := ⟨RX13, "lesson", "(IIIII)I"⟩
abbrev cX13_learntBy : ByteArray := prog_15_method_23_code
def yX13_learntBy : MethodName := ⟨RX13, "learntBy", "(I)I"⟩
abbrev cX13_lessonOf : ByteArray := prog_15_method_24_code
def yX13_lessonOf : MethodName := ⟨RX13, "lessonOf", "(II)I"⟩
abbrev cX13_points : ByteArray := prog_15_method_25_code
def yX13_points : MethodName := ⟨RX13, "points", "(II)I"⟩
abbrev cX13_dusk : ByteArray := prog_15_method_26_code
def yX13_dusk : MethodName := ⟨RX13, "dusk", "(I)I"⟩
abbrev cX13_anew : ByteArray := prog_15_method_27_code
def yX13_anew : MethodName := ⟨RX13, "anew", "()I"⟩
abbrev cX13_state : ByteArray := prog_15_method_28_code
def yX13_state : MethodName := ⟨RX13, "state", "(I)I"⟩
abbrev cX13_feed : ByteArray := prog_15_method_29_code
def yX13_feed : MethodName := ⟨RX13, "feed", "(JI)I"⟩
abbrev cX13_byteAt : ByteArray := prog_15_method_30_code
def yX13_byteAt : MethodName := ⟨RX13, "byteAt", "(I)I"⟩
abbrev cX13_isLetter : ByteArray := prog_15_method_31_code
def yX13_isLetter : MethodName := ⟨RX13, "isLetter", "(I)Z"⟩
abbrev cX13_isDigit : ByteArray := prog_15_method_32_code
def yX13_isDigit : MethodName := ⟨RX13, "isDigit", "(I)Z"⟩
abbrev cX13_advance : ByteArray := prog_15_method_33_code
def yX13_advance : MethodName := ⟨RX13, "advance", "()V"⟩
abbrev cX13_isWord : ByteArray := prog_15_method_34_code
def yX13_isWord : MethodName := ⟨RX13, "isWord", "(J)Z"⟩
abbrev cX13_isMark : ByteArray := prog_15_method_35_code
def yX13_isMark : MethodName := ⟨RX13, "isMark", "(I)Z"⟩
abbrev cX13_step : ByteArray := prog_15_method_36_code
def yX13_step : MethodName := ⟨RX13, "step", "(II)V"⟩
abbrev cX13_kindSeen : ByteArray := prog_15_method_37_code
def yX13_kindSeen : MethodName := ⟨RX13, "kindSeen", "()I"⟩
abbrev cX13_factSeen : ByteArray := prog_15_method_38_code
def yX13_factSeen : MethodName := ⟨RX13, "factSeen", "()I"⟩
abbrev cX13_readValue : ByteArray := prog_15_method_39_code
def yX13_readValue : MethodName := ⟨RX13, "readValue", "()V"⟩
abbrev cX13_readTest : ByteArray := prog_15_method_40_code
def yX13_readTest : MethodName := ⟨RX13, "readTest", "()V"⟩
abbrev cX13_readOne : ByteArray := prog_15_method_41_code
def yX13_readOne : MethodName := ⟨RX13, "readOne", "()V"⟩
abbrev cX13_readAll : ByteArray := prog_15_method_42_code
def yX13_readAll : MethodName := ⟨RX13, "readAll", "()V"⟩
abbrev cX13_readCondition : ByteArray := prog_15_method_43_code
def yX13_readCondition : MethodName := ⟨RX13, "readCondition", "()V"⟩
abbrev cX13_readRule : ByteArray := prog_15_method_44_code
def yX13_readRule : MethodName := ⟨RX13, "readRule", "(I)V"⟩
abbrev cX13_rules : ByteArray := prog_15_method_45_code
def yX13_rules : MethodName := ⟨RX13, "rules", "()I"⟩
abbrev cX13_factOf : ByteArray := prog_15_method_46_code
def yX13_factOf : MethodName := ⟨RX13, "factOf", "(II)I"⟩
abbrev cX13_told : ByteArray := prog_15_method_47_code
def yX13_told : MethodName := ⟨RX13, "told", "(Z)I"⟩
abbrev cX13_joined : ByteArray := prog_15_method_48_code
def yX13_joined : MethodName := ⟨RX13, "joined", "(IIII)I"⟩
abbrev cX13_holds : ByteArray := prog_15_method_49_code
def yX13_holds : MethodName := ⟨RX13, "holds", "(II)Z"⟩
abbrev cX13_emptySeats : ByteArray := prog_15_method_50_code
def yX13_emptySeats : MethodName := ⟨RX13, "emptySeats", "()V"⟩
abbrev cX13_isOpen : ByteArray := prog_15_method_51_code
def yX13_isOpen : MethodName := ⟨RX13, "isOpen", "(II)Z"⟩
abbrev cX13_ruleFor : ByteArray := prog_15_method_52_code
def yX13_ruleFor : MethodName := ⟨RX13, "ruleFor", "(I)I"⟩
abbrev cX13_lacks : ByteArray := prog_15_method_53_code
def yX13_lacks : MethodName := ⟨RX13, "lacks", "(II)I"⟩
abbrev cX13_choiceOf : ByteArray := prog_15_method_54_code
def yX13_choiceOf : MethodName := ⟨RX13, "choiceOf", "(I)I"⟩
abbrev cX13_sits : ByteArray := prog_15_method_55_code
def yX13_sits : MethodName := ⟨RX13, "sits", "(II)I"⟩
abbrev cX13_goes : ByteArray := prog_15_method_56_code
def yX13_goes : MethodName := ⟨RX13, "goes", "(I)I"⟩
abbrev cX13_hour : ByteArray := prog_15_method_57_code
def yX13_hour : MethodName := ⟨RX13, "hour", "()I"⟩
abbrev cX13_learnt : ByteArray := prog_15_method_58_code
def yX13_learnt : MethodName := ⟨RX13, "learnt", "(I)I"⟩
abbrev cX13_rest : ByteArray := prog_15_method_59_code
def yX13_rest : MethodName := ⟨RX13, "rest", "(I)I"⟩
abbrev cX13_restWorth : ByteArray := prog_15_method_60_code
def yX13_restWorth : MethodName := ⟨RX13, "restWorth", "(I)I"⟩
abbrev cX13_on : ByteArray := prog_15_method_61_code
def yX13_on : MethodName := ⟨RX13, "on", "(I)I"⟩
abbrev cX13_when : ByteArray := prog_15_method_62_code
def yX13_when : MethodName := ⟨RX13, "when", "(II)I"⟩
abbrev cX13_allLessons : ByteArray := prog_15_method_63_code
def yX13_allLessons : MethodName := ⟨RX13, "allLessons", "()I"⟩
abbrev cX13_letGo : ByteArray := prog_15_method_64_code
def yX13_letGo : MethodName := ⟨RX13, "letGo", "()I"⟩
abbrev cX13_crowd : ByteArray := prog_15_method_65_code
def yX13_crowd : MethodName := ⟨RX13, "crowd", "(I)I"⟩
abbrev cX13_dearest : ByteArray := prog_15_method_66_code
def yX13_dearest : MethodName := ⟨RX13, "dearest", "(II)I"⟩
abbrev cX13_quickFor : ByteArray := prog_15_method_67_code
def yX13_quickFor : MethodName := ⟨RX13, "quickFor", "(I)I"⟩
abbrev cX13_roomFor : ByteArray := prog_15_method_68_code
def yX13_roomFor : MethodName := ⟨RX13, "roomFor", "(I)I"⟩
abbrev cX13_letGoBy : ByteArray := prog_15_method_69_code
def yX13_letGoBy : MethodName := ⟨RX13, "letGoBy", "(I)I"⟩
abbrev cX13_quarrel : ByteArray := prog_15_method_70_code
def yX13_quarrel : MethodName := ⟨RX13, "quarrel", "(III)I"⟩
abbrev cX13_quarrels : ByteArray := prog_15_method_71_code
def yX13_quarrels : MethodName := ⟨RX13, "quarrels", "(I)I"⟩
abbrev cX13_isSeating : ByteArray := prog_15_method_72_code
def yX13_isSeating : MethodName := ⟨RX13, "isSeating", "()Z"⟩
abbrev cX13_isNextWay : ByteArray := prog_15_method_73_code
def yX13_isNextWay : MethodName := ⟨RX13, "isNextWay", "(I)Z"⟩
abbrev cX13_allInFirst : ByteArray := prog_15_method_74_code
def yX13_allInFirst : MethodName := ⟨RX13, "allInFirst", "()V"⟩
abbrev cX13_isFirstSeating : ByteArray := prog_15_method_75_code
def yX13_isFirstSeating : MethodName := ⟨RX13, "isFirstSeating", "(I)Z"⟩
abbrev cX13_rooms : ByteArray := prog_15_method_76_code
def yX13_rooms : MethodName := ⟨RX13, "rooms", "()I"⟩
abbrev cX13_seat : ByteArray := prog_15_method_77_code
def yX13_seat : MethodName := ⟨RX13, "seat", "(I)I"⟩
abbrev cX13_seatings : ByteArray := prog_15_method_78_code
def yX13_seatings : MethodName := ⟨RX13, "seatings", "(I)I"⟩
abbrev cX13_match : ByteArray := prog_15_method_79_code
def yX13_match : MethodName := ⟨RX13, "match", "(III)I"⟩
abbrev cX13_planHours : ByteArray := prog_15_method_80_code
def yX13_planHours : MethodName := ⟨RX13, "planHours", "(I)I"⟩
abbrev cX13_plans : ByteArray := prog_15_method_81_code
def yX13_plans : MethodName := ⟨RX13, "plans", "(I)I"⟩
abbrev cX13_actIn : ByteArray := prog_15_method_82_code
def yX13_actIn : MethodName := ⟨RX13, "actIn", "(III)I"⟩
abbrev cX13_plays : ByteArray := prog_15_method_83_code
def yX13_plays : MethodName := ⟨RX13, "plays", "(II)I"⟩
abbrev cX13_findBest : ByteArray := prog_15_method_84_code
def yX13_findBest : MethodName := ⟨RX13, "findBest", "(I)V"⟩
abbrev cX13_best : ByteArray := prog_15_method_85_code
def yX13_best : MethodName := ⟨RX13, "best", "(I)I"⟩
abbrev cX13_ith : ByteArray := prog_15_method_86_code
def yX13_ith : MethodName := ⟨RX13, "ith", "(II)I"⟩
abbrev cX13_ways : ByteArray := prog_15_method_87_code
def yX13_ways : MethodName := ⟨RX13, "ways", "(I)I"⟩
abbrev cX13_someLearnt : ByteArray := prog_15_method_88_code
def yX13_someLearnt : MethodName := ⟨RX13, "someLearnt", "()I"⟩
abbrev cX13_actsOf : ByteArray := prog_15_method_89_code
def yX13_actsOf : MethodName := ⟨RX13, "actsOf", "(II)I"⟩
abbrev cX13_findTaught : ByteArray := prog_15_method_90_code
def yX13_findTaught : MethodName := ⟨RX13, "findTaught", "(II)V"⟩
abbrev cX13_taught : ByteArray := prog_15_method_91_code
def yX13_taught : MethodName := ⟨RX13, "taught", "(II)I"⟩
abbrev cX13_bars : ByteArray := prog_15_method_92_code
def yX13_bars : MethodName := ⟨RX13, "bars", "(II)I"⟩
abbrev cX13_valueOf : ByteArray := prog_15_method_93_code
def yX13_valueOf : MethodName := ⟨RX13, "valueOf", "(IIZ)I"⟩
abbrev cX13_game : ByteArray := prog_15_method_94_code
def yX13_game : MethodName := ⟨RX13, "game", "(I)I"⟩
abbrev cX13_play : ByteArray := prog_15_method_95_code
def yX13_play : MethodName := ⟨RX13, "play", "(I)I"⟩
abbrev cX13_report : ByteArray := prog_15_method_96_code
def yX13_report : MethodName := ⟨RX13, "report", "(IIII)I"⟩
abbrev cX13_forget : ByteArray := prog_15_method_97_code
def yX13_forget : MethodName := ⟨RX13, "forget", "()I"⟩
abbrev cX13_fits : ByteArray := prog_15_method_98_code
def yX13_fits : MethodName := ⟨RX13, "fits", "(II)Z"⟩
abbrev cX13_firstMoment : ByteArray := prog_15_method_99_code
def yX13_firstMoment : MethodName := ⟨RX13, "firstMoment", "(I)I"⟩
abbrev cX13_span : ByteArray := prog_15_method_100_code
def yX13_span : MethodName := ⟨RX13, "span", "(I)I"⟩
abbrev cX13_liar : ByteArray := prog_15_method_101_code
def yX13_liar : MethodName := ⟨RX13, "liar", "()I"⟩
abbrev cX13_seed : ByteArray := prog_15_method_102_code
def yX13_seed : MethodName := ⟨RX13, "seed", "(I)I"⟩
abbrev cX13_lotGoes : ByteArray := prog_15_method_103_code
def yX13_lotGoes : MethodName := ⟨RX13, "lotGoes", "()I"⟩
abbrev cX13_lot : ByteArray := prog_15_method_104_code
def yX13_lot : MethodName := ⟨RX13, "lot", "()I"⟩
abbrev cX13_often : ByteArray := prog_15_method_105_code
def yX13_often : MethodName := ⟨RX13, "often", "(II)I"⟩
abbrev cX13_prove : ByteArray := prog_15_method_106_code
def yX13_prove : MethodName := ⟨RX13, "prove", "(I)I"⟩
abbrev cX13_isCell : ByteArray := prog_15_method_107_code
def yX13_isCell : MethodName := ⟨RX13, "isCell", "(II)Z"⟩
abbrev cX13_row : ByteArray := prog_15_method_108_code
def yX13_row : MethodName := ⟨RX13, "row", "(II)I"⟩
abbrev cX13_alterRow : ByteArray := prog_15_method_109_code
def yX13_alterRow : MethodName := ⟨RX13, "alterRow", "(III)I"⟩
abbrev cX13_isRight : ByteArray := prog_15_method_110_code
def yX13_isRight : MethodName := ⟨RX13, "isRight", "(I)Z"⟩
abbrev cX13_judge : ByteArray := prog_15_method_111_code
def yX13_judge : MethodName := ⟨RX13, "judge", "()I"⟩
abbrev cX13_isSheet : ByteArray := prog_15_method_112_code
def yX13_isSheet : MethodName := ⟨RX13, "isSheet", "(I)Z"⟩
abbrev cX13_lacksSort : ByteArray := prog_15_method_113_code
def yX13_lacksSort : MethodName := ⟨RX13, "lacksSort", "(II)I"⟩
abbrev cX13_sheet : ByteArray := prog_15_method_114_code
def yX13_sheet : MethodName := ⟨RX13, "sheet", "(III)I"⟩
abbrev cX13_narrowed : ByteArray := prog_15_method_115_code
def yX13_narrowed : MethodName := ⟨RX13, "narrowed", "(II)J"⟩
abbrev cX13_write : ByteArray := prog_15_method_116_code
def yX13_write : MethodName := ⟨RX13, "write", "(III)I"⟩
abbrev cX13_item : ByteArray := prog_15_method_117_code
def yX13_item : MethodName := ⟨RX13, "item", "(III)I"⟩
abbrev cX13_goAll : ByteArray := prog_15_method_118_code
def yX13_goAll : MethodName := ⟨RX13, "goAll", "(III)I"⟩
abbrev cX13_wouldGo : ByteArray := prog_15_method_119_code
def yX13_wouldGo : MethodName := ⟨RX13, "wouldGo", "(III)I"⟩
abbrev cX13_wouldBe : ByteArray := prog_15_method_120_code
def yX13_wouldBe : MethodName := ⟨RX13, "wouldBe", "(III)I"⟩
abbrev cX13_isHeld : ByteArray := prog_15_method_121_code
def yX13_isHeld : MethodName := ⟨RX13, "isHeld", "(II)Z"⟩
abbrev cX13_shelf : ByteArray := prog_15_method_122_code
def yX13_shelf : MethodName := ⟨RX13, "shelf", "(III)I"⟩
abbrev cX13_kindOn : ByteArray := prog_15_method_123_code
def yX13_kindOn : MethodName := ⟨RX13, "kindOn", "(I)I"⟩
abbrev cX13_taken : ByteArray := prog_15_method_124_code
def yX13_taken : MethodName := ⟨RX13, "taken", "(II)I"⟩
abbrev cX13_ran : ByteArray := prog_15_method_125_code
def yX13_ran : MethodName := ⟨RX13, "ran", "(I)V"⟩
abbrev cX13_plainLies : ByteArray := prog_15_method_126_code
def yX13_plainLies : MethodName := ⟨RX13, "plainLies", "(I)I"⟩
abbrev cX13_lies : ByteArray := prog_15_method_127_code
def yX13_lies : MethodName := ⟨RX13, "lies", "(I)I"⟩
abbrev cX13_plainTurns : ByteArray := prog_15_method_128_code
def yX13_plainTurns : MethodName := ⟨RX13, "plainTurns", "(I)I"⟩
abbrev cX13_turns : ByteArray := prog_15_method_129_code
def yX13_turns : MethodName := ⟨RX13, "turns", "(I)I"⟩
abbrev cX13_plainFolds : ByteArray := prog_15_method_130_code
def yX13_plainFolds : MethodName := ⟨RX13, "plainFolds", "(I)I"⟩
abbrev cX13_slowFolds : ByteArray := prog_15_method_131_code
def yX13_slowFolds : MethodName := ⟨RX13, "slowFolds", "(I)I"⟩
abbrev cX13_folds : ByteArray := prog_15_method_132_code
def yX13_folds : MethodName := ⟨RX13, "folds", "(I)I"⟩
abbrev cX13_plainAsks : ByteArray := prog_15_method_133_code
def yX13_plainAsks : MethodName := ⟨RX13, "plainAsks", "(I)I"⟩
abbrev cX13_asks : ByteArray := prog_15_method_134_code
def yX13_asks : MethodName := ⟨RX13, "asks", "(I)I"⟩
abbrev cX13_act : ByteArray := prog_15_method_135_code
def yX13_act : MethodName := ⟨RX13, "act", "(III)I"⟩
abbrev cX13_trace : ByteArray := prog_15_method_136_code
def yX13_trace : MethodName := ⟨RX13, "trace", "(I)I"⟩
abbrev cX13_pairsThatQuarrel : ByteArray := prog_15_method_137_code
def yX13_pairsThatQuarrel : MethodName := ⟨RX13, "pairsThatQuarrel", "()I"⟩
abbrev cX13_many : ByteArray := prog_15_method_138_code
def yX13_many : MethodName := ⟨RX13, "many", "(I)I"⟩
abbrev cX13_keep : ByteArray := prog_15_method_139_code
def yX13_keep : MethodName := ⟨RX13, "keep", "()I"⟩
abbrev cX13_again : ByteArray := prog_15_method_140_code
def yX13_again : MethodName := ⟨RX13, "again", "()I"⟩
def RJ6 : String := "java/lang/Integer"
abbrev cJ6_compare_7cf53 : ByteArray := prog_16_method_40_code
def yJ6_compare_7cf53 : MethodName := ⟨RJ6, "compare", "(II)I"⟩
abbrev cJ6_numberOfLeadingZeros_0f7a4 : ByteArray := prog_16_method_47_code
def yJ6_numberOfLeadingZeros_0f7a4 : MethodName := ⟨RJ6, "numberOfLeadingZeros", "(I)I"⟩
abbrev cJ6_numberOfTrailingZeros_0f7a4 : ByteArray := prog_16_method_48_code
def yJ6_numberOfTrailingZeros_0f7a4 : MethodName := ⟨RJ6, "numberOfTrailingZeros", "(I)I"⟩
abbrev cJ6_bitCount_0f7a4 : ByteArray := prog_16_method_49_code
def yJ6_bitCount_0f7a4 : MethodName := ⟨RJ6, "bitCount", "(I)I"⟩
def RJ9 : String := "java/lang/Math"
abbrev cJ9_abs_0f7a4 : ByteArray := prog_17_method_59_code
def yJ9_abs_0f7a4 : MethodName := ⟨RJ9, "abs", "(I)I"⟩
abbrev cJ9_max_7cf53 : ByteArray := prog_17_method_65_code
def yJ9_max_7cf53 : MethodName := ⟨RJ9, "max", "(II)I"⟩
abbrev cJ9_min_7cf53 : ByteArray := prog_17_method_69_code
def yJ9_min_7cf53 : MethodName := ⟨RJ9, "min", "(II)I"⟩
def RJ0 : String := "java/lang/String"
def RJ10 : String := "java/lang/System"
def RJ7 : String := "java/util/Arrays"
abbrev cJ7_fill_53178 : ByteArray := prog_22_method_103_code
def yJ7_fill_53178 : MethodName := ⟨RJ7, "fill", "([II)V"⟩
end
section
/-! ===== the abstract machine: memory as two functions (ints, longs) over a shape; instructions as Prop transformers (goal first) ===== -/
/-- a field's kind: inl 0 int, inl 1 long, inl 2 boolean; inr: a reference -/
abbrev jw_K : Type := Nat ⊕ Option Nat
/-- a cell's shape: an object (class, fields' kinds) or an array (type: 0 int, 1 long, else references; length; references) -/
abbrev jw_S : Type := (Nat × List jw_K) ⊕ (Nat × Nat × List (Option Nat))
abbrev jw_M : Type := (Nat → Nat → Int32) × (Nat → Nat → Int64)
abbrev jw_H : Type := List jw_S × jw_M
abbrev jw_L : Type := List (Option Value)
/-- resolution of an instruction: a kind or class or target, a number, a list -/
abbrev jw_R : Type := Nat × Nat × List (Int × Nat)
abbrev jw_I : Type := Nat × Instr × Nat × jw_R
abbrev jw_Q : Type := Option Value → jw_H → Prop
abbrev jw_Y : Type := MethodName × ByteArray × Nat × Option FieldType × (Nat × Nat) × List jw_I
def jw_up {α : Type} (M : Nat → Nat → α) (c k : Nat) (v : α) : Nat → Nat → α := fun c' => if c' = c then va_up (M c) k v else M c'
/-- a whole array laid into a cell -/
def jw_lay {α : Type} (M : Nat → Nat → α) (c : Nat) (f : Nat → α) : Nat → Nat → α := fun c' => if c' = c then f else M c'
def jw_self : Nat := 1000001
def jw_str : Nat := 1000000
def jw_tab : List Int32 := [1, 3, 5, 13, 17, 49]
def jw_txt : List Int32 := [115, 104, 97, 100, 111, 119, 32, 106, 111, 105, 110, 101, 100, 32, 103, 105, 102, 116, 101, 100, 32, 99, 111, 108, 111, 117, 114, 101, 100, 32, 115, 108, 111, 119, 32, 98, 111, 114, 114, 111, 119, 101, 100, 32, 108, 97, 115, 116, 32, 101, 97, 115, 121, 32, 112, 108, 97, 121, 32, 105, 102, 32, 111, 114, 32, 97, 110, 100, 32, 110, 111, 116, 32, 104, 111, 117, 114, 32, 108, 101, 97, 114, 110, 116, 32, 113, 117, 105, 99, 107, 32, 116, 97, 108, 108, 32, 110, 117, 109, 98, 101, 114, 32]
def jw_chr (i : Int32) : Int32 := jw_txt.getD i.toNatClampNeg 0
def jw_ssz : jw_S → Nat
  | .inl (_, ks) => ks.length
  | .inr (_, n, _) => n
def jw_sz : List jw_S → Nat
  | [] => 0
  | a :: l => jw_sz l + jw_ssz a
def jw_cat : List Value → Nat
  | [] => 0
  | v :: l => v.category + jw_cat l
/-- a value of two slots that is cut by a store behind it is gone -/
def jw_clr : Option Value → Option Value
  | some (.long _) => none
  | some (.double _) => none
  | u => u
def jw_cl1 (L : jw_L) : Nat → jw_L
  | 0 => L
  | k + 1 => match L[k]? with
    | some u => L.set k (jw_clr u)
    | none => L
def jw_find (ci : Nat) : List (Int × Nat) → Option Nat
  | [] => none
  | (a, b) :: l => bif a == (ci : Int) then some b else jw_find ci l
def jw_swt (x : Int32) : List (Int × Nat) → Nat → (Nat → Prop) → Prop
  | [], d, K => K d
  | (k, t) :: r, d, K => (x = Int32.ofInt k → K t) ∧ (¬ x = Int32.ofInt k → jw_swt x r d K)
def jw_k1 (st : List Value) (f : Int32 → Prop) : Prop := match st with
  | .int x :: _ => f x
  | _ => False
def jw_i1 (st : List Value) (f : Int32 → List Value → Prop) : Prop := match st with
  | .int x :: r => f x r
  | _ => False
def jw_i2 (st : List Value) (f : Int32 → Int32 → List Value → Prop) : Prop := match st with
  | .int y :: .int x :: r => f x y r
  | _ => False
def jw_l1 (st : List Value) (f : Int64 → List Value → Prop) : Prop := match st with
  | .long x :: r => f x r
  | _ => False
def jw_l2 (st : List Value) (f : Int64 → Int64 → List Value → Prop) : Prop := match st with
  | .long y :: .long x :: r => f x y r
  | _ => False
def jw_li (st : List Value) (f : Int64 → Int32 → List Value → Prop) : Prop := match st with
  | .int y :: .long x :: r => f x y r
  | _ => False
def jw_r1 (st : List Value) (f : Nat → List Value → Prop) : Prop := match st with
  | .ref x :: r => f x r
  | _ => False
/-- an array's place: index over reference -/
def jw_ix (st : List Value) (f : Int32 → Nat → List Value → Prop) : Prop := match st with
  | .int i :: .ref a :: r => f i a r
  | _ => False
def jw_ld (L : jw_L) (k : Nat) (f : Value → Prop) : Prop := match L[k]? with
  | some (some v) => f v
  | _ => False
def jw_ldi (L : jw_L) (k : Nat) (f : Int32 → Prop) : Prop := match L[k]? with
  | some (some (.int x)) => f x
  | _ => False
def jw_ldl (L : jw_L) (k : Nat) (f : Int64 → Prop) : Prop := match L[k]? with
  | some (some (.long x)) => f x
  | _ => False
def jw_lda (L : jw_L) (k : Nat) (f : Nat → Prop) : Prop := match L[k]? with
  | some (some (.ref x)) => f x
  | _ => False
/-- storing a value of one slot -/
def jw_sto (L : jw_L) (k : Nat) (v : Value) (f : jw_L → Prop) : Prop := bif Nat.blt k L.length then f ((jw_cl1 L k).set k (some v)) else False
def jw_stl (L : jw_L) (k : Nat) (x : Int64) (f : jw_L → Prop) : Prop := bif Nat.blt (k + 1) L.length then f (((jw_cl1 L k).set k (some (.long x))).set (k + 1) none) else False
def jw_get (h : jw_H) (ci k i : Nat) (f : Value → Prop) : Prop := match h.1[i]? with
  | some (.inl (cj, ks)) => bif cj == ci then (match ks[k]? with
    | some (.inl 1) => f (.long (h.2.2 i k))
    | some (.inl _) => f (.int (h.2.1 i k))
    | some (.inr o) => f (va_rf o)
    | none => False) else False
  | _ => False
def jw_put (h : jw_H) (ci k : Nat) (code : List (Int × Nat)) (st : List Value) (f : List Value → jw_H → Prop) : Prop := match code, st with
  | [(_, 0)], .int x :: .ref i :: r => (match h.1[i]? with
    | some (.inl (cj, ks)) => bif cj == ci then (match ks[k]? with
      | some (.inl 0) => f r (h.1, jw_up h.2.1 i k x, h.2.2)
      | _ => False) else False
    | _ => False)
  | [(_, 2)], .int x :: .ref i :: r => (match h.1[i]? with
    | some (.inl (cj, ks)) => bif cj == ci then (match ks[k]? with
      | some (.inl 2) => (x = 0 ∨ x = 1) ∧ f r (h.1, jw_up h.2.1 i k x, h.2.2)
      | _ => False) else False
    | _ => False)
  | [(_, 1)], .long x :: .ref i :: r => (match h.1[i]? with
    | some (.inl (cj, ks)) => bif cj == ci then (match ks[k]? with
      | some (.inl 1) => f r (h.1, h.2.1, jw_up h.2.2 i k x)
      | _ => False) else False
    | _ => False)
  | [(_, 3)], .ref j :: .ref i :: r => (match h.1[i]? with
    | some (.inl (cj, ks)) => bif cj == ci then (match ks[k]? with
      | some (.inr _) => f r (h.1.set i (.inl (cj, ks.set k (.inr (some j)))), h.2)
      | _ => False) else False
    | _ => False)
  | _, _ => False
def jw_iald (h : jw_H) (i : Int32) (a : Nat) (f : Int32 → Prop) : Prop := match h.1[a]? with
  | some (.inr (0, n, _)) => vp_in i n ∧ f (h.2.1 a i.toNatClampNeg)
  | some _ => False
  | none => a = jw_self ∧ vp_in i 6 ∧ f (jw_tab.getD i.toNatClampNeg 0)
def jw_lald (h : jw_H) (i : Int32) (a : Nat) (f : Int64 → Prop) : Prop := match h.1[a]? with
  | some (.inr (1, n, _)) => vp_in i n ∧ f (h.2.2 a i.toNatClampNeg)
  | _ => False
def jw_aald (h : jw_H) (i : Int32) (a : Nat) (f : Value → Prop) : Prop := match h.1[a]? with
  | some (.inr (t + 2, n, rs)) => bif Nat.blt t 3 then vp_in i n ∧ f (va_rf (rs.getD i.toNatClampNeg none)) else False
  | _ => False
def jw_iast (h : jw_H) (st : List Value) (f : List Value → jw_H → Prop) : Prop := match st with
  | .int x :: .int i :: .ref a :: r => (match h.1[a]? with
    | some (.inr (0, n, _)) => vp_in i n ∧ f r (h.1, jw_up h.2.1 a i.toNatClampNeg x, h.2.2)
    | _ => False)
  | _ => False
def jw_last (h : jw_H) (st : List Value) (f : List Value → jw_H → Prop) : Prop := match st with
  | .long x :: .int i :: .ref a :: r => (match h.1[a]? with
    | some (.inr (1, n, _)) => vp_in i n ∧ f r (h.1, h.2.1, jw_up h.2.2 a i.toNatClampNeg x)
    | _ => False)
  | _ => False
/-- storing a reference into an array of references: only at places that are numbers already, of objects of the array's class -/
def jw_aast (h : jw_H) (st : List Value) (f : List Value → jw_H → Prop) : Prop := match st with
  | .ref j :: .int i :: .ref a :: r => (match h.1[a]?, h.1[j]? with
    | some (.inr (t + 2, n, rs)), some (.inl (cj, _)) => vp_in i n ∧ (bif ((t == 0 && cj == 6) || (t == 1 && (cj == 0 || cj == 1 || cj == 2 || cj == 4 || cj == 10 || cj == 11))) && Nat.blt i.toNatClampNeg rs.length then f r (h.1.set a (.inr (t + 2, n, rs.set i.toNatClampNeg (some j))), h.2) else False)
    | _, _ => False)
  | _ => False
def jw_alen (h : jw_H) (a : Nat) (f : Int32 → Prop) : Prop := match h.1[a]? with
  | some (.inr (t, n, _)) => bif Nat.blt t 5 then f (Int32.ofNat n) else False
  | _ => False
/-- the cell that 'new' makes: kinds by class -/
def jw_new (h : jw_H) (lim : Nat × Nat) (ci : Nat) (ks : List jw_K) (f : Nat → jw_H → Prop) : Prop :=
  bif Nat.ble (h.1.length + 1) lim.1 && Nat.ble (jw_sz h.1 + ks.length) lim.2 then f h.1.length (h.1 ++ [.inl (ci, ks)], jw_lay h.2.1 h.1.length (fun _ => 0), jw_lay h.2.2 h.1.length (fun _ => 0)) else False
def jw_newa (h : jw_H) (lim : Nat × Nat) (t n : Nat) (f : Nat → jw_H → Prop) : Prop :=
  bif Nat.ble (h.1.length + 1) lim.1 && (Nat.ble (jw_sz h.1 + n) lim.2 && Nat.ble n 100000) then f h.1.length (h.1 ++ [.inr (t, n, bif Nat.blt t 2 then [] else List.replicate n none)], jw_lay h.2.1 h.1.length (fun _ => 0), jw_lay h.2.2 h.1.length (fun _ => 0)) else False
def jw_zero {α : Type} (z : α) (M : Nat → Nat → α) (n : Nat) : Nat → Nat → α := fun c => if c < n then M c else fun _ => z
/-- new int[n][k] -/
def jw_mna (h : jw_H) (lim : Nat × Nat) (n k : Nat) (f : Nat → jw_H → Prop) : Prop :=
  bif Nat.ble (h.1.length + (1 + n)) lim.1 && (Nat.ble (jw_sz h.1 + (n + n * k)) lim.2 && (Nat.ble n 1000 && Nat.ble k 1000)) then f h.1.length (h.1 ++ (.inr (4, n, (List.range n).map (fun i => some (h.1.length + 1 + i))) :: List.replicate n (.inr (0, k, []))), jw_zero 0 h.2.1 h.1.length, jw_zero 0 h.2.2 h.1.length) else False
def jw_ok (ret : Option FieldType) (x : Int32) (P : Prop) : Prop := match ret with
  | some .int => P
  | some .boolean => (x = 0 ∨ x = 1) ∧ P
  | _ => False
/-- a call: the arguments off the stack, the method by the receiver's class -/
def jw_call (C : Nat → List Value → jw_H → jw_Q → Prop) (bud : Nat → Nat × Nat) (lim : Nat × Nat) (res : jw_R) (st : List Value) (h : jw_H) (f : List Value → jw_H → Prop) : Prop :=
  match st.drop res.2.1 with
  | .ref b :: r => (match h.1[b]? with
    | some (.inl (ci, _)) => (match jw_find ci res.2.2 with
      | some mid => bif Nat.blt res.2.1 st.length && (Nat.ble (jw_cat r) 8 && ((bud mid == (0, 0)) || (Nat.ble (h.1.length + (bud mid).1) lim.1 && Nat.ble (jw_sz h.1 + (bud mid).2) lim.2))) then C mid (.ref b :: (st.take res.2.1).reverse) h (fun v h' => f (v.toList ++ r) h') else False
      | none => False)
    | _ => False)
  | _ => False
/-- a virtual call: of an object of the world, or of the String constant -/
def jw_callV (C : Nat → List Value → jw_H → jw_Q → Prop) (bud : Nat → Nat × Nat) (lim : Nat × Nat) (res : jw_R) (st : List Value) (h : jw_H) (f : List Value → jw_H → Prop) : Prop :=
  match st.drop res.2.1 with
  | .ref b :: r => (match h.1[b]? with
    | none => bif b == jw_str && (Nat.blt res.2.1 st.length && (Nat.ble (jw_cat r) 8 && (res.1 == 100000 || res.1 == 100001))) then C res.1 (.ref b :: (st.take res.2.1).reverse) h (fun v h' => f (v.toList ++ r) h') else False
    | some _ => jw_call C bud lim res st h f)
  | _ => False
def jw_callS (C : Nat → List Value → jw_H → jw_Q → Prop) (bud : Nat → Nat × Nat) (lim : Nat × Nat) (res : jw_R) (st : List Value) (h : jw_H) (f : List Value → jw_H → Prop) : Prop :=
  match jw_find 0 res.2.2 with
  | some mid => bif Nat.ble res.2.1 st.length && (Nat.ble (jw_cat (st.drop res.2.1)) 8 && ((bud mid == (0, 0)) || (Nat.ble (h.1.length + (bud mid).1) lim.1 && Nat.ble (jw_sz h.1 + (bud mid).2) lim.2))) then C mid (st.take res.2.1).reverse h (fun v h' => f (v.toList ++ st.drop res.2.1) h') else False
  | none => False
/-- System.arraycopy of ints -/
def jw_copy (h : jw_H) (st : List Value) (f : List Value → jw_H → Prop) : Prop := match st with
  | .int n :: .int dp :: .ref a :: .int sp :: .ref a0 :: r => (match h.1[a]?, h.1[a0]? with
    | some (.inr (0, n1, _)), some (.inr (0, n0, _)) => (¬ sp < 0 ∧ ¬ dp < 0 ∧ ¬ n < 0 ∧ sp.toNatClampNeg + n.toNatClampNeg ≤ n0 ∧ dp.toNatClampNeg + n.toNatClampNeg ≤ n1) ∧ (bif Nat.ble (jw_cat r) 8 then f r (h.1, jw_lay h.2.1 a (va_cpy (h.2.1 a0) (h.2.1 a) sp.toNatClampNeg dp.toNatClampNeg n.toNatClampNeg), h.2.2) else False)
    | _, _ => False)
  | _ => False
/-- one instruction: what must hold that the machine comes to Q; K: the rest -/
def jw_step (kd : Nat → List jw_K) (C : Nat → List Value → jw_H → jw_Q → Prop) (bud : Nat → Nat × Nat) (lim : Nat × Nat) (ret : Option FieldType) (q : jw_I) (L : jw_L) (st : List Value) (h : jw_H) (Q : jw_Q) (K : Nat → jw_L → List Value → jw_H → Prop) : Prop :=
  match q.2.1 with
  | .iconst i => K (q.1 + 1) L (.int (Int32.ofInt i) :: st) h
  | .bipush i => K (q.1 + 2) L (.int (Int8.ofInt i).toInt32 :: st) h
  | .sipush i => K (q.1 + 3) L (.int (Int16.ofInt i).toInt32 :: st) h
  | .lconst i => K (q.1 + 1) L (.long (Int64.ofNat (i : Nat)) :: st) h
  | .ldc _ => match q.2.2.2.2.2 with
    | [(v, _)] => bif q.2.2.2.1 == 0 then K (q.1 + 2) L (.int (Int32.ofInt v) :: st) h else K (q.1 + 2) L (.ref jw_str :: st) h
    | _ => False
  | .ldc_w _ => match q.2.2.2.2.2 with
    | [(v, _)] => K (q.1 + 3) L (.int (Int32.ofInt v) :: st) h
    | _ => False
  | .ldc2_w _ => match q.2.2.2.2.2 with
    | [(v, _)] => K (q.1 + 3) L (.long (Int64.ofInt v) :: st) h
    | _ => False
  | .iload_n k => jw_ldi L k fun x => K (q.1 + 1) L (.int x :: st) h
  | .iload k => jw_ldi L k fun x => K (q.1 + 2) L (.int x :: st) h
  | .lload_n k => jw_ldl L k fun x => K (q.1 + 1) L (.long x :: st) h
  | .lload k => jw_ldl L k fun x => K (q.1 + 2) L (.long x :: st) h
  | .aload_n k => jw_lda L k fun x => K (q.1 + 1) L (.ref x :: st) h
  | .aload k => jw_lda L k fun x => K (q.1 + 2) L (.ref x :: st) h
  | .istore_n k => jw_i1 st fun x r => jw_sto L k (.int x) fun L => K (q.1 + 1) L r h
  | .istore k => jw_i1 st fun x r => jw_sto L k (.int x) fun L => K (q.1 + 2) L r h
  | .lstore_n k => jw_l1 st fun x r => jw_stl L k x fun L => K (q.1 + 1) L r h
  | .lstore k => jw_l1 st fun x r => jw_stl L k x fun L => K (q.1 + 2) L r h
  | .astore_n k => jw_r1 st fun x r => jw_sto L k (.ref x) fun L => K (q.1 + 1) L r h
  | .astore k => jw_r1 st fun x r => jw_sto L k (.ref x) fun L => K (q.1 + 2) L r h
  | .iinc k n => jw_ldi L k fun x => jw_sto L k (.int (x + Int32.ofInt n)) fun L => K (q.1 + 3) L st h
  | .iadd => jw_i2 st fun x y r => K (q.1 + 1) L (.int (x + y) :: r) h
  | .isub => jw_i2 st fun x y r => K (q.1 + 1) L (.int (x - y) :: r) h
  | .imul => jw_i2 st fun x y r => K (q.1 + 1) L (.int (x * y) :: r) h
  | .iand => jw_i2 st fun x y r => K (q.1 + 1) L (.int (x &&& y) :: r) h
  | .ior => jw_i2 st fun x y r => K (q.1 + 1) L (.int (x ||| y) :: r) h
  | .ixor => jw_i2 st fun x y r => K (q.1 + 1) L (.int (x ^^^ y) :: r) h
  | .idiv => jw_i2 st fun x y r => ¬ y = 0 ∧ K (q.1 + 1) L (.int (x / y) :: r) h
  | .irem => jw_i2 st fun x y r => ¬ y = 0 ∧ K (q.1 + 1) L (.int (x - x / y * y) :: r) h
  | .ishl => jw_i2 st fun x y r => K (q.1 + 1) L (.int (x <<< (y &&& 31)) :: r) h
  | .ishr => jw_i2 st fun x y r => K (q.1 + 1) L (.int (x >>> (y &&& 31)) :: r) h
  | .iushr => jw_i2 st fun x y r => K (q.1 + 1) L (.int (x.toUInt32 >>> (y.toUInt32 &&& Int32.toUInt32 31)).toInt32 :: r) h
  | .ineg => jw_i1 st fun x r => K (q.1 + 1) L (.int (-x) :: r) h
  | .ladd => jw_l2 st fun x y r => K (q.1 + 1) L (.long (x + y) :: r) h
  | .lsub => jw_l2 st fun x y r => K (q.1 + 1) L (.long (x - y) :: r) h
  | .lmul => jw_l2 st fun x y r => K (q.1 + 1) L (.long (x * y) :: r) h
  | .land => jw_l2 st fun x y r => K (q.1 + 1) L (.long (x &&& y) :: r) h
  | .lor => jw_l2 st fun x y r => K (q.1 + 1) L (.long (x ||| y) :: r) h
  | .lshl => jw_li st fun x y r => K (q.1 + 1) L (.long (x <<< (y.toInt64 &&& 63)) :: r) h
  | .lshr => jw_li st fun x y r => K (q.1 + 1) L (.long (x >>> (y.toInt64 &&& 63)) :: r) h
  | .lcmp => jw_l2 st fun x y r => K (q.1 + 1) L (.int (lg_cmp x y) :: r) h
  | .i2l => jw_i1 st fun x r => K (q.1 + 1) L (.long x.toInt64 :: r) h
  | .l2i => jw_l1 st fun x r => K (q.1 + 1) L (.int x.toInt32 :: r) h
  | .i2b => jw_i1 st fun x r => K (q.1 + 1) L (.int x.toInt8.toInt32 :: r) h
  | .i2s => jw_i1 st fun x r => K (q.1 + 1) L (.int x.toInt16.toInt32 :: r) h
  | .dup => match st with
    | .int x :: r => K (q.1 + 1) L (.int x :: .int x :: r) h
    | .ref x :: r => K (q.1 + 1) L (.ref x :: .ref x :: r) h
    | _ => False
  | .dup_x1 => match st with
    | .int x :: .ref y :: r => K (q.1 + 1) L (.int x :: .ref y :: .int x :: r) h
    | .int x :: .int y :: r => K (q.1 + 1) L (.int x :: .int y :: .int x :: r) h
    | _ => False
  | .dup2 => match st with
    | .int x :: .ref y :: r => K (q.1 + 1) L (.int x :: .ref y :: .int x :: .ref y :: r) h
    | _ => False
  | .pop => match st with
    | .int _ :: r => K (q.1 + 1) L r h
    | .ref _ :: r => K (q.1 + 1) L r h
    | _ => False
  | .goto _ => K q.2.2.2.1 L st h
  | .ifCond .eq _ => jw_i1 st fun x r => (x = 0 → K q.2.2.2.1 L r h) ∧ (¬ x = 0 → K (q.1 + 3) L r h)
  | .ifCond .ne _ => jw_i1 st fun x r => (¬ x = 0 → K q.2.2.2.1 L r h) ∧ (x = 0 → K (q.1 + 3) L r h)
  | .ifCond .lt _ => jw_i1 st fun x r => (x < 0 → K q.2.2.2.1 L r h) ∧ (¬ x < 0 → K (q.1 + 3) L r h)
  | .ifCond .ge _ => jw_i1 st fun x r => (0 ≤ x → K q.2.2.2.1 L r h) ∧ (¬ 0 ≤ x → K (q.1 + 3) L r h)
  | .ifCond .gt _ => jw_i1 st fun x r => (0 < x → K q.2.2.2.1 L r h) ∧ (¬ 0 < x → K (q.1 + 3) L r h)
  | .ifCond .le _ => jw_i1 st fun x r => (x ≤ 0 → K q.2.2.2.1 L r h) ∧ (¬ x ≤ 0 → K (q.1 + 3) L r h)
  | .if_icmp .eq _ => jw_i2 st fun x y r => (x = y → K q.2.2.2.1 L r h) ∧ (¬ x = y → K (q.1 + 3) L r h)
  | .if_icmp .ne _ => jw_i2 st fun x y r => (¬ x = y → K q.2.2.2.1 L r h) ∧ (x = y → K (q.1 + 3) L r h)
  | .if_icmp .lt _ => jw_i2 st fun x y r => (x < y → K q.2.2.2.1 L r h) ∧ (¬ x < y → K (q.1 + 3) L r h)
  | .if_icmp .ge _ => jw_i2 st fun x y r => (y ≤ x → K q.2.2.2.1 L r h) ∧ (¬ y ≤ x → K (q.1 + 3) L r h)
  | .if_icmp .gt _ => jw_i2 st fun x y r => (y < x → K q.2.2.2.1 L r h) ∧ (¬ y < x → K (q.1 + 3) L r h)
  | .if_icmp .le _ => jw_i2 st fun x y r => (x ≤ y → K q.2.2.2.1 L r h) ∧ (¬ x ≤ y → K (q.1 + 3) L r h)
  | .tableswitch _ _ _ _ => jw_i1 st fun x r => jw_swt x q.2.2.2.2.2 q.2.2.2.1 fun t => K t L r h
  | .lookupswitch _ _ => jw_i1 st fun x r => jw_swt x q.2.2.2.2.2 q.2.2.2.1 fun t => K t L r h
  | .getfield _ => jw_r1 st fun i r => jw_get h q.2.2.2.1 q.2.2.2.2.1 i fun v => K (q.1 + 3) L (v :: r) h
  | .putfield _ => jw_put h q.2.2.2.1 q.2.2.2.2.1 q.2.2.2.2.2 st fun r h => K (q.1 + 3) L r h
  | .getstatic _ => K (q.1 + 3) L (.ref jw_self :: st) h
  | .iaload => jw_ix st fun i a r => jw_iald h i a fun x => K (q.1 + 1) L (.int x :: r) h
  | .laload => jw_ix st fun i a r => jw_lald h i a fun x => K (q.1 + 1) L (.long x :: r) h
  | .aaload => jw_ix st fun i a r => jw_aald h i a fun v => K (q.1 + 1) L (v :: r) h
  | .iastore => jw_iast h st fun r h => K (q.1 + 1) L r h
  | .lastore => jw_last h st fun r h => K (q.1 + 1) L r h
  | .aastore => jw_aast h st fun r h => K (q.1 + 1) L r h
  | .arraylength => jw_r1 st fun a r => jw_alen h a fun x => K (q.1 + 1) L (.int x :: r) h
  | .new _ => jw_new h lim q.2.2.2.1 (kd q.2.2.2.1) fun a h => K (q.1 + 3) L (.ref a :: st) h
  | .newarray _ => jw_i1 st fun x r => ¬ x < 0 ∧ jw_newa h lim q.2.2.2.1 x.toNatClampNeg fun a h => K (q.1 + 2) L (.ref a :: r) h
  | .anewarray _ => jw_i1 st fun x r => ¬ x < 0 ∧ jw_newa h lim q.2.2.2.1 x.toNatClampNeg fun a h => K (q.1 + 3) L (.ref a :: r) h
  | .multianewarray _ _ => match st with
    | .int k :: .int n :: r => ¬ n < 0 ∧ ¬ k < 0 ∧ jw_mna h lim n.toNatClampNeg k.toNatClampNeg fun a h => K (q.1 + 4) L (.ref a :: r) h
    | _ => False
  | .invokevirtual _ => jw_callV C bud lim q.2.2.2 st h fun st h => K (q.1 + 3) L st h
  | .invokespecial _ => bif q.2.2.2.1 == 7 then jw_r1 st fun _ r => (bif Nat.ble (jw_cat r) 8 then K (q.1 + 3) L r h else False) else jw_call C bud lim q.2.2.2 st h fun st h => K (q.1 + 3) L st h
  | .invokestatic _ => bif q.2.2.2.1 == 8 then jw_copy h st fun r h => K (q.1 + 3) L r h else jw_callS C bud lim q.2.2.2 st h fun st h => K (q.1 + 3) L st h
  | .ireturn => match st with
    | [.int x] => jw_ok ret x (Q (some (.int x)) h)
    | _ => False
  | .lreturn => match st with
    | [.long x] => (bif ret == some .long then Q (some (.long x)) h else False)
    | _ => False
  | .areturn => match st with
    | [.ref x] => (match ret with | some (.object _) => Q (some (.ref x)) h | _ => False)
    | _ => False
  | .return_ => match st with
    | [] => (bif ret == none then Q none h else False)
    | _ => False
  | _ => False
def jw_at (pc : Nat) : List jw_I → Option jw_I
  | [] => none
  | q :: l => bif q.1 == pc then some q else jw_at pc l
/-- n instructions at most -/
def jw_wp (kd : Nat → List jw_K) (C : Nat → List Value → jw_H → jw_Q → Prop) (bud : Nat → Nat × Nat) (lim : Nat × Nat) (ret : Option FieldType) (cs : List jw_I) (Q : jw_Q) : Nat → Nat → jw_L → List Value → jw_H → Prop
  | 0, _, _, _, _ => False
  | n + 1, pc, L, st, h => match jw_at pc cs with
    | some q => jw_step kd C bud lim ret q L st h Q (jw_wp kd C bud lim ret cs Q n)
    | none => False
def jw_args : List Value → jw_L
  | [] => []
  | .long x :: l => some (.long x) :: none :: jw_args l
  | v :: l => some v :: jw_args l
def jw_entry (as : List Value) (nL : Nat) : jw_L := jw_args as ++ List.replicate (nL - (jw_args as).length) none
def jw_bud (ys : List jw_Y) (mid : Nat) : Nat × Nat := match ys[mid]? with
  | some y => y.2.2.2.2.1
  | none => (0, 0)
def jw_nod : List Value → Bool
  | [] => true
  | .double _ :: _ => false
  | .retAddr _ :: _ => false
  | _ :: l => jw_nod l
/-- a method, called with so many frames left below it -/
def jw_C (kd : Nat → List jw_K) (ys : List jw_Y) : Nat → Nat → List Value → jw_H → jw_Q → Prop
  | 0, _, _, _, _ => False
  | d + 1, mid, as, h, Q => match ys[mid]? with
    | some y => bif Nat.ble (jw_args as).length y.2.2.1 && jw_nod as then ∃ n, jw_wp kd (jw_C kd ys d) (jw_bud ys) (h.1.length + y.2.2.2.2.1.1, jw_sz h.1 + y.2.2.2.2.1.2) y.2.2.2.1 y.2.2.2.2.2 (fun v h' => Q v h' ∧ h'.1.length = h.1.length + y.2.2.2.2.1.1 ∧ jw_sz h'.1 = jw_sz h.1 + y.2.2.2.2.1.2) n 0 (jw_entry as y.2.2.1) [] h else False
    | none => (mid = 100000 ∧ 4 ≤ d ∧ as = [.ref jw_str] ∧ Q (some (.int 103)) h) ∨ (mid = 100001 ∧ 4 ≤ d ∧ ∃ i, as = [.ref jw_str, .int i] ∧ vp_in i 103 ∧ Q (some (.int (jw_chr i))) h)
end
section
/-! ===== the abstract machine's world as the kit's: addresses by α, array classes by cy ===== -/
def jw_ad (α : Nat → Nat) : Value → Value
  | .ref i => .ref (α i)
  | v => v
theorem jw_ad_cat (α : Nat → Nat) (v : Value) : (jw_ad α v).category = v.category := by cases v <;> rfl
theorem jw_ad_rf (α : Nat → Nat) (o : Option Nat) : jw_ad α (va_rf o) = va_rf (o.map α) := by cases o <;> rfl
def jw_fld (α : Nat → Nat) (M : jw_M) (i k : Nat) : jw_K → Value
  | .inl 1 => .long (M.2 i k)
  | .inl _ => .int (M.1 i k)
  | .inr o => va_rf (o.map α)
def jw_cell (cy : Nat → ClassId) (α : Nat → Nat) (M : jw_M) (i : Nat) : jw_S → va_E
  | .inl (ci, ks) => .inr (ci, ks.mapIdx (jw_fld α M i))
  | .inr (0, n, _) => .inl (cy 0, n, .inl (M.1 i))
  | .inr (1, n, _) => .inl (cy 1, n, .inr (.inl (M.2 i)))
  | .inr (t + 2, n, rs) => .inl (cy (t + 2), n, .inr (.inr (.inr (.inr (fun k => (rs.getD k none).map α)))))
def jw_wld (cy : Nat → ClassId) (α : Nat → Nat) (h : jw_H) : va_W := h.1.mapIdx (fun i sh => (α i, jw_cell cy α h.2 i sh))
theorem jw_wld_get (cy : Nat → ClassId) (α : Nat → Nat) (h : jw_H) (i : Nat) : (jw_wld cy α h)[i]? = (h.1[i]?).map (fun sh => (α i, jw_cell cy α h.2 i sh)) := by
  simp [jw_wld, List.getElem?_mapIdx]
theorem jw_wld_some {cy : Nat → ClassId} {α : Nat → Nat} {h : jw_H} {i : Nat} {sh : jw_S} (hi : h.1[i]? = some sh) : (jw_wld cy α h)[i]? = some (α i, jw_cell cy α h.2 i sh) := by
  rw [jw_wld_get, hi]; rfl
theorem jw_wld_length (cy : Nat → ClassId) (α : Nat → Nat) (h : jw_H) : (jw_wld cy α h).length = h.1.length := by simp [jw_wld]
theorem jw_up_ne {α : Type} {M : Nat → Nat → α} {c k : Nat} {v : α} {i : Nat} (h : i ≠ c) : jw_up M c k v i = M i := if_neg h
theorem jw_up_eq {α : Type} {M : Nat → Nat → α} {c k : Nat} {v : α} : jw_up M c k v c = va_up (M c) k v := if_pos rfl
theorem jw_lay_ne {α : Type} {M : Nat → Nat → α} {c : Nat} {f : Nat → α} {i : Nat} (h : i ≠ c) : jw_lay M c f i = M i := if_neg h
theorem jw_lay_eq {α : Type} {M : Nat → Nat → α} {c : Nat} {f : Nat → α} : jw_lay M c f c = f := if_pos rfl
theorem jw_fld_same {α : Nat → Nat} {M M' : jw_M} {i k : Nat} (h1 : M'.1 i k = M.1 i k) (h2 : M'.2 i k = M.2 i k) (kd : jw_K) : jw_fld α M' i k kd = jw_fld α M i k kd := by
  unfold jw_fld
  split
  · rw [h2]
  · rw [h1]
  · rfl
theorem jw_cell_same {cy : Nat → ClassId} {α : Nat → Nat} {M M' : jw_M} {i : Nat} (h1 : M'.1 i = M.1 i) (h2 : M'.2 i = M.2 i) (sh : jw_S) : jw_cell cy α M' i sh = jw_cell cy α M i sh := by
  unfold jw_cell
  split
  · congr 3
    funext k kd
    exact jw_fld_same (by rw [h1]) (by rw [h2]) kd
  · rw [h1]
  · rw [h2]
  · rfl
/-- the world with one cell changed -/
theorem jw_wld_set {cy : Nat → ClassId} {α : Nat → Nat} {h h' : jw_H} {a : Nat} {sh sh' : jw_S} (ha : h.1[a]? = some sh) (hs : h'.1 = h.1.set a sh') (h1 : ∀ i, i ≠ a → h'.2.1 i = h.2.1 i) (h2 : ∀ i, i ≠ a → h'.2.2 i = h.2.2 i) : jw_wld cy α h' = (jw_wld cy α h).set a (α a, jw_cell cy α h'.2 a sh') := by
  apply List.ext_getElem?
  intro i
  have hal : a < h.1.length := (List.getElem?_eq_some_iff.mp ha).1
  rw [jw_wld_get, hs, List.getElem?_set, List.getElem?_set, jw_wld_get, jw_wld_length]
  by_cases e : a = i
  · subst e
    simp [hal]
  · rw [if_neg e, if_neg e]
    cases hi : h.1[i]? with
    | none => rfl
    | some s0 => simp [jw_cell_same (h1 i (fun q => e q.symm)) (h2 i (fun q => e q.symm)) s0]
theorem jw_list_set {α : Type} {l : List α} {a : Nat} {x : α} (h : l[a]? = some x) : l.set a x = l := by
  apply List.ext_getElem?
  intro i
  rw [List.getElem?_set]
  by_cases e : a = i
  · subst e
    rw [if_pos rfl, if_pos (List.getElem?_eq_some_iff.mp h).1, h]
  · rw [if_neg e]
theorem jw_wld_keep {cy : Nat → ClassId} {α : Nat → Nat} {h h' : jw_H} {a : Nat} {sh : jw_S} (ha : h.1[a]? = some sh) (hs : h'.1 = h.1) (h1 : ∀ i, i ≠ a → h'.2.1 i = h.2.1 i) (h2 : ∀ i, i ≠ a → h'.2.2 i = h.2.2 i) : jw_wld cy α h' = (jw_wld cy α h).set a (α a, jw_cell cy α h'.2 a sh) :=
  jw_wld_set ha (by rw [hs, jw_list_set ha]) h1 h2
/-- an object's cell with one field changed -/
theorem jw_flds_up {α : Nat → Nat} {M M' : jw_M} {i k : Nat} {ks : List jw_K} {kd kd' : jw_K} {v : Value} (hk : ks[k]? = some kd) (hv : jw_fld α M' i k kd' = v) (h : ∀ j, j ≠ k → M'.1 i j = M.1 i j ∧ M'.2 i j = M.2 i j) : (ks.set k kd').mapIdx (jw_fld α M' i) = (ks.mapIdx (jw_fld α M i)).set k v := by
  apply List.ext_getElem?
  intro j
  have hl := (List.getElem?_eq_some_iff.mp hk).1
  rw [List.getElem?_mapIdx, List.getElem?_set, List.getElem?_set, List.getElem?_mapIdx, List.length_mapIdx]
  by_cases e : k = j
  · subst e
    simp [hl, hv]
  · rw [if_neg e, if_neg e]
    cases hj : ks[j]? with
    | none => rfl
    | some q => simp [jw_fld_same (h j (fun z => e z.symm)).1 (h j (fun z => e z.symm)).2 q]
/-! the locals -/
def jw_asc (α : Nat → Nat) : Nat → jw_L → List (Nat × Value)
  | _, [] => []
  | k, none :: l => jw_asc α (k + 1) l
  | k, some v :: l => (k, jw_ad α v) :: jw_asc α (k + 1) l
theorem jw_asc_mem {α : Nat → Nat} {q : Nat × Value} : ∀ {L : jw_L} {k : Nat}, q ∈ jw_asc α k L ↔ ∃ (j : Nat) (v : Value), L[j]? = some (some v) ∧ q = (k + j, jw_ad α v)
  | [], k => by simp [jw_asc]
  | none :: l, k => by
    rw [jw_asc, jw_asc_mem]
    constructor
    · rintro ⟨j, v, h1, h2⟩
      exact ⟨j + 1, v, by simpa using h1, by rw [h2]; congr 1; omega⟩
    · rintro ⟨j, v, h1, h2⟩
      cases j with
      | zero => simp at h1
      | succ j => exact ⟨j, v, by simpa using h1, by rw [h2]; congr 1; omega⟩
  | some u :: l, k => by
    rw [jw_asc, List.mem_cons, jw_asc_mem]
    constructor
    · rintro (h | ⟨j, v, h1, h2⟩)
      · exact ⟨0, u, rfl, by rw [h]; rfl⟩
      · exact ⟨j + 1, v, by simpa using h1, by rw [h2]; congr 1; omega⟩
    · rintro ⟨j, v, h1, h2⟩
      cases j with
      | zero =>
        left
        simp at h1
        rw [h2, h1]
        rfl
      | succ j => exact Or.inr ⟨j, v, by simpa using h1, by rw [h2]; congr 1; omega⟩
theorem jw_loc {α : Nat → Nat} {ls : Array Slot} {nL k : Nat} {L : jw_L} {v : Value} (hl : lv_has ls nL (jw_asc α 0 L)) (hk : L[k]? = some (some v)) : ls[k]? = some (.val (jw_ad α v)) :=
  hl.2.2 (k, jw_ad α v) (jw_asc_mem.mpr ⟨k, v, hk, by simp⟩)
theorem jw_cl1_len (L : jw_L) : ∀ k, (jw_cl1 L k).length = L.length
  | 0 => rfl
  | k + 1 => by
    rw [jw_cl1]
    split
    · rw [List.length_set]
    · rfl
theorem jw_cl1_get {L : jw_L} {j : Nat} {u : Value} : ∀ {k : Nat}, (jw_cl1 L k)[j]? = some (some u) → L[j]? = some (some u) ∧ (j + 1 = k → u.category = 1)
  | 0, h => ⟨h, fun q => by omega⟩
  | k + 1, h => by
    rw [jw_cl1] at h
    split at h
    · rename_i w hw
      rw [List.getElem?_set] at h
      by_cases e : k = j
      · subst e
        rw [if_pos rfl, if_pos (List.getElem?_eq_some_iff.mp hw).1] at h
        have h2 : jw_clr w = some u := Option.some.inj h
        unfold jw_clr at h2
        split at h2
        · cases h2
        · cases h2
        · rename_i n1 n2
          rw [h2] at n1 n2 hw
          refine ⟨hw, fun _ => ?_⟩
          cases u with
          | long v => exact (n1 v rfl).elim
          | double v => exact (n2 v rfl).elim
          | _ => rfl
      · rw [if_neg e] at h
        exact ⟨h, fun q => by omega⟩
    · rename_i hw
      refine ⟨h, fun q => ?_⟩
      have : j = k := by omega
      subst this
      rw [hw] at h
      cases h
theorem jw_sto1 {α : Nat → Nat} {ls : Array Slot} {nL k : Nat} {L : jw_L} {v : Value} (h : lv_has ls nL ((k, jw_ad α v) :: (jw_asc α 0 L).filter (fun q => !(q.1 == k) && !(q.1 + 1 == k && q.2.category == 2)))) (hk : k < L.length) : lv_has ls nL (jw_asc α 0 ((jw_cl1 L k).set k (some v))) := by
  refine ⟨h.1, h.2.1, fun q hq => h.2.2 q ?_⟩
  obtain ⟨j, u, hj, rfl⟩ := jw_asc_mem.mp hq
  rw [List.getElem?_set, jw_cl1_len] at hj
  by_cases e : k = j
  · subst e
    rw [if_pos rfl, if_pos hk] at hj
    cases hj
    simp
  · rw [if_neg e] at hj
    obtain ⟨hj, hcat⟩ := jw_cl1_get hj
    refine List.mem_cons_of_mem _ (List.mem_filter.mpr ⟨jw_asc_mem.mpr ⟨j, u, hj, rfl⟩, ?_⟩)
    have e2 : ¬ j = k := fun q => e q.symm
    by_cases e3 : j + 1 = k
    · simp [e2, jw_ad_cat, hcat e3]
    · simp [e2, e3]
theorem jw_stol {α : Nat → Nat} {ls : Array Slot} {nL k : Nat} {L : jw_L} {x : Int64} (h : lv_has ls nL ((k, .long x) :: (jw_asc α 0 L).filter (fun q => !(q.1 == k) && (!(q.1 == k + 1) && !(q.1 + 1 == k && q.2.category == 2))))) (hk : k + 1 < L.length) : lv_has ls nL (jw_asc α 0 (((jw_cl1 L k).set k (some (.long x))).set (k + 1) none)) := by
  refine ⟨h.1, h.2.1, fun q hq => h.2.2 q ?_⟩
  obtain ⟨j, u, hj, rfl⟩ := jw_asc_mem.mp hq
  rw [List.getElem?_set, List.length_set, jw_cl1_len] at hj
  by_cases e0 : k + 1 = j
  · rw [if_pos e0] at hj
    split at hj <;> cases hj
  · rw [if_neg e0, List.getElem?_set, jw_cl1_len] at hj
    by_cases e : k = j
    · subst e
      rw [if_pos rfl, if_pos (by omega)] at hj
      cases hj
      simp [jw_ad]
    · rw [if_neg e] at hj
      obtain ⟨hj, hcat⟩ := jw_cl1_get hj
      refine List.mem_cons_of_mem _ (List.mem_filter.mpr ⟨jw_asc_mem.mpr ⟨j, u, hj, rfl⟩, ?_⟩)
      have e2 : ¬ j = k := fun q => e q.symm
      have e4 : ¬ j = k + 1 := fun q => e0 q.symm
      by_cases e3 : j + 1 = k
      · simp [e2, e4, jw_ad_cat, hcat e3]
      · simp [e2, e3, e4]
theorem jw_cat_map (α : Nat → Nat) : ∀ r : List Value, ((r.map (jw_ad α)).map fun v => v.category).sum = jw_cat r
  | [] => rfl
  | v :: r => by
    rw [List.map_cons, List.map_cons, List.sum_cons, jw_cat_map α r, jw_ad_cat, jw_cat]
end
section
/-! ===== one instruction of the abstract machine is one of the machine: stack, locals, branches ===== -/
/-- an instruction's length, where it is fixed -/
def jw_len : Instr → Nat
  | .bipush _ | .ldc _ | .iload _ | .lload _ | .aload _ | .istore _ | .lstore _ | .astore _ | .newarray _ => 2
  | .sipush _ | .ldc_w _ | .ldc2_w _ | .iinc _ _ | .goto _ | .ifCond _ _ | .if_icmp _ _ | .getfield _ | .putfield _ | .getstatic _ | .new _ | .anewarray _ | .invokevirtual _ | .invokespecial _ | .invokestatic _ => 3
  | .tableswitch _ _ _ _ | .lookupswitch _ _ => 0
  | .multianewarray _ _ => 4
  | _ => 1
/-- what a branch's offsets and a switch's tables must say -/
def jw_stat (q : jw_I) : Bool := match q.2.1 with
  | .goto off | .ifCond _ off | .if_icmp _ off => decide ((q.1 : Int) + off = (q.2.2.2.1 : Int))
  | .tableswitch d lo hi offs => decide ((q.1 : Int) + d = (q.2.2.2.1 : Int)) && (decide (q.2.2.2.2.2.map (fun z => ((z.2 : Int) - (q.1 : Int))) = offs.toList) && (decide (q.2.2.2.2.2.map (fun z => z.1) = (List.range q.2.2.2.2.2.length).map (fun (i : Nat) => lo + (i : Int))) && (decide (hi + 1 = lo + (q.2.2.2.2.2.length : Int)) && (decide (-2147483648 ≤ lo) && decide (hi < 2147483648)))))
  | .lookupswitch d ps => decide ((q.1 : Int) + d = (q.2.2.2.1 : Int)) && (decide (q.2.2.2.2.2.map (fun z => (z.1, (z.2 : Int) - (q.1 : Int))) = ps.toList) && (((ps.toList.zip (ps.toList.drop 1)).all (fun (a, next) => a.1 < next.1)) && q.2.2.2.2.2.all (fun z => decide (-2147483648 ≤ z.1) && decide (z.1 < 2147483648))))
  | _ => true
def jw_okd (cc : ByteArray) (q : jw_I) : Prop := decode cc q.1 = .ok (q.2.1, q.2.2.1) ∧ (jw_len q.2.1 = 0 ∨ q.2.2.1 = jw_len q.2.1) ∧ jw_stat q = true
theorem jw_ofInt {k : Int} (h1 : -2147483648 ≤ k) (h2 : k < 2147483648) : (Int32.ofInt k).toInt = k := Int32.toInt_ofInt_of_le h1 (by omega)
theorem jw_sw_in {x : Int32} {d : Nat} {K : Nat → Prop} : ∀ {l : List (Int × Nat)}, jw_swt x l d K → ∀ {i : Nat} {k : Int} {t : Nat}, l[i]? = some (k, t) → x = Int32.ofInt k → (∀ j, j < i → ∀ z, l[j]? = some z → ¬ x = Int32.ofInt z.1) → K t
  | [], _, i, k, t, h, _, _ => by simp at h
  | (k0, t0) :: l, hs, i, k, t, h, hx, hj => by
    cases i with
    | zero =>
      simp at h
      obtain ⟨rfl, rfl⟩ := h
      exact hs.1 hx
    | succ i =>
      have h0 : ¬ x = Int32.ofInt k0 := hj 0 (by omega) (k0, t0) rfl
      exact jw_sw_in (hs.2 h0) (by simpa using h) hx (fun j hj1 z hz => hj (j + 1) (by omega) z (by simpa using hz))
theorem jw_sw_out {x : Int32} {d : Nat} {K : Nat → Prop} : ∀ {l : List (Int × Nat)}, jw_swt x l d K → (∀ z ∈ l, ¬ x = Int32.ofInt z.1) → K d
  | [], hs, _ => hs
  | (k0, t0) :: l, hs, h => jw_sw_out (hs.2 (h (k0, t0) List.mem_cons_self)) (fun z hz => h z (List.mem_cons_of_mem _ hz))
theorem jw_lsw {x : Int} {d : Int} : ∀ {l : List (Int × Int)}, (Op.lookupswitch.offset l d x = d ∧ ∀ z ∈ l, ¬ x = z.1) ∨ ∃ (i : Nat) (z : Int × Int), l[i]? = some z ∧ x = z.1 ∧ Op.lookupswitch.offset l d x = z.2 ∧ ∀ (j : Nat), j < i → ∀ (y : Int × Int), l[j]? = some y → ¬ x = y.1
  | [] => Or.inl ⟨rfl, by simp⟩
  | (k, o) :: l => by
    by_cases e : k = x
    · right
      exact ⟨0, (k, o), rfl, e.symm, by simp [Op.lookupswitch.offset, e], fun j hj => by omega⟩
    · have e2 : ¬ x = k := fun q => e q.symm
      rcases jw_lsw (x := x) (d := d) (l := l) with ⟨h1, h2⟩ | ⟨i, z, h1, h2, h3, h4⟩
      · left
        refine ⟨by simp [Op.lookupswitch.offset, e, e2] at h1 ⊢; exact h1, fun z hz => ?_⟩
        rcases List.mem_cons.mp hz with rfl | hz
        · exact e2
        · exact h2 z hz
      · right
        refine ⟨i + 1, z, by simpa using h1, h2, by simp [Op.lookupswitch.offset, e, e2] at h3 ⊢; exact h3, fun j hj y hy => ?_⟩
        cases j with
        | zero => simp at hy; rw [← hy]; exact e2
        | succ j => exact h4 j (by omega) y (by simpa using hy)
section JWS
variable {p : Program} {l : Launch} {e : Env} {R : Room} {s : State} {m : MethodId} {args : Array Value} {below : List Frame} {meth : Method} {c : Code} {H : Heap} {locs : List Loc} {cells slots : Nat} {Qf : State → Prop}
variable {cc : ByteArray} {ls : Array Slot} {kd : Nat → List jw_K} {C : Nat → List Value → jw_H → jw_Q → Prop} {bud : Nat → Nat × Nat} {lim : Nat × Nat} {ret : Option FieldType} {L : jw_L} {st : List Value} {h : jw_H} {Q : jw_Q} {K : Nat → jw_L → List Value → jw_H → Prop} {α : Nat → Nat} {nL : Nat}
/-- the instructions that touch neither heap nor tables -/
def jw_isS : Instr → Bool
  | .iconst _ | .bipush _ | .sipush _ | .lconst _ | .iload_n _ | .iload _ | .lload_n _ | .lload _ | .aload_n _ | .aload _ | .istore_n _ | .istore _ | .lstore_n _ | .lstore _ | .astore_n _ | .astore _ | .iinc _ _ => true
  | .iadd | .isub | .imul | .iand | .ior | .ixor | .idiv | .irem | .ishl | .ishr | .iushr | .ladd | .lsub | .lmul | .land | .lor | .lshl | .lshr | .lcmp | .i2l | .l2i | .i2b | .i2s | .dup | .dup_x1 | .dup2 | .pop | .ineg => true
  | .goto _ | .ifCond _ _ | .if_icmp _ _ | .tableswitch _ _ _ _ | .lookupswitch _ _ => true
  | _ => false
theorem jw_bif {b : Bool} {P : Prop} (h : bif b then P else False) : b = true ∧ P := by
  cases b
  · exact h.elim
  · exact ⟨rfl, h⟩
theorem jw_sto_ok {k : Nat} {v : Value} {f : jw_L → Prop} (h : jw_sto L k v f) : k < L.length ∧ ((jw_cl1 L k).set k (some v)).length = L.length ∧ f ((jw_cl1 L k).set k (some v)) := by
  obtain ⟨h1, h2⟩ := jw_bif h
  exact ⟨by simpa [Nat.blt_eq] using h1, by rw [List.length_set, jw_cl1_len], h2⟩
theorem jw_stl_ok {k : Nat} {x : Int64} {f : jw_L → Prop} (h : jw_stl L k x f) : k + 1 < L.length ∧ (((jw_cl1 L k).set k (some (.long x))).set (k + 1) none).length = L.length ∧ f (((jw_cl1 L k).set k (some (.long x))).set (k + 1) none) := by
  obtain ⟨h1, h2⟩ := jw_bif h
  exact ⟨by simpa [Nat.blt_eq] using h1, by rw [List.length_set, List.length_set, jw_cl1_len], h2⟩
theorem jw_ldi_ok {k : Nat} {f : Int32 → Prop} (h : jw_ldi L k f) : ∃ x, L[k]? = some (some (.int x)) ∧ f x := by
  unfold jw_ldi at h
  split at h
  · exact ⟨_, by assumption, h⟩
  · exact h.elim
theorem jw_ldl_ok {k : Nat} {f : Int64 → Prop} (h : jw_ldl L k f) : ∃ x, L[k]? = some (some (.long x)) ∧ f x := by
  unfold jw_ldl at h
  split at h
  · exact ⟨_, by assumption, h⟩
  · exact h.elim
theorem jw_lda_ok {k : Nat} {f : Nat → Prop} (h : jw_lda L k f) : ∃ x, L[k]? = some (some (.ref x)) ∧ f x := by
  unfold jw_lda at h
  split at h
  · exact ⟨_, by assumption, h⟩
  · exact h.elim
theorem jw_i1_ok {f : Int32 → List Value → Prop} (h : jw_i1 st f) : ∃ x r, st = .int x :: r ∧ f x r := by
  unfold jw_i1 at h
  split at h
  · exact ⟨_, _, rfl, h⟩
  · exact h.elim
theorem jw_i2_ok {f : Int32 → Int32 → List Value → Prop} (h : jw_i2 st f) : ∃ x y r, st = .int y :: .int x :: r ∧ f x y r := by
  unfold jw_i2 at h
  split at h
  · exact ⟨_, _, _, rfl, h⟩
  · exact h.elim
theorem jw_l1_ok {f : Int64 → List Value → Prop} (h : jw_l1 st f) : ∃ x r, st = .long x :: r ∧ f x r := by
  unfold jw_l1 at h
  split at h
  · exact ⟨_, _, rfl, h⟩
  · exact h.elim
theorem jw_l2_ok {f : Int64 → Int64 → List Value → Prop} (h : jw_l2 st f) : ∃ x y r, st = .long y :: .long x :: r ∧ f x y r := by
  unfold jw_l2 at h
  split at h
  · exact ⟨_, _, _, rfl, h⟩
  · exact h.elim
theorem jw_li_ok {f : Int64 → Int32 → List Value → Prop} (h : jw_li st f) : ∃ x y r, st = .int y :: .long x :: r ∧ f x y r := by
  unfold jw_li at h
  split at h
  · exact ⟨_, _, _, rfl, h⟩
  · exact h.elim
theorem jw_r1_ok {f : Nat → List Value → Prop} (h : jw_r1 st f) : ∃ x r, st = .ref x :: r ∧ f x r := by
  unfold jw_r1 at h
  split at h
  · exact ⟨_, _, rfl, h⟩
  · exact h.elim
theorem jw_ix_ok {f : Int32 → Nat → List Value → Prop} (h : jw_ix st f) : ∃ i a r, st = .int i :: .ref a :: r ∧ f i a r := by
  unfold jw_ix at h
  split at h
  · exact ⟨_, _, _, rfl, h⟩
  · exact h.elim
set_option maxHeartbeats 4000000 in
set_option maxRecDepth 100000 in
theorem jo_simple {pc len : Nat} {ins : Instr} {res : jw_R} (hS : jw_isS ins = true) (hx : p.tables.exec = Jvm.exec) (hb : c.code = cc) (hd : jw_okd cc (pc, ins, len, res)) (hl : lv_has ls nL (jw_asc α 0 L)) (hn : L.length = nL)
    (hs : jw_step kd C bud lim ret (pc, ins, len, res) L st h Q K)
    (hK : ∀ (pc' : Nat) (L' : jw_L) (st' : List Value) (ls' : Array Slot), K pc' L' st' h → L'.length = nL → lv_has ls' nL (jw_asc α 0 L') → W p l e R s m args below meth c H locs cells slots Qf (F0 m pc' ls' (st'.map (jw_ad α)))) :
    W p l e R s m args below meth c H locs cells slots Qf (F0 m pc ls (st.map (jw_ad α))) := by
  obtain ⟨hdg, hlen, hst⟩ := hd
  dsimp only at hdg hlen
  have hlen' : ∀ k, jw_len ins = k + 1 → len = k + 1 := fun k hk => by
    rcases hlen with h0 | h0
    · omega
    · omega
  cases ins <;> first | (exact Bool.noConfusion hS) | skip
  case iconst i =>
    have := hlen' 0 rfl; subst this
    exact lv_iconst hx hb hdg rfl (hK _ _ _ _ hs hn hl)
  case bipush i =>
    have := hlen' 1 rfl; subst this
    exact lv_bipush hx hb hdg rfl (hK _ _ _ _ hs hn hl)
  case sipush i =>
    have := hlen' 2 rfl; subst this
    exact lv_sipush hx hb hdg rfl (hK _ _ _ _ hs hn hl)
  case lconst i =>
    have := hlen' 0 rfl; subst this
    exact lv_lconst hx hb hdg rfl (hK _ _ _ _ hs hn hl)
  case iload_n k =>
    have := hlen' 0 rfl; subst this
    obtain ⟨x, h1, h2⟩ := jw_ldi_ok hs
    exact lv_iload_n hx hb hdg rfl (jw_loc hl h1) (hK _ _ _ _ h2 hn hl)
  case iload k =>
    have := hlen' 1 rfl; subst this
    obtain ⟨x, h1, h2⟩ := jw_ldi_ok hs
    exact lv_iload hx hb hdg (jw_loc hl h1) (hK _ _ _ _ h2 hn hl)
  case lload_n k =>
    have := hlen' 0 rfl; subst this
    obtain ⟨x, h1, h2⟩ := jw_ldl_ok hs
    exact lv_lload_n hx hb hdg rfl (jw_loc hl h1) (hK _ _ _ _ h2 hn hl)
  case lload k =>
    have := hlen' 1 rfl; subst this
    obtain ⟨x, h1, h2⟩ := jw_ldl_ok hs
    exact lv_lload hx hb hdg (jw_loc hl h1) (hK _ _ _ _ h2 hn hl)
  case aload_n k =>
    have := hlen' 0 rfl; subst this
    obtain ⟨x, h1, h2⟩ := jw_lda_ok hs
    exact lv_aload_n hx hb hdg rfl (jw_loc hl h1) (hK _ _ _ _ h2 hn hl)
  case aload k =>
    have := hlen' 1 rfl; subst this
    obtain ⟨x, h1, h2⟩ := jw_lda_ok hs
    exact lv_aload hx hb hdg (jw_loc hl h1) (hK _ _ _ _ h2 hn hl)
  case istore_n k =>
    have := hlen' 0 rfl; subst this
    obtain ⟨x, r, rfl, h2⟩ := jw_i1_ok hs
    obtain ⟨h3, h4, h5⟩ := jw_sto_ok h2
    exact lv_istore_n hx hb hdg rfl hl (by omega) rfl (fun ls' hl' => hK _ _ _ _ h5 (h4.trans hn) (jw_sto1 (v := .int x) hl' h3))
  case istore k =>
    have := hlen' 1 rfl; subst this
    obtain ⟨x, r, rfl, h2⟩ := jw_i1_ok hs
    obtain ⟨h3, h4, h5⟩ := jw_sto_ok h2
    exact lv_istore hx hb hdg hl (by omega) rfl (fun ls' hl' => hK _ _ _ _ h5 (h4.trans hn) (jw_sto1 (v := .int x) hl' h3))
  case lstore_n k =>
    have := hlen' 0 rfl; subst this
    obtain ⟨x, r, rfl, h2⟩ := jw_l1_ok hs
    obtain ⟨h3, h4, h5⟩ := jw_stl_ok h2
    exact lv_lstore_n hx hb hdg rfl hl (by omega) rfl (fun ls' hl' => hK _ _ _ _ h5 (h4.trans hn) (jw_stol hl' h3))
  case lstore k =>
    have := hlen' 1 rfl; subst this
    obtain ⟨x, r, rfl, h2⟩ := jw_l1_ok hs
    obtain ⟨h3, h4, h5⟩ := jw_stl_ok h2
    exact lv_lstore hx hb hdg hl (by omega) rfl (fun ls' hl' => hK _ _ _ _ h5 (h4.trans hn) (jw_stol hl' h3))
  case astore_n k =>
    have := hlen' 0 rfl; subst this
    obtain ⟨x, r, rfl, h2⟩ := jw_r1_ok hs
    obtain ⟨h3, h4, h5⟩ := jw_sto_ok h2
    exact lv_astore_n hx hb hdg rfl hl (by omega) rfl (fun ls' hl' => hK _ _ _ _ h5 (h4.trans hn) (jw_sto1 (v := .ref x) hl' h3))
  case astore k =>
    have := hlen' 1 rfl; subst this
    obtain ⟨x, r, rfl, h2⟩ := jw_r1_ok hs
    obtain ⟨h3, h4, h5⟩ := jw_sto_ok h2
    exact lv_astore hx hb hdg hl (by omega) rfl (fun ls' hl' => hK _ _ _ _ h5 (h4.trans hn) (jw_sto1 (v := .ref x) hl' h3))
  case iinc k n =>
    have := hlen' 2 rfl; subst this
    obtain ⟨x, h1, h2⟩ := jw_ldi_ok hs
    obtain ⟨h3, h4, h5⟩ := jw_sto_ok h2
    obtain ⟨j, hj⟩ := List.getElem?_of_mem (jw_asc_mem (α := α) (k := 0) (q := (k, .int x)).mpr ⟨k, .int x, h1, by simp [jw_ad]⟩)
    exact lv_iinc hx hb hdg hl hj rfl (by omega) rfl (fun ls' hl' => hK _ _ _ _ h5 (h4.trans hn) (jw_sto1 (v := .int (x + Int32.ofInt n)) hl' h3))
  case iadd =>
    have := hlen' 0 rfl; subst this
    obtain ⟨x, y, r, rfl, h2⟩ := jw_i2_ok hs
    exact lv_iadd hx hb hdg (hK _ _ _ _ h2 hn hl)
  case isub =>
    have := hlen' 0 rfl; subst this
    obtain ⟨x, y, r, rfl, h2⟩ := jw_i2_ok hs
    exact lv_isub hx hb hdg (hK _ _ _ _ h2 hn hl)
  case imul =>
    have := hlen' 0 rfl; subst this
    obtain ⟨x, y, r, rfl, h2⟩ := jw_i2_ok hs
    exact lv_imul hx hb hdg (hK _ _ _ _ h2 hn hl)
  case iand =>
    have := hlen' 0 rfl; subst this
    obtain ⟨x, y, r, rfl, h2⟩ := jw_i2_ok hs
    exact lv_iand hx hb hdg (hK _ _ _ _ h2 hn hl)
  case ior =>
    have := hlen' 0 rfl; subst this
    obtain ⟨x, y, r, rfl, h2⟩ := jw_i2_ok hs
    exact lv_ior hx hb hdg (hK _ _ _ _ h2 hn hl)
  case ixor =>
    have := hlen' 0 rfl; subst this
    obtain ⟨x, y, r, rfl, h2⟩ := jw_i2_ok hs
    exact lv_ixor hx hb hdg (hK _ _ _ _ h2 hn hl)
  case ishl =>
    have := hlen' 0 rfl; subst this
    obtain ⟨x, y, r, rfl, h2⟩ := jw_i2_ok hs
    exact lv_ishl hx hb hdg (hK _ _ _ _ h2 hn hl)
  case ishr =>
    have := hlen' 0 rfl; subst this
    obtain ⟨x, y, r, rfl, h2⟩ := jw_i2_ok hs
    exact lv_ishr hx hb hdg (hK _ _ _ _ h2 hn hl)
  case iushr =>
    have := hlen' 0 rfl; subst this
    obtain ⟨x, y, r, rfl, h2⟩ := jw_i2_ok hs
    exact lv_iushr hx hb hdg rfl (hK _ _ _ _ h2 hn hl)
  case idiv =>
    have := hlen' 0 rfl; subst this
    obtain ⟨x, y, r, rfl, h2⟩ := jw_i2_ok hs
    exact lv_idiv hx hb hdg h2.1 (hK _ _ _ _ h2.2 hn hl)
  case irem =>
    have := hlen' 0 rfl; subst this
    obtain ⟨x, y, r, rfl, h2⟩ := jw_i2_ok hs
    exact lv_irem hx hb hdg h2.1 (hK _ _ _ _ h2.2 hn hl)
  case ladd =>
    have := hlen' 0 rfl; subst this
    obtain ⟨x, y, r, rfl, h2⟩ := jw_l2_ok hs
    exact lv_ladd hx hb hdg (hK _ _ _ _ h2 hn hl)
  case lsub =>
    have := hlen' 0 rfl; subst this
    obtain ⟨x, y, r, rfl, h2⟩ := jw_l2_ok hs
    exact lv_lsub hx hb hdg (hK _ _ _ _ h2 hn hl)
  case lmul =>
    have := hlen' 0 rfl; subst this
    obtain ⟨x, y, r, rfl, h2⟩ := jw_l2_ok hs
    exact lv_lmul hx hb hdg (hK _ _ _ _ h2 hn hl)
  case land =>
    have := hlen' 0 rfl; subst this
    obtain ⟨x, y, r, rfl, h2⟩ := jw_l2_ok hs
    exact lv_land hx hb hdg (hK _ _ _ _ h2 hn hl)
  case lor =>
    have := hlen' 0 rfl; subst this
    obtain ⟨x, y, r, rfl, h2⟩ := jw_l2_ok hs
    exact lv_lor hx hb hdg (hK _ _ _ _ h2 hn hl)
  case lshl =>
    have := hlen' 0 rfl; subst this
    obtain ⟨x, y, r, rfl, h2⟩ := jw_li_ok hs
    exact lv_lshl hx hb hdg rfl (hK _ _ _ _ h2 hn hl)
  case lshr =>
    have := hlen' 0 rfl; subst this
    obtain ⟨x, y, r, rfl, h2⟩ := jw_li_ok hs
    exact lv_lshr hx hb hdg rfl (hK _ _ _ _ h2 hn hl)
  case i2l =>
    have := hlen' 0 rfl; subst this
    obtain ⟨x, r, rfl, h2⟩ := jw_i1_ok hs
    exact lv_i2l hx hb hdg rfl (hK _ _ _ _ h2 hn hl)
  case l2i =>
    have := hlen' 0 rfl; subst this
    obtain ⟨x, r, rfl, h2⟩ := jw_l1_ok hs
    exact lv_l2i hx hb hdg rfl (hK _ _ _ _ h2 hn hl)
  case i2b =>
    have := hlen' 0 rfl; subst this
    obtain ⟨x, r, rfl, h2⟩ := jw_i1_ok hs
    exact lv_i2b hx hb hdg rfl (hK _ _ _ _ h2 hn hl)
  case i2s =>
    have := hlen' 0 rfl; subst this
    obtain ⟨x, r, rfl, h2⟩ := jw_i1_ok hs
    exact lv_i2s hx hb hdg rfl (hK _ _ _ _ h2 hn hl)
  case ineg =>
    have := hlen' 0 rfl; subst this
    obtain ⟨x, r, rfl, h2⟩ := jw_i1_ok hs
    exact lv_ineg hx hb hdg (hK _ _ _ _ h2 hn hl)
  case lcmp =>
    have := hlen' 0 rfl; subst this
    obtain ⟨x, y, r, rfl, h2⟩ := jw_l2_ok hs
    exact W.lcmp hx hb hdg (hK _ _ _ _ h2 hn hl)
  case dup =>
    have := hlen' 0 rfl; subst this
    unfold jw_step at hs
    dsimp only at hs
    split at hs
    · exact lv_dup hx hb hdg rfl (hK _ _ _ _ hs hn hl)
    · exact lv_dup hx hb hdg rfl (hK _ _ _ _ hs hn hl)
    · exact hs.elim
  case dup_x1 =>
    have := hlen' 0 rfl; subst this
    unfold jw_step at hs
    dsimp only at hs
    split at hs
    · exact lv_dup_x1 hx hb hdg rfl rfl (hK _ _ _ _ hs hn hl)
    · exact lv_dup_x1 hx hb hdg rfl rfl (hK _ _ _ _ hs hn hl)
    · exact hs.elim
  case dup2 =>
    have := hlen' 0 rfl; subst this
    unfold jw_step at hs
    dsimp only at hs
    split at hs
    · exact lv_dup2_11 hx hb hdg rfl rfl (hK _ _ _ _ hs hn hl)
    · exact hs.elim
  case pop =>
    have := hlen' 0 rfl; subst this
    unfold jw_step at hs
    dsimp only at hs
    split at hs
    · exact lv_pop (va := .int _) hx hb hdg rfl (hK _ _ _ _ hs hn hl)
    · exact lv_pop (va := .ref _) hx hb hdg rfl (hK _ _ _ _ hs hn hl)
    · exact hs.elim
  case goto off =>
    have := hlen' 2 rfl; subst this
    exact lv_goto hx hb hdg (of_decide_eq_true hst) (hK _ _ _ _ hs hn hl)
  case ifCond cnd off =>
    have := hlen' 2 rfl; subst this
    have ht := of_decide_eq_true hst
    cases cnd
    case eq =>
      obtain ⟨x, r, rfl, h2⟩ := jw_i1_ok hs
      exact lv_if_eq hx hb hdg ht (fun z => hK _ _ _ _ (h2.1 z) hn hl) (fun z => hK _ _ _ _ (h2.2 z) hn hl)
    case ne =>
      obtain ⟨x, r, rfl, h2⟩ := jw_i1_ok hs
      exact lv_if_ne hx hb hdg ht (fun z => hK _ _ _ _ (h2.1 z) hn hl) (fun z => hK _ _ _ _ (h2.2 z) hn hl)
    case lt =>
      obtain ⟨x, r, rfl, h2⟩ := jw_i1_ok hs
      exact lv_if_lt hx hb hdg ht (fun z => hK _ _ _ _ (h2.1 z) hn hl) (fun z => hK _ _ _ _ (h2.2 z) hn hl)
    case ge =>
      obtain ⟨x, r, rfl, h2⟩ := jw_i1_ok hs
      exact lv_if_ge hx hb hdg ht (fun z => hK _ _ _ _ (h2.1 z) hn hl) (fun z => hK _ _ _ _ (h2.2 z) hn hl)
    case gt =>
      obtain ⟨x, r, rfl, h2⟩ := jw_i1_ok hs
      exact lv_if_gt hx hb hdg ht (fun z => hK _ _ _ _ (h2.1 z) hn hl) (fun z => hK _ _ _ _ (h2.2 z) hn hl)
    case le =>
      obtain ⟨x, r, rfl, h2⟩ := jw_i1_ok hs
      exact lv_if_le hx hb hdg ht (fun z => hK _ _ _ _ (h2.1 z) hn hl) (fun z => hK _ _ _ _ (h2.2 z) hn hl)
  case if_icmp cnd off =>
    have := hlen' 2 rfl; subst this
    have ht := of_decide_eq_true hst
    cases cnd
    case eq =>
      obtain ⟨x, y, r, rfl, h2⟩ := jw_i2_ok hs
      exact lv_icmp_eq hx hb hdg ht (fun z => hK _ _ _ _ (h2.1 z) hn hl) (fun z => hK _ _ _ _ (h2.2 z) hn hl)
    case ne =>
      obtain ⟨x, y, r, rfl, h2⟩ := jw_i2_ok hs
      exact lv_icmp_ne hx hb hdg ht (fun z => hK _ _ _ _ (h2.1 z) hn hl) (fun z => hK _ _ _ _ (h2.2 z) hn hl)
    case lt =>
      obtain ⟨x, y, r, rfl, h2⟩ := jw_i2_ok hs
      exact lv_icmp_lt hx hb hdg ht (fun z => hK _ _ _ _ (h2.1 z) hn hl) (fun z => hK _ _ _ _ (h2.2 z) hn hl)
    case ge =>
      obtain ⟨x, y, r, rfl, h2⟩ := jw_i2_ok hs
      exact lv_icmp_ge hx hb hdg ht (fun z => hK _ _ _ _ (h2.1 z) hn hl) (fun z => hK _ _ _ _ (h2.2 z) hn hl)
    case gt =>
      obtain ⟨x, y, r, rfl, h2⟩ := jw_i2_ok hs
      exact lv_icmp_gt hx hb hdg ht (fun z => hK _ _ _ _ (h2.1 z) hn hl) (fun z => hK _ _ _ _ (h2.2 z) hn hl)
    case le =>
      obtain ⟨x, y, r, rfl, h2⟩ := jw_i2_ok hs
      exact lv_icmp_le hx hb hdg ht (fun z => hK _ _ _ _ (h2.1 z) hn hl) (fun z => hK _ _ _ _ (h2.2 z) hn hl)
  case tableswitch d lo hi offs =>
    obtain ⟨x, r, rfl, h2⟩ := jw_i1_ok hs
    simp only [jw_stat, Bool.and_eq_true, decide_eq_true_eq] at hst
    obtain ⟨t1, t2, t3, t4, t5, t6⟩ := hst
    by_cases hi1 : x.toInt < lo ∨ hi < x.toInt
    · refine lv_tableOut hx hb hdg hi1 t1 (hK _ _ _ _ (jw_sw_out h2 fun z hz hxz => ?_) hn hl)
      have hz1 : z.1 ∈ res.2.2.map (fun z => z.1) := List.mem_map.mpr ⟨z, hz, rfl⟩
      rw [t3] at hz1
      obtain ⟨i, hi2, hi3⟩ := List.mem_map.mp hz1
      have := List.mem_range.mp hi2
      have h9 : x.toInt = z.1 := by rw [hxz]; exact jw_ofInt (by omega) (by omega)
      omega
    · have hlo : ¬ x.toInt < lo := fun q => hi1 (Or.inl q)
      have hhi : ¬ hi < x.toInt := fun q => hi1 (Or.inr q)
      have hlt : (x.toInt - lo).toNat < res.2.2.length := by omega
      have ho : offs[(x.toInt - lo).toNat]? = some (((res.2.2[(x.toInt - lo).toNat]).2 : Int) - (pc : Int)) := by
        rw [← Array.getElem?_toList, ← t2, List.getElem?_map, List.getElem?_eq_getElem hlt]
        rfl
      have key : ∀ (j : Nat) (z : Int × Nat), res.2.2[j]? = some z → z.1 = lo + (j : Int) := by
        intro j z hz
        have h8 : (res.2.2.map (fun z => z.1))[j]? = some z.1 := by rw [List.getElem?_map, hz]; rfl
        rw [t3, List.getElem?_map] at h8
        have hj : j < res.2.2.length := (List.getElem?_eq_some_iff.mp hz).1
        rw [List.getElem?_range hj] at h8
        have := Option.some.inj h8
        dsimp only at this
        omega
      refine lv_tableIn hx hb hdg hlo hhi ho (by omega) (hK _ _ _ _ (jw_sw_in h2 (i := (x.toInt - lo).toNat) (k := (res.2.2[(x.toInt - lo).toNat]).1) (t := (res.2.2[(x.toInt - lo).toNat]).2) (List.getElem?_eq_getElem hlt) ?_ ?_) hn hl)
      · have h7 := key _ _ (List.getElem?_eq_getElem hlt)
        apply Int32.toInt_inj.mp
        rw [h7, jw_ofInt (by omega) (by omega)]
        omega
      · intro j hj z hz hxz
        have h7 := key _ _ hz
        have hj2 : j < res.2.2.length := (List.getElem?_eq_some_iff.mp hz).1
        have h9 : x.toInt = z.1 := by rw [hxz]; exact jw_ofInt (by omega) (by omega)
        omega
  case lookupswitch d ps =>
    obtain ⟨x, r, rfl, h2⟩ := jw_i1_ok hs
    simp only [jw_stat, Bool.and_eq_true, decide_eq_true_eq] at hst
    obtain ⟨t1, t2, t3, t4⟩ := hst
    have hb4 : ∀ z ∈ res.2.2, -2147483648 ≤ z.1 ∧ z.1 < 2147483648 := fun z hz => by
      have := List.all_eq_true.mp t4 z hz
      simpa using this
    have hlist : ∀ (j : Nat) (z : Int × Nat), res.2.2[j]? = some z → ps.toList[j]? = some (z.1, (z.2 : Int) - (pc : Int)) := fun j z hz => by
      rw [← t2, List.getElem?_map, hz]
      rfl
    have hlist2 : ∀ (j : Nat) (z : Int × Int), ps.toList[j]? = some z → ∃ w, res.2.2[j]? = some w ∧ z = (w.1, (w.2 : Int) - (pc : Int)) := fun j z hz => by
      rw [← t2, List.getElem?_map] at hz
      cases hw : res.2.2[j]? with
      | none => rw [hw] at hz; cases hz
      | some w => rw [hw] at hz; exact ⟨w, rfl, (Option.some.inj hz).symm⟩
    rcases jw_lsw (x := x.toInt) (d := d) (l := ps.toList) with ⟨o1, o2⟩ | ⟨i, z, z1, z2, z3, z4⟩
    · refine lv_lookup hx hb hdg t3 o1 t1 (hK _ _ _ _ (jw_sw_out h2 fun z hz hxz => ?_) hn hl)
      obtain ⟨j, hj⟩ := List.getElem?_of_mem hz
      have h9 : x.toInt = z.1 := by rw [hxz]; exact jw_ofInt (hb4 z hz).1 (hb4 z hz).2
      exact o2 _ (List.mem_of_getElem? (hlist j z hj)) h9
    · obtain ⟨w, hw, rfl⟩ := hlist2 i z z1
      refine lv_lookup hx hb hdg t3 z3 (tgt := w.2) (by dsimp only; omega) (hK _ _ _ _ (jw_sw_in h2 (i := i) (k := w.1) (t := w.2) hw ?_ ?_) hn hl)
      · apply Int32.toInt_inj.mp
        have hm := hb4 w (List.mem_of_getElem? hw)
        rw [jw_ofInt hm.1 hm.2]
        exact z2
      · intro j hj y hy hxy
        have hm := hb4 y (List.mem_of_getElem? hy)
        have h9 : x.toInt = y.1 := by rw [hxy]; exact jw_ofInt hm.1 hm.2
        exact z4 j hj _ (hlist j y hy) h9
end JWS
end
section
/-! ===== the heap's instructions ===== -/
def jw_tys (cy : Nat → ClassId) : List (ClassId × FieldType) := [(cy 0, .int), (cy 1, .long), (cy 2, .object "ShadowSchool$Progress"), (cy 3, .object "ShadowSchool$Shade"), (cy 4, .array .int)]
section JWH
variable {p : Program} {l : Launch} {e : Env} {R : Room} {s : State} {m : MethodId} {args : Array Value} {below : List Frame} {meth : Method} {c : Code} {H : Heap} {locs : List Loc} {cells slots : Nat} {Q : State → Prop}
variable {cc : ByteArray} {pc : Nat} {ls : Array Slot} {rest : List Value} {D : va_G} {cl : List vw_C} {A : Nat → Prop} {a : Nat} {tys : List (ClassId × FieldType)} {ws : va_W} {H0 : Heap}
/-- putfield, with the heap's size -/
theorem jo_put (hexec : p.tables.exec = Jvm.exec) (hb : c.code = cc) {own C : String} {T : u_T} {N ci index : Nat} {Ts : List Cond} (hts : ∀ w ∈ Ts, w.before args s = true) (hin : ∀ w ∈ u_ws C T N, w ∈ Ts) (ty0 : Nat → FieldType) (hty : ∀ k, k < N → parseFieldDescriptor (T k).2.2.1 = some (ty0 k)) (hnm : ∀ a, a < N → ∀ b, b < N → a ≠ b → (T a).2.1 ≠ (T b).2.1) (hown : s.vm.findClass own = some m.cls) (hK : va_K D cl tys s) (hP : va_P D cl ws H) (hD : va_D A ws) (hS0 : va_S A H0 H locs) {q0 : Nat} {fs : List Value} (he : ws[q0]? = some (a, .inr (ci, fs))) (hc : cl[ci]? = some (C, T, N)) {k : Nat} (hk : k < N) (hlink : (Cond.fieldLink own index (T k).1 (T k).2.1 (T k).2.2.1).before args s = true) (hfin : (T k).2.2.2 = false ∨ (meth.name = "<init>" ∧ (T k).1 = own)) {ty : FieldType} {v : Value} (hd : parseFieldDescriptor (T k).2.2.1 = some ty) (hn : narrow ty v = v) (hfit : fits ty v = true) (hl : k < fs.length)
    (hdg : decode cc pc = .ok (.putfield index, 3)) (kk : ∀ (H1 : Heap) (locs1 : List Loc), H1.size = H.size → va_P D cl (ws.set q0 (a, .inr (ci, fs.set k v))) H1 → va_D A (ws.set q0 (a, .inr (ci, fs.set k v))) → va_S A H0 H1 locs1 → W p l e R s m args below meth c H1 locs1 cells slots Q (F0 m (pc + 3) ls rest)) : W p l e R s m args below meth c H locs cells slots Q (F0 m pc ls (v :: .ref a :: rest)) := by
  have hap := va_apart (own := own) hts hin ty0 hty hnm hK hc
  obtain ⟨r, h1, cell, q1, q2, q3, q4⟩ := hP q0 _ he
  have hr : r = (C, T, N) := Option.some.inj (h1.symm.trans hc)
  subst hr
  obtain ⟨hS, hfc, kC, hkC, hkind⟩ := hK.1 ci _ hc
  obtain ⟨cf, kf, fi, f, hi, hsl⟩ := hS k hk
  have hlay := hts _ (hin _ (u_in_lay hk))
  unfold u_lay at hlay
  have hst := (u_facts hfc hkC (u_lays hts hin hk) hi).1
  by_cases hfb : (T k).2.2.2 = true
  · have hf2 : meth.name = "<init>" ∧ (T k).1 = own := by
      rcases hfin with h | h
      · rw [h] at hfb; cases hfb
      · exact h
    rw [if_pos hfb] at hlay
    have hcf : m.cls = cf := by
      obtain ⟨_, _, c', _, _, _, -, -, hf', -, -, -, hown2, -⟩ := Cond.laysFinal_spec hlay
      have e1 : c' = cf := by have := hi.symm.trans hf'; simp at this; exact this.1.symm
      rw [hf2.2] at hown2
      rw [← e1]; exact Option.some.inj (hown.symm.trans hown2)
    have h6 := u_fits hfc hkC hkind (Or.inr hlay) hi hd hn hfit
    refine W.putFinK hexec hb hown hlink hi hst hcf hf2.1 (by rw [q2]; exact h6) q1 q3 (by rw [hsl]; exact k2_hasslot (q4 k hk)) rfl rfl hdg fun H' e1 e2 e3 => ?_
    rw [hsl] at e1 ⊢
    exact kk H' _ e2 (hP.set hD he ⟨_, hc, t_OB.to (V := updV (vp_V fs) k v) ⟨_, e1, q2, q3, t_set q4 hap hk v⟩ (fun j _ => vp_updV_set hl v j)⟩ e3) (hD.set he) (hS0.put e2 e3 (hD.2 q0 _ he))
  · rw [if_neg hfb] at hlay
    have h6 := u_store hfc hkC hkind hlay hi hd hn hfit
    refine W.putK hexec hb (f := f) ⟨hown, hlink, ⟨_, _, _, hi⟩, hst⟩ (by rw [q2]; exact h6) q1 q3 (by rw [hsl]; exact k2_hasslot (q4 k hk)) rfl rfl hdg fun H' e1 e2 e3 => ?_
    rw [hsl] at e1 ⊢
    exact kk H' _ e2 (hP.set hD he ⟨_, hc, t_OB.to (V := updV (vp_V fs) k v) ⟨_, e1, q2, q3, t_set q4 hap hk v⟩ (fun j _ => vp_updV_set hl v j)⟩ e3) (hD.set he) (hS0.put e2 e3 (hD.2 q0 _ he))
/-- iastore, with the heap's size -/
theorem jo_iast (hexec : p.tables.exec = Jvm.exec) (hb : c.code = cc) (hK : va_K D cl tys s) (hP : va_P D cl ws H) (hD : va_D A ws) (hS : va_S A H0 H locs) {q0 t0 : Nat} {cA : ClassId} {n : Nat} {f : Nat → Int32} (ha : ws[q0]? = some (a, .inl (cA, n, .inl f))) (ht : tys[t0]? = some (cA, .int)) {i : Int32} {x : Int32} (hin : vp_in i n) (hdg : decode cc pc = .ok (.iastore, 1))
    (kk : ∀ (H1 : Heap) (locs1 : List Loc), H1.size = H.size → va_P D cl (ws.set q0 (a, .inl (cA, n, .inl (va_up f i.toNatClampNeg x)))) H1 → va_D A (ws.set q0 (a, .inl (cA, n, .inl (va_up f i.toNatClampNeg x)))) → va_S A H0 H1 locs1 → W p l e R s m args below meth c H1 locs1 cells slots Q (F0 m (pc + 1) ls rest)) : W p l e R s m args below meth c H locs cells slots Q (F0 m pc ls (.int x :: .int i :: .ref a :: rest)) := by
  refine W.iast hexec hb (hP q0 _ ha) ((hK.2 t0 _ ht).1 n (fun j => .int (f j))) (fun q => by cases q) (by show ¬ (i < 0 ∨ (arrV _ _ _).slots.size ≤ _); rw [arrV_size]; exact hin) rfl rfl hdg fun H1 e z oq => ?_
  refine kk H1 _ z (hP.set hD ha ?_ oq) (hD.set ha) (hS.put z oq (hD.2 q0 _ ha))
  show H1[a]? = some (vp_cell _ _)
  rw [e, vp_cell_i, vp_cell_i, arrV_store]
  congr 2
  funext q
  by_cases hq : q = i.toNatClampNeg
  · subst hq
    simp [updV, va_up]
  · simp [updV, va_up, hq]
theorem jo_last (hexec : p.tables.exec = Jvm.exec) (hb : c.code = cc) (hK : va_K D cl tys s) (hP : va_P D cl ws H) (hD : va_D A ws) (hS : va_S A H0 H locs) {q0 t0 : Nat} {cA : ClassId} {n : Nat} {f : Nat → Int64} (ha : ws[q0]? = some (a, .inl (cA, n, .inr (.inl f)))) (ht : tys[t0]? = some (cA, .long)) {i : Int32} {x : Int64} (hin : vp_in i n) (hdg : decode cc pc = .ok (.lastore, 1))
    (kk : ∀ (H1 : Heap) (locs1 : List Loc), H1.size = H.size → va_P D cl (ws.set q0 (a, .inl (cA, n, .inr (.inl (va_up f i.toNatClampNeg x))))) H1 → va_D A (ws.set q0 (a, .inl (cA, n, .inr (.inl (va_up f i.toNatClampNeg x))))) → va_S A H0 H1 locs1 → W p l e R s m args below meth c H1 locs1 cells slots Q (F0 m (pc + 1) ls rest)) : W p l e R s m args below meth c H locs cells slots Q (F0 m pc ls (.long x :: .int i :: .ref a :: rest)) := by
  refine W.last hexec hb (hP q0 _ ha) ((hK.2 t0 _ ht).1 n (fun j => .long (f j))) (fun q => by cases q) (by show ¬ (i < 0 ∨ (arrV _ _ _).slots.size ≤ _); rw [arrV_size]; exact hin) rfl rfl hdg fun H1 e z oq => ?_
  refine kk H1 _ z (hP.set hD ha ?_ oq) (hD.set ha) (hS.put z oq (hD.2 q0 _ ha))
  show H1[a]? = some (vp_cell _ _)
  rw [e, vp_cell_l, vp_cell_l, arrV_store]
  congr 2
  funext q
  by_cases hq : q = i.toNatClampNeg
  · subst hq
    simp [updV, va_up]
  · simp [updV, va_up, hq]
theorem jo_aald (hexec : p.tables.exec = Jvm.exec) (hb : c.code = cc) (hK : va_K D cl tys s) (hP : va_P D cl ws H) {q0 t0 : Nat} {cA : ClassId} {ty : FieldType} {n : Nat} {f : Nat → Option Nat} (ha : ws[q0]? = some (a, .inl (cA, n, .inr (.inr (.inr (.inr f)))))) (ht : tys[t0]? = some (cA, ty)) (hty : ty.isReference = true) {i : Int32} (hin : vp_in i n) (hdg : decode cc pc = .ok (.aaload, 1))
    (kk : W p l e R s m args below meth c H locs cells slots Q (F0 m (pc + 1) ls (va_rf (f i.toNatClampNeg) :: rest))) : W p l e R s m args below meth c H locs cells slots Q (F0 m pc ls (.int i :: .ref a :: rest)) := by
  have hlt : i.toNatClampNeg < n := Nat.not_le.mp fun q => hin (Or.inr q)
  exact W.aald (v := va_rf (f i.toNatClampNeg)) (ty := ty) hexec hb (hP q0 _ ha) ((hK.2 t0 _ ht).1 n (fun j => va_rf (f j))) hty (fun q => by cases q) (by show ¬ (i < 0 ∨ (arrV _ _ _).slots.size ≤ _); rw [arrV_size]; exact hin) (by show (arrV _ _ _).slots[_]? = _; rw [arrV_read _ _ hlt]) rfl rfl hdg kk
end JWH
end
section
/-! ===== the heap's instructions of the abstract machine ===== -/
/-- the type that a field's kind stands for -/
def jw_fty (code : Nat) (ty : FieldType) : Bool := match code, ty with
  | 0, .int => true
  | 1, .long => true
  | 2, .boolean => true
  | 3, .object _ => true
  | 3, .array _ => true
  | _, _ => false
/-- words of the tables that an instruction needs (calls apart) -/
def jw_wd (own : String) (cl : List vw_C) (q : jw_I) : List Cond := match q.2.1 with
  | .getfield idx | .putfield idx => (match cl[q.2.2.2.1]? with
    | some (_, T, _) => [.fieldLink own idx (T q.2.2.2.2.1).1 (T q.2.2.2.2.1).2.1 (T q.2.2.2.2.1).2.2.1]
    | none => [])
  | .ldc idx => (match q.2.2.2.2.2 with
    | [(v, _)] => bif q.2.2.2.1 == 0 then [.constant own idx (Int32.ofInt v)] else []
    | _ => [])
  | .ldc_w idx => (match q.2.2.2.2.2 with
    | [(v, _)] => [.constant own idx (Int32.ofInt v)]
    | _ => [])
  | .ldc2_w idx => (match q.2.2.2.2.2 with
    | [(v, _)] => [.constantLong own idx (Int64.ofInt v)]
    | _ => [])
  | .getstatic idx => [.fieldLink own idx "ShadowSchool" "SELF_AND_ABOVE" "[I"]
  | _ => []
/-- what else must be so of it -/
def jw_wf (own nm : String) (cl : List vw_C) (q : jw_I) : Bool := match q.2.1 with
  | .getfield _ => (match cl[q.2.2.2.1]? with
    | some (_, _, N) => Nat.blt q.2.2.2.2.1 N
    | none => false)
  | .putfield _ => (match cl[q.2.2.2.1]?, q.2.2.2.2.2 with
    | some (_, T, N), [(_, code)] => Nat.blt q.2.2.2.2.1 N && ((match parseFieldDescriptor (T q.2.2.2.2.1).2.2.1 with | some ty => jw_fty code ty | none => false) && (!(T q.2.2.2.2.1).2.2.2 || (nm == "<init>" && (T q.2.2.2.2.1).1 == own)))
    | _, _ => false)
  | .ldc idx => q.2.2.2.1 == 0 || (own == "ShadowSchool$Reader" && idx == 63)
  | _ => true
/-- the classes' tables -/
def jw_clok (cl : List vw_C) (Ts : List Cond) : Prop := ∀ (ci : Nat) (C : String) (T : u_T) (N : Nat), cl[ci]? = some (C, T, N) → (∀ w ∈ u_ws C T N, w ∈ Ts) ∧ (∃ ty0 : Nat → FieldType, ∀ k, k < N → parseFieldDescriptor (T k).2.2.1 = some (ty0 k)) ∧ ∀ a, a < N → ∀ b, b < N → a ≠ b → (T a).2.1 ≠ (T b).2.1
def jw_isH : Instr → Bool
  | .getfield _ | .putfield _ | .ldc _ | .ldc_w _ | .ldc2_w _ | .getstatic _ | .iaload | .laload | .aaload | .iastore | .lastore | .arraylength => true
  | _ => false
def jw_tx : String := "shadow joined gifted coloured slow borrowed last easy play if or and not hour learnt quick tall number "
/-- the String constant: its object, its bytes, the statics that its methods read -/
def jw_XS (α : Nat → Nat) (A : Nat → Prop) (U : State) (H : Heap) : Prop := vk_R "ShadowSchool$Reader" 63 jw_tx (α jw_str) U ∧ va_O "java/lang/String" (α jw_str) A U H ∧ va_OF "java/lang/String" "coder" "B" (.int 0) (α jw_str) A U H ∧ va_OF "java/lang/String" "value" "[B" (.ref (α (jw_str + 2))) (α jw_str) A U H ∧ va_T .byte (α (jw_str + 2)) 103 (fun j => .int (jw_txt.getD j 0)) A U H ∧ va_Z "java/lang/String" "COMPACT_STRINGS" "Z" (.int 1) A U H ∧ va_Zq "jdk/internal/util/Preconditions" "SIOOBE_FORMATTER" "Ljava/util/function/BiFunction;" A U H
/-- what the world's outside holds: the static row, the String constant -/
def jw_X (α : Nat → Nat) (A : Nat → Prop) (U : State) (H : Heap) : Prop := jw_XS α A U H ∧ va_Z "ShadowSchool" "SELF_AND_ABOVE" "[I" (.ref (α jw_self)) A U H ∧ va_T .int (α jw_self) 6 (fun j => .int (jw_tab.getD j 0)) A U H
theorem jw_sz_set {a b : jw_S} : ∀ {l : List jw_S} {i : Nat}, l[i]? = some a → jw_ssz b = jw_ssz a → jw_sz (l.set i b) = jw_sz l
  | [], i, h, _ => by simp at h
  | x :: l, 0, h, e => by
    simp at h
    subst h
    simp [jw_sz, e]
  | x :: l, i + 1, h, e => by
    simp at h
    simp [jw_sz, jw_sz_set (l := l) (i := i) h e]
theorem jw_tys_get (cy : Nat → ClassId) {t : Nat} (h : t < 5) : ∃ ty, (jw_tys cy)[t]? = some (cy t, ty) ∧ (2 ≤ t → ty.isReference = true) := by
  match t, h with
  | 0, _ => exact ⟨_, rfl, fun q => by omega⟩
  | 1, _ => exact ⟨_, rfl, fun q => by omega⟩
  | 2, _ => exact ⟨_, rfl, fun _ => rfl⟩
  | 3, _ => exact ⟨_, rfl, fun _ => rfl⟩
  | 4, _ => exact ⟨_, rfl, fun _ => rfl⟩
section JWH2
variable {p : Program} {l : Launch} {e : Env} {R : Room} {s : State} {m : MethodId} {args : Array Value} {below : List Frame} {meth : Method} {c : Code} {H : Heap} {locs : List Loc} {cells slots : Nat} {Qf : State → Prop}
variable {cc : ByteArray} {ls : Array Slot} {kd : Nat → List jw_K} {C : Nat → List Value → jw_H → jw_Q → Prop} {bud : Nat → Nat × Nat} {lim : Nat × Nat} {ret : Option FieldType} {L : jw_L} {st : List Value} {h : jw_H} {Q : jw_Q} {K : Nat → jw_L → List Value → jw_H → Prop} {α : Nat → Nat} {nL : Nat}
variable {D : va_G} {cl : List vw_C} {A : Nat → Prop} {cy : Nat → ClassId} {own nm : String} {Ts : List Cond}
theorem jw_get_ok {ci k i : Nat} {f : Value → Prop} (hs : jw_get h ci k i f) : ∃ ks kd0, h.1[i]? = some (.inl (ci, ks)) ∧ ks[k]? = some kd0 ∧ ∀ α : Nat → Nat, ∃ v, f v ∧ jw_ad α v = jw_fld α h.2 i k kd0 := by
  unfold jw_get at hs
  split at hs
  · rename_i cj ks hsh
    obtain ⟨h1, h2⟩ := jw_bif hs
    have h1 : cj = ci := by simpa using h1
    subst h1
    split at h2
    · rename_i hk
      exact ⟨ks, _, hsh, hk, fun α => ⟨_, h2, rfl⟩⟩
    · rename_i n hn1 hk
      refine ⟨ks, _, hsh, hk, fun α => ⟨_, h2, ?_⟩⟩
      unfold jw_fld
      split
      · rename_i h9
        cases h9
        exact absurd rfl hn1
      · rfl
      · rename_i h9
        cases h9
    · rename_i o hk
      exact ⟨ks, _, hsh, hk, fun α => ⟨_, h2, jw_ad_rf α o⟩⟩
    · exact h2.elim
  · exact hs.elim
set_option maxHeartbeats 4000000 in
set_option maxRecDepth 100000 in
theorem jo_heap {pc len : Nat} {ins : Instr} {res : jw_R} (hS0 : jw_isH ins = true) (hx : p.tables.exec = Jvm.exec) (hb : c.code = cc) (hd : jw_okd cc (pc, ins, len, res)) (hw : ∀ w ∈ jw_wd own cl (pc, ins, len, res), w ∈ Ts) (hwf : jw_wf own nm cl (pc, ins, len, res) = true) (hts : ∀ w ∈ Ts, w.before args s = true) (hcl : jw_clok cl Ts) (hown : s.vm.findClass own = some m.cls) (hnm : meth.name = nm)
    (hK0 : va_K D cl (jw_tys cy) s) (hP : va_P D cl (jw_wld cy α h) H) (hD : va_D A (jw_wld cy α h)) (hS : va_S A s.heap H locs) (hX : jw_X α A s s.heap)
    (hs : jw_step kd C bud lim ret (pc, ins, len, res) L st h Q K)
    (hK : ∀ (pc' : Nat) (st' : List Value) (h' : jw_H) (H' : Heap) (locs' : List Loc), K pc' L st' h' → H'.size = H.size → h'.1.length = h.1.length → jw_sz h'.1 = jw_sz h.1 → va_P D cl (jw_wld cy α h') H' → va_D A (jw_wld cy α h') → va_S A s.heap H' locs' → W p l e R s m args below meth c H' locs' cells slots Qf (F0 m pc' ls (st'.map (jw_ad α)))) :
    W p l e R s m args below meth c H locs cells slots Qf (F0 m pc ls (st.map (jw_ad α))) := by
  obtain ⟨hdg, hlen, hst⟩ := hd
  dsimp only at hdg hlen
  have hlen' : ∀ k, jw_len ins = k + 1 → len = k + 1 := fun k hk => by
    rcases hlen with h0 | h0
    · omega
    · omega
  have hK1 : ∀ (pc' : Nat) (st' : List Value), K pc' L st' h → W p l e R s m args below meth c H locs cells slots Qf (F0 m pc' ls (st'.map (jw_ad α))) := fun pc' st' hk => hK pc' st' h H locs hk rfl rfl rfl hP hD hS
  cases ins <;> first | (exact Bool.noConfusion hS0) | skip
  case getfield idx =>
    have := hlen' 2 rfl; subst this
    obtain ⟨i, r, rfl, h2⟩ := jw_r1_ok hs
    obtain ⟨ks, kd0, g1, g2, g3⟩ := jw_get_ok h2
    obtain ⟨v, g4, g5⟩ := g3 α
    unfold jw_wf at hwf
    dsimp only at hwf
    split at hwf
    · rename_i C0 T0 N0 hcl0
      have hkN : res.2.1 < N0 := by simpa [Nat.blt_eq] using hwf
      refine va_get hx hb hts (hcl _ _ _ _ hcl0).1 hown hK0 hP i (jw_wld_some g1) hcl0 res.2.1 hkN (hts _ (hw _ ?_)) (fun _ h => h) (v := jw_ad α v) ?_ hdg (hK1 _ _ g4)
      · unfold jw_wd
        dsimp only
        rw [hcl0]
        exact List.mem_singleton.mpr rfl
      · rw [g5, List.getElem?_mapIdx, g2]
        rfl
    · cases hwf
  case putfield idx =>
    have := hlen' 2 rfl; subst this
    unfold jw_wf at hwf
    dsimp only at hwf
    split at hwf
    · rename_i C0 T0 N0 v0 code hcl0 hres
      simp only [Bool.and_eq_true] at hwf
      obtain ⟨w1, w2, w3⟩ := hwf
      have hkN : res.2.1 < N0 := by simpa [Nat.blt_eq] using w1
      obtain ⟨c1, ⟨ty0, c2⟩, c3⟩ := hcl _ _ _ _ hcl0
      have hlink := hts _ (hw (.fieldLink own idx (T0 res.2.1).1 (T0 res.2.1).2.1 (T0 res.2.1).2.2.1) (by
        unfold jw_wd
        dsimp only
        rw [hcl0]
        exact List.mem_singleton.mpr rfl))
      have hfin : (T0 res.2.1).2.2.2 = false ∨ (meth.name = "<init>" ∧ (T0 res.2.1).1 = own) := by
        simp only [Bool.or_eq_true, Bool.not_eq_true', Bool.and_eq_true, beq_iff_eq] at w3
        rcases w3 with w3 | w3
        · exact Or.inl w3
        · exact Or.inr ⟨hnm.trans w3.1, w3.2⟩
      have hty : ∃ ty, parseFieldDescriptor (T0 res.2.1).2.2.1 = some ty ∧ jw_fty code ty = true := by
        split at w2
        · exact ⟨_, by assumption, w2⟩
        · cases w2
      obtain ⟨ty, hp1, hp2⟩ := hty
      replace hs : jw_put h res.1 res.2.1 res.2.2 st fun r h => K (pc + 3) L r h := hs
      rw [hres] at hs
      unfold jw_put at hs
      split at hs
      · rename_i x i r q0
        cases q0
        split at hs
        · rename_i cj ks hsh
          obtain ⟨h1, h2⟩ := jw_bif hs
          have h1 : cj = res.1 := by simpa using h1
          subst h1
          split at h2
          · rename_i hk
            have e1 : ty = .int := by cases ty <;> first | rfl | exact Bool.noConfusion hp2
            subst e1
            refine jo_put hx hb hts c1 ty0 c2 c3 hown hK0 hP hD hS (jw_wld_some hsh) hcl0 hkN hlink hfin hp1 (v := .int x) rfl rfl (by rw [List.length_mapIdx]; exact (List.getElem?_eq_some_iff.mp hk).1) hdg (fun H1 locs1 z hP1 hD1 hS1 => ?_)
            have e2 : jw_wld cy α (h.1, jw_up h.2.1 i res.2.1 x, h.2.2) = (jw_wld cy α h).set i (α i, .inr (res.1, (ks.mapIdx (jw_fld α h.2 i)).set res.2.1 (.int x))) := by
              rw [jw_wld_keep (h := h) (h' := (h.1, jw_up h.2.1 i res.2.1 x, h.2.2)) hsh rfl (fun j hj => jw_up_ne hj) (fun _ _ => rfl)]
              congr 3
              show Sum.inr (res.1, ks.mapIdx _) = Sum.inr (res.1, _)
              rw [← jw_flds_up (M := h.2) (M' := (jw_up h.2.1 i res.2.1 x, h.2.2)) (kd' := .inl 0) hk (by show Value.int (jw_up _ _ _ _ _ _) = _; rw [jw_up_eq, va_up, if_pos rfl]) (fun j hj => ⟨by show jw_up _ _ _ _ _ _ = _; rw [jw_up_eq, va_up, if_neg hj], rfl⟩), jw_list_set hk]
            rw [← e2] at hP1 hD1
            exact hK _ _ _ _ _ h2 z rfl rfl hP1 hD1 hS1
          · exact h2.elim
        · exact hs.elim
      · rename_i x i r q0
        cases q0
        split at hs
        · rename_i cj ks hsh
          obtain ⟨h1, h2⟩ := jw_bif hs
          have h1 : cj = res.1 := by simpa using h1
          subst h1
          split at h2
          · rename_i hk
            obtain ⟨hx01, h2⟩ := h2
            have e1 : ty = .boolean := by cases ty <;> first | rfl | exact Bool.noConfusion hp2
            subst e1
            refine jo_put hx hb hts c1 ty0 c2 c3 hown hK0 hP hD hS (jw_wld_some hsh) hcl0 hkN hlink hfin hp1 (v := .int x) (by rcases hx01 with rfl | rfl <;> rfl) (by rcases hx01 with rfl | rfl <;> rfl) (by rw [List.length_mapIdx]; exact (List.getElem?_eq_some_iff.mp hk).1) hdg (fun H1 locs1 z hP1 hD1 hS1 => ?_)
            have e2 : jw_wld cy α (h.1, jw_up h.2.1 i res.2.1 x, h.2.2) = (jw_wld cy α h).set i (α i, .inr (res.1, (ks.mapIdx (jw_fld α h.2 i)).set res.2.1 (.int x))) := by
              rw [jw_wld_keep (h := h) (h' := (h.1, jw_up h.2.1 i res.2.1 x, h.2.2)) hsh rfl (fun j hj => jw_up_ne hj) (fun _ _ => rfl)]
              congr 3
              show Sum.inr (res.1, ks.mapIdx _) = Sum.inr (res.1, _)
              rw [← jw_flds_up (M := h.2) (M' := (jw_up h.2.1 i res.2.1 x, h.2.2)) (kd' := .inl 2) hk (by show Value.int (jw_up _ _ _ _ _ _) = _; rw [jw_up_eq, va_up, if_pos rfl]) (fun j hj => ⟨by show jw_up _ _ _ _ _ _ = _; rw [jw_up_eq, va_up, if_neg hj], rfl⟩), jw_list_set hk]
            rw [← e2] at hP1 hD1
            exact hK _ _ _ _ _ h2 z rfl rfl hP1 hD1 hS1
          · exact h2.elim
        · exact hs.elim
      · rename_i x i r q0
        cases q0
        split at hs
        · rename_i cj ks hsh
          obtain ⟨h1, h2⟩ := jw_bif hs
          have h1 : cj = res.1 := by simpa using h1
          subst h1
          split at h2
          · rename_i hk
            have e1 : ty = .long := by cases ty <;> first | rfl | exact Bool.noConfusion hp2
            subst e1
            refine jo_put hx hb hts c1 ty0 c2 c3 hown hK0 hP hD hS (jw_wld_some hsh) hcl0 hkN hlink hfin hp1 (v := .long x) rfl rfl (by rw [List.length_mapIdx]; exact (List.getElem?_eq_some_iff.mp hk).1) hdg (fun H1 locs1 z hP1 hD1 hS1 => ?_)
            have e2 : jw_wld cy α (h.1, h.2.1, jw_up h.2.2 i res.2.1 x) = (jw_wld cy α h).set i (α i, .inr (res.1, (ks.mapIdx (jw_fld α h.2 i)).set res.2.1 (.long x))) := by
              rw [jw_wld_keep (h := h) (h' := (h.1, h.2.1, jw_up h.2.2 i res.2.1 x)) hsh rfl (fun _ _ => rfl) (fun j hj => jw_up_ne hj)]
              congr 3
              show Sum.inr (res.1, ks.mapIdx _) = Sum.inr (res.1, _)
              rw [← jw_flds_up (M := h.2) (M' := (h.2.1, jw_up h.2.2 i res.2.1 x)) (kd' := .inl 1) hk (by show Value.long (jw_up _ _ _ _ _ _) = _; rw [jw_up_eq, va_up, if_pos rfl]) (fun j hj => ⟨rfl, by show jw_up _ _ _ _ _ _ = _; rw [jw_up_eq, va_up, if_neg hj]⟩), jw_list_set hk]
            rw [← e2] at hP1 hD1
            exact hK _ _ _ _ _ h2 z rfl rfl hP1 hD1 hS1
          · exact h2.elim
        · exact hs.elim
      · rename_i j i r q0
        cases q0
        split at hs
        · rename_i cj ks hsh
          obtain ⟨h1, h2⟩ := jw_bif hs
          have h1 : cj = res.1 := by simpa using h1
          subst h1
          split at h2
          · rename_i o hk
            have e1 : (∃ n, ty = .object n) ∨ ∃ t, ty = .array t := by cases ty <;> first | exact Or.inl ⟨_, rfl⟩ | exact Or.inr ⟨_, rfl⟩ | exact Bool.noConfusion hp2
            refine jo_put hx hb hts c1 ty0 c2 c3 hown hK0 hP hD hS (jw_wld_some hsh) hcl0 hkN hlink hfin hp1 (v := .ref (α j)) (by rcases e1 with ⟨n, rfl⟩ | ⟨t, rfl⟩ <;> rfl) (by rcases e1 with ⟨n, rfl⟩ | ⟨t, rfl⟩ <;> rfl) (by rw [List.length_mapIdx]; exact (List.getElem?_eq_some_iff.mp hk).1) hdg (fun H1 locs1 z hP1 hD1 hS1 => ?_)
            have e2 : jw_wld cy α (h.1.set i (.inl (res.1, ks.set res.2.1 (.inr (some j)))), h.2) = (jw_wld cy α h).set i (α i, .inr (res.1, (ks.mapIdx (jw_fld α h.2 i)).set res.2.1 (.ref (α j)))) := by
              rw [jw_wld_set (h := h) (h' := (h.1.set i (.inl (res.1, ks.set res.2.1 (.inr (some j)))), h.2)) hsh rfl (fun _ _ => rfl) (fun _ _ => rfl)]
              congr 3
              show Sum.inr (res.1, (ks.set _ _).mapIdx _) = Sum.inr (res.1, _)
              rw [jw_flds_up (M := h.2) (M' := h.2) (kd' := .inr (some j)) (v := .ref (α j)) hk rfl (fun _ _ => ⟨rfl, rfl⟩)]
            rw [← e2] at hP1 hD1
            exact hK _ _ _ _ _ h2 z (by simp) (jw_sz_set hsh (by simp [jw_ssz])) hP1 hD1 hS1
          · exact h2.elim
        · exact hs.elim
      · exact hs.elim
    · cases hwf
  case ldc idx =>
    have := hlen' 1 rfl; subst this
    unfold jw_step at hs
    dsimp only at hs
    split at hs
    · rename_i v z hv
      cases hk0 : (res.1 == 0) with
      | true =>
        rw [hk0] at hs
        refine lv_ldc hx hb hown (hts _ (hw (.constant own idx (Int32.ofInt v)) ?_)) hdg (hK1 _ _ hs)
        unfold jw_wd
        dsimp only
        rw [hv]
        dsimp only
        rw [hk0]
        exact List.mem_singleton.mpr rfl
      | false =>
        rw [hk0] at hs
        unfold jw_wf at hwf
        dsimp only at hwf
        rw [hk0, Bool.false_or] at hwf
        simp only [Bool.and_eq_true, beq_iff_eq] at hwf
        obtain ⟨rfl, rfl⟩ := hwf
        exact va_ldcS hx hb hown hX.1.1 hdg (hK1 _ _ hs)
    · exact hs.elim
  case ldc_w idx =>
    have := hlen' 2 rfl; subst this
    unfold jw_step at hs
    dsimp only at hs
    split at hs
    · rename_i v z hv
      refine lv_ldcw hx hb hown (hts _ (hw (.constant own idx (Int32.ofInt v)) ?_)) hdg (hK1 _ _ hs)
      unfold jw_wd
      dsimp only
      rw [hv]
      exact List.mem_singleton.mpr rfl
    · exact hs.elim
  case ldc2_w idx =>
    have := hlen' 2 rfl; subst this
    unfold jw_step at hs
    dsimp only at hs
    split at hs
    · rename_i v z hv
      refine lv_ldc2 hx hb hown (hts _ (hw (.constantLong own idx (Int64.ofInt v)) ?_)) hdg (hK1 _ _ hs)
      unfold jw_wd
      dsimp only
      rw [hv]
      exact List.mem_singleton.mpr rfl
    · exact hs.elim
  case getstatic idx =>
    have := hlen' 2 rfl; subst this
    exact va_gets hx hb hX.2.1 hS hown (hts _ (hw (.fieldLink own idx "ShadowSchool" "SELF_AND_ABOVE" "[I") (List.mem_singleton.mpr rfl))) (fun _ h => h) hdg (hK1 _ _ hs)
  case iaload =>
    have := hlen' 0 rfl; subst this
    obtain ⟨i, a, r, rfl, h2⟩ := jw_ix_ok hs
    unfold jw_iald at h2
    split at h2
    · rename_i n rs hsh
      exact va_iald hx hb hK0 hP a 0 (jw_wld_some hsh) rfl h2.1 hdg (hK1 _ _ h2.2)
    · exact h2.elim
    · obtain ⟨rfl, h3, h4⟩ := h2
      exact va_ti hx hb hX.2.2 hS h3 rfl hdg (hK1 _ _ h4)
  case laload =>
    have := hlen' 0 rfl; subst this
    obtain ⟨i, a, r, rfl, h2⟩ := jw_ix_ok hs
    unfold jw_lald at h2
    split at h2
    · rename_i n rs hsh
      exact va_lald hx hb hK0 hP a 1 (jw_wld_some hsh) rfl h2.1 hdg (hK1 _ _ h2.2)
    · exact h2.elim
  case aaload =>
    have := hlen' 0 rfl; subst this
    obtain ⟨i, a, r, rfl, h2⟩ := jw_ix_ok hs
    unfold jw_aald at h2
    split at h2
    · rename_i t n rs hsh
      obtain ⟨h3, h4, h5⟩ := jw_bif h2
      have h3 : t < 3 := by simpa [Nat.blt_eq] using h3
      obtain ⟨ty, t1, t2⟩ := jw_tys_get cy (t := t + 2) (by omega)
      refine jo_aald hx hb hK0 hP (jw_wld_some hsh) t1 (t2 (by omega)) h4 hdg ?_
      have := hK1 _ _ h5
      rw [List.map_cons, jw_ad_rf] at this
      exact this
    · exact h2.elim
  case iastore =>
    have := hlen' 0 rfl; subst this
    replace hs : jw_iast h st fun r h => K (pc + 1) L r h := hs
    unfold jw_iast at hs
    split at hs
    · rename_i x i a r
      split at hs
      · rename_i n rs hsh
        refine jo_iast hx hb hK0 hP hD hS (t0 := 0) (jw_wld_some hsh) rfl hs.1 hdg (fun H1 locs1 z hP1 hD1 hS1 => ?_)
        have e2 : jw_wld cy α (h.1, jw_up h.2.1 a i.toNatClampNeg x, h.2.2) = (jw_wld cy α h).set a (α a, .inl (cy 0, n, .inl (va_up (h.2.1 a) i.toNatClampNeg x))) := by
          rw [jw_wld_keep (h := h) (h' := (h.1, jw_up h.2.1 a i.toNatClampNeg x, h.2.2)) hsh rfl (fun j hj => jw_up_ne hj) (fun _ _ => rfl)]
          congr 3
          show Sum.inl (cy 0, n, Sum.inl (jw_up _ _ _ _ _)) = _
          rw [jw_up_eq]
        rw [← e2] at hP1 hD1
        exact hK _ _ _ _ _ hs.2 z rfl rfl hP1 hD1 hS1
      · exact hs.elim
    · exact hs.elim
  case lastore =>
    have := hlen' 0 rfl; subst this
    replace hs : jw_last h st fun r h => K (pc + 1) L r h := hs
    unfold jw_last at hs
    split at hs
    · rename_i x i a r
      split at hs
      · rename_i n rs hsh
        refine jo_last hx hb hK0 hP hD hS (t0 := 1) (jw_wld_some hsh) rfl hs.1 hdg (fun H1 locs1 z hP1 hD1 hS1 => ?_)
        have e2 : jw_wld cy α (h.1, h.2.1, jw_up h.2.2 a i.toNatClampNeg x) = (jw_wld cy α h).set a (α a, .inl (cy 1, n, .inr (.inl (va_up (h.2.2 a) i.toNatClampNeg x)))) := by
          rw [jw_wld_keep (h := h) (h' := (h.1, h.2.1, jw_up h.2.2 a i.toNatClampNeg x)) hsh rfl (fun _ _ => rfl) (fun j hj => jw_up_ne hj)]
          congr 3
          show Sum.inl (cy 1, n, Sum.inr (Sum.inl (jw_up _ _ _ _ _))) = _
          rw [jw_up_eq]
        rw [← e2] at hP1 hD1
        exact hK _ _ _ _ _ hs.2 z rfl rfl hP1 hD1 hS1
      · exact hs.elim
    · exact hs.elim
  case arraylength =>
    have := hlen' 0 rfl; subst this
    obtain ⟨a, r, rfl, h2⟩ := jw_r1_ok hs
    unfold jw_alen at h2
    split at h2
    · rename_i t n rs hsh
      obtain ⟨h3, h4⟩ := jw_bif h2
      have h3 : t < 5 := by simpa [Nat.blt_eq] using h3
      obtain ⟨ty, t1, -⟩ := jw_tys_get cy h3
      have hg := jw_wld_some (cy := cy) (α := α) hsh
      match t, t1, hg with
      | 0, t1, hg => exact va_alen hx hb hK0 hP a 0 hg t1 rfl hdg (hK1 _ _ h4)
      | 1, t1, hg => exact va_alen hx hb hK0 hP a 1 hg t1 rfl hdg (hK1 _ _ h4)
      | t + 2, t1, hg => exact va_alen hx hb hK0 hP a (t + 2) hg t1 rfl hdg (hK1 _ _ h4)
    · exact h2.elim
end JWH2
end
section
/-! ===== contracts of the abstract machine's methods, and calls ===== -/
def jw_rm (d mc ms : Nat) : Room := { frames := d, cells := mc, slots := ms, locals := 200 * d }
/-- words that are carried in a contract's start: of nest mates, of casts, of arrays' classes -/
def jw_nw (Ns : List Cond) (U : State) : Prop := (∀ w ∈ Ns, va_Nw w U) ∧ va_AO "ShadowSchool$Progress" U ∧ va_AO "ShadowSchool$Shade" U ∧ (Cond.arrayOver (.array .int)).before #[] U = true
def jw_nsok (Ns : List Cond) : Prop := ∀ w ∈ Ns, (∃ a i x h, w = Cond.methodLinkNest a i x h) ∨ ∃ C T, w = Cond.castable C T
def jw_pre (D : va_G) (cl : List vw_C) (cy : Nat → ClassId) (α : Nat → Nat) (Ns : List Cond) (h : jw_H) (sz : Nat) : State → Prop := fun U => U.heap.size = sz ∧ va_P D cl (jw_wld cy α h) U.heap ∧ va_K D cl (jw_tys cy) U ∧ va_D (fun _ => True) (jw_wld cy α h) ∧ jw_X α (va_A (jw_wld cy α h) sz) U U.heap ∧ jw_nw Ns U
def jw_post (D : va_G) (cl : List vw_C) (cy : Nat → ClassId) (α : Nat → Nat) (h : jw_H) (sz mc ms : Nat) (Q : jw_Q) : Option Value → State → Prop := fun v t => ∃ (r : Option Value) (h' : jw_H), v = r.map (jw_ad α) ∧ Q r h' ∧ h'.1.length = h.1.length + mc ∧ jw_sz h'.1 = jw_sz h.1 + ms ∧ t.heap.size = sz + mc ∧ va_P D cl (jw_wld cy α h') t.heap ∧ va_D (va_A (jw_wld cy α h) sz) (jw_wld cy α h')
def jw_Qc (D : va_G) (cl : List vw_C) (cy : Nat → ClassId) (α : Nat → Nat) (h : jw_H) (sz mc ms : Nat) (Q : jw_Q) : Array Value → State → Outcome → State → Prop := fun _ st oc t => (∃ v, oc = .returned v ∧ jw_post D cl cy α h sz mc ms Q v t) ∧ va_F (va_A (jw_wld cy α h) sz) st t
def jw_fut (α : Nat → Nat) (n sz mc : Nat) : Prop := ∀ j, n ≤ j → j < n + mc → α j = sz + (j - n)
def jw_met (l : Launch) (D : va_G) (cl : List vw_C) (cy : Nat → ClassId) (α : Nat → Nat) (Ns Tg : List Cond) (d : Nat) (y : jw_Y) (as : List Value) (h : jw_H) (Q : jw_Q) : Prop :=
  ∀ sz : Nat, jw_fut α h.1.length sz y.2.2.2.2.1.1 → Met l y.1 (Cond.code y.1 y.2.1 y.2.2.1 y.2.2.2.1 :: Tg) (jw_rm d y.2.2.2.2.1.1 y.2.2.2.2.1.2) (va_Pc (as.map (jw_ad α)) (jw_pre D cl cy α Ns h sz)) (jw_Qc D cl cy α h sz y.2.2.2.2.1.1 y.2.2.2.2.1.2 Q) y.2.2.2.2.1.1 y.2.2.2.2.1.2 (va_A (jw_wld cy α h) sz)
theorem jw_nw_same {Ns : List Cond} (hn : jw_nsok Ns) {u U : State} (h : u.vm = U.vm) (hz : jw_nw Ns u) : jw_nw Ns U := by
  refine ⟨fun w hw => ?_, va_AO.moved (h ▸ Vm.Alike.refl u.vm) hz.2.1, va_AO.moved (h ▸ Vm.Alike.refl u.vm) hz.2.2.1, over_moved (h ▸ Vm.Alike.refl u.vm) hz.2.2.2⟩
  rcases hn w hw with ⟨a, i, x, k, rfl⟩ | ⟨C, T, rfl⟩
  · exact va_Nw.same rfl h (hz.1 _ hw)
  · exact va_Nw.same rfl h (hz.1 _ hw)
theorem jw_nw_warm {Ns : List Cond} (hn : jw_nsok Ns) {s U : State} (hW : s.WarmedH U.vm) (hz : jw_nw Ns s) : jw_nw Ns U := by
  refine ⟨fun w hw => ?_, va_AO.moved hW.alike hz.2.1, va_AO.moved hW.alike hz.2.2.1, over_moved hW.alike hz.2.2.2⟩
  rcases hn w hw with ⟨a, i, x, k, rfl⟩ | ⟨C, T, rfl⟩
  · exact va_Nw.warmM hW (hz.1 _ hw)
  · exact va_Nw.warmC hW (hz.1 _ hw)
theorem jw_X_go {α : Nat → Nat} {A B : Nat → Prop} {u U : State} {H H1 : Heap} (h : jw_X α A u H) (hR : vk_R "ShadowSchool$Reader" 63 jw_tx (α jw_str) U) (hvm : u.vm.Alike U.vm) (hq : ∀ a : Nat, a < H.size → ¬ A a → H1[a]? = H[a]?) (hAB : ∀ q, B q → A q) : jw_X α B U H1 := by
  obtain ⟨⟨-, h2, h3, h4, h5, h6, h7⟩, h8, h9⟩ := h
  refine ⟨⟨hR, ((va_O.moved hvm h2).kept hq).narrow hAB, ((va_OF.moved hvm h3).kept hq).narrow hAB, ((va_OF.moved hvm h4).kept hq).narrow hAB, ((va_T.moved hvm h5).kept hq).narrow hAB, ((va_Z.moved hvm h6).kept hq).narrow hAB, ?_⟩, ((va_Z.moved hvm h8).kept hq).narrow hAB, ((va_T.moved hvm h9).kept hq).narrow hAB⟩
  have h7' := (va_Zq.moved hvm h7).kept hq
  rcases h7' with h7' | ⟨t, h7'⟩
  · exact Or.inl (h7'.narrow hAB)
  · exact Or.inr ⟨t, h7'.narrow hAB⟩
theorem jw_X_same {α : Nat → Nat} {A : Nat → Prop} {u U : State} {H : Heap} (h : jw_X α A u H) (hvm : u.vm = U.vm) : jw_X α A U H := jw_X_go h (vk_R.same hvm.symm h.1.1) (hvm ▸ Vm.Alike.refl u.vm) (fun _ _ _ => rfl) (fun _ h => h)
theorem jw_blind {D : va_G} {cl : List vw_C} {cy : Nat → ClassId} {α : Nat → Nat} {Ns : List Cond} (hn : jw_nsok Ns) {h : jw_H} {sz : Nat} {av : List Value} : FrameBlind (va_Pc av (jw_pre D cl cy α Ns h sz)) := by
  intro a U g mk q
  obtain ⟨q0, q1, qP, qK, qD, qX, qN⟩ := q
  exact ⟨q0, q1, qP, va_K.moved (u := U) (U := U.calling g mk a) (Vm.Alike.refl U.vm) qK, qD, jw_X_same (u := U) (U := U.calling g mk a) qX rfl, jw_nw_same hn (u := U) rfl qN⟩
section JWC
variable {p : Program} {l : Launch} {e : Env} {R : Room} {s : State} {m : MethodId} {args : Array Value} {below : List Frame} {meth : Method} {c : Code} {H : Heap} {locs : List Loc} {cells slots : Nat} {Qf : State → Prop}
variable {cc : ByteArray} {ls : Array Slot} {α : Nat → Nat} {nL : Nat} {D : va_G} {cl : List vw_C} {A : Nat → Prop} {cy : Nat → ClassId} {own nm : String} {Ts Tg Ns : List Cond} {h : jw_H}
theorem jo_callg {A0 A1 : Nat → Prop} {H0 : Heap} {pc mc ms : Nat} {rest st0 : List Value} {free : Addr → Prop} {Pv : Option Value → State → Prop} (hr : va_Run p l e R s m args below meth c H locs cells slots mc ms (F0 m pc ls st0) rest (fun st oc t => (∃ v, oc = .returned v ∧ Pv v t) ∧ va_F A1 st t) free) (hS : va_S A0 H0 H locs) (hA : ∀ q, q < H.size → A1 q → A0 q) (hf : ∀ q, free q → A0 q)
    (kk : ∀ (v : Option Value) (t : State) (H1 : Heap) (locs1 : List Loc), t.heap = H1 → Pv v t → va_S A0 H0 H1 locs1 → W p l e R s m args below meth c H1 locs1 (cells + mc) (slots + ms) Qf (F0 m (pc + 3) ls (v.toList ++ rest))) : W p l e R s m args below meth c H locs cells slots Qf (F0 m pc ls st0) := by
  intro T hT X
  obtain ⟨v, st₀, t, T', L, h0, X', hL, e1, e2, ⟨⟨r, hv, hp⟩, hz, hk⟩, st⟩ := hr T hT X
  cases hv
  rw [h0] at hz hk
  obtain ⟨t2, a1, b1⟩ := kk v t T'.heap (locs ++ L) e1.symm hp
    ⟨Nat.le_trans hS.1 (by rw [e1]; exact hz), fun q h1 h2 => by rw [e1, hk q (Nat.lt_of_lt_of_le h1 hS.1) (fun z => h2 (hA q (Nat.lt_of_lt_of_le h1 hS.1) z))]; exact hS.2.1 q h1 h2, fun q hq => by
      rcases List.mem_append.mp hq with h | h
      · exact hS.2.2 q h
      · exact hf _ (hL q h)⟩ T' rfl X'
  exact ⟨t2, st t2 a1, b1⟩
/-- the callee's cells are the caller's -/
theorem jw_sub (hD : va_D A (jw_wld cy α h)) (hS : va_S A s.heap H locs) (hA : ∀ q, s.heap.size ≤ q → A q) : ∀ q, va_A (jw_wld cy α h) H.size q → A q := by
  intro q hq
  rcases hq with ⟨k, e0, hk⟩ | hq
  · exact hD.2 k _ hk
  · exact hA q (Nat.le_trans hS.1 hq)
theorem jw_start (hns : jw_nsok Ns) (hK0 : va_K D cl (jw_tys cy) s) (hP : va_P D cl (jw_wld cy α h) H) (hD : va_D A (jw_wld cy α h)) (hS : va_S A s.heap H locs) (hA : ∀ q, s.heap.size ≤ q → A q) (hX : jw_X α A s s.heap) (hN : jw_nw Ns s) {av : List Value} {a : Array Value} (ha : a = av.toArray) : ∀ U : State, U.heap = H → s.WarmedH U.vm → va_Pc av (jw_pre D cl cy α Ns h H.size) a U := by
  intro U hU hW
  have hsub := jw_sub hD hS hA
  have hkeep : ∀ a : Nat, a < s.heap.size → ¬ A a → U.heap[a]? = s.heap[a]? := fun a h1 h2 => by rw [hU]; exact hS.2.1 a h1 h2
  refine ⟨ha, by rw [hU], by rw [hU]; exact hP, va_K.moved hW.alike hK0, hD.weaken (fun _ _ _ _ => trivial), jw_X_go hX (vk_R.warm hW hX.1.1) hW.alike hkeep hsub, jw_nw_warm hns hW hN⟩
/-- a call's end, whichever instruction made it -/
theorem jo_end {pc d : Nat} {y : jw_Y} {st0 rest : List Value} {Q : jw_Q} {a : Array Value} (hS : va_S A s.heap H locs) (hD : va_D A (jw_wld cy α h)) (hA : ∀ q, s.heap.size ≤ q → A q)
    (hr : va_Run p l e R s m args below meth c H locs cells slots y.2.2.2.2.1.1 y.2.2.2.2.1.2 (F0 m pc ls st0) (rest.map (jw_ad α)) (jw_Qc D cl cy α h H.size y.2.2.2.2.1.1 y.2.2.2.2.1.2 Q a) (va_A (jw_wld cy α h) H.size))
    (hK : ∀ (v : Option Value) (h' : jw_H) (H' : Heap) (locs' : List Loc), Q v h' → H'.size = H.size + y.2.2.2.2.1.1 → h'.1.length = h.1.length + y.2.2.2.2.1.1 → jw_sz h'.1 = jw_sz h.1 + y.2.2.2.2.1.2 → va_P D cl (jw_wld cy α h') H' → va_D A (jw_wld cy α h') → va_S A s.heap H' locs' → W p l e R s m args below meth c H' locs' (cells + y.2.2.2.2.1.1) (slots + y.2.2.2.2.1.2) Qf (F0 m (pc + 3) ls ((v.toList ++ rest).map (jw_ad α)))) :
    W p l e R s m args below meth c H locs cells slots Qf (F0 m pc ls st0) := by
  have hsub := jw_sub hD hS hA
  refine jo_callg (Pv := jw_post D cl cy α h H.size y.2.2.2.2.1.1 y.2.2.2.2.1.2 Q) hr hS (fun q _ h => hsub q h) hsub (fun v t H1 locs1 ht hp hS1 => ?_)
  obtain ⟨r, h', rfl, hq, n1, n2, n3, hP1, hD1⟩ := hp
  subst ht
  have := hK r h' t.heap locs1 hq n3 n1 n2 hP1 (hD1.weaken (fun k q _ hz => hsub q.1 hz)) hS1
  cases r <;> exact this
end JWC
end
section
/-! ===== the calls' instructions of the abstract machine ===== -/
def jw_code (y : jw_Y) : Cond := Cond.code y.1 y.2.1 y.2.2.1 y.2.2.2.1
/-- words of a virtual call: kind 0: the receiver's own method; kind 1: of a class X, found in O, by the receiver's class -/
def jw_wcV (own : String) (cl : List vw_C) (ys : List jw_Y) (idx k : Nat) (z : Int × Nat) : List Cond := match cl[z.1.toNat]?, ys[z.2]? with
  | some (C, _, _), some y => bif k % 16 == 0 then [.methodLink own idx y.1, .instanceMethod y.1, .selects C y.1 y.1, .initialized C, jw_code y]
    else (match cl[k / 16 % 16]?, cl[k / 256 % 16]?, ys[k / 4096]? with
    | some (X, _, _), some (O, _, _), some y0 => [.methodLink own idx ⟨X, y.1.name, y.1.desc⟩, .sameMethod X O y.1.name y.1.desc, .instanceMethod ⟨O, y.1.name, y.1.desc⟩, .selects C ⟨X, y.1.name, y.1.desc⟩ y.1, .instanceMethod y.1, .initialized y.1.cls, jw_code y, jw_code y0]
    | _, _, _ => [])
  | _, _ => []
def jw_nh (C : String) : Bool := C != "java/lang/invoke/MethodHandle" && C != "java/lang/invoke/VarHandle"
def jw_par (desc : String) (n : Nat) : Bool := (match parseMethodDescriptor desc with
  | some d => d.parameters.length == n
  | none => false)
def jw_fcV (cl : List vw_C) (ys : List jw_Y) (k n : Nat) (z : Int × Nat) : Bool := match cl[z.1.toNat]?, ys[z.2]? with
  | some (C, _, _), some y => Nat.ble y.2.2.1 100 && (jw_par y.1.desc n && (bif k % 16 == 0 then y.1.cls == C && jw_nh C
    else (match cl[k / 16 % 16]?, cl[k / 256 % 16]?, ys[k / 4096]? with
    | some (_, _, _), some (O, _, _), some y0 => y0.1 == ⟨O, y.1.name, y.1.desc⟩ && jw_nh O
    | _, _, _ => false)))
  | _, _ => false
theorem jw_find_ok {ci mid : Nat} : ∀ {l : List (Int × Nat)}, jw_find ci l = some mid → ((ci : Int), mid) ∈ l
  | [], h => by cases h
  | (a, b) :: l, h => by
    rw [jw_find] at h
    cases hc : (a == (ci : Int)) with
    | true =>
      rw [hc] at h
      have : b = mid := Option.some.inj h
      rw [← this, ← (beq_iff_eq.mp hc)]
      exact List.mem_cons_self
    | false =>
      rw [hc] at h
      exact List.mem_cons_of_mem _ (jw_find_ok h)
theorem jw_goodIn {Ts Tg X : List Cond} (hTs : ∀ w ∈ Tg, w ∈ Ts) (hg : ∀ w ∈ Tg, goodWord w = true) (hX : ∀ w ∈ X, w ∈ Tg) : GoodIn Ts X := fun w hw => ⟨hTs w (hX w hw), good_of_word (hg w (hX w hw))⟩
theorem jw_par_ok {desc : String} {n : Nat} (h : jw_par desc n = true) : (parseMethodDescriptor desc).map (fun d => d.parameters.length) = some n := by
  unfold jw_par at h
  split at h
  · rename_i d hd
    rw [hd]
    simpa using h
  · cases h
theorem jw_nh_ok {C : String} (h : jw_nh C = true) : C ≠ "java/lang/invoke/MethodHandle" ∧ C ≠ "java/lang/invoke/VarHandle" := by
  simpa [jw_nh] using h
theorem jw_take {st r : List Value} {n : Nat} {v : Value} (h : st.drop n = v :: r) : st = st.take n ++ v :: r := by
  rw [← h, List.take_append_drop]
section JWV
variable {p : Program} {l : Launch} {e : Env} {R : Room} {s : State} {m : MethodId} {args : Array Value} {below : List Frame} {meth : Method} {c : Code} {H : Heap} {locs : List Loc} {cells slots : Nat} {Qf : State → Prop}
variable {cc : ByteArray} {ls : Array Slot} {α : Nat → Nat} {nL : Nat} {D : va_G} {cl : List vw_C} {A : Nat → Prop} {cy : Nat → ClassId} {own nm : String} {Ts Tg Ns : List Cond} {h : jw_H} {ys : List jw_Y} {C : Nat → List Value → jw_H → jw_Q → Prop} {lim : Nat × Nat} {st : List Value} {f : List Value → jw_H → Prop}
theorem jw_call_ok {kind n : Nat} {tg : List (Int × Nat)} {bud : Nat → Nat × Nat} (hs : jw_call C bud lim (kind, n, tg) st h f) : ∃ (b : Nat) (r : List Value) (ci : Nat) (ks : List jw_K) (mid : Nat), st = st.take n ++ .ref b :: r ∧ n < st.length ∧ h.1[b]? = some (.inl (ci, ks)) ∧ ((ci : Int), mid) ∈ tg ∧ jw_cat r ≤ 8 ∧ (bud mid = (0, 0) ∨ (h.1.length + (bud mid).1 ≤ lim.1 ∧ jw_sz h.1 + (bud mid).2 ≤ lim.2)) ∧ C mid (.ref b :: (st.take n).reverse) h (fun v h' => f (v.toList ++ r) h') := by
  unfold jw_call at hs
  dsimp only at hs
  split at hs
  · rename_i b r hdr
    split at hs
    · rename_i ci ks hsh
      split at hs
      · rename_i mid hm
        obtain ⟨h1, h2⟩ := jw_bif hs
        simp only [Bool.and_eq_true, Bool.or_eq_true, Nat.blt_eq, Nat.ble_eq, beq_iff_eq] at h1
        exact ⟨b, r, ci, ks, mid, jw_take hdr, h1.1, hsh, jw_find_ok hm, h1.2.1, h1.2.2, h2⟩
      · exact hs.elim
    · exact hs.elim
  · exact hs.elim
set_option maxHeartbeats 4000000 in
theorem jo_virt {pc idx kind n d : Nat} {tg : List (Int × Nat)} (hx : p.tables.exec = Jvm.exec) (hb : c.code = cc) (hml : c.maxLocals = nL) (hown : s.vm.findClass own = some m.cls) (hts : ∀ w ∈ Ts, w.before args s = true) (hTs : ∀ w ∈ Tg, w ∈ Ts) (hgood : ∀ w ∈ Tg, goodWord w = true) (hns : jw_nsok Ns)
    (hw : ∀ z ∈ tg, ∀ w ∈ jw_wcV own cl ys idx kind z, w ∈ Tg) (hwf : ∀ z ∈ tg, jw_fcV cl ys kind n z = true) (hRf : d + 1 ≤ R.frames) (hRl : 200 * d + 200 ≤ R.locals) (hdg : decode cc pc = .ok (.invokevirtual idx, 3)) (hlz : ls.size = nL)
    (hK0 : va_K D cl (jw_tys cy) s) (hP : va_P D cl (jw_wld cy α h) H) (hD : va_D A (jw_wld cy α h)) (hS : va_S A s.heap H locs) (hA : ∀ q, s.heap.size ≤ q → A q) (hX : jw_X α A s s.heap) (hN : jw_nw Ns s)
    (IH : ∀ (mid : Nat) (as : List Value) (Q : jw_Q), C mid as h Q → ∀ y, ys[mid]? = some y → jw_met l D cl cy α Ns Tg d y as h Q)
    (hfut : ∀ mc, h.1.length + mc ≤ lim.1 → jw_fut α h.1.length H.size mc) (hlim : ∀ mc ms, h.1.length + mc ≤ lim.1 → jw_sz h.1 + ms ≤ lim.2 → cells + mc ≤ R.cells ∧ slots + ms ≤ R.slots) (hin : h.1.length ≤ lim.1 ∧ jw_sz h.1 ≤ lim.2)
    (hs : jw_call C (jw_bud ys) lim (kind, n, tg) st h f)
    (hK : ∀ (st' : List Value) (h' : jw_H) (H' : Heap) (locs' : List Loc) (k n : Nat), f st' h' → H'.size = H.size + k → h'.1.length = h.1.length + k → jw_sz h'.1 = jw_sz h.1 + n → h'.1.length ≤ lim.1 → jw_sz h'.1 ≤ lim.2 → va_P D cl (jw_wld cy α h') H' → va_D A (jw_wld cy α h') → va_S A s.heap H' locs' → W p l e R s m args below meth c H' locs' (cells + k) (slots + n) Qf (F0 m (pc + 3) ls (st'.map (jw_ad α)))) :
    W p l e R s m args below meth c H locs cells slots Qf (F0 m pc ls (st.map (jw_ad α))) := by
  obtain ⟨b, r, ci, ks, mid, e1, e2, hsh, htg, hcat, hbud, hC⟩ := jw_call_ok hs
  have hwf1 := hwf _ htg
  have hw1 := hw _ htg
  unfold jw_fcV at hwf1
  unfold jw_wcV at hw1
  dsimp only [Int.toNat_natCast] at hwf1 hw1
  split at hwf1
  · rename_i C0 T0 N0 y hcl hy
    rw [hcl, hy] at hw1
    dsimp only at hw1
    have hb1 : jw_bud ys mid = y.2.2.2.2.1 := by unfold jw_bud; rw [hy]
    have hbd : h.1.length + y.2.2.2.2.1.1 ≤ lim.1 ∧ jw_sz h.1 + y.2.2.2.2.1.2 ≤ lim.2 := by
      rcases hbud with hz | hz
      · rw [hb1] at hz
        rw [hz]
        exact hin
      · rw [hb1] at hz
        exact hz
    have hM := IH _ _ _ hC y hy H.size (hfut _ hbd.1)
    have hroom := hlim _ _ hbd.1 hbd.2
    simp only [Bool.and_eq_true, Nat.ble_eq] at hwf1
    obtain ⟨w1, w2, w3⟩ := hwf1
    have hrecv := va_recv hK0 hP hcl (jw_wld_some hsh)
    have hpre := jw_start (av := ((Value.ref b :: (st.take n).reverse).map (jw_ad α))) hns hK0 hP hD hS hA hX hN rfl
    have hstk : (F0 m pc ls (st.map (jw_ad α))).stack = ((st.take n).reverse.map (jw_ad α)).reverse ++ .ref (α b) :: r.map (jw_ad α) := by
      show st.map (jw_ad α) = _
      rw [← List.map_reverse, List.reverse_reverse]
      conv => lhs; rw [e1]
      rw [List.map_append]
      rfl
    have hlen : ((st.take n).reverse.map (jw_ad α)).length = n := by simp; omega
    have hrm : (jw_rm d y.2.2.2.2.1.1 y.2.2.2.2.1.2).frames + 1 ≤ R.frames ∧ 8 + (y.2.2.1 + 11) + (jw_rm d y.2.2.2.2.1.1 y.2.2.2.2.1.2).locals ≤ R.locals := ⟨hRf, by show 8 + (y.2.2.1 + 11) + 200 * d ≤ R.locals; omega⟩
    have hgo : ∀ (hr : va_Run p l e R s m args below meth c H locs cells slots y.2.2.2.2.1.1 y.2.2.2.2.1.2 (F0 m pc ls (st.map (jw_ad α))) (r.map (jw_ad α)) (jw_Qc D cl cy α h H.size y.2.2.2.2.1.1 y.2.2.2.2.1.2 (fun v h' => f (v.toList ++ r) h') (Value.ref (α b) :: (st.take n).reverse.map (jw_ad α)).toArray) (va_A (jw_wld cy α h) H.size)), W p l e R s m args below meth c H locs cells slots Qf (F0 m pc ls (st.map (jw_ad α))) := fun hr =>
      jo_end (d := d) hS hD hA hr (fun v h' H' locs' hq n1 n2 n3 hP1 hD1 hS1 => hK _ _ _ _ _ _ hq n1 n2 n3 (by rw [n2]; exact hbd.1) (by rw [n3]; exact hbd.2) hP1 hD1 hS1)
    cases hk0 : (kind % 16 == 0) with
    | true =>
      rw [hk0] at w3 hw1
      dsimp only [cond_true] at w3 hw1
      simp only [Bool.and_eq_true, beq_iff_eq] at w3
      have hT : GoodIn Ts (wsV own idx C0 y.1 (Cond.code y.1 y.2.1 y.2.2.1 y.2.2.2.1 :: Tg)) := jw_goodIn hTs hgood (fun w hw => by
        rcases List.mem_append.mp hw with q | q
        · exact hw1 w (by simp only [List.mem_cons, List.not_mem_nil, or_false] at q ⊢; rcases q with q | q | q | q <;> simp [q])
        · rcases List.mem_cons.mp q with q | q
          · exact hw1 w (by rw [q]; simp [jw_code])
          · exact q)
      exact hgo (va_runV ⟨hx, hb, hml, hown, hts⟩ hM (cwV n hts hT rfl rfl rfl ⟨w3.1, by rw [w3.1]; exact (jw_nh_ok w3.2).1, by rw [w3.1]; exact (jw_nh_ok w3.2).2, jw_par_ok w2⟩ hrm) ⟨jw_blind hns, hrecv, hpre⟩ rfl hlen hlz hstk (lv_room (by rw [jw_cat_map]; exact hcat)) hdg hroom)
    | false =>
      rw [hk0] at w3 hw1
      dsimp only [cond_false] at w3 hw1
      split at w3
      · rename_i X0 TX NX O0 TO NO y0 hX0 hO0 hy0
        rw [hX0, hO0, hy0] at hw1
        dsimp only at hw1
        simp only [Bool.and_eq_true, beq_iff_eq] at w3
        have hT : GoodIn Ts (va_wsO own idx C0 O0 ⟨X0, y.1.name, y.1.desc⟩ y.1 (Cond.code y.1 y.2.1 y.2.2.1 y.2.2.2.1 :: Tg)) := jw_goodIn hTs hgood (fun w hw => by
          rcases List.mem_append.mp hw with q | q
          · exact hw1 w (by simp only [List.mem_cons, List.not_mem_nil, or_false] at q ⊢; rcases q with q | q | q | q | q | q <;> simp [q])
          · rcases List.mem_cons.mp q with q | q
            · exact hw1 w (by rw [q]; simp [jw_code])
            · exact q)
        have h00 : Cond.code ⟨O0, y.1.name, y.1.desc⟩ y0.2.1 y0.2.2.1 y0.2.2.2.1 ∈ Ts := hTs _ (hw1 _ (by rw [← w3.1]; simp [jw_code]))
        exact hgo (va_runU ⟨hx, hb, hml, hown, hts⟩ hM (va_cwO n hts hT rfl rfl rfl h00 ⟨(jw_nh_ok w3.2).1, (jw_nh_ok w3.2).2, jw_par_ok w2⟩ hrm) ⟨jw_blind hns, hrecv, hpre⟩ rfl hlen hlz hstk (lv_room (by rw [jw_cat_map]; exact hcat)) hdg hroom)
      · cases w3
  · cases hwf1
/-- the two methods of the String constant -/
def jw_yLen : MethodName := ⟨"java/lang/String", "length", "()I"⟩
def jw_yChr : MethodName := ⟨"java/lang/String", "charAt", "(I)C"⟩
def jw_cLen : Cond := Cond.code jw_yLen prog_18_method_54_code 1 (some .int)
def jw_cChr : Cond := Cond.code jw_yChr prog_18_method_56_code 2 (some .char)
def jw_strok (l : Launch) (Tg : List Cond) : Prop := ∀ (α : Nat → Nat) (A : Nat → Prop) (sz d : Nat), 4 ≤ d →
  Met l jw_yLen (jw_cLen :: Tg) (jw_rm d 0 0) (va_Pc [.ref (α jw_str)] (fun U => U.heap.size = sz ∧ jw_X α A U U.heap)) (fun _ st oc t => oc = .returned (some (.int 103)) ∧ t.heap = st.heap) 0 0 (fun _ => False) ∧
  ∀ i : Int32, vp_in i 103 → Met l jw_yChr (jw_cChr :: Tg) (jw_rm d 0 0) (va_Pc [.ref (α jw_str), .int i] (fun U => U.heap.size = sz ∧ jw_X α A U U.heap)) (fun _ st oc t => oc = .returned (some (.int (jw_chr i))) ∧ t.heap = st.heap) 0 0 (fun _ => False)
def jw_wcT (own : String) (idx k : Nat) : List Cond := bif k == 100000 then [.methodLink own idx jw_yLen, .instanceMethod jw_yLen, .selects "java/lang/String" jw_yLen jw_yLen, .initialized "java/lang/String", jw_cLen] else [.methodLink own idx jw_yChr, .instanceMethod jw_yChr, .selects "java/lang/String" jw_yChr jw_yChr, .initialized "java/lang/String", jw_cChr]
theorem jo_callh {pc : Nat} {rest st0 : List Value} {v : Value} (hr : va_Run p l e R s m args below meth c H locs cells slots 0 0 (F0 m pc ls st0) rest (fun st oc t => oc = .returned (some v) ∧ t.heap = st.heap) (fun _ => False)) (hS : va_S A s.heap H locs)
    (kk : ∀ (locs1 : List Loc), va_S A s.heap H locs1 → W p l e R s m args below meth c H locs1 cells slots Qf (F0 m (pc + 3) ls (v :: rest))) : W p l e R s m args below meth c H locs cells slots Qf (F0 m pc ls st0) := by
  intro T hT X
  obtain ⟨v1, st₀, t, T', L, h0, X', hL, e1, e2, ⟨hv, hh⟩, st⟩ := hr T hT X
  cases hv
  have hTh : T'.heap = H := by rw [e1, hh, h0]
  obtain ⟨t2, a1, b1⟩ := kk (locs ++ L) ⟨hS.1, hS.2.1, fun q hq => by
      rcases List.mem_append.mp hq with h | h
      · exact hS.2.2 q h
      · exact (hL q h).elim⟩ T' hTh X'
  exact ⟨t2, st t2 a1, b1⟩
theorem jw_len_par : jw_par "()I" 0 = true := by decide +kernel
theorem jw_chr_par : jw_par "(I)C" 1 = true := by decide +kernel
set_option maxHeartbeats 4000000 in
theorem jo_str {pc idx n d d' k : Nat} {tg : List (Int × Nat)} {kd : Nat → List jw_K} (hstr : jw_strok l Tg) (hx : p.tables.exec = Jvm.exec) (hb : c.code = cc) (hml : c.maxLocals = nL) (hown : s.vm.findClass own = some m.cls) (hts : ∀ w ∈ Ts, w.before args s = true) (hTs : ∀ w ∈ Tg, w ∈ Ts) (hgood : ∀ w ∈ Tg, goodWord w = true)
    (hw : ∀ w ∈ jw_wcT own idx k, w ∈ Tg) (hRf : d + 1 ≤ R.frames) (hRl : 200 * d + 200 ≤ R.locals) (hdg : decode cc pc = .ok (.invokevirtual idx, 3)) (hlz : ls.size = nL)
    (hS : va_S A s.heap H locs) (hX : jw_X α A s s.heap) (hys : ys.length ≤ 100000) {r : List Value} (hst : st = st.take n ++ .ref jw_str :: r) (hn : n < st.length) (hcat : jw_cat r ≤ 8) (hk : k = 100000 ∨ k = 100001) {Q : jw_Q} (hC : jw_C kd ys d k (.ref jw_str :: (st.take n).reverse) h Q) (hcs : cells + 0 ≤ R.cells ∧ slots + 0 ≤ R.slots)
    (hK : ∀ (v : Int32) (locs' : List Loc), Q (some (.int v)) h → va_S A s.heap H locs' → W p l e R s m args below meth c H locs' cells slots Qf (F0 m (pc + 3) ls (.int v :: r.map (jw_ad α)))) :
    W p l e R s m args below meth c H locs cells slots Qf (F0 m pc ls (st.map (jw_ad α))) := by
  have hkeep : ∀ (U : State), U.heap = H → ∀ a : Nat, a < s.heap.size → ¬ A a → U.heap[a]? = s.heap[a]? := fun U hU a h1 h2 => by rw [hU]; exact hS.2.1 a h1 h2
  have hpre : ∀ (av : List Value) (a : Array Value), a = av.toArray → ∀ U : State, U.heap = H → s.WarmedH U.vm → va_Pc av (fun U => U.heap.size = H.size ∧ jw_X α A U U.heap) a U := fun av a ha U hU hW =>
    ⟨ha, by rw [hU], jw_X_go hX (vk_R.warm hW hX.1.1) hW.alike (hkeep U hU) (fun _ h => h)⟩
  have hbl : ∀ av : List Value, FrameBlind (va_Pc av (fun U => U.heap.size = H.size ∧ jw_X α A U U.heap)) := fun av a U g mk q => ⟨q.1, q.2.1, jw_X_same (u := U) (U := U.calling g mk a) q.2.2 rfl⟩
  have hrecv : ∃ cell : Cell, H[α jw_str]? = some cell ∧ cell.vm.isStatics = false ∧ s.vm.findClass "java/lang/String" = some cell.cls := by
    obtain ⟨cell, h1, h2, h3, -⟩ := hX.1.2.1.kept hS.2.1
    exact ⟨cell, h1, h2, h3⟩
  have hstk : (F0 m pc ls (st.map (jw_ad α))).stack = ((st.take n).reverse.map (jw_ad α)).reverse ++ .ref (α jw_str) :: r.map (jw_ad α) := by
    show st.map (jw_ad α) = _
    rw [← List.map_reverse, List.reverse_reverse]
    conv => lhs; rw [hst]
    rw [List.map_append]
    rfl
  cases d with
  | zero => exact hC.elim
  | succ d =>
    rw [jw_C] at hC
    rw [List.getElem?_eq_none (by rcases hk with rfl | rfl <;> omega)] at hC
    dsimp only at hC
    have hwT := fun w hz => hw w hz
    rcases hC with ⟨rfl, h4, has, hq⟩ | ⟨rfl, h4, i, has, hin, hq⟩
    · have hnil : (st.take n).reverse = [] := by simpa using has
      rw [hnil] at hstk
      have hM := (hstr α A H.size (d + 1) (by omega)).1
      have hT : GoodIn Ts (wsV own idx "java/lang/String" jw_yLen (jw_cLen :: Tg)) := jw_goodIn hTs hgood (fun w hw1 => by
        rcases List.mem_append.mp hw1 with q | q
        · exact hw w (by simp only [jw_wcT, List.mem_cons, List.not_mem_nil, or_false] at q ⊢; rcases q with q | q | q | q <;> simp [q])
        · rcases List.mem_cons.mp q with q | q
          · exact hw w (by rw [q]; simp [jw_wcT])
          · exact q)
      exact jo_callh (va_runV ⟨hx, hb, hml, hown, hts⟩ hM (cwV 0 hts hT rfl rfl rfl ⟨rfl, by decide, by decide, jw_par_ok jw_len_par⟩ ⟨by show d + 1 + 1 ≤ _; omega, by show 8 + (1 + 11) + 200 * (d + 1) ≤ R.locals; omega⟩) ⟨hbl _, hrecv, hpre _ _ rfl⟩ rfl rfl hlz hstk (lv_room (by rw [jw_cat_map]; exact hcat)) hdg hcs) hS (fun locs1 hS1 => hK _ _ hq hS1)
    · have hone : (st.take n).reverse = [.int i] := by simpa using has
      rw [hone] at hstk
      have hM := (hstr α A H.size (d + 1) (by omega)).2 i hin
      have hT : GoodIn Ts (wsV own idx "java/lang/String" jw_yChr (jw_cChr :: Tg)) := jw_goodIn hTs hgood (fun w hw1 => by
        rcases List.mem_append.mp hw1 with q | q
        · exact hw w (by simp only [jw_wcT, List.mem_cons, List.not_mem_nil, or_false] at q ⊢; rcases q with q | q | q | q <;> simp [q])
        · rcases List.mem_cons.mp q with q | q
          · exact hw w (by rw [q]; simp [jw_wcT])
          · exact q)
      exact jo_callh (va_runV ⟨hx, hb, hml, hown, hts⟩ hM (cwV 1 hts hT rfl rfl rfl ⟨rfl, by decide, by decide, jw_par_ok jw_chr_par⟩ ⟨by show d + 1 + 1 ≤ _; omega, by show 8 + (2 + 11) + 200 * (d + 1) ≤ R.locals; omega⟩) ⟨hbl _, hrecv, hpre _ _ rfl⟩ rfl rfl hlz hstk (lv_room (by rw [jw_cat_map]; exact hcat)) hdg hcs) hS (fun locs1 hS1 => hK _ _ hq hS1)
end JWV
end
section
/-! ===== static and special calls ===== -/
def jw_wcS (own : String) (ys : List jw_Y) (idx k : Nat) (z : Int × Nat) : List Cond := match ys[z.2]? with
  | some y => [.static y.1, .initialized y.1.cls, jw_code y] ++ (bif k == 2 then [.methodLink own idx y.1] else [])
  | none => []
def jw_ncS (own : String) (ys : List jw_Y) (idx k : Nat) (z : Int × Nat) : List Cond := match ys[z.2]? with
  | some y => (bif k == 2 then [] else [.methodLinkNest own idx y.1 "ShadowSchool"])
  | none => []
def jw_fcS (ys : List jw_Y) (n : Nat) (z : Int × Nat) : Bool := match ys[z.2]? with
  | some y => Nat.ble y.2.2.1 100 && (jw_par y.1.desc n && jw_nh y.1.cls)
  | none => false
/-- words of invokespecial: kind 5: a constructor of a nest mate; kind 4: a superclass's method, named by X -/
def jw_wcP (own : String) (cl : List vw_C) (ys : List jw_Y) (idx k : Nat) (z : Int × Nat) : List Cond := match ys[z.2]? with
  | some y => [.instanceMethod y.1, .initialized y.1.cls, jw_code y] ++ (bif k == 5 then [] else (match cl[k / 16]? with
    | some (X, _, _) => [.methodLink own idx ⟨X, y.1.name, y.1.desc⟩, .sameMethod X y.1.cls y.1.name y.1.desc, .superclass own X] ++ (bif X == y.1.cls then [] else [.superclass X y.1.cls])
    | none => []))
  | none => []
def jw_ncP (own : String) (ys : List jw_Y) (idx k : Nat) (z : Int × Nat) : List Cond := match ys[z.2]? with
  | some y => (bif k == 5 then [.methodLinkNest own idx y.1 "ShadowSchool"] else [])
  | none => []
def jw_fcP (cl : List vw_C) (ys : List jw_Y) (k n : Nat) (z : Int × Nat) : Bool := match cl[z.1.toNat]?, ys[z.2]? with
  | some _, some y => Nat.ble y.2.2.1 100 && (jw_par y.1.desc n && (jw_nh y.1.cls && (bif k == 5 then y.1.name == "<init>" && y.2.2.2.1 == none else y.1.name != "<init>" && (match cl[k / 16]? with | some _ => true | none => false))))
  | _, _ => false
section JWT
variable {p : Program} {l : Launch} {e : Env} {R : Room} {s : State} {m : MethodId} {args : Array Value} {below : List Frame} {meth : Method} {c : Code} {H : Heap} {locs : List Loc} {cells slots : Nat} {Qf : State → Prop}
variable {cc : ByteArray} {ls : Array Slot} {α : Nat → Nat} {nL : Nat} {D : va_G} {cl : List vw_C} {A : Nat → Prop} {cy : Nat → ClassId} {own nm : String} {Ts Tg Ns : List Cond} {h : jw_H} {ys : List jw_Y} {C : Nat → List Value → jw_H → jw_Q → Prop} {lim : Nat × Nat} {st : List Value} {f : List Value → jw_H → Prop}
/-- super.m(..), the method found in the superclass named or just above it -/
theorem jo_callSU {T : State} {locs : List Loc} {cells slots : Nat} (X : Stand p l e R s m args below meth c T locs cells slots) (hexec : p.tables.exec = Jvm.exec) {own xc : String} {index : Nat} {y : MethodName} {bytes : ByteArray} {maxL : Nat} {ret : Option FieldType}
    (hown : s.vm.findClass own = some m.cls) (hlink : (Cond.methodLink own index ⟨xc, y.name, y.desc⟩).before args s = true) (hsame : (Cond.sameMethod xc y.cls y.name y.desc).before args s = true) (hsup : (Cond.superclass own xc).before args s = true) (hup : xc = y.cls ∨ (Cond.superclass xc y.cls).before args s = true)
    (hinst : (Cond.instanceMethod y).before args s = true) (hcode : (Cond.code y bytes maxL ret).before args s = true) (hno : y.name ≠ "<init>")
    {W : Nat} {Pre : Pt → Array Value → Prop} {Post : Pt → Array Value → Option Value → Pt → Prop} (hK : Back l R p e below s args y 3 W Pre Post)
    {b : Addr} {cellB : Cell} {kB : Class} (hcell : T.heap[b]? = some cellB) (hobj : cellB.vm.isStatics = false) (hkB : s.vm.classes[cellB.cls]? = some kB)
    {g : JFrame} (hg : g.method = m) (hsize : g.locals.size = c.maxLocals) {argsL rest : List Value} (hlen : ∀ sig, parseMethodDescriptor y.desc = some sig → argsL.length = sig.parameters.length)
    (hstack : g.stack = argsL.reverse ++ .ref b :: rest) (hW : 2 * g.monitorRoom + (rest.map fun v => v.category).sum ≤ W) (hdg : decode c.code g.pc = .ok (.invokespecial index, 3))
    (hpre : ∀ vm₁, s.WarmedH vm₁ → Pre ⟨T.setVm vm₁, locs, cells, slots⟩ (Value.ref b :: argsL).toArray) :
    ∃ (v : Option Value) (vm₁ : Vm) (B : Pt), s.WarmedH vm₁ ∧ Stand p l e R s m args below meth c B.U B.locs B.cells B.slots ∧ Post ⟨T.setVm vm₁, locs, cells, slots⟩ (Value.ref b :: argsL).toArray v B ∧
      ∀ target, Steps p.tables e below (B.U.setTop { g with pc := g.pc + 3, stack := v.toList ++ rest }) target → Steps p.tables e below (T.setTop g) target := by
  obtain ⟨mk, methM, hnamed, hmethM, hstM, habM⟩ := Cond.instanceMethod_spec hinst
  obtain ⟨methM', cM, hmethM', -, -, -, -, -, -, hsigM⟩ := Cond.code_spec hnamed hcode
  cases hmethM.symm.trans hmethM'
  obtain ⟨ps, dk, kp, hps, hdk, hkp, hsuper, -, -, hnid⟩ := Cond.superclass_spec hown hsup
  have hn : s.methodNamed? ⟨y.cls, y.name, y.desc⟩ = some mk := hnamed
  have hmc : s.vm.findClass y.cls = some mk.cls := findClass_of_methodNamed hnamed
  have hsub : s.vm.isSubclass ps mk.cls = true := by
    rcases hup with hup | hup
    · rw [hup] at hps
      have hpm : ps = mk.cls := Option.some.inj (hps.symm.trans hmc)
      rw [hpm]; simp [Vm.isSubclass, Vm.isSubclassAux]
    · obtain ⟨ps2, dk2, kp2, hps2, hdk2, hkp2, hsuper2, -, -, -⟩ := Cond.superclass_spec hps hup
      have hpm : ps2 = mk.cls := Option.some.inj (hps2.symm.trans hmc)
      rw [← hpm]
      have hsz : ps < s.vm.classes.size := (Array.getElem?_eq_some_iff.mp hdk2).1
      unfold Vm.isSubclass
      cases hn9 : s.vm.classes.size with
      | zero => rw [hn9] at hsz; exact absurd hsz (Nat.not_lt_zero _)
      | succ n => simp [Vm.isSubclassAux, hdk2, hsuper2]
  obtain ⟨vm₁, X₁, hstep₁⟩ := X.invokespecialUp hexec (x := ⟨xc, y.name, y.desc⟩) (owner := y.cls) hown hlink hsame hn hmethM hstM habM hno hdk hnid hps hsuper hsub (a := b) (cell := cellB) hcell
    (fun z h => by rw [h] at hobj; cases hobj) hkB (g := g) hg (argsL := argsL) (rest := rest) (hlen _ hsigM) hstack hdg
  obtain ⟨v, B, X', hpost, hsteps⟩ := hK m meth c ⟨T.setVm vm₁, locs, cells, slots⟩ { g with stack := rest } (.invokespecial index) mk (Value.ref b :: argsL).toArray X₁ hg hsize hdg hW (X₁.named hnamed) (hpre vm₁ X₁.warmed)
  exact ⟨v, vm₁, B, X₁.warmed, X', hpost, fun target h => hstep₁ _ (by rw [doInvoke_state]; exact hsteps.trans h)⟩
theorem jo_runSU {y : MethodName} {xc : String} {bytes cc : ByteArray} {maxL nL mc ms n index : Nat} {ret : Option FieldType} {ws ws' : List Cond} {rm : Room} {Pc : Array Value → State → Prop} {Qc : Array Value → State → Outcome → State → Prop} {free : Addr → Prop} {Ts : List Cond} {own C : String} {cC : ClassId} {b : Addr} {As rest : List Value} {g : JFrame}
    (hat : ClassAt s C cC) (S : CallFix p m c cc nL s args Ts own) (hM : Met l y ws rm Pc Qc mc ms free) (hG : GoodIn Ts ws) (hwc : ws = Cond.code y bytes maxL ret :: ws') (hrc : rm.cells = mc) (hrs : rm.slots = ms) (hR : rm.frames + 1 ≤ R.frames ∧ 8 + (maxL + 11) + rm.locals ≤ R.locals) (hini : (Cond.initialized y.cls).before args s = true)
    (hl1 : (Cond.methodLink own index ⟨xc, y.name, y.desc⟩).before args s = true) (hl2 : (Cond.sameMethod xc y.cls y.name y.desc).before args s = true) (hl3 : (Cond.superclass own xc).before args s = true) (hup : xc = y.cls ∨ (Cond.superclass xc y.cls).before args s = true) (hl4 : (Cond.instanceMethod y).before args s = true) (hno : y.name ≠ "<init>") (hpar : (parseMethodDescriptor y.desc).map (fun d => d.parameters.length) = some n)
    (hp : PreV s H C b Pc As)
    (hg : g.method = m) (hn : As.length = n) (hsize : g.locals.size = nL) (hstack : g.stack = As.reverse ++ .ref b :: rest) (hW : 2 * g.monitorRoom + (rest.map fun v => v.category).sum ≤ 8) (hdg : decode cc g.pc = .ok (.invokespecial index, 3)) (hf : cells + mc ≤ R.cells ∧ slots + ms ≤ R.slots) :
    va_Run p l e R s m args below meth c H locs cells slots mc ms g rest (Qc (Value.ref b :: As).toArray) (free) := by
  have hcw : Cond.code y bytes maxL ret ∈ ws := by rw [hwc]; exact List.mem_cons_self
  have hts := S.2.2.2.2
  have hcode : (Cond.code y bytes maxL ret).before args s = true := hts _ (hG _ hcw).1
  have hK : Back l R p e below s args y 3 8 (PreOf R mc ms Pc) (PostOf Qc mc ms free) := back_of (bytes := bytes) (maxL := maxL) (ret := ret) hM hp.1 hrc hrs hR.1 hR.2 (pay_in hts hG) hcw (fun a' U hW => word_at hW (Or.inl (by first | rfl | simp [Cond.onTables, Cond.keeps, Cond.steady])) hini)
  have hlen : ∀ sig, parseMethodDescriptor y.desc = some sig → n = sig.parameters.length := fun sig h => by
    rw [h] at hpar
    exact (Option.some.inj hpar).symm
  obtain ⟨hx, hb, hml, ho, -⟩ := S
  obtain ⟨-, ⟨cellB, hcB, hoB, hclB⟩, hPc⟩ := hp
  obtain ⟨hfc, kB, hkB, -⟩ := hat
  cases hfc.symm.trans hclB
  intro T hT X
  obtain ⟨v, vm₁, ⟨U', l2, c2, s2⟩, hW₁, X', ⟨g', mk, t, L, e1, e2, hq, h1, hL, h2, h3⟩, st⟩ := jo_callSU X hx (bytes := bytes) (maxL := maxL) (ret := ret) ho hl1 hl2 hl3 hup hl4 hcode hno hK (by rw [hT]; exact hcB) hoB hkB hg (hsize.trans hml.symm) (argsL := As) (rest := rest) (fun sig h => hn.trans (hlen sig h)) hstack hW (by rw [hb]; exact hdg)
    (fun vm₁ hW₁ => ⟨hf.1, hf.2, hPc (T.setVm vm₁) hT hW₁⟩)
  dsimp only [Pt.U, Pt.locs, Pt.cells, Pt.slots] at X' e1 e2 h1 h2 h3 st
  subst h1; subst h2; subst h3
  exact ⟨v, (T.setVm vm₁).calling g' mk (Value.ref b :: As).toArray, t, U', L, hT, X', hL, e1, e2, hq, st⟩
set_option maxHeartbeats 4000000 in
theorem jo_spec {pc idx kind n d : Nat} {tg : List (Int × Nat)} (hx : p.tables.exec = Jvm.exec) (hb : c.code = cc) (hml : c.maxLocals = nL) (hown : s.vm.findClass own = some m.cls) (hts : ∀ w ∈ Ts, w.before args s = true) (hTs : ∀ w ∈ Tg, w ∈ Ts) (hgood : ∀ w ∈ Tg, goodWord w = true) (hns : jw_nsok Ns)
    (hw : ∀ z ∈ tg, ∀ w ∈ jw_wcP own cl ys idx kind z, w ∈ Tg) (hwn : ∀ z ∈ tg, ∀ w ∈ jw_ncP own ys idx kind z, w ∈ Ns) (hwf : ∀ z ∈ tg, jw_fcP cl ys kind n z = true) (hRf : d + 1 ≤ R.frames) (hRl : 200 * d + 200 ≤ R.locals) (hdg : decode cc pc = .ok (.invokespecial idx, 3)) (hlz : ls.size = nL)
    (hK0 : va_K D cl (jw_tys cy) s) (hP : va_P D cl (jw_wld cy α h) H) (hD : va_D A (jw_wld cy α h)) (hS : va_S A s.heap H locs) (hA : ∀ q, s.heap.size ≤ q → A q) (hX : jw_X α A s s.heap) (hN : jw_nw Ns s)
    (IH : ∀ (mid : Nat) (as : List Value) (Q : jw_Q), C mid as h Q → ∀ y, ys[mid]? = some y → jw_met l D cl cy α Ns Tg d y as h Q)
    (hfut : ∀ mc, h.1.length + mc ≤ lim.1 → jw_fut α h.1.length H.size mc) (hlim : ∀ mc ms, h.1.length + mc ≤ lim.1 → jw_sz h.1 + ms ≤ lim.2 → cells + mc ≤ R.cells ∧ slots + ms ≤ R.slots) (hin : h.1.length ≤ lim.1 ∧ jw_sz h.1 ≤ lim.2)
    (hs : jw_call C (jw_bud ys) lim (kind, n, tg) st h f)
    (hK : ∀ (st' : List Value) (h' : jw_H) (H' : Heap) (locs' : List Loc) (k n : Nat), f st' h' → H'.size = H.size + k → h'.1.length = h.1.length + k → jw_sz h'.1 = jw_sz h.1 + n → h'.1.length ≤ lim.1 → jw_sz h'.1 ≤ lim.2 → va_P D cl (jw_wld cy α h') H' → va_D A (jw_wld cy α h') → va_S A s.heap H' locs' → W p l e R s m args below meth c H' locs' (cells + k) (slots + n) Qf (F0 m (pc + 3) ls (st'.map (jw_ad α)))) :
    W p l e R s m args below meth c H locs cells slots Qf (F0 m pc ls (st.map (jw_ad α))) := by
  obtain ⟨b, r, ci, ks, mid, e1, e2, hsh, htg, hcat, hbud, hC⟩ := jw_call_ok hs
  have hwf1 := hwf _ htg
  have hw1 := hw _ htg
  have hwn1 := hwn _ htg
  unfold jw_fcP at hwf1
  unfold jw_wcP at hw1
  unfold jw_ncP at hwn1
  dsimp only [Int.toNat_natCast] at hwf1 hw1 hwn1
  split at hwf1
  · rename_i q0 y hcl hy
    obtain ⟨C0, T0, N0⟩ := q0
    rw [hy] at hw1 hwn1
    dsimp only at hw1 hwn1
    have hb1 : jw_bud ys mid = y.2.2.2.2.1 := by unfold jw_bud; rw [hy]
    have hbd : h.1.length + y.2.2.2.2.1.1 ≤ lim.1 ∧ jw_sz h.1 + y.2.2.2.2.1.2 ≤ lim.2 := by
      rcases hbud with hz | hz
      · rw [hb1] at hz
        rw [hz]
        exact hin
      · rw [hb1] at hz
        exact hz
    have hM := IH _ _ _ hC y hy H.size (hfut _ hbd.1)
    have hroom := hlim _ _ hbd.1 hbd.2
    simp only [Bool.and_eq_true, Nat.ble_eq] at hwf1
    obtain ⟨w1, w2, w2', w3⟩ := hwf1
    have hrecv := va_recv hK0 hP hcl (jw_wld_some hsh)
    have hpre := jw_start (av := ((Value.ref b :: (st.take n).reverse).map (jw_ad α))) hns hK0 hP hD hS hA hX hN rfl
    have hstk : (F0 m pc ls (st.map (jw_ad α))).stack = ((st.take n).reverse.map (jw_ad α)).reverse ++ .ref (α b) :: r.map (jw_ad α) := by
      show st.map (jw_ad α) = _
      rw [← List.map_reverse, List.reverse_reverse]
      conv => lhs; rw [e1]
      rw [List.map_append]
      rfl
    have hlen : ((st.take n).reverse.map (jw_ad α)).length = n := by simp; omega
    have hrm : (jw_rm d y.2.2.2.2.1.1 y.2.2.2.2.1.2).frames + 1 ≤ R.frames ∧ 8 + (y.2.2.1 + 11) + (jw_rm d y.2.2.2.2.1.1 y.2.2.2.2.1.2).locals ≤ R.locals := ⟨hRf, by show 8 + (y.2.2.1 + 11) + 200 * d ≤ R.locals; omega⟩
    have hgo : ∀ (hr : va_Run p l e R s m args below meth c H locs cells slots y.2.2.2.2.1.1 y.2.2.2.2.1.2 (F0 m pc ls (st.map (jw_ad α))) (r.map (jw_ad α)) (jw_Qc D cl cy α h H.size y.2.2.2.2.1.1 y.2.2.2.2.1.2 (fun v h' => f (v.toList ++ r) h') (Value.ref (α b) :: (st.take n).reverse.map (jw_ad α)).toArray) (va_A (jw_wld cy α h) H.size)), W p l e R s m args below meth c H locs cells slots Qf (F0 m pc ls (st.map (jw_ad α))) := fun hr =>
      jo_end (d := d) hS hD hA hr (fun v h' H' locs' hq n1 n2 n3 hP1 hD1 hS1 => hK _ _ _ _ _ _ hq n1 n2 n3 (by rw [n2]; exact hbd.1) (by rw [n3]; exact hbd.2) hP1 hD1 hS1)
    have hcd : Cond.code y.1 y.2.1 y.2.2.1 y.2.2.2.1 ∈ Tg := hw1 _ (List.mem_append_left _ (by simp [jw_code]))
    have hini : (Cond.initialized y.1.cls).before args s = true := hts _ (hTs _ (hw1 _ (List.mem_append_left _ (by simp))))
    have hins : (Cond.instanceMethod y.1).before args s = true := hts _ (hTs _ (hw1 _ (List.mem_append_left _ (by simp))))
    have hG : GoodIn Ts (Cond.code y.1 y.2.1 y.2.2.1 y.2.2.2.1 :: Tg) := jw_goodIn hTs hgood (fun w hw => by
      rcases List.mem_cons.mp hw with q | q
      · rw [q]; exact hcd
      · exact q)
    cases hk0 : (kind == 5) with
    | true =>
      rw [hk0] at w3 hw1 hwn1
      dsimp only [cond_true] at w3 hw1 hwn1
      simp only [Bool.and_eq_true, beq_iff_eq] at w3
      have hr0 : y.2.2.2.1 = none := w3.2
      rw [hr0] at hM hG
      have hl : va_Nw (.methodLinkNest own idx y.1 "ShadowSchool") s := hN.1 _ (hwn1 _ (List.mem_singleton.mpr rfl))
      exact hgo (va_runIN ⟨hx, hb, hml, hown, hts⟩ hM ⟨va_cnB n hts hG rfl rfl rfl hl hini ⟨(jw_nh_ok w2').1, (jw_nh_ok w2').2, jw_par_ok w2⟩ hrm, w3.1, hins⟩ ⟨jw_blind hns, hpre⟩ rfl hlen hlz hstk (lv_room (by rw [jw_cat_map]; exact hcat)) hdg hroom)
    | false =>
      rw [hk0] at w3 hw1
      dsimp only [cond_false] at w3 hw1
      simp only [Bool.and_eq_true, bne_iff_ne, ne_eq] at w3
      split at w3
      · rename_i q1 hX0
        obtain ⟨X0, TX, NX⟩ := q1
        rw [hX0] at hw1
        dsimp only at hw1
        have h1 := fun w hz => hts w (hTs w (hw1 w (List.mem_append_right _ (List.mem_append_left _ hz))))
        have hup : X0 = y.1.cls ∨ (Cond.superclass X0 y.1.cls).before args s = true := by
          cases hq : (X0 == y.1.cls) with
          | true => exact Or.inl (by simpa using hq)
          | false => exact Or.inr (hts _ (hTs _ (hw1 _ (List.mem_append_right _ (List.mem_append_right _ (by rw [hq]; simp))))))
        exact hgo (jo_runSU (hK0.1 ci _ hcl).2 ⟨hx, hb, hml, hown, hts⟩ hM hG rfl rfl rfl hrm hini (h1 _ (by simp)) (h1 _ (by simp)) (h1 _ (by simp)) hup hins w3.1 (jw_par_ok w2) ⟨jw_blind hns, hrecv, hpre⟩ rfl hlen hlz hstk (lv_room (by rw [jw_cat_map]; exact hcat)) hdg hroom)
      · exact absurd w3.2 (by decide)
  · cases hwf1
theorem jw_callS_ok {kind n : Nat} {tg : List (Int × Nat)} {bud : Nat → Nat × Nat} (hs : jw_callS C bud lim (kind, n, tg) st h f) : ∃ (mid : Nat), n ≤ st.length ∧ ((0 : Int), mid) ∈ tg ∧ jw_cat (st.drop n) ≤ 8 ∧ (bud mid = (0, 0) ∨ (h.1.length + (bud mid).1 ≤ lim.1 ∧ jw_sz h.1 + (bud mid).2 ≤ lim.2)) ∧ C mid (st.take n).reverse h (fun v h' => f (v.toList ++ st.drop n) h') := by
  unfold jw_callS at hs
  dsimp only at hs
  split at hs
  · rename_i mid hm
    obtain ⟨h1, h2⟩ := jw_bif hs
    simp only [Bool.and_eq_true, Bool.or_eq_true, Nat.ble_eq, beq_iff_eq] at h1
    exact ⟨mid, h1.1, by have := jw_find_ok hm; simpa using this, h1.2.1, h1.2.2, h2⟩
  · exact hs.elim
set_option maxHeartbeats 4000000 in
theorem jo_stat {pc idx kind n d : Nat} {tg : List (Int × Nat)} (hx : p.tables.exec = Jvm.exec) (hb : c.code = cc) (hml : c.maxLocals = nL) (hown : s.vm.findClass own = some m.cls) (hts : ∀ w ∈ Ts, w.before args s = true) (hTs : ∀ w ∈ Tg, w ∈ Ts) (hgood : ∀ w ∈ Tg, goodWord w = true) (hns : jw_nsok Ns)
    (hw : ∀ z ∈ tg, ∀ w ∈ jw_wcS own ys idx kind z, w ∈ Tg) (hwn : ∀ z ∈ tg, ∀ w ∈ jw_ncS own ys idx kind z, w ∈ Ns) (hwf : ∀ z ∈ tg, jw_fcS ys n z = true) (hRf : d + 1 ≤ R.frames) (hRl : 200 * d + 200 ≤ R.locals) (hdg : decode cc pc = .ok (.invokestatic idx, 3)) (hlz : ls.size = nL)
    (hK0 : va_K D cl (jw_tys cy) s) (hP : va_P D cl (jw_wld cy α h) H) (hD : va_D A (jw_wld cy α h)) (hS : va_S A s.heap H locs) (hA : ∀ q, s.heap.size ≤ q → A q) (hX : jw_X α A s s.heap) (hN : jw_nw Ns s)
    (IH : ∀ (mid : Nat) (as : List Value) (Q : jw_Q), C mid as h Q → ∀ y, ys[mid]? = some y → jw_met l D cl cy α Ns Tg d y as h Q)
    (hfut : ∀ mc, h.1.length + mc ≤ lim.1 → jw_fut α h.1.length H.size mc) (hlim : ∀ mc ms, h.1.length + mc ≤ lim.1 → jw_sz h.1 + ms ≤ lim.2 → cells + mc ≤ R.cells ∧ slots + ms ≤ R.slots) (hin : h.1.length ≤ lim.1 ∧ jw_sz h.1 ≤ lim.2)
    (hs : jw_callS C (jw_bud ys) lim (kind, n, tg) st h f)
    (hK : ∀ (st' : List Value) (h' : jw_H) (H' : Heap) (locs' : List Loc) (k n : Nat), f st' h' → H'.size = H.size + k → h'.1.length = h.1.length + k → jw_sz h'.1 = jw_sz h.1 + n → h'.1.length ≤ lim.1 → jw_sz h'.1 ≤ lim.2 → va_P D cl (jw_wld cy α h') H' → va_D A (jw_wld cy α h') → va_S A s.heap H' locs' → W p l e R s m args below meth c H' locs' (cells + k) (slots + n) Qf (F0 m (pc + 3) ls (st'.map (jw_ad α)))) :
    W p l e R s m args below meth c H locs cells slots Qf (F0 m pc ls (st.map (jw_ad α))) := by
  obtain ⟨mid, e2, htg, hcat, hbud, hC⟩ := jw_callS_ok hs
  have hwf1 := hwf _ htg
  have hw1 := hw _ htg
  have hwn1 := hwn _ htg
  unfold jw_fcS at hwf1
  unfold jw_wcS at hw1
  unfold jw_ncS at hwn1
  dsimp only at hwf1 hw1 hwn1
  split at hwf1
  · rename_i y hy
    rw [hy] at hw1 hwn1
    dsimp only at hw1 hwn1
    have hb1 : jw_bud ys mid = y.2.2.2.2.1 := by unfold jw_bud; rw [hy]
    have hbd : h.1.length + y.2.2.2.2.1.1 ≤ lim.1 ∧ jw_sz h.1 + y.2.2.2.2.1.2 ≤ lim.2 := by
      rcases hbud with hz | hz
      · rw [hb1] at hz
        rw [hz]
        exact hin
      · rw [hb1] at hz
        exact hz
    have hM := IH _ _ _ hC y hy H.size (hfut _ hbd.1)
    have hroom := hlim _ _ hbd.1 hbd.2
    simp only [Bool.and_eq_true, Nat.ble_eq] at hwf1
    obtain ⟨w1, w2, w2'⟩ := hwf1
    have hpre := jw_start (av := ((st.take n).reverse.map (jw_ad α))) hns hK0 hP hD hS hA hX hN rfl
    have hstk : (F0 m pc ls (st.map (jw_ad α))).stack = ((st.take n).reverse.map (jw_ad α)).reverse ++ (st.drop n).map (jw_ad α) := by
      show st.map (jw_ad α) = _
      rw [← List.map_reverse, List.reverse_reverse, ← List.map_append, List.take_append_drop]
    have hlen : ((st.take n).reverse.map (jw_ad α)).length = n := by simp; omega
    have hrm : (jw_rm d y.2.2.2.2.1.1 y.2.2.2.2.1.2).frames + 1 ≤ R.frames ∧ 8 + (y.2.2.1 + 11) + (jw_rm d y.2.2.2.2.1.1 y.2.2.2.2.1.2).locals ≤ R.locals := ⟨hRf, by show 8 + (y.2.2.1 + 11) + 200 * d ≤ R.locals; omega⟩
    have hgo : ∀ (hr : va_Run p l e R s m args below meth c H locs cells slots y.2.2.2.2.1.1 y.2.2.2.2.1.2 (F0 m pc ls (st.map (jw_ad α))) ((st.drop n).map (jw_ad α)) (jw_Qc D cl cy α h H.size y.2.2.2.2.1.1 y.2.2.2.2.1.2 (fun v h' => f (v.toList ++ st.drop n) h') ((st.take n).reverse.map (jw_ad α)).toArray) (va_A (jw_wld cy α h) H.size)), W p l e R s m args below meth c H locs cells slots Qf (F0 m pc ls (st.map (jw_ad α))) := fun hr =>
      jo_end (d := d) hS hD hA hr (fun v h' H' locs' hq n1 n2 n3 hP1 hD1 hS1 => hK _ _ _ _ _ _ hq n1 n2 n3 (by rw [n2]; exact hbd.1) (by rw [n3]; exact hbd.2) hP1 hD1 hS1)
    have hcd : Cond.code y.1 y.2.1 y.2.2.1 y.2.2.2.1 ∈ Tg := hw1 _ (List.mem_append_left _ (by simp [jw_code]))
    have hini0 : Cond.initialized y.1.cls ∈ Tg := hw1 _ (List.mem_append_left _ (by simp))
    have hini : (Cond.initialized y.1.cls).before args s = true := hts _ (hTs _ hini0)
    have hsta0 : Cond.static y.1 ∈ Tg := hw1 _ (List.mem_append_left _ (by simp))
    have hsta : (Cond.static y.1).before args s = true := hts _ (hTs _ hsta0)
    cases hk0 : (kind == 2) with
    | true =>
      rw [hk0] at hw1
      dsimp only [cond_true] at hw1
      have hml0 : Cond.methodLink own idx y.1 ∈ Tg := hw1 _ (List.mem_append_right _ (List.mem_singleton.mpr rfl))
      have hT : GoodIn Ts (va_wsS own idx y.1 (Cond.code y.1 y.2.1 y.2.2.1 y.2.2.2.1 :: Tg)) := jw_goodIn hTs hgood (fun w hw => by
        rcases List.mem_append.mp hw with q | q
        · simp only [List.mem_cons, List.not_mem_nil, or_false] at q
          rcases q with q | q | q <;> rw [q] <;> assumption
        · rcases List.mem_cons.mp q with q | q
          · rw [q]; exact hcd
          · exact q)
      exact hgo (va_runS ⟨hx, hb, hml, hown, hts⟩ hM (va_cwS n hts hT rfl rfl rfl ⟨(jw_nh_ok w2').1, (jw_nh_ok w2').2, jw_par_ok w2⟩ hrm) ⟨jw_blind hns, hpre⟩ rfl hlen hlz hstk (lv_room (by rw [jw_cat_map]; exact hcat)) hdg hroom)
    | false =>
      rw [hk0] at hwn1
      dsimp only [cond_false] at hwn1
      have hG : GoodIn Ts (Cond.code y.1 y.2.1 y.2.2.1 y.2.2.2.1 :: Tg) := jw_goodIn hTs hgood (fun w hw => by
        rcases List.mem_cons.mp hw with q | q
        · rw [q]; exact hcd
        · exact q)
      have hl : va_Nw (.methodLinkNest own idx y.1 "ShadowSchool") s := hN.1 _ (hwn1 _ (List.mem_singleton.mpr rfl))
      exact hgo (va_runSN ⟨hx, hb, hml, hown, hts⟩ hM ⟨va_cnB n hts hG rfl rfl rfl hl hini ⟨(jw_nh_ok w2').1, (jw_nh_ok w2').2, jw_par_ok w2⟩ hrm, hsta, trivial⟩ ⟨jw_blind hns, hpre⟩ rfl hlen hlz hstk (lv_room (by rw [jw_cat_map]; exact hcat)) hdg hroom)
  · cases hwf1
end JWT
end
section
/-! ===== Object's constructor, System.arraycopy, returns ===== -/
def jw_wcO (own : String) (idx : Nat) : List Cond := [.methodLink own idx Lib.objectInit, .instanceMethod Lib.objectInit, .code Lib.objectInit ⟨#[0xb1]⟩ 1 none]
def jw_wcA (own : String) (idx : Nat) : List Cond := [.methodLink own idx arraycopyName, .native arraycopyName, .static arraycopyName, .initialized "java/lang/System"]
section JWM
variable {p : Program} {l : Launch} {e : Env} {R : Room} {s : State} {m : MethodId} {args : Array Value} {below : List Frame} {meth : Method} {c : Code} {H : Heap} {locs : List Loc} {cells slots : Nat} {Qf : State → Prop}
variable {cc : ByteArray} {ls : Array Slot} {α : Nat → Nat} {nL : Nat} {D : va_G} {cl : List vw_C} {A : Nat → Prop} {cy : Nat → ClassId} {own nm : String} {Ts Tg Ns : List Cond} {h : jw_H} {st : List Value} {f : List Value → jw_H → Prop}
/-- arraycopy of ints, with the heap's size -/
theorem jo_cpi {pc : Nat} {rest : List Value} {tys : List (ClassId × FieldType)} {ws : va_W} {H0 : Heap} {a : Nat} (hexec : p.tables.exec = Jvm.exec) (hb : c.code = cc) (hml : c.maxLocals = ls.size) {index : Nat} (hown : s.vm.findClass own = some m.cls) (hlink : (Cond.methodLink own index arraycopyName).before args s = true) (hnat : (Cond.native arraycopyName).before args s = true) (hstat : (Cond.static arraycopyName).before args s = true) (hini : (Cond.initialized "java/lang/System").before args s = true)
    (hK : va_K D cl tys s) (hP : va_P D cl ws H) (hD : va_D A ws) (hS : va_S A H0 H locs) {q0 q1 t0 t1 : Nat} {a0 : Nat} {c0 c1 : ClassId} {n0 n1 : Nat} {f g : Nat → Int32} (ha0 : ws[q0]? = some (a0, .inl (c0, n0, .inl f))) (ha1 : ws[q1]? = some (a, .inl (c1, n1, .inl g))) (ht0 : tys[t0]? = some (c0, .int)) (ht1 : tys[t1]? = some (c1, .int))
    {sp dp n : Int32} (h1 : ¬ sp < 0) (h2 : ¬ dp < 0) (h3 : ¬ n < 0) (h4 : sp.toNatClampNeg + n.toNatClampNeg ≤ n0) (h5 : dp.toNatClampNeg + n.toNatClampNeg ≤ n1)
    (hframes : 1 ≤ R.frames) (hlocals : (rest.map fun v => v.category).sum + (nativeFrameWords "java/lang/System" "arraycopy" 5 + 11) ≤ R.locals) (hdg : decode cc pc = .ok (.invokestatic index, 3))
    (kk : ∀ (H1 : Heap) (locs1 : List Loc), H1.size = H.size → va_P D cl (ws.set q1 (a, .inl (c1, n1, .inl (va_cpy f g sp.toNatClampNeg dp.toNatClampNeg n.toNatClampNeg)))) H1 → va_D A (ws.set q1 (a, .inl (c1, n1, .inl (va_cpy f g sp.toNatClampNeg dp.toNatClampNeg n.toNatClampNeg)))) → va_S A H0 H1 locs1 → W p l e R s m args below meth c H1 locs1 cells slots Qf (F0 m (pc + 3) ls rest)) : W p l e R s m args below meth c H locs cells slots Qf (F0 m pc ls (.int n :: .int dp :: .ref a :: .int sp :: .ref a0 :: rest)) := by
  have nn : ∀ x : Int32, ¬ x < 0 → x.toInt = (x.toNatClampNeg : Int) := fun x hx => by
    obtain ⟨j, hj, rfl⟩ := nI_of hx
    rw [nI_toInt hj, nI_clamp hj]
  intro T hT X
  have hc0 : H[a0]? = some (vp_cell c0 (n0, .inl f)) := hP q0 _ ha0
  have hc1 : H[a]? = some (vp_cell c1 (n1, .inl g)) := hP q1 _ ha1
  obtain ⟨-, k0, hk0, cm0, hkk0⟩ := (hK.2 t0 _ ht0).1 n0 (fun j => .int (f j))
  obtain ⟨-, k1, hk1, cm1, hkk1⟩ := (hK.2 t1 _ ht1).1 n1 (fun j => .int (g j))
  obtain ⟨vm', X', step⟩ := X.arraycopy hexec hown hlink hnat hstat hini (src := a0) (dst := a) (cs := vp_cell c0 (n0, .inl f)) (cd := vp_cell c1 (n1, .inl g)) (srcPos := sp) (destPos := dp) (n := n) (by rw [hT]; exact hc0) (by rw [hT]; exact hc1)
    (fun _ h => by cases h) (fun _ h => by cases h) (fun h => by cases h) (fun h => by cases h) hk0 hk1 hkk0 hkk1 (by simp [refKind]) h1 h2 h3
    (by rw [nn sp h1, nn n h3]; show ¬ _ > ((arrV c0 n0 (fun j => .int (f j))).slots.size : Int); rw [arrV_size]; omega)
    (by rw [nn dp h2, nn n h3]; show ¬ _ > ((arrV c1 n1 (fun j => .int (g j))).slots.size : Int); rw [arrV_size]; omega)
    (fun vm₁ _ i hi => by
      have e : (vp_cell c0 (n0, .inl f)).slots.getD (sp.toNatClampNeg + i) .null = .int (f (sp.toNatClampNeg + i)) := by
        show (arrV c0 n0 (fun j => .int (f j))).slots.getD _ _ = _
        rw [Array.getD_eq_getD_getElem?, arrV_read _ _ (by omega)]
        rfl
      refine ⟨?_, ?_⟩
      · rw [e]
        rfl
      · rw [e]
        exact trivial)
    (g := F0 m pc ls (.int n :: .int dp :: .ref a :: .int sp :: .ref a0 :: rest)) rfl (by rw [hml]) (rest := rest) rfl (by rw [hb]; exact hdg) hframes (by show 2 * 0 + _ + _ ≤ _; omega)
  have e1 : copied (vp_cell c0 (n0, .inl f)) (vp_cell c1 (n1, .inl g)) sp dp n = vp_cell c1 (n1, .inl (va_cpy f g sp.toNatClampNeg dp.toNatClampNeg n.toNatClampNeg)) := va_copied (fun z => .int z) c0 c1 f g h4
  rw [e1] at X' step
  have hl : a < H.size := (Array.getElem?_eq_some_iff.mp hc1).1
  have hheap : ((T.setVm vm').setCell a (vp_cell c1 (n1, .inl (va_cpy f g sp.toNatClampNeg dp.toNatClampNeg n.toNatClampNeg)))).heap = H.setIfInBounds a (vp_cell c1 (n1, .inl (va_cpy f g sp.toNatClampNeg dp.toNatClampNeg n.toNatClampNeg))) := by rw [← hT]; rfl
  have oq : ∀ q : Nat, q ≠ a → (H.setIfInBounds a (vp_cell c1 (n1, .inl (va_cpy f g sp.toNatClampNeg dp.toNatClampNeg n.toNatClampNeg))))[q]? = H[q]? := fun q hq => by simp [Array.getElem?_setIfInBounds, Ne.symm hq]
  obtain ⟨t, a1, b1⟩ := kk _ _ (by simp) (hP.set hD ha1 (show (H.setIfInBounds a _)[a]? = some _ by simp [Array.getElem?_setIfInBounds, hl]) oq) (hD.set ha1) ⟨by simp; exact hS.1, fun q g1 g2 => by
      rw [oq q (fun e => g2 (by rw [e]; exact hD.2 q1 _ ha1))]
      exact hS.2.1 q g1 g2, fun q hq => by
      rcases List.mem_append.mp hq with h | h
      · exact hS.2.2 q h
      · obtain ⟨z, -, hz⟩ := List.mem_map.mp h
        rw [← hz]
        exact hD.2 q1 _ ha1⟩ _ hheap X'
  exact ⟨t, step t a1, b1⟩
set_option maxHeartbeats 1000000 in
theorem jo_copy {pc idx : Nat} (hx : p.tables.exec = Jvm.exec) (hb : c.code = cc) (hml : c.maxLocals = nL) (hlz : ls.size = nL) (hown : s.vm.findClass own = some m.cls) (hts : ∀ w ∈ Ts, w.before args s = true) (hw : ∀ w ∈ jw_wcA own idx, w ∈ Ts) (hRf : 1 ≤ R.frames) (hRl : 200 ≤ R.locals) (hdg : decode cc pc = .ok (.invokestatic idx, 3))
    (hK0 : va_K D cl (jw_tys cy) s) (hP : va_P D cl (jw_wld cy α h) H) (hD : va_D A (jw_wld cy α h)) (hS : va_S A s.heap H locs) (hs : jw_copy h st f)
    (hK : ∀ (st' : List Value) (h' : jw_H) (H' : Heap) (locs' : List Loc), f st' h' → H'.size = H.size → h'.1.length = h.1.length → jw_sz h'.1 = jw_sz h.1 → va_P D cl (jw_wld cy α h') H' → va_D A (jw_wld cy α h') → va_S A s.heap H' locs' → W p l e R s m args below meth c H' locs' cells slots Qf (F0 m (pc + 3) ls (st'.map (jw_ad α)))) :
    W p l e R s m args below meth c H locs cells slots Qf (F0 m pc ls (st.map (jw_ad α))) := by
  unfold jw_copy at hs
  split at hs
  · rename_i n dp a sp a0 r
    split at hs
    · rename_i n1 rs1 n0 rs0 ha ha0
      obtain ⟨⟨h1, h2, h3, h4, h5⟩, hs⟩ := hs
      obtain ⟨hc, hs⟩ := jw_bif hs
      have hc : jw_cat r ≤ 8 := by simpa using hc
      refine jo_cpi hx hb (hml.trans hlz.symm) hown (hts _ (hw _ (by simp [jw_wcA]))) (hts _ (hw _ (by simp [jw_wcA]))) (hts _ (hw _ (by simp [jw_wcA]))) (hts _ (hw _ (by simp [jw_wcA]))) hK0 hP hD hS (t0 := 0) (t1 := 0) (jw_wld_some ha0) (jw_wld_some ha) rfl rfl h1 h2 h3 h4 h5 hRf (by rw [jw_cat_map]; show jw_cat r + (5 + 2 + 11) ≤ R.locals; omega) hdg (fun H1 locs1 z hP1 hD1 hS1 => ?_)
      have e2 : jw_wld cy α (h.1, jw_lay h.2.1 a (va_cpy (h.2.1 a0) (h.2.1 a) sp.toNatClampNeg dp.toNatClampNeg n.toNatClampNeg), h.2.2) = (jw_wld cy α h).set a (α a, .inl (cy 0, n1, .inl (va_cpy (h.2.1 a0) (h.2.1 a) sp.toNatClampNeg dp.toNatClampNeg n.toNatClampNeg))) := by
        rw [jw_wld_keep (h := h) (h' := (h.1, jw_lay h.2.1 a (va_cpy (h.2.1 a0) (h.2.1 a) sp.toNatClampNeg dp.toNatClampNeg n.toNatClampNeg), h.2.2)) ha rfl (fun j hj => jw_lay_ne hj) (fun _ _ => rfl)]
        congr 3
        show Sum.inl (cy 0, n1, Sum.inl (jw_lay _ _ _ _)) = _
        rw [jw_lay_eq]
      rw [← e2] at hP1 hD1
      exact hK _ _ _ _ hs z rfl rfl hP1 hD1 hS1
    · exact hs.elim
  · exact hs.elim
end JWM
end
section
/-! ===== new cells ===== -/
theorem jw_wld_app {cy : Nat → ClassId} {α : Nat → Nat} {h h' : jw_H} {X : List jw_S} (hs : h'.1 = h.1 ++ X) (h1 : ∀ i, i < h.1.length → h'.2.1 i = h.2.1 i) (h2 : ∀ i, i < h.1.length → h'.2.2 i = h.2.2 i) : jw_wld cy α h' = jw_wld cy α h ++ X.mapIdx (fun i sh => (α (h.1.length + i), jw_cell cy α h'.2 (h.1.length + i) sh)) := by
  apply List.ext_getElem?
  intro i
  rw [jw_wld_get, hs]
  by_cases hi : i < h.1.length
  · rw [List.getElem?_append_left hi, List.getElem?_append_left (by rw [jw_wld_length]; exact hi), jw_wld_get, List.getElem?_eq_getElem hi]
    simp [jw_cell_same (h1 i hi) (h2 i hi)]
  · rw [List.getElem?_append_right (by omega), List.getElem?_append_right (by rw [jw_wld_length]; omega), jw_wld_length, List.getElem?_mapIdx]
    have : h.1.length + (i - h.1.length) = i := by omega
    rw [this]
theorem jw_sz_app : ∀ (a b : List jw_S), jw_sz (a ++ b) = jw_sz a + jw_sz b
  | [], b => by simp [jw_sz]
  | x :: a, b => by simp [jw_sz, jw_sz_app a b]; omega
/-- the kinds of a class's fields are its fields' types -/
def jw_kdok (kd : Nat → List jw_K) (cl : List vw_C) (ci : Nat) : Bool := match cl[ci]? with
  | some (_, T, N) => (kd ci).length == N && (List.range N).all (fun k => match parseFieldDescriptor (T k).2.2.1, (kd ci)[k]? with
    | some .int, some (.inl 0) => true
    | some .long, some (.inl 1) => true
    | some .boolean, some (.inl 2) => true
    | some (.object _), some (.inr none) => true
    | some (.array _), some (.inr none) => true
    | _, _ => false)
  | none => false
def jw_wcN (own : String) (cl : List vw_C) (q : jw_I) : List Cond := match q.2.1 with
  | .new idx => (match cl[q.2.2.2.1]? with
    | some (C, _, N) => [.classLink own idx C, .instantiable C N, .initialized C]
    | none => [])
  | .newarray a => [.arrayClass (newarray.typeOf a)]
  | .anewarray idx => [.classLink own idx (bif q.2.2.2.1 == 2 then "ShadowSchool$Progress" else "ShadowSchool$Shade")]
  | .multianewarray idx _ => [.classLink own idx "[[I", .arrayClass .int]
  | _ => []
def jw_fcN (kd : Nat → List jw_K) (cl : List vw_C) (q : jw_I) : Bool := match q.2.1 with
  | .new _ => jw_kdok kd cl q.2.2.2.1
  | .newarray a => (match newarray.typeOf a with
    | .int => q.2.2.2.1 == 0
    | .long => q.2.2.2.1 == 1
    | _ => false)
  | .anewarray _ => q.2.2.2.1 == 2 || q.2.2.2.1 == 3
  | .multianewarray _ n => n == 2
  | _ => true
section JWN
variable {p : Program} {l : Launch} {e : Env} {R : Room} {s : State} {m : MethodId} {args : Array Value} {below : List Frame} {meth : Method} {c : Code} {H : Heap} {locs : List Loc} {cells slots : Nat} {Qf : State → Prop}
variable {cc : ByteArray} {ls : Array Slot} {α : Nat → Nat} {nL : Nat} {D : va_G} {cl : List vw_C} {A : Nat → Prop} {cy : Nat → ClassId} {own nm : String} {Ts Tg Ns : List Cond} {h : jw_H} {st : List Value} {kd : Nat → List jw_K} {lim : Nat × Nat}
theorem jw_kd_ok {ci : Nat} {C : String} {T : u_T} {N : Nat} (hcl : cl[ci]? = some (C, T, N)) (hk : jw_kdok kd cl ci = true) {ty0 : Nat → FieldType} (hty : ∀ k, k < N → parseFieldDescriptor (T k).2.2.1 = some (ty0 k)) (M : jw_M) (i : Nat) (h1 : M.1 i = fun _ => 0) (h2 : M.2 i = fun _ => 0) : (kd ci).length = N ∧ ∀ j, j < N → defaultValue (ty0 j) = vp_V ((kd ci).mapIdx (jw_fld α M i)) j := by
  unfold jw_kdok at hk
  rw [hcl] at hk
  dsimp only at hk
  simp only [Bool.and_eq_true, beq_iff_eq] at hk
  obtain ⟨k1, k2⟩ := hk
  refine ⟨k1, fun j hj => ?_⟩
  have k3 := List.all_eq_true.mp k2 j (List.mem_range.mpr hj)
  rw [hty j hj] at k3
  have hg : (kd ci)[j]? = some (kd ci)[j] := List.getElem?_eq_getElem (by omega)
  rw [hg] at k3
  have e : vp_V ((kd ci).mapIdx (jw_fld α M i)) j = jw_fld α M i j (kd ci)[j] := by
    unfold vp_V
    rw [List.getD_eq_getElem?_getD, List.getElem?_mapIdx, hg]
    rfl
  rw [e]
  generalize (kd ci)[j] = kk at k3
  generalize ty0 j = tt at k3
  split at k3
  · rename_i a b
    cases a; cases b
    simp [jw_fld, h1, defaultValue]
  · rename_i a b
    cases a; cases b
    simp [jw_fld, h2, defaultValue]
  · rename_i a b
    cases a; cases b
    simp [jw_fld, h1, defaultValue]
  · rename_i a b
    cases a; cases b
    simp [jw_fld, va_rf, defaultValue]
  · rename_i a b
    cases a; cases b
    simp [jw_fld, va_rf, defaultValue]
  · cases k3
set_option maxHeartbeats 1000000 in
theorem jo_new {pc idx ci : Nat} {f : Nat → jw_H → Prop} (hx : p.tables.exec = Jvm.exec) (hb : c.code = cc) (hown : s.vm.findClass own = some m.cls) (hts : ∀ w ∈ Ts, w.before args s = true) (hcl : jw_clok cl Ts) {C0 : String} {T0 : u_T} {N0 : Nat} (hc : cl[ci]? = some (C0, T0, N0)) (hw : ∀ w ∈ [Cond.classLink own idx C0, .instantiable C0 N0, .initialized C0], w ∈ Ts) (hkd : jw_kdok kd cl ci = true) (hdg : decode cc pc = .ok (.new idx, 3))
    (hK0 : va_K D cl (jw_tys cy) s) (hP : va_P D cl (jw_wld cy α h) H) (hD : va_D A (jw_wld cy α h)) (hS : va_S A s.heap H locs) (hA : ∀ q, s.heap.size ≤ q → A q)
    (hfut : ∀ mc, h.1.length + mc ≤ lim.1 → jw_fut α h.1.length H.size mc) (hlim : ∀ mc ms, h.1.length + mc ≤ lim.1 → jw_sz h.1 + ms ≤ lim.2 → cells + mc ≤ R.cells ∧ slots + ms ≤ R.slots)
    (hs : jw_new h lim ci (kd ci) f)
    (hK : ∀ (a : Nat) (h' : jw_H) (H' : Heap) (locs' : List Loc) (k n : Nat), f a h' → H'.size = H.size + k → h'.1.length = h.1.length + k → jw_sz h'.1 = jw_sz h.1 + n → h'.1.length ≤ lim.1 → jw_sz h'.1 ≤ lim.2 → va_P D cl (jw_wld cy α h') H' → va_D A (jw_wld cy α h') → va_S A s.heap H' locs' → W p l e R s m args below meth c H' locs' (cells + k) (slots + n) Qf (F0 m (pc + 3) ls ((.ref a :: st).map (jw_ad α)))) :
    W p l e R s m args below meth c H locs cells slots Qf (F0 m pc ls (st.map (jw_ad α))) := by
  obtain ⟨hl1, hs⟩ := jw_bif hs
  simp only [Bool.and_eq_true, Nat.ble_eq] at hl1
  obtain ⟨c1, ⟨ty0, c2⟩, c3⟩ := hcl _ _ _ _ hc
  obtain ⟨k1, k2⟩ := jw_kd_ok (α := α) hc hkd c2 (jw_lay h.2.1 h.1.length (fun _ => 0), jw_lay h.2.2 h.1.length (fun _ => 0)) h.1.length jw_lay_eq jw_lay_eq
  have hroom := hlim 1 N0 hl1.1 (by rw [k1] at hl1; exact hl1.2)
  have hadr : α h.1.length = H.size := by have := hfut 1 hl1.1 h.1.length (by omega) (by omega); omega
  have hKn := hK0.1 ci _ hc
  refine W.newcK hx hb hown (hts _ (hw _ (by simp))) (hts _ (hw _ (by simp))) (hts _ (hw _ (by simp))) rfl hdg hroom.1 hroom.2 hKn.2.1 rfl fun H1 kC hkC e1 z1 o1 => ?_
  have e2 : jw_wld cy α (h.1 ++ [.inl (ci, kd ci)], jw_lay h.2.1 h.1.length (fun _ => 0), jw_lay h.2.2 h.1.length (fun _ => 0)) = jw_wld cy α h ++ [(H.size, .inr (ci, (kd ci).mapIdx (jw_fld α (jw_lay h.2.1 h.1.length (fun _ => 0), jw_lay h.2.2 h.1.length (fun _ => 0)) h.1.length)))] := by
    rw [jw_wld_app (h := h) (X := [.inl (ci, kd ci)]) rfl (fun i hi => jw_lay_ne (by omega)) (fun i hi => jw_lay_ne (by omega))]
    simp [hadr, jw_cell]
  have hk : ∀ (k : Nat) (x : Nat × va_E), (jw_wld cy α h)[k]? = some x → H1[x.1]? = H[x.1]? := fun k x hx => o1 x.1 ((hP k x hx).lt)
  have := hK h.1.length _ H1 locs 1 N0 hs z1 (by simp) (by rw [jw_sz_app]; simp [jw_sz, jw_ssz, k1]) (by simp; exact hl1.1) (by rw [jw_sz_app]; simp [jw_sz, jw_ssz]; exact hl1.2) (by
      rw [e2]
      refine (hP.kept hk).app (fun k x hx => ?_)
      have hz : k < 1 := (List.getElem?_eq_some_iff.mp hx).1
      rw [show k = 0 by omega] at hx
      cases hx
      exact ⟨_, hc, (u_born ty0 hts c1 hKn hkC e1 c2).to k2⟩) (by
      rw [e2]
      exact hD.push hP rfl (hA _ hS.1)) ⟨Nat.le_trans hS.1 (by omega), fun x h1 h2 => (o1 x (Nat.lt_of_lt_of_le h1 hS.1)).trans (hS.2.1 x h1 h2), hS.2.2⟩
  rw [List.map_cons, jw_ad, hadr] at this
  exact this
/-- what all new cells need -/
theorem jo_newx {pc' : Nat} {e0 : va_E} {sh : jw_S} {f : Nat → jw_H → Prop} {H1 : Heap} {n : Nat} {r : List Value} {M1 : jw_M} (hsh : jw_ssz sh = n) (hM1 : ∀ i, i < h.1.length → M1.1 i = h.2.1 i) (hM2 : ∀ i, i < h.1.length → M1.2 i = h.2.2 i) (hadr : α h.1.length = H.size) (hc : jw_cell cy α M1 h.1.length sh = e0) (hat : va_at D cl (H.size, e0) H1) (z1 : H1.size = H.size + 1) (o1 : ∀ q, q < H.size → H1[q]? = H[q]?)
    (hP : va_P D cl (jw_wld cy α h) H) (hD : va_D A (jw_wld cy α h)) (hS : va_S A s.heap H locs) (hA : ∀ q, s.heap.size ≤ q → A q) (hl1 : h.1.length + 1 ≤ lim.1) (hl2 : jw_sz h.1 + n ≤ lim.2) (hs : f h.1.length (h.1 ++ [sh], M1))
    (hK : ∀ (a : Nat) (h' : jw_H) (H' : Heap) (locs' : List Loc) (k n : Nat), f a h' → H'.size = H.size + k → h'.1.length = h.1.length + k → jw_sz h'.1 = jw_sz h.1 + n → h'.1.length ≤ lim.1 → jw_sz h'.1 ≤ lim.2 → va_P D cl (jw_wld cy α h') H' → va_D A (jw_wld cy α h') → va_S A s.heap H' locs' → W p l e R s m args below meth c H' locs' (cells + k) (slots + n) Qf (F0 m pc' ls ((.ref a :: r).map (jw_ad α)))) :
    W p l e R s m args below meth c H1 locs (cells + 1) (slots + n) Qf (F0 m pc' ls (.ref H.size :: r.map (jw_ad α))) := by
  have e2 : jw_wld cy α (h.1 ++ [sh], M1) = jw_wld cy α h ++ [(H.size, e0)] := by
    rw [jw_wld_app (h := h) (X := [sh]) rfl hM1 hM2]
    simp [hadr, hc]
  have hk : ∀ (k : Nat) (x : Nat × va_E), (jw_wld cy α h)[k]? = some x → H1[x.1]? = H[x.1]? := fun k x hx => o1 x.1 ((hP k x hx).lt)
  have := hK h.1.length _ H1 locs 1 n hs z1 (by simp) (by rw [jw_sz_app]; simp [jw_sz, hsh]) (by simp; exact hl1) (by rw [jw_sz_app]; simp [jw_sz, hsh]; exact hl2) (by
      rw [e2]
      refine (hP.kept hk).app (fun k x hx => ?_)
      have hz : k < 1 := (List.getElem?_eq_some_iff.mp hx).1
      rw [show k = 0 by omega] at hx
      cases hx
      exact hat) (by
      rw [e2]
      exact hD.push hP rfl (hA _ hS.1)) ⟨Nat.le_trans hS.1 (by omega), fun x h1 h2 => (o1 x (Nat.lt_of_lt_of_le h1 hS.1)).trans (hS.2.1 x h1 h2), hS.2.2⟩
  rw [List.map_cons, jw_ad, hadr] at this
  exact this
set_option maxHeartbeats 1000000 in
theorem jo_newa {pc t : Nat} {a : ArrayType} {f : Nat → jw_H → Prop} {x : Int32} (hx : p.tables.exec = Jvm.exec) (hb : c.code = cc) (hts : ∀ w ∈ Ts, w.before args s = true) (hw : Cond.arrayClass (newarray.typeOf a) ∈ Ts) (ht : (newarray.typeOf a = .int ∧ t = 0) ∨ (newarray.typeOf a = .long ∧ t = 1)) (hdg : decode cc pc = .ok (.newarray a, 2))
    (hK0 : va_K D cl (jw_tys cy) s) (hP : va_P D cl (jw_wld cy α h) H) (hD : va_D A (jw_wld cy α h)) (hS : va_S A s.heap H locs) (hA : ∀ q, s.heap.size ≤ q → A q)
    (hfut : ∀ mc, h.1.length + mc ≤ lim.1 → jw_fut α h.1.length H.size mc) (hlim : ∀ mc ms, h.1.length + mc ≤ lim.1 → jw_sz h.1 + ms ≤ lim.2 → cells + mc ≤ R.cells ∧ slots + ms ≤ R.slots) (hx0 : ¬ x < 0)
    (hs : jw_newa h lim t x.toNatClampNeg f)
    (hK : ∀ (a : Nat) (h' : jw_H) (H' : Heap) (locs' : List Loc) (k n : Nat), f a h' → H'.size = H.size + k → h'.1.length = h.1.length + k → jw_sz h'.1 = jw_sz h.1 + n → h'.1.length ≤ lim.1 → jw_sz h'.1 ≤ lim.2 → va_P D cl (jw_wld cy α h') H' → va_D A (jw_wld cy α h') → va_S A s.heap H' locs' → W p l e R s m args below meth c H' locs' (cells + k) (slots + n) Qf (F0 m (pc + 2) ls ((.ref a :: st).map (jw_ad α)))) :
    W p l e R s m args below meth c H locs cells slots Qf (F0 m pc ls (.int x :: st.map (jw_ad α))) := by
  obtain ⟨hl1, hs⟩ := jw_bif hs
  simp only [Bool.and_eq_true, Nat.ble_eq] at hl1
  obtain ⟨l1, l2, l3⟩ := hl1
  have hroom := hlim 1 x.toNatClampNeg l1 l2
  have hadr : α h.1.length = H.size := by have := hfut 1 l1 h.1.length (by omega) (by omega); omega
  rcases ht with ⟨t1, rfl⟩ | ⟨t1, rfl⟩
  · refine va_newaK hx hb (hts _ hw) (g := F0 m pc ls (.int x :: st.map (jw_ad α))) rfl hdg rfl hx0 rfl (by rw [t1]; show x.toNatClampNeg * 4 ≤ _; omega) hroom.1 hroom.2 rfl fun H1 cA e1 z1 o1 hAr hNm => ?_
    have hcy : cA = cy 0 := by
      have h2 : s.vm.findClass ("[" ++ (FieldType.int).toString) = some (cy 0) := (hK0.2 0 _ rfl).2
      rw [t1] at hNm
      exact Option.some.inj (hNm.symm.trans h2)
    subst hcy
    refine jo_newx (sh := .inr (0, x.toNatClampNeg, [])) (M1 := (jw_lay h.2.1 h.1.length (fun _ => 0), jw_lay h.2.2 h.1.length (fun _ => 0))) rfl (fun i hi => jw_lay_ne (by omega)) (fun i hi => jw_lay_ne (by omega)) hadr rfl ?_ z1 o1 hP hD hS hA l1 l2 hs hK
    show H1[H.size]? = some (vp_cell _ _)
    rw [e1, t1, vp_cell_i]
    congr 2
    funext j
    show _ = Value.int (jw_lay _ _ _ _ _)
    rw [jw_lay_eq]
    rfl
  · refine va_newaK hx hb (hts _ hw) (g := F0 m pc ls (.int x :: st.map (jw_ad α))) rfl hdg rfl hx0 rfl (by rw [t1]; show x.toNatClampNeg * 8 ≤ _; omega) hroom.1 hroom.2 rfl fun H1 cA e1 z1 o1 hAr hNm => ?_
    have hcy : cA = cy 1 := by
      have h2 : s.vm.findClass ("[" ++ (FieldType.long).toString) = some (cy 1) := (hK0.2 1 _ rfl).2
      rw [t1] at hNm
      exact Option.some.inj (hNm.symm.trans h2)
    subst hcy
    refine jo_newx (sh := .inr (1, x.toNatClampNeg, [])) (M1 := (jw_lay h.2.1 h.1.length (fun _ => 0), jw_lay h.2.2 h.1.length (fun _ => 0))) rfl (fun i hi => jw_lay_ne (by omega)) (fun i hi => jw_lay_ne (by omega)) hadr rfl ?_ z1 o1 hP hD hS hA l1 l2 hs hK
    show H1[H.size]? = some (vp_cell _ _)
    rw [e1, t1, vp_cell_l]
    congr 2
    funext j
    show _ = Value.long (jw_lay _ _ _ _ _)
    rw [jw_lay_eq]
    rfl
set_option maxHeartbeats 1000000 in
theorem jo_anew {pc t idx : Nat} {C0 : String} {f : Nat → jw_H → Prop} {x : Int32} (hx : p.tables.exec = Jvm.exec) (hb : c.code = cc) (hown : s.vm.findClass own = some m.cls) (hts : ∀ w ∈ Ts, w.before args s = true) (hw : Cond.classLink own idx C0 ∈ Ts) (hao : va_AO C0 s) (ht : (jw_tys cy)[t + 2]? = some (cy (t + 2), .object C0)) (hdg : decode cc pc = .ok (.anewarray idx, 3))
    (hK0 : va_K D cl (jw_tys cy) s) (hP : va_P D cl (jw_wld cy α h) H) (hD : va_D A (jw_wld cy α h)) (hS : va_S A s.heap H locs) (hA : ∀ q, s.heap.size ≤ q → A q)
    (hfut : ∀ mc, h.1.length + mc ≤ lim.1 → jw_fut α h.1.length H.size mc) (hlim : ∀ mc ms, h.1.length + mc ≤ lim.1 → jw_sz h.1 + ms ≤ lim.2 → cells + mc ≤ R.cells ∧ slots + ms ≤ R.slots) (hx0 : ¬ x < 0)
    (hs : jw_newa h lim (t + 2) x.toNatClampNeg f)
    (hK : ∀ (a : Nat) (h' : jw_H) (H' : Heap) (locs' : List Loc) (k n : Nat), f a h' → H'.size = H.size + k → h'.1.length = h.1.length + k → jw_sz h'.1 = jw_sz h.1 + n → h'.1.length ≤ lim.1 → jw_sz h'.1 ≤ lim.2 → va_P D cl (jw_wld cy α h') H' → va_D A (jw_wld cy α h') → va_S A s.heap H' locs' → W p l e R s m args below meth c H' locs' (cells + k) (slots + n) Qf (F0 m (pc + 3) ls ((.ref a :: st).map (jw_ad α)))) :
    W p l e R s m args below meth c H locs cells slots Qf (F0 m pc ls (.int x :: st.map (jw_ad α))) := by
  obtain ⟨hl1, hs⟩ := jw_bif hs
  simp only [Bool.and_eq_true, Nat.ble_eq] at hl1
  obtain ⟨l1, l2, l3⟩ := hl1
  have hroom := hlim 1 x.toNatClampNeg l1 l2
  have hadr : α h.1.length = H.size := by have := hfut 1 l1 h.1.length (by omega) (by omega); omega
  refine W.anew hx hb hown (hts _ hw) (va_AO.use hao) (g := F0 m pc ls (.int x :: st.map (jw_ad α))) rfl hdg rfl hx0 (by omega) hroom.1 hroom.2 fun cA kA comp f1 f2 f3 f4 => ?_
  have hcy : cA = cy (t + 2) := by
    obtain ⟨_, _, -, -, -, g4⟩ := (hK0.2 (t + 2) _ ht).2
    exact Option.some.inj (f1.symm.trans g4)
  subst hcy
  generalize hH1 : H.push ({ cls := cy (t + 2), slots := Array.replicate x.toNatClampNeg .null, vm := .none } : Cell) = H1
  have z1 : H1.size = H.size + 1 := by rw [← hH1, Array.size_push]
  have e1 : H1[H.size]? = some (arrV (cy (t + 2)) x.toNatClampNeg (fun _ => .null)) := by rw [← hH1, Array.getElem?_push_size, ← arrV_new]
  have o1 : ∀ q : Nat, q < H.size → H1[q]? = H[q]? := fun q hq => by rw [← hH1, Array.getElem?_push, if_neg (Nat.ne_of_lt hq)]
  refine jo_newx (sh := .inr (t + 2, x.toNatClampNeg, List.replicate x.toNatClampNeg none)) (M1 := (jw_lay h.2.1 h.1.length (fun _ => 0), jw_lay h.2.2 h.1.length (fun _ => 0))) rfl (fun i hi => jw_lay_ne (by omega)) (fun i hi => jw_lay_ne (by omega)) hadr rfl ?_ z1 o1 hP hD hS hA l1 l2 hs hK
  show H1[H.size]? = some (vp_cell _ _)
  rw [e1, vp_cell_q]
  congr 2
  funext j
  have : (List.replicate x.toNatClampNeg (none : Option Nat)).getD j none = none := by
    rw [List.getD_eq_getElem?_getD, List.getElem?_replicate]
    split <;> rfl
  rw [this]
  rfl
end JWN
end
section
/-! ===== storing references into arrays; new int[n][k] ===== -/
theorem vr_outer (c : ClassId) (N h0 : Nat) : ∀ i : Nat, Jvm.Free.Multi.outerC c N h0 i = arrV c N (fun j => va_rf (if j < i then some (h0 + 1 + j) else none))
  | 0 => by
    show ({ cls := c, slots := Array.replicate N .null, vm := .none } : Cell) = _
    rw [arrV_new]
    refine congrArg (arrV c N) (funext fun j => ?_)
    simp [va_rf]
  | i + 1 => by
    show (Jvm.Free.Multi.outerC c N h0 i).setSlot i (.ref (h0 + 1 + i)) = _
    rw [vr_outer c N h0 i, arrV_store]
    refine congrArg (arrV c N) (funext fun j => ?_)
    by_cases e : j = i
    · subst e
      simp [updV, va_rf]
    · by_cases h : j < i
      · simp [updV, e, h, Nat.lt_succ_of_lt h]
      · simp [updV, e, h, show ¬ j < i + 1 by omega]
theorem jw_D_app {A : Nat → Prop} {w X : va_W} {z : Nat} (hD : va_D A w) (hlt : ∀ (k : Nat) (q : Nat × va_E), w[k]? = some q → q.1 < z) (hX : ∀ (i : Nat) (q : Nat × va_E), X[i]? = some q → q.1 = z + i) (hA : ∀ q, z ≤ q → A q) : va_D A (w ++ X) := by
  refine ⟨fun i j x y hi hj hxy => ?_, fun k x hx => ?_⟩
  · by_cases h1 : i < w.length <;> by_cases h2 : j < w.length
    · rw [List.getElem?_append_left h1] at hi
      rw [List.getElem?_append_left h2] at hj
      exact hD.1 i j x y hi hj hxy
    · rw [List.getElem?_append_left h1] at hi
      rw [List.getElem?_append_right (by omega)] at hj
      have := hlt _ _ hi
      have := hX _ _ hj
      omega
    · rw [List.getElem?_append_right (by omega)] at hi
      rw [List.getElem?_append_left h2] at hj
      have := hlt _ _ hj
      have := hX _ _ hi
      omega
    · rw [List.getElem?_append_right (by omega)] at hi hj
      have := hX _ _ hi
      have := hX _ _ hj
      omega
  · by_cases h1 : k < w.length
    · rw [List.getElem?_append_left h1] at hx
      exact hD.2 k x hx
    · rw [List.getElem?_append_right (by omega)] at hx
      have := hX _ _ hx
      exact hA _ (by omega)
theorem jw_sz_rep (N K : Nat) : jw_sz (List.replicate N (.inr (0, K, []))) = N * K := by
  induction N with
  | zero => simp [jw_sz]
  | succ N ih => rw [List.replicate_succ, jw_sz, ih, Nat.succ_mul]; rfl
section JWR
variable {p : Program} {l : Launch} {e : Env} {R : Room} {s : State} {m : MethodId} {args : Array Value} {below : List Frame} {meth : Method} {c : Code} {H : Heap} {locs : List Loc} {cells slots : Nat} {Qf : State → Prop}
variable {cc : ByteArray} {ls : Array Slot} {α : Nat → Nat} {nL : Nat} {D : va_G} {cl : List vw_C} {A : Nat → Prop} {cy : Nat → ClassId} {own nm : String} {Ts Tg Ns : List Cond} {h : jw_H} {st : List Value} {kd : Nat → List jw_K} {lim : Nat × Nat}
/-- which classes' objects go into an array of references -/
def jw_asg (cl : List vw_C) (Ns : List Cond) : Prop := (∀ r, cl[6]? = some r → r.1 = "ShadowSchool$Progress") ∧ ∀ cj r, (cj = 0 ∨ cj = 1 ∨ cj = 2 ∨ cj = 4 ∨ cj = 10 ∨ cj = 11) → cl[cj]? = some r → r.1 = "ShadowSchool$Shade" ∨ Cond.castable r.1 "ShadowSchool$Shade" ∈ Ns
theorem jo_ast1 {pc : Nat} {rest : List Value} {tys : List (ClassId × FieldType)} {ws : va_W} {H0 : Heap} {a : Nat} (hexec : p.tables.exec = Jvm.exec) (hb : c.code = cc) (hK : va_K D cl tys s) (hP : va_P D cl ws H) (hD : va_D A ws) (hS : va_S A H0 H locs) {q0 t0 : Nat} {E : String} {cA : ClassId} {n v : Nat} {f : Nat → Option Nat} (ha : ws[q0]? = some (a, .inl (cA, n, .inr (.inr (.inr (.inr f)))))) (ht : tys[t0]? = some (cA, .object E)) (hr : va_Any E s H v) {i : Int32} (hin : vp_in i n) (hdg : decode cc pc = .ok (.aastore, 1))
    (kk : ∀ (H1 : Heap) (locs1 : List Loc), H1.size = H.size → va_P D cl (ws.set q0 (a, .inl (cA, n, .inr (.inr (.inr (.inr (va_up f i.toNatClampNeg (some v)))))))) H1 → va_D A (ws.set q0 (a, .inl (cA, n, .inr (.inr (.inr (.inr (va_up f i.toNatClampNeg (some v)))))))) → va_S A H0 H1 locs1 → W p l e R s m args below meth c H1 locs1 cells slots Qf (F0 m (pc + 1) ls rest)) : W p l e R s m args below meth c H locs cells slots Qf (F0 m pc ls (.ref v :: .int i :: .ref a :: rest)) := by
  have hlt : i.toNatClampNeg < n := Nat.not_le.mp fun q => hin (Or.inr q)
  have h0 : ¬ i < 0 := fun q => hin (Or.inl q)
  obtain ⟨cellV, g1, g3, ⟨kC, hkC⟩, hasg⟩ := hr
  obtain ⟨kA, comp, k1, k2, k3, -⟩ := (hK.2 t0 _ ht).2
  obtain ⟨kE, hkE, -⟩ := Vm.findClass_spec k3
  refine W.aast hexec hb (hP q0 _ ha) (fun q h => by cases h) (fun h => by cases h) k1 k2 rfl hkE ⟨h0, by show _ < (arrV _ _ _).slots.size; rw [arrV_size]; exact hlt⟩ g1 (fun q h => by rw [h] at g3; cases g3) hkC (hasg _ k3) rfl rfl hdg fun H1 e z oq => ?_
  refine kk H1 _ z (hP.set hD ha ?_ oq) (hD.set ha) (hS.put z oq (hD.2 q0 _ ha))
  show H1[a]? = some (vp_cell _ _)
  rw [e]
  rw [vp_cell_q, vp_cell_q, arrV_store]
  congr 2
  funext q
  by_cases hq : q = i.toNatClampNeg
  · subst hq
    simp [updV, va_up, va_rf]
  · simp [updV, va_up, hq]
set_option maxHeartbeats 1000000 in
theorem jo_aast {pc : Nat} {f : List Value → jw_H → Prop} (hx : p.tables.exec = Jvm.exec) (hb : c.code = cc) (hasg : jw_asg cl Ns) (hcl : ∀ (i : Nat) (sh : Nat × List jw_K), h.1[i]? = some (.inl sh) → ∃ r, cl[sh.1]? = some r) (hdg : decode cc pc = .ok (.aastore, 1))
    (hK0 : va_K D cl (jw_tys cy) s) (hP : va_P D cl (jw_wld cy α h) H) (hD : va_D A (jw_wld cy α h)) (hS : va_S A s.heap H locs) (hN : jw_nw Ns s)
    (hs : jw_aast h st f)
    (hK : ∀ (st' : List Value) (h' : jw_H) (H' : Heap) (locs' : List Loc), f st' h' → H'.size = H.size → h'.1.length = h.1.length → jw_sz h'.1 = jw_sz h.1 → va_P D cl (jw_wld cy α h') H' → va_D A (jw_wld cy α h') → va_S A s.heap H' locs' → W p l e R s m args below meth c H' locs' cells slots Qf (F0 m (pc + 1) ls (st'.map (jw_ad α)))) :
    W p l e R s m args below meth c H locs cells slots Qf (F0 m pc ls (st.map (jw_ad α))) := by
  unfold jw_aast at hs
  split at hs
  · rename_i j i a r
    split at hs
    · rename_i t n rs cj ks ha hj
      obtain ⟨hin, hs⟩ := hs
      obtain ⟨hc, hs⟩ := jw_bif hs
      simp only [Bool.and_eq_true, Bool.or_eq_true, beq_iff_eq, Nat.blt_eq] at hc
      obtain ⟨hc, hlt⟩ := hc
      obtain ⟨rc, hrc⟩ := hcl j _ hj
      have hE : ∃ E, (jw_tys cy)[t + 2]? = some (cy (t + 2), .object E) ∧ va_Any E s H (α j) := by
        rcases hc with ⟨rfl, rfl⟩ | ⟨rfl, hc⟩
        · refine ⟨_, rfl, va_rAny hK0 hP (jw_wld_some hj) hrc (fun comp c0 f1 f2 => ?_)⟩
          rw [hasg.1 _ hrc] at f2
          cases f1.symm.trans f2
          exact va_assign (hK0.1 _ _ hrc).2 |> fun z => by
            have := (hK0.1 _ _ hrc).2.1
            rw [hasg.1 _ hrc] at this
            cases this.symm.trans f1
            exact z
        · refine ⟨_, rfl, va_rAny hK0 hP (jw_wld_some hj) hrc (fun comp c0 f1 f2 => ?_)⟩
          rcases hasg.2 cj rc (by rcases hc with ((((hc | hc) | hc) | hc) | hc) | hc <;> simp [hc]) hrc with h9 | h9
          · rw [h9] at f2
            cases f1.symm.trans f2
            exact va_assign (hK0.1 _ _ hrc).2 |> fun z => by
              have := (hK0.1 _ _ hrc).2.1
              rw [h9] at this
              cases this.symm.trans f1
              exact z
          · exact vb_asgC (hN.1 _ h9) comp c0 f1 f2
      obtain ⟨E, hE1, hE2⟩ := hE
      refine jo_ast1 hx hb hK0 hP hD hS (jw_wld_some ha) hE1 hE2 hin hdg (fun H1 locs1 z hP1 hD1 hS1 => ?_)
      have e2 : jw_wld cy α (h.1.set a (.inr (t + 2, n, rs.set i.toNatClampNeg (some j))), h.2) = (jw_wld cy α h).set a (α a, .inl (cy (t + 2), n, .inr (.inr (.inr (.inr (va_up (fun k => (rs.getD k none).map α) i.toNatClampNeg (some (α j)))))))) := by
        rw [jw_wld_set (h := h) (h' := (h.1.set a (.inr (t + 2, n, rs.set i.toNatClampNeg (some j))), h.2)) ha rfl (fun _ _ => rfl) (fun _ _ => rfl)]
        congr 3
        refine congrArg (fun g => (Sum.inl (cy (t + 2), n, Sum.inr (Sum.inr (Sum.inr (Sum.inr g)))) : va_E)) ?_
        funext k
        unfold va_up
        rw [List.getD_eq_getElem?_getD, List.getElem?_set]
        by_cases e : i.toNatClampNeg = k
        · subst e
          simp [hlt]
        · rw [if_neg e, if_neg (fun q => e q.symm), ← List.getD_eq_getElem?_getD]
      rw [← e2] at hP1 hD1
      exact hK _ _ _ _ hs z (by simp) (jw_sz_set ha (by simp [jw_ssz])) hP1 hD1 hS1
    · exact hs.elim
  · exact hs.elim
set_option maxHeartbeats 1000000 in
theorem jo_mna {pc idx : Nat} {f : Nat → jw_H → Prop} {n k : Int32} (hx : p.tables.exec = Jvm.exec) (hb : c.code = cc) (hown : s.vm.findClass own = some m.cls) (hts : ∀ w ∈ Ts, w.before args s = true) (hw1 : Cond.classLink own idx "[[I" ∈ Ts) (hw2 : Cond.arrayClass .int ∈ Ts) (hao : (Cond.arrayOver (.array .int)).before args s = true) (hdg : decode cc pc = .ok (.multianewarray idx 2, 4))
    (hK0 : va_K D cl (jw_tys cy) s) (hP : va_P D cl (jw_wld cy α h) H) (hD : va_D A (jw_wld cy α h)) (hS : va_S A s.heap H locs) (hA : ∀ q, s.heap.size ≤ q → A q)
    (hfut : ∀ mc, h.1.length + mc ≤ lim.1 → jw_fut α h.1.length H.size mc) (hlim : ∀ mc ms, h.1.length + mc ≤ lim.1 → jw_sz h.1 + ms ≤ lim.2 → cells + mc ≤ R.cells ∧ slots + ms ≤ R.slots) (hn0 : ¬ n < 0) (hk0 : ¬ k < 0)
    (hs : jw_mna h lim n.toNatClampNeg k.toNatClampNeg f)
    (hK : ∀ (a : Nat) (h' : jw_H) (H' : Heap) (locs' : List Loc) (k n : Nat), f a h' → H'.size = H.size + k → h'.1.length = h.1.length + k → jw_sz h'.1 = jw_sz h.1 + n → h'.1.length ≤ lim.1 → jw_sz h'.1 ≤ lim.2 → va_P D cl (jw_wld cy α h') H' → va_D A (jw_wld cy α h') → va_S A s.heap H' locs' → W p l e R s m args below meth c H' locs' (cells + k) (slots + n) Qf (F0 m (pc + 4) ls ((.ref a :: st).map (jw_ad α)))) :
    W p l e R s m args below meth c H locs cells slots Qf (F0 m pc ls (.int k :: .int n :: st.map (jw_ad α))) := by
  obtain ⟨hl1, hs⟩ := jw_bif hs
  simp only [Bool.and_eq_true, Nat.ble_eq] at hl1
  obtain ⟨l1, l2, l3, l4⟩ := hl1
  generalize hN : n.toNatClampNeg = N at *
  generalize hKK : k.toNatClampNeg = K at *
  have hroom := hlim (1 + N) (N + N * K) l1 l2
  have hadr : ∀ i, i < 1 + N → α (h.1.length + i) = H.size + i := fun i hi => by have := hfut (1 + N) l1 (h.1.length + i) (by omega) (by omega); omega
  intro T hT Xs
  obtain ⟨vm₁, cA, comp, -, fA, fC, hO, -, X', step⟩ := Xs.multianewarray2F hx hown (hts _ hw1) hao (hts _ hw2) (g := F0 m pc ls (.int k :: .int n :: st.map (jw_ad α))) rfl (by rw [hb]; exact hdg) rfl hn0 hk0 (by omega) (by rw [hKK]; show K * 4 ≤ _; omega) (by omega) rfl rfl (by rw [hN]; exact hroom.1) (by rw [hN, hKK]; exact hroom.2)
  rw [hN, hKK] at X' step
  have e4 : cA = cy 4 := Option.some.inj (fA.symm.trans (hK0.2 4 _ rfl).2)
  have e0 : comp = cy 0 := Option.some.inj (fC.symm.trans (hK0.2 0 _ rfl).2)
  subst e4
  subst e0
  generalize hF : Jvm.Free.Multi.fill (T.setVm vm₁) (cy 4) (cy 0) N K (defaultValue .int) N = F at X' step
  have hTh : (T.setVm vm₁).heap = H := hT
  obtain ⟨f1, f2, -, -⟩ := Jvm.Free.Multi.fill_facts (T.setVm vm₁) (cy 4) (cy 0) N K (defaultValue .int) N
  rw [hF, hTh] at f1 f2
  have hold : ∀ x : Nat, x < H.size → F.heap[x]? = H[x]? := fun x hx => by
    have := Jvm.Free.Multi.fill_old (T.setVm vm₁) (cy 4) (cy 0) N K (defaultValue .int) (a := x) (by rw [hTh]; exact hx) N
    rw [hF, hTh] at this
    exact this
  have hz : ∀ c : ClassId, Jvm.Free.Multi.innerC c K (defaultValue .int) = vp_cell c (K, .inl (fun _ => 0)) := fun c => by
    show ({ cls := c, slots := Array.replicate K (.int 0), vm := .none } : Cell) = _
    rw [vp_cell_i, arrV_new]
  have hrow : ∀ j : Nat, j < N → F.heap[H.size + 1 + j]? = some (vp_cell (cy 0) (K, .inl (fun _ => 0))) := fun j hj => by
    have := Jvm.Free.Multi.fill_inner (T.setVm vm₁) (cy 4) (cy 0) N K (defaultValue .int) N j hj
    rw [hF, hTh, hz] at this
    exact this
  rw [vr_outer] at f2
  generalize hX : (Sum.inr (4, N, (List.range N).map (fun i => some (h.1.length + 1 + i))) :: List.replicate N (Sum.inr (0, K, [])) : List jw_S) = X at hs
  have hXl : X.length = 1 + N := by rw [← hX]; simp; omega
  have hXs : jw_sz X = N + N * K := by rw [← hX, jw_sz, jw_sz_rep]; simp [jw_ssz]; omega
  have e2 := jw_wld_app (cy := cy) (α := α) (h := h) (h' := (h.1 ++ X, jw_zero 0 h.2.1 h.1.length, jw_zero 0 h.2.2 h.1.length)) (X := X) rfl (fun i hi => if_pos hi) (fun i hi => if_pos hi)
  have hXa : ∀ (i : Nat) (q : Nat × va_E), (X.mapIdx (fun i sh => (α (h.1.length + i), jw_cell cy α (jw_zero 0 h.2.1 h.1.length, jw_zero 0 h.2.2 h.1.length) (h.1.length + i) sh)))[i]? = some q → q.1 = H.size + i := by
    intro i q hq
    rw [List.getElem?_mapIdx] at hq
    cases hi : X[i]? with
    | none => rw [hi] at hq; cases hq
    | some sh =>
      rw [hi] at hq
      have hil : i < X.length := (List.getElem?_eq_some_iff.mp hi).1
      have := Option.some.inj hq
      rw [← this]
      exact hadr i (by omega)
  obtain ⟨t, a1, b1⟩ := hK h.1.length _ F.heap locs (1 + N) (N + N * K) hs (by rw [f1]; omega) (by simp [hXl]) (by rw [jw_sz_app, hXs]) (by simp [hXl]; exact l1) (by rw [jw_sz_app, hXs]; exact l2) (by
      rw [e2]
      refine (hP.kept (fun k x hx => hold x.1 ((hP k x hx).lt))).app (fun i q hq => ?_)
      have hq1 := hXa i q hq
      rw [List.getElem?_mapIdx] at hq
      cases hi : X[i]? with
      | none => rw [hi] at hq; cases hq
      | some sh =>
        rw [hi] at hq
        have hq2 := Option.some.inj hq
        rw [← hX] at hi
        cases i with
        | zero =>
          simp at hi
          subst hi
          rw [← hq2]
          show F.heap[α (h.1.length + 0)]? = some (vp_cell _ _)
          rw [hadr 0 (by omega), vp_cell_q]
          refine f2.trans (congrArg some (congrArg (arrV (cy 4) N) (funext fun j => ?_)))
          rw [List.getD_eq_getElem?_getD, List.getElem?_map]
          by_cases hj : j < N
          · rw [if_pos hj, List.getElem?_range hj]
            simp only [Option.map_some, Option.getD_some]
            rw [show h.1.length + 1 + j = h.1.length + (1 + j) by omega, hadr (1 + j) (by omega), show H.size + (1 + j) = H.size + 1 + j by omega]
          · rw [if_neg hj, List.getElem?_eq_none (by rw [List.length_range]; omega)]
            rfl
        | succ i =>
          rw [List.getElem?_cons_succ, List.getElem?_replicate] at hi
          split at hi
          · rename_i hlt
            cases hi
            rw [← hq2]
            show F.heap[α (h.1.length + (i + 1))]? = some (vp_cell _ _)
            rw [hadr (i + 1) (by omega), show H.size + (i + 1) = H.size + 1 + i by omega, hrow i hlt]
            refine congrArg (fun g => some (vp_cell (cy 0) (K, .inl g))) (funext fun j => ?_)
            show _ = jw_zero 0 h.2.1 h.1.length (h.1.length + (i + 1)) j
            unfold jw_zero
            rw [if_neg (by omega)]
          · cases hi) (by
      rw [e2]
      exact jw_D_app hD (fun k q hq => (hP k q hq).lt) hXa (fun q hq => hA q (Nat.le_trans hS.1 hq))) ⟨by rw [f1]; have := hS.1; omega, fun x h1 h2 => (hold x (Nat.lt_of_lt_of_le h1 hS.1)).trans (hS.2.1 x h1 h2), hS.2.2⟩ F rfl (by
      have e9 : cells + (1 + N) = cells + 1 + N := by omega
      have e8 : slots + (N + N * K) = slots + N + N * K := by omega
      rw [e9, e8]
      exact X')
  refine ⟨t, step t ?_, b1⟩
  have e9 : T.heap.size = H.size := by rw [hT]
  rw [e9]
  rw [List.map_cons, jw_ad, show α h.1.length = H.size from hadr 0 (by omega)] at a1
  exact a1
end JWR
end
section
/-! ===== the abstract machine is the machine: a method's contract out of its walk ===== -/
def jw_isC : Instr → Bool
  | .invokevirtual _ | .invokespecial _ | .invokestatic _ | .aastore | .new _ | .newarray _ | .anewarray _ | .multianewarray _ _ => true
  | _ => false
def jw_isR : Instr → Bool
  | .ireturn | .lreturn | .areturn | .return_ => true
  | _ => false
/-- words of a call or a new cell -/
def jw_wc (own : String) (cl : List vw_C) (ys : List jw_Y) (q : jw_I) : List Cond := match q.2.1 with
  | .invokevirtual idx => bif q.2.2.2.1 == 100000 || q.2.2.2.1 == 100001 then jw_wcT own idx q.2.2.2.1 else q.2.2.2.2.2.flatMap (jw_wcV own cl ys idx q.2.2.2.1)
  | .invokespecial idx => bif q.2.2.2.1 == 7 then jw_wcO own idx else q.2.2.2.2.2.flatMap (jw_wcP own cl ys idx q.2.2.2.1)
  | .invokestatic idx => bif q.2.2.2.1 == 8 then jw_wcA own idx else q.2.2.2.2.2.flatMap (jw_wcS own ys idx q.2.2.2.1)
  | _ => jw_wcN own cl q
def jw_nc (own : String) (ys : List jw_Y) (q : jw_I) : List Cond := match q.2.1 with
  | .invokespecial idx => bif q.2.2.2.1 == 7 then [] else q.2.2.2.2.2.flatMap (jw_ncP own ys idx q.2.2.2.1)
  | .invokestatic idx => bif q.2.2.2.1 == 8 then [] else q.2.2.2.2.2.flatMap (jw_ncS own ys idx q.2.2.2.1)
  | _ => []
def jw_fc (kd : Nat → List jw_K) (cl : List vw_C) (ys : List jw_Y) (q : jw_I) : Bool := match q.2.1 with
  | .invokevirtual _ => ((q.2.2.2.1 == 100000 || q.2.2.2.1 == 100001) && q.2.2.2.2.2 == []) || (!(q.2.2.2.1 == 100000 || q.2.2.2.1 == 100001) && q.2.2.2.2.2.all (jw_fcV cl ys q.2.2.2.1 q.2.2.2.2.1))
  | .invokespecial _ => q.2.2.2.1 == 7 || q.2.2.2.2.2.all (jw_fcP cl ys q.2.2.2.1 q.2.2.2.2.1)
  | .invokestatic _ => q.2.2.2.1 == 8 || q.2.2.2.2.2.all (jw_fcS ys q.2.2.2.2.1)
  | .multianewarray _ n => n == 2
  | _ => jw_fcN kd cl q
/-- all that an instruction needs of the tables -/
def jw_okI (own nm : String) (kd : Nat → List jw_K) (cl : List vw_C) (ys : List jw_Y) (Tg Ns : List Cond) (cc : ByteArray) (q : jw_I) : Prop :=
  jw_okd cc q ∧ (jw_len q.2.1 = 1 ∨ jw_isS q.2.1 = true ∨ jw_isH q.2.1 = true ∨ jw_isC q.2.1 = true) ∧ (∀ w ∈ jw_wd own cl q, w ∈ Tg) ∧ jw_wf own nm cl q = true ∧ (∀ w ∈ jw_wc own cl ys q, w ∈ Tg) ∧ (∀ w ∈ jw_nc own ys q, w ∈ Ns) ∧ jw_fc kd cl ys q = true
def jw_shok (cl : List vw_C) (h : jw_H) : Prop := ∀ (i : Nat) (sh : Nat × List jw_K), h.1[i]? = some (.inl sh) → ∃ r, cl[sh.1]? = some r
section JWZ
variable {p : Program} {l : Launch} {e : Env} {R : Room} {s : State} {m : MethodId} {args : Array Value} {below : List Frame} {meth : Method} {c : Code}
variable {cc : ByteArray} {α : Nat → Nat} {nL : Nat} {D : va_G} {cl : List vw_C} {A : Nat → Prop} {cy : Nat → ClassId} {own nm : String} {Ts Tg Ns : List Cond} {kd : Nat → List jw_K} {lim : Nat × Nat} {ys : List jw_Y} {ret : Option FieldType} {cs : List jw_I}
theorem jw_at_ok {pc : Nat} {q : jw_I} : ∀ {cs : List jw_I}, jw_at pc cs = some q → q ∈ cs ∧ q.1 = pc
  | [], h => by cases h
  | x :: cs, h => by
    rw [jw_at] at h
    cases hc : (x.1 == pc) with
    | true =>
      rw [hc] at h
      have : x = q := Option.some.inj h
      subst this
      exact ⟨List.mem_cons_self, by simpa using hc⟩
    | false =>
      rw [hc] at h
      exact ⟨List.mem_cons_of_mem _ (jw_at_ok h).1, (jw_at_ok h).2⟩
set_option maxHeartbeats 4000000 in
set_option maxRecDepth 100000 in
theorem jw_sound_wp {d mc ms : Nat} {Q : jw_Q} {h0 : jw_H} (hx : p.tables.exec = Jvm.exec) (hb : c.code = cc) (hml : c.maxLocals = nL) (hr : meth.sig.returnType = ret) (hlocks : meth.locks = false) (hown : s.vm.findClass own = some m.cls) (hnm : meth.name = nm) (hts : ∀ w ∈ Ts, w.before args s = true) (hTs : ∀ w ∈ Tg, w ∈ Ts) (hgood : ∀ w ∈ Tg, goodWord w = true) (hns : jw_nsok Ns) (hcl : jw_clok cl Tg) (hasg : jw_asg cl Ns) (hstr : jw_strok l Tg) (hysl : ys.length ≤ 100000) (hok : ∀ q ∈ cs, jw_okI own nm kd cl ys Tg Ns cc q)
    (hRf : d + 1 ≤ R.frames) (hRl : 200 * d + 200 ≤ R.locals) (hRc : R.cells = mc) (hRs : R.slots = ms)
    (hK0 : va_K D cl (jw_tys cy) s) (hX : jw_X α A s s.heap) (hN : jw_nw Ns s) (hA : ∀ q, s.heap.size ≤ q → A q) (hAe : A = va_A (jw_wld cy α h0) s.heap.size) (hfut : jw_fut α h0.1.length s.heap.size mc)
    (IH : ∀ (mid : Nat) (as : List Value) (h : jw_H) (Q : jw_Q), jw_C kd ys d mid as h Q → ∀ y, ys[mid]? = some y → jw_met l D cl cy α Ns Tg d y as h Q) :
    ∀ (n pc : Nat) (L : jw_L) (st : List Value) (h : jw_H) (H : Heap) (locs : List Loc) (cells slots : Nat) (ls : Array Slot), jw_wp kd (jw_C kd ys d) (jw_bud ys) (h0.1.length + mc, jw_sz h0.1 + ms) ret cs (fun v h' => Q v h' ∧ h'.1.length = h0.1.length + mc ∧ jw_sz h'.1 = jw_sz h0.1 + ms) n pc L st h → L.length = nL → lv_has ls nL (jw_asc α 0 L) → cells + h0.1.length = h.1.length → slots + jw_sz h0.1 = jw_sz h.1 → H.size + h0.1.length = s.heap.size + h.1.length → h.1.length ≤ h0.1.length + mc → jw_sz h.1 ≤ jw_sz h0.1 + ms → va_P D cl (jw_wld cy α h) H → va_D A (jw_wld cy α h) → va_S A s.heap H locs →
      W p l e R s m args below meth c H locs cells slots (MQ below (jw_Qc D cl cy α h0 s.heap.size mc ms Q) args s mc ms A) (F0 m pc ls (st.map (jw_ad α))) := by
  have hclT : jw_clok cl Ts := fun ci C T N h => ⟨fun w hw => hTs w ((hcl ci C T N h).1 w hw), (hcl ci C T N h).2⟩
  intro n
  induction n with
  | zero => intro pc L st h H locs cells slots ls hs; exact hs.elim
  | succ n ih =>
    intro pc L st h H locs cells slots ls hs hn hl hc1 hc2 hz hb1 hb2 hP hD hS
    rw [jw_wp] at hs
    cases hq : jw_at pc cs with
    | none => rw [hq] at hs; exact hs.elim
    | some q =>
      rw [hq] at hs
      dsimp only at hs
      obtain ⟨hqm, hqp⟩ := jw_at_ok hq
      obtain ⟨k1, k2, k3, k4, k5, k6, k7⟩ := hok q hqm
      obtain ⟨pc1, ins, len, res⟩ := q
      dsimp only at hqp k2
      subst hqp
      have hfut' : ∀ mc', h.1.length + mc' ≤ h0.1.length + mc → jw_fut α h.1.length H.size mc' := fun mc' h9 j h1 h2 => by
        have := hfut j (by omega) (by omega)
        omega
      have hlim' : ∀ mc' ms', h.1.length + mc' ≤ h0.1.length + mc → jw_sz h.1 + ms' ≤ jw_sz h0.1 + ms → cells + mc' ≤ R.cells ∧ slots + ms' ≤ R.slots := fun mc' ms' h9 h8 => ⟨by omega, by omega⟩
      have hdg := k1.1
      dsimp only at hdg
      have hlen' : ∀ k, jw_len ins = k + 1 → len = k + 1 := fun k hk => by
        rcases k1.2.1 with h9 | h9
        · dsimp only at h9; omega
        · dsimp only at h9; omega
      have hfin : ∀ (t : State) (v : Option Value), t.heap = H → Q v h → h.1.length = h0.1.length + mc → jw_sz h.1 = jw_sz h0.1 + ms → jw_Qc D cl cy α h0 s.heap.size mc ms Q args s (.returned (v.map (jw_ad α))) t := fun t v ht hq9 hz1 hz2 =>
        ⟨⟨_, rfl, v, h, rfl, hq9, hz1, hz2, by rw [ht]; omega, by rw [ht]; exact hP, by rw [← hAe]; exact hD⟩, by rw [← hAe]; exact hS.F ht⟩
      by_cases hS1 : jw_isS ins = true
      · exact jo_simple hS1 hx hb k1 hl hn hs (fun pc' L' st' ls' hk hn' hl' => ih pc' L' st' h H locs cells slots ls' hk hn' hl' hc1 hc2 hz hb1 hb2 hP hD hS)
      by_cases hH1 : jw_isH ins = true
      · exact jo_heap hH1 hx hb k1 (fun w hw => hTs w (k3 w hw)) k4 hts hclT hown hnm hK0 hP hD hS hX hs (fun pc' st' h' H' locs' hk z1 z2 z3 hP1 hD1 hS1 => ih pc' L st' h' H' locs' cells slots ls hk hn hl (by omega) (by omega) (by omega) (by omega) (by omega) hP1 hD1 hS1)
      by_cases hC1 : jw_isC ins = true
      · cases ins <;> first | (exact Bool.noConfusion hC1) | skip
        case invokevirtual idx =>
          have := hlen' 2 rfl; subst this
          unfold jw_wc at k5
          unfold jw_fc at k7
          dsimp only at k5 k7
          replace hs : jw_callV (jw_C kd ys d) (jw_bud ys) (h0.1.length + mc, jw_sz h0.1 + ms) res st h fun st h => jw_wp kd (jw_C kd ys d) (jw_bud ys) (h0.1.length + mc, jw_sz h0.1 + ms) ret cs (fun v h' => Q v h' ∧ h'.1.length = h0.1.length + mc ∧ jw_sz h'.1 = jw_sz h0.1 + ms) n (pc1 + 3) L st h := hs
          unfold jw_callV at hs
          split at hs
          · rename_i b r hdr
            split at hs
            · obtain ⟨g1, hs⟩ := jw_bif hs
              simp only [Bool.and_eq_true, Bool.or_eq_true, beq_iff_eq, Nat.blt_eq, Nat.ble_eq] at g1
              obtain ⟨rfl, g2, g3, g4⟩ := g1
              have hkk : (res.1 == 100000 || res.1 == 100001) = true := by simpa using g4
              rw [hkk] at k5
              exact jo_str (ys := ys) (kd := kd) (d' := 0) (tg := res.2.2) hstr hx hb hml hown hts hTs hgood k5 hRf hRl hdg hl.1 hS hX hysl (jw_take hdr) g2 g3 g4 hs (by omega) (fun v locs' hq9 hS1 => ih _ L (.int v :: r) h H locs' cells slots ls hq9 hn hl hc1 hc2 hz hb1 hb2 hP hD hS1)
            · have hkk : (res.1 == 100000 || res.1 == 100001) = true ∨ (res.1 == 100000 || res.1 == 100001) = false := by cases (res.1 == 100000 || res.1 == 100001) <;> simp
              rcases hkk with hkk | hkk
              · exfalso
                obtain ⟨b2, r2, ci2, ks2, mid2, -, -, -, htg2, -⟩ := jw_call_ok (kind := res.1) (n := res.2.1) (tg := res.2.2) hs
                rw [hkk] at k7
                simp only [Bool.true_and] at k7
                have : res.2.2 = [] := by simpa using k7
                rw [this] at htg2
                cases htg2
              · rw [hkk] at k5 k7
                simp only [Bool.not_false, Bool.false_and, Bool.false_or, Bool.true_and] at k7
                exact jo_virt (kind := res.1) (n := res.2.1) (tg := res.2.2) hx hb hml hown hts hTs hgood hns (fun z hz1 w hw => k5 w (List.mem_flatMap.mpr ⟨z, hz1, hw⟩)) (fun z hz1 => List.all_eq_true.mp k7 z hz1) hRf hRl hdg hl.1 hK0 hP hD hS hA hX hN (fun mid as Q h9 => IH mid as h Q h9) hfut' hlim' ⟨hb1, hb2⟩ hs (fun st' h' H' locs' k n9 hk z1 z2 z3 z4 z5 hP1 hD1 hS1 => ih _ L st' h' H' locs' (cells + k) (slots + n9) ls hk hn hl (by omega) (by omega) (by omega) z4 z5 hP1 hD1 hS1)
          · exact hs.elim
        case invokespecial idx =>
          have := hlen' 2 rfl; subst this
          unfold jw_wc at k5
          unfold jw_nc at k6
          unfold jw_fc at k7
          dsimp only at k5 k6 k7
          replace hs : bif res.1 == 7 then jw_r1 st fun _ r => (bif Nat.ble (jw_cat r) 8 then jw_wp kd (jw_C kd ys d) (jw_bud ys) (h0.1.length + mc, jw_sz h0.1 + ms) ret cs (fun v h' => Q v h' ∧ h'.1.length = h0.1.length + mc ∧ jw_sz h'.1 = jw_sz h0.1 + ms) n (pc1 + 3) L r h else False) else jw_call (jw_C kd ys d) (jw_bud ys) (h0.1.length + mc, jw_sz h0.1 + ms) res st h fun st h => jw_wp kd (jw_C kd ys d) (jw_bud ys) (h0.1.length + mc, jw_sz h0.1 + ms) ret cs (fun v h' => Q v h' ∧ h'.1.length = h0.1.length + mc ∧ jw_sz h'.1 = jw_sz h0.1 + ms) n (pc1 + 3) L st h := hs
          cases h7 : (res.1 == 7) with
          | true =>
            rw [h7] at hs k5
            dsimp only [cond_true] at hs k5
            obtain ⟨a, r, rfl, hs⟩ := jw_r1_ok hs
            obtain ⟨hcat, hs⟩ := jw_bif hs
            have hcat : jw_cat r ≤ 8 := by simpa using hcat
            have hw := fun w hz => hts w (hTs w (k5 w hz))
            exact W.objInit hx hb hown (hw _ (by simp [jw_wcO])) (hw _ (by simp [jw_wcO])) (hw _ (by simp [jw_wcO])) (g := F0 m pc1 ls ((.ref a :: r).map (jw_ad α))) rfl (hl.1.trans hml.symm) rfl hdg (by omega) (by show 2 * 0 + _ + 12 ≤ _; rw [jw_cat_map]; omega) (ih _ L r h H locs cells slots ls hs hn hl hc1 hc2 hz hb1 hb2 hP hD hS)
          | false =>
            rw [h7] at hs k5 k6 k7
            dsimp only [cond_false] at hs k5 k6 k7
            rw [Bool.false_or] at k7
            refine jo_spec (kind := res.1) (n := res.2.1) (tg := res.2.2) hx hb hml hown hts hTs hgood hns (fun z hz1 w hw => k5 w (List.mem_flatMap.mpr ⟨z, hz1, hw⟩)) (fun z hz1 w hw => k6 w (List.mem_flatMap.mpr ⟨z, hz1, hw⟩)) (fun z hz1 => List.all_eq_true.mp k7 z hz1) hRf hRl hdg hl.1 hK0 hP hD hS hA hX hN (fun mid as Q h9 => IH mid as h Q h9) hfut' hlim' ⟨hb1, hb2⟩ hs (fun st' h' H' locs' k n9 hk z1 z2 z3 z4 z5 hP1 hD1 hS1 => ih _ L st' h' H' locs' (cells + k) (slots + n9) ls hk hn hl (by omega) (by omega) (by omega) z4 z5 hP1 hD1 hS1)
        case invokestatic idx =>
          have := hlen' 2 rfl; subst this
          unfold jw_wc at k5
          unfold jw_nc at k6
          unfold jw_fc at k7
          dsimp only at k5 k6 k7
          replace hs : bif res.1 == 8 then jw_copy h st fun r h => jw_wp kd (jw_C kd ys d) (jw_bud ys) (h0.1.length + mc, jw_sz h0.1 + ms) ret cs (fun v h' => Q v h' ∧ h'.1.length = h0.1.length + mc ∧ jw_sz h'.1 = jw_sz h0.1 + ms) n (pc1 + 3) L r h else jw_callS (jw_C kd ys d) (jw_bud ys) (h0.1.length + mc, jw_sz h0.1 + ms) res st h fun st h => jw_wp kd (jw_C kd ys d) (jw_bud ys) (h0.1.length + mc, jw_sz h0.1 + ms) ret cs (fun v h' => Q v h' ∧ h'.1.length = h0.1.length + mc ∧ jw_sz h'.1 = jw_sz h0.1 + ms) n (pc1 + 3) L st h := hs
          cases h7 : (res.1 == 8) with
          | true =>
            rw [h7] at hs k5
            dsimp only [cond_true] at hs k5
            exact jo_copy hx hb hml hl.1 hown hts (fun w hz => hTs w (k5 w hz)) (by omega) (by omega) hdg hK0 hP hD hS hs (fun st' h' H' locs' hk z1 z2 z3 hP1 hD1 hS1 => ih _ L st' h' H' locs' cells slots ls hk hn hl (by omega) (by omega) (by omega) (by omega) (by omega) hP1 hD1 hS1)
          | false =>
            rw [h7] at hs k5 k6 k7
            dsimp only [cond_false] at hs k5 k6 k7
            rw [Bool.false_or] at k7
            refine jo_stat (kind := res.1) (n := res.2.1) (tg := res.2.2) hx hb hml hown hts hTs hgood hns (fun z hz1 w hw => k5 w (List.mem_flatMap.mpr ⟨z, hz1, hw⟩)) (fun z hz1 w hw => k6 w (List.mem_flatMap.mpr ⟨z, hz1, hw⟩)) (fun z hz1 => List.all_eq_true.mp k7 z hz1) hRf hRl hdg hl.1 hK0 hP hD hS hA hX hN (fun mid as Q h9 => IH mid as h Q h9) hfut' hlim' ⟨hb1, hb2⟩ hs (fun st' h' H' locs' k n9 hk z1 z2 z3 z4 z5 hP1 hD1 hS1 => ih _ L st' h' H' locs' (cells + k) (slots + n9) ls hk hn hl (by omega) (by omega) (by omega) z4 z5 hP1 hD1 hS1)
        case aastore =>
          have := hlen' 0 rfl; subst this
          refine jo_aast hx hb hasg (fun i sh hi => ?_) hdg hK0 hP hD hS hN hs (fun st' h' H' locs' hk z1 z2 z3 hP1 hD1 hS1 => ih _ L st' h' H' locs' cells slots ls hk hn hl (by omega) (by omega) (by omega) (by omega) (by omega) hP1 hD1 hS1)
          obtain ⟨r, hr1, -⟩ := hP i _ (jw_wld_some hi)
          exact ⟨r, hr1⟩
        case new idx =>
          have := hlen' 2 rfl; subst this
          have hkd : jw_kdok kd cl res.1 = true := k7
          have hex : ∃ r, cl[res.1]? = some r := by
            unfold jw_kdok at hkd
            split at hkd
            · exact ⟨_, by assumption⟩
            · cases hkd
          obtain ⟨⟨C0, T0, N0⟩, hc0⟩ := hex
          unfold jw_step at hs
          dsimp only at hs
          refine jo_new (lim := (h0.1.length + mc, jw_sz h0.1 + ms)) hx hb hown hts hclT hc0 (fun w hw => hTs w (k5 w ?_)) hkd hdg hK0 hP hD hS hA hfut' hlim' hs (fun a h' H' locs' k n9 hk z1 z2 z3 z4 z5 hP1 hD1 hS1 => ih _ L _ h' H' locs' (cells + k) (slots + n9) ls hk hn hl (by omega) (by omega) (by omega) z4 z5 hP1 hD1 hS1)
          unfold jw_wc jw_wcN
          dsimp only
          rw [hc0]
          exact hw
        case newarray a =>
          have := hlen' 1 rfl; subst this
          obtain ⟨x, r, rfl, hx0, hs⟩ := jw_i1_ok hs
          have ht : (newarray.typeOf a = .int ∧ res.1 = 0) ∨ (newarray.typeOf a = .long ∧ res.1 = 1) := by
            unfold jw_fc jw_fcN at k7
            dsimp only at k7
            split at k7
            · exact Or.inl ⟨by assumption, by simpa using k7⟩
            · exact Or.inr ⟨by assumption, by simpa using k7⟩
            · cases k7
          exact jo_newa hx hb hts (hTs _ (k5 _ (List.mem_singleton.mpr rfl))) ht hdg hK0 hP hD hS hA hfut' hlim' hx0 hs (fun a h' H' locs' k n9 hk z1 z2 z3 z4 z5 hP1 hD1 hS1 => ih _ L _ h' H' locs' (cells + k) (slots + n9) ls hk hn hl (by omega) (by omega) (by omega) z4 z5 hP1 hD1 hS1)
        case anewarray idx =>
          have := hlen' 2 rfl; subst this
          obtain ⟨x, r, rfl, hx0, hs⟩ := jw_i1_ok hs
          have k7 : (res.1 == 2 || res.1 == 3) = true := k7
          simp only [Bool.or_eq_true, beq_iff_eq] at k7
          dsimp only at hs
          rcases k7 with k7 | k7
          · rw [k7] at hs
            exact jo_anew (t := 0) (C0 := "ShadowSchool$Progress") hx hb hown hts (hTs _ (k5 _ (by unfold jw_wc jw_wcN; dsimp only; rw [k7]; exact List.mem_singleton.mpr rfl))) hN.2.1 rfl hdg hK0 hP hD hS hA hfut' hlim' hx0 hs (fun a h' H' locs' k n9 hk z1 z2 z3 z4 z5 hP1 hD1 hS1 => ih _ L _ h' H' locs' (cells + k) (slots + n9) ls hk hn hl (by omega) (by omega) (by omega) z4 z5 hP1 hD1 hS1)
          · rw [k7] at hs
            exact jo_anew (t := 1) (C0 := "ShadowSchool$Shade") hx hb hown hts (hTs _ (k5 _ (by unfold jw_wc jw_wcN; dsimp only; rw [k7]; exact List.mem_singleton.mpr rfl))) hN.2.2.1 rfl hdg hK0 hP hD hS hA hfut' hlim' hx0 hs (fun a h' H' locs' k n9 hk z1 z2 z3 z4 z5 hP1 hD1 hS1 => ih _ L _ h' H' locs' (cells + k) (slots + n9) ls hk hn hl (by omega) (by omega) (by omega) z4 z5 hP1 hD1 hS1)
        case multianewarray idx dim =>
          have := hlen' 3 rfl; subst this
          have k7 : (dim == 2) = true := k7
          have k7 : dim = 2 := by simpa using k7
          subst k7
          unfold jw_step at hs
          dsimp only at hs
          split at hs
          · rename_i k9 n9 r
            exact jo_mna (lim := (h0.1.length + mc, jw_sz h0.1 + ms)) hx hb hown hts (hTs _ (k5 _ (by simp [jw_wc, jw_wcN]))) (hTs _ (k5 _ (by simp [jw_wc, jw_wcN]))) (over_moved (Vm.Alike.refl s.vm) hN.2.2.2) hdg hK0 hP hD hS hA hfut' hlim' hs.1 hs.2.1 hs.2.2 (fun a h' H' locs' k n9 hk z1 z2 z3 z4 z5 hP1 hD1 hS1 => ih _ L _ h' H' locs' (cells + k) (slots + n9) ls hk hn hl (by omega) (by omega) (by omega) z4 z5 hP1 hD1 hS1)
          · exact hs.elim
      · cases ins <;> first | (exact absurd rfl hS1) | (exact absurd rfl hH1) | (exact absurd rfl hC1) | (exact hs.elim) | skip
        case ireturn =>
          have := hlen' 0 rfl; subst this
          unfold jw_step at hs
          dsimp only at hs
          split at hs
          · rename_i x
            have hn1 : ∃ ty, ret = some ty ∧ narrow ty (.int x) = .int x ∧ Q (some (.int x)) h ∧ h.1.length = h0.1.length + mc ∧ jw_sz h.1 = jw_sz h0.1 + ms := by
              unfold jw_ok at hs
              split at hs
              · exact ⟨.int, rfl, rfl, hs⟩
              · exact ⟨.boolean, rfl, by rcases hs.1 with h9 | h9 <;> rw [h9] <;> rfl, hs.2⟩
              · exact hs.elim
            obtain ⟨ty, t1, t2, t3, t4, t5⟩ := hn1
            have e1 : cells = mc := by omega
            have e2 : slots = ms := by omega
            subst e1; subst e2
            exact W.zret hx hb (hr.trans t1) t2 (fun t ht hW => hfin t (some (.int x)) ht t3 t4 t5) hS.2.2 hdg hlocks
          · exact hs.elim
        case lreturn =>
          have := hlen' 0 rfl; subst this
          unfold jw_step at hs
          dsimp only at hs
          split at hs
          · rename_i x
            obtain ⟨t1, t3, t4, t5⟩ := jw_bif hs
            have e1 : cells = mc := by omega
            have e2 : slots = ms := by omega
            subst e1; subst e2
            exact W.lret hx hb (hr.trans (by simpa using t1)) (fun t ht hW => hfin t (some (.long x)) ht t3 t4 t5) hS.2.2 hdg hlocks
          · exact hs.elim
        case areturn =>
          have := hlen' 0 rfl; subst this
          unfold jw_step at hs
          dsimp only at hs
          split at hs
          · rename_i x
            split at hs
            · obtain ⟨t3, t4, t5⟩ := hs
              have e1 : cells = mc := by omega
              have e2 : slots = ms := by omega
              subst e1; subst e2
              exact W.aret hx hb hr (Or.inl ⟨_, rfl⟩) (Or.inr ⟨_, rfl⟩) (fun t ht hW => hfin t (some (.ref x)) ht t3 t4 t5) hS.2.2 hdg hlocks
            · exact hs.elim
          · exact hs.elim
        case return_ =>
          have := hlen' 0 rfl; subst this
          unfold jw_step at hs
          dsimp only at hs
          split at hs
          · obtain ⟨t1, t3, t4, t5⟩ := jw_bif hs
            have e1 : cells = mc := by omega
            have e2 : slots = ms := by omega
            subst e1; subst e2
            exact W.vret hx hb (hr.trans (by simpa using t1)) (fun t ht hW => hfin t none ht t3 t4 t5) hS.2.2 hdg hlocks
          · exact hs.elim
end JWZ
/-! the entry -/
theorem jw_entry_args {α : Nat → Nat} : ∀ (as : List Value) (k : Nat), jw_nod as = true → jw_asc α k (jw_args as) = lv_args k (as.map (jw_ad α)) ∧ (lg_sl (as.map (jw_ad α))).length = (jw_args as).length
  | [], k, _ => ⟨rfl, rfl⟩
  | v :: as, k, h => by
    cases v <;> first | (exact Bool.noConfusion h) | skip
    all_goals (obtain ⟨h1, h2⟩ := jw_entry_args (α := α) as (k + 1) h; obtain ⟨h3, h4⟩ := jw_entry_args (α := α) as (k + 2) h)
    all_goals (refine ⟨?_, ?_⟩)
    all_goals first | (simp [jw_args, jw_asc, lv_args, jw_ad, Value.category, h1, h3]; done) | (simp [jw_args, lg_sl, jw_ad, Value.category] at h2 ⊢; omega)
theorem jw_asc_rep {α : Nat → Nat} : ∀ (n k : Nat), jw_asc α k (List.replicate n none) = []
  | 0, _ => rfl
  | n + 1, k => by rw [List.replicate_succ, jw_asc, jw_asc_rep]
theorem jw_asc_app {α : Nat → Nat} : ∀ (L L' : jw_L) (k : Nat), jw_asc α k (L ++ L') = jw_asc α k L ++ jw_asc α (k + L.length) L'
  | [], L', k => by simp [jw_asc]
  | none :: L, L', k => by simp [jw_asc, jw_asc_app L L' (k + 1)]; congr 1; omega
  | some v :: L, L', k => by simp [jw_asc, jw_asc_app L L' (k + 1)]; congr 1; omega
/-- what must hold of the program's tables -/
def jw_prog (l : Launch) (kd : Nat → List jw_K) (cl : List vw_C) (ys : List jw_Y) (Tg Ns : List Cond) : Prop := (∀ w ∈ Tg, goodWord w = true) ∧ jw_nsok Ns ∧ jw_clok cl Tg ∧ jw_asg cl Ns ∧ jw_strok l Tg ∧ ys.length ≤ 100000 ∧ ∀ y ∈ ys, plainName y.1.cls = true ∧ ∀ q ∈ y.2.2.2.2.2, jw_okI y.1.cls y.1.name kd cl ys Tg Ns y.2.1 q
set_option maxHeartbeats 1000000 in
/-- THE ABSTRACT MACHINE IS THE MACHINE -/
theorem jw_sound {l : Launch} {D : va_G} {cl : List vw_C} {cy : Nat → ClassId} {α : Nat → Nat} {kd : Nat → List jw_K} {ys : List jw_Y} {Tg Ns : List Cond} (hp : jw_prog l kd cl ys Tg Ns) : ∀ (d mid : Nat) (as : List Value) (h : jw_H) (Q : jw_Q), jw_C kd ys d mid as h Q → ∀ y, ys[mid]? = some y → jw_met l D cl cy α Ns Tg d y as h Q := by
  obtain ⟨hgood, hns, hcl, hasg, hstr, hysl, hys⟩ := hp
  intro d
  induction d with
  | zero => intro mid as h Q hC; exact hC.elim
  | succ d ih =>
    intro mid as h Q hC y hy sz hfut
    rw [jw_C, hy] at hC
    dsimp only at hC
    obtain ⟨hc1, n, hwp⟩ := jw_bif hC
    simp only [Bool.and_eq_true, Nat.ble_eq] at hc1
    obtain ⟨hpl, hq⟩ := hys y (List.mem_of_getElem? hy)
    refine Met.ofW (cc := y.2.1) (maxL := y.2.2.1) (ret := y.2.2.2.1) hpl rfl ?_
    intro p e s m args below meth c s₁ B hml hv
    obtain ⟨rfl, hsz, hP, hK, hD0, hX, hN⟩ := hv
    subst hsz
    have hts := atoms_spec (ws := Cond.code y.1 y.2.1 y.2.2.1 y.2.2.2.1 :: Tg) B.pre
    have hown : s.vm.findClass y.1.cls = some m.cls := findClass_of_methodNamed B.named
    have hnm : meth.name = y.1.name := (name_of_methodNamed B.named B.method).1
    obtain ⟨ea, el⟩ := jw_entry_args (α := α) as 0 hc1.2
    have hl := lv_entry (as.map (jw_ad α)) (n := y.2.2.1) (by rw [el]; exact hc1.1)
    rw [lg_entry_eq]
    have hl2 : lv_has ((lg_sl (as.map (jw_ad α)) ++ List.replicate (y.2.2.1 - (lg_sl (as.map (jw_ad α))).length) Slot.unset).toArray) y.2.2.1 (jw_asc α 0 (jw_entry as y.2.2.1)) := by
      unfold jw_entry
      rw [jw_asc_app, jw_asc_rep, List.append_nil, ea]
      exact hl
    have := jw_sound_wp (e := e) (R := (headSpec (Cond.code y.1 y.2.1 y.2.2.1 y.2.2.2.1 :: Tg) (jw_rm (d + 1) y.2.2.2.2.1.1 y.2.2.2.2.1.2)).room) (Ts := Cond.code y.1 y.2.1 y.2.2.1 y.2.2.2.1 :: Tg) (cs := y.2.2.2.2.2) (d := d) (mc := y.2.2.2.2.1.1) (ms := y.2.2.2.2.1.2) (Q := Q) (h0 := h) (below := below) (args := ((as.map (jw_ad α)).toArray)) B.exec B.bytes hml B.returns B.notSynchronized hown hnm hts (fun w hw => List.mem_cons_of_mem _ hw) hgood hns hcl hasg hstr hysl hq (Nat.le_refl _) (by show 200 * d + 200 ≤ 200 * (d + 1); omega) rfl rfl hK hX hN (fun q hq => Or.inr hq) rfl hfut (fun mid as h Q hC y hy => ih mid as h Q hC y hy) n 0 (jw_entry as y.2.2.1) [] h s.heap [] 0 0 _ hwp (by unfold jw_entry; simp; omega) hl2 (by omega) (by omega) (by omega) (by omega) (by omega) hP hD0.self va_S.rf
    exact this
end
section
/-! ===== the program as data: printed by my own program out of the byte code ===== -/
/-- ShadowSchool$Borrowed.<init>()V -/
def jc_0 : List jw_I := [(0, .aload_n 0, 1, 0, 0, []), (1, .invokespecial 1, 3, 5, 0, [(0, 107), (11, 107)]), (4, .return_, 1, 0, 0, [])]
/-- ShadowSchool$Borrowed.paceIn(II)I -/
def jc_1 : List jw_I := [(0, .aload_n 0, 1, 0, 0, []), (1, .iload_n 1, 1, 0, 0, []), (2, .iload_n 2, 1, 0, 0, []), (3, .invokespecial 7, 3, 180, 2, [(0, 108)]), (6, .iload_n 1, 1, 0, 0, []), (7, .iconst 4, 1, 0, 0, []), (8, .irem, 1, 0, 0, []), (9, .iadd, 1, 0, 0, []), (10, .ireturn, 1, 0, 0, [])]
/-- ShadowSchool$Borrowed.lengthIn(II)I -/
def jc_2 : List jw_I := [(0, .aload_n 0, 1, 0, 0, []), (1, .iload_n 1, 1, 0, 0, []), (2, .iload_n 2, 1, 0, 0, []), (3, .invokespecial 11, 3, 180, 2, [(0, 109)]), (6, .iconst 3, 1, 0, 0, []), (7, .iadd, 1, 0, 0, []), (8, .ireturn, 1, 0, 0, [])]
/-- ShadowSchool$Borrowed.turns(LShadowSchool$Host;I)I -/
def jc_3 : List jw_I := [(0, .aload_n 1, 1, 0, 0, []), (1, .bipush 60, 2, 0, 0, []), (3, .invokevirtual 14, 3, 0, 1, [(3, 27)]), (6, .aload_n 0, 1, 0, 0, []), (7, .aload_n 1, 1, 0, 0, []), (8, .iload_n 2, 1, 0, 0, []), (9, .invokespecial 20, 3, 180, 2, [(0, 104)]), (12, .iconst 2, 1, 0, 0, []), (13, .imul, 1, 0, 0, []), (14, .ireturn, 1, 0, 0, [])]
/-- ShadowSchool$Borrowed.folds(LShadowSchool$Host;I)I -/
def jc_4 : List jw_I := [(0, .aload_n 1, 1, 0, 0, []), (1, .bipush 61, 2, 0, 0, []), (3, .invokevirtual 14, 3, 0, 1, [(3, 27)]), (6, .aload_n 0, 1, 0, 0, []), (7, .aload_n 1, 1, 0, 0, []), (8, .iload_n 2, 1, 0, 0, []), (9, .invokespecial 24, 3, 180, 2, [(0, 110)]), (12, .istore_n 3, 1, 0, 0, []), (13, .iload_n 3, 1, 0, 0, []), (14, .aload_n 0, 1, 0, 0, []), (15, .aload_n 1, 1, 0, 0, []), (16, .aload_n 1, 1, 0, 0, []), (17, .getfield 27, 3, 3, 10, []), (20, .invokevirtual 31, 3, 424449, 2, [(0, 103)]), (23, .ixor, 1, 0, 0, []), (24, .ireturn, 1, 0, 0, [])]
/-- ShadowSchool$Coloured.<init>()V -/
def jc_5 : List jw_I := [(0, .aload_n 0, 1, 0, 0, []), (1, .invokespecial 1, 3, 5, 0, [(1, 10), (2, 10)]), (4, .return_, 1, 0, 0, [])]
/-- ShadowSchool$Coloured.paceIn(II)I -/
def jc_6 : List jw_I := [(0, .aload_n 0, 1, 0, 0, []), (1, .iload_n 1, 1, 0, 0, []), (2, .iload_n 2, 1, 0, 0, []), (3, .invokespecial 7, 3, 36, 2, [(1, 11)]), (6, .iconst 1, 1, 0, 0, []), (7, .iadd, 1, 0, 0, []), (8, .ireturn, 1, 0, 0, [])]
/-- ShadowSchool$Coloured.lengthIn(II)I -/
def jc_7 : List jw_I := [(0, .iconst 0, 1, 0, 0, []), (1, .aload_n 0, 1, 0, 0, []), (2, .iload_n 1, 1, 0, 0, []), (3, .iload_n 2, 1, 0, 0, []), (4, .invokespecial 11, 3, 36, 2, [(1, 102)]), (7, .iconst 2, 1, 0, 0, []), (8, .isub, 1, 0, 0, []), (9, .invokestatic 14, 3, 2, 2, [(0, 324)]), (12, .ireturn, 1, 0, 0, [])]
/-- ShadowSchool$Coloured.lies(LShadowSchool$Host;I)I -/
def jc_8 : List jw_I := [(0, .aload_n 1, 1, 0, 0, []), (1, .bipush 50, 2, 0, 0, []), (3, .invokevirtual 19, 3, 0, 1, [(3, 27)]), (6, .iconst 0, 1, 0, 0, []), (7, .aload_n 0, 1, 0, 0, []), (8, .aload_n 1, 1, 0, 0, []), (9, .iload_n 2, 1, 0, 0, []), (10, .invokespecial 25, 3, 36, 2, [(1, 103)]), (13, .isub, 1, 0, 0, []), (14, .ireturn, 1, 0, 0, [])]
/-- ShadowSchool$Coloured.asks(LShadowSchool$Host;I)I -/
def jc_9 : List jw_I := [(0, .aload_n 1, 1, 0, 0, []), (1, .bipush 51, 2, 0, 0, []), (3, .invokevirtual 19, 3, 0, 1, [(3, 27)]), (6, .aload_n 0, 1, 0, 0, []), (7, .aload_n 1, 1, 0, 0, []), (8, .iload_n 2, 1, 0, 0, []), (9, .invokespecial 29, 3, 36, 2, [(1, 106)]), (12, .istore_n 3, 1, 0, 0, []), (13, .iload_n 3, 1, 0, 0, []), (14, .aload_n 0, 1, 0, 0, []), (15, .aload_n 1, 1, 0, 0, []), (16, .aload_n 1, 1, 0, 0, []), (17, .getfield 32, 3, 3, 9, []), (20, .invokevirtual 36, 3, 432657, 2, [(1, 105)]), (23, .iadd, 1, 0, 0, []), (24, .ireturn, 1, 0, 0, [])]
/-- ShadowSchool$Gifted.<init>()V -/
def jc_10 : List jw_I := [(0, .aload_n 0, 1, 0, 0, []), (1, .invokespecial 1, 3, 5, 0, [(0, 100), (1, 100), (2, 100), (4, 100), (10, 100), (11, 100)]), (4, .return_, 1, 0, 0, [])]
/-- ShadowSchool$Gifted.paceIn(II)I -/
def jc_11 : List jw_I := [(0, .iload_n 1, 1, 0, 0, []), (1, .bipush 6, 2, 0, 0, []), (3, .if_icmp .ne 7, 3, 10, 0, []), (6, .iconst 0, 1, 0, 0, []), (7, .goto 11, 3, 18, 0, []), (10, .iconst 2, 1, 0, 0, []), (11, .aload_n 0, 1, 0, 0, []), (12, .iload_n 1, 1, 0, 0, []), (13, .iload_n 2, 1, 0, 0, []), (14, .invokespecial 7, 3, 164, 2, [(1, 101), (2, 101)]), (17, .imul, 1, 0, 0, []), (18, .ireturn, 1, 0, 0, [])]
/-- ShadowSchool$Gifted.turns(LShadowSchool$Host;I)I -/
def jc_12 : List jw_I := [(0, .aload_n 1, 1, 0, 0, []), (1, .bipush 30, 2, 0, 0, []), (3, .invokevirtual 11, 3, 0, 1, [(3, 27)]), (6, .aload_n 0, 1, 0, 0, []), (7, .aload_n 1, 1, 0, 0, []), (8, .iload_n 2, 1, 0, 0, []), (9, .invokespecial 17, 3, 164, 2, [(1, 104), (2, 104)]), (12, .bipush 9, 2, 0, 0, []), (14, .iadd, 1, 0, 0, []), (15, .ireturn, 1, 0, 0, [])]
/-- ShadowSchool$Host.<init>()V -/
def jc_13 : List jw_I := [(0, .aload_n 0, 1, 0, 0, []), (1, .invokespecial 3, 3, 7, 0, []), (4, .aload_n 0, 1, 0, 0, []), (5, .iconst 4, 1, 0, 0, []), (6, .newarray .int, 2, 0, 0, []), (8, .dup, 1, 0, 0, []), (9, .iconst 0, 1, 0, 0, []), (10, .iconst (-1), 1, 0, 0, []), (11, .iastore, 1, 0, 0, []), (12, .dup, 1, 0, 0, []), (13, .iconst 1, 1, 0, 0, []), (14, .iconst (-1), 1, 0, 0, []), (15, .iastore, 1, 0, 0, []), (16, .dup, 1, 0, 0, []), (17, .iconst 2, 1, 0, 0, []), (18, .iconst (-1), 1, 0, 0, []), (19, .iastore, 1, 0, 0, []), (20, .dup, 1, 0, 0, []), (21, .iconst 3, 1, 0, 0, []), (22, .iconst (-1), 1, 0, 0, []), (23, .iastore, 1, 0, 0, []), (24, .putfield 11, 3, 3, 0, [(0, 3)]), (27, .aload_n 0, 1, 0, 0, []), (28, .iconst 4, 1, 0, 0, []), (29, .newarray .int, 2, 0, 0, []), (31, .putfield 15, 3, 3, 1, [(0, 3)]), (34, .aload_n 0, 1, 0, 0, []), (35, .iconst 4, 1, 0, 0, []), (36, .bipush 40, 2, 0, 0, []), (38, .multianewarray 18 2, 4, 4, 0, []), (42, .putfield 20, 3, 3, 2, [(0, 3)]), (45, .aload_n 0, 1, 0, 0, []), (46, .iconst 4, 1, 0, 0, []), (47, .newarray .int, 2, 0, 0, []), (49, .dup, 1, 0, 0, []), (50, .iconst 0, 1, 0, 0, []), (51, .iconst 2, 1, 0, 0, []), (52, .iastore, 1, 0, 0, []), (53, .dup, 1, 0, 0, []), (54, .iconst 1, 1, 0, 0, []), (55, .iconst 2, 1, 0, 0, []), (56, .iastore, 1, 0, 0, []), (57, .dup, 1, 0, 0, []), (58, .iconst 2, 1, 0, 0, []), (59, .iconst 2, 1, 0, 0, []), (60, .iastore, 1, 0, 0, []), (61, .dup, 1, 0, 0, []), (62, .iconst 3, 1, 0, 0, []), (63, .iconst 2, 1, 0, 0, []), (64, .iastore, 1, 0, 0, []), (65, .putfield 23, 3, 3, 3, [(0, 3)]), (68, .aload_n 0, 1, 0, 0, []), (69, .iconst 4, 1, 0, 0, []), (70, .newarray .int, 2, 0, 0, []), (72, .putfield 26, 3, 3, 4, [(0, 3)]), (75, .aload_n 0, 1, 0, 0, []), (76, .iconst 4, 1, 0, 0, []), (77, .newarray .int, 2, 0, 0, []), (79, .putfield 29, 3, 3, 5, [(0, 3)]), (82, .aload_n 0, 1, 0, 0, []), (83, .bipush 30, 2, 0, 0, []), (85, .newarray .int, 2, 0, 0, []), (87, .putfield 32, 3, 3, 6, [(0, 3)]), (90, .return_, 1, 0, 0, [])]
/-- ShadowSchool$Host.isSheet(I)Z -/
def jc_14 : List jw_I := [(0, .iload_n 1, 1, 0, 0, []), (1, .ifCond .lt 12, 3, 13, 0, []), (4, .iload_n 1, 1, 0, 0, []), (5, .iconst 4, 1, 0, 0, []), (6, .if_icmp .ge 7, 3, 13, 0, []), (9, .iconst 1, 1, 0, 0, []), (10, .goto 4, 3, 14, 0, []), (13, .iconst 0, 1, 0, 0, []), (14, .ireturn, 1, 0, 0, [])]
/-- ShadowSchool$Host.isShelf(I)Z -/
def jc_15 : List jw_I := [(0, .iload_n 1, 1, 0, 0, []), (1, .ifCond .lt 12, 3, 13, 0, []), (4, .iload_n 1, 1, 0, 0, []), (5, .iconst 4, 1, 0, 0, []), (6, .if_icmp .ge 7, 3, 13, 0, []), (9, .iconst 1, 1, 0, 0, []), (10, .goto 4, 3, 14, 0, []), (13, .iconst 0, 1, 0, 0, []), (14, .ireturn, 1, 0, 0, [])]
/-- ShadowSchool$Host.hasItem(II)Z -/
def jc_16 : List jw_I := [(0, .iload_n 2, 1, 0, 0, []), (1, .ifCond .lt 17, 3, 18, 0, []), (4, .iload_n 2, 1, 0, 0, []), (5, .aload_n 0, 1, 0, 0, []), (6, .getfield 15, 3, 3, 1, []), (9, .iload_n 1, 1, 0, 0, []), (10, .iaload, 1, 0, 0, []), (11, .if_icmp .ge 7, 3, 18, 0, []), (14, .iconst 1, 1, 0, 0, []), (15, .goto 4, 3, 19, 0, []), (18, .iconst 0, 1, 0, 0, []), (19, .ireturn, 1, 0, 0, [])]
/-- ShadowSchool$Host.hasItems(III)Z -/
def jc_17 : List jw_I := [(0, .iload_n 2, 1, 0, 0, []), (1, .ifCond .lt 19, 3, 20, 0, []), (4, .iload_n 2, 1, 0, 0, []), (5, .aload_n 0, 1, 0, 0, []), (6, .getfield 15, 3, 3, 1, []), (9, .iload_n 1, 1, 0, 0, []), (10, .iaload, 1, 0, 0, []), (11, .iload_n 3, 1, 0, 0, []), (12, .isub, 1, 0, 0, []), (13, .if_icmp .gt 7, 3, 20, 0, []), (16, .iconst 1, 1, 0, 0, []), (17, .goto 4, 3, 21, 0, []), (20, .iconst 0, 1, 0, 0, []), (21, .ireturn, 1, 0, 0, [])]
/-- ShadowSchool$Host.refusalAs(II)I -/
def jc_18 : List jw_I := [(0, .aload_n 0, 1, 0, 0, []), (1, .getfield 11, 3, 3, 0, []), (4, .iload_n 1, 1, 0, 0, []), (5, .iaload, 1, 0, 0, []), (6, .iconst (-1), 1, 0, 0, []), (7, .if_icmp .ne 6, 3, 13, 0, []), (10, .bipush (-11), 2, 0, 0, []), (12, .ireturn, 1, 0, 0, []), (13, .aload_n 0, 1, 0, 0, []), (14, .getfield 11, 3, 3, 0, []), (17, .iload_n 1, 1, 0, 0, []), (18, .iaload, 1, 0, 0, []), (19, .iload_n 2, 1, 0, 0, []), (20, .if_icmp .ne 7, 3, 27, 0, []), (23, .iconst 0, 1, 0, 0, []), (24, .goto 5, 3, 29, 0, []), (27, .bipush (-13), 2, 0, 0, []), (29, .ireturn, 1, 0, 0, [])]
/-- ShadowSchool$Host.makeRow(III)V -/
def jc_19 : List jw_I := [(0, .aload_n 0, 1, 0, 0, []), (1, .getfield 11, 3, 3, 0, []), (4, .iload_n 1, 1, 0, 0, []), (5, .iload_n 2, 1, 0, 0, []), (6, .iastore, 1, 0, 0, []), (7, .aload_n 0, 1, 0, 0, []), (8, .getfield 15, 3, 3, 1, []), (11, .iload_n 1, 1, 0, 0, []), (12, .iload_n 2, 1, 0, 0, []), (13, .iconst (-1), 1, 0, 0, []), (14, .if_icmp .ne 7, 3, 21, 0, []), (17, .iconst 0, 1, 0, 0, []), (18, .goto 4, 3, 22, 0, []), (21, .iload_n 3, 1, 0, 0, []), (22, .iastore, 1, 0, 0, []), (23, .aload_n 0, 1, 0, 0, []), (24, .getfield 20, 3, 3, 2, []), (27, .iload_n 1, 1, 0, 0, []), (28, .aaload, 1, 0, 0, []), (29, .iconst 0, 1, 0, 0, []), (30, .invokestatic 35, 3, 2, 2, [(0, 326)]), (33, .return_, 1, 0, 0, [])]
/-- ShadowSchool$Host.itemAt(II)I -/
def jc_20 : List jw_I := [(0, .aload_n 0, 1, 0, 0, []), (1, .getfield 20, 3, 3, 2, []), (4, .iload_n 1, 1, 0, 0, []), (5, .aaload, 1, 0, 0, []), (6, .iload_n 2, 1, 0, 0, []), (7, .iaload, 1, 0, 0, []), (8, .ireturn, 1, 0, 0, [])]
/-- ShadowSchool$Host.putItem(III)V -/
def jc_21 : List jw_I := [(0, .aload_n 0, 1, 0, 0, []), (1, .getfield 11, 3, 3, 0, []), (4, .iload_n 1, 1, 0, 0, []), (5, .iaload, 1, 0, 0, []), (6, .tableswitch 80 0 4 #[34, 47, 80, 80, 60], 34, 86, 0, [(0, 40), (1, 53), (2, 86), (3, 86), (4, 66)]), (40, .aload_n 0, 1, 0, 0, []), (41, .getfield 20, 3, 3, 2, []), (44, .iload_n 1, 1, 0, 0, []), (45, .aaload, 1, 0, 0, []), (46, .iload_n 2, 1, 0, 0, []), (47, .iload_n 3, 1, 0, 0, []), (48, .i2b, 1, 0, 0, []), (49, .iastore, 1, 0, 0, []), (50, .goto 45, 3, 95, 0, []), (53, .aload_n 0, 1, 0, 0, []), (54, .getfield 20, 3, 3, 2, []), (57, .iload_n 1, 1, 0, 0, []), (58, .aaload, 1, 0, 0, []), (59, .iload_n 2, 1, 0, 0, []), (60, .iload_n 3, 1, 0, 0, []), (61, .i2s, 1, 0, 0, []), (62, .iastore, 1, 0, 0, []), (63, .goto 32, 3, 95, 0, []), (66, .aload_n 0, 1, 0, 0, []), (67, .getfield 20, 3, 3, 2, []), (70, .iload_n 1, 1, 0, 0, []), (71, .aaload, 1, 0, 0, []), (72, .iload_n 2, 1, 0, 0, []), (73, .iload_n 3, 1, 0, 0, []), (74, .ifCond .eq 7, 3, 81, 0, []), (77, .iconst 1, 1, 0, 0, []), (78, .goto 4, 3, 82, 0, []), (81, .iconst 0, 1, 0, 0, []), (82, .iastore, 1, 0, 0, []), (83, .goto 12, 3, 95, 0, []), (86, .aload_n 0, 1, 0, 0, []), (87, .getfield 20, 3, 3, 2, []), (90, .iload_n 1, 1, 0, 0, []), (91, .aaload, 1, 0, 0, []), (92, .iload_n 2, 1, 0, 0, []), (93, .iload_n 3, 1, 0, 0, []), (94, .iastore, 1, 0, 0, []), (95, .return_, 1, 0, 0, [])]
/-- ShadowSchool$Host.put(III)V -/
def jc_22 : List jw_I := [(0, .aload_n 0, 1, 0, 0, []), (1, .getfield 23, 3, 3, 3, []), (4, .iload_n 1, 1, 0, 0, []), (5, .iload_n 2, 1, 0, 0, []), (6, .iastore, 1, 0, 0, []), (7, .aload_n 0, 1, 0, 0, []), (8, .getfield 26, 3, 3, 4, []), (11, .iload_n 1, 1, 0, 0, []), (12, .iload_n 3, 1, 0, 0, []), (13, .iastore, 1, 0, 0, []), (14, .iload_n 2, 1, 0, 0, []), (15, .iconst 1, 1, 0, 0, []), (16, .if_icmp .ne 48, 3, 64, 0, []), (19, .aload_n 0, 1, 0, 0, []), (20, .getfield 23, 3, 3, 3, []), (23, .iload_n 1, 1, 0, 0, []), (24, .aload_n 0, 1, 0, 0, []), (25, .getfield 11, 3, 3, 0, []), (28, .iload_n 3, 1, 0, 0, []), (29, .iaload, 1, 0, 0, []), (30, .iconst (-1), 1, 0, 0, []), (31, .if_icmp .ne 7, 3, 38, 0, []), (34, .iconst 2, 1, 0, 0, []), (35, .goto 4, 3, 39, 0, []), (38, .iconst 1, 1, 0, 0, []), (39, .iastore, 1, 0, 0, []), (40, .aload_n 0, 1, 0, 0, []), (41, .getfield 26, 3, 3, 4, []), (44, .iload_n 1, 1, 0, 0, []), (45, .aload_n 0, 1, 0, 0, []), (46, .getfield 15, 3, 3, 1, []), (49, .iload_n 3, 1, 0, 0, []), (50, .iaload, 1, 0, 0, []), (51, .iastore, 1, 0, 0, []), (52, .aload_n 0, 1, 0, 0, []), (53, .getfield 29, 3, 3, 5, []), (56, .iload_n 1, 1, 0, 0, []), (57, .aload_n 0, 1, 0, 0, []), (58, .getfield 11, 3, 3, 0, []), (61, .iload_n 3, 1, 0, 0, []), (62, .iaload, 1, 0, 0, []), (63, .iastore, 1, 0, 0, []), (64, .return_, 1, 0, 0, [])]
/-- ShadowSchool$Host.shadowOn(I)I -/
def jc_23 : List jw_I := [(0, .aload_n 0, 1, 0, 0, []), (1, .getfield 23, 3, 3, 3, []), (4, .iload_n 1, 1, 0, 0, []), (5, .iaload, 1, 0, 0, []), (6, .ifCond .ne 12, 3, 18, 0, []), (9, .aload_n 0, 1, 0, 0, []), (10, .getfield 26, 3, 3, 4, []), (13, .iload_n 1, 1, 0, 0, []), (14, .iaload, 1, 0, 0, []), (15, .goto 4, 3, 19, 0, []), (18, .iconst (-1), 1, 0, 0, []), (19, .ireturn, 1, 0, 0, [])]
/-- ShadowSchool$Host.clearTrace()V -/
def jc_24 : List jw_I := [(0, .aload_n 0, 1, 0, 0, []), (1, .iconst 0, 1, 0, 0, []), (2, .putfield 41, 3, 3, 7, [(0, 0)]), (5, .aload_n 0, 1, 0, 0, []), (6, .iconst 0, 1, 0, 0, []), (7, .putfield 45, 3, 3, 8, [(0, 2)]), (10, .return_, 1, 0, 0, [])]
/-- ShadowSchool$Host.perform(LShadowSchool$Shade;IIII)I -/
def jc_25 : List jw_I := [(0, .aload_n 0, 1, 0, 0, []), (1, .iload_n 2, 1, 0, 0, []), (2, .putfield 49, 3, 3, 9, [(0, 0)]), (5, .aload_n 0, 1, 0, 0, []), (6, .iload_n 3, 1, 0, 0, []), (7, .putfield 52, 3, 3, 10, [(0, 0)]), (10, .aload_n 0, 1, 0, 0, []), (11, .aload_n 1, 1, 0, 0, []), (12, .iload 4, 2, 0, 0, []), (14, .iload 5, 2, 0, 0, []), (16, .invokevirtual 55, 3, 0, 3, [(3, 26)]), (19, .istore 6, 2, 0, 0, []), (21, .aload_n 0, 1, 0, 0, []), (22, .getfield 45, 3, 3, 8, []), (25, .ifCond .eq 8, 3, 33, 0, []), (28, .bipush (-15), 2, 0, 0, []), (30, .goto 5, 3, 35, 0, []), (33, .iload 6, 2, 0, 0, []), (35, .ireturn, 1, 0, 0, [])]
/-- ShadowSchool$Host.actOf(LShadowSchool$Shade;II)I -/
def jc_26 : List jw_I := [(0, .iload_n 2, 1, 0, 0, []), (1, .tableswitch 48 0 2 #[27, 34, 41], 27, 49, 0, [(0, 28), (1, 35), (2, 42)]), (28, .aload_n 1, 1, 0, 0, []), (29, .aload_n 0, 1, 0, 0, []), (30, .iload_n 3, 1, 0, 0, []), (31, .invokevirtual 59, 3, 424609, 2, [(0, 103), (1, 8), (2, 103), (4, 31), (10, 103), (11, 103)]), (34, .ireturn, 1, 0, 0, []), (35, .aload_n 1, 1, 0, 0, []), (36, .aload_n 0, 1, 0, 0, []), (37, .iload_n 3, 1, 0, 0, []), (38, .invokevirtual 65, 3, 428705, 2, [(0, 3), (1, 12), (2, 12), (4, 104), (10, 104), (11, 104)]), (41, .ireturn, 1, 0, 0, []), (42, .aload_n 1, 1, 0, 0, []), (43, .aload_n 0, 1, 0, 0, []), (44, .iload_n 3, 1, 0, 0, []), (45, .invokevirtual 68, 3, 432801, 2, [(0, 4), (1, 105), (2, 105), (4, 105), (10, 105), (11, 110)]), (48, .ireturn, 1, 0, 0, []), (49, .aload_n 1, 1, 0, 0, []), (50, .aload_n 0, 1, 0, 0, []), (51, .iload_n 3, 1, 0, 0, []), (52, .invokevirtual 71, 3, 436897, 2, [(0, 106), (1, 9), (2, 106), (4, 106), (10, 106), (11, 106)]), (55, .ireturn, 1, 0, 0, [])]
/-- ShadowSchool$Host.begins(I)V -/
def jc_27 : List jw_I := [(0, .aload_n 0, 1, 0, 0, []), (1, .getfield 45, 3, 3, 8, []), (4, .ifCond .ne 32, 3, 36, 0, []), (7, .aload_n 0, 1, 0, 0, []), (8, .getfield 41, 3, 3, 7, []), (11, .bipush 30, 2, 0, 0, []), (13, .if_icmp .ge 23, 3, 36, 0, []), (16, .aload_n 0, 1, 0, 0, []), (17, .getfield 32, 3, 3, 6, []), (20, .aload_n 0, 1, 0, 0, []), (21, .getfield 41, 3, 3, 7, []), (24, .iload_n 1, 1, 0, 0, []), (25, .iastore, 1, 0, 0, []), (26, .aload_n 0, 1, 0, 0, []), (27, .dup, 1, 0, 0, []), (28, .getfield 41, 3, 3, 7, []), (31, .iconst 1, 1, 0, 0, []), (32, .iadd, 1, 0, 0, []), (33, .putfield 41, 3, 3, 7, [(0, 0)]), (36, .return_, 1, 0, 0, [])]
/-- ShadowSchool$Host.part(II)I -/
def jc_28 : List jw_I := [(0, .iload_n 2, 1, 0, 0, []), (1, .ifCond .ne 10, 3, 11, 0, []), (4, .aload_n 0, 1, 0, 0, []), (5, .iconst 1, 1, 0, 0, []), (6, .putfield 45, 3, 3, 8, [(0, 2)]), (9, .iconst 0, 1, 0, 0, []), (10, .ireturn, 1, 0, 0, []), (11, .iload_n 1, 1, 0, 0, []), (12, .iload_n 2, 1, 0, 0, []), (13, .idiv, 1, 0, 0, []), (14, .ireturn, 1, 0, 0, [])]
/-- ShadowSchool$Joined.<init>()V -/
def jc_29 : List jw_I := [(0, .aload_n 0, 1, 0, 0, []), (1, .invokespecial 1, 3, 5, 0, [(0, 100), (1, 100), (2, 100), (4, 100), (10, 100), (11, 100)]), (4, .return_, 1, 0, 0, [])]
/-- ShadowSchool$Joined.paceIn(II)I -/
def jc_30 : List jw_I := [(0, .iload_n 1, 1, 0, 0, []), (1, .iconst 4, 1, 0, 0, []), (2, .irem, 1, 0, 0, []), (3, .iconst 3, 1, 0, 0, []), (4, .if_icmp .ne 7, 3, 11, 0, []), (7, .iconst 0, 1, 0, 0, []), (8, .goto 9, 3, 17, 0, []), (11, .aload_n 0, 1, 0, 0, []), (12, .iload_n 1, 1, 0, 0, []), (13, .iload_n 2, 1, 0, 0, []), (14, .invokespecial 7, 3, 164, 2, [(4, 101)]), (17, .ireturn, 1, 0, 0, [])]
/-- ShadowSchool$Joined.lies(LShadowSchool$Host;I)I -/
def jc_31 : List jw_I := [(0, .aload_n 1, 1, 0, 0, []), (1, .bipush 20, 2, 0, 0, []), (3, .invokevirtual 11, 3, 0, 1, [(3, 27)]), (6, .aload_n 0, 1, 0, 0, []), (7, .aload_n 1, 1, 0, 0, []), (8, .iload_n 2, 1, 0, 0, []), (9, .invokespecial 17, 3, 164, 2, [(4, 103)]), (12, .aload_n 1, 1, 0, 0, []), (13, .getfield 21, 3, 3, 10, []), (16, .ixor, 1, 0, 0, []), (17, .ireturn, 1, 0, 0, [])]
/-- ShadowSchool$Plans.<init>()V -/
def jc_32 : List jw_I := [(0, .aload_n 0, 1, 0, 0, []), (1, .invokespecial 3, 3, 7, 0, []), (4, .aload_n 0, 1, 0, 0, []), (5, .iconst 5, 1, 0, 0, []), (6, .anewarray 9, 3, 2, 0, []), (9, .dup, 1, 0, 0, []), (10, .iconst 0, 1, 0, 0, []), (11, .new 9, 3, 6, 0, []), (14, .dup, 1, 0, 0, []), (15, .invokespecial 11, 3, 5, 0, [(6, 41)]), (18, .aastore, 1, 0, 0, []), (19, .dup, 1, 0, 0, []), (20, .iconst 1, 1, 0, 0, []), (21, .new 9, 3, 6, 0, []), (24, .dup, 1, 0, 0, []), (25, .invokespecial 11, 3, 5, 0, [(6, 41)]), (28, .aastore, 1, 0, 0, []), (29, .dup, 1, 0, 0, []), (30, .iconst 2, 1, 0, 0, []), (31, .new 9, 3, 6, 0, []), (34, .dup, 1, 0, 0, []), (35, .invokespecial 11, 3, 5, 0, [(6, 41)]), (38, .aastore, 1, 0, 0, []), (39, .dup, 1, 0, 0, []), (40, .iconst 3, 1, 0, 0, []), (41, .new 9, 3, 6, 0, []), (44, .dup, 1, 0, 0, []), (45, .invokespecial 11, 3, 5, 0, [(6, 41)]), (48, .aastore, 1, 0, 0, []), (49, .dup, 1, 0, 0, []), (50, .iconst 4, 1, 0, 0, []), (51, .new 9, 3, 6, 0, []), (54, .dup, 1, 0, 0, []), (55, .invokespecial 11, 3, 5, 0, [(6, 41)]), (58, .aastore, 1, 0, 0, []), (59, .putfield 12, 3, 5, 0, [(0, 3)]), (62, .aload_n 0, 1, 0, 0, []), (63, .iconst 4, 1, 0, 0, []), (64, .newarray .int, 2, 0, 0, []), (66, .putfield 18, 3, 5, 1, [(0, 3)]), (69, .aload_n 0, 1, 0, 0, []), (70, .iconst 4, 1, 0, 0, []), (71, .newarray .int, 2, 0, 0, []), (73, .putfield 22, 3, 5, 5, [(0, 3)]), (76, .aload_n 0, 1, 0, 0, []), (77, .iconst 4, 1, 0, 0, []), (78, .iconst 3, 1, 0, 0, []), (79, .multianewarray 25 2, 4, 4, 0, []), (83, .putfield 27, 3, 5, 11, [(0, 3)]), (86, .return_, 1, 0, 0, [])]
/-- ShadowSchool$Plans.walkAll(LShadowSchool$School;II)V -/
def jc_33 : List jw_I := [(0, .aload_n 0, 1, 0, 0, []), (1, .getfield 12, 3, 5, 0, []), (4, .iconst 0, 1, 0, 0, []), (5, .aaload, 1, 0, 0, []), (6, .aload_n 1, 1, 0, 0, []), (7, .getfield 30, 3, 9, 17, []), (10, .invokevirtual 36, 3, 0, 1, [(6, 42)]), (13, .aload_n 0, 1, 0, 0, []), (14, .iload_n 2, 1, 0, 0, []), (15, .aload_n 1, 1, 0, 0, []), (16, .getfield 40, 3, 9, 14, []), (19, .aload_n 1, 1, 0, 0, []), (20, .getfield 30, 3, 9, 17, []), (23, .getfield 44, 3, 6, 0, []), (26, .isub, 1, 0, 0, []), (27, .invokestatic 47, 3, 2, 2, [(0, 325)]), (30, .putfield 53, 3, 5, 2, [(0, 0)]), (33, .aload_n 0, 1, 0, 0, []), (34, .iconst (-1), 1, 0, 0, []), (35, .putfield 56, 3, 5, 3, [(0, 0)]), (38, .aload_n 0, 1, 0, 0, []), (39, .iconst 0, 1, 0, 0, []), (40, .putfield 59, 3, 5, 4, [(0, 0)]), (43, .aload_n 0, 1, 0, 0, []), (44, .iload_n 3, 1, 0, 0, []), (45, .putfield 62, 3, 5, 6, [(0, 0)]), (48, .aload_n 0, 1, 0, 0, []), (49, .iconst 5, 1, 0, 0, []), (50, .putfield 65, 3, 5, 7, [(0, 0)]), (53, .aload_n 0, 1, 0, 0, []), (54, .iconst 0, 1, 0, 0, []), (55, .putfield 68, 3, 5, 8, [(0, 0)]), (58, .aload_n 0, 1, 0, 0, []), (59, .aload_n 1, 1, 0, 0, []), (60, .iconst 0, 1, 0, 0, []), (61, .iconst 0, 1, 0, 0, []), (62, .iconst 0, 1, 0, 0, []), (63, .invokevirtual 71, 3, 0, 4, [(5, 34)]), (66, .return_, 1, 0, 0, [])]
/-- ShadowSchool$Plans.walk(LShadowSchool$School;III)V -/
def jc_34 : List jw_I := [(0, .iload_n 2, 1, 0, 0, []), (1, .aload_n 0, 1, 0, 0, []), (2, .getfield 53, 3, 5, 2, []), (5, .if_icmp .ge 8, 3, 13, 0, []), (8, .iload_n 2, 1, 0, 0, []), (9, .iconst 4, 1, 0, 0, []), (10, .if_icmp .lt 20, 3, 30, 0, []), (13, .aload_n 0, 1, 0, 0, []), (14, .iload_n 3, 1, 0, 0, []), (15, .iload 4, 2, 0, 0, []), (17, .aload_n 0, 1, 0, 0, []), (18, .getfield 12, 3, 5, 0, []), (21, .iload_n 2, 1, 0, 0, []), (22, .aaload, 1, 0, 0, []), (23, .invokevirtual 75, 3, 0, 0, [(6, 46)]), (26, .invokevirtual 79, 3, 0, 3, [(5, 35)]), (29, .return_, 1, 0, 0, []), (30, .aload_n 0, 1, 0, 0, []), (31, .getfield 12, 3, 5, 0, []), (34, .iload_n 2, 1, 0, 0, []), (35, .iconst 1, 1, 0, 0, []), (36, .iadd, 1, 0, 0, []), (37, .aaload, 1, 0, 0, []), (38, .astore 5, 2, 0, 0, []), (40, .iconst 0, 1, 0, 0, []), (41, .istore 6, 2, 0, 0, []), (43, .iload 6, 2, 0, 0, []), (45, .aload_n 1, 1, 0, 0, []), (46, .getfield 83, 3, 9, 0, []), (49, .if_icmp .gt 64, 3, 113, 0, []), (52, .aload_n 0, 1, 0, 0, []), (53, .getfield 18, 3, 5, 1, []), (56, .iload_n 2, 1, 0, 0, []), (57, .iload 6, 2, 0, 0, []), (59, .iastore, 1, 0, 0, []), (60, .aload 5, 2, 0, 0, []), (62, .aload_n 0, 1, 0, 0, []), (63, .getfield 12, 3, 5, 0, []), (66, .iload_n 2, 1, 0, 0, []), (67, .aaload, 1, 0, 0, []), (68, .invokevirtual 36, 3, 0, 1, [(6, 42)]), (71, .aload_n 1, 1, 0, 0, []), (72, .aload 5, 2, 0, 0, []), (74, .iload 6, 2, 0, 0, []), (76, .invokevirtual 86, 3, 0, 2, [(9, 91)]), (79, .istore 7, 2, 0, 0, []), (81, .aload_n 0, 1, 0, 0, []), (82, .aload_n 1, 1, 0, 0, []), (83, .iload_n 2, 1, 0, 0, []), (84, .iconst 1, 1, 0, 0, []), (85, .iadd, 1, 0, 0, []), (86, .iload_n 3, 1, 0, 0, []), (87, .iload 7, 2, 0, 0, []), (89, .iadd, 1, 0, 0, []), (90, .iload 6, 2, 0, 0, []), (92, .ifCond .ne 8, 3, 100, 0, []), (95, .iload 4, 2, 0, 0, []), (97, .goto 7, 3, 104, 0, []), (100, .iload 4, 2, 0, 0, []), (102, .iconst 1, 1, 0, 0, []), (103, .iadd, 1, 0, 0, []), (104, .invokevirtual 71, 3, 0, 4, [(5, 34)]), (107, .iinc 6 1, 3, 0, 0, []), (110, .goto (-67), 3, 43, 0, []), (113, .return_, 1, 0, 0, [])]
/-- ShadowSchool$Plans.weigh(III)V -/
def jc_35 : List jw_I := [(0, .iload_n 1, 1, 0, 0, []), (1, .aload_n 0, 1, 0, 0, []), (2, .getfield 56, 3, 5, 3, []), (5, .if_icmp .le 24, 3, 29, 0, []), (8, .aload_n 0, 1, 0, 0, []), (9, .iload_n 1, 1, 0, 0, []), (10, .putfield 56, 3, 5, 3, [(0, 0)]), (13, .aload_n 0, 1, 0, 0, []), (14, .iconst 0, 1, 0, 0, []), (15, .putfield 59, 3, 5, 4, [(0, 0)]), (18, .aload_n 0, 1, 0, 0, []), (19, .getfield 18, 3, 5, 1, []), (22, .aload_n 0, 1, 0, 0, []), (23, .getfield 22, 3, 5, 5, []), (26, .invokestatic 90, 3, 3, 2, [(0, 178)]), (29, .iload_n 1, 1, 0, 0, []), (30, .aload_n 0, 1, 0, 0, []), (31, .getfield 56, 3, 5, 3, []), (34, .if_icmp .ne 13, 3, 47, 0, []), (37, .aload_n 0, 1, 0, 0, []), (38, .dup, 1, 0, 0, []), (39, .getfield 59, 3, 5, 4, []), (42, .iconst 1, 1, 0, 0, []), (43, .iadd, 1, 0, 0, []), (44, .putfield 59, 3, 5, 4, [(0, 0)]), (47, .aload_n 0, 1, 0, 0, []), (48, .getfield 62, 3, 5, 6, []), (51, .iload_n 3, 1, 0, 0, []), (52, .iconst (-1), 1, 0, 0, []), (53, .ixor, 1, 0, 0, []), (54, .iand, 1, 0, 0, []), (55, .ifCond .ne 15, 3, 70, 0, []), (58, .aload_n 0, 1, 0, 0, []), (59, .aload_n 0, 1, 0, 0, []), (60, .getfield 65, 3, 5, 7, []), (63, .iload_n 2, 1, 0, 0, []), (64, .invokestatic 47, 3, 2, 2, [(0, 325)]), (67, .putfield 65, 3, 5, 7, [(0, 0)]), (70, .aload_n 0, 1, 0, 0, []), (71, .dup, 1, 0, 0, []), (72, .getfield 68, 3, 5, 8, []), (75, .iload_n 3, 1, 0, 0, []), (76, .ior, 1, 0, 0, []), (77, .putfield 68, 3, 5, 8, [(0, 0)]), (80, .return_, 1, 0, 0, [])]
/-- ShadowSchool$Plans.valueOfGame(LShadowSchool$School;I)I -/
def jc_36 : List jw_I := [(0, .aload_n 0, 1, 0, 0, []), (1, .getfield 12, 3, 5, 0, []), (4, .iconst 0, 1, 0, 0, []), (5, .aaload, 1, 0, 0, []), (6, .aload_n 1, 1, 0, 0, []), (7, .getfield 30, 3, 9, 17, []), (10, .invokevirtual 36, 3, 0, 1, [(6, 42)]), (13, .aload_n 0, 1, 0, 0, []), (14, .iconst 0, 1, 0, 0, []), (15, .putfield 94, 3, 5, 9, [(0, 0)]), (18, .aload_n 0, 1, 0, 0, []), (19, .aload_n 1, 1, 0, 0, []), (20, .iconst 0, 1, 0, 0, []), (21, .iload_n 2, 1, 0, 0, []), (22, .invokevirtual 97, 3, 0, 3, [(5, 37)]), (25, .ireturn, 1, 0, 0, [])]
/-- ShadowSchool$Plans.valueFrom(LShadowSchool$School;II)I -/
def jc_37 : List jw_I := [(0, .iload_n 2, 1, 0, 0, []), (1, .iload_n 3, 1, 0, 0, []), (2, .if_icmp .ge 21, 3, 23, 0, []), (5, .iload_n 2, 1, 0, 0, []), (6, .iconst 4, 1, 0, 0, []), (7, .if_icmp .ge 16, 3, 23, 0, []), (10, .aload_n 1, 1, 0, 0, []), (11, .aload_n 0, 1, 0, 0, []), (12, .getfield 12, 3, 5, 0, []), (15, .iload_n 2, 1, 0, 0, []), (16, .aaload, 1, 0, 0, []), (17, .invokevirtual 101, 3, 0, 1, [(9, 83)]), (20, .ifCond .eq 5, 3, 25, 0, []), (23, .iconst 0, 1, 0, 0, []), (24, .ireturn, 1, 0, 0, []), (25, .iload_n 2, 1, 0, 0, []), (26, .iconst 2, 1, 0, 0, []), (27, .irem, 1, 0, 0, []), (28, .ifCond .ne 7, 3, 35, 0, []), (31, .iconst 1, 1, 0, 0, []), (32, .goto 4, 3, 36, 0, []), (35, .iconst 0, 1, 0, 0, []), (36, .istore 4, 2, 0, 0, []), (38, .aload_n 0, 1, 0, 0, []), (39, .getfield 12, 3, 5, 0, []), (42, .iload_n 2, 1, 0, 0, []), (43, .iconst 1, 1, 0, 0, []), (44, .iadd, 1, 0, 0, []), (45, .aaload, 1, 0, 0, []), (46, .astore 5, 2, 0, 0, []), (48, .iconst 0, 1, 0, 0, []), (49, .istore 6, 2, 0, 0, []), (51, .iconst 0, 1, 0, 0, []), (52, .istore 7, 2, 0, 0, []), (54, .iload 7, 2, 0, 0, []), (56, .aload_n 1, 1, 0, 0, []), (57, .getfield 83, 3, 9, 0, []), (60, .if_icmp .gt 85, 3, 145, 0, []), (63, .aload 5, 2, 0, 0, []), (65, .aload_n 0, 1, 0, 0, []), (66, .getfield 12, 3, 5, 0, []), (69, .iload_n 2, 1, 0, 0, []), (70, .aaload, 1, 0, 0, []), (71, .invokevirtual 36, 3, 0, 1, [(6, 42)]), (74, .aload_n 1, 1, 0, 0, []), (75, .aload 5, 2, 0, 0, []), (77, .iload 7, 2, 0, 0, []), (79, .invokevirtual 86, 3, 0, 2, [(9, 91)]), (82, .istore 8, 2, 0, 0, []), (84, .iload 8, 2, 0, 0, []), (86, .aload_n 0, 1, 0, 0, []), (87, .aload_n 1, 1, 0, 0, []), (88, .iload_n 2, 1, 0, 0, []), (89, .iconst 1, 1, 0, 0, []), (90, .iadd, 1, 0, 0, []), (91, .iload_n 3, 1, 0, 0, []), (92, .invokevirtual 97, 3, 0, 3, [(5, 37)]), (95, .iadd, 1, 0, 0, []), (96, .istore 9, 2, 0, 0, []), (98, .iload 7, 2, 0, 0, []), (100, .ifCond .eq 25, 3, 125, 0, []), (103, .iload 4, 2, 0, 0, []), (105, .ifCond .eq 13, 3, 118, 0, []), (108, .iload 9, 2, 0, 0, []), (110, .iload 6, 2, 0, 0, []), (112, .if_icmp .le 27, 3, 139, 0, []), (115, .goto 10, 3, 125, 0, []), (118, .iload 9, 2, 0, 0, []), (120, .iload 6, 2, 0, 0, []), (122, .if_icmp .ge 17, 3, 139, 0, []), (125, .iload 9, 2, 0, 0, []), (127, .istore 6, 2, 0, 0, []), (129, .iload_n 2, 1, 0, 0, []), (130, .ifCond .ne 9, 3, 139, 0, []), (133, .aload_n 0, 1, 0, 0, []), (134, .iload 7, 2, 0, 0, []), (136, .putfield 94, 3, 5, 9, [(0, 0)]), (139, .iinc 7 1, 3, 0, 0, []), (142, .goto (-88), 3, 54, 0, []), (145, .iload 6, 2, 0, 0, []), (147, .ireturn, 1, 0, 0, [])]
/-- ShadowSchool$Plans.makeRows(LShadowSchool$School;)I -/
def jc_38 : List jw_I := [(0, .aload_n 0, 1, 0, 0, []), (1, .getfield 12, 3, 5, 0, []), (4, .iconst 0, 1, 0, 0, []), (5, .aaload, 1, 0, 0, []), (6, .astore_n 2, 1, 0, 0, []), (7, .aload_n 0, 1, 0, 0, []), (8, .aload_n 0, 1, 0, 0, []), (9, .getfield 53, 3, 5, 2, []), (12, .putfield 105, 3, 5, 10, [(0, 0)]), (15, .iconst 0, 1, 0, 0, []), (16, .istore_n 3, 1, 0, 0, []), (17, .iload_n 3, 1, 0, 0, []), (18, .aload_n 0, 1, 0, 0, []), (19, .getfield 105, 3, 5, 10, []), (22, .if_icmp .ge 54, 3, 76, 0, []), (25, .aload_n 0, 1, 0, 0, []), (26, .getfield 27, 3, 5, 11, []), (29, .iload_n 3, 1, 0, 0, []), (30, .aaload, 1, 0, 0, []), (31, .iconst 0, 1, 0, 0, []), (32, .aload_n 0, 1, 0, 0, []), (33, .getfield 22, 3, 5, 5, []), (36, .iload_n 3, 1, 0, 0, []), (37, .iaload, 1, 0, 0, []), (38, .iastore, 1, 0, 0, []), (39, .aload_n 0, 1, 0, 0, []), (40, .getfield 27, 3, 5, 11, []), (43, .iload_n 3, 1, 0, 0, []), (44, .aaload, 1, 0, 0, []), (45, .iconst 1, 1, 0, 0, []), (46, .aload_n 1, 1, 0, 0, []), (47, .aload_n 2, 1, 0, 0, []), (48, .aload_n 0, 1, 0, 0, []), (49, .getfield 22, 3, 5, 5, []), (52, .iload_n 3, 1, 0, 0, []), (53, .iaload, 1, 0, 0, []), (54, .invokevirtual 86, 3, 0, 2, [(9, 91)]), (57, .iastore, 1, 0, 0, []), (58, .aload_n 0, 1, 0, 0, []), (59, .getfield 27, 3, 5, 11, []), (62, .iload_n 3, 1, 0, 0, []), (63, .aaload, 1, 0, 0, []), (64, .iconst 2, 1, 0, 0, []), (65, .aload_n 2, 1, 0, 0, []), (66, .invokevirtual 75, 3, 0, 0, [(6, 46)]), (69, .iastore, 1, 0, 0, []), (70, .iinc 3 1, 3, 0, 0, []), (73, .goto (-56), 3, 17, 0, []), (76, .aload_n 0, 1, 0, 0, []), (77, .getfield 105, 3, 5, 10, []), (80, .ireturn, 1, 0, 0, [])]
/-- ShadowSchool$Plans.hasRowPart(II)Z -/
def jc_39 : List jw_I := [(0, .iload_n 1, 1, 0, 0, []), (1, .ifCond .lt 24, 3, 25, 0, []), (4, .iload_n 1, 1, 0, 0, []), (5, .aload_n 0, 1, 0, 0, []), (6, .getfield 105, 3, 5, 10, []), (9, .if_icmp .ge 16, 3, 25, 0, []), (12, .iload_n 2, 1, 0, 0, []), (13, .ifCond .lt 12, 3, 25, 0, []), (16, .iload_n 2, 1, 0, 0, []), (17, .iconst 3, 1, 0, 0, []), (18, .if_icmp .ge 7, 3, 25, 0, []), (21, .iconst 1, 1, 0, 0, []), (22, .goto 4, 3, 26, 0, []), (25, .iconst 0, 1, 0, 0, []), (26, .ireturn, 1, 0, 0, [])]
/-- ShadowSchool$Plans.firstWrongRow(LShadowSchool$School;)I -/
def jc_40 : List jw_I := [(0, .aload_n 0, 1, 0, 0, []), (1, .getfield 12, 3, 5, 0, []), (4, .iconst 0, 1, 0, 0, []), (5, .aaload, 1, 0, 0, []), (6, .astore_n 2, 1, 0, 0, []), (7, .aload_n 2, 1, 0, 0, []), (8, .aload_n 1, 1, 0, 0, []), (9, .getfield 30, 3, 9, 17, []), (12, .invokevirtual 36, 3, 0, 1, [(6, 42)]), (15, .iconst 0, 1, 0, 0, []), (16, .istore_n 3, 1, 0, 0, []), (17, .iload_n 3, 1, 0, 0, []), (18, .aload_n 0, 1, 0, 0, []), (19, .getfield 105, 3, 5, 10, []), (22, .if_icmp .ge 67, 3, 89, 0, []), (25, .aload_n 0, 1, 0, 0, []), (26, .getfield 27, 3, 5, 11, []), (29, .iload_n 3, 1, 0, 0, []), (30, .aaload, 1, 0, 0, []), (31, .astore 4, 2, 0, 0, []), (33, .aload_n 1, 1, 0, 0, []), (34, .aload 4, 2, 0, 0, []), (36, .iconst 0, 1, 0, 0, []), (37, .iaload, 1, 0, 0, []), (38, .invokevirtual 108, 3, 0, 1, [(9, 80)]), (41, .ifCond .eq 38, 3, 79, 0, []), (44, .aload_n 1, 1, 0, 0, []), (45, .aload_n 2, 1, 0, 0, []), (46, .invokevirtual 101, 3, 0, 1, [(9, 83)]), (49, .ifCond .ne 30, 3, 79, 0, []), (52, .aload_n 1, 1, 0, 0, []), (53, .aload_n 2, 1, 0, 0, []), (54, .aload 4, 2, 0, 0, []), (56, .iconst 0, 1, 0, 0, []), (57, .iaload, 1, 0, 0, []), (58, .invokevirtual 86, 3, 0, 2, [(9, 91)]), (61, .aload 4, 2, 0, 0, []), (63, .iconst 1, 1, 0, 0, []), (64, .iaload, 1, 0, 0, []), (65, .if_icmp .ne 14, 3, 79, 0, []), (68, .aload_n 2, 1, 0, 0, []), (69, .invokevirtual 75, 3, 0, 0, [(6, 46)]), (72, .aload 4, 2, 0, 0, []), (74, .iconst 2, 1, 0, 0, []), (75, .iaload, 1, 0, 0, []), (76, .if_icmp .eq 7, 3, 83, 0, []), (79, .iload_n 3, 1, 0, 0, []), (80, .iconst 1, 1, 0, 0, []), (81, .iadd, 1, 0, 0, []), (82, .ireturn, 1, 0, 0, []), (83, .iinc 3 1, 3, 0, 0, []), (86, .goto (-69), 3, 17, 0, []), (89, .iconst 0, 1, 0, 0, []), (90, .ireturn, 1, 0, 0, [])]
/-- ShadowSchool$Progress.<init>()V -/
def jc_41 : List jw_I := [(0, .aload_n 0, 1, 0, 0, []), (1, .invokespecial 3, 3, 7, 0, []), (4, .aload_n 0, 1, 0, 0, []), (5, .bipush 48, 2, 0, 0, []), (7, .newarray .int, 2, 0, 0, []), (9, .putfield 9, 3, 6, 2, [(0, 3)]), (12, .aload_n 0, 1, 0, 0, []), (13, .bipush 6, 2, 0, 0, []), (15, .newarray .int, 2, 0, 0, []), (17, .putfield 15, 3, 6, 3, [(0, 3)]), (20, .aload_n 0, 1, 0, 0, []), (21, .bipush 8, 2, 0, 0, []), (23, .newarray .int, 2, 0, 0, []), (25, .putfield 18, 3, 6, 4, [(0, 3)]), (28, .return_, 1, 0, 0, [])]
/-- ShadowSchool$Progress.copyFrom(LShadowSchool$Progress;)V -/
def jc_42 : List jw_I := [(0, .aload_n 0, 1, 0, 0, []), (1, .aload_n 1, 1, 0, 0, []), (2, .getfield 21, 3, 6, 0, []), (5, .putfield 21, 3, 6, 0, [(0, 0)]), (8, .aload_n 0, 1, 0, 0, []), (9, .aload_n 1, 1, 0, 0, []), (10, .getfield 25, 3, 6, 1, []), (13, .putfield 25, 3, 6, 1, [(0, 0)]), (16, .aload_n 1, 1, 0, 0, []), (17, .getfield 9, 3, 6, 2, []), (20, .aload_n 0, 1, 0, 0, []), (21, .getfield 9, 3, 6, 2, []), (24, .invokestatic 28, 3, 3, 2, [(0, 178)]), (27, .aload_n 1, 1, 0, 0, []), (28, .getfield 15, 3, 6, 3, []), (31, .aload_n 0, 1, 0, 0, []), (32, .getfield 15, 3, 6, 3, []), (35, .invokestatic 28, 3, 3, 2, [(0, 178)]), (38, .return_, 1, 0, 0, [])]
/-- ShadowSchool$Progress.clear()V -/
def jc_43 : List jw_I := [(0, .aload_n 0, 1, 0, 0, []), (1, .iconst 0, 1, 0, 0, []), (2, .putfield 21, 3, 6, 0, [(0, 0)]), (5, .aload_n 0, 1, 0, 0, []), (6, .iconst 0, 1, 0, 0, []), (7, .putfield 25, 3, 6, 1, [(0, 0)]), (10, .aload_n 0, 1, 0, 0, []), (11, .getfield 9, 3, 6, 2, []), (14, .iconst 0, 1, 0, 0, []), (15, .invokestatic 32, 3, 2, 2, [(0, 326)]), (18, .aload_n 0, 1, 0, 0, []), (19, .getfield 15, 3, 6, 3, []), (22, .iconst 0, 1, 0, 0, []), (23, .invokestatic 32, 3, 2, 2, [(0, 326)]), (26, .return_, 1, 0, 0, [])]
/-- ShadowSchool$Progress.hasLearnt(II)Z -/
def jc_44 : List jw_I := [(0, .aload_n 0, 1, 0, 0, []), (1, .getfield 15, 3, 6, 3, []), (4, .iload_n 1, 1, 0, 0, []), (5, .iaload, 1, 0, 0, []), (6, .iload_n 2, 1, 0, 0, []), (7, .ishr, 1, 0, 0, []), (8, .iconst 1, 1, 0, 0, []), (9, .iand, 1, 0, 0, []), (10, .iconst 1, 1, 0, 0, []), (11, .if_icmp .ne 7, 3, 18, 0, []), (14, .iconst 1, 1, 0, 0, []), (15, .goto 4, 3, 19, 0, []), (18, .iconst 0, 1, 0, 0, []), (19, .ireturn, 1, 0, 0, [])]
/-- ShadowSchool$Progress.howManyLearnt(I)I -/
def jc_45 : List jw_I := [(0, .iconst 0, 1, 0, 0, []), (1, .istore_n 2, 1, 0, 0, []), (2, .iconst 0, 1, 0, 0, []), (3, .istore_n 3, 1, 0, 0, []), (4, .iload_n 3, 1, 0, 0, []), (5, .bipush 6, 2, 0, 0, []), (7, .if_icmp .ge 22, 3, 29, 0, []), (10, .iload_n 2, 1, 0, 0, []), (11, .aload_n 0, 1, 0, 0, []), (12, .getfield 15, 3, 6, 3, []), (15, .iload_n 3, 1, 0, 0, []), (16, .iaload, 1, 0, 0, []), (17, .iload_n 1, 1, 0, 0, []), (18, .ishr, 1, 0, 0, []), (19, .iconst 1, 1, 0, 0, []), (20, .iand, 1, 0, 0, []), (21, .iadd, 1, 0, 0, []), (22, .istore_n 2, 1, 0, 0, []), (23, .iinc 3 1, 3, 0, 0, []), (26, .goto (-22), 3, 4, 0, []), (29, .iload_n 2, 1, 0, 0, []), (30, .ireturn, 1, 0, 0, [])]
/-- ShadowSchool$Progress.learntBySome()I -/
def jc_46 : List jw_I := [(0, .iconst 0, 1, 0, 0, []), (1, .istore_n 1, 1, 0, 0, []), (2, .iconst 0, 1, 0, 0, []), (3, .istore_n 2, 1, 0, 0, []), (4, .iload_n 2, 1, 0, 0, []), (5, .bipush 6, 2, 0, 0, []), (7, .if_icmp .ge 18, 3, 25, 0, []), (10, .iload_n 1, 1, 0, 0, []), (11, .aload_n 0, 1, 0, 0, []), (12, .getfield 15, 3, 6, 3, []), (15, .iload_n 2, 1, 0, 0, []), (16, .iaload, 1, 0, 0, []), (17, .ior, 1, 0, 0, []), (18, .istore_n 1, 1, 0, 0, []), (19, .iinc 2 1, 3, 0, 0, []), (22, .goto (-18), 3, 4, 0, []), (25, .iload_n 1, 1, 0, 0, []), (26, .ireturn, 1, 0, 0, [])]
/-- ShadowSchool$Progress.gain(IIII)Z -/
def jc_47 : List jw_I := [(0, .iload_n 1, 1, 0, 0, []), (1, .bipush 8, 2, 0, 0, []), (3, .imul, 1, 0, 0, []), (4, .iload_n 2, 1, 0, 0, []), (5, .iadd, 1, 0, 0, []), (6, .istore 5, 2, 0, 0, []), (8, .aload_n 0, 1, 0, 0, []), (9, .getfield 9, 3, 6, 2, []), (12, .iload 5, 2, 0, 0, []), (14, .dup2, 1, 0, 0, []), (15, .iaload, 1, 0, 0, []), (16, .iload_n 3, 1, 0, 0, []), (17, .iadd, 1, 0, 0, []), (18, .iastore, 1, 0, 0, []), (19, .aload_n 0, 1, 0, 0, []), (20, .getfield 9, 3, 6, 2, []), (23, .iload 5, 2, 0, 0, []), (25, .iaload, 1, 0, 0, []), (26, .iload 4, 2, 0, 0, []), (28, .if_icmp .ge 5, 3, 33, 0, []), (31, .iconst 0, 1, 0, 0, []), (32, .ireturn, 1, 0, 0, []), (33, .aload_n 0, 1, 0, 0, []), (34, .getfield 15, 3, 6, 3, []), (37, .iload_n 1, 1, 0, 0, []), (38, .dup2, 1, 0, 0, []), (39, .iaload, 1, 0, 0, []), (40, .iconst 1, 1, 0, 0, []), (41, .iload_n 2, 1, 0, 0, []), (42, .ishl, 1, 0, 0, []), (43, .ior, 1, 0, 0, []), (44, .iastore, 1, 0, 0, []), (45, .iconst 1, 1, 0, 0, []), (46, .ireturn, 1, 0, 0, [])]
/-- ShadowSchool$Reader.<init>()V -/
def jc_48 : List jw_I := [(0, .aload_n 0, 1, 0, 0, []), (1, .invokespecial 3, 3, 7, 0, []), (4, .aload_n 0, 1, 0, 0, []), (5, .sipush 200, 3, 0, 0, []), (8, .newarray .int, 2, 0, 0, []), (10, .putfield 9, 3, 7, 1, [(0, 3)]), (13, .aload_n 0, 1, 0, 0, []), (14, .sipush 201, 3, 0, 0, []), (17, .newarray .int, 2, 0, 0, []), (19, .putfield 15, 3, 7, 2, [(0, 3)]), (22, .aload_n 0, 1, 0, 0, []), (23, .sipush 201, 3, 0, 0, []), (26, .newarray .int, 2, 0, 0, []), (28, .putfield 18, 3, 7, 3, [(0, 3)]), (31, .aload_n 0, 1, 0, 0, []), (32, .new 21, 3, 8, 0, []), (35, .dup, 1, 0, 0, []), (36, .invokespecial 23, 3, 5, 0, [(8, 67)]), (39, .putfield 24, 3, 7, 5, [(0, 3)]), (42, .return_, 1, 0, 0, [])]
/-- ShadowSchool$Reader.take(JI)I -/
def jc_49 : List jw_I := [(0, .iconst 0, 1, 0, 0, []), (1, .istore 4, 2, 0, 0, []), (3, .iload 4, 2, 0, 0, []), (5, .iload_n 3, 1, 0, 0, []), (6, .if_icmp .ge 50, 3, 56, 0, []), (9, .aload_n 0, 1, 0, 0, []), (10, .getfield 28, 3, 7, 0, []), (13, .sipush 200, 3, 0, 0, []), (16, .if_icmp .ge 40, 3, 56, 0, []), (19, .aload_n 0, 1, 0, 0, []), (20, .getfield 9, 3, 7, 1, []), (23, .aload_n 0, 1, 0, 0, []), (24, .getfield 28, 3, 7, 0, []), (27, .lload_n 1, 1, 0, 0, []), (28, .bipush 8, 2, 0, 0, []), (30, .iload 4, 2, 0, 0, []), (32, .imul, 1, 0, 0, []), (33, .lshr, 1, 0, 0, []), (34, .l2i, 1, 0, 0, []), (35, .sipush 255, 3, 0, 0, []), (38, .iand, 1, 0, 0, []), (39, .iastore, 1, 0, 0, []), (40, .aload_n 0, 1, 0, 0, []), (41, .dup, 1, 0, 0, []), (42, .getfield 28, 3, 7, 0, []), (45, .iconst 1, 1, 0, 0, []), (46, .iadd, 1, 0, 0, []), (47, .putfield 28, 3, 7, 0, [(0, 0)]), (50, .iinc 4 1, 3, 0, 0, []), (53, .goto (-50), 3, 3, 0, []), (56, .aload_n 0, 1, 0, 0, []), (57, .getfield 28, 3, 7, 0, []), (60, .ireturn, 1, 0, 0, [])]
/-- ShadowSchool$Reader.readAll()I -/
def jc_50 : List jw_I := [(0, .aload_n 0, 1, 0, 0, []), (1, .invokevirtual 32, 3, 0, 0, [(7, 51)]), (4, .aload_n 0, 1, 0, 0, []), (5, .iconst 0, 1, 0, 0, []), (6, .putfield 28, 3, 7, 0, [(0, 0)]), (9, .aload_n 0, 1, 0, 0, []), (10, .iconst 0, 1, 0, 0, []), (11, .putfield 35, 3, 7, 4, [(0, 0)]), (14, .aload_n 0, 1, 0, 0, []), (15, .getfield 24, 3, 7, 5, []), (18, .invokevirtual 38, 3, 0, 0, [(8, 69)]), (21, .iconst 0, 1, 0, 0, []), (22, .istore_n 1, 1, 0, 0, []), (23, .iload_n 1, 1, 0, 0, []), (24, .bipush 8, 2, 0, 0, []), (26, .if_icmp .ge 43, 3, 69, 0, []), (29, .aload_n 0, 1, 0, 0, []), (30, .getfield 15, 3, 7, 2, []), (33, .aload_n 0, 1, 0, 0, []), (34, .getfield 35, 3, 7, 4, []), (37, .iaload, 1, 0, 0, []), (38, .bipush (-2), 2, 0, 0, []), (40, .if_icmp .eq 29, 3, 69, 0, []), (43, .aload_n 0, 1, 0, 0, []), (44, .invokevirtual 41, 3, 0, 0, [(7, 58)]), (47, .ifCond .ne 16, 3, 63, 0, []), (50, .bipush (-100), 2, 0, 0, []), (52, .aload_n 0, 1, 0, 0, []), (53, .getfield 18, 3, 7, 3, []), (56, .aload_n 0, 1, 0, 0, []), (57, .getfield 35, 3, 7, 4, []), (60, .iaload, 1, 0, 0, []), (61, .isub, 1, 0, 0, []), (62, .ireturn, 1, 0, 0, []), (63, .iinc 1 1, 3, 0, 0, []), (66, .goto (-43), 3, 23, 0, []), (69, .aload_n 0, 1, 0, 0, []), (70, .getfield 15, 3, 7, 2, []), (73, .aload_n 0, 1, 0, 0, []), (74, .getfield 35, 3, 7, 4, []), (77, .iaload, 1, 0, 0, []), (78, .bipush (-2), 2, 0, 0, []), (80, .if_icmp .ne 13, 3, 93, 0, []), (83, .aload_n 0, 1, 0, 0, []), (84, .getfield 24, 3, 7, 5, []), (87, .getfield 45, 3, 8, 0, []), (90, .goto 15, 3, 105, 0, []), (93, .bipush (-100), 2, 0, 0, []), (95, .aload_n 0, 1, 0, 0, []), (96, .getfield 18, 3, 7, 3, []), (99, .aload_n 0, 1, 0, 0, []), (100, .getfield 35, 3, 7, 4, []), (103, .iaload, 1, 0, 0, []), (104, .isub, 1, 0, 0, []), (105, .ireturn, 1, 0, 0, [])]
/-- ShadowSchool$Reader.cutIntoTokens()V -/
def jc_51 : List jw_I := [(0, .iconst 0, 1, 0, 0, []), (1, .istore_n 1, 1, 0, 0, []), (2, .iconst 2, 1, 0, 0, []), (3, .istore_n 2, 1, 0, 0, []), (4, .iconst 0, 1, 0, 0, []), (5, .istore_n 3, 1, 0, 0, []), (6, .iload_n 3, 1, 0, 0, []), (7, .aload_n 0, 1, 0, 0, []), (8, .getfield 28, 3, 7, 0, []), (11, .if_icmp .ge 82, 3, 93, 0, []), (14, .aload_n 0, 1, 0, 0, []), (15, .aload_n 0, 1, 0, 0, []), (16, .getfield 9, 3, 7, 1, []), (19, .iload_n 3, 1, 0, 0, []), (20, .iaload, 1, 0, 0, []), (21, .invokevirtual 46, 3, 0, 1, [(7, 52)]), (24, .istore 4, 2, 0, 0, []), (26, .iload 4, 2, 0, 0, []), (28, .iconst 2, 1, 0, 0, []), (29, .if_icmp .eq 13, 3, 42, 0, []), (32, .iload 4, 2, 0, 0, []), (34, .iload_n 2, 1, 0, 0, []), (35, .if_icmp .ne 7, 3, 42, 0, []), (38, .iconst 1, 1, 0, 0, []), (39, .goto 4, 3, 43, 0, []), (42, .iconst 0, 1, 0, 0, []), (43, .istore 5, 2, 0, 0, []), (45, .iload 5, 2, 0, 0, []), (47, .ifCond .ne 37, 3, 84, 0, []), (50, .aload_n 0, 1, 0, 0, []), (51, .getfield 9, 3, 7, 1, []), (54, .iload_n 3, 1, 0, 0, []), (55, .iaload, 1, 0, 0, []), (56, .bipush 32, 2, 0, 0, []), (58, .if_icmp .eq 26, 3, 84, 0, []), (61, .aload_n 0, 1, 0, 0, []), (62, .getfield 15, 3, 7, 2, []), (65, .iload_n 1, 1, 0, 0, []), (66, .aload_n 0, 1, 0, 0, []), (67, .iload_n 3, 1, 0, 0, []), (68, .iload 4, 2, 0, 0, []), (70, .invokevirtual 50, 3, 0, 2, [(7, 53)]), (73, .iastore, 1, 0, 0, []), (74, .aload_n 0, 1, 0, 0, []), (75, .getfield 18, 3, 7, 3, []), (78, .iload_n 1, 1, 0, 0, []), (79, .iload_n 3, 1, 0, 0, []), (80, .iastore, 1, 0, 0, []), (81, .iinc 1 1, 3, 0, 0, []), (84, .iload 4, 2, 0, 0, []), (86, .istore_n 2, 1, 0, 0, []), (87, .iinc 3 1, 3, 0, 0, []), (90, .goto (-84), 3, 6, 0, []), (93, .aload_n 0, 1, 0, 0, []), (94, .getfield 15, 3, 7, 2, []), (97, .iload_n 1, 1, 0, 0, []), (98, .bipush (-2), 2, 0, 0, []), (100, .iastore, 1, 0, 0, []), (101, .aload_n 0, 1, 0, 0, []), (102, .getfield 18, 3, 7, 3, []), (105, .iload_n 1, 1, 0, 0, []), (106, .aload_n 0, 1, 0, 0, []), (107, .getfield 28, 3, 7, 0, []), (110, .iastore, 1, 0, 0, []), (111, .return_, 1, 0, 0, [])]
/-- ShadowSchool$Reader.sortOf(I)I -/
def jc_52 : List jw_I := [(0, .iload_n 1, 1, 0, 0, []), (1, .bipush 97, 2, 0, 0, []), (3, .if_icmp .lt 11, 3, 14, 0, []), (6, .iload_n 1, 1, 0, 0, []), (7, .bipush 122, 2, 0, 0, []), (9, .if_icmp .gt 5, 3, 14, 0, []), (12, .iconst 0, 1, 0, 0, []), (13, .ireturn, 1, 0, 0, []), (14, .iload_n 1, 1, 0, 0, []), (15, .bipush 48, 2, 0, 0, []), (17, .if_icmp .lt 13, 3, 30, 0, []), (20, .iload_n 1, 1, 0, 0, []), (21, .bipush 57, 2, 0, 0, []), (23, .if_icmp .gt 7, 3, 30, 0, []), (26, .iconst 1, 1, 0, 0, []), (27, .goto 4, 3, 31, 0, []), (30, .iconst 2, 1, 0, 0, []), (31, .ireturn, 1, 0, 0, [])]
/-- ShadowSchool$Reader.tokenAt(II)I -/
def jc_53 : List jw_I := [(0, .iload_n 2, 1, 0, 0, []), (1, .iconst 2, 1, 0, 0, []), (2, .if_icmp .ne 9, 3, 11, 0, []), (5, .aload_n 0, 1, 0, 0, []), (6, .iload_n 1, 1, 0, 0, []), (7, .invokevirtual 54, 3, 0, 1, [(7, 54)]), (10, .ireturn, 1, 0, 0, []), (11, .iload_n 1, 1, 0, 0, []), (12, .iconst 1, 1, 0, 0, []), (13, .iadd, 1, 0, 0, []), (14, .istore_n 3, 1, 0, 0, []), (15, .iload_n 3, 1, 0, 0, []), (16, .aload_n 0, 1, 0, 0, []), (17, .getfield 28, 3, 7, 0, []), (20, .if_icmp .ge 23, 3, 43, 0, []), (23, .aload_n 0, 1, 0, 0, []), (24, .aload_n 0, 1, 0, 0, []), (25, .getfield 9, 3, 7, 1, []), (28, .iload_n 3, 1, 0, 0, []), (29, .iaload, 1, 0, 0, []), (30, .invokevirtual 46, 3, 0, 1, [(7, 52)]), (33, .iload_n 2, 1, 0, 0, []), (34, .if_icmp .ne 9, 3, 43, 0, []), (37, .iinc 3 1, 3, 0, 0, []), (40, .goto (-25), 3, 15, 0, []), (43, .iload_n 2, 1, 0, 0, []), (44, .ifCond .ne 12, 3, 56, 0, []), (47, .aload_n 0, 1, 0, 0, []), (48, .iload_n 1, 1, 0, 0, []), (49, .iload_n 3, 1, 0, 0, []), (50, .invokevirtual 57, 3, 0, 2, [(7, 55)]), (53, .goto 9, 3, 62, 0, []), (56, .aload_n 0, 1, 0, 0, []), (57, .iload_n 1, 1, 0, 0, []), (58, .iload_n 3, 1, 0, 0, []), (59, .invokevirtual 60, 3, 0, 2, [(7, 57)]), (62, .ireturn, 1, 0, 0, [])]
/-- ShadowSchool$Reader.signAt(I)I -/
def jc_54 : List jw_I := [(0, .aload_n 0, 1, 0, 0, []), (1, .getfield 9, 3, 7, 1, []), (4, .iload_n 1, 1, 0, 0, []), (5, .iaload, 1, 0, 0, []), (6, .lookupswitch 65 #[(40, 58), (41, 58), (59, 58), (60, 58), (61, 58), (62, 58)], 58, 71, 0, [(40, 64), (41, 64), (59, 64), (60, 64), (61, 64), (62, 64)]), (64, .aload_n 0, 1, 0, 0, []), (65, .getfield 9, 3, 7, 1, []), (68, .iload_n 1, 1, 0, 0, []), (69, .iaload, 1, 0, 0, []), (70, .ireturn, 1, 0, 0, []), (71, .iconst (-1), 1, 0, 0, []), (72, .ireturn, 1, 0, 0, [])]
/-- ShadowSchool$Reader.nameAt(II)I -/
def jc_55 : List jw_I := [(0, .iconst 0, 1, 0, 0, []), (1, .istore_n 3, 1, 0, 0, []), (2, .iconst 0, 1, 0, 0, []), (3, .istore 4, 2, 0, 0, []), (5, .iconst 0, 1, 0, 0, []), (6, .istore 5, 2, 0, 0, []), (8, .iload 5, 2, 0, 0, []), (10, .ldc 63, 2, 1, 0, [(0, 0)]), (12, .invokevirtual 65, 3, 100000, 0, []), (15, .if_icmp .ge 56, 3, 71, 0, []), (18, .ldc 63, 2, 1, 0, [(0, 0)]), (20, .iload 5, 2, 0, 0, []), (22, .invokevirtual 71, 3, 100001, 1, []), (25, .bipush 32, 2, 0, 0, []), (27, .if_icmp .ne 38, 3, 65, 0, []), (30, .iload 5, 2, 0, 0, []), (32, .iload 4, 2, 0, 0, []), (34, .isub, 1, 0, 0, []), (35, .iload_n 2, 1, 0, 0, []), (36, .iload_n 1, 1, 0, 0, []), (37, .isub, 1, 0, 0, []), (38, .if_icmp .ne 18, 3, 56, 0, []), (41, .aload_n 0, 1, 0, 0, []), (42, .iload 4, 2, 0, 0, []), (44, .iload_n 1, 1, 0, 0, []), (45, .iload_n 2, 1, 0, 0, []), (46, .iload_n 1, 1, 0, 0, []), (47, .isub, 1, 0, 0, []), (48, .invokevirtual 75, 3, 0, 3, [(7, 56)]), (51, .ifCond .eq 5, 3, 56, 0, []), (54, .iload_n 3, 1, 0, 0, []), (55, .ireturn, 1, 0, 0, []), (56, .iinc 3 1, 3, 0, 0, []), (59, .iload 5, 2, 0, 0, []), (61, .iconst 1, 1, 0, 0, []), (62, .iadd, 1, 0, 0, []), (63, .istore 4, 2, 0, 0, []), (65, .iinc 5 1, 3, 0, 0, []), (68, .goto (-60), 3, 8, 0, []), (71, .iconst (-1), 1, 0, 0, []), (72, .ireturn, 1, 0, 0, [])]
/-- ShadowSchool$Reader.isNameAt(III)Z -/
def jc_56 : List jw_I := [(0, .iconst 0, 1, 0, 0, []), (1, .istore 4, 2, 0, 0, []), (3, .iload 4, 2, 0, 0, []), (5, .iload_n 3, 1, 0, 0, []), (6, .if_icmp .ge 32, 3, 38, 0, []), (9, .ldc 63, 2, 1, 0, [(0, 0)]), (11, .iload_n 1, 1, 0, 0, []), (12, .iload 4, 2, 0, 0, []), (14, .iadd, 1, 0, 0, []), (15, .invokevirtual 71, 3, 100001, 1, []), (18, .aload_n 0, 1, 0, 0, []), (19, .getfield 9, 3, 7, 1, []), (22, .iload_n 2, 1, 0, 0, []), (23, .iload 4, 2, 0, 0, []), (25, .iadd, 1, 0, 0, []), (26, .iaload, 1, 0, 0, []), (27, .if_icmp .eq 5, 3, 32, 0, []), (30, .iconst 0, 1, 0, 0, []), (31, .ireturn, 1, 0, 0, []), (32, .iinc 4 1, 3, 0, 0, []), (35, .goto (-32), 3, 3, 0, []), (38, .iconst 1, 1, 0, 0, []), (39, .ireturn, 1, 0, 0, [])]
/-- ShadowSchool$Reader.numberAt(II)I -/
def jc_57 : List jw_I := [(0, .iload_n 2, 1, 0, 0, []), (1, .iload_n 1, 1, 0, 0, []), (2, .isub, 1, 0, 0, []), (3, .iconst 4, 1, 0, 0, []), (4, .if_icmp .le 5, 3, 9, 0, []), (7, .iconst (-1), 1, 0, 0, []), (8, .ireturn, 1, 0, 0, []), (9, .iconst 0, 1, 0, 0, []), (10, .istore_n 3, 1, 0, 0, []), (11, .iload_n 1, 1, 0, 0, []), (12, .istore 4, 2, 0, 0, []), (14, .iload 4, 2, 0, 0, []), (16, .iload_n 2, 1, 0, 0, []), (17, .if_icmp .ge 25, 3, 42, 0, []), (20, .iload_n 3, 1, 0, 0, []), (21, .bipush 10, 2, 0, 0, []), (23, .imul, 1, 0, 0, []), (24, .aload_n 0, 1, 0, 0, []), (25, .getfield 9, 3, 7, 1, []), (28, .iload 4, 2, 0, 0, []), (30, .iaload, 1, 0, 0, []), (31, .iadd, 1, 0, 0, []), (32, .bipush 48, 2, 0, 0, []), (34, .isub, 1, 0, 0, []), (35, .istore_n 3, 1, 0, 0, []), (36, .iinc 4 1, 3, 0, 0, []), (39, .goto (-25), 3, 14, 0, []), (42, .sipush 1000, 3, 0, 0, []), (45, .iload_n 3, 1, 0, 0, []), (46, .iadd, 1, 0, 0, []), (47, .ireturn, 1, 0, 0, [])]
/-- ShadowSchool$Reader.readRule()Z -/
def jc_58 : List jw_I := [(0, .aload_n 0, 1, 0, 0, []), (1, .getfield 15, 3, 7, 2, []), (4, .aload_n 0, 1, 0, 0, []), (5, .getfield 35, 3, 7, 4, []), (8, .iaload, 1, 0, 0, []), (9, .istore_n 1, 1, 0, 0, []), (10, .iload_n 1, 1, 0, 0, []), (11, .iconst 0, 1, 0, 0, []), (12, .iconst 5, 1, 0, 0, []), (13, .invokestatic 79, 3, 3, 3, [(0, 176)]), (16, .ifCond .ne 5, 3, 21, 0, []), (19, .iconst 0, 1, 0, 0, []), (20, .ireturn, 1, 0, 0, []), (21, .aload_n 0, 1, 0, 0, []), (22, .invokevirtual 82, 3, 0, 0, [(7, 66)]), (25, .aload_n 0, 1, 0, 0, []), (26, .getfield 15, 3, 7, 2, []), (29, .aload_n 0, 1, 0, 0, []), (30, .getfield 35, 3, 7, 4, []), (33, .iaload, 1, 0, 0, []), (34, .bipush 9, 2, 0, 0, []), (36, .if_icmp .ne 17, 3, 53, 0, []), (39, .aload_n 0, 1, 0, 0, []), (40, .invokevirtual 82, 3, 0, 0, [(7, 66)]), (43, .aload_n 0, 1, 0, 0, []), (44, .iconst 0, 1, 0, 0, []), (45, .invokevirtual 85, 3, 0, 1, [(7, 59)]), (48, .ifCond .ne 5, 3, 53, 0, []), (51, .iconst 0, 1, 0, 0, []), (52, .ireturn, 1, 0, 0, []), (53, .aload_n 0, 1, 0, 0, []), (54, .getfield 15, 3, 7, 2, []), (57, .aload_n 0, 1, 0, 0, []), (58, .getfield 35, 3, 7, 4, []), (61, .iaload, 1, 0, 0, []), (62, .bipush 6, 2, 0, 0, []), (64, .isub, 1, 0, 0, []), (65, .istore_n 2, 1, 0, 0, []), (66, .iload_n 2, 1, 0, 0, []), (67, .iconst 0, 1, 0, 0, []), (68, .iconst 2, 1, 0, 0, []), (69, .invokestatic 79, 3, 3, 3, [(0, 176)]), (72, .ifCond .ne 5, 3, 77, 0, []), (75, .iconst 0, 1, 0, 0, []), (76, .ireturn, 1, 0, 0, []), (77, .aload_n 0, 1, 0, 0, []), (78, .invokevirtual 82, 3, 0, 0, [(7, 66)]), (81, .aload_n 0, 1, 0, 0, []), (82, .getfield 24, 3, 7, 5, []), (85, .iload_n 1, 1, 0, 0, []), (86, .iload_n 2, 1, 0, 0, []), (87, .invokevirtual 89, 3, 0, 2, [(8, 72)]), (90, .aload_n 0, 1, 0, 0, []), (91, .bipush 59, 2, 0, 0, []), (93, .invokevirtual 93, 3, 0, 1, [(7, 63)]), (96, .ireturn, 1, 0, 0, [])]
/-- ShadowSchool$Reader.readCondition(I)Z -/
def jc_59 : List jw_I := [(0, .aload_n 0, 1, 0, 0, []), (1, .iload_n 1, 1, 0, 0, []), (2, .invokevirtual 96, 3, 0, 1, [(7, 60)]), (5, .ifCond .ne 5, 3, 10, 0, []), (8, .iconst 0, 1, 0, 0, []), (9, .ireturn, 1, 0, 0, []), (10, .iconst 0, 1, 0, 0, []), (11, .istore_n 2, 1, 0, 0, []), (12, .iconst 0, 1, 0, 0, []), (13, .istore_n 3, 1, 0, 0, []), (14, .iload_n 3, 1, 0, 0, []), (15, .sipush 200, 3, 0, 0, []), (18, .if_icmp .ge 111, 3, 129, 0, []), (21, .aload_n 0, 1, 0, 0, []), (22, .getfield 15, 3, 7, 2, []), (25, .aload_n 0, 1, 0, 0, []), (26, .getfield 35, 3, 7, 4, []), (29, .iaload, 1, 0, 0, []), (30, .bipush 11, 2, 0, 0, []), (32, .if_icmp .eq 17, 3, 49, 0, []), (35, .aload_n 0, 1, 0, 0, []), (36, .getfield 15, 3, 7, 2, []), (39, .aload_n 0, 1, 0, 0, []), (40, .getfield 35, 3, 7, 4, []), (43, .iaload, 1, 0, 0, []), (44, .bipush 10, 2, 0, 0, []), (46, .if_icmp .ne 83, 3, 129, 0, []), (49, .aload_n 0, 1, 0, 0, []), (50, .getfield 15, 3, 7, 2, []), (53, .aload_n 0, 1, 0, 0, []), (54, .getfield 35, 3, 7, 4, []), (57, .iaload, 1, 0, 0, []), (58, .bipush 11, 2, 0, 0, []), (60, .if_icmp .ne 7, 3, 67, 0, []), (63, .iconst 1, 1, 0, 0, []), (64, .goto 4, 3, 68, 0, []), (67, .iconst 0, 1, 0, 0, []), (68, .istore 4, 2, 0, 0, []), (70, .iload 4, 2, 0, 0, []), (72, .ifCond .ne 17, 3, 89, 0, []), (75, .iload_n 2, 1, 0, 0, []), (76, .ifCond .eq 13, 3, 89, 0, []), (79, .aload_n 0, 1, 0, 0, []), (80, .getfield 24, 3, 7, 5, []), (83, .iconst 4, 1, 0, 0, []), (84, .iconst 0, 1, 0, 0, []), (85, .iconst 0, 1, 0, 0, []), (86, .invokevirtual 99, 3, 0, 3, [(8, 71)]), (89, .aload_n 0, 1, 0, 0, []), (90, .invokevirtual 82, 3, 0, 0, [(7, 66)]), (93, .aload_n 0, 1, 0, 0, []), (94, .iload_n 1, 1, 0, 0, []), (95, .invokevirtual 96, 3, 0, 1, [(7, 60)]), (98, .ifCond .ne 5, 3, 103, 0, []), (101, .iconst 0, 1, 0, 0, []), (102, .ireturn, 1, 0, 0, []), (103, .iload 4, 2, 0, 0, []), (105, .ifCond .eq 16, 3, 121, 0, []), (108, .aload_n 0, 1, 0, 0, []), (109, .getfield 24, 3, 7, 5, []), (112, .iconst 3, 1, 0, 0, []), (113, .iconst 0, 1, 0, 0, []), (114, .iconst 0, 1, 0, 0, []), (115, .invokevirtual 99, 3, 0, 3, [(8, 71)]), (118, .goto 5, 3, 123, 0, []), (121, .iconst 1, 1, 0, 0, []), (122, .istore_n 2, 1, 0, 0, []), (123, .iinc 3 1, 3, 0, 0, []), (126, .goto (-112), 3, 14, 0, []), (129, .iload_n 2, 1, 0, 0, []), (130, .ifCond .eq 13, 3, 143, 0, []), (133, .aload_n 0, 1, 0, 0, []), (134, .getfield 24, 3, 7, 5, []), (137, .iconst 4, 1, 0, 0, []), (138, .iconst 0, 1, 0, 0, []), (139, .iconst 0, 1, 0, 0, []), (140, .invokevirtual 99, 3, 0, 3, [(8, 71)]), (143, .iconst 1, 1, 0, 0, []), (144, .ireturn, 1, 0, 0, [])]
/-- ShadowSchool$Reader.readOne(I)Z -/
def jc_60 : List jw_I := [(0, .iconst 0, 1, 0, 0, []), (1, .istore_n 2, 1, 0, 0, []), (2, .iconst 0, 1, 0, 0, []), (3, .istore_n 3, 1, 0, 0, []), (4, .iload_n 3, 1, 0, 0, []), (5, .sipush 200, 3, 0, 0, []), (8, .if_icmp .ge 37, 3, 45, 0, []), (11, .aload_n 0, 1, 0, 0, []), (12, .getfield 15, 3, 7, 2, []), (15, .aload_n 0, 1, 0, 0, []), (16, .getfield 35, 3, 7, 4, []), (19, .iaload, 1, 0, 0, []), (20, .bipush 12, 2, 0, 0, []), (22, .if_icmp .ne 23, 3, 45, 0, []), (25, .iload_n 2, 1, 0, 0, []), (26, .ifCond .ne 7, 3, 33, 0, []), (29, .iconst 1, 1, 0, 0, []), (30, .goto 4, 3, 34, 0, []), (33, .iconst 0, 1, 0, 0, []), (34, .istore_n 2, 1, 0, 0, []), (35, .aload_n 0, 1, 0, 0, []), (36, .invokevirtual 82, 3, 0, 0, [(7, 66)]), (39, .iinc 3 1, 3, 0, 0, []), (42, .goto (-38), 3, 4, 0, []), (45, .aload_n 0, 1, 0, 0, []), (46, .getfield 15, 3, 7, 2, []), (49, .aload_n 0, 1, 0, 0, []), (50, .getfield 35, 3, 7, 4, []), (53, .iaload, 1, 0, 0, []), (54, .bipush 40, 2, 0, 0, []), (56, .if_icmp .ne 11, 3, 67, 0, []), (59, .aload_n 0, 1, 0, 0, []), (60, .iload_n 1, 1, 0, 0, []), (61, .invokevirtual 103, 3, 0, 1, [(7, 61)]), (64, .goto 7, 3, 71, 0, []), (67, .aload_n 0, 1, 0, 0, []), (68, .invokevirtual 106, 3, 0, 0, [(7, 62)]), (71, .istore_n 3, 1, 0, 0, []), (72, .iload_n 3, 1, 0, 0, []), (73, .ifCond .eq 17, 3, 90, 0, []), (76, .iload_n 2, 1, 0, 0, []), (77, .ifCond .eq 13, 3, 90, 0, []), (80, .aload_n 0, 1, 0, 0, []), (81, .getfield 24, 3, 7, 5, []), (84, .iconst 5, 1, 0, 0, []), (85, .iconst 0, 1, 0, 0, []), (86, .iconst 0, 1, 0, 0, []), (87, .invokevirtual 99, 3, 0, 3, [(8, 71)]), (90, .iload_n 3, 1, 0, 0, []), (91, .ireturn, 1, 0, 0, [])]
/-- ShadowSchool$Reader.readWithin(I)Z -/
def jc_61 : List jw_I := [(0, .iload_n 1, 1, 0, 0, []), (1, .iconst 3, 1, 0, 0, []), (2, .if_icmp .lt 5, 3, 7, 0, []), (5, .iconst 0, 1, 0, 0, []), (6, .ireturn, 1, 0, 0, []), (7, .aload_n 0, 1, 0, 0, []), (8, .invokevirtual 82, 3, 0, 0, [(7, 66)]), (11, .aload_n 0, 1, 0, 0, []), (12, .iload_n 1, 1, 0, 0, []), (13, .iconst 1, 1, 0, 0, []), (14, .iadd, 1, 0, 0, []), (15, .invokevirtual 85, 3, 0, 1, [(7, 59)]), (18, .ifCond .eq 16, 3, 34, 0, []), (21, .aload_n 0, 1, 0, 0, []), (22, .bipush 41, 2, 0, 0, []), (24, .invokevirtual 93, 3, 0, 1, [(7, 63)]), (27, .ifCond .eq 7, 3, 34, 0, []), (30, .iconst 1, 1, 0, 0, []), (31, .goto 4, 3, 35, 0, []), (34, .iconst 0, 1, 0, 0, []), (35, .ireturn, 1, 0, 0, [])]
/-- ShadowSchool$Reader.readComparison()Z -/
def jc_62 : List jw_I := [(0, .aload_n 0, 1, 0, 0, []), (1, .aload_n 0, 1, 0, 0, []), (2, .getfield 15, 3, 7, 2, []), (5, .aload_n 0, 1, 0, 0, []), (6, .getfield 35, 3, 7, 4, []), (9, .iaload, 1, 0, 0, []), (10, .invokevirtual 109, 3, 0, 1, [(7, 64)]), (13, .ifCond .ne 5, 3, 18, 0, []), (16, .iconst 0, 1, 0, 0, []), (17, .ireturn, 1, 0, 0, []), (18, .aload_n 0, 1, 0, 0, []), (19, .aload_n 0, 1, 0, 0, []), (20, .getfield 15, 3, 7, 2, []), (23, .aload_n 0, 1, 0, 0, []), (24, .getfield 35, 3, 7, 4, []), (27, .iaload, 1, 0, 0, []), (28, .invokevirtual 112, 3, 0, 1, [(7, 65)]), (31, .istore_n 1, 1, 0, 0, []), (32, .aload_n 0, 1, 0, 0, []), (33, .invokevirtual 82, 3, 0, 0, [(7, 66)]), (36, .aload_n 0, 1, 0, 0, []), (37, .getfield 15, 3, 7, 2, []), (40, .aload_n 0, 1, 0, 0, []), (41, .getfield 35, 3, 7, 4, []), (44, .iaload, 1, 0, 0, []), (45, .bipush 60, 2, 0, 0, []), (47, .isub, 1, 0, 0, []), (48, .istore_n 2, 1, 0, 0, []), (49, .iload_n 2, 1, 0, 0, []), (50, .iconst 0, 1, 0, 0, []), (51, .iconst 2, 1, 0, 0, []), (52, .invokestatic 79, 3, 3, 3, [(0, 176)]), (55, .ifCond .ne 5, 3, 60, 0, []), (58, .iconst 0, 1, 0, 0, []), (59, .ireturn, 1, 0, 0, []), (60, .aload_n 0, 1, 0, 0, []), (61, .invokevirtual 82, 3, 0, 0, [(7, 66)]), (64, .aload_n 0, 1, 0, 0, []), (65, .aload_n 0, 1, 0, 0, []), (66, .getfield 15, 3, 7, 2, []), (69, .aload_n 0, 1, 0, 0, []), (70, .getfield 35, 3, 7, 4, []), (73, .iaload, 1, 0, 0, []), (74, .invokevirtual 109, 3, 0, 1, [(7, 64)]), (77, .ifCond .ne 5, 3, 82, 0, []), (80, .iconst 0, 1, 0, 0, []), (81, .ireturn, 1, 0, 0, []), (82, .aload_n 0, 1, 0, 0, []), (83, .getfield 24, 3, 7, 5, []), (86, .iload_n 2, 1, 0, 0, []), (87, .iload_n 1, 1, 0, 0, []), (88, .aload_n 0, 1, 0, 0, []), (89, .aload_n 0, 1, 0, 0, []), (90, .getfield 15, 3, 7, 2, []), (93, .aload_n 0, 1, 0, 0, []), (94, .getfield 35, 3, 7, 4, []), (97, .iaload, 1, 0, 0, []), (98, .invokevirtual 112, 3, 0, 1, [(7, 65)]), (101, .invokevirtual 99, 3, 0, 3, [(8, 71)]), (104, .aload_n 0, 1, 0, 0, []), (105, .invokevirtual 82, 3, 0, 0, [(7, 66)]), (108, .iconst 1, 1, 0, 0, []), (109, .ireturn, 1, 0, 0, [])]
/-- ShadowSchool$Reader.readSign(I)Z -/
def jc_63 : List jw_I := [(0, .aload_n 0, 1, 0, 0, []), (1, .getfield 15, 3, 7, 2, []), (4, .aload_n 0, 1, 0, 0, []), (5, .getfield 35, 3, 7, 4, []), (8, .iaload, 1, 0, 0, []), (9, .iload_n 1, 1, 0, 0, []), (10, .if_icmp .eq 5, 3, 15, 0, []), (13, .iconst 0, 1, 0, 0, []), (14, .ireturn, 1, 0, 0, []), (15, .aload_n 0, 1, 0, 0, []), (16, .invokevirtual 82, 3, 0, 0, [(7, 66)]), (19, .iconst 1, 1, 0, 0, []), (20, .ireturn, 1, 0, 0, [])]
/-- ShadowSchool$Reader.isValue(I)Z -/
def jc_64 : List jw_I := [(0, .iload_n 1, 1, 0, 0, []), (1, .sipush 1000, 3, 0, 0, []), (4, .if_icmp .ge 14, 3, 18, 0, []), (7, .iload_n 1, 1, 0, 0, []), (8, .bipush 13, 2, 0, 0, []), (10, .bipush 17, 2, 0, 0, []), (12, .invokestatic 79, 3, 3, 3, [(0, 176)]), (15, .ifCond .eq 7, 3, 22, 0, []), (18, .iconst 1, 1, 0, 0, []), (19, .goto 4, 3, 23, 0, []), (22, .iconst 0, 1, 0, 0, []), (23, .ireturn, 1, 0, 0, [])]
/-- ShadowSchool$Reader.placeOfValue(I)I -/
def jc_65 : List jw_I := [(0, .iload_n 1, 1, 0, 0, []), (1, .sipush 1000, 3, 0, 0, []), (4, .if_icmp .lt 18, 3, 22, 0, []), (7, .aload_n 0, 1, 0, 0, []), (8, .getfield 24, 3, 7, 5, []), (11, .iload_n 1, 1, 0, 0, []), (12, .sipush 1000, 3, 0, 0, []), (15, .isub, 1, 0, 0, []), (16, .invokevirtual 115, 3, 0, 1, [(8, 70)]), (19, .goto 7, 3, 26, 0, []), (22, .iload_n 1, 1, 0, 0, []), (23, .bipush 13, 2, 0, 0, []), (25, .isub, 1, 0, 0, []), (26, .ireturn, 1, 0, 0, [])]
/-- ShadowSchool$Reader.goOn()V -/
def jc_66 : List jw_I := [(0, .aload_n 0, 1, 0, 0, []), (1, .getfield 35, 3, 7, 4, []), (4, .sipush 200, 3, 0, 0, []), (7, .if_icmp .ge 13, 3, 20, 0, []), (10, .aload_n 0, 1, 0, 0, []), (11, .dup, 1, 0, 0, []), (12, .getfield 35, 3, 7, 4, []), (15, .iconst 1, 1, 0, 0, []), (16, .iadd, 1, 0, 0, []), (17, .putfield 35, 3, 7, 4, [(0, 0)]), (20, .return_, 1, 0, 0, [])]
/-- ShadowSchool$Rules.<init>()V -/
def jc_67 : List jw_I := [(0, .aload_n 0, 1, 0, 0, []), (1, .invokespecial 3, 3, 7, 0, []), (4, .aload_n 0, 1, 0, 0, []), (5, .bipush 8, 2, 0, 0, []), (7, .newarray .int, 2, 0, 0, []), (9, .putfield 9, 3, 8, 2, [(0, 3)]), (12, .aload_n 0, 1, 0, 0, []), (13, .bipush 8, 2, 0, 0, []), (15, .newarray .int, 2, 0, 0, []), (17, .putfield 15, 3, 8, 3, [(0, 3)]), (20, .aload_n 0, 1, 0, 0, []), (21, .bipush 8, 2, 0, 0, []), (23, .newarray .int, 2, 0, 0, []), (25, .putfield 18, 3, 8, 4, [(0, 3)]), (28, .aload_n 0, 1, 0, 0, []), (29, .bipush 100, 2, 0, 0, []), (31, .newarray .int, 2, 0, 0, []), (33, .putfield 21, 3, 8, 5, [(0, 3)]), (36, .aload_n 0, 1, 0, 0, []), (37, .bipush 100, 2, 0, 0, []), (39, .newarray .int, 2, 0, 0, []), (41, .putfield 24, 3, 8, 6, [(0, 3)]), (44, .aload_n 0, 1, 0, 0, []), (45, .bipush 100, 2, 0, 0, []), (47, .newarray .int, 2, 0, 0, []), (49, .putfield 27, 3, 8, 7, [(0, 3)]), (52, .aload_n 0, 1, 0, 0, []), (53, .bipush 105, 2, 0, 0, []), (55, .newarray .int, 2, 0, 0, []), (57, .putfield 30, 3, 8, 8, [(0, 3)]), (60, .aload_n 0, 1, 0, 0, []), (61, .iconst 5, 1, 0, 0, []), (62, .putfield 33, 3, 8, 9, [(0, 0)]), (65, .return_, 1, 0, 0, [])]
/-- ShadowSchool$Rules.copyFrom(LShadowSchool$Rules;)V -/
def jc_68 : List jw_I := [(0, .aload_n 0, 1, 0, 0, []), (1, .aload_n 1, 1, 0, 0, []), (2, .getfield 37, 3, 8, 0, []), (5, .putfield 37, 3, 8, 0, [(0, 0)]), (8, .aload_n 0, 1, 0, 0, []), (9, .aload_n 1, 1, 0, 0, []), (10, .getfield 40, 3, 8, 1, []), (13, .putfield 40, 3, 8, 1, [(0, 0)]), (16, .aload_n 1, 1, 0, 0, []), (17, .getfield 9, 3, 8, 2, []), (20, .aload_n 0, 1, 0, 0, []), (21, .getfield 9, 3, 8, 2, []), (24, .invokestatic 43, 3, 3, 2, [(0, 178)]), (27, .aload_n 1, 1, 0, 0, []), (28, .getfield 15, 3, 8, 3, []), (31, .aload_n 0, 1, 0, 0, []), (32, .getfield 15, 3, 8, 3, []), (35, .invokestatic 43, 3, 3, 2, [(0, 178)]), (38, .aload_n 1, 1, 0, 0, []), (39, .getfield 18, 3, 8, 4, []), (42, .aload_n 0, 1, 0, 0, []), (43, .getfield 18, 3, 8, 4, []), (46, .invokestatic 43, 3, 3, 2, [(0, 178)]), (49, .aload_n 1, 1, 0, 0, []), (50, .getfield 21, 3, 8, 5, []), (53, .aload_n 0, 1, 0, 0, []), (54, .getfield 21, 3, 8, 5, []), (57, .invokestatic 43, 3, 3, 2, [(0, 178)]), (60, .aload_n 1, 1, 0, 0, []), (61, .getfield 24, 3, 8, 6, []), (64, .aload_n 0, 1, 0, 0, []), (65, .getfield 24, 3, 8, 6, []), (68, .invokestatic 43, 3, 3, 2, [(0, 178)]), (71, .aload_n 1, 1, 0, 0, []), (72, .getfield 27, 3, 8, 7, []), (75, .aload_n 0, 1, 0, 0, []), (76, .getfield 27, 3, 8, 7, []), (79, .invokestatic 43, 3, 3, 2, [(0, 178)]), (82, .aload_n 0, 1, 0, 0, []), (83, .aload_n 1, 1, 0, 0, []), (84, .getfield 33, 3, 8, 9, []), (87, .putfield 33, 3, 8, 9, [(0, 0)]), (90, .aload_n 1, 1, 0, 0, []), (91, .getfield 30, 3, 8, 8, []), (94, .aload_n 0, 1, 0, 0, []), (95, .getfield 30, 3, 8, 8, []), (98, .invokestatic 43, 3, 3, 2, [(0, 178)]), (101, .return_, 1, 0, 0, [])]
/-- ShadowSchool$Rules.clear()V -/
def jc_69 : List jw_I := [(0, .aload_n 0, 1, 0, 0, []), (1, .iconst 0, 1, 0, 0, []), (2, .putfield 37, 3, 8, 0, [(0, 0)]), (5, .aload_n 0, 1, 0, 0, []), (6, .iconst 0, 1, 0, 0, []), (7, .putfield 40, 3, 8, 1, [(0, 0)]), (10, .aload_n 0, 1, 0, 0, []), (11, .iconst 5, 1, 0, 0, []), (12, .putfield 33, 3, 8, 9, [(0, 0)]), (15, .return_, 1, 0, 0, [])]
/-- ShadowSchool$Rules.addValue(I)I -/
def jc_70 : List jw_I := [(0, .aload_n 0, 1, 0, 0, []), (1, .getfield 33, 3, 8, 9, []), (4, .aload_n 0, 1, 0, 0, []), (5, .getfield 30, 3, 8, 8, []), (8, .arraylength, 1, 0, 0, []), (9, .if_icmp .lt 5, 3, 14, 0, []), (12, .iconst 0, 1, 0, 0, []), (13, .ireturn, 1, 0, 0, []), (14, .aload_n 0, 1, 0, 0, []), (15, .dup, 1, 0, 0, []), (16, .getfield 33, 3, 8, 9, []), (19, .dup_x1, 1, 0, 0, []), (20, .iconst 1, 1, 0, 0, []), (21, .iadd, 1, 0, 0, []), (22, .putfield 33, 3, 8, 9, [(0, 0)]), (25, .istore_n 2, 1, 0, 0, []), (26, .aload_n 0, 1, 0, 0, []), (27, .getfield 30, 3, 8, 8, []), (30, .iload_n 2, 1, 0, 0, []), (31, .iload_n 1, 1, 0, 0, []), (32, .iastore, 1, 0, 0, []), (33, .iload_n 2, 1, 0, 0, []), (34, .ireturn, 1, 0, 0, [])]
/-- ShadowSchool$Rules.addStep(III)V -/
def jc_71 : List jw_I := [(0, .aload_n 0, 1, 0, 0, []), (1, .getfield 40, 3, 8, 1, []), (4, .bipush 100, 2, 0, 0, []), (6, .if_icmp .ge 43, 3, 49, 0, []), (9, .aload_n 0, 1, 0, 0, []), (10, .getfield 21, 3, 8, 5, []), (13, .aload_n 0, 1, 0, 0, []), (14, .getfield 40, 3, 8, 1, []), (17, .iload_n 1, 1, 0, 0, []), (18, .iastore, 1, 0, 0, []), (19, .aload_n 0, 1, 0, 0, []), (20, .getfield 24, 3, 8, 6, []), (23, .aload_n 0, 1, 0, 0, []), (24, .getfield 40, 3, 8, 1, []), (27, .iload_n 2, 1, 0, 0, []), (28, .iastore, 1, 0, 0, []), (29, .aload_n 0, 1, 0, 0, []), (30, .getfield 27, 3, 8, 7, []), (33, .aload_n 0, 1, 0, 0, []), (34, .getfield 40, 3, 8, 1, []), (37, .iload_n 3, 1, 0, 0, []), (38, .iastore, 1, 0, 0, []), (39, .aload_n 0, 1, 0, 0, []), (40, .dup, 1, 0, 0, []), (41, .getfield 40, 3, 8, 1, []), (44, .iconst 1, 1, 0, 0, []), (45, .iadd, 1, 0, 0, []), (46, .putfield 40, 3, 8, 1, [(0, 0)]), (49, .return_, 1, 0, 0, [])]
/-- ShadowSchool$Rules.addRule(II)V -/
def jc_72 : List jw_I := [(0, .aload_n 0, 1, 0, 0, []), (1, .getfield 37, 3, 8, 0, []), (4, .bipush 8, 2, 0, 0, []), (6, .if_icmp .ge 46, 3, 52, 0, []), (9, .aload_n 0, 1, 0, 0, []), (10, .getfield 9, 3, 8, 2, []), (13, .aload_n 0, 1, 0, 0, []), (14, .getfield 37, 3, 8, 0, []), (17, .iload_n 1, 1, 0, 0, []), (18, .iastore, 1, 0, 0, []), (19, .aload_n 0, 1, 0, 0, []), (20, .getfield 15, 3, 8, 3, []), (23, .aload_n 0, 1, 0, 0, []), (24, .getfield 37, 3, 8, 0, []), (27, .iload_n 2, 1, 0, 0, []), (28, .iastore, 1, 0, 0, []), (29, .aload_n 0, 1, 0, 0, []), (30, .getfield 18, 3, 8, 4, []), (33, .aload_n 0, 1, 0, 0, []), (34, .getfield 37, 3, 8, 0, []), (37, .aload_n 0, 1, 0, 0, []), (38, .getfield 40, 3, 8, 1, []), (41, .iastore, 1, 0, 0, []), (42, .aload_n 0, 1, 0, 0, []), (43, .dup, 1, 0, 0, []), (44, .getfield 37, 3, 8, 0, []), (47, .iconst 1, 1, 0, 0, []), (48, .iadd, 1, 0, 0, []), (49, .putfield 37, 3, 8, 0, [(0, 0)]), (52, .return_, 1, 0, 0, [])]
/-- ShadowSchool$Rules.tell(IIIII)V -/
def jc_73 : List jw_I := [(0, .aload_n 0, 1, 0, 0, []), (1, .getfield 30, 3, 8, 8, []), (4, .iconst 0, 1, 0, 0, []), (5, .iload_n 1, 1, 0, 0, []), (6, .iastore, 1, 0, 0, []), (7, .aload_n 0, 1, 0, 0, []), (8, .getfield 30, 3, 8, 8, []), (11, .iconst 1, 1, 0, 0, []), (12, .iload_n 2, 1, 0, 0, []), (13, .iastore, 1, 0, 0, []), (14, .aload_n 0, 1, 0, 0, []), (15, .getfield 30, 3, 8, 8, []), (18, .iconst 2, 1, 0, 0, []), (19, .iload_n 3, 1, 0, 0, []), (20, .iastore, 1, 0, 0, []), (21, .aload_n 0, 1, 0, 0, []), (22, .getfield 30, 3, 8, 8, []), (25, .iconst 3, 1, 0, 0, []), (26, .iload 4, 2, 0, 0, []), (28, .iastore, 1, 0, 0, []), (29, .aload_n 0, 1, 0, 0, []), (30, .getfield 30, 3, 8, 8, []), (33, .iconst 4, 1, 0, 0, []), (34, .iload 5, 2, 0, 0, []), (36, .iastore, 1, 0, 0, []), (37, .return_, 1, 0, 0, [])]
/-- ShadowSchool$Rules.deedFor(I)I -/
def jc_74 : List jw_I := [(0, .iconst 0, 1, 0, 0, []), (1, .istore_n 2, 1, 0, 0, []), (2, .iconst 0, 1, 0, 0, []), (3, .istore_n 3, 1, 0, 0, []), (4, .iload_n 3, 1, 0, 0, []), (5, .aload_n 0, 1, 0, 0, []), (6, .getfield 37, 3, 8, 0, []), (9, .if_icmp .ge 50, 3, 59, 0, []), (12, .iload_n 1, 1, 0, 0, []), (13, .aload_n 0, 1, 0, 0, []), (14, .getfield 9, 3, 8, 2, []), (17, .iload_n 3, 1, 0, 0, []), (18, .iaload, 1, 0, 0, []), (19, .invokestatic 47, 3, 3, 2, [(0, 177)]), (22, .ifCond .eq 24, 3, 46, 0, []), (25, .aload_n 0, 1, 0, 0, []), (26, .iload_n 2, 1, 0, 0, []), (27, .aload_n 0, 1, 0, 0, []), (28, .getfield 18, 3, 8, 4, []), (31, .iload_n 3, 1, 0, 0, []), (32, .iaload, 1, 0, 0, []), (33, .invokevirtual 51, 3, 0, 2, [(8, 75)]), (36, .ifCond .eq 10, 3, 46, 0, []), (39, .aload_n 0, 1, 0, 0, []), (40, .getfield 15, 3, 8, 3, []), (43, .iload_n 3, 1, 0, 0, []), (44, .iaload, 1, 0, 0, []), (45, .ireturn, 1, 0, 0, []), (46, .aload_n 0, 1, 0, 0, []), (47, .getfield 18, 3, 8, 4, []), (50, .iload_n 3, 1, 0, 0, []), (51, .iaload, 1, 0, 0, []), (52, .istore_n 2, 1, 0, 0, []), (53, .iinc 3 1, 3, 0, 0, []), (56, .goto (-52), 3, 4, 0, []), (59, .iconst 3, 1, 0, 0, []), (60, .ireturn, 1, 0, 0, [])]
/-- ShadowSchool$Rules.holds(II)Z -/
def jc_75 : List jw_I := [(0, .iconst 1, 1, 0, 0, []), (1, .istore_n 3, 1, 0, 0, []), (2, .iload_n 1, 1, 0, 0, []), (3, .istore 4, 2, 0, 0, []), (5, .iload 4, 2, 0, 0, []), (7, .iload_n 2, 1, 0, 0, []), (8, .if_icmp .ge 144, 3, 152, 0, []), (11, .iload_n 3, 1, 0, 0, []), (12, .iconst 1, 1, 0, 0, []), (13, .iand, 1, 0, 0, []), (14, .istore 5, 2, 0, 0, []), (16, .iload_n 3, 1, 0, 0, []), (17, .iconst 1, 1, 0, 0, []), (18, .ishr, 1, 0, 0, []), (19, .iconst 1, 1, 0, 0, []), (20, .iand, 1, 0, 0, []), (21, .istore 6, 2, 0, 0, []), (23, .aload_n 0, 1, 0, 0, []), (24, .getfield 21, 3, 8, 5, []), (27, .iload 4, 2, 0, 0, []), (29, .iaload, 1, 0, 0, []), (30, .tableswitch 63 3 5 #[26, 41, 56], 26, 93, 0, [(3, 56), (4, 71), (5, 86)]), (56, .iload_n 3, 1, 0, 0, []), (57, .iconst 2, 1, 0, 0, []), (58, .ishr, 1, 0, 0, []), (59, .iconst 1, 1, 0, 0, []), (60, .ishl, 1, 0, 0, []), (61, .iload 6, 2, 0, 0, []), (63, .iload 5, 2, 0, 0, []), (65, .iand, 1, 0, 0, []), (66, .ior, 1, 0, 0, []), (67, .istore_n 3, 1, 0, 0, []), (68, .goto 78, 3, 146, 0, []), (71, .iload_n 3, 1, 0, 0, []), (72, .iconst 2, 1, 0, 0, []), (73, .ishr, 1, 0, 0, []), (74, .iconst 1, 1, 0, 0, []), (75, .ishl, 1, 0, 0, []), (76, .iload 6, 2, 0, 0, []), (78, .ior, 1, 0, 0, []), (79, .iload 5, 2, 0, 0, []), (81, .ior, 1, 0, 0, []), (82, .istore_n 3, 1, 0, 0, []), (83, .goto 63, 3, 146, 0, []), (86, .iload_n 3, 1, 0, 0, []), (87, .iconst 1, 1, 0, 0, []), (88, .ixor, 1, 0, 0, []), (89, .istore_n 3, 1, 0, 0, []), (90, .goto 56, 3, 146, 0, []), (93, .aload_n 0, 1, 0, 0, []), (94, .getfield 30, 3, 8, 8, []), (97, .aload_n 0, 1, 0, 0, []), (98, .getfield 24, 3, 8, 6, []), (101, .iload 4, 2, 0, 0, []), (103, .iaload, 1, 0, 0, []), (104, .iaload, 1, 0, 0, []), (105, .aload_n 0, 1, 0, 0, []), (106, .getfield 30, 3, 8, 8, []), (109, .aload_n 0, 1, 0, 0, []), (110, .getfield 27, 3, 8, 7, []), (113, .iload 4, 2, 0, 0, []), (115, .iaload, 1, 0, 0, []), (116, .iaload, 1, 0, 0, []), (117, .invokestatic 54, 3, 2, 2, [(0, 319)]), (120, .iconst 1, 1, 0, 0, []), (121, .iadd, 1, 0, 0, []), (122, .istore 7, 2, 0, 0, []), (124, .iload_n 3, 1, 0, 0, []), (125, .iconst 1, 1, 0, 0, []), (126, .ishl, 1, 0, 0, []), (127, .iload 7, 2, 0, 0, []), (129, .aload_n 0, 1, 0, 0, []), (130, .getfield 21, 3, 8, 5, []), (133, .iload 4, 2, 0, 0, []), (135, .iaload, 1, 0, 0, []), (136, .if_icmp .ne 7, 3, 143, 0, []), (139, .iconst 1, 1, 0, 0, []), (140, .goto 4, 3, 144, 0, []), (143, .iconst 0, 1, 0, 0, []), (144, .ior, 1, 0, 0, []), (145, .istore_n 3, 1, 0, 0, []), (146, .iinc 4 1, 3, 0, 0, []), (149, .goto (-144), 3, 5, 0, []), (152, .iload_n 3, 1, 0, 0, []), (153, .iconst 1, 1, 0, 0, []), (154, .iand, 1, 0, 0, []), (155, .iconst 1, 1, 0, 0, []), (156, .if_icmp .ne 7, 3, 163, 0, []), (159, .iconst 1, 1, 0, 0, []), (160, .goto 4, 3, 164, 0, []), (163, .iconst 0, 1, 0, 0, []), (164, .ireturn, 1, 0, 0, [])]
/-- ShadowSchool$School.<init>()V -/
def jc_76 : List jw_I := [(0, .aload_n 0, 1, 0, 0, []), (1, .invokespecial 3, 3, 7, 0, []), (4, .aload_n 0, 1, 0, 0, []), (5, .bipush 6, 2, 0, 0, []), (7, .newarray .int, 2, 0, 0, []), (9, .putfield 9, 3, 9, 1, [(0, 3)]), (12, .aload_n 0, 1, 0, 0, []), (13, .bipush 6, 2, 0, 0, []), (15, .newarray .int, 2, 0, 0, []), (17, .putfield 15, 3, 9, 2, [(0, 3)]), (20, .aload_n 0, 1, 0, 0, []), (21, .bipush 6, 2, 0, 0, []), (23, .newarray .int, 2, 0, 0, []), (25, .putfield 18, 3, 9, 3, [(0, 3)]), (28, .aload_n 0, 1, 0, 0, []), (29, .bipush 6, 2, 0, 0, []), (31, .newarray .int, 2, 0, 0, []), (33, .putfield 21, 3, 9, 4, [(0, 3)]), (36, .aload_n 0, 1, 0, 0, []), (37, .bipush 8, 2, 0, 0, []), (39, .newarray .int, 2, 0, 0, []), (41, .putfield 24, 3, 9, 6, [(0, 3)]), (44, .aload_n 0, 1, 0, 0, []), (45, .bipush 8, 2, 0, 0, []), (47, .newarray .int, 2, 0, 0, []), (49, .putfield 27, 3, 9, 7, [(0, 3)]), (52, .aload_n 0, 1, 0, 0, []), (53, .bipush 8, 2, 0, 0, []), (55, .newarray .int, 2, 0, 0, []), (57, .putfield 30, 3, 9, 8, [(0, 3)]), (60, .aload_n 0, 1, 0, 0, []), (61, .bipush 8, 2, 0, 0, []), (63, .newarray .int, 2, 0, 0, []), (65, .putfield 33, 3, 9, 9, [(0, 3)]), (68, .aload_n 0, 1, 0, 0, []), (69, .bipush 8, 2, 0, 0, []), (71, .newarray .int, 2, 0, 0, []), (73, .putfield 36, 3, 9, 10, [(0, 3)]), (76, .aload_n 0, 1, 0, 0, []), (77, .bipush 17, 2, 0, 0, []), (79, .newarray .int, 2, 0, 0, []), (81, .putfield 39, 3, 9, 11, [(0, 3)]), (84, .aload_n 0, 1, 0, 0, []), (85, .bipush 6, 2, 0, 0, []), (87, .iconst 4, 1, 0, 0, []), (88, .multianewarray 42 2, 4, 4, 0, []), (92, .putfield 44, 3, 9, 13, [(0, 3)]), (95, .aload_n 0, 1, 0, 0, []), (96, .bipush 12, 2, 0, 0, []), (98, .putfield 47, 3, 9, 14, [(0, 0)]), (101, .aload_n 0, 1, 0, 0, []), (102, .iconst 1, 1, 0, 0, []), (103, .putfield 51, 3, 9, 15, [(0, 0)]), (106, .aload_n 0, 1, 0, 0, []), (107, .new 54, 3, 8, 0, []), (110, .dup, 1, 0, 0, []), (111, .invokespecial 56, 3, 5, 0, [(8, 67)]), (114, .putfield 57, 3, 9, 16, [(0, 3)]), (117, .aload_n 0, 1, 0, 0, []), (118, .new 61, 3, 6, 0, []), (121, .dup, 1, 0, 0, []), (122, .invokespecial 63, 3, 5, 0, [(6, 41)]), (125, .putfield 64, 3, 9, 17, [(0, 3)]), (128, .aload_n 0, 1, 0, 0, []), (129, .bipush 6, 2, 0, 0, []), (131, .anewarray 68, 3, 3, 0, []), (134, .dup, 1, 0, 0, []), (135, .iconst 0, 1, 0, 0, []), (136, .new 68, 3, 10, 0, []), (139, .dup, 1, 0, 0, []), (140, .invokespecial 70, 3, 5, 0, [(0, 100), (1, 100), (2, 100), (4, 100), (10, 100), (11, 100)]), (143, .aastore, 1, 0, 0, []), (144, .dup, 1, 0, 0, []), (145, .iconst 1, 1, 0, 0, []), (146, .new 71, 3, 4, 0, []), (149, .dup, 1, 0, 0, []), (150, .invokespecial 73, 3, 5, 0, [(4, 29)]), (153, .aastore, 1, 0, 0, []), (154, .dup, 1, 0, 0, []), (155, .iconst 2, 1, 0, 0, []), (156, .new 74, 3, 2, 0, []), (159, .dup, 1, 0, 0, []), (160, .invokespecial 76, 3, 5, 0, [(1, 10), (2, 10)]), (163, .aastore, 1, 0, 0, []), (164, .dup, 1, 0, 0, []), (165, .iconst 3, 1, 0, 0, []), (166, .new 77, 3, 1, 0, []), (169, .dup, 1, 0, 0, []), (170, .invokespecial 79, 3, 5, 0, [(1, 5)]), (173, .aastore, 1, 0, 0, []), (174, .dup, 1, 0, 0, []), (175, .iconst 4, 1, 0, 0, []), (176, .new 80, 3, 11, 0, []), (179, .dup, 1, 0, 0, []), (180, .invokespecial 82, 3, 5, 0, [(0, 107), (11, 107)]), (183, .aastore, 1, 0, 0, []), (184, .dup, 1, 0, 0, []), (185, .iconst 5, 1, 0, 0, []), (186, .new 83, 3, 0, 0, []), (189, .dup, 1, 0, 0, []), (190, .invokespecial 85, 3, 5, 0, [(0, 0)]), (193, .aastore, 1, 0, 0, []), (194, .putfield 86, 3, 9, 18, [(0, 3)]), (197, .return_, 1, 0, 0, [])]
/-- ShadowSchool$School.copyFrom(LShadowSchool$School;)V -/
def jc_77 : List jw_I := [(0, .aload_n 0, 1, 0, 0, []), (1, .aload_n 1, 1, 0, 0, []), (2, .getfield 90, 3, 9, 0, []), (5, .putfield 90, 3, 9, 0, [(0, 0)]), (8, .aload_n 1, 1, 0, 0, []), (9, .getfield 9, 3, 9, 1, []), (12, .aload_n 0, 1, 0, 0, []), (13, .getfield 9, 3, 9, 1, []), (16, .invokestatic 93, 3, 3, 2, [(0, 178)]), (19, .aload_n 1, 1, 0, 0, []), (20, .getfield 15, 3, 9, 2, []), (23, .aload_n 0, 1, 0, 0, []), (24, .getfield 15, 3, 9, 2, []), (27, .invokestatic 93, 3, 3, 2, [(0, 178)]), (30, .aload_n 1, 1, 0, 0, []), (31, .getfield 18, 3, 9, 3, []), (34, .aload_n 0, 1, 0, 0, []), (35, .getfield 18, 3, 9, 3, []), (38, .invokestatic 93, 3, 3, 2, [(0, 178)]), (41, .aload_n 1, 1, 0, 0, []), (42, .getfield 21, 3, 9, 4, []), (45, .aload_n 0, 1, 0, 0, []), (46, .getfield 21, 3, 9, 4, []), (49, .invokestatic 93, 3, 3, 2, [(0, 178)]), (52, .aload_n 0, 1, 0, 0, []), (53, .aload_n 1, 1, 0, 0, []), (54, .getfield 97, 3, 9, 5, []), (57, .putfield 97, 3, 9, 5, [(0, 0)]), (60, .aload_n 1, 1, 0, 0, []), (61, .getfield 24, 3, 9, 6, []), (64, .aload_n 0, 1, 0, 0, []), (65, .getfield 24, 3, 9, 6, []), (68, .invokestatic 93, 3, 3, 2, [(0, 178)]), (71, .aload_n 1, 1, 0, 0, []), (72, .getfield 27, 3, 9, 7, []), (75, .aload_n 0, 1, 0, 0, []), (76, .getfield 27, 3, 9, 7, []), (79, .invokestatic 93, 3, 3, 2, [(0, 178)]), (82, .aload_n 1, 1, 0, 0, []), (83, .getfield 30, 3, 9, 8, []), (86, .aload_n 0, 1, 0, 0, []), (87, .getfield 30, 3, 9, 8, []), (90, .invokestatic 93, 3, 3, 2, [(0, 178)]), (93, .aload_n 1, 1, 0, 0, []), (94, .getfield 33, 3, 9, 9, []), (97, .aload_n 0, 1, 0, 0, []), (98, .getfield 33, 3, 9, 9, []), (101, .invokestatic 93, 3, 3, 2, [(0, 178)]), (104, .aload_n 1, 1, 0, 0, []), (105, .getfield 36, 3, 9, 10, []), (108, .aload_n 0, 1, 0, 0, []), (109, .getfield 36, 3, 9, 10, []), (112, .invokestatic 93, 3, 3, 2, [(0, 178)]), (115, .aload_n 1, 1, 0, 0, []), (116, .getfield 39, 3, 9, 11, []), (119, .aload_n 0, 1, 0, 0, []), (120, .getfield 39, 3, 9, 11, []), (123, .invokestatic 93, 3, 3, 2, [(0, 178)]), (126, .aload_n 0, 1, 0, 0, []), (127, .aload_n 1, 1, 0, 0, []), (128, .getfield 100, 3, 9, 12, []), (131, .putfield 100, 3, 9, 12, [(0, 0)]), (134, .iconst 0, 1, 0, 0, []), (135, .istore_n 2, 1, 0, 0, []), (136, .iload_n 2, 1, 0, 0, []), (137, .bipush 6, 2, 0, 0, []), (139, .if_icmp .ge 24, 3, 163, 0, []), (142, .aload_n 1, 1, 0, 0, []), (143, .getfield 44, 3, 9, 13, []), (146, .iload_n 2, 1, 0, 0, []), (147, .aaload, 1, 0, 0, []), (148, .aload_n 0, 1, 0, 0, []), (149, .getfield 44, 3, 9, 13, []), (152, .iload_n 2, 1, 0, 0, []), (153, .aaload, 1, 0, 0, []), (154, .invokestatic 93, 3, 3, 2, [(0, 178)]), (157, .iinc 2 1, 3, 0, 0, []), (160, .goto (-24), 3, 136, 0, []), (163, .aload_n 0, 1, 0, 0, []), (164, .aload_n 1, 1, 0, 0, []), (165, .getfield 47, 3, 9, 14, []), (168, .putfield 47, 3, 9, 14, [(0, 0)]), (171, .aload_n 0, 1, 0, 0, []), (172, .aload_n 1, 1, 0, 0, []), (173, .getfield 51, 3, 9, 15, []), (176, .putfield 51, 3, 9, 15, [(0, 0)]), (179, .aload_n 0, 1, 0, 0, []), (180, .getfield 57, 3, 9, 16, []), (183, .aload_n 1, 1, 0, 0, []), (184, .getfield 57, 3, 9, 16, []), (187, .invokevirtual 103, 3, 0, 1, [(8, 68)]), (190, .aload_n 0, 1, 0, 0, []), (191, .getfield 64, 3, 9, 17, []), (194, .aload_n 1, 1, 0, 0, []), (195, .getfield 64, 3, 9, 17, []), (198, .invokevirtual 107, 3, 0, 1, [(6, 42)]), (201, .return_, 1, 0, 0, [])]
/-- ShadowSchool$School.isShadow(I)Z -/
def jc_78 : List jw_I := [(0, .iload_n 1, 1, 0, 0, []), (1, .ifCond .lt 15, 3, 16, 0, []), (4, .iload_n 1, 1, 0, 0, []), (5, .aload_n 0, 1, 0, 0, []), (6, .getfield 90, 3, 9, 0, []), (9, .if_icmp .ge 7, 3, 16, 0, []), (12, .iconst 1, 1, 0, 0, []), (13, .goto 4, 3, 17, 0, []), (16, .iconst 0, 1, 0, 0, []), (17, .ireturn, 1, 0, 0, [])]
/-- ShadowSchool$School.isLesson(I)Z -/
def jc_79 : List jw_I := [(0, .iload_n 1, 1, 0, 0, []), (1, .ifCond .lt 15, 3, 16, 0, []), (4, .iload_n 1, 1, 0, 0, []), (5, .aload_n 0, 1, 0, 0, []), (6, .getfield 97, 3, 9, 5, []), (9, .if_icmp .ge 7, 3, 16, 0, []), (12, .iconst 1, 1, 0, 0, []), (13, .goto 4, 3, 17, 0, []), (16, .iconst 0, 1, 0, 0, []), (17, .ireturn, 1, 0, 0, [])]
/-- ShadowSchool$School.isAct(I)Z -/
def jc_80 : List jw_I := [(0, .iload_n 1, 1, 0, 0, []), (1, .ifCond .lt 15, 3, 16, 0, []), (4, .iload_n 1, 1, 0, 0, []), (5, .aload_n 0, 1, 0, 0, []), (6, .getfield 90, 3, 9, 0, []), (9, .if_icmp .gt 7, 3, 16, 0, []), (12, .iconst 1, 1, 0, 0, []), (13, .goto 4, 3, 17, 0, []), (16, .iconst 0, 1, 0, 0, []), (17, .ireturn, 1, 0, 0, [])]
/-- ShadowSchool$School.isSetOfLessons(I)Z -/
def jc_81 : List jw_I := [(0, .iload_n 1, 1, 0, 0, []), (1, .aload_n 0, 1, 0, 0, []), (2, .invokevirtual 110, 3, 0, 0, [(9, 82)]), (5, .iconst (-1), 1, 0, 0, []), (6, .ixor, 1, 0, 0, []), (7, .iand, 1, 0, 0, []), (8, .ifCond .ne 7, 3, 15, 0, []), (11, .iconst 1, 1, 0, 0, []), (12, .goto 4, 3, 16, 0, []), (15, .iconst 0, 1, 0, 0, []), (16, .ireturn, 1, 0, 0, [])]
/-- ShadowSchool$School.allLessons()I -/
def jc_82 : List jw_I := [(0, .iconst 1, 1, 0, 0, []), (1, .aload_n 0, 1, 0, 0, []), (2, .getfield 97, 3, 9, 5, []), (5, .ishl, 1, 0, 0, []), (6, .iconst 1, 1, 0, 0, []), (7, .isub, 1, 0, 0, []), (8, .ireturn, 1, 0, 0, [])]
/-- ShadowSchool$School.isOver(LShadowSchool$Progress;)Z -/
def jc_83 : List jw_I := [(0, .aload_n 1, 1, 0, 0, []), (1, .getfield 114, 3, 6, 0, []), (4, .aload_n 0, 1, 0, 0, []), (5, .getfield 47, 3, 9, 14, []), (8, .if_icmp .lt 7, 3, 15, 0, []), (11, .iconst 1, 1, 0, 0, []), (12, .goto 4, 3, 16, 0, []), (15, .iconst 0, 1, 0, 0, []), (16, .ireturn, 1, 0, 0, [])]
/-- ShadowSchool$School.addShadow(III)I -/
def jc_84 : List jw_I := [(0, .aload_n 0, 1, 0, 0, []), (1, .dup, 1, 0, 0, []), (2, .getfield 90, 3, 9, 0, []), (5, .dup_x1, 1, 0, 0, []), (6, .iconst 1, 1, 0, 0, []), (7, .iadd, 1, 0, 0, []), (8, .putfield 90, 3, 9, 0, [(0, 0)]), (11, .istore 4, 2, 0, 0, []), (13, .aload_n 0, 1, 0, 0, []), (14, .getfield 9, 3, 9, 1, []), (17, .iload 4, 2, 0, 0, []), (19, .iload_n 1, 1, 0, 0, []), (20, .iastore, 1, 0, 0, []), (21, .aload_n 0, 1, 0, 0, []), (22, .getfield 15, 3, 9, 2, []), (25, .iload 4, 2, 0, 0, []), (27, .iload_n 2, 1, 0, 0, []), (28, .iastore, 1, 0, 0, []), (29, .aload_n 0, 1, 0, 0, []), (30, .getfield 18, 3, 9, 3, []), (33, .iload 4, 2, 0, 0, []), (35, .iload_n 3, 1, 0, 0, []), (36, .iastore, 1, 0, 0, []), (37, .iload 4, 2, 0, 0, []), (39, .ireturn, 1, 0, 0, [])]
/-- ShadowSchool$School.addLesson(IIIII)I -/
def jc_85 : List jw_I := [(0, .aload_n 0, 1, 0, 0, []), (1, .dup, 1, 0, 0, []), (2, .getfield 97, 3, 9, 5, []), (5, .dup_x1, 1, 0, 0, []), (6, .iconst 1, 1, 0, 0, []), (7, .iadd, 1, 0, 0, []), (8, .putfield 97, 3, 9, 5, [(0, 0)]), (11, .istore 6, 2, 0, 0, []), (13, .aload_n 0, 1, 0, 0, []), (14, .getfield 24, 3, 9, 6, []), (17, .iload 6, 2, 0, 0, []), (19, .iload_n 1, 1, 0, 0, []), (20, .iastore, 1, 0, 0, []), (21, .aload_n 0, 1, 0, 0, []), (22, .getfield 27, 3, 9, 7, []), (25, .iload 6, 2, 0, 0, []), (27, .iload_n 2, 1, 0, 0, []), (28, .iastore, 1, 0, 0, []), (29, .aload_n 0, 1, 0, 0, []), (30, .getfield 30, 3, 9, 8, []), (33, .iload 6, 2, 0, 0, []), (35, .iload_n 3, 1, 0, 0, []), (36, .iastore, 1, 0, 0, []), (37, .aload_n 0, 1, 0, 0, []), (38, .getfield 33, 3, 9, 9, []), (41, .iload 6, 2, 0, 0, []), (43, .iload 4, 2, 0, 0, []), (45, .iastore, 1, 0, 0, []), (46, .aload_n 0, 1, 0, 0, []), (47, .getfield 36, 3, 9, 10, []), (50, .iload 6, 2, 0, 0, []), (52, .iload 5, 2, 0, 0, []), (54, .iastore, 1, 0, 0, []), (55, .iload_n 3, 1, 0, 0, []), (56, .istore 7, 2, 0, 0, []), (58, .iload 7, 2, 0, 0, []), (60, .iload 4, 2, 0, 0, []), (62, .if_icmp .gt 23, 3, 85, 0, []), (65, .aload_n 0, 1, 0, 0, []), (66, .getfield 39, 3, 9, 11, []), (69, .iload 7, 2, 0, 0, []), (71, .dup2, 1, 0, 0, []), (72, .iaload, 1, 0, 0, []), (73, .iconst 1, 1, 0, 0, []), (74, .iload 6, 2, 0, 0, []), (76, .ishl, 1, 0, 0, []), (77, .ior, 1, 0, 0, []), (78, .iastore, 1, 0, 0, []), (79, .iinc 7 1, 3, 0, 0, []), (82, .goto (-24), 3, 58, 0, []), (85, .iload 6, 2, 0, 0, []), (87, .ireturn, 1, 0, 0, [])]
/-- ShadowSchool$School.addReport(IIII)I -/
def jc_86 : List jw_I := [(0, .aload_n 0, 1, 0, 0, []), (1, .dup, 1, 0, 0, []), (2, .getfield 100, 3, 9, 12, []), (5, .dup_x1, 1, 0, 0, []), (6, .iconst 1, 1, 0, 0, []), (7, .iadd, 1, 0, 0, []), (8, .putfield 100, 3, 9, 12, [(0, 0)]), (11, .istore 5, 2, 0, 0, []), (13, .aload_n 0, 1, 0, 0, []), (14, .getfield 44, 3, 9, 13, []), (17, .iload 5, 2, 0, 0, []), (19, .aaload, 1, 0, 0, []), (20, .iconst 0, 1, 0, 0, []), (21, .iload_n 1, 1, 0, 0, []), (22, .iastore, 1, 0, 0, []), (23, .aload_n 0, 1, 0, 0, []), (24, .getfield 44, 3, 9, 13, []), (27, .iload 5, 2, 0, 0, []), (29, .aaload, 1, 0, 0, []), (30, .iconst 1, 1, 0, 0, []), (31, .iload_n 2, 1, 0, 0, []), (32, .iastore, 1, 0, 0, []), (33, .aload_n 0, 1, 0, 0, []), (34, .getfield 44, 3, 9, 13, []), (37, .iload 5, 2, 0, 0, []), (39, .aaload, 1, 0, 0, []), (40, .iconst 2, 1, 0, 0, []), (41, .iload_n 3, 1, 0, 0, []), (42, .iastore, 1, 0, 0, []), (43, .aload_n 0, 1, 0, 0, []), (44, .getfield 44, 3, 9, 13, []), (47, .iload 5, 2, 0, 0, []), (49, .aaload, 1, 0, 0, []), (50, .iconst 3, 1, 0, 0, []), (51, .iload 4, 2, 0, 0, []), (53, .iastore, 1, 0, 0, []), (54, .iload 5, 2, 0, 0, []), (56, .ireturn, 1, 0, 0, [])]
/-- ShadowSchool$School.thing(I)LShadowSchool$Shade; -/
def jc_87 : List jw_I := [(0, .aload_n 0, 1, 0, 0, []), (1, .getfield 86, 3, 9, 18, []), (4, .aload_n 0, 1, 0, 0, []), (5, .getfield 9, 3, 9, 1, []), (8, .iload_n 1, 1, 0, 0, []), (9, .iaload, 1, 0, 0, []), (10, .aaload, 1, 0, 0, []), (11, .areturn, 1, 0, 0, [])]
/-- ShadowSchool$School.lengthOf(I)I -/
def jc_88 : List jw_I := [(0, .aload_n 0, 1, 0, 0, []), (1, .iload_n 1, 1, 0, 0, []), (2, .invokevirtual 117, 3, 0, 1, [(9, 87)]), (5, .aload_n 0, 1, 0, 0, []), (6, .getfield 64, 3, 9, 17, []), (9, .getfield 114, 3, 6, 0, []), (12, .aload_n 0, 1, 0, 0, []), (13, .getfield 18, 3, 9, 3, []), (16, .iload_n 1, 1, 0, 0, []), (17, .iaload, 1, 0, 0, []), (18, .invokevirtual 121, 3, 420513, 2, [(0, 2), (1, 7), (2, 102), (4, 102), (10, 102), (11, 109)]), (21, .ireturn, 1, 0, 0, [])]
/-- ShadowSchool$School.setQuarrel(III)V -/
def jc_89 : List jw_I := [(0, .aload_n 0, 1, 0, 0, []), (1, .getfield 21, 3, 9, 4, []), (4, .iload_n 1, 1, 0, 0, []), (5, .aload_n 0, 1, 0, 0, []), (6, .getfield 21, 3, 9, 4, []), (9, .iload_n 1, 1, 0, 0, []), (10, .iaload, 1, 0, 0, []), (11, .iconst 1, 1, 0, 0, []), (12, .iload_n 2, 1, 0, 0, []), (13, .ishl, 1, 0, 0, []), (14, .iconst (-1), 1, 0, 0, []), (15, .ixor, 1, 0, 0, []), (16, .iand, 1, 0, 0, []), (17, .iload_n 3, 1, 0, 0, []), (18, .iload_n 2, 1, 0, 0, []), (19, .ishl, 1, 0, 0, []), (20, .ior, 1, 0, 0, []), (21, .iastore, 1, 0, 0, []), (22, .aload_n 0, 1, 0, 0, []), (23, .getfield 21, 3, 9, 4, []), (26, .iload_n 2, 1, 0, 0, []), (27, .aload_n 0, 1, 0, 0, []), (28, .getfield 21, 3, 9, 4, []), (31, .iload_n 2, 1, 0, 0, []), (32, .iaload, 1, 0, 0, []), (33, .iconst 1, 1, 0, 0, []), (34, .iload_n 1, 1, 0, 0, []), (35, .ishl, 1, 0, 0, []), (36, .iconst (-1), 1, 0, 0, []), (37, .ixor, 1, 0, 0, []), (38, .iand, 1, 0, 0, []), (39, .iload_n 3, 1, 0, 0, []), (40, .iload_n 1, 1, 0, 0, []), (41, .ishl, 1, 0, 0, []), (42, .ior, 1, 0, 0, []), (43, .iastore, 1, 0, 0, []), (44, .return_, 1, 0, 0, [])]
/-- ShadowSchool$School.howManyQuarrel()I -/
def jc_90 : List jw_I := [(0, .iconst 0, 1, 0, 0, []), (1, .istore_n 1, 1, 0, 0, []), (2, .iconst 0, 1, 0, 0, []), (3, .istore_n 2, 1, 0, 0, []), (4, .iload_n 2, 1, 0, 0, []), (5, .aload_n 0, 1, 0, 0, []), (6, .getfield 90, 3, 9, 0, []), (9, .if_icmp .ge 21, 3, 30, 0, []), (12, .iload_n 1, 1, 0, 0, []), (13, .aload_n 0, 1, 0, 0, []), (14, .getfield 21, 3, 9, 4, []), (17, .iload_n 2, 1, 0, 0, []), (18, .iaload, 1, 0, 0, []), (19, .invokestatic 125, 3, 2, 1, [(0, 322)]), (22, .iadd, 1, 0, 0, []), (23, .istore_n 1, 1, 0, 0, []), (24, .iinc 2 1, 3, 0, 0, []), (27, .goto (-23), 3, 4, 0, []), (30, .iload_n 1, 1, 0, 0, []), (31, .iconst 2, 1, 0, 0, []), (32, .idiv, 1, 0, 0, []), (33, .ireturn, 1, 0, 0, [])]
/-- ShadowSchool$School.goBy(LShadowSchool$Progress;I)I -/
def jc_91 : List jw_I := [(0, .aload_n 1, 1, 0, 0, []), (1, .getfield 131, 3, 6, 4, []), (4, .iconst 0, 1, 0, 0, []), (5, .invokestatic 134, 3, 2, 2, [(0, 326)]), (8, .iconst 0, 1, 0, 0, []), (9, .istore_n 3, 1, 0, 0, []), (10, .iconst 0, 1, 0, 0, []), (11, .istore 4, 2, 0, 0, []), (13, .iconst 0, 1, 0, 0, []), (14, .istore 5, 2, 0, 0, []), (16, .iload 5, 2, 0, 0, []), (18, .aload_n 0, 1, 0, 0, []), (19, .getfield 90, 3, 9, 0, []), (22, .if_icmp .ge 124, 3, 146, 0, []), (25, .iload 5, 2, 0, 0, []), (27, .iconst 1, 1, 0, 0, []), (28, .iadd, 1, 0, 0, []), (29, .iload_n 2, 1, 0, 0, []), (30, .if_icmp .ne 8, 3, 38, 0, []), (33, .bipush 8, 2, 0, 0, []), (35, .goto 11, 3, 46, 0, []), (38, .aload_n 0, 1, 0, 0, []), (39, .aload_n 1, 1, 0, 0, []), (40, .iload 5, 2, 0, 0, []), (42, .iload_n 3, 1, 0, 0, []), (43, .invokevirtual 140, 3, 0, 3, [(9, 93)]), (46, .istore 6, 2, 0, 0, []), (48, .iload 6, 2, 0, 0, []), (50, .bipush 8, 2, 0, 0, []), (52, .if_icmp .eq 88, 3, 140, 0, []), (55, .aload_n 1, 1, 0, 0, []), (56, .getfield 131, 3, 6, 4, []), (59, .iload 6, 2, 0, 0, []), (61, .dup2, 1, 0, 0, []), (62, .iaload, 1, 0, 0, []), (63, .iconst 1, 1, 0, 0, []), (64, .iadd, 1, 0, 0, []), (65, .iastore, 1, 0, 0, []), (66, .aload_n 1, 1, 0, 0, []), (67, .getfield 131, 3, 6, 4, []), (70, .iload 6, 2, 0, 0, []), (72, .iaload, 1, 0, 0, []), (73, .aload_n 0, 1, 0, 0, []), (74, .getfield 36, 3, 9, 10, []), (77, .iload 6, 2, 0, 0, []), (79, .iaload, 1, 0, 0, []), (80, .if_icmp .lt 10, 3, 90, 0, []), (83, .iload_n 3, 1, 0, 0, []), (84, .iconst 1, 1, 0, 0, []), (85, .iload 6, 2, 0, 0, []), (87, .ishl, 1, 0, 0, []), (88, .ior, 1, 0, 0, []), (89, .istore_n 3, 1, 0, 0, []), (90, .aload_n 1, 1, 0, 0, []), (91, .iload 5, 2, 0, 0, []), (93, .iload 6, 2, 0, 0, []), (95, .aload_n 0, 1, 0, 0, []), (96, .iload 5, 2, 0, 0, []), (98, .invokevirtual 117, 3, 0, 1, [(9, 87)]), (101, .aload_n 1, 1, 0, 0, []), (102, .getfield 114, 3, 6, 0, []), (105, .aload_n 0, 1, 0, 0, []), (106, .getfield 15, 3, 9, 2, []), (109, .iload 5, 2, 0, 0, []), (111, .iaload, 1, 0, 0, []), (112, .invokevirtual 144, 3, 416417, 2, [(0, 1), (1, 6), (2, 11), (4, 30), (10, 101), (11, 108)]), (115, .aload_n 0, 1, 0, 0, []), (116, .getfield 24, 3, 9, 6, []), (119, .iload 6, 2, 0, 0, []), (121, .iaload, 1, 0, 0, []), (122, .invokevirtual 147, 3, 0, 4, [(6, 47)]), (125, .ifCond .eq 15, 3, 140, 0, []), (128, .iload 4, 2, 0, 0, []), (130, .aload_n 0, 1, 0, 0, []), (131, .getfield 24, 3, 9, 6, []), (134, .iload 6, 2, 0, 0, []), (136, .iaload, 1, 0, 0, []), (137, .iadd, 1, 0, 0, []), (138, .istore 4, 2, 0, 0, []), (140, .iinc 5 1, 3, 0, 0, []), (143, .goto (-127), 3, 16, 0, []), (146, .aload_n 1, 1, 0, 0, []), (147, .dup, 1, 0, 0, []), (148, .getfield 114, 3, 6, 0, []), (151, .iconst 1, 1, 0, 0, []), (152, .iadd, 1, 0, 0, []), (153, .putfield 114, 3, 6, 0, [(0, 0)]), (156, .aload_n 1, 1, 0, 0, []), (157, .dup, 1, 0, 0, []), (158, .getfield 151, 3, 6, 1, []), (161, .iload 4, 2, 0, 0, []), (163, .iadd, 1, 0, 0, []), (164, .putfield 151, 3, 6, 1, [(0, 0)]), (167, .iload 4, 2, 0, 0, []), (169, .ireturn, 1, 0, 0, [])]
/-- ShadowSchool$School.goByLot(LShadowSchool$Progress;)I -/
def jc_92 : List jw_I := [(0, .aload_n 0, 1, 0, 0, []), (1, .aload_n 0, 1, 0, 0, []), (2, .getfield 51, 3, 9, 15, []), (5, .ldc 154, 2, 0, 0, [(1103515245, 0)]), (7, .imul, 1, 0, 0, []), (8, .sipush 12345, 3, 0, 0, []), (11, .iadd, 1, 0, 0, []), (12, .putfield 51, 3, 9, 15, [(0, 0)]), (15, .aload_n 0, 1, 0, 0, []), (16, .aload_n 1, 1, 0, 0, []), (17, .aload_n 0, 1, 0, 0, []), (18, .getfield 51, 3, 9, 15, []), (21, .bipush 16, 2, 0, 0, []), (23, .iushr, 1, 0, 0, []), (24, .aload_n 0, 1, 0, 0, []), (25, .getfield 90, 3, 9, 0, []), (28, .iconst 1, 1, 0, 0, []), (29, .iadd, 1, 0, 0, []), (30, .irem, 1, 0, 0, []), (31, .invokevirtual 155, 3, 0, 2, [(9, 91)]), (34, .ireturn, 1, 0, 0, [])]
/-- ShadowSchool$School.choice(LShadowSchool$Progress;II)I -/
def jc_93 : List jw_I := [(0, .aload_n 0, 1, 0, 0, []), (1, .aload_n 1, 1, 0, 0, []), (2, .iload_n 2, 1, 0, 0, []), (3, .iload_n 3, 1, 0, 0, []), (4, .invokevirtual 159, 3, 0, 3, [(9, 94)]), (7, .istore 4, 2, 0, 0, []), (9, .iload 4, 2, 0, 0, []), (11, .ifCond .ne 6, 3, 17, 0, []), (14, .bipush 8, 2, 0, 0, []), (16, .ireturn, 1, 0, 0, []), (17, .aload_n 0, 1, 0, 0, []), (18, .aload_n 1, 1, 0, 0, []), (19, .iload_n 2, 1, 0, 0, []), (20, .invokevirtual 162, 3, 0, 2, [(9, 95)]), (23, .tableswitch 46 0 2 #[25, 34, 43], 25, 69, 0, [(0, 48), (1, 57), (2, 66)]), (48, .bipush 31, 2, 0, 0, []), (50, .iload 4, 2, 0, 0, []), (52, .invokestatic 165, 3, 2, 1, [(0, 320)]), (55, .isub, 1, 0, 0, []), (56, .ireturn, 1, 0, 0, []), (57, .aload_n 0, 1, 0, 0, []), (58, .aload_n 1, 1, 0, 0, []), (59, .iload_n 2, 1, 0, 0, []), (60, .iload 4, 2, 0, 0, []), (62, .invokevirtual 168, 3, 0, 3, [(9, 96)]), (65, .ireturn, 1, 0, 0, []), (66, .bipush 8, 2, 0, 0, []), (68, .ireturn, 1, 0, 0, []), (69, .iload 4, 2, 0, 0, []), (71, .invokestatic 171, 3, 2, 1, [(0, 321)]), (74, .ireturn, 1, 0, 0, [])]
/-- ShadowSchool$School.openTo(LShadowSchool$Progress;II)I -/
def jc_94 : List jw_I := [(0, .aload_n 1, 1, 0, 0, []), (1, .getfield 114, 3, 6, 0, []), (4, .aload_n 0, 1, 0, 0, []), (5, .getfield 39, 3, 9, 11, []), (8, .arraylength, 1, 0, 0, []), (9, .if_icmp .lt 5, 3, 14, 0, []), (12, .iconst 0, 1, 0, 0, []), (13, .ireturn, 1, 0, 0, []), (14, .aload_n 1, 1, 0, 0, []), (15, .getfield 174, 3, 6, 3, []), (18, .iload_n 2, 1, 0, 0, []), (19, .iaload, 1, 0, 0, []), (20, .istore 4, 2, 0, 0, []), (22, .aload_n 0, 1, 0, 0, []), (23, .getfield 39, 3, 9, 11, []), (26, .aload_n 1, 1, 0, 0, []), (27, .getfield 114, 3, 6, 0, []), (30, .iaload, 1, 0, 0, []), (31, .iload 4, 2, 0, 0, []), (33, .iconst (-1), 1, 0, 0, []), (34, .ixor, 1, 0, 0, []), (35, .iand, 1, 0, 0, []), (36, .iload_n 3, 1, 0, 0, []), (37, .iconst (-1), 1, 0, 0, []), (38, .ixor, 1, 0, 0, []), (39, .iand, 1, 0, 0, []), (40, .istore 5, 2, 0, 0, []), (42, .iconst 0, 1, 0, 0, []), (43, .istore 6, 2, 0, 0, []), (45, .iload 6, 2, 0, 0, []), (47, .aload_n 0, 1, 0, 0, []), (48, .getfield 97, 3, 9, 5, []), (51, .if_icmp .ge 53, 3, 104, 0, []), (54, .iload 5, 2, 0, 0, []), (56, .iload 6, 2, 0, 0, []), (58, .ishr, 1, 0, 0, []), (59, .ifCond .eq 45, 3, 104, 0, []), (62, .aload_n 0, 1, 0, 0, []), (63, .getfield 27, 3, 9, 7, []), (66, .iload 6, 2, 0, 0, []), (68, .iaload, 1, 0, 0, []), (69, .ifCond .lt 29, 3, 98, 0, []), (72, .iload 4, 2, 0, 0, []), (74, .aload_n 0, 1, 0, 0, []), (75, .getfield 27, 3, 9, 7, []), (78, .iload 6, 2, 0, 0, []), (80, .iaload, 1, 0, 0, []), (81, .ishr, 1, 0, 0, []), (82, .iconst 1, 1, 0, 0, []), (83, .iand, 1, 0, 0, []), (84, .ifCond .ne 14, 3, 98, 0, []), (87, .iload 5, 2, 0, 0, []), (89, .iconst 1, 1, 0, 0, []), (90, .iload 6, 2, 0, 0, []), (92, .ishl, 1, 0, 0, []), (93, .iconst (-1), 1, 0, 0, []), (94, .ixor, 1, 0, 0, []), (95, .iand, 1, 0, 0, []), (96, .istore 5, 2, 0, 0, []), (98, .iinc 6 1, 3, 0, 0, []), (101, .goto (-56), 3, 45, 0, []), (104, .iload 5, 2, 0, 0, []), (106, .ireturn, 1, 0, 0, [])]
/-- ShadowSchool$School.deedOf(LShadowSchool$Progress;I)I -/
def jc_95 : List jw_I := [(0, .aload_n 0, 1, 0, 0, []), (1, .getfield 57, 3, 9, 16, []), (4, .getfield 177, 3, 8, 0, []), (7, .ifCond .ne 5, 3, 12, 0, []), (10, .iconst 3, 1, 0, 0, []), (11, .ireturn, 1, 0, 0, []), (12, .aload_n 0, 1, 0, 0, []), (13, .getfield 57, 3, 9, 16, []), (16, .aload_n 1, 1, 0, 0, []), (17, .getfield 114, 3, 6, 0, []), (20, .aload_n 1, 1, 0, 0, []), (21, .getfield 174, 3, 6, 3, []), (24, .iload_n 2, 1, 0, 0, []), (25, .iaload, 1, 0, 0, []), (26, .invokestatic 125, 3, 2, 1, [(0, 322)]), (29, .aload_n 0, 1, 0, 0, []), (30, .getfield 15, 3, 9, 2, []), (33, .iload_n 2, 1, 0, 0, []), (34, .iaload, 1, 0, 0, []), (35, .aload_n 0, 1, 0, 0, []), (36, .getfield 18, 3, 9, 3, []), (39, .iload_n 2, 1, 0, 0, []), (40, .iaload, 1, 0, 0, []), (41, .iload_n 2, 1, 0, 0, []), (42, .invokevirtual 180, 3, 0, 5, [(8, 73)]), (45, .aload_n 0, 1, 0, 0, []), (46, .getfield 57, 3, 9, 16, []), (49, .aload_n 0, 1, 0, 0, []), (50, .getfield 9, 3, 9, 1, []), (53, .iload_n 2, 1, 0, 0, []), (54, .iaload, 1, 0, 0, []), (55, .invokevirtual 184, 3, 0, 1, [(8, 74)]), (58, .ireturn, 1, 0, 0, [])]
/-- ShadowSchool$School.easiest(LShadowSchool$Progress;II)I -/
def jc_96 : List jw_I := [(0, .bipush 21, 2, 0, 0, []), (2, .istore 4, 2, 0, 0, []), (4, .bipush 8, 2, 0, 0, []), (6, .istore 5, 2, 0, 0, []), (8, .iconst 0, 1, 0, 0, []), (9, .istore 6, 2, 0, 0, []), (11, .iload 6, 2, 0, 0, []), (13, .aload_n 0, 1, 0, 0, []), (14, .getfield 97, 3, 9, 5, []), (17, .if_icmp .ge 56, 3, 73, 0, []), (20, .aload_n 0, 1, 0, 0, []), (21, .getfield 24, 3, 9, 6, []), (24, .iload 6, 2, 0, 0, []), (26, .iaload, 1, 0, 0, []), (27, .aload_n 1, 1, 0, 0, []), (28, .getfield 187, 3, 6, 2, []), (31, .iload_n 2, 1, 0, 0, []), (32, .bipush 8, 2, 0, 0, []), (34, .imul, 1, 0, 0, []), (35, .iload 6, 2, 0, 0, []), (37, .iadd, 1, 0, 0, []), (38, .iaload, 1, 0, 0, []), (39, .isub, 1, 0, 0, []), (40, .istore 7, 2, 0, 0, []), (42, .iload_n 3, 1, 0, 0, []), (43, .iload 6, 2, 0, 0, []), (45, .ishr, 1, 0, 0, []), (46, .iconst 1, 1, 0, 0, []), (47, .iand, 1, 0, 0, []), (48, .iconst 1, 1, 0, 0, []), (49, .if_icmp .ne 18, 3, 67, 0, []), (52, .iload 7, 2, 0, 0, []), (54, .iload 4, 2, 0, 0, []), (56, .if_icmp .ge 11, 3, 67, 0, []), (59, .iload 7, 2, 0, 0, []), (61, .istore 4, 2, 0, 0, []), (63, .iload 6, 2, 0, 0, []), (65, .istore 5, 2, 0, 0, []), (67, .iinc 6 1, 3, 0, 0, []), (70, .goto (-59), 3, 11, 0, []), (73, .iload 5, 2, 0, 0, []), (75, .ireturn, 1, 0, 0, [])]
/-- ShadowSchool$School.firstFit(I)I -/
def jc_97 : List jw_I := [(0, .iconst 0, 1, 0, 0, []), (1, .istore_n 2, 1, 0, 0, []), (2, .iload_n 2, 1, 0, 0, []), (3, .bipush 80, 2, 0, 0, []), (5, .if_icmp .ge 20, 3, 25, 0, []), (8, .aload_n 0, 1, 0, 0, []), (9, .iload_n 2, 1, 0, 0, []), (10, .iload_n 1, 1, 0, 0, []), (11, .invokevirtual 190, 3, 0, 2, [(9, 99)]), (14, .ifCond .eq 5, 3, 19, 0, []), (17, .iload_n 2, 1, 0, 0, []), (18, .ireturn, 1, 0, 0, []), (19, .iinc 2 1, 3, 0, 0, []), (22, .goto (-20), 3, 2, 0, []), (25, .iconst (-1), 1, 0, 0, []), (26, .ireturn, 1, 0, 0, [])]
/-- ShadowSchool$School.howManyFit()I -/
def jc_98 : List jw_I := [(0, .iconst 0, 1, 0, 0, []), (1, .istore_n 1, 1, 0, 0, []), (2, .iconst 0, 1, 0, 0, []), (3, .istore_n 2, 1, 0, 0, []), (4, .iload_n 2, 1, 0, 0, []), (5, .bipush 80, 2, 0, 0, []), (7, .if_icmp .ge 22, 3, 29, 0, []), (10, .aload_n 0, 1, 0, 0, []), (11, .iload_n 2, 1, 0, 0, []), (12, .bipush (-3), 2, 0, 0, []), (14, .invokevirtual 190, 3, 0, 2, [(9, 99)]), (17, .ifCond .eq 6, 3, 23, 0, []), (20, .iinc 1 1, 3, 0, 0, []), (23, .iinc 2 1, 3, 0, 0, []), (26, .goto (-22), 3, 4, 0, []), (29, .iload_n 1, 1, 0, 0, []), (30, .ireturn, 1, 0, 0, [])]
/-- ShadowSchool$School.fits(II)Z -/
def jc_99 : List jw_I := [(0, .iconst 0, 1, 0, 0, []), (1, .istore_n 3, 1, 0, 0, []), (2, .iload_n 3, 1, 0, 0, []), (3, .aload_n 0, 1, 0, 0, []), (4, .getfield 100, 3, 9, 12, []), (7, .if_icmp .ge 69, 3, 76, 0, []), (10, .aload_n 0, 1, 0, 0, []), (11, .getfield 44, 3, 9, 13, []), (14, .iload_n 3, 1, 0, 0, []), (15, .aaload, 1, 0, 0, []), (16, .astore 4, 2, 0, 0, []), (18, .aload_n 0, 1, 0, 0, []), (19, .getfield 86, 3, 9, 18, []), (22, .aload 4, 2, 0, 0, []), (24, .iconst 0, 1, 0, 0, []), (25, .iaload, 1, 0, 0, []), (26, .aaload, 1, 0, 0, []), (27, .iload_n 1, 1, 0, 0, []), (28, .iconst 5, 1, 0, 0, []), (29, .idiv, 1, 0, 0, []), (30, .aload 4, 2, 0, 0, []), (32, .iconst 1, 1, 0, 0, []), (33, .iaload, 1, 0, 0, []), (34, .invokevirtual 121, 3, 420513, 2, [(0, 2), (1, 7), (2, 102), (4, 102), (10, 102), (11, 109)]), (37, .iload_n 1, 1, 0, 0, []), (38, .iconst 5, 1, 0, 0, []), (39, .irem, 1, 0, 0, []), (40, .iconst 1, 1, 0, 0, []), (41, .iadd, 1, 0, 0, []), (42, .imul, 1, 0, 0, []), (43, .istore 5, 2, 0, 0, []), (45, .iload_n 3, 1, 0, 0, []), (46, .iload_n 2, 1, 0, 0, []), (47, .if_icmp .eq 23, 3, 70, 0, []), (50, .iload 5, 2, 0, 0, []), (52, .aload 4, 2, 0, 0, []), (54, .iconst 2, 1, 0, 0, []), (55, .iaload, 1, 0, 0, []), (56, .if_icmp .lt 12, 3, 68, 0, []), (59, .iload 5, 2, 0, 0, []), (61, .aload 4, 2, 0, 0, []), (63, .iconst 3, 1, 0, 0, []), (64, .iaload, 1, 0, 0, []), (65, .if_icmp .le 5, 3, 70, 0, []), (68, .iconst 0, 1, 0, 0, []), (69, .ireturn, 1, 0, 0, []), (70, .iinc 3 1, 3, 0, 0, []), (73, .goto (-71), 3, 2, 0, []), (76, .iconst 1, 1, 0, 0, []), (77, .ireturn, 1, 0, 0, [])]
/-- ShadowSchool$Shade.<init>()V -/
def jc_100 : List jw_I := [(0, .aload_n 0, 1, 0, 0, []), (1, .invokespecial 1, 3, 7, 0, []), (4, .return_, 1, 0, 0, [])]
/-- ShadowSchool$Shade.paceIn(II)I -/
def jc_101 : List jw_I := [(0, .iload_n 2, 1, 0, 0, []), (1, .ireturn, 1, 0, 0, [])]
/-- ShadowSchool$Shade.lengthIn(II)I -/
def jc_102 : List jw_I := [(0, .iload_n 2, 1, 0, 0, []), (1, .iload_n 1, 1, 0, 0, []), (2, .bipush 6, 2, 0, 0, []), (4, .isub, 1, 0, 0, []), (5, .invokestatic 7, 3, 2, 1, [(0, 323)]), (8, .imul, 1, 0, 0, []), (9, .ireturn, 1, 0, 0, [])]
/-- ShadowSchool$Shade.lies(LShadowSchool$Host;I)I -/
def jc_103 : List jw_I := [(0, .aload_n 1, 1, 0, 0, []), (1, .bipush 10, 2, 0, 0, []), (3, .invokevirtual 13, 3, 0, 1, [(3, 27)]), (6, .iload_n 2, 1, 0, 0, []), (7, .iconst 2, 1, 0, 0, []), (8, .imul, 1, 0, 0, []), (9, .aload_n 1, 1, 0, 0, []), (10, .getfield 19, 3, 3, 9, []), (13, .iadd, 1, 0, 0, []), (14, .ireturn, 1, 0, 0, [])]
/-- ShadowSchool$Shade.turns(LShadowSchool$Host;I)I -/
def jc_104 : List jw_I := [(0, .aload_n 1, 1, 0, 0, []), (1, .bipush 11, 2, 0, 0, []), (3, .invokevirtual 13, 3, 0, 1, [(3, 27)]), (6, .aload_n 0, 1, 0, 0, []), (7, .aload_n 1, 1, 0, 0, []), (8, .iload_n 2, 1, 0, 0, []), (9, .invokevirtual 23, 3, 424609, 2, [(0, 103), (1, 8), (2, 103), (4, 31), (10, 103), (11, 103)]), (12, .aload_n 1, 1, 0, 0, []), (13, .getfield 29, 3, 3, 10, []), (16, .isub, 1, 0, 0, []), (17, .ireturn, 1, 0, 0, [])]
/-- ShadowSchool$Shade.folds(LShadowSchool$Host;I)I -/
def jc_105 : List jw_I := [(0, .aload_n 1, 1, 0, 0, []), (1, .bipush 12, 2, 0, 0, []), (3, .invokevirtual 13, 3, 0, 1, [(3, 27)]), (6, .aload_n 1, 1, 0, 0, []), (7, .iload_n 2, 1, 0, 0, []), (8, .aload_n 1, 1, 0, 0, []), (9, .getfield 19, 3, 3, 9, []), (12, .aload_n 1, 1, 0, 0, []), (13, .getfield 29, 3, 3, 10, []), (16, .isub, 1, 0, 0, []), (17, .invokevirtual 32, 3, 0, 2, [(3, 28)]), (20, .ireturn, 1, 0, 0, [])]
/-- ShadowSchool$Shade.asks(LShadowSchool$Host;I)I -/
def jc_106 : List jw_I := [(0, .aload_n 1, 1, 0, 0, []), (1, .bipush 13, 2, 0, 0, []), (3, .invokevirtual 13, 3, 0, 1, [(3, 27)]), (6, .aload_n 0, 1, 0, 0, []), (7, .aload_n 1, 1, 0, 0, []), (8, .iload_n 2, 1, 0, 0, []), (9, .invokevirtual 36, 3, 428705, 2, [(0, 3), (1, 12), (2, 12), (4, 104), (10, 104), (11, 104)]), (12, .iconst 3, 1, 0, 0, []), (13, .imul, 1, 0, 0, []), (14, .ireturn, 1, 0, 0, [])]
/-- ShadowSchool$Slow.<init>()V -/
def jc_107 : List jw_I := [(0, .aload_n 0, 1, 0, 0, []), (1, .invokespecial 1, 3, 5, 0, [(0, 100), (1, 100), (2, 100), (4, 100), (10, 100), (11, 100)]), (4, .return_, 1, 0, 0, [])]
/-- ShadowSchool$Slow.paceIn(II)I -/
def jc_108 : List jw_I := [(0, .aload_n 0, 1, 0, 0, []), (1, .iload_n 1, 1, 0, 0, []), (2, .iload_n 2, 1, 0, 0, []), (3, .invokespecial 7, 3, 164, 2, [(0, 101), (11, 101)]), (6, .iconst 2, 1, 0, 0, []), (7, .idiv, 1, 0, 0, []), (8, .iconst 1, 1, 0, 0, []), (9, .iadd, 1, 0, 0, []), (10, .ireturn, 1, 0, 0, [])]
/-- ShadowSchool$Slow.lengthIn(II)I -/
def jc_109 : List jw_I := [(0, .iload_n 2, 1, 0, 0, []), (1, .iload_n 1, 1, 0, 0, []), (2, .bipush 7, 2, 0, 0, []), (4, .isub, 1, 0, 0, []), (5, .invokestatic 11, 3, 2, 1, [(0, 323)]), (8, .imul, 1, 0, 0, []), (9, .ireturn, 1, 0, 0, [])]
/-- ShadowSchool$Slow.folds(LShadowSchool$Host;I)I -/
def jc_110 : List jw_I := [(0, .aload_n 1, 1, 0, 0, []), (1, .bipush 40, 2, 0, 0, []), (3, .invokevirtual 17, 3, 0, 1, [(3, 27)]), (6, .aload_n 0, 1, 0, 0, []), (7, .aload_n 1, 1, 0, 0, []), (8, .iload_n 2, 1, 0, 0, []), (9, .invokespecial 23, 3, 164, 2, [(0, 105), (11, 105)]), (12, .iconst 1, 1, 0, 0, []), (13, .isub, 1, 0, 0, []), (14, .ireturn, 1, 0, 0, [])]
/-- ShadowSchool.<init>()V -/
def jc_111 : List jw_I := [(0, .aload_n 0, 1, 0, 0, []), (1, .invokespecial 1, 3, 7, 0, []), (4, .aload_n 0, 1, 0, 0, []), (5, .new 7, 3, 9, 0, []), (8, .dup, 1, 0, 0, []), (9, .invokespecial 9, 3, 5, 0, [(9, 76)]), (12, .putfield 10, 3, 12, 0, [(0, 3)]), (15, .aload_n 0, 1, 0, 0, []), (16, .new 7, 3, 9, 0, []), (19, .dup, 1, 0, 0, []), (20, .invokespecial 9, 3, 5, 0, [(9, 76)]), (23, .putfield 16, 3, 12, 1, [(0, 3)]), (26, .aload_n 0, 1, 0, 0, []), (27, .new 19, 3, 6, 0, []), (30, .dup, 1, 0, 0, []), (31, .invokespecial 21, 3, 5, 0, [(6, 41)]), (34, .putfield 22, 3, 12, 3, [(0, 3)]), (37, .aload_n 0, 1, 0, 0, []), (38, .bipush 6, 2, 0, 0, []), (40, .newarray .int, 2, 0, 0, []), (42, .putfield 26, 3, 12, 4, [(0, 3)]), (45, .aload_n 0, 1, 0, 0, []), (46, .new 30, 3, 7, 0, []), (49, .dup, 1, 0, 0, []), (50, .invokespecial 32, 3, 5, 0, [(7, 48)]), (53, .putfield 33, 3, 12, 5, [(0, 3)]), (56, .aload_n 0, 1, 0, 0, []), (57, .new 37, 3, 5, 0, []), (60, .dup, 1, 0, 0, []), (61, .invokespecial 39, 3, 5, 0, [(5, 32)]), (64, .putfield 40, 3, 12, 6, [(0, 3)]), (67, .aload_n 0, 1, 0, 0, []), (68, .new 44, 3, 3, 0, []), (71, .dup, 1, 0, 0, []), (72, .invokespecial 46, 3, 5, 0, [(3, 13)]), (75, .putfield 47, 3, 12, 7, [(0, 3)]), (78, .return_, 1, 0, 0, [])]
/-- ShadowSchool.shadow(III)I -/
def jc_112 : List jw_I := [(0, .iload_n 1, 1, 0, 0, []), (1, .iconst 1, 1, 0, 0, []), (2, .iconst 5, 1, 0, 0, []), (3, .invokestatic 51, 3, 2, 3, [(0, 176)]), (6, .ifCond .eq 23, 3, 29, 0, []), (9, .iload_n 2, 1, 0, 0, []), (10, .iconst 1, 1, 0, 0, []), (11, .bipush 9, 2, 0, 0, []), (13, .invokestatic 51, 3, 2, 3, [(0, 176)]), (16, .ifCond .eq 13, 3, 29, 0, []), (19, .iload_n 3, 1, 0, 0, []), (20, .iconst 1, 1, 0, 0, []), (21, .bipush 9, 2, 0, 0, []), (23, .invokestatic 51, 3, 2, 3, [(0, 176)]), (26, .ifCond .ne 5, 3, 31, 0, []), (29, .iconst (-1), 1, 0, 0, []), (30, .ireturn, 1, 0, 0, []), (31, .aload_n 0, 1, 0, 0, []), (32, .getfield 10, 3, 12, 0, []), (35, .getfield 55, 3, 9, 0, []), (38, .bipush 6, 2, 0, 0, []), (40, .if_icmp .lt 8, 3, 48, 0, []), (43, .bipush (-2), 2, 0, 0, []), (45, .goto 13, 3, 58, 0, []), (48, .aload_n 0, 1, 0, 0, []), (49, .getfield 10, 3, 12, 0, []), (52, .iload_n 1, 1, 0, 0, []), (53, .iload_n 2, 1, 0, 0, []), (54, .iload_n 3, 1, 0, 0, []), (55, .invokevirtual 59, 3, 0, 3, [(9, 84)]), (58, .ireturn, 1, 0, 0, [])]
/-- ShadowSchool.shadowOf(II)I -/
def jc_113 : List jw_I := [(0, .aload_n 0, 1, 0, 0, []), (1, .getfield 10, 3, 12, 0, []), (4, .iload_n 1, 1, 0, 0, []), (5, .invokevirtual 63, 3, 0, 1, [(9, 78)]), (8, .ifCond .ne 5, 3, 13, 0, []), (11, .iconst (-1), 1, 0, 0, []), (12, .ireturn, 1, 0, 0, []), (13, .aload_n 0, 1, 0, 0, []), (14, .getfield 10, 3, 12, 0, []), (17, .getfield 67, 3, 9, 17, []), (20, .astore_n 3, 1, 0, 0, []), (21, .iload_n 2, 1, 0, 0, []), (22, .tableswitch 127 0 6 #[42, 52, 62, 72, 82, 107, 118], 42, 149, 0, [(0, 64), (1, 74), (2, 84), (3, 94), (4, 104), (5, 129), (6, 140)]), (64, .aload_n 0, 1, 0, 0, []), (65, .getfield 10, 3, 12, 0, []), (68, .getfield 70, 3, 9, 1, []), (71, .iload_n 1, 1, 0, 0, []), (72, .iaload, 1, 0, 0, []), (73, .ireturn, 1, 0, 0, []), (74, .aload_n 0, 1, 0, 0, []), (75, .getfield 10, 3, 12, 0, []), (78, .getfield 73, 3, 9, 2, []), (81, .iload_n 1, 1, 0, 0, []), (82, .iaload, 1, 0, 0, []), (83, .ireturn, 1, 0, 0, []), (84, .aload_n 0, 1, 0, 0, []), (85, .getfield 10, 3, 12, 0, []), (88, .getfield 76, 3, 9, 3, []), (91, .iload_n 1, 1, 0, 0, []), (92, .iaload, 1, 0, 0, []), (93, .ireturn, 1, 0, 0, []), (94, .aload_n 3, 1, 0, 0, []), (95, .getfield 79, 3, 6, 3, []), (98, .iload_n 1, 1, 0, 0, []), (99, .iaload, 1, 0, 0, []), (100, .invokestatic 82, 3, 2, 1, [(0, 322)]), (103, .ireturn, 1, 0, 0, []), (104, .aload_n 0, 1, 0, 0, []), (105, .getfield 10, 3, 12, 0, []), (108, .iload_n 1, 1, 0, 0, []), (109, .invokevirtual 88, 3, 0, 1, [(9, 87)]), (112, .aload_n 3, 1, 0, 0, []), (113, .getfield 92, 3, 6, 0, []), (116, .aload_n 0, 1, 0, 0, []), (117, .getfield 10, 3, 12, 0, []), (120, .getfield 73, 3, 9, 2, []), (123, .iload_n 1, 1, 0, 0, []), (124, .iaload, 1, 0, 0, []), (125, .invokevirtual 95, 3, 416417, 2, [(0, 1), (1, 6), (2, 11), (4, 30), (10, 101), (11, 108)]), (128, .ireturn, 1, 0, 0, []), (129, .aload_n 0, 1, 0, 0, []), (130, .getfield 10, 3, 12, 0, []), (133, .aload_n 3, 1, 0, 0, []), (134, .iload_n 1, 1, 0, 0, []), (135, .iconst 0, 1, 0, 0, []), (136, .invokevirtual 101, 3, 0, 3, [(9, 93)]), (139, .ireturn, 1, 0, 0, []), (140, .aload_n 0, 1, 0, 0, []), (141, .getfield 10, 3, 12, 0, []), (144, .iload_n 1, 1, 0, 0, []), (145, .invokevirtual 105, 3, 0, 1, [(9, 88)]), (148, .ireturn, 1, 0, 0, []), (149, .iconst (-1), 1, 0, 0, []), (150, .ireturn, 1, 0, 0, [])]
/-- ShadowSchool.change(III)I -/
def jc_114 : List jw_I := [(0, .aload_n 0, 1, 0, 0, []), (1, .getfield 10, 3, 12, 0, []), (4, .iload_n 1, 1, 0, 0, []), (5, .invokevirtual 63, 3, 0, 1, [(9, 78)]), (8, .ifCond .eq 32, 3, 40, 0, []), (11, .iload_n 2, 1, 0, 0, []), (12, .iconst 1, 1, 0, 0, []), (13, .iconst 2, 1, 0, 0, []), (14, .invokestatic 51, 3, 2, 3, [(0, 176)]), (17, .ifCond .eq 23, 3, 40, 0, []), (20, .iload_n 3, 1, 0, 0, []), (21, .iconst 1, 1, 0, 0, []), (22, .iload_n 2, 1, 0, 0, []), (23, .iconst 1, 1, 0, 0, []), (24, .if_icmp .ne 8, 3, 32, 0, []), (27, .bipush 9, 2, 0, 0, []), (29, .goto 5, 3, 34, 0, []), (32, .bipush 9, 2, 0, 0, []), (34, .invokestatic 51, 3, 2, 3, [(0, 176)]), (37, .ifCond .ne 5, 3, 42, 0, []), (40, .iconst (-1), 1, 0, 0, []), (41, .ireturn, 1, 0, 0, []), (42, .iload_n 2, 1, 0, 0, []), (43, .iconst 1, 1, 0, 0, []), (44, .if_icmp .ne 13, 3, 57, 0, []), (47, .aload_n 0, 1, 0, 0, []), (48, .getfield 10, 3, 12, 0, []), (51, .getfield 73, 3, 9, 2, []), (54, .goto 10, 3, 64, 0, []), (57, .aload_n 0, 1, 0, 0, []), (58, .getfield 10, 3, 12, 0, []), (61, .getfield 76, 3, 9, 3, []), (64, .astore 4, 2, 0, 0, []), (66, .aload 4, 2, 0, 0, []), (68, .iload_n 1, 1, 0, 0, []), (69, .iaload, 1, 0, 0, []), (70, .istore 5, 2, 0, 0, []), (72, .aload 4, 2, 0, 0, []), (74, .iload_n 1, 1, 0, 0, []), (75, .iload_n 3, 1, 0, 0, []), (76, .iastore, 1, 0, 0, []), (77, .iload 5, 2, 0, 0, []), (79, .ireturn, 1, 0, 0, [])]
/-- ShadowSchool.remake(II)I -/
def jc_115 : List jw_I := [(0, .aload_n 0, 1, 0, 0, []), (1, .getfield 10, 3, 12, 0, []), (4, .iload_n 1, 1, 0, 0, []), (5, .invokevirtual 63, 3, 0, 1, [(9, 78)]), (8, .ifCond .eq 12, 3, 20, 0, []), (11, .iload_n 2, 1, 0, 0, []), (12, .iconst 1, 1, 0, 0, []), (13, .iconst 5, 1, 0, 0, []), (14, .invokestatic 51, 3, 2, 3, [(0, 176)]), (17, .ifCond .ne 5, 3, 22, 0, []), (20, .iconst (-1), 1, 0, 0, []), (21, .ireturn, 1, 0, 0, []), (22, .aload_n 0, 1, 0, 0, []), (23, .getfield 10, 3, 12, 0, []), (26, .getfield 70, 3, 9, 1, []), (29, .iload_n 1, 1, 0, 0, []), (30, .iaload, 1, 0, 0, []), (31, .istore_n 3, 1, 0, 0, []), (32, .aload_n 0, 1, 0, 0, []), (33, .getfield 10, 3, 12, 0, []), (36, .getfield 70, 3, 9, 1, []), (39, .iload_n 1, 1, 0, 0, []), (40, .iload_n 2, 1, 0, 0, []), (41, .iastore, 1, 0, 0, []), (42, .iload_n 3, 1, 0, 0, []), (43, .ireturn, 1, 0, 0, [])]
/-- ShadowSchool.lesson(IIIII)I -/
def jc_116 : List jw_I := [(0, .iload_n 1, 1, 0, 0, []), (1, .iconst 1, 1, 0, 0, []), (2, .bipush 20, 2, 0, 0, []), (4, .invokestatic 51, 3, 2, 3, [(0, 176)]), (7, .ifCond .eq 52, 3, 59, 0, []), (10, .iload_n 2, 1, 0, 0, []), (11, .iconst (-1), 1, 0, 0, []), (12, .aload_n 0, 1, 0, 0, []), (13, .getfield 10, 3, 12, 0, []), (16, .getfield 108, 3, 9, 5, []), (19, .iconst 1, 1, 0, 0, []), (20, .isub, 1, 0, 0, []), (21, .invokestatic 51, 3, 2, 3, [(0, 176)]), (24, .ifCond .eq 35, 3, 59, 0, []), (27, .iload_n 3, 1, 0, 0, []), (28, .iconst 0, 1, 0, 0, []), (29, .bipush 15, 2, 0, 0, []), (31, .invokestatic 51, 3, 2, 3, [(0, 176)]), (34, .ifCond .eq 25, 3, 59, 0, []), (37, .iload 4, 2, 0, 0, []), (39, .iload_n 3, 1, 0, 0, []), (40, .bipush 15, 2, 0, 0, []), (42, .invokestatic 51, 3, 2, 3, [(0, 176)]), (45, .ifCond .eq 14, 3, 59, 0, []), (48, .iload 5, 2, 0, 0, []), (50, .iconst 1, 1, 0, 0, []), (51, .bipush 6, 2, 0, 0, []), (53, .invokestatic 51, 3, 2, 3, [(0, 176)]), (56, .ifCond .ne 5, 3, 61, 0, []), (59, .iconst (-1), 1, 0, 0, []), (60, .ireturn, 1, 0, 0, []), (61, .aload_n 0, 1, 0, 0, []), (62, .getfield 10, 3, 12, 0, []), (65, .getfield 108, 3, 9, 5, []), (68, .bipush 8, 2, 0, 0, []), (70, .if_icmp .lt 8, 3, 78, 0, []), (73, .bipush (-2), 2, 0, 0, []), (75, .goto 17, 3, 92, 0, []), (78, .aload_n 0, 1, 0, 0, []), (79, .getfield 10, 3, 12, 0, []), (82, .iload_n 1, 1, 0, 0, []), (83, .iload_n 2, 1, 0, 0, []), (84, .iload_n 3, 1, 0, 0, []), (85, .iload 4, 2, 0, 0, []), (87, .iload 5, 2, 0, 0, []), (89, .invokevirtual 111, 3, 0, 5, [(9, 85)]), (92, .ireturn, 1, 0, 0, [])]
/-- ShadowSchool.lessonOf(II)I -/
def jc_117 : List jw_I := [(0, .aload_n 0, 1, 0, 0, []), (1, .getfield 10, 3, 12, 0, []), (4, .iload_n 1, 1, 0, 0, []), (5, .invokevirtual 115, 3, 0, 1, [(9, 79)]), (8, .ifCond .ne 5, 3, 13, 0, []), (11, .iconst (-1), 1, 0, 0, []), (12, .ireturn, 1, 0, 0, []), (13, .iload_n 2, 1, 0, 0, []), (14, .tableswitch 100 0 5 #[38, 48, 58, 68, 78, 88], 38, 114, 0, [(0, 52), (1, 62), (2, 72), (3, 82), (4, 92), (5, 102)]), (52, .aload_n 0, 1, 0, 0, []), (53, .getfield 10, 3, 12, 0, []), (56, .getfield 118, 3, 9, 6, []), (59, .iload_n 1, 1, 0, 0, []), (60, .iaload, 1, 0, 0, []), (61, .ireturn, 1, 0, 0, []), (62, .aload_n 0, 1, 0, 0, []), (63, .getfield 10, 3, 12, 0, []), (66, .getfield 121, 3, 9, 7, []), (69, .iload_n 1, 1, 0, 0, []), (70, .iaload, 1, 0, 0, []), (71, .ireturn, 1, 0, 0, []), (72, .aload_n 0, 1, 0, 0, []), (73, .getfield 10, 3, 12, 0, []), (76, .getfield 124, 3, 9, 8, []), (79, .iload_n 1, 1, 0, 0, []), (80, .iaload, 1, 0, 0, []), (81, .ireturn, 1, 0, 0, []), (82, .aload_n 0, 1, 0, 0, []), (83, .getfield 10, 3, 12, 0, []), (86, .getfield 127, 3, 9, 9, []), (89, .iload_n 1, 1, 0, 0, []), (90, .iaload, 1, 0, 0, []), (91, .ireturn, 1, 0, 0, []), (92, .aload_n 0, 1, 0, 0, []), (93, .getfield 10, 3, 12, 0, []), (96, .getfield 130, 3, 9, 10, []), (99, .iload_n 1, 1, 0, 0, []), (100, .iaload, 1, 0, 0, []), (101, .ireturn, 1, 0, 0, []), (102, .aload_n 0, 1, 0, 0, []), (103, .getfield 10, 3, 12, 0, []), (106, .getfield 67, 3, 9, 17, []), (109, .iload_n 1, 1, 0, 0, []), (110, .invokevirtual 133, 3, 0, 1, [(6, 45)]), (113, .ireturn, 1, 0, 0, []), (114, .iconst (-1), 1, 0, 0, []), (115, .ireturn, 1, 0, 0, [])]
/-- ShadowSchool.points(II)I -/
def jc_118 : List jw_I := [(0, .aload_n 0, 1, 0, 0, []), (1, .getfield 10, 3, 12, 0, []), (4, .iload_n 1, 1, 0, 0, []), (5, .invokevirtual 63, 3, 0, 1, [(9, 78)]), (8, .ifCond .eq 34, 3, 42, 0, []), (11, .aload_n 0, 1, 0, 0, []), (12, .getfield 10, 3, 12, 0, []), (15, .iload_n 2, 1, 0, 0, []), (16, .invokevirtual 115, 3, 0, 1, [(9, 79)]), (19, .ifCond .eq 23, 3, 42, 0, []), (22, .aload_n 0, 1, 0, 0, []), (23, .getfield 10, 3, 12, 0, []), (26, .getfield 67, 3, 9, 17, []), (29, .getfield 136, 3, 6, 2, []), (32, .iload_n 1, 1, 0, 0, []), (33, .bipush 8, 2, 0, 0, []), (35, .imul, 1, 0, 0, []), (36, .iload_n 2, 1, 0, 0, []), (37, .iadd, 1, 0, 0, []), (38, .iaload, 1, 0, 0, []), (39, .goto 4, 3, 43, 0, []), (42, .iconst (-1), 1, 0, 0, []), (43, .ireturn, 1, 0, 0, [])]
/-- ShadowSchool.dusk(I)I -/
def jc_119 : List jw_I := [(0, .iload_n 1, 1, 0, 0, []), (1, .iconst 1, 1, 0, 0, []), (2, .bipush 16, 2, 0, 0, []), (4, .invokestatic 51, 3, 2, 3, [(0, 176)]), (7, .ifCond .ne 5, 3, 12, 0, []), (10, .iconst (-1), 1, 0, 0, []), (11, .ireturn, 1, 0, 0, []), (12, .iload_n 1, 1, 0, 0, []), (13, .aload_n 0, 1, 0, 0, []), (14, .getfield 10, 3, 12, 0, []), (17, .getfield 67, 3, 9, 17, []), (20, .getfield 92, 3, 6, 0, []), (23, .if_icmp .ge 6, 3, 29, 0, []), (26, .bipush (-4), 2, 0, 0, []), (28, .ireturn, 1, 0, 0, []), (29, .aload_n 0, 1, 0, 0, []), (30, .getfield 10, 3, 12, 0, []), (33, .getfield 139, 3, 9, 14, []), (36, .istore_n 2, 1, 0, 0, []), (37, .aload_n 0, 1, 0, 0, []), (38, .getfield 10, 3, 12, 0, []), (41, .iload_n 1, 1, 0, 0, []), (42, .putfield 139, 3, 9, 14, [(0, 0)]), (45, .iload_n 2, 1, 0, 0, []), (46, .ireturn, 1, 0, 0, [])]
/-- ShadowSchool.anew()I -/
def jc_120 : List jw_I := [(0, .aload_n 0, 1, 0, 0, []), (1, .getfield 10, 3, 12, 0, []), (4, .getfield 67, 3, 9, 17, []), (7, .getfield 92, 3, 6, 0, []), (10, .istore_n 1, 1, 0, 0, []), (11, .aload_n 0, 1, 0, 0, []), (12, .getfield 10, 3, 12, 0, []), (15, .getfield 67, 3, 9, 17, []), (18, .invokevirtual 142, 3, 0, 0, [(6, 43)]), (21, .iload_n 1, 1, 0, 0, []), (22, .ireturn, 1, 0, 0, [])]
/-- ShadowSchool.state(I)I -/
def jc_121 : List jw_I := [(0, .iload_n 1, 1, 0, 0, []), (1, .tableswitch 84 0 3 #[31, 42, 50, 61], 31, 85, 0, [(0, 32), (1, 43), (2, 51), (3, 62)]), (32, .aload_n 0, 1, 0, 0, []), (33, .getfield 10, 3, 12, 0, []), (36, .getfield 67, 3, 9, 17, []), (39, .getfield 92, 3, 6, 0, []), (42, .ireturn, 1, 0, 0, []), (43, .aload_n 0, 1, 0, 0, []), (44, .getfield 10, 3, 12, 0, []), (47, .getfield 139, 3, 9, 14, []), (50, .ireturn, 1, 0, 0, []), (51, .aload_n 0, 1, 0, 0, []), (52, .getfield 10, 3, 12, 0, []), (55, .getfield 67, 3, 9, 17, []), (58, .getfield 145, 3, 6, 1, []), (61, .ireturn, 1, 0, 0, []), (62, .aload_n 0, 1, 0, 0, []), (63, .getfield 10, 3, 12, 0, []), (66, .aload_n 0, 1, 0, 0, []), (67, .getfield 10, 3, 12, 0, []), (70, .getfield 67, 3, 9, 17, []), (73, .invokevirtual 148, 3, 0, 1, [(9, 83)]), (76, .ifCond .eq 7, 3, 83, 0, []), (79, .iconst 1, 1, 0, 0, []), (80, .goto 4, 3, 84, 0, []), (83, .iconst 0, 1, 0, 0, []), (84, .ireturn, 1, 0, 0, []), (85, .iconst (-1), 1, 0, 0, []), (86, .ireturn, 1, 0, 0, [])]
/-- ShadowSchool.feed(JI)I -/
def jc_122 : List jw_I := [(0, .iload_n 3, 1, 0, 0, []), (1, .iconst 1, 1, 0, 0, []), (2, .bipush 8, 2, 0, 0, []), (4, .invokestatic 51, 3, 2, 3, [(0, 176)]), (7, .ifCond .ne 5, 3, 12, 0, []), (10, .iconst (-1), 1, 0, 0, []), (11, .ireturn, 1, 0, 0, []), (12, .aload_n 0, 1, 0, 0, []), (13, .getfield 33, 3, 12, 5, []), (16, .getfield 152, 3, 7, 0, []), (19, .iload_n 3, 1, 0, 0, []), (20, .iadd, 1, 0, 0, []), (21, .sipush 200, 3, 0, 0, []), (24, .if_icmp .le 8, 3, 32, 0, []), (27, .bipush (-2), 2, 0, 0, []), (29, .goto 12, 3, 41, 0, []), (32, .aload_n 0, 1, 0, 0, []), (33, .getfield 33, 3, 12, 5, []), (36, .lload_n 1, 1, 0, 0, []), (37, .iload_n 3, 1, 0, 0, []), (38, .invokevirtual 155, 3, 0, 2, [(7, 49)]), (41, .ireturn, 1, 0, 0, [])]
/-- ShadowSchool.rules()I -/
def jc_123 : List jw_I := [(0, .aload_n 0, 1, 0, 0, []), (1, .getfield 33, 3, 12, 5, []), (4, .invokevirtual 159, 3, 0, 0, [(7, 50)]), (7, .istore_n 1, 1, 0, 0, []), (8, .iload_n 1, 1, 0, 0, []), (9, .ifCond .lt 20, 3, 29, 0, []), (12, .aload_n 0, 1, 0, 0, []), (13, .getfield 10, 3, 12, 0, []), (16, .getfield 163, 3, 9, 16, []), (19, .aload_n 0, 1, 0, 0, []), (20, .getfield 33, 3, 12, 5, []), (23, .getfield 167, 3, 7, 5, []), (26, .invokevirtual 170, 3, 0, 1, [(8, 68)]), (29, .iload_n 1, 1, 0, 0, []), (30, .ireturn, 1, 0, 0, [])]
/-- ShadowSchool.hour()I -/
def jc_124 : List jw_I := [(0, .aload_n 0, 1, 0, 0, []), (1, .getfield 10, 3, 12, 0, []), (4, .aload_n 0, 1, 0, 0, []), (5, .getfield 10, 3, 12, 0, []), (8, .getfield 67, 3, 9, 17, []), (11, .invokevirtual 148, 3, 0, 1, [(9, 83)]), (14, .ifCond .eq 8, 3, 22, 0, []), (17, .bipush (-4), 2, 0, 0, []), (19, .goto 18, 3, 37, 0, []), (22, .aload_n 0, 1, 0, 0, []), (23, .getfield 10, 3, 12, 0, []), (26, .aload_n 0, 1, 0, 0, []), (27, .getfield 10, 3, 12, 0, []), (30, .getfield 67, 3, 9, 17, []), (33, .iconst 0, 1, 0, 0, []), (34, .invokevirtual 176, 3, 0, 2, [(9, 91)]), (37, .ireturn, 1, 0, 0, [])]
/-- ShadowSchool.learnt(I)I -/
def jc_125 : List jw_I := [(0, .aload_n 0, 1, 0, 0, []), (1, .getfield 10, 3, 12, 0, []), (4, .iload_n 1, 1, 0, 0, []), (5, .invokevirtual 63, 3, 0, 1, [(9, 78)]), (8, .ifCond .eq 18, 3, 26, 0, []), (11, .aload_n 0, 1, 0, 0, []), (12, .getfield 10, 3, 12, 0, []), (15, .getfield 67, 3, 9, 17, []), (18, .getfield 79, 3, 6, 3, []), (21, .iload_n 1, 1, 0, 0, []), (22, .iaload, 1, 0, 0, []), (23, .goto 4, 3, 27, 0, []), (26, .iconst (-1), 1, 0, 0, []), (27, .ireturn, 1, 0, 0, [])]
/-- ShadowSchool.on(I)I -/
def jc_126 : List jw_I := [(0, .iload_n 1, 1, 0, 0, []), (1, .iconst 0, 1, 0, 0, []), (2, .bipush 16, 2, 0, 0, []), (4, .invokestatic 51, 3, 2, 3, [(0, 176)]), (7, .ifCond .eq 11, 3, 18, 0, []), (10, .aload_n 0, 1, 0, 0, []), (11, .iload_n 1, 1, 0, 0, []), (12, .invokevirtual 180, 3, 0, 1, [(12, 133)]), (15, .goto 4, 3, 19, 0, []), (18, .iconst (-1), 1, 0, 0, []), (19, .ireturn, 1, 0, 0, [])]
/-- ShadowSchool.when(II)I -/
def jc_127 : List jw_I := [(0, .aload_n 0, 1, 0, 0, []), (1, .getfield 10, 3, 12, 0, []), (4, .iload_n 1, 1, 0, 0, []), (5, .invokevirtual 63, 3, 0, 1, [(9, 78)]), (8, .ifCond .eq 14, 3, 22, 0, []), (11, .aload_n 0, 1, 0, 0, []), (12, .getfield 10, 3, 12, 0, []), (15, .iload_n 2, 1, 0, 0, []), (16, .invokevirtual 115, 3, 0, 1, [(9, 79)]), (19, .ifCond .ne 5, 3, 24, 0, []), (22, .iconst (-1), 1, 0, 0, []), (23, .ireturn, 1, 0, 0, []), (24, .aload_n 0, 1, 0, 0, []), (25, .getfield 22, 3, 12, 3, []), (28, .aload_n 0, 1, 0, 0, []), (29, .getfield 10, 3, 12, 0, []), (32, .getfield 67, 3, 9, 17, []), (35, .invokevirtual 183, 3, 0, 1, [(6, 42)]), (38, .aload_n 0, 1, 0, 0, []), (39, .getfield 22, 3, 12, 3, []), (42, .iload_n 1, 1, 0, 0, []), (43, .iload_n 2, 1, 0, 0, []), (44, .invokevirtual 186, 3, 0, 2, [(6, 44)]), (47, .ifCond .eq 6, 3, 53, 0, []), (50, .bipush (-3), 2, 0, 0, []), (52, .ireturn, 1, 0, 0, []), (53, .aload_n 0, 1, 0, 0, []), (54, .getfield 22, 3, 12, 3, []), (57, .getfield 92, 3, 6, 0, []), (60, .istore_n 3, 1, 0, 0, []), (61, .iload_n 3, 1, 0, 0, []), (62, .aload_n 0, 1, 0, 0, []), (63, .getfield 10, 3, 12, 0, []), (66, .getfield 139, 3, 9, 14, []), (69, .if_icmp .ge 36, 3, 105, 0, []), (72, .aload_n 0, 1, 0, 0, []), (73, .getfield 10, 3, 12, 0, []), (76, .aload_n 0, 1, 0, 0, []), (77, .getfield 22, 3, 12, 3, []), (80, .iconst 0, 1, 0, 0, []), (81, .invokevirtual 176, 3, 0, 2, [(9, 91)]), (84, .pop, 1, 0, 0, []), (85, .aload_n 0, 1, 0, 0, []), (86, .getfield 22, 3, 12, 3, []), (89, .iload_n 1, 1, 0, 0, []), (90, .iload_n 2, 1, 0, 0, []), (91, .invokevirtual 186, 3, 0, 2, [(6, 44)]), (94, .ifCond .eq 5, 3, 99, 0, []), (97, .iload_n 3, 1, 0, 0, []), (98, .ireturn, 1, 0, 0, []), (99, .iinc 3 1, 3, 0, 0, []), (102, .goto (-41), 3, 61, 0, []), (105, .bipush (-3), 2, 0, 0, []), (107, .ireturn, 1, 0, 0, [])]
/-- ShadowSchool.letGo()I -/
def jc_128 : List jw_I := [(0, .aload_n 0, 1, 0, 0, []), (1, .bipush 16, 2, 0, 0, []), (3, .invokevirtual 180, 3, 0, 1, [(12, 133)]), (6, .pop, 1, 0, 0, []), (7, .iconst 0, 1, 0, 0, []), (8, .istore_n 1, 1, 0, 0, []), (9, .iconst 0, 1, 0, 0, []), (10, .istore_n 2, 1, 0, 0, []), (11, .iload_n 2, 1, 0, 0, []), (12, .aload_n 0, 1, 0, 0, []), (13, .getfield 10, 3, 12, 0, []), (16, .getfield 55, 3, 9, 0, []), (19, .if_icmp .ge 34, 3, 53, 0, []), (22, .aload_n 0, 1, 0, 0, []), (23, .getfield 22, 3, 12, 3, []), (26, .getfield 79, 3, 6, 3, []), (29, .iload_n 2, 1, 0, 0, []), (30, .iaload, 1, 0, 0, []), (31, .aload_n 0, 1, 0, 0, []), (32, .getfield 10, 3, 12, 0, []), (35, .invokevirtual 190, 3, 0, 0, [(9, 82)]), (38, .if_icmp .ne 9, 3, 47, 0, []), (41, .iload_n 1, 1, 0, 0, []), (42, .iconst 1, 1, 0, 0, []), (43, .iload_n 2, 1, 0, 0, []), (44, .ishl, 1, 0, 0, []), (45, .ior, 1, 0, 0, []), (46, .istore_n 1, 1, 0, 0, []), (47, .iinc 2 1, 3, 0, 0, []), (50, .goto (-39), 3, 11, 0, []), (53, .iload_n 1, 1, 0, 0, []), (54, .ireturn, 1, 0, 0, [])]
/-- ShadowSchool.crowd(I)I -/
def jc_129 : List jw_I := [(0, .aload_n 0, 1, 0, 0, []), (1, .getfield 10, 3, 12, 0, []), (4, .iload_n 1, 1, 0, 0, []), (5, .invokevirtual 115, 3, 0, 1, [(9, 79)]), (8, .ifCond .ne 5, 3, 13, 0, []), (11, .iconst (-1), 1, 0, 0, []), (12, .ireturn, 1, 0, 0, []), (13, .aload_n 0, 1, 0, 0, []), (14, .getfield 22, 3, 12, 3, []), (17, .aload_n 0, 1, 0, 0, []), (18, .getfield 10, 3, 12, 0, []), (21, .getfield 67, 3, 9, 17, []), (24, .invokevirtual 183, 3, 0, 1, [(6, 42)]), (27, .iconst (-1), 1, 0, 0, []), (28, .istore_n 2, 1, 0, 0, []), (29, .bipush (-3), 2, 0, 0, []), (31, .istore_n 3, 1, 0, 0, []), (32, .aload_n 0, 1, 0, 0, []), (33, .getfield 22, 3, 12, 3, []), (36, .getfield 92, 3, 6, 0, []), (39, .istore 4, 2, 0, 0, []), (41, .iload 4, 2, 0, 0, []), (43, .aload_n 0, 1, 0, 0, []), (44, .getfield 10, 3, 12, 0, []), (47, .getfield 139, 3, 9, 14, []), (50, .if_icmp .ge 48, 3, 98, 0, []), (53, .aload_n 0, 1, 0, 0, []), (54, .getfield 10, 3, 12, 0, []), (57, .aload_n 0, 1, 0, 0, []), (58, .getfield 22, 3, 12, 3, []), (61, .iconst 0, 1, 0, 0, []), (62, .invokevirtual 176, 3, 0, 2, [(9, 91)]), (65, .pop, 1, 0, 0, []), (66, .aload_n 0, 1, 0, 0, []), (67, .getfield 22, 3, 12, 3, []), (70, .getfield 193, 3, 6, 4, []), (73, .iload_n 1, 1, 0, 0, []), (74, .iaload, 1, 0, 0, []), (75, .iload_n 2, 1, 0, 0, []), (76, .if_icmp .le 16, 3, 92, 0, []), (79, .aload_n 0, 1, 0, 0, []), (80, .getfield 22, 3, 12, 3, []), (83, .getfield 193, 3, 6, 4, []), (86, .iload_n 1, 1, 0, 0, []), (87, .iaload, 1, 0, 0, []), (88, .istore_n 2, 1, 0, 0, []), (89, .iload 4, 2, 0, 0, []), (91, .istore_n 3, 1, 0, 0, []), (92, .iinc 4 1, 3, 0, 0, []), (95, .goto (-54), 3, 41, 0, []), (98, .iload_n 3, 1, 0, 0, []), (99, .ireturn, 1, 0, 0, [])]
/-- ShadowSchool.quickFor(I)I -/
def jc_130 : List jw_I := [(0, .aload_n 0, 1, 0, 0, []), (1, .getfield 10, 3, 12, 0, []), (4, .iload_n 1, 1, 0, 0, []), (5, .invokevirtual 63, 3, 0, 1, [(9, 78)]), (8, .ifCond .eq 20, 3, 28, 0, []), (11, .aload_n 0, 1, 0, 0, []), (12, .aload_n 0, 1, 0, 0, []), (13, .getfield 10, 3, 12, 0, []), (16, .getfield 73, 3, 9, 2, []), (19, .iload_n 1, 1, 0, 0, []), (20, .bipush 9, 2, 0, 0, []), (22, .invokevirtual 196, 3, 0, 3, [(12, 134)]), (25, .goto 4, 3, 29, 0, []), (28, .iconst (-1), 1, 0, 0, []), (29, .ireturn, 1, 0, 0, [])]
/-- ShadowSchool.letGoBy(I)I -/
def jc_131 : List jw_I := [(0, .aload_n 0, 1, 0, 0, []), (1, .getfield 10, 3, 12, 0, []), (4, .iload_n 1, 1, 0, 0, []), (5, .invokevirtual 63, 3, 0, 1, [(9, 78)]), (8, .ifCond .ne 5, 3, 13, 0, []), (11, .iconst (-1), 1, 0, 0, []), (12, .ireturn, 1, 0, 0, []), (13, .aload_n 0, 1, 0, 0, []), (14, .getfield 10, 3, 12, 0, []), (17, .getfield 73, 3, 9, 2, []), (20, .iload_n 1, 1, 0, 0, []), (21, .iaload, 1, 0, 0, []), (22, .istore_n 2, 1, 0, 0, []), (23, .bipush (-3), 2, 0, 0, []), (25, .istore_n 3, 1, 0, 0, []), (26, .iconst 1, 1, 0, 0, []), (27, .istore 4, 2, 0, 0, []), (29, .iload 4, 2, 0, 0, []), (31, .bipush 9, 2, 0, 0, []), (33, .if_icmp .gt 55, 3, 88, 0, []), (36, .iload_n 3, 1, 0, 0, []), (37, .bipush (-3), 2, 0, 0, []), (39, .if_icmp .ne 49, 3, 88, 0, []), (42, .aload_n 0, 1, 0, 0, []), (43, .getfield 10, 3, 12, 0, []), (46, .getfield 73, 3, 9, 2, []), (49, .iload_n 1, 1, 0, 0, []), (50, .iload 4, 2, 0, 0, []), (52, .iastore, 1, 0, 0, []), (53, .aload_n 0, 1, 0, 0, []), (54, .bipush 16, 2, 0, 0, []), (56, .invokevirtual 180, 3, 0, 1, [(12, 133)]), (59, .pop, 1, 0, 0, []), (60, .aload_n 0, 1, 0, 0, []), (61, .getfield 22, 3, 12, 3, []), (64, .getfield 79, 3, 6, 3, []), (67, .iload_n 1, 1, 0, 0, []), (68, .iaload, 1, 0, 0, []), (69, .aload_n 0, 1, 0, 0, []), (70, .getfield 10, 3, 12, 0, []), (73, .invokevirtual 190, 3, 0, 0, [(9, 82)]), (76, .if_icmp .ne 6, 3, 82, 0, []), (79, .iload 4, 2, 0, 0, []), (81, .istore_n 3, 1, 0, 0, []), (82, .iinc 4 1, 3, 0, 0, []), (85, .goto (-56), 3, 29, 0, []), (88, .aload_n 0, 1, 0, 0, []), (89, .getfield 10, 3, 12, 0, []), (92, .getfield 73, 3, 9, 2, []), (95, .iload_n 1, 1, 0, 0, []), (96, .iload_n 2, 1, 0, 0, []), (97, .iastore, 1, 0, 0, []), (98, .iload_n 3, 1, 0, 0, []), (99, .ireturn, 1, 0, 0, [])]
/-- ShadowSchool.roomFor(I)I -/
def jc_132 : List jw_I := [(0, .aload_n 0, 1, 0, 0, []), (1, .getfield 10, 3, 12, 0, []), (4, .iload_n 1, 1, 0, 0, []), (5, .invokevirtual 115, 3, 0, 1, [(9, 79)]), (8, .ifCond .eq 20, 3, 28, 0, []), (11, .aload_n 0, 1, 0, 0, []), (12, .aload_n 0, 1, 0, 0, []), (13, .getfield 10, 3, 12, 0, []), (16, .getfield 130, 3, 9, 10, []), (19, .iload_n 1, 1, 0, 0, []), (20, .bipush 6, 2, 0, 0, []), (22, .invokevirtual 196, 3, 0, 3, [(12, 134)]), (25, .goto 4, 3, 29, 0, []), (28, .iconst (-1), 1, 0, 0, []), (29, .ireturn, 1, 0, 0, [])]
/-- ShadowSchool.worthOfRest(I)I -/
def jc_133 : List jw_I := [(0, .aload_n 0, 1, 0, 0, []), (1, .getfield 22, 3, 12, 3, []), (4, .aload_n 0, 1, 0, 0, []), (5, .getfield 10, 3, 12, 0, []), (8, .getfield 67, 3, 9, 17, []), (11, .invokevirtual 183, 3, 0, 1, [(6, 42)]), (14, .iconst 0, 1, 0, 0, []), (15, .istore_n 2, 1, 0, 0, []), (16, .iconst 0, 1, 0, 0, []), (17, .istore_n 3, 1, 0, 0, []), (18, .iload_n 3, 1, 0, 0, []), (19, .iload_n 1, 1, 0, 0, []), (20, .if_icmp .ge 38, 3, 58, 0, []), (23, .aload_n 0, 1, 0, 0, []), (24, .getfield 10, 3, 12, 0, []), (27, .aload_n 0, 1, 0, 0, []), (28, .getfield 22, 3, 12, 3, []), (31, .invokevirtual 148, 3, 0, 1, [(9, 83)]), (34, .ifCond .ne 24, 3, 58, 0, []), (37, .iload_n 2, 1, 0, 0, []), (38, .aload_n 0, 1, 0, 0, []), (39, .getfield 10, 3, 12, 0, []), (42, .aload_n 0, 1, 0, 0, []), (43, .getfield 22, 3, 12, 3, []), (46, .iconst 0, 1, 0, 0, []), (47, .invokevirtual 176, 3, 0, 2, [(9, 91)]), (50, .iadd, 1, 0, 0, []), (51, .istore_n 2, 1, 0, 0, []), (52, .iinc 3 1, 3, 0, 0, []), (55, .goto (-37), 3, 18, 0, []), (58, .iload_n 2, 1, 0, 0, []), (59, .ireturn, 1, 0, 0, [])]
/-- ShadowSchool.worthiest([III)I -/
def jc_134 : List jw_I := [(0, .aload_n 1, 1, 0, 0, []), (1, .iload_n 2, 1, 0, 0, []), (2, .iaload, 1, 0, 0, []), (3, .istore 4, 2, 0, 0, []), (5, .iconst (-1), 1, 0, 0, []), (6, .istore 5, 2, 0, 0, []), (8, .iconst 1, 1, 0, 0, []), (9, .istore 6, 2, 0, 0, []), (11, .iconst 1, 1, 0, 0, []), (12, .istore 7, 2, 0, 0, []), (14, .iload 7, 2, 0, 0, []), (16, .iload_n 3, 1, 0, 0, []), (17, .if_icmp .gt 37, 3, 54, 0, []), (20, .aload_n 1, 1, 0, 0, []), (21, .iload_n 2, 1, 0, 0, []), (22, .iload 7, 2, 0, 0, []), (24, .iastore, 1, 0, 0, []), (25, .aload_n 0, 1, 0, 0, []), (26, .bipush 16, 2, 0, 0, []), (28, .invokevirtual 180, 3, 0, 1, [(12, 133)]), (31, .istore 8, 2, 0, 0, []), (33, .iload 8, 2, 0, 0, []), (35, .iload 5, 2, 0, 0, []), (37, .if_icmp .le 11, 3, 48, 0, []), (40, .iload 8, 2, 0, 0, []), (42, .istore 5, 2, 0, 0, []), (44, .iload 7, 2, 0, 0, []), (46, .istore 6, 2, 0, 0, []), (48, .iinc 7 1, 3, 0, 0, []), (51, .goto (-37), 3, 14, 0, []), (54, .aload_n 1, 1, 0, 0, []), (55, .iload_n 2, 1, 0, 0, []), (56, .iload 4, 2, 0, 0, []), (58, .iastore, 1, 0, 0, []), (59, .iload 6, 2, 0, 0, []), (61, .ireturn, 1, 0, 0, [])]
/-- ShadowSchool.quarrel(III)I -/
def jc_135 : List jw_I := [(0, .aload_n 0, 1, 0, 0, []), (1, .getfield 10, 3, 12, 0, []), (4, .iload_n 1, 1, 0, 0, []), (5, .invokevirtual 63, 3, 0, 1, [(9, 78)]), (8, .ifCond .eq 28, 3, 36, 0, []), (11, .aload_n 0, 1, 0, 0, []), (12, .getfield 10, 3, 12, 0, []), (15, .iload_n 2, 1, 0, 0, []), (16, .invokevirtual 63, 3, 0, 1, [(9, 78)]), (19, .ifCond .eq 17, 3, 36, 0, []), (22, .iload_n 1, 1, 0, 0, []), (23, .iload_n 2, 1, 0, 0, []), (24, .if_icmp .eq 12, 3, 36, 0, []), (27, .iload_n 3, 1, 0, 0, []), (28, .iconst 0, 1, 0, 0, []), (29, .iconst 1, 1, 0, 0, []), (30, .invokestatic 51, 3, 2, 3, [(0, 176)]), (33, .ifCond .ne 5, 3, 38, 0, []), (36, .iconst (-1), 1, 0, 0, []), (37, .ireturn, 1, 0, 0, []), (38, .aload_n 0, 1, 0, 0, []), (39, .getfield 10, 3, 12, 0, []), (42, .getfield 200, 3, 9, 4, []), (45, .iload_n 1, 1, 0, 0, []), (46, .iaload, 1, 0, 0, []), (47, .iload_n 2, 1, 0, 0, []), (48, .ishr, 1, 0, 0, []), (49, .iconst 1, 1, 0, 0, []), (50, .iand, 1, 0, 0, []), (51, .istore 4, 2, 0, 0, []), (53, .aload_n 0, 1, 0, 0, []), (54, .getfield 10, 3, 12, 0, []), (57, .iload_n 1, 1, 0, 0, []), (58, .iload_n 2, 1, 0, 0, []), (59, .iload_n 3, 1, 0, 0, []), (60, .invokevirtual 203, 3, 0, 3, [(9, 89)]), (63, .iload 4, 2, 0, 0, []), (65, .ireturn, 1, 0, 0, [])]
/-- ShadowSchool.quarrels(I)I -/
def jc_136 : List jw_I := [(0, .aload_n 0, 1, 0, 0, []), (1, .getfield 10, 3, 12, 0, []), (4, .iload_n 1, 1, 0, 0, []), (5, .invokevirtual 63, 3, 0, 1, [(9, 78)]), (8, .ifCond .eq 15, 3, 23, 0, []), (11, .aload_n 0, 1, 0, 0, []), (12, .getfield 10, 3, 12, 0, []), (15, .getfield 200, 3, 9, 4, []), (18, .iload_n 1, 1, 0, 0, []), (19, .iaload, 1, 0, 0, []), (20, .goto 4, 3, 24, 0, []), (23, .iconst (-1), 1, 0, 0, []), (24, .ireturn, 1, 0, 0, [])]
/-- ShadowSchool.rooms()I -/
def jc_137 : List jw_I := [(0, .aload_n 0, 1, 0, 0, []), (1, .invokevirtual 207, 3, 0, 0, [(12, 141)]), (4, .ireturn, 1, 0, 0, [])]
/-- ShadowSchool.seat(I)I -/
def jc_138 : List jw_I := [(0, .aload_n 0, 1, 0, 0, []), (1, .getfield 10, 3, 12, 0, []), (4, .iload_n 1, 1, 0, 0, []), (5, .invokevirtual 63, 3, 0, 1, [(9, 78)]), (8, .ifCond .ne 5, 3, 13, 0, []), (11, .iconst (-1), 1, 0, 0, []), (12, .ireturn, 1, 0, 0, []), (13, .aload_n 0, 1, 0, 0, []), (14, .invokevirtual 207, 3, 0, 0, [(12, 141)]), (17, .pop, 1, 0, 0, []), (18, .aload_n 0, 1, 0, 0, []), (19, .getfield 26, 3, 12, 4, []), (22, .iload_n 1, 1, 0, 0, []), (23, .iaload, 1, 0, 0, []), (24, .ireturn, 1, 0, 0, [])]
/-- ShadowSchool.seatings(I)I -/
def jc_139 : List jw_I := [(0, .iload_n 1, 1, 0, 0, []), (1, .iconst 1, 1, 0, 0, []), (2, .iconst 4, 1, 0, 0, []), (3, .invokestatic 51, 3, 2, 3, [(0, 176)]), (6, .ifCond .eq 12, 3, 18, 0, []), (9, .aload_n 0, 1, 0, 0, []), (10, .iconst 0, 1, 0, 0, []), (11, .iload_n 1, 1, 0, 0, []), (12, .invokevirtual 210, 3, 0, 2, [(12, 143)]), (15, .goto 4, 3, 19, 0, []), (18, .iconst (-1), 1, 0, 0, []), (19, .ireturn, 1, 0, 0, [])]
/-- ShadowSchool.match(III)I -/
def jc_140 : List jw_I := [(0, .aload_n 0, 1, 0, 0, []), (1, .getfield 47, 3, 12, 7, []), (4, .iload_n 1, 1, 0, 0, []), (5, .invokevirtual 213, 3, 0, 1, [(3, 14)]), (8, .ifCond .eq 13, 3, 21, 0, []), (11, .iload_n 3, 1, 0, 0, []), (12, .iconst 0, 1, 0, 0, []), (13, .bipush 99, 2, 0, 0, []), (15, .invokestatic 51, 3, 2, 3, [(0, 176)]), (18, .ifCond .ne 5, 3, 23, 0, []), (21, .iconst (-1), 1, 0, 0, []), (22, .ireturn, 1, 0, 0, []), (23, .aload_n 0, 1, 0, 0, []), (24, .getfield 47, 3, 12, 7, []), (27, .iload_n 1, 1, 0, 0, []), (28, .iconst 0, 1, 0, 0, []), (29, .invokevirtual 216, 3, 0, 2, [(3, 18)]), (32, .istore 4, 2, 0, 0, []), (34, .iload 4, 2, 0, 0, []), (36, .ifCond .eq 6, 3, 42, 0, []), (39, .iload 4, 2, 0, 0, []), (41, .ireturn, 1, 0, 0, []), (42, .aload_n 0, 1, 0, 0, []), (43, .getfield 47, 3, 12, 7, []), (46, .iload_n 1, 1, 0, 0, []), (47, .iload_n 2, 1, 0, 0, []), (48, .aload_n 0, 1, 0, 0, []), (49, .getfield 10, 3, 12, 0, []), (52, .getfield 55, 3, 9, 0, []), (55, .invokevirtual 219, 3, 0, 3, [(3, 17)]), (58, .ifCond .eq 15, 3, 73, 0, []), (61, .aload_n 0, 1, 0, 0, []), (62, .iconst 0, 1, 0, 0, []), (63, .iconst 0, 1, 0, 0, []), (64, .iload_n 1, 1, 0, 0, []), (65, .iload_n 2, 1, 0, 0, []), (66, .iload_n 3, 1, 0, 0, []), (67, .invokevirtual 222, 3, 0, 5, [(12, 145)]), (70, .goto 5, 3, 75, 0, []), (73, .bipush (-12), 2, 0, 0, []), (75, .ireturn, 1, 0, 0, [])]
/-- ShadowSchool.fewestRooms()I -/
def jc_141 : List jw_I := [(0, .iconst 0, 1, 0, 0, []), (1, .istore_n 1, 1, 0, 0, []), (2, .iload_n 1, 1, 0, 0, []), (3, .bipush 6, 2, 0, 0, []), (5, .if_icmp .gt 20, 3, 25, 0, []), (8, .aload_n 0, 1, 0, 0, []), (9, .iconst 0, 1, 0, 0, []), (10, .iload_n 1, 1, 0, 0, []), (11, .invokevirtual 225, 3, 0, 2, [(12, 142)]), (14, .ifCond .eq 5, 3, 19, 0, []), (17, .iload_n 1, 1, 0, 0, []), (18, .ireturn, 1, 0, 0, []), (19, .iinc 1 1, 3, 0, 0, []), (22, .goto (-20), 3, 2, 0, []), (25, .bipush 6, 2, 0, 0, []), (27, .ireturn, 1, 0, 0, [])]
/-- ShadowSchool.findSeats(II)Z -/
def jc_142 : List jw_I := [(0, .iload_n 1, 1, 0, 0, []), (1, .aload_n 0, 1, 0, 0, []), (2, .getfield 10, 3, 12, 0, []), (5, .getfield 55, 3, 9, 0, []), (8, .if_icmp .lt 5, 3, 13, 0, []), (11, .iconst 1, 1, 0, 0, []), (12, .ireturn, 1, 0, 0, []), (13, .iconst 0, 1, 0, 0, []), (14, .istore_n 3, 1, 0, 0, []), (15, .iload_n 3, 1, 0, 0, []), (16, .iload_n 2, 1, 0, 0, []), (17, .if_icmp .ge 38, 3, 55, 0, []), (20, .aload_n 0, 1, 0, 0, []), (21, .iload_n 1, 1, 0, 0, []), (22, .iload_n 3, 1, 0, 0, []), (23, .invokevirtual 228, 3, 0, 2, [(12, 144)]), (26, .ifCond .eq 23, 3, 49, 0, []), (29, .aload_n 0, 1, 0, 0, []), (30, .getfield 26, 3, 12, 4, []), (33, .iload_n 1, 1, 0, 0, []), (34, .iload_n 3, 1, 0, 0, []), (35, .iastore, 1, 0, 0, []), (36, .aload_n 0, 1, 0, 0, []), (37, .iload_n 1, 1, 0, 0, []), (38, .iconst 1, 1, 0, 0, []), (39, .iadd, 1, 0, 0, []), (40, .iload_n 2, 1, 0, 0, []), (41, .invokevirtual 225, 3, 0, 2, [(12, 142)]), (44, .ifCond .eq 5, 3, 49, 0, []), (47, .iconst 1, 1, 0, 0, []), (48, .ireturn, 1, 0, 0, []), (49, .iinc 3 1, 3, 0, 0, []), (52, .goto (-37), 3, 15, 0, []), (55, .iconst 0, 1, 0, 0, []), (56, .ireturn, 1, 0, 0, [])]
/-- ShadowSchool.countSeatings(II)I -/
def jc_143 : List jw_I := [(0, .iload_n 1, 1, 0, 0, []), (1, .aload_n 0, 1, 0, 0, []), (2, .getfield 10, 3, 12, 0, []), (5, .getfield 55, 3, 9, 0, []), (8, .if_icmp .lt 5, 3, 13, 0, []), (11, .iconst 1, 1, 0, 0, []), (12, .ireturn, 1, 0, 0, []), (13, .iconst 0, 1, 0, 0, []), (14, .istore_n 3, 1, 0, 0, []), (15, .iconst 0, 1, 0, 0, []), (16, .istore 4, 2, 0, 0, []), (18, .iload 4, 2, 0, 0, []), (20, .iload_n 2, 1, 0, 0, []), (21, .if_icmp .ge 38, 3, 59, 0, []), (24, .aload_n 0, 1, 0, 0, []), (25, .iload_n 1, 1, 0, 0, []), (26, .iload 4, 2, 0, 0, []), (28, .invokevirtual 228, 3, 0, 2, [(12, 144)]), (31, .ifCond .eq 22, 3, 53, 0, []), (34, .aload_n 0, 1, 0, 0, []), (35, .getfield 26, 3, 12, 4, []), (38, .iload_n 1, 1, 0, 0, []), (39, .iload 4, 2, 0, 0, []), (41, .iastore, 1, 0, 0, []), (42, .iload_n 3, 1, 0, 0, []), (43, .aload_n 0, 1, 0, 0, []), (44, .iload_n 1, 1, 0, 0, []), (45, .iconst 1, 1, 0, 0, []), (46, .iadd, 1, 0, 0, []), (47, .iload_n 2, 1, 0, 0, []), (48, .invokevirtual 210, 3, 0, 2, [(12, 143)]), (51, .iadd, 1, 0, 0, []), (52, .istore_n 3, 1, 0, 0, []), (53, .iinc 4 1, 3, 0, 0, []), (56, .goto (-38), 3, 18, 0, []), (59, .iload_n 3, 1, 0, 0, []), (60, .ireturn, 1, 0, 0, [])]
/-- ShadowSchool.mayTake(II)Z -/
def jc_144 : List jw_I := [(0, .iconst 0, 1, 0, 0, []), (1, .istore_n 3, 1, 0, 0, []), (2, .iload_n 3, 1, 0, 0, []), (3, .iload_n 1, 1, 0, 0, []), (4, .if_icmp .ge 38, 3, 42, 0, []), (7, .aload_n 0, 1, 0, 0, []), (8, .getfield 26, 3, 12, 4, []), (11, .iload_n 3, 1, 0, 0, []), (12, .iaload, 1, 0, 0, []), (13, .iload_n 2, 1, 0, 0, []), (14, .if_icmp .ne 22, 3, 36, 0, []), (17, .aload_n 0, 1, 0, 0, []), (18, .getfield 10, 3, 12, 0, []), (21, .getfield 200, 3, 9, 4, []), (24, .iload_n 1, 1, 0, 0, []), (25, .iaload, 1, 0, 0, []), (26, .iload_n 3, 1, 0, 0, []), (27, .ishr, 1, 0, 0, []), (28, .iconst 1, 1, 0, 0, []), (29, .iand, 1, 0, 0, []), (30, .iconst 1, 1, 0, 0, []), (31, .if_icmp .ne 5, 3, 36, 0, []), (34, .iconst 0, 1, 0, 0, []), (35, .ireturn, 1, 0, 0, []), (36, .iinc 3 1, 3, 0, 0, []), (39, .goto (-37), 3, 2, 0, []), (42, .iconst 1, 1, 0, 0, []), (43, .ireturn, 1, 0, 0, [])]
/-- ShadowSchool.countGifts(IIIII)I -/
def jc_145 : List jw_I := [(0, .iload_n 1, 1, 0, 0, []), (1, .aload_n 0, 1, 0, 0, []), (2, .getfield 10, 3, 12, 0, []), (5, .getfield 55, 3, 9, 0, []), (8, .if_icmp .lt 5, 3, 13, 0, []), (11, .iconst 1, 1, 0, 0, []), (12, .ireturn, 1, 0, 0, []), (13, .iconst 0, 1, 0, 0, []), (14, .istore 6, 2, 0, 0, []), (16, .iconst 0, 1, 0, 0, []), (17, .istore 7, 2, 0, 0, []), (19, .iload 7, 2, 0, 0, []), (21, .aload_n 0, 1, 0, 0, []), (22, .getfield 10, 3, 12, 0, []), (25, .getfield 55, 3, 9, 0, []), (28, .if_icmp .ge 71, 3, 99, 0, []), (31, .iload_n 2, 1, 0, 0, []), (32, .iload 7, 2, 0, 0, []), (34, .ishr, 1, 0, 0, []), (35, .iconst 1, 1, 0, 0, []), (36, .iand, 1, 0, 0, []), (37, .ifCond .ne 56, 3, 93, 0, []), (40, .aload_n 0, 1, 0, 0, []), (41, .getfield 47, 3, 12, 7, []), (44, .iload_n 3, 1, 0, 0, []), (45, .iload 4, 2, 0, 0, []), (47, .iload 7, 2, 0, 0, []), (49, .iadd, 1, 0, 0, []), (50, .invokevirtual 231, 3, 0, 2, [(3, 20)]), (53, .aload_n 0, 1, 0, 0, []), (54, .getfield 10, 3, 12, 0, []), (57, .iload_n 1, 1, 0, 0, []), (58, .invokevirtual 105, 3, 0, 1, [(9, 88)]), (61, .isub, 1, 0, 0, []), (62, .invokestatic 234, 3, 2, 1, [(0, 323)]), (65, .iload 5, 2, 0, 0, []), (67, .if_icmp .gt 26, 3, 93, 0, []), (70, .iload 6, 2, 0, 0, []), (72, .aload_n 0, 1, 0, 0, []), (73, .iload_n 1, 1, 0, 0, []), (74, .iconst 1, 1, 0, 0, []), (75, .iadd, 1, 0, 0, []), (76, .iload_n 2, 1, 0, 0, []), (77, .iconst 1, 1, 0, 0, []), (78, .iload 7, 2, 0, 0, []), (80, .ishl, 1, 0, 0, []), (81, .ior, 1, 0, 0, []), (82, .iload_n 3, 1, 0, 0, []), (83, .iload 4, 2, 0, 0, []), (85, .iload 5, 2, 0, 0, []), (87, .invokevirtual 222, 3, 0, 5, [(12, 145)]), (90, .iadd, 1, 0, 0, []), (91, .istore 6, 2, 0, 0, []), (93, .iinc 7 1, 3, 0, 0, []), (96, .goto (-77), 3, 19, 0, []), (99, .iload 6, 2, 0, 0, []), (101, .ireturn, 1, 0, 0, [])]
/-- ShadowSchool.best(I)I -/
def jc_146 : List jw_I := [(0, .iload_n 1, 1, 0, 0, []), (1, .iconst 0, 1, 0, 0, []), (2, .iconst 4, 1, 0, 0, []), (3, .invokestatic 51, 3, 2, 3, [(0, 176)]), (6, .ifCond .ne 5, 3, 11, 0, []), (9, .iconst (-1), 1, 0, 0, []), (10, .ireturn, 1, 0, 0, []), (11, .aload_n 0, 1, 0, 0, []), (12, .getfield 40, 3, 12, 6, []), (15, .aload_n 0, 1, 0, 0, []), (16, .getfield 10, 3, 12, 0, []), (19, .iload_n 1, 1, 0, 0, []), (20, .iconst 0, 1, 0, 0, []), (21, .invokevirtual 239, 3, 0, 3, [(5, 33)]), (24, .aload_n 0, 1, 0, 0, []), (25, .getfield 40, 3, 12, 6, []), (28, .getfield 243, 3, 5, 3, []), (31, .ireturn, 1, 0, 0, [])]
/-- ShadowSchool.ith(II)I -/
def jc_147 : List jw_I := [(0, .iload_n 1, 1, 0, 0, []), (1, .iconst 0, 1, 0, 0, []), (2, .iconst 4, 1, 0, 0, []), (3, .invokestatic 51, 3, 2, 3, [(0, 176)]), (6, .ifCond .eq 12, 3, 18, 0, []), (9, .iload_n 2, 1, 0, 0, []), (10, .iconst 0, 1, 0, 0, []), (11, .iconst 3, 1, 0, 0, []), (12, .invokestatic 51, 3, 2, 3, [(0, 176)]), (15, .ifCond .ne 5, 3, 20, 0, []), (18, .iconst (-1), 1, 0, 0, []), (19, .ireturn, 1, 0, 0, []), (20, .aload_n 0, 1, 0, 0, []), (21, .getfield 40, 3, 12, 6, []), (24, .aload_n 0, 1, 0, 0, []), (25, .getfield 10, 3, 12, 0, []), (28, .iload_n 1, 1, 0, 0, []), (29, .iconst 0, 1, 0, 0, []), (30, .invokevirtual 239, 3, 0, 3, [(5, 33)]), (33, .iload_n 2, 1, 0, 0, []), (34, .aload_n 0, 1, 0, 0, []), (35, .getfield 40, 3, 12, 6, []), (38, .getfield 246, 3, 5, 2, []), (41, .if_icmp .ge 15, 3, 56, 0, []), (44, .aload_n 0, 1, 0, 0, []), (45, .getfield 40, 3, 12, 6, []), (48, .getfield 249, 3, 5, 5, []), (51, .iload_n 2, 1, 0, 0, []), (52, .iaload, 1, 0, 0, []), (53, .goto 5, 3, 58, 0, []), (56, .bipush (-3), 2, 0, 0, []), (58, .ireturn, 1, 0, 0, [])]
/-- ShadowSchool.ways(I)I -/
def jc_148 : List jw_I := [(0, .iload_n 1, 1, 0, 0, []), (1, .iconst 0, 1, 0, 0, []), (2, .iconst 4, 1, 0, 0, []), (3, .invokestatic 51, 3, 2, 3, [(0, 176)]), (6, .ifCond .ne 5, 3, 11, 0, []), (9, .iconst (-1), 1, 0, 0, []), (10, .ireturn, 1, 0, 0, []), (11, .aload_n 0, 1, 0, 0, []), (12, .getfield 40, 3, 12, 6, []), (15, .aload_n 0, 1, 0, 0, []), (16, .getfield 10, 3, 12, 0, []), (19, .iload_n 1, 1, 0, 0, []), (20, .iconst 0, 1, 0, 0, []), (21, .invokevirtual 239, 3, 0, 3, [(5, 33)]), (24, .aload_n 0, 1, 0, 0, []), (25, .getfield 40, 3, 12, 6, []), (28, .getfield 252, 3, 5, 4, []), (31, .ireturn, 1, 0, 0, [])]
/-- ShadowSchool.taught(II)I -/
def jc_149 : List jw_I := [(0, .iload_n 1, 1, 0, 0, []), (1, .iconst 0, 1, 0, 0, []), (2, .iconst 4, 1, 0, 0, []), (3, .invokestatic 51, 3, 2, 3, [(0, 176)]), (6, .ifCond .eq 14, 3, 20, 0, []), (9, .aload_n 0, 1, 0, 0, []), (10, .getfield 10, 3, 12, 0, []), (13, .iload_n 2, 1, 0, 0, []), (14, .invokevirtual 255, 3, 0, 1, [(9, 81)]), (17, .ifCond .ne 5, 3, 22, 0, []), (20, .iconst (-1), 1, 0, 0, []), (21, .ireturn, 1, 0, 0, []), (22, .aload_n 0, 1, 0, 0, []), (23, .getfield 40, 3, 12, 6, []), (26, .aload_n 0, 1, 0, 0, []), (27, .getfield 10, 3, 12, 0, []), (30, .iload_n 1, 1, 0, 0, []), (31, .iload_n 2, 1, 0, 0, []), (32, .invokevirtual 239, 3, 0, 3, [(5, 33)]), (35, .aload_n 0, 1, 0, 0, []), (36, .getfield 40, 3, 12, 6, []), (39, .getfield 258, 3, 5, 7, []), (42, .iconst 4, 1, 0, 0, []), (43, .if_icmp .gt 13, 3, 56, 0, []), (46, .aload_n 0, 1, 0, 0, []), (47, .getfield 40, 3, 12, 6, []), (50, .getfield 258, 3, 5, 7, []), (53, .goto 5, 3, 58, 0, []), (56, .bipush (-3), 2, 0, 0, []), (58, .ireturn, 1, 0, 0, [])]
/-- ShadowSchool.bars(II)I -/
def jc_150 : List jw_I := [(0, .iload_n 1, 1, 0, 0, []), (1, .iconst 0, 1, 0, 0, []), (2, .iconst 4, 1, 0, 0, []), (3, .invokestatic 51, 3, 2, 3, [(0, 176)]), (6, .ifCond .eq 14, 3, 20, 0, []), (9, .aload_n 0, 1, 0, 0, []), (10, .getfield 10, 3, 12, 0, []), (13, .iload_n 2, 1, 0, 0, []), (14, .invokevirtual 255, 3, 0, 1, [(9, 81)]), (17, .ifCond .ne 5, 3, 22, 0, []), (20, .iconst (-1), 1, 0, 0, []), (21, .ireturn, 1, 0, 0, []), (22, .aload_n 0, 1, 0, 0, []), (23, .getfield 40, 3, 12, 6, []), (26, .aload_n 0, 1, 0, 0, []), (27, .getfield 10, 3, 12, 0, []), (30, .iload_n 1, 1, 0, 0, []), (31, .iload_n 2, 1, 0, 0, []), (32, .invokevirtual 239, 3, 0, 3, [(5, 33)]), (35, .iload_n 2, 1, 0, 0, []), (36, .aload_n 0, 1, 0, 0, []), (37, .getfield 40, 3, 12, 6, []), (40, .getfield 261, 3, 5, 8, []), (43, .iconst (-1), 1, 0, 0, []), (44, .ixor, 1, 0, 0, []), (45, .iand, 1, 0, 0, []), (46, .istore_n 3, 1, 0, 0, []), (47, .iload_n 3, 1, 0, 0, []), (48, .ifCond .ne 8, 3, 56, 0, []), (51, .bipush (-3), 2, 0, 0, []), (53, .goto 7, 3, 60, 0, []), (56, .iload_n 3, 1, 0, 0, []), (57, .invokestatic 264, 3, 2, 1, [(0, 321)]), (60, .ireturn, 1, 0, 0, [])]
/-- ShadowSchool.game(I)I -/
def jc_151 : List jw_I := [(0, .iload_n 1, 1, 0, 0, []), (1, .iconst 1, 1, 0, 0, []), (2, .iconst 4, 1, 0, 0, []), (3, .invokestatic 51, 3, 2, 3, [(0, 176)]), (6, .ifCond .eq 18, 3, 24, 0, []), (9, .aload_n 0, 1, 0, 0, []), (10, .getfield 40, 3, 12, 6, []), (13, .aload_n 0, 1, 0, 0, []), (14, .getfield 10, 3, 12, 0, []), (17, .iload_n 1, 1, 0, 0, []), (18, .invokevirtual 267, 3, 0, 2, [(5, 36)]), (21, .goto 4, 3, 25, 0, []), (24, .iconst (-1), 1, 0, 0, []), (25, .ireturn, 1, 0, 0, [])]
/-- ShadowSchool.play(I)I -/
def jc_152 : List jw_I := [(0, .iload_n 1, 1, 0, 0, []), (1, .iconst 1, 1, 0, 0, []), (2, .iconst 4, 1, 0, 0, []), (3, .invokestatic 51, 3, 2, 3, [(0, 176)]), (6, .ifCond .ne 5, 3, 11, 0, []), (9, .iconst (-1), 1, 0, 0, []), (10, .ireturn, 1, 0, 0, []), (11, .aload_n 0, 1, 0, 0, []), (12, .getfield 10, 3, 12, 0, []), (15, .aload_n 0, 1, 0, 0, []), (16, .getfield 10, 3, 12, 0, []), (19, .getfield 67, 3, 9, 17, []), (22, .invokevirtual 148, 3, 0, 1, [(9, 83)]), (25, .ifCond .eq 6, 3, 31, 0, []), (28, .bipush (-3), 2, 0, 0, []), (30, .ireturn, 1, 0, 0, []), (31, .aload_n 0, 1, 0, 0, []), (32, .getfield 40, 3, 12, 6, []), (35, .aload_n 0, 1, 0, 0, []), (36, .getfield 10, 3, 12, 0, []), (39, .iload_n 1, 1, 0, 0, []), (40, .invokevirtual 267, 3, 0, 2, [(5, 36)]), (43, .pop, 1, 0, 0, []), (44, .aload_n 0, 1, 0, 0, []), (45, .getfield 40, 3, 12, 6, []), (48, .getfield 271, 3, 5, 9, []), (51, .ireturn, 1, 0, 0, [])]
/-- ShadowSchool.report(IIII)I -/
def jc_153 : List jw_I := [(0, .iload_n 1, 1, 0, 0, []), (1, .iconst 1, 1, 0, 0, []), (2, .iconst 5, 1, 0, 0, []), (3, .invokestatic 51, 3, 2, 3, [(0, 176)]), (6, .ifCond .eq 36, 3, 42, 0, []), (9, .iload_n 2, 1, 0, 0, []), (10, .iconst 1, 1, 0, 0, []), (11, .bipush 9, 2, 0, 0, []), (13, .invokestatic 51, 3, 2, 3, [(0, 176)]), (16, .ifCond .eq 26, 3, 42, 0, []), (19, .iload_n 3, 1, 0, 0, []), (20, .iconst 0, 1, 0, 0, []), (21, .sipush 999, 3, 0, 0, []), (24, .invokestatic 51, 3, 2, 3, [(0, 176)]), (27, .ifCond .eq 15, 3, 42, 0, []), (30, .iload 4, 2, 0, 0, []), (32, .iload_n 3, 1, 0, 0, []), (33, .sipush 999, 3, 0, 0, []), (36, .invokestatic 51, 3, 2, 3, [(0, 176)]), (39, .ifCond .ne 5, 3, 44, 0, []), (42, .iconst (-1), 1, 0, 0, []), (43, .ireturn, 1, 0, 0, []), (44, .aload_n 0, 1, 0, 0, []), (45, .getfield 10, 3, 12, 0, []), (48, .getfield 274, 3, 9, 12, []), (51, .bipush 6, 2, 0, 0, []), (53, .if_icmp .lt 8, 3, 61, 0, []), (56, .bipush (-2), 2, 0, 0, []), (58, .goto 15, 3, 73, 0, []), (61, .aload_n 0, 1, 0, 0, []), (62, .getfield 10, 3, 12, 0, []), (65, .iload_n 1, 1, 0, 0, []), (66, .iload_n 2, 1, 0, 0, []), (67, .iload_n 3, 1, 0, 0, []), (68, .iload 4, 2, 0, 0, []), (70, .invokevirtual 277, 3, 0, 4, [(9, 86)]), (73, .ireturn, 1, 0, 0, [])]
/-- ShadowSchool.forget()I -/
def jc_154 : List jw_I := [(0, .aload_n 0, 1, 0, 0, []), (1, .getfield 10, 3, 12, 0, []), (4, .getfield 274, 3, 9, 12, []), (7, .istore_n 1, 1, 0, 0, []), (8, .aload_n 0, 1, 0, 0, []), (9, .getfield 10, 3, 12, 0, []), (12, .iconst 0, 1, 0, 0, []), (13, .putfield 274, 3, 9, 12, [(0, 0)]), (16, .iload_n 1, 1, 0, 0, []), (17, .ireturn, 1, 0, 0, [])]
/-- ShadowSchool.span(I)I -/
def jc_155 : List jw_I := [(0, .iload_n 1, 1, 0, 0, []), (1, .iconst 0, 1, 0, 0, []), (2, .iconst 2, 1, 0, 0, []), (3, .invokestatic 51, 3, 2, 3, [(0, 176)]), (6, .ifCond .ne 5, 3, 11, 0, []), (9, .iconst (-1), 1, 0, 0, []), (10, .ireturn, 1, 0, 0, []), (11, .iload_n 1, 1, 0, 0, []), (12, .ifCond .ne 11, 3, 23, 0, []), (15, .aload_n 0, 1, 0, 0, []), (16, .getfield 10, 3, 12, 0, []), (19, .invokevirtual 281, 3, 0, 0, [(9, 98)]), (22, .ireturn, 1, 0, 0, []), (23, .aload_n 0, 1, 0, 0, []), (24, .getfield 10, 3, 12, 0, []), (27, .bipush (-3), 2, 0, 0, []), (29, .invokevirtual 284, 3, 0, 1, [(9, 97)]), (32, .istore_n 2, 1, 0, 0, []), (33, .iload_n 2, 1, 0, 0, []), (34, .ifCond .ge 6, 3, 40, 0, []), (37, .bipush (-3), 2, 0, 0, []), (39, .ireturn, 1, 0, 0, []), (40, .iload_n 1, 1, 0, 0, []), (41, .iconst 1, 1, 0, 0, []), (42, .if_icmp .ne 9, 3, 51, 0, []), (45, .iload_n 2, 1, 0, 0, []), (46, .iconst 5, 1, 0, 0, []), (47, .idiv, 1, 0, 0, []), (48, .goto 8, 3, 56, 0, []), (51, .iload_n 2, 1, 0, 0, []), (52, .iconst 5, 1, 0, 0, []), (53, .irem, 1, 0, 0, []), (54, .iconst 1, 1, 0, 0, []), (55, .iadd, 1, 0, 0, []), (56, .ireturn, 1, 0, 0, [])]
/-- ShadowSchool.liar()I -/
def jc_156 : List jw_I := [(0, .aload_n 0, 1, 0, 0, []), (1, .getfield 10, 3, 12, 0, []), (4, .bipush (-3), 2, 0, 0, []), (6, .invokevirtual 284, 3, 0, 1, [(9, 97)]), (9, .ifCond .lt 6, 3, 15, 0, []), (12, .bipush (-3), 2, 0, 0, []), (14, .ireturn, 1, 0, 0, []), (15, .iconst 0, 1, 0, 0, []), (16, .istore_n 1, 1, 0, 0, []), (17, .iload_n 1, 1, 0, 0, []), (18, .aload_n 0, 1, 0, 0, []), (19, .getfield 10, 3, 12, 0, []), (22, .getfield 274, 3, 9, 12, []), (25, .if_icmp .ge 22, 3, 47, 0, []), (28, .aload_n 0, 1, 0, 0, []), (29, .getfield 10, 3, 12, 0, []), (32, .iload_n 1, 1, 0, 0, []), (33, .invokevirtual 284, 3, 0, 1, [(9, 97)]), (36, .ifCond .lt 5, 3, 41, 0, []), (39, .iload_n 1, 1, 0, 0, []), (40, .ireturn, 1, 0, 0, []), (41, .iinc 1 1, 3, 0, 0, []), (44, .goto (-27), 3, 17, 0, []), (47, .bipush (-3), 2, 0, 0, []), (49, .ireturn, 1, 0, 0, [])]
/-- ShadowSchool.seed(I)I -/
def jc_157 : List jw_I := [(0, .aload_n 0, 1, 0, 0, []), (1, .getfield 10, 3, 12, 0, []), (4, .getfield 287, 3, 9, 15, []), (7, .istore_n 2, 1, 0, 0, []), (8, .aload_n 0, 1, 0, 0, []), (9, .getfield 10, 3, 12, 0, []), (12, .iload_n 1, 1, 0, 0, []), (13, .putfield 287, 3, 9, 15, [(0, 0)]), (16, .iload_n 2, 1, 0, 0, []), (17, .ireturn, 1, 0, 0, [])]
/-- ShadowSchool.lot()I -/
def jc_158 : List jw_I := [(0, .aload_n 0, 1, 0, 0, []), (1, .getfield 10, 3, 12, 0, []), (4, .aload_n 0, 1, 0, 0, []), (5, .getfield 10, 3, 12, 0, []), (8, .getfield 67, 3, 9, 17, []), (11, .invokevirtual 148, 3, 0, 1, [(9, 83)]), (14, .ifCond .eq 8, 3, 22, 0, []), (17, .bipush (-4), 2, 0, 0, []), (19, .goto 17, 3, 36, 0, []), (22, .aload_n 0, 1, 0, 0, []), (23, .getfield 10, 3, 12, 0, []), (26, .aload_n 0, 1, 0, 0, []), (27, .getfield 10, 3, 12, 0, []), (30, .getfield 67, 3, 9, 17, []), (33, .invokevirtual 290, 3, 0, 1, [(9, 92)]), (36, .ireturn, 1, 0, 0, [])]
/-- ShadowSchool.often(II)I -/
def jc_159 : List jw_I := [(0, .iload_n 1, 1, 0, 0, []), (1, .iconst 1, 1, 0, 0, []), (2, .bipush 40, 2, 0, 0, []), (4, .invokestatic 51, 3, 2, 3, [(0, 176)]), (7, .ifCond .eq 14, 3, 21, 0, []), (10, .iload_n 2, 1, 0, 0, []), (11, .iconst 0, 1, 0, 0, []), (12, .sipush 999, 3, 0, 0, []), (15, .invokestatic 51, 3, 2, 3, [(0, 176)]), (18, .ifCond .ne 5, 3, 23, 0, []), (21, .iconst (-1), 1, 0, 0, []), (22, .ireturn, 1, 0, 0, []), (23, .aload_n 0, 1, 0, 0, []), (24, .getfield 10, 3, 12, 0, []), (27, .getfield 287, 3, 9, 15, []), (30, .istore_n 3, 1, 0, 0, []), (31, .iconst 0, 1, 0, 0, []), (32, .istore 4, 2, 0, 0, []), (34, .iconst 0, 1, 0, 0, []), (35, .istore 5, 2, 0, 0, []), (37, .iload 5, 2, 0, 0, []), (39, .iload_n 1, 1, 0, 0, []), (40, .if_icmp .ge 78, 3, 118, 0, []), (43, .aload_n 0, 1, 0, 0, []), (44, .getfield 22, 3, 12, 3, []), (47, .aload_n 0, 1, 0, 0, []), (48, .getfield 10, 3, 12, 0, []), (51, .getfield 67, 3, 9, 17, []), (54, .invokevirtual 183, 3, 0, 1, [(6, 42)]), (57, .iconst 0, 1, 0, 0, []), (58, .istore 6, 2, 0, 0, []), (60, .aload_n 0, 1, 0, 0, []), (61, .getfield 22, 3, 12, 3, []), (64, .getfield 92, 3, 6, 0, []), (67, .istore 7, 2, 0, 0, []), (69, .iload 7, 2, 0, 0, []), (71, .aload_n 0, 1, 0, 0, []), (72, .getfield 10, 3, 12, 0, []), (75, .getfield 139, 3, 9, 14, []), (78, .if_icmp .ge 25, 3, 103, 0, []), (81, .iload 6, 2, 0, 0, []), (83, .aload_n 0, 1, 0, 0, []), (84, .getfield 10, 3, 12, 0, []), (87, .aload_n 0, 1, 0, 0, []), (88, .getfield 22, 3, 12, 3, []), (91, .invokevirtual 290, 3, 0, 1, [(9, 92)]), (94, .iadd, 1, 0, 0, []), (95, .istore 6, 2, 0, 0, []), (97, .iinc 7 1, 3, 0, 0, []), (100, .goto (-31), 3, 69, 0, []), (103, .iload 6, 2, 0, 0, []), (105, .iload_n 2, 1, 0, 0, []), (106, .if_icmp .lt 6, 3, 112, 0, []), (109, .iinc 4 1, 3, 0, 0, []), (112, .iinc 5 1, 3, 0, 0, []), (115, .goto (-78), 3, 37, 0, []), (118, .aload_n 0, 1, 0, 0, []), (119, .getfield 10, 3, 12, 0, []), (122, .iload_n 3, 1, 0, 0, []), (123, .putfield 287, 3, 9, 15, [(0, 0)]), (126, .iload 4, 2, 0, 0, []), (128, .ireturn, 1, 0, 0, [])]
/-- ShadowSchool.prove(I)I -/
def jc_160 : List jw_I := [(0, .iload_n 1, 1, 0, 0, []), (1, .iconst 0, 1, 0, 0, []), (2, .iconst 4, 1, 0, 0, []), (3, .invokestatic 51, 3, 2, 3, [(0, 176)]), (6, .ifCond .ne 5, 3, 11, 0, []), (9, .iconst (-1), 1, 0, 0, []), (10, .ireturn, 1, 0, 0, []), (11, .aload_n 0, 1, 0, 0, []), (12, .getfield 40, 3, 12, 6, []), (15, .aload_n 0, 1, 0, 0, []), (16, .getfield 10, 3, 12, 0, []), (19, .iload_n 1, 1, 0, 0, []), (20, .iconst 0, 1, 0, 0, []), (21, .invokevirtual 239, 3, 0, 3, [(5, 33)]), (24, .aload_n 0, 1, 0, 0, []), (25, .getfield 40, 3, 12, 6, []), (28, .aload_n 0, 1, 0, 0, []), (29, .getfield 10, 3, 12, 0, []), (32, .invokevirtual 294, 3, 0, 1, [(5, 38)]), (35, .ireturn, 1, 0, 0, [])]
/-- ShadowSchool.row(II)I -/
def jc_161 : List jw_I := [(0, .aload_n 0, 1, 0, 0, []), (1, .getfield 40, 3, 12, 6, []), (4, .iload_n 1, 1, 0, 0, []), (5, .iload_n 2, 1, 0, 0, []), (6, .invokevirtual 298, 3, 0, 2, [(5, 39)]), (9, .ifCond .eq 17, 3, 26, 0, []), (12, .aload_n 0, 1, 0, 0, []), (13, .getfield 40, 3, 12, 6, []), (16, .getfield 301, 3, 5, 11, []), (19, .iload_n 1, 1, 0, 0, []), (20, .aaload, 1, 0, 0, []), (21, .iload_n 2, 1, 0, 0, []), (22, .iaload, 1, 0, 0, []), (23, .goto 5, 3, 28, 0, []), (26, .bipush (-9), 2, 0, 0, []), (28, .ireturn, 1, 0, 0, [])]
/-- ShadowSchool.alterRow(III)I -/
def jc_162 : List jw_I := [(0, .aload_n 0, 1, 0, 0, []), (1, .getfield 40, 3, 12, 6, []), (4, .iload_n 1, 1, 0, 0, []), (5, .iload_n 2, 1, 0, 0, []), (6, .invokevirtual 298, 3, 0, 2, [(5, 39)]), (9, .ifCond .ne 6, 3, 15, 0, []), (12, .bipush (-9), 2, 0, 0, []), (14, .ireturn, 1, 0, 0, []), (15, .aload_n 0, 1, 0, 0, []), (16, .getfield 40, 3, 12, 6, []), (19, .getfield 301, 3, 5, 11, []), (22, .iload_n 1, 1, 0, 0, []), (23, .aaload, 1, 0, 0, []), (24, .iload_n 2, 1, 0, 0, []), (25, .iaload, 1, 0, 0, []), (26, .istore 4, 2, 0, 0, []), (28, .aload_n 0, 1, 0, 0, []), (29, .getfield 40, 3, 12, 6, []), (32, .getfield 301, 3, 5, 11, []), (35, .iload_n 1, 1, 0, 0, []), (36, .aaload, 1, 0, 0, []), (37, .iload_n 2, 1, 0, 0, []), (38, .iload_n 3, 1, 0, 0, []), (39, .iastore, 1, 0, 0, []), (40, .iload 4, 2, 0, 0, []), (42, .ireturn, 1, 0, 0, [])]
/-- ShadowSchool.judge()I -/
def jc_163 : List jw_I := [(0, .aload_n 0, 1, 0, 0, []), (1, .getfield 40, 3, 12, 6, []), (4, .aload_n 0, 1, 0, 0, []), (5, .getfield 10, 3, 12, 0, []), (8, .invokevirtual 305, 3, 0, 1, [(5, 40)]), (11, .ireturn, 1, 0, 0, [])]
/-- ShadowSchool.sheet(III)I -/
def jc_164 : List jw_I := [(0, .aload_n 0, 1, 0, 0, []), (1, .getfield 47, 3, 12, 7, []), (4, .iload_n 1, 1, 0, 0, []), (5, .invokevirtual 213, 3, 0, 1, [(3, 14)]), (8, .ifCond .eq 12, 3, 20, 0, []), (11, .iload_n 2, 1, 0, 0, []), (12, .iconst (-1), 1, 0, 0, []), (13, .iconst 4, 1, 0, 0, []), (14, .invokestatic 51, 3, 2, 3, [(0, 176)]), (17, .ifCond .ne 5, 3, 22, 0, []), (20, .iconst (-1), 1, 0, 0, []), (21, .ireturn, 1, 0, 0, []), (22, .iload_n 2, 1, 0, 0, []), (23, .iconst (-1), 1, 0, 0, []), (24, .if_icmp .eq 11, 3, 35, 0, []), (27, .iload_n 3, 1, 0, 0, []), (28, .bipush 40, 2, 0, 0, []), (30, .if_icmp .le 5, 3, 35, 0, []), (33, .iconst (-1), 1, 0, 0, []), (34, .ireturn, 1, 0, 0, []), (35, .iload_n 2, 1, 0, 0, []), (36, .iconst (-1), 1, 0, 0, []), (37, .if_icmp .eq 10, 3, 47, 0, []), (40, .iload_n 3, 1, 0, 0, []), (41, .ifCond .ge 6, 3, 47, 0, []), (44, .bipush (-14), 2, 0, 0, []), (46, .ireturn, 1, 0, 0, []), (47, .aload_n 0, 1, 0, 0, []), (48, .getfield 47, 3, 12, 7, []), (51, .iload_n 1, 1, 0, 0, []), (52, .iload_n 2, 1, 0, 0, []), (53, .iload_n 3, 1, 0, 0, []), (54, .invokevirtual 308, 3, 0, 3, [(3, 19)]), (57, .iconst 1, 1, 0, 0, []), (58, .ireturn, 1, 0, 0, [])]
/-- ShadowSchool.write(III)I -/
def jc_165 : List jw_I := [(0, .aload_n 0, 1, 0, 0, []), (1, .getfield 47, 3, 12, 7, []), (4, .iload_n 1, 1, 0, 0, []), (5, .invokevirtual 213, 3, 0, 1, [(3, 14)]), (8, .ifCond .ne 5, 3, 13, 0, []), (11, .iconst (-1), 1, 0, 0, []), (12, .ireturn, 1, 0, 0, []), (13, .aload_n 0, 1, 0, 0, []), (14, .getfield 47, 3, 12, 7, []), (17, .getfield 311, 3, 3, 0, []), (20, .iload_n 1, 1, 0, 0, []), (21, .iaload, 1, 0, 0, []), (22, .iconst (-1), 1, 0, 0, []), (23, .if_icmp .ne 6, 3, 29, 0, []), (26, .bipush (-11), 2, 0, 0, []), (28, .ireturn, 1, 0, 0, []), (29, .aload_n 0, 1, 0, 0, []), (30, .getfield 47, 3, 12, 7, []), (33, .iload_n 1, 1, 0, 0, []), (34, .iload_n 2, 1, 0, 0, []), (35, .invokevirtual 314, 3, 0, 2, [(3, 16)]), (38, .ifCond .ne 6, 3, 44, 0, []), (41, .bipush (-12), 2, 0, 0, []), (43, .ireturn, 1, 0, 0, []), (44, .aload_n 0, 1, 0, 0, []), (45, .getfield 47, 3, 12, 7, []), (48, .iload_n 1, 1, 0, 0, []), (49, .iload_n 2, 1, 0, 0, []), (50, .iload_n 3, 1, 0, 0, []), (51, .invokevirtual 317, 3, 0, 3, [(3, 21)]), (54, .iconst 1, 1, 0, 0, []), (55, .ireturn, 1, 0, 0, [])]
/-- ShadowSchool.item(III)I -/
def jc_166 : List jw_I := [(0, .aload_n 0, 1, 0, 0, []), (1, .getfield 47, 3, 12, 7, []), (4, .iload_n 1, 1, 0, 0, []), (5, .invokevirtual 213, 3, 0, 1, [(3, 14)]), (8, .ifCond .eq 12, 3, 20, 0, []), (11, .iload_n 2, 1, 0, 0, []), (12, .iconst 0, 1, 0, 0, []), (13, .iconst 4, 1, 0, 0, []), (14, .invokestatic 51, 3, 2, 3, [(0, 176)]), (17, .ifCond .ne 5, 3, 22, 0, []), (20, .iconst (-1), 1, 0, 0, []), (21, .ireturn, 1, 0, 0, []), (22, .aload_n 0, 1, 0, 0, []), (23, .getfield 47, 3, 12, 7, []), (26, .iload_n 1, 1, 0, 0, []), (27, .iload_n 2, 1, 0, 0, []), (28, .invokevirtual 216, 3, 0, 2, [(3, 18)]), (31, .istore 4, 2, 0, 0, []), (33, .iload 4, 2, 0, 0, []), (35, .ifCond .eq 6, 3, 41, 0, []), (38, .iload 4, 2, 0, 0, []), (40, .ireturn, 1, 0, 0, []), (41, .aload_n 0, 1, 0, 0, []), (42, .getfield 47, 3, 12, 7, []), (45, .iload_n 1, 1, 0, 0, []), (46, .iload_n 3, 1, 0, 0, []), (47, .invokevirtual 314, 3, 0, 2, [(3, 16)]), (50, .ifCond .eq 15, 3, 65, 0, []), (53, .aload_n 0, 1, 0, 0, []), (54, .getfield 47, 3, 12, 7, []), (57, .iload_n 1, 1, 0, 0, []), (58, .iload_n 3, 1, 0, 0, []), (59, .invokevirtual 231, 3, 0, 2, [(3, 20)]), (62, .goto 5, 3, 67, 0, []), (65, .bipush (-12), 2, 0, 0, []), (67, .ireturn, 1, 0, 0, [])]
/-- ShadowSchool.goAll(III)I -/
def jc_167 : List jw_I := [(0, .aload_n 0, 1, 0, 0, []), (1, .getfield 47, 3, 12, 7, []), (4, .iload_n 1, 1, 0, 0, []), (5, .invokevirtual 213, 3, 0, 1, [(3, 14)]), (8, .ifCond .eq 13, 3, 21, 0, []), (11, .iload_n 3, 1, 0, 0, []), (12, .iconst 0, 1, 0, 0, []), (13, .bipush 20, 2, 0, 0, []), (15, .invokestatic 51, 3, 2, 3, [(0, 176)]), (18, .ifCond .ne 5, 3, 23, 0, []), (21, .iconst (-1), 1, 0, 0, []), (22, .ireturn, 1, 0, 0, []), (23, .aload_n 0, 1, 0, 0, []), (24, .getfield 47, 3, 12, 7, []), (27, .iload_n 1, 1, 0, 0, []), (28, .iconst 0, 1, 0, 0, []), (29, .invokevirtual 216, 3, 0, 2, [(3, 18)]), (32, .istore 4, 2, 0, 0, []), (34, .iload 4, 2, 0, 0, []), (36, .ifCond .eq 6, 3, 42, 0, []), (39, .iload 4, 2, 0, 0, []), (41, .ireturn, 1, 0, 0, []), (42, .iconst 0, 1, 0, 0, []), (43, .istore 5, 2, 0, 0, []), (45, .iconst 0, 1, 0, 0, []), (46, .istore 6, 2, 0, 0, []), (48, .iload 6, 2, 0, 0, []), (50, .iload_n 3, 1, 0, 0, []), (51, .if_icmp .ge 91, 3, 142, 0, []), (54, .aload_n 0, 1, 0, 0, []), (55, .getfield 47, 3, 12, 7, []), (58, .iload_n 1, 1, 0, 0, []), (59, .iload_n 2, 1, 0, 0, []), (60, .iload 6, 2, 0, 0, []), (62, .iadd, 1, 0, 0, []), (63, .invokevirtual 314, 3, 0, 2, [(3, 16)]), (66, .ifCond .ne 6, 3, 72, 0, []), (69, .bipush (-12), 2, 0, 0, []), (71, .ireturn, 1, 0, 0, []), (72, .aload_n 0, 1, 0, 0, []), (73, .getfield 47, 3, 12, 7, []), (76, .iload_n 1, 1, 0, 0, []), (77, .iload_n 2, 1, 0, 0, []), (78, .iload 6, 2, 0, 0, []), (80, .iadd, 1, 0, 0, []), (81, .invokevirtual 231, 3, 0, 2, [(3, 20)]), (84, .istore 7, 2, 0, 0, []), (86, .aload_n 0, 1, 0, 0, []), (87, .getfield 10, 3, 12, 0, []), (90, .iload 7, 2, 0, 0, []), (92, .invokevirtual 320, 3, 0, 1, [(9, 80)]), (95, .ifCond .eq 41, 3, 136, 0, []), (98, .aload_n 0, 1, 0, 0, []), (99, .getfield 10, 3, 12, 0, []), (102, .aload_n 0, 1, 0, 0, []), (103, .getfield 10, 3, 12, 0, []), (106, .getfield 67, 3, 9, 17, []), (109, .invokevirtual 148, 3, 0, 1, [(9, 83)]), (112, .ifCond .ne 24, 3, 136, 0, []), (115, .iload 5, 2, 0, 0, []), (117, .aload_n 0, 1, 0, 0, []), (118, .getfield 10, 3, 12, 0, []), (121, .aload_n 0, 1, 0, 0, []), (122, .getfield 10, 3, 12, 0, []), (125, .getfield 67, 3, 9, 17, []), (128, .iload 7, 2, 0, 0, []), (130, .invokevirtual 176, 3, 0, 2, [(9, 91)]), (133, .iadd, 1, 0, 0, []), (134, .istore 5, 2, 0, 0, []), (136, .iinc 6 1, 3, 0, 0, []), (139, .goto (-91), 3, 48, 0, []), (142, .iload 5, 2, 0, 0, []), (144, .ireturn, 1, 0, 0, [])]
/-- ShadowSchool.wouldBe(III)I -/
def jc_168 : List jw_I := [(0, .aload_n 0, 1, 0, 0, []), (1, .getfield 47, 3, 12, 7, []), (4, .iload_n 1, 1, 0, 0, []), (5, .invokevirtual 213, 3, 0, 1, [(3, 14)]), (8, .ifCond .eq 13, 3, 21, 0, []), (11, .iload_n 3, 1, 0, 0, []), (12, .iconst 0, 1, 0, 0, []), (13, .bipush 20, 2, 0, 0, []), (15, .invokestatic 51, 3, 2, 3, [(0, 176)]), (18, .ifCond .ne 5, 3, 23, 0, []), (21, .iconst (-1), 1, 0, 0, []), (22, .ireturn, 1, 0, 0, []), (23, .aload_n 0, 1, 0, 0, []), (24, .getfield 47, 3, 12, 7, []), (27, .iload_n 1, 1, 0, 0, []), (28, .iconst 0, 1, 0, 0, []), (29, .invokevirtual 216, 3, 0, 2, [(3, 18)]), (32, .istore 4, 2, 0, 0, []), (34, .iload 4, 2, 0, 0, []), (36, .ifCond .eq 6, 3, 42, 0, []), (39, .iload 4, 2, 0, 0, []), (41, .ireturn, 1, 0, 0, []), (42, .aload_n 0, 1, 0, 0, []), (43, .getfield 22, 3, 12, 3, []), (46, .aload_n 0, 1, 0, 0, []), (47, .getfield 10, 3, 12, 0, []), (50, .getfield 67, 3, 9, 17, []), (53, .invokevirtual 183, 3, 0, 1, [(6, 42)]), (56, .iconst 0, 1, 0, 0, []), (57, .istore 5, 2, 0, 0, []), (59, .iconst 0, 1, 0, 0, []), (60, .istore 6, 2, 0, 0, []), (62, .iload 6, 2, 0, 0, []), (64, .iload_n 3, 1, 0, 0, []), (65, .if_icmp .ge 88, 3, 153, 0, []), (68, .aload_n 0, 1, 0, 0, []), (69, .getfield 47, 3, 12, 7, []), (72, .iload_n 1, 1, 0, 0, []), (73, .iload_n 2, 1, 0, 0, []), (74, .iload 6, 2, 0, 0, []), (76, .iadd, 1, 0, 0, []), (77, .invokevirtual 314, 3, 0, 2, [(3, 16)]), (80, .ifCond .ne 6, 3, 86, 0, []), (83, .bipush (-12), 2, 0, 0, []), (85, .ireturn, 1, 0, 0, []), (86, .aload_n 0, 1, 0, 0, []), (87, .getfield 47, 3, 12, 7, []), (90, .iload_n 1, 1, 0, 0, []), (91, .iload_n 2, 1, 0, 0, []), (92, .iload 6, 2, 0, 0, []), (94, .iadd, 1, 0, 0, []), (95, .invokevirtual 231, 3, 0, 2, [(3, 20)]), (98, .istore 7, 2, 0, 0, []), (100, .aload_n 0, 1, 0, 0, []), (101, .getfield 10, 3, 12, 0, []), (104, .iload 7, 2, 0, 0, []), (106, .invokevirtual 320, 3, 0, 1, [(9, 80)]), (109, .ifCond .eq 17, 3, 126, 0, []), (112, .aload_n 0, 1, 0, 0, []), (113, .getfield 10, 3, 12, 0, []), (116, .aload_n 0, 1, 0, 0, []), (117, .getfield 22, 3, 12, 3, []), (120, .invokevirtual 148, 3, 0, 1, [(9, 83)]), (123, .ifCond .eq 6, 3, 129, 0, []), (126, .bipush (-4), 2, 0, 0, []), (128, .ireturn, 1, 0, 0, []), (129, .iload 5, 2, 0, 0, []), (131, .aload_n 0, 1, 0, 0, []), (132, .getfield 10, 3, 12, 0, []), (135, .aload_n 0, 1, 0, 0, []), (136, .getfield 22, 3, 12, 3, []), (139, .iload 7, 2, 0, 0, []), (141, .invokevirtual 176, 3, 0, 2, [(9, 91)]), (144, .iadd, 1, 0, 0, []), (145, .istore 5, 2, 0, 0, []), (147, .iinc 6 1, 3, 0, 0, []), (150, .goto (-88), 3, 62, 0, []), (153, .iload 5, 2, 0, 0, []), (155, .ireturn, 1, 0, 0, [])]
/-- ShadowSchool.shelf(III)I -/
def jc_169 : List jw_I := [(0, .aload_n 0, 1, 0, 0, []), (1, .getfield 47, 3, 12, 7, []), (4, .iload_n 1, 1, 0, 0, []), (5, .invokevirtual 323, 3, 0, 1, [(3, 15)]), (8, .ifCond .ne 5, 3, 13, 0, []), (11, .iconst (-1), 1, 0, 0, []), (12, .ireturn, 1, 0, 0, []), (13, .iload_n 2, 1, 0, 0, []), (14, .ifCond .ne 14, 3, 28, 0, []), (17, .aload_n 0, 1, 0, 0, []), (18, .getfield 10, 3, 12, 0, []), (21, .iload_n 3, 1, 0, 0, []), (22, .invokevirtual 63, 3, 0, 1, [(9, 78)]), (25, .ifCond .ne 24, 3, 49, 0, []), (28, .iload_n 2, 1, 0, 0, []), (29, .iconst 1, 1, 0, 0, []), (30, .if_icmp .ne 14, 3, 44, 0, []), (33, .aload_n 0, 1, 0, 0, []), (34, .getfield 47, 3, 12, 7, []), (37, .iload_n 3, 1, 0, 0, []), (38, .invokevirtual 213, 3, 0, 1, [(3, 14)]), (41, .ifCond .ne 8, 3, 49, 0, []), (44, .iload_n 2, 1, 0, 0, []), (45, .iconst 2, 1, 0, 0, []), (46, .if_icmp .ne 7, 3, 53, 0, []), (49, .iconst 1, 1, 0, 0, []), (50, .goto 4, 3, 54, 0, []), (53, .iconst 0, 1, 0, 0, []), (54, .istore 4, 2, 0, 0, []), (56, .iload 4, 2, 0, 0, []), (58, .ifCond .ne 5, 3, 63, 0, []), (61, .iconst (-1), 1, 0, 0, []), (62, .ireturn, 1, 0, 0, []), (63, .aload_n 0, 1, 0, 0, []), (64, .getfield 47, 3, 12, 7, []), (67, .iload_n 1, 1, 0, 0, []), (68, .iload_n 2, 1, 0, 0, []), (69, .iload_n 3, 1, 0, 0, []), (70, .invokevirtual 326, 3, 0, 3, [(3, 22)]), (73, .iconst 1, 1, 0, 0, []), (74, .ireturn, 1, 0, 0, [])]
/-- ShadowSchool.taken(II)I -/
def jc_170 : List jw_I := [(0, .aload_n 0, 1, 0, 0, []), (1, .getfield 47, 3, 12, 7, []), (4, .iload_n 1, 1, 0, 0, []), (5, .invokevirtual 323, 3, 0, 1, [(3, 15)]), (8, .ifCond .eq 23, 3, 31, 0, []), (11, .iload_n 2, 1, 0, 0, []), (12, .iconst 0, 1, 0, 0, []), (13, .iconst 5, 1, 0, 0, []), (14, .invokestatic 51, 3, 2, 3, [(0, 176)]), (17, .ifCond .ne 16, 3, 33, 0, []), (20, .iload_n 2, 1, 0, 0, []), (21, .bipush 10, 2, 0, 0, []), (23, .bipush 14, 2, 0, 0, []), (25, .invokestatic 51, 3, 2, 3, [(0, 176)]), (28, .ifCond .ne 5, 3, 33, 0, []), (31, .iconst (-1), 1, 0, 0, []), (32, .ireturn, 1, 0, 0, []), (33, .aload_n 0, 1, 0, 0, []), (34, .getfield 47, 3, 12, 7, []), (37, .getfield 329, 3, 3, 3, []), (40, .iload_n 1, 1, 0, 0, []), (41, .iaload, 1, 0, 0, []), (42, .iconst 1, 1, 0, 0, []), (43, .if_icmp .ne 34, 3, 77, 0, []), (46, .aload_n 0, 1, 0, 0, []), (47, .getfield 47, 3, 12, 7, []), (50, .getfield 332, 3, 3, 5, []), (53, .iload_n 1, 1, 0, 0, []), (54, .iaload, 1, 0, 0, []), (55, .iload_n 2, 1, 0, 0, []), (56, .bipush 10, 2, 0, 0, []), (58, .isub, 1, 0, 0, []), (59, .if_icmp .ne 15, 3, 74, 0, []), (62, .aload_n 0, 1, 0, 0, []), (63, .getfield 47, 3, 12, 7, []), (66, .getfield 335, 3, 3, 4, []), (69, .iload_n 1, 1, 0, 0, []), (70, .iaload, 1, 0, 0, []), (71, .goto 5, 3, 76, 0, []), (74, .bipush (-13), 2, 0, 0, []), (76, .ireturn, 1, 0, 0, []), (77, .aload_n 0, 1, 0, 0, []), (78, .getfield 47, 3, 12, 7, []), (81, .iload_n 1, 1, 0, 0, []), (82, .invokevirtual 338, 3, 0, 1, [(3, 23)]), (85, .istore_n 3, 1, 0, 0, []), (86, .aload_n 0, 1, 0, 0, []), (87, .getfield 10, 3, 12, 0, []), (90, .iload_n 3, 1, 0, 0, []), (91, .invokevirtual 63, 3, 0, 1, [(9, 78)]), (94, .ifCond .ne 6, 3, 100, 0, []), (97, .bipush (-11), 2, 0, 0, []), (99, .ireturn, 1, 0, 0, []), (100, .iload_n 2, 1, 0, 0, []), (101, .iconst 5, 1, 0, 0, []), (102, .if_icmp .gt 23, 3, 125, 0, []), (105, .aload_n 0, 1, 0, 0, []), (106, .getfield 10, 3, 12, 0, []), (109, .getfield 70, 3, 9, 1, []), (112, .iload_n 3, 1, 0, 0, []), (113, .iaload, 1, 0, 0, []), (114, .iload_n 2, 1, 0, 0, []), (115, .invokestatic 341, 3, 2, 2, [(0, 177)]), (118, .ifCond .eq 7, 3, 125, 0, []), (121, .iload_n 3, 1, 0, 0, []), (122, .goto 5, 3, 127, 0, []), (125, .bipush (-13), 2, 0, 0, []), (127, .ireturn, 1, 0, 0, [])]
/-- ShadowSchool.act(III)I -/
def jc_171 : List jw_I := [(0, .aload_n 0, 1, 0, 0, []), (1, .getfield 47, 3, 12, 7, []), (4, .invokevirtual 344, 3, 0, 0, [(3, 24)]), (7, .aload_n 0, 1, 0, 0, []), (8, .getfield 47, 3, 12, 7, []), (11, .iload_n 1, 1, 0, 0, []), (12, .invokevirtual 323, 3, 0, 1, [(3, 15)]), (15, .ifCond .eq 12, 3, 27, 0, []), (18, .iload_n 2, 1, 0, 0, []), (19, .iconst 0, 1, 0, 0, []), (20, .iconst 3, 1, 0, 0, []), (21, .invokestatic 51, 3, 2, 3, [(0, 176)]), (24, .ifCond .ne 5, 3, 29, 0, []), (27, .iconst 0, 1, 0, 0, []), (28, .ireturn, 1, 0, 0, []), (29, .aload_n 0, 1, 0, 0, []), (30, .getfield 47, 3, 12, 7, []), (33, .iload_n 1, 1, 0, 0, []), (34, .invokevirtual 338, 3, 0, 1, [(3, 23)]), (37, .istore 4, 2, 0, 0, []), (39, .aload_n 0, 1, 0, 0, []), (40, .getfield 10, 3, 12, 0, []), (43, .iload 4, 2, 0, 0, []), (45, .invokevirtual 63, 3, 0, 1, [(9, 78)]), (48, .ifCond .eq 36, 3, 84, 0, []), (51, .aload_n 0, 1, 0, 0, []), (52, .getfield 47, 3, 12, 7, []), (55, .aload_n 0, 1, 0, 0, []), (56, .getfield 10, 3, 12, 0, []), (59, .iload 4, 2, 0, 0, []), (61, .invokevirtual 88, 3, 0, 1, [(9, 87)]), (64, .iload 4, 2, 0, 0, []), (66, .aload_n 0, 1, 0, 0, []), (67, .getfield 10, 3, 12, 0, []), (70, .getfield 73, 3, 9, 2, []), (73, .iload 4, 2, 0, 0, []), (75, .iaload, 1, 0, 0, []), (76, .iload_n 2, 1, 0, 0, []), (77, .iload_n 3, 1, 0, 0, []), (78, .invokevirtual 347, 3, 0, 5, [(3, 25)]), (81, .goto 4, 3, 85, 0, []), (84, .iconst 0, 1, 0, 0, []), (85, .ireturn, 1, 0, 0, [])]
/-- ShadowSchool.trace(I)I -/
def jc_172 : List jw_I := [(0, .iload_n 1, 1, 0, 0, []), (1, .iconst 0, 1, 0, 0, []), (2, .aload_n 0, 1, 0, 0, []), (3, .getfield 47, 3, 12, 7, []), (6, .getfield 351, 3, 3, 7, []), (9, .iconst 1, 1, 0, 0, []), (10, .isub, 1, 0, 0, []), (11, .invokestatic 51, 3, 2, 3, [(0, 176)]), (14, .ifCond .eq 15, 3, 29, 0, []), (17, .aload_n 0, 1, 0, 0, []), (18, .getfield 47, 3, 12, 7, []), (21, .getfield 354, 3, 3, 6, []), (24, .iload_n 1, 1, 0, 0, []), (25, .iaload, 1, 0, 0, []), (26, .goto 5, 3, 31, 0, []), (29, .bipush (-3), 2, 0, 0, []), (31, .ireturn, 1, 0, 0, [])]
/-- ShadowSchool.many(I)I -/
def jc_173 : List jw_I := [(0, .iload_n 1, 1, 0, 0, []), (1, .tableswitch 114 0 7 #[47, 55, 66, 74, 82, 90, 98, 106], 47, 115, 0, [(0, 48), (1, 56), (2, 67), (3, 75), (4, 83), (5, 91), (6, 99), (7, 107)]), (48, .aload_n 0, 1, 0, 0, []), (49, .getfield 10, 3, 12, 0, []), (52, .getfield 55, 3, 9, 0, []), (55, .ireturn, 1, 0, 0, []), (56, .aload_n 0, 1, 0, 0, []), (57, .getfield 10, 3, 12, 0, []), (60, .getfield 163, 3, 9, 16, []), (63, .getfield 357, 3, 8, 0, []), (66, .ireturn, 1, 0, 0, []), (67, .aload_n 0, 1, 0, 0, []), (68, .getfield 10, 3, 12, 0, []), (71, .getfield 108, 3, 9, 5, []), (74, .ireturn, 1, 0, 0, []), (75, .aload_n 0, 1, 0, 0, []), (76, .getfield 10, 3, 12, 0, []), (79, .getfield 274, 3, 9, 12, []), (82, .ireturn, 1, 0, 0, []), (83, .aload_n 0, 1, 0, 0, []), (84, .getfield 40, 3, 12, 6, []), (87, .getfield 358, 3, 5, 10, []), (90, .ireturn, 1, 0, 0, []), (91, .aload_n 0, 1, 0, 0, []), (92, .getfield 33, 3, 12, 5, []), (95, .getfield 152, 3, 7, 0, []), (98, .ireturn, 1, 0, 0, []), (99, .aload_n 0, 1, 0, 0, []), (100, .getfield 47, 3, 12, 7, []), (103, .getfield 351, 3, 3, 7, []), (106, .ireturn, 1, 0, 0, []), (107, .aload_n 0, 1, 0, 0, []), (108, .getfield 10, 3, 12, 0, []), (111, .invokevirtual 361, 3, 0, 0, [(9, 90)]), (114, .ireturn, 1, 0, 0, []), (115, .iconst (-1), 1, 0, 0, []), (116, .ireturn, 1, 0, 0, [])]
/-- ShadowSchool.keep()I -/
def jc_174 : List jw_I := [(0, .aload_n 0, 1, 0, 0, []), (1, .getfield 16, 3, 12, 1, []), (4, .aload_n 0, 1, 0, 0, []), (5, .getfield 10, 3, 12, 0, []), (8, .invokevirtual 364, 3, 0, 1, [(9, 77)]), (11, .aload_n 0, 1, 0, 0, []), (12, .iconst 1, 1, 0, 0, []), (13, .putfield 367, 3, 12, 2, [(0, 2)]), (16, .iconst 1, 1, 0, 0, []), (17, .ireturn, 1, 0, 0, [])]
/-- ShadowSchool.again()I -/
def jc_175 : List jw_I := [(0, .aload_n 0, 1, 0, 0, []), (1, .getfield 367, 3, 12, 2, []), (4, .ifCond .ne 6, 3, 10, 0, []), (7, .bipush (-3), 2, 0, 0, []), (9, .ireturn, 1, 0, 0, []), (10, .aload_n 0, 1, 0, 0, []), (11, .getfield 10, 3, 12, 0, []), (14, .aload_n 0, 1, 0, 0, []), (15, .getfield 16, 3, 12, 1, []), (18, .invokevirtual 364, 3, 0, 1, [(9, 77)]), (21, .aload_n 0, 1, 0, 0, []), (22, .getfield 10, 3, 12, 0, []), (25, .getfield 55, 3, 9, 0, []), (28, .ireturn, 1, 0, 0, [])]
/-- ShadowSchool.isWithin(III)Z -/
def jc_176 : List jw_I := [(0, .iload_n 0, 1, 0, 0, []), (1, .iload_n 1, 1, 0, 0, []), (2, .if_icmp .lt 12, 3, 14, 0, []), (5, .iload_n 0, 1, 0, 0, []), (6, .iload_n 2, 1, 0, 0, []), (7, .if_icmp .gt 7, 3, 14, 0, []), (10, .iconst 1, 1, 0, 0, []), (11, .goto 4, 3, 15, 0, []), (14, .iconst 0, 1, 0, 0, []), (15, .ireturn, 1, 0, 0, [])]
/-- ShadowSchool.isOrIsUnder(II)Z -/
def jc_177 : List jw_I := [(0, .getstatic 371, 3, 0, 0, []), (3, .iload_n 0, 1, 0, 0, []), (4, .iaload, 1, 0, 0, []), (5, .iload_n 1, 1, 0, 0, []), (6, .ishr, 1, 0, 0, []), (7, .iconst 1, 1, 0, 0, []), (8, .iand, 1, 0, 0, []), (9, .iconst 1, 1, 0, 0, []), (10, .if_icmp .ne 7, 3, 17, 0, []), (13, .iconst 1, 1, 0, 0, []), (14, .goto 4, 3, 18, 0, []), (17, .iconst 0, 1, 0, 0, []), (18, .ireturn, 1, 0, 0, [])]
/-- ShadowSchool.copyRow([I[I)V -/
def jc_178 : List jw_I := [(0, .aload_n 0, 1, 0, 0, []), (1, .iconst 0, 1, 0, 0, []), (2, .aload_n 1, 1, 0, 0, []), (3, .iconst 0, 1, 0, 0, []), (4, .aload_n 0, 1, 0, 0, []), (5, .arraylength, 1, 0, 0, []), (6, .aload_n 1, 1, 0, 0, []), (7, .arraylength, 1, 0, 0, []), (8, .invokestatic 374, 3, 2, 2, [(0, 325)]), (11, .invokestatic 377, 3, 8, 5, []), (14, .return_, 1, 0, 0, [])]
/-- ShadowSchoolModel.<init>()V -/
def jc_179 : List jw_I := [(0, .aload_n 0, 1, 0, 0, []), (1, .invokespecial 1, 3, 7, 0, []), (4, .aload_n 0, 1, 0, 0, []), (5, .bipush 56, 2, 0, 0, []), (7, .newarray .int, 2, 0, 0, []), (9, .putfield 9, 3, 13, 0, [(0, 3)]), (12, .aload_n 0, 1, 0, 0, []), (13, .sipush 392, 3, 0, 0, []), (16, .newarray .int, 2, 0, 0, []), (18, .putfield 13, 3, 13, 1, [(0, 3)]), (21, .aload_n 0, 1, 0, 0, []), (22, .sipush 526, 3, 0, 0, []), (25, .newarray .int, 2, 0, 0, []), (27, .putfield 16, 3, 13, 2, [(0, 3)]), (30, .aload_n 0, 1, 0, 0, []), (31, .bipush 56, 2, 0, 0, []), (33, .newarray .int, 2, 0, 0, []), (35, .putfield 19, 3, 13, 3, [(0, 3)]), (38, .aload_n 0, 1, 0, 0, []), (39, .sipush 526, 3, 0, 0, []), (42, .newarray .int, 2, 0, 0, []), (44, .putfield 22, 3, 13, 4, [(0, 3)]), (47, .aload_n 0, 1, 0, 0, []), (48, .sipush 200, 3, 0, 0, []), (51, .newarray .int, 2, 0, 0, []), (53, .putfield 25, 3, 13, 6, [(0, 3)]), (56, .aload_n 0, 1, 0, 0, []), (57, .bipush 32, 2, 0, 0, []), (59, .newarray .int, 2, 0, 0, []), (61, .putfield 28, 3, 13, 14, [(0, 3)]), (64, .aload_n 0, 1, 0, 0, []), (65, .sipush 400, 3, 0, 0, []), (68, .newarray .int, 2, 0, 0, []), (70, .putfield 31, 3, 13, 15, [(0, 3)]), (73, .aload_n 0, 1, 0, 0, []), (74, .sipush 200, 3, 0, 0, []), (77, .newarray .int, 2, 0, 0, []), (79, .putfield 34, 3, 13, 18, [(0, 3)]), (82, .aload_n 0, 1, 0, 0, []), (83, .bipush 8, 2, 0, 0, []), (85, .newarray .int, 2, 0, 0, []), (87, .putfield 37, 3, 13, 19, [(0, 3)]), (90, .aload_n 0, 1, 0, 0, []), (91, .bipush 6, 2, 0, 0, []), (93, .newarray .int, 2, 0, 0, []), (95, .putfield 40, 3, 13, 20, [(0, 3)]), (98, .aload_n 0, 1, 0, 0, []), (99, .bipush 64, 2, 0, 0, []), (101, .newarray .int, 2, 0, 0, []), (103, .putfield 43, 3, 13, 21, [(0, 3)]), (106, .aload_n 0, 1, 0, 0, []), (107, .bipush 12, 2, 0, 0, []), (109, .newarray .int, 2, 0, 0, []), (111, .putfield 46, 3, 13, 28, [(0, 3)]), (114, .aload_n 0, 1, 0, 0, []), (115, .iconst 4, 1, 0, 0, []), (116, .newarray .int, 2, 0, 0, []), (118, .dup, 1, 0, 0, []), (119, .iconst 0, 1, 0, 0, []), (120, .iconst (-1), 1, 0, 0, []), (121, .iastore, 1, 0, 0, []), (122, .dup, 1, 0, 0, []), (123, .iconst 1, 1, 0, 0, []), (124, .iconst (-1), 1, 0, 0, []), (125, .iastore, 1, 0, 0, []), (126, .dup, 1, 0, 0, []), (127, .iconst 2, 1, 0, 0, []), (128, .iconst (-1), 1, 0, 0, []), (129, .iastore, 1, 0, 0, []), (130, .dup, 1, 0, 0, []), (131, .iconst 3, 1, 0, 0, []), (132, .iconst (-1), 1, 0, 0, []), (133, .iastore, 1, 0, 0, []), (134, .putfield 49, 3, 13, 30, [(0, 3)]), (137, .aload_n 0, 1, 0, 0, []), (138, .iconst 4, 1, 0, 0, []), (139, .newarray .int, 2, 0, 0, []), (141, .putfield 52, 3, 13, 31, [(0, 3)]), (144, .aload_n 0, 1, 0, 0, []), (145, .sipush 160, 3, 0, 0, []), (148, .newarray .long, 2, 1, 0, []), (150, .putfield 55, 3, 13, 32, [(0, 3)]), (153, .aload_n 0, 1, 0, 0, []), (154, .iconst 4, 1, 0, 0, []), (155, .newarray .int, 2, 0, 0, []), (157, .dup, 1, 0, 0, []), (158, .iconst 0, 1, 0, 0, []), (159, .iconst (-1), 1, 0, 0, []), (160, .iastore, 1, 0, 0, []), (161, .dup, 1, 0, 0, []), (162, .iconst 1, 1, 0, 0, []), (163, .iconst (-1), 1, 0, 0, []), (164, .iastore, 1, 0, 0, []), (165, .dup, 1, 0, 0, []), (166, .iconst 2, 1, 0, 0, []), (167, .iconst (-1), 1, 0, 0, []), (168, .iastore, 1, 0, 0, []), (169, .dup, 1, 0, 0, []), (170, .iconst 3, 1, 0, 0, []), (171, .iconst (-1), 1, 0, 0, []), (172, .iastore, 1, 0, 0, []), (173, .putfield 59, 3, 13, 33, [(0, 3)]), (176, .aload_n 0, 1, 0, 0, []), (177, .iconst 4, 1, 0, 0, []), (178, .newarray .int, 2, 0, 0, []), (180, .putfield 62, 3, 13, 34, [(0, 3)]), (183, .aload_n 0, 1, 0, 0, []), (184, .iconst 4, 1, 0, 0, []), (185, .newarray .int, 2, 0, 0, []), (187, .putfield 65, 3, 13, 35, [(0, 3)]), (190, .aload_n 0, 1, 0, 0, []), (191, .bipush 30, 2, 0, 0, []), (193, .newarray .int, 2, 0, 0, []), (195, .putfield 68, 3, 13, 39, [(0, 3)]), (198, .aload_n 0, 1, 0, 0, []), (199, .getfield 16, 3, 13, 2, []), (202, .iconst 0, 1, 0, 0, []), (203, .bipush 12, 2, 0, 0, []), (205, .iastore, 1, 0, 0, []), (206, .aload_n 0, 1, 0, 0, []), (207, .getfield 16, 3, 13, 2, []), (210, .iconst 1, 1, 0, 0, []), (211, .iconst 1, 1, 0, 0, []), (212, .iastore, 1, 0, 0, []), (213, .return_, 1, 0, 0, [])]
/-- ShadowSchoolModel.in(III)Z -/
def jc_180 : List jw_I := [(0, .iload_n 0, 1, 0, 0, []), (1, .iload_n 1, 1, 0, 0, []), (2, .if_icmp .lt 12, 3, 14, 0, []), (5, .iload_n 0, 1, 0, 0, []), (6, .iload_n 2, 1, 0, 0, []), (7, .if_icmp .gt 7, 3, 14, 0, []), (10, .iconst 1, 1, 0, 0, []), (11, .goto 4, 3, 15, 0, []), (14, .iconst 0, 1, 0, 0, []), (15, .ireturn, 1, 0, 0, [])]
/-- ShadowSchoolModel.isShadow(I)Z -/
def jc_181 : List jw_I := [(0, .iload_n 1, 1, 0, 0, []), (1, .iconst 0, 1, 0, 0, []), (2, .aload_n 0, 1, 0, 0, []), (3, .getfield 16, 3, 13, 2, []), (6, .iconst 2, 1, 0, 0, []), (7, .iaload, 1, 0, 0, []), (8, .iconst 1, 1, 0, 0, []), (9, .isub, 1, 0, 0, []), (10, .invokestatic 71, 3, 2, 3, [(0, 180)]), (13, .ireturn, 1, 0, 0, [])]
/-- ShadowSchoolModel.isLesson(I)Z -/
def jc_182 : List jw_I := [(0, .iload_n 1, 1, 0, 0, []), (1, .iconst 0, 1, 0, 0, []), (2, .aload_n 0, 1, 0, 0, []), (3, .getfield 16, 3, 13, 2, []), (6, .iconst 3, 1, 0, 0, []), (7, .iaload, 1, 0, 0, []), (8, .iconst 1, 1, 0, 0, []), (9, .isub, 1, 0, 0, []), (10, .invokestatic 71, 3, 2, 3, [(0, 180)]), (13, .ireturn, 1, 0, 0, [])]
/-- ShadowSchoolModel.of(II)I -/
def jc_183 : List jw_I := [(0, .aload_n 0, 1, 0, 0, []), (1, .getfield 16, 3, 13, 2, []), (4, .bipush 6, 2, 0, 0, []), (6, .iconst 3, 1, 0, 0, []), (7, .iload_n 1, 1, 0, 0, []), (8, .imul, 1, 0, 0, []), (9, .iadd, 1, 0, 0, []), (10, .iload_n 2, 1, 0, 0, []), (11, .iadd, 1, 0, 0, []), (12, .iaload, 1, 0, 0, []), (13, .ireturn, 1, 0, 0, [])]
/-- ShadowSchoolModel.lessonNumber(II)I -/
def jc_184 : List jw_I := [(0, .aload_n 0, 1, 0, 0, []), (1, .getfield 16, 3, 13, 2, []), (4, .bipush 24, 2, 0, 0, []), (6, .iconst 5, 1, 0, 0, []), (7, .iload_n 1, 1, 0, 0, []), (8, .imul, 1, 0, 0, []), (9, .iadd, 1, 0, 0, []), (10, .iload_n 2, 1, 0, 0, []), (11, .iadd, 1, 0, 0, []), (12, .iaload, 1, 0, 0, []), (13, .ireturn, 1, 0, 0, [])]
/-- ShadowSchoolModel.ones(I)I -/
def jc_185 : List jw_I := [(0, .iconst 0, 1, 0, 0, []), (1, .istore_n 1, 1, 0, 0, []), (2, .iload_n 0, 1, 0, 0, []), (3, .istore_n 2, 1, 0, 0, []), (4, .iload_n 2, 1, 0, 0, []), (5, .ifCond .eq 15, 3, 20, 0, []), (8, .iinc 1 1, 3, 0, 0, []), (11, .iload_n 2, 1, 0, 0, []), (12, .iload_n 2, 1, 0, 0, []), (13, .iconst 1, 1, 0, 0, []), (14, .isub, 1, 0, 0, []), (15, .iand, 1, 0, 0, []), (16, .istore_n 2, 1, 0, 0, []), (17, .goto (-13), 3, 4, 0, []), (20, .iload_n 1, 1, 0, 0, []), (21, .ireturn, 1, 0, 0, [])]
/-- ShadowSchoolModel.isOver()Z -/
def jc_186 : List jw_I := [(0, .aload_n 0, 1, 0, 0, []), (1, .getfield 9, 3, 13, 0, []), (4, .iconst 0, 1, 0, 0, []), (5, .iaload, 1, 0, 0, []), (6, .aload_n 0, 1, 0, 0, []), (7, .getfield 16, 3, 13, 2, []), (10, .iconst 0, 1, 0, 0, []), (11, .iaload, 1, 0, 0, []), (12, .if_icmp .lt 7, 3, 19, 0, []), (15, .iconst 1, 1, 0, 0, []), (16, .goto 4, 3, 20, 0, []), (19, .iconst 0, 1, 0, 0, []), (20, .ireturn, 1, 0, 0, [])]
/-- ShadowSchoolModel.hasLearnt(II)Z -/
def jc_187 : List jw_I := [(0, .aload_n 0, 1, 0, 0, []), (1, .getfield 9, 3, 13, 0, []), (4, .iconst 2, 1, 0, 0, []), (5, .iload_n 1, 1, 0, 0, []), (6, .iadd, 1, 0, 0, []), (7, .iaload, 1, 0, 0, []), (8, .iload_n 2, 1, 0, 0, []), (9, .ishr, 1, 0, 0, []), (10, .iconst 1, 1, 0, 0, []), (11, .iand, 1, 0, 0, []), (12, .iconst 1, 1, 0, 0, []), (13, .if_icmp .ne 7, 3, 20, 0, []), (16, .iconst 1, 1, 0, 0, []), (17, .goto 4, 3, 21, 0, []), (20, .iconst 0, 1, 0, 0, []), (21, .ireturn, 1, 0, 0, [])]
/-- ShadowSchoolModel.pointsOf(II)I -/
def jc_188 : List jw_I := [(0, .aload_n 0, 1, 0, 0, []), (1, .getfield 9, 3, 13, 0, []), (4, .bipush 8, 2, 0, 0, []), (6, .bipush 8, 2, 0, 0, []), (8, .iload_n 1, 1, 0, 0, []), (9, .imul, 1, 0, 0, []), (10, .iadd, 1, 0, 0, []), (11, .iload_n 2, 1, 0, 0, []), (12, .iadd, 1, 0, 0, []), (13, .iaload, 1, 0, 0, []), (14, .ireturn, 1, 0, 0, [])]
/-- ShadowSchoolModel.save(I)V -/
def jc_189 : List jw_I := [(0, .iconst 0, 1, 0, 0, []), (1, .istore_n 2, 1, 0, 0, []), (2, .iload_n 2, 1, 0, 0, []), (3, .bipush 56, 2, 0, 0, []), (5, .if_icmp .ge 26, 3, 31, 0, []), (8, .aload_n 0, 1, 0, 0, []), (9, .getfield 13, 3, 13, 1, []), (12, .bipush 56, 2, 0, 0, []), (14, .iload_n 1, 1, 0, 0, []), (15, .imul, 1, 0, 0, []), (16, .iload_n 2, 1, 0, 0, []), (17, .iadd, 1, 0, 0, []), (18, .aload_n 0, 1, 0, 0, []), (19, .getfield 9, 3, 13, 0, []), (22, .iload_n 2, 1, 0, 0, []), (23, .iaload, 1, 0, 0, []), (24, .iastore, 1, 0, 0, []), (25, .iinc 2 1, 3, 0, 0, []), (28, .goto (-26), 3, 2, 0, []), (31, .return_, 1, 0, 0, [])]
/-- ShadowSchoolModel.load(I)V -/
def jc_190 : List jw_I := [(0, .iconst 0, 1, 0, 0, []), (1, .istore_n 2, 1, 0, 0, []), (2, .iload_n 2, 1, 0, 0, []), (3, .bipush 56, 2, 0, 0, []), (5, .if_icmp .ge 26, 3, 31, 0, []), (8, .aload_n 0, 1, 0, 0, []), (9, .getfield 9, 3, 13, 0, []), (12, .iload_n 2, 1, 0, 0, []), (13, .aload_n 0, 1, 0, 0, []), (14, .getfield 13, 3, 13, 1, []), (17, .bipush 56, 2, 0, 0, []), (19, .iload_n 1, 1, 0, 0, []), (20, .imul, 1, 0, 0, []), (21, .iload_n 2, 1, 0, 0, []), (22, .iadd, 1, 0, 0, []), (23, .iaload, 1, 0, 0, []), (24, .iastore, 1, 0, 0, []), (25, .iinc 2 1, 3, 0, 0, []), (28, .goto (-26), 3, 2, 0, []), (31, .return_, 1, 0, 0, [])]
/-- ShadowSchoolModel.paceBy(III)I -/
def jc_191 : List jw_I := [(0, .iload_n 0, 1, 0, 0, []), (1, .tableswitch 94 1 5 #[35, 48, 62, 78, 84], 35, 95, 0, [(1, 36), (2, 49), (3, 63), (4, 79), (5, 85)]), (36, .iload_n 2, 1, 0, 0, []), (37, .iconst 4, 1, 0, 0, []), (38, .irem, 1, 0, 0, []), (39, .iconst 3, 1, 0, 0, []), (40, .if_icmp .ne 7, 3, 47, 0, []), (43, .iconst 0, 1, 0, 0, []), (44, .goto 4, 3, 48, 0, []), (47, .iload_n 1, 1, 0, 0, []), (48, .ireturn, 1, 0, 0, []), (49, .iload_n 2, 1, 0, 0, []), (50, .bipush 6, 2, 0, 0, []), (52, .if_icmp .ne 7, 3, 59, 0, []), (55, .iconst 0, 1, 0, 0, []), (56, .goto 6, 3, 62, 0, []), (59, .iconst 2, 1, 0, 0, []), (60, .iload_n 1, 1, 0, 0, []), (61, .imul, 1, 0, 0, []), (62, .ireturn, 1, 0, 0, []), (63, .iload_n 2, 1, 0, 0, []), (64, .bipush 6, 2, 0, 0, []), (66, .if_icmp .ne 7, 3, 73, 0, []), (69, .iconst 0, 1, 0, 0, []), (70, .goto 6, 3, 76, 0, []), (73, .iconst 2, 1, 0, 0, []), (74, .iload_n 1, 1, 0, 0, []), (75, .imul, 1, 0, 0, []), (76, .iconst 1, 1, 0, 0, []), (77, .iadd, 1, 0, 0, []), (78, .ireturn, 1, 0, 0, []), (79, .iload_n 1, 1, 0, 0, []), (80, .iconst 2, 1, 0, 0, []), (81, .idiv, 1, 0, 0, []), (82, .iconst 1, 1, 0, 0, []), (83, .iadd, 1, 0, 0, []), (84, .ireturn, 1, 0, 0, []), (85, .iload_n 1, 1, 0, 0, []), (86, .iconst 2, 1, 0, 0, []), (87, .idiv, 1, 0, 0, []), (88, .iconst 1, 1, 0, 0, []), (89, .iadd, 1, 0, 0, []), (90, .iload_n 2, 1, 0, 0, []), (91, .iconst 4, 1, 0, 0, []), (92, .irem, 1, 0, 0, []), (93, .iadd, 1, 0, 0, []), (94, .ireturn, 1, 0, 0, []), (95, .iload_n 1, 1, 0, 0, []), (96, .ireturn, 1, 0, 0, [])]
/-- ShadowSchoolModel.far(II)I -/
def jc_192 : List jw_I := [(0, .iload_n 0, 1, 0, 0, []), (1, .iload_n 1, 1, 0, 0, []), (2, .if_icmp .ge 9, 3, 11, 0, []), (5, .iload_n 1, 1, 0, 0, []), (6, .iload_n 0, 1, 0, 0, []), (7, .isub, 1, 0, 0, []), (8, .goto 6, 3, 14, 0, []), (11, .iload_n 0, 1, 0, 0, []), (12, .iload_n 1, 1, 0, 0, []), (13, .isub, 1, 0, 0, []), (14, .ireturn, 1, 0, 0, [])]
/-- ShadowSchoolModel.lengthBy(III)I -/
def jc_193 : List jw_I := [(0, .iload_n 0, 1, 0, 0, []), (1, .tableswitch 68 3 5 #[27, 48, 57], 27, 69, 0, [(3, 28), (4, 49), (5, 58)]), (28, .iload_n 1, 1, 0, 0, []), (29, .iload_n 2, 1, 0, 0, []), (30, .bipush 6, 2, 0, 0, []), (32, .invokestatic 75, 3, 2, 2, [(0, 192)]), (35, .imul, 1, 0, 0, []), (36, .iconst 2, 1, 0, 0, []), (37, .isub, 1, 0, 0, []), (38, .istore_n 3, 1, 0, 0, []), (39, .iload_n 3, 1, 0, 0, []), (40, .ifCond .ge 7, 3, 47, 0, []), (43, .iconst 0, 1, 0, 0, []), (44, .goto 4, 3, 48, 0, []), (47, .iload_n 3, 1, 0, 0, []), (48, .ireturn, 1, 0, 0, []), (49, .iload_n 1, 1, 0, 0, []), (50, .iload_n 2, 1, 0, 0, []), (51, .bipush 7, 2, 0, 0, []), (53, .invokestatic 75, 3, 2, 2, [(0, 192)]), (56, .imul, 1, 0, 0, []), (57, .ireturn, 1, 0, 0, []), (58, .iload_n 1, 1, 0, 0, []), (59, .iload_n 2, 1, 0, 0, []), (60, .bipush 7, 2, 0, 0, []), (62, .invokestatic 75, 3, 2, 2, [(0, 192)]), (65, .imul, 1, 0, 0, []), (66, .iconst 3, 1, 0, 0, []), (67, .iadd, 1, 0, 0, []), (68, .ireturn, 1, 0, 0, []), (69, .iload_n 1, 1, 0, 0, []), (70, .iload_n 2, 1, 0, 0, []), (71, .bipush 6, 2, 0, 0, []), (73, .invokestatic 75, 3, 2, 2, [(0, 192)]), (76, .imul, 1, 0, 0, []), (77, .ireturn, 1, 0, 0, [])]
/-- ShadowSchoolModel.isUnder(II)Z -/
def jc_194 : List jw_I := [(0, .iload_n 1, 1, 0, 0, []), (1, .ifCond .eq 28, 3, 29, 0, []), (4, .iload_n 1, 1, 0, 0, []), (5, .iload_n 0, 1, 0, 0, []), (6, .if_icmp .eq 23, 3, 29, 0, []), (9, .iload_n 1, 1, 0, 0, []), (10, .iconst 2, 1, 0, 0, []), (11, .if_icmp .ne 8, 3, 19, 0, []), (14, .iload_n 0, 1, 0, 0, []), (15, .iconst 3, 1, 0, 0, []), (16, .if_icmp .eq 13, 3, 29, 0, []), (19, .iload_n 1, 1, 0, 0, []), (20, .iconst 4, 1, 0, 0, []), (21, .if_icmp .ne 12, 3, 33, 0, []), (24, .iload_n 0, 1, 0, 0, []), (25, .iconst 5, 1, 0, 0, []), (26, .if_icmp .ne 7, 3, 33, 0, []), (29, .iconst 1, 1, 0, 0, []), (30, .goto 4, 3, 34, 0, []), (33, .iconst 0, 1, 0, 0, []), (34, .ireturn, 1, 0, 0, [])]
/-- ShadowSchoolModel.shadow(III)I -/
def jc_195 : List jw_I := [(0, .iload_n 1, 1, 0, 0, []), (1, .iconst 1, 1, 0, 0, []), (2, .iconst 5, 1, 0, 0, []), (3, .invokestatic 71, 3, 2, 3, [(0, 180)]), (6, .ifCond .eq 23, 3, 29, 0, []), (9, .iload_n 2, 1, 0, 0, []), (10, .iconst 1, 1, 0, 0, []), (11, .bipush 9, 2, 0, 0, []), (13, .invokestatic 71, 3, 2, 3, [(0, 180)]), (16, .ifCond .eq 13, 3, 29, 0, []), (19, .iload_n 3, 1, 0, 0, []), (20, .iconst 1, 1, 0, 0, []), (21, .bipush 9, 2, 0, 0, []), (23, .invokestatic 71, 3, 2, 3, [(0, 180)]), (26, .ifCond .ne 5, 3, 31, 0, []), (29, .iconst (-1), 1, 0, 0, []), (30, .ireturn, 1, 0, 0, []), (31, .aload_n 0, 1, 0, 0, []), (32, .getfield 16, 3, 13, 2, []), (35, .iconst 2, 1, 0, 0, []), (36, .iaload, 1, 0, 0, []), (37, .bipush 6, 2, 0, 0, []), (39, .if_icmp .ne 6, 3, 45, 0, []), (42, .bipush (-2), 2, 0, 0, []), (44, .ireturn, 1, 0, 0, []), (45, .aload_n 0, 1, 0, 0, []), (46, .getfield 16, 3, 13, 2, []), (49, .iconst 2, 1, 0, 0, []), (50, .iaload, 1, 0, 0, []), (51, .istore 4, 2, 0, 0, []), (53, .aload_n 0, 1, 0, 0, []), (54, .getfield 16, 3, 13, 2, []), (57, .bipush 6, 2, 0, 0, []), (59, .iconst 3, 1, 0, 0, []), (60, .iload 4, 2, 0, 0, []), (62, .imul, 1, 0, 0, []), (63, .iadd, 1, 0, 0, []), (64, .iload_n 1, 1, 0, 0, []), (65, .iastore, 1, 0, 0, []), (66, .aload_n 0, 1, 0, 0, []), (67, .getfield 16, 3, 13, 2, []), (70, .bipush 6, 2, 0, 0, []), (72, .iconst 3, 1, 0, 0, []), (73, .iload 4, 2, 0, 0, []), (75, .imul, 1, 0, 0, []), (76, .iadd, 1, 0, 0, []), (77, .iconst 1, 1, 0, 0, []), (78, .iadd, 1, 0, 0, []), (79, .iload_n 2, 1, 0, 0, []), (80, .iastore, 1, 0, 0, []), (81, .aload_n 0, 1, 0, 0, []), (82, .getfield 16, 3, 13, 2, []), (85, .bipush 6, 2, 0, 0, []), (87, .iconst 3, 1, 0, 0, []), (88, .iload 4, 2, 0, 0, []), (90, .imul, 1, 0, 0, []), (91, .iadd, 1, 0, 0, []), (92, .iconst 2, 1, 0, 0, []), (93, .iadd, 1, 0, 0, []), (94, .iload_n 3, 1, 0, 0, []), (95, .iastore, 1, 0, 0, []), (96, .aload_n 0, 1, 0, 0, []), (97, .getfield 16, 3, 13, 2, []), (100, .bipush 64, 2, 0, 0, []), (102, .iload 4, 2, 0, 0, []), (104, .iadd, 1, 0, 0, []), (105, .iconst 0, 1, 0, 0, []), (106, .iastore, 1, 0, 0, []), (107, .aload_n 0, 1, 0, 0, []), (108, .getfield 9, 3, 13, 0, []), (111, .iconst 2, 1, 0, 0, []), (112, .iload 4, 2, 0, 0, []), (114, .iadd, 1, 0, 0, []), (115, .iconst 0, 1, 0, 0, []), (116, .iastore, 1, 0, 0, []), (117, .iconst 0, 1, 0, 0, []), (118, .istore 5, 2, 0, 0, []), (120, .iload 5, 2, 0, 0, []), (122, .bipush 8, 2, 0, 0, []), (124, .if_icmp .ge 26, 3, 150, 0, []), (127, .aload_n 0, 1, 0, 0, []), (128, .getfield 9, 3, 13, 0, []), (131, .bipush 8, 2, 0, 0, []), (133, .bipush 8, 2, 0, 0, []), (135, .iload 4, 2, 0, 0, []), (137, .imul, 1, 0, 0, []), (138, .iadd, 1, 0, 0, []), (139, .iload 5, 2, 0, 0, []), (141, .iadd, 1, 0, 0, []), (142, .iconst 0, 1, 0, 0, []), (143, .iastore, 1, 0, 0, []), (144, .iinc 5 1, 3, 0, 0, []), (147, .goto (-27), 3, 120, 0, []), (150, .aload_n 0, 1, 0, 0, []), (151, .getfield 16, 3, 13, 2, []), (154, .iconst 2, 1, 0, 0, []), (155, .dup2, 1, 0, 0, []), (156, .iaload, 1, 0, 0, []), (157, .iconst 1, 1, 0, 0, []), (158, .iadd, 1, 0, 0, []), (159, .iastore, 1, 0, 0, []), (160, .iload 4, 2, 0, 0, []), (162, .ireturn, 1, 0, 0, [])]
/-- ShadowSchoolModel.shadowOf(II)I -/
def jc_196 : List jw_I := [(0, .aload_n 0, 1, 0, 0, []), (1, .iload_n 1, 1, 0, 0, []), (2, .invokevirtual 79, 3, 0, 1, [(13, 181)]), (5, .ifCond .eq 13, 3, 18, 0, []), (8, .iload_n 2, 1, 0, 0, []), (9, .iconst 0, 1, 0, 0, []), (10, .bipush 6, 2, 0, 0, []), (12, .invokestatic 71, 3, 2, 3, [(0, 180)]), (15, .ifCond .ne 5, 3, 20, 0, []), (18, .iconst (-1), 1, 0, 0, []), (19, .ireturn, 1, 0, 0, []), (20, .iload_n 2, 1, 0, 0, []), (21, .tableswitch 97 3 6 #[31, 43, 65, 75], 31, 118, 0, [(3, 52), (4, 64), (5, 86), (6, 96)]), (52, .aload_n 0, 1, 0, 0, []), (53, .getfield 9, 3, 13, 0, []), (56, .iconst 2, 1, 0, 0, []), (57, .iload_n 1, 1, 0, 0, []), (58, .iadd, 1, 0, 0, []), (59, .iaload, 1, 0, 0, []), (60, .invokestatic 83, 3, 2, 1, [(0, 185)]), (63, .ireturn, 1, 0, 0, []), (64, .aload_n 0, 1, 0, 0, []), (65, .iload_n 1, 1, 0, 0, []), (66, .iconst 0, 1, 0, 0, []), (67, .invokevirtual 87, 3, 0, 2, [(13, 183)]), (70, .aload_n 0, 1, 0, 0, []), (71, .iload_n 1, 1, 0, 0, []), (72, .iconst 1, 1, 0, 0, []), (73, .invokevirtual 87, 3, 0, 2, [(13, 183)]), (76, .aload_n 0, 1, 0, 0, []), (77, .getfield 9, 3, 13, 0, []), (80, .iconst 0, 1, 0, 0, []), (81, .iaload, 1, 0, 0, []), (82, .invokestatic 90, 3, 2, 3, [(0, 191)]), (85, .ireturn, 1, 0, 0, []), (86, .aload_n 0, 1, 0, 0, []), (87, .invokevirtual 94, 3, 0, 0, [(13, 228)]), (90, .aload_n 0, 1, 0, 0, []), (91, .iload_n 1, 1, 0, 0, []), (92, .invokevirtual 97, 3, 0, 1, [(13, 232)]), (95, .ireturn, 1, 0, 0, []), (96, .aload_n 0, 1, 0, 0, []), (97, .iload_n 1, 1, 0, 0, []), (98, .iconst 0, 1, 0, 0, []), (99, .invokevirtual 87, 3, 0, 2, [(13, 183)]), (102, .aload_n 0, 1, 0, 0, []), (103, .iload_n 1, 1, 0, 0, []), (104, .iconst 2, 1, 0, 0, []), (105, .invokevirtual 87, 3, 0, 2, [(13, 183)]), (108, .aload_n 0, 1, 0, 0, []), (109, .getfield 9, 3, 13, 0, []), (112, .iconst 0, 1, 0, 0, []), (113, .iaload, 1, 0, 0, []), (114, .invokestatic 100, 3, 2, 3, [(0, 193)]), (117, .ireturn, 1, 0, 0, []), (118, .aload_n 0, 1, 0, 0, []), (119, .iload_n 1, 1, 0, 0, []), (120, .iload_n 2, 1, 0, 0, []), (121, .invokevirtual 87, 3, 0, 2, [(13, 183)]), (124, .ireturn, 1, 0, 0, [])]
/-- ShadowSchoolModel.becomes(II)I -/
def jc_197 : List jw_I := [(0, .aload_n 0, 1, 0, 0, []), (1, .getfield 16, 3, 13, 2, []), (4, .iload_n 1, 1, 0, 0, []), (5, .iaload, 1, 0, 0, []), (6, .istore_n 3, 1, 0, 0, []), (7, .aload_n 0, 1, 0, 0, []), (8, .getfield 16, 3, 13, 2, []), (11, .iload_n 1, 1, 0, 0, []), (12, .iload_n 2, 1, 0, 0, []), (13, .iastore, 1, 0, 0, []), (14, .iload_n 3, 1, 0, 0, []), (15, .ireturn, 1, 0, 0, [])]
/-- ShadowSchoolModel.change(III)I -/
def jc_198 : List jw_I := [(0, .aload_n 0, 1, 0, 0, []), (1, .iload_n 1, 1, 0, 0, []), (2, .invokevirtual 79, 3, 0, 1, [(13, 181)]), (5, .ifCond .eq 38, 3, 43, 0, []), (8, .iload_n 2, 1, 0, 0, []), (9, .iconst 1, 1, 0, 0, []), (10, .iconst 2, 1, 0, 0, []), (11, .invokestatic 71, 3, 2, 3, [(0, 180)]), (14, .ifCond .eq 29, 3, 43, 0, []), (17, .iload_n 3, 1, 0, 0, []), (18, .iconst 1, 1, 0, 0, []), (19, .bipush 9, 2, 0, 0, []), (21, .invokestatic 71, 3, 2, 3, [(0, 180)]), (24, .ifCond .eq 19, 3, 43, 0, []), (27, .aload_n 0, 1, 0, 0, []), (28, .bipush 6, 2, 0, 0, []), (30, .iconst 3, 1, 0, 0, []), (31, .iload_n 1, 1, 0, 0, []), (32, .imul, 1, 0, 0, []), (33, .iadd, 1, 0, 0, []), (34, .iload_n 2, 1, 0, 0, []), (35, .iadd, 1, 0, 0, []), (36, .iload_n 3, 1, 0, 0, []), (37, .invokevirtual 103, 3, 0, 2, [(13, 197)]), (40, .goto 4, 3, 44, 0, []), (43, .iconst (-1), 1, 0, 0, []), (44, .ireturn, 1, 0, 0, [])]
/-- ShadowSchoolModel.remake(II)I -/
def jc_199 : List jw_I := [(0, .aload_n 0, 1, 0, 0, []), (1, .iload_n 1, 1, 0, 0, []), (2, .invokevirtual 79, 3, 0, 1, [(13, 181)]), (5, .ifCond .eq 26, 3, 31, 0, []), (8, .iload_n 2, 1, 0, 0, []), (9, .iconst 1, 1, 0, 0, []), (10, .iconst 5, 1, 0, 0, []), (11, .invokestatic 71, 3, 2, 3, [(0, 180)]), (14, .ifCond .eq 17, 3, 31, 0, []), (17, .aload_n 0, 1, 0, 0, []), (18, .bipush 6, 2, 0, 0, []), (20, .iconst 3, 1, 0, 0, []), (21, .iload_n 1, 1, 0, 0, []), (22, .imul, 1, 0, 0, []), (23, .iadd, 1, 0, 0, []), (24, .iload_n 2, 1, 0, 0, []), (25, .invokevirtual 103, 3, 0, 2, [(13, 197)]), (28, .goto 4, 3, 32, 0, []), (31, .iconst (-1), 1, 0, 0, []), (32, .ireturn, 1, 0, 0, [])]
/-- ShadowSchoolModel.lesson(IIIII)I -/
def jc_200 : List jw_I := [(0, .iload_n 1, 1, 0, 0, []), (1, .iconst 1, 1, 0, 0, []), (2, .bipush 20, 2, 0, 0, []), (4, .invokestatic 71, 3, 2, 3, [(0, 180)]), (7, .ifCond .eq 51, 3, 58, 0, []), (10, .iload_n 2, 1, 0, 0, []), (11, .iconst (-1), 1, 0, 0, []), (12, .aload_n 0, 1, 0, 0, []), (13, .getfield 16, 3, 13, 2, []), (16, .iconst 3, 1, 0, 0, []), (17, .iaload, 1, 0, 0, []), (18, .iconst 1, 1, 0, 0, []), (19, .isub, 1, 0, 0, []), (20, .invokestatic 71, 3, 2, 3, [(0, 180)]), (23, .ifCond .eq 35, 3, 58, 0, []), (26, .iload_n 3, 1, 0, 0, []), (27, .iconst 0, 1, 0, 0, []), (28, .bipush 15, 2, 0, 0, []), (30, .invokestatic 71, 3, 2, 3, [(0, 180)]), (33, .ifCond .eq 25, 3, 58, 0, []), (36, .iload 4, 2, 0, 0, []), (38, .iload_n 3, 1, 0, 0, []), (39, .bipush 15, 2, 0, 0, []), (41, .invokestatic 71, 3, 2, 3, [(0, 180)]), (44, .ifCond .eq 14, 3, 58, 0, []), (47, .iload 5, 2, 0, 0, []), (49, .iconst 1, 1, 0, 0, []), (50, .bipush 6, 2, 0, 0, []), (52, .invokestatic 71, 3, 2, 3, [(0, 180)]), (55, .ifCond .ne 5, 3, 60, 0, []), (58, .iconst (-1), 1, 0, 0, []), (59, .ireturn, 1, 0, 0, []), (60, .aload_n 0, 1, 0, 0, []), (61, .getfield 16, 3, 13, 2, []), (64, .iconst 3, 1, 0, 0, []), (65, .iaload, 1, 0, 0, []), (66, .bipush 8, 2, 0, 0, []), (68, .if_icmp .ne 6, 3, 74, 0, []), (71, .bipush (-2), 2, 0, 0, []), (73, .ireturn, 1, 0, 0, []), (74, .bipush 24, 2, 0, 0, []), (76, .iconst 5, 1, 0, 0, []), (77, .aload_n 0, 1, 0, 0, []), (78, .getfield 16, 3, 13, 2, []), (81, .iconst 3, 1, 0, 0, []), (82, .iaload, 1, 0, 0, []), (83, .imul, 1, 0, 0, []), (84, .iadd, 1, 0, 0, []), (85, .istore 6, 2, 0, 0, []), (87, .aload_n 0, 1, 0, 0, []), (88, .getfield 16, 3, 13, 2, []), (91, .iload 6, 2, 0, 0, []), (93, .iload_n 1, 1, 0, 0, []), (94, .iastore, 1, 0, 0, []), (95, .aload_n 0, 1, 0, 0, []), (96, .getfield 16, 3, 13, 2, []), (99, .iload 6, 2, 0, 0, []), (101, .iconst 1, 1, 0, 0, []), (102, .iadd, 1, 0, 0, []), (103, .iload_n 2, 1, 0, 0, []), (104, .iastore, 1, 0, 0, []), (105, .aload_n 0, 1, 0, 0, []), (106, .getfield 16, 3, 13, 2, []), (109, .iload 6, 2, 0, 0, []), (111, .iconst 2, 1, 0, 0, []), (112, .iadd, 1, 0, 0, []), (113, .iload_n 3, 1, 0, 0, []), (114, .iastore, 1, 0, 0, []), (115, .aload_n 0, 1, 0, 0, []), (116, .getfield 16, 3, 13, 2, []), (119, .iload 6, 2, 0, 0, []), (121, .iconst 3, 1, 0, 0, []), (122, .iadd, 1, 0, 0, []), (123, .iload 4, 2, 0, 0, []), (125, .iastore, 1, 0, 0, []), (126, .aload_n 0, 1, 0, 0, []), (127, .getfield 16, 3, 13, 2, []), (130, .iload 6, 2, 0, 0, []), (132, .iconst 4, 1, 0, 0, []), (133, .iadd, 1, 0, 0, []), (134, .iload 5, 2, 0, 0, []), (136, .iastore, 1, 0, 0, []), (137, .aload_n 0, 1, 0, 0, []), (138, .getfield 16, 3, 13, 2, []), (141, .iconst 3, 1, 0, 0, []), (142, .dup2, 1, 0, 0, []), (143, .iaload, 1, 0, 0, []), (144, .iconst 1, 1, 0, 0, []), (145, .iadd, 1, 0, 0, []), (146, .iastore, 1, 0, 0, []), (147, .aload_n 0, 1, 0, 0, []), (148, .getfield 16, 3, 13, 2, []), (151, .iconst 3, 1, 0, 0, []), (152, .iaload, 1, 0, 0, []), (153, .iconst 1, 1, 0, 0, []), (154, .isub, 1, 0, 0, []), (155, .ireturn, 1, 0, 0, [])]
/-- ShadowSchoolModel.learntBy(I)I -/
def jc_201 : List jw_I := [(0, .iconst 0, 1, 0, 0, []), (1, .istore_n 2, 1, 0, 0, []), (2, .iconst 0, 1, 0, 0, []), (3, .istore_n 3, 1, 0, 0, []), (4, .iload_n 3, 1, 0, 0, []), (5, .aload_n 0, 1, 0, 0, []), (6, .getfield 16, 3, 13, 2, []), (9, .iconst 2, 1, 0, 0, []), (10, .iaload, 1, 0, 0, []), (11, .if_icmp .ge 26, 3, 37, 0, []), (14, .iload_n 2, 1, 0, 0, []), (15, .aload_n 0, 1, 0, 0, []), (16, .iload_n 3, 1, 0, 0, []), (17, .iload_n 1, 1, 0, 0, []), (18, .invokevirtual 106, 3, 0, 2, [(13, 187)]), (21, .ifCond .eq 7, 3, 28, 0, []), (24, .iconst 1, 1, 0, 0, []), (25, .goto 4, 3, 29, 0, []), (28, .iconst 0, 1, 0, 0, []), (29, .iadd, 1, 0, 0, []), (30, .istore_n 2, 1, 0, 0, []), (31, .iinc 3 1, 3, 0, 0, []), (34, .goto (-30), 3, 4, 0, []), (37, .iload_n 2, 1, 0, 0, []), (38, .ireturn, 1, 0, 0, [])]
/-- ShadowSchoolModel.lessonOf(II)I -/
def jc_202 : List jw_I := [(0, .aload_n 0, 1, 0, 0, []), (1, .iload_n 1, 1, 0, 0, []), (2, .invokevirtual 110, 3, 0, 1, [(13, 182)]), (5, .ifCond .eq 12, 3, 17, 0, []), (8, .iload_n 2, 1, 0, 0, []), (9, .iconst 0, 1, 0, 0, []), (10, .iconst 5, 1, 0, 0, []), (11, .invokestatic 71, 3, 2, 3, [(0, 180)]), (14, .ifCond .ne 5, 3, 19, 0, []), (17, .iconst (-1), 1, 0, 0, []), (18, .ireturn, 1, 0, 0, []), (19, .iload_n 2, 1, 0, 0, []), (20, .iconst 5, 1, 0, 0, []), (21, .if_icmp .ge 12, 3, 33, 0, []), (24, .aload_n 0, 1, 0, 0, []), (25, .iload_n 1, 1, 0, 0, []), (26, .iload_n 2, 1, 0, 0, []), (27, .invokevirtual 113, 3, 0, 2, [(13, 184)]), (30, .goto 8, 3, 38, 0, []), (33, .aload_n 0, 1, 0, 0, []), (34, .iload_n 1, 1, 0, 0, []), (35, .invokevirtual 116, 3, 0, 1, [(13, 201)]), (38, .ireturn, 1, 0, 0, [])]
/-- ShadowSchoolModel.points(II)I -/
def jc_203 : List jw_I := [(0, .aload_n 0, 1, 0, 0, []), (1, .iload_n 1, 1, 0, 0, []), (2, .invokevirtual 79, 3, 0, 1, [(13, 181)]), (5, .ifCond .eq 20, 3, 25, 0, []), (8, .aload_n 0, 1, 0, 0, []), (9, .iload_n 2, 1, 0, 0, []), (10, .invokevirtual 110, 3, 0, 1, [(13, 182)]), (13, .ifCond .eq 12, 3, 25, 0, []), (16, .aload_n 0, 1, 0, 0, []), (17, .iload_n 1, 1, 0, 0, []), (18, .iload_n 2, 1, 0, 0, []), (19, .invokevirtual 119, 3, 0, 2, [(13, 188)]), (22, .goto 4, 3, 26, 0, []), (25, .iconst (-1), 1, 0, 0, []), (26, .ireturn, 1, 0, 0, [])]
/-- ShadowSchoolModel.dusk(I)I -/
def jc_204 : List jw_I := [(0, .iload_n 1, 1, 0, 0, []), (1, .iconst 1, 1, 0, 0, []), (2, .bipush 16, 2, 0, 0, []), (4, .invokestatic 71, 3, 2, 3, [(0, 180)]), (7, .ifCond .ne 5, 3, 12, 0, []), (10, .iconst (-1), 1, 0, 0, []), (11, .ireturn, 1, 0, 0, []), (12, .iload_n 1, 1, 0, 0, []), (13, .aload_n 0, 1, 0, 0, []), (14, .getfield 9, 3, 13, 0, []), (17, .iconst 0, 1, 0, 0, []), (18, .iaload, 1, 0, 0, []), (19, .if_icmp .ge 8, 3, 27, 0, []), (22, .bipush (-4), 2, 0, 0, []), (24, .goto 9, 3, 33, 0, []), (27, .aload_n 0, 1, 0, 0, []), (28, .iconst 0, 1, 0, 0, []), (29, .iload_n 1, 1, 0, 0, []), (30, .invokevirtual 103, 3, 0, 2, [(13, 197)]), (33, .ireturn, 1, 0, 0, [])]
/-- ShadowSchoolModel.anew()I -/
def jc_205 : List jw_I := [(0, .aload_n 0, 1, 0, 0, []), (1, .getfield 9, 3, 13, 0, []), (4, .iconst 0, 1, 0, 0, []), (5, .iaload, 1, 0, 0, []), (6, .istore_n 1, 1, 0, 0, []), (7, .iconst 0, 1, 0, 0, []), (8, .istore_n 2, 1, 0, 0, []), (9, .iload_n 2, 1, 0, 0, []), (10, .bipush 56, 2, 0, 0, []), (12, .if_icmp .ge 16, 3, 28, 0, []), (15, .aload_n 0, 1, 0, 0, []), (16, .getfield 9, 3, 13, 0, []), (19, .iload_n 2, 1, 0, 0, []), (20, .iconst 0, 1, 0, 0, []), (21, .iastore, 1, 0, 0, []), (22, .iinc 2 1, 3, 0, 0, []), (25, .goto (-16), 3, 9, 0, []), (28, .iload_n 1, 1, 0, 0, []), (29, .ireturn, 1, 0, 0, [])]
/-- ShadowSchoolModel.state(I)I -/
def jc_206 : List jw_I := [(0, .iload_n 1, 1, 0, 0, []), (1, .tableswitch 65 0 3 #[31, 38, 45, 52], 31, 66, 0, [(0, 32), (1, 39), (2, 46), (3, 53)]), (32, .aload_n 0, 1, 0, 0, []), (33, .getfield 9, 3, 13, 0, []), (36, .iconst 0, 1, 0, 0, []), (37, .iaload, 1, 0, 0, []), (38, .ireturn, 1, 0, 0, []), (39, .aload_n 0, 1, 0, 0, []), (40, .getfield 16, 3, 13, 2, []), (43, .iconst 0, 1, 0, 0, []), (44, .iaload, 1, 0, 0, []), (45, .ireturn, 1, 0, 0, []), (46, .aload_n 0, 1, 0, 0, []), (47, .getfield 9, 3, 13, 0, []), (50, .iconst 1, 1, 0, 0, []), (51, .iaload, 1, 0, 0, []), (52, .ireturn, 1, 0, 0, []), (53, .aload_n 0, 1, 0, 0, []), (54, .invokevirtual 122, 3, 0, 0, [(13, 186)]), (57, .ifCond .eq 7, 3, 64, 0, []), (60, .iconst 1, 1, 0, 0, []), (61, .goto 4, 3, 65, 0, []), (64, .iconst 0, 1, 0, 0, []), (65, .ireturn, 1, 0, 0, []), (66, .iconst (-1), 1, 0, 0, []), (67, .ireturn, 1, 0, 0, [])]
/-- ShadowSchoolModel.feed(JI)I -/
def jc_207 : List jw_I := [(0, .iload_n 3, 1, 0, 0, []), (1, .iconst 1, 1, 0, 0, []), (2, .bipush 8, 2, 0, 0, []), (4, .invokestatic 71, 3, 2, 3, [(0, 180)]), (7, .ifCond .ne 5, 3, 12, 0, []), (10, .iconst (-1), 1, 0, 0, []), (11, .ireturn, 1, 0, 0, []), (12, .aload_n 0, 1, 0, 0, []), (13, .getfield 126, 3, 13, 7, []), (16, .iload_n 3, 1, 0, 0, []), (17, .iadd, 1, 0, 0, []), (18, .sipush 200, 3, 0, 0, []), (21, .if_icmp .le 6, 3, 27, 0, []), (24, .bipush (-2), 2, 0, 0, []), (26, .ireturn, 1, 0, 0, []), (27, .iconst 0, 1, 0, 0, []), (28, .istore 4, 2, 0, 0, []), (30, .iload 4, 2, 0, 0, []), (32, .iload_n 3, 1, 0, 0, []), (33, .if_icmp .ge 40, 3, 73, 0, []), (36, .aload_n 0, 1, 0, 0, []), (37, .getfield 25, 3, 13, 6, []), (40, .aload_n 0, 1, 0, 0, []), (41, .getfield 126, 3, 13, 7, []), (44, .lload_n 1, 1, 0, 0, []), (45, .bipush 8, 2, 0, 0, []), (47, .iload 4, 2, 0, 0, []), (49, .imul, 1, 0, 0, []), (50, .lshr, 1, 0, 0, []), (51, .ldc2_w 130, 3, 0, 0, [(255, 0)]), (54, .land, 1, 0, 0, []), (55, .l2i, 1, 0, 0, []), (56, .iastore, 1, 0, 0, []), (57, .aload_n 0, 1, 0, 0, []), (58, .dup, 1, 0, 0, []), (59, .getfield 126, 3, 13, 7, []), (62, .iconst 1, 1, 0, 0, []), (63, .iadd, 1, 0, 0, []), (64, .putfield 126, 3, 13, 7, [(0, 0)]), (67, .iinc 4 1, 3, 0, 0, []), (70, .goto (-40), 3, 30, 0, []), (73, .aload_n 0, 1, 0, 0, []), (74, .getfield 126, 3, 13, 7, []), (77, .ireturn, 1, 0, 0, [])]
/-- ShadowSchoolModel.byteAt(I)I -/
def jc_208 : List jw_I := [(0, .iload_n 1, 1, 0, 0, []), (1, .aload_n 0, 1, 0, 0, []), (2, .getfield 126, 3, 13, 7, []), (5, .if_icmp .ge 12, 3, 17, 0, []), (8, .aload_n 0, 1, 0, 0, []), (9, .getfield 25, 3, 13, 6, []), (12, .iload_n 1, 1, 0, 0, []), (13, .iaload, 1, 0, 0, []), (14, .goto 4, 3, 18, 0, []), (17, .iconst (-1), 1, 0, 0, []), (18, .ireturn, 1, 0, 0, [])]
/-- ShadowSchoolModel.isLetter(I)Z -/
def jc_209 : List jw_I := [(0, .iload_n 0, 1, 0, 0, []), (1, .bipush 97, 2, 0, 0, []), (3, .bipush 122, 2, 0, 0, []), (5, .invokestatic 71, 3, 2, 3, [(0, 180)]), (8, .ireturn, 1, 0, 0, [])]
/-- ShadowSchoolModel.isDigit(I)Z -/
def jc_210 : List jw_I := [(0, .iload_n 0, 1, 0, 0, []), (1, .bipush 48, 2, 0, 0, []), (3, .bipush 57, 2, 0, 0, []), (5, .invokestatic 71, 3, 2, 3, [(0, 180)]), (8, .ireturn, 1, 0, 0, [])]
/-- ShadowSchoolModel.advance()V -/
def jc_211 : List jw_I := [(0, .aload_n 0, 1, 0, 0, []), (1, .aload_n 0, 1, 0, 0, []), (2, .getfield 132, 3, 13, 10, []), (5, .putfield 135, 3, 13, 9, [(0, 0)]), (8, .aload_n 0, 1, 0, 0, []), (9, .aload_n 0, 1, 0, 0, []), (10, .getfield 135, 3, 13, 9, []), (13, .invokevirtual 138, 3, 0, 1, [(13, 208)]), (16, .bipush 32, 2, 0, 0, []), (18, .if_icmp .ne 16, 3, 34, 0, []), (21, .aload_n 0, 1, 0, 0, []), (22, .dup, 1, 0, 0, []), (23, .getfield 135, 3, 13, 9, []), (26, .iconst 1, 1, 0, 0, []), (27, .iadd, 1, 0, 0, []), (28, .putfield 135, 3, 13, 9, [(0, 0)]), (31, .goto (-23), 3, 8, 0, []), (34, .aload_n 0, 1, 0, 0, []), (35, .aload_n 0, 1, 0, 0, []), (36, .getfield 135, 3, 13, 9, []), (39, .putfield 132, 3, 13, 10, [(0, 0)]), (42, .aload_n 0, 1, 0, 0, []), (43, .aload_n 0, 1, 0, 0, []), (44, .getfield 135, 3, 13, 9, []), (47, .invokevirtual 138, 3, 0, 1, [(13, 208)]), (50, .istore_n 1, 1, 0, 0, []), (51, .aload_n 0, 1, 0, 0, []), (52, .iload_n 1, 1, 0, 0, []), (53, .ifCond .ge 7, 3, 60, 0, []), (56, .iconst 0, 1, 0, 0, []), (57, .goto 26, 3, 83, 0, []), (60, .iload_n 1, 1, 0, 0, []), (61, .invokestatic 141, 3, 2, 1, [(0, 209)]), (64, .ifCond .eq 7, 3, 71, 0, []), (67, .iconst 1, 1, 0, 0, []), (68, .goto 15, 3, 83, 0, []), (71, .iload_n 1, 1, 0, 0, []), (72, .invokestatic 144, 3, 2, 1, [(0, 210)]), (75, .ifCond .eq 7, 3, 82, 0, []), (78, .iconst 2, 1, 0, 0, []), (79, .goto 4, 3, 83, 0, []), (82, .iconst 3, 1, 0, 0, []), (83, .putfield 147, 3, 13, 8, [(0, 0)]), (86, .aload_n 0, 1, 0, 0, []), (87, .lconst 0, 1, 0, 0, []), (88, .putfield 150, 3, 13, 11, [(0, 1)]), (91, .aload_n 0, 1, 0, 0, []), (92, .aload_n 0, 1, 0, 0, []), (93, .getfield 147, 3, 13, 8, []), (96, .iconst 2, 1, 0, 0, []), (97, .if_icmp .ne 7, 3, 104, 0, []), (100, .iconst 0, 1, 0, 0, []), (101, .goto 4, 3, 105, 0, []), (104, .iload_n 1, 1, 0, 0, []), (105, .putfield 154, 3, 13, 12, [(0, 0)]), (108, .aload_n 0, 1, 0, 0, []), (109, .getfield 147, 3, 13, 8, []), (112, .iconst 3, 1, 0, 0, []), (113, .if_icmp .ne 13, 3, 126, 0, []), (116, .aload_n 0, 1, 0, 0, []), (117, .dup, 1, 0, 0, []), (118, .getfield 132, 3, 13, 10, []), (121, .iconst 1, 1, 0, 0, []), (122, .iadd, 1, 0, 0, []), (123, .putfield 132, 3, 13, 10, [(0, 0)]), (126, .aload_n 0, 1, 0, 0, []), (127, .getfield 147, 3, 13, 8, []), (130, .iconst 1, 1, 0, 0, []), (131, .if_icmp .ne 76, 3, 207, 0, []), (134, .aload_n 0, 1, 0, 0, []), (135, .aload_n 0, 1, 0, 0, []), (136, .getfield 132, 3, 13, 10, []), (139, .invokevirtual 138, 3, 0, 1, [(13, 208)]), (142, .invokestatic 141, 3, 2, 1, [(0, 209)]), (145, .ifCond .eq 62, 3, 207, 0, []), (148, .aload_n 0, 1, 0, 0, []), (149, .aload_n 0, 1, 0, 0, []), (150, .getfield 132, 3, 13, 10, []), (153, .aload_n 0, 1, 0, 0, []), (154, .getfield 135, 3, 13, 9, []), (157, .isub, 1, 0, 0, []), (158, .bipush 8, 2, 0, 0, []), (160, .if_icmp .ge 28, 3, 188, 0, []), (163, .ldc2_w 157, 3, 0, 0, [(27, 0)]), (166, .aload_n 0, 1, 0, 0, []), (167, .getfield 150, 3, 13, 11, []), (170, .lmul, 1, 0, 0, []), (171, .aload_n 0, 1, 0, 0, []), (172, .aload_n 0, 1, 0, 0, []), (173, .getfield 132, 3, 13, 10, []), (176, .invokevirtual 138, 3, 0, 1, [(13, 208)]), (179, .i2l, 1, 0, 0, []), (180, .ladd, 1, 0, 0, []), (181, .ldc2_w 159, 3, 0, 0, [(96, 0)]), (184, .lsub, 1, 0, 0, []), (185, .goto 6, 3, 191, 0, []), (188, .ldc2_w 161, 3, 0, 0, [(-1, 0)]), (191, .putfield 150, 3, 13, 11, [(0, 1)]), (194, .aload_n 0, 1, 0, 0, []), (195, .dup, 1, 0, 0, []), (196, .getfield 132, 3, 13, 10, []), (199, .iconst 1, 1, 0, 0, []), (200, .iadd, 1, 0, 0, []), (201, .putfield 132, 3, 13, 10, [(0, 0)]), (204, .goto (-78), 3, 126, 0, []), (207, .aload_n 0, 1, 0, 0, []), (208, .getfield 147, 3, 13, 8, []), (211, .iconst 2, 1, 0, 0, []), (212, .if_icmp .ne 70, 3, 282, 0, []), (215, .aload_n 0, 1, 0, 0, []), (216, .aload_n 0, 1, 0, 0, []), (217, .getfield 132, 3, 13, 10, []), (220, .invokevirtual 138, 3, 0, 1, [(13, 208)]), (223, .invokestatic 144, 3, 2, 1, [(0, 210)]), (226, .ifCond .eq 56, 3, 282, 0, []), (229, .aload_n 0, 1, 0, 0, []), (230, .aload_n 0, 1, 0, 0, []), (231, .getfield 132, 3, 13, 10, []), (234, .aload_n 0, 1, 0, 0, []), (235, .getfield 135, 3, 13, 9, []), (238, .isub, 1, 0, 0, []), (239, .iconst 4, 1, 0, 0, []), (240, .if_icmp .ge 25, 3, 265, 0, []), (243, .bipush 10, 2, 0, 0, []), (245, .aload_n 0, 1, 0, 0, []), (246, .getfield 154, 3, 13, 12, []), (249, .imul, 1, 0, 0, []), (250, .aload_n 0, 1, 0, 0, []), (251, .aload_n 0, 1, 0, 0, []), (252, .getfield 132, 3, 13, 10, []), (255, .invokevirtual 138, 3, 0, 1, [(13, 208)]), (258, .iadd, 1, 0, 0, []), (259, .bipush 48, 2, 0, 0, []), (261, .isub, 1, 0, 0, []), (262, .goto 4, 3, 266, 0, []), (265, .iconst (-1), 1, 0, 0, []), (266, .putfield 154, 3, 13, 12, [(0, 0)]), (269, .aload_n 0, 1, 0, 0, []), (270, .dup, 1, 0, 0, []), (271, .getfield 132, 3, 13, 10, []), (274, .iconst 1, 1, 0, 0, []), (275, .iadd, 1, 0, 0, []), (276, .putfield 132, 3, 13, 10, [(0, 0)]), (279, .goto (-72), 3, 207, 0, []), (282, .return_, 1, 0, 0, [])]
/-- ShadowSchoolModel.isWord(J)Z -/
def jc_212 : List jw_I := [(0, .aload_n 0, 1, 0, 0, []), (1, .getfield 147, 3, 13, 8, []), (4, .iconst 1, 1, 0, 0, []), (5, .if_icmp .ne 16, 3, 21, 0, []), (8, .aload_n 0, 1, 0, 0, []), (9, .getfield 150, 3, 13, 11, []), (12, .lload_n 1, 1, 0, 0, []), (13, .lcmp, 1, 0, 0, []), (14, .ifCond .ne 7, 3, 21, 0, []), (17, .iconst 1, 1, 0, 0, []), (18, .goto 4, 3, 22, 0, []), (21, .iconst 0, 1, 0, 0, []), (22, .ireturn, 1, 0, 0, [])]
/-- ShadowSchoolModel.isMark(I)Z -/
def jc_213 : List jw_I := [(0, .aload_n 0, 1, 0, 0, []), (1, .getfield 147, 3, 13, 8, []), (4, .iconst 3, 1, 0, 0, []), (5, .if_icmp .ne 15, 3, 20, 0, []), (8, .aload_n 0, 1, 0, 0, []), (9, .getfield 154, 3, 13, 12, []), (12, .iload_n 1, 1, 0, 0, []), (13, .if_icmp .ne 7, 3, 20, 0, []), (16, .iconst 1, 1, 0, 0, []), (17, .goto 4, 3, 21, 0, []), (20, .iconst 0, 1, 0, 0, []), (21, .ireturn, 1, 0, 0, [])]
/-- ShadowSchoolModel.step(II)V -/
def jc_214 : List jw_I := [(0, .aload_n 0, 1, 0, 0, []), (1, .getfield 31, 3, 13, 15, []), (4, .iconst 2, 1, 0, 0, []), (5, .aload_n 0, 1, 0, 0, []), (6, .getfield 163, 3, 13, 16, []), (9, .imul, 1, 0, 0, []), (10, .iload_n 1, 1, 0, 0, []), (11, .iastore, 1, 0, 0, []), (12, .aload_n 0, 1, 0, 0, []), (13, .getfield 31, 3, 13, 15, []), (16, .iconst 2, 1, 0, 0, []), (17, .aload_n 0, 1, 0, 0, []), (18, .getfield 163, 3, 13, 16, []), (21, .imul, 1, 0, 0, []), (22, .iconst 1, 1, 0, 0, []), (23, .iadd, 1, 0, 0, []), (24, .iload_n 2, 1, 0, 0, []), (25, .iastore, 1, 0, 0, []), (26, .aload_n 0, 1, 0, 0, []), (27, .dup, 1, 0, 0, []), (28, .getfield 163, 3, 13, 16, []), (31, .iconst 1, 1, 0, 0, []), (32, .iadd, 1, 0, 0, []), (33, .putfield 163, 3, 13, 16, [(0, 0)]), (36, .return_, 1, 0, 0, [])]
/-- ShadowSchoolModel.kindSeen()I -/
def jc_215 : List jw_I := [(0, .aload_n 0, 1, 0, 0, []), (1, .ldc2_w 166, 3, 0, 0, [(276903788, 0)]), (4, .invokevirtual 168, 3, 0, 1, [(13, 212)]), (7, .ifCond .eq 7, 3, 14, 0, []), (10, .iconst 0, 1, 0, 0, []), (11, .goto 74, 3, 85, 0, []), (14, .aload_n 0, 1, 0, 0, []), (15, .ldc2_w 172, 3, 0, 0, [(151648177, 0)]), (18, .invokevirtual 168, 3, 0, 1, [(13, 212)]), (21, .ifCond .eq 7, 3, 28, 0, []), (24, .iconst 1, 1, 0, 0, []), (25, .goto 60, 3, 85, 0, []), (28, .aload_n 0, 1, 0, 0, []), (29, .ldc2_w 174, 3, 0, 0, [(105358135, 0)]), (32, .invokevirtual 168, 3, 0, 1, [(13, 212)]), (35, .ifCond .eq 7, 3, 42, 0, []), (38, .iconst 2, 1, 0, 0, []), (39, .goto 46, 3, 85, 0, []), (42, .aload_n 0, 1, 0, 0, []), (43, .ldc2_w 176, 3, 0, 0, [(37372952047, 0)]), (46, .invokevirtual 168, 3, 0, 1, [(13, 212)]), (49, .ifCond .eq 7, 3, 56, 0, []), (52, .iconst 3, 1, 0, 0, []), (53, .goto 32, 3, 85, 0, []), (56, .aload_n 0, 1, 0, 0, []), (57, .ldc2_w 178, 3, 0, 0, [(383153, 0)]), (60, .invokevirtual 168, 3, 0, 1, [(13, 212)]), (63, .ifCond .eq 7, 3, 70, 0, []), (66, .iconst 4, 1, 0, 0, []), (67, .goto 18, 3, 85, 0, []), (70, .aload_n 0, 1, 0, 0, []), (71, .ldc2_w 180, 3, 0, 0, [(27000172156, 0)]), (74, .invokevirtual 168, 3, 0, 1, [(13, 212)]), (77, .ifCond .eq 7, 3, 84, 0, []), (80, .iconst 5, 1, 0, 0, []), (81, .goto 4, 3, 85, 0, []), (84, .iconst (-1), 1, 0, 0, []), (85, .ireturn, 1, 0, 0, [])]
/-- ShadowSchoolModel.factSeen()I -/
def jc_216 : List jw_I := [(0, .aload_n 0, 1, 0, 0, []), (1, .ldc2_w 182, 3, 0, 0, [(168984, 0)]), (4, .invokevirtual 168, 3, 0, 1, [(13, 212)]), (7, .ifCond .eq 7, 3, 14, 0, []), (10, .iconst 0, 1, 0, 0, []), (11, .goto 60, 3, 71, 0, []), (14, .aload_n 0, 1, 0, 0, []), (15, .ldc2_w 184, 3, 0, 0, [(174877292, 0)]), (18, .invokevirtual 168, 3, 0, 1, [(13, 212)]), (21, .ifCond .eq 7, 3, 28, 0, []), (24, .iconst 1, 1, 0, 0, []), (25, .goto 46, 3, 71, 0, []), (28, .aload_n 0, 1, 0, 0, []), (29, .ldc2_w 186, 3, 0, 0, [(9454493, 0)]), (32, .invokevirtual 168, 3, 0, 1, [(13, 212)]), (35, .ifCond .eq 7, 3, 42, 0, []), (38, .iconst 2, 1, 0, 0, []), (39, .goto 32, 3, 71, 0, []), (42, .aload_n 0, 1, 0, 0, []), (43, .ldc2_w 188, 3, 0, 0, [(394725, 0)]), (46, .invokevirtual 168, 3, 0, 1, [(13, 212)]), (49, .ifCond .eq 7, 3, 56, 0, []), (52, .iconst 3, 1, 0, 0, []), (53, .goto 18, 3, 71, 0, []), (56, .aload_n 0, 1, 0, 0, []), (57, .ldc2_w 190, 3, 0, 0, [(212302449, 0)]), (60, .invokevirtual 168, 3, 0, 1, [(13, 212)]), (63, .ifCond .eq 7, 3, 70, 0, []), (66, .iconst 4, 1, 0, 0, []), (67, .goto 4, 3, 71, 0, []), (70, .iconst (-1), 1, 0, 0, []), (71, .ireturn, 1, 0, 0, [])]
/-- ShadowSchoolModel.readValue()V -/
def jc_217 : List jw_I := [(0, .aload_n 0, 1, 0, 0, []), (1, .invokevirtual 192, 3, 0, 0, [(13, 216)]), (4, .istore_n 1, 1, 0, 0, []), (5, .aload_n 0, 1, 0, 0, []), (6, .aload_n 0, 1, 0, 0, []), (7, .getfield 196, 3, 13, 13, []), (10, .ifCond .eq 26, 3, 36, 0, []), (13, .iload_n 1, 1, 0, 0, []), (14, .ifCond .ge 18, 3, 32, 0, []), (17, .aload_n 0, 1, 0, 0, []), (18, .getfield 147, 3, 13, 8, []), (21, .iconst 2, 1, 0, 0, []), (22, .if_icmp .ne 14, 3, 36, 0, []), (25, .aload_n 0, 1, 0, 0, []), (26, .getfield 154, 3, 13, 12, []), (29, .ifCond .lt 7, 3, 36, 0, []), (32, .iconst 1, 1, 0, 0, []), (33, .goto 4, 3, 37, 0, []), (36, .iconst 0, 1, 0, 0, []), (37, .putfield 196, 3, 13, 13, [(0, 2)]), (40, .aload_n 0, 1, 0, 0, []), (41, .getfield 196, 3, 13, 13, []), (44, .ifCond .eq 32, 3, 76, 0, []), (47, .aload_n 0, 1, 0, 0, []), (48, .iload_n 1, 1, 0, 0, []), (49, .ifCond .lt 7, 3, 56, 0, []), (52, .iconst 1, 1, 0, 0, []), (53, .goto 4, 3, 57, 0, []), (56, .iconst 0, 1, 0, 0, []), (57, .iload_n 1, 1, 0, 0, []), (58, .ifCond .lt 7, 3, 65, 0, []), (61, .iload_n 1, 1, 0, 0, []), (62, .goto 7, 3, 69, 0, []), (65, .aload_n 0, 1, 0, 0, []), (66, .getfield 154, 3, 13, 12, []), (69, .invokevirtual 200, 3, 0, 2, [(13, 214)]), (72, .aload_n 0, 1, 0, 0, []), (73, .invokevirtual 204, 3, 0, 0, [(13, 211)]), (76, .return_, 1, 0, 0, [])]
/-- ShadowSchoolModel.readTest()V -/
def jc_218 : List jw_I := [(0, .aload_n 0, 1, 0, 0, []), (1, .invokevirtual 207, 3, 0, 0, [(13, 217)]), (4, .aload_n 0, 1, 0, 0, []), (5, .aload_n 0, 1, 0, 0, []), (6, .getfield 196, 3, 13, 13, []), (9, .ifCond .eq 34, 3, 43, 0, []), (12, .aload_n 0, 1, 0, 0, []), (13, .bipush 60, 2, 0, 0, []), (15, .invokevirtual 210, 3, 0, 1, [(13, 213)]), (18, .ifCond .ne 21, 3, 39, 0, []), (21, .aload_n 0, 1, 0, 0, []), (22, .bipush 61, 2, 0, 0, []), (24, .invokevirtual 210, 3, 0, 1, [(13, 213)]), (27, .ifCond .ne 12, 3, 39, 0, []), (30, .aload_n 0, 1, 0, 0, []), (31, .bipush 62, 2, 0, 0, []), (33, .invokevirtual 210, 3, 0, 1, [(13, 213)]), (36, .ifCond .eq 7, 3, 43, 0, []), (39, .iconst 1, 1, 0, 0, []), (40, .goto 4, 3, 44, 0, []), (43, .iconst 0, 1, 0, 0, []), (44, .putfield 196, 3, 13, 13, [(0, 2)]), (47, .aload_n 0, 1, 0, 0, []), (48, .getfield 154, 3, 13, 12, []), (51, .istore_n 1, 1, 0, 0, []), (52, .aload_n 0, 1, 0, 0, []), (53, .getfield 196, 3, 13, 13, []), (56, .ifCond .eq 7, 3, 63, 0, []), (59, .aload_n 0, 1, 0, 0, []), (60, .invokevirtual 204, 3, 0, 0, [(13, 211)]), (63, .aload_n 0, 1, 0, 0, []), (64, .invokevirtual 207, 3, 0, 0, [(13, 217)]), (67, .aload_n 0, 1, 0, 0, []), (68, .getfield 196, 3, 13, 13, []), (71, .ifCond .eq 9, 3, 80, 0, []), (74, .aload_n 0, 1, 0, 0, []), (75, .iconst 2, 1, 0, 0, []), (76, .iload_n 1, 1, 0, 0, []), (77, .invokevirtual 200, 3, 0, 2, [(13, 214)]), (80, .return_, 1, 0, 0, [])]
/-- ShadowSchoolModel.readOne()V -/
def jc_219 : List jw_I := [(0, .iconst 0, 1, 0, 0, []), (1, .istore_n 1, 1, 0, 0, []), (2, .aload_n 0, 1, 0, 0, []), (3, .getfield 196, 3, 13, 13, []), (6, .ifCond .eq 23, 3, 29, 0, []), (9, .aload_n 0, 1, 0, 0, []), (10, .ldc2_w 213, 3, 0, 0, [(10631, 0)]), (13, .invokevirtual 168, 3, 0, 1, [(13, 212)]), (16, .ifCond .eq 13, 3, 29, 0, []), (19, .iinc 1 1, 3, 0, 0, []), (22, .aload_n 0, 1, 0, 0, []), (23, .invokevirtual 204, 3, 0, 0, [(13, 211)]), (26, .goto (-24), 3, 2, 0, []), (29, .aload_n 0, 1, 0, 0, []), (30, .getfield 196, 3, 13, 13, []), (33, .ifCond .eq 103, 3, 136, 0, []), (36, .aload_n 0, 1, 0, 0, []), (37, .bipush 40, 2, 0, 0, []), (39, .invokevirtual 210, 3, 0, 1, [(13, 213)]), (42, .ifCond .eq 94, 3, 136, 0, []), (45, .aload_n 0, 1, 0, 0, []), (46, .aload_n 0, 1, 0, 0, []), (47, .getfield 215, 3, 13, 17, []), (50, .iconst 3, 1, 0, 0, []), (51, .if_icmp .ge 7, 3, 58, 0, []), (54, .iconst 1, 1, 0, 0, []), (55, .goto 4, 3, 59, 0, []), (58, .iconst 0, 1, 0, 0, []), (59, .putfield 196, 3, 13, 13, [(0, 2)]), (62, .aload_n 0, 1, 0, 0, []), (63, .getfield 196, 3, 13, 13, []), (66, .ifCond .eq 17, 3, 83, 0, []), (69, .aload_n 0, 1, 0, 0, []), (70, .dup, 1, 0, 0, []), (71, .getfield 215, 3, 13, 17, []), (74, .iconst 1, 1, 0, 0, []), (75, .iadd, 1, 0, 0, []), (76, .putfield 215, 3, 13, 17, [(0, 0)]), (79, .aload_n 0, 1, 0, 0, []), (80, .invokevirtual 204, 3, 0, 0, [(13, 211)]), (83, .aload_n 0, 1, 0, 0, []), (84, .invokevirtual 218, 3, 0, 0, [(13, 221)]), (87, .aload_n 0, 1, 0, 0, []), (88, .aload_n 0, 1, 0, 0, []), (89, .getfield 196, 3, 13, 13, []), (92, .ifCond .eq 16, 3, 108, 0, []), (95, .aload_n 0, 1, 0, 0, []), (96, .bipush 41, 2, 0, 0, []), (98, .invokevirtual 210, 3, 0, 1, [(13, 213)]), (101, .ifCond .eq 7, 3, 108, 0, []), (104, .iconst 1, 1, 0, 0, []), (105, .goto 4, 3, 109, 0, []), (108, .iconst 0, 1, 0, 0, []), (109, .putfield 196, 3, 13, 13, [(0, 2)]), (112, .aload_n 0, 1, 0, 0, []), (113, .getfield 196, 3, 13, 13, []), (116, .ifCond .eq 24, 3, 140, 0, []), (119, .aload_n 0, 1, 0, 0, []), (120, .dup, 1, 0, 0, []), (121, .getfield 215, 3, 13, 17, []), (124, .iconst 1, 1, 0, 0, []), (125, .isub, 1, 0, 0, []), (126, .putfield 215, 3, 13, 17, [(0, 0)]), (129, .aload_n 0, 1, 0, 0, []), (130, .invokevirtual 204, 3, 0, 0, [(13, 211)]), (133, .goto 7, 3, 140, 0, []), (136, .aload_n 0, 1, 0, 0, []), (137, .invokevirtual 221, 3, 0, 0, [(13, 218)]), (140, .aload_n 0, 1, 0, 0, []), (141, .getfield 196, 3, 13, 13, []), (144, .ifCond .eq 16, 3, 160, 0, []), (147, .iload_n 1, 1, 0, 0, []), (148, .iconst 2, 1, 0, 0, []), (149, .irem, 1, 0, 0, []), (150, .iconst 1, 1, 0, 0, []), (151, .if_icmp .ne 9, 3, 160, 0, []), (154, .aload_n 0, 1, 0, 0, []), (155, .iconst 3, 1, 0, 0, []), (156, .iconst 0, 1, 0, 0, []), (157, .invokevirtual 200, 3, 0, 2, [(13, 214)]), (160, .return_, 1, 0, 0, [])]
/-- ShadowSchoolModel.readAll()V -/
def jc_220 : List jw_I := [(0, .aload_n 0, 1, 0, 0, []), (1, .invokevirtual 224, 3, 0, 0, [(13, 219)]), (4, .aload_n 0, 1, 0, 0, []), (5, .getfield 196, 3, 13, 13, []), (8, .ifCond .eq 37, 3, 45, 0, []), (11, .aload_n 0, 1, 0, 0, []), (12, .ldc2_w 227, 3, 0, 0, [(1111, 0)]), (15, .invokevirtual 168, 3, 0, 1, [(13, 212)]), (18, .ifCond .eq 27, 3, 45, 0, []), (21, .aload_n 0, 1, 0, 0, []), (22, .invokevirtual 204, 3, 0, 0, [(13, 211)]), (25, .aload_n 0, 1, 0, 0, []), (26, .invokevirtual 224, 3, 0, 0, [(13, 219)]), (29, .aload_n 0, 1, 0, 0, []), (30, .getfield 196, 3, 13, 13, []), (33, .ifCond .eq (-29), 3, 4, 0, []), (36, .aload_n 0, 1, 0, 0, []), (37, .iconst 4, 1, 0, 0, []), (38, .iconst 0, 1, 0, 0, []), (39, .invokevirtual 200, 3, 0, 2, [(13, 214)]), (42, .goto (-38), 3, 4, 0, []), (45, .return_, 1, 0, 0, [])]
/-- ShadowSchoolModel.readCondition()V -/
def jc_221 : List jw_I := [(0, .aload_n 0, 1, 0, 0, []), (1, .getfield 196, 3, 13, 13, []), (4, .ifCond .ne 4, 3, 8, 0, []), (7, .return_, 1, 0, 0, []), (8, .aload_n 0, 1, 0, 0, []), (9, .invokevirtual 229, 3, 0, 0, [(13, 220)]), (12, .aload_n 0, 1, 0, 0, []), (13, .getfield 196, 3, 13, 13, []), (16, .ifCond .eq 37, 3, 53, 0, []), (19, .aload_n 0, 1, 0, 0, []), (20, .ldc2_w 232, 3, 0, 0, [(423, 0)]), (23, .invokevirtual 168, 3, 0, 1, [(13, 212)]), (26, .ifCond .eq 27, 3, 53, 0, []), (29, .aload_n 0, 1, 0, 0, []), (30, .invokevirtual 204, 3, 0, 0, [(13, 211)]), (33, .aload_n 0, 1, 0, 0, []), (34, .invokevirtual 229, 3, 0, 0, [(13, 220)]), (37, .aload_n 0, 1, 0, 0, []), (38, .getfield 196, 3, 13, 13, []), (41, .ifCond .eq (-29), 3, 12, 0, []), (44, .aload_n 0, 1, 0, 0, []), (45, .iconst 5, 1, 0, 0, []), (46, .iconst 0, 1, 0, 0, []), (47, .invokevirtual 200, 3, 0, 2, [(13, 214)]), (50, .goto (-38), 3, 12, 0, []), (53, .return_, 1, 0, 0, [])]
/-- ShadowSchoolModel.readRule(I)V -/
def jc_222 : List jw_I := [(0, .aload_n 0, 1, 0, 0, []), (1, .invokevirtual 234, 3, 0, 0, [(13, 215)]), (4, .istore_n 2, 1, 0, 0, []), (5, .aload_n 0, 1, 0, 0, []), (6, .iload_n 2, 1, 0, 0, []), (7, .ifCond .lt 13, 3, 20, 0, []), (10, .iload_n 1, 1, 0, 0, []), (11, .bipush 8, 2, 0, 0, []), (13, .if_icmp .ge 7, 3, 20, 0, []), (16, .iconst 1, 1, 0, 0, []), (17, .goto 4, 3, 21, 0, []), (20, .iconst 0, 1, 0, 0, []), (21, .putfield 196, 3, 13, 13, [(0, 2)]), (24, .aload_n 0, 1, 0, 0, []), (25, .getfield 163, 3, 13, 16, []), (28, .istore_n 3, 1, 0, 0, []), (29, .aload_n 0, 1, 0, 0, []), (30, .getfield 196, 3, 13, 13, []), (33, .ifCond .eq 7, 3, 40, 0, []), (36, .aload_n 0, 1, 0, 0, []), (37, .invokevirtual 204, 3, 0, 0, [(13, 211)]), (40, .aload_n 0, 1, 0, 0, []), (41, .getfield 196, 3, 13, 13, []), (44, .ifCond .eq 21, 3, 65, 0, []), (47, .aload_n 0, 1, 0, 0, []), (48, .ldc2_w 237, 3, 0, 0, [(249, 0)]), (51, .invokevirtual 168, 3, 0, 1, [(13, 212)]), (54, .ifCond .eq 11, 3, 65, 0, []), (57, .aload_n 0, 1, 0, 0, []), (58, .invokevirtual 204, 3, 0, 0, [(13, 211)]), (61, .aload_n 0, 1, 0, 0, []), (62, .invokevirtual 218, 3, 0, 0, [(13, 221)]), (65, .aload_n 0, 1, 0, 0, []), (66, .ldc2_w 239, 3, 0, 0, [(237458, 0)]), (69, .invokevirtual 168, 3, 0, 1, [(13, 212)]), (72, .ifCond .eq 7, 3, 79, 0, []), (75, .iconst 0, 1, 0, 0, []), (76, .goto 32, 3, 108, 0, []), (79, .aload_n 0, 1, 0, 0, []), (80, .ldc2_w 241, 3, 0, 0, [(99682, 0)]), (83, .invokevirtual 168, 3, 0, 1, [(13, 212)]), (86, .ifCond .eq 7, 3, 93, 0, []), (89, .iconst 1, 1, 0, 0, []), (90, .goto 18, 3, 108, 0, []), (93, .aload_n 0, 1, 0, 0, []), (94, .ldc2_w 243, 3, 0, 0, [(323728, 0)]), (97, .invokevirtual 168, 3, 0, 1, [(13, 212)]), (100, .ifCond .eq 7, 3, 107, 0, []), (103, .iconst 2, 1, 0, 0, []), (104, .goto 4, 3, 108, 0, []), (107, .iconst (-1), 1, 0, 0, []), (108, .istore 4, 2, 0, 0, []), (110, .aload_n 0, 1, 0, 0, []), (111, .aload_n 0, 1, 0, 0, []), (112, .getfield 196, 3, 13, 13, []), (115, .ifCond .eq 12, 3, 127, 0, []), (118, .iload 4, 2, 0, 0, []), (120, .ifCond .lt 7, 3, 127, 0, []), (123, .iconst 1, 1, 0, 0, []), (124, .goto 4, 3, 128, 0, []), (127, .iconst 0, 1, 0, 0, []), (128, .putfield 196, 3, 13, 13, [(0, 2)]), (131, .aload_n 0, 1, 0, 0, []), (132, .getfield 196, 3, 13, 13, []), (135, .ifCond .eq 7, 3, 142, 0, []), (138, .aload_n 0, 1, 0, 0, []), (139, .invokevirtual 204, 3, 0, 0, [(13, 211)]), (142, .aload_n 0, 1, 0, 0, []), (143, .aload_n 0, 1, 0, 0, []), (144, .getfield 196, 3, 13, 13, []), (147, .ifCond .eq 16, 3, 163, 0, []), (150, .aload_n 0, 1, 0, 0, []), (151, .bipush 59, 2, 0, 0, []), (153, .invokevirtual 210, 3, 0, 1, [(13, 213)]), (156, .ifCond .eq 7, 3, 163, 0, []), (159, .iconst 1, 1, 0, 0, []), (160, .goto 4, 3, 164, 0, []), (163, .iconst 0, 1, 0, 0, []), (164, .putfield 196, 3, 13, 13, [(0, 2)]), (167, .aload_n 0, 1, 0, 0, []), (168, .getfield 196, 3, 13, 13, []), (171, .ifCond .eq 55, 3, 226, 0, []), (174, .aload_n 0, 1, 0, 0, []), (175, .invokevirtual 204, 3, 0, 0, [(13, 211)]), (178, .aload_n 0, 1, 0, 0, []), (179, .getfield 28, 3, 13, 14, []), (182, .iconst 4, 1, 0, 0, []), (183, .iload_n 1, 1, 0, 0, []), (184, .imul, 1, 0, 0, []), (185, .iload_n 2, 1, 0, 0, []), (186, .iastore, 1, 0, 0, []), (187, .aload_n 0, 1, 0, 0, []), (188, .getfield 28, 3, 13, 14, []), (191, .iconst 4, 1, 0, 0, []), (192, .iload_n 1, 1, 0, 0, []), (193, .imul, 1, 0, 0, []), (194, .iconst 1, 1, 0, 0, []), (195, .iadd, 1, 0, 0, []), (196, .iload 4, 2, 0, 0, []), (198, .iastore, 1, 0, 0, []), (199, .aload_n 0, 1, 0, 0, []), (200, .getfield 28, 3, 13, 14, []), (203, .iconst 4, 1, 0, 0, []), (204, .iload_n 1, 1, 0, 0, []), (205, .imul, 1, 0, 0, []), (206, .iconst 2, 1, 0, 0, []), (207, .iadd, 1, 0, 0, []), (208, .iload_n 3, 1, 0, 0, []), (209, .iastore, 1, 0, 0, []), (210, .aload_n 0, 1, 0, 0, []), (211, .getfield 28, 3, 13, 14, []), (214, .iconst 4, 1, 0, 0, []), (215, .iload_n 1, 1, 0, 0, []), (216, .imul, 1, 0, 0, []), (217, .iconst 3, 1, 0, 0, []), (218, .iadd, 1, 0, 0, []), (219, .aload_n 0, 1, 0, 0, []), (220, .getfield 163, 3, 13, 16, []), (223, .iload_n 3, 1, 0, 0, []), (224, .isub, 1, 0, 0, []), (225, .iastore, 1, 0, 0, []), (226, .return_, 1, 0, 0, [])]
/-- ShadowSchoolModel.rules()I -/
def jc_223 : List jw_I := [(0, .aload_n 0, 1, 0, 0, []), (1, .iconst 0, 1, 0, 0, []), (2, .putfield 132, 3, 13, 10, [(0, 0)]), (5, .aload_n 0, 1, 0, 0, []), (6, .iconst 1, 1, 0, 0, []), (7, .putfield 196, 3, 13, 13, [(0, 2)]), (10, .aload_n 0, 1, 0, 0, []), (11, .iconst 0, 1, 0, 0, []), (12, .putfield 163, 3, 13, 16, [(0, 0)]), (15, .aload_n 0, 1, 0, 0, []), (16, .iconst 0, 1, 0, 0, []), (17, .putfield 215, 3, 13, 17, [(0, 0)]), (20, .iconst 0, 1, 0, 0, []), (21, .istore_n 1, 1, 0, 0, []), (22, .aload_n 0, 1, 0, 0, []), (23, .invokevirtual 204, 3, 0, 0, [(13, 211)]), (26, .aload_n 0, 1, 0, 0, []), (27, .getfield 196, 3, 13, 13, []), (30, .ifCond .eq 21, 3, 51, 0, []), (33, .aload_n 0, 1, 0, 0, []), (34, .getfield 147, 3, 13, 8, []), (37, .ifCond .eq 14, 3, 51, 0, []), (40, .aload_n 0, 1, 0, 0, []), (41, .iload_n 1, 1, 0, 0, []), (42, .invokevirtual 245, 3, 0, 1, [(13, 222)]), (45, .iinc 1 1, 3, 0, 0, []), (48, .goto (-22), 3, 26, 0, []), (51, .aload_n 0, 1, 0, 0, []), (52, .iconst 0, 1, 0, 0, []), (53, .putfield 126, 3, 13, 7, [(0, 0)]), (56, .aload_n 0, 1, 0, 0, []), (57, .getfield 196, 3, 13, 13, []), (60, .ifCond .ne 11, 3, 71, 0, []), (63, .bipush (-100), 2, 0, 0, []), (65, .aload_n 0, 1, 0, 0, []), (66, .getfield 135, 3, 13, 9, []), (69, .isub, 1, 0, 0, []), (70, .ireturn, 1, 0, 0, []), (71, .aload_n 0, 1, 0, 0, []), (72, .getfield 16, 3, 13, 2, []), (75, .iconst 4, 1, 0, 0, []), (76, .iload_n 1, 1, 0, 0, []), (77, .iastore, 1, 0, 0, []), (78, .iconst 0, 1, 0, 0, []), (79, .istore_n 2, 1, 0, 0, []), (80, .iload_n 2, 1, 0, 0, []), (81, .iconst 4, 1, 0, 0, []), (82, .iload_n 1, 1, 0, 0, []), (83, .imul, 1, 0, 0, []), (84, .if_icmp .ge 24, 3, 108, 0, []), (87, .aload_n 0, 1, 0, 0, []), (88, .getfield 16, 3, 13, 2, []), (91, .bipush 94, 2, 0, 0, []), (93, .iload_n 2, 1, 0, 0, []), (94, .iadd, 1, 0, 0, []), (95, .aload_n 0, 1, 0, 0, []), (96, .getfield 28, 3, 13, 14, []), (99, .iload_n 2, 1, 0, 0, []), (100, .iaload, 1, 0, 0, []), (101, .iastore, 1, 0, 0, []), (102, .iinc 2 1, 3, 0, 0, []), (105, .goto (-25), 3, 80, 0, []), (108, .iconst 0, 1, 0, 0, []), (109, .istore_n 2, 1, 0, 0, []), (110, .iload_n 2, 1, 0, 0, []), (111, .iconst 2, 1, 0, 0, []), (112, .aload_n 0, 1, 0, 0, []), (113, .getfield 163, 3, 13, 16, []), (116, .imul, 1, 0, 0, []), (117, .if_icmp .ge 24, 3, 141, 0, []), (120, .aload_n 0, 1, 0, 0, []), (121, .getfield 16, 3, 13, 2, []), (124, .bipush 126, 2, 0, 0, []), (126, .iload_n 2, 1, 0, 0, []), (127, .iadd, 1, 0, 0, []), (128, .aload_n 0, 1, 0, 0, []), (129, .getfield 31, 3, 13, 15, []), (132, .iload_n 2, 1, 0, 0, []), (133, .iaload, 1, 0, 0, []), (134, .iastore, 1, 0, 0, []), (135, .iinc 2 1, 3, 0, 0, []), (138, .goto (-28), 3, 110, 0, []), (141, .iload_n 1, 1, 0, 0, []), (142, .ireturn, 1, 0, 0, [])]
/-- ShadowSchoolModel.factOf(II)I -/
def jc_224 : List jw_I := [(0, .iload_n 2, 1, 0, 0, []), (1, .tableswitch 64 0 3 #[31, 38, 50, 57], 31, 65, 0, [(0, 32), (1, 39), (2, 51), (3, 58)]), (32, .aload_n 0, 1, 0, 0, []), (33, .getfield 9, 3, 13, 0, []), (36, .iconst 0, 1, 0, 0, []), (37, .iaload, 1, 0, 0, []), (38, .ireturn, 1, 0, 0, []), (39, .aload_n 0, 1, 0, 0, []), (40, .getfield 9, 3, 13, 0, []), (43, .iconst 2, 1, 0, 0, []), (44, .iload_n 1, 1, 0, 0, []), (45, .iadd, 1, 0, 0, []), (46, .iaload, 1, 0, 0, []), (47, .invokestatic 83, 3, 2, 1, [(0, 185)]), (50, .ireturn, 1, 0, 0, []), (51, .aload_n 0, 1, 0, 0, []), (52, .iload_n 1, 1, 0, 0, []), (53, .iconst 1, 1, 0, 0, []), (54, .invokevirtual 87, 3, 0, 2, [(13, 183)]), (57, .ireturn, 1, 0, 0, []), (58, .aload_n 0, 1, 0, 0, []), (59, .iload_n 1, 1, 0, 0, []), (60, .iconst 2, 1, 0, 0, []), (61, .invokevirtual 87, 3, 0, 2, [(13, 183)]), (64, .ireturn, 1, 0, 0, []), (65, .iload_n 1, 1, 0, 0, []), (66, .ireturn, 1, 0, 0, [])]
/-- ShadowSchoolModel.told(Z)I -/
def jc_225 : List jw_I := [(0, .iload_n 0, 1, 0, 0, []), (1, .ifCond .eq 7, 3, 8, 0, []), (4, .iconst 1, 1, 0, 0, []), (5, .goto 4, 3, 9, 0, []), (8, .iconst 0, 1, 0, 0, []), (9, .ireturn, 1, 0, 0, [])]
/-- ShadowSchoolModel.joined(IIII)I -/
def jc_226 : List jw_I := [(0, .iload_n 0, 1, 0, 0, []), (1, .lookupswitch 83 #[(2, 27), (4, 79)], 27, 84, 0, [(2, 28), (4, 80)]), (28, .iload_n 1, 1, 0, 0, []), (29, .bipush 60, 2, 0, 0, []), (31, .if_icmp .ne 16, 3, 47, 0, []), (34, .iload_n 2, 1, 0, 0, []), (35, .iload_n 3, 1, 0, 0, []), (36, .if_icmp .ge 7, 3, 43, 0, []), (39, .iconst 1, 1, 0, 0, []), (40, .goto 36, 3, 76, 0, []), (43, .iconst 0, 1, 0, 0, []), (44, .goto 32, 3, 76, 0, []), (47, .iload_n 1, 1, 0, 0, []), (48, .bipush 61, 2, 0, 0, []), (50, .if_icmp .ne 16, 3, 66, 0, []), (53, .iload_n 2, 1, 0, 0, []), (54, .iload_n 3, 1, 0, 0, []), (55, .if_icmp .ne 7, 3, 62, 0, []), (58, .iconst 1, 1, 0, 0, []), (59, .goto 17, 3, 76, 0, []), (62, .iconst 0, 1, 0, 0, []), (63, .goto 13, 3, 76, 0, []), (66, .iload_n 2, 1, 0, 0, []), (67, .iload_n 3, 1, 0, 0, []), (68, .if_icmp .le 7, 3, 75, 0, []), (71, .iconst 1, 1, 0, 0, []), (72, .goto 4, 3, 76, 0, []), (75, .iconst 0, 1, 0, 0, []), (76, .invokestatic 249, 3, 2, 1, [(0, 225)]), (79, .ireturn, 1, 0, 0, []), (80, .iload_n 2, 1, 0, 0, []), (81, .iload_n 3, 1, 0, 0, []), (82, .iand, 1, 0, 0, []), (83, .ireturn, 1, 0, 0, []), (84, .iload_n 2, 1, 0, 0, []), (85, .iload_n 3, 1, 0, 0, []), (86, .ior, 1, 0, 0, []), (87, .ireturn, 1, 0, 0, [])]
/-- ShadowSchoolModel.holds(II)Z -/
def jc_227 : List jw_I := [(0, .aload_n 0, 1, 0, 0, []), (1, .getfield 16, 3, 13, 2, []), (4, .bipush 94, 2, 0, 0, []), (6, .iconst 4, 1, 0, 0, []), (7, .iload_n 1, 1, 0, 0, []), (8, .imul, 1, 0, 0, []), (9, .iadd, 1, 0, 0, []), (10, .iconst 2, 1, 0, 0, []), (11, .iadd, 1, 0, 0, []), (12, .iaload, 1, 0, 0, []), (13, .istore_n 3, 1, 0, 0, []), (14, .aload_n 0, 1, 0, 0, []), (15, .getfield 16, 3, 13, 2, []), (18, .bipush 94, 2, 0, 0, []), (20, .iconst 4, 1, 0, 0, []), (21, .iload_n 1, 1, 0, 0, []), (22, .imul, 1, 0, 0, []), (23, .iadd, 1, 0, 0, []), (24, .iconst 3, 1, 0, 0, []), (25, .iadd, 1, 0, 0, []), (26, .iaload, 1, 0, 0, []), (27, .istore 4, 2, 0, 0, []), (29, .iconst 0, 1, 0, 0, []), (30, .istore 5, 2, 0, 0, []), (32, .iload_n 3, 1, 0, 0, []), (33, .istore 6, 2, 0, 0, []), (35, .iload 6, 2, 0, 0, []), (37, .iload_n 3, 1, 0, 0, []), (38, .iload 4, 2, 0, 0, []), (40, .iadd, 1, 0, 0, []), (41, .if_icmp .ge 139, 3, 180, 0, []), (44, .aload_n 0, 1, 0, 0, []), (45, .getfield 16, 3, 13, 2, []), (48, .bipush 126, 2, 0, 0, []), (50, .iconst 2, 1, 0, 0, []), (51, .iload 6, 2, 0, 0, []), (53, .imul, 1, 0, 0, []), (54, .iadd, 1, 0, 0, []), (55, .iaload, 1, 0, 0, []), (56, .istore 7, 2, 0, 0, []), (58, .aload_n 0, 1, 0, 0, []), (59, .getfield 16, 3, 13, 2, []), (62, .bipush 126, 2, 0, 0, []), (64, .iconst 2, 1, 0, 0, []), (65, .iload 6, 2, 0, 0, []), (67, .imul, 1, 0, 0, []), (68, .iadd, 1, 0, 0, []), (69, .iconst 1, 1, 0, 0, []), (70, .iadd, 1, 0, 0, []), (71, .iaload, 1, 0, 0, []), (72, .istore 8, 2, 0, 0, []), (74, .iload 7, 2, 0, 0, []), (76, .iconst 1, 1, 0, 0, []), (77, .if_icmp .gt 33, 3, 110, 0, []), (80, .aload_n 0, 1, 0, 0, []), (81, .getfield 34, 3, 13, 18, []), (84, .iload 5, 2, 0, 0, []), (86, .iload 7, 2, 0, 0, []), (88, .ifCond .ne 8, 3, 96, 0, []), (91, .iload 8, 2, 0, 0, []), (93, .goto 10, 3, 103, 0, []), (96, .aload_n 0, 1, 0, 0, []), (97, .iload_n 2, 1, 0, 0, []), (98, .iload 8, 2, 0, 0, []), (100, .invokevirtual 253, 3, 0, 2, [(13, 224)]), (103, .iastore, 1, 0, 0, []), (104, .iinc 5 1, 3, 0, 0, []), (107, .goto 67, 3, 174, 0, []), (110, .iload 7, 2, 0, 0, []), (112, .iconst 3, 1, 0, 0, []), (113, .if_icmp .ne 26, 3, 139, 0, []), (116, .aload_n 0, 1, 0, 0, []), (117, .getfield 34, 3, 13, 18, []), (120, .iload 5, 2, 0, 0, []), (122, .iconst 1, 1, 0, 0, []), (123, .isub, 1, 0, 0, []), (124, .iconst 1, 1, 0, 0, []), (125, .aload_n 0, 1, 0, 0, []), (126, .getfield 34, 3, 13, 18, []), (129, .iload 5, 2, 0, 0, []), (131, .iconst 1, 1, 0, 0, []), (132, .isub, 1, 0, 0, []), (133, .iaload, 1, 0, 0, []), (134, .isub, 1, 0, 0, []), (135, .iastore, 1, 0, 0, []), (136, .goto 38, 3, 174, 0, []), (139, .iinc 5 (-1), 3, 0, 0, []), (142, .aload_n 0, 1, 0, 0, []), (143, .getfield 34, 3, 13, 18, []), (146, .iload 5, 2, 0, 0, []), (148, .iconst 1, 1, 0, 0, []), (149, .isub, 1, 0, 0, []), (150, .iload 7, 2, 0, 0, []), (152, .iload 8, 2, 0, 0, []), (154, .aload_n 0, 1, 0, 0, []), (155, .getfield 34, 3, 13, 18, []), (158, .iload 5, 2, 0, 0, []), (160, .iconst 1, 1, 0, 0, []), (161, .isub, 1, 0, 0, []), (162, .iaload, 1, 0, 0, []), (163, .aload_n 0, 1, 0, 0, []), (164, .getfield 34, 3, 13, 18, []), (167, .iload 5, 2, 0, 0, []), (169, .iaload, 1, 0, 0, []), (170, .invokestatic 256, 3, 2, 4, [(0, 226)]), (173, .iastore, 1, 0, 0, []), (174, .iinc 6 1, 3, 0, 0, []), (177, .goto (-142), 3, 35, 0, []), (180, .iload 4, 2, 0, 0, []), (182, .ifCond .eq 13, 3, 195, 0, []), (185, .aload_n 0, 1, 0, 0, []), (186, .getfield 34, 3, 13, 18, []), (189, .iconst 0, 1, 0, 0, []), (190, .iaload, 1, 0, 0, []), (191, .iconst 1, 1, 0, 0, []), (192, .if_icmp .ne 7, 3, 199, 0, []), (195, .iconst 1, 1, 0, 0, []), (196, .goto 4, 3, 200, 0, []), (199, .iconst 0, 1, 0, 0, []), (200, .ireturn, 1, 0, 0, [])]
/-- ShadowSchoolModel.emptySeats()V -/
def jc_228 : List jw_I := [(0, .iconst 0, 1, 0, 0, []), (1, .istore_n 1, 1, 0, 0, []), (2, .iload_n 1, 1, 0, 0, []), (3, .bipush 8, 2, 0, 0, []), (5, .if_icmp .ge 16, 3, 21, 0, []), (8, .aload_n 0, 1, 0, 0, []), (9, .getfield 37, 3, 13, 19, []), (12, .iload_n 1, 1, 0, 0, []), (13, .iconst 0, 1, 0, 0, []), (14, .iastore, 1, 0, 0, []), (15, .iinc 1 1, 3, 0, 0, []), (18, .goto (-16), 3, 2, 0, []), (21, .return_, 1, 0, 0, [])]
/-- ShadowSchoolModel.isOpen(II)Z -/
def jc_229 : List jw_I := [(0, .aload_n 0, 1, 0, 0, []), (1, .iload_n 2, 1, 0, 0, []), (2, .iconst 1, 1, 0, 0, []), (3, .invokevirtual 113, 3, 0, 2, [(13, 184)]), (6, .istore_n 3, 1, 0, 0, []), (7, .aload_n 0, 1, 0, 0, []), (8, .iload_n 1, 1, 0, 0, []), (9, .iload_n 2, 1, 0, 0, []), (10, .invokevirtual 106, 3, 0, 2, [(13, 187)]), (13, .ifCond .ne 59, 3, 72, 0, []), (16, .iload_n 3, 1, 0, 0, []), (17, .ifCond .lt 12, 3, 29, 0, []), (20, .aload_n 0, 1, 0, 0, []), (21, .iload_n 1, 1, 0, 0, []), (22, .iload_n 3, 1, 0, 0, []), (23, .invokevirtual 106, 3, 0, 2, [(13, 187)]), (26, .ifCond .eq 46, 3, 72, 0, []), (29, .aload_n 0, 1, 0, 0, []), (30, .getfield 9, 3, 13, 0, []), (33, .iconst 0, 1, 0, 0, []), (34, .iaload, 1, 0, 0, []), (35, .aload_n 0, 1, 0, 0, []), (36, .iload_n 2, 1, 0, 0, []), (37, .iconst 2, 1, 0, 0, []), (38, .invokevirtual 113, 3, 0, 2, [(13, 184)]), (41, .aload_n 0, 1, 0, 0, []), (42, .iload_n 2, 1, 0, 0, []), (43, .iconst 3, 1, 0, 0, []), (44, .invokevirtual 113, 3, 0, 2, [(13, 184)]), (47, .invokestatic 71, 3, 2, 3, [(0, 180)]), (50, .ifCond .eq 22, 3, 72, 0, []), (53, .aload_n 0, 1, 0, 0, []), (54, .getfield 37, 3, 13, 19, []), (57, .iload_n 2, 1, 0, 0, []), (58, .iaload, 1, 0, 0, []), (59, .aload_n 0, 1, 0, 0, []), (60, .iload_n 2, 1, 0, 0, []), (61, .iconst 4, 1, 0, 0, []), (62, .invokevirtual 113, 3, 0, 2, [(13, 184)]), (65, .if_icmp .ge 7, 3, 72, 0, []), (68, .iconst 1, 1, 0, 0, []), (69, .goto 4, 3, 73, 0, []), (72, .iconst 0, 1, 0, 0, []), (73, .ireturn, 1, 0, 0, [])]
/-- ShadowSchoolModel.ruleFor(I)I -/
def jc_230 : List jw_I := [(0, .iconst 0, 1, 0, 0, []), (1, .istore_n 2, 1, 0, 0, []), (2, .iload_n 2, 1, 0, 0, []), (3, .aload_n 0, 1, 0, 0, []), (4, .getfield 16, 3, 13, 2, []), (7, .iconst 4, 1, 0, 0, []), (8, .iaload, 1, 0, 0, []), (9, .if_icmp .ge 55, 3, 64, 0, []), (12, .aload_n 0, 1, 0, 0, []), (13, .iload_n 1, 1, 0, 0, []), (14, .iconst 0, 1, 0, 0, []), (15, .invokevirtual 87, 3, 0, 2, [(13, 183)]), (18, .aload_n 0, 1, 0, 0, []), (19, .getfield 16, 3, 13, 2, []), (22, .bipush 94, 2, 0, 0, []), (24, .iconst 4, 1, 0, 0, []), (25, .iload_n 2, 1, 0, 0, []), (26, .imul, 1, 0, 0, []), (27, .iadd, 1, 0, 0, []), (28, .iaload, 1, 0, 0, []), (29, .invokestatic 260, 3, 2, 2, [(0, 194)]), (32, .ifCond .eq 26, 3, 58, 0, []), (35, .aload_n 0, 1, 0, 0, []), (36, .iload_n 2, 1, 0, 0, []), (37, .iload_n 1, 1, 0, 0, []), (38, .invokevirtual 263, 3, 0, 2, [(13, 227)]), (41, .ifCond .eq 17, 3, 58, 0, []), (44, .aload_n 0, 1, 0, 0, []), (45, .getfield 16, 3, 13, 2, []), (48, .bipush 94, 2, 0, 0, []), (50, .iconst 4, 1, 0, 0, []), (51, .iload_n 2, 1, 0, 0, []), (52, .imul, 1, 0, 0, []), (53, .iadd, 1, 0, 0, []), (54, .iconst 1, 1, 0, 0, []), (55, .iadd, 1, 0, 0, []), (56, .iaload, 1, 0, 0, []), (57, .ireturn, 1, 0, 0, []), (58, .iinc 2 1, 3, 0, 0, []), (61, .goto (-59), 3, 2, 0, []), (64, .iconst (-1), 1, 0, 0, []), (65, .ireturn, 1, 0, 0, [])]
/-- ShadowSchoolModel.lacks(II)I -/
def jc_231 : List jw_I := [(0, .aload_n 0, 1, 0, 0, []), (1, .iload_n 2, 1, 0, 0, []), (2, .iconst 0, 1, 0, 0, []), (3, .invokevirtual 113, 3, 0, 2, [(13, 184)]), (6, .aload_n 0, 1, 0, 0, []), (7, .iload_n 1, 1, 0, 0, []), (8, .iload_n 2, 1, 0, 0, []), (9, .invokevirtual 119, 3, 0, 2, [(13, 188)]), (12, .isub, 1, 0, 0, []), (13, .ireturn, 1, 0, 0, [])]
/-- ShadowSchoolModel.choiceOf(I)I -/
def jc_232 : List jw_I := [(0, .aload_n 0, 1, 0, 0, []), (1, .iload_n 1, 1, 0, 0, []), (2, .invokevirtual 266, 3, 0, 1, [(13, 230)]), (5, .istore_n 2, 1, 0, 0, []), (6, .bipush 8, 2, 0, 0, []), (8, .istore_n 3, 1, 0, 0, []), (9, .iconst 0, 1, 0, 0, []), (10, .istore 4, 2, 0, 0, []), (12, .iload 4, 2, 0, 0, []), (14, .aload_n 0, 1, 0, 0, []), (15, .getfield 16, 3, 13, 2, []), (18, .iconst 3, 1, 0, 0, []), (19, .iaload, 1, 0, 0, []), (20, .if_icmp .ge 77, 3, 97, 0, []), (23, .iload_n 2, 1, 0, 0, []), (24, .iconst 2, 1, 0, 0, []), (25, .if_icmp .eq 72, 3, 97, 0, []), (28, .aload_n 0, 1, 0, 0, []), (29, .iload_n 1, 1, 0, 0, []), (30, .iload 4, 2, 0, 0, []), (32, .invokevirtual 269, 3, 0, 2, [(13, 229)]), (35, .ifCond .ne 6, 3, 41, 0, []), (38, .goto 53, 3, 91, 0, []), (41, .iload_n 3, 1, 0, 0, []), (42, .bipush 8, 2, 0, 0, []), (44, .if_icmp .eq 28, 3, 72, 0, []), (47, .iload_n 2, 1, 0, 0, []), (48, .ifCond .eq 24, 3, 72, 0, []), (51, .iload_n 2, 1, 0, 0, []), (52, .iconst 1, 1, 0, 0, []), (53, .if_icmp .ne 23, 3, 76, 0, []), (56, .aload_n 0, 1, 0, 0, []), (57, .iload_n 1, 1, 0, 0, []), (58, .iload 4, 2, 0, 0, []), (60, .invokevirtual 272, 3, 0, 2, [(13, 231)]), (63, .aload_n 0, 1, 0, 0, []), (64, .iload_n 1, 1, 0, 0, []), (65, .iload_n 3, 1, 0, 0, []), (66, .invokevirtual 272, 3, 0, 2, [(13, 231)]), (69, .if_icmp .ge 7, 3, 76, 0, []), (72, .iconst 1, 1, 0, 0, []), (73, .goto 4, 3, 77, 0, []), (76, .iconst 0, 1, 0, 0, []), (77, .istore 5, 2, 0, 0, []), (79, .iload 5, 2, 0, 0, []), (81, .ifCond .eq 8, 3, 89, 0, []), (84, .iload 4, 2, 0, 0, []), (86, .goto 4, 3, 90, 0, []), (89, .iload_n 3, 1, 0, 0, []), (90, .istore_n 3, 1, 0, 0, []), (91, .iinc 4 1, 3, 0, 0, []), (94, .goto (-82), 3, 12, 0, []), (97, .iload_n 3, 1, 0, 0, []), (98, .ireturn, 1, 0, 0, [])]
/-- ShadowSchoolModel.sits(II)I -/
def jc_233 : List jw_I := [(0, .aload_n 0, 1, 0, 0, []), (1, .getfield 37, 3, 13, 19, []), (4, .iload_n 2, 1, 0, 0, []), (5, .dup2, 1, 0, 0, []), (6, .iaload, 1, 0, 0, []), (7, .iconst 1, 1, 0, 0, []), (8, .iadd, 1, 0, 0, []), (9, .iastore, 1, 0, 0, []), (10, .bipush 8, 2, 0, 0, []), (12, .bipush 8, 2, 0, 0, []), (14, .iload_n 1, 1, 0, 0, []), (15, .imul, 1, 0, 0, []), (16, .iadd, 1, 0, 0, []), (17, .iload_n 2, 1, 0, 0, []), (18, .iadd, 1, 0, 0, []), (19, .istore_n 3, 1, 0, 0, []), (20, .aload_n 0, 1, 0, 0, []), (21, .getfield 9, 3, 13, 0, []), (24, .iload_n 3, 1, 0, 0, []), (25, .dup2, 1, 0, 0, []), (26, .iaload, 1, 0, 0, []), (27, .aload_n 0, 1, 0, 0, []), (28, .iload_n 1, 1, 0, 0, []), (29, .iconst 0, 1, 0, 0, []), (30, .invokevirtual 87, 3, 0, 2, [(13, 183)]), (33, .aload_n 0, 1, 0, 0, []), (34, .iload_n 1, 1, 0, 0, []), (35, .iconst 1, 1, 0, 0, []), (36, .invokevirtual 87, 3, 0, 2, [(13, 183)]), (39, .aload_n 0, 1, 0, 0, []), (40, .getfield 9, 3, 13, 0, []), (43, .iconst 0, 1, 0, 0, []), (44, .iaload, 1, 0, 0, []), (45, .invokestatic 90, 3, 2, 3, [(0, 191)]), (48, .iadd, 1, 0, 0, []), (49, .iastore, 1, 0, 0, []), (50, .aload_n 0, 1, 0, 0, []), (51, .getfield 9, 3, 13, 0, []), (54, .iload_n 3, 1, 0, 0, []), (55, .iaload, 1, 0, 0, []), (56, .aload_n 0, 1, 0, 0, []), (57, .iload_n 2, 1, 0, 0, []), (58, .iconst 0, 1, 0, 0, []), (59, .invokevirtual 113, 3, 0, 2, [(13, 184)]), (62, .if_icmp .ge 5, 3, 67, 0, []), (65, .iconst 0, 1, 0, 0, []), (66, .ireturn, 1, 0, 0, []), (67, .aload_n 0, 1, 0, 0, []), (68, .getfield 9, 3, 13, 0, []), (71, .iconst 2, 1, 0, 0, []), (72, .iload_n 1, 1, 0, 0, []), (73, .iadd, 1, 0, 0, []), (74, .dup2, 1, 0, 0, []), (75, .iaload, 1, 0, 0, []), (76, .iconst 1, 1, 0, 0, []), (77, .iload_n 2, 1, 0, 0, []), (78, .ishl, 1, 0, 0, []), (79, .ior, 1, 0, 0, []), (80, .iastore, 1, 0, 0, []), (81, .aload_n 0, 1, 0, 0, []), (82, .iload_n 2, 1, 0, 0, []), (83, .iconst 0, 1, 0, 0, []), (84, .invokevirtual 113, 3, 0, 2, [(13, 184)]), (87, .ireturn, 1, 0, 0, [])]
/-- ShadowSchoolModel.goes(I)I -/
def jc_234 : List jw_I := [(0, .iconst 0, 1, 0, 0, []), (1, .istore_n 2, 1, 0, 0, []), (2, .aload_n 0, 1, 0, 0, []), (3, .invokevirtual 94, 3, 0, 0, [(13, 228)]), (6, .iconst 0, 1, 0, 0, []), (7, .istore_n 3, 1, 0, 0, []), (8, .iload_n 3, 1, 0, 0, []), (9, .aload_n 0, 1, 0, 0, []), (10, .getfield 16, 3, 13, 2, []), (13, .iconst 2, 1, 0, 0, []), (14, .iaload, 1, 0, 0, []), (15, .if_icmp .ge 49, 3, 64, 0, []), (18, .iload_n 3, 1, 0, 0, []), (19, .iconst 1, 1, 0, 0, []), (20, .iadd, 1, 0, 0, []), (21, .iload_n 1, 1, 0, 0, []), (22, .if_icmp .ne 8, 3, 30, 0, []), (25, .bipush 8, 2, 0, 0, []), (27, .goto 8, 3, 35, 0, []), (30, .aload_n 0, 1, 0, 0, []), (31, .iload_n 3, 1, 0, 0, []), (32, .invokevirtual 97, 3, 0, 1, [(13, 232)]), (35, .istore 4, 2, 0, 0, []), (37, .iload_n 2, 1, 0, 0, []), (38, .iload 4, 2, 0, 0, []), (40, .bipush 8, 2, 0, 0, []), (42, .if_icmp .ne 7, 3, 49, 0, []), (45, .iconst 0, 1, 0, 0, []), (46, .goto 10, 3, 56, 0, []), (49, .aload_n 0, 1, 0, 0, []), (50, .iload_n 3, 1, 0, 0, []), (51, .iload 4, 2, 0, 0, []), (53, .invokevirtual 275, 3, 0, 2, [(13, 233)]), (56, .iadd, 1, 0, 0, []), (57, .istore_n 2, 1, 0, 0, []), (58, .iinc 3 1, 3, 0, 0, []), (61, .goto (-53), 3, 8, 0, []), (64, .aload_n 0, 1, 0, 0, []), (65, .getfield 9, 3, 13, 0, []), (68, .iconst 0, 1, 0, 0, []), (69, .dup2, 1, 0, 0, []), (70, .iaload, 1, 0, 0, []), (71, .iconst 1, 1, 0, 0, []), (72, .iadd, 1, 0, 0, []), (73, .iastore, 1, 0, 0, []), (74, .aload_n 0, 1, 0, 0, []), (75, .getfield 9, 3, 13, 0, []), (78, .iconst 1, 1, 0, 0, []), (79, .dup2, 1, 0, 0, []), (80, .iaload, 1, 0, 0, []), (81, .iload_n 2, 1, 0, 0, []), (82, .iadd, 1, 0, 0, []), (83, .iastore, 1, 0, 0, []), (84, .iload_n 2, 1, 0, 0, []), (85, .ireturn, 1, 0, 0, [])]
/-- ShadowSchoolModel.hour()I -/
def jc_235 : List jw_I := [(0, .aload_n 0, 1, 0, 0, []), (1, .invokevirtual 122, 3, 0, 0, [(13, 186)]), (4, .ifCond .eq 8, 3, 12, 0, []), (7, .bipush (-4), 2, 0, 0, []), (9, .goto 8, 3, 17, 0, []), (12, .aload_n 0, 1, 0, 0, []), (13, .iconst 0, 1, 0, 0, []), (14, .invokevirtual 278, 3, 0, 1, [(13, 234)]), (17, .ireturn, 1, 0, 0, [])]
/-- ShadowSchoolModel.learnt(I)I -/
def jc_236 : List jw_I := [(0, .aload_n 0, 1, 0, 0, []), (1, .iload_n 1, 1, 0, 0, []), (2, .invokevirtual 79, 3, 0, 1, [(13, 181)]), (5, .ifCond .eq 14, 3, 19, 0, []), (8, .aload_n 0, 1, 0, 0, []), (9, .getfield 9, 3, 13, 0, []), (12, .iconst 2, 1, 0, 0, []), (13, .iload_n 1, 1, 0, 0, []), (14, .iadd, 1, 0, 0, []), (15, .iaload, 1, 0, 0, []), (16, .goto 4, 3, 20, 0, []), (19, .iconst (-1), 1, 0, 0, []), (20, .ireturn, 1, 0, 0, [])]
/-- ShadowSchoolModel.rest(I)I -/
def jc_237 : List jw_I := [(0, .iconst 0, 1, 0, 0, []), (1, .istore_n 2, 1, 0, 0, []), (2, .iconst 0, 1, 0, 0, []), (3, .istore_n 3, 1, 0, 0, []), (4, .iload_n 3, 1, 0, 0, []), (5, .iload_n 1, 1, 0, 0, []), (6, .if_icmp .ge 24, 3, 30, 0, []), (9, .aload_n 0, 1, 0, 0, []), (10, .invokevirtual 122, 3, 0, 0, [(13, 186)]), (13, .ifCond .ne 17, 3, 30, 0, []), (16, .iload_n 2, 1, 0, 0, []), (17, .aload_n 0, 1, 0, 0, []), (18, .iconst 0, 1, 0, 0, []), (19, .invokevirtual 278, 3, 0, 1, [(13, 234)]), (22, .iadd, 1, 0, 0, []), (23, .istore_n 2, 1, 0, 0, []), (24, .iinc 3 1, 3, 0, 0, []), (27, .goto (-23), 3, 4, 0, []), (30, .iload_n 2, 1, 0, 0, []), (31, .ireturn, 1, 0, 0, [])]
/-- ShadowSchoolModel.restWorth(I)I -/
def jc_238 : List jw_I := [(0, .aload_n 0, 1, 0, 0, []), (1, .iconst 0, 1, 0, 0, []), (2, .invokevirtual 281, 3, 0, 1, [(13, 189)]), (5, .aload_n 0, 1, 0, 0, []), (6, .iload_n 1, 1, 0, 0, []), (7, .invokevirtual 284, 3, 0, 1, [(13, 237)]), (10, .istore_n 2, 1, 0, 0, []), (11, .aload_n 0, 1, 0, 0, []), (12, .iconst 0, 1, 0, 0, []), (13, .invokevirtual 287, 3, 0, 1, [(13, 190)]), (16, .iload_n 2, 1, 0, 0, []), (17, .ireturn, 1, 0, 0, [])]
/-- ShadowSchoolModel.on(I)I -/
def jc_239 : List jw_I := [(0, .iload_n 1, 1, 0, 0, []), (1, .iconst 0, 1, 0, 0, []), (2, .bipush 16, 2, 0, 0, []), (4, .invokestatic 71, 3, 2, 3, [(0, 180)]), (7, .ifCond .eq 11, 3, 18, 0, []), (10, .aload_n 0, 1, 0, 0, []), (11, .iload_n 1, 1, 0, 0, []), (12, .invokevirtual 290, 3, 0, 1, [(13, 238)]), (15, .goto 4, 3, 19, 0, []), (18, .iconst (-1), 1, 0, 0, []), (19, .ireturn, 1, 0, 0, [])]
/-- ShadowSchoolModel.when(II)I -/
def jc_240 : List jw_I := [(0, .aload_n 0, 1, 0, 0, []), (1, .iload_n 1, 1, 0, 0, []), (2, .invokevirtual 79, 3, 0, 1, [(13, 181)]), (5, .ifCond .eq 11, 3, 16, 0, []), (8, .aload_n 0, 1, 0, 0, []), (9, .iload_n 2, 1, 0, 0, []), (10, .invokevirtual 110, 3, 0, 1, [(13, 182)]), (13, .ifCond .ne 5, 3, 18, 0, []), (16, .iconst (-1), 1, 0, 0, []), (17, .ireturn, 1, 0, 0, []), (18, .aload_n 0, 1, 0, 0, []), (19, .iload_n 1, 1, 0, 0, []), (20, .iload_n 2, 1, 0, 0, []), (21, .invokevirtual 106, 3, 0, 2, [(13, 187)]), (24, .ifCond .eq 6, 3, 30, 0, []), (27, .bipush (-3), 2, 0, 0, []), (29, .ireturn, 1, 0, 0, []), (30, .aload_n 0, 1, 0, 0, []), (31, .iconst 0, 1, 0, 0, []), (32, .invokevirtual 281, 3, 0, 1, [(13, 189)]), (35, .aload_n 0, 1, 0, 0, []), (36, .invokevirtual 122, 3, 0, 0, [(13, 186)]), (39, .ifCond .ne 21, 3, 60, 0, []), (42, .aload_n 0, 1, 0, 0, []), (43, .iload_n 1, 1, 0, 0, []), (44, .iload_n 2, 1, 0, 0, []), (45, .invokevirtual 106, 3, 0, 2, [(13, 187)]), (48, .ifCond .ne 12, 3, 60, 0, []), (51, .aload_n 0, 1, 0, 0, []), (52, .iconst 0, 1, 0, 0, []), (53, .invokevirtual 278, 3, 0, 1, [(13, 234)]), (56, .istore_n 3, 1, 0, 0, []), (57, .goto (-22), 3, 35, 0, []), (60, .aload_n 0, 1, 0, 0, []), (61, .iload_n 1, 1, 0, 0, []), (62, .iload_n 2, 1, 0, 0, []), (63, .invokevirtual 106, 3, 0, 2, [(13, 187)]), (66, .ifCond .eq 14, 3, 80, 0, []), (69, .aload_n 0, 1, 0, 0, []), (70, .getfield 9, 3, 13, 0, []), (73, .iconst 0, 1, 0, 0, []), (74, .iaload, 1, 0, 0, []), (75, .iconst 1, 1, 0, 0, []), (76, .isub, 1, 0, 0, []), (77, .goto 5, 3, 82, 0, []), (80, .bipush (-3), 2, 0, 0, []), (82, .istore_n 3, 1, 0, 0, []), (83, .aload_n 0, 1, 0, 0, []), (84, .iconst 0, 1, 0, 0, []), (85, .invokevirtual 287, 3, 0, 1, [(13, 190)]), (88, .iload_n 3, 1, 0, 0, []), (89, .ireturn, 1, 0, 0, [])]
/-- ShadowSchoolModel.allLessons()I -/
def jc_241 : List jw_I := [(0, .iconst 1, 1, 0, 0, []), (1, .aload_n 0, 1, 0, 0, []), (2, .getfield 16, 3, 13, 2, []), (5, .iconst 3, 1, 0, 0, []), (6, .iaload, 1, 0, 0, []), (7, .ishl, 1, 0, 0, []), (8, .iconst 1, 1, 0, 0, []), (9, .isub, 1, 0, 0, []), (10, .ireturn, 1, 0, 0, [])]
/-- ShadowSchoolModel.letGo()I -/
def jc_242 : List jw_I := [(0, .aload_n 0, 1, 0, 0, []), (1, .iconst 0, 1, 0, 0, []), (2, .invokevirtual 281, 3, 0, 1, [(13, 189)]), (5, .aload_n 0, 1, 0, 0, []), (6, .bipush 16, 2, 0, 0, []), (8, .invokevirtual 284, 3, 0, 1, [(13, 237)]), (11, .istore_n 1, 1, 0, 0, []), (12, .iconst 0, 1, 0, 0, []), (13, .istore_n 2, 1, 0, 0, []), (14, .iconst 0, 1, 0, 0, []), (15, .istore_n 3, 1, 0, 0, []), (16, .iload_n 3, 1, 0, 0, []), (17, .aload_n 0, 1, 0, 0, []), (18, .getfield 16, 3, 13, 2, []), (21, .iconst 2, 1, 0, 0, []), (22, .iaload, 1, 0, 0, []), (23, .if_icmp .ge 34, 3, 57, 0, []), (26, .iload_n 2, 1, 0, 0, []), (27, .aload_n 0, 1, 0, 0, []), (28, .getfield 9, 3, 13, 0, []), (31, .iconst 2, 1, 0, 0, []), (32, .iload_n 3, 1, 0, 0, []), (33, .iadd, 1, 0, 0, []), (34, .iaload, 1, 0, 0, []), (35, .aload_n 0, 1, 0, 0, []), (36, .invokevirtual 293, 3, 0, 0, [(13, 241)]), (39, .if_icmp .ne 9, 3, 48, 0, []), (42, .iconst 1, 1, 0, 0, []), (43, .iload_n 3, 1, 0, 0, []), (44, .ishl, 1, 0, 0, []), (45, .goto 4, 3, 49, 0, []), (48, .iconst 0, 1, 0, 0, []), (49, .ior, 1, 0, 0, []), (50, .istore_n 2, 1, 0, 0, []), (51, .iinc 3 1, 3, 0, 0, []), (54, .goto (-38), 3, 16, 0, []), (57, .aload_n 0, 1, 0, 0, []), (58, .iconst 0, 1, 0, 0, []), (59, .invokevirtual 287, 3, 0, 1, [(13, 190)]), (62, .iload_n 2, 1, 0, 0, []), (63, .ireturn, 1, 0, 0, [])]
/-- ShadowSchoolModel.crowd(I)I -/
def jc_243 : List jw_I := [(0, .aload_n 0, 1, 0, 0, []), (1, .iload_n 1, 1, 0, 0, []), (2, .invokevirtual 110, 3, 0, 1, [(13, 182)]), (5, .ifCond .ne 5, 3, 10, 0, []), (8, .iconst (-1), 1, 0, 0, []), (9, .ireturn, 1, 0, 0, []), (10, .aload_n 0, 1, 0, 0, []), (11, .invokevirtual 122, 3, 0, 0, [(13, 186)]), (14, .ifCond .eq 6, 3, 20, 0, []), (17, .bipush (-3), 2, 0, 0, []), (19, .ireturn, 1, 0, 0, []), (20, .aload_n 0, 1, 0, 0, []), (21, .iconst 0, 1, 0, 0, []), (22, .invokevirtual 281, 3, 0, 1, [(13, 189)]), (25, .iconst (-1), 1, 0, 0, []), (26, .istore_n 2, 1, 0, 0, []), (27, .iconst (-1), 1, 0, 0, []), (28, .istore_n 3, 1, 0, 0, []), (29, .aload_n 0, 1, 0, 0, []), (30, .invokevirtual 122, 3, 0, 0, [(13, 186)]), (33, .ifCond .ne 59, 3, 92, 0, []), (36, .aload_n 0, 1, 0, 0, []), (37, .getfield 9, 3, 13, 0, []), (40, .iconst 0, 1, 0, 0, []), (41, .iaload, 1, 0, 0, []), (42, .istore 4, 2, 0, 0, []), (44, .aload_n 0, 1, 0, 0, []), (45, .iconst 0, 1, 0, 0, []), (46, .invokevirtual 278, 3, 0, 1, [(13, 234)]), (49, .istore 5, 2, 0, 0, []), (51, .aload_n 0, 1, 0, 0, []), (52, .getfield 37, 3, 13, 19, []), (55, .iload_n 1, 1, 0, 0, []), (56, .iaload, 1, 0, 0, []), (57, .iload_n 3, 1, 0, 0, []), (58, .if_icmp .le 8, 3, 66, 0, []), (61, .iload 4, 2, 0, 0, []), (63, .goto 4, 3, 67, 0, []), (66, .iload_n 2, 1, 0, 0, []), (67, .istore_n 2, 1, 0, 0, []), (68, .aload_n 0, 1, 0, 0, []), (69, .getfield 37, 3, 13, 19, []), (72, .iload_n 1, 1, 0, 0, []), (73, .iaload, 1, 0, 0, []), (74, .iload_n 3, 1, 0, 0, []), (75, .if_icmp .le 12, 3, 87, 0, []), (78, .aload_n 0, 1, 0, 0, []), (79, .getfield 37, 3, 13, 19, []), (82, .iload_n 1, 1, 0, 0, []), (83, .iaload, 1, 0, 0, []), (84, .goto 4, 3, 88, 0, []), (87, .iload_n 3, 1, 0, 0, []), (88, .istore_n 3, 1, 0, 0, []), (89, .goto (-60), 3, 29, 0, []), (92, .aload_n 0, 1, 0, 0, []), (93, .iconst 0, 1, 0, 0, []), (94, .invokevirtual 287, 3, 0, 1, [(13, 190)]), (97, .iload_n 2, 1, 0, 0, []), (98, .ireturn, 1, 0, 0, [])]
/-- ShadowSchoolModel.dearest(II)I -/
def jc_244 : List jw_I := [(0, .aload_n 0, 1, 0, 0, []), (1, .getfield 16, 3, 13, 2, []), (4, .iload_n 1, 1, 0, 0, []), (5, .iaload, 1, 0, 0, []), (6, .istore_n 3, 1, 0, 0, []), (7, .iconst 0, 1, 0, 0, []), (8, .istore 4, 2, 0, 0, []), (10, .iconst (-1), 1, 0, 0, []), (11, .istore 5, 2, 0, 0, []), (13, .iconst 1, 1, 0, 0, []), (14, .istore 6, 2, 0, 0, []), (16, .iload 6, 2, 0, 0, []), (18, .iload_n 2, 1, 0, 0, []), (19, .if_icmp .gt 57, 3, 76, 0, []), (22, .aload_n 0, 1, 0, 0, []), (23, .getfield 16, 3, 13, 2, []), (26, .iload_n 1, 1, 0, 0, []), (27, .iload 6, 2, 0, 0, []), (29, .iastore, 1, 0, 0, []), (30, .aload_n 0, 1, 0, 0, []), (31, .bipush 16, 2, 0, 0, []), (33, .invokevirtual 290, 3, 0, 1, [(13, 238)]), (36, .istore 7, 2, 0, 0, []), (38, .iload 7, 2, 0, 0, []), (40, .iload 5, 2, 0, 0, []), (42, .if_icmp .le 8, 3, 50, 0, []), (45, .iload 6, 2, 0, 0, []), (47, .goto 5, 3, 52, 0, []), (50, .iload 4, 2, 0, 0, []), (52, .istore 4, 2, 0, 0, []), (54, .iload 7, 2, 0, 0, []), (56, .iload 5, 2, 0, 0, []), (58, .if_icmp .le 8, 3, 66, 0, []), (61, .iload 7, 2, 0, 0, []), (63, .goto 5, 3, 68, 0, []), (66, .iload 5, 2, 0, 0, []), (68, .istore 5, 2, 0, 0, []), (70, .iinc 6 1, 3, 0, 0, []), (73, .goto (-57), 3, 16, 0, []), (76, .aload_n 0, 1, 0, 0, []), (77, .getfield 16, 3, 13, 2, []), (80, .iload_n 1, 1, 0, 0, []), (81, .iload_n 3, 1, 0, 0, []), (82, .iastore, 1, 0, 0, []), (83, .iload 4, 2, 0, 0, []), (85, .ireturn, 1, 0, 0, [])]
/-- ShadowSchoolModel.quickFor(I)I -/
def jc_245 : List jw_I := [(0, .aload_n 0, 1, 0, 0, []), (1, .iload_n 1, 1, 0, 0, []), (2, .invokevirtual 79, 3, 0, 1, [(13, 181)]), (5, .ifCond .eq 20, 3, 25, 0, []), (8, .aload_n 0, 1, 0, 0, []), (9, .bipush 6, 2, 0, 0, []), (11, .iconst 3, 1, 0, 0, []), (12, .iload_n 1, 1, 0, 0, []), (13, .imul, 1, 0, 0, []), (14, .iadd, 1, 0, 0, []), (15, .iconst 1, 1, 0, 0, []), (16, .iadd, 1, 0, 0, []), (17, .bipush 9, 2, 0, 0, []), (19, .invokevirtual 296, 3, 0, 2, [(13, 244)]), (22, .goto 4, 3, 26, 0, []), (25, .iconst (-1), 1, 0, 0, []), (26, .ireturn, 1, 0, 0, [])]
/-- ShadowSchoolModel.roomFor(I)I -/
def jc_246 : List jw_I := [(0, .aload_n 0, 1, 0, 0, []), (1, .iload_n 1, 1, 0, 0, []), (2, .invokevirtual 110, 3, 0, 1, [(13, 182)]), (5, .ifCond .eq 20, 3, 25, 0, []), (8, .aload_n 0, 1, 0, 0, []), (9, .bipush 24, 2, 0, 0, []), (11, .iconst 5, 1, 0, 0, []), (12, .iload_n 1, 1, 0, 0, []), (13, .imul, 1, 0, 0, []), (14, .iadd, 1, 0, 0, []), (15, .iconst 4, 1, 0, 0, []), (16, .iadd, 1, 0, 0, []), (17, .bipush 6, 2, 0, 0, []), (19, .invokevirtual 296, 3, 0, 2, [(13, 244)]), (22, .goto 4, 3, 26, 0, []), (25, .iconst (-1), 1, 0, 0, []), (26, .ireturn, 1, 0, 0, [])]
/-- ShadowSchoolModel.letGoBy(I)I -/
def jc_247 : List jw_I := [(0, .aload_n 0, 1, 0, 0, []), (1, .iload_n 1, 1, 0, 0, []), (2, .invokevirtual 79, 3, 0, 1, [(13, 181)]), (5, .ifCond .ne 5, 3, 10, 0, []), (8, .iconst (-1), 1, 0, 0, []), (9, .ireturn, 1, 0, 0, []), (10, .bipush 6, 2, 0, 0, []), (12, .iconst 3, 1, 0, 0, []), (13, .iload_n 1, 1, 0, 0, []), (14, .imul, 1, 0, 0, []), (15, .iadd, 1, 0, 0, []), (16, .iconst 1, 1, 0, 0, []), (17, .iadd, 1, 0, 0, []), (18, .istore_n 2, 1, 0, 0, []), (19, .aload_n 0, 1, 0, 0, []), (20, .getfield 16, 3, 13, 2, []), (23, .iload_n 2, 1, 0, 0, []), (24, .iaload, 1, 0, 0, []), (25, .istore_n 3, 1, 0, 0, []), (26, .bipush (-3), 2, 0, 0, []), (28, .istore 4, 2, 0, 0, []), (30, .bipush 9, 2, 0, 0, []), (32, .istore 5, 2, 0, 0, []), (34, .iload 5, 2, 0, 0, []), (36, .iconst 1, 1, 0, 0, []), (37, .if_icmp .lt 38, 3, 75, 0, []), (40, .aload_n 0, 1, 0, 0, []), (41, .getfield 16, 3, 13, 2, []), (44, .iload_n 2, 1, 0, 0, []), (45, .iload 5, 2, 0, 0, []), (47, .iastore, 1, 0, 0, []), (48, .aload_n 0, 1, 0, 0, []), (49, .invokevirtual 299, 3, 0, 0, [(13, 242)]), (52, .iload_n 1, 1, 0, 0, []), (53, .ishr, 1, 0, 0, []), (54, .iconst 1, 1, 0, 0, []), (55, .iand, 1, 0, 0, []), (56, .iconst 1, 1, 0, 0, []), (57, .if_icmp .ne 8, 3, 65, 0, []), (60, .iload 5, 2, 0, 0, []), (62, .goto 5, 3, 67, 0, []), (65, .iload 4, 2, 0, 0, []), (67, .istore 4, 2, 0, 0, []), (69, .iinc 5 (-1), 3, 0, 0, []), (72, .goto (-38), 3, 34, 0, []), (75, .aload_n 0, 1, 0, 0, []), (76, .getfield 16, 3, 13, 2, []), (79, .iload_n 2, 1, 0, 0, []), (80, .iload_n 3, 1, 0, 0, []), (81, .iastore, 1, 0, 0, []), (82, .iload 4, 2, 0, 0, []), (84, .ireturn, 1, 0, 0, [])]
/-- ShadowSchoolModel.quarrel(III)I -/
def jc_248 : List jw_I := [(0, .aload_n 0, 1, 0, 0, []), (1, .iload_n 1, 1, 0, 0, []), (2, .invokevirtual 79, 3, 0, 1, [(13, 181)]), (5, .ifCond .eq 25, 3, 30, 0, []), (8, .aload_n 0, 1, 0, 0, []), (9, .iload_n 2, 1, 0, 0, []), (10, .invokevirtual 79, 3, 0, 1, [(13, 181)]), (13, .ifCond .eq 17, 3, 30, 0, []), (16, .iload_n 1, 1, 0, 0, []), (17, .iload_n 2, 1, 0, 0, []), (18, .if_icmp .eq 12, 3, 30, 0, []), (21, .iload_n 3, 1, 0, 0, []), (22, .iconst 0, 1, 0, 0, []), (23, .iconst 1, 1, 0, 0, []), (24, .invokestatic 71, 3, 2, 3, [(0, 180)]), (27, .ifCond .ne 5, 3, 32, 0, []), (30, .iconst (-1), 1, 0, 0, []), (31, .ireturn, 1, 0, 0, []), (32, .aload_n 0, 1, 0, 0, []), (33, .getfield 16, 3, 13, 2, []), (36, .bipush 64, 2, 0, 0, []), (38, .iload_n 1, 1, 0, 0, []), (39, .iadd, 1, 0, 0, []), (40, .iaload, 1, 0, 0, []), (41, .iload_n 2, 1, 0, 0, []), (42, .ishr, 1, 0, 0, []), (43, .iconst 1, 1, 0, 0, []), (44, .iand, 1, 0, 0, []), (45, .istore 4, 2, 0, 0, []), (47, .aload_n 0, 1, 0, 0, []), (48, .getfield 16, 3, 13, 2, []), (51, .bipush 64, 2, 0, 0, []), (53, .iload_n 1, 1, 0, 0, []), (54, .iadd, 1, 0, 0, []), (55, .aload_n 0, 1, 0, 0, []), (56, .getfield 16, 3, 13, 2, []), (59, .bipush 64, 2, 0, 0, []), (61, .iload_n 1, 1, 0, 0, []), (62, .iadd, 1, 0, 0, []), (63, .iaload, 1, 0, 0, []), (64, .iconst 1, 1, 0, 0, []), (65, .iload_n 2, 1, 0, 0, []), (66, .ishl, 1, 0, 0, []), (67, .iconst (-1), 1, 0, 0, []), (68, .ixor, 1, 0, 0, []), (69, .iand, 1, 0, 0, []), (70, .iload_n 3, 1, 0, 0, []), (71, .iload_n 2, 1, 0, 0, []), (72, .ishl, 1, 0, 0, []), (73, .ior, 1, 0, 0, []), (74, .iastore, 1, 0, 0, []), (75, .aload_n 0, 1, 0, 0, []), (76, .getfield 16, 3, 13, 2, []), (79, .bipush 64, 2, 0, 0, []), (81, .iload_n 2, 1, 0, 0, []), (82, .iadd, 1, 0, 0, []), (83, .aload_n 0, 1, 0, 0, []), (84, .getfield 16, 3, 13, 2, []), (87, .bipush 64, 2, 0, 0, []), (89, .iload_n 2, 1, 0, 0, []), (90, .iadd, 1, 0, 0, []), (91, .iaload, 1, 0, 0, []), (92, .iconst 1, 1, 0, 0, []), (93, .iload_n 1, 1, 0, 0, []), (94, .ishl, 1, 0, 0, []), (95, .iconst (-1), 1, 0, 0, []), (96, .ixor, 1, 0, 0, []), (97, .iand, 1, 0, 0, []), (98, .iload_n 3, 1, 0, 0, []), (99, .iload_n 1, 1, 0, 0, []), (100, .ishl, 1, 0, 0, []), (101, .ior, 1, 0, 0, []), (102, .iastore, 1, 0, 0, []), (103, .iload 4, 2, 0, 0, []), (105, .ireturn, 1, 0, 0, [])]
/-- ShadowSchoolModel.quarrels(I)I -/
def jc_249 : List jw_I := [(0, .aload_n 0, 1, 0, 0, []), (1, .iload_n 1, 1, 0, 0, []), (2, .invokevirtual 79, 3, 0, 1, [(13, 181)]), (5, .ifCond .eq 15, 3, 20, 0, []), (8, .aload_n 0, 1, 0, 0, []), (9, .getfield 16, 3, 13, 2, []), (12, .bipush 64, 2, 0, 0, []), (14, .iload_n 1, 1, 0, 0, []), (15, .iadd, 1, 0, 0, []), (16, .iaload, 1, 0, 0, []), (17, .goto 4, 3, 21, 0, []), (20, .iconst (-1), 1, 0, 0, []), (21, .ireturn, 1, 0, 0, [])]
/-- ShadowSchoolModel.isSeating()Z -/
def jc_250 : List jw_I := [(0, .iconst 1, 1, 0, 0, []), (1, .istore_n 1, 1, 0, 0, []), (2, .iconst 0, 1, 0, 0, []), (3, .istore_n 2, 1, 0, 0, []), (4, .iload_n 2, 1, 0, 0, []), (5, .aload_n 0, 1, 0, 0, []), (6, .getfield 16, 3, 13, 2, []), (9, .iconst 2, 1, 0, 0, []), (10, .iaload, 1, 0, 0, []), (11, .if_icmp .ge 63, 3, 74, 0, []), (14, .iconst 0, 1, 0, 0, []), (15, .istore_n 3, 1, 0, 0, []), (16, .iload_n 3, 1, 0, 0, []), (17, .iload_n 2, 1, 0, 0, []), (18, .if_icmp .ge 50, 3, 68, 0, []), (21, .iload_n 1, 1, 0, 0, []), (22, .ifCond .eq 38, 3, 60, 0, []), (25, .aload_n 0, 1, 0, 0, []), (26, .getfield 40, 3, 13, 20, []), (29, .iload_n 2, 1, 0, 0, []), (30, .iaload, 1, 0, 0, []), (31, .aload_n 0, 1, 0, 0, []), (32, .getfield 40, 3, 13, 20, []), (35, .iload_n 3, 1, 0, 0, []), (36, .iaload, 1, 0, 0, []), (37, .if_icmp .ne 19, 3, 56, 0, []), (40, .aload_n 0, 1, 0, 0, []), (41, .getfield 16, 3, 13, 2, []), (44, .bipush 64, 2, 0, 0, []), (46, .iload_n 2, 1, 0, 0, []), (47, .iadd, 1, 0, 0, []), (48, .iaload, 1, 0, 0, []), (49, .iload_n 3, 1, 0, 0, []), (50, .ishr, 1, 0, 0, []), (51, .iconst 1, 1, 0, 0, []), (52, .iand, 1, 0, 0, []), (53, .ifCond .ne 7, 3, 60, 0, []), (56, .iconst 1, 1, 0, 0, []), (57, .goto 4, 3, 61, 0, []), (60, .iconst 0, 1, 0, 0, []), (61, .istore_n 1, 1, 0, 0, []), (62, .iinc 3 1, 3, 0, 0, []), (65, .goto (-49), 3, 16, 0, []), (68, .iinc 2 1, 3, 0, 0, []), (71, .goto (-67), 3, 4, 0, []), (74, .iload_n 1, 1, 0, 0, []), (75, .ireturn, 1, 0, 0, [])]
/-- ShadowSchoolModel.isNextWay(I)Z -/
def jc_251 : List jw_I := [(0, .aload_n 0, 1, 0, 0, []), (1, .getfield 16, 3, 13, 2, []), (4, .iconst 2, 1, 0, 0, []), (5, .iaload, 1, 0, 0, []), (6, .iconst 1, 1, 0, 0, []), (7, .isub, 1, 0, 0, []), (8, .istore_n 2, 1, 0, 0, []), (9, .iload_n 2, 1, 0, 0, []), (10, .ifCond .lt 28, 3, 38, 0, []), (13, .aload_n 0, 1, 0, 0, []), (14, .getfield 40, 3, 13, 20, []), (17, .iload_n 2, 1, 0, 0, []), (18, .iaload, 1, 0, 0, []), (19, .iload_n 1, 1, 0, 0, []), (20, .iconst 1, 1, 0, 0, []), (21, .isub, 1, 0, 0, []), (22, .if_icmp .ne 16, 3, 38, 0, []), (25, .aload_n 0, 1, 0, 0, []), (26, .getfield 40, 3, 13, 20, []), (29, .iload_n 2, 1, 0, 0, []), (30, .iconst 0, 1, 0, 0, []), (31, .iastore, 1, 0, 0, []), (32, .iinc 2 (-1), 3, 0, 0, []), (35, .goto (-26), 3, 9, 0, []), (38, .iload_n 2, 1, 0, 0, []), (39, .ifCond .lt 13, 3, 52, 0, []), (42, .aload_n 0, 1, 0, 0, []), (43, .getfield 40, 3, 13, 20, []), (46, .iload_n 2, 1, 0, 0, []), (47, .dup2, 1, 0, 0, []), (48, .iaload, 1, 0, 0, []), (49, .iconst 1, 1, 0, 0, []), (50, .iadd, 1, 0, 0, []), (51, .iastore, 1, 0, 0, []), (52, .iload_n 2, 1, 0, 0, []), (53, .ifCond .lt 7, 3, 60, 0, []), (56, .iconst 1, 1, 0, 0, []), (57, .goto 4, 3, 61, 0, []), (60, .iconst 0, 1, 0, 0, []), (61, .ireturn, 1, 0, 0, [])]
/-- ShadowSchoolModel.allInFirst()V -/
def jc_252 : List jw_I := [(0, .iconst 0, 1, 0, 0, []), (1, .istore_n 1, 1, 0, 0, []), (2, .iload_n 1, 1, 0, 0, []), (3, .bipush 6, 2, 0, 0, []), (5, .if_icmp .ge 16, 3, 21, 0, []), (8, .aload_n 0, 1, 0, 0, []), (9, .getfield 40, 3, 13, 20, []), (12, .iload_n 1, 1, 0, 0, []), (13, .iconst 0, 1, 0, 0, []), (14, .iastore, 1, 0, 0, []), (15, .iinc 1 1, 3, 0, 0, []), (18, .goto (-16), 3, 2, 0, []), (21, .return_, 1, 0, 0, [])]
/-- ShadowSchoolModel.isFirstSeating(I)Z -/
def jc_253 : List jw_I := [(0, .aload_n 0, 1, 0, 0, []), (1, .invokevirtual 302, 3, 0, 0, [(13, 252)]), (4, .aload_n 0, 1, 0, 0, []), (5, .invokevirtual 305, 3, 0, 0, [(13, 250)]), (8, .ifCond .ne 13, 3, 21, 0, []), (11, .aload_n 0, 1, 0, 0, []), (12, .iload_n 1, 1, 0, 0, []), (13, .invokevirtual 308, 3, 0, 1, [(13, 251)]), (16, .ifCond .ne (-12), 3, 4, 0, []), (19, .iconst 0, 1, 0, 0, []), (20, .ireturn, 1, 0, 0, []), (21, .iconst 1, 1, 0, 0, []), (22, .ireturn, 1, 0, 0, [])]
/-- ShadowSchoolModel.rooms()I -/
def jc_254 : List jw_I := [(0, .aload_n 0, 1, 0, 0, []), (1, .getfield 16, 3, 13, 2, []), (4, .iconst 2, 1, 0, 0, []), (5, .iaload, 1, 0, 0, []), (6, .ifCond .ne 5, 3, 11, 0, []), (9, .iconst 0, 1, 0, 0, []), (10, .ireturn, 1, 0, 0, []), (11, .iconst 1, 1, 0, 0, []), (12, .istore_n 1, 1, 0, 0, []), (13, .aload_n 0, 1, 0, 0, []), (14, .iload_n 1, 1, 0, 0, []), (15, .invokevirtual 311, 3, 0, 1, [(13, 253)]), (18, .ifCond .ne 9, 3, 27, 0, []), (21, .iinc 1 1, 3, 0, 0, []), (24, .goto (-11), 3, 13, 0, []), (27, .iload_n 1, 1, 0, 0, []), (28, .ireturn, 1, 0, 0, [])]
/-- ShadowSchoolModel.seat(I)I -/
def jc_255 : List jw_I := [(0, .aload_n 0, 1, 0, 0, []), (1, .iload_n 1, 1, 0, 0, []), (2, .invokevirtual 79, 3, 0, 1, [(13, 181)]), (5, .ifCond .ne 5, 3, 10, 0, []), (8, .iconst (-1), 1, 0, 0, []), (9, .ireturn, 1, 0, 0, []), (10, .aload_n 0, 1, 0, 0, []), (11, .invokevirtual 314, 3, 0, 0, [(13, 254)]), (14, .istore_n 2, 1, 0, 0, []), (15, .aload_n 0, 1, 0, 0, []), (16, .getfield 40, 3, 13, 20, []), (19, .iload_n 1, 1, 0, 0, []), (20, .iaload, 1, 0, 0, []), (21, .ireturn, 1, 0, 0, [])]
/-- ShadowSchoolModel.seatings(I)I -/
def jc_256 : List jw_I := [(0, .iload_n 1, 1, 0, 0, []), (1, .iconst 1, 1, 0, 0, []), (2, .iconst 4, 1, 0, 0, []), (3, .invokestatic 71, 3, 2, 3, [(0, 180)]), (6, .ifCond .ne 5, 3, 11, 0, []), (9, .iconst (-1), 1, 0, 0, []), (10, .ireturn, 1, 0, 0, []), (11, .aload_n 0, 1, 0, 0, []), (12, .invokevirtual 302, 3, 0, 0, [(13, 252)]), (15, .iconst 0, 1, 0, 0, []), (16, .istore_n 2, 1, 0, 0, []), (17, .iconst 1, 1, 0, 0, []), (18, .istore_n 3, 1, 0, 0, []), (19, .iload_n 3, 1, 0, 0, []), (20, .ifCond .eq 27, 3, 47, 0, []), (23, .iload_n 2, 1, 0, 0, []), (24, .aload_n 0, 1, 0, 0, []), (25, .invokevirtual 305, 3, 0, 0, [(13, 250)]), (28, .ifCond .eq 7, 3, 35, 0, []), (31, .iconst 1, 1, 0, 0, []), (32, .goto 4, 3, 36, 0, []), (35, .iconst 0, 1, 0, 0, []), (36, .iadd, 1, 0, 0, []), (37, .istore_n 2, 1, 0, 0, []), (38, .aload_n 0, 1, 0, 0, []), (39, .iload_n 1, 1, 0, 0, []), (40, .invokevirtual 308, 3, 0, 1, [(13, 251)]), (43, .istore_n 3, 1, 0, 0, []), (44, .goto (-25), 3, 19, 0, []), (47, .iload_n 2, 1, 0, 0, []), (48, .ireturn, 1, 0, 0, [])]
/-- ShadowSchoolModel.match(III)I -/
def jc_257 : List jw_I := [(0, .iload_n 1, 1, 0, 0, []), (1, .invokestatic 317, 3, 2, 1, [(0, 290)]), (4, .ifCond .eq 13, 3, 17, 0, []), (7, .iload_n 3, 1, 0, 0, []), (8, .iconst 0, 1, 0, 0, []), (9, .bipush 99, 2, 0, 0, []), (11, .invokestatic 71, 3, 2, 3, [(0, 180)]), (14, .ifCond .ne 5, 3, 19, 0, []), (17, .iconst (-1), 1, 0, 0, []), (18, .ireturn, 1, 0, 0, []), (19, .aload_n 0, 1, 0, 0, []), (20, .iload_n 1, 1, 0, 0, []), (21, .iconst 0, 1, 0, 0, []), (22, .invokevirtual 320, 3, 0, 2, [(13, 291)]), (25, .istore 4, 2, 0, 0, []), (27, .iload 4, 2, 0, 0, []), (29, .ifCond .eq 6, 3, 35, 0, []), (32, .iload 4, 2, 0, 0, []), (34, .ireturn, 1, 0, 0, []), (35, .iload_n 2, 1, 0, 0, []), (36, .ifCond .lt 20, 3, 56, 0, []), (39, .iload_n 2, 1, 0, 0, []), (40, .aload_n 0, 1, 0, 0, []), (41, .getfield 52, 3, 13, 31, []), (44, .iload_n 1, 1, 0, 0, []), (45, .iaload, 1, 0, 0, []), (46, .aload_n 0, 1, 0, 0, []), (47, .getfield 16, 3, 13, 2, []), (50, .iconst 2, 1, 0, 0, []), (51, .iaload, 1, 0, 0, []), (52, .isub, 1, 0, 0, []), (53, .if_icmp .le 6, 3, 59, 0, []), (56, .bipush (-12), 2, 0, 0, []), (58, .ireturn, 1, 0, 0, []), (59, .iconst 1, 1, 0, 0, []), (60, .aload_n 0, 1, 0, 0, []), (61, .getfield 16, 3, 13, 2, []), (64, .iconst 2, 1, 0, 0, []), (65, .iaload, 1, 0, 0, []), (66, .ishl, 1, 0, 0, []), (67, .istore 5, 2, 0, 0, []), (69, .iconst 1, 1, 0, 0, []), (70, .istore 6, 2, 0, 0, []), (72, .iload 6, 2, 0, 0, []), (74, .iload 5, 2, 0, 0, []), (76, .if_icmp .ge 17, 3, 93, 0, []), (79, .aload_n 0, 1, 0, 0, []), (80, .getfield 43, 3, 13, 21, []), (83, .iload 6, 2, 0, 0, []), (85, .iconst 0, 1, 0, 0, []), (86, .iastore, 1, 0, 0, []), (87, .iinc 6 1, 3, 0, 0, []), (90, .goto (-18), 3, 72, 0, []), (93, .aload_n 0, 1, 0, 0, []), (94, .getfield 43, 3, 13, 21, []), (97, .iconst 0, 1, 0, 0, []), (98, .iconst 1, 1, 0, 0, []), (99, .iastore, 1, 0, 0, []), (100, .iconst 1, 1, 0, 0, []), (101, .istore 6, 2, 0, 0, []), (103, .iload 6, 2, 0, 0, []), (105, .iload 5, 2, 0, 0, []), (107, .if_icmp .ge 134, 3, 241, 0, []), (110, .aload_n 0, 1, 0, 0, []), (111, .getfield 55, 3, 13, 32, []), (114, .bipush 40, 2, 0, 0, []), (116, .iload_n 1, 1, 0, 0, []), (117, .imul, 1, 0, 0, []), (118, .iload_n 2, 1, 0, 0, []), (119, .iadd, 1, 0, 0, []), (120, .iload 6, 2, 0, 0, []), (122, .invokestatic 83, 3, 2, 1, [(0, 185)]), (125, .iadd, 1, 0, 0, []), (126, .iconst 1, 1, 0, 0, []), (127, .isub, 1, 0, 0, []), (128, .laload, 1, 0, 0, []), (129, .l2i, 1, 0, 0, []), (130, .istore 7, 2, 0, 0, []), (132, .iconst 0, 1, 0, 0, []), (133, .istore 8, 2, 0, 0, []), (135, .iload 8, 2, 0, 0, []), (137, .aload_n 0, 1, 0, 0, []), (138, .getfield 16, 3, 13, 2, []), (141, .iconst 2, 1, 0, 0, []), (142, .iaload, 1, 0, 0, []), (143, .if_icmp .ge 92, 3, 235, 0, []), (146, .iload 6, 2, 0, 0, []), (148, .iload 8, 2, 0, 0, []), (150, .ishr, 1, 0, 0, []), (151, .iconst 1, 1, 0, 0, []), (152, .iand, 1, 0, 0, []), (153, .iconst 1, 1, 0, 0, []), (154, .if_icmp .ne 39, 3, 193, 0, []), (157, .iload 7, 2, 0, 0, []), (159, .aload_n 0, 1, 0, 0, []), (160, .iload 8, 2, 0, 0, []), (162, .iconst 0, 1, 0, 0, []), (163, .invokevirtual 87, 3, 0, 2, [(13, 183)]), (166, .aload_n 0, 1, 0, 0, []), (167, .iload 8, 2, 0, 0, []), (169, .iconst 2, 1, 0, 0, []), (170, .invokevirtual 87, 3, 0, 2, [(13, 183)]), (173, .aload_n 0, 1, 0, 0, []), (174, .getfield 9, 3, 13, 0, []), (177, .iconst 0, 1, 0, 0, []), (178, .iaload, 1, 0, 0, []), (179, .invokestatic 100, 3, 2, 3, [(0, 193)]), (182, .invokestatic 75, 3, 2, 2, [(0, 192)]), (185, .iload_n 3, 1, 0, 0, []), (186, .if_icmp .gt 7, 3, 193, 0, []), (189, .iconst 1, 1, 0, 0, []), (190, .goto 4, 3, 194, 0, []), (193, .iconst 0, 1, 0, 0, []), (194, .istore 9, 2, 0, 0, []), (196, .aload_n 0, 1, 0, 0, []), (197, .getfield 43, 3, 13, 21, []), (200, .iload 6, 2, 0, 0, []), (202, .dup2, 1, 0, 0, []), (203, .iaload, 1, 0, 0, []), (204, .iload 9, 2, 0, 0, []), (206, .ifCond .eq 20, 3, 226, 0, []), (209, .aload_n 0, 1, 0, 0, []), (210, .getfield 43, 3, 13, 21, []), (213, .iload 6, 2, 0, 0, []), (215, .iconst 1, 1, 0, 0, []), (216, .iload 8, 2, 0, 0, []), (218, .ishl, 1, 0, 0, []), (219, .iconst (-1), 1, 0, 0, []), (220, .ixor, 1, 0, 0, []), (221, .iand, 1, 0, 0, []), (222, .iaload, 1, 0, 0, []), (223, .goto 4, 3, 227, 0, []), (226, .iconst 0, 1, 0, 0, []), (227, .iadd, 1, 0, 0, []), (228, .iastore, 1, 0, 0, []), (229, .iinc 8 1, 3, 0, 0, []), (232, .goto (-97), 3, 135, 0, []), (235, .iinc 6 1, 3, 0, 0, []), (238, .goto (-135), 3, 103, 0, []), (241, .aload_n 0, 1, 0, 0, []), (242, .getfield 43, 3, 13, 21, []), (245, .iload 5, 2, 0, 0, []), (247, .iconst 1, 1, 0, 0, []), (248, .isub, 1, 0, 0, []), (249, .iaload, 1, 0, 0, []), (250, .ireturn, 1, 0, 0, [])]
/-- ShadowSchoolModel.planHours(I)I -/
def jc_258 : List jw_I := [(0, .aload_n 0, 1, 0, 0, []), (1, .getfield 16, 3, 13, 2, []), (4, .iconst 0, 1, 0, 0, []), (5, .iaload, 1, 0, 0, []), (6, .aload_n 0, 1, 0, 0, []), (7, .getfield 9, 3, 13, 0, []), (10, .iconst 0, 1, 0, 0, []), (11, .iaload, 1, 0, 0, []), (12, .isub, 1, 0, 0, []), (13, .istore_n 2, 1, 0, 0, []), (14, .iload_n 2, 1, 0, 0, []), (15, .iload_n 1, 1, 0, 0, []), (16, .if_icmp .ge 15, 3, 31, 0, []), (19, .iload_n 2, 1, 0, 0, []), (20, .ifCond .ge 7, 3, 27, 0, []), (23, .iconst 0, 1, 0, 0, []), (24, .goto 8, 3, 32, 0, []), (27, .iload_n 2, 1, 0, 0, []), (28, .goto 4, 3, 32, 0, []), (31, .iload_n 1, 1, 0, 0, []), (32, .ireturn, 1, 0, 0, [])]
/-- ShadowSchoolModel.plans(I)I -/
def jc_259 : List jw_I := [(0, .iconst 1, 1, 0, 0, []), (1, .istore_n 2, 1, 0, 0, []), (2, .iconst 0, 1, 0, 0, []), (3, .istore_n 3, 1, 0, 0, []), (4, .iload_n 3, 1, 0, 0, []), (5, .iload_n 1, 1, 0, 0, []), (6, .if_icmp .ge 20, 3, 26, 0, []), (9, .iload_n 2, 1, 0, 0, []), (10, .aload_n 0, 1, 0, 0, []), (11, .getfield 16, 3, 13, 2, []), (14, .iconst 2, 1, 0, 0, []), (15, .iaload, 1, 0, 0, []), (16, .iconst 1, 1, 0, 0, []), (17, .iadd, 1, 0, 0, []), (18, .imul, 1, 0, 0, []), (19, .istore_n 2, 1, 0, 0, []), (20, .iinc 3 1, 3, 0, 0, []), (23, .goto (-19), 3, 4, 0, []), (26, .iload_n 2, 1, 0, 0, []), (27, .ireturn, 1, 0, 0, [])]
/-- ShadowSchoolModel.actIn(III)I -/
def jc_260 : List jw_I := [(0, .iload_n 1, 1, 0, 0, []), (1, .istore 4, 2, 0, 0, []), (3, .iload_n 2, 1, 0, 0, []), (4, .iconst 1, 1, 0, 0, []), (5, .isub, 1, 0, 0, []), (6, .istore 5, 2, 0, 0, []), (8, .iload 5, 2, 0, 0, []), (10, .iload_n 3, 1, 0, 0, []), (11, .if_icmp .le 22, 3, 33, 0, []), (14, .iload 4, 2, 0, 0, []), (16, .aload_n 0, 1, 0, 0, []), (17, .getfield 16, 3, 13, 2, []), (20, .iconst 2, 1, 0, 0, []), (21, .iaload, 1, 0, 0, []), (22, .iconst 1, 1, 0, 0, []), (23, .iadd, 1, 0, 0, []), (24, .idiv, 1, 0, 0, []), (25, .istore 4, 2, 0, 0, []), (27, .iinc 5 (-1), 3, 0, 0, []), (30, .goto (-22), 3, 8, 0, []), (33, .iload 4, 2, 0, 0, []), (35, .aload_n 0, 1, 0, 0, []), (36, .getfield 16, 3, 13, 2, []), (39, .iconst 2, 1, 0, 0, []), (40, .iaload, 1, 0, 0, []), (41, .iconst 1, 1, 0, 0, []), (42, .iadd, 1, 0, 0, []), (43, .irem, 1, 0, 0, []), (44, .ireturn, 1, 0, 0, [])]
/-- ShadowSchoolModel.plays(II)I -/
def jc_261 : List jw_I := [(0, .iconst 0, 1, 0, 0, []), (1, .istore_n 3, 1, 0, 0, []), (2, .iconst 0, 1, 0, 0, []), (3, .istore 4, 2, 0, 0, []), (5, .iload 4, 2, 0, 0, []), (7, .iload_n 2, 1, 0, 0, []), (8, .if_icmp .ge 24, 3, 32, 0, []), (11, .iload_n 3, 1, 0, 0, []), (12, .aload_n 0, 1, 0, 0, []), (13, .aload_n 0, 1, 0, 0, []), (14, .iload_n 1, 1, 0, 0, []), (15, .iload_n 2, 1, 0, 0, []), (16, .iload 4, 2, 0, 0, []), (18, .invokevirtual 323, 3, 0, 3, [(13, 260)]), (21, .invokevirtual 278, 3, 0, 1, [(13, 234)]), (24, .iadd, 1, 0, 0, []), (25, .istore_n 3, 1, 0, 0, []), (26, .iinc 4 1, 3, 0, 0, []), (29, .goto (-24), 3, 5, 0, []), (32, .iload_n 3, 1, 0, 0, []), (33, .ireturn, 1, 0, 0, [])]
/-- ShadowSchoolModel.findBest(I)V -/
def jc_262 : List jw_I := [(0, .aload_n 0, 1, 0, 0, []), (1, .iconst (-1), 1, 0, 0, []), (2, .putfield 326, 3, 13, 22, [(0, 0)]), (5, .aload_n 0, 1, 0, 0, []), (6, .iconst 0, 1, 0, 0, []), (7, .putfield 329, 3, 13, 23, [(0, 0)]), (10, .aload_n 0, 1, 0, 0, []), (11, .iconst 0, 1, 0, 0, []), (12, .putfield 332, 3, 13, 24, [(0, 0)]), (15, .aload_n 0, 1, 0, 0, []), (16, .iconst 0, 1, 0, 0, []), (17, .invokevirtual 281, 3, 0, 1, [(13, 189)]), (20, .iconst 0, 1, 0, 0, []), (21, .istore_n 2, 1, 0, 0, []), (22, .iload_n 2, 1, 0, 0, []), (23, .aload_n 0, 1, 0, 0, []), (24, .iload_n 1, 1, 0, 0, []), (25, .invokevirtual 335, 3, 0, 1, [(13, 259)]), (28, .if_icmp .ge 66, 3, 94, 0, []), (31, .aload_n 0, 1, 0, 0, []), (32, .iload_n 2, 1, 0, 0, []), (33, .iload_n 1, 1, 0, 0, []), (34, .invokevirtual 338, 3, 0, 2, [(13, 261)]), (37, .istore_n 3, 1, 0, 0, []), (38, .aload_n 0, 1, 0, 0, []), (39, .iconst 0, 1, 0, 0, []), (40, .invokevirtual 287, 3, 0, 1, [(13, 190)]), (43, .iload_n 3, 1, 0, 0, []), (44, .aload_n 0, 1, 0, 0, []), (45, .getfield 326, 3, 13, 22, []), (48, .if_icmp .le 18, 3, 66, 0, []), (51, .aload_n 0, 1, 0, 0, []), (52, .iload_n 3, 1, 0, 0, []), (53, .putfield 326, 3, 13, 22, [(0, 0)]), (56, .aload_n 0, 1, 0, 0, []), (57, .iload_n 2, 1, 0, 0, []), (58, .putfield 329, 3, 13, 23, [(0, 0)]), (61, .aload_n 0, 1, 0, 0, []), (62, .iconst 0, 1, 0, 0, []), (63, .putfield 332, 3, 13, 24, [(0, 0)]), (66, .aload_n 0, 1, 0, 0, []), (67, .dup, 1, 0, 0, []), (68, .getfield 332, 3, 13, 24, []), (71, .iload_n 3, 1, 0, 0, []), (72, .aload_n 0, 1, 0, 0, []), (73, .getfield 326, 3, 13, 22, []), (76, .if_icmp .ne 7, 3, 83, 0, []), (79, .iconst 1, 1, 0, 0, []), (80, .goto 4, 3, 84, 0, []), (83, .iconst 0, 1, 0, 0, []), (84, .iadd, 1, 0, 0, []), (85, .putfield 332, 3, 13, 24, [(0, 0)]), (88, .iinc 2 1, 3, 0, 0, []), (91, .goto (-69), 3, 22, 0, []), (94, .return_, 1, 0, 0, [])]
/-- ShadowSchoolModel.best(I)I -/
def jc_263 : List jw_I := [(0, .iload_n 1, 1, 0, 0, []), (1, .iconst 0, 1, 0, 0, []), (2, .iconst 4, 1, 0, 0, []), (3, .invokestatic 71, 3, 2, 3, [(0, 180)]), (6, .ifCond .ne 5, 3, 11, 0, []), (9, .iconst (-1), 1, 0, 0, []), (10, .ireturn, 1, 0, 0, []), (11, .aload_n 0, 1, 0, 0, []), (12, .aload_n 0, 1, 0, 0, []), (13, .iload_n 1, 1, 0, 0, []), (14, .invokevirtual 341, 3, 0, 1, [(13, 258)]), (17, .invokevirtual 344, 3, 0, 1, [(13, 262)]), (20, .aload_n 0, 1, 0, 0, []), (21, .getfield 326, 3, 13, 22, []), (24, .ireturn, 1, 0, 0, [])]
/-- ShadowSchoolModel.ith(II)I -/
def jc_264 : List jw_I := [(0, .iload_n 1, 1, 0, 0, []), (1, .iconst 0, 1, 0, 0, []), (2, .iconst 4, 1, 0, 0, []), (3, .invokestatic 71, 3, 2, 3, [(0, 180)]), (6, .ifCond .eq 12, 3, 18, 0, []), (9, .iload_n 2, 1, 0, 0, []), (10, .iconst 0, 1, 0, 0, []), (11, .iconst 3, 1, 0, 0, []), (12, .invokestatic 71, 3, 2, 3, [(0, 180)]), (15, .ifCond .ne 5, 3, 20, 0, []), (18, .iconst (-1), 1, 0, 0, []), (19, .ireturn, 1, 0, 0, []), (20, .aload_n 0, 1, 0, 0, []), (21, .iload_n 1, 1, 0, 0, []), (22, .invokevirtual 341, 3, 0, 1, [(13, 258)]), (25, .istore_n 3, 1, 0, 0, []), (26, .iload_n 2, 1, 0, 0, []), (27, .iload_n 3, 1, 0, 0, []), (28, .if_icmp .lt 6, 3, 34, 0, []), (31, .bipush (-3), 2, 0, 0, []), (33, .ireturn, 1, 0, 0, []), (34, .aload_n 0, 1, 0, 0, []), (35, .iload_n 3, 1, 0, 0, []), (36, .invokevirtual 344, 3, 0, 1, [(13, 262)]), (39, .aload_n 0, 1, 0, 0, []), (40, .aload_n 0, 1, 0, 0, []), (41, .getfield 329, 3, 13, 23, []), (44, .iload_n 3, 1, 0, 0, []), (45, .iload_n 2, 1, 0, 0, []), (46, .invokevirtual 323, 3, 0, 3, [(13, 260)]), (49, .ireturn, 1, 0, 0, [])]
/-- ShadowSchoolModel.ways(I)I -/
def jc_265 : List jw_I := [(0, .iload_n 1, 1, 0, 0, []), (1, .iconst 0, 1, 0, 0, []), (2, .iconst 4, 1, 0, 0, []), (3, .invokestatic 71, 3, 2, 3, [(0, 180)]), (6, .ifCond .ne 5, 3, 11, 0, []), (9, .iconst (-1), 1, 0, 0, []), (10, .ireturn, 1, 0, 0, []), (11, .aload_n 0, 1, 0, 0, []), (12, .aload_n 0, 1, 0, 0, []), (13, .iload_n 1, 1, 0, 0, []), (14, .invokevirtual 341, 3, 0, 1, [(13, 258)]), (17, .invokevirtual 344, 3, 0, 1, [(13, 262)]), (20, .aload_n 0, 1, 0, 0, []), (21, .getfield 332, 3, 13, 24, []), (24, .ireturn, 1, 0, 0, [])]
/-- ShadowSchoolModel.someLearnt()I -/
def jc_266 : List jw_I := [(0, .iconst 0, 1, 0, 0, []), (1, .istore_n 1, 1, 0, 0, []), (2, .iconst 0, 1, 0, 0, []), (3, .istore_n 2, 1, 0, 0, []), (4, .iload_n 2, 1, 0, 0, []), (5, .aload_n 0, 1, 0, 0, []), (6, .getfield 16, 3, 13, 2, []), (9, .iconst 2, 1, 0, 0, []), (10, .iaload, 1, 0, 0, []), (11, .if_icmp .ge 20, 3, 31, 0, []), (14, .iload_n 1, 1, 0, 0, []), (15, .aload_n 0, 1, 0, 0, []), (16, .getfield 9, 3, 13, 0, []), (19, .iconst 2, 1, 0, 0, []), (20, .iload_n 2, 1, 0, 0, []), (21, .iadd, 1, 0, 0, []), (22, .iaload, 1, 0, 0, []), (23, .ior, 1, 0, 0, []), (24, .istore_n 1, 1, 0, 0, []), (25, .iinc 2 1, 3, 0, 0, []), (28, .goto (-24), 3, 4, 0, []), (31, .iload_n 1, 1, 0, 0, []), (32, .ireturn, 1, 0, 0, [])]
/-- ShadowSchoolModel.actsOf(II)I -/
def jc_267 : List jw_I := [(0, .iconst 0, 1, 0, 0, []), (1, .istore_n 3, 1, 0, 0, []), (2, .iconst 0, 1, 0, 0, []), (3, .istore 4, 2, 0, 0, []), (5, .iload 4, 2, 0, 0, []), (7, .iload_n 2, 1, 0, 0, []), (8, .if_icmp .ge 28, 3, 36, 0, []), (11, .iload_n 3, 1, 0, 0, []), (12, .aload_n 0, 1, 0, 0, []), (13, .iload_n 1, 1, 0, 0, []), (14, .iload_n 2, 1, 0, 0, []), (15, .iload 4, 2, 0, 0, []), (17, .invokevirtual 323, 3, 0, 3, [(13, 260)]), (20, .ifCond .le 7, 3, 27, 0, []), (23, .iconst 1, 1, 0, 0, []), (24, .goto 4, 3, 28, 0, []), (27, .iconst 0, 1, 0, 0, []), (28, .iadd, 1, 0, 0, []), (29, .istore_n 3, 1, 0, 0, []), (30, .iinc 4 1, 3, 0, 0, []), (33, .goto (-28), 3, 5, 0, []), (36, .iload_n 3, 1, 0, 0, []), (37, .ireturn, 1, 0, 0, [])]
/-- ShadowSchoolModel.findTaught(II)V -/
def jc_268 : List jw_I := [(0, .aload_n 0, 1, 0, 0, []), (1, .bipush (-3), 2, 0, 0, []), (3, .putfield 347, 3, 13, 25, [(0, 0)]), (6, .aload_n 0, 1, 0, 0, []), (7, .iconst 0, 1, 0, 0, []), (8, .putfield 350, 3, 13, 26, [(0, 0)]), (11, .aload_n 0, 1, 0, 0, []), (12, .iconst 0, 1, 0, 0, []), (13, .invokevirtual 281, 3, 0, 1, [(13, 189)]), (16, .iconst 0, 1, 0, 0, []), (17, .istore_n 3, 1, 0, 0, []), (18, .iload_n 3, 1, 0, 0, []), (19, .aload_n 0, 1, 0, 0, []), (20, .iload_n 1, 1, 0, 0, []), (21, .invokevirtual 335, 3, 0, 1, [(13, 259)]), (24, .if_icmp .ge 84, 3, 108, 0, []), (27, .aload_n 0, 1, 0, 0, []), (28, .iload_n 3, 1, 0, 0, []), (29, .iload_n 1, 1, 0, 0, []), (30, .invokevirtual 338, 3, 0, 2, [(13, 261)]), (33, .istore 4, 2, 0, 0, []), (35, .aload_n 0, 1, 0, 0, []), (36, .invokevirtual 353, 3, 0, 0, [(13, 266)]), (39, .istore 5, 2, 0, 0, []), (41, .aload_n 0, 1, 0, 0, []), (42, .iconst 0, 1, 0, 0, []), (43, .invokevirtual 287, 3, 0, 1, [(13, 190)]), (46, .aload_n 0, 1, 0, 0, []), (47, .dup, 1, 0, 0, []), (48, .getfield 350, 3, 13, 26, []), (51, .iload 5, 2, 0, 0, []), (53, .ior, 1, 0, 0, []), (54, .putfield 350, 3, 13, 26, [(0, 0)]), (57, .aload_n 0, 1, 0, 0, []), (58, .iload_n 3, 1, 0, 0, []), (59, .iload_n 1, 1, 0, 0, []), (60, .invokevirtual 356, 3, 0, 2, [(13, 267)]), (63, .istore 6, 2, 0, 0, []), (65, .aload_n 0, 1, 0, 0, []), (66, .iload 5, 2, 0, 0, []), (68, .iload_n 2, 1, 0, 0, []), (69, .iand, 1, 0, 0, []), (70, .iload_n 2, 1, 0, 0, []), (71, .if_icmp .ne 24, 3, 95, 0, []), (74, .aload_n 0, 1, 0, 0, []), (75, .getfield 347, 3, 13, 25, []), (78, .ifCond .lt 12, 3, 90, 0, []), (81, .iload 6, 2, 0, 0, []), (83, .aload_n 0, 1, 0, 0, []), (84, .getfield 347, 3, 13, 25, []), (87, .if_icmp .ge 8, 3, 95, 0, []), (90, .iload 6, 2, 0, 0, []), (92, .goto 7, 3, 99, 0, []), (95, .aload_n 0, 1, 0, 0, []), (96, .getfield 347, 3, 13, 25, []), (99, .putfield 347, 3, 13, 25, [(0, 0)]), (102, .iinc 3 1, 3, 0, 0, []), (105, .goto (-87), 3, 18, 0, []), (108, .return_, 1, 0, 0, [])]
/-- ShadowSchoolModel.taught(II)I -/
def jc_269 : List jw_I := [(0, .iload_n 1, 1, 0, 0, []), (1, .iconst 0, 1, 0, 0, []), (2, .iconst 4, 1, 0, 0, []), (3, .invokestatic 71, 3, 2, 3, [(0, 180)]), (6, .ifCond .eq 15, 3, 21, 0, []), (9, .iload_n 2, 1, 0, 0, []), (10, .iconst 0, 1, 0, 0, []), (11, .aload_n 0, 1, 0, 0, []), (12, .invokevirtual 293, 3, 0, 0, [(13, 241)]), (15, .invokestatic 71, 3, 2, 3, [(0, 180)]), (18, .ifCond .ne 5, 3, 23, 0, []), (21, .iconst (-1), 1, 0, 0, []), (22, .ireturn, 1, 0, 0, []), (23, .aload_n 0, 1, 0, 0, []), (24, .aload_n 0, 1, 0, 0, []), (25, .iload_n 1, 1, 0, 0, []), (26, .invokevirtual 341, 3, 0, 1, [(13, 258)]), (29, .iload_n 2, 1, 0, 0, []), (30, .invokevirtual 359, 3, 0, 2, [(13, 268)]), (33, .aload_n 0, 1, 0, 0, []), (34, .getfield 347, 3, 13, 25, []), (37, .ireturn, 1, 0, 0, [])]
/-- ShadowSchoolModel.bars(II)I -/
def jc_270 : List jw_I := [(0, .iload_n 1, 1, 0, 0, []), (1, .iconst 0, 1, 0, 0, []), (2, .iconst 4, 1, 0, 0, []), (3, .invokestatic 71, 3, 2, 3, [(0, 180)]), (6, .ifCond .eq 15, 3, 21, 0, []), (9, .iload_n 2, 1, 0, 0, []), (10, .iconst 0, 1, 0, 0, []), (11, .aload_n 0, 1, 0, 0, []), (12, .invokevirtual 293, 3, 0, 0, [(13, 241)]), (15, .invokestatic 71, 3, 2, 3, [(0, 180)]), (18, .ifCond .ne 5, 3, 23, 0, []), (21, .iconst (-1), 1, 0, 0, []), (22, .ireturn, 1, 0, 0, []), (23, .aload_n 0, 1, 0, 0, []), (24, .aload_n 0, 1, 0, 0, []), (25, .iload_n 1, 1, 0, 0, []), (26, .invokevirtual 341, 3, 0, 1, [(13, 258)]), (29, .iload_n 2, 1, 0, 0, []), (30, .invokevirtual 359, 3, 0, 2, [(13, 268)]), (33, .iload_n 2, 1, 0, 0, []), (34, .aload_n 0, 1, 0, 0, []), (35, .getfield 350, 3, 13, 26, []), (38, .iconst (-1), 1, 0, 0, []), (39, .ixor, 1, 0, 0, []), (40, .iand, 1, 0, 0, []), (41, .istore_n 3, 1, 0, 0, []), (42, .iconst 0, 1, 0, 0, []), (43, .istore 4, 2, 0, 0, []), (45, .iload 4, 2, 0, 0, []), (47, .bipush 8, 2, 0, 0, []), (49, .if_icmp .ge 18, 3, 67, 0, []), (52, .iload_n 3, 1, 0, 0, []), (53, .iload 4, 2, 0, 0, []), (55, .ishr, 1, 0, 0, []), (56, .iconst 1, 1, 0, 0, []), (57, .iand, 1, 0, 0, []), (58, .ifCond .ne 9, 3, 67, 0, []), (61, .iinc 4 1, 3, 0, 0, []), (64, .goto (-19), 3, 45, 0, []), (67, .iload 4, 2, 0, 0, []), (69, .bipush 8, 2, 0, 0, []), (71, .if_icmp .ge 8, 3, 79, 0, []), (74, .iload 4, 2, 0, 0, []), (76, .goto 5, 3, 81, 0, []), (79, .bipush (-3), 2, 0, 0, []), (81, .ireturn, 1, 0, 0, [])]
/-- ShadowSchoolModel.valueOf(IIZ)I -/
def jc_271 : List jw_I := [(0, .iload_n 2, 1, 0, 0, []), (1, .ifCond .ne 5, 3, 6, 0, []), (4, .iconst 0, 1, 0, 0, []), (5, .ireturn, 1, 0, 0, []), (6, .aload_n 0, 1, 0, 0, []), (7, .iload_n 1, 1, 0, 0, []), (8, .invokevirtual 281, 3, 0, 1, [(13, 189)]), (11, .iconst (-1), 1, 0, 0, []), (12, .istore 4, 2, 0, 0, []), (14, .iconst 0, 1, 0, 0, []), (15, .istore 5, 2, 0, 0, []), (17, .iconst 0, 1, 0, 0, []), (18, .istore 6, 2, 0, 0, []), (20, .iload 6, 2, 0, 0, []), (22, .aload_n 0, 1, 0, 0, []), (23, .getfield 16, 3, 13, 2, []), (26, .iconst 2, 1, 0, 0, []), (27, .iaload, 1, 0, 0, []), (28, .if_icmp .gt 103, 3, 131, 0, []), (31, .aload_n 0, 1, 0, 0, []), (32, .iload 6, 2, 0, 0, []), (34, .invokevirtual 278, 3, 0, 1, [(13, 234)]), (37, .aload_n 0, 1, 0, 0, []), (38, .iload_n 1, 1, 0, 0, []), (39, .iconst 1, 1, 0, 0, []), (40, .iadd, 1, 0, 0, []), (41, .iload_n 2, 1, 0, 0, []), (42, .iconst 1, 1, 0, 0, []), (43, .isub, 1, 0, 0, []), (44, .iload_n 3, 1, 0, 0, []), (45, .ifCond .ne 7, 3, 52, 0, []), (48, .iconst 1, 1, 0, 0, []), (49, .goto 4, 3, 53, 0, []), (52, .iconst 0, 1, 0, 0, []), (53, .invokevirtual 362, 3, 0, 3, [(13, 271)]), (56, .iadd, 1, 0, 0, []), (57, .istore 7, 2, 0, 0, []), (59, .aload_n 0, 1, 0, 0, []), (60, .iload_n 1, 1, 0, 0, []), (61, .invokevirtual 287, 3, 0, 1, [(13, 190)]), (64, .iload 4, 2, 0, 0, []), (66, .ifCond .lt 24, 3, 90, 0, []), (69, .iload_n 3, 1, 0, 0, []), (70, .ifCond .eq 13, 3, 83, 0, []), (73, .iload 7, 2, 0, 0, []), (75, .iload 5, 2, 0, 0, []), (77, .if_icmp .le 17, 3, 94, 0, []), (80, .goto 10, 3, 90, 0, []), (83, .iload 7, 2, 0, 0, []), (85, .iload 5, 2, 0, 0, []), (87, .if_icmp .ge 7, 3, 94, 0, []), (90, .iconst 1, 1, 0, 0, []), (91, .goto 4, 3, 95, 0, []), (94, .iconst 0, 1, 0, 0, []), (95, .istore 8, 2, 0, 0, []), (97, .iload 8, 2, 0, 0, []), (99, .ifCond .eq 8, 3, 107, 0, []), (102, .iload 6, 2, 0, 0, []), (104, .goto 5, 3, 109, 0, []), (107, .iload 4, 2, 0, 0, []), (109, .istore 4, 2, 0, 0, []), (111, .iload 8, 2, 0, 0, []), (113, .ifCond .eq 8, 3, 121, 0, []), (116, .iload 7, 2, 0, 0, []), (118, .goto 5, 3, 123, 0, []), (121, .iload 5, 2, 0, 0, []), (123, .istore 5, 2, 0, 0, []), (125, .iinc 6 1, 3, 0, 0, []), (128, .goto (-108), 3, 20, 0, []), (131, .aload_n 0, 1, 0, 0, []), (132, .iload 4, 2, 0, 0, []), (134, .putfield 366, 3, 13, 27, [(0, 0)]), (137, .iload 5, 2, 0, 0, []), (139, .ireturn, 1, 0, 0, [])]
/-- ShadowSchoolModel.game(I)I -/
def jc_272 : List jw_I := [(0, .iload_n 1, 1, 0, 0, []), (1, .iconst 1, 1, 0, 0, []), (2, .iconst 4, 1, 0, 0, []), (3, .invokestatic 71, 3, 2, 3, [(0, 180)]), (6, .ifCond .eq 17, 3, 23, 0, []), (9, .aload_n 0, 1, 0, 0, []), (10, .iconst 0, 1, 0, 0, []), (11, .aload_n 0, 1, 0, 0, []), (12, .iload_n 1, 1, 0, 0, []), (13, .invokevirtual 341, 3, 0, 1, [(13, 258)]), (16, .iconst 1, 1, 0, 0, []), (17, .invokevirtual 362, 3, 0, 3, [(13, 271)]), (20, .goto 4, 3, 24, 0, []), (23, .iconst (-1), 1, 0, 0, []), (24, .ireturn, 1, 0, 0, [])]
/-- ShadowSchoolModel.play(I)I -/
def jc_273 : List jw_I := [(0, .iload_n 1, 1, 0, 0, []), (1, .iconst 1, 1, 0, 0, []), (2, .iconst 4, 1, 0, 0, []), (3, .invokestatic 71, 3, 2, 3, [(0, 180)]), (6, .ifCond .ne 5, 3, 11, 0, []), (9, .iconst (-1), 1, 0, 0, []), (10, .ireturn, 1, 0, 0, []), (11, .aload_n 0, 1, 0, 0, []), (12, .invokevirtual 122, 3, 0, 0, [(13, 186)]), (15, .ifCond .eq 6, 3, 21, 0, []), (18, .bipush (-3), 2, 0, 0, []), (20, .ireturn, 1, 0, 0, []), (21, .aload_n 0, 1, 0, 0, []), (22, .iconst 0, 1, 0, 0, []), (23, .aload_n 0, 1, 0, 0, []), (24, .iload_n 1, 1, 0, 0, []), (25, .invokevirtual 341, 3, 0, 1, [(13, 258)]), (28, .iconst 1, 1, 0, 0, []), (29, .invokevirtual 362, 3, 0, 3, [(13, 271)]), (32, .istore_n 2, 1, 0, 0, []), (33, .aload_n 0, 1, 0, 0, []), (34, .getfield 366, 3, 13, 27, []), (37, .ireturn, 1, 0, 0, [])]
/-- ShadowSchoolModel.report(IIII)I -/
def jc_274 : List jw_I := [(0, .iload_n 1, 1, 0, 0, []), (1, .iconst 1, 1, 0, 0, []), (2, .iconst 5, 1, 0, 0, []), (3, .invokestatic 71, 3, 2, 3, [(0, 180)]), (6, .ifCond .eq 36, 3, 42, 0, []), (9, .iload_n 2, 1, 0, 0, []), (10, .iconst 1, 1, 0, 0, []), (11, .bipush 9, 2, 0, 0, []), (13, .invokestatic 71, 3, 2, 3, [(0, 180)]), (16, .ifCond .eq 26, 3, 42, 0, []), (19, .iload_n 3, 1, 0, 0, []), (20, .iconst 0, 1, 0, 0, []), (21, .sipush 999, 3, 0, 0, []), (24, .invokestatic 71, 3, 2, 3, [(0, 180)]), (27, .ifCond .eq 15, 3, 42, 0, []), (30, .iload 4, 2, 0, 0, []), (32, .iload_n 3, 1, 0, 0, []), (33, .sipush 999, 3, 0, 0, []), (36, .invokestatic 71, 3, 2, 3, [(0, 180)]), (39, .ifCond .ne 5, 3, 44, 0, []), (42, .iconst (-1), 1, 0, 0, []), (43, .ireturn, 1, 0, 0, []), (44, .aload_n 0, 1, 0, 0, []), (45, .getfield 16, 3, 13, 2, []), (48, .iconst 5, 1, 0, 0, []), (49, .iaload, 1, 0, 0, []), (50, .bipush 6, 2, 0, 0, []), (52, .if_icmp .ne 6, 3, 58, 0, []), (55, .bipush (-2), 2, 0, 0, []), (57, .ireturn, 1, 0, 0, []), (58, .bipush 70, 2, 0, 0, []), (60, .iconst 4, 1, 0, 0, []), (61, .aload_n 0, 1, 0, 0, []), (62, .getfield 16, 3, 13, 2, []), (65, .iconst 5, 1, 0, 0, []), (66, .iaload, 1, 0, 0, []), (67, .imul, 1, 0, 0, []), (68, .iadd, 1, 0, 0, []), (69, .istore 5, 2, 0, 0, []), (71, .aload_n 0, 1, 0, 0, []), (72, .getfield 16, 3, 13, 2, []), (75, .iload 5, 2, 0, 0, []), (77, .iload_n 1, 1, 0, 0, []), (78, .iastore, 1, 0, 0, []), (79, .aload_n 0, 1, 0, 0, []), (80, .getfield 16, 3, 13, 2, []), (83, .iload 5, 2, 0, 0, []), (85, .iconst 1, 1, 0, 0, []), (86, .iadd, 1, 0, 0, []), (87, .iload_n 2, 1, 0, 0, []), (88, .iastore, 1, 0, 0, []), (89, .aload_n 0, 1, 0, 0, []), (90, .getfield 16, 3, 13, 2, []), (93, .iload 5, 2, 0, 0, []), (95, .iconst 2, 1, 0, 0, []), (96, .iadd, 1, 0, 0, []), (97, .iload_n 3, 1, 0, 0, []), (98, .iastore, 1, 0, 0, []), (99, .aload_n 0, 1, 0, 0, []), (100, .getfield 16, 3, 13, 2, []), (103, .iload 5, 2, 0, 0, []), (105, .iconst 3, 1, 0, 0, []), (106, .iadd, 1, 0, 0, []), (107, .iload 4, 2, 0, 0, []), (109, .iastore, 1, 0, 0, []), (110, .aload_n 0, 1, 0, 0, []), (111, .getfield 16, 3, 13, 2, []), (114, .iconst 5, 1, 0, 0, []), (115, .dup2, 1, 0, 0, []), (116, .iaload, 1, 0, 0, []), (117, .iconst 1, 1, 0, 0, []), (118, .iadd, 1, 0, 0, []), (119, .iastore, 1, 0, 0, []), (120, .aload_n 0, 1, 0, 0, []), (121, .getfield 16, 3, 13, 2, []), (124, .iconst 5, 1, 0, 0, []), (125, .iaload, 1, 0, 0, []), (126, .iconst 1, 1, 0, 0, []), (127, .isub, 1, 0, 0, []), (128, .ireturn, 1, 0, 0, [])]
/-- ShadowSchoolModel.forget()I -/
def jc_275 : List jw_I := [(0, .aload_n 0, 1, 0, 0, []), (1, .iconst 5, 1, 0, 0, []), (2, .iconst 0, 1, 0, 0, []), (3, .invokevirtual 103, 3, 0, 2, [(13, 197)]), (6, .ireturn, 1, 0, 0, [])]
/-- ShadowSchoolModel.fits(II)Z -/
def jc_276 : List jw_I := [(0, .iconst 1, 1, 0, 0, []), (1, .istore_n 3, 1, 0, 0, []), (2, .iconst 0, 1, 0, 0, []), (3, .istore 4, 2, 0, 0, []), (5, .iload 4, 2, 0, 0, []), (7, .aload_n 0, 1, 0, 0, []), (8, .getfield 16, 3, 13, 2, []), (11, .iconst 5, 1, 0, 0, []), (12, .iaload, 1, 0, 0, []), (13, .if_icmp .ge 90, 3, 103, 0, []), (16, .bipush 70, 2, 0, 0, []), (18, .iconst 4, 1, 0, 0, []), (19, .iload 4, 2, 0, 0, []), (21, .imul, 1, 0, 0, []), (22, .iadd, 1, 0, 0, []), (23, .istore 5, 2, 0, 0, []), (25, .aload_n 0, 1, 0, 0, []), (26, .getfield 16, 3, 13, 2, []), (29, .iload 5, 2, 0, 0, []), (31, .iaload, 1, 0, 0, []), (32, .aload_n 0, 1, 0, 0, []), (33, .getfield 16, 3, 13, 2, []), (36, .iload 5, 2, 0, 0, []), (38, .iconst 1, 1, 0, 0, []), (39, .iadd, 1, 0, 0, []), (40, .iaload, 1, 0, 0, []), (41, .iload_n 1, 1, 0, 0, []), (42, .iconst 5, 1, 0, 0, []), (43, .idiv, 1, 0, 0, []), (44, .invokestatic 100, 3, 2, 3, [(0, 193)]), (47, .iload_n 1, 1, 0, 0, []), (48, .iconst 5, 1, 0, 0, []), (49, .irem, 1, 0, 0, []), (50, .iconst 1, 1, 0, 0, []), (51, .iadd, 1, 0, 0, []), (52, .imul, 1, 0, 0, []), (53, .istore 6, 2, 0, 0, []), (55, .iload_n 3, 1, 0, 0, []), (56, .ifCond .eq 39, 3, 95, 0, []), (59, .iload 4, 2, 0, 0, []), (61, .iload_n 2, 1, 0, 0, []), (62, .if_icmp .eq 29, 3, 91, 0, []), (65, .iload 6, 2, 0, 0, []), (67, .aload_n 0, 1, 0, 0, []), (68, .getfield 16, 3, 13, 2, []), (71, .iload 5, 2, 0, 0, []), (73, .iconst 2, 1, 0, 0, []), (74, .iadd, 1, 0, 0, []), (75, .iaload, 1, 0, 0, []), (76, .aload_n 0, 1, 0, 0, []), (77, .getfield 16, 3, 13, 2, []), (80, .iload 5, 2, 0, 0, []), (82, .iconst 3, 1, 0, 0, []), (83, .iadd, 1, 0, 0, []), (84, .iaload, 1, 0, 0, []), (85, .invokestatic 71, 3, 2, 3, [(0, 180)]), (88, .ifCond .eq 7, 3, 95, 0, []), (91, .iconst 1, 1, 0, 0, []), (92, .goto 4, 3, 96, 0, []), (95, .iconst 0, 1, 0, 0, []), (96, .istore_n 3, 1, 0, 0, []), (97, .iinc 4 1, 3, 0, 0, []), (100, .goto (-95), 3, 5, 0, []), (103, .iload_n 3, 1, 0, 0, []), (104, .ireturn, 1, 0, 0, [])]
/-- ShadowSchoolModel.firstMoment(I)I -/
def jc_277 : List jw_I := [(0, .iconst 0, 1, 0, 0, []), (1, .istore_n 2, 1, 0, 0, []), (2, .iload_n 2, 1, 0, 0, []), (3, .bipush 80, 2, 0, 0, []), (5, .if_icmp .ge 20, 3, 25, 0, []), (8, .aload_n 0, 1, 0, 0, []), (9, .iload_n 2, 1, 0, 0, []), (10, .iload_n 1, 1, 0, 0, []), (11, .invokevirtual 369, 3, 0, 2, [(13, 276)]), (14, .ifCond .eq 5, 3, 19, 0, []), (17, .iload_n 2, 1, 0, 0, []), (18, .ireturn, 1, 0, 0, []), (19, .iinc 2 1, 3, 0, 0, []), (22, .goto (-20), 3, 2, 0, []), (25, .iconst (-1), 1, 0, 0, []), (26, .ireturn, 1, 0, 0, [])]
/-- ShadowSchoolModel.span(I)I -/
def jc_278 : List jw_I := [(0, .iload_n 1, 1, 0, 0, []), (1, .iconst 0, 1, 0, 0, []), (2, .iconst 2, 1, 0, 0, []), (3, .invokestatic 71, 3, 2, 3, [(0, 180)]), (6, .ifCond .ne 5, 3, 11, 0, []), (9, .iconst (-1), 1, 0, 0, []), (10, .ireturn, 1, 0, 0, []), (11, .iload_n 1, 1, 0, 0, []), (12, .ifCond .ne 38, 3, 50, 0, []), (15, .iconst 0, 1, 0, 0, []), (16, .istore_n 2, 1, 0, 0, []), (17, .iconst 0, 1, 0, 0, []), (18, .istore_n 3, 1, 0, 0, []), (19, .iload_n 3, 1, 0, 0, []), (20, .bipush 80, 2, 0, 0, []), (22, .if_icmp .ge 26, 3, 48, 0, []), (25, .iload_n 2, 1, 0, 0, []), (26, .aload_n 0, 1, 0, 0, []), (27, .iload_n 3, 1, 0, 0, []), (28, .iconst (-1), 1, 0, 0, []), (29, .invokevirtual 369, 3, 0, 2, [(13, 276)]), (32, .ifCond .eq 7, 3, 39, 0, []), (35, .iconst 1, 1, 0, 0, []), (36, .goto 4, 3, 40, 0, []), (39, .iconst 0, 1, 0, 0, []), (40, .iadd, 1, 0, 0, []), (41, .istore_n 2, 1, 0, 0, []), (42, .iinc 3 1, 3, 0, 0, []), (45, .goto (-26), 3, 19, 0, []), (48, .iload_n 2, 1, 0, 0, []), (49, .ireturn, 1, 0, 0, []), (50, .aload_n 0, 1, 0, 0, []), (51, .iconst (-1), 1, 0, 0, []), (52, .invokevirtual 372, 3, 0, 1, [(13, 277)]), (55, .istore_n 2, 1, 0, 0, []), (56, .iload_n 2, 1, 0, 0, []), (57, .ifCond .ge 8, 3, 65, 0, []), (60, .bipush (-3), 2, 0, 0, []), (62, .goto 19, 3, 81, 0, []), (65, .iload_n 1, 1, 0, 0, []), (66, .iconst 1, 1, 0, 0, []), (67, .if_icmp .ne 9, 3, 76, 0, []), (70, .iload_n 2, 1, 0, 0, []), (71, .iconst 5, 1, 0, 0, []), (72, .idiv, 1, 0, 0, []), (73, .goto 8, 3, 81, 0, []), (76, .iload_n 2, 1, 0, 0, []), (77, .iconst 5, 1, 0, 0, []), (78, .irem, 1, 0, 0, []), (79, .iconst 1, 1, 0, 0, []), (80, .iadd, 1, 0, 0, []), (81, .ireturn, 1, 0, 0, [])]
/-- ShadowSchoolModel.liar()I -/
def jc_279 : List jw_I := [(0, .aload_n 0, 1, 0, 0, []), (1, .iconst (-1), 1, 0, 0, []), (2, .invokevirtual 372, 3, 0, 1, [(13, 277)]), (5, .ifCond .lt 6, 3, 11, 0, []), (8, .bipush (-3), 2, 0, 0, []), (10, .ireturn, 1, 0, 0, []), (11, .iconst 0, 1, 0, 0, []), (12, .istore_n 1, 1, 0, 0, []), (13, .iload_n 1, 1, 0, 0, []), (14, .aload_n 0, 1, 0, 0, []), (15, .getfield 16, 3, 13, 2, []), (18, .iconst 5, 1, 0, 0, []), (19, .iaload, 1, 0, 0, []), (20, .if_icmp .ge 19, 3, 39, 0, []), (23, .aload_n 0, 1, 0, 0, []), (24, .iload_n 1, 1, 0, 0, []), (25, .invokevirtual 372, 3, 0, 1, [(13, 277)]), (28, .ifCond .lt 5, 3, 33, 0, []), (31, .iload_n 1, 1, 0, 0, []), (32, .ireturn, 1, 0, 0, []), (33, .iinc 1 1, 3, 0, 0, []), (36, .goto (-23), 3, 13, 0, []), (39, .bipush (-3), 2, 0, 0, []), (41, .ireturn, 1, 0, 0, [])]
/-- ShadowSchoolModel.seed(I)I -/
def jc_280 : List jw_I := [(0, .aload_n 0, 1, 0, 0, []), (1, .iconst 1, 1, 0, 0, []), (2, .iload_n 1, 1, 0, 0, []), (3, .invokevirtual 103, 3, 0, 2, [(13, 197)]), (6, .ireturn, 1, 0, 0, [])]
/-- ShadowSchoolModel.lotGoes()I -/
def jc_281 : List jw_I := [(0, .aload_n 0, 1, 0, 0, []), (1, .getfield 16, 3, 13, 2, []), (4, .iconst 1, 1, 0, 0, []), (5, .aload_n 0, 1, 0, 0, []), (6, .getfield 16, 3, 13, 2, []), (9, .iconst 1, 1, 0, 0, []), (10, .iaload, 1, 0, 0, []), (11, .ldc_w 375, 3, 0, 0, [(1103515245, 0)]), (14, .imul, 1, 0, 0, []), (15, .sipush 12345, 3, 0, 0, []), (18, .iadd, 1, 0, 0, []), (19, .iastore, 1, 0, 0, []), (20, .aload_n 0, 1, 0, 0, []), (21, .aload_n 0, 1, 0, 0, []), (22, .getfield 16, 3, 13, 2, []), (25, .iconst 1, 1, 0, 0, []), (26, .iaload, 1, 0, 0, []), (27, .bipush 16, 2, 0, 0, []), (29, .iushr, 1, 0, 0, []), (30, .aload_n 0, 1, 0, 0, []), (31, .getfield 16, 3, 13, 2, []), (34, .iconst 2, 1, 0, 0, []), (35, .iaload, 1, 0, 0, []), (36, .iconst 1, 1, 0, 0, []), (37, .iadd, 1, 0, 0, []), (38, .irem, 1, 0, 0, []), (39, .invokevirtual 278, 3, 0, 1, [(13, 234)]), (42, .ireturn, 1, 0, 0, [])]
/-- ShadowSchoolModel.lot()I -/
def jc_282 : List jw_I := [(0, .aload_n 0, 1, 0, 0, []), (1, .invokevirtual 122, 3, 0, 0, [(13, 186)]), (4, .ifCond .eq 8, 3, 12, 0, []), (7, .bipush (-4), 2, 0, 0, []), (9, .goto 7, 3, 16, 0, []), (12, .aload_n 0, 1, 0, 0, []), (13, .invokevirtual 376, 3, 0, 0, [(13, 281)]), (16, .ireturn, 1, 0, 0, [])]
/-- ShadowSchoolModel.often(II)I -/
def jc_283 : List jw_I := [(0, .iload_n 1, 1, 0, 0, []), (1, .iconst 1, 1, 0, 0, []), (2, .bipush 40, 2, 0, 0, []), (4, .invokestatic 71, 3, 2, 3, [(0, 180)]), (7, .ifCond .eq 14, 3, 21, 0, []), (10, .iload_n 2, 1, 0, 0, []), (11, .iconst 0, 1, 0, 0, []), (12, .sipush 999, 3, 0, 0, []), (15, .invokestatic 71, 3, 2, 3, [(0, 180)]), (18, .ifCond .ne 5, 3, 23, 0, []), (21, .iconst (-1), 1, 0, 0, []), (22, .ireturn, 1, 0, 0, []), (23, .aload_n 0, 1, 0, 0, []), (24, .getfield 16, 3, 13, 2, []), (27, .iconst 1, 1, 0, 0, []), (28, .iaload, 1, 0, 0, []), (29, .istore_n 3, 1, 0, 0, []), (30, .iconst 0, 1, 0, 0, []), (31, .istore 4, 2, 0, 0, []), (33, .aload_n 0, 1, 0, 0, []), (34, .iconst 0, 1, 0, 0, []), (35, .invokevirtual 281, 3, 0, 1, [(13, 189)]), (38, .iconst 0, 1, 0, 0, []), (39, .istore 5, 2, 0, 0, []), (41, .iload 5, 2, 0, 0, []), (43, .iload_n 1, 1, 0, 0, []), (44, .if_icmp .ge 52, 3, 96, 0, []), (47, .iconst 0, 1, 0, 0, []), (48, .istore 6, 2, 0, 0, []), (50, .aload_n 0, 1, 0, 0, []), (51, .invokevirtual 122, 3, 0, 0, [(13, 186)]), (54, .ifCond .ne 15, 3, 69, 0, []), (57, .iload 6, 2, 0, 0, []), (59, .aload_n 0, 1, 0, 0, []), (60, .invokevirtual 376, 3, 0, 0, [(13, 281)]), (63, .iadd, 1, 0, 0, []), (64, .istore 6, 2, 0, 0, []), (66, .goto (-16), 3, 50, 0, []), (69, .aload_n 0, 1, 0, 0, []), (70, .iconst 0, 1, 0, 0, []), (71, .invokevirtual 287, 3, 0, 1, [(13, 190)]), (74, .iload 4, 2, 0, 0, []), (76, .iload 6, 2, 0, 0, []), (78, .iload_n 2, 1, 0, 0, []), (79, .if_icmp .lt 7, 3, 86, 0, []), (82, .iconst 1, 1, 0, 0, []), (83, .goto 4, 3, 87, 0, []), (86, .iconst 0, 1, 0, 0, []), (87, .iadd, 1, 0, 0, []), (88, .istore 4, 2, 0, 0, []), (90, .iinc 5 1, 3, 0, 0, []), (93, .goto (-52), 3, 41, 0, []), (96, .aload_n 0, 1, 0, 0, []), (97, .getfield 16, 3, 13, 2, []), (100, .iconst 1, 1, 0, 0, []), (101, .iload_n 3, 1, 0, 0, []), (102, .iastore, 1, 0, 0, []), (103, .iload 4, 2, 0, 0, []), (105, .ireturn, 1, 0, 0, [])]
/-- ShadowSchoolModel.prove(I)I -/
def jc_284 : List jw_I := [(0, .iload_n 1, 1, 0, 0, []), (1, .iconst 0, 1, 0, 0, []), (2, .iconst 4, 1, 0, 0, []), (3, .invokestatic 71, 3, 2, 3, [(0, 180)]), (6, .ifCond .ne 5, 3, 11, 0, []), (9, .iconst (-1), 1, 0, 0, []), (10, .ireturn, 1, 0, 0, []), (11, .aload_n 0, 1, 0, 0, []), (12, .iload_n 1, 1, 0, 0, []), (13, .invokevirtual 341, 3, 0, 1, [(13, 258)]), (16, .istore_n 2, 1, 0, 0, []), (17, .aload_n 0, 1, 0, 0, []), (18, .iload_n 2, 1, 0, 0, []), (19, .invokevirtual 344, 3, 0, 1, [(13, 262)]), (22, .iconst 0, 1, 0, 0, []), (23, .istore_n 3, 1, 0, 0, []), (24, .iload_n 3, 1, 0, 0, []), (25, .iload_n 2, 1, 0, 0, []), (26, .if_icmp .ge 63, 3, 89, 0, []), (29, .aload_n 0, 1, 0, 0, []), (30, .getfield 46, 3, 13, 28, []), (33, .iconst 3, 1, 0, 0, []), (34, .iload_n 3, 1, 0, 0, []), (35, .imul, 1, 0, 0, []), (36, .aload_n 0, 1, 0, 0, []), (37, .aload_n 0, 1, 0, 0, []), (38, .getfield 329, 3, 13, 23, []), (41, .iload_n 2, 1, 0, 0, []), (42, .iload_n 3, 1, 0, 0, []), (43, .invokevirtual 323, 3, 0, 3, [(13, 260)]), (46, .iastore, 1, 0, 0, []), (47, .aload_n 0, 1, 0, 0, []), (48, .getfield 46, 3, 13, 28, []), (51, .iconst 3, 1, 0, 0, []), (52, .iload_n 3, 1, 0, 0, []), (53, .imul, 1, 0, 0, []), (54, .iconst 1, 1, 0, 0, []), (55, .iadd, 1, 0, 0, []), (56, .aload_n 0, 1, 0, 0, []), (57, .aload_n 0, 1, 0, 0, []), (58, .getfield 46, 3, 13, 28, []), (61, .iconst 3, 1, 0, 0, []), (62, .iload_n 3, 1, 0, 0, []), (63, .imul, 1, 0, 0, []), (64, .iaload, 1, 0, 0, []), (65, .invokevirtual 278, 3, 0, 1, [(13, 234)]), (68, .iastore, 1, 0, 0, []), (69, .aload_n 0, 1, 0, 0, []), (70, .getfield 46, 3, 13, 28, []), (73, .iconst 3, 1, 0, 0, []), (74, .iload_n 3, 1, 0, 0, []), (75, .imul, 1, 0, 0, []), (76, .iconst 2, 1, 0, 0, []), (77, .iadd, 1, 0, 0, []), (78, .aload_n 0, 1, 0, 0, []), (79, .invokevirtual 353, 3, 0, 0, [(13, 266)]), (82, .iastore, 1, 0, 0, []), (83, .iinc 3 1, 3, 0, 0, []), (86, .goto (-62), 3, 24, 0, []), (89, .aload_n 0, 1, 0, 0, []), (90, .iconst 0, 1, 0, 0, []), (91, .invokevirtual 287, 3, 0, 1, [(13, 190)]), (94, .aload_n 0, 1, 0, 0, []), (95, .iload_n 2, 1, 0, 0, []), (96, .putfield 379, 3, 13, 29, [(0, 0)]), (99, .iload_n 2, 1, 0, 0, []), (100, .ireturn, 1, 0, 0, [])]
/-- ShadowSchoolModel.isCell(II)Z -/
def jc_285 : List jw_I := [(0, .iload_n 1, 1, 0, 0, []), (1, .iconst 0, 1, 0, 0, []), (2, .aload_n 0, 1, 0, 0, []), (3, .getfield 379, 3, 13, 29, []), (6, .iconst 1, 1, 0, 0, []), (7, .isub, 1, 0, 0, []), (8, .invokestatic 71, 3, 2, 3, [(0, 180)]), (11, .ifCond .eq 16, 3, 27, 0, []), (14, .iload_n 2, 1, 0, 0, []), (15, .iconst 0, 1, 0, 0, []), (16, .iconst 2, 1, 0, 0, []), (17, .invokestatic 71, 3, 2, 3, [(0, 180)]), (20, .ifCond .eq 7, 3, 27, 0, []), (23, .iconst 1, 1, 0, 0, []), (24, .goto 4, 3, 28, 0, []), (27, .iconst 0, 1, 0, 0, []), (28, .ireturn, 1, 0, 0, [])]
/-- ShadowSchoolModel.row(II)I -/
def jc_286 : List jw_I := [(0, .aload_n 0, 1, 0, 0, []), (1, .iload_n 1, 1, 0, 0, []), (2, .iload_n 2, 1, 0, 0, []), (3, .invokevirtual 382, 3, 0, 2, [(13, 285)]), (6, .ifCond .eq 16, 3, 22, 0, []), (9, .aload_n 0, 1, 0, 0, []), (10, .getfield 46, 3, 13, 28, []), (13, .iconst 3, 1, 0, 0, []), (14, .iload_n 1, 1, 0, 0, []), (15, .imul, 1, 0, 0, []), (16, .iload_n 2, 1, 0, 0, []), (17, .iadd, 1, 0, 0, []), (18, .iaload, 1, 0, 0, []), (19, .goto 5, 3, 24, 0, []), (22, .bipush (-9), 2, 0, 0, []), (24, .ireturn, 1, 0, 0, [])]
/-- ShadowSchoolModel.alterRow(III)I -/
def jc_287 : List jw_I := [(0, .aload_n 0, 1, 0, 0, []), (1, .iload_n 1, 1, 0, 0, []), (2, .iload_n 2, 1, 0, 0, []), (3, .invokevirtual 382, 3, 0, 2, [(13, 285)]), (6, .ifCond .ne 6, 3, 12, 0, []), (9, .bipush (-9), 2, 0, 0, []), (11, .ireturn, 1, 0, 0, []), (12, .aload_n 0, 1, 0, 0, []), (13, .getfield 46, 3, 13, 28, []), (16, .iconst 3, 1, 0, 0, []), (17, .iload_n 1, 1, 0, 0, []), (18, .imul, 1, 0, 0, []), (19, .iload_n 2, 1, 0, 0, []), (20, .iadd, 1, 0, 0, []), (21, .iaload, 1, 0, 0, []), (22, .istore 4, 2, 0, 0, []), (24, .aload_n 0, 1, 0, 0, []), (25, .getfield 46, 3, 13, 28, []), (28, .iconst 3, 1, 0, 0, []), (29, .iload_n 1, 1, 0, 0, []), (30, .imul, 1, 0, 0, []), (31, .iload_n 2, 1, 0, 0, []), (32, .iadd, 1, 0, 0, []), (33, .iload_n 3, 1, 0, 0, []), (34, .iastore, 1, 0, 0, []), (35, .iload 4, 2, 0, 0, []), (37, .ireturn, 1, 0, 0, [])]
/-- ShadowSchoolModel.isRight(I)Z -/
def jc_288 : List jw_I := [(0, .aload_n 0, 1, 0, 0, []), (1, .getfield 46, 3, 13, 28, []), (4, .iconst 3, 1, 0, 0, []), (5, .iload_n 1, 1, 0, 0, []), (6, .imul, 1, 0, 0, []), (7, .iaload, 1, 0, 0, []), (8, .iconst 0, 1, 0, 0, []), (9, .aload_n 0, 1, 0, 0, []), (10, .getfield 16, 3, 13, 2, []), (13, .iconst 2, 1, 0, 0, []), (14, .iaload, 1, 0, 0, []), (15, .invokestatic 71, 3, 2, 3, [(0, 180)]), (18, .ifCond .eq 10, 3, 28, 0, []), (21, .aload_n 0, 1, 0, 0, []), (22, .invokevirtual 122, 3, 0, 0, [(13, 186)]), (25, .ifCond .eq 5, 3, 30, 0, []), (28, .iconst 0, 1, 0, 0, []), (29, .ireturn, 1, 0, 0, []), (30, .aload_n 0, 1, 0, 0, []), (31, .aload_n 0, 1, 0, 0, []), (32, .getfield 46, 3, 13, 28, []), (35, .iconst 3, 1, 0, 0, []), (36, .iload_n 1, 1, 0, 0, []), (37, .imul, 1, 0, 0, []), (38, .iaload, 1, 0, 0, []), (39, .invokevirtual 278, 3, 0, 1, [(13, 234)]), (42, .istore_n 2, 1, 0, 0, []), (43, .iload_n 2, 1, 0, 0, []), (44, .aload_n 0, 1, 0, 0, []), (45, .getfield 46, 3, 13, 28, []), (48, .iconst 3, 1, 0, 0, []), (49, .iload_n 1, 1, 0, 0, []), (50, .imul, 1, 0, 0, []), (51, .iconst 1, 1, 0, 0, []), (52, .iadd, 1, 0, 0, []), (53, .iaload, 1, 0, 0, []), (54, .if_icmp .ne 24, 3, 78, 0, []), (57, .aload_n 0, 1, 0, 0, []), (58, .invokevirtual 353, 3, 0, 0, [(13, 266)]), (61, .aload_n 0, 1, 0, 0, []), (62, .getfield 46, 3, 13, 28, []), (65, .iconst 3, 1, 0, 0, []), (66, .iload_n 1, 1, 0, 0, []), (67, .imul, 1, 0, 0, []), (68, .iconst 2, 1, 0, 0, []), (69, .iadd, 1, 0, 0, []), (70, .iaload, 1, 0, 0, []), (71, .if_icmp .ne 7, 3, 78, 0, []), (74, .iconst 1, 1, 0, 0, []), (75, .goto 4, 3, 79, 0, []), (78, .iconst 0, 1, 0, 0, []), (79, .ireturn, 1, 0, 0, [])]
/-- ShadowSchoolModel.judge()I -/
def jc_289 : List jw_I := [(0, .aload_n 0, 1, 0, 0, []), (1, .iconst 0, 1, 0, 0, []), (2, .invokevirtual 281, 3, 0, 1, [(13, 189)]), (5, .iconst 0, 1, 0, 0, []), (6, .istore_n 1, 1, 0, 0, []), (7, .iload_n 1, 1, 0, 0, []), (8, .aload_n 0, 1, 0, 0, []), (9, .getfield 379, 3, 13, 29, []), (12, .if_icmp .ge 17, 3, 29, 0, []), (15, .aload_n 0, 1, 0, 0, []), (16, .iload_n 1, 1, 0, 0, []), (17, .invokevirtual 385, 3, 0, 1, [(13, 288)]), (20, .ifCond .eq 9, 3, 29, 0, []), (23, .iinc 1 1, 3, 0, 0, []), (26, .goto (-19), 3, 7, 0, []), (29, .aload_n 0, 1, 0, 0, []), (30, .iconst 0, 1, 0, 0, []), (31, .invokevirtual 287, 3, 0, 1, [(13, 190)]), (34, .iload_n 1, 1, 0, 0, []), (35, .aload_n 0, 1, 0, 0, []), (36, .getfield 379, 3, 13, 29, []), (39, .if_icmp .ne 7, 3, 46, 0, []), (42, .iconst 0, 1, 0, 0, []), (43, .goto 6, 3, 49, 0, []), (46, .iload_n 1, 1, 0, 0, []), (47, .iconst 1, 1, 0, 0, []), (48, .iadd, 1, 0, 0, []), (49, .ireturn, 1, 0, 0, [])]
/-- ShadowSchoolModel.isSheet(I)Z -/
def jc_290 : List jw_I := [(0, .iload_n 0, 1, 0, 0, []), (1, .iconst 0, 1, 0, 0, []), (2, .iconst 3, 1, 0, 0, []), (3, .invokestatic 71, 3, 2, 3, [(0, 180)]), (6, .ireturn, 1, 0, 0, [])]
/-- ShadowSchoolModel.lacksSort(II)I -/
def jc_291 : List jw_I := [(0, .aload_n 0, 1, 0, 0, []), (1, .getfield 49, 3, 13, 30, []), (4, .iload_n 1, 1, 0, 0, []), (5, .iaload, 1, 0, 0, []), (6, .ifCond .ge 8, 3, 14, 0, []), (9, .bipush (-11), 2, 0, 0, []), (11, .goto 19, 3, 30, 0, []), (14, .aload_n 0, 1, 0, 0, []), (15, .getfield 49, 3, 13, 30, []), (18, .iload_n 1, 1, 0, 0, []), (19, .iaload, 1, 0, 0, []), (20, .iload_n 2, 1, 0, 0, []), (21, .if_icmp .eq 8, 3, 29, 0, []), (24, .bipush (-13), 2, 0, 0, []), (26, .goto 4, 3, 30, 0, []), (29, .iconst 0, 1, 0, 0, []), (30, .ireturn, 1, 0, 0, [])]
/-- ShadowSchoolModel.sheet(III)I -/
def jc_292 : List jw_I := [(0, .iload_n 1, 1, 0, 0, []), (1, .invokestatic 317, 3, 2, 1, [(0, 290)]), (4, .ifCond .eq 22, 3, 26, 0, []), (7, .iload_n 2, 1, 0, 0, []), (8, .iconst (-1), 1, 0, 0, []), (9, .iconst 4, 1, 0, 0, []), (10, .invokestatic 71, 3, 2, 3, [(0, 180)]), (13, .ifCond .eq 13, 3, 26, 0, []), (16, .iload_n 2, 1, 0, 0, []), (17, .ifCond .lt 11, 3, 28, 0, []), (20, .iload_n 3, 1, 0, 0, []), (21, .bipush 40, 2, 0, 0, []), (23, .if_icmp .le 5, 3, 28, 0, []), (26, .iconst (-1), 1, 0, 0, []), (27, .ireturn, 1, 0, 0, []), (28, .iload_n 2, 1, 0, 0, []), (29, .ifCond .lt 10, 3, 39, 0, []), (32, .iload_n 3, 1, 0, 0, []), (33, .ifCond .ge 6, 3, 39, 0, []), (36, .bipush (-14), 2, 0, 0, []), (38, .ireturn, 1, 0, 0, []), (39, .aload_n 0, 1, 0, 0, []), (40, .getfield 49, 3, 13, 30, []), (43, .iload_n 1, 1, 0, 0, []), (44, .iload_n 2, 1, 0, 0, []), (45, .iastore, 1, 0, 0, []), (46, .aload_n 0, 1, 0, 0, []), (47, .getfield 52, 3, 13, 31, []), (50, .iload_n 1, 1, 0, 0, []), (51, .iload_n 2, 1, 0, 0, []), (52, .ifCond .ge 7, 3, 59, 0, []), (55, .iconst 0, 1, 0, 0, []), (56, .goto 4, 3, 60, 0, []), (59, .iload_n 3, 1, 0, 0, []), (60, .iastore, 1, 0, 0, []), (61, .iconst 0, 1, 0, 0, []), (62, .istore 4, 2, 0, 0, []), (64, .iload 4, 2, 0, 0, []), (66, .bipush 40, 2, 0, 0, []), (68, .if_icmp .ge 22, 3, 90, 0, []), (71, .aload_n 0, 1, 0, 0, []), (72, .getfield 55, 3, 13, 32, []), (75, .bipush 40, 2, 0, 0, []), (77, .iload_n 1, 1, 0, 0, []), (78, .imul, 1, 0, 0, []), (79, .iload 4, 2, 0, 0, []), (81, .iadd, 1, 0, 0, []), (82, .lconst 0, 1, 0, 0, []), (83, .lastore, 1, 0, 0, []), (84, .iinc 4 1, 3, 0, 0, []), (87, .goto (-23), 3, 64, 0, []), (90, .iconst 1, 1, 0, 0, []), (91, .ireturn, 1, 0, 0, [])]
/-- ShadowSchoolModel.narrowed(II)J -/
def jc_293 : List jw_I := [(0, .iload_n 0, 1, 0, 0, []), (1, .ifCond .ne 9, 3, 10, 0, []), (4, .iload_n 1, 1, 0, 0, []), (5, .i2b, 1, 0, 0, []), (6, .i2l, 1, 0, 0, []), (7, .goto 33, 3, 40, 0, []), (10, .iload_n 0, 1, 0, 0, []), (11, .iconst 1, 1, 0, 0, []), (12, .if_icmp .ne 9, 3, 21, 0, []), (15, .iload_n 1, 1, 0, 0, []), (16, .i2s, 1, 0, 0, []), (17, .i2l, 1, 0, 0, []), (18, .goto 22, 3, 40, 0, []), (21, .iload_n 0, 1, 0, 0, []), (22, .iconst 4, 1, 0, 0, []), (23, .if_icmp .ne 15, 3, 38, 0, []), (26, .iload_n 1, 1, 0, 0, []), (27, .ifCond .eq 7, 3, 34, 0, []), (30, .lconst 1, 1, 0, 0, []), (31, .goto 9, 3, 40, 0, []), (34, .lconst 0, 1, 0, 0, []), (35, .goto 5, 3, 40, 0, []), (38, .iload_n 1, 1, 0, 0, []), (39, .i2l, 1, 0, 0, []), (40, .lreturn, 1, 0, 0, [])]
/-- ShadowSchoolModel.write(III)I -/
def jc_294 : List jw_I := [(0, .iload_n 1, 1, 0, 0, []), (1, .invokestatic 317, 3, 2, 1, [(0, 290)]), (4, .ifCond .ne 5, 3, 9, 0, []), (7, .iconst (-1), 1, 0, 0, []), (8, .ireturn, 1, 0, 0, []), (9, .aload_n 0, 1, 0, 0, []), (10, .getfield 49, 3, 13, 30, []), (13, .iload_n 1, 1, 0, 0, []), (14, .iaload, 1, 0, 0, []), (15, .ifCond .ge 6, 3, 21, 0, []), (18, .bipush (-11), 2, 0, 0, []), (20, .ireturn, 1, 0, 0, []), (21, .iload_n 2, 1, 0, 0, []), (22, .iconst 0, 1, 0, 0, []), (23, .aload_n 0, 1, 0, 0, []), (24, .getfield 52, 3, 13, 31, []), (27, .iload_n 1, 1, 0, 0, []), (28, .iaload, 1, 0, 0, []), (29, .iconst 1, 1, 0, 0, []), (30, .isub, 1, 0, 0, []), (31, .invokestatic 71, 3, 2, 3, [(0, 180)]), (34, .ifCond .ne 6, 3, 40, 0, []), (37, .bipush (-12), 2, 0, 0, []), (39, .ireturn, 1, 0, 0, []), (40, .aload_n 0, 1, 0, 0, []), (41, .getfield 55, 3, 13, 32, []), (44, .bipush 40, 2, 0, 0, []), (46, .iload_n 1, 1, 0, 0, []), (47, .imul, 1, 0, 0, []), (48, .iload_n 2, 1, 0, 0, []), (49, .iadd, 1, 0, 0, []), (50, .aload_n 0, 1, 0, 0, []), (51, .getfield 49, 3, 13, 30, []), (54, .iload_n 1, 1, 0, 0, []), (55, .iaload, 1, 0, 0, []), (56, .iload_n 3, 1, 0, 0, []), (57, .invokestatic 388, 3, 2, 2, [(0, 293)]), (60, .lastore, 1, 0, 0, []), (61, .iconst 1, 1, 0, 0, []), (62, .ireturn, 1, 0, 0, [])]
/-- ShadowSchoolModel.item(III)I -/
def jc_295 : List jw_I := [(0, .iload_n 1, 1, 0, 0, []), (1, .invokestatic 317, 3, 2, 1, [(0, 290)]), (4, .ifCond .eq 12, 3, 16, 0, []), (7, .iload_n 2, 1, 0, 0, []), (8, .iconst 0, 1, 0, 0, []), (9, .iconst 4, 1, 0, 0, []), (10, .invokestatic 71, 3, 2, 3, [(0, 180)]), (13, .ifCond .ne 5, 3, 18, 0, []), (16, .iconst (-1), 1, 0, 0, []), (17, .ireturn, 1, 0, 0, []), (18, .aload_n 0, 1, 0, 0, []), (19, .iload_n 1, 1, 0, 0, []), (20, .iload_n 2, 1, 0, 0, []), (21, .invokevirtual 320, 3, 0, 2, [(13, 291)]), (24, .istore 4, 2, 0, 0, []), (26, .iload 4, 2, 0, 0, []), (28, .ifCond .eq 6, 3, 34, 0, []), (31, .iload 4, 2, 0, 0, []), (33, .ireturn, 1, 0, 0, []), (34, .iload_n 3, 1, 0, 0, []), (35, .iconst 0, 1, 0, 0, []), (36, .aload_n 0, 1, 0, 0, []), (37, .getfield 52, 3, 13, 31, []), (40, .iload_n 1, 1, 0, 0, []), (41, .iaload, 1, 0, 0, []), (42, .iconst 1, 1, 0, 0, []), (43, .isub, 1, 0, 0, []), (44, .invokestatic 71, 3, 2, 3, [(0, 180)]), (47, .ifCond .eq 18, 3, 65, 0, []), (50, .aload_n 0, 1, 0, 0, []), (51, .getfield 55, 3, 13, 32, []), (54, .bipush 40, 2, 0, 0, []), (56, .iload_n 1, 1, 0, 0, []), (57, .imul, 1, 0, 0, []), (58, .iload_n 3, 1, 0, 0, []), (59, .iadd, 1, 0, 0, []), (60, .laload, 1, 0, 0, []), (61, .l2i, 1, 0, 0, []), (62, .goto 5, 3, 67, 0, []), (65, .bipush (-12), 2, 0, 0, []), (67, .ireturn, 1, 0, 0, [])]
/-- ShadowSchoolModel.goAll(III)I -/
def jc_296 : List jw_I := [(0, .iload_n 1, 1, 0, 0, []), (1, .invokestatic 317, 3, 2, 1, [(0, 290)]), (4, .ifCond .eq 13, 3, 17, 0, []), (7, .iload_n 3, 1, 0, 0, []), (8, .iconst 0, 1, 0, 0, []), (9, .bipush 20, 2, 0, 0, []), (11, .invokestatic 71, 3, 2, 3, [(0, 180)]), (14, .ifCond .ne 5, 3, 19, 0, []), (17, .iconst (-1), 1, 0, 0, []), (18, .ireturn, 1, 0, 0, []), (19, .aload_n 0, 1, 0, 0, []), (20, .iload_n 1, 1, 0, 0, []), (21, .iconst 0, 1, 0, 0, []), (22, .invokevirtual 320, 3, 0, 2, [(13, 291)]), (25, .istore 4, 2, 0, 0, []), (27, .iload 4, 2, 0, 0, []), (29, .ifCond .eq 6, 3, 35, 0, []), (32, .iload 4, 2, 0, 0, []), (34, .ireturn, 1, 0, 0, []), (35, .iconst 0, 1, 0, 0, []), (36, .istore 5, 2, 0, 0, []), (38, .iconst 0, 1, 0, 0, []), (39, .istore 6, 2, 0, 0, []), (41, .iload 6, 2, 0, 0, []), (43, .iload_n 3, 1, 0, 0, []), (44, .if_icmp .ge 94, 3, 138, 0, []), (47, .iload_n 2, 1, 0, 0, []), (48, .i2l, 1, 0, 0, []), (49, .iload 6, 2, 0, 0, []), (51, .i2l, 1, 0, 0, []), (52, .ladd, 1, 0, 0, []), (53, .lstore 7, 2, 0, 0, []), (55, .lload 7, 2, 0, 0, []), (57, .lconst 0, 1, 0, 0, []), (58, .lcmp, 1, 0, 0, []), (59, .ifCond .lt 16, 3, 75, 0, []), (62, .lload 7, 2, 0, 0, []), (64, .aload_n 0, 1, 0, 0, []), (65, .getfield 52, 3, 13, 31, []), (68, .iload_n 1, 1, 0, 0, []), (69, .iaload, 1, 0, 0, []), (70, .i2l, 1, 0, 0, []), (71, .lcmp, 1, 0, 0, []), (72, .ifCond .lt 6, 3, 78, 0, []), (75, .bipush (-12), 2, 0, 0, []), (77, .ireturn, 1, 0, 0, []), (78, .aload_n 0, 1, 0, 0, []), (79, .getfield 55, 3, 13, 32, []), (82, .bipush 40, 2, 0, 0, []), (84, .iload_n 1, 1, 0, 0, []), (85, .imul, 1, 0, 0, []), (86, .iload_n 2, 1, 0, 0, []), (87, .iadd, 1, 0, 0, []), (88, .iload 6, 2, 0, 0, []), (90, .iadd, 1, 0, 0, []), (91, .laload, 1, 0, 0, []), (92, .l2i, 1, 0, 0, []), (93, .istore 9, 2, 0, 0, []), (95, .iload 5, 2, 0, 0, []), (97, .iload 9, 2, 0, 0, []), (99, .iconst 0, 1, 0, 0, []), (100, .aload_n 0, 1, 0, 0, []), (101, .getfield 16, 3, 13, 2, []), (104, .iconst 2, 1, 0, 0, []), (105, .iaload, 1, 0, 0, []), (106, .invokestatic 71, 3, 2, 3, [(0, 180)]), (109, .ifCond .eq 19, 3, 128, 0, []), (112, .aload_n 0, 1, 0, 0, []), (113, .invokevirtual 122, 3, 0, 0, [(13, 186)]), (116, .ifCond .ne 12, 3, 128, 0, []), (119, .aload_n 0, 1, 0, 0, []), (120, .iload 9, 2, 0, 0, []), (122, .invokevirtual 278, 3, 0, 1, [(13, 234)]), (125, .goto 4, 3, 129, 0, []), (128, .iconst 0, 1, 0, 0, []), (129, .iadd, 1, 0, 0, []), (130, .istore 5, 2, 0, 0, []), (132, .iinc 6 1, 3, 0, 0, []), (135, .goto (-94), 3, 41, 0, []), (138, .iload 5, 2, 0, 0, []), (140, .ireturn, 1, 0, 0, [])]
/-- ShadowSchoolModel.wouldGo(III)I -/
def jc_297 : List jw_I := [(0, .iconst 0, 1, 0, 0, []), (1, .istore 4, 2, 0, 0, []), (3, .iconst 0, 1, 0, 0, []), (4, .istore 5, 2, 0, 0, []), (6, .iload 5, 2, 0, 0, []), (8, .iload_n 3, 1, 0, 0, []), (9, .if_icmp .ge 93, 3, 102, 0, []), (12, .iload_n 2, 1, 0, 0, []), (13, .i2l, 1, 0, 0, []), (14, .iload 5, 2, 0, 0, []), (16, .i2l, 1, 0, 0, []), (17, .ladd, 1, 0, 0, []), (18, .lstore 6, 2, 0, 0, []), (20, .lload 6, 2, 0, 0, []), (22, .lconst 0, 1, 0, 0, []), (23, .lcmp, 1, 0, 0, []), (24, .ifCond .lt 16, 3, 40, 0, []), (27, .lload 6, 2, 0, 0, []), (29, .aload_n 0, 1, 0, 0, []), (30, .getfield 52, 3, 13, 31, []), (33, .iload_n 1, 1, 0, 0, []), (34, .iaload, 1, 0, 0, []), (35, .i2l, 1, 0, 0, []), (36, .lcmp, 1, 0, 0, []), (37, .ifCond .lt 6, 3, 43, 0, []), (40, .bipush (-12), 2, 0, 0, []), (42, .ireturn, 1, 0, 0, []), (43, .aload_n 0, 1, 0, 0, []), (44, .getfield 55, 3, 13, 32, []), (47, .bipush 40, 2, 0, 0, []), (49, .iload_n 1, 1, 0, 0, []), (50, .imul, 1, 0, 0, []), (51, .iload_n 2, 1, 0, 0, []), (52, .iadd, 1, 0, 0, []), (53, .iload 5, 2, 0, 0, []), (55, .iadd, 1, 0, 0, []), (56, .laload, 1, 0, 0, []), (57, .l2i, 1, 0, 0, []), (58, .istore 8, 2, 0, 0, []), (60, .iload 8, 2, 0, 0, []), (62, .iconst 0, 1, 0, 0, []), (63, .aload_n 0, 1, 0, 0, []), (64, .getfield 16, 3, 13, 2, []), (67, .iconst 2, 1, 0, 0, []), (68, .iaload, 1, 0, 0, []), (69, .invokestatic 71, 3, 2, 3, [(0, 180)]), (72, .ifCond .eq 10, 3, 82, 0, []), (75, .aload_n 0, 1, 0, 0, []), (76, .invokevirtual 122, 3, 0, 0, [(13, 186)]), (79, .ifCond .eq 6, 3, 85, 0, []), (82, .bipush (-4), 2, 0, 0, []), (84, .ireturn, 1, 0, 0, []), (85, .iload 4, 2, 0, 0, []), (87, .aload_n 0, 1, 0, 0, []), (88, .iload 8, 2, 0, 0, []), (90, .invokevirtual 278, 3, 0, 1, [(13, 234)]), (93, .iadd, 1, 0, 0, []), (94, .istore 4, 2, 0, 0, []), (96, .iinc 5 1, 3, 0, 0, []), (99, .goto (-93), 3, 6, 0, []), (102, .iload 4, 2, 0, 0, []), (104, .ireturn, 1, 0, 0, [])]
/-- ShadowSchoolModel.wouldBe(III)I -/
def jc_298 : List jw_I := [(0, .iload_n 1, 1, 0, 0, []), (1, .invokestatic 317, 3, 2, 1, [(0, 290)]), (4, .ifCond .eq 13, 3, 17, 0, []), (7, .iload_n 3, 1, 0, 0, []), (8, .iconst 0, 1, 0, 0, []), (9, .bipush 20, 2, 0, 0, []), (11, .invokestatic 71, 3, 2, 3, [(0, 180)]), (14, .ifCond .ne 5, 3, 19, 0, []), (17, .iconst (-1), 1, 0, 0, []), (18, .ireturn, 1, 0, 0, []), (19, .aload_n 0, 1, 0, 0, []), (20, .iload_n 1, 1, 0, 0, []), (21, .iconst 0, 1, 0, 0, []), (22, .invokevirtual 320, 3, 0, 2, [(13, 291)]), (25, .istore 4, 2, 0, 0, []), (27, .iload 4, 2, 0, 0, []), (29, .ifCond .eq 6, 3, 35, 0, []), (32, .iload 4, 2, 0, 0, []), (34, .ireturn, 1, 0, 0, []), (35, .aload_n 0, 1, 0, 0, []), (36, .iconst 0, 1, 0, 0, []), (37, .invokevirtual 281, 3, 0, 1, [(13, 189)]), (40, .aload_n 0, 1, 0, 0, []), (41, .iload_n 1, 1, 0, 0, []), (42, .iload_n 2, 1, 0, 0, []), (43, .iload_n 3, 1, 0, 0, []), (44, .invokevirtual 392, 3, 0, 3, [(13, 297)]), (47, .istore 5, 2, 0, 0, []), (49, .aload_n 0, 1, 0, 0, []), (50, .iconst 0, 1, 0, 0, []), (51, .invokevirtual 287, 3, 0, 1, [(13, 190)]), (54, .iload 5, 2, 0, 0, []), (56, .ireturn, 1, 0, 0, [])]
/-- ShadowSchoolModel.isHeld(II)Z -/
def jc_299 : List jw_I := [(0, .iload_n 1, 1, 0, 0, []), (1, .ifCond .ne 11, 3, 12, 0, []), (4, .aload_n 0, 1, 0, 0, []), (5, .iload_n 2, 1, 0, 0, []), (6, .invokevirtual 79, 3, 0, 1, [(13, 181)]), (9, .goto 25, 3, 34, 0, []), (12, .iload_n 1, 1, 0, 0, []), (13, .iconst 1, 1, 0, 0, []), (14, .if_icmp .ne 10, 3, 24, 0, []), (17, .iload_n 2, 1, 0, 0, []), (18, .invokestatic 317, 3, 2, 1, [(0, 290)]), (21, .goto 13, 3, 34, 0, []), (24, .iload_n 1, 1, 0, 0, []), (25, .iconst 2, 1, 0, 0, []), (26, .if_icmp .ne 7, 3, 33, 0, []), (29, .iconst 1, 1, 0, 0, []), (30, .goto 4, 3, 34, 0, []), (33, .iconst 0, 1, 0, 0, []), (34, .ireturn, 1, 0, 0, [])]
/-- ShadowSchoolModel.shelf(III)I -/
def jc_300 : List jw_I := [(0, .iload_n 1, 1, 0, 0, []), (1, .invokestatic 317, 3, 2, 1, [(0, 290)]), (4, .ifCond .eq 12, 3, 16, 0, []), (7, .aload_n 0, 1, 0, 0, []), (8, .iload_n 2, 1, 0, 0, []), (9, .iload_n 3, 1, 0, 0, []), (10, .invokevirtual 395, 3, 0, 2, [(13, 299)]), (13, .ifCond .ne 5, 3, 18, 0, []), (16, .iconst (-1), 1, 0, 0, []), (17, .ireturn, 1, 0, 0, []), (18, .aload_n 0, 1, 0, 0, []), (19, .getfield 59, 3, 13, 33, []), (22, .iload_n 1, 1, 0, 0, []), (23, .iload_n 2, 1, 0, 0, []), (24, .iconst 2, 1, 0, 0, []), (25, .if_icmp .eq 17, 3, 42, 0, []), (28, .iload_n 2, 1, 0, 0, []), (29, .iconst 1, 1, 0, 0, []), (30, .if_icmp .ne 16, 3, 46, 0, []), (33, .aload_n 0, 1, 0, 0, []), (34, .getfield 49, 3, 13, 30, []), (37, .iload_n 3, 1, 0, 0, []), (38, .iaload, 1, 0, 0, []), (39, .ifCond .ge 7, 3, 46, 0, []), (42, .iconst (-1), 1, 0, 0, []), (43, .goto 4, 3, 47, 0, []), (46, .iload_n 2, 1, 0, 0, []), (47, .iastore, 1, 0, 0, []), (48, .aload_n 0, 1, 0, 0, []), (49, .getfield 62, 3, 13, 34, []), (52, .iload_n 1, 1, 0, 0, []), (53, .iload_n 2, 1, 0, 0, []), (54, .iconst 1, 1, 0, 0, []), (55, .if_icmp .ne 12, 3, 67, 0, []), (58, .aload_n 0, 1, 0, 0, []), (59, .getfield 49, 3, 13, 30, []), (62, .iload_n 3, 1, 0, 0, []), (63, .iaload, 1, 0, 0, []), (64, .goto 4, 3, 68, 0, []), (67, .iload_n 3, 1, 0, 0, []), (68, .iastore, 1, 0, 0, []), (69, .aload_n 0, 1, 0, 0, []), (70, .getfield 65, 3, 13, 35, []), (73, .iload_n 1, 1, 0, 0, []), (74, .iload_n 2, 1, 0, 0, []), (75, .iconst 1, 1, 0, 0, []), (76, .if_icmp .ne 12, 3, 88, 0, []), (79, .aload_n 0, 1, 0, 0, []), (80, .getfield 52, 3, 13, 31, []), (83, .iload_n 3, 1, 0, 0, []), (84, .iaload, 1, 0, 0, []), (85, .goto 4, 3, 89, 0, []), (88, .iconst 0, 1, 0, 0, []), (89, .iastore, 1, 0, 0, []), (90, .iconst 1, 1, 0, 0, []), (91, .ireturn, 1, 0, 0, [])]
/-- ShadowSchoolModel.kindOn(I)I -/
def jc_301 : List jw_I := [(0, .aload_n 0, 1, 0, 0, []), (1, .getfield 59, 3, 13, 33, []), (4, .iload_n 1, 1, 0, 0, []), (5, .iaload, 1, 0, 0, []), (6, .ifCond .eq 19, 3, 25, 0, []), (9, .aload_n 0, 1, 0, 0, []), (10, .getfield 59, 3, 13, 33, []), (13, .iload_n 1, 1, 0, 0, []), (14, .iaload, 1, 0, 0, []), (15, .ifCond .ge 7, 3, 22, 0, []), (18, .iconst (-1), 1, 0, 0, []), (19, .goto 5, 3, 24, 0, []), (22, .bipush 9, 2, 0, 0, []), (24, .ireturn, 1, 0, 0, []), (25, .aload_n 0, 1, 0, 0, []), (26, .aload_n 0, 1, 0, 0, []), (27, .getfield 62, 3, 13, 34, []), (30, .iload_n 1, 1, 0, 0, []), (31, .iaload, 1, 0, 0, []), (32, .invokevirtual 79, 3, 0, 1, [(13, 181)]), (35, .ifCond .eq 17, 3, 52, 0, []), (38, .aload_n 0, 1, 0, 0, []), (39, .aload_n 0, 1, 0, 0, []), (40, .getfield 62, 3, 13, 34, []), (43, .iload_n 1, 1, 0, 0, []), (44, .iaload, 1, 0, 0, []), (45, .iconst 0, 1, 0, 0, []), (46, .invokevirtual 87, 3, 0, 2, [(13, 183)]), (49, .goto 4, 3, 53, 0, []), (52, .iconst (-1), 1, 0, 0, []), (53, .ireturn, 1, 0, 0, [])]
/-- ShadowSchoolModel.taken(II)I -/
def jc_302 : List jw_I := [(0, .iload_n 1, 1, 0, 0, []), (1, .invokestatic 317, 3, 2, 1, [(0, 290)]), (4, .ifCond .eq 23, 3, 27, 0, []), (7, .iload_n 2, 1, 0, 0, []), (8, .iconst 0, 1, 0, 0, []), (9, .iconst 5, 1, 0, 0, []), (10, .invokestatic 71, 3, 2, 3, [(0, 180)]), (13, .ifCond .ne 16, 3, 29, 0, []), (16, .iload_n 2, 1, 0, 0, []), (17, .bipush 10, 2, 0, 0, []), (19, .bipush 14, 2, 0, 0, []), (21, .invokestatic 71, 3, 2, 3, [(0, 180)]), (24, .ifCond .ne 5, 3, 29, 0, []), (27, .iconst (-1), 1, 0, 0, []), (28, .ireturn, 1, 0, 0, []), (29, .aload_n 0, 1, 0, 0, []), (30, .iload_n 1, 1, 0, 0, []), (31, .invokevirtual 398, 3, 0, 1, [(13, 301)]), (34, .istore_n 3, 1, 0, 0, []), (35, .iload_n 3, 1, 0, 0, []), (36, .ifCond .ge 6, 3, 42, 0, []), (39, .bipush (-11), 2, 0, 0, []), (41, .ireturn, 1, 0, 0, []), (42, .iload_n 3, 1, 0, 0, []), (43, .bipush 9, 2, 0, 0, []), (45, .if_icmp .ne 28, 3, 73, 0, []), (48, .iload_n 2, 1, 0, 0, []), (49, .bipush 10, 2, 0, 0, []), (51, .aload_n 0, 1, 0, 0, []), (52, .getfield 62, 3, 13, 34, []), (55, .iload_n 1, 1, 0, 0, []), (56, .iaload, 1, 0, 0, []), (57, .iadd, 1, 0, 0, []), (58, .if_icmp .ne 12, 3, 70, 0, []), (61, .aload_n 0, 1, 0, 0, []), (62, .getfield 65, 3, 13, 35, []), (65, .iload_n 1, 1, 0, 0, []), (66, .iaload, 1, 0, 0, []), (67, .goto 5, 3, 72, 0, []), (70, .bipush (-13), 2, 0, 0, []), (72, .ireturn, 1, 0, 0, []), (73, .iload_n 2, 1, 0, 0, []), (74, .bipush 10, 2, 0, 0, []), (76, .if_icmp .ge 20, 3, 96, 0, []), (79, .iload_n 3, 1, 0, 0, []), (80, .iload_n 2, 1, 0, 0, []), (81, .invokestatic 260, 3, 2, 2, [(0, 194)]), (84, .ifCond .eq 12, 3, 96, 0, []), (87, .aload_n 0, 1, 0, 0, []), (88, .getfield 62, 3, 13, 34, []), (91, .iload_n 1, 1, 0, 0, []), (92, .iaload, 1, 0, 0, []), (93, .goto 5, 3, 98, 0, []), (96, .bipush (-13), 2, 0, 0, []), (98, .ireturn, 1, 0, 0, [])]
/-- ShadowSchoolModel.ran(I)V -/
def jc_303 : List jw_I := [(0, .aload_n 0, 1, 0, 0, []), (1, .getfield 401, 3, 13, 40, []), (4, .bipush 30, 2, 0, 0, []), (6, .if_icmp .ge 23, 3, 29, 0, []), (9, .aload_n 0, 1, 0, 0, []), (10, .getfield 68, 3, 13, 39, []), (13, .aload_n 0, 1, 0, 0, []), (14, .getfield 401, 3, 13, 40, []), (17, .iload_n 1, 1, 0, 0, []), (18, .iastore, 1, 0, 0, []), (19, .aload_n 0, 1, 0, 0, []), (20, .dup, 1, 0, 0, []), (21, .getfield 401, 3, 13, 40, []), (24, .iconst 1, 1, 0, 0, []), (25, .iadd, 1, 0, 0, []), (26, .putfield 401, 3, 13, 40, [(0, 0)]), (29, .return_, 1, 0, 0, [])]
/-- ShadowSchoolModel.plainLies(I)I -/
def jc_304 : List jw_I := [(0, .aload_n 0, 1, 0, 0, []), (1, .bipush 10, 2, 0, 0, []), (3, .invokevirtual 404, 3, 0, 1, [(13, 303)]), (6, .iload_n 1, 1, 0, 0, []), (7, .iconst 2, 1, 0, 0, []), (8, .imul, 1, 0, 0, []), (9, .aload_n 0, 1, 0, 0, []), (10, .getfield 407, 3, 13, 37, []), (13, .iadd, 1, 0, 0, []), (14, .ireturn, 1, 0, 0, [])]
/-- ShadowSchoolModel.lies(I)I -/
def jc_305 : List jw_I := [(0, .aload_n 0, 1, 0, 0, []), (1, .getfield 410, 3, 13, 36, []), (4, .lookupswitch 59 #[(1, 28), (3, 45)], 28, 63, 0, [(1, 32), (3, 49)]), (32, .aload_n 0, 1, 0, 0, []), (33, .bipush 20, 2, 0, 0, []), (35, .invokevirtual 404, 3, 0, 1, [(13, 303)]), (38, .aload_n 0, 1, 0, 0, []), (39, .iload_n 1, 1, 0, 0, []), (40, .invokevirtual 413, 3, 0, 1, [(13, 304)]), (43, .aload_n 0, 1, 0, 0, []), (44, .getfield 416, 3, 13, 38, []), (47, .ixor, 1, 0, 0, []), (48, .ireturn, 1, 0, 0, []), (49, .aload_n 0, 1, 0, 0, []), (50, .bipush 50, 2, 0, 0, []), (52, .invokevirtual 404, 3, 0, 1, [(13, 303)]), (55, .iconst 0, 1, 0, 0, []), (56, .aload_n 0, 1, 0, 0, []), (57, .iload_n 1, 1, 0, 0, []), (58, .invokevirtual 413, 3, 0, 1, [(13, 304)]), (61, .isub, 1, 0, 0, []), (62, .ireturn, 1, 0, 0, []), (63, .aload_n 0, 1, 0, 0, []), (64, .iload_n 1, 1, 0, 0, []), (65, .invokevirtual 413, 3, 0, 1, [(13, 304)]), (68, .ireturn, 1, 0, 0, [])]
/-- ShadowSchoolModel.plainTurns(I)I -/
def jc_306 : List jw_I := [(0, .aload_n 0, 1, 0, 0, []), (1, .bipush 11, 2, 0, 0, []), (3, .invokevirtual 404, 3, 0, 1, [(13, 303)]), (6, .aload_n 0, 1, 0, 0, []), (7, .iload_n 1, 1, 0, 0, []), (8, .invokevirtual 419, 3, 0, 1, [(13, 305)]), (11, .aload_n 0, 1, 0, 0, []), (12, .getfield 416, 3, 13, 38, []), (15, .isub, 1, 0, 0, []), (16, .ireturn, 1, 0, 0, [])]
/-- ShadowSchoolModel.turns(I)I -/
def jc_307 : List jw_I := [(0, .aload_n 0, 1, 0, 0, []), (1, .getfield 410, 3, 13, 36, []), (4, .tableswitch 61 2 5 #[32, 32, 61, 47], 32, 65, 0, [(2, 36), (3, 36), (4, 65), (5, 51)]), (36, .aload_n 0, 1, 0, 0, []), (37, .bipush 30, 2, 0, 0, []), (39, .invokevirtual 404, 3, 0, 1, [(13, 303)]), (42, .aload_n 0, 1, 0, 0, []), (43, .iload_n 1, 1, 0, 0, []), (44, .invokevirtual 422, 3, 0, 1, [(13, 306)]), (47, .bipush 9, 2, 0, 0, []), (49, .iadd, 1, 0, 0, []), (50, .ireturn, 1, 0, 0, []), (51, .aload_n 0, 1, 0, 0, []), (52, .bipush 60, 2, 0, 0, []), (54, .invokevirtual 404, 3, 0, 1, [(13, 303)]), (57, .aload_n 0, 1, 0, 0, []), (58, .iload_n 1, 1, 0, 0, []), (59, .invokevirtual 422, 3, 0, 1, [(13, 306)]), (62, .iconst 2, 1, 0, 0, []), (63, .imul, 1, 0, 0, []), (64, .ireturn, 1, 0, 0, []), (65, .aload_n 0, 1, 0, 0, []), (66, .iload_n 1, 1, 0, 0, []), (67, .invokevirtual 422, 3, 0, 1, [(13, 306)]), (70, .ireturn, 1, 0, 0, [])]
/-- ShadowSchoolModel.plainFolds(I)I -/
def jc_308 : List jw_I := [(0, .aload_n 0, 1, 0, 0, []), (1, .bipush 12, 2, 0, 0, []), (3, .invokevirtual 404, 3, 0, 1, [(13, 303)]), (6, .aload_n 0, 1, 0, 0, []), (7, .aload_n 0, 1, 0, 0, []), (8, .getfield 425, 3, 13, 41, []), (11, .ifCond .ne 14, 3, 25, 0, []), (14, .aload_n 0, 1, 0, 0, []), (15, .getfield 407, 3, 13, 37, []), (18, .aload_n 0, 1, 0, 0, []), (19, .getfield 416, 3, 13, 38, []), (22, .if_icmp .ne 7, 3, 29, 0, []), (25, .iconst 1, 1, 0, 0, []), (26, .goto 4, 3, 30, 0, []), (29, .iconst 0, 1, 0, 0, []), (30, .putfield 425, 3, 13, 41, [(0, 2)]), (33, .aload_n 0, 1, 0, 0, []), (34, .getfield 425, 3, 13, 41, []), (37, .ifCond .eq 7, 3, 44, 0, []), (40, .iconst 0, 1, 0, 0, []), (41, .goto 14, 3, 55, 0, []), (44, .iload_n 1, 1, 0, 0, []), (45, .aload_n 0, 1, 0, 0, []), (46, .getfield 407, 3, 13, 37, []), (49, .aload_n 0, 1, 0, 0, []), (50, .getfield 416, 3, 13, 38, []), (53, .isub, 1, 0, 0, []), (54, .idiv, 1, 0, 0, []), (55, .ireturn, 1, 0, 0, [])]
/-- ShadowSchoolModel.slowFolds(I)I -/
def jc_309 : List jw_I := [(0, .aload_n 0, 1, 0, 0, []), (1, .bipush 40, 2, 0, 0, []), (3, .invokevirtual 404, 3, 0, 1, [(13, 303)]), (6, .aload_n 0, 1, 0, 0, []), (7, .iload_n 1, 1, 0, 0, []), (8, .invokevirtual 428, 3, 0, 1, [(13, 308)]), (11, .iconst 1, 1, 0, 0, []), (12, .isub, 1, 0, 0, []), (13, .ireturn, 1, 0, 0, [])]
/-- ShadowSchoolModel.folds(I)I -/
def jc_310 : List jw_I := [(0, .aload_n 0, 1, 0, 0, []), (1, .getfield 410, 3, 13, 36, []), (4, .iconst 4, 1, 0, 0, []), (5, .if_icmp .ne 9, 3, 14, 0, []), (8, .aload_n 0, 1, 0, 0, []), (9, .iload_n 1, 1, 0, 0, []), (10, .invokevirtual 431, 3, 0, 1, [(13, 309)]), (13, .ireturn, 1, 0, 0, []), (14, .aload_n 0, 1, 0, 0, []), (15, .getfield 410, 3, 13, 36, []), (18, .iconst 5, 1, 0, 0, []), (19, .if_icmp .eq 9, 3, 28, 0, []), (22, .aload_n 0, 1, 0, 0, []), (23, .iload_n 1, 1, 0, 0, []), (24, .invokevirtual 428, 3, 0, 1, [(13, 308)]), (27, .ireturn, 1, 0, 0, []), (28, .aload_n 0, 1, 0, 0, []), (29, .bipush 61, 2, 0, 0, []), (31, .invokevirtual 404, 3, 0, 1, [(13, 303)]), (34, .aload_n 0, 1, 0, 0, []), (35, .iload_n 1, 1, 0, 0, []), (36, .invokevirtual 431, 3, 0, 1, [(13, 309)]), (39, .istore_n 2, 1, 0, 0, []), (40, .aload_n 0, 1, 0, 0, []), (41, .getfield 425, 3, 13, 41, []), (44, .ifCond .eq 7, 3, 51, 0, []), (47, .iconst 0, 1, 0, 0, []), (48, .goto 13, 3, 61, 0, []), (51, .iload_n 2, 1, 0, 0, []), (52, .aload_n 0, 1, 0, 0, []), (53, .aload_n 0, 1, 0, 0, []), (54, .getfield 416, 3, 13, 38, []), (57, .invokevirtual 419, 3, 0, 1, [(13, 305)]), (60, .ixor, 1, 0, 0, []), (61, .ireturn, 1, 0, 0, [])]
/-- ShadowSchoolModel.plainAsks(I)I -/
def jc_311 : List jw_I := [(0, .aload_n 0, 1, 0, 0, []), (1, .bipush 13, 2, 0, 0, []), (3, .invokevirtual 404, 3, 0, 1, [(13, 303)]), (6, .aload_n 0, 1, 0, 0, []), (7, .iload_n 1, 1, 0, 0, []), (8, .invokevirtual 434, 3, 0, 1, [(13, 307)]), (11, .iconst 3, 1, 0, 0, []), (12, .imul, 1, 0, 0, []), (13, .ireturn, 1, 0, 0, [])]
/-- ShadowSchoolModel.asks(I)I -/
def jc_312 : List jw_I := [(0, .aload_n 0, 1, 0, 0, []), (1, .getfield 410, 3, 13, 36, []), (4, .iconst 3, 1, 0, 0, []), (5, .if_icmp .eq 9, 3, 14, 0, []), (8, .aload_n 0, 1, 0, 0, []), (9, .iload_n 1, 1, 0, 0, []), (10, .invokevirtual 437, 3, 0, 1, [(13, 311)]), (13, .ireturn, 1, 0, 0, []), (14, .aload_n 0, 1, 0, 0, []), (15, .bipush 51, 2, 0, 0, []), (17, .invokevirtual 404, 3, 0, 1, [(13, 303)]), (20, .aload_n 0, 1, 0, 0, []), (21, .iload_n 1, 1, 0, 0, []), (22, .invokevirtual 437, 3, 0, 1, [(13, 311)]), (25, .istore_n 2, 1, 0, 0, []), (26, .iload_n 2, 1, 0, 0, []), (27, .aload_n 0, 1, 0, 0, []), (28, .aload_n 0, 1, 0, 0, []), (29, .getfield 407, 3, 13, 37, []), (32, .invokevirtual 440, 3, 0, 1, [(13, 310)]), (35, .iadd, 1, 0, 0, []), (36, .ireturn, 1, 0, 0, [])]
/-- ShadowSchoolModel.act(III)I -/
def jc_313 : List jw_I := [(0, .aload_n 0, 1, 0, 0, []), (1, .iconst 0, 1, 0, 0, []), (2, .putfield 401, 3, 13, 40, [(0, 0)]), (5, .iload_n 1, 1, 0, 0, []), (6, .invokestatic 317, 3, 2, 1, [(0, 290)]), (9, .ifCond .eq 11, 3, 20, 0, []), (12, .aload_n 0, 1, 0, 0, []), (13, .iload_n 1, 1, 0, 0, []), (14, .invokevirtual 398, 3, 0, 1, [(13, 301)]), (17, .goto 4, 3, 21, 0, []), (20, .iconst (-1), 1, 0, 0, []), (21, .istore 4, 2, 0, 0, []), (23, .iload_n 2, 1, 0, 0, []), (24, .iconst 0, 1, 0, 0, []), (25, .iconst 3, 1, 0, 0, []), (26, .invokestatic 71, 3, 2, 3, [(0, 180)]), (29, .ifCond .eq 13, 3, 42, 0, []), (32, .iload 4, 2, 0, 0, []), (34, .iconst 1, 1, 0, 0, []), (35, .iconst 5, 1, 0, 0, []), (36, .invokestatic 71, 3, 2, 3, [(0, 180)]), (39, .ifCond .ne 5, 3, 44, 0, []), (42, .iconst 0, 1, 0, 0, []), (43, .ireturn, 1, 0, 0, []), (44, .aload_n 0, 1, 0, 0, []), (45, .iload 4, 2, 0, 0, []), (47, .putfield 410, 3, 13, 36, [(0, 0)]), (50, .aload_n 0, 1, 0, 0, []), (51, .aload_n 0, 1, 0, 0, []), (52, .getfield 62, 3, 13, 34, []), (55, .iload_n 1, 1, 0, 0, []), (56, .iaload, 1, 0, 0, []), (57, .putfield 407, 3, 13, 37, [(0, 0)]), (60, .aload_n 0, 1, 0, 0, []), (61, .aload_n 0, 1, 0, 0, []), (62, .aload_n 0, 1, 0, 0, []), (63, .getfield 407, 3, 13, 37, []), (66, .iconst 1, 1, 0, 0, []), (67, .invokevirtual 87, 3, 0, 2, [(13, 183)]), (70, .putfield 416, 3, 13, 38, [(0, 0)]), (73, .aload_n 0, 1, 0, 0, []), (74, .iconst 0, 1, 0, 0, []), (75, .putfield 425, 3, 13, 41, [(0, 2)]), (78, .iload_n 2, 1, 0, 0, []), (79, .ifCond .ne 11, 3, 90, 0, []), (82, .aload_n 0, 1, 0, 0, []), (83, .iload_n 3, 1, 0, 0, []), (84, .invokevirtual 419, 3, 0, 1, [(13, 305)]), (87, .goto 34, 3, 121, 0, []), (90, .iload_n 2, 1, 0, 0, []), (91, .iconst 1, 1, 0, 0, []), (92, .if_icmp .ne 11, 3, 103, 0, []), (95, .aload_n 0, 1, 0, 0, []), (96, .iload_n 3, 1, 0, 0, []), (97, .invokevirtual 434, 3, 0, 1, [(13, 307)]), (100, .goto 21, 3, 121, 0, []), (103, .iload_n 2, 1, 0, 0, []), (104, .iconst 2, 1, 0, 0, []), (105, .if_icmp .ne 11, 3, 116, 0, []), (108, .aload_n 0, 1, 0, 0, []), (109, .iload_n 3, 1, 0, 0, []), (110, .invokevirtual 440, 3, 0, 1, [(13, 310)]), (113, .goto 8, 3, 121, 0, []), (116, .aload_n 0, 1, 0, 0, []), (117, .iload_n 3, 1, 0, 0, []), (118, .invokevirtual 443, 3, 0, 1, [(13, 312)]), (121, .istore 5, 2, 0, 0, []), (123, .aload_n 0, 1, 0, 0, []), (124, .getfield 425, 3, 13, 41, []), (127, .ifCond .eq 8, 3, 135, 0, []), (130, .bipush (-15), 2, 0, 0, []), (132, .goto 5, 3, 137, 0, []), (135, .iload 5, 2, 0, 0, []), (137, .ireturn, 1, 0, 0, [])]
/-- ShadowSchoolModel.trace(I)I -/
def jc_314 : List jw_I := [(0, .iload_n 1, 1, 0, 0, []), (1, .iconst 0, 1, 0, 0, []), (2, .aload_n 0, 1, 0, 0, []), (3, .getfield 401, 3, 13, 40, []), (6, .iconst 1, 1, 0, 0, []), (7, .isub, 1, 0, 0, []), (8, .invokestatic 71, 3, 2, 3, [(0, 180)]), (11, .ifCond .eq 12, 3, 23, 0, []), (14, .aload_n 0, 1, 0, 0, []), (15, .getfield 68, 3, 13, 39, []), (18, .iload_n 1, 1, 0, 0, []), (19, .iaload, 1, 0, 0, []), (20, .goto 5, 3, 25, 0, []), (23, .bipush (-3), 2, 0, 0, []), (25, .ireturn, 1, 0, 0, [])]
/-- ShadowSchoolModel.pairsThatQuarrel()I -/
def jc_315 : List jw_I := [(0, .iconst 0, 1, 0, 0, []), (1, .istore_n 1, 1, 0, 0, []), (2, .iconst 0, 1, 0, 0, []), (3, .istore_n 2, 1, 0, 0, []), (4, .iload_n 2, 1, 0, 0, []), (5, .aload_n 0, 1, 0, 0, []), (6, .getfield 16, 3, 13, 2, []), (9, .iconst 2, 1, 0, 0, []), (10, .iaload, 1, 0, 0, []), (11, .if_icmp .ge 24, 3, 35, 0, []), (14, .iload_n 1, 1, 0, 0, []), (15, .aload_n 0, 1, 0, 0, []), (16, .getfield 16, 3, 13, 2, []), (19, .bipush 64, 2, 0, 0, []), (21, .iload_n 2, 1, 0, 0, []), (22, .iadd, 1, 0, 0, []), (23, .iaload, 1, 0, 0, []), (24, .invokestatic 83, 3, 2, 1, [(0, 185)]), (27, .iadd, 1, 0, 0, []), (28, .istore_n 1, 1, 0, 0, []), (29, .iinc 2 1, 3, 0, 0, []), (32, .goto (-28), 3, 4, 0, []), (35, .iload_n 1, 1, 0, 0, []), (36, .iconst 2, 1, 0, 0, []), (37, .idiv, 1, 0, 0, []), (38, .ireturn, 1, 0, 0, [])]
/-- ShadowSchoolModel.many(I)I -/
def jc_316 : List jw_I := [(0, .iload_n 1, 1, 0, 0, []), (1, .tableswitch 95 0 7 #[47, 54, 61, 68, 75, 80, 85, 90], 47, 96, 0, [(0, 48), (1, 55), (2, 62), (3, 69), (4, 76), (5, 81), (6, 86), (7, 91)]), (48, .aload_n 0, 1, 0, 0, []), (49, .getfield 16, 3, 13, 2, []), (52, .iconst 2, 1, 0, 0, []), (53, .iaload, 1, 0, 0, []), (54, .ireturn, 1, 0, 0, []), (55, .aload_n 0, 1, 0, 0, []), (56, .getfield 16, 3, 13, 2, []), (59, .iconst 4, 1, 0, 0, []), (60, .iaload, 1, 0, 0, []), (61, .ireturn, 1, 0, 0, []), (62, .aload_n 0, 1, 0, 0, []), (63, .getfield 16, 3, 13, 2, []), (66, .iconst 3, 1, 0, 0, []), (67, .iaload, 1, 0, 0, []), (68, .ireturn, 1, 0, 0, []), (69, .aload_n 0, 1, 0, 0, []), (70, .getfield 16, 3, 13, 2, []), (73, .iconst 5, 1, 0, 0, []), (74, .iaload, 1, 0, 0, []), (75, .ireturn, 1, 0, 0, []), (76, .aload_n 0, 1, 0, 0, []), (77, .getfield 379, 3, 13, 29, []), (80, .ireturn, 1, 0, 0, []), (81, .aload_n 0, 1, 0, 0, []), (82, .getfield 126, 3, 13, 7, []), (85, .ireturn, 1, 0, 0, []), (86, .aload_n 0, 1, 0, 0, []), (87, .getfield 401, 3, 13, 40, []), (90, .ireturn, 1, 0, 0, []), (91, .aload_n 0, 1, 0, 0, []), (92, .invokevirtual 446, 3, 0, 0, [(13, 315)]), (95, .ireturn, 1, 0, 0, []), (96, .iconst (-1), 1, 0, 0, []), (97, .ireturn, 1, 0, 0, [])]
/-- ShadowSchoolModel.keep()I -/
def jc_317 : List jw_I := [(0, .iconst 0, 1, 0, 0, []), (1, .istore_n 1, 1, 0, 0, []), (2, .iload_n 1, 1, 0, 0, []), (3, .bipush 56, 2, 0, 0, []), (5, .if_icmp .ge 21, 3, 26, 0, []), (8, .aload_n 0, 1, 0, 0, []), (9, .getfield 19, 3, 13, 3, []), (12, .iload_n 1, 1, 0, 0, []), (13, .aload_n 0, 1, 0, 0, []), (14, .getfield 9, 3, 13, 0, []), (17, .iload_n 1, 1, 0, 0, []), (18, .iaload, 1, 0, 0, []), (19, .iastore, 1, 0, 0, []), (20, .iinc 1 1, 3, 0, 0, []), (23, .goto (-21), 3, 2, 0, []), (26, .iconst 0, 1, 0, 0, []), (27, .istore_n 1, 1, 0, 0, []), (28, .iload_n 1, 1, 0, 0, []), (29, .sipush 526, 3, 0, 0, []), (32, .if_icmp .ge 21, 3, 53, 0, []), (35, .aload_n 0, 1, 0, 0, []), (36, .getfield 22, 3, 13, 4, []), (39, .iload_n 1, 1, 0, 0, []), (40, .aload_n 0, 1, 0, 0, []), (41, .getfield 16, 3, 13, 2, []), (44, .iload_n 1, 1, 0, 0, []), (45, .iaload, 1, 0, 0, []), (46, .iastore, 1, 0, 0, []), (47, .iinc 1 1, 3, 0, 0, []), (50, .goto (-22), 3, 28, 0, []), (53, .aload_n 0, 1, 0, 0, []), (54, .iconst 1, 1, 0, 0, []), (55, .putfield 449, 3, 13, 5, [(0, 2)]), (58, .iconst 1, 1, 0, 0, []), (59, .ireturn, 1, 0, 0, [])]
/-- ShadowSchoolModel.again()I -/
def jc_318 : List jw_I := [(0, .aload_n 0, 1, 0, 0, []), (1, .getfield 449, 3, 13, 5, []), (4, .ifCond .ne 6, 3, 10, 0, []), (7, .bipush (-3), 2, 0, 0, []), (9, .ireturn, 1, 0, 0, []), (10, .iconst 0, 1, 0, 0, []), (11, .istore_n 1, 1, 0, 0, []), (12, .iload_n 1, 1, 0, 0, []), (13, .bipush 56, 2, 0, 0, []), (15, .if_icmp .ge 21, 3, 36, 0, []), (18, .aload_n 0, 1, 0, 0, []), (19, .getfield 9, 3, 13, 0, []), (22, .iload_n 1, 1, 0, 0, []), (23, .aload_n 0, 1, 0, 0, []), (24, .getfield 19, 3, 13, 3, []), (27, .iload_n 1, 1, 0, 0, []), (28, .iaload, 1, 0, 0, []), (29, .iastore, 1, 0, 0, []), (30, .iinc 1 1, 3, 0, 0, []), (33, .goto (-21), 3, 12, 0, []), (36, .iconst 0, 1, 0, 0, []), (37, .istore_n 1, 1, 0, 0, []), (38, .iload_n 1, 1, 0, 0, []), (39, .sipush 526, 3, 0, 0, []), (42, .if_icmp .ge 21, 3, 63, 0, []), (45, .aload_n 0, 1, 0, 0, []), (46, .getfield 16, 3, 13, 2, []), (49, .iload_n 1, 1, 0, 0, []), (50, .aload_n 0, 1, 0, 0, []), (51, .getfield 22, 3, 13, 4, []), (54, .iload_n 1, 1, 0, 0, []), (55, .iaload, 1, 0, 0, []), (56, .iastore, 1, 0, 0, []), (57, .iinc 1 1, 3, 0, 0, []), (60, .goto (-22), 3, 38, 0, []), (63, .aload_n 0, 1, 0, 0, []), (64, .getfield 16, 3, 13, 2, []), (67, .iconst 2, 1, 0, 0, []), (68, .iaload, 1, 0, 0, []), (69, .ireturn, 1, 0, 0, [])]
/-- java/lang/Integer.compare(II)I -/
def jc_319 : List jw_I := [(0, .iload_n 0, 1, 0, 0, []), (1, .iload_n 1, 1, 0, 0, []), (2, .if_icmp .ge 7, 3, 9, 0, []), (5, .iconst (-1), 1, 0, 0, []), (6, .goto 13, 3, 19, 0, []), (9, .iload_n 0, 1, 0, 0, []), (10, .iload_n 1, 1, 0, 0, []), (11, .if_icmp .ne 7, 3, 18, 0, []), (14, .iconst 0, 1, 0, 0, []), (15, .goto 4, 3, 19, 0, []), (18, .iconst 1, 1, 0, 0, []), (19, .ireturn, 1, 0, 0, [])]
/-- java/lang/Integer.numberOfLeadingZeros(I)I -/
def jc_320 : List jw_I := [(0, .iload_n 0, 1, 0, 0, []), (1, .ifCond .gt 14, 3, 15, 0, []), (4, .iload_n 0, 1, 0, 0, []), (5, .ifCond .ne 8, 3, 13, 0, []), (8, .bipush 32, 2, 0, 0, []), (10, .goto 4, 3, 14, 0, []), (13, .iconst 0, 1, 0, 0, []), (14, .ireturn, 1, 0, 0, []), (15, .bipush 31, 2, 0, 0, []), (17, .istore_n 1, 1, 0, 0, []), (18, .iload_n 0, 1, 0, 0, []), (19, .ldc_w 264, 3, 0, 0, [(65536, 0)]), (22, .if_icmp .lt 11, 3, 33, 0, []), (25, .iinc 1 (-16), 3, 0, 0, []), (28, .iload_n 0, 1, 0, 0, []), (29, .bipush 16, 2, 0, 0, []), (31, .iushr, 1, 0, 0, []), (32, .istore_n 0, 1, 0, 0, []), (33, .iload_n 0, 1, 0, 0, []), (34, .sipush 256, 3, 0, 0, []), (37, .if_icmp .lt 11, 3, 48, 0, []), (40, .iinc 1 (-8), 3, 0, 0, []), (43, .iload_n 0, 1, 0, 0, []), (44, .bipush 8, 2, 0, 0, []), (46, .iushr, 1, 0, 0, []), (47, .istore_n 0, 1, 0, 0, []), (48, .iload_n 0, 1, 0, 0, []), (49, .bipush 16, 2, 0, 0, []), (51, .if_icmp .lt 10, 3, 61, 0, []), (54, .iinc 1 (-4), 3, 0, 0, []), (57, .iload_n 0, 1, 0, 0, []), (58, .iconst 4, 1, 0, 0, []), (59, .iushr, 1, 0, 0, []), (60, .istore_n 0, 1, 0, 0, []), (61, .iload_n 0, 1, 0, 0, []), (62, .iconst 4, 1, 0, 0, []), (63, .if_icmp .lt 10, 3, 73, 0, []), (66, .iinc 1 (-2), 3, 0, 0, []), (69, .iload_n 0, 1, 0, 0, []), (70, .iconst 2, 1, 0, 0, []), (71, .iushr, 1, 0, 0, []), (72, .istore_n 0, 1, 0, 0, []), (73, .iload_n 1, 1, 0, 0, []), (74, .iload_n 0, 1, 0, 0, []), (75, .iconst 1, 1, 0, 0, []), (76, .iushr, 1, 0, 0, []), (77, .isub, 1, 0, 0, []), (78, .ireturn, 1, 0, 0, [])]
/-- java/lang/Integer.numberOfTrailingZeros(I)I -/
def jc_321 : List jw_I := [(0, .iload_n 0, 1, 0, 0, []), (1, .iconst (-1), 1, 0, 0, []), (2, .ixor, 1, 0, 0, []), (3, .iload_n 0, 1, 0, 0, []), (4, .iconst 1, 1, 0, 0, []), (5, .isub, 1, 0, 0, []), (6, .iand, 1, 0, 0, []), (7, .istore_n 0, 1, 0, 0, []), (8, .iload_n 0, 1, 0, 0, []), (9, .ifCond .gt 8, 3, 17, 0, []), (12, .iload_n 0, 1, 0, 0, []), (13, .bipush 32, 2, 0, 0, []), (15, .iand, 1, 0, 0, []), (16, .ireturn, 1, 0, 0, []), (17, .iconst 1, 1, 0, 0, []), (18, .istore_n 1, 1, 0, 0, []), (19, .iload_n 0, 1, 0, 0, []), (20, .ldc_w 264, 3, 0, 0, [(65536, 0)]), (23, .if_icmp .le 11, 3, 34, 0, []), (26, .iinc 1 16, 3, 0, 0, []), (29, .iload_n 0, 1, 0, 0, []), (30, .bipush 16, 2, 0, 0, []), (32, .iushr, 1, 0, 0, []), (33, .istore_n 0, 1, 0, 0, []), (34, .iload_n 0, 1, 0, 0, []), (35, .sipush 256, 3, 0, 0, []), (38, .if_icmp .le 11, 3, 49, 0, []), (41, .iinc 1 8, 3, 0, 0, []), (44, .iload_n 0, 1, 0, 0, []), (45, .bipush 8, 2, 0, 0, []), (47, .iushr, 1, 0, 0, []), (48, .istore_n 0, 1, 0, 0, []), (49, .iload_n 0, 1, 0, 0, []), (50, .bipush 16, 2, 0, 0, []), (52, .if_icmp .le 10, 3, 62, 0, []), (55, .iinc 1 4, 3, 0, 0, []), (58, .iload_n 0, 1, 0, 0, []), (59, .iconst 4, 1, 0, 0, []), (60, .iushr, 1, 0, 0, []), (61, .istore_n 0, 1, 0, 0, []), (62, .iload_n 0, 1, 0, 0, []), (63, .iconst 4, 1, 0, 0, []), (64, .if_icmp .le 10, 3, 74, 0, []), (67, .iinc 1 2, 3, 0, 0, []), (70, .iload_n 0, 1, 0, 0, []), (71, .iconst 2, 1, 0, 0, []), (72, .iushr, 1, 0, 0, []), (73, .istore_n 0, 1, 0, 0, []), (74, .iload_n 1, 1, 0, 0, []), (75, .iload_n 0, 1, 0, 0, []), (76, .iconst 1, 1, 0, 0, []), (77, .iushr, 1, 0, 0, []), (78, .iadd, 1, 0, 0, []), (79, .ireturn, 1, 0, 0, [])]
/-- java/lang/Integer.bitCount(I)I -/
def jc_322 : List jw_I := [(0, .iload_n 0, 1, 0, 0, []), (1, .iload_n 0, 1, 0, 0, []), (2, .iconst 1, 1, 0, 0, []), (3, .iushr, 1, 0, 0, []), (4, .ldc_w 265, 3, 0, 0, [(1431655765, 0)]), (7, .iand, 1, 0, 0, []), (8, .isub, 1, 0, 0, []), (9, .istore_n 0, 1, 0, 0, []), (10, .iload_n 0, 1, 0, 0, []), (11, .ldc_w 266, 3, 0, 0, [(858993459, 0)]), (14, .iand, 1, 0, 0, []), (15, .iload_n 0, 1, 0, 0, []), (16, .iconst 2, 1, 0, 0, []), (17, .iushr, 1, 0, 0, []), (18, .ldc_w 266, 3, 0, 0, [(858993459, 0)]), (21, .iand, 1, 0, 0, []), (22, .iadd, 1, 0, 0, []), (23, .istore_n 0, 1, 0, 0, []), (24, .iload_n 0, 1, 0, 0, []), (25, .iload_n 0, 1, 0, 0, []), (26, .iconst 4, 1, 0, 0, []), (27, .iushr, 1, 0, 0, []), (28, .iadd, 1, 0, 0, []), (29, .ldc_w 267, 3, 0, 0, [(252645135, 0)]), (32, .iand, 1, 0, 0, []), (33, .istore_n 0, 1, 0, 0, []), (34, .iload_n 0, 1, 0, 0, []), (35, .iload_n 0, 1, 0, 0, []), (36, .bipush 8, 2, 0, 0, []), (38, .iushr, 1, 0, 0, []), (39, .iadd, 1, 0, 0, []), (40, .istore_n 0, 1, 0, 0, []), (41, .iload_n 0, 1, 0, 0, []), (42, .iload_n 0, 1, 0, 0, []), (43, .bipush 16, 2, 0, 0, []), (45, .iushr, 1, 0, 0, []), (46, .iadd, 1, 0, 0, []), (47, .istore_n 0, 1, 0, 0, []), (48, .iload_n 0, 1, 0, 0, []), (49, .bipush 63, 2, 0, 0, []), (51, .iand, 1, 0, 0, []), (52, .ireturn, 1, 0, 0, [])]
/-- java/lang/Math.abs(I)I -/
def jc_323 : List jw_I := [(0, .iload_n 0, 1, 0, 0, []), (1, .ifCond .ge 8, 3, 9, 0, []), (4, .iload_n 0, 1, 0, 0, []), (5, .ineg, 1, 0, 0, []), (6, .goto 4, 3, 10, 0, []), (9, .iload_n 0, 1, 0, 0, []), (10, .ireturn, 1, 0, 0, [])]
/-- java/lang/Math.max(II)I -/
def jc_324 : List jw_I := [(0, .iload_n 0, 1, 0, 0, []), (1, .iload_n 1, 1, 0, 0, []), (2, .if_icmp .lt 7, 3, 9, 0, []), (5, .iload_n 0, 1, 0, 0, []), (6, .goto 4, 3, 10, 0, []), (9, .iload_n 1, 1, 0, 0, []), (10, .ireturn, 1, 0, 0, [])]
/-- java/lang/Math.min(II)I -/
def jc_325 : List jw_I := [(0, .iload_n 0, 1, 0, 0, []), (1, .iload_n 1, 1, 0, 0, []), (2, .if_icmp .gt 7, 3, 9, 0, []), (5, .iload_n 0, 1, 0, 0, []), (6, .goto 4, 3, 10, 0, []), (9, .iload_n 1, 1, 0, 0, []), (10, .ireturn, 1, 0, 0, [])]
/-- java/util/Arrays.fill([II)V -/
def jc_326 : List jw_I := [(0, .iconst 0, 1, 0, 0, []), (1, .istore_n 2, 1, 0, 0, []), (2, .aload_n 0, 1, 0, 0, []), (3, .arraylength, 1, 0, 0, []), (4, .istore_n 3, 1, 0, 0, []), (5, .iload_n 2, 1, 0, 0, []), (6, .iload_n 3, 1, 0, 0, []), (7, .if_icmp .ge 13, 3, 20, 0, []), (10, .aload_n 0, 1, 0, 0, []), (11, .iload_n 2, 1, 0, 0, []), (12, .iload_n 1, 1, 0, 0, []), (13, .iastore, 1, 0, 0, []), (14, .iinc 2 1, 3, 0, 0, []), (17, .goto (-12), 3, 5, 0, []), (20, .return_, 1, 0, 0, [])]
def jp_cl : List vw_C := [(RX0, TX0, 0), (RX1, TX1, 0), (RX2, TX2, 0), (RX3, TX3, 11), (RX4, TX4, 0), (RX5, TX5, 12), (RX6, TX6, 5), (RX7, TX7, 6), (RX8, TX8, 10), (RX9, TX9, 19), (RX10, TX10, 0), (RX11, TX11, 0), (RX12, TX12, 8), (RX13, TX13, 42)]
def jp_kds : List (List jw_K) := [[], [], [], [.inr none, .inr none, .inr none, .inr none, .inr none, .inr none, .inr none, .inl 0, .inl 2, .inl 0, .inl 0], [], [.inr none, .inr none, .inl 0, .inl 0, .inl 0, .inr none, .inl 0, .inl 0, .inl 0, .inl 0, .inl 0, .inr none], [.inl 0, .inl 0, .inr none, .inr none, .inr none], [.inl 0, .inr none, .inr none, .inr none, .inl 0, .inr none], [.inl 0, .inl 0, .inr none, .inr none, .inr none, .inr none, .inr none, .inr none, .inr none, .inl 0], [.inl 0, .inr none, .inr none, .inr none, .inr none, .inl 0, .inr none, .inr none, .inr none, .inr none, .inr none, .inr none, .inl 0, .inr none, .inl 0, .inl 0, .inr none, .inr none, .inr none], [], [], [.inr none, .inr none, .inl 2, .inr none, .inr none, .inr none, .inr none, .inr none], [.inr none, .inr none, .inr none, .inr none, .inr none, .inl 2, .inr none, .inl 0, .inl 0, .inl 0, .inl 0, .inl 1, .inl 0, .inl 2, .inr none, .inr none, .inl 0, .inl 0, .inr none, .inr none, .inr none, .inr none, .inl 0, .inl 0, .inl 0, .inl 0, .inl 0, .inl 0, .inr none, .inl 0, .inr none, .inr none, .inr none, .inr none, .inr none, .inr none, .inl 0, .inl 0, .inl 0, .inr none, .inl 0, .inl 2]]
def jp_kd (ci : Nat) : List jw_K := jp_kds.getD ci []
def jp_ys0 : List jw_Y := [(yX0_init, cX0_init, 1, none, (0, 0), jc_0), (yX0_paceIn, cX0_paceIn, 3, (some .int), (0, 0), jc_1), (yX0_lengthIn, cX0_lengthIn, 3, (some .int), (0, 0), jc_2), (yX0_turns, cX0_turns, 3, (some .int), (0, 0), jc_3), (yX0_folds, cX0_folds, 4, (some .int), (0, 0), jc_4), (yX1_init, cX1_init, 1, none, (0, 0), jc_5), (yX1_paceIn, cX1_paceIn, 3, (some .int), (0, 0), jc_6), (yX1_lengthIn, cX1_lengthIn, 3, (some .int), (0, 0), jc_7), (yX1_lies, cX1_lies, 3, (some .int), (0, 0), jc_8), (yX1_asks, cX1_asks, 4, (some .int), (0, 0), jc_9), (yX2_init, cX2_init, 1, none, (0, 0), jc_10), (yX2_paceIn, cX2_paceIn, 3, (some .int), (0, 0), jc_11), (yX2_turns, cX2_turns, 3, (some .int), (0, 0), jc_12), (yX3_init, cX3_init, 1, none, (11, 214), jc_13), (yX3_isSheet, cX3_isSheet, 2, (some .boolean), (0, 0), jc_14), (yX3_isShelf, cX3_isShelf, 2, (some .boolean), (0, 0), jc_15), (yX3_hasItem, cX3_hasItem, 3, (some .boolean), (0, 0), jc_16), (yX3_hasItems, cX3_hasItems, 4, (some .boolean), (0, 0), jc_17), (yX3_refusalAs, cX3_refusalAs, 3, (some .int), (0, 0), jc_18), (yX3_makeRow, cX3_makeRow, 4, none, (0, 0), jc_19), (yX3_itemAt, cX3_itemAt, 3, (some .int), (0, 0), jc_20), (yX3_putItem, cX3_putItem, 4, none, (0, 0), jc_21), (yX3_put, cX3_put, 4, none, (0, 0), jc_22), (yX3_shadowOn, cX3_shadowOn, 2, (some .int), (0, 0), jc_23), (yX3_clearTrace, cX3_clearTrace, 1, none, (0, 0), jc_24), (yX3_perform, cX3_perform, 7, (some .int), (0, 0), jc_25), (yX3_actOf, cX3_actOf, 4, (some .int), (0, 0), jc_26), (yX3_begins, cX3_begins, 2, none, (0, 0), jc_27), (yX3_part, cX3_part, 3, (some .int), (0, 0), jc_28), (yX4_init, cX4_init, 1, none, (0, 0), jc_29), (yX4_paceIn, cX4_paceIn, 3, (some .int), (0, 0), jc_30), (yX4_lies, cX4_lies, 3, (some .int), (0, 0), jc_31), (yX5_init, cX5_init, 1, none, (28, 364), jc_32), (yX5_walkAll, cX5_walkAll, 4, none, (0, 0), jc_33), (yX5_walk, cX5_walk, 8, none, (0, 0), jc_34), (yX5_weigh, cX5_weigh, 4, none, (0, 0), jc_35), (yX5_valueOfGame, cX5_valueOfGame, 3, (some .int), (0, 0), jc_36), (yX5_valueFrom, cX5_valueFrom, 10, (some .int), (0, 0), jc_37), (yX5_makeRows, cX5_makeRows, 4, (some .int), (0, 0), jc_38), (yX5_hasRowPart, cX5_hasRowPart, 3, (some .boolean), (0, 0), jc_39)]
def jp_ys1 : List jw_Y := [(yX5_firstWrongRow, cX5_firstWrongRow, 5, (some .int), (0, 0), jc_40), (yX6_init, cX6_init, 1, none, (3, 62), jc_41), (yX6_copyFrom, cX6_copyFrom, 2, none, (0, 0), jc_42), (yX6_clear, cX6_clear, 1, none, (0, 0), jc_43), (yX6_hasLearnt, cX6_hasLearnt, 3, (some .boolean), (0, 0), jc_44), (yX6_howManyLearnt, cX6_howManyLearnt, 4, (some .int), (0, 0), jc_45), (yX6_learntBySome, cX6_learntBySome, 3, (some .int), (0, 0), jc_46), (yX6_gain, cX6_gain, 6, (some .boolean), (0, 0), jc_47), (yX7_init, cX7_init, 1, none, (11, 1041), jc_48), (yX7_take, cX7_take, 5, (some .int), (0, 0), jc_49), (yX7_readAll, cX7_readAll, 2, (some .int), (0, 0), jc_50), (yX7_cutIntoTokens, cX7_cutIntoTokens, 6, none, (0, 0), jc_51), (yX7_sortOf, cX7_sortOf, 2, (some .int), (0, 0), jc_52), (yX7_tokenAt, cX7_tokenAt, 4, (some .int), (0, 0), jc_53), (yX7_signAt, cX7_signAt, 2, (some .int), (0, 0), jc_54), (yX7_nameAt, cX7_nameAt, 6, (some .int), (0, 0), jc_55), (yX7_isNameAt, cX7_isNameAt, 5, (some .boolean), (0, 0), jc_56), (yX7_numberAt, cX7_numberAt, 5, (some .int), (0, 0), jc_57), (yX7_readRule, cX7_readRule, 3, (some .boolean), (0, 0), jc_58), (yX7_readCondition, cX7_readCondition, 5, (some .boolean), (0, 0), jc_59), (yX7_readOne, cX7_readOne, 4, (some .boolean), (0, 0), jc_60), (yX7_readWithin, cX7_readWithin, 2, (some .boolean), (0, 0), jc_61), (yX7_readComparison, cX7_readComparison, 3, (some .boolean), (0, 0), jc_62), (yX7_readSign, cX7_readSign, 2, (some .boolean), (0, 0), jc_63), (yX7_isValue, cX7_isValue, 2, (some .boolean), (0, 0), jc_64), (yX7_placeOfValue, cX7_placeOfValue, 2, (some .int), (0, 0), jc_65), (yX7_goOn, cX7_goOn, 1, none, (0, 0), jc_66), (yX8_init, cX8_init, 1, none, (7, 429), jc_67), (yX8_copyFrom, cX8_copyFrom, 2, none, (0, 0), jc_68), (yX8_clear, cX8_clear, 1, none, (0, 0), jc_69), (yX8_addValue, cX8_addValue, 3, (some .int), (0, 0), jc_70), (yX8_addStep, cX8_addStep, 4, none, (0, 0), jc_71), (yX8_addRule, cX8_addRule, 3, none, (0, 0), jc_72), (yX8_tell, cX8_tell, 6, none, (0, 0), jc_73), (yX8_deedFor, cX8_deedFor, 4, (some .int), (0, 0), jc_74), (yX8_holds, cX8_holds, 8, (some .boolean), (0, 0), jc_75), (yX9_init, cX9_init, 1, none, (36, 623), jc_76), (yX9_copyFrom, cX9_copyFrom, 3, none, (0, 0), jc_77), (yX9_isShadow, cX9_isShadow, 2, (some .boolean), (0, 0), jc_78), (yX9_isLesson, cX9_isLesson, 2, (some .boolean), (0, 0), jc_79)]
def jp_ys2 : List jw_Y := [(yX9_isAct, cX9_isAct, 2, (some .boolean), (0, 0), jc_80), (yX9_isSetOfLessons, cX9_isSetOfLessons, 2, (some .boolean), (0, 0), jc_81), (yX9_allLessons, cX9_allLessons, 1, (some .int), (0, 0), jc_82), (yX9_isOver, cX9_isOver, 2, (some .boolean), (0, 0), jc_83), (yX9_addShadow, cX9_addShadow, 5, (some .int), (0, 0), jc_84), (yX9_addLesson, cX9_addLesson, 8, (some .int), (0, 0), jc_85), (yX9_addReport, cX9_addReport, 6, (some .int), (0, 0), jc_86), (yX9_thing, cX9_thing, 2, (some (.object "ShadowSchool$Shade")), (0, 0), jc_87), (yX9_lengthOf, cX9_lengthOf, 2, (some .int), (0, 0), jc_88), (yX9_setQuarrel, cX9_setQuarrel, 4, none, (0, 0), jc_89), (yX9_howManyQuarrel, cX9_howManyQuarrel, 3, (some .int), (0, 0), jc_90), (yX9_goBy, cX9_goBy, 7, (some .int), (0, 0), jc_91), (yX9_goByLot, cX9_goByLot, 2, (some .int), (0, 0), jc_92), (yX9_choice, cX9_choice, 5, (some .int), (0, 0), jc_93), (yX9_openTo, cX9_openTo, 7, (some .int), (0, 0), jc_94), (yX9_deedOf, cX9_deedOf, 3, (some .int), (0, 0), jc_95), (yX9_easiest, cX9_easiest, 8, (some .int), (0, 0), jc_96), (yX9_firstFit, cX9_firstFit, 3, (some .int), (0, 0), jc_97), (yX9_howManyFit, cX9_howManyFit, 3, (some .int), (0, 0), jc_98), (yX9_fits, cX9_fits, 6, (some .boolean), (0, 0), jc_99), (yX10_init, cX10_init, 1, none, (0, 0), jc_100), (yX10_paceIn, cX10_paceIn, 3, (some .int), (0, 0), jc_101), (yX10_lengthIn, cX10_lengthIn, 3, (some .int), (0, 0), jc_102), (yX10_lies, cX10_lies, 3, (some .int), (0, 0), jc_103), (yX10_turns, cX10_turns, 3, (some .int), (0, 0), jc_104), (yX10_folds, cX10_folds, 3, (some .int), (0, 0), jc_105), (yX10_asks, cX10_asks, 3, (some .int), (0, 0), jc_106), (yX11_init, cX11_init, 1, none, (0, 0), jc_107), (yX11_paceIn, cX11_paceIn, 3, (some .int), (0, 0), jc_108), (yX11_lengthIn, cX11_lengthIn, 3, (some .int), (0, 0), jc_109), (yX11_folds, cX11_folds, 3, (some .int), (0, 0), jc_110), (yX12_init, cX12_init, 1, none, (132, 3005), jc_111), (yX12_shadow, cX12_shadow, 4, (some .int), (0, 0), jc_112), (yX12_shadowOf, cX12_shadowOf, 4, (some .int), (0, 0), jc_113), (yX12_change, cX12_change, 6, (some .int), (0, 0), jc_114), (yX12_remake, cX12_remake, 4, (some .int), (0, 0), jc_115), (yX12_lesson, cX12_lesson, 6, (some .int), (0, 0), jc_116), (yX12_lessonOf, cX12_lessonOf, 3, (some .int), (0, 0), jc_117), (yX12_points, cX12_points, 3, (some .int), (0, 0), jc_118), (yX12_dusk, cX12_dusk, 3, (some .int), (0, 0), jc_119)]
def jp_ys3 : List jw_Y := [(yX12_anew, cX12_anew, 2, (some .int), (0, 0), jc_120), (yX12_state, cX12_state, 2, (some .int), (0, 0), jc_121), (yX12_feed, cX12_feed, 4, (some .int), (0, 0), jc_122), (yX12_rules, cX12_rules, 2, (some .int), (0, 0), jc_123), (yX12_hour, cX12_hour, 1, (some .int), (0, 0), jc_124), (yX12_learnt, cX12_learnt, 2, (some .int), (0, 0), jc_125), (yX12_on, cX12_on, 2, (some .int), (0, 0), jc_126), (yX12_when, cX12_when, 4, (some .int), (0, 0), jc_127), (yX12_letGo, cX12_letGo, 3, (some .int), (0, 0), jc_128), (yX12_crowd, cX12_crowd, 5, (some .int), (0, 0), jc_129), (yX12_quickFor, cX12_quickFor, 2, (some .int), (0, 0), jc_130), (yX12_letGoBy, cX12_letGoBy, 5, (some .int), (0, 0), jc_131), (yX12_roomFor, cX12_roomFor, 2, (some .int), (0, 0), jc_132), (yX12_worthOfRest, cX12_worthOfRest, 4, (some .int), (0, 0), jc_133), (yX12_worthiest, cX12_worthiest, 9, (some .int), (0, 0), jc_134), (yX12_quarrel, cX12_quarrel, 5, (some .int), (0, 0), jc_135), (yX12_quarrels, cX12_quarrels, 2, (some .int), (0, 0), jc_136), (yX12_rooms, cX12_rooms, 1, (some .int), (0, 0), jc_137), (yX12_seat, cX12_seat, 2, (some .int), (0, 0), jc_138), (yX12_seatings, cX12_seatings, 2, (some .int), (0, 0), jc_139), (yX12_match, cX12_match, 5, (some .int), (0, 0), jc_140), (yX12_fewestRooms, cX12_fewestRooms, 2, (some .int), (0, 0), jc_141), (yX12_findSeats, cX12_findSeats, 4, (some .boolean), (0, 0), jc_142), (yX12_countSeatings, cX12_countSeatings, 5, (some .int), (0, 0), jc_143), (yX12_mayTake, cX12_mayTake, 4, (some .boolean), (0, 0), jc_144), (yX12_countGifts, cX12_countGifts, 8, (some .int), (0, 0), jc_145), (yX12_best, cX12_best, 2, (some .int), (0, 0), jc_146), (yX12_ith, cX12_ith, 3, (some .int), (0, 0), jc_147), (yX12_ways, cX12_ways, 2, (some .int), (0, 0), jc_148), (yX12_taught, cX12_taught, 3, (some .int), (0, 0), jc_149), (yX12_bars, cX12_bars, 4, (some .int), (0, 0), jc_150), (yX12_game, cX12_game, 2, (some .int), (0, 0), jc_151), (yX12_play, cX12_play, 2, (some .int), (0, 0), jc_152), (yX12_report, cX12_report, 5, (some .int), (0, 0), jc_153), (yX12_forget, cX12_forget, 2, (some .int), (0, 0), jc_154), (yX12_span, cX12_span, 3, (some .int), (0, 0), jc_155), (yX12_liar, cX12_liar, 2, (some .int), (0, 0), jc_156), (yX12_seed, cX12_seed, 3, (some .int), (0, 0), jc_157), (yX12_lot, cX12_lot, 1, (some .int), (0, 0), jc_158), (yX12_often, cX12_often, 8, (some .int), (0, 0), jc_159)]
def jp_ys4 : List jw_Y := [(yX12_prove, cX12_prove, 2, (some .int), (0, 0), jc_160), (yX12_row, cX12_row, 3, (some .int), (0, 0), jc_161), (yX12_alterRow, cX12_alterRow, 5, (some .int), (0, 0), jc_162), (yX12_judge, cX12_judge, 1, (some .int), (0, 0), jc_163), (yX12_sheet, cX12_sheet, 4, (some .int), (0, 0), jc_164), (yX12_write, cX12_write, 4, (some .int), (0, 0), jc_165), (yX12_item, cX12_item, 5, (some .int), (0, 0), jc_166), (yX12_goAll, cX12_goAll, 8, (some .int), (0, 0), jc_167), (yX12_wouldBe, cX12_wouldBe, 8, (some .int), (0, 0), jc_168), (yX12_shelf, cX12_shelf, 5, (some .int), (0, 0), jc_169), (yX12_taken, cX12_taken, 4, (some .int), (0, 0), jc_170), (yX12_act, cX12_act, 5, (some .int), (0, 0), jc_171), (yX12_trace, cX12_trace, 2, (some .int), (0, 0), jc_172), (yX12_many, cX12_many, 2, (some .int), (0, 0), jc_173), (yX12_keep, cX12_keep, 1, (some .int), (0, 0), jc_174), (yX12_again, cX12_again, 1, (some .int), (0, 0), jc_175), (yX12_isWithin, cX12_isWithin, 3, (some .boolean), (0, 0), jc_176), (yX12_isOrIsUnder, cX12_isOrIsUnder, 2, (some .boolean), (0, 0), jc_177), (yX12_copyRow, cX12_copyRow, 2, none, (0, 0), jc_178), (yX13_init, cX13_init, 1, none, (20, 2688), jc_179), (yX13_in, cX13_in, 3, (some .boolean), (0, 0), jc_180), (yX13_isShadow, cX13_isShadow, 2, (some .boolean), (0, 0), jc_181), (yX13_isLesson, cX13_isLesson, 2, (some .boolean), (0, 0), jc_182), (yX13_of, cX13_of, 3, (some .int), (0, 0), jc_183), (yX13_lessonNumber, cX13_lessonNumber, 3, (some .int), (0, 0), jc_184), (yX13_ones, cX13_ones, 3, (some .int), (0, 0), jc_185), (yX13_isOver, cX13_isOver, 1, (some .boolean), (0, 0), jc_186), (yX13_hasLearnt, cX13_hasLearnt, 3, (some .boolean), (0, 0), jc_187), (yX13_pointsOf, cX13_pointsOf, 3, (some .int), (0, 0), jc_188), (yX13_save, cX13_save, 3, none, (0, 0), jc_189), (yX13_load, cX13_load, 3, none, (0, 0), jc_190), (yX13_paceBy, cX13_paceBy, 3, (some .int), (0, 0), jc_191), (yX13_far, cX13_far, 2, (some .int), (0, 0), jc_192), (yX13_lengthBy, cX13_lengthBy, 4, (some .int), (0, 0), jc_193), (yX13_isUnder, cX13_isUnder, 2, (some .boolean), (0, 0), jc_194), (yX13_shadow, cX13_shadow, 6, (some .int), (0, 0), jc_195), (yX13_shadowOf, cX13_shadowOf, 3, (some .int), (0, 0), jc_196), (yX13_becomes, cX13_becomes, 4, (some .int), (0, 0), jc_197), (yX13_change, cX13_change, 4, (some .int), (0, 0), jc_198), (yX13_remake, cX13_remake, 3, (some .int), (0, 0), jc_199)]
def jp_ys5 : List jw_Y := [(yX13_lesson, cX13_lesson, 7, (some .int), (0, 0), jc_200), (yX13_learntBy, cX13_learntBy, 4, (some .int), (0, 0), jc_201), (yX13_lessonOf, cX13_lessonOf, 3, (some .int), (0, 0), jc_202), (yX13_points, cX13_points, 3, (some .int), (0, 0), jc_203), (yX13_dusk, cX13_dusk, 2, (some .int), (0, 0), jc_204), (yX13_anew, cX13_anew, 3, (some .int), (0, 0), jc_205), (yX13_state, cX13_state, 2, (some .int), (0, 0), jc_206), (yX13_feed, cX13_feed, 5, (some .int), (0, 0), jc_207), (yX13_byteAt, cX13_byteAt, 2, (some .int), (0, 0), jc_208), (yX13_isLetter, cX13_isLetter, 1, (some .boolean), (0, 0), jc_209), (yX13_isDigit, cX13_isDigit, 1, (some .boolean), (0, 0), jc_210), (yX13_advance, cX13_advance, 2, none, (0, 0), jc_211), (yX13_isWord, cX13_isWord, 3, (some .boolean), (0, 0), jc_212), (yX13_isMark, cX13_isMark, 2, (some .boolean), (0, 0), jc_213), (yX13_step, cX13_step, 3, none, (0, 0), jc_214), (yX13_kindSeen, cX13_kindSeen, 1, (some .int), (0, 0), jc_215), (yX13_factSeen, cX13_factSeen, 1, (some .int), (0, 0), jc_216), (yX13_readValue, cX13_readValue, 2, none, (0, 0), jc_217), (yX13_readTest, cX13_readTest, 2, none, (0, 0), jc_218), (yX13_readOne, cX13_readOne, 2, none, (0, 0), jc_219), (yX13_readAll, cX13_readAll, 1, none, (0, 0), jc_220), (yX13_readCondition, cX13_readCondition, 1, none, (0, 0), jc_221), (yX13_readRule, cX13_readRule, 5, none, (0, 0), jc_222), (yX13_rules, cX13_rules, 3, (some .int), (0, 0), jc_223), (yX13_factOf, cX13_factOf, 3, (some .int), (0, 0), jc_224), (yX13_told, cX13_told, 1, (some .int), (0, 0), jc_225), (yX13_joined, cX13_joined, 4, (some .int), (0, 0), jc_226), (yX13_holds, cX13_holds, 9, (some .boolean), (0, 0), jc_227), (yX13_emptySeats, cX13_emptySeats, 2, none, (0, 0), jc_228), (yX13_isOpen, cX13_isOpen, 4, (some .boolean), (0, 0), jc_229), (yX13_ruleFor, cX13_ruleFor, 3, (some .int), (0, 0), jc_230), (yX13_lacks, cX13_lacks, 3, (some .int), (0, 0), jc_231), (yX13_choiceOf, cX13_choiceOf, 6, (some .int), (0, 0), jc_232), (yX13_sits, cX13_sits, 4, (some .int), (0, 0), jc_233), (yX13_goes, cX13_goes, 5, (some .int), (0, 0), jc_234), (yX13_hour, cX13_hour, 1, (some .int), (0, 0), jc_235), (yX13_learnt, cX13_learnt, 2, (some .int), (0, 0), jc_236), (yX13_rest, cX13_rest, 4, (some .int), (0, 0), jc_237), (yX13_restWorth, cX13_restWorth, 3, (some .int), (0, 0), jc_238), (yX13_on, cX13_on, 2, (some .int), (0, 0), jc_239)]
def jp_ys6 : List jw_Y := [(yX13_when, cX13_when, 4, (some .int), (0, 0), jc_240), (yX13_allLessons, cX13_allLessons, 1, (some .int), (0, 0), jc_241), (yX13_letGo, cX13_letGo, 4, (some .int), (0, 0), jc_242), (yX13_crowd, cX13_crowd, 6, (some .int), (0, 0), jc_243), (yX13_dearest, cX13_dearest, 8, (some .int), (0, 0), jc_244), (yX13_quickFor, cX13_quickFor, 2, (some .int), (0, 0), jc_245), (yX13_roomFor, cX13_roomFor, 2, (some .int), (0, 0), jc_246), (yX13_letGoBy, cX13_letGoBy, 6, (some .int), (0, 0), jc_247), (yX13_quarrel, cX13_quarrel, 5, (some .int), (0, 0), jc_248), (yX13_quarrels, cX13_quarrels, 2, (some .int), (0, 0), jc_249), (yX13_isSeating, cX13_isSeating, 4, (some .boolean), (0, 0), jc_250), (yX13_isNextWay, cX13_isNextWay, 3, (some .boolean), (0, 0), jc_251), (yX13_allInFirst, cX13_allInFirst, 2, none, (0, 0), jc_252), (yX13_isFirstSeating, cX13_isFirstSeating, 2, (some .boolean), (0, 0), jc_253), (yX13_rooms, cX13_rooms, 2, (some .int), (0, 0), jc_254), (yX13_seat, cX13_seat, 3, (some .int), (0, 0), jc_255), (yX13_seatings, cX13_seatings, 4, (some .int), (0, 0), jc_256), (yX13_match, cX13_match, 10, (some .int), (0, 0), jc_257), (yX13_planHours, cX13_planHours, 3, (some .int), (0, 0), jc_258), (yX13_plans, cX13_plans, 4, (some .int), (0, 0), jc_259), (yX13_actIn, cX13_actIn, 6, (some .int), (0, 0), jc_260), (yX13_plays, cX13_plays, 5, (some .int), (0, 0), jc_261), (yX13_findBest, cX13_findBest, 4, none, (0, 0), jc_262), (yX13_best, cX13_best, 2, (some .int), (0, 0), jc_263), (yX13_ith, cX13_ith, 4, (some .int), (0, 0), jc_264), (yX13_ways, cX13_ways, 2, (some .int), (0, 0), jc_265), (yX13_someLearnt, cX13_someLearnt, 3, (some .int), (0, 0), jc_266), (yX13_actsOf, cX13_actsOf, 5, (some .int), (0, 0), jc_267), (yX13_findTaught, cX13_findTaught, 7, none, (0, 0), jc_268), (yX13_taught, cX13_taught, 3, (some .int), (0, 0), jc_269), (yX13_bars, cX13_bars, 5, (some .int), (0, 0), jc_270), (yX13_valueOf, cX13_valueOf, 9, (some .int), (0, 0), jc_271), (yX13_game, cX13_game, 2, (some .int), (0, 0), jc_272), (yX13_play, cX13_play, 3, (some .int), (0, 0), jc_273), (yX13_report, cX13_report, 6, (some .int), (0, 0), jc_274), (yX13_forget, cX13_forget, 1, (some .int), (0, 0), jc_275), (yX13_fits, cX13_fits, 7, (some .boolean), (0, 0), jc_276), (yX13_firstMoment, cX13_firstMoment, 3, (some .int), (0, 0), jc_277), (yX13_span, cX13_span, 4, (some .int), (0, 0), jc_278), (yX13_liar, cX13_liar, 2, (some .int), (0, 0), jc_279)]
def jp_ys7 : List jw_Y := [(yX13_seed, cX13_seed, 2, (some .int), (0, 0), jc_280), (yX13_lotGoes, cX13_lotGoes, 1, (some .int), (0, 0), jc_281), (yX13_lot, cX13_lot, 1, (some .int), (0, 0), jc_282), (yX13_often, cX13_often, 7, (some .int), (0, 0), jc_283), (yX13_prove, cX13_prove, 4, (some .int), (0, 0), jc_284), (yX13_isCell, cX13_isCell, 3, (some .boolean), (0, 0), jc_285), (yX13_row, cX13_row, 3, (some .int), (0, 0), jc_286), (yX13_alterRow, cX13_alterRow, 5, (some .int), (0, 0), jc_287), (yX13_isRight, cX13_isRight, 3, (some .boolean), (0, 0), jc_288), (yX13_judge, cX13_judge, 2, (some .int), (0, 0), jc_289), (yX13_isSheet, cX13_isSheet, 1, (some .boolean), (0, 0), jc_290), (yX13_lacksSort, cX13_lacksSort, 3, (some .int), (0, 0), jc_291), (yX13_sheet, cX13_sheet, 5, (some .int), (0, 0), jc_292), (yX13_narrowed, cX13_narrowed, 2, (some .long), (0, 0), jc_293), (yX13_write, cX13_write, 4, (some .int), (0, 0), jc_294), (yX13_item, cX13_item, 5, (some .int), (0, 0), jc_295), (yX13_goAll, cX13_goAll, 10, (some .int), (0, 0), jc_296), (yX13_wouldGo, cX13_wouldGo, 9, (some .int), (0, 0), jc_297), (yX13_wouldBe, cX13_wouldBe, 6, (some .int), (0, 0), jc_298), (yX13_isHeld, cX13_isHeld, 3, (some .boolean), (0, 0), jc_299), (yX13_shelf, cX13_shelf, 4, (some .int), (0, 0), jc_300), (yX13_kindOn, cX13_kindOn, 2, (some .int), (0, 0), jc_301), (yX13_taken, cX13_taken, 4, (some .int), (0, 0), jc_302), (yX13_ran, cX13_ran, 2, none, (0, 0), jc_303), (yX13_plainLies, cX13_plainLies, 2, (some .int), (0, 0), jc_304), (yX13_lies, cX13_lies, 2, (some .int), (0, 0), jc_305), (yX13_plainTurns, cX13_plainTurns, 2, (some .int), (0, 0), jc_306), (yX13_turns, cX13_turns, 2, (some .int), (0, 0), jc_307), (yX13_plainFolds, cX13_plainFolds, 2, (some .int), (0, 0), jc_308), (yX13_slowFolds, cX13_slowFolds, 2, (some .int), (0, 0), jc_309), (yX13_folds, cX13_folds, 3, (some .int), (0, 0), jc_310), (yX13_plainAsks, cX13_plainAsks, 2, (some .int), (0, 0), jc_311), (yX13_asks, cX13_asks, 3, (some .int), (0, 0), jc_312), (yX13_act, cX13_act, 6, (some .int), (0, 0), jc_313), (yX13_trace, cX13_trace, 2, (some .int), (0, 0), jc_314), (yX13_pairsThatQuarrel, cX13_pairsThatQuarrel, 3, (some .int), (0, 0), jc_315), (yX13_many, cX13_many, 2, (some .int), (0, 0), jc_316), (yX13_keep, cX13_keep, 2, (some .int), (0, 0), jc_317), (yX13_again, cX13_again, 2, (some .int), (0, 0), jc_318), (yJ6_compare_7cf53, cJ6_compare_7cf53, 2, (some .int), (0, 0), jc_319)]
def jp_ys8 : List jw_Y := [(yJ6_numberOfLeadingZeros_0f7a4, cJ6_numberOfLeadingZeros_0f7a4, 2, (some .int), (0, 0), jc_320), (yJ6_numberOfTrailingZeros_0f7a4, cJ6_numberOfTrailingZeros_0f7a4, 2, (some .int), (0, 0), jc_321), (yJ6_bitCount_0f7a4, cJ6_bitCount_0f7a4, 1, (some .int), (0, 0), jc_322), (yJ9_abs_0f7a4, cJ9_abs_0f7a4, 1, (some .int), (0, 0), jc_323), (yJ9_max_7cf53, cJ9_max_7cf53, 2, (some .int), (0, 0), jc_324), (yJ9_min_7cf53, cJ9_min_7cf53, 2, (some .int), (0, 0), jc_325), (yJ7_fill_53178, cJ7_fill_53178, 4, none, (0, 0), jc_326)]
def jp_ys : List jw_Y := (jp_ys0 ++ (jp_ys1 ++ (jp_ys2 ++ (jp_ys3 ++ (jp_ys4 ++ (jp_ys5 ++ (jp_ys6 ++ (jp_ys7 ++ jp_ys8))))))))
def jp_Ns : List Cond := [(Cond.methodLinkNest "ShadowSchool" (9 : Nat) ({ cls := "ShadowSchool$School", name := "<init>", desc := "()V" } : MethodName) "ShadowSchool"), (Cond.methodLinkNest "ShadowSchool$School" (56 : Nat) ({ cls := "ShadowSchool$Rules", name := "<init>", desc := "()V" } : MethodName) "ShadowSchool"), (Cond.methodLinkNest "ShadowSchool$School" (63 : Nat) ({ cls := "ShadowSchool$Progress", name := "<init>", desc := "()V" } : MethodName) "ShadowSchool"), (Cond.methodLinkNest "ShadowSchool$School" (70 : Nat) ({ cls := "ShadowSchool$Shade", name := "<init>", desc := "()V" } : MethodName) "ShadowSchool"), (Cond.methodLinkNest "ShadowSchool$School" (73 : Nat) ({ cls := "ShadowSchool$Joined", name := "<init>", desc := "()V" } : MethodName) "ShadowSchool"), (Cond.methodLinkNest "ShadowSchool$Joined" (1 : Nat) ({ cls := "ShadowSchool$Shade", name := "<init>", desc := "()V" } : MethodName) "ShadowSchool"), (Cond.methodLinkNest "ShadowSchool$School" (76 : Nat) ({ cls := "ShadowSchool$Gifted", name := "<init>", desc := "()V" } : MethodName) "ShadowSchool"), (Cond.methodLinkNest "ShadowSchool$Gifted" (1 : Nat) ({ cls := "ShadowSchool$Shade", name := "<init>", desc := "()V" } : MethodName) "ShadowSchool"), (Cond.methodLinkNest "ShadowSchool$School" (79 : Nat) ({ cls := "ShadowSchool$Coloured", name := "<init>", desc := "()V" } : MethodName) "ShadowSchool"), (Cond.methodLinkNest "ShadowSchool$Coloured" (1 : Nat) ({ cls := "ShadowSchool$Gifted", name := "<init>", desc := "()V" } : MethodName) "ShadowSchool"), (Cond.methodLinkNest "ShadowSchool$School" (82 : Nat) ({ cls := "ShadowSchool$Slow", name := "<init>", desc := "()V" } : MethodName) "ShadowSchool"), (Cond.methodLinkNest "ShadowSchool$Slow" (1 : Nat) ({ cls := "ShadowSchool$Shade", name := "<init>", desc := "()V" } : MethodName) "ShadowSchool"), (Cond.methodLinkNest "ShadowSchool$School" (85 : Nat) ({ cls := "ShadowSchool$Borrowed", name := "<init>", desc := "()V" } : MethodName) "ShadowSchool"), (Cond.methodLinkNest "ShadowSchool$Borrowed" (1 : Nat) ({ cls := "ShadowSchool$Slow", name := "<init>", desc := "()V" } : MethodName) "ShadowSchool"), (Cond.methodLinkNest "ShadowSchool" (21 : Nat) ({ cls := "ShadowSchool$Progress", name := "<init>", desc := "()V" } : MethodName) "ShadowSchool"), (Cond.methodLinkNest "ShadowSchool" (32 : Nat) ({ cls := "ShadowSchool$Reader", name := "<init>", desc := "()V" } : MethodName) "ShadowSchool"), (Cond.methodLinkNest "ShadowSchool$Reader" (23 : Nat) ({ cls := "ShadowSchool$Rules", name := "<init>", desc := "()V" } : MethodName) "ShadowSchool"), (Cond.methodLinkNest "ShadowSchool" (39 : Nat) ({ cls := "ShadowSchool$Plans", name := "<init>", desc := "()V" } : MethodName) "ShadowSchool"), (Cond.methodLinkNest "ShadowSchool$Plans" (11 : Nat) ({ cls := "ShadowSchool$Progress", name := "<init>", desc := "()V" } : MethodName) "ShadowSchool"), (Cond.methodLinkNest "ShadowSchool" (46 : Nat) ({ cls := "ShadowSchool$Host", name := "<init>", desc := "()V" } : MethodName) "ShadowSchool"), (Cond.methodLinkNest "ShadowSchool$Rules" (47 : Nat) ({ cls := "ShadowSchool", name := "isOrIsUnder", desc := "(II)Z" } : MethodName) "ShadowSchool"), (Cond.methodLinkNest "ShadowSchool$Reader" (79 : Nat) ({ cls := "ShadowSchool", name := "isWithin", desc := "(III)Z" } : MethodName) "ShadowSchool"), (Cond.methodLinkNest "ShadowSchool$Rules" (43 : Nat) ({ cls := "ShadowSchool", name := "copyRow", desc := "([I[I)V" } : MethodName) "ShadowSchool"), (Cond.methodLinkNest "ShadowSchool$Progress" (28 : Nat) ({ cls := "ShadowSchool", name := "copyRow", desc := "([I[I)V" } : MethodName) "ShadowSchool"), (Cond.methodLinkNest "ShadowSchool$Plans" (90 : Nat) ({ cls := "ShadowSchool", name := "copyRow", desc := "([I[I)V" } : MethodName) "ShadowSchool"), (Cond.methodLinkNest "ShadowSchool$School" (93 : Nat) ({ cls := "ShadowSchool", name := "copyRow", desc := "([I[I)V" } : MethodName) "ShadowSchool"), (Cond.castable "ShadowSchool$Joined" "ShadowSchool$Shade"), (Cond.castable "ShadowSchool$Gifted" "ShadowSchool$Shade"), (Cond.castable "ShadowSchool$Coloured" "ShadowSchool$Shade"), (Cond.castable "ShadowSchool$Slow" "ShadowSchool$Shade"), (Cond.castable "ShadowSchool$Borrowed" "ShadowSchool$Shade")]
def jp_Tg : List Cond := lw_tbl.filter goodWord
end
section
/-! ===== the program fits the tables ===== -/
def jp_pl (T : List Cond) : List Cond → List Nat → Bool
  | [], [] => true
  | w :: ws, i :: pl => (match T[i]? with
    | some v => decide (v = w)
    | none => false) && jp_pl T ws pl
  | _, _ => false
def jp_chkI (own nm : String) (cc : ByteArray) (q : jw_I) (pl : List Nat × List Nat) : Bool :=
  decide (decode cc q.1 = .ok (q.2.1, q.2.2.1)) && ((jw_len q.2.1 == 0 || q.2.2.1 == jw_len q.2.1) && (jw_stat q && ((jw_len q.2.1 == 1 || (jw_isS q.2.1 || (jw_isH q.2.1 || jw_isC q.2.1))) && (jp_pl lw_tbl (jw_wd own jp_cl q ++ jw_wc own jp_cl jp_ys q) pl.1 && ((jw_wd own jp_cl q ++ jw_wc own jp_cl jp_ys q).all goodWord && (jw_wf own nm jp_cl q && (jp_pl jp_Ns (jw_nc own jp_ys q) pl.2 && jw_fc jp_kd jp_cl jp_ys q)))))))
def jp_chkL (own nm : String) (cc : ByteArray) : List jw_I → List (List Nat × List Nat) → Bool
  | [], [] => true
  | q :: cs, p :: pl => jp_chkI own nm cc q p && jp_chkL own nm cc cs pl
  | _, _ => false
def jp_chkY (y : jw_Y) (pl : List (List Nat × List Nat)) : Bool := plainName y.1.cls && jp_chkL y.1.cls y.1.name y.2.1 y.2.2.2.2.2 pl
theorem jp_pl_ok {T : List Cond} : ∀ {ws : List Cond} {pl : List Nat}, jp_pl T ws pl = true → ∀ w ∈ ws, w ∈ T
  | [], _, _, w, h => by cases h
  | x :: ws, [], h, _, _ => by cases h
  | x :: ws, i :: pl, h, w, hw => by
    rw [jp_pl] at h
    simp only [Bool.and_eq_true] at h
    rcases List.mem_cons.mp hw with e | e
    · have h1 := h.1
      split at h1
      · rename_i v hv
        rw [e, ← of_decide_eq_true h1]
        exact List.mem_of_getElem? hv
      · cases h1
    · exact jp_pl_ok h.2 w e
theorem jp_chkI_ok {own nm : String} {cc : ByteArray} {q : jw_I} {pl : List Nat × List Nat} (h : jp_chkI own nm cc q pl = true) : jw_okI own nm jp_kd jp_cl jp_ys jp_Tg jp_Ns cc q := by
  unfold jp_chkI at h
  simp only [Bool.and_eq_true, Bool.or_eq_true, beq_iff_eq] at h
  obtain ⟨h1, h2, h3, h4, h5, h6, h7, h8, h9⟩ := h
  have hT : ∀ w ∈ jw_wd own jp_cl q ++ jw_wc own jp_cl jp_ys q, w ∈ jp_Tg := fun w hw => List.mem_filter.mpr ⟨jp_pl_ok h5 w hw, List.all_eq_true.mp h6 w hw⟩
  exact ⟨⟨of_decide_eq_true h1, h2, h3⟩, by rcases h4 with h | h | h | h <;> simp [h], fun w hw => hT w (List.mem_append_left _ hw), h7, fun w hw => hT w (List.mem_append_right _ hw), jp_pl_ok h8, h9⟩
theorem jp_chkL_ok {own nm : String} {cc : ByteArray} : ∀ {cs : List jw_I} {pl : List (List Nat × List Nat)}, jp_chkL own nm cc cs pl = true → ∀ q ∈ cs, jw_okI own nm jp_kd jp_cl jp_ys jp_Tg jp_Ns cc q
  | [], _, _, q, h => by cases h
  | x :: cs, [], h, _, _ => by cases h
  | x :: cs, p :: pl, h, q, hq => by
    rw [jp_chkL] at h
    simp only [Bool.and_eq_true] at h
    rcases List.mem_cons.mp hq with e | e
    · rw [e]; exact jp_chkI_ok h.1
    · exact jp_chkL_ok h.2 q e
theorem jp_chkY_ok {y : jw_Y} {pl : List (List Nat × List Nat)} (h : jp_chkY y pl = true) : plainName y.1.cls = true ∧ ∀ q ∈ y.2.2.2.2.2, jw_okI y.1.cls y.1.name jp_kd jp_cl jp_ys jp_Tg jp_Ns y.2.1 q := by
  unfold jp_chkY at h
  simp only [Bool.and_eq_true] at h
  exact ⟨h.1, jp_chkL_ok h.2⟩
end
section
def jx_ShC : List jw_S := [.inl (12, [.inr (some 1), .inr (some 38), .inl 2, .inr (some 75), .inr (some 79), .inr (some 80), .inr (some 92), .inr (some 121)]), .inl (9, [.inl 0, .inr (some 2), .inr (some 3), .inr (some 4), .inr (some 5), .inl 0, .inr (some 6), .inr (some 7), .inr (some 8), .inr (some 9), .inr (some 10), .inr (some 11), .inl 0, .inr (some 12), .inl 0, .inl 0, .inr (some 19), .inr (some 27), .inr (some 31)]), .inr (0, 6, []), .inr (0, 6, []), .inr (0, 6, []), .inr (0, 6, []), .inr (0, 8, []), .inr (0, 8, []), .inr (0, 8, []), .inr (0, 8, []), .inr (0, 8, []), .inr (0, 17, []), .inr (4, 6, [some 13, some 14, some 15, some 16, some 17, some 18]), .inr (0, 4, []), .inr (0, 4, []), .inr (0, 4, []), .inr (0, 4, []), .inr (0, 4, []), .inr (0, 4, []), .inl (8, [.inl 0, .inl 0, .inr (some 20), .inr (some 21), .inr (some 22), .inr (some 23), .inr (some 24), .inr (some 25), .inr (some 26), .inl 0]), .inr (0, 8, []), .inr (0, 8, []), .inr (0, 8, []), .inr (0, 100, []), .inr (0, 100, []), .inr (0, 100, []), .inr (0, 105, []), .inl (6, [.inl 0, .inl 0, .inr (some 28), .inr (some 29), .inr (some 30)]), .inr (0, 48, []), .inr (0, 6, []), .inr (0, 8, []), .inr (3, 6, [some 32, some 33, some 34, some 35, some 36, some 37]), .inl (10, []), .inl (4, []), .inl (2, []), .inl (1, []), .inl (11, []), .inl (0, []), .inl (9, [.inl 0, .inr (some 39), .inr (some 40), .inr (some 41), .inr (some 42), .inl 0, .inr (some 43), .inr (some 44), .inr (some 45), .inr (some 46), .inr (some 47), .inr (some 48), .inl 0, .inr (some 49), .inl 0, .inl 0, .inr (some 56), .inr (some 64), .inr (some 68)]), .inr (0, 6, []), .inr (0, 6, []), .inr (0, 6, []), .inr (0, 6, []), .inr (0, 8, []), .inr (0, 8, []), .inr (0, 8, []), .inr (0, 8, []), .inr (0, 8, []), .inr (0, 17, []), .inr (4, 6, [some 50, some 51, some 52, some 53, some 54, some 55]), .inr (0, 4, []), .inr (0, 4, []), .inr (0, 4, []), .inr (0, 4, []), .inr (0, 4, []), .inr (0, 4, []), .inl (8, [.inl 0, .inl 0, .inr (some 57), .inr (some 58), .inr (some 59), .inr (some 60), .inr (some 61), .inr (some 62), .inr (some 63), .inl 0]), .inr (0, 8, []), .inr (0, 8, []), .inr (0, 8, []), .inr (0, 100, []), .inr (0, 100, []), .inr (0, 100, []), .inr (0, 105, []), .inl (6, [.inl 0, .inl 0, .inr (some 65), .inr (some 66), .inr (some 67)]), .inr (0, 48, []), .inr (0, 6, []), .inr (0, 8, []), .inr (3, 6, [some 69, some 70, some 71, some 72, some 73, some 74]), .inl (10, []), .inl (4, []), .inl (2, []), .inl (1, []), .inl (11, []), .inl (0, []), .inl (6, [.inl 0, .inl 0, .inr (some 76), .inr (some 77), .inr (some 78)]), .inr (0, 48, []), .inr (0, 6, []), .inr (0, 8, []), .inr (0, 6, []), .inl (7, [.inl 0, .inr (some 81), .inr (some 82), .inr (some 83), .inl 0, .inr (some 84)]), .inr (0, 200, []), .inr (0, 201, []), .inr (0, 201, []), .inl (8, [.inl 0, .inl 0, .inr (some 85), .inr (some 86), .inr (some 87), .inr (some 88), .inr (some 89), .inr (some 90), .inr (some 91), .inl 0]), .inr (0, 8, []), .inr (0, 8, []), .inr (0, 8, []), .inr (0, 100, []), .inr (0, 100, []), .inr (0, 100, []), .inr (0, 105, []), .inl (5, [.inr (some 93), .inr (some 114), .inl 0, .inl 0, .inl 0, .inr (some 115), .inl 0, .inl 0, .inl 0, .inl 0, .inl 0, .inr (some 116)]), .inr (2, 5, [some 94, some 98, some 102, some 106, some 110]), .inl (6, [.inl 0, .inl 0, .inr (some 95), .inr (some 96), .inr (some 97)]), .inr (0, 48, []), .inr (0, 6, []), .inr (0, 8, []), .inl (6, [.inl 0, .inl 0, .inr (some 99), .inr (some 100), .inr (some 101)]), .inr (0, 48, []), .inr (0, 6, []), .inr (0, 8, []), .inl (6, [.inl 0, .inl 0, .inr (some 103), .inr (some 104), .inr (some 105)]), .inr (0, 48, []), .inr (0, 6, []), .inr (0, 8, []), .inl (6, [.inl 0, .inl 0, .inr (some 107), .inr (some 108), .inr (some 109)]), .inr (0, 48, []), .inr (0, 6, []), .inr (0, 8, []), .inl (6, [.inl 0, .inl 0, .inr (some 111), .inr (some 112), .inr (some 113)]), .inr (0, 48, []), .inr (0, 6, []), .inr (0, 8, []), .inr (0, 4, []), .inr (0, 4, []), .inr (4, 4, [some 117, some 118, some 119, some 120]), .inr (0, 3, []), .inr (0, 3, []), .inr (0, 3, []), .inr (0, 3, []), .inl (3, [.inr (some 122), .inr (some 123), .inr (some 124), .inr (some 129), .inr (some 130), .inr (some 131), .inr (some 132), .inl 0, .inl 2, .inl 0, .inl 0]), .inr (0, 4, []), .inr (0, 4, []), .inr (4, 4, [some 125, some 126, some 127, some 128]), .inr (0, 40, []), .inr (0, 40, []), .inr (0, 40, []), .inr (0, 40, []), .inr (0, 4, []), .inr (0, 4, []), .inr (0, 4, []), .inr (0, 30, [])]
def jx_ShM : List jw_S := [.inl (13, [.inr (some 1), .inr (some 2), .inr (some 3), .inr (some 4), .inr (some 5), .inl 2, .inr (some 6), .inl 0, .inl 0, .inl 0, .inl 0, .inl 1, .inl 0, .inl 2, .inr (some 7), .inr (some 8), .inl 0, .inl 0, .inr (some 9), .inr (some 10), .inr (some 11), .inr (some 12), .inl 0, .inl 0, .inl 0, .inl 0, .inl 0, .inl 0, .inr (some 13), .inl 0, .inr (some 14), .inr (some 15), .inr (some 16), .inr (some 17), .inr (some 18), .inr (some 19), .inl 0, .inl 0, .inl 0, .inr (some 20), .inl 0, .inl 2]), .inr (0, 56, []), .inr (0, 392, []), .inr (0, 526, []), .inr (0, 56, []), .inr (0, 526, []), .inr (0, 200, []), .inr (0, 32, []), .inr (0, 400, []), .inr (0, 200, []), .inr (0, 8, []), .inr (0, 6, []), .inr (0, 64, []), .inr (0, 12, []), .inr (0, 4, []), .inr (0, 4, []), .inr (1, 160, []), .inr (0, 4, []), .inr (0, 4, []), .inr (0, 4, []), .inr (0, 30, [])]
/-! ===== the decompiled methods' base ===== -/
def jx_W (Sh : List jw_S) (d : Nat) (ret : Option FieldType) (cs : List jw_I) (Q : jw_Q) (n pc : Nat) (L : jw_L) (st : List Value) (σ : jw_M) : Prop := jw_wp jp_kd (jw_C jp_kd jp_ys d) (jw_bud jp_ys) (Sh.length + 0, jw_sz Sh + 0) ret cs (fun v h' => Q v h' ∧ h'.1.length = Sh.length + 0 ∧ jw_sz h'.1 = jw_sz Sh + 0) n pc L st (Sh, σ)
theorem jx_C {Sh : List jw_S} {d mid : Nat} {as : List Value} {σ : jw_M} {Q : jw_Q} {nm : MethodName} {cc : ByteArray} {nL : Nat} {ret : Option FieldType} {cs : List jw_I} (hy : jp_ys[mid]? = some (nm, cc, nL, ret, (0, 0), cs)) (hc : (Nat.ble (jw_args as).length nL && jw_nod as) = true) (hw : ∃ n, jx_W Sh d ret cs Q n 0 (jw_entry as nL) [] σ) : jw_C jp_kd jp_ys (d + 1) mid as (Sh, σ) Q := by
  rw [jw_C, hy]
  dsimp only
  rw [hc]
  exact hw
/-- a write -/
def jx_w (σ : jw_M) (a i : Nat) (v : Int32) : jw_M := (jw_up σ.1 a i v, σ.2)
def jx_wl (σ : jw_M) (a i : Nat) (v : Int64) : jw_M := (σ.1, jw_up σ.2 a i v)
def jx_in (i : Int32) (n : Nat) : Bool := decide (¬ (i < 0 ∨ n ≤ i.toNatClampNeg))
theorem jx_in_ok {i : Int32} {n : Nat} (h : jx_in i n = true) : vp_in i n := by
  unfold vp_in
  exact of_decide_eq_true h
theorem jx_ix4 {i : Int32} (h : vp_in i 4) : i = 0 ∨ i = 1 ∨ i = 2 ∨ i = 3 := by
  obtain ⟨j, hj, rfl⟩ := vp_in_of h (by decide)
  rcases (show j = 0 ∨ j = 1 ∨ j = 2 ∨ j = 3 by omega) with rfl | rfl | rfl | rfl <;> decide
theorem jx_ix5 {i : Int32} (h : vp_in i 5) : i = 0 ∨ i = 1 ∨ i = 2 ∨ i = 3 ∨ i = 4 := by
  obtain ⟨j, hj, rfl⟩ := vp_in_of h (by decide)
  rcases (show j = 0 ∨ j = 1 ∨ j = 2 ∨ j = 3 ∨ j = 4 by omega) with rfl | rfl | rfl | rfl | rfl <;> decide
theorem jx_ix6 {i : Int32} (h : vp_in i 6) : i = 0 ∨ i = 1 ∨ i = 2 ∨ i = 3 ∨ i = 4 ∨ i = 5 := by
  obtain ⟨j, hj, rfl⟩ := vp_in_of h (by decide)
  rcases (show j = 0 ∨ j = 1 ∨ j = 2 ∨ j = 3 ∨ j = 4 ∨ j = 5 by omega) with rfl | rfl | rfl | rfl | rfl | rfl <;> decide
set_option maxRecDepth 20000 in
theorem jx_ysl : jp_ys.length = 327 := by decide +kernel
theorem jx_none (m : Nat) (h : 327 ≤ m) : jp_ys[m]? = none := List.getElem?_eq_none (by rw [jx_ysl]; exact h)
theorem jx_len {d : Nat} {h : jw_H} {Q : jw_Q} (hd : 5 ≤ d) (hQ : Q (some (.int 103)) h) : jw_C jp_kd jp_ys d 100000 [.ref jw_str] h Q := by
  obtain ⟨d, rfl⟩ : ∃ e, d = e + 1 := ⟨d - 1, by omega⟩
  rw [jw_C, jx_none _ (Nat.le_of_ble_eq_true rfl)]
  dsimp only
  exact Or.inl ⟨rfl, by omega, rfl, hQ⟩
theorem jx_chr {d : Nat} {h : jw_H} {Q : jw_Q} {i : Int32} (hd : 5 ≤ d) (hi : vp_in i 103) (hQ : Q (some (.int (jw_chr i))) h) : jw_C jp_kd jp_ys d 100001 [.ref jw_str, .int i] h Q := by
  obtain ⟨d, rfl⟩ : ∃ e, d = e + 1 := ⟨d - 1, by omega⟩
  rw [jw_C, jx_none _ (Nat.le_of_ble_eq_true rfl)]
  dsimp only
  exact Or.inr ⟨rfl, by omega, i, rfl, hi, hQ⟩
theorem jx_alen {Sh : List jw_S} {σ : jw_M} {a n : Nat} {rs : List (Option Nat)} {f : Int32 → Prop} (ha : Sh[a]? = some (.inr (0, n, rs))) (hf : f (Int32.ofNat n)) : jw_alen (Sh, σ) a f := by
  unfold jw_alen
  dsimp only
  rw [ha]
  exact hf
theorem jx_iast {Sh : List jw_S} {σ : jw_M} {a n : Nat} {rs : List (Option Nat)} {x i : Int32} {r : List Value} {f : List Value → jw_H → Prop} (ha : Sh[a]? = some (.inr (0, n, rs))) (hi : vp_in i n) (hf : f r (Sh, jw_up σ.1 a i.toNatClampNeg x, σ.2)) : jw_iast (Sh, σ) (.int x :: .int i :: .ref a :: r) f := by
  unfold jw_iast
  dsimp only
  rw [ha]
  exact ⟨hi, hf⟩
theorem jx_copy {Sh : List jw_S} {σ : jw_M} {a b n : Nat} {rs rs' : List (Option Nat)} {m : Int32} {f : List Value → jw_H → Prop} (ha : Sh[a]? = some (.inr (0, n, rs))) (hb : Sh[b]? = some (.inr (0, n, rs'))) (hm : ¬ m < 0) (hn : m.toNatClampNeg = n) (hf : f [] (Sh, jw_lay σ.1 b (va_cpy (σ.1 a) (σ.1 b) 0 0 n), σ.2)) : jw_copy (Sh, σ) [.int m, .int (Int32.ofInt 0), .ref b, .int (Int32.ofInt 0), .ref a] f := by
  unfold jw_copy
  dsimp only
  rw [ha, hb]
  have z0 : (Int32.ofInt 0).toNatClampNeg = 0 := by decide
  refine ⟨⟨by decide, by decide, hm, by rw [z0, hn]; omega, by rw [z0, hn]; omega⟩, ?_⟩
  rw [z0, hn]
  exact hf
/-- an array's copy, of arrays of one length -/
def f_F_copyRow (N a b n n2 : Nat) (σ : jw_M) : Option jw_M := bif n == n2 && Nat.ble n 1000 then some (jw_lay σ.1 b (va_cpy (σ.1 a) (σ.1 b) 0 0 n), σ.2) else none
def f_J_min (N : Nat) (x0 x1 : Int32) (σ : jw_M) : Option (Int32 × jw_M) := if x1 < x0 then some (x1, σ) else some (x0, σ)
set_option maxRecDepth 20000 in
theorem s_J_min {N d : Nat} {x0 x1 : Int32} (hd : 1 ≤ d) {σ : jw_M} {z : Int32 × jw_M} {Q : jw_Q} (h : f_J_min N x0 x1 σ = some z) (hQ : Q (some (.int z.1)) (jx_ShC, z.2)) : jw_C jp_kd jp_ys d 325 [.int x0, .int x1] (jx_ShC, σ) Q := by
  obtain ⟨d, rfl⟩ : ∃ e, d = e + 1 := ⟨d - 1, by omega⟩
  refine jx_C rfl rfl ?_
  unfold f_J_min at h
  by_cases c1 : x1 < x0
  · rw [if_pos c1] at h
    cases h
    exact ⟨5, And.intro (fun _ => And.intro hQ (And.intro rfl rfl)) (fun zz => absurd c1 zz)⟩
  · rw [if_neg c1] at h
    cases h
    exact ⟨6, And.intro (fun zz => absurd zz c1) (fun _ => And.intro hQ (And.intro rfl rfl))⟩
set_option maxRecDepth 20000 in
theorem s_F_copyRow {N d a b n n2 : Nat} {rs rs' : List (Option Nat)} (hd : 2 ≤ d) (ha : jx_ShC[a]? = some (.inr (0, n, rs))) (hb : jx_ShC[b]? = some (.inr (0, n2, rs'))) {σ z : jw_M} {Q : jw_Q} (h : f_F_copyRow N a b n n2 σ = some z) (hQ : Q none (jx_ShC, z)) : jw_C jp_kd jp_ys d 178 [.ref a, .ref b] (jx_ShC, σ) Q := by
  obtain ⟨d, rfl⟩ : ∃ e, d = e + 1 := ⟨d - 1, by omega⟩
  refine jx_C rfl rfl ?_
  unfold f_F_copyRow at h
  cases c1 : (n == n2 && Nat.ble n 1000) with
  | false => rw [c1] at h; cases h
  | true =>
    rw [c1] at h
    cases h
    simp only [Bool.and_eq_true, beq_iff_eq, Nat.ble_eq] at c1
    obtain ⟨rfl, hn⟩ := c1
    have hmin : f_J_min N (Int32.ofNat n) (Int32.ofNat n) σ = some (Int32.ofNat n, σ) := by
      unfold f_J_min
      rw [ite_self]
    refine ⟨11, ?_⟩
    show jw_alen (jx_ShC, σ) a (fun x => jx_W jx_ShC d none jc_178 Q 5 6 [some (.ref a), some (.ref b)] [.int x, .int (Int32.ofInt 0), .ref b, .int (Int32.ofInt 0), .ref a] σ)
    refine jx_alen ha ?_
    show jw_alen (jx_ShC, σ) b (fun x => jx_W jx_ShC d none jc_178 Q 3 8 [some (.ref a), some (.ref b)] [.int x, .int (Int32.ofNat n), .int (Int32.ofInt 0), .ref b, .int (Int32.ofInt 0), .ref a] σ)
    refine jx_alen hb ?_
    refine s_J_min (N := N) (by omega) hmin ?_
    show jw_copy (jx_ShC, σ) [.int (Int32.ofNat n), .int (Int32.ofInt 0), .ref b, .int (Int32.ofInt 0), .ref a] (fun r h => jw_wp jp_kd (jw_C jp_kd jp_ys d) (jw_bud jp_ys) (jx_ShC.length + 0, jw_sz jx_ShC + 0) none jc_178 (fun v h' => Q v h' ∧ h'.1.length = jx_ShC.length + 0 ∧ jw_sz h'.1 = jw_sz jx_ShC + 0) 1 14 [some (.ref a), some (.ref b)] r h)
    exact jx_copy ha hb (nI_pos (by omega)) (nI_clamp (by omega)) (And.intro hQ (And.intro rfl rfl))
/-- Arrays.fill -/
def f_J_fill (N a n : Nat) (v : Int32) (σ : jw_M) : Option jw_M := bif Nat.ble n 1000 then some (jw_lay σ.1 a (fun k => if k < n then v else σ.1 a k), σ.2) else none
set_option maxRecDepth 20000 in
theorem s_J_fill_5 {d a n : Nat} {rs : List (Option Nat)} {v : Int32} {Q : jw_Q} (ha : jx_ShC[a]? = some (.inr (0, n, rs))) (hn : n ≤ 1000) : ∀ (m i : Nat) (M : Nat → Nat → Int32) (M2 : Nat → Nat → Int64), i + m = n → Q none (jx_ShC, jw_lay M a (fun k => if i ≤ k ∧ k < n then v else M a k), M2) → ∃ k, jx_W jx_ShC d none jc_326 Q k 5 [some (.ref a), some (.int v), some (.int (Int32.ofNat i)), some (.int (Int32.ofNat n))] [] (M, M2)
  | 0, i, M, M2, hi, hQ => by
    have hi : i = n := by omega
    subst hi
    have e : jw_lay M a (fun k => if i ≤ k ∧ k < i then v else M a k) = M := by
      funext c k
      unfold jw_lay
      by_cases hc : c = a
      · rw [if_pos hc, hc, if_neg (by omega)]
      · rw [if_neg hc]
    rw [e] at hQ
    exact ⟨4, And.intro (fun _ => And.intro hQ (And.intro rfl rfl)) (fun zz => absurd (nI_le (Nat.le_refl i) (by omega)) zz)⟩
  | m + 1, i, M, M2, hi, hQ => by
    have hlt : i < n := by omega
    have e : jw_lay (jw_up M a i v) a (fun k => if i + 1 ≤ k ∧ k < n then v else jw_up M a i v a k) = jw_lay M a (fun k => if i ≤ k ∧ k < n then v else M a k) := by
      funext c k
      unfold jw_lay
      by_cases hc : c = a
      · rw [if_pos hc, if_pos hc, jw_up_eq, va_up]
        by_cases hk : k = i
        · rw [if_neg (by omega), if_pos hk, if_pos (by omega)]
        · by_cases hk2 : i + 1 ≤ k ∧ k < n
          · rw [if_pos hk2, if_pos (by omega)]
          · rw [if_neg hk2, if_neg hk, if_neg (by omega)]
      · rw [if_neg hc, if_neg hc, jw_up_ne hc]
    obtain ⟨k, hk⟩ := s_J_fill_5 (d := d) ha hn m (i + 1) (jw_up M a i v) M2 (by omega) (by rw [e]; exact hQ)
    have e2 : Int32.ofNat (i + 1) = Int32.ofNat i + Int32.ofInt 1 := nI_succ i
    rw [e2] at hk
    have hc : (Int32.ofNat i).toNatClampNeg = i := nI_clamp (by omega)
    refine ⟨k + 9, And.intro (fun zz => absurd zz (nI_ge hlt (by omega))) (fun _ => jx_iast ha (vp_in_nI hlt (by omega)) ?_)⟩
    rw [hc]
    exact hk
set_option maxRecDepth 20000 in
theorem s_J_fill {N d a n : Nat} {rs : List (Option Nat)} {v : Int32} (hd : 2 ≤ d) (ha : jx_ShC[a]? = some (.inr (0, n, rs))) {σ z : jw_M} {Q : jw_Q} (h : f_J_fill N a n v σ = some z) (hQ : Q none (jx_ShC, z)) : jw_C jp_kd jp_ys d 326 [.ref a, .int v] (jx_ShC, σ) Q := by
  obtain ⟨d, rfl⟩ : ∃ e, d = e + 1 := ⟨d - 1, by omega⟩
  refine jx_C rfl rfl ?_
  unfold f_J_fill at h
  cases c1 : Nat.ble n 1000 with
  | false => rw [c1] at h; cases h
  | true =>
    rw [c1] at h
    cases h
    have hn : n ≤ 1000 := by simpa using c1
    have e : (fun k => if k < n then v else σ.1 a k) = (fun k => if 0 ≤ k ∧ k < n then v else σ.1 a k) := by
      funext k
      simp
    rw [e] at hQ
    obtain ⟨k, hk⟩ := s_J_fill_5 (d := d) (Q := Q) (v := v) ha hn n 0 σ.1 σ.2 (by omega) hQ
    refine ⟨k + 5, ?_⟩
    show jw_alen (jx_ShC, σ) a (fun x => jx_W jx_ShC d none jc_326 Q (k + 1) 4 [some (.ref a), some (.int v), some (.int (Int32.ofInt 0)), none] [.int x] σ)
    exact jx_alen ha hk
end
section
/-! ===== the methods as functions over the memory: printed by my own program out of the byte code ===== -/
/-! ShadowSchool$Shade.paceIn(II)I -/
def f_Z_Shade_paceIn (N : Nat) (p0 : Nat) (x1 : Int32) (x2 : Int32) (σ : jw_M) : Option (Int32 × jw_M) := some (x2, σ)
/-! ShadowSchool$Slow.paceIn(II)I -/
def f_Z_Slow_paceIn (N : Nat) (p0 : Nat) (x1 : Int32) (x2 : Int32) (σ : jw_M) : Option (Int32 × jw_M) := (f_Z_Shade_paceIn N p0 x1 x2 σ).bind fun z1 => some (((z1.1 / 2) + 1), z1.2)
/-! ShadowSchool$Borrowed.paceIn(II)I -/
def f_Z_Borrowed_paceIn (N : Nat) (x1 : Int32) (x2 : Int32) (σ : jw_M) : Option (Int32 × jw_M) := (f_Z_Slow_paceIn N 37 x1 x2 σ).bind fun z1 => some ((z1.1 + (x1 - x1 / 4 * 4)), z1.2)
/-! java/lang/Math.abs(I)I -/
def f_J_abs (N : Nat) (x0 : Int32) (σ : jw_M) : Option (Int32 × jw_M) := if 0 ≤ x0 then some (x0, σ) else some ((-x0), σ)
/-! ShadowSchool$Slow.lengthIn(II)I -/
def f_Z_Slow_lengthIn (N : Nat) (p0 : Nat) (x1 : Int32) (x2 : Int32) (σ : jw_M) : Option (Int32 × jw_M) := (f_J_abs N (x1 - 7) σ).bind fun z1 => some ((x2 * z1.1), z1.2)
/-! ShadowSchool$Borrowed.lengthIn(II)I -/
def f_Z_Borrowed_lengthIn (N : Nat) (x1 : Int32) (x2 : Int32) (σ : jw_M) : Option (Int32 × jw_M) := (f_Z_Slow_lengthIn N 37 x1 x2 σ).bind fun z1 => some ((z1.1 + 3), z1.2)
/-! ShadowSchool$Host.begins(I)V -/
def f_H_begins (N : Nat) (x1 : Int32) (σ : jw_M) : Option jw_M := if (σ.1 121 8) = 0 then if 30 ≤ (σ.1 121 7) then some σ else bif jx_in (σ.1 121 7) 30 then some (jx_w (jx_w σ 132 ((σ.1 121 7)).toNatClampNeg x1) 121 7 (((jx_w σ 132 ((σ.1 121 7)).toNatClampNeg x1).1 121 7) + 1)) else none else some σ
/-! ShadowSchool$Shade.lies(LShadowSchool$Host;I)I -/
def f_Z_Shade_lies (N : Nat) (p0 : Nat) (x2 : Int32) (σ : jw_M) : Option (Int32 × jw_M) := (f_H_begins N 10 σ).bind fun z1 => some (((x2 * 2) + (z1.1 121 9)), z1)
/-! ShadowSchool$Coloured.lies(LShadowSchool$Host;I)I -/
def f_Z_Coloured_lies (N : Nat) (x2 : Int32) (σ : jw_M) : Option (Int32 × jw_M) := (f_H_begins N 50 σ).bind fun z1 => (f_Z_Shade_lies N 35 x2 z1).bind fun z3 => some ((0 - z3.1), z3.2)
/-! ShadowSchool$Joined.lies(LShadowSchool$Host;I)I -/
def f_Z_Joined_lies (N : Nat) (x2 : Int32) (σ : jw_M) : Option (Int32 × jw_M) := (f_H_begins N 20 σ).bind fun z1 => (f_Z_Shade_lies N 33 x2 z1).bind fun z3 => some ((z3.1 ^^^ (z3.2.1 121 10)), z3.2)
/-! ShadowSchool$Shade.turns(LShadowSchool$Host;I)I -/
def f_Z_Shade_turns (N : Nat) (p0 : Nat) (x2 : Int32) (σ : jw_M) : Option (Int32 × jw_M) := (f_H_begins N 11 σ).bind fun z1 => (if p0 = 32 then f_Z_Shade_lies N p0 x2 z1 else if p0 = 33 then f_Z_Joined_lies N x2 z1 else if p0 = 34 then f_Z_Shade_lies N p0 x2 z1 else if p0 = 35 then f_Z_Coloured_lies N x2 z1 else if p0 = 36 then f_Z_Shade_lies N p0 x2 z1 else if p0 = 37 then f_Z_Shade_lies N p0 x2 z1 else none).bind fun z3 => some ((z3.1 - (z3.2.1 121 10)), z3.2)
/-! ShadowSchool$Borrowed.turns(LShadowSchool$Host;I)I -/
def f_Z_Borrowed_turns (N : Nat) (x2 : Int32) (σ : jw_M) : Option (Int32 × jw_M) := (f_H_begins N 60 σ).bind fun z1 => (f_Z_Shade_turns N 37 x2 z1).bind fun z3 => some ((z3.1 * 2), z3.2)
/-! ShadowSchool$Host.part(II)I -/
def f_H_part (N : Nat) (x1 : Int32) (x2 : Int32) (σ : jw_M) : Option (Int32 × jw_M) := if x2 = 0 then some (0, (jx_w σ 121 8 (1 : Int32))) else if x2 = 0 then none else some ((x1 / x2), σ)
/-! ShadowSchool$Shade.folds(LShadowSchool$Host;I)I -/
def f_Z_Shade_folds (N : Nat) (p0 : Nat) (x2 : Int32) (σ : jw_M) : Option (Int32 × jw_M) := (f_H_begins N 12 σ).bind fun z1 => (f_H_part N x2 ((z1.1 121 9) - (z1.1 121 10)) z1).bind fun z3 => some (z3.1, z3.2)
/-! ShadowSchool$Slow.folds(LShadowSchool$Host;I)I -/
def f_Z_Slow_folds (N : Nat) (p0 : Nat) (x2 : Int32) (σ : jw_M) : Option (Int32 × jw_M) := (f_H_begins N 40 σ).bind fun z1 => (f_Z_Shade_folds N p0 x2 z1).bind fun z3 => some ((z3.1 - 1), z3.2)
/-! ShadowSchool$Borrowed.folds(LShadowSchool$Host;I)I -/
def f_Z_Borrowed_folds (N : Nat) (x2 : Int32) (σ : jw_M) : Option (Int32 × jw_M) := (f_H_begins N 61 σ).bind fun z1 => (f_Z_Slow_folds N 37 x2 z1).bind fun z3 => (f_Z_Shade_lies N 37 (z3.2.1 121 10) z3.2).bind fun z5 => some ((z3.1 ^^^ z5.1), z5.2)
/-! ShadowSchool$Gifted.paceIn(II)I -/
def f_Z_Gifted_paceIn (N : Nat) (p0 : Nat) (x1 : Int32) (x2 : Int32) (σ : jw_M) : Option (Int32 × jw_M) := if x1 = 6 then some (0, σ) else (f_Z_Shade_paceIn N p0 x1 x2 σ).bind fun z2 => some ((2 * z2.1), z2.2)
/-! ShadowSchool$Coloured.paceIn(II)I -/
def f_Z_Coloured_paceIn (N : Nat) (x1 : Int32) (x2 : Int32) (σ : jw_M) : Option (Int32 × jw_M) := (f_Z_Gifted_paceIn N 35 x1 x2 σ).bind fun z1 => some ((z1.1 + 1), z1.2)
/-! ShadowSchool$Shade.lengthIn(II)I -/
def f_Z_Shade_lengthIn (N : Nat) (p0 : Nat) (x1 : Int32) (x2 : Int32) (σ : jw_M) : Option (Int32 × jw_M) := (f_J_abs N (x1 - 6) σ).bind fun z1 => some ((x2 * z1.1), z1.2)
/-! java/lang/Math.max(II)I -/
def f_J_max (N : Nat) (x0 : Int32) (x1 : Int32) (σ : jw_M) : Option (Int32 × jw_M) := if x0 < x1 then some (x1, σ) else some (x0, σ)
/-! ShadowSchool$Coloured.lengthIn(II)I -/
def f_Z_Coloured_lengthIn (N : Nat) (x1 : Int32) (x2 : Int32) (σ : jw_M) : Option (Int32 × jw_M) := (f_Z_Shade_lengthIn N 35 x1 x2 σ).bind fun z1 => (f_J_max N 0 (z1.1 - 2) z1.2).bind fun z3 => some (z3.1, z3.2)
/-! ShadowSchool$Gifted.turns(LShadowSchool$Host;I)I -/
def f_Z_Gifted_turns (N : Nat) (p0 : Nat) (x2 : Int32) (σ : jw_M) : Option (Int32 × jw_M) := (f_H_begins N 30 σ).bind fun z1 => (f_Z_Shade_turns N p0 x2 z1).bind fun z3 => some ((z3.1 + 9), z3.2)
/-! ShadowSchool$Shade.asks(LShadowSchool$Host;I)I -/
def f_Z_Shade_asks (N : Nat) (p0 : Nat) (x2 : Int32) (σ : jw_M) : Option (Int32 × jw_M) := (f_H_begins N 13 σ).bind fun z1 => (if p0 = 32 then f_Z_Shade_turns N p0 x2 z1 else if p0 = 33 then f_Z_Shade_turns N p0 x2 z1 else if p0 = 34 then f_Z_Gifted_turns N p0 x2 z1 else if p0 = 35 then f_Z_Gifted_turns N p0 x2 z1 else if p0 = 36 then f_Z_Shade_turns N p0 x2 z1 else if p0 = 37 then f_Z_Borrowed_turns N x2 z1 else none).bind fun z3 => some ((z3.1 * 3), z3.2)
/-! ShadowSchool$Coloured.asks(LShadowSchool$Host;I)I -/
def f_Z_Coloured_asks (N : Nat) (x2 : Int32) (σ : jw_M) : Option (Int32 × jw_M) := (f_H_begins N 51 σ).bind fun z1 => (f_Z_Shade_asks N 35 x2 z1).bind fun z3 => (f_Z_Shade_folds N 35 (z3.2.1 121 9) z3.2).bind fun z5 => some ((z3.1 + z5.1), z5.2)
/-! ShadowSchool$Host.isSheet(I)Z -/
def f_H_isSheet (N : Nat) (x1 : Int32) (σ : jw_M) : Option (Int32 × jw_M) := if x1 < 0 then some (0, σ) else if 4 ≤ x1 then some (0, σ) else some (1, σ)
/-! ShadowSchool$Host.isShelf(I)Z -/
def f_H_isShelf (N : Nat) (x1 : Int32) (σ : jw_M) : Option (Int32 × jw_M) := if x1 < 0 then some (0, σ) else if 4 ≤ x1 then some (0, σ) else some (1, σ)
/-! ShadowSchool$Host.hasItem(II)Z -/
def f_H_hasItem (N : Nat) (x1 : Int32) (x2 : Int32) (σ : jw_M) : Option (Int32 × jw_M) := if x2 < 0 then some (0, σ) else bif jx_in x1 4 then if (σ.1 123 (x1).toNatClampNeg) ≤ x2 then some (0, σ) else some (1, σ) else none
/-! ShadowSchool$Host.hasItems(III)Z -/
def f_H_hasItems (N : Nat) (x1 : Int32) (x2 : Int32) (x3 : Int32) (σ : jw_M) : Option (Int32 × jw_M) := if x2 < 0 then some (0, σ) else bif jx_in x1 4 then if ((σ.1 123 (x1).toNatClampNeg) - x3) < x2 then some (0, σ) else some (1, σ) else none
/-! ShadowSchool$Host.refusalAs(II)I -/
def f_H_refusalAs (N : Nat) (x1 : Int32) (x2 : Int32) (σ : jw_M) : Option (Int32 × jw_M) := bif jx_in x1 4 then if (σ.1 122 (x1).toNatClampNeg) = (-1) then some ((-11), σ) else if (σ.1 122 (x1).toNatClampNeg) = x2 then some (0, σ) else some ((-13), σ) else none
/-! ShadowSchool$Host.makeRow(III)V -/
def f_H_makeRow_29 (N : Nat) (r_0 : Nat) (σ : jw_M) : Option jw_M := (f_J_fill N r_0 40 0 σ).bind fun z5 => some z5
def f_H_makeRow_28 (N : Nat) (y1 : Int32) (σ : jw_M) : Option jw_M := bif jx_in y1 4 then f_H_makeRow_29 N (125 + (y1).toNatClampNeg) σ else none
def f_H_makeRow_22 (N : Nat) (x1 : Int32) (y1 : Int32) (y2 : Int32) (σ : jw_M) : Option jw_M := bif jx_in y1 4 then f_H_makeRow_28 N x1 (jx_w σ 123 (y1).toNatClampNeg y2) else none
def f_H_makeRow (N : Nat) (x1 : Int32) (x2 : Int32) (x3 : Int32) (σ : jw_M) : Option jw_M := bif jx_in x1 4 then if x2 = (-1) then f_H_makeRow_22 N x1 x1 0 (jx_w σ 122 (x1).toNatClampNeg x2) else f_H_makeRow_22 N x1 x1 x3 (jx_w σ 122 (x1).toNatClampNeg x2) else none
/-! ShadowSchool$Host.itemAt(II)I -/
def f_H_itemAt_6 (N : Nat) (x2 : Int32) (r_0 : Nat) (σ : jw_M) : Option (Int32 × jw_M) := bif jx_in x2 40 then some ((σ.1 r_0 (x2).toNatClampNeg), σ) else none
def f_H_itemAt_5 (N : Nat) (x2 : Int32) (y1 : Int32) (σ : jw_M) : Option (Int32 × jw_M) := bif jx_in y1 4 then f_H_itemAt_6 N x2 (125 + (y1).toNatClampNeg) σ else none
def f_H_itemAt (N : Nat) (x1 : Int32) (x2 : Int32) (σ : jw_M) : Option (Int32 × jw_M) := f_H_itemAt_5 N x2 x1 σ
/-! ShadowSchool$Host.putItem(III)V -/
def f_H_putItem_46 (N : Nat) (x2 : Int32) (x3 : Int32) (r_0 : Nat) (σ : jw_M) : Option jw_M := bif jx_in x2 40 then some (jx_w σ r_0 (x2).toNatClampNeg (x3).toInt8.toInt32) else none
def f_H_putItem_45 (N : Nat) (x2 : Int32) (x3 : Int32) (y1 : Int32) (σ : jw_M) : Option jw_M := bif jx_in y1 4 then f_H_putItem_46 N x2 x3 (125 + (y1).toNatClampNeg) σ else none
def f_H_putItem_59 (N : Nat) (x2 : Int32) (x3 : Int32) (r_0 : Nat) (σ : jw_M) : Option jw_M := bif jx_in x2 40 then some (jx_w σ r_0 (x2).toNatClampNeg (x3).toInt16.toInt32) else none
def f_H_putItem_58 (N : Nat) (x2 : Int32) (x3 : Int32) (y1 : Int32) (σ : jw_M) : Option jw_M := bif jx_in y1 4 then f_H_putItem_59 N x2 x3 (125 + (y1).toNatClampNeg) σ else none
def f_H_putItem_92 (N : Nat) (x2 : Int32) (x3 : Int32) (r_0 : Nat) (σ : jw_M) : Option jw_M := bif jx_in x2 40 then some (jx_w σ r_0 (x2).toNatClampNeg x3) else none
def f_H_putItem_91 (N : Nat) (x2 : Int32) (x3 : Int32) (y1 : Int32) (σ : jw_M) : Option jw_M := bif jx_in y1 4 then f_H_putItem_92 N x2 x3 (125 + (y1).toNatClampNeg) σ else none
def f_H_putItem_82 (N : Nat) (r_0 : Nat) (y1 : Int32) (y2 : Int32) (σ : jw_M) : Option jw_M := bif jx_in y1 40 then some (jx_w σ r_0 (y1).toNatClampNeg y2) else none
def f_H_putItem_72 (N : Nat) (x2 : Int32) (x3 : Int32) (r_0 : Nat) (σ : jw_M) : Option jw_M := if x3 = 0 then f_H_putItem_82 N r_0 x2 0 σ else f_H_putItem_82 N r_0 x2 1 σ
def f_H_putItem_71 (N : Nat) (x2 : Int32) (x3 : Int32) (y1 : Int32) (σ : jw_M) : Option jw_M := bif jx_in y1 4 then f_H_putItem_72 N x2 x3 (125 + (y1).toNatClampNeg) σ else none
def f_H_putItem (N : Nat) (x1 : Int32) (x2 : Int32) (x3 : Int32) (σ : jw_M) : Option jw_M := bif jx_in x1 4 then if (σ.1 122 (x1).toNatClampNeg) = 0 then f_H_putItem_45 N x2 x3 x1 σ else if (σ.1 122 (x1).toNatClampNeg) = 1 then f_H_putItem_58 N x2 x3 x1 σ else if (σ.1 122 (x1).toNatClampNeg) = 2 then f_H_putItem_91 N x2 x3 x1 σ else if (σ.1 122 (x1).toNatClampNeg) = 3 then f_H_putItem_91 N x2 x3 x1 σ else if (σ.1 122 (x1).toNatClampNeg) = 4 then f_H_putItem_71 N x2 x3 x1 σ else f_H_putItem_91 N x2 x3 x1 σ else none
/-! ShadowSchool$Host.put(III)V -/
def f_H_put_39 (N : Nat) (x1 : Int32) (x3 : Int32) (y1 : Int32) (y2 : Int32) (σ : jw_M) : Option jw_M := bif jx_in y1 4 then bif jx_in x3 4 then bif jx_in x1 4 then some (jx_w (jx_w (jx_w σ 129 (y1).toNatClampNeg y2) 130 (x1).toNatClampNeg ((jx_w σ 129 (y1).toNatClampNeg y2).1 123 (x3).toNatClampNeg)) 131 (x1).toNatClampNeg ((jx_w (jx_w σ 129 (y1).toNatClampNeg y2) 130 (x1).toNatClampNeg ((jx_w σ 129 (y1).toNatClampNeg y2).1 123 (x3).toNatClampNeg)).1 122 (x3).toNatClampNeg)) else none else none else none
def f_H_put (N : Nat) (x1 : Int32) (x2 : Int32) (x3 : Int32) (σ : jw_M) : Option jw_M := bif jx_in x1 4 then if x2 = 1 then bif jx_in x3 4 then if ((jx_w (jx_w σ 129 (x1).toNatClampNeg x2) 130 (x1).toNatClampNeg x3).1 122 (x3).toNatClampNeg) = (-1) then f_H_put_39 N x1 x3 x1 2 (jx_w (jx_w σ 129 (x1).toNatClampNeg x2) 130 (x1).toNatClampNeg x3) else f_H_put_39 N x1 x3 x1 1 (jx_w (jx_w σ 129 (x1).toNatClampNeg x2) 130 (x1).toNatClampNeg x3) else none else some (jx_w (jx_w σ 129 (x1).toNatClampNeg x2) 130 (x1).toNatClampNeg x3) else none
/-! ShadowSchool$Host.shadowOn(I)I -/
def f_H_shadowOn (N : Nat) (x1 : Int32) (σ : jw_M) : Option (Int32 × jw_M) := bif jx_in x1 4 then if (σ.1 129 (x1).toNatClampNeg) = 0 then some ((σ.1 130 (x1).toNatClampNeg), σ) else some ((-1), σ) else none
/-! ShadowSchool$Host.clearTrace()V -/
def f_H_clearTrace (N : Nat) (σ : jw_M) : Option jw_M := some (jx_w (jx_w σ 121 7 (0 : Int32)) 121 8 (0 : Int32))
/-! ShadowSchool$Host.actOf(LShadowSchool$Shade;II)I -/
def f_H_actOf (N : Nat) (p1 : Nat) (x2 : Int32) (x3 : Int32) (σ : jw_M) : Option (Int32 × jw_M) := if x2 = 0 then (if p1 = 32 then f_Z_Shade_lies N p1 x3 σ else if p1 = 33 then f_Z_Joined_lies N x3 σ else if p1 = 34 then f_Z_Shade_lies N p1 x3 σ else if p1 = 35 then f_Z_Coloured_lies N x3 σ else if p1 = 36 then f_Z_Shade_lies N p1 x3 σ else if p1 = 37 then f_Z_Shade_lies N p1 x3 σ else none).bind fun z1 => some (z1.1, z1.2) else if x2 = 1 then (if p1 = 32 then f_Z_Shade_turns N p1 x3 σ else if p1 = 33 then f_Z_Shade_turns N p1 x3 σ else if p1 = 34 then f_Z_Gifted_turns N p1 x3 σ else if p1 = 35 then f_Z_Gifted_turns N p1 x3 σ else if p1 = 36 then f_Z_Shade_turns N p1 x3 σ else if p1 = 37 then f_Z_Borrowed_turns N x3 σ else none).bind fun z3 => some (z3.1, z3.2) else if x2 = 2 then (if p1 = 32 then f_Z_Shade_folds N p1 x3 σ else if p1 = 33 then f_Z_Shade_folds N p1 x3 σ else if p1 = 34 then f_Z_Shade_folds N p1 x3 σ else if p1 = 35 then f_Z_Shade_folds N p1 x3 σ else if p1 = 36 then f_Z_Slow_folds N p1 x3 σ else if p1 = 37 then f_Z_Borrowed_folds N x3 σ else none).bind fun z5 => some (z5.1, z5.2) else (if p1 = 32 then f_Z_Shade_asks N p1 x3 σ else if p1 = 33 then f_Z_Shade_asks N p1 x3 σ else if p1 = 34 then f_Z_Shade_asks N p1 x3 σ else if p1 = 35 then f_Z_Coloured_asks N x3 σ else if p1 = 36 then f_Z_Shade_asks N p1 x3 σ else if p1 = 37 then f_Z_Shade_asks N p1 x3 σ else none).bind fun z7 => some (z7.1, z7.2)
/-! ShadowSchool$Host.perform(LShadowSchool$Shade;IIII)I -/
def f_H_perform (N : Nat) (p1 : Nat) (x2 : Int32) (x3 : Int32) (x4 : Int32) (x5 : Int32) (σ : jw_M) : Option (Int32 × jw_M) := (f_H_actOf N p1 x4 x5 (jx_w (jx_w σ 121 9 x2) 121 10 x3)).bind fun z1 => if (z1.2.1 121 8) = 0 then some (z1.1, z1.2) else some ((-15), z1.2)
/-! ShadowSchool$Joined.paceIn(II)I -/
def f_Z_Joined_paceIn (N : Nat) (x1 : Int32) (x2 : Int32) (σ : jw_M) : Option (Int32 × jw_M) := if (x1 - x1 / 4 * 4) = 3 then some (0, σ) else (f_Z_Shade_paceIn N 33 x1 x2 σ).bind fun z2 => some (z2.1, z2.2)
/-! ShadowSchool$Plans.weigh(III)V -/
def f_L_weigh_70 (N : Nat) (x3 : Int32) (σ : jw_M) : Option jw_M := some (jx_w σ 92 8 ((σ.1 92 8) ||| x3))
def f_L_weigh_47 (N : Nat) (x2 : Int32) (x3 : Int32) (σ : jw_M) : Option jw_M := if ((σ.1 92 6) &&& (x3 ^^^ (-1))) = 0 then (f_J_min N (σ.1 92 7) x2 σ).bind fun z4 => f_L_weigh_70 N x3 (jx_w z4.2 92 7 z4.1) else f_L_weigh_70 N x3 σ
def f_L_weigh_29 (N : Nat) (x1 : Int32) (x2 : Int32) (x3 : Int32) (σ : jw_M) : Option jw_M := if x1 = (σ.1 92 3) then f_L_weigh_47 N x2 x3 (jx_w σ 92 4 ((σ.1 92 4) + 1)) else f_L_weigh_47 N x2 x3 σ
def f_L_weigh (N : Nat) (x1 : Int32) (x2 : Int32) (x3 : Int32) (σ : jw_M) : Option jw_M := if x1 ≤ (σ.1 92 3) then f_L_weigh_29 N x1 x2 x3 σ else (f_F_copyRow N 114 115 4 4 (jx_w (jx_w σ 92 3 x1) 92 4 (0 : Int32))).bind fun z6 => f_L_weigh_29 N x1 x2 x3 z6
/-! ShadowSchool$Progress.copyFrom(LShadowSchool$Progress;)V -/
def f_P_copyFrom_27 (N : Nat) (p0 : Nat) (p1 : Nat) (σ : jw_M) : Option jw_M := (f_F_copyRow N (p1 + 2) (p0 + 2) 6 6 σ).bind fun z3 => some z3
def f_P_copyFrom (N : Nat) (p0 : Nat) (p1 : Nat) (σ : jw_M) : Option jw_M := (f_F_copyRow N (p1 + 1) (p0 + 1) 48 48 (jx_w (jx_w σ p0 0 (σ.1 p1 0)) p0 1 ((jx_w σ p0 0 (σ.1 p1 0)).1 p1 1))).bind fun z1 => f_P_copyFrom_27 N p0 p1  z1
/-! ShadowSchool$Progress.learntBySome()I -/
def f_P_learntBySome_4 (N : Nat) (p0 : Nat) : Nat → Int32 → Int32 → jw_M → Option (Int32 × jw_M)
  | 0, _, _, _ => none
  | k + 1, x1, x2, σ => if 6 ≤ x2 then some (x1, σ) else bif jx_in x2 6 then f_P_learntBySome_4 N p0 k (x1 ||| (σ.1 (p0 + 2) (x2).toNatClampNeg)) (x2 + 1) σ else none
def f_P_learntBySome (N : Nat) (p0 : Nat) (σ : jw_M) : Option (Int32 × jw_M) := f_P_learntBySome_4 N p0 N 0 0 σ
/-! ShadowSchool$Progress.gain(IIII)Z -/
def f_P_gain (N : Nat) (p0 : Nat) (x1 : Int32) (x2 : Int32) (x3 : Int32) (x4 : Int32) (σ : jw_M) : Option (Int32 × jw_M) := bif jx_in ((x1 * 8) + x2) 48 then if x4 ≤ ((jx_w σ (p0 + 1) (((x1 * 8) + x2)).toNatClampNeg ((σ.1 (p0 + 1) (((x1 * 8) + x2)).toNatClampNeg) + x3)).1 (p0 + 1) (((x1 * 8) + x2)).toNatClampNeg) then bif jx_in x1 6 then some (1, (jx_w (jx_w σ (p0 + 1) (((x1 * 8) + x2)).toNatClampNeg ((σ.1 (p0 + 1) (((x1 * 8) + x2)).toNatClampNeg) + x3)) (p0 + 2) (x1).toNatClampNeg (((jx_w σ (p0 + 1) (((x1 * 8) + x2)).toNatClampNeg ((σ.1 (p0 + 1) (((x1 * 8) + x2)).toNatClampNeg) + x3)).1 (p0 + 2) (x1).toNatClampNeg) ||| ((1 : Int32) <<< (x2 &&& 31))))) else none else some (0, (jx_w σ (p0 + 1) (((x1 * 8) + x2)).toNatClampNeg ((σ.1 (p0 + 1) (((x1 * 8) + x2)).toNatClampNeg) + x3))) else none
/-! ShadowSchool$School.thing(I)LShadowSchool$Shade; -/
def f_S_thing_10 (N : Nat) (y1 : Int32) (σ : jw_M) : Option (Nat × jw_M) := bif jx_in y1 6 then some ((32 + (y1).toNatClampNeg), σ) else none
def f_S_thing (N : Nat) (x1 : Int32) (σ : jw_M) : Option (Nat × jw_M) := bif jx_in x1 6 then f_S_thing_10 N (σ.1 2 (x1).toNatClampNeg) σ else none
/-! ShadowSchool$School.openTo(LShadowSchool$Progress;II)I -/
def f_S_openTo_98 (N : Nat) (p1 : Nat) (K45 : Int32 → Int32 → Int32 → jw_M → Option (Int32 × jw_M)) (x4 : Int32) (x5 : Int32) (x6 : Int32) (σ : jw_M) : Option (Int32 × jw_M) := K45 x4 x5 (x6 + 1) σ
def f_S_openTo_45 (N : Nat) (p1 : Nat) : Nat → Int32 → Int32 → Int32 → jw_M → Option (Int32 × jw_M)
  | 0, _, _, _, _ => none
  | k + 1, x4, x5, x6, σ => if (σ.1 1 5) ≤ x6 then some (x5, σ) else if (x5 >>> (x6 &&& 31)) = 0 then some (x5, σ) else bif jx_in x6 8 then if (σ.1 7 (x6).toNatClampNeg) < 0 then f_S_openTo_98 N p1 (f_S_openTo_45 N p1 k) x4 x5 x6 σ else if ((x4 >>> ((σ.1 7 (x6).toNatClampNeg) &&& 31)) &&& 1) = 0 then f_S_openTo_98 N p1 (f_S_openTo_45 N p1 k) x4 (x5 &&& (((1 : Int32) <<< (x6 &&& 31)) ^^^ (-1))) x6 σ else f_S_openTo_98 N p1 (f_S_openTo_45 N p1 k) x4 x5 x6 σ else none
def f_S_openTo (N : Nat) (p1 : Nat) (x2 : Int32) (x3 : Int32) (σ : jw_M) : Option (Int32 × jw_M) := if (σ.1 p1 0) < 17 then bif jx_in x2 6 then bif jx_in (σ.1 p1 0) 17 then f_S_openTo_45 N p1 N (σ.1 (p1 + 2) (x2).toNatClampNeg) (((σ.1 11 ((σ.1 p1 0)).toNatClampNeg) &&& ((σ.1 (p1 + 2) (x2).toNatClampNeg) ^^^ (-1))) &&& (x3 ^^^ (-1))) 0 σ else none else none else some (0, σ)
/-! ShadowSchool$Rules.tell(IIIII)V -/
def f_R_tell (N : Nat) (x1 : Int32) (x2 : Int32) (x3 : Int32) (x4 : Int32) (x5 : Int32) (σ : jw_M) : Option jw_M := some (jx_w (jx_w (jx_w (jx_w (jx_w σ 26 0 x1) 26 1 x2) 26 2 x3) 26 3 x4) 26 4 x5)
/-! java/lang/Integer.compare(II)I -/
def f_J_compare (N : Nat) (x0 : Int32) (x1 : Int32) (σ : jw_M) : Option (Int32 × jw_M) := if x1 ≤ x0 then if x0 = x1 then some (0, σ) else some (1, σ) else some ((-1), σ)
/-! ShadowSchool$Rules.holds(II)Z -/
def f_R_holds_146 (N : Nat) (K5 : Int32 → Int32 → Int32 → jw_M → Option (Int32 × jw_M)) (x2 : Int32) (x3 : Int32) (x4 : Int32) (σ : jw_M) : Option (Int32 × jw_M) := K5 x2 x3 (x4 + 1) σ
def f_R_holds_144 (N : Nat) (K5 : Int32 → Int32 → Int32 → jw_M → Option (Int32 × jw_M)) (x2 : Int32) (x4 : Int32) (y0 : Int32) (y1 : Int32) (σ : jw_M) : Option (Int32 × jw_M) := f_R_holds_146 N K5 x2 (y0 ||| y1) x4 σ
def f_R_holds_5 (N : Nat) : Nat → Int32 → Int32 → Int32 → jw_M → Option (Int32 × jw_M)
  | 0, _, _, _, _ => none
  | k + 1, x2, x3, x4, σ => if x2 ≤ x4 then if (x3 &&& 1) = 1 then some (1, σ) else some (0, σ) else bif jx_in x4 100 then if (σ.1 23 (x4).toNatClampNeg) = 3 then f_R_holds_146 N (f_R_holds_5 N k) x2 (((x3 >>> (2 &&& 31)) <<< (1 &&& 31)) ||| (((x3 >>> (1 &&& 31)) &&& 1) &&& (x3 &&& 1))) x4 σ else if (σ.1 23 (x4).toNatClampNeg) = 4 then f_R_holds_146 N (f_R_holds_5 N k) x2 ((((x3 >>> (2 &&& 31)) <<< (1 &&& 31)) ||| ((x3 >>> (1 &&& 31)) &&& 1)) ||| (x3 &&& 1)) x4 σ else if (σ.1 23 (x4).toNatClampNeg) = 5 then f_R_holds_146 N (f_R_holds_5 N k) x2 (x3 ^^^ 1) x4 σ else bif jx_in (σ.1 24 (x4).toNatClampNeg) 105 then bif jx_in (σ.1 25 (x4).toNatClampNeg) 105 then (f_J_compare N (σ.1 26 ((σ.1 24 (x4).toNatClampNeg)).toNatClampNeg) (σ.1 26 ((σ.1 25 (x4).toNatClampNeg)).toNatClampNeg) σ).bind fun z6 => if (z6.1 + 1) = (z6.2.1 23 (x4).toNatClampNeg) then f_R_holds_144 N (f_R_holds_5 N k) x2 x4 (x3 <<< (1 &&& 31)) 1 z6.2 else f_R_holds_144 N (f_R_holds_5 N k) x2 x4 (x3 <<< (1 &&& 31)) 0 z6.2 else none else none else none
def f_R_holds (N : Nat) (x1 : Int32) (x2 : Int32) (σ : jw_M) : Option (Int32 × jw_M) := f_R_holds_5 N N x2 1 x1 σ
/-! ShadowSchool.isOrIsUnder(II)Z -/
def f_F_isOrIsUnder (N : Nat) (x0 : Int32) (x1 : Int32) (σ : jw_M) : Option (Int32 × jw_M) := bif jx_in x0 6 then if (((jw_tab.getD x0.toNatClampNeg 0) >>> (x1 &&& 31)) &&& 1) = 1 then some (1, σ) else some (0, σ) else none
/-! ShadowSchool$Rules.deedFor(I)I -/
def f_R_deedFor_46 (N : Nat) (K4 : Int32 → Int32 → Int32 → jw_M → Option (Int32 × jw_M)) (x1 : Int32) (x3 : Int32) (σ : jw_M) : Option (Int32 × jw_M) := bif jx_in x3 8 then K4 x1 (σ.1 22 (x3).toNatClampNeg) (x3 + 1) σ else none
def f_R_deedFor_4 (N : Nat) : Nat → Int32 → Int32 → Int32 → jw_M → Option (Int32 × jw_M)
  | 0, _, _, _, _ => none
  | k + 1, x1, x2, x3, σ => if (σ.1 19 0) ≤ x3 then some (3, σ) else bif jx_in x3 8 then (f_F_isOrIsUnder N x1 (σ.1 20 (x3).toNatClampNeg) σ).bind fun z3 => if z3.1 = 0 then f_R_deedFor_46 N (f_R_deedFor_4 N k) x1 x3 z3.2 else (f_R_holds N x2 (z3.2.1 22 (x3).toNatClampNeg) z3.2).bind fun z7 => if z7.1 = 0 then f_R_deedFor_46 N (f_R_deedFor_4 N k) x1 x3 z7.2 else some ((z7.2.1 21 (x3).toNatClampNeg), z7.2) else none
def f_R_deedFor (N : Nat) (x1 : Int32) (σ : jw_M) : Option (Int32 × jw_M) := f_R_deedFor_4 N N x1 0 0 σ
/-! java/lang/Integer.bitCount(I)I -/
def f_J_bitCount (N : Nat) (x0 : Int32) (σ : jw_M) : Option (Int32 × jw_M) := some (((((((((x0 - ((Int32.toUInt32 x0 >>> (Int32.toUInt32 1 &&& Int32.toUInt32 31)).toInt32 &&& 1431655765)) &&& 858993459) + ((Int32.toUInt32 (x0 - ((Int32.toUInt32 x0 >>> (Int32.toUInt32 1 &&& Int32.toUInt32 31)).toInt32 &&& 1431655765)) >>> (Int32.toUInt32 2 &&& Int32.toUInt32 31)).toInt32 &&& 858993459)) + (Int32.toUInt32 (((x0 - ((Int32.toUInt32 x0 >>> (Int32.toUInt32 1 &&& Int32.toUInt32 31)).toInt32 &&& 1431655765)) &&& 858993459) + ((Int32.toUInt32 (x0 - ((Int32.toUInt32 x0 >>> (Int32.toUInt32 1 &&& Int32.toUInt32 31)).toInt32 &&& 1431655765)) >>> (Int32.toUInt32 2 &&& Int32.toUInt32 31)).toInt32 &&& 858993459)) >>> (Int32.toUInt32 4 &&& Int32.toUInt32 31)).toInt32) &&& 252645135) + (Int32.toUInt32 (((((x0 - ((Int32.toUInt32 x0 >>> (Int32.toUInt32 1 &&& Int32.toUInt32 31)).toInt32 &&& 1431655765)) &&& 858993459) + ((Int32.toUInt32 (x0 - ((Int32.toUInt32 x0 >>> (Int32.toUInt32 1 &&& Int32.toUInt32 31)).toInt32 &&& 1431655765)) >>> (Int32.toUInt32 2 &&& Int32.toUInt32 31)).toInt32 &&& 858993459)) + (Int32.toUInt32 (((x0 - ((Int32.toUInt32 x0 >>> (Int32.toUInt32 1 &&& Int32.toUInt32 31)).toInt32 &&& 1431655765)) &&& 858993459) + ((Int32.toUInt32 (x0 - ((Int32.toUInt32 x0 >>> (Int32.toUInt32 1 &&& Int32.toUInt32 31)).toInt32 &&& 1431655765)) >>> (Int32.toUInt32 2 &&& Int32.toUInt32 31)).toInt32 &&& 858993459)) >>> (Int32.toUInt32 4 &&& Int32.toUInt32 31)).toInt32) &&& 252645135) >>> (Int32.toUInt32 8 &&& Int32.toUInt32 31)).toInt32) + (Int32.toUInt32 ((((((x0 - ((Int32.toUInt32 x0 >>> (Int32.toUInt32 1 &&& Int32.toUInt32 31)).toInt32 &&& 1431655765)) &&& 858993459) + ((Int32.toUInt32 (x0 - ((Int32.toUInt32 x0 >>> (Int32.toUInt32 1 &&& Int32.toUInt32 31)).toInt32 &&& 1431655765)) >>> (Int32.toUInt32 2 &&& Int32.toUInt32 31)).toInt32 &&& 858993459)) + (Int32.toUInt32 (((x0 - ((Int32.toUInt32 x0 >>> (Int32.toUInt32 1 &&& Int32.toUInt32 31)).toInt32 &&& 1431655765)) &&& 858993459) + ((Int32.toUInt32 (x0 - ((Int32.toUInt32 x0 >>> (Int32.toUInt32 1 &&& Int32.toUInt32 31)).toInt32 &&& 1431655765)) >>> (Int32.toUInt32 2 &&& Int32.toUInt32 31)).toInt32 &&& 858993459)) >>> (Int32.toUInt32 4 &&& Int32.toUInt32 31)).toInt32) &&& 252645135) + (Int32.toUInt32 (((((x0 - ((Int32.toUInt32 x0 >>> (Int32.toUInt32 1 &&& Int32.toUInt32 31)).toInt32 &&& 1431655765)) &&& 858993459) + ((Int32.toUInt32 (x0 - ((Int32.toUInt32 x0 >>> (Int32.toUInt32 1 &&& Int32.toUInt32 31)).toInt32 &&& 1431655765)) >>> (Int32.toUInt32 2 &&& Int32.toUInt32 31)).toInt32 &&& 858993459)) + (Int32.toUInt32 (((x0 - ((Int32.toUInt32 x0 >>> (Int32.toUInt32 1 &&& Int32.toUInt32 31)).toInt32 &&& 1431655765)) &&& 858993459) + ((Int32.toUInt32 (x0 - ((Int32.toUInt32 x0 >>> (Int32.toUInt32 1 &&& Int32.toUInt32 31)).toInt32 &&& 1431655765)) >>> (Int32.toUInt32 2 &&& Int32.toUInt32 31)).toInt32 &&& 858993459)) >>> (Int32.toUInt32 4 &&& Int32.toUInt32 31)).toInt32) &&& 252645135) >>> (Int32.toUInt32 8 &&& Int32.toUInt32 31)).toInt32) >>> (Int32.toUInt32 16 &&& Int32.toUInt32 31)).toInt32) &&& 63), σ)
/-! ShadowSchool$School.deedOf(LShadowSchool$Progress;I)I -/
def f_S_deedOf (N : Nat) (p1 : Nat) (x2 : Int32) (σ : jw_M) : Option (Int32 × jw_M) := if (σ.1 19 0) = 0 then some (3, σ) else bif jx_in x2 6 then (f_J_bitCount N (σ.1 (p1 + 2) (x2).toNatClampNeg) σ).bind fun z3 => (f_R_tell N (σ.1 p1 0) (z3.1) (z3.2.1 3 (x2).toNatClampNeg) (z3.2.1 4 (x2).toNatClampNeg) x2 z3.2).bind fun z5 => (f_R_deedFor N (z5.1 2 (x2).toNatClampNeg) z5).bind fun z7 => some (z7.1, z7.2) else none
/-! ShadowSchool$School.easiest(LShadowSchool$Progress;II)I -/
def f_S_easiest_67 (N : Nat) (p1 : Nat) (K11 : Int32 → Int32 → Int32 → Int32 → Int32 → jw_M → Option (Int32 × jw_M)) (x2 : Int32) (x3 : Int32) (x4 : Int32) (x5 : Int32) (x6 : Int32) (σ : jw_M) : Option (Int32 × jw_M) := K11 x2 x3 x4 x5 (x6 + 1) σ
def f_S_easiest_11 (N : Nat) (p1 : Nat) : Nat → Int32 → Int32 → Int32 → Int32 → Int32 → jw_M → Option (Int32 × jw_M)
  | 0, _, _, _, _, _, _ => none
  | k + 1, x2, x3, x4, x5, x6, σ => if (σ.1 1 5) ≤ x6 then some (x5, σ) else bif jx_in x6 8 then bif jx_in ((x2 * 8) + x6) 48 then if ((x3 >>> (x6 &&& 31)) &&& 1) = 1 then if x4 ≤ ((σ.1 6 (x6).toNatClampNeg) - (σ.1 (p1 + 1) (((x2 * 8) + x6)).toNatClampNeg)) then f_S_easiest_67 N p1 (f_S_easiest_11 N p1 k) x2 x3 x4 x5 x6 σ else f_S_easiest_67 N p1 (f_S_easiest_11 N p1 k) x2 x3 ((σ.1 6 (x6).toNatClampNeg) - (σ.1 (p1 + 1) (((x2 * 8) + x6)).toNatClampNeg)) x6 x6 σ else f_S_easiest_67 N p1 (f_S_easiest_11 N p1 k) x2 x3 x4 x5 x6 σ else none else none
def f_S_easiest (N : Nat) (p1 : Nat) (x2 : Int32) (x3 : Int32) (σ : jw_M) : Option (Int32 × jw_M) := f_S_easiest_11 N p1 N x2 x3 21 8 0 σ
/-! java/lang/Integer.numberOfLeadingZeros(I)I -/
def f_J_numberOfLeadingZeros_73 (N : Nat) (x0 : Int32) (x1 : Int32) (σ : jw_M) : Option (Int32 × jw_M) := some ((x1 - (Int32.toUInt32 x0 >>> (Int32.toUInt32 1 &&& Int32.toUInt32 31)).toInt32), σ)
def f_J_numberOfLeadingZeros_61 (N : Nat) (x0 : Int32) (x1 : Int32) (σ : jw_M) : Option (Int32 × jw_M) := if x0 < 4 then f_J_numberOfLeadingZeros_73 N x0 x1 σ else f_J_numberOfLeadingZeros_73 N (Int32.toUInt32 x0 >>> (Int32.toUInt32 2 &&& Int32.toUInt32 31)).toInt32 (x1 + (-2)) σ
def f_J_numberOfLeadingZeros_48 (N : Nat) (x0 : Int32) (x1 : Int32) (σ : jw_M) : Option (Int32 × jw_M) := if x0 < 16 then f_J_numberOfLeadingZeros_61 N x0 x1 σ else f_J_numberOfLeadingZeros_61 N (Int32.toUInt32 x0 >>> (Int32.toUInt32 4 &&& Int32.toUInt32 31)).toInt32 (x1 + (-4)) σ
def f_J_numberOfLeadingZeros_33 (N : Nat) (x0 : Int32) (x1 : Int32) (σ : jw_M) : Option (Int32 × jw_M) := if x0 < 256 then f_J_numberOfLeadingZeros_48 N x0 x1 σ else f_J_numberOfLeadingZeros_48 N (Int32.toUInt32 x0 >>> (Int32.toUInt32 8 &&& Int32.toUInt32 31)).toInt32 (x1 + (-8)) σ
def f_J_numberOfLeadingZeros (N : Nat) (x0 : Int32) (σ : jw_M) : Option (Int32 × jw_M) := if 0 < x0 then if x0 < 65536 then f_J_numberOfLeadingZeros_33 N x0 31 σ else f_J_numberOfLeadingZeros_33 N (Int32.toUInt32 x0 >>> (Int32.toUInt32 16 &&& Int32.toUInt32 31)).toInt32 ((31 : Int32) + (-16)) σ else if x0 = 0 then some (32, σ) else some (0, σ)
/-! java/lang/Integer.numberOfTrailingZeros(I)I -/
def f_J_numberOfTrailingZeros_74 (N : Nat) (x0 : Int32) (x1 : Int32) (σ : jw_M) : Option (Int32 × jw_M) := some ((x1 + (Int32.toUInt32 x0 >>> (Int32.toUInt32 1 &&& Int32.toUInt32 31)).toInt32), σ)
def f_J_numberOfTrailingZeros_62 (N : Nat) (x0 : Int32) (x1 : Int32) (σ : jw_M) : Option (Int32 × jw_M) := if x0 ≤ 4 then f_J_numberOfTrailingZeros_74 N x0 x1 σ else f_J_numberOfTrailingZeros_74 N (Int32.toUInt32 x0 >>> (Int32.toUInt32 2 &&& Int32.toUInt32 31)).toInt32 (x1 + 2) σ
def f_J_numberOfTrailingZeros_49 (N : Nat) (x0 : Int32) (x1 : Int32) (σ : jw_M) : Option (Int32 × jw_M) := if x0 ≤ 16 then f_J_numberOfTrailingZeros_62 N x0 x1 σ else f_J_numberOfTrailingZeros_62 N (Int32.toUInt32 x0 >>> (Int32.toUInt32 4 &&& Int32.toUInt32 31)).toInt32 (x1 + 4) σ
def f_J_numberOfTrailingZeros_34 (N : Nat) (x0 : Int32) (x1 : Int32) (σ : jw_M) : Option (Int32 × jw_M) := if x0 ≤ 256 then f_J_numberOfTrailingZeros_49 N x0 x1 σ else f_J_numberOfTrailingZeros_49 N (Int32.toUInt32 x0 >>> (Int32.toUInt32 8 &&& Int32.toUInt32 31)).toInt32 (x1 + 8) σ
def f_J_numberOfTrailingZeros (N : Nat) (x0 : Int32) (σ : jw_M) : Option (Int32 × jw_M) := if 0 < ((x0 ^^^ (-1)) &&& (x0 - 1)) then if ((x0 ^^^ (-1)) &&& (x0 - 1)) ≤ 65536 then f_J_numberOfTrailingZeros_34 N ((x0 ^^^ (-1)) &&& (x0 - 1)) 1 σ else f_J_numberOfTrailingZeros_34 N (Int32.toUInt32 ((x0 ^^^ (-1)) &&& (x0 - 1)) >>> (Int32.toUInt32 16 &&& Int32.toUInt32 31)).toInt32 ((1 : Int32) + 16) σ else some ((((x0 ^^^ (-1)) &&& (x0 - 1)) &&& 32), σ)
/-! ShadowSchool$School.choice(LShadowSchool$Progress;II)I -/
def f_S_choice (N : Nat) (p1 : Nat) (x2 : Int32) (x3 : Int32) (σ : jw_M) : Option (Int32 × jw_M) := (f_S_openTo N p1 x2 x3 σ).bind fun z1 => if z1.1 = 0 then some (8, z1.2) else (f_S_deedOf N p1 x2 z1.2).bind fun z4 => if z4.1 = 0 then (f_J_numberOfLeadingZeros N (z1.1) z4.2).bind fun z6 => some ((31 - z6.1), z6.2) else if z4.1 = 1 then (f_S_easiest N p1 x2 (z1.1) z4.2).bind fun z8 => some (z8.1, z8.2) else if z4.1 = 2 then some (8, z4.2) else (f_J_numberOfTrailingZeros N (z1.1) z4.2).bind fun z10 => some (z10.1, z10.2)
/-! ShadowSchool$School.goBy(LShadowSchool$Progress;I)I -/
def f_S_goBy_140 (N : Nat) (p1 : Nat) (K16 : Int32 → Int32 → Int32 → Int32 → jw_M → Option (Int32 × jw_M)) (x2 : Int32) (x3 : Int32) (x4 : Int32) (x5 : Int32) (σ : jw_M) : Option (Int32 × jw_M) := K16 x2 x3 x4 (x5 + 1) σ
def f_S_goBy_115 (N : Nat) (p1 : Nat) (K16 : Int32 → Int32 → Int32 → Int32 → jw_M → Option (Int32 × jw_M)) (x2 : Int32) (x3 : Int32) (x4 : Int32) (x5 : Int32) (x6 : Int32) (y1 : Int32) (y2 : Int32) (y3 : Int32) (σ : jw_M) : Option (Int32 × jw_M) := bif jx_in x6 8 then (f_P_gain N p1 y1 y2 y3 (σ.1 6 (x6).toNatClampNeg) σ).bind fun z14 => if z14.1 = 0 then f_S_goBy_140 N p1 K16 x2 x3 x4 x5 z14.2 else f_S_goBy_140 N p1 K16 x2 x3 (x4 + (z14.2.1 6 (x6).toNatClampNeg)) x5 z14.2 else none
def f_S_goBy_112 (N : Nat) (p1 : Nat) (K16 : Int32 → Int32 → Int32 → Int32 → jw_M → Option (Int32 × jw_M)) (x2 : Int32) (x3 : Int32) (x4 : Int32) (x5 : Int32) (x6 : Int32) (y1 : Int32) (y2 : Int32) (r_3 : Nat) (y4 : Int32) (y5 : Int32) (σ : jw_M) : Option (Int32 × jw_M) := (if r_3 = 32 then f_Z_Shade_paceIn N r_3 y4 y5 σ else if r_3 = 33 then f_Z_Joined_paceIn N y4 y5 σ else if r_3 = 34 then f_Z_Gifted_paceIn N r_3 y4 y5 σ else if r_3 = 35 then f_Z_Coloured_paceIn N y4 y5 σ else if r_3 = 36 then f_Z_Slow_paceIn N r_3 y4 y5 σ else if r_3 = 37 then f_Z_Borrowed_paceIn N y4 y5 σ else none).bind fun z11 => f_S_goBy_115 N p1 K16 x2 x3 x4 x5 x6 y1 y2 (z11.1) z11.2
def f_S_goBy_90 (N : Nat) (p1 : Nat) (K16 : Int32 → Int32 → Int32 → Int32 → jw_M → Option (Int32 × jw_M)) (x2 : Int32) (x3 : Int32) (x4 : Int32) (x5 : Int32) (x6 : Int32) (σ : jw_M) : Option (Int32 × jw_M) := (f_S_thing N x5 σ).bind fun z8 => bif jx_in x5 6 then f_S_goBy_112 N p1 K16 x2 x3 x4 x5 x6 x5 x6 z8.1 (z8.2.1 p1 0) (z8.2.1 3 (x5).toNatClampNeg) z8.2 else none
def f_S_goBy_46 (N : Nat) (p1 : Nat) (K16 : Int32 → Int32 → Int32 → Int32 → jw_M → Option (Int32 × jw_M)) (x2 : Int32) (x3 : Int32) (x4 : Int32) (x5 : Int32) (y0 : Int32) (σ : jw_M) : Option (Int32 × jw_M) := if y0 = 8 then f_S_goBy_140 N p1 K16 x2 x3 x4 x5 σ else bif jx_in y0 8 then if ((jx_w σ (p1 + 3) (y0).toNatClampNeg ((σ.1 (p1 + 3) (y0).toNatClampNeg) + 1)).1 (p1 + 3) (y0).toNatClampNeg) < ((jx_w σ (p1 + 3) (y0).toNatClampNeg ((σ.1 (p1 + 3) (y0).toNatClampNeg) + 1)).1 10 (y0).toNatClampNeg) then f_S_goBy_90 N p1 K16 x2 x3 x4 x5 y0 (jx_w σ (p1 + 3) (y0).toNatClampNeg ((σ.1 (p1 + 3) (y0).toNatClampNeg) + 1)) else f_S_goBy_90 N p1 K16 x2 (x3 ||| ((1 : Int32) <<< (y0 &&& 31))) x4 x5 y0 (jx_w σ (p1 + 3) (y0).toNatClampNeg ((σ.1 (p1 + 3) (y0).toNatClampNeg) + 1)) else none
def f_S_goBy_16 (N : Nat) (p1 : Nat) : Nat → Int32 → Int32 → Int32 → Int32 → jw_M → Option (Int32 × jw_M)
  | 0, _, _, _, _, _ => none
  | k + 1, x2, x3, x4, x5, σ => if (σ.1 1 0) ≤ x5 then some (x4, (jx_w (jx_w σ p1 0 ((σ.1 p1 0) + 1)) p1 1 (((jx_w σ p1 0 ((σ.1 p1 0) + 1)).1 p1 1) + x4))) else if (x5 + 1) = x2 then f_S_goBy_46 N p1 (f_S_goBy_16 N p1 k) x2 x3 x4 x5 8 σ else (f_S_choice N p1 x5 x3 σ).bind fun z17 => f_S_goBy_46 N p1 (f_S_goBy_16 N p1 k) x2 x3 x4 x5 (z17.1) z17.2
def f_S_goBy (N : Nat) (p1 : Nat) (x2 : Int32) (σ : jw_M) : Option (Int32 × jw_M) := (f_J_fill N (p1 + 3) 8 0 σ).bind fun z1 => f_S_goBy_16 N p1 N x2 0 0 0 z1
/-! ShadowSchool$Plans.walk(LShadowSchool$School;III)V -/
def f_L_walk_23 (N : Nat) (Rec : Int32 → Int32 → Int32 → jw_M → Option jw_M) (y1 : Int32) (y2 : Int32) (r_3 : Nat) (σ : jw_M) : Option jw_M := (f_P_learntBySome N r_3 σ).bind fun z3 => (f_L_weigh N y1 y2 (z3.1) z3.2).bind fun z5 => some z5
def f_L_walk_22 (N : Nat) (Rec : Int32 → Int32 → Int32 → jw_M → Option jw_M) (y1 : Int32) (y2 : Int32) (y4 : Int32) (σ : jw_M) : Option jw_M := bif jx_in y4 5 then f_L_walk_23 N Rec y1 y2 (94 + 4 * (y4).toNatClampNeg) σ else none
def f_L_walk_13 (N : Nat) (Rec : Int32 → Int32 → Int32 → jw_M → Option jw_M) (x2 : Int32) (x3 : Int32) (x4 : Int32) (σ : jw_M) : Option jw_M := f_L_walk_22 N Rec x3 x4 x2 σ
def f_L_walk_104 (N : Nat) (Rec : Int32 → Int32 → Int32 → jw_M → Option jw_M) (K43 : Int32 → Int32 → Int32 → Nat → Int32 → jw_M → Option jw_M) (x2 : Int32) (x3 : Int32) (x4 : Int32) (r5 : Nat) (x6 : Int32) (y2 : Int32) (y3 : Int32) (y4 : Int32) (σ : jw_M) : Option jw_M := (Rec y2 y3 y4 σ).bind fun z17 => K43 x2 x3 x4 r5 (x6 + 1) z17
def f_L_walk_71 (N : Nat) (Rec : Int32 → Int32 → Int32 → jw_M → Option jw_M) (K43 : Int32 → Int32 → Int32 → Nat → Int32 → jw_M → Option jw_M) (x2 : Int32) (x3 : Int32) (x4 : Int32) (r5 : Nat) (x6 : Int32) (σ : jw_M) : Option jw_M := (f_S_goBy N r5 x6 σ).bind fun z14 => if x6 = 0 then f_L_walk_104 N Rec K43 x2 x3 x4 r5 x6 (x2 + 1) (x3 + z14.1) x4 z14.2 else f_L_walk_104 N Rec K43 x2 x3 x4 r5 x6 (x2 + 1) (x3 + z14.1) (x4 + 1) z14.2
def f_L_walk_68 (N : Nat) (Rec : Int32 → Int32 → Int32 → jw_M → Option jw_M) (K43 : Int32 → Int32 → Int32 → Nat → Int32 → jw_M → Option jw_M) (x2 : Int32) (x3 : Int32) (x4 : Int32) (r5 : Nat) (x6 : Int32) (r_1 : Nat) (σ : jw_M) : Option jw_M := (f_P_copyFrom N r5 r_1 σ).bind fun z12 => f_L_walk_71 N Rec K43 x2 x3 x4 r5 x6 z12
def f_L_walk_67 (N : Nat) (Rec : Int32 → Int32 → Int32 → jw_M → Option jw_M) (K43 : Int32 → Int32 → Int32 → Nat → Int32 → jw_M → Option jw_M) (x2 : Int32) (x3 : Int32) (x4 : Int32) (r5 : Nat) (x6 : Int32) (y2 : Int32) (σ : jw_M) : Option jw_M := bif jx_in y2 5 then f_L_walk_68 N Rec K43 x2 x3 x4 r5 x6 (94 + 4 * (y2).toNatClampNeg) σ else none
def f_L_walk_43 (N : Nat) (Rec : Int32 → Int32 → Int32 → jw_M → Option jw_M) : Nat → Int32 → Int32 → Int32 → Nat → Int32 → jw_M → Option jw_M
  | 0, _, _, _, _, _, _ => none
  | k + 1, x2, x3, x4, r5, x6, σ => if (σ.1 1 0) < x6 then some σ else bif jx_in x2 4 then f_L_walk_67 N Rec (f_L_walk_43 N Rec k) x2 x3 x4 r5 x6 x2 (jx_w σ 114 (x2).toNatClampNeg x6) else none
def f_L_walk_38 (N : Nat) (Rec : Int32 → Int32 → Int32 → jw_M → Option jw_M) (x2 : Int32) (x3 : Int32) (x4 : Int32) (r_0 : Nat) (σ : jw_M) : Option jw_M := f_L_walk_43 N Rec N x2 x3 x4 r_0 0 σ
def f_L_walk_37 (N : Nat) (Rec : Int32 → Int32 → Int32 → jw_M → Option jw_M) (x2 : Int32) (x3 : Int32) (x4 : Int32) (y1 : Int32) (σ : jw_M) : Option jw_M := bif jx_in y1 5 then f_L_walk_38 N Rec x2 x3 x4 (94 + 4 * (y1).toNatClampNeg) σ else none
def f_L_walk (N : Nat) : Nat → Int32 → Int32 → Int32 → jw_M → Option jw_M
  | 0, _, _, _, _ => none
  | r + 1, x2, x3, x4, σ => if (σ.1 92 2) ≤ x2 then f_L_walk_13 N (f_L_walk N r) x2 x3 x4 σ else if x2 < 4 then f_L_walk_37 N (f_L_walk N r) x2 x3 x4 (x2 + 1) σ else f_L_walk_13 N (f_L_walk N r) x2 x3 x4 σ
/-! ShadowSchool$Plans.walkAll(LShadowSchool$School;II)V -/
def f_L_walkAll (N : Nat) (x2 : Int32) (x3 : Int32) (σ : jw_M) : Option jw_M := (f_P_copyFrom N 94 27 σ).bind fun z1 => (f_J_min N x2 ((z1.1 1 14) - (z1.1 27 0)) z1).bind fun z3 => (f_L_walk N 64 0 0 0 (jx_w (jx_w (jx_w (jx_w (jx_w (jx_w z3.2 92 2 z3.1) 92 3 ((-1) : Int32)) 92 4 (0 : Int32)) 92 6 x3) 92 7 (5 : Int32)) 92 8 (0 : Int32))).bind fun z5 => some z5
/-! ShadowSchool$School.isOver(LShadowSchool$Progress;)Z -/
def f_S_isOver (N : Nat) (p1 : Nat) (σ : jw_M) : Option (Int32 × jw_M) := if (σ.1 p1 0) < (σ.1 1 14) then some (0, σ) else some (1, σ)
/-! ShadowSchool$Plans.valueFrom(LShadowSchool$School;II)I -/
def f_L_valueFrom_139 (N : Nat) (Rec : Int32 → Int32 → jw_M → Option (Int32 × jw_M)) (K54 : Int32 → Int32 → Int32 → Nat → Int32 → Int32 → jw_M → Option (Int32 × jw_M)) (x2 : Int32) (x3 : Int32) (x4 : Int32) (r5 : Nat) (x6 : Int32) (x7 : Int32) (σ : jw_M) : Option (Int32 × jw_M) := K54 x2 x3 x4 r5 x6 (x7 + 1) σ
def f_L_valueFrom_125 (N : Nat) (Rec : Int32 → Int32 → jw_M → Option (Int32 × jw_M)) (K54 : Int32 → Int32 → Int32 → Nat → Int32 → Int32 → jw_M → Option (Int32 × jw_M)) (x2 : Int32) (x3 : Int32) (x4 : Int32) (r5 : Nat) (x7 : Int32) (x9 : Int32) (σ : jw_M) : Option (Int32 × jw_M) := if x2 = 0 then f_L_valueFrom_139 N Rec K54 x2 x3 x4 r5 x9 x7 (jx_w σ 92 9 x7) else f_L_valueFrom_139 N Rec K54 x2 x3 x4 r5 x9 x7 σ
def f_L_valueFrom_74 (N : Nat) (Rec : Int32 → Int32 → jw_M → Option (Int32 × jw_M)) (K54 : Int32 → Int32 → Int32 → Nat → Int32 → Int32 → jw_M → Option (Int32 × jw_M)) (x2 : Int32) (x3 : Int32) (x4 : Int32) (r5 : Nat) (x6 : Int32) (x7 : Int32) (σ : jw_M) : Option (Int32 × jw_M) := (f_S_goBy N r5 x7 σ).bind fun z13 => (Rec (x2 + 1) x3 z13.2).bind fun z15 => if x7 = 0 then f_L_valueFrom_125 N Rec K54 x2 x3 x4 r5 x7 (z13.1 + z15.1) z15.2 else if x4 = 0 then if x6 ≤ (z13.1 + z15.1) then f_L_valueFrom_139 N Rec K54 x2 x3 x4 r5 x6 x7 z15.2 else f_L_valueFrom_125 N Rec K54 x2 x3 x4 r5 x7 (z13.1 + z15.1) z15.2 else if (z13.1 + z15.1) ≤ x6 then f_L_valueFrom_139 N Rec K54 x2 x3 x4 r5 x6 x7 z15.2 else f_L_valueFrom_125 N Rec K54 x2 x3 x4 r5 x7 (z13.1 + z15.1) z15.2
def f_L_valueFrom_71 (N : Nat) (Rec : Int32 → Int32 → jw_M → Option (Int32 × jw_M)) (K54 : Int32 → Int32 → Int32 → Nat → Int32 → Int32 → jw_M → Option (Int32 × jw_M)) (x2 : Int32) (x3 : Int32) (x4 : Int32) (r5 : Nat) (x6 : Int32) (x7 : Int32) (r_1 : Nat) (σ : jw_M) : Option (Int32 × jw_M) := (f_P_copyFrom N r5 r_1 σ).bind fun z11 => f_L_valueFrom_74 N Rec K54 x2 x3 x4 r5 x6 x7 z11
def f_L_valueFrom_70 (N : Nat) (Rec : Int32 → Int32 → jw_M → Option (Int32 × jw_M)) (K54 : Int32 → Int32 → Int32 → Nat → Int32 → Int32 → jw_M → Option (Int32 × jw_M)) (x2 : Int32) (x3 : Int32) (x4 : Int32) (r5 : Nat) (x6 : Int32) (x7 : Int32) (y2 : Int32) (σ : jw_M) : Option (Int32 × jw_M) := bif jx_in y2 5 then f_L_valueFrom_71 N Rec K54 x2 x3 x4 r5 x6 x7 (94 + 4 * (y2).toNatClampNeg) σ else none
def f_L_valueFrom_54 (N : Nat) (Rec : Int32 → Int32 → jw_M → Option (Int32 × jw_M)) : Nat → Int32 → Int32 → Int32 → Nat → Int32 → Int32 → jw_M → Option (Int32 × jw_M)
  | 0, _, _, _, _, _, _, _ => none
  | k + 1, x2, x3, x4, r5, x6, x7, σ => if (σ.1 1 0) < x7 then some (x6, σ) else f_L_valueFrom_70 N Rec (f_L_valueFrom_54 N Rec k) x2 x3 x4 r5 x6 x7 x2 σ
def f_L_valueFrom_46 (N : Nat) (Rec : Int32 → Int32 → jw_M → Option (Int32 × jw_M)) (x2 : Int32) (x3 : Int32) (x4 : Int32) (r_0 : Nat) (σ : jw_M) : Option (Int32 × jw_M) := f_L_valueFrom_54 N Rec N x2 x3 x4 r_0 0 0 σ
def f_L_valueFrom_45 (N : Nat) (Rec : Int32 → Int32 → jw_M → Option (Int32 × jw_M)) (x2 : Int32) (x3 : Int32) (x4 : Int32) (y1 : Int32) (σ : jw_M) : Option (Int32 × jw_M) := bif jx_in y1 5 then f_L_valueFrom_46 N Rec x2 x3 x4 (94 + 4 * (y1).toNatClampNeg) σ else none
def f_L_valueFrom_36 (N : Nat) (Rec : Int32 → Int32 → jw_M → Option (Int32 × jw_M)) (x2 : Int32) (x3 : Int32) (y0 : Int32) (σ : jw_M) : Option (Int32 × jw_M) := f_L_valueFrom_45 N Rec x2 x3 y0 (x2 + 1) σ
def f_L_valueFrom_17 (N : Nat) (Rec : Int32 → Int32 → jw_M → Option (Int32 × jw_M)) (x2 : Int32) (x3 : Int32) (r_1 : Nat) (σ : jw_M) : Option (Int32 × jw_M) := (f_S_isOver N r_1 σ).bind fun z4 => if z4.1 = 0 then if (x2 - x2 / 2 * 2) = 0 then f_L_valueFrom_36 N Rec x2 x3 1 z4.2 else f_L_valueFrom_36 N Rec x2 x3 0 z4.2 else some (0, z4.2)
def f_L_valueFrom_16 (N : Nat) (Rec : Int32 → Int32 → jw_M → Option (Int32 × jw_M)) (x2 : Int32) (x3 : Int32) (y2 : Int32) (σ : jw_M) : Option (Int32 × jw_M) := bif jx_in y2 5 then f_L_valueFrom_17 N Rec x2 x3 (94 + 4 * (y2).toNatClampNeg) σ else none
def f_L_valueFrom (N : Nat) : Nat → Int32 → Int32 → jw_M → Option (Int32 × jw_M)
  | 0, _, _, _ => none
  | r + 1, x2, x3, σ => if x3 ≤ x2 then some (0, σ) else if 4 ≤ x2 then some (0, σ) else f_L_valueFrom_16 N (f_L_valueFrom N r) x2 x3 x2 σ
/-! ShadowSchool$Plans.valueOfGame(LShadowSchool$School;I)I -/
def f_L_valueOfGame (N : Nat) (x2 : Int32) (σ : jw_M) : Option (Int32 × jw_M) := (f_P_copyFrom N 94 27 σ).bind fun z1 => (f_L_valueFrom N 64 0 x2 (jx_w z1 92 9 (0 : Int32))).bind fun z3 => some (z3.1, z3.2)
/-! ShadowSchool$Plans.makeRows(LShadowSchool$School;)I -/
def f_L_makeRows_64 (N : Nat) (K17 : Int32 → jw_M → Option (Int32 × jw_M)) (x3 : Int32) (r_0 : Nat) (σ : jw_M) : Option (Int32 × jw_M) := (f_P_learntBySome N 94 σ).bind fun z9 => K17 (x3 + 1) (jx_w z9.2 r_0 2 z9.1)
def f_L_makeRows_63 (N : Nat) (K17 : Int32 → jw_M → Option (Int32 × jw_M)) (x3 : Int32) (y1 : Int32) (σ : jw_M) : Option (Int32 × jw_M) := bif jx_in y1 4 then f_L_makeRows_64 N K17 x3 (117 + (y1).toNatClampNeg) σ else none
def f_L_makeRows_45 (N : Nat) (K17 : Int32 → jw_M → Option (Int32 × jw_M)) (x3 : Int32) (r_0 : Nat) (σ : jw_M) : Option (Int32 × jw_M) := bif jx_in x3 4 then (f_S_goBy N 94 (σ.1 115 (x3).toNatClampNeg) σ).bind fun z6 => f_L_makeRows_63 N K17 x3 x3 (jx_w z6.2 r_0 1 z6.1) else none
def f_L_makeRows_44 (N : Nat) (K17 : Int32 → jw_M → Option (Int32 × jw_M)) (x3 : Int32) (y1 : Int32) (σ : jw_M) : Option (Int32 × jw_M) := bif jx_in y1 4 then f_L_makeRows_45 N K17 x3 (117 + (y1).toNatClampNeg) σ else none
def f_L_makeRows_31 (N : Nat) (K17 : Int32 → jw_M → Option (Int32 × jw_M)) (x3 : Int32) (r_0 : Nat) (σ : jw_M) : Option (Int32 × jw_M) := bif jx_in x3 4 then f_L_makeRows_44 N K17 x3 x3 (jx_w σ r_0 0 (σ.1 115 (x3).toNatClampNeg)) else none
def f_L_makeRows_30 (N : Nat) (K17 : Int32 → jw_M → Option (Int32 × jw_M)) (x3 : Int32) (y1 : Int32) (σ : jw_M) : Option (Int32 × jw_M) := bif jx_in y1 4 then f_L_makeRows_31 N K17 x3 (117 + (y1).toNatClampNeg) σ else none
def f_L_makeRows_17 (N : Nat) : Nat → Int32 → jw_M → Option (Int32 × jw_M)
  | 0, _, _ => none
  | k + 1, x3, σ => if (σ.1 92 10) ≤ x3 then some ((σ.1 92 10), σ) else f_L_makeRows_30 N (f_L_makeRows_17 N k) x3 x3 σ
def f_L_makeRows (N : Nat) (σ : jw_M) : Option (Int32 × jw_M) := f_L_makeRows_17 N N 0 (jx_w σ 92 10 (σ.1 92 2))
/-! ShadowSchool$Plans.hasRowPart(II)Z -/
def f_L_hasRowPart (N : Nat) (x1 : Int32) (x2 : Int32) (σ : jw_M) : Option (Int32 × jw_M) := if x1 < 0 then some (0, σ) else if (σ.1 92 10) ≤ x1 then some (0, σ) else if x2 < 0 then some (0, σ) else if 3 ≤ x2 then some (0, σ) else some (1, σ)
/-! ShadowSchool$School.isAct(I)Z -/
def f_S_isAct (N : Nat) (x1 : Int32) (σ : jw_M) : Option (Int32 × jw_M) := if x1 < 0 then some (0, σ) else if (σ.1 1 0) < x1 then some (0, σ) else some (1, σ)
/-! ShadowSchool$Plans.firstWrongRow(LShadowSchool$School;)I -/
def f_L_firstWrongRow_31 (N : Nat) (K17 : Int32 → jw_M → Option (Int32 × jw_M)) (x3 : Int32) (r_0 : Nat) (σ : jw_M) : Option (Int32 × jw_M) := (f_S_isAct N (σ.1 r_0 0) σ).bind fun z5 => if z5.1 = 0 then some ((x3 + 1), z5.2) else (f_S_isOver N 94 z5.2).bind fun z8 => if z8.1 = 0 then (f_S_goBy N 94 (z8.2.1 r_0 0) z8.2).bind fun z11 => if z11.1 = (z11.2.1 r_0 1) then (f_P_learntBySome N 94 z11.2).bind fun z14 => if z14.1 = (z14.2.1 r_0 2) then K17 (x3 + 1) z14.2 else some ((x3 + 1), z14.2) else some ((x3 + 1), z11.2) else some ((x3 + 1), z8.2)
def f_L_firstWrongRow_30 (N : Nat) (K17 : Int32 → jw_M → Option (Int32 × jw_M)) (x3 : Int32) (y1 : Int32) (σ : jw_M) : Option (Int32 × jw_M) := bif jx_in y1 4 then f_L_firstWrongRow_31 N K17 x3 (117 + (y1).toNatClampNeg) σ else none
def f_L_firstWrongRow_17 (N : Nat) : Nat → Int32 → jw_M → Option (Int32 × jw_M)
  | 0, _, _ => none
  | k + 1, x3, σ => if (σ.1 92 10) ≤ x3 then some (0, σ) else f_L_firstWrongRow_30 N (f_L_firstWrongRow_17 N k) x3 x3 σ
def f_L_firstWrongRow (N : Nat) (σ : jw_M) : Option (Int32 × jw_M) := (f_P_copyFrom N 94 27 σ).bind fun z1 => f_L_firstWrongRow_17 N N 0 z1
/-! ShadowSchool$Progress.clear()V -/
def f_P_clear (N : Nat) (σ : jw_M) : Option jw_M := (f_J_fill N 28 48 0 (jx_w (jx_w σ 27 0 (0 : Int32)) 27 1 (0 : Int32))).bind fun z1 => (f_J_fill N 29 6 0 z1).bind fun z3 => some z3
/-! ShadowSchool$Progress.hasLearnt(II)Z -/
def f_P_hasLearnt (N : Nat) (x1 : Int32) (x2 : Int32) (σ : jw_M) : Option (Int32 × jw_M) := bif jx_in x1 6 then if (((σ.1 77 (x1).toNatClampNeg) >>> (x2 &&& 31)) &&& 1) = 1 then some (1, σ) else some (0, σ) else none
/-! ShadowSchool$Progress.howManyLearnt(I)I -/
def f_P_howManyLearnt_4 (N : Nat) : Nat → Int32 → Int32 → Int32 → jw_M → Option (Int32 × jw_M)
  | 0, _, _, _, _ => none
  | k + 1, x1, x2, x3, σ => if 6 ≤ x3 then some (x2, σ) else bif jx_in x3 6 then f_P_howManyLearnt_4 N k x1 (x2 + (((σ.1 29 (x3).toNatClampNeg) >>> (x1 &&& 31)) &&& 1)) (x3 + 1) σ else none
def f_P_howManyLearnt (N : Nat) (x1 : Int32) (σ : jw_M) : Option (Int32 × jw_M) := f_P_howManyLearnt_4 N N x1 0 0 σ
/-! ShadowSchool$Reader.take(JI)I -/
def f_D_take_56 (N : Nat) (σ : jw_M) : Option (Int32 × jw_M) := some ((σ.1 80 0), σ)
def f_D_take_3 (N : Nat) : Nat → Int64 → Int32 → Int32 → jw_M → Option (Int32 × jw_M)
  | 0, _, _, _, _ => none
  | k + 1, x1, x3, x4, σ => if x3 ≤ x4 then f_D_take_56 N  σ else if 200 ≤ (σ.1 80 0) then f_D_take_56 N  σ else bif jx_in (σ.1 80 0) 200 then f_D_take_3 N k (x1) x3 (x4 + 1) (jx_w (jx_w σ 81 ((σ.1 80 0)).toNatClampNeg ((((x1 : Int64) >>> ((8 * x4).toInt64 &&& 63))).toInt32 &&& 255)) 80 0 (((jx_w σ 81 ((σ.1 80 0)).toNatClampNeg ((((x1 : Int64) >>> ((8 * x4).toInt64 &&& 63))).toInt32 &&& 255)).1 80 0) + 1)) else none
def f_D_take (N : Nat) (x1 : Int64) (x3 : Int32) (σ : jw_M) : Option (Int32 × jw_M) := f_D_take_3 N N (x1) x3 0 σ
/-! ShadowSchool$Reader.sortOf(I)I -/
def f_D_sortOf_14 (N : Nat) (x1 : Int32) (σ : jw_M) : Option (Int32 × jw_M) := if x1 < 48 then some (2, σ) else if 57 < x1 then some (2, σ) else some (1, σ)
def f_D_sortOf (N : Nat) (x1 : Int32) (σ : jw_M) : Option (Int32 × jw_M) := if x1 < 97 then f_D_sortOf_14 N x1 σ else if 122 < x1 then f_D_sortOf_14 N x1 σ else some (0, σ)
/-! ShadowSchool$Reader.signAt(I)I -/
def f_D_signAt (N : Nat) (x1 : Int32) (σ : jw_M) : Option (Int32 × jw_M) := bif jx_in x1 200 then if (σ.1 81 (x1).toNatClampNeg) = 40 then some ((σ.1 81 (x1).toNatClampNeg), σ) else if (σ.1 81 (x1).toNatClampNeg) = 41 then some ((σ.1 81 (x1).toNatClampNeg), σ) else if (σ.1 81 (x1).toNatClampNeg) = 59 then some ((σ.1 81 (x1).toNatClampNeg), σ) else if (σ.1 81 (x1).toNatClampNeg) = 60 then some ((σ.1 81 (x1).toNatClampNeg), σ) else if (σ.1 81 (x1).toNatClampNeg) = 61 then some ((σ.1 81 (x1).toNatClampNeg), σ) else if (σ.1 81 (x1).toNatClampNeg) = 62 then some ((σ.1 81 (x1).toNatClampNeg), σ) else some ((-1), σ) else none
/-! ShadowSchool$Reader.isNameAt(III)Z -/
def f_D_isNameAt_3 (N : Nat) : Nat → Int32 → Int32 → Int32 → Int32 → jw_M → Option (Int32 × jw_M)
  | 0, _, _, _, _, _ => none
  | k + 1, x1, x2, x3, x4, σ => if x3 ≤ x4 then some (1, σ) else bif jx_in (x1 + x4) 103 then bif jx_in (x2 + x4) 200 then if (jw_chr (x1 + x4)) = (σ.1 81 ((x2 + x4)).toNatClampNeg) then f_D_isNameAt_3 N k x1 x2 x3 (x4 + 1) σ else some (0, σ) else none else none
def f_D_isNameAt (N : Nat) (x1 : Int32) (x2 : Int32) (x3 : Int32) (σ : jw_M) : Option (Int32 × jw_M) := f_D_isNameAt_3 N N x1 x2 x3 0 σ
/-! ShadowSchool$Reader.nameAt(II)I -/
def f_D_nameAt_65 (N : Nat) (K8 : Int32 → Int32 → Int32 → Int32 → Int32 → jw_M → Option (Int32 × jw_M)) (x1 : Int32) (x2 : Int32) (x3 : Int32) (x4 : Int32) (x5 : Int32) (σ : jw_M) : Option (Int32 × jw_M) := K8 x1 x2 x3 x4 (x5 + 1) σ
def f_D_nameAt_56 (N : Nat) (K8 : Int32 → Int32 → Int32 → Int32 → Int32 → jw_M → Option (Int32 × jw_M)) (x1 : Int32) (x2 : Int32) (x3 : Int32) (x5 : Int32) (σ : jw_M) : Option (Int32 × jw_M) := f_D_nameAt_65 N K8 x1 x2 (x3 + 1) (x5 + 1) x5 σ
def f_D_nameAt_8 (N : Nat) : Nat → Int32 → Int32 → Int32 → Int32 → Int32 → jw_M → Option (Int32 × jw_M)
  | 0, _, _, _, _, _, _ => none
  | k + 1, x1, x2, x3, x4, x5, σ => if 103 ≤ x5 then some ((-1), σ) else bif jx_in x5 103 then if (jw_chr x5) = 32 then if (x5 - x4) = (x2 - x1) then (f_D_isNameAt N x4 x1 (x2 - x1) σ).bind fun z5 => if z5.1 = 0 then f_D_nameAt_56 N (f_D_nameAt_8 N k) x1 x2 x3 x5 z5.2 else some (x3, z5.2) else f_D_nameAt_56 N (f_D_nameAt_8 N k) x1 x2 x3 x5 σ else f_D_nameAt_65 N (f_D_nameAt_8 N k) x1 x2 x3 x4 x5 σ else none
def f_D_nameAt (N : Nat) (x1 : Int32) (x2 : Int32) (σ : jw_M) : Option (Int32 × jw_M) := f_D_nameAt_8 N N x1 x2 0 0 0 σ
/-! ShadowSchool$Reader.numberAt(II)I -/
def f_D_numberAt_14 (N : Nat) : Nat → Int32 → Int32 → Int32 → jw_M → Option (Int32 × jw_M)
  | 0, _, _, _, _ => none
  | k + 1, x2, x3, x4, σ => if x2 ≤ x4 then some ((1000 + x3), σ) else bif jx_in x4 200 then f_D_numberAt_14 N k x2 (((x3 * 10) + (σ.1 81 (x4).toNatClampNeg)) - 48) (x4 + 1) σ else none
def f_D_numberAt (N : Nat) (x1 : Int32) (x2 : Int32) (σ : jw_M) : Option (Int32 × jw_M) := if (x2 - x1) ≤ 4 then f_D_numberAt_14 N N x2 0 x1 σ else some ((-1), σ)
/-! ShadowSchool$Reader.tokenAt(II)I -/
def f_D_tokenAt_43 (N : Nat) (x1 : Int32) (x2 : Int32) (x3 : Int32) (σ : jw_M) : Option (Int32 × jw_M) := if x2 = 0 then (f_D_nameAt N x1 x3 σ).bind fun z6 => some (z6.1, z6.2) else (f_D_numberAt N x1 x3 σ).bind fun z8 => some (z8.1, z8.2)
def f_D_tokenAt_15 (N : Nat) : Nat → Int32 → Int32 → Int32 → jw_M → Option (Int32 × jw_M)
  | 0, _, _, _, _ => none
  | k + 1, x1, x2, x3, σ => if (σ.1 80 0) ≤ x3 then f_D_tokenAt_43 N x1 x2 x3 σ else bif jx_in x3 200 then (f_D_sortOf N (σ.1 81 (x3).toNatClampNeg) σ).bind fun z11 => if z11.1 = x2 then f_D_tokenAt_15 N k x1 x2 (x3 + 1) z11.2 else f_D_tokenAt_43 N x1 x2 x3 z11.2 else none
def f_D_tokenAt (N : Nat) (x1 : Int32) (x2 : Int32) (σ : jw_M) : Option (Int32 × jw_M) := if x2 = 2 then (f_D_signAt N x1 σ).bind fun z2 => some (z2.1, z2.2) else f_D_tokenAt_15 N N x1 x2 (x1 + 1) σ
/-! ShadowSchool$Reader.cutIntoTokens()V -/
def f_D_cutIntoTokens_84 (N : Nat) (K6 : Int32 → Int32 → Int32 → jw_M → Option jw_M) (x1 : Int32) (x3 : Int32) (x4 : Int32) (σ : jw_M) : Option jw_M := K6 x1 x4 (x3 + 1) σ
def f_D_cutIntoTokens_43 (N : Nat) (K6 : Int32 → Int32 → Int32 → jw_M → Option jw_M) (x1 : Int32) (x3 : Int32) (x4 : Int32) (y0 : Int32) (σ : jw_M) : Option jw_M := if y0 = 0 then bif jx_in x3 200 then if (σ.1 81 (x3).toNatClampNeg) = 32 then f_D_cutIntoTokens_84 N K6 x1 x3 x4 σ else (f_D_tokenAt N x3 x4 σ).bind fun z10 => bif jx_in x1 201 then f_D_cutIntoTokens_84 N K6 (x1 + 1) x3 x4 (jx_w (jx_w z10.2 82 (x1).toNatClampNeg z10.1) 83 (x1).toNatClampNeg x3) else none else none else f_D_cutIntoTokens_84 N K6 x1 x3 x4 σ
def f_D_cutIntoTokens_42 (N : Nat) (K6 : Int32 → Int32 → Int32 → jw_M → Option jw_M) (x1 : Int32) (x3 : Int32) (x4 : Int32) (σ : jw_M) : Option jw_M := f_D_cutIntoTokens_43 N K6 x1 x3 x4 0 σ
def f_D_cutIntoTokens_6 (N : Nat) : Nat → Int32 → Int32 → Int32 → jw_M → Option jw_M
  | 0, _, _, _, _ => none
  | k + 1, x1, x2, x3, σ => if (σ.1 80 0) ≤ x3 then bif jx_in x1 201 then some (jx_w (jx_w σ 82 (x1).toNatClampNeg ((-2) : Int32)) 83 (x1).toNatClampNeg ((jx_w σ 82 (x1).toNatClampNeg ((-2) : Int32)).1 80 0)) else none else bif jx_in x3 200 then (f_D_sortOf N (σ.1 81 (x3).toNatClampNeg) σ).bind fun z4 => if z4.1 = 2 then f_D_cutIntoTokens_42 N (f_D_cutIntoTokens_6 N k) x1 x3 (z4.1) z4.2 else if z4.1 = x2 then f_D_cutIntoTokens_43 N (f_D_cutIntoTokens_6 N k) x1 x3 (z4.1) 1 z4.2 else f_D_cutIntoTokens_42 N (f_D_cutIntoTokens_6 N k) x1 x3 (z4.1) z4.2 else none
def f_D_cutIntoTokens (N : Nat) (σ : jw_M) : Option jw_M := f_D_cutIntoTokens_6 N N 0 2 0 σ
/-! ShadowSchool$Reader.goOn()V -/
def f_D_goOn (N : Nat) (σ : jw_M) : Option jw_M := if 200 ≤ (σ.1 80 4) then some σ else some (jx_w σ 80 4 ((σ.1 80 4) + 1))
/-! ShadowSchool$Reader.readSign(I)Z -/
def f_D_readSign (N : Nat) (x1 : Int32) (σ : jw_M) : Option (Int32 × jw_M) := bif jx_in (σ.1 80 4) 201 then if (σ.1 82 ((σ.1 80 4)).toNatClampNeg) = x1 then (f_D_goOn N  σ).bind fun z3 => some (1, z3) else some (0, σ) else none
/-! ShadowSchool$Reader.readWithin(I)Z -/
def f_D_readWithin (N : Nat) (Rec : Int32 → jw_M → Option (Int32 × jw_M)) (x1 : Int32) (σ : jw_M) : Option (Int32 × jw_M) := if x1 < 3 then (f_D_goOn N  σ).bind fun z2 => (Rec (x1 + 1) z2).bind fun z4 => if z4.1 = 0 then some (0, z4.2) else (f_D_readSign N 41 z4.2).bind fun z7 => if z7.1 = 0 then some (0, z7.2) else some (1, z7.2) else some (0, σ)
/-! ShadowSchool.isWithin(III)Z -/
def f_F_isWithin (N : Nat) (x0 : Int32) (x1 : Int32) (x2 : Int32) (σ : jw_M) : Option (Int32 × jw_M) := if x0 < x1 then some (0, σ) else if x2 < x0 then some (0, σ) else some (1, σ)
/-! ShadowSchool$Reader.isValue(I)Z -/
def f_D_isValue_18 (N : Nat) (σ : jw_M) : Option (Int32 × jw_M) := some (1, σ)
def f_D_isValue (N : Nat) (x1 : Int32) (σ : jw_M) : Option (Int32 × jw_M) := if 1000 ≤ x1 then f_D_isValue_18 N  σ else (f_F_isWithin N x1 13 17 σ).bind fun z2 => if z2.1 = 0 then some (0, z2.2) else f_D_isValue_18 N  z2.2
/-! ShadowSchool$Rules.addValue(I)I -/
def f_R_addValue (N : Nat) (x1 : Int32) (σ : jw_M) : Option (Int32 × jw_M) := if (σ.1 84 9) < 105 then bif jx_in (σ.1 84 9) 105 then some ((σ.1 84 9), (jx_w (jx_w σ 84 9 ((σ.1 84 9) + 1)) 91 ((σ.1 84 9)).toNatClampNeg x1)) else none else some (0, σ)
/-! ShadowSchool$Reader.placeOfValue(I)I -/
def f_D_placeOfValue (N : Nat) (x1 : Int32) (σ : jw_M) : Option (Int32 × jw_M) := if x1 < 1000 then some ((x1 - 13), σ) else (f_R_addValue N (x1 - 1000) σ).bind fun z2 => some (z2.1, z2.2)
/-! ShadowSchool$Rules.addStep(III)V -/
def f_R_addStep (N : Nat) (x1 : Int32) (x2 : Int32) (x3 : Int32) (σ : jw_M) : Option jw_M := if 100 ≤ (σ.1 84 1) then some σ else bif jx_in (σ.1 84 1) 100 then bif jx_in ((jx_w σ 88 ((σ.1 84 1)).toNatClampNeg x1).1 84 1) 100 then bif jx_in ((jx_w (jx_w σ 88 ((σ.1 84 1)).toNatClampNeg x1) 89 (((jx_w σ 88 ((σ.1 84 1)).toNatClampNeg x1).1 84 1)).toNatClampNeg x2).1 84 1) 100 then some (jx_w (jx_w (jx_w (jx_w σ 88 ((σ.1 84 1)).toNatClampNeg x1) 89 (((jx_w σ 88 ((σ.1 84 1)).toNatClampNeg x1).1 84 1)).toNatClampNeg x2) 90 (((jx_w (jx_w σ 88 ((σ.1 84 1)).toNatClampNeg x1) 89 (((jx_w σ 88 ((σ.1 84 1)).toNatClampNeg x1).1 84 1)).toNatClampNeg x2).1 84 1)).toNatClampNeg x3) 84 1 (((jx_w (jx_w (jx_w σ 88 ((σ.1 84 1)).toNatClampNeg x1) 89 (((jx_w σ 88 ((σ.1 84 1)).toNatClampNeg x1).1 84 1)).toNatClampNeg x2) 90 (((jx_w (jx_w σ 88 ((σ.1 84 1)).toNatClampNeg x1) 89 (((jx_w σ 88 ((σ.1 84 1)).toNatClampNeg x1).1 84 1)).toNatClampNeg x2).1 84 1)).toNatClampNeg x3).1 84 1) + 1)) else none else none else none
/-! ShadowSchool$Reader.readComparison()Z -/
def f_D_readComparison (N : Nat) (σ : jw_M) : Option (Int32 × jw_M) := bif jx_in (σ.1 80 4) 201 then (f_D_isValue N (σ.1 82 ((σ.1 80 4)).toNatClampNeg) σ).bind fun z2 => if z2.1 = 0 then some (0, z2.2) else bif jx_in (z2.2.1 80 4) 201 then (f_D_placeOfValue N (z2.2.1 82 ((z2.2.1 80 4)).toNatClampNeg) z2.2).bind fun z6 => (f_D_goOn N  z6.2).bind fun z8 => bif jx_in (z8.1 80 4) 201 then (f_F_isWithin N ((z8.1 82 ((z8.1 80 4)).toNatClampNeg) - 60) 0 2 z8).bind fun z11 => if z11.1 = 0 then some (0, z11.2) else (f_D_goOn N  z11.2).bind fun z14 => bif jx_in (z14.1 80 4) 201 then (f_D_isValue N (z14.1 82 ((z14.1 80 4)).toNatClampNeg) z14).bind fun z17 => if z17.1 = 0 then some (0, z17.2) else bif jx_in (z17.2.1 80 4) 201 then (f_D_placeOfValue N (z17.2.1 82 ((z17.2.1 80 4)).toNatClampNeg) z17.2).bind fun z21 => (f_R_addStep N ((z8.1 82 ((z8.1 80 4)).toNatClampNeg) - 60) (z6.1) (z21.1) z21.2).bind fun z23 => (f_D_goOn N  z23).bind fun z25 => some (1, z25) else none else none else none else none else none
/-! ShadowSchool$Reader.readOne(I)Z -/
def f_D_readOne_71 (N : Nat) (Rec : Int32 → jw_M → Option (Int32 × jw_M)) (x2 : Int32) (y0 : Int32) (σ : jw_M) : Option (Int32 × jw_M) := if y0 = 0 then if y0 = 0 ∨ y0 = 1 then some (y0, σ) else none else if x2 = 0 then if y0 = 0 ∨ y0 = 1 then some (y0, σ) else none else (f_R_addStep N 5 0 0 σ).bind fun z10 => if y0 = 0 ∨ y0 = 1 then some (y0, z10) else none
def f_D_readOne_45 (N : Nat) (Rec : Int32 → jw_M → Option (Int32 × jw_M)) (x1 : Int32) (x2 : Int32) (σ : jw_M) : Option (Int32 × jw_M) := bif jx_in (σ.1 80 4) 201 then if (σ.1 82 ((σ.1 80 4)).toNatClampNeg) = 40 then (f_D_readWithin N Rec x1 σ).bind fun z4 => f_D_readOne_71 N Rec x2 (z4.1) z4.2 else (f_D_readComparison N  σ).bind fun z13 => f_D_readOne_71 N Rec x2 (z13.1) z13.2 else none
def f_D_readOne_34 (N : Nat) (Rec : Int32 → jw_M → Option (Int32 × jw_M)) (K4 : Int32 → Int32 → Int32 → jw_M → Option (Int32 × jw_M)) (x1 : Int32) (x3 : Int32) (y0 : Int32) (σ : jw_M) : Option (Int32 × jw_M) := (f_D_goOn N  σ).bind fun z18 => K4 x1 y0 (x3 + 1) z18
def f_D_readOne_4 (N : Nat) (Rec : Int32 → jw_M → Option (Int32 × jw_M)) : Nat → Int32 → Int32 → Int32 → jw_M → Option (Int32 × jw_M)
  | 0, _, _, _, _ => none
  | k + 1, x1, x2, x3, σ => if 200 ≤ x3 then f_D_readOne_45 N Rec x1 x2 σ else bif jx_in (σ.1 80 4) 201 then if (σ.1 82 ((σ.1 80 4)).toNatClampNeg) = 12 then if x2 = 0 then f_D_readOne_34 N Rec (f_D_readOne_4 N Rec k) x1 x3 1 σ else f_D_readOne_34 N Rec (f_D_readOne_4 N Rec k) x1 x3 0 σ else f_D_readOne_45 N Rec x1 x2 σ else none
def f_D_readOne (N : Nat) (Rec : Int32 → jw_M → Option (Int32 × jw_M)) (x1 : Int32) (σ : jw_M) : Option (Int32 × jw_M) := f_D_readOne_4 N Rec N x1 0 0 σ
/-! ShadowSchool$Reader.readCondition(I)Z -/
def f_D_readCondition_129 (N : Nat) (Rec : Int32 → jw_M → Option (Int32 × jw_M)) (x2 : Int32) (σ : jw_M) : Option (Int32 × jw_M) := if x2 = 0 then some (1, σ) else (f_R_addStep N 4 0 0 σ).bind fun z6 => some (1, z6)
def f_D_readCondition_123 (N : Nat) (Rec : Int32 → jw_M → Option (Int32 × jw_M)) (K14 : Int32 → Int32 → Int32 → jw_M → Option (Int32 × jw_M)) (x1 : Int32) (x2 : Int32) (x3 : Int32) (σ : jw_M) : Option (Int32 × jw_M) := K14 x1 x2 (x3 + 1) σ
def f_D_readCondition_89 (N : Nat) (Rec : Int32 → jw_M → Option (Int32 × jw_M)) (K14 : Int32 → Int32 → Int32 → jw_M → Option (Int32 × jw_M)) (x1 : Int32) (x2 : Int32) (x3 : Int32) (x4 : Int32) (σ : jw_M) : Option (Int32 × jw_M) := (f_D_goOn N  σ).bind fun z14 => (f_D_readOne N Rec x1 z14).bind fun z16 => if z16.1 = 0 then some (0, z16.2) else if x4 = 0 then f_D_readCondition_123 N Rec K14 x1 1 x3 z16.2 else (f_R_addStep N 3 0 0 z16.2).bind fun z20 => f_D_readCondition_123 N Rec K14 x1 x2 x3 z20
def f_D_readCondition_68 (N : Nat) (Rec : Int32 → jw_M → Option (Int32 × jw_M)) (K14 : Int32 → Int32 → Int32 → jw_M → Option (Int32 × jw_M)) (x1 : Int32) (x2 : Int32) (x3 : Int32) (y0 : Int32) (σ : jw_M) : Option (Int32 × jw_M) := if y0 = 0 then if x2 = 0 then f_D_readCondition_89 N Rec K14 x1 x2 x3 y0 σ else (f_R_addStep N 4 0 0 σ).bind fun z22 => f_D_readCondition_89 N Rec K14 x1 x2 x3 y0 z22 else f_D_readCondition_89 N Rec K14 x1 x2 x3 y0 σ
def f_D_readCondition_49 (N : Nat) (Rec : Int32 → jw_M → Option (Int32 × jw_M)) (K14 : Int32 → Int32 → Int32 → jw_M → Option (Int32 × jw_M)) (x1 : Int32) (x2 : Int32) (x3 : Int32) (σ : jw_M) : Option (Int32 × jw_M) := bif jx_in (σ.1 80 4) 201 then if (σ.1 82 ((σ.1 80 4)).toNatClampNeg) = 11 then f_D_readCondition_68 N Rec K14 x1 x2 x3 1 σ else f_D_readCondition_68 N Rec K14 x1 x2 x3 0 σ else none
def f_D_readCondition_14 (N : Nat) (Rec : Int32 → jw_M → Option (Int32 × jw_M)) : Nat → Int32 → Int32 → Int32 → jw_M → Option (Int32 × jw_M)
  | 0, _, _, _, _ => none
  | k + 1, x1, x2, x3, σ => if 200 ≤ x3 then f_D_readCondition_129 N Rec x2 σ else bif jx_in (σ.1 80 4) 201 then if (σ.1 82 ((σ.1 80 4)).toNatClampNeg) = 11 then f_D_readCondition_49 N Rec (f_D_readCondition_14 N Rec k) x1 x2 x3 σ else if (σ.1 82 ((σ.1 80 4)).toNatClampNeg) = 10 then f_D_readCondition_49 N Rec (f_D_readCondition_14 N Rec k) x1 x2 x3 σ else f_D_readCondition_129 N Rec x2 σ else none
def f_D_readCondition (N : Nat) : Nat → Int32 → jw_M → Option (Int32 × jw_M)
  | 0, _, _ => none
  | r + 1, x1, σ => (f_D_readOne N (f_D_readCondition N r) x1 σ).bind fun z1 => if z1.1 = 0 then some (0, z1.2) else f_D_readCondition_14 N (f_D_readCondition N r) N x1 0 0 z1.2
/-! ShadowSchool$Rules.addRule(II)V -/
def f_R_addRule (N : Nat) (x1 : Int32) (x2 : Int32) (σ : jw_M) : Option jw_M := if 8 ≤ (σ.1 84 0) then some σ else bif jx_in (σ.1 84 0) 8 then bif jx_in ((jx_w σ 85 ((σ.1 84 0)).toNatClampNeg x1).1 84 0) 8 then bif jx_in ((jx_w (jx_w σ 85 ((σ.1 84 0)).toNatClampNeg x1) 86 (((jx_w σ 85 ((σ.1 84 0)).toNatClampNeg x1).1 84 0)).toNatClampNeg x2).1 84 0) 8 then some (jx_w (jx_w (jx_w (jx_w σ 85 ((σ.1 84 0)).toNatClampNeg x1) 86 (((jx_w σ 85 ((σ.1 84 0)).toNatClampNeg x1).1 84 0)).toNatClampNeg x2) 87 (((jx_w (jx_w σ 85 ((σ.1 84 0)).toNatClampNeg x1) 86 (((jx_w σ 85 ((σ.1 84 0)).toNatClampNeg x1).1 84 0)).toNatClampNeg x2).1 84 0)).toNatClampNeg ((jx_w (jx_w σ 85 ((σ.1 84 0)).toNatClampNeg x1) 86 (((jx_w σ 85 ((σ.1 84 0)).toNatClampNeg x1).1 84 0)).toNatClampNeg x2).1 84 1)) 84 0 (((jx_w (jx_w (jx_w σ 85 ((σ.1 84 0)).toNatClampNeg x1) 86 (((jx_w σ 85 ((σ.1 84 0)).toNatClampNeg x1).1 84 0)).toNatClampNeg x2) 87 (((jx_w (jx_w σ 85 ((σ.1 84 0)).toNatClampNeg x1) 86 (((jx_w σ 85 ((σ.1 84 0)).toNatClampNeg x1).1 84 0)).toNatClampNeg x2).1 84 0)).toNatClampNeg ((jx_w (jx_w σ 85 ((σ.1 84 0)).toNatClampNeg x1) 86 (((jx_w σ 85 ((σ.1 84 0)).toNatClampNeg x1).1 84 0)).toNatClampNeg x2).1 84 1)).1 84 0) + 1)) else none else none else none
/-! ShadowSchool$Reader.readRule()Z -/
def f_D_readRule_53 (N : Nat) (x1 : Int32) (σ : jw_M) : Option (Int32 × jw_M) := bif jx_in (σ.1 80 4) 201 then (f_F_isWithin N ((σ.1 82 ((σ.1 80 4)).toNatClampNeg) - 6) 0 2 σ).bind fun z15 => if z15.1 = 0 then some (0, z15.2) else (f_D_goOn N  z15.2).bind fun z18 => (f_R_addRule N x1 ((σ.1 82 ((σ.1 80 4)).toNatClampNeg) - 6) z18).bind fun z20 => (f_D_readSign N 59 z20).bind fun z22 => if z22.1 = 0 ∨ z22.1 = 1 then some (z22.1, z22.2) else none else none
def f_D_readRule (N : Nat) (σ : jw_M) : Option (Int32 × jw_M) := bif jx_in (σ.1 80 4) 201 then (f_F_isWithin N (σ.1 82 ((σ.1 80 4)).toNatClampNeg) 0 5 σ).bind fun z2 => if z2.1 = 0 then some (0, z2.2) else (f_D_goOn N  z2.2).bind fun z5 => bif jx_in (z5.1 80 4) 201 then if (z5.1 82 ((z5.1 80 4)).toNatClampNeg) = 9 then (f_D_goOn N  z5).bind fun z9 => (f_D_readCondition N 64 0 z9).bind fun z11 => if z11.1 = 0 then some (0, z11.2) else f_D_readRule_53 N (σ.1 82 ((σ.1 80 4)).toNatClampNeg) z11.2 else f_D_readRule_53 N (σ.1 82 ((σ.1 80 4)).toNatClampNeg) z5 else none else none
/-! ShadowSchool$Rules.clear()V -/
def f_R_clear (N : Nat) (σ : jw_M) : Option jw_M := some (jx_w (jx_w (jx_w σ 84 0 (0 : Int32)) 84 1 (0 : Int32)) 84 9 (5 : Int32))
/-! ShadowSchool$Reader.readAll()I -/
def f_D_readAll_69 (N : Nat) (σ : jw_M) : Option (Int32 × jw_M) := bif jx_in (σ.1 80 4) 201 then if (σ.1 82 ((σ.1 80 4)).toNatClampNeg) = (-2) then some ((σ.1 84 0), σ) else some (((-100) - (σ.1 83 ((σ.1 80 4)).toNatClampNeg)), σ) else none
def f_D_readAll_23 (N : Nat) : Nat → Int32 → jw_M → Option (Int32 × jw_M)
  | 0, _, _ => none
  | k + 1, x1, σ => if 8 ≤ x1 then f_D_readAll_69 N  σ else bif jx_in (σ.1 80 4) 201 then if (σ.1 82 ((σ.1 80 4)).toNatClampNeg) = (-2) then f_D_readAll_69 N  σ else (f_D_readRule N  σ).bind fun z10 => if z10.1 = 0 then bif jx_in (z10.2.1 80 4) 201 then some (((-100) - (z10.2.1 83 ((z10.2.1 80 4)).toNatClampNeg)), z10.2) else none else f_D_readAll_23 N k (x1 + 1) z10.2 else none
def f_D_readAll (N : Nat) (σ : jw_M) : Option (Int32 × jw_M) := (f_D_cutIntoTokens N  σ).bind fun z1 => (f_R_clear N  (jx_w (jx_w z1 80 0 (0 : Int32)) 80 4 (0 : Int32))).bind fun z3 => f_D_readAll_23 N N 0 z3
/-! ShadowSchool$Rules.copyFrom(LShadowSchool$Rules;)V -/
def f_R_copyFrom_82 (N : Nat) (p0 : Nat) (p1 : Nat) (σ : jw_M) : Option jw_M := (f_F_copyRow N (p1 + 7) (p0 + 7) 105 105 (jx_w σ p0 9 (σ.1 p1 9))).bind fun z13 => some z13
def f_R_copyFrom_71 (N : Nat) (p0 : Nat) (p1 : Nat) (σ : jw_M) : Option jw_M := (f_F_copyRow N (p1 + 6) (p0 + 6) 100 100 σ).bind fun z11 => f_R_copyFrom_82 N p0 p1  z11
def f_R_copyFrom_60 (N : Nat) (p0 : Nat) (p1 : Nat) (σ : jw_M) : Option jw_M := (f_F_copyRow N (p1 + 5) (p0 + 5) 100 100 σ).bind fun z9 => f_R_copyFrom_71 N p0 p1  z9
def f_R_copyFrom_49 (N : Nat) (p0 : Nat) (p1 : Nat) (σ : jw_M) : Option jw_M := (f_F_copyRow N (p1 + 4) (p0 + 4) 100 100 σ).bind fun z7 => f_R_copyFrom_60 N p0 p1  z7
def f_R_copyFrom_38 (N : Nat) (p0 : Nat) (p1 : Nat) (σ : jw_M) : Option jw_M := (f_F_copyRow N (p1 + 3) (p0 + 3) 8 8 σ).bind fun z5 => f_R_copyFrom_49 N p0 p1  z5
def f_R_copyFrom_27 (N : Nat) (p0 : Nat) (p1 : Nat) (σ : jw_M) : Option jw_M := (f_F_copyRow N (p1 + 2) (p0 + 2) 8 8 σ).bind fun z3 => f_R_copyFrom_38 N p0 p1  z3
def f_R_copyFrom (N : Nat) (p0 : Nat) (p1 : Nat) (σ : jw_M) : Option jw_M := (f_F_copyRow N (p1 + 1) (p0 + 1) 8 8 (jx_w (jx_w σ p0 0 (σ.1 p1 0)) p0 1 ((jx_w σ p0 0 (σ.1 p1 0)).1 p1 1))).bind fun z1 => f_R_copyFrom_27 N p0 p1  z1
/-! ShadowSchool$School.copyFrom(LShadowSchool$School;)V -/
def f_S_copyFrom_38_1_157 (N : Nat) (K136 : Int32 → jw_M → Option jw_M) (x2 : Int32) (σ : jw_M) : Option jw_M := K136 (x2 + 1) σ
def f_S_copyFrom_38_1_154 (N : Nat) (K136 : Int32 → jw_M → Option jw_M) (x2 : Int32) (r_0 : Nat) (r_1 : Nat) (σ : jw_M) : Option jw_M := (f_F_copyRow N r_0 r_1 4 4 σ).bind fun z28 => f_S_copyFrom_38_1_157 N K136 x2 z28
def f_S_copyFrom_38_1_153 (N : Nat) (K136 : Int32 → jw_M → Option jw_M) (x2 : Int32) (r_0 : Nat) (y2 : Int32) (σ : jw_M) : Option jw_M := bif jx_in y2 6 then f_S_copyFrom_38_1_154 N K136 x2 r_0 (50 + (y2).toNatClampNeg) σ else none
def f_S_copyFrom_38_1_148 (N : Nat) (K136 : Int32 → jw_M → Option jw_M) (x2 : Int32) (r_0 : Nat) (σ : jw_M) : Option jw_M := f_S_copyFrom_38_1_153 N K136 x2 r_0 x2 σ
def f_S_copyFrom_38_1_147 (N : Nat) (K136 : Int32 → jw_M → Option jw_M) (x2 : Int32) (y1 : Int32) (σ : jw_M) : Option jw_M := bif jx_in y1 6 then f_S_copyFrom_38_1_148 N K136 x2 (13 + (y1).toNatClampNeg) σ else none
def f_S_copyFrom_38_1_136 (N : Nat) : Nat → Int32 → jw_M → Option jw_M
  | 0, _, _ => none
  | k + 1, x2, σ => if 6 ≤ x2 then (f_R_copyFrom N 56 19 (jx_w (jx_w σ 38 14 (σ.1 1 14)) 38 15 ((jx_w σ 38 14 (σ.1 1 14)).1 1 15))).bind fun z22 => (f_P_copyFrom N 64 27 z22).bind fun z24 => some z24 else f_S_copyFrom_38_1_147 N (f_S_copyFrom_38_1_136 N k) x2 x2 σ
def f_S_copyFrom_38_1 (N : Nat) (σ : jw_M) : Option jw_M := (f_F_copyRow N 2 39 6 6 (jx_w σ 38 0 (σ.1 1 0))).bind fun z1 => (f_F_copyRow N 3 40 6 6 z1).bind fun z3 => (f_F_copyRow N 4 41 6 6 z3).bind fun z5 => (f_F_copyRow N 5 42 6 6 z5).bind fun z7 => (f_F_copyRow N 6 43 8 8 (jx_w z7 38 5 (z7.1 1 5))).bind fun z9 => (f_F_copyRow N 7 44 8 8 z9).bind fun z11 => (f_F_copyRow N 8 45 8 8 z11).bind fun z13 => (f_F_copyRow N 9 46 8 8 z13).bind fun z15 => (f_F_copyRow N 10 47 8 8 z15).bind fun z17 => (f_F_copyRow N 11 48 17 17 z17).bind fun z19 => f_S_copyFrom_38_1_136 N N 0 (jx_w z19 38 12 (z19.1 1 12))
def f_S_copyFrom_1_38_157 (N : Nat) (K136 : Int32 → jw_M → Option jw_M) (x2 : Int32) (σ : jw_M) : Option jw_M := K136 (x2 + 1) σ
def f_S_copyFrom_1_38_154 (N : Nat) (K136 : Int32 → jw_M → Option jw_M) (x2 : Int32) (r_0 : Nat) (r_1 : Nat) (σ : jw_M) : Option jw_M := (f_F_copyRow N r_0 r_1 4 4 σ).bind fun z28 => f_S_copyFrom_1_38_157 N K136 x2 z28
def f_S_copyFrom_1_38_153 (N : Nat) (K136 : Int32 → jw_M → Option jw_M) (x2 : Int32) (r_0 : Nat) (y2 : Int32) (σ : jw_M) : Option jw_M := bif jx_in y2 6 then f_S_copyFrom_1_38_154 N K136 x2 r_0 (13 + (y2).toNatClampNeg) σ else none
def f_S_copyFrom_1_38_148 (N : Nat) (K136 : Int32 → jw_M → Option jw_M) (x2 : Int32) (r_0 : Nat) (σ : jw_M) : Option jw_M := f_S_copyFrom_1_38_153 N K136 x2 r_0 x2 σ
def f_S_copyFrom_1_38_147 (N : Nat) (K136 : Int32 → jw_M → Option jw_M) (x2 : Int32) (y1 : Int32) (σ : jw_M) : Option jw_M := bif jx_in y1 6 then f_S_copyFrom_1_38_148 N K136 x2 (50 + (y1).toNatClampNeg) σ else none
def f_S_copyFrom_1_38_136 (N : Nat) : Nat → Int32 → jw_M → Option jw_M
  | 0, _, _ => none
  | k + 1, x2, σ => if 6 ≤ x2 then (f_R_copyFrom N 19 56 (jx_w (jx_w σ 1 14 (σ.1 38 14)) 1 15 ((jx_w σ 1 14 (σ.1 38 14)).1 38 15))).bind fun z22 => (f_P_copyFrom N 27 64 z22).bind fun z24 => some z24 else f_S_copyFrom_1_38_147 N (f_S_copyFrom_1_38_136 N k) x2 x2 σ
def f_S_copyFrom_1_38 (N : Nat) (σ : jw_M) : Option jw_M := (f_F_copyRow N 39 2 6 6 (jx_w σ 1 0 (σ.1 38 0))).bind fun z1 => (f_F_copyRow N 40 3 6 6 z1).bind fun z3 => (f_F_copyRow N 41 4 6 6 z3).bind fun z5 => (f_F_copyRow N 42 5 6 6 z5).bind fun z7 => (f_F_copyRow N 43 6 8 8 (jx_w z7 1 5 (z7.1 38 5))).bind fun z9 => (f_F_copyRow N 44 7 8 8 z9).bind fun z11 => (f_F_copyRow N 45 8 8 8 z11).bind fun z13 => (f_F_copyRow N 46 9 8 8 z13).bind fun z15 => (f_F_copyRow N 47 10 8 8 z15).bind fun z17 => (f_F_copyRow N 48 11 17 17 z17).bind fun z19 => f_S_copyFrom_1_38_136 N N 0 (jx_w z19 1 12 (z19.1 38 12))
/-! ShadowSchool$School.isShadow(I)Z -/
def f_S_isShadow (N : Nat) (x1 : Int32) (σ : jw_M) : Option (Int32 × jw_M) := if x1 < 0 then some (0, σ) else if (σ.1 1 0) ≤ x1 then some (0, σ) else some (1, σ)
/-! ShadowSchool$School.isLesson(I)Z -/
def f_S_isLesson (N : Nat) (x1 : Int32) (σ : jw_M) : Option (Int32 × jw_M) := if x1 < 0 then some (0, σ) else if (σ.1 1 5) ≤ x1 then some (0, σ) else some (1, σ)
/-! ShadowSchool$School.allLessons()I -/
def f_S_allLessons (N : Nat) (σ : jw_M) : Option (Int32 × jw_M) := some ((((1 : Int32) <<< ((σ.1 1 5) &&& 31)) - 1), σ)
/-! ShadowSchool$School.isSetOfLessons(I)Z -/
def f_S_isSetOfLessons (N : Nat) (x1 : Int32) (σ : jw_M) : Option (Int32 × jw_M) := (f_S_allLessons N  σ).bind fun z1 => if (x1 &&& (z1.1 ^^^ (-1))) = 0 then some (1, z1.2) else some (0, z1.2)
/-! ShadowSchool$School.addShadow(III)I -/
def f_S_addShadow (N : Nat) (x1 : Int32) (x2 : Int32) (x3 : Int32) (σ : jw_M) : Option (Int32 × jw_M) := bif jx_in (σ.1 1 0) 6 then some ((σ.1 1 0), (jx_w (jx_w (jx_w (jx_w σ 1 0 ((σ.1 1 0) + 1)) 2 ((σ.1 1 0)).toNatClampNeg x1) 3 ((σ.1 1 0)).toNatClampNeg x2) 4 ((σ.1 1 0)).toNatClampNeg x3)) else none
/-! ShadowSchool$School.addLesson(IIIII)I -/
def f_S_addLesson_58 (N : Nat) : Nat → Int32 → Int32 → Int32 → jw_M → Option (Int32 × jw_M)
  | 0, _, _, _, _ => none
  | k + 1, x4, x6, x7, σ => if x4 < x7 then some (x6, σ) else bif jx_in x7 17 then f_S_addLesson_58 N k x4 x6 (x7 + 1) (jx_w σ 11 (x7).toNatClampNeg ((σ.1 11 (x7).toNatClampNeg) ||| ((1 : Int32) <<< (x6 &&& 31)))) else none
def f_S_addLesson (N : Nat) (x1 : Int32) (x2 : Int32) (x3 : Int32) (x4 : Int32) (x5 : Int32) (σ : jw_M) : Option (Int32 × jw_M) := bif jx_in (σ.1 1 5) 8 then f_S_addLesson_58 N N x4 (σ.1 1 5) x3 (jx_w (jx_w (jx_w (jx_w (jx_w (jx_w σ 1 5 ((σ.1 1 5) + 1)) 6 ((σ.1 1 5)).toNatClampNeg x1) 7 ((σ.1 1 5)).toNatClampNeg x2) 8 ((σ.1 1 5)).toNatClampNeg x3) 9 ((σ.1 1 5)).toNatClampNeg x4) 10 ((σ.1 1 5)).toNatClampNeg x5) else none
/-! ShadowSchool$School.addReport(IIII)I -/
def f_S_addReport_50 (N : Nat) (x4 : Int32) (x5 : Int32) (r_0 : Nat) (σ : jw_M) : Option (Int32 × jw_M) := some (x5, (jx_w σ r_0 3 x4))
def f_S_addReport_49 (N : Nat) (x4 : Int32) (x5 : Int32) (y1 : Int32) (σ : jw_M) : Option (Int32 × jw_M) := bif jx_in y1 6 then f_S_addReport_50 N x4 x5 (13 + (y1).toNatClampNeg) σ else none
def f_S_addReport_40 (N : Nat) (x3 : Int32) (x4 : Int32) (x5 : Int32) (r_0 : Nat) (σ : jw_M) : Option (Int32 × jw_M) := f_S_addReport_49 N x4 x5 x5 (jx_w σ r_0 2 x3)
def f_S_addReport_39 (N : Nat) (x3 : Int32) (x4 : Int32) (x5 : Int32) (y1 : Int32) (σ : jw_M) : Option (Int32 × jw_M) := bif jx_in y1 6 then f_S_addReport_40 N x3 x4 x5 (13 + (y1).toNatClampNeg) σ else none
def f_S_addReport_30 (N : Nat) (x2 : Int32) (x3 : Int32) (x4 : Int32) (x5 : Int32) (r_0 : Nat) (σ : jw_M) : Option (Int32 × jw_M) := f_S_addReport_39 N x3 x4 x5 x5 (jx_w σ r_0 1 x2)
def f_S_addReport_29 (N : Nat) (x2 : Int32) (x3 : Int32) (x4 : Int32) (x5 : Int32) (y1 : Int32) (σ : jw_M) : Option (Int32 × jw_M) := bif jx_in y1 6 then f_S_addReport_30 N x2 x3 x4 x5 (13 + (y1).toNatClampNeg) σ else none
def f_S_addReport_20 (N : Nat) (x1 : Int32) (x2 : Int32) (x3 : Int32) (x4 : Int32) (x5 : Int32) (r_0 : Nat) (σ : jw_M) : Option (Int32 × jw_M) := f_S_addReport_29 N x2 x3 x4 x5 x5 (jx_w σ r_0 0 x1)
def f_S_addReport_19 (N : Nat) (x1 : Int32) (x2 : Int32) (x3 : Int32) (x4 : Int32) (x5 : Int32) (y1 : Int32) (σ : jw_M) : Option (Int32 × jw_M) := bif jx_in y1 6 then f_S_addReport_20 N x1 x2 x3 x4 x5 (13 + (y1).toNatClampNeg) σ else none
def f_S_addReport (N : Nat) (x1 : Int32) (x2 : Int32) (x3 : Int32) (x4 : Int32) (σ : jw_M) : Option (Int32 × jw_M) := f_S_addReport_19 N x1 x2 x3 x4 (σ.1 1 12) (σ.1 1 12) (jx_w σ 1 12 ((σ.1 1 12) + 1))
/-! ShadowSchool$School.lengthOf(I)I -/
def f_S_lengthOf_21 (N : Nat) (y0 : Int32) (σ : jw_M) : Option (Int32 × jw_M) := some (y0, σ)
def f_S_lengthOf_18 (N : Nat) (r_0 : Nat) (y1 : Int32) (y2 : Int32) (σ : jw_M) : Option (Int32 × jw_M) := (if r_0 = 32 then f_Z_Shade_lengthIn N r_0 y1 y2 σ else if r_0 = 33 then f_Z_Shade_lengthIn N r_0 y1 y2 σ else if r_0 = 34 then f_Z_Shade_lengthIn N r_0 y1 y2 σ else if r_0 = 35 then f_Z_Coloured_lengthIn N y1 y2 σ else if r_0 = 36 then f_Z_Slow_lengthIn N r_0 y1 y2 σ else if r_0 = 37 then f_Z_Borrowed_lengthIn N y1 y2 σ else none).bind fun z4 => f_S_lengthOf_21 N (z4.1) z4.2
def f_S_lengthOf (N : Nat) (x1 : Int32) (σ : jw_M) : Option (Int32 × jw_M) := (f_S_thing N x1 σ).bind fun z1 => bif jx_in x1 6 then f_S_lengthOf_18 N z1.1 (z1.2.1 27 0) (z1.2.1 4 (x1).toNatClampNeg) z1.2 else none
/-! ShadowSchool$School.setQuarrel(III)V -/
def f_S_setQuarrel (N : Nat) (x1 : Int32) (x2 : Int32) (x3 : Int32) (σ : jw_M) : Option jw_M := bif jx_in x1 6 then bif jx_in x2 6 then some (jx_w (jx_w σ 5 (x1).toNatClampNeg (((σ.1 5 (x1).toNatClampNeg) &&& (((1 : Int32) <<< (x2 &&& 31)) ^^^ (-1))) ||| (x3 <<< (x2 &&& 31)))) 5 (x2).toNatClampNeg ((((jx_w σ 5 (x1).toNatClampNeg (((σ.1 5 (x1).toNatClampNeg) &&& (((1 : Int32) <<< (x2 &&& 31)) ^^^ (-1))) ||| (x3 <<< (x2 &&& 31)))).1 5 (x2).toNatClampNeg) &&& (((1 : Int32) <<< (x1 &&& 31)) ^^^ (-1))) ||| (x3 <<< (x1 &&& 31)))) else none else none
/-! ShadowSchool$School.howManyQuarrel()I -/
def f_S_howManyQuarrel_4 (N : Nat) : Nat → Int32 → Int32 → jw_M → Option (Int32 × jw_M)
  | 0, _, _, _ => none
  | k + 1, x1, x2, σ => if (σ.1 1 0) ≤ x2 then some ((x1 / 2), σ) else bif jx_in x2 6 then (f_J_bitCount N (σ.1 5 (x2).toNatClampNeg) σ).bind fun z3 => f_S_howManyQuarrel_4 N k (x1 + z3.1) (x2 + 1) z3.2 else none
def f_S_howManyQuarrel (N : Nat) (σ : jw_M) : Option (Int32 × jw_M) := f_S_howManyQuarrel_4 N N 0 0 σ
/-! ShadowSchool$School.goByLot(LShadowSchool$Progress;)I -/
def f_S_goByLot (N : Nat) (p1 : Nat) (σ : jw_M) : Option (Int32 × jw_M) := if (((jx_w σ 1 15 (((σ.1 1 15) * 1103515245) + 12345)).1 1 0) + 1) = 0 then none else (f_S_goBy N p1 ((Int32.toUInt32 ((jx_w σ 1 15 (((σ.1 1 15) * 1103515245) + 12345)).1 1 15) >>> (Int32.toUInt32 16 &&& Int32.toUInt32 31)).toInt32 - (Int32.toUInt32 ((jx_w σ 1 15 (((σ.1 1 15) * 1103515245) + 12345)).1 1 15) >>> (Int32.toUInt32 16 &&& Int32.toUInt32 31)).toInt32 / (((jx_w σ 1 15 (((σ.1 1 15) * 1103515245) + 12345)).1 1 0) + 1) * (((jx_w σ 1 15 (((σ.1 1 15) * 1103515245) + 12345)).1 1 0) + 1)) (jx_w σ 1 15 (((σ.1 1 15) * 1103515245) + 12345))).bind fun z2 => some (z2.1, z2.2)
/-! ShadowSchool$School.fits(II)Z -/
def f_S_fits_70 (N : Nat) (K2 : Int32 → Int32 → Int32 → jw_M → Option (Int32 × jw_M)) (x1 : Int32) (x2 : Int32) (x3 : Int32) (σ : jw_M) : Option (Int32 × jw_M) := K2 x1 x2 (x3 + 1) σ
def f_S_fits_37 (N : Nat) (K2 : Int32 → Int32 → Int32 → jw_M → Option (Int32 × jw_M)) (x1 : Int32) (x2 : Int32) (x3 : Int32) (r4 : Nat) (y0 : Int32) (σ : jw_M) : Option (Int32 × jw_M) := if x3 = x2 then f_S_fits_70 N K2 x1 x2 x3 σ else if (y0 * ((x1 - x1 / 5 * 5) + 1)) < (σ.1 r4 2) then some (0, σ) else if (y0 * ((x1 - x1 / 5 * 5) + 1)) ≤ (σ.1 r4 3) then f_S_fits_70 N K2 x1 x2 x3 σ else some (0, σ)
def f_S_fits_34 (N : Nat) (K2 : Int32 → Int32 → Int32 → jw_M → Option (Int32 × jw_M)) (x1 : Int32) (x2 : Int32) (x3 : Int32) (r4 : Nat) (r_0 : Nat) (y1 : Int32) (y2 : Int32) (σ : jw_M) : Option (Int32 × jw_M) := (if r_0 = 32 then f_Z_Shade_lengthIn N r_0 y1 y2 σ else if r_0 = 33 then f_Z_Shade_lengthIn N r_0 y1 y2 σ else if r_0 = 34 then f_Z_Shade_lengthIn N r_0 y1 y2 σ else if r_0 = 35 then f_Z_Coloured_lengthIn N y1 y2 σ else if r_0 = 36 then f_Z_Slow_lengthIn N r_0 y1 y2 σ else if r_0 = 37 then f_Z_Borrowed_lengthIn N y1 y2 σ else none).bind fun z4 => f_S_fits_37 N K2 x1 x2 x3 r4 (z4.1) z4.2
def f_S_fits_27 (N : Nat) (K2 : Int32 → Int32 → Int32 → jw_M → Option (Int32 × jw_M)) (x1 : Int32) (x2 : Int32) (x3 : Int32) (r4 : Nat) (r_0 : Nat) (σ : jw_M) : Option (Int32 × jw_M) := f_S_fits_34 N K2 x1 x2 x3 r4 r_0 (x1 / 5) (σ.1 r4 1) σ
def f_S_fits_26 (N : Nat) (K2 : Int32 → Int32 → Int32 → jw_M → Option (Int32 × jw_M)) (x1 : Int32) (x2 : Int32) (x3 : Int32) (r4 : Nat) (y1 : Int32) (σ : jw_M) : Option (Int32 × jw_M) := bif jx_in y1 6 then f_S_fits_27 N K2 x1 x2 x3 r4 (32 + (y1).toNatClampNeg) σ else none
def f_S_fits_16 (N : Nat) (K2 : Int32 → Int32 → Int32 → jw_M → Option (Int32 × jw_M)) (x1 : Int32) (x2 : Int32) (x3 : Int32) (r_0 : Nat) (σ : jw_M) : Option (Int32 × jw_M) := f_S_fits_26 N K2 x1 x2 x3 r_0 (σ.1 r_0 0) σ
def f_S_fits_15 (N : Nat) (K2 : Int32 → Int32 → Int32 → jw_M → Option (Int32 × jw_M)) (x1 : Int32) (x2 : Int32) (x3 : Int32) (y1 : Int32) (σ : jw_M) : Option (Int32 × jw_M) := bif jx_in y1 6 then f_S_fits_16 N K2 x1 x2 x3 (13 + (y1).toNatClampNeg) σ else none
def f_S_fits_2 (N : Nat) : Nat → Int32 → Int32 → Int32 → jw_M → Option (Int32 × jw_M)
  | 0, _, _, _, _ => none
  | k + 1, x1, x2, x3, σ => if (σ.1 1 12) ≤ x3 then some (1, σ) else f_S_fits_15 N (f_S_fits_2 N k) x1 x2 x3 x3 σ
def f_S_fits (N : Nat) (x1 : Int32) (x2 : Int32) (σ : jw_M) : Option (Int32 × jw_M) := f_S_fits_2 N N x1 x2 0 σ
/-! ShadowSchool$School.firstFit(I)I -/
def f_S_firstFit_2 (N : Nat) : Nat → Int32 → Int32 → jw_M → Option (Int32 × jw_M)
  | 0, _, _, _ => none
  | k + 1, x1, x2, σ => if 80 ≤ x2 then some ((-1), σ) else (f_S_fits N x2 x1 σ).bind fun z2 => if z2.1 = 0 then f_S_firstFit_2 N k x1 (x2 + 1) z2.2 else some (x2, z2.2)
def f_S_firstFit (N : Nat) (x1 : Int32) (σ : jw_M) : Option (Int32 × jw_M) := f_S_firstFit_2 N N x1 0 σ
/-! ShadowSchool$School.howManyFit()I -/
def f_S_howManyFit_23 (N : Nat) (K4 : Int32 → Int32 → jw_M → Option (Int32 × jw_M)) (x1 : Int32) (x2 : Int32) (σ : jw_M) : Option (Int32 × jw_M) := K4 x1 (x2 + 1) σ
def f_S_howManyFit_4 (N : Nat) : Nat → Int32 → Int32 → jw_M → Option (Int32 × jw_M)
  | 0, _, _, _ => none
  | k + 1, x1, x2, σ => if 80 ≤ x2 then some (x1, σ) else (f_S_fits N x2 (-3) σ).bind fun z2 => if z2.1 = 0 then f_S_howManyFit_23 N (f_S_howManyFit_4 N k) x1 x2 z2.2 else f_S_howManyFit_23 N (f_S_howManyFit_4 N k) (x1 + 1) x2 z2.2
def f_S_howManyFit (N : Nat) (σ : jw_M) : Option (Int32 × jw_M) := f_S_howManyFit_4 N N 0 0 σ
/-! ShadowSchool.shadow(III)I -/
def f_F_shadow (N : Nat) (x1 : Int32) (x2 : Int32) (x3 : Int32) (σ : jw_M) : Option (Int32 × jw_M) := (f_F_isWithin N x1 1 5 σ).bind fun z1 => if z1.1 = 0 then some ((-1), z1.2) else (f_F_isWithin N x2 1 9 z1.2).bind fun z4 => if z4.1 = 0 then some ((-1), z4.2) else (f_F_isWithin N x3 1 9 z4.2).bind fun z7 => if z7.1 = 0 then some ((-1), z7.2) else if (z7.2.1 1 0) < 6 then (f_S_addShadow N x1 x2 x3 z7.2).bind fun z11 => some (z11.1, z11.2) else some ((-2), z7.2)
/-! ShadowSchool.shadowOf(II)I -/
def f_F_shadowOf_128 (N : Nat) (y0 : Int32) (σ : jw_M) : Option (Int32 × jw_M) := some (y0, σ)
def f_F_shadowOf_125 (N : Nat) (r_0 : Nat) (y1 : Int32) (y2 : Int32) (σ : jw_M) : Option (Int32 × jw_M) := (if r_0 = 32 then f_Z_Shade_paceIn N r_0 y1 y2 σ else if r_0 = 33 then f_Z_Joined_paceIn N y1 y2 σ else if r_0 = 34 then f_Z_Gifted_paceIn N r_0 y1 y2 σ else if r_0 = 35 then f_Z_Coloured_paceIn N y1 y2 σ else if r_0 = 36 then f_Z_Slow_paceIn N r_0 y1 y2 σ else if r_0 = 37 then f_Z_Borrowed_paceIn N y1 y2 σ else none).bind fun z13 => f_F_shadowOf_128 N (z13.1) z13.2
def f_F_shadowOf (N : Nat) (x1 : Int32) (x2 : Int32) (σ : jw_M) : Option (Int32 × jw_M) := (f_S_isShadow N x1 σ).bind fun z1 => if z1.1 = 0 then some ((-1), z1.2) else if x2 = 0 then bif jx_in x1 6 then some ((z1.2.1 2 (x1).toNatClampNeg), z1.2) else none else if x2 = 1 then bif jx_in x1 6 then some ((z1.2.1 3 (x1).toNatClampNeg), z1.2) else none else if x2 = 2 then bif jx_in x1 6 then some ((z1.2.1 4 (x1).toNatClampNeg), z1.2) else none else if x2 = 3 then bif jx_in x1 6 then (f_J_bitCount N (z1.2.1 29 (x1).toNatClampNeg) z1.2).bind fun z8 => some (z8.1, z8.2) else none else if x2 = 4 then (f_S_thing N x1 z1.2).bind fun z10 => bif jx_in x1 6 then f_F_shadowOf_125 N z10.1 (z10.2.1 27 0) (z10.2.1 3 (x1).toNatClampNeg) z10.2 else none else if x2 = 5 then (f_S_choice N 27 x1 0 z1.2).bind fun z15 => some (z15.1, z15.2) else if x2 = 6 then (f_S_lengthOf N x1 z1.2).bind fun z17 => some (z17.1, z17.2) else some ((-1), z1.2)
/-! ShadowSchool.change(III)I -/
def f_F_change_34 (N : Nat) (x1 : Int32) (x2 : Int32) (x3 : Int32) (y0 : Int32) (y1 : Int32) (y2 : Int32) (σ : jw_M) : Option (Int32 × jw_M) := (f_F_isWithin N y0 y1 y2 σ).bind fun z8 => if z8.1 = 0 then some ((-1), z8.2) else if x2 = 1 then bif jx_in x1 6 then some ((z8.2.1 3 (x1).toNatClampNeg), (jx_w z8.2 3 (x1).toNatClampNeg x3)) else none else bif jx_in x1 6 then some ((z8.2.1 4 (x1).toNatClampNeg), (jx_w z8.2 4 (x1).toNatClampNeg x3)) else none
def f_F_change (N : Nat) (x1 : Int32) (x2 : Int32) (x3 : Int32) (σ : jw_M) : Option (Int32 × jw_M) := (f_S_isShadow N x1 σ).bind fun z1 => if z1.1 = 0 then some ((-1), z1.2) else (f_F_isWithin N x2 1 2 z1.2).bind fun z4 => if z4.1 = 0 then some ((-1), z4.2) else if x2 = 1 then f_F_change_34 N x1 x2 x3 x3 1 9 z4.2 else f_F_change_34 N x1 x2 x3 x3 1 9 z4.2
/-! ShadowSchool.remake(II)I -/
def f_F_remake (N : Nat) (x1 : Int32) (x2 : Int32) (σ : jw_M) : Option (Int32 × jw_M) := (f_S_isShadow N x1 σ).bind fun z1 => if z1.1 = 0 then some ((-1), z1.2) else (f_F_isWithin N x2 1 5 z1.2).bind fun z4 => if z4.1 = 0 then some ((-1), z4.2) else bif jx_in x1 6 then some ((z4.2.1 2 (x1).toNatClampNeg), (jx_w z4.2 2 (x1).toNatClampNeg x2)) else none
/-! ShadowSchool.lesson(IIIII)I -/
def f_F_lesson (N : Nat) (x1 : Int32) (x2 : Int32) (x3 : Int32) (x4 : Int32) (x5 : Int32) (σ : jw_M) : Option (Int32 × jw_M) := (f_F_isWithin N x1 1 20 σ).bind fun z1 => if z1.1 = 0 then some ((-1), z1.2) else (f_F_isWithin N x2 (-1) ((z1.2.1 1 5) - 1) z1.2).bind fun z4 => if z4.1 = 0 then some ((-1), z4.2) else (f_F_isWithin N x3 0 15 z4.2).bind fun z7 => if z7.1 = 0 then some ((-1), z7.2) else (f_F_isWithin N x4 x3 15 z7.2).bind fun z10 => if z10.1 = 0 then some ((-1), z10.2) else (f_F_isWithin N x5 1 6 z10.2).bind fun z13 => if z13.1 = 0 then some ((-1), z13.2) else if (z13.2.1 1 5) < 8 then (f_S_addLesson N x1 x2 x3 x4 x5 z13.2).bind fun z17 => some (z17.1, z17.2) else some ((-2), z13.2)
/-! ShadowSchool.lessonOf(II)I -/
def f_F_lessonOf (N : Nat) (x1 : Int32) (x2 : Int32) (σ : jw_M) : Option (Int32 × jw_M) := (f_S_isLesson N x1 σ).bind fun z1 => if z1.1 = 0 then some ((-1), z1.2) else if x2 = 0 then bif jx_in x1 8 then some ((z1.2.1 6 (x1).toNatClampNeg), z1.2) else none else if x2 = 1 then bif jx_in x1 8 then some ((z1.2.1 7 (x1).toNatClampNeg), z1.2) else none else if x2 = 2 then bif jx_in x1 8 then some ((z1.2.1 8 (x1).toNatClampNeg), z1.2) else none else if x2 = 3 then bif jx_in x1 8 then some ((z1.2.1 9 (x1).toNatClampNeg), z1.2) else none else if x2 = 4 then bif jx_in x1 8 then some ((z1.2.1 10 (x1).toNatClampNeg), z1.2) else none else if x2 = 5 then (f_P_howManyLearnt N x1 z1.2).bind fun z9 => some (z9.1, z9.2) else some ((-1), z1.2)
/-! ShadowSchool.points(II)I -/
def f_F_points (N : Nat) (x1 : Int32) (x2 : Int32) (σ : jw_M) : Option (Int32 × jw_M) := (f_S_isShadow N x1 σ).bind fun z1 => if z1.1 = 0 then some ((-1), z1.2) else (f_S_isLesson N x2 z1.2).bind fun z4 => if z4.1 = 0 then some ((-1), z4.2) else bif jx_in ((x1 * 8) + x2) 48 then some ((z4.2.1 28 (((x1 * 8) + x2)).toNatClampNeg), z4.2) else none
/-! ShadowSchool.dusk(I)I -/
def f_F_dusk (N : Nat) (x1 : Int32) (σ : jw_M) : Option (Int32 × jw_M) := (f_F_isWithin N x1 1 16 σ).bind fun z1 => if z1.1 = 0 then some ((-1), z1.2) else if (z1.2.1 27 0) ≤ x1 then some ((z1.2.1 1 14), (jx_w z1.2 1 14 x1)) else some ((-4), z1.2)
/-! ShadowSchool.anew()I -/
def f_F_anew (N : Nat) (σ : jw_M) : Option (Int32 × jw_M) := (f_P_clear N  σ).bind fun z1 => some ((σ.1 27 0), z1)
/-! ShadowSchool.state(I)I -/
def f_F_state (N : Nat) (x1 : Int32) (σ : jw_M) : Option (Int32 × jw_M) := if x1 = 0 then some ((σ.1 27 0), σ) else if x1 = 1 then some ((σ.1 1 14), σ) else if x1 = 2 then some ((σ.1 27 1), σ) else if x1 = 3 then (f_S_isOver N 27 σ).bind fun z1 => if z1.1 = 0 then some (0, z1.2) else some (1, z1.2) else some ((-1), σ)
/-! ShadowSchool.feed(JI)I -/
def f_F_feed (N : Nat) (x1 : Int64) (x3 : Int32) (σ : jw_M) : Option (Int32 × jw_M) := (f_F_isWithin N x3 1 8 σ).bind fun z1 => if z1.1 = 0 then some ((-1), z1.2) else if ((z1.2.1 80 0) + x3) ≤ 200 then (f_D_take N x1 x3 z1.2).bind fun z5 => some (z5.1, z5.2) else some ((-2), z1.2)
/-! ShadowSchool.rules()I -/
def f_F_rules (N : Nat) (σ : jw_M) : Option (Int32 × jw_M) := (f_D_readAll N  σ).bind fun z1 => if z1.1 < 0 then some (z1.1, z1.2) else (f_R_copyFrom N 19 84 z1.2).bind fun z4 => some (z1.1, z4)
/-! ShadowSchool.hour()I -/
def f_F_hour (N : Nat) (σ : jw_M) : Option (Int32 × jw_M) := (f_S_isOver N 27 σ).bind fun z1 => if z1.1 = 0 then (f_S_goBy N 27 0 z1.2).bind fun z4 => some (z4.1, z4.2) else some ((-4), z1.2)
/-! ShadowSchool.learnt(I)I -/
def f_F_learnt (N : Nat) (x1 : Int32) (σ : jw_M) : Option (Int32 × jw_M) := (f_S_isShadow N x1 σ).bind fun z1 => if z1.1 = 0 then some ((-1), z1.2) else bif jx_in x1 6 then some ((z1.2.1 29 (x1).toNatClampNeg), z1.2) else none
/-! ShadowSchool.worthOfRest(I)I -/
def f_F_worthOfRest_18 (N : Nat) : Nat → Int32 → Int32 → Int32 → jw_M → Option (Int32 × jw_M)
  | 0, _, _, _, _ => none
  | k + 1, x1, x2, x3, σ => if x1 ≤ x3 then some (x2, σ) else (f_S_isOver N 75 σ).bind fun z4 => if z4.1 = 0 then (f_S_goBy N 75 0 z4.2).bind fun z7 => f_F_worthOfRest_18 N k x1 (x2 + z7.1) (x3 + 1) z7.2 else some (x2, z4.2)
def f_F_worthOfRest (N : Nat) (x1 : Int32) (σ : jw_M) : Option (Int32 × jw_M) := (f_P_copyFrom N 75 27 σ).bind fun z1 => f_F_worthOfRest_18 N N x1 0 0 z1
/-! ShadowSchool.on(I)I -/
def f_F_on (N : Nat) (x1 : Int32) (σ : jw_M) : Option (Int32 × jw_M) := (f_F_isWithin N x1 0 16 σ).bind fun z1 => if z1.1 = 0 then some ((-1), z1.2) else (f_F_worthOfRest N x1 z1.2).bind fun z4 => some (z4.1, z4.2)
/-! ShadowSchool.when(II)I -/
def f_F_when_61 (N : Nat) : Nat → Int32 → Int32 → Int32 → jw_M → Option (Int32 × jw_M)
  | 0, _, _, _, _ => none
  | k + 1, x1, x2, x3, σ => if (σ.1 1 14) ≤ x3 then some ((-3), σ) else (f_S_goBy N 75 0 σ).bind fun z13 => (f_P_hasLearnt N x1 x2 z13.2).bind fun z15 => if z15.1 = 0 then f_F_when_61 N k x1 x2 (x3 + 1) z15.2 else some (x3, z15.2)
def f_F_when (N : Nat) (x1 : Int32) (x2 : Int32) (σ : jw_M) : Option (Int32 × jw_M) := (f_S_isShadow N x1 σ).bind fun z1 => if z1.1 = 0 then some ((-1), z1.2) else (f_S_isLesson N x2 z1.2).bind fun z4 => if z4.1 = 0 then some ((-1), z4.2) else (f_P_copyFrom N 75 27 z4.2).bind fun z7 => (f_P_hasLearnt N x1 x2 z7).bind fun z9 => if z9.1 = 0 then f_F_when_61 N N x1 x2 (z9.2.1 75 0) z9.2 else some ((-3), z9.2)
/-! ShadowSchool.letGo()I -/
def f_F_letGo_47 (N : Nat) (K11 : Int32 → Int32 → jw_M → Option (Int32 × jw_M)) (x1 : Int32) (x2 : Int32) (σ : jw_M) : Option (Int32 × jw_M) := K11 x1 (x2 + 1) σ
def f_F_letGo_11 (N : Nat) : Nat → Int32 → Int32 → jw_M → Option (Int32 × jw_M)
  | 0, _, _, _ => none
  | k + 1, x1, x2, σ => if (σ.1 1 0) ≤ x2 then some (x1, σ) else bif jx_in x2 6 then (f_S_allLessons N  σ).bind fun z5 => if (σ.1 77 (x2).toNatClampNeg) = z5.1 then f_F_letGo_47 N (f_F_letGo_11 N k) (x1 ||| ((1 : Int32) <<< (x2 &&& 31))) x2 z5.2 else f_F_letGo_47 N (f_F_letGo_11 N k) x1 x2 z5.2 else none
def f_F_letGo (N : Nat) (σ : jw_M) : Option (Int32 × jw_M) := (f_F_worthOfRest N 16 σ).bind fun z1 => f_F_letGo_11 N N 0 0 z1.2
/-! ShadowSchool.crowd(I)I -/
def f_F_crowd_92 (N : Nat) (K41 : Int32 → Int32 → Int32 → Int32 → jw_M → Option (Int32 × jw_M)) (x1 : Int32) (x2 : Int32) (x3 : Int32) (x4 : Int32) (σ : jw_M) : Option (Int32 × jw_M) := K41 x1 x2 x3 (x4 + 1) σ
def f_F_crowd_41 (N : Nat) : Nat → Int32 → Int32 → Int32 → Int32 → jw_M → Option (Int32 × jw_M)
  | 0, _, _, _, _, _ => none
  | k + 1, x1, x2, x3, x4, σ => if (σ.1 1 14) ≤ x4 then some (x3, σ) else (f_S_goBy N 75 0 σ).bind fun z7 => bif jx_in x1 8 then if (z7.2.1 78 (x1).toNatClampNeg) ≤ x2 then f_F_crowd_92 N (f_F_crowd_41 N k) x1 x2 x3 x4 z7.2 else f_F_crowd_92 N (f_F_crowd_41 N k) x1 (z7.2.1 78 (x1).toNatClampNeg) x4 x4 z7.2 else none
def f_F_crowd (N : Nat) (x1 : Int32) (σ : jw_M) : Option (Int32 × jw_M) := (f_S_isLesson N x1 σ).bind fun z1 => if z1.1 = 0 then some ((-1), z1.2) else (f_P_copyFrom N 75 27 z1.2).bind fun z4 => f_F_crowd_41 N N x1 (-1) (-3) (z4.1 75 0) z4
/-! ShadowSchool.worthiest([III)I -/
def f_F_worthiest_0_3_48 (N : Nat) (K14 : Int32 → Int32 → Int32 → Int32 → Int32 → Int32 → jw_M → Option (Int32 × jw_M)) (x2 : Int32) (x3 : Int32) (x4 : Int32) (x5 : Int32) (x6 : Int32) (x7 : Int32) (σ : jw_M) : Option (Int32 × jw_M) := K14 x2 x3 x4 x5 x6 (x7 + 1) σ
def f_F_worthiest_0_3_14 (N : Nat) : Nat → Int32 → Int32 → Int32 → Int32 → Int32 → Int32 → jw_M → Option (Int32 × jw_M)
  | 0, _, _, _, _, _, _, _ => none
  | k + 1, x2, x3, x4, x5, x6, x7, σ => if x3 < x7 then bif jx_in x2 6 then some (x6, (jx_w σ 3 (x2).toNatClampNeg x4)) else none else bif jx_in x2 6 then (f_F_worthOfRest N 16 (jx_w σ 3 (x2).toNatClampNeg x7)).bind fun z5 => if z5.1 ≤ x5 then f_F_worthiest_0_3_48 N (f_F_worthiest_0_3_14 N k) x2 x3 x4 x5 x6 x7 z5.2 else f_F_worthiest_0_3_48 N (f_F_worthiest_0_3_14 N k) x2 x3 x4 (z5.1) x7 x7 z5.2 else none
def f_F_worthiest_0_3 (N : Nat) (x2 : Int32) (x3 : Int32) (σ : jw_M) : Option (Int32 × jw_M) := bif jx_in x2 6 then f_F_worthiest_0_3_14 N N x2 x3 (σ.1 3 (x2).toNatClampNeg) (-1) 1 1 σ else none
def f_F_worthiest_0_10_48 (N : Nat) (K14 : Int32 → Int32 → Int32 → Int32 → Int32 → Int32 → jw_M → Option (Int32 × jw_M)) (x2 : Int32) (x3 : Int32) (x4 : Int32) (x5 : Int32) (x6 : Int32) (x7 : Int32) (σ : jw_M) : Option (Int32 × jw_M) := K14 x2 x3 x4 x5 x6 (x7 + 1) σ
def f_F_worthiest_0_10_14 (N : Nat) : Nat → Int32 → Int32 → Int32 → Int32 → Int32 → Int32 → jw_M → Option (Int32 × jw_M)
  | 0, _, _, _, _, _, _, _ => none
  | k + 1, x2, x3, x4, x5, x6, x7, σ => if x3 < x7 then bif jx_in x2 8 then some (x6, (jx_w σ 10 (x2).toNatClampNeg x4)) else none else bif jx_in x2 8 then (f_F_worthOfRest N 16 (jx_w σ 10 (x2).toNatClampNeg x7)).bind fun z5 => if z5.1 ≤ x5 then f_F_worthiest_0_10_48 N (f_F_worthiest_0_10_14 N k) x2 x3 x4 x5 x6 x7 z5.2 else f_F_worthiest_0_10_48 N (f_F_worthiest_0_10_14 N k) x2 x3 x4 (z5.1) x7 x7 z5.2 else none
def f_F_worthiest_0_10 (N : Nat) (x2 : Int32) (x3 : Int32) (σ : jw_M) : Option (Int32 × jw_M) := bif jx_in x2 8 then f_F_worthiest_0_10_14 N N x2 x3 (σ.1 10 (x2).toNatClampNeg) (-1) 1 1 σ else none
/-! ShadowSchool.quickFor(I)I -/
def f_F_quickFor (N : Nat) (x1 : Int32) (σ : jw_M) : Option (Int32 × jw_M) := (f_S_isShadow N x1 σ).bind fun z1 => if z1.1 = 0 then some ((-1), z1.2) else (f_F_worthiest_0_3 N x1 9 z1.2).bind fun z4 => some (z4.1, z4.2)
/-! ShadowSchool.letGoBy(I)I -/
def f_F_letGoBy_88 (N : Nat) (x1 : Int32) (x2 : Int32) (x3 : Int32) (σ : jw_M) : Option (Int32 × jw_M) := bif jx_in x1 6 then some (x3, (jx_w σ 3 (x1).toNatClampNeg x2)) else none
def f_F_letGoBy_82 (N : Nat) (K29 : Int32 → Int32 → Int32 → Int32 → jw_M → Option (Int32 × jw_M)) (x1 : Int32) (x2 : Int32) (x3 : Int32) (x4 : Int32) (σ : jw_M) : Option (Int32 × jw_M) := K29 x1 x2 x3 (x4 + 1) σ
def f_F_letGoBy_29 (N : Nat) : Nat → Int32 → Int32 → Int32 → Int32 → jw_M → Option (Int32 × jw_M)
  | 0, _, _, _, _, _ => none
  | k + 1, x1, x2, x3, x4, σ => if 9 < x4 then f_F_letGoBy_88 N x1 x2 x3 σ else if x3 = (-3) then bif jx_in x1 6 then (f_F_worthOfRest N 16 (jx_w σ 3 (x1).toNatClampNeg x4)).bind fun z9 => (f_S_allLessons N  z9.2).bind fun z11 => if (z9.2.1 77 (x1).toNatClampNeg) = z11.1 then f_F_letGoBy_82 N (f_F_letGoBy_29 N k) x1 x2 x4 x4 z11.2 else f_F_letGoBy_82 N (f_F_letGoBy_29 N k) x1 x2 x3 x4 z11.2 else none else f_F_letGoBy_88 N x1 x2 x3 σ
def f_F_letGoBy (N : Nat) (x1 : Int32) (σ : jw_M) : Option (Int32 × jw_M) := (f_S_isShadow N x1 σ).bind fun z1 => if z1.1 = 0 then some ((-1), z1.2) else bif jx_in x1 6 then f_F_letGoBy_29 N N x1 (z1.2.1 3 (x1).toNatClampNeg) (-3) 1 z1.2 else none
/-! ShadowSchool.roomFor(I)I -/
def f_F_roomFor (N : Nat) (x1 : Int32) (σ : jw_M) : Option (Int32 × jw_M) := (f_S_isLesson N x1 σ).bind fun z1 => if z1.1 = 0 then some ((-1), z1.2) else (f_F_worthiest_0_10 N x1 6 z1.2).bind fun z4 => some (z4.1, z4.2)
/-! ShadowSchool.quarrel(III)I -/
def f_F_quarrel (N : Nat) (x1 : Int32) (x2 : Int32) (x3 : Int32) (σ : jw_M) : Option (Int32 × jw_M) := (f_S_isShadow N x1 σ).bind fun z1 => if z1.1 = 0 then some ((-1), z1.2) else (f_S_isShadow N x2 z1.2).bind fun z4 => if z4.1 = 0 then some ((-1), z4.2) else if x1 = x2 then some ((-1), z4.2) else (f_F_isWithin N x3 0 1 z4.2).bind fun z8 => if z8.1 = 0 then some ((-1), z8.2) else bif jx_in x1 6 then (f_S_setQuarrel N x1 x2 x3 z8.2).bind fun z12 => some ((((z8.2.1 5 (x1).toNatClampNeg) >>> (x2 &&& 31)) &&& 1), z12) else none
/-! ShadowSchool.quarrels(I)I -/
def f_F_quarrels (N : Nat) (x1 : Int32) (σ : jw_M) : Option (Int32 × jw_M) := (f_S_isShadow N x1 σ).bind fun z1 => if z1.1 = 0 then some ((-1), z1.2) else bif jx_in x1 6 then some ((z1.2.1 5 (x1).toNatClampNeg), z1.2) else none
/-! ShadowSchool.mayTake(II)Z -/
def f_F_mayTake_36 (N : Nat) (K2 : Int32 → Int32 → Int32 → jw_M → Option (Int32 × jw_M)) (x1 : Int32) (x2 : Int32) (x3 : Int32) (σ : jw_M) : Option (Int32 × jw_M) := K2 x1 x2 (x3 + 1) σ
def f_F_mayTake_2 (N : Nat) : Nat → Int32 → Int32 → Int32 → jw_M → Option (Int32 × jw_M)
  | 0, _, _, _, _ => none
  | k + 1, x1, x2, x3, σ => if x1 ≤ x3 then some (1, σ) else bif jx_in x3 6 then if (σ.1 79 (x3).toNatClampNeg) = x2 then bif jx_in x1 6 then if (((σ.1 5 (x1).toNatClampNeg) >>> (x3 &&& 31)) &&& 1) = 1 then some (0, σ) else f_F_mayTake_36 N (f_F_mayTake_2 N k) x1 x2 x3 σ else none else f_F_mayTake_36 N (f_F_mayTake_2 N k) x1 x2 x3 σ else none
def f_F_mayTake (N : Nat) (x1 : Int32) (x2 : Int32) (σ : jw_M) : Option (Int32 × jw_M) := f_F_mayTake_2 N N x1 x2 0 σ
/-! ShadowSchool.findSeats(II)Z -/
def f_F_findSeats_49 (N : Nat) (Rec : Int32 → Int32 → jw_M → Option (Int32 × jw_M)) (K15 : Int32 → Int32 → Int32 → jw_M → Option (Int32 × jw_M)) (x1 : Int32) (x2 : Int32) (x3 : Int32) (σ : jw_M) : Option (Int32 × jw_M) := K15 x1 x2 (x3 + 1) σ
def f_F_findSeats_15 (N : Nat) (Rec : Int32 → Int32 → jw_M → Option (Int32 × jw_M)) : Nat → Int32 → Int32 → Int32 → jw_M → Option (Int32 × jw_M)
  | 0, _, _, _, _ => none
  | k + 1, x1, x2, x3, σ => if x2 ≤ x3 then some (0, σ) else (f_F_mayTake N x1 x3 σ).bind fun z3 => if z3.1 = 0 then f_F_findSeats_49 N Rec (f_F_findSeats_15 N Rec k) x1 x2 x3 z3.2 else bif jx_in x1 6 then (Rec (x1 + 1) x2 (jx_w z3.2 79 (x1).toNatClampNeg x3)).bind fun z7 => if z7.1 = 0 then f_F_findSeats_49 N Rec (f_F_findSeats_15 N Rec k) x1 x2 x3 z7.2 else some (1, z7.2) else none
def f_F_findSeats (N : Nat) : Nat → Int32 → Int32 → jw_M → Option (Int32 × jw_M)
  | 0, _, _, _ => none
  | r + 1, x1, x2, σ => if x1 < (σ.1 1 0) then f_F_findSeats_15 N (f_F_findSeats N r) N x1 x2 0 σ else some (1, σ)
/-! ShadowSchool.fewestRooms()I -/
def f_F_fewestRooms_2 (N : Nat) : Nat → Int32 → jw_M → Option (Int32 × jw_M)
  | 0, _, _ => none
  | k + 1, x1, σ => if 6 < x1 then some (6, σ) else (f_F_findSeats N 64 0 x1 σ).bind fun z2 => if z2.1 = 0 then f_F_fewestRooms_2 N k (x1 + 1) z2.2 else some (x1, z2.2)
def f_F_fewestRooms (N : Nat) (σ : jw_M) : Option (Int32 × jw_M) := f_F_fewestRooms_2 N N 0 σ
/-! ShadowSchool.rooms()I -/
def f_F_rooms (N : Nat) (σ : jw_M) : Option (Int32 × jw_M) := (f_F_fewestRooms N  σ).bind fun z1 => some (z1.1, z1.2)
/-! ShadowSchool.seat(I)I -/
def f_F_seat (N : Nat) (x1 : Int32) (σ : jw_M) : Option (Int32 × jw_M) := (f_S_isShadow N x1 σ).bind fun z1 => if z1.1 = 0 then some ((-1), z1.2) else (f_F_fewestRooms N  z1.2).bind fun z4 => bif jx_in x1 6 then some ((z4.2.1 79 (x1).toNatClampNeg), z4.2) else none
/-! ShadowSchool.countSeatings(II)I -/
def f_F_countSeatings_53 (N : Nat) (Rec : Int32 → Int32 → jw_M → Option (Int32 × jw_M)) (K18 : Int32 → Int32 → Int32 → Int32 → jw_M → Option (Int32 × jw_M)) (x1 : Int32) (x2 : Int32) (x3 : Int32) (x4 : Int32) (σ : jw_M) : Option (Int32 × jw_M) := K18 x1 x2 x3 (x4 + 1) σ
def f_F_countSeatings_18 (N : Nat) (Rec : Int32 → Int32 → jw_M → Option (Int32 × jw_M)) : Nat → Int32 → Int32 → Int32 → Int32 → jw_M → Option (Int32 × jw_M)
  | 0, _, _, _, _, _ => none
  | k + 1, x1, x2, x3, x4, σ => if x2 ≤ x4 then some (x3, σ) else (f_F_mayTake N x1 x4 σ).bind fun z3 => if z3.1 = 0 then f_F_countSeatings_53 N Rec (f_F_countSeatings_18 N Rec k) x1 x2 x3 x4 z3.2 else bif jx_in x1 6 then (Rec (x1 + 1) x2 (jx_w z3.2 79 (x1).toNatClampNeg x4)).bind fun z7 => f_F_countSeatings_53 N Rec (f_F_countSeatings_18 N Rec k) x1 x2 (x3 + z7.1) x4 z7.2 else none
def f_F_countSeatings (N : Nat) : Nat → Int32 → Int32 → jw_M → Option (Int32 × jw_M)
  | 0, _, _, _ => none
  | r + 1, x1, x2, σ => if x1 < (σ.1 1 0) then f_F_countSeatings_18 N (f_F_countSeatings N r) N x1 x2 0 0 σ else some (1, σ)
/-! ShadowSchool.seatings(I)I -/
def f_F_seatings (N : Nat) (x1 : Int32) (σ : jw_M) : Option (Int32 × jw_M) := (f_F_isWithin N x1 1 4 σ).bind fun z1 => if z1.1 = 0 then some ((-1), z1.2) else (f_F_countSeatings N 64 0 x1 z1.2).bind fun z4 => some (z4.1, z4.2)
/-! ShadowSchool.countGifts(IIIII)I -/
def f_F_countGifts_93 (N : Nat) (Rec : Int32 → Int32 → Int32 → Int32 → Int32 → jw_M → Option (Int32 × jw_M)) (K19 : Int32 → Int32 → Int32 → Int32 → Int32 → Int32 → Int32 → jw_M → Option (Int32 × jw_M)) (x1 : Int32) (x2 : Int32) (x3 : Int32) (x4 : Int32) (x5 : Int32) (x6 : Int32) (x7 : Int32) (σ : jw_M) : Option (Int32 × jw_M) := K19 x1 x2 x3 x4 x5 x6 (x7 + 1) σ
def f_F_countGifts_19 (N : Nat) (Rec : Int32 → Int32 → Int32 → Int32 → Int32 → jw_M → Option (Int32 × jw_M)) : Nat → Int32 → Int32 → Int32 → Int32 → Int32 → Int32 → Int32 → jw_M → Option (Int32 × jw_M)
  | 0, _, _, _, _, _, _, _, _ => none
  | k + 1, x1, x2, x3, x4, x5, x6, x7, σ => if (σ.1 1 0) ≤ x7 then some (x6, σ) else if ((x2 >>> (x7 &&& 31)) &&& 1) = 0 then (f_H_itemAt N x3 (x4 + x7) σ).bind fun z4 => (f_S_lengthOf N x1 z4.2).bind fun z6 => (f_J_abs N (z4.1 - z6.1) z6.2).bind fun z8 => if x5 < z8.1 then f_F_countGifts_93 N Rec (f_F_countGifts_19 N Rec k) x1 x2 x3 x4 x5 x6 x7 z8.2 else (Rec (x1 + 1) (x2 ||| ((1 : Int32) <<< (x7 &&& 31))) x3 x4 x5 z8.2).bind fun z11 => f_F_countGifts_93 N Rec (f_F_countGifts_19 N Rec k) x1 x2 x3 x4 x5 (x6 + z11.1) x7 z11.2 else f_F_countGifts_93 N Rec (f_F_countGifts_19 N Rec k) x1 x2 x3 x4 x5 x6 x7 σ
def f_F_countGifts (N : Nat) : Nat → Int32 → Int32 → Int32 → Int32 → Int32 → jw_M → Option (Int32 × jw_M)
  | 0, _, _, _, _, _, _ => none
  | r + 1, x1, x2, x3, x4, x5, σ => if x1 < (σ.1 1 0) then f_F_countGifts_19 N (f_F_countGifts N r) N x1 x2 x3 x4 x5 0 0 σ else some (1, σ)
/-! ShadowSchool.match(III)I -/
def f_F_match (N : Nat) (x1 : Int32) (x2 : Int32) (x3 : Int32) (σ : jw_M) : Option (Int32 × jw_M) := (f_H_isSheet N x1 σ).bind fun z1 => if z1.1 = 0 then some ((-1), z1.2) else (f_F_isWithin N x3 0 99 z1.2).bind fun z4 => if z4.1 = 0 then some ((-1), z4.2) else (f_H_refusalAs N x1 0 z4.2).bind fun z7 => if z7.1 = 0 then (f_H_hasItems N x1 x2 (z7.2.1 1 0) z7.2).bind fun z10 => if z10.1 = 0 then some ((-12), z10.2) else (f_F_countGifts N 64 0 0 x1 x2 x3 z10.2).bind fun z13 => some (z13.1, z13.2) else some (z7.1, z7.2)
/-! ShadowSchool.best(I)I -/
def f_F_best (N : Nat) (x1 : Int32) (σ : jw_M) : Option (Int32 × jw_M) := (f_F_isWithin N x1 0 4 σ).bind fun z1 => if z1.1 = 0 then some ((-1), z1.2) else (f_L_walkAll N x1 0 z1.2).bind fun z4 => some ((z4.1 92 3), z4)
/-! ShadowSchool.ith(II)I -/
def f_F_ith (N : Nat) (x1 : Int32) (x2 : Int32) (σ : jw_M) : Option (Int32 × jw_M) := (f_F_isWithin N x1 0 4 σ).bind fun z1 => if z1.1 = 0 then some ((-1), z1.2) else (f_F_isWithin N x2 0 3 z1.2).bind fun z4 => if z4.1 = 0 then some ((-1), z4.2) else (f_L_walkAll N x1 0 z4.2).bind fun z7 => if (z7.1 92 2) ≤ x2 then some ((-3), z7) else bif jx_in x2 4 then some ((z7.1 115 (x2).toNatClampNeg), z7) else none
/-! ShadowSchool.ways(I)I -/
def f_F_ways (N : Nat) (x1 : Int32) (σ : jw_M) : Option (Int32 × jw_M) := (f_F_isWithin N x1 0 4 σ).bind fun z1 => if z1.1 = 0 then some ((-1), z1.2) else (f_L_walkAll N x1 0 z1.2).bind fun z4 => some ((z4.1 92 4), z4)
/-! ShadowSchool.taught(II)I -/
def f_F_taught (N : Nat) (x1 : Int32) (x2 : Int32) (σ : jw_M) : Option (Int32 × jw_M) := (f_F_isWithin N x1 0 4 σ).bind fun z1 => if z1.1 = 0 then some ((-1), z1.2) else (f_S_isSetOfLessons N x2 z1.2).bind fun z4 => if z4.1 = 0 then some ((-1), z4.2) else (f_L_walkAll N x1 x2 z4.2).bind fun z7 => if 4 < (z7.1 92 7) then some ((-3), z7) else some ((z7.1 92 7), z7)
/-! ShadowSchool.bars(II)I -/
def f_F_bars (N : Nat) (x1 : Int32) (x2 : Int32) (σ : jw_M) : Option (Int32 × jw_M) := (f_F_isWithin N x1 0 4 σ).bind fun z1 => if z1.1 = 0 then some ((-1), z1.2) else (f_S_isSetOfLessons N x2 z1.2).bind fun z4 => if z4.1 = 0 then some ((-1), z4.2) else (f_L_walkAll N x1 x2 z4.2).bind fun z7 => if (x2 &&& ((z7.1 92 8) ^^^ (-1))) = 0 then some ((-3), z7) else (f_J_numberOfTrailingZeros N (x2 &&& ((z7.1 92 8) ^^^ (-1))) z7).bind fun z10 => some (z10.1, z10.2)
/-! ShadowSchool.game(I)I -/
def f_F_game (N : Nat) (x1 : Int32) (σ : jw_M) : Option (Int32 × jw_M) := (f_F_isWithin N x1 1 4 σ).bind fun z1 => if z1.1 = 0 then some ((-1), z1.2) else (f_L_valueOfGame N x1 z1.2).bind fun z4 => some (z4.1, z4.2)
/-! ShadowSchool.play(I)I -/
def f_F_play (N : Nat) (x1 : Int32) (σ : jw_M) : Option (Int32 × jw_M) := (f_F_isWithin N x1 1 4 σ).bind fun z1 => if z1.1 = 0 then some ((-1), z1.2) else (f_S_isOver N 27 z1.2).bind fun z4 => if z4.1 = 0 then (f_L_valueOfGame N x1 z4.2).bind fun z7 => some ((z7.2.1 92 9), z7.2) else some ((-3), z4.2)
/-! ShadowSchool.report(IIII)I -/
def f_F_report (N : Nat) (x1 : Int32) (x2 : Int32) (x3 : Int32) (x4 : Int32) (σ : jw_M) : Option (Int32 × jw_M) := (f_F_isWithin N x1 1 5 σ).bind fun z1 => if z1.1 = 0 then some ((-1), z1.2) else (f_F_isWithin N x2 1 9 z1.2).bind fun z4 => if z4.1 = 0 then some ((-1), z4.2) else (f_F_isWithin N x3 0 999 z4.2).bind fun z7 => if z7.1 = 0 then some ((-1), z7.2) else (f_F_isWithin N x4 x3 999 z7.2).bind fun z10 => if z10.1 = 0 then some ((-1), z10.2) else if (z10.2.1 1 12) < 6 then (f_S_addReport N x1 x2 x3 x4 z10.2).bind fun z14 => some (z14.1, z14.2) else some ((-2), z10.2)
/-! ShadowSchool.forget()I -/
def f_F_forget (N : Nat) (σ : jw_M) : Option (Int32 × jw_M) := some ((σ.1 1 12), (jx_w σ 1 12 (0 : Int32)))
/-! ShadowSchool.span(I)I -/
def f_F_span (N : Nat) (x1 : Int32) (σ : jw_M) : Option (Int32 × jw_M) := (f_F_isWithin N x1 0 2 σ).bind fun z1 => if z1.1 = 0 then some ((-1), z1.2) else if x1 = 0 then (f_S_howManyFit N  z1.2).bind fun z5 => some (z5.1, z5.2) else (f_S_firstFit N (-3) z1.2).bind fun z7 => if 0 ≤ z7.1 then if x1 = 1 then some ((z7.1 / 5), z7.2) else some (((z7.1 - z7.1 / 5 * 5) + 1), z7.2) else some ((-3), z7.2)
/-! ShadowSchool.liar()I -/
def f_F_liar_17 (N : Nat) : Nat → Int32 → jw_M → Option (Int32 × jw_M)
  | 0, _, _ => none
  | k + 1, x1, σ => if (σ.1 1 12) ≤ x1 then some ((-3), σ) else (f_S_firstFit N x1 σ).bind fun z5 => if z5.1 < 0 then f_F_liar_17 N k (x1 + 1) z5.2 else some (x1, z5.2)
def f_F_liar (N : Nat) (σ : jw_M) : Option (Int32 × jw_M) := (f_S_firstFit N (-3) σ).bind fun z1 => if z1.1 < 0 then f_F_liar_17 N N 0 z1.2 else some ((-3), z1.2)
/-! ShadowSchool.seed(I)I -/
def f_F_seed (N : Nat) (x1 : Int32) (σ : jw_M) : Option (Int32 × jw_M) := some ((σ.1 1 15), (jx_w σ 1 15 x1))
/-! ShadowSchool.lot()I -/
def f_F_lot (N : Nat) (σ : jw_M) : Option (Int32 × jw_M) := (f_S_isOver N 27 σ).bind fun z1 => if z1.1 = 0 then (f_S_goByLot N 27 z1.2).bind fun z4 => some (z4.1, z4.2) else some ((-4), z1.2)
/-! ShadowSchool.often(II)I -/
def f_F_often_112 (N : Nat) (K37 : Int32 → Int32 → Int32 → Int32 → Int32 → jw_M → Option (Int32 × jw_M)) (x1 : Int32) (x2 : Int32) (x3 : Int32) (x4 : Int32) (x5 : Int32) (σ : jw_M) : Option (Int32 × jw_M) := K37 x1 x2 x3 x4 (x5 + 1) σ
def f_F_often_69 (N : Nat) (K37 : Int32 → Int32 → Int32 → Int32 → Int32 → jw_M → Option (Int32 × jw_M)) : Nat → Int32 → Int32 → Int32 → Int32 → Int32 → Int32 → Int32 → jw_M → Option (Int32 × jw_M)
  | 0, _, _, _, _, _, _, _, _ => none
  | k + 1, x1, x2, x3, x4, x5, x6, x7, σ => if (σ.1 1 14) ≤ x7 then if x6 < x2 then f_F_often_112 N K37 x1 x2 x3 x4 x5 σ else f_F_often_112 N K37 x1 x2 x3 (x4 + 1) x5 σ else (f_S_goByLot N 75 σ).bind fun z12 => f_F_often_69 N K37 k x1 x2 x3 x4 x5 (x6 + z12.1) (x7 + 1) z12.2
def f_F_often_37 (N : Nat) : Nat → Int32 → Int32 → Int32 → Int32 → Int32 → jw_M → Option (Int32 × jw_M)
  | 0, _, _, _, _, _, _ => none
  | k + 1, x1, x2, x3, x4, x5, σ => if x1 ≤ x5 then some (x4, (jx_w σ 1 15 x3)) else (f_P_copyFrom N 75 27 σ).bind fun z8 => f_F_often_69 N (f_F_often_37 N k) N x1 x2 x3 x4 x5 0 (z8.1 75 0) z8
def f_F_often (N : Nat) (x1 : Int32) (x2 : Int32) (σ : jw_M) : Option (Int32 × jw_M) := (f_F_isWithin N x1 1 40 σ).bind fun z1 => if z1.1 = 0 then some ((-1), z1.2) else (f_F_isWithin N x2 0 999 z1.2).bind fun z4 => if z4.1 = 0 then some ((-1), z4.2) else f_F_often_37 N N x1 x2 (z4.2.1 1 15) 0 0 z4.2
/-! ShadowSchool.prove(I)I -/
def f_F_prove (N : Nat) (x1 : Int32) (σ : jw_M) : Option (Int32 × jw_M) := (f_F_isWithin N x1 0 4 σ).bind fun z1 => if z1.1 = 0 then some ((-1), z1.2) else (f_L_walkAll N x1 0 z1.2).bind fun z4 => (f_L_makeRows N  z4).bind fun z6 => some (z6.1, z6.2)
/-! ShadowSchool.row(II)I -/
def f_F_row_21 (N : Nat) (x2 : Int32) (r_0 : Nat) (σ : jw_M) : Option (Int32 × jw_M) := bif jx_in x2 3 then some ((σ.1 r_0 (x2).toNatClampNeg), σ) else none
def f_F_row_20 (N : Nat) (x2 : Int32) (y1 : Int32) (σ : jw_M) : Option (Int32 × jw_M) := bif jx_in y1 4 then f_F_row_21 N x2 (117 + (y1).toNatClampNeg) σ else none
def f_F_row (N : Nat) (x1 : Int32) (x2 : Int32) (σ : jw_M) : Option (Int32 × jw_M) := (f_L_hasRowPart N x1 x2 σ).bind fun z1 => if z1.1 = 0 then some ((-9), z1.2) else f_F_row_20 N x2 x1 z1.2
/-! ShadowSchool.alterRow(III)I -/
def f_F_alterRow_37 (N : Nat) (x2 : Int32) (x3 : Int32) (x4 : Int32) (r_0 : Nat) (σ : jw_M) : Option (Int32 × jw_M) := bif jx_in x2 3 then some (x4, (jx_w σ r_0 (x2).toNatClampNeg x3)) else none
def f_F_alterRow_36 (N : Nat) (x2 : Int32) (x3 : Int32) (x4 : Int32) (y1 : Int32) (σ : jw_M) : Option (Int32 × jw_M) := bif jx_in y1 4 then f_F_alterRow_37 N x2 x3 x4 (117 + (y1).toNatClampNeg) σ else none
def f_F_alterRow_24 (N : Nat) (x1 : Int32) (x2 : Int32) (x3 : Int32) (r_0 : Nat) (σ : jw_M) : Option (Int32 × jw_M) := bif jx_in x2 3 then f_F_alterRow_36 N x2 x3 (σ.1 r_0 (x2).toNatClampNeg) x1 σ else none
def f_F_alterRow_23 (N : Nat) (x1 : Int32) (x2 : Int32) (x3 : Int32) (y1 : Int32) (σ : jw_M) : Option (Int32 × jw_M) := bif jx_in y1 4 then f_F_alterRow_24 N x1 x2 x3 (117 + (y1).toNatClampNeg) σ else none
def f_F_alterRow (N : Nat) (x1 : Int32) (x2 : Int32) (x3 : Int32) (σ : jw_M) : Option (Int32 × jw_M) := (f_L_hasRowPart N x1 x2 σ).bind fun z1 => if z1.1 = 0 then some ((-9), z1.2) else f_F_alterRow_23 N x1 x2 x3 x1 z1.2
/-! ShadowSchool.judge()I -/
def f_F_judge (N : Nat) (σ : jw_M) : Option (Int32 × jw_M) := (f_L_firstWrongRow N  σ).bind fun z1 => some (z1.1, z1.2)
/-! ShadowSchool.sheet(III)I -/
def f_F_sheet_47 (N : Nat) (x1 : Int32) (x2 : Int32) (x3 : Int32) (σ : jw_M) : Option (Int32 × jw_M) := (f_H_makeRow N x1 x2 x3 σ).bind fun z9 => some (1, z9)
def f_F_sheet_35 (N : Nat) (x1 : Int32) (x2 : Int32) (x3 : Int32) (σ : jw_M) : Option (Int32 × jw_M) := if x2 = (-1) then f_F_sheet_47 N x1 x2 x3 σ else if 0 ≤ x3 then f_F_sheet_47 N x1 x2 x3 σ else some ((-14), σ)
def f_F_sheet (N : Nat) (x1 : Int32) (x2 : Int32) (x3 : Int32) (σ : jw_M) : Option (Int32 × jw_M) := (f_H_isSheet N x1 σ).bind fun z1 => if z1.1 = 0 then some ((-1), z1.2) else (f_F_isWithin N x2 (-1) 4 z1.2).bind fun z4 => if z4.1 = 0 then some ((-1), z4.2) else if x2 = (-1) then f_F_sheet_35 N x1 x2 x3 z4.2 else if x3 ≤ 40 then f_F_sheet_35 N x1 x2 x3 z4.2 else some ((-1), z4.2)
/-! ShadowSchool.write(III)I -/
def f_F_write (N : Nat) (x1 : Int32) (x2 : Int32) (x3 : Int32) (σ : jw_M) : Option (Int32 × jw_M) := (f_H_isSheet N x1 σ).bind fun z1 => if z1.1 = 0 then some ((-1), z1.2) else bif jx_in x1 4 then if (z1.2.1 122 (x1).toNatClampNeg) = (-1) then some ((-11), z1.2) else (f_H_hasItem N x1 x2 z1.2).bind fun z6 => if z6.1 = 0 then some ((-12), z6.2) else (f_H_putItem N x1 x2 x3 z6.2).bind fun z9 => some (1, z9) else none
/-! ShadowSchool.item(III)I -/
def f_F_item (N : Nat) (x1 : Int32) (x2 : Int32) (x3 : Int32) (σ : jw_M) : Option (Int32 × jw_M) := (f_H_isSheet N x1 σ).bind fun z1 => if z1.1 = 0 then some ((-1), z1.2) else (f_F_isWithin N x2 0 4 z1.2).bind fun z4 => if z4.1 = 0 then some ((-1), z4.2) else (f_H_refusalAs N x1 x2 z4.2).bind fun z7 => if z7.1 = 0 then (f_H_hasItem N x1 x3 z7.2).bind fun z10 => if z10.1 = 0 then some ((-12), z10.2) else (f_H_itemAt N x1 x3 z10.2).bind fun z13 => some (z13.1, z13.2) else some (z7.1, z7.2)
/-! ShadowSchool.goAll(III)I -/
def f_F_goAll_136 (N : Nat) (K48 : Int32 → Int32 → Int32 → Int32 → Int32 → jw_M → Option (Int32 × jw_M)) (x1 : Int32) (x2 : Int32) (x3 : Int32) (x5 : Int32) (x6 : Int32) (σ : jw_M) : Option (Int32 × jw_M) := K48 x1 x2 x3 x5 (x6 + 1) σ
def f_F_goAll_48 (N : Nat) : Nat → Int32 → Int32 → Int32 → Int32 → Int32 → jw_M → Option (Int32 × jw_M)
  | 0, _, _, _, _, _, _ => none
  | k + 1, x1, x2, x3, x5, x6, σ => if x3 ≤ x6 then some (x5, σ) else (f_H_hasItem N x1 (x2 + x6) σ).bind fun z11 => if z11.1 = 0 then some ((-12), z11.2) else (f_H_itemAt N x1 (x2 + x6) z11.2).bind fun z14 => (f_S_isAct N (z14.1) z14.2).bind fun z16 => if z16.1 = 0 then f_F_goAll_136 N (f_F_goAll_48 N k) x1 x2 x3 x5 x6 z16.2 else (f_S_isOver N 27 z16.2).bind fun z19 => if z19.1 = 0 then (f_S_goBy N 27 (z14.1) z19.2).bind fun z22 => f_F_goAll_136 N (f_F_goAll_48 N k) x1 x2 x3 (x5 + z22.1) x6 z22.2 else f_F_goAll_136 N (f_F_goAll_48 N k) x1 x2 x3 x5 x6 z19.2
def f_F_goAll (N : Nat) (x1 : Int32) (x2 : Int32) (x3 : Int32) (σ : jw_M) : Option (Int32 × jw_M) := (f_H_isSheet N x1 σ).bind fun z1 => if z1.1 = 0 then some ((-1), z1.2) else (f_F_isWithin N x3 0 20 z1.2).bind fun z4 => if z4.1 = 0 then some ((-1), z4.2) else (f_H_refusalAs N x1 0 z4.2).bind fun z7 => if z7.1 = 0 then f_F_goAll_48 N N x1 x2 x3 0 0 z7.2 else some (z7.1, z7.2)
/-! ShadowSchool.wouldBe(III)I -/
def f_F_wouldBe_62 (N : Nat) : Nat → Int32 → Int32 → Int32 → Int32 → Int32 → jw_M → Option (Int32 × jw_M)
  | 0, _, _, _, _, _, _ => none
  | k + 1, x1, x2, x3, x5, x6, σ => if x3 ≤ x6 then some (x5, σ) else (f_H_hasItem N x1 (x2 + x6) σ).bind fun z13 => if z13.1 = 0 then some ((-12), z13.2) else (f_H_itemAt N x1 (x2 + x6) z13.2).bind fun z16 => (f_S_isAct N (z16.1) z16.2).bind fun z18 => if z18.1 = 0 then some ((-4), z18.2) else (f_S_isOver N 75 z18.2).bind fun z21 => if z21.1 = 0 then (f_S_goBy N 75 (z16.1) z21.2).bind fun z24 => f_F_wouldBe_62 N k x1 x2 x3 (x5 + z24.1) (x6 + 1) z24.2 else some ((-4), z21.2)
def f_F_wouldBe (N : Nat) (x1 : Int32) (x2 : Int32) (x3 : Int32) (σ : jw_M) : Option (Int32 × jw_M) := (f_H_isSheet N x1 σ).bind fun z1 => if z1.1 = 0 then some ((-1), z1.2) else (f_F_isWithin N x3 0 20 z1.2).bind fun z4 => if z4.1 = 0 then some ((-1), z4.2) else (f_H_refusalAs N x1 0 z4.2).bind fun z7 => if z7.1 = 0 then (f_P_copyFrom N 75 27 z7.2).bind fun z10 => f_F_wouldBe_62 N N x1 x2 x3 0 0 z10 else some (z7.1, z7.2)
/-! ShadowSchool.shelf(III)I -/
def f_F_shelf_54 (N : Nat) (x1 : Int32) (x2 : Int32) (x3 : Int32) (y0 : Int32) (σ : jw_M) : Option (Int32 × jw_M) := if y0 = 0 then some ((-1), σ) else (f_H_put N x1 x2 x3 σ).bind fun z14 => some (1, z14)
def f_F_shelf_49 (N : Nat) (x1 : Int32) (x2 : Int32) (x3 : Int32) (σ : jw_M) : Option (Int32 × jw_M) := f_F_shelf_54 N x1 x2 x3 1 σ
def f_F_shelf_44 (N : Nat) (x1 : Int32) (x2 : Int32) (x3 : Int32) (σ : jw_M) : Option (Int32 × jw_M) := if x2 = 2 then f_F_shelf_49 N x1 x2 x3 σ else f_F_shelf_54 N x1 x2 x3 0 σ
def f_F_shelf_28 (N : Nat) (x1 : Int32) (x2 : Int32) (x3 : Int32) (σ : jw_M) : Option (Int32 × jw_M) := if x2 = 1 then (f_H_isSheet N x3 σ).bind fun z9 => if z9.1 = 0 then f_F_shelf_44 N x1 x2 x3 z9.2 else f_F_shelf_49 N x1 x2 x3 z9.2 else f_F_shelf_44 N x1 x2 x3 σ
def f_F_shelf (N : Nat) (x1 : Int32) (x2 : Int32) (x3 : Int32) (σ : jw_M) : Option (Int32 × jw_M) := (f_H_isShelf N x1 σ).bind fun z1 => if z1.1 = 0 then some ((-1), z1.2) else if x2 = 0 then (f_S_isShadow N x3 z1.2).bind fun z5 => if z5.1 = 0 then f_F_shelf_28 N x1 x2 x3 z5.2 else f_F_shelf_49 N x1 x2 x3 z5.2 else f_F_shelf_28 N x1 x2 x3 z1.2
/-! ShadowSchool.taken(II)I -/
def f_F_taken_33 (N : Nat) (x1 : Int32) (x2 : Int32) (σ : jw_M) : Option (Int32 × jw_M) := bif jx_in x1 4 then if (σ.1 129 (x1).toNatClampNeg) = 1 then if (σ.1 131 (x1).toNatClampNeg) = (x2 - 10) then some ((σ.1 130 (x1).toNatClampNeg), σ) else some ((-13), σ) else (f_H_shadowOn N x1 σ).bind fun z13 => (f_S_isShadow N (z13.1) z13.2).bind fun z15 => if z15.1 = 0 then some ((-11), z15.2) else if 5 < x2 then some ((-13), z15.2) else bif jx_in (z13.1) 6 then (f_F_isOrIsUnder N (z15.2.1 2 (z13.1).toNatClampNeg) x2 z15.2).bind fun z20 => if z20.1 = 0 then some ((-13), z20.2) else some (z13.1, z20.2) else none else none
def f_F_taken (N : Nat) (x1 : Int32) (x2 : Int32) (σ : jw_M) : Option (Int32 × jw_M) := (f_H_isShelf N x1 σ).bind fun z1 => if z1.1 = 0 then some ((-1), z1.2) else (f_F_isWithin N x2 0 5 z1.2).bind fun z4 => if z4.1 = 0 then (f_F_isWithin N x2 10 14 z4.2).bind fun z7 => if z7.1 = 0 then some ((-1), z7.2) else f_F_taken_33 N x1 x2 z7.2 else f_F_taken_33 N x1 x2 z4.2
/-! ShadowSchool.act(III)I -/
def f_F_act (N : Nat) (x1 : Int32) (x2 : Int32) (x3 : Int32) (σ : jw_M) : Option (Int32 × jw_M) := (f_H_clearTrace N  σ).bind fun z1 => (f_H_isShelf N x1 z1).bind fun z3 => if z3.1 = 0 then some (0, z3.2) else (f_F_isWithin N x2 0 3 z3.2).bind fun z6 => if z6.1 = 0 then some (0, z6.2) else (f_H_shadowOn N x1 z6.2).bind fun z9 => (f_S_isShadow N (z9.1) z9.2).bind fun z11 => if z11.1 = 0 then some (0, z11.2) else (f_S_thing N (z9.1) z11.2).bind fun z14 => bif jx_in (z9.1) 6 then (f_H_perform N z14.1 (z9.1) (z14.2.1 3 (z9.1).toNatClampNeg) x2 x3 z14.2).bind fun z17 => some (z17.1, z17.2) else none
/-! ShadowSchool.trace(I)I -/
def f_F_trace (N : Nat) (x1 : Int32) (σ : jw_M) : Option (Int32 × jw_M) := (f_F_isWithin N x1 0 ((σ.1 121 7) - 1) σ).bind fun z1 => if z1.1 = 0 then some ((-3), z1.2) else bif jx_in x1 30 then some ((z1.2.1 132 (x1).toNatClampNeg), z1.2) else none
/-! ShadowSchool.many(I)I -/
def f_F_many (N : Nat) (x1 : Int32) (σ : jw_M) : Option (Int32 × jw_M) := if x1 = 0 then some ((σ.1 1 0), σ) else if x1 = 1 then some ((σ.1 19 0), σ) else if x1 = 2 then some ((σ.1 1 5), σ) else if x1 = 3 then some ((σ.1 1 12), σ) else if x1 = 4 then some ((σ.1 92 10), σ) else if x1 = 5 then some ((σ.1 80 0), σ) else if x1 = 6 then some ((σ.1 121 7), σ) else if x1 = 7 then (f_S_howManyQuarrel N  σ).bind fun z1 => some (z1.1, z1.2) else some ((-1), σ)
/-! ShadowSchool.keep()I -/
def f_F_keep (N : Nat) (σ : jw_M) : Option (Int32 × jw_M) := (f_S_copyFrom_38_1 N  σ).bind fun z1 => some (1, (jx_w z1 0 2 (1 : Int32)))
/-! ShadowSchool.again()I -/
def f_F_again (N : Nat) (σ : jw_M) : Option (Int32 × jw_M) := if (σ.1 0 2) = 0 then some ((-3), σ) else (f_S_copyFrom_1_38 N  σ).bind fun z2 => some ((z2.1 1 0), z2)
/-! ShadowSchoolModel.in(III)Z -/
def f_M_in (N : Nat) (x0 : Int32) (x1 : Int32) (x2 : Int32) (σ : jw_M) : Option (Int32 × jw_M) := if x0 < x1 then some (0, σ) else if x2 < x0 then some (0, σ) else some (1, σ)
/-! ShadowSchoolModel.isShadow(I)Z -/
def f_M_isShadow (N : Nat) (x1 : Int32) (σ : jw_M) : Option (Int32 × jw_M) := (f_M_in N x1 0 ((σ.1 3 2) - 1) σ).bind fun z1 => if z1.1 = 0 ∨ z1.1 = 1 then some (z1.1, z1.2) else none
/-! ShadowSchoolModel.isLesson(I)Z -/
def f_M_isLesson (N : Nat) (x1 : Int32) (σ : jw_M) : Option (Int32 × jw_M) := (f_M_in N x1 0 ((σ.1 3 3) - 1) σ).bind fun z1 => if z1.1 = 0 ∨ z1.1 = 1 then some (z1.1, z1.2) else none
/-! ShadowSchoolModel.of(II)I -/
def f_M_of (N : Nat) (x1 : Int32) (x2 : Int32) (σ : jw_M) : Option (Int32 × jw_M) := bif jx_in ((6 + (3 * x1)) + x2) 526 then some ((σ.1 3 (((6 + (3 * x1)) + x2)).toNatClampNeg), σ) else none
/-! ShadowSchoolModel.lessonNumber(II)I -/
def f_M_lessonNumber (N : Nat) (x1 : Int32) (x2 : Int32) (σ : jw_M) : Option (Int32 × jw_M) := bif jx_in ((24 + (5 * x1)) + x2) 526 then some ((σ.1 3 (((24 + (5 * x1)) + x2)).toNatClampNeg), σ) else none
/-! ShadowSchoolModel.ones(I)I -/
def f_M_ones_4 (N : Nat) : Nat → Int32 → Int32 → jw_M → Option (Int32 × jw_M)
  | 0, _, _, _ => none
  | k + 1, x1, x2, σ => if x2 = 0 then some (x1, σ) else f_M_ones_4 N k (x1 + 1) (x2 &&& (x2 - 1)) σ
def f_M_ones (N : Nat) (x0 : Int32) (σ : jw_M) : Option (Int32 × jw_M) := f_M_ones_4 N N 0 x0 σ
/-! ShadowSchoolModel.isOver()Z -/
def f_M_isOver (N : Nat) (σ : jw_M) : Option (Int32 × jw_M) := if (σ.1 1 0) < (σ.1 3 0) then some (0, σ) else some (1, σ)
/-! ShadowSchoolModel.hasLearnt(II)Z -/
def f_M_hasLearnt (N : Nat) (x1 : Int32) (x2 : Int32) (σ : jw_M) : Option (Int32 × jw_M) := bif jx_in (2 + x1) 56 then if (((σ.1 1 ((2 + x1)).toNatClampNeg) >>> (x2 &&& 31)) &&& 1) = 1 then some (1, σ) else some (0, σ) else none
/-! ShadowSchoolModel.pointsOf(II)I -/
def f_M_pointsOf (N : Nat) (x1 : Int32) (x2 : Int32) (σ : jw_M) : Option (Int32 × jw_M) := bif jx_in ((8 + (8 * x1)) + x2) 56 then some ((σ.1 1 (((8 + (8 * x1)) + x2)).toNatClampNeg), σ) else none
/-! ShadowSchoolModel.save(I)V -/
def f_M_save_2 (N : Nat) : Nat → Int32 → Int32 → jw_M → Option jw_M
  | 0, _, _, _ => none
  | k + 1, x1, x2, σ => if 56 ≤ x2 then some σ else bif jx_in x2 56 then bif jx_in ((56 * x1) + x2) 392 then f_M_save_2 N k x1 (x2 + 1) (jx_w σ 2 (((56 * x1) + x2)).toNatClampNeg (σ.1 1 (x2).toNatClampNeg)) else none else none
def f_M_save (N : Nat) (x1 : Int32) (σ : jw_M) : Option jw_M := f_M_save_2 N N x1 0 σ
/-! ShadowSchoolModel.load(I)V -/
def f_M_load_2 (N : Nat) : Nat → Int32 → Int32 → jw_M → Option jw_M
  | 0, _, _, _ => none
  | k + 1, x1, x2, σ => if 56 ≤ x2 then some σ else bif jx_in ((56 * x1) + x2) 392 then bif jx_in x2 56 then f_M_load_2 N k x1 (x2 + 1) (jx_w σ 1 (x2).toNatClampNeg (σ.1 2 (((56 * x1) + x2)).toNatClampNeg)) else none else none
def f_M_load (N : Nat) (x1 : Int32) (σ : jw_M) : Option jw_M := f_M_load_2 N N x1 0 σ
/-! ShadowSchoolModel.paceBy(III)I -/
def f_M_paceBy (N : Nat) (x0 : Int32) (x1 : Int32) (x2 : Int32) (σ : jw_M) : Option (Int32 × jw_M) := if x0 = 1 then if (x2 - x2 / 4 * 4) = 3 then some (0, σ) else some (x1, σ) else if x0 = 2 then if x2 = 6 then some (0, σ) else some ((2 * x1), σ) else if x0 = 3 then if x2 = 6 then some ((0 + 1), σ) else some (((2 * x1) + 1), σ) else if x0 = 4 then some (((x1 / 2) + 1), σ) else if x0 = 5 then some ((((x1 / 2) + 1) + (x2 - x2 / 4 * 4)), σ) else some (x1, σ)
/-! ShadowSchoolModel.far(II)I -/
def f_M_far (N : Nat) (x0 : Int32) (x1 : Int32) (σ : jw_M) : Option (Int32 × jw_M) := if x1 ≤ x0 then some ((x0 - x1), σ) else some ((x1 - x0), σ)
/-! ShadowSchoolModel.lengthBy(III)I -/
def f_M_lengthBy (N : Nat) (x0 : Int32) (x1 : Int32) (x2 : Int32) (σ : jw_M) : Option (Int32 × jw_M) := if x0 = 3 then (f_M_far N x2 6 σ).bind fun z1 => if 0 ≤ ((x1 * z1.1) - 2) then some (((x1 * z1.1) - 2), z1.2) else some (0, z1.2) else if x0 = 4 then (f_M_far N x2 7 σ).bind fun z4 => some ((x1 * z4.1), z4.2) else if x0 = 5 then (f_M_far N x2 7 σ).bind fun z6 => some (((x1 * z6.1) + 3), z6.2) else (f_M_far N x2 6 σ).bind fun z8 => some ((x1 * z8.1), z8.2)
/-! ShadowSchoolModel.isUnder(II)Z -/
def f_M_isUnder_29 (N : Nat) (σ : jw_M) : Option (Int32 × jw_M) := some (1, σ)
def f_M_isUnder_19 (N : Nat) (x0 : Int32) (x1 : Int32) (σ : jw_M) : Option (Int32 × jw_M) := if x1 = 4 then if x0 = 5 then f_M_isUnder_29 N  σ else some (0, σ) else some (0, σ)
def f_M_isUnder (N : Nat) (x0 : Int32) (x1 : Int32) (σ : jw_M) : Option (Int32 × jw_M) := if x1 = 0 then f_M_isUnder_29 N  σ else if x1 = x0 then f_M_isUnder_29 N  σ else if x1 = 2 then if x0 = 3 then f_M_isUnder_29 N  σ else f_M_isUnder_19 N x0 x1 σ else f_M_isUnder_19 N x0 x1 σ
/-! ShadowSchoolModel.shadow(III)I -/
def f_M_shadow_120 (N : Nat) : Nat → Int32 → Int32 → jw_M → Option (Int32 × jw_M)
  | 0, _, _, _ => none
  | k + 1, x4, x5, σ => if 8 ≤ x5 then some (x4, (jx_w σ 3 2 ((σ.1 3 2) + 1))) else bif jx_in ((8 + (8 * x4)) + x5) 56 then f_M_shadow_120 N k x4 (x5 + 1) (jx_w σ 1 (((8 + (8 * x4)) + x5)).toNatClampNeg (0 : Int32)) else none
def f_M_shadow (N : Nat) (x1 : Int32) (x2 : Int32) (x3 : Int32) (σ : jw_M) : Option (Int32 × jw_M) := (f_M_in N x1 1 5 σ).bind fun z1 => if z1.1 = 0 then some ((-1), z1.2) else (f_M_in N x2 1 9 z1.2).bind fun z4 => if z4.1 = 0 then some ((-1), z4.2) else (f_M_in N x3 1 9 z4.2).bind fun z7 => if z7.1 = 0 then some ((-1), z7.2) else if (z7.2.1 3 2) = 6 then some ((-2), z7.2) else bif jx_in (6 + (3 * (z7.2.1 3 2))) 526 then bif jx_in ((6 + (3 * (z7.2.1 3 2))) + 1) 526 then bif jx_in ((6 + (3 * (z7.2.1 3 2))) + 2) 526 then bif jx_in (64 + (z7.2.1 3 2)) 526 then bif jx_in (2 + (z7.2.1 3 2)) 56 then f_M_shadow_120 N N (z7.2.1 3 2) 0 (jx_w (jx_w (jx_w (jx_w (jx_w z7.2 3 ((6 + (3 * (z7.2.1 3 2)))).toNatClampNeg x1) 3 (((6 + (3 * (z7.2.1 3 2))) + 1)).toNatClampNeg x2) 3 (((6 + (3 * (z7.2.1 3 2))) + 2)).toNatClampNeg x3) 3 ((64 + (z7.2.1 3 2))).toNatClampNeg (0 : Int32)) 1 ((2 + (z7.2.1 3 2))).toNatClampNeg (0 : Int32)) else none else none else none else none else none
/-! ShadowSchoolModel.emptySeats()V -/
def f_M_emptySeats_2 (N : Nat) : Nat → Int32 → jw_M → Option jw_M
  | 0, _, _ => none
  | k + 1, x1, σ => if 8 ≤ x1 then some σ else bif jx_in x1 8 then f_M_emptySeats_2 N k (x1 + 1) (jx_w σ 10 (x1).toNatClampNeg (0 : Int32)) else none
def f_M_emptySeats (N : Nat) (σ : jw_M) : Option jw_M := f_M_emptySeats_2 N N 0 σ
/-! ShadowSchoolModel.isOpen(II)Z -/
def f_M_isOpen_29 (N : Nat) (x2 : Int32) (σ : jw_M) : Option (Int32 × jw_M) := (f_M_lessonNumber N x2 2 σ).bind fun z7 => (f_M_lessonNumber N x2 3 z7.2).bind fun z9 => (f_M_in N (σ.1 1 0) (z7.1) (z9.1) z9.2).bind fun z11 => if z11.1 = 0 then some (0, z11.2) else bif jx_in x2 8 then (f_M_lessonNumber N x2 4 z11.2).bind fun z15 => if z15.1 ≤ (z11.2.1 10 (x2).toNatClampNeg) then some (0, z15.2) else some (1, z15.2) else none
def f_M_isOpen (N : Nat) (x1 : Int32) (x2 : Int32) (σ : jw_M) : Option (Int32 × jw_M) := (f_M_lessonNumber N x2 1 σ).bind fun z1 => (f_M_hasLearnt N x1 x2 z1.2).bind fun z3 => if z3.1 = 0 then if z1.1 < 0 then f_M_isOpen_29 N x2 z3.2 else (f_M_hasLearnt N x1 (z1.1) z3.2).bind fun z18 => if z18.1 = 0 then some (0, z18.2) else f_M_isOpen_29 N x2 z18.2 else some (0, z3.2)
/-! ShadowSchoolModel.factOf(II)I -/
def f_M_factOf (N : Nat) (x1 : Int32) (x2 : Int32) (σ : jw_M) : Option (Int32 × jw_M) := if x2 = 0 then some ((σ.1 1 0), σ) else if x2 = 1 then bif jx_in (2 + x1) 56 then (f_M_ones N (σ.1 1 ((2 + x1)).toNatClampNeg) σ).bind fun z2 => some (z2.1, z2.2) else none else if x2 = 2 then (f_M_of N x1 1 σ).bind fun z4 => some (z4.1, z4.2) else if x2 = 3 then (f_M_of N x1 2 σ).bind fun z6 => some (z6.1, z6.2) else some (x1, σ)
/-! ShadowSchoolModel.told(Z)I -/
def f_M_told (N : Nat) (x0 : Int32) (σ : jw_M) : Option (Int32 × jw_M) := if x0 = 0 then some (0, σ) else some (1, σ)
/-! ShadowSchoolModel.joined(IIII)I -/
def f_M_joined_76 (N : Nat) (y0 : Int32) (σ : jw_M) : Option (Int32 × jw_M) := (f_M_told N y0 σ).bind fun z3 => some (z3.1, z3.2)
def f_M_joined (N : Nat) (x0 : Int32) (x1 : Int32) (x2 : Int32) (x3 : Int32) (σ : jw_M) : Option (Int32 × jw_M) := if x0 = 2 then if x1 = 60 then if x3 ≤ x2 then f_M_joined_76 N 0 σ else f_M_joined_76 N 1 σ else if x1 = 61 then if x2 = x3 then f_M_joined_76 N 1 σ else f_M_joined_76 N 0 σ else if x2 ≤ x3 then f_M_joined_76 N 0 σ else f_M_joined_76 N 1 σ else if x0 = 4 then some ((x2 &&& x3), σ) else some ((x2 ||| x3), σ)
/-! ShadowSchoolModel.holds(II)Z -/
def f_M_holds_195 (N : Nat) (σ : jw_M) : Option (Int32 × jw_M) := some (1, σ)
def f_M_holds_174 (N : Nat) (K35 : Int32 → Int32 → Int32 → Int32 → Int32 → jw_M → Option (Int32 × jw_M)) (x2 : Int32) (x3 : Int32) (x4 : Int32) (x5 : Int32) (x6 : Int32) (σ : jw_M) : Option (Int32 × jw_M) := K35 x2 x3 x4 x5 (x6 + 1) σ
def f_M_holds_103 (N : Nat) (K35 : Int32 → Int32 → Int32 → Int32 → Int32 → jw_M → Option (Int32 × jw_M)) (x2 : Int32) (x3 : Int32) (x4 : Int32) (x5 : Int32) (x6 : Int32) (y1 : Int32) (y2 : Int32) (σ : jw_M) : Option (Int32 × jw_M) := bif jx_in y1 200 then f_M_holds_174 N K35 x2 x3 x4 (x5 + 1) x6 (jx_w σ 9 (y1).toNatClampNeg y2) else none
def f_M_holds_35 (N : Nat) : Nat → Int32 → Int32 → Int32 → Int32 → Int32 → jw_M → Option (Int32 × jw_M)
  | 0, _, _, _, _, _, _ => none
  | k + 1, x2, x3, x4, x5, x6, σ => if (x3 + x4) ≤ x6 then if x4 = 0 then f_M_holds_195 N  σ else if (σ.1 9 0) = 1 then f_M_holds_195 N  σ else some (0, σ) else bif jx_in (126 + (2 * x6)) 526 then bif jx_in ((126 + (2 * x6)) + 1) 526 then if 1 < (σ.1 3 ((126 + (2 * x6))).toNatClampNeg) then if (σ.1 3 ((126 + (2 * x6))).toNatClampNeg) = 3 then bif jx_in (x5 - 1) 200 then f_M_holds_174 N (f_M_holds_35 N k) x2 x3 x4 x5 x6 (jx_w σ 9 ((x5 - 1)).toNatClampNeg (1 - (σ.1 9 ((x5 - 1)).toNatClampNeg))) else none else bif jx_in ((x5 + (-1)) - 1) 200 then bif jx_in (x5 + (-1)) 200 then (f_M_joined N (σ.1 3 ((126 + (2 * x6))).toNatClampNeg) (σ.1 3 (((126 + (2 * x6)) + 1)).toNatClampNeg) (σ.1 9 (((x5 + (-1)) - 1)).toNatClampNeg) (σ.1 9 ((x5 + (-1))).toNatClampNeg) σ).bind fun z13 => f_M_holds_174 N (f_M_holds_35 N k) x2 x3 x4 (x5 + (-1)) x6 (jx_w z13.2 9 (((x5 + (-1)) - 1)).toNatClampNeg z13.1) else none else none else if (σ.1 3 ((126 + (2 * x6))).toNatClampNeg) = 0 then f_M_holds_103 N (f_M_holds_35 N k) x2 x3 x4 x5 x6 x5 (σ.1 3 (((126 + (2 * x6)) + 1)).toNatClampNeg) σ else (f_M_factOf N x2 (σ.1 3 (((126 + (2 * x6)) + 1)).toNatClampNeg) σ).bind fun z17 => f_M_holds_103 N (f_M_holds_35 N k) x2 x3 x4 x5 x6 x5 (z17.1) z17.2 else none else none
def f_M_holds (N : Nat) (x1 : Int32) (x2 : Int32) (σ : jw_M) : Option (Int32 × jw_M) := bif jx_in ((94 + (4 * x1)) + 2) 526 then bif jx_in ((94 + (4 * x1)) + 3) 526 then f_M_holds_35 N N x2 (σ.1 3 (((94 + (4 * x1)) + 2)).toNatClampNeg) (σ.1 3 (((94 + (4 * x1)) + 3)).toNatClampNeg) 0 (σ.1 3 (((94 + (4 * x1)) + 2)).toNatClampNeg) σ else none else none
/-! ShadowSchoolModel.ruleFor(I)I -/
def f_M_ruleFor_58 (N : Nat) (K2 : Int32 → Int32 → jw_M → Option (Int32 × jw_M)) (x1 : Int32) (x2 : Int32) (σ : jw_M) : Option (Int32 × jw_M) := K2 x1 (x2 + 1) σ
def f_M_ruleFor_2 (N : Nat) : Nat → Int32 → Int32 → jw_M → Option (Int32 × jw_M)
  | 0, _, _, _ => none
  | k + 1, x1, x2, σ => if (σ.1 3 4) ≤ x2 then some ((-1), σ) else (f_M_of N x1 0 σ).bind fun z2 => bif jx_in (94 + (4 * x2)) 526 then (f_M_isUnder N (z2.1) (z2.2.1 3 ((94 + (4 * x2))).toNatClampNeg) z2.2).bind fun z5 => if z5.1 = 0 then f_M_ruleFor_58 N (f_M_ruleFor_2 N k) x1 x2 z5.2 else (f_M_holds N x2 x1 z5.2).bind fun z8 => if z8.1 = 0 then f_M_ruleFor_58 N (f_M_ruleFor_2 N k) x1 x2 z8.2 else bif jx_in ((94 + (4 * x2)) + 1) 526 then some ((z8.2.1 3 (((94 + (4 * x2)) + 1)).toNatClampNeg), z8.2) else none else none
def f_M_ruleFor (N : Nat) (x1 : Int32) (σ : jw_M) : Option (Int32 × jw_M) := f_M_ruleFor_2 N N x1 0 σ
/-! ShadowSchoolModel.lacks(II)I -/
def f_M_lacks (N : Nat) (x1 : Int32) (x2 : Int32) (σ : jw_M) : Option (Int32 × jw_M) := (f_M_lessonNumber N x2 0 σ).bind fun z1 => (f_M_pointsOf N x1 x2 z1.2).bind fun z3 => some ((z1.1 - z3.1), z3.2)
/-! ShadowSchoolModel.choiceOf(I)I -/
def f_M_choiceOf_91 (N : Nat) (K12 : Int32 → Int32 → Int32 → Int32 → jw_M → Option (Int32 × jw_M)) (x1 : Int32) (x2 : Int32) (x3 : Int32) (x4 : Int32) (σ : jw_M) : Option (Int32 × jw_M) := K12 x1 x2 x3 (x4 + 1) σ
def f_M_choiceOf_90 (N : Nat) (K12 : Int32 → Int32 → Int32 → Int32 → jw_M → Option (Int32 × jw_M)) (x1 : Int32) (x2 : Int32) (x4 : Int32) (y0 : Int32) (σ : jw_M) : Option (Int32 × jw_M) := f_M_choiceOf_91 N K12 x1 x2 y0 x4 σ
def f_M_choiceOf_77 (N : Nat) (K12 : Int32 → Int32 → Int32 → Int32 → jw_M → Option (Int32 × jw_M)) (x1 : Int32) (x2 : Int32) (x3 : Int32) (x4 : Int32) (y0 : Int32) (σ : jw_M) : Option (Int32 × jw_M) := if y0 = 0 then f_M_choiceOf_90 N K12 x1 x2 x4 x3 σ else f_M_choiceOf_90 N K12 x1 x2 x4 x4 σ
def f_M_choiceOf_72 (N : Nat) (K12 : Int32 → Int32 → Int32 → Int32 → jw_M → Option (Int32 × jw_M)) (x1 : Int32) (x2 : Int32) (x3 : Int32) (x4 : Int32) (σ : jw_M) : Option (Int32 × jw_M) := f_M_choiceOf_77 N K12 x1 x2 x3 x4 1 σ
def f_M_choiceOf_76 (N : Nat) (K12 : Int32 → Int32 → Int32 → Int32 → jw_M → Option (Int32 × jw_M)) (x1 : Int32) (x2 : Int32) (x3 : Int32) (x4 : Int32) (σ : jw_M) : Option (Int32 × jw_M) := f_M_choiceOf_77 N K12 x1 x2 x3 x4 0 σ
def f_M_choiceOf_12 (N : Nat) : Nat → Int32 → Int32 → Int32 → Int32 → jw_M → Option (Int32 × jw_M)
  | 0, _, _, _, _, _ => none
  | k + 1, x1, x2, x3, x4, σ => if (σ.1 3 3) ≤ x4 then some (x3, σ) else if x2 = 2 then some (x3, σ) else (f_M_isOpen N x1 x4 σ).bind fun z5 => if z5.1 = 0 then f_M_choiceOf_91 N (f_M_choiceOf_12 N k) x1 x2 x3 x4 z5.2 else if x3 = 8 then f_M_choiceOf_72 N (f_M_choiceOf_12 N k) x1 x2 x3 x4 z5.2 else if x2 = 0 then f_M_choiceOf_72 N (f_M_choiceOf_12 N k) x1 x2 x3 x4 z5.2 else if x2 = 1 then (f_M_lacks N x1 x4 z5.2).bind fun z12 => (f_M_lacks N x1 x3 z12.2).bind fun z14 => if z14.1 ≤ z12.1 then f_M_choiceOf_76 N (f_M_choiceOf_12 N k) x1 x2 x3 x4 z14.2 else f_M_choiceOf_72 N (f_M_choiceOf_12 N k) x1 x2 x3 x4 z14.2 else f_M_choiceOf_76 N (f_M_choiceOf_12 N k) x1 x2 x3 x4 z5.2
def f_M_choiceOf (N : Nat) (x1 : Int32) (σ : jw_M) : Option (Int32 × jw_M) := (f_M_ruleFor N x1 σ).bind fun z1 => f_M_choiceOf_12 N N x1 (z1.1) 8 0 z1.2
/-! ShadowSchoolModel.shadowOf(II)I -/
def f_M_shadowOf (N : Nat) (x1 : Int32) (x2 : Int32) (σ : jw_M) : Option (Int32 × jw_M) := (f_M_isShadow N x1 σ).bind fun z1 => if z1.1 = 0 then some ((-1), z1.2) else (f_M_in N x2 0 6 z1.2).bind fun z4 => if z4.1 = 0 then some ((-1), z4.2) else if x2 = 3 then bif jx_in (2 + x1) 56 then (f_M_ones N (z4.2.1 1 ((2 + x1)).toNatClampNeg) z4.2).bind fun z8 => some (z8.1, z8.2) else none else if x2 = 4 then (f_M_of N x1 0 z4.2).bind fun z10 => (f_M_of N x1 1 z10.2).bind fun z12 => (f_M_paceBy N (z10.1) (z12.1) (z12.2.1 1 0) z12.2).bind fun z14 => some (z14.1, z14.2) else if x2 = 5 then (f_M_emptySeats N  z4.2).bind fun z16 => (f_M_choiceOf N x1 z16).bind fun z18 => some (z18.1, z18.2) else if x2 = 6 then (f_M_of N x1 0 z4.2).bind fun z20 => (f_M_of N x1 2 z20.2).bind fun z22 => (f_M_lengthBy N (z20.1) (z22.1) (z22.2.1 1 0) z22.2).bind fun z24 => some (z24.1, z24.2) else (f_M_of N x1 x2 z4.2).bind fun z26 => some (z26.1, z26.2)
/-! ShadowSchoolModel.becomes(II)I -/
def f_M_becomes (N : Nat) (x1 : Int32) (x2 : Int32) (σ : jw_M) : Option (Int32 × jw_M) := bif jx_in x1 526 then some ((σ.1 3 (x1).toNatClampNeg), (jx_w σ 3 (x1).toNatClampNeg x2)) else none
/-! ShadowSchoolModel.change(III)I -/
def f_M_change (N : Nat) (x1 : Int32) (x2 : Int32) (x3 : Int32) (σ : jw_M) : Option (Int32 × jw_M) := (f_M_isShadow N x1 σ).bind fun z1 => if z1.1 = 0 then some ((-1), z1.2) else (f_M_in N x2 1 2 z1.2).bind fun z4 => if z4.1 = 0 then some ((-1), z4.2) else (f_M_in N x3 1 9 z4.2).bind fun z7 => if z7.1 = 0 then some ((-1), z7.2) else (f_M_becomes N ((6 + (3 * x1)) + x2) x3 z7.2).bind fun z10 => some (z10.1, z10.2)
/-! ShadowSchoolModel.remake(II)I -/
def f_M_remake (N : Nat) (x1 : Int32) (x2 : Int32) (σ : jw_M) : Option (Int32 × jw_M) := (f_M_isShadow N x1 σ).bind fun z1 => if z1.1 = 0 then some ((-1), z1.2) else (f_M_in N x2 1 5 z1.2).bind fun z4 => if z4.1 = 0 then some ((-1), z4.2) else (f_M_becomes N (6 + (3 * x1)) x2 z4.2).bind fun z7 => some (z7.1, z7.2)
/-! ShadowSchoolModel.lesson(IIIII)I -/
def f_M_lesson (N : Nat) (x1 : Int32) (x2 : Int32) (x3 : Int32) (x4 : Int32) (x5 : Int32) (σ : jw_M) : Option (Int32 × jw_M) := (f_M_in N x1 1 20 σ).bind fun z1 => if z1.1 = 0 then some ((-1), z1.2) else (f_M_in N x2 (-1) ((z1.2.1 3 3) - 1) z1.2).bind fun z4 => if z4.1 = 0 then some ((-1), z4.2) else (f_M_in N x3 0 15 z4.2).bind fun z7 => if z7.1 = 0 then some ((-1), z7.2) else (f_M_in N x4 x3 15 z7.2).bind fun z10 => if z10.1 = 0 then some ((-1), z10.2) else (f_M_in N x5 1 6 z10.2).bind fun z13 => if z13.1 = 0 then some ((-1), z13.2) else if (z13.2.1 3 3) = 8 then some ((-2), z13.2) else bif jx_in (24 + (5 * (z13.2.1 3 3))) 526 then bif jx_in ((24 + (5 * (z13.2.1 3 3))) + 1) 526 then bif jx_in ((24 + (5 * (z13.2.1 3 3))) + 2) 526 then bif jx_in ((24 + (5 * (z13.2.1 3 3))) + 3) 526 then bif jx_in ((24 + (5 * (z13.2.1 3 3))) + 4) 526 then some ((((jx_w (jx_w (jx_w (jx_w (jx_w (jx_w z13.2 3 ((24 + (5 * (z13.2.1 3 3)))).toNatClampNeg x1) 3 (((24 + (5 * (z13.2.1 3 3))) + 1)).toNatClampNeg x2) 3 (((24 + (5 * (z13.2.1 3 3))) + 2)).toNatClampNeg x3) 3 (((24 + (5 * (z13.2.1 3 3))) + 3)).toNatClampNeg x4) 3 (((24 + (5 * (z13.2.1 3 3))) + 4)).toNatClampNeg x5) 3 3 (((jx_w (jx_w (jx_w (jx_w (jx_w z13.2 3 ((24 + (5 * (z13.2.1 3 3)))).toNatClampNeg x1) 3 (((24 + (5 * (z13.2.1 3 3))) + 1)).toNatClampNeg x2) 3 (((24 + (5 * (z13.2.1 3 3))) + 2)).toNatClampNeg x3) 3 (((24 + (5 * (z13.2.1 3 3))) + 3)).toNatClampNeg x4) 3 (((24 + (5 * (z13.2.1 3 3))) + 4)).toNatClampNeg x5).1 3 3) + 1)).1 3 3) - 1), (jx_w (jx_w (jx_w (jx_w (jx_w (jx_w z13.2 3 ((24 + (5 * (z13.2.1 3 3)))).toNatClampNeg x1) 3 (((24 + (5 * (z13.2.1 3 3))) + 1)).toNatClampNeg x2) 3 (((24 + (5 * (z13.2.1 3 3))) + 2)).toNatClampNeg x3) 3 (((24 + (5 * (z13.2.1 3 3))) + 3)).toNatClampNeg x4) 3 (((24 + (5 * (z13.2.1 3 3))) + 4)).toNatClampNeg x5) 3 3 (((jx_w (jx_w (jx_w (jx_w (jx_w z13.2 3 ((24 + (5 * (z13.2.1 3 3)))).toNatClampNeg x1) 3 (((24 + (5 * (z13.2.1 3 3))) + 1)).toNatClampNeg x2) 3 (((24 + (5 * (z13.2.1 3 3))) + 2)).toNatClampNeg x3) 3 (((24 + (5 * (z13.2.1 3 3))) + 3)).toNatClampNeg x4) 3 (((24 + (5 * (z13.2.1 3 3))) + 4)).toNatClampNeg x5).1 3 3) + 1))) else none else none else none else none else none
/-! ShadowSchoolModel.learntBy(I)I -/
def f_M_learntBy_29 (N : Nat) (K4 : Int32 → Int32 → Int32 → jw_M → Option (Int32 × jw_M)) (x1 : Int32) (x3 : Int32) (y0 : Int32) (y1 : Int32) (σ : jw_M) : Option (Int32 × jw_M) := K4 x1 (y0 + y1) (x3 + 1) σ
def f_M_learntBy_4 (N : Nat) : Nat → Int32 → Int32 → Int32 → jw_M → Option (Int32 × jw_M)
  | 0, _, _, _, _ => none
  | k + 1, x1, x2, x3, σ => if (σ.1 3 2) ≤ x3 then some (x2, σ) else (f_M_hasLearnt N x3 x1 σ).bind fun z2 => if z2.1 = 0 then f_M_learntBy_29 N (f_M_learntBy_4 N k) x1 x3 x2 0 z2.2 else f_M_learntBy_29 N (f_M_learntBy_4 N k) x1 x3 x2 1 z2.2
def f_M_learntBy (N : Nat) (x1 : Int32) (σ : jw_M) : Option (Int32 × jw_M) := f_M_learntBy_4 N N x1 0 0 σ
/-! ShadowSchoolModel.lessonOf(II)I -/
def f_M_lessonOf (N : Nat) (x1 : Int32) (x2 : Int32) (σ : jw_M) : Option (Int32 × jw_M) := (f_M_isLesson N x1 σ).bind fun z1 => if z1.1 = 0 then some ((-1), z1.2) else (f_M_in N x2 0 5 z1.2).bind fun z4 => if z4.1 = 0 then some ((-1), z4.2) else if 5 ≤ x2 then (f_M_learntBy N x1 z4.2).bind fun z8 => some (z8.1, z8.2) else (f_M_lessonNumber N x1 x2 z4.2).bind fun z10 => some (z10.1, z10.2)
/-! ShadowSchoolModel.points(II)I -/
def f_M_points (N : Nat) (x1 : Int32) (x2 : Int32) (σ : jw_M) : Option (Int32 × jw_M) := (f_M_isShadow N x1 σ).bind fun z1 => if z1.1 = 0 then some ((-1), z1.2) else (f_M_isLesson N x2 z1.2).bind fun z4 => if z4.1 = 0 then some ((-1), z4.2) else (f_M_pointsOf N x1 x2 z4.2).bind fun z7 => some (z7.1, z7.2)
/-! ShadowSchoolModel.dusk(I)I -/
def f_M_dusk (N : Nat) (x1 : Int32) (σ : jw_M) : Option (Int32 × jw_M) := (f_M_in N x1 1 16 σ).bind fun z1 => if z1.1 = 0 then some ((-1), z1.2) else if (z1.2.1 1 0) ≤ x1 then (f_M_becomes N 0 x1 z1.2).bind fun z5 => some (z5.1, z5.2) else some ((-4), z1.2)
/-! ShadowSchoolModel.anew()I -/
def f_M_anew_9 (N : Nat) : Nat → Int32 → Int32 → jw_M → Option (Int32 × jw_M)
  | 0, _, _, _ => none
  | k + 1, x1, x2, σ => if 56 ≤ x2 then some (x1, σ) else bif jx_in x2 56 then f_M_anew_9 N k x1 (x2 + 1) (jx_w σ 1 (x2).toNatClampNeg (0 : Int32)) else none
def f_M_anew (N : Nat) (σ : jw_M) : Option (Int32 × jw_M) := f_M_anew_9 N N (σ.1 1 0) 0 σ
/-! ShadowSchoolModel.state(I)I -/
def f_M_state (N : Nat) (x1 : Int32) (σ : jw_M) : Option (Int32 × jw_M) := if x1 = 0 then some ((σ.1 1 0), σ) else if x1 = 1 then some ((σ.1 3 0), σ) else if x1 = 2 then some ((σ.1 1 1), σ) else if x1 = 3 then (f_M_isOver N  σ).bind fun z1 => if z1.1 = 0 then some (0, z1.2) else some (1, z1.2) else some ((-1), σ)
/-! ShadowSchoolModel.feed(JI)I -/
def f_M_feed_30 (N : Nat) : Nat → Int64 → Int32 → Int32 → jw_M → Option (Int32 × jw_M)
  | 0, _, _, _, _ => none
  | k + 1, x1, x3, x4, σ => if x3 ≤ x4 then some ((σ.1 0 7), σ) else bif jx_in (σ.1 0 7) 200 then f_M_feed_30 N k (x1) x3 (x4 + 1) (jx_w (jx_w σ 6 ((σ.1 0 7)).toNatClampNeg (((((x1 : Int64) >>> ((8 * x4).toInt64 &&& 63)) : Int64) &&& 255)).toInt32) 0 7 (((jx_w σ 6 ((σ.1 0 7)).toNatClampNeg (((((x1 : Int64) >>> ((8 * x4).toInt64 &&& 63)) : Int64) &&& 255)).toInt32).1 0 7) + 1)) else none
def f_M_feed (N : Nat) (x1 : Int64) (x3 : Int32) (σ : jw_M) : Option (Int32 × jw_M) := (f_M_in N x3 1 8 σ).bind fun z1 => if z1.1 = 0 then some ((-1), z1.2) else if ((z1.2.1 0 7) + x3) ≤ 200 then f_M_feed_30 N N (x1) x3 0 z1.2 else some ((-2), z1.2)
/-! ShadowSchoolModel.byteAt(I)I -/
def f_M_byteAt (N : Nat) (x1 : Int32) (σ : jw_M) : Option (Int32 × jw_M) := if (σ.1 0 7) ≤ x1 then some ((-1), σ) else bif jx_in x1 200 then some ((σ.1 6 (x1).toNatClampNeg), σ) else none
/-! ShadowSchoolModel.isLetter(I)Z -/
def f_M_isLetter (N : Nat) (x0 : Int32) (σ : jw_M) : Option (Int32 × jw_M) := (f_M_in N x0 97 122 σ).bind fun z1 => if z1.1 = 0 ∨ z1.1 = 1 then some (z1.1, z1.2) else none
/-! ShadowSchoolModel.isDigit(I)Z -/
def f_M_isDigit (N : Nat) (x0 : Int32) (σ : jw_M) : Option (Int32 × jw_M) := (f_M_in N x0 48 57 σ).bind fun z1 => if z1.1 = 0 ∨ z1.1 = 1 then some (z1.1, z1.2) else none
/-! ShadowSchoolModel.advance()V -/
def f_M_advance_266 (N : Nat) (K207 : jw_M → Option jw_M) (y1 : Int32) (σ : jw_M) : Option jw_M := K207  (jx_w (jx_w σ 0 12 y1) 0 10 (((jx_w σ 0 12 y1).1 0 10) + 1))
def f_M_advance_207 (N : Nat) : Nat → jw_M → Option jw_M
  | 0, _ => none
  | k + 1, σ => if (σ.1 0 8) = 2 then (f_M_byteAt N (σ.1 0 10) σ).bind fun z22 => (f_M_isDigit N (z22.1) z22.2).bind fun z24 => if z24.1 = 0 then some z24.2 else if 4 ≤ ((z24.2.1 0 10) - (z24.2.1 0 9)) then f_M_advance_266 N (f_M_advance_207 N k) (-1) z24.2 else (f_M_byteAt N (z24.2.1 0 10) z24.2).bind fun z28 => f_M_advance_266 N (f_M_advance_207 N k) (((10 * (z24.2.1 0 12)) + z28.1) - 48) z28.2 else some σ
def f_M_advance_191 (N : Nat) (K126 : jw_M → Option jw_M) (y1 : Int64) (σ : jw_M) : Option jw_M := K126  (jx_w (jx_wl σ 0 11 y1) 0 10 (((jx_wl σ 0 11 y1).1 0 10) + 1))
def f_M_advance_126 (N : Nat) : Nat → jw_M → Option jw_M
  | 0, _ => none
  | k + 1, σ => if (σ.1 0 8) = 1 then (f_M_byteAt N (σ.1 0 10) σ).bind fun z16 => (f_M_isLetter N (z16.1) z16.2).bind fun z18 => if z18.1 = 0 then f_M_advance_207 N N  z18.2 else if 8 ≤ ((z18.2.1 0 10) - (z18.2.1 0 9)) then f_M_advance_191 N (f_M_advance_126 N k) ((-1)) z18.2 else (f_M_byteAt N (z18.2.1 0 10) z18.2).bind fun z31 => f_M_advance_191 N (f_M_advance_126 N k) (((((((27 : Int64) * (z18.2.2 0 11)) : Int64) + (z31.1).toInt64) : Int64) - 96)) z31.2 else f_M_advance_207 N N  σ
def f_M_advance_105 (N : Nat) (y1 : Int32) (σ : jw_M) : Option jw_M := if ((jx_w σ 0 12 y1).1 0 8) = 3 then f_M_advance_126 N N  (jx_w (jx_w σ 0 12 y1) 0 10 (((jx_w σ 0 12 y1).1 0 10) + 1)) else f_M_advance_126 N N  (jx_w σ 0 12 y1)
def f_M_advance_83 (N : Nat) (x1 : Int32) (y1 : Int32) (σ : jw_M) : Option jw_M := if ((jx_wl (jx_w σ 0 8 y1) 0 11 0).1 0 8) = 2 then f_M_advance_105 N 0 (jx_wl (jx_w σ 0 8 y1) 0 11 0) else f_M_advance_105 N x1 (jx_wl (jx_w σ 0 8 y1) 0 11 0)
def f_M_advance_8 (N : Nat) : Nat → jw_M → Option jw_M
  | 0, _ => none
  | k + 1, σ => (f_M_byteAt N (σ.1 0 9) σ).bind fun z1 => if z1.1 = 32 then f_M_advance_8 N k  (jx_w z1.2 0 9 ((z1.2.1 0 9) + 1)) else (f_M_byteAt N ((jx_w z1.2 0 10 (z1.2.1 0 9)).1 0 9) (jx_w z1.2 0 10 (z1.2.1 0 9))).bind fun z4 => if 0 ≤ z4.1 then (f_M_isLetter N (z4.1) z4.2).bind fun z7 => if z7.1 = 0 then (f_M_isDigit N (z4.1) z7.2).bind fun z10 => if z10.1 = 0 then f_M_advance_83 N (z4.1) 3 z10.2 else f_M_advance_83 N (z4.1) 2 z10.2 else f_M_advance_83 N (z4.1) 1 z7.2 else f_M_advance_83 N (z4.1) 0 z4.2
def f_M_advance (N : Nat) (σ : jw_M) : Option jw_M := f_M_advance_8 N N  (jx_w σ 0 9 (σ.1 0 10))
/-! ShadowSchoolModel.isWord(J)Z -/
def f_M_isWord (N : Nat) (x1 : Int64) (σ : jw_M) : Option (Int32 × jw_M) := if (σ.1 0 8) = 1 then if (lg_cmp (σ.2 0 11) x1) = 0 then some (1, σ) else some (0, σ) else some (0, σ)
/-! ShadowSchoolModel.isMark(I)Z -/
def f_M_isMark (N : Nat) (x1 : Int32) (σ : jw_M) : Option (Int32 × jw_M) := if (σ.1 0 8) = 3 then if (σ.1 0 12) = x1 then some (1, σ) else some (0, σ) else some (0, σ)
/-! ShadowSchoolModel.step(II)V -/
def f_M_step (N : Nat) (x1 : Int32) (x2 : Int32) (σ : jw_M) : Option jw_M := bif jx_in (2 * (σ.1 0 16)) 400 then bif jx_in ((2 * ((jx_w σ 8 ((2 * (σ.1 0 16))).toNatClampNeg x1).1 0 16)) + 1) 400 then some (jx_w (jx_w (jx_w σ 8 ((2 * (σ.1 0 16))).toNatClampNeg x1) 8 (((2 * ((jx_w σ 8 ((2 * (σ.1 0 16))).toNatClampNeg x1).1 0 16)) + 1)).toNatClampNeg x2) 0 16 (((jx_w (jx_w σ 8 ((2 * (σ.1 0 16))).toNatClampNeg x1) 8 (((2 * ((jx_w σ 8 ((2 * (σ.1 0 16))).toNatClampNeg x1).1 0 16)) + 1)).toNatClampNeg x2).1 0 16) + 1)) else none else none
/-! ShadowSchoolModel.kindSeen()I -/
def f_M_kindSeen (N : Nat) (σ : jw_M) : Option (Int32 × jw_M) := (f_M_isWord N 276903788 σ).bind fun z1 => if z1.1 = 0 then (f_M_isWord N 151648177 z1.2).bind fun z4 => if z4.1 = 0 then (f_M_isWord N 105358135 z4.2).bind fun z7 => if z7.1 = 0 then (f_M_isWord N 37372952047 z7.2).bind fun z10 => if z10.1 = 0 then (f_M_isWord N 383153 z10.2).bind fun z13 => if z13.1 = 0 then (f_M_isWord N 27000172156 z13.2).bind fun z16 => if z16.1 = 0 then some ((-1), z16.2) else some (5, z16.2) else some (4, z13.2) else some (3, z10.2) else some (2, z7.2) else some (1, z4.2) else some (0, z1.2)
/-! ShadowSchoolModel.factSeen()I -/
def f_M_factSeen (N : Nat) (σ : jw_M) : Option (Int32 × jw_M) := (f_M_isWord N 168984 σ).bind fun z1 => if z1.1 = 0 then (f_M_isWord N 174877292 z1.2).bind fun z4 => if z4.1 = 0 then (f_M_isWord N 9454493 z4.2).bind fun z7 => if z7.1 = 0 then (f_M_isWord N 394725 z7.2).bind fun z10 => if z10.1 = 0 then (f_M_isWord N 212302449 z10.2).bind fun z13 => if z13.1 = 0 then some ((-1), z13.2) else some (4, z13.2) else some (3, z10.2) else some (2, z7.2) else some (1, z4.2) else some (0, z1.2)
/-! ShadowSchoolModel.readValue()V -/
def f_M_readValue_69 (N : Nat) (y1 : Int32) (y2 : Int32) (σ : jw_M) : Option jw_M := (f_M_step N y1 y2 σ).bind fun z8 => (f_M_advance N  z8).bind fun z10 => some z10
def f_M_readValue_57 (N : Nat) (x1 : Int32) (y1 : Int32) (σ : jw_M) : Option jw_M := if x1 < 0 then f_M_readValue_69 N y1 (σ.1 0 12) σ else f_M_readValue_69 N y1 x1 σ
def f_M_readValue_37 (N : Nat) (x1 : Int32) (y1 : Int32) (σ : jw_M) : Option jw_M := if y1 = 0 ∨ y1 = 1 then if ((jx_w σ 0 13 y1).1 0 13) = 0 then some (jx_w σ 0 13 y1) else if x1 < 0 then f_M_readValue_57 N x1 0 (jx_w σ 0 13 y1) else f_M_readValue_57 N x1 1 (jx_w σ 0 13 y1) else none
def f_M_readValue_36 (N : Nat) (x1 : Int32) (σ : jw_M) : Option jw_M := f_M_readValue_37 N x1 0 σ
def f_M_readValue_32 (N : Nat) (x1 : Int32) (σ : jw_M) : Option jw_M := f_M_readValue_37 N x1 1 σ
def f_M_readValue (N : Nat) (σ : jw_M) : Option jw_M := (f_M_factSeen N  σ).bind fun z1 => if (z1.2.1 0 13) = 0 then f_M_readValue_36 N (z1.1) z1.2 else if 0 ≤ z1.1 then f_M_readValue_32 N (z1.1) z1.2 else if (z1.2.1 0 8) = 2 then if (z1.2.1 0 12) < 0 then f_M_readValue_36 N (z1.1) z1.2 else f_M_readValue_32 N (z1.1) z1.2 else f_M_readValue_36 N (z1.1) z1.2
/-! ShadowSchoolModel.readTest()V -/
def f_M_readTest_63 (N : Nat) (x1 : Int32) (σ : jw_M) : Option jw_M := (f_M_readValue N  σ).bind fun z6 => if (z6.1 0 13) = 0 then some z6 else (f_M_step N 2 x1 z6).bind fun z9 => some z9
def f_M_readTest_44 (N : Nat) (y1 : Int32) (σ : jw_M) : Option jw_M := if y1 = 0 ∨ y1 = 1 then if ((jx_w σ 0 13 y1).1 0 13) = 0 then f_M_readTest_63 N ((jx_w σ 0 13 y1).1 0 12) (jx_w σ 0 13 y1) else (f_M_advance N  (jx_w σ 0 13 y1)).bind fun z11 => f_M_readTest_63 N ((jx_w σ 0 13 y1).1 0 12) z11 else none
def f_M_readTest_43 (N : Nat) (σ : jw_M) : Option jw_M := f_M_readTest_44 N 0 σ
def f_M_readTest_39 (N : Nat) (σ : jw_M) : Option jw_M := f_M_readTest_44 N 1 σ
def f_M_readTest (N : Nat) (σ : jw_M) : Option jw_M := (f_M_readValue N  σ).bind fun z1 => if (z1.1 0 13) = 0 then f_M_readTest_43 N  z1 else (f_M_isMark N 60 z1).bind fun z13 => if z13.1 = 0 then (f_M_isMark N 61 z13.2).bind fun z16 => if z16.1 = 0 then (f_M_isMark N 62 z16.2).bind fun z19 => if z19.1 = 0 then f_M_readTest_43 N  z19.2 else f_M_readTest_39 N  z19.2 else f_M_readTest_39 N  z16.2 else f_M_readTest_39 N  z13.2
/-! ShadowSchoolModel.readOne()V -/
def f_M_readOne_140 (N : Nat) (Rec : jw_M → Option jw_M) (x1 : Int32) (σ : jw_M) : Option jw_M := if (σ.1 0 13) = 0 then some σ else if (x1 - x1 / 2 * 2) = 1 then (f_M_step N 3 0 σ).bind fun z7 => some z7 else some σ
def f_M_readOne_136 (N : Nat) (Rec : jw_M → Option jw_M) (x1 : Int32) (σ : jw_M) : Option jw_M := (f_M_readTest N  σ).bind fun z3 => f_M_readOne_140 N Rec x1 z3
def f_M_readOne_109 (N : Nat) (Rec : jw_M → Option jw_M) (x1 : Int32) (y1 : Int32) (σ : jw_M) : Option jw_M := if y1 = 0 ∨ y1 = 1 then if ((jx_w σ 0 13 y1).1 0 13) = 0 then f_M_readOne_140 N Rec x1 (jx_w σ 0 13 y1) else (f_M_advance N  (jx_w (jx_w σ 0 13 y1) 0 17 (((jx_w σ 0 13 y1).1 0 17) - 1))).bind fun z20 => f_M_readOne_140 N Rec x1 z20 else none
def f_M_readOne_108 (N : Nat) (Rec : jw_M → Option jw_M) (x1 : Int32) (σ : jw_M) : Option jw_M := f_M_readOne_109 N Rec x1 0 σ
def f_M_readOne_83 (N : Nat) (Rec : jw_M → Option jw_M) (x1 : Int32) (σ : jw_M) : Option jw_M := (Rec  σ).bind fun z15 => if (z15.1 0 13) = 0 then f_M_readOne_108 N Rec x1 z15 else (f_M_isMark N 41 z15).bind fun z22 => if z22.1 = 0 then f_M_readOne_108 N Rec x1 z22.2 else f_M_readOne_109 N Rec x1 1 z22.2
def f_M_readOne_59 (N : Nat) (Rec : jw_M → Option jw_M) (x1 : Int32) (y1 : Int32) (σ : jw_M) : Option jw_M := if y1 = 0 ∨ y1 = 1 then if ((jx_w σ 0 13 y1).1 0 13) = 0 then f_M_readOne_83 N Rec x1 (jx_w σ 0 13 y1) else (f_M_advance N  (jx_w (jx_w σ 0 13 y1) 0 17 (((jx_w σ 0 13 y1).1 0 17) + 1))).bind fun z25 => f_M_readOne_83 N Rec x1 z25 else none
def f_M_readOne_29 (N : Nat) (Rec : jw_M → Option jw_M) (x1 : Int32) (σ : jw_M) : Option jw_M := if (σ.1 0 13) = 0 then f_M_readOne_136 N Rec x1 σ else (f_M_isMark N 40 σ).bind fun z9 => if z9.1 = 0 then f_M_readOne_136 N Rec x1 z9.2 else if 3 ≤ (z9.2.1 0 17) then f_M_readOne_59 N Rec x1 0 z9.2 else f_M_readOne_59 N Rec x1 1 z9.2
def f_M_readOne_2 (N : Nat) (Rec : jw_M → Option jw_M) : Nat → Int32 → jw_M → Option jw_M
  | 0, _, _ => none
  | k + 1, x1, σ => if (σ.1 0 13) = 0 then f_M_readOne_29 N Rec x1 σ else (f_M_isWord N 10631 σ).bind fun z27 => if z27.1 = 0 then f_M_readOne_29 N Rec x1 z27.2 else (f_M_advance N  z27.2).bind fun z30 => f_M_readOne_2 N Rec k (x1 + 1) z30
def f_M_readOne (N : Nat) (Rec : jw_M → Option jw_M) (σ : jw_M) : Option jw_M := f_M_readOne_2 N Rec N 0 σ
/-! ShadowSchoolModel.readAll()V -/
def f_M_readAll_4 (N : Nat) (Rec : jw_M → Option jw_M) : Nat → jw_M → Option jw_M
  | 0, _ => none
  | k + 1, σ => if (σ.1 0 13) = 0 then some σ else (f_M_isWord N 1111 σ).bind fun z4 => if z4.1 = 0 then some z4.2 else (f_M_advance N  z4.2).bind fun z7 => (f_M_readOne N Rec  z7).bind fun z9 => if (z9.1 0 13) = 0 then f_M_readAll_4 N Rec k  z9 else (f_M_step N 4 0 z9).bind fun z12 => f_M_readAll_4 N Rec k  z12
def f_M_readAll (N : Nat) (Rec : jw_M → Option jw_M) (σ : jw_M) : Option jw_M := (f_M_readOne N Rec  σ).bind fun z1 => f_M_readAll_4 N Rec N  z1
/-! ShadowSchoolModel.readCondition()V -/
def f_M_readCondition_12 (N : Nat) (Rec : jw_M → Option jw_M) : Nat → jw_M → Option jw_M
  | 0, _ => none
  | k + 1, σ => if (σ.1 0 13) = 0 then some σ else (f_M_isWord N 423 σ).bind fun z5 => if z5.1 = 0 then some z5.2 else (f_M_advance N  z5.2).bind fun z8 => (f_M_readAll N Rec  z8).bind fun z10 => if (z10.1 0 13) = 0 then f_M_readCondition_12 N Rec k  z10 else (f_M_step N 5 0 z10).bind fun z13 => f_M_readCondition_12 N Rec k  z13
def f_M_readCondition (N : Nat) : Nat → jw_M → Option jw_M
  | 0, _ => none
  | r + 1, σ => if (σ.1 0 13) = 0 then some σ else (f_M_readAll N (f_M_readCondition N r)  σ).bind fun z2 => f_M_readCondition_12 N (f_M_readCondition N r) N  z2
/-! ShadowSchoolModel.readRule(I)V -/
def f_M_readRule_164 (N : Nat) (x1 : Int32) (x2 : Int32) (x3 : Int32) (x4 : Int32) (y1 : Int32) (σ : jw_M) : Option jw_M := if y1 = 0 ∨ y1 = 1 then if ((jx_w σ 0 13 y1).1 0 13) = 0 then some (jx_w σ 0 13 y1) else (f_M_advance N  (jx_w σ 0 13 y1)).bind fun z22 => bif jx_in (4 * x1) 32 then bif jx_in ((4 * x1) + 1) 32 then bif jx_in ((4 * x1) + 2) 32 then bif jx_in ((4 * x1) + 3) 32 then some (jx_w (jx_w (jx_w (jx_w z22 7 ((4 * x1)).toNatClampNeg x2) 7 (((4 * x1) + 1)).toNatClampNeg x4) 7 (((4 * x1) + 2)).toNatClampNeg x3) 7 (((4 * x1) + 3)).toNatClampNeg (((jx_w (jx_w (jx_w z22 7 ((4 * x1)).toNatClampNeg x2) 7 (((4 * x1) + 1)).toNatClampNeg x4) 7 (((4 * x1) + 2)).toNatClampNeg x3).1 0 16) - x3)) else none else none else none else none else none
def f_M_readRule_163 (N : Nat) (x1 : Int32) (x2 : Int32) (x3 : Int32) (x4 : Int32) (σ : jw_M) : Option jw_M := f_M_readRule_164 N x1 x2 x3 x4 0 σ
def f_M_readRule_142 (N : Nat) (x1 : Int32) (x2 : Int32) (x3 : Int32) (x4 : Int32) (σ : jw_M) : Option jw_M := if (σ.1 0 13) = 0 then f_M_readRule_163 N x1 x2 x3 x4 σ else (f_M_isMark N 59 σ).bind fun z28 => if z28.1 = 0 then f_M_readRule_163 N x1 x2 x3 x4 z28.2 else f_M_readRule_164 N x1 x2 x3 x4 1 z28.2
def f_M_readRule_128 (N : Nat) (x1 : Int32) (x2 : Int32) (x3 : Int32) (x4 : Int32) (y1 : Int32) (σ : jw_M) : Option jw_M := if y1 = 0 ∨ y1 = 1 then if ((jx_w σ 0 13 y1).1 0 13) = 0 then f_M_readRule_142 N x1 x2 x3 x4 (jx_w σ 0 13 y1) else (f_M_advance N  (jx_w σ 0 13 y1)).bind fun z31 => f_M_readRule_142 N x1 x2 x3 x4 z31 else none
def f_M_readRule_127 (N : Nat) (x1 : Int32) (x2 : Int32) (x3 : Int32) (x4 : Int32) (σ : jw_M) : Option jw_M := f_M_readRule_128 N x1 x2 x3 x4 0 σ
def f_M_readRule_108 (N : Nat) (x1 : Int32) (x2 : Int32) (x3 : Int32) (y0 : Int32) (σ : jw_M) : Option jw_M := if (σ.1 0 13) = 0 then f_M_readRule_127 N x1 x2 x3 y0 σ else if y0 < 0 then f_M_readRule_127 N x1 x2 x3 y0 σ else f_M_readRule_128 N x1 x2 x3 y0 1 σ
def f_M_readRule_65 (N : Nat) (x1 : Int32) (x2 : Int32) (x3 : Int32) (σ : jw_M) : Option jw_M := (f_M_isWord N 237458 σ).bind fun z7 => if z7.1 = 0 then (f_M_isWord N 99682 z7.2).bind fun z10 => if z10.1 = 0 then (f_M_isWord N 323728 z10.2).bind fun z13 => if z13.1 = 0 then f_M_readRule_108 N x1 x2 x3 (-1) z13.2 else f_M_readRule_108 N x1 x2 x3 2 z13.2 else f_M_readRule_108 N x1 x2 x3 1 z10.2 else f_M_readRule_108 N x1 x2 x3 0 z7.2
def f_M_readRule_40 (N : Nat) (x1 : Int32) (x2 : Int32) (x3 : Int32) (σ : jw_M) : Option jw_M := if (σ.1 0 13) = 0 then f_M_readRule_65 N x1 x2 x3 σ else (f_M_isWord N 249 σ).bind fun z34 => if z34.1 = 0 then f_M_readRule_65 N x1 x2 x3 z34.2 else (f_M_advance N  z34.2).bind fun z37 => (f_M_readCondition N 64  z37).bind fun z39 => f_M_readRule_65 N x1 x2 x3 z39
def f_M_readRule_21 (N : Nat) (x1 : Int32) (x2 : Int32) (y1 : Int32) (σ : jw_M) : Option jw_M := if y1 = 0 ∨ y1 = 1 then if ((jx_w σ 0 13 y1).1 0 13) = 0 then f_M_readRule_40 N x1 x2 ((jx_w σ 0 13 y1).1 0 16) (jx_w σ 0 13 y1) else (f_M_advance N  (jx_w σ 0 13 y1)).bind fun z41 => f_M_readRule_40 N x1 x2 ((jx_w σ 0 13 y1).1 0 16) z41 else none
def f_M_readRule_20 (N : Nat) (x1 : Int32) (x2 : Int32) (σ : jw_M) : Option jw_M := f_M_readRule_21 N x1 x2 0 σ
def f_M_readRule (N : Nat) (x1 : Int32) (σ : jw_M) : Option jw_M := (f_M_kindSeen N  σ).bind fun z1 => if z1.1 < 0 then f_M_readRule_20 N x1 (z1.1) z1.2 else if 8 ≤ x1 then f_M_readRule_20 N x1 (z1.1) z1.2 else f_M_readRule_21 N x1 (z1.1) 1 z1.2
/-! ShadowSchoolModel.rules()I -/
def f_M_rules_110 (N : Nat) : Nat → Int32 → Int32 → jw_M → Option (Int32 × jw_M)
  | 0, _, _, _ => none
  | k + 1, x1, x2, σ => if (2 * (σ.1 0 16)) ≤ x2 then some (x1, σ) else bif jx_in x2 400 then bif jx_in (126 + x2) 526 then f_M_rules_110 N k x1 (x2 + 1) (jx_w σ 3 ((126 + x2)).toNatClampNeg (σ.1 8 (x2).toNatClampNeg)) else none else none
def f_M_rules_80 (N : Nat) : Nat → Int32 → Int32 → jw_M → Option (Int32 × jw_M)
  | 0, _, _, _ => none
  | k + 1, x1, x2, σ => if (4 * x1) ≤ x2 then f_M_rules_110 N N x1 0 σ else bif jx_in x2 32 then bif jx_in (94 + x2) 526 then f_M_rules_80 N k x1 (x2 + 1) (jx_w σ 3 ((94 + x2)).toNatClampNeg (σ.1 7 (x2).toNatClampNeg)) else none else none
def f_M_rules_51 (N : Nat) (x1 : Int32) (σ : jw_M) : Option (Int32 × jw_M) := if ((jx_w σ 0 7 (0 : Int32)).1 0 13) = 0 then some (((-100) - ((jx_w σ 0 7 (0 : Int32)).1 0 9)), (jx_w σ 0 7 (0 : Int32))) else f_M_rules_80 N N x1 0 (jx_w (jx_w σ 0 7 (0 : Int32)) 3 4 x1)
def f_M_rules_26 (N : Nat) : Nat → Int32 → jw_M → Option (Int32 × jw_M)
  | 0, _, _ => none
  | k + 1, x1, σ => if (σ.1 0 13) = 0 then f_M_rules_51 N x1 σ else if (σ.1 0 8) = 0 then f_M_rules_51 N x1 σ else (f_M_readRule N x1 σ).bind fun z12 => f_M_rules_26 N k (x1 + 1) z12
def f_M_rules (N : Nat) (σ : jw_M) : Option (Int32 × jw_M) := (f_M_advance N  (jx_w (jx_w (jx_w (jx_w σ 0 10 (0 : Int32)) 0 13 (1 : Int32)) 0 16 (0 : Int32)) 0 17 (0 : Int32))).bind fun z1 => f_M_rules_26 N N 0 z1
/-! ShadowSchoolModel.sits(II)I -/
def f_M_sits (N : Nat) (x1 : Int32) (x2 : Int32) (σ : jw_M) : Option (Int32 × jw_M) := bif jx_in x2 8 then bif jx_in ((8 + (8 * x1)) + x2) 56 then (f_M_of N x1 0 (jx_w σ 10 (x2).toNatClampNeg ((σ.1 10 (x2).toNatClampNeg) + 1))).bind fun z3 => (f_M_of N x1 1 z3.2).bind fun z5 => (f_M_paceBy N (z3.1) (z5.1) (z5.2.1 1 0) z5.2).bind fun z7 => (f_M_lessonNumber N x2 0 (jx_w z7.2 1 (((8 + (8 * x1)) + x2)).toNatClampNeg (((jx_w σ 10 (x2).toNatClampNeg ((σ.1 10 (x2).toNatClampNeg) + 1)).1 1 (((8 + (8 * x1)) + x2)).toNatClampNeg) + z7.1))).bind fun z9 => if z9.1 ≤ ((jx_w z7.2 1 (((8 + (8 * x1)) + x2)).toNatClampNeg (((jx_w σ 10 (x2).toNatClampNeg ((σ.1 10 (x2).toNatClampNeg) + 1)).1 1 (((8 + (8 * x1)) + x2)).toNatClampNeg) + z7.1)).1 1 (((8 + (8 * x1)) + x2)).toNatClampNeg) then bif jx_in (2 + x1) 56 then (f_M_lessonNumber N x2 0 (jx_w z9.2 1 ((2 + x1)).toNatClampNeg ((z9.2.1 1 ((2 + x1)).toNatClampNeg) ||| ((1 : Int32) <<< (x2 &&& 31))))).bind fun z13 => some (z13.1, z13.2) else none else some (0, z9.2) else none else none
/-! ShadowSchoolModel.goes(I)I -/
def f_M_goes_56 (N : Nat) (K8 : Int32 → Int32 → Int32 → jw_M → Option (Int32 × jw_M)) (x1 : Int32) (x3 : Int32) (y0 : Int32) (y1 : Int32) (σ : jw_M) : Option (Int32 × jw_M) := K8 x1 (y0 + y1) (x3 + 1) σ
def f_M_goes_35 (N : Nat) (K8 : Int32 → Int32 → Int32 → jw_M → Option (Int32 × jw_M)) (x1 : Int32) (x2 : Int32) (x3 : Int32) (y0 : Int32) (σ : jw_M) : Option (Int32 × jw_M) := if y0 = 8 then f_M_goes_56 N K8 x1 x3 x2 0 σ else (f_M_sits N x3 y0 σ).bind fun z6 => f_M_goes_56 N K8 x1 x3 x2 (z6.1) z6.2
def f_M_goes_8 (N : Nat) : Nat → Int32 → Int32 → Int32 → jw_M → Option (Int32 × jw_M)
  | 0, _, _, _, _ => none
  | k + 1, x1, x2, x3, σ => if (σ.1 3 2) ≤ x3 then some (x2, (jx_w (jx_w σ 1 0 ((σ.1 1 0) + 1)) 1 1 (((jx_w σ 1 0 ((σ.1 1 0) + 1)).1 1 1) + x2))) else if (x3 + 1) = x1 then f_M_goes_35 N (f_M_goes_8 N k) x1 x2 x3 8 σ else (f_M_choiceOf N x3 σ).bind fun z8 => f_M_goes_35 N (f_M_goes_8 N k) x1 x2 x3 (z8.1) z8.2
def f_M_goes (N : Nat) (x1 : Int32) (σ : jw_M) : Option (Int32 × jw_M) := (f_M_emptySeats N  σ).bind fun z1 => f_M_goes_8 N N x1 0 0 z1
/-! ShadowSchoolModel.hour()I -/
def f_M_hour (N : Nat) (σ : jw_M) : Option (Int32 × jw_M) := (f_M_isOver N  σ).bind fun z1 => if z1.1 = 0 then (f_M_goes N 0 z1.2).bind fun z4 => some (z4.1, z4.2) else some ((-4), z1.2)
/-! ShadowSchoolModel.learnt(I)I -/
def f_M_learnt (N : Nat) (x1 : Int32) (σ : jw_M) : Option (Int32 × jw_M) := (f_M_isShadow N x1 σ).bind fun z1 => if z1.1 = 0 then some ((-1), z1.2) else bif jx_in (2 + x1) 56 then some ((z1.2.1 1 ((2 + x1)).toNatClampNeg), z1.2) else none
/-! ShadowSchoolModel.rest(I)I -/
def f_M_rest_4 (N : Nat) : Nat → Int32 → Int32 → Int32 → jw_M → Option (Int32 × jw_M)
  | 0, _, _, _, _ => none
  | k + 1, x1, x2, x3, σ => if x1 ≤ x3 then some (x2, σ) else (f_M_isOver N  σ).bind fun z2 => if z2.1 = 0 then (f_M_goes N 0 z2.2).bind fun z5 => f_M_rest_4 N k x1 (x2 + z5.1) (x3 + 1) z5.2 else some (x2, z2.2)
def f_M_rest (N : Nat) (x1 : Int32) (σ : jw_M) : Option (Int32 × jw_M) := f_M_rest_4 N N x1 0 0 σ
/-! ShadowSchoolModel.restWorth(I)I -/
def f_M_restWorth (N : Nat) (x1 : Int32) (σ : jw_M) : Option (Int32 × jw_M) := (f_M_save N 0 σ).bind fun z1 => (f_M_rest N x1 z1).bind fun z3 => (f_M_load N 0 z3.2).bind fun z5 => some (z3.1, z5)
/-! ShadowSchoolModel.on(I)I -/
def f_M_on (N : Nat) (x1 : Int32) (σ : jw_M) : Option (Int32 × jw_M) := (f_M_in N x1 0 16 σ).bind fun z1 => if z1.1 = 0 then some ((-1), z1.2) else (f_M_restWorth N x1 z1.2).bind fun z4 => some (z4.1, z4.2)
/-! ShadowSchoolModel.when(II)I -/
def f_M_when_82 (N : Nat) (y0 : Int32) (σ : jw_M) : Option (Int32 × jw_M) := (f_M_load N 0 σ).bind fun z23 => some (y0, z23)
def f_M_when_60 (N : Nat) (x1 : Int32) (x2 : Int32) (σ : jw_M) : Option (Int32 × jw_M) := (f_M_hasLearnt N x1 x2 σ).bind fun z20 => if z20.1 = 0 then f_M_when_82 N (-3) z20.2 else f_M_when_82 N ((z20.2.1 1 0) - 1) z20.2
def f_M_when_35 (N : Nat) : Nat → Int32 → Int32 → jw_M → Option (Int32 × jw_M)
  | 0, _, _, _ => none
  | k + 1, x1, x2, σ => (f_M_isOver N  σ).bind fun z12 => if z12.1 = 0 then (f_M_hasLearnt N x1 x2 z12.2).bind fun z15 => if z15.1 = 0 then (f_M_goes N 0 z15.2).bind fun z18 => f_M_when_35 N k x1 x2 z18.2 else f_M_when_60 N x1 x2 z15.2 else f_M_when_60 N x1 x2 z12.2
def f_M_when (N : Nat) (x1 : Int32) (x2 : Int32) (σ : jw_M) : Option (Int32 × jw_M) := (f_M_isShadow N x1 σ).bind fun z1 => if z1.1 = 0 then some ((-1), z1.2) else (f_M_isLesson N x2 z1.2).bind fun z4 => if z4.1 = 0 then some ((-1), z4.2) else (f_M_hasLearnt N x1 x2 z4.2).bind fun z7 => if z7.1 = 0 then (f_M_save N 0 z7.2).bind fun z10 => f_M_when_35 N N x1 x2 z10 else some ((-3), z7.2)
/-! ShadowSchoolModel.allLessons()I -/
def f_M_allLessons (N : Nat) (σ : jw_M) : Option (Int32 × jw_M) := some ((((1 : Int32) <<< ((σ.1 3 3) &&& 31)) - 1), σ)
/-! ShadowSchoolModel.letGo()I -/
def f_M_letGo_49 (N : Nat) (K16 : Int32 → Int32 → jw_M → Option (Int32 × jw_M)) (x3 : Int32) (y0 : Int32) (y1 : Int32) (σ : jw_M) : Option (Int32 × jw_M) := K16 (y0 ||| y1) (x3 + 1) σ
def f_M_letGo_16 (N : Nat) : Nat → Int32 → Int32 → jw_M → Option (Int32 × jw_M)
  | 0, _, _, _ => none
  | k + 1, x2, x3, σ => if (σ.1 3 2) ≤ x3 then (f_M_load N 0 σ).bind fun z6 => some (x2, z6) else bif jx_in (2 + x3) 56 then (f_M_allLessons N  σ).bind fun z9 => if (σ.1 1 ((2 + x3)).toNatClampNeg) = z9.1 then f_M_letGo_49 N (f_M_letGo_16 N k) x3 x2 ((1 : Int32) <<< (x3 &&& 31)) z9.2 else f_M_letGo_49 N (f_M_letGo_16 N k) x3 x2 0 z9.2 else none
def f_M_letGo (N : Nat) (σ : jw_M) : Option (Int32 × jw_M) := (f_M_save N 0 σ).bind fun z1 => (f_M_rest N 16 z1).bind fun z3 => f_M_letGo_16 N N 0 0 z3.2
/-! ShadowSchoolModel.crowd(I)I -/
def f_M_crowd_88 (N : Nat) (K29 : Int32 → Int32 → Int32 → jw_M → Option (Int32 × jw_M)) (x1 : Int32) (x2 : Int32) (y0 : Int32) (σ : jw_M) : Option (Int32 × jw_M) := K29 x1 x2 y0 σ
def f_M_crowd_67 (N : Nat) (K29 : Int32 → Int32 → Int32 → jw_M → Option (Int32 × jw_M)) (x1 : Int32) (x3 : Int32) (y0 : Int32) (σ : jw_M) : Option (Int32 × jw_M) := bif jx_in x1 8 then if (σ.1 10 (x1).toNatClampNeg) ≤ x3 then f_M_crowd_88 N K29 x1 y0 x3 σ else f_M_crowd_88 N K29 x1 y0 (σ.1 10 (x1).toNatClampNeg) σ else none
def f_M_crowd_29 (N : Nat) : Nat → Int32 → Int32 → Int32 → jw_M → Option (Int32 × jw_M)
  | 0, _, _, _, _ => none
  | k + 1, x1, x2, x3, σ => (f_M_isOver N  σ).bind fun z9 => if z9.1 = 0 then (f_M_goes N 0 z9.2).bind fun z12 => bif jx_in x1 8 then if (z12.2.1 10 (x1).toNatClampNeg) ≤ x3 then f_M_crowd_67 N (f_M_crowd_29 N k) x1 x3 x2 z12.2 else f_M_crowd_67 N (f_M_crowd_29 N k) x1 x3 (z9.2.1 1 0) z12.2 else none else (f_M_load N 0 z9.2).bind fun z18 => some (x2, z18)
def f_M_crowd (N : Nat) (x1 : Int32) (σ : jw_M) : Option (Int32 × jw_M) := (f_M_isLesson N x1 σ).bind fun z1 => if z1.1 = 0 then some ((-1), z1.2) else (f_M_isOver N  z1.2).bind fun z4 => if z4.1 = 0 then (f_M_save N 0 z4.2).bind fun z7 => f_M_crowd_29 N N x1 (-1) (-1) z7 else some ((-3), z4.2)
/-! ShadowSchoolModel.dearest(II)I -/
def f_M_dearest_68 (N : Nat) (K16 : Int32 → Int32 → Int32 → Int32 → Int32 → Int32 → jw_M → Option (Int32 × jw_M)) (x1 : Int32) (x2 : Int32) (x3 : Int32) (x4 : Int32) (x6 : Int32) (y0 : Int32) (σ : jw_M) : Option (Int32 × jw_M) := K16 x1 x2 x3 x4 y0 (x6 + 1) σ
def f_M_dearest_52 (N : Nat) (K16 : Int32 → Int32 → Int32 → Int32 → Int32 → Int32 → jw_M → Option (Int32 × jw_M)) (x1 : Int32) (x2 : Int32) (x3 : Int32) (x5 : Int32) (x6 : Int32) (x7 : Int32) (y0 : Int32) (σ : jw_M) : Option (Int32 × jw_M) := if x7 ≤ x5 then f_M_dearest_68 N K16 x1 x2 x3 y0 x6 x5 σ else f_M_dearest_68 N K16 x1 x2 x3 y0 x6 x7 σ
def f_M_dearest_16 (N : Nat) : Nat → Int32 → Int32 → Int32 → Int32 → Int32 → Int32 → jw_M → Option (Int32 × jw_M)
  | 0, _, _, _, _, _, _, _ => none
  | k + 1, x1, x2, x3, x4, x5, x6, σ => if x2 < x6 then bif jx_in x1 526 then some (x4, (jx_w σ 3 (x1).toNatClampNeg x3)) else none else bif jx_in x1 526 then (f_M_restWorth N 16 (jx_w σ 3 (x1).toNatClampNeg x6)).bind fun z5 => if z5.1 ≤ x5 then f_M_dearest_52 N (f_M_dearest_16 N k) x1 x2 x3 x5 x6 (z5.1) x4 z5.2 else f_M_dearest_52 N (f_M_dearest_16 N k) x1 x2 x3 x5 x6 (z5.1) x6 z5.2 else none
def f_M_dearest (N : Nat) (x1 : Int32) (x2 : Int32) (σ : jw_M) : Option (Int32 × jw_M) := bif jx_in x1 526 then f_M_dearest_16 N N x1 x2 (σ.1 3 (x1).toNatClampNeg) 0 (-1) 1 σ else none
/-! ShadowSchoolModel.quickFor(I)I -/
def f_M_quickFor (N : Nat) (x1 : Int32) (σ : jw_M) : Option (Int32 × jw_M) := (f_M_isShadow N x1 σ).bind fun z1 => if z1.1 = 0 then some ((-1), z1.2) else (f_M_dearest N ((6 + (3 * x1)) + 1) 9 z1.2).bind fun z4 => some (z4.1, z4.2)
/-! ShadowSchoolModel.roomFor(I)I -/
def f_M_roomFor (N : Nat) (x1 : Int32) (σ : jw_M) : Option (Int32 × jw_M) := (f_M_isLesson N x1 σ).bind fun z1 => if z1.1 = 0 then some ((-1), z1.2) else (f_M_dearest N ((24 + (5 * x1)) + 4) 6 z1.2).bind fun z4 => some (z4.1, z4.2)
/-! ShadowSchoolModel.letGoBy(I)I -/
def f_M_letGoBy_67 (N : Nat) (K34 : Int32 → Int32 → Int32 → Int32 → Int32 → jw_M → Option (Int32 × jw_M)) (x1 : Int32) (x2 : Int32) (x3 : Int32) (x5 : Int32) (y0 : Int32) (σ : jw_M) : Option (Int32 × jw_M) := K34 x1 x2 x3 y0 (x5 + (-1)) σ
def f_M_letGoBy_34 (N : Nat) : Nat → Int32 → Int32 → Int32 → Int32 → Int32 → jw_M → Option (Int32 × jw_M)
  | 0, _, _, _, _, _, _ => none
  | k + 1, x1, x2, x3, x4, x5, σ => if x5 < 1 then bif jx_in x2 526 then some (x4, (jx_w σ 3 (x2).toNatClampNeg x3)) else none else bif jx_in x2 526 then (f_M_letGo N  (jx_w σ 3 (x2).toNatClampNeg x5)).bind fun z8 => if ((z8.1 >>> (x1 &&& 31)) &&& 1) = 1 then f_M_letGoBy_67 N (f_M_letGoBy_34 N k) x1 x2 x3 x5 x5 z8.2 else f_M_letGoBy_67 N (f_M_letGoBy_34 N k) x1 x2 x3 x5 x4 z8.2 else none
def f_M_letGoBy (N : Nat) (x1 : Int32) (σ : jw_M) : Option (Int32 × jw_M) := (f_M_isShadow N x1 σ).bind fun z1 => if z1.1 = 0 then some ((-1), z1.2) else bif jx_in ((6 + (3 * x1)) + 1) 526 then f_M_letGoBy_34 N N x1 ((6 + (3 * x1)) + 1) (z1.2.1 3 (((6 + (3 * x1)) + 1)).toNatClampNeg) (-3) 9 z1.2 else none
/-! ShadowSchoolModel.quarrel(III)I -/
def f_M_quarrel (N : Nat) (x1 : Int32) (x2 : Int32) (x3 : Int32) (σ : jw_M) : Option (Int32 × jw_M) := (f_M_isShadow N x1 σ).bind fun z1 => if z1.1 = 0 then some ((-1), z1.2) else (f_M_isShadow N x2 z1.2).bind fun z4 => if z4.1 = 0 then some ((-1), z4.2) else if x1 = x2 then some ((-1), z4.2) else (f_M_in N x3 0 1 z4.2).bind fun z8 => if z8.1 = 0 then some ((-1), z8.2) else bif jx_in (64 + x1) 526 then bif jx_in (64 + x2) 526 then some ((((z8.2.1 3 ((64 + x1)).toNatClampNeg) >>> (x2 &&& 31)) &&& 1), (jx_w (jx_w z8.2 3 ((64 + x1)).toNatClampNeg (((z8.2.1 3 ((64 + x1)).toNatClampNeg) &&& (((1 : Int32) <<< (x2 &&& 31)) ^^^ (-1))) ||| (x3 <<< (x2 &&& 31)))) 3 ((64 + x2)).toNatClampNeg ((((jx_w z8.2 3 ((64 + x1)).toNatClampNeg (((z8.2.1 3 ((64 + x1)).toNatClampNeg) &&& (((1 : Int32) <<< (x2 &&& 31)) ^^^ (-1))) ||| (x3 <<< (x2 &&& 31)))).1 3 ((64 + x2)).toNatClampNeg) &&& (((1 : Int32) <<< (x1 &&& 31)) ^^^ (-1))) ||| (x3 <<< (x1 &&& 31))))) else none else none
/-! ShadowSchoolModel.quarrels(I)I -/
def f_M_quarrels (N : Nat) (x1 : Int32) (σ : jw_M) : Option (Int32 × jw_M) := (f_M_isShadow N x1 σ).bind fun z1 => if z1.1 = 0 then some ((-1), z1.2) else bif jx_in (64 + x1) 526 then some ((z1.2.1 3 ((64 + x1)).toNatClampNeg), z1.2) else none
/-! ShadowSchoolModel.isSeating()Z -/
def f_M_isSeating_61 (N : Nat) (K4 : Int32 → Int32 → jw_M → Option (Int32 × jw_M)) (K16 : Int32 → Int32 → Int32 → jw_M → Option (Int32 × jw_M)) (x2 : Int32) (x3 : Int32) (y0 : Int32) (σ : jw_M) : Option (Int32 × jw_M) := K16 y0 x2 (x3 + 1) σ
def f_M_isSeating_60 (N : Nat) (K4 : Int32 → Int32 → jw_M → Option (Int32 × jw_M)) (K16 : Int32 → Int32 → Int32 → jw_M → Option (Int32 × jw_M)) (x2 : Int32) (x3 : Int32) (σ : jw_M) : Option (Int32 × jw_M) := f_M_isSeating_61 N K4 K16 x2 x3 0 σ
def f_M_isSeating_56 (N : Nat) (K4 : Int32 → Int32 → jw_M → Option (Int32 × jw_M)) (K16 : Int32 → Int32 → Int32 → jw_M → Option (Int32 × jw_M)) (x2 : Int32) (x3 : Int32) (σ : jw_M) : Option (Int32 × jw_M) := f_M_isSeating_61 N K4 K16 x2 x3 1 σ
def f_M_isSeating_16 (N : Nat) (K4 : Int32 → Int32 → jw_M → Option (Int32 × jw_M)) : Nat → Int32 → Int32 → Int32 → jw_M → Option (Int32 × jw_M)
  | 0, _, _, _, _ => none
  | k + 1, x1, x2, x3, σ => if x2 ≤ x3 then K4 x1 (x2 + 1) σ else if x1 = 0 then f_M_isSeating_60 N K4 (f_M_isSeating_16 N K4 k) x2 x3 σ else bif jx_in x2 6 then bif jx_in x3 6 then if (σ.1 11 (x2).toNatClampNeg) = (σ.1 11 (x3).toNatClampNeg) then bif jx_in (64 + x2) 526 then if (((σ.1 3 ((64 + x2)).toNatClampNeg) >>> (x3 &&& 31)) &&& 1) = 0 then f_M_isSeating_56 N K4 (f_M_isSeating_16 N K4 k) x2 x3 σ else f_M_isSeating_60 N K4 (f_M_isSeating_16 N K4 k) x2 x3 σ else none else f_M_isSeating_56 N K4 (f_M_isSeating_16 N K4 k) x2 x3 σ else none else none
def f_M_isSeating_4 (N : Nat) : Nat → Int32 → Int32 → jw_M → Option (Int32 × jw_M)
  | 0, _, _, _ => none
  | k + 1, x1, x2, σ => if (σ.1 3 2) ≤ x2 then if x1 = 0 ∨ x1 = 1 then some (x1, σ) else none else f_M_isSeating_16 N (f_M_isSeating_4 N k) N x1 x2 0 σ
def f_M_isSeating (N : Nat) (σ : jw_M) : Option (Int32 × jw_M) := f_M_isSeating_4 N N 1 0 σ
/-! ShadowSchoolModel.isNextWay(I)Z -/
def f_M_isNextWay_52 (N : Nat) (x2 : Int32) (σ : jw_M) : Option (Int32 × jw_M) := if x2 < 0 then some (0, σ) else some (1, σ)
def f_M_isNextWay_38 (N : Nat) (x2 : Int32) (σ : jw_M) : Option (Int32 × jw_M) := if x2 < 0 then f_M_isNextWay_52 N x2 σ else bif jx_in x2 6 then f_M_isNextWay_52 N x2 (jx_w σ 11 (x2).toNatClampNeg ((σ.1 11 (x2).toNatClampNeg) + 1)) else none
def f_M_isNextWay_9 (N : Nat) : Nat → Int32 → Int32 → jw_M → Option (Int32 × jw_M)
  | 0, _, _, _ => none
  | k + 1, x1, x2, σ => if x2 < 0 then f_M_isNextWay_38 N x2 σ else bif jx_in x2 6 then if (σ.1 11 (x2).toNatClampNeg) = (x1 - 1) then f_M_isNextWay_9 N k x1 (x2 + (-1)) (jx_w σ 11 (x2).toNatClampNeg (0 : Int32)) else f_M_isNextWay_38 N x2 σ else none
def f_M_isNextWay (N : Nat) (x1 : Int32) (σ : jw_M) : Option (Int32 × jw_M) := f_M_isNextWay_9 N N x1 ((σ.1 3 2) - 1) σ
/-! ShadowSchoolModel.allInFirst()V -/
def f_M_allInFirst_2 (N : Nat) : Nat → Int32 → jw_M → Option jw_M
  | 0, _, _ => none
  | k + 1, x1, σ => if 6 ≤ x1 then some σ else bif jx_in x1 6 then f_M_allInFirst_2 N k (x1 + 1) (jx_w σ 11 (x1).toNatClampNeg (0 : Int32)) else none
def f_M_allInFirst (N : Nat) (σ : jw_M) : Option jw_M := f_M_allInFirst_2 N N 0 σ
/-! ShadowSchoolModel.isFirstSeating(I)Z -/
def f_M_isFirstSeating_4 (N : Nat) : Nat → Int32 → jw_M → Option (Int32 × jw_M)
  | 0, _, _ => none
  | k + 1, x1, σ => (f_M_isSeating N  σ).bind fun z3 => if z3.1 = 0 then (f_M_isNextWay N x1 z3.2).bind fun z6 => if z6.1 = 0 then some (0, z6.2) else f_M_isFirstSeating_4 N k x1 z6.2 else some (1, z3.2)
def f_M_isFirstSeating (N : Nat) (x1 : Int32) (σ : jw_M) : Option (Int32 × jw_M) := (f_M_allInFirst N  σ).bind fun z1 => f_M_isFirstSeating_4 N N x1 z1
/-! ShadowSchoolModel.rooms()I -/
def f_M_rooms_13 (N : Nat) : Nat → Int32 → jw_M → Option (Int32 × jw_M)
  | 0, _, _ => none
  | k + 1, x1, σ => (f_M_isFirstSeating N x1 σ).bind fun z2 => if z2.1 = 0 then f_M_rooms_13 N k (x1 + 1) z2.2 else some (x1, z2.2)
def f_M_rooms (N : Nat) (σ : jw_M) : Option (Int32 × jw_M) := if (σ.1 3 2) = 0 then some (0, σ) else f_M_rooms_13 N N 1 σ
/-! ShadowSchoolModel.seat(I)I -/
def f_M_seat (N : Nat) (x1 : Int32) (σ : jw_M) : Option (Int32 × jw_M) := (f_M_isShadow N x1 σ).bind fun z1 => if z1.1 = 0 then some ((-1), z1.2) else (f_M_rooms N  z1.2).bind fun z4 => bif jx_in x1 6 then some ((z4.2.1 11 (x1).toNatClampNeg), z4.2) else none
/-! ShadowSchoolModel.seatings(I)I -/
def f_M_seatings_36 (N : Nat) (K19 : Int32 → Int32 → Int32 → jw_M → Option (Int32 × jw_M)) (x1 : Int32) (y0 : Int32) (y1 : Int32) (σ : jw_M) : Option (Int32 × jw_M) := (f_M_isNextWay N x1 σ).bind fun z10 => K19 x1 (y0 + y1) (z10.1) z10.2
def f_M_seatings_19 (N : Nat) : Nat → Int32 → Int32 → Int32 → jw_M → Option (Int32 × jw_M)
  | 0, _, _, _, _ => none
  | k + 1, x1, x2, x3, σ => if x3 = 0 then some (x2, σ) else (f_M_isSeating N  σ).bind fun z7 => if z7.1 = 0 then f_M_seatings_36 N (f_M_seatings_19 N k) x1 x2 0 z7.2 else f_M_seatings_36 N (f_M_seatings_19 N k) x1 x2 1 z7.2
def f_M_seatings (N : Nat) (x1 : Int32) (σ : jw_M) : Option (Int32 × jw_M) := (f_M_in N x1 1 4 σ).bind fun z1 => if z1.1 = 0 then some ((-1), z1.2) else (f_M_allInFirst N  z1.2).bind fun z4 => f_M_seatings_19 N N x1 0 1 z4
/-! ShadowSchoolModel.isSheet(I)Z -/
def f_M_isSheet (N : Nat) (x0 : Int32) (σ : jw_M) : Option (Int32 × jw_M) := (f_M_in N x0 0 3 σ).bind fun z1 => if z1.1 = 0 ∨ z1.1 = 1 then some (z1.1, z1.2) else none
/-! ShadowSchoolModel.lacksSort(II)I -/
def f_M_lacksSort (N : Nat) (x1 : Int32) (x2 : Int32) (σ : jw_M) : Option (Int32 × jw_M) := bif jx_in x1 4 then if 0 ≤ (σ.1 14 (x1).toNatClampNeg) then if (σ.1 14 (x1).toNatClampNeg) = x2 then some (0, σ) else some ((-13), σ) else some ((-11), σ) else none
/-! ShadowSchoolModel.match(III)I -/
def f_M_match_227 (N : Nat) (K103 : Int32 → Int32 → Int32 → Int32 → Int32 → jw_M → Option (Int32 × jw_M)) (K135 : Int32 → Int32 → Int32 → Int32 → Int32 → Int32 → Int32 → jw_M → Option (Int32 × jw_M)) (x1 : Int32) (x2 : Int32) (x3 : Int32) (x5 : Int32) (x6 : Int32) (x7 : Int32) (x8 : Int32) (y1 : Int32) (y2 : Int32) (y3 : Int32) (σ : jw_M) : Option (Int32 × jw_M) := bif jx_in y1 64 then K135 x1 x2 x3 x5 x6 x7 (x8 + 1) (jx_w σ 12 (y1).toNatClampNeg (y2 + y3)) else none
def f_M_match_194 (N : Nat) (K103 : Int32 → Int32 → Int32 → Int32 → Int32 → jw_M → Option (Int32 × jw_M)) (K135 : Int32 → Int32 → Int32 → Int32 → Int32 → Int32 → Int32 → jw_M → Option (Int32 × jw_M)) (x1 : Int32) (x2 : Int32) (x3 : Int32) (x5 : Int32) (x6 : Int32) (x7 : Int32) (x8 : Int32) (y0 : Int32) (σ : jw_M) : Option (Int32 × jw_M) := bif jx_in x6 64 then if y0 = 0 then f_M_match_227 N K103 K135 x1 x2 x3 x5 x6 x7 x8 x6 (σ.1 12 (x6).toNatClampNeg) 0 σ else bif jx_in (x6 &&& (((1 : Int32) <<< (x8 &&& 31)) ^^^ (-1))) 64 then f_M_match_227 N K103 K135 x1 x2 x3 x5 x6 x7 x8 x6 (σ.1 12 (x6).toNatClampNeg) (σ.1 12 ((x6 &&& (((1 : Int32) <<< (x8 &&& 31)) ^^^ (-1)))).toNatClampNeg) σ else none else none
def f_M_match_193 (N : Nat) (K103 : Int32 → Int32 → Int32 → Int32 → Int32 → jw_M → Option (Int32 × jw_M)) (K135 : Int32 → Int32 → Int32 → Int32 → Int32 → Int32 → Int32 → jw_M → Option (Int32 × jw_M)) (x1 : Int32) (x2 : Int32) (x3 : Int32) (x5 : Int32) (x6 : Int32) (x7 : Int32) (x8 : Int32) (σ : jw_M) : Option (Int32 × jw_M) := f_M_match_194 N K103 K135 x1 x2 x3 x5 x6 x7 x8 0 σ
def f_M_match_135 (N : Nat) (K103 : Int32 → Int32 → Int32 → Int32 → Int32 → jw_M → Option (Int32 × jw_M)) : Nat → Int32 → Int32 → Int32 → Int32 → Int32 → Int32 → Int32 → jw_M → Option (Int32 × jw_M)
  | 0, _, _, _, _, _, _, _, _ => none
  | k + 1, x1, x2, x3, x5, x6, x7, x8, σ => if (σ.1 3 2) ≤ x8 then K103 x1 x2 x3 x5 (x6 + 1) σ else if ((x6 >>> (x8 &&& 31)) &&& 1) = 1 then (f_M_of N x8 0 σ).bind fun z21 => (f_M_of N x8 2 z21.2).bind fun z23 => (f_M_lengthBy N (z21.1) (z23.1) (z23.2.1 1 0) z23.2).bind fun z25 => (f_M_far N x7 (z25.1) z25.2).bind fun z27 => if x3 < z27.1 then f_M_match_193 N K103 (f_M_match_135 N K103 k) x1 x2 x3 x5 x6 x7 x8 z27.2 else f_M_match_194 N K103 (f_M_match_135 N K103 k) x1 x2 x3 x5 x6 x7 x8 1 z27.2 else f_M_match_193 N K103 (f_M_match_135 N K103 k) x1 x2 x3 x5 x6 x7 x8 σ
def f_M_match_103 (N : Nat) : Nat → Int32 → Int32 → Int32 → Int32 → Int32 → jw_M → Option (Int32 × jw_M)
  | 0, _, _, _, _, _, _ => none
  | k + 1, x1, x2, x3, x5, x6, σ => if x5 ≤ x6 then bif jx_in (x5 - 1) 64 then some ((σ.1 12 ((x5 - 1)).toNatClampNeg), σ) else none else (f_M_ones N x6 σ).bind fun z16 => bif jx_in ((((40 * x1) + x2) + z16.1) - 1) 160 then f_M_match_135 N (f_M_match_103 N k) N x1 x2 x3 x5 x6 ((z16.2.2 16 (((((40 * x1) + x2) + z16.1) - 1)).toNatClampNeg)).toInt32 0 z16.2 else none
def f_M_match_72 (N : Nat) : Nat → Int32 → Int32 → Int32 → Int32 → Int32 → jw_M → Option (Int32 × jw_M)
  | 0, _, _, _, _, _, _ => none
  | k + 1, x1, x2, x3, x5, x6, σ => if x5 ≤ x6 then f_M_match_103 N N x1 x2 x3 x5 1 (jx_w σ 12 0 (1 : Int32)) else bif jx_in x6 64 then f_M_match_72 N k x1 x2 x3 x5 (x6 + 1) (jx_w σ 12 (x6).toNatClampNeg (0 : Int32)) else none
def f_M_match (N : Nat) (x1 : Int32) (x2 : Int32) (x3 : Int32) (σ : jw_M) : Option (Int32 × jw_M) := (f_M_isSheet N x1 σ).bind fun z1 => if z1.1 = 0 then some ((-1), z1.2) else (f_M_in N x3 0 99 z1.2).bind fun z4 => if z4.1 = 0 then some ((-1), z4.2) else (f_M_lacksSort N x1 0 z4.2).bind fun z7 => if z7.1 = 0 then if x2 < 0 then some ((-12), z7.2) else bif jx_in x1 4 then if x2 ≤ ((z7.2.1 15 (x1).toNatClampNeg) - (z7.2.1 3 2)) then f_M_match_72 N N x1 x2 x3 ((1 : Int32) <<< ((z7.2.1 3 2) &&& 31)) 1 z7.2 else some ((-12), z7.2) else none else some (z7.1, z7.2)
/-! ShadowSchoolModel.planHours(I)I -/
def f_M_planHours (N : Nat) (x1 : Int32) (σ : jw_M) : Option (Int32 × jw_M) := if x1 ≤ ((σ.1 3 0) - (σ.1 1 0)) then some (x1, σ) else if 0 ≤ ((σ.1 3 0) - (σ.1 1 0)) then some (((σ.1 3 0) - (σ.1 1 0)), σ) else some (0, σ)
/-! ShadowSchoolModel.plans(I)I -/
def f_M_plans_4 (N : Nat) : Nat → Int32 → Int32 → Int32 → jw_M → Option (Int32 × jw_M)
  | 0, _, _, _, _ => none
  | k + 1, x1, x2, x3, σ => if x1 ≤ x3 then some (x2, σ) else f_M_plans_4 N k x1 (x2 * ((σ.1 3 2) + 1)) (x3 + 1) σ
def f_M_plans (N : Nat) (x1 : Int32) (σ : jw_M) : Option (Int32 × jw_M) := f_M_plans_4 N N x1 1 0 σ
/-! ShadowSchoolModel.actIn(III)I -/
def f_M_actIn_8 (N : Nat) : Nat → Int32 → Int32 → Int32 → jw_M → Option (Int32 × jw_M)
  | 0, _, _, _, _ => none
  | k + 1, x3, x4, x5, σ => if x5 ≤ x3 then if ((σ.1 3 2) + 1) = 0 then none else some ((x4 - x4 / ((σ.1 3 2) + 1) * ((σ.1 3 2) + 1)), σ) else if ((σ.1 3 2) + 1) = 0 then none else f_M_actIn_8 N k x3 (x4 / ((σ.1 3 2) + 1)) (x5 + (-1)) σ
def f_M_actIn (N : Nat) (x1 : Int32) (x2 : Int32) (x3 : Int32) (σ : jw_M) : Option (Int32 × jw_M) := f_M_actIn_8 N N x3 x1 (x2 - 1) σ
/-! ShadowSchoolModel.plays(II)I -/
def f_M_plays_5 (N : Nat) : Nat → Int32 → Int32 → Int32 → Int32 → jw_M → Option (Int32 × jw_M)
  | 0, _, _, _, _, _ => none
  | k + 1, x1, x2, x3, x4, σ => if x2 ≤ x4 then some (x3, σ) else (f_M_actIn N x1 x2 x4 σ).bind fun z2 => (f_M_goes N (z2.1) z2.2).bind fun z4 => f_M_plays_5 N k x1 x2 (x3 + z4.1) (x4 + 1) z4.2
def f_M_plays (N : Nat) (x1 : Int32) (x2 : Int32) (σ : jw_M) : Option (Int32 × jw_M) := f_M_plays_5 N N x1 x2 0 0 σ
/-! ShadowSchoolModel.findBest(I)V -/
def f_M_findBest_84 (N : Nat) (K22 : Int32 → Int32 → jw_M → Option jw_M) (x1 : Int32) (x2 : Int32) (y1 : Int32) (y2 : Int32) (σ : jw_M) : Option jw_M := K22 x1 (x2 + 1) (jx_w σ 0 24 (y1 + y2))
def f_M_findBest_66 (N : Nat) (K22 : Int32 → Int32 → jw_M → Option jw_M) (x1 : Int32) (x2 : Int32) (x3 : Int32) (σ : jw_M) : Option jw_M := if x3 = (σ.1 0 22) then f_M_findBest_84 N K22 x1 x2 (σ.1 0 24) 1 σ else f_M_findBest_84 N K22 x1 x2 (σ.1 0 24) 0 σ
def f_M_findBest_22 (N : Nat) : Nat → Int32 → Int32 → jw_M → Option jw_M
  | 0, _, _, _ => none
  | k + 1, x1, x2, σ => (f_M_plans N x1 σ).bind fun z3 => if z3.1 ≤ x2 then some z3.2 else (f_M_plays N x2 x1 z3.2).bind fun z6 => (f_M_load N 0 z6.2).bind fun z8 => if z6.1 ≤ (z8.1 0 22) then f_M_findBest_66 N (f_M_findBest_22 N k) x1 x2 (z6.1) z8 else f_M_findBest_66 N (f_M_findBest_22 N k) x1 x2 (z6.1) (jx_w (jx_w (jx_w z8 0 22 z6.1) 0 23 x2) 0 24 (0 : Int32))
def f_M_findBest (N : Nat) (x1 : Int32) (σ : jw_M) : Option jw_M := (f_M_save N 0 (jx_w (jx_w (jx_w σ 0 22 ((-1) : Int32)) 0 23 (0 : Int32)) 0 24 (0 : Int32))).bind fun z1 => f_M_findBest_22 N N x1 0 z1
/-! ShadowSchoolModel.best(I)I -/
def f_M_best (N : Nat) (x1 : Int32) (σ : jw_M) : Option (Int32 × jw_M) := (f_M_in N x1 0 4 σ).bind fun z1 => if z1.1 = 0 then some ((-1), z1.2) else (f_M_planHours N x1 z1.2).bind fun z4 => (f_M_findBest N (z4.1) z4.2).bind fun z6 => some ((z6.1 0 22), z6)
/-! ShadowSchoolModel.ith(II)I -/
def f_M_ith (N : Nat) (x1 : Int32) (x2 : Int32) (σ : jw_M) : Option (Int32 × jw_M) := (f_M_in N x1 0 4 σ).bind fun z1 => if z1.1 = 0 then some ((-1), z1.2) else (f_M_in N x2 0 3 z1.2).bind fun z4 => if z4.1 = 0 then some ((-1), z4.2) else (f_M_planHours N x1 z4.2).bind fun z7 => if x2 < z7.1 then (f_M_findBest N (z7.1) z7.2).bind fun z10 => (f_M_actIn N (z10.1 0 23) (z7.1) x2 z10).bind fun z12 => some (z12.1, z12.2) else some ((-3), z7.2)
/-! ShadowSchoolModel.ways(I)I -/
def f_M_ways (N : Nat) (x1 : Int32) (σ : jw_M) : Option (Int32 × jw_M) := (f_M_in N x1 0 4 σ).bind fun z1 => if z1.1 = 0 then some ((-1), z1.2) else (f_M_planHours N x1 z1.2).bind fun z4 => (f_M_findBest N (z4.1) z4.2).bind fun z6 => some ((z6.1 0 24), z6)
/-! ShadowSchoolModel.someLearnt()I -/
def f_M_someLearnt_4 (N : Nat) : Nat → Int32 → Int32 → jw_M → Option (Int32 × jw_M)
  | 0, _, _, _ => none
  | k + 1, x1, x2, σ => if (σ.1 3 2) ≤ x2 then some (x1, σ) else bif jx_in (2 + x2) 56 then f_M_someLearnt_4 N k (x1 ||| (σ.1 1 ((2 + x2)).toNatClampNeg)) (x2 + 1) σ else none
def f_M_someLearnt (N : Nat) (σ : jw_M) : Option (Int32 × jw_M) := f_M_someLearnt_4 N N 0 0 σ
/-! ShadowSchoolModel.actsOf(II)I -/
def f_M_actsOf_28 (N : Nat) (K5 : Int32 → Int32 → Int32 → Int32 → jw_M → Option (Int32 × jw_M)) (x1 : Int32) (x2 : Int32) (x4 : Int32) (y0 : Int32) (y1 : Int32) (σ : jw_M) : Option (Int32 × jw_M) := K5 x1 x2 (y0 + y1) (x4 + 1) σ
def f_M_actsOf_5 (N : Nat) : Nat → Int32 → Int32 → Int32 → Int32 → jw_M → Option (Int32 × jw_M)
  | 0, _, _, _, _, _ => none
  | k + 1, x1, x2, x3, x4, σ => if x2 ≤ x4 then some (x3, σ) else (f_M_actIn N x1 x2 x4 σ).bind fun z2 => if z2.1 ≤ 0 then f_M_actsOf_28 N (f_M_actsOf_5 N k) x1 x2 x4 x3 0 z2.2 else f_M_actsOf_28 N (f_M_actsOf_5 N k) x1 x2 x4 x3 1 z2.2
def f_M_actsOf (N : Nat) (x1 : Int32) (x2 : Int32) (σ : jw_M) : Option (Int32 × jw_M) := f_M_actsOf_5 N N x1 x2 0 0 σ
/-! ShadowSchoolModel.findTaught(II)V -/
def f_M_findTaught_99 (N : Nat) (K18 : Int32 → Int32 → Int32 → jw_M → Option jw_M) (x1 : Int32) (x2 : Int32) (x3 : Int32) (y1 : Int32) (σ : jw_M) : Option jw_M := K18 x1 x2 (x3 + 1) (jx_w σ 0 25 y1)
def f_M_findTaught_90 (N : Nat) (K18 : Int32 → Int32 → Int32 → jw_M → Option jw_M) (x1 : Int32) (x2 : Int32) (x3 : Int32) (x6 : Int32) (σ : jw_M) : Option jw_M := f_M_findTaught_99 N K18 x1 x2 x3 x6 σ
def f_M_findTaught_95 (N : Nat) (K18 : Int32 → Int32 → Int32 → jw_M → Option jw_M) (x1 : Int32) (x2 : Int32) (x3 : Int32) (σ : jw_M) : Option jw_M := f_M_findTaught_99 N K18 x1 x2 x3 (σ.1 0 25) σ
def f_M_findTaught_18 (N : Nat) : Nat → Int32 → Int32 → Int32 → jw_M → Option jw_M
  | 0, _, _, _, _ => none
  | k + 1, x1, x2, x3, σ => (f_M_plans N x1 σ).bind fun z3 => if z3.1 ≤ x3 then some z3.2 else (f_M_plays N x3 x1 z3.2).bind fun z6 => (f_M_someLearnt N  z6.2).bind fun z8 => (f_M_load N 0 z8.2).bind fun z10 => (f_M_actsOf N x3 x1 (jx_w z10 0 26 ((z10.1 0 26) ||| z8.1))).bind fun z12 => if (z8.1 &&& x2) = x2 then if (z12.2.1 0 25) < 0 then f_M_findTaught_90 N (f_M_findTaught_18 N k) x1 x2 x3 (z12.1) z12.2 else if (z12.2.1 0 25) ≤ z12.1 then f_M_findTaught_95 N (f_M_findTaught_18 N k) x1 x2 x3 z12.2 else f_M_findTaught_90 N (f_M_findTaught_18 N k) x1 x2 x3 (z12.1) z12.2 else f_M_findTaught_95 N (f_M_findTaught_18 N k) x1 x2 x3 z12.2
def f_M_findTaught (N : Nat) (x1 : Int32) (x2 : Int32) (σ : jw_M) : Option jw_M := (f_M_save N 0 (jx_w (jx_w σ 0 25 ((-3) : Int32)) 0 26 (0 : Int32))).bind fun z1 => f_M_findTaught_18 N N x1 x2 0 z1
/-! ShadowSchoolModel.taught(II)I -/
def f_M_taught (N : Nat) (x1 : Int32) (x2 : Int32) (σ : jw_M) : Option (Int32 × jw_M) := (f_M_in N x1 0 4 σ).bind fun z1 => if z1.1 = 0 then some ((-1), z1.2) else (f_M_allLessons N  z1.2).bind fun z4 => (f_M_in N x2 0 (z4.1) z4.2).bind fun z6 => if z6.1 = 0 then some ((-1), z6.2) else (f_M_planHours N x1 z6.2).bind fun z9 => (f_M_findTaught N (z9.1) x2 z9.2).bind fun z11 => some ((z11.1 0 25), z11)
/-! ShadowSchoolModel.bars(II)I -/
def f_M_bars_67 (N : Nat) (x4 : Int32) (σ : jw_M) : Option (Int32 × jw_M) := if 8 ≤ x4 then some ((-3), σ) else some (x4, σ)
def f_M_bars_45 (N : Nat) : Nat → Int32 → Int32 → jw_M → Option (Int32 × jw_M)
  | 0, _, _, _ => none
  | k + 1, x3, x4, σ => if 8 ≤ x4 then f_M_bars_67 N x4 σ else if ((x3 >>> (x4 &&& 31)) &&& 1) = 0 then f_M_bars_45 N k x3 (x4 + 1) σ else f_M_bars_67 N x4 σ
def f_M_bars (N : Nat) (x1 : Int32) (x2 : Int32) (σ : jw_M) : Option (Int32 × jw_M) := (f_M_in N x1 0 4 σ).bind fun z1 => if z1.1 = 0 then some ((-1), z1.2) else (f_M_allLessons N  z1.2).bind fun z4 => (f_M_in N x2 0 (z4.1) z4.2).bind fun z6 => if z6.1 = 0 then some ((-1), z6.2) else (f_M_planHours N x1 z6.2).bind fun z9 => (f_M_findTaught N (z9.1) x2 z9.2).bind fun z11 => f_M_bars_45 N N (x2 &&& ((z11.1 0 26) ^^^ (-1))) 0 z11
/-! ShadowSchoolModel.valueOf(IIZ)I -/
def f_M_valueOf_123 (N : Nat) (Rec : Int32 → Int32 → Int32 → jw_M → Option (Int32 × jw_M)) (K20 : Int32 → Int32 → Int32 → Int32 → Int32 → Int32 → jw_M → Option (Int32 × jw_M)) (x1 : Int32) (x2 : Int32) (x3 : Int32) (x4 : Int32) (x6 : Int32) (y0 : Int32) (σ : jw_M) : Option (Int32 × jw_M) := K20 x1 x2 x3 x4 y0 (x6 + 1) σ
def f_M_valueOf_109 (N : Nat) (Rec : Int32 → Int32 → Int32 → jw_M → Option (Int32 × jw_M)) (K20 : Int32 → Int32 → Int32 → Int32 → Int32 → Int32 → jw_M → Option (Int32 × jw_M)) (x1 : Int32) (x2 : Int32) (x3 : Int32) (x5 : Int32) (x6 : Int32) (x7 : Int32) (x8 : Int32) (y0 : Int32) (σ : jw_M) : Option (Int32 × jw_M) := if x8 = 0 then f_M_valueOf_123 N Rec K20 x1 x2 x3 y0 x6 x5 σ else f_M_valueOf_123 N Rec K20 x1 x2 x3 y0 x6 x7 σ
def f_M_valueOf_95 (N : Nat) (Rec : Int32 → Int32 → Int32 → jw_M → Option (Int32 × jw_M)) (K20 : Int32 → Int32 → Int32 → Int32 → Int32 → Int32 → jw_M → Option (Int32 × jw_M)) (x1 : Int32) (x2 : Int32) (x3 : Int32) (x4 : Int32) (x5 : Int32) (x6 : Int32) (x7 : Int32) (y0 : Int32) (σ : jw_M) : Option (Int32 × jw_M) := if y0 = 0 then f_M_valueOf_109 N Rec K20 x1 x2 x3 x5 x6 x7 y0 x4 σ else f_M_valueOf_109 N Rec K20 x1 x2 x3 x5 x6 x7 y0 x6 σ
def f_M_valueOf_90 (N : Nat) (Rec : Int32 → Int32 → Int32 → jw_M → Option (Int32 × jw_M)) (K20 : Int32 → Int32 → Int32 → Int32 → Int32 → Int32 → jw_M → Option (Int32 × jw_M)) (x1 : Int32) (x2 : Int32) (x3 : Int32) (x4 : Int32) (x5 : Int32) (x6 : Int32) (x7 : Int32) (σ : jw_M) : Option (Int32 × jw_M) := f_M_valueOf_95 N Rec K20 x1 x2 x3 x4 x5 x6 x7 1 σ
def f_M_valueOf_94 (N : Nat) (Rec : Int32 → Int32 → Int32 → jw_M → Option (Int32 × jw_M)) (K20 : Int32 → Int32 → Int32 → Int32 → Int32 → Int32 → jw_M → Option (Int32 × jw_M)) (x1 : Int32) (x2 : Int32) (x3 : Int32) (x4 : Int32) (x5 : Int32) (x6 : Int32) (x7 : Int32) (σ : jw_M) : Option (Int32 × jw_M) := f_M_valueOf_95 N Rec K20 x1 x2 x3 x4 x5 x6 x7 0 σ
def f_M_valueOf_53 (N : Nat) (Rec : Int32 → Int32 → Int32 → jw_M → Option (Int32 × jw_M)) (K20 : Int32 → Int32 → Int32 → Int32 → Int32 → Int32 → jw_M → Option (Int32 × jw_M)) (x1 : Int32) (x2 : Int32) (x3 : Int32) (x4 : Int32) (x5 : Int32) (x6 : Int32) (y0 : Int32) (y2 : Int32) (y3 : Int32) (y4 : Int32) (σ : jw_M) : Option (Int32 × jw_M) := (Rec y2 y3 y4 σ).bind fun z8 => (f_M_load N x1 z8.2).bind fun z10 => if x4 < 0 then f_M_valueOf_90 N Rec K20 x1 x2 x3 x4 x5 x6 (y0 + z8.1) z10 else if x3 = 0 then if x5 ≤ (y0 + z8.1) then f_M_valueOf_94 N Rec K20 x1 x2 x3 x4 x5 x6 (y0 + z8.1) z10 else f_M_valueOf_90 N Rec K20 x1 x2 x3 x4 x5 x6 (y0 + z8.1) z10 else if (y0 + z8.1) ≤ x5 then f_M_valueOf_94 N Rec K20 x1 x2 x3 x4 x5 x6 (y0 + z8.1) z10 else f_M_valueOf_90 N Rec K20 x1 x2 x3 x4 x5 x6 (y0 + z8.1) z10
def f_M_valueOf_20 (N : Nat) (Rec : Int32 → Int32 → Int32 → jw_M → Option (Int32 × jw_M)) : Nat → Int32 → Int32 → Int32 → Int32 → Int32 → Int32 → jw_M → Option (Int32 × jw_M)
  | 0, _, _, _, _, _, _, _ => none
  | k + 1, x1, x2, x3, x4, x5, x6, σ => if (σ.1 3 2) < x6 then some (x5, (jx_w σ 0 27 x4)) else (f_M_goes N x6 σ).bind fun z5 => if x3 = 0 then f_M_valueOf_53 N Rec (f_M_valueOf_20 N Rec k) x1 x2 x3 x4 x5 x6 (z5.1) (x1 + 1) (x2 - 1) 1 z5.2 else f_M_valueOf_53 N Rec (f_M_valueOf_20 N Rec k) x1 x2 x3 x4 x5 x6 (z5.1) (x1 + 1) (x2 - 1) 0 z5.2
def f_M_valueOf (N : Nat) : Nat → Int32 → Int32 → Int32 → jw_M → Option (Int32 × jw_M)
  | 0, _, _, _, _ => none
  | r + 1, x1, x2, x3, σ => if x2 = 0 then some (0, σ) else (f_M_save N x1 σ).bind fun z2 => f_M_valueOf_20 N (f_M_valueOf N r) N x1 x2 x3 (-1) 0 0 z2
/-! ShadowSchoolModel.game(I)I -/
def f_M_game (N : Nat) (x1 : Int32) (σ : jw_M) : Option (Int32 × jw_M) := (f_M_in N x1 1 4 σ).bind fun z1 => if z1.1 = 0 then some ((-1), z1.2) else (f_M_planHours N x1 z1.2).bind fun z4 => (f_M_valueOf N 64 0 (z4.1) 1 z4.2).bind fun z6 => some (z6.1, z6.2)
/-! ShadowSchoolModel.play(I)I -/
def f_M_play (N : Nat) (x1 : Int32) (σ : jw_M) : Option (Int32 × jw_M) := (f_M_in N x1 1 4 σ).bind fun z1 => if z1.1 = 0 then some ((-1), z1.2) else (f_M_isOver N  z1.2).bind fun z4 => if z4.1 = 0 then (f_M_planHours N x1 z4.2).bind fun z7 => (f_M_valueOf N 64 0 (z7.1) 1 z7.2).bind fun z9 => some ((z9.2.1 0 27), z9.2) else some ((-3), z4.2)
/-! ShadowSchoolModel.report(IIII)I -/
def f_M_report (N : Nat) (x1 : Int32) (x2 : Int32) (x3 : Int32) (x4 : Int32) (σ : jw_M) : Option (Int32 × jw_M) := (f_M_in N x1 1 5 σ).bind fun z1 => if z1.1 = 0 then some ((-1), z1.2) else (f_M_in N x2 1 9 z1.2).bind fun z4 => if z4.1 = 0 then some ((-1), z4.2) else (f_M_in N x3 0 999 z4.2).bind fun z7 => if z7.1 = 0 then some ((-1), z7.2) else (f_M_in N x4 x3 999 z7.2).bind fun z10 => if z10.1 = 0 then some ((-1), z10.2) else if (z10.2.1 3 5) = 6 then some ((-2), z10.2) else bif jx_in (70 + (4 * (z10.2.1 3 5))) 526 then bif jx_in ((70 + (4 * (z10.2.1 3 5))) + 1) 526 then bif jx_in ((70 + (4 * (z10.2.1 3 5))) + 2) 526 then bif jx_in ((70 + (4 * (z10.2.1 3 5))) + 3) 526 then some ((((jx_w (jx_w (jx_w (jx_w (jx_w z10.2 3 ((70 + (4 * (z10.2.1 3 5)))).toNatClampNeg x1) 3 (((70 + (4 * (z10.2.1 3 5))) + 1)).toNatClampNeg x2) 3 (((70 + (4 * (z10.2.1 3 5))) + 2)).toNatClampNeg x3) 3 (((70 + (4 * (z10.2.1 3 5))) + 3)).toNatClampNeg x4) 3 5 (((jx_w (jx_w (jx_w (jx_w z10.2 3 ((70 + (4 * (z10.2.1 3 5)))).toNatClampNeg x1) 3 (((70 + (4 * (z10.2.1 3 5))) + 1)).toNatClampNeg x2) 3 (((70 + (4 * (z10.2.1 3 5))) + 2)).toNatClampNeg x3) 3 (((70 + (4 * (z10.2.1 3 5))) + 3)).toNatClampNeg x4).1 3 5) + 1)).1 3 5) - 1), (jx_w (jx_w (jx_w (jx_w (jx_w z10.2 3 ((70 + (4 * (z10.2.1 3 5)))).toNatClampNeg x1) 3 (((70 + (4 * (z10.2.1 3 5))) + 1)).toNatClampNeg x2) 3 (((70 + (4 * (z10.2.1 3 5))) + 2)).toNatClampNeg x3) 3 (((70 + (4 * (z10.2.1 3 5))) + 3)).toNatClampNeg x4) 3 5 (((jx_w (jx_w (jx_w (jx_w z10.2 3 ((70 + (4 * (z10.2.1 3 5)))).toNatClampNeg x1) 3 (((70 + (4 * (z10.2.1 3 5))) + 1)).toNatClampNeg x2) 3 (((70 + (4 * (z10.2.1 3 5))) + 2)).toNatClampNeg x3) 3 (((70 + (4 * (z10.2.1 3 5))) + 3)).toNatClampNeg x4).1 3 5) + 1))) else none else none else none else none
/-! ShadowSchoolModel.forget()I -/
def f_M_forget (N : Nat) (σ : jw_M) : Option (Int32 × jw_M) := (f_M_becomes N 5 0 σ).bind fun z1 => some (z1.1, z1.2)
/-! ShadowSchoolModel.fits(II)Z -/
def f_M_fits_96 (N : Nat) (K5 : Int32 → Int32 → Int32 → Int32 → jw_M → Option (Int32 × jw_M)) (x1 : Int32) (x2 : Int32) (x4 : Int32) (y0 : Int32) (σ : jw_M) : Option (Int32 × jw_M) := K5 x1 x2 y0 (x4 + 1) σ
def f_M_fits_95 (N : Nat) (K5 : Int32 → Int32 → Int32 → Int32 → jw_M → Option (Int32 × jw_M)) (x1 : Int32) (x2 : Int32) (x4 : Int32) (σ : jw_M) : Option (Int32 × jw_M) := f_M_fits_96 N K5 x1 x2 x4 0 σ
def f_M_fits_91 (N : Nat) (K5 : Int32 → Int32 → Int32 → Int32 → jw_M → Option (Int32 × jw_M)) (x1 : Int32) (x2 : Int32) (x4 : Int32) (σ : jw_M) : Option (Int32 × jw_M) := f_M_fits_96 N K5 x1 x2 x4 1 σ
def f_M_fits_5 (N : Nat) : Nat → Int32 → Int32 → Int32 → Int32 → jw_M → Option (Int32 × jw_M)
  | 0, _, _, _, _, _ => none
  | k + 1, x1, x2, x3, x4, σ => if (σ.1 3 5) ≤ x4 then if x3 = 0 ∨ x3 = 1 then some (x3, σ) else none else bif jx_in (70 + (4 * x4)) 526 then bif jx_in ((70 + (4 * x4)) + 1) 526 then (f_M_lengthBy N (σ.1 3 ((70 + (4 * x4))).toNatClampNeg) (σ.1 3 (((70 + (4 * x4)) + 1)).toNatClampNeg) (x1 / 5) σ).bind fun z5 => if x3 = 0 then f_M_fits_95 N (f_M_fits_5 N k) x1 x2 x4 z5.2 else if x4 = x2 then f_M_fits_91 N (f_M_fits_5 N k) x1 x2 x4 z5.2 else bif jx_in ((70 + (4 * x4)) + 2) 526 then bif jx_in ((70 + (4 * x4)) + 3) 526 then (f_M_in N (z5.1 * ((x1 - x1 / 5 * 5) + 1)) (z5.2.1 3 (((70 + (4 * x4)) + 2)).toNatClampNeg) (z5.2.1 3 (((70 + (4 * x4)) + 3)).toNatClampNeg) z5.2).bind fun z11 => if z11.1 = 0 then f_M_fits_95 N (f_M_fits_5 N k) x1 x2 x4 z11.2 else f_M_fits_91 N (f_M_fits_5 N k) x1 x2 x4 z11.2 else none else none else none else none
def f_M_fits (N : Nat) (x1 : Int32) (x2 : Int32) (σ : jw_M) : Option (Int32 × jw_M) := f_M_fits_5 N N x1 x2 1 0 σ
/-! ShadowSchoolModel.firstMoment(I)I -/
def f_M_firstMoment_2 (N : Nat) : Nat → Int32 → Int32 → jw_M → Option (Int32 × jw_M)
  | 0, _, _, _ => none
  | k + 1, x1, x2, σ => if 80 ≤ x2 then some ((-1), σ) else (f_M_fits N x2 x1 σ).bind fun z2 => if z2.1 = 0 then f_M_firstMoment_2 N k x1 (x2 + 1) z2.2 else some (x2, z2.2)
def f_M_firstMoment (N : Nat) (x1 : Int32) (σ : jw_M) : Option (Int32 × jw_M) := f_M_firstMoment_2 N N x1 0 σ
/-! ShadowSchoolModel.span(I)I -/
def f_M_span_40 (N : Nat) (K19 : Int32 → Int32 → jw_M → Option (Int32 × jw_M)) (x3 : Int32) (y0 : Int32) (y1 : Int32) (σ : jw_M) : Option (Int32 × jw_M) := K19 (y0 + y1) (x3 + 1) σ
def f_M_span_19 (N : Nat) : Nat → Int32 → Int32 → jw_M → Option (Int32 × jw_M)
  | 0, _, _, _ => none
  | k + 1, x2, x3, σ => if 80 ≤ x3 then some (x2, σ) else (f_M_fits N x3 (-1) σ).bind fun z6 => if z6.1 = 0 then f_M_span_40 N (f_M_span_19 N k) x3 x2 0 z6.2 else f_M_span_40 N (f_M_span_19 N k) x3 x2 1 z6.2
def f_M_span (N : Nat) (x1 : Int32) (σ : jw_M) : Option (Int32 × jw_M) := (f_M_in N x1 0 2 σ).bind fun z1 => if z1.1 = 0 then some ((-1), z1.2) else if x1 = 0 then f_M_span_19 N N 0 0 z1.2 else (f_M_firstMoment N (-1) z1.2).bind fun z9 => if 0 ≤ z9.1 then if x1 = 1 then some ((z9.1 / 5), z9.2) else some (((z9.1 - z9.1 / 5 * 5) + 1), z9.2) else some ((-3), z9.2)
/-! ShadowSchoolModel.liar()I -/
def f_M_liar_13 (N : Nat) : Nat → Int32 → jw_M → Option (Int32 × jw_M)
  | 0, _, _ => none
  | k + 1, x1, σ => if (σ.1 3 5) ≤ x1 then some ((-3), σ) else (f_M_firstMoment N x1 σ).bind fun z5 => if z5.1 < 0 then f_M_liar_13 N k (x1 + 1) z5.2 else some (x1, z5.2)
def f_M_liar (N : Nat) (σ : jw_M) : Option (Int32 × jw_M) := (f_M_firstMoment N (-1) σ).bind fun z1 => if z1.1 < 0 then f_M_liar_13 N N 0 z1.2 else some ((-3), z1.2)
/-! ShadowSchoolModel.seed(I)I -/
def f_M_seed (N : Nat) (x1 : Int32) (σ : jw_M) : Option (Int32 × jw_M) := (f_M_becomes N 1 x1 σ).bind fun z1 => some (z1.1, z1.2)
/-! ShadowSchoolModel.lotGoes()I -/
def f_M_lotGoes (N : Nat) (σ : jw_M) : Option (Int32 × jw_M) := if (((jx_w σ 3 1 (((σ.1 3 1) * 1103515245) + 12345)).1 3 2) + 1) = 0 then none else (f_M_goes N ((Int32.toUInt32 ((jx_w σ 3 1 (((σ.1 3 1) * 1103515245) + 12345)).1 3 1) >>> (Int32.toUInt32 16 &&& Int32.toUInt32 31)).toInt32 - (Int32.toUInt32 ((jx_w σ 3 1 (((σ.1 3 1) * 1103515245) + 12345)).1 3 1) >>> (Int32.toUInt32 16 &&& Int32.toUInt32 31)).toInt32 / (((jx_w σ 3 1 (((σ.1 3 1) * 1103515245) + 12345)).1 3 2) + 1) * (((jx_w σ 3 1 (((σ.1 3 1) * 1103515245) + 12345)).1 3 2) + 1)) (jx_w σ 3 1 (((σ.1 3 1) * 1103515245) + 12345))).bind fun z2 => some (z2.1, z2.2)
/-! ShadowSchoolModel.lot()I -/
def f_M_lot (N : Nat) (σ : jw_M) : Option (Int32 × jw_M) := (f_M_isOver N  σ).bind fun z1 => if z1.1 = 0 then (f_M_lotGoes N  z1.2).bind fun z4 => some (z4.1, z4.2) else some ((-4), z1.2)
/-! ShadowSchoolModel.often(II)I -/
def f_M_often_87 (N : Nat) (K41 : Int32 → Int32 → Int32 → Int32 → Int32 → jw_M → Option (Int32 × jw_M)) (x1 : Int32) (x2 : Int32) (x3 : Int32) (x5 : Int32) (y0 : Int32) (y1 : Int32) (σ : jw_M) : Option (Int32 × jw_M) := K41 x1 x2 x3 (y0 + y1) (x5 + 1) σ
def f_M_often_50 (N : Nat) (K41 : Int32 → Int32 → Int32 → Int32 → Int32 → jw_M → Option (Int32 × jw_M)) : Nat → Int32 → Int32 → Int32 → Int32 → Int32 → Int32 → jw_M → Option (Int32 × jw_M)
  | 0, _, _, _, _, _, _, _ => none
  | k + 1, x1, x2, x3, x4, x5, x6, σ => (f_M_isOver N  σ).bind fun z10 => if z10.1 = 0 then (f_M_lotGoes N  z10.2).bind fun z13 => f_M_often_50 N K41 k x1 x2 x3 x4 x5 (x6 + z13.1) z13.2 else (f_M_load N 0 z10.2).bind fun z15 => if x6 < x2 then f_M_often_87 N K41 x1 x2 x3 x5 x4 0 z15 else f_M_often_87 N K41 x1 x2 x3 x5 x4 1 z15
def f_M_often_41 (N : Nat) : Nat → Int32 → Int32 → Int32 → Int32 → Int32 → jw_M → Option (Int32 × jw_M)
  | 0, _, _, _, _, _, _ => none
  | k + 1, x1, x2, x3, x4, x5, σ => if x1 ≤ x5 then some (x4, (jx_w σ 3 1 x3)) else f_M_often_50 N (f_M_often_41 N k) N x1 x2 x3 x4 x5 0 σ
def f_M_often (N : Nat) (x1 : Int32) (x2 : Int32) (σ : jw_M) : Option (Int32 × jw_M) := (f_M_in N x1 1 40 σ).bind fun z1 => if z1.1 = 0 then some ((-1), z1.2) else (f_M_in N x2 0 999 z1.2).bind fun z4 => if z4.1 = 0 then some ((-1), z4.2) else (f_M_save N 0 z4.2).bind fun z7 => f_M_often_41 N N x1 x2 (z4.2.1 3 1) 0 0 z7
/-! ShadowSchoolModel.prove(I)I -/
def f_M_prove_24 (N : Nat) : Nat → Int32 → Int32 → jw_M → Option (Int32 × jw_M)
  | 0, _, _, _ => none
  | k + 1, x2, x3, σ => if x2 ≤ x3 then (f_M_load N 0 σ).bind fun z9 => some (x2, (jx_w z9 0 29 x2)) else (f_M_actIn N (σ.1 0 23) x2 x3 σ).bind fun z11 => bif jx_in (3 * x3) 12 then (f_M_goes N ((jx_w z11.2 13 ((3 * x3)).toNatClampNeg z11.1).1 13 ((3 * x3)).toNatClampNeg) (jx_w z11.2 13 ((3 * x3)).toNatClampNeg z11.1)).bind fun z14 => bif jx_in ((3 * x3) + 1) 12 then (f_M_someLearnt N  (jx_w z14.2 13 (((3 * x3) + 1)).toNatClampNeg z14.1)).bind fun z17 => bif jx_in ((3 * x3) + 2) 12 then f_M_prove_24 N k x2 (x3 + 1) (jx_w z17.2 13 (((3 * x3) + 2)).toNatClampNeg z17.1) else none else none else none
def f_M_prove (N : Nat) (x1 : Int32) (σ : jw_M) : Option (Int32 × jw_M) := (f_M_in N x1 0 4 σ).bind fun z1 => if z1.1 = 0 then some ((-1), z1.2) else (f_M_planHours N x1 z1.2).bind fun z4 => (f_M_findBest N (z4.1) z4.2).bind fun z6 => f_M_prove_24 N N (z4.1) 0 z6
/-! ShadowSchoolModel.isCell(II)Z -/
def f_M_isCell (N : Nat) (x1 : Int32) (x2 : Int32) (σ : jw_M) : Option (Int32 × jw_M) := (f_M_in N x1 0 ((σ.1 0 29) - 1) σ).bind fun z1 => if z1.1 = 0 then some (0, z1.2) else (f_M_in N x2 0 2 z1.2).bind fun z4 => if z4.1 = 0 then some (0, z4.2) else some (1, z4.2)
/-! ShadowSchoolModel.row(II)I -/
def f_M_row (N : Nat) (x1 : Int32) (x2 : Int32) (σ : jw_M) : Option (Int32 × jw_M) := (f_M_isCell N x1 x2 σ).bind fun z1 => if z1.1 = 0 then some ((-9), z1.2) else bif jx_in ((3 * x1) + x2) 12 then some ((z1.2.1 13 (((3 * x1) + x2)).toNatClampNeg), z1.2) else none
/-! ShadowSchoolModel.alterRow(III)I -/
def f_M_alterRow (N : Nat) (x1 : Int32) (x2 : Int32) (x3 : Int32) (σ : jw_M) : Option (Int32 × jw_M) := (f_M_isCell N x1 x2 σ).bind fun z1 => if z1.1 = 0 then some ((-9), z1.2) else bif jx_in ((3 * x1) + x2) 12 then some ((z1.2.1 13 (((3 * x1) + x2)).toNatClampNeg), (jx_w z1.2 13 (((3 * x1) + x2)).toNatClampNeg x3)) else none
/-! ShadowSchoolModel.isRight(I)Z -/
def f_M_isRight (N : Nat) (x1 : Int32) (σ : jw_M) : Option (Int32 × jw_M) := bif jx_in (3 * x1) 12 then (f_M_in N (σ.1 13 ((3 * x1)).toNatClampNeg) 0 (σ.1 3 2) σ).bind fun z2 => if z2.1 = 0 then some (0, z2.2) else (f_M_isOver N  z2.2).bind fun z5 => if z5.1 = 0 then (f_M_goes N (z5.2.1 13 ((3 * x1)).toNatClampNeg) z5.2).bind fun z8 => bif jx_in ((3 * x1) + 1) 12 then if z8.1 = (z8.2.1 13 (((3 * x1) + 1)).toNatClampNeg) then (f_M_someLearnt N  z8.2).bind fun z12 => bif jx_in ((3 * x1) + 2) 12 then if z12.1 = (z12.2.1 13 (((3 * x1) + 2)).toNatClampNeg) then some (1, z12.2) else some (0, z12.2) else none else some (0, z8.2) else none else some (0, z5.2) else none
/-! ShadowSchoolModel.judge()I -/
def f_M_judge_29 (N : Nat) (x1 : Int32) (σ : jw_M) : Option (Int32 × jw_M) := (f_M_load N 0 σ).bind fun z4 => if x1 = (z4.1 0 29) then some (0, z4) else some ((x1 + 1), z4)
def f_M_judge_7 (N : Nat) : Nat → Int32 → jw_M → Option (Int32 × jw_M)
  | 0, _, _ => none
  | k + 1, x1, σ => if (σ.1 0 29) ≤ x1 then f_M_judge_29 N x1 σ else (f_M_isRight N x1 σ).bind fun z7 => if z7.1 = 0 then f_M_judge_29 N x1 z7.2 else f_M_judge_7 N k (x1 + 1) z7.2
def f_M_judge (N : Nat) (σ : jw_M) : Option (Int32 × jw_M) := (f_M_save N 0 σ).bind fun z1 => f_M_judge_7 N N 0 z1
/-! ShadowSchoolModel.sheet(III)I -/
def f_M_sheet_64 (N : Nat) : Nat → Int32 → Int32 → jw_M → Option (Int32 × jw_M)
  | 0, _, _, _ => none
  | k + 1, x1, x4, σ => if 40 ≤ x4 then some (1, σ) else bif jx_in ((40 * x1) + x4) 160 then f_M_sheet_64 N k x1 (x4 + 1) (jx_wl σ 16 (((40 * x1) + x4)).toNatClampNeg 0) else none
def f_M_sheet_60 (N : Nat) (x1 : Int32) (y1 : Int32) (y2 : Int32) (σ : jw_M) : Option (Int32 × jw_M) := bif jx_in y1 4 then f_M_sheet_64 N N x1 0 (jx_w σ 15 (y1).toNatClampNeg y2) else none
def f_M_sheet_39 (N : Nat) (x1 : Int32) (x2 : Int32) (x3 : Int32) (σ : jw_M) : Option (Int32 × jw_M) := bif jx_in x1 4 then if 0 ≤ x2 then f_M_sheet_60 N x1 x1 x3 (jx_w σ 14 (x1).toNatClampNeg x2) else f_M_sheet_60 N x1 x1 0 (jx_w σ 14 (x1).toNatClampNeg x2) else none
def f_M_sheet_28 (N : Nat) (x1 : Int32) (x2 : Int32) (x3 : Int32) (σ : jw_M) : Option (Int32 × jw_M) := if x2 < 0 then f_M_sheet_39 N x1 x2 x3 σ else if 0 ≤ x3 then f_M_sheet_39 N x1 x2 x3 σ else some ((-14), σ)
def f_M_sheet (N : Nat) (x1 : Int32) (x2 : Int32) (x3 : Int32) (σ : jw_M) : Option (Int32 × jw_M) := (f_M_isSheet N x1 σ).bind fun z1 => if z1.1 = 0 then some ((-1), z1.2) else (f_M_in N x2 (-1) 4 z1.2).bind fun z4 => if z4.1 = 0 then some ((-1), z4.2) else if x2 < 0 then f_M_sheet_28 N x1 x2 x3 z4.2 else if x3 ≤ 40 then f_M_sheet_28 N x1 x2 x3 z4.2 else some ((-1), z4.2)
/-! ShadowSchoolModel.narrowed(II)J -/
def f_M_narrowed (N : Nat) (x0 : Int32) (x1 : Int32) (σ : jw_M) : Option (Int64 × jw_M) := if x0 = 0 then some (((x1).toInt8.toInt32).toInt64, σ) else if x0 = 1 then some (((x1).toInt16.toInt32).toInt64, σ) else if x0 = 4 then if x1 = 0 then some (0, σ) else some (1, σ) else some ((x1).toInt64, σ)
/-! ShadowSchoolModel.write(III)I -/
def f_M_write (N : Nat) (x1 : Int32) (x2 : Int32) (x3 : Int32) (σ : jw_M) : Option (Int32 × jw_M) := (f_M_isSheet N x1 σ).bind fun z1 => if z1.1 = 0 then some ((-1), z1.2) else bif jx_in x1 4 then if 0 ≤ (z1.2.1 14 (x1).toNatClampNeg) then (f_M_in N x2 0 ((z1.2.1 15 (x1).toNatClampNeg) - 1) z1.2).bind fun z6 => if z6.1 = 0 then some ((-12), z6.2) else (f_M_narrowed N (z6.2.1 14 (x1).toNatClampNeg) x3 z6.2).bind fun z9 => bif jx_in ((40 * x1) + x2) 160 then some (1, (jx_wl z9.2 16 (((40 * x1) + x2)).toNatClampNeg z9.1)) else none else some ((-11), z1.2) else none
/-! ShadowSchoolModel.item(III)I -/
def f_M_item (N : Nat) (x1 : Int32) (x2 : Int32) (x3 : Int32) (σ : jw_M) : Option (Int32 × jw_M) := (f_M_isSheet N x1 σ).bind fun z1 => if z1.1 = 0 then some ((-1), z1.2) else (f_M_in N x2 0 4 z1.2).bind fun z4 => if z4.1 = 0 then some ((-1), z4.2) else (f_M_lacksSort N x1 x2 z4.2).bind fun z7 => if z7.1 = 0 then bif jx_in x1 4 then (f_M_in N x3 0 ((z7.2.1 15 (x1).toNatClampNeg) - 1) z7.2).bind fun z11 => if z11.1 = 0 then some ((-12), z11.2) else bif jx_in ((40 * x1) + x3) 160 then some (((z11.2.2 16 (((40 * x1) + x3)).toNatClampNeg)).toInt32, z11.2) else none else none else some (z7.1, z7.2)
/-! ShadowSchoolModel.goAll(III)I -/
def f_M_goAll_129 (N : Nat) (K41 : Int32 → Int32 → Int32 → Int32 → Int32 → jw_M → Option (Int32 × jw_M)) (x1 : Int32) (x2 : Int32) (x3 : Int32) (x6 : Int32) (y0 : Int32) (y1 : Int32) (σ : jw_M) : Option (Int32 × jw_M) := K41 x1 x2 x3 (y0 + y1) (x6 + 1) σ
def f_M_goAll_128 (N : Nat) (K41 : Int32 → Int32 → Int32 → Int32 → Int32 → jw_M → Option (Int32 × jw_M)) (x1 : Int32) (x2 : Int32) (x3 : Int32) (x6 : Int32) (y0 : Int32) (σ : jw_M) : Option (Int32 × jw_M) := f_M_goAll_129 N K41 x1 x2 x3 x6 y0 0 σ
def f_M_goAll_41 (N : Nat) : Nat → Int32 → Int32 → Int32 → Int32 → Int32 → jw_M → Option (Int32 × jw_M)
  | 0, _, _, _, _, _, _ => none
  | k + 1, x1, x2, x3, x5, x6, σ => if x3 ≤ x6 then some (x5, σ) else if (lg_cmp (((x2).toInt64 : Int64) + (x6).toInt64) 0) < 0 then some ((-12), σ) else bif jx_in x1 4 then if (lg_cmp (((x2).toInt64 : Int64) + (x6).toInt64) ((σ.1 15 (x1).toNatClampNeg)).toInt64) < 0 then bif jx_in (((40 * x1) + x2) + x6) 160 then (f_M_in N ((σ.2 16 ((((40 * x1) + x2) + x6)).toNatClampNeg)).toInt32 0 (σ.1 3 2) σ).bind fun z15 => if z15.1 = 0 then f_M_goAll_128 N (f_M_goAll_41 N k) x1 x2 x3 x6 x5 z15.2 else (f_M_isOver N  z15.2).bind fun z18 => if z18.1 = 0 then (f_M_goes N ((σ.2 16 ((((40 * x1) + x2) + x6)).toNatClampNeg)).toInt32 z18.2).bind fun z21 => f_M_goAll_129 N (f_M_goAll_41 N k) x1 x2 x3 x6 x5 (z21.1) z21.2 else f_M_goAll_128 N (f_M_goAll_41 N k) x1 x2 x3 x6 x5 z18.2 else none else some ((-12), σ) else none
def f_M_goAll (N : Nat) (x1 : Int32) (x2 : Int32) (x3 : Int32) (σ : jw_M) : Option (Int32 × jw_M) := (f_M_isSheet N x1 σ).bind fun z1 => if z1.1 = 0 then some ((-1), z1.2) else (f_M_in N x3 0 20 z1.2).bind fun z4 => if z4.1 = 0 then some ((-1), z4.2) else (f_M_lacksSort N x1 0 z4.2).bind fun z7 => if z7.1 = 0 then f_M_goAll_41 N N x1 x2 x3 0 0 z7.2 else some (z7.1, z7.2)
/-! ShadowSchoolModel.wouldGo(III)I -/
def f_M_wouldGo_6 (N : Nat) : Nat → Int32 → Int32 → Int32 → Int32 → Int32 → jw_M → Option (Int32 × jw_M)
  | 0, _, _, _, _, _, _ => none
  | k + 1, x1, x2, x3, x4, x5, σ => if x3 ≤ x5 then some (x4, σ) else if (lg_cmp (((x2).toInt64 : Int64) + (x5).toInt64) 0) < 0 then some ((-12), σ) else bif jx_in x1 4 then if (lg_cmp (((x2).toInt64 : Int64) + (x5).toInt64) ((σ.1 15 (x1).toNatClampNeg)).toInt64) < 0 then bif jx_in (((40 * x1) + x2) + x5) 160 then (f_M_in N ((σ.2 16 ((((40 * x1) + x2) + x5)).toNatClampNeg)).toInt32 0 (σ.1 3 2) σ).bind fun z6 => if z6.1 = 0 then some ((-4), z6.2) else (f_M_isOver N  z6.2).bind fun z9 => if z9.1 = 0 then (f_M_goes N ((σ.2 16 ((((40 * x1) + x2) + x5)).toNatClampNeg)).toInt32 z9.2).bind fun z12 => f_M_wouldGo_6 N k x1 x2 x3 (x4 + z12.1) (x5 + 1) z12.2 else some ((-4), z9.2) else none else some ((-12), σ) else none
def f_M_wouldGo (N : Nat) (x1 : Int32) (x2 : Int32) (x3 : Int32) (σ : jw_M) : Option (Int32 × jw_M) := f_M_wouldGo_6 N N x1 x2 x3 0 0 σ
/-! ShadowSchoolModel.wouldBe(III)I -/
def f_M_wouldBe (N : Nat) (x1 : Int32) (x2 : Int32) (x3 : Int32) (σ : jw_M) : Option (Int32 × jw_M) := (f_M_isSheet N x1 σ).bind fun z1 => if z1.1 = 0 then some ((-1), z1.2) else (f_M_in N x3 0 20 z1.2).bind fun z4 => if z4.1 = 0 then some ((-1), z4.2) else (f_M_lacksSort N x1 0 z4.2).bind fun z7 => if z7.1 = 0 then (f_M_save N 0 z7.2).bind fun z10 => (f_M_wouldGo N x1 x2 x3 z10).bind fun z12 => (f_M_load N 0 z12.2).bind fun z14 => some (z12.1, z14) else some (z7.1, z7.2)
/-! ShadowSchoolModel.isHeld(II)Z -/
def f_M_isHeld (N : Nat) (x1 : Int32) (x2 : Int32) (σ : jw_M) : Option (Int32 × jw_M) := if x1 = 0 then (f_M_isShadow N x2 σ).bind fun z2 => if z2.1 = 0 ∨ z2.1 = 1 then some (z2.1, z2.2) else none else if x1 = 1 then (f_M_isSheet N x2 σ).bind fun z6 => if z6.1 = 0 ∨ z6.1 = 1 then some (z6.1, z6.2) else none else if x1 = 2 then some (1, σ) else some (0, σ)
/-! ShadowSchoolModel.shelf(III)I -/
def f_M_shelf_89 (N : Nat) (y1 : Int32) (y2 : Int32) (σ : jw_M) : Option (Int32 × jw_M) := bif jx_in y1 4 then some (1, (jx_w σ 19 (y1).toNatClampNeg y2)) else none
def f_M_shelf_68 (N : Nat) (x1 : Int32) (x2 : Int32) (x3 : Int32) (y1 : Int32) (y2 : Int32) (σ : jw_M) : Option (Int32 × jw_M) := bif jx_in y1 4 then if x2 = 1 then bif jx_in x3 4 then f_M_shelf_89 N x1 ((jx_w σ 18 (y1).toNatClampNeg y2).1 15 (x3).toNatClampNeg) (jx_w σ 18 (y1).toNatClampNeg y2) else none else f_M_shelf_89 N x1 0 (jx_w σ 18 (y1).toNatClampNeg y2) else none
def f_M_shelf_47 (N : Nat) (x1 : Int32) (x2 : Int32) (x3 : Int32) (y1 : Int32) (y2 : Int32) (σ : jw_M) : Option (Int32 × jw_M) := bif jx_in y1 4 then if x2 = 1 then bif jx_in x3 4 then f_M_shelf_68 N x1 x2 x3 x1 ((jx_w σ 17 (y1).toNatClampNeg y2).1 14 (x3).toNatClampNeg) (jx_w σ 17 (y1).toNatClampNeg y2) else none else f_M_shelf_68 N x1 x2 x3 x1 x3 (jx_w σ 17 (y1).toNatClampNeg y2) else none
def f_M_shelf_42 (N : Nat) (x1 : Int32) (x2 : Int32) (x3 : Int32) (y1 : Int32) (σ : jw_M) : Option (Int32 × jw_M) := f_M_shelf_47 N x1 x2 x3 y1 (-1) σ
def f_M_shelf_46 (N : Nat) (x1 : Int32) (x2 : Int32) (x3 : Int32) (y1 : Int32) (σ : jw_M) : Option (Int32 × jw_M) := f_M_shelf_47 N x1 x2 x3 y1 x2 σ
def f_M_shelf (N : Nat) (x1 : Int32) (x2 : Int32) (x3 : Int32) (σ : jw_M) : Option (Int32 × jw_M) := (f_M_isSheet N x1 σ).bind fun z1 => if z1.1 = 0 then some ((-1), z1.2) else (f_M_isHeld N x2 x3 z1.2).bind fun z4 => if z4.1 = 0 then some ((-1), z4.2) else if x2 = 2 then f_M_shelf_42 N x1 x2 x3 x1 z4.2 else if x2 = 1 then bif jx_in x3 4 then if 0 ≤ (z4.2.1 14 (x3).toNatClampNeg) then f_M_shelf_46 N x1 x2 x3 x1 z4.2 else f_M_shelf_42 N x1 x2 x3 x1 z4.2 else none else f_M_shelf_46 N x1 x2 x3 x1 z4.2
/-! ShadowSchoolModel.kindOn(I)I -/
def f_M_kindOn (N : Nat) (x1 : Int32) (σ : jw_M) : Option (Int32 × jw_M) := bif jx_in x1 4 then if (σ.1 17 (x1).toNatClampNeg) = 0 then (f_M_isShadow N (σ.1 18 (x1).toNatClampNeg) σ).bind fun z3 => if z3.1 = 0 then some ((-1), z3.2) else (f_M_of N (z3.2.1 18 (x1).toNatClampNeg) 0 z3.2).bind fun z6 => some (z6.1, z6.2) else if 0 ≤ (σ.1 17 (x1).toNatClampNeg) then some (9, σ) else some ((-1), σ) else none
/-! ShadowSchoolModel.taken(II)I -/
def f_M_taken_29 (N : Nat) (x1 : Int32) (x2 : Int32) (σ : jw_M) : Option (Int32 × jw_M) := (f_M_kindOn N x1 σ).bind fun z10 => if 0 ≤ z10.1 then if z10.1 = 9 then bif jx_in x1 4 then if x2 = (10 + (z10.2.1 18 (x1).toNatClampNeg)) then some ((z10.2.1 19 (x1).toNatClampNeg), z10.2) else some ((-13), z10.2) else none else if 10 ≤ x2 then some ((-13), z10.2) else (f_M_isUnder N (z10.1) x2 z10.2).bind fun z17 => if z17.1 = 0 then some ((-13), z17.2) else bif jx_in x1 4 then some ((z17.2.1 18 (x1).toNatClampNeg), z17.2) else none else some ((-11), z10.2)
def f_M_taken (N : Nat) (x1 : Int32) (x2 : Int32) (σ : jw_M) : Option (Int32 × jw_M) := (f_M_isSheet N x1 σ).bind fun z1 => if z1.1 = 0 then some ((-1), z1.2) else (f_M_in N x2 0 5 z1.2).bind fun z4 => if z4.1 = 0 then (f_M_in N x2 10 14 z4.2).bind fun z7 => if z7.1 = 0 then some ((-1), z7.2) else f_M_taken_29 N x1 x2 z7.2 else f_M_taken_29 N x1 x2 z4.2
/-! ShadowSchoolModel.ran(I)V -/
def f_M_ran (N : Nat) (x1 : Int32) (σ : jw_M) : Option jw_M := if 30 ≤ (σ.1 0 40) then some σ else bif jx_in (σ.1 0 40) 30 then some (jx_w (jx_w σ 20 ((σ.1 0 40)).toNatClampNeg x1) 0 40 (((jx_w σ 20 ((σ.1 0 40)).toNatClampNeg x1).1 0 40) + 1)) else none
/-! ShadowSchoolModel.plainLies(I)I -/
def f_M_plainLies (N : Nat) (x1 : Int32) (σ : jw_M) : Option (Int32 × jw_M) := (f_M_ran N 10 σ).bind fun z1 => some (((x1 * 2) + (z1.1 0 37)), z1)
/-! ShadowSchoolModel.lies(I)I -/
def f_M_lies (N : Nat) (x1 : Int32) (σ : jw_M) : Option (Int32 × jw_M) := if (σ.1 0 36) = 1 then (f_M_ran N 20 σ).bind fun z1 => (f_M_plainLies N x1 z1).bind fun z3 => some ((z3.1 ^^^ (z3.2.1 0 38)), z3.2) else if (σ.1 0 36) = 3 then (f_M_ran N 50 σ).bind fun z5 => (f_M_plainLies N x1 z5).bind fun z7 => some ((0 - z7.1), z7.2) else (f_M_plainLies N x1 σ).bind fun z9 => some (z9.1, z9.2)
/-! ShadowSchoolModel.plainTurns(I)I -/
def f_M_plainTurns (N : Nat) (x1 : Int32) (σ : jw_M) : Option (Int32 × jw_M) := (f_M_ran N 11 σ).bind fun z1 => (f_M_lies N x1 z1).bind fun z3 => some ((z3.1 - (z3.2.1 0 38)), z3.2)
/-! ShadowSchoolModel.turns(I)I -/
def f_M_turns (N : Nat) (x1 : Int32) (σ : jw_M) : Option (Int32 × jw_M) := if (σ.1 0 36) = 2 then (f_M_ran N 30 σ).bind fun z1 => (f_M_plainTurns N x1 z1).bind fun z3 => some ((z3.1 + 9), z3.2) else if (σ.1 0 36) = 3 then (f_M_ran N 30 σ).bind fun z5 => (f_M_plainTurns N x1 z5).bind fun z7 => some ((z7.1 + 9), z7.2) else if (σ.1 0 36) = 4 then (f_M_plainTurns N x1 σ).bind fun z9 => some (z9.1, z9.2) else if (σ.1 0 36) = 5 then (f_M_ran N 60 σ).bind fun z11 => (f_M_plainTurns N x1 z11).bind fun z13 => some ((z13.1 * 2), z13.2) else (f_M_plainTurns N x1 σ).bind fun z15 => some (z15.1, z15.2)
/-! ShadowSchoolModel.plainFolds(I)I -/
def f_M_plainFolds_30 (N : Nat) (x1 : Int32) (y1 : Int32) (σ : jw_M) : Option (Int32 × jw_M) := if y1 = 0 ∨ y1 = 1 then if ((jx_w σ 0 41 y1).1 0 41) = 0 then if (((jx_w σ 0 41 y1).1 0 37) - ((jx_w σ 0 41 y1).1 0 38)) = 0 then none else some ((x1 / (((jx_w σ 0 41 y1).1 0 37) - ((jx_w σ 0 41 y1).1 0 38))), (jx_w σ 0 41 y1)) else some (0, (jx_w σ 0 41 y1)) else none
def f_M_plainFolds_25 (N : Nat) (x1 : Int32) (σ : jw_M) : Option (Int32 × jw_M) := f_M_plainFolds_30 N x1 1 σ
def f_M_plainFolds (N : Nat) (x1 : Int32) (σ : jw_M) : Option (Int32 × jw_M) := (f_M_ran N 12 σ).bind fun z1 => if (z1.1 0 41) = 0 then if (z1.1 0 37) = (z1.1 0 38) then f_M_plainFolds_25 N x1 z1 else f_M_plainFolds_30 N x1 0 z1 else f_M_plainFolds_25 N x1 z1
/-! ShadowSchoolModel.slowFolds(I)I -/
def f_M_slowFolds (N : Nat) (x1 : Int32) (σ : jw_M) : Option (Int32 × jw_M) := (f_M_ran N 40 σ).bind fun z1 => (f_M_plainFolds N x1 z1).bind fun z3 => some ((z3.1 - 1), z3.2)
/-! ShadowSchoolModel.folds(I)I -/
def f_M_folds (N : Nat) (x1 : Int32) (σ : jw_M) : Option (Int32 × jw_M) := if (σ.1 0 36) = 4 then (f_M_slowFolds N x1 σ).bind fun z2 => some (z2.1, z2.2) else if (σ.1 0 36) = 5 then (f_M_ran N 61 σ).bind fun z5 => (f_M_slowFolds N x1 z5).bind fun z7 => if (z7.2.1 0 41) = 0 then (f_M_lies N (z7.2.1 0 38) z7.2).bind fun z10 => some ((z7.1 ^^^ z10.1), z10.2) else some (0, z7.2) else (f_M_plainFolds N x1 σ).bind fun z12 => some (z12.1, z12.2)
/-! ShadowSchoolModel.plainAsks(I)I -/
def f_M_plainAsks (N : Nat) (x1 : Int32) (σ : jw_M) : Option (Int32 × jw_M) := (f_M_ran N 13 σ).bind fun z1 => (f_M_turns N x1 z1).bind fun z3 => some ((z3.1 * 3), z3.2)
/-! ShadowSchoolModel.asks(I)I -/
def f_M_asks (N : Nat) (x1 : Int32) (σ : jw_M) : Option (Int32 × jw_M) := if (σ.1 0 36) = 3 then (f_M_ran N 51 σ).bind fun z2 => (f_M_plainAsks N x1 z2).bind fun z4 => (f_M_folds N (z4.2.1 0 37) z4.2).bind fun z6 => some ((z4.1 + z6.1), z6.2) else (f_M_plainAsks N x1 σ).bind fun z8 => some (z8.1, z8.2)
/-! ShadowSchoolModel.act(III)I -/
def f_M_act_121 (N : Nat) (y0 : Int32) (σ : jw_M) : Option (Int32 × jw_M) := if (σ.1 0 41) = 0 then some (y0, σ) else some ((-15), σ)
def f_M_act_21 (N : Nat) (x1 : Int32) (x2 : Int32) (x3 : Int32) (y0 : Int32) (σ : jw_M) : Option (Int32 × jw_M) := (f_M_in N x2 0 3 σ).bind fun z4 => if z4.1 = 0 then some (0, z4.2) else (f_M_in N y0 1 5 z4.2).bind fun z7 => if z7.1 = 0 then some (0, z7.2) else bif jx_in x1 4 then (f_M_of N ((jx_w (jx_w z7.2 0 36 y0) 0 37 ((jx_w z7.2 0 36 y0).1 18 (x1).toNatClampNeg)).1 0 37) 1 (jx_w (jx_w z7.2 0 36 y0) 0 37 ((jx_w z7.2 0 36 y0).1 18 (x1).toNatClampNeg))).bind fun z11 => if x2 = 0 then (f_M_lies N x3 (jx_w (jx_w z11.2 0 38 z11.1) 0 41 (0 : Int32))).bind fun z14 => f_M_act_121 N (z14.1) z14.2 else if x2 = 1 then (f_M_turns N x3 (jx_w (jx_w z11.2 0 38 z11.1) 0 41 (0 : Int32))).bind fun z18 => f_M_act_121 N (z18.1) z18.2 else if x2 = 2 then (f_M_folds N x3 (jx_w (jx_w z11.2 0 38 z11.1) 0 41 (0 : Int32))).bind fun z21 => f_M_act_121 N (z21.1) z21.2 else (f_M_asks N x3 (jx_w (jx_w z11.2 0 38 z11.1) 0 41 (0 : Int32))).bind fun z23 => f_M_act_121 N (z23.1) z23.2 else none
def f_M_act (N : Nat) (x1 : Int32) (x2 : Int32) (x3 : Int32) (σ : jw_M) : Option (Int32 × jw_M) := (f_M_isSheet N x1 (jx_w σ 0 40 (0 : Int32))).bind fun z1 => if z1.1 = 0 then f_M_act_21 N x1 x2 x3 (-1) z1.2 else (f_M_kindOn N x1 z1.2).bind fun z25 => f_M_act_21 N x1 x2 x3 (z25.1) z25.2
/-! ShadowSchoolModel.trace(I)I -/
def f_M_trace (N : Nat) (x1 : Int32) (σ : jw_M) : Option (Int32 × jw_M) := (f_M_in N x1 0 ((σ.1 0 40) - 1) σ).bind fun z1 => if z1.1 = 0 then some ((-3), z1.2) else bif jx_in x1 30 then some ((z1.2.1 20 (x1).toNatClampNeg), z1.2) else none
/-! ShadowSchoolModel.pairsThatQuarrel()I -/
def f_M_pairsThatQuarrel_4 (N : Nat) : Nat → Int32 → Int32 → jw_M → Option (Int32 × jw_M)
  | 0, _, _, _ => none
  | k + 1, x1, x2, σ => if (σ.1 3 2) ≤ x2 then some ((x1 / 2), σ) else bif jx_in (64 + x2) 526 then (f_M_ones N (σ.1 3 ((64 + x2)).toNatClampNeg) σ).bind fun z3 => f_M_pairsThatQuarrel_4 N k (x1 + z3.1) (x2 + 1) z3.2 else none
def f_M_pairsThatQuarrel (N : Nat) (σ : jw_M) : Option (Int32 × jw_M) := f_M_pairsThatQuarrel_4 N N 0 0 σ
/-! ShadowSchoolModel.many(I)I -/
def f_M_many (N : Nat) (x1 : Int32) (σ : jw_M) : Option (Int32 × jw_M) := if x1 = 0 then some ((σ.1 3 2), σ) else if x1 = 1 then some ((σ.1 3 4), σ) else if x1 = 2 then some ((σ.1 3 3), σ) else if x1 = 3 then some ((σ.1 3 5), σ) else if x1 = 4 then some ((σ.1 0 29), σ) else if x1 = 5 then some ((σ.1 0 7), σ) else if x1 = 6 then some ((σ.1 0 40), σ) else if x1 = 7 then (f_M_pairsThatQuarrel N  σ).bind fun z1 => some (z1.1, z1.2) else some ((-1), σ)
/-! ShadowSchoolModel.keep()I -/
def f_M_keep_28 (N : Nat) : Nat → Int32 → jw_M → Option (Int32 × jw_M)
  | 0, _, _ => none
  | k + 1, x1, σ => if 526 ≤ x1 then some (1, (jx_w σ 0 5 (1 : Int32))) else bif jx_in x1 526 then f_M_keep_28 N k (x1 + 1) (jx_w σ 5 (x1).toNatClampNeg (σ.1 3 (x1).toNatClampNeg)) else none
def f_M_keep_2 (N : Nat) : Nat → Int32 → jw_M → Option (Int32 × jw_M)
  | 0, _, _ => none
  | k + 1, x1, σ => if 56 ≤ x1 then f_M_keep_28 N N 0 σ else bif jx_in x1 56 then f_M_keep_2 N k (x1 + 1) (jx_w σ 4 (x1).toNatClampNeg (σ.1 1 (x1).toNatClampNeg)) else none
def f_M_keep (N : Nat) (σ : jw_M) : Option (Int32 × jw_M) := f_M_keep_2 N N 0 σ
/-! ShadowSchoolModel.again()I -/
def f_M_again_38 (N : Nat) : Nat → Int32 → jw_M → Option (Int32 × jw_M)
  | 0, _, _ => none
  | k + 1, x1, σ => if 526 ≤ x1 then some ((σ.1 3 2), σ) else bif jx_in x1 526 then f_M_again_38 N k (x1 + 1) (jx_w σ 3 (x1).toNatClampNeg (σ.1 5 (x1).toNatClampNeg)) else none
def f_M_again_12 (N : Nat) : Nat → Int32 → jw_M → Option (Int32 × jw_M)
  | 0, _, _ => none
  | k + 1, x1, σ => if 56 ≤ x1 then f_M_again_38 N N 0 σ else bif jx_in x1 56 then f_M_again_12 N k (x1 + 1) (jx_w σ 1 (x1).toNatClampNeg (σ.1 4 (x1).toNatClampNeg)) else none
def f_M_again (N : Nat) (σ : jw_M) : Option (Int32 × jw_M) := if (σ.1 0 5) = 0 then some ((-3), σ) else f_M_again_12 N N 0 σ
end
section
/-! ===== Int32 by its bits: bt x i ===== -/
def bt (x : Int32) (i : Nat) : Bool := x.toBitVec.getLsbD i
theorem b_ext {x y : Int32} (h : ∀ i, i < 32 → bt x i = bt y i) : x = y := Int32.toBitVec_inj.mp (BitVec.eq_of_getLsbD_eq (fun i hi => h i hi))
theorem b_or (x y : Int32) (i : Nat) : bt (x ||| y) i = (bt x i || bt y i) := by unfold bt; rw [Int32.toBitVec_or, BitVec.getLsbD_or]
theorem b_and (x y : Int32) (i : Nat) : bt (x &&& y) i = (bt x i && bt y i) := by unfold bt; rw [Int32.toBitVec_and, BitVec.getLsbD_and]
theorem b_xor (x y : Int32) (i : Nat) : bt (x ^^^ y) i = (bt x i ^^ bt y i) := by unfold bt; rw [Int32.toBitVec_xor, BitVec.getLsbD_xor]
theorem b_big {x : Int32} {i : Nat} (h : 32 ≤ i) : bt x i = false := BitVec.getLsbD_of_ge _ _ h
theorem b_255 (i : Nat) : bt 255 i = decide (i < 8) := by
  rcases Nat.lt_or_ge i 32 with h | h
  · exact (by decide +kernel : ∀ i, i < 32 → bt 255 i = decide (i < 8)) i h
  · rw [b_big h, decide_eq_false (by omega)]
theorem b_65535 (i : Nat) : bt 65535 i = decide (i < 16) := by
  rcases Nat.lt_or_ge i 32 with h | h
  · exact (by decide +kernel : ∀ i, i < 32 → bt 65535 i = decide (i < 16)) i h
  · rw [b_big h, decide_eq_false (by omega)]
theorem b_m1 : ∀ i, i < 32 → bt (-1) i = true := by decide +kernel
theorem b_0 (i : Nat) : bt 0 i = false := BitVec.getLsbD_zero
theorem s_l : ∀ n, n < 32 → ((nI n &&& 31).toBitVec.smod 32).toNat = n := by decide +kernel
theorem s_u : ∀ n, n < 32 → (((nI n).toUInt32 &&& Int32.toUInt32 31).toBitVec % 32).toNat = n := by decide +kernel
theorem b_shl (n : Nat) (hn : n < 32) (x : Int32) {i : Nat} (hi : i < 32) : bt (x <<< (nI n &&& 31)) i = (decide (n ≤ i) && bt x (i - n)) := by
  unfold bt
  rw [Int32.toBitVec_shiftLeft]
  show (x.toBitVec <<< ((nI n &&& 31).toBitVec.smod 32).toNat).getLsbD i = _
  rw [s_l n hn, BitVec.getLsbD_shiftLeft]
  rcases Nat.lt_or_ge i n with h | h
  · simp [h, Nat.not_le.mpr h]
  · simp [hi, h, Nat.not_lt.mpr h]
theorem b_ushr (n : Nat) (hn : n < 32) (x : Int32) (i : Nat) : bt ((x.toUInt32 >>> ((nI n).toUInt32 &&& Int32.toUInt32 31)).toInt32) i = bt x (n + i) := by
  show (x.toUInt32 >>> ((nI n).toUInt32 &&& Int32.toUInt32 31)).toBitVec.getLsbD i = x.toUInt32.toBitVec.getLsbD (n + i)
  rw [UInt32.toBitVec_shiftRight]
  show (x.toUInt32.toBitVec >>> (((nI n).toUInt32 &&& Int32.toUInt32 31).toBitVec % 32).toNat).getLsbD i = _
  rw [s_u n hn, BitVec.getLsbD_ushiftRight]
theorem b_sshr (n : Nat) (hn : n < 32) (x : Int32) {i : Nat} (hi : i < 32) : bt (x >>> (nI n &&& 31)) i = if n + i < 32 then bt x (n + i) else bt x 31 := by
  unfold bt
  rw [Int32.toBitVec_shiftRight]
  show (x.toBitVec.sshiftRight ((nI n &&& 31).toBitVec.smod 32).toNat).getLsbD i = _
  rw [s_l n hn, BitVec.getLsbD_sshiftRight, BitVec.msb_eq_getLsbD_last]
  simp [hi]
theorem b_shl8 (x : Int32) {i : Nat} (hi : i < 32) : bt (x <<< ((8 : Int32) &&& 31)) i = (decide (8 ≤ i) && bt x (i - 8)) := b_shl 8 (by omega) x hi
theorem b_shl16 (x : Int32) {i : Nat} (hi : i < 32) : bt (x <<< ((16 : Int32) &&& 31)) i = (decide (16 ≤ i) && bt x (i - 16)) := b_shl 16 (by omega) x hi
theorem b_shl24 (x : Int32) {i : Nat} (hi : i < 32) : bt (x <<< ((24 : Int32) &&& 31)) i = (decide (24 ≤ i) && bt x (i - 24)) := b_shl 24 (by omega) x hi
theorem b_sshr8 (x : Int32) {i : Nat} (hi : i < 32) : bt (x >>> ((8 : Int32) &&& 31)) i = if 8 + i < 32 then bt x (8 + i) else bt x 31 := b_sshr 8 (by omega) x hi
end
section
/-! ===== pure: memory, numbers ===== -/
theorem q_w (σ : jw_M) (a i : Nat) (v : Int32) (c j : Nat) : (jx_w σ a i v).1 c j = if c = a ∧ j = i then v else σ.1 c j := by
  by_cases h : c = a
  · by_cases h2 : j = i
    · simp [jx_w, jw_up, va_up, h, h2]
    · simp [jx_w, jw_up, va_up, h, h2]
  · simp [jx_w, jw_up, va_up, h]
theorem q_w2 (σ : jw_M) (a i : Nat) (v : Int32) : (jx_w σ a i v).2 = σ.2 := rfl
theorem q_wS {σ : jw_M} {a i : Nat} {v : Int32} : (jx_w σ a i v).1 a i = v := by rw [q_w, if_pos ⟨rfl, rfl⟩]
theorem q_wC {σ : jw_M} {a i c j : Nat} {v : Int32} (h : c ≠ a) : (jx_w σ a i v).1 c j = σ.1 c j := by
  rw [q_w, if_neg (fun e => h e.1)]
theorem q_wI {σ : jw_M} {a i c j : Nat} {v : Int32} (h : j ≠ i) : (jx_w σ a i v).1 c j = σ.1 c j := by
  rw [q_w, if_neg (fun e => h e.2)]
theorem q_in {k n : Nat} (h : k < n) (hn : n < 2 ^ 31) : jx_in (nI k) n = true := by
  unfold jx_in
  exact decide_eq_true (nI_in h hn)
theorem q_ix {x : Int32} {n : Nat} (hn : n < 2 ^ 31) (h0 : ¬ x < 0) (h1 : ¬ nI n ≤ x) : ∃ j : Nat, j < n ∧ x = nI j := by
  rcases pk_ix x hn with h | h | h
  · exact absurd h h0
  · exact absurd h h1
  · exact h
/-- an int within literals -/
theorem q_wi {x lo hi : Int32} (a b : Nat) (hlo : lo = nI a) (hhi : hi = nI b) (ha : a < 2 ^ 31) (hb : b < 2 ^ 31) (h0 : ¬ x < lo) (h1 : ¬ hi < x) : ∃ j : Nat, a ≤ j ∧ j ≤ b ∧ x = nI j := by
  subst hlo
  subst hhi
  have n0 : ¬ x < 0 := by
    intro h
    apply h0
    have e : (nI a).toInt = (a : Int) := nI_toInt ha
    rw [Int32.lt_iff_toInt_lt] at h ⊢
    rw [e]
    have z : (0 : Int32).toInt = 0 := by decide
    omega
  obtain ⟨j, hj, rfl⟩ := nI_of n0
  rw [nI_ltI hj ha] at h0
  rw [nI_ltI hb hj] at h1
  exact ⟨j, by omega, by omega, rfl⟩
/-! ===== what is mirrored: places of the class's cells (from a first cell on) and places of one of the reference's rows, by a map ===== -/
def q_ji (J : Nat → Nat → Option Nat) : Prop := ∀ c i c' i' k, J c i = some k → J c' i' = some k → c = c' ∧ i = i'
def q_mir (J : Nat → Nat → Option Nat) (b r : Nat) (σC σM : jw_M) : Prop := ∀ c i k, J c i = some k → σC.1 (b + c) i = σM.1 r k
theorem q_mir_w {J : Nat → Nat → Option Nat} (hJ : q_ji J) {b r c i k : Nat} {σC σM : jw_M} (h : q_mir J b r σC σM) (hk : J c i = some k) (v : Int32) : q_mir J b r (jx_w σC (b + c) i v) (jx_w σM r k v) := by
  intro c' i' k' h'
  rw [q_w, q_w]
  by_cases e : c' = c ∧ i' = i
  · obtain ⟨rfl, rfl⟩ := e
    rw [hk] at h'
    cases h'
    rw [if_pos ⟨rfl, rfl⟩, if_pos ⟨rfl, rfl⟩]
  · have n1 : ¬ (b + c' = b + c ∧ i' = i) := fun z => e ⟨by omega, z.2⟩
    have n2 : ¬ (r = r ∧ k' = k) := by
      intro z
      rw [z.2] at h'
      exact e (hJ _ _ _ _ _ h' hk)
    rw [if_neg n1, if_neg n2]
    exact h c' i' k' h'
/-- what touches nothing mirrored keeps it -/
theorem q_mir_k {J : Nat → Nat → Option Nat} {b r : Nat} {σC σM σC' σM' : jw_M} (h : q_mir J b r σC σM) (hC : ∀ c i k, J c i = some k → σC'.1 (b + c) i = σC.1 (b + c) i) (hM : ∀ c i k, J c i = some k → σM'.1 r k = σM.1 r k) : q_mir J b r σC' σM' := by
  intro c i k hk
  rw [hC c i k hk, hM c i k hk]
  exact h c i k hk
theorem q_mir_C {J : Nat → Nat → Option Nat} {b r a i : Nat} {v : Int32} {σC σM : jw_M} (h : q_mir J b r σC σM) (ha : ∀ c k, J c i = some k → b + c ≠ a) : q_mir J b r (jx_w σC a i v) σM := by
  refine q_mir_k h (fun c j k hk => ?_) (fun _ _ _ _ => rfl)
  rw [q_w]
  by_cases e : j = i
  · subst e
    rw [if_neg (fun z => ha c k hk z.1)]
  · rw [if_neg (fun z => e z.2)]
theorem q_mir_M {J : Nat → Nat → Option Nat} {b r a i : Nat} {v : Int32} {σC σM : jw_M} (h : q_mir J b r σC σM) (hr : r ≠ a) : q_mir J b r σC (jx_w σM a i v) :=
  q_mir_k h (fun _ _ _ _ => rfl) (fun _ _ _ _ => q_wC hr)
/-- the school -/
def q_js (c i : Nat) : Option Nat :=
  if c = 0 then (if i = 0 then some 2 else if i = 5 then some 3 else if i = 12 then some 5 else if i = 14 then some 0 else if i = 15 then some 1 else none)
  else if c < 4 then (if i < 6 then some (5 + c + 3 * i) else none)
  else if c = 4 then (if i < 6 then some (64 + i) else none)
  else if c < 10 then (if i < 8 then some (19 + c + 5 * i) else none)
  else if c < 12 then none
  else if c < 18 then (if i < 4 then some (70 + 4 * (c - 12) + i) else none)
  else if c = 18 then (if i = 0 then some 4 else none)
  else none
def q_jsi (k : Nat) : Nat × Nat :=
  if k = 0 then (0, 14) else if k = 1 then (0, 15) else if k = 2 then (0, 0) else if k = 3 then (0, 5) else if k = 4 then (18, 0) else if k = 5 then (0, 12)
  else if k < 24 then (1 + (k - 6) % 3, (k - 6) / 3) else if k < 64 then (5 + (k - 24) % 5, (k - 24) / 5) else if k < 70 then (4, k - 64) else (12 + (k - 70) / 4, (k - 70) % 4)
theorem q_jsr {c i k : Nat} (h : q_js c i = some k) : c < 19 ∧ i < 16 := by
  unfold q_js at h
  repeat' split at h
  all_goals first
    | (cases h; done)
    | omega
def q_jsb (c i : Nat) : Bool := match q_js c i with
  | some k => decide (q_jsi k = (c, i)) && decide (k < 94)
  | none => true
theorem q_jsd : ∀ c, c < 19 → ∀ i, i < 16 → q_jsb c i = true := by decide +kernel
theorem q_jsv {c i k : Nat} (h : q_js c i = some k) : q_jsi k = (c, i) ∧ k < 94 := by
  obtain ⟨h1, h2⟩ := q_jsr h
  have z := q_jsd c h1 i h2
  unfold q_jsb at z
  rw [h] at z
  dsimp only at z
  rw [Bool.and_eq_true] at z
  exact ⟨of_decide_eq_true z.1, of_decide_eq_true z.2⟩
theorem q_jsJ : q_ji q_js := by
  intro c i c' i' k h h'
  have a := (q_jsv h).1
  rw [(q_jsv h').1] at a
  cases a
  exact ⟨rfl, rfl⟩
/-- how far all have come -/
def q_jp (c i : Nat) : Option Nat := if c = 0 then (if i < 2 then some i else none) else if c = 1 then (if i < 48 then some (8 + i) else none) else if c = 2 then (if i < 6 then some (2 + i) else none) else none
theorem q_jpr {c i k : Nat} (h : q_jp c i = some k) : c < 3 ∧ i < 48 ∧ k < 56 := by
  unfold q_jp at h
  repeat' split at h
  all_goals first
    | (cases h; done)
    | (cases h; omega)
theorem q_jpJ : q_ji q_jp := by
  intro c i c' i' k h h'
  unfold q_jp at h h'
  repeat' split at h
  all_goals first
    | (cases h; done)
    | (cases h
       repeat' split at h'
       all_goals first
         | (cases h'; done)
         | (have z := Option.some.inj h'; omega))
/-! ===== the simplest methods ===== -/
theorem u_seed {N : Nat} {x : Int32} {σC σM : jw_M} (h : q_mir q_js 1 3 σC σM) : f_F_seed N x σC = some (σM.1 3 1, jx_w σC 1 15 x) ∧ f_M_seed N x σM = some (σM.1 3 1, jx_w σM 3 1 x) := by
  refine ⟨?_, ?_⟩
  · unfold f_F_seed
    rw [show σC.1 1 15 = σM.1 3 1 from h 0 15 1 rfl]
  · unfold f_M_seed f_M_becomes
    rfl
theorem u_forget {N : Nat} {σC σM : jw_M} (h : q_mir q_js 1 3 σC σM) : f_F_forget N σC = some (σM.1 3 5, jx_w σC 1 12 0) ∧ f_M_forget N σM = some (σM.1 3 5, jx_w σM 3 5 0) := by
  refine ⟨?_, ?_⟩
  · unfold f_F_forget
    rw [show σC.1 1 12 = σM.1 3 5 from h 0 12 5 rfl]
  · unfold f_M_forget f_M_becomes
    rfl
end
section
/-! ===== pure: the JDK's counts of bits, over sets below 256 ===== -/
def q_z0 : jw_M := (fun _ _ => 0, fun _ _ => 0)
def q_bc (x : Int32) : Int32 := match f_J_bitCount 0 x q_z0 with | some z => z.1 | none => 0
theorem e_bitCount (N : Nat) (x : Int32) (σ : jw_M) : f_J_bitCount N x σ = some (q_bc x, σ) := rfl
def q_su (x k : Int32) : Int32 := (Int32.toUInt32 x >>> (Int32.toUInt32 k &&& Int32.toUInt32 31)).toInt32
def q_nlz4 (x0 x1 : Int32) : Int32 := if x0 < 4 then x1 - q_su x0 1 else x1 + (-2) - q_su (q_su x0 2) 1
def q_nlz3 (x0 x1 : Int32) : Int32 := if x0 < 16 then q_nlz4 x0 x1 else q_nlz4 (q_su x0 4) (x1 + (-4))
def q_nlz2 (x0 x1 : Int32) : Int32 := if x0 < 256 then q_nlz3 x0 x1 else q_nlz3 (q_su x0 8) (x1 + (-8))
def q_nlz (x0 : Int32) : Int32 := if 0 < x0 then if x0 < 65536 then q_nlz2 x0 31 else q_nlz2 (q_su x0 16) ((31 : Int32) + (-16)) else if x0 = 0 then 32 else 0
theorem e_nlz4 (N : Nat) (x0 x1 : Int32) (σ : jw_M) : f_J_numberOfLeadingZeros_61 N x0 x1 σ = some (q_nlz4 x0 x1, σ) := by
  unfold f_J_numberOfLeadingZeros_61 q_nlz4
  by_cases h : x0 < 4
  · simp only [if_pos h]
    rfl
  · simp only [if_neg h]
    rfl
theorem e_nlz3 (N : Nat) (x0 x1 : Int32) (σ : jw_M) : f_J_numberOfLeadingZeros_48 N x0 x1 σ = some (q_nlz3 x0 x1, σ) := by
  unfold f_J_numberOfLeadingZeros_48 q_nlz3
  by_cases h : x0 < 16
  · simp only [if_pos h, e_nlz4]
  · simp only [if_neg h, e_nlz4]
    rfl
theorem e_nlz2 (N : Nat) (x0 x1 : Int32) (σ : jw_M) : f_J_numberOfLeadingZeros_33 N x0 x1 σ = some (q_nlz2 x0 x1, σ) := by
  unfold f_J_numberOfLeadingZeros_33 q_nlz2
  by_cases h : x0 < 256
  · simp only [if_pos h, e_nlz3]
  · simp only [if_neg h, e_nlz3]
    rfl
theorem e_nlz (N : Nat) (x0 : Int32) (σ : jw_M) : f_J_numberOfLeadingZeros N x0 σ = some (q_nlz x0, σ) := by
  unfold f_J_numberOfLeadingZeros q_nlz
  by_cases h : 0 < x0
  · by_cases h2 : x0 < 65536
    · simp only [if_pos h, if_pos h2, e_nlz2]
    · simp only [if_pos h, if_neg h2, e_nlz2]
      rfl
  · by_cases h2 : x0 = 0
    · simp only [if_neg h, if_pos h2]
    · simp only [if_neg h, if_neg h2]
def q_ntz4 (x0 x1 : Int32) : Int32 := if x0 ≤ 4 then x1 + q_su x0 1 else x1 + 2 + q_su (q_su x0 2) 1
def q_ntz3 (x0 x1 : Int32) : Int32 := if x0 ≤ 16 then q_ntz4 x0 x1 else q_ntz4 (q_su x0 4) (x1 + 4)
def q_ntz2 (x0 x1 : Int32) : Int32 := if x0 ≤ 256 then q_ntz3 x0 x1 else q_ntz3 (q_su x0 8) (x1 + 8)
def q_ntz (x : Int32) : Int32 := if 0 < ((x ^^^ (-1)) &&& (x - 1)) then if ((x ^^^ (-1)) &&& (x - 1)) ≤ 65536 then q_ntz2 ((x ^^^ (-1)) &&& (x - 1)) 1 else q_ntz2 (q_su ((x ^^^ (-1)) &&& (x - 1)) 16) ((1 : Int32) + 16) else ((x ^^^ (-1)) &&& (x - 1)) &&& 32
theorem e_ntz4 (N : Nat) (x0 x1 : Int32) (σ : jw_M) : f_J_numberOfTrailingZeros_62 N x0 x1 σ = some (q_ntz4 x0 x1, σ) := by
  unfold f_J_numberOfTrailingZeros_62 q_ntz4
  by_cases h : x0 ≤ 4
  · simp only [if_pos h]
    rfl
  · simp only [if_neg h]
    rfl
theorem e_ntz3 (N : Nat) (x0 x1 : Int32) (σ : jw_M) : f_J_numberOfTrailingZeros_49 N x0 x1 σ = some (q_ntz3 x0 x1, σ) := by
  unfold f_J_numberOfTrailingZeros_49 q_ntz3
  by_cases h : x0 ≤ 16
  · simp only [if_pos h, e_ntz4]
  · simp only [if_neg h, e_ntz4]
    rfl
theorem e_ntz2 (N : Nat) (x0 x1 : Int32) (σ : jw_M) : f_J_numberOfTrailingZeros_34 N x0 x1 σ = some (q_ntz2 x0 x1, σ) := by
  unfold f_J_numberOfTrailingZeros_34 q_ntz2
  by_cases h : x0 ≤ 256
  · simp only [if_pos h, e_ntz3]
  · simp only [if_neg h, e_ntz3]
    rfl
theorem e_ntz (N : Nat) (x : Int32) (σ : jw_M) : f_J_numberOfTrailingZeros N x σ = some (q_ntz x, σ) := by
  unfold f_J_numberOfTrailingZeros q_ntz
  by_cases h : 0 < ((x ^^^ (-1)) &&& (x - 1))
  · by_cases h2 : ((x ^^^ (-1)) &&& (x - 1)) ≤ 65536
    · simp only [if_pos h, if_pos h2, e_ntz2]
    · simp only [if_pos h, if_neg h2, e_ntz2]
      rfl
  · simp only [if_neg h]
/-- the reference's count of ones -/
def q_on : Nat → Int32 → Int32 → Option Int32
  | 0, _, _ => none
  | k + 1, a, x => if x = 0 then some a else q_on k (a + 1) (x &&& (x - 1))
theorem e_on (N : Nat) (σ : jw_M) : ∀ (k : Nat) (a x : Int32), f_M_ones_4 N k a x σ = (q_on k a x).map (fun r => (r, σ))
  | 0, _, _ => rfl
  | k + 1, a, x => by
    rw [f_M_ones_4, q_on]
    by_cases h : x = 0
    · rw [if_pos h, if_pos h]
      rfl
    · rw [if_neg h, if_neg h]
      exact e_on N σ k _ _
theorem q_on_up : ∀ (k j : Nat) (a x r : Int32), q_on k a x = some r → q_on (k + j) a x = some r
  | 0, _, _, _, _, h => by cases h
  | k + 1, j, a, x, r, h => by
    rw [show k + 1 + j = (k + j) + 1 by omega, q_on]
    rw [q_on] at h
    by_cases e : x = 0
    · rw [if_pos e] at h ⊢
      exact h
    · rw [if_neg e] at h ⊢
      exact q_on_up k j _ _ _ h
theorem q_on8 : ∀ n, n < 256 → q_on 9 0 (nI n) = some (q_bc (nI n)) := by decide +kernel
theorem e_ones {N : Nat} (hN : 9 ≤ N) {n : Nat} (hn : n < 256) (σ : jw_M) : f_M_ones N (nI n) σ = some (q_bc (nI n), σ) := by
  unfold f_M_ones
  rw [e_on]
  obtain ⟨j, rfl⟩ : ∃ j, N = 9 + j := ⟨N - 9, by omega⟩
  rw [q_on_up 9 j _ _ _ (q_on8 n hn)]
  rfl
/-! ===== the choice among open lessons, as the reference tells it ===== -/
def q_ch (op : Nat → Bool) (lk : Nat → Int32) (todo : Int32) : Nat → Nat → Nat → Nat
  | 0, best, _ => best
  | k + 1, best, l => q_ch op lk todo k (if op l = true ∧ (best = 8 ∨ todo = 0 ∨ (todo = 1 ∧ lk l < lk best)) then l else best) (l + 1)
/-- a set below 256 as a choice: the last, the first -/
theorem q_last : ∀ n, n < 256 → 0 < n → (31 : Int32) - q_nlz (nI n) = nI (q_ch (fun l => n.testBit l) (fun _ => 0) 0 8 8 0) := by decide +kernel
theorem q_first : ∀ n, n < 256 → 0 < n → q_ntz (nI n) = nI (q_ch (fun l => n.testBit l) (fun _ => 0) 3 8 8 0) := by decide +kernel
theorem q_ch0 (op : Nat → Bool) (lk lk' : Nat → Int32) : ∀ k b l, q_ch op lk 0 k b l = q_ch op lk' 0 k b l
  | 0, _, _ => rfl
  | k + 1, b, l => by
    rw [q_ch, q_ch, q_ch0 op lk lk' k]
    simp
theorem q_ch3 (op : Nat → Bool) (lk lk' : Nat → Int32) {t t' : Int32} (h0 : t ≠ 0) (h1 : t ≠ 1) (h0' : t' ≠ 0) (h1' : t' ≠ 1) : ∀ k b l, q_ch op lk t k b l = q_ch op lk' t' k b l
  | 0, _, _ => rfl
  | k + 1, b, l => by
    rw [q_ch, q_ch, q_ch3 op lk lk' h0 h1 h0' h1' k]
    simp [h0, h1, h0', h1']
/-- only what is asked counts -/
theorem q_ch_op {op op' : Nat → Bool} {lk : Nat → Int32} {t : Int32} : ∀ k b l, (∀ j, l ≤ j → j < l + k → op j = op' j) → q_ch op lk t k b l = q_ch op' lk t k b l
  | 0, _, _, _ => rfl
  | k + 1, b, l, h => by
    rw [q_ch, q_ch, h l (Nat.le_refl l) (by omega)]
    exact q_ch_op k _ _ (fun j hj hk => h j (by omega) (by omega))
/-- what is open ends the count: none from there on -/
theorem q_ch_no {op : Nat → Bool} {lk : Nat → Int32} {t : Int32} : ∀ k b l, (∀ j, l ≤ j → j < l + k → op j = false) → q_ch op lk t k b l = b
  | 0, _, _, _ => rfl
  | k + 1, b, l, h => by
    rw [q_ch, if_neg (by rw [h l (Nat.le_refl l) (by omega)]; simp)]
    exact q_ch_no k _ _ (fun j hj hk => h j (by omega) (by omega))
theorem q_ch_add {op : Nat → Bool} {lk : Nat → Int32} {t : Int32} : ∀ k j b l, q_ch op lk t (k + j) b l = q_ch op lk t j (q_ch op lk t k b l) (l + k)
  | 0, j, b, l => by rw [Nat.zero_add]; rfl
  | k + 1, j, b, l => by
    rw [show k + 1 + j = (k + j) + 1 by omega, q_ch, q_ch_add k j, q_ch]
    rw [show l + 1 + k = l + (k + 1) by omega]
/-! ===== sets by their bits ===== -/
theorem q_one : ∀ i, i < 32 → bt 1 i = decide (i = 0) := by decide +kernel
theorem q_bx (x : Int32) {l : Nat} (hl : l < 32) : (x >>> (nI l &&& 31)) &&& 1 = bif bt x l then 1 else 0 := by
  apply b_ext
  intro i hi
  rw [b_and, b_sshr l hl x hi, q_one i hi]
  cases e : bt x l
  · rw [cond_false, b_0]
    by_cases z : i = 0
    · subst z
      rw [Nat.add_zero, if_pos hl, e, Bool.false_and]
    · rw [decide_eq_false z, Bool.and_false]
  · rw [cond_true, q_one i hi]
    by_cases z : i = 0
    · subst z
      rw [Nat.add_zero, if_pos hl, e, Bool.true_and]
    · rw [decide_eq_false z, Bool.and_false]
theorem q_bit1 (x : Int32) {l : Nat} (hl : l < 32) : ((x >>> (nI l &&& 31)) &&& 1) = 1 ↔ bt x l = true := by
  rw [q_bx x hl]
  cases bt x l
  · exact ⟨fun h => absurd h (by decide), fun h => absurd h (by decide)⟩
  · exact ⟨fun _ => rfl, fun _ => rfl⟩
theorem q_bit0 (x : Int32) {l : Nat} (hl : l < 32) : ((x >>> (nI l &&& 31)) &&& 1) = 0 ↔ bt x l = false := by
  rw [q_bx x hl]
  cases bt x l
  · exact ⟨fun _ => rfl, fun _ => rfl⟩
  · exact ⟨fun h => absurd h (by decide), fun h => absurd h (by decide)⟩
theorem q_sh1 {l : Nat} (hl : l < 32) {i : Nat} (hi : i < 32) : bt ((1 : Int32) <<< (nI l &&& 31)) i = decide (i = l) := by
  rw [b_shl l hl 1 hi, q_one (i - l) (by omega)]
  by_cases h : i = l
  · subst h
    simp
  · by_cases h2 : l ≤ i
    · rw [decide_eq_false h, decide_eq_false (by omega : ¬ i - l = 0), Bool.and_false]
    · rw [decide_eq_false h, decide_eq_false h2, Bool.false_and]
/-- without a set -/
theorem q_bn (x y : Int32) {i : Nat} (hi : i < 32) : bt (x &&& (y ^^^ (-1))) i = (bt x i && !bt y i) := by
  rw [b_and, b_xor, b_m1 i hi, Bool.xor_true]
theorem q_shz {x : Int32} {l : Nat} (hl : l < 32) (h : x >>> (nI l &&& 31) = 0) {i : Nat} (h1 : l ≤ i) (h2 : i < 32) : bt x i = false := by
  have z := b_sshr l hl x (i := i - l) (by omega)
  rw [h, b_0, if_pos (by omega), show l + (i - l) = i by omega] at z
  exact z.symm
theorem q_sm (x : Int32) (h : ∀ i, 8 ≤ i → i < 32 → bt x i = false) : ∃ n, n < 256 ∧ x = nI n ∧ ∀ i, i < 8 → n.testBit i = bt x i := by
  refine ⟨x.toBitVec.toNat % 2 ^ 8, Nat.mod_lt _ (by decide), ?_, fun i hi => ?_⟩
  · rw [← pk_and x (m := 255) 8 (by decide)]
    apply b_ext
    intro i hi
    rw [b_and, b_255]
    by_cases e : i < 8
    · rw [decide_eq_true e, Bool.and_true]
    · rw [decide_eq_false e, Bool.and_false, h i (by omega) hi]
  · rw [Nat.testBit_mod_two_pow, decide_eq_true hi, Bool.true_and]
    rfl
theorem q_ne0 {x : Int32} (h : x ≠ 0) : ∃ i, i < 32 ∧ bt x i = true := by
  apply Classical.byContradiction
  intro c
  apply h
  apply b_ext
  intro i hi
  rw [b_0]
  cases e : bt x i
  · rfl
  · exact absurd ⟨i, hi, e⟩ c
theorem q_lastS {x : Int32} (h : ∀ i, 8 ≤ i → i < 32 → bt x i = false) (h0 : x ≠ 0) (lk : Nat → Int32) : (31 : Int32) - q_nlz x = nI (q_ch (bt x) lk 0 8 8 0) := by
  obtain ⟨n, hn, rfl, hb⟩ := q_sm x h
  have n0 : 0 < n := Nat.pos_of_ne_zero (fun e => h0 (by rw [e]; rfl))
  rw [q_last n hn n0, q_ch0 _ (fun _ => 0) lk]
  rw [q_ch_op 8 8 0 (fun j _ hj => hb j (by omega))]
theorem q_firstS {x : Int32} (h : ∀ i, 8 ≤ i → i < 32 → bt x i = false) (h0 : x ≠ 0) (lk : Nat → Int32) {t : Int32} (t0 : t ≠ 0) (t1 : t ≠ 1) : q_ntz x = nI (q_ch (bt x) lk t 8 8 0) := by
  obtain ⟨n, hn, rfl, hb⟩ := q_sm x h
  have n0 : 0 < n := Nat.pos_of_ne_zero (fun e => h0 (by rw [e]; rfl))
  rw [q_first n hn n0, q_ch3 _ (fun _ => 0) lk (t' := t) (by decide) (by decide) t0 t1]
  rw [q_ch_op 8 8 0 (fun j _ hj => hb j (by omega))]
end
section
/-! ===== pure: which lessons are open, on the class's side ===== -/
def q_need (σ : jw_M) (has : Int32) (i : Nat) : Bool := decide (σ.1 7 i < 0) || bt has (σ.1 7 i).toNatClampNeg
theorem e_open45 {N p1 m : Nat} {σ : jw_M} {has : Int32} (hm : m ≤ 8) (h5 : σ.1 1 5 = nI m) (hn : ∀ l, l < m → σ.1 7 l < 0 ∨ ∃ j, j < 32 ∧ σ.1 7 l = nI j) : ∀ (r l k : Nat) (o : Int32), l + r = m → r < k → ∃ o', f_S_openTo_45 N p1 k has o (nI l) σ = some (o', σ) ∧ ∀ i, i < 32 → bt o' i = (bt o i && (decide (i < l) || decide (m ≤ i) || q_need σ has i))
  | 0, l, 0, _, _, h => absurd h (by omega)
  | r + 1, l, 0, _, _, h => absurd h (by omega)
  | 0, l, k + 1, o, hl, _ => by
    refine ⟨o, ?_, fun i _ => ?_⟩
    · rw [f_S_openTo_45, h5, if_pos (nI_le (by omega) (by omega))]
    · by_cases z : i < l
      · rw [decide_eq_true z, Bool.true_or, Bool.true_or, Bool.and_true]
      · rw [decide_eq_true (show m ≤ i by omega), Bool.or_true, Bool.true_or, Bool.and_true]
  | r + 1, l, k + 1, o, hl, hk => by
    rw [f_S_openTo_45, h5, if_neg (nI_ge (by omega) (by omega))]
    by_cases hz : o >>> (nI l &&& 31) = 0
    · refine ⟨o, by rw [if_pos hz], fun i hi => ?_⟩
      by_cases z : i < l
      · rw [decide_eq_true z, Bool.true_or, Bool.true_or, Bool.and_true]
      · rw [q_shz (by omega) hz (by omega) hi, Bool.false_and]
    · rw [if_neg hz, q_in (by omega) (by decide), cond_true, nI_clamp (by omega)]
      rcases hn l (by omega) with c | ⟨j, hj, c⟩
      · rw [if_pos c]
        unfold f_S_openTo_98
        rw [nI_1]
        obtain ⟨o', e1, e2⟩ := e_open45 hm h5 hn r (l + 1) k o (by omega) (by omega)
        refine ⟨o', e1, fun i hi => ?_⟩
        rw [e2 i hi]
        by_cases z : i = l
        · subst z
          have y : q_need σ has i = true := by
            unfold q_need
            rw [decide_eq_true c, Bool.true_or]
          rw [y, Bool.or_true, Bool.or_true]
        · rw [show decide (i < l + 1) = decide (i < l) from decide_eq_decide.mpr (by omega)]
      · rw [c, if_neg (nI_pos (by omega))]
        by_cases d : bt has j = true
        · rw [if_neg (fun y => by rw [q_bit0 has hj] at y; rw [y] at d; cases d)]
          unfold f_S_openTo_98
          rw [nI_1]
          obtain ⟨o', e1, e2⟩ := e_open45 hm h5 hn r (l + 1) k o (by omega) (by omega)
          refine ⟨o', e1, fun i hi => ?_⟩
          rw [e2 i hi]
          by_cases z : i = l
          · subst z
            have y : q_need σ has i = true := by
              unfold q_need
              rw [c, nI_clamp (by omega), d, Bool.or_true]
            rw [y, Bool.or_true, Bool.or_true]
          · rw [show decide (i < l + 1) = decide (i < l) from decide_eq_decide.mpr (by omega)]
        · have d' : bt has j = false := by
            cases y : bt has j
            · rfl
            · exact absurd y d
          rw [if_pos ((q_bit0 has hj).mpr d')]
          unfold f_S_openTo_98
          rw [nI_1]
          obtain ⟨o', e1, e2⟩ := e_open45 hm h5 hn r (l + 1) k (o &&& (((1 : Int32) <<< (nI l &&& 31)) ^^^ (-1))) (by omega) (by omega)
          refine ⟨o', e1, fun i hi => ?_⟩
          rw [e2 i hi, q_bn _ _ hi, q_sh1 (by omega) hi]
          by_cases z : i = l
          · subst z
            have y : q_need σ has i = false := by
              unfold q_need
              rw [c, nI_clamp (by omega), d', decide_eq_false (nI_pos (by omega)), Bool.or_false]
            rw [y, decide_eq_true rfl, Bool.not_true, Bool.and_false, Bool.false_and, decide_eq_false (by omega : ¬ i < i), decide_eq_false (by omega : ¬ m ≤ i), Bool.or_false, Bool.or_false, Bool.and_false]
          · rw [decide_eq_false z, Bool.not_false, Bool.and_true, show decide (i < l + 1) = decide (i < l) from decide_eq_decide.mpr (by omega)]
/-- the set of open lessons -/
theorem e_openTo {N p1 m h p : Nat} {σ : jw_M} {full : Int32} (hN : 9 ≤ N) (hp : p < 6) (hh : h ≤ 16) (hm : m ≤ 8) (h0 : σ.1 p1 0 = nI h) (h5 : σ.1 1 5 = nI m) (hn : ∀ l, l < m → σ.1 7 l < 0 ∨ ∃ j, j < 32 ∧ σ.1 7 l = nI j) (hg : ∀ i, m ≤ i → i < 32 → bt (σ.1 11 h) i = false) : ∃ o, f_S_openTo N p1 (nI p) full σ = some (o, σ) ∧ ∀ i, i < 32 → bt o i = (bt (σ.1 11 h) i && !bt (σ.1 (p1 + 2) p) i && !bt full i && q_need σ (σ.1 (p1 + 2) p) i) := by
  unfold f_S_openTo
  rw [h0, if_pos (show nI h < 17 from nI_lt (b := 17) (by omega) (by omega)), q_in hp (by decide), cond_true, q_in (show h < 17 by omega) (by decide), cond_true, nI_clamp (by omega), nI_clamp (by omega)]
  obtain ⟨o, e1, e2⟩ := e_open45 (N := N) (p1 := p1) (has := σ.1 (p1 + 2) p) hm h5 hn m 0 N ((σ.1 11 h &&& (σ.1 (p1 + 2) p ^^^ (-1))) &&& (full ^^^ (-1))) (by omega) (by omega)
  refine ⟨o, e1, fun i hi => ?_⟩
  rw [e2 i hi, q_bn _ _ hi, q_bn _ _ hi]
  by_cases z : m ≤ i
  · rw [hg i z hi, Bool.false_and, Bool.false_and, Bool.false_and, Bool.false_and]
  · rw [decide_eq_false z, decide_eq_false (by omega : ¬ i < 0), Bool.false_or, Bool.false_or]
end
section
/-! ===== pure: the choice, on the class's side ===== -/
def q_lk (σ : jw_M) (p1 p : Nat) (l : Nat) : Int32 := σ.1 6 l - σ.1 (p1 + 1) (p * 8 + l)
theorem q_ix8 (p l : Nat) : (nI p * 8) + nI l = nI (p * 8 + l) := by
  show (nI p * nI 8) + nI l = _
  rw [pk_mul, nI_add]
theorem e_easy {N p1 p m : Nat} {σ : jw_M} {o : Int32} (hp : p < 6) (hm : m ≤ 8) (h5 : σ.1 1 5 = nI m) (hlk : ∀ l, l < m → bt o l = true → q_lk σ p1 p l < 21) : ∀ (r l k best : Nat) (least : Int32), l + r = m → r < k → (best = 8 ∧ least = 21 ∨ best < 8 ∧ least = q_lk σ p1 p best) → f_S_easiest_11 N p1 k (nI p) o least (nI best) (nI l) σ = some (nI (q_ch (bt o) (q_lk σ p1 p) 1 r best l), σ)
  | 0, l, 0, _, _, _, h, _ => absurd h (by omega)
  | r + 1, l, 0, _, _, _, h, _ => absurd h (by omega)
  | 0, l, k + 1, best, least, hl, _, _ => by
    rw [f_S_easiest_11, h5, if_pos (nI_le (by omega) (by omega))]
    rfl
  | r + 1, l, k + 1, best, least, hl, hk, hb => by
    rw [f_S_easiest_11, h5, if_neg (nI_ge (by omega) (by omega)), q_in (show l < 8 by omega) (by decide), cond_true, q_ix8, q_in (show p * 8 + l < 48 by omega) (by decide), cond_true, nI_clamp (show l < 2 ^ 31 by omega), nI_clamp (show p * 8 + l < 2 ^ 31 by omega), q_ch]
    rw [show σ.1 6 l - σ.1 (p1 + 1) (p * 8 + l) = q_lk σ p1 p l from rfl]
    unfold f_S_easiest_67
    by_cases b : bt o l = true
    · rw [if_pos ((q_bit1 o (show l < 32 by omega)).mpr b)]
      by_cases c : least ≤ q_lk σ p1 p l
      · rw [if_pos c, nI_1]
        have no : ¬ (bt o l = true ∧ (best = 8 ∨ (1 : Int32) = 0 ∨ ((1 : Int32) = 1 ∧ q_lk σ p1 p l < q_lk σ p1 p best))) := by
          rintro ⟨_, z | z | ⟨_, z⟩⟩
          · rcases hb with ⟨_, y⟩ | ⟨y, _⟩
            · rw [y] at c
              exact absurd (hlk l (by omega) b) (Int32.not_lt.mpr c)
            · omega
          · exact absurd z (by decide)
          · rcases hb with ⟨y1, y⟩ | ⟨_, y⟩
            · rw [y] at c
              exact absurd (hlk l (by omega) b) (Int32.not_lt.mpr c)
            · rw [y] at c
              exact absurd z (Int32.not_lt.mpr c)
        rw [if_neg no]
        exact e_easy hp hm h5 hlk r (l + 1) k best least (by omega) (by omega) hb
      · rw [if_neg c, nI_1]
        have ye : bt o l = true ∧ (best = 8 ∨ (1 : Int32) = 0 ∨ ((1 : Int32) = 1 ∧ q_lk σ p1 p l < q_lk σ p1 p best)) := by
          refine ⟨b, ?_⟩
          rcases hb with ⟨y, _⟩ | ⟨_, y⟩
          · exact Or.inl y
          · rw [y] at c
            exact Or.inr (Or.inr ⟨rfl, Int32.not_le.mp c⟩)
        rw [if_pos ye]
        exact e_easy hp hm h5 hlk r (l + 1) k l _ (by omega) (by omega) (Or.inr ⟨by omega, rfl⟩)
    · rw [if_neg (fun z => b ((q_bit1 o (show l < 32 by omega)).mp z)), nI_1, if_neg (fun z => b z.1)]
      exact e_easy hp hm h5 hlk r (l + 1) k best least (by omega) (by omega) hb
def q_pick (op : Nat → Bool) (lk : Nat → Int32) (t : Int32) (m : Nat) : Nat := if t = 2 then 8 else q_ch op lk t m 8 0
theorem q_ch8 {op : Nat → Bool} {lk : Nat → Int32} {t : Int32} {m : Nat} (hm : m ≤ 8) (h : ∀ j, m ≤ j → j < 8 → op j = false) : q_ch op lk t 8 8 0 = q_ch op lk t m 8 0 := by
  rw [show (8 : Nat) = m + (8 - m) by omega, q_ch_add, q_ch_no (8 - m) _ (0 + m) (fun j h1 h2 => h j (by omega) (by omega))]
theorem q_pick_m {op : Nat → Bool} {lk : Nat → Int32} {m : Nat} : q_pick op lk 3 m = q_pick op lk (-1) m := by
  unfold q_pick
  rw [if_neg (by decide), if_neg (by decide), q_ch3 op lk lk (t := 3) (t' := -1) (by decide) (by decide) (by decide) (by decide)]
theorem e_choice {N p1 m h p : Nat} {σ σ' : jw_M} {full d : Int32} (hN : 9 ≤ N) (hp : p < 6) (hh : h ≤ 16) (hm : m ≤ 8) (h0 : σ.1 p1 0 = nI h) (h5 : σ.1 1 5 = nI m) (hn : ∀ l, l < m → σ.1 7 l < 0 ∨ ∃ j, j < 32 ∧ σ.1 7 l = nI j) (hg : ∀ i, m ≤ i → i < 32 → bt (σ.1 11 h) i = false) (hd : f_S_deedOf N p1 (nI p) σ = some (d, σ')) (hd4 : d = 0 ∨ d = 1 ∨ d = 2 ∨ d = 3) (hA : ∀ c i, c ≠ 26 → σ'.1 c i = σ.1 c i) (h26 : p1 + 1 ≠ 26) (hlk : ∀ l, l < m → bt (σ.1 (p1 + 2) p) l = false → q_lk σ p1 p l < 21) : ∃ o σ'', (∀ i, i < 32 → bt o i = (bt (σ.1 11 h) i && !bt (σ.1 (p1 + 2) p) i && !bt full i && q_need σ (σ.1 (p1 + 2) p) i)) ∧ f_S_choice N p1 (nI p) full σ = some (nI (q_pick (bt o) (q_lk σ p1 p) d m), σ'') ∧ (σ'' = σ ∨ σ'' = σ') := by
  obtain ⟨o, e1, e2⟩ := e_openTo (N := N) (p1 := p1) (full := full) hN hp hh hm h0 h5 hn hg
  have hz : ∀ i, m ≤ i → i < 32 → bt o i = false := by
    intro i z1 z2
    rw [e2 i z2, hg i z1 z2, Bool.false_and, Bool.false_and, Bool.false_and]
  have h8 : ∀ i, 8 ≤ i → i < 32 → bt o i = false := fun i z1 z2 => hz i (by omega) z2
  unfold f_S_choice
  rw [e1, Option.bind_some]
  dsimp only
  by_cases c : o = 0
  · refine ⟨o, σ, e2, ?_, Or.inl rfl⟩
    rw [if_pos c]
    have z : q_pick (bt o) (q_lk σ p1 p) d m = 8 := by
      unfold q_pick
      split
      · rfl
      · rw [q_ch_no m 8 0 (fun j _ _ => by rw [c, b_0])]
    rw [z]
    rfl
  · refine ⟨o, σ', e2, ?_, Or.inr rfl⟩
    rw [if_neg c, hd, Option.bind_some]
    dsimp only
    rcases hd4 with rfl | rfl | rfl | rfl
    · rw [if_pos rfl, e_nlz, Option.bind_some]
      dsimp only
      rw [q_lastS h8 c (q_lk σ p1 p)]
      unfold q_pick
      rw [if_neg (by decide), q_ch8 hm (fun j z1 z2 => hz j z1 (by omega))]
    · rw [if_neg (by decide), if_pos rfl]
      have k1 : σ'.1 1 5 = nI m := by rw [hA 1 5 (by decide), h5]
      have k2 : q_lk σ' p1 p = q_lk σ p1 p := by
        funext l
        unfold q_lk
        rw [hA 6 _ (by decide), hA (p1 + 1) _ h26]
      unfold f_S_easiest
      have k3 := e_easy (N := N) (p1 := p1) (o := o) hp hm k1 (by
        intro l hl hb
        rw [k2]
        apply hlk l hl
        have y := e2 l (by omega)
        rw [hb] at y
        cases w : bt (σ.1 (p1 + 2) p) l
        · rfl
        · rw [w] at y
          simp at y) m 0 N 8 21 (by omega) (by omega) (Or.inl ⟨rfl, rfl⟩)
      rw [show f_S_easiest_11 N p1 N (nI p) o 21 8 0 σ' = _ from k3, Option.bind_some]
      dsimp only
      rw [k2]
      unfold q_pick
      rw [if_neg (by decide)]
    · rw [if_neg (by decide), if_neg (by decide), if_pos rfl]
      rfl
    · rw [if_neg (by decide), if_neg (by decide), if_neg (by decide), e_ntz, Option.bind_some]
      dsimp only
      rw [q_firstS h8 c (q_lk σ p1 p) (t := 3) (by decide) (by decide)]
      unfold q_pick
      rw [if_neg (by decide), q_ch8 hm (fun j z1 z2 => hz j z1 (by omega))]
end
section
/-! ===== pure: the choice, on the reference's side ===== -/
theorem q_i5 (l w : Nat) : (24 + (5 * nI l)) + nI w = nI (24 + 5 * l + w) := by
  show (nI 24 + (nI 5 * nI l)) + nI w = _
  rw [pk_mul, nI_add, nI_add]
theorem q_i3 (p w : Nat) : (6 + (3 * nI p)) + nI w = nI (6 + 3 * p + w) := by
  show (nI 6 + (nI 3 * nI p)) + nI w = _
  rw [pk_mul, nI_add, nI_add]
theorem q_i2 (p : Nat) : 2 + nI p = nI (2 + p) := by
  show nI 2 + nI p = _
  rw [nI_add]
theorem q_i8 (p l : Nat) : (8 + (8 * nI p)) + nI l = nI (8 + 8 * p + l) := by
  show (nI 8 + (nI 8 * nI p)) + nI l = _
  rw [pk_mul, nI_add, nI_add]
theorem e_ln {N l w : Nat} {σ : jw_M} (hl : l < 8) (hw : w < 5) : f_M_lessonNumber N (nI l) (nI w) σ = some (σ.1 3 (24 + 5 * l + w), σ) := by
  unfold f_M_lessonNumber
  rw [q_i5, q_in (by omega) (by decide), cond_true, nI_clamp (by omega)]
theorem e_of {N p w : Nat} {σ : jw_M} (hp : p < 6) (hw : w < 3) : f_M_of N (nI p) (nI w) σ = some (σ.1 3 (6 + 3 * p + w), σ) := by
  unfold f_M_of
  rw [q_i3, q_in (by omega) (by decide), cond_true, nI_clamp (by omega)]
theorem e_has {N p l : Nat} {σ : jw_M} (hp : p < 6) (hl : l < 32) : f_M_hasLearnt N (nI p) (nI l) σ = some (bif bt (σ.1 1 (2 + p)) l then 1 else 0, σ) := by
  unfold f_M_hasLearnt
  rw [q_i2, q_in (by omega) (by decide), cond_true, nI_clamp (by omega)]
  cases e : bt (σ.1 1 (2 + p)) l
  · rw [if_neg (fun z => by rw [q_bit1 _ hl, e] at z; cases z), cond_false]
  · rw [if_pos ((q_bit1 _ hl).mpr e), cond_true]
theorem e_pts {N p l : Nat} {σ : jw_M} (hp : p < 6) (hl : l < 8) : f_M_pointsOf N (nI p) (nI l) σ = some (σ.1 1 (8 + 8 * p + l), σ) := by
  unfold f_M_pointsOf
  rw [q_i8, q_in (by omega) (by decide), cond_true, nI_clamp (by omega)]
def q_op (σ : jw_M) (p l : Nat) : Bool := !bt (σ.1 1 (2 + p)) l && (decide (σ.1 3 (24 + 5 * l + 1) < 0) || bt (σ.1 1 (2 + p)) (σ.1 3 (24 + 5 * l + 1)).toNatClampNeg) && (!decide (σ.1 1 0 < σ.1 3 (24 + 5 * l + 2)) && !decide (σ.1 3 (24 + 5 * l + 3) < σ.1 1 0)) && !decide (σ.1 3 (24 + 5 * l + 4) ≤ σ.1 10 l)
theorem e_isOpen29 {N l : Nat} {σ : jw_M} (hl : l < 8) : f_M_isOpen_29 N (nI l) σ = some (bif (!decide (σ.1 1 0 < σ.1 3 (24 + 5 * l + 2)) && !decide (σ.1 3 (24 + 5 * l + 3) < σ.1 1 0)) && !decide (σ.1 3 (24 + 5 * l + 4) ≤ σ.1 10 l) then 1 else 0, σ) := by
  unfold f_M_isOpen_29 f_M_in
  rw [show f_M_lessonNumber N (nI l) 2 σ = some (σ.1 3 (24 + 5 * l + 2), σ) from e_ln (w := 2) hl (by decide), Option.bind_some]
  dsimp only
  rw [show f_M_lessonNumber N (nI l) 3 σ = some (σ.1 3 (24 + 5 * l + 3), σ) from e_ln (w := 3) hl (by decide), Option.bind_some]
  dsimp only
  by_cases a : σ.1 1 0 < σ.1 3 (24 + 5 * l + 2)
  · rw [if_pos a, decide_eq_true a]
    rfl
  · rw [if_neg a, decide_eq_false a]
    by_cases b : σ.1 3 (24 + 5 * l + 3) < σ.1 1 0
    · rw [if_pos b, decide_eq_true b]
      rfl
    · rw [if_neg b, decide_eq_false b, Option.bind_some]
      dsimp only
      rw [if_neg (by decide), q_in hl (by decide), cond_true, nI_clamp (by omega), show f_M_lessonNumber N (nI l) 4 σ = some (σ.1 3 (24 + 5 * l + 4), σ) from e_ln (w := 4) hl (by decide), Option.bind_some]
      dsimp only
      by_cases c : σ.1 3 (24 + 5 * l + 4) ≤ σ.1 10 l
      · rw [if_pos c, decide_eq_true c]
        rfl
      · rw [if_neg c, decide_eq_false c]
        rfl
theorem e_isOpen {N p l : Nat} {σ : jw_M} (hp : p < 6) (hl : l < 8) (hn : σ.1 3 (24 + 5 * l + 1) < 0 ∨ ∃ j, j < 32 ∧ σ.1 3 (24 + 5 * l + 1) = nI j) : f_M_isOpen N (nI p) (nI l) σ = some (bif q_op σ p l then 1 else 0, σ) := by
  unfold f_M_isOpen q_op
  rw [show f_M_lessonNumber N (nI l) 1 σ = some (σ.1 3 (24 + 5 * l + 1), σ) from e_ln (w := 1) hl (by decide), Option.bind_some]
  dsimp only
  rw [e_has hp (by omega), Option.bind_some]
  dsimp only
  cases a : bt (σ.1 1 (2 + p)) l
  · rw [cond_false, if_pos rfl]
    rcases hn with c | ⟨j, hj, c⟩
    · rw [if_pos c, e_isOpen29 hl, decide_eq_true c, Bool.true_or, Bool.not_false, Bool.true_and, Bool.true_and]
    · rw [c, if_neg (nI_pos (by omega)), e_has hp hj, Option.bind_some, decide_eq_false (nI_pos (by omega)), Bool.false_or, nI_clamp (by omega), Bool.not_false, Bool.true_and]
      dsimp only
      cases b : bt (σ.1 1 (2 + p)) j
      · rw [cond_false, if_pos rfl]
        rfl
      · rw [cond_true, if_neg (by decide), e_isOpen29 hl, Bool.true_and]
  · rw [cond_true, if_neg (by decide)]
    rfl
def q_lkM (σ : jw_M) (p l : Nat) : Int32 := σ.1 3 (24 + 5 * l + 0) - σ.1 1 (8 + 8 * p + l)
theorem e_lacks {N p l : Nat} {σ : jw_M} (hp : p < 6) (hl : l < 8) : f_M_lacks N (nI p) (nI l) σ = some (q_lkM σ p l, σ) := by
  unfold f_M_lacks
  rw [show f_M_lessonNumber N (nI l) 0 σ = some (σ.1 3 (24 + 5 * l + 0), σ) from e_ln (w := 0) hl (by decide), Option.bind_some]
  dsimp only
  rw [e_pts hp hl, Option.bind_some]
  rfl
theorem e_Mch {N p m : Nat} {σ : jw_M} {t : Int32} (hp : p < 6) (hm : m ≤ 8) (h3 : σ.1 3 3 = nI m) (ht : t ≠ 2) (hn : ∀ l, l < m → σ.1 3 (24 + 5 * l + 1) < 0 ∨ ∃ j, j < 32 ∧ σ.1 3 (24 + 5 * l + 1) = nI j) : ∀ (r l k best : Nat), l + r = m → r < k → (best = 8 ∨ best < l) → f_M_choiceOf_12 N k (nI p) t (nI best) (nI l) σ = some (nI (q_ch (q_op σ p) (q_lkM σ p) t r best l), σ)
  | 0, l, 0, _, _, h, _ => absurd h (by omega)
  | r + 1, l, 0, _, _, h, _ => absurd h (by omega)
  | 0, l, k + 1, best, hl, _, _ => by
    rw [f_M_choiceOf_12, h3, if_pos (nI_le (by omega) (by omega))]
    rfl
  | r + 1, l, k + 1, best, hl, hk, hb => by
    rw [f_M_choiceOf_12, h3, if_neg (nI_ge (by omega) (by omega)), if_neg ht, e_isOpen hp (show l < 8 by omega) (hn l (by omega)), Option.bind_some, q_ch]
    dsimp only
    unfold f_M_choiceOf_91 f_M_choiceOf_72 f_M_choiceOf_76 f_M_choiceOf_77 f_M_choiceOf_90 f_M_choiceOf_91
    rw [nI_1, if_neg (show ¬ (1 : Int32) = 0 by decide), if_pos (show (0 : Int32) = 0 from rfl)]
    cases a : q_op σ p l
    · rw [cond_false, if_pos rfl, if_neg (fun z => by cases z.1)]
      exact e_Mch hp hm h3 ht hn r (l + 1) k best (by omega) (by omega) (by omega)
    · rw [cond_true, if_neg (show ¬ (1 : Int32) = 0 by decide)]
      have go := e_Mch (N := N) (t := t) hp hm h3 ht hn r (l + 1) k l (by omega) (by omega) (by omega)
      by_cases b : best = 8
      · rw [if_pos (show nI best = 8 by rw [b]; rfl), if_pos ⟨rfl, Or.inl b⟩]
        exact go
      · rw [if_neg (show ¬ nI best = 8 from fun z => b ((nI_eq (b := 8) (by omega) (by omega)).mp z))]
        by_cases c : t = 0
        · rw [if_pos c, if_pos ⟨rfl, Or.inr (Or.inl c)⟩]
          exact go
        · rw [if_neg c]
          by_cases d : t = 1
          · rw [if_pos d, e_lacks hp (show l < 8 by omega), Option.bind_some]
            dsimp only
            rw [e_lacks hp (show best < 8 by omega), Option.bind_some]
            dsimp only
            by_cases e : q_lkM σ p best ≤ q_lkM σ p l
            · rw [if_pos e, if_pos (show (0 : Int32) = 0 from rfl), if_neg (by
                rintro ⟨_, z | z | z⟩
                · exact b z
                · exact c z
                · exact absurd z.2 (Int32.not_lt.mpr e))]
              exact e_Mch hp hm h3 ht hn r (l + 1) k best (by omega) (by omega) (by omega)
            · rw [if_neg e, if_neg (show ¬ (1 : Int32) = 0 by decide), if_pos ⟨rfl, Or.inr (Or.inr ⟨d, Int32.not_le.mp e⟩)⟩]
              exact go
          · rw [if_neg d, if_neg (by
              rintro ⟨_, z | z | z⟩
              · exact b z
              · exact c z
              · exact d z.1)]
            exact e_Mch hp hm h3 ht hn r (l + 1) k best (by omega) (by omega) (by omega)
theorem e_Mchoice {N p m : Nat} {σ σ' : jw_M} {t : Int32} (hN : 9 ≤ N) (hp : p < 6) (hm : m ≤ 8) (hr : f_M_ruleFor N (nI p) σ = some (t, σ')) (h3 : σ'.1 3 3 = nI m) (hn : ∀ l, l < m → σ'.1 3 (24 + 5 * l + 1) < 0 ∨ ∃ j, j < 32 ∧ σ'.1 3 (24 + 5 * l + 1) = nI j) : f_M_choiceOf N (nI p) σ = some (nI (q_pick (q_op σ' p) (q_lkM σ' p) t m), σ') := by
  unfold f_M_choiceOf q_pick
  rw [hr, Option.bind_some]
  dsimp only
  by_cases ht : t = 2
  · rw [if_pos ht]
    obtain ⟨N, rfl⟩ : ∃ n, N = n + 1 := ⟨N - 1, by omega⟩
    subst ht
    rw [f_M_choiceOf_12]
    by_cases c : σ'.1 3 3 ≤ 0
    · rw [if_pos c]
      rfl
    · rw [if_neg c, if_pos rfl]
      rfl
  · rw [if_neg ht]
    exact e_Mch hp hm h3 ht hn m 0 N 8 (by omega) (by omega) (Or.inl rfl)
end
section
/-! ===== pure: paces ===== -/
def q_pc (x0 x1 x2 : Int32) : Int32 := if x0 = 1 then (if (x2 - x2 / 4 * 4) = 3 then 0 else x1) else if x0 = 2 then (if x2 = 6 then 0 else 2 * x1) else if x0 = 3 then (if x2 = 6 then 0 + 1 else 2 * x1 + 1) else if x0 = 4 then x1 / 2 + 1 else if x0 = 5 then x1 / 2 + 1 + (x2 - x2 / 4 * 4) else x1
theorem e_paceBy (N : Nat) (x0 x1 x2 : Int32) (σ : jw_M) : f_M_paceBy N x0 x1 x2 σ = some (q_pc x0 x1 x2, σ) := by
  unfold f_M_paceBy q_pc
  by_cases a : x0 = 1
  · simp only [if_pos a]
    by_cases b : (x2 - x2 / 4 * 4) = 3
    · simp only [if_pos b]
    · simp only [if_neg b]
  · simp only [if_neg a]
    by_cases a : x0 = 2
    · simp only [if_pos a]
      by_cases b : x2 = 6
      · simp only [if_pos b]
      · simp only [if_neg b]
    · simp only [if_neg a]
      by_cases a : x0 = 3
      · simp only [if_pos a]
        by_cases b : x2 = 6
        · simp only [if_pos b]
        · simp only [if_neg b]
      · simp only [if_neg a]
        by_cases a : x0 = 4
        · simp only [if_pos a]
        · simp only [if_neg a]
          by_cases a : x0 = 5
          · simp only [if_pos a]
          · simp only [if_neg a]
/-- the class's pace of a kind's thing -/
def q_paceIn (N r : Nat) (y4 y5 : Int32) (σ : jw_M) : Option (Int32 × jw_M) := if r = 32 then f_Z_Shade_paceIn N r y4 y5 σ else if r = 33 then f_Z_Joined_paceIn N y4 y5 σ else if r = 34 then f_Z_Gifted_paceIn N r y4 y5 σ else if r = 35 then f_Z_Coloured_paceIn N y4 y5 σ else if r = 36 then f_Z_Slow_paceIn N r y4 y5 σ else if r = 37 then f_Z_Borrowed_paceIn N y4 y5 σ else none
theorem e_paceIn {N k : Nat} (h1 : 1 ≤ k) (h5 : k ≤ 5) (y4 y5 : Int32) (σ : jw_M) : q_paceIn N (32 + k) y4 y5 σ = some (q_pc (nI k) y5 y4, σ) := by
  unfold q_paceIn
  rcases (show k = 1 ∨ k = 2 ∨ k = 3 ∨ k = 4 ∨ k = 5 by omega) with rfl | rfl | rfl | rfl | rfl
  · rw [if_neg (by decide), if_pos rfl]
    unfold f_Z_Joined_paceIn f_Z_Shade_paceIn q_pc
    rw [if_pos (show nI 1 = 1 from rfl)]
    by_cases b : (y4 - y4 / 4 * 4) = 3
    · rw [if_pos b, if_pos b]
    · rw [if_neg b, if_neg b]
      rfl
  · rw [if_neg (by decide), if_neg (by decide), if_pos rfl]
    unfold f_Z_Gifted_paceIn f_Z_Shade_paceIn q_pc
    rw [if_neg (show ¬ nI 2 = 1 by decide), if_pos (show nI 2 = 2 from rfl)]
    by_cases b : y4 = 6
    · rw [if_pos b, if_pos b]
    · rw [if_neg b, if_neg b]
      rfl
  · rw [if_neg (by decide), if_neg (by decide), if_neg (by decide), if_pos rfl]
    unfold f_Z_Coloured_paceIn f_Z_Gifted_paceIn f_Z_Shade_paceIn q_pc
    rw [if_neg (show ¬ nI 3 = 1 by decide), if_neg (show ¬ nI 3 = 2 by decide), if_pos (show nI 3 = 3 from rfl)]
    by_cases b : y4 = 6
    · rw [if_pos b, if_pos b]
      rfl
    · rw [if_neg b, if_neg b]
      rfl
  · rw [if_neg (by decide), if_neg (by decide), if_neg (by decide), if_neg (by decide), if_pos rfl]
    rfl
  · rw [if_neg (by decide), if_neg (by decide), if_neg (by decide), if_neg (by decide), if_neg (by decide), if_pos rfl]
    rfl
theorem e_thing {N p k : Nat} {σ : jw_M} (hp : p < 6) (hk : k ≤ 5) (h : σ.1 2 p = nI k) : f_S_thing N (nI p) σ = some (32 + k, σ) := by
  unfold f_S_thing f_S_thing_10
  rw [q_in hp (by decide), cond_true, nI_clamp (by omega), h, q_in (show k < 6 by omega) (by decide), cond_true, nI_clamp (by omega)]
/-! ===== a place is taken ===== -/
/-- what a shadow gains, on the class's side -/
theorem e_gain {N p1 p l : Nat} {σ : jw_M} {v hd : Int32} (hp : p < 6) (hl : l < 8) : f_P_gain N p1 (nI p) (nI l) v hd σ = some (if hd ≤ σ.1 (p1 + 1) (p * 8 + l) + v then (1, jx_w (jx_w σ (p1 + 1) (p * 8 + l) (σ.1 (p1 + 1) (p * 8 + l) + v)) (p1 + 2) p (σ.1 (p1 + 2) p ||| ((1 : Int32) <<< (nI l &&& 31)))) else (0, jx_w σ (p1 + 1) (p * 8 + l) (σ.1 (p1 + 1) (p * 8 + l) + v))) := by
  unfold f_P_gain
  rw [q_ix8, q_in (show p * 8 + l < 48 by omega) (by decide), cond_true, nI_clamp (show p * 8 + l < 2 ^ 31 by omega), q_wS, q_in hp (by decide), cond_true, nI_clamp (show p < 2 ^ 31 by omega), q_wC (show p1 + 2 ≠ p1 + 1 by omega)]
  by_cases c : hd ≤ σ.1 (p1 + 1) (p * 8 + l) + v
  · rw [if_pos c, if_pos c]
  · rw [if_neg c, if_neg c]
/-- on the reference's side -/
theorem e_sits {N p l : Nat} {σ : jw_M} (hp : p < 6) (hl : l < 8) : f_M_sits N (nI p) (nI l) σ = some (if σ.1 3 (24 + 5 * l + 0) ≤ σ.1 1 (8 + 8 * p + l) + q_pc (σ.1 3 (6 + 3 * p + 0)) (σ.1 3 (6 + 3 * p + 1)) (σ.1 1 0) then (σ.1 3 (24 + 5 * l + 0), jx_w (jx_w (jx_w σ 10 l (σ.1 10 l + 1)) 1 (8 + 8 * p + l) (σ.1 1 (8 + 8 * p + l) + q_pc (σ.1 3 (6 + 3 * p + 0)) (σ.1 3 (6 + 3 * p + 1)) (σ.1 1 0))) 1 (2 + p) (σ.1 1 (2 + p) ||| ((1 : Int32) <<< (nI l &&& 31)))) else (0, jx_w (jx_w σ 10 l (σ.1 10 l + 1)) 1 (8 + 8 * p + l) (σ.1 1 (8 + 8 * p + l) + q_pc (σ.1 3 (6 + 3 * p + 0)) (σ.1 3 (6 + 3 * p + 1)) (σ.1 1 0)))) := by
  unfold f_M_sits
  rw [q_in hl (by decide), cond_true, q_i8, q_in (show 8 + 8 * p + l < 56 by omega) (by decide), cond_true, nI_clamp (show l < 2 ^ 31 by omega), nI_clamp (show 8 + 8 * p + l < 2 ^ 31 by omega)]
  rw [show f_M_of N (nI p) 0 (jx_w σ 10 l (σ.1 10 l + 1)) = _ from e_of (w := 0) hp (by decide), Option.bind_some]
  dsimp only
  rw [show f_M_of N (nI p) 1 (jx_w σ 10 l (σ.1 10 l + 1)) = _ from e_of (w := 1) hp (by decide), Option.bind_some]
  dsimp only
  rw [e_paceBy, Option.bind_some]
  dsimp only
  rw [show ∀ τ : jw_M, f_M_lessonNumber N (nI l) 0 τ = some (τ.1 3 (24 + 5 * l + 0), τ) from fun τ => e_ln (w := 0) hl (by decide), Option.bind_some]
  dsimp only
  simp only [q_wS, q_wC (show (3 : Nat) ≠ 1 by decide), q_wC (show (3 : Nat) ≠ 10 by decide), q_wC (show (1 : Nat) ≠ 10 by decide)]
  rw [q_i2, q_in (show 2 + p < 56 by omega) (by decide), cond_true, nI_clamp (show 2 + p < 2 ^ 31 by omega)]
  rw [show ∀ τ : jw_M, f_M_lessonNumber N (nI l) 0 τ = some (τ.1 3 (24 + 5 * l + 0), τ) from fun τ => e_ln (w := 0) hl (by decide), Option.bind_some]
  dsimp only
  simp only [q_wS, q_wC (show (3 : Nat) ≠ 1 by decide), q_wC (show (3 : Nat) ≠ 10 by decide), q_wC (show (1 : Nat) ≠ 10 by decide), q_wI (show 2 + p ≠ 8 + 8 * p + l by omega)]
  by_cases c : σ.1 3 (24 + 5 * l + 0) ≤ σ.1 1 (8 + 8 * p + l) + q_pc (σ.1 3 (6 + 3 * p + 0)) (σ.1 3 (6 + 3 * p + 1)) (σ.1 1 0)
  · rw [if_pos c, if_pos c]
  · rw [if_neg c, if_neg c]
end
section
/-! ===== pure: conditions as steps; what they come to, on the class's side ===== -/
abbrev q_I : Type := Nat × (Bool × Nat) × (Bool × Nat)
def q_val (F : Nat → Int32) (v : Bool × Nat) : Int32 := bif v.1 then F v.2 else nI v.2
def q_cmp (F : Nat → Int32) (o : Nat) (a b : Bool × Nat) : Bool := if o = 0 then decide (q_val F a < q_val F b) else if o = 1 then decide (q_val F a = q_val F b) else decide (q_val F b < q_val F a)
def q_ev1 (F : Nat → Int32) (x : q_I) (s : List Bool) : List Bool := if x.1 < 3 then q_cmp F x.1 x.2.1 x.2.2 :: s else match s with
  | [] => []
  | b :: s' => if x.1 = 5 then (!b) :: s' else match s' with
    | [] => []
    | a :: s'' => (if x.1 = 3 then (a && b) else (a || b)) :: s''
def q_ev (F : Nat → Int32) : List q_I → List Bool → List Bool
  | [], s => s
  | x :: c, s => q_ev F c (q_ev1 F x s)
/-- so many wait, never more than nine -/
def q_dp : List q_I → Nat → Bool
  | [], _ => true
  | x :: c, n => if x.1 < 3 then decide (n < 9) && q_dp c (n + 1) else if x.1 = 5 then decide (1 ≤ n) && q_dp c n else decide (x.1 < 5) && decide (2 ≤ n) && q_dp c (n - 1)
def q_enc : List Bool → Nat
  | [] => 1
  | b :: s => 2 * q_enc s + (bif b then 1 else 0)
theorem q_encB : ∀ s : List Bool, q_enc s < 2 ^ (s.length + 1)
  | [] => by decide
  | b :: s => by
    have h := q_encB s
    rw [q_enc, List.length_cons, Nat.pow_succ]
    cases b
    · rw [cond_false]
      omega
    · rw [cond_true]
      omega
def q_top (s : List Bool) : Bool := match s with
  | [] => true
  | b :: _ => b
theorem q_encT (s : List Bool) : q_enc s % 2 = bif q_top s then 1 else 0 := by
  cases s with
  | nil => rfl
  | cons b s =>
    cases b
    · show (2 * q_enc s + 0) % 2 = 0
      omega
    · show (2 * q_enc s + 1) % 2 = 1
      omega
theorem q_B3 : ∀ n, n < 1024 → (((nI n >>> ((2 : Int32) &&& 31)) <<< ((1 : Int32) &&& 31)) ||| (((nI n >>> ((1 : Int32) &&& 31)) &&& 1) &&& (nI n &&& 1))) = nI (n / 4 * 2 + (n / 2 % 2) * (n % 2)) := by decide +kernel
theorem q_B4 : ∀ n, n < 1024 → ((((nI n >>> ((2 : Int32) &&& 31)) <<< ((1 : Int32) &&& 31)) ||| ((nI n >>> ((1 : Int32) &&& 31)) &&& 1)) ||| (nI n &&& 1)) = nI (n / 4 * 2 + (if n / 2 % 2 + n % 2 = 0 then 0 else 1)) := by decide +kernel
theorem q_B5 : ∀ n, n < 1024 → (nI n ^^^ 1) = nI (if n % 2 = 0 then n + 1 else n - 1) := by decide +kernel
theorem q_B1 : ∀ n, n < 1024 → ((nI n <<< ((1 : Int32) &&& 31)) ||| 1) = nI (2 * n + 1) := by decide +kernel
theorem q_B0 : ∀ n, n < 1024 → ((nI n <<< ((1 : Int32) &&& 31)) ||| 0) = nI (2 * n + 0) := by decide +kernel
theorem q_Bt : ∀ n, n < 1024 → (nI n &&& 1) = nI (n % 2) := by decide +kernel
/-- steps and values as the class lays them, from a step on -/
def q_cC (τ : jw_M) (F : Nat → Int32) : Nat → List q_I → Prop
  | _, [] => True
  | e, x :: c => τ.1 23 e = nI x.1 ∧ x.1 < 6 ∧ (x.1 < 3 → ∃ a b, a < 105 ∧ b < 105 ∧ τ.1 24 e = nI a ∧ τ.1 25 e = nI b ∧ τ.1 26 a = q_val F x.2.1 ∧ τ.1 26 b = q_val F x.2.2) ∧ q_cC τ F (e + 1) c
theorem e_compare {N : Nat} {F : Nat → Int32} {τ : jw_M} {o : Nat} (ho : o < 3) (a b : Bool × Nat) : ∃ r, f_J_compare N (q_val F a) (q_val F b) τ = some (r, τ) ∧ (r + 1 = nI o ↔ q_cmp F o a b = true) := by
  unfold f_J_compare q_cmp
  generalize q_val F a = x
  generalize q_val F b = y
  by_cases c : y ≤ x
  · by_cases d : x = y
    · refine ⟨0, by rw [if_pos c, if_pos d], ?_⟩
      subst d
      rcases (show o = 0 ∨ o = 1 ∨ o = 2 by omega) with rfl | rfl | rfl
      · rw [if_pos rfl]
        exact ⟨fun z => absurd z (by decide), fun z => absurd (of_decide_eq_true z) (Int32.lt_irrefl)⟩
      · rw [if_neg (by decide), if_pos rfl]
        exact ⟨fun _ => decide_eq_true rfl, fun _ => rfl⟩
      · rw [if_neg (by decide), if_neg (by decide)]
        exact ⟨fun z => absurd z (by decide), fun z => absurd (of_decide_eq_true z) (Int32.lt_irrefl)⟩
    · refine ⟨1, by rw [if_pos c, if_neg d], ?_⟩
      have l : y < x := by
        rw [Int32.lt_iff_toInt_lt]
        rw [Int32.le_iff_toInt_le] at c
        have n : x.toInt ≠ y.toInt := fun z => d (Int32.toInt_inj.mp z)
        omega
      rcases (show o = 0 ∨ o = 1 ∨ o = 2 by omega) with rfl | rfl | rfl
      · rw [if_pos rfl]
        exact ⟨fun z => absurd z (by decide), fun z => absurd (of_decide_eq_true z) (Int32.not_lt.mpr c)⟩
      · rw [if_neg (by decide), if_pos rfl]
        exact ⟨fun z => absurd z (by decide), fun z => absurd (of_decide_eq_true z) d⟩
      · rw [if_neg (by decide), if_neg (by decide)]
        exact ⟨fun _ => decide_eq_true l, fun _ => rfl⟩
  · refine ⟨-1, by rw [if_neg c], ?_⟩
    have l : x < y := Int32.not_le.mp c
    rcases (show o = 0 ∨ o = 1 ∨ o = 2 by omega) with rfl | rfl | rfl
    · rw [if_pos rfl]
      exact ⟨fun _ => decide_eq_true l, fun _ => rfl⟩
    · rw [if_neg (by decide), if_pos rfl]
      exact ⟨fun z => absurd z (by decide), fun z => absurd (of_decide_eq_true z) (fun w => c (by rw [w]; exact Int32.le_refl _))⟩
    · rw [if_neg (by decide), if_neg (by decide)]
      exact ⟨fun z => absurd z (by decide), fun z => absurd (Int32.le_of_lt (of_decide_eq_true z)) c⟩
end
section
/-! ===== pure: a condition's bits, on the class's side ===== -/
theorem q_enc10 {s : List Bool} (h : s.length ≤ 9) : q_enc s < 1024 :=
  Nat.lt_of_lt_of_le (q_encB s) (Nat.pow_le_pow_right (by decide) (by omega : s.length + 1 ≤ 10))
theorem q_encA (a b : Bool) (s : List Bool) : q_enc (b :: a :: s) / 4 * 2 + (q_enc (b :: a :: s) / 2 % 2) * (q_enc (b :: a :: s) % 2) = q_enc ((a && b) :: s) := by
  simp only [q_enc]
  generalize q_enc s = n
  cases a <;> cases b <;> simp only [cond_true, cond_false, Bool.and_true, Bool.and_false]
  · rw [show (2 * (2 * n + 0) + 0) % 2 = 0 by omega, Nat.mul_zero]
    omega
  · rw [show (2 * (2 * n + 0) + 1) / 2 % 2 = 0 by omega, Nat.zero_mul]
    omega
  · rw [show (2 * (2 * n + 1) + 0) % 2 = 0 by omega, Nat.mul_zero]
    omega
  · rw [show (2 * (2 * n + 1) + 1) / 2 % 2 = 1 by omega, show (2 * (2 * n + 1) + 1) % 2 = 1 by omega]
    omega
theorem q_encO (a b : Bool) (s : List Bool) : q_enc (b :: a :: s) / 4 * 2 + (if q_enc (b :: a :: s) / 2 % 2 + q_enc (b :: a :: s) % 2 = 0 then 0 else 1) = q_enc ((a || b) :: s) := by
  have e : q_enc (b :: a :: s) = 2 * (2 * q_enc s + (bif a then 1 else 0)) + (bif b then 1 else 0) := rfl
  show _ = 2 * q_enc s + (bif a || b then 1 else 0)
  generalize q_enc (b :: a :: s) = m at e ⊢
  generalize q_enc s = n at e ⊢
  cases a <;> cases b <;> simp only [cond_true, cond_false, Bool.or_true, Bool.or_false] at e ⊢
  · rw [if_pos (by omega)]
    omega
  · rw [if_neg (by omega)]
    omega
  · rw [if_neg (by omega)]
    omega
  · rw [if_neg (by omega)]
    omega
theorem q_encN (b : Bool) (s : List Bool) : (if q_enc (b :: s) % 2 = 0 then q_enc (b :: s) + 1 else q_enc (b :: s) - 1) = q_enc ((!b) :: s) := by
  have e : q_enc (b :: s) = 2 * q_enc s + (bif b then 1 else 0) := rfl
  show _ = 2 * q_enc s + (bif !b then 1 else 0)
  generalize q_enc (b :: s) = m at e ⊢
  generalize q_enc s = n at e ⊢
  cases b <;> simp only [cond_true, cond_false, Bool.not_true, Bool.not_false] at e ⊢
  · rw [if_pos (by omega)]
    omega
  · rw [if_neg (by omega)]
    omega
theorem e_holds5 {N t : Nat} {τ : jw_M} {F : Nat → Int32} (ht : t ≤ 100) : ∀ (c : List q_I) (e k : Nat) (s : List Bool), q_cC τ F e c → q_dp c s.length = true → s.length ≤ 9 → e + c.length = t → c.length < k → f_R_holds_5 N k (nI t) (nI (q_enc s)) (nI e) τ = some (bif q_top (q_ev F c s) then 1 else 0, τ)
  | [], _, 0, _, _, _, _, _, h => absurd h (by simp)
  | _ :: _, _, 0, _, _, _, _, _, h => absurd h (by simp)
  | [], e, k + 1, s, _, _, hs, he, _ => by
    rw [List.length_nil] at he
    rw [f_R_holds_5, if_pos (nI_le (by omega) (by omega)), q_Bt _ (q_enc10 hs), q_encT, q_ev]
    cases q_top s
    · rw [cond_false, cond_false, if_neg (by decide)]
    · rw [cond_true, cond_true, if_pos (show nI 1 = 1 from rfl)]
  | x :: c, e, k + 1, s, hc, hd, hs, he, hk => by
    rw [List.length_cons] at he hk
    obtain ⟨h1, h6, h2, h3⟩ := hc
    have hn := q_enc10 hs
    rw [f_R_holds_5, if_neg (nI_ge (by omega) (by omega)), q_in (show e < 100 by omega) (by decide), cond_true, nI_clamp (show e < 2 ^ 31 by omega), h1]
    unfold f_R_holds_146 f_R_holds_144 f_R_holds_146
    rw [nI_1, q_ev]
    rw [q_dp] at hd
    by_cases c3 : x.1 = 3
    · rw [if_pos (show nI x.1 = 3 by rw [c3]; rfl), q_B3 _ hn]
      rw [c3, if_neg (by decide), if_neg (by decide)] at hd
      simp only [Bool.and_eq_true, decide_eq_true_eq] at hd
      obtain ⟨⟨_, hl⟩, hd⟩ := hd
      match s, hs, hn, hl, hd with
      | b :: a :: s, hs, hn, hl, hd =>
        rw [q_encA]
        have z : q_ev1 F x (b :: a :: s) = (a && b) :: s := by
          unfold q_ev1
          rw [c3]
          rfl
        rw [z]
        exact e_holds5 ht c (e + 1) k _ h3 hd (by simp only [List.length_cons] at hs ⊢; omega) (by omega) (by omega)
    · rw [if_neg (show ¬ nI x.1 = 3 from fun z => c3 ((nI_eq (b := 3) (by omega) (by omega)).mp z))]
      by_cases c4 : x.1 = 4
      · rw [if_pos (show nI x.1 = 4 by rw [c4]; rfl), q_B4 _ hn]
        rw [c4, if_neg (by decide), if_neg (by decide)] at hd
        simp only [Bool.and_eq_true, decide_eq_true_eq] at hd
        obtain ⟨⟨_, hl⟩, hd⟩ := hd
        match s, hs, hn, hl, hd with
        | b :: a :: s, hs, hn, hl, hd =>
          rw [q_encO]
          have z : q_ev1 F x (b :: a :: s) = (a || b) :: s := by
            unfold q_ev1
            rw [c4]
            rfl
          rw [z]
          exact e_holds5 ht c (e + 1) k _ h3 hd (by simp only [List.length_cons] at hs ⊢; omega) (by omega) (by omega)
      · rw [if_neg (show ¬ nI x.1 = 4 from fun z => c4 ((nI_eq (b := 4) (by omega) (by omega)).mp z))]
        by_cases c5 : x.1 = 5
        · rw [if_pos (show nI x.1 = 5 by rw [c5]; rfl), q_B5 _ hn]
          rw [c5, if_neg (by decide), if_pos rfl] at hd
          simp only [Bool.and_eq_true, decide_eq_true_eq] at hd
          obtain ⟨hl, hd⟩ := hd
          match s, hs, hn, hl, hd with
          | b :: s, hs, hn, hl, hd =>
            rw [q_encN]
            have z : q_ev1 F x (b :: s) = (!b) :: s := by
              unfold q_ev1
              rw [c5]
              rfl
            rw [z]
            exact e_holds5 ht c (e + 1) k _ h3 hd (by simp only [List.length_cons] at hs ⊢; omega) (by omega) (by omega)
        · have c2 : x.1 < 3 := by omega
          rw [if_neg (show ¬ nI x.1 = 5 from fun z => c5 ((nI_eq (b := 5) (by omega) (by omega)).mp z))]
          obtain ⟨a, b, ha, hb, g1, g2, g3, g4⟩ := h2 c2
          rw [g1, q_in ha (by decide), cond_true, g2, q_in hb (by decide), cond_true, nI_clamp (show a < 2 ^ 31 by omega), nI_clamp (show b < 2 ^ 31 by omega), g3, g4]
          obtain ⟨r, r1, r2⟩ := e_compare (N := N) (F := F) (τ := τ) c2 x.2.1 x.2.2
          rw [r1, Option.bind_some]
          dsimp only
          rw [h1]
          rw [if_pos c2] at hd
          simp only [Bool.and_eq_true, decide_eq_true_eq] at hd
          have z : q_ev1 F x s = q_cmp F x.1 x.2.1 x.2.2 :: s := by
            unfold q_ev1
            rw [if_pos c2]
          rw [z]
          have go := e_holds5 (N := N) ht c (e + 1) k (q_cmp F x.1 x.2.1 x.2.2 :: s) h3 hd.2 (by rw [List.length_cons]; omega) (by omega) (by omega)
          rw [q_enc] at go
          cases w : q_cmp F x.1 x.2.1 x.2.2
          · rw [w, cond_false] at go
            rw [if_neg (fun y => by rw [r2.mp y] at w; cases w), q_B0 _ hn]
            exact go
          · rw [w, cond_true] at go
            rw [if_pos (r2.mpr w), q_B1 _ hn]
            exact go
end
section
/-! ===== pure: the rules, on the class's side ===== -/
abbrev q_L : Type := List (Nat × Nat × List q_I)
def q_rC (τ : jw_M) (F : Nat → Int32) : Nat → Nat → q_L → Prop
  | _, _, [] => True
  | r, e, x :: L => τ.1 20 r = nI x.1 ∧ x.1 ≤ 5 ∧ τ.1 21 r = nI x.2.1 ∧ x.2.1 ≤ 2 ∧ τ.1 22 r = nI (e + x.2.2.length) ∧ e + x.2.2.length ≤ 100 ∧ q_dp x.2.2 0 = true ∧ q_cC τ F e x.2.2 ∧ q_rC τ F (r + 1) (e + x.2.2.length) L
def q_under (k a : Nat) : Bool := decide (a = 0) || decide (a = k) || (decide (a = 2) && decide (k = 3)) || (decide (a = 4) && decide (k = 5))
theorem q_underT : ∀ k, k < 6 → 0 < k → ∀ a, a < 6 → (decide ((((jw_tab.getD k 0) >>> (nI a &&& 31)) &&& 1) = 1)) = q_under k a := by decide +kernel
def q_deed (F : Nat → Int32) (k : Nat) : q_L → Nat
  | [] => 3
  | x :: L => if q_under k x.1 = true ∧ q_top (q_ev F x.2.2 []) = true then x.2.1 else q_deed F k L
theorem e_under {N k a : Nat} {τ : jw_M} (h0 : 0 < k) (hk : k < 6) (ha : a < 6) : f_F_isOrIsUnder N (nI k) (nI a) τ = some (bif q_under k a then 1 else 0, τ) := by
  unfold f_F_isOrIsUnder
  rw [q_in hk (by decide), cond_true, nI_clamp (show k < 2 ^ 31 by omega), ← q_underT k hk h0 a ha]
  by_cases c : (((jw_tab.getD k 0) >>> (nI a &&& 31)) &&& 1) = 1
  · rw [if_pos c, decide_eq_true c, cond_true]
  · rw [if_neg c, decide_eq_false c, cond_false]
theorem e_holds {N e : Nat} {τ : jw_M} {F : Nat → Int32} {c : List q_I} (hN : 101 ≤ N) (he : e + c.length ≤ 100) (hd : q_dp c 0 = true) (hc : q_cC τ F e c) : f_R_holds N (nI e) (nI (e + c.length)) τ = some (bif q_top (q_ev F c []) then 1 else 0, τ) := by
  unfold f_R_holds
  exact e_holds5 he c e N [] hc hd (by decide) rfl (by omega)
theorem e_deed4 {N k n : Nat} {τ : jw_M} {F : Nat → Int32} (hN : 101 ≤ N) (h0 : 0 < k) (hk : k < 6) (hn : n ≤ 8) (h19 : τ.1 19 0 = nI n) : ∀ (L : q_L) (r e j : Nat), q_rC τ F r e L → r + L.length = n → L.length < j → f_R_deedFor_4 N j (nI k) (nI e) (nI r) τ = some (nI (q_deed F k L), τ)
  | [], _, _, 0, _, _, h => absurd h (by simp)
  | _ :: _, _, _, 0, _, _, h => absurd h (by simp)
  | [], r, e, j + 1, _, hr, _ => by
    rw [List.length_nil] at hr
    rw [f_R_deedFor_4, h19, if_pos (nI_le (by omega) (by omega))]
    rfl
  | x :: L, r, e, j + 1, hL, hr, hj => by
    rw [List.length_cons] at hr hj
    obtain ⟨g1, g2, g3, g4, g5, g6, g7, g8, g9⟩ := hL
    rw [f_R_deedFor_4, h19, if_neg (nI_ge (by omega) (by omega)), q_in (show r < 8 by omega) (by decide), cond_true, nI_clamp (show r < 2 ^ 31 by omega), g1, e_under h0 hk (by omega), Option.bind_some, q_deed]
    dsimp only
    unfold f_R_deedFor_46
    rw [q_in (show r < 8 by omega) (by decide), cond_true, nI_clamp (show r < 2 ^ 31 by omega), g5, nI_1]
    have go := e_deed4 (N := N) hN h0 hk hn h19 L (r + 1) (e + x.2.2.length) j g9 (by omega) (by omega)
    cases a : q_under k x.1
    · rw [cond_false, if_pos rfl, if_neg (fun z => by cases z.1)]
      exact go
    · rw [cond_true, if_neg (by decide), e_holds hN g6 g7 g8, Option.bind_some]
      dsimp only
      cases b : q_top (q_ev F x.2.2 [])
      · rw [cond_false, if_pos rfl, if_neg (fun z => by cases z.2)]
        rw [cond_true, g5]
        exact go
      · rw [cond_true, if_neg (by decide), if_pos ⟨rfl, rfl⟩, g3]
end
