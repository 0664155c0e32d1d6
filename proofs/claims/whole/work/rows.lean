section
-- ===== PART A: goes FIRST, ahead of the names: the tables' words, and 'selects' of the private methods out of them =====
/-- a private method of a class that the tables say can be made, by its rows of tables_1 -/
def lw_okq (q : MethodName × Nat) : Prop := (q.1.cls ≠ "java/lang/invoke/MethodHandle" ∧ q.1.cls ≠ "java/lang/invoke/VarHandle") ∧ Cond.instantiable q.1.cls q.2 ∈ tables_1 ∧ Cond.privateMethod q.1 ∈ tables_1 ∧ Cond.instanceMethod q.1 ∈ tables_1
theorem lw_p0 : lw_okq (⟨"NamesApart", "refuse", "(I)I"⟩, 11) := ⟨⟨by decide +kernel, by decide +kernel⟩, List.mem_of_getElem? (i := 17) (by decide +kernel), List.mem_of_getElem? (i := 346) (by decide +kernel), List.mem_of_getElem? (i := 347) (by decide +kernel)⟩
theorem lw_p1 : lw_okq (⟨"NamesApart$Reader", "readLevel", "(II)Z"⟩, 5) := ⟨⟨by decide +kernel, by decide +kernel⟩, List.mem_of_getElem? (i := 179) (by decide +kernel), List.mem_of_getElem? (i := 541) (by decide +kernel), List.mem_of_getElem? (i := 542) (by decide +kernel)⟩
theorem lw_p2 : lw_okq (⟨"NamesApart$Reader", "readPart", "(I)Z"⟩, 5) := ⟨⟨by decide +kernel, by decide +kernel⟩, List.mem_of_getElem? (i := 179) (by decide +kernel), List.mem_of_getElem? (i := 545) (by decide +kernel), List.mem_of_getElem? (i := 546) (by decide +kernel)⟩
theorem lw_p3 : lw_okq (⟨"NamesApart$Reader", "sign", "()I"⟩, 5) := ⟨⟨by decide +kernel, by decide +kernel⟩, List.mem_of_getElem? (i := 179) (by decide +kernel), List.mem_of_getElem? (i := 549) (by decide +kernel), List.mem_of_getElem? (i := 550) (by decide +kernel)⟩
theorem lw_p4 : lw_okq (⟨"NamesApart$Reader", "readNumber", "()Z"⟩, 5) := ⟨⟨by decide +kernel, by decide +kernel⟩, List.mem_of_getElem? (i := 179) (by decide +kernel), List.mem_of_getElem? (i := 556) (by decide +kernel), List.mem_of_getElem? (i := 557) (by decide +kernel)⟩
theorem lw_p5 : lw_okq (⟨"NamesApart$Reader", "nameOf", "(I)I"⟩, 5) := ⟨⟨by decide +kernel, by decide +kernel⟩, List.mem_of_getElem? (i := 179) (by decide +kernel), List.mem_of_getElem? (i := 564) (by decide +kernel), List.mem_of_getElem? (i := 565) (by decide +kernel)⟩
theorem lw_p6 : lw_okq (⟨"NamesApart$Reader", "readDenied", "(I)Z"⟩, 5) := ⟨⟨by decide +kernel, by decide +kernel⟩, List.mem_of_getElem? (i := 179) (by decide +kernel), List.mem_of_getElem? (i := 568) (by decide +kernel), List.mem_of_getElem? (i := 569) (by decide +kernel)⟩
theorem lw_p7 : lw_okq (⟨"NamesApart$Reader", "readEnclosed", "(I)Z"⟩, 5) := ⟨⟨by decide +kernel, by decide +kernel⟩, List.mem_of_getElem? (i := 179) (by decide +kernel), List.mem_of_getElem? (i := 572) (by decide +kernel), List.mem_of_getElem? (i := 573) (by decide +kernel)⟩
theorem lw_p8 : lw_okq (⟨"NamesApart", "seekGiving", "(I)I"⟩, 11) := ⟨⟨by decide +kernel, by decide +kernel⟩, List.mem_of_getElem? (i := 17) (by decide +kernel), List.mem_of_getElem? (i := 607) (by decide +kernel), List.mem_of_getElem? (i := 608) (by decide +kernel)⟩
theorem lw_p9 : lw_okq (⟨"NamesApart$Giving", "leftBeside", "(I)I"⟩, 11) := ⟨⟨by decide +kernel, by decide +kernel⟩, List.mem_of_getElem? (i := 139) (by decide +kernel), List.mem_of_getElem? (i := 624) (by decide +kernel), List.mem_of_getElem? (i := 625) (by decide +kernel)⟩
theorem lw_p10 : lw_okq (⟨"NamesApart$Giving", "weigh", "()V"⟩, 11) := ⟨⟨by decide +kernel, by decide +kernel⟩, List.mem_of_getElem? (i := 139) (by decide +kernel), List.mem_of_getElem? (i := 633) (by decide +kernel), List.mem_of_getElem? (i := 634) (by decide +kernel)⟩
theorem lw_p11 : lw_okq (⟨"NamesApart$Giving", "mostOf", "(I)I"⟩, 11) := ⟨⟨by decide +kernel, by decide +kernel⟩, List.mem_of_getElem? (i := 139) (by decide +kernel), List.mem_of_getElem? (i := 638) (by decide +kernel), List.mem_of_getElem? (i := 639) (by decide +kernel)⟩
theorem lw_p12 : lw_okq (⟨"NamesApart$Giving", "lettersOfMother", "(I)I"⟩, 11) := ⟨⟨by decide +kernel, by decide +kernel⟩, List.mem_of_getElem? (i := 139) (by decide +kernel), List.mem_of_getElem? (i := 643) (by decide +kernel), List.mem_of_getElem? (i := 644) (by decide +kernel)⟩
theorem lw_p13 : lw_okq (⟨"NamesApart$Giving", "worthOf", "(III)I"⟩, 11) := ⟨⟨by decide +kernel, by decide +kernel⟩, List.mem_of_getElem? (i := 139) (by decide +kernel), List.mem_of_getElem? (i := 647) (by decide +kernel), List.mem_of_getElem? (i := 648) (by decide +kernel)⟩
theorem lw_p14 : lw_okq (⟨"NamesApart$Giving", "lettersHeld", "()I"⟩, 11) := ⟨⟨by decide +kernel, by decide +kernel⟩, List.mem_of_getElem? (i := 139) (by decide +kernel), List.mem_of_getElem? (i := 653) (by decide +kernel), List.mem_of_getElem? (i := 654) (by decide +kernel)⟩
theorem lw_p15 : lw_okq (⟨"NamesApart$Giving", "search", "(III)V"⟩, 11) := ⟨⟨by decide +kernel, by decide +kernel⟩, List.mem_of_getElem? (i := 139) (by decide +kernel), List.mem_of_getElem? (i := 657) (by decide +kernel), List.mem_of_getElem? (i := 658) (by decide +kernel)⟩
def lw_privs_1 : List (MethodName × Nat) := [(⟨"NamesApart", "refuse", "(I)I"⟩, 11), (⟨"NamesApart$Reader", "readLevel", "(II)Z"⟩, 5), (⟨"NamesApart$Reader", "readPart", "(I)Z"⟩, 5), (⟨"NamesApart$Reader", "sign", "()I"⟩, 5), (⟨"NamesApart$Reader", "readNumber", "()Z"⟩, 5), (⟨"NamesApart$Reader", "nameOf", "(I)I"⟩, 5), (⟨"NamesApart$Reader", "readDenied", "(I)Z"⟩, 5), (⟨"NamesApart$Reader", "readEnclosed", "(I)Z"⟩, 5), (⟨"NamesApart", "seekGiving", "(I)I"⟩, 11), (⟨"NamesApart$Giving", "leftBeside", "(I)I"⟩, 11), (⟨"NamesApart$Giving", "weigh", "()V"⟩, 11), (⟨"NamesApart$Giving", "mostOf", "(I)I"⟩, 11), (⟨"NamesApart$Giving", "lettersOfMother", "(I)I"⟩, 11), (⟨"NamesApart$Giving", "worthOf", "(III)I"⟩, 11), (⟨"NamesApart$Giving", "lettersHeld", "()I"⟩, 11), (⟨"NamesApart$Giving", "search", "(III)V"⟩, 11)]
theorem lw_r1 : ∀ q ∈ lw_privs_1, lw_okq q := List.forall_mem_cons.mpr ⟨lw_p0, List.forall_mem_cons.mpr ⟨lw_p1, List.forall_mem_cons.mpr ⟨lw_p2, List.forall_mem_cons.mpr ⟨lw_p3, List.forall_mem_cons.mpr ⟨lw_p4, List.forall_mem_cons.mpr ⟨lw_p5, List.forall_mem_cons.mpr ⟨lw_p6, List.forall_mem_cons.mpr ⟨lw_p7, List.forall_mem_cons.mpr ⟨lw_p8, List.forall_mem_cons.mpr ⟨lw_p9, List.forall_mem_cons.mpr ⟨lw_p10, List.forall_mem_cons.mpr ⟨lw_p11, List.forall_mem_cons.mpr ⟨lw_p12, List.forall_mem_cons.mpr ⟨lw_p13, List.forall_mem_cons.mpr ⟨lw_p14, List.forall_mem_cons.mpr ⟨lw_p15, fun _ h => absurd h List.not_mem_nil⟩⟩⟩⟩⟩⟩⟩⟩⟩⟩⟩⟩⟩⟩⟩⟩
theorem lw_p16 : lw_okq (⟨"NamesApart$Giving", "reach", "(III)I"⟩, 11) := ⟨⟨by decide +kernel, by decide +kernel⟩, List.mem_of_getElem? (i := 139) (by decide +kernel), List.mem_of_getElem? (i := 661) (by decide +kernel), List.mem_of_getElem? (i := 662) (by decide +kernel)⟩
theorem lw_p17 : lw_okq (⟨"NamesApart$Giving", "openNow", "(I)I"⟩, 11) := ⟨⟨by decide +kernel, by decide +kernel⟩, List.mem_of_getElem? (i := 139) (by decide +kernel), List.mem_of_getElem? (i := 666) (by decide +kernel), List.mem_of_getElem? (i := 667) (by decide +kernel)⟩
theorem lw_p18 : lw_okq (⟨"NamesApart$Giving", "tallyFrom", "(I)I"⟩, 11) := ⟨⟨by decide +kernel, by decide +kernel⟩, List.mem_of_getElem? (i := 139) (by decide +kernel), List.mem_of_getElem? (i := 682) (by decide +kernel), List.mem_of_getElem? (i := 683) (by decide +kernel)⟩
theorem lw_p19 : lw_okq (⟨"NamesApart$Taking", "lookForTrouble", "()V"⟩, 4) := ⟨⟨by decide +kernel, by decide +kernel⟩, List.mem_of_getElem? (i := 204) (by decide +kernel), List.mem_of_getElem? (i := 715) (by decide +kernel), List.mem_of_getElem? (i := 716) (by decide +kernel)⟩
theorem lw_p20 : lw_okq (⟨"NamesApart$Taking", "isEnough", "(III)Z"⟩, 4) := ⟨⟨by decide +kernel, by decide +kernel⟩, List.mem_of_getElem? (i := 204) (by decide +kernel), List.mem_of_getElem? (i := 723) (by decide +kernel), List.mem_of_getElem? (i := 724) (by decide +kernel)⟩
theorem lw_p21 : lw_okq (⟨"NamesApart$Taking", "othersStandWell", "(I)Z"⟩, 4) := ⟨⟨by decide +kernel, by decide +kernel⟩, List.mem_of_getElem? (i := 204) (by decide +kernel), List.mem_of_getElem? (i := 727) (by decide +kernel), List.mem_of_getElem? (i := 728) (by decide +kernel)⟩
theorem lw_p22 : lw_okq (⟨"NamesApart$Street", "choose", "(IIII)V"⟩, 5) := ⟨⟨by decide +kernel, by decide +kernel⟩, List.mem_of_getElem? (i := 223) (by decide +kernel), List.mem_of_getElem? (i := 741) (by decide +kernel), List.mem_of_getElem? (i := 742) (by decide +kernel)⟩
theorem lw_p23 : lw_okq (⟨"NamesApart$Street", "sumApart", "(I)J"⟩, 5) := ⟨⟨by decide +kernel, by decide +kernel⟩, List.mem_of_getElem? (i := 223) (by decide +kernel), List.mem_of_getElem? (i := 756) (by decide +kernel), List.mem_of_getElem? (i := 757) (by decide +kernel)⟩
theorem lw_p24 : lw_okq (⟨"NamesApart$Words", "waysFrom", "(III)J"⟩, 3) := ⟨⟨by decide +kernel, by decide +kernel⟩, List.mem_of_getElem? (i := 246) (by decide +kernel), List.mem_of_getElem? (i := 774) (by decide +kernel), List.mem_of_getElem? (i := 775) (by decide +kernel)⟩
theorem lw_p25 : lw_okq (⟨"NamesApart$Words", "followersOf", "(II)I"⟩, 3) := ⟨⟨by decide +kernel, by decide +kernel⟩, List.mem_of_getElem? (i := 246) (by decide +kernel), List.mem_of_getElem? (i := 778) (by decide +kernel), List.mem_of_getElem? (i := 779) (by decide +kernel)⟩
theorem lw_p26 : lw_okq (⟨"NamesApart$Words", "firstFrom", "(II)I"⟩, 3) := ⟨⟨by decide +kernel, by decide +kernel⟩, List.mem_of_getElem? (i := 246) (by decide +kernel), List.mem_of_getElem? (i := 787) (by decide +kernel), List.mem_of_getElem? (i := 788) (by decide +kernel)⟩
theorem lw_p27 : lw_okq (⟨"NamesApart$State", "draw", "()I"⟩, 19) := ⟨⟨by decide +kernel, by decide +kernel⟩, List.mem_of_getElem? (i := 25) (by decide +kernel), List.mem_of_getElem? (i := 804) (by decide +kernel), List.mem_of_getElem? (i := 805) (by decide +kernel)⟩
theorem lw_p28 : lw_okq (⟨"NamesApart$State", "freeBeside", "(I)I"⟩, 19) := ⟨⟨by decide +kernel, by decide +kernel⟩, List.mem_of_getElem? (i := 25) (by decide +kernel), List.mem_of_getElem? (i := 811) (by decide +kernel), List.mem_of_getElem? (i := 812) (by decide +kernel)⟩
theorem lw_p29 : lw_okq (⟨"NamesApart$Voices", "speak", "(IIII)I"⟩, 5) := ⟨⟨by decide +kernel, by decide +kernel⟩, List.mem_of_getElem? (i := 265) (by decide +kernel), List.mem_of_getElem? (i := 828) (by decide +kernel), List.mem_of_getElem? (i := 829) (by decide +kernel)⟩
theorem lw_p30 : lw_okq (⟨"NamesApart$Voices", "begin", "(I)V"⟩, 5) := ⟨⟨by decide +kernel, by decide +kernel⟩, List.mem_of_getElem? (i := 265) (by decide +kernel), List.mem_of_getElem? (i := 836) (by decide +kernel), List.mem_of_getElem? (i := 837) (by decide +kernel)⟩
theorem lw_p31 : lw_okq (⟨"NamesApart$Voices", "run", "(IIII)I"⟩, 5) := ⟨⟨by decide +kernel, by decide +kernel⟩, List.mem_of_getElem? (i := 265) (by decide +kernel), List.mem_of_getElem? (i := 840) (by decide +kernel), List.mem_of_getElem? (i := 841) (by decide +kernel)⟩
def lw_privs_2 : List (MethodName × Nat) := [(⟨"NamesApart$Giving", "reach", "(III)I"⟩, 11), (⟨"NamesApart$Giving", "openNow", "(I)I"⟩, 11), (⟨"NamesApart$Giving", "tallyFrom", "(I)I"⟩, 11), (⟨"NamesApart$Taking", "lookForTrouble", "()V"⟩, 4), (⟨"NamesApart$Taking", "isEnough", "(III)Z"⟩, 4), (⟨"NamesApart$Taking", "othersStandWell", "(I)Z"⟩, 4), (⟨"NamesApart$Street", "choose", "(IIII)V"⟩, 5), (⟨"NamesApart$Street", "sumApart", "(I)J"⟩, 5), (⟨"NamesApart$Words", "waysFrom", "(III)J"⟩, 3), (⟨"NamesApart$Words", "followersOf", "(II)I"⟩, 3), (⟨"NamesApart$Words", "firstFrom", "(II)I"⟩, 3), (⟨"NamesApart$State", "draw", "()I"⟩, 19), (⟨"NamesApart$State", "freeBeside", "(I)I"⟩, 19), (⟨"NamesApart$Voices", "speak", "(IIII)I"⟩, 5), (⟨"NamesApart$Voices", "begin", "(I)V"⟩, 5), (⟨"NamesApart$Voices", "run", "(IIII)I"⟩, 5)]
theorem lw_r2 : ∀ q ∈ lw_privs_2, lw_okq q := List.forall_mem_cons.mpr ⟨lw_p16, List.forall_mem_cons.mpr ⟨lw_p17, List.forall_mem_cons.mpr ⟨lw_p18, List.forall_mem_cons.mpr ⟨lw_p19, List.forall_mem_cons.mpr ⟨lw_p20, List.forall_mem_cons.mpr ⟨lw_p21, List.forall_mem_cons.mpr ⟨lw_p22, List.forall_mem_cons.mpr ⟨lw_p23, List.forall_mem_cons.mpr ⟨lw_p24, List.forall_mem_cons.mpr ⟨lw_p25, List.forall_mem_cons.mpr ⟨lw_p26, List.forall_mem_cons.mpr ⟨lw_p27, List.forall_mem_cons.mpr ⟨lw_p28, List.forall_mem_cons.mpr ⟨lw_p29, List.forall_mem_cons.mpr ⟨lw_p30, List.forall_mem_cons.mpr ⟨lw_p31, fun _ h => absurd h List.not_mem_nil⟩⟩⟩⟩⟩⟩⟩⟩⟩⟩⟩⟩⟩⟩⟩⟩
theorem lw_p32 : lw_okq (⟨"NamesApart$State", "standsWell", "(I)Z"⟩, 19) := ⟨⟨by decide +kernel, by decide +kernel⟩, List.mem_of_getElem? (i := 25) (by decide +kernel), List.mem_of_getElem? (i := 907) (by decide +kernel), List.mem_of_getElem? (i := 908) (by decide +kernel)⟩
theorem lw_p33 : lw_okq (⟨"NamesApartModel", "fails", "(I)I"⟩, 23) := ⟨⟨by decide +kernel, by decide +kernel⟩, List.mem_of_getElem? (i := 924) (by decide +kernel), List.mem_of_getElem? (i := 1009) (by decide +kernel), List.mem_of_getElem? (i := 1010) (by decide +kernel)⟩
theorem lw_p34 : lw_okq (⟨"NamesApartModel", "byteAt", "(I)I"⟩, 23) := ⟨⟨by decide +kernel, by decide +kernel⟩, List.mem_of_getElem? (i := 924) (by decide +kernel), List.mem_of_getElem? (i := 1021) (by decide +kernel), List.mem_of_getElem? (i := 1022) (by decide +kernel)⟩
theorem lw_p35 : lw_okq (⟨"NamesApartModel", "isName", "(I)Z"⟩, 23) := ⟨⟨by decide +kernel, by decide +kernel⟩, List.mem_of_getElem? (i := 924) (by decide +kernel), List.mem_of_getElem? (i := 1031) (by decide +kernel), List.mem_of_getElem? (i := 1032) (by decide +kernel)⟩
theorem lw_p36 : lw_okq (⟨"NamesApartModel", "ofIt", "(II)I"⟩, 23) := ⟨⟨by decide +kernel, by decide +kernel⟩, List.mem_of_getElem? (i := 924) (by decide +kernel), List.mem_of_getElem? (i := 1036) (by decide +kernel), List.mem_of_getElem? (i := 1037) (by decide +kernel)⟩
theorem lw_p37 : lw_okq (⟨"NamesApartModel", "becomes", "(II)I"⟩, 23) := ⟨⟨by decide +kernel, by decide +kernel⟩, List.mem_of_getElem? (i := 924) (by decide +kernel), List.mem_of_getElem? (i := 1044) (by decide +kernel), List.mem_of_getElem? (i := 1045) (by decide +kernel)⟩
theorem lw_p38 : lw_okq (⟨"NamesApartModel", "setOf", "(I)I"⟩, 23) := ⟨⟨by decide +kernel, by decide +kernel⟩, List.mem_of_getElem? (i := 924) (by decide +kernel), List.mem_of_getElem? (i := 1052) (by decide +kernel), List.mem_of_getElem? (i := 1053) (by decide +kernel)⟩
theorem lw_p39 : lw_okq (⟨"NamesApartModel", "comes", "(II)V"⟩, 23) := ⟨⟨by decide +kernel, by decide +kernel⟩, List.mem_of_getElem? (i := 924) (by decide +kernel), List.mem_of_getElem? (i := 1070) (by decide +kernel), List.mem_of_getElem? (i := 1071) (by decide +kernel)⟩
theorem lw_p40 : lw_okq (⟨"NamesApartModel", "isPerson", "(I)Z"⟩, 23) := ⟨⟨by decide +kernel, by decide +kernel⟩, List.mem_of_getElem? (i := 924) (by decide +kernel), List.mem_of_getElem? (i := 1078) (by decide +kernel), List.mem_of_getElem? (i := 1079) (by decide +kernel)⟩
theorem lw_p41 : lw_okq (⟨"NamesApartModel", "of", "(II)I"⟩, 23) := ⟨⟨by decide +kernel, by decide +kernel⟩, List.mem_of_getElem? (i := 924) (by decide +kernel), List.mem_of_getElem? (i := 1083) (by decide +kernel), List.mem_of_getElem? (i := 1084) (by decide +kernel)⟩
theorem lw_p42 : lw_okq (⟨"NamesApartModel", "nameOf", "(I)I"⟩, 23) := ⟨⟨by decide +kernel, by decide +kernel⟩, List.mem_of_getElem? (i := 924) (by decide +kernel), List.mem_of_getElem? (i := 1087) (by decide +kernel), List.mem_of_getElem? (i := 1088) (by decide +kernel)⟩
theorem lw_p43 : lw_okq (⟨"NamesApartModel", "against", "(II)I"⟩, 23) := ⟨⟨by decide +kernel, by decide +kernel⟩, List.mem_of_getElem? (i := 924) (by decide +kernel), List.mem_of_getElem? (i := 1091) (by decide +kernel), List.mem_of_getElem? (i := 1092) (by decide +kernel)⟩
theorem lw_p44 : lw_okq (⟨"NamesApartModel", "clashes", "(II)Z"⟩, 23) := ⟨⟨by decide +kernel, by decide +kernel⟩, List.mem_of_getElem? (i := 924) (by decide +kernel), List.mem_of_getElem? (i := 1098) (by decide +kernel), List.mem_of_getElem? (i := 1099) (by decide +kernel)⟩
theorem lw_p45 : lw_okq (⟨"NamesApartModel", "areTwo", "(II)Z"⟩, 23) := ⟨⟨by decide +kernel, by decide +kernel⟩, List.mem_of_getElem? (i := 924) (by decide +kernel), List.mem_of_getElem? (i := 1121) (by decide +kernel), List.mem_of_getElem? (i := 1122) (by decide +kernel)⟩
theorem lw_p46 : lw_okq (⟨"NamesApartModel", "nearEach", "(IIZ)V"⟩, 23) := ⟨⟨by decide +kernel, by decide +kernel⟩, List.mem_of_getElem? (i := 924) (by decide +kernel), List.mem_of_getElem? (i := 1125) (by decide +kernel), List.mem_of_getElem? (i := 1126) (by decide +kernel)⟩
theorem lw_p47 : lw_okq (⟨"NamesApartModel", "worthOf", "(III)I"⟩, 23) := ⟨⟨by decide +kernel, by decide +kernel⟩, List.mem_of_getElem? (i := 924) (by decide +kernel), List.mem_of_getElem? (i := 1142) (by decide +kernel), List.mem_of_getElem? (i := 1143) (by decide +kernel)⟩
def lw_privs_3 : List (MethodName × Nat) := [(⟨"NamesApart$State", "standsWell", "(I)Z"⟩, 19), (⟨"NamesApartModel", "fails", "(I)I"⟩, 23), (⟨"NamesApartModel", "byteAt", "(I)I"⟩, 23), (⟨"NamesApartModel", "isName", "(I)Z"⟩, 23), (⟨"NamesApartModel", "ofIt", "(II)I"⟩, 23), (⟨"NamesApartModel", "becomes", "(II)I"⟩, 23), (⟨"NamesApartModel", "setOf", "(I)I"⟩, 23), (⟨"NamesApartModel", "comes", "(II)V"⟩, 23), (⟨"NamesApartModel", "isPerson", "(I)Z"⟩, 23), (⟨"NamesApartModel", "of", "(II)I"⟩, 23), (⟨"NamesApartModel", "nameOf", "(I)I"⟩, 23), (⟨"NamesApartModel", "against", "(II)I"⟩, 23), (⟨"NamesApartModel", "clashes", "(II)Z"⟩, 23), (⟨"NamesApartModel", "areTwo", "(II)Z"⟩, 23), (⟨"NamesApartModel", "nearEach", "(IIZ)V"⟩, 23), (⟨"NamesApartModel", "worthOf", "(III)I"⟩, 23)]
theorem lw_r3 : ∀ q ∈ lw_privs_3, lw_okq q := List.forall_mem_cons.mpr ⟨lw_p32, List.forall_mem_cons.mpr ⟨lw_p33, List.forall_mem_cons.mpr ⟨lw_p34, List.forall_mem_cons.mpr ⟨lw_p35, List.forall_mem_cons.mpr ⟨lw_p36, List.forall_mem_cons.mpr ⟨lw_p37, List.forall_mem_cons.mpr ⟨lw_p38, List.forall_mem_cons.mpr ⟨lw_p39, List.forall_mem_cons.mpr ⟨lw_p40, List.forall_mem_cons.mpr ⟨lw_p41, List.forall_mem_cons.mpr ⟨lw_p42, List.forall_mem_cons.mpr ⟨lw_p43, List.forall_mem_cons.mpr ⟨lw_p44, List.forall_mem_cons.mpr ⟨lw_p45, List.forall_mem_cons.mpr ⟨lw_p46, List.forall_mem_cons.mpr ⟨lw_p47, fun _ h => absurd h List.not_mem_nil⟩⟩⟩⟩⟩⟩⟩⟩⟩⟩⟩⟩⟩⟩⟩⟩
theorem lw_p48 : lw_okq (⟨"NamesApartModel", "worthBy", "(IIII)I"⟩, 23) := ⟨⟨by decide +kernel, by decide +kernel⟩, List.mem_of_getElem? (i := 924) (by decide +kernel), List.mem_of_getElem? (i := 1146) (by decide +kernel), List.mem_of_getElem? (i := 1147) (by decide +kernel)⟩
theorem lw_p49 : lw_okq (⟨"NamesApartModel", "soundOf", "(I)I"⟩, 23) := ⟨⟨by decide +kernel, by decide +kernel⟩, List.mem_of_getElem? (i := 924) (by decide +kernel), List.mem_of_getElem? (i := 1150) (by decide +kernel), List.mem_of_getElem? (i := 1151) (by decide +kernel)⟩
theorem lw_p50 : lw_okq (⟨"NamesApartModel", "longOf", "(I)I"⟩, 23) := ⟨⟨by decide +kernel, by decide +kernel⟩, List.mem_of_getElem? (i := 924) (by decide +kernel), List.mem_of_getElem? (i := 1154) (by decide +kernel), List.mem_of_getElem? (i := 1155) (by decide +kernel)⟩
theorem lw_p51 : lw_okq (⟨"NamesApartModel", "likes", "(III)I"⟩, 23) := ⟨⟨by decide +kernel, by decide +kernel⟩, List.mem_of_getElem? (i := 924) (by decide +kernel), List.mem_of_getElem? (i := 1161) (by decide +kernel), List.mem_of_getElem? (i := 1162) (by decide +kernel)⟩
theorem lw_p52 : lw_okq (⟨"NamesApartModel", "works", "(IIII)I"⟩, 23) := ⟨⟨by decide +kernel, by decide +kernel⟩, List.mem_of_getElem? (i := 924) (by decide +kernel), List.mem_of_getElem? (i := 1165) (by decide +kernel), List.mem_of_getElem? (i := 1166) (by decide +kernel)⟩
theorem lw_p53 : lw_okq (⟨"NamesApartModel", "isLawful", "()Z"⟩, 23) := ⟨⟨by decide +kernel, by decide +kernel⟩, List.mem_of_getElem? (i := 924) (by decide +kernel), List.mem_of_getElem? (i := 1179) (by decide +kernel), List.mem_of_getElem? (i := 1180) (by decide +kernel)⟩
theorem lw_p54 : lw_okq (⟨"NamesApartModel", "isStruck", "(I)Z"⟩, 23) := ⟨⟨by decide +kernel, by decide +kernel⟩, List.mem_of_getElem? (i := 924) (by decide +kernel), List.mem_of_getElem? (i := 1183) (by decide +kernel), List.mem_of_getElem? (i := 1184) (by decide +kernel)⟩
theorem lw_p55 : lw_okq (⟨"NamesApartModel", "whole", "()V"⟩, 23) := ⟨⟨by decide +kernel, by decide +kernel⟩, List.mem_of_getElem? (i := 924) (by decide +kernel), List.mem_of_getElem? (i := 1191) (by decide +kernel), List.mem_of_getElem? (i := 1192) (by decide +kernel)⟩
theorem lw_p56 : lw_okq (⟨"NamesApartModel", "both", "()V"⟩, 23) := ⟨⟨by decide +kernel, by decide +kernel⟩, List.mem_of_getElem? (i := 924) (by decide +kernel), List.mem_of_getElem? (i := 1195) (by decide +kernel), List.mem_of_getElem? (i := 1196) (by decide +kernel)⟩
theorem lw_p57 : lw_okq (⟨"NamesApartModel", "compared", "()V"⟩, 23) := ⟨⟨by decide +kernel, by decide +kernel⟩, List.mem_of_getElem? (i := 924) (by decide +kernel), List.mem_of_getElem? (i := 1199) (by decide +kernel), List.mem_of_getElem? (i := 1200) (by decide +kernel)⟩
theorem lw_p58 : lw_okq (⟨"NamesApartModel", "sum", "()V"⟩, 23) := ⟨⟨by decide +kernel, by decide +kernel⟩, List.mem_of_getElem? (i := 924) (by decide +kernel), List.mem_of_getElem? (i := 1203) (by decide +kernel), List.mem_of_getElem? (i := 1204) (by decide +kernel)⟩
theorem lw_p59 : lw_okq (⟨"NamesApartModel", "product", "()V"⟩, 23) := ⟨⟨by decide +kernel, by decide +kernel⟩, List.mem_of_getElem? (i := 924) (by decide +kernel), List.mem_of_getElem? (i := 1207) (by decide +kernel), List.mem_of_getElem? (i := 1208) (by decide +kernel)⟩
theorem lw_p60 : lw_okq (⟨"NamesApartModel", "one", "()V"⟩, 23) := ⟨⟨by decide +kernel, by decide +kernel⟩, List.mem_of_getElem? (i := 924) (by decide +kernel), List.mem_of_getElem? (i := 1211) (by decide +kernel), List.mem_of_getElem? (i := 1212) (by decide +kernel)⟩
theorem lw_p61 : lw_okq (⟨"NamesApartModel", "letterHere", "()I"⟩, 23) := ⟨⟨by decide +kernel, by decide +kernel⟩, List.mem_of_getElem? (i := 924) (by decide +kernel), List.mem_of_getElem? (i := 1215) (by decide +kernel), List.mem_of_getElem? (i := 1216) (by decide +kernel)⟩
theorem lw_p62 : lw_okq (⟨"NamesApartModel", "here", "()I"⟩, 23) := ⟨⟨by decide +kernel, by decide +kernel⟩, List.mem_of_getElem? (i := 924) (by decide +kernel), List.mem_of_getElem? (i := 1219) (by decide +kernel), List.mem_of_getElem? (i := 1220) (by decide +kernel)⟩
theorem lw_p63 : lw_okq (⟨"NamesApartModel", "puts", "(I)V"⟩, 23) := ⟨⟨by decide +kernel, by decide +kernel⟩, List.mem_of_getElem? (i := 924) (by decide +kernel), List.mem_of_getElem? (i := 1225) (by decide +kernel), List.mem_of_getElem? (i := 1226) (by decide +kernel)⟩
def lw_privs_4 : List (MethodName × Nat) := [(⟨"NamesApartModel", "worthBy", "(IIII)I"⟩, 23), (⟨"NamesApartModel", "soundOf", "(I)I"⟩, 23), (⟨"NamesApartModel", "longOf", "(I)I"⟩, 23), (⟨"NamesApartModel", "likes", "(III)I"⟩, 23), (⟨"NamesApartModel", "works", "(IIII)I"⟩, 23), (⟨"NamesApartModel", "isLawful", "()Z"⟩, 23), (⟨"NamesApartModel", "isStruck", "(I)Z"⟩, 23), (⟨"NamesApartModel", "whole", "()V"⟩, 23), (⟨"NamesApartModel", "both", "()V"⟩, 23), (⟨"NamesApartModel", "compared", "()V"⟩, 23), (⟨"NamesApartModel", "sum", "()V"⟩, 23), (⟨"NamesApartModel", "product", "()V"⟩, 23), (⟨"NamesApartModel", "one", "()V"⟩, 23), (⟨"NamesApartModel", "letterHere", "()I"⟩, 23), (⟨"NamesApartModel", "here", "()I"⟩, 23), (⟨"NamesApartModel", "puts", "(I)V"⟩, 23)]
theorem lw_r4 : ∀ q ∈ lw_privs_4, lw_okq q := List.forall_mem_cons.mpr ⟨lw_p48, List.forall_mem_cons.mpr ⟨lw_p49, List.forall_mem_cons.mpr ⟨lw_p50, List.forall_mem_cons.mpr ⟨lw_p51, List.forall_mem_cons.mpr ⟨lw_p52, List.forall_mem_cons.mpr ⟨lw_p53, List.forall_mem_cons.mpr ⟨lw_p54, List.forall_mem_cons.mpr ⟨lw_p55, List.forall_mem_cons.mpr ⟨lw_p56, List.forall_mem_cons.mpr ⟨lw_p57, List.forall_mem_cons.mpr ⟨lw_p58, List.forall_mem_cons.mpr ⟨lw_p59, List.forall_mem_cons.mpr ⟨lw_p60, List.forall_mem_cons.mpr ⟨lw_p61, List.forall_mem_cons.mpr ⟨lw_p62, List.forall_mem_cons.mpr ⟨lw_p63, fun _ h => absurd h List.not_mem_nil⟩⟩⟩⟩⟩⟩⟩⟩⟩⟩⟩⟩⟩⟩⟩⟩
theorem lw_p64 : lw_okq (⟨"NamesApartModel", "takes", "(I)Z"⟩, 23) := ⟨⟨by decide +kernel, by decide +kernel⟩, List.mem_of_getElem? (i := 924) (by decide +kernel), List.mem_of_getElem? (i := 1229) (by decide +kernel), List.mem_of_getElem? (i := 1230) (by decide +kernel)⟩
theorem lw_p65 : lw_okq (⟨"NamesApartModel", "follows", "(III)Z"⟩, 23) := ⟨⟨by decide +kernel, by decide +kernel⟩, List.mem_of_getElem? (i := 924) (by decide +kernel), List.mem_of_getElem? (i := 1237) (by decide +kernel), List.mem_of_getElem? (i := 1238) (by decide +kernel)⟩
theorem lw_p66 : lw_okq (⟨"NamesApartModel", "asked", "(II)I"⟩, 23) := ⟨⟨by decide +kernel, by decide +kernel⟩, List.mem_of_getElem? (i := 924) (by decide +kernel), List.mem_of_getElem? (i := 1248) (by decide +kernel), List.mem_of_getElem? (i := 1249) (by decide +kernel)⟩
theorem lw_p67 : lw_okq (⟨"NamesApartModel", "areMany", "()Z"⟩, 23) := ⟨⟨by decide +kernel, by decide +kernel⟩, List.mem_of_getElem? (i := 924) (by decide +kernel), List.mem_of_getElem? (i := 1252) (by decide +kernel), List.mem_of_getElem? (i := 1253) (by decide +kernel)⟩
theorem lw_p68 : lw_okq (⟨"NamesApartModel", "findGivings", "(I)V"⟩, 23) := ⟨⟨by decide +kernel, by decide +kernel⟩, List.mem_of_getElem? (i := 924) (by decide +kernel), List.mem_of_getElem? (i := 1257) (by decide +kernel), List.mem_of_getElem? (i := 1258) (by decide +kernel)⟩
theorem lw_p69 : lw_okq (⟨"NamesApartModel", "givesFrom", "(II)V"⟩, 23) := ⟨⟨by decide +kernel, by decide +kernel⟩, List.mem_of_getElem? (i := 924) (by decide +kernel), List.mem_of_getElem? (i := 1261) (by decide +kernel), List.mem_of_getElem? (i := 1262) (by decide +kernel)⟩
theorem lw_p70 : lw_okq (⟨"NamesApartModel", "by", "(I)I"⟩, 23) := ⟨⟨by decide +kernel, by decide +kernel⟩, List.mem_of_getElem? (i := 924) (by decide +kernel), List.mem_of_getElem? (i := 1265) (by decide +kernel), List.mem_of_getElem? (i := 1266) (by decide +kernel)⟩
theorem lw_p71 : lw_okq (⟨"NamesApartModel", "letters", "()I"⟩, 23) := ⟨⟨by decide +kernel, by decide +kernel⟩, List.mem_of_getElem? (i := 924) (by decide +kernel), List.mem_of_getElem? (i := 1269) (by decide +kernel), List.mem_of_getElem? (i := 1270) (by decide +kernel)⟩
theorem lw_p72 : lw_okq (⟨"NamesApartModel", "names", "(II)V"⟩, 23) := ⟨⟨by decide +kernel, by decide +kernel⟩, List.mem_of_getElem? (i := 924) (by decide +kernel), List.mem_of_getElem? (i := 1273) (by decide +kernel), List.mem_of_getElem? (i := 1274) (by decide +kernel)⟩
theorem lw_p73 : lw_okq (⟨"NamesApartModel", "nameThen", "(I)I"⟩, 23) := ⟨⟨by decide +kernel, by decide +kernel⟩, List.mem_of_getElem? (i := 924) (by decide +kernel), List.mem_of_getElem? (i := 1277) (by decide +kernel), List.mem_of_getElem? (i := 1278) (by decide +kernel)⟩
theorem lw_p74 : lw_okq (⟨"NamesApartModel", "mayAll", "(II)Z"⟩, 23) := ⟨⟨by decide +kernel, by decide +kernel⟩, List.mem_of_getElem? (i := 924) (by decide +kernel), List.mem_of_getElem? (i := 1302) (by decide +kernel), List.mem_of_getElem? (i := 1303) (by decide +kernel)⟩
theorem lw_p75 : lw_okq (⟨"NamesApartModel", "canChange", "(I)Z"⟩, 23) := ⟨⟨by decide +kernel, by decide +kernel⟩, List.mem_of_getElem? (i := 924) (by decide +kernel), List.mem_of_getElem? (i := 1306) (by decide +kernel), List.mem_of_getElem? (i := 1307) (by decide +kernel)⟩
theorem lw_p76 : lw_okq (⟨"NamesApartModel", "isSide", "(I)Z"⟩, 23) := ⟨⟨by decide +kernel, by decide +kernel⟩, List.mem_of_getElem? (i := 924) (by decide +kernel), List.mem_of_getElem? (i := 1314) (by decide +kernel), List.mem_of_getElem? (i := 1315) (by decide +kernel)⟩
theorem lw_p77 : lw_okq (⟨"NamesApartModel", "findOn", "(II)V"⟩, 23) := ⟨⟨by decide +kernel, by decide +kernel⟩, List.mem_of_getElem? (i := 924) (by decide +kernel), List.mem_of_getElem? (i := 1327) (by decide +kernel), List.mem_of_getElem? (i := 1328) (by decide +kernel)⟩
theorem lw_p78 : lw_okq (⟨"NamesApartModel", "letterAt", "(III)I"⟩, 23) := ⟨⟨by decide +kernel, by decide +kernel⟩, List.mem_of_getElem? (i := 924) (by decide +kernel), List.mem_of_getElem? (i := 1331) (by decide +kernel), List.mem_of_getElem? (i := 1332) (by decide +kernel)⟩
theorem lw_p79 : lw_okq (⟨"NamesApartModel", "isNamed", "()Z"⟩, 23) := ⟨⟨by decide +kernel, by decide +kernel⟩, List.mem_of_getElem? (i := 924) (by decide +kernel), List.mem_of_getElem? (i := 1343) (by decide +kernel), List.mem_of_getElem? (i := 1344) (by decide +kernel)⟩
def lw_privs_5 : List (MethodName × Nat) := [(⟨"NamesApartModel", "takes", "(I)Z"⟩, 23), (⟨"NamesApartModel", "follows", "(III)Z"⟩, 23), (⟨"NamesApartModel", "asked", "(II)I"⟩, 23), (⟨"NamesApartModel", "areMany", "()Z"⟩, 23), (⟨"NamesApartModel", "findGivings", "(I)V"⟩, 23), (⟨"NamesApartModel", "givesFrom", "(II)V"⟩, 23), (⟨"NamesApartModel", "by", "(I)I"⟩, 23), (⟨"NamesApartModel", "letters", "()I"⟩, 23), (⟨"NamesApartModel", "names", "(II)V"⟩, 23), (⟨"NamesApartModel", "nameThen", "(I)I"⟩, 23), (⟨"NamesApartModel", "mayAll", "(II)Z"⟩, 23), (⟨"NamesApartModel", "canChange", "(I)Z"⟩, 23), (⟨"NamesApartModel", "isSide", "(I)Z"⟩, 23), (⟨"NamesApartModel", "findOn", "(II)V"⟩, 23), (⟨"NamesApartModel", "letterAt", "(III)I"⟩, 23), (⟨"NamesApartModel", "isNamed", "()Z"⟩, 23)]
theorem lw_r5 : ∀ q ∈ lw_privs_5, lw_okq q := List.forall_mem_cons.mpr ⟨lw_p64, List.forall_mem_cons.mpr ⟨lw_p65, List.forall_mem_cons.mpr ⟨lw_p66, List.forall_mem_cons.mpr ⟨lw_p67, List.forall_mem_cons.mpr ⟨lw_p68, List.forall_mem_cons.mpr ⟨lw_p69, List.forall_mem_cons.mpr ⟨lw_p70, List.forall_mem_cons.mpr ⟨lw_p71, List.forall_mem_cons.mpr ⟨lw_p72, List.forall_mem_cons.mpr ⟨lw_p73, List.forall_mem_cons.mpr ⟨lw_p74, List.forall_mem_cons.mpr ⟨lw_p75, List.forall_mem_cons.mpr ⟨lw_p76, List.forall_mem_cons.mpr ⟨lw_p77, List.forall_mem_cons.mpr ⟨lw_p78, List.forall_mem_cons.mpr ⟨lw_p79, fun _ h => absurd h List.not_mem_nil⟩⟩⟩⟩⟩⟩⟩⟩⟩⟩⟩⟩⟩⟩⟩⟩
theorem lw_p80 : lw_okq (⟨"NamesApartModel", "draw", "()I"⟩, 23) := ⟨⟨by decide +kernel, by decide +kernel⟩, List.mem_of_getElem? (i := 924) (by decide +kernel), List.mem_of_getElem? (i := 1347) (by decide +kernel), List.mem_of_getElem? (i := 1348) (by decide +kernel)⟩
theorem lw_p81 : lw_okq (⟨"NamesApartModel", "says", "(II)I"⟩, 23) := ⟨⟨by decide +kernel, by decide +kernel⟩, List.mem_of_getElem? (i := 924) (by decide +kernel), List.mem_of_getElem? (i := 1360) (by decide +kernel), List.mem_of_getElem? (i := 1361) (by decide +kernel)⟩
theorem lw_p82 : lw_okq (⟨"NamesApartModel", "speaks", "(III)I"⟩, 23) := ⟨⟨by decide +kernel, by decide +kernel⟩, List.mem_of_getElem? (i := 924) (by decide +kernel), List.mem_of_getElem? (i := 1364) (by decide +kernel), List.mem_of_getElem? (i := 1365) (by decide +kernel)⟩
theorem lw_p83 : lw_okq (⟨"NamesApartModel", "does", "(III)I"⟩, 23) := ⟨⟨by decide +kernel, by decide +kernel⟩, List.mem_of_getElem? (i := 924) (by decide +kernel), List.mem_of_getElem? (i := 1371) (by decide +kernel), List.mem_of_getElem? (i := 1372) (by decide +kernel)⟩
theorem lw_p84 : lw_okq (⟨"NamesApartModel", "mayTell", "(I)Z"⟩, 23) := ⟨⟨by decide +kernel, by decide +kernel⟩, List.mem_of_getElem? (i := 924) (by decide +kernel), List.mem_of_getElem? (i := 1407) (by decide +kernel), List.mem_of_getElem? (i := 1408) (by decide +kernel)⟩
def lw_privs_6 : List (MethodName × Nat) := [(⟨"NamesApartModel", "draw", "()I"⟩, 23), (⟨"NamesApartModel", "says", "(II)I"⟩, 23), (⟨"NamesApartModel", "speaks", "(III)I"⟩, 23), (⟨"NamesApartModel", "does", "(III)I"⟩, 23), (⟨"NamesApartModel", "mayTell", "(I)Z"⟩, 23)]
theorem lw_r6 : ∀ q ∈ lw_privs_6, lw_okq q := List.forall_mem_cons.mpr ⟨lw_p80, List.forall_mem_cons.mpr ⟨lw_p81, List.forall_mem_cons.mpr ⟨lw_p82, List.forall_mem_cons.mpr ⟨lw_p83, List.forall_mem_cons.mpr ⟨lw_p84, fun _ h => absurd h List.not_mem_nil⟩⟩⟩⟩⟩
def lw_privs : List (MethodName × Nat) := lw_privs_1 ++ (lw_privs_2 ++ (lw_privs_3 ++ (lw_privs_4 ++ (lw_privs_5 ++ (lw_privs_6)))))
def lw_tbl : List Cond := k2_sels lw_privs ++ tables_1
theorem lw_privs_ok : ∀ q ∈ lw_privs, lw_okq q := by
  show ∀ q ∈ lw_privs_1 ++ (lw_privs_2 ++ (lw_privs_3 ++ (lw_privs_4 ++ (lw_privs_5 ++ (lw_privs_6))))), lw_okq q
  exact List.forall_mem_append.mpr ⟨lw_r1, List.forall_mem_append.mpr ⟨lw_r2, List.forall_mem_append.mpr ⟨lw_r3, List.forall_mem_append.mpr ⟨lw_r4, List.forall_mem_append.mpr ⟨lw_r5, lw_r6⟩⟩⟩⟩⟩
end
section
def RX0 : String := "NamesApart$Giving"
def TX0 : u_T := fun k => match k with
  | 0 => ("NamesApart$Giving", "state", "LNamesApart$State;", true)
  | 1 => ("NamesApart$Giving", "held", "[I", true)
  | 2 => ("NamesApart$Giving", "then", "[I", true)
  | 3 => ("NamesApart$Giving", "who", "[I", true)
  | 4 => ("NamesApart$Giving", "asked", "I", false)
  | 5 => ("NamesApart$Giving", "open", "[I", true)
  | 6 => ("NamesApart$Giving", "likings", "[I", true)
  | 7 => ("NamesApart$Giving", "most", "[I", true)
  | 8 => ("NamesApart$Giving", "aim", "I", false)
  | 9 => ("NamesApart$Giving", "found", "Z", false)
  | _ => ("NamesApart$Giving", "reached", "I", false)
def tyX0 : Nat → FieldType := fun k => match k with
  | 0 => .object "NamesApart$State"
  | 1 => .array .int
  | 2 => .array .int
  | 3 => .array .int
  | 4 => .int
  | 5 => .array .int
  | 6 => .array .int
  | 7 => .array .int
  | 8 => .int
  | 9 => .boolean
  | _ => .int
abbrev wsX00 : List Cond := u_ws RX0 TX0 11
theorem nmX0 : ∀ a, a < 11 → ∀ b, b < 11 → a ≠ b → (TX0 a).2.1 ≠ (TX0 b).2.1 := by decide +kernel
theorem tyX0_ok : ∀ k, k < 11 → parseFieldDescriptor (TX0 k).2.2.1 = some (tyX0 k) := by decide +kernel
abbrev cX0_init : ByteArray := prog_2_method_1_code
def yX0_init : MethodName := ⟨RX0, "<init>", "(LNamesApart$State;)V"⟩
abbrev cX0_begin : ByteArray := prog_2_method_2_code
def yX0_begin : MethodName := ⟨RX0, "begin", "(III)Z"⟩
abbrev cX0_leftBeside : ByteArray := prog_2_method_3_code
def yX0_leftBeside : MethodName := ⟨RX0, "leftBeside", "(I)I"⟩
abbrev cX0_openNow : ByteArray := prog_2_method_4_code
def yX0_openNow : MethodName := ⟨RX0, "openNow", "(I)I"⟩
abbrev cX0_tally : ByteArray := prog_2_method_5_code
def yX0_tally : MethodName := ⟨RX0, "tally", "()I"⟩
abbrev cX0_tallyFrom : ByteArray := prog_2_method_6_code
def yX0_tallyFrom : MethodName := ⟨RX0, "tallyFrom", "(I)I"⟩
abbrev cX0_seek : ByteArray := prog_2_method_7_code
def yX0_seek : MethodName := ⟨RX0, "seek", "(I)Z"⟩
abbrev cX0_score : ByteArray := prog_2_method_8_code
def yX0_score : MethodName := ⟨RX0, "score", "()I"⟩
abbrev cX0_nameThen : ByteArray := prog_2_method_9_code
def yX0_nameThen : MethodName := ⟨RX0, "nameThen", "(I)I"⟩
abbrev cX0_carryOut : ByteArray := prog_2_method_10_code
def yX0_carryOut : MethodName := ⟨RX0, "carryOut", "()V"⟩
abbrev cX0_lettersHeld : ByteArray := prog_2_method_11_code
def yX0_lettersHeld : MethodName := ⟨RX0, "lettersHeld", "()I"⟩
abbrev cX0_weigh : ByteArray := prog_2_method_12_code
def yX0_weigh : MethodName := ⟨RX0, "weigh", "()V"⟩
abbrev cX0_mostOf : ByteArray := prog_2_method_13_code
def yX0_mostOf : MethodName := ⟨RX0, "mostOf", "(I)I"⟩
abbrev cX0_lettersOfMother : ByteArray := prog_2_method_14_code
def yX0_lettersOfMother : MethodName := ⟨RX0, "lettersOfMother", "(I)I"⟩
abbrev cX0_worthOf : ByteArray := prog_2_method_15_code
def yX0_worthOf : MethodName := ⟨RX0, "worthOf", "(III)I"⟩
abbrev cX0_reach : ByteArray := prog_2_method_16_code
def yX0_reach : MethodName := ⟨RX0, "reach", "(III)I"⟩
abbrev cX0_search : ByteArray := prog_2_method_17_code
def yX0_search : MethodName := ⟨RX0, "search", "(III)V"⟩
def RX1 : String := "NamesApart$Reader"
def TX1 : u_T := fun k => match k with
  | 0 => ("NamesApart$Reader", "draft", "LNamesApart$Text;", true)
  | 1 => ("NamesApart$Reader", "bytes", "[B", true)
  | 2 => ("NamesApart$Reader", "length", "I", false)
  | 3 => ("NamesApart$Reader", "at", "I", false)
  | _ => ("NamesApart$Reader", "use", "I", false)
def tyX1 : Nat → FieldType := fun k => match k with
  | 0 => .object "NamesApart$Text"
  | 1 => .array .byte
  | 2 => .int
  | 3 => .int
  | _ => .int
abbrev wsX10 : List Cond := u_ws RX1 TX1 5
theorem nmX1 : ∀ a, a < 5 → ∀ b, b < 5 → a ≠ b → (TX1 a).2.1 ≠ (TX1 b).2.1 := by decide +kernel
theorem tyX1_ok : ∀ k, k < 5 → parseFieldDescriptor (TX1 k).2.2.1 = some (tyX1 k) := by decide +kernel
abbrev cX1_init : ByteArray := prog_3_method_1_code
def yX1_init : MethodName := ⟨RX1, "<init>", "()V"⟩
abbrev cX1_read : ByteArray := prog_3_method_2_code
def yX1_read : MethodName := ⟨RX1, "read", "([BII)I"⟩
abbrev cX1_sign : ByteArray := prog_3_method_3_code
def yX1_sign : MethodName := ⟨RX1, "sign", "()I"⟩
abbrev cX1_readLevel : ByteArray := prog_3_method_4_code
def yX1_readLevel : MethodName := ⟨RX1, "readLevel", "(II)Z"⟩
abbrev cX1_levelOf : ByteArray := prog_3_method_5_code
def yX1_levelOf : MethodName := ⟨RX1, "levelOf", "(I)I"⟩
abbrev cX1_readPart : ByteArray := prog_3_method_6_code
def yX1_readPart : MethodName := ⟨RX1, "readPart", "(I)Z"⟩
abbrev cX1_readDenied : ByteArray := prog_3_method_7_code
def yX1_readDenied : MethodName := ⟨RX1, "readDenied", "(I)Z"⟩
abbrev cX1_readEnclosed : ByteArray := prog_3_method_8_code
def yX1_readEnclosed : MethodName := ⟨RX1, "readEnclosed", "(I)Z"⟩
abbrev cX1_readNumber : ByteArray := prog_3_method_9_code
def yX1_readNumber : MethodName := ⟨RX1, "readNumber", "()Z"⟩
abbrev cX1_isDigit : ByteArray := prog_3_method_10_code
def yX1_isDigit : MethodName := ⟨RX1, "isDigit", "(I)Z"⟩
abbrev cX1_nameOf : ByteArray := prog_3_method_11_code
def yX1_nameOf : MethodName := ⟨RX1, "nameOf", "(I)I"⟩
def RX2 : String := "NamesApart$Sheets"
def TX2 : u_T := fun k => match k with
  | 0 => ("NamesApart$Sheets", "widths", "[I", true)
  | 1 => ("NamesApart$Sheets", "sizes", "[I", true)
  | _ => ("NamesApart$Sheets", "numbers", "[I", true)
def tyX2 : Nat → FieldType := fun k => match k with
  | 0 => .array .int
  | 1 => .array .int
  | _ => .array .int
abbrev wsX20 : List Cond := u_ws RX2 TX2 3
theorem nmX2 : ∀ a, a < 3 → ∀ b, b < 3 → a ≠ b → (TX2 a).2.1 ≠ (TX2 b).2.1 := by decide +kernel
theorem tyX2_ok : ∀ k, k < 3 → parseFieldDescriptor (TX2 k).2.2.1 = some (tyX2 k) := by decide +kernel
abbrev cX2_init : ByteArray := prog_4_method_1_code
def yX2_init : MethodName := ⟨RX2, "<init>", "()V"⟩
abbrev cX2_isSheet : ByteArray := prog_4_method_2_code
def yX2_isSheet : MethodName := ⟨RX2, "isSheet", "(I)Z"⟩
abbrev cX2_isWidth : ByteArray := prog_4_method_3_code
def yX2_isWidth : MethodName := ⟨RX2, "isWidth", "(I)Z"⟩
abbrev cX2_isMissing : ByteArray := prog_4_method_4_code
def yX2_isMissing : MethodName := ⟨RX2, "isMissing", "(I)Z"⟩
abbrev cX2_lay : ByteArray := prog_4_method_5_code
def yX2_lay : MethodName := ⟨RX2, "lay", "(III)V"⟩
abbrev cX2_numberAt : ByteArray := prog_4_method_6_code
def yX2_numberAt : MethodName := ⟨RX2, "numberAt", "(II)I"⟩
abbrev cX2_set : ByteArray := prog_4_method_7_code
def yX2_set : MethodName := ⟨RX2, "set", "(III)V"⟩
abbrev cX2_hasRun : ByteArray := prog_4_method_8_code
def yX2_hasRun : MethodName := ⟨RX2, "hasRun", "(III)Z"⟩
abbrev cX2_copyRun : ByteArray := prog_4_method_9_code
def yX2_copyRun : MethodName := ⟨RX2, "copyRun", "(IIIII)V"⟩
def RX3 : String := "NamesApart$State"
def TX3 : u_T := fun k => match k with
  | 0 => ("NamesApart$State", "tape", "[B", true)
  | 1 => ("NamesApart$State", "tapeSize", "I", false)
  | 2 => ("NamesApart$State", "names", "I", false)
  | 3 => ("NamesApart$State", "letters", "[I", true)
  | 4 => ("NamesApart$State", "lengths", "[I", true)
  | 5 => ("NamesApart$State", "sounds", "[I", true)
  | 6 => ("NamesApart$State", "sets", "[I", true)
  | 7 => ("NamesApart$State", "apart", "[I", true)
  | 8 => ("NamesApart$State", "people", "I", false)
  | 9 => ("NamesApart$State", "kinds", "[I", true)
  | 10 => ("NamesApart$State", "mothers", "[I", true)
  | 11 => ("NamesApart$State", "called", "[I", true)
  | 12 => ("NamesApart$State", "beside", "[I", true)
  | 13 => ("NamesApart$State", "struck", "I", false)
  | 14 => ("NamesApart$State", "follows", "LNamesApart$Text;", true)
  | 15 => ("NamesApart$State", "likes", "LNamesApart$Text;", true)
  | 16 => ("NamesApart$State", "z", "I", false)
  | 17 => ("NamesApart$State", "waiting", "[I", true)
  | _ => ("NamesApart$State", "waits", "I", false)
def tyX3 : Nat → FieldType := fun k => match k with
  | 0 => .array .byte
  | 1 => .int
  | 2 => .int
  | 3 => .array .int
  | 4 => .array .int
  | 5 => .array .int
  | 6 => .array .int
  | 7 => .array .int
  | 8 => .int
  | 9 => .array .int
  | 10 => .array .int
  | 11 => .array .int
  | 12 => .array .int
  | 13 => .int
  | 14 => .object "NamesApart$Text"
  | 15 => .object "NamesApart$Text"
  | 16 => .int
  | 17 => .array .int
  | _ => .int
abbrev wsX30 : List Cond := u_ws RX3 TX3 19
theorem nmX3 : ∀ a, a < 19 → ∀ b, b < 19 → a ≠ b → (TX3 a).2.1 ≠ (TX3 b).2.1 := by decide +kernel
theorem tyX3_ok : ∀ k, k < 19 → parseFieldDescriptor (TX3 k).2.2.1 = some (tyX3 k) := by decide +kernel
abbrev cX3_init : ByteArray := prog_5_method_1_code
def yX3_init : MethodName := ⟨RX3, "<init>", "()V"⟩
abbrev cX3_copyFrom : ByteArray := prog_5_method_2_code
def yX3_copyFrom : MethodName := ⟨RX3, "copyFrom", "(LNamesApart$State;)V"⟩
abbrev cX3_isName : ByteArray := prog_5_method_3_code
def yX3_isName : MethodName := ⟨RX3, "isName", "(I)Z"⟩
abbrev cX3_isOne : ByteArray := prog_5_method_4_code
def yX3_isOne : MethodName := ⟨RX3, "isOne", "(I)Z"⟩
abbrev cX3_areTwo : ByteArray := prog_5_method_5_code
def yX3_areTwo : MethodName := ⟨RX3, "areTwo", "(II)Z"⟩
abbrev cX3_textOf : ByteArray := prog_5_method_6_code
def yX3_textOf : MethodName := ⟨RX3, "textOf", "(I)LNamesApart$Text;"⟩
abbrev cX3_append : ByteArray := prog_5_method_7_code
def yX3_append : MethodName := ⟨RX3, "append", "(JI)I"⟩
abbrev cX3_lettersAhead : ByteArray := prog_5_method_8_code
def yX3_lettersAhead : MethodName := ⟨RX3, "lettersAhead", "()I"⟩
abbrev cX3_addName : ByteArray := prog_5_method_9_code
def yX3_addName : MethodName := ⟨RX3, "addName", "(II)I"⟩
abbrev cX3_letterAt : ByteArray := prog_5_method_10_code
def yX3_letterAt : MethodName := ⟨RX3, "letterAt", "(II)I"⟩
abbrev cX3_addOne : ByteArray := prog_5_method_11_code
def yX3_addOne : MethodName := ⟨RX3, "addOne", "(II)I"⟩
abbrev cX3_setBeside : ByteArray := prog_5_method_12_code
def yX3_setBeside : MethodName := ⟨RX3, "setBeside", "(III)V"⟩
abbrev cX3_lettersOf : ByteArray := prog_5_method_13_code
def yX3_lettersOf : MethodName := ⟨RX3, "lettersOf", "(I)I"⟩
abbrev cX3_lettersOfMother : ByteArray := prog_5_method_14_code
def yX3_lettersOfMother : MethodName := ⟨RX3, "lettersOfMother", "(I)I"⟩
abbrev cX3_lettersInUse : ByteArray := prog_5_method_15_code
def yX3_lettersInUse : MethodName := ⟨RX3, "lettersInUse", "()I"⟩
abbrev cX3_holding : ByteArray := prog_5_method_16_code
def yX3_holding : MethodName := ⟨RX3, "holding", "(I)I"⟩
abbrev cX3_clashing : ByteArray := prog_5_method_17_code
def yX3_clashing : MethodName := ⟨RX3, "clashing", "(I)I"⟩
abbrev cX3_nameless : ByteArray := prog_5_method_18_code
def yX3_nameless : MethodName := ⟨RX3, "nameless", "()I"⟩
abbrev cX3_isLawful : ByteArray := prog_5_method_19_code
def yX3_isLawful : MethodName := ⟨RX3, "isLawful", "()Z"⟩
abbrev cX3_unstruck : ByteArray := prog_5_method_20_code
def yX3_unstruck : MethodName := ⟨RX3, "unstruck", "()I"⟩
abbrev cX3_esteem : ByteArray := prog_5_method_21_code
def yX3_esteem : MethodName := ⟨RX3, "esteem", "(IIIZ)I"⟩
abbrev cX3_likesLaw : ByteArray := prog_5_method_22_code
def yX3_likesLaw : MethodName := ⟨RX3, "likesLaw", "(III)I"⟩
abbrev cX3_followsLaw : ByteArray := prog_5_method_23_code
def yX3_followsLaw : MethodName := ⟨RX3, "followsLaw", "(III)I"⟩
abbrev cX3_isVowel : ByteArray := prog_5_method_24_code
def yX3_isVowel : MethodName := ⟨RX3, "isVowel", "(I)Z"⟩
abbrev cX3_draw : ByteArray := prog_5_method_25_code
def yX3_draw : MethodName := ⟨RX3, "draw", "()I"⟩
abbrev cX3_bear : ByteArray := prog_5_method_26_code
def yX3_bear : MethodName := ⟨RX3, "bear", "()Z"⟩
abbrev cX3_freeBeside : ByteArray := prog_5_method_27_code
def yX3_freeBeside : MethodName := ⟨RX3, "freeBeside", "(I)I"⟩
abbrev cX3_firstWrong : ByteArray := prog_5_method_28_code
def yX3_firstWrong : MethodName := ⟨RX3, "firstWrong", "()I"⟩
abbrev cX3_standsWell : ByteArray := prog_5_method_29_code
def yX3_standsWell : MethodName := ⟨RX3, "standsWell", "(I)Z"⟩
def RX4 : String := "NamesApart$Street"
def TX4 : u_T := fun k => match k with
  | 0 => ("NamesApart$Street", "state", "LNamesApart$State;", true)
  | 1 => ("NamesApart$Street", "ending", "[J", true)
  | 2 => ("NamesApart$Street", "longer", "[J", true)
  | 3 => ("NamesApart$Street", "widest", "I", false)
  | _ => ("NamesApart$Street", "size", "I", false)
def tyX4 : Nat → FieldType := fun k => match k with
  | 0 => .object "NamesApart$State"
  | 1 => .array .long
  | 2 => .array .long
  | 3 => .int
  | _ => .int
abbrev wsX40 : List Cond := u_ws RX4 TX4 5
theorem nmX4 : ∀ a, a < 5 → ∀ b, b < 5 → a ≠ b → (TX4 a).2.1 ≠ (TX4 b).2.1 := by decide +kernel
theorem tyX4_ok : ∀ k, k < 5 → parseFieldDescriptor (TX4 k).2.2.1 = some (tyX4 k) := by decide +kernel
abbrev cX4_init : ByteArray := prog_6_method_1_code
def yX4_init : MethodName := ⟨RX4, "<init>", "(LNamesApart$State;)V"⟩
abbrev cX4_widestSet : ByteArray := prog_6_method_2_code
def yX4_widestSet : MethodName := ⟨RX4, "widestSet", "()I"⟩
abbrev cX4_choose : ByteArray := prog_6_method_3_code
def yX4_choose : MethodName := ⟨RX4, "choose", "(IIII)V"⟩
abbrev cX4_rowsOf : ByteArray := prog_6_method_4_code
def yX4_rowsOf : MethodName := ⟨RX4, "rowsOf", "(I)J"⟩
abbrev cX4_sumApart : ByteArray := prog_6_method_5_code
def yX4_sumApart : MethodName := ⟨RX4, "sumApart", "(I)J"⟩
def RX5 : String := "NamesApart$Taking"
def TX5 : u_T := fun k => match k with
  | 0 => ("NamesApart$Taking", "state", "LNamesApart$State;", true)
  | 1 => ("NamesApart$Taking", "giving", "LNamesApart$Giving;", true)
  | 2 => ("NamesApart$Taking", "clashes", "[I", true)
  | _ => ("NamesApart$Taking", "unlawful", "I", false)
def tyX5 : Nat → FieldType := fun k => match k with
  | 0 => .object "NamesApart$State"
  | 1 => .object "NamesApart$Giving"
  | 2 => .array .int
  | _ => .int
abbrev wsX50 : List Cond := u_ws RX5 TX5 4
theorem nmX5 : ∀ a, a < 4 → ∀ b, b < 4 → a ≠ b → (TX5 a).2.1 ≠ (TX5 b).2.1 := by decide +kernel
theorem tyX5_ok : ∀ k, k < 4 → parseFieldDescriptor (TX5 k).2.2.1 = some (tyX5 k) := by decide +kernel
abbrev cX5_init : ByteArray := prog_7_method_1_code
def yX5_init : MethodName := ⟨RX5, "<init>", "(LNamesApart$State;LNamesApart$Giving;)V"⟩
abbrev cX5_leastSet : ByteArray := prog_7_method_2_code
def yX5_leastSet : MethodName := ⟨RX5, "leastSet", "(II)I"⟩
abbrev cX5_lookForTrouble : ByteArray := prog_7_method_3_code
def yX5_lookForTrouble : MethodName := ⟨RX5, "lookForTrouble", "()V"⟩
abbrev cX5_isEnough : ByteArray := prog_7_method_4_code
def yX5_isEnough : MethodName := ⟨RX5, "isEnough", "(III)Z"⟩
abbrev cX5_othersStandWell : ByteArray := prog_7_method_5_code
def yX5_othersStandWell : MethodName := ⟨RX5, "othersStandWell", "(I)Z"⟩
def RX6 : String := "NamesApart$Text"
def TX6 : u_T := fun k => match k with
  | 0 => ("NamesApart$Text", "steps", "[I", true)
  | 1 => ("NamesApart$Text", "stack", "[I", true)
  | _ => ("NamesApart$Text", "size", "I", false)
def tyX6 : Nat → FieldType := fun k => match k with
  | 0 => .array .int
  | 1 => .array .int
  | _ => .int
abbrev wsX60 : List Cond := u_ws RX6 TX6 3
theorem nmX6 : ∀ a, a < 3 → ∀ b, b < 3 → a ≠ b → (TX6 a).2.1 ≠ (TX6 b).2.1 := by decide +kernel
theorem tyX6_ok : ∀ k, k < 3 → parseFieldDescriptor (TX6 k).2.2.1 = some (tyX6 k) := by decide +kernel
abbrev cX6_init : ByteArray := prog_8_method_1_code
def yX6_init : MethodName := ⟨RX6, "<init>", "()V"⟩
abbrev cX6_isEmpty : ByteArray := prog_8_method_2_code
def yX6_isEmpty : MethodName := ⟨RX6, "isEmpty", "()Z"⟩
abbrev cX6_copyFrom : ByteArray := prog_8_method_3_code
def yX6_copyFrom : MethodName := ⟨RX6, "copyFrom", "(LNamesApart$Text;)V"⟩
abbrev cX6_add : ByteArray := prog_8_method_4_code
def yX6_add : MethodName := ⟨RX6, "add", "(I)V"⟩
abbrev cX6_workOut : ByteArray := prog_8_method_5_code
def yX6_workOut : MethodName := ⟨RX6, "workOut", "(III)I"⟩
abbrev cX6_valueOf : ByteArray := prog_8_method_6_code
def yX6_valueOf : MethodName := ⟨RX6, "valueOf", "(IIII)I"⟩
abbrev cX6_join : ByteArray := prog_8_method_7_code
def yX6_join : MethodName := ⟨RX6, "join", "(III)I"⟩
def RX7 : String := "NamesApart$Voices"
def TX7 : u_T := fun k => match k with
  | 0 => ("NamesApart$Voices", "bodies", "[I", true)
  | 1 => ("NamesApart$Voices", "begun", "I", false)
  | 2 => ("NamesApart$Voices", "self", "I", false)
  | 3 => ("NamesApart$Voices", "mother", "I", false)
  | _ => ("NamesApart$Voices", "kind", "I", false)
def tyX7 : Nat → FieldType := fun k => match k with
  | 0 => .array .int
  | 1 => .int
  | 2 => .int
  | 3 => .int
  | _ => .int
abbrev wsX70 : List Cond := u_ws RX7 TX7 5
theorem nmX7 : ∀ a, a < 5 → ∀ b, b < 5 → a ≠ b → (TX7 a).2.1 ≠ (TX7 b).2.1 := by decide +kernel
theorem tyX7_ok : ∀ k, k < 5 → parseFieldDescriptor (TX7 k).2.2.1 = some (tyX7 k) := by decide +kernel
abbrev cX7_init : ByteArray := prog_9_method_1_code
def yX7_init : MethodName := ⟨RX7, "<init>", "()V"⟩
abbrev cX7_raise : ByteArray := prog_9_method_2_code
def yX7_raise : MethodName := ⟨RX7, "raise", "(IIIII)I"⟩
abbrev cX7_speak : ByteArray := prog_9_method_3_code
def yX7_speak : MethodName := ⟨RX7, "speak", "(IIII)I"⟩
abbrev cX7_begin : ByteArray := prog_9_method_4_code
def yX7_begin : MethodName := ⟨RX7, "begin", "(I)V"⟩
abbrev cX7_run : ByteArray := prog_9_method_5_code
def yX7_run : MethodName := ⟨RX7, "run", "(IIII)I"⟩
def RX8 : String := "NamesApart$Words"
def TX8 : u_T := fun k => match k with
  | 0 => ("NamesApart$Words", "state", "LNamesApart$State;", true)
  | 1 => ("NamesApart$Words", "followers", "[I", true)
  | _ => ("NamesApart$Words", "ways", "[J", true)
def tyX8 : Nat → FieldType := fun k => match k with
  | 0 => .object "NamesApart$State"
  | 1 => .array .int
  | _ => .array .long
abbrev wsX80 : List Cond := u_ws RX8 TX8 3
theorem nmX8 : ∀ a, a < 3 → ∀ b, b < 3 → a ≠ b → (TX8 a).2.1 ≠ (TX8 b).2.1 := by decide +kernel
theorem tyX8_ok : ∀ k, k < 3 → parseFieldDescriptor (TX8 k).2.2.1 = some (tyX8 k) := by decide +kernel
abbrev cX8_init : ByteArray := prog_10_method_1_code
def yX8_init : MethodName := ⟨RX8, "<init>", "(LNamesApart$State;)V"⟩
abbrev cX8_forget : ByteArray := prog_10_method_2_code
def yX8_forget : MethodName := ⟨RX8, "forget", "()V"⟩
abbrev cX8_howMany : ByteArray := prog_10_method_3_code
def yX8_howMany : MethodName := ⟨RX8, "howMany", "(II)J"⟩
abbrev cX8_waysFrom : ByteArray := prog_10_method_4_code
def yX8_waysFrom : MethodName := ⟨RX8, "waysFrom", "(III)J"⟩
abbrev cX8_letterOfFirst : ByteArray := prog_10_method_5_code
def yX8_letterOfFirst : MethodName := ⟨RX8, "letterOfFirst", "(II)I"⟩
abbrev cX8_firstFrom : ByteArray := prog_10_method_6_code
def yX8_firstFrom : MethodName := ⟨RX8, "firstFrom", "(II)I"⟩
abbrev cX8_placeOf : ByteArray := prog_10_method_7_code
def yX8_placeOf : MethodName := ⟨RX8, "placeOf", "(II)I"⟩
abbrev cX8_followersOf : ByteArray := prog_10_method_8_code
def yX8_followersOf : MethodName := ⟨RX8, "followersOf", "(II)I"⟩
def RX9 : String := "NamesApart"
def TX9 : u_T := fun k => match k with
  | 0 => ("NamesApart", "now", "LNamesApart$State;", true)
  | 1 => ("NamesApart", "kept", "LNamesApart$State;", true)
  | 2 => ("NamesApart", "reader", "LNamesApart$Reader;", true)
  | 3 => ("NamesApart", "giving", "LNamesApart$Giving;", true)
  | 4 => ("NamesApart", "taking", "LNamesApart$Taking;", true)
  | 5 => ("NamesApart", "street", "LNamesApart$Street;", true)
  | 6 => ("NamesApart", "words", "LNamesApart$Words;", true)
  | 7 => ("NamesApart", "voices", "LNamesApart$Voices;", true)
  | 8 => ("NamesApart", "sheets", "LNamesApart$Sheets;", true)
  | 9 => ("NamesApart", "refused", "[I", true)
  | _ => ("NamesApart", "images", "I", false)
def tyX9 : Nat → FieldType := fun k => match k with
  | 0 => .object "NamesApart$State"
  | 1 => .object "NamesApart$State"
  | 2 => .object "NamesApart$Reader"
  | 3 => .object "NamesApart$Giving"
  | 4 => .object "NamesApart$Taking"
  | 5 => .object "NamesApart$Street"
  | 6 => .object "NamesApart$Words"
  | 7 => .object "NamesApart$Voices"
  | 8 => .object "NamesApart$Sheets"
  | 9 => .array .int
  | _ => .int
abbrev wsX90 : List Cond := u_ws RX9 TX9 11
theorem nmX9 : ∀ a, a < 11 → ∀ b, b < 11 → a ≠ b → (TX9 a).2.1 ≠ (TX9 b).2.1 := by decide +kernel
theorem tyX9_ok : ∀ k, k < 11 → parseFieldDescriptor (TX9 k).2.2.1 = some (tyX9 k) := by decide +kernel
abbrev cX9_init : ByteArray := prog_1_method_1_code
def yX9_init : MethodName := ⟨RX9, "<init>", "()V"⟩
abbrev cX9_feed : ByteArray := prog_1_method_2_code
def yX9_feed : MethodName := ⟨RX9, "feed", "(JI)I"⟩
abbrev cX9_name : ByteArray := prog_1_method_3_code
def yX9_name : MethodName := ⟨RX9, "name", "(I)I"⟩
abbrev cX9_ofName : ByteArray := prog_1_method_4_code
def yX9_ofName : MethodName := ⟨RX9, "ofName", "(II)I"⟩
abbrev cX9_sound : ByteArray := prog_1_method_5_code
def yX9_sound : MethodName := ⟨RX9, "sound", "(II)I"⟩
abbrev cX9_clash : ByteArray := prog_1_method_6_code
def yX9_clash : MethodName := ⟨RX9, "clash", "(II)I"⟩
abbrev cX9_strike : ByteArray := prog_1_method_7_code
def yX9_strike : MethodName := ⟨RX9, "strike", "(II)I"⟩
abbrev cX9_person : ByteArray := prog_1_method_8_code
def yX9_person : MethodName := ⟨RX9, "person", "(II)I"⟩
abbrev cX9_ofPerson : ByteArray := prog_1_method_9_code
def yX9_ofPerson : MethodName := ⟨RX9, "ofPerson", "(II)I"⟩
abbrev cX9_as : ByteArray := prog_1_method_10_code
def yX9_as : MethodName := ⟨RX9, "as", "(II)I"⟩
abbrev cX9_call : ByteArray := prog_1_method_11_code
def yX9_call : MethodName := ⟨RX9, "call", "(II)I"⟩
abbrev cX9_near : ByteArray := prog_1_method_12_code
def yX9_near : MethodName := ⟨RX9, "near", "(III)I"⟩
abbrev cX9_nears : ByteArray := prog_1_method_13_code
def yX9_nears : MethodName := ⟨RX9, "nears", "(I)I"⟩
abbrev cX9_worth : ByteArray := prog_1_method_14_code
def yX9_worth : MethodName := ⟨RX9, "worth", "(II)I"⟩
abbrev cX9_lawful : ByteArray := prog_1_method_15_code
def yX9_lawful : MethodName := ⟨RX9, "lawful", "()I"⟩
abbrev cX9_text : ByteArray := prog_1_method_16_code
def yX9_text : MethodName := ⟨RX9, "text", "(I)I"⟩
abbrev cX9_law : ByteArray := prog_1_method_17_code
def yX9_law : MethodName := ⟨RX9, "law", "(IIII)I"⟩
abbrev cX9_first : ByteArray := prog_1_method_18_code
def yX9_first : MethodName := ⟨RX9, "first", "(I)I"⟩
abbrev cX9_all : ByteArray := prog_1_method_19_code
def yX9_all : MethodName := ⟨RX9, "all", "()I"⟩
abbrev cX9_best : ByteArray := prog_1_method_20_code
def yX9_best : MethodName := ⟨RX9, "best", "(I)I"⟩
abbrev cX9_fewest : ByteArray := prog_1_method_21_code
def yX9_fewest : MethodName := ⟨RX9, "fewest", "(I)I"⟩
abbrev cX9_give : ByteArray := prog_1_method_22_code
def yX9_give : MethodName := ⟨RX9, "give", "(I)I"⟩
abbrev cX9_changes : ByteArray := prog_1_method_23_code
def yX9_changes : MethodName := ⟨RX9, "changes", "(II)I"⟩
abbrev cX9_side : ByteArray := prog_1_method_24_code
def yX9_side : MethodName := ⟨RX9, "side", "(I)I"⟩
abbrev cX9_rows : ByteArray := prog_1_method_25_code
def yX9_rows : MethodName := ⟨RX9, "rows", "(I)J"⟩
abbrev cX9_made : ByteArray := prog_1_method_26_code
def yX9_made : MethodName := ⟨RX9, "made", "(III)J"⟩
abbrev cX9_strikes : ByteArray := prog_1_method_27_code
def yX9_strikes : MethodName := ⟨RX9, "strikes", "(I)I"⟩
abbrev cX9_births : ByteArray := prog_1_method_28_code
def yX9_births : MethodName := ⟨RX9, "births", "(I)I"⟩
abbrev cX9_seed : ByteArray := prog_1_method_29_code
def yX9_seed : MethodName := ⟨RX9, "seed", "(I)I"⟩
abbrev cX9_voice : ByteArray := prog_1_method_30_code
def yX9_voice : MethodName := ⟨RX9, "voice", "(III)I"⟩
abbrev cX9_trace : ByteArray := prog_1_method_31_code
def yX9_trace : MethodName := ⟨RX9, "trace", "(I)I"⟩
abbrev cX9_sheet : ByteArray := prog_1_method_32_code
def yX9_sheet : MethodName := ⟨RX9, "sheet", "(III)I"⟩
abbrev cX9_put : ByteArray := prog_1_method_33_code
def yX9_put : MethodName := ⟨RX9, "put", "(III)I"⟩
abbrev cX9_move : ByteArray := prog_1_method_34_code
def yX9_move : MethodName := ⟨RX9, "move", "(IIIII)I"⟩
abbrev cX9_image : ByteArray := prog_1_method_35_code
def yX9_image : MethodName := ⟨RX9, "image", "()I"⟩
abbrev cX9_restore : ByteArray := prog_1_method_36_code
def yX9_restore : MethodName := ⟨RX9, "restore", "()I"⟩
abbrev cX9_tell : ByteArray := prog_1_method_37_code
def yX9_tell : MethodName := ⟨RX9, "tell", "(I)I"⟩
abbrev cX9_check : ByteArray := prog_1_method_38_code
def yX9_check : MethodName := ⟨RX9, "check", "()I"⟩
abbrev cX9_count : ByteArray := prog_1_method_39_code
def yX9_count : MethodName := ⟨RX9, "count", "(I)I"⟩
abbrev cX9_told : ByteArray := prog_1_method_40_code
def yX9_told : MethodName := ⟨RX9, "told", "(I)I"⟩
abbrev cX9_refuse : ByteArray := prog_1_method_41_code
def yX9_refuse : MethodName := ⟨RX9, "refuse", "(I)I"⟩
abbrev cX9_seekGiving : ByteArray := prog_1_method_42_code
def yX9_seekGiving : MethodName := ⟨RX9, "seekGiving", "(I)I"⟩
abbrev cX9_isSound : ByteArray := prog_1_method_43_code
def yX9_isSound : MethodName := ⟨RX9, "isSound", "(I)Z"⟩
abbrev cX9_isLetter : ByteArray := prog_1_method_44_code
def yX9_isLetter : MethodName := ⟨RX9, "isLetter", "(I)Z"⟩
abbrev cX9_isBit : ByteArray := prog_1_method_45_code
def yX9_isBit : MethodName := ⟨RX9, "isBit", "(I)Z"⟩
abbrev cX9_isKind : ByteArray := prog_1_method_46_code
def yX9_isKind : MethodName := ⟨RX9, "isKind", "(I)Z"⟩
abbrev cX9_isUse : ByteArray := prog_1_method_47_code
def yX9_isUse : MethodName := ⟨RX9, "isUse", "(I)Z"⟩
abbrev cX9_isUnder : ByteArray := prog_1_method_48_code
def yX9_isUnder : MethodName := ⟨RX9, "isUnder", "(II)Z"⟩
def RX10 : String := "NamesApartModel"
def TX10 : u_T := fun k => match k with
  | 0 => ("NamesApartModel", "m", "[I", true)
  | 1 => ("NamesApartModel", "kept", "[I", true)
  | 2 => ("NamesApartModel", "images", "I", false)
  | 3 => ("NamesApartModel", "errors", "[I", true)
  | 4 => ("NamesApartModel", "step", "[I", true)
  | 5 => ("NamesApartModel", "steps", "I", false)
  | 6 => ("NamesApartModel", "at", "I", false)
  | 7 => ("NamesApartModel", "open", "I", false)
  | 8 => ("NamesApartModel", "use", "I", false)
  | 9 => ("NamesApartModel", "bad", "Z", false)
  | 10 => ("NamesApartModel", "stack", "[I", true)
  | 11 => ("NamesApartModel", "lacks", "[I", true)
  | 12 => ("NamesApartModel", "lackMany", "I", false)
  | 13 => ("NamesApartModel", "bestRow", "[I", true)
  | 14 => ("NamesApartModel", "bestBy", "I", false)
  | 15 => ("NamesApartModel", "ways", "I", false)
  | 16 => ("NamesApartModel", "on", "[J", true)
  | 17 => ("NamesApartModel", "trace", "[I", true)
  | 18 => ("NamesApartModel", "traced", "I", false)
  | 19 => ("NamesApartModel", "who", "I", false)
  | 20 => ("NamesApartModel", "bits", "[I", true)
  | 21 => ("NamesApartModel", "size", "[I", true)
  | _ => ("NamesApartModel", "number", "[I", true)
def tyX10 : Nat → FieldType := fun k => match k with
  | 0 => .array .int
  | 1 => .array .int
  | 2 => .int
  | 3 => .array .int
  | 4 => .array .int
  | 5 => .int
  | 6 => .int
  | 7 => .int
  | 8 => .int
  | 9 => .boolean
  | 10 => .array .int
  | 11 => .array .int
  | 12 => .int
  | 13 => .array .int
  | 14 => .int
  | 15 => .int
  | 16 => .array .long
  | 17 => .array .int
  | 18 => .int
  | 19 => .int
  | 20 => .array .int
  | 21 => .array .int
  | _ => .array .int
abbrev wsX100 : List Cond := u_ws RX10 TX10 23
theorem nmX10 : ∀ a, a < 23 → ∀ b, b < 23 → a ≠ b → (TX10 a).2.1 ≠ (TX10 b).2.1 := by decide +kernel
theorem tyX10_ok : ∀ k, k < 23 → parseFieldDescriptor (TX10 k).2.2.1 = some (tyX10 k) := by decide +kernel
abbrev cX10_init : ByteArray := prog_12_method_1_code
def yX10_init : MethodName := ⟨RX10, "<init>", "()V"⟩
abbrev cX10_fails : ByteArray := prog_12_method_2_code
def yX10_fails : MethodName := ⟨RX10, "fails", "(I)I"⟩
abbrev cX10_in : ByteArray := prog_12_method_3_code
def yX10_in : MethodName := ⟨RX10, "in", "(JJJ)Z"⟩
abbrev cX10_has : ByteArray := prog_12_method_4_code
def yX10_has : MethodName := ⟨RX10, "has", "(II)Z"⟩
abbrev cX10_many : ByteArray := prog_12_method_5_code
def yX10_many : MethodName := ⟨RX10, "many", "(I)I"⟩
abbrev cX10_becomes : ByteArray := prog_12_method_6_code
def yX10_becomes : MethodName := ⟨RX10, "becomes", "(II)I"⟩
abbrev cX10_isName : ByteArray := prog_12_method_7_code
def yX10_isName : MethodName := ⟨RX10, "isName", "(I)Z"⟩
abbrev cX10_ofIt : ByteArray := prog_12_method_8_code
def yX10_ofIt : MethodName := ⟨RX10, "ofIt", "(II)I"⟩
abbrev cX10_soundOf : ByteArray := prog_12_method_9_code
def yX10_soundOf : MethodName := ⟨RX10, "soundOf", "(I)I"⟩
abbrev cX10_longOf : ByteArray := prog_12_method_10_code
def yX10_longOf : MethodName := ⟨RX10, "longOf", "(I)I"⟩
abbrev cX10_setOf : ByteArray := prog_12_method_11_code
def yX10_setOf : MethodName := ⟨RX10, "setOf", "(I)I"⟩
abbrev cX10_clashes : ByteArray := prog_12_method_12_code
def yX10_clashes : MethodName := ⟨RX10, "clashes", "(II)Z"⟩
abbrev cX10_isStruck : ByteArray := prog_12_method_13_code
def yX10_isStruck : MethodName := ⟨RX10, "isStruck", "(I)Z"⟩
abbrev cX10_feed : ByteArray := prog_12_method_14_code
def yX10_feed : MethodName := ⟨RX10, "feed", "(JI)I"⟩
abbrev cX10_byteAt : ByteArray := prog_12_method_15_code
def yX10_byteAt : MethodName := ⟨RX10, "byteAt", "(I)I"⟩
abbrev cX10_name : ByteArray := prog_12_method_16_code
def yX10_name : MethodName := ⟨RX10, "name", "(I)I"⟩
abbrev cX10_ofName : ByteArray := prog_12_method_17_code
def yX10_ofName : MethodName := ⟨RX10, "ofName", "(II)I"⟩
abbrev cX10_sound : ByteArray := prog_12_method_18_code
def yX10_sound : MethodName := ⟨RX10, "sound", "(II)I"⟩
abbrev cX10_clash : ByteArray := prog_12_method_19_code
def yX10_clash : MethodName := ⟨RX10, "clash", "(II)I"⟩
abbrev cX10_strike : ByteArray := prog_12_method_20_code
def yX10_strike : MethodName := ⟨RX10, "strike", "(II)I"⟩
abbrev cX10_isPerson : ByteArray := prog_12_method_21_code
def yX10_isPerson : MethodName := ⟨RX10, "isPerson", "(I)Z"⟩
abbrev cX10_isKind : ByteArray := prog_12_method_22_code
def yX10_isKind : MethodName := ⟨RX10, "isKind", "(I)Z"⟩
abbrev cX10_of : ByteArray := prog_12_method_23_code
def yX10_of : MethodName := ⟨RX10, "of", "(II)I"⟩
abbrev cX10_nameOf : ByteArray := prog_12_method_24_code
def yX10_nameOf : MethodName := ⟨RX10, "nameOf", "(I)I"⟩
abbrev cX10_names : ByteArray := prog_12_method_25_code
def yX10_names : MethodName := ⟨RX10, "names", "(II)V"⟩
abbrev cX10_comes : ByteArray := prog_12_method_26_code
def yX10_comes : MethodName := ⟨RX10, "comes", "(II)V"⟩
abbrev cX10_person : ByteArray := prog_12_method_27_code
def yX10_person : MethodName := ⟨RX10, "person", "(II)I"⟩
abbrev cX10_against : ByteArray := prog_12_method_28_code
def yX10_against : MethodName := ⟨RX10, "against", "(II)I"⟩
abbrev cX10_ofPerson : ByteArray := prog_12_method_29_code
def yX10_ofPerson : MethodName := ⟨RX10, "ofPerson", "(II)I"⟩
abbrev cX10_above : ByteArray := prog_12_method_30_code
def yX10_above : MethodName := ⟨RX10, "above", "(I)I"⟩
abbrev cX10_isUnder : ByteArray := prog_12_method_31_code
def yX10_isUnder : MethodName := ⟨RX10, "isUnder", "(II)Z"⟩
abbrev cX10_as : ByteArray := prog_12_method_32_code
def yX10_as : MethodName := ⟨RX10, "as", "(II)I"⟩
abbrev cX10_call : ByteArray := prog_12_method_33_code
def yX10_call : MethodName := ⟨RX10, "call", "(II)I"⟩
abbrev cX10_nearEach : ByteArray := prog_12_method_34_code
def yX10_nearEach : MethodName := ⟨RX10, "nearEach", "(IIZ)V"⟩
abbrev cX10_areTwo : ByteArray := prog_12_method_35_code
def yX10_areTwo : MethodName := ⟨RX10, "areTwo", "(II)Z"⟩
abbrev cX10_near : ByteArray := prog_12_method_36_code
def yX10_near : MethodName := ⟨RX10, "near", "(III)I"⟩
abbrev cX10_nears : ByteArray := prog_12_method_37_code
def yX10_nears : MethodName := ⟨RX10, "nears", "(I)I"⟩
abbrev cX10_worthBy : ByteArray := prog_12_method_38_code
def yX10_worthBy : MethodName := ⟨RX10, "worthBy", "(IIII)I"⟩
abbrev cX10_worthOf : ByteArray := prog_12_method_39_code
def yX10_worthOf : MethodName := ⟨RX10, "worthOf", "(III)I"⟩
abbrev cX10_worth : ByteArray := prog_12_method_40_code
def yX10_worth : MethodName := ⟨RX10, "worth", "(II)I"⟩
abbrev cX10_isLawful : ByteArray := prog_12_method_41_code
def yX10_isLawful : MethodName := ⟨RX10, "isLawful", "()Z"⟩
abbrev cX10_lawful : ByteArray := prog_12_method_42_code
def yX10_lawful : MethodName := ⟨RX10, "lawful", "()I"⟩
abbrev cX10_here : ByteArray := prog_12_method_43_code
def yX10_here : MethodName := ⟨RX10, "here", "()I"⟩
abbrev cX10_takes : ByteArray := prog_12_method_44_code
def yX10_takes : MethodName := ⟨RX10, "takes", "(I)Z"⟩
abbrev cX10_puts : ByteArray := prog_12_method_45_code
def yX10_puts : MethodName := ⟨RX10, "puts", "(I)V"⟩
abbrev cX10_whole : ByteArray := prog_12_method_46_code
def yX10_whole : MethodName := ⟨RX10, "whole", "()V"⟩
abbrev cX10_both : ByteArray := prog_12_method_47_code
def yX10_both : MethodName := ⟨RX10, "both", "()V"⟩
abbrev cX10_compared : ByteArray := prog_12_method_48_code
def yX10_compared : MethodName := ⟨RX10, "compared", "()V"⟩
abbrev cX10_sum : ByteArray := prog_12_method_49_code
def yX10_sum : MethodName := ⟨RX10, "sum", "()V"⟩
abbrev cX10_product : ByteArray := prog_12_method_50_code
def yX10_product : MethodName := ⟨RX10, "product", "()V"⟩
abbrev cX10_letterHere : ByteArray := prog_12_method_51_code
def yX10_letterHere : MethodName := ⟨RX10, "letterHere", "()I"⟩
abbrev cX10_one : ByteArray := prog_12_method_52_code
def yX10_one : MethodName := ⟨RX10, "one", "()V"⟩
abbrev cX10_text : ByteArray := prog_12_method_53_code
def yX10_text : MethodName := ⟨RX10, "text", "(I)I"⟩
abbrev cX10_asNumber : ByteArray := prog_12_method_54_code
def yX10_asNumber : MethodName := ⟨RX10, "asNumber", "(Z)I"⟩
abbrev cX10_joined : ByteArray := prog_12_method_55_code
def yX10_joined : MethodName := ⟨RX10, "joined", "(III)I"⟩
abbrev cX10_works : ByteArray := prog_12_method_56_code
def yX10_works : MethodName := ⟨RX10, "works", "(IIII)I"⟩
abbrev cX10_isOpenLetter : ByteArray := prog_12_method_57_code
def yX10_isOpenLetter : MethodName := ⟨RX10, "isOpenLetter", "(I)Z"⟩
abbrev cX10_follows : ByteArray := prog_12_method_58_code
def yX10_follows : MethodName := ⟨RX10, "follows", "(III)Z"⟩
abbrev cX10_likes : ByteArray := prog_12_method_59_code
def yX10_likes : MethodName := ⟨RX10, "likes", "(III)I"⟩
abbrev cX10_law : ByteArray := prog_12_method_60_code
def yX10_law : MethodName := ⟨RX10, "law", "(IIII)I"⟩
abbrev cX10_areMany : ByteArray := prog_12_method_61_code
def yX10_areMany : MethodName := ⟨RX10, "areMany", "()Z"⟩
abbrev cX10_letters : ByteArray := prog_12_method_62_code
def yX10_letters : MethodName := ⟨RX10, "letters", "()I"⟩
abbrev cX10_by : ByteArray := prog_12_method_63_code
def yX10_by : MethodName := ⟨RX10, "by", "(I)I"⟩
abbrev cX10_givesFrom : ByteArray := prog_12_method_64_code
def yX10_givesFrom : MethodName := ⟨RX10, "givesFrom", "(II)V"⟩
abbrev cX10_findGivings : ByteArray := prog_12_method_65_code
def yX10_findGivings : MethodName := ⟨RX10, "findGivings", "(I)V"⟩
abbrev cX10_nameThen : ByteArray := prog_12_method_66_code
def yX10_nameThen : MethodName := ⟨RX10, "nameThen", "(I)I"⟩
abbrev cX10_asked : ByteArray := prog_12_method_67_code
def yX10_asked : MethodName := ⟨RX10, "asked", "(II)I"⟩
abbrev cX10_first : ByteArray := prog_12_method_68_code
def yX10_first : MethodName := ⟨RX10, "first", "(I)I"⟩
abbrev cX10_all : ByteArray := prog_12_method_69_code
def yX10_all : MethodName := ⟨RX10, "all", "()I"⟩
abbrev cX10_best : ByteArray := prog_12_method_70_code
def yX10_best : MethodName := ⟨RX10, "best", "(I)I"⟩
abbrev cX10_fewest : ByteArray := prog_12_method_71_code
def yX10_fewest : MethodName := ⟨RX10, "fewest", "(I)I"⟩
abbrev cX10_give : ByteArray := prog_12_method_72_code
def yX10_give : MethodName := ⟨RX10, "give", "(I)I"⟩
abbrev cX10_canChange : ByteArray := prog_12_method_73_code
def yX10_canChange : MethodName := ⟨RX10, "canChange", "(I)Z"⟩
abbrev cX10_changes : ByteArray := prog_12_method_74_code
def yX10_changes : MethodName := ⟨RX10, "changes", "(II)I"⟩
abbrev cX10_mayAll : ByteArray := prog_12_method_75_code
def yX10_mayAll : MethodName := ⟨RX10, "mayAll", "(II)Z"⟩
abbrev cX10_isSide : ByteArray := prog_12_method_76_code
def yX10_isSide : MethodName := ⟨RX10, "isSide", "(I)Z"⟩
abbrev cX10_side : ByteArray := prog_12_method_77_code
def yX10_side : MethodName := ⟨RX10, "side", "(I)I"⟩
abbrev cX10_rows : ByteArray := prog_12_method_78_code
def yX10_rows : MethodName := ⟨RX10, "rows", "(I)J"⟩
abbrev cX10_findOn : ByteArray := prog_12_method_79_code
def yX10_findOn : MethodName := ⟨RX10, "findOn", "(II)V"⟩
abbrev cX10_letterAt : ByteArray := prog_12_method_80_code
def yX10_letterAt : MethodName := ⟨RX10, "letterAt", "(III)I"⟩
abbrev cX10_made : ByteArray := prog_12_method_81_code
def yX10_made : MethodName := ⟨RX10, "made", "(III)J"⟩
abbrev cX10_strikes : ByteArray := prog_12_method_82_code
def yX10_strikes : MethodName := ⟨RX10, "strikes", "(I)I"⟩
abbrev cX10_draw : ByteArray := prog_12_method_83_code
def yX10_draw : MethodName := ⟨RX10, "draw", "()I"⟩
abbrev cX10_isNamed : ByteArray := prog_12_method_84_code
def yX10_isNamed : MethodName := ⟨RX10, "isNamed", "()Z"⟩
abbrev cX10_births : ByteArray := prog_12_method_85_code
def yX10_births : MethodName := ⟨RX10, "births", "(I)I"⟩
abbrev cX10_seed : ByteArray := prog_12_method_86_code
def yX10_seed : MethodName := ⟨RX10, "seed", "(I)I"⟩
abbrev cX10_bodyOf : ByteArray := prog_12_method_87_code
def yX10_bodyOf : MethodName := ⟨RX10, "bodyOf", "(II)I"⟩
abbrev cX10_says : ByteArray := prog_12_method_88_code
def yX10_says : MethodName := ⟨RX10, "says", "(II)I"⟩
abbrev cX10_speaks : ByteArray := prog_12_method_89_code
def yX10_speaks : MethodName := ⟨RX10, "speaks", "(III)I"⟩
abbrev cX10_does : ByteArray := prog_12_method_90_code
def yX10_does : MethodName := ⟨RX10, "does", "(III)I"⟩
abbrev cX10_voice : ByteArray := prog_12_method_91_code
def yX10_voice : MethodName := ⟨RX10, "voice", "(III)I"⟩
abbrev cX10_trace : ByteArray := prog_12_method_92_code
def yX10_trace : MethodName := ⟨RX10, "trace", "(I)I"⟩
abbrev cX10_isSheet : ByteArray := prog_12_method_93_code
def yX10_isSheet : MethodName := ⟨RX10, "isSheet", "(I)Z"⟩
abbrev cX10_sheet : ByteArray := prog_12_method_94_code
def yX10_sheet : MethodName := ⟨RX10, "sheet", "(III)I"⟩
abbrev cX10_put : ByteArray := prog_12_method_95_code
def yX10_put : MethodName := ⟨RX10, "put", "(III)I"⟩
abbrev cX10_move : ByteArray := prog_12_method_96_code
def yX10_move : MethodName := ⟨RX10, "move", "(IIIII)I"⟩
abbrev cX10_image : ByteArray := prog_12_method_97_code
def yX10_image : MethodName := ⟨RX10, "image", "()I"⟩
abbrev cX10_restore : ByteArray := prog_12_method_98_code
def yX10_restore : MethodName := ⟨RX10, "restore", "()I"⟩
abbrev cX10_tell : ByteArray := prog_12_method_99_code
def yX10_tell : MethodName := ⟨RX10, "tell", "(I)I"⟩
abbrev cX10_mayTell : ByteArray := prog_12_method_100_code
def yX10_mayTell : MethodName := ⟨RX10, "mayTell", "(I)Z"⟩
abbrev cX10_check : ByteArray := prog_12_method_101_code
def yX10_check : MethodName := ⟨RX10, "check", "()I"⟩
abbrev cX10_count : ByteArray := prog_12_method_102_code
def yX10_count : MethodName := ⟨RX10, "count", "(I)I"⟩
abbrev cX10_told : ByteArray := prog_12_method_103_code
def yX10_told : MethodName := ⟨RX10, "told", "(I)I"⟩
def RJ6 : String := "java/lang/Integer"
def TJ6 : u_T := fun k => match k with
  | _ => ("", "", "", false)
def tyJ6 : Nat → FieldType := fun k => match k with
  | _ => .int
theorem nmJ6 : ∀ a, a < 0 → ∀ b, b < 0 → a ≠ b → (TJ6 a).2.1 ≠ (TJ6 b).2.1 := by decide +kernel
theorem tyJ6_ok : ∀ k, k < 0 → parseFieldDescriptor (TJ6 k).2.2.1 = some (tyJ6 k) := by decide +kernel
abbrev cJ6_bitCount_0f7a4 : ByteArray := prog_13_method_49_code
def yJ6_bitCount_0f7a4 : MethodName := ⟨RJ6, "bitCount", "(I)I"⟩
def RJ9 : String := "java/lang/Math"
def TJ9 : u_T := fun k => match k with
  | _ => ("", "", "", false)
def tyJ9 : Nat → FieldType := fun k => match k with
  | _ => .int
theorem nmJ9 : ∀ a, a < 0 → ∀ b, b < 0 → a ≠ b → (TJ9 a).2.1 ≠ (TJ9 b).2.1 := by decide +kernel
theorem tyJ9_ok : ∀ k, k < 0 → parseFieldDescriptor (TJ9 k).2.2.1 = some (tyJ9 k) := by decide +kernel
abbrev cJ9_max_7cf53 : ByteArray := prog_14_method_65_code
def yJ9_max_7cf53 : MethodName := ⟨RJ9, "max", "(II)I"⟩
abbrev cJ9_min_7cf53 : ByteArray := prog_14_method_69_code
def yJ9_min_7cf53 : MethodName := ⟨RJ9, "min", "(II)I"⟩
def RJ10 : String := "java/lang/System"
def TJ10 : u_T := fun k => match k with
  | _ => ("", "", "", false)
def tyJ10 : Nat → FieldType := fun k => match k with
  | _ => .int
theorem nmJ10 : ∀ a, a < 0 → ∀ b, b < 0 → a ≠ b → (TJ10 a).2.1 ≠ (TJ10 b).2.1 := by decide +kernel
theorem tyJ10_ok : ∀ k, k < 0 → parseFieldDescriptor (TJ10 k).2.2.1 = some (tyJ10 k) := by decide +kernel
def RJ7 : String := "java/util/Arrays"
def TJ7 : u_T := fun k => match k with
  | _ => ("", "", "", false)
def tyJ7 : Nat → FieldType := fun k => match k with
  | _ => .int
theorem nmJ7 : ∀ a, a < 0 → ∀ b, b < 0 → a ≠ b → (TJ7 a).2.1 ≠ (TJ7 b).2.1 := by decide +kernel
theorem tyJ7_ok : ∀ k, k < 0 → parseFieldDescriptor (TJ7 k).2.2.1 = some (tyJ7 k) := by decide +kernel
abbrev cJ7_fill_d0a16 : ByteArray := prog_16_method_101_code
def yJ7_fill_d0a16 : MethodName := ⟨RJ7, "fill", "([JJ)V"⟩
abbrev cJ7_fill_53178 : ByteArray := prog_16_method_103_code
def yJ7_fill_53178 : MethodName := ⟨RJ7, "fill", "([II)V"⟩
def RL : String := "NamesApartLaw"
abbrev cL_law : ByteArray := code
def yL_law : MethodName := ⟨RL, "law", "([I)Z"⟩
abbrev vwCl : List vw_C := [(RX0, TX0, 11), (RX1, TX1, 5), (RX2, TX2, 3), (RX3, TX3, 19), (RX4, TX4, 5), (RX5, TX5, 4), (RX6, TX6, 3), (RX7, TX7, 5), (RX8, TX8, 3), (RX9, TX9, 11), (RX10, TX10, 23)]
end
section
theorem dX10_init_0 : decode cX10_init 0 = .ok (.aload_n 0, 1) := by decide +kernel
theorem dX10_init_1 : decode cX10_init 1 = .ok (.invokespecial 3, 3) := by decide +kernel
theorem dX10_init_4 : decode cX10_init 4 = .ok (.aload_n 0, 1) := by decide +kernel
theorem dX10_init_5 : decode cX10_init 5 = .ok (.sipush 372, 3) := by decide +kernel
theorem dX10_init_8 : decode cX10_init 8 = .ok (.newarray .int, 2) := by decide +kernel
theorem dX10_init_10 : decode cX10_init 10 = .ok (.putfield 9, 3) := by decide +kernel
theorem dX10_init_13 : decode cX10_init 13 = .ok (.aload_n 0, 1) := by decide +kernel
theorem dX10_init_14 : decode cX10_init 14 = .ok (.sipush 372, 3) := by decide +kernel
theorem dX10_init_17 : decode cX10_init 17 = .ok (.newarray .int, 2) := by decide +kernel
theorem dX10_init_19 : decode cX10_init 19 = .ok (.putfield 13, 3) := by decide +kernel
theorem dX10_init_22 : decode cX10_init 22 = .ok (.aload_n 0, 1) := by decide +kernel
theorem dX10_init_23 : decode cX10_init 23 = .ok (.bipush 6, 2) := by decide +kernel
theorem dX10_init_25 : decode cX10_init 25 = .ok (.newarray .int, 2) := by decide +kernel
theorem dX10_init_27 : decode cX10_init 27 = .ok (.putfield 16, 3) := by decide +kernel
theorem dX10_init_30 : decode cX10_init 30 = .ok (.aload_n 0, 1) := by decide +kernel
theorem dX10_init_31 : decode cX10_init 31 = .ok (.bipush 51, 2) := by decide +kernel
theorem dX10_init_33 : decode cX10_init 33 = .ok (.newarray .int, 2) := by decide +kernel
theorem dX10_init_35 : decode cX10_init 35 = .ok (.putfield 19, 3) := by decide +kernel
theorem dX10_init_38 : decode cX10_init 38 = .ok (.aload_n 0, 1) := by decide +kernel
theorem dX10_init_39 : decode cX10_init 39 = .ok (.bipush 51, 2) := by decide +kernel
theorem dX10_init_41 : decode cX10_init 41 = .ok (.newarray .int, 2) := by decide +kernel
theorem dX10_init_43 : decode cX10_init 43 = .ok (.putfield 22, 3) := by decide +kernel
theorem dX10_init_46 : decode cX10_init 46 = .ok (.aload_n 0, 1) := by decide +kernel
theorem dX10_init_47 : decode cX10_init 47 = .ok (.bipush 10, 2) := by decide +kernel
theorem dX10_init_49 : decode cX10_init 49 = .ok (.newarray .int, 2) := by decide +kernel
theorem dX10_init_51 : decode cX10_init 51 = .ok (.putfield 25, 3) := by decide +kernel
theorem dX10_init_54 : decode cX10_init 54 = .ok (.aload_n 0, 1) := by decide +kernel
theorem dX10_init_55 : decode cX10_init 55 = .ok (.iconst 4, 1) := by decide +kernel
theorem dX10_init_56 : decode cX10_init 56 = .ok (.newarray .int, 2) := by decide +kernel
theorem dX10_init_58 : decode cX10_init 58 = .ok (.putfield 28, 3) := by decide +kernel
theorem dX10_init_61 : decode cX10_init 61 = .ok (.aload_n 0, 1) := by decide +kernel
theorem dX10_init_62 : decode cX10_init 62 = .ok (.sipush 182, 3) := by decide +kernel
theorem dX10_init_65 : decode cX10_init 65 = .ok (.newarray .long, 2) := by decide +kernel
theorem dX10_init_67 : decode cX10_init 67 = .ok (.putfield 31, 3) := by decide +kernel
theorem dX10_init_70 : decode cX10_init 70 = .ok (.aload_n 0, 1) := by decide +kernel
theorem dX10_init_71 : decode cX10_init 71 = .ok (.bipush 40, 2) := by decide +kernel
theorem dX10_init_73 : decode cX10_init 73 = .ok (.newarray .int, 2) := by decide +kernel
theorem dX10_init_75 : decode cX10_init 75 = .ok (.putfield 35, 3) := by decide +kernel
theorem dX10_init_78 : decode cX10_init 78 = .ok (.aload_n 0, 1) := by decide +kernel
theorem dX10_init_79 : decode cX10_init 79 = .ok (.iconst 4, 1) := by decide +kernel
theorem dX10_init_80 : decode cX10_init 80 = .ok (.newarray .int, 2) := by decide +kernel
theorem dX10_init_82 : decode cX10_init 82 = .ok (.putfield 38, 3) := by decide +kernel
theorem dX10_init_85 : decode cX10_init 85 = .ok (.aload_n 0, 1) := by decide +kernel
theorem dX10_init_86 : decode cX10_init 86 = .ok (.iconst 4, 1) := by decide +kernel
theorem dX10_init_87 : decode cX10_init 87 = .ok (.newarray .int, 2) := by decide +kernel
theorem dX10_init_89 : decode cX10_init 89 = .ok (.putfield 41, 3) := by decide +kernel
theorem dX10_init_92 : decode cX10_init 92 = .ok (.aload_n 0, 1) := by decide +kernel
theorem dX10_init_93 : decode cX10_init 93 = .ok (.sipush 160, 3) := by decide +kernel
theorem dX10_init_96 : decode cX10_init 96 = .ok (.newarray .int, 2) := by decide +kernel
theorem dX10_init_98 : decode cX10_init 98 = .ok (.putfield 44, 3) := by decide +kernel
theorem dX10_init_101 : decode cX10_init 101 = .ok (.aload_n 0, 1) := by decide +kernel
theorem dX10_init_102 : decode cX10_init 102 = .ok (.getfield 9, 3) := by decide +kernel
theorem dX10_init_105 : decode cX10_init 105 = .ok (.iconst 3, 1) := by decide +kernel
theorem dX10_init_106 : decode cX10_init 106 = .ok (.iconst 1, 1) := by decide +kernel
theorem dX10_init_107 : decode cX10_init 107 = .ok (.iastore, 1) := by decide +kernel
theorem dX10_init_108 : decode cX10_init 108 = .ok (.return_, 1) := by decide +kernel
theorem dX10_fails_0 : decode cX10_fails 0 = .ok (.aload_n 0, 1) := by decide +kernel
theorem dX10_fails_1 : decode cX10_fails 1 = .ok (.getfield 16, 3) := by decide +kernel
theorem dX10_fails_4 : decode cX10_fails 4 = .ok (.ldc 47, 2) := by decide +kernel
theorem dX10_fails_6 : decode cX10_fails 6 = .ok (.iload_n 1, 1) := by decide +kernel
theorem dX10_fails_7 : decode cX10_fails 7 = .ok (.isub, 1) := by decide +kernel
theorem dX10_fails_8 : decode cX10_fails 8 = .ok (.dup2, 1) := by decide +kernel
theorem dX10_fails_9 : decode cX10_fails 9 = .ok (.iaload, 1) := by decide +kernel
theorem dX10_fails_10 : decode cX10_fails 10 = .ok (.iconst 1, 1) := by decide +kernel
theorem dX10_fails_11 : decode cX10_fails 11 = .ok (.iadd, 1) := by decide +kernel
theorem dX10_fails_12 : decode cX10_fails 12 = .ok (.iastore, 1) := by decide +kernel
theorem dX10_fails_13 : decode cX10_fails 13 = .ok (.iload_n 1, 1) := by decide +kernel
theorem dX10_fails_14 : decode cX10_fails 14 = .ok (.ireturn, 1) := by decide +kernel
theorem dX10_in_0 : decode cX10_in 0 = .ok (.lload_n 0, 1) := by decide +kernel
theorem dX10_in_1 : decode cX10_in 1 = .ok (.lload_n 2, 1) := by decide +kernel
theorem dX10_in_2 : decode cX10_in 2 = .ok (.lcmp, 1) := by decide +kernel
theorem dX10_in_3 : decode cX10_in 3 = .ok (.ifCond .lt 14, 3) := by decide +kernel
theorem dX10_in_6 : decode cX10_in 6 = .ok (.lload_n 0, 1) := by decide +kernel
theorem dX10_in_7 : decode cX10_in 7 = .ok (.lload 4, 2) := by decide +kernel
theorem dX10_in_9 : decode cX10_in 9 = .ok (.lcmp, 1) := by decide +kernel
theorem dX10_in_10 : decode cX10_in 10 = .ok (.ifCond .gt 7, 3) := by decide +kernel
theorem dX10_in_13 : decode cX10_in 13 = .ok (.iconst 1, 1) := by decide +kernel
theorem dX10_in_14 : decode cX10_in 14 = .ok (.goto 4, 3) := by decide +kernel
theorem dX10_in_17 : decode cX10_in 17 = .ok (.iconst 0, 1) := by decide +kernel
theorem dX10_in_18 : decode cX10_in 18 = .ok (.ireturn, 1) := by decide +kernel
theorem dX10_has_0 : decode cX10_has 0 = .ok (.iload_n 0, 1) := by decide +kernel
theorem dX10_has_1 : decode cX10_has 1 = .ok (.iload_n 1, 1) := by decide +kernel
theorem dX10_has_2 : decode cX10_has 2 = .ok (.ishr, 1) := by decide +kernel
theorem dX10_has_3 : decode cX10_has 3 = .ok (.iconst 1, 1) := by decide +kernel
theorem dX10_has_4 : decode cX10_has 4 = .ok (.iand, 1) := by decide +kernel
theorem dX10_has_5 : decode cX10_has 5 = .ok (.iconst 1, 1) := by decide +kernel
theorem dX10_has_6 : decode cX10_has 6 = .ok (.if_icmp .ne 7, 3) := by decide +kernel
theorem dX10_has_9 : decode cX10_has 9 = .ok (.iconst 1, 1) := by decide +kernel
theorem dX10_has_10 : decode cX10_has 10 = .ok (.goto 4, 3) := by decide +kernel
theorem dX10_has_13 : decode cX10_has 13 = .ok (.iconst 0, 1) := by decide +kernel
theorem dX10_has_14 : decode cX10_has 14 = .ok (.ireturn, 1) := by decide +kernel
theorem dX10_many_0 : decode cX10_many 0 = .ok (.iconst 0, 1) := by decide +kernel
theorem dX10_many_1 : decode cX10_many 1 = .ok (.istore_n 1, 1) := by decide +kernel
theorem dX10_many_2 : decode cX10_many 2 = .ok (.iconst 0, 1) := by decide +kernel
theorem dX10_many_3 : decode cX10_many 3 = .ok (.istore_n 2, 1) := by decide +kernel
theorem dX10_many_4 : decode cX10_many 4 = .ok (.iload_n 2, 1) := by decide +kernel
theorem dX10_many_5 : decode cX10_many 5 = .ok (.bipush 26, 2) := by decide +kernel
theorem dX10_many_7 : decode cX10_many 7 = .ok (.if_icmp .ge 17, 3) := by decide +kernel
theorem dX10_many_10 : decode cX10_many 10 = .ok (.iload_n 1, 1) := by decide +kernel
theorem dX10_many_11 : decode cX10_many 11 = .ok (.iload_n 0, 1) := by decide +kernel
theorem dX10_many_12 : decode cX10_many 12 = .ok (.iload_n 2, 1) := by decide +kernel
theorem dX10_many_13 : decode cX10_many 13 = .ok (.ishr, 1) := by decide +kernel
theorem dX10_many_14 : decode cX10_many 14 = .ok (.iconst 1, 1) := by decide +kernel
theorem dX10_many_15 : decode cX10_many 15 = .ok (.iand, 1) := by decide +kernel
theorem dX10_many_16 : decode cX10_many 16 = .ok (.iadd, 1) := by decide +kernel
theorem dX10_many_17 : decode cX10_many 17 = .ok (.istore_n 1, 1) := by decide +kernel
theorem dX10_many_18 : decode cX10_many 18 = .ok (.iinc 2 1, 3) := by decide +kernel
theorem dX10_many_21 : decode cX10_many 21 = .ok (.goto (-17), 3) := by decide +kernel
theorem dX10_many_24 : decode cX10_many 24 = .ok (.iload_n 1, 1) := by decide +kernel
theorem dX10_many_25 : decode cX10_many 25 = .ok (.ireturn, 1) := by decide +kernel
theorem dX10_becomes_0 : decode cX10_becomes 0 = .ok (.aload_n 0, 1) := by decide +kernel
theorem dX10_becomes_1 : decode cX10_becomes 1 = .ok (.getfield 9, 3) := by decide +kernel
theorem dX10_becomes_4 : decode cX10_becomes 4 = .ok (.iload_n 1, 1) := by decide +kernel
theorem dX10_becomes_5 : decode cX10_becomes 5 = .ok (.iaload, 1) := by decide +kernel
theorem dX10_becomes_6 : decode cX10_becomes 6 = .ok (.istore_n 3, 1) := by decide +kernel
theorem dX10_becomes_7 : decode cX10_becomes 7 = .ok (.aload_n 0, 1) := by decide +kernel
theorem dX10_becomes_8 : decode cX10_becomes 8 = .ok (.getfield 9, 3) := by decide +kernel
theorem dX10_becomes_11 : decode cX10_becomes 11 = .ok (.iload_n 1, 1) := by decide +kernel
theorem dX10_becomes_12 : decode cX10_becomes 12 = .ok (.iload_n 2, 1) := by decide +kernel
theorem dX10_becomes_13 : decode cX10_becomes 13 = .ok (.iastore, 1) := by decide +kernel
theorem dX10_becomes_14 : decode cX10_becomes 14 = .ok (.iload_n 3, 1) := by decide +kernel
theorem dX10_becomes_15 : decode cX10_becomes 15 = .ok (.ireturn, 1) := by decide +kernel
theorem dX10_isName_0 : decode cX10_isName 0 = .ok (.iload_n 1, 1) := by decide +kernel
theorem dX10_isName_1 : decode cX10_isName 1 = .ok (.i2l, 1) := by decide +kernel
theorem dX10_isName_2 : decode cX10_isName 2 = .ok (.lconst 0, 1) := by decide +kernel
theorem dX10_isName_3 : decode cX10_isName 3 = .ok (.aload_n 0, 1) := by decide +kernel
theorem dX10_isName_4 : decode cX10_isName 4 = .ok (.getfield 9, 3) := by decide +kernel
theorem dX10_isName_7 : decode cX10_isName 7 = .ok (.iconst 0, 1) := by decide +kernel
theorem dX10_isName_8 : decode cX10_isName 8 = .ok (.iaload, 1) := by decide +kernel
theorem dX10_isName_9 : decode cX10_isName 9 = .ok (.iconst 1, 1) := by decide +kernel
theorem dX10_isName_10 : decode cX10_isName 10 = .ok (.isub, 1) := by decide +kernel
theorem dX10_isName_11 : decode cX10_isName 11 = .ok (.i2l, 1) := by decide +kernel
theorem dX10_isName_12 : decode cX10_isName 12 = .ok (.invokestatic 48, 3) := by decide +kernel
theorem dX10_isName_15 : decode cX10_isName 15 = .ok (.ireturn, 1) := by decide +kernel
theorem dX10_ofIt_0 : decode cX10_ofIt 0 = .ok (.aload_n 0, 1) := by decide +kernel
theorem dX10_ofIt_1 : decode cX10_ofIt 1 = .ok (.getfield 9, 3) := by decide +kernel
theorem dX10_ofIt_4 : decode cX10_ofIt 4 = .ok (.bipush 6, 2) := by decide +kernel
theorem dX10_ofIt_6 : decode cX10_ofIt 6 = .ok (.bipush 11, 2) := by decide +kernel
theorem dX10_ofIt_8 : decode cX10_ofIt 8 = .ok (.iload_n 1, 1) := by decide +kernel
theorem dX10_ofIt_9 : decode cX10_ofIt 9 = .ok (.imul, 1) := by decide +kernel
theorem dX10_ofIt_10 : decode cX10_ofIt 10 = .ok (.iadd, 1) := by decide +kernel
theorem dX10_ofIt_11 : decode cX10_ofIt 11 = .ok (.iload_n 2, 1) := by decide +kernel
theorem dX10_ofIt_12 : decode cX10_ofIt 12 = .ok (.iadd, 1) := by decide +kernel
theorem dX10_ofIt_13 : decode cX10_ofIt 13 = .ok (.iaload, 1) := by decide +kernel
theorem dX10_ofIt_14 : decode cX10_ofIt 14 = .ok (.ireturn, 1) := by decide +kernel
theorem dX10_soundOf_0 : decode cX10_soundOf 0 = .ok (.aload_n 0, 1) := by decide +kernel
theorem dX10_soundOf_1 : decode cX10_soundOf 1 = .ok (.iload_n 1, 1) := by decide +kernel
theorem dX10_soundOf_2 : decode cX10_soundOf 2 = .ok (.iconst 0, 1) := by decide +kernel
theorem dX10_soundOf_3 : decode cX10_soundOf 3 = .ok (.invokevirtual 52, 3) := by decide +kernel
theorem dX10_soundOf_6 : decode cX10_soundOf 6 = .ok (.ireturn, 1) := by decide +kernel
theorem dX10_longOf_0 : decode cX10_longOf 0 = .ok (.aload_n 0, 1) := by decide +kernel
theorem dX10_longOf_1 : decode cX10_longOf 1 = .ok (.iload_n 1, 1) := by decide +kernel
theorem dX10_longOf_2 : decode cX10_longOf 2 = .ok (.iconst 1, 1) := by decide +kernel
theorem dX10_longOf_3 : decode cX10_longOf 3 = .ok (.invokevirtual 52, 3) := by decide +kernel
theorem dX10_longOf_6 : decode cX10_longOf 6 = .ok (.ireturn, 1) := by decide +kernel
theorem dX10_setOf_0 : decode cX10_setOf 0 = .ok (.iload_n 1, 1) := by decide +kernel
theorem dX10_setOf_1 : decode cX10_setOf 1 = .ok (.ifCond .ge 7, 3) := by decide +kernel
theorem dX10_setOf_4 : decode cX10_setOf 4 = .ok (.iconst 0, 1) := by decide +kernel
theorem dX10_setOf_5 : decode cX10_setOf 5 = .ok (.goto 9, 3) := by decide +kernel
theorem dX10_setOf_8 : decode cX10_setOf 8 = .ok (.aload_n 0, 1) := by decide +kernel
theorem dX10_setOf_9 : decode cX10_setOf 9 = .ok (.iload_n 1, 1) := by decide +kernel
theorem dX10_setOf_10 : decode cX10_setOf 10 = .ok (.iconst 2, 1) := by decide +kernel
theorem dX10_setOf_11 : decode cX10_setOf 11 = .ok (.invokevirtual 52, 3) := by decide +kernel
theorem dX10_setOf_14 : decode cX10_setOf 14 = .ok (.ireturn, 1) := by decide +kernel
theorem dX10_clashes_0 : decode cX10_clashes 0 = .ok (.aload_n 0, 1) := by decide +kernel
theorem dX10_clashes_1 : decode cX10_clashes 1 = .ok (.iload_n 1, 1) := by decide +kernel
theorem dX10_clashes_2 : decode cX10_clashes 2 = .ok (.invokevirtual 56, 3) := by decide +kernel
theorem dX10_clashes_5 : decode cX10_clashes 5 = .ok (.aload_n 0, 1) := by decide +kernel
theorem dX10_clashes_6 : decode cX10_clashes 6 = .ok (.iload_n 2, 1) := by decide +kernel
theorem dX10_clashes_7 : decode cX10_clashes 7 = .ok (.invokevirtual 56, 3) := by decide +kernel
theorem dX10_clashes_10 : decode cX10_clashes 10 = .ok (.iand, 1) := by decide +kernel
theorem dX10_clashes_11 : decode cX10_clashes 11 = .ok (.ifCond .eq 7, 3) := by decide +kernel
theorem dX10_clashes_14 : decode cX10_clashes 14 = .ok (.iconst 1, 1) := by decide +kernel
theorem dX10_clashes_15 : decode cX10_clashes 15 = .ok (.goto 4, 3) := by decide +kernel
theorem dX10_clashes_18 : decode cX10_clashes 18 = .ok (.iconst 0, 1) := by decide +kernel
theorem dX10_clashes_19 : decode cX10_clashes 19 = .ok (.ireturn, 1) := by decide +kernel
theorem dX10_isStruck_0 : decode cX10_isStruck 0 = .ok (.aload_n 0, 1) := by decide +kernel
theorem dX10_isStruck_1 : decode cX10_isStruck 1 = .ok (.iload_n 1, 1) := by decide +kernel
theorem dX10_isStruck_2 : decode cX10_isStruck 2 = .ok (.invokevirtual 56, 3) := by decide +kernel
theorem dX10_isStruck_5 : decode cX10_isStruck 5 = .ok (.aload_n 0, 1) := by decide +kernel
theorem dX10_isStruck_6 : decode cX10_isStruck 6 = .ok (.getfield 9, 3) := by decide +kernel
theorem dX10_isStruck_9 : decode cX10_isStruck 9 = .ok (.iconst 2, 1) := by decide +kernel
theorem dX10_isStruck_10 : decode cX10_isStruck 10 = .ok (.iaload, 1) := by decide +kernel
theorem dX10_isStruck_11 : decode cX10_isStruck 11 = .ok (.iand, 1) := by decide +kernel
theorem dX10_isStruck_12 : decode cX10_isStruck 12 = .ok (.ifCond .eq 7, 3) := by decide +kernel
theorem dX10_isStruck_15 : decode cX10_isStruck 15 = .ok (.iconst 1, 1) := by decide +kernel
theorem dX10_isStruck_16 : decode cX10_isStruck 16 = .ok (.goto 4, 3) := by decide +kernel
theorem dX10_isStruck_19 : decode cX10_isStruck 19 = .ok (.iconst 0, 1) := by decide +kernel
theorem dX10_isStruck_20 : decode cX10_isStruck 20 = .ok (.ireturn, 1) := by decide +kernel
theorem dX10_feed_0 : decode cX10_feed 0 = .ok (.iload_n 3, 1) := by decide +kernel
theorem dX10_feed_1 : decode cX10_feed 1 = .ok (.i2l, 1) := by decide +kernel
theorem dX10_feed_2 : decode cX10_feed 2 = .ok (.lconst 1, 1) := by decide +kernel
theorem dX10_feed_3 : decode cX10_feed 3 = .ok (.ldc2_w 60, 3) := by decide +kernel
theorem dX10_feed_6 : decode cX10_feed 6 = .ok (.invokestatic 48, 3) := by decide +kernel
theorem dX10_feed_9 : decode cX10_feed 9 = .ok (.ifCond .ne 10, 3) := by decide +kernel
theorem dX10_feed_12 : decode cX10_feed 12 = .ok (.aload_n 0, 1) := by decide +kernel
theorem dX10_feed_13 : decode cX10_feed 13 = .ok (.ldc 62, 2) := by decide +kernel
theorem dX10_feed_15 : decode cX10_feed 15 = .ok (.invokevirtual 63, 3) := by decide +kernel
theorem dX10_feed_18 : decode cX10_feed 18 = .ok (.ireturn, 1) := by decide +kernel
theorem dX10_feed_19 : decode cX10_feed 19 = .ok (.aload_n 0, 1) := by decide +kernel
theorem dX10_feed_20 : decode cX10_feed 20 = .ok (.getfield 9, 3) := by decide +kernel
theorem dX10_feed_23 : decode cX10_feed 23 = .ok (.iconst 4, 1) := by decide +kernel
theorem dX10_feed_24 : decode cX10_feed 24 = .ok (.iaload, 1) := by decide +kernel
theorem dX10_feed_25 : decode cX10_feed 25 = .ok (.iload_n 3, 1) := by decide +kernel
theorem dX10_feed_26 : decode cX10_feed 26 = .ok (.iadd, 1) := by decide +kernel
theorem dX10_feed_27 : decode cX10_feed 27 = .ok (.bipush 50, 2) := by decide +kernel
theorem dX10_feed_29 : decode cX10_feed 29 = .ok (.if_icmp .le 10, 3) := by decide +kernel
theorem dX10_feed_32 : decode cX10_feed 32 = .ok (.aload_n 0, 1) := by decide +kernel
theorem dX10_feed_33 : decode cX10_feed 33 = .ok (.ldc 66, 2) := by decide +kernel
theorem dX10_feed_35 : decode cX10_feed 35 = .ok (.invokevirtual 63, 3) := by decide +kernel
theorem dX10_feed_38 : decode cX10_feed 38 = .ok (.ireturn, 1) := by decide +kernel
theorem dX10_feed_39 : decode cX10_feed 39 = .ok (.iconst 0, 1) := by decide +kernel
theorem dX10_feed_40 : decode cX10_feed 40 = .ok (.istore 4, 2) := by decide +kernel
theorem dX10_feed_42 : decode cX10_feed 42 = .ok (.iload 4, 2) := by decide +kernel
theorem dX10_feed_44 : decode cX10_feed 44 = .ok (.iload_n 3, 1) := by decide +kernel
theorem dX10_feed_45 : decode cX10_feed 45 = .ok (.if_icmp .ge 46, 3) := by decide +kernel
theorem dX10_feed_48 : decode cX10_feed 48 = .ok (.aload_n 0, 1) := by decide +kernel
theorem dX10_feed_49 : decode cX10_feed 49 = .ok (.getfield 9, 3) := by decide +kernel
theorem dX10_feed_52 : decode cX10_feed 52 = .ok (.sipush 200, 3) := by decide +kernel
theorem dX10_feed_55 : decode cX10_feed 55 = .ok (.aload_n 0, 1) := by decide +kernel
theorem dX10_feed_56 : decode cX10_feed 56 = .ok (.getfield 9, 3) := by decide +kernel
theorem dX10_feed_59 : decode cX10_feed 59 = .ok (.iconst 4, 1) := by decide +kernel
theorem dX10_feed_60 : decode cX10_feed 60 = .ok (.iaload, 1) := by decide +kernel
theorem dX10_feed_61 : decode cX10_feed 61 = .ok (.iadd, 1) := by decide +kernel
theorem dX10_feed_62 : decode cX10_feed 62 = .ok (.lload_n 1, 1) := by decide +kernel
theorem dX10_feed_63 : decode cX10_feed 63 = .ok (.bipush 8, 2) := by decide +kernel
theorem dX10_feed_65 : decode cX10_feed 65 = .ok (.iload 4, 2) := by decide +kernel
theorem dX10_feed_67 : decode cX10_feed 67 = .ok (.imul, 1) := by decide +kernel
theorem dX10_feed_68 : decode cX10_feed 68 = .ok (.lshr, 1) := by decide +kernel
theorem dX10_feed_69 : decode cX10_feed 69 = .ok (.ldc2_w 67, 3) := by decide +kernel
theorem dX10_feed_72 : decode cX10_feed 72 = .ok (.land, 1) := by decide +kernel
theorem dX10_feed_73 : decode cX10_feed 73 = .ok (.l2i, 1) := by decide +kernel
theorem dX10_feed_74 : decode cX10_feed 74 = .ok (.iastore, 1) := by decide +kernel
theorem dX10_feed_75 : decode cX10_feed 75 = .ok (.aload_n 0, 1) := by decide +kernel
theorem dX10_feed_76 : decode cX10_feed 76 = .ok (.getfield 9, 3) := by decide +kernel
theorem dX10_feed_79 : decode cX10_feed 79 = .ok (.iconst 4, 1) := by decide +kernel
theorem dX10_feed_80 : decode cX10_feed 80 = .ok (.dup2, 1) := by decide +kernel
theorem dX10_feed_81 : decode cX10_feed 81 = .ok (.iaload, 1) := by decide +kernel
theorem dX10_feed_82 : decode cX10_feed 82 = .ok (.iconst 1, 1) := by decide +kernel
theorem dX10_feed_83 : decode cX10_feed 83 = .ok (.iadd, 1) := by decide +kernel
theorem dX10_feed_84 : decode cX10_feed 84 = .ok (.iastore, 1) := by decide +kernel
theorem dX10_feed_85 : decode cX10_feed 85 = .ok (.iinc 4 1, 3) := by decide +kernel
theorem dX10_feed_88 : decode cX10_feed 88 = .ok (.goto (-46), 3) := by decide +kernel
theorem dX10_feed_91 : decode cX10_feed 91 = .ok (.aload_n 0, 1) := by decide +kernel
theorem dX10_feed_92 : decode cX10_feed 92 = .ok (.getfield 9, 3) := by decide +kernel
theorem dX10_feed_95 : decode cX10_feed 95 = .ok (.iconst 4, 1) := by decide +kernel
theorem dX10_feed_96 : decode cX10_feed 96 = .ok (.iaload, 1) := by decide +kernel
theorem dX10_feed_97 : decode cX10_feed 97 = .ok (.ireturn, 1) := by decide +kernel
theorem dX10_byteAt_0 : decode cX10_byteAt 0 = .ok (.iload_n 1, 1) := by decide +kernel
theorem dX10_byteAt_1 : decode cX10_byteAt 1 = .ok (.aload_n 0, 1) := by decide +kernel
theorem dX10_byteAt_2 : decode cX10_byteAt 2 = .ok (.getfield 9, 3) := by decide +kernel
theorem dX10_byteAt_5 : decode cX10_byteAt 5 = .ok (.iconst 4, 1) := by decide +kernel
theorem dX10_byteAt_6 : decode cX10_byteAt 6 = .ok (.iaload, 1) := by decide +kernel
theorem dX10_byteAt_7 : decode cX10_byteAt 7 = .ok (.if_icmp .ge 16, 3) := by decide +kernel
theorem dX10_byteAt_10 : decode cX10_byteAt 10 = .ok (.aload_n 0, 1) := by decide +kernel
theorem dX10_byteAt_11 : decode cX10_byteAt 11 = .ok (.getfield 9, 3) := by decide +kernel
theorem dX10_byteAt_14 : decode cX10_byteAt 14 = .ok (.sipush 200, 3) := by decide +kernel
theorem dX10_byteAt_17 : decode cX10_byteAt 17 = .ok (.iload_n 1, 1) := by decide +kernel
theorem dX10_byteAt_18 : decode cX10_byteAt 18 = .ok (.iadd, 1) := by decide +kernel
theorem dX10_byteAt_19 : decode cX10_byteAt 19 = .ok (.iaload, 1) := by decide +kernel
theorem dX10_byteAt_20 : decode cX10_byteAt 20 = .ok (.goto 4, 3) := by decide +kernel
theorem dX10_byteAt_23 : decode cX10_byteAt 23 = .ok (.iconst (-1), 1) := by decide +kernel
theorem dX10_byteAt_24 : decode cX10_byteAt 24 = .ok (.ireturn, 1) := by decide +kernel
theorem dX10_name_0 : decode cX10_name 0 = .ok (.iload_n 1, 1) := by decide +kernel
theorem dX10_name_1 : decode cX10_name 1 = .ok (.i2l, 1) := by decide +kernel
theorem dX10_name_2 : decode cX10_name 2 = .ok (.lconst 0, 1) := by decide +kernel
theorem dX10_name_3 : decode cX10_name 3 = .ok (.ldc2_w 69, 3) := by decide +kernel
theorem dX10_name_6 : decode cX10_name 6 = .ok (.invokestatic 48, 3) := by decide +kernel
theorem dX10_name_9 : decode cX10_name 9 = .ok (.ifCond .ne 10, 3) := by decide +kernel
theorem dX10_name_12 : decode cX10_name 12 = .ok (.aload_n 0, 1) := by decide +kernel
theorem dX10_name_13 : decode cX10_name 13 = .ok (.ldc 62, 2) := by decide +kernel
theorem dX10_name_15 : decode cX10_name 15 = .ok (.invokevirtual 63, 3) := by decide +kernel
theorem dX10_name_18 : decode cX10_name 18 = .ok (.ireturn, 1) := by decide +kernel
theorem dX10_name_19 : decode cX10_name 19 = .ok (.aload_n 0, 1) := by decide +kernel
theorem dX10_name_20 : decode cX10_name 20 = .ok (.getfield 9, 3) := by decide +kernel
theorem dX10_name_23 : decode cX10_name 23 = .ok (.iconst 0, 1) := by decide +kernel
theorem dX10_name_24 : decode cX10_name 24 = .ok (.iaload, 1) := by decide +kernel
theorem dX10_name_25 : decode cX10_name 25 = .ok (.bipush 14, 2) := by decide +kernel
theorem dX10_name_27 : decode cX10_name 27 = .ok (.if_icmp .ne 10, 3) := by decide +kernel
theorem dX10_name_30 : decode cX10_name 30 = .ok (.aload_n 0, 1) := by decide +kernel
theorem dX10_name_31 : decode cX10_name 31 = .ok (.ldc 66, 2) := by decide +kernel
theorem dX10_name_33 : decode cX10_name 33 = .ok (.invokevirtual 63, 3) := by decide +kernel
theorem dX10_name_36 : decode cX10_name 36 = .ok (.ireturn, 1) := by decide +kernel
theorem dX10_name_37 : decode cX10_name 37 = .ok (.aload_n 0, 1) := by decide +kernel
theorem dX10_name_38 : decode cX10_name 38 = .ok (.getfield 9, 3) := by decide +kernel
theorem dX10_name_41 : decode cX10_name 41 = .ok (.iconst 4, 1) := by decide +kernel
theorem dX10_name_42 : decode cX10_name 42 = .ok (.iaload, 1) := by decide +kernel
theorem dX10_name_43 : decode cX10_name 43 = .ok (.istore_n 2, 1) := by decide +kernel
theorem dX10_name_44 : decode cX10_name 44 = .ok (.iconst 0, 1) := by decide +kernel
theorem dX10_name_45 : decode cX10_name 45 = .ok (.istore_n 3, 1) := by decide +kernel
theorem dX10_name_46 : decode cX10_name 46 = .ok (.iload_n 3, 1) := by decide +kernel
theorem dX10_name_47 : decode cX10_name 47 = .ok (.iload_n 2, 1) := by decide +kernel
theorem dX10_name_48 : decode cX10_name 48 = .ok (.if_icmp .ge 33, 3) := by decide +kernel
theorem dX10_name_51 : decode cX10_name 51 = .ok (.iload_n 3, 1) := by decide +kernel
theorem dX10_name_52 : decode cX10_name 52 = .ok (.bipush 8, 2) := by decide +kernel
theorem dX10_name_54 : decode cX10_name 54 = .ok (.if_icmp .ge 27, 3) := by decide +kernel
theorem dX10_name_57 : decode cX10_name 57 = .ok (.aload_n 0, 1) := by decide +kernel
theorem dX10_name_58 : decode cX10_name 58 = .ok (.iload_n 3, 1) := by decide +kernel
theorem dX10_name_59 : decode cX10_name 59 = .ok (.invokevirtual 71, 3) := by decide +kernel
theorem dX10_name_62 : decode cX10_name 62 = .ok (.i2l, 1) := by decide +kernel
theorem dX10_name_63 : decode cX10_name 63 = .ok (.ldc2_w 74, 3) := by decide +kernel
theorem dX10_name_66 : decode cX10_name 66 = .ok (.ldc2_w 76, 3) := by decide +kernel
theorem dX10_name_69 : decode cX10_name 69 = .ok (.invokestatic 48, 3) := by decide +kernel
theorem dX10_name_72 : decode cX10_name 72 = .ok (.ifCond .eq 9, 3) := by decide +kernel
theorem dX10_name_75 : decode cX10_name 75 = .ok (.iinc 3 1, 3) := by decide +kernel
theorem dX10_name_78 : decode cX10_name 78 = .ok (.goto (-32), 3) := by decide +kernel
theorem dX10_name_81 : decode cX10_name 81 = .ok (.aload_n 0, 1) := by decide +kernel
theorem dX10_name_82 : decode cX10_name 82 = .ok (.getfield 9, 3) := by decide +kernel
theorem dX10_name_85 : decode cX10_name 85 = .ok (.iconst 4, 1) := by decide +kernel
theorem dX10_name_86 : decode cX10_name 86 = .ok (.iconst 0, 1) := by decide +kernel
theorem dX10_name_87 : decode cX10_name 87 = .ok (.iastore, 1) := by decide +kernel
theorem dX10_name_88 : decode cX10_name 88 = .ok (.iload_n 3, 1) := by decide +kernel
theorem dX10_name_89 : decode cX10_name 89 = .ok (.iload_n 2, 1) := by decide +kernel
theorem dX10_name_90 : decode cX10_name 90 = .ok (.if_icmp .lt 7, 3) := by decide +kernel
theorem dX10_name_93 : decode cX10_name 93 = .ok (.iload_n 2, 1) := by decide +kernel
theorem dX10_name_94 : decode cX10_name 94 = .ok (.ifCond .ne 8, 3) := by decide +kernel
theorem dX10_name_97 : decode cX10_name 97 = .ok (.bipush (-10), 2) := by decide +kernel
theorem dX10_name_99 : decode cX10_name 99 = .ok (.iload_n 3, 1) := by decide +kernel
theorem dX10_name_100 : decode cX10_name 100 = .ok (.isub, 1) := by decide +kernel
theorem dX10_name_101 : decode cX10_name 101 = .ok (.ireturn, 1) := by decide +kernel
theorem dX10_name_102 : decode cX10_name 102 = .ok (.bipush 6, 2) := by decide +kernel
theorem dX10_name_104 : decode cX10_name 104 = .ok (.bipush 11, 2) := by decide +kernel
theorem dX10_name_106 : decode cX10_name 106 = .ok (.aload_n 0, 1) := by decide +kernel
theorem dX10_name_107 : decode cX10_name 107 = .ok (.getfield 9, 3) := by decide +kernel
theorem dX10_name_110 : decode cX10_name 110 = .ok (.iconst 0, 1) := by decide +kernel
theorem dX10_name_111 : decode cX10_name 111 = .ok (.iaload, 1) := by decide +kernel
theorem dX10_name_112 : decode cX10_name 112 = .ok (.imul, 1) := by decide +kernel
theorem dX10_name_113 : decode cX10_name 113 = .ok (.iadd, 1) := by decide +kernel
theorem dX10_name_114 : decode cX10_name 114 = .ok (.istore 4, 2) := by decide +kernel
theorem dX10_name_116 : decode cX10_name 116 = .ok (.aload_n 0, 1) := by decide +kernel
theorem dX10_name_117 : decode cX10_name 117 = .ok (.getfield 9, 3) := by decide +kernel
theorem dX10_name_120 : decode cX10_name 120 = .ok (.iload 4, 2) := by decide +kernel
theorem dX10_name_122 : decode cX10_name 122 = .ok (.iload_n 1, 1) := by decide +kernel
theorem dX10_name_123 : decode cX10_name 123 = .ok (.iastore, 1) := by decide +kernel
theorem dX10_name_124 : decode cX10_name 124 = .ok (.aload_n 0, 1) := by decide +kernel
theorem dX10_name_125 : decode cX10_name 125 = .ok (.getfield 9, 3) := by decide +kernel
theorem dX10_name_128 : decode cX10_name 128 = .ok (.iload 4, 2) := by decide +kernel
theorem dX10_name_130 : decode cX10_name 130 = .ok (.iconst 1, 1) := by decide +kernel
theorem dX10_name_131 : decode cX10_name 131 = .ok (.iadd, 1) := by decide +kernel
theorem dX10_name_132 : decode cX10_name 132 = .ok (.iload_n 2, 1) := by decide +kernel
theorem dX10_name_133 : decode cX10_name 133 = .ok (.iastore, 1) := by decide +kernel
theorem dX10_name_134 : decode cX10_name 134 = .ok (.aload_n 0, 1) := by decide +kernel
theorem dX10_name_135 : decode cX10_name 135 = .ok (.getfield 9, 3) := by decide +kernel
theorem dX10_name_138 : decode cX10_name 138 = .ok (.iload 4, 2) := by decide +kernel
theorem dX10_name_140 : decode cX10_name 140 = .ok (.iconst 2, 1) := by decide +kernel
theorem dX10_name_141 : decode cX10_name 141 = .ok (.iadd, 1) := by decide +kernel
theorem dX10_name_142 : decode cX10_name 142 = .ok (.iconst 0, 1) := by decide +kernel
theorem dX10_name_143 : decode cX10_name 143 = .ok (.iastore, 1) := by decide +kernel
theorem dX10_name_144 : decode cX10_name 144 = .ok (.iconst 0, 1) := by decide +kernel
theorem dX10_name_145 : decode cX10_name 145 = .ok (.istore 5, 2) := by decide +kernel
theorem dX10_name_147 : decode cX10_name 147 = .ok (.iload 5, 2) := by decide +kernel
theorem dX10_name_149 : decode cX10_name 149 = .ok (.bipush 8, 2) := by decide +kernel
theorem dX10_name_151 : decode cX10_name 151 = .ok (.if_icmp .ge 81, 3) := by decide +kernel
theorem dX10_name_154 : decode cX10_name 154 = .ok (.aload_n 0, 1) := by decide +kernel
theorem dX10_name_155 : decode cX10_name 155 = .ok (.getfield 9, 3) := by decide +kernel
theorem dX10_name_158 : decode cX10_name 158 = .ok (.iload 4, 2) := by decide +kernel
theorem dX10_name_160 : decode cX10_name 160 = .ok (.iconst 3, 1) := by decide +kernel
theorem dX10_name_161 : decode cX10_name 161 = .ok (.iadd, 1) := by decide +kernel
theorem dX10_name_162 : decode cX10_name 162 = .ok (.iload 5, 2) := by decide +kernel
theorem dX10_name_164 : decode cX10_name 164 = .ok (.iadd, 1) := by decide +kernel
theorem dX10_name_165 : decode cX10_name 165 = .ok (.iload 5, 2) := by decide +kernel
theorem dX10_name_167 : decode cX10_name 167 = .ok (.iload_n 2, 1) := by decide +kernel
theorem dX10_name_168 : decode cX10_name 168 = .ok (.if_icmp .ge 20, 3) := by decide +kernel
theorem dX10_name_171 : decode cX10_name 171 = .ok (.aload_n 0, 1) := by decide +kernel
theorem dX10_name_172 : decode cX10_name 172 = .ok (.getfield 9, 3) := by decide +kernel
theorem dX10_name_175 : decode cX10_name 175 = .ok (.sipush 200, 3) := by decide +kernel
theorem dX10_name_178 : decode cX10_name 178 = .ok (.iload 5, 2) := by decide +kernel
theorem dX10_name_180 : decode cX10_name 180 = .ok (.iadd, 1) := by decide +kernel
theorem dX10_name_181 : decode cX10_name 181 = .ok (.iaload, 1) := by decide +kernel
theorem dX10_name_182 : decode cX10_name 182 = .ok (.bipush 97, 2) := by decide +kernel
theorem dX10_name_184 : decode cX10_name 184 = .ok (.isub, 1) := by decide +kernel
theorem dX10_name_185 : decode cX10_name 185 = .ok (.goto 4, 3) := by decide +kernel
theorem dX10_name_188 : decode cX10_name 188 = .ok (.iconst (-1), 1) := by decide +kernel
theorem dX10_name_189 : decode cX10_name 189 = .ok (.iastore, 1) := by decide +kernel
theorem dX10_name_190 : decode cX10_name 190 = .ok (.aload_n 0, 1) := by decide +kernel
theorem dX10_name_191 : decode cX10_name 191 = .ok (.getfield 9, 3) := by decide +kernel
theorem dX10_name_194 : decode cX10_name 194 = .ok (.iload 4, 2) := by decide +kernel
theorem dX10_name_196 : decode cX10_name 196 = .ok (.iconst 2, 1) := by decide +kernel
theorem dX10_name_197 : decode cX10_name 197 = .ok (.iadd, 1) := by decide +kernel
theorem dX10_name_198 : decode cX10_name 198 = .ok (.dup2, 1) := by decide +kernel
theorem dX10_name_199 : decode cX10_name 199 = .ok (.iaload, 1) := by decide +kernel
theorem dX10_name_200 : decode cX10_name 200 = .ok (.iload 5, 2) := by decide +kernel
theorem dX10_name_202 : decode cX10_name 202 = .ok (.iload_n 2, 1) := by decide +kernel
theorem dX10_name_203 : decode cX10_name 203 = .ok (.if_icmp .ge 20, 3) := by decide +kernel
theorem dX10_name_206 : decode cX10_name 206 = .ok (.iconst 1, 1) := by decide +kernel
theorem dX10_name_207 : decode cX10_name 207 = .ok (.aload_n 0, 1) := by decide +kernel
theorem dX10_name_208 : decode cX10_name 208 = .ok (.getfield 9, 3) := by decide +kernel
theorem dX10_name_211 : decode cX10_name 211 = .ok (.iload 4, 2) := by decide +kernel
theorem dX10_name_213 : decode cX10_name 213 = .ok (.iconst 3, 1) := by decide +kernel
theorem dX10_name_214 : decode cX10_name 214 = .ok (.iadd, 1) := by decide +kernel
theorem dX10_name_215 : decode cX10_name 215 = .ok (.iload 5, 2) := by decide +kernel
theorem dX10_name_217 : decode cX10_name 217 = .ok (.iadd, 1) := by decide +kernel
theorem dX10_name_218 : decode cX10_name 218 = .ok (.iaload, 1) := by decide +kernel
theorem dX10_name_219 : decode cX10_name 219 = .ok (.ishl, 1) := by decide +kernel
theorem dX10_name_220 : decode cX10_name 220 = .ok (.goto 4, 3) := by decide +kernel
theorem dX10_name_223 : decode cX10_name 223 = .ok (.iconst 0, 1) := by decide +kernel
theorem dX10_name_224 : decode cX10_name 224 = .ok (.ior, 1) := by decide +kernel
theorem dX10_name_225 : decode cX10_name 225 = .ok (.iastore, 1) := by decide +kernel
theorem dX10_name_226 : decode cX10_name 226 = .ok (.iinc 5 1, 3) := by decide +kernel
theorem dX10_name_229 : decode cX10_name 229 = .ok (.goto (-82), 3) := by decide +kernel
theorem dX10_name_232 : decode cX10_name 232 = .ok (.aload_n 0, 1) := by decide +kernel
theorem dX10_name_233 : decode cX10_name 233 = .ok (.getfield 9, 3) := by decide +kernel
theorem dX10_name_236 : decode cX10_name 236 = .ok (.iconst 0, 1) := by decide +kernel
theorem dX10_name_237 : decode cX10_name 237 = .ok (.dup2, 1) := by decide +kernel
theorem dX10_name_238 : decode cX10_name 238 = .ok (.iaload, 1) := by decide +kernel
theorem dX10_name_239 : decode cX10_name 239 = .ok (.iconst 1, 1) := by decide +kernel
theorem dX10_name_240 : decode cX10_name 240 = .ok (.iadd, 1) := by decide +kernel
theorem dX10_name_241 : decode cX10_name 241 = .ok (.iastore, 1) := by decide +kernel
theorem dX10_name_242 : decode cX10_name 242 = .ok (.aload_n 0, 1) := by decide +kernel
theorem dX10_name_243 : decode cX10_name 243 = .ok (.getfield 9, 3) := by decide +kernel
theorem dX10_name_246 : decode cX10_name 246 = .ok (.iconst 0, 1) := by decide +kernel
theorem dX10_name_247 : decode cX10_name 247 = .ok (.iaload, 1) := by decide +kernel
theorem dX10_name_248 : decode cX10_name 248 = .ok (.iconst 1, 1) := by decide +kernel
theorem dX10_name_249 : decode cX10_name 249 = .ok (.isub, 1) := by decide +kernel
theorem dX10_name_250 : decode cX10_name 250 = .ok (.ireturn, 1) := by decide +kernel
theorem dX10_ofName_0 : decode cX10_ofName 0 = .ok (.aload_n 0, 1) := by decide +kernel
theorem dX10_ofName_1 : decode cX10_ofName 1 = .ok (.iload_n 1, 1) := by decide +kernel
theorem dX10_ofName_2 : decode cX10_ofName 2 = .ok (.invokevirtual 78, 3) := by decide +kernel
theorem dX10_ofName_5 : decode cX10_ofName 5 = .ok (.ifCond .eq 24, 3) := by decide +kernel
theorem dX10_ofName_8 : decode cX10_ofName 8 = .ok (.iload_n 2, 1) := by decide +kernel
theorem dX10_ofName_9 : decode cX10_ofName 9 = .ok (.i2l, 1) := by decide +kernel
theorem dX10_ofName_10 : decode cX10_ofName 10 = .ok (.lconst 0, 1) := by decide +kernel
theorem dX10_ofName_11 : decode cX10_ofName 11 = .ok (.ldc2_w 82, 3) := by decide +kernel
theorem dX10_ofName_14 : decode cX10_ofName 14 = .ok (.invokestatic 48, 3) := by decide +kernel
theorem dX10_ofName_17 : decode cX10_ofName 17 = .ok (.ifCond .eq 12, 3) := by decide +kernel
theorem dX10_ofName_20 : decode cX10_ofName 20 = .ok (.aload_n 0, 1) := by decide +kernel
theorem dX10_ofName_21 : decode cX10_ofName 21 = .ok (.iload_n 1, 1) := by decide +kernel
theorem dX10_ofName_22 : decode cX10_ofName 22 = .ok (.iload_n 2, 1) := by decide +kernel
theorem dX10_ofName_23 : decode cX10_ofName 23 = .ok (.invokevirtual 52, 3) := by decide +kernel
theorem dX10_ofName_26 : decode cX10_ofName 26 = .ok (.goto 9, 3) := by decide +kernel
theorem dX10_ofName_29 : decode cX10_ofName 29 = .ok (.aload_n 0, 1) := by decide +kernel
theorem dX10_ofName_30 : decode cX10_ofName 30 = .ok (.ldc 62, 2) := by decide +kernel
theorem dX10_ofName_32 : decode cX10_ofName 32 = .ok (.invokevirtual 63, 3) := by decide +kernel
theorem dX10_ofName_35 : decode cX10_ofName 35 = .ok (.ireturn, 1) := by decide +kernel
theorem dX10_sound_0 : decode cX10_sound 0 = .ok (.aload_n 0, 1) := by decide +kernel
theorem dX10_sound_1 : decode cX10_sound 1 = .ok (.iload_n 1, 1) := by decide +kernel
theorem dX10_sound_2 : decode cX10_sound 2 = .ok (.invokevirtual 78, 3) := by decide +kernel
theorem dX10_sound_5 : decode cX10_sound 5 = .ok (.ifCond .eq 30, 3) := by decide +kernel
theorem dX10_sound_8 : decode cX10_sound 8 = .ok (.iload_n 2, 1) := by decide +kernel
theorem dX10_sound_9 : decode cX10_sound 9 = .ok (.i2l, 1) := by decide +kernel
theorem dX10_sound_10 : decode cX10_sound 10 = .ok (.lconst 0, 1) := by decide +kernel
theorem dX10_sound_11 : decode cX10_sound 11 = .ok (.ldc2_w 69, 3) := by decide +kernel
theorem dX10_sound_14 : decode cX10_sound 14 = .ok (.invokestatic 48, 3) := by decide +kernel
theorem dX10_sound_17 : decode cX10_sound 17 = .ok (.ifCond .eq 18, 3) := by decide +kernel
theorem dX10_sound_20 : decode cX10_sound 20 = .ok (.aload_n 0, 1) := by decide +kernel
theorem dX10_sound_21 : decode cX10_sound 21 = .ok (.bipush 6, 2) := by decide +kernel
theorem dX10_sound_23 : decode cX10_sound 23 = .ok (.bipush 11, 2) := by decide +kernel
theorem dX10_sound_25 : decode cX10_sound 25 = .ok (.iload_n 1, 1) := by decide +kernel
theorem dX10_sound_26 : decode cX10_sound 26 = .ok (.imul, 1) := by decide +kernel
theorem dX10_sound_27 : decode cX10_sound 27 = .ok (.iadd, 1) := by decide +kernel
theorem dX10_sound_28 : decode cX10_sound 28 = .ok (.iload_n 2, 1) := by decide +kernel
theorem dX10_sound_29 : decode cX10_sound 29 = .ok (.invokevirtual 84, 3) := by decide +kernel
theorem dX10_sound_32 : decode cX10_sound 32 = .ok (.goto 9, 3) := by decide +kernel
theorem dX10_sound_35 : decode cX10_sound 35 = .ok (.aload_n 0, 1) := by decide +kernel
theorem dX10_sound_36 : decode cX10_sound 36 = .ok (.ldc 62, 2) := by decide +kernel
theorem dX10_sound_38 : decode cX10_sound 38 = .ok (.invokevirtual 63, 3) := by decide +kernel
theorem dX10_sound_41 : decode cX10_sound 41 = .ok (.ireturn, 1) := by decide +kernel
theorem dX10_clash_0 : decode cX10_clash 0 = .ok (.aload_n 0, 1) := by decide +kernel
theorem dX10_clash_1 : decode cX10_clash 1 = .ok (.iload_n 1, 1) := by decide +kernel
theorem dX10_clash_2 : decode cX10_clash 2 = .ok (.invokevirtual 78, 3) := by decide +kernel
theorem dX10_clash_5 : decode cX10_clash 5 = .ok (.ifCond .eq 25, 3) := by decide +kernel
theorem dX10_clash_8 : decode cX10_clash 8 = .ok (.aload_n 0, 1) := by decide +kernel
theorem dX10_clash_9 : decode cX10_clash 9 = .ok (.iload_n 2, 1) := by decide +kernel
theorem dX10_clash_10 : decode cX10_clash 10 = .ok (.invokevirtual 78, 3) := by decide +kernel
theorem dX10_clash_13 : decode cX10_clash 13 = .ok (.ifCond .eq 17, 3) := by decide +kernel
theorem dX10_clash_16 : decode cX10_clash 16 = .ok (.aload_n 0, 1) := by decide +kernel
theorem dX10_clash_17 : decode cX10_clash 17 = .ok (.iload_n 1, 1) := by decide +kernel
theorem dX10_clash_18 : decode cX10_clash 18 = .ok (.invokevirtual 56, 3) := by decide +kernel
theorem dX10_clash_21 : decode cX10_clash 21 = .ok (.aload_n 0, 1) := by decide +kernel
theorem dX10_clash_22 : decode cX10_clash 22 = .ok (.iload_n 2, 1) := by decide +kernel
theorem dX10_clash_23 : decode cX10_clash 23 = .ok (.invokevirtual 56, 3) := by decide +kernel
theorem dX10_clash_26 : decode cX10_clash 26 = .ok (.iand, 1) := by decide +kernel
theorem dX10_clash_27 : decode cX10_clash 27 = .ok (.goto 9, 3) := by decide +kernel
theorem dX10_clash_30 : decode cX10_clash 30 = .ok (.aload_n 0, 1) := by decide +kernel
theorem dX10_clash_31 : decode cX10_clash 31 = .ok (.ldc 62, 2) := by decide +kernel
theorem dX10_clash_33 : decode cX10_clash 33 = .ok (.invokevirtual 63, 3) := by decide +kernel
theorem dX10_clash_36 : decode cX10_clash 36 = .ok (.ireturn, 1) := by decide +kernel
theorem dX10_strike_0 : decode cX10_strike 0 = .ok (.iload_n 1, 1) := by decide +kernel
theorem dX10_strike_1 : decode cX10_strike 1 = .ok (.i2l, 1) := by decide +kernel
theorem dX10_strike_2 : decode cX10_strike 2 = .ok (.lconst 0, 1) := by decide +kernel
theorem dX10_strike_3 : decode cX10_strike 3 = .ok (.ldc2_w 87, 3) := by decide +kernel
theorem dX10_strike_6 : decode cX10_strike 6 = .ok (.invokestatic 48, 3) := by decide +kernel
theorem dX10_strike_9 : decode cX10_strike 9 = .ok (.ifCond .eq 13, 3) := by decide +kernel
theorem dX10_strike_12 : decode cX10_strike 12 = .ok (.iload_n 2, 1) := by decide +kernel
theorem dX10_strike_13 : decode cX10_strike 13 = .ok (.i2l, 1) := by decide +kernel
theorem dX10_strike_14 : decode cX10_strike 14 = .ok (.lconst 0, 1) := by decide +kernel
theorem dX10_strike_15 : decode cX10_strike 15 = .ok (.lconst 1, 1) := by decide +kernel
theorem dX10_strike_16 : decode cX10_strike 16 = .ok (.invokestatic 48, 3) := by decide +kernel
theorem dX10_strike_19 : decode cX10_strike 19 = .ok (.ifCond .ne 10, 3) := by decide +kernel
theorem dX10_strike_22 : decode cX10_strike 22 = .ok (.aload_n 0, 1) := by decide +kernel
theorem dX10_strike_23 : decode cX10_strike 23 = .ok (.ldc 62, 2) := by decide +kernel
theorem dX10_strike_25 : decode cX10_strike 25 = .ok (.invokevirtual 63, 3) := by decide +kernel
theorem dX10_strike_28 : decode cX10_strike 28 = .ok (.ireturn, 1) := by decide +kernel
theorem dX10_strike_29 : decode cX10_strike 29 = .ok (.aload_n 0, 1) := by decide +kernel
theorem dX10_strike_30 : decode cX10_strike 30 = .ok (.getfield 9, 3) := by decide +kernel
theorem dX10_strike_33 : decode cX10_strike 33 = .ok (.iconst 2, 1) := by decide +kernel
theorem dX10_strike_34 : decode cX10_strike 34 = .ok (.iaload, 1) := by decide +kernel
theorem dX10_strike_35 : decode cX10_strike 35 = .ok (.iload_n 1, 1) := by decide +kernel
theorem dX10_strike_36 : decode cX10_strike 36 = .ok (.ishr, 1) := by decide +kernel
theorem dX10_strike_37 : decode cX10_strike 37 = .ok (.iconst 1, 1) := by decide +kernel
theorem dX10_strike_38 : decode cX10_strike 38 = .ok (.iand, 1) := by decide +kernel
theorem dX10_strike_39 : decode cX10_strike 39 = .ok (.istore_n 3, 1) := by decide +kernel
theorem dX10_strike_40 : decode cX10_strike 40 = .ok (.aload_n 0, 1) := by decide +kernel
theorem dX10_strike_41 : decode cX10_strike 41 = .ok (.getfield 9, 3) := by decide +kernel
theorem dX10_strike_44 : decode cX10_strike 44 = .ok (.iconst 2, 1) := by decide +kernel
theorem dX10_strike_45 : decode cX10_strike 45 = .ok (.dup2, 1) := by decide +kernel
theorem dX10_strike_46 : decode cX10_strike 46 = .ok (.iaload, 1) := by decide +kernel
theorem dX10_strike_47 : decode cX10_strike 47 = .ok (.iload_n 2, 1) := by decide +kernel
theorem dX10_strike_48 : decode cX10_strike 48 = .ok (.iload_n 3, 1) := by decide +kernel
theorem dX10_strike_49 : decode cX10_strike 49 = .ok (.isub, 1) := by decide +kernel
theorem dX10_strike_50 : decode cX10_strike 50 = .ok (.iconst 1, 1) := by decide +kernel
theorem dX10_strike_51 : decode cX10_strike 51 = .ok (.iload_n 1, 1) := by decide +kernel
theorem dX10_strike_52 : decode cX10_strike 52 = .ok (.ishl, 1) := by decide +kernel
theorem dX10_strike_53 : decode cX10_strike 53 = .ok (.imul, 1) := by decide +kernel
theorem dX10_strike_54 : decode cX10_strike 54 = .ok (.iadd, 1) := by decide +kernel
theorem dX10_strike_55 : decode cX10_strike 55 = .ok (.iastore, 1) := by decide +kernel
theorem dX10_strike_56 : decode cX10_strike 56 = .ok (.iload_n 3, 1) := by decide +kernel
theorem dX10_strike_57 : decode cX10_strike 57 = .ok (.ireturn, 1) := by decide +kernel
theorem dX10_isPerson_0 : decode cX10_isPerson 0 = .ok (.iload_n 1, 1) := by decide +kernel
theorem dX10_isPerson_1 : decode cX10_isPerson 1 = .ok (.i2l, 1) := by decide +kernel
theorem dX10_isPerson_2 : decode cX10_isPerson 2 = .ok (.lconst 0, 1) := by decide +kernel
theorem dX10_isPerson_3 : decode cX10_isPerson 3 = .ok (.aload_n 0, 1) := by decide +kernel
theorem dX10_isPerson_4 : decode cX10_isPerson 4 = .ok (.getfield 9, 3) := by decide +kernel
theorem dX10_isPerson_7 : decode cX10_isPerson 7 = .ok (.iconst 1, 1) := by decide +kernel
theorem dX10_isPerson_8 : decode cX10_isPerson 8 = .ok (.iaload, 1) := by decide +kernel
theorem dX10_isPerson_9 : decode cX10_isPerson 9 = .ok (.iconst 1, 1) := by decide +kernel
theorem dX10_isPerson_10 : decode cX10_isPerson 10 = .ok (.isub, 1) := by decide +kernel
theorem dX10_isPerson_11 : decode cX10_isPerson 11 = .ok (.i2l, 1) := by decide +kernel
theorem dX10_isPerson_12 : decode cX10_isPerson 12 = .ok (.invokestatic 48, 3) := by decide +kernel
theorem dX10_isPerson_15 : decode cX10_isPerson 15 = .ok (.ireturn, 1) := by decide +kernel
theorem dX10_isKind_0 : decode cX10_isKind 0 = .ok (.iload_n 0, 1) := by decide +kernel
theorem dX10_isKind_1 : decode cX10_isKind 1 = .ok (.i2l, 1) := by decide +kernel
theorem dX10_isKind_2 : decode cX10_isKind 2 = .ok (.lconst 0, 1) := by decide +kernel
theorem dX10_isKind_3 : decode cX10_isKind 3 = .ok (.ldc2_w 89, 3) := by decide +kernel
theorem dX10_isKind_6 : decode cX10_isKind 6 = .ok (.invokestatic 48, 3) := by decide +kernel
theorem dX10_isKind_9 : decode cX10_isKind 9 = .ok (.ireturn, 1) := by decide +kernel
theorem dX10_of_0 : decode cX10_of 0 = .ok (.aload_n 0, 1) := by decide +kernel
theorem dX10_of_1 : decode cX10_of 1 = .ok (.getfield 9, 3) := by decide +kernel
theorem dX10_of_4 : decode cX10_of 4 = .ok (.sipush 160, 3) := by decide +kernel
theorem dX10_of_7 : decode cX10_of 7 = .ok (.iconst 4, 1) := by decide +kernel
theorem dX10_of_8 : decode cX10_of 8 = .ok (.iload_n 1, 1) := by decide +kernel
theorem dX10_of_9 : decode cX10_of 9 = .ok (.imul, 1) := by decide +kernel
theorem dX10_of_10 : decode cX10_of 10 = .ok (.iadd, 1) := by decide +kernel
theorem dX10_of_11 : decode cX10_of 11 = .ok (.iload_n 2, 1) := by decide +kernel
theorem dX10_of_12 : decode cX10_of 12 = .ok (.iadd, 1) := by decide +kernel
theorem dX10_of_13 : decode cX10_of 13 = .ok (.iaload, 1) := by decide +kernel
theorem dX10_of_14 : decode cX10_of 14 = .ok (.ireturn, 1) := by decide +kernel
theorem dX10_nameOf_0 : decode cX10_nameOf 0 = .ok (.aload_n 0, 1) := by decide +kernel
theorem dX10_nameOf_1 : decode cX10_nameOf 1 = .ok (.iload_n 1, 1) := by decide +kernel
theorem dX10_nameOf_2 : decode cX10_nameOf 2 = .ok (.iconst 2, 1) := by decide +kernel
theorem dX10_nameOf_3 : decode cX10_nameOf 3 = .ok (.invokevirtual 91, 3) := by decide +kernel
theorem dX10_nameOf_6 : decode cX10_nameOf 6 = .ok (.ireturn, 1) := by decide +kernel
theorem dX10_names_0 : decode cX10_names 0 = .ok (.aload_n 0, 1) := by decide +kernel
theorem dX10_names_1 : decode cX10_names 1 = .ok (.getfield 9, 3) := by decide +kernel
theorem dX10_names_4 : decode cX10_names 4 = .ok (.sipush 160, 3) := by decide +kernel
theorem dX10_names_7 : decode cX10_names 7 = .ok (.iconst 4, 1) := by decide +kernel
theorem dX10_names_8 : decode cX10_names 8 = .ok (.iload_n 1, 1) := by decide +kernel
theorem dX10_names_9 : decode cX10_names 9 = .ok (.imul, 1) := by decide +kernel
theorem dX10_names_10 : decode cX10_names 10 = .ok (.iadd, 1) := by decide +kernel
theorem dX10_names_11 : decode cX10_names 11 = .ok (.iconst 2, 1) := by decide +kernel
theorem dX10_names_12 : decode cX10_names 12 = .ok (.iadd, 1) := by decide +kernel
theorem dX10_names_13 : decode cX10_names 13 = .ok (.iload_n 2, 1) := by decide +kernel
theorem dX10_names_14 : decode cX10_names 14 = .ok (.iastore, 1) := by decide +kernel
theorem dX10_names_15 : decode cX10_names 15 = .ok (.return_, 1) := by decide +kernel
theorem dX10_comes_0 : decode cX10_comes 0 = .ok (.sipush 160, 3) := by decide +kernel
theorem dX10_comes_3 : decode cX10_comes 3 = .ok (.iconst 4, 1) := by decide +kernel
theorem dX10_comes_4 : decode cX10_comes 4 = .ok (.aload_n 0, 1) := by decide +kernel
theorem dX10_comes_5 : decode cX10_comes 5 = .ok (.getfield 9, 3) := by decide +kernel
theorem dX10_comes_8 : decode cX10_comes 8 = .ok (.iconst 1, 1) := by decide +kernel
theorem dX10_comes_9 : decode cX10_comes 9 = .ok (.iaload, 1) := by decide +kernel
theorem dX10_comes_10 : decode cX10_comes 10 = .ok (.imul, 1) := by decide +kernel
theorem dX10_comes_11 : decode cX10_comes 11 = .ok (.iadd, 1) := by decide +kernel
theorem dX10_comes_12 : decode cX10_comes 12 = .ok (.istore_n 3, 1) := by decide +kernel
theorem dX10_comes_13 : decode cX10_comes 13 = .ok (.aload_n 0, 1) := by decide +kernel
theorem dX10_comes_14 : decode cX10_comes 14 = .ok (.getfield 9, 3) := by decide +kernel
theorem dX10_comes_17 : decode cX10_comes 17 = .ok (.iload_n 3, 1) := by decide +kernel
theorem dX10_comes_18 : decode cX10_comes 18 = .ok (.iload_n 1, 1) := by decide +kernel
theorem dX10_comes_19 : decode cX10_comes 19 = .ok (.iastore, 1) := by decide +kernel
theorem dX10_comes_20 : decode cX10_comes 20 = .ok (.aload_n 0, 1) := by decide +kernel
theorem dX10_comes_21 : decode cX10_comes 21 = .ok (.getfield 9, 3) := by decide +kernel
theorem dX10_comes_24 : decode cX10_comes 24 = .ok (.iload_n 3, 1) := by decide +kernel
theorem dX10_comes_25 : decode cX10_comes 25 = .ok (.iconst 1, 1) := by decide +kernel
theorem dX10_comes_26 : decode cX10_comes 26 = .ok (.iadd, 1) := by decide +kernel
theorem dX10_comes_27 : decode cX10_comes 27 = .ok (.iload_n 2, 1) := by decide +kernel
theorem dX10_comes_28 : decode cX10_comes 28 = .ok (.iastore, 1) := by decide +kernel
theorem dX10_comes_29 : decode cX10_comes 29 = .ok (.aload_n 0, 1) := by decide +kernel
theorem dX10_comes_30 : decode cX10_comes 30 = .ok (.getfield 9, 3) := by decide +kernel
theorem dX10_comes_33 : decode cX10_comes 33 = .ok (.iload_n 3, 1) := by decide +kernel
theorem dX10_comes_34 : decode cX10_comes 34 = .ok (.iconst 2, 1) := by decide +kernel
theorem dX10_comes_35 : decode cX10_comes 35 = .ok (.iadd, 1) := by decide +kernel
theorem dX10_comes_36 : decode cX10_comes 36 = .ok (.iconst (-1), 1) := by decide +kernel
theorem dX10_comes_37 : decode cX10_comes 37 = .ok (.iastore, 1) := by decide +kernel
theorem dX10_comes_38 : decode cX10_comes 38 = .ok (.aload_n 0, 1) := by decide +kernel
theorem dX10_comes_39 : decode cX10_comes 39 = .ok (.getfield 9, 3) := by decide +kernel
theorem dX10_comes_42 : decode cX10_comes 42 = .ok (.iload_n 3, 1) := by decide +kernel
theorem dX10_comes_43 : decode cX10_comes 43 = .ok (.iconst 3, 1) := by decide +kernel
theorem dX10_comes_44 : decode cX10_comes 44 = .ok (.iadd, 1) := by decide +kernel
theorem dX10_comes_45 : decode cX10_comes 45 = .ok (.iconst 0, 1) := by decide +kernel
theorem dX10_comes_46 : decode cX10_comes 46 = .ok (.iastore, 1) := by decide +kernel
theorem dX10_comes_47 : decode cX10_comes 47 = .ok (.aload_n 0, 1) := by decide +kernel
theorem dX10_comes_48 : decode cX10_comes 48 = .ok (.getfield 9, 3) := by decide +kernel
theorem dX10_comes_51 : decode cX10_comes 51 = .ok (.iconst 1, 1) := by decide +kernel
theorem dX10_comes_52 : decode cX10_comes 52 = .ok (.dup2, 1) := by decide +kernel
theorem dX10_comes_53 : decode cX10_comes 53 = .ok (.iaload, 1) := by decide +kernel
theorem dX10_comes_54 : decode cX10_comes 54 = .ok (.iconst 1, 1) := by decide +kernel
theorem dX10_comes_55 : decode cX10_comes 55 = .ok (.iadd, 1) := by decide +kernel
theorem dX10_comes_56 : decode cX10_comes 56 = .ok (.iastore, 1) := by decide +kernel
theorem dX10_comes_57 : decode cX10_comes 57 = .ok (.return_, 1) := by decide +kernel
theorem dX10_person_0 : decode cX10_person 0 = .ok (.iload_n 1, 1) := by decide +kernel
theorem dX10_person_1 : decode cX10_person 1 = .ok (.invokestatic 94, 3) := by decide +kernel
theorem dX10_person_4 : decode cX10_person 4 = .ok (.ifCond .eq 23, 3) := by decide +kernel
theorem dX10_person_7 : decode cX10_person 7 = .ok (.iload_n 2, 1) := by decide +kernel
theorem dX10_person_8 : decode cX10_person 8 = .ok (.i2l, 1) := by decide +kernel
theorem dX10_person_9 : decode cX10_person 9 = .ok (.ldc2_w 97, 3) := by decide +kernel
theorem dX10_person_12 : decode cX10_person 12 = .ok (.aload_n 0, 1) := by decide +kernel
theorem dX10_person_13 : decode cX10_person 13 = .ok (.getfield 9, 3) := by decide +kernel
theorem dX10_person_16 : decode cX10_person 16 = .ok (.iconst 1, 1) := by decide +kernel
theorem dX10_person_17 : decode cX10_person 17 = .ok (.iaload, 1) := by decide +kernel
theorem dX10_person_18 : decode cX10_person 18 = .ok (.iconst 1, 1) := by decide +kernel
theorem dX10_person_19 : decode cX10_person 19 = .ok (.isub, 1) := by decide +kernel
theorem dX10_person_20 : decode cX10_person 20 = .ok (.i2l, 1) := by decide +kernel
theorem dX10_person_21 : decode cX10_person 21 = .ok (.invokestatic 48, 3) := by decide +kernel
theorem dX10_person_24 : decode cX10_person 24 = .ok (.ifCond .ne 10, 3) := by decide +kernel
theorem dX10_person_27 : decode cX10_person 27 = .ok (.aload_n 0, 1) := by decide +kernel
theorem dX10_person_28 : decode cX10_person 28 = .ok (.ldc 62, 2) := by decide +kernel
theorem dX10_person_30 : decode cX10_person 30 = .ok (.invokevirtual 63, 3) := by decide +kernel
theorem dX10_person_33 : decode cX10_person 33 = .ok (.ireturn, 1) := by decide +kernel
theorem dX10_person_34 : decode cX10_person 34 = .ok (.aload_n 0, 1) := by decide +kernel
theorem dX10_person_35 : decode cX10_person 35 = .ok (.getfield 9, 3) := by decide +kernel
theorem dX10_person_38 : decode cX10_person 38 = .ok (.iconst 1, 1) := by decide +kernel
theorem dX10_person_39 : decode cX10_person 39 = .ok (.iaload, 1) := by decide +kernel
theorem dX10_person_40 : decode cX10_person 40 = .ok (.bipush 10, 2) := by decide +kernel
theorem dX10_person_42 : decode cX10_person 42 = .ok (.if_icmp .ne 10, 3) := by decide +kernel
theorem dX10_person_45 : decode cX10_person 45 = .ok (.aload_n 0, 1) := by decide +kernel
theorem dX10_person_46 : decode cX10_person 46 = .ok (.ldc 66, 2) := by decide +kernel
theorem dX10_person_48 : decode cX10_person 48 = .ok (.invokevirtual 63, 3) := by decide +kernel
theorem dX10_person_51 : decode cX10_person 51 = .ok (.ireturn, 1) := by decide +kernel
theorem dX10_person_52 : decode cX10_person 52 = .ok (.aload_n 0, 1) := by decide +kernel
theorem dX10_person_53 : decode cX10_person 53 = .ok (.iload_n 1, 1) := by decide +kernel
theorem dX10_person_54 : decode cX10_person 54 = .ok (.iload_n 2, 1) := by decide +kernel
theorem dX10_person_55 : decode cX10_person 55 = .ok (.invokevirtual 99, 3) := by decide +kernel
theorem dX10_person_58 : decode cX10_person 58 = .ok (.aload_n 0, 1) := by decide +kernel
theorem dX10_person_59 : decode cX10_person 59 = .ok (.getfield 9, 3) := by decide +kernel
theorem dX10_person_62 : decode cX10_person 62 = .ok (.iconst 1, 1) := by decide +kernel
theorem dX10_person_63 : decode cX10_person 63 = .ok (.iaload, 1) := by decide +kernel
theorem dX10_person_64 : decode cX10_person 64 = .ok (.iconst 1, 1) := by decide +kernel
theorem dX10_person_65 : decode cX10_person 65 = .ok (.isub, 1) := by decide +kernel
theorem dX10_person_66 : decode cX10_person 66 = .ok (.ireturn, 1) := by decide +kernel
theorem dX10_against_0 : decode cX10_against 0 = .ok (.iconst 0, 1) := by decide +kernel
theorem dX10_against_1 : decode cX10_against 1 = .ok (.istore_n 3, 1) := by decide +kernel
theorem dX10_against_2 : decode cX10_against 2 = .ok (.iconst 0, 1) := by decide +kernel
theorem dX10_against_3 : decode cX10_against 3 = .ok (.istore 4, 2) := by decide +kernel
theorem dX10_against_5 : decode cX10_against 5 = .ok (.iload 4, 2) := by decide +kernel
theorem dX10_against_7 : decode cX10_against 7 = .ok (.aload_n 0, 1) := by decide +kernel
theorem dX10_against_8 : decode cX10_against 8 = .ok (.getfield 9, 3) := by decide +kernel
theorem dX10_against_11 : decode cX10_against 11 = .ok (.iconst 1, 1) := by decide +kernel
theorem dX10_against_12 : decode cX10_against 12 = .ok (.iaload, 1) := by decide +kernel
theorem dX10_against_13 : decode cX10_against 13 = .ok (.if_icmp .ge 48, 3) := by decide +kernel
theorem dX10_against_16 : decode cX10_against 16 = .ok (.iload_n 3, 1) := by decide +kernel
theorem dX10_against_17 : decode cX10_against 17 = .ok (.aload_n 0, 1) := by decide +kernel
theorem dX10_against_18 : decode cX10_against 18 = .ok (.iload_n 1, 1) := by decide +kernel
theorem dX10_against_19 : decode cX10_against 19 = .ok (.iconst 3, 1) := by decide +kernel
theorem dX10_against_20 : decode cX10_against 20 = .ok (.invokevirtual 91, 3) := by decide +kernel
theorem dX10_against_23 : decode cX10_against 23 = .ok (.iload 4, 2) := by decide +kernel
theorem dX10_against_25 : decode cX10_against 25 = .ok (.invokestatic 103, 3) := by decide +kernel
theorem dX10_against_28 : decode cX10_against 28 = .ok (.ifCond .eq 24, 3) := by decide +kernel
theorem dX10_against_31 : decode cX10_against 31 = .ok (.aload_n 0, 1) := by decide +kernel
theorem dX10_against_32 : decode cX10_against 32 = .ok (.iload_n 2, 1) := by decide +kernel
theorem dX10_against_33 : decode cX10_against 33 = .ok (.aload_n 0, 1) := by decide +kernel
theorem dX10_against_34 : decode cX10_against 34 = .ok (.iload 4, 2) := by decide +kernel
theorem dX10_against_36 : decode cX10_against 36 = .ok (.invokevirtual 107, 3) := by decide +kernel
theorem dX10_against_39 : decode cX10_against 39 = .ok (.invokevirtual 110, 3) := by decide +kernel
theorem dX10_against_42 : decode cX10_against 42 = .ok (.ifCond .eq 10, 3) := by decide +kernel
theorem dX10_against_45 : decode cX10_against 45 = .ok (.iconst 1, 1) := by decide +kernel
theorem dX10_against_46 : decode cX10_against 46 = .ok (.iload 4, 2) := by decide +kernel
theorem dX10_against_48 : decode cX10_against 48 = .ok (.ishl, 1) := by decide +kernel
theorem dX10_against_49 : decode cX10_against 49 = .ok (.goto 4, 3) := by decide +kernel
theorem dX10_against_52 : decode cX10_against 52 = .ok (.iconst 0, 1) := by decide +kernel
theorem dX10_against_53 : decode cX10_against 53 = .ok (.ior, 1) := by decide +kernel
theorem dX10_against_54 : decode cX10_against 54 = .ok (.istore_n 3, 1) := by decide +kernel
theorem dX10_against_55 : decode cX10_against 55 = .ok (.iinc 4 1, 3) := by decide +kernel
theorem dX10_against_58 : decode cX10_against 58 = .ok (.goto (-53), 3) := by decide +kernel
theorem dX10_against_61 : decode cX10_against 61 = .ok (.iload_n 3, 1) := by decide +kernel
theorem dX10_against_62 : decode cX10_against 62 = .ok (.ireturn, 1) := by decide +kernel
theorem dX10_ofPerson_0 : decode cX10_ofPerson 0 = .ok (.aload_n 0, 1) := by decide +kernel
theorem dX10_ofPerson_1 : decode cX10_ofPerson 1 = .ok (.iload_n 1, 1) := by decide +kernel
theorem dX10_ofPerson_2 : decode cX10_ofPerson 2 = .ok (.invokevirtual 113, 3) := by decide +kernel
theorem dX10_ofPerson_5 : decode cX10_ofPerson 5 = .ok (.ifCond .eq 15, 3) := by decide +kernel
theorem dX10_ofPerson_8 : decode cX10_ofPerson 8 = .ok (.iload_n 2, 1) := by decide +kernel
theorem dX10_ofPerson_9 : decode cX10_ofPerson 9 = .ok (.i2l, 1) := by decide +kernel
theorem dX10_ofPerson_10 : decode cX10_ofPerson 10 = .ok (.lconst 0, 1) := by decide +kernel
theorem dX10_ofPerson_11 : decode cX10_ofPerson 11 = .ok (.ldc2_w 116, 3) := by decide +kernel
theorem dX10_ofPerson_14 : decode cX10_ofPerson 14 = .ok (.invokestatic 48, 3) := by decide +kernel
theorem dX10_ofPerson_17 : decode cX10_ofPerson 17 = .ok (.ifCond .ne 10, 3) := by decide +kernel
theorem dX10_ofPerson_20 : decode cX10_ofPerson 20 = .ok (.aload_n 0, 1) := by decide +kernel
theorem dX10_ofPerson_21 : decode cX10_ofPerson 21 = .ok (.ldc 62, 2) := by decide +kernel
theorem dX10_ofPerson_23 : decode cX10_ofPerson 23 = .ok (.invokevirtual 63, 3) := by decide +kernel
theorem dX10_ofPerson_26 : decode cX10_ofPerson 26 = .ok (.ireturn, 1) := by decide +kernel
theorem dX10_ofPerson_27 : decode cX10_ofPerson 27 = .ok (.iload_n 2, 1) := by decide +kernel
theorem dX10_ofPerson_28 : decode cX10_ofPerson 28 = .ok (.iconst 4, 1) := by decide +kernel
theorem dX10_ofPerson_29 : decode cX10_ofPerson 29 = .ok (.if_icmp .ge 12, 3) := by decide +kernel
theorem dX10_ofPerson_32 : decode cX10_ofPerson 32 = .ok (.aload_n 0, 1) := by decide +kernel
theorem dX10_ofPerson_33 : decode cX10_ofPerson 33 = .ok (.iload_n 1, 1) := by decide +kernel
theorem dX10_ofPerson_34 : decode cX10_ofPerson 34 = .ok (.iload_n 2, 1) := by decide +kernel
theorem dX10_ofPerson_35 : decode cX10_ofPerson 35 = .ok (.invokevirtual 91, 3) := by decide +kernel
theorem dX10_ofPerson_38 : decode cX10_ofPerson 38 = .ok (.goto 13, 3) := by decide +kernel
theorem dX10_ofPerson_41 : decode cX10_ofPerson 41 = .ok (.aload_n 0, 1) := by decide +kernel
theorem dX10_ofPerson_42 : decode cX10_ofPerson 42 = .ok (.iload_n 1, 1) := by decide +kernel
theorem dX10_ofPerson_43 : decode cX10_ofPerson 43 = .ok (.aload_n 0, 1) := by decide +kernel
theorem dX10_ofPerson_44 : decode cX10_ofPerson 44 = .ok (.iload_n 1, 1) := by decide +kernel
theorem dX10_ofPerson_45 : decode cX10_ofPerson 45 = .ok (.invokevirtual 107, 3) := by decide +kernel
theorem dX10_ofPerson_48 : decode cX10_ofPerson 48 = .ok (.invokevirtual 118, 3) := by decide +kernel
theorem dX10_ofPerson_51 : decode cX10_ofPerson 51 = .ok (.ireturn, 1) := by decide +kernel
theorem dX10_above_0 : decode cX10_above 0 = .ok (.iload_n 0, 1) := by decide +kernel
theorem dX10_above_1 : decode cX10_above 1 = .ok (.tableswitch 51 0 6 #[43, 51, 51, 51, 45, 47, 49], 43) := by decide +kernel
theorem dX10_above_44 : decode cX10_above 44 = .ok (.iconst (-1), 1) := by decide +kernel
theorem dX10_above_45 : decode cX10_above 45 = .ok (.ireturn, 1) := by decide +kernel
theorem dX10_above_46 : decode cX10_above 46 = .ok (.iconst 2, 1) := by decide +kernel
theorem dX10_above_47 : decode cX10_above 47 = .ok (.ireturn, 1) := by decide +kernel
theorem dX10_above_48 : decode cX10_above 48 = .ok (.iconst 1, 1) := by decide +kernel
theorem dX10_above_49 : decode cX10_above 49 = .ok (.ireturn, 1) := by decide +kernel
theorem dX10_above_50 : decode cX10_above 50 = .ok (.iconst 3, 1) := by decide +kernel
theorem dX10_above_51 : decode cX10_above 51 = .ok (.ireturn, 1) := by decide +kernel
theorem dX10_above_52 : decode cX10_above 52 = .ok (.iconst 0, 1) := by decide +kernel
theorem dX10_above_53 : decode cX10_above 53 = .ok (.ireturn, 1) := by decide +kernel
theorem dX10_isUnder_0 : decode cX10_isUnder 0 = .ok (.iload_n 0, 1) := by decide +kernel
theorem dX10_isUnder_1 : decode cX10_isUnder 1 = .ok (.istore_n 2, 1) := by decide +kernel
theorem dX10_isUnder_2 : decode cX10_isUnder 2 = .ok (.iload_n 2, 1) := by decide +kernel
theorem dX10_isUnder_3 : decode cX10_isUnder 3 = .ok (.ifCond .lt 18, 3) := by decide +kernel
theorem dX10_isUnder_6 : decode cX10_isUnder 6 = .ok (.iload_n 2, 1) := by decide +kernel
theorem dX10_isUnder_7 : decode cX10_isUnder 7 = .ok (.iload_n 1, 1) := by decide +kernel
theorem dX10_isUnder_8 : decode cX10_isUnder 8 = .ok (.if_icmp .ne 5, 3) := by decide +kernel
theorem dX10_isUnder_11 : decode cX10_isUnder 11 = .ok (.iconst 1, 1) := by decide +kernel
theorem dX10_isUnder_12 : decode cX10_isUnder 12 = .ok (.ireturn, 1) := by decide +kernel
theorem dX10_isUnder_13 : decode cX10_isUnder 13 = .ok (.iload_n 2, 1) := by decide +kernel
theorem dX10_isUnder_14 : decode cX10_isUnder 14 = .ok (.invokestatic 121, 3) := by decide +kernel
theorem dX10_isUnder_17 : decode cX10_isUnder 17 = .ok (.istore_n 2, 1) := by decide +kernel
theorem dX10_isUnder_18 : decode cX10_isUnder 18 = .ok (.goto (-16), 3) := by decide +kernel
theorem dX10_isUnder_21 : decode cX10_isUnder 21 = .ok (.iconst 0, 1) := by decide +kernel
theorem dX10_isUnder_22 : decode cX10_isUnder 22 = .ok (.ireturn, 1) := by decide +kernel
theorem dX10_as_0 : decode cX10_as 0 = .ok (.aload_n 0, 1) := by decide +kernel
theorem dX10_as_1 : decode cX10_as 1 = .ok (.iload_n 1, 1) := by decide +kernel
theorem dX10_as_2 : decode cX10_as 2 = .ok (.invokevirtual 113, 3) := by decide +kernel
theorem dX10_as_5 : decode cX10_as 5 = .ok (.ifCond .eq 10, 3) := by decide +kernel
theorem dX10_as_8 : decode cX10_as 8 = .ok (.iload_n 2, 1) := by decide +kernel
theorem dX10_as_9 : decode cX10_as 9 = .ok (.invokestatic 94, 3) := by decide +kernel
theorem dX10_as_12 : decode cX10_as 12 = .ok (.ifCond .ne 10, 3) := by decide +kernel
theorem dX10_as_15 : decode cX10_as 15 = .ok (.aload_n 0, 1) := by decide +kernel
theorem dX10_as_16 : decode cX10_as 16 = .ok (.ldc 62, 2) := by decide +kernel
theorem dX10_as_18 : decode cX10_as 18 = .ok (.invokevirtual 63, 3) := by decide +kernel
theorem dX10_as_21 : decode cX10_as 21 = .ok (.ireturn, 1) := by decide +kernel
theorem dX10_as_22 : decode cX10_as 22 = .ok (.aload_n 0, 1) := by decide +kernel
theorem dX10_as_23 : decode cX10_as 23 = .ok (.iload_n 1, 1) := by decide +kernel
theorem dX10_as_24 : decode cX10_as 24 = .ok (.iconst 0, 1) := by decide +kernel
theorem dX10_as_25 : decode cX10_as 25 = .ok (.invokevirtual 91, 3) := by decide +kernel
theorem dX10_as_28 : decode cX10_as 28 = .ok (.iload_n 2, 1) := by decide +kernel
theorem dX10_as_29 : decode cX10_as 29 = .ok (.invokestatic 124, 3) := by decide +kernel
theorem dX10_as_32 : decode cX10_as 32 = .ok (.ifCond .eq 11, 3) := by decide +kernel
theorem dX10_as_35 : decode cX10_as 35 = .ok (.aload_n 0, 1) := by decide +kernel
theorem dX10_as_36 : decode cX10_as 36 = .ok (.iload_n 1, 1) := by decide +kernel
theorem dX10_as_37 : decode cX10_as 37 = .ok (.invokevirtual 107, 3) := by decide +kernel
theorem dX10_as_40 : decode cX10_as 40 = .ok (.goto 9, 3) := by decide +kernel
theorem dX10_as_43 : decode cX10_as 43 = .ok (.aload_n 0, 1) := by decide +kernel
theorem dX10_as_44 : decode cX10_as 44 = .ok (.ldc 127, 2) := by decide +kernel
theorem dX10_as_46 : decode cX10_as 46 = .ok (.invokevirtual 63, 3) := by decide +kernel
theorem dX10_as_49 : decode cX10_as 49 = .ok (.ireturn, 1) := by decide +kernel
theorem dX10_call_0 : decode cX10_call 0 = .ok (.aload_n 0, 1) := by decide +kernel
theorem dX10_call_1 : decode cX10_call 1 = .ok (.iload_n 1, 1) := by decide +kernel
theorem dX10_call_2 : decode cX10_call 2 = .ok (.invokevirtual 113, 3) := by decide +kernel
theorem dX10_call_5 : decode cX10_call 5 = .ok (.ifCond .eq 33, 3) := by decide +kernel
theorem dX10_call_8 : decode cX10_call 8 = .ok (.iload_n 2, 1) := by decide +kernel
theorem dX10_call_9 : decode cX10_call 9 = .ok (.iconst (-1), 1) := by decide +kernel
theorem dX10_call_10 : decode cX10_call 10 = .ok (.if_icmp .eq 11, 3) := by decide +kernel
theorem dX10_call_13 : decode cX10_call 13 = .ok (.aload_n 0, 1) := by decide +kernel
theorem dX10_call_14 : decode cX10_call 14 = .ok (.iload_n 2, 1) := by decide +kernel
theorem dX10_call_15 : decode cX10_call 15 = .ok (.invokevirtual 78, 3) := by decide +kernel
theorem dX10_call_18 : decode cX10_call 18 = .ok (.ifCond .eq 20, 3) := by decide +kernel
theorem dX10_call_21 : decode cX10_call 21 = .ok (.aload_n 0, 1) := by decide +kernel
theorem dX10_call_22 : decode cX10_call 22 = .ok (.sipush 160, 3) := by decide +kernel
theorem dX10_call_25 : decode cX10_call 25 = .ok (.iconst 4, 1) := by decide +kernel
theorem dX10_call_26 : decode cX10_call 26 = .ok (.iload_n 1, 1) := by decide +kernel
theorem dX10_call_27 : decode cX10_call 27 = .ok (.imul, 1) := by decide +kernel
theorem dX10_call_28 : decode cX10_call 28 = .ok (.iadd, 1) := by decide +kernel
theorem dX10_call_29 : decode cX10_call 29 = .ok (.iconst 2, 1) := by decide +kernel
theorem dX10_call_30 : decode cX10_call 30 = .ok (.iadd, 1) := by decide +kernel
theorem dX10_call_31 : decode cX10_call 31 = .ok (.iload_n 2, 1) := by decide +kernel
theorem dX10_call_32 : decode cX10_call 32 = .ok (.invokevirtual 84, 3) := by decide +kernel
theorem dX10_call_35 : decode cX10_call 35 = .ok (.goto 9, 3) := by decide +kernel
theorem dX10_call_38 : decode cX10_call 38 = .ok (.aload_n 0, 1) := by decide +kernel
theorem dX10_call_39 : decode cX10_call 39 = .ok (.ldc 62, 2) := by decide +kernel
theorem dX10_call_41 : decode cX10_call 41 = .ok (.invokevirtual 63, 3) := by decide +kernel
theorem dX10_call_44 : decode cX10_call 44 = .ok (.ireturn, 1) := by decide +kernel
theorem dX10_nearEach_0 : decode cX10_nearEach 0 = .ok (.sipush 160, 3) := by decide +kernel
theorem dX10_nearEach_3 : decode cX10_nearEach 3 = .ok (.iconst 4, 1) := by decide +kernel
theorem dX10_nearEach_4 : decode cX10_nearEach 4 = .ok (.iload_n 1, 1) := by decide +kernel
theorem dX10_nearEach_5 : decode cX10_nearEach 5 = .ok (.imul, 1) := by decide +kernel
theorem dX10_nearEach_6 : decode cX10_nearEach 6 = .ok (.iadd, 1) := by decide +kernel
theorem dX10_nearEach_7 : decode cX10_nearEach 7 = .ok (.iconst 3, 1) := by decide +kernel
theorem dX10_nearEach_8 : decode cX10_nearEach 8 = .ok (.iadd, 1) := by decide +kernel
theorem dX10_nearEach_9 : decode cX10_nearEach 9 = .ok (.istore 4, 2) := by decide +kernel
theorem dX10_nearEach_11 : decode cX10_nearEach 11 = .ok (.sipush 160, 3) := by decide +kernel
theorem dX10_nearEach_14 : decode cX10_nearEach 14 = .ok (.iconst 4, 1) := by decide +kernel
theorem dX10_nearEach_15 : decode cX10_nearEach 15 = .ok (.iload_n 2, 1) := by decide +kernel
theorem dX10_nearEach_16 : decode cX10_nearEach 16 = .ok (.imul, 1) := by decide +kernel
theorem dX10_nearEach_17 : decode cX10_nearEach 17 = .ok (.iadd, 1) := by decide +kernel
theorem dX10_nearEach_18 : decode cX10_nearEach 18 = .ok (.iconst 3, 1) := by decide +kernel
theorem dX10_nearEach_19 : decode cX10_nearEach 19 = .ok (.iadd, 1) := by decide +kernel
theorem dX10_nearEach_20 : decode cX10_nearEach 20 = .ok (.istore 5, 2) := by decide +kernel
theorem dX10_nearEach_22 : decode cX10_nearEach 22 = .ok (.aload_n 0, 1) := by decide +kernel
theorem dX10_nearEach_23 : decode cX10_nearEach 23 = .ok (.getfield 9, 3) := by decide +kernel
theorem dX10_nearEach_26 : decode cX10_nearEach 26 = .ok (.iload 4, 2) := by decide +kernel
theorem dX10_nearEach_28 : decode cX10_nearEach 28 = .ok (.iload_n 3, 1) := by decide +kernel
theorem dX10_nearEach_29 : decode cX10_nearEach 29 = .ok (.ifCond .eq 17, 3) := by decide +kernel
theorem dX10_nearEach_32 : decode cX10_nearEach 32 = .ok (.aload_n 0, 1) := by decide +kernel
theorem dX10_nearEach_33 : decode cX10_nearEach 33 = .ok (.getfield 9, 3) := by decide +kernel
theorem dX10_nearEach_36 : decode cX10_nearEach 36 = .ok (.iload 4, 2) := by decide +kernel
theorem dX10_nearEach_38 : decode cX10_nearEach 38 = .ok (.iaload, 1) := by decide +kernel
theorem dX10_nearEach_39 : decode cX10_nearEach 39 = .ok (.iconst 1, 1) := by decide +kernel
theorem dX10_nearEach_40 : decode cX10_nearEach 40 = .ok (.iload_n 2, 1) := by decide +kernel
theorem dX10_nearEach_41 : decode cX10_nearEach 41 = .ok (.ishl, 1) := by decide +kernel
theorem dX10_nearEach_42 : decode cX10_nearEach 42 = .ok (.ior, 1) := by decide +kernel
theorem dX10_nearEach_43 : decode cX10_nearEach 43 = .ok (.goto 16, 3) := by decide +kernel
theorem dX10_nearEach_46 : decode cX10_nearEach 46 = .ok (.aload_n 0, 1) := by decide +kernel
theorem dX10_nearEach_47 : decode cX10_nearEach 47 = .ok (.getfield 9, 3) := by decide +kernel
theorem dX10_nearEach_50 : decode cX10_nearEach 50 = .ok (.iload 4, 2) := by decide +kernel
theorem dX10_nearEach_52 : decode cX10_nearEach 52 = .ok (.iaload, 1) := by decide +kernel
theorem dX10_nearEach_53 : decode cX10_nearEach 53 = .ok (.iconst 1, 1) := by decide +kernel
theorem dX10_nearEach_54 : decode cX10_nearEach 54 = .ok (.iload_n 2, 1) := by decide +kernel
theorem dX10_nearEach_55 : decode cX10_nearEach 55 = .ok (.ishl, 1) := by decide +kernel
theorem dX10_nearEach_56 : decode cX10_nearEach 56 = .ok (.iconst (-1), 1) := by decide +kernel
theorem dX10_nearEach_57 : decode cX10_nearEach 57 = .ok (.ixor, 1) := by decide +kernel
theorem dX10_nearEach_58 : decode cX10_nearEach 58 = .ok (.iand, 1) := by decide +kernel
theorem dX10_nearEach_59 : decode cX10_nearEach 59 = .ok (.iastore, 1) := by decide +kernel
theorem dX10_nearEach_60 : decode cX10_nearEach 60 = .ok (.aload_n 0, 1) := by decide +kernel
theorem dX10_nearEach_61 : decode cX10_nearEach 61 = .ok (.getfield 9, 3) := by decide +kernel
theorem dX10_nearEach_64 : decode cX10_nearEach 64 = .ok (.iload 5, 2) := by decide +kernel
theorem dX10_nearEach_66 : decode cX10_nearEach 66 = .ok (.iload_n 3, 1) := by decide +kernel
theorem dX10_nearEach_67 : decode cX10_nearEach 67 = .ok (.ifCond .eq 17, 3) := by decide +kernel
theorem dX10_nearEach_70 : decode cX10_nearEach 70 = .ok (.aload_n 0, 1) := by decide +kernel
theorem dX10_nearEach_71 : decode cX10_nearEach 71 = .ok (.getfield 9, 3) := by decide +kernel
theorem dX10_nearEach_74 : decode cX10_nearEach 74 = .ok (.iload 5, 2) := by decide +kernel
theorem dX10_nearEach_76 : decode cX10_nearEach 76 = .ok (.iaload, 1) := by decide +kernel
theorem dX10_nearEach_77 : decode cX10_nearEach 77 = .ok (.iconst 1, 1) := by decide +kernel
theorem dX10_nearEach_78 : decode cX10_nearEach 78 = .ok (.iload_n 1, 1) := by decide +kernel
theorem dX10_nearEach_79 : decode cX10_nearEach 79 = .ok (.ishl, 1) := by decide +kernel
theorem dX10_nearEach_80 : decode cX10_nearEach 80 = .ok (.ior, 1) := by decide +kernel
theorem dX10_nearEach_81 : decode cX10_nearEach 81 = .ok (.goto 16, 3) := by decide +kernel
theorem dX10_nearEach_84 : decode cX10_nearEach 84 = .ok (.aload_n 0, 1) := by decide +kernel
theorem dX10_nearEach_85 : decode cX10_nearEach 85 = .ok (.getfield 9, 3) := by decide +kernel
theorem dX10_nearEach_88 : decode cX10_nearEach 88 = .ok (.iload 5, 2) := by decide +kernel
theorem dX10_nearEach_90 : decode cX10_nearEach 90 = .ok (.iaload, 1) := by decide +kernel
theorem dX10_nearEach_91 : decode cX10_nearEach 91 = .ok (.iconst 1, 1) := by decide +kernel
theorem dX10_nearEach_92 : decode cX10_nearEach 92 = .ok (.iload_n 1, 1) := by decide +kernel
theorem dX10_nearEach_93 : decode cX10_nearEach 93 = .ok (.ishl, 1) := by decide +kernel
theorem dX10_nearEach_94 : decode cX10_nearEach 94 = .ok (.iconst (-1), 1) := by decide +kernel
theorem dX10_nearEach_95 : decode cX10_nearEach 95 = .ok (.ixor, 1) := by decide +kernel
theorem dX10_nearEach_96 : decode cX10_nearEach 96 = .ok (.iand, 1) := by decide +kernel
theorem dX10_nearEach_97 : decode cX10_nearEach 97 = .ok (.iastore, 1) := by decide +kernel
theorem dX10_nearEach_98 : decode cX10_nearEach 98 = .ok (.return_, 1) := by decide +kernel
theorem dX10_areTwo_0 : decode cX10_areTwo 0 = .ok (.aload_n 0, 1) := by decide +kernel
theorem dX10_areTwo_1 : decode cX10_areTwo 1 = .ok (.iload_n 1, 1) := by decide +kernel
theorem dX10_areTwo_2 : decode cX10_areTwo 2 = .ok (.invokevirtual 113, 3) := by decide +kernel
theorem dX10_areTwo_5 : decode cX10_areTwo 5 = .ok (.ifCond .eq 20, 3) := by decide +kernel
theorem dX10_areTwo_8 : decode cX10_areTwo 8 = .ok (.aload_n 0, 1) := by decide +kernel
theorem dX10_areTwo_9 : decode cX10_areTwo 9 = .ok (.iload_n 2, 1) := by decide +kernel
theorem dX10_areTwo_10 : decode cX10_areTwo 10 = .ok (.invokevirtual 113, 3) := by decide +kernel
theorem dX10_areTwo_13 : decode cX10_areTwo 13 = .ok (.ifCond .eq 12, 3) := by decide +kernel
theorem dX10_areTwo_16 : decode cX10_areTwo 16 = .ok (.iload_n 1, 1) := by decide +kernel
theorem dX10_areTwo_17 : decode cX10_areTwo 17 = .ok (.iload_n 2, 1) := by decide +kernel
theorem dX10_areTwo_18 : decode cX10_areTwo 18 = .ok (.if_icmp .eq 7, 3) := by decide +kernel
theorem dX10_areTwo_21 : decode cX10_areTwo 21 = .ok (.iconst 1, 1) := by decide +kernel
theorem dX10_areTwo_22 : decode cX10_areTwo 22 = .ok (.goto 4, 3) := by decide +kernel
theorem dX10_areTwo_25 : decode cX10_areTwo 25 = .ok (.iconst 0, 1) := by decide +kernel
theorem dX10_areTwo_26 : decode cX10_areTwo 26 = .ok (.ireturn, 1) := by decide +kernel
theorem dX10_near_0 : decode cX10_near 0 = .ok (.aload_n 0, 1) := by decide +kernel
theorem dX10_near_1 : decode cX10_near 1 = .ok (.iload_n 1, 1) := by decide +kernel
theorem dX10_near_2 : decode cX10_near 2 = .ok (.iload_n 2, 1) := by decide +kernel
theorem dX10_near_3 : decode cX10_near 3 = .ok (.invokevirtual 128, 3) := by decide +kernel
theorem dX10_near_6 : decode cX10_near 6 = .ok (.ifCond .eq 13, 3) := by decide +kernel
theorem dX10_near_9 : decode cX10_near 9 = .ok (.iload_n 3, 1) := by decide +kernel
theorem dX10_near_10 : decode cX10_near 10 = .ok (.i2l, 1) := by decide +kernel
theorem dX10_near_11 : decode cX10_near 11 = .ok (.lconst 0, 1) := by decide +kernel
theorem dX10_near_12 : decode cX10_near 12 = .ok (.lconst 1, 1) := by decide +kernel
theorem dX10_near_13 : decode cX10_near 13 = .ok (.invokestatic 48, 3) := by decide +kernel
theorem dX10_near_16 : decode cX10_near 16 = .ok (.ifCond .ne 10, 3) := by decide +kernel
theorem dX10_near_19 : decode cX10_near 19 = .ok (.aload_n 0, 1) := by decide +kernel
theorem dX10_near_20 : decode cX10_near 20 = .ok (.ldc 62, 2) := by decide +kernel
theorem dX10_near_22 : decode cX10_near 22 = .ok (.invokevirtual 63, 3) := by decide +kernel
theorem dX10_near_25 : decode cX10_near 25 = .ok (.ireturn, 1) := by decide +kernel
theorem dX10_near_26 : decode cX10_near 26 = .ok (.aload_n 0, 1) := by decide +kernel
theorem dX10_near_27 : decode cX10_near 27 = .ok (.iload_n 1, 1) := by decide +kernel
theorem dX10_near_28 : decode cX10_near 28 = .ok (.iconst 3, 1) := by decide +kernel
theorem dX10_near_29 : decode cX10_near 29 = .ok (.invokevirtual 91, 3) := by decide +kernel
theorem dX10_near_32 : decode cX10_near 32 = .ok (.iload_n 2, 1) := by decide +kernel
theorem dX10_near_33 : decode cX10_near 33 = .ok (.ishr, 1) := by decide +kernel
theorem dX10_near_34 : decode cX10_near 34 = .ok (.iconst 1, 1) := by decide +kernel
theorem dX10_near_35 : decode cX10_near 35 = .ok (.iand, 1) := by decide +kernel
theorem dX10_near_36 : decode cX10_near 36 = .ok (.istore 4, 2) := by decide +kernel
theorem dX10_near_38 : decode cX10_near 38 = .ok (.aload_n 0, 1) := by decide +kernel
theorem dX10_near_39 : decode cX10_near 39 = .ok (.iload_n 1, 1) := by decide +kernel
theorem dX10_near_40 : decode cX10_near 40 = .ok (.iload_n 2, 1) := by decide +kernel
theorem dX10_near_41 : decode cX10_near 41 = .ok (.iload_n 3, 1) := by decide +kernel
theorem dX10_near_42 : decode cX10_near 42 = .ok (.iconst 1, 1) := by decide +kernel
theorem dX10_near_43 : decode cX10_near 43 = .ok (.if_icmp .ne 7, 3) := by decide +kernel
theorem dX10_near_46 : decode cX10_near 46 = .ok (.iconst 1, 1) := by decide +kernel
theorem dX10_near_47 : decode cX10_near 47 = .ok (.goto 4, 3) := by decide +kernel
theorem dX10_near_50 : decode cX10_near 50 = .ok (.iconst 0, 1) := by decide +kernel
theorem dX10_near_51 : decode cX10_near 51 = .ok (.invokevirtual 131, 3) := by decide +kernel
theorem dX10_near_54 : decode cX10_near 54 = .ok (.iload 4, 2) := by decide +kernel
theorem dX10_near_56 : decode cX10_near 56 = .ok (.ireturn, 1) := by decide +kernel
theorem dX10_nears_0 : decode cX10_nears 0 = .ok (.iload_n 1, 1) := by decide +kernel
theorem dX10_nears_1 : decode cX10_nears 1 = .ok (.invokestatic 135, 3) := by decide +kernel
theorem dX10_nears_4 : decode cX10_nears 4 = .ok (.ifCond .ne 10, 3) := by decide +kernel
theorem dX10_nears_7 : decode cX10_nears 7 = .ok (.aload_n 0, 1) := by decide +kernel
theorem dX10_nears_8 : decode cX10_nears 8 = .ok (.ldc 62, 2) := by decide +kernel
theorem dX10_nears_10 : decode cX10_nears 10 = .ok (.invokevirtual 63, 3) := by decide +kernel
theorem dX10_nears_13 : decode cX10_nears 13 = .ok (.ireturn, 1) := by decide +kernel
theorem dX10_nears_14 : decode cX10_nears 14 = .ok (.aload_n 0, 1) := by decide +kernel
theorem dX10_nears_15 : decode cX10_nears 15 = .ok (.getfield 38, 3) := by decide +kernel
theorem dX10_nears_18 : decode cX10_nears 18 = .ok (.iload_n 1, 1) := by decide +kernel
theorem dX10_nears_19 : decode cX10_nears 19 = .ok (.iaload, 1) := by decide +kernel
theorem dX10_nears_20 : decode cX10_nears 20 = .ok (.ifCond .ne 10, 3) := by decide +kernel
theorem dX10_nears_23 : decode cX10_nears 23 = .ok (.aload_n 0, 1) := by decide +kernel
theorem dX10_nears_24 : decode cX10_nears 24 = .ok (.ldc 138, 2) := by decide +kernel
theorem dX10_nears_26 : decode cX10_nears 26 = .ok (.invokevirtual 63, 3) := by decide +kernel
theorem dX10_nears_29 : decode cX10_nears 29 = .ok (.ireturn, 1) := by decide +kernel
theorem dX10_nears_30 : decode cX10_nears 30 = .ok (.iconst 0, 1) := by decide +kernel
theorem dX10_nears_31 : decode cX10_nears 31 = .ok (.istore_n 2, 1) := by decide +kernel
theorem dX10_nears_32 : decode cX10_nears 32 = .ok (.iconst 0, 1) := by decide +kernel
theorem dX10_nears_33 : decode cX10_nears 33 = .ok (.istore_n 3, 1) := by decide +kernel
theorem dX10_nears_34 : decode cX10_nears 34 = .ok (.iload_n 3, 1) := by decide +kernel
theorem dX10_nears_35 : decode cX10_nears 35 = .ok (.iconst 1, 1) := by decide +kernel
theorem dX10_nears_36 : decode cX10_nears 36 = .ok (.iadd, 1) := by decide +kernel
theorem dX10_nears_37 : decode cX10_nears 37 = .ok (.aload_n 0, 1) := by decide +kernel
theorem dX10_nears_38 : decode cX10_nears 38 = .ok (.getfield 41, 3) := by decide +kernel
theorem dX10_nears_41 : decode cX10_nears 41 = .ok (.iload_n 1, 1) := by decide +kernel
theorem dX10_nears_42 : decode cX10_nears 42 = .ok (.iaload, 1) := by decide +kernel
theorem dX10_nears_43 : decode cX10_nears 43 = .ok (.if_icmp .ge 62, 3) := by decide +kernel
theorem dX10_nears_46 : decode cX10_nears 46 = .ok (.aload_n 0, 1) := by decide +kernel
theorem dX10_nears_47 : decode cX10_nears 47 = .ok (.getfield 44, 3) := by decide +kernel
theorem dX10_nears_50 : decode cX10_nears 50 = .ok (.bipush 40, 2) := by decide +kernel
theorem dX10_nears_52 : decode cX10_nears 52 = .ok (.iload_n 1, 1) := by decide +kernel
theorem dX10_nears_53 : decode cX10_nears 53 = .ok (.imul, 1) := by decide +kernel
theorem dX10_nears_54 : decode cX10_nears 54 = .ok (.iload_n 3, 1) := by decide +kernel
theorem dX10_nears_55 : decode cX10_nears 55 = .ok (.iadd, 1) := by decide +kernel
theorem dX10_nears_56 : decode cX10_nears 56 = .ok (.iaload, 1) := by decide +kernel
theorem dX10_nears_57 : decode cX10_nears 57 = .ok (.istore 4, 2) := by decide +kernel
theorem dX10_nears_59 : decode cX10_nears 59 = .ok (.aload_n 0, 1) := by decide +kernel
theorem dX10_nears_60 : decode cX10_nears 60 = .ok (.getfield 44, 3) := by decide +kernel
theorem dX10_nears_63 : decode cX10_nears 63 = .ok (.bipush 40, 2) := by decide +kernel
theorem dX10_nears_65 : decode cX10_nears 65 = .ok (.iload_n 1, 1) := by decide +kernel
theorem dX10_nears_66 : decode cX10_nears 66 = .ok (.imul, 1) := by decide +kernel
theorem dX10_nears_67 : decode cX10_nears 67 = .ok (.iload_n 3, 1) := by decide +kernel
theorem dX10_nears_68 : decode cX10_nears 68 = .ok (.iadd, 1) := by decide +kernel
theorem dX10_nears_69 : decode cX10_nears 69 = .ok (.iconst 1, 1) := by decide +kernel
theorem dX10_nears_70 : decode cX10_nears 70 = .ok (.iadd, 1) := by decide +kernel
theorem dX10_nears_71 : decode cX10_nears 71 = .ok (.iaload, 1) := by decide +kernel
theorem dX10_nears_72 : decode cX10_nears 72 = .ok (.istore 5, 2) := by decide +kernel
theorem dX10_nears_74 : decode cX10_nears 74 = .ok (.aload_n 0, 1) := by decide +kernel
theorem dX10_nears_75 : decode cX10_nears 75 = .ok (.iload 4, 2) := by decide +kernel
theorem dX10_nears_77 : decode cX10_nears 77 = .ok (.iload 5, 2) := by decide +kernel
theorem dX10_nears_79 : decode cX10_nears 79 = .ok (.invokevirtual 128, 3) := by decide +kernel
theorem dX10_nears_82 : decode cX10_nears 82 = .ok (.ifCond .ne 5, 3) := by decide +kernel
theorem dX10_nears_85 : decode cX10_nears 85 = .ok (.iload_n 2, 1) := by decide +kernel
theorem dX10_nears_86 : decode cX10_nears 86 = .ok (.ireturn, 1) := by decide +kernel
theorem dX10_nears_87 : decode cX10_nears 87 = .ok (.aload_n 0, 1) := by decide +kernel
theorem dX10_nears_88 : decode cX10_nears 88 = .ok (.iload 4, 2) := by decide +kernel
theorem dX10_nears_90 : decode cX10_nears 90 = .ok (.iload 5, 2) := by decide +kernel
theorem dX10_nears_92 : decode cX10_nears 92 = .ok (.iconst 1, 1) := by decide +kernel
theorem dX10_nears_93 : decode cX10_nears 93 = .ok (.invokevirtual 131, 3) := by decide +kernel
theorem dX10_nears_96 : decode cX10_nears 96 = .ok (.iinc 2 1, 3) := by decide +kernel
theorem dX10_nears_99 : decode cX10_nears 99 = .ok (.iinc 3 2, 3) := by decide +kernel
theorem dX10_nears_102 : decode cX10_nears 102 = .ok (.goto (-68), 3) := by decide +kernel
theorem dX10_nears_105 : decode cX10_nears 105 = .ok (.iload_n 2, 1) := by decide +kernel
theorem dX10_nears_106 : decode cX10_nears 106 = .ok (.ireturn, 1) := by decide +kernel
theorem dX10_worthBy_0 : decode cX10_worthBy 0 = .ok (.aload_n 0, 1) := by decide +kernel
theorem dX10_worthBy_1 : decode cX10_worthBy 1 = .ok (.iload_n 2, 1) := by decide +kernel
theorem dX10_worthBy_2 : decode cX10_worthBy 2 = .ok (.invokevirtual 139, 3) := by decide +kernel
theorem dX10_worthBy_5 : decode cX10_worthBy 5 = .ok (.istore 5, 2) := by decide +kernel
theorem dX10_worthBy_7 : decode cX10_worthBy 7 = .ok (.iload 5, 2) := by decide +kernel
theorem dX10_worthBy_9 : decode cX10_worthBy 9 = .ok (.iconst 5, 1) := by decide +kernel
theorem dX10_worthBy_10 : decode cX10_worthBy 10 = .ok (.bipush 8, 2) := by decide +kernel
theorem dX10_worthBy_12 : decode cX10_worthBy 12 = .ok (.aload_n 0, 1) := by decide +kernel
theorem dX10_worthBy_13 : decode cX10_worthBy 13 = .ok (.iload_n 2, 1) := by decide +kernel
theorem dX10_worthBy_14 : decode cX10_worthBy 14 = .ok (.invokevirtual 142, 3) := by decide +kernel
theorem dX10_worthBy_17 : decode cX10_worthBy 17 = .ok (.isub, 1) := by decide +kernel
theorem dX10_worthBy_18 : decode cX10_worthBy 18 = .ok (.imul, 1) := by decide +kernel
theorem dX10_worthBy_19 : decode cX10_worthBy 19 = .ok (.iadd, 1) := by decide +kernel
theorem dX10_worthBy_20 : decode cX10_worthBy 20 = .ok (.istore 6, 2) := by decide +kernel
theorem dX10_worthBy_22 : decode cX10_worthBy 22 = .ok (.iload 5, 2) := by decide +kernel
theorem dX10_worthBy_24 : decode cX10_worthBy 24 = .ok (.bipush 10, 2) := by decide +kernel
theorem dX10_worthBy_26 : decode cX10_worthBy 26 = .ok (.aload_n 0, 1) := by decide +kernel
theorem dX10_worthBy_27 : decode cX10_worthBy 27 = .ok (.iload_n 2, 1) := by decide +kernel
theorem dX10_worthBy_28 : decode cX10_worthBy 28 = .ok (.invokevirtual 56, 3) := by decide +kernel
theorem dX10_worthBy_31 : decode cX10_worthBy 31 = .ok (.aload_n 0, 1) := by decide +kernel
theorem dX10_worthBy_32 : decode cX10_worthBy 32 = .ok (.iload_n 3, 1) := by decide +kernel
theorem dX10_worthBy_33 : decode cX10_worthBy 33 = .ok (.invokevirtual 56, 3) := by decide +kernel
theorem dX10_worthBy_36 : decode cX10_worthBy 36 = .ok (.iand, 1) := by decide +kernel
theorem dX10_worthBy_37 : decode cX10_worthBy 37 = .ok (.invokestatic 145, 3) := by decide +kernel
theorem dX10_worthBy_40 : decode cX10_worthBy 40 = .ok (.imul, 1) := by decide +kernel
theorem dX10_worthBy_41 : decode cX10_worthBy 41 = .ok (.iadd, 1) := by decide +kernel
theorem dX10_worthBy_42 : decode cX10_worthBy 42 = .ok (.istore 7, 2) := by decide +kernel
theorem dX10_worthBy_44 : decode cX10_worthBy 44 = .ok (.iload_n 2, 1) := by decide +kernel
theorem dX10_worthBy_45 : decode cX10_worthBy 45 = .ok (.iload 4, 2) := by decide +kernel
theorem dX10_worthBy_47 : decode cX10_worthBy 47 = .ok (.if_icmp .ne 8, 3) := by decide +kernel
theorem dX10_worthBy_50 : decode cX10_worthBy 50 = .ok (.bipush 30, 2) := by decide +kernel
theorem dX10_worthBy_52 : decode cX10_worthBy 52 = .ok (.goto 4, 3) := by decide +kernel
theorem dX10_worthBy_55 : decode cX10_worthBy 55 = .ok (.iconst 0, 1) := by decide +kernel
theorem dX10_worthBy_56 : decode cX10_worthBy 56 = .ok (.istore 8, 2) := by decide +kernel
theorem dX10_worthBy_58 : decode cX10_worthBy 58 = .ok (.iload_n 1, 1) := by decide +kernel
theorem dX10_worthBy_59 : decode cX10_worthBy 59 = .ok (.tableswitch 89 1 6 #[37, 40, 43, 49, 54, 70], 37) := by decide +kernel
theorem dX10_worthBy_96 : decode cX10_worthBy 96 = .ok (.iload 6, 2) := by decide +kernel
theorem dX10_worthBy_98 : decode cX10_worthBy 98 = .ok (.ireturn, 1) := by decide +kernel
theorem dX10_worthBy_99 : decode cX10_worthBy 99 = .ok (.iload 7, 2) := by decide +kernel
theorem dX10_worthBy_101 : decode cX10_worthBy 101 = .ok (.ireturn, 1) := by decide +kernel
theorem dX10_worthBy_102 : decode cX10_worthBy 102 = .ok (.iload 5, 2) := by decide +kernel
theorem dX10_worthBy_104 : decode cX10_worthBy 104 = .ok (.iload 8, 2) := by decide +kernel
theorem dX10_worthBy_106 : decode cX10_worthBy 106 = .ok (.iadd, 1) := by decide +kernel
theorem dX10_worthBy_107 : decode cX10_worthBy 107 = .ok (.ireturn, 1) := by decide +kernel
theorem dX10_worthBy_108 : decode cX10_worthBy 108 = .ok (.iconst 2, 1) := by decide +kernel
theorem dX10_worthBy_109 : decode cX10_worthBy 109 = .ok (.iload 7, 2) := by decide +kernel
theorem dX10_worthBy_111 : decode cX10_worthBy 111 = .ok (.imul, 1) := by decide +kernel
theorem dX10_worthBy_112 : decode cX10_worthBy 112 = .ok (.ireturn, 1) := by decide +kernel
theorem dX10_worthBy_113 : decode cX10_worthBy 113 = .ok (.aload_n 0, 1) := by decide +kernel
theorem dX10_worthBy_114 : decode cX10_worthBy 114 = .ok (.iload_n 2, 1) := by decide +kernel
theorem dX10_worthBy_115 : decode cX10_worthBy 115 = .ok (.invokevirtual 142, 3) := by decide +kernel
theorem dX10_worthBy_118 : decode cX10_worthBy 118 = .ok (.iconst 4, 1) := by decide +kernel
theorem dX10_worthBy_119 : decode cX10_worthBy 119 = .ok (.if_icmp .le 7, 3) := by decide +kernel
theorem dX10_worthBy_122 : decode cX10_worthBy 122 = .ok (.iconst 0, 1) := by decide +kernel
theorem dX10_worthBy_123 : decode cX10_worthBy 123 = .ok (.goto 5, 3) := by decide +kernel
theorem dX10_worthBy_126 : decode cX10_worthBy 126 = .ok (.iload 6, 2) := by decide +kernel
theorem dX10_worthBy_128 : decode cX10_worthBy 128 = .ok (.ireturn, 1) := by decide +kernel
theorem dX10_worthBy_129 : decode cX10_worthBy 129 = .ok (.iload 5, 2) := by decide +kernel
theorem dX10_worthBy_131 : decode cX10_worthBy 131 = .ok (.iload 8, 2) := by decide +kernel
theorem dX10_worthBy_133 : decode cX10_worthBy 133 = .ok (.iadd, 1) := by decide +kernel
theorem dX10_worthBy_134 : decode cX10_worthBy 134 = .ok (.iload_n 2, 1) := by decide +kernel
theorem dX10_worthBy_135 : decode cX10_worthBy 135 = .ok (.iload 4, 2) := by decide +kernel
theorem dX10_worthBy_137 : decode cX10_worthBy 137 = .ok (.if_icmp .ne 8, 3) := by decide +kernel
theorem dX10_worthBy_140 : decode cX10_worthBy 140 = .ok (.bipush 50, 2) := by decide +kernel
theorem dX10_worthBy_142 : decode cX10_worthBy 142 = .ok (.goto 4, 3) := by decide +kernel
theorem dX10_worthBy_145 : decode cX10_worthBy 145 = .ok (.iconst 0, 1) := by decide +kernel
theorem dX10_worthBy_146 : decode cX10_worthBy 146 = .ok (.iadd, 1) := by decide +kernel
theorem dX10_worthBy_147 : decode cX10_worthBy 147 = .ok (.ireturn, 1) := by decide +kernel
theorem dX10_worthBy_148 : decode cX10_worthBy 148 = .ok (.iload 5, 2) := by decide +kernel
theorem dX10_worthBy_150 : decode cX10_worthBy 150 = .ok (.ireturn, 1) := by decide +kernel
theorem dX10_worthOf_0 : decode cX10_worthOf 0 = .ok (.aload_n 0, 1) := by decide +kernel
theorem dX10_worthOf_1 : decode cX10_worthOf 1 = .ok (.iload_n 1, 1) := by decide +kernel
theorem dX10_worthOf_2 : decode cX10_worthOf 2 = .ok (.iconst 1, 1) := by decide +kernel
theorem dX10_worthOf_3 : decode cX10_worthOf 3 = .ok (.invokevirtual 91, 3) := by decide +kernel
theorem dX10_worthOf_6 : decode cX10_worthOf 6 = .ok (.istore 4, 2) := by decide +kernel
theorem dX10_worthOf_8 : decode cX10_worthOf 8 = .ok (.aload_n 0, 1) := by decide +kernel
theorem dX10_worthOf_9 : decode cX10_worthOf 9 = .ok (.aload_n 0, 1) := by decide +kernel
theorem dX10_worthOf_10 : decode cX10_worthOf 10 = .ok (.iload_n 1, 1) := by decide +kernel
theorem dX10_worthOf_11 : decode cX10_worthOf 11 = .ok (.iconst 0, 1) := by decide +kernel
theorem dX10_worthOf_12 : decode cX10_worthOf 12 = .ok (.invokevirtual 91, 3) := by decide +kernel
theorem dX10_worthOf_15 : decode cX10_worthOf 15 = .ok (.iload_n 2, 1) := by decide +kernel
theorem dX10_worthOf_16 : decode cX10_worthOf 16 = .ok (.iload 4, 2) := by decide +kernel
theorem dX10_worthOf_18 : decode cX10_worthOf 18 = .ok (.ifCond .ge 7, 3) := by decide +kernel
theorem dX10_worthOf_21 : decode cX10_worthOf 21 = .ok (.iconst (-1), 1) := by decide +kernel
theorem dX10_worthOf_22 : decode cX10_worthOf 22 = .ok (.goto 9, 3) := by decide +kernel
theorem dX10_worthOf_25 : decode cX10_worthOf 25 = .ok (.aload_n 0, 1) := by decide +kernel
theorem dX10_worthOf_26 : decode cX10_worthOf 26 = .ok (.iload 4, 2) := by decide +kernel
theorem dX10_worthOf_28 : decode cX10_worthOf 28 = .ok (.invokevirtual 107, 3) := by decide +kernel
theorem dX10_worthOf_31 : decode cX10_worthOf 31 = .ok (.iload_n 3, 1) := by decide +kernel
theorem dX10_worthOf_32 : decode cX10_worthOf 32 = .ok (.invokevirtual 148, 3) := by decide +kernel
theorem dX10_worthOf_35 : decode cX10_worthOf 35 = .ok (.aload_n 0, 1) := by decide +kernel
theorem dX10_worthOf_36 : decode cX10_worthOf 36 = .ok (.aload_n 0, 1) := by decide +kernel
theorem dX10_worthOf_37 : decode cX10_worthOf 37 = .ok (.iload_n 2, 1) := by decide +kernel
theorem dX10_worthOf_38 : decode cX10_worthOf 38 = .ok (.invokevirtual 139, 3) := by decide +kernel
theorem dX10_worthOf_41 : decode cX10_worthOf 41 = .ok (.aload_n 0, 1) := by decide +kernel
theorem dX10_worthOf_42 : decode cX10_worthOf 42 = .ok (.iload_n 2, 1) := by decide +kernel
theorem dX10_worthOf_43 : decode cX10_worthOf 43 = .ok (.invokevirtual 142, 3) := by decide +kernel
theorem dX10_worthOf_46 : decode cX10_worthOf 46 = .ok (.iload_n 1, 1) := by decide +kernel
theorem dX10_worthOf_47 : decode cX10_worthOf 47 = .ok (.invokevirtual 152, 3) := by decide +kernel
theorem dX10_worthOf_50 : decode cX10_worthOf 50 = .ok (.iadd, 1) := by decide +kernel
theorem dX10_worthOf_51 : decode cX10_worthOf 51 = .ok (.ireturn, 1) := by decide +kernel
theorem dX10_worth_0 : decode cX10_worth 0 = .ok (.aload_n 0, 1) := by decide +kernel
theorem dX10_worth_1 : decode cX10_worth 1 = .ok (.iload_n 1, 1) := by decide +kernel
theorem dX10_worth_2 : decode cX10_worth 2 = .ok (.invokevirtual 113, 3) := by decide +kernel
theorem dX10_worth_5 : decode cX10_worth 5 = .ok (.ifCond .eq 25, 3) := by decide +kernel
theorem dX10_worth_8 : decode cX10_worth 8 = .ok (.aload_n 0, 1) := by decide +kernel
theorem dX10_worth_9 : decode cX10_worth 9 = .ok (.iload_n 2, 1) := by decide +kernel
theorem dX10_worth_10 : decode cX10_worth 10 = .ok (.invokevirtual 78, 3) := by decide +kernel
theorem dX10_worth_13 : decode cX10_worth 13 = .ok (.ifCond .eq 17, 3) := by decide +kernel
theorem dX10_worth_16 : decode cX10_worth 16 = .ok (.aload_n 0, 1) := by decide +kernel
theorem dX10_worth_17 : decode cX10_worth 17 = .ok (.iload_n 1, 1) := by decide +kernel
theorem dX10_worth_18 : decode cX10_worth 18 = .ok (.iload_n 2, 1) := by decide +kernel
theorem dX10_worth_19 : decode cX10_worth 19 = .ok (.aload_n 0, 1) := by decide +kernel
theorem dX10_worth_20 : decode cX10_worth 20 = .ok (.iload_n 1, 1) := by decide +kernel
theorem dX10_worth_21 : decode cX10_worth 21 = .ok (.invokevirtual 107, 3) := by decide +kernel
theorem dX10_worth_24 : decode cX10_worth 24 = .ok (.invokevirtual 156, 3) := by decide +kernel
theorem dX10_worth_27 : decode cX10_worth 27 = .ok (.goto 9, 3) := by decide +kernel
theorem dX10_worth_30 : decode cX10_worth 30 = .ok (.aload_n 0, 1) := by decide +kernel
theorem dX10_worth_31 : decode cX10_worth 31 = .ok (.ldc 62, 2) := by decide +kernel
theorem dX10_worth_33 : decode cX10_worth 33 = .ok (.invokevirtual 63, 3) := by decide +kernel
theorem dX10_worth_36 : decode cX10_worth 36 = .ok (.ireturn, 1) := by decide +kernel
theorem dX10_isLawful_0 : decode cX10_isLawful 0 = .ok (.iconst 0, 1) := by decide +kernel
theorem dX10_isLawful_1 : decode cX10_isLawful 1 = .ok (.istore_n 1, 1) := by decide +kernel
theorem dX10_isLawful_2 : decode cX10_isLawful 2 = .ok (.iload_n 1, 1) := by decide +kernel
theorem dX10_isLawful_3 : decode cX10_isLawful 3 = .ok (.aload_n 0, 1) := by decide +kernel
theorem dX10_isLawful_4 : decode cX10_isLawful 4 = .ok (.getfield 9, 3) := by decide +kernel
theorem dX10_isLawful_7 : decode cX10_isLawful 7 = .ok (.iconst 1, 1) := by decide +kernel
theorem dX10_isLawful_8 : decode cX10_isLawful 8 = .ok (.iaload, 1) := by decide +kernel
theorem dX10_isLawful_9 : decode cX10_isLawful 9 = .ok (.if_icmp .ge 36, 3) := by decide +kernel
theorem dX10_isLawful_12 : decode cX10_isLawful 12 = .ok (.aload_n 0, 1) := by decide +kernel
theorem dX10_isLawful_13 : decode cX10_isLawful 13 = .ok (.aload_n 0, 1) := by decide +kernel
theorem dX10_isLawful_14 : decode cX10_isLawful 14 = .ok (.iload_n 1, 1) := by decide +kernel
theorem dX10_isLawful_15 : decode cX10_isLawful 15 = .ok (.invokevirtual 107, 3) := by decide +kernel
theorem dX10_isLawful_18 : decode cX10_isLawful 18 = .ok (.invokevirtual 159, 3) := by decide +kernel
theorem dX10_isLawful_21 : decode cX10_isLawful 21 = .ok (.ifCond .ne 16, 3) := by decide +kernel
theorem dX10_isLawful_24 : decode cX10_isLawful 24 = .ok (.aload_n 0, 1) := by decide +kernel
theorem dX10_isLawful_25 : decode cX10_isLawful 25 = .ok (.iload_n 1, 1) := by decide +kernel
theorem dX10_isLawful_26 : decode cX10_isLawful 26 = .ok (.aload_n 0, 1) := by decide +kernel
theorem dX10_isLawful_27 : decode cX10_isLawful 27 = .ok (.iload_n 1, 1) := by decide +kernel
theorem dX10_isLawful_28 : decode cX10_isLawful 28 = .ok (.invokevirtual 107, 3) := by decide +kernel
theorem dX10_isLawful_31 : decode cX10_isLawful 31 = .ok (.invokevirtual 118, 3) := by decide +kernel
theorem dX10_isLawful_34 : decode cX10_isLawful 34 = .ok (.ifCond .eq 5, 3) := by decide +kernel
theorem dX10_isLawful_37 : decode cX10_isLawful 37 = .ok (.iconst 0, 1) := by decide +kernel
theorem dX10_isLawful_38 : decode cX10_isLawful 38 = .ok (.ireturn, 1) := by decide +kernel
theorem dX10_isLawful_39 : decode cX10_isLawful 39 = .ok (.iinc 1 1, 3) := by decide +kernel
theorem dX10_isLawful_42 : decode cX10_isLawful 42 = .ok (.goto (-40), 3) := by decide +kernel
theorem dX10_isLawful_45 : decode cX10_isLawful 45 = .ok (.iconst 1, 1) := by decide +kernel
theorem dX10_isLawful_46 : decode cX10_isLawful 46 = .ok (.ireturn, 1) := by decide +kernel
theorem dX10_lawful_0 : decode cX10_lawful 0 = .ok (.aload_n 0, 1) := by decide +kernel
theorem dX10_lawful_1 : decode cX10_lawful 1 = .ok (.invokevirtual 162, 3) := by decide +kernel
theorem dX10_lawful_4 : decode cX10_lawful 4 = .ok (.ifCond .eq 7, 3) := by decide +kernel
theorem dX10_lawful_7 : decode cX10_lawful 7 = .ok (.iconst 1, 1) := by decide +kernel
theorem dX10_lawful_8 : decode cX10_lawful 8 = .ok (.goto 4, 3) := by decide +kernel
theorem dX10_lawful_11 : decode cX10_lawful 11 = .ok (.iconst 0, 1) := by decide +kernel
theorem dX10_lawful_12 : decode cX10_lawful 12 = .ok (.ireturn, 1) := by decide +kernel
theorem dX10_here_0 : decode cX10_here 0 = .ok (.aload_n 0, 1) := by decide +kernel
theorem dX10_here_1 : decode cX10_here 1 = .ok (.getfield 166, 3) := by decide +kernel
theorem dX10_here_4 : decode cX10_here 4 = .ok (.ifCond .eq 7, 3) := by decide +kernel
theorem dX10_here_7 : decode cX10_here 7 = .ok (.iconst (-1), 1) := by decide +kernel
theorem dX10_here_8 : decode cX10_here 8 = .ok (.goto 11, 3) := by decide +kernel
theorem dX10_here_11 : decode cX10_here 11 = .ok (.aload_n 0, 1) := by decide +kernel
theorem dX10_here_12 : decode cX10_here 12 = .ok (.aload_n 0, 1) := by decide +kernel
theorem dX10_here_13 : decode cX10_here 13 = .ok (.getfield 170, 3) := by decide +kernel
theorem dX10_here_16 : decode cX10_here 16 = .ok (.invokevirtual 71, 3) := by decide +kernel
theorem dX10_here_19 : decode cX10_here 19 = .ok (.ireturn, 1) := by decide +kernel
theorem dX10_takes_0 : decode cX10_takes 0 = .ok (.aload_n 0, 1) := by decide +kernel
theorem dX10_takes_1 : decode cX10_takes 1 = .ok (.invokevirtual 174, 3) := by decide +kernel
theorem dX10_takes_4 : decode cX10_takes 4 = .ok (.iload_n 1, 1) := by decide +kernel
theorem dX10_takes_5 : decode cX10_takes 5 = .ok (.if_icmp .eq 5, 3) := by decide +kernel
theorem dX10_takes_8 : decode cX10_takes 8 = .ok (.iconst 0, 1) := by decide +kernel
theorem dX10_takes_9 : decode cX10_takes 9 = .ok (.ireturn, 1) := by decide +kernel
theorem dX10_takes_10 : decode cX10_takes 10 = .ok (.aload_n 0, 1) := by decide +kernel
theorem dX10_takes_11 : decode cX10_takes 11 = .ok (.dup, 1) := by decide +kernel
theorem dX10_takes_12 : decode cX10_takes 12 = .ok (.getfield 170, 3) := by decide +kernel
theorem dX10_takes_15 : decode cX10_takes 15 = .ok (.iconst 1, 1) := by decide +kernel
theorem dX10_takes_16 : decode cX10_takes 16 = .ok (.iadd, 1) := by decide +kernel
theorem dX10_takes_17 : decode cX10_takes 17 = .ok (.putfield 170, 3) := by decide +kernel
theorem dX10_takes_20 : decode cX10_takes 20 = .ok (.iconst 1, 1) := by decide +kernel
theorem dX10_takes_21 : decode cX10_takes 21 = .ok (.ireturn, 1) := by decide +kernel
theorem dX10_puts_0 : decode cX10_puts 0 = .ok (.aload_n 0, 1) := by decide +kernel
theorem dX10_puts_1 : decode cX10_puts 1 = .ok (.getfield 166, 3) := by decide +kernel
theorem dX10_puts_4 : decode cX10_puts 4 = .ok (.ifCond .eq 4, 3) := by decide +kernel
theorem dX10_puts_7 : decode cX10_puts 7 = .ok (.return_, 1) := by decide +kernel
theorem dX10_puts_8 : decode cX10_puts 8 = .ok (.aload_n 0, 1) := by decide +kernel
theorem dX10_puts_9 : decode cX10_puts 9 = .ok (.getfield 19, 3) := by decide +kernel
theorem dX10_puts_12 : decode cX10_puts 12 = .ok (.aload_n 0, 1) := by decide +kernel
theorem dX10_puts_13 : decode cX10_puts 13 = .ok (.getfield 178, 3) := by decide +kernel
theorem dX10_puts_16 : decode cX10_puts 16 = .ok (.iload_n 1, 1) := by decide +kernel
theorem dX10_puts_17 : decode cX10_puts 17 = .ok (.iastore, 1) := by decide +kernel
theorem dX10_puts_18 : decode cX10_puts 18 = .ok (.aload_n 0, 1) := by decide +kernel
theorem dX10_puts_19 : decode cX10_puts 19 = .ok (.dup, 1) := by decide +kernel
theorem dX10_puts_20 : decode cX10_puts 20 = .ok (.getfield 178, 3) := by decide +kernel
theorem dX10_puts_23 : decode cX10_puts 23 = .ok (.iconst 1, 1) := by decide +kernel
theorem dX10_puts_24 : decode cX10_puts 24 = .ok (.iadd, 1) := by decide +kernel
theorem dX10_puts_25 : decode cX10_puts 25 = .ok (.putfield 178, 3) := by decide +kernel
theorem dX10_puts_28 : decode cX10_puts 28 = .ok (.return_, 1) := by decide +kernel
theorem dX10_whole_0 : decode cX10_whole 0 = .ok (.aload_n 0, 1) := by decide +kernel
theorem dX10_whole_1 : decode cX10_whole 1 = .ok (.invokevirtual 181, 3) := by decide +kernel
theorem dX10_whole_4 : decode cX10_whole 4 = .ok (.aload_n 0, 1) := by decide +kernel
theorem dX10_whole_5 : decode cX10_whole 5 = .ok (.bipush 124, 2) := by decide +kernel
theorem dX10_whole_7 : decode cX10_whole 7 = .ok (.invokevirtual 184, 3) := by decide +kernel
theorem dX10_whole_10 : decode cX10_whole 10 = .ok (.ifCond .eq 17, 3) := by decide +kernel
theorem dX10_whole_13 : decode cX10_whole 13 = .ok (.aload_n 0, 1) := by decide +kernel
theorem dX10_whole_14 : decode cX10_whole 14 = .ok (.invokevirtual 181, 3) := by decide +kernel
theorem dX10_whole_17 : decode cX10_whole 17 = .ok (.aload_n 0, 1) := by decide +kernel
theorem dX10_whole_18 : decode cX10_whole 18 = .ok (.sipush 20124, 3) := by decide +kernel
theorem dX10_whole_21 : decode cX10_whole 21 = .ok (.invokevirtual 187, 3) := by decide +kernel
theorem dX10_whole_24 : decode cX10_whole 24 = .ok (.goto (-20), 3) := by decide +kernel
theorem dX10_whole_27 : decode cX10_whole 27 = .ok (.return_, 1) := by decide +kernel
theorem dX10_both_0 : decode cX10_both 0 = .ok (.aload_n 0, 1) := by decide +kernel
theorem dX10_both_1 : decode cX10_both 1 = .ok (.invokevirtual 191, 3) := by decide +kernel
theorem dX10_both_4 : decode cX10_both 4 = .ok (.aload_n 0, 1) := by decide +kernel
theorem dX10_both_5 : decode cX10_both 5 = .ok (.bipush 38, 2) := by decide +kernel
theorem dX10_both_7 : decode cX10_both 7 = .ok (.invokevirtual 184, 3) := by decide +kernel
theorem dX10_both_10 : decode cX10_both 10 = .ok (.ifCond .eq 17, 3) := by decide +kernel
theorem dX10_both_13 : decode cX10_both 13 = .ok (.aload_n 0, 1) := by decide +kernel
theorem dX10_both_14 : decode cX10_both 14 = .ok (.invokevirtual 191, 3) := by decide +kernel
theorem dX10_both_17 : decode cX10_both 17 = .ok (.aload_n 0, 1) := by decide +kernel
theorem dX10_both_18 : decode cX10_both 18 = .ok (.sipush 20038, 3) := by decide +kernel
theorem dX10_both_21 : decode cX10_both 21 = .ok (.invokevirtual 187, 3) := by decide +kernel
theorem dX10_both_24 : decode cX10_both 24 = .ok (.goto (-20), 3) := by decide +kernel
theorem dX10_both_27 : decode cX10_both 27 = .ok (.return_, 1) := by decide +kernel
theorem dX10_compared_0 : decode cX10_compared 0 = .ok (.aload_n 0, 1) := by decide +kernel
theorem dX10_compared_1 : decode cX10_compared 1 = .ok (.invokevirtual 194, 3) := by decide +kernel
theorem dX10_compared_4 : decode cX10_compared 4 = .ok (.aload_n 0, 1) := by decide +kernel
theorem dX10_compared_5 : decode cX10_compared 5 = .ok (.invokevirtual 174, 3) := by decide +kernel
theorem dX10_compared_8 : decode cX10_compared 8 = .ok (.istore_n 1, 1) := by decide +kernel
theorem dX10_compared_9 : decode cX10_compared 9 = .ok (.iload_n 1, 1) := by decide +kernel
theorem dX10_compared_10 : decode cX10_compared 10 = .ok (.bipush 60, 2) := by decide +kernel
theorem dX10_compared_12 : decode cX10_compared 12 = .ok (.if_icmp .eq 16, 3) := by decide +kernel
theorem dX10_compared_15 : decode cX10_compared 15 = .ok (.iload_n 1, 1) := by decide +kernel
theorem dX10_compared_16 : decode cX10_compared 16 = .ok (.bipush 61, 2) := by decide +kernel
theorem dX10_compared_18 : decode cX10_compared 18 = .ok (.if_icmp .eq 10, 3) := by decide +kernel
theorem dX10_compared_21 : decode cX10_compared 21 = .ok (.iload_n 1, 1) := by decide +kernel
theorem dX10_compared_22 : decode cX10_compared 22 = .ok (.bipush 62, 2) := by decide +kernel
theorem dX10_compared_24 : decode cX10_compared 24 = .ok (.if_icmp .eq 4, 3) := by decide +kernel
theorem dX10_compared_27 : decode cX10_compared 27 = .ok (.return_, 1) := by decide +kernel
theorem dX10_compared_28 : decode cX10_compared 28 = .ok (.aload_n 0, 1) := by decide +kernel
theorem dX10_compared_29 : decode cX10_compared 29 = .ok (.dup, 1) := by decide +kernel
theorem dX10_compared_30 : decode cX10_compared 30 = .ok (.getfield 170, 3) := by decide +kernel
theorem dX10_compared_33 : decode cX10_compared 33 = .ok (.iconst 1, 1) := by decide +kernel
theorem dX10_compared_34 : decode cX10_compared 34 = .ok (.iadd, 1) := by decide +kernel
theorem dX10_compared_35 : decode cX10_compared 35 = .ok (.putfield 170, 3) := by decide +kernel
theorem dX10_compared_38 : decode cX10_compared 38 = .ok (.aload_n 0, 1) := by decide +kernel
theorem dX10_compared_39 : decode cX10_compared 39 = .ok (.invokevirtual 194, 3) := by decide +kernel
theorem dX10_compared_42 : decode cX10_compared 42 = .ok (.aload_n 0, 1) := by decide +kernel
theorem dX10_compared_43 : decode cX10_compared 43 = .ok (.sipush 20000, 3) := by decide +kernel
theorem dX10_compared_46 : decode cX10_compared 46 = .ok (.iload_n 1, 1) := by decide +kernel
theorem dX10_compared_47 : decode cX10_compared 47 = .ok (.iadd, 1) := by decide +kernel
theorem dX10_compared_48 : decode cX10_compared 48 = .ok (.invokevirtual 187, 3) := by decide +kernel
theorem dX10_compared_51 : decode cX10_compared 51 = .ok (.return_, 1) := by decide +kernel
theorem dX10_sum_0 : decode cX10_sum 0 = .ok (.aload_n 0, 1) := by decide +kernel
theorem dX10_sum_1 : decode cX10_sum 1 = .ok (.invokevirtual 197, 3) := by decide +kernel
theorem dX10_sum_4 : decode cX10_sum 4 = .ok (.aload_n 0, 1) := by decide +kernel
theorem dX10_sum_5 : decode cX10_sum 5 = .ok (.invokevirtual 174, 3) := by decide +kernel
theorem dX10_sum_8 : decode cX10_sum 8 = .ok (.bipush 43, 2) := by decide +kernel
theorem dX10_sum_10 : decode cX10_sum 10 = .ok (.if_icmp .eq 12, 3) := by decide +kernel
theorem dX10_sum_13 : decode cX10_sum 13 = .ok (.aload_n 0, 1) := by decide +kernel
theorem dX10_sum_14 : decode cX10_sum 14 = .ok (.invokevirtual 174, 3) := by decide +kernel
theorem dX10_sum_17 : decode cX10_sum 17 = .ok (.bipush 45, 2) := by decide +kernel
theorem dX10_sum_19 : decode cX10_sum 19 = .ok (.if_icmp .ne 34, 3) := by decide +kernel
theorem dX10_sum_22 : decode cX10_sum 22 = .ok (.aload_n 0, 1) := by decide +kernel
theorem dX10_sum_23 : decode cX10_sum 23 = .ok (.invokevirtual 174, 3) := by decide +kernel
theorem dX10_sum_26 : decode cX10_sum 26 = .ok (.istore_n 1, 1) := by decide +kernel
theorem dX10_sum_27 : decode cX10_sum 27 = .ok (.aload_n 0, 1) := by decide +kernel
theorem dX10_sum_28 : decode cX10_sum 28 = .ok (.dup, 1) := by decide +kernel
theorem dX10_sum_29 : decode cX10_sum 29 = .ok (.getfield 170, 3) := by decide +kernel
theorem dX10_sum_32 : decode cX10_sum 32 = .ok (.iconst 1, 1) := by decide +kernel
theorem dX10_sum_33 : decode cX10_sum 33 = .ok (.iadd, 1) := by decide +kernel
theorem dX10_sum_34 : decode cX10_sum 34 = .ok (.putfield 170, 3) := by decide +kernel
theorem dX10_sum_37 : decode cX10_sum 37 = .ok (.aload_n 0, 1) := by decide +kernel
theorem dX10_sum_38 : decode cX10_sum 38 = .ok (.invokevirtual 197, 3) := by decide +kernel
theorem dX10_sum_41 : decode cX10_sum 41 = .ok (.aload_n 0, 1) := by decide +kernel
theorem dX10_sum_42 : decode cX10_sum 42 = .ok (.sipush 20000, 3) := by decide +kernel
theorem dX10_sum_45 : decode cX10_sum 45 = .ok (.iload_n 1, 1) := by decide +kernel
theorem dX10_sum_46 : decode cX10_sum 46 = .ok (.iadd, 1) := by decide +kernel
theorem dX10_sum_47 : decode cX10_sum 47 = .ok (.invokevirtual 187, 3) := by decide +kernel
theorem dX10_sum_50 : decode cX10_sum 50 = .ok (.goto (-46), 3) := by decide +kernel
theorem dX10_sum_53 : decode cX10_sum 53 = .ok (.return_, 1) := by decide +kernel
theorem dX10_product_0 : decode cX10_product 0 = .ok (.aload_n 0, 1) := by decide +kernel
theorem dX10_product_1 : decode cX10_product 1 = .ok (.invokevirtual 200, 3) := by decide +kernel
theorem dX10_product_4 : decode cX10_product 4 = .ok (.aload_n 0, 1) := by decide +kernel
theorem dX10_product_5 : decode cX10_product 5 = .ok (.invokevirtual 174, 3) := by decide +kernel
theorem dX10_product_8 : decode cX10_product 8 = .ok (.bipush 42, 2) := by decide +kernel
theorem dX10_product_10 : decode cX10_product 10 = .ok (.if_icmp .eq 21, 3) := by decide +kernel
theorem dX10_product_13 : decode cX10_product 13 = .ok (.aload_n 0, 1) := by decide +kernel
theorem dX10_product_14 : decode cX10_product 14 = .ok (.invokevirtual 174, 3) := by decide +kernel
theorem dX10_product_17 : decode cX10_product 17 = .ok (.bipush 47, 2) := by decide +kernel
theorem dX10_product_19 : decode cX10_product 19 = .ok (.if_icmp .eq 12, 3) := by decide +kernel
theorem dX10_product_22 : decode cX10_product 22 = .ok (.aload_n 0, 1) := by decide +kernel
theorem dX10_product_23 : decode cX10_product 23 = .ok (.invokevirtual 174, 3) := by decide +kernel
theorem dX10_product_26 : decode cX10_product 26 = .ok (.bipush 37, 2) := by decide +kernel
theorem dX10_product_28 : decode cX10_product 28 = .ok (.if_icmp .ne 34, 3) := by decide +kernel
theorem dX10_product_31 : decode cX10_product 31 = .ok (.aload_n 0, 1) := by decide +kernel
theorem dX10_product_32 : decode cX10_product 32 = .ok (.invokevirtual 174, 3) := by decide +kernel
theorem dX10_product_35 : decode cX10_product 35 = .ok (.istore_n 1, 1) := by decide +kernel
theorem dX10_product_36 : decode cX10_product 36 = .ok (.aload_n 0, 1) := by decide +kernel
theorem dX10_product_37 : decode cX10_product 37 = .ok (.dup, 1) := by decide +kernel
theorem dX10_product_38 : decode cX10_product 38 = .ok (.getfield 170, 3) := by decide +kernel
theorem dX10_product_41 : decode cX10_product 41 = .ok (.iconst 1, 1) := by decide +kernel
theorem dX10_product_42 : decode cX10_product 42 = .ok (.iadd, 1) := by decide +kernel
theorem dX10_product_43 : decode cX10_product 43 = .ok (.putfield 170, 3) := by decide +kernel
theorem dX10_product_46 : decode cX10_product 46 = .ok (.aload_n 0, 1) := by decide +kernel
theorem dX10_product_47 : decode cX10_product 47 = .ok (.invokevirtual 200, 3) := by decide +kernel
theorem dX10_product_50 : decode cX10_product 50 = .ok (.aload_n 0, 1) := by decide +kernel
theorem dX10_product_51 : decode cX10_product 51 = .ok (.sipush 20000, 3) := by decide +kernel
theorem dX10_product_54 : decode cX10_product 54 = .ok (.iload_n 1, 1) := by decide +kernel
theorem dX10_product_55 : decode cX10_product 55 = .ok (.iadd, 1) := by decide +kernel
theorem dX10_product_56 : decode cX10_product 56 = .ok (.invokevirtual 187, 3) := by decide +kernel
theorem dX10_product_59 : decode cX10_product 59 = .ok (.goto (-55), 3) := by decide +kernel
theorem dX10_product_62 : decode cX10_product 62 = .ok (.return_, 1) := by decide +kernel
theorem dX10_letterHere_0 : decode cX10_letterHere 0 = .ok (.aload_n 0, 1) := by decide +kernel
theorem dX10_letterHere_1 : decode cX10_letterHere 1 = .ok (.invokevirtual 174, 3) := by decide +kernel
theorem dX10_letterHere_4 : decode cX10_letterHere 4 = .ok (.istore_n 1, 1) := by decide +kernel
theorem dX10_letterHere_5 : decode cX10_letterHere 5 = .ok (.aload_n 0, 1) := by decide +kernel
theorem dX10_letterHere_6 : decode cX10_letterHere 6 = .ok (.getfield 203, 3) := by decide +kernel
theorem dX10_letterHere_9 : decode cX10_letterHere 9 = .ok (.ifCond .ne 35, 3) := by decide +kernel
theorem dX10_letterHere_12 : decode cX10_letterHere 12 = .ok (.iload_n 1, 1) := by decide +kernel
theorem dX10_letterHere_13 : decode cX10_letterHere 13 = .ok (.bipush 112, 2) := by decide +kernel
theorem dX10_letterHere_15 : decode cX10_letterHere 15 = .ok (.if_icmp .ne 7, 3) := by decide +kernel
theorem dX10_letterHere_18 : decode cX10_letterHere 18 = .ok (.iconst 0, 1) := by decide +kernel
theorem dX10_letterHere_19 : decode cX10_letterHere 19 = .ok (.goto 24, 3) := by decide +kernel
theorem dX10_letterHere_22 : decode cX10_letterHere 22 = .ok (.iload_n 1, 1) := by decide +kernel
theorem dX10_letterHere_23 : decode cX10_letterHere 23 = .ok (.bipush 113, 2) := by decide +kernel
theorem dX10_letterHere_25 : decode cX10_letterHere 25 = .ok (.if_icmp .ne 7, 3) := by decide +kernel
theorem dX10_letterHere_28 : decode cX10_letterHere 28 = .ok (.iconst 1, 1) := by decide +kernel
theorem dX10_letterHere_29 : decode cX10_letterHere 29 = .ok (.goto 14, 3) := by decide +kernel
theorem dX10_letterHere_32 : decode cX10_letterHere 32 = .ok (.iload_n 1, 1) := by decide +kernel
theorem dX10_letterHere_33 : decode cX10_letterHere 33 = .ok (.bipush 105, 2) := by decide +kernel
theorem dX10_letterHere_35 : decode cX10_letterHere 35 = .ok (.if_icmp .ne 7, 3) := by decide +kernel
theorem dX10_letterHere_38 : decode cX10_letterHere 38 = .ok (.iconst 2, 1) := by decide +kernel
theorem dX10_letterHere_39 : decode cX10_letterHere 39 = .ok (.goto 4, 3) := by decide +kernel
theorem dX10_letterHere_42 : decode cX10_letterHere 42 = .ok (.iconst (-1), 1) := by decide +kernel
theorem dX10_letterHere_43 : decode cX10_letterHere 43 = .ok (.ireturn, 1) := by decide +kernel
theorem dX10_letterHere_44 : decode cX10_letterHere 44 = .ok (.iload_n 1, 1) := by decide +kernel
theorem dX10_letterHere_45 : decode cX10_letterHere 45 = .ok (.bipush 115, 2) := by decide +kernel
theorem dX10_letterHere_47 : decode cX10_letterHere 47 = .ok (.if_icmp .ne 7, 3) := by decide +kernel
theorem dX10_letterHere_50 : decode cX10_letterHere 50 = .ok (.iconst 0, 1) := by decide +kernel
theorem dX10_letterHere_51 : decode cX10_letterHere 51 = .ok (.goto 24, 3) := by decide +kernel
theorem dX10_letterHere_54 : decode cX10_letterHere 54 = .ok (.iload_n 1, 1) := by decide +kernel
theorem dX10_letterHere_55 : decode cX10_letterHere 55 = .ok (.bipush 108, 2) := by decide +kernel
theorem dX10_letterHere_57 : decode cX10_letterHere 57 = .ok (.if_icmp .ne 7, 3) := by decide +kernel
theorem dX10_letterHere_60 : decode cX10_letterHere 60 = .ok (.iconst 1, 1) := by decide +kernel
theorem dX10_letterHere_61 : decode cX10_letterHere 61 = .ok (.goto 14, 3) := by decide +kernel
theorem dX10_letterHere_64 : decode cX10_letterHere 64 = .ok (.iload_n 1, 1) := by decide +kernel
theorem dX10_letterHere_65 : decode cX10_letterHere 65 = .ok (.bipush 119, 2) := by decide +kernel
theorem dX10_letterHere_67 : decode cX10_letterHere 67 = .ok (.if_icmp .ne 7, 3) := by decide +kernel
theorem dX10_letterHere_70 : decode cX10_letterHere 70 = .ok (.iconst 2, 1) := by decide +kernel
theorem dX10_letterHere_71 : decode cX10_letterHere 71 = .ok (.goto 4, 3) := by decide +kernel
theorem dX10_letterHere_74 : decode cX10_letterHere 74 = .ok (.iconst (-1), 1) := by decide +kernel
theorem dX10_letterHere_75 : decode cX10_letterHere 75 = .ok (.ireturn, 1) := by decide +kernel
theorem dX10_one_0 : decode cX10_one 0 = .ok (.aload_n 0, 1) := by decide +kernel
theorem dX10_one_1 : decode cX10_one 1 = .ok (.getfield 166, 3) := by decide +kernel
theorem dX10_one_4 : decode cX10_one 4 = .ok (.ifCond .eq 4, 3) := by decide +kernel
theorem dX10_one_7 : decode cX10_one 7 = .ok (.return_, 1) := by decide +kernel
theorem dX10_one_8 : decode cX10_one 8 = .ok (.aload_n 0, 1) := by decide +kernel
theorem dX10_one_9 : decode cX10_one 9 = .ok (.invokevirtual 206, 3) := by decide +kernel
theorem dX10_one_12 : decode cX10_one 12 = .ok (.istore_n 1, 1) := by decide +kernel
theorem dX10_one_13 : decode cX10_one 13 = .ok (.iconst 0, 1) := by decide +kernel
theorem dX10_one_14 : decode cX10_one 14 = .ok (.istore_n 2, 1) := by decide +kernel
theorem dX10_one_15 : decode cX10_one 15 = .ok (.iconst 0, 1) := by decide +kernel
theorem dX10_one_16 : decode cX10_one 16 = .ok (.istore_n 3, 1) := by decide +kernel
theorem dX10_one_17 : decode cX10_one 17 = .ok (.iload_n 3, 1) := by decide +kernel
theorem dX10_one_18 : decode cX10_one 18 = .ok (.iconst 4, 1) := by decide +kernel
theorem dX10_one_19 : decode cX10_one 19 = .ok (.if_icmp .ge 49, 3) := by decide +kernel
theorem dX10_one_22 : decode cX10_one 22 = .ok (.aload_n 0, 1) := by decide +kernel
theorem dX10_one_23 : decode cX10_one 23 = .ok (.invokevirtual 174, 3) := by decide +kernel
theorem dX10_one_26 : decode cX10_one 26 = .ok (.i2l, 1) := by decide +kernel
theorem dX10_one_27 : decode cX10_one 27 = .ok (.ldc2_w 209, 3) := by decide +kernel
theorem dX10_one_30 : decode cX10_one 30 = .ok (.ldc2_w 211, 3) := by decide +kernel
theorem dX10_one_33 : decode cX10_one 33 = .ok (.invokestatic 48, 3) := by decide +kernel
theorem dX10_one_36 : decode cX10_one 36 = .ok (.ifCond .eq 32, 3) := by decide +kernel
theorem dX10_one_39 : decode cX10_one 39 = .ok (.bipush 10, 2) := by decide +kernel
theorem dX10_one_41 : decode cX10_one 41 = .ok (.iload_n 2, 1) := by decide +kernel
theorem dX10_one_42 : decode cX10_one 42 = .ok (.imul, 1) := by decide +kernel
theorem dX10_one_43 : decode cX10_one 43 = .ok (.aload_n 0, 1) := by decide +kernel
theorem dX10_one_44 : decode cX10_one 44 = .ok (.invokevirtual 174, 3) := by decide +kernel
theorem dX10_one_47 : decode cX10_one 47 = .ok (.iadd, 1) := by decide +kernel
theorem dX10_one_48 : decode cX10_one 48 = .ok (.bipush 48, 2) := by decide +kernel
theorem dX10_one_50 : decode cX10_one 50 = .ok (.isub, 1) := by decide +kernel
theorem dX10_one_51 : decode cX10_one 51 = .ok (.istore_n 2, 1) := by decide +kernel
theorem dX10_one_52 : decode cX10_one 52 = .ok (.aload_n 0, 1) := by decide +kernel
theorem dX10_one_53 : decode cX10_one 53 = .ok (.dup, 1) := by decide +kernel
theorem dX10_one_54 : decode cX10_one 54 = .ok (.getfield 170, 3) := by decide +kernel
theorem dX10_one_57 : decode cX10_one 57 = .ok (.iconst 1, 1) := by decide +kernel
theorem dX10_one_58 : decode cX10_one 58 = .ok (.iadd, 1) := by decide +kernel
theorem dX10_one_59 : decode cX10_one 59 = .ok (.putfield 170, 3) := by decide +kernel
theorem dX10_one_62 : decode cX10_one 62 = .ok (.iinc 3 1, 3) := by decide +kernel
theorem dX10_one_65 : decode cX10_one 65 = .ok (.goto (-48), 3) := by decide +kernel
theorem dX10_one_68 : decode cX10_one 68 = .ok (.iload_n 3, 1) := by decide +kernel
theorem dX10_one_69 : decode cX10_one 69 = .ok (.ifCond .le 11, 3) := by decide +kernel
theorem dX10_one_72 : decode cX10_one 72 = .ok (.aload_n 0, 1) := by decide +kernel
theorem dX10_one_73 : decode cX10_one 73 = .ok (.iload_n 2, 1) := by decide +kernel
theorem dX10_one_74 : decode cX10_one 74 = .ok (.invokevirtual 187, 3) := by decide +kernel
theorem dX10_one_77 : decode cX10_one 77 = .ok (.goto 157, 3) := by decide +kernel
theorem dX10_one_80 : decode cX10_one 80 = .ok (.iload_n 1, 1) := by decide +kernel
theorem dX10_one_81 : decode cX10_one 81 = .ok (.ifCond .lt 25, 3) := by decide +kernel
theorem dX10_one_84 : decode cX10_one 84 = .ok (.aload_n 0, 1) := by decide +kernel
theorem dX10_one_85 : decode cX10_one 85 = .ok (.dup, 1) := by decide +kernel
theorem dX10_one_86 : decode cX10_one 86 = .ok (.getfield 170, 3) := by decide +kernel
theorem dX10_one_89 : decode cX10_one 89 = .ok (.iconst 1, 1) := by decide +kernel
theorem dX10_one_90 : decode cX10_one 90 = .ok (.iadd, 1) := by decide +kernel
theorem dX10_one_91 : decode cX10_one 91 = .ok (.putfield 170, 3) := by decide +kernel
theorem dX10_one_94 : decode cX10_one 94 = .ok (.aload_n 0, 1) := by decide +kernel
theorem dX10_one_95 : decode cX10_one 95 = .ok (.sipush 10000, 3) := by decide +kernel
theorem dX10_one_98 : decode cX10_one 98 = .ok (.iload_n 1, 1) := by decide +kernel
theorem dX10_one_99 : decode cX10_one 99 = .ok (.iadd, 1) := by decide +kernel
theorem dX10_one_100 : decode cX10_one 100 = .ok (.invokevirtual 187, 3) := by decide +kernel
theorem dX10_one_103 : decode cX10_one 103 = .ok (.goto 131, 3) := by decide +kernel
theorem dX10_one_106 : decode cX10_one 106 = .ok (.aload_n 0, 1) := by decide +kernel
theorem dX10_one_107 : decode cX10_one 107 = .ok (.invokevirtual 174, 3) := by decide +kernel
theorem dX10_one_110 : decode cX10_one 110 = .ok (.bipush 33, 2) := by decide +kernel
theorem dX10_one_112 : decode cX10_one 112 = .ok (.if_icmp .eq 12, 3) := by decide +kernel
theorem dX10_one_115 : decode cX10_one 115 = .ok (.aload_n 0, 1) := by decide +kernel
theorem dX10_one_116 : decode cX10_one 116 = .ok (.invokevirtual 174, 3) := by decide +kernel
theorem dX10_one_119 : decode cX10_one 119 = .ok (.bipush 40, 2) := by decide +kernel
theorem dX10_one_121 : decode cX10_one 121 = .ok (.if_icmp .ne 108, 3) := by decide +kernel
theorem dX10_one_124 : decode cX10_one 124 = .ok (.aload_n 0, 1) := by decide +kernel
theorem dX10_one_125 : decode cX10_one 125 = .ok (.getfield 213, 3) := by decide +kernel
theorem dX10_one_128 : decode cX10_one 128 = .ok (.iconst 5, 1) := by decide +kernel
theorem dX10_one_129 : decode cX10_one 129 = .ok (.if_icmp .ge 100, 3) := by decide +kernel
theorem dX10_one_132 : decode cX10_one 132 = .ok (.aload_n 0, 1) := by decide +kernel
theorem dX10_one_133 : decode cX10_one 133 = .ok (.invokevirtual 174, 3) := by decide +kernel
theorem dX10_one_136 : decode cX10_one 136 = .ok (.bipush 33, 2) := by decide +kernel
theorem dX10_one_138 : decode cX10_one 138 = .ok (.if_icmp .ne 7, 3) := by decide +kernel
theorem dX10_one_141 : decode cX10_one 141 = .ok (.iconst 1, 1) := by decide +kernel
theorem dX10_one_142 : decode cX10_one 142 = .ok (.goto 4, 3) := by decide +kernel
theorem dX10_one_145 : decode cX10_one 145 = .ok (.iconst 0, 1) := by decide +kernel
theorem dX10_one_146 : decode cX10_one 146 = .ok (.istore 4, 2) := by decide +kernel
theorem dX10_one_148 : decode cX10_one 148 = .ok (.aload_n 0, 1) := by decide +kernel
theorem dX10_one_149 : decode cX10_one 149 = .ok (.dup, 1) := by decide +kernel
theorem dX10_one_150 : decode cX10_one 150 = .ok (.getfield 170, 3) := by decide +kernel
theorem dX10_one_153 : decode cX10_one 153 = .ok (.iconst 1, 1) := by decide +kernel
theorem dX10_one_154 : decode cX10_one 154 = .ok (.iadd, 1) := by decide +kernel
theorem dX10_one_155 : decode cX10_one 155 = .ok (.putfield 170, 3) := by decide +kernel
theorem dX10_one_158 : decode cX10_one 158 = .ok (.aload_n 0, 1) := by decide +kernel
theorem dX10_one_159 : decode cX10_one 159 = .ok (.dup, 1) := by decide +kernel
theorem dX10_one_160 : decode cX10_one 160 = .ok (.getfield 213, 3) := by decide +kernel
theorem dX10_one_163 : decode cX10_one 163 = .ok (.iconst 1, 1) := by decide +kernel
theorem dX10_one_164 : decode cX10_one 164 = .ok (.iadd, 1) := by decide +kernel
theorem dX10_one_165 : decode cX10_one 165 = .ok (.putfield 213, 3) := by decide +kernel
theorem dX10_one_168 : decode cX10_one 168 = .ok (.iload 4, 2) := by decide +kernel
theorem dX10_one_170 : decode cX10_one 170 = .ok (.ifCond .eq 17, 3) := by decide +kernel
theorem dX10_one_173 : decode cX10_one 173 = .ok (.aload_n 0, 1) := by decide +kernel
theorem dX10_one_174 : decode cX10_one 174 = .ok (.invokevirtual 200, 3) := by decide +kernel
theorem dX10_one_177 : decode cX10_one 177 = .ok (.aload_n 0, 1) := by decide +kernel
theorem dX10_one_178 : decode cX10_one 178 = .ok (.sipush 20033, 3) := by decide +kernel
theorem dX10_one_181 : decode cX10_one 181 = .ok (.invokevirtual 187, 3) := by decide +kernel
theorem dX10_one_184 : decode cX10_one 184 = .ok (.goto 32, 3) := by decide +kernel
theorem dX10_one_187 : decode cX10_one 187 = .ok (.aload_n 0, 1) := by decide +kernel
theorem dX10_one_188 : decode cX10_one 188 = .ok (.invokevirtual 216, 3) := by decide +kernel
theorem dX10_one_191 : decode cX10_one 191 = .ok (.aload_n 0, 1) := by decide +kernel
theorem dX10_one_192 : decode cX10_one 192 = .ok (.aload_n 0, 1) := by decide +kernel
theorem dX10_one_193 : decode cX10_one 193 = .ok (.getfield 166, 3) := by decide +kernel
theorem dX10_one_196 : decode cX10_one 196 = .ok (.ifCond .ne 12, 3) := by decide +kernel
theorem dX10_one_199 : decode cX10_one 199 = .ok (.aload_n 0, 1) := by decide +kernel
theorem dX10_one_200 : decode cX10_one 200 = .ok (.bipush 41, 2) := by decide +kernel
theorem dX10_one_202 : decode cX10_one 202 = .ok (.invokevirtual 184, 3) := by decide +kernel
theorem dX10_one_205 : decode cX10_one 205 = .ok (.ifCond .ne 7, 3) := by decide +kernel
theorem dX10_one_208 : decode cX10_one 208 = .ok (.iconst 1, 1) := by decide +kernel
theorem dX10_one_209 : decode cX10_one 209 = .ok (.goto 4, 3) := by decide +kernel
theorem dX10_one_212 : decode cX10_one 212 = .ok (.iconst 0, 1) := by decide +kernel
theorem dX10_one_213 : decode cX10_one 213 = .ok (.putfield 166, 3) := by decide +kernel
theorem dX10_one_216 : decode cX10_one 216 = .ok (.aload_n 0, 1) := by decide +kernel
theorem dX10_one_217 : decode cX10_one 217 = .ok (.dup, 1) := by decide +kernel
theorem dX10_one_218 : decode cX10_one 218 = .ok (.getfield 213, 3) := by decide +kernel
theorem dX10_one_221 : decode cX10_one 221 = .ok (.iconst 1, 1) := by decide +kernel
theorem dX10_one_222 : decode cX10_one 222 = .ok (.isub, 1) := by decide +kernel
theorem dX10_one_223 : decode cX10_one 223 = .ok (.putfield 213, 3) := by decide +kernel
theorem dX10_one_226 : decode cX10_one 226 = .ok (.goto 8, 3) := by decide +kernel
theorem dX10_one_229 : decode cX10_one 229 = .ok (.aload_n 0, 1) := by decide +kernel
theorem dX10_one_230 : decode cX10_one 230 = .ok (.iconst 1, 1) := by decide +kernel
theorem dX10_one_231 : decode cX10_one 231 = .ok (.putfield 166, 3) := by decide +kernel
theorem dX10_one_234 : decode cX10_one 234 = .ok (.return_, 1) := by decide +kernel
theorem dX10_text_0 : decode cX10_text 0 = .ok (.iload_n 1, 1) := by decide +kernel
theorem dX10_text_1 : decode cX10_text 1 = .ok (.i2l, 1) := by decide +kernel
theorem dX10_text_2 : decode cX10_text 2 = .ok (.lconst 0, 1) := by decide +kernel
theorem dX10_text_3 : decode cX10_text 3 = .ok (.lconst 1, 1) := by decide +kernel
theorem dX10_text_4 : decode cX10_text 4 = .ok (.invokestatic 48, 3) := by decide +kernel
theorem dX10_text_7 : decode cX10_text 7 = .ok (.ifCond .ne 10, 3) := by decide +kernel
theorem dX10_text_10 : decode cX10_text 10 = .ok (.aload_n 0, 1) := by decide +kernel
theorem dX10_text_11 : decode cX10_text 11 = .ok (.ldc 62, 2) := by decide +kernel
theorem dX10_text_13 : decode cX10_text 13 = .ok (.invokevirtual 63, 3) := by decide +kernel
theorem dX10_text_16 : decode cX10_text 16 = .ok (.ireturn, 1) := by decide +kernel
theorem dX10_text_17 : decode cX10_text 17 = .ok (.aload_n 0, 1) := by decide +kernel
theorem dX10_text_18 : decode cX10_text 18 = .ok (.iload_n 1, 1) := by decide +kernel
theorem dX10_text_19 : decode cX10_text 19 = .ok (.putfield 203, 3) := by decide +kernel
theorem dX10_text_22 : decode cX10_text 22 = .ok (.aload_n 0, 1) := by decide +kernel
theorem dX10_text_23 : decode cX10_text 23 = .ok (.iconst 0, 1) := by decide +kernel
theorem dX10_text_24 : decode cX10_text 24 = .ok (.putfield 178, 3) := by decide +kernel
theorem dX10_text_27 : decode cX10_text 27 = .ok (.aload_n 0, 1) := by decide +kernel
theorem dX10_text_28 : decode cX10_text 28 = .ok (.iconst 0, 1) := by decide +kernel
theorem dX10_text_29 : decode cX10_text 29 = .ok (.putfield 170, 3) := by decide +kernel
theorem dX10_text_32 : decode cX10_text 32 = .ok (.aload_n 0, 1) := by decide +kernel
theorem dX10_text_33 : decode cX10_text 33 = .ok (.iconst 0, 1) := by decide +kernel
theorem dX10_text_34 : decode cX10_text 34 = .ok (.putfield 213, 3) := by decide +kernel
theorem dX10_text_37 : decode cX10_text 37 = .ok (.aload_n 0, 1) := by decide +kernel
theorem dX10_text_38 : decode cX10_text 38 = .ok (.iconst 0, 1) := by decide +kernel
theorem dX10_text_39 : decode cX10_text 39 = .ok (.putfield 166, 3) := by decide +kernel
theorem dX10_text_42 : decode cX10_text 42 = .ok (.aload_n 0, 1) := by decide +kernel
theorem dX10_text_43 : decode cX10_text 43 = .ok (.invokevirtual 216, 3) := by decide +kernel
theorem dX10_text_46 : decode cX10_text 46 = .ok (.aload_n 0, 1) := by decide +kernel
theorem dX10_text_47 : decode cX10_text 47 = .ok (.getfield 166, 3) := by decide +kernel
theorem dX10_text_50 : decode cX10_text 50 = .ok (.ifCond .ne 20, 3) := by decide +kernel
theorem dX10_text_53 : decode cX10_text 53 = .ok (.aload_n 0, 1) := by decide +kernel
theorem dX10_text_54 : decode cX10_text 54 = .ok (.getfield 170, 3) := by decide +kernel
theorem dX10_text_57 : decode cX10_text 57 = .ok (.aload_n 0, 1) := by decide +kernel
theorem dX10_text_58 : decode cX10_text 58 = .ok (.getfield 9, 3) := by decide +kernel
theorem dX10_text_61 : decode cX10_text 61 = .ok (.iconst 4, 1) := by decide +kernel
theorem dX10_text_62 : decode cX10_text 62 = .ok (.iaload, 1) := by decide +kernel
theorem dX10_text_63 : decode cX10_text 63 = .ok (.if_icmp .ne 7, 3) := by decide +kernel
theorem dX10_text_66 : decode cX10_text 66 = .ok (.iconst 1, 1) := by decide +kernel
theorem dX10_text_67 : decode cX10_text 67 = .ok (.goto 4, 3) := by decide +kernel
theorem dX10_text_70 : decode cX10_text 70 = .ok (.iconst 0, 1) := by decide +kernel
theorem dX10_text_71 : decode cX10_text 71 = .ok (.istore_n 2, 1) := by decide +kernel
theorem dX10_text_72 : decode cX10_text 72 = .ok (.aload_n 0, 1) := by decide +kernel
theorem dX10_text_73 : decode cX10_text 73 = .ok (.getfield 9, 3) := by decide +kernel
theorem dX10_text_76 : decode cX10_text 76 = .ok (.iconst 4, 1) := by decide +kernel
theorem dX10_text_77 : decode cX10_text 77 = .ok (.iconst 0, 1) := by decide +kernel
theorem dX10_text_78 : decode cX10_text 78 = .ok (.iastore, 1) := by decide +kernel
theorem dX10_text_79 : decode cX10_text 79 = .ok (.iload_n 2, 1) := by decide +kernel
theorem dX10_text_80 : decode cX10_text 80 = .ok (.ifCond .ne 11, 3) := by decide +kernel
theorem dX10_text_83 : decode cX10_text 83 = .ok (.bipush (-10), 2) := by decide +kernel
theorem dX10_text_85 : decode cX10_text 85 = .ok (.aload_n 0, 1) := by decide +kernel
theorem dX10_text_86 : decode cX10_text 86 = .ok (.getfield 170, 3) := by decide +kernel
theorem dX10_text_89 : decode cX10_text 89 = .ok (.isub, 1) := by decide +kernel
theorem dX10_text_90 : decode cX10_text 90 = .ok (.ireturn, 1) := by decide +kernel
theorem dX10_text_91 : decode cX10_text 91 = .ok (.sipush 270, 3) := by decide +kernel
theorem dX10_text_94 : decode cX10_text 94 = .ok (.bipush 51, 2) := by decide +kernel
theorem dX10_text_96 : decode cX10_text 96 = .ok (.aload_n 0, 1) := by decide +kernel
theorem dX10_text_97 : decode cX10_text 97 = .ok (.getfield 203, 3) := by decide +kernel
theorem dX10_text_100 : decode cX10_text 100 = .ok (.imul, 1) := by decide +kernel
theorem dX10_text_101 : decode cX10_text 101 = .ok (.iadd, 1) := by decide +kernel
theorem dX10_text_102 : decode cX10_text 102 = .ok (.istore_n 3, 1) := by decide +kernel
theorem dX10_text_103 : decode cX10_text 103 = .ok (.aload_n 0, 1) := by decide +kernel
theorem dX10_text_104 : decode cX10_text 104 = .ok (.getfield 9, 3) := by decide +kernel
theorem dX10_text_107 : decode cX10_text 107 = .ok (.iload_n 3, 1) := by decide +kernel
theorem dX10_text_108 : decode cX10_text 108 = .ok (.aload_n 0, 1) := by decide +kernel
theorem dX10_text_109 : decode cX10_text 109 = .ok (.getfield 178, 3) := by decide +kernel
theorem dX10_text_112 : decode cX10_text 112 = .ok (.iastore, 1) := by decide +kernel
theorem dX10_text_113 : decode cX10_text 113 = .ok (.iconst 0, 1) := by decide +kernel
theorem dX10_text_114 : decode cX10_text 114 = .ok (.istore 4, 2) := by decide +kernel
theorem dX10_text_116 : decode cX10_text 116 = .ok (.iload 4, 2) := by decide +kernel
theorem dX10_text_118 : decode cX10_text 118 = .ok (.aload_n 0, 1) := by decide +kernel
theorem dX10_text_119 : decode cX10_text 119 = .ok (.getfield 178, 3) := by decide +kernel
theorem dX10_text_122 : decode cX10_text 122 = .ok (.if_icmp .ge 27, 3) := by decide +kernel
theorem dX10_text_125 : decode cX10_text 125 = .ok (.aload_n 0, 1) := by decide +kernel
theorem dX10_text_126 : decode cX10_text 126 = .ok (.getfield 9, 3) := by decide +kernel
theorem dX10_text_129 : decode cX10_text 129 = .ok (.iload_n 3, 1) := by decide +kernel
theorem dX10_text_130 : decode cX10_text 130 = .ok (.iconst 1, 1) := by decide +kernel
theorem dX10_text_131 : decode cX10_text 131 = .ok (.iadd, 1) := by decide +kernel
theorem dX10_text_132 : decode cX10_text 132 = .ok (.iload 4, 2) := by decide +kernel
theorem dX10_text_134 : decode cX10_text 134 = .ok (.iadd, 1) := by decide +kernel
theorem dX10_text_135 : decode cX10_text 135 = .ok (.aload_n 0, 1) := by decide +kernel
theorem dX10_text_136 : decode cX10_text 136 = .ok (.getfield 19, 3) := by decide +kernel
theorem dX10_text_139 : decode cX10_text 139 = .ok (.iload 4, 2) := by decide +kernel
theorem dX10_text_141 : decode cX10_text 141 = .ok (.iaload, 1) := by decide +kernel
theorem dX10_text_142 : decode cX10_text 142 = .ok (.iastore, 1) := by decide +kernel
theorem dX10_text_143 : decode cX10_text 143 = .ok (.iinc 4 1, 3) := by decide +kernel
theorem dX10_text_146 : decode cX10_text 146 = .ok (.goto (-30), 3) := by decide +kernel
theorem dX10_text_149 : decode cX10_text 149 = .ok (.iconst 1, 1) := by decide +kernel
theorem dX10_text_150 : decode cX10_text 150 = .ok (.ireturn, 1) := by decide +kernel
theorem dX10_asNumber_0 : decode cX10_asNumber 0 = .ok (.iload_n 0, 1) := by decide +kernel
theorem dX10_asNumber_1 : decode cX10_asNumber 1 = .ok (.ifCond .eq 7, 3) := by decide +kernel
theorem dX10_asNumber_4 : decode cX10_asNumber 4 = .ok (.iconst 1, 1) := by decide +kernel
theorem dX10_asNumber_5 : decode cX10_asNumber 5 = .ok (.goto 4, 3) := by decide +kernel
theorem dX10_asNumber_8 : decode cX10_asNumber 8 = .ok (.iconst 0, 1) := by decide +kernel
theorem dX10_asNumber_9 : decode cX10_asNumber 9 = .ok (.ireturn, 1) := by decide +kernel
theorem dX10_joined_0 : decode cX10_joined 0 = .ok (.iload_n 0, 1) := by decide +kernel
theorem dX10_joined_1 : decode cX10_joined 1 = .ok (.lookupswitch 183 #[(38, 100), (42, 167), (43, 159), (45, 163), (47, 171), (60, 117), (61, 131), (62, 145), (124, 83)], 83) := by decide +kernel
theorem dX10_joined_84 : decode cX10_joined 84 = .ok (.iload_n 1, 1) := by decide +kernel
theorem dX10_joined_85 : decode cX10_joined 85 = .ok (.ifCond .ne 7, 3) := by decide +kernel
theorem dX10_joined_88 : decode cX10_joined 88 = .ok (.iload_n 2, 1) := by decide +kernel
theorem dX10_joined_89 : decode cX10_joined 89 = .ok (.ifCond .eq 7, 3) := by decide +kernel
theorem dX10_joined_92 : decode cX10_joined 92 = .ok (.iconst 1, 1) := by decide +kernel
theorem dX10_joined_93 : decode cX10_joined 93 = .ok (.goto 4, 3) := by decide +kernel
theorem dX10_joined_96 : decode cX10_joined 96 = .ok (.iconst 0, 1) := by decide +kernel
theorem dX10_joined_97 : decode cX10_joined 97 = .ok (.invokestatic 219, 3) := by decide +kernel
theorem dX10_joined_100 : decode cX10_joined 100 = .ok (.ireturn, 1) := by decide +kernel
theorem dX10_joined_101 : decode cX10_joined 101 = .ok (.iload_n 1, 1) := by decide +kernel
theorem dX10_joined_102 : decode cX10_joined 102 = .ok (.ifCond .eq 11, 3) := by decide +kernel
theorem dX10_joined_105 : decode cX10_joined 105 = .ok (.iload_n 2, 1) := by decide +kernel
theorem dX10_joined_106 : decode cX10_joined 106 = .ok (.ifCond .eq 7, 3) := by decide +kernel
theorem dX10_joined_109 : decode cX10_joined 109 = .ok (.iconst 1, 1) := by decide +kernel
theorem dX10_joined_110 : decode cX10_joined 110 = .ok (.goto 4, 3) := by decide +kernel
theorem dX10_joined_113 : decode cX10_joined 113 = .ok (.iconst 0, 1) := by decide +kernel
theorem dX10_joined_114 : decode cX10_joined 114 = .ok (.invokestatic 219, 3) := by decide +kernel
theorem dX10_joined_117 : decode cX10_joined 117 = .ok (.ireturn, 1) := by decide +kernel
theorem dX10_joined_118 : decode cX10_joined 118 = .ok (.iload_n 1, 1) := by decide +kernel
theorem dX10_joined_119 : decode cX10_joined 119 = .ok (.iload_n 2, 1) := by decide +kernel
theorem dX10_joined_120 : decode cX10_joined 120 = .ok (.if_icmp .ge 7, 3) := by decide +kernel
theorem dX10_joined_123 : decode cX10_joined 123 = .ok (.iconst 1, 1) := by decide +kernel
theorem dX10_joined_124 : decode cX10_joined 124 = .ok (.goto 4, 3) := by decide +kernel
theorem dX10_joined_127 : decode cX10_joined 127 = .ok (.iconst 0, 1) := by decide +kernel
theorem dX10_joined_128 : decode cX10_joined 128 = .ok (.invokestatic 219, 3) := by decide +kernel
theorem dX10_joined_131 : decode cX10_joined 131 = .ok (.ireturn, 1) := by decide +kernel
theorem dX10_joined_132 : decode cX10_joined 132 = .ok (.iload_n 1, 1) := by decide +kernel
theorem dX10_joined_133 : decode cX10_joined 133 = .ok (.iload_n 2, 1) := by decide +kernel
theorem dX10_joined_134 : decode cX10_joined 134 = .ok (.if_icmp .ne 7, 3) := by decide +kernel
theorem dX10_joined_137 : decode cX10_joined 137 = .ok (.iconst 1, 1) := by decide +kernel
theorem dX10_joined_138 : decode cX10_joined 138 = .ok (.goto 4, 3) := by decide +kernel
theorem dX10_joined_141 : decode cX10_joined 141 = .ok (.iconst 0, 1) := by decide +kernel
theorem dX10_joined_142 : decode cX10_joined 142 = .ok (.invokestatic 219, 3) := by decide +kernel
theorem dX10_joined_145 : decode cX10_joined 145 = .ok (.ireturn, 1) := by decide +kernel
theorem dX10_joined_146 : decode cX10_joined 146 = .ok (.iload_n 1, 1) := by decide +kernel
theorem dX10_joined_147 : decode cX10_joined 147 = .ok (.iload_n 2, 1) := by decide +kernel
theorem dX10_joined_148 : decode cX10_joined 148 = .ok (.if_icmp .le 7, 3) := by decide +kernel
theorem dX10_joined_151 : decode cX10_joined 151 = .ok (.iconst 1, 1) := by decide +kernel
theorem dX10_joined_152 : decode cX10_joined 152 = .ok (.goto 4, 3) := by decide +kernel
theorem dX10_joined_155 : decode cX10_joined 155 = .ok (.iconst 0, 1) := by decide +kernel
theorem dX10_joined_156 : decode cX10_joined 156 = .ok (.invokestatic 219, 3) := by decide +kernel
theorem dX10_joined_159 : decode cX10_joined 159 = .ok (.ireturn, 1) := by decide +kernel
theorem dX10_joined_160 : decode cX10_joined 160 = .ok (.iload_n 1, 1) := by decide +kernel
theorem dX10_joined_161 : decode cX10_joined 161 = .ok (.iload_n 2, 1) := by decide +kernel
theorem dX10_joined_162 : decode cX10_joined 162 = .ok (.iadd, 1) := by decide +kernel
theorem dX10_joined_163 : decode cX10_joined 163 = .ok (.ireturn, 1) := by decide +kernel
theorem dX10_joined_164 : decode cX10_joined 164 = .ok (.iload_n 1, 1) := by decide +kernel
theorem dX10_joined_165 : decode cX10_joined 165 = .ok (.iload_n 2, 1) := by decide +kernel
theorem dX10_joined_166 : decode cX10_joined 166 = .ok (.isub, 1) := by decide +kernel
theorem dX10_joined_167 : decode cX10_joined 167 = .ok (.ireturn, 1) := by decide +kernel
theorem dX10_joined_168 : decode cX10_joined 168 = .ok (.iload_n 1, 1) := by decide +kernel
theorem dX10_joined_169 : decode cX10_joined 169 = .ok (.iload_n 2, 1) := by decide +kernel
theorem dX10_joined_170 : decode cX10_joined 170 = .ok (.imul, 1) := by decide +kernel
theorem dX10_joined_171 : decode cX10_joined 171 = .ok (.ireturn, 1) := by decide +kernel
theorem dX10_joined_172 : decode cX10_joined 172 = .ok (.iload_n 2, 1) := by decide +kernel
theorem dX10_joined_173 : decode cX10_joined 173 = .ok (.ifCond .ne 7, 3) := by decide +kernel
theorem dX10_joined_176 : decode cX10_joined 176 = .ok (.iconst 0, 1) := by decide +kernel
theorem dX10_joined_177 : decode cX10_joined 177 = .ok (.goto 6, 3) := by decide +kernel
theorem dX10_joined_180 : decode cX10_joined 180 = .ok (.iload_n 1, 1) := by decide +kernel
theorem dX10_joined_181 : decode cX10_joined 181 = .ok (.iload_n 2, 1) := by decide +kernel
theorem dX10_joined_182 : decode cX10_joined 182 = .ok (.idiv, 1) := by decide +kernel
theorem dX10_joined_183 : decode cX10_joined 183 = .ok (.ireturn, 1) := by decide +kernel
theorem dX10_joined_184 : decode cX10_joined 184 = .ok (.iload_n 2, 1) := by decide +kernel
theorem dX10_joined_185 : decode cX10_joined 185 = .ok (.ifCond .ne 7, 3) := by decide +kernel
theorem dX10_joined_188 : decode cX10_joined 188 = .ok (.iconst 0, 1) := by decide +kernel
theorem dX10_joined_189 : decode cX10_joined 189 = .ok (.goto 6, 3) := by decide +kernel
theorem dX10_joined_192 : decode cX10_joined 192 = .ok (.iload_n 1, 1) := by decide +kernel
theorem dX10_joined_193 : decode cX10_joined 193 = .ok (.iload_n 2, 1) := by decide +kernel
theorem dX10_joined_194 : decode cX10_joined 194 = .ok (.irem, 1) := by decide +kernel
theorem dX10_joined_195 : decode cX10_joined 195 = .ok (.ireturn, 1) := by decide +kernel
theorem dX10_works_0 : decode cX10_works 0 = .ok (.sipush 270, 3) := by decide +kernel
theorem dX10_works_3 : decode cX10_works 3 = .ok (.bipush 51, 2) := by decide +kernel
theorem dX10_works_5 : decode cX10_works 5 = .ok (.iload_n 1, 1) := by decide +kernel
theorem dX10_works_6 : decode cX10_works 6 = .ok (.imul, 1) := by decide +kernel
theorem dX10_works_7 : decode cX10_works 7 = .ok (.iadd, 1) := by decide +kernel
theorem dX10_works_8 : decode cX10_works 8 = .ok (.istore 5, 2) := by decide +kernel
theorem dX10_works_10 : decode cX10_works 10 = .ok (.iconst 0, 1) := by decide +kernel
theorem dX10_works_11 : decode cX10_works 11 = .ok (.istore 6, 2) := by decide +kernel
theorem dX10_works_13 : decode cX10_works 13 = .ok (.iconst 1, 1) := by decide +kernel
theorem dX10_works_14 : decode cX10_works 14 = .ok (.istore 7, 2) := by decide +kernel
theorem dX10_works_16 : decode cX10_works 16 = .ok (.iload 7, 2) := by decide +kernel
theorem dX10_works_18 : decode cX10_works 18 = .ok (.aload_n 0, 1) := by decide +kernel
theorem dX10_works_19 : decode cX10_works 19 = .ok (.getfield 9, 3) := by decide +kernel
theorem dX10_works_22 : decode cX10_works 22 = .ok (.iload 5, 2) := by decide +kernel
theorem dX10_works_24 : decode cX10_works 24 = .ok (.iaload, 1) := by decide +kernel
theorem dX10_works_25 : decode cX10_works 25 = .ok (.if_icmp .gt 158, 3) := by decide +kernel
theorem dX10_works_28 : decode cX10_works 28 = .ok (.aload_n 0, 1) := by decide +kernel
theorem dX10_works_29 : decode cX10_works 29 = .ok (.getfield 9, 3) := by decide +kernel
theorem dX10_works_32 : decode cX10_works 32 = .ok (.iload 5, 2) := by decide +kernel
theorem dX10_works_34 : decode cX10_works 34 = .ok (.iload 7, 2) := by decide +kernel
theorem dX10_works_36 : decode cX10_works 36 = .ok (.iadd, 1) := by decide +kernel
theorem dX10_works_37 : decode cX10_works 37 = .ok (.iaload, 1) := by decide +kernel
theorem dX10_works_38 : decode cX10_works 38 = .ok (.istore 8, 2) := by decide +kernel
theorem dX10_works_40 : decode cX10_works 40 = .ok (.iload 8, 2) := by decide +kernel
theorem dX10_works_42 : decode cX10_works 42 = .ok (.sipush 20000, 3) := by decide +kernel
theorem dX10_works_45 : decode cX10_works 45 = .ok (.if_icmp .ge 55, 3) := by decide +kernel
theorem dX10_works_48 : decode cX10_works 48 = .ok (.aload_n 0, 1) := by decide +kernel
theorem dX10_works_49 : decode cX10_works 49 = .ok (.getfield 22, 3) := by decide +kernel
theorem dX10_works_52 : decode cX10_works 52 = .ok (.iload 6, 2) := by decide +kernel
theorem dX10_works_54 : decode cX10_works 54 = .ok (.iload 8, 2) := by decide +kernel
theorem dX10_works_56 : decode cX10_works 56 = .ok (.sipush 10000, 3) := by decide +kernel
theorem dX10_works_59 : decode cX10_works 59 = .ok (.if_icmp .ge 8, 3) := by decide +kernel
theorem dX10_works_62 : decode cX10_works 62 = .ok (.iload 8, 2) := by decide +kernel
theorem dX10_works_64 : decode cX10_works 64 = .ok (.goto 29, 3) := by decide +kernel
theorem dX10_works_67 : decode cX10_works 67 = .ok (.iload 8, 2) := by decide +kernel
theorem dX10_works_69 : decode cX10_works 69 = .ok (.sipush 10000, 3) := by decide +kernel
theorem dX10_works_72 : decode cX10_works 72 = .ok (.if_icmp .ne 7, 3) := by decide +kernel
theorem dX10_works_75 : decode cX10_works 75 = .ok (.iload_n 2, 1) := by decide +kernel
theorem dX10_works_76 : decode cX10_works 76 = .ok (.goto 17, 3) := by decide +kernel
theorem dX10_works_79 : decode cX10_works 79 = .ok (.iload 8, 2) := by decide +kernel
theorem dX10_works_81 : decode cX10_works 81 = .ok (.sipush 10001, 3) := by decide +kernel
theorem dX10_works_84 : decode cX10_works 84 = .ok (.if_icmp .ne 7, 3) := by decide +kernel
theorem dX10_works_87 : decode cX10_works 87 = .ok (.iload_n 3, 1) := by decide +kernel
theorem dX10_works_88 : decode cX10_works 88 = .ok (.goto 5, 3) := by decide +kernel
theorem dX10_works_91 : decode cX10_works 91 = .ok (.iload 4, 2) := by decide +kernel
theorem dX10_works_93 : decode cX10_works 93 = .ok (.iastore, 1) := by decide +kernel
theorem dX10_works_94 : decode cX10_works 94 = .ok (.iinc 6 1, 3) := by decide +kernel
theorem dX10_works_97 : decode cX10_works 97 = .ok (.goto 80, 3) := by decide +kernel
theorem dX10_works_100 : decode cX10_works 100 = .ok (.iload 8, 2) := by decide +kernel
theorem dX10_works_102 : decode cX10_works 102 = .ok (.sipush 20033, 3) := by decide +kernel
theorem dX10_works_105 : decode cX10_works 105 = .ok (.if_icmp .ne 35, 3) := by decide +kernel
theorem dX10_works_108 : decode cX10_works 108 = .ok (.aload_n 0, 1) := by decide +kernel
theorem dX10_works_109 : decode cX10_works 109 = .ok (.getfield 22, 3) := by decide +kernel
theorem dX10_works_112 : decode cX10_works 112 = .ok (.iload 6, 2) := by decide +kernel
theorem dX10_works_114 : decode cX10_works 114 = .ok (.iconst 1, 1) := by decide +kernel
theorem dX10_works_115 : decode cX10_works 115 = .ok (.isub, 1) := by decide +kernel
theorem dX10_works_116 : decode cX10_works 116 = .ok (.aload_n 0, 1) := by decide +kernel
theorem dX10_works_117 : decode cX10_works 117 = .ok (.getfield 22, 3) := by decide +kernel
theorem dX10_works_120 : decode cX10_works 120 = .ok (.iload 6, 2) := by decide +kernel
theorem dX10_works_122 : decode cX10_works 122 = .ok (.iconst 1, 1) := by decide +kernel
theorem dX10_works_123 : decode cX10_works 123 = .ok (.isub, 1) := by decide +kernel
theorem dX10_works_124 : decode cX10_works 124 = .ok (.iaload, 1) := by decide +kernel
theorem dX10_works_125 : decode cX10_works 125 = .ok (.ifCond .ne 7, 3) := by decide +kernel
theorem dX10_works_128 : decode cX10_works 128 = .ok (.iconst 1, 1) := by decide +kernel
theorem dX10_works_129 : decode cX10_works 129 = .ok (.goto 4, 3) := by decide +kernel
theorem dX10_works_132 : decode cX10_works 132 = .ok (.iconst 0, 1) := by decide +kernel
theorem dX10_works_133 : decode cX10_works 133 = .ok (.invokestatic 219, 3) := by decide +kernel
theorem dX10_works_136 : decode cX10_works 136 = .ok (.iastore, 1) := by decide +kernel
theorem dX10_works_137 : decode cX10_works 137 = .ok (.goto 40, 3) := by decide +kernel
theorem dX10_works_140 : decode cX10_works 140 = .ok (.iinc 6 (-1), 3) := by decide +kernel
theorem dX10_works_143 : decode cX10_works 143 = .ok (.aload_n 0, 1) := by decide +kernel
theorem dX10_works_144 : decode cX10_works 144 = .ok (.getfield 22, 3) := by decide +kernel
theorem dX10_works_147 : decode cX10_works 147 = .ok (.iload 6, 2) := by decide +kernel
theorem dX10_works_149 : decode cX10_works 149 = .ok (.iconst 1, 1) := by decide +kernel
theorem dX10_works_150 : decode cX10_works 150 = .ok (.isub, 1) := by decide +kernel
theorem dX10_works_151 : decode cX10_works 151 = .ok (.iload 8, 2) := by decide +kernel
theorem dX10_works_153 : decode cX10_works 153 = .ok (.sipush 20000, 3) := by decide +kernel
theorem dX10_works_156 : decode cX10_works 156 = .ok (.isub, 1) := by decide +kernel
theorem dX10_works_157 : decode cX10_works 157 = .ok (.aload_n 0, 1) := by decide +kernel
theorem dX10_works_158 : decode cX10_works 158 = .ok (.getfield 22, 3) := by decide +kernel
theorem dX10_works_161 : decode cX10_works 161 = .ok (.iload 6, 2) := by decide +kernel
theorem dX10_works_163 : decode cX10_works 163 = .ok (.iconst 1, 1) := by decide +kernel
theorem dX10_works_164 : decode cX10_works 164 = .ok (.isub, 1) := by decide +kernel
theorem dX10_works_165 : decode cX10_works 165 = .ok (.iaload, 1) := by decide +kernel
theorem dX10_works_166 : decode cX10_works 166 = .ok (.aload_n 0, 1) := by decide +kernel
theorem dX10_works_167 : decode cX10_works 167 = .ok (.getfield 22, 3) := by decide +kernel
theorem dX10_works_170 : decode cX10_works 170 = .ok (.iload 6, 2) := by decide +kernel
theorem dX10_works_172 : decode cX10_works 172 = .ok (.iaload, 1) := by decide +kernel
theorem dX10_works_173 : decode cX10_works 173 = .ok (.invokestatic 223, 3) := by decide +kernel
theorem dX10_works_176 : decode cX10_works 176 = .ok (.iastore, 1) := by decide +kernel
theorem dX10_works_177 : decode cX10_works 177 = .ok (.iinc 7 1, 3) := by decide +kernel
theorem dX10_works_180 : decode cX10_works 180 = .ok (.goto (-164), 3) := by decide +kernel
theorem dX10_works_183 : decode cX10_works 183 = .ok (.aload_n 0, 1) := by decide +kernel
theorem dX10_works_184 : decode cX10_works 184 = .ok (.getfield 22, 3) := by decide +kernel
theorem dX10_works_187 : decode cX10_works 187 = .ok (.iconst 0, 1) := by decide +kernel
theorem dX10_works_188 : decode cX10_works 188 = .ok (.iaload, 1) := by decide +kernel
theorem dX10_works_189 : decode cX10_works 189 = .ok (.ireturn, 1) := by decide +kernel
theorem dX10_isOpenLetter_0 : decode cX10_isOpenLetter 0 = .ok (.iload_n 0, 1) := by decide +kernel
theorem dX10_isOpenLetter_1 : decode cX10_isOpenLetter 1 = .ok (.ifCond .eq 26, 3) := by decide +kernel
theorem dX10_isOpenLetter_4 : decode cX10_isOpenLetter 4 = .ok (.iload_n 0, 1) := by decide +kernel
theorem dX10_isOpenLetter_5 : decode cX10_isOpenLetter 5 = .ok (.iconst 4, 1) := by decide +kernel
theorem dX10_isOpenLetter_6 : decode cX10_isOpenLetter 6 = .ok (.if_icmp .eq 21, 3) := by decide +kernel
theorem dX10_isOpenLetter_9 : decode cX10_isOpenLetter 9 = .ok (.iload_n 0, 1) := by decide +kernel
theorem dX10_isOpenLetter_10 : decode cX10_isOpenLetter 10 = .ok (.bipush 8, 2) := by decide +kernel
theorem dX10_isOpenLetter_12 : decode cX10_isOpenLetter 12 = .ok (.if_icmp .eq 15, 3) := by decide +kernel
theorem dX10_isOpenLetter_15 : decode cX10_isOpenLetter 15 = .ok (.iload_n 0, 1) := by decide +kernel
theorem dX10_isOpenLetter_16 : decode cX10_isOpenLetter 16 = .ok (.bipush 14, 2) := by decide +kernel
theorem dX10_isOpenLetter_18 : decode cX10_isOpenLetter 18 = .ok (.if_icmp .eq 9, 3) := by decide +kernel
theorem dX10_isOpenLetter_21 : decode cX10_isOpenLetter 21 = .ok (.iload_n 0, 1) := by decide +kernel
theorem dX10_isOpenLetter_22 : decode cX10_isOpenLetter 22 = .ok (.bipush 20, 2) := by decide +kernel
theorem dX10_isOpenLetter_24 : decode cX10_isOpenLetter 24 = .ok (.if_icmp .ne 7, 3) := by decide +kernel
theorem dX10_isOpenLetter_27 : decode cX10_isOpenLetter 27 = .ok (.iconst 1, 1) := by decide +kernel
theorem dX10_isOpenLetter_28 : decode cX10_isOpenLetter 28 = .ok (.goto 4, 3) := by decide +kernel
theorem dX10_isOpenLetter_31 : decode cX10_isOpenLetter 31 = .ok (.iconst 0, 1) := by decide +kernel
theorem dX10_isOpenLetter_32 : decode cX10_isOpenLetter 32 = .ok (.ireturn, 1) := by decide +kernel
theorem dX10_follows_0 : decode cX10_follows 0 = .ok (.aload_n 0, 1) := by decide +kernel
theorem dX10_follows_1 : decode cX10_follows 1 = .ok (.getfield 9, 3) := by decide +kernel
theorem dX10_follows_4 : decode cX10_follows 4 = .ok (.sipush 270, 3) := by decide +kernel
theorem dX10_follows_7 : decode cX10_follows 7 = .ok (.iaload, 1) := by decide +kernel
theorem dX10_follows_8 : decode cX10_follows 8 = .ok (.ifCond .le 20, 3) := by decide +kernel
theorem dX10_follows_11 : decode cX10_follows 11 = .ok (.aload_n 0, 1) := by decide +kernel
theorem dX10_follows_12 : decode cX10_follows 12 = .ok (.iconst 0, 1) := by decide +kernel
theorem dX10_follows_13 : decode cX10_follows 13 = .ok (.iload_n 1, 1) := by decide +kernel
theorem dX10_follows_14 : decode cX10_follows 14 = .ok (.iload_n 2, 1) := by decide +kernel
theorem dX10_follows_15 : decode cX10_follows 15 = .ok (.iload_n 3, 1) := by decide +kernel
theorem dX10_follows_16 : decode cX10_follows 16 = .ok (.invokevirtual 226, 3) := by decide +kernel
theorem dX10_follows_19 : decode cX10_follows 19 = .ok (.ifCond .eq 7, 3) := by decide +kernel
theorem dX10_follows_22 : decode cX10_follows 22 = .ok (.iconst 1, 1) := by decide +kernel
theorem dX10_follows_23 : decode cX10_follows 23 = .ok (.goto 4, 3) := by decide +kernel
theorem dX10_follows_26 : decode cX10_follows 26 = .ok (.iconst 0, 1) := by decide +kernel
theorem dX10_follows_27 : decode cX10_follows 27 = .ok (.ireturn, 1) := by decide +kernel
theorem dX10_follows_28 : decode cX10_follows 28 = .ok (.iload_n 3, 1) := by decide +kernel
theorem dX10_follows_29 : decode cX10_follows 29 = .ok (.ifCond .eq 14, 3) := by decide +kernel
theorem dX10_follows_32 : decode cX10_follows 32 = .ok (.iload_n 1, 1) := by decide +kernel
theorem dX10_follows_33 : decode cX10_follows 33 = .ok (.invokestatic 229, 3) := by decide +kernel
theorem dX10_follows_36 : decode cX10_follows 36 = .ok (.iload_n 2, 1) := by decide +kernel
theorem dX10_follows_37 : decode cX10_follows 37 = .ok (.invokestatic 229, 3) := by decide +kernel
theorem dX10_follows_40 : decode cX10_follows 40 = .ok (.if_icmp .eq 7, 3) := by decide +kernel
theorem dX10_follows_43 : decode cX10_follows 43 = .ok (.iconst 1, 1) := by decide +kernel
theorem dX10_follows_44 : decode cX10_follows 44 = .ok (.goto 4, 3) := by decide +kernel
theorem dX10_follows_47 : decode cX10_follows 47 = .ok (.iconst 0, 1) := by decide +kernel
theorem dX10_follows_48 : decode cX10_follows 48 = .ok (.ireturn, 1) := by decide +kernel
theorem dX10_likes_0 : decode cX10_likes 0 = .ok (.aload_n 0, 1) := by decide +kernel
theorem dX10_likes_1 : decode cX10_likes 1 = .ok (.getfield 9, 3) := by decide +kernel
theorem dX10_likes_4 : decode cX10_likes 4 = .ok (.sipush 321, 3) := by decide +kernel
theorem dX10_likes_7 : decode cX10_likes 7 = .ok (.iaload, 1) := by decide +kernel
theorem dX10_likes_8 : decode cX10_likes 8 = .ok (.ifCond .le 14, 3) := by decide +kernel
theorem dX10_likes_11 : decode cX10_likes 11 = .ok (.aload_n 0, 1) := by decide +kernel
theorem dX10_likes_12 : decode cX10_likes 12 = .ok (.iconst 1, 1) := by decide +kernel
theorem dX10_likes_13 : decode cX10_likes 13 = .ok (.iload_n 1, 1) := by decide +kernel
theorem dX10_likes_14 : decode cX10_likes 14 = .ok (.iload_n 2, 1) := by decide +kernel
theorem dX10_likes_15 : decode cX10_likes 15 = .ok (.iload_n 3, 1) := by decide +kernel
theorem dX10_likes_16 : decode cX10_likes 16 = .ok (.invokevirtual 226, 3) := by decide +kernel
theorem dX10_likes_19 : decode cX10_likes 19 = .ok (.goto 4, 3) := by decide +kernel
theorem dX10_likes_22 : decode cX10_likes 22 = .ok (.iconst 0, 1) := by decide +kernel
theorem dX10_likes_23 : decode cX10_likes 23 = .ok (.istore 4, 2) := by decide +kernel
theorem dX10_likes_25 : decode cX10_likes 25 = .ok (.iload 4, 2) := by decide +kernel
theorem dX10_likes_27 : decode cX10_likes 27 = .ok (.bipush (-99), 2) := by decide +kernel
theorem dX10_likes_29 : decode cX10_likes 29 = .ok (.if_icmp .ge 8, 3) := by decide +kernel
theorem dX10_likes_32 : decode cX10_likes 32 = .ok (.bipush (-99), 2) := by decide +kernel
theorem dX10_likes_34 : decode cX10_likes 34 = .ok (.goto 17, 3) := by decide +kernel
theorem dX10_likes_37 : decode cX10_likes 37 = .ok (.iload 4, 2) := by decide +kernel
theorem dX10_likes_39 : decode cX10_likes 39 = .ok (.bipush 99, 2) := by decide +kernel
theorem dX10_likes_41 : decode cX10_likes 41 = .ok (.if_icmp .le 8, 3) := by decide +kernel
theorem dX10_likes_44 : decode cX10_likes 44 = .ok (.bipush 99, 2) := by decide +kernel
theorem dX10_likes_46 : decode cX10_likes 46 = .ok (.goto 5, 3) := by decide +kernel
theorem dX10_likes_49 : decode cX10_likes 49 = .ok (.iload 4, 2) := by decide +kernel
theorem dX10_likes_51 : decode cX10_likes 51 = .ok (.ireturn, 1) := by decide +kernel
theorem dX10_law_0 : decode cX10_law 0 = .ok (.iload_n 1, 1) := by decide +kernel
theorem dX10_law_1 : decode cX10_law 1 = .ok (.i2l, 1) := by decide +kernel
theorem dX10_law_2 : decode cX10_law 2 = .ok (.lconst 0, 1) := by decide +kernel
theorem dX10_law_3 : decode cX10_law 3 = .ok (.lconst 1, 1) := by decide +kernel
theorem dX10_law_4 : decode cX10_law 4 = .ok (.invokestatic 48, 3) := by decide +kernel
theorem dX10_law_7 : decode cX10_law 7 = .ok (.ifCond .ne 10, 3) := by decide +kernel
theorem dX10_law_10 : decode cX10_law 10 = .ok (.aload_n 0, 1) := by decide +kernel
theorem dX10_law_11 : decode cX10_law 11 = .ok (.ldc 62, 2) := by decide +kernel
theorem dX10_law_13 : decode cX10_law 13 = .ok (.invokevirtual 63, 3) := by decide +kernel
theorem dX10_law_16 : decode cX10_law 16 = .ok (.ireturn, 1) := by decide +kernel
theorem dX10_law_17 : decode cX10_law 17 = .ok (.iload_n 1, 1) := by decide +kernel
theorem dX10_law_18 : decode cX10_law 18 = .ok (.ifCond .ne 17, 3) := by decide +kernel
theorem dX10_law_21 : decode cX10_law 21 = .ok (.aload_n 0, 1) := by decide +kernel
theorem dX10_law_22 : decode cX10_law 22 = .ok (.iload_n 2, 1) := by decide +kernel
theorem dX10_law_23 : decode cX10_law 23 = .ok (.iload_n 3, 1) := by decide +kernel
theorem dX10_law_24 : decode cX10_law 24 = .ok (.iload 4, 2) := by decide +kernel
theorem dX10_law_26 : decode cX10_law 26 = .ok (.invokevirtual 232, 3) := by decide +kernel
theorem dX10_law_29 : decode cX10_law 29 = .ok (.invokestatic 219, 3) := by decide +kernel
theorem dX10_law_32 : decode cX10_law 32 = .ok (.goto 11, 3) := by decide +kernel
theorem dX10_law_35 : decode cX10_law 35 = .ok (.aload_n 0, 1) := by decide +kernel
theorem dX10_law_36 : decode cX10_law 36 = .ok (.iload_n 2, 1) := by decide +kernel
theorem dX10_law_37 : decode cX10_law 37 = .ok (.iload_n 3, 1) := by decide +kernel
theorem dX10_law_38 : decode cX10_law 38 = .ok (.iload 4, 2) := by decide +kernel
theorem dX10_law_40 : decode cX10_law 40 = .ok (.invokevirtual 152, 3) := by decide +kernel
theorem dX10_law_43 : decode cX10_law 43 = .ok (.ireturn, 1) := by decide +kernel
theorem dX10_areMany_0 : decode cX10_areMany 0 = .ok (.aload_n 0, 1) := by decide +kernel
theorem dX10_areMany_1 : decode cX10_areMany 1 = .ok (.iconst 0, 1) := by decide +kernel
theorem dX10_areMany_2 : decode cX10_areMany 2 = .ok (.putfield 236, 3) := by decide +kernel
theorem dX10_areMany_5 : decode cX10_areMany 5 = .ok (.iconst 0, 1) := by decide +kernel
theorem dX10_areMany_6 : decode cX10_areMany 6 = .ok (.istore_n 1, 1) := by decide +kernel
theorem dX10_areMany_7 : decode cX10_areMany 7 = .ok (.iload_n 1, 1) := by decide +kernel
theorem dX10_areMany_8 : decode cX10_areMany 8 = .ok (.aload_n 0, 1) := by decide +kernel
theorem dX10_areMany_9 : decode cX10_areMany 9 = .ok (.getfield 9, 3) := by decide +kernel
theorem dX10_areMany_12 : decode cX10_areMany 12 = .ok (.iconst 1, 1) := by decide +kernel
theorem dX10_areMany_13 : decode cX10_areMany 13 = .ok (.iaload, 1) := by decide +kernel
theorem dX10_areMany_14 : decode cX10_areMany 14 = .ok (.if_icmp .ge 40, 3) := by decide +kernel
theorem dX10_areMany_17 : decode cX10_areMany 17 = .ok (.aload_n 0, 1) := by decide +kernel
theorem dX10_areMany_18 : decode cX10_areMany 18 = .ok (.iload_n 1, 1) := by decide +kernel
theorem dX10_areMany_19 : decode cX10_areMany 19 = .ok (.invokevirtual 107, 3) := by decide +kernel
theorem dX10_areMany_22 : decode cX10_areMany 22 = .ok (.ifCond .lt 6, 3) := by decide +kernel
theorem dX10_areMany_25 : decode cX10_areMany 25 = .ok (.goto 23, 3) := by decide +kernel
theorem dX10_areMany_28 : decode cX10_areMany 28 = .ok (.aload_n 0, 1) := by decide +kernel
theorem dX10_areMany_29 : decode cX10_areMany 29 = .ok (.getfield 25, 3) := by decide +kernel
theorem dX10_areMany_32 : decode cX10_areMany 32 = .ok (.aload_n 0, 1) := by decide +kernel
theorem dX10_areMany_33 : decode cX10_areMany 33 = .ok (.getfield 236, 3) := by decide +kernel
theorem dX10_areMany_36 : decode cX10_areMany 36 = .ok (.iload_n 1, 1) := by decide +kernel
theorem dX10_areMany_37 : decode cX10_areMany 37 = .ok (.iastore, 1) := by decide +kernel
theorem dX10_areMany_38 : decode cX10_areMany 38 = .ok (.aload_n 0, 1) := by decide +kernel
theorem dX10_areMany_39 : decode cX10_areMany 39 = .ok (.dup, 1) := by decide +kernel
theorem dX10_areMany_40 : decode cX10_areMany 40 = .ok (.getfield 236, 3) := by decide +kernel
theorem dX10_areMany_43 : decode cX10_areMany 43 = .ok (.iconst 1, 1) := by decide +kernel
theorem dX10_areMany_44 : decode cX10_areMany 44 = .ok (.iadd, 1) := by decide +kernel
theorem dX10_areMany_45 : decode cX10_areMany 45 = .ok (.putfield 236, 3) := by decide +kernel
theorem dX10_areMany_48 : decode cX10_areMany 48 = .ok (.iinc 1 1, 3) := by decide +kernel
theorem dX10_areMany_51 : decode cX10_areMany 51 = .ok (.goto (-44), 3) := by decide +kernel
theorem dX10_areMany_54 : decode cX10_areMany 54 = .ok (.aload_n 0, 1) := by decide +kernel
theorem dX10_areMany_55 : decode cX10_areMany 55 = .ok (.getfield 236, 3) := by decide +kernel
theorem dX10_areMany_58 : decode cX10_areMany 58 = .ok (.iconst 4, 1) := by decide +kernel
theorem dX10_areMany_59 : decode cX10_areMany 59 = .ok (.if_icmp .le 7, 3) := by decide +kernel
theorem dX10_areMany_62 : decode cX10_areMany 62 = .ok (.iconst 1, 1) := by decide +kernel
theorem dX10_areMany_63 : decode cX10_areMany 63 = .ok (.goto 4, 3) := by decide +kernel
theorem dX10_areMany_66 : decode cX10_areMany 66 = .ok (.iconst 0, 1) := by decide +kernel
theorem dX10_areMany_67 : decode cX10_areMany 67 = .ok (.ireturn, 1) := by decide +kernel
theorem dX10_letters_0 : decode cX10_letters 0 = .ok (.iconst 0, 1) := by decide +kernel
theorem dX10_letters_1 : decode cX10_letters 1 = .ok (.istore_n 1, 1) := by decide +kernel
theorem dX10_letters_2 : decode cX10_letters 2 = .ok (.iconst 0, 1) := by decide +kernel
theorem dX10_letters_3 : decode cX10_letters 3 = .ok (.istore_n 2, 1) := by decide +kernel
theorem dX10_letters_4 : decode cX10_letters 4 = .ok (.iload_n 2, 1) := by decide +kernel
theorem dX10_letters_5 : decode cX10_letters 5 = .ok (.aload_n 0, 1) := by decide +kernel
theorem dX10_letters_6 : decode cX10_letters 6 = .ok (.getfield 9, 3) := by decide +kernel
theorem dX10_letters_9 : decode cX10_letters 9 = .ok (.iconst 1, 1) := by decide +kernel
theorem dX10_letters_10 : decode cX10_letters 10 = .ok (.iaload, 1) := by decide +kernel
theorem dX10_letters_11 : decode cX10_letters 11 = .ok (.if_icmp .ge 21, 3) := by decide +kernel
theorem dX10_letters_14 : decode cX10_letters 14 = .ok (.iload_n 1, 1) := by decide +kernel
theorem dX10_letters_15 : decode cX10_letters 15 = .ok (.aload_n 0, 1) := by decide +kernel
theorem dX10_letters_16 : decode cX10_letters 16 = .ok (.aload_n 0, 1) := by decide +kernel
theorem dX10_letters_17 : decode cX10_letters 17 = .ok (.iload_n 2, 1) := by decide +kernel
theorem dX10_letters_18 : decode cX10_letters 18 = .ok (.invokevirtual 107, 3) := by decide +kernel
theorem dX10_letters_21 : decode cX10_letters 21 = .ok (.invokevirtual 56, 3) := by decide +kernel
theorem dX10_letters_24 : decode cX10_letters 24 = .ok (.ior, 1) := by decide +kernel
theorem dX10_letters_25 : decode cX10_letters 25 = .ok (.istore_n 1, 1) := by decide +kernel
theorem dX10_letters_26 : decode cX10_letters 26 = .ok (.iinc 2 1, 3) := by decide +kernel
theorem dX10_letters_29 : decode cX10_letters 29 = .ok (.goto (-25), 3) := by decide +kernel
theorem dX10_letters_32 : decode cX10_letters 32 = .ok (.iload_n 1, 1) := by decide +kernel
theorem dX10_letters_33 : decode cX10_letters 33 = .ok (.ireturn, 1) := by decide +kernel
theorem dX10_by_0 : decode cX10_by 0 = .ok (.iload_n 1, 1) := by decide +kernel
theorem dX10_by_1 : decode cX10_by 1 = .ok (.ifCond .ne 5, 3) := by decide +kernel
theorem dX10_by_4 : decode cX10_by 4 = .ok (.iconst 0, 1) := by decide +kernel
theorem dX10_by_5 : decode cX10_by 5 = .ok (.ireturn, 1) := by decide +kernel
theorem dX10_by_6 : decode cX10_by 6 = .ok (.iload_n 1, 1) := by decide +kernel
theorem dX10_by_7 : decode cX10_by 7 = .ok (.iconst 2, 1) := by decide +kernel
theorem dX10_by_8 : decode cX10_by 8 = .ok (.if_icmp .ne 12, 3) := by decide +kernel
theorem dX10_by_11 : decode cX10_by 11 = .ok (.aload_n 0, 1) := by decide +kernel
theorem dX10_by_12 : decode cX10_by 12 = .ok (.invokevirtual 239, 3) := by decide +kernel
theorem dX10_by_15 : decode cX10_by 15 = .ok (.invokestatic 145, 3) := by decide +kernel
theorem dX10_by_18 : decode cX10_by 18 = .ok (.ineg, 1) := by decide +kernel
theorem dX10_by_19 : decode cX10_by 19 = .ok (.ireturn, 1) := by decide +kernel
theorem dX10_by_20 : decode cX10_by 20 = .ok (.iconst 0, 1) := by decide +kernel
theorem dX10_by_21 : decode cX10_by 21 = .ok (.istore_n 2, 1) := by decide +kernel
theorem dX10_by_22 : decode cX10_by 22 = .ok (.iconst 0, 1) := by decide +kernel
theorem dX10_by_23 : decode cX10_by 23 = .ok (.istore_n 3, 1) := by decide +kernel
theorem dX10_by_24 : decode cX10_by 24 = .ok (.iload_n 3, 1) := by decide +kernel
theorem dX10_by_25 : decode cX10_by 25 = .ok (.aload_n 0, 1) := by decide +kernel
theorem dX10_by_26 : decode cX10_by 26 = .ok (.getfield 236, 3) := by decide +kernel
theorem dX10_by_29 : decode cX10_by 29 = .ok (.if_icmp .ge 33, 3) := by decide +kernel
theorem dX10_by_32 : decode cX10_by 32 = .ok (.iload_n 2, 1) := by decide +kernel
theorem dX10_by_33 : decode cX10_by 33 = .ok (.aload_n 0, 1) := by decide +kernel
theorem dX10_by_34 : decode cX10_by 34 = .ok (.aload_n 0, 1) := by decide +kernel
theorem dX10_by_35 : decode cX10_by 35 = .ok (.getfield 25, 3) := by decide +kernel
theorem dX10_by_38 : decode cX10_by 38 = .ok (.iload_n 3, 1) := by decide +kernel
theorem dX10_by_39 : decode cX10_by 39 = .ok (.iaload, 1) := by decide +kernel
theorem dX10_by_40 : decode cX10_by 40 = .ok (.aload_n 0, 1) := by decide +kernel
theorem dX10_by_41 : decode cX10_by 41 = .ok (.aload_n 0, 1) := by decide +kernel
theorem dX10_by_42 : decode cX10_by 42 = .ok (.getfield 25, 3) := by decide +kernel
theorem dX10_by_45 : decode cX10_by 45 = .ok (.iload_n 3, 1) := by decide +kernel
theorem dX10_by_46 : decode cX10_by 46 = .ok (.iaload, 1) := by decide +kernel
theorem dX10_by_47 : decode cX10_by 47 = .ok (.invokevirtual 107, 3) := by decide +kernel
theorem dX10_by_50 : decode cX10_by 50 = .ok (.iconst (-1), 1) := by decide +kernel
theorem dX10_by_51 : decode cX10_by 51 = .ok (.invokevirtual 156, 3) := by decide +kernel
theorem dX10_by_54 : decode cX10_by 54 = .ok (.iadd, 1) := by decide +kernel
theorem dX10_by_55 : decode cX10_by 55 = .ok (.istore_n 2, 1) := by decide +kernel
theorem dX10_by_56 : decode cX10_by 56 = .ok (.iinc 3 1, 3) := by decide +kernel
theorem dX10_by_59 : decode cX10_by 59 = .ok (.goto (-35), 3) := by decide +kernel
theorem dX10_by_62 : decode cX10_by 62 = .ok (.iload_n 2, 1) := by decide +kernel
theorem dX10_by_63 : decode cX10_by 63 = .ok (.ireturn, 1) := by decide +kernel
theorem dX10_givesFrom_0 : decode cX10_givesFrom 0 = .ok (.iload_n 1, 1) := by decide +kernel
theorem dX10_givesFrom_1 : decode cX10_givesFrom 1 = .ok (.aload_n 0, 1) := by decide +kernel
theorem dX10_givesFrom_2 : decode cX10_givesFrom 2 = .ok (.getfield 236, 3) := by decide +kernel
theorem dX10_givesFrom_5 : decode cX10_givesFrom 5 = .ok (.if_icmp .ne 76, 3) := by decide +kernel
theorem dX10_givesFrom_8 : decode cX10_givesFrom 8 = .ok (.aload_n 0, 1) := by decide +kernel
theorem dX10_givesFrom_9 : decode cX10_givesFrom 9 = .ok (.iload_n 2, 1) := by decide +kernel
theorem dX10_givesFrom_10 : decode cX10_givesFrom 10 = .ok (.invokevirtual 242, 3) := by decide +kernel
theorem dX10_givesFrom_13 : decode cX10_givesFrom 13 = .ok (.istore_n 3, 1) := by decide +kernel
theorem dX10_givesFrom_14 : decode cX10_givesFrom 14 = .ok (.aload_n 0, 1) := by decide +kernel
theorem dX10_givesFrom_15 : decode cX10_givesFrom 15 = .ok (.getfield 245, 3) := by decide +kernel
theorem dX10_givesFrom_18 : decode cX10_givesFrom 18 = .ok (.ifCond .eq 11, 3) := by decide +kernel
theorem dX10_givesFrom_21 : decode cX10_givesFrom 21 = .ok (.iload_n 3, 1) := by decide +kernel
theorem dX10_givesFrom_22 : decode cX10_givesFrom 22 = .ok (.aload_n 0, 1) := by decide +kernel
theorem dX10_givesFrom_23 : decode cX10_givesFrom 23 = .ok (.getfield 248, 3) := by decide +kernel
theorem dX10_givesFrom_26 : decode cX10_givesFrom 26 = .ok (.if_icmp .le 44, 3) := by decide +kernel
theorem dX10_givesFrom_29 : decode cX10_givesFrom 29 = .ok (.aload_n 0, 1) := by decide +kernel
theorem dX10_givesFrom_30 : decode cX10_givesFrom 30 = .ok (.iload_n 3, 1) := by decide +kernel
theorem dX10_givesFrom_31 : decode cX10_givesFrom 31 = .ok (.putfield 248, 3) := by decide +kernel
theorem dX10_givesFrom_34 : decode cX10_givesFrom 34 = .ok (.iconst 0, 1) := by decide +kernel
theorem dX10_givesFrom_35 : decode cX10_givesFrom 35 = .ok (.istore 4, 2) := by decide +kernel
theorem dX10_givesFrom_37 : decode cX10_givesFrom 37 = .ok (.iload 4, 2) := by decide +kernel
theorem dX10_givesFrom_39 : decode cX10_givesFrom 39 = .ok (.aload_n 0, 1) := by decide +kernel
theorem dX10_givesFrom_40 : decode cX10_givesFrom 40 = .ok (.getfield 236, 3) := by decide +kernel
theorem dX10_givesFrom_43 : decode cX10_givesFrom 43 = .ok (.if_icmp .ge 27, 3) := by decide +kernel
theorem dX10_givesFrom_46 : decode cX10_givesFrom 46 = .ok (.aload_n 0, 1) := by decide +kernel
theorem dX10_givesFrom_47 : decode cX10_givesFrom 47 = .ok (.getfield 28, 3) := by decide +kernel
theorem dX10_givesFrom_50 : decode cX10_givesFrom 50 = .ok (.iload 4, 2) := by decide +kernel
theorem dX10_givesFrom_52 : decode cX10_givesFrom 52 = .ok (.aload_n 0, 1) := by decide +kernel
theorem dX10_givesFrom_53 : decode cX10_givesFrom 53 = .ok (.aload_n 0, 1) := by decide +kernel
theorem dX10_givesFrom_54 : decode cX10_givesFrom 54 = .ok (.getfield 25, 3) := by decide +kernel
theorem dX10_givesFrom_57 : decode cX10_givesFrom 57 = .ok (.iload 4, 2) := by decide +kernel
theorem dX10_givesFrom_59 : decode cX10_givesFrom 59 = .ok (.iaload, 1) := by decide +kernel
theorem dX10_givesFrom_60 : decode cX10_givesFrom 60 = .ok (.invokevirtual 107, 3) := by decide +kernel
theorem dX10_givesFrom_63 : decode cX10_givesFrom 63 = .ok (.iastore, 1) := by decide +kernel
theorem dX10_givesFrom_64 : decode cX10_givesFrom 64 = .ok (.iinc 4 1, 3) := by decide +kernel
theorem dX10_givesFrom_67 : decode cX10_givesFrom 67 = .ok (.goto (-30), 3) := by decide +kernel
theorem dX10_givesFrom_70 : decode cX10_givesFrom 70 = .ok (.aload_n 0, 1) := by decide +kernel
theorem dX10_givesFrom_71 : decode cX10_givesFrom 71 = .ok (.dup, 1) := by decide +kernel
theorem dX10_givesFrom_72 : decode cX10_givesFrom 72 = .ok (.getfield 245, 3) := by decide +kernel
theorem dX10_givesFrom_75 : decode cX10_givesFrom 75 = .ok (.iconst 1, 1) := by decide +kernel
theorem dX10_givesFrom_76 : decode cX10_givesFrom 76 = .ok (.iadd, 1) := by decide +kernel
theorem dX10_givesFrom_77 : decode cX10_givesFrom 77 = .ok (.putfield 245, 3) := by decide +kernel
theorem dX10_givesFrom_80 : decode cX10_givesFrom 80 = .ok (.return_, 1) := by decide +kernel
theorem dX10_givesFrom_81 : decode cX10_givesFrom 81 = .ok (.aload_n 0, 1) := by decide +kernel
theorem dX10_givesFrom_82 : decode cX10_givesFrom 82 = .ok (.getfield 25, 3) := by decide +kernel
theorem dX10_givesFrom_85 : decode cX10_givesFrom 85 = .ok (.iload_n 1, 1) := by decide +kernel
theorem dX10_givesFrom_86 : decode cX10_givesFrom 86 = .ok (.iaload, 1) := by decide +kernel
theorem dX10_givesFrom_87 : decode cX10_givesFrom 87 = .ok (.istore_n 3, 1) := by decide +kernel
theorem dX10_givesFrom_88 : decode cX10_givesFrom 88 = .ok (.iconst 0, 1) := by decide +kernel
theorem dX10_givesFrom_89 : decode cX10_givesFrom 89 = .ok (.istore 4, 2) := by decide +kernel
theorem dX10_givesFrom_91 : decode cX10_givesFrom 91 = .ok (.iload 4, 2) := by decide +kernel
theorem dX10_givesFrom_93 : decode cX10_givesFrom 93 = .ok (.aload_n 0, 1) := by decide +kernel
theorem dX10_givesFrom_94 : decode cX10_givesFrom 94 = .ok (.getfield 9, 3) := by decide +kernel
theorem dX10_givesFrom_97 : decode cX10_givesFrom 97 = .ok (.iconst 0, 1) := by decide +kernel
theorem dX10_givesFrom_98 : decode cX10_givesFrom 98 = .ok (.iaload, 1) := by decide +kernel
theorem dX10_givesFrom_99 : decode cX10_givesFrom 99 = .ok (.if_icmp .ge 52, 3) := by decide +kernel
theorem dX10_givesFrom_102 : decode cX10_givesFrom 102 = .ok (.aload_n 0, 1) := by decide +kernel
theorem dX10_givesFrom_103 : decode cX10_givesFrom 103 = .ok (.iload 4, 2) := by decide +kernel
theorem dX10_givesFrom_105 : decode cX10_givesFrom 105 = .ok (.invokevirtual 159, 3) := by decide +kernel
theorem dX10_givesFrom_108 : decode cX10_givesFrom 108 = .ok (.ifCond .ne 37, 3) := by decide +kernel
theorem dX10_givesFrom_111 : decode cX10_givesFrom 111 = .ok (.aload_n 0, 1) := by decide +kernel
theorem dX10_givesFrom_112 : decode cX10_givesFrom 112 = .ok (.iload_n 3, 1) := by decide +kernel
theorem dX10_givesFrom_113 : decode cX10_givesFrom 113 = .ok (.iload 4, 2) := by decide +kernel
theorem dX10_givesFrom_115 : decode cX10_givesFrom 115 = .ok (.invokevirtual 118, 3) := by decide +kernel
theorem dX10_givesFrom_118 : decode cX10_givesFrom 118 = .ok (.ifCond .eq 6, 3) := by decide +kernel
theorem dX10_givesFrom_121 : decode cX10_givesFrom 121 = .ok (.goto 24, 3) := by decide +kernel
theorem dX10_givesFrom_124 : decode cX10_givesFrom 124 = .ok (.aload_n 0, 1) := by decide +kernel
theorem dX10_givesFrom_125 : decode cX10_givesFrom 125 = .ok (.iload_n 3, 1) := by decide +kernel
theorem dX10_givesFrom_126 : decode cX10_givesFrom 126 = .ok (.iload 4, 2) := by decide +kernel
theorem dX10_givesFrom_128 : decode cX10_givesFrom 128 = .ok (.invokevirtual 251, 3) := by decide +kernel
theorem dX10_givesFrom_131 : decode cX10_givesFrom 131 = .ok (.aload_n 0, 1) := by decide +kernel
theorem dX10_givesFrom_132 : decode cX10_givesFrom 132 = .ok (.iload_n 1, 1) := by decide +kernel
theorem dX10_givesFrom_133 : decode cX10_givesFrom 133 = .ok (.iconst 1, 1) := by decide +kernel
theorem dX10_givesFrom_134 : decode cX10_givesFrom 134 = .ok (.iadd, 1) := by decide +kernel
theorem dX10_givesFrom_135 : decode cX10_givesFrom 135 = .ok (.iload_n 2, 1) := by decide +kernel
theorem dX10_givesFrom_136 : decode cX10_givesFrom 136 = .ok (.invokevirtual 254, 3) := by decide +kernel
theorem dX10_givesFrom_139 : decode cX10_givesFrom 139 = .ok (.aload_n 0, 1) := by decide +kernel
theorem dX10_givesFrom_140 : decode cX10_givesFrom 140 = .ok (.iload_n 3, 1) := by decide +kernel
theorem dX10_givesFrom_141 : decode cX10_givesFrom 141 = .ok (.iconst (-1), 1) := by decide +kernel
theorem dX10_givesFrom_142 : decode cX10_givesFrom 142 = .ok (.invokevirtual 251, 3) := by decide +kernel
theorem dX10_givesFrom_145 : decode cX10_givesFrom 145 = .ok (.iinc 4 1, 3) := by decide +kernel
theorem dX10_givesFrom_148 : decode cX10_givesFrom 148 = .ok (.goto (-57), 3) := by decide +kernel
theorem dX10_givesFrom_151 : decode cX10_givesFrom 151 = .ok (.return_, 1) := by decide +kernel
theorem dX10_findGivings_0 : decode cX10_findGivings 0 = .ok (.aload_n 0, 1) := by decide +kernel
theorem dX10_findGivings_1 : decode cX10_findGivings 1 = .ok (.iconst 0, 1) := by decide +kernel
theorem dX10_findGivings_2 : decode cX10_findGivings 2 = .ok (.putfield 245, 3) := by decide +kernel
theorem dX10_findGivings_5 : decode cX10_findGivings 5 = .ok (.aload_n 0, 1) := by decide +kernel
theorem dX10_findGivings_6 : decode cX10_findGivings 6 = .ok (.iconst 0, 1) := by decide +kernel
theorem dX10_findGivings_7 : decode cX10_findGivings 7 = .ok (.iload_n 1, 1) := by decide +kernel
theorem dX10_findGivings_8 : decode cX10_findGivings 8 = .ok (.invokevirtual 254, 3) := by decide +kernel
theorem dX10_findGivings_11 : decode cX10_findGivings 11 = .ok (.return_, 1) := by decide +kernel
theorem dX10_nameThen_0 : decode cX10_nameThen 0 = .ok (.iconst 0, 1) := by decide +kernel
theorem dX10_nameThen_1 : decode cX10_nameThen 1 = .ok (.istore_n 2, 1) := by decide +kernel
theorem dX10_nameThen_2 : decode cX10_nameThen 2 = .ok (.iload_n 2, 1) := by decide +kernel
theorem dX10_nameThen_3 : decode cX10_nameThen 3 = .ok (.aload_n 0, 1) := by decide +kernel
theorem dX10_nameThen_4 : decode cX10_nameThen 4 = .ok (.getfield 236, 3) := by decide +kernel
theorem dX10_nameThen_7 : decode cX10_nameThen 7 = .ok (.if_icmp .ge 26, 3) := by decide +kernel
theorem dX10_nameThen_10 : decode cX10_nameThen 10 = .ok (.aload_n 0, 1) := by decide +kernel
theorem dX10_nameThen_11 : decode cX10_nameThen 11 = .ok (.getfield 25, 3) := by decide +kernel
theorem dX10_nameThen_14 : decode cX10_nameThen 14 = .ok (.iload_n 2, 1) := by decide +kernel
theorem dX10_nameThen_15 : decode cX10_nameThen 15 = .ok (.iaload, 1) := by decide +kernel
theorem dX10_nameThen_16 : decode cX10_nameThen 16 = .ok (.iload_n 1, 1) := by decide +kernel
theorem dX10_nameThen_17 : decode cX10_nameThen 17 = .ok (.if_icmp .ne 10, 3) := by decide +kernel
theorem dX10_nameThen_20 : decode cX10_nameThen 20 = .ok (.aload_n 0, 1) := by decide +kernel
theorem dX10_nameThen_21 : decode cX10_nameThen 21 = .ok (.getfield 28, 3) := by decide +kernel
theorem dX10_nameThen_24 : decode cX10_nameThen 24 = .ok (.iload_n 2, 1) := by decide +kernel
theorem dX10_nameThen_25 : decode cX10_nameThen 25 = .ok (.iaload, 1) := by decide +kernel
theorem dX10_nameThen_26 : decode cX10_nameThen 26 = .ok (.ireturn, 1) := by decide +kernel
theorem dX10_nameThen_27 : decode cX10_nameThen 27 = .ok (.iinc 2 1, 3) := by decide +kernel
theorem dX10_nameThen_30 : decode cX10_nameThen 30 = .ok (.goto (-28), 3) := by decide +kernel
theorem dX10_nameThen_33 : decode cX10_nameThen 33 = .ok (.aload_n 0, 1) := by decide +kernel
theorem dX10_nameThen_34 : decode cX10_nameThen 34 = .ok (.iload_n 1, 1) := by decide +kernel
theorem dX10_nameThen_35 : decode cX10_nameThen 35 = .ok (.invokevirtual 107, 3) := by decide +kernel
theorem dX10_nameThen_38 : decode cX10_nameThen 38 = .ok (.ireturn, 1) := by decide +kernel
theorem dX10_asked_0 : decode cX10_asked 0 = .ok (.aload_n 0, 1) := by decide +kernel
theorem dX10_asked_1 : decode cX10_asked 1 = .ok (.invokevirtual 257, 3) := by decide +kernel
theorem dX10_asked_4 : decode cX10_asked 4 = .ok (.ifCond .eq 11, 3) := by decide +kernel
theorem dX10_asked_7 : decode cX10_asked 7 = .ok (.aload_n 0, 1) := by decide +kernel
theorem dX10_asked_8 : decode cX10_asked 8 = .ok (.ldc_w 260, 3) := by decide +kernel
theorem dX10_asked_11 : decode cX10_asked 11 = .ok (.invokevirtual 63, 3) := by decide +kernel
theorem dX10_asked_14 : decode cX10_asked 14 = .ok (.ireturn, 1) := by decide +kernel
theorem dX10_asked_15 : decode cX10_asked 15 = .ok (.aload_n 0, 1) := by decide +kernel
theorem dX10_asked_16 : decode cX10_asked 16 = .ok (.iload_n 2, 1) := by decide +kernel
theorem dX10_asked_17 : decode cX10_asked 17 = .ok (.invokevirtual 261, 3) := by decide +kernel
theorem dX10_asked_20 : decode cX10_asked 20 = .ok (.aload_n 0, 1) := by decide +kernel
theorem dX10_asked_21 : decode cX10_asked 21 = .ok (.getfield 245, 3) := by decide +kernel
theorem dX10_asked_24 : decode cX10_asked 24 = .ok (.ifCond .ne 10, 3) := by decide +kernel
theorem dX10_asked_27 : decode cX10_asked 27 = .ok (.aload_n 0, 1) := by decide +kernel
theorem dX10_asked_28 : decode cX10_asked 28 = .ok (.ldc 138, 2) := by decide +kernel
theorem dX10_asked_30 : decode cX10_asked 30 = .ok (.invokevirtual 63, 3) := by decide +kernel
theorem dX10_asked_33 : decode cX10_asked 33 = .ok (.ireturn, 1) := by decide +kernel
theorem dX10_asked_34 : decode cX10_asked 34 = .ok (.iload_n 1, 1) := by decide +kernel
theorem dX10_asked_35 : decode cX10_asked 35 = .ok (.ifCond .lt 11, 3) := by decide +kernel
theorem dX10_asked_38 : decode cX10_asked 38 = .ok (.aload_n 0, 1) := by decide +kernel
theorem dX10_asked_39 : decode cX10_asked 39 = .ok (.iload_n 1, 1) := by decide +kernel
theorem dX10_asked_40 : decode cX10_asked 40 = .ok (.invokevirtual 264, 3) := by decide +kernel
theorem dX10_asked_43 : decode cX10_asked 43 = .ok (.goto 20, 3) := by decide +kernel
theorem dX10_asked_46 : decode cX10_asked 46 = .ok (.iload_n 2, 1) := by decide +kernel
theorem dX10_asked_47 : decode cX10_asked 47 = .ok (.iconst 1, 1) := by decide +kernel
theorem dX10_asked_48 : decode cX10_asked 48 = .ok (.if_icmp .ne 10, 3) := by decide +kernel
theorem dX10_asked_51 : decode cX10_asked 51 = .ok (.aload_n 0, 1) := by decide +kernel
theorem dX10_asked_52 : decode cX10_asked 52 = .ok (.getfield 248, 3) := by decide +kernel
theorem dX10_asked_55 : decode cX10_asked 55 = .ok (.goto 8, 3) := by decide +kernel
theorem dX10_asked_58 : decode cX10_asked 58 = .ok (.aload_n 0, 1) := by decide +kernel
theorem dX10_asked_59 : decode cX10_asked 59 = .ok (.getfield 248, 3) := by decide +kernel
theorem dX10_asked_62 : decode cX10_asked 62 = .ok (.ineg, 1) := by decide +kernel
theorem dX10_asked_63 : decode cX10_asked 63 = .ok (.ireturn, 1) := by decide +kernel
theorem dX10_first_0 : decode cX10_first 0 = .ok (.aload_n 0, 1) := by decide +kernel
theorem dX10_first_1 : decode cX10_first 1 = .ok (.iload_n 1, 1) := by decide +kernel
theorem dX10_first_2 : decode cX10_first 2 = .ok (.invokevirtual 113, 3) := by decide +kernel
theorem dX10_first_5 : decode cX10_first 5 = .ok (.ifCond .eq 12, 3) := by decide +kernel
theorem dX10_first_8 : decode cX10_first 8 = .ok (.aload_n 0, 1) := by decide +kernel
theorem dX10_first_9 : decode cX10_first 9 = .ok (.iload_n 1, 1) := by decide +kernel
theorem dX10_first_10 : decode cX10_first 10 = .ok (.iconst 0, 1) := by decide +kernel
theorem dX10_first_11 : decode cX10_first 11 = .ok (.invokevirtual 267, 3) := by decide +kernel
theorem dX10_first_14 : decode cX10_first 14 = .ok (.goto 9, 3) := by decide +kernel
theorem dX10_first_17 : decode cX10_first 17 = .ok (.aload_n 0, 1) := by decide +kernel
theorem dX10_first_18 : decode cX10_first 18 = .ok (.ldc 62, 2) := by decide +kernel
theorem dX10_first_20 : decode cX10_first 20 = .ok (.invokevirtual 63, 3) := by decide +kernel
theorem dX10_first_23 : decode cX10_first 23 = .ok (.ireturn, 1) := by decide +kernel
theorem dX10_all_0 : decode cX10_all 0 = .ok (.aload_n 0, 1) := by decide +kernel
theorem dX10_all_1 : decode cX10_all 1 = .ok (.invokevirtual 257, 3) := by decide +kernel
theorem dX10_all_4 : decode cX10_all 4 = .ok (.ifCond .eq 11, 3) := by decide +kernel
theorem dX10_all_7 : decode cX10_all 7 = .ok (.aload_n 0, 1) := by decide +kernel
theorem dX10_all_8 : decode cX10_all 8 = .ok (.ldc_w 260, 3) := by decide +kernel
theorem dX10_all_11 : decode cX10_all 11 = .ok (.invokevirtual 63, 3) := by decide +kernel
theorem dX10_all_14 : decode cX10_all 14 = .ok (.ireturn, 1) := by decide +kernel
theorem dX10_all_15 : decode cX10_all 15 = .ok (.aload_n 0, 1) := by decide +kernel
theorem dX10_all_16 : decode cX10_all 16 = .ok (.iconst 0, 1) := by decide +kernel
theorem dX10_all_17 : decode cX10_all 17 = .ok (.invokevirtual 261, 3) := by decide +kernel
theorem dX10_all_20 : decode cX10_all 20 = .ok (.aload_n 0, 1) := by decide +kernel
theorem dX10_all_21 : decode cX10_all 21 = .ok (.getfield 245, 3) := by decide +kernel
theorem dX10_all_24 : decode cX10_all 24 = .ok (.ireturn, 1) := by decide +kernel
theorem dX10_best_0 : decode cX10_best 0 = .ok (.iload_n 1, 1) := by decide +kernel
theorem dX10_best_1 : decode cX10_best 1 = .ok (.iconst (-1), 1) := by decide +kernel
theorem dX10_best_2 : decode cX10_best 2 = .ok (.if_icmp .eq 11, 3) := by decide +kernel
theorem dX10_best_5 : decode cX10_best 5 = .ok (.aload_n 0, 1) := by decide +kernel
theorem dX10_best_6 : decode cX10_best 6 = .ok (.iload_n 1, 1) := by decide +kernel
theorem dX10_best_7 : decode cX10_best 7 = .ok (.invokevirtual 113, 3) := by decide +kernel
theorem dX10_best_10 : decode cX10_best 10 = .ok (.ifCond .eq 12, 3) := by decide +kernel
theorem dX10_best_13 : decode cX10_best 13 = .ok (.aload_n 0, 1) := by decide +kernel
theorem dX10_best_14 : decode cX10_best 14 = .ok (.iload_n 1, 1) := by decide +kernel
theorem dX10_best_15 : decode cX10_best 15 = .ok (.iconst 1, 1) := by decide +kernel
theorem dX10_best_16 : decode cX10_best 16 = .ok (.invokevirtual 267, 3) := by decide +kernel
theorem dX10_best_19 : decode cX10_best 19 = .ok (.goto 9, 3) := by decide +kernel
theorem dX10_best_22 : decode cX10_best 22 = .ok (.aload_n 0, 1) := by decide +kernel
theorem dX10_best_23 : decode cX10_best 23 = .ok (.ldc 62, 2) := by decide +kernel
theorem dX10_best_25 : decode cX10_best 25 = .ok (.invokevirtual 63, 3) := by decide +kernel
theorem dX10_best_28 : decode cX10_best 28 = .ok (.ireturn, 1) := by decide +kernel
theorem dX10_fewest_0 : decode cX10_fewest 0 = .ok (.iload_n 1, 1) := by decide +kernel
theorem dX10_fewest_1 : decode cX10_fewest 1 = .ok (.iconst (-1), 1) := by decide +kernel
theorem dX10_fewest_2 : decode cX10_fewest 2 = .ok (.if_icmp .eq 11, 3) := by decide +kernel
theorem dX10_fewest_5 : decode cX10_fewest 5 = .ok (.aload_n 0, 1) := by decide +kernel
theorem dX10_fewest_6 : decode cX10_fewest 6 = .ok (.iload_n 1, 1) := by decide +kernel
theorem dX10_fewest_7 : decode cX10_fewest 7 = .ok (.invokevirtual 113, 3) := by decide +kernel
theorem dX10_fewest_10 : decode cX10_fewest 10 = .ok (.ifCond .eq 12, 3) := by decide +kernel
theorem dX10_fewest_13 : decode cX10_fewest 13 = .ok (.aload_n 0, 1) := by decide +kernel
theorem dX10_fewest_14 : decode cX10_fewest 14 = .ok (.iload_n 1, 1) := by decide +kernel
theorem dX10_fewest_15 : decode cX10_fewest 15 = .ok (.iconst 2, 1) := by decide +kernel
theorem dX10_fewest_16 : decode cX10_fewest 16 = .ok (.invokevirtual 267, 3) := by decide +kernel
theorem dX10_fewest_19 : decode cX10_fewest 19 = .ok (.goto 9, 3) := by decide +kernel
theorem dX10_fewest_22 : decode cX10_fewest 22 = .ok (.aload_n 0, 1) := by decide +kernel
theorem dX10_fewest_23 : decode cX10_fewest 23 = .ok (.ldc 62, 2) := by decide +kernel
theorem dX10_fewest_25 : decode cX10_fewest 25 = .ok (.invokevirtual 63, 3) := by decide +kernel
theorem dX10_fewest_28 : decode cX10_fewest 28 = .ok (.ireturn, 1) := by decide +kernel
theorem dX10_give_0 : decode cX10_give 0 = .ok (.iload_n 1, 1) := by decide +kernel
theorem dX10_give_1 : decode cX10_give 1 = .ok (.i2l, 1) := by decide +kernel
theorem dX10_give_2 : decode cX10_give 2 = .ok (.lconst 0, 1) := by decide +kernel
theorem dX10_give_3 : decode cX10_give 3 = .ok (.ldc2_w 270, 3) := by decide +kernel
theorem dX10_give_6 : decode cX10_give 6 = .ok (.invokestatic 48, 3) := by decide +kernel
theorem dX10_give_9 : decode cX10_give 9 = .ok (.ifCond .ne 10, 3) := by decide +kernel
theorem dX10_give_12 : decode cX10_give 12 = .ok (.aload_n 0, 1) := by decide +kernel
theorem dX10_give_13 : decode cX10_give 13 = .ok (.ldc 62, 2) := by decide +kernel
theorem dX10_give_15 : decode cX10_give 15 = .ok (.invokevirtual 63, 3) := by decide +kernel
theorem dX10_give_18 : decode cX10_give 18 = .ok (.ireturn, 1) := by decide +kernel
theorem dX10_give_19 : decode cX10_give 19 = .ok (.aload_n 0, 1) := by decide +kernel
theorem dX10_give_20 : decode cX10_give 20 = .ok (.invokevirtual 257, 3) := by decide +kernel
theorem dX10_give_23 : decode cX10_give 23 = .ok (.ifCond .eq 11, 3) := by decide +kernel
theorem dX10_give_26 : decode cX10_give 26 = .ok (.aload_n 0, 1) := by decide +kernel
theorem dX10_give_27 : decode cX10_give 27 = .ok (.ldc_w 260, 3) := by decide +kernel
theorem dX10_give_30 : decode cX10_give 30 = .ok (.invokevirtual 63, 3) := by decide +kernel
theorem dX10_give_33 : decode cX10_give 33 = .ok (.ireturn, 1) := by decide +kernel
theorem dX10_give_34 : decode cX10_give 34 = .ok (.aload_n 0, 1) := by decide +kernel
theorem dX10_give_35 : decode cX10_give 35 = .ok (.iload_n 1, 1) := by decide +kernel
theorem dX10_give_36 : decode cX10_give 36 = .ok (.invokevirtual 261, 3) := by decide +kernel
theorem dX10_give_39 : decode cX10_give 39 = .ok (.aload_n 0, 1) := by decide +kernel
theorem dX10_give_40 : decode cX10_give 40 = .ok (.getfield 245, 3) := by decide +kernel
theorem dX10_give_43 : decode cX10_give 43 = .ok (.ifCond .ne 10, 3) := by decide +kernel
theorem dX10_give_46 : decode cX10_give 46 = .ok (.aload_n 0, 1) := by decide +kernel
theorem dX10_give_47 : decode cX10_give 47 = .ok (.ldc 138, 2) := by decide +kernel
theorem dX10_give_49 : decode cX10_give 49 = .ok (.invokevirtual 63, 3) := by decide +kernel
theorem dX10_give_52 : decode cX10_give 52 = .ok (.ireturn, 1) := by decide +kernel
theorem dX10_give_53 : decode cX10_give 53 = .ok (.iconst 0, 1) := by decide +kernel
theorem dX10_give_54 : decode cX10_give 54 = .ok (.istore_n 2, 1) := by decide +kernel
theorem dX10_give_55 : decode cX10_give 55 = .ok (.iload_n 2, 1) := by decide +kernel
theorem dX10_give_56 : decode cX10_give 56 = .ok (.aload_n 0, 1) := by decide +kernel
theorem dX10_give_57 : decode cX10_give 57 = .ok (.getfield 236, 3) := by decide +kernel
theorem dX10_give_60 : decode cX10_give 60 = .ok (.if_icmp .ge 25, 3) := by decide +kernel
theorem dX10_give_63 : decode cX10_give 63 = .ok (.aload_n 0, 1) := by decide +kernel
theorem dX10_give_64 : decode cX10_give 64 = .ok (.aload_n 0, 1) := by decide +kernel
theorem dX10_give_65 : decode cX10_give 65 = .ok (.getfield 25, 3) := by decide +kernel
theorem dX10_give_68 : decode cX10_give 68 = .ok (.iload_n 2, 1) := by decide +kernel
theorem dX10_give_69 : decode cX10_give 69 = .ok (.iaload, 1) := by decide +kernel
theorem dX10_give_70 : decode cX10_give 70 = .ok (.aload_n 0, 1) := by decide +kernel
theorem dX10_give_71 : decode cX10_give 71 = .ok (.getfield 28, 3) := by decide +kernel
theorem dX10_give_74 : decode cX10_give 74 = .ok (.iload_n 2, 1) := by decide +kernel
theorem dX10_give_75 : decode cX10_give 75 = .ok (.iaload, 1) := by decide +kernel
theorem dX10_give_76 : decode cX10_give 76 = .ok (.invokevirtual 251, 3) := by decide +kernel
theorem dX10_give_79 : decode cX10_give 79 = .ok (.iinc 2 1, 3) := by decide +kernel
theorem dX10_give_82 : decode cX10_give 82 = .ok (.goto (-27), 3) := by decide +kernel
theorem dX10_give_85 : decode cX10_give 85 = .ok (.aload_n 0, 1) := by decide +kernel
theorem dX10_give_86 : decode cX10_give 86 = .ok (.getfield 236, 3) := by decide +kernel
theorem dX10_give_89 : decode cX10_give 89 = .ok (.ireturn, 1) := by decide +kernel
theorem dX10_canChange_0 : decode cX10_canChange 0 = .ok (.iload_n 1, 1) := by decide +kernel
theorem dX10_canChange_1 : decode cX10_canChange 1 = .ok (.ifCond .ne 8, 3) := by decide +kernel
theorem dX10_canChange_4 : decode cX10_canChange 4 = .ok (.aload_n 0, 1) := by decide +kernel
theorem dX10_canChange_5 : decode cX10_canChange 5 = .ok (.invokevirtual 162, 3) := by decide +kernel
theorem dX10_canChange_8 : decode cX10_canChange 8 = .ok (.ireturn, 1) := by decide +kernel
theorem dX10_canChange_9 : decode cX10_canChange 9 = .ok (.iconst 0, 1) := by decide +kernel
theorem dX10_canChange_10 : decode cX10_canChange 10 = .ok (.istore_n 2, 1) := by decide +kernel
theorem dX10_canChange_11 : decode cX10_canChange 11 = .ok (.iload_n 1, 1) := by decide +kernel
theorem dX10_canChange_12 : decode cX10_canChange 12 = .ok (.iload_n 2, 1) := by decide +kernel
theorem dX10_canChange_13 : decode cX10_canChange 13 = .ok (.invokestatic 103, 3) := by decide +kernel
theorem dX10_canChange_16 : decode cX10_canChange 16 = .ok (.ifCond .ne 9, 3) := by decide +kernel
theorem dX10_canChange_19 : decode cX10_canChange 19 = .ok (.iinc 2 1, 3) := by decide +kernel
theorem dX10_canChange_22 : decode cX10_canChange 22 = .ok (.goto (-11), 3) := by decide +kernel
theorem dX10_canChange_25 : decode cX10_canChange 25 = .ok (.aload_n 0, 1) := by decide +kernel
theorem dX10_canChange_26 : decode cX10_canChange 26 = .ok (.iload_n 2, 1) := by decide +kernel
theorem dX10_canChange_27 : decode cX10_canChange 27 = .ok (.invokevirtual 107, 3) := by decide +kernel
theorem dX10_canChange_30 : decode cX10_canChange 30 = .ok (.istore_n 3, 1) := by decide +kernel
theorem dX10_canChange_31 : decode cX10_canChange 31 = .ok (.iconst 0, 1) := by decide +kernel
theorem dX10_canChange_32 : decode cX10_canChange 32 = .ok (.istore 4, 2) := by decide +kernel
theorem dX10_canChange_34 : decode cX10_canChange 34 = .ok (.iconst 0, 1) := by decide +kernel
theorem dX10_canChange_35 : decode cX10_canChange 35 = .ok (.istore 5, 2) := by decide +kernel
theorem dX10_canChange_37 : decode cX10_canChange 37 = .ok (.iload 5, 2) := by decide +kernel
theorem dX10_canChange_39 : decode cX10_canChange 39 = .ok (.aload_n 0, 1) := by decide +kernel
theorem dX10_canChange_40 : decode cX10_canChange 40 = .ok (.getfield 9, 3) := by decide +kernel
theorem dX10_canChange_43 : decode cX10_canChange 43 = .ok (.iconst 0, 1) := by decide +kernel
theorem dX10_canChange_44 : decode cX10_canChange 44 = .ok (.iaload, 1) := by decide +kernel
theorem dX10_canChange_45 : decode cX10_canChange 45 = .ok (.if_icmp .ge 51, 3) := by decide +kernel
theorem dX10_canChange_48 : decode cX10_canChange 48 = .ok (.iload 4, 2) := by decide +kernel
theorem dX10_canChange_50 : decode cX10_canChange 50 = .ok (.ifCond .ne 46, 3) := by decide +kernel
theorem dX10_canChange_53 : decode cX10_canChange 53 = .ok (.aload_n 0, 1) := by decide +kernel
theorem dX10_canChange_54 : decode cX10_canChange 54 = .ok (.iload_n 2, 1) := by decide +kernel
theorem dX10_canChange_55 : decode cX10_canChange 55 = .ok (.iload 5, 2) := by decide +kernel
theorem dX10_canChange_57 : decode cX10_canChange 57 = .ok (.invokevirtual 251, 3) := by decide +kernel
theorem dX10_canChange_60 : decode cX10_canChange 60 = .ok (.aload_n 0, 1) := by decide +kernel
theorem dX10_canChange_61 : decode cX10_canChange 61 = .ok (.iload 5, 2) := by decide +kernel
theorem dX10_canChange_63 : decode cX10_canChange 63 = .ok (.invokevirtual 159, 3) := by decide +kernel
theorem dX10_canChange_66 : decode cX10_canChange 66 = .ok (.ifCond .ne 21, 3) := by decide +kernel
theorem dX10_canChange_69 : decode cX10_canChange 69 = .ok (.aload_n 0, 1) := by decide +kernel
theorem dX10_canChange_70 : decode cX10_canChange 70 = .ok (.iload_n 1, 1) := by decide +kernel
theorem dX10_canChange_71 : decode cX10_canChange 71 = .ok (.iconst 1, 1) := by decide +kernel
theorem dX10_canChange_72 : decode cX10_canChange 72 = .ok (.iload_n 2, 1) := by decide +kernel
theorem dX10_canChange_73 : decode cX10_canChange 73 = .ok (.ishl, 1) := by decide +kernel
theorem dX10_canChange_74 : decode cX10_canChange 74 = .ok (.iconst (-1), 1) := by decide +kernel
theorem dX10_canChange_75 : decode cX10_canChange 75 = .ok (.ixor, 1) := by decide +kernel
theorem dX10_canChange_76 : decode cX10_canChange 76 = .ok (.iand, 1) := by decide +kernel
theorem dX10_canChange_77 : decode cX10_canChange 77 = .ok (.invokevirtual 272, 3) := by decide +kernel
theorem dX10_canChange_80 : decode cX10_canChange 80 = .ok (.ifCond .eq 7, 3) := by decide +kernel
theorem dX10_canChange_83 : decode cX10_canChange 83 = .ok (.iconst 1, 1) := by decide +kernel
theorem dX10_canChange_84 : decode cX10_canChange 84 = .ok (.goto 4, 3) := by decide +kernel
theorem dX10_canChange_87 : decode cX10_canChange 87 = .ok (.iconst 0, 1) := by decide +kernel
theorem dX10_canChange_88 : decode cX10_canChange 88 = .ok (.istore 4, 2) := by decide +kernel
theorem dX10_canChange_90 : decode cX10_canChange 90 = .ok (.iinc 5 1, 3) := by decide +kernel
theorem dX10_canChange_93 : decode cX10_canChange 93 = .ok (.goto (-56), 3) := by decide +kernel
theorem dX10_canChange_96 : decode cX10_canChange 96 = .ok (.aload_n 0, 1) := by decide +kernel
theorem dX10_canChange_97 : decode cX10_canChange 97 = .ok (.iload_n 2, 1) := by decide +kernel
theorem dX10_canChange_98 : decode cX10_canChange 98 = .ok (.iload_n 3, 1) := by decide +kernel
theorem dX10_canChange_99 : decode cX10_canChange 99 = .ok (.invokevirtual 251, 3) := by decide +kernel
theorem dX10_canChange_102 : decode cX10_canChange 102 = .ok (.iload 4, 2) := by decide +kernel
theorem dX10_canChange_104 : decode cX10_canChange 104 = .ok (.ireturn, 1) := by decide +kernel
theorem dX10_changes_0 : decode cX10_changes 0 = .ok (.aload_n 0, 1) := by decide +kernel
theorem dX10_changes_1 : decode cX10_changes 1 = .ok (.iload_n 1, 1) := by decide +kernel
theorem dX10_changes_2 : decode cX10_changes 2 = .ok (.invokevirtual 113, 3) := by decide +kernel
theorem dX10_changes_5 : decode cX10_changes 5 = .ok (.ifCond .eq 11, 3) := by decide +kernel
theorem dX10_changes_8 : decode cX10_changes 8 = .ok (.aload_n 0, 1) := by decide +kernel
theorem dX10_changes_9 : decode cX10_changes 9 = .ok (.iload_n 2, 1) := by decide +kernel
theorem dX10_changes_10 : decode cX10_changes 10 = .ok (.invokevirtual 78, 3) := by decide +kernel
theorem dX10_changes_13 : decode cX10_changes 13 = .ok (.ifCond .ne 10, 3) := by decide +kernel
theorem dX10_changes_16 : decode cX10_changes 16 = .ok (.aload_n 0, 1) := by decide +kernel
theorem dX10_changes_17 : decode cX10_changes 17 = .ok (.ldc 62, 2) := by decide +kernel
theorem dX10_changes_19 : decode cX10_changes 19 = .ok (.invokevirtual 63, 3) := by decide +kernel
theorem dX10_changes_22 : decode cX10_changes 22 = .ok (.ireturn, 1) := by decide +kernel
theorem dX10_changes_23 : decode cX10_changes 23 = .ok (.aload_n 0, 1) := by decide +kernel
theorem dX10_changes_24 : decode cX10_changes 24 = .ok (.iload_n 1, 1) := by decide +kernel
theorem dX10_changes_25 : decode cX10_changes 25 = .ok (.invokevirtual 107, 3) := by decide +kernel
theorem dX10_changes_28 : decode cX10_changes 28 = .ok (.istore_n 3, 1) := by decide +kernel
theorem dX10_changes_29 : decode cX10_changes 29 = .ok (.aload_n 0, 1) := by decide +kernel
theorem dX10_changes_30 : decode cX10_changes 30 = .ok (.iload_n 1, 1) := by decide +kernel
theorem dX10_changes_31 : decode cX10_changes 31 = .ok (.iload_n 2, 1) := by decide +kernel
theorem dX10_changes_32 : decode cX10_changes 32 = .ok (.invokevirtual 251, 3) := by decide +kernel
theorem dX10_changes_35 : decode cX10_changes 35 = .ok (.iconst (-1), 1) := by decide +kernel
theorem dX10_changes_36 : decode cX10_changes 36 = .ok (.istore 4, 2) := by decide +kernel
theorem dX10_changes_38 : decode cX10_changes 38 = .ok (.iconst 0, 1) := by decide +kernel
theorem dX10_changes_39 : decode cX10_changes 39 = .ok (.istore 5, 2) := by decide +kernel
theorem dX10_changes_41 : decode cX10_changes 41 = .ok (.iload 5, 2) := by decide +kernel
theorem dX10_changes_43 : decode cX10_changes 43 = .ok (.iconst 3, 1) := by decide +kernel
theorem dX10_changes_44 : decode cX10_changes 44 = .ok (.if_icmp .gt 74, 3) := by decide +kernel
theorem dX10_changes_47 : decode cX10_changes 47 = .ok (.iload 4, 2) := by decide +kernel
theorem dX10_changes_49 : decode cX10_changes 49 = .ok (.ifCond .ge 69, 3) := by decide +kernel
theorem dX10_changes_52 : decode cX10_changes 52 = .ok (.iconst 0, 1) := by decide +kernel
theorem dX10_changes_53 : decode cX10_changes 53 = .ok (.istore 6, 2) := by decide +kernel
theorem dX10_changes_55 : decode cX10_changes 55 = .ok (.iload 6, 2) := by decide +kernel
theorem dX10_changes_57 : decode cX10_changes 57 = .ok (.iconst 1, 1) := by decide +kernel
theorem dX10_changes_58 : decode cX10_changes 58 = .ok (.aload_n 0, 1) := by decide +kernel
theorem dX10_changes_59 : decode cX10_changes 59 = .ok (.getfield 9, 3) := by decide +kernel
theorem dX10_changes_62 : decode cX10_changes 62 = .ok (.iconst 1, 1) := by decide +kernel
theorem dX10_changes_63 : decode cX10_changes 63 = .ok (.iaload, 1) := by decide +kernel
theorem dX10_changes_64 : decode cX10_changes 64 = .ok (.ishl, 1) := by decide +kernel
theorem dX10_changes_65 : decode cX10_changes 65 = .ok (.if_icmp .ge 47, 3) := by decide +kernel
theorem dX10_changes_68 : decode cX10_changes 68 = .ok (.iload 4, 2) := by decide +kernel
theorem dX10_changes_70 : decode cX10_changes 70 = .ok (.ifCond .ge 42, 3) := by decide +kernel
theorem dX10_changes_73 : decode cX10_changes 73 = .ok (.iload 6, 2) := by decide +kernel
theorem dX10_changes_75 : decode cX10_changes 75 = .ok (.invokestatic 145, 3) := by decide +kernel
theorem dX10_changes_78 : decode cX10_changes 78 = .ok (.iload 5, 2) := by decide +kernel
theorem dX10_changes_80 : decode cX10_changes 80 = .ok (.if_icmp .ne 26, 3) := by decide +kernel
theorem dX10_changes_83 : decode cX10_changes 83 = .ok (.aload_n 0, 1) := by decide +kernel
theorem dX10_changes_84 : decode cX10_changes 84 = .ok (.iload 6, 2) := by decide +kernel
theorem dX10_changes_86 : decode cX10_changes 86 = .ok (.iload_n 1, 1) := by decide +kernel
theorem dX10_changes_87 : decode cX10_changes 87 = .ok (.invokevirtual 275, 3) := by decide +kernel
theorem dX10_changes_90 : decode cX10_changes 90 = .ok (.ifCond .eq 16, 3) := by decide +kernel
theorem dX10_changes_93 : decode cX10_changes 93 = .ok (.aload_n 0, 1) := by decide +kernel
theorem dX10_changes_94 : decode cX10_changes 94 = .ok (.iload 6, 2) := by decide +kernel
theorem dX10_changes_96 : decode cX10_changes 96 = .ok (.invokevirtual 272, 3) := by decide +kernel
theorem dX10_changes_99 : decode cX10_changes 99 = .ok (.ifCond .eq 7, 3) := by decide +kernel
theorem dX10_changes_102 : decode cX10_changes 102 = .ok (.iload 6, 2) := by decide +kernel
theorem dX10_changes_104 : decode cX10_changes 104 = .ok (.istore 4, 2) := by decide +kernel
theorem dX10_changes_106 : decode cX10_changes 106 = .ok (.iinc 6 1, 3) := by decide +kernel
theorem dX10_changes_109 : decode cX10_changes 109 = .ok (.goto (-54), 3) := by decide +kernel
theorem dX10_changes_112 : decode cX10_changes 112 = .ok (.iinc 5 1, 3) := by decide +kernel
theorem dX10_changes_115 : decode cX10_changes 115 = .ok (.goto (-74), 3) := by decide +kernel
theorem dX10_changes_118 : decode cX10_changes 118 = .ok (.aload_n 0, 1) := by decide +kernel
theorem dX10_changes_119 : decode cX10_changes 119 = .ok (.iload_n 1, 1) := by decide +kernel
theorem dX10_changes_120 : decode cX10_changes 120 = .ok (.iload_n 3, 1) := by decide +kernel
theorem dX10_changes_121 : decode cX10_changes 121 = .ok (.invokevirtual 251, 3) := by decide +kernel
theorem dX10_changes_124 : decode cX10_changes 124 = .ok (.iload 4, 2) := by decide +kernel
theorem dX10_changes_126 : decode cX10_changes 126 = .ok (.ifCond .ge 12, 3) := by decide +kernel
theorem dX10_changes_129 : decode cX10_changes 129 = .ok (.aload_n 0, 1) := by decide +kernel
theorem dX10_changes_130 : decode cX10_changes 130 = .ok (.ldc 138, 2) := by decide +kernel
theorem dX10_changes_132 : decode cX10_changes 132 = .ok (.invokevirtual 63, 3) := by decide +kernel
theorem dX10_changes_135 : decode cX10_changes 135 = .ok (.goto 5, 3) := by decide +kernel
theorem dX10_changes_138 : decode cX10_changes 138 = .ok (.iload 4, 2) := by decide +kernel
theorem dX10_changes_140 : decode cX10_changes 140 = .ok (.ireturn, 1) := by decide +kernel
theorem dX10_mayAll_0 : decode cX10_mayAll 0 = .ok (.iconst 0, 1) := by decide +kernel
theorem dX10_mayAll_1 : decode cX10_mayAll 1 = .ok (.istore_n 3, 1) := by decide +kernel
theorem dX10_mayAll_2 : decode cX10_mayAll 2 = .ok (.iload_n 3, 1) := by decide +kernel
theorem dX10_mayAll_3 : decode cX10_mayAll 3 = .ok (.aload_n 0, 1) := by decide +kernel
theorem dX10_mayAll_4 : decode cX10_mayAll 4 = .ok (.getfield 9, 3) := by decide +kernel
theorem dX10_mayAll_7 : decode cX10_mayAll 7 = .ok (.iconst 1, 1) := by decide +kernel
theorem dX10_mayAll_8 : decode cX10_mayAll 8 = .ok (.iaload, 1) := by decide +kernel
theorem dX10_mayAll_9 : decode cX10_mayAll 9 = .ok (.if_icmp .ge 32, 3) := by decide +kernel
theorem dX10_mayAll_12 : decode cX10_mayAll 12 = .ok (.iload_n 1, 1) := by decide +kernel
theorem dX10_mayAll_13 : decode cX10_mayAll 13 = .ok (.iload_n 3, 1) := by decide +kernel
theorem dX10_mayAll_14 : decode cX10_mayAll 14 = .ok (.invokestatic 103, 3) := by decide +kernel
theorem dX10_mayAll_17 : decode cX10_mayAll 17 = .ok (.ifCond .eq 18, 3) := by decide +kernel
theorem dX10_mayAll_20 : decode cX10_mayAll 20 = .ok (.iload_n 3, 1) := by decide +kernel
theorem dX10_mayAll_21 : decode cX10_mayAll 21 = .ok (.iload_n 2, 1) := by decide +kernel
theorem dX10_mayAll_22 : decode cX10_mayAll 22 = .ok (.if_icmp .eq 11, 3) := by decide +kernel
theorem dX10_mayAll_25 : decode cX10_mayAll 25 = .ok (.aload_n 0, 1) := by decide +kernel
theorem dX10_mayAll_26 : decode cX10_mayAll 26 = .ok (.iload_n 3, 1) := by decide +kernel
theorem dX10_mayAll_27 : decode cX10_mayAll 27 = .ok (.invokevirtual 107, 3) := by decide +kernel
theorem dX10_mayAll_30 : decode cX10_mayAll 30 = .ok (.ifCond .ge 5, 3) := by decide +kernel
theorem dX10_mayAll_33 : decode cX10_mayAll 33 = .ok (.iconst 0, 1) := by decide +kernel
theorem dX10_mayAll_34 : decode cX10_mayAll 34 = .ok (.ireturn, 1) := by decide +kernel
theorem dX10_mayAll_35 : decode cX10_mayAll 35 = .ok (.iinc 3 1, 3) := by decide +kernel
theorem dX10_mayAll_38 : decode cX10_mayAll 38 = .ok (.goto (-36), 3) := by decide +kernel
theorem dX10_mayAll_41 : decode cX10_mayAll 41 = .ok (.iconst 1, 1) := by decide +kernel
theorem dX10_mayAll_42 : decode cX10_mayAll 42 = .ok (.ireturn, 1) := by decide +kernel
theorem dX10_isSide_0 : decode cX10_isSide 0 = .ok (.iconst 0, 1) := by decide +kernel
theorem dX10_isSide_1 : decode cX10_isSide 1 = .ok (.istore_n 2, 1) := by decide +kernel
theorem dX10_isSide_2 : decode cX10_isSide 2 = .ok (.iconst 0, 1) := by decide +kernel
theorem dX10_isSide_3 : decode cX10_isSide 3 = .ok (.istore_n 3, 1) := by decide +kernel
theorem dX10_isSide_4 : decode cX10_isSide 4 = .ok (.iload_n 3, 1) := by decide +kernel
theorem dX10_isSide_5 : decode cX10_isSide 5 = .ok (.aload_n 0, 1) := by decide +kernel
theorem dX10_isSide_6 : decode cX10_isSide 6 = .ok (.getfield 9, 3) := by decide +kernel
theorem dX10_isSide_9 : decode cX10_isSide 9 = .ok (.iconst 0, 1) := by decide +kernel
theorem dX10_isSide_10 : decode cX10_isSide 10 = .ok (.iaload, 1) := by decide +kernel
theorem dX10_isSide_11 : decode cX10_isSide 11 = .ok (.if_icmp .ge 40, 3) := by decide +kernel
theorem dX10_isSide_14 : decode cX10_isSide 14 = .ok (.iload_n 1, 1) := by decide +kernel
theorem dX10_isSide_15 : decode cX10_isSide 15 = .ok (.iload_n 3, 1) := by decide +kernel
theorem dX10_isSide_16 : decode cX10_isSide 16 = .ok (.invokestatic 103, 3) := by decide +kernel
theorem dX10_isSide_19 : decode cX10_isSide 19 = .ok (.ifCond .ne 6, 3) := by decide +kernel
theorem dX10_isSide_22 : decode cX10_isSide 22 = .ok (.goto 23, 3) := by decide +kernel
theorem dX10_isSide_25 : decode cX10_isSide 25 = .ok (.iload_n 2, 1) := by decide +kernel
theorem dX10_isSide_26 : decode cX10_isSide 26 = .ok (.aload_n 0, 1) := by decide +kernel
theorem dX10_isSide_27 : decode cX10_isSide 27 = .ok (.iload_n 3, 1) := by decide +kernel
theorem dX10_isSide_28 : decode cX10_isSide 28 = .ok (.invokevirtual 56, 3) := by decide +kernel
theorem dX10_isSide_31 : decode cX10_isSide 31 = .ok (.iand, 1) := by decide +kernel
theorem dX10_isSide_32 : decode cX10_isSide 32 = .ok (.ifCond .eq 5, 3) := by decide +kernel
theorem dX10_isSide_35 : decode cX10_isSide 35 = .ok (.iconst 0, 1) := by decide +kernel
theorem dX10_isSide_36 : decode cX10_isSide 36 = .ok (.ireturn, 1) := by decide +kernel
theorem dX10_isSide_37 : decode cX10_isSide 37 = .ok (.iload_n 2, 1) := by decide +kernel
theorem dX10_isSide_38 : decode cX10_isSide 38 = .ok (.aload_n 0, 1) := by decide +kernel
theorem dX10_isSide_39 : decode cX10_isSide 39 = .ok (.iload_n 3, 1) := by decide +kernel
theorem dX10_isSide_40 : decode cX10_isSide 40 = .ok (.invokevirtual 56, 3) := by decide +kernel
theorem dX10_isSide_43 : decode cX10_isSide 43 = .ok (.ior, 1) := by decide +kernel
theorem dX10_isSide_44 : decode cX10_isSide 44 = .ok (.istore_n 2, 1) := by decide +kernel
theorem dX10_isSide_45 : decode cX10_isSide 45 = .ok (.iinc 3 1, 3) := by decide +kernel
theorem dX10_isSide_48 : decode cX10_isSide 48 = .ok (.goto (-44), 3) := by decide +kernel
theorem dX10_isSide_51 : decode cX10_isSide 51 = .ok (.iconst 1, 1) := by decide +kernel
theorem dX10_isSide_52 : decode cX10_isSide 52 = .ok (.ireturn, 1) := by decide +kernel
theorem dX10_side_0 : decode cX10_side 0 = .ok (.iload_n 1, 1) := by decide +kernel
theorem dX10_side_1 : decode cX10_side 1 = .ok (.i2l, 1) := by decide +kernel
theorem dX10_side_2 : decode cX10_side 2 = .ok (.lconst 0, 1) := by decide +kernel
theorem dX10_side_3 : decode cX10_side 3 = .ok (.lconst 1, 1) := by decide +kernel
theorem dX10_side_4 : decode cX10_side 4 = .ok (.invokestatic 48, 3) := by decide +kernel
theorem dX10_side_7 : decode cX10_side 7 = .ok (.ifCond .ne 10, 3) := by decide +kernel
theorem dX10_side_10 : decode cX10_side 10 = .ok (.aload_n 0, 1) := by decide +kernel
theorem dX10_side_11 : decode cX10_side 11 = .ok (.ldc 62, 2) := by decide +kernel
theorem dX10_side_13 : decode cX10_side 13 = .ok (.invokevirtual 63, 3) := by decide +kernel
theorem dX10_side_16 : decode cX10_side 16 = .ok (.ireturn, 1) := by decide +kernel
theorem dX10_side_17 : decode cX10_side 17 = .ok (.iconst 0, 1) := by decide +kernel
theorem dX10_side_18 : decode cX10_side 18 = .ok (.istore_n 2, 1) := by decide +kernel
theorem dX10_side_19 : decode cX10_side 19 = .ok (.iconst 1, 1) := by decide +kernel
theorem dX10_side_20 : decode cX10_side 20 = .ok (.istore_n 3, 1) := by decide +kernel
theorem dX10_side_21 : decode cX10_side 21 = .ok (.iload_n 3, 1) := by decide +kernel
theorem dX10_side_22 : decode cX10_side 22 = .ok (.iconst 1, 1) := by decide +kernel
theorem dX10_side_23 : decode cX10_side 23 = .ok (.aload_n 0, 1) := by decide +kernel
theorem dX10_side_24 : decode cX10_side 24 = .ok (.getfield 9, 3) := by decide +kernel
theorem dX10_side_27 : decode cX10_side 27 = .ok (.iconst 0, 1) := by decide +kernel
theorem dX10_side_28 : decode cX10_side 28 = .ok (.iaload, 1) := by decide +kernel
theorem dX10_side_29 : decode cX10_side 29 = .ok (.ishl, 1) := by decide +kernel
theorem dX10_side_30 : decode cX10_side 30 = .ok (.if_icmp .ge 34, 3) := by decide +kernel
theorem dX10_side_33 : decode cX10_side 33 = .ok (.iload_n 3, 1) := by decide +kernel
theorem dX10_side_34 : decode cX10_side 34 = .ok (.invokestatic 145, 3) := by decide +kernel
theorem dX10_side_37 : decode cX10_side 37 = .ok (.iload_n 2, 1) := by decide +kernel
theorem dX10_side_38 : decode cX10_side 38 = .ok (.invokestatic 145, 3) := by decide +kernel
theorem dX10_side_41 : decode cX10_side 41 = .ok (.if_icmp .le 15, 3) := by decide +kernel
theorem dX10_side_44 : decode cX10_side 44 = .ok (.aload_n 0, 1) := by decide +kernel
theorem dX10_side_45 : decode cX10_side 45 = .ok (.iload_n 3, 1) := by decide +kernel
theorem dX10_side_46 : decode cX10_side 46 = .ok (.invokevirtual 278, 3) := by decide +kernel
theorem dX10_side_49 : decode cX10_side 49 = .ok (.ifCond .eq 7, 3) := by decide +kernel
theorem dX10_side_52 : decode cX10_side 52 = .ok (.iload_n 3, 1) := by decide +kernel
theorem dX10_side_53 : decode cX10_side 53 = .ok (.goto 4, 3) := by decide +kernel
theorem dX10_side_56 : decode cX10_side 56 = .ok (.iload_n 2, 1) := by decide +kernel
theorem dX10_side_57 : decode cX10_side 57 = .ok (.istore_n 2, 1) := by decide +kernel
theorem dX10_side_58 : decode cX10_side 58 = .ok (.iinc 3 1, 3) := by decide +kernel
theorem dX10_side_61 : decode cX10_side 61 = .ok (.goto (-40), 3) := by decide +kernel
theorem dX10_side_64 : decode cX10_side 64 = .ok (.iload_n 1, 1) := by decide +kernel
theorem dX10_side_65 : decode cX10_side 65 = .ok (.ifCond .ne 7, 3) := by decide +kernel
theorem dX10_side_68 : decode cX10_side 68 = .ok (.iload_n 2, 1) := by decide +kernel
theorem dX10_side_69 : decode cX10_side 69 = .ok (.goto 7, 3) := by decide +kernel
theorem dX10_side_72 : decode cX10_side 72 = .ok (.iload_n 2, 1) := by decide +kernel
theorem dX10_side_73 : decode cX10_side 73 = .ok (.invokestatic 145, 3) := by decide +kernel
theorem dX10_side_76 : decode cX10_side 76 = .ok (.ireturn, 1) := by decide +kernel
theorem dX10_rows_0 : decode cX10_rows 0 = .ok (.iload_n 1, 1) := by decide +kernel
theorem dX10_rows_1 : decode cX10_rows 1 = .ok (.i2l, 1) := by decide +kernel
theorem dX10_rows_2 : decode cX10_rows 2 = .ok (.lconst 1, 1) := by decide +kernel
theorem dX10_rows_3 : decode cX10_rows 3 = .ok (.ldc2_w 82, 3) := by decide +kernel
theorem dX10_rows_6 : decode cX10_rows 6 = .ok (.invokestatic 48, 3) := by decide +kernel
theorem dX10_rows_9 : decode cX10_rows 9 = .ok (.ifCond .ne 11, 3) := by decide +kernel
theorem dX10_rows_12 : decode cX10_rows 12 = .ok (.aload_n 0, 1) := by decide +kernel
theorem dX10_rows_13 : decode cX10_rows 13 = .ok (.ldc 62, 2) := by decide +kernel
theorem dX10_rows_15 : decode cX10_rows 15 = .ok (.invokevirtual 63, 3) := by decide +kernel
theorem dX10_rows_18 : decode cX10_rows 18 = .ok (.i2l, 1) := by decide +kernel
theorem dX10_rows_19 : decode cX10_rows 19 = .ok (.lreturn, 1) := by decide +kernel
theorem dX10_rows_20 : decode cX10_rows 20 = .ok (.bipush 14, 2) := by decide +kernel
theorem dX10_rows_22 : decode cX10_rows 22 = .ok (.newarray .long, 2) := by decide +kernel
theorem dX10_rows_24 : decode cX10_rows 24 = .ok (.astore_n 2, 1) := by decide +kernel
theorem dX10_rows_25 : decode cX10_rows 25 = .ok (.iconst 0, 1) := by decide +kernel
theorem dX10_rows_26 : decode cX10_rows 26 = .ok (.istore_n 3, 1) := by decide +kernel
theorem dX10_rows_27 : decode cX10_rows 27 = .ok (.iload_n 3, 1) := by decide +kernel
theorem dX10_rows_28 : decode cX10_rows 28 = .ok (.aload_n 0, 1) := by decide +kernel
theorem dX10_rows_29 : decode cX10_rows 29 = .ok (.getfield 9, 3) := by decide +kernel
theorem dX10_rows_32 : decode cX10_rows 32 = .ok (.iconst 0, 1) := by decide +kernel
theorem dX10_rows_33 : decode cX10_rows 33 = .ok (.iaload, 1) := by decide +kernel
theorem dX10_rows_34 : decode cX10_rows 34 = .ok (.if_icmp .ge 13, 3) := by decide +kernel
theorem dX10_rows_37 : decode cX10_rows 37 = .ok (.aload_n 2, 1) := by decide +kernel
theorem dX10_rows_38 : decode cX10_rows 38 = .ok (.iload_n 3, 1) := by decide +kernel
theorem dX10_rows_39 : decode cX10_rows 39 = .ok (.lconst 1, 1) := by decide +kernel
theorem dX10_rows_40 : decode cX10_rows 40 = .ok (.lastore, 1) := by decide +kernel
theorem dX10_rows_41 : decode cX10_rows 41 = .ok (.iinc 3 1, 3) := by decide +kernel
theorem dX10_rows_44 : decode cX10_rows 44 = .ok (.goto (-17), 3) := by decide +kernel
theorem dX10_rows_47 : decode cX10_rows 47 = .ok (.iconst 1, 1) := by decide +kernel
theorem dX10_rows_48 : decode cX10_rows 48 = .ok (.istore_n 3, 1) := by decide +kernel
theorem dX10_rows_49 : decode cX10_rows 49 = .ok (.iload_n 3, 1) := by decide +kernel
theorem dX10_rows_50 : decode cX10_rows 50 = .ok (.iload_n 1, 1) := by decide +kernel
theorem dX10_rows_51 : decode cX10_rows 51 = .ok (.if_icmp .ge 85, 3) := by decide +kernel
theorem dX10_rows_54 : decode cX10_rows 54 = .ok (.bipush 14, 2) := by decide +kernel
theorem dX10_rows_56 : decode cX10_rows 56 = .ok (.newarray .long, 2) := by decide +kernel
theorem dX10_rows_58 : decode cX10_rows 58 = .ok (.astore 4, 2) := by decide +kernel
theorem dX10_rows_60 : decode cX10_rows 60 = .ok (.iconst 0, 1) := by decide +kernel
theorem dX10_rows_61 : decode cX10_rows 61 = .ok (.istore 5, 2) := by decide +kernel
theorem dX10_rows_63 : decode cX10_rows 63 = .ok (.iload 5, 2) := by decide +kernel
theorem dX10_rows_65 : decode cX10_rows 65 = .ok (.aload_n 0, 1) := by decide +kernel
theorem dX10_rows_66 : decode cX10_rows 66 = .ok (.getfield 9, 3) := by decide +kernel
theorem dX10_rows_69 : decode cX10_rows 69 = .ok (.iconst 0, 1) := by decide +kernel
theorem dX10_rows_70 : decode cX10_rows 70 = .ok (.iaload, 1) := by decide +kernel
theorem dX10_rows_71 : decode cX10_rows 71 = .ok (.if_icmp .ge 56, 3) := by decide +kernel
theorem dX10_rows_74 : decode cX10_rows 74 = .ok (.iconst 0, 1) := by decide +kernel
theorem dX10_rows_75 : decode cX10_rows 75 = .ok (.istore 6, 2) := by decide +kernel
theorem dX10_rows_77 : decode cX10_rows 77 = .ok (.iload 6, 2) := by decide +kernel
theorem dX10_rows_79 : decode cX10_rows 79 = .ok (.aload_n 0, 1) := by decide +kernel
theorem dX10_rows_80 : decode cX10_rows 80 = .ok (.getfield 9, 3) := by decide +kernel
theorem dX10_rows_83 : decode cX10_rows 83 = .ok (.iconst 0, 1) := by decide +kernel
theorem dX10_rows_84 : decode cX10_rows 84 = .ok (.iaload, 1) := by decide +kernel
theorem dX10_rows_85 : decode cX10_rows 85 = .ok (.if_icmp .ge 36, 3) := by decide +kernel
theorem dX10_rows_88 : decode cX10_rows 88 = .ok (.aload 4, 2) := by decide +kernel
theorem dX10_rows_90 : decode cX10_rows 90 = .ok (.iload 6, 2) := by decide +kernel
theorem dX10_rows_92 : decode cX10_rows 92 = .ok (.dup2, 1) := by decide +kernel
theorem dX10_rows_93 : decode cX10_rows 93 = .ok (.laload, 1) := by decide +kernel
theorem dX10_rows_94 : decode cX10_rows 94 = .ok (.aload_n 0, 1) := by decide +kernel
theorem dX10_rows_95 : decode cX10_rows 95 = .ok (.iload 5, 2) := by decide +kernel
theorem dX10_rows_97 : decode cX10_rows 97 = .ok (.iload 6, 2) := by decide +kernel
theorem dX10_rows_99 : decode cX10_rows 99 = .ok (.invokevirtual 110, 3) := by decide +kernel
theorem dX10_rows_102 : decode cX10_rows 102 = .ok (.ifCond .eq 7, 3) := by decide +kernel
theorem dX10_rows_105 : decode cX10_rows 105 = .ok (.lconst 0, 1) := by decide +kernel
theorem dX10_rows_106 : decode cX10_rows 106 = .ok (.goto 7, 3) := by decide +kernel
theorem dX10_rows_109 : decode cX10_rows 109 = .ok (.aload_n 2, 1) := by decide +kernel
theorem dX10_rows_110 : decode cX10_rows 110 = .ok (.iload 5, 2) := by decide +kernel
theorem dX10_rows_112 : decode cX10_rows 112 = .ok (.laload, 1) := by decide +kernel
theorem dX10_rows_113 : decode cX10_rows 113 = .ok (.ladd, 1) := by decide +kernel
theorem dX10_rows_114 : decode cX10_rows 114 = .ok (.lastore, 1) := by decide +kernel
theorem dX10_rows_115 : decode cX10_rows 115 = .ok (.iinc 6 1, 3) := by decide +kernel
theorem dX10_rows_118 : decode cX10_rows 118 = .ok (.goto (-41), 3) := by decide +kernel
theorem dX10_rows_121 : decode cX10_rows 121 = .ok (.iinc 5 1, 3) := by decide +kernel
theorem dX10_rows_124 : decode cX10_rows 124 = .ok (.goto (-61), 3) := by decide +kernel
theorem dX10_rows_127 : decode cX10_rows 127 = .ok (.aload 4, 2) := by decide +kernel
theorem dX10_rows_129 : decode cX10_rows 129 = .ok (.astore_n 2, 1) := by decide +kernel
theorem dX10_rows_130 : decode cX10_rows 130 = .ok (.iinc 3 1, 3) := by decide +kernel
theorem dX10_rows_133 : decode cX10_rows 133 = .ok (.goto (-84), 3) := by decide +kernel
theorem dX10_rows_136 : decode cX10_rows 136 = .ok (.lconst 0, 1) := by decide +kernel
theorem dX10_rows_137 : decode cX10_rows 137 = .ok (.lstore_n 3, 1) := by decide +kernel
theorem dX10_rows_138 : decode cX10_rows 138 = .ok (.iconst 0, 1) := by decide +kernel
theorem dX10_rows_139 : decode cX10_rows 139 = .ok (.istore 5, 2) := by decide +kernel
theorem dX10_rows_141 : decode cX10_rows 141 = .ok (.iload 5, 2) := by decide +kernel
theorem dX10_rows_143 : decode cX10_rows 143 = .ok (.aload_n 0, 1) := by decide +kernel
theorem dX10_rows_144 : decode cX10_rows 144 = .ok (.getfield 9, 3) := by decide +kernel
theorem dX10_rows_147 : decode cX10_rows 147 = .ok (.iconst 0, 1) := by decide +kernel
theorem dX10_rows_148 : decode cX10_rows 148 = .ok (.iaload, 1) := by decide +kernel
theorem dX10_rows_149 : decode cX10_rows 149 = .ok (.if_icmp .ge 16, 3) := by decide +kernel
theorem dX10_rows_152 : decode cX10_rows 152 = .ok (.lload_n 3, 1) := by decide +kernel
theorem dX10_rows_153 : decode cX10_rows 153 = .ok (.aload_n 2, 1) := by decide +kernel
theorem dX10_rows_154 : decode cX10_rows 154 = .ok (.iload 5, 2) := by decide +kernel
theorem dX10_rows_156 : decode cX10_rows 156 = .ok (.laload, 1) := by decide +kernel
theorem dX10_rows_157 : decode cX10_rows 157 = .ok (.ladd, 1) := by decide +kernel
theorem dX10_rows_158 : decode cX10_rows 158 = .ok (.lstore_n 3, 1) := by decide +kernel
theorem dX10_rows_159 : decode cX10_rows 159 = .ok (.iinc 5 1, 3) := by decide +kernel
theorem dX10_rows_162 : decode cX10_rows 162 = .ok (.goto (-21), 3) := by decide +kernel
theorem dX10_rows_165 : decode cX10_rows 165 = .ok (.lload_n 3, 1) := by decide +kernel
theorem dX10_rows_166 : decode cX10_rows 166 = .ok (.lreturn, 1) := by decide +kernel
theorem dX10_findOn_0 : decode cX10_findOn 0 = .ok (.iload_n 1, 1) := by decide +kernel
theorem dX10_findOn_1 : decode cX10_findOn 1 = .ok (.iconst 1, 1) := by decide +kernel
theorem dX10_findOn_2 : decode cX10_findOn 2 = .ok (.isub, 1) := by decide +kernel
theorem dX10_findOn_3 : decode cX10_findOn 3 = .ok (.istore_n 3, 1) := by decide +kernel
theorem dX10_findOn_4 : decode cX10_findOn 4 = .ok (.iload_n 3, 1) := by decide +kernel
theorem dX10_findOn_5 : decode cX10_findOn 5 = .ok (.ifCond .lt 124, 3) := by decide +kernel
theorem dX10_findOn_8 : decode cX10_findOn 8 = .ok (.iconst 0, 1) := by decide +kernel
theorem dX10_findOn_9 : decode cX10_findOn 9 = .ok (.istore 4, 2) := by decide +kernel
theorem dX10_findOn_11 : decode cX10_findOn 11 = .ok (.iload 4, 2) := by decide +kernel
theorem dX10_findOn_13 : decode cX10_findOn 13 = .ok (.bipush 26, 2) := by decide +kernel
theorem dX10_findOn_15 : decode cX10_findOn 15 = .ok (.if_icmp .ge 108, 3) := by decide +kernel
theorem dX10_findOn_18 : decode cX10_findOn 18 = .ok (.aload_n 0, 1) := by decide +kernel
theorem dX10_findOn_19 : decode cX10_findOn 19 = .ok (.getfield 31, 3) := by decide +kernel
theorem dX10_findOn_22 : decode cX10_findOn 22 = .ok (.bipush 26, 2) := by decide +kernel
theorem dX10_findOn_24 : decode cX10_findOn 24 = .ok (.iload_n 3, 1) := by decide +kernel
theorem dX10_findOn_25 : decode cX10_findOn 25 = .ok (.imul, 1) := by decide +kernel
theorem dX10_findOn_26 : decode cX10_findOn 26 = .ok (.iload 4, 2) := by decide +kernel
theorem dX10_findOn_28 : decode cX10_findOn 28 = .ok (.iadd, 1) := by decide +kernel
theorem dX10_findOn_29 : decode cX10_findOn 29 = .ok (.iload_n 3, 1) := by decide +kernel
theorem dX10_findOn_30 : decode cX10_findOn 30 = .ok (.iload_n 1, 1) := by decide +kernel
theorem dX10_findOn_31 : decode cX10_findOn 31 = .ok (.iconst 1, 1) := by decide +kernel
theorem dX10_findOn_32 : decode cX10_findOn 32 = .ok (.isub, 1) := by decide +kernel
theorem dX10_findOn_33 : decode cX10_findOn 33 = .ok (.if_icmp .ne 7, 3) := by decide +kernel
theorem dX10_findOn_36 : decode cX10_findOn 36 = .ok (.lconst 1, 1) := by decide +kernel
theorem dX10_findOn_37 : decode cX10_findOn 37 = .ok (.goto 4, 3) := by decide +kernel
theorem dX10_findOn_40 : decode cX10_findOn 40 = .ok (.lconst 0, 1) := by decide +kernel
theorem dX10_findOn_41 : decode cX10_findOn 41 = .ok (.lastore, 1) := by decide +kernel
theorem dX10_findOn_42 : decode cX10_findOn 42 = .ok (.iconst 0, 1) := by decide +kernel
theorem dX10_findOn_43 : decode cX10_findOn 43 = .ok (.istore 5, 2) := by decide +kernel
theorem dX10_findOn_45 : decode cX10_findOn 45 = .ok (.iload 5, 2) := by decide +kernel
theorem dX10_findOn_47 : decode cX10_findOn 47 = .ok (.bipush 26, 2) := by decide +kernel
theorem dX10_findOn_49 : decode cX10_findOn 49 = .ok (.if_icmp .ge 68, 3) := by decide +kernel
theorem dX10_findOn_52 : decode cX10_findOn 52 = .ok (.iload_n 3, 1) := by decide +kernel
theorem dX10_findOn_53 : decode cX10_findOn 53 = .ok (.iload_n 1, 1) := by decide +kernel
theorem dX10_findOn_54 : decode cX10_findOn 54 = .ok (.iconst 1, 1) := by decide +kernel
theorem dX10_findOn_55 : decode cX10_findOn 55 = .ok (.isub, 1) := by decide +kernel
theorem dX10_findOn_56 : decode cX10_findOn 56 = .ok (.if_icmp .ge 61, 3) := by decide +kernel
theorem dX10_findOn_59 : decode cX10_findOn 59 = .ok (.iload_n 2, 1) := by decide +kernel
theorem dX10_findOn_60 : decode cX10_findOn 60 = .ok (.iload 5, 2) := by decide +kernel
theorem dX10_findOn_62 : decode cX10_findOn 62 = .ok (.invokestatic 103, 3) := by decide +kernel
theorem dX10_findOn_65 : decode cX10_findOn 65 = .ok (.ifCond .ne 46, 3) := by decide +kernel
theorem dX10_findOn_68 : decode cX10_findOn 68 = .ok (.aload_n 0, 1) := by decide +kernel
theorem dX10_findOn_69 : decode cX10_findOn 69 = .ok (.iload 4, 2) := by decide +kernel
theorem dX10_findOn_71 : decode cX10_findOn 71 = .ok (.iload 5, 2) := by decide +kernel
theorem dX10_findOn_73 : decode cX10_findOn 73 = .ok (.iload_n 3, 1) := by decide +kernel
theorem dX10_findOn_74 : decode cX10_findOn 74 = .ok (.iconst 1, 1) := by decide +kernel
theorem dX10_findOn_75 : decode cX10_findOn 75 = .ok (.iadd, 1) := by decide +kernel
theorem dX10_findOn_76 : decode cX10_findOn 76 = .ok (.invokevirtual 232, 3) := by decide +kernel
theorem dX10_findOn_79 : decode cX10_findOn 79 = .ok (.ifCond .eq 32, 3) := by decide +kernel
theorem dX10_findOn_82 : decode cX10_findOn 82 = .ok (.aload_n 0, 1) := by decide +kernel
theorem dX10_findOn_83 : decode cX10_findOn 83 = .ok (.getfield 31, 3) := by decide +kernel
theorem dX10_findOn_86 : decode cX10_findOn 86 = .ok (.bipush 26, 2) := by decide +kernel
theorem dX10_findOn_88 : decode cX10_findOn 88 = .ok (.iload_n 3, 1) := by decide +kernel
theorem dX10_findOn_89 : decode cX10_findOn 89 = .ok (.imul, 1) := by decide +kernel
theorem dX10_findOn_90 : decode cX10_findOn 90 = .ok (.iload 4, 2) := by decide +kernel
theorem dX10_findOn_92 : decode cX10_findOn 92 = .ok (.iadd, 1) := by decide +kernel
theorem dX10_findOn_93 : decode cX10_findOn 93 = .ok (.dup2, 1) := by decide +kernel
theorem dX10_findOn_94 : decode cX10_findOn 94 = .ok (.laload, 1) := by decide +kernel
theorem dX10_findOn_95 : decode cX10_findOn 95 = .ok (.aload_n 0, 1) := by decide +kernel
theorem dX10_findOn_96 : decode cX10_findOn 96 = .ok (.getfield 31, 3) := by decide +kernel
theorem dX10_findOn_99 : decode cX10_findOn 99 = .ok (.bipush 26, 2) := by decide +kernel
theorem dX10_findOn_101 : decode cX10_findOn 101 = .ok (.iload_n 3, 1) := by decide +kernel
theorem dX10_findOn_102 : decode cX10_findOn 102 = .ok (.iconst 1, 1) := by decide +kernel
theorem dX10_findOn_103 : decode cX10_findOn 103 = .ok (.iadd, 1) := by decide +kernel
theorem dX10_findOn_104 : decode cX10_findOn 104 = .ok (.imul, 1) := by decide +kernel
theorem dX10_findOn_105 : decode cX10_findOn 105 = .ok (.iload 5, 2) := by decide +kernel
theorem dX10_findOn_107 : decode cX10_findOn 107 = .ok (.iadd, 1) := by decide +kernel
theorem dX10_findOn_108 : decode cX10_findOn 108 = .ok (.laload, 1) := by decide +kernel
theorem dX10_findOn_109 : decode cX10_findOn 109 = .ok (.ladd, 1) := by decide +kernel
theorem dX10_findOn_110 : decode cX10_findOn 110 = .ok (.lastore, 1) := by decide +kernel
theorem dX10_findOn_111 : decode cX10_findOn 111 = .ok (.iinc 5 1, 3) := by decide +kernel
theorem dX10_findOn_114 : decode cX10_findOn 114 = .ok (.goto (-69), 3) := by decide +kernel
theorem dX10_findOn_117 : decode cX10_findOn 117 = .ok (.iinc 4 1, 3) := by decide +kernel
theorem dX10_findOn_120 : decode cX10_findOn 120 = .ok (.goto (-109), 3) := by decide +kernel
theorem dX10_findOn_123 : decode cX10_findOn 123 = .ok (.iinc 3 (-1), 3) := by decide +kernel
theorem dX10_findOn_126 : decode cX10_findOn 126 = .ok (.goto (-122), 3) := by decide +kernel
theorem dX10_findOn_129 : decode cX10_findOn 129 = .ok (.return_, 1) := by decide +kernel
theorem dX10_letterAt_0 : decode cX10_letterAt 0 = .ok (.iconst 0, 1) := by decide +kernel
theorem dX10_letterAt_1 : decode cX10_letterAt 1 = .ok (.istore 4, 2) := by decide +kernel
theorem dX10_letterAt_3 : decode cX10_letterAt 3 = .ok (.iload 4, 2) := by decide +kernel
theorem dX10_letterAt_5 : decode cX10_letterAt 5 = .ok (.bipush 26, 2) := by decide +kernel
theorem dX10_letterAt_7 : decode cX10_letterAt 7 = .ok (.if_icmp .ge 49, 3) := by decide +kernel
theorem dX10_letterAt_10 : decode cX10_letterAt 10 = .ok (.iload_n 3, 1) := by decide +kernel
theorem dX10_letterAt_11 : decode cX10_letterAt 11 = .ok (.iload 4, 2) := by decide +kernel
theorem dX10_letterAt_13 : decode cX10_letterAt 13 = .ok (.invokestatic 103, 3) := by decide +kernel
theorem dX10_letterAt_16 : decode cX10_letterAt 16 = .ok (.ifCond .ne 34, 3) := by decide +kernel
theorem dX10_letterAt_19 : decode cX10_letterAt 19 = .ok (.aload_n 0, 1) := by decide +kernel
theorem dX10_letterAt_20 : decode cX10_letterAt 20 = .ok (.getfield 31, 3) := by decide +kernel
theorem dX10_letterAt_23 : decode cX10_letterAt 23 = .ok (.bipush 26, 2) := by decide +kernel
theorem dX10_letterAt_25 : decode cX10_letterAt 25 = .ok (.iload_n 2, 1) := by decide +kernel
theorem dX10_letterAt_26 : decode cX10_letterAt 26 = .ok (.imul, 1) := by decide +kernel
theorem dX10_letterAt_27 : decode cX10_letterAt 27 = .ok (.iload 4, 2) := by decide +kernel
theorem dX10_letterAt_29 : decode cX10_letterAt 29 = .ok (.iadd, 1) := by decide +kernel
theorem dX10_letterAt_30 : decode cX10_letterAt 30 = .ok (.laload, 1) := by decide +kernel
theorem dX10_letterAt_31 : decode cX10_letterAt 31 = .ok (.lconst 0, 1) := by decide +kernel
theorem dX10_letterAt_32 : decode cX10_letterAt 32 = .ok (.lcmp, 1) := by decide +kernel
theorem dX10_letterAt_33 : decode cX10_letterAt 33 = .ok (.ifCond .le 17, 3) := by decide +kernel
theorem dX10_letterAt_36 : decode cX10_letterAt 36 = .ok (.aload_n 0, 1) := by decide +kernel
theorem dX10_letterAt_37 : decode cX10_letterAt 37 = .ok (.iload_n 1, 1) := by decide +kernel
theorem dX10_letterAt_38 : decode cX10_letterAt 38 = .ok (.iload 4, 2) := by decide +kernel
theorem dX10_letterAt_40 : decode cX10_letterAt 40 = .ok (.iload_n 2, 1) := by decide +kernel
theorem dX10_letterAt_41 : decode cX10_letterAt 41 = .ok (.invokevirtual 232, 3) := by decide +kernel
theorem dX10_letterAt_44 : decode cX10_letterAt 44 = .ok (.ifCond .eq 6, 3) := by decide +kernel
theorem dX10_letterAt_47 : decode cX10_letterAt 47 = .ok (.iload 4, 2) := by decide +kernel
theorem dX10_letterAt_49 : decode cX10_letterAt 49 = .ok (.ireturn, 1) := by decide +kernel
theorem dX10_letterAt_50 : decode cX10_letterAt 50 = .ok (.iinc 4 1, 3) := by decide +kernel
theorem dX10_letterAt_53 : decode cX10_letterAt 53 = .ok (.goto (-50), 3) := by decide +kernel
theorem dX10_letterAt_56 : decode cX10_letterAt 56 = .ok (.iconst (-1), 1) := by decide +kernel
theorem dX10_letterAt_57 : decode cX10_letterAt 57 = .ok (.ireturn, 1) := by decide +kernel
theorem dX10_made_0 : decode cX10_made 0 = .ok (.iload_n 1, 1) := by decide +kernel
theorem dX10_made_1 : decode cX10_made 1 = .ok (.i2l, 1) := by decide +kernel
theorem dX10_made_2 : decode cX10_made 2 = .ok (.lconst 1, 1) := by decide +kernel
theorem dX10_made_3 : decode cX10_made 3 = .ok (.ldc2_w 89, 3) := by decide +kernel
theorem dX10_made_6 : decode cX10_made 6 = .ok (.invokestatic 48, 3) := by decide +kernel
theorem dX10_made_9 : decode cX10_made 9 = .ok (.ifCond .eq 30, 3) := by decide +kernel
theorem dX10_made_12 : decode cX10_made 12 = .ok (.iload_n 2, 1) := by decide +kernel
theorem dX10_made_13 : decode cX10_made 13 = .ok (.i2l, 1) := by decide +kernel
theorem dX10_made_14 : decode cX10_made 14 = .ok (.lconst 0, 1) := by decide +kernel
theorem dX10_made_15 : decode cX10_made 15 = .ok (.ldc2_w 281, 3) := by decide +kernel
theorem dX10_made_18 : decode cX10_made 18 = .ok (.invokestatic 48, 3) := by decide +kernel
theorem dX10_made_21 : decode cX10_made 21 = .ok (.ifCond .eq 18, 3) := by decide +kernel
theorem dX10_made_24 : decode cX10_made 24 = .ok (.iload_n 3, 1) := by decide +kernel
theorem dX10_made_25 : decode cX10_made 25 = .ok (.i2l, 1) := by decide +kernel
theorem dX10_made_26 : decode cX10_made 26 = .ok (.ldc2_w 97, 3) := by decide +kernel
theorem dX10_made_29 : decode cX10_made 29 = .ok (.iload_n 1, 1) := by decide +kernel
theorem dX10_made_30 : decode cX10_made 30 = .ok (.iconst 1, 1) := by decide +kernel
theorem dX10_made_31 : decode cX10_made 31 = .ok (.isub, 1) := by decide +kernel
theorem dX10_made_32 : decode cX10_made 32 = .ok (.i2l, 1) := by decide +kernel
theorem dX10_made_33 : decode cX10_made 33 = .ok (.invokestatic 48, 3) := by decide +kernel
theorem dX10_made_36 : decode cX10_made 36 = .ok (.ifCond .ne 11, 3) := by decide +kernel
theorem dX10_made_39 : decode cX10_made 39 = .ok (.aload_n 0, 1) := by decide +kernel
theorem dX10_made_40 : decode cX10_made 40 = .ok (.ldc 62, 2) := by decide +kernel
theorem dX10_made_42 : decode cX10_made 42 = .ok (.invokevirtual 63, 3) := by decide +kernel
theorem dX10_made_45 : decode cX10_made 45 = .ok (.i2l, 1) := by decide +kernel
theorem dX10_made_46 : decode cX10_made 46 = .ok (.lreturn, 1) := by decide +kernel
theorem dX10_made_47 : decode cX10_made 47 = .ok (.aload_n 0, 1) := by decide +kernel
theorem dX10_made_48 : decode cX10_made 48 = .ok (.iload_n 1, 1) := by decide +kernel
theorem dX10_made_49 : decode cX10_made 49 = .ok (.iload_n 2, 1) := by decide +kernel
theorem dX10_made_50 : decode cX10_made 50 = .ok (.invokevirtual 283, 3) := by decide +kernel
theorem dX10_made_53 : decode cX10_made 53 = .ok (.lconst 0, 1) := by decide +kernel
theorem dX10_made_54 : decode cX10_made 54 = .ok (.lstore 4, 2) := by decide +kernel
theorem dX10_made_56 : decode cX10_made 56 = .ok (.iconst 0, 1) := by decide +kernel
theorem dX10_made_57 : decode cX10_made 57 = .ok (.istore 6, 2) := by decide +kernel
theorem dX10_made_59 : decode cX10_made 59 = .ok (.iload 6, 2) := by decide +kernel
theorem dX10_made_61 : decode cX10_made 61 = .ok (.bipush 26, 2) := by decide +kernel
theorem dX10_made_63 : decode cX10_made 63 = .ok (.if_icmp .ge 45, 3) := by decide +kernel
theorem dX10_made_66 : decode cX10_made 66 = .ok (.lload 4, 2) := by decide +kernel
theorem dX10_made_68 : decode cX10_made 68 = .ok (.iload_n 2, 1) := by decide +kernel
theorem dX10_made_69 : decode cX10_made 69 = .ok (.iload 6, 2) := by decide +kernel
theorem dX10_made_71 : decode cX10_made 71 = .ok (.invokestatic 103, 3) := by decide +kernel
theorem dX10_made_74 : decode cX10_made 74 = .ok (.ifCond .ne 24, 3) := by decide +kernel
theorem dX10_made_77 : decode cX10_made 77 = .ok (.aload_n 0, 1) := by decide +kernel
theorem dX10_made_78 : decode cX10_made 78 = .ok (.iconst (-1), 1) := by decide +kernel
theorem dX10_made_79 : decode cX10_made 79 = .ok (.iload 6, 2) := by decide +kernel
theorem dX10_made_81 : decode cX10_made 81 = .ok (.iconst 0, 1) := by decide +kernel
theorem dX10_made_82 : decode cX10_made 82 = .ok (.invokevirtual 232, 3) := by decide +kernel
theorem dX10_made_85 : decode cX10_made 85 = .ok (.ifCond .eq 13, 3) := by decide +kernel
theorem dX10_made_88 : decode cX10_made 88 = .ok (.aload_n 0, 1) := by decide +kernel
theorem dX10_made_89 : decode cX10_made 89 = .ok (.getfield 31, 3) := by decide +kernel
theorem dX10_made_92 : decode cX10_made 92 = .ok (.iload 6, 2) := by decide +kernel
theorem dX10_made_94 : decode cX10_made 94 = .ok (.laload, 1) := by decide +kernel
theorem dX10_made_95 : decode cX10_made 95 = .ok (.goto 4, 3) := by decide +kernel
theorem dX10_made_98 : decode cX10_made 98 = .ok (.lconst 0, 1) := by decide +kernel
theorem dX10_made_99 : decode cX10_made 99 = .ok (.ladd, 1) := by decide +kernel
theorem dX10_made_100 : decode cX10_made 100 = .ok (.lstore 4, 2) := by decide +kernel
theorem dX10_made_102 : decode cX10_made 102 = .ok (.iinc 6 1, 3) := by decide +kernel
theorem dX10_made_105 : decode cX10_made 105 = .ok (.goto (-46), 3) := by decide +kernel
theorem dX10_made_108 : decode cX10_made 108 = .ok (.iload_n 3, 1) := by decide +kernel
theorem dX10_made_109 : decode cX10_made 109 = .ok (.ifCond .ge 6, 3) := by decide +kernel
theorem dX10_made_112 : decode cX10_made 112 = .ok (.lload 4, 2) := by decide +kernel
theorem dX10_made_114 : decode cX10_made 114 = .ok (.lreturn, 1) := by decide +kernel
theorem dX10_made_115 : decode cX10_made 115 = .ok (.iconst (-1), 1) := by decide +kernel
theorem dX10_made_116 : decode cX10_made 116 = .ok (.istore 6, 2) := by decide +kernel
theorem dX10_made_118 : decode cX10_made 118 = .ok (.iconst 0, 1) := by decide +kernel
theorem dX10_made_119 : decode cX10_made 119 = .ok (.istore 7, 2) := by decide +kernel
theorem dX10_made_121 : decode cX10_made 121 = .ok (.iload 7, 2) := by decide +kernel
theorem dX10_made_123 : decode cX10_made 123 = .ok (.iload_n 3, 1) := by decide +kernel
theorem dX10_made_124 : decode cX10_made 124 = .ok (.if_icmp .gt 33, 3) := by decide +kernel
theorem dX10_made_127 : decode cX10_made 127 = .ok (.aload_n 0, 1) := by decide +kernel
theorem dX10_made_128 : decode cX10_made 128 = .ok (.iload 6, 2) := by decide +kernel
theorem dX10_made_130 : decode cX10_made 130 = .ok (.iload 7, 2) := by decide +kernel
theorem dX10_made_132 : decode cX10_made 132 = .ok (.iload_n 2, 1) := by decide +kernel
theorem dX10_made_133 : decode cX10_made 133 = .ok (.invokevirtual 286, 3) := by decide +kernel
theorem dX10_made_136 : decode cX10_made 136 = .ok (.istore 6, 2) := by decide +kernel
theorem dX10_made_138 : decode cX10_made 138 = .ok (.iload 6, 2) := by decide +kernel
theorem dX10_made_140 : decode cX10_made 140 = .ok (.ifCond .ge 11, 3) := by decide +kernel
theorem dX10_made_143 : decode cX10_made 143 = .ok (.aload_n 0, 1) := by decide +kernel
theorem dX10_made_144 : decode cX10_made 144 = .ok (.ldc 138, 2) := by decide +kernel
theorem dX10_made_146 : decode cX10_made 146 = .ok (.invokevirtual 63, 3) := by decide +kernel
theorem dX10_made_149 : decode cX10_made 149 = .ok (.i2l, 1) := by decide +kernel
theorem dX10_made_150 : decode cX10_made 150 = .ok (.lreturn, 1) := by decide +kernel
theorem dX10_made_151 : decode cX10_made 151 = .ok (.iinc 7 1, 3) := by decide +kernel
theorem dX10_made_154 : decode cX10_made 154 = .ok (.goto (-33), 3) := by decide +kernel
theorem dX10_made_157 : decode cX10_made 157 = .ok (.iload 6, 2) := by decide +kernel
theorem dX10_made_159 : decode cX10_made 159 = .ok (.i2l, 1) := by decide +kernel
theorem dX10_made_160 : decode cX10_made 160 = .ok (.lreturn, 1) := by decide +kernel
theorem dX10_strikes_0 : decode cX10_strikes 0 = .ok (.iload_n 1, 1) := by decide +kernel
theorem dX10_strikes_1 : decode cX10_strikes 1 = .ok (.i2l, 1) := by decide +kernel
theorem dX10_strikes_2 : decode cX10_strikes 2 = .ok (.lconst 0, 1) := by decide +kernel
theorem dX10_strikes_3 : decode cX10_strikes 3 = .ok (.ldc2_w 87, 3) := by decide +kernel
theorem dX10_strikes_6 : decode cX10_strikes 6 = .ok (.invokestatic 48, 3) := by decide +kernel
theorem dX10_strikes_9 : decode cX10_strikes 9 = .ok (.ifCond .ne 10, 3) := by decide +kernel
theorem dX10_strikes_12 : decode cX10_strikes 12 = .ok (.aload_n 0, 1) := by decide +kernel
theorem dX10_strikes_13 : decode cX10_strikes 13 = .ok (.ldc 62, 2) := by decide +kernel
theorem dX10_strikes_15 : decode cX10_strikes 15 = .ok (.invokevirtual 63, 3) := by decide +kernel
theorem dX10_strikes_18 : decode cX10_strikes 18 = .ok (.ireturn, 1) := by decide +kernel
theorem dX10_strikes_19 : decode cX10_strikes 19 = .ok (.iconst 0, 1) := by decide +kernel
theorem dX10_strikes_20 : decode cX10_strikes 20 = .ok (.istore_n 2, 1) := by decide +kernel
theorem dX10_strikes_21 : decode cX10_strikes 21 = .ok (.iconst 0, 1) := by decide +kernel
theorem dX10_strikes_22 : decode cX10_strikes 22 = .ok (.istore_n 3, 1) := by decide +kernel
theorem dX10_strikes_23 : decode cX10_strikes 23 = .ok (.iload_n 3, 1) := by decide +kernel
theorem dX10_strikes_24 : decode cX10_strikes 24 = .ok (.aload_n 0, 1) := by decide +kernel
theorem dX10_strikes_25 : decode cX10_strikes 25 = .ok (.getfield 9, 3) := by decide +kernel
theorem dX10_strikes_28 : decode cX10_strikes 28 = .ok (.iconst 1, 1) := by decide +kernel
theorem dX10_strikes_29 : decode cX10_strikes 29 = .ok (.iaload, 1) := by decide +kernel
theorem dX10_strikes_30 : decode cX10_strikes 30 = .ok (.if_icmp .ge 35, 3) := by decide +kernel
theorem dX10_strikes_33 : decode cX10_strikes 33 = .ok (.iload_n 2, 1) := by decide +kernel
theorem dX10_strikes_34 : decode cX10_strikes 34 = .ok (.aload_n 0, 1) := by decide +kernel
theorem dX10_strikes_35 : decode cX10_strikes 35 = .ok (.aload_n 0, 1) := by decide +kernel
theorem dX10_strikes_36 : decode cX10_strikes 36 = .ok (.iload_n 3, 1) := by decide +kernel
theorem dX10_strikes_37 : decode cX10_strikes 37 = .ok (.invokevirtual 107, 3) := by decide +kernel
theorem dX10_strikes_40 : decode cX10_strikes 40 = .ok (.invokevirtual 56, 3) := by decide +kernel
theorem dX10_strikes_43 : decode cX10_strikes 43 = .ok (.iload_n 1, 1) := by decide +kernel
theorem dX10_strikes_44 : decode cX10_strikes 44 = .ok (.invokestatic 103, 3) := by decide +kernel
theorem dX10_strikes_47 : decode cX10_strikes 47 = .ok (.ifCond .eq 9, 3) := by decide +kernel
theorem dX10_strikes_50 : decode cX10_strikes 50 = .ok (.iconst 1, 1) := by decide +kernel
theorem dX10_strikes_51 : decode cX10_strikes 51 = .ok (.iload_n 3, 1) := by decide +kernel
theorem dX10_strikes_52 : decode cX10_strikes 52 = .ok (.ishl, 1) := by decide +kernel
theorem dX10_strikes_53 : decode cX10_strikes 53 = .ok (.goto 4, 3) := by decide +kernel
theorem dX10_strikes_56 : decode cX10_strikes 56 = .ok (.iconst 0, 1) := by decide +kernel
theorem dX10_strikes_57 : decode cX10_strikes 57 = .ok (.ior, 1) := by decide +kernel
theorem dX10_strikes_58 : decode cX10_strikes 58 = .ok (.istore_n 2, 1) := by decide +kernel
theorem dX10_strikes_59 : decode cX10_strikes 59 = .ok (.iinc 3 1, 3) := by decide +kernel
theorem dX10_strikes_62 : decode cX10_strikes 62 = .ok (.goto (-39), 3) := by decide +kernel
theorem dX10_strikes_65 : decode cX10_strikes 65 = .ok (.iload_n 2, 1) := by decide +kernel
theorem dX10_strikes_66 : decode cX10_strikes 66 = .ok (.ireturn, 1) := by decide +kernel
theorem dX10_draw_0 : decode cX10_draw 0 = .ok (.aload_n 0, 1) := by decide +kernel
theorem dX10_draw_1 : decode cX10_draw 1 = .ok (.getfield 9, 3) := by decide +kernel
theorem dX10_draw_4 : decode cX10_draw 4 = .ok (.iconst 3, 1) := by decide +kernel
theorem dX10_draw_5 : decode cX10_draw 5 = .ok (.aload_n 0, 1) := by decide +kernel
theorem dX10_draw_6 : decode cX10_draw 6 = .ok (.getfield 9, 3) := by decide +kernel
theorem dX10_draw_9 : decode cX10_draw 9 = .ok (.iconst 3, 1) := by decide +kernel
theorem dX10_draw_10 : decode cX10_draw 10 = .ok (.iaload, 1) := by decide +kernel
theorem dX10_draw_11 : decode cX10_draw 11 = .ok (.ldc_w 289, 3) := by decide +kernel
theorem dX10_draw_14 : decode cX10_draw 14 = .ok (.imul, 1) := by decide +kernel
theorem dX10_draw_15 : decode cX10_draw 15 = .ok (.sipush 12345, 3) := by decide +kernel
theorem dX10_draw_18 : decode cX10_draw 18 = .ok (.iadd, 1) := by decide +kernel
theorem dX10_draw_19 : decode cX10_draw 19 = .ok (.iastore, 1) := by decide +kernel
theorem dX10_draw_20 : decode cX10_draw 20 = .ok (.aload_n 0, 1) := by decide +kernel
theorem dX10_draw_21 : decode cX10_draw 21 = .ok (.getfield 9, 3) := by decide +kernel
theorem dX10_draw_24 : decode cX10_draw 24 = .ok (.iconst 3, 1) := by decide +kernel
theorem dX10_draw_25 : decode cX10_draw 25 = .ok (.iaload, 1) := by decide +kernel
theorem dX10_draw_26 : decode cX10_draw 26 = .ok (.bipush 8, 2) := by decide +kernel
theorem dX10_draw_28 : decode cX10_draw 28 = .ok (.iushr, 1) := by decide +kernel
theorem dX10_draw_29 : decode cX10_draw 29 = .ok (.ireturn, 1) := by decide +kernel
theorem dX10_isNamed_0 : decode cX10_isNamed 0 = .ok (.aload_n 0, 1) := by decide +kernel
theorem dX10_isNamed_1 : decode cX10_isNamed 1 = .ok (.getfield 9, 3) := by decide +kernel
theorem dX10_isNamed_4 : decode cX10_isNamed 4 = .ok (.iconst 1, 1) := by decide +kernel
theorem dX10_isNamed_5 : decode cX10_isNamed 5 = .ok (.iaload, 1) := by decide +kernel
theorem dX10_isNamed_6 : decode cX10_isNamed 6 = .ok (.istore_n 1, 1) := by decide +kernel
theorem dX10_isNamed_7 : decode cX10_isNamed 7 = .ok (.aload_n 0, 1) := by decide +kernel
theorem dX10_isNamed_8 : decode cX10_isNamed 8 = .ok (.invokevirtual 290, 3) := by decide +kernel
theorem dX10_isNamed_11 : decode cX10_isNamed 11 = .ok (.bipush 7, 2) := by decide +kernel
theorem dX10_isNamed_13 : decode cX10_isNamed 13 = .ok (.irem, 1) := by decide +kernel
theorem dX10_isNamed_14 : decode cX10_isNamed 14 = .ok (.istore_n 2, 1) := by decide +kernel
theorem dX10_isNamed_15 : decode cX10_isNamed 15 = .ok (.iload_n 1, 1) := by decide +kernel
theorem dX10_isNamed_16 : decode cX10_isNamed 16 = .ok (.ifCond .ne 7, 3) := by decide +kernel
theorem dX10_isNamed_19 : decode cX10_isNamed 19 = .ok (.iconst (-1), 1) := by decide +kernel
theorem dX10_isNamed_20 : decode cX10_isNamed 20 = .ok (.goto 9, 3) := by decide +kernel
theorem dX10_isNamed_23 : decode cX10_isNamed 23 = .ok (.aload_n 0, 1) := by decide +kernel
theorem dX10_isNamed_24 : decode cX10_isNamed 24 = .ok (.invokevirtual 290, 3) := by decide +kernel
theorem dX10_isNamed_27 : decode cX10_isNamed 27 = .ok (.iload_n 1, 1) := by decide +kernel
theorem dX10_isNamed_28 : decode cX10_isNamed 28 = .ok (.irem, 1) := by decide +kernel
theorem dX10_isNamed_29 : decode cX10_isNamed 29 = .ok (.istore_n 3, 1) := by decide +kernel
theorem dX10_isNamed_30 : decode cX10_isNamed 30 = .ok (.aload_n 0, 1) := by decide +kernel
theorem dX10_isNamed_31 : decode cX10_isNamed 31 = .ok (.iload_n 2, 1) := by decide +kernel
theorem dX10_isNamed_32 : decode cX10_isNamed 32 = .ok (.iload_n 3, 1) := by decide +kernel
theorem dX10_isNamed_33 : decode cX10_isNamed 33 = .ok (.invokevirtual 99, 3) := by decide +kernel
theorem dX10_isNamed_36 : decode cX10_isNamed 36 = .ok (.iload_n 3, 1) := by decide +kernel
theorem dX10_isNamed_37 : decode cX10_isNamed 37 = .ok (.ifCond .lt 10, 3) := by decide +kernel
theorem dX10_isNamed_40 : decode cX10_isNamed 40 = .ok (.aload_n 0, 1) := by decide +kernel
theorem dX10_isNamed_41 : decode cX10_isNamed 41 = .ok (.iload_n 1, 1) := by decide +kernel
theorem dX10_isNamed_42 : decode cX10_isNamed 42 = .ok (.iload_n 3, 1) := by decide +kernel
theorem dX10_isNamed_43 : decode cX10_isNamed 43 = .ok (.iconst 1, 1) := by decide +kernel
theorem dX10_isNamed_44 : decode cX10_isNamed 44 = .ok (.invokevirtual 131, 3) := by decide +kernel
theorem dX10_isNamed_47 : decode cX10_isNamed 47 = .ok (.iload_n 1, 1) := by decide +kernel
theorem dX10_isNamed_48 : decode cX10_isNamed 48 = .ok (.ifCond .le 12, 3) := by decide +kernel
theorem dX10_isNamed_51 : decode cX10_isNamed 51 = .ok (.aload_n 0, 1) := by decide +kernel
theorem dX10_isNamed_52 : decode cX10_isNamed 52 = .ok (.iload_n 1, 1) := by decide +kernel
theorem dX10_isNamed_53 : decode cX10_isNamed 53 = .ok (.iload_n 1, 1) := by decide +kernel
theorem dX10_isNamed_54 : decode cX10_isNamed 54 = .ok (.iconst 1, 1) := by decide +kernel
theorem dX10_isNamed_55 : decode cX10_isNamed 55 = .ok (.isub, 1) := by decide +kernel
theorem dX10_isNamed_56 : decode cX10_isNamed 56 = .ok (.iconst 1, 1) := by decide +kernel
theorem dX10_isNamed_57 : decode cX10_isNamed 57 = .ok (.invokevirtual 131, 3) := by decide +kernel
theorem dX10_isNamed_60 : decode cX10_isNamed 60 = .ok (.aload_n 0, 1) := by decide +kernel
theorem dX10_isNamed_61 : decode cX10_isNamed 61 = .ok (.getfield 9, 3) := by decide +kernel
theorem dX10_isNamed_64 : decode cX10_isNamed 64 = .ok (.iconst 0, 1) := by decide +kernel
theorem dX10_isNamed_65 : decode cX10_isNamed 65 = .ok (.iaload, 1) := by decide +kernel
theorem dX10_isNamed_66 : decode cX10_isNamed 66 = .ok (.istore 4, 2) := by decide +kernel
theorem dX10_isNamed_68 : decode cX10_isNamed 68 = .ok (.aload_n 0, 1) := by decide +kernel
theorem dX10_isNamed_69 : decode cX10_isNamed 69 = .ok (.invokevirtual 290, 3) := by decide +kernel
theorem dX10_isNamed_72 : decode cX10_isNamed 72 = .ok (.iload 4, 2) := by decide +kernel
theorem dX10_isNamed_74 : decode cX10_isNamed 74 = .ok (.ifCond .ne 7, 3) := by decide +kernel
theorem dX10_isNamed_77 : decode cX10_isNamed 77 = .ok (.iconst 1, 1) := by decide +kernel
theorem dX10_isNamed_78 : decode cX10_isNamed 78 = .ok (.goto 5, 3) := by decide +kernel
theorem dX10_isNamed_81 : decode cX10_isNamed 81 = .ok (.iload 4, 2) := by decide +kernel
theorem dX10_isNamed_83 : decode cX10_isNamed 83 = .ok (.irem, 1) := by decide +kernel
theorem dX10_isNamed_84 : decode cX10_isNamed 84 = .ok (.istore 5, 2) := by decide +kernel
theorem dX10_isNamed_86 : decode cX10_isNamed 86 = .ok (.iconst 0, 1) := by decide +kernel
theorem dX10_isNamed_87 : decode cX10_isNamed 87 = .ok (.istore 6, 2) := by decide +kernel
theorem dX10_isNamed_89 : decode cX10_isNamed 89 = .ok (.iload 6, 2) := by decide +kernel
theorem dX10_isNamed_91 : decode cX10_isNamed 91 = .ok (.iload 4, 2) := by decide +kernel
theorem dX10_isNamed_93 : decode cX10_isNamed 93 = .ok (.if_icmp .ge 50, 3) := by decide +kernel
theorem dX10_isNamed_96 : decode cX10_isNamed 96 = .ok (.iload 5, 2) := by decide +kernel
theorem dX10_isNamed_98 : decode cX10_isNamed 98 = .ok (.iload 6, 2) := by decide +kernel
theorem dX10_isNamed_100 : decode cX10_isNamed 100 = .ok (.iadd, 1) := by decide +kernel
theorem dX10_isNamed_101 : decode cX10_isNamed 101 = .ok (.iload 4, 2) := by decide +kernel
theorem dX10_isNamed_103 : decode cX10_isNamed 103 = .ok (.irem, 1) := by decide +kernel
theorem dX10_isNamed_104 : decode cX10_isNamed 104 = .ok (.istore 7, 2) := by decide +kernel
theorem dX10_isNamed_106 : decode cX10_isNamed 106 = .ok (.aload_n 0, 1) := by decide +kernel
theorem dX10_isNamed_107 : decode cX10_isNamed 107 = .ok (.iload 7, 2) := by decide +kernel
theorem dX10_isNamed_109 : decode cX10_isNamed 109 = .ok (.invokevirtual 159, 3) := by decide +kernel
theorem dX10_isNamed_112 : decode cX10_isNamed 112 = .ok (.ifCond .ne 25, 3) := by decide +kernel
theorem dX10_isNamed_115 : decode cX10_isNamed 115 = .ok (.aload_n 0, 1) := by decide +kernel
theorem dX10_isNamed_116 : decode cX10_isNamed 116 = .ok (.iload_n 1, 1) := by decide +kernel
theorem dX10_isNamed_117 : decode cX10_isNamed 117 = .ok (.iload 7, 2) := by decide +kernel
theorem dX10_isNamed_119 : decode cX10_isNamed 119 = .ok (.invokevirtual 118, 3) := by decide +kernel
theorem dX10_isNamed_122 : decode cX10_isNamed 122 = .ok (.ifCond .eq 6, 3) := by decide +kernel
theorem dX10_isNamed_125 : decode cX10_isNamed 125 = .ok (.goto 12, 3) := by decide +kernel
theorem dX10_isNamed_128 : decode cX10_isNamed 128 = .ok (.aload_n 0, 1) := by decide +kernel
theorem dX10_isNamed_129 : decode cX10_isNamed 129 = .ok (.iload_n 1, 1) := by decide +kernel
theorem dX10_isNamed_130 : decode cX10_isNamed 130 = .ok (.iload 7, 2) := by decide +kernel
theorem dX10_isNamed_132 : decode cX10_isNamed 132 = .ok (.invokevirtual 251, 3) := by decide +kernel
theorem dX10_isNamed_135 : decode cX10_isNamed 135 = .ok (.iconst 1, 1) := by decide +kernel
theorem dX10_isNamed_136 : decode cX10_isNamed 136 = .ok (.ireturn, 1) := by decide +kernel
theorem dX10_isNamed_137 : decode cX10_isNamed 137 = .ok (.iinc 6 1, 3) := by decide +kernel
theorem dX10_isNamed_140 : decode cX10_isNamed 140 = .ok (.goto (-51), 3) := by decide +kernel
theorem dX10_isNamed_143 : decode cX10_isNamed 143 = .ok (.iconst 0, 1) := by decide +kernel
theorem dX10_isNamed_144 : decode cX10_isNamed 144 = .ok (.ireturn, 1) := by decide +kernel
theorem dX10_births_0 : decode cX10_births 0 = .ok (.iload_n 1, 1) := by decide +kernel
theorem dX10_births_1 : decode cX10_births 1 = .ok (.i2l, 1) := by decide +kernel
theorem dX10_births_2 : decode cX10_births 2 = .ok (.lconst 1, 1) := by decide +kernel
theorem dX10_births_3 : decode cX10_births 3 = .ok (.ldc2_w 82, 3) := by decide +kernel
theorem dX10_births_6 : decode cX10_births 6 = .ok (.invokestatic 48, 3) := by decide +kernel
theorem dX10_births_9 : decode cX10_births 9 = .ok (.ifCond .ne 10, 3) := by decide +kernel
theorem dX10_births_12 : decode cX10_births 12 = .ok (.aload_n 0, 1) := by decide +kernel
theorem dX10_births_13 : decode cX10_births 13 = .ok (.ldc 62, 2) := by decide +kernel
theorem dX10_births_15 : decode cX10_births 15 = .ok (.invokevirtual 63, 3) := by decide +kernel
theorem dX10_births_18 : decode cX10_births 18 = .ok (.ireturn, 1) := by decide +kernel
theorem dX10_births_19 : decode cX10_births 19 = .ok (.aload_n 0, 1) := by decide +kernel
theorem dX10_births_20 : decode cX10_births 20 = .ok (.getfield 9, 3) := by decide +kernel
theorem dX10_births_23 : decode cX10_births 23 = .ok (.iconst 1, 1) := by decide +kernel
theorem dX10_births_24 : decode cX10_births 24 = .ok (.iaload, 1) := by decide +kernel
theorem dX10_births_25 : decode cX10_births 25 = .ok (.iload_n 1, 1) := by decide +kernel
theorem dX10_births_26 : decode cX10_births 26 = .ok (.iadd, 1) := by decide +kernel
theorem dX10_births_27 : decode cX10_births 27 = .ok (.bipush 10, 2) := by decide +kernel
theorem dX10_births_29 : decode cX10_births 29 = .ok (.if_icmp .le 10, 3) := by decide +kernel
theorem dX10_births_32 : decode cX10_births 32 = .ok (.aload_n 0, 1) := by decide +kernel
theorem dX10_births_33 : decode cX10_births 33 = .ok (.ldc 66, 2) := by decide +kernel
theorem dX10_births_35 : decode cX10_births 35 = .ok (.invokevirtual 63, 3) := by decide +kernel
theorem dX10_births_38 : decode cX10_births 38 = .ok (.ireturn, 1) := by decide +kernel
theorem dX10_births_39 : decode cX10_births 39 = .ok (.iconst 0, 1) := by decide +kernel
theorem dX10_births_40 : decode cX10_births 40 = .ok (.istore_n 2, 1) := by decide +kernel
theorem dX10_births_41 : decode cX10_births 41 = .ok (.iconst 0, 1) := by decide +kernel
theorem dX10_births_42 : decode cX10_births 42 = .ok (.istore_n 3, 1) := by decide +kernel
theorem dX10_births_43 : decode cX10_births 43 = .ok (.iload_n 3, 1) := by decide +kernel
theorem dX10_births_44 : decode cX10_births 44 = .ok (.iload_n 1, 1) := by decide +kernel
theorem dX10_births_45 : decode cX10_births 45 = .ok (.if_icmp .ge 24, 3) := by decide +kernel
theorem dX10_births_48 : decode cX10_births 48 = .ok (.iload_n 2, 1) := by decide +kernel
theorem dX10_births_49 : decode cX10_births 49 = .ok (.aload_n 0, 1) := by decide +kernel
theorem dX10_births_50 : decode cX10_births 50 = .ok (.invokevirtual 293, 3) := by decide +kernel
theorem dX10_births_53 : decode cX10_births 53 = .ok (.ifCond .eq 7, 3) := by decide +kernel
theorem dX10_births_56 : decode cX10_births 56 = .ok (.iconst 1, 1) := by decide +kernel
theorem dX10_births_57 : decode cX10_births 57 = .ok (.goto 4, 3) := by decide +kernel
theorem dX10_births_60 : decode cX10_births 60 = .ok (.iconst 0, 1) := by decide +kernel
theorem dX10_births_61 : decode cX10_births 61 = .ok (.iadd, 1) := by decide +kernel
theorem dX10_births_62 : decode cX10_births 62 = .ok (.istore_n 2, 1) := by decide +kernel
theorem dX10_births_63 : decode cX10_births 63 = .ok (.iinc 3 1, 3) := by decide +kernel
theorem dX10_births_66 : decode cX10_births 66 = .ok (.goto (-23), 3) := by decide +kernel
theorem dX10_births_69 : decode cX10_births 69 = .ok (.iload_n 2, 1) := by decide +kernel
theorem dX10_births_70 : decode cX10_births 70 = .ok (.ireturn, 1) := by decide +kernel
theorem dX10_seed_0 : decode cX10_seed 0 = .ok (.aload_n 0, 1) := by decide +kernel
theorem dX10_seed_1 : decode cX10_seed 1 = .ok (.iconst 3, 1) := by decide +kernel
theorem dX10_seed_2 : decode cX10_seed 2 = .ok (.iload_n 1, 1) := by decide +kernel
theorem dX10_seed_3 : decode cX10_seed 3 = .ok (.invokevirtual 84, 3) := by decide +kernel
theorem dX10_seed_6 : decode cX10_seed 6 = .ok (.ireturn, 1) := by decide +kernel
theorem dX10_bodyOf_0 : decode cX10_bodyOf 0 = .ok (.iload_n 0, 1) := by decide +kernel
theorem dX10_bodyOf_1 : decode cX10_bodyOf 1 = .ok (.tableswitch 112 0 5 #[39, 44, 56, 67, 79, 100], 39) := by decide +kernel
theorem dX10_bodyOf_40 : decode cX10_bodyOf 40 = .ok (.bipush 10, 2) := by decide +kernel
theorem dX10_bodyOf_42 : decode cX10_bodyOf 42 = .ok (.iload_n 1, 1) := by decide +kernel
theorem dX10_bodyOf_43 : decode cX10_bodyOf 43 = .ok (.iadd, 1) := by decide +kernel
theorem dX10_bodyOf_44 : decode cX10_bodyOf 44 = .ok (.ireturn, 1) := by decide +kernel
theorem dX10_bodyOf_45 : decode cX10_bodyOf 45 = .ok (.iload_n 1, 1) := by decide +kernel
theorem dX10_bodyOf_46 : decode cX10_bodyOf 46 = .ok (.iconst 1, 1) := by decide +kernel
theorem dX10_bodyOf_47 : decode cX10_bodyOf 47 = .ok (.if_icmp .ne 8, 3) := by decide +kernel
theorem dX10_bodyOf_50 : decode cX10_bodyOf 50 = .ok (.bipush 20, 2) := by decide +kernel
theorem dX10_bodyOf_52 : decode cX10_bodyOf 52 = .ok (.goto 4, 3) := by decide +kernel
theorem dX10_bodyOf_55 : decode cX10_bodyOf 55 = .ok (.iconst 0, 1) := by decide +kernel
theorem dX10_bodyOf_56 : decode cX10_bodyOf 56 = .ok (.ireturn, 1) := by decide +kernel
theorem dX10_bodyOf_57 : decode cX10_bodyOf 57 = .ok (.iload_n 1, 1) := by decide +kernel
theorem dX10_bodyOf_58 : decode cX10_bodyOf 58 = .ok (.ifCond .ne 8, 3) := by decide +kernel
theorem dX10_bodyOf_61 : decode cX10_bodyOf 61 = .ok (.bipush 30, 2) := by decide +kernel
theorem dX10_bodyOf_63 : decode cX10_bodyOf 63 = .ok (.goto 4, 3) := by decide +kernel
theorem dX10_bodyOf_66 : decode cX10_bodyOf 66 = .ok (.iconst 0, 1) := by decide +kernel
theorem dX10_bodyOf_67 : decode cX10_bodyOf 67 = .ok (.ireturn, 1) := by decide +kernel
theorem dX10_bodyOf_68 : decode cX10_bodyOf 68 = .ok (.iload_n 1, 1) := by decide +kernel
theorem dX10_bodyOf_69 : decode cX10_bodyOf 69 = .ok (.iconst 2, 1) := by decide +kernel
theorem dX10_bodyOf_70 : decode cX10_bodyOf 70 = .ok (.if_icmp .ne 8, 3) := by decide +kernel
theorem dX10_bodyOf_73 : decode cX10_bodyOf 73 = .ok (.bipush 40, 2) := by decide +kernel
theorem dX10_bodyOf_75 : decode cX10_bodyOf 75 = .ok (.goto 4, 3) := by decide +kernel
theorem dX10_bodyOf_78 : decode cX10_bodyOf 78 = .ok (.iconst 0, 1) := by decide +kernel
theorem dX10_bodyOf_79 : decode cX10_bodyOf 79 = .ok (.ireturn, 1) := by decide +kernel
theorem dX10_bodyOf_80 : decode cX10_bodyOf 80 = .ok (.iload_n 1, 1) := by decide +kernel
theorem dX10_bodyOf_81 : decode cX10_bodyOf 81 = .ok (.ifCond .ne 8, 3) := by decide +kernel
theorem dX10_bodyOf_84 : decode cX10_bodyOf 84 = .ok (.bipush 50, 2) := by decide +kernel
theorem dX10_bodyOf_86 : decode cX10_bodyOf 86 = .ok (.goto 14, 3) := by decide +kernel
theorem dX10_bodyOf_89 : decode cX10_bodyOf 89 = .ok (.iload_n 1, 1) := by decide +kernel
theorem dX10_bodyOf_90 : decode cX10_bodyOf 90 = .ok (.iconst 3, 1) := by decide +kernel
theorem dX10_bodyOf_91 : decode cX10_bodyOf 91 = .ok (.if_icmp .ne 8, 3) := by decide +kernel
theorem dX10_bodyOf_94 : decode cX10_bodyOf 94 = .ok (.bipush 51, 2) := by decide +kernel
theorem dX10_bodyOf_96 : decode cX10_bodyOf 96 = .ok (.goto 4, 3) := by decide +kernel
theorem dX10_bodyOf_99 : decode cX10_bodyOf 99 = .ok (.iconst 0, 1) := by decide +kernel
theorem dX10_bodyOf_100 : decode cX10_bodyOf 100 = .ok (.ireturn, 1) := by decide +kernel
theorem dX10_bodyOf_101 : decode cX10_bodyOf 101 = .ok (.iload_n 1, 1) := by decide +kernel
theorem dX10_bodyOf_102 : decode cX10_bodyOf 102 = .ok (.iconst 1, 1) := by decide +kernel
theorem dX10_bodyOf_103 : decode cX10_bodyOf 103 = .ok (.if_icmp .ne 8, 3) := by decide +kernel
theorem dX10_bodyOf_106 : decode cX10_bodyOf 106 = .ok (.bipush 60, 2) := by decide +kernel
theorem dX10_bodyOf_108 : decode cX10_bodyOf 108 = .ok (.goto 4, 3) := by decide +kernel
theorem dX10_bodyOf_111 : decode cX10_bodyOf 111 = .ok (.iconst 0, 1) := by decide +kernel
theorem dX10_bodyOf_112 : decode cX10_bodyOf 112 = .ok (.ireturn, 1) := by decide +kernel
theorem dX10_bodyOf_113 : decode cX10_bodyOf 113 = .ok (.iload_n 1, 1) := by decide +kernel
theorem dX10_bodyOf_114 : decode cX10_bodyOf 114 = .ok (.iconst 2, 1) := by decide +kernel
theorem dX10_bodyOf_115 : decode cX10_bodyOf 115 = .ok (.if_icmp .ne 8, 3) := by decide +kernel
theorem dX10_bodyOf_118 : decode cX10_bodyOf 118 = .ok (.bipush 70, 2) := by decide +kernel
theorem dX10_bodyOf_120 : decode cX10_bodyOf 120 = .ok (.goto 14, 3) := by decide +kernel
theorem dX10_bodyOf_123 : decode cX10_bodyOf 123 = .ok (.iload_n 1, 1) := by decide +kernel
theorem dX10_bodyOf_124 : decode cX10_bodyOf 124 = .ok (.iconst 3, 1) := by decide +kernel
theorem dX10_bodyOf_125 : decode cX10_bodyOf 125 = .ok (.if_icmp .ne 8, 3) := by decide +kernel
theorem dX10_bodyOf_128 : decode cX10_bodyOf 128 = .ok (.bipush 71, 2) := by decide +kernel
theorem dX10_bodyOf_130 : decode cX10_bodyOf 130 = .ok (.goto 4, 3) := by decide +kernel
theorem dX10_bodyOf_133 : decode cX10_bodyOf 133 = .ok (.iconst 0, 1) := by decide +kernel
theorem dX10_bodyOf_134 : decode cX10_bodyOf 134 = .ok (.ireturn, 1) := by decide +kernel
theorem dX10_says_0 : decode cX10_says 0 = .ok (.aload_n 0, 1) := by decide +kernel
theorem dX10_says_1 : decode cX10_says 1 = .ok (.aload_n 0, 1) := by decide +kernel
theorem dX10_says_2 : decode cX10_says 2 = .ok (.aload_n 0, 1) := by decide +kernel
theorem dX10_says_3 : decode cX10_says 3 = .ok (.getfield 296, 3) := by decide +kernel
theorem dX10_says_6 : decode cX10_says 6 = .ok (.iconst 0, 1) := by decide +kernel
theorem dX10_says_7 : decode cX10_says 7 = .ok (.invokevirtual 91, 3) := by decide +kernel
theorem dX10_says_10 : decode cX10_says 10 = .ok (.iload_n 1, 1) := by decide +kernel
theorem dX10_says_11 : decode cX10_says 11 = .ok (.iload_n 2, 1) := by decide +kernel
theorem dX10_says_12 : decode cX10_says 12 = .ok (.invokevirtual 299, 3) := by decide +kernel
theorem dX10_says_15 : decode cX10_says 15 = .ok (.ireturn, 1) := by decide +kernel
theorem dX10_speaks_0 : decode cX10_speaks 0 = .ok (.iload_n 1, 1) := by decide +kernel
theorem dX10_speaks_1 : decode cX10_speaks 1 = .ok (.istore 4, 2) := by decide +kernel
theorem dX10_speaks_3 : decode cX10_speaks 3 = .ok (.iload 4, 2) := by decide +kernel
theorem dX10_speaks_5 : decode cX10_speaks 5 = .ok (.iload_n 2, 1) := by decide +kernel
theorem dX10_speaks_6 : decode cX10_speaks 6 = .ok (.invokestatic 302, 3) := by decide +kernel
theorem dX10_speaks_9 : decode cX10_speaks 9 = .ok (.ifCond .ne 13, 3) := by decide +kernel
theorem dX10_speaks_12 : decode cX10_speaks 12 = .ok (.iload 4, 2) := by decide +kernel
theorem dX10_speaks_14 : decode cX10_speaks 14 = .ok (.invokestatic 121, 3) := by decide +kernel
theorem dX10_speaks_17 : decode cX10_speaks 17 = .ok (.istore 4, 2) := by decide +kernel
theorem dX10_speaks_19 : decode cX10_speaks 19 = .ok (.goto (-16), 3) := by decide +kernel
theorem dX10_speaks_22 : decode cX10_speaks 22 = .ok (.iload 4, 2) := by decide +kernel
theorem dX10_speaks_24 : decode cX10_speaks 24 = .ok (.iload_n 2, 1) := by decide +kernel
theorem dX10_speaks_25 : decode cX10_speaks 25 = .ok (.invokestatic 302, 3) := by decide +kernel
theorem dX10_speaks_28 : decode cX10_speaks 28 = .ok (.istore 5, 2) := by decide +kernel
theorem dX10_speaks_30 : decode cX10_speaks 30 = .ok (.aload_n 0, 1) := by decide +kernel
theorem dX10_speaks_31 : decode cX10_speaks 31 = .ok (.getfield 305, 3) := by decide +kernel
theorem dX10_speaks_34 : decode cX10_speaks 34 = .ok (.bipush 40, 2) := by decide +kernel
theorem dX10_speaks_36 : decode cX10_speaks 36 = .ok (.if_icmp .ge 24, 3) := by decide +kernel
theorem dX10_speaks_39 : decode cX10_speaks 39 = .ok (.aload_n 0, 1) := by decide +kernel
theorem dX10_speaks_40 : decode cX10_speaks 40 = .ok (.getfield 35, 3) := by decide +kernel
theorem dX10_speaks_43 : decode cX10_speaks 43 = .ok (.aload_n 0, 1) := by decide +kernel
theorem dX10_speaks_44 : decode cX10_speaks 44 = .ok (.getfield 305, 3) := by decide +kernel
theorem dX10_speaks_47 : decode cX10_speaks 47 = .ok (.iload 5, 2) := by decide +kernel
theorem dX10_speaks_49 : decode cX10_speaks 49 = .ok (.iastore, 1) := by decide +kernel
theorem dX10_speaks_50 : decode cX10_speaks 50 = .ok (.aload_n 0, 1) := by decide +kernel
theorem dX10_speaks_51 : decode cX10_speaks 51 = .ok (.dup, 1) := by decide +kernel
theorem dX10_speaks_52 : decode cX10_speaks 52 = .ok (.getfield 305, 3) := by decide +kernel
theorem dX10_speaks_55 : decode cX10_speaks 55 = .ok (.iconst 1, 1) := by decide +kernel
theorem dX10_speaks_56 : decode cX10_speaks 56 = .ok (.iadd, 1) := by decide +kernel
theorem dX10_speaks_57 : decode cX10_speaks 57 = .ok (.putfield 305, 3) := by decide +kernel
theorem dX10_speaks_60 : decode cX10_speaks 60 = .ok (.aload_n 0, 1) := by decide +kernel
theorem dX10_speaks_61 : decode cX10_speaks 61 = .ok (.iload 5, 2) := by decide +kernel
theorem dX10_speaks_63 : decode cX10_speaks 63 = .ok (.iload 4, 2) := by decide +kernel
theorem dX10_speaks_65 : decode cX10_speaks 65 = .ok (.invokestatic 121, 3) := by decide +kernel
theorem dX10_speaks_68 : decode cX10_speaks 68 = .ok (.iload_n 3, 1) := by decide +kernel
theorem dX10_speaks_69 : decode cX10_speaks 69 = .ok (.invokevirtual 308, 3) := by decide +kernel
theorem dX10_speaks_72 : decode cX10_speaks 72 = .ok (.ireturn, 1) := by decide +kernel
theorem dX10_does_0 : decode cX10_does 0 = .ok (.iload_n 1, 1) := by decide +kernel
theorem dX10_does_1 : decode cX10_does 1 = .ok (.lookupswitch 243 #[(10, 99), (11, 106), (12, 115), (13, 127), (20, 145), (30, 164), (40, 174), (50, 183), (51, 193), (60, 212), (70, 225)], 99) := by decide +kernel
theorem dX10_does_100 : decode cX10_does 100 = .ok (.iload_n 3, 1) := by decide +kernel
theorem dX10_does_101 : decode cX10_does 101 = .ok (.aload_n 0, 1) := by decide +kernel
theorem dX10_does_102 : decode cX10_does 102 = .ok (.getfield 296, 3) := by decide +kernel
theorem dX10_does_105 : decode cX10_does 105 = .ok (.iadd, 1) := by decide +kernel
theorem dX10_does_106 : decode cX10_does 106 = .ok (.ireturn, 1) := by decide +kernel
theorem dX10_does_107 : decode cX10_does 107 = .ok (.aload_n 0, 1) := by decide +kernel
theorem dX10_does_108 : decode cX10_does 108 = .ok (.iconst 0, 1) := by decide +kernel
theorem dX10_does_109 : decode cX10_does 109 = .ok (.iload_n 3, 1) := by decide +kernel
theorem dX10_does_110 : decode cX10_does 110 = .ok (.invokevirtual 311, 3) := by decide +kernel
theorem dX10_does_113 : decode cX10_does 113 = .ok (.iconst 2, 1) := by decide +kernel
theorem dX10_does_114 : decode cX10_does 114 = .ok (.imul, 1) := by decide +kernel
theorem dX10_does_115 : decode cX10_does 115 = .ok (.ireturn, 1) := by decide +kernel
theorem dX10_does_116 : decode cX10_does 116 = .ok (.iload_n 3, 1) := by decide +kernel
theorem dX10_does_117 : decode cX10_does 117 = .ok (.aload_n 0, 1) := by decide +kernel
theorem dX10_does_118 : decode cX10_does 118 = .ok (.aload_n 0, 1) := by decide +kernel
theorem dX10_does_119 : decode cX10_does 119 = .ok (.getfield 296, 3) := by decide +kernel
theorem dX10_does_122 : decode cX10_does 122 = .ok (.iconst 1, 1) := by decide +kernel
theorem dX10_does_123 : decode cX10_does 123 = .ok (.invokevirtual 91, 3) := by decide +kernel
theorem dX10_does_126 : decode cX10_does 126 = .ok (.isub, 1) := by decide +kernel
theorem dX10_does_127 : decode cX10_does 127 = .ok (.ireturn, 1) := by decide +kernel
theorem dX10_does_128 : decode cX10_does 128 = .ok (.aload_n 0, 1) := by decide +kernel
theorem dX10_does_129 : decode cX10_does 129 = .ok (.iconst 1, 1) := by decide +kernel
theorem dX10_does_130 : decode cX10_does 130 = .ok (.iload_n 3, 1) := by decide +kernel
theorem dX10_does_131 : decode cX10_does 131 = .ok (.invokevirtual 311, 3) := by decide +kernel
theorem dX10_does_134 : decode cX10_does 134 = .ok (.istore 4, 2) := by decide +kernel
theorem dX10_does_136 : decode cX10_does 136 = .ok (.iload 4, 2) := by decide +kernel
theorem dX10_does_138 : decode cX10_does 138 = .ok (.aload_n 0, 1) := by decide +kernel
theorem dX10_does_139 : decode cX10_does 139 = .ok (.iconst 2, 1) := by decide +kernel
theorem dX10_does_140 : decode cX10_does 140 = .ok (.iload_n 3, 1) := by decide +kernel
theorem dX10_does_141 : decode cX10_does 141 = .ok (.invokevirtual 311, 3) := by decide +kernel
theorem dX10_does_144 : decode cX10_does 144 = .ok (.ixor, 1) := by decide +kernel
theorem dX10_does_145 : decode cX10_does 145 = .ok (.ireturn, 1) := by decide +kernel
theorem dX10_does_146 : decode cX10_does 146 = .ok (.aload_n 0, 1) := by decide +kernel
theorem dX10_does_147 : decode cX10_does 147 = .ok (.iload_n 2, 1) := by decide +kernel
theorem dX10_does_148 : decode cX10_does 148 = .ok (.iconst 1, 1) := by decide +kernel
theorem dX10_does_149 : decode cX10_does 149 = .ok (.iload_n 3, 1) := by decide +kernel
theorem dX10_does_150 : decode cX10_does 150 = .ok (.invokevirtual 299, 3) := by decide +kernel
theorem dX10_does_153 : decode cX10_does 153 = .ok (.istore 4, 2) := by decide +kernel
theorem dX10_does_155 : decode cX10_does 155 = .ok (.iload 4, 2) := by decide +kernel
theorem dX10_does_157 : decode cX10_does 157 = .ok (.aload_n 0, 1) := by decide +kernel
theorem dX10_does_158 : decode cX10_does 158 = .ok (.iconst 2, 1) := by decide +kernel
theorem dX10_does_159 : decode cX10_does 159 = .ok (.iconst 1, 1) := by decide +kernel
theorem dX10_does_160 : decode cX10_does 160 = .ok (.invokevirtual 311, 3) := by decide +kernel
theorem dX10_does_163 : decode cX10_does 163 = .ok (.isub, 1) := by decide +kernel
theorem dX10_does_164 : decode cX10_does 164 = .ok (.ireturn, 1) := by decide +kernel
theorem dX10_does_165 : decode cX10_does 165 = .ok (.aload_n 0, 1) := by decide +kernel
theorem dX10_does_166 : decode cX10_does 166 = .ok (.iload_n 2, 1) := by decide +kernel
theorem dX10_does_167 : decode cX10_does 167 = .ok (.iconst 0, 1) := by decide +kernel
theorem dX10_does_168 : decode cX10_does 168 = .ok (.iload_n 3, 1) := by decide +kernel
theorem dX10_does_169 : decode cX10_does 169 = .ok (.invokevirtual 299, 3) := by decide +kernel
theorem dX10_does_172 : decode cX10_does 172 = .ok (.iconst 3, 1) := by decide +kernel
theorem dX10_does_173 : decode cX10_does 173 = .ok (.imul, 1) := by decide +kernel
theorem dX10_does_174 : decode cX10_does 174 = .ok (.ireturn, 1) := by decide +kernel
theorem dX10_does_175 : decode cX10_does 175 = .ok (.aload_n 0, 1) := by decide +kernel
theorem dX10_does_176 : decode cX10_does 176 = .ok (.iload_n 2, 1) := by decide +kernel
theorem dX10_does_177 : decode cX10_does 177 = .ok (.iconst 2, 1) := by decide +kernel
theorem dX10_does_178 : decode cX10_does 178 = .ok (.iload_n 3, 1) := by decide +kernel
theorem dX10_does_179 : decode cX10_does 179 = .ok (.invokevirtual 299, 3) := by decide +kernel
theorem dX10_does_182 : decode cX10_does 182 = .ok (.ineg, 1) := by decide +kernel
theorem dX10_does_183 : decode cX10_does 183 = .ok (.ireturn, 1) := by decide +kernel
theorem dX10_does_184 : decode cX10_does 184 = .ok (.aload_n 0, 1) := by decide +kernel
theorem dX10_does_185 : decode cX10_does 185 = .ok (.iload_n 2, 1) := by decide +kernel
theorem dX10_does_186 : decode cX10_does 186 = .ok (.iconst 0, 1) := by decide +kernel
theorem dX10_does_187 : decode cX10_does 187 = .ok (.iload_n 3, 1) := by decide +kernel
theorem dX10_does_188 : decode cX10_does 188 = .ok (.iconst 1, 1) := by decide +kernel
theorem dX10_does_189 : decode cX10_does 189 = .ok (.iadd, 1) := by decide +kernel
theorem dX10_does_190 : decode cX10_does 190 = .ok (.invokevirtual 299, 3) := by decide +kernel
theorem dX10_does_193 : decode cX10_does 193 = .ok (.ireturn, 1) := by decide +kernel
theorem dX10_does_194 : decode cX10_does 194 = .ok (.aload_n 0, 1) := by decide +kernel
theorem dX10_does_195 : decode cX10_does 195 = .ok (.iload_n 2, 1) := by decide +kernel
theorem dX10_does_196 : decode cX10_does 196 = .ok (.iconst 3, 1) := by decide +kernel
theorem dX10_does_197 : decode cX10_does 197 = .ok (.iload_n 3, 1) := by decide +kernel
theorem dX10_does_198 : decode cX10_does 198 = .ok (.invokevirtual 299, 3) := by decide +kernel
theorem dX10_does_201 : decode cX10_does 201 = .ok (.istore 4, 2) := by decide +kernel
theorem dX10_does_203 : decode cX10_does 203 = .ok (.iload 4, 2) := by decide +kernel
theorem dX10_does_205 : decode cX10_does 205 = .ok (.aload_n 0, 1) := by decide +kernel
theorem dX10_does_206 : decode cX10_does 206 = .ok (.iconst 0, 1) := by decide +kernel
theorem dX10_does_207 : decode cX10_does 207 = .ok (.iconst 2, 1) := by decide +kernel
theorem dX10_does_208 : decode cX10_does 208 = .ok (.invokevirtual 311, 3) := by decide +kernel
theorem dX10_does_211 : decode cX10_does 211 = .ok (.isub, 1) := by decide +kernel
theorem dX10_does_212 : decode cX10_does 212 = .ok (.ireturn, 1) := by decide +kernel
theorem dX10_does_213 : decode cX10_does 213 = .ok (.aload_n 0, 1) := by decide +kernel
theorem dX10_does_214 : decode cX10_does 214 = .ok (.iload_n 2, 1) := by decide +kernel
theorem dX10_does_215 : decode cX10_does 215 = .ok (.iconst 1, 1) := by decide +kernel
theorem dX10_does_216 : decode cX10_does 216 = .ok (.iload_n 3, 1) := by decide +kernel
theorem dX10_does_217 : decode cX10_does 217 = .ok (.invokevirtual 299, 3) := by decide +kernel
theorem dX10_does_220 : decode cX10_does 220 = .ok (.aload_n 0, 1) := by decide +kernel
theorem dX10_does_221 : decode cX10_does 221 = .ok (.getfield 296, 3) := by decide +kernel
theorem dX10_does_224 : decode cX10_does 224 = .ok (.ixor, 1) := by decide +kernel
theorem dX10_does_225 : decode cX10_does 225 = .ok (.ireturn, 1) := by decide +kernel
theorem dX10_does_226 : decode cX10_does 226 = .ok (.aload_n 0, 1) := by decide +kernel
theorem dX10_does_227 : decode cX10_does 227 = .ok (.iload_n 2, 1) := by decide +kernel
theorem dX10_does_228 : decode cX10_does 228 = .ok (.iconst 2, 1) := by decide +kernel
theorem dX10_does_229 : decode cX10_does 229 = .ok (.iload_n 3, 1) := by decide +kernel
theorem dX10_does_230 : decode cX10_does 230 = .ok (.invokevirtual 299, 3) := by decide +kernel
theorem dX10_does_233 : decode cX10_does 233 = .ok (.aload_n 0, 1) := by decide +kernel
theorem dX10_does_234 : decode cX10_does 234 = .ok (.aload_n 0, 1) := by decide +kernel
theorem dX10_does_235 : decode cX10_does 235 = .ok (.getfield 296, 3) := by decide +kernel
theorem dX10_does_238 : decode cX10_does 238 = .ok (.iconst 1, 1) := by decide +kernel
theorem dX10_does_239 : decode cX10_does 239 = .ok (.invokevirtual 91, 3) := by decide +kernel
theorem dX10_does_242 : decode cX10_does 242 = .ok (.iadd, 1) := by decide +kernel
theorem dX10_does_243 : decode cX10_does 243 = .ok (.ireturn, 1) := by decide +kernel
theorem dX10_does_244 : decode cX10_does 244 = .ok (.aload_n 0, 1) := by decide +kernel
theorem dX10_does_245 : decode cX10_does 245 = .ok (.iconst 1, 1) := by decide +kernel
theorem dX10_does_246 : decode cX10_does 246 = .ok (.iload_n 3, 1) := by decide +kernel
theorem dX10_does_247 : decode cX10_does 247 = .ok (.invokevirtual 311, 3) := by decide +kernel
theorem dX10_does_250 : decode cX10_does 250 = .ok (.istore 4, 2) := by decide +kernel
theorem dX10_does_252 : decode cX10_does 252 = .ok (.iload 4, 2) := by decide +kernel
theorem dX10_does_254 : decode cX10_does 254 = .ok (.aload_n 0, 1) := by decide +kernel
theorem dX10_does_255 : decode cX10_does 255 = .ok (.iload_n 2, 1) := by decide +kernel
theorem dX10_does_256 : decode cX10_does 256 = .ok (.iconst 3, 1) := by decide +kernel
theorem dX10_does_257 : decode cX10_does 257 = .ok (.iload_n 3, 1) := by decide +kernel
theorem dX10_does_258 : decode cX10_does 258 = .ok (.invokevirtual 299, 3) := by decide +kernel
theorem dX10_does_261 : decode cX10_does 261 = .ok (.isub, 1) := by decide +kernel
theorem dX10_does_262 : decode cX10_does 262 = .ok (.ireturn, 1) := by decide +kernel
theorem dX10_voice_0 : decode cX10_voice 0 = .ok (.aload_n 0, 1) := by decide +kernel
theorem dX10_voice_1 : decode cX10_voice 1 = .ok (.iload_n 1, 1) := by decide +kernel
theorem dX10_voice_2 : decode cX10_voice 2 = .ok (.invokevirtual 113, 3) := by decide +kernel
theorem dX10_voice_5 : decode cX10_voice 5 = .ok (.ifCond .eq 15, 3) := by decide +kernel
theorem dX10_voice_8 : decode cX10_voice 8 = .ok (.iload_n 2, 1) := by decide +kernel
theorem dX10_voice_9 : decode cX10_voice 9 = .ok (.i2l, 1) := by decide +kernel
theorem dX10_voice_10 : decode cX10_voice 10 = .ok (.lconst 0, 1) := by decide +kernel
theorem dX10_voice_11 : decode cX10_voice 11 = .ok (.ldc2_w 314, 3) := by decide +kernel
theorem dX10_voice_14 : decode cX10_voice 14 = .ok (.invokestatic 48, 3) := by decide +kernel
theorem dX10_voice_17 : decode cX10_voice 17 = .ok (.ifCond .ne 10, 3) := by decide +kernel
theorem dX10_voice_20 : decode cX10_voice 20 = .ok (.aload_n 0, 1) := by decide +kernel
theorem dX10_voice_21 : decode cX10_voice 21 = .ok (.ldc 62, 2) := by decide +kernel
theorem dX10_voice_23 : decode cX10_voice 23 = .ok (.invokevirtual 63, 3) := by decide +kernel
theorem dX10_voice_26 : decode cX10_voice 26 = .ok (.ireturn, 1) := by decide +kernel
theorem dX10_voice_27 : decode cX10_voice 27 = .ok (.aload_n 0, 1) := by decide +kernel
theorem dX10_voice_28 : decode cX10_voice 28 = .ok (.iconst 0, 1) := by decide +kernel
theorem dX10_voice_29 : decode cX10_voice 29 = .ok (.putfield 305, 3) := by decide +kernel
theorem dX10_voice_32 : decode cX10_voice 32 = .ok (.aload_n 0, 1) := by decide +kernel
theorem dX10_voice_33 : decode cX10_voice 33 = .ok (.iload_n 1, 1) := by decide +kernel
theorem dX10_voice_34 : decode cX10_voice 34 = .ok (.putfield 296, 3) := by decide +kernel
theorem dX10_voice_37 : decode cX10_voice 37 = .ok (.aload_n 0, 1) := by decide +kernel
theorem dX10_voice_38 : decode cX10_voice 38 = .ok (.iload_n 2, 1) := by decide +kernel
theorem dX10_voice_39 : decode cX10_voice 39 = .ok (.iload_n 3, 1) := by decide +kernel
theorem dX10_voice_40 : decode cX10_voice 40 = .ok (.invokevirtual 311, 3) := by decide +kernel
theorem dX10_voice_43 : decode cX10_voice 43 = .ok (.ireturn, 1) := by decide +kernel
theorem dX10_trace_0 : decode cX10_trace 0 = .ok (.iload_n 1, 1) := by decide +kernel
theorem dX10_trace_1 : decode cX10_trace 1 = .ok (.i2l, 1) := by decide +kernel
theorem dX10_trace_2 : decode cX10_trace 2 = .ok (.lconst 0, 1) := by decide +kernel
theorem dX10_trace_3 : decode cX10_trace 3 = .ok (.aload_n 0, 1) := by decide +kernel
theorem dX10_trace_4 : decode cX10_trace 4 = .ok (.getfield 305, 3) := by decide +kernel
theorem dX10_trace_7 : decode cX10_trace 7 = .ok (.iconst 1, 1) := by decide +kernel
theorem dX10_trace_8 : decode cX10_trace 8 = .ok (.isub, 1) := by decide +kernel
theorem dX10_trace_9 : decode cX10_trace 9 = .ok (.i2l, 1) := by decide +kernel
theorem dX10_trace_10 : decode cX10_trace 10 = .ok (.invokestatic 48, 3) := by decide +kernel
theorem dX10_trace_13 : decode cX10_trace 13 = .ok (.ifCond .eq 12, 3) := by decide +kernel
theorem dX10_trace_16 : decode cX10_trace 16 = .ok (.aload_n 0, 1) := by decide +kernel
theorem dX10_trace_17 : decode cX10_trace 17 = .ok (.getfield 35, 3) := by decide +kernel
theorem dX10_trace_20 : decode cX10_trace 20 = .ok (.iload_n 1, 1) := by decide +kernel
theorem dX10_trace_21 : decode cX10_trace 21 = .ok (.iaload, 1) := by decide +kernel
theorem dX10_trace_22 : decode cX10_trace 22 = .ok (.goto 9, 3) := by decide +kernel
theorem dX10_trace_25 : decode cX10_trace 25 = .ok (.aload_n 0, 1) := by decide +kernel
theorem dX10_trace_26 : decode cX10_trace 26 = .ok (.ldc 138, 2) := by decide +kernel
theorem dX10_trace_28 : decode cX10_trace 28 = .ok (.invokevirtual 63, 3) := by decide +kernel
theorem dX10_trace_31 : decode cX10_trace 31 = .ok (.ireturn, 1) := by decide +kernel
theorem dX10_isSheet_0 : decode cX10_isSheet 0 = .ok (.iload_n 0, 1) := by decide +kernel
theorem dX10_isSheet_1 : decode cX10_isSheet 1 = .ok (.i2l, 1) := by decide +kernel
theorem dX10_isSheet_2 : decode cX10_isSheet 2 = .ok (.lconst 0, 1) := by decide +kernel
theorem dX10_isSheet_3 : decode cX10_isSheet 3 = .ok (.ldc2_w 314, 3) := by decide +kernel
theorem dX10_isSheet_6 : decode cX10_isSheet 6 = .ok (.invokestatic 48, 3) := by decide +kernel
theorem dX10_isSheet_9 : decode cX10_isSheet 9 = .ok (.ireturn, 1) := by decide +kernel
theorem dX10_sheet_0 : decode cX10_sheet 0 = .ok (.iload_n 1, 1) := by decide +kernel
theorem dX10_sheet_1 : decode cX10_sheet 1 = .ok (.invokestatic 135, 3) := by decide +kernel
theorem dX10_sheet_4 : decode cX10_sheet 4 = .ok (.ifCond .eq 25, 3) := by decide +kernel
theorem dX10_sheet_7 : decode cX10_sheet 7 = .ok (.iload_n 2, 1) := by decide +kernel
theorem dX10_sheet_8 : decode cX10_sheet 8 = .ok (.ifCond .eq 28, 3) := by decide +kernel
theorem dX10_sheet_11 : decode cX10_sheet 11 = .ok (.iload_n 2, 1) := by decide +kernel
theorem dX10_sheet_12 : decode cX10_sheet 12 = .ok (.bipush 8, 2) := by decide +kernel
theorem dX10_sheet_14 : decode cX10_sheet 14 = .ok (.if_icmp .eq 22, 3) := by decide +kernel
theorem dX10_sheet_17 : decode cX10_sheet 17 = .ok (.iload_n 2, 1) := by decide +kernel
theorem dX10_sheet_18 : decode cX10_sheet 18 = .ok (.bipush 16, 2) := by decide +kernel
theorem dX10_sheet_20 : decode cX10_sheet 20 = .ok (.if_icmp .eq 16, 3) := by decide +kernel
theorem dX10_sheet_23 : decode cX10_sheet 23 = .ok (.iload_n 2, 1) := by decide +kernel
theorem dX10_sheet_24 : decode cX10_sheet 24 = .ok (.bipush 32, 2) := by decide +kernel
theorem dX10_sheet_26 : decode cX10_sheet 26 = .ok (.if_icmp .eq 10, 3) := by decide +kernel
theorem dX10_sheet_29 : decode cX10_sheet 29 = .ok (.aload_n 0, 1) := by decide +kernel
theorem dX10_sheet_30 : decode cX10_sheet 30 = .ok (.ldc 62, 2) := by decide +kernel
theorem dX10_sheet_32 : decode cX10_sheet 32 = .ok (.invokevirtual 63, 3) := by decide +kernel
theorem dX10_sheet_35 : decode cX10_sheet 35 = .ok (.ireturn, 1) := by decide +kernel
theorem dX10_sheet_36 : decode cX10_sheet 36 = .ok (.iload_n 2, 1) := by decide +kernel
theorem dX10_sheet_37 : decode cX10_sheet 37 = .ok (.ifCond .eq 15, 3) := by decide +kernel
theorem dX10_sheet_40 : decode cX10_sheet 40 = .ok (.iload_n 3, 1) := by decide +kernel
theorem dX10_sheet_41 : decode cX10_sheet 41 = .ok (.ifCond .ge 11, 3) := by decide +kernel
theorem dX10_sheet_44 : decode cX10_sheet 44 = .ok (.aload_n 0, 1) := by decide +kernel
theorem dX10_sheet_45 : decode cX10_sheet 45 = .ok (.ldc_w 260, 3) := by decide +kernel
theorem dX10_sheet_48 : decode cX10_sheet 48 = .ok (.invokevirtual 63, 3) := by decide +kernel
theorem dX10_sheet_51 : decode cX10_sheet 51 = .ok (.ireturn, 1) := by decide +kernel
theorem dX10_sheet_52 : decode cX10_sheet 52 = .ok (.iload_n 2, 1) := by decide +kernel
theorem dX10_sheet_53 : decode cX10_sheet 53 = .ok (.ifCond .eq 16, 3) := by decide +kernel
theorem dX10_sheet_56 : decode cX10_sheet 56 = .ok (.iload_n 3, 1) := by decide +kernel
theorem dX10_sheet_57 : decode cX10_sheet 57 = .ok (.bipush 40, 2) := by decide +kernel
theorem dX10_sheet_59 : decode cX10_sheet 59 = .ok (.if_icmp .le 10, 3) := by decide +kernel
theorem dX10_sheet_62 : decode cX10_sheet 62 = .ok (.aload_n 0, 1) := by decide +kernel
theorem dX10_sheet_63 : decode cX10_sheet 63 = .ok (.ldc 62, 2) := by decide +kernel
theorem dX10_sheet_65 : decode cX10_sheet 65 = .ok (.invokevirtual 63, 3) := by decide +kernel
theorem dX10_sheet_68 : decode cX10_sheet 68 = .ok (.ireturn, 1) := by decide +kernel
theorem dX10_sheet_69 : decode cX10_sheet 69 = .ok (.aload_n 0, 1) := by decide +kernel
theorem dX10_sheet_70 : decode cX10_sheet 70 = .ok (.getfield 38, 3) := by decide +kernel
theorem dX10_sheet_73 : decode cX10_sheet 73 = .ok (.iload_n 1, 1) := by decide +kernel
theorem dX10_sheet_74 : decode cX10_sheet 74 = .ok (.iload_n 2, 1) := by decide +kernel
theorem dX10_sheet_75 : decode cX10_sheet 75 = .ok (.iastore, 1) := by decide +kernel
theorem dX10_sheet_76 : decode cX10_sheet 76 = .ok (.aload_n 0, 1) := by decide +kernel
theorem dX10_sheet_77 : decode cX10_sheet 77 = .ok (.getfield 41, 3) := by decide +kernel
theorem dX10_sheet_80 : decode cX10_sheet 80 = .ok (.iload_n 1, 1) := by decide +kernel
theorem dX10_sheet_81 : decode cX10_sheet 81 = .ok (.iload_n 2, 1) := by decide +kernel
theorem dX10_sheet_82 : decode cX10_sheet 82 = .ok (.ifCond .ne 7, 3) := by decide +kernel
theorem dX10_sheet_85 : decode cX10_sheet 85 = .ok (.iconst 0, 1) := by decide +kernel
theorem dX10_sheet_86 : decode cX10_sheet 86 = .ok (.goto 4, 3) := by decide +kernel
theorem dX10_sheet_89 : decode cX10_sheet 89 = .ok (.iload_n 3, 1) := by decide +kernel
theorem dX10_sheet_90 : decode cX10_sheet 90 = .ok (.iastore, 1) := by decide +kernel
theorem dX10_sheet_91 : decode cX10_sheet 91 = .ok (.iconst 0, 1) := by decide +kernel
theorem dX10_sheet_92 : decode cX10_sheet 92 = .ok (.istore 4, 2) := by decide +kernel
theorem dX10_sheet_94 : decode cX10_sheet 94 = .ok (.iload 4, 2) := by decide +kernel
theorem dX10_sheet_96 : decode cX10_sheet 96 = .ok (.bipush 40, 2) := by decide +kernel
theorem dX10_sheet_98 : decode cX10_sheet 98 = .ok (.if_icmp .ge 22, 3) := by decide +kernel
theorem dX10_sheet_101 : decode cX10_sheet 101 = .ok (.aload_n 0, 1) := by decide +kernel
theorem dX10_sheet_102 : decode cX10_sheet 102 = .ok (.getfield 44, 3) := by decide +kernel
theorem dX10_sheet_105 : decode cX10_sheet 105 = .ok (.bipush 40, 2) := by decide +kernel
theorem dX10_sheet_107 : decode cX10_sheet 107 = .ok (.iload_n 1, 1) := by decide +kernel
theorem dX10_sheet_108 : decode cX10_sheet 108 = .ok (.imul, 1) := by decide +kernel
theorem dX10_sheet_109 : decode cX10_sheet 109 = .ok (.iload 4, 2) := by decide +kernel
theorem dX10_sheet_111 : decode cX10_sheet 111 = .ok (.iadd, 1) := by decide +kernel
theorem dX10_sheet_112 : decode cX10_sheet 112 = .ok (.iconst 0, 1) := by decide +kernel
theorem dX10_sheet_113 : decode cX10_sheet 113 = .ok (.iastore, 1) := by decide +kernel
theorem dX10_sheet_114 : decode cX10_sheet 114 = .ok (.iinc 4 1, 3) := by decide +kernel
theorem dX10_sheet_117 : decode cX10_sheet 117 = .ok (.goto (-23), 3) := by decide +kernel
theorem dX10_sheet_120 : decode cX10_sheet 120 = .ok (.iconst 1, 1) := by decide +kernel
theorem dX10_sheet_121 : decode cX10_sheet 121 = .ok (.ireturn, 1) := by decide +kernel
theorem dX10_put_0 : decode cX10_put 0 = .ok (.iload_n 1, 1) := by decide +kernel
theorem dX10_put_1 : decode cX10_put 1 = .ok (.invokestatic 135, 3) := by decide +kernel
theorem dX10_put_4 : decode cX10_put 4 = .ok (.ifCond .ne 10, 3) := by decide +kernel
theorem dX10_put_7 : decode cX10_put 7 = .ok (.aload_n 0, 1) := by decide +kernel
theorem dX10_put_8 : decode cX10_put 8 = .ok (.ldc 62, 2) := by decide +kernel
theorem dX10_put_10 : decode cX10_put 10 = .ok (.invokevirtual 63, 3) := by decide +kernel
theorem dX10_put_13 : decode cX10_put 13 = .ok (.ireturn, 1) := by decide +kernel
theorem dX10_put_14 : decode cX10_put 14 = .ok (.aload_n 0, 1) := by decide +kernel
theorem dX10_put_15 : decode cX10_put 15 = .ok (.getfield 38, 3) := by decide +kernel
theorem dX10_put_18 : decode cX10_put 18 = .ok (.iload_n 1, 1) := by decide +kernel
theorem dX10_put_19 : decode cX10_put 19 = .ok (.iaload, 1) := by decide +kernel
theorem dX10_put_20 : decode cX10_put 20 = .ok (.ifCond .ne 10, 3) := by decide +kernel
theorem dX10_put_23 : decode cX10_put 23 = .ok (.aload_n 0, 1) := by decide +kernel
theorem dX10_put_24 : decode cX10_put 24 = .ok (.ldc 138, 2) := by decide +kernel
theorem dX10_put_26 : decode cX10_put 26 = .ok (.invokevirtual 63, 3) := by decide +kernel
theorem dX10_put_29 : decode cX10_put 29 = .ok (.ireturn, 1) := by decide +kernel
theorem dX10_put_30 : decode cX10_put 30 = .ok (.iload_n 2, 1) := by decide +kernel
theorem dX10_put_31 : decode cX10_put 31 = .ok (.i2l, 1) := by decide +kernel
theorem dX10_put_32 : decode cX10_put 32 = .ok (.lconst 0, 1) := by decide +kernel
theorem dX10_put_33 : decode cX10_put 33 = .ok (.aload_n 0, 1) := by decide +kernel
theorem dX10_put_34 : decode cX10_put 34 = .ok (.getfield 41, 3) := by decide +kernel
theorem dX10_put_37 : decode cX10_put 37 = .ok (.iload_n 1, 1) := by decide +kernel
theorem dX10_put_38 : decode cX10_put 38 = .ok (.iaload, 1) := by decide +kernel
theorem dX10_put_39 : decode cX10_put 39 = .ok (.iconst 1, 1) := by decide +kernel
theorem dX10_put_40 : decode cX10_put 40 = .ok (.isub, 1) := by decide +kernel
theorem dX10_put_41 : decode cX10_put 41 = .ok (.i2l, 1) := by decide +kernel
theorem dX10_put_42 : decode cX10_put 42 = .ok (.invokestatic 48, 3) := by decide +kernel
theorem dX10_put_45 : decode cX10_put 45 = .ok (.ifCond .ne 10, 3) := by decide +kernel
theorem dX10_put_48 : decode cX10_put 48 = .ok (.aload_n 0, 1) := by decide +kernel
theorem dX10_put_49 : decode cX10_put 49 = .ok (.ldc 62, 2) := by decide +kernel
theorem dX10_put_51 : decode cX10_put 51 = .ok (.invokevirtual 63, 3) := by decide +kernel
theorem dX10_put_54 : decode cX10_put 54 = .ok (.ireturn, 1) := by decide +kernel
theorem dX10_put_55 : decode cX10_put 55 = .ok (.aload_n 0, 1) := by decide +kernel
theorem dX10_put_56 : decode cX10_put 56 = .ok (.getfield 44, 3) := by decide +kernel
theorem dX10_put_59 : decode cX10_put 59 = .ok (.bipush 40, 2) := by decide +kernel
theorem dX10_put_61 : decode cX10_put 61 = .ok (.iload_n 1, 1) := by decide +kernel
theorem dX10_put_62 : decode cX10_put 62 = .ok (.imul, 1) := by decide +kernel
theorem dX10_put_63 : decode cX10_put 63 = .ok (.iload_n 2, 1) := by decide +kernel
theorem dX10_put_64 : decode cX10_put 64 = .ok (.iadd, 1) := by decide +kernel
theorem dX10_put_65 : decode cX10_put 65 = .ok (.aload_n 0, 1) := by decide +kernel
theorem dX10_put_66 : decode cX10_put 66 = .ok (.getfield 38, 3) := by decide +kernel
theorem dX10_put_69 : decode cX10_put 69 = .ok (.iload_n 1, 1) := by decide +kernel
theorem dX10_put_70 : decode cX10_put 70 = .ok (.iaload, 1) := by decide +kernel
theorem dX10_put_71 : decode cX10_put 71 = .ok (.bipush 8, 2) := by decide +kernel
theorem dX10_put_73 : decode cX10_put 73 = .ok (.if_icmp .ne 8, 3) := by decide +kernel
theorem dX10_put_76 : decode cX10_put 76 = .ok (.iload_n 3, 1) := by decide +kernel
theorem dX10_put_77 : decode cX10_put 77 = .ok (.i2b, 1) := by decide +kernel
theorem dX10_put_78 : decode cX10_put 78 = .ok (.goto 20, 3) := by decide +kernel
theorem dX10_put_81 : decode cX10_put 81 = .ok (.aload_n 0, 1) := by decide +kernel
theorem dX10_put_82 : decode cX10_put 82 = .ok (.getfield 38, 3) := by decide +kernel
theorem dX10_put_85 : decode cX10_put 85 = .ok (.iload_n 1, 1) := by decide +kernel
theorem dX10_put_86 : decode cX10_put 86 = .ok (.iaload, 1) := by decide +kernel
theorem dX10_put_87 : decode cX10_put 87 = .ok (.bipush 16, 2) := by decide +kernel
theorem dX10_put_89 : decode cX10_put 89 = .ok (.if_icmp .ne 8, 3) := by decide +kernel
theorem dX10_put_92 : decode cX10_put 92 = .ok (.iload_n 3, 1) := by decide +kernel
theorem dX10_put_93 : decode cX10_put 93 = .ok (.i2s, 1) := by decide +kernel
theorem dX10_put_94 : decode cX10_put 94 = .ok (.goto 4, 3) := by decide +kernel
theorem dX10_put_97 : decode cX10_put 97 = .ok (.iload_n 3, 1) := by decide +kernel
theorem dX10_put_98 : decode cX10_put 98 = .ok (.iastore, 1) := by decide +kernel
theorem dX10_put_99 : decode cX10_put 99 = .ok (.iconst 1, 1) := by decide +kernel
theorem dX10_put_100 : decode cX10_put 100 = .ok (.ireturn, 1) := by decide +kernel
theorem dX10_move_0 : decode cX10_move 0 = .ok (.iload_n 1, 1) := by decide +kernel
theorem dX10_move_1 : decode cX10_move 1 = .ok (.invokestatic 135, 3) := by decide +kernel
theorem dX10_move_4 : decode cX10_move 4 = .ok (.ifCond .eq 10, 3) := by decide +kernel
theorem dX10_move_7 : decode cX10_move 7 = .ok (.iload_n 3, 1) := by decide +kernel
theorem dX10_move_8 : decode cX10_move 8 = .ok (.invokestatic 135, 3) := by decide +kernel
theorem dX10_move_11 : decode cX10_move 11 = .ok (.ifCond .ne 10, 3) := by decide +kernel
theorem dX10_move_14 : decode cX10_move 14 = .ok (.aload_n 0, 1) := by decide +kernel
theorem dX10_move_15 : decode cX10_move 15 = .ok (.ldc 62, 2) := by decide +kernel
theorem dX10_move_17 : decode cX10_move 17 = .ok (.invokevirtual 63, 3) := by decide +kernel
theorem dX10_move_20 : decode cX10_move 20 = .ok (.ireturn, 1) := by decide +kernel
theorem dX10_move_21 : decode cX10_move 21 = .ok (.aload_n 0, 1) := by decide +kernel
theorem dX10_move_22 : decode cX10_move 22 = .ok (.getfield 38, 3) := by decide +kernel
theorem dX10_move_25 : decode cX10_move 25 = .ok (.iload_n 1, 1) := by decide +kernel
theorem dX10_move_26 : decode cX10_move 26 = .ok (.iaload, 1) := by decide +kernel
theorem dX10_move_27 : decode cX10_move 27 = .ok (.ifCond .eq 12, 3) := by decide +kernel
theorem dX10_move_30 : decode cX10_move 30 = .ok (.aload_n 0, 1) := by decide +kernel
theorem dX10_move_31 : decode cX10_move 31 = .ok (.getfield 38, 3) := by decide +kernel
theorem dX10_move_34 : decode cX10_move 34 = .ok (.iload_n 3, 1) := by decide +kernel
theorem dX10_move_35 : decode cX10_move 35 = .ok (.iaload, 1) := by decide +kernel
theorem dX10_move_36 : decode cX10_move 36 = .ok (.ifCond .ne 10, 3) := by decide +kernel
theorem dX10_move_39 : decode cX10_move 39 = .ok (.aload_n 0, 1) := by decide +kernel
theorem dX10_move_40 : decode cX10_move 40 = .ok (.ldc 138, 2) := by decide +kernel
theorem dX10_move_42 : decode cX10_move 42 = .ok (.invokevirtual 63, 3) := by decide +kernel
theorem dX10_move_45 : decode cX10_move 45 = .ok (.ireturn, 1) := by decide +kernel
theorem dX10_move_46 : decode cX10_move 46 = .ok (.aload_n 0, 1) := by decide +kernel
theorem dX10_move_47 : decode cX10_move 47 = .ok (.getfield 38, 3) := by decide +kernel
theorem dX10_move_50 : decode cX10_move 50 = .ok (.iload_n 1, 1) := by decide +kernel
theorem dX10_move_51 : decode cX10_move 51 = .ok (.iaload, 1) := by decide +kernel
theorem dX10_move_52 : decode cX10_move 52 = .ok (.aload_n 0, 1) := by decide +kernel
theorem dX10_move_53 : decode cX10_move 53 = .ok (.getfield 38, 3) := by decide +kernel
theorem dX10_move_56 : decode cX10_move 56 = .ok (.iload_n 3, 1) := by decide +kernel
theorem dX10_move_57 : decode cX10_move 57 = .ok (.iaload, 1) := by decide +kernel
theorem dX10_move_58 : decode cX10_move 58 = .ok (.if_icmp .eq 10, 3) := by decide +kernel
theorem dX10_move_61 : decode cX10_move 61 = .ok (.aload_n 0, 1) := by decide +kernel
theorem dX10_move_62 : decode cX10_move 62 = .ok (.ldc 127, 2) := by decide +kernel
theorem dX10_move_64 : decode cX10_move 64 = .ok (.invokevirtual 63, 3) := by decide +kernel
theorem dX10_move_67 : decode cX10_move 67 = .ok (.ireturn, 1) := by decide +kernel
theorem dX10_move_68 : decode cX10_move 68 = .ok (.iload 5, 2) := by decide +kernel
theorem dX10_move_70 : decode cX10_move 70 = .ok (.ifCond .lt 39, 3) := by decide +kernel
theorem dX10_move_73 : decode cX10_move 73 = .ok (.iload_n 2, 1) := by decide +kernel
theorem dX10_move_74 : decode cX10_move 74 = .ok (.ifCond .lt 35, 3) := by decide +kernel
theorem dX10_move_77 : decode cX10_move 77 = .ok (.iload 4, 2) := by decide +kernel
theorem dX10_move_79 : decode cX10_move 79 = .ok (.ifCond .lt 30, 3) := by decide +kernel
theorem dX10_move_82 : decode cX10_move 82 = .ok (.iload 5, 2) := by decide +kernel
theorem dX10_move_84 : decode cX10_move 84 = .ok (.aload_n 0, 1) := by decide +kernel
theorem dX10_move_85 : decode cX10_move 85 = .ok (.getfield 41, 3) := by decide +kernel
theorem dX10_move_88 : decode cX10_move 88 = .ok (.iload_n 1, 1) := by decide +kernel
theorem dX10_move_89 : decode cX10_move 89 = .ok (.iaload, 1) := by decide +kernel
theorem dX10_move_90 : decode cX10_move 90 = .ok (.iload_n 2, 1) := by decide +kernel
theorem dX10_move_91 : decode cX10_move 91 = .ok (.isub, 1) := by decide +kernel
theorem dX10_move_92 : decode cX10_move 92 = .ok (.if_icmp .gt 17, 3) := by decide +kernel
theorem dX10_move_95 : decode cX10_move 95 = .ok (.iload 5, 2) := by decide +kernel
theorem dX10_move_97 : decode cX10_move 97 = .ok (.aload_n 0, 1) := by decide +kernel
theorem dX10_move_98 : decode cX10_move 98 = .ok (.getfield 41, 3) := by decide +kernel
theorem dX10_move_101 : decode cX10_move 101 = .ok (.iload_n 3, 1) := by decide +kernel
theorem dX10_move_102 : decode cX10_move 102 = .ok (.iaload, 1) := by decide +kernel
theorem dX10_move_103 : decode cX10_move 103 = .ok (.iload 4, 2) := by decide +kernel
theorem dX10_move_105 : decode cX10_move 105 = .ok (.isub, 1) := by decide +kernel
theorem dX10_move_106 : decode cX10_move 106 = .ok (.if_icmp .le 10, 3) := by decide +kernel
theorem dX10_move_109 : decode cX10_move 109 = .ok (.aload_n 0, 1) := by decide +kernel
theorem dX10_move_110 : decode cX10_move 110 = .ok (.ldc 62, 2) := by decide +kernel
theorem dX10_move_112 : decode cX10_move 112 = .ok (.invokevirtual 63, 3) := by decide +kernel
theorem dX10_move_115 : decode cX10_move 115 = .ok (.ireturn, 1) := by decide +kernel
theorem dX10_move_116 : decode cX10_move 116 = .ok (.iload_n 1, 1) := by decide +kernel
theorem dX10_move_117 : decode cX10_move 117 = .ok (.iload_n 3, 1) := by decide +kernel
theorem dX10_move_118 : decode cX10_move 118 = .ok (.if_icmp .ne 13, 3) := by decide +kernel
theorem dX10_move_121 : decode cX10_move 121 = .ok (.iload_n 2, 1) := by decide +kernel
theorem dX10_move_122 : decode cX10_move 122 = .ok (.iload 4, 2) := by decide +kernel
theorem dX10_move_124 : decode cX10_move 124 = .ok (.if_icmp .ge 7, 3) := by decide +kernel
theorem dX10_move_127 : decode cX10_move 127 = .ok (.iconst 1, 1) := by decide +kernel
theorem dX10_move_128 : decode cX10_move 128 = .ok (.goto 4, 3) := by decide +kernel
theorem dX10_move_131 : decode cX10_move 131 = .ok (.iconst 0, 1) := by decide +kernel
theorem dX10_move_132 : decode cX10_move 132 = .ok (.istore 6, 2) := by decide +kernel
theorem dX10_move_134 : decode cX10_move 134 = .ok (.iconst 0, 1) := by decide +kernel
theorem dX10_move_135 : decode cX10_move 135 = .ok (.istore 7, 2) := by decide +kernel
theorem dX10_move_137 : decode cX10_move 137 = .ok (.iload 7, 2) := by decide +kernel
theorem dX10_move_139 : decode cX10_move 139 = .ok (.iload 5, 2) := by decide +kernel
theorem dX10_move_141 : decode cX10_move 141 = .ok (.if_icmp .ge 57, 3) := by decide +kernel
theorem dX10_move_144 : decode cX10_move 144 = .ok (.iload 6, 2) := by decide +kernel
theorem dX10_move_146 : decode cX10_move 146 = .ok (.ifCond .eq 13, 3) := by decide +kernel
theorem dX10_move_149 : decode cX10_move 149 = .ok (.iload 5, 2) := by decide +kernel
theorem dX10_move_151 : decode cX10_move 151 = .ok (.iconst 1, 1) := by decide +kernel
theorem dX10_move_152 : decode cX10_move 152 = .ok (.isub, 1) := by decide +kernel
theorem dX10_move_153 : decode cX10_move 153 = .ok (.iload 7, 2) := by decide +kernel
theorem dX10_move_155 : decode cX10_move 155 = .ok (.isub, 1) := by decide +kernel
theorem dX10_move_156 : decode cX10_move 156 = .ok (.goto 5, 3) := by decide +kernel
theorem dX10_move_159 : decode cX10_move 159 = .ok (.iload 7, 2) := by decide +kernel
theorem dX10_move_161 : decode cX10_move 161 = .ok (.istore 8, 2) := by decide +kernel
theorem dX10_move_163 : decode cX10_move 163 = .ok (.aload_n 0, 1) := by decide +kernel
theorem dX10_move_164 : decode cX10_move 164 = .ok (.getfield 44, 3) := by decide +kernel
theorem dX10_move_167 : decode cX10_move 167 = .ok (.bipush 40, 2) := by decide +kernel
theorem dX10_move_169 : decode cX10_move 169 = .ok (.iload_n 3, 1) := by decide +kernel
theorem dX10_move_170 : decode cX10_move 170 = .ok (.imul, 1) := by decide +kernel
theorem dX10_move_171 : decode cX10_move 171 = .ok (.iload 4, 2) := by decide +kernel
theorem dX10_move_173 : decode cX10_move 173 = .ok (.iadd, 1) := by decide +kernel
theorem dX10_move_174 : decode cX10_move 174 = .ok (.iload 8, 2) := by decide +kernel
theorem dX10_move_176 : decode cX10_move 176 = .ok (.iadd, 1) := by decide +kernel
theorem dX10_move_177 : decode cX10_move 177 = .ok (.aload_n 0, 1) := by decide +kernel
theorem dX10_move_178 : decode cX10_move 178 = .ok (.getfield 44, 3) := by decide +kernel
theorem dX10_move_181 : decode cX10_move 181 = .ok (.bipush 40, 2) := by decide +kernel
theorem dX10_move_183 : decode cX10_move 183 = .ok (.iload_n 1, 1) := by decide +kernel
theorem dX10_move_184 : decode cX10_move 184 = .ok (.imul, 1) := by decide +kernel
theorem dX10_move_185 : decode cX10_move 185 = .ok (.iload_n 2, 1) := by decide +kernel
theorem dX10_move_186 : decode cX10_move 186 = .ok (.iadd, 1) := by decide +kernel
theorem dX10_move_187 : decode cX10_move 187 = .ok (.iload 8, 2) := by decide +kernel
theorem dX10_move_189 : decode cX10_move 189 = .ok (.iadd, 1) := by decide +kernel
theorem dX10_move_190 : decode cX10_move 190 = .ok (.iaload, 1) := by decide +kernel
theorem dX10_move_191 : decode cX10_move 191 = .ok (.iastore, 1) := by decide +kernel
theorem dX10_move_192 : decode cX10_move 192 = .ok (.iinc 7 1, 3) := by decide +kernel
theorem dX10_move_195 : decode cX10_move 195 = .ok (.goto (-58), 3) := by decide +kernel
theorem dX10_move_198 : decode cX10_move 198 = .ok (.iload 5, 2) := by decide +kernel
theorem dX10_move_200 : decode cX10_move 200 = .ok (.ireturn, 1) := by decide +kernel
theorem dX10_image_0 : decode cX10_image 0 = .ok (.iconst 0, 1) := by decide +kernel
theorem dX10_image_1 : decode cX10_image 1 = .ok (.istore_n 1, 1) := by decide +kernel
theorem dX10_image_2 : decode cX10_image 2 = .ok (.iload_n 1, 1) := by decide +kernel
theorem dX10_image_3 : decode cX10_image 3 = .ok (.sipush 372, 3) := by decide +kernel
theorem dX10_image_6 : decode cX10_image 6 = .ok (.if_icmp .ge 21, 3) := by decide +kernel
theorem dX10_image_9 : decode cX10_image 9 = .ok (.aload_n 0, 1) := by decide +kernel
theorem dX10_image_10 : decode cX10_image 10 = .ok (.getfield 13, 3) := by decide +kernel
theorem dX10_image_13 : decode cX10_image 13 = .ok (.iload_n 1, 1) := by decide +kernel
theorem dX10_image_14 : decode cX10_image 14 = .ok (.aload_n 0, 1) := by decide +kernel
theorem dX10_image_15 : decode cX10_image 15 = .ok (.getfield 9, 3) := by decide +kernel
theorem dX10_image_18 : decode cX10_image 18 = .ok (.iload_n 1, 1) := by decide +kernel
theorem dX10_image_19 : decode cX10_image 19 = .ok (.iaload, 1) := by decide +kernel
theorem dX10_image_20 : decode cX10_image 20 = .ok (.iastore, 1) := by decide +kernel
theorem dX10_image_21 : decode cX10_image 21 = .ok (.iinc 1 1, 3) := by decide +kernel
theorem dX10_image_24 : decode cX10_image 24 = .ok (.goto (-22), 3) := by decide +kernel
theorem dX10_image_27 : decode cX10_image 27 = .ok (.aload_n 0, 1) := by decide +kernel
theorem dX10_image_28 : decode cX10_image 28 = .ok (.dup, 1) := by decide +kernel
theorem dX10_image_29 : decode cX10_image 29 = .ok (.getfield 316, 3) := by decide +kernel
theorem dX10_image_32 : decode cX10_image 32 = .ok (.iconst 1, 1) := by decide +kernel
theorem dX10_image_33 : decode cX10_image 33 = .ok (.iadd, 1) := by decide +kernel
theorem dX10_image_34 : decode cX10_image 34 = .ok (.putfield 316, 3) := by decide +kernel
theorem dX10_image_37 : decode cX10_image 37 = .ok (.aload_n 0, 1) := by decide +kernel
theorem dX10_image_38 : decode cX10_image 38 = .ok (.getfield 316, 3) := by decide +kernel
theorem dX10_image_41 : decode cX10_image 41 = .ok (.ireturn, 1) := by decide +kernel
theorem dX10_restore_0 : decode cX10_restore 0 = .ok (.aload_n 0, 1) := by decide +kernel
theorem dX10_restore_1 : decode cX10_restore 1 = .ok (.getfield 316, 3) := by decide +kernel
theorem dX10_restore_4 : decode cX10_restore 4 = .ok (.ifCond .ne 10, 3) := by decide +kernel
theorem dX10_restore_7 : decode cX10_restore 7 = .ok (.aload_n 0, 1) := by decide +kernel
theorem dX10_restore_8 : decode cX10_restore 8 = .ok (.ldc 138, 2) := by decide +kernel
theorem dX10_restore_10 : decode cX10_restore 10 = .ok (.invokevirtual 63, 3) := by decide +kernel
theorem dX10_restore_13 : decode cX10_restore 13 = .ok (.ireturn, 1) := by decide +kernel
theorem dX10_restore_14 : decode cX10_restore 14 = .ok (.iconst 0, 1) := by decide +kernel
theorem dX10_restore_15 : decode cX10_restore 15 = .ok (.istore_n 1, 1) := by decide +kernel
theorem dX10_restore_16 : decode cX10_restore 16 = .ok (.iload_n 1, 1) := by decide +kernel
theorem dX10_restore_17 : decode cX10_restore 17 = .ok (.sipush 372, 3) := by decide +kernel
theorem dX10_restore_20 : decode cX10_restore 20 = .ok (.if_icmp .ge 21, 3) := by decide +kernel
theorem dX10_restore_23 : decode cX10_restore 23 = .ok (.aload_n 0, 1) := by decide +kernel
theorem dX10_restore_24 : decode cX10_restore 24 = .ok (.getfield 9, 3) := by decide +kernel
theorem dX10_restore_27 : decode cX10_restore 27 = .ok (.iload_n 1, 1) := by decide +kernel
theorem dX10_restore_28 : decode cX10_restore 28 = .ok (.aload_n 0, 1) := by decide +kernel
theorem dX10_restore_29 : decode cX10_restore 29 = .ok (.getfield 13, 3) := by decide +kernel
theorem dX10_restore_32 : decode cX10_restore 32 = .ok (.iload_n 1, 1) := by decide +kernel
theorem dX10_restore_33 : decode cX10_restore 33 = .ok (.iaload, 1) := by decide +kernel
theorem dX10_restore_34 : decode cX10_restore 34 = .ok (.iastore, 1) := by decide +kernel
theorem dX10_restore_35 : decode cX10_restore 35 = .ok (.iinc 1 1, 3) := by decide +kernel
theorem dX10_restore_38 : decode cX10_restore 38 = .ok (.goto (-22), 3) := by decide +kernel
theorem dX10_restore_41 : decode cX10_restore 41 = .ok (.aload_n 0, 1) := by decide +kernel
theorem dX10_restore_42 : decode cX10_restore 42 = .ok (.getfield 9, 3) := by decide +kernel
theorem dX10_restore_45 : decode cX10_restore 45 = .ok (.iconst 1, 1) := by decide +kernel
theorem dX10_restore_46 : decode cX10_restore 46 = .ok (.iaload, 1) := by decide +kernel
theorem dX10_restore_47 : decode cX10_restore 47 = .ok (.ireturn, 1) := by decide +kernel
theorem dX10_tell_0 : decode cX10_tell 0 = .ok (.aload_n 0, 1) := by decide +kernel
theorem dX10_tell_1 : decode cX10_tell 1 = .ok (.getfield 9, 3) := by decide +kernel
theorem dX10_tell_4 : decode cX10_tell 4 = .ok (.iconst 5, 1) := by decide +kernel
theorem dX10_tell_5 : decode cX10_tell 5 = .ok (.iaload, 1) := by decide +kernel
theorem dX10_tell_6 : decode cX10_tell 6 = .ok (.bipush 20, 2) := by decide +kernel
theorem dX10_tell_8 : decode cX10_tell 8 = .ok (.if_icmp .ne 10, 3) := by decide +kernel
theorem dX10_tell_11 : decode cX10_tell 11 = .ok (.aload_n 0, 1) := by decide +kernel
theorem dX10_tell_12 : decode cX10_tell 12 = .ok (.ldc 66, 2) := by decide +kernel
theorem dX10_tell_14 : decode cX10_tell 14 = .ok (.invokevirtual 63, 3) := by decide +kernel
theorem dX10_tell_17 : decode cX10_tell 17 = .ok (.ireturn, 1) := by decide +kernel
theorem dX10_tell_18 : decode cX10_tell 18 = .ok (.aload_n 0, 1) := by decide +kernel
theorem dX10_tell_19 : decode cX10_tell 19 = .ok (.getfield 9, 3) := by decide +kernel
theorem dX10_tell_22 : decode cX10_tell 22 = .ok (.sipush 250, 3) := by decide +kernel
theorem dX10_tell_25 : decode cX10_tell 25 = .ok (.aload_n 0, 1) := by decide +kernel
theorem dX10_tell_26 : decode cX10_tell 26 = .ok (.getfield 9, 3) := by decide +kernel
theorem dX10_tell_29 : decode cX10_tell 29 = .ok (.iconst 5, 1) := by decide +kernel
theorem dX10_tell_30 : decode cX10_tell 30 = .ok (.iaload, 1) := by decide +kernel
theorem dX10_tell_31 : decode cX10_tell 31 = .ok (.iadd, 1) := by decide +kernel
theorem dX10_tell_32 : decode cX10_tell 32 = .ok (.iload_n 1, 1) := by decide +kernel
theorem dX10_tell_33 : decode cX10_tell 33 = .ok (.iastore, 1) := by decide +kernel
theorem dX10_tell_34 : decode cX10_tell 34 = .ok (.aload_n 0, 1) := by decide +kernel
theorem dX10_tell_35 : decode cX10_tell 35 = .ok (.getfield 9, 3) := by decide +kernel
theorem dX10_tell_38 : decode cX10_tell 38 = .ok (.iconst 5, 1) := by decide +kernel
theorem dX10_tell_39 : decode cX10_tell 39 = .ok (.dup2, 1) := by decide +kernel
theorem dX10_tell_40 : decode cX10_tell 40 = .ok (.iaload, 1) := by decide +kernel
theorem dX10_tell_41 : decode cX10_tell 41 = .ok (.iconst 1, 1) := by decide +kernel
theorem dX10_tell_42 : decode cX10_tell 42 = .ok (.iadd, 1) := by decide +kernel
theorem dX10_tell_43 : decode cX10_tell 43 = .ok (.iastore, 1) := by decide +kernel
theorem dX10_tell_44 : decode cX10_tell 44 = .ok (.aload_n 0, 1) := by decide +kernel
theorem dX10_tell_45 : decode cX10_tell 45 = .ok (.getfield 9, 3) := by decide +kernel
theorem dX10_tell_48 : decode cX10_tell 48 = .ok (.iconst 5, 1) := by decide +kernel
theorem dX10_tell_49 : decode cX10_tell 49 = .ok (.iaload, 1) := by decide +kernel
theorem dX10_tell_50 : decode cX10_tell 50 = .ok (.ireturn, 1) := by decide +kernel
theorem dX10_mayTell_0 : decode cX10_mayTell 0 = .ok (.aload_n 0, 1) := by decide +kernel
theorem dX10_mayTell_1 : decode cX10_mayTell 1 = .ok (.getfield 9, 3) := by decide +kernel
theorem dX10_mayTell_4 : decode cX10_mayTell 4 = .ok (.sipush 250, 3) := by decide +kernel
theorem dX10_mayTell_7 : decode cX10_mayTell 7 = .ok (.iload_n 1, 1) := by decide +kernel
theorem dX10_mayTell_8 : decode cX10_mayTell 8 = .ok (.iadd, 1) := by decide +kernel
theorem dX10_mayTell_9 : decode cX10_mayTell 9 = .ok (.iaload, 1) := by decide +kernel
theorem dX10_mayTell_10 : decode cX10_mayTell 10 = .ok (.istore_n 2, 1) := by decide +kernel
theorem dX10_mayTell_11 : decode cX10_mayTell 11 = .ok (.aload_n 0, 1) := by decide +kernel
theorem dX10_mayTell_12 : decode cX10_mayTell 12 = .ok (.iload_n 2, 1) := by decide +kernel
theorem dX10_mayTell_13 : decode cX10_mayTell 13 = .ok (.invokevirtual 78, 3) := by decide +kernel
theorem dX10_mayTell_16 : decode cX10_mayTell 16 = .ok (.ifCond .eq 11, 3) := by decide +kernel
theorem dX10_mayTell_19 : decode cX10_mayTell 19 = .ok (.aload_n 0, 1) := by decide +kernel
theorem dX10_mayTell_20 : decode cX10_mayTell 20 = .ok (.iload_n 2, 1) := by decide +kernel
theorem dX10_mayTell_21 : decode cX10_mayTell 21 = .ok (.invokevirtual 159, 3) := by decide +kernel
theorem dX10_mayTell_24 : decode cX10_mayTell 24 = .ok (.ifCond .eq 5, 3) := by decide +kernel
theorem dX10_mayTell_27 : decode cX10_mayTell 27 = .ok (.iconst 0, 1) := by decide +kernel
theorem dX10_mayTell_28 : decode cX10_mayTell 28 = .ok (.ireturn, 1) := by decide +kernel
theorem dX10_mayTell_29 : decode cX10_mayTell 29 = .ok (.iconst 0, 1) := by decide +kernel
theorem dX10_mayTell_30 : decode cX10_mayTell 30 = .ok (.istore_n 3, 1) := by decide +kernel
theorem dX10_mayTell_31 : decode cX10_mayTell 31 = .ok (.iload_n 3, 1) := by decide +kernel
theorem dX10_mayTell_32 : decode cX10_mayTell 32 = .ok (.iload_n 1, 1) := by decide +kernel
theorem dX10_mayTell_33 : decode cX10_mayTell 33 = .ok (.if_icmp .ge 42, 3) := by decide +kernel
theorem dX10_mayTell_36 : decode cX10_mayTell 36 = .ok (.aload_n 0, 1) := by decide +kernel
theorem dX10_mayTell_37 : decode cX10_mayTell 37 = .ok (.iload_n 1, 1) := by decide +kernel
theorem dX10_mayTell_38 : decode cX10_mayTell 38 = .ok (.iconst 3, 1) := by decide +kernel
theorem dX10_mayTell_39 : decode cX10_mayTell 39 = .ok (.invokevirtual 91, 3) := by decide +kernel
theorem dX10_mayTell_42 : decode cX10_mayTell 42 = .ok (.iload_n 3, 1) := by decide +kernel
theorem dX10_mayTell_43 : decode cX10_mayTell 43 = .ok (.invokestatic 103, 3) := by decide +kernel
theorem dX10_mayTell_46 : decode cX10_mayTell 46 = .ok (.ifCond .eq 23, 3) := by decide +kernel
theorem dX10_mayTell_49 : decode cX10_mayTell 49 = .ok (.aload_n 0, 1) := by decide +kernel
theorem dX10_mayTell_50 : decode cX10_mayTell 50 = .ok (.iload_n 2, 1) := by decide +kernel
theorem dX10_mayTell_51 : decode cX10_mayTell 51 = .ok (.aload_n 0, 1) := by decide +kernel
theorem dX10_mayTell_52 : decode cX10_mayTell 52 = .ok (.getfield 9, 3) := by decide +kernel
theorem dX10_mayTell_55 : decode cX10_mayTell 55 = .ok (.sipush 250, 3) := by decide +kernel
theorem dX10_mayTell_58 : decode cX10_mayTell 58 = .ok (.iload_n 3, 1) := by decide +kernel
theorem dX10_mayTell_59 : decode cX10_mayTell 59 = .ok (.iadd, 1) := by decide +kernel
theorem dX10_mayTell_60 : decode cX10_mayTell 60 = .ok (.iaload, 1) := by decide +kernel
theorem dX10_mayTell_61 : decode cX10_mayTell 61 = .ok (.invokevirtual 110, 3) := by decide +kernel
theorem dX10_mayTell_64 : decode cX10_mayTell 64 = .ok (.ifCond .eq 5, 3) := by decide +kernel
theorem dX10_mayTell_67 : decode cX10_mayTell 67 = .ok (.iconst 0, 1) := by decide +kernel
theorem dX10_mayTell_68 : decode cX10_mayTell 68 = .ok (.ireturn, 1) := by decide +kernel
theorem dX10_mayTell_69 : decode cX10_mayTell 69 = .ok (.iinc 3 1, 3) := by decide +kernel
theorem dX10_mayTell_72 : decode cX10_mayTell 72 = .ok (.goto (-41), 3) := by decide +kernel
theorem dX10_mayTell_75 : decode cX10_mayTell 75 = .ok (.iconst 1, 1) := by decide +kernel
theorem dX10_mayTell_76 : decode cX10_mayTell 76 = .ok (.ireturn, 1) := by decide +kernel
theorem dX10_check_0 : decode cX10_check 0 = .ok (.aload_n 0, 1) := by decide +kernel
theorem dX10_check_1 : decode cX10_check 1 = .ok (.getfield 9, 3) := by decide +kernel
theorem dX10_check_4 : decode cX10_check 4 = .ok (.iconst 5, 1) := by decide +kernel
theorem dX10_check_5 : decode cX10_check 5 = .ok (.iaload, 1) := by decide +kernel
theorem dX10_check_6 : decode cX10_check 6 = .ok (.istore_n 1, 1) := by decide +kernel
theorem dX10_check_7 : decode cX10_check 7 = .ok (.aload_n 0, 1) := by decide +kernel
theorem dX10_check_8 : decode cX10_check 8 = .ok (.getfield 9, 3) := by decide +kernel
theorem dX10_check_11 : decode cX10_check 11 = .ok (.iconst 5, 1) := by decide +kernel
theorem dX10_check_12 : decode cX10_check 12 = .ok (.iconst 0, 1) := by decide +kernel
theorem dX10_check_13 : decode cX10_check 13 = .ok (.iastore, 1) := by decide +kernel
theorem dX10_check_14 : decode cX10_check 14 = .ok (.iconst 0, 1) := by decide +kernel
theorem dX10_check_15 : decode cX10_check 15 = .ok (.istore_n 2, 1) := by decide +kernel
theorem dX10_check_16 : decode cX10_check 16 = .ok (.iload_n 2, 1) := by decide +kernel
theorem dX10_check_17 : decode cX10_check 17 = .ok (.aload_n 0, 1) := by decide +kernel
theorem dX10_check_18 : decode cX10_check 18 = .ok (.getfield 9, 3) := by decide +kernel
theorem dX10_check_21 : decode cX10_check 21 = .ok (.iconst 1, 1) := by decide +kernel
theorem dX10_check_22 : decode cX10_check 22 = .ok (.iaload, 1) := by decide +kernel
theorem dX10_check_23 : decode cX10_check 23 = .ok (.if_icmp .ge 26, 3) := by decide +kernel
theorem dX10_check_26 : decode cX10_check 26 = .ok (.iload_n 2, 1) := by decide +kernel
theorem dX10_check_27 : decode cX10_check 27 = .ok (.iload_n 1, 1) := by decide +kernel
theorem dX10_check_28 : decode cX10_check 28 = .ok (.if_icmp .ge 11, 3) := by decide +kernel
theorem dX10_check_31 : decode cX10_check 31 = .ok (.aload_n 0, 1) := by decide +kernel
theorem dX10_check_32 : decode cX10_check 32 = .ok (.iload_n 2, 1) := by decide +kernel
theorem dX10_check_33 : decode cX10_check 33 = .ok (.invokevirtual 319, 3) := by decide +kernel
theorem dX10_check_36 : decode cX10_check 36 = .ok (.ifCond .ne 7, 3) := by decide +kernel
theorem dX10_check_39 : decode cX10_check 39 = .ok (.iconst 1, 1) := by decide +kernel
theorem dX10_check_40 : decode cX10_check 40 = .ok (.iload_n 2, 1) := by decide +kernel
theorem dX10_check_41 : decode cX10_check 41 = .ok (.iadd, 1) := by decide +kernel
theorem dX10_check_42 : decode cX10_check 42 = .ok (.ireturn, 1) := by decide +kernel
theorem dX10_check_43 : decode cX10_check 43 = .ok (.iinc 2 1, 3) := by decide +kernel
theorem dX10_check_46 : decode cX10_check 46 = .ok (.goto (-30), 3) := by decide +kernel
theorem dX10_check_49 : decode cX10_check 49 = .ok (.iload_n 1, 1) := by decide +kernel
theorem dX10_check_50 : decode cX10_check 50 = .ok (.aload_n 0, 1) := by decide +kernel
theorem dX10_check_51 : decode cX10_check 51 = .ok (.getfield 9, 3) := by decide +kernel
theorem dX10_check_54 : decode cX10_check 54 = .ok (.iconst 1, 1) := by decide +kernel
theorem dX10_check_55 : decode cX10_check 55 = .ok (.iaload, 1) := by decide +kernel
theorem dX10_check_56 : decode cX10_check 56 = .ok (.if_icmp .le 14, 3) := by decide +kernel
theorem dX10_check_59 : decode cX10_check 59 = .ok (.iconst 1, 1) := by decide +kernel
theorem dX10_check_60 : decode cX10_check 60 = .ok (.aload_n 0, 1) := by decide +kernel
theorem dX10_check_61 : decode cX10_check 61 = .ok (.getfield 9, 3) := by decide +kernel
theorem dX10_check_64 : decode cX10_check 64 = .ok (.iconst 1, 1) := by decide +kernel
theorem dX10_check_65 : decode cX10_check 65 = .ok (.iaload, 1) := by decide +kernel
theorem dX10_check_66 : decode cX10_check 66 = .ok (.iadd, 1) := by decide +kernel
theorem dX10_check_67 : decode cX10_check 67 = .ok (.goto 4, 3) := by decide +kernel
theorem dX10_check_70 : decode cX10_check 70 = .ok (.iconst 0, 1) := by decide +kernel
theorem dX10_check_71 : decode cX10_check 71 = .ok (.ireturn, 1) := by decide +kernel
theorem dX10_count_0 : decode cX10_count 0 = .ok (.iconst 0, 1) := by decide +kernel
theorem dX10_count_1 : decode cX10_count 1 = .ok (.istore_n 2, 1) := by decide +kernel
theorem dX10_count_2 : decode cX10_count 2 = .ok (.iload_n 1, 1) := by decide +kernel
theorem dX10_count_3 : decode cX10_count 3 = .ok (.tableswitch 130 0 8 #[49, 49, 56, 92, 99, 104, 111, 118, 123], 49) := by decide +kernel
theorem dX10_count_52 : decode cX10_count 52 = .ok (.aload_n 0, 1) := by decide +kernel
theorem dX10_count_53 : decode cX10_count 53 = .ok (.getfield 9, 3) := by decide +kernel
theorem dX10_count_56 : decode cX10_count 56 = .ok (.iload_n 1, 1) := by decide +kernel
theorem dX10_count_57 : decode cX10_count 57 = .ok (.iaload, 1) := by decide +kernel
theorem dX10_count_58 : decode cX10_count 58 = .ok (.ireturn, 1) := by decide +kernel
theorem dX10_count_59 : decode cX10_count 59 = .ok (.iconst 0, 1) := by decide +kernel
theorem dX10_count_60 : decode cX10_count 60 = .ok (.istore_n 3, 1) := by decide +kernel
theorem dX10_count_61 : decode cX10_count 61 = .ok (.iload_n 3, 1) := by decide +kernel
theorem dX10_count_62 : decode cX10_count 62 = .ok (.aload_n 0, 1) := by decide +kernel
theorem dX10_count_63 : decode cX10_count 63 = .ok (.getfield 9, 3) := by decide +kernel
theorem dX10_count_66 : decode cX10_count 66 = .ok (.iconst 1, 1) := by decide +kernel
theorem dX10_count_67 : decode cX10_count 67 = .ok (.iaload, 1) := by decide +kernel
theorem dX10_count_68 : decode cX10_count 68 = .ok (.if_icmp .ge 25, 3) := by decide +kernel
theorem dX10_count_71 : decode cX10_count 71 = .ok (.iload_n 2, 1) := by decide +kernel
theorem dX10_count_72 : decode cX10_count 72 = .ok (.aload_n 0, 1) := by decide +kernel
theorem dX10_count_73 : decode cX10_count 73 = .ok (.iload_n 3, 1) := by decide +kernel
theorem dX10_count_74 : decode cX10_count 74 = .ok (.invokevirtual 107, 3) := by decide +kernel
theorem dX10_count_77 : decode cX10_count 77 = .ok (.ifCond .ge 7, 3) := by decide +kernel
theorem dX10_count_80 : decode cX10_count 80 = .ok (.iconst 1, 1) := by decide +kernel
theorem dX10_count_81 : decode cX10_count 81 = .ok (.goto 4, 3) := by decide +kernel
theorem dX10_count_84 : decode cX10_count 84 = .ok (.iconst 0, 1) := by decide +kernel
theorem dX10_count_85 : decode cX10_count 85 = .ok (.iadd, 1) := by decide +kernel
theorem dX10_count_86 : decode cX10_count 86 = .ok (.istore_n 2, 1) := by decide +kernel
theorem dX10_count_87 : decode cX10_count 87 = .ok (.iinc 3 1, 3) := by decide +kernel
theorem dX10_count_90 : decode cX10_count 90 = .ok (.goto (-29), 3) := by decide +kernel
theorem dX10_count_93 : decode cX10_count 93 = .ok (.iload_n 2, 1) := by decide +kernel
theorem dX10_count_94 : decode cX10_count 94 = .ok (.ireturn, 1) := by decide +kernel
theorem dX10_count_95 : decode cX10_count 95 = .ok (.aload_n 0, 1) := by decide +kernel
theorem dX10_count_96 : decode cX10_count 96 = .ok (.getfield 9, 3) := by decide +kernel
theorem dX10_count_99 : decode cX10_count 99 = .ok (.iconst 2, 1) := by decide +kernel
theorem dX10_count_100 : decode cX10_count 100 = .ok (.iaload, 1) := by decide +kernel
theorem dX10_count_101 : decode cX10_count 101 = .ok (.ireturn, 1) := by decide +kernel
theorem dX10_count_102 : decode cX10_count 102 = .ok (.aload_n 0, 1) := by decide +kernel
theorem dX10_count_103 : decode cX10_count 103 = .ok (.invokevirtual 239, 3) := by decide +kernel
theorem dX10_count_106 : decode cX10_count 106 = .ok (.ireturn, 1) := by decide +kernel
theorem dX10_count_107 : decode cX10_count 107 = .ok (.aload_n 0, 1) := by decide +kernel
theorem dX10_count_108 : decode cX10_count 108 = .ok (.getfield 9, 3) := by decide +kernel
theorem dX10_count_111 : decode cX10_count 111 = .ok (.iconst 4, 1) := by decide +kernel
theorem dX10_count_112 : decode cX10_count 112 = .ok (.iaload, 1) := by decide +kernel
theorem dX10_count_113 : decode cX10_count 113 = .ok (.ireturn, 1) := by decide +kernel
theorem dX10_count_114 : decode cX10_count 114 = .ok (.aload_n 0, 1) := by decide +kernel
theorem dX10_count_115 : decode cX10_count 115 = .ok (.getfield 9, 3) := by decide +kernel
theorem dX10_count_118 : decode cX10_count 118 = .ok (.iconst 5, 1) := by decide +kernel
theorem dX10_count_119 : decode cX10_count 119 = .ok (.iaload, 1) := by decide +kernel
theorem dX10_count_120 : decode cX10_count 120 = .ok (.ireturn, 1) := by decide +kernel
theorem dX10_count_121 : decode cX10_count 121 = .ok (.aload_n 0, 1) := by decide +kernel
theorem dX10_count_122 : decode cX10_count 122 = .ok (.getfield 305, 3) := by decide +kernel
theorem dX10_count_125 : decode cX10_count 125 = .ok (.ireturn, 1) := by decide +kernel
theorem dX10_count_126 : decode cX10_count 126 = .ok (.aload_n 0, 1) := by decide +kernel
theorem dX10_count_127 : decode cX10_count 127 = .ok (.getfield 9, 3) := by decide +kernel
theorem dX10_count_130 : decode cX10_count 130 = .ok (.iconst 3, 1) := by decide +kernel
theorem dX10_count_131 : decode cX10_count 131 = .ok (.iaload, 1) := by decide +kernel
theorem dX10_count_132 : decode cX10_count 132 = .ok (.ireturn, 1) := by decide +kernel
theorem dX10_count_133 : decode cX10_count 133 = .ok (.aload_n 0, 1) := by decide +kernel
theorem dX10_count_134 : decode cX10_count 134 = .ok (.ldc 62, 2) := by decide +kernel
theorem dX10_count_136 : decode cX10_count 136 = .ok (.invokevirtual 63, 3) := by decide +kernel
theorem dX10_count_139 : decode cX10_count 139 = .ok (.ireturn, 1) := by decide +kernel
theorem dX10_told_0 : decode cX10_told 0 = .ok (.iload_n 1, 1) := by decide +kernel
theorem dX10_told_1 : decode cX10_told 1 = .ok (.i2l, 1) := by decide +kernel
theorem dX10_told_2 : decode cX10_told 2 = .ok (.lconst 1, 1) := by decide +kernel
theorem dX10_told_3 : decode cX10_told 3 = .ok (.ldc2_w 322, 3) := by decide +kernel
theorem dX10_told_6 : decode cX10_told 6 = .ok (.invokestatic 48, 3) := by decide +kernel
theorem dX10_told_9 : decode cX10_told 9 = .ok (.ifCond .eq 12, 3) := by decide +kernel
theorem dX10_told_12 : decode cX10_told 12 = .ok (.aload_n 0, 1) := by decide +kernel
theorem dX10_told_13 : decode cX10_told 13 = .ok (.getfield 16, 3) := by decide +kernel
theorem dX10_told_16 : decode cX10_told 16 = .ok (.iload_n 1, 1) := by decide +kernel
theorem dX10_told_17 : decode cX10_told 17 = .ok (.iaload, 1) := by decide +kernel
theorem dX10_told_18 : decode cX10_told 18 = .ok (.goto 9, 3) := by decide +kernel
theorem dX10_told_21 : decode cX10_told 21 = .ok (.aload_n 0, 1) := by decide +kernel
theorem dX10_told_22 : decode cX10_told 22 = .ok (.ldc 62, 2) := by decide +kernel
theorem dX10_told_24 : decode cX10_told 24 = .ok (.invokevirtual 63, 3) := by decide +kernel
theorem dX10_told_27 : decode cX10_told 27 = .ok (.ireturn, 1) := by decide +kernel
end
section
theorem dX3_init_0 : decode cX3_init 0 = .ok (.aload_n 0, 1) := by decide +kernel
theorem dX3_init_1 : decode cX3_init 1 = .ok (.invokespecial 3, 3) := by decide +kernel
theorem dX3_init_4 : decode cX3_init 4 = .ok (.aload_n 0, 1) := by decide +kernel
theorem dX3_init_5 : decode cX3_init 5 = .ok (.bipush 50, 2) := by decide +kernel
theorem dX3_init_7 : decode cX3_init 7 = .ok (.newarray .byte, 2) := by decide +kernel
theorem dX3_init_9 : decode cX3_init 9 = .ok (.putfield 9, 3) := by decide +kernel
theorem dX3_init_12 : decode cX3_init 12 = .ok (.aload_n 0, 1) := by decide +kernel
theorem dX3_init_13 : decode cX3_init 13 = .ok (.bipush 112, 2) := by decide +kernel
theorem dX3_init_15 : decode cX3_init 15 = .ok (.newarray .int, 2) := by decide +kernel
theorem dX3_init_17 : decode cX3_init 17 = .ok (.putfield 15, 3) := by decide +kernel
theorem dX3_init_20 : decode cX3_init 20 = .ok (.aload_n 0, 1) := by decide +kernel
theorem dX3_init_21 : decode cX3_init 21 = .ok (.bipush 14, 2) := by decide +kernel
theorem dX3_init_23 : decode cX3_init 23 = .ok (.newarray .int, 2) := by decide +kernel
theorem dX3_init_25 : decode cX3_init 25 = .ok (.putfield 19, 3) := by decide +kernel
theorem dX3_init_28 : decode cX3_init 28 = .ok (.aload_n 0, 1) := by decide +kernel
theorem dX3_init_29 : decode cX3_init 29 = .ok (.bipush 14, 2) := by decide +kernel
theorem dX3_init_31 : decode cX3_init 31 = .ok (.newarray .int, 2) := by decide +kernel
theorem dX3_init_33 : decode cX3_init 33 = .ok (.putfield 22, 3) := by decide +kernel
theorem dX3_init_36 : decode cX3_init 36 = .ok (.aload_n 0, 1) := by decide +kernel
theorem dX3_init_37 : decode cX3_init 37 = .ok (.bipush 14, 2) := by decide +kernel
theorem dX3_init_39 : decode cX3_init 39 = .ok (.newarray .int, 2) := by decide +kernel
theorem dX3_init_41 : decode cX3_init 41 = .ok (.putfield 25, 3) := by decide +kernel
theorem dX3_init_44 : decode cX3_init 44 = .ok (.aload_n 0, 1) := by decide +kernel
theorem dX3_init_45 : decode cX3_init 45 = .ok (.bipush 14, 2) := by decide +kernel
theorem dX3_init_47 : decode cX3_init 47 = .ok (.newarray .int, 2) := by decide +kernel
theorem dX3_init_49 : decode cX3_init 49 = .ok (.putfield 28, 3) := by decide +kernel
theorem dX3_init_52 : decode cX3_init 52 = .ok (.aload_n 0, 1) := by decide +kernel
theorem dX3_init_53 : decode cX3_init 53 = .ok (.bipush 10, 2) := by decide +kernel
theorem dX3_init_55 : decode cX3_init 55 = .ok (.newarray .int, 2) := by decide +kernel
theorem dX3_init_57 : decode cX3_init 57 = .ok (.putfield 31, 3) := by decide +kernel
theorem dX3_init_60 : decode cX3_init 60 = .ok (.aload_n 0, 1) := by decide +kernel
theorem dX3_init_61 : decode cX3_init 61 = .ok (.bipush 10, 2) := by decide +kernel
theorem dX3_init_63 : decode cX3_init 63 = .ok (.newarray .int, 2) := by decide +kernel
theorem dX3_init_65 : decode cX3_init 65 = .ok (.putfield 34, 3) := by decide +kernel
theorem dX3_init_68 : decode cX3_init 68 = .ok (.aload_n 0, 1) := by decide +kernel
theorem dX3_init_69 : decode cX3_init 69 = .ok (.bipush 10, 2) := by decide +kernel
theorem dX3_init_71 : decode cX3_init 71 = .ok (.newarray .int, 2) := by decide +kernel
theorem dX3_init_73 : decode cX3_init 73 = .ok (.putfield 37, 3) := by decide +kernel
theorem dX3_init_76 : decode cX3_init 76 = .ok (.aload_n 0, 1) := by decide +kernel
theorem dX3_init_77 : decode cX3_init 77 = .ok (.bipush 10, 2) := by decide +kernel
theorem dX3_init_79 : decode cX3_init 79 = .ok (.newarray .int, 2) := by decide +kernel
theorem dX3_init_81 : decode cX3_init 81 = .ok (.putfield 40, 3) := by decide +kernel
theorem dX3_init_84 : decode cX3_init 84 = .ok (.aload_n 0, 1) := by decide +kernel
theorem dX3_init_85 : decode cX3_init 85 = .ok (.new 43, 3) := by decide +kernel
theorem dX3_init_88 : decode cX3_init 88 = .ok (.dup, 1) := by decide +kernel
theorem dX3_init_89 : decode cX3_init 89 = .ok (.invokespecial 45, 3) := by decide +kernel
theorem dX3_init_92 : decode cX3_init 92 = .ok (.putfield 46, 3) := by decide +kernel
theorem dX3_init_95 : decode cX3_init 95 = .ok (.aload_n 0, 1) := by decide +kernel
theorem dX3_init_96 : decode cX3_init 96 = .ok (.new 43, 3) := by decide +kernel
theorem dX3_init_99 : decode cX3_init 99 = .ok (.dup, 1) := by decide +kernel
theorem dX3_init_100 : decode cX3_init 100 = .ok (.invokespecial 45, 3) := by decide +kernel
theorem dX3_init_103 : decode cX3_init 103 = .ok (.putfield 50, 3) := by decide +kernel
theorem dX3_init_106 : decode cX3_init 106 = .ok (.aload_n 0, 1) := by decide +kernel
theorem dX3_init_107 : decode cX3_init 107 = .ok (.iconst 1, 1) := by decide +kernel
theorem dX3_init_108 : decode cX3_init 108 = .ok (.putfield 53, 3) := by decide +kernel
theorem dX3_init_111 : decode cX3_init 111 = .ok (.aload_n 0, 1) := by decide +kernel
theorem dX3_init_112 : decode cX3_init 112 = .ok (.bipush 20, 2) := by decide +kernel
theorem dX3_init_114 : decode cX3_init 114 = .ok (.newarray .int, 2) := by decide +kernel
theorem dX3_init_116 : decode cX3_init 116 = .ok (.putfield 57, 3) := by decide +kernel
theorem dX3_init_119 : decode cX3_init 119 = .ok (.return_, 1) := by decide +kernel
theorem dX3_copyFrom_0 : decode cX3_copyFrom 0 = .ok (.aload_n 1, 1) := by decide +kernel
theorem dX3_copyFrom_1 : decode cX3_copyFrom 1 = .ok (.getfield 9, 3) := by decide +kernel
theorem dX3_copyFrom_4 : decode cX3_copyFrom 4 = .ok (.iconst 0, 1) := by decide +kernel
theorem dX3_copyFrom_5 : decode cX3_copyFrom 5 = .ok (.aload_n 0, 1) := by decide +kernel
theorem dX3_copyFrom_6 : decode cX3_copyFrom 6 = .ok (.getfield 9, 3) := by decide +kernel
theorem dX3_copyFrom_9 : decode cX3_copyFrom 9 = .ok (.iconst 0, 1) := by decide +kernel
theorem dX3_copyFrom_10 : decode cX3_copyFrom 10 = .ok (.bipush 50, 2) := by decide +kernel
theorem dX3_copyFrom_12 : decode cX3_copyFrom 12 = .ok (.invokestatic 60, 3) := by decide +kernel
theorem dX3_copyFrom_15 : decode cX3_copyFrom 15 = .ok (.aload_n 0, 1) := by decide +kernel
theorem dX3_copyFrom_16 : decode cX3_copyFrom 16 = .ok (.aload_n 1, 1) := by decide +kernel
theorem dX3_copyFrom_17 : decode cX3_copyFrom 17 = .ok (.getfield 66, 3) := by decide +kernel
theorem dX3_copyFrom_20 : decode cX3_copyFrom 20 = .ok (.putfield 66, 3) := by decide +kernel
theorem dX3_copyFrom_23 : decode cX3_copyFrom 23 = .ok (.aload_n 0, 1) := by decide +kernel
theorem dX3_copyFrom_24 : decode cX3_copyFrom 24 = .ok (.aload_n 1, 1) := by decide +kernel
theorem dX3_copyFrom_25 : decode cX3_copyFrom 25 = .ok (.getfield 69, 3) := by decide +kernel
theorem dX3_copyFrom_28 : decode cX3_copyFrom 28 = .ok (.putfield 69, 3) := by decide +kernel
theorem dX3_copyFrom_31 : decode cX3_copyFrom 31 = .ok (.aload_n 1, 1) := by decide +kernel
theorem dX3_copyFrom_32 : decode cX3_copyFrom 32 = .ok (.getfield 15, 3) := by decide +kernel
theorem dX3_copyFrom_35 : decode cX3_copyFrom 35 = .ok (.iconst 0, 1) := by decide +kernel
theorem dX3_copyFrom_36 : decode cX3_copyFrom 36 = .ok (.aload_n 0, 1) := by decide +kernel
theorem dX3_copyFrom_37 : decode cX3_copyFrom 37 = .ok (.getfield 15, 3) := by decide +kernel
theorem dX3_copyFrom_40 : decode cX3_copyFrom 40 = .ok (.iconst 0, 1) := by decide +kernel
theorem dX3_copyFrom_41 : decode cX3_copyFrom 41 = .ok (.bipush 112, 2) := by decide +kernel
theorem dX3_copyFrom_43 : decode cX3_copyFrom 43 = .ok (.invokestatic 60, 3) := by decide +kernel
theorem dX3_copyFrom_46 : decode cX3_copyFrom 46 = .ok (.aload_n 1, 1) := by decide +kernel
theorem dX3_copyFrom_47 : decode cX3_copyFrom 47 = .ok (.getfield 19, 3) := by decide +kernel
theorem dX3_copyFrom_50 : decode cX3_copyFrom 50 = .ok (.iconst 0, 1) := by decide +kernel
theorem dX3_copyFrom_51 : decode cX3_copyFrom 51 = .ok (.aload_n 0, 1) := by decide +kernel
theorem dX3_copyFrom_52 : decode cX3_copyFrom 52 = .ok (.getfield 19, 3) := by decide +kernel
theorem dX3_copyFrom_55 : decode cX3_copyFrom 55 = .ok (.iconst 0, 1) := by decide +kernel
theorem dX3_copyFrom_56 : decode cX3_copyFrom 56 = .ok (.bipush 14, 2) := by decide +kernel
theorem dX3_copyFrom_58 : decode cX3_copyFrom 58 = .ok (.invokestatic 60, 3) := by decide +kernel
theorem dX3_copyFrom_61 : decode cX3_copyFrom 61 = .ok (.aload_n 1, 1) := by decide +kernel
theorem dX3_copyFrom_62 : decode cX3_copyFrom 62 = .ok (.getfield 22, 3) := by decide +kernel
theorem dX3_copyFrom_65 : decode cX3_copyFrom 65 = .ok (.iconst 0, 1) := by decide +kernel
theorem dX3_copyFrom_66 : decode cX3_copyFrom 66 = .ok (.aload_n 0, 1) := by decide +kernel
theorem dX3_copyFrom_67 : decode cX3_copyFrom 67 = .ok (.getfield 22, 3) := by decide +kernel
theorem dX3_copyFrom_70 : decode cX3_copyFrom 70 = .ok (.iconst 0, 1) := by decide +kernel
theorem dX3_copyFrom_71 : decode cX3_copyFrom 71 = .ok (.bipush 14, 2) := by decide +kernel
theorem dX3_copyFrom_73 : decode cX3_copyFrom 73 = .ok (.invokestatic 60, 3) := by decide +kernel
theorem dX3_copyFrom_76 : decode cX3_copyFrom 76 = .ok (.aload_n 1, 1) := by decide +kernel
theorem dX3_copyFrom_77 : decode cX3_copyFrom 77 = .ok (.getfield 25, 3) := by decide +kernel
theorem dX3_copyFrom_80 : decode cX3_copyFrom 80 = .ok (.iconst 0, 1) := by decide +kernel
theorem dX3_copyFrom_81 : decode cX3_copyFrom 81 = .ok (.aload_n 0, 1) := by decide +kernel
theorem dX3_copyFrom_82 : decode cX3_copyFrom 82 = .ok (.getfield 25, 3) := by decide +kernel
theorem dX3_copyFrom_85 : decode cX3_copyFrom 85 = .ok (.iconst 0, 1) := by decide +kernel
theorem dX3_copyFrom_86 : decode cX3_copyFrom 86 = .ok (.bipush 14, 2) := by decide +kernel
theorem dX3_copyFrom_88 : decode cX3_copyFrom 88 = .ok (.invokestatic 60, 3) := by decide +kernel
theorem dX3_copyFrom_91 : decode cX3_copyFrom 91 = .ok (.aload_n 1, 1) := by decide +kernel
theorem dX3_copyFrom_92 : decode cX3_copyFrom 92 = .ok (.getfield 28, 3) := by decide +kernel
theorem dX3_copyFrom_95 : decode cX3_copyFrom 95 = .ok (.iconst 0, 1) := by decide +kernel
theorem dX3_copyFrom_96 : decode cX3_copyFrom 96 = .ok (.aload_n 0, 1) := by decide +kernel
theorem dX3_copyFrom_97 : decode cX3_copyFrom 97 = .ok (.getfield 28, 3) := by decide +kernel
theorem dX3_copyFrom_100 : decode cX3_copyFrom 100 = .ok (.iconst 0, 1) := by decide +kernel
theorem dX3_copyFrom_101 : decode cX3_copyFrom 101 = .ok (.bipush 14, 2) := by decide +kernel
theorem dX3_copyFrom_103 : decode cX3_copyFrom 103 = .ok (.invokestatic 60, 3) := by decide +kernel
theorem dX3_copyFrom_106 : decode cX3_copyFrom 106 = .ok (.aload_n 0, 1) := by decide +kernel
theorem dX3_copyFrom_107 : decode cX3_copyFrom 107 = .ok (.aload_n 1, 1) := by decide +kernel
theorem dX3_copyFrom_108 : decode cX3_copyFrom 108 = .ok (.getfield 72, 3) := by decide +kernel
theorem dX3_copyFrom_111 : decode cX3_copyFrom 111 = .ok (.putfield 72, 3) := by decide +kernel
theorem dX3_copyFrom_114 : decode cX3_copyFrom 114 = .ok (.aload_n 1, 1) := by decide +kernel
theorem dX3_copyFrom_115 : decode cX3_copyFrom 115 = .ok (.getfield 31, 3) := by decide +kernel
theorem dX3_copyFrom_118 : decode cX3_copyFrom 118 = .ok (.iconst 0, 1) := by decide +kernel
theorem dX3_copyFrom_119 : decode cX3_copyFrom 119 = .ok (.aload_n 0, 1) := by decide +kernel
theorem dX3_copyFrom_120 : decode cX3_copyFrom 120 = .ok (.getfield 31, 3) := by decide +kernel
theorem dX3_copyFrom_123 : decode cX3_copyFrom 123 = .ok (.iconst 0, 1) := by decide +kernel
theorem dX3_copyFrom_124 : decode cX3_copyFrom 124 = .ok (.bipush 10, 2) := by decide +kernel
theorem dX3_copyFrom_126 : decode cX3_copyFrom 126 = .ok (.invokestatic 60, 3) := by decide +kernel
theorem dX3_copyFrom_129 : decode cX3_copyFrom 129 = .ok (.aload_n 1, 1) := by decide +kernel
theorem dX3_copyFrom_130 : decode cX3_copyFrom 130 = .ok (.getfield 34, 3) := by decide +kernel
theorem dX3_copyFrom_133 : decode cX3_copyFrom 133 = .ok (.iconst 0, 1) := by decide +kernel
theorem dX3_copyFrom_134 : decode cX3_copyFrom 134 = .ok (.aload_n 0, 1) := by decide +kernel
theorem dX3_copyFrom_135 : decode cX3_copyFrom 135 = .ok (.getfield 34, 3) := by decide +kernel
theorem dX3_copyFrom_138 : decode cX3_copyFrom 138 = .ok (.iconst 0, 1) := by decide +kernel
theorem dX3_copyFrom_139 : decode cX3_copyFrom 139 = .ok (.bipush 10, 2) := by decide +kernel
theorem dX3_copyFrom_141 : decode cX3_copyFrom 141 = .ok (.invokestatic 60, 3) := by decide +kernel
theorem dX3_copyFrom_144 : decode cX3_copyFrom 144 = .ok (.aload_n 1, 1) := by decide +kernel
theorem dX3_copyFrom_145 : decode cX3_copyFrom 145 = .ok (.getfield 37, 3) := by decide +kernel
theorem dX3_copyFrom_148 : decode cX3_copyFrom 148 = .ok (.iconst 0, 1) := by decide +kernel
theorem dX3_copyFrom_149 : decode cX3_copyFrom 149 = .ok (.aload_n 0, 1) := by decide +kernel
theorem dX3_copyFrom_150 : decode cX3_copyFrom 150 = .ok (.getfield 37, 3) := by decide +kernel
theorem dX3_copyFrom_153 : decode cX3_copyFrom 153 = .ok (.iconst 0, 1) := by decide +kernel
theorem dX3_copyFrom_154 : decode cX3_copyFrom 154 = .ok (.bipush 10, 2) := by decide +kernel
theorem dX3_copyFrom_156 : decode cX3_copyFrom 156 = .ok (.invokestatic 60, 3) := by decide +kernel
theorem dX3_copyFrom_159 : decode cX3_copyFrom 159 = .ok (.aload_n 1, 1) := by decide +kernel
theorem dX3_copyFrom_160 : decode cX3_copyFrom 160 = .ok (.getfield 40, 3) := by decide +kernel
theorem dX3_copyFrom_163 : decode cX3_copyFrom 163 = .ok (.iconst 0, 1) := by decide +kernel
theorem dX3_copyFrom_164 : decode cX3_copyFrom 164 = .ok (.aload_n 0, 1) := by decide +kernel
theorem dX3_copyFrom_165 : decode cX3_copyFrom 165 = .ok (.getfield 40, 3) := by decide +kernel
theorem dX3_copyFrom_168 : decode cX3_copyFrom 168 = .ok (.iconst 0, 1) := by decide +kernel
theorem dX3_copyFrom_169 : decode cX3_copyFrom 169 = .ok (.bipush 10, 2) := by decide +kernel
theorem dX3_copyFrom_171 : decode cX3_copyFrom 171 = .ok (.invokestatic 60, 3) := by decide +kernel
theorem dX3_copyFrom_174 : decode cX3_copyFrom 174 = .ok (.aload_n 0, 1) := by decide +kernel
theorem dX3_copyFrom_175 : decode cX3_copyFrom 175 = .ok (.aload_n 1, 1) := by decide +kernel
theorem dX3_copyFrom_176 : decode cX3_copyFrom 176 = .ok (.getfield 75, 3) := by decide +kernel
theorem dX3_copyFrom_179 : decode cX3_copyFrom 179 = .ok (.putfield 75, 3) := by decide +kernel
theorem dX3_copyFrom_182 : decode cX3_copyFrom 182 = .ok (.aload_n 0, 1) := by decide +kernel
theorem dX3_copyFrom_183 : decode cX3_copyFrom 183 = .ok (.getfield 46, 3) := by decide +kernel
theorem dX3_copyFrom_186 : decode cX3_copyFrom 186 = .ok (.aload_n 1, 1) := by decide +kernel
theorem dX3_copyFrom_187 : decode cX3_copyFrom 187 = .ok (.getfield 46, 3) := by decide +kernel
theorem dX3_copyFrom_190 : decode cX3_copyFrom 190 = .ok (.invokevirtual 78, 3) := by decide +kernel
theorem dX3_copyFrom_193 : decode cX3_copyFrom 193 = .ok (.aload_n 0, 1) := by decide +kernel
theorem dX3_copyFrom_194 : decode cX3_copyFrom 194 = .ok (.getfield 50, 3) := by decide +kernel
theorem dX3_copyFrom_197 : decode cX3_copyFrom 197 = .ok (.aload_n 1, 1) := by decide +kernel
theorem dX3_copyFrom_198 : decode cX3_copyFrom 198 = .ok (.getfield 50, 3) := by decide +kernel
theorem dX3_copyFrom_201 : decode cX3_copyFrom 201 = .ok (.invokevirtual 78, 3) := by decide +kernel
theorem dX3_copyFrom_204 : decode cX3_copyFrom 204 = .ok (.aload_n 0, 1) := by decide +kernel
theorem dX3_copyFrom_205 : decode cX3_copyFrom 205 = .ok (.aload_n 1, 1) := by decide +kernel
theorem dX3_copyFrom_206 : decode cX3_copyFrom 206 = .ok (.getfield 53, 3) := by decide +kernel
theorem dX3_copyFrom_209 : decode cX3_copyFrom 209 = .ok (.putfield 53, 3) := by decide +kernel
theorem dX3_copyFrom_212 : decode cX3_copyFrom 212 = .ok (.aload_n 1, 1) := by decide +kernel
theorem dX3_copyFrom_213 : decode cX3_copyFrom 213 = .ok (.getfield 57, 3) := by decide +kernel
theorem dX3_copyFrom_216 : decode cX3_copyFrom 216 = .ok (.iconst 0, 1) := by decide +kernel
theorem dX3_copyFrom_217 : decode cX3_copyFrom 217 = .ok (.aload_n 0, 1) := by decide +kernel
theorem dX3_copyFrom_218 : decode cX3_copyFrom 218 = .ok (.getfield 57, 3) := by decide +kernel
theorem dX3_copyFrom_221 : decode cX3_copyFrom 221 = .ok (.iconst 0, 1) := by decide +kernel
theorem dX3_copyFrom_222 : decode cX3_copyFrom 222 = .ok (.bipush 20, 2) := by decide +kernel
theorem dX3_copyFrom_224 : decode cX3_copyFrom 224 = .ok (.invokestatic 60, 3) := by decide +kernel
theorem dX3_copyFrom_227 : decode cX3_copyFrom 227 = .ok (.aload_n 0, 1) := by decide +kernel
theorem dX3_copyFrom_228 : decode cX3_copyFrom 228 = .ok (.aload_n 1, 1) := by decide +kernel
theorem dX3_copyFrom_229 : decode cX3_copyFrom 229 = .ok (.getfield 82, 3) := by decide +kernel
theorem dX3_copyFrom_232 : decode cX3_copyFrom 232 = .ok (.putfield 82, 3) := by decide +kernel
theorem dX3_copyFrom_235 : decode cX3_copyFrom 235 = .ok (.return_, 1) := by decide +kernel
theorem dX3_isName_0 : decode cX3_isName 0 = .ok (.iload_n 1, 1) := by decide +kernel
theorem dX3_isName_1 : decode cX3_isName 1 = .ok (.ifCond .lt 15, 3) := by decide +kernel
theorem dX3_isName_4 : decode cX3_isName 4 = .ok (.iload_n 1, 1) := by decide +kernel
theorem dX3_isName_5 : decode cX3_isName 5 = .ok (.aload_n 0, 1) := by decide +kernel
theorem dX3_isName_6 : decode cX3_isName 6 = .ok (.getfield 69, 3) := by decide +kernel
theorem dX3_isName_9 : decode cX3_isName 9 = .ok (.if_icmp .ge 7, 3) := by decide +kernel
theorem dX3_isName_12 : decode cX3_isName 12 = .ok (.iconst 1, 1) := by decide +kernel
theorem dX3_isName_13 : decode cX3_isName 13 = .ok (.goto 4, 3) := by decide +kernel
theorem dX3_isName_16 : decode cX3_isName 16 = .ok (.iconst 0, 1) := by decide +kernel
theorem dX3_isName_17 : decode cX3_isName 17 = .ok (.ireturn, 1) := by decide +kernel
theorem dX3_isOne_0 : decode cX3_isOne 0 = .ok (.iload_n 1, 1) := by decide +kernel
theorem dX3_isOne_1 : decode cX3_isOne 1 = .ok (.ifCond .lt 15, 3) := by decide +kernel
theorem dX3_isOne_4 : decode cX3_isOne 4 = .ok (.iload_n 1, 1) := by decide +kernel
theorem dX3_isOne_5 : decode cX3_isOne 5 = .ok (.aload_n 0, 1) := by decide +kernel
theorem dX3_isOne_6 : decode cX3_isOne 6 = .ok (.getfield 72, 3) := by decide +kernel
theorem dX3_isOne_9 : decode cX3_isOne 9 = .ok (.if_icmp .ge 7, 3) := by decide +kernel
theorem dX3_isOne_12 : decode cX3_isOne 12 = .ok (.iconst 1, 1) := by decide +kernel
theorem dX3_isOne_13 : decode cX3_isOne 13 = .ok (.goto 4, 3) := by decide +kernel
theorem dX3_isOne_16 : decode cX3_isOne 16 = .ok (.iconst 0, 1) := by decide +kernel
theorem dX3_isOne_17 : decode cX3_isOne 17 = .ok (.ireturn, 1) := by decide +kernel
theorem dX3_areTwo_0 : decode cX3_areTwo 0 = .ok (.aload_n 0, 1) := by decide +kernel
theorem dX3_areTwo_1 : decode cX3_areTwo 1 = .ok (.iload_n 1, 1) := by decide +kernel
theorem dX3_areTwo_2 : decode cX3_areTwo 2 = .ok (.invokevirtual 85, 3) := by decide +kernel
theorem dX3_areTwo_5 : decode cX3_areTwo 5 = .ok (.ifCond .eq 20, 3) := by decide +kernel
theorem dX3_areTwo_8 : decode cX3_areTwo 8 = .ok (.aload_n 0, 1) := by decide +kernel
theorem dX3_areTwo_9 : decode cX3_areTwo 9 = .ok (.iload_n 2, 1) := by decide +kernel
theorem dX3_areTwo_10 : decode cX3_areTwo 10 = .ok (.invokevirtual 85, 3) := by decide +kernel
theorem dX3_areTwo_13 : decode cX3_areTwo 13 = .ok (.ifCond .eq 12, 3) := by decide +kernel
theorem dX3_areTwo_16 : decode cX3_areTwo 16 = .ok (.iload_n 1, 1) := by decide +kernel
theorem dX3_areTwo_17 : decode cX3_areTwo 17 = .ok (.iload_n 2, 1) := by decide +kernel
theorem dX3_areTwo_18 : decode cX3_areTwo 18 = .ok (.if_icmp .eq 7, 3) := by decide +kernel
theorem dX3_areTwo_21 : decode cX3_areTwo 21 = .ok (.iconst 1, 1) := by decide +kernel
theorem dX3_areTwo_22 : decode cX3_areTwo 22 = .ok (.goto 4, 3) := by decide +kernel
theorem dX3_areTwo_25 : decode cX3_areTwo 25 = .ok (.iconst 0, 1) := by decide +kernel
theorem dX3_areTwo_26 : decode cX3_areTwo 26 = .ok (.ireturn, 1) := by decide +kernel
theorem dX3_textOf_0 : decode cX3_textOf 0 = .ok (.iload_n 1, 1) := by decide +kernel
theorem dX3_textOf_1 : decode cX3_textOf 1 = .ok (.ifCond .ne 10, 3) := by decide +kernel
theorem dX3_textOf_4 : decode cX3_textOf 4 = .ok (.aload_n 0, 1) := by decide +kernel
theorem dX3_textOf_5 : decode cX3_textOf 5 = .ok (.getfield 46, 3) := by decide +kernel
theorem dX3_textOf_8 : decode cX3_textOf 8 = .ok (.goto 7, 3) := by decide +kernel
theorem dX3_textOf_11 : decode cX3_textOf 11 = .ok (.aload_n 0, 1) := by decide +kernel
theorem dX3_textOf_12 : decode cX3_textOf 12 = .ok (.getfield 50, 3) := by decide +kernel
theorem dX3_textOf_15 : decode cX3_textOf 15 = .ok (.areturn, 1) := by decide +kernel
theorem dX3_append_0 : decode cX3_append 0 = .ok (.iconst 0, 1) := by decide +kernel
theorem dX3_append_1 : decode cX3_append 1 = .ok (.istore 4, 2) := by decide +kernel
theorem dX3_append_3 : decode cX3_append 3 = .ok (.iload 4, 2) := by decide +kernel
theorem dX3_append_5 : decode cX3_append 5 = .ok (.iload_n 3, 1) := by decide +kernel
theorem dX3_append_6 : decode cX3_append 6 = .ok (.if_icmp .ge 46, 3) := by decide +kernel
theorem dX3_append_9 : decode cX3_append 9 = .ok (.aload_n 0, 1) := by decide +kernel
theorem dX3_append_10 : decode cX3_append 10 = .ok (.getfield 66, 3) := by decide +kernel
theorem dX3_append_13 : decode cX3_append 13 = .ok (.bipush 50, 2) := by decide +kernel
theorem dX3_append_15 : decode cX3_append 15 = .ok (.if_icmp .ge 37, 3) := by decide +kernel
theorem dX3_append_18 : decode cX3_append 18 = .ok (.aload_n 0, 1) := by decide +kernel
theorem dX3_append_19 : decode cX3_append 19 = .ok (.getfield 9, 3) := by decide +kernel
theorem dX3_append_22 : decode cX3_append 22 = .ok (.aload_n 0, 1) := by decide +kernel
theorem dX3_append_23 : decode cX3_append 23 = .ok (.getfield 66, 3) := by decide +kernel
theorem dX3_append_26 : decode cX3_append 26 = .ok (.lload_n 1, 1) := by decide +kernel
theorem dX3_append_27 : decode cX3_append 27 = .ok (.bipush 8, 2) := by decide +kernel
theorem dX3_append_29 : decode cX3_append 29 = .ok (.iload 4, 2) := by decide +kernel
theorem dX3_append_31 : decode cX3_append 31 = .ok (.imul, 1) := by decide +kernel
theorem dX3_append_32 : decode cX3_append 32 = .ok (.lushr, 1) := by decide +kernel
theorem dX3_append_33 : decode cX3_append 33 = .ok (.l2i, 1) := by decide +kernel
theorem dX3_append_34 : decode cX3_append 34 = .ok (.i2b, 1) := by decide +kernel
theorem dX3_append_35 : decode cX3_append 35 = .ok (.bastore, 1) := by decide +kernel
theorem dX3_append_36 : decode cX3_append 36 = .ok (.aload_n 0, 1) := by decide +kernel
theorem dX3_append_37 : decode cX3_append 37 = .ok (.dup, 1) := by decide +kernel
theorem dX3_append_38 : decode cX3_append 38 = .ok (.getfield 66, 3) := by decide +kernel
theorem dX3_append_41 : decode cX3_append 41 = .ok (.iconst 1, 1) := by decide +kernel
theorem dX3_append_42 : decode cX3_append 42 = .ok (.iadd, 1) := by decide +kernel
theorem dX3_append_43 : decode cX3_append 43 = .ok (.putfield 66, 3) := by decide +kernel
theorem dX3_append_46 : decode cX3_append 46 = .ok (.iinc 4 1, 3) := by decide +kernel
theorem dX3_append_49 : decode cX3_append 49 = .ok (.goto (-46), 3) := by decide +kernel
theorem dX3_append_52 : decode cX3_append 52 = .ok (.aload_n 0, 1) := by decide +kernel
theorem dX3_append_53 : decode cX3_append 53 = .ok (.getfield 66, 3) := by decide +kernel
theorem dX3_append_56 : decode cX3_append 56 = .ok (.ireturn, 1) := by decide +kernel
theorem dX3_lettersAhead_0 : decode cX3_lettersAhead 0 = .ok (.iconst 0, 1) := by decide +kernel
theorem dX3_lettersAhead_1 : decode cX3_lettersAhead 1 = .ok (.istore_n 1, 1) := by decide +kernel
theorem dX3_lettersAhead_2 : decode cX3_lettersAhead 2 = .ok (.iload_n 1, 1) := by decide +kernel
theorem dX3_lettersAhead_3 : decode cX3_lettersAhead 3 = .ok (.aload_n 0, 1) := by decide +kernel
theorem dX3_lettersAhead_4 : decode cX3_lettersAhead 4 = .ok (.getfield 66, 3) := by decide +kernel
theorem dX3_lettersAhead_7 : decode cX3_lettersAhead 7 = .ok (.if_icmp .ge 37, 3) := by decide +kernel
theorem dX3_lettersAhead_10 : decode cX3_lettersAhead 10 = .ok (.iload_n 1, 1) := by decide +kernel
theorem dX3_lettersAhead_11 : decode cX3_lettersAhead 11 = .ok (.bipush 8, 2) := by decide +kernel
theorem dX3_lettersAhead_13 : decode cX3_lettersAhead 13 = .ok (.if_icmp .ge 31, 3) := by decide +kernel
theorem dX3_lettersAhead_16 : decode cX3_lettersAhead 16 = .ok (.aload_n 0, 1) := by decide +kernel
theorem dX3_lettersAhead_17 : decode cX3_lettersAhead 17 = .ok (.getfield 9, 3) := by decide +kernel
theorem dX3_lettersAhead_20 : decode cX3_lettersAhead 20 = .ok (.iload_n 1, 1) := by decide +kernel
theorem dX3_lettersAhead_21 : decode cX3_lettersAhead 21 = .ok (.baload, 1) := by decide +kernel
theorem dX3_lettersAhead_22 : decode cX3_lettersAhead 22 = .ok (.bipush 97, 2) := by decide +kernel
theorem dX3_lettersAhead_24 : decode cX3_lettersAhead 24 = .ok (.if_icmp .lt 20, 3) := by decide +kernel
theorem dX3_lettersAhead_27 : decode cX3_lettersAhead 27 = .ok (.aload_n 0, 1) := by decide +kernel
theorem dX3_lettersAhead_28 : decode cX3_lettersAhead 28 = .ok (.getfield 9, 3) := by decide +kernel
theorem dX3_lettersAhead_31 : decode cX3_lettersAhead 31 = .ok (.iload_n 1, 1) := by decide +kernel
theorem dX3_lettersAhead_32 : decode cX3_lettersAhead 32 = .ok (.baload, 1) := by decide +kernel
theorem dX3_lettersAhead_33 : decode cX3_lettersAhead 33 = .ok (.bipush 122, 2) := by decide +kernel
theorem dX3_lettersAhead_35 : decode cX3_lettersAhead 35 = .ok (.if_icmp .gt 9, 3) := by decide +kernel
theorem dX3_lettersAhead_38 : decode cX3_lettersAhead 38 = .ok (.iinc 1 1, 3) := by decide +kernel
theorem dX3_lettersAhead_41 : decode cX3_lettersAhead 41 = .ok (.goto (-39), 3) := by decide +kernel
theorem dX3_lettersAhead_44 : decode cX3_lettersAhead 44 = .ok (.iload_n 1, 1) := by decide +kernel
theorem dX3_lettersAhead_45 : decode cX3_lettersAhead 45 = .ok (.ireturn, 1) := by decide +kernel
theorem dX3_addName_0 : decode cX3_addName 0 = .ok (.aload_n 0, 1) := by decide +kernel
theorem dX3_addName_1 : decode cX3_addName 1 = .ok (.getfield 69, 3) := by decide +kernel
theorem dX3_addName_4 : decode cX3_addName 4 = .ok (.istore_n 3, 1) := by decide +kernel
theorem dX3_addName_5 : decode cX3_addName 5 = .ok (.iconst 0, 1) := by decide +kernel
theorem dX3_addName_6 : decode cX3_addName 6 = .ok (.istore 4, 2) := by decide +kernel
theorem dX3_addName_8 : decode cX3_addName 8 = .ok (.iconst 0, 1) := by decide +kernel
theorem dX3_addName_9 : decode cX3_addName 9 = .ok (.istore 5, 2) := by decide +kernel
theorem dX3_addName_11 : decode cX3_addName 11 = .ok (.iload 5, 2) := by decide +kernel
theorem dX3_addName_13 : decode cX3_addName 13 = .ok (.iload_n 1, 1) := by decide +kernel
theorem dX3_addName_14 : decode cX3_addName 14 = .ok (.if_icmp .ge 51, 3) := by decide +kernel
theorem dX3_addName_17 : decode cX3_addName 17 = .ok (.iload 5, 2) := by decide +kernel
theorem dX3_addName_19 : decode cX3_addName 19 = .ok (.bipush 8, 2) := by decide +kernel
theorem dX3_addName_21 : decode cX3_addName 21 = .ok (.if_icmp .ge 44, 3) := by decide +kernel
theorem dX3_addName_24 : decode cX3_addName 24 = .ok (.aload_n 0, 1) := by decide +kernel
theorem dX3_addName_25 : decode cX3_addName 25 = .ok (.getfield 9, 3) := by decide +kernel
theorem dX3_addName_28 : decode cX3_addName 28 = .ok (.iload 5, 2) := by decide +kernel
theorem dX3_addName_30 : decode cX3_addName 30 = .ok (.baload, 1) := by decide +kernel
theorem dX3_addName_31 : decode cX3_addName 31 = .ok (.bipush 97, 2) := by decide +kernel
theorem dX3_addName_33 : decode cX3_addName 33 = .ok (.isub, 1) := by decide +kernel
theorem dX3_addName_34 : decode cX3_addName 34 = .ok (.istore 6, 2) := by decide +kernel
theorem dX3_addName_36 : decode cX3_addName 36 = .ok (.aload_n 0, 1) := by decide +kernel
theorem dX3_addName_37 : decode cX3_addName 37 = .ok (.getfield 15, 3) := by decide +kernel
theorem dX3_addName_40 : decode cX3_addName 40 = .ok (.iload_n 3, 1) := by decide +kernel
theorem dX3_addName_41 : decode cX3_addName 41 = .ok (.bipush 8, 2) := by decide +kernel
theorem dX3_addName_43 : decode cX3_addName 43 = .ok (.imul, 1) := by decide +kernel
theorem dX3_addName_44 : decode cX3_addName 44 = .ok (.iload 5, 2) := by decide +kernel
theorem dX3_addName_46 : decode cX3_addName 46 = .ok (.iadd, 1) := by decide +kernel
theorem dX3_addName_47 : decode cX3_addName 47 = .ok (.iload 6, 2) := by decide +kernel
theorem dX3_addName_49 : decode cX3_addName 49 = .ok (.iastore, 1) := by decide +kernel
theorem dX3_addName_50 : decode cX3_addName 50 = .ok (.iload 4, 2) := by decide +kernel
theorem dX3_addName_52 : decode cX3_addName 52 = .ok (.iconst 1, 1) := by decide +kernel
theorem dX3_addName_53 : decode cX3_addName 53 = .ok (.iload 6, 2) := by decide +kernel
theorem dX3_addName_55 : decode cX3_addName 55 = .ok (.ishl, 1) := by decide +kernel
theorem dX3_addName_56 : decode cX3_addName 56 = .ok (.ior, 1) := by decide +kernel
theorem dX3_addName_57 : decode cX3_addName 57 = .ok (.istore 4, 2) := by decide +kernel
theorem dX3_addName_59 : decode cX3_addName 59 = .ok (.iinc 5 1, 3) := by decide +kernel
theorem dX3_addName_62 : decode cX3_addName 62 = .ok (.goto (-51), 3) := by decide +kernel
theorem dX3_addName_65 : decode cX3_addName 65 = .ok (.aload_n 0, 1) := by decide +kernel
theorem dX3_addName_66 : decode cX3_addName 66 = .ok (.getfield 19, 3) := by decide +kernel
theorem dX3_addName_69 : decode cX3_addName 69 = .ok (.iload_n 3, 1) := by decide +kernel
theorem dX3_addName_70 : decode cX3_addName 70 = .ok (.iload_n 1, 1) := by decide +kernel
theorem dX3_addName_71 : decode cX3_addName 71 = .ok (.iastore, 1) := by decide +kernel
theorem dX3_addName_72 : decode cX3_addName 72 = .ok (.aload_n 0, 1) := by decide +kernel
theorem dX3_addName_73 : decode cX3_addName 73 = .ok (.getfield 22, 3) := by decide +kernel
theorem dX3_addName_76 : decode cX3_addName 76 = .ok (.iload_n 3, 1) := by decide +kernel
theorem dX3_addName_77 : decode cX3_addName 77 = .ok (.iload_n 2, 1) := by decide +kernel
theorem dX3_addName_78 : decode cX3_addName 78 = .ok (.iastore, 1) := by decide +kernel
theorem dX3_addName_79 : decode cX3_addName 79 = .ok (.aload_n 0, 1) := by decide +kernel
theorem dX3_addName_80 : decode cX3_addName 80 = .ok (.getfield 25, 3) := by decide +kernel
theorem dX3_addName_83 : decode cX3_addName 83 = .ok (.iload_n 3, 1) := by decide +kernel
theorem dX3_addName_84 : decode cX3_addName 84 = .ok (.iload 4, 2) := by decide +kernel
theorem dX3_addName_86 : decode cX3_addName 86 = .ok (.iastore, 1) := by decide +kernel
theorem dX3_addName_87 : decode cX3_addName 87 = .ok (.aload_n 0, 1) := by decide +kernel
theorem dX3_addName_88 : decode cX3_addName 88 = .ok (.getfield 28, 3) := by decide +kernel
theorem dX3_addName_91 : decode cX3_addName 91 = .ok (.iload_n 3, 1) := by decide +kernel
theorem dX3_addName_92 : decode cX3_addName 92 = .ok (.iconst 0, 1) := by decide +kernel
theorem dX3_addName_93 : decode cX3_addName 93 = .ok (.iastore, 1) := by decide +kernel
theorem dX3_addName_94 : decode cX3_addName 94 = .ok (.iconst 0, 1) := by decide +kernel
theorem dX3_addName_95 : decode cX3_addName 95 = .ok (.istore 5, 2) := by decide +kernel
theorem dX3_addName_97 : decode cX3_addName 97 = .ok (.iload 5, 2) := by decide +kernel
theorem dX3_addName_99 : decode cX3_addName 99 = .ok (.iload_n 3, 1) := by decide +kernel
theorem dX3_addName_100 : decode cX3_addName 100 = .ok (.if_icmp .ge 48, 3) := by decide +kernel
theorem dX3_addName_103 : decode cX3_addName 103 = .ok (.aload_n 0, 1) := by decide +kernel
theorem dX3_addName_104 : decode cX3_addName 104 = .ok (.getfield 25, 3) := by decide +kernel
theorem dX3_addName_107 : decode cX3_addName 107 = .ok (.iload 5, 2) := by decide +kernel
theorem dX3_addName_109 : decode cX3_addName 109 = .ok (.iaload, 1) := by decide +kernel
theorem dX3_addName_110 : decode cX3_addName 110 = .ok (.iload 4, 2) := by decide +kernel
theorem dX3_addName_112 : decode cX3_addName 112 = .ok (.iand, 1) := by decide +kernel
theorem dX3_addName_113 : decode cX3_addName 113 = .ok (.ifCond .ne 29, 3) := by decide +kernel
theorem dX3_addName_116 : decode cX3_addName 116 = .ok (.aload_n 0, 1) := by decide +kernel
theorem dX3_addName_117 : decode cX3_addName 117 = .ok (.getfield 28, 3) := by decide +kernel
theorem dX3_addName_120 : decode cX3_addName 120 = .ok (.iload_n 3, 1) := by decide +kernel
theorem dX3_addName_121 : decode cX3_addName 121 = .ok (.dup2, 1) := by decide +kernel
theorem dX3_addName_122 : decode cX3_addName 122 = .ok (.iaload, 1) := by decide +kernel
theorem dX3_addName_123 : decode cX3_addName 123 = .ok (.iconst 1, 1) := by decide +kernel
theorem dX3_addName_124 : decode cX3_addName 124 = .ok (.iload 5, 2) := by decide +kernel
theorem dX3_addName_126 : decode cX3_addName 126 = .ok (.ishl, 1) := by decide +kernel
theorem dX3_addName_127 : decode cX3_addName 127 = .ok (.ior, 1) := by decide +kernel
theorem dX3_addName_128 : decode cX3_addName 128 = .ok (.iastore, 1) := by decide +kernel
theorem dX3_addName_129 : decode cX3_addName 129 = .ok (.aload_n 0, 1) := by decide +kernel
theorem dX3_addName_130 : decode cX3_addName 130 = .ok (.getfield 28, 3) := by decide +kernel
theorem dX3_addName_133 : decode cX3_addName 133 = .ok (.iload 5, 2) := by decide +kernel
theorem dX3_addName_135 : decode cX3_addName 135 = .ok (.dup2, 1) := by decide +kernel
theorem dX3_addName_136 : decode cX3_addName 136 = .ok (.iaload, 1) := by decide +kernel
theorem dX3_addName_137 : decode cX3_addName 137 = .ok (.iconst 1, 1) := by decide +kernel
theorem dX3_addName_138 : decode cX3_addName 138 = .ok (.iload_n 3, 1) := by decide +kernel
theorem dX3_addName_139 : decode cX3_addName 139 = .ok (.ishl, 1) := by decide +kernel
theorem dX3_addName_140 : decode cX3_addName 140 = .ok (.ior, 1) := by decide +kernel
theorem dX3_addName_141 : decode cX3_addName 141 = .ok (.iastore, 1) := by decide +kernel
theorem dX3_addName_142 : decode cX3_addName 142 = .ok (.iinc 5 1, 3) := by decide +kernel
theorem dX3_addName_145 : decode cX3_addName 145 = .ok (.goto (-48), 3) := by decide +kernel
theorem dX3_addName_148 : decode cX3_addName 148 = .ok (.aload_n 0, 1) := by decide +kernel
theorem dX3_addName_149 : decode cX3_addName 149 = .ok (.dup, 1) := by decide +kernel
theorem dX3_addName_150 : decode cX3_addName 150 = .ok (.getfield 69, 3) := by decide +kernel
theorem dX3_addName_153 : decode cX3_addName 153 = .ok (.iconst 1, 1) := by decide +kernel
theorem dX3_addName_154 : decode cX3_addName 154 = .ok (.iadd, 1) := by decide +kernel
theorem dX3_addName_155 : decode cX3_addName 155 = .ok (.putfield 69, 3) := by decide +kernel
theorem dX3_addName_158 : decode cX3_addName 158 = .ok (.iload_n 3, 1) := by decide +kernel
theorem dX3_addName_159 : decode cX3_addName 159 = .ok (.ireturn, 1) := by decide +kernel
theorem dX3_letterAt_0 : decode cX3_letterAt 0 = .ok (.iload_n 2, 1) := by decide +kernel
theorem dX3_letterAt_1 : decode cX3_letterAt 1 = .ok (.ifCond .lt 27, 3) := by decide +kernel
theorem dX3_letterAt_4 : decode cX3_letterAt 4 = .ok (.iload_n 2, 1) := by decide +kernel
theorem dX3_letterAt_5 : decode cX3_letterAt 5 = .ok (.aload_n 0, 1) := by decide +kernel
theorem dX3_letterAt_6 : decode cX3_letterAt 6 = .ok (.getfield 19, 3) := by decide +kernel
theorem dX3_letterAt_9 : decode cX3_letterAt 9 = .ok (.iload_n 1, 1) := by decide +kernel
theorem dX3_letterAt_10 : decode cX3_letterAt 10 = .ok (.iaload, 1) := by decide +kernel
theorem dX3_letterAt_11 : decode cX3_letterAt 11 = .ok (.if_icmp .ge 17, 3) := by decide +kernel
theorem dX3_letterAt_14 : decode cX3_letterAt 14 = .ok (.aload_n 0, 1) := by decide +kernel
theorem dX3_letterAt_15 : decode cX3_letterAt 15 = .ok (.getfield 15, 3) := by decide +kernel
theorem dX3_letterAt_18 : decode cX3_letterAt 18 = .ok (.iload_n 1, 1) := by decide +kernel
theorem dX3_letterAt_19 : decode cX3_letterAt 19 = .ok (.bipush 8, 2) := by decide +kernel
theorem dX3_letterAt_21 : decode cX3_letterAt 21 = .ok (.imul, 1) := by decide +kernel
theorem dX3_letterAt_22 : decode cX3_letterAt 22 = .ok (.iload_n 2, 1) := by decide +kernel
theorem dX3_letterAt_23 : decode cX3_letterAt 23 = .ok (.iadd, 1) := by decide +kernel
theorem dX3_letterAt_24 : decode cX3_letterAt 24 = .ok (.iaload, 1) := by decide +kernel
theorem dX3_letterAt_25 : decode cX3_letterAt 25 = .ok (.goto 4, 3) := by decide +kernel
theorem dX3_letterAt_28 : decode cX3_letterAt 28 = .ok (.iconst (-1), 1) := by decide +kernel
theorem dX3_letterAt_29 : decode cX3_letterAt 29 = .ok (.ireturn, 1) := by decide +kernel
theorem dX3_addOne_0 : decode cX3_addOne 0 = .ok (.aload_n 0, 1) := by decide +kernel
theorem dX3_addOne_1 : decode cX3_addOne 1 = .ok (.getfield 72, 3) := by decide +kernel
theorem dX3_addOne_4 : decode cX3_addOne 4 = .ok (.istore_n 3, 1) := by decide +kernel
theorem dX3_addOne_5 : decode cX3_addOne 5 = .ok (.aload_n 0, 1) := by decide +kernel
theorem dX3_addOne_6 : decode cX3_addOne 6 = .ok (.getfield 31, 3) := by decide +kernel
theorem dX3_addOne_9 : decode cX3_addOne 9 = .ok (.iload_n 3, 1) := by decide +kernel
theorem dX3_addOne_10 : decode cX3_addOne 10 = .ok (.iload_n 1, 1) := by decide +kernel
theorem dX3_addOne_11 : decode cX3_addOne 11 = .ok (.iastore, 1) := by decide +kernel
theorem dX3_addOne_12 : decode cX3_addOne 12 = .ok (.aload_n 0, 1) := by decide +kernel
theorem dX3_addOne_13 : decode cX3_addOne 13 = .ok (.getfield 34, 3) := by decide +kernel
theorem dX3_addOne_16 : decode cX3_addOne 16 = .ok (.iload_n 3, 1) := by decide +kernel
theorem dX3_addOne_17 : decode cX3_addOne 17 = .ok (.iload_n 2, 1) := by decide +kernel
theorem dX3_addOne_18 : decode cX3_addOne 18 = .ok (.iastore, 1) := by decide +kernel
theorem dX3_addOne_19 : decode cX3_addOne 19 = .ok (.aload_n 0, 1) := by decide +kernel
theorem dX3_addOne_20 : decode cX3_addOne 20 = .ok (.getfield 37, 3) := by decide +kernel
theorem dX3_addOne_23 : decode cX3_addOne 23 = .ok (.iload_n 3, 1) := by decide +kernel
theorem dX3_addOne_24 : decode cX3_addOne 24 = .ok (.iconst (-1), 1) := by decide +kernel
theorem dX3_addOne_25 : decode cX3_addOne 25 = .ok (.iastore, 1) := by decide +kernel
theorem dX3_addOne_26 : decode cX3_addOne 26 = .ok (.aload_n 0, 1) := by decide +kernel
theorem dX3_addOne_27 : decode cX3_addOne 27 = .ok (.getfield 40, 3) := by decide +kernel
theorem dX3_addOne_30 : decode cX3_addOne 30 = .ok (.iload_n 3, 1) := by decide +kernel
theorem dX3_addOne_31 : decode cX3_addOne 31 = .ok (.iconst 0, 1) := by decide +kernel
theorem dX3_addOne_32 : decode cX3_addOne 32 = .ok (.iastore, 1) := by decide +kernel
theorem dX3_addOne_33 : decode cX3_addOne 33 = .ok (.aload_n 0, 1) := by decide +kernel
theorem dX3_addOne_34 : decode cX3_addOne 34 = .ok (.dup, 1) := by decide +kernel
theorem dX3_addOne_35 : decode cX3_addOne 35 = .ok (.getfield 72, 3) := by decide +kernel
theorem dX3_addOne_38 : decode cX3_addOne 38 = .ok (.iconst 1, 1) := by decide +kernel
theorem dX3_addOne_39 : decode cX3_addOne 39 = .ok (.iadd, 1) := by decide +kernel
theorem dX3_addOne_40 : decode cX3_addOne 40 = .ok (.putfield 72, 3) := by decide +kernel
theorem dX3_addOne_43 : decode cX3_addOne 43 = .ok (.iload_n 3, 1) := by decide +kernel
theorem dX3_addOne_44 : decode cX3_addOne 44 = .ok (.ireturn, 1) := by decide +kernel
theorem dX3_setBeside_0 : decode cX3_setBeside 0 = .ok (.aload_n 0, 1) := by decide +kernel
theorem dX3_setBeside_1 : decode cX3_setBeside 1 = .ok (.getfield 40, 3) := by decide +kernel
theorem dX3_setBeside_4 : decode cX3_setBeside 4 = .ok (.iload_n 1, 1) := by decide +kernel
theorem dX3_setBeside_5 : decode cX3_setBeside 5 = .ok (.aload_n 0, 1) := by decide +kernel
theorem dX3_setBeside_6 : decode cX3_setBeside 6 = .ok (.getfield 40, 3) := by decide +kernel
theorem dX3_setBeside_9 : decode cX3_setBeside 9 = .ok (.iload_n 1, 1) := by decide +kernel
theorem dX3_setBeside_10 : decode cX3_setBeside 10 = .ok (.iaload, 1) := by decide +kernel
theorem dX3_setBeside_11 : decode cX3_setBeside 11 = .ok (.iconst 1, 1) := by decide +kernel
theorem dX3_setBeside_12 : decode cX3_setBeside 12 = .ok (.iload_n 2, 1) := by decide +kernel
theorem dX3_setBeside_13 : decode cX3_setBeside 13 = .ok (.ishl, 1) := by decide +kernel
theorem dX3_setBeside_14 : decode cX3_setBeside 14 = .ok (.iconst (-1), 1) := by decide +kernel
theorem dX3_setBeside_15 : decode cX3_setBeside 15 = .ok (.ixor, 1) := by decide +kernel
theorem dX3_setBeside_16 : decode cX3_setBeside 16 = .ok (.iand, 1) := by decide +kernel
theorem dX3_setBeside_17 : decode cX3_setBeside 17 = .ok (.iload_n 3, 1) := by decide +kernel
theorem dX3_setBeside_18 : decode cX3_setBeside 18 = .ok (.iload_n 2, 1) := by decide +kernel
theorem dX3_setBeside_19 : decode cX3_setBeside 19 = .ok (.ishl, 1) := by decide +kernel
theorem dX3_setBeside_20 : decode cX3_setBeside 20 = .ok (.ior, 1) := by decide +kernel
theorem dX3_setBeside_21 : decode cX3_setBeside 21 = .ok (.iastore, 1) := by decide +kernel
theorem dX3_setBeside_22 : decode cX3_setBeside 22 = .ok (.aload_n 0, 1) := by decide +kernel
theorem dX3_setBeside_23 : decode cX3_setBeside 23 = .ok (.getfield 40, 3) := by decide +kernel
theorem dX3_setBeside_26 : decode cX3_setBeside 26 = .ok (.iload_n 2, 1) := by decide +kernel
theorem dX3_setBeside_27 : decode cX3_setBeside 27 = .ok (.aload_n 0, 1) := by decide +kernel
theorem dX3_setBeside_28 : decode cX3_setBeside 28 = .ok (.getfield 40, 3) := by decide +kernel
theorem dX3_setBeside_31 : decode cX3_setBeside 31 = .ok (.iload_n 2, 1) := by decide +kernel
theorem dX3_setBeside_32 : decode cX3_setBeside 32 = .ok (.iaload, 1) := by decide +kernel
theorem dX3_setBeside_33 : decode cX3_setBeside 33 = .ok (.iconst 1, 1) := by decide +kernel
theorem dX3_setBeside_34 : decode cX3_setBeside 34 = .ok (.iload_n 1, 1) := by decide +kernel
theorem dX3_setBeside_35 : decode cX3_setBeside 35 = .ok (.ishl, 1) := by decide +kernel
theorem dX3_setBeside_36 : decode cX3_setBeside 36 = .ok (.iconst (-1), 1) := by decide +kernel
theorem dX3_setBeside_37 : decode cX3_setBeside 37 = .ok (.ixor, 1) := by decide +kernel
theorem dX3_setBeside_38 : decode cX3_setBeside 38 = .ok (.iand, 1) := by decide +kernel
theorem dX3_setBeside_39 : decode cX3_setBeside 39 = .ok (.iload_n 3, 1) := by decide +kernel
theorem dX3_setBeside_40 : decode cX3_setBeside 40 = .ok (.iload_n 1, 1) := by decide +kernel
theorem dX3_setBeside_41 : decode cX3_setBeside 41 = .ok (.ishl, 1) := by decide +kernel
theorem dX3_setBeside_42 : decode cX3_setBeside 42 = .ok (.ior, 1) := by decide +kernel
theorem dX3_setBeside_43 : decode cX3_setBeside 43 = .ok (.iastore, 1) := by decide +kernel
theorem dX3_setBeside_44 : decode cX3_setBeside 44 = .ok (.return_, 1) := by decide +kernel
theorem dX3_lettersOf_0 : decode cX3_lettersOf 0 = .ok (.aload_n 0, 1) := by decide +kernel
theorem dX3_lettersOf_1 : decode cX3_lettersOf 1 = .ok (.getfield 37, 3) := by decide +kernel
theorem dX3_lettersOf_4 : decode cX3_lettersOf 4 = .ok (.iload_n 1, 1) := by decide +kernel
theorem dX3_lettersOf_5 : decode cX3_lettersOf 5 = .ok (.iaload, 1) := by decide +kernel
theorem dX3_lettersOf_6 : decode cX3_lettersOf 6 = .ok (.ifCond .lt 17, 3) := by decide +kernel
theorem dX3_lettersOf_9 : decode cX3_lettersOf 9 = .ok (.aload_n 0, 1) := by decide +kernel
theorem dX3_lettersOf_10 : decode cX3_lettersOf 10 = .ok (.getfield 25, 3) := by decide +kernel
theorem dX3_lettersOf_13 : decode cX3_lettersOf 13 = .ok (.aload_n 0, 1) := by decide +kernel
theorem dX3_lettersOf_14 : decode cX3_lettersOf 14 = .ok (.getfield 37, 3) := by decide +kernel
theorem dX3_lettersOf_17 : decode cX3_lettersOf 17 = .ok (.iload_n 1, 1) := by decide +kernel
theorem dX3_lettersOf_18 : decode cX3_lettersOf 18 = .ok (.iaload, 1) := by decide +kernel
theorem dX3_lettersOf_19 : decode cX3_lettersOf 19 = .ok (.iaload, 1) := by decide +kernel
theorem dX3_lettersOf_20 : decode cX3_lettersOf 20 = .ok (.goto 4, 3) := by decide +kernel
theorem dX3_lettersOf_23 : decode cX3_lettersOf 23 = .ok (.iconst 0, 1) := by decide +kernel
theorem dX3_lettersOf_24 : decode cX3_lettersOf 24 = .ok (.ireturn, 1) := by decide +kernel
theorem dX3_lettersOfMother_0 : decode cX3_lettersOfMother 0 = .ok (.aload_n 0, 1) := by decide +kernel
theorem dX3_lettersOfMother_1 : decode cX3_lettersOfMother 1 = .ok (.getfield 34, 3) := by decide +kernel
theorem dX3_lettersOfMother_4 : decode cX3_lettersOfMother 4 = .ok (.iload_n 1, 1) := by decide +kernel
theorem dX3_lettersOfMother_5 : decode cX3_lettersOfMother 5 = .ok (.iaload, 1) := by decide +kernel
theorem dX3_lettersOfMother_6 : decode cX3_lettersOfMother 6 = .ok (.ifCond .lt 16, 3) := by decide +kernel
theorem dX3_lettersOfMother_9 : decode cX3_lettersOfMother 9 = .ok (.aload_n 0, 1) := by decide +kernel
theorem dX3_lettersOfMother_10 : decode cX3_lettersOfMother 10 = .ok (.aload_n 0, 1) := by decide +kernel
theorem dX3_lettersOfMother_11 : decode cX3_lettersOfMother 11 = .ok (.getfield 34, 3) := by decide +kernel
theorem dX3_lettersOfMother_14 : decode cX3_lettersOfMother 14 = .ok (.iload_n 1, 1) := by decide +kernel
theorem dX3_lettersOfMother_15 : decode cX3_lettersOfMother 15 = .ok (.iaload, 1) := by decide +kernel
theorem dX3_lettersOfMother_16 : decode cX3_lettersOfMother 16 = .ok (.invokevirtual 89, 3) := by decide +kernel
theorem dX3_lettersOfMother_19 : decode cX3_lettersOfMother 19 = .ok (.goto 4, 3) := by decide +kernel
theorem dX3_lettersOfMother_22 : decode cX3_lettersOfMother 22 = .ok (.iconst 0, 1) := by decide +kernel
theorem dX3_lettersOfMother_23 : decode cX3_lettersOfMother 23 = .ok (.ireturn, 1) := by decide +kernel
theorem dX3_lettersInUse_0 : decode cX3_lettersInUse 0 = .ok (.iconst 0, 1) := by decide +kernel
theorem dX3_lettersInUse_1 : decode cX3_lettersInUse 1 = .ok (.istore_n 1, 1) := by decide +kernel
theorem dX3_lettersInUse_2 : decode cX3_lettersInUse 2 = .ok (.iconst 0, 1) := by decide +kernel
theorem dX3_lettersInUse_3 : decode cX3_lettersInUse 3 = .ok (.istore_n 2, 1) := by decide +kernel
theorem dX3_lettersInUse_4 : decode cX3_lettersInUse 4 = .ok (.iload_n 2, 1) := by decide +kernel
theorem dX3_lettersInUse_5 : decode cX3_lettersInUse 5 = .ok (.aload_n 0, 1) := by decide +kernel
theorem dX3_lettersInUse_6 : decode cX3_lettersInUse 6 = .ok (.getfield 72, 3) := by decide +kernel
theorem dX3_lettersInUse_9 : decode cX3_lettersInUse 9 = .ok (.if_icmp .ge 17, 3) := by decide +kernel
theorem dX3_lettersInUse_12 : decode cX3_lettersInUse 12 = .ok (.iload_n 1, 1) := by decide +kernel
theorem dX3_lettersInUse_13 : decode cX3_lettersInUse 13 = .ok (.aload_n 0, 1) := by decide +kernel
theorem dX3_lettersInUse_14 : decode cX3_lettersInUse 14 = .ok (.iload_n 2, 1) := by decide +kernel
theorem dX3_lettersInUse_15 : decode cX3_lettersInUse 15 = .ok (.invokevirtual 89, 3) := by decide +kernel
theorem dX3_lettersInUse_18 : decode cX3_lettersInUse 18 = .ok (.ior, 1) := by decide +kernel
theorem dX3_lettersInUse_19 : decode cX3_lettersInUse 19 = .ok (.istore_n 1, 1) := by decide +kernel
theorem dX3_lettersInUse_20 : decode cX3_lettersInUse 20 = .ok (.iinc 2 1, 3) := by decide +kernel
theorem dX3_lettersInUse_23 : decode cX3_lettersInUse 23 = .ok (.goto (-19), 3) := by decide +kernel
theorem dX3_lettersInUse_26 : decode cX3_lettersInUse 26 = .ok (.iload_n 1, 1) := by decide +kernel
theorem dX3_lettersInUse_27 : decode cX3_lettersInUse 27 = .ok (.ireturn, 1) := by decide +kernel
theorem dX3_holding_0 : decode cX3_holding 0 = .ok (.iconst 0, 1) := by decide +kernel
theorem dX3_holding_1 : decode cX3_holding 1 = .ok (.istore_n 2, 1) := by decide +kernel
theorem dX3_holding_2 : decode cX3_holding 2 = .ok (.iconst 0, 1) := by decide +kernel
theorem dX3_holding_3 : decode cX3_holding 3 = .ok (.istore_n 3, 1) := by decide +kernel
theorem dX3_holding_4 : decode cX3_holding 4 = .ok (.iload_n 3, 1) := by decide +kernel
theorem dX3_holding_5 : decode cX3_holding 5 = .ok (.aload_n 0, 1) := by decide +kernel
theorem dX3_holding_6 : decode cX3_holding 6 = .ok (.getfield 72, 3) := by decide +kernel
theorem dX3_holding_9 : decode cX3_holding 9 = .ok (.if_icmp .ge 25, 3) := by decide +kernel
theorem dX3_holding_12 : decode cX3_holding 12 = .ok (.aload_n 0, 1) := by decide +kernel
theorem dX3_holding_13 : decode cX3_holding 13 = .ok (.iload_n 3, 1) := by decide +kernel
theorem dX3_holding_14 : decode cX3_holding 14 = .ok (.invokevirtual 89, 3) := by decide +kernel
theorem dX3_holding_17 : decode cX3_holding 17 = .ok (.iload_n 1, 1) := by decide +kernel
theorem dX3_holding_18 : decode cX3_holding 18 = .ok (.iand, 1) := by decide +kernel
theorem dX3_holding_19 : decode cX3_holding 19 = .ok (.ifCond .eq 9, 3) := by decide +kernel
theorem dX3_holding_22 : decode cX3_holding 22 = .ok (.iload_n 2, 1) := by decide +kernel
theorem dX3_holding_23 : decode cX3_holding 23 = .ok (.iconst 1, 1) := by decide +kernel
theorem dX3_holding_24 : decode cX3_holding 24 = .ok (.iload_n 3, 1) := by decide +kernel
theorem dX3_holding_25 : decode cX3_holding 25 = .ok (.ishl, 1) := by decide +kernel
theorem dX3_holding_26 : decode cX3_holding 26 = .ok (.ior, 1) := by decide +kernel
theorem dX3_holding_27 : decode cX3_holding 27 = .ok (.istore_n 2, 1) := by decide +kernel
theorem dX3_holding_28 : decode cX3_holding 28 = .ok (.iinc 3 1, 3) := by decide +kernel
theorem dX3_holding_31 : decode cX3_holding 31 = .ok (.goto (-27), 3) := by decide +kernel
theorem dX3_holding_34 : decode cX3_holding 34 = .ok (.iload_n 2, 1) := by decide +kernel
theorem dX3_holding_35 : decode cX3_holding 35 = .ok (.ireturn, 1) := by decide +kernel
theorem dX3_clashing_0 : decode cX3_clashing 0 = .ok (.aload_n 0, 1) := by decide +kernel
theorem dX3_clashing_1 : decode cX3_clashing 1 = .ok (.getfield 40, 3) := by decide +kernel
theorem dX3_clashing_4 : decode cX3_clashing 4 = .ok (.iload_n 1, 1) := by decide +kernel
theorem dX3_clashing_5 : decode cX3_clashing 5 = .ok (.iaload, 1) := by decide +kernel
theorem dX3_clashing_6 : decode cX3_clashing 6 = .ok (.aload_n 0, 1) := by decide +kernel
theorem dX3_clashing_7 : decode cX3_clashing 7 = .ok (.aload_n 0, 1) := by decide +kernel
theorem dX3_clashing_8 : decode cX3_clashing 8 = .ok (.iload_n 1, 1) := by decide +kernel
theorem dX3_clashing_9 : decode cX3_clashing 9 = .ok (.invokevirtual 89, 3) := by decide +kernel
theorem dX3_clashing_12 : decode cX3_clashing 12 = .ok (.invokevirtual 93, 3) := by decide +kernel
theorem dX3_clashing_15 : decode cX3_clashing 15 = .ok (.iand, 1) := by decide +kernel
theorem dX3_clashing_16 : decode cX3_clashing 16 = .ok (.ireturn, 1) := by decide +kernel
theorem dX3_nameless_0 : decode cX3_nameless 0 = .ok (.iconst 0, 1) := by decide +kernel
theorem dX3_nameless_1 : decode cX3_nameless 1 = .ok (.istore_n 1, 1) := by decide +kernel
theorem dX3_nameless_2 : decode cX3_nameless 2 = .ok (.iconst 0, 1) := by decide +kernel
theorem dX3_nameless_3 : decode cX3_nameless 3 = .ok (.istore_n 2, 1) := by decide +kernel
theorem dX3_nameless_4 : decode cX3_nameless 4 = .ok (.iload_n 2, 1) := by decide +kernel
theorem dX3_nameless_5 : decode cX3_nameless 5 = .ok (.aload_n 0, 1) := by decide +kernel
theorem dX3_nameless_6 : decode cX3_nameless 6 = .ok (.getfield 72, 3) := by decide +kernel
theorem dX3_nameless_9 : decode cX3_nameless 9 = .ok (.if_icmp .ge 24, 3) := by decide +kernel
theorem dX3_nameless_12 : decode cX3_nameless 12 = .ok (.aload_n 0, 1) := by decide +kernel
theorem dX3_nameless_13 : decode cX3_nameless 13 = .ok (.getfield 37, 3) := by decide +kernel
theorem dX3_nameless_16 : decode cX3_nameless 16 = .ok (.iload_n 2, 1) := by decide +kernel
theorem dX3_nameless_17 : decode cX3_nameless 17 = .ok (.iaload, 1) := by decide +kernel
theorem dX3_nameless_18 : decode cX3_nameless 18 = .ok (.ifCond .ge 9, 3) := by decide +kernel
theorem dX3_nameless_21 : decode cX3_nameless 21 = .ok (.iload_n 1, 1) := by decide +kernel
theorem dX3_nameless_22 : decode cX3_nameless 22 = .ok (.iconst 1, 1) := by decide +kernel
theorem dX3_nameless_23 : decode cX3_nameless 23 = .ok (.iload_n 2, 1) := by decide +kernel
theorem dX3_nameless_24 : decode cX3_nameless 24 = .ok (.ishl, 1) := by decide +kernel
theorem dX3_nameless_25 : decode cX3_nameless 25 = .ok (.ior, 1) := by decide +kernel
theorem dX3_nameless_26 : decode cX3_nameless 26 = .ok (.istore_n 1, 1) := by decide +kernel
theorem dX3_nameless_27 : decode cX3_nameless 27 = .ok (.iinc 2 1, 3) := by decide +kernel
theorem dX3_nameless_30 : decode cX3_nameless 30 = .ok (.goto (-26), 3) := by decide +kernel
theorem dX3_nameless_33 : decode cX3_nameless 33 = .ok (.iload_n 1, 1) := by decide +kernel
theorem dX3_nameless_34 : decode cX3_nameless 34 = .ok (.ireturn, 1) := by decide +kernel
theorem dX3_isLawful_0 : decode cX3_isLawful 0 = .ok (.iconst 0, 1) := by decide +kernel
theorem dX3_isLawful_1 : decode cX3_isLawful 1 = .ok (.istore_n 1, 1) := by decide +kernel
theorem dX3_isLawful_2 : decode cX3_isLawful 2 = .ok (.iload_n 1, 1) := by decide +kernel
theorem dX3_isLawful_3 : decode cX3_isLawful 3 = .ok (.aload_n 0, 1) := by decide +kernel
theorem dX3_isLawful_4 : decode cX3_isLawful 4 = .ok (.getfield 72, 3) := by decide +kernel
theorem dX3_isLawful_7 : decode cX3_isLawful 7 = .ok (.if_icmp .ge 32, 3) := by decide +kernel
theorem dX3_isLawful_10 : decode cX3_isLawful 10 = .ok (.aload_n 0, 1) := by decide +kernel
theorem dX3_isLawful_11 : decode cX3_isLawful 11 = .ok (.iload_n 1, 1) := by decide +kernel
theorem dX3_isLawful_12 : decode cX3_isLawful 12 = .ok (.invokevirtual 89, 3) := by decide +kernel
theorem dX3_isLawful_15 : decode cX3_isLawful 15 = .ok (.aload_n 0, 1) := by decide +kernel
theorem dX3_isLawful_16 : decode cX3_isLawful 16 = .ok (.getfield 75, 3) := by decide +kernel
theorem dX3_isLawful_19 : decode cX3_isLawful 19 = .ok (.iand, 1) := by decide +kernel
theorem dX3_isLawful_20 : decode cX3_isLawful 20 = .ok (.ifCond .ne 11, 3) := by decide +kernel
theorem dX3_isLawful_23 : decode cX3_isLawful 23 = .ok (.aload_n 0, 1) := by decide +kernel
theorem dX3_isLawful_24 : decode cX3_isLawful 24 = .ok (.iload_n 1, 1) := by decide +kernel
theorem dX3_isLawful_25 : decode cX3_isLawful 25 = .ok (.invokevirtual 96, 3) := by decide +kernel
theorem dX3_isLawful_28 : decode cX3_isLawful 28 = .ok (.ifCond .eq 5, 3) := by decide +kernel
theorem dX3_isLawful_31 : decode cX3_isLawful 31 = .ok (.iconst 0, 1) := by decide +kernel
theorem dX3_isLawful_32 : decode cX3_isLawful 32 = .ok (.ireturn, 1) := by decide +kernel
theorem dX3_isLawful_33 : decode cX3_isLawful 33 = .ok (.iinc 1 1, 3) := by decide +kernel
theorem dX3_isLawful_36 : decode cX3_isLawful 36 = .ok (.goto (-34), 3) := by decide +kernel
theorem dX3_isLawful_39 : decode cX3_isLawful 39 = .ok (.iconst 1, 1) := by decide +kernel
theorem dX3_isLawful_40 : decode cX3_isLawful 40 = .ok (.ireturn, 1) := by decide +kernel
theorem dX3_unstruck_0 : decode cX3_unstruck 0 = .ok (.iconst 0, 1) := by decide +kernel
theorem dX3_unstruck_1 : decode cX3_unstruck 1 = .ok (.istore_n 1, 1) := by decide +kernel
theorem dX3_unstruck_2 : decode cX3_unstruck 2 = .ok (.iconst 0, 1) := by decide +kernel
theorem dX3_unstruck_3 : decode cX3_unstruck 3 = .ok (.istore_n 2, 1) := by decide +kernel
theorem dX3_unstruck_4 : decode cX3_unstruck 4 = .ok (.iload_n 2, 1) := by decide +kernel
theorem dX3_unstruck_5 : decode cX3_unstruck 5 = .ok (.aload_n 0, 1) := by decide +kernel
theorem dX3_unstruck_6 : decode cX3_unstruck 6 = .ok (.getfield 69, 3) := by decide +kernel
theorem dX3_unstruck_9 : decode cX3_unstruck 9 = .ok (.if_icmp .ge 29, 3) := by decide +kernel
theorem dX3_unstruck_12 : decode cX3_unstruck 12 = .ok (.aload_n 0, 1) := by decide +kernel
theorem dX3_unstruck_13 : decode cX3_unstruck 13 = .ok (.getfield 25, 3) := by decide +kernel
theorem dX3_unstruck_16 : decode cX3_unstruck 16 = .ok (.iload_n 2, 1) := by decide +kernel
theorem dX3_unstruck_17 : decode cX3_unstruck 17 = .ok (.iaload, 1) := by decide +kernel
theorem dX3_unstruck_18 : decode cX3_unstruck 18 = .ok (.aload_n 0, 1) := by decide +kernel
theorem dX3_unstruck_19 : decode cX3_unstruck 19 = .ok (.getfield 75, 3) := by decide +kernel
theorem dX3_unstruck_22 : decode cX3_unstruck 22 = .ok (.iand, 1) := by decide +kernel
theorem dX3_unstruck_23 : decode cX3_unstruck 23 = .ok (.ifCond .ne 9, 3) := by decide +kernel
theorem dX3_unstruck_26 : decode cX3_unstruck 26 = .ok (.iload_n 1, 1) := by decide +kernel
theorem dX3_unstruck_27 : decode cX3_unstruck 27 = .ok (.iconst 1, 1) := by decide +kernel
theorem dX3_unstruck_28 : decode cX3_unstruck 28 = .ok (.iload_n 2, 1) := by decide +kernel
theorem dX3_unstruck_29 : decode cX3_unstruck 29 = .ok (.ishl, 1) := by decide +kernel
theorem dX3_unstruck_30 : decode cX3_unstruck 30 = .ok (.ior, 1) := by decide +kernel
theorem dX3_unstruck_31 : decode cX3_unstruck 31 = .ok (.istore_n 1, 1) := by decide +kernel
theorem dX3_unstruck_32 : decode cX3_unstruck 32 = .ok (.iinc 2 1, 3) := by decide +kernel
theorem dX3_unstruck_35 : decode cX3_unstruck 35 = .ok (.goto (-31), 3) := by decide +kernel
theorem dX3_unstruck_38 : decode cX3_unstruck 38 = .ok (.iload_n 1, 1) := by decide +kernel
theorem dX3_unstruck_39 : decode cX3_unstruck 39 = .ok (.ireturn, 1) := by decide +kernel
theorem dX3_esteem_0 : decode cX3_esteem 0 = .ok (.aload_n 0, 1) := by decide +kernel
theorem dX3_esteem_1 : decode cX3_esteem 1 = .ok (.getfield 22, 3) := by decide +kernel
theorem dX3_esteem_4 : decode cX3_esteem 4 = .ok (.iload_n 2, 1) := by decide +kernel
theorem dX3_esteem_5 : decode cX3_esteem 5 = .ok (.iaload, 1) := by decide +kernel
theorem dX3_esteem_6 : decode cX3_esteem 6 = .ok (.istore 5, 2) := by decide +kernel
theorem dX3_esteem_8 : decode cX3_esteem 8 = .ok (.bipush 8, 2) := by decide +kernel
theorem dX3_esteem_10 : decode cX3_esteem 10 = .ok (.aload_n 0, 1) := by decide +kernel
theorem dX3_esteem_11 : decode cX3_esteem 11 = .ok (.getfield 19, 3) := by decide +kernel
theorem dX3_esteem_14 : decode cX3_esteem 14 = .ok (.iload_n 2, 1) := by decide +kernel
theorem dX3_esteem_15 : decode cX3_esteem 15 = .ok (.iaload, 1) := by decide +kernel
theorem dX3_esteem_16 : decode cX3_esteem 16 = .ok (.isub, 1) := by decide +kernel
theorem dX3_esteem_17 : decode cX3_esteem 17 = .ok (.iconst 5, 1) := by decide +kernel
theorem dX3_esteem_18 : decode cX3_esteem 18 = .ok (.imul, 1) := by decide +kernel
theorem dX3_esteem_19 : decode cX3_esteem 19 = .ok (.istore 6, 2) := by decide +kernel
theorem dX3_esteem_21 : decode cX3_esteem 21 = .ok (.aload_n 0, 1) := by decide +kernel
theorem dX3_esteem_22 : decode cX3_esteem 22 = .ok (.getfield 25, 3) := by decide +kernel
theorem dX3_esteem_25 : decode cX3_esteem 25 = .ok (.iload_n 2, 1) := by decide +kernel
theorem dX3_esteem_26 : decode cX3_esteem 26 = .ok (.iaload, 1) := by decide +kernel
theorem dX3_esteem_27 : decode cX3_esteem 27 = .ok (.iload_n 3, 1) := by decide +kernel
theorem dX3_esteem_28 : decode cX3_esteem 28 = .ok (.iand, 1) := by decide +kernel
theorem dX3_esteem_29 : decode cX3_esteem 29 = .ok (.invokestatic 99, 3) := by decide +kernel
theorem dX3_esteem_32 : decode cX3_esteem 32 = .ok (.bipush 10, 2) := by decide +kernel
theorem dX3_esteem_34 : decode cX3_esteem 34 = .ok (.imul, 1) := by decide +kernel
theorem dX3_esteem_35 : decode cX3_esteem 35 = .ok (.istore 7, 2) := by decide +kernel
theorem dX3_esteem_37 : decode cX3_esteem 37 = .ok (.iload_n 1, 1) := by decide +kernel
theorem dX3_esteem_38 : decode cX3_esteem 38 = .ok (.tableswitch 108 1 6 #[38, 44, 50, 65, 73, 93], 38) := by decide +kernel
theorem dX3_esteem_76 : decode cX3_esteem 76 = .ok (.iload 5, 2) := by decide +kernel
theorem dX3_esteem_78 : decode cX3_esteem 78 = .ok (.iload 6, 2) := by decide +kernel
theorem dX3_esteem_80 : decode cX3_esteem 80 = .ok (.iadd, 1) := by decide +kernel
theorem dX3_esteem_81 : decode cX3_esteem 81 = .ok (.ireturn, 1) := by decide +kernel
theorem dX3_esteem_82 : decode cX3_esteem 82 = .ok (.iload 5, 2) := by decide +kernel
theorem dX3_esteem_84 : decode cX3_esteem 84 = .ok (.iload 7, 2) := by decide +kernel
theorem dX3_esteem_86 : decode cX3_esteem 86 = .ok (.iadd, 1) := by decide +kernel
theorem dX3_esteem_87 : decode cX3_esteem 87 = .ok (.ireturn, 1) := by decide +kernel
theorem dX3_esteem_88 : decode cX3_esteem 88 = .ok (.iload 5, 2) := by decide +kernel
theorem dX3_esteem_90 : decode cX3_esteem 90 = .ok (.iload 4, 2) := by decide +kernel
theorem dX3_esteem_92 : decode cX3_esteem 92 = .ok (.ifCond .eq 8, 3) := by decide +kernel
theorem dX3_esteem_95 : decode cX3_esteem 95 = .ok (.bipush 30, 2) := by decide +kernel
theorem dX3_esteem_97 : decode cX3_esteem 97 = .ok (.goto 4, 3) := by decide +kernel
theorem dX3_esteem_100 : decode cX3_esteem 100 = .ok (.iconst 0, 1) := by decide +kernel
theorem dX3_esteem_101 : decode cX3_esteem 101 = .ok (.iadd, 1) := by decide +kernel
theorem dX3_esteem_102 : decode cX3_esteem 102 = .ok (.ireturn, 1) := by decide +kernel
theorem dX3_esteem_103 : decode cX3_esteem 103 = .ok (.iconst 2, 1) := by decide +kernel
theorem dX3_esteem_104 : decode cX3_esteem 104 = .ok (.iload 5, 2) := by decide +kernel
theorem dX3_esteem_106 : decode cX3_esteem 106 = .ok (.iload 7, 2) := by decide +kernel
theorem dX3_esteem_108 : decode cX3_esteem 108 = .ok (.iadd, 1) := by decide +kernel
theorem dX3_esteem_109 : decode cX3_esteem 109 = .ok (.imul, 1) := by decide +kernel
theorem dX3_esteem_110 : decode cX3_esteem 110 = .ok (.ireturn, 1) := by decide +kernel
theorem dX3_esteem_111 : decode cX3_esteem 111 = .ok (.aload_n 0, 1) := by decide +kernel
theorem dX3_esteem_112 : decode cX3_esteem 112 = .ok (.getfield 19, 3) := by decide +kernel
theorem dX3_esteem_115 : decode cX3_esteem 115 = .ok (.iload_n 2, 1) := by decide +kernel
theorem dX3_esteem_116 : decode cX3_esteem 116 = .ok (.iaload, 1) := by decide +kernel
theorem dX3_esteem_117 : decode cX3_esteem 117 = .ok (.iconst 4, 1) := by decide +kernel
theorem dX3_esteem_118 : decode cX3_esteem 118 = .ok (.if_icmp .le 7, 3) := by decide +kernel
theorem dX3_esteem_121 : decode cX3_esteem 121 = .ok (.iconst 0, 1) := by decide +kernel
theorem dX3_esteem_122 : decode cX3_esteem 122 = .ok (.goto 8, 3) := by decide +kernel
theorem dX3_esteem_125 : decode cX3_esteem 125 = .ok (.iload 5, 2) := by decide +kernel
theorem dX3_esteem_127 : decode cX3_esteem 127 = .ok (.iload 6, 2) := by decide +kernel
theorem dX3_esteem_129 : decode cX3_esteem 129 = .ok (.iadd, 1) := by decide +kernel
theorem dX3_esteem_130 : decode cX3_esteem 130 = .ok (.ireturn, 1) := by decide +kernel
theorem dX3_esteem_131 : decode cX3_esteem 131 = .ok (.iload 5, 2) := by decide +kernel
theorem dX3_esteem_133 : decode cX3_esteem 133 = .ok (.iload 4, 2) := by decide +kernel
theorem dX3_esteem_135 : decode cX3_esteem 135 = .ok (.ifCond .eq 8, 3) := by decide +kernel
theorem dX3_esteem_138 : decode cX3_esteem 138 = .ok (.bipush 80, 2) := by decide +kernel
theorem dX3_esteem_140 : decode cX3_esteem 140 = .ok (.goto 4, 3) := by decide +kernel
theorem dX3_esteem_143 : decode cX3_esteem 143 = .ok (.iconst 0, 1) := by decide +kernel
theorem dX3_esteem_144 : decode cX3_esteem 144 = .ok (.iadd, 1) := by decide +kernel
theorem dX3_esteem_145 : decode cX3_esteem 145 = .ok (.ireturn, 1) := by decide +kernel
theorem dX3_esteem_146 : decode cX3_esteem 146 = .ok (.iload 5, 2) := by decide +kernel
theorem dX3_esteem_148 : decode cX3_esteem 148 = .ok (.ireturn, 1) := by decide +kernel
theorem dX3_likesLaw_0 : decode cX3_likesLaw 0 = .ok (.aload_n 0, 1) := by decide +kernel
theorem dX3_likesLaw_1 : decode cX3_likesLaw 1 = .ok (.getfield 50, 3) := by decide +kernel
theorem dX3_likesLaw_4 : decode cX3_likesLaw 4 = .ok (.invokevirtual 104, 3) := by decide +kernel
theorem dX3_likesLaw_7 : decode cX3_likesLaw 7 = .ok (.ifCond .eq 5, 3) := by decide +kernel
theorem dX3_likesLaw_10 : decode cX3_likesLaw 10 = .ok (.iconst 0, 1) := by decide +kernel
theorem dX3_likesLaw_11 : decode cX3_likesLaw 11 = .ok (.ireturn, 1) := by decide +kernel
theorem dX3_likesLaw_12 : decode cX3_likesLaw 12 = .ok (.bipush (-99), 2) := by decide +kernel
theorem dX3_likesLaw_14 : decode cX3_likesLaw 14 = .ok (.bipush 99, 2) := by decide +kernel
theorem dX3_likesLaw_16 : decode cX3_likesLaw 16 = .ok (.aload_n 0, 1) := by decide +kernel
theorem dX3_likesLaw_17 : decode cX3_likesLaw 17 = .ok (.getfield 50, 3) := by decide +kernel
theorem dX3_likesLaw_20 : decode cX3_likesLaw 20 = .ok (.iload_n 1, 1) := by decide +kernel
theorem dX3_likesLaw_21 : decode cX3_likesLaw 21 = .ok (.iload_n 2, 1) := by decide +kernel
theorem dX3_likesLaw_22 : decode cX3_likesLaw 22 = .ok (.iload_n 3, 1) := by decide +kernel
theorem dX3_likesLaw_23 : decode cX3_likesLaw 23 = .ok (.invokevirtual 108, 3) := by decide +kernel
theorem dX3_likesLaw_26 : decode cX3_likesLaw 26 = .ok (.invokestatic 112, 3) := by decide +kernel
theorem dX3_likesLaw_29 : decode cX3_likesLaw 29 = .ok (.invokestatic 118, 3) := by decide +kernel
theorem dX3_likesLaw_32 : decode cX3_likesLaw 32 = .ok (.ireturn, 1) := by decide +kernel
theorem dX3_followsLaw_0 : decode cX3_followsLaw 0 = .ok (.aload_n 0, 1) := by decide +kernel
theorem dX3_followsLaw_1 : decode cX3_followsLaw 1 = .ok (.getfield 46, 3) := by decide +kernel
theorem dX3_followsLaw_4 : decode cX3_followsLaw 4 = .ok (.invokevirtual 104, 3) := by decide +kernel
theorem dX3_followsLaw_7 : decode cX3_followsLaw 7 = .ok (.ifCond .eq 28, 3) := by decide +kernel
theorem dX3_followsLaw_10 : decode cX3_followsLaw 10 = .ok (.iload_n 3, 1) := by decide +kernel
theorem dX3_followsLaw_11 : decode cX3_followsLaw 11 = .ok (.ifCond .eq 14, 3) := by decide +kernel
theorem dX3_followsLaw_14 : decode cX3_followsLaw 14 = .ok (.iload_n 1, 1) := by decide +kernel
theorem dX3_followsLaw_15 : decode cX3_followsLaw 15 = .ok (.invokestatic 121, 3) := by decide +kernel
theorem dX3_followsLaw_18 : decode cX3_followsLaw 18 = .ok (.iload_n 2, 1) := by decide +kernel
theorem dX3_followsLaw_19 : decode cX3_followsLaw 19 = .ok (.invokestatic 121, 3) := by decide +kernel
theorem dX3_followsLaw_22 : decode cX3_followsLaw 22 = .ok (.if_icmp .eq 7, 3) := by decide +kernel
theorem dX3_followsLaw_25 : decode cX3_followsLaw 25 = .ok (.iconst 1, 1) := by decide +kernel
theorem dX3_followsLaw_26 : decode cX3_followsLaw 26 = .ok (.goto 4, 3) := by decide +kernel
theorem dX3_followsLaw_29 : decode cX3_followsLaw 29 = .ok (.iconst 0, 1) := by decide +kernel
theorem dX3_followsLaw_30 : decode cX3_followsLaw 30 = .ok (.istore 4, 2) := by decide +kernel
theorem dX3_followsLaw_32 : decode cX3_followsLaw 32 = .ok (.goto 23, 3) := by decide +kernel
theorem dX3_followsLaw_35 : decode cX3_followsLaw 35 = .ok (.aload_n 0, 1) := by decide +kernel
theorem dX3_followsLaw_36 : decode cX3_followsLaw 36 = .ok (.getfield 46, 3) := by decide +kernel
theorem dX3_followsLaw_39 : decode cX3_followsLaw 39 = .ok (.iload_n 1, 1) := by decide +kernel
theorem dX3_followsLaw_40 : decode cX3_followsLaw 40 = .ok (.iload_n 2, 1) := by decide +kernel
theorem dX3_followsLaw_41 : decode cX3_followsLaw 41 = .ok (.iload_n 3, 1) := by decide +kernel
theorem dX3_followsLaw_42 : decode cX3_followsLaw 42 = .ok (.invokevirtual 108, 3) := by decide +kernel
theorem dX3_followsLaw_45 : decode cX3_followsLaw 45 = .ok (.ifCond .eq 7, 3) := by decide +kernel
theorem dX3_followsLaw_48 : decode cX3_followsLaw 48 = .ok (.iconst 1, 1) := by decide +kernel
theorem dX3_followsLaw_49 : decode cX3_followsLaw 49 = .ok (.goto 4, 3) := by decide +kernel
theorem dX3_followsLaw_52 : decode cX3_followsLaw 52 = .ok (.iconst 0, 1) := by decide +kernel
theorem dX3_followsLaw_53 : decode cX3_followsLaw 53 = .ok (.istore 4, 2) := by decide +kernel
theorem dX3_followsLaw_55 : decode cX3_followsLaw 55 = .ok (.iload 4, 2) := by decide +kernel
theorem dX3_followsLaw_57 : decode cX3_followsLaw 57 = .ok (.ifCond .eq 7, 3) := by decide +kernel
theorem dX3_followsLaw_60 : decode cX3_followsLaw 60 = .ok (.iconst 1, 1) := by decide +kernel
theorem dX3_followsLaw_61 : decode cX3_followsLaw 61 = .ok (.goto 4, 3) := by decide +kernel
theorem dX3_followsLaw_64 : decode cX3_followsLaw 64 = .ok (.iconst 0, 1) := by decide +kernel
theorem dX3_followsLaw_65 : decode cX3_followsLaw 65 = .ok (.ireturn, 1) := by decide +kernel
theorem dX3_isVowel_0 : decode cX3_isVowel 0 = .ok (.iload_n 0, 1) := by decide +kernel
theorem dX3_isVowel_1 : decode cX3_isVowel 1 = .ok (.ifCond .eq 26, 3) := by decide +kernel
theorem dX3_isVowel_4 : decode cX3_isVowel 4 = .ok (.iload_n 0, 1) := by decide +kernel
theorem dX3_isVowel_5 : decode cX3_isVowel 5 = .ok (.iconst 4, 1) := by decide +kernel
theorem dX3_isVowel_6 : decode cX3_isVowel 6 = .ok (.if_icmp .eq 21, 3) := by decide +kernel
theorem dX3_isVowel_9 : decode cX3_isVowel 9 = .ok (.iload_n 0, 1) := by decide +kernel
theorem dX3_isVowel_10 : decode cX3_isVowel 10 = .ok (.bipush 8, 2) := by decide +kernel
theorem dX3_isVowel_12 : decode cX3_isVowel 12 = .ok (.if_icmp .eq 15, 3) := by decide +kernel
theorem dX3_isVowel_15 : decode cX3_isVowel 15 = .ok (.iload_n 0, 1) := by decide +kernel
theorem dX3_isVowel_16 : decode cX3_isVowel 16 = .ok (.bipush 14, 2) := by decide +kernel
theorem dX3_isVowel_18 : decode cX3_isVowel 18 = .ok (.if_icmp .eq 9, 3) := by decide +kernel
theorem dX3_isVowel_21 : decode cX3_isVowel 21 = .ok (.iload_n 0, 1) := by decide +kernel
theorem dX3_isVowel_22 : decode cX3_isVowel 22 = .ok (.bipush 20, 2) := by decide +kernel
theorem dX3_isVowel_24 : decode cX3_isVowel 24 = .ok (.if_icmp .ne 7, 3) := by decide +kernel
theorem dX3_isVowel_27 : decode cX3_isVowel 27 = .ok (.iconst 1, 1) := by decide +kernel
theorem dX3_isVowel_28 : decode cX3_isVowel 28 = .ok (.goto 4, 3) := by decide +kernel
theorem dX3_isVowel_31 : decode cX3_isVowel 31 = .ok (.iconst 0, 1) := by decide +kernel
theorem dX3_isVowel_32 : decode cX3_isVowel 32 = .ok (.ireturn, 1) := by decide +kernel
theorem dX3_draw_0 : decode cX3_draw 0 = .ok (.aload_n 0, 1) := by decide +kernel
theorem dX3_draw_1 : decode cX3_draw 1 = .ok (.aload_n 0, 1) := by decide +kernel
theorem dX3_draw_2 : decode cX3_draw 2 = .ok (.getfield 53, 3) := by decide +kernel
theorem dX3_draw_5 : decode cX3_draw 5 = .ok (.ldc 124, 2) := by decide +kernel
theorem dX3_draw_7 : decode cX3_draw 7 = .ok (.imul, 1) := by decide +kernel
theorem dX3_draw_8 : decode cX3_draw 8 = .ok (.sipush 12345, 3) := by decide +kernel
theorem dX3_draw_11 : decode cX3_draw 11 = .ok (.iadd, 1) := by decide +kernel
theorem dX3_draw_12 : decode cX3_draw 12 = .ok (.putfield 53, 3) := by decide +kernel
theorem dX3_draw_15 : decode cX3_draw 15 = .ok (.aload_n 0, 1) := by decide +kernel
theorem dX3_draw_16 : decode cX3_draw 16 = .ok (.getfield 53, 3) := by decide +kernel
theorem dX3_draw_19 : decode cX3_draw 19 = .ok (.bipush 8, 2) := by decide +kernel
theorem dX3_draw_21 : decode cX3_draw 21 = .ok (.iushr, 1) := by decide +kernel
theorem dX3_draw_22 : decode cX3_draw 22 = .ok (.ireturn, 1) := by decide +kernel
theorem dX3_bear_0 : decode cX3_bear 0 = .ok (.aload_n 0, 1) := by decide +kernel
theorem dX3_bear_1 : decode cX3_bear 1 = .ok (.invokevirtual 125, 3) := by decide +kernel
theorem dX3_bear_4 : decode cX3_bear 4 = .ok (.bipush 7, 2) := by decide +kernel
theorem dX3_bear_6 : decode cX3_bear 6 = .ok (.irem, 1) := by decide +kernel
theorem dX3_bear_7 : decode cX3_bear 7 = .ok (.istore_n 1, 1) := by decide +kernel
theorem dX3_bear_8 : decode cX3_bear 8 = .ok (.aload_n 0, 1) := by decide +kernel
theorem dX3_bear_9 : decode cX3_bear 9 = .ok (.getfield 72, 3) := by decide +kernel
theorem dX3_bear_12 : decode cX3_bear 12 = .ok (.ifCond .le 15, 3) := by decide +kernel
theorem dX3_bear_15 : decode cX3_bear 15 = .ok (.aload_n 0, 1) := by decide +kernel
theorem dX3_bear_16 : decode cX3_bear 16 = .ok (.invokevirtual 125, 3) := by decide +kernel
theorem dX3_bear_19 : decode cX3_bear 19 = .ok (.aload_n 0, 1) := by decide +kernel
theorem dX3_bear_20 : decode cX3_bear 20 = .ok (.getfield 72, 3) := by decide +kernel
theorem dX3_bear_23 : decode cX3_bear 23 = .ok (.irem, 1) := by decide +kernel
theorem dX3_bear_24 : decode cX3_bear 24 = .ok (.goto 4, 3) := by decide +kernel
theorem dX3_bear_27 : decode cX3_bear 27 = .ok (.iconst (-1), 1) := by decide +kernel
theorem dX3_bear_28 : decode cX3_bear 28 = .ok (.istore_n 2, 1) := by decide +kernel
theorem dX3_bear_29 : decode cX3_bear 29 = .ok (.aload_n 0, 1) := by decide +kernel
theorem dX3_bear_30 : decode cX3_bear 30 = .ok (.iload_n 1, 1) := by decide +kernel
theorem dX3_bear_31 : decode cX3_bear 31 = .ok (.iload_n 2, 1) := by decide +kernel
theorem dX3_bear_32 : decode cX3_bear 32 = .ok (.invokevirtual 129, 3) := by decide +kernel
theorem dX3_bear_35 : decode cX3_bear 35 = .ok (.istore_n 3, 1) := by decide +kernel
theorem dX3_bear_36 : decode cX3_bear 36 = .ok (.iload_n 2, 1) := by decide +kernel
theorem dX3_bear_37 : decode cX3_bear 37 = .ok (.ifCond .lt 10, 3) := by decide +kernel
theorem dX3_bear_40 : decode cX3_bear 40 = .ok (.aload_n 0, 1) := by decide +kernel
theorem dX3_bear_41 : decode cX3_bear 41 = .ok (.iload_n 3, 1) := by decide +kernel
theorem dX3_bear_42 : decode cX3_bear 42 = .ok (.iload_n 2, 1) := by decide +kernel
theorem dX3_bear_43 : decode cX3_bear 43 = .ok (.iconst 1, 1) := by decide +kernel
theorem dX3_bear_44 : decode cX3_bear 44 = .ok (.invokevirtual 132, 3) := by decide +kernel
theorem dX3_bear_47 : decode cX3_bear 47 = .ok (.iload_n 3, 1) := by decide +kernel
theorem dX3_bear_48 : decode cX3_bear 48 = .ok (.ifCond .le 12, 3) := by decide +kernel
theorem dX3_bear_51 : decode cX3_bear 51 = .ok (.aload_n 0, 1) := by decide +kernel
theorem dX3_bear_52 : decode cX3_bear 52 = .ok (.iload_n 3, 1) := by decide +kernel
theorem dX3_bear_53 : decode cX3_bear 53 = .ok (.iload_n 3, 1) := by decide +kernel
theorem dX3_bear_54 : decode cX3_bear 54 = .ok (.iconst 1, 1) := by decide +kernel
theorem dX3_bear_55 : decode cX3_bear 55 = .ok (.isub, 1) := by decide +kernel
theorem dX3_bear_56 : decode cX3_bear 56 = .ok (.iconst 1, 1) := by decide +kernel
theorem dX3_bear_57 : decode cX3_bear 57 = .ok (.invokevirtual 132, 3) := by decide +kernel
theorem dX3_bear_60 : decode cX3_bear 60 = .ok (.aload_n 0, 1) := by decide +kernel
theorem dX3_bear_61 : decode cX3_bear 61 = .ok (.invokevirtual 125, 3) := by decide +kernel
theorem dX3_bear_64 : decode cX3_bear 64 = .ok (.iconst 1, 1) := by decide +kernel
theorem dX3_bear_65 : decode cX3_bear 65 = .ok (.aload_n 0, 1) := by decide +kernel
theorem dX3_bear_66 : decode cX3_bear 66 = .ok (.getfield 69, 3) := by decide +kernel
theorem dX3_bear_69 : decode cX3_bear 69 = .ok (.invokestatic 118, 3) := by decide +kernel
theorem dX3_bear_72 : decode cX3_bear 72 = .ok (.irem, 1) := by decide +kernel
theorem dX3_bear_73 : decode cX3_bear 73 = .ok (.istore 4, 2) := by decide +kernel
theorem dX3_bear_75 : decode cX3_bear 75 = .ok (.aload_n 0, 1) := by decide +kernel
theorem dX3_bear_76 : decode cX3_bear 76 = .ok (.iload_n 3, 1) := by decide +kernel
theorem dX3_bear_77 : decode cX3_bear 77 = .ok (.invokevirtual 136, 3) := by decide +kernel
theorem dX3_bear_80 : decode cX3_bear 80 = .ok (.istore 5, 2) := by decide +kernel
theorem dX3_bear_82 : decode cX3_bear 82 = .ok (.iconst 0, 1) := by decide +kernel
theorem dX3_bear_83 : decode cX3_bear 83 = .ok (.istore 6, 2) := by decide +kernel
theorem dX3_bear_85 : decode cX3_bear 85 = .ok (.iload 6, 2) := by decide +kernel
theorem dX3_bear_87 : decode cX3_bear 87 = .ok (.aload_n 0, 1) := by decide +kernel
theorem dX3_bear_88 : decode cX3_bear 88 = .ok (.getfield 69, 3) := by decide +kernel
theorem dX3_bear_91 : decode cX3_bear 91 = .ok (.if_icmp .ge 61, 3) := by decide +kernel
theorem dX3_bear_94 : decode cX3_bear 94 = .ok (.iload 4, 2) := by decide +kernel
theorem dX3_bear_96 : decode cX3_bear 96 = .ok (.iload 6, 2) := by decide +kernel
theorem dX3_bear_98 : decode cX3_bear 98 = .ok (.iadd, 1) := by decide +kernel
theorem dX3_bear_99 : decode cX3_bear 99 = .ok (.aload_n 0, 1) := by decide +kernel
theorem dX3_bear_100 : decode cX3_bear 100 = .ok (.getfield 69, 3) := by decide +kernel
theorem dX3_bear_103 : decode cX3_bear 103 = .ok (.if_icmp .ge 11, 3) := by decide +kernel
theorem dX3_bear_106 : decode cX3_bear 106 = .ok (.iload 4, 2) := by decide +kernel
theorem dX3_bear_108 : decode cX3_bear 108 = .ok (.iload 6, 2) := by decide +kernel
theorem dX3_bear_110 : decode cX3_bear 110 = .ok (.iadd, 1) := by decide +kernel
theorem dX3_bear_111 : decode cX3_bear 111 = .ok (.goto 13, 3) := by decide +kernel
theorem dX3_bear_114 : decode cX3_bear 114 = .ok (.iload 4, 2) := by decide +kernel
theorem dX3_bear_116 : decode cX3_bear 116 = .ok (.iload 6, 2) := by decide +kernel
theorem dX3_bear_118 : decode cX3_bear 118 = .ok (.iadd, 1) := by decide +kernel
theorem dX3_bear_119 : decode cX3_bear 119 = .ok (.aload_n 0, 1) := by decide +kernel
theorem dX3_bear_120 : decode cX3_bear 120 = .ok (.getfield 69, 3) := by decide +kernel
theorem dX3_bear_123 : decode cX3_bear 123 = .ok (.isub, 1) := by decide +kernel
theorem dX3_bear_124 : decode cX3_bear 124 = .ok (.istore 7, 2) := by decide +kernel
theorem dX3_bear_126 : decode cX3_bear 126 = .ok (.iload 5, 2) := by decide +kernel
theorem dX3_bear_128 : decode cX3_bear 128 = .ok (.iload 7, 2) := by decide +kernel
theorem dX3_bear_130 : decode cX3_bear 130 = .ok (.ishr, 1) := by decide +kernel
theorem dX3_bear_131 : decode cX3_bear 131 = .ok (.iconst 1, 1) := by decide +kernel
theorem dX3_bear_132 : decode cX3_bear 132 = .ok (.iand, 1) := by decide +kernel
theorem dX3_bear_133 : decode cX3_bear 133 = .ok (.ifCond .eq 13, 3) := by decide +kernel
theorem dX3_bear_136 : decode cX3_bear 136 = .ok (.aload_n 0, 1) := by decide +kernel
theorem dX3_bear_137 : decode cX3_bear 137 = .ok (.getfield 37, 3) := by decide +kernel
theorem dX3_bear_140 : decode cX3_bear 140 = .ok (.iload_n 3, 1) := by decide +kernel
theorem dX3_bear_141 : decode cX3_bear 141 = .ok (.iload 7, 2) := by decide +kernel
theorem dX3_bear_143 : decode cX3_bear 143 = .ok (.iastore, 1) := by decide +kernel
theorem dX3_bear_144 : decode cX3_bear 144 = .ok (.iconst 1, 1) := by decide +kernel
theorem dX3_bear_145 : decode cX3_bear 145 = .ok (.ireturn, 1) := by decide +kernel
theorem dX3_bear_146 : decode cX3_bear 146 = .ok (.iinc 6 1, 3) := by decide +kernel
theorem dX3_bear_149 : decode cX3_bear 149 = .ok (.goto (-64), 3) := by decide +kernel
theorem dX3_bear_152 : decode cX3_bear 152 = .ok (.iconst 0, 1) := by decide +kernel
theorem dX3_bear_153 : decode cX3_bear 153 = .ok (.ireturn, 1) := by decide +kernel
theorem dX3_freeBeside_0 : decode cX3_freeBeside 0 = .ok (.aload_n 0, 1) := by decide +kernel
theorem dX3_freeBeside_1 : decode cX3_freeBeside 1 = .ok (.invokevirtual 139, 3) := by decide +kernel
theorem dX3_freeBeside_4 : decode cX3_freeBeside 4 = .ok (.istore_n 2, 1) := by decide +kernel
theorem dX3_freeBeside_5 : decode cX3_freeBeside 5 = .ok (.iconst 0, 1) := by decide +kernel
theorem dX3_freeBeside_6 : decode cX3_freeBeside 6 = .ok (.istore_n 3, 1) := by decide +kernel
theorem dX3_freeBeside_7 : decode cX3_freeBeside 7 = .ok (.iload_n 3, 1) := by decide +kernel
theorem dX3_freeBeside_8 : decode cX3_freeBeside 8 = .ok (.aload_n 0, 1) := by decide +kernel
theorem dX3_freeBeside_9 : decode cX3_freeBeside 9 = .ok (.getfield 72, 3) := by decide +kernel
theorem dX3_freeBeside_12 : decode cX3_freeBeside 12 = .ok (.if_icmp .ge 45, 3) := by decide +kernel
theorem dX3_freeBeside_15 : decode cX3_freeBeside 15 = .ok (.aload_n 0, 1) := by decide +kernel
theorem dX3_freeBeside_16 : decode cX3_freeBeside 16 = .ok (.getfield 40, 3) := by decide +kernel
theorem dX3_freeBeside_19 : decode cX3_freeBeside 19 = .ok (.iload_n 1, 1) := by decide +kernel
theorem dX3_freeBeside_20 : decode cX3_freeBeside 20 = .ok (.iaload, 1) := by decide +kernel
theorem dX3_freeBeside_21 : decode cX3_freeBeside 21 = .ok (.iload_n 3, 1) := by decide +kernel
theorem dX3_freeBeside_22 : decode cX3_freeBeside 22 = .ok (.ishr, 1) := by decide +kernel
theorem dX3_freeBeside_23 : decode cX3_freeBeside 23 = .ok (.iconst 1, 1) := by decide +kernel
theorem dX3_freeBeside_24 : decode cX3_freeBeside 24 = .ok (.iand, 1) := by decide +kernel
theorem dX3_freeBeside_25 : decode cX3_freeBeside 25 = .ok (.ifCond .eq 26, 3) := by decide +kernel
theorem dX3_freeBeside_28 : decode cX3_freeBeside 28 = .ok (.aload_n 0, 1) := by decide +kernel
theorem dX3_freeBeside_29 : decode cX3_freeBeside 29 = .ok (.getfield 37, 3) := by decide +kernel
theorem dX3_freeBeside_32 : decode cX3_freeBeside 32 = .ok (.iload_n 3, 1) := by decide +kernel
theorem dX3_freeBeside_33 : decode cX3_freeBeside 33 = .ok (.iaload, 1) := by decide +kernel
theorem dX3_freeBeside_34 : decode cX3_freeBeside 34 = .ok (.ifCond .lt 17, 3) := by decide +kernel
theorem dX3_freeBeside_37 : decode cX3_freeBeside 37 = .ok (.iload_n 2, 1) := by decide +kernel
theorem dX3_freeBeside_38 : decode cX3_freeBeside 38 = .ok (.aload_n 0, 1) := by decide +kernel
theorem dX3_freeBeside_39 : decode cX3_freeBeside 39 = .ok (.getfield 28, 3) := by decide +kernel
theorem dX3_freeBeside_42 : decode cX3_freeBeside 42 = .ok (.aload_n 0, 1) := by decide +kernel
theorem dX3_freeBeside_43 : decode cX3_freeBeside 43 = .ok (.getfield 37, 3) := by decide +kernel
theorem dX3_freeBeside_46 : decode cX3_freeBeside 46 = .ok (.iload_n 3, 1) := by decide +kernel
theorem dX3_freeBeside_47 : decode cX3_freeBeside 47 = .ok (.iaload, 1) := by decide +kernel
theorem dX3_freeBeside_48 : decode cX3_freeBeside 48 = .ok (.iaload, 1) := by decide +kernel
theorem dX3_freeBeside_49 : decode cX3_freeBeside 49 = .ok (.iand, 1) := by decide +kernel
theorem dX3_freeBeside_50 : decode cX3_freeBeside 50 = .ok (.istore_n 2, 1) := by decide +kernel
theorem dX3_freeBeside_51 : decode cX3_freeBeside 51 = .ok (.iinc 3 1, 3) := by decide +kernel
theorem dX3_freeBeside_54 : decode cX3_freeBeside 54 = .ok (.goto (-47), 3) := by decide +kernel
theorem dX3_freeBeside_57 : decode cX3_freeBeside 57 = .ok (.iload_n 2, 1) := by decide +kernel
theorem dX3_freeBeside_58 : decode cX3_freeBeside 58 = .ok (.ireturn, 1) := by decide +kernel
theorem dX3_firstWrong_0 : decode cX3_firstWrong 0 = .ok (.aload_n 0, 1) := by decide +kernel
theorem dX3_firstWrong_1 : decode cX3_firstWrong 1 = .ok (.getfield 82, 3) := by decide +kernel
theorem dX3_firstWrong_4 : decode cX3_firstWrong 4 = .ok (.aload_n 0, 1) := by decide +kernel
theorem dX3_firstWrong_5 : decode cX3_firstWrong 5 = .ok (.getfield 72, 3) := by decide +kernel
theorem dX3_firstWrong_8 : decode cX3_firstWrong 8 = .ok (.invokestatic 118, 3) := by decide +kernel
theorem dX3_firstWrong_11 : decode cX3_firstWrong 11 = .ok (.istore_n 1, 1) := by decide +kernel
theorem dX3_firstWrong_12 : decode cX3_firstWrong 12 = .ok (.iconst 0, 1) := by decide +kernel
theorem dX3_firstWrong_13 : decode cX3_firstWrong 13 = .ok (.istore_n 2, 1) := by decide +kernel
theorem dX3_firstWrong_14 : decode cX3_firstWrong 14 = .ok (.iload_n 2, 1) := by decide +kernel
theorem dX3_firstWrong_15 : decode cX3_firstWrong 15 = .ok (.iload_n 1, 1) := by decide +kernel
theorem dX3_firstWrong_16 : decode cX3_firstWrong 16 = .ok (.if_icmp .ge 35, 3) := by decide +kernel
theorem dX3_firstWrong_19 : decode cX3_firstWrong 19 = .ok (.iload_n 2, 1) := by decide +kernel
theorem dX3_firstWrong_20 : decode cX3_firstWrong 20 = .ok (.aload_n 0, 1) := by decide +kernel
theorem dX3_firstWrong_21 : decode cX3_firstWrong 21 = .ok (.getfield 82, 3) := by decide +kernel
theorem dX3_firstWrong_24 : decode cX3_firstWrong 24 = .ok (.if_icmp .ge 19, 3) := by decide +kernel
theorem dX3_firstWrong_27 : decode cX3_firstWrong 27 = .ok (.iload_n 2, 1) := by decide +kernel
theorem dX3_firstWrong_28 : decode cX3_firstWrong 28 = .ok (.aload_n 0, 1) := by decide +kernel
theorem dX3_firstWrong_29 : decode cX3_firstWrong 29 = .ok (.getfield 72, 3) := by decide +kernel
theorem dX3_firstWrong_32 : decode cX3_firstWrong 32 = .ok (.if_icmp .ge 11, 3) := by decide +kernel
theorem dX3_firstWrong_35 : decode cX3_firstWrong 35 = .ok (.aload_n 0, 1) := by decide +kernel
theorem dX3_firstWrong_36 : decode cX3_firstWrong 36 = .ok (.iload_n 2, 1) := by decide +kernel
theorem dX3_firstWrong_37 : decode cX3_firstWrong 37 = .ok (.invokevirtual 142, 3) := by decide +kernel
theorem dX3_firstWrong_40 : decode cX3_firstWrong 40 = .ok (.ifCond .ne 5, 3) := by decide +kernel
theorem dX3_firstWrong_43 : decode cX3_firstWrong 43 = .ok (.iload_n 2, 1) := by decide +kernel
theorem dX3_firstWrong_44 : decode cX3_firstWrong 44 = .ok (.ireturn, 1) := by decide +kernel
theorem dX3_firstWrong_45 : decode cX3_firstWrong 45 = .ok (.iinc 2 1, 3) := by decide +kernel
theorem dX3_firstWrong_48 : decode cX3_firstWrong 48 = .ok (.goto (-34), 3) := by decide +kernel
theorem dX3_firstWrong_51 : decode cX3_firstWrong 51 = .ok (.iconst (-1), 1) := by decide +kernel
theorem dX3_firstWrong_52 : decode cX3_firstWrong 52 = .ok (.ireturn, 1) := by decide +kernel
theorem dX3_standsWell_0 : decode cX3_standsWell 0 = .ok (.aload_n 0, 1) := by decide +kernel
theorem dX3_standsWell_1 : decode cX3_standsWell 1 = .ok (.getfield 57, 3) := by decide +kernel
theorem dX3_standsWell_4 : decode cX3_standsWell 4 = .ok (.iload_n 1, 1) := by decide +kernel
theorem dX3_standsWell_5 : decode cX3_standsWell 5 = .ok (.iaload, 1) := by decide +kernel
theorem dX3_standsWell_6 : decode cX3_standsWell 6 = .ok (.istore_n 2, 1) := by decide +kernel
theorem dX3_standsWell_7 : decode cX3_standsWell 7 = .ok (.aload_n 0, 1) := by decide +kernel
theorem dX3_standsWell_8 : decode cX3_standsWell 8 = .ok (.iload_n 2, 1) := by decide +kernel
theorem dX3_standsWell_9 : decode cX3_standsWell 9 = .ok (.invokevirtual 145, 3) := by decide +kernel
theorem dX3_standsWell_12 : decode cX3_standsWell 12 = .ok (.ifCond .eq 17, 3) := by decide +kernel
theorem dX3_standsWell_15 : decode cX3_standsWell 15 = .ok (.aload_n 0, 1) := by decide +kernel
theorem dX3_standsWell_16 : decode cX3_standsWell 16 = .ok (.getfield 25, 3) := by decide +kernel
theorem dX3_standsWell_19 : decode cX3_standsWell 19 = .ok (.iload_n 2, 1) := by decide +kernel
theorem dX3_standsWell_20 : decode cX3_standsWell 20 = .ok (.iaload, 1) := by decide +kernel
theorem dX3_standsWell_21 : decode cX3_standsWell 21 = .ok (.aload_n 0, 1) := by decide +kernel
theorem dX3_standsWell_22 : decode cX3_standsWell 22 = .ok (.getfield 75, 3) := by decide +kernel
theorem dX3_standsWell_25 : decode cX3_standsWell 25 = .ok (.iand, 1) := by decide +kernel
theorem dX3_standsWell_26 : decode cX3_standsWell 26 = .ok (.ifCond .eq 5, 3) := by decide +kernel
theorem dX3_standsWell_29 : decode cX3_standsWell 29 = .ok (.iconst 0, 1) := by decide +kernel
theorem dX3_standsWell_30 : decode cX3_standsWell 30 = .ok (.ireturn, 1) := by decide +kernel
theorem dX3_standsWell_31 : decode cX3_standsWell 31 = .ok (.iconst 0, 1) := by decide +kernel
theorem dX3_standsWell_32 : decode cX3_standsWell 32 = .ok (.istore_n 3, 1) := by decide +kernel
theorem dX3_standsWell_33 : decode cX3_standsWell 33 = .ok (.iload_n 3, 1) := by decide +kernel
theorem dX3_standsWell_34 : decode cX3_standsWell 34 = .ok (.iload_n 1, 1) := by decide +kernel
theorem dX3_standsWell_35 : decode cX3_standsWell 35 = .ok (.if_icmp .ge 58, 3) := by decide +kernel
theorem dX3_standsWell_38 : decode cX3_standsWell 38 = .ok (.aload_n 0, 1) := by decide +kernel
theorem dX3_standsWell_39 : decode cX3_standsWell 39 = .ok (.getfield 57, 3) := by decide +kernel
theorem dX3_standsWell_42 : decode cX3_standsWell 42 = .ok (.iload_n 3, 1) := by decide +kernel
theorem dX3_standsWell_43 : decode cX3_standsWell 43 = .ok (.iaload, 1) := by decide +kernel
theorem dX3_standsWell_44 : decode cX3_standsWell 44 = .ok (.istore 4, 2) := by decide +kernel
theorem dX3_standsWell_46 : decode cX3_standsWell 46 = .ok (.aload_n 0, 1) := by decide +kernel
theorem dX3_standsWell_47 : decode cX3_standsWell 47 = .ok (.getfield 40, 3) := by decide +kernel
theorem dX3_standsWell_50 : decode cX3_standsWell 50 = .ok (.iload_n 1, 1) := by decide +kernel
theorem dX3_standsWell_51 : decode cX3_standsWell 51 = .ok (.iaload, 1) := by decide +kernel
theorem dX3_standsWell_52 : decode cX3_standsWell 52 = .ok (.iload_n 3, 1) := by decide +kernel
theorem dX3_standsWell_53 : decode cX3_standsWell 53 = .ok (.ishr, 1) := by decide +kernel
theorem dX3_standsWell_54 : decode cX3_standsWell 54 = .ok (.iconst 1, 1) := by decide +kernel
theorem dX3_standsWell_55 : decode cX3_standsWell 55 = .ok (.iand, 1) := by decide +kernel
theorem dX3_standsWell_56 : decode cX3_standsWell 56 = .ok (.ifCond .eq 31, 3) := by decide +kernel
theorem dX3_standsWell_59 : decode cX3_standsWell 59 = .ok (.aload_n 0, 1) := by decide +kernel
theorem dX3_standsWell_60 : decode cX3_standsWell 60 = .ok (.iload 4, 2) := by decide +kernel
theorem dX3_standsWell_62 : decode cX3_standsWell 62 = .ok (.invokevirtual 145, 3) := by decide +kernel
theorem dX3_standsWell_65 : decode cX3_standsWell 65 = .ok (.ifCond .eq 22, 3) := by decide +kernel
theorem dX3_standsWell_68 : decode cX3_standsWell 68 = .ok (.aload_n 0, 1) := by decide +kernel
theorem dX3_standsWell_69 : decode cX3_standsWell 69 = .ok (.getfield 25, 3) := by decide +kernel
theorem dX3_standsWell_72 : decode cX3_standsWell 72 = .ok (.iload_n 2, 1) := by decide +kernel
theorem dX3_standsWell_73 : decode cX3_standsWell 73 = .ok (.iaload, 1) := by decide +kernel
theorem dX3_standsWell_74 : decode cX3_standsWell 74 = .ok (.aload_n 0, 1) := by decide +kernel
theorem dX3_standsWell_75 : decode cX3_standsWell 75 = .ok (.getfield 25, 3) := by decide +kernel
theorem dX3_standsWell_78 : decode cX3_standsWell 78 = .ok (.iload 4, 2) := by decide +kernel
theorem dX3_standsWell_80 : decode cX3_standsWell 80 = .ok (.iaload, 1) := by decide +kernel
theorem dX3_standsWell_81 : decode cX3_standsWell 81 = .ok (.iand, 1) := by decide +kernel
theorem dX3_standsWell_82 : decode cX3_standsWell 82 = .ok (.ifCond .eq 5, 3) := by decide +kernel
theorem dX3_standsWell_85 : decode cX3_standsWell 85 = .ok (.iconst 0, 1) := by decide +kernel
theorem dX3_standsWell_86 : decode cX3_standsWell 86 = .ok (.ireturn, 1) := by decide +kernel
theorem dX3_standsWell_87 : decode cX3_standsWell 87 = .ok (.iinc 3 1, 3) := by decide +kernel
theorem dX3_standsWell_90 : decode cX3_standsWell 90 = .ok (.goto (-57), 3) := by decide +kernel
theorem dX3_standsWell_93 : decode cX3_standsWell 93 = .ok (.iconst 1, 1) := by decide +kernel
theorem dX3_standsWell_94 : decode cX3_standsWell 94 = .ok (.ireturn, 1) := by decide +kernel
theorem dX9_init_0 : decode cX9_init 0 = .ok (.aload_n 0, 1) := by decide +kernel
theorem dX9_init_1 : decode cX9_init 1 = .ok (.invokespecial 3, 3) := by decide +kernel
theorem dX9_init_4 : decode cX9_init 4 = .ok (.new 9, 3) := by decide +kernel
theorem dX9_init_7 : decode cX9_init 7 = .ok (.dup, 1) := by decide +kernel
theorem dX9_init_8 : decode cX9_init 8 = .ok (.invokespecial 11, 3) := by decide +kernel
theorem dX9_init_11 : decode cX9_init 11 = .ok (.astore_n 1, 1) := by decide +kernel
theorem dX9_init_12 : decode cX9_init 12 = .ok (.new 12, 3) := by decide +kernel
theorem dX9_init_15 : decode cX9_init 15 = .ok (.dup, 1) := by decide +kernel
theorem dX9_init_16 : decode cX9_init 16 = .ok (.aload_n 1, 1) := by decide +kernel
theorem dX9_init_17 : decode cX9_init 17 = .ok (.invokespecial 14, 3) := by decide +kernel
theorem dX9_init_20 : decode cX9_init 20 = .ok (.astore_n 2, 1) := by decide +kernel
theorem dX9_init_21 : decode cX9_init 21 = .ok (.aload_n 0, 1) := by decide +kernel
theorem dX9_init_22 : decode cX9_init 22 = .ok (.aload_n 1, 1) := by decide +kernel
theorem dX9_init_23 : decode cX9_init 23 = .ok (.putfield 17, 3) := by decide +kernel
theorem dX9_init_26 : decode cX9_init 26 = .ok (.aload_n 0, 1) := by decide +kernel
theorem dX9_init_27 : decode cX9_init 27 = .ok (.new 9, 3) := by decide +kernel
theorem dX9_init_30 : decode cX9_init 30 = .ok (.dup, 1) := by decide +kernel
theorem dX9_init_31 : decode cX9_init 31 = .ok (.invokespecial 11, 3) := by decide +kernel
theorem dX9_init_34 : decode cX9_init 34 = .ok (.putfield 21, 3) := by decide +kernel
theorem dX9_init_37 : decode cX9_init 37 = .ok (.aload_n 0, 1) := by decide +kernel
theorem dX9_init_38 : decode cX9_init 38 = .ok (.new 24, 3) := by decide +kernel
theorem dX9_init_41 : decode cX9_init 41 = .ok (.dup, 1) := by decide +kernel
theorem dX9_init_42 : decode cX9_init 42 = .ok (.invokespecial 26, 3) := by decide +kernel
theorem dX9_init_45 : decode cX9_init 45 = .ok (.putfield 27, 3) := by decide +kernel
theorem dX9_init_48 : decode cX9_init 48 = .ok (.aload_n 0, 1) := by decide +kernel
theorem dX9_init_49 : decode cX9_init 49 = .ok (.aload_n 2, 1) := by decide +kernel
theorem dX9_init_50 : decode cX9_init 50 = .ok (.putfield 31, 3) := by decide +kernel
theorem dX9_init_53 : decode cX9_init 53 = .ok (.aload_n 0, 1) := by decide +kernel
theorem dX9_init_54 : decode cX9_init 54 = .ok (.new 35, 3) := by decide +kernel
theorem dX9_init_57 : decode cX9_init 57 = .ok (.dup, 1) := by decide +kernel
theorem dX9_init_58 : decode cX9_init 58 = .ok (.aload_n 1, 1) := by decide +kernel
theorem dX9_init_59 : decode cX9_init 59 = .ok (.aload_n 2, 1) := by decide +kernel
theorem dX9_init_60 : decode cX9_init 60 = .ok (.invokespecial 37, 3) := by decide +kernel
theorem dX9_init_63 : decode cX9_init 63 = .ok (.putfield 40, 3) := by decide +kernel
theorem dX9_init_66 : decode cX9_init 66 = .ok (.aload_n 0, 1) := by decide +kernel
theorem dX9_init_67 : decode cX9_init 67 = .ok (.new 44, 3) := by decide +kernel
theorem dX9_init_70 : decode cX9_init 70 = .ok (.dup, 1) := by decide +kernel
theorem dX9_init_71 : decode cX9_init 71 = .ok (.aload_n 1, 1) := by decide +kernel
theorem dX9_init_72 : decode cX9_init 72 = .ok (.invokespecial 46, 3) := by decide +kernel
theorem dX9_init_75 : decode cX9_init 75 = .ok (.putfield 47, 3) := by decide +kernel
theorem dX9_init_78 : decode cX9_init 78 = .ok (.aload_n 0, 1) := by decide +kernel
theorem dX9_init_79 : decode cX9_init 79 = .ok (.new 51, 3) := by decide +kernel
theorem dX9_init_82 : decode cX9_init 82 = .ok (.dup, 1) := by decide +kernel
theorem dX9_init_83 : decode cX9_init 83 = .ok (.aload_n 1, 1) := by decide +kernel
theorem dX9_init_84 : decode cX9_init 84 = .ok (.invokespecial 53, 3) := by decide +kernel
theorem dX9_init_87 : decode cX9_init 87 = .ok (.putfield 54, 3) := by decide +kernel
theorem dX9_init_90 : decode cX9_init 90 = .ok (.aload_n 0, 1) := by decide +kernel
theorem dX9_init_91 : decode cX9_init 91 = .ok (.new 58, 3) := by decide +kernel
theorem dX9_init_94 : decode cX9_init 94 = .ok (.dup, 1) := by decide +kernel
theorem dX9_init_95 : decode cX9_init 95 = .ok (.invokespecial 60, 3) := by decide +kernel
theorem dX9_init_98 : decode cX9_init 98 = .ok (.putfield 61, 3) := by decide +kernel
theorem dX9_init_101 : decode cX9_init 101 = .ok (.aload_n 0, 1) := by decide +kernel
theorem dX9_init_102 : decode cX9_init 102 = .ok (.new 65, 3) := by decide +kernel
theorem dX9_init_105 : decode cX9_init 105 = .ok (.dup, 1) := by decide +kernel
theorem dX9_init_106 : decode cX9_init 106 = .ok (.invokespecial 67, 3) := by decide +kernel
theorem dX9_init_109 : decode cX9_init 109 = .ok (.putfield 68, 3) := by decide +kernel
theorem dX9_init_112 : decode cX9_init 112 = .ok (.aload_n 0, 1) := by decide +kernel
theorem dX9_init_113 : decode cX9_init 113 = .ok (.bipush 6, 2) := by decide +kernel
theorem dX9_init_115 : decode cX9_init 115 = .ok (.newarray .int, 2) := by decide +kernel
theorem dX9_init_117 : decode cX9_init 117 = .ok (.putfield 72, 3) := by decide +kernel
theorem dX9_init_120 : decode cX9_init 120 = .ok (.aload_n 0, 1) := by decide +kernel
theorem dX9_init_121 : decode cX9_init 121 = .ok (.iconst 0, 1) := by decide +kernel
theorem dX9_init_122 : decode cX9_init 122 = .ok (.putfield 76, 3) := by decide +kernel
theorem dX9_init_125 : decode cX9_init 125 = .ok (.return_, 1) := by decide +kernel
theorem dX9_feed_0 : decode cX9_feed 0 = .ok (.iload_n 3, 1) := by decide +kernel
theorem dX9_feed_1 : decode cX9_feed 1 = .ok (.iconst 1, 1) := by decide +kernel
theorem dX9_feed_2 : decode cX9_feed 2 = .ok (.if_icmp .lt 9, 3) := by decide +kernel
theorem dX9_feed_5 : decode cX9_feed 5 = .ok (.iload_n 3, 1) := by decide +kernel
theorem dX9_feed_6 : decode cX9_feed 6 = .ok (.bipush 8, 2) := by decide +kernel
theorem dX9_feed_8 : decode cX9_feed 8 = .ok (.if_icmp .le 10, 3) := by decide +kernel
theorem dX9_feed_11 : decode cX9_feed 11 = .ok (.aload_n 0, 1) := by decide +kernel
theorem dX9_feed_12 : decode cX9_feed 12 = .ok (.ldc 80, 2) := by decide +kernel
theorem dX9_feed_14 : decode cX9_feed 14 = .ok (.invokevirtual 81, 3) := by decide +kernel
theorem dX9_feed_17 : decode cX9_feed 17 = .ok (.ireturn, 1) := by decide +kernel
theorem dX9_feed_18 : decode cX9_feed 18 = .ok (.aload_n 0, 1) := by decide +kernel
theorem dX9_feed_19 : decode cX9_feed 19 = .ok (.getfield 17, 3) := by decide +kernel
theorem dX9_feed_22 : decode cX9_feed 22 = .ok (.getfield 85, 3) := by decide +kernel
theorem dX9_feed_25 : decode cX9_feed 25 = .ok (.iload_n 3, 1) := by decide +kernel
theorem dX9_feed_26 : decode cX9_feed 26 = .ok (.iadd, 1) := by decide +kernel
theorem dX9_feed_27 : decode cX9_feed 27 = .ok (.bipush 50, 2) := by decide +kernel
theorem dX9_feed_29 : decode cX9_feed 29 = .ok (.if_icmp .le 10, 3) := by decide +kernel
theorem dX9_feed_32 : decode cX9_feed 32 = .ok (.aload_n 0, 1) := by decide +kernel
theorem dX9_feed_33 : decode cX9_feed 33 = .ok (.ldc 88, 2) := by decide +kernel
theorem dX9_feed_35 : decode cX9_feed 35 = .ok (.invokevirtual 81, 3) := by decide +kernel
theorem dX9_feed_38 : decode cX9_feed 38 = .ok (.ireturn, 1) := by decide +kernel
theorem dX9_feed_39 : decode cX9_feed 39 = .ok (.aload_n 0, 1) := by decide +kernel
theorem dX9_feed_40 : decode cX9_feed 40 = .ok (.getfield 17, 3) := by decide +kernel
theorem dX9_feed_43 : decode cX9_feed 43 = .ok (.lload_n 1, 1) := by decide +kernel
theorem dX9_feed_44 : decode cX9_feed 44 = .ok (.iload_n 3, 1) := by decide +kernel
theorem dX9_feed_45 : decode cX9_feed 45 = .ok (.invokevirtual 89, 3) := by decide +kernel
theorem dX9_feed_48 : decode cX9_feed 48 = .ok (.ireturn, 1) := by decide +kernel
theorem dX9_name_0 : decode cX9_name 0 = .ok (.iload_n 1, 1) := by decide +kernel
theorem dX9_name_1 : decode cX9_name 1 = .ok (.invokestatic 93, 3) := by decide +kernel
theorem dX9_name_4 : decode cX9_name 4 = .ok (.ifCond .ne 10, 3) := by decide +kernel
theorem dX9_name_7 : decode cX9_name 7 = .ok (.aload_n 0, 1) := by decide +kernel
theorem dX9_name_8 : decode cX9_name 8 = .ok (.ldc 80, 2) := by decide +kernel
theorem dX9_name_10 : decode cX9_name 10 = .ok (.invokevirtual 81, 3) := by decide +kernel
theorem dX9_name_13 : decode cX9_name 13 = .ok (.ireturn, 1) := by decide +kernel
theorem dX9_name_14 : decode cX9_name 14 = .ok (.aload_n 0, 1) := by decide +kernel
theorem dX9_name_15 : decode cX9_name 15 = .ok (.getfield 17, 3) := by decide +kernel
theorem dX9_name_18 : decode cX9_name 18 = .ok (.getfield 97, 3) := by decide +kernel
theorem dX9_name_21 : decode cX9_name 21 = .ok (.bipush 14, 2) := by decide +kernel
theorem dX9_name_23 : decode cX9_name 23 = .ok (.if_icmp .lt 10, 3) := by decide +kernel
theorem dX9_name_26 : decode cX9_name 26 = .ok (.aload_n 0, 1) := by decide +kernel
theorem dX9_name_27 : decode cX9_name 27 = .ok (.ldc 88, 2) := by decide +kernel
theorem dX9_name_29 : decode cX9_name 29 = .ok (.invokevirtual 81, 3) := by decide +kernel
theorem dX9_name_32 : decode cX9_name 32 = .ok (.ireturn, 1) := by decide +kernel
theorem dX9_name_33 : decode cX9_name 33 = .ok (.aload_n 0, 1) := by decide +kernel
theorem dX9_name_34 : decode cX9_name 34 = .ok (.getfield 17, 3) := by decide +kernel
theorem dX9_name_37 : decode cX9_name 37 = .ok (.getfield 85, 3) := by decide +kernel
theorem dX9_name_40 : decode cX9_name 40 = .ok (.istore_n 2, 1) := by decide +kernel
theorem dX9_name_41 : decode cX9_name 41 = .ok (.aload_n 0, 1) := by decide +kernel
theorem dX9_name_42 : decode cX9_name 42 = .ok (.getfield 17, 3) := by decide +kernel
theorem dX9_name_45 : decode cX9_name 45 = .ok (.invokevirtual 100, 3) := by decide +kernel
theorem dX9_name_48 : decode cX9_name 48 = .ok (.istore_n 3, 1) := by decide +kernel
theorem dX9_name_49 : decode cX9_name 49 = .ok (.aload_n 0, 1) := by decide +kernel
theorem dX9_name_50 : decode cX9_name 50 = .ok (.getfield 17, 3) := by decide +kernel
theorem dX9_name_53 : decode cX9_name 53 = .ok (.iconst 0, 1) := by decide +kernel
theorem dX9_name_54 : decode cX9_name 54 = .ok (.putfield 85, 3) := by decide +kernel
theorem dX9_name_57 : decode cX9_name 57 = .ok (.iload_n 3, 1) := by decide +kernel
theorem dX9_name_58 : decode cX9_name 58 = .ok (.iload_n 2, 1) := by decide +kernel
theorem dX9_name_59 : decode cX9_name 59 = .ok (.if_icmp .lt 7, 3) := by decide +kernel
theorem dX9_name_62 : decode cX9_name 62 = .ok (.iload_n 2, 1) := by decide +kernel
theorem dX9_name_63 : decode cX9_name 63 = .ok (.ifCond .ne 8, 3) := by decide +kernel
theorem dX9_name_66 : decode cX9_name 66 = .ok (.bipush (-10), 2) := by decide +kernel
theorem dX9_name_68 : decode cX9_name 68 = .ok (.iload_n 3, 1) := by decide +kernel
theorem dX9_name_69 : decode cX9_name 69 = .ok (.isub, 1) := by decide +kernel
theorem dX9_name_70 : decode cX9_name 70 = .ok (.ireturn, 1) := by decide +kernel
theorem dX9_name_71 : decode cX9_name 71 = .ok (.aload_n 0, 1) := by decide +kernel
theorem dX9_name_72 : decode cX9_name 72 = .ok (.getfield 17, 3) := by decide +kernel
theorem dX9_name_75 : decode cX9_name 75 = .ok (.iload_n 2, 1) := by decide +kernel
theorem dX9_name_76 : decode cX9_name 76 = .ok (.iload_n 1, 1) := by decide +kernel
theorem dX9_name_77 : decode cX9_name 77 = .ok (.invokevirtual 104, 3) := by decide +kernel
theorem dX9_name_80 : decode cX9_name 80 = .ok (.ireturn, 1) := by decide +kernel
theorem dX9_ofName_0 : decode cX9_ofName 0 = .ok (.aload_n 0, 1) := by decide +kernel
theorem dX9_ofName_1 : decode cX9_ofName 1 = .ok (.getfield 17, 3) := by decide +kernel
theorem dX9_ofName_4 : decode cX9_ofName 4 = .ok (.iload_n 1, 1) := by decide +kernel
theorem dX9_ofName_5 : decode cX9_ofName 5 = .ok (.invokevirtual 108, 3) := by decide +kernel
theorem dX9_ofName_8 : decode cX9_ofName 8 = .ok (.ifCond .eq 13, 3) := by decide +kernel
theorem dX9_ofName_11 : decode cX9_ofName 11 = .ok (.iload_n 2, 1) := by decide +kernel
theorem dX9_ofName_12 : decode cX9_ofName 12 = .ok (.ifCond .lt 9, 3) := by decide +kernel
theorem dX9_ofName_15 : decode cX9_ofName 15 = .ok (.iload_n 2, 1) := by decide +kernel
theorem dX9_ofName_16 : decode cX9_ofName 16 = .ok (.bipush 11, 2) := by decide +kernel
theorem dX9_ofName_18 : decode cX9_ofName 18 = .ok (.if_icmp .lt 10, 3) := by decide +kernel
theorem dX9_ofName_21 : decode cX9_ofName 21 = .ok (.aload_n 0, 1) := by decide +kernel
theorem dX9_ofName_22 : decode cX9_ofName 22 = .ok (.ldc 80, 2) := by decide +kernel
theorem dX9_ofName_24 : decode cX9_ofName 24 = .ok (.invokevirtual 81, 3) := by decide +kernel
theorem dX9_ofName_27 : decode cX9_ofName 27 = .ok (.ireturn, 1) := by decide +kernel
theorem dX9_ofName_28 : decode cX9_ofName 28 = .ok (.iload_n 2, 1) := by decide +kernel
theorem dX9_ofName_29 : decode cX9_ofName 29 = .ok (.tableswitch 57 0 2 #[27, 37, 47], 27) := by decide +kernel
theorem dX9_ofName_56 : decode cX9_ofName 56 = .ok (.aload_n 0, 1) := by decide +kernel
theorem dX9_ofName_57 : decode cX9_ofName 57 = .ok (.getfield 17, 3) := by decide +kernel
theorem dX9_ofName_60 : decode cX9_ofName 60 = .ok (.getfield 111, 3) := by decide +kernel
theorem dX9_ofName_63 : decode cX9_ofName 63 = .ok (.iload_n 1, 1) := by decide +kernel
theorem dX9_ofName_64 : decode cX9_ofName 64 = .ok (.iaload, 1) := by decide +kernel
theorem dX9_ofName_65 : decode cX9_ofName 65 = .ok (.ireturn, 1) := by decide +kernel
theorem dX9_ofName_66 : decode cX9_ofName 66 = .ok (.aload_n 0, 1) := by decide +kernel
theorem dX9_ofName_67 : decode cX9_ofName 67 = .ok (.getfield 17, 3) := by decide +kernel
theorem dX9_ofName_70 : decode cX9_ofName 70 = .ok (.getfield 114, 3) := by decide +kernel
theorem dX9_ofName_73 : decode cX9_ofName 73 = .ok (.iload_n 1, 1) := by decide +kernel
theorem dX9_ofName_74 : decode cX9_ofName 74 = .ok (.iaload, 1) := by decide +kernel
theorem dX9_ofName_75 : decode cX9_ofName 75 = .ok (.ireturn, 1) := by decide +kernel
theorem dX9_ofName_76 : decode cX9_ofName 76 = .ok (.aload_n 0, 1) := by decide +kernel
theorem dX9_ofName_77 : decode cX9_ofName 77 = .ok (.getfield 17, 3) := by decide +kernel
theorem dX9_ofName_80 : decode cX9_ofName 80 = .ok (.getfield 117, 3) := by decide +kernel
theorem dX9_ofName_83 : decode cX9_ofName 83 = .ok (.iload_n 1, 1) := by decide +kernel
theorem dX9_ofName_84 : decode cX9_ofName 84 = .ok (.iaload, 1) := by decide +kernel
theorem dX9_ofName_85 : decode cX9_ofName 85 = .ok (.ireturn, 1) := by decide +kernel
theorem dX9_ofName_86 : decode cX9_ofName 86 = .ok (.aload_n 0, 1) := by decide +kernel
theorem dX9_ofName_87 : decode cX9_ofName 87 = .ok (.getfield 17, 3) := by decide +kernel
theorem dX9_ofName_90 : decode cX9_ofName 90 = .ok (.iload_n 1, 1) := by decide +kernel
theorem dX9_ofName_91 : decode cX9_ofName 91 = .ok (.iload_n 2, 1) := by decide +kernel
theorem dX9_ofName_92 : decode cX9_ofName 92 = .ok (.iconst 3, 1) := by decide +kernel
theorem dX9_ofName_93 : decode cX9_ofName 93 = .ok (.isub, 1) := by decide +kernel
theorem dX9_ofName_94 : decode cX9_ofName 94 = .ok (.invokevirtual 120, 3) := by decide +kernel
theorem dX9_ofName_97 : decode cX9_ofName 97 = .ok (.ireturn, 1) := by decide +kernel
theorem dX9_sound_0 : decode cX9_sound 0 = .ok (.aload_n 0, 1) := by decide +kernel
theorem dX9_sound_1 : decode cX9_sound 1 = .ok (.getfield 17, 3) := by decide +kernel
theorem dX9_sound_4 : decode cX9_sound 4 = .ok (.iload_n 1, 1) := by decide +kernel
theorem dX9_sound_5 : decode cX9_sound 5 = .ok (.invokevirtual 108, 3) := by decide +kernel
theorem dX9_sound_8 : decode cX9_sound 8 = .ok (.ifCond .eq 10, 3) := by decide +kernel
theorem dX9_sound_11 : decode cX9_sound 11 = .ok (.iload_n 2, 1) := by decide +kernel
theorem dX9_sound_12 : decode cX9_sound 12 = .ok (.invokestatic 93, 3) := by decide +kernel
theorem dX9_sound_15 : decode cX9_sound 15 = .ok (.ifCond .ne 10, 3) := by decide +kernel
theorem dX9_sound_18 : decode cX9_sound 18 = .ok (.aload_n 0, 1) := by decide +kernel
theorem dX9_sound_19 : decode cX9_sound 19 = .ok (.ldc 80, 2) := by decide +kernel
theorem dX9_sound_21 : decode cX9_sound 21 = .ok (.invokevirtual 81, 3) := by decide +kernel
theorem dX9_sound_24 : decode cX9_sound 24 = .ok (.ireturn, 1) := by decide +kernel
theorem dX9_sound_25 : decode cX9_sound 25 = .ok (.aload_n 0, 1) := by decide +kernel
theorem dX9_sound_26 : decode cX9_sound 26 = .ok (.getfield 17, 3) := by decide +kernel
theorem dX9_sound_29 : decode cX9_sound 29 = .ok (.getfield 111, 3) := by decide +kernel
theorem dX9_sound_32 : decode cX9_sound 32 = .ok (.iload_n 1, 1) := by decide +kernel
theorem dX9_sound_33 : decode cX9_sound 33 = .ok (.iaload, 1) := by decide +kernel
theorem dX9_sound_34 : decode cX9_sound 34 = .ok (.istore_n 3, 1) := by decide +kernel
theorem dX9_sound_35 : decode cX9_sound 35 = .ok (.aload_n 0, 1) := by decide +kernel
theorem dX9_sound_36 : decode cX9_sound 36 = .ok (.getfield 17, 3) := by decide +kernel
theorem dX9_sound_39 : decode cX9_sound 39 = .ok (.getfield 111, 3) := by decide +kernel
theorem dX9_sound_42 : decode cX9_sound 42 = .ok (.iload_n 1, 1) := by decide +kernel
theorem dX9_sound_43 : decode cX9_sound 43 = .ok (.iload_n 2, 1) := by decide +kernel
theorem dX9_sound_44 : decode cX9_sound 44 = .ok (.iastore, 1) := by decide +kernel
theorem dX9_sound_45 : decode cX9_sound 45 = .ok (.iload_n 3, 1) := by decide +kernel
theorem dX9_sound_46 : decode cX9_sound 46 = .ok (.ireturn, 1) := by decide +kernel
theorem dX9_clash_0 : decode cX9_clash 0 = .ok (.aload_n 0, 1) := by decide +kernel
theorem dX9_clash_1 : decode cX9_clash 1 = .ok (.getfield 17, 3) := by decide +kernel
theorem dX9_clash_4 : decode cX9_clash 4 = .ok (.iload_n 1, 1) := by decide +kernel
theorem dX9_clash_5 : decode cX9_clash 5 = .ok (.invokevirtual 108, 3) := by decide +kernel
theorem dX9_clash_8 : decode cX9_clash 8 = .ok (.ifCond .eq 14, 3) := by decide +kernel
theorem dX9_clash_11 : decode cX9_clash 11 = .ok (.aload_n 0, 1) := by decide +kernel
theorem dX9_clash_12 : decode cX9_clash 12 = .ok (.getfield 17, 3) := by decide +kernel
theorem dX9_clash_15 : decode cX9_clash 15 = .ok (.iload_n 2, 1) := by decide +kernel
theorem dX9_clash_16 : decode cX9_clash 16 = .ok (.invokevirtual 108, 3) := by decide +kernel
theorem dX9_clash_19 : decode cX9_clash 19 = .ok (.ifCond .ne 10, 3) := by decide +kernel
theorem dX9_clash_22 : decode cX9_clash 22 = .ok (.aload_n 0, 1) := by decide +kernel
theorem dX9_clash_23 : decode cX9_clash 23 = .ok (.ldc 80, 2) := by decide +kernel
theorem dX9_clash_25 : decode cX9_clash 25 = .ok (.invokevirtual 81, 3) := by decide +kernel
theorem dX9_clash_28 : decode cX9_clash 28 = .ok (.ireturn, 1) := by decide +kernel
theorem dX9_clash_29 : decode cX9_clash 29 = .ok (.aload_n 0, 1) := by decide +kernel
theorem dX9_clash_30 : decode cX9_clash 30 = .ok (.getfield 17, 3) := by decide +kernel
theorem dX9_clash_33 : decode cX9_clash 33 = .ok (.getfield 117, 3) := by decide +kernel
theorem dX9_clash_36 : decode cX9_clash 36 = .ok (.iload_n 1, 1) := by decide +kernel
theorem dX9_clash_37 : decode cX9_clash 37 = .ok (.iaload, 1) := by decide +kernel
theorem dX9_clash_38 : decode cX9_clash 38 = .ok (.aload_n 0, 1) := by decide +kernel
theorem dX9_clash_39 : decode cX9_clash 39 = .ok (.getfield 17, 3) := by decide +kernel
theorem dX9_clash_42 : decode cX9_clash 42 = .ok (.getfield 117, 3) := by decide +kernel
theorem dX9_clash_45 : decode cX9_clash 45 = .ok (.iload_n 2, 1) := by decide +kernel
theorem dX9_clash_46 : decode cX9_clash 46 = .ok (.iaload, 1) := by decide +kernel
theorem dX9_clash_47 : decode cX9_clash 47 = .ok (.iand, 1) := by decide +kernel
theorem dX9_clash_48 : decode cX9_clash 48 = .ok (.ireturn, 1) := by decide +kernel
theorem dX9_strike_0 : decode cX9_strike 0 = .ok (.iload_n 1, 1) := by decide +kernel
theorem dX9_strike_1 : decode cX9_strike 1 = .ok (.invokestatic 123, 3) := by decide +kernel
theorem dX9_strike_4 : decode cX9_strike 4 = .ok (.ifCond .eq 10, 3) := by decide +kernel
theorem dX9_strike_7 : decode cX9_strike 7 = .ok (.iload_n 2, 1) := by decide +kernel
theorem dX9_strike_8 : decode cX9_strike 8 = .ok (.invokestatic 126, 3) := by decide +kernel
theorem dX9_strike_11 : decode cX9_strike 11 = .ok (.ifCond .ne 10, 3) := by decide +kernel
theorem dX9_strike_14 : decode cX9_strike 14 = .ok (.aload_n 0, 1) := by decide +kernel
theorem dX9_strike_15 : decode cX9_strike 15 = .ok (.ldc 80, 2) := by decide +kernel
theorem dX9_strike_17 : decode cX9_strike 17 = .ok (.invokevirtual 81, 3) := by decide +kernel
theorem dX9_strike_20 : decode cX9_strike 20 = .ok (.ireturn, 1) := by decide +kernel
theorem dX9_strike_21 : decode cX9_strike 21 = .ok (.aload_n 0, 1) := by decide +kernel
theorem dX9_strike_22 : decode cX9_strike 22 = .ok (.getfield 17, 3) := by decide +kernel
theorem dX9_strike_25 : decode cX9_strike 25 = .ok (.getfield 129, 3) := by decide +kernel
theorem dX9_strike_28 : decode cX9_strike 28 = .ok (.iload_n 1, 1) := by decide +kernel
theorem dX9_strike_29 : decode cX9_strike 29 = .ok (.ishr, 1) := by decide +kernel
theorem dX9_strike_30 : decode cX9_strike 30 = .ok (.iconst 1, 1) := by decide +kernel
theorem dX9_strike_31 : decode cX9_strike 31 = .ok (.iand, 1) := by decide +kernel
theorem dX9_strike_32 : decode cX9_strike 32 = .ok (.istore_n 3, 1) := by decide +kernel
theorem dX9_strike_33 : decode cX9_strike 33 = .ok (.aload_n 0, 1) := by decide +kernel
theorem dX9_strike_34 : decode cX9_strike 34 = .ok (.getfield 17, 3) := by decide +kernel
theorem dX9_strike_37 : decode cX9_strike 37 = .ok (.aload_n 0, 1) := by decide +kernel
theorem dX9_strike_38 : decode cX9_strike 38 = .ok (.getfield 17, 3) := by decide +kernel
theorem dX9_strike_41 : decode cX9_strike 41 = .ok (.getfield 129, 3) := by decide +kernel
theorem dX9_strike_44 : decode cX9_strike 44 = .ok (.iconst 1, 1) := by decide +kernel
theorem dX9_strike_45 : decode cX9_strike 45 = .ok (.iload_n 1, 1) := by decide +kernel
theorem dX9_strike_46 : decode cX9_strike 46 = .ok (.ishl, 1) := by decide +kernel
theorem dX9_strike_47 : decode cX9_strike 47 = .ok (.iconst (-1), 1) := by decide +kernel
theorem dX9_strike_48 : decode cX9_strike 48 = .ok (.ixor, 1) := by decide +kernel
theorem dX9_strike_49 : decode cX9_strike 49 = .ok (.iand, 1) := by decide +kernel
theorem dX9_strike_50 : decode cX9_strike 50 = .ok (.iload_n 2, 1) := by decide +kernel
theorem dX9_strike_51 : decode cX9_strike 51 = .ok (.iload_n 1, 1) := by decide +kernel
theorem dX9_strike_52 : decode cX9_strike 52 = .ok (.ishl, 1) := by decide +kernel
theorem dX9_strike_53 : decode cX9_strike 53 = .ok (.ior, 1) := by decide +kernel
theorem dX9_strike_54 : decode cX9_strike 54 = .ok (.putfield 129, 3) := by decide +kernel
theorem dX9_strike_57 : decode cX9_strike 57 = .ok (.iload_n 3, 1) := by decide +kernel
theorem dX9_strike_58 : decode cX9_strike 58 = .ok (.ireturn, 1) := by decide +kernel
theorem dX9_person_0 : decode cX9_person 0 = .ok (.iload_n 1, 1) := by decide +kernel
theorem dX9_person_1 : decode cX9_person 1 = .ok (.invokestatic 132, 3) := by decide +kernel
theorem dX9_person_4 : decode cX9_person 4 = .ok (.ifCond .eq 19, 3) := by decide +kernel
theorem dX9_person_7 : decode cX9_person 7 = .ok (.iload_n 2, 1) := by decide +kernel
theorem dX9_person_8 : decode cX9_person 8 = .ok (.iconst (-1), 1) := by decide +kernel
theorem dX9_person_9 : decode cX9_person 9 = .ok (.if_icmp .eq 21, 3) := by decide +kernel
theorem dX9_person_12 : decode cX9_person 12 = .ok (.aload_n 0, 1) := by decide +kernel
theorem dX9_person_13 : decode cX9_person 13 = .ok (.getfield 17, 3) := by decide +kernel
theorem dX9_person_16 : decode cX9_person 16 = .ok (.iload_n 2, 1) := by decide +kernel
theorem dX9_person_17 : decode cX9_person 17 = .ok (.invokevirtual 135, 3) := by decide +kernel
theorem dX9_person_20 : decode cX9_person 20 = .ok (.ifCond .ne 10, 3) := by decide +kernel
theorem dX9_person_23 : decode cX9_person 23 = .ok (.aload_n 0, 1) := by decide +kernel
theorem dX9_person_24 : decode cX9_person 24 = .ok (.ldc 80, 2) := by decide +kernel
theorem dX9_person_26 : decode cX9_person 26 = .ok (.invokevirtual 81, 3) := by decide +kernel
theorem dX9_person_29 : decode cX9_person 29 = .ok (.ireturn, 1) := by decide +kernel
theorem dX9_person_30 : decode cX9_person 30 = .ok (.aload_n 0, 1) := by decide +kernel
theorem dX9_person_31 : decode cX9_person 31 = .ok (.getfield 17, 3) := by decide +kernel
theorem dX9_person_34 : decode cX9_person 34 = .ok (.getfield 138, 3) := by decide +kernel
theorem dX9_person_37 : decode cX9_person 37 = .ok (.bipush 10, 2) := by decide +kernel
theorem dX9_person_39 : decode cX9_person 39 = .ok (.if_icmp .lt 10, 3) := by decide +kernel
theorem dX9_person_42 : decode cX9_person 42 = .ok (.aload_n 0, 1) := by decide +kernel
theorem dX9_person_43 : decode cX9_person 43 = .ok (.ldc 88, 2) := by decide +kernel
theorem dX9_person_45 : decode cX9_person 45 = .ok (.invokevirtual 81, 3) := by decide +kernel
theorem dX9_person_48 : decode cX9_person 48 = .ok (.ireturn, 1) := by decide +kernel
theorem dX9_person_49 : decode cX9_person 49 = .ok (.aload_n 0, 1) := by decide +kernel
theorem dX9_person_50 : decode cX9_person 50 = .ok (.getfield 17, 3) := by decide +kernel
theorem dX9_person_53 : decode cX9_person 53 = .ok (.iload_n 1, 1) := by decide +kernel
theorem dX9_person_54 : decode cX9_person 54 = .ok (.iload_n 2, 1) := by decide +kernel
theorem dX9_person_55 : decode cX9_person 55 = .ok (.invokevirtual 141, 3) := by decide +kernel
theorem dX9_person_58 : decode cX9_person 58 = .ok (.ireturn, 1) := by decide +kernel
theorem dX9_ofPerson_0 : decode cX9_ofPerson 0 = .ok (.aload_n 0, 1) := by decide +kernel
theorem dX9_ofPerson_1 : decode cX9_ofPerson 1 = .ok (.getfield 17, 3) := by decide +kernel
theorem dX9_ofPerson_4 : decode cX9_ofPerson 4 = .ok (.iload_n 1, 1) := by decide +kernel
theorem dX9_ofPerson_5 : decode cX9_ofPerson 5 = .ok (.invokevirtual 135, 3) := by decide +kernel
theorem dX9_ofPerson_8 : decode cX9_ofPerson 8 = .ok (.ifCond .ne 10, 3) := by decide +kernel
theorem dX9_ofPerson_11 : decode cX9_ofPerson 11 = .ok (.aload_n 0, 1) := by decide +kernel
theorem dX9_ofPerson_12 : decode cX9_ofPerson 12 = .ok (.ldc 80, 2) := by decide +kernel
theorem dX9_ofPerson_14 : decode cX9_ofPerson 14 = .ok (.invokevirtual 81, 3) := by decide +kernel
theorem dX9_ofPerson_17 : decode cX9_ofPerson 17 = .ok (.ireturn, 1) := by decide +kernel
theorem dX9_ofPerson_18 : decode cX9_ofPerson 18 = .ok (.iload_n 2, 1) := by decide +kernel
theorem dX9_ofPerson_19 : decode cX9_ofPerson 19 = .ok (.tableswitch 82 0 4 #[33, 43, 53, 63, 73], 33) := by decide +kernel
theorem dX9_ofPerson_52 : decode cX9_ofPerson 52 = .ok (.aload_n 0, 1) := by decide +kernel
theorem dX9_ofPerson_53 : decode cX9_ofPerson 53 = .ok (.getfield 17, 3) := by decide +kernel
theorem dX9_ofPerson_56 : decode cX9_ofPerson 56 = .ok (.getfield 144, 3) := by decide +kernel
theorem dX9_ofPerson_59 : decode cX9_ofPerson 59 = .ok (.iload_n 1, 1) := by decide +kernel
theorem dX9_ofPerson_60 : decode cX9_ofPerson 60 = .ok (.iaload, 1) := by decide +kernel
theorem dX9_ofPerson_61 : decode cX9_ofPerson 61 = .ok (.ireturn, 1) := by decide +kernel
theorem dX9_ofPerson_62 : decode cX9_ofPerson 62 = .ok (.aload_n 0, 1) := by decide +kernel
theorem dX9_ofPerson_63 : decode cX9_ofPerson 63 = .ok (.getfield 17, 3) := by decide +kernel
theorem dX9_ofPerson_66 : decode cX9_ofPerson 66 = .ok (.getfield 147, 3) := by decide +kernel
theorem dX9_ofPerson_69 : decode cX9_ofPerson 69 = .ok (.iload_n 1, 1) := by decide +kernel
theorem dX9_ofPerson_70 : decode cX9_ofPerson 70 = .ok (.iaload, 1) := by decide +kernel
theorem dX9_ofPerson_71 : decode cX9_ofPerson 71 = .ok (.ireturn, 1) := by decide +kernel
theorem dX9_ofPerson_72 : decode cX9_ofPerson 72 = .ok (.aload_n 0, 1) := by decide +kernel
theorem dX9_ofPerson_73 : decode cX9_ofPerson 73 = .ok (.getfield 17, 3) := by decide +kernel
theorem dX9_ofPerson_76 : decode cX9_ofPerson 76 = .ok (.getfield 150, 3) := by decide +kernel
theorem dX9_ofPerson_79 : decode cX9_ofPerson 79 = .ok (.iload_n 1, 1) := by decide +kernel
theorem dX9_ofPerson_80 : decode cX9_ofPerson 80 = .ok (.iaload, 1) := by decide +kernel
theorem dX9_ofPerson_81 : decode cX9_ofPerson 81 = .ok (.ireturn, 1) := by decide +kernel
theorem dX9_ofPerson_82 : decode cX9_ofPerson 82 = .ok (.aload_n 0, 1) := by decide +kernel
theorem dX9_ofPerson_83 : decode cX9_ofPerson 83 = .ok (.getfield 17, 3) := by decide +kernel
theorem dX9_ofPerson_86 : decode cX9_ofPerson 86 = .ok (.getfield 153, 3) := by decide +kernel
theorem dX9_ofPerson_89 : decode cX9_ofPerson 89 = .ok (.iload_n 1, 1) := by decide +kernel
theorem dX9_ofPerson_90 : decode cX9_ofPerson 90 = .ok (.iaload, 1) := by decide +kernel
theorem dX9_ofPerson_91 : decode cX9_ofPerson 91 = .ok (.ireturn, 1) := by decide +kernel
theorem dX9_ofPerson_92 : decode cX9_ofPerson 92 = .ok (.aload_n 0, 1) := by decide +kernel
theorem dX9_ofPerson_93 : decode cX9_ofPerson 93 = .ok (.getfield 17, 3) := by decide +kernel
theorem dX9_ofPerson_96 : decode cX9_ofPerson 96 = .ok (.iload_n 1, 1) := by decide +kernel
theorem dX9_ofPerson_97 : decode cX9_ofPerson 97 = .ok (.invokevirtual 156, 3) := by decide +kernel
theorem dX9_ofPerson_100 : decode cX9_ofPerson 100 = .ok (.ireturn, 1) := by decide +kernel
theorem dX9_ofPerson_101 : decode cX9_ofPerson 101 = .ok (.aload_n 0, 1) := by decide +kernel
theorem dX9_ofPerson_102 : decode cX9_ofPerson 102 = .ok (.ldc 80, 2) := by decide +kernel
theorem dX9_ofPerson_104 : decode cX9_ofPerson 104 = .ok (.invokevirtual 81, 3) := by decide +kernel
theorem dX9_ofPerson_107 : decode cX9_ofPerson 107 = .ok (.ireturn, 1) := by decide +kernel
theorem dX9_as_0 : decode cX9_as 0 = .ok (.aload_n 0, 1) := by decide +kernel
theorem dX9_as_1 : decode cX9_as 1 = .ok (.getfield 17, 3) := by decide +kernel
theorem dX9_as_4 : decode cX9_as 4 = .ok (.iload_n 1, 1) := by decide +kernel
theorem dX9_as_5 : decode cX9_as 5 = .ok (.invokevirtual 135, 3) := by decide +kernel
theorem dX9_as_8 : decode cX9_as 8 = .ok (.ifCond .eq 10, 3) := by decide +kernel
theorem dX9_as_11 : decode cX9_as 11 = .ok (.iload_n 2, 1) := by decide +kernel
theorem dX9_as_12 : decode cX9_as 12 = .ok (.invokestatic 132, 3) := by decide +kernel
theorem dX9_as_15 : decode cX9_as 15 = .ok (.ifCond .ne 10, 3) := by decide +kernel
theorem dX9_as_18 : decode cX9_as 18 = .ok (.aload_n 0, 1) := by decide +kernel
theorem dX9_as_19 : decode cX9_as 19 = .ok (.ldc 80, 2) := by decide +kernel
theorem dX9_as_21 : decode cX9_as 21 = .ok (.invokevirtual 81, 3) := by decide +kernel
theorem dX9_as_24 : decode cX9_as 24 = .ok (.ireturn, 1) := by decide +kernel
theorem dX9_as_25 : decode cX9_as 25 = .ok (.aload_n 0, 1) := by decide +kernel
theorem dX9_as_26 : decode cX9_as 26 = .ok (.getfield 17, 3) := by decide +kernel
theorem dX9_as_29 : decode cX9_as 29 = .ok (.getfield 144, 3) := by decide +kernel
theorem dX9_as_32 : decode cX9_as 32 = .ok (.iload_n 1, 1) := by decide +kernel
theorem dX9_as_33 : decode cX9_as 33 = .ok (.iaload, 1) := by decide +kernel
theorem dX9_as_34 : decode cX9_as 34 = .ok (.iload_n 2, 1) := by decide +kernel
theorem dX9_as_35 : decode cX9_as 35 = .ok (.invokestatic 159, 3) := by decide +kernel
theorem dX9_as_38 : decode cX9_as 38 = .ok (.ifCond .ne 10, 3) := by decide +kernel
theorem dX9_as_41 : decode cX9_as 41 = .ok (.aload_n 0, 1) := by decide +kernel
theorem dX9_as_42 : decode cX9_as 42 = .ok (.ldc 163, 2) := by decide +kernel
theorem dX9_as_44 : decode cX9_as 44 = .ok (.invokevirtual 81, 3) := by decide +kernel
theorem dX9_as_47 : decode cX9_as 47 = .ok (.ireturn, 1) := by decide +kernel
theorem dX9_as_48 : decode cX9_as 48 = .ok (.aload_n 0, 1) := by decide +kernel
theorem dX9_as_49 : decode cX9_as 49 = .ok (.getfield 17, 3) := by decide +kernel
theorem dX9_as_52 : decode cX9_as 52 = .ok (.getfield 150, 3) := by decide +kernel
theorem dX9_as_55 : decode cX9_as 55 = .ok (.iload_n 1, 1) := by decide +kernel
theorem dX9_as_56 : decode cX9_as 56 = .ok (.iaload, 1) := by decide +kernel
theorem dX9_as_57 : decode cX9_as 57 = .ok (.ireturn, 1) := by decide +kernel
theorem dX9_call_0 : decode cX9_call 0 = .ok (.aload_n 0, 1) := by decide +kernel
theorem dX9_call_1 : decode cX9_call 1 = .ok (.getfield 17, 3) := by decide +kernel
theorem dX9_call_4 : decode cX9_call 4 = .ok (.iload_n 1, 1) := by decide +kernel
theorem dX9_call_5 : decode cX9_call 5 = .ok (.invokevirtual 135, 3) := by decide +kernel
theorem dX9_call_8 : decode cX9_call 8 = .ok (.ifCond .eq 19, 3) := by decide +kernel
theorem dX9_call_11 : decode cX9_call 11 = .ok (.iload_n 2, 1) := by decide +kernel
theorem dX9_call_12 : decode cX9_call 12 = .ok (.iconst (-1), 1) := by decide +kernel
theorem dX9_call_13 : decode cX9_call 13 = .ok (.if_icmp .eq 21, 3) := by decide +kernel
theorem dX9_call_16 : decode cX9_call 16 = .ok (.aload_n 0, 1) := by decide +kernel
theorem dX9_call_17 : decode cX9_call 17 = .ok (.getfield 17, 3) := by decide +kernel
theorem dX9_call_20 : decode cX9_call 20 = .ok (.iload_n 2, 1) := by decide +kernel
theorem dX9_call_21 : decode cX9_call 21 = .ok (.invokevirtual 108, 3) := by decide +kernel
theorem dX9_call_24 : decode cX9_call 24 = .ok (.ifCond .ne 10, 3) := by decide +kernel
theorem dX9_call_27 : decode cX9_call 27 = .ok (.aload_n 0, 1) := by decide +kernel
theorem dX9_call_28 : decode cX9_call 28 = .ok (.ldc 80, 2) := by decide +kernel
theorem dX9_call_30 : decode cX9_call 30 = .ok (.invokevirtual 81, 3) := by decide +kernel
theorem dX9_call_33 : decode cX9_call 33 = .ok (.ireturn, 1) := by decide +kernel
theorem dX9_call_34 : decode cX9_call 34 = .ok (.aload_n 0, 1) := by decide +kernel
theorem dX9_call_35 : decode cX9_call 35 = .ok (.getfield 17, 3) := by decide +kernel
theorem dX9_call_38 : decode cX9_call 38 = .ok (.getfield 150, 3) := by decide +kernel
theorem dX9_call_41 : decode cX9_call 41 = .ok (.iload_n 1, 1) := by decide +kernel
theorem dX9_call_42 : decode cX9_call 42 = .ok (.iaload, 1) := by decide +kernel
theorem dX9_call_43 : decode cX9_call 43 = .ok (.istore_n 3, 1) := by decide +kernel
theorem dX9_call_44 : decode cX9_call 44 = .ok (.aload_n 0, 1) := by decide +kernel
theorem dX9_call_45 : decode cX9_call 45 = .ok (.getfield 17, 3) := by decide +kernel
theorem dX9_call_48 : decode cX9_call 48 = .ok (.getfield 150, 3) := by decide +kernel
theorem dX9_call_51 : decode cX9_call 51 = .ok (.iload_n 1, 1) := by decide +kernel
theorem dX9_call_52 : decode cX9_call 52 = .ok (.iload_n 2, 1) := by decide +kernel
theorem dX9_call_53 : decode cX9_call 53 = .ok (.iastore, 1) := by decide +kernel
theorem dX9_call_54 : decode cX9_call 54 = .ok (.iload_n 3, 1) := by decide +kernel
theorem dX9_call_55 : decode cX9_call 55 = .ok (.ireturn, 1) := by decide +kernel
theorem dX9_near_0 : decode cX9_near 0 = .ok (.aload_n 0, 1) := by decide +kernel
theorem dX9_near_1 : decode cX9_near 1 = .ok (.getfield 17, 3) := by decide +kernel
theorem dX9_near_4 : decode cX9_near 4 = .ok (.iload_n 1, 1) := by decide +kernel
theorem dX9_near_5 : decode cX9_near 5 = .ok (.iload_n 2, 1) := by decide +kernel
theorem dX9_near_6 : decode cX9_near 6 = .ok (.invokevirtual 164, 3) := by decide +kernel
theorem dX9_near_9 : decode cX9_near 9 = .ok (.ifCond .eq 10, 3) := by decide +kernel
theorem dX9_near_12 : decode cX9_near 12 = .ok (.iload_n 3, 1) := by decide +kernel
theorem dX9_near_13 : decode cX9_near 13 = .ok (.invokestatic 126, 3) := by decide +kernel
theorem dX9_near_16 : decode cX9_near 16 = .ok (.ifCond .ne 10, 3) := by decide +kernel
theorem dX9_near_19 : decode cX9_near 19 = .ok (.aload_n 0, 1) := by decide +kernel
theorem dX9_near_20 : decode cX9_near 20 = .ok (.ldc 80, 2) := by decide +kernel
theorem dX9_near_22 : decode cX9_near 22 = .ok (.invokevirtual 81, 3) := by decide +kernel
theorem dX9_near_25 : decode cX9_near 25 = .ok (.ireturn, 1) := by decide +kernel
theorem dX9_near_26 : decode cX9_near 26 = .ok (.aload_n 0, 1) := by decide +kernel
theorem dX9_near_27 : decode cX9_near 27 = .ok (.getfield 17, 3) := by decide +kernel
theorem dX9_near_30 : decode cX9_near 30 = .ok (.getfield 153, 3) := by decide +kernel
theorem dX9_near_33 : decode cX9_near 33 = .ok (.iload_n 1, 1) := by decide +kernel
theorem dX9_near_34 : decode cX9_near 34 = .ok (.iaload, 1) := by decide +kernel
theorem dX9_near_35 : decode cX9_near 35 = .ok (.iload_n 2, 1) := by decide +kernel
theorem dX9_near_36 : decode cX9_near 36 = .ok (.ishr, 1) := by decide +kernel
theorem dX9_near_37 : decode cX9_near 37 = .ok (.iconst 1, 1) := by decide +kernel
theorem dX9_near_38 : decode cX9_near 38 = .ok (.iand, 1) := by decide +kernel
theorem dX9_near_39 : decode cX9_near 39 = .ok (.istore 4, 2) := by decide +kernel
theorem dX9_near_41 : decode cX9_near 41 = .ok (.aload_n 0, 1) := by decide +kernel
theorem dX9_near_42 : decode cX9_near 42 = .ok (.getfield 17, 3) := by decide +kernel
theorem dX9_near_45 : decode cX9_near 45 = .ok (.iload_n 1, 1) := by decide +kernel
theorem dX9_near_46 : decode cX9_near 46 = .ok (.iload_n 2, 1) := by decide +kernel
theorem dX9_near_47 : decode cX9_near 47 = .ok (.iload_n 3, 1) := by decide +kernel
theorem dX9_near_48 : decode cX9_near 48 = .ok (.invokevirtual 167, 3) := by decide +kernel
theorem dX9_near_51 : decode cX9_near 51 = .ok (.iload 4, 2) := by decide +kernel
theorem dX9_near_53 : decode cX9_near 53 = .ok (.ireturn, 1) := by decide +kernel
theorem dX9_nears_0 : decode cX9_nears 0 = .ok (.aload_n 0, 1) := by decide +kernel
theorem dX9_nears_1 : decode cX9_nears 1 = .ok (.getfield 68, 3) := by decide +kernel
theorem dX9_nears_4 : decode cX9_nears 4 = .ok (.iload_n 1, 1) := by decide +kernel
theorem dX9_nears_5 : decode cX9_nears 5 = .ok (.invokevirtual 171, 3) := by decide +kernel
theorem dX9_nears_8 : decode cX9_nears 8 = .ok (.ifCond .ne 10, 3) := by decide +kernel
theorem dX9_nears_11 : decode cX9_nears 11 = .ok (.aload_n 0, 1) := by decide +kernel
theorem dX9_nears_12 : decode cX9_nears 12 = .ok (.ldc 80, 2) := by decide +kernel
theorem dX9_nears_14 : decode cX9_nears 14 = .ok (.invokevirtual 81, 3) := by decide +kernel
theorem dX9_nears_17 : decode cX9_nears 17 = .ok (.ireturn, 1) := by decide +kernel
theorem dX9_nears_18 : decode cX9_nears 18 = .ok (.aload_n 0, 1) := by decide +kernel
theorem dX9_nears_19 : decode cX9_nears 19 = .ok (.getfield 68, 3) := by decide +kernel
theorem dX9_nears_22 : decode cX9_nears 22 = .ok (.iload_n 1, 1) := by decide +kernel
theorem dX9_nears_23 : decode cX9_nears 23 = .ok (.invokevirtual 174, 3) := by decide +kernel
theorem dX9_nears_26 : decode cX9_nears 26 = .ok (.ifCond .eq 10, 3) := by decide +kernel
theorem dX9_nears_29 : decode cX9_nears 29 = .ok (.aload_n 0, 1) := by decide +kernel
theorem dX9_nears_30 : decode cX9_nears 30 = .ok (.ldc 177, 2) := by decide +kernel
theorem dX9_nears_32 : decode cX9_nears 32 = .ok (.invokevirtual 81, 3) := by decide +kernel
theorem dX9_nears_35 : decode cX9_nears 35 = .ok (.ireturn, 1) := by decide +kernel
theorem dX9_nears_36 : decode cX9_nears 36 = .ok (.aload_n 0, 1) := by decide +kernel
theorem dX9_nears_37 : decode cX9_nears 37 = .ok (.getfield 68, 3) := by decide +kernel
theorem dX9_nears_40 : decode cX9_nears 40 = .ok (.getfield 178, 3) := by decide +kernel
theorem dX9_nears_43 : decode cX9_nears 43 = .ok (.iload_n 1, 1) := by decide +kernel
theorem dX9_nears_44 : decode cX9_nears 44 = .ok (.iaload, 1) := by decide +kernel
theorem dX9_nears_45 : decode cX9_nears 45 = .ok (.iconst 2, 1) := by decide +kernel
theorem dX9_nears_46 : decode cX9_nears 46 = .ok (.idiv, 1) := by decide +kernel
theorem dX9_nears_47 : decode cX9_nears 47 = .ok (.istore_n 2, 1) := by decide +kernel
theorem dX9_nears_48 : decode cX9_nears 48 = .ok (.iconst 0, 1) := by decide +kernel
theorem dX9_nears_49 : decode cX9_nears 49 = .ok (.istore_n 3, 1) := by decide +kernel
theorem dX9_nears_50 : decode cX9_nears 50 = .ok (.iload_n 3, 1) := by decide +kernel
theorem dX9_nears_51 : decode cX9_nears 51 = .ok (.iload_n 2, 1) := by decide +kernel
theorem dX9_nears_52 : decode cX9_nears 52 = .ok (.if_icmp .ge 65, 3) := by decide +kernel
theorem dX9_nears_55 : decode cX9_nears 55 = .ok (.aload_n 0, 1) := by decide +kernel
theorem dX9_nears_56 : decode cX9_nears 56 = .ok (.getfield 68, 3) := by decide +kernel
theorem dX9_nears_59 : decode cX9_nears 59 = .ok (.iload_n 1, 1) := by decide +kernel
theorem dX9_nears_60 : decode cX9_nears 60 = .ok (.iconst 2, 1) := by decide +kernel
theorem dX9_nears_61 : decode cX9_nears 61 = .ok (.iload_n 3, 1) := by decide +kernel
theorem dX9_nears_62 : decode cX9_nears 62 = .ok (.imul, 1) := by decide +kernel
theorem dX9_nears_63 : decode cX9_nears 63 = .ok (.invokevirtual 181, 3) := by decide +kernel
theorem dX9_nears_66 : decode cX9_nears 66 = .ok (.istore 4, 2) := by decide +kernel
theorem dX9_nears_68 : decode cX9_nears 68 = .ok (.aload_n 0, 1) := by decide +kernel
theorem dX9_nears_69 : decode cX9_nears 69 = .ok (.getfield 68, 3) := by decide +kernel
theorem dX9_nears_72 : decode cX9_nears 72 = .ok (.iload_n 1, 1) := by decide +kernel
theorem dX9_nears_73 : decode cX9_nears 73 = .ok (.iconst 2, 1) := by decide +kernel
theorem dX9_nears_74 : decode cX9_nears 74 = .ok (.iload_n 3, 1) := by decide +kernel
theorem dX9_nears_75 : decode cX9_nears 75 = .ok (.imul, 1) := by decide +kernel
theorem dX9_nears_76 : decode cX9_nears 76 = .ok (.iconst 1, 1) := by decide +kernel
theorem dX9_nears_77 : decode cX9_nears 77 = .ok (.iadd, 1) := by decide +kernel
theorem dX9_nears_78 : decode cX9_nears 78 = .ok (.invokevirtual 181, 3) := by decide +kernel
theorem dX9_nears_81 : decode cX9_nears 81 = .ok (.istore 5, 2) := by decide +kernel
theorem dX9_nears_83 : decode cX9_nears 83 = .ok (.aload_n 0, 1) := by decide +kernel
theorem dX9_nears_84 : decode cX9_nears 84 = .ok (.getfield 17, 3) := by decide +kernel
theorem dX9_nears_87 : decode cX9_nears 87 = .ok (.iload 4, 2) := by decide +kernel
theorem dX9_nears_89 : decode cX9_nears 89 = .ok (.iload 5, 2) := by decide +kernel
theorem dX9_nears_91 : decode cX9_nears 91 = .ok (.invokevirtual 164, 3) := by decide +kernel
theorem dX9_nears_94 : decode cX9_nears 94 = .ok (.ifCond .ne 5, 3) := by decide +kernel
theorem dX9_nears_97 : decode cX9_nears 97 = .ok (.iload_n 3, 1) := by decide +kernel
theorem dX9_nears_98 : decode cX9_nears 98 = .ok (.ireturn, 1) := by decide +kernel
theorem dX9_nears_99 : decode cX9_nears 99 = .ok (.aload_n 0, 1) := by decide +kernel
theorem dX9_nears_100 : decode cX9_nears 100 = .ok (.getfield 17, 3) := by decide +kernel
theorem dX9_nears_103 : decode cX9_nears 103 = .ok (.iload 4, 2) := by decide +kernel
theorem dX9_nears_105 : decode cX9_nears 105 = .ok (.iload 5, 2) := by decide +kernel
theorem dX9_nears_107 : decode cX9_nears 107 = .ok (.iconst 1, 1) := by decide +kernel
theorem dX9_nears_108 : decode cX9_nears 108 = .ok (.invokevirtual 167, 3) := by decide +kernel
theorem dX9_nears_111 : decode cX9_nears 111 = .ok (.iinc 3 1, 3) := by decide +kernel
theorem dX9_nears_114 : decode cX9_nears 114 = .ok (.goto (-64), 3) := by decide +kernel
theorem dX9_nears_117 : decode cX9_nears 117 = .ok (.iload_n 2, 1) := by decide +kernel
theorem dX9_nears_118 : decode cX9_nears 118 = .ok (.ireturn, 1) := by decide +kernel
theorem dX9_worth_0 : decode cX9_worth 0 = .ok (.aload_n 0, 1) := by decide +kernel
theorem dX9_worth_1 : decode cX9_worth 1 = .ok (.getfield 17, 3) := by decide +kernel
theorem dX9_worth_4 : decode cX9_worth 4 = .ok (.iload_n 1, 1) := by decide +kernel
theorem dX9_worth_5 : decode cX9_worth 5 = .ok (.invokevirtual 135, 3) := by decide +kernel
theorem dX9_worth_8 : decode cX9_worth 8 = .ok (.ifCond .eq 14, 3) := by decide +kernel
theorem dX9_worth_11 : decode cX9_worth 11 = .ok (.aload_n 0, 1) := by decide +kernel
theorem dX9_worth_12 : decode cX9_worth 12 = .ok (.getfield 17, 3) := by decide +kernel
theorem dX9_worth_15 : decode cX9_worth 15 = .ok (.iload_n 2, 1) := by decide +kernel
theorem dX9_worth_16 : decode cX9_worth 16 = .ok (.invokevirtual 108, 3) := by decide +kernel
theorem dX9_worth_19 : decode cX9_worth 19 = .ok (.ifCond .ne 10, 3) := by decide +kernel
theorem dX9_worth_22 : decode cX9_worth 22 = .ok (.aload_n 0, 1) := by decide +kernel
theorem dX9_worth_23 : decode cX9_worth 23 = .ok (.ldc 80, 2) := by decide +kernel
theorem dX9_worth_25 : decode cX9_worth 25 = .ok (.invokevirtual 81, 3) := by decide +kernel
theorem dX9_worth_28 : decode cX9_worth 28 = .ok (.ireturn, 1) := by decide +kernel
theorem dX9_worth_29 : decode cX9_worth 29 = .ok (.aload_n 0, 1) := by decide +kernel
theorem dX9_worth_30 : decode cX9_worth 30 = .ok (.getfield 17, 3) := by decide +kernel
theorem dX9_worth_33 : decode cX9_worth 33 = .ok (.getfield 150, 3) := by decide +kernel
theorem dX9_worth_36 : decode cX9_worth 36 = .ok (.iload_n 1, 1) := by decide +kernel
theorem dX9_worth_37 : decode cX9_worth 37 = .ok (.iaload, 1) := by decide +kernel
theorem dX9_worth_38 : decode cX9_worth 38 = .ok (.iload_n 2, 1) := by decide +kernel
theorem dX9_worth_39 : decode cX9_worth 39 = .ok (.if_icmp .ne 7, 3) := by decide +kernel
theorem dX9_worth_42 : decode cX9_worth 42 = .ok (.iconst 1, 1) := by decide +kernel
theorem dX9_worth_43 : decode cX9_worth 43 = .ok (.goto 4, 3) := by decide +kernel
theorem dX9_worth_46 : decode cX9_worth 46 = .ok (.iconst 0, 1) := by decide +kernel
theorem dX9_worth_47 : decode cX9_worth 47 = .ok (.istore_n 3, 1) := by decide +kernel
theorem dX9_worth_48 : decode cX9_worth 48 = .ok (.aload_n 0, 1) := by decide +kernel
theorem dX9_worth_49 : decode cX9_worth 49 = .ok (.getfield 17, 3) := by decide +kernel
theorem dX9_worth_52 : decode cX9_worth 52 = .ok (.aload_n 0, 1) := by decide +kernel
theorem dX9_worth_53 : decode cX9_worth 53 = .ok (.getfield 17, 3) := by decide +kernel
theorem dX9_worth_56 : decode cX9_worth 56 = .ok (.getfield 144, 3) := by decide +kernel
theorem dX9_worth_59 : decode cX9_worth 59 = .ok (.iload_n 1, 1) := by decide +kernel
theorem dX9_worth_60 : decode cX9_worth 60 = .ok (.iaload, 1) := by decide +kernel
theorem dX9_worth_61 : decode cX9_worth 61 = .ok (.iload_n 2, 1) := by decide +kernel
theorem dX9_worth_62 : decode cX9_worth 62 = .ok (.aload_n 0, 1) := by decide +kernel
theorem dX9_worth_63 : decode cX9_worth 63 = .ok (.getfield 17, 3) := by decide +kernel
theorem dX9_worth_66 : decode cX9_worth 66 = .ok (.iload_n 1, 1) := by decide +kernel
theorem dX9_worth_67 : decode cX9_worth 67 = .ok (.invokevirtual 184, 3) := by decide +kernel
theorem dX9_worth_70 : decode cX9_worth 70 = .ok (.iload_n 3, 1) := by decide +kernel
theorem dX9_worth_71 : decode cX9_worth 71 = .ok (.invokevirtual 187, 3) := by decide +kernel
theorem dX9_worth_74 : decode cX9_worth 74 = .ok (.istore 4, 2) := by decide +kernel
theorem dX9_worth_76 : decode cX9_worth 76 = .ok (.iload 4, 2) := by decide +kernel
theorem dX9_worth_78 : decode cX9_worth 78 = .ok (.aload_n 0, 1) := by decide +kernel
theorem dX9_worth_79 : decode cX9_worth 79 = .ok (.getfield 17, 3) := by decide +kernel
theorem dX9_worth_82 : decode cX9_worth 82 = .ok (.aload_n 0, 1) := by decide +kernel
theorem dX9_worth_83 : decode cX9_worth 83 = .ok (.getfield 17, 3) := by decide +kernel
theorem dX9_worth_86 : decode cX9_worth 86 = .ok (.getfield 111, 3) := by decide +kernel
theorem dX9_worth_89 : decode cX9_worth 89 = .ok (.iload_n 2, 1) := by decide +kernel
theorem dX9_worth_90 : decode cX9_worth 90 = .ok (.iaload, 1) := by decide +kernel
theorem dX9_worth_91 : decode cX9_worth 91 = .ok (.aload_n 0, 1) := by decide +kernel
theorem dX9_worth_92 : decode cX9_worth 92 = .ok (.getfield 17, 3) := by decide +kernel
theorem dX9_worth_95 : decode cX9_worth 95 = .ok (.getfield 114, 3) := by decide +kernel
theorem dX9_worth_98 : decode cX9_worth 98 = .ok (.iload_n 2, 1) := by decide +kernel
theorem dX9_worth_99 : decode cX9_worth 99 = .ok (.iaload, 1) := by decide +kernel
theorem dX9_worth_100 : decode cX9_worth 100 = .ok (.iload_n 1, 1) := by decide +kernel
theorem dX9_worth_101 : decode cX9_worth 101 = .ok (.invokevirtual 191, 3) := by decide +kernel
theorem dX9_worth_104 : decode cX9_worth 104 = .ok (.iadd, 1) := by decide +kernel
theorem dX9_worth_105 : decode cX9_worth 105 = .ok (.ireturn, 1) := by decide +kernel
theorem dX9_lawful_0 : decode cX9_lawful 0 = .ok (.aload_n 0, 1) := by decide +kernel
theorem dX9_lawful_1 : decode cX9_lawful 1 = .ok (.getfield 17, 3) := by decide +kernel
theorem dX9_lawful_4 : decode cX9_lawful 4 = .ok (.invokevirtual 195, 3) := by decide +kernel
theorem dX9_lawful_7 : decode cX9_lawful 7 = .ok (.ifCond .eq 7, 3) := by decide +kernel
theorem dX9_lawful_10 : decode cX9_lawful 10 = .ok (.iconst 1, 1) := by decide +kernel
theorem dX9_lawful_11 : decode cX9_lawful 11 = .ok (.goto 4, 3) := by decide +kernel
theorem dX9_lawful_14 : decode cX9_lawful 14 = .ok (.iconst 0, 1) := by decide +kernel
theorem dX9_lawful_15 : decode cX9_lawful 15 = .ok (.ireturn, 1) := by decide +kernel
theorem dX9_text_0 : decode cX9_text 0 = .ok (.iload_n 1, 1) := by decide +kernel
theorem dX9_text_1 : decode cX9_text 1 = .ok (.invokestatic 199, 3) := by decide +kernel
theorem dX9_text_4 : decode cX9_text 4 = .ok (.ifCond .ne 10, 3) := by decide +kernel
theorem dX9_text_7 : decode cX9_text 7 = .ok (.aload_n 0, 1) := by decide +kernel
theorem dX9_text_8 : decode cX9_text 8 = .ok (.ldc 80, 2) := by decide +kernel
theorem dX9_text_10 : decode cX9_text 10 = .ok (.invokevirtual 81, 3) := by decide +kernel
theorem dX9_text_13 : decode cX9_text 13 = .ok (.ireturn, 1) := by decide +kernel
theorem dX9_text_14 : decode cX9_text 14 = .ok (.aload_n 0, 1) := by decide +kernel
theorem dX9_text_15 : decode cX9_text 15 = .ok (.getfield 27, 3) := by decide +kernel
theorem dX9_text_18 : decode cX9_text 18 = .ok (.aload_n 0, 1) := by decide +kernel
theorem dX9_text_19 : decode cX9_text 19 = .ok (.getfield 17, 3) := by decide +kernel
theorem dX9_text_22 : decode cX9_text 22 = .ok (.getfield 202, 3) := by decide +kernel
theorem dX9_text_25 : decode cX9_text 25 = .ok (.aload_n 0, 1) := by decide +kernel
theorem dX9_text_26 : decode cX9_text 26 = .ok (.getfield 17, 3) := by decide +kernel
theorem dX9_text_29 : decode cX9_text 29 = .ok (.getfield 85, 3) := by decide +kernel
theorem dX9_text_32 : decode cX9_text 32 = .ok (.iload_n 1, 1) := by decide +kernel
theorem dX9_text_33 : decode cX9_text 33 = .ok (.invokevirtual 206, 3) := by decide +kernel
theorem dX9_text_36 : decode cX9_text 36 = .ok (.istore_n 2, 1) := by decide +kernel
theorem dX9_text_37 : decode cX9_text 37 = .ok (.aload_n 0, 1) := by decide +kernel
theorem dX9_text_38 : decode cX9_text 38 = .ok (.getfield 17, 3) := by decide +kernel
theorem dX9_text_41 : decode cX9_text 41 = .ok (.iconst 0, 1) := by decide +kernel
theorem dX9_text_42 : decode cX9_text 42 = .ok (.putfield 85, 3) := by decide +kernel
theorem dX9_text_45 : decode cX9_text 45 = .ok (.iload_n 2, 1) := by decide +kernel
theorem dX9_text_46 : decode cX9_text 46 = .ok (.ifCond .lt 8, 3) := by decide +kernel
theorem dX9_text_49 : decode cX9_text 49 = .ok (.bipush (-10), 2) := by decide +kernel
theorem dX9_text_51 : decode cX9_text 51 = .ok (.iload_n 2, 1) := by decide +kernel
theorem dX9_text_52 : decode cX9_text 52 = .ok (.isub, 1) := by decide +kernel
theorem dX9_text_53 : decode cX9_text 53 = .ok (.ireturn, 1) := by decide +kernel
theorem dX9_text_54 : decode cX9_text 54 = .ok (.aload_n 0, 1) := by decide +kernel
theorem dX9_text_55 : decode cX9_text 55 = .ok (.getfield 17, 3) := by decide +kernel
theorem dX9_text_58 : decode cX9_text 58 = .ok (.iload_n 1, 1) := by decide +kernel
theorem dX9_text_59 : decode cX9_text 59 = .ok (.invokevirtual 210, 3) := by decide +kernel
theorem dX9_text_62 : decode cX9_text 62 = .ok (.aload_n 0, 1) := by decide +kernel
theorem dX9_text_63 : decode cX9_text 63 = .ok (.getfield 27, 3) := by decide +kernel
theorem dX9_text_66 : decode cX9_text 66 = .ok (.getfield 214, 3) := by decide +kernel
theorem dX9_text_69 : decode cX9_text 69 = .ok (.invokevirtual 218, 3) := by decide +kernel
theorem dX9_text_72 : decode cX9_text 72 = .ok (.aload_n 0, 1) := by decide +kernel
theorem dX9_text_73 : decode cX9_text 73 = .ok (.getfield 54, 3) := by decide +kernel
theorem dX9_text_76 : decode cX9_text 76 = .ok (.invokevirtual 224, 3) := by decide +kernel
theorem dX9_text_79 : decode cX9_text 79 = .ok (.iconst 1, 1) := by decide +kernel
theorem dX9_text_80 : decode cX9_text 80 = .ok (.ireturn, 1) := by decide +kernel
theorem dX9_law_0 : decode cX9_law 0 = .ok (.iload_n 1, 1) := by decide +kernel
theorem dX9_law_1 : decode cX9_law 1 = .ok (.invokestatic 199, 3) := by decide +kernel
theorem dX9_law_4 : decode cX9_law 4 = .ok (.ifCond .ne 10, 3) := by decide +kernel
theorem dX9_law_7 : decode cX9_law 7 = .ok (.aload_n 0, 1) := by decide +kernel
theorem dX9_law_8 : decode cX9_law 8 = .ok (.ldc 80, 2) := by decide +kernel
theorem dX9_law_10 : decode cX9_law 10 = .ok (.invokevirtual 81, 3) := by decide +kernel
theorem dX9_law_13 : decode cX9_law 13 = .ok (.ireturn, 1) := by decide +kernel
theorem dX9_law_14 : decode cX9_law 14 = .ok (.iload_n 1, 1) := by decide +kernel
theorem dX9_law_15 : decode cX9_law 15 = .ok (.ifCond .ne 17, 3) := by decide +kernel
theorem dX9_law_18 : decode cX9_law 18 = .ok (.aload_n 0, 1) := by decide +kernel
theorem dX9_law_19 : decode cX9_law 19 = .ok (.getfield 17, 3) := by decide +kernel
theorem dX9_law_22 : decode cX9_law 22 = .ok (.iload_n 2, 1) := by decide +kernel
theorem dX9_law_23 : decode cX9_law 23 = .ok (.iload_n 3, 1) := by decide +kernel
theorem dX9_law_24 : decode cX9_law 24 = .ok (.iload 4, 2) := by decide +kernel
theorem dX9_law_26 : decode cX9_law 26 = .ok (.invokevirtual 227, 3) := by decide +kernel
theorem dX9_law_29 : decode cX9_law 29 = .ok (.goto 14, 3) := by decide +kernel
theorem dX9_law_32 : decode cX9_law 32 = .ok (.aload_n 0, 1) := by decide +kernel
theorem dX9_law_33 : decode cX9_law 33 = .ok (.getfield 17, 3) := by decide +kernel
theorem dX9_law_36 : decode cX9_law 36 = .ok (.iload_n 2, 1) := by decide +kernel
theorem dX9_law_37 : decode cX9_law 37 = .ok (.iload_n 3, 1) := by decide +kernel
theorem dX9_law_38 : decode cX9_law 38 = .ok (.iload 4, 2) := by decide +kernel
theorem dX9_law_40 : decode cX9_law 40 = .ok (.invokevirtual 191, 3) := by decide +kernel
theorem dX9_law_43 : decode cX9_law 43 = .ok (.ireturn, 1) := by decide +kernel
theorem dX9_first_0 : decode cX9_first 0 = .ok (.aload_n 0, 1) := by decide +kernel
theorem dX9_first_1 : decode cX9_first 1 = .ok (.getfield 17, 3) := by decide +kernel
theorem dX9_first_4 : decode cX9_first 4 = .ok (.iload_n 1, 1) := by decide +kernel
theorem dX9_first_5 : decode cX9_first 5 = .ok (.invokevirtual 135, 3) := by decide +kernel
theorem dX9_first_8 : decode cX9_first 8 = .ok (.ifCond .ne 10, 3) := by decide +kernel
theorem dX9_first_11 : decode cX9_first 11 = .ok (.aload_n 0, 1) := by decide +kernel
theorem dX9_first_12 : decode cX9_first 12 = .ok (.ldc 80, 2) := by decide +kernel
theorem dX9_first_14 : decode cX9_first 14 = .ok (.invokevirtual 81, 3) := by decide +kernel
theorem dX9_first_17 : decode cX9_first 17 = .ok (.ireturn, 1) := by decide +kernel
theorem dX9_first_18 : decode cX9_first 18 = .ok (.aload_n 0, 1) := by decide +kernel
theorem dX9_first_19 : decode cX9_first 19 = .ok (.iconst 0, 1) := by decide +kernel
theorem dX9_first_20 : decode cX9_first 20 = .ok (.invokevirtual 230, 3) := by decide +kernel
theorem dX9_first_23 : decode cX9_first 23 = .ok (.istore_n 2, 1) := by decide +kernel
theorem dX9_first_24 : decode cX9_first 24 = .ok (.iload_n 2, 1) := by decide +kernel
theorem dX9_first_25 : decode cX9_first 25 = .ok (.ifCond .ne 14, 3) := by decide +kernel
theorem dX9_first_28 : decode cX9_first 28 = .ok (.aload_n 0, 1) := by decide +kernel
theorem dX9_first_29 : decode cX9_first 29 = .ok (.getfield 31, 3) := by decide +kernel
theorem dX9_first_32 : decode cX9_first 32 = .ok (.iload_n 1, 1) := by decide +kernel
theorem dX9_first_33 : decode cX9_first 33 = .ok (.invokevirtual 233, 3) := by decide +kernel
theorem dX9_first_36 : decode cX9_first 36 = .ok (.goto 8, 3) := by decide +kernel
theorem dX9_first_39 : decode cX9_first 39 = .ok (.aload_n 0, 1) := by decide +kernel
theorem dX9_first_40 : decode cX9_first 40 = .ok (.iload_n 2, 1) := by decide +kernel
theorem dX9_first_41 : decode cX9_first 41 = .ok (.invokevirtual 81, 3) := by decide +kernel
theorem dX9_first_44 : decode cX9_first 44 = .ok (.ireturn, 1) := by decide +kernel
theorem dX9_all_0 : decode cX9_all 0 = .ok (.aload_n 0, 1) := by decide +kernel
theorem dX9_all_1 : decode cX9_all 1 = .ok (.getfield 31, 3) := by decide +kernel
theorem dX9_all_4 : decode cX9_all 4 = .ok (.iconst (-1), 1) := by decide +kernel
theorem dX9_all_5 : decode cX9_all 5 = .ok (.iconst (-1), 1) := by decide +kernel
theorem dX9_all_6 : decode cX9_all 6 = .ok (.aload_n 0, 1) := by decide +kernel
theorem dX9_all_7 : decode cX9_all 7 = .ok (.getfield 17, 3) := by decide +kernel
theorem dX9_all_10 : decode cX9_all 10 = .ok (.invokevirtual 236, 3) := by decide +kernel
theorem dX9_all_13 : decode cX9_all 13 = .ok (.invokevirtual 239, 3) := by decide +kernel
theorem dX9_all_16 : decode cX9_all 16 = .ok (.ifCond .ne 10, 3) := by decide +kernel
theorem dX9_all_19 : decode cX9_all 19 = .ok (.aload_n 0, 1) := by decide +kernel
theorem dX9_all_20 : decode cX9_all 20 = .ok (.ldc 243, 2) := by decide +kernel
theorem dX9_all_22 : decode cX9_all 22 = .ok (.invokevirtual 81, 3) := by decide +kernel
theorem dX9_all_25 : decode cX9_all 25 = .ok (.ireturn, 1) := by decide +kernel
theorem dX9_all_26 : decode cX9_all 26 = .ok (.aload_n 0, 1) := by decide +kernel
theorem dX9_all_27 : decode cX9_all 27 = .ok (.getfield 31, 3) := by decide +kernel
theorem dX9_all_30 : decode cX9_all 30 = .ok (.invokevirtual 244, 3) := by decide +kernel
theorem dX9_all_33 : decode cX9_all 33 = .ok (.ireturn, 1) := by decide +kernel
theorem dX9_best_0 : decode cX9_best 0 = .ok (.iload_n 1, 1) := by decide +kernel
theorem dX9_best_1 : decode cX9_best 1 = .ok (.iconst (-1), 1) := by decide +kernel
theorem dX9_best_2 : decode cX9_best 2 = .ok (.if_icmp .eq 21, 3) := by decide +kernel
theorem dX9_best_5 : decode cX9_best 5 = .ok (.aload_n 0, 1) := by decide +kernel
theorem dX9_best_6 : decode cX9_best 6 = .ok (.getfield 17, 3) := by decide +kernel
theorem dX9_best_9 : decode cX9_best 9 = .ok (.iload_n 1, 1) := by decide +kernel
theorem dX9_best_10 : decode cX9_best 10 = .ok (.invokevirtual 135, 3) := by decide +kernel
theorem dX9_best_13 : decode cX9_best 13 = .ok (.ifCond .ne 10, 3) := by decide +kernel
theorem dX9_best_16 : decode cX9_best 16 = .ok (.aload_n 0, 1) := by decide +kernel
theorem dX9_best_17 : decode cX9_best 17 = .ok (.ldc 80, 2) := by decide +kernel
theorem dX9_best_19 : decode cX9_best 19 = .ok (.invokevirtual 81, 3) := by decide +kernel
theorem dX9_best_22 : decode cX9_best 22 = .ok (.ireturn, 1) := by decide +kernel
theorem dX9_best_23 : decode cX9_best 23 = .ok (.aload_n 0, 1) := by decide +kernel
theorem dX9_best_24 : decode cX9_best 24 = .ok (.iconst 1, 1) := by decide +kernel
theorem dX9_best_25 : decode cX9_best 25 = .ok (.invokevirtual 230, 3) := by decide +kernel
theorem dX9_best_28 : decode cX9_best 28 = .ok (.istore_n 2, 1) := by decide +kernel
theorem dX9_best_29 : decode cX9_best 29 = .ok (.iload_n 2, 1) := by decide +kernel
theorem dX9_best_30 : decode cX9_best 30 = .ok (.ifCond .eq 9, 3) := by decide +kernel
theorem dX9_best_33 : decode cX9_best 33 = .ok (.aload_n 0, 1) := by decide +kernel
theorem dX9_best_34 : decode cX9_best 34 = .ok (.iload_n 2, 1) := by decide +kernel
theorem dX9_best_35 : decode cX9_best 35 = .ok (.invokevirtual 81, 3) := by decide +kernel
theorem dX9_best_38 : decode cX9_best 38 = .ok (.ireturn, 1) := by decide +kernel
theorem dX9_best_39 : decode cX9_best 39 = .ok (.iload_n 1, 1) := by decide +kernel
theorem dX9_best_40 : decode cX9_best 40 = .ok (.iconst (-1), 1) := by decide +kernel
theorem dX9_best_41 : decode cX9_best 41 = .ok (.if_icmp .ne 13, 3) := by decide +kernel
theorem dX9_best_44 : decode cX9_best 44 = .ok (.aload_n 0, 1) := by decide +kernel
theorem dX9_best_45 : decode cX9_best 45 = .ok (.getfield 31, 3) := by decide +kernel
theorem dX9_best_48 : decode cX9_best 48 = .ok (.invokevirtual 247, 3) := by decide +kernel
theorem dX9_best_51 : decode cX9_best 51 = .ok (.goto 11, 3) := by decide +kernel
theorem dX9_best_54 : decode cX9_best 54 = .ok (.aload_n 0, 1) := by decide +kernel
theorem dX9_best_55 : decode cX9_best 55 = .ok (.getfield 31, 3) := by decide +kernel
theorem dX9_best_58 : decode cX9_best 58 = .ok (.iload_n 1, 1) := by decide +kernel
theorem dX9_best_59 : decode cX9_best 59 = .ok (.invokevirtual 233, 3) := by decide +kernel
theorem dX9_best_62 : decode cX9_best 62 = .ok (.ireturn, 1) := by decide +kernel
theorem dX9_fewest_0 : decode cX9_fewest 0 = .ok (.iload_n 1, 1) := by decide +kernel
theorem dX9_fewest_1 : decode cX9_fewest 1 = .ok (.iconst (-1), 1) := by decide +kernel
theorem dX9_fewest_2 : decode cX9_fewest 2 = .ok (.if_icmp .eq 21, 3) := by decide +kernel
theorem dX9_fewest_5 : decode cX9_fewest 5 = .ok (.aload_n 0, 1) := by decide +kernel
theorem dX9_fewest_6 : decode cX9_fewest 6 = .ok (.getfield 17, 3) := by decide +kernel
theorem dX9_fewest_9 : decode cX9_fewest 9 = .ok (.iload_n 1, 1) := by decide +kernel
theorem dX9_fewest_10 : decode cX9_fewest 10 = .ok (.invokevirtual 135, 3) := by decide +kernel
theorem dX9_fewest_13 : decode cX9_fewest 13 = .ok (.ifCond .ne 10, 3) := by decide +kernel
theorem dX9_fewest_16 : decode cX9_fewest 16 = .ok (.aload_n 0, 1) := by decide +kernel
theorem dX9_fewest_17 : decode cX9_fewest 17 = .ok (.ldc 80, 2) := by decide +kernel
theorem dX9_fewest_19 : decode cX9_fewest 19 = .ok (.invokevirtual 81, 3) := by decide +kernel
theorem dX9_fewest_22 : decode cX9_fewest 22 = .ok (.ireturn, 1) := by decide +kernel
theorem dX9_fewest_23 : decode cX9_fewest 23 = .ok (.aload_n 0, 1) := by decide +kernel
theorem dX9_fewest_24 : decode cX9_fewest 24 = .ok (.iconst 2, 1) := by decide +kernel
theorem dX9_fewest_25 : decode cX9_fewest 25 = .ok (.invokevirtual 230, 3) := by decide +kernel
theorem dX9_fewest_28 : decode cX9_fewest 28 = .ok (.istore_n 2, 1) := by decide +kernel
theorem dX9_fewest_29 : decode cX9_fewest 29 = .ok (.iload_n 2, 1) := by decide +kernel
theorem dX9_fewest_30 : decode cX9_fewest 30 = .ok (.ifCond .eq 9, 3) := by decide +kernel
theorem dX9_fewest_33 : decode cX9_fewest 33 = .ok (.aload_n 0, 1) := by decide +kernel
theorem dX9_fewest_34 : decode cX9_fewest 34 = .ok (.iload_n 2, 1) := by decide +kernel
theorem dX9_fewest_35 : decode cX9_fewest 35 = .ok (.invokevirtual 81, 3) := by decide +kernel
theorem dX9_fewest_38 : decode cX9_fewest 38 = .ok (.ireturn, 1) := by decide +kernel
theorem dX9_fewest_39 : decode cX9_fewest 39 = .ok (.iload_n 1, 1) := by decide +kernel
theorem dX9_fewest_40 : decode cX9_fewest 40 = .ok (.iconst (-1), 1) := by decide +kernel
theorem dX9_fewest_41 : decode cX9_fewest 41 = .ok (.if_icmp .ne 14, 3) := by decide +kernel
theorem dX9_fewest_44 : decode cX9_fewest 44 = .ok (.aload_n 0, 1) := by decide +kernel
theorem dX9_fewest_45 : decode cX9_fewest 45 = .ok (.getfield 31, 3) := by decide +kernel
theorem dX9_fewest_48 : decode cX9_fewest 48 = .ok (.invokevirtual 247, 3) := by decide +kernel
theorem dX9_fewest_51 : decode cX9_fewest 51 = .ok (.ineg, 1) := by decide +kernel
theorem dX9_fewest_52 : decode cX9_fewest 52 = .ok (.goto 11, 3) := by decide +kernel
theorem dX9_fewest_55 : decode cX9_fewest 55 = .ok (.aload_n 0, 1) := by decide +kernel
theorem dX9_fewest_56 : decode cX9_fewest 56 = .ok (.getfield 31, 3) := by decide +kernel
theorem dX9_fewest_59 : decode cX9_fewest 59 = .ok (.iload_n 1, 1) := by decide +kernel
theorem dX9_fewest_60 : decode cX9_fewest 60 = .ok (.invokevirtual 233, 3) := by decide +kernel
theorem dX9_fewest_63 : decode cX9_fewest 63 = .ok (.ireturn, 1) := by decide +kernel
theorem dX9_give_0 : decode cX9_give 0 = .ok (.iload_n 1, 1) := by decide +kernel
theorem dX9_give_1 : decode cX9_give 1 = .ok (.ifCond .lt 8, 3) := by decide +kernel
theorem dX9_give_4 : decode cX9_give 4 = .ok (.iload_n 1, 1) := by decide +kernel
theorem dX9_give_5 : decode cX9_give 5 = .ok (.iconst 3, 1) := by decide +kernel
theorem dX9_give_6 : decode cX9_give 6 = .ok (.if_icmp .lt 10, 3) := by decide +kernel
theorem dX9_give_9 : decode cX9_give 9 = .ok (.aload_n 0, 1) := by decide +kernel
theorem dX9_give_10 : decode cX9_give 10 = .ok (.ldc 80, 2) := by decide +kernel
theorem dX9_give_12 : decode cX9_give 12 = .ok (.invokevirtual 81, 3) := by decide +kernel
theorem dX9_give_15 : decode cX9_give 15 = .ok (.ireturn, 1) := by decide +kernel
theorem dX9_give_16 : decode cX9_give 16 = .ok (.aload_n 0, 1) := by decide +kernel
theorem dX9_give_17 : decode cX9_give 17 = .ok (.iload_n 1, 1) := by decide +kernel
theorem dX9_give_18 : decode cX9_give 18 = .ok (.invokevirtual 230, 3) := by decide +kernel
theorem dX9_give_21 : decode cX9_give 21 = .ok (.istore_n 2, 1) := by decide +kernel
theorem dX9_give_22 : decode cX9_give 22 = .ok (.iload_n 2, 1) := by decide +kernel
theorem dX9_give_23 : decode cX9_give 23 = .ok (.ifCond .eq 9, 3) := by decide +kernel
theorem dX9_give_26 : decode cX9_give 26 = .ok (.aload_n 0, 1) := by decide +kernel
theorem dX9_give_27 : decode cX9_give 27 = .ok (.iload_n 2, 1) := by decide +kernel
theorem dX9_give_28 : decode cX9_give 28 = .ok (.invokevirtual 81, 3) := by decide +kernel
theorem dX9_give_31 : decode cX9_give 31 = .ok (.ireturn, 1) := by decide +kernel
theorem dX9_give_32 : decode cX9_give 32 = .ok (.aload_n 0, 1) := by decide +kernel
theorem dX9_give_33 : decode cX9_give 33 = .ok (.getfield 17, 3) := by decide +kernel
theorem dX9_give_36 : decode cX9_give 36 = .ok (.invokevirtual 236, 3) := by decide +kernel
theorem dX9_give_39 : decode cX9_give 39 = .ok (.invokestatic 250, 3) := by decide +kernel
theorem dX9_give_42 : decode cX9_give 42 = .ok (.istore_n 3, 1) := by decide +kernel
theorem dX9_give_43 : decode cX9_give 43 = .ok (.aload_n 0, 1) := by decide +kernel
theorem dX9_give_44 : decode cX9_give 44 = .ok (.getfield 31, 3) := by decide +kernel
theorem dX9_give_47 : decode cX9_give 47 = .ok (.invokevirtual 255, 3) := by decide +kernel
theorem dX9_give_50 : decode cX9_give 50 = .ok (.iload_n 3, 1) := by decide +kernel
theorem dX9_give_51 : decode cX9_give 51 = .ok (.ireturn, 1) := by decide +kernel
theorem dX9_changes_0 : decode cX9_changes 0 = .ok (.aload_n 0, 1) := by decide +kernel
theorem dX9_changes_1 : decode cX9_changes 1 = .ok (.getfield 17, 3) := by decide +kernel
theorem dX9_changes_4 : decode cX9_changes 4 = .ok (.iload_n 1, 1) := by decide +kernel
theorem dX9_changes_5 : decode cX9_changes 5 = .ok (.invokevirtual 135, 3) := by decide +kernel
theorem dX9_changes_8 : decode cX9_changes 8 = .ok (.ifCond .eq 14, 3) := by decide +kernel
theorem dX9_changes_11 : decode cX9_changes 11 = .ok (.aload_n 0, 1) := by decide +kernel
theorem dX9_changes_12 : decode cX9_changes 12 = .ok (.getfield 17, 3) := by decide +kernel
theorem dX9_changes_15 : decode cX9_changes 15 = .ok (.iload_n 2, 1) := by decide +kernel
theorem dX9_changes_16 : decode cX9_changes 16 = .ok (.invokevirtual 108, 3) := by decide +kernel
theorem dX9_changes_19 : decode cX9_changes 19 = .ok (.ifCond .ne 10, 3) := by decide +kernel
theorem dX9_changes_22 : decode cX9_changes 22 = .ok (.aload_n 0, 1) := by decide +kernel
theorem dX9_changes_23 : decode cX9_changes 23 = .ok (.ldc 80, 2) := by decide +kernel
theorem dX9_changes_25 : decode cX9_changes 25 = .ok (.invokevirtual 81, 3) := by decide +kernel
theorem dX9_changes_28 : decode cX9_changes 28 = .ok (.ireturn, 1) := by decide +kernel
theorem dX9_changes_29 : decode cX9_changes 29 = .ok (.aload_n 0, 1) := by decide +kernel
theorem dX9_changes_30 : decode cX9_changes 30 = .ok (.getfield 40, 3) := by decide +kernel
theorem dX9_changes_33 : decode cX9_changes 33 = .ok (.iload_n 1, 1) := by decide +kernel
theorem dX9_changes_34 : decode cX9_changes 34 = .ok (.iload_n 2, 1) := by decide +kernel
theorem dX9_changes_35 : decode cX9_changes 35 = .ok (.invokevirtual 258, 3) := by decide +kernel
theorem dX9_changes_38 : decode cX9_changes 38 = .ok (.istore_n 3, 1) := by decide +kernel
theorem dX9_changes_39 : decode cX9_changes 39 = .ok (.iload_n 3, 1) := by decide +kernel
theorem dX9_changes_40 : decode cX9_changes 40 = .ok (.ifCond .lt 7, 3) := by decide +kernel
theorem dX9_changes_43 : decode cX9_changes 43 = .ok (.iload_n 3, 1) := by decide +kernel
theorem dX9_changes_44 : decode cX9_changes 44 = .ok (.goto 9, 3) := by decide +kernel
theorem dX9_changes_47 : decode cX9_changes 47 = .ok (.aload_n 0, 1) := by decide +kernel
theorem dX9_changes_48 : decode cX9_changes 48 = .ok (.ldc 177, 2) := by decide +kernel
theorem dX9_changes_50 : decode cX9_changes 50 = .ok (.invokevirtual 81, 3) := by decide +kernel
theorem dX9_changes_53 : decode cX9_changes 53 = .ok (.ireturn, 1) := by decide +kernel
theorem dX9_side_0 : decode cX9_side 0 = .ok (.iload_n 1, 1) := by decide +kernel
theorem dX9_side_1 : decode cX9_side 1 = .ok (.ifCond .eq 15, 3) := by decide +kernel
theorem dX9_side_4 : decode cX9_side 4 = .ok (.iload_n 1, 1) := by decide +kernel
theorem dX9_side_5 : decode cX9_side 5 = .ok (.iconst 1, 1) := by decide +kernel
theorem dX9_side_6 : decode cX9_side 6 = .ok (.if_icmp .eq 10, 3) := by decide +kernel
theorem dX9_side_9 : decode cX9_side 9 = .ok (.aload_n 0, 1) := by decide +kernel
theorem dX9_side_10 : decode cX9_side 10 = .ok (.ldc 80, 2) := by decide +kernel
theorem dX9_side_12 : decode cX9_side 12 = .ok (.invokevirtual 81, 3) := by decide +kernel
theorem dX9_side_15 : decode cX9_side 15 = .ok (.ireturn, 1) := by decide +kernel
theorem dX9_side_16 : decode cX9_side 16 = .ok (.aload_n 0, 1) := by decide +kernel
theorem dX9_side_17 : decode cX9_side 17 = .ok (.getfield 47, 3) := by decide +kernel
theorem dX9_side_20 : decode cX9_side 20 = .ok (.invokevirtual 261, 3) := by decide +kernel
theorem dX9_side_23 : decode cX9_side 23 = .ok (.istore_n 2, 1) := by decide +kernel
theorem dX9_side_24 : decode cX9_side 24 = .ok (.iload_n 1, 1) := by decide +kernel
theorem dX9_side_25 : decode cX9_side 25 = .ok (.ifCond .ne 7, 3) := by decide +kernel
theorem dX9_side_28 : decode cX9_side 28 = .ok (.iload_n 2, 1) := by decide +kernel
theorem dX9_side_29 : decode cX9_side 29 = .ok (.goto 7, 3) := by decide +kernel
theorem dX9_side_32 : decode cX9_side 32 = .ok (.iload_n 2, 1) := by decide +kernel
theorem dX9_side_33 : decode cX9_side 33 = .ok (.invokestatic 250, 3) := by decide +kernel
theorem dX9_side_36 : decode cX9_side 36 = .ok (.ireturn, 1) := by decide +kernel
theorem dX9_rows_0 : decode cX9_rows 0 = .ok (.iload_n 1, 1) := by decide +kernel
theorem dX9_rows_1 : decode cX9_rows 1 = .ok (.iconst 1, 1) := by decide +kernel
theorem dX9_rows_2 : decode cX9_rows 2 = .ok (.if_icmp .lt 9, 3) := by decide +kernel
theorem dX9_rows_5 : decode cX9_rows 5 = .ok (.iload_n 1, 1) := by decide +kernel
theorem dX9_rows_6 : decode cX9_rows 6 = .ok (.bipush 10, 2) := by decide +kernel
theorem dX9_rows_8 : decode cX9_rows 8 = .ok (.if_icmp .le 11, 3) := by decide +kernel
theorem dX9_rows_11 : decode cX9_rows 11 = .ok (.aload_n 0, 1) := by decide +kernel
theorem dX9_rows_12 : decode cX9_rows 12 = .ok (.ldc 80, 2) := by decide +kernel
theorem dX9_rows_14 : decode cX9_rows 14 = .ok (.invokevirtual 81, 3) := by decide +kernel
theorem dX9_rows_17 : decode cX9_rows 17 = .ok (.i2l, 1) := by decide +kernel
theorem dX9_rows_18 : decode cX9_rows 18 = .ok (.lreturn, 1) := by decide +kernel
theorem dX9_rows_19 : decode cX9_rows 19 = .ok (.aload_n 0, 1) := by decide +kernel
theorem dX9_rows_20 : decode cX9_rows 20 = .ok (.getfield 47, 3) := by decide +kernel
theorem dX9_rows_23 : decode cX9_rows 23 = .ok (.iload_n 1, 1) := by decide +kernel
theorem dX9_rows_24 : decode cX9_rows 24 = .ok (.invokevirtual 264, 3) := by decide +kernel
theorem dX9_rows_27 : decode cX9_rows 27 = .ok (.lreturn, 1) := by decide +kernel
theorem dX9_made_0 : decode cX9_made 0 = .ok (.iload_n 1, 1) := by decide +kernel
theorem dX9_made_1 : decode cX9_made 1 = .ok (.iconst 1, 1) := by decide +kernel
theorem dX9_made_2 : decode cX9_made 2 = .ok (.if_icmp .lt 30, 3) := by decide +kernel
theorem dX9_made_5 : decode cX9_made 5 = .ok (.iload_n 1, 1) := by decide +kernel
theorem dX9_made_6 : decode cX9_made 6 = .ok (.bipush 6, 2) := by decide +kernel
theorem dX9_made_8 : decode cX9_made 8 = .ok (.if_icmp .gt 24, 3) := by decide +kernel
theorem dX9_made_11 : decode cX9_made 11 = .ok (.iload_n 2, 1) := by decide +kernel
theorem dX9_made_12 : decode cX9_made 12 = .ok (.ifCond .lt 20, 3) := by decide +kernel
theorem dX9_made_15 : decode cX9_made 15 = .ok (.iload_n 2, 1) := by decide +kernel
theorem dX9_made_16 : decode cX9_made 16 = .ok (.ldc_w 268, 3) := by decide +kernel
theorem dX9_made_19 : decode cX9_made 19 = .ok (.if_icmp .gt 13, 3) := by decide +kernel
theorem dX9_made_22 : decode cX9_made 22 = .ok (.iload_n 3, 1) := by decide +kernel
theorem dX9_made_23 : decode cX9_made 23 = .ok (.iconst (-1), 1) := by decide +kernel
theorem dX9_made_24 : decode cX9_made 24 = .ok (.if_icmp .lt 8, 3) := by decide +kernel
theorem dX9_made_27 : decode cX9_made 27 = .ok (.iload_n 3, 1) := by decide +kernel
theorem dX9_made_28 : decode cX9_made 28 = .ok (.iload_n 1, 1) := by decide +kernel
theorem dX9_made_29 : decode cX9_made 29 = .ok (.if_icmp .lt 11, 3) := by decide +kernel
theorem dX9_made_32 : decode cX9_made 32 = .ok (.aload_n 0, 1) := by decide +kernel
theorem dX9_made_33 : decode cX9_made 33 = .ok (.ldc 80, 2) := by decide +kernel
theorem dX9_made_35 : decode cX9_made 35 = .ok (.invokevirtual 81, 3) := by decide +kernel
theorem dX9_made_38 : decode cX9_made 38 = .ok (.i2l, 1) := by decide +kernel
theorem dX9_made_39 : decode cX9_made 39 = .ok (.lreturn, 1) := by decide +kernel
theorem dX9_made_40 : decode cX9_made 40 = .ok (.aload_n 0, 1) := by decide +kernel
theorem dX9_made_41 : decode cX9_made 41 = .ok (.getfield 54, 3) := by decide +kernel
theorem dX9_made_44 : decode cX9_made 44 = .ok (.iload_n 1, 1) := by decide +kernel
theorem dX9_made_45 : decode cX9_made 45 = .ok (.iload_n 2, 1) := by decide +kernel
theorem dX9_made_46 : decode cX9_made 46 = .ok (.invokevirtual 269, 3) := by decide +kernel
theorem dX9_made_49 : decode cX9_made 49 = .ok (.lstore 4, 2) := by decide +kernel
theorem dX9_made_51 : decode cX9_made 51 = .ok (.iload_n 3, 1) := by decide +kernel
theorem dX9_made_52 : decode cX9_made 52 = .ok (.iconst (-1), 1) := by decide +kernel
theorem dX9_made_53 : decode cX9_made 53 = .ok (.if_icmp .ne 6, 3) := by decide +kernel
theorem dX9_made_56 : decode cX9_made 56 = .ok (.lload 4, 2) := by decide +kernel
theorem dX9_made_58 : decode cX9_made 58 = .ok (.lreturn, 1) := by decide +kernel
theorem dX9_made_59 : decode cX9_made 59 = .ok (.lload 4, 2) := by decide +kernel
theorem dX9_made_61 : decode cX9_made 61 = .ok (.lconst 0, 1) := by decide +kernel
theorem dX9_made_62 : decode cX9_made 62 = .ok (.lcmp, 1) := by decide +kernel
theorem dX9_made_63 : decode cX9_made 63 = .ok (.ifCond .le 16, 3) := by decide +kernel
theorem dX9_made_66 : decode cX9_made 66 = .ok (.aload_n 0, 1) := by decide +kernel
theorem dX9_made_67 : decode cX9_made 67 = .ok (.getfield 54, 3) := by decide +kernel
theorem dX9_made_70 : decode cX9_made 70 = .ok (.iload_n 2, 1) := by decide +kernel
theorem dX9_made_71 : decode cX9_made 71 = .ok (.iload_n 3, 1) := by decide +kernel
theorem dX9_made_72 : decode cX9_made 72 = .ok (.invokevirtual 273, 3) := by decide +kernel
theorem dX9_made_75 : decode cX9_made 75 = .ok (.i2l, 1) := by decide +kernel
theorem dX9_made_76 : decode cX9_made 76 = .ok (.goto 10, 3) := by decide +kernel
theorem dX9_made_79 : decode cX9_made 79 = .ok (.aload_n 0, 1) := by decide +kernel
theorem dX9_made_80 : decode cX9_made 80 = .ok (.ldc 177, 2) := by decide +kernel
theorem dX9_made_82 : decode cX9_made 82 = .ok (.invokevirtual 81, 3) := by decide +kernel
theorem dX9_made_85 : decode cX9_made 85 = .ok (.i2l, 1) := by decide +kernel
theorem dX9_made_86 : decode cX9_made 86 = .ok (.lreturn, 1) := by decide +kernel
theorem dX9_strikes_0 : decode cX9_strikes 0 = .ok (.iload_n 1, 1) := by decide +kernel
theorem dX9_strikes_1 : decode cX9_strikes 1 = .ok (.invokestatic 123, 3) := by decide +kernel
theorem dX9_strikes_4 : decode cX9_strikes 4 = .ok (.ifCond .ne 10, 3) := by decide +kernel
theorem dX9_strikes_7 : decode cX9_strikes 7 = .ok (.aload_n 0, 1) := by decide +kernel
theorem dX9_strikes_8 : decode cX9_strikes 8 = .ok (.ldc 80, 2) := by decide +kernel
theorem dX9_strikes_10 : decode cX9_strikes 10 = .ok (.invokevirtual 81, 3) := by decide +kernel
theorem dX9_strikes_13 : decode cX9_strikes 13 = .ok (.ireturn, 1) := by decide +kernel
theorem dX9_strikes_14 : decode cX9_strikes 14 = .ok (.aload_n 0, 1) := by decide +kernel
theorem dX9_strikes_15 : decode cX9_strikes 15 = .ok (.getfield 17, 3) := by decide +kernel
theorem dX9_strikes_18 : decode cX9_strikes 18 = .ok (.iconst 1, 1) := by decide +kernel
theorem dX9_strikes_19 : decode cX9_strikes 19 = .ok (.iload_n 1, 1) := by decide +kernel
theorem dX9_strikes_20 : decode cX9_strikes 20 = .ok (.ishl, 1) := by decide +kernel
theorem dX9_strikes_21 : decode cX9_strikes 21 = .ok (.invokevirtual 276, 3) := by decide +kernel
theorem dX9_strikes_24 : decode cX9_strikes 24 = .ok (.ireturn, 1) := by decide +kernel
theorem dX9_births_0 : decode cX9_births 0 = .ok (.iload_n 1, 1) := by decide +kernel
theorem dX9_births_1 : decode cX9_births 1 = .ok (.iconst 1, 1) := by decide +kernel
theorem dX9_births_2 : decode cX9_births 2 = .ok (.if_icmp .lt 9, 3) := by decide +kernel
theorem dX9_births_5 : decode cX9_births 5 = .ok (.iload_n 1, 1) := by decide +kernel
theorem dX9_births_6 : decode cX9_births 6 = .ok (.bipush 10, 2) := by decide +kernel
theorem dX9_births_8 : decode cX9_births 8 = .ok (.if_icmp .le 10, 3) := by decide +kernel
theorem dX9_births_11 : decode cX9_births 11 = .ok (.aload_n 0, 1) := by decide +kernel
theorem dX9_births_12 : decode cX9_births 12 = .ok (.ldc 80, 2) := by decide +kernel
theorem dX9_births_14 : decode cX9_births 14 = .ok (.invokevirtual 81, 3) := by decide +kernel
theorem dX9_births_17 : decode cX9_births 17 = .ok (.ireturn, 1) := by decide +kernel
theorem dX9_births_18 : decode cX9_births 18 = .ok (.aload_n 0, 1) := by decide +kernel
theorem dX9_births_19 : decode cX9_births 19 = .ok (.getfield 17, 3) := by decide +kernel
theorem dX9_births_22 : decode cX9_births 22 = .ok (.getfield 138, 3) := by decide +kernel
theorem dX9_births_25 : decode cX9_births 25 = .ok (.iload_n 1, 1) := by decide +kernel
theorem dX9_births_26 : decode cX9_births 26 = .ok (.iadd, 1) := by decide +kernel
theorem dX9_births_27 : decode cX9_births 27 = .ok (.bipush 10, 2) := by decide +kernel
theorem dX9_births_29 : decode cX9_births 29 = .ok (.if_icmp .le 10, 3) := by decide +kernel
theorem dX9_births_32 : decode cX9_births 32 = .ok (.aload_n 0, 1) := by decide +kernel
theorem dX9_births_33 : decode cX9_births 33 = .ok (.ldc 88, 2) := by decide +kernel
theorem dX9_births_35 : decode cX9_births 35 = .ok (.invokevirtual 81, 3) := by decide +kernel
theorem dX9_births_38 : decode cX9_births 38 = .ok (.ireturn, 1) := by decide +kernel
theorem dX9_births_39 : decode cX9_births 39 = .ok (.iconst 0, 1) := by decide +kernel
theorem dX9_births_40 : decode cX9_births 40 = .ok (.istore_n 2, 1) := by decide +kernel
theorem dX9_births_41 : decode cX9_births 41 = .ok (.iconst 0, 1) := by decide +kernel
theorem dX9_births_42 : decode cX9_births 42 = .ok (.istore_n 3, 1) := by decide +kernel
theorem dX9_births_43 : decode cX9_births 43 = .ok (.iload_n 3, 1) := by decide +kernel
theorem dX9_births_44 : decode cX9_births 44 = .ok (.iload_n 1, 1) := by decide +kernel
theorem dX9_births_45 : decode cX9_births 45 = .ok (.if_icmp .ge 27, 3) := by decide +kernel
theorem dX9_births_48 : decode cX9_births 48 = .ok (.iload_n 2, 1) := by decide +kernel
theorem dX9_births_49 : decode cX9_births 49 = .ok (.aload_n 0, 1) := by decide +kernel
theorem dX9_births_50 : decode cX9_births 50 = .ok (.getfield 17, 3) := by decide +kernel
theorem dX9_births_53 : decode cX9_births 53 = .ok (.invokevirtual 279, 3) := by decide +kernel
theorem dX9_births_56 : decode cX9_births 56 = .ok (.ifCond .eq 7, 3) := by decide +kernel
theorem dX9_births_59 : decode cX9_births 59 = .ok (.iconst 1, 1) := by decide +kernel
theorem dX9_births_60 : decode cX9_births 60 = .ok (.goto 4, 3) := by decide +kernel
theorem dX9_births_63 : decode cX9_births 63 = .ok (.iconst 0, 1) := by decide +kernel
theorem dX9_births_64 : decode cX9_births 64 = .ok (.iadd, 1) := by decide +kernel
theorem dX9_births_65 : decode cX9_births 65 = .ok (.istore_n 2, 1) := by decide +kernel
theorem dX9_births_66 : decode cX9_births 66 = .ok (.iinc 3 1, 3) := by decide +kernel
theorem dX9_births_69 : decode cX9_births 69 = .ok (.goto (-26), 3) := by decide +kernel
theorem dX9_births_72 : decode cX9_births 72 = .ok (.iload_n 2, 1) := by decide +kernel
theorem dX9_births_73 : decode cX9_births 73 = .ok (.ireturn, 1) := by decide +kernel
theorem dX9_seed_0 : decode cX9_seed 0 = .ok (.aload_n 0, 1) := by decide +kernel
theorem dX9_seed_1 : decode cX9_seed 1 = .ok (.getfield 17, 3) := by decide +kernel
theorem dX9_seed_4 : decode cX9_seed 4 = .ok (.getfield 282, 3) := by decide +kernel
theorem dX9_seed_7 : decode cX9_seed 7 = .ok (.istore_n 2, 1) := by decide +kernel
theorem dX9_seed_8 : decode cX9_seed 8 = .ok (.aload_n 0, 1) := by decide +kernel
theorem dX9_seed_9 : decode cX9_seed 9 = .ok (.getfield 17, 3) := by decide +kernel
theorem dX9_seed_12 : decode cX9_seed 12 = .ok (.iload_n 1, 1) := by decide +kernel
theorem dX9_seed_13 : decode cX9_seed 13 = .ok (.putfield 282, 3) := by decide +kernel
theorem dX9_seed_16 : decode cX9_seed 16 = .ok (.iload_n 2, 1) := by decide +kernel
theorem dX9_seed_17 : decode cX9_seed 17 = .ok (.ireturn, 1) := by decide +kernel
theorem dX9_voice_0 : decode cX9_voice 0 = .ok (.aload_n 0, 1) := by decide +kernel
theorem dX9_voice_1 : decode cX9_voice 1 = .ok (.getfield 17, 3) := by decide +kernel
theorem dX9_voice_4 : decode cX9_voice 4 = .ok (.iload_n 1, 1) := by decide +kernel
theorem dX9_voice_5 : decode cX9_voice 5 = .ok (.invokevirtual 135, 3) := by decide +kernel
theorem dX9_voice_8 : decode cX9_voice 8 = .ok (.ifCond .eq 12, 3) := by decide +kernel
theorem dX9_voice_11 : decode cX9_voice 11 = .ok (.iload_n 2, 1) := by decide +kernel
theorem dX9_voice_12 : decode cX9_voice 12 = .ok (.ifCond .lt 8, 3) := by decide +kernel
theorem dX9_voice_15 : decode cX9_voice 15 = .ok (.iload_n 2, 1) := by decide +kernel
theorem dX9_voice_16 : decode cX9_voice 16 = .ok (.iconst 4, 1) := by decide +kernel
theorem dX9_voice_17 : decode cX9_voice 17 = .ok (.if_icmp .lt 10, 3) := by decide +kernel
theorem dX9_voice_20 : decode cX9_voice 20 = .ok (.aload_n 0, 1) := by decide +kernel
theorem dX9_voice_21 : decode cX9_voice 21 = .ok (.ldc 80, 2) := by decide +kernel
theorem dX9_voice_23 : decode cX9_voice 23 = .ok (.invokevirtual 81, 3) := by decide +kernel
theorem dX9_voice_26 : decode cX9_voice 26 = .ok (.ireturn, 1) := by decide +kernel
theorem dX9_voice_27 : decode cX9_voice 27 = .ok (.aload_n 0, 1) := by decide +kernel
theorem dX9_voice_28 : decode cX9_voice 28 = .ok (.getfield 61, 3) := by decide +kernel
theorem dX9_voice_31 : decode cX9_voice 31 = .ok (.iload_n 1, 1) := by decide +kernel
theorem dX9_voice_32 : decode cX9_voice 32 = .ok (.aload_n 0, 1) := by decide +kernel
theorem dX9_voice_33 : decode cX9_voice 33 = .ok (.getfield 17, 3) := by decide +kernel
theorem dX9_voice_36 : decode cX9_voice 36 = .ok (.getfield 147, 3) := by decide +kernel
theorem dX9_voice_39 : decode cX9_voice 39 = .ok (.iload_n 1, 1) := by decide +kernel
theorem dX9_voice_40 : decode cX9_voice 40 = .ok (.iaload, 1) := by decide +kernel
theorem dX9_voice_41 : decode cX9_voice 41 = .ok (.aload_n 0, 1) := by decide +kernel
theorem dX9_voice_42 : decode cX9_voice 42 = .ok (.getfield 17, 3) := by decide +kernel
theorem dX9_voice_45 : decode cX9_voice 45 = .ok (.getfield 144, 3) := by decide +kernel
theorem dX9_voice_48 : decode cX9_voice 48 = .ok (.iload_n 1, 1) := by decide +kernel
theorem dX9_voice_49 : decode cX9_voice 49 = .ok (.iaload, 1) := by decide +kernel
theorem dX9_voice_50 : decode cX9_voice 50 = .ok (.iload_n 2, 1) := by decide +kernel
theorem dX9_voice_51 : decode cX9_voice 51 = .ok (.iload_n 3, 1) := by decide +kernel
theorem dX9_voice_52 : decode cX9_voice 52 = .ok (.invokevirtual 285, 3) := by decide +kernel
theorem dX9_voice_55 : decode cX9_voice 55 = .ok (.ireturn, 1) := by decide +kernel
theorem dX9_trace_0 : decode cX9_trace 0 = .ok (.iload_n 1, 1) := by decide +kernel
theorem dX9_trace_1 : decode cX9_trace 1 = .ok (.ifCond .lt 14, 3) := by decide +kernel
theorem dX9_trace_4 : decode cX9_trace 4 = .ok (.iload_n 1, 1) := by decide +kernel
theorem dX9_trace_5 : decode cX9_trace 5 = .ok (.aload_n 0, 1) := by decide +kernel
theorem dX9_trace_6 : decode cX9_trace 6 = .ok (.getfield 61, 3) := by decide +kernel
theorem dX9_trace_9 : decode cX9_trace 9 = .ok (.getfield 289, 3) := by decide +kernel
theorem dX9_trace_12 : decode cX9_trace 12 = .ok (.if_icmp .lt 10, 3) := by decide +kernel
theorem dX9_trace_15 : decode cX9_trace 15 = .ok (.aload_n 0, 1) := by decide +kernel
theorem dX9_trace_16 : decode cX9_trace 16 = .ok (.ldc 177, 2) := by decide +kernel
theorem dX9_trace_18 : decode cX9_trace 18 = .ok (.invokevirtual 81, 3) := by decide +kernel
theorem dX9_trace_21 : decode cX9_trace 21 = .ok (.ireturn, 1) := by decide +kernel
theorem dX9_trace_22 : decode cX9_trace 22 = .ok (.aload_n 0, 1) := by decide +kernel
theorem dX9_trace_23 : decode cX9_trace 23 = .ok (.getfield 61, 3) := by decide +kernel
theorem dX9_trace_26 : decode cX9_trace 26 = .ok (.getfield 292, 3) := by decide +kernel
theorem dX9_trace_29 : decode cX9_trace 29 = .ok (.iload_n 1, 1) := by decide +kernel
theorem dX9_trace_30 : decode cX9_trace 30 = .ok (.iaload, 1) := by decide +kernel
theorem dX9_trace_31 : decode cX9_trace 31 = .ok (.ireturn, 1) := by decide +kernel
theorem dX9_sheet_0 : decode cX9_sheet 0 = .ok (.aload_n 0, 1) := by decide +kernel
theorem dX9_sheet_1 : decode cX9_sheet 1 = .ok (.getfield 68, 3) := by decide +kernel
theorem dX9_sheet_4 : decode cX9_sheet 4 = .ok (.iload_n 1, 1) := by decide +kernel
theorem dX9_sheet_5 : decode cX9_sheet 5 = .ok (.invokevirtual 171, 3) := by decide +kernel
theorem dX9_sheet_8 : decode cX9_sheet 8 = .ok (.ifCond .eq 14, 3) := by decide +kernel
theorem dX9_sheet_11 : decode cX9_sheet 11 = .ok (.aload_n 0, 1) := by decide +kernel
theorem dX9_sheet_12 : decode cX9_sheet 12 = .ok (.getfield 68, 3) := by decide +kernel
theorem dX9_sheet_15 : decode cX9_sheet 15 = .ok (.iload_n 2, 1) := by decide +kernel
theorem dX9_sheet_16 : decode cX9_sheet 16 = .ok (.invokevirtual 295, 3) := by decide +kernel
theorem dX9_sheet_19 : decode cX9_sheet 19 = .ok (.ifCond .ne 10, 3) := by decide +kernel
theorem dX9_sheet_22 : decode cX9_sheet 22 = .ok (.aload_n 0, 1) := by decide +kernel
theorem dX9_sheet_23 : decode cX9_sheet 23 = .ok (.ldc 80, 2) := by decide +kernel
theorem dX9_sheet_25 : decode cX9_sheet 25 = .ok (.invokevirtual 81, 3) := by decide +kernel
theorem dX9_sheet_28 : decode cX9_sheet 28 = .ok (.ireturn, 1) := by decide +kernel
theorem dX9_sheet_29 : decode cX9_sheet 29 = .ok (.iload_n 2, 1) := by decide +kernel
theorem dX9_sheet_30 : decode cX9_sheet 30 = .ok (.ifCond .eq 14, 3) := by decide +kernel
theorem dX9_sheet_33 : decode cX9_sheet 33 = .ok (.iload_n 3, 1) := by decide +kernel
theorem dX9_sheet_34 : decode cX9_sheet 34 = .ok (.ifCond .ge 10, 3) := by decide +kernel
theorem dX9_sheet_37 : decode cX9_sheet 37 = .ok (.aload_n 0, 1) := by decide +kernel
theorem dX9_sheet_38 : decode cX9_sheet 38 = .ok (.ldc 243, 2) := by decide +kernel
theorem dX9_sheet_40 : decode cX9_sheet 40 = .ok (.invokevirtual 81, 3) := by decide +kernel
theorem dX9_sheet_43 : decode cX9_sheet 43 = .ok (.ireturn, 1) := by decide +kernel
theorem dX9_sheet_44 : decode cX9_sheet 44 = .ok (.iload_n 2, 1) := by decide +kernel
theorem dX9_sheet_45 : decode cX9_sheet 45 = .ok (.ifCond .eq 16, 3) := by decide +kernel
theorem dX9_sheet_48 : decode cX9_sheet 48 = .ok (.iload_n 3, 1) := by decide +kernel
theorem dX9_sheet_49 : decode cX9_sheet 49 = .ok (.bipush 40, 2) := by decide +kernel
theorem dX9_sheet_51 : decode cX9_sheet 51 = .ok (.if_icmp .le 10, 3) := by decide +kernel
theorem dX9_sheet_54 : decode cX9_sheet 54 = .ok (.aload_n 0, 1) := by decide +kernel
theorem dX9_sheet_55 : decode cX9_sheet 55 = .ok (.ldc 80, 2) := by decide +kernel
theorem dX9_sheet_57 : decode cX9_sheet 57 = .ok (.invokevirtual 81, 3) := by decide +kernel
theorem dX9_sheet_60 : decode cX9_sheet 60 = .ok (.ireturn, 1) := by decide +kernel
theorem dX9_sheet_61 : decode cX9_sheet 61 = .ok (.aload_n 0, 1) := by decide +kernel
theorem dX9_sheet_62 : decode cX9_sheet 62 = .ok (.getfield 68, 3) := by decide +kernel
theorem dX9_sheet_65 : decode cX9_sheet 65 = .ok (.iload_n 1, 1) := by decide +kernel
theorem dX9_sheet_66 : decode cX9_sheet 66 = .ok (.iload_n 2, 1) := by decide +kernel
theorem dX9_sheet_67 : decode cX9_sheet 67 = .ok (.iload_n 2, 1) := by decide +kernel
theorem dX9_sheet_68 : decode cX9_sheet 68 = .ok (.ifCond .ne 7, 3) := by decide +kernel
theorem dX9_sheet_71 : decode cX9_sheet 71 = .ok (.iconst 0, 1) := by decide +kernel
theorem dX9_sheet_72 : decode cX9_sheet 72 = .ok (.goto 4, 3) := by decide +kernel
theorem dX9_sheet_75 : decode cX9_sheet 75 = .ok (.iload_n 3, 1) := by decide +kernel
theorem dX9_sheet_76 : decode cX9_sheet 76 = .ok (.invokevirtual 298, 3) := by decide +kernel
theorem dX9_sheet_79 : decode cX9_sheet 79 = .ok (.iconst 1, 1) := by decide +kernel
theorem dX9_sheet_80 : decode cX9_sheet 80 = .ok (.ireturn, 1) := by decide +kernel
theorem dX9_put_0 : decode cX9_put 0 = .ok (.aload_n 0, 1) := by decide +kernel
theorem dX9_put_1 : decode cX9_put 1 = .ok (.getfield 68, 3) := by decide +kernel
theorem dX9_put_4 : decode cX9_put 4 = .ok (.iload_n 1, 1) := by decide +kernel
theorem dX9_put_5 : decode cX9_put 5 = .ok (.invokevirtual 171, 3) := by decide +kernel
theorem dX9_put_8 : decode cX9_put 8 = .ok (.ifCond .ne 10, 3) := by decide +kernel
theorem dX9_put_11 : decode cX9_put 11 = .ok (.aload_n 0, 1) := by decide +kernel
theorem dX9_put_12 : decode cX9_put 12 = .ok (.ldc 80, 2) := by decide +kernel
theorem dX9_put_14 : decode cX9_put 14 = .ok (.invokevirtual 81, 3) := by decide +kernel
theorem dX9_put_17 : decode cX9_put 17 = .ok (.ireturn, 1) := by decide +kernel
theorem dX9_put_18 : decode cX9_put 18 = .ok (.aload_n 0, 1) := by decide +kernel
theorem dX9_put_19 : decode cX9_put 19 = .ok (.getfield 68, 3) := by decide +kernel
theorem dX9_put_22 : decode cX9_put 22 = .ok (.iload_n 1, 1) := by decide +kernel
theorem dX9_put_23 : decode cX9_put 23 = .ok (.invokevirtual 174, 3) := by decide +kernel
theorem dX9_put_26 : decode cX9_put 26 = .ok (.ifCond .eq 10, 3) := by decide +kernel
theorem dX9_put_29 : decode cX9_put 29 = .ok (.aload_n 0, 1) := by decide +kernel
theorem dX9_put_30 : decode cX9_put 30 = .ok (.ldc 177, 2) := by decide +kernel
theorem dX9_put_32 : decode cX9_put 32 = .ok (.invokevirtual 81, 3) := by decide +kernel
theorem dX9_put_35 : decode cX9_put 35 = .ok (.ireturn, 1) := by decide +kernel
theorem dX9_put_36 : decode cX9_put 36 = .ok (.iload_n 2, 1) := by decide +kernel
theorem dX9_put_37 : decode cX9_put 37 = .ok (.ifCond .lt 16, 3) := by decide +kernel
theorem dX9_put_40 : decode cX9_put 40 = .ok (.iload_n 2, 1) := by decide +kernel
theorem dX9_put_41 : decode cX9_put 41 = .ok (.aload_n 0, 1) := by decide +kernel
theorem dX9_put_42 : decode cX9_put 42 = .ok (.getfield 68, 3) := by decide +kernel
theorem dX9_put_45 : decode cX9_put 45 = .ok (.getfield 178, 3) := by decide +kernel
theorem dX9_put_48 : decode cX9_put 48 = .ok (.iload_n 1, 1) := by decide +kernel
theorem dX9_put_49 : decode cX9_put 49 = .ok (.iaload, 1) := by decide +kernel
theorem dX9_put_50 : decode cX9_put 50 = .ok (.if_icmp .lt 10, 3) := by decide +kernel
theorem dX9_put_53 : decode cX9_put 53 = .ok (.aload_n 0, 1) := by decide +kernel
theorem dX9_put_54 : decode cX9_put 54 = .ok (.ldc 80, 2) := by decide +kernel
theorem dX9_put_56 : decode cX9_put 56 = .ok (.invokevirtual 81, 3) := by decide +kernel
theorem dX9_put_59 : decode cX9_put 59 = .ok (.ireturn, 1) := by decide +kernel
theorem dX9_put_60 : decode cX9_put 60 = .ok (.aload_n 0, 1) := by decide +kernel
theorem dX9_put_61 : decode cX9_put 61 = .ok (.getfield 68, 3) := by decide +kernel
theorem dX9_put_64 : decode cX9_put 64 = .ok (.iload_n 1, 1) := by decide +kernel
theorem dX9_put_65 : decode cX9_put 65 = .ok (.iload_n 2, 1) := by decide +kernel
theorem dX9_put_66 : decode cX9_put 66 = .ok (.iload_n 3, 1) := by decide +kernel
theorem dX9_put_67 : decode cX9_put 67 = .ok (.invokevirtual 301, 3) := by decide +kernel
theorem dX9_put_70 : decode cX9_put 70 = .ok (.iconst 1, 1) := by decide +kernel
theorem dX9_put_71 : decode cX9_put 71 = .ok (.ireturn, 1) := by decide +kernel
theorem dX9_move_0 : decode cX9_move 0 = .ok (.aload_n 0, 1) := by decide +kernel
theorem dX9_move_1 : decode cX9_move 1 = .ok (.getfield 68, 3) := by decide +kernel
theorem dX9_move_4 : decode cX9_move 4 = .ok (.iload_n 1, 1) := by decide +kernel
theorem dX9_move_5 : decode cX9_move 5 = .ok (.invokevirtual 171, 3) := by decide +kernel
theorem dX9_move_8 : decode cX9_move 8 = .ok (.ifCond .eq 14, 3) := by decide +kernel
theorem dX9_move_11 : decode cX9_move 11 = .ok (.aload_n 0, 1) := by decide +kernel
theorem dX9_move_12 : decode cX9_move 12 = .ok (.getfield 68, 3) := by decide +kernel
theorem dX9_move_15 : decode cX9_move 15 = .ok (.iload_n 3, 1) := by decide +kernel
theorem dX9_move_16 : decode cX9_move 16 = .ok (.invokevirtual 171, 3) := by decide +kernel
theorem dX9_move_19 : decode cX9_move 19 = .ok (.ifCond .ne 10, 3) := by decide +kernel
theorem dX9_move_22 : decode cX9_move 22 = .ok (.aload_n 0, 1) := by decide +kernel
theorem dX9_move_23 : decode cX9_move 23 = .ok (.ldc 80, 2) := by decide +kernel
theorem dX9_move_25 : decode cX9_move 25 = .ok (.invokevirtual 81, 3) := by decide +kernel
theorem dX9_move_28 : decode cX9_move 28 = .ok (.ireturn, 1) := by decide +kernel
theorem dX9_move_29 : decode cX9_move 29 = .ok (.aload_n 0, 1) := by decide +kernel
theorem dX9_move_30 : decode cX9_move 30 = .ok (.getfield 68, 3) := by decide +kernel
theorem dX9_move_33 : decode cX9_move 33 = .ok (.iload_n 1, 1) := by decide +kernel
theorem dX9_move_34 : decode cX9_move 34 = .ok (.invokevirtual 174, 3) := by decide +kernel
theorem dX9_move_37 : decode cX9_move 37 = .ok (.ifCond .ne 14, 3) := by decide +kernel
theorem dX9_move_40 : decode cX9_move 40 = .ok (.aload_n 0, 1) := by decide +kernel
theorem dX9_move_41 : decode cX9_move 41 = .ok (.getfield 68, 3) := by decide +kernel
theorem dX9_move_44 : decode cX9_move 44 = .ok (.iload_n 3, 1) := by decide +kernel
theorem dX9_move_45 : decode cX9_move 45 = .ok (.invokevirtual 174, 3) := by decide +kernel
theorem dX9_move_48 : decode cX9_move 48 = .ok (.ifCond .eq 10, 3) := by decide +kernel
theorem dX9_move_51 : decode cX9_move 51 = .ok (.aload_n 0, 1) := by decide +kernel
theorem dX9_move_52 : decode cX9_move 52 = .ok (.ldc 177, 2) := by decide +kernel
theorem dX9_move_54 : decode cX9_move 54 = .ok (.invokevirtual 81, 3) := by decide +kernel
theorem dX9_move_57 : decode cX9_move 57 = .ok (.ireturn, 1) := by decide +kernel
theorem dX9_move_58 : decode cX9_move 58 = .ok (.aload_n 0, 1) := by decide +kernel
theorem dX9_move_59 : decode cX9_move 59 = .ok (.getfield 68, 3) := by decide +kernel
theorem dX9_move_62 : decode cX9_move 62 = .ok (.getfield 304, 3) := by decide +kernel
theorem dX9_move_65 : decode cX9_move 65 = .ok (.iload_n 1, 1) := by decide +kernel
theorem dX9_move_66 : decode cX9_move 66 = .ok (.iaload, 1) := by decide +kernel
theorem dX9_move_67 : decode cX9_move 67 = .ok (.aload_n 0, 1) := by decide +kernel
theorem dX9_move_68 : decode cX9_move 68 = .ok (.getfield 68, 3) := by decide +kernel
theorem dX9_move_71 : decode cX9_move 71 = .ok (.getfield 304, 3) := by decide +kernel
theorem dX9_move_74 : decode cX9_move 74 = .ok (.iload_n 3, 1) := by decide +kernel
theorem dX9_move_75 : decode cX9_move 75 = .ok (.iaload, 1) := by decide +kernel
theorem dX9_move_76 : decode cX9_move 76 = .ok (.if_icmp .eq 10, 3) := by decide +kernel
theorem dX9_move_79 : decode cX9_move 79 = .ok (.aload_n 0, 1) := by decide +kernel
theorem dX9_move_80 : decode cX9_move 80 = .ok (.ldc 163, 2) := by decide +kernel
theorem dX9_move_82 : decode cX9_move 82 = .ok (.invokevirtual 81, 3) := by decide +kernel
theorem dX9_move_85 : decode cX9_move 85 = .ok (.ireturn, 1) := by decide +kernel
theorem dX9_move_86 : decode cX9_move 86 = .ok (.aload_n 0, 1) := by decide +kernel
theorem dX9_move_87 : decode cX9_move 87 = .ok (.getfield 68, 3) := by decide +kernel
theorem dX9_move_90 : decode cX9_move 90 = .ok (.iload_n 1, 1) := by decide +kernel
theorem dX9_move_91 : decode cX9_move 91 = .ok (.iload_n 2, 1) := by decide +kernel
theorem dX9_move_92 : decode cX9_move 92 = .ok (.iload 5, 2) := by decide +kernel
theorem dX9_move_94 : decode cX9_move 94 = .ok (.invokevirtual 307, 3) := by decide +kernel
theorem dX9_move_97 : decode cX9_move 97 = .ok (.ifCond .eq 18, 3) := by decide +kernel
theorem dX9_move_100 : decode cX9_move 100 = .ok (.aload_n 0, 1) := by decide +kernel
theorem dX9_move_101 : decode cX9_move 101 = .ok (.getfield 68, 3) := by decide +kernel
theorem dX9_move_104 : decode cX9_move 104 = .ok (.iload_n 3, 1) := by decide +kernel
theorem dX9_move_105 : decode cX9_move 105 = .ok (.iload 4, 2) := by decide +kernel
theorem dX9_move_107 : decode cX9_move 107 = .ok (.iload 5, 2) := by decide +kernel
theorem dX9_move_109 : decode cX9_move 109 = .ok (.invokevirtual 307, 3) := by decide +kernel
theorem dX9_move_112 : decode cX9_move 112 = .ok (.ifCond .ne 10, 3) := by decide +kernel
theorem dX9_move_115 : decode cX9_move 115 = .ok (.aload_n 0, 1) := by decide +kernel
theorem dX9_move_116 : decode cX9_move 116 = .ok (.ldc 80, 2) := by decide +kernel
theorem dX9_move_118 : decode cX9_move 118 = .ok (.invokevirtual 81, 3) := by decide +kernel
theorem dX9_move_121 : decode cX9_move 121 = .ok (.ireturn, 1) := by decide +kernel
theorem dX9_move_122 : decode cX9_move 122 = .ok (.aload_n 0, 1) := by decide +kernel
theorem dX9_move_123 : decode cX9_move 123 = .ok (.getfield 68, 3) := by decide +kernel
theorem dX9_move_126 : decode cX9_move 126 = .ok (.iload_n 1, 1) := by decide +kernel
theorem dX9_move_127 : decode cX9_move 127 = .ok (.iload_n 2, 1) := by decide +kernel
theorem dX9_move_128 : decode cX9_move 128 = .ok (.iload_n 3, 1) := by decide +kernel
theorem dX9_move_129 : decode cX9_move 129 = .ok (.iload 4, 2) := by decide +kernel
theorem dX9_move_131 : decode cX9_move 131 = .ok (.iload 5, 2) := by decide +kernel
theorem dX9_move_133 : decode cX9_move 133 = .ok (.invokevirtual 310, 3) := by decide +kernel
theorem dX9_move_136 : decode cX9_move 136 = .ok (.iload 5, 2) := by decide +kernel
theorem dX9_move_138 : decode cX9_move 138 = .ok (.ireturn, 1) := by decide +kernel
theorem dX9_image_0 : decode cX9_image 0 = .ok (.aload_n 0, 1) := by decide +kernel
theorem dX9_image_1 : decode cX9_image 1 = .ok (.getfield 21, 3) := by decide +kernel
theorem dX9_image_4 : decode cX9_image 4 = .ok (.aload_n 0, 1) := by decide +kernel
theorem dX9_image_5 : decode cX9_image 5 = .ok (.getfield 17, 3) := by decide +kernel
theorem dX9_image_8 : decode cX9_image 8 = .ok (.invokevirtual 314, 3) := by decide +kernel
theorem dX9_image_11 : decode cX9_image 11 = .ok (.aload_n 0, 1) := by decide +kernel
theorem dX9_image_12 : decode cX9_image 12 = .ok (.dup, 1) := by decide +kernel
theorem dX9_image_13 : decode cX9_image 13 = .ok (.getfield 76, 3) := by decide +kernel
theorem dX9_image_16 : decode cX9_image 16 = .ok (.iconst 1, 1) := by decide +kernel
theorem dX9_image_17 : decode cX9_image 17 = .ok (.iadd, 1) := by decide +kernel
theorem dX9_image_18 : decode cX9_image 18 = .ok (.putfield 76, 3) := by decide +kernel
theorem dX9_image_21 : decode cX9_image 21 = .ok (.aload_n 0, 1) := by decide +kernel
theorem dX9_image_22 : decode cX9_image 22 = .ok (.getfield 76, 3) := by decide +kernel
theorem dX9_image_25 : decode cX9_image 25 = .ok (.ireturn, 1) := by decide +kernel
theorem dX9_restore_0 : decode cX9_restore 0 = .ok (.aload_n 0, 1) := by decide +kernel
theorem dX9_restore_1 : decode cX9_restore 1 = .ok (.getfield 76, 3) := by decide +kernel
theorem dX9_restore_4 : decode cX9_restore 4 = .ok (.ifCond .ne 10, 3) := by decide +kernel
theorem dX9_restore_7 : decode cX9_restore 7 = .ok (.aload_n 0, 1) := by decide +kernel
theorem dX9_restore_8 : decode cX9_restore 8 = .ok (.ldc 177, 2) := by decide +kernel
theorem dX9_restore_10 : decode cX9_restore 10 = .ok (.invokevirtual 81, 3) := by decide +kernel
theorem dX9_restore_13 : decode cX9_restore 13 = .ok (.ireturn, 1) := by decide +kernel
theorem dX9_restore_14 : decode cX9_restore 14 = .ok (.aload_n 0, 1) := by decide +kernel
theorem dX9_restore_15 : decode cX9_restore 15 = .ok (.getfield 17, 3) := by decide +kernel
theorem dX9_restore_18 : decode cX9_restore 18 = .ok (.aload_n 0, 1) := by decide +kernel
theorem dX9_restore_19 : decode cX9_restore 19 = .ok (.getfield 21, 3) := by decide +kernel
theorem dX9_restore_22 : decode cX9_restore 22 = .ok (.invokevirtual 314, 3) := by decide +kernel
theorem dX9_restore_25 : decode cX9_restore 25 = .ok (.aload_n 0, 1) := by decide +kernel
theorem dX9_restore_26 : decode cX9_restore 26 = .ok (.getfield 54, 3) := by decide +kernel
theorem dX9_restore_29 : decode cX9_restore 29 = .ok (.invokevirtual 224, 3) := by decide +kernel
theorem dX9_restore_32 : decode cX9_restore 32 = .ok (.aload_n 0, 1) := by decide +kernel
theorem dX9_restore_33 : decode cX9_restore 33 = .ok (.getfield 17, 3) := by decide +kernel
theorem dX9_restore_36 : decode cX9_restore 36 = .ok (.getfield 138, 3) := by decide +kernel
theorem dX9_restore_39 : decode cX9_restore 39 = .ok (.ireturn, 1) := by decide +kernel
theorem dX9_tell_0 : decode cX9_tell 0 = .ok (.aload_n 0, 1) := by decide +kernel
theorem dX9_tell_1 : decode cX9_tell 1 = .ok (.getfield 17, 3) := by decide +kernel
theorem dX9_tell_4 : decode cX9_tell 4 = .ok (.getfield 316, 3) := by decide +kernel
theorem dX9_tell_7 : decode cX9_tell 7 = .ok (.bipush 20, 2) := by decide +kernel
theorem dX9_tell_9 : decode cX9_tell 9 = .ok (.if_icmp .lt 10, 3) := by decide +kernel
theorem dX9_tell_12 : decode cX9_tell 12 = .ok (.aload_n 0, 1) := by decide +kernel
theorem dX9_tell_13 : decode cX9_tell 13 = .ok (.ldc 88, 2) := by decide +kernel
theorem dX9_tell_15 : decode cX9_tell 15 = .ok (.invokevirtual 81, 3) := by decide +kernel
theorem dX9_tell_18 : decode cX9_tell 18 = .ok (.ireturn, 1) := by decide +kernel
theorem dX9_tell_19 : decode cX9_tell 19 = .ok (.aload_n 0, 1) := by decide +kernel
theorem dX9_tell_20 : decode cX9_tell 20 = .ok (.getfield 17, 3) := by decide +kernel
theorem dX9_tell_23 : decode cX9_tell 23 = .ok (.getfield 319, 3) := by decide +kernel
theorem dX9_tell_26 : decode cX9_tell 26 = .ok (.aload_n 0, 1) := by decide +kernel
theorem dX9_tell_27 : decode cX9_tell 27 = .ok (.getfield 17, 3) := by decide +kernel
theorem dX9_tell_30 : decode cX9_tell 30 = .ok (.getfield 316, 3) := by decide +kernel
theorem dX9_tell_33 : decode cX9_tell 33 = .ok (.iload_n 1, 1) := by decide +kernel
theorem dX9_tell_34 : decode cX9_tell 34 = .ok (.iastore, 1) := by decide +kernel
theorem dX9_tell_35 : decode cX9_tell 35 = .ok (.aload_n 0, 1) := by decide +kernel
theorem dX9_tell_36 : decode cX9_tell 36 = .ok (.getfield 17, 3) := by decide +kernel
theorem dX9_tell_39 : decode cX9_tell 39 = .ok (.dup, 1) := by decide +kernel
theorem dX9_tell_40 : decode cX9_tell 40 = .ok (.getfield 316, 3) := by decide +kernel
theorem dX9_tell_43 : decode cX9_tell 43 = .ok (.iconst 1, 1) := by decide +kernel
theorem dX9_tell_44 : decode cX9_tell 44 = .ok (.iadd, 1) := by decide +kernel
theorem dX9_tell_45 : decode cX9_tell 45 = .ok (.putfield 316, 3) := by decide +kernel
theorem dX9_tell_48 : decode cX9_tell 48 = .ok (.aload_n 0, 1) := by decide +kernel
theorem dX9_tell_49 : decode cX9_tell 49 = .ok (.getfield 17, 3) := by decide +kernel
theorem dX9_tell_52 : decode cX9_tell 52 = .ok (.getfield 316, 3) := by decide +kernel
theorem dX9_tell_55 : decode cX9_tell 55 = .ok (.ireturn, 1) := by decide +kernel
theorem dX9_check_0 : decode cX9_check 0 = .ok (.aload_n 0, 1) := by decide +kernel
theorem dX9_check_1 : decode cX9_check 1 = .ok (.getfield 17, 3) := by decide +kernel
theorem dX9_check_4 : decode cX9_check 4 = .ok (.invokevirtual 322, 3) := by decide +kernel
theorem dX9_check_7 : decode cX9_check 7 = .ok (.istore_n 1, 1) := by decide +kernel
theorem dX9_check_8 : decode cX9_check 8 = .ok (.aload_n 0, 1) := by decide +kernel
theorem dX9_check_9 : decode cX9_check 9 = .ok (.getfield 17, 3) := by decide +kernel
theorem dX9_check_12 : decode cX9_check 12 = .ok (.iconst 0, 1) := by decide +kernel
theorem dX9_check_13 : decode cX9_check 13 = .ok (.putfield 316, 3) := by decide +kernel
theorem dX9_check_16 : decode cX9_check 16 = .ok (.iconst 1, 1) := by decide +kernel
theorem dX9_check_17 : decode cX9_check 17 = .ok (.iload_n 1, 1) := by decide +kernel
theorem dX9_check_18 : decode cX9_check 18 = .ok (.iadd, 1) := by decide +kernel
theorem dX9_check_19 : decode cX9_check 19 = .ok (.ireturn, 1) := by decide +kernel
theorem dX9_count_0 : decode cX9_count 0 = .ok (.iload_n 1, 1) := by decide +kernel
theorem dX9_count_1 : decode cX9_count 1 = .ok (.tableswitch 126 0 8 #[51, 59, 67, 78, 86, 94, 102, 110, 118], 51) := by decide +kernel
theorem dX9_count_52 : decode cX9_count 52 = .ok (.aload_n 0, 1) := by decide +kernel
theorem dX9_count_53 : decode cX9_count 53 = .ok (.getfield 17, 3) := by decide +kernel
theorem dX9_count_56 : decode cX9_count 56 = .ok (.getfield 97, 3) := by decide +kernel
theorem dX9_count_59 : decode cX9_count 59 = .ok (.ireturn, 1) := by decide +kernel
theorem dX9_count_60 : decode cX9_count 60 = .ok (.aload_n 0, 1) := by decide +kernel
theorem dX9_count_61 : decode cX9_count 61 = .ok (.getfield 17, 3) := by decide +kernel
theorem dX9_count_64 : decode cX9_count 64 = .ok (.getfield 138, 3) := by decide +kernel
theorem dX9_count_67 : decode cX9_count 67 = .ok (.ireturn, 1) := by decide +kernel
theorem dX9_count_68 : decode cX9_count 68 = .ok (.aload_n 0, 1) := by decide +kernel
theorem dX9_count_69 : decode cX9_count 69 = .ok (.getfield 17, 3) := by decide +kernel
theorem dX9_count_72 : decode cX9_count 72 = .ok (.invokevirtual 236, 3) := by decide +kernel
theorem dX9_count_75 : decode cX9_count 75 = .ok (.invokestatic 250, 3) := by decide +kernel
theorem dX9_count_78 : decode cX9_count 78 = .ok (.ireturn, 1) := by decide +kernel
theorem dX9_count_79 : decode cX9_count 79 = .ok (.aload_n 0, 1) := by decide +kernel
theorem dX9_count_80 : decode cX9_count 80 = .ok (.getfield 17, 3) := by decide +kernel
theorem dX9_count_83 : decode cX9_count 83 = .ok (.getfield 129, 3) := by decide +kernel
theorem dX9_count_86 : decode cX9_count 86 = .ok (.ireturn, 1) := by decide +kernel
theorem dX9_count_87 : decode cX9_count 87 = .ok (.aload_n 0, 1) := by decide +kernel
theorem dX9_count_88 : decode cX9_count 88 = .ok (.getfield 17, 3) := by decide +kernel
theorem dX9_count_91 : decode cX9_count 91 = .ok (.invokevirtual 325, 3) := by decide +kernel
theorem dX9_count_94 : decode cX9_count 94 = .ok (.ireturn, 1) := by decide +kernel
theorem dX9_count_95 : decode cX9_count 95 = .ok (.aload_n 0, 1) := by decide +kernel
theorem dX9_count_96 : decode cX9_count 96 = .ok (.getfield 17, 3) := by decide +kernel
theorem dX9_count_99 : decode cX9_count 99 = .ok (.getfield 85, 3) := by decide +kernel
theorem dX9_count_102 : decode cX9_count 102 = .ok (.ireturn, 1) := by decide +kernel
theorem dX9_count_103 : decode cX9_count 103 = .ok (.aload_n 0, 1) := by decide +kernel
theorem dX9_count_104 : decode cX9_count 104 = .ok (.getfield 17, 3) := by decide +kernel
theorem dX9_count_107 : decode cX9_count 107 = .ok (.getfield 316, 3) := by decide +kernel
theorem dX9_count_110 : decode cX9_count 110 = .ok (.ireturn, 1) := by decide +kernel
theorem dX9_count_111 : decode cX9_count 111 = .ok (.aload_n 0, 1) := by decide +kernel
theorem dX9_count_112 : decode cX9_count 112 = .ok (.getfield 61, 3) := by decide +kernel
theorem dX9_count_115 : decode cX9_count 115 = .ok (.getfield 289, 3) := by decide +kernel
theorem dX9_count_118 : decode cX9_count 118 = .ok (.ireturn, 1) := by decide +kernel
theorem dX9_count_119 : decode cX9_count 119 = .ok (.aload_n 0, 1) := by decide +kernel
theorem dX9_count_120 : decode cX9_count 120 = .ok (.getfield 17, 3) := by decide +kernel
theorem dX9_count_123 : decode cX9_count 123 = .ok (.getfield 282, 3) := by decide +kernel
theorem dX9_count_126 : decode cX9_count 126 = .ok (.ireturn, 1) := by decide +kernel
theorem dX9_count_127 : decode cX9_count 127 = .ok (.aload_n 0, 1) := by decide +kernel
theorem dX9_count_128 : decode cX9_count 128 = .ok (.ldc 80, 2) := by decide +kernel
theorem dX9_count_130 : decode cX9_count 130 = .ok (.invokevirtual 81, 3) := by decide +kernel
theorem dX9_count_133 : decode cX9_count 133 = .ok (.ireturn, 1) := by decide +kernel
theorem dX9_told_0 : decode cX9_told 0 = .ok (.iload_n 1, 1) := by decide +kernel
theorem dX9_told_1 : decode cX9_told 1 = .ok (.iconst 1, 1) := by decide +kernel
theorem dX9_told_2 : decode cX9_told 2 = .ok (.if_icmp .lt 8, 3) := by decide +kernel
theorem dX9_told_5 : decode cX9_told 5 = .ok (.iload_n 1, 1) := by decide +kernel
theorem dX9_told_6 : decode cX9_told 6 = .ok (.iconst 5, 1) := by decide +kernel
theorem dX9_told_7 : decode cX9_told 7 = .ok (.if_icmp .le 10, 3) := by decide +kernel
theorem dX9_told_10 : decode cX9_told 10 = .ok (.aload_n 0, 1) := by decide +kernel
theorem dX9_told_11 : decode cX9_told 11 = .ok (.ldc 80, 2) := by decide +kernel
theorem dX9_told_13 : decode cX9_told 13 = .ok (.invokevirtual 81, 3) := by decide +kernel
theorem dX9_told_16 : decode cX9_told 16 = .ok (.ireturn, 1) := by decide +kernel
theorem dX9_told_17 : decode cX9_told 17 = .ok (.aload_n 0, 1) := by decide +kernel
theorem dX9_told_18 : decode cX9_told 18 = .ok (.getfield 72, 3) := by decide +kernel
theorem dX9_told_21 : decode cX9_told 21 = .ok (.iload_n 1, 1) := by decide +kernel
theorem dX9_told_22 : decode cX9_told 22 = .ok (.iaload, 1) := by decide +kernel
theorem dX9_told_23 : decode cX9_told 23 = .ok (.ireturn, 1) := by decide +kernel
theorem dX9_refuse_0 : decode cX9_refuse 0 = .ok (.ldc_w 328, 3) := by decide +kernel
theorem dX9_refuse_3 : decode cX9_refuse 3 = .ok (.iload_n 1, 1) := by decide +kernel
theorem dX9_refuse_4 : decode cX9_refuse 4 = .ok (.isub, 1) := by decide +kernel
theorem dX9_refuse_5 : decode cX9_refuse 5 = .ok (.istore_n 2, 1) := by decide +kernel
theorem dX9_refuse_6 : decode cX9_refuse 6 = .ok (.iload_n 2, 1) := by decide +kernel
theorem dX9_refuse_7 : decode cX9_refuse 7 = .ok (.iconst 1, 1) := by decide +kernel
theorem dX9_refuse_8 : decode cX9_refuse 8 = .ok (.if_icmp .lt 18, 3) := by decide +kernel
theorem dX9_refuse_11 : decode cX9_refuse 11 = .ok (.iload_n 2, 1) := by decide +kernel
theorem dX9_refuse_12 : decode cX9_refuse 12 = .ok (.iconst 5, 1) := by decide +kernel
theorem dX9_refuse_13 : decode cX9_refuse 13 = .ok (.if_icmp .gt 13, 3) := by decide +kernel
theorem dX9_refuse_16 : decode cX9_refuse 16 = .ok (.aload_n 0, 1) := by decide +kernel
theorem dX9_refuse_17 : decode cX9_refuse 17 = .ok (.getfield 72, 3) := by decide +kernel
theorem dX9_refuse_20 : decode cX9_refuse 20 = .ok (.iload_n 2, 1) := by decide +kernel
theorem dX9_refuse_21 : decode cX9_refuse 21 = .ok (.dup2, 1) := by decide +kernel
theorem dX9_refuse_22 : decode cX9_refuse 22 = .ok (.iaload, 1) := by decide +kernel
theorem dX9_refuse_23 : decode cX9_refuse 23 = .ok (.iconst 1, 1) := by decide +kernel
theorem dX9_refuse_24 : decode cX9_refuse 24 = .ok (.iadd, 1) := by decide +kernel
theorem dX9_refuse_25 : decode cX9_refuse 25 = .ok (.iastore, 1) := by decide +kernel
theorem dX9_refuse_26 : decode cX9_refuse 26 = .ok (.iload_n 1, 1) := by decide +kernel
theorem dX9_refuse_27 : decode cX9_refuse 27 = .ok (.ireturn, 1) := by decide +kernel
theorem dX9_seekGiving_0 : decode cX9_seekGiving 0 = .ok (.aload_n 0, 1) := by decide +kernel
theorem dX9_seekGiving_1 : decode cX9_seekGiving 1 = .ok (.getfield 31, 3) := by decide +kernel
theorem dX9_seekGiving_4 : decode cX9_seekGiving 4 = .ok (.iconst (-1), 1) := by decide +kernel
theorem dX9_seekGiving_5 : decode cX9_seekGiving 5 = .ok (.iconst (-1), 1) := by decide +kernel
theorem dX9_seekGiving_6 : decode cX9_seekGiving 6 = .ok (.aload_n 0, 1) := by decide +kernel
theorem dX9_seekGiving_7 : decode cX9_seekGiving 7 = .ok (.getfield 17, 3) := by decide +kernel
theorem dX9_seekGiving_10 : decode cX9_seekGiving 10 = .ok (.invokevirtual 236, 3) := by decide +kernel
theorem dX9_seekGiving_13 : decode cX9_seekGiving 13 = .ok (.invokevirtual 239, 3) := by decide +kernel
theorem dX9_seekGiving_16 : decode cX9_seekGiving 16 = .ok (.ifCond .ne 6, 3) := by decide +kernel
theorem dX9_seekGiving_19 : decode cX9_seekGiving 19 = .ok (.ldc 243, 2) := by decide +kernel
theorem dX9_seekGiving_21 : decode cX9_seekGiving 21 = .ok (.ireturn, 1) := by decide +kernel
theorem dX9_seekGiving_22 : decode cX9_seekGiving 22 = .ok (.aload_n 0, 1) := by decide +kernel
theorem dX9_seekGiving_23 : decode cX9_seekGiving 23 = .ok (.getfield 31, 3) := by decide +kernel
theorem dX9_seekGiving_26 : decode cX9_seekGiving 26 = .ok (.iload_n 1, 1) := by decide +kernel
theorem dX9_seekGiving_27 : decode cX9_seekGiving 27 = .ok (.invokevirtual 329, 3) := by decide +kernel
theorem dX9_seekGiving_30 : decode cX9_seekGiving 30 = .ok (.ifCond .eq 7, 3) := by decide +kernel
theorem dX9_seekGiving_33 : decode cX9_seekGiving 33 = .ok (.iconst 0, 1) := by decide +kernel
theorem dX9_seekGiving_34 : decode cX9_seekGiving 34 = .ok (.goto 5, 3) := by decide +kernel
theorem dX9_seekGiving_37 : decode cX9_seekGiving 37 = .ok (.ldc 177, 2) := by decide +kernel
theorem dX9_seekGiving_39 : decode cX9_seekGiving 39 = .ok (.ireturn, 1) := by decide +kernel
theorem dX9_isSound_0 : decode cX9_isSound 0 = .ok (.iload_n 0, 1) := by decide +kernel
theorem dX9_isSound_1 : decode cX9_isSound 1 = .ok (.ifCond .lt 13, 3) := by decide +kernel
theorem dX9_isSound_4 : decode cX9_isSound 4 = .ok (.iload_n 0, 1) := by decide +kernel
theorem dX9_isSound_5 : decode cX9_isSound 5 = .ok (.bipush 99, 2) := by decide +kernel
theorem dX9_isSound_7 : decode cX9_isSound 7 = .ok (.if_icmp .gt 7, 3) := by decide +kernel
theorem dX9_isSound_10 : decode cX9_isSound 10 = .ok (.iconst 1, 1) := by decide +kernel
theorem dX9_isSound_11 : decode cX9_isSound 11 = .ok (.goto 4, 3) := by decide +kernel
theorem dX9_isSound_14 : decode cX9_isSound 14 = .ok (.iconst 0, 1) := by decide +kernel
theorem dX9_isSound_15 : decode cX9_isSound 15 = .ok (.ireturn, 1) := by decide +kernel
theorem dX9_isLetter_0 : decode cX9_isLetter 0 = .ok (.iload_n 0, 1) := by decide +kernel
theorem dX9_isLetter_1 : decode cX9_isLetter 1 = .ok (.ifCond .lt 13, 3) := by decide +kernel
theorem dX9_isLetter_4 : decode cX9_isLetter 4 = .ok (.iload_n 0, 1) := by decide +kernel
theorem dX9_isLetter_5 : decode cX9_isLetter 5 = .ok (.bipush 26, 2) := by decide +kernel
theorem dX9_isLetter_7 : decode cX9_isLetter 7 = .ok (.if_icmp .ge 7, 3) := by decide +kernel
theorem dX9_isLetter_10 : decode cX9_isLetter 10 = .ok (.iconst 1, 1) := by decide +kernel
theorem dX9_isLetter_11 : decode cX9_isLetter 11 = .ok (.goto 4, 3) := by decide +kernel
theorem dX9_isLetter_14 : decode cX9_isLetter 14 = .ok (.iconst 0, 1) := by decide +kernel
theorem dX9_isLetter_15 : decode cX9_isLetter 15 = .ok (.ireturn, 1) := by decide +kernel
theorem dX9_isBit_0 : decode cX9_isBit 0 = .ok (.iload_n 0, 1) := by decide +kernel
theorem dX9_isBit_1 : decode cX9_isBit 1 = .ok (.ifCond .eq 8, 3) := by decide +kernel
theorem dX9_isBit_4 : decode cX9_isBit 4 = .ok (.iload_n 0, 1) := by decide +kernel
theorem dX9_isBit_5 : decode cX9_isBit 5 = .ok (.iconst 1, 1) := by decide +kernel
theorem dX9_isBit_6 : decode cX9_isBit 6 = .ok (.if_icmp .ne 7, 3) := by decide +kernel
theorem dX9_isBit_9 : decode cX9_isBit 9 = .ok (.iconst 1, 1) := by decide +kernel
theorem dX9_isBit_10 : decode cX9_isBit 10 = .ok (.goto 4, 3) := by decide +kernel
theorem dX9_isBit_13 : decode cX9_isBit 13 = .ok (.iconst 0, 1) := by decide +kernel
theorem dX9_isBit_14 : decode cX9_isBit 14 = .ok (.ireturn, 1) := by decide +kernel
theorem dX9_isKind_0 : decode cX9_isKind 0 = .ok (.iload_n 0, 1) := by decide +kernel
theorem dX9_isKind_1 : decode cX9_isKind 1 = .ok (.ifCond .lt 13, 3) := by decide +kernel
theorem dX9_isKind_4 : decode cX9_isKind 4 = .ok (.iload_n 0, 1) := by decide +kernel
theorem dX9_isKind_5 : decode cX9_isKind 5 = .ok (.bipush 7, 2) := by decide +kernel
theorem dX9_isKind_7 : decode cX9_isKind 7 = .ok (.if_icmp .ge 7, 3) := by decide +kernel
theorem dX9_isKind_10 : decode cX9_isKind 10 = .ok (.iconst 1, 1) := by decide +kernel
theorem dX9_isKind_11 : decode cX9_isKind 11 = .ok (.goto 4, 3) := by decide +kernel
theorem dX9_isKind_14 : decode cX9_isKind 14 = .ok (.iconst 0, 1) := by decide +kernel
theorem dX9_isKind_15 : decode cX9_isKind 15 = .ok (.ireturn, 1) := by decide +kernel
theorem dX9_isUse_0 : decode cX9_isUse 0 = .ok (.iload_n 0, 1) := by decide +kernel
theorem dX9_isUse_1 : decode cX9_isUse 1 = .ok (.ifCond .lt 12, 3) := by decide +kernel
theorem dX9_isUse_4 : decode cX9_isUse 4 = .ok (.iload_n 0, 1) := by decide +kernel
theorem dX9_isUse_5 : decode cX9_isUse 5 = .ok (.iconst 2, 1) := by decide +kernel
theorem dX9_isUse_6 : decode cX9_isUse 6 = .ok (.if_icmp .ge 7, 3) := by decide +kernel
theorem dX9_isUse_9 : decode cX9_isUse 9 = .ok (.iconst 1, 1) := by decide +kernel
theorem dX9_isUse_10 : decode cX9_isUse 10 = .ok (.goto 4, 3) := by decide +kernel
theorem dX9_isUse_13 : decode cX9_isUse 13 = .ok (.iconst 0, 1) := by decide +kernel
theorem dX9_isUse_14 : decode cX9_isUse 14 = .ok (.ireturn, 1) := by decide +kernel
theorem dX9_isUnder_0 : decode cX9_isUnder 0 = .ok (.iload_n 0, 1) := by decide +kernel
theorem dX9_isUnder_1 : decode cX9_isUnder 1 = .ok (.istore_n 2, 1) := by decide +kernel
theorem dX9_isUnder_2 : decode cX9_isUnder 2 = .ok (.iconst 0, 1) := by decide +kernel
theorem dX9_isUnder_3 : decode cX9_isUnder 3 = .ok (.istore_n 3, 1) := by decide +kernel
theorem dX9_isUnder_4 : decode cX9_isUnder 4 = .ok (.iload_n 3, 1) := by decide +kernel
theorem dX9_isUnder_5 : decode cX9_isUnder 5 = .ok (.bipush 7, 2) := by decide +kernel
theorem dX9_isUnder_7 : decode cX9_isUnder 7 = .ok (.if_icmp .ge 27, 3) := by decide +kernel
theorem dX9_isUnder_10 : decode cX9_isUnder 10 = .ok (.iload_n 2, 1) := by decide +kernel
theorem dX9_isUnder_11 : decode cX9_isUnder 11 = .ok (.iload_n 1, 1) := by decide +kernel
theorem dX9_isUnder_12 : decode cX9_isUnder 12 = .ok (.if_icmp .eq 22, 3) := by decide +kernel
theorem dX9_isUnder_15 : decode cX9_isUnder 15 = .ok (.iload_n 2, 1) := by decide +kernel
theorem dX9_isUnder_16 : decode cX9_isUnder 16 = .ok (.invokestatic 132, 3) := by decide +kernel
theorem dX9_isUnder_19 : decode cX9_isUnder 19 = .ok (.ifCond .eq 15, 3) := by decide +kernel
theorem dX9_isUnder_22 : decode cX9_isUnder 22 = .ok (.getstatic 332, 3) := by decide +kernel
theorem dX9_isUnder_25 : decode cX9_isUnder 25 = .ok (.iload_n 2, 1) := by decide +kernel
theorem dX9_isUnder_26 : decode cX9_isUnder 26 = .ok (.iaload, 1) := by decide +kernel
theorem dX9_isUnder_27 : decode cX9_isUnder 27 = .ok (.istore_n 2, 1) := by decide +kernel
theorem dX9_isUnder_28 : decode cX9_isUnder 28 = .ok (.iinc 3 1, 3) := by decide +kernel
theorem dX9_isUnder_31 : decode cX9_isUnder 31 = .ok (.goto (-27), 3) := by decide +kernel
theorem dX9_isUnder_34 : decode cX9_isUnder 34 = .ok (.iload_n 2, 1) := by decide +kernel
theorem dX9_isUnder_35 : decode cX9_isUnder 35 = .ok (.iload_n 1, 1) := by decide +kernel
theorem dX9_isUnder_36 : decode cX9_isUnder 36 = .ok (.if_icmp .ne 7, 3) := by decide +kernel
theorem dX9_isUnder_39 : decode cX9_isUnder 39 = .ok (.iconst 1, 1) := by decide +kernel
theorem dX9_isUnder_40 : decode cX9_isUnder 40 = .ok (.goto 4, 3) := by decide +kernel
theorem dX9_isUnder_43 : decode cX9_isUnder 43 = .ok (.iconst 0, 1) := by decide +kernel
theorem dX9_isUnder_44 : decode cX9_isUnder 44 = .ok (.ireturn, 1) := by decide +kernel
end
section
theorem dX0_init_0 : decode cX0_init 0 = .ok (.aload_n 0, 1) := by decide +kernel
theorem dX0_init_1 : decode cX0_init 1 = .ok (.invokespecial 3, 3) := by decide +kernel
theorem dX0_init_4 : decode cX0_init 4 = .ok (.aload_n 0, 1) := by decide +kernel
theorem dX0_init_5 : decode cX0_init 5 = .ok (.bipush 10, 2) := by decide +kernel
theorem dX0_init_7 : decode cX0_init 7 = .ok (.newarray .int, 2) := by decide +kernel
theorem dX0_init_9 : decode cX0_init 9 = .ok (.putfield 9, 3) := by decide +kernel
theorem dX0_init_12 : decode cX0_init 12 = .ok (.aload_n 0, 1) := by decide +kernel
theorem dX0_init_13 : decode cX0_init 13 = .ok (.bipush 10, 2) := by decide +kernel
theorem dX0_init_15 : decode cX0_init 15 = .ok (.newarray .int, 2) := by decide +kernel
theorem dX0_init_17 : decode cX0_init 17 = .ok (.putfield 15, 3) := by decide +kernel
theorem dX0_init_20 : decode cX0_init 20 = .ok (.aload_n 0, 1) := by decide +kernel
theorem dX0_init_21 : decode cX0_init 21 = .ok (.iconst 4, 1) := by decide +kernel
theorem dX0_init_22 : decode cX0_init 22 = .ok (.newarray .int, 2) := by decide +kernel
theorem dX0_init_24 : decode cX0_init 24 = .ok (.putfield 18, 3) := by decide +kernel
theorem dX0_init_27 : decode cX0_init 27 = .ok (.aload_n 0, 1) := by decide +kernel
theorem dX0_init_28 : decode cX0_init 28 = .ok (.iconst 4, 1) := by decide +kernel
theorem dX0_init_29 : decode cX0_init 29 = .ok (.newarray .int, 2) := by decide +kernel
theorem dX0_init_31 : decode cX0_init 31 = .ok (.putfield 21, 3) := by decide +kernel
theorem dX0_init_34 : decode cX0_init 34 = .ok (.aload_n 0, 1) := by decide +kernel
theorem dX0_init_35 : decode cX0_init 35 = .ok (.bipush 56, 2) := by decide +kernel
theorem dX0_init_37 : decode cX0_init 37 = .ok (.newarray .int, 2) := by decide +kernel
theorem dX0_init_39 : decode cX0_init 39 = .ok (.putfield 24, 3) := by decide +kernel
theorem dX0_init_42 : decode cX0_init 42 = .ok (.aload_n 0, 1) := by decide +kernel
theorem dX0_init_43 : decode cX0_init 43 = .ok (.iconst 5, 1) := by decide +kernel
theorem dX0_init_44 : decode cX0_init 44 = .ok (.newarray .int, 2) := by decide +kernel
theorem dX0_init_46 : decode cX0_init 46 = .ok (.putfield 27, 3) := by decide +kernel
theorem dX0_init_49 : decode cX0_init 49 = .ok (.aload_n 0, 1) := by decide +kernel
theorem dX0_init_50 : decode cX0_init 50 = .ok (.aload_n 1, 1) := by decide +kernel
theorem dX0_init_51 : decode cX0_init 51 = .ok (.putfield 30, 3) := by decide +kernel
theorem dX0_init_54 : decode cX0_init 54 = .ok (.return_, 1) := by decide +kernel
theorem dX0_begin_0 : decode cX0_begin 0 = .ok (.iload_n 3, 1) := by decide +kernel
theorem dX0_begin_1 : decode cX0_begin 1 = .ok (.invokestatic 34, 3) := by decide +kernel
theorem dX0_begin_4 : decode cX0_begin 4 = .ok (.iconst 4, 1) := by decide +kernel
theorem dX0_begin_5 : decode cX0_begin 5 = .ok (.if_icmp .le 5, 3) := by decide +kernel
theorem dX0_begin_8 : decode cX0_begin 8 = .ok (.iconst 0, 1) := by decide +kernel
theorem dX0_begin_9 : decode cX0_begin 9 = .ok (.ireturn, 1) := by decide +kernel
theorem dX0_begin_10 : decode cX0_begin 10 = .ok (.aload_n 0, 1) := by decide +kernel
theorem dX0_begin_11 : decode cX0_begin 11 = .ok (.iconst 0, 1) := by decide +kernel
theorem dX0_begin_12 : decode cX0_begin 12 = .ok (.putfield 40, 3) := by decide +kernel
theorem dX0_begin_15 : decode cX0_begin 15 = .ok (.iconst 0, 1) := by decide +kernel
theorem dX0_begin_16 : decode cX0_begin 16 = .ok (.istore 4, 2) := by decide +kernel
theorem dX0_begin_18 : decode cX0_begin 18 = .ok (.iload 4, 2) := by decide +kernel
theorem dX0_begin_20 : decode cX0_begin 20 = .ok (.aload_n 0, 1) := by decide +kernel
theorem dX0_begin_21 : decode cX0_begin 21 = .ok (.getfield 30, 3) := by decide +kernel
theorem dX0_begin_24 : decode cX0_begin 24 = .ok (.getfield 44, 3) := by decide +kernel
theorem dX0_begin_27 : decode cX0_begin 27 = .ok (.if_icmp .ge 82, 3) := by decide +kernel
theorem dX0_begin_30 : decode cX0_begin 30 = .ok (.aload_n 0, 1) := by decide +kernel
theorem dX0_begin_31 : decode cX0_begin 31 = .ok (.getfield 9, 3) := by decide +kernel
theorem dX0_begin_34 : decode cX0_begin 34 = .ok (.iload 4, 2) := by decide +kernel
theorem dX0_begin_36 : decode cX0_begin 36 = .ok (.iload 4, 2) := by decide +kernel
theorem dX0_begin_38 : decode cX0_begin 38 = .ok (.iload_n 1, 1) := by decide +kernel
theorem dX0_begin_39 : decode cX0_begin 39 = .ok (.if_icmp .ne 7, 3) := by decide +kernel
theorem dX0_begin_42 : decode cX0_begin 42 = .ok (.iload_n 2, 1) := by decide +kernel
theorem dX0_begin_43 : decode cX0_begin 43 = .ok (.goto 13, 3) := by decide +kernel
theorem dX0_begin_46 : decode cX0_begin 46 = .ok (.aload_n 0, 1) := by decide +kernel
theorem dX0_begin_47 : decode cX0_begin 47 = .ok (.getfield 30, 3) := by decide +kernel
theorem dX0_begin_50 : decode cX0_begin 50 = .ok (.getfield 49, 3) := by decide +kernel
theorem dX0_begin_53 : decode cX0_begin 53 = .ok (.iload 4, 2) := by decide +kernel
theorem dX0_begin_55 : decode cX0_begin 55 = .ok (.iaload, 1) := by decide +kernel
theorem dX0_begin_56 : decode cX0_begin 56 = .ok (.iastore, 1) := by decide +kernel
theorem dX0_begin_57 : decode cX0_begin 57 = .ok (.iload_n 3, 1) := by decide +kernel
theorem dX0_begin_58 : decode cX0_begin 58 = .ok (.iload 4, 2) := by decide +kernel
theorem dX0_begin_60 : decode cX0_begin 60 = .ok (.ishr, 1) := by decide +kernel
theorem dX0_begin_61 : decode cX0_begin 61 = .ok (.iconst 1, 1) := by decide +kernel
theorem dX0_begin_62 : decode cX0_begin 62 = .ok (.iand, 1) := by decide +kernel
theorem dX0_begin_63 : decode cX0_begin 63 = .ok (.ifCond .eq 40, 3) := by decide +kernel
theorem dX0_begin_66 : decode cX0_begin 66 = .ok (.aload_n 0, 1) := by decide +kernel
theorem dX0_begin_67 : decode cX0_begin 67 = .ok (.getfield 40, 3) := by decide +kernel
theorem dX0_begin_70 : decode cX0_begin 70 = .ok (.iconst 4, 1) := by decide +kernel
theorem dX0_begin_71 : decode cX0_begin 71 = .ok (.if_icmp .ge 32, 3) := by decide +kernel
theorem dX0_begin_74 : decode cX0_begin 74 = .ok (.aload_n 0, 1) := by decide +kernel
theorem dX0_begin_75 : decode cX0_begin 75 = .ok (.getfield 9, 3) := by decide +kernel
theorem dX0_begin_78 : decode cX0_begin 78 = .ok (.iload 4, 2) := by decide +kernel
theorem dX0_begin_80 : decode cX0_begin 80 = .ok (.iconst (-1), 1) := by decide +kernel
theorem dX0_begin_81 : decode cX0_begin 81 = .ok (.iastore, 1) := by decide +kernel
theorem dX0_begin_82 : decode cX0_begin 82 = .ok (.aload_n 0, 1) := by decide +kernel
theorem dX0_begin_83 : decode cX0_begin 83 = .ok (.getfield 18, 3) := by decide +kernel
theorem dX0_begin_86 : decode cX0_begin 86 = .ok (.aload_n 0, 1) := by decide +kernel
theorem dX0_begin_87 : decode cX0_begin 87 = .ok (.getfield 40, 3) := by decide +kernel
theorem dX0_begin_90 : decode cX0_begin 90 = .ok (.iload 4, 2) := by decide +kernel
theorem dX0_begin_92 : decode cX0_begin 92 = .ok (.iastore, 1) := by decide +kernel
theorem dX0_begin_93 : decode cX0_begin 93 = .ok (.aload_n 0, 1) := by decide +kernel
theorem dX0_begin_94 : decode cX0_begin 94 = .ok (.dup, 1) := by decide +kernel
theorem dX0_begin_95 : decode cX0_begin 95 = .ok (.getfield 40, 3) := by decide +kernel
theorem dX0_begin_98 : decode cX0_begin 98 = .ok (.iconst 1, 1) := by decide +kernel
theorem dX0_begin_99 : decode cX0_begin 99 = .ok (.iadd, 1) := by decide +kernel
theorem dX0_begin_100 : decode cX0_begin 100 = .ok (.putfield 40, 3) := by decide +kernel
theorem dX0_begin_103 : decode cX0_begin 103 = .ok (.iinc 4 1, 3) := by decide +kernel
theorem dX0_begin_106 : decode cX0_begin 106 = .ok (.goto (-88), 3) := by decide +kernel
theorem dX0_begin_109 : decode cX0_begin 109 = .ok (.aload_n 0, 1) := by decide +kernel
theorem dX0_begin_110 : decode cX0_begin 110 = .ok (.getfield 30, 3) := by decide +kernel
theorem dX0_begin_113 : decode cX0_begin 113 = .ok (.invokevirtual 52, 3) := by decide +kernel
theorem dX0_begin_116 : decode cX0_begin 116 = .ok (.istore 4, 2) := by decide +kernel
theorem dX0_begin_118 : decode cX0_begin 118 = .ok (.iconst 0, 1) := by decide +kernel
theorem dX0_begin_119 : decode cX0_begin 119 = .ok (.istore 5, 2) := by decide +kernel
theorem dX0_begin_121 : decode cX0_begin 121 = .ok (.iload 5, 2) := by decide +kernel
theorem dX0_begin_123 : decode cX0_begin 123 = .ok (.aload_n 0, 1) := by decide +kernel
theorem dX0_begin_124 : decode cX0_begin 124 = .ok (.getfield 40, 3) := by decide +kernel
theorem dX0_begin_127 : decode cX0_begin 127 = .ok (.if_icmp .ge 30, 3) := by decide +kernel
theorem dX0_begin_130 : decode cX0_begin 130 = .ok (.aload_n 0, 1) := by decide +kernel
theorem dX0_begin_131 : decode cX0_begin 131 = .ok (.getfield 21, 3) := by decide +kernel
theorem dX0_begin_134 : decode cX0_begin 134 = .ok (.iload 5, 2) := by decide +kernel
theorem dX0_begin_136 : decode cX0_begin 136 = .ok (.iload 4, 2) := by decide +kernel
theorem dX0_begin_138 : decode cX0_begin 138 = .ok (.aload_n 0, 1) := by decide +kernel
theorem dX0_begin_139 : decode cX0_begin 139 = .ok (.aload_n 0, 1) := by decide +kernel
theorem dX0_begin_140 : decode cX0_begin 140 = .ok (.getfield 18, 3) := by decide +kernel
theorem dX0_begin_143 : decode cX0_begin 143 = .ok (.iload 5, 2) := by decide +kernel
theorem dX0_begin_145 : decode cX0_begin 145 = .ok (.iaload, 1) := by decide +kernel
theorem dX0_begin_146 : decode cX0_begin 146 = .ok (.invokevirtual 56, 3) := by decide +kernel
theorem dX0_begin_149 : decode cX0_begin 149 = .ok (.iand, 1) := by decide +kernel
theorem dX0_begin_150 : decode cX0_begin 150 = .ok (.iastore, 1) := by decide +kernel
theorem dX0_begin_151 : decode cX0_begin 151 = .ok (.iinc 5 1, 3) := by decide +kernel
theorem dX0_begin_154 : decode cX0_begin 154 = .ok (.goto (-33), 3) := by decide +kernel
theorem dX0_begin_157 : decode cX0_begin 157 = .ok (.iconst 1, 1) := by decide +kernel
theorem dX0_begin_158 : decode cX0_begin 158 = .ok (.ireturn, 1) := by decide +kernel
theorem dX0_leftBeside_0 : decode cX0_leftBeside 0 = .ok (.iconst (-1), 1) := by decide +kernel
theorem dX0_leftBeside_1 : decode cX0_leftBeside 1 = .ok (.istore_n 2, 1) := by decide +kernel
theorem dX0_leftBeside_2 : decode cX0_leftBeside 2 = .ok (.iconst 0, 1) := by decide +kernel
theorem dX0_leftBeside_3 : decode cX0_leftBeside 3 = .ok (.istore_n 3, 1) := by decide +kernel
theorem dX0_leftBeside_4 : decode cX0_leftBeside 4 = .ok (.iload_n 3, 1) := by decide +kernel
theorem dX0_leftBeside_5 : decode cX0_leftBeside 5 = .ok (.aload_n 0, 1) := by decide +kernel
theorem dX0_leftBeside_6 : decode cX0_leftBeside 6 = .ok (.getfield 30, 3) := by decide +kernel
theorem dX0_leftBeside_9 : decode cX0_leftBeside 9 = .ok (.getfield 44, 3) := by decide +kernel
theorem dX0_leftBeside_12 : decode cX0_leftBeside 12 = .ok (.if_icmp .ge 51, 3) := by decide +kernel
theorem dX0_leftBeside_15 : decode cX0_leftBeside 15 = .ok (.aload_n 0, 1) := by decide +kernel
theorem dX0_leftBeside_16 : decode cX0_leftBeside 16 = .ok (.getfield 30, 3) := by decide +kernel
theorem dX0_leftBeside_19 : decode cX0_leftBeside 19 = .ok (.getfield 59, 3) := by decide +kernel
theorem dX0_leftBeside_22 : decode cX0_leftBeside 22 = .ok (.iload_n 1, 1) := by decide +kernel
theorem dX0_leftBeside_23 : decode cX0_leftBeside 23 = .ok (.iaload, 1) := by decide +kernel
theorem dX0_leftBeside_24 : decode cX0_leftBeside 24 = .ok (.iload_n 3, 1) := by decide +kernel
theorem dX0_leftBeside_25 : decode cX0_leftBeside 25 = .ok (.ishr, 1) := by decide +kernel
theorem dX0_leftBeside_26 : decode cX0_leftBeside 26 = .ok (.iconst 1, 1) := by decide +kernel
theorem dX0_leftBeside_27 : decode cX0_leftBeside 27 = .ok (.iand, 1) := by decide +kernel
theorem dX0_leftBeside_28 : decode cX0_leftBeside 28 = .ok (.ifCond .eq 29, 3) := by decide +kernel
theorem dX0_leftBeside_31 : decode cX0_leftBeside 31 = .ok (.aload_n 0, 1) := by decide +kernel
theorem dX0_leftBeside_32 : decode cX0_leftBeside 32 = .ok (.getfield 9, 3) := by decide +kernel
theorem dX0_leftBeside_35 : decode cX0_leftBeside 35 = .ok (.iload_n 3, 1) := by decide +kernel
theorem dX0_leftBeside_36 : decode cX0_leftBeside 36 = .ok (.iaload, 1) := by decide +kernel
theorem dX0_leftBeside_37 : decode cX0_leftBeside 37 = .ok (.ifCond .lt 20, 3) := by decide +kernel
theorem dX0_leftBeside_40 : decode cX0_leftBeside 40 = .ok (.iload_n 2, 1) := by decide +kernel
theorem dX0_leftBeside_41 : decode cX0_leftBeside 41 = .ok (.aload_n 0, 1) := by decide +kernel
theorem dX0_leftBeside_42 : decode cX0_leftBeside 42 = .ok (.getfield 30, 3) := by decide +kernel
theorem dX0_leftBeside_45 : decode cX0_leftBeside 45 = .ok (.getfield 62, 3) := by decide +kernel
theorem dX0_leftBeside_48 : decode cX0_leftBeside 48 = .ok (.aload_n 0, 1) := by decide +kernel
theorem dX0_leftBeside_49 : decode cX0_leftBeside 49 = .ok (.getfield 9, 3) := by decide +kernel
theorem dX0_leftBeside_52 : decode cX0_leftBeside 52 = .ok (.iload_n 3, 1) := by decide +kernel
theorem dX0_leftBeside_53 : decode cX0_leftBeside 53 = .ok (.iaload, 1) := by decide +kernel
theorem dX0_leftBeside_54 : decode cX0_leftBeside 54 = .ok (.iaload, 1) := by decide +kernel
theorem dX0_leftBeside_55 : decode cX0_leftBeside 55 = .ok (.iand, 1) := by decide +kernel
theorem dX0_leftBeside_56 : decode cX0_leftBeside 56 = .ok (.istore_n 2, 1) := by decide +kernel
theorem dX0_leftBeside_57 : decode cX0_leftBeside 57 = .ok (.iinc 3 1, 3) := by decide +kernel
theorem dX0_leftBeside_60 : decode cX0_leftBeside 60 = .ok (.goto (-56), 3) := by decide +kernel
theorem dX0_leftBeside_63 : decode cX0_leftBeside 63 = .ok (.iload_n 2, 1) := by decide +kernel
theorem dX0_leftBeside_64 : decode cX0_leftBeside 64 = .ok (.ireturn, 1) := by decide +kernel
theorem dX0_openNow_0 : decode cX0_openNow 0 = .ok (.aload_n 0, 1) := by decide +kernel
theorem dX0_openNow_1 : decode cX0_openNow 1 = .ok (.getfield 21, 3) := by decide +kernel
theorem dX0_openNow_4 : decode cX0_openNow 4 = .ok (.iload_n 1, 1) := by decide +kernel
theorem dX0_openNow_5 : decode cX0_openNow 5 = .ok (.iaload, 1) := by decide +kernel
theorem dX0_openNow_6 : decode cX0_openNow 6 = .ok (.istore_n 2, 1) := by decide +kernel
theorem dX0_openNow_7 : decode cX0_openNow 7 = .ok (.aload_n 0, 1) := by decide +kernel
theorem dX0_openNow_8 : decode cX0_openNow 8 = .ok (.getfield 30, 3) := by decide +kernel
theorem dX0_openNow_11 : decode cX0_openNow 11 = .ok (.getfield 59, 3) := by decide +kernel
theorem dX0_openNow_14 : decode cX0_openNow 14 = .ok (.aload_n 0, 1) := by decide +kernel
theorem dX0_openNow_15 : decode cX0_openNow 15 = .ok (.getfield 18, 3) := by decide +kernel
theorem dX0_openNow_18 : decode cX0_openNow 18 = .ok (.iload_n 1, 1) := by decide +kernel
theorem dX0_openNow_19 : decode cX0_openNow 19 = .ok (.iaload, 1) := by decide +kernel
theorem dX0_openNow_20 : decode cX0_openNow 20 = .ok (.iaload, 1) := by decide +kernel
theorem dX0_openNow_21 : decode cX0_openNow 21 = .ok (.istore_n 3, 1) := by decide +kernel
theorem dX0_openNow_22 : decode cX0_openNow 22 = .ok (.iconst 0, 1) := by decide +kernel
theorem dX0_openNow_23 : decode cX0_openNow 23 = .ok (.istore 4, 2) := by decide +kernel
theorem dX0_openNow_25 : decode cX0_openNow 25 = .ok (.iload 4, 2) := by decide +kernel
theorem dX0_openNow_27 : decode cX0_openNow 27 = .ok (.iload_n 1, 1) := by decide +kernel
theorem dX0_openNow_28 : decode cX0_openNow 28 = .ok (.if_icmp .ge 61, 3) := by decide +kernel
theorem dX0_openNow_31 : decode cX0_openNow 31 = .ok (.iload_n 3, 1) := by decide +kernel
theorem dX0_openNow_32 : decode cX0_openNow 32 = .ok (.aload_n 0, 1) := by decide +kernel
theorem dX0_openNow_33 : decode cX0_openNow 33 = .ok (.getfield 18, 3) := by decide +kernel
theorem dX0_openNow_36 : decode cX0_openNow 36 = .ok (.iload 4, 2) := by decide +kernel
theorem dX0_openNow_38 : decode cX0_openNow 38 = .ok (.iaload, 1) := by decide +kernel
theorem dX0_openNow_39 : decode cX0_openNow 39 = .ok (.ishr, 1) := by decide +kernel
theorem dX0_openNow_40 : decode cX0_openNow 40 = .ok (.iconst 1, 1) := by decide +kernel
theorem dX0_openNow_41 : decode cX0_openNow 41 = .ok (.iand, 1) := by decide +kernel
theorem dX0_openNow_42 : decode cX0_openNow 42 = .ok (.ifCond .eq 41, 3) := by decide +kernel
theorem dX0_openNow_45 : decode cX0_openNow 45 = .ok (.aload_n 0, 1) := by decide +kernel
theorem dX0_openNow_46 : decode cX0_openNow 46 = .ok (.getfield 9, 3) := by decide +kernel
theorem dX0_openNow_49 : decode cX0_openNow 49 = .ok (.aload_n 0, 1) := by decide +kernel
theorem dX0_openNow_50 : decode cX0_openNow 50 = .ok (.getfield 18, 3) := by decide +kernel
theorem dX0_openNow_53 : decode cX0_openNow 53 = .ok (.iload 4, 2) := by decide +kernel
theorem dX0_openNow_55 : decode cX0_openNow 55 = .ok (.iaload, 1) := by decide +kernel
theorem dX0_openNow_56 : decode cX0_openNow 56 = .ok (.iaload, 1) := by decide +kernel
theorem dX0_openNow_57 : decode cX0_openNow 57 = .ok (.ifCond .lt 26, 3) := by decide +kernel
theorem dX0_openNow_60 : decode cX0_openNow 60 = .ok (.iload_n 2, 1) := by decide +kernel
theorem dX0_openNow_61 : decode cX0_openNow 61 = .ok (.aload_n 0, 1) := by decide +kernel
theorem dX0_openNow_62 : decode cX0_openNow 62 = .ok (.getfield 30, 3) := by decide +kernel
theorem dX0_openNow_65 : decode cX0_openNow 65 = .ok (.getfield 62, 3) := by decide +kernel
theorem dX0_openNow_68 : decode cX0_openNow 68 = .ok (.aload_n 0, 1) := by decide +kernel
theorem dX0_openNow_69 : decode cX0_openNow 69 = .ok (.getfield 9, 3) := by decide +kernel
theorem dX0_openNow_72 : decode cX0_openNow 72 = .ok (.aload_n 0, 1) := by decide +kernel
theorem dX0_openNow_73 : decode cX0_openNow 73 = .ok (.getfield 18, 3) := by decide +kernel
theorem dX0_openNow_76 : decode cX0_openNow 76 = .ok (.iload 4, 2) := by decide +kernel
theorem dX0_openNow_78 : decode cX0_openNow 78 = .ok (.iaload, 1) := by decide +kernel
theorem dX0_openNow_79 : decode cX0_openNow 79 = .ok (.iaload, 1) := by decide +kernel
theorem dX0_openNow_80 : decode cX0_openNow 80 = .ok (.iaload, 1) := by decide +kernel
theorem dX0_openNow_81 : decode cX0_openNow 81 = .ok (.iand, 1) := by decide +kernel
theorem dX0_openNow_82 : decode cX0_openNow 82 = .ok (.istore_n 2, 1) := by decide +kernel
theorem dX0_openNow_83 : decode cX0_openNow 83 = .ok (.iinc 4 1, 3) := by decide +kernel
theorem dX0_openNow_86 : decode cX0_openNow 86 = .ok (.goto (-61), 3) := by decide +kernel
theorem dX0_openNow_89 : decode cX0_openNow 89 = .ok (.iload_n 2, 1) := by decide +kernel
theorem dX0_openNow_90 : decode cX0_openNow 90 = .ok (.ireturn, 1) := by decide +kernel
theorem dX0_tally_0 : decode cX0_tally 0 = .ok (.aload_n 0, 1) := by decide +kernel
theorem dX0_tally_1 : decode cX0_tally 1 = .ok (.iconst 0, 1) := by decide +kernel
theorem dX0_tally_2 : decode cX0_tally 2 = .ok (.invokevirtual 65, 3) := by decide +kernel
theorem dX0_tally_5 : decode cX0_tally 5 = .ok (.ireturn, 1) := by decide +kernel
theorem dX0_tallyFrom_0 : decode cX0_tallyFrom 0 = .ok (.iload_n 1, 1) := by decide +kernel
theorem dX0_tallyFrom_1 : decode cX0_tallyFrom 1 = .ok (.aload_n 0, 1) := by decide +kernel
theorem dX0_tallyFrom_2 : decode cX0_tallyFrom 2 = .ok (.getfield 40, 3) := by decide +kernel
theorem dX0_tallyFrom_5 : decode cX0_tallyFrom 5 = .ok (.if_icmp .lt 5, 3) := by decide +kernel
theorem dX0_tallyFrom_8 : decode cX0_tallyFrom 8 = .ok (.iconst 1, 1) := by decide +kernel
theorem dX0_tallyFrom_9 : decode cX0_tallyFrom 9 = .ok (.ireturn, 1) := by decide +kernel
theorem dX0_tallyFrom_10 : decode cX0_tallyFrom 10 = .ok (.aload_n 0, 1) := by decide +kernel
theorem dX0_tallyFrom_11 : decode cX0_tallyFrom 11 = .ok (.iload_n 1, 1) := by decide +kernel
theorem dX0_tallyFrom_12 : decode cX0_tallyFrom 12 = .ok (.invokevirtual 68, 3) := by decide +kernel
theorem dX0_tallyFrom_15 : decode cX0_tallyFrom 15 = .ok (.istore_n 2, 1) := by decide +kernel
theorem dX0_tallyFrom_16 : decode cX0_tallyFrom 16 = .ok (.iload_n 1, 1) := by decide +kernel
theorem dX0_tallyFrom_17 : decode cX0_tallyFrom 17 = .ok (.aload_n 0, 1) := by decide +kernel
theorem dX0_tallyFrom_18 : decode cX0_tallyFrom 18 = .ok (.getfield 40, 3) := by decide +kernel
theorem dX0_tallyFrom_21 : decode cX0_tallyFrom 21 = .ok (.iconst 1, 1) := by decide +kernel
theorem dX0_tallyFrom_22 : decode cX0_tallyFrom 22 = .ok (.isub, 1) := by decide +kernel
theorem dX0_tallyFrom_23 : decode cX0_tallyFrom 23 = .ok (.if_icmp .ne 8, 3) := by decide +kernel
theorem dX0_tallyFrom_26 : decode cX0_tallyFrom 26 = .ok (.iload_n 2, 1) := by decide +kernel
theorem dX0_tallyFrom_27 : decode cX0_tallyFrom 27 = .ok (.invokestatic 34, 3) := by decide +kernel
theorem dX0_tallyFrom_30 : decode cX0_tallyFrom 30 = .ok (.ireturn, 1) := by decide +kernel
theorem dX0_tallyFrom_31 : decode cX0_tallyFrom 31 = .ok (.iconst 0, 1) := by decide +kernel
theorem dX0_tallyFrom_32 : decode cX0_tallyFrom 32 = .ok (.istore_n 3, 1) := by decide +kernel
theorem dX0_tallyFrom_33 : decode cX0_tallyFrom 33 = .ok (.iconst 0, 1) := by decide +kernel
theorem dX0_tallyFrom_34 : decode cX0_tallyFrom 34 = .ok (.istore 4, 2) := by decide +kernel
theorem dX0_tallyFrom_36 : decode cX0_tallyFrom 36 = .ok (.iload 4, 2) := by decide +kernel
theorem dX0_tallyFrom_38 : decode cX0_tallyFrom 38 = .ok (.aload_n 0, 1) := by decide +kernel
theorem dX0_tallyFrom_39 : decode cX0_tallyFrom 39 = .ok (.getfield 30, 3) := by decide +kernel
theorem dX0_tallyFrom_42 : decode cX0_tallyFrom 42 = .ok (.getfield 71, 3) := by decide +kernel
theorem dX0_tallyFrom_45 : decode cX0_tallyFrom 45 = .ok (.if_icmp .ge 41, 3) := by decide +kernel
theorem dX0_tallyFrom_48 : decode cX0_tallyFrom 48 = .ok (.iload_n 2, 1) := by decide +kernel
theorem dX0_tallyFrom_49 : decode cX0_tallyFrom 49 = .ok (.iload 4, 2) := by decide +kernel
theorem dX0_tallyFrom_51 : decode cX0_tallyFrom 51 = .ok (.ishr, 1) := by decide +kernel
theorem dX0_tallyFrom_52 : decode cX0_tallyFrom 52 = .ok (.iconst 1, 1) := by decide +kernel
theorem dX0_tallyFrom_53 : decode cX0_tallyFrom 53 = .ok (.iand, 1) := by decide +kernel
theorem dX0_tallyFrom_54 : decode cX0_tallyFrom 54 = .ok (.ifCond .eq 26, 3) := by decide +kernel
theorem dX0_tallyFrom_57 : decode cX0_tallyFrom 57 = .ok (.aload_n 0, 1) := by decide +kernel
theorem dX0_tallyFrom_58 : decode cX0_tallyFrom 58 = .ok (.getfield 9, 3) := by decide +kernel
theorem dX0_tallyFrom_61 : decode cX0_tallyFrom 61 = .ok (.aload_n 0, 1) := by decide +kernel
theorem dX0_tallyFrom_62 : decode cX0_tallyFrom 62 = .ok (.getfield 18, 3) := by decide +kernel
theorem dX0_tallyFrom_65 : decode cX0_tallyFrom 65 = .ok (.iload_n 1, 1) := by decide +kernel
theorem dX0_tallyFrom_66 : decode cX0_tallyFrom 66 = .ok (.iaload, 1) := by decide +kernel
theorem dX0_tallyFrom_67 : decode cX0_tallyFrom 67 = .ok (.iload 4, 2) := by decide +kernel
theorem dX0_tallyFrom_69 : decode cX0_tallyFrom 69 = .ok (.iastore, 1) := by decide +kernel
theorem dX0_tallyFrom_70 : decode cX0_tallyFrom 70 = .ok (.iload_n 3, 1) := by decide +kernel
theorem dX0_tallyFrom_71 : decode cX0_tallyFrom 71 = .ok (.aload_n 0, 1) := by decide +kernel
theorem dX0_tallyFrom_72 : decode cX0_tallyFrom 72 = .ok (.iload_n 1, 1) := by decide +kernel
theorem dX0_tallyFrom_73 : decode cX0_tallyFrom 73 = .ok (.iconst 1, 1) := by decide +kernel
theorem dX0_tallyFrom_74 : decode cX0_tallyFrom 74 = .ok (.iadd, 1) := by decide +kernel
theorem dX0_tallyFrom_75 : decode cX0_tallyFrom 75 = .ok (.invokevirtual 65, 3) := by decide +kernel
theorem dX0_tallyFrom_78 : decode cX0_tallyFrom 78 = .ok (.iadd, 1) := by decide +kernel
theorem dX0_tallyFrom_79 : decode cX0_tallyFrom 79 = .ok (.istore_n 3, 1) := by decide +kernel
theorem dX0_tallyFrom_80 : decode cX0_tallyFrom 80 = .ok (.iinc 4 1, 3) := by decide +kernel
theorem dX0_tallyFrom_83 : decode cX0_tallyFrom 83 = .ok (.goto (-47), 3) := by decide +kernel
theorem dX0_tallyFrom_86 : decode cX0_tallyFrom 86 = .ok (.iload_n 3, 1) := by decide +kernel
theorem dX0_tallyFrom_87 : decode cX0_tallyFrom 87 = .ok (.ireturn, 1) := by decide +kernel
theorem dX0_seek_0 : decode cX0_seek 0 = .ok (.aload_n 0, 1) := by decide +kernel
theorem dX0_seek_1 : decode cX0_seek 1 = .ok (.iload_n 1, 1) := by decide +kernel
theorem dX0_seek_2 : decode cX0_seek 2 = .ok (.putfield 74, 3) := by decide +kernel
theorem dX0_seek_5 : decode cX0_seek 5 = .ok (.aload_n 0, 1) := by decide +kernel
theorem dX0_seek_6 : decode cX0_seek 6 = .ok (.iconst 0, 1) := by decide +kernel
theorem dX0_seek_7 : decode cX0_seek 7 = .ok (.putfield 77, 3) := by decide +kernel
theorem dX0_seek_10 : decode cX0_seek 10 = .ok (.aload_n 0, 1) := by decide +kernel
theorem dX0_seek_11 : decode cX0_seek 11 = .ok (.getfield 74, 3) := by decide +kernel
theorem dX0_seek_14 : decode cX0_seek 14 = .ok (.iconst 1, 1) := by decide +kernel
theorem dX0_seek_15 : decode cX0_seek 15 = .ok (.if_icmp .ne 7, 3) := by decide +kernel
theorem dX0_seek_18 : decode cX0_seek 18 = .ok (.aload_n 0, 1) := by decide +kernel
theorem dX0_seek_19 : decode cX0_seek 19 = .ok (.invokevirtual 81, 3) := by decide +kernel
theorem dX0_seek_22 : decode cX0_seek 22 = .ok (.aload_n 0, 1) := by decide +kernel
theorem dX0_seek_23 : decode cX0_seek 23 = .ok (.iconst 0, 1) := by decide +kernel
theorem dX0_seek_24 : decode cX0_seek 24 = .ok (.iconst 0, 1) := by decide +kernel
theorem dX0_seek_25 : decode cX0_seek 25 = .ok (.aload_n 0, 1) := by decide +kernel
theorem dX0_seek_26 : decode cX0_seek 26 = .ok (.invokevirtual 84, 3) := by decide +kernel
theorem dX0_seek_29 : decode cX0_seek 29 = .ok (.invokevirtual 87, 3) := by decide +kernel
theorem dX0_seek_32 : decode cX0_seek 32 = .ok (.aload_n 0, 1) := by decide +kernel
theorem dX0_seek_33 : decode cX0_seek 33 = .ok (.getfield 77, 3) := by decide +kernel
theorem dX0_seek_36 : decode cX0_seek 36 = .ok (.ireturn, 1) := by decide +kernel
theorem dX0_score_0 : decode cX0_score 0 = .ok (.aload_n 0, 1) := by decide +kernel
theorem dX0_score_1 : decode cX0_score 1 = .ok (.getfield 91, 3) := by decide +kernel
theorem dX0_score_4 : decode cX0_score 4 = .ok (.ireturn, 1) := by decide +kernel
theorem dX0_nameThen_0 : decode cX0_nameThen 0 = .ok (.aload_n 0, 1) := by decide +kernel
theorem dX0_nameThen_1 : decode cX0_nameThen 1 = .ok (.getfield 15, 3) := by decide +kernel
theorem dX0_nameThen_4 : decode cX0_nameThen 4 = .ok (.iload_n 1, 1) := by decide +kernel
theorem dX0_nameThen_5 : decode cX0_nameThen 5 = .ok (.iaload, 1) := by decide +kernel
theorem dX0_nameThen_6 : decode cX0_nameThen 6 = .ok (.ireturn, 1) := by decide +kernel
theorem dX0_carryOut_0 : decode cX0_carryOut 0 = .ok (.aload_n 0, 1) := by decide +kernel
theorem dX0_carryOut_1 : decode cX0_carryOut 1 = .ok (.getfield 15, 3) := by decide +kernel
theorem dX0_carryOut_4 : decode cX0_carryOut 4 = .ok (.iconst 0, 1) := by decide +kernel
theorem dX0_carryOut_5 : decode cX0_carryOut 5 = .ok (.aload_n 0, 1) := by decide +kernel
theorem dX0_carryOut_6 : decode cX0_carryOut 6 = .ok (.getfield 30, 3) := by decide +kernel
theorem dX0_carryOut_9 : decode cX0_carryOut 9 = .ok (.getfield 49, 3) := by decide +kernel
theorem dX0_carryOut_12 : decode cX0_carryOut 12 = .ok (.iconst 0, 1) := by decide +kernel
theorem dX0_carryOut_13 : decode cX0_carryOut 13 = .ok (.aload_n 0, 1) := by decide +kernel
theorem dX0_carryOut_14 : decode cX0_carryOut 14 = .ok (.getfield 30, 3) := by decide +kernel
theorem dX0_carryOut_17 : decode cX0_carryOut 17 = .ok (.getfield 44, 3) := by decide +kernel
theorem dX0_carryOut_20 : decode cX0_carryOut 20 = .ok (.invokestatic 94, 3) := by decide +kernel
theorem dX0_carryOut_23 : decode cX0_carryOut 23 = .ok (.return_, 1) := by decide +kernel
theorem dX0_lettersHeld_0 : decode cX0_lettersHeld 0 = .ok (.iconst 0, 1) := by decide +kernel
theorem dX0_lettersHeld_1 : decode cX0_lettersHeld 1 = .ok (.istore_n 1, 1) := by decide +kernel
theorem dX0_lettersHeld_2 : decode cX0_lettersHeld 2 = .ok (.iconst 0, 1) := by decide +kernel
theorem dX0_lettersHeld_3 : decode cX0_lettersHeld 3 = .ok (.istore_n 2, 1) := by decide +kernel
theorem dX0_lettersHeld_4 : decode cX0_lettersHeld 4 = .ok (.iload_n 2, 1) := by decide +kernel
theorem dX0_lettersHeld_5 : decode cX0_lettersHeld 5 = .ok (.aload_n 0, 1) := by decide +kernel
theorem dX0_lettersHeld_6 : decode cX0_lettersHeld 6 = .ok (.getfield 30, 3) := by decide +kernel
theorem dX0_lettersHeld_9 : decode cX0_lettersHeld 9 = .ok (.getfield 44, 3) := by decide +kernel
theorem dX0_lettersHeld_12 : decode cX0_lettersHeld 12 = .ok (.if_icmp .ge 35, 3) := by decide +kernel
theorem dX0_lettersHeld_15 : decode cX0_lettersHeld 15 = .ok (.aload_n 0, 1) := by decide +kernel
theorem dX0_lettersHeld_16 : decode cX0_lettersHeld 16 = .ok (.getfield 9, 3) := by decide +kernel
theorem dX0_lettersHeld_19 : decode cX0_lettersHeld 19 = .ok (.iload_n 2, 1) := by decide +kernel
theorem dX0_lettersHeld_20 : decode cX0_lettersHeld 20 = .ok (.iaload, 1) := by decide +kernel
theorem dX0_lettersHeld_21 : decode cX0_lettersHeld 21 = .ok (.ifCond .lt 20, 3) := by decide +kernel
theorem dX0_lettersHeld_24 : decode cX0_lettersHeld 24 = .ok (.iload_n 1, 1) := by decide +kernel
theorem dX0_lettersHeld_25 : decode cX0_lettersHeld 25 = .ok (.aload_n 0, 1) := by decide +kernel
theorem dX0_lettersHeld_26 : decode cX0_lettersHeld 26 = .ok (.getfield 30, 3) := by decide +kernel
theorem dX0_lettersHeld_29 : decode cX0_lettersHeld 29 = .ok (.getfield 100, 3) := by decide +kernel
theorem dX0_lettersHeld_32 : decode cX0_lettersHeld 32 = .ok (.aload_n 0, 1) := by decide +kernel
theorem dX0_lettersHeld_33 : decode cX0_lettersHeld 33 = .ok (.getfield 9, 3) := by decide +kernel
theorem dX0_lettersHeld_36 : decode cX0_lettersHeld 36 = .ok (.iload_n 2, 1) := by decide +kernel
theorem dX0_lettersHeld_37 : decode cX0_lettersHeld 37 = .ok (.iaload, 1) := by decide +kernel
theorem dX0_lettersHeld_38 : decode cX0_lettersHeld 38 = .ok (.iaload, 1) := by decide +kernel
theorem dX0_lettersHeld_39 : decode cX0_lettersHeld 39 = .ok (.ior, 1) := by decide +kernel
theorem dX0_lettersHeld_40 : decode cX0_lettersHeld 40 = .ok (.istore_n 1, 1) := by decide +kernel
theorem dX0_lettersHeld_41 : decode cX0_lettersHeld 41 = .ok (.iinc 2 1, 3) := by decide +kernel
theorem dX0_lettersHeld_44 : decode cX0_lettersHeld 44 = .ok (.goto (-40), 3) := by decide +kernel
theorem dX0_lettersHeld_47 : decode cX0_lettersHeld 47 = .ok (.iload_n 1, 1) := by decide +kernel
theorem dX0_lettersHeld_48 : decode cX0_lettersHeld 48 = .ok (.ireturn, 1) := by decide +kernel
theorem dX0_weigh_0 : decode cX0_weigh 0 = .ok (.aload_n 0, 1) := by decide +kernel
theorem dX0_weigh_1 : decode cX0_weigh 1 = .ok (.getfield 27, 3) := by decide +kernel
theorem dX0_weigh_4 : decode cX0_weigh 4 = .ok (.aload_n 0, 1) := by decide +kernel
theorem dX0_weigh_5 : decode cX0_weigh 5 = .ok (.getfield 40, 3) := by decide +kernel
theorem dX0_weigh_8 : decode cX0_weigh 8 = .ok (.iconst 0, 1) := by decide +kernel
theorem dX0_weigh_9 : decode cX0_weigh 9 = .ok (.iastore, 1) := by decide +kernel
theorem dX0_weigh_10 : decode cX0_weigh 10 = .ok (.aload_n 0, 1) := by decide +kernel
theorem dX0_weigh_11 : decode cX0_weigh 11 = .ok (.getfield 40, 3) := by decide +kernel
theorem dX0_weigh_14 : decode cX0_weigh 14 = .ok (.iconst 1, 1) := by decide +kernel
theorem dX0_weigh_15 : decode cX0_weigh 15 = .ok (.isub, 1) := by decide +kernel
theorem dX0_weigh_16 : decode cX0_weigh 16 = .ok (.istore_n 1, 1) := by decide +kernel
theorem dX0_weigh_17 : decode cX0_weigh 17 = .ok (.iload_n 1, 1) := by decide +kernel
theorem dX0_weigh_18 : decode cX0_weigh 18 = .ok (.ifCond .lt 90, 3) := by decide +kernel
theorem dX0_weigh_21 : decode cX0_weigh 21 = .ok (.iconst 0, 1) := by decide +kernel
theorem dX0_weigh_22 : decode cX0_weigh 22 = .ok (.istore_n 2, 1) := by decide +kernel
theorem dX0_weigh_23 : decode cX0_weigh 23 = .ok (.iload_n 2, 1) := by decide +kernel
theorem dX0_weigh_24 : decode cX0_weigh 24 = .ok (.aload_n 0, 1) := by decide +kernel
theorem dX0_weigh_25 : decode cX0_weigh 25 = .ok (.getfield 30, 3) := by decide +kernel
theorem dX0_weigh_28 : decode cX0_weigh 28 = .ok (.getfield 71, 3) := by decide +kernel
theorem dX0_weigh_31 : decode cX0_weigh 31 = .ok (.if_icmp .ge 51, 3) := by decide +kernel
theorem dX0_weigh_34 : decode cX0_weigh 34 = .ok (.aload_n 0, 1) := by decide +kernel
theorem dX0_weigh_35 : decode cX0_weigh 35 = .ok (.getfield 24, 3) := by decide +kernel
theorem dX0_weigh_38 : decode cX0_weigh 38 = .ok (.iload_n 1, 1) := by decide +kernel
theorem dX0_weigh_39 : decode cX0_weigh 39 = .ok (.bipush 14, 2) := by decide +kernel
theorem dX0_weigh_41 : decode cX0_weigh 41 = .ok (.imul, 1) := by decide +kernel
theorem dX0_weigh_42 : decode cX0_weigh 42 = .ok (.iload_n 2, 1) := by decide +kernel
theorem dX0_weigh_43 : decode cX0_weigh 43 = .ok (.iadd, 1) := by decide +kernel
theorem dX0_weigh_44 : decode cX0_weigh 44 = .ok (.aload_n 0, 1) := by decide +kernel
theorem dX0_weigh_45 : decode cX0_weigh 45 = .ok (.getfield 30, 3) := by decide +kernel
theorem dX0_weigh_48 : decode cX0_weigh 48 = .ok (.aload_n 0, 1) := by decide +kernel
theorem dX0_weigh_49 : decode cX0_weigh 49 = .ok (.getfield 30, 3) := by decide +kernel
theorem dX0_weigh_52 : decode cX0_weigh 52 = .ok (.getfield 103, 3) := by decide +kernel
theorem dX0_weigh_55 : decode cX0_weigh 55 = .ok (.iload_n 2, 1) := by decide +kernel
theorem dX0_weigh_56 : decode cX0_weigh 56 = .ok (.iaload, 1) := by decide +kernel
theorem dX0_weigh_57 : decode cX0_weigh 57 = .ok (.aload_n 0, 1) := by decide +kernel
theorem dX0_weigh_58 : decode cX0_weigh 58 = .ok (.getfield 30, 3) := by decide +kernel
theorem dX0_weigh_61 : decode cX0_weigh 61 = .ok (.getfield 106, 3) := by decide +kernel
theorem dX0_weigh_64 : decode cX0_weigh 64 = .ok (.iload_n 2, 1) := by decide +kernel
theorem dX0_weigh_65 : decode cX0_weigh 65 = .ok (.iaload, 1) := by decide +kernel
theorem dX0_weigh_66 : decode cX0_weigh 66 = .ok (.aload_n 0, 1) := by decide +kernel
theorem dX0_weigh_67 : decode cX0_weigh 67 = .ok (.getfield 18, 3) := by decide +kernel
theorem dX0_weigh_70 : decode cX0_weigh 70 = .ok (.iload_n 1, 1) := by decide +kernel
theorem dX0_weigh_71 : decode cX0_weigh 71 = .ok (.iaload, 1) := by decide +kernel
theorem dX0_weigh_72 : decode cX0_weigh 72 = .ok (.invokevirtual 109, 3) := by decide +kernel
theorem dX0_weigh_75 : decode cX0_weigh 75 = .ok (.iastore, 1) := by decide +kernel
theorem dX0_weigh_76 : decode cX0_weigh 76 = .ok (.iinc 2 1, 3) := by decide +kernel
theorem dX0_weigh_79 : decode cX0_weigh 79 = .ok (.goto (-56), 3) := by decide +kernel
theorem dX0_weigh_82 : decode cX0_weigh 82 = .ok (.aload_n 0, 1) := by decide +kernel
theorem dX0_weigh_83 : decode cX0_weigh 83 = .ok (.getfield 27, 3) := by decide +kernel
theorem dX0_weigh_86 : decode cX0_weigh 86 = .ok (.iload_n 1, 1) := by decide +kernel
theorem dX0_weigh_87 : decode cX0_weigh 87 = .ok (.aload_n 0, 1) := by decide +kernel
theorem dX0_weigh_88 : decode cX0_weigh 88 = .ok (.getfield 27, 3) := by decide +kernel
theorem dX0_weigh_91 : decode cX0_weigh 91 = .ok (.iload_n 1, 1) := by decide +kernel
theorem dX0_weigh_92 : decode cX0_weigh 92 = .ok (.iconst 1, 1) := by decide +kernel
theorem dX0_weigh_93 : decode cX0_weigh 93 = .ok (.iadd, 1) := by decide +kernel
theorem dX0_weigh_94 : decode cX0_weigh 94 = .ok (.iaload, 1) := by decide +kernel
theorem dX0_weigh_95 : decode cX0_weigh 95 = .ok (.aload_n 0, 1) := by decide +kernel
theorem dX0_weigh_96 : decode cX0_weigh 96 = .ok (.iload_n 1, 1) := by decide +kernel
theorem dX0_weigh_97 : decode cX0_weigh 97 = .ok (.invokevirtual 113, 3) := by decide +kernel
theorem dX0_weigh_100 : decode cX0_weigh 100 = .ok (.iadd, 1) := by decide +kernel
theorem dX0_weigh_101 : decode cX0_weigh 101 = .ok (.iastore, 1) := by decide +kernel
theorem dX0_weigh_102 : decode cX0_weigh 102 = .ok (.iinc 1 (-1), 3) := by decide +kernel
theorem dX0_weigh_105 : decode cX0_weigh 105 = .ok (.goto (-88), 3) := by decide +kernel
theorem dX0_weigh_108 : decode cX0_weigh 108 = .ok (.return_, 1) := by decide +kernel
theorem dX0_mostOf_0 : decode cX0_mostOf 0 = .ok (.aload_n 0, 1) := by decide +kernel
theorem dX0_mostOf_1 : decode cX0_mostOf 1 = .ok (.getfield 30, 3) := by decide +kernel
theorem dX0_mostOf_4 : decode cX0_mostOf 4 = .ok (.getfield 116, 3) := by decide +kernel
theorem dX0_mostOf_7 : decode cX0_mostOf 7 = .ok (.aload_n 0, 1) := by decide +kernel
theorem dX0_mostOf_8 : decode cX0_mostOf 8 = .ok (.getfield 18, 3) := by decide +kernel
theorem dX0_mostOf_11 : decode cX0_mostOf 11 = .ok (.iload_n 1, 1) := by decide +kernel
theorem dX0_mostOf_12 : decode cX0_mostOf 12 = .ok (.iaload, 1) := by decide +kernel
theorem dX0_mostOf_13 : decode cX0_mostOf 13 = .ok (.iaload, 1) := by decide +kernel
theorem dX0_mostOf_14 : decode cX0_mostOf 14 = .ok (.istore_n 2, 1) := by decide +kernel
theorem dX0_mostOf_15 : decode cX0_mostOf 15 = .ok (.iload_n 2, 1) := by decide +kernel
theorem dX0_mostOf_16 : decode cX0_mostOf 16 = .ok (.ifCond .lt 17, 3) := by decide +kernel
theorem dX0_mostOf_19 : decode cX0_mostOf 19 = .ok (.aload_n 0, 1) := by decide +kernel
theorem dX0_mostOf_20 : decode cX0_mostOf 20 = .ok (.getfield 9, 3) := by decide +kernel
theorem dX0_mostOf_23 : decode cX0_mostOf 23 = .ok (.iload_n 2, 1) := by decide +kernel
theorem dX0_mostOf_24 : decode cX0_mostOf 24 = .ok (.iaload, 1) := by decide +kernel
theorem dX0_mostOf_25 : decode cX0_mostOf 25 = .ok (.ifCond .ge 8, 3) := by decide +kernel
theorem dX0_mostOf_28 : decode cX0_mostOf 28 = .ok (.ldc 119, 2) := by decide +kernel
theorem dX0_mostOf_30 : decode cX0_mostOf 30 = .ok (.goto 13, 3) := by decide +kernel
theorem dX0_mostOf_33 : decode cX0_mostOf 33 = .ok (.aload_n 0, 1) := by decide +kernel
theorem dX0_mostOf_34 : decode cX0_mostOf 34 = .ok (.aload_n 0, 1) := by decide +kernel
theorem dX0_mostOf_35 : decode cX0_mostOf 35 = .ok (.getfield 18, 3) := by decide +kernel
theorem dX0_mostOf_38 : decode cX0_mostOf 38 = .ok (.iload_n 1, 1) := by decide +kernel
theorem dX0_mostOf_39 : decode cX0_mostOf 39 = .ok (.iaload, 1) := by decide +kernel
theorem dX0_mostOf_40 : decode cX0_mostOf 40 = .ok (.invokevirtual 120, 3) := by decide +kernel
theorem dX0_mostOf_43 : decode cX0_mostOf 43 = .ok (.istore_n 3, 1) := by decide +kernel
theorem dX0_mostOf_44 : decode cX0_mostOf 44 = .ok (.iconst 0, 1) := by decide +kernel
theorem dX0_mostOf_45 : decode cX0_mostOf 45 = .ok (.istore 4, 2) := by decide +kernel
theorem dX0_mostOf_47 : decode cX0_mostOf 47 = .ok (.iconst 0, 1) := by decide +kernel
theorem dX0_mostOf_48 : decode cX0_mostOf 48 = .ok (.istore 5, 2) := by decide +kernel
theorem dX0_mostOf_50 : decode cX0_mostOf 50 = .ok (.iconst 0, 1) := by decide +kernel
theorem dX0_mostOf_51 : decode cX0_mostOf 51 = .ok (.istore 6, 2) := by decide +kernel
theorem dX0_mostOf_53 : decode cX0_mostOf 53 = .ok (.iload 6, 2) := by decide +kernel
theorem dX0_mostOf_55 : decode cX0_mostOf 55 = .ok (.aload_n 0, 1) := by decide +kernel
theorem dX0_mostOf_56 : decode cX0_mostOf 56 = .ok (.getfield 30, 3) := by decide +kernel
theorem dX0_mostOf_59 : decode cX0_mostOf 59 = .ok (.getfield 71, 3) := by decide +kernel
theorem dX0_mostOf_62 : decode cX0_mostOf 62 = .ok (.if_icmp .ge 55, 3) := by decide +kernel
theorem dX0_mostOf_65 : decode cX0_mostOf 65 = .ok (.aload_n 0, 1) := by decide +kernel
theorem dX0_mostOf_66 : decode cX0_mostOf 66 = .ok (.getfield 21, 3) := by decide +kernel
theorem dX0_mostOf_69 : decode cX0_mostOf 69 = .ok (.iload_n 1, 1) := by decide +kernel
theorem dX0_mostOf_70 : decode cX0_mostOf 70 = .ok (.iaload, 1) := by decide +kernel
theorem dX0_mostOf_71 : decode cX0_mostOf 71 = .ok (.iload 6, 2) := by decide +kernel
theorem dX0_mostOf_73 : decode cX0_mostOf 73 = .ok (.ishr, 1) := by decide +kernel
theorem dX0_mostOf_74 : decode cX0_mostOf 74 = .ok (.iconst 1, 1) := by decide +kernel
theorem dX0_mostOf_75 : decode cX0_mostOf 75 = .ok (.iand, 1) := by decide +kernel
theorem dX0_mostOf_76 : decode cX0_mostOf 76 = .ok (.ifCond .eq 35, 3) := by decide +kernel
theorem dX0_mostOf_79 : decode cX0_mostOf 79 = .ok (.aload_n 0, 1) := by decide +kernel
theorem dX0_mostOf_80 : decode cX0_mostOf 80 = .ok (.iload_n 1, 1) := by decide +kernel
theorem dX0_mostOf_81 : decode cX0_mostOf 81 = .ok (.iload 6, 2) := by decide +kernel
theorem dX0_mostOf_83 : decode cX0_mostOf 83 = .ok (.iload_n 3, 1) := by decide +kernel
theorem dX0_mostOf_84 : decode cX0_mostOf 84 = .ok (.invokevirtual 123, 3) := by decide +kernel
theorem dX0_mostOf_87 : decode cX0_mostOf 87 = .ok (.istore 7, 2) := by decide +kernel
theorem dX0_mostOf_89 : decode cX0_mostOf 89 = .ok (.iload 4, 2) := by decide +kernel
theorem dX0_mostOf_91 : decode cX0_mostOf 91 = .ok (.ifCond .eq 13, 3) := by decide +kernel
theorem dX0_mostOf_94 : decode cX0_mostOf 94 = .ok (.iload 5, 2) := by decide +kernel
theorem dX0_mostOf_96 : decode cX0_mostOf 96 = .ok (.iload 7, 2) := by decide +kernel
theorem dX0_mostOf_98 : decode cX0_mostOf 98 = .ok (.invokestatic 126, 3) := by decide +kernel
theorem dX0_mostOf_101 : decode cX0_mostOf 101 = .ok (.goto 5, 3) := by decide +kernel
theorem dX0_mostOf_104 : decode cX0_mostOf 104 = .ok (.iload 7, 2) := by decide +kernel
theorem dX0_mostOf_106 : decode cX0_mostOf 106 = .ok (.istore 5, 2) := by decide +kernel
theorem dX0_mostOf_108 : decode cX0_mostOf 108 = .ok (.iconst 1, 1) := by decide +kernel
theorem dX0_mostOf_109 : decode cX0_mostOf 109 = .ok (.istore 4, 2) := by decide +kernel
theorem dX0_mostOf_111 : decode cX0_mostOf 111 = .ok (.iinc 6 1, 3) := by decide +kernel
theorem dX0_mostOf_114 : decode cX0_mostOf 114 = .ok (.goto (-61), 3) := by decide +kernel
theorem dX0_mostOf_117 : decode cX0_mostOf 117 = .ok (.iload 5, 2) := by decide +kernel
theorem dX0_mostOf_119 : decode cX0_mostOf 119 = .ok (.ireturn, 1) := by decide +kernel
theorem dX0_lettersOfMother_0 : decode cX0_lettersOfMother 0 = .ok (.aload_n 0, 1) := by decide +kernel
theorem dX0_lettersOfMother_1 : decode cX0_lettersOfMother 1 = .ok (.getfield 30, 3) := by decide +kernel
theorem dX0_lettersOfMother_4 : decode cX0_lettersOfMother 4 = .ok (.getfield 116, 3) := by decide +kernel
theorem dX0_lettersOfMother_7 : decode cX0_lettersOfMother 7 = .ok (.iload_n 1, 1) := by decide +kernel
theorem dX0_lettersOfMother_8 : decode cX0_lettersOfMother 8 = .ok (.iaload, 1) := by decide +kernel
theorem dX0_lettersOfMother_9 : decode cX0_lettersOfMother 9 = .ok (.istore_n 2, 1) := by decide +kernel
theorem dX0_lettersOfMother_10 : decode cX0_lettersOfMother 10 = .ok (.iload_n 2, 1) := by decide +kernel
theorem dX0_lettersOfMother_11 : decode cX0_lettersOfMother 11 = .ok (.ifCond .lt 29, 3) := by decide +kernel
theorem dX0_lettersOfMother_14 : decode cX0_lettersOfMother 14 = .ok (.aload_n 0, 1) := by decide +kernel
theorem dX0_lettersOfMother_15 : decode cX0_lettersOfMother 15 = .ok (.getfield 9, 3) := by decide +kernel
theorem dX0_lettersOfMother_18 : decode cX0_lettersOfMother 18 = .ok (.iload_n 2, 1) := by decide +kernel
theorem dX0_lettersOfMother_19 : decode cX0_lettersOfMother 19 = .ok (.iaload, 1) := by decide +kernel
theorem dX0_lettersOfMother_20 : decode cX0_lettersOfMother 20 = .ok (.ifCond .lt 20, 3) := by decide +kernel
theorem dX0_lettersOfMother_23 : decode cX0_lettersOfMother 23 = .ok (.aload_n 0, 1) := by decide +kernel
theorem dX0_lettersOfMother_24 : decode cX0_lettersOfMother 24 = .ok (.getfield 30, 3) := by decide +kernel
theorem dX0_lettersOfMother_27 : decode cX0_lettersOfMother 27 = .ok (.getfield 100, 3) := by decide +kernel
theorem dX0_lettersOfMother_30 : decode cX0_lettersOfMother 30 = .ok (.aload_n 0, 1) := by decide +kernel
theorem dX0_lettersOfMother_31 : decode cX0_lettersOfMother 31 = .ok (.getfield 9, 3) := by decide +kernel
theorem dX0_lettersOfMother_34 : decode cX0_lettersOfMother 34 = .ok (.iload_n 2, 1) := by decide +kernel
theorem dX0_lettersOfMother_35 : decode cX0_lettersOfMother 35 = .ok (.iaload, 1) := by decide +kernel
theorem dX0_lettersOfMother_36 : decode cX0_lettersOfMother 36 = .ok (.iaload, 1) := by decide +kernel
theorem dX0_lettersOfMother_37 : decode cX0_lettersOfMother 37 = .ok (.goto 4, 3) := by decide +kernel
theorem dX0_lettersOfMother_40 : decode cX0_lettersOfMother 40 = .ok (.iconst 0, 1) := by decide +kernel
theorem dX0_lettersOfMother_41 : decode cX0_lettersOfMother 41 = .ok (.ireturn, 1) := by decide +kernel
theorem dX0_worthOf_0 : decode cX0_worthOf 0 = .ok (.aload_n 0, 1) := by decide +kernel
theorem dX0_worthOf_1 : decode cX0_worthOf 1 = .ok (.getfield 30, 3) := by decide +kernel
theorem dX0_worthOf_4 : decode cX0_worthOf 4 = .ok (.aload_n 0, 1) := by decide +kernel
theorem dX0_worthOf_5 : decode cX0_worthOf 5 = .ok (.getfield 30, 3) := by decide +kernel
theorem dX0_worthOf_8 : decode cX0_worthOf 8 = .ok (.getfield 132, 3) := by decide +kernel
theorem dX0_worthOf_11 : decode cX0_worthOf 11 = .ok (.aload_n 0, 1) := by decide +kernel
theorem dX0_worthOf_12 : decode cX0_worthOf 12 = .ok (.getfield 18, 3) := by decide +kernel
theorem dX0_worthOf_15 : decode cX0_worthOf 15 = .ok (.iload_n 1, 1) := by decide +kernel
theorem dX0_worthOf_16 : decode cX0_worthOf 16 = .ok (.iaload, 1) := by decide +kernel
theorem dX0_worthOf_17 : decode cX0_worthOf 17 = .ok (.iaload, 1) := by decide +kernel
theorem dX0_worthOf_18 : decode cX0_worthOf 18 = .ok (.iload_n 2, 1) := by decide +kernel
theorem dX0_worthOf_19 : decode cX0_worthOf 19 = .ok (.iload_n 3, 1) := by decide +kernel
theorem dX0_worthOf_20 : decode cX0_worthOf 20 = .ok (.iconst 0, 1) := by decide +kernel
theorem dX0_worthOf_21 : decode cX0_worthOf 21 = .ok (.invokevirtual 135, 3) := by decide +kernel
theorem dX0_worthOf_24 : decode cX0_worthOf 24 = .ok (.aload_n 0, 1) := by decide +kernel
theorem dX0_worthOf_25 : decode cX0_worthOf 25 = .ok (.getfield 24, 3) := by decide +kernel
theorem dX0_worthOf_28 : decode cX0_worthOf 28 = .ok (.iload_n 1, 1) := by decide +kernel
theorem dX0_worthOf_29 : decode cX0_worthOf 29 = .ok (.bipush 14, 2) := by decide +kernel
theorem dX0_worthOf_31 : decode cX0_worthOf 31 = .ok (.imul, 1) := by decide +kernel
theorem dX0_worthOf_32 : decode cX0_worthOf 32 = .ok (.iload_n 2, 1) := by decide +kernel
theorem dX0_worthOf_33 : decode cX0_worthOf 33 = .ok (.iadd, 1) := by decide +kernel
theorem dX0_worthOf_34 : decode cX0_worthOf 34 = .ok (.iaload, 1) := by decide +kernel
theorem dX0_worthOf_35 : decode cX0_worthOf 35 = .ok (.iadd, 1) := by decide +kernel
theorem dX0_worthOf_36 : decode cX0_worthOf 36 = .ok (.ireturn, 1) := by decide +kernel
theorem dX0_reach_0 : decode cX0_reach 0 = .ok (.aload_n 0, 1) := by decide +kernel
theorem dX0_reach_1 : decode cX0_reach 1 = .ok (.getfield 74, 3) := by decide +kernel
theorem dX0_reach_4 : decode cX0_reach 4 = .ok (.lookupswitch 43 #[(1, 28), (2, 37)], 28) := by decide +kernel
theorem dX0_reach_32 : decode cX0_reach 32 = .ok (.iload_n 2, 1) := by decide +kernel
theorem dX0_reach_33 : decode cX0_reach 33 = .ok (.aload_n 0, 1) := by decide +kernel
theorem dX0_reach_34 : decode cX0_reach 34 = .ok (.getfield 27, 3) := by decide +kernel
theorem dX0_reach_37 : decode cX0_reach 37 = .ok (.iload_n 1, 1) := by decide +kernel
theorem dX0_reach_38 : decode cX0_reach 38 = .ok (.iaload, 1) := by decide +kernel
theorem dX0_reach_39 : decode cX0_reach 39 = .ok (.iadd, 1) := by decide +kernel
theorem dX0_reach_40 : decode cX0_reach 40 = .ok (.ireturn, 1) := by decide +kernel
theorem dX0_reach_41 : decode cX0_reach 41 = .ok (.iload_n 3, 1) := by decide +kernel
theorem dX0_reach_42 : decode cX0_reach 42 = .ok (.invokestatic 34, 3) := by decide +kernel
theorem dX0_reach_45 : decode cX0_reach 45 = .ok (.ineg, 1) := by decide +kernel
theorem dX0_reach_46 : decode cX0_reach 46 = .ok (.ireturn, 1) := by decide +kernel
theorem dX0_reach_47 : decode cX0_reach 47 = .ok (.iconst 0, 1) := by decide +kernel
theorem dX0_reach_48 : decode cX0_reach 48 = .ok (.ireturn, 1) := by decide +kernel
theorem dX0_search_0 : decode cX0_search 0 = .ok (.aload_n 0, 1) := by decide +kernel
theorem dX0_search_1 : decode cX0_search 1 = .ok (.iload_n 1, 1) := by decide +kernel
theorem dX0_search_2 : decode cX0_search 2 = .ok (.iload_n 2, 1) := by decide +kernel
theorem dX0_search_3 : decode cX0_search 3 = .ok (.iload_n 3, 1) := by decide +kernel
theorem dX0_search_4 : decode cX0_search 4 = .ok (.invokevirtual 139, 3) := by decide +kernel
theorem dX0_search_7 : decode cX0_search 7 = .ok (.istore 4, 2) := by decide +kernel
theorem dX0_search_9 : decode cX0_search 9 = .ok (.aload_n 0, 1) := by decide +kernel
theorem dX0_search_10 : decode cX0_search 10 = .ok (.getfield 77, 3) := by decide +kernel
theorem dX0_search_13 : decode cX0_search 13 = .ok (.ifCond .eq 13, 3) := by decide +kernel
theorem dX0_search_16 : decode cX0_search 16 = .ok (.iload 4, 2) := by decide +kernel
theorem dX0_search_18 : decode cX0_search 18 = .ok (.aload_n 0, 1) := by decide +kernel
theorem dX0_search_19 : decode cX0_search 19 = .ok (.getfield 91, 3) := by decide +kernel
theorem dX0_search_22 : decode cX0_search 22 = .ok (.if_icmp .gt 4, 3) := by decide +kernel
theorem dX0_search_25 : decode cX0_search 25 = .ok (.return_, 1) := by decide +kernel
theorem dX0_search_26 : decode cX0_search 26 = .ok (.iload_n 1, 1) := by decide +kernel
theorem dX0_search_27 : decode cX0_search 27 = .ok (.aload_n 0, 1) := by decide +kernel
theorem dX0_search_28 : decode cX0_search 28 = .ok (.getfield 40, 3) := by decide +kernel
theorem dX0_search_31 : decode cX0_search 31 = .ok (.if_icmp .lt 35, 3) := by decide +kernel
theorem dX0_search_34 : decode cX0_search 34 = .ok (.aload_n 0, 1) := by decide +kernel
theorem dX0_search_35 : decode cX0_search 35 = .ok (.iconst 1, 1) := by decide +kernel
theorem dX0_search_36 : decode cX0_search 36 = .ok (.putfield 77, 3) := by decide +kernel
theorem dX0_search_39 : decode cX0_search 39 = .ok (.aload_n 0, 1) := by decide +kernel
theorem dX0_search_40 : decode cX0_search 40 = .ok (.iload 4, 2) := by decide +kernel
theorem dX0_search_42 : decode cX0_search 42 = .ok (.putfield 91, 3) := by decide +kernel
theorem dX0_search_45 : decode cX0_search 45 = .ok (.aload_n 0, 1) := by decide +kernel
theorem dX0_search_46 : decode cX0_search 46 = .ok (.getfield 9, 3) := by decide +kernel
theorem dX0_search_49 : decode cX0_search 49 = .ok (.iconst 0, 1) := by decide +kernel
theorem dX0_search_50 : decode cX0_search 50 = .ok (.aload_n 0, 1) := by decide +kernel
theorem dX0_search_51 : decode cX0_search 51 = .ok (.getfield 15, 3) := by decide +kernel
theorem dX0_search_54 : decode cX0_search 54 = .ok (.iconst 0, 1) := by decide +kernel
theorem dX0_search_55 : decode cX0_search 55 = .ok (.aload_n 0, 1) := by decide +kernel
theorem dX0_search_56 : decode cX0_search 56 = .ok (.getfield 30, 3) := by decide +kernel
theorem dX0_search_59 : decode cX0_search 59 = .ok (.getfield 44, 3) := by decide +kernel
theorem dX0_search_62 : decode cX0_search 62 = .ok (.invokestatic 94, 3) := by decide +kernel
theorem dX0_search_65 : decode cX0_search 65 = .ok (.return_, 1) := by decide +kernel
theorem dX0_search_66 : decode cX0_search 66 = .ok (.aload_n 0, 1) := by decide +kernel
theorem dX0_search_67 : decode cX0_search 67 = .ok (.getfield 18, 3) := by decide +kernel
theorem dX0_search_70 : decode cX0_search 70 = .ok (.iload_n 1, 1) := by decide +kernel
theorem dX0_search_71 : decode cX0_search 71 = .ok (.iaload, 1) := by decide +kernel
theorem dX0_search_72 : decode cX0_search 72 = .ok (.istore 5, 2) := by decide +kernel
theorem dX0_search_74 : decode cX0_search 74 = .ok (.aload_n 0, 1) := by decide +kernel
theorem dX0_search_75 : decode cX0_search 75 = .ok (.iload_n 1, 1) := by decide +kernel
theorem dX0_search_76 : decode cX0_search 76 = .ok (.invokevirtual 68, 3) := by decide +kernel
theorem dX0_search_79 : decode cX0_search 79 = .ok (.istore 6, 2) := by decide +kernel
theorem dX0_search_81 : decode cX0_search 81 = .ok (.aload_n 0, 1) := by decide +kernel
theorem dX0_search_82 : decode cX0_search 82 = .ok (.iload 5, 2) := by decide +kernel
theorem dX0_search_84 : decode cX0_search 84 = .ok (.invokevirtual 120, 3) := by decide +kernel
theorem dX0_search_87 : decode cX0_search 87 = .ok (.istore 7, 2) := by decide +kernel
theorem dX0_search_89 : decode cX0_search 89 = .ok (.iconst 0, 1) := by decide +kernel
theorem dX0_search_90 : decode cX0_search 90 = .ok (.istore 8, 2) := by decide +kernel
theorem dX0_search_92 : decode cX0_search 92 = .ok (.iload 8, 2) := by decide +kernel
theorem dX0_search_94 : decode cX0_search 94 = .ok (.aload_n 0, 1) := by decide +kernel
theorem dX0_search_95 : decode cX0_search 95 = .ok (.getfield 30, 3) := by decide +kernel
theorem dX0_search_98 : decode cX0_search 98 = .ok (.getfield 71, 3) := by decide +kernel
theorem dX0_search_101 : decode cX0_search 101 = .ok (.if_icmp .ge 74, 3) := by decide +kernel
theorem dX0_search_104 : decode cX0_search 104 = .ok (.iload 6, 2) := by decide +kernel
theorem dX0_search_106 : decode cX0_search 106 = .ok (.iload 8, 2) := by decide +kernel
theorem dX0_search_108 : decode cX0_search 108 = .ok (.ishr, 1) := by decide +kernel
theorem dX0_search_109 : decode cX0_search 109 = .ok (.iconst 1, 1) := by decide +kernel
theorem dX0_search_110 : decode cX0_search 110 = .ok (.iand, 1) := by decide +kernel
theorem dX0_search_111 : decode cX0_search 111 = .ok (.ifCond .eq 58, 3) := by decide +kernel
theorem dX0_search_114 : decode cX0_search 114 = .ok (.aload_n 0, 1) := by decide +kernel
theorem dX0_search_115 : decode cX0_search 115 = .ok (.getfield 9, 3) := by decide +kernel
theorem dX0_search_118 : decode cX0_search 118 = .ok (.iload 5, 2) := by decide +kernel
theorem dX0_search_120 : decode cX0_search 120 = .ok (.iload 8, 2) := by decide +kernel
theorem dX0_search_122 : decode cX0_search 122 = .ok (.iastore, 1) := by decide +kernel
theorem dX0_search_123 : decode cX0_search 123 = .ok (.aload_n 0, 1) := by decide +kernel
theorem dX0_search_124 : decode cX0_search 124 = .ok (.getfield 74, 3) := by decide +kernel
theorem dX0_search_127 : decode cX0_search 127 = .ok (.iconst 1, 1) := by decide +kernel
theorem dX0_search_128 : decode cX0_search 128 = .ok (.if_icmp .ne 15, 3) := by decide +kernel
theorem dX0_search_131 : decode cX0_search 131 = .ok (.aload_n 0, 1) := by decide +kernel
theorem dX0_search_132 : decode cX0_search 132 = .ok (.iload_n 1, 1) := by decide +kernel
theorem dX0_search_133 : decode cX0_search 133 = .ok (.iload 8, 2) := by decide +kernel
theorem dX0_search_135 : decode cX0_search 135 = .ok (.iload 7, 2) := by decide +kernel
theorem dX0_search_137 : decode cX0_search 137 = .ok (.invokevirtual 123, 3) := by decide +kernel
theorem dX0_search_140 : decode cX0_search 140 = .ok (.goto 4, 3) := by decide +kernel
theorem dX0_search_143 : decode cX0_search 143 = .ok (.iconst 0, 1) := by decide +kernel
theorem dX0_search_144 : decode cX0_search 144 = .ok (.istore 9, 2) := by decide +kernel
theorem dX0_search_146 : decode cX0_search 146 = .ok (.aload_n 0, 1) := by decide +kernel
theorem dX0_search_147 : decode cX0_search 147 = .ok (.iload_n 1, 1) := by decide +kernel
theorem dX0_search_148 : decode cX0_search 148 = .ok (.iconst 1, 1) := by decide +kernel
theorem dX0_search_149 : decode cX0_search 149 = .ok (.iadd, 1) := by decide +kernel
theorem dX0_search_150 : decode cX0_search 150 = .ok (.iload_n 2, 1) := by decide +kernel
theorem dX0_search_151 : decode cX0_search 151 = .ok (.iload 9, 2) := by decide +kernel
theorem dX0_search_153 : decode cX0_search 153 = .ok (.iadd, 1) := by decide +kernel
theorem dX0_search_154 : decode cX0_search 154 = .ok (.iload_n 3, 1) := by decide +kernel
theorem dX0_search_155 : decode cX0_search 155 = .ok (.aload_n 0, 1) := by decide +kernel
theorem dX0_search_156 : decode cX0_search 156 = .ok (.getfield 30, 3) := by decide +kernel
theorem dX0_search_159 : decode cX0_search 159 = .ok (.getfield 100, 3) := by decide +kernel
theorem dX0_search_162 : decode cX0_search 162 = .ok (.iload 8, 2) := by decide +kernel
theorem dX0_search_164 : decode cX0_search 164 = .ok (.iaload, 1) := by decide +kernel
theorem dX0_search_165 : decode cX0_search 165 = .ok (.ior, 1) := by decide +kernel
theorem dX0_search_166 : decode cX0_search 166 = .ok (.invokevirtual 87, 3) := by decide +kernel
theorem dX0_search_169 : decode cX0_search 169 = .ok (.iinc 8 1, 3) := by decide +kernel
theorem dX0_search_172 : decode cX0_search 172 = .ok (.goto (-80), 3) := by decide +kernel
theorem dX0_search_175 : decode cX0_search 175 = .ok (.aload_n 0, 1) := by decide +kernel
theorem dX0_search_176 : decode cX0_search 176 = .ok (.getfield 9, 3) := by decide +kernel
theorem dX0_search_179 : decode cX0_search 179 = .ok (.iload 5, 2) := by decide +kernel
theorem dX0_search_181 : decode cX0_search 181 = .ok (.iconst (-1), 1) := by decide +kernel
theorem dX0_search_182 : decode cX0_search 182 = .ok (.iastore, 1) := by decide +kernel
theorem dX0_search_183 : decode cX0_search 183 = .ok (.return_, 1) := by decide +kernel
theorem dX1_init_0 : decode cX1_init 0 = .ok (.aload_n 0, 1) := by decide +kernel
theorem dX1_init_1 : decode cX1_init 1 = .ok (.invokespecial 3, 3) := by decide +kernel
theorem dX1_init_4 : decode cX1_init 4 = .ok (.aload_n 0, 1) := by decide +kernel
theorem dX1_init_5 : decode cX1_init 5 = .ok (.new 9, 3) := by decide +kernel
theorem dX1_init_8 : decode cX1_init 8 = .ok (.dup, 1) := by decide +kernel
theorem dX1_init_9 : decode cX1_init 9 = .ok (.invokespecial 11, 3) := by decide +kernel
theorem dX1_init_12 : decode cX1_init 12 = .ok (.putfield 12, 3) := by decide +kernel
theorem dX1_init_15 : decode cX1_init 15 = .ok (.aload_n 0, 1) := by decide +kernel
theorem dX1_init_16 : decode cX1_init 16 = .ok (.bipush 50, 2) := by decide +kernel
theorem dX1_init_18 : decode cX1_init 18 = .ok (.newarray .byte, 2) := by decide +kernel
theorem dX1_init_20 : decode cX1_init 20 = .ok (.putfield 18, 3) := by decide +kernel
theorem dX1_init_23 : decode cX1_init 23 = .ok (.return_, 1) := by decide +kernel
theorem dX1_read_0 : decode cX1_read 0 = .ok (.aload_n 1, 1) := by decide +kernel
theorem dX1_read_1 : decode cX1_read 1 = .ok (.iconst 0, 1) := by decide +kernel
theorem dX1_read_2 : decode cX1_read 2 = .ok (.aload_n 0, 1) := by decide +kernel
theorem dX1_read_3 : decode cX1_read 3 = .ok (.getfield 18, 3) := by decide +kernel
theorem dX1_read_6 : decode cX1_read 6 = .ok (.iconst 0, 1) := by decide +kernel
theorem dX1_read_7 : decode cX1_read 7 = .ok (.bipush 50, 2) := by decide +kernel
theorem dX1_read_9 : decode cX1_read 9 = .ok (.invokestatic 22, 3) := by decide +kernel
theorem dX1_read_12 : decode cX1_read 12 = .ok (.aload_n 0, 1) := by decide +kernel
theorem dX1_read_13 : decode cX1_read 13 = .ok (.iload_n 2, 1) := by decide +kernel
theorem dX1_read_14 : decode cX1_read 14 = .ok (.putfield 28, 3) := by decide +kernel
theorem dX1_read_17 : decode cX1_read 17 = .ok (.aload_n 0, 1) := by decide +kernel
theorem dX1_read_18 : decode cX1_read 18 = .ok (.iload_n 3, 1) := by decide +kernel
theorem dX1_read_19 : decode cX1_read 19 = .ok (.putfield 32, 3) := by decide +kernel
theorem dX1_read_22 : decode cX1_read 22 = .ok (.aload_n 0, 1) := by decide +kernel
theorem dX1_read_23 : decode cX1_read 23 = .ok (.iconst 0, 1) := by decide +kernel
theorem dX1_read_24 : decode cX1_read 24 = .ok (.putfield 35, 3) := by decide +kernel
theorem dX1_read_27 : decode cX1_read 27 = .ok (.aload_n 0, 1) := by decide +kernel
theorem dX1_read_28 : decode cX1_read 28 = .ok (.getfield 12, 3) := by decide +kernel
theorem dX1_read_31 : decode cX1_read 31 = .ok (.iconst 0, 1) := by decide +kernel
theorem dX1_read_32 : decode cX1_read 32 = .ok (.putfield 38, 3) := by decide +kernel
theorem dX1_read_35 : decode cX1_read 35 = .ok (.aload_n 0, 1) := by decide +kernel
theorem dX1_read_36 : decode cX1_read 36 = .ok (.iconst 0, 1) := by decide +kernel
theorem dX1_read_37 : decode cX1_read 37 = .ok (.iconst 0, 1) := by decide +kernel
theorem dX1_read_38 : decode cX1_read 38 = .ok (.invokevirtual 41, 3) := by decide +kernel
theorem dX1_read_41 : decode cX1_read 41 = .ok (.ifCond .eq 18, 3) := by decide +kernel
theorem dX1_read_44 : decode cX1_read 44 = .ok (.aload_n 0, 1) := by decide +kernel
theorem dX1_read_45 : decode cX1_read 45 = .ok (.getfield 35, 3) := by decide +kernel
theorem dX1_read_48 : decode cX1_read 48 = .ok (.aload_n 0, 1) := by decide +kernel
theorem dX1_read_49 : decode cX1_read 49 = .ok (.getfield 28, 3) := by decide +kernel
theorem dX1_read_52 : decode cX1_read 52 = .ok (.if_icmp .lt 7, 3) := by decide +kernel
theorem dX1_read_55 : decode cX1_read 55 = .ok (.iconst (-1), 1) := by decide +kernel
theorem dX1_read_56 : decode cX1_read 56 = .ok (.goto 7, 3) := by decide +kernel
theorem dX1_read_59 : decode cX1_read 59 = .ok (.aload_n 0, 1) := by decide +kernel
theorem dX1_read_60 : decode cX1_read 60 = .ok (.getfield 35, 3) := by decide +kernel
theorem dX1_read_63 : decode cX1_read 63 = .ok (.ireturn, 1) := by decide +kernel
theorem dX1_sign_0 : decode cX1_sign 0 = .ok (.aload_n 0, 1) := by decide +kernel
theorem dX1_sign_1 : decode cX1_sign 1 = .ok (.getfield 35, 3) := by decide +kernel
theorem dX1_sign_4 : decode cX1_sign 4 = .ok (.ifCond .lt 30, 3) := by decide +kernel
theorem dX1_sign_7 : decode cX1_sign 7 = .ok (.aload_n 0, 1) := by decide +kernel
theorem dX1_sign_8 : decode cX1_sign 8 = .ok (.getfield 35, 3) := by decide +kernel
theorem dX1_sign_11 : decode cX1_sign 11 = .ok (.aload_n 0, 1) := by decide +kernel
theorem dX1_sign_12 : decode cX1_sign 12 = .ok (.getfield 28, 3) := by decide +kernel
theorem dX1_sign_15 : decode cX1_sign 15 = .ok (.if_icmp .ge 19, 3) := by decide +kernel
theorem dX1_sign_18 : decode cX1_sign 18 = .ok (.aload_n 0, 1) := by decide +kernel
theorem dX1_sign_19 : decode cX1_sign 19 = .ok (.getfield 18, 3) := by decide +kernel
theorem dX1_sign_22 : decode cX1_sign 22 = .ok (.aload_n 0, 1) := by decide +kernel
theorem dX1_sign_23 : decode cX1_sign 23 = .ok (.getfield 35, 3) := by decide +kernel
theorem dX1_sign_26 : decode cX1_sign 26 = .ok (.baload, 1) := by decide +kernel
theorem dX1_sign_27 : decode cX1_sign 27 = .ok (.sipush 255, 3) := by decide +kernel
theorem dX1_sign_30 : decode cX1_sign 30 = .ok (.iand, 1) := by decide +kernel
theorem dX1_sign_31 : decode cX1_sign 31 = .ok (.goto 4, 3) := by decide +kernel
theorem dX1_sign_34 : decode cX1_sign 34 = .ok (.iconst (-1), 1) := by decide +kernel
theorem dX1_sign_35 : decode cX1_sign 35 = .ok (.ireturn, 1) := by decide +kernel
theorem dX1_readLevel_0 : decode cX1_readLevel 0 = .ok (.iload_n 1, 1) := by decide +kernel
theorem dX1_readLevel_1 : decode cX1_readLevel 1 = .ok (.iconst 4, 1) := by decide +kernel
theorem dX1_readLevel_2 : decode cX1_readLevel 2 = .ok (.if_icmp .le 9, 3) := by decide +kernel
theorem dX1_readLevel_5 : decode cX1_readLevel 5 = .ok (.aload_n 0, 1) := by decide +kernel
theorem dX1_readLevel_6 : decode cX1_readLevel 6 = .ok (.iload_n 2, 1) := by decide +kernel
theorem dX1_readLevel_7 : decode cX1_readLevel 7 = .ok (.invokevirtual 45, 3) := by decide +kernel
theorem dX1_readLevel_10 : decode cX1_readLevel 10 = .ok (.ireturn, 1) := by decide +kernel
theorem dX1_readLevel_11 : decode cX1_readLevel 11 = .ok (.aload_n 0, 1) := by decide +kernel
theorem dX1_readLevel_12 : decode cX1_readLevel 12 = .ok (.iload_n 1, 1) := by decide +kernel
theorem dX1_readLevel_13 : decode cX1_readLevel 13 = .ok (.iconst 1, 1) := by decide +kernel
theorem dX1_readLevel_14 : decode cX1_readLevel 14 = .ok (.iadd, 1) := by decide +kernel
theorem dX1_readLevel_15 : decode cX1_readLevel 15 = .ok (.iload_n 2, 1) := by decide +kernel
theorem dX1_readLevel_16 : decode cX1_readLevel 16 = .ok (.invokevirtual 41, 3) := by decide +kernel
theorem dX1_readLevel_19 : decode cX1_readLevel 19 = .ok (.ifCond .ne 5, 3) := by decide +kernel
theorem dX1_readLevel_22 : decode cX1_readLevel 22 = .ok (.iconst 0, 1) := by decide +kernel
theorem dX1_readLevel_23 : decode cX1_readLevel 23 = .ok (.ireturn, 1) := by decide +kernel
theorem dX1_readLevel_24 : decode cX1_readLevel 24 = .ok (.iconst 0, 1) := by decide +kernel
theorem dX1_readLevel_25 : decode cX1_readLevel 25 = .ok (.istore_n 3, 1) := by decide +kernel
theorem dX1_readLevel_26 : decode cX1_readLevel 26 = .ok (.iload_n 3, 1) := by decide +kernel
theorem dX1_readLevel_27 : decode cX1_readLevel 27 = .ok (.bipush 50, 2) := by decide +kernel
theorem dX1_readLevel_29 : decode cX1_readLevel 29 = .ok (.if_icmp .ge 66, 3) := by decide +kernel
theorem dX1_readLevel_32 : decode cX1_readLevel 32 = .ok (.aload_n 0, 1) := by decide +kernel
theorem dX1_readLevel_33 : decode cX1_readLevel 33 = .ok (.invokevirtual 49, 3) := by decide +kernel
theorem dX1_readLevel_36 : decode cX1_readLevel 36 = .ok (.invokestatic 53, 3) := by decide +kernel
theorem dX1_readLevel_39 : decode cX1_readLevel 39 = .ok (.iload_n 1, 1) := by decide +kernel
theorem dX1_readLevel_40 : decode cX1_readLevel 40 = .ok (.if_icmp .ne 55, 3) := by decide +kernel
theorem dX1_readLevel_43 : decode cX1_readLevel 43 = .ok (.aload_n 0, 1) := by decide +kernel
theorem dX1_readLevel_44 : decode cX1_readLevel 44 = .ok (.invokevirtual 49, 3) := by decide +kernel
theorem dX1_readLevel_47 : decode cX1_readLevel 47 = .ok (.istore 4, 2) := by decide +kernel
theorem dX1_readLevel_49 : decode cX1_readLevel 49 = .ok (.aload_n 0, 1) := by decide +kernel
theorem dX1_readLevel_50 : decode cX1_readLevel 50 = .ok (.dup, 1) := by decide +kernel
theorem dX1_readLevel_51 : decode cX1_readLevel 51 = .ok (.getfield 35, 3) := by decide +kernel
theorem dX1_readLevel_54 : decode cX1_readLevel 54 = .ok (.iconst 1, 1) := by decide +kernel
theorem dX1_readLevel_55 : decode cX1_readLevel 55 = .ok (.iadd, 1) := by decide +kernel
theorem dX1_readLevel_56 : decode cX1_readLevel 56 = .ok (.putfield 35, 3) := by decide +kernel
theorem dX1_readLevel_59 : decode cX1_readLevel 59 = .ok (.aload_n 0, 1) := by decide +kernel
theorem dX1_readLevel_60 : decode cX1_readLevel 60 = .ok (.iload_n 1, 1) := by decide +kernel
theorem dX1_readLevel_61 : decode cX1_readLevel 61 = .ok (.iconst 1, 1) := by decide +kernel
theorem dX1_readLevel_62 : decode cX1_readLevel 62 = .ok (.iadd, 1) := by decide +kernel
theorem dX1_readLevel_63 : decode cX1_readLevel 63 = .ok (.iload_n 2, 1) := by decide +kernel
theorem dX1_readLevel_64 : decode cX1_readLevel 64 = .ok (.invokevirtual 41, 3) := by decide +kernel
theorem dX1_readLevel_67 : decode cX1_readLevel 67 = .ok (.ifCond .ne 5, 3) := by decide +kernel
theorem dX1_readLevel_70 : decode cX1_readLevel 70 = .ok (.iconst 0, 1) := by decide +kernel
theorem dX1_readLevel_71 : decode cX1_readLevel 71 = .ok (.ireturn, 1) := by decide +kernel
theorem dX1_readLevel_72 : decode cX1_readLevel 72 = .ok (.aload_n 0, 1) := by decide +kernel
theorem dX1_readLevel_73 : decode cX1_readLevel 73 = .ok (.getfield 12, 3) := by decide +kernel
theorem dX1_readLevel_76 : decode cX1_readLevel 76 = .ok (.iload 4, 2) := by decide +kernel
theorem dX1_readLevel_78 : decode cX1_readLevel 78 = .ok (.ineg, 1) := by decide +kernel
theorem dX1_readLevel_79 : decode cX1_readLevel 79 = .ok (.invokevirtual 57, 3) := by decide +kernel
theorem dX1_readLevel_82 : decode cX1_readLevel 82 = .ok (.iload_n 1, 1) := by decide +kernel
theorem dX1_readLevel_83 : decode cX1_readLevel 83 = .ok (.iconst 2, 1) := by decide +kernel
theorem dX1_readLevel_84 : decode cX1_readLevel 84 = .ok (.if_icmp .ne 5, 3) := by decide +kernel
theorem dX1_readLevel_87 : decode cX1_readLevel 87 = .ok (.iconst 1, 1) := by decide +kernel
theorem dX1_readLevel_88 : decode cX1_readLevel 88 = .ok (.ireturn, 1) := by decide +kernel
theorem dX1_readLevel_89 : decode cX1_readLevel 89 = .ok (.iinc 3 1, 3) := by decide +kernel
theorem dX1_readLevel_92 : decode cX1_readLevel 92 = .ok (.goto (-66), 3) := by decide +kernel
theorem dX1_readLevel_95 : decode cX1_readLevel 95 = .ok (.iconst 1, 1) := by decide +kernel
theorem dX1_readLevel_96 : decode cX1_readLevel 96 = .ok (.ireturn, 1) := by decide +kernel
theorem dX1_levelOf_0 : decode cX1_levelOf 0 = .ok (.iload_n 0, 1) := by decide +kernel
theorem dX1_levelOf_1 : decode cX1_levelOf 1 = .ok (.lookupswitch 101 #[(37, 99), (38, 93), (42, 99), (43, 97), (45, 97), (47, 99), (60, 95), (61, 95), (62, 95), (124, 91)], 91) := by decide +kernel
theorem dX1_levelOf_92 : decode cX1_levelOf 92 = .ok (.iconst 0, 1) := by decide +kernel
theorem dX1_levelOf_93 : decode cX1_levelOf 93 = .ok (.ireturn, 1) := by decide +kernel
theorem dX1_levelOf_94 : decode cX1_levelOf 94 = .ok (.iconst 1, 1) := by decide +kernel
theorem dX1_levelOf_95 : decode cX1_levelOf 95 = .ok (.ireturn, 1) := by decide +kernel
theorem dX1_levelOf_96 : decode cX1_levelOf 96 = .ok (.iconst 2, 1) := by decide +kernel
theorem dX1_levelOf_97 : decode cX1_levelOf 97 = .ok (.ireturn, 1) := by decide +kernel
theorem dX1_levelOf_98 : decode cX1_levelOf 98 = .ok (.iconst 3, 1) := by decide +kernel
theorem dX1_levelOf_99 : decode cX1_levelOf 99 = .ok (.ireturn, 1) := by decide +kernel
theorem dX1_levelOf_100 : decode cX1_levelOf 100 = .ok (.iconst 4, 1) := by decide +kernel
theorem dX1_levelOf_101 : decode cX1_levelOf 101 = .ok (.ireturn, 1) := by decide +kernel
theorem dX1_levelOf_102 : decode cX1_levelOf 102 = .ok (.iconst (-1), 1) := by decide +kernel
theorem dX1_levelOf_103 : decode cX1_levelOf 103 = .ok (.ireturn, 1) := by decide +kernel
theorem dX1_readPart_0 : decode cX1_readPart 0 = .ok (.aload_n 0, 1) := by decide +kernel
theorem dX1_readPart_1 : decode cX1_readPart 1 = .ok (.invokevirtual 49, 3) := by decide +kernel
theorem dX1_readPart_4 : decode cX1_readPart 4 = .ok (.istore_n 2, 1) := by decide +kernel
theorem dX1_readPart_5 : decode cX1_readPart 5 = .ok (.iload_n 2, 1) := by decide +kernel
theorem dX1_readPart_6 : decode cX1_readPart 6 = .ok (.invokestatic 61, 3) := by decide +kernel
theorem dX1_readPart_9 : decode cX1_readPart 9 = .ok (.ifCond .eq 8, 3) := by decide +kernel
theorem dX1_readPart_12 : decode cX1_readPart 12 = .ok (.aload_n 0, 1) := by decide +kernel
theorem dX1_readPart_13 : decode cX1_readPart 13 = .ok (.invokevirtual 64, 3) := by decide +kernel
theorem dX1_readPart_16 : decode cX1_readPart 16 = .ok (.ireturn, 1) := by decide +kernel
theorem dX1_readPart_17 : decode cX1_readPart 17 = .ok (.aload_n 0, 1) := by decide +kernel
theorem dX1_readPart_18 : decode cX1_readPart 18 = .ok (.iload_n 2, 1) := by decide +kernel
theorem dX1_readPart_19 : decode cX1_readPart 19 = .ok (.invokevirtual 68, 3) := by decide +kernel
theorem dX1_readPart_22 : decode cX1_readPart 22 = .ok (.istore_n 3, 1) := by decide +kernel
theorem dX1_readPart_23 : decode cX1_readPart 23 = .ok (.iload_n 3, 1) := by decide +kernel
theorem dX1_readPart_24 : decode cX1_readPart 24 = .ok (.ifCond .ge 23, 3) := by decide +kernel
theorem dX1_readPart_27 : decode cX1_readPart 27 = .ok (.aload_n 0, 1) := by decide +kernel
theorem dX1_readPart_28 : decode cX1_readPart 28 = .ok (.dup, 1) := by decide +kernel
theorem dX1_readPart_29 : decode cX1_readPart 29 = .ok (.getfield 35, 3) := by decide +kernel
theorem dX1_readPart_32 : decode cX1_readPart 32 = .ok (.iconst 1, 1) := by decide +kernel
theorem dX1_readPart_33 : decode cX1_readPart 33 = .ok (.iadd, 1) := by decide +kernel
theorem dX1_readPart_34 : decode cX1_readPart 34 = .ok (.putfield 35, 3) := by decide +kernel
theorem dX1_readPart_37 : decode cX1_readPart 37 = .ok (.aload_n 0, 1) := by decide +kernel
theorem dX1_readPart_38 : decode cX1_readPart 38 = .ok (.getfield 12, 3) := by decide +kernel
theorem dX1_readPart_41 : decode cX1_readPart 41 = .ok (.iload_n 3, 1) := by decide +kernel
theorem dX1_readPart_42 : decode cX1_readPart 42 = .ok (.invokevirtual 57, 3) := by decide +kernel
theorem dX1_readPart_45 : decode cX1_readPart 45 = .ok (.iconst 1, 1) := by decide +kernel
theorem dX1_readPart_46 : decode cX1_readPart 46 = .ok (.ireturn, 1) := by decide +kernel
theorem dX1_readPart_47 : decode cX1_readPart 47 = .ok (.iload_n 1, 1) := by decide +kernel
theorem dX1_readPart_48 : decode cX1_readPart 48 = .ok (.iconst 5, 1) := by decide +kernel
theorem dX1_readPart_49 : decode cX1_readPart 49 = .ok (.if_icmp .ge 15, 3) := by decide +kernel
theorem dX1_readPart_52 : decode cX1_readPart 52 = .ok (.iload_n 2, 1) := by decide +kernel
theorem dX1_readPart_53 : decode cX1_readPart 53 = .ok (.bipush 33, 2) := by decide +kernel
theorem dX1_readPart_55 : decode cX1_readPart 55 = .ok (.if_icmp .eq 11, 3) := by decide +kernel
theorem dX1_readPart_58 : decode cX1_readPart 58 = .ok (.iload_n 2, 1) := by decide +kernel
theorem dX1_readPart_59 : decode cX1_readPart 59 = .ok (.bipush 40, 2) := by decide +kernel
theorem dX1_readPart_61 : decode cX1_readPart 61 = .ok (.if_icmp .eq 5, 3) := by decide +kernel
theorem dX1_readPart_64 : decode cX1_readPart 64 = .ok (.iconst 0, 1) := by decide +kernel
theorem dX1_readPart_65 : decode cX1_readPart 65 = .ok (.ireturn, 1) := by decide +kernel
theorem dX1_readPart_66 : decode cX1_readPart 66 = .ok (.aload_n 0, 1) := by decide +kernel
theorem dX1_readPart_67 : decode cX1_readPart 67 = .ok (.dup, 1) := by decide +kernel
theorem dX1_readPart_68 : decode cX1_readPart 68 = .ok (.getfield 35, 3) := by decide +kernel
theorem dX1_readPart_71 : decode cX1_readPart 71 = .ok (.iconst 1, 1) := by decide +kernel
theorem dX1_readPart_72 : decode cX1_readPart 72 = .ok (.iadd, 1) := by decide +kernel
theorem dX1_readPart_73 : decode cX1_readPart 73 = .ok (.putfield 35, 3) := by decide +kernel
theorem dX1_readPart_76 : decode cX1_readPart 76 = .ok (.iload_n 2, 1) := by decide +kernel
theorem dX1_readPart_77 : decode cX1_readPart 77 = .ok (.bipush 33, 2) := by decide +kernel
theorem dX1_readPart_79 : decode cX1_readPart 79 = .ok (.if_icmp .ne 13, 3) := by decide +kernel
theorem dX1_readPart_82 : decode cX1_readPart 82 = .ok (.aload_n 0, 1) := by decide +kernel
theorem dX1_readPart_83 : decode cX1_readPart 83 = .ok (.iload_n 1, 1) := by decide +kernel
theorem dX1_readPart_84 : decode cX1_readPart 84 = .ok (.iconst 1, 1) := by decide +kernel
theorem dX1_readPart_85 : decode cX1_readPart 85 = .ok (.iadd, 1) := by decide +kernel
theorem dX1_readPart_86 : decode cX1_readPart 86 = .ok (.invokevirtual 71, 3) := by decide +kernel
theorem dX1_readPart_89 : decode cX1_readPart 89 = .ok (.goto 10, 3) := by decide +kernel
theorem dX1_readPart_92 : decode cX1_readPart 92 = .ok (.aload_n 0, 1) := by decide +kernel
theorem dX1_readPart_93 : decode cX1_readPart 93 = .ok (.iload_n 1, 1) := by decide +kernel
theorem dX1_readPart_94 : decode cX1_readPart 94 = .ok (.iconst 1, 1) := by decide +kernel
theorem dX1_readPart_95 : decode cX1_readPart 95 = .ok (.iadd, 1) := by decide +kernel
theorem dX1_readPart_96 : decode cX1_readPart 96 = .ok (.invokevirtual 74, 3) := by decide +kernel
theorem dX1_readPart_99 : decode cX1_readPart 99 = .ok (.ireturn, 1) := by decide +kernel
theorem dX1_readDenied_0 : decode cX1_readDenied 0 = .ok (.aload_n 0, 1) := by decide +kernel
theorem dX1_readDenied_1 : decode cX1_readDenied 1 = .ok (.iload_n 1, 1) := by decide +kernel
theorem dX1_readDenied_2 : decode cX1_readDenied 2 = .ok (.invokevirtual 45, 3) := by decide +kernel
theorem dX1_readDenied_5 : decode cX1_readDenied 5 = .ok (.ifCond .ne 5, 3) := by decide +kernel
theorem dX1_readDenied_8 : decode cX1_readDenied 8 = .ok (.iconst 0, 1) := by decide +kernel
theorem dX1_readDenied_9 : decode cX1_readDenied 9 = .ok (.ireturn, 1) := by decide +kernel
theorem dX1_readDenied_10 : decode cX1_readDenied 10 = .ok (.aload_n 0, 1) := by decide +kernel
theorem dX1_readDenied_11 : decode cX1_readDenied 11 = .ok (.getfield 12, 3) := by decide +kernel
theorem dX1_readDenied_14 : decode cX1_readDenied 14 = .ok (.bipush (-33), 2) := by decide +kernel
theorem dX1_readDenied_16 : decode cX1_readDenied 16 = .ok (.invokevirtual 57, 3) := by decide +kernel
theorem dX1_readDenied_19 : decode cX1_readDenied 19 = .ok (.iconst 1, 1) := by decide +kernel
theorem dX1_readDenied_20 : decode cX1_readDenied 20 = .ok (.ireturn, 1) := by decide +kernel
theorem dX1_readEnclosed_0 : decode cX1_readEnclosed 0 = .ok (.aload_n 0, 1) := by decide +kernel
theorem dX1_readEnclosed_1 : decode cX1_readEnclosed 1 = .ok (.iconst 0, 1) := by decide +kernel
theorem dX1_readEnclosed_2 : decode cX1_readEnclosed 2 = .ok (.iload_n 1, 1) := by decide +kernel
theorem dX1_readEnclosed_3 : decode cX1_readEnclosed 3 = .ok (.invokevirtual 41, 3) := by decide +kernel
theorem dX1_readEnclosed_6 : decode cX1_readEnclosed 6 = .ok (.ifCond .eq 12, 3) := by decide +kernel
theorem dX1_readEnclosed_9 : decode cX1_readEnclosed 9 = .ok (.aload_n 0, 1) := by decide +kernel
theorem dX1_readEnclosed_10 : decode cX1_readEnclosed 10 = .ok (.invokevirtual 49, 3) := by decide +kernel
theorem dX1_readEnclosed_13 : decode cX1_readEnclosed 13 = .ok (.bipush 41, 2) := by decide +kernel
theorem dX1_readEnclosed_15 : decode cX1_readEnclosed 15 = .ok (.if_icmp .eq 5, 3) := by decide +kernel
theorem dX1_readEnclosed_18 : decode cX1_readEnclosed 18 = .ok (.iconst 0, 1) := by decide +kernel
theorem dX1_readEnclosed_19 : decode cX1_readEnclosed 19 = .ok (.ireturn, 1) := by decide +kernel
theorem dX1_readEnclosed_20 : decode cX1_readEnclosed 20 = .ok (.aload_n 0, 1) := by decide +kernel
theorem dX1_readEnclosed_21 : decode cX1_readEnclosed 21 = .ok (.dup, 1) := by decide +kernel
theorem dX1_readEnclosed_22 : decode cX1_readEnclosed 22 = .ok (.getfield 35, 3) := by decide +kernel
theorem dX1_readEnclosed_25 : decode cX1_readEnclosed 25 = .ok (.iconst 1, 1) := by decide +kernel
theorem dX1_readEnclosed_26 : decode cX1_readEnclosed 26 = .ok (.iadd, 1) := by decide +kernel
theorem dX1_readEnclosed_27 : decode cX1_readEnclosed 27 = .ok (.putfield 35, 3) := by decide +kernel
theorem dX1_readEnclosed_30 : decode cX1_readEnclosed 30 = .ok (.iconst 1, 1) := by decide +kernel
theorem dX1_readEnclosed_31 : decode cX1_readEnclosed 31 = .ok (.ireturn, 1) := by decide +kernel
theorem dX1_readNumber_0 : decode cX1_readNumber 0 = .ok (.iconst 0, 1) := by decide +kernel
theorem dX1_readNumber_1 : decode cX1_readNumber 1 = .ok (.istore_n 1, 1) := by decide +kernel
theorem dX1_readNumber_2 : decode cX1_readNumber 2 = .ok (.iconst 0, 1) := by decide +kernel
theorem dX1_readNumber_3 : decode cX1_readNumber 3 = .ok (.istore_n 2, 1) := by decide +kernel
theorem dX1_readNumber_4 : decode cX1_readNumber 4 = .ok (.iload_n 2, 1) := by decide +kernel
theorem dX1_readNumber_5 : decode cX1_readNumber 5 = .ok (.iconst 4, 1) := by decide +kernel
theorem dX1_readNumber_6 : decode cX1_readNumber 6 = .ok (.if_icmp .ge 42, 3) := by decide +kernel
theorem dX1_readNumber_9 : decode cX1_readNumber 9 = .ok (.aload_n 0, 1) := by decide +kernel
theorem dX1_readNumber_10 : decode cX1_readNumber 10 = .ok (.invokevirtual 49, 3) := by decide +kernel
theorem dX1_readNumber_13 : decode cX1_readNumber 13 = .ok (.invokestatic 61, 3) := by decide +kernel
theorem dX1_readNumber_16 : decode cX1_readNumber 16 = .ok (.ifCond .eq 32, 3) := by decide +kernel
theorem dX1_readNumber_19 : decode cX1_readNumber 19 = .ok (.iload_n 1, 1) := by decide +kernel
theorem dX1_readNumber_20 : decode cX1_readNumber 20 = .ok (.bipush 10, 2) := by decide +kernel
theorem dX1_readNumber_22 : decode cX1_readNumber 22 = .ok (.imul, 1) := by decide +kernel
theorem dX1_readNumber_23 : decode cX1_readNumber 23 = .ok (.aload_n 0, 1) := by decide +kernel
theorem dX1_readNumber_24 : decode cX1_readNumber 24 = .ok (.invokevirtual 49, 3) := by decide +kernel
theorem dX1_readNumber_27 : decode cX1_readNumber 27 = .ok (.iadd, 1) := by decide +kernel
theorem dX1_readNumber_28 : decode cX1_readNumber 28 = .ok (.bipush 48, 2) := by decide +kernel
theorem dX1_readNumber_30 : decode cX1_readNumber 30 = .ok (.isub, 1) := by decide +kernel
theorem dX1_readNumber_31 : decode cX1_readNumber 31 = .ok (.istore_n 1, 1) := by decide +kernel
theorem dX1_readNumber_32 : decode cX1_readNumber 32 = .ok (.aload_n 0, 1) := by decide +kernel
theorem dX1_readNumber_33 : decode cX1_readNumber 33 = .ok (.dup, 1) := by decide +kernel
theorem dX1_readNumber_34 : decode cX1_readNumber 34 = .ok (.getfield 35, 3) := by decide +kernel
theorem dX1_readNumber_37 : decode cX1_readNumber 37 = .ok (.iconst 1, 1) := by decide +kernel
theorem dX1_readNumber_38 : decode cX1_readNumber 38 = .ok (.iadd, 1) := by decide +kernel
theorem dX1_readNumber_39 : decode cX1_readNumber 39 = .ok (.putfield 35, 3) := by decide +kernel
theorem dX1_readNumber_42 : decode cX1_readNumber 42 = .ok (.iinc 2 1, 3) := by decide +kernel
theorem dX1_readNumber_45 : decode cX1_readNumber 45 = .ok (.goto (-41), 3) := by decide +kernel
theorem dX1_readNumber_48 : decode cX1_readNumber 48 = .ok (.aload_n 0, 1) := by decide +kernel
theorem dX1_readNumber_49 : decode cX1_readNumber 49 = .ok (.getfield 12, 3) := by decide +kernel
theorem dX1_readNumber_52 : decode cX1_readNumber 52 = .ok (.iload_n 1, 1) := by decide +kernel
theorem dX1_readNumber_53 : decode cX1_readNumber 53 = .ok (.invokevirtual 57, 3) := by decide +kernel
theorem dX1_readNumber_56 : decode cX1_readNumber 56 = .ok (.iconst 1, 1) := by decide +kernel
theorem dX1_readNumber_57 : decode cX1_readNumber 57 = .ok (.ireturn, 1) := by decide +kernel
theorem dX1_isDigit_0 : decode cX1_isDigit 0 = .ok (.iload_n 0, 1) := by decide +kernel
theorem dX1_isDigit_1 : decode cX1_isDigit 1 = .ok (.bipush 48, 2) := by decide +kernel
theorem dX1_isDigit_3 : decode cX1_isDigit 3 = .ok (.if_icmp .lt 13, 3) := by decide +kernel
theorem dX1_isDigit_6 : decode cX1_isDigit 6 = .ok (.iload_n 0, 1) := by decide +kernel
theorem dX1_isDigit_7 : decode cX1_isDigit 7 = .ok (.bipush 57, 2) := by decide +kernel
theorem dX1_isDigit_9 : decode cX1_isDigit 9 = .ok (.if_icmp .gt 7, 3) := by decide +kernel
theorem dX1_isDigit_12 : decode cX1_isDigit 12 = .ok (.iconst 1, 1) := by decide +kernel
theorem dX1_isDigit_13 : decode cX1_isDigit 13 = .ok (.goto 4, 3) := by decide +kernel
theorem dX1_isDigit_16 : decode cX1_isDigit 16 = .ok (.iconst 0, 1) := by decide +kernel
theorem dX1_isDigit_17 : decode cX1_isDigit 17 = .ok (.ireturn, 1) := by decide +kernel
theorem dX1_nameOf_0 : decode cX1_nameOf 0 = .ok (.iload_n 1, 1) := by decide +kernel
theorem dX1_nameOf_1 : decode cX1_nameOf 1 = .ok (.tableswitch 160 105 119 #[102, 160, 160, 130, 160, 160, 160, 75, 88, 160, 116, 160, 160, 160, 145], 75) := by decide +kernel
theorem dX1_nameOf_76 : decode cX1_nameOf 76 = .ok (.aload_n 0, 1) := by decide +kernel
theorem dX1_nameOf_77 : decode cX1_nameOf 77 = .ok (.getfield 32, 3) := by decide +kernel
theorem dX1_nameOf_80 : decode cX1_nameOf 80 = .ok (.ifCond .ne 7, 3) := by decide +kernel
theorem dX1_nameOf_83 : decode cX1_nameOf 83 = .ok (.iconst (-1), 1) := by decide +kernel
theorem dX1_nameOf_84 : decode cX1_nameOf 84 = .ok (.goto 4, 3) := by decide +kernel
theorem dX1_nameOf_87 : decode cX1_nameOf 87 = .ok (.iconst 0, 1) := by decide +kernel
theorem dX1_nameOf_88 : decode cX1_nameOf 88 = .ok (.ireturn, 1) := by decide +kernel
theorem dX1_nameOf_89 : decode cX1_nameOf 89 = .ok (.aload_n 0, 1) := by decide +kernel
theorem dX1_nameOf_90 : decode cX1_nameOf 90 = .ok (.getfield 32, 3) := by decide +kernel
theorem dX1_nameOf_93 : decode cX1_nameOf 93 = .ok (.ifCond .ne 8, 3) := by decide +kernel
theorem dX1_nameOf_96 : decode cX1_nameOf 96 = .ok (.bipush (-2), 2) := by decide +kernel
theorem dX1_nameOf_98 : decode cX1_nameOf 98 = .ok (.goto 4, 3) := by decide +kernel
theorem dX1_nameOf_101 : decode cX1_nameOf 101 = .ok (.iconst 0, 1) := by decide +kernel
theorem dX1_nameOf_102 : decode cX1_nameOf 102 = .ok (.ireturn, 1) := by decide +kernel
theorem dX1_nameOf_103 : decode cX1_nameOf 103 = .ok (.aload_n 0, 1) := by decide +kernel
theorem dX1_nameOf_104 : decode cX1_nameOf 104 = .ok (.getfield 32, 3) := by decide +kernel
theorem dX1_nameOf_107 : decode cX1_nameOf 107 = .ok (.ifCond .ne 8, 3) := by decide +kernel
theorem dX1_nameOf_110 : decode cX1_nameOf 110 = .ok (.bipush (-3), 2) := by decide +kernel
theorem dX1_nameOf_112 : decode cX1_nameOf 112 = .ok (.goto 4, 3) := by decide +kernel
theorem dX1_nameOf_115 : decode cX1_nameOf 115 = .ok (.iconst 0, 1) := by decide +kernel
theorem dX1_nameOf_116 : decode cX1_nameOf 116 = .ok (.ireturn, 1) := by decide +kernel
theorem dX1_nameOf_117 : decode cX1_nameOf 117 = .ok (.aload_n 0, 1) := by decide +kernel
theorem dX1_nameOf_118 : decode cX1_nameOf 118 = .ok (.getfield 32, 3) := by decide +kernel
theorem dX1_nameOf_121 : decode cX1_nameOf 121 = .ok (.iconst 1, 1) := by decide +kernel
theorem dX1_nameOf_122 : decode cX1_nameOf 122 = .ok (.if_icmp .ne 7, 3) := by decide +kernel
theorem dX1_nameOf_125 : decode cX1_nameOf 125 = .ok (.iconst (-1), 1) := by decide +kernel
theorem dX1_nameOf_126 : decode cX1_nameOf 126 = .ok (.goto 4, 3) := by decide +kernel
theorem dX1_nameOf_129 : decode cX1_nameOf 129 = .ok (.iconst 0, 1) := by decide +kernel
theorem dX1_nameOf_130 : decode cX1_nameOf 130 = .ok (.ireturn, 1) := by decide +kernel
theorem dX1_nameOf_131 : decode cX1_nameOf 131 = .ok (.aload_n 0, 1) := by decide +kernel
theorem dX1_nameOf_132 : decode cX1_nameOf 132 = .ok (.getfield 32, 3) := by decide +kernel
theorem dX1_nameOf_135 : decode cX1_nameOf 135 = .ok (.iconst 1, 1) := by decide +kernel
theorem dX1_nameOf_136 : decode cX1_nameOf 136 = .ok (.if_icmp .ne 8, 3) := by decide +kernel
theorem dX1_nameOf_139 : decode cX1_nameOf 139 = .ok (.bipush (-2), 2) := by decide +kernel
theorem dX1_nameOf_141 : decode cX1_nameOf 141 = .ok (.goto 4, 3) := by decide +kernel
theorem dX1_nameOf_144 : decode cX1_nameOf 144 = .ok (.iconst 0, 1) := by decide +kernel
theorem dX1_nameOf_145 : decode cX1_nameOf 145 = .ok (.ireturn, 1) := by decide +kernel
theorem dX1_nameOf_146 : decode cX1_nameOf 146 = .ok (.aload_n 0, 1) := by decide +kernel
theorem dX1_nameOf_147 : decode cX1_nameOf 147 = .ok (.getfield 32, 3) := by decide +kernel
theorem dX1_nameOf_150 : decode cX1_nameOf 150 = .ok (.iconst 1, 1) := by decide +kernel
theorem dX1_nameOf_151 : decode cX1_nameOf 151 = .ok (.if_icmp .ne 8, 3) := by decide +kernel
theorem dX1_nameOf_154 : decode cX1_nameOf 154 = .ok (.bipush (-3), 2) := by decide +kernel
theorem dX1_nameOf_156 : decode cX1_nameOf 156 = .ok (.goto 4, 3) := by decide +kernel
theorem dX1_nameOf_159 : decode cX1_nameOf 159 = .ok (.iconst 0, 1) := by decide +kernel
theorem dX1_nameOf_160 : decode cX1_nameOf 160 = .ok (.ireturn, 1) := by decide +kernel
theorem dX1_nameOf_161 : decode cX1_nameOf 161 = .ok (.iconst 0, 1) := by decide +kernel
theorem dX1_nameOf_162 : decode cX1_nameOf 162 = .ok (.ireturn, 1) := by decide +kernel
theorem dX2_init_0 : decode cX2_init 0 = .ok (.aload_n 0, 1) := by decide +kernel
theorem dX2_init_1 : decode cX2_init 1 = .ok (.invokespecial 1, 3) := by decide +kernel
theorem dX2_init_4 : decode cX2_init 4 = .ok (.aload_n 0, 1) := by decide +kernel
theorem dX2_init_5 : decode cX2_init 5 = .ok (.iconst 4, 1) := by decide +kernel
theorem dX2_init_6 : decode cX2_init 6 = .ok (.newarray .int, 2) := by decide +kernel
theorem dX2_init_8 : decode cX2_init 8 = .ok (.putfield 9, 3) := by decide +kernel
theorem dX2_init_11 : decode cX2_init 11 = .ok (.aload_n 0, 1) := by decide +kernel
theorem dX2_init_12 : decode cX2_init 12 = .ok (.iconst 4, 1) := by decide +kernel
theorem dX2_init_13 : decode cX2_init 13 = .ok (.newarray .int, 2) := by decide +kernel
theorem dX2_init_15 : decode cX2_init 15 = .ok (.putfield 13, 3) := by decide +kernel
theorem dX2_init_18 : decode cX2_init 18 = .ok (.aload_n 0, 1) := by decide +kernel
theorem dX2_init_19 : decode cX2_init 19 = .ok (.sipush 160, 3) := by decide +kernel
theorem dX2_init_22 : decode cX2_init 22 = .ok (.newarray .int, 2) := by decide +kernel
theorem dX2_init_24 : decode cX2_init 24 = .ok (.putfield 16, 3) := by decide +kernel
theorem dX2_init_27 : decode cX2_init 27 = .ok (.return_, 1) := by decide +kernel
theorem dX2_isSheet_0 : decode cX2_isSheet 0 = .ok (.iload_n 1, 1) := by decide +kernel
theorem dX2_isSheet_1 : decode cX2_isSheet 1 = .ok (.ifCond .lt 12, 3) := by decide +kernel
theorem dX2_isSheet_4 : decode cX2_isSheet 4 = .ok (.iload_n 1, 1) := by decide +kernel
theorem dX2_isSheet_5 : decode cX2_isSheet 5 = .ok (.iconst 4, 1) := by decide +kernel
theorem dX2_isSheet_6 : decode cX2_isSheet 6 = .ok (.if_icmp .ge 7, 3) := by decide +kernel
theorem dX2_isSheet_9 : decode cX2_isSheet 9 = .ok (.iconst 1, 1) := by decide +kernel
theorem dX2_isSheet_10 : decode cX2_isSheet 10 = .ok (.goto 4, 3) := by decide +kernel
theorem dX2_isSheet_13 : decode cX2_isSheet 13 = .ok (.iconst 0, 1) := by decide +kernel
theorem dX2_isSheet_14 : decode cX2_isSheet 14 = .ok (.ireturn, 1) := by decide +kernel
theorem dX2_isWidth_0 : decode cX2_isWidth 0 = .ok (.iload_n 1, 1) := by decide +kernel
theorem dX2_isWidth_1 : decode cX2_isWidth 1 = .ok (.ifCond .eq 21, 3) := by decide +kernel
theorem dX2_isWidth_4 : decode cX2_isWidth 4 = .ok (.iload_n 1, 1) := by decide +kernel
theorem dX2_isWidth_5 : decode cX2_isWidth 5 = .ok (.bipush 8, 2) := by decide +kernel
theorem dX2_isWidth_7 : decode cX2_isWidth 7 = .ok (.if_icmp .eq 15, 3) := by decide +kernel
theorem dX2_isWidth_10 : decode cX2_isWidth 10 = .ok (.iload_n 1, 1) := by decide +kernel
theorem dX2_isWidth_11 : decode cX2_isWidth 11 = .ok (.bipush 16, 2) := by decide +kernel
theorem dX2_isWidth_13 : decode cX2_isWidth 13 = .ok (.if_icmp .eq 9, 3) := by decide +kernel
theorem dX2_isWidth_16 : decode cX2_isWidth 16 = .ok (.iload_n 1, 1) := by decide +kernel
theorem dX2_isWidth_17 : decode cX2_isWidth 17 = .ok (.bipush 32, 2) := by decide +kernel
theorem dX2_isWidth_19 : decode cX2_isWidth 19 = .ok (.if_icmp .ne 7, 3) := by decide +kernel
theorem dX2_isWidth_22 : decode cX2_isWidth 22 = .ok (.iconst 1, 1) := by decide +kernel
theorem dX2_isWidth_23 : decode cX2_isWidth 23 = .ok (.goto 4, 3) := by decide +kernel
theorem dX2_isWidth_26 : decode cX2_isWidth 26 = .ok (.iconst 0, 1) := by decide +kernel
theorem dX2_isWidth_27 : decode cX2_isWidth 27 = .ok (.ireturn, 1) := by decide +kernel
theorem dX2_isMissing_0 : decode cX2_isMissing 0 = .ok (.aload_n 0, 1) := by decide +kernel
theorem dX2_isMissing_1 : decode cX2_isMissing 1 = .ok (.getfield 9, 3) := by decide +kernel
theorem dX2_isMissing_4 : decode cX2_isMissing 4 = .ok (.iload_n 1, 1) := by decide +kernel
theorem dX2_isMissing_5 : decode cX2_isMissing 5 = .ok (.iaload, 1) := by decide +kernel
theorem dX2_isMissing_6 : decode cX2_isMissing 6 = .ok (.ifCond .ne 7, 3) := by decide +kernel
theorem dX2_isMissing_9 : decode cX2_isMissing 9 = .ok (.iconst 1, 1) := by decide +kernel
theorem dX2_isMissing_10 : decode cX2_isMissing 10 = .ok (.goto 4, 3) := by decide +kernel
theorem dX2_isMissing_13 : decode cX2_isMissing 13 = .ok (.iconst 0, 1) := by decide +kernel
theorem dX2_isMissing_14 : decode cX2_isMissing 14 = .ok (.ireturn, 1) := by decide +kernel
theorem dX2_lay_0 : decode cX2_lay 0 = .ok (.aload_n 0, 1) := by decide +kernel
theorem dX2_lay_1 : decode cX2_lay 1 = .ok (.getfield 9, 3) := by decide +kernel
theorem dX2_lay_4 : decode cX2_lay 4 = .ok (.iload_n 1, 1) := by decide +kernel
theorem dX2_lay_5 : decode cX2_lay 5 = .ok (.iload_n 2, 1) := by decide +kernel
theorem dX2_lay_6 : decode cX2_lay 6 = .ok (.iastore, 1) := by decide +kernel
theorem dX2_lay_7 : decode cX2_lay 7 = .ok (.aload_n 0, 1) := by decide +kernel
theorem dX2_lay_8 : decode cX2_lay 8 = .ok (.getfield 13, 3) := by decide +kernel
theorem dX2_lay_11 : decode cX2_lay 11 = .ok (.iload_n 1, 1) := by decide +kernel
theorem dX2_lay_12 : decode cX2_lay 12 = .ok (.iload_n 3, 1) := by decide +kernel
theorem dX2_lay_13 : decode cX2_lay 13 = .ok (.iastore, 1) := by decide +kernel
theorem dX2_lay_14 : decode cX2_lay 14 = .ok (.iconst 0, 1) := by decide +kernel
theorem dX2_lay_15 : decode cX2_lay 15 = .ok (.istore 4, 2) := by decide +kernel
theorem dX2_lay_17 : decode cX2_lay 17 = .ok (.iload 4, 2) := by decide +kernel
theorem dX2_lay_19 : decode cX2_lay 19 = .ok (.bipush 40, 2) := by decide +kernel
theorem dX2_lay_21 : decode cX2_lay 21 = .ok (.if_icmp .ge 22, 3) := by decide +kernel
theorem dX2_lay_24 : decode cX2_lay 24 = .ok (.aload_n 0, 1) := by decide +kernel
theorem dX2_lay_25 : decode cX2_lay 25 = .ok (.getfield 16, 3) := by decide +kernel
theorem dX2_lay_28 : decode cX2_lay 28 = .ok (.iload_n 1, 1) := by decide +kernel
theorem dX2_lay_29 : decode cX2_lay 29 = .ok (.bipush 40, 2) := by decide +kernel
theorem dX2_lay_31 : decode cX2_lay 31 = .ok (.imul, 1) := by decide +kernel
theorem dX2_lay_32 : decode cX2_lay 32 = .ok (.iload 4, 2) := by decide +kernel
theorem dX2_lay_34 : decode cX2_lay 34 = .ok (.iadd, 1) := by decide +kernel
theorem dX2_lay_35 : decode cX2_lay 35 = .ok (.iconst 0, 1) := by decide +kernel
theorem dX2_lay_36 : decode cX2_lay 36 = .ok (.iastore, 1) := by decide +kernel
theorem dX2_lay_37 : decode cX2_lay 37 = .ok (.iinc 4 1, 3) := by decide +kernel
theorem dX2_lay_40 : decode cX2_lay 40 = .ok (.goto (-23), 3) := by decide +kernel
theorem dX2_lay_43 : decode cX2_lay 43 = .ok (.return_, 1) := by decide +kernel
theorem dX2_numberAt_0 : decode cX2_numberAt 0 = .ok (.aload_n 0, 1) := by decide +kernel
theorem dX2_numberAt_1 : decode cX2_numberAt 1 = .ok (.getfield 16, 3) := by decide +kernel
theorem dX2_numberAt_4 : decode cX2_numberAt 4 = .ok (.iload_n 1, 1) := by decide +kernel
theorem dX2_numberAt_5 : decode cX2_numberAt 5 = .ok (.bipush 40, 2) := by decide +kernel
theorem dX2_numberAt_7 : decode cX2_numberAt 7 = .ok (.imul, 1) := by decide +kernel
theorem dX2_numberAt_8 : decode cX2_numberAt 8 = .ok (.iload_n 2, 1) := by decide +kernel
theorem dX2_numberAt_9 : decode cX2_numberAt 9 = .ok (.iadd, 1) := by decide +kernel
theorem dX2_numberAt_10 : decode cX2_numberAt 10 = .ok (.iaload, 1) := by decide +kernel
theorem dX2_numberAt_11 : decode cX2_numberAt 11 = .ok (.ireturn, 1) := by decide +kernel
theorem dX2_set_0 : decode cX2_set 0 = .ok (.bipush 32, 2) := by decide +kernel
theorem dX2_set_2 : decode cX2_set 2 = .ok (.aload_n 0, 1) := by decide +kernel
theorem dX2_set_3 : decode cX2_set 3 = .ok (.getfield 9, 3) := by decide +kernel
theorem dX2_set_6 : decode cX2_set 6 = .ok (.iload_n 1, 1) := by decide +kernel
theorem dX2_set_7 : decode cX2_set 7 = .ok (.iaload, 1) := by decide +kernel
theorem dX2_set_8 : decode cX2_set 8 = .ok (.isub, 1) := by decide +kernel
theorem dX2_set_9 : decode cX2_set 9 = .ok (.istore 4, 2) := by decide +kernel
theorem dX2_set_11 : decode cX2_set 11 = .ok (.aload_n 0, 1) := by decide +kernel
theorem dX2_set_12 : decode cX2_set 12 = .ok (.getfield 16, 3) := by decide +kernel
theorem dX2_set_15 : decode cX2_set 15 = .ok (.iload_n 1, 1) := by decide +kernel
theorem dX2_set_16 : decode cX2_set 16 = .ok (.bipush 40, 2) := by decide +kernel
theorem dX2_set_18 : decode cX2_set 18 = .ok (.imul, 1) := by decide +kernel
theorem dX2_set_19 : decode cX2_set 19 = .ok (.iload_n 2, 1) := by decide +kernel
theorem dX2_set_20 : decode cX2_set 20 = .ok (.iadd, 1) := by decide +kernel
theorem dX2_set_21 : decode cX2_set 21 = .ok (.iload_n 3, 1) := by decide +kernel
theorem dX2_set_22 : decode cX2_set 22 = .ok (.iload 4, 2) := by decide +kernel
theorem dX2_set_24 : decode cX2_set 24 = .ok (.ishl, 1) := by decide +kernel
theorem dX2_set_25 : decode cX2_set 25 = .ok (.iload 4, 2) := by decide +kernel
theorem dX2_set_27 : decode cX2_set 27 = .ok (.ishr, 1) := by decide +kernel
theorem dX2_set_28 : decode cX2_set 28 = .ok (.iastore, 1) := by decide +kernel
theorem dX2_set_29 : decode cX2_set 29 = .ok (.return_, 1) := by decide +kernel
theorem dX2_hasRun_0 : decode cX2_hasRun 0 = .ok (.iload_n 3, 1) := by decide +kernel
theorem dX2_hasRun_1 : decode cX2_hasRun 1 = .ok (.ifCond .lt 33, 3) := by decide +kernel
theorem dX2_hasRun_4 : decode cX2_hasRun 4 = .ok (.iload_n 2, 1) := by decide +kernel
theorem dX2_hasRun_5 : decode cX2_hasRun 5 = .ok (.ifCond .lt 29, 3) := by decide +kernel
theorem dX2_hasRun_8 : decode cX2_hasRun 8 = .ok (.iload_n 3, 1) := by decide +kernel
theorem dX2_hasRun_9 : decode cX2_hasRun 9 = .ok (.aload_n 0, 1) := by decide +kernel
theorem dX2_hasRun_10 : decode cX2_hasRun 10 = .ok (.getfield 13, 3) := by decide +kernel
theorem dX2_hasRun_13 : decode cX2_hasRun 13 = .ok (.iload_n 1, 1) := by decide +kernel
theorem dX2_hasRun_14 : decode cX2_hasRun 14 = .ok (.iaload, 1) := by decide +kernel
theorem dX2_hasRun_15 : decode cX2_hasRun 15 = .ok (.if_icmp .gt 19, 3) := by decide +kernel
theorem dX2_hasRun_18 : decode cX2_hasRun 18 = .ok (.iload_n 2, 1) := by decide +kernel
theorem dX2_hasRun_19 : decode cX2_hasRun 19 = .ok (.aload_n 0, 1) := by decide +kernel
theorem dX2_hasRun_20 : decode cX2_hasRun 20 = .ok (.getfield 13, 3) := by decide +kernel
theorem dX2_hasRun_23 : decode cX2_hasRun 23 = .ok (.iload_n 1, 1) := by decide +kernel
theorem dX2_hasRun_24 : decode cX2_hasRun 24 = .ok (.iaload, 1) := by decide +kernel
theorem dX2_hasRun_25 : decode cX2_hasRun 25 = .ok (.iload_n 3, 1) := by decide +kernel
theorem dX2_hasRun_26 : decode cX2_hasRun 26 = .ok (.isub, 1) := by decide +kernel
theorem dX2_hasRun_27 : decode cX2_hasRun 27 = .ok (.if_icmp .gt 7, 3) := by decide +kernel
theorem dX2_hasRun_30 : decode cX2_hasRun 30 = .ok (.iconst 1, 1) := by decide +kernel
theorem dX2_hasRun_31 : decode cX2_hasRun 31 = .ok (.goto 4, 3) := by decide +kernel
theorem dX2_hasRun_34 : decode cX2_hasRun 34 = .ok (.iconst 0, 1) := by decide +kernel
theorem dX2_hasRun_35 : decode cX2_hasRun 35 = .ok (.ireturn, 1) := by decide +kernel
theorem dX2_copyRun_0 : decode cX2_copyRun 0 = .ok (.aload_n 0, 1) := by decide +kernel
theorem dX2_copyRun_1 : decode cX2_copyRun 1 = .ok (.getfield 16, 3) := by decide +kernel
theorem dX2_copyRun_4 : decode cX2_copyRun 4 = .ok (.iload_n 1, 1) := by decide +kernel
theorem dX2_copyRun_5 : decode cX2_copyRun 5 = .ok (.bipush 40, 2) := by decide +kernel
theorem dX2_copyRun_7 : decode cX2_copyRun 7 = .ok (.imul, 1) := by decide +kernel
theorem dX2_copyRun_8 : decode cX2_copyRun 8 = .ok (.iload_n 2, 1) := by decide +kernel
theorem dX2_copyRun_9 : decode cX2_copyRun 9 = .ok (.iadd, 1) := by decide +kernel
theorem dX2_copyRun_10 : decode cX2_copyRun 10 = .ok (.aload_n 0, 1) := by decide +kernel
theorem dX2_copyRun_11 : decode cX2_copyRun 11 = .ok (.getfield 16, 3) := by decide +kernel
theorem dX2_copyRun_14 : decode cX2_copyRun 14 = .ok (.iload_n 3, 1) := by decide +kernel
theorem dX2_copyRun_15 : decode cX2_copyRun 15 = .ok (.bipush 40, 2) := by decide +kernel
theorem dX2_copyRun_17 : decode cX2_copyRun 17 = .ok (.imul, 1) := by decide +kernel
theorem dX2_copyRun_18 : decode cX2_copyRun 18 = .ok (.iload 4, 2) := by decide +kernel
theorem dX2_copyRun_20 : decode cX2_copyRun 20 = .ok (.iadd, 1) := by decide +kernel
theorem dX2_copyRun_21 : decode cX2_copyRun 21 = .ok (.iload 5, 2) := by decide +kernel
theorem dX2_copyRun_23 : decode cX2_copyRun 23 = .ok (.invokestatic 19, 3) := by decide +kernel
theorem dX2_copyRun_26 : decode cX2_copyRun 26 = .ok (.return_, 1) := by decide +kernel
theorem dX4_init_0 : decode cX4_init 0 = .ok (.aload_n 0, 1) := by decide +kernel
theorem dX4_init_1 : decode cX4_init 1 = .ok (.invokespecial 3, 3) := by decide +kernel
theorem dX4_init_4 : decode cX4_init 4 = .ok (.aload_n 0, 1) := by decide +kernel
theorem dX4_init_5 : decode cX4_init 5 = .ok (.bipush 14, 2) := by decide +kernel
theorem dX4_init_7 : decode cX4_init 7 = .ok (.newarray .long, 2) := by decide +kernel
theorem dX4_init_9 : decode cX4_init 9 = .ok (.putfield 9, 3) := by decide +kernel
theorem dX4_init_12 : decode cX4_init 12 = .ok (.aload_n 0, 1) := by decide +kernel
theorem dX4_init_13 : decode cX4_init 13 = .ok (.bipush 14, 2) := by decide +kernel
theorem dX4_init_15 : decode cX4_init 15 = .ok (.newarray .long, 2) := by decide +kernel
theorem dX4_init_17 : decode cX4_init 17 = .ok (.putfield 15, 3) := by decide +kernel
theorem dX4_init_20 : decode cX4_init 20 = .ok (.aload_n 0, 1) := by decide +kernel
theorem dX4_init_21 : decode cX4_init 21 = .ok (.aload_n 1, 1) := by decide +kernel
theorem dX4_init_22 : decode cX4_init 22 = .ok (.putfield 18, 3) := by decide +kernel
theorem dX4_init_25 : decode cX4_init 25 = .ok (.return_, 1) := by decide +kernel
theorem dX4_widestSet_0 : decode cX4_widestSet 0 = .ok (.aload_n 0, 1) := by decide +kernel
theorem dX4_widestSet_1 : decode cX4_widestSet 1 = .ok (.iconst 0, 1) := by decide +kernel
theorem dX4_widestSet_2 : decode cX4_widestSet 2 = .ok (.putfield 22, 3) := by decide +kernel
theorem dX4_widestSet_5 : decode cX4_widestSet 5 = .ok (.aload_n 0, 1) := by decide +kernel
theorem dX4_widestSet_6 : decode cX4_widestSet 6 = .ok (.iconst 0, 1) := by decide +kernel
theorem dX4_widestSet_7 : decode cX4_widestSet 7 = .ok (.putfield 26, 3) := by decide +kernel
theorem dX4_widestSet_10 : decode cX4_widestSet 10 = .ok (.aload_n 0, 1) := by decide +kernel
theorem dX4_widestSet_11 : decode cX4_widestSet 11 = .ok (.aload_n 0, 1) := by decide +kernel
theorem dX4_widestSet_12 : decode cX4_widestSet 12 = .ok (.getfield 18, 3) := by decide +kernel
theorem dX4_widestSet_15 : decode cX4_widestSet 15 = .ok (.getfield 29, 3) := by decide +kernel
theorem dX4_widestSet_18 : decode cX4_widestSet 18 = .ok (.iconst 1, 1) := by decide +kernel
theorem dX4_widestSet_19 : decode cX4_widestSet 19 = .ok (.isub, 1) := by decide +kernel
theorem dX4_widestSet_20 : decode cX4_widestSet 20 = .ok (.iconst 0, 1) := by decide +kernel
theorem dX4_widestSet_21 : decode cX4_widestSet 21 = .ok (.iconst 0, 1) := by decide +kernel
theorem dX4_widestSet_22 : decode cX4_widestSet 22 = .ok (.iconst 0, 1) := by decide +kernel
theorem dX4_widestSet_23 : decode cX4_widestSet 23 = .ok (.invokevirtual 34, 3) := by decide +kernel
theorem dX4_widestSet_26 : decode cX4_widestSet 26 = .ok (.aload_n 0, 1) := by decide +kernel
theorem dX4_widestSet_27 : decode cX4_widestSet 27 = .ok (.getfield 22, 3) := by decide +kernel
theorem dX4_widestSet_30 : decode cX4_widestSet 30 = .ok (.ireturn, 1) := by decide +kernel
theorem dX4_choose_0 : decode cX4_choose 0 = .ok (.iload_n 2, 1) := by decide +kernel
theorem dX4_choose_1 : decode cX4_choose 1 = .ok (.iload_n 1, 1) := by decide +kernel
theorem dX4_choose_2 : decode cX4_choose 2 = .ok (.iadd, 1) := by decide +kernel
theorem dX4_choose_3 : decode cX4_choose 3 = .ok (.iconst 1, 1) := by decide +kernel
theorem dX4_choose_4 : decode cX4_choose 4 = .ok (.iadd, 1) := by decide +kernel
theorem dX4_choose_5 : decode cX4_choose 5 = .ok (.aload_n 0, 1) := by decide +kernel
theorem dX4_choose_6 : decode cX4_choose 6 = .ok (.getfield 26, 3) := by decide +kernel
theorem dX4_choose_9 : decode cX4_choose 9 = .ok (.if_icmp .gt 4, 3) := by decide +kernel
theorem dX4_choose_12 : decode cX4_choose 12 = .ok (.return_, 1) := by decide +kernel
theorem dX4_choose_13 : decode cX4_choose 13 = .ok (.iload_n 1, 1) := by decide +kernel
theorem dX4_choose_14 : decode cX4_choose 14 = .ok (.ifCond .ge 14, 3) := by decide +kernel
theorem dX4_choose_17 : decode cX4_choose 17 = .ok (.aload_n 0, 1) := by decide +kernel
theorem dX4_choose_18 : decode cX4_choose 18 = .ok (.iload_n 3, 1) := by decide +kernel
theorem dX4_choose_19 : decode cX4_choose 19 = .ok (.putfield 22, 3) := by decide +kernel
theorem dX4_choose_22 : decode cX4_choose 22 = .ok (.aload_n 0, 1) := by decide +kernel
theorem dX4_choose_23 : decode cX4_choose 23 = .ok (.iload_n 2, 1) := by decide +kernel
theorem dX4_choose_24 : decode cX4_choose 24 = .ok (.putfield 26, 3) := by decide +kernel
theorem dX4_choose_27 : decode cX4_choose 27 = .ok (.return_, 1) := by decide +kernel
theorem dX4_choose_28 : decode cX4_choose 28 = .ok (.aload_n 0, 1) := by decide +kernel
theorem dX4_choose_29 : decode cX4_choose 29 = .ok (.iload_n 1, 1) := by decide +kernel
theorem dX4_choose_30 : decode cX4_choose 30 = .ok (.iconst 1, 1) := by decide +kernel
theorem dX4_choose_31 : decode cX4_choose 31 = .ok (.isub, 1) := by decide +kernel
theorem dX4_choose_32 : decode cX4_choose 32 = .ok (.iload_n 2, 1) := by decide +kernel
theorem dX4_choose_33 : decode cX4_choose 33 = .ok (.iload_n 3, 1) := by decide +kernel
theorem dX4_choose_34 : decode cX4_choose 34 = .ok (.iload 4, 2) := by decide +kernel
theorem dX4_choose_36 : decode cX4_choose 36 = .ok (.invokevirtual 34, 3) := by decide +kernel
theorem dX4_choose_39 : decode cX4_choose 39 = .ok (.aload_n 0, 1) := by decide +kernel
theorem dX4_choose_40 : decode cX4_choose 40 = .ok (.getfield 18, 3) := by decide +kernel
theorem dX4_choose_43 : decode cX4_choose 43 = .ok (.getfield 38, 3) := by decide +kernel
theorem dX4_choose_46 : decode cX4_choose 46 = .ok (.iload_n 1, 1) := by decide +kernel
theorem dX4_choose_47 : decode cX4_choose 47 = .ok (.iaload, 1) := by decide +kernel
theorem dX4_choose_48 : decode cX4_choose 48 = .ok (.iload 4, 2) := by decide +kernel
theorem dX4_choose_50 : decode cX4_choose 50 = .ok (.iand, 1) := by decide +kernel
theorem dX4_choose_51 : decode cX4_choose 51 = .ok (.ifCond .ne 30, 3) := by decide +kernel
theorem dX4_choose_54 : decode cX4_choose 54 = .ok (.aload_n 0, 1) := by decide +kernel
theorem dX4_choose_55 : decode cX4_choose 55 = .ok (.iload_n 1, 1) := by decide +kernel
theorem dX4_choose_56 : decode cX4_choose 56 = .ok (.iconst 1, 1) := by decide +kernel
theorem dX4_choose_57 : decode cX4_choose 57 = .ok (.isub, 1) := by decide +kernel
theorem dX4_choose_58 : decode cX4_choose 58 = .ok (.iload_n 2, 1) := by decide +kernel
theorem dX4_choose_59 : decode cX4_choose 59 = .ok (.iconst 1, 1) := by decide +kernel
theorem dX4_choose_60 : decode cX4_choose 60 = .ok (.iadd, 1) := by decide +kernel
theorem dX4_choose_61 : decode cX4_choose 61 = .ok (.iload_n 3, 1) := by decide +kernel
theorem dX4_choose_62 : decode cX4_choose 62 = .ok (.iconst 1, 1) := by decide +kernel
theorem dX4_choose_63 : decode cX4_choose 63 = .ok (.iload_n 1, 1) := by decide +kernel
theorem dX4_choose_64 : decode cX4_choose 64 = .ok (.ishl, 1) := by decide +kernel
theorem dX4_choose_65 : decode cX4_choose 65 = .ok (.ior, 1) := by decide +kernel
theorem dX4_choose_66 : decode cX4_choose 66 = .ok (.iload 4, 2) := by decide +kernel
theorem dX4_choose_68 : decode cX4_choose 68 = .ok (.aload_n 0, 1) := by decide +kernel
theorem dX4_choose_69 : decode cX4_choose 69 = .ok (.getfield 18, 3) := by decide +kernel
theorem dX4_choose_72 : decode cX4_choose 72 = .ok (.getfield 38, 3) := by decide +kernel
theorem dX4_choose_75 : decode cX4_choose 75 = .ok (.iload_n 1, 1) := by decide +kernel
theorem dX4_choose_76 : decode cX4_choose 76 = .ok (.iaload, 1) := by decide +kernel
theorem dX4_choose_77 : decode cX4_choose 77 = .ok (.ior, 1) := by decide +kernel
theorem dX4_choose_78 : decode cX4_choose 78 = .ok (.invokevirtual 34, 3) := by decide +kernel
theorem dX4_choose_81 : decode cX4_choose 81 = .ok (.return_, 1) := by decide +kernel
theorem dX4_rowsOf_0 : decode cX4_rowsOf 0 = .ok (.aload_n 0, 1) := by decide +kernel
theorem dX4_rowsOf_1 : decode cX4_rowsOf 1 = .ok (.getfield 9, 3) := by decide +kernel
theorem dX4_rowsOf_4 : decode cX4_rowsOf 4 = .ok (.lconst 1, 1) := by decide +kernel
theorem dX4_rowsOf_5 : decode cX4_rowsOf 5 = .ok (.invokestatic 42, 3) := by decide +kernel
theorem dX4_rowsOf_8 : decode cX4_rowsOf 8 = .ok (.iconst 1, 1) := by decide +kernel
theorem dX4_rowsOf_9 : decode cX4_rowsOf 9 = .ok (.istore_n 2, 1) := by decide +kernel
theorem dX4_rowsOf_10 : decode cX4_rowsOf 10 = .ok (.iload_n 2, 1) := by decide +kernel
theorem dX4_rowsOf_11 : decode cX4_rowsOf 11 = .ok (.iload_n 1, 1) := by decide +kernel
theorem dX4_rowsOf_12 : decode cX4_rowsOf 12 = .ok (.if_icmp .ge 54, 3) := by decide +kernel
theorem dX4_rowsOf_15 : decode cX4_rowsOf 15 = .ok (.iconst 0, 1) := by decide +kernel
theorem dX4_rowsOf_16 : decode cX4_rowsOf 16 = .ok (.istore_n 3, 1) := by decide +kernel
theorem dX4_rowsOf_17 : decode cX4_rowsOf 17 = .ok (.iload_n 3, 1) := by decide +kernel
theorem dX4_rowsOf_18 : decode cX4_rowsOf 18 = .ok (.aload_n 0, 1) := by decide +kernel
theorem dX4_rowsOf_19 : decode cX4_rowsOf 19 = .ok (.getfield 18, 3) := by decide +kernel
theorem dX4_rowsOf_22 : decode cX4_rowsOf 22 = .ok (.getfield 29, 3) := by decide +kernel
theorem dX4_rowsOf_25 : decode cX4_rowsOf 25 = .ok (.if_icmp .ge 20, 3) := by decide +kernel
theorem dX4_rowsOf_28 : decode cX4_rowsOf 28 = .ok (.aload_n 0, 1) := by decide +kernel
theorem dX4_rowsOf_29 : decode cX4_rowsOf 29 = .ok (.getfield 15, 3) := by decide +kernel
theorem dX4_rowsOf_32 : decode cX4_rowsOf 32 = .ok (.iload_n 3, 1) := by decide +kernel
theorem dX4_rowsOf_33 : decode cX4_rowsOf 33 = .ok (.aload_n 0, 1) := by decide +kernel
theorem dX4_rowsOf_34 : decode cX4_rowsOf 34 = .ok (.iload_n 3, 1) := by decide +kernel
theorem dX4_rowsOf_35 : decode cX4_rowsOf 35 = .ok (.invokevirtual 48, 3) := by decide +kernel
theorem dX4_rowsOf_38 : decode cX4_rowsOf 38 = .ok (.lastore, 1) := by decide +kernel
theorem dX4_rowsOf_39 : decode cX4_rowsOf 39 = .ok (.iinc 3 1, 3) := by decide +kernel
theorem dX4_rowsOf_42 : decode cX4_rowsOf 42 = .ok (.goto (-25), 3) := by decide +kernel
theorem dX4_rowsOf_45 : decode cX4_rowsOf 45 = .ok (.aload_n 0, 1) := by decide +kernel
theorem dX4_rowsOf_46 : decode cX4_rowsOf 46 = .ok (.getfield 15, 3) := by decide +kernel
theorem dX4_rowsOf_49 : decode cX4_rowsOf 49 = .ok (.iconst 0, 1) := by decide +kernel
theorem dX4_rowsOf_50 : decode cX4_rowsOf 50 = .ok (.aload_n 0, 1) := by decide +kernel
theorem dX4_rowsOf_51 : decode cX4_rowsOf 51 = .ok (.getfield 9, 3) := by decide +kernel
theorem dX4_rowsOf_54 : decode cX4_rowsOf 54 = .ok (.iconst 0, 1) := by decide +kernel
theorem dX4_rowsOf_55 : decode cX4_rowsOf 55 = .ok (.bipush 14, 2) := by decide +kernel
theorem dX4_rowsOf_57 : decode cX4_rowsOf 57 = .ok (.invokestatic 52, 3) := by decide +kernel
theorem dX4_rowsOf_60 : decode cX4_rowsOf 60 = .ok (.iinc 2 1, 3) := by decide +kernel
theorem dX4_rowsOf_63 : decode cX4_rowsOf 63 = .ok (.goto (-53), 3) := by decide +kernel
theorem dX4_rowsOf_66 : decode cX4_rowsOf 66 = .ok (.lconst 0, 1) := by decide +kernel
theorem dX4_rowsOf_67 : decode cX4_rowsOf 67 = .ok (.lstore_n 2, 1) := by decide +kernel
theorem dX4_rowsOf_68 : decode cX4_rowsOf 68 = .ok (.iconst 0, 1) := by decide +kernel
theorem dX4_rowsOf_69 : decode cX4_rowsOf 69 = .ok (.istore 4, 2) := by decide +kernel
theorem dX4_rowsOf_71 : decode cX4_rowsOf 71 = .ok (.iload 4, 2) := by decide +kernel
theorem dX4_rowsOf_73 : decode cX4_rowsOf 73 = .ok (.aload_n 0, 1) := by decide +kernel
theorem dX4_rowsOf_74 : decode cX4_rowsOf 74 = .ok (.getfield 18, 3) := by decide +kernel
theorem dX4_rowsOf_77 : decode cX4_rowsOf 77 = .ok (.getfield 29, 3) := by decide +kernel
theorem dX4_rowsOf_80 : decode cX4_rowsOf 80 = .ok (.if_icmp .ge 19, 3) := by decide +kernel
theorem dX4_rowsOf_83 : decode cX4_rowsOf 83 = .ok (.lload_n 2, 1) := by decide +kernel
theorem dX4_rowsOf_84 : decode cX4_rowsOf 84 = .ok (.aload_n 0, 1) := by decide +kernel
theorem dX4_rowsOf_85 : decode cX4_rowsOf 85 = .ok (.getfield 9, 3) := by decide +kernel
theorem dX4_rowsOf_88 : decode cX4_rowsOf 88 = .ok (.iload 4, 2) := by decide +kernel
theorem dX4_rowsOf_90 : decode cX4_rowsOf 90 = .ok (.laload, 1) := by decide +kernel
theorem dX4_rowsOf_91 : decode cX4_rowsOf 91 = .ok (.ladd, 1) := by decide +kernel
theorem dX4_rowsOf_92 : decode cX4_rowsOf 92 = .ok (.lstore_n 2, 1) := by decide +kernel
theorem dX4_rowsOf_93 : decode cX4_rowsOf 93 = .ok (.iinc 4 1, 3) := by decide +kernel
theorem dX4_rowsOf_96 : decode cX4_rowsOf 96 = .ok (.goto (-25), 3) := by decide +kernel
theorem dX4_rowsOf_99 : decode cX4_rowsOf 99 = .ok (.lload_n 2, 1) := by decide +kernel
theorem dX4_rowsOf_100 : decode cX4_rowsOf 100 = .ok (.lreturn, 1) := by decide +kernel
theorem dX4_sumApart_0 : decode cX4_sumApart 0 = .ok (.lconst 0, 1) := by decide +kernel
theorem dX4_sumApart_1 : decode cX4_sumApart 1 = .ok (.lstore_n 2, 1) := by decide +kernel
theorem dX4_sumApart_2 : decode cX4_sumApart 2 = .ok (.iconst 0, 1) := by decide +kernel
theorem dX4_sumApart_3 : decode cX4_sumApart 3 = .ok (.istore 4, 2) := by decide +kernel
theorem dX4_sumApart_5 : decode cX4_sumApart 5 = .ok (.iload 4, 2) := by decide +kernel
theorem dX4_sumApart_7 : decode cX4_sumApart 7 = .ok (.aload_n 0, 1) := by decide +kernel
theorem dX4_sumApart_8 : decode cX4_sumApart 8 = .ok (.getfield 18, 3) := by decide +kernel
theorem dX4_sumApart_11 : decode cX4_sumApart 11 = .ok (.getfield 29, 3) := by decide +kernel
theorem dX4_sumApart_14 : decode cX4_sumApart 14 = .ok (.if_icmp .ge 36, 3) := by decide +kernel
theorem dX4_sumApart_17 : decode cX4_sumApart 17 = .ok (.aload_n 0, 1) := by decide +kernel
theorem dX4_sumApart_18 : decode cX4_sumApart 18 = .ok (.getfield 18, 3) := by decide +kernel
theorem dX4_sumApart_21 : decode cX4_sumApart 21 = .ok (.getfield 58, 3) := by decide +kernel
theorem dX4_sumApart_24 : decode cX4_sumApart 24 = .ok (.iload_n 1, 1) := by decide +kernel
theorem dX4_sumApart_25 : decode cX4_sumApart 25 = .ok (.iaload, 1) := by decide +kernel
theorem dX4_sumApart_26 : decode cX4_sumApart 26 = .ok (.iload 4, 2) := by decide +kernel
theorem dX4_sumApart_28 : decode cX4_sumApart 28 = .ok (.ishr, 1) := by decide +kernel
theorem dX4_sumApart_29 : decode cX4_sumApart 29 = .ok (.iconst 1, 1) := by decide +kernel
theorem dX4_sumApart_30 : decode cX4_sumApart 30 = .ok (.iand, 1) := by decide +kernel
theorem dX4_sumApart_31 : decode cX4_sumApart 31 = .ok (.ifCond .eq 13, 3) := by decide +kernel
theorem dX4_sumApart_34 : decode cX4_sumApart 34 = .ok (.lload_n 2, 1) := by decide +kernel
theorem dX4_sumApart_35 : decode cX4_sumApart 35 = .ok (.aload_n 0, 1) := by decide +kernel
theorem dX4_sumApart_36 : decode cX4_sumApart 36 = .ok (.getfield 9, 3) := by decide +kernel
theorem dX4_sumApart_39 : decode cX4_sumApart 39 = .ok (.iload 4, 2) := by decide +kernel
theorem dX4_sumApart_41 : decode cX4_sumApart 41 = .ok (.laload, 1) := by decide +kernel
theorem dX4_sumApart_42 : decode cX4_sumApart 42 = .ok (.ladd, 1) := by decide +kernel
theorem dX4_sumApart_43 : decode cX4_sumApart 43 = .ok (.lstore_n 2, 1) := by decide +kernel
theorem dX4_sumApart_44 : decode cX4_sumApart 44 = .ok (.iinc 4 1, 3) := by decide +kernel
theorem dX4_sumApart_47 : decode cX4_sumApart 47 = .ok (.goto (-42), 3) := by decide +kernel
theorem dX4_sumApart_50 : decode cX4_sumApart 50 = .ok (.lload_n 2, 1) := by decide +kernel
theorem dX4_sumApart_51 : decode cX4_sumApart 51 = .ok (.lreturn, 1) := by decide +kernel
theorem dX5_init_0 : decode cX5_init 0 = .ok (.aload_n 0, 1) := by decide +kernel
theorem dX5_init_1 : decode cX5_init 1 = .ok (.invokespecial 3, 3) := by decide +kernel
theorem dX5_init_4 : decode cX5_init 4 = .ok (.aload_n 0, 1) := by decide +kernel
theorem dX5_init_5 : decode cX5_init 5 = .ok (.bipush 10, 2) := by decide +kernel
theorem dX5_init_7 : decode cX5_init 7 = .ok (.newarray .int, 2) := by decide +kernel
theorem dX5_init_9 : decode cX5_init 9 = .ok (.putfield 9, 3) := by decide +kernel
theorem dX5_init_12 : decode cX5_init 12 = .ok (.aload_n 0, 1) := by decide +kernel
theorem dX5_init_13 : decode cX5_init 13 = .ok (.aload_n 1, 1) := by decide +kernel
theorem dX5_init_14 : decode cX5_init 14 = .ok (.putfield 15, 3) := by decide +kernel
theorem dX5_init_17 : decode cX5_init 17 = .ok (.aload_n 0, 1) := by decide +kernel
theorem dX5_init_18 : decode cX5_init 18 = .ok (.aload_n 2, 1) := by decide +kernel
theorem dX5_init_19 : decode cX5_init 19 = .ok (.putfield 19, 3) := by decide +kernel
theorem dX5_init_22 : decode cX5_init 22 = .ok (.return_, 1) := by decide +kernel
theorem dX5_leastSet_0 : decode cX5_leastSet 0 = .ok (.aload_n 0, 1) := by decide +kernel
theorem dX5_leastSet_1 : decode cX5_leastSet 1 = .ok (.getfield 15, 3) := by decide +kernel
theorem dX5_leastSet_4 : decode cX5_leastSet 4 = .ok (.getfield 23, 3) := by decide +kernel
theorem dX5_leastSet_7 : decode cX5_leastSet 7 = .ok (.iload_n 1, 1) := by decide +kernel
theorem dX5_leastSet_8 : decode cX5_leastSet 8 = .ok (.iaload, 1) := by decide +kernel
theorem dX5_leastSet_9 : decode cX5_leastSet 9 = .ok (.istore_n 3, 1) := by decide +kernel
theorem dX5_leastSet_10 : decode cX5_leastSet 10 = .ok (.aload_n 0, 1) := by decide +kernel
theorem dX5_leastSet_11 : decode cX5_leastSet 11 = .ok (.getfield 15, 3) := by decide +kernel
theorem dX5_leastSet_14 : decode cX5_leastSet 14 = .ok (.getfield 23, 3) := by decide +kernel
theorem dX5_leastSet_17 : decode cX5_leastSet 17 = .ok (.iload_n 1, 1) := by decide +kernel
theorem dX5_leastSet_18 : decode cX5_leastSet 18 = .ok (.iload_n 2, 1) := by decide +kernel
theorem dX5_leastSet_19 : decode cX5_leastSet 19 = .ok (.iastore, 1) := by decide +kernel
theorem dX5_leastSet_20 : decode cX5_leastSet 20 = .ok (.aload_n 0, 1) := by decide +kernel
theorem dX5_leastSet_21 : decode cX5_leastSet 21 = .ok (.invokevirtual 28, 3) := by decide +kernel
theorem dX5_leastSet_24 : decode cX5_leastSet 24 = .ok (.aload_n 0, 1) := by decide +kernel
theorem dX5_leastSet_25 : decode cX5_leastSet 25 = .ok (.getfield 15, 3) := by decide +kernel
theorem dX5_leastSet_28 : decode cX5_leastSet 28 = .ok (.getfield 23, 3) := by decide +kernel
theorem dX5_leastSet_31 : decode cX5_leastSet 31 = .ok (.iload_n 1, 1) := by decide +kernel
theorem dX5_leastSet_32 : decode cX5_leastSet 32 = .ok (.iload_n 3, 1) := by decide +kernel
theorem dX5_leastSet_33 : decode cX5_leastSet 33 = .ok (.iastore, 1) := by decide +kernel
theorem dX5_leastSet_34 : decode cX5_leastSet 34 = .ok (.aload_n 0, 1) := by decide +kernel
theorem dX5_leastSet_35 : decode cX5_leastSet 35 = .ok (.getfield 15, 3) := by decide +kernel
theorem dX5_leastSet_38 : decode cX5_leastSet 38 = .ok (.invokevirtual 31, 3) := by decide +kernel
theorem dX5_leastSet_41 : decode cX5_leastSet 41 = .ok (.iconst (-1), 1) := by decide +kernel
theorem dX5_leastSet_42 : decode cX5_leastSet 42 = .ok (.ixor, 1) := by decide +kernel
theorem dX5_leastSet_43 : decode cX5_leastSet 43 = .ok (.iconst 1, 1) := by decide +kernel
theorem dX5_leastSet_44 : decode cX5_leastSet 44 = .ok (.iload_n 1, 1) := by decide +kernel
theorem dX5_leastSet_45 : decode cX5_leastSet 45 = .ok (.ishl, 1) := by decide +kernel
theorem dX5_leastSet_46 : decode cX5_leastSet 46 = .ok (.iconst (-1), 1) := by decide +kernel
theorem dX5_leastSet_47 : decode cX5_leastSet 47 = .ok (.ixor, 1) := by decide +kernel
theorem dX5_leastSet_48 : decode cX5_leastSet 48 = .ok (.iand, 1) := by decide +kernel
theorem dX5_leastSet_49 : decode cX5_leastSet 49 = .ok (.iconst 1, 1) := by decide +kernel
theorem dX5_leastSet_50 : decode cX5_leastSet 50 = .ok (.aload_n 0, 1) := by decide +kernel
theorem dX5_leastSet_51 : decode cX5_leastSet 51 = .ok (.getfield 15, 3) := by decide +kernel
theorem dX5_leastSet_54 : decode cX5_leastSet 54 = .ok (.getfield 35, 3) := by decide +kernel
theorem dX5_leastSet_57 : decode cX5_leastSet 57 = .ok (.ishl, 1) := by decide +kernel
theorem dX5_leastSet_58 : decode cX5_leastSet 58 = .ok (.iconst 1, 1) := by decide +kernel
theorem dX5_leastSet_59 : decode cX5_leastSet 59 = .ok (.isub, 1) := by decide +kernel
theorem dX5_leastSet_60 : decode cX5_leastSet 60 = .ok (.iand, 1) := by decide +kernel
theorem dX5_leastSet_61 : decode cX5_leastSet 61 = .ok (.istore 4, 2) := by decide +kernel
theorem dX5_leastSet_63 : decode cX5_leastSet 63 = .ok (.iconst 0, 1) := by decide +kernel
theorem dX5_leastSet_64 : decode cX5_leastSet 64 = .ok (.istore 5, 2) := by decide +kernel
theorem dX5_leastSet_66 : decode cX5_leastSet 66 = .ok (.iload 5, 2) := by decide +kernel
theorem dX5_leastSet_68 : decode cX5_leastSet 68 = .ok (.iconst 3, 1) := by decide +kernel
theorem dX5_leastSet_69 : decode cX5_leastSet 69 = .ok (.if_icmp .gt 59, 3) := by decide +kernel
theorem dX5_leastSet_72 : decode cX5_leastSet 72 = .ok (.iconst 0, 1) := by decide +kernel
theorem dX5_leastSet_73 : decode cX5_leastSet 73 = .ok (.istore 6, 2) := by decide +kernel
theorem dX5_leastSet_75 : decode cX5_leastSet 75 = .ok (.iload 6, 2) := by decide +kernel
theorem dX5_leastSet_77 : decode cX5_leastSet 77 = .ok (.iload 4, 2) := by decide +kernel
theorem dX5_leastSet_79 : decode cX5_leastSet 79 = .ok (.if_icmp .gt 43, 3) := by decide +kernel
theorem dX5_leastSet_82 : decode cX5_leastSet 82 = .ok (.iload 6, 2) := by decide +kernel
theorem dX5_leastSet_84 : decode cX5_leastSet 84 = .ok (.iload 4, 2) := by decide +kernel
theorem dX5_leastSet_86 : decode cX5_leastSet 86 = .ok (.iconst (-1), 1) := by decide +kernel
theorem dX5_leastSet_87 : decode cX5_leastSet 87 = .ok (.ixor, 1) := by decide +kernel
theorem dX5_leastSet_88 : decode cX5_leastSet 88 = .ok (.iand, 1) := by decide +kernel
theorem dX5_leastSet_89 : decode cX5_leastSet 89 = .ok (.ifCond .ne 27, 3) := by decide +kernel
theorem dX5_leastSet_92 : decode cX5_leastSet 92 = .ok (.iload 6, 2) := by decide +kernel
theorem dX5_leastSet_94 : decode cX5_leastSet 94 = .ok (.invokestatic 39, 3) := by decide +kernel
theorem dX5_leastSet_97 : decode cX5_leastSet 97 = .ok (.iload 5, 2) := by decide +kernel
theorem dX5_leastSet_99 : decode cX5_leastSet 99 = .ok (.if_icmp .ne 17, 3) := by decide +kernel
theorem dX5_leastSet_102 : decode cX5_leastSet 102 = .ok (.aload_n 0, 1) := by decide +kernel
theorem dX5_leastSet_103 : decode cX5_leastSet 103 = .ok (.iload 6, 2) := by decide +kernel
theorem dX5_leastSet_105 : decode cX5_leastSet 105 = .ok (.iload_n 1, 1) := by decide +kernel
theorem dX5_leastSet_106 : decode cX5_leastSet 106 = .ok (.iload_n 2, 1) := by decide +kernel
theorem dX5_leastSet_107 : decode cX5_leastSet 107 = .ok (.invokevirtual 45, 3) := by decide +kernel
theorem dX5_leastSet_110 : decode cX5_leastSet 110 = .ok (.ifCond .eq 6, 3) := by decide +kernel
theorem dX5_leastSet_113 : decode cX5_leastSet 113 = .ok (.iload 6, 2) := by decide +kernel
theorem dX5_leastSet_115 : decode cX5_leastSet 115 = .ok (.ireturn, 1) := by decide +kernel
theorem dX5_leastSet_116 : decode cX5_leastSet 116 = .ok (.iinc 6 1, 3) := by decide +kernel
theorem dX5_leastSet_119 : decode cX5_leastSet 119 = .ok (.goto (-44), 3) := by decide +kernel
theorem dX5_leastSet_122 : decode cX5_leastSet 122 = .ok (.iinc 5 1, 3) := by decide +kernel
theorem dX5_leastSet_125 : decode cX5_leastSet 125 = .ok (.goto (-59), 3) := by decide +kernel
theorem dX5_leastSet_128 : decode cX5_leastSet 128 = .ok (.iconst (-1), 1) := by decide +kernel
theorem dX5_leastSet_129 : decode cX5_leastSet 129 = .ok (.ireturn, 1) := by decide +kernel
theorem dX5_lookForTrouble_0 : decode cX5_lookForTrouble 0 = .ok (.aload_n 0, 1) := by decide +kernel
theorem dX5_lookForTrouble_1 : decode cX5_lookForTrouble 1 = .ok (.aload_n 0, 1) := by decide +kernel
theorem dX5_lookForTrouble_2 : decode cX5_lookForTrouble 2 = .ok (.getfield 15, 3) := by decide +kernel
theorem dX5_lookForTrouble_5 : decode cX5_lookForTrouble 5 = .ok (.aload_n 0, 1) := by decide +kernel
theorem dX5_lookForTrouble_6 : decode cX5_lookForTrouble 6 = .ok (.getfield 15, 3) := by decide +kernel
theorem dX5_lookForTrouble_9 : decode cX5_lookForTrouble 9 = .ok (.getfield 49, 3) := by decide +kernel
theorem dX5_lookForTrouble_12 : decode cX5_lookForTrouble 12 = .ok (.invokevirtual 52, 3) := by decide +kernel
theorem dX5_lookForTrouble_15 : decode cX5_lookForTrouble 15 = .ok (.putfield 55, 3) := by decide +kernel
theorem dX5_lookForTrouble_18 : decode cX5_lookForTrouble 18 = .ok (.iconst 0, 1) := by decide +kernel
theorem dX5_lookForTrouble_19 : decode cX5_lookForTrouble 19 = .ok (.istore_n 1, 1) := by decide +kernel
theorem dX5_lookForTrouble_20 : decode cX5_lookForTrouble 20 = .ok (.iload_n 1, 1) := by decide +kernel
theorem dX5_lookForTrouble_21 : decode cX5_lookForTrouble 21 = .ok (.aload_n 0, 1) := by decide +kernel
theorem dX5_lookForTrouble_22 : decode cX5_lookForTrouble 22 = .ok (.getfield 15, 3) := by decide +kernel
theorem dX5_lookForTrouble_25 : decode cX5_lookForTrouble 25 = .ok (.getfield 35, 3) := by decide +kernel
theorem dX5_lookForTrouble_28 : decode cX5_lookForTrouble 28 = .ok (.if_icmp .ge 23, 3) := by decide +kernel
theorem dX5_lookForTrouble_31 : decode cX5_lookForTrouble 31 = .ok (.aload_n 0, 1) := by decide +kernel
theorem dX5_lookForTrouble_32 : decode cX5_lookForTrouble 32 = .ok (.getfield 9, 3) := by decide +kernel
theorem dX5_lookForTrouble_35 : decode cX5_lookForTrouble 35 = .ok (.iload_n 1, 1) := by decide +kernel
theorem dX5_lookForTrouble_36 : decode cX5_lookForTrouble 36 = .ok (.aload_n 0, 1) := by decide +kernel
theorem dX5_lookForTrouble_37 : decode cX5_lookForTrouble 37 = .ok (.getfield 15, 3) := by decide +kernel
theorem dX5_lookForTrouble_40 : decode cX5_lookForTrouble 40 = .ok (.iload_n 1, 1) := by decide +kernel
theorem dX5_lookForTrouble_41 : decode cX5_lookForTrouble 41 = .ok (.invokevirtual 58, 3) := by decide +kernel
theorem dX5_lookForTrouble_44 : decode cX5_lookForTrouble 44 = .ok (.iastore, 1) := by decide +kernel
theorem dX5_lookForTrouble_45 : decode cX5_lookForTrouble 45 = .ok (.iinc 1 1, 3) := by decide +kernel
theorem dX5_lookForTrouble_48 : decode cX5_lookForTrouble 48 = .ok (.goto (-28), 3) := by decide +kernel
theorem dX5_lookForTrouble_51 : decode cX5_lookForTrouble 51 = .ok (.return_, 1) := by decide +kernel
theorem dX5_isEnough_0 : decode cX5_isEnough 0 = .ok (.aload_n 0, 1) := by decide +kernel
theorem dX5_isEnough_1 : decode cX5_isEnough 1 = .ok (.iload_n 1, 1) := by decide +kernel
theorem dX5_isEnough_2 : decode cX5_isEnough 2 = .ok (.invokevirtual 61, 3) := by decide +kernel
theorem dX5_isEnough_5 : decode cX5_isEnough 5 = .ok (.ifCond .eq 31, 3) := by decide +kernel
theorem dX5_isEnough_8 : decode cX5_isEnough 8 = .ok (.aload_n 0, 1) := by decide +kernel
theorem dX5_isEnough_9 : decode cX5_isEnough 9 = .ok (.getfield 19, 3) := by decide +kernel
theorem dX5_isEnough_12 : decode cX5_isEnough 12 = .ok (.iload_n 2, 1) := by decide +kernel
theorem dX5_isEnough_13 : decode cX5_isEnough 13 = .ok (.iload_n 3, 1) := by decide +kernel
theorem dX5_isEnough_14 : decode cX5_isEnough 14 = .ok (.iload_n 1, 1) := by decide +kernel
theorem dX5_isEnough_15 : decode cX5_isEnough 15 = .ok (.invokevirtual 65, 3) := by decide +kernel
theorem dX5_isEnough_18 : decode cX5_isEnough 18 = .ok (.ifCond .eq 18, 3) := by decide +kernel
theorem dX5_isEnough_21 : decode cX5_isEnough 21 = .ok (.aload_n 0, 1) := by decide +kernel
theorem dX5_isEnough_22 : decode cX5_isEnough 22 = .ok (.getfield 19, 3) := by decide +kernel
theorem dX5_isEnough_25 : decode cX5_isEnough 25 = .ok (.iconst 0, 1) := by decide +kernel
theorem dX5_isEnough_26 : decode cX5_isEnough 26 = .ok (.invokevirtual 70, 3) := by decide +kernel
theorem dX5_isEnough_29 : decode cX5_isEnough 29 = .ok (.ifCond .eq 7, 3) := by decide +kernel
theorem dX5_isEnough_32 : decode cX5_isEnough 32 = .ok (.iconst 1, 1) := by decide +kernel
theorem dX5_isEnough_33 : decode cX5_isEnough 33 = .ok (.goto 4, 3) := by decide +kernel
theorem dX5_isEnough_36 : decode cX5_isEnough 36 = .ok (.iconst 0, 1) := by decide +kernel
theorem dX5_isEnough_37 : decode cX5_isEnough 37 = .ok (.ireturn, 1) := by decide +kernel
theorem dX5_othersStandWell_0 : decode cX5_othersStandWell 0 = .ok (.aload_n 0, 1) := by decide +kernel
theorem dX5_othersStandWell_1 : decode cX5_othersStandWell 1 = .ok (.getfield 55, 3) := by decide +kernel
theorem dX5_othersStandWell_4 : decode cX5_othersStandWell 4 = .ok (.iload_n 1, 1) := by decide +kernel
theorem dX5_othersStandWell_5 : decode cX5_othersStandWell 5 = .ok (.iconst (-1), 1) := by decide +kernel
theorem dX5_othersStandWell_6 : decode cX5_othersStandWell 6 = .ok (.ixor, 1) := by decide +kernel
theorem dX5_othersStandWell_7 : decode cX5_othersStandWell 7 = .ok (.iand, 1) := by decide +kernel
theorem dX5_othersStandWell_8 : decode cX5_othersStandWell 8 = .ok (.ifCond .eq 5, 3) := by decide +kernel
theorem dX5_othersStandWell_11 : decode cX5_othersStandWell 11 = .ok (.iconst 0, 1) := by decide +kernel
theorem dX5_othersStandWell_12 : decode cX5_othersStandWell 12 = .ok (.ireturn, 1) := by decide +kernel
theorem dX5_othersStandWell_13 : decode cX5_othersStandWell 13 = .ok (.iconst 0, 1) := by decide +kernel
theorem dX5_othersStandWell_14 : decode cX5_othersStandWell 14 = .ok (.istore_n 2, 1) := by decide +kernel
theorem dX5_othersStandWell_15 : decode cX5_othersStandWell 15 = .ok (.iload_n 2, 1) := by decide +kernel
theorem dX5_othersStandWell_16 : decode cX5_othersStandWell 16 = .ok (.aload_n 0, 1) := by decide +kernel
theorem dX5_othersStandWell_17 : decode cX5_othersStandWell 17 = .ok (.getfield 15, 3) := by decide +kernel
theorem dX5_othersStandWell_20 : decode cX5_othersStandWell 20 = .ok (.getfield 35, 3) := by decide +kernel
theorem dX5_othersStandWell_23 : decode cX5_othersStandWell 23 = .ok (.if_icmp .ge 32, 3) := by decide +kernel
theorem dX5_othersStandWell_26 : decode cX5_othersStandWell 26 = .ok (.iload_n 1, 1) := by decide +kernel
theorem dX5_othersStandWell_27 : decode cX5_othersStandWell 27 = .ok (.iload_n 2, 1) := by decide +kernel
theorem dX5_othersStandWell_28 : decode cX5_othersStandWell 28 = .ok (.ishr, 1) := by decide +kernel
theorem dX5_othersStandWell_29 : decode cX5_othersStandWell 29 = .ok (.iconst 1, 1) := by decide +kernel
theorem dX5_othersStandWell_30 : decode cX5_othersStandWell 30 = .ok (.iand, 1) := by decide +kernel
theorem dX5_othersStandWell_31 : decode cX5_othersStandWell 31 = .ok (.ifCond .ne 18, 3) := by decide +kernel
theorem dX5_othersStandWell_34 : decode cX5_othersStandWell 34 = .ok (.aload_n 0, 1) := by decide +kernel
theorem dX5_othersStandWell_35 : decode cX5_othersStandWell 35 = .ok (.getfield 9, 3) := by decide +kernel
theorem dX5_othersStandWell_38 : decode cX5_othersStandWell 38 = .ok (.iload_n 2, 1) := by decide +kernel
theorem dX5_othersStandWell_39 : decode cX5_othersStandWell 39 = .ok (.iaload, 1) := by decide +kernel
theorem dX5_othersStandWell_40 : decode cX5_othersStandWell 40 = .ok (.iload_n 1, 1) := by decide +kernel
theorem dX5_othersStandWell_41 : decode cX5_othersStandWell 41 = .ok (.iconst (-1), 1) := by decide +kernel
theorem dX5_othersStandWell_42 : decode cX5_othersStandWell 42 = .ok (.ixor, 1) := by decide +kernel
theorem dX5_othersStandWell_43 : decode cX5_othersStandWell 43 = .ok (.iand, 1) := by decide +kernel
theorem dX5_othersStandWell_44 : decode cX5_othersStandWell 44 = .ok (.ifCond .eq 5, 3) := by decide +kernel
theorem dX5_othersStandWell_47 : decode cX5_othersStandWell 47 = .ok (.iconst 0, 1) := by decide +kernel
theorem dX5_othersStandWell_48 : decode cX5_othersStandWell 48 = .ok (.ireturn, 1) := by decide +kernel
theorem dX5_othersStandWell_49 : decode cX5_othersStandWell 49 = .ok (.iinc 2 1, 3) := by decide +kernel
theorem dX5_othersStandWell_52 : decode cX5_othersStandWell 52 = .ok (.goto (-37), 3) := by decide +kernel
theorem dX5_othersStandWell_55 : decode cX5_othersStandWell 55 = .ok (.iconst 1, 1) := by decide +kernel
theorem dX5_othersStandWell_56 : decode cX5_othersStandWell 56 = .ok (.ireturn, 1) := by decide +kernel
theorem dX6_init_0 : decode cX6_init 0 = .ok (.aload_n 0, 1) := by decide +kernel
theorem dX6_init_1 : decode cX6_init 1 = .ok (.invokespecial 3, 3) := by decide +kernel
theorem dX6_init_4 : decode cX6_init 4 = .ok (.aload_n 0, 1) := by decide +kernel
theorem dX6_init_5 : decode cX6_init 5 = .ok (.bipush 50, 2) := by decide +kernel
theorem dX6_init_7 : decode cX6_init 7 = .ok (.newarray .int, 2) := by decide +kernel
theorem dX6_init_9 : decode cX6_init 9 = .ok (.putfield 9, 3) := by decide +kernel
theorem dX6_init_12 : decode cX6_init 12 = .ok (.aload_n 0, 1) := by decide +kernel
theorem dX6_init_13 : decode cX6_init 13 = .ok (.bipush 50, 2) := by decide +kernel
theorem dX6_init_15 : decode cX6_init 15 = .ok (.newarray .int, 2) := by decide +kernel
theorem dX6_init_17 : decode cX6_init 17 = .ok (.putfield 15, 3) := by decide +kernel
theorem dX6_init_20 : decode cX6_init 20 = .ok (.return_, 1) := by decide +kernel
theorem dX6_isEmpty_0 : decode cX6_isEmpty 0 = .ok (.aload_n 0, 1) := by decide +kernel
theorem dX6_isEmpty_1 : decode cX6_isEmpty 1 = .ok (.getfield 18, 3) := by decide +kernel
theorem dX6_isEmpty_4 : decode cX6_isEmpty 4 = .ok (.ifCond .ne 7, 3) := by decide +kernel
theorem dX6_isEmpty_7 : decode cX6_isEmpty 7 = .ok (.iconst 1, 1) := by decide +kernel
theorem dX6_isEmpty_8 : decode cX6_isEmpty 8 = .ok (.goto 4, 3) := by decide +kernel
theorem dX6_isEmpty_11 : decode cX6_isEmpty 11 = .ok (.iconst 0, 1) := by decide +kernel
theorem dX6_isEmpty_12 : decode cX6_isEmpty 12 = .ok (.ireturn, 1) := by decide +kernel
theorem dX6_copyFrom_0 : decode cX6_copyFrom 0 = .ok (.aload_n 1, 1) := by decide +kernel
theorem dX6_copyFrom_1 : decode cX6_copyFrom 1 = .ok (.getfield 9, 3) := by decide +kernel
theorem dX6_copyFrom_4 : decode cX6_copyFrom 4 = .ok (.iconst 0, 1) := by decide +kernel
theorem dX6_copyFrom_5 : decode cX6_copyFrom 5 = .ok (.aload_n 0, 1) := by decide +kernel
theorem dX6_copyFrom_6 : decode cX6_copyFrom 6 = .ok (.getfield 9, 3) := by decide +kernel
theorem dX6_copyFrom_9 : decode cX6_copyFrom 9 = .ok (.iconst 0, 1) := by decide +kernel
theorem dX6_copyFrom_10 : decode cX6_copyFrom 10 = .ok (.bipush 50, 2) := by decide +kernel
theorem dX6_copyFrom_12 : decode cX6_copyFrom 12 = .ok (.invokestatic 22, 3) := by decide +kernel
theorem dX6_copyFrom_15 : decode cX6_copyFrom 15 = .ok (.aload_n 0, 1) := by decide +kernel
theorem dX6_copyFrom_16 : decode cX6_copyFrom 16 = .ok (.aload_n 1, 1) := by decide +kernel
theorem dX6_copyFrom_17 : decode cX6_copyFrom 17 = .ok (.getfield 18, 3) := by decide +kernel
theorem dX6_copyFrom_20 : decode cX6_copyFrom 20 = .ok (.putfield 18, 3) := by decide +kernel
theorem dX6_copyFrom_23 : decode cX6_copyFrom 23 = .ok (.return_, 1) := by decide +kernel
theorem dX6_add_0 : decode cX6_add 0 = .ok (.aload_n 0, 1) := by decide +kernel
theorem dX6_add_1 : decode cX6_add 1 = .ok (.getfield 18, 3) := by decide +kernel
theorem dX6_add_4 : decode cX6_add 4 = .ok (.bipush 50, 2) := by decide +kernel
theorem dX6_add_6 : decode cX6_add 6 = .ok (.if_icmp .ge 23, 3) := by decide +kernel
theorem dX6_add_9 : decode cX6_add 9 = .ok (.aload_n 0, 1) := by decide +kernel
theorem dX6_add_10 : decode cX6_add 10 = .ok (.getfield 9, 3) := by decide +kernel
theorem dX6_add_13 : decode cX6_add 13 = .ok (.aload_n 0, 1) := by decide +kernel
theorem dX6_add_14 : decode cX6_add 14 = .ok (.getfield 18, 3) := by decide +kernel
theorem dX6_add_17 : decode cX6_add 17 = .ok (.iload_n 1, 1) := by decide +kernel
theorem dX6_add_18 : decode cX6_add 18 = .ok (.iastore, 1) := by decide +kernel
theorem dX6_add_19 : decode cX6_add 19 = .ok (.aload_n 0, 1) := by decide +kernel
theorem dX6_add_20 : decode cX6_add 20 = .ok (.dup, 1) := by decide +kernel
theorem dX6_add_21 : decode cX6_add 21 = .ok (.getfield 18, 3) := by decide +kernel
theorem dX6_add_24 : decode cX6_add 24 = .ok (.iconst 1, 1) := by decide +kernel
theorem dX6_add_25 : decode cX6_add 25 = .ok (.iadd, 1) := by decide +kernel
theorem dX6_add_26 : decode cX6_add 26 = .ok (.putfield 18, 3) := by decide +kernel
theorem dX6_add_29 : decode cX6_add 29 = .ok (.return_, 1) := by decide +kernel
theorem dX6_workOut_0 : decode cX6_workOut 0 = .ok (.iconst 0, 1) := by decide +kernel
theorem dX6_workOut_1 : decode cX6_workOut 1 = .ok (.istore 4, 2) := by decide +kernel
theorem dX6_workOut_3 : decode cX6_workOut 3 = .ok (.iconst 0, 1) := by decide +kernel
theorem dX6_workOut_4 : decode cX6_workOut 4 = .ok (.istore 5, 2) := by decide +kernel
theorem dX6_workOut_6 : decode cX6_workOut 6 = .ok (.iload 5, 2) := by decide +kernel
theorem dX6_workOut_8 : decode cX6_workOut 8 = .ok (.aload_n 0, 1) := by decide +kernel
theorem dX6_workOut_9 : decode cX6_workOut 9 = .ok (.getfield 18, 3) := by decide +kernel
theorem dX6_workOut_12 : decode cX6_workOut 12 = .ok (.if_icmp .ge 135, 3) := by decide +kernel
theorem dX6_workOut_15 : decode cX6_workOut 15 = .ok (.aload_n 0, 1) := by decide +kernel
theorem dX6_workOut_16 : decode cX6_workOut 16 = .ok (.getfield 9, 3) := by decide +kernel
theorem dX6_workOut_19 : decode cX6_workOut 19 = .ok (.iload 5, 2) := by decide +kernel
theorem dX6_workOut_21 : decode cX6_workOut 21 = .ok (.iaload, 1) := by decide +kernel
theorem dX6_workOut_22 : decode cX6_workOut 22 = .ok (.istore 6, 2) := by decide +kernel
theorem dX6_workOut_24 : decode cX6_workOut 24 = .ok (.iload 6, 2) := by decide +kernel
theorem dX6_workOut_26 : decode cX6_workOut 26 = .ok (.bipush (-3), 2) := by decide +kernel
theorem dX6_workOut_28 : decode cX6_workOut 28 = .ok (.if_icmp .lt 31, 3) := by decide +kernel
theorem dX6_workOut_31 : decode cX6_workOut 31 = .ok (.iload 4, 2) := by decide +kernel
theorem dX6_workOut_33 : decode cX6_workOut 33 = .ok (.bipush 50, 2) := by decide +kernel
theorem dX6_workOut_35 : decode cX6_workOut 35 = .ok (.if_icmp .ge 24, 3) := by decide +kernel
theorem dX6_workOut_38 : decode cX6_workOut 38 = .ok (.aload_n 0, 1) := by decide +kernel
theorem dX6_workOut_39 : decode cX6_workOut 39 = .ok (.getfield 15, 3) := by decide +kernel
theorem dX6_workOut_42 : decode cX6_workOut 42 = .ok (.iload 4, 2) := by decide +kernel
theorem dX6_workOut_44 : decode cX6_workOut 44 = .ok (.iload 6, 2) := by decide +kernel
theorem dX6_workOut_46 : decode cX6_workOut 46 = .ok (.iload_n 1, 1) := by decide +kernel
theorem dX6_workOut_47 : decode cX6_workOut 47 = .ok (.iload_n 2, 1) := by decide +kernel
theorem dX6_workOut_48 : decode cX6_workOut 48 = .ok (.iload_n 3, 1) := by decide +kernel
theorem dX6_workOut_49 : decode cX6_workOut 49 = .ok (.invokestatic 28, 3) := by decide +kernel
theorem dX6_workOut_52 : decode cX6_workOut 52 = .ok (.iastore, 1) := by decide +kernel
theorem dX6_workOut_53 : decode cX6_workOut 53 = .ok (.iinc 4 1, 3) := by decide +kernel
theorem dX6_workOut_56 : decode cX6_workOut 56 = .ok (.goto 85, 3) := by decide +kernel
theorem dX6_workOut_59 : decode cX6_workOut 59 = .ok (.iload 6, 2) := by decide +kernel
theorem dX6_workOut_61 : decode cX6_workOut 61 = .ok (.bipush (-33), 2) := by decide +kernel
theorem dX6_workOut_63 : decode cX6_workOut 63 = .ok (.if_icmp .ne 38, 3) := by decide +kernel
theorem dX6_workOut_66 : decode cX6_workOut 66 = .ok (.iload 4, 2) := by decide +kernel
theorem dX6_workOut_68 : decode cX6_workOut 68 = .ok (.iconst 1, 1) := by decide +kernel
theorem dX6_workOut_69 : decode cX6_workOut 69 = .ok (.if_icmp .lt 32, 3) := by decide +kernel
theorem dX6_workOut_72 : decode cX6_workOut 72 = .ok (.aload_n 0, 1) := by decide +kernel
theorem dX6_workOut_73 : decode cX6_workOut 73 = .ok (.getfield 15, 3) := by decide +kernel
theorem dX6_workOut_76 : decode cX6_workOut 76 = .ok (.iload 4, 2) := by decide +kernel
theorem dX6_workOut_78 : decode cX6_workOut 78 = .ok (.iconst 1, 1) := by decide +kernel
theorem dX6_workOut_79 : decode cX6_workOut 79 = .ok (.isub, 1) := by decide +kernel
theorem dX6_workOut_80 : decode cX6_workOut 80 = .ok (.aload_n 0, 1) := by decide +kernel
theorem dX6_workOut_81 : decode cX6_workOut 81 = .ok (.getfield 15, 3) := by decide +kernel
theorem dX6_workOut_84 : decode cX6_workOut 84 = .ok (.iload 4, 2) := by decide +kernel
theorem dX6_workOut_86 : decode cX6_workOut 86 = .ok (.iconst 1, 1) := by decide +kernel
theorem dX6_workOut_87 : decode cX6_workOut 87 = .ok (.isub, 1) := by decide +kernel
theorem dX6_workOut_88 : decode cX6_workOut 88 = .ok (.iaload, 1) := by decide +kernel
theorem dX6_workOut_89 : decode cX6_workOut 89 = .ok (.ifCond .ne 7, 3) := by decide +kernel
theorem dX6_workOut_92 : decode cX6_workOut 92 = .ok (.iconst 1, 1) := by decide +kernel
theorem dX6_workOut_93 : decode cX6_workOut 93 = .ok (.goto 4, 3) := by decide +kernel
theorem dX6_workOut_96 : decode cX6_workOut 96 = .ok (.iconst 0, 1) := by decide +kernel
theorem dX6_workOut_97 : decode cX6_workOut 97 = .ok (.iastore, 1) := by decide +kernel
theorem dX6_workOut_98 : decode cX6_workOut 98 = .ok (.goto 43, 3) := by decide +kernel
theorem dX6_workOut_101 : decode cX6_workOut 101 = .ok (.iload 4, 2) := by decide +kernel
theorem dX6_workOut_103 : decode cX6_workOut 103 = .ok (.iconst 2, 1) := by decide +kernel
theorem dX6_workOut_104 : decode cX6_workOut 104 = .ok (.if_icmp .lt 37, 3) := by decide +kernel
theorem dX6_workOut_107 : decode cX6_workOut 107 = .ok (.iinc 4 (-1), 3) := by decide +kernel
theorem dX6_workOut_110 : decode cX6_workOut 110 = .ok (.aload_n 0, 1) := by decide +kernel
theorem dX6_workOut_111 : decode cX6_workOut 111 = .ok (.getfield 15, 3) := by decide +kernel
theorem dX6_workOut_114 : decode cX6_workOut 114 = .ok (.iload 4, 2) := by decide +kernel
theorem dX6_workOut_116 : decode cX6_workOut 116 = .ok (.iconst 1, 1) := by decide +kernel
theorem dX6_workOut_117 : decode cX6_workOut 117 = .ok (.isub, 1) := by decide +kernel
theorem dX6_workOut_118 : decode cX6_workOut 118 = .ok (.iload 6, 2) := by decide +kernel
theorem dX6_workOut_120 : decode cX6_workOut 120 = .ok (.ineg, 1) := by decide +kernel
theorem dX6_workOut_121 : decode cX6_workOut 121 = .ok (.aload_n 0, 1) := by decide +kernel
theorem dX6_workOut_122 : decode cX6_workOut 122 = .ok (.getfield 15, 3) := by decide +kernel
theorem dX6_workOut_125 : decode cX6_workOut 125 = .ok (.iload 4, 2) := by decide +kernel
theorem dX6_workOut_127 : decode cX6_workOut 127 = .ok (.iconst 1, 1) := by decide +kernel
theorem dX6_workOut_128 : decode cX6_workOut 128 = .ok (.isub, 1) := by decide +kernel
theorem dX6_workOut_129 : decode cX6_workOut 129 = .ok (.iaload, 1) := by decide +kernel
theorem dX6_workOut_130 : decode cX6_workOut 130 = .ok (.aload_n 0, 1) := by decide +kernel
theorem dX6_workOut_131 : decode cX6_workOut 131 = .ok (.getfield 15, 3) := by decide +kernel
theorem dX6_workOut_134 : decode cX6_workOut 134 = .ok (.iload 4, 2) := by decide +kernel
theorem dX6_workOut_136 : decode cX6_workOut 136 = .ok (.iaload, 1) := by decide +kernel
theorem dX6_workOut_137 : decode cX6_workOut 137 = .ok (.invokestatic 32, 3) := by decide +kernel
theorem dX6_workOut_140 : decode cX6_workOut 140 = .ok (.iastore, 1) := by decide +kernel
theorem dX6_workOut_141 : decode cX6_workOut 141 = .ok (.iinc 5 1, 3) := by decide +kernel
theorem dX6_workOut_144 : decode cX6_workOut 144 = .ok (.goto (-138), 3) := by decide +kernel
theorem dX6_workOut_147 : decode cX6_workOut 147 = .ok (.aload_n 0, 1) := by decide +kernel
theorem dX6_workOut_148 : decode cX6_workOut 148 = .ok (.getfield 15, 3) := by decide +kernel
theorem dX6_workOut_151 : decode cX6_workOut 151 = .ok (.iconst 0, 1) := by decide +kernel
theorem dX6_workOut_152 : decode cX6_workOut 152 = .ok (.iaload, 1) := by decide +kernel
theorem dX6_workOut_153 : decode cX6_workOut 153 = .ok (.ireturn, 1) := by decide +kernel
theorem dX6_valueOf_0 : decode cX6_valueOf 0 = .ok (.iload_n 0, 1) := by decide +kernel
theorem dX6_valueOf_1 : decode cX6_valueOf 1 = .ok (.tableswitch 33 (-3) (-1) #[31, 29, 27], 27) := by decide +kernel
theorem dX6_valueOf_28 : decode cX6_valueOf 28 = .ok (.iload_n 1, 1) := by decide +kernel
theorem dX6_valueOf_29 : decode cX6_valueOf 29 = .ok (.ireturn, 1) := by decide +kernel
theorem dX6_valueOf_30 : decode cX6_valueOf 30 = .ok (.iload_n 2, 1) := by decide +kernel
theorem dX6_valueOf_31 : decode cX6_valueOf 31 = .ok (.ireturn, 1) := by decide +kernel
theorem dX6_valueOf_32 : decode cX6_valueOf 32 = .ok (.iload_n 3, 1) := by decide +kernel
theorem dX6_valueOf_33 : decode cX6_valueOf 33 = .ok (.ireturn, 1) := by decide +kernel
theorem dX6_valueOf_34 : decode cX6_valueOf 34 = .ok (.iload_n 0, 1) := by decide +kernel
theorem dX6_valueOf_35 : decode cX6_valueOf 35 = .ok (.ireturn, 1) := by decide +kernel
theorem dX6_join_0 : decode cX6_join 0 = .ok (.iload_n 0, 1) := by decide +kernel
theorem dX6_join_1 : decode cX6_join 1 = .ok (.lookupswitch 188 #[(37, 176), (38, 105), (42, 160), (43, 152), (45, 156), (47, 164), (60, 119), (61, 130), (62, 141), (124, 91)], 91) := by decide +kernel
theorem dX6_join_92 : decode cX6_join 92 = .ok (.iload_n 1, 1) := by decide +kernel
theorem dX6_join_93 : decode cX6_join 93 = .ok (.ifCond .ne 7, 3) := by decide +kernel
theorem dX6_join_96 : decode cX6_join 96 = .ok (.iload_n 2, 1) := by decide +kernel
theorem dX6_join_97 : decode cX6_join 97 = .ok (.ifCond .eq 7, 3) := by decide +kernel
theorem dX6_join_100 : decode cX6_join 100 = .ok (.iconst 1, 1) := by decide +kernel
theorem dX6_join_101 : decode cX6_join 101 = .ok (.goto 4, 3) := by decide +kernel
theorem dX6_join_104 : decode cX6_join 104 = .ok (.iconst 0, 1) := by decide +kernel
theorem dX6_join_105 : decode cX6_join 105 = .ok (.ireturn, 1) := by decide +kernel
theorem dX6_join_106 : decode cX6_join 106 = .ok (.iload_n 1, 1) := by decide +kernel
theorem dX6_join_107 : decode cX6_join 107 = .ok (.ifCond .eq 11, 3) := by decide +kernel
theorem dX6_join_110 : decode cX6_join 110 = .ok (.iload_n 2, 1) := by decide +kernel
theorem dX6_join_111 : decode cX6_join 111 = .ok (.ifCond .eq 7, 3) := by decide +kernel
theorem dX6_join_114 : decode cX6_join 114 = .ok (.iconst 1, 1) := by decide +kernel
theorem dX6_join_115 : decode cX6_join 115 = .ok (.goto 4, 3) := by decide +kernel
theorem dX6_join_118 : decode cX6_join 118 = .ok (.iconst 0, 1) := by decide +kernel
theorem dX6_join_119 : decode cX6_join 119 = .ok (.ireturn, 1) := by decide +kernel
theorem dX6_join_120 : decode cX6_join 120 = .ok (.iload_n 1, 1) := by decide +kernel
theorem dX6_join_121 : decode cX6_join 121 = .ok (.iload_n 2, 1) := by decide +kernel
theorem dX6_join_122 : decode cX6_join 122 = .ok (.if_icmp .ge 7, 3) := by decide +kernel
theorem dX6_join_125 : decode cX6_join 125 = .ok (.iconst 1, 1) := by decide +kernel
theorem dX6_join_126 : decode cX6_join 126 = .ok (.goto 4, 3) := by decide +kernel
theorem dX6_join_129 : decode cX6_join 129 = .ok (.iconst 0, 1) := by decide +kernel
theorem dX6_join_130 : decode cX6_join 130 = .ok (.ireturn, 1) := by decide +kernel
theorem dX6_join_131 : decode cX6_join 131 = .ok (.iload_n 1, 1) := by decide +kernel
theorem dX6_join_132 : decode cX6_join 132 = .ok (.iload_n 2, 1) := by decide +kernel
theorem dX6_join_133 : decode cX6_join 133 = .ok (.if_icmp .ne 7, 3) := by decide +kernel
theorem dX6_join_136 : decode cX6_join 136 = .ok (.iconst 1, 1) := by decide +kernel
theorem dX6_join_137 : decode cX6_join 137 = .ok (.goto 4, 3) := by decide +kernel
theorem dX6_join_140 : decode cX6_join 140 = .ok (.iconst 0, 1) := by decide +kernel
theorem dX6_join_141 : decode cX6_join 141 = .ok (.ireturn, 1) := by decide +kernel
theorem dX6_join_142 : decode cX6_join 142 = .ok (.iload_n 1, 1) := by decide +kernel
theorem dX6_join_143 : decode cX6_join 143 = .ok (.iload_n 2, 1) := by decide +kernel
theorem dX6_join_144 : decode cX6_join 144 = .ok (.if_icmp .le 7, 3) := by decide +kernel
theorem dX6_join_147 : decode cX6_join 147 = .ok (.iconst 1, 1) := by decide +kernel
theorem dX6_join_148 : decode cX6_join 148 = .ok (.goto 4, 3) := by decide +kernel
theorem dX6_join_151 : decode cX6_join 151 = .ok (.iconst 0, 1) := by decide +kernel
theorem dX6_join_152 : decode cX6_join 152 = .ok (.ireturn, 1) := by decide +kernel
theorem dX6_join_153 : decode cX6_join 153 = .ok (.iload_n 1, 1) := by decide +kernel
theorem dX6_join_154 : decode cX6_join 154 = .ok (.iload_n 2, 1) := by decide +kernel
theorem dX6_join_155 : decode cX6_join 155 = .ok (.iadd, 1) := by decide +kernel
theorem dX6_join_156 : decode cX6_join 156 = .ok (.ireturn, 1) := by decide +kernel
theorem dX6_join_157 : decode cX6_join 157 = .ok (.iload_n 1, 1) := by decide +kernel
theorem dX6_join_158 : decode cX6_join 158 = .ok (.iload_n 2, 1) := by decide +kernel
theorem dX6_join_159 : decode cX6_join 159 = .ok (.isub, 1) := by decide +kernel
theorem dX6_join_160 : decode cX6_join 160 = .ok (.ireturn, 1) := by decide +kernel
theorem dX6_join_161 : decode cX6_join 161 = .ok (.iload_n 1, 1) := by decide +kernel
theorem dX6_join_162 : decode cX6_join 162 = .ok (.iload_n 2, 1) := by decide +kernel
theorem dX6_join_163 : decode cX6_join 163 = .ok (.imul, 1) := by decide +kernel
theorem dX6_join_164 : decode cX6_join 164 = .ok (.ireturn, 1) := by decide +kernel
theorem dX6_join_165 : decode cX6_join 165 = .ok (.iload_n 2, 1) := by decide +kernel
theorem dX6_join_166 : decode cX6_join 166 = .ok (.ifCond .ne 7, 3) := by decide +kernel
theorem dX6_join_169 : decode cX6_join 169 = .ok (.iconst 0, 1) := by decide +kernel
theorem dX6_join_170 : decode cX6_join 170 = .ok (.goto 6, 3) := by decide +kernel
theorem dX6_join_173 : decode cX6_join 173 = .ok (.iload_n 1, 1) := by decide +kernel
theorem dX6_join_174 : decode cX6_join 174 = .ok (.iload_n 2, 1) := by decide +kernel
theorem dX6_join_175 : decode cX6_join 175 = .ok (.idiv, 1) := by decide +kernel
theorem dX6_join_176 : decode cX6_join 176 = .ok (.ireturn, 1) := by decide +kernel
theorem dX6_join_177 : decode cX6_join 177 = .ok (.iload_n 2, 1) := by decide +kernel
theorem dX6_join_178 : decode cX6_join 178 = .ok (.ifCond .ne 7, 3) := by decide +kernel
theorem dX6_join_181 : decode cX6_join 181 = .ok (.iconst 0, 1) := by decide +kernel
theorem dX6_join_182 : decode cX6_join 182 = .ok (.goto 6, 3) := by decide +kernel
theorem dX6_join_185 : decode cX6_join 185 = .ok (.iload_n 1, 1) := by decide +kernel
theorem dX6_join_186 : decode cX6_join 186 = .ok (.iload_n 2, 1) := by decide +kernel
theorem dX6_join_187 : decode cX6_join 187 = .ok (.irem, 1) := by decide +kernel
theorem dX6_join_188 : decode cX6_join 188 = .ok (.ireturn, 1) := by decide +kernel
theorem dX6_join_189 : decode cX6_join 189 = .ok (.iconst 0, 1) := by decide +kernel
theorem dX6_join_190 : decode cX6_join 190 = .ok (.ireturn, 1) := by decide +kernel
theorem dX7_init_0 : decode cX7_init 0 = .ok (.aload_n 0, 1) := by decide +kernel
theorem dX7_init_1 : decode cX7_init 1 = .ok (.invokespecial 3, 3) := by decide +kernel
theorem dX7_init_4 : decode cX7_init 4 = .ok (.aload_n 0, 1) := by decide +kernel
theorem dX7_init_5 : decode cX7_init 5 = .ok (.bipush 40, 2) := by decide +kernel
theorem dX7_init_7 : decode cX7_init 7 = .ok (.newarray .int, 2) := by decide +kernel
theorem dX7_init_9 : decode cX7_init 9 = .ok (.putfield 11, 3) := by decide +kernel
theorem dX7_init_12 : decode cX7_init 12 = .ok (.return_, 1) := by decide +kernel
theorem dX7_raise_0 : decode cX7_raise 0 = .ok (.aload_n 0, 1) := by decide +kernel
theorem dX7_raise_1 : decode cX7_raise 1 = .ok (.iload_n 1, 1) := by decide +kernel
theorem dX7_raise_2 : decode cX7_raise 2 = .ok (.putfield 15, 3) := by decide +kernel
theorem dX7_raise_5 : decode cX7_raise 5 = .ok (.aload_n 0, 1) := by decide +kernel
theorem dX7_raise_6 : decode cX7_raise 6 = .ok (.iload_n 2, 1) := by decide +kernel
theorem dX7_raise_7 : decode cX7_raise 7 = .ok (.putfield 19, 3) := by decide +kernel
theorem dX7_raise_10 : decode cX7_raise 10 = .ok (.aload_n 0, 1) := by decide +kernel
theorem dX7_raise_11 : decode cX7_raise 11 = .ok (.iload_n 3, 1) := by decide +kernel
theorem dX7_raise_12 : decode cX7_raise 12 = .ok (.putfield 22, 3) := by decide +kernel
theorem dX7_raise_15 : decode cX7_raise 15 = .ok (.aload_n 0, 1) := by decide +kernel
theorem dX7_raise_16 : decode cX7_raise 16 = .ok (.iconst 0, 1) := by decide +kernel
theorem dX7_raise_17 : decode cX7_raise 17 = .ok (.putfield 25, 3) := by decide +kernel
theorem dX7_raise_20 : decode cX7_raise 20 = .ok (.aload_n 0, 1) := by decide +kernel
theorem dX7_raise_21 : decode cX7_raise 21 = .ok (.aload_n 0, 1) := by decide +kernel
theorem dX7_raise_22 : decode cX7_raise 22 = .ok (.getfield 22, 3) := by decide +kernel
theorem dX7_raise_25 : decode cX7_raise 25 = .ok (.iload 4, 2) := by decide +kernel
theorem dX7_raise_27 : decode cX7_raise 27 = .ok (.iload 5, 2) := by decide +kernel
theorem dX7_raise_29 : decode cX7_raise 29 = .ok (.iconst 0, 1) := by decide +kernel
theorem dX7_raise_30 : decode cX7_raise 30 = .ok (.invokevirtual 28, 3) := by decide +kernel
theorem dX7_raise_33 : decode cX7_raise 33 = .ok (.ireturn, 1) := by decide +kernel
theorem dX7_speak_0 : decode cX7_speak 0 = .ok (.iload_n 1, 1) := by decide +kernel
theorem dX7_speak_1 : decode cX7_speak 1 = .ok (.istore 5, 2) := by decide +kernel
theorem dX7_speak_3 : decode cX7_speak 3 = .ok (.iconst 0, 1) := by decide +kernel
theorem dX7_speak_4 : decode cX7_speak 4 = .ok (.istore 6, 2) := by decide +kernel
theorem dX7_speak_6 : decode cX7_speak 6 = .ok (.iload 6, 2) := by decide +kernel
theorem dX7_speak_8 : decode cX7_speak 8 = .ok (.bipush 7, 2) := by decide +kernel
theorem dX7_speak_10 : decode cX7_speak 10 = .ok (.if_icmp .ge 38, 3) := by decide +kernel
theorem dX7_speak_13 : decode cX7_speak 13 = .ok (.iload 5, 2) := by decide +kernel
theorem dX7_speak_15 : decode cX7_speak 15 = .ok (.invokestatic 32, 3) := by decide +kernel
theorem dX7_speak_18 : decode cX7_speak 18 = .ok (.ifCond .eq 30, 3) := by decide +kernel
theorem dX7_speak_21 : decode cX7_speak 21 = .ok (.getstatic 36, 3) := by decide +kernel
theorem dX7_speak_24 : decode cX7_speak 24 = .ok (.iload 5, 2) := by decide +kernel
theorem dX7_speak_26 : decode cX7_speak 26 = .ok (.iconst 4, 1) := by decide +kernel
theorem dX7_speak_27 : decode cX7_speak 27 = .ok (.imul, 1) := by decide +kernel
theorem dX7_speak_28 : decode cX7_speak 28 = .ok (.iload_n 2, 1) := by decide +kernel
theorem dX7_speak_29 : decode cX7_speak 29 = .ok (.iadd, 1) := by decide +kernel
theorem dX7_speak_30 : decode cX7_speak 30 = .ok (.iaload, 1) := by decide +kernel
theorem dX7_speak_31 : decode cX7_speak 31 = .ok (.ifCond .ne 17, 3) := by decide +kernel
theorem dX7_speak_34 : decode cX7_speak 34 = .ok (.getstatic 39, 3) := by decide +kernel
theorem dX7_speak_37 : decode cX7_speak 37 = .ok (.iload 5, 2) := by decide +kernel
theorem dX7_speak_39 : decode cX7_speak 39 = .ok (.iaload, 1) := by decide +kernel
theorem dX7_speak_40 : decode cX7_speak 40 = .ok (.istore 5, 2) := by decide +kernel
theorem dX7_speak_42 : decode cX7_speak 42 = .ok (.iinc 6 1, 3) := by decide +kernel
theorem dX7_speak_45 : decode cX7_speak 45 = .ok (.goto (-39), 3) := by decide +kernel
theorem dX7_speak_48 : decode cX7_speak 48 = .ok (.iload 5, 2) := by decide +kernel
theorem dX7_speak_50 : decode cX7_speak 50 = .ok (.invokestatic 32, 3) := by decide +kernel
theorem dX7_speak_53 : decode cX7_speak 53 = .ok (.ifCond .eq 10, 3) := by decide +kernel
theorem dX7_speak_56 : decode cX7_speak 56 = .ok (.iload 4, 2) := by decide +kernel
theorem dX7_speak_58 : decode cX7_speak 58 = .ok (.bipush 30, 2) := by decide +kernel
theorem dX7_speak_60 : decode cX7_speak 60 = .ok (.if_icmp .le 5, 3) := by decide +kernel
theorem dX7_speak_63 : decode cX7_speak 63 = .ok (.iconst 0, 1) := by decide +kernel
theorem dX7_speak_64 : decode cX7_speak 64 = .ok (.ireturn, 1) := by decide +kernel
theorem dX7_speak_65 : decode cX7_speak 65 = .ok (.getstatic 36, 3) := by decide +kernel
theorem dX7_speak_68 : decode cX7_speak 68 = .ok (.iload 5, 2) := by decide +kernel
theorem dX7_speak_70 : decode cX7_speak 70 = .ok (.iconst 4, 1) := by decide +kernel
theorem dX7_speak_71 : decode cX7_speak 71 = .ok (.imul, 1) := by decide +kernel
theorem dX7_speak_72 : decode cX7_speak 72 = .ok (.iload_n 2, 1) := by decide +kernel
theorem dX7_speak_73 : decode cX7_speak 73 = .ok (.iadd, 1) := by decide +kernel
theorem dX7_speak_74 : decode cX7_speak 74 = .ok (.iaload, 1) := by decide +kernel
theorem dX7_speak_75 : decode cX7_speak 75 = .ok (.istore 6, 2) := by decide +kernel
theorem dX7_speak_77 : decode cX7_speak 77 = .ok (.aload_n 0, 1) := by decide +kernel
theorem dX7_speak_78 : decode cX7_speak 78 = .ok (.iload 6, 2) := by decide +kernel
theorem dX7_speak_80 : decode cX7_speak 80 = .ok (.invokevirtual 42, 3) := by decide +kernel
theorem dX7_speak_83 : decode cX7_speak 83 = .ok (.aload_n 0, 1) := by decide +kernel
theorem dX7_speak_84 : decode cX7_speak 84 = .ok (.iload 6, 2) := by decide +kernel
theorem dX7_speak_86 : decode cX7_speak 86 = .ok (.getstatic 39, 3) := by decide +kernel
theorem dX7_speak_89 : decode cX7_speak 89 = .ok (.iload 5, 2) := by decide +kernel
theorem dX7_speak_91 : decode cX7_speak 91 = .ok (.iaload, 1) := by decide +kernel
theorem dX7_speak_92 : decode cX7_speak 92 = .ok (.iload_n 3, 1) := by decide +kernel
theorem dX7_speak_93 : decode cX7_speak 93 = .ok (.iload 4, 2) := by decide +kernel
theorem dX7_speak_95 : decode cX7_speak 95 = .ok (.iconst 1, 1) := by decide +kernel
theorem dX7_speak_96 : decode cX7_speak 96 = .ok (.iadd, 1) := by decide +kernel
theorem dX7_speak_97 : decode cX7_speak 97 = .ok (.invokevirtual 46, 3) := by decide +kernel
theorem dX7_speak_100 : decode cX7_speak 100 = .ok (.ireturn, 1) := by decide +kernel
theorem dX7_begin_0 : decode cX7_begin 0 = .ok (.aload_n 0, 1) := by decide +kernel
theorem dX7_begin_1 : decode cX7_begin 1 = .ok (.getfield 25, 3) := by decide +kernel
theorem dX7_begin_4 : decode cX7_begin 4 = .ok (.bipush 40, 2) := by decide +kernel
theorem dX7_begin_6 : decode cX7_begin 6 = .ok (.if_icmp .ge 23, 3) := by decide +kernel
theorem dX7_begin_9 : decode cX7_begin 9 = .ok (.aload_n 0, 1) := by decide +kernel
theorem dX7_begin_10 : decode cX7_begin 10 = .ok (.getfield 11, 3) := by decide +kernel
theorem dX7_begin_13 : decode cX7_begin 13 = .ok (.aload_n 0, 1) := by decide +kernel
theorem dX7_begin_14 : decode cX7_begin 14 = .ok (.getfield 25, 3) := by decide +kernel
theorem dX7_begin_17 : decode cX7_begin 17 = .ok (.iload_n 1, 1) := by decide +kernel
theorem dX7_begin_18 : decode cX7_begin 18 = .ok (.iastore, 1) := by decide +kernel
theorem dX7_begin_19 : decode cX7_begin 19 = .ok (.aload_n 0, 1) := by decide +kernel
theorem dX7_begin_20 : decode cX7_begin 20 = .ok (.dup, 1) := by decide +kernel
theorem dX7_begin_21 : decode cX7_begin 21 = .ok (.getfield 25, 3) := by decide +kernel
theorem dX7_begin_24 : decode cX7_begin 24 = .ok (.iconst 1, 1) := by decide +kernel
theorem dX7_begin_25 : decode cX7_begin 25 = .ok (.iadd, 1) := by decide +kernel
theorem dX7_begin_26 : decode cX7_begin 26 = .ok (.putfield 25, 3) := by decide +kernel
theorem dX7_begin_29 : decode cX7_begin 29 = .ok (.return_, 1) := by decide +kernel
theorem dX7_run_0 : decode cX7_run 0 = .ok (.iload_n 1, 1) := by decide +kernel
theorem dX7_run_1 : decode cX7_run 1 = .ok (.lookupswitch 296 #[(10, 107), (11, 114), (12, 129), (13, 136), (20, 162), (30, 185), (40, 197), (50, 208), (51, 220), (60, 243), (70, 258), (71, 273)], 107) := by decide +kernel
theorem dX7_run_108 : decode cX7_run 108 = .ok (.iload_n 3, 1) := by decide +kernel
theorem dX7_run_109 : decode cX7_run 109 = .ok (.aload_n 0, 1) := by decide +kernel
theorem dX7_run_110 : decode cX7_run 110 = .ok (.getfield 15, 3) := by decide +kernel
theorem dX7_run_113 : decode cX7_run 113 = .ok (.iadd, 1) := by decide +kernel
theorem dX7_run_114 : decode cX7_run 114 = .ok (.ireturn, 1) := by decide +kernel
theorem dX7_run_115 : decode cX7_run 115 = .ok (.aload_n 0, 1) := by decide +kernel
theorem dX7_run_116 : decode cX7_run 116 = .ok (.aload_n 0, 1) := by decide +kernel
theorem dX7_run_117 : decode cX7_run 117 = .ok (.getfield 22, 3) := by decide +kernel
theorem dX7_run_120 : decode cX7_run 120 = .ok (.iconst 0, 1) := by decide +kernel
theorem dX7_run_121 : decode cX7_run 121 = .ok (.iload_n 3, 1) := by decide +kernel
theorem dX7_run_122 : decode cX7_run 122 = .ok (.iload 4, 2) := by decide +kernel
theorem dX7_run_124 : decode cX7_run 124 = .ok (.invokevirtual 28, 3) := by decide +kernel
theorem dX7_run_127 : decode cX7_run 127 = .ok (.iconst 2, 1) := by decide +kernel
theorem dX7_run_128 : decode cX7_run 128 = .ok (.imul, 1) := by decide +kernel
theorem dX7_run_129 : decode cX7_run 129 = .ok (.ireturn, 1) := by decide +kernel
theorem dX7_run_130 : decode cX7_run 130 = .ok (.iload_n 3, 1) := by decide +kernel
theorem dX7_run_131 : decode cX7_run 131 = .ok (.aload_n 0, 1) := by decide +kernel
theorem dX7_run_132 : decode cX7_run 132 = .ok (.getfield 19, 3) := by decide +kernel
theorem dX7_run_135 : decode cX7_run 135 = .ok (.isub, 1) := by decide +kernel
theorem dX7_run_136 : decode cX7_run 136 = .ok (.ireturn, 1) := by decide +kernel
theorem dX7_run_137 : decode cX7_run 137 = .ok (.aload_n 0, 1) := by decide +kernel
theorem dX7_run_138 : decode cX7_run 138 = .ok (.aload_n 0, 1) := by decide +kernel
theorem dX7_run_139 : decode cX7_run 139 = .ok (.getfield 22, 3) := by decide +kernel
theorem dX7_run_142 : decode cX7_run 142 = .ok (.iconst 1, 1) := by decide +kernel
theorem dX7_run_143 : decode cX7_run 143 = .ok (.iload_n 3, 1) := by decide +kernel
theorem dX7_run_144 : decode cX7_run 144 = .ok (.iload 4, 2) := by decide +kernel
theorem dX7_run_146 : decode cX7_run 146 = .ok (.invokevirtual 28, 3) := by decide +kernel
theorem dX7_run_149 : decode cX7_run 149 = .ok (.aload_n 0, 1) := by decide +kernel
theorem dX7_run_150 : decode cX7_run 150 = .ok (.aload_n 0, 1) := by decide +kernel
theorem dX7_run_151 : decode cX7_run 151 = .ok (.getfield 22, 3) := by decide +kernel
theorem dX7_run_154 : decode cX7_run 154 = .ok (.iconst 2, 1) := by decide +kernel
theorem dX7_run_155 : decode cX7_run 155 = .ok (.iload_n 3, 1) := by decide +kernel
theorem dX7_run_156 : decode cX7_run 156 = .ok (.iload 4, 2) := by decide +kernel
theorem dX7_run_158 : decode cX7_run 158 = .ok (.invokevirtual 28, 3) := by decide +kernel
theorem dX7_run_161 : decode cX7_run 161 = .ok (.ixor, 1) := by decide +kernel
theorem dX7_run_162 : decode cX7_run 162 = .ok (.ireturn, 1) := by decide +kernel
theorem dX7_run_163 : decode cX7_run 163 = .ok (.aload_n 0, 1) := by decide +kernel
theorem dX7_run_164 : decode cX7_run 164 = .ok (.iload_n 2, 1) := by decide +kernel
theorem dX7_run_165 : decode cX7_run 165 = .ok (.iconst 1, 1) := by decide +kernel
theorem dX7_run_166 : decode cX7_run 166 = .ok (.iload_n 3, 1) := by decide +kernel
theorem dX7_run_167 : decode cX7_run 167 = .ok (.iload 4, 2) := by decide +kernel
theorem dX7_run_169 : decode cX7_run 169 = .ok (.invokevirtual 28, 3) := by decide +kernel
theorem dX7_run_172 : decode cX7_run 172 = .ok (.aload_n 0, 1) := by decide +kernel
theorem dX7_run_173 : decode cX7_run 173 = .ok (.aload_n 0, 1) := by decide +kernel
theorem dX7_run_174 : decode cX7_run 174 = .ok (.getfield 22, 3) := by decide +kernel
theorem dX7_run_177 : decode cX7_run 177 = .ok (.iconst 2, 1) := by decide +kernel
theorem dX7_run_178 : decode cX7_run 178 = .ok (.iconst 1, 1) := by decide +kernel
theorem dX7_run_179 : decode cX7_run 179 = .ok (.iload 4, 2) := by decide +kernel
theorem dX7_run_181 : decode cX7_run 181 = .ok (.invokevirtual 28, 3) := by decide +kernel
theorem dX7_run_184 : decode cX7_run 184 = .ok (.isub, 1) := by decide +kernel
theorem dX7_run_185 : decode cX7_run 185 = .ok (.ireturn, 1) := by decide +kernel
theorem dX7_run_186 : decode cX7_run 186 = .ok (.aload_n 0, 1) := by decide +kernel
theorem dX7_run_187 : decode cX7_run 187 = .ok (.iload_n 2, 1) := by decide +kernel
theorem dX7_run_188 : decode cX7_run 188 = .ok (.iconst 0, 1) := by decide +kernel
theorem dX7_run_189 : decode cX7_run 189 = .ok (.iload_n 3, 1) := by decide +kernel
theorem dX7_run_190 : decode cX7_run 190 = .ok (.iload 4, 2) := by decide +kernel
theorem dX7_run_192 : decode cX7_run 192 = .ok (.invokevirtual 28, 3) := by decide +kernel
theorem dX7_run_195 : decode cX7_run 195 = .ok (.iconst 3, 1) := by decide +kernel
theorem dX7_run_196 : decode cX7_run 196 = .ok (.imul, 1) := by decide +kernel
theorem dX7_run_197 : decode cX7_run 197 = .ok (.ireturn, 1) := by decide +kernel
theorem dX7_run_198 : decode cX7_run 198 = .ok (.aload_n 0, 1) := by decide +kernel
theorem dX7_run_199 : decode cX7_run 199 = .ok (.iload_n 2, 1) := by decide +kernel
theorem dX7_run_200 : decode cX7_run 200 = .ok (.iconst 2, 1) := by decide +kernel
theorem dX7_run_201 : decode cX7_run 201 = .ok (.iload_n 3, 1) := by decide +kernel
theorem dX7_run_202 : decode cX7_run 202 = .ok (.iload 4, 2) := by decide +kernel
theorem dX7_run_204 : decode cX7_run 204 = .ok (.invokevirtual 28, 3) := by decide +kernel
theorem dX7_run_207 : decode cX7_run 207 = .ok (.ineg, 1) := by decide +kernel
theorem dX7_run_208 : decode cX7_run 208 = .ok (.ireturn, 1) := by decide +kernel
theorem dX7_run_209 : decode cX7_run 209 = .ok (.aload_n 0, 1) := by decide +kernel
theorem dX7_run_210 : decode cX7_run 210 = .ok (.iload_n 2, 1) := by decide +kernel
theorem dX7_run_211 : decode cX7_run 211 = .ok (.iconst 0, 1) := by decide +kernel
theorem dX7_run_212 : decode cX7_run 212 = .ok (.iload_n 3, 1) := by decide +kernel
theorem dX7_run_213 : decode cX7_run 213 = .ok (.iconst 1, 1) := by decide +kernel
theorem dX7_run_214 : decode cX7_run 214 = .ok (.iadd, 1) := by decide +kernel
theorem dX7_run_215 : decode cX7_run 215 = .ok (.iload 4, 2) := by decide +kernel
theorem dX7_run_217 : decode cX7_run 217 = .ok (.invokevirtual 28, 3) := by decide +kernel
theorem dX7_run_220 : decode cX7_run 220 = .ok (.ireturn, 1) := by decide +kernel
theorem dX7_run_221 : decode cX7_run 221 = .ok (.aload_n 0, 1) := by decide +kernel
theorem dX7_run_222 : decode cX7_run 222 = .ok (.iload_n 2, 1) := by decide +kernel
theorem dX7_run_223 : decode cX7_run 223 = .ok (.iconst 3, 1) := by decide +kernel
theorem dX7_run_224 : decode cX7_run 224 = .ok (.iload_n 3, 1) := by decide +kernel
theorem dX7_run_225 : decode cX7_run 225 = .ok (.iload 4, 2) := by decide +kernel
theorem dX7_run_227 : decode cX7_run 227 = .ok (.invokevirtual 28, 3) := by decide +kernel
theorem dX7_run_230 : decode cX7_run 230 = .ok (.aload_n 0, 1) := by decide +kernel
theorem dX7_run_231 : decode cX7_run 231 = .ok (.aload_n 0, 1) := by decide +kernel
theorem dX7_run_232 : decode cX7_run 232 = .ok (.getfield 22, 3) := by decide +kernel
theorem dX7_run_235 : decode cX7_run 235 = .ok (.iconst 0, 1) := by decide +kernel
theorem dX7_run_236 : decode cX7_run 236 = .ok (.iconst 2, 1) := by decide +kernel
theorem dX7_run_237 : decode cX7_run 237 = .ok (.iload 4, 2) := by decide +kernel
theorem dX7_run_239 : decode cX7_run 239 = .ok (.invokevirtual 28, 3) := by decide +kernel
theorem dX7_run_242 : decode cX7_run 242 = .ok (.isub, 1) := by decide +kernel
theorem dX7_run_243 : decode cX7_run 243 = .ok (.ireturn, 1) := by decide +kernel
theorem dX7_run_244 : decode cX7_run 244 = .ok (.aload_n 0, 1) := by decide +kernel
theorem dX7_run_245 : decode cX7_run 245 = .ok (.iload_n 2, 1) := by decide +kernel
theorem dX7_run_246 : decode cX7_run 246 = .ok (.iconst 1, 1) := by decide +kernel
theorem dX7_run_247 : decode cX7_run 247 = .ok (.iload_n 3, 1) := by decide +kernel
theorem dX7_run_248 : decode cX7_run 248 = .ok (.iload 4, 2) := by decide +kernel
theorem dX7_run_250 : decode cX7_run 250 = .ok (.invokevirtual 28, 3) := by decide +kernel
theorem dX7_run_253 : decode cX7_run 253 = .ok (.aload_n 0, 1) := by decide +kernel
theorem dX7_run_254 : decode cX7_run 254 = .ok (.getfield 15, 3) := by decide +kernel
theorem dX7_run_257 : decode cX7_run 257 = .ok (.ixor, 1) := by decide +kernel
theorem dX7_run_258 : decode cX7_run 258 = .ok (.ireturn, 1) := by decide +kernel
theorem dX7_run_259 : decode cX7_run 259 = .ok (.aload_n 0, 1) := by decide +kernel
theorem dX7_run_260 : decode cX7_run 260 = .ok (.iload_n 2, 1) := by decide +kernel
theorem dX7_run_261 : decode cX7_run 261 = .ok (.iconst 2, 1) := by decide +kernel
theorem dX7_run_262 : decode cX7_run 262 = .ok (.iload_n 3, 1) := by decide +kernel
theorem dX7_run_263 : decode cX7_run 263 = .ok (.iload 4, 2) := by decide +kernel
theorem dX7_run_265 : decode cX7_run 265 = .ok (.invokevirtual 28, 3) := by decide +kernel
theorem dX7_run_268 : decode cX7_run 268 = .ok (.aload_n 0, 1) := by decide +kernel
theorem dX7_run_269 : decode cX7_run 269 = .ok (.getfield 19, 3) := by decide +kernel
theorem dX7_run_272 : decode cX7_run 272 = .ok (.iadd, 1) := by decide +kernel
theorem dX7_run_273 : decode cX7_run 273 = .ok (.ireturn, 1) := by decide +kernel
theorem dX7_run_274 : decode cX7_run 274 = .ok (.aload_n 0, 1) := by decide +kernel
theorem dX7_run_275 : decode cX7_run 275 = .ok (.aload_n 0, 1) := by decide +kernel
theorem dX7_run_276 : decode cX7_run 276 = .ok (.getfield 22, 3) := by decide +kernel
theorem dX7_run_279 : decode cX7_run 279 = .ok (.iconst 1, 1) := by decide +kernel
theorem dX7_run_280 : decode cX7_run 280 = .ok (.iload_n 3, 1) := by decide +kernel
theorem dX7_run_281 : decode cX7_run 281 = .ok (.iload 4, 2) := by decide +kernel
theorem dX7_run_283 : decode cX7_run 283 = .ok (.invokevirtual 28, 3) := by decide +kernel
theorem dX7_run_286 : decode cX7_run 286 = .ok (.aload_n 0, 1) := by decide +kernel
theorem dX7_run_287 : decode cX7_run 287 = .ok (.iload_n 2, 1) := by decide +kernel
theorem dX7_run_288 : decode cX7_run 288 = .ok (.iconst 3, 1) := by decide +kernel
theorem dX7_run_289 : decode cX7_run 289 = .ok (.iload_n 3, 1) := by decide +kernel
theorem dX7_run_290 : decode cX7_run 290 = .ok (.iload 4, 2) := by decide +kernel
theorem dX7_run_292 : decode cX7_run 292 = .ok (.invokevirtual 28, 3) := by decide +kernel
theorem dX7_run_295 : decode cX7_run 295 = .ok (.isub, 1) := by decide +kernel
theorem dX7_run_296 : decode cX7_run 296 = .ok (.ireturn, 1) := by decide +kernel
theorem dX7_run_297 : decode cX7_run 297 = .ok (.iconst 0, 1) := by decide +kernel
theorem dX7_run_298 : decode cX7_run 298 = .ok (.ireturn, 1) := by decide +kernel
theorem dX8_init_0 : decode cX8_init 0 = .ok (.aload_n 0, 1) := by decide +kernel
theorem dX8_init_1 : decode cX8_init 1 = .ok (.invokespecial 3, 3) := by decide +kernel
theorem dX8_init_4 : decode cX8_init 4 = .ok (.aload_n 0, 1) := by decide +kernel
theorem dX8_init_5 : decode cX8_init 5 = .ok (.sipush 162, 3) := by decide +kernel
theorem dX8_init_8 : decode cX8_init 8 = .ok (.newarray .int, 2) := by decide +kernel
theorem dX8_init_10 : decode cX8_init 10 = .ok (.putfield 11, 3) := by decide +kernel
theorem dX8_init_13 : decode cX8_init 13 = .ok (.aload_n 0, 1) := by decide +kernel
theorem dX8_init_14 : decode cX8_init 14 = .ok (.sipush 189, 3) := by decide +kernel
theorem dX8_init_17 : decode cX8_init 17 = .ok (.newarray .long, 2) := by decide +kernel
theorem dX8_init_19 : decode cX8_init 19 = .ok (.putfield 15, 3) := by decide +kernel
theorem dX8_init_22 : decode cX8_init 22 = .ok (.aload_n 0, 1) := by decide +kernel
theorem dX8_init_23 : decode cX8_init 23 = .ok (.aload_n 1, 1) := by decide +kernel
theorem dX8_init_24 : decode cX8_init 24 = .ok (.putfield 19, 3) := by decide +kernel
theorem dX8_init_27 : decode cX8_init 27 = .ok (.aload_n 0, 1) := by decide +kernel
theorem dX8_init_28 : decode cX8_init 28 = .ok (.getfield 11, 3) := by decide +kernel
theorem dX8_init_31 : decode cX8_init 31 = .ok (.iconst (-1), 1) := by decide +kernel
theorem dX8_init_32 : decode cX8_init 32 = .ok (.invokestatic 23, 3) := by decide +kernel
theorem dX8_init_35 : decode cX8_init 35 = .ok (.return_, 1) := by decide +kernel
theorem dX8_forget_0 : decode cX8_forget 0 = .ok (.aload_n 0, 1) := by decide +kernel
theorem dX8_forget_1 : decode cX8_forget 1 = .ok (.getfield 11, 3) := by decide +kernel
theorem dX8_forget_4 : decode cX8_forget 4 = .ok (.iconst (-1), 1) := by decide +kernel
theorem dX8_forget_5 : decode cX8_forget 5 = .ok (.invokestatic 23, 3) := by decide +kernel
theorem dX8_forget_8 : decode cX8_forget 8 = .ok (.return_, 1) := by decide +kernel
theorem dX8_howMany_0 : decode cX8_howMany 0 = .ok (.aload_n 0, 1) := by decide +kernel
theorem dX8_howMany_1 : decode cX8_howMany 1 = .ok (.getfield 15, 3) := by decide +kernel
theorem dX8_howMany_4 : decode cX8_howMany 4 = .ok (.lconst 1, 1) := by decide +kernel
theorem dX8_howMany_5 : decode cX8_howMany 5 = .ok (.invokestatic 29, 3) := by decide +kernel
theorem dX8_howMany_8 : decode cX8_howMany 8 = .ok (.iload_n 1, 1) := by decide +kernel
theorem dX8_howMany_9 : decode cX8_howMany 9 = .ok (.iconst 1, 1) := by decide +kernel
theorem dX8_howMany_10 : decode cX8_howMany 10 = .ok (.isub, 1) := by decide +kernel
theorem dX8_howMany_11 : decode cX8_howMany 11 = .ok (.istore_n 3, 1) := by decide +kernel
theorem dX8_howMany_12 : decode cX8_howMany 12 = .ok (.iload_n 3, 1) := by decide +kernel
theorem dX8_howMany_13 : decode cX8_howMany 13 = .ok (.ifCond .le 53, 3) := by decide +kernel
theorem dX8_howMany_16 : decode cX8_howMany 16 = .ok (.iconst 0, 1) := by decide +kernel
theorem dX8_howMany_17 : decode cX8_howMany 17 = .ok (.istore 4, 2) := by decide +kernel
theorem dX8_howMany_19 : decode cX8_howMany 19 = .ok (.iload 4, 2) := by decide +kernel
theorem dX8_howMany_21 : decode cX8_howMany 21 = .ok (.bipush 26, 2) := by decide +kernel
theorem dX8_howMany_23 : decode cX8_howMany 23 = .ok (.if_icmp .ge 37, 3) := by decide +kernel
theorem dX8_howMany_26 : decode cX8_howMany 26 = .ok (.iload_n 2, 1) := by decide +kernel
theorem dX8_howMany_27 : decode cX8_howMany 27 = .ok (.iload 4, 2) := by decide +kernel
theorem dX8_howMany_29 : decode cX8_howMany 29 = .ok (.ishr, 1) := by decide +kernel
theorem dX8_howMany_30 : decode cX8_howMany 30 = .ok (.iconst 1, 1) := by decide +kernel
theorem dX8_howMany_31 : decode cX8_howMany 31 = .ok (.iand, 1) := by decide +kernel
theorem dX8_howMany_32 : decode cX8_howMany 32 = .ok (.ifCond .ne 22, 3) := by decide +kernel
theorem dX8_howMany_35 : decode cX8_howMany 35 = .ok (.aload_n 0, 1) := by decide +kernel
theorem dX8_howMany_36 : decode cX8_howMany 36 = .ok (.getfield 15, 3) := by decide +kernel
theorem dX8_howMany_39 : decode cX8_howMany 39 = .ok (.iload_n 3, 1) := by decide +kernel
theorem dX8_howMany_40 : decode cX8_howMany 40 = .ok (.iload 4, 2) := by decide +kernel
theorem dX8_howMany_42 : decode cX8_howMany 42 = .ok (.invokestatic 32, 3) := by decide +kernel
theorem dX8_howMany_45 : decode cX8_howMany 45 = .ok (.aload_n 0, 1) := by decide +kernel
theorem dX8_howMany_46 : decode cX8_howMany 46 = .ok (.iload_n 3, 1) := by decide +kernel
theorem dX8_howMany_47 : decode cX8_howMany 47 = .ok (.iload 4, 2) := by decide +kernel
theorem dX8_howMany_49 : decode cX8_howMany 49 = .ok (.iload_n 2, 1) := by decide +kernel
theorem dX8_howMany_50 : decode cX8_howMany 50 = .ok (.invokevirtual 36, 3) := by decide +kernel
theorem dX8_howMany_53 : decode cX8_howMany 53 = .ok (.lastore, 1) := by decide +kernel
theorem dX8_howMany_54 : decode cX8_howMany 54 = .ok (.iinc 4 1, 3) := by decide +kernel
theorem dX8_howMany_57 : decode cX8_howMany 57 = .ok (.goto (-38), 3) := by decide +kernel
theorem dX8_howMany_60 : decode cX8_howMany 60 = .ok (.iinc 3 (-1), 3) := by decide +kernel
theorem dX8_howMany_63 : decode cX8_howMany 63 = .ok (.goto (-51), 3) := by decide +kernel
theorem dX8_howMany_66 : decode cX8_howMany 66 = .ok (.aload_n 0, 1) := by decide +kernel
theorem dX8_howMany_67 : decode cX8_howMany 67 = .ok (.iconst 0, 1) := by decide +kernel
theorem dX8_howMany_68 : decode cX8_howMany 68 = .ok (.iconst (-1), 1) := by decide +kernel
theorem dX8_howMany_69 : decode cX8_howMany 69 = .ok (.iload_n 2, 1) := by decide +kernel
theorem dX8_howMany_70 : decode cX8_howMany 70 = .ok (.invokevirtual 36, 3) := by decide +kernel
theorem dX8_howMany_73 : decode cX8_howMany 73 = .ok (.lreturn, 1) := by decide +kernel
theorem dX8_waysFrom_0 : decode cX8_waysFrom 0 = .ok (.aload_n 0, 1) := by decide +kernel
theorem dX8_waysFrom_1 : decode cX8_waysFrom 1 = .ok (.iload_n 1, 1) := by decide +kernel
theorem dX8_waysFrom_2 : decode cX8_waysFrom 2 = .ok (.iload_n 2, 1) := by decide +kernel
theorem dX8_waysFrom_3 : decode cX8_waysFrom 3 = .ok (.invokevirtual 40, 3) := by decide +kernel
theorem dX8_waysFrom_6 : decode cX8_waysFrom 6 = .ok (.iload_n 3, 1) := by decide +kernel
theorem dX8_waysFrom_7 : decode cX8_waysFrom 7 = .ok (.iconst (-1), 1) := by decide +kernel
theorem dX8_waysFrom_8 : decode cX8_waysFrom 8 = .ok (.ixor, 1) := by decide +kernel
theorem dX8_waysFrom_9 : decode cX8_waysFrom 9 = .ok (.iand, 1) := by decide +kernel
theorem dX8_waysFrom_10 : decode cX8_waysFrom 10 = .ok (.istore 4, 2) := by decide +kernel
theorem dX8_waysFrom_12 : decode cX8_waysFrom 12 = .ok (.lconst 0, 1) := by decide +kernel
theorem dX8_waysFrom_13 : decode cX8_waysFrom 13 = .ok (.lstore 5, 2) := by decide +kernel
theorem dX8_waysFrom_15 : decode cX8_waysFrom 15 = .ok (.iconst 0, 1) := by decide +kernel
theorem dX8_waysFrom_16 : decode cX8_waysFrom 16 = .ok (.istore 7, 2) := by decide +kernel
theorem dX8_waysFrom_18 : decode cX8_waysFrom 18 = .ok (.iload 7, 2) := by decide +kernel
theorem dX8_waysFrom_20 : decode cX8_waysFrom 20 = .ok (.bipush 26, 2) := by decide +kernel
theorem dX8_waysFrom_22 : decode cX8_waysFrom 22 = .ok (.if_icmp .ge 37, 3) := by decide +kernel
theorem dX8_waysFrom_25 : decode cX8_waysFrom 25 = .ok (.iload 4, 2) := by decide +kernel
theorem dX8_waysFrom_27 : decode cX8_waysFrom 27 = .ok (.iload 7, 2) := by decide +kernel
theorem dX8_waysFrom_29 : decode cX8_waysFrom 29 = .ok (.ishr, 1) := by decide +kernel
theorem dX8_waysFrom_30 : decode cX8_waysFrom 30 = .ok (.iconst 1, 1) := by decide +kernel
theorem dX8_waysFrom_31 : decode cX8_waysFrom 31 = .ok (.iand, 1) := by decide +kernel
theorem dX8_waysFrom_32 : decode cX8_waysFrom 32 = .ok (.ifCond .eq 21, 3) := by decide +kernel
theorem dX8_waysFrom_35 : decode cX8_waysFrom 35 = .ok (.lload 5, 2) := by decide +kernel
theorem dX8_waysFrom_37 : decode cX8_waysFrom 37 = .ok (.aload_n 0, 1) := by decide +kernel
theorem dX8_waysFrom_38 : decode cX8_waysFrom 38 = .ok (.getfield 15, 3) := by decide +kernel
theorem dX8_waysFrom_41 : decode cX8_waysFrom 41 = .ok (.iload_n 1, 1) := by decide +kernel
theorem dX8_waysFrom_42 : decode cX8_waysFrom 42 = .ok (.iconst 1, 1) := by decide +kernel
theorem dX8_waysFrom_43 : decode cX8_waysFrom 43 = .ok (.iadd, 1) := by decide +kernel
theorem dX8_waysFrom_44 : decode cX8_waysFrom 44 = .ok (.iload 7, 2) := by decide +kernel
theorem dX8_waysFrom_46 : decode cX8_waysFrom 46 = .ok (.invokestatic 32, 3) := by decide +kernel
theorem dX8_waysFrom_49 : decode cX8_waysFrom 49 = .ok (.laload, 1) := by decide +kernel
theorem dX8_waysFrom_50 : decode cX8_waysFrom 50 = .ok (.ladd, 1) := by decide +kernel
theorem dX8_waysFrom_51 : decode cX8_waysFrom 51 = .ok (.lstore 5, 2) := by decide +kernel
theorem dX8_waysFrom_53 : decode cX8_waysFrom 53 = .ok (.iinc 7 1, 3) := by decide +kernel
theorem dX8_waysFrom_56 : decode cX8_waysFrom 56 = .ok (.goto (-38), 3) := by decide +kernel
theorem dX8_waysFrom_59 : decode cX8_waysFrom 59 = .ok (.lload 5, 2) := by decide +kernel
theorem dX8_waysFrom_61 : decode cX8_waysFrom 61 = .ok (.lreturn, 1) := by decide +kernel
theorem dX8_letterOfFirst_0 : decode cX8_letterOfFirst 0 = .ok (.iconst (-1), 1) := by decide +kernel
theorem dX8_letterOfFirst_1 : decode cX8_letterOfFirst 1 = .ok (.istore_n 3, 1) := by decide +kernel
theorem dX8_letterOfFirst_2 : decode cX8_letterOfFirst 2 = .ok (.iconst 0, 1) := by decide +kernel
theorem dX8_letterOfFirst_3 : decode cX8_letterOfFirst 3 = .ok (.istore 4, 2) := by decide +kernel
theorem dX8_letterOfFirst_5 : decode cX8_letterOfFirst 5 = .ok (.iload 4, 2) := by decide +kernel
theorem dX8_letterOfFirst_7 : decode cX8_letterOfFirst 7 = .ok (.iload_n 2, 1) := by decide +kernel
theorem dX8_letterOfFirst_8 : decode cX8_letterOfFirst 8 = .ok (.if_icmp .gt 27, 3) := by decide +kernel
theorem dX8_letterOfFirst_11 : decode cX8_letterOfFirst 11 = .ok (.aload_n 0, 1) := by decide +kernel
theorem dX8_letterOfFirst_12 : decode cX8_letterOfFirst 12 = .ok (.iload 4, 2) := by decide +kernel
theorem dX8_letterOfFirst_14 : decode cX8_letterOfFirst 14 = .ok (.aload_n 0, 1) := by decide +kernel
theorem dX8_letterOfFirst_15 : decode cX8_letterOfFirst 15 = .ok (.iload 4, 2) := by decide +kernel
theorem dX8_letterOfFirst_17 : decode cX8_letterOfFirst 17 = .ok (.iload_n 3, 1) := by decide +kernel
theorem dX8_letterOfFirst_18 : decode cX8_letterOfFirst 18 = .ok (.invokevirtual 40, 3) := by decide +kernel
theorem dX8_letterOfFirst_21 : decode cX8_letterOfFirst 21 = .ok (.iload_n 1, 1) := by decide +kernel
theorem dX8_letterOfFirst_22 : decode cX8_letterOfFirst 22 = .ok (.iconst (-1), 1) := by decide +kernel
theorem dX8_letterOfFirst_23 : decode cX8_letterOfFirst 23 = .ok (.ixor, 1) := by decide +kernel
theorem dX8_letterOfFirst_24 : decode cX8_letterOfFirst 24 = .ok (.iand, 1) := by decide +kernel
theorem dX8_letterOfFirst_25 : decode cX8_letterOfFirst 25 = .ok (.invokevirtual 43, 3) := by decide +kernel
theorem dX8_letterOfFirst_28 : decode cX8_letterOfFirst 28 = .ok (.istore_n 3, 1) := by decide +kernel
theorem dX8_letterOfFirst_29 : decode cX8_letterOfFirst 29 = .ok (.iinc 4 1, 3) := by decide +kernel
theorem dX8_letterOfFirst_32 : decode cX8_letterOfFirst 32 = .ok (.goto (-27), 3) := by decide +kernel
theorem dX8_letterOfFirst_35 : decode cX8_letterOfFirst 35 = .ok (.iload_n 3, 1) := by decide +kernel
theorem dX8_letterOfFirst_36 : decode cX8_letterOfFirst 36 = .ok (.ireturn, 1) := by decide +kernel
theorem dX8_firstFrom_0 : decode cX8_firstFrom 0 = .ok (.iconst 0, 1) := by decide +kernel
theorem dX8_firstFrom_1 : decode cX8_firstFrom 1 = .ok (.istore_n 3, 1) := by decide +kernel
theorem dX8_firstFrom_2 : decode cX8_firstFrom 2 = .ok (.iload_n 3, 1) := by decide +kernel
theorem dX8_firstFrom_3 : decode cX8_firstFrom 3 = .ok (.bipush 26, 2) := by decide +kernel
theorem dX8_firstFrom_5 : decode cX8_firstFrom 5 = .ok (.if_icmp .ge 36, 3) := by decide +kernel
theorem dX8_firstFrom_8 : decode cX8_firstFrom 8 = .ok (.iload_n 2, 1) := by decide +kernel
theorem dX8_firstFrom_9 : decode cX8_firstFrom 9 = .ok (.iload_n 3, 1) := by decide +kernel
theorem dX8_firstFrom_10 : decode cX8_firstFrom 10 = .ok (.ishr, 1) := by decide +kernel
theorem dX8_firstFrom_11 : decode cX8_firstFrom 11 = .ok (.iconst 1, 1) := by decide +kernel
theorem dX8_firstFrom_12 : decode cX8_firstFrom 12 = .ok (.iand, 1) := by decide +kernel
theorem dX8_firstFrom_13 : decode cX8_firstFrom 13 = .ok (.ifCond .eq 22, 3) := by decide +kernel
theorem dX8_firstFrom_16 : decode cX8_firstFrom 16 = .ok (.aload_n 0, 1) := by decide +kernel
theorem dX8_firstFrom_17 : decode cX8_firstFrom 17 = .ok (.getfield 15, 3) := by decide +kernel
theorem dX8_firstFrom_20 : decode cX8_firstFrom 20 = .ok (.iload_n 1, 1) := by decide +kernel
theorem dX8_firstFrom_21 : decode cX8_firstFrom 21 = .ok (.iconst 1, 1) := by decide +kernel
theorem dX8_firstFrom_22 : decode cX8_firstFrom 22 = .ok (.iadd, 1) := by decide +kernel
theorem dX8_firstFrom_23 : decode cX8_firstFrom 23 = .ok (.iload_n 3, 1) := by decide +kernel
theorem dX8_firstFrom_24 : decode cX8_firstFrom 24 = .ok (.invokestatic 32, 3) := by decide +kernel
theorem dX8_firstFrom_27 : decode cX8_firstFrom 27 = .ok (.laload, 1) := by decide +kernel
theorem dX8_firstFrom_28 : decode cX8_firstFrom 28 = .ok (.lconst 0, 1) := by decide +kernel
theorem dX8_firstFrom_29 : decode cX8_firstFrom 29 = .ok (.lcmp, 1) := by decide +kernel
theorem dX8_firstFrom_30 : decode cX8_firstFrom 30 = .ok (.ifCond .le 5, 3) := by decide +kernel
theorem dX8_firstFrom_33 : decode cX8_firstFrom 33 = .ok (.iload_n 3, 1) := by decide +kernel
theorem dX8_firstFrom_34 : decode cX8_firstFrom 34 = .ok (.ireturn, 1) := by decide +kernel
theorem dX8_firstFrom_35 : decode cX8_firstFrom 35 = .ok (.iinc 3 1, 3) := by decide +kernel
theorem dX8_firstFrom_38 : decode cX8_firstFrom 38 = .ok (.goto (-36), 3) := by decide +kernel
theorem dX8_firstFrom_41 : decode cX8_firstFrom 41 = .ok (.iconst (-1), 1) := by decide +kernel
theorem dX8_firstFrom_42 : decode cX8_firstFrom 42 = .ok (.ireturn, 1) := by decide +kernel
theorem dX8_placeOf_0 : decode cX8_placeOf 0 = .ok (.iload_n 0, 1) := by decide +kernel
theorem dX8_placeOf_1 : decode cX8_placeOf 1 = .ok (.bipush 27, 2) := by decide +kernel
theorem dX8_placeOf_3 : decode cX8_placeOf 3 = .ok (.imul, 1) := by decide +kernel
theorem dX8_placeOf_4 : decode cX8_placeOf 4 = .ok (.iload_n 1, 1) := by decide +kernel
theorem dX8_placeOf_5 : decode cX8_placeOf 5 = .ok (.iadd, 1) := by decide +kernel
theorem dX8_placeOf_6 : decode cX8_placeOf 6 = .ok (.iconst 1, 1) := by decide +kernel
theorem dX8_placeOf_7 : decode cX8_placeOf 7 = .ok (.iadd, 1) := by decide +kernel
theorem dX8_placeOf_8 : decode cX8_placeOf 8 = .ok (.ireturn, 1) := by decide +kernel
theorem dX8_followersOf_0 : decode cX8_followersOf 0 = .ok (.iload_n 1, 1) := by decide +kernel
theorem dX8_followersOf_1 : decode cX8_followersOf 1 = .ok (.iload_n 2, 1) := by decide +kernel
theorem dX8_followersOf_2 : decode cX8_followersOf 2 = .ok (.invokestatic 32, 3) := by decide +kernel
theorem dX8_followersOf_5 : decode cX8_followersOf 5 = .ok (.istore_n 3, 1) := by decide +kernel
theorem dX8_followersOf_6 : decode cX8_followersOf 6 = .ok (.aload_n 0, 1) := by decide +kernel
theorem dX8_followersOf_7 : decode cX8_followersOf 7 = .ok (.getfield 11, 3) := by decide +kernel
theorem dX8_followersOf_10 : decode cX8_followersOf 10 = .ok (.iload_n 3, 1) := by decide +kernel
theorem dX8_followersOf_11 : decode cX8_followersOf 11 = .ok (.iaload, 1) := by decide +kernel
theorem dX8_followersOf_12 : decode cX8_followersOf 12 = .ok (.ifCond .ge 49, 3) := by decide +kernel
theorem dX8_followersOf_15 : decode cX8_followersOf 15 = .ok (.iconst 0, 1) := by decide +kernel
theorem dX8_followersOf_16 : decode cX8_followersOf 16 = .ok (.istore 4, 2) := by decide +kernel
theorem dX8_followersOf_18 : decode cX8_followersOf 18 = .ok (.iconst 0, 1) := by decide +kernel
theorem dX8_followersOf_19 : decode cX8_followersOf 19 = .ok (.istore 5, 2) := by decide +kernel
theorem dX8_followersOf_21 : decode cX8_followersOf 21 = .ok (.iload 5, 2) := by decide +kernel
theorem dX8_followersOf_23 : decode cX8_followersOf 23 = .ok (.bipush 26, 2) := by decide +kernel
theorem dX8_followersOf_25 : decode cX8_followersOf 25 = .ok (.if_icmp .ge 28, 3) := by decide +kernel
theorem dX8_followersOf_28 : decode cX8_followersOf 28 = .ok (.iload 4, 2) := by decide +kernel
theorem dX8_followersOf_30 : decode cX8_followersOf 30 = .ok (.aload_n 0, 1) := by decide +kernel
theorem dX8_followersOf_31 : decode cX8_followersOf 31 = .ok (.getfield 19, 3) := by decide +kernel
theorem dX8_followersOf_34 : decode cX8_followersOf 34 = .ok (.iload_n 2, 1) := by decide +kernel
theorem dX8_followersOf_35 : decode cX8_followersOf 35 = .ok (.iload 5, 2) := by decide +kernel
theorem dX8_followersOf_37 : decode cX8_followersOf 37 = .ok (.iload_n 1, 1) := by decide +kernel
theorem dX8_followersOf_38 : decode cX8_followersOf 38 = .ok (.invokevirtual 46, 3) := by decide +kernel
theorem dX8_followersOf_41 : decode cX8_followersOf 41 = .ok (.iload 5, 2) := by decide +kernel
theorem dX8_followersOf_43 : decode cX8_followersOf 43 = .ok (.ishl, 1) := by decide +kernel
theorem dX8_followersOf_44 : decode cX8_followersOf 44 = .ok (.ior, 1) := by decide +kernel
theorem dX8_followersOf_45 : decode cX8_followersOf 45 = .ok (.istore 4, 2) := by decide +kernel
theorem dX8_followersOf_47 : decode cX8_followersOf 47 = .ok (.iinc 5 1, 3) := by decide +kernel
theorem dX8_followersOf_50 : decode cX8_followersOf 50 = .ok (.goto (-29), 3) := by decide +kernel
theorem dX8_followersOf_53 : decode cX8_followersOf 53 = .ok (.aload_n 0, 1) := by decide +kernel
theorem dX8_followersOf_54 : decode cX8_followersOf 54 = .ok (.getfield 11, 3) := by decide +kernel
theorem dX8_followersOf_57 : decode cX8_followersOf 57 = .ok (.iload_n 3, 1) := by decide +kernel
theorem dX8_followersOf_58 : decode cX8_followersOf 58 = .ok (.iload 4, 2) := by decide +kernel
theorem dX8_followersOf_60 : decode cX8_followersOf 60 = .ok (.iastore, 1) := by decide +kernel
theorem dX8_followersOf_61 : decode cX8_followersOf 61 = .ok (.aload_n 0, 1) := by decide +kernel
theorem dX8_followersOf_62 : decode cX8_followersOf 62 = .ok (.getfield 11, 3) := by decide +kernel
theorem dX8_followersOf_65 : decode cX8_followersOf 65 = .ok (.iload_n 3, 1) := by decide +kernel
theorem dX8_followersOf_66 : decode cX8_followersOf 66 = .ok (.iaload, 1) := by decide +kernel
theorem dX8_followersOf_67 : decode cX8_followersOf 67 = .ok (.ireturn, 1) := by decide +kernel
theorem dJ6_bitCount_0f7a4_0 : decode cJ6_bitCount_0f7a4 0 = .ok (.iload_n 0, 1) := by decide +kernel
theorem dJ6_bitCount_0f7a4_1 : decode cJ6_bitCount_0f7a4 1 = .ok (.iload_n 0, 1) := by decide +kernel
theorem dJ6_bitCount_0f7a4_2 : decode cJ6_bitCount_0f7a4 2 = .ok (.iconst 1, 1) := by decide +kernel
theorem dJ6_bitCount_0f7a4_3 : decode cJ6_bitCount_0f7a4 3 = .ok (.iushr, 1) := by decide +kernel
theorem dJ6_bitCount_0f7a4_4 : decode cJ6_bitCount_0f7a4 4 = .ok (.ldc_w 265, 3) := by decide +kernel
theorem dJ6_bitCount_0f7a4_7 : decode cJ6_bitCount_0f7a4 7 = .ok (.iand, 1) := by decide +kernel
theorem dJ6_bitCount_0f7a4_8 : decode cJ6_bitCount_0f7a4 8 = .ok (.isub, 1) := by decide +kernel
theorem dJ6_bitCount_0f7a4_9 : decode cJ6_bitCount_0f7a4 9 = .ok (.istore_n 0, 1) := by decide +kernel
theorem dJ6_bitCount_0f7a4_10 : decode cJ6_bitCount_0f7a4 10 = .ok (.iload_n 0, 1) := by decide +kernel
theorem dJ6_bitCount_0f7a4_11 : decode cJ6_bitCount_0f7a4 11 = .ok (.ldc_w 266, 3) := by decide +kernel
theorem dJ6_bitCount_0f7a4_14 : decode cJ6_bitCount_0f7a4 14 = .ok (.iand, 1) := by decide +kernel
theorem dJ6_bitCount_0f7a4_15 : decode cJ6_bitCount_0f7a4 15 = .ok (.iload_n 0, 1) := by decide +kernel
theorem dJ6_bitCount_0f7a4_16 : decode cJ6_bitCount_0f7a4 16 = .ok (.iconst 2, 1) := by decide +kernel
theorem dJ6_bitCount_0f7a4_17 : decode cJ6_bitCount_0f7a4 17 = .ok (.iushr, 1) := by decide +kernel
theorem dJ6_bitCount_0f7a4_18 : decode cJ6_bitCount_0f7a4 18 = .ok (.ldc_w 266, 3) := by decide +kernel
theorem dJ6_bitCount_0f7a4_21 : decode cJ6_bitCount_0f7a4 21 = .ok (.iand, 1) := by decide +kernel
theorem dJ6_bitCount_0f7a4_22 : decode cJ6_bitCount_0f7a4 22 = .ok (.iadd, 1) := by decide +kernel
theorem dJ6_bitCount_0f7a4_23 : decode cJ6_bitCount_0f7a4 23 = .ok (.istore_n 0, 1) := by decide +kernel
theorem dJ6_bitCount_0f7a4_24 : decode cJ6_bitCount_0f7a4 24 = .ok (.iload_n 0, 1) := by decide +kernel
theorem dJ6_bitCount_0f7a4_25 : decode cJ6_bitCount_0f7a4 25 = .ok (.iload_n 0, 1) := by decide +kernel
theorem dJ6_bitCount_0f7a4_26 : decode cJ6_bitCount_0f7a4 26 = .ok (.iconst 4, 1) := by decide +kernel
theorem dJ6_bitCount_0f7a4_27 : decode cJ6_bitCount_0f7a4 27 = .ok (.iushr, 1) := by decide +kernel
theorem dJ6_bitCount_0f7a4_28 : decode cJ6_bitCount_0f7a4 28 = .ok (.iadd, 1) := by decide +kernel
theorem dJ6_bitCount_0f7a4_29 : decode cJ6_bitCount_0f7a4 29 = .ok (.ldc_w 267, 3) := by decide +kernel
theorem dJ6_bitCount_0f7a4_32 : decode cJ6_bitCount_0f7a4 32 = .ok (.iand, 1) := by decide +kernel
theorem dJ6_bitCount_0f7a4_33 : decode cJ6_bitCount_0f7a4 33 = .ok (.istore_n 0, 1) := by decide +kernel
theorem dJ6_bitCount_0f7a4_34 : decode cJ6_bitCount_0f7a4 34 = .ok (.iload_n 0, 1) := by decide +kernel
theorem dJ6_bitCount_0f7a4_35 : decode cJ6_bitCount_0f7a4 35 = .ok (.iload_n 0, 1) := by decide +kernel
theorem dJ6_bitCount_0f7a4_36 : decode cJ6_bitCount_0f7a4 36 = .ok (.bipush 8, 2) := by decide +kernel
theorem dJ6_bitCount_0f7a4_38 : decode cJ6_bitCount_0f7a4 38 = .ok (.iushr, 1) := by decide +kernel
theorem dJ6_bitCount_0f7a4_39 : decode cJ6_bitCount_0f7a4 39 = .ok (.iadd, 1) := by decide +kernel
theorem dJ6_bitCount_0f7a4_40 : decode cJ6_bitCount_0f7a4 40 = .ok (.istore_n 0, 1) := by decide +kernel
theorem dJ6_bitCount_0f7a4_41 : decode cJ6_bitCount_0f7a4 41 = .ok (.iload_n 0, 1) := by decide +kernel
theorem dJ6_bitCount_0f7a4_42 : decode cJ6_bitCount_0f7a4 42 = .ok (.iload_n 0, 1) := by decide +kernel
theorem dJ6_bitCount_0f7a4_43 : decode cJ6_bitCount_0f7a4 43 = .ok (.bipush 16, 2) := by decide +kernel
theorem dJ6_bitCount_0f7a4_45 : decode cJ6_bitCount_0f7a4 45 = .ok (.iushr, 1) := by decide +kernel
theorem dJ6_bitCount_0f7a4_46 : decode cJ6_bitCount_0f7a4 46 = .ok (.iadd, 1) := by decide +kernel
theorem dJ6_bitCount_0f7a4_47 : decode cJ6_bitCount_0f7a4 47 = .ok (.istore_n 0, 1) := by decide +kernel
theorem dJ6_bitCount_0f7a4_48 : decode cJ6_bitCount_0f7a4 48 = .ok (.iload_n 0, 1) := by decide +kernel
theorem dJ6_bitCount_0f7a4_49 : decode cJ6_bitCount_0f7a4 49 = .ok (.bipush 63, 2) := by decide +kernel
theorem dJ6_bitCount_0f7a4_51 : decode cJ6_bitCount_0f7a4 51 = .ok (.iand, 1) := by decide +kernel
theorem dJ6_bitCount_0f7a4_52 : decode cJ6_bitCount_0f7a4 52 = .ok (.ireturn, 1) := by decide +kernel
theorem dJ9_max_7cf53_0 : decode cJ9_max_7cf53 0 = .ok (.iload_n 0, 1) := by decide +kernel
theorem dJ9_max_7cf53_1 : decode cJ9_max_7cf53 1 = .ok (.iload_n 1, 1) := by decide +kernel
theorem dJ9_max_7cf53_2 : decode cJ9_max_7cf53 2 = .ok (.if_icmp .lt 7, 3) := by decide +kernel
theorem dJ9_max_7cf53_5 : decode cJ9_max_7cf53 5 = .ok (.iload_n 0, 1) := by decide +kernel
theorem dJ9_max_7cf53_6 : decode cJ9_max_7cf53 6 = .ok (.goto 4, 3) := by decide +kernel
theorem dJ9_max_7cf53_9 : decode cJ9_max_7cf53 9 = .ok (.iload_n 1, 1) := by decide +kernel
theorem dJ9_max_7cf53_10 : decode cJ9_max_7cf53 10 = .ok (.ireturn, 1) := by decide +kernel
theorem dJ9_min_7cf53_0 : decode cJ9_min_7cf53 0 = .ok (.iload_n 0, 1) := by decide +kernel
theorem dJ9_min_7cf53_1 : decode cJ9_min_7cf53 1 = .ok (.iload_n 1, 1) := by decide +kernel
theorem dJ9_min_7cf53_2 : decode cJ9_min_7cf53 2 = .ok (.if_icmp .gt 7, 3) := by decide +kernel
theorem dJ9_min_7cf53_5 : decode cJ9_min_7cf53 5 = .ok (.iload_n 0, 1) := by decide +kernel
theorem dJ9_min_7cf53_6 : decode cJ9_min_7cf53 6 = .ok (.goto 4, 3) := by decide +kernel
theorem dJ9_min_7cf53_9 : decode cJ9_min_7cf53 9 = .ok (.iload_n 1, 1) := by decide +kernel
theorem dJ9_min_7cf53_10 : decode cJ9_min_7cf53 10 = .ok (.ireturn, 1) := by decide +kernel
theorem dJ7_fill_d0a16_0 : decode cJ7_fill_d0a16 0 = .ok (.iconst 0, 1) := by decide +kernel
theorem dJ7_fill_d0a16_1 : decode cJ7_fill_d0a16 1 = .ok (.istore_n 3, 1) := by decide +kernel
theorem dJ7_fill_d0a16_2 : decode cJ7_fill_d0a16 2 = .ok (.aload_n 0, 1) := by decide +kernel
theorem dJ7_fill_d0a16_3 : decode cJ7_fill_d0a16 3 = .ok (.arraylength, 1) := by decide +kernel
theorem dJ7_fill_d0a16_4 : decode cJ7_fill_d0a16 4 = .ok (.istore 4, 2) := by decide +kernel
theorem dJ7_fill_d0a16_6 : decode cJ7_fill_d0a16 6 = .ok (.iload_n 3, 1) := by decide +kernel
theorem dJ7_fill_d0a16_7 : decode cJ7_fill_d0a16 7 = .ok (.iload 4, 2) := by decide +kernel
theorem dJ7_fill_d0a16_9 : decode cJ7_fill_d0a16 9 = .ok (.if_icmp .ge 13, 3) := by decide +kernel
theorem dJ7_fill_d0a16_12 : decode cJ7_fill_d0a16 12 = .ok (.aload_n 0, 1) := by decide +kernel
theorem dJ7_fill_d0a16_13 : decode cJ7_fill_d0a16 13 = .ok (.iload_n 3, 1) := by decide +kernel
theorem dJ7_fill_d0a16_14 : decode cJ7_fill_d0a16 14 = .ok (.lload_n 1, 1) := by decide +kernel
theorem dJ7_fill_d0a16_15 : decode cJ7_fill_d0a16 15 = .ok (.lastore, 1) := by decide +kernel
theorem dJ7_fill_d0a16_16 : decode cJ7_fill_d0a16 16 = .ok (.iinc 3 1, 3) := by decide +kernel
theorem dJ7_fill_d0a16_19 : decode cJ7_fill_d0a16 19 = .ok (.goto (-13), 3) := by decide +kernel
theorem dJ7_fill_d0a16_22 : decode cJ7_fill_d0a16 22 = .ok (.return_, 1) := by decide +kernel
theorem dJ7_fill_53178_0 : decode cJ7_fill_53178 0 = .ok (.iconst 0, 1) := by decide +kernel
theorem dJ7_fill_53178_1 : decode cJ7_fill_53178 1 = .ok (.istore_n 2, 1) := by decide +kernel
theorem dJ7_fill_53178_2 : decode cJ7_fill_53178 2 = .ok (.aload_n 0, 1) := by decide +kernel
theorem dJ7_fill_53178_3 : decode cJ7_fill_53178 3 = .ok (.arraylength, 1) := by decide +kernel
theorem dJ7_fill_53178_4 : decode cJ7_fill_53178 4 = .ok (.istore_n 3, 1) := by decide +kernel
theorem dJ7_fill_53178_5 : decode cJ7_fill_53178 5 = .ok (.iload_n 2, 1) := by decide +kernel
theorem dJ7_fill_53178_6 : decode cJ7_fill_53178 6 = .ok (.iload_n 3, 1) := by decide +kernel
theorem dJ7_fill_53178_7 : decode cJ7_fill_53178 7 = .ok (.if_icmp .ge 13, 3) := by decide +kernel
theorem dJ7_fill_53178_10 : decode cJ7_fill_53178 10 = .ok (.aload_n 0, 1) := by decide +kernel
theorem dJ7_fill_53178_11 : decode cJ7_fill_53178 11 = .ok (.iload_n 2, 1) := by decide +kernel
theorem dJ7_fill_53178_12 : decode cJ7_fill_53178 12 = .ok (.iload_n 1, 1) := by decide +kernel
theorem dJ7_fill_53178_13 : decode cJ7_fill_53178 13 = .ok (.iastore, 1) := by decide +kernel
theorem dJ7_fill_53178_14 : decode cJ7_fill_53178 14 = .ok (.iinc 2 1, 3) := by decide +kernel
theorem dJ7_fill_53178_17 : decode cJ7_fill_53178 17 = .ok (.goto (-12), 3) := by decide +kernel
theorem dJ7_fill_53178_20 : decode cJ7_fill_53178 20 = .ok (.return_, 1) := by decide +kernel
end
section
theorem dL_law_0 : decode cL_law 0 = .ok (.new 7, 3) := by decide +kernel
theorem dL_law_3 : decode cL_law 3 = .ok (.dup, 1) := by decide +kernel
theorem dL_law_4 : decode cL_law 4 = .ok (.invokespecial 9, 3) := by decide +kernel
theorem dL_law_7 : decode cL_law 7 = .ok (.astore_n 1, 1) := by decide +kernel
theorem dL_law_8 : decode cL_law 8 = .ok (.new 10, 3) := by decide +kernel
theorem dL_law_11 : decode cL_law 11 = .ok (.dup, 1) := by decide +kernel
theorem dL_law_12 : decode cL_law 12 = .ok (.invokespecial 12, 3) := by decide +kernel
theorem dL_law_15 : decode cL_law 15 = .ok (.astore_n 2, 1) := by decide +kernel
theorem dL_law_16 : decode cL_law 16 = .ok (.iconst 0, 1) := by decide +kernel
theorem dL_law_17 : decode cL_law 17 = .ok (.istore_n 3, 1) := by decide +kernel
theorem dL_law_18 : decode cL_law 18 = .ok (.iload_n 3, 1) := by decide +kernel
theorem dL_law_19 : decode cL_law 19 = .ok (.aload_n 0, 1) := by decide +kernel
theorem dL_law_20 : decode cL_law 20 = .ok (.arraylength, 1) := by decide +kernel
theorem dL_law_21 : decode cL_law 21 = .ok (.bipush 6, 2) := by decide +kernel
theorem dL_law_23 : decode cL_law 23 = .ok (.isub, 1) := by decide +kernel
theorem dL_law_24 : decode cL_law 24 = .ok (.if_icmp .gt 1345, 3) := by decide +kernel
theorem dL_law_27 : decode cL_law 27 = .ok (.aload_n 0, 1) := by decide +kernel
theorem dL_law_28 : decode cL_law 28 = .ok (.iload_n 3, 1) := by decide +kernel
theorem dL_law_29 : decode cL_law 29 = .ok (.iaload, 1) := by decide +kernel
theorem dL_law_30 : decode cL_law 30 = .ok (.bipush 63, 2) := by decide +kernel
theorem dL_law_32 : decode cL_law 32 = .ok (.iand, 1) := by decide +kernel
theorem dL_law_33 : decode cL_law 33 = .ok (.tableswitch 1330 0 38 #[171, 234, 257, 290, 323, 356, 389, 422, 455, 488, 521, 564, 587, 620, 633, 656, 709, 732, 745, 768, 791, 814, 847, 870, 894, 938, 961, 984, 1007, 1050, 1073, 1116, 1159, 1222, 1235, 1248, 1271, 1284, 1307], 171) := by decide +kernel
theorem dL_law_204 : decode cL_law 204 = .ok (.aload_n 1, 1) := by decide +kernel
theorem dL_law_205 : decode cL_law 205 = .ok (.aload_n 0, 1) := by decide +kernel
theorem dL_law_206 : decode cL_law 206 = .ok (.iload_n 3, 1) := by decide +kernel
theorem dL_law_207 : decode cL_law 207 = .ok (.iconst 1, 1) := by decide +kernel
theorem dL_law_208 : decode cL_law 208 = .ok (.iadd, 1) := by decide +kernel
theorem dL_law_209 : decode cL_law 209 = .ok (.iaload, 1) := by decide +kernel
theorem dL_law_210 : decode cL_law 210 = .ok (.i2l, 1) := by decide +kernel
theorem dL_law_211 : decode cL_law 211 = .ok (.bipush 32, 2) := by decide +kernel
theorem dL_law_213 : decode cL_law 213 = .ok (.lshl, 1) := by decide +kernel
theorem dL_law_214 : decode cL_law 214 = .ok (.aload_n 0, 1) := by decide +kernel
theorem dL_law_215 : decode cL_law 215 = .ok (.iload_n 3, 1) := by decide +kernel
theorem dL_law_216 : decode cL_law 216 = .ok (.iconst 2, 1) := by decide +kernel
theorem dL_law_217 : decode cL_law 217 = .ok (.iadd, 1) := by decide +kernel
theorem dL_law_218 : decode cL_law 218 = .ok (.iaload, 1) := by decide +kernel
theorem dL_law_219 : decode cL_law 219 = .ok (.i2l, 1) := by decide +kernel
theorem dL_law_220 : decode cL_law 220 = .ok (.ldc2_w 13, 3) := by decide +kernel
theorem dL_law_223 : decode cL_law 223 = .ok (.land, 1) := by decide +kernel
theorem dL_law_224 : decode cL_law 224 = .ok (.lor, 1) := by decide +kernel
theorem dL_law_225 : decode cL_law 225 = .ok (.aload_n 0, 1) := by decide +kernel
theorem dL_law_226 : decode cL_law 226 = .ok (.iload_n 3, 1) := by decide +kernel
theorem dL_law_227 : decode cL_law 227 = .ok (.iconst 3, 1) := by decide +kernel
theorem dL_law_228 : decode cL_law 228 = .ok (.iadd, 1) := by decide +kernel
theorem dL_law_229 : decode cL_law 229 = .ok (.iaload, 1) := by decide +kernel
theorem dL_law_230 : decode cL_law 230 = .ok (.invokevirtual 15, 3) := by decide +kernel
theorem dL_law_233 : decode cL_law 233 = .ok (.aload_n 2, 1) := by decide +kernel
theorem dL_law_234 : decode cL_law 234 = .ok (.aload_n 0, 1) := by decide +kernel
theorem dL_law_235 : decode cL_law 235 = .ok (.iload_n 3, 1) := by decide +kernel
theorem dL_law_236 : decode cL_law 236 = .ok (.iconst 1, 1) := by decide +kernel
theorem dL_law_237 : decode cL_law 237 = .ok (.iadd, 1) := by decide +kernel
theorem dL_law_238 : decode cL_law 238 = .ok (.iaload, 1) := by decide +kernel
theorem dL_law_239 : decode cL_law 239 = .ok (.i2l, 1) := by decide +kernel
theorem dL_law_240 : decode cL_law 240 = .ok (.bipush 32, 2) := by decide +kernel
theorem dL_law_242 : decode cL_law 242 = .ok (.lshl, 1) := by decide +kernel
theorem dL_law_243 : decode cL_law 243 = .ok (.aload_n 0, 1) := by decide +kernel
theorem dL_law_244 : decode cL_law 244 = .ok (.iload_n 3, 1) := by decide +kernel
theorem dL_law_245 : decode cL_law 245 = .ok (.iconst 2, 1) := by decide +kernel
theorem dL_law_246 : decode cL_law 246 = .ok (.iadd, 1) := by decide +kernel
theorem dL_law_247 : decode cL_law 247 = .ok (.iaload, 1) := by decide +kernel
theorem dL_law_248 : decode cL_law 248 = .ok (.i2l, 1) := by decide +kernel
theorem dL_law_249 : decode cL_law 249 = .ok (.ldc2_w 13, 3) := by decide +kernel
theorem dL_law_252 : decode cL_law 252 = .ok (.land, 1) := by decide +kernel
theorem dL_law_253 : decode cL_law 253 = .ok (.lor, 1) := by decide +kernel
theorem dL_law_254 : decode cL_law 254 = .ok (.aload_n 0, 1) := by decide +kernel
theorem dL_law_255 : decode cL_law 255 = .ok (.iload_n 3, 1) := by decide +kernel
theorem dL_law_256 : decode cL_law 256 = .ok (.iconst 3, 1) := by decide +kernel
theorem dL_law_257 : decode cL_law 257 = .ok (.iadd, 1) := by decide +kernel
theorem dL_law_258 : decode cL_law 258 = .ok (.iaload, 1) := by decide +kernel
theorem dL_law_259 : decode cL_law 259 = .ok (.invokevirtual 19, 3) := by decide +kernel
theorem dL_law_262 : decode cL_law 262 = .ok (.if_icmp .eq 1101, 3) := by decide +kernel
theorem dL_law_265 : decode cL_law 265 = .ok (.iconst 0, 1) := by decide +kernel
theorem dL_law_266 : decode cL_law 266 = .ok (.ireturn, 1) := by decide +kernel
theorem dL_law_267 : decode cL_law 267 = .ok (.aload_n 1, 1) := by decide +kernel
theorem dL_law_268 : decode cL_law 268 = .ok (.aload_n 0, 1) := by decide +kernel
theorem dL_law_269 : decode cL_law 269 = .ok (.iload_n 3, 1) := by decide +kernel
theorem dL_law_270 : decode cL_law 270 = .ok (.iconst 1, 1) := by decide +kernel
theorem dL_law_271 : decode cL_law 271 = .ok (.iadd, 1) := by decide +kernel
theorem dL_law_272 : decode cL_law 272 = .ok (.iaload, 1) := by decide +kernel
theorem dL_law_273 : decode cL_law 273 = .ok (.invokevirtual 20, 3) := by decide +kernel
theorem dL_law_276 : decode cL_law 276 = .ok (.aload_n 2, 1) := by decide +kernel
theorem dL_law_277 : decode cL_law 277 = .ok (.aload_n 0, 1) := by decide +kernel
theorem dL_law_278 : decode cL_law 278 = .ok (.iload_n 3, 1) := by decide +kernel
theorem dL_law_279 : decode cL_law 279 = .ok (.iconst 1, 1) := by decide +kernel
theorem dL_law_280 : decode cL_law 280 = .ok (.iadd, 1) := by decide +kernel
theorem dL_law_281 : decode cL_law 281 = .ok (.iaload, 1) := by decide +kernel
theorem dL_law_282 : decode cL_law 282 = .ok (.invokevirtual 24, 3) := by decide +kernel
theorem dL_law_285 : decode cL_law 285 = .ok (.if_icmp .eq 1078, 3) := by decide +kernel
theorem dL_law_288 : decode cL_law 288 = .ok (.iconst 0, 1) := by decide +kernel
theorem dL_law_289 : decode cL_law 289 = .ok (.ireturn, 1) := by decide +kernel
theorem dL_law_290 : decode cL_law 290 = .ok (.aload_n 1, 1) := by decide +kernel
theorem dL_law_291 : decode cL_law 291 = .ok (.aload_n 0, 1) := by decide +kernel
theorem dL_law_292 : decode cL_law 292 = .ok (.iload_n 3, 1) := by decide +kernel
theorem dL_law_293 : decode cL_law 293 = .ok (.iconst 1, 1) := by decide +kernel
theorem dL_law_294 : decode cL_law 294 = .ok (.iadd, 1) := by decide +kernel
theorem dL_law_295 : decode cL_law 295 = .ok (.iaload, 1) := by decide +kernel
theorem dL_law_296 : decode cL_law 296 = .ok (.aload_n 0, 1) := by decide +kernel
theorem dL_law_297 : decode cL_law 297 = .ok (.iload_n 3, 1) := by decide +kernel
theorem dL_law_298 : decode cL_law 298 = .ok (.iconst 2, 1) := by decide +kernel
theorem dL_law_299 : decode cL_law 299 = .ok (.iadd, 1) := by decide +kernel
theorem dL_law_300 : decode cL_law 300 = .ok (.iaload, 1) := by decide +kernel
theorem dL_law_301 : decode cL_law 301 = .ok (.invokevirtual 25, 3) := by decide +kernel
theorem dL_law_304 : decode cL_law 304 = .ok (.aload_n 2, 1) := by decide +kernel
theorem dL_law_305 : decode cL_law 305 = .ok (.aload_n 0, 1) := by decide +kernel
theorem dL_law_306 : decode cL_law 306 = .ok (.iload_n 3, 1) := by decide +kernel
theorem dL_law_307 : decode cL_law 307 = .ok (.iconst 1, 1) := by decide +kernel
theorem dL_law_308 : decode cL_law 308 = .ok (.iadd, 1) := by decide +kernel
theorem dL_law_309 : decode cL_law 309 = .ok (.iaload, 1) := by decide +kernel
theorem dL_law_310 : decode cL_law 310 = .ok (.aload_n 0, 1) := by decide +kernel
theorem dL_law_311 : decode cL_law 311 = .ok (.iload_n 3, 1) := by decide +kernel
theorem dL_law_312 : decode cL_law 312 = .ok (.iconst 2, 1) := by decide +kernel
theorem dL_law_313 : decode cL_law 313 = .ok (.iadd, 1) := by decide +kernel
theorem dL_law_314 : decode cL_law 314 = .ok (.iaload, 1) := by decide +kernel
theorem dL_law_315 : decode cL_law 315 = .ok (.invokevirtual 29, 3) := by decide +kernel
theorem dL_law_318 : decode cL_law 318 = .ok (.if_icmp .eq 1045, 3) := by decide +kernel
theorem dL_law_321 : decode cL_law 321 = .ok (.iconst 0, 1) := by decide +kernel
theorem dL_law_322 : decode cL_law 322 = .ok (.ireturn, 1) := by decide +kernel
theorem dL_law_323 : decode cL_law 323 = .ok (.aload_n 1, 1) := by decide +kernel
theorem dL_law_324 : decode cL_law 324 = .ok (.aload_n 0, 1) := by decide +kernel
theorem dL_law_325 : decode cL_law 325 = .ok (.iload_n 3, 1) := by decide +kernel
theorem dL_law_326 : decode cL_law 326 = .ok (.iconst 1, 1) := by decide +kernel
theorem dL_law_327 : decode cL_law 327 = .ok (.iadd, 1) := by decide +kernel
theorem dL_law_328 : decode cL_law 328 = .ok (.iaload, 1) := by decide +kernel
theorem dL_law_329 : decode cL_law 329 = .ok (.aload_n 0, 1) := by decide +kernel
theorem dL_law_330 : decode cL_law 330 = .ok (.iload_n 3, 1) := by decide +kernel
theorem dL_law_331 : decode cL_law 331 = .ok (.iconst 2, 1) := by decide +kernel
theorem dL_law_332 : decode cL_law 332 = .ok (.iadd, 1) := by decide +kernel
theorem dL_law_333 : decode cL_law 333 = .ok (.iaload, 1) := by decide +kernel
theorem dL_law_334 : decode cL_law 334 = .ok (.invokevirtual 30, 3) := by decide +kernel
theorem dL_law_337 : decode cL_law 337 = .ok (.aload_n 2, 1) := by decide +kernel
theorem dL_law_338 : decode cL_law 338 = .ok (.aload_n 0, 1) := by decide +kernel
theorem dL_law_339 : decode cL_law 339 = .ok (.iload_n 3, 1) := by decide +kernel
theorem dL_law_340 : decode cL_law 340 = .ok (.iconst 1, 1) := by decide +kernel
theorem dL_law_341 : decode cL_law 341 = .ok (.iadd, 1) := by decide +kernel
theorem dL_law_342 : decode cL_law 342 = .ok (.iaload, 1) := by decide +kernel
theorem dL_law_343 : decode cL_law 343 = .ok (.aload_n 0, 1) := by decide +kernel
theorem dL_law_344 : decode cL_law 344 = .ok (.iload_n 3, 1) := by decide +kernel
theorem dL_law_345 : decode cL_law 345 = .ok (.iconst 2, 1) := by decide +kernel
theorem dL_law_346 : decode cL_law 346 = .ok (.iadd, 1) := by decide +kernel
theorem dL_law_347 : decode cL_law 347 = .ok (.iaload, 1) := by decide +kernel
theorem dL_law_348 : decode cL_law 348 = .ok (.invokevirtual 33, 3) := by decide +kernel
theorem dL_law_351 : decode cL_law 351 = .ok (.if_icmp .eq 1012, 3) := by decide +kernel
theorem dL_law_354 : decode cL_law 354 = .ok (.iconst 0, 1) := by decide +kernel
theorem dL_law_355 : decode cL_law 355 = .ok (.ireturn, 1) := by decide +kernel
theorem dL_law_356 : decode cL_law 356 = .ok (.aload_n 1, 1) := by decide +kernel
theorem dL_law_357 : decode cL_law 357 = .ok (.aload_n 0, 1) := by decide +kernel
theorem dL_law_358 : decode cL_law 358 = .ok (.iload_n 3, 1) := by decide +kernel
theorem dL_law_359 : decode cL_law 359 = .ok (.iconst 1, 1) := by decide +kernel
theorem dL_law_360 : decode cL_law 360 = .ok (.iadd, 1) := by decide +kernel
theorem dL_law_361 : decode cL_law 361 = .ok (.iaload, 1) := by decide +kernel
theorem dL_law_362 : decode cL_law 362 = .ok (.aload_n 0, 1) := by decide +kernel
theorem dL_law_363 : decode cL_law 363 = .ok (.iload_n 3, 1) := by decide +kernel
theorem dL_law_364 : decode cL_law 364 = .ok (.iconst 2, 1) := by decide +kernel
theorem dL_law_365 : decode cL_law 365 = .ok (.iadd, 1) := by decide +kernel
theorem dL_law_366 : decode cL_law 366 = .ok (.iaload, 1) := by decide +kernel
theorem dL_law_367 : decode cL_law 367 = .ok (.invokevirtual 34, 3) := by decide +kernel
theorem dL_law_370 : decode cL_law 370 = .ok (.aload_n 2, 1) := by decide +kernel
theorem dL_law_371 : decode cL_law 371 = .ok (.aload_n 0, 1) := by decide +kernel
theorem dL_law_372 : decode cL_law 372 = .ok (.iload_n 3, 1) := by decide +kernel
theorem dL_law_373 : decode cL_law 373 = .ok (.iconst 1, 1) := by decide +kernel
theorem dL_law_374 : decode cL_law 374 = .ok (.iadd, 1) := by decide +kernel
theorem dL_law_375 : decode cL_law 375 = .ok (.iaload, 1) := by decide +kernel
theorem dL_law_376 : decode cL_law 376 = .ok (.aload_n 0, 1) := by decide +kernel
theorem dL_law_377 : decode cL_law 377 = .ok (.iload_n 3, 1) := by decide +kernel
theorem dL_law_378 : decode cL_law 378 = .ok (.iconst 2, 1) := by decide +kernel
theorem dL_law_379 : decode cL_law 379 = .ok (.iadd, 1) := by decide +kernel
theorem dL_law_380 : decode cL_law 380 = .ok (.iaload, 1) := by decide +kernel
theorem dL_law_381 : decode cL_law 381 = .ok (.invokevirtual 37, 3) := by decide +kernel
theorem dL_law_384 : decode cL_law 384 = .ok (.if_icmp .eq 979, 3) := by decide +kernel
theorem dL_law_387 : decode cL_law 387 = .ok (.iconst 0, 1) := by decide +kernel
theorem dL_law_388 : decode cL_law 388 = .ok (.ireturn, 1) := by decide +kernel
theorem dL_law_389 : decode cL_law 389 = .ok (.aload_n 1, 1) := by decide +kernel
theorem dL_law_390 : decode cL_law 390 = .ok (.aload_n 0, 1) := by decide +kernel
theorem dL_law_391 : decode cL_law 391 = .ok (.iload_n 3, 1) := by decide +kernel
theorem dL_law_392 : decode cL_law 392 = .ok (.iconst 1, 1) := by decide +kernel
theorem dL_law_393 : decode cL_law 393 = .ok (.iadd, 1) := by decide +kernel
theorem dL_law_394 : decode cL_law 394 = .ok (.iaload, 1) := by decide +kernel
theorem dL_law_395 : decode cL_law 395 = .ok (.aload_n 0, 1) := by decide +kernel
theorem dL_law_396 : decode cL_law 396 = .ok (.iload_n 3, 1) := by decide +kernel
theorem dL_law_397 : decode cL_law 397 = .ok (.iconst 2, 1) := by decide +kernel
theorem dL_law_398 : decode cL_law 398 = .ok (.iadd, 1) := by decide +kernel
theorem dL_law_399 : decode cL_law 399 = .ok (.iaload, 1) := by decide +kernel
theorem dL_law_400 : decode cL_law 400 = .ok (.invokevirtual 38, 3) := by decide +kernel
theorem dL_law_403 : decode cL_law 403 = .ok (.aload_n 2, 1) := by decide +kernel
theorem dL_law_404 : decode cL_law 404 = .ok (.aload_n 0, 1) := by decide +kernel
theorem dL_law_405 : decode cL_law 405 = .ok (.iload_n 3, 1) := by decide +kernel
theorem dL_law_406 : decode cL_law 406 = .ok (.iconst 1, 1) := by decide +kernel
theorem dL_law_407 : decode cL_law 407 = .ok (.iadd, 1) := by decide +kernel
theorem dL_law_408 : decode cL_law 408 = .ok (.iaload, 1) := by decide +kernel
theorem dL_law_409 : decode cL_law 409 = .ok (.aload_n 0, 1) := by decide +kernel
theorem dL_law_410 : decode cL_law 410 = .ok (.iload_n 3, 1) := by decide +kernel
theorem dL_law_411 : decode cL_law 411 = .ok (.iconst 2, 1) := by decide +kernel
theorem dL_law_412 : decode cL_law 412 = .ok (.iadd, 1) := by decide +kernel
theorem dL_law_413 : decode cL_law 413 = .ok (.iaload, 1) := by decide +kernel
theorem dL_law_414 : decode cL_law 414 = .ok (.invokevirtual 41, 3) := by decide +kernel
theorem dL_law_417 : decode cL_law 417 = .ok (.if_icmp .eq 946, 3) := by decide +kernel
theorem dL_law_420 : decode cL_law 420 = .ok (.iconst 0, 1) := by decide +kernel
theorem dL_law_421 : decode cL_law 421 = .ok (.ireturn, 1) := by decide +kernel
theorem dL_law_422 : decode cL_law 422 = .ok (.aload_n 1, 1) := by decide +kernel
theorem dL_law_423 : decode cL_law 423 = .ok (.aload_n 0, 1) := by decide +kernel
theorem dL_law_424 : decode cL_law 424 = .ok (.iload_n 3, 1) := by decide +kernel
theorem dL_law_425 : decode cL_law 425 = .ok (.iconst 1, 1) := by decide +kernel
theorem dL_law_426 : decode cL_law 426 = .ok (.iadd, 1) := by decide +kernel
theorem dL_law_427 : decode cL_law 427 = .ok (.iaload, 1) := by decide +kernel
theorem dL_law_428 : decode cL_law 428 = .ok (.aload_n 0, 1) := by decide +kernel
theorem dL_law_429 : decode cL_law 429 = .ok (.iload_n 3, 1) := by decide +kernel
theorem dL_law_430 : decode cL_law 430 = .ok (.iconst 2, 1) := by decide +kernel
theorem dL_law_431 : decode cL_law 431 = .ok (.iadd, 1) := by decide +kernel
theorem dL_law_432 : decode cL_law 432 = .ok (.iaload, 1) := by decide +kernel
theorem dL_law_433 : decode cL_law 433 = .ok (.invokevirtual 42, 3) := by decide +kernel
theorem dL_law_436 : decode cL_law 436 = .ok (.aload_n 2, 1) := by decide +kernel
theorem dL_law_437 : decode cL_law 437 = .ok (.aload_n 0, 1) := by decide +kernel
theorem dL_law_438 : decode cL_law 438 = .ok (.iload_n 3, 1) := by decide +kernel
theorem dL_law_439 : decode cL_law 439 = .ok (.iconst 1, 1) := by decide +kernel
theorem dL_law_440 : decode cL_law 440 = .ok (.iadd, 1) := by decide +kernel
theorem dL_law_441 : decode cL_law 441 = .ok (.iaload, 1) := by decide +kernel
theorem dL_law_442 : decode cL_law 442 = .ok (.aload_n 0, 1) := by decide +kernel
theorem dL_law_443 : decode cL_law 443 = .ok (.iload_n 3, 1) := by decide +kernel
theorem dL_law_444 : decode cL_law 444 = .ok (.iconst 2, 1) := by decide +kernel
theorem dL_law_445 : decode cL_law 445 = .ok (.iadd, 1) := by decide +kernel
theorem dL_law_446 : decode cL_law 446 = .ok (.iaload, 1) := by decide +kernel
theorem dL_law_447 : decode cL_law 447 = .ok (.invokevirtual 45, 3) := by decide +kernel
theorem dL_law_450 : decode cL_law 450 = .ok (.if_icmp .eq 913, 3) := by decide +kernel
theorem dL_law_453 : decode cL_law 453 = .ok (.iconst 0, 1) := by decide +kernel
theorem dL_law_454 : decode cL_law 454 = .ok (.ireturn, 1) := by decide +kernel
theorem dL_law_455 : decode cL_law 455 = .ok (.aload_n 1, 1) := by decide +kernel
theorem dL_law_456 : decode cL_law 456 = .ok (.aload_n 0, 1) := by decide +kernel
theorem dL_law_457 : decode cL_law 457 = .ok (.iload_n 3, 1) := by decide +kernel
theorem dL_law_458 : decode cL_law 458 = .ok (.iconst 1, 1) := by decide +kernel
theorem dL_law_459 : decode cL_law 459 = .ok (.iadd, 1) := by decide +kernel
theorem dL_law_460 : decode cL_law 460 = .ok (.iaload, 1) := by decide +kernel
theorem dL_law_461 : decode cL_law 461 = .ok (.aload_n 0, 1) := by decide +kernel
theorem dL_law_462 : decode cL_law 462 = .ok (.iload_n 3, 1) := by decide +kernel
theorem dL_law_463 : decode cL_law 463 = .ok (.iconst 2, 1) := by decide +kernel
theorem dL_law_464 : decode cL_law 464 = .ok (.iadd, 1) := by decide +kernel
theorem dL_law_465 : decode cL_law 465 = .ok (.iaload, 1) := by decide +kernel
theorem dL_law_466 : decode cL_law 466 = .ok (.invokevirtual 46, 3) := by decide +kernel
theorem dL_law_469 : decode cL_law 469 = .ok (.aload_n 2, 1) := by decide +kernel
theorem dL_law_470 : decode cL_law 470 = .ok (.aload_n 0, 1) := by decide +kernel
theorem dL_law_471 : decode cL_law 471 = .ok (.iload_n 3, 1) := by decide +kernel
theorem dL_law_472 : decode cL_law 472 = .ok (.iconst 1, 1) := by decide +kernel
theorem dL_law_473 : decode cL_law 473 = .ok (.iadd, 1) := by decide +kernel
theorem dL_law_474 : decode cL_law 474 = .ok (.iaload, 1) := by decide +kernel
theorem dL_law_475 : decode cL_law 475 = .ok (.aload_n 0, 1) := by decide +kernel
theorem dL_law_476 : decode cL_law 476 = .ok (.iload_n 3, 1) := by decide +kernel
theorem dL_law_477 : decode cL_law 477 = .ok (.iconst 2, 1) := by decide +kernel
theorem dL_law_478 : decode cL_law 478 = .ok (.iadd, 1) := by decide +kernel
theorem dL_law_479 : decode cL_law 479 = .ok (.iaload, 1) := by decide +kernel
theorem dL_law_480 : decode cL_law 480 = .ok (.invokevirtual 49, 3) := by decide +kernel
theorem dL_law_483 : decode cL_law 483 = .ok (.if_icmp .eq 880, 3) := by decide +kernel
theorem dL_law_486 : decode cL_law 486 = .ok (.iconst 0, 1) := by decide +kernel
theorem dL_law_487 : decode cL_law 487 = .ok (.ireturn, 1) := by decide +kernel
theorem dL_law_488 : decode cL_law 488 = .ok (.aload_n 1, 1) := by decide +kernel
theorem dL_law_489 : decode cL_law 489 = .ok (.aload_n 0, 1) := by decide +kernel
theorem dL_law_490 : decode cL_law 490 = .ok (.iload_n 3, 1) := by decide +kernel
theorem dL_law_491 : decode cL_law 491 = .ok (.iconst 1, 1) := by decide +kernel
theorem dL_law_492 : decode cL_law 492 = .ok (.iadd, 1) := by decide +kernel
theorem dL_law_493 : decode cL_law 493 = .ok (.iaload, 1) := by decide +kernel
theorem dL_law_494 : decode cL_law 494 = .ok (.aload_n 0, 1) := by decide +kernel
theorem dL_law_495 : decode cL_law 495 = .ok (.iload_n 3, 1) := by decide +kernel
theorem dL_law_496 : decode cL_law 496 = .ok (.iconst 2, 1) := by decide +kernel
theorem dL_law_497 : decode cL_law 497 = .ok (.iadd, 1) := by decide +kernel
theorem dL_law_498 : decode cL_law 498 = .ok (.iaload, 1) := by decide +kernel
theorem dL_law_499 : decode cL_law 499 = .ok (.invokevirtual 50, 3) := by decide +kernel
theorem dL_law_502 : decode cL_law 502 = .ok (.aload_n 2, 1) := by decide +kernel
theorem dL_law_503 : decode cL_law 503 = .ok (.aload_n 0, 1) := by decide +kernel
theorem dL_law_504 : decode cL_law 504 = .ok (.iload_n 3, 1) := by decide +kernel
theorem dL_law_505 : decode cL_law 505 = .ok (.iconst 1, 1) := by decide +kernel
theorem dL_law_506 : decode cL_law 506 = .ok (.iadd, 1) := by decide +kernel
theorem dL_law_507 : decode cL_law 507 = .ok (.iaload, 1) := by decide +kernel
theorem dL_law_508 : decode cL_law 508 = .ok (.aload_n 0, 1) := by decide +kernel
theorem dL_law_509 : decode cL_law 509 = .ok (.iload_n 3, 1) := by decide +kernel
theorem dL_law_510 : decode cL_law 510 = .ok (.iconst 2, 1) := by decide +kernel
theorem dL_law_511 : decode cL_law 511 = .ok (.iadd, 1) := by decide +kernel
theorem dL_law_512 : decode cL_law 512 = .ok (.iaload, 1) := by decide +kernel
theorem dL_law_513 : decode cL_law 513 = .ok (.invokevirtual 53, 3) := by decide +kernel
theorem dL_law_516 : decode cL_law 516 = .ok (.if_icmp .eq 847, 3) := by decide +kernel
theorem dL_law_519 : decode cL_law 519 = .ok (.iconst 0, 1) := by decide +kernel
theorem dL_law_520 : decode cL_law 520 = .ok (.ireturn, 1) := by decide +kernel
theorem dL_law_521 : decode cL_law 521 = .ok (.aload_n 1, 1) := by decide +kernel
theorem dL_law_522 : decode cL_law 522 = .ok (.aload_n 0, 1) := by decide +kernel
theorem dL_law_523 : decode cL_law 523 = .ok (.iload_n 3, 1) := by decide +kernel
theorem dL_law_524 : decode cL_law 524 = .ok (.iconst 1, 1) := by decide +kernel
theorem dL_law_525 : decode cL_law 525 = .ok (.iadd, 1) := by decide +kernel
theorem dL_law_526 : decode cL_law 526 = .ok (.iaload, 1) := by decide +kernel
theorem dL_law_527 : decode cL_law 527 = .ok (.aload_n 0, 1) := by decide +kernel
theorem dL_law_528 : decode cL_law 528 = .ok (.iload_n 3, 1) := by decide +kernel
theorem dL_law_529 : decode cL_law 529 = .ok (.iconst 2, 1) := by decide +kernel
theorem dL_law_530 : decode cL_law 530 = .ok (.iadd, 1) := by decide +kernel
theorem dL_law_531 : decode cL_law 531 = .ok (.iaload, 1) := by decide +kernel
theorem dL_law_532 : decode cL_law 532 = .ok (.invokevirtual 54, 3) := by decide +kernel
theorem dL_law_535 : decode cL_law 535 = .ok (.aload_n 2, 1) := by decide +kernel
theorem dL_law_536 : decode cL_law 536 = .ok (.aload_n 0, 1) := by decide +kernel
theorem dL_law_537 : decode cL_law 537 = .ok (.iload_n 3, 1) := by decide +kernel
theorem dL_law_538 : decode cL_law 538 = .ok (.iconst 1, 1) := by decide +kernel
theorem dL_law_539 : decode cL_law 539 = .ok (.iadd, 1) := by decide +kernel
theorem dL_law_540 : decode cL_law 540 = .ok (.iaload, 1) := by decide +kernel
theorem dL_law_541 : decode cL_law 541 = .ok (.aload_n 0, 1) := by decide +kernel
theorem dL_law_542 : decode cL_law 542 = .ok (.iload_n 3, 1) := by decide +kernel
theorem dL_law_543 : decode cL_law 543 = .ok (.iconst 2, 1) := by decide +kernel
theorem dL_law_544 : decode cL_law 544 = .ok (.iadd, 1) := by decide +kernel
theorem dL_law_545 : decode cL_law 545 = .ok (.iaload, 1) := by decide +kernel
theorem dL_law_546 : decode cL_law 546 = .ok (.invokevirtual 57, 3) := by decide +kernel
theorem dL_law_549 : decode cL_law 549 = .ok (.if_icmp .eq 814, 3) := by decide +kernel
theorem dL_law_552 : decode cL_law 552 = .ok (.iconst 0, 1) := by decide +kernel
theorem dL_law_553 : decode cL_law 553 = .ok (.ireturn, 1) := by decide +kernel
theorem dL_law_554 : decode cL_law 554 = .ok (.aload_n 1, 1) := by decide +kernel
theorem dL_law_555 : decode cL_law 555 = .ok (.aload_n 0, 1) := by decide +kernel
theorem dL_law_556 : decode cL_law 556 = .ok (.iload_n 3, 1) := by decide +kernel
theorem dL_law_557 : decode cL_law 557 = .ok (.iconst 1, 1) := by decide +kernel
theorem dL_law_558 : decode cL_law 558 = .ok (.iadd, 1) := by decide +kernel
theorem dL_law_559 : decode cL_law 559 = .ok (.iaload, 1) := by decide +kernel
theorem dL_law_560 : decode cL_law 560 = .ok (.aload_n 0, 1) := by decide +kernel
theorem dL_law_561 : decode cL_law 561 = .ok (.iload_n 3, 1) := by decide +kernel
theorem dL_law_562 : decode cL_law 562 = .ok (.iconst 2, 1) := by decide +kernel
theorem dL_law_563 : decode cL_law 563 = .ok (.iadd, 1) := by decide +kernel
theorem dL_law_564 : decode cL_law 564 = .ok (.iaload, 1) := by decide +kernel
theorem dL_law_565 : decode cL_law 565 = .ok (.aload_n 0, 1) := by decide +kernel
theorem dL_law_566 : decode cL_law 566 = .ok (.iload_n 3, 1) := by decide +kernel
theorem dL_law_567 : decode cL_law 567 = .ok (.iconst 3, 1) := by decide +kernel
theorem dL_law_568 : decode cL_law 568 = .ok (.iadd, 1) := by decide +kernel
theorem dL_law_569 : decode cL_law 569 = .ok (.iaload, 1) := by decide +kernel
theorem dL_law_570 : decode cL_law 570 = .ok (.invokevirtual 58, 3) := by decide +kernel
theorem dL_law_573 : decode cL_law 573 = .ok (.aload_n 2, 1) := by decide +kernel
theorem dL_law_574 : decode cL_law 574 = .ok (.aload_n 0, 1) := by decide +kernel
theorem dL_law_575 : decode cL_law 575 = .ok (.iload_n 3, 1) := by decide +kernel
theorem dL_law_576 : decode cL_law 576 = .ok (.iconst 1, 1) := by decide +kernel
theorem dL_law_577 : decode cL_law 577 = .ok (.iadd, 1) := by decide +kernel
theorem dL_law_578 : decode cL_law 578 = .ok (.iaload, 1) := by decide +kernel
theorem dL_law_579 : decode cL_law 579 = .ok (.aload_n 0, 1) := by decide +kernel
theorem dL_law_580 : decode cL_law 580 = .ok (.iload_n 3, 1) := by decide +kernel
theorem dL_law_581 : decode cL_law 581 = .ok (.iconst 2, 1) := by decide +kernel
theorem dL_law_582 : decode cL_law 582 = .ok (.iadd, 1) := by decide +kernel
theorem dL_law_583 : decode cL_law 583 = .ok (.iaload, 1) := by decide +kernel
theorem dL_law_584 : decode cL_law 584 = .ok (.aload_n 0, 1) := by decide +kernel
theorem dL_law_585 : decode cL_law 585 = .ok (.iload_n 3, 1) := by decide +kernel
theorem dL_law_586 : decode cL_law 586 = .ok (.iconst 3, 1) := by decide +kernel
theorem dL_law_587 : decode cL_law 587 = .ok (.iadd, 1) := by decide +kernel
theorem dL_law_588 : decode cL_law 588 = .ok (.iaload, 1) := by decide +kernel
theorem dL_law_589 : decode cL_law 589 = .ok (.invokevirtual 62, 3) := by decide +kernel
theorem dL_law_592 : decode cL_law 592 = .ok (.if_icmp .eq 771, 3) := by decide +kernel
theorem dL_law_595 : decode cL_law 595 = .ok (.iconst 0, 1) := by decide +kernel
theorem dL_law_596 : decode cL_law 596 = .ok (.ireturn, 1) := by decide +kernel
theorem dL_law_597 : decode cL_law 597 = .ok (.aload_n 1, 1) := by decide +kernel
theorem dL_law_598 : decode cL_law 598 = .ok (.aload_n 0, 1) := by decide +kernel
theorem dL_law_599 : decode cL_law 599 = .ok (.iload_n 3, 1) := by decide +kernel
theorem dL_law_600 : decode cL_law 600 = .ok (.iconst 1, 1) := by decide +kernel
theorem dL_law_601 : decode cL_law 601 = .ok (.iadd, 1) := by decide +kernel
theorem dL_law_602 : decode cL_law 602 = .ok (.iaload, 1) := by decide +kernel
theorem dL_law_603 : decode cL_law 603 = .ok (.invokevirtual 63, 3) := by decide +kernel
theorem dL_law_606 : decode cL_law 606 = .ok (.aload_n 2, 1) := by decide +kernel
theorem dL_law_607 : decode cL_law 607 = .ok (.aload_n 0, 1) := by decide +kernel
theorem dL_law_608 : decode cL_law 608 = .ok (.iload_n 3, 1) := by decide +kernel
theorem dL_law_609 : decode cL_law 609 = .ok (.iconst 1, 1) := by decide +kernel
theorem dL_law_610 : decode cL_law 610 = .ok (.iadd, 1) := by decide +kernel
theorem dL_law_611 : decode cL_law 611 = .ok (.iaload, 1) := by decide +kernel
theorem dL_law_612 : decode cL_law 612 = .ok (.invokevirtual 66, 3) := by decide +kernel
theorem dL_law_615 : decode cL_law 615 = .ok (.if_icmp .eq 748, 3) := by decide +kernel
theorem dL_law_618 : decode cL_law 618 = .ok (.iconst 0, 1) := by decide +kernel
theorem dL_law_619 : decode cL_law 619 = .ok (.ireturn, 1) := by decide +kernel
theorem dL_law_620 : decode cL_law 620 = .ok (.aload_n 1, 1) := by decide +kernel
theorem dL_law_621 : decode cL_law 621 = .ok (.aload_n 0, 1) := by decide +kernel
theorem dL_law_622 : decode cL_law 622 = .ok (.iload_n 3, 1) := by decide +kernel
theorem dL_law_623 : decode cL_law 623 = .ok (.iconst 1, 1) := by decide +kernel
theorem dL_law_624 : decode cL_law 624 = .ok (.iadd, 1) := by decide +kernel
theorem dL_law_625 : decode cL_law 625 = .ok (.iaload, 1) := by decide +kernel
theorem dL_law_626 : decode cL_law 626 = .ok (.aload_n 0, 1) := by decide +kernel
theorem dL_law_627 : decode cL_law 627 = .ok (.iload_n 3, 1) := by decide +kernel
theorem dL_law_628 : decode cL_law 628 = .ok (.iconst 2, 1) := by decide +kernel
theorem dL_law_629 : decode cL_law 629 = .ok (.iadd, 1) := by decide +kernel
theorem dL_law_630 : decode cL_law 630 = .ok (.iaload, 1) := by decide +kernel
theorem dL_law_631 : decode cL_law 631 = .ok (.invokevirtual 67, 3) := by decide +kernel
theorem dL_law_634 : decode cL_law 634 = .ok (.aload_n 2, 1) := by decide +kernel
theorem dL_law_635 : decode cL_law 635 = .ok (.aload_n 0, 1) := by decide +kernel
theorem dL_law_636 : decode cL_law 636 = .ok (.iload_n 3, 1) := by decide +kernel
theorem dL_law_637 : decode cL_law 637 = .ok (.iconst 1, 1) := by decide +kernel
theorem dL_law_638 : decode cL_law 638 = .ok (.iadd, 1) := by decide +kernel
theorem dL_law_639 : decode cL_law 639 = .ok (.iaload, 1) := by decide +kernel
theorem dL_law_640 : decode cL_law 640 = .ok (.aload_n 0, 1) := by decide +kernel
theorem dL_law_641 : decode cL_law 641 = .ok (.iload_n 3, 1) := by decide +kernel
theorem dL_law_642 : decode cL_law 642 = .ok (.iconst 2, 1) := by decide +kernel
theorem dL_law_643 : decode cL_law 643 = .ok (.iadd, 1) := by decide +kernel
theorem dL_law_644 : decode cL_law 644 = .ok (.iaload, 1) := by decide +kernel
theorem dL_law_645 : decode cL_law 645 = .ok (.invokevirtual 70, 3) := by decide +kernel
theorem dL_law_648 : decode cL_law 648 = .ok (.if_icmp .eq 715, 3) := by decide +kernel
theorem dL_law_651 : decode cL_law 651 = .ok (.iconst 0, 1) := by decide +kernel
theorem dL_law_652 : decode cL_law 652 = .ok (.ireturn, 1) := by decide +kernel
theorem dL_law_653 : decode cL_law 653 = .ok (.aload_n 1, 1) := by decide +kernel
theorem dL_law_654 : decode cL_law 654 = .ok (.invokevirtual 71, 3) := by decide +kernel
theorem dL_law_657 : decode cL_law 657 = .ok (.aload_n 2, 1) := by decide +kernel
theorem dL_law_658 : decode cL_law 658 = .ok (.invokevirtual 75, 3) := by decide +kernel
theorem dL_law_661 : decode cL_law 661 = .ok (.if_icmp .eq 702, 3) := by decide +kernel
theorem dL_law_664 : decode cL_law 664 = .ok (.iconst 0, 1) := by decide +kernel
theorem dL_law_665 : decode cL_law 665 = .ok (.ireturn, 1) := by decide +kernel
theorem dL_law_666 : decode cL_law 666 = .ok (.aload_n 1, 1) := by decide +kernel
theorem dL_law_667 : decode cL_law 667 = .ok (.aload_n 0, 1) := by decide +kernel
theorem dL_law_668 : decode cL_law 668 = .ok (.iload_n 3, 1) := by decide +kernel
theorem dL_law_669 : decode cL_law 669 = .ok (.iconst 1, 1) := by decide +kernel
theorem dL_law_670 : decode cL_law 670 = .ok (.iadd, 1) := by decide +kernel
theorem dL_law_671 : decode cL_law 671 = .ok (.iaload, 1) := by decide +kernel
theorem dL_law_672 : decode cL_law 672 = .ok (.invokevirtual 76, 3) := by decide +kernel
theorem dL_law_675 : decode cL_law 675 = .ok (.aload_n 2, 1) := by decide +kernel
theorem dL_law_676 : decode cL_law 676 = .ok (.aload_n 0, 1) := by decide +kernel
theorem dL_law_677 : decode cL_law 677 = .ok (.iload_n 3, 1) := by decide +kernel
theorem dL_law_678 : decode cL_law 678 = .ok (.iconst 1, 1) := by decide +kernel
theorem dL_law_679 : decode cL_law 679 = .ok (.iadd, 1) := by decide +kernel
theorem dL_law_680 : decode cL_law 680 = .ok (.iaload, 1) := by decide +kernel
theorem dL_law_681 : decode cL_law 681 = .ok (.invokevirtual 79, 3) := by decide +kernel
theorem dL_law_684 : decode cL_law 684 = .ok (.if_icmp .eq 679, 3) := by decide +kernel
theorem dL_law_687 : decode cL_law 687 = .ok (.iconst 0, 1) := by decide +kernel
theorem dL_law_688 : decode cL_law 688 = .ok (.ireturn, 1) := by decide +kernel
theorem dL_law_689 : decode cL_law 689 = .ok (.aload_n 1, 1) := by decide +kernel
theorem dL_law_690 : decode cL_law 690 = .ok (.aload_n 0, 1) := by decide +kernel
theorem dL_law_691 : decode cL_law 691 = .ok (.iload_n 3, 1) := by decide +kernel
theorem dL_law_692 : decode cL_law 692 = .ok (.iconst 1, 1) := by decide +kernel
theorem dL_law_693 : decode cL_law 693 = .ok (.iadd, 1) := by decide +kernel
theorem dL_law_694 : decode cL_law 694 = .ok (.iaload, 1) := by decide +kernel
theorem dL_law_695 : decode cL_law 695 = .ok (.aload_n 0, 1) := by decide +kernel
theorem dL_law_696 : decode cL_law 696 = .ok (.iload_n 3, 1) := by decide +kernel
theorem dL_law_697 : decode cL_law 697 = .ok (.iconst 2, 1) := by decide +kernel
theorem dL_law_698 : decode cL_law 698 = .ok (.iadd, 1) := by decide +kernel
theorem dL_law_699 : decode cL_law 699 = .ok (.iaload, 1) := by decide +kernel
theorem dL_law_700 : decode cL_law 700 = .ok (.aload_n 0, 1) := by decide +kernel
theorem dL_law_701 : decode cL_law 701 = .ok (.iload_n 3, 1) := by decide +kernel
theorem dL_law_702 : decode cL_law 702 = .ok (.iconst 3, 1) := by decide +kernel
theorem dL_law_703 : decode cL_law 703 = .ok (.iadd, 1) := by decide +kernel
theorem dL_law_704 : decode cL_law 704 = .ok (.iaload, 1) := by decide +kernel
theorem dL_law_705 : decode cL_law 705 = .ok (.aload_n 0, 1) := by decide +kernel
theorem dL_law_706 : decode cL_law 706 = .ok (.iload_n 3, 1) := by decide +kernel
theorem dL_law_707 : decode cL_law 707 = .ok (.iconst 4, 1) := by decide +kernel
theorem dL_law_708 : decode cL_law 708 = .ok (.iadd, 1) := by decide +kernel
theorem dL_law_709 : decode cL_law 709 = .ok (.iaload, 1) := by decide +kernel
theorem dL_law_710 : decode cL_law 710 = .ok (.invokevirtual 80, 3) := by decide +kernel
theorem dL_law_713 : decode cL_law 713 = .ok (.aload_n 2, 1) := by decide +kernel
theorem dL_law_714 : decode cL_law 714 = .ok (.aload_n 0, 1) := by decide +kernel
theorem dL_law_715 : decode cL_law 715 = .ok (.iload_n 3, 1) := by decide +kernel
theorem dL_law_716 : decode cL_law 716 = .ok (.iconst 1, 1) := by decide +kernel
theorem dL_law_717 : decode cL_law 717 = .ok (.iadd, 1) := by decide +kernel
theorem dL_law_718 : decode cL_law 718 = .ok (.iaload, 1) := by decide +kernel
theorem dL_law_719 : decode cL_law 719 = .ok (.aload_n 0, 1) := by decide +kernel
theorem dL_law_720 : decode cL_law 720 = .ok (.iload_n 3, 1) := by decide +kernel
theorem dL_law_721 : decode cL_law 721 = .ok (.iconst 2, 1) := by decide +kernel
theorem dL_law_722 : decode cL_law 722 = .ok (.iadd, 1) := by decide +kernel
theorem dL_law_723 : decode cL_law 723 = .ok (.iaload, 1) := by decide +kernel
theorem dL_law_724 : decode cL_law 724 = .ok (.aload_n 0, 1) := by decide +kernel
theorem dL_law_725 : decode cL_law 725 = .ok (.iload_n 3, 1) := by decide +kernel
theorem dL_law_726 : decode cL_law 726 = .ok (.iconst 3, 1) := by decide +kernel
theorem dL_law_727 : decode cL_law 727 = .ok (.iadd, 1) := by decide +kernel
theorem dL_law_728 : decode cL_law 728 = .ok (.iaload, 1) := by decide +kernel
theorem dL_law_729 : decode cL_law 729 = .ok (.aload_n 0, 1) := by decide +kernel
theorem dL_law_730 : decode cL_law 730 = .ok (.iload_n 3, 1) := by decide +kernel
theorem dL_law_731 : decode cL_law 731 = .ok (.iconst 4, 1) := by decide +kernel
theorem dL_law_732 : decode cL_law 732 = .ok (.iadd, 1) := by decide +kernel
theorem dL_law_733 : decode cL_law 733 = .ok (.iaload, 1) := by decide +kernel
theorem dL_law_734 : decode cL_law 734 = .ok (.invokevirtual 84, 3) := by decide +kernel
theorem dL_law_737 : decode cL_law 737 = .ok (.if_icmp .eq 626, 3) := by decide +kernel
theorem dL_law_740 : decode cL_law 740 = .ok (.iconst 0, 1) := by decide +kernel
theorem dL_law_741 : decode cL_law 741 = .ok (.ireturn, 1) := by decide +kernel
theorem dL_law_742 : decode cL_law 742 = .ok (.aload_n 1, 1) := by decide +kernel
theorem dL_law_743 : decode cL_law 743 = .ok (.aload_n 0, 1) := by decide +kernel
theorem dL_law_744 : decode cL_law 744 = .ok (.iload_n 3, 1) := by decide +kernel
theorem dL_law_745 : decode cL_law 745 = .ok (.iconst 1, 1) := by decide +kernel
theorem dL_law_746 : decode cL_law 746 = .ok (.iadd, 1) := by decide +kernel
theorem dL_law_747 : decode cL_law 747 = .ok (.iaload, 1) := by decide +kernel
theorem dL_law_748 : decode cL_law 748 = .ok (.invokevirtual 85, 3) := by decide +kernel
theorem dL_law_751 : decode cL_law 751 = .ok (.aload_n 2, 1) := by decide +kernel
theorem dL_law_752 : decode cL_law 752 = .ok (.aload_n 0, 1) := by decide +kernel
theorem dL_law_753 : decode cL_law 753 = .ok (.iload_n 3, 1) := by decide +kernel
theorem dL_law_754 : decode cL_law 754 = .ok (.iconst 1, 1) := by decide +kernel
theorem dL_law_755 : decode cL_law 755 = .ok (.iadd, 1) := by decide +kernel
theorem dL_law_756 : decode cL_law 756 = .ok (.iaload, 1) := by decide +kernel
theorem dL_law_757 : decode cL_law 757 = .ok (.invokevirtual 88, 3) := by decide +kernel
theorem dL_law_760 : decode cL_law 760 = .ok (.if_icmp .eq 603, 3) := by decide +kernel
theorem dL_law_763 : decode cL_law 763 = .ok (.iconst 0, 1) := by decide +kernel
theorem dL_law_764 : decode cL_law 764 = .ok (.ireturn, 1) := by decide +kernel
theorem dL_law_765 : decode cL_law 765 = .ok (.aload_n 1, 1) := by decide +kernel
theorem dL_law_766 : decode cL_law 766 = .ok (.invokevirtual 89, 3) := by decide +kernel
theorem dL_law_769 : decode cL_law 769 = .ok (.aload_n 2, 1) := by decide +kernel
theorem dL_law_770 : decode cL_law 770 = .ok (.invokevirtual 92, 3) := by decide +kernel
theorem dL_law_773 : decode cL_law 773 = .ok (.if_icmp .eq 590, 3) := by decide +kernel
theorem dL_law_776 : decode cL_law 776 = .ok (.iconst 0, 1) := by decide +kernel
theorem dL_law_777 : decode cL_law 777 = .ok (.ireturn, 1) := by decide +kernel
theorem dL_law_778 : decode cL_law 778 = .ok (.aload_n 1, 1) := by decide +kernel
theorem dL_law_779 : decode cL_law 779 = .ok (.aload_n 0, 1) := by decide +kernel
theorem dL_law_780 : decode cL_law 780 = .ok (.iload_n 3, 1) := by decide +kernel
theorem dL_law_781 : decode cL_law 781 = .ok (.iconst 1, 1) := by decide +kernel
theorem dL_law_782 : decode cL_law 782 = .ok (.iadd, 1) := by decide +kernel
theorem dL_law_783 : decode cL_law 783 = .ok (.iaload, 1) := by decide +kernel
theorem dL_law_784 : decode cL_law 784 = .ok (.invokevirtual 93, 3) := by decide +kernel
theorem dL_law_787 : decode cL_law 787 = .ok (.aload_n 2, 1) := by decide +kernel
theorem dL_law_788 : decode cL_law 788 = .ok (.aload_n 0, 1) := by decide +kernel
theorem dL_law_789 : decode cL_law 789 = .ok (.iload_n 3, 1) := by decide +kernel
theorem dL_law_790 : decode cL_law 790 = .ok (.iconst 1, 1) := by decide +kernel
theorem dL_law_791 : decode cL_law 791 = .ok (.iadd, 1) := by decide +kernel
theorem dL_law_792 : decode cL_law 792 = .ok (.iaload, 1) := by decide +kernel
theorem dL_law_793 : decode cL_law 793 = .ok (.invokevirtual 96, 3) := by decide +kernel
theorem dL_law_796 : decode cL_law 796 = .ok (.if_icmp .eq 567, 3) := by decide +kernel
theorem dL_law_799 : decode cL_law 799 = .ok (.iconst 0, 1) := by decide +kernel
theorem dL_law_800 : decode cL_law 800 = .ok (.ireturn, 1) := by decide +kernel
theorem dL_law_801 : decode cL_law 801 = .ok (.aload_n 1, 1) := by decide +kernel
theorem dL_law_802 : decode cL_law 802 = .ok (.aload_n 0, 1) := by decide +kernel
theorem dL_law_803 : decode cL_law 803 = .ok (.iload_n 3, 1) := by decide +kernel
theorem dL_law_804 : decode cL_law 804 = .ok (.iconst 1, 1) := by decide +kernel
theorem dL_law_805 : decode cL_law 805 = .ok (.iadd, 1) := by decide +kernel
theorem dL_law_806 : decode cL_law 806 = .ok (.iaload, 1) := by decide +kernel
theorem dL_law_807 : decode cL_law 807 = .ok (.invokevirtual 97, 3) := by decide +kernel
theorem dL_law_810 : decode cL_law 810 = .ok (.aload_n 2, 1) := by decide +kernel
theorem dL_law_811 : decode cL_law 811 = .ok (.aload_n 0, 1) := by decide +kernel
theorem dL_law_812 : decode cL_law 812 = .ok (.iload_n 3, 1) := by decide +kernel
theorem dL_law_813 : decode cL_law 813 = .ok (.iconst 1, 1) := by decide +kernel
theorem dL_law_814 : decode cL_law 814 = .ok (.iadd, 1) := by decide +kernel
theorem dL_law_815 : decode cL_law 815 = .ok (.iaload, 1) := by decide +kernel
theorem dL_law_816 : decode cL_law 816 = .ok (.invokevirtual 100, 3) := by decide +kernel
theorem dL_law_819 : decode cL_law 819 = .ok (.if_icmp .eq 544, 3) := by decide +kernel
theorem dL_law_822 : decode cL_law 822 = .ok (.iconst 0, 1) := by decide +kernel
theorem dL_law_823 : decode cL_law 823 = .ok (.ireturn, 1) := by decide +kernel
theorem dL_law_824 : decode cL_law 824 = .ok (.aload_n 1, 1) := by decide +kernel
theorem dL_law_825 : decode cL_law 825 = .ok (.aload_n 0, 1) := by decide +kernel
theorem dL_law_826 : decode cL_law 826 = .ok (.iload_n 3, 1) := by decide +kernel
theorem dL_law_827 : decode cL_law 827 = .ok (.iconst 1, 1) := by decide +kernel
theorem dL_law_828 : decode cL_law 828 = .ok (.iadd, 1) := by decide +kernel
theorem dL_law_829 : decode cL_law 829 = .ok (.iaload, 1) := by decide +kernel
theorem dL_law_830 : decode cL_law 830 = .ok (.invokevirtual 101, 3) := by decide +kernel
theorem dL_law_833 : decode cL_law 833 = .ok (.aload_n 2, 1) := by decide +kernel
theorem dL_law_834 : decode cL_law 834 = .ok (.aload_n 0, 1) := by decide +kernel
theorem dL_law_835 : decode cL_law 835 = .ok (.iload_n 3, 1) := by decide +kernel
theorem dL_law_836 : decode cL_law 836 = .ok (.iconst 1, 1) := by decide +kernel
theorem dL_law_837 : decode cL_law 837 = .ok (.iadd, 1) := by decide +kernel
theorem dL_law_838 : decode cL_law 838 = .ok (.iaload, 1) := by decide +kernel
theorem dL_law_839 : decode cL_law 839 = .ok (.invokevirtual 104, 3) := by decide +kernel
theorem dL_law_842 : decode cL_law 842 = .ok (.if_icmp .eq 521, 3) := by decide +kernel
theorem dL_law_845 : decode cL_law 845 = .ok (.iconst 0, 1) := by decide +kernel
theorem dL_law_846 : decode cL_law 846 = .ok (.ireturn, 1) := by decide +kernel
theorem dL_law_847 : decode cL_law 847 = .ok (.aload_n 1, 1) := by decide +kernel
theorem dL_law_848 : decode cL_law 848 = .ok (.aload_n 0, 1) := by decide +kernel
theorem dL_law_849 : decode cL_law 849 = .ok (.iload_n 3, 1) := by decide +kernel
theorem dL_law_850 : decode cL_law 850 = .ok (.iconst 1, 1) := by decide +kernel
theorem dL_law_851 : decode cL_law 851 = .ok (.iadd, 1) := by decide +kernel
theorem dL_law_852 : decode cL_law 852 = .ok (.iaload, 1) := by decide +kernel
theorem dL_law_853 : decode cL_law 853 = .ok (.aload_n 0, 1) := by decide +kernel
theorem dL_law_854 : decode cL_law 854 = .ok (.iload_n 3, 1) := by decide +kernel
theorem dL_law_855 : decode cL_law 855 = .ok (.iconst 2, 1) := by decide +kernel
theorem dL_law_856 : decode cL_law 856 = .ok (.iadd, 1) := by decide +kernel
theorem dL_law_857 : decode cL_law 857 = .ok (.iaload, 1) := by decide +kernel
theorem dL_law_858 : decode cL_law 858 = .ok (.invokevirtual 105, 3) := by decide +kernel
theorem dL_law_861 : decode cL_law 861 = .ok (.aload_n 2, 1) := by decide +kernel
theorem dL_law_862 : decode cL_law 862 = .ok (.aload_n 0, 1) := by decide +kernel
theorem dL_law_863 : decode cL_law 863 = .ok (.iload_n 3, 1) := by decide +kernel
theorem dL_law_864 : decode cL_law 864 = .ok (.iconst 1, 1) := by decide +kernel
theorem dL_law_865 : decode cL_law 865 = .ok (.iadd, 1) := by decide +kernel
theorem dL_law_866 : decode cL_law 866 = .ok (.iaload, 1) := by decide +kernel
theorem dL_law_867 : decode cL_law 867 = .ok (.aload_n 0, 1) := by decide +kernel
theorem dL_law_868 : decode cL_law 868 = .ok (.iload_n 3, 1) := by decide +kernel
theorem dL_law_869 : decode cL_law 869 = .ok (.iconst 2, 1) := by decide +kernel
theorem dL_law_870 : decode cL_law 870 = .ok (.iadd, 1) := by decide +kernel
theorem dL_law_871 : decode cL_law 871 = .ok (.iaload, 1) := by decide +kernel
theorem dL_law_872 : decode cL_law 872 = .ok (.invokevirtual 108, 3) := by decide +kernel
theorem dL_law_875 : decode cL_law 875 = .ok (.if_icmp .eq 488, 3) := by decide +kernel
theorem dL_law_878 : decode cL_law 878 = .ok (.iconst 0, 1) := by decide +kernel
theorem dL_law_879 : decode cL_law 879 = .ok (.ireturn, 1) := by decide +kernel
theorem dL_law_880 : decode cL_law 880 = .ok (.aload_n 1, 1) := by decide +kernel
theorem dL_law_881 : decode cL_law 881 = .ok (.aload_n 0, 1) := by decide +kernel
theorem dL_law_882 : decode cL_law 882 = .ok (.iload_n 3, 1) := by decide +kernel
theorem dL_law_883 : decode cL_law 883 = .ok (.iconst 1, 1) := by decide +kernel
theorem dL_law_884 : decode cL_law 884 = .ok (.iadd, 1) := by decide +kernel
theorem dL_law_885 : decode cL_law 885 = .ok (.iaload, 1) := by decide +kernel
theorem dL_law_886 : decode cL_law 886 = .ok (.invokevirtual 109, 3) := by decide +kernel
theorem dL_law_889 : decode cL_law 889 = .ok (.aload_n 2, 1) := by decide +kernel
theorem dL_law_890 : decode cL_law 890 = .ok (.aload_n 0, 1) := by decide +kernel
theorem dL_law_891 : decode cL_law 891 = .ok (.iload_n 3, 1) := by decide +kernel
theorem dL_law_892 : decode cL_law 892 = .ok (.iconst 1, 1) := by decide +kernel
theorem dL_law_893 : decode cL_law 893 = .ok (.iadd, 1) := by decide +kernel
theorem dL_law_894 : decode cL_law 894 = .ok (.iaload, 1) := by decide +kernel
theorem dL_law_895 : decode cL_law 895 = .ok (.invokevirtual 112, 3) := by decide +kernel
theorem dL_law_898 : decode cL_law 898 = .ok (.if_icmp .eq 465, 3) := by decide +kernel
theorem dL_law_901 : decode cL_law 901 = .ok (.iconst 0, 1) := by decide +kernel
theorem dL_law_902 : decode cL_law 902 = .ok (.ireturn, 1) := by decide +kernel
theorem dL_law_903 : decode cL_law 903 = .ok (.aload_n 1, 1) := by decide +kernel
theorem dL_law_904 : decode cL_law 904 = .ok (.aload_n 0, 1) := by decide +kernel
theorem dL_law_905 : decode cL_law 905 = .ok (.iload_n 3, 1) := by decide +kernel
theorem dL_law_906 : decode cL_law 906 = .ok (.iconst 1, 1) := by decide +kernel
theorem dL_law_907 : decode cL_law 907 = .ok (.iadd, 1) := by decide +kernel
theorem dL_law_908 : decode cL_law 908 = .ok (.iaload, 1) := by decide +kernel
theorem dL_law_909 : decode cL_law 909 = .ok (.invokevirtual 113, 3) := by decide +kernel
theorem dL_law_912 : decode cL_law 912 = .ok (.aload_n 2, 1) := by decide +kernel
theorem dL_law_913 : decode cL_law 913 = .ok (.aload_n 0, 1) := by decide +kernel
theorem dL_law_914 : decode cL_law 914 = .ok (.iload_n 3, 1) := by decide +kernel
theorem dL_law_915 : decode cL_law 915 = .ok (.iconst 1, 1) := by decide +kernel
theorem dL_law_916 : decode cL_law 916 = .ok (.iadd, 1) := by decide +kernel
theorem dL_law_917 : decode cL_law 917 = .ok (.iaload, 1) := by decide +kernel
theorem dL_law_918 : decode cL_law 918 = .ok (.invokevirtual 117, 3) := by decide +kernel
theorem dL_law_921 : decode cL_law 921 = .ok (.lcmp, 1) := by decide +kernel
theorem dL_law_922 : decode cL_law 922 = .ok (.ifCond .eq 441, 3) := by decide +kernel
theorem dL_law_925 : decode cL_law 925 = .ok (.iconst 0, 1) := by decide +kernel
theorem dL_law_926 : decode cL_law 926 = .ok (.ireturn, 1) := by decide +kernel
theorem dL_law_927 : decode cL_law 927 = .ok (.aload_n 1, 1) := by decide +kernel
theorem dL_law_928 : decode cL_law 928 = .ok (.aload_n 0, 1) := by decide +kernel
theorem dL_law_929 : decode cL_law 929 = .ok (.iload_n 3, 1) := by decide +kernel
theorem dL_law_930 : decode cL_law 930 = .ok (.iconst 1, 1) := by decide +kernel
theorem dL_law_931 : decode cL_law 931 = .ok (.iadd, 1) := by decide +kernel
theorem dL_law_932 : decode cL_law 932 = .ok (.iaload, 1) := by decide +kernel
theorem dL_law_933 : decode cL_law 933 = .ok (.aload_n 0, 1) := by decide +kernel
theorem dL_law_934 : decode cL_law 934 = .ok (.iload_n 3, 1) := by decide +kernel
theorem dL_law_935 : decode cL_law 935 = .ok (.iconst 2, 1) := by decide +kernel
theorem dL_law_936 : decode cL_law 936 = .ok (.iadd, 1) := by decide +kernel
theorem dL_law_937 : decode cL_law 937 = .ok (.iaload, 1) := by decide +kernel
theorem dL_law_938 : decode cL_law 938 = .ok (.aload_n 0, 1) := by decide +kernel
theorem dL_law_939 : decode cL_law 939 = .ok (.iload_n 3, 1) := by decide +kernel
theorem dL_law_940 : decode cL_law 940 = .ok (.iconst 3, 1) := by decide +kernel
theorem dL_law_941 : decode cL_law 941 = .ok (.iadd, 1) := by decide +kernel
theorem dL_law_942 : decode cL_law 942 = .ok (.iaload, 1) := by decide +kernel
theorem dL_law_943 : decode cL_law 943 = .ok (.invokevirtual 118, 3) := by decide +kernel
theorem dL_law_946 : decode cL_law 946 = .ok (.aload_n 2, 1) := by decide +kernel
theorem dL_law_947 : decode cL_law 947 = .ok (.aload_n 0, 1) := by decide +kernel
theorem dL_law_948 : decode cL_law 948 = .ok (.iload_n 3, 1) := by decide +kernel
theorem dL_law_949 : decode cL_law 949 = .ok (.iconst 1, 1) := by decide +kernel
theorem dL_law_950 : decode cL_law 950 = .ok (.iadd, 1) := by decide +kernel
theorem dL_law_951 : decode cL_law 951 = .ok (.iaload, 1) := by decide +kernel
theorem dL_law_952 : decode cL_law 952 = .ok (.aload_n 0, 1) := by decide +kernel
theorem dL_law_953 : decode cL_law 953 = .ok (.iload_n 3, 1) := by decide +kernel
theorem dL_law_954 : decode cL_law 954 = .ok (.iconst 2, 1) := by decide +kernel
theorem dL_law_955 : decode cL_law 955 = .ok (.iadd, 1) := by decide +kernel
theorem dL_law_956 : decode cL_law 956 = .ok (.iaload, 1) := by decide +kernel
theorem dL_law_957 : decode cL_law 957 = .ok (.aload_n 0, 1) := by decide +kernel
theorem dL_law_958 : decode cL_law 958 = .ok (.iload_n 3, 1) := by decide +kernel
theorem dL_law_959 : decode cL_law 959 = .ok (.iconst 3, 1) := by decide +kernel
theorem dL_law_960 : decode cL_law 960 = .ok (.iadd, 1) := by decide +kernel
theorem dL_law_961 : decode cL_law 961 = .ok (.iaload, 1) := by decide +kernel
theorem dL_law_962 : decode cL_law 962 = .ok (.invokevirtual 122, 3) := by decide +kernel
theorem dL_law_965 : decode cL_law 965 = .ok (.lcmp, 1) := by decide +kernel
theorem dL_law_966 : decode cL_law 966 = .ok (.ifCond .eq 397, 3) := by decide +kernel
theorem dL_law_969 : decode cL_law 969 = .ok (.iconst 0, 1) := by decide +kernel
theorem dL_law_970 : decode cL_law 970 = .ok (.ireturn, 1) := by decide +kernel
theorem dL_law_971 : decode cL_law 971 = .ok (.aload_n 1, 1) := by decide +kernel
theorem dL_law_972 : decode cL_law 972 = .ok (.aload_n 0, 1) := by decide +kernel
theorem dL_law_973 : decode cL_law 973 = .ok (.iload_n 3, 1) := by decide +kernel
theorem dL_law_974 : decode cL_law 974 = .ok (.iconst 1, 1) := by decide +kernel
theorem dL_law_975 : decode cL_law 975 = .ok (.iadd, 1) := by decide +kernel
theorem dL_law_976 : decode cL_law 976 = .ok (.iaload, 1) := by decide +kernel
theorem dL_law_977 : decode cL_law 977 = .ok (.invokevirtual 123, 3) := by decide +kernel
theorem dL_law_980 : decode cL_law 980 = .ok (.aload_n 2, 1) := by decide +kernel
theorem dL_law_981 : decode cL_law 981 = .ok (.aload_n 0, 1) := by decide +kernel
theorem dL_law_982 : decode cL_law 982 = .ok (.iload_n 3, 1) := by decide +kernel
theorem dL_law_983 : decode cL_law 983 = .ok (.iconst 1, 1) := by decide +kernel
theorem dL_law_984 : decode cL_law 984 = .ok (.iadd, 1) := by decide +kernel
theorem dL_law_985 : decode cL_law 985 = .ok (.iaload, 1) := by decide +kernel
theorem dL_law_986 : decode cL_law 986 = .ok (.invokevirtual 126, 3) := by decide +kernel
theorem dL_law_989 : decode cL_law 989 = .ok (.if_icmp .eq 374, 3) := by decide +kernel
theorem dL_law_992 : decode cL_law 992 = .ok (.iconst 0, 1) := by decide +kernel
theorem dL_law_993 : decode cL_law 993 = .ok (.ireturn, 1) := by decide +kernel
theorem dL_law_994 : decode cL_law 994 = .ok (.aload_n 1, 1) := by decide +kernel
theorem dL_law_995 : decode cL_law 995 = .ok (.aload_n 0, 1) := by decide +kernel
theorem dL_law_996 : decode cL_law 996 = .ok (.iload_n 3, 1) := by decide +kernel
theorem dL_law_997 : decode cL_law 997 = .ok (.iconst 1, 1) := by decide +kernel
theorem dL_law_998 : decode cL_law 998 = .ok (.iadd, 1) := by decide +kernel
theorem dL_law_999 : decode cL_law 999 = .ok (.iaload, 1) := by decide +kernel
theorem dL_law_1000 : decode cL_law 1000 = .ok (.invokevirtual 127, 3) := by decide +kernel
theorem dL_law_1003 : decode cL_law 1003 = .ok (.aload_n 2, 1) := by decide +kernel
theorem dL_law_1004 : decode cL_law 1004 = .ok (.aload_n 0, 1) := by decide +kernel
theorem dL_law_1005 : decode cL_law 1005 = .ok (.iload_n 3, 1) := by decide +kernel
theorem dL_law_1006 : decode cL_law 1006 = .ok (.iconst 1, 1) := by decide +kernel
theorem dL_law_1007 : decode cL_law 1007 = .ok (.iadd, 1) := by decide +kernel
theorem dL_law_1008 : decode cL_law 1008 = .ok (.iaload, 1) := by decide +kernel
theorem dL_law_1009 : decode cL_law 1009 = .ok (.invokevirtual 130, 3) := by decide +kernel
theorem dL_law_1012 : decode cL_law 1012 = .ok (.if_icmp .eq 351, 3) := by decide +kernel
theorem dL_law_1015 : decode cL_law 1015 = .ok (.iconst 0, 1) := by decide +kernel
theorem dL_law_1016 : decode cL_law 1016 = .ok (.ireturn, 1) := by decide +kernel
theorem dL_law_1017 : decode cL_law 1017 = .ok (.aload_n 1, 1) := by decide +kernel
theorem dL_law_1018 : decode cL_law 1018 = .ok (.aload_n 0, 1) := by decide +kernel
theorem dL_law_1019 : decode cL_law 1019 = .ok (.iload_n 3, 1) := by decide +kernel
theorem dL_law_1020 : decode cL_law 1020 = .ok (.iconst 1, 1) := by decide +kernel
theorem dL_law_1021 : decode cL_law 1021 = .ok (.iadd, 1) := by decide +kernel
theorem dL_law_1022 : decode cL_law 1022 = .ok (.iaload, 1) := by decide +kernel
theorem dL_law_1023 : decode cL_law 1023 = .ok (.invokevirtual 131, 3) := by decide +kernel
theorem dL_law_1026 : decode cL_law 1026 = .ok (.aload_n 2, 1) := by decide +kernel
theorem dL_law_1027 : decode cL_law 1027 = .ok (.aload_n 0, 1) := by decide +kernel
theorem dL_law_1028 : decode cL_law 1028 = .ok (.iload_n 3, 1) := by decide +kernel
theorem dL_law_1029 : decode cL_law 1029 = .ok (.iconst 1, 1) := by decide +kernel
theorem dL_law_1030 : decode cL_law 1030 = .ok (.iadd, 1) := by decide +kernel
theorem dL_law_1031 : decode cL_law 1031 = .ok (.iaload, 1) := by decide +kernel
theorem dL_law_1032 : decode cL_law 1032 = .ok (.invokevirtual 134, 3) := by decide +kernel
theorem dL_law_1035 : decode cL_law 1035 = .ok (.if_icmp .eq 328, 3) := by decide +kernel
theorem dL_law_1038 : decode cL_law 1038 = .ok (.iconst 0, 1) := by decide +kernel
theorem dL_law_1039 : decode cL_law 1039 = .ok (.ireturn, 1) := by decide +kernel
theorem dL_law_1040 : decode cL_law 1040 = .ok (.aload_n 1, 1) := by decide +kernel
theorem dL_law_1041 : decode cL_law 1041 = .ok (.aload_n 0, 1) := by decide +kernel
theorem dL_law_1042 : decode cL_law 1042 = .ok (.iload_n 3, 1) := by decide +kernel
theorem dL_law_1043 : decode cL_law 1043 = .ok (.iconst 1, 1) := by decide +kernel
theorem dL_law_1044 : decode cL_law 1044 = .ok (.iadd, 1) := by decide +kernel
theorem dL_law_1045 : decode cL_law 1045 = .ok (.iaload, 1) := by decide +kernel
theorem dL_law_1046 : decode cL_law 1046 = .ok (.aload_n 0, 1) := by decide +kernel
theorem dL_law_1047 : decode cL_law 1047 = .ok (.iload_n 3, 1) := by decide +kernel
theorem dL_law_1048 : decode cL_law 1048 = .ok (.iconst 2, 1) := by decide +kernel
theorem dL_law_1049 : decode cL_law 1049 = .ok (.iadd, 1) := by decide +kernel
theorem dL_law_1050 : decode cL_law 1050 = .ok (.iaload, 1) := by decide +kernel
theorem dL_law_1051 : decode cL_law 1051 = .ok (.aload_n 0, 1) := by decide +kernel
theorem dL_law_1052 : decode cL_law 1052 = .ok (.iload_n 3, 1) := by decide +kernel
theorem dL_law_1053 : decode cL_law 1053 = .ok (.iconst 3, 1) := by decide +kernel
theorem dL_law_1054 : decode cL_law 1054 = .ok (.iadd, 1) := by decide +kernel
theorem dL_law_1055 : decode cL_law 1055 = .ok (.iaload, 1) := by decide +kernel
theorem dL_law_1056 : decode cL_law 1056 = .ok (.invokevirtual 135, 3) := by decide +kernel
theorem dL_law_1059 : decode cL_law 1059 = .ok (.aload_n 2, 1) := by decide +kernel
theorem dL_law_1060 : decode cL_law 1060 = .ok (.aload_n 0, 1) := by decide +kernel
theorem dL_law_1061 : decode cL_law 1061 = .ok (.iload_n 3, 1) := by decide +kernel
theorem dL_law_1062 : decode cL_law 1062 = .ok (.iconst 1, 1) := by decide +kernel
theorem dL_law_1063 : decode cL_law 1063 = .ok (.iadd, 1) := by decide +kernel
theorem dL_law_1064 : decode cL_law 1064 = .ok (.iaload, 1) := by decide +kernel
theorem dL_law_1065 : decode cL_law 1065 = .ok (.aload_n 0, 1) := by decide +kernel
theorem dL_law_1066 : decode cL_law 1066 = .ok (.iload_n 3, 1) := by decide +kernel
theorem dL_law_1067 : decode cL_law 1067 = .ok (.iconst 2, 1) := by decide +kernel
theorem dL_law_1068 : decode cL_law 1068 = .ok (.iadd, 1) := by decide +kernel
theorem dL_law_1069 : decode cL_law 1069 = .ok (.iaload, 1) := by decide +kernel
theorem dL_law_1070 : decode cL_law 1070 = .ok (.aload_n 0, 1) := by decide +kernel
theorem dL_law_1071 : decode cL_law 1071 = .ok (.iload_n 3, 1) := by decide +kernel
theorem dL_law_1072 : decode cL_law 1072 = .ok (.iconst 3, 1) := by decide +kernel
theorem dL_law_1073 : decode cL_law 1073 = .ok (.iadd, 1) := by decide +kernel
theorem dL_law_1074 : decode cL_law 1074 = .ok (.iaload, 1) := by decide +kernel
theorem dL_law_1075 : decode cL_law 1075 = .ok (.invokevirtual 138, 3) := by decide +kernel
theorem dL_law_1078 : decode cL_law 1078 = .ok (.if_icmp .eq 285, 3) := by decide +kernel
theorem dL_law_1081 : decode cL_law 1081 = .ok (.iconst 0, 1) := by decide +kernel
theorem dL_law_1082 : decode cL_law 1082 = .ok (.ireturn, 1) := by decide +kernel
theorem dL_law_1083 : decode cL_law 1083 = .ok (.aload_n 1, 1) := by decide +kernel
theorem dL_law_1084 : decode cL_law 1084 = .ok (.aload_n 0, 1) := by decide +kernel
theorem dL_law_1085 : decode cL_law 1085 = .ok (.iload_n 3, 1) := by decide +kernel
theorem dL_law_1086 : decode cL_law 1086 = .ok (.iconst 1, 1) := by decide +kernel
theorem dL_law_1087 : decode cL_law 1087 = .ok (.iadd, 1) := by decide +kernel
theorem dL_law_1088 : decode cL_law 1088 = .ok (.iaload, 1) := by decide +kernel
theorem dL_law_1089 : decode cL_law 1089 = .ok (.invokevirtual 139, 3) := by decide +kernel
theorem dL_law_1092 : decode cL_law 1092 = .ok (.aload_n 2, 1) := by decide +kernel
theorem dL_law_1093 : decode cL_law 1093 = .ok (.aload_n 0, 1) := by decide +kernel
theorem dL_law_1094 : decode cL_law 1094 = .ok (.iload_n 3, 1) := by decide +kernel
theorem dL_law_1095 : decode cL_law 1095 = .ok (.iconst 1, 1) := by decide +kernel
theorem dL_law_1096 : decode cL_law 1096 = .ok (.iadd, 1) := by decide +kernel
theorem dL_law_1097 : decode cL_law 1097 = .ok (.iaload, 1) := by decide +kernel
theorem dL_law_1098 : decode cL_law 1098 = .ok (.invokevirtual 142, 3) := by decide +kernel
theorem dL_law_1101 : decode cL_law 1101 = .ok (.if_icmp .eq 262, 3) := by decide +kernel
theorem dL_law_1104 : decode cL_law 1104 = .ok (.iconst 0, 1) := by decide +kernel
theorem dL_law_1105 : decode cL_law 1105 = .ok (.ireturn, 1) := by decide +kernel
theorem dL_law_1106 : decode cL_law 1106 = .ok (.aload_n 1, 1) := by decide +kernel
theorem dL_law_1107 : decode cL_law 1107 = .ok (.aload_n 0, 1) := by decide +kernel
theorem dL_law_1108 : decode cL_law 1108 = .ok (.iload_n 3, 1) := by decide +kernel
theorem dL_law_1109 : decode cL_law 1109 = .ok (.iconst 1, 1) := by decide +kernel
theorem dL_law_1110 : decode cL_law 1110 = .ok (.iadd, 1) := by decide +kernel
theorem dL_law_1111 : decode cL_law 1111 = .ok (.iaload, 1) := by decide +kernel
theorem dL_law_1112 : decode cL_law 1112 = .ok (.aload_n 0, 1) := by decide +kernel
theorem dL_law_1113 : decode cL_law 1113 = .ok (.iload_n 3, 1) := by decide +kernel
theorem dL_law_1114 : decode cL_law 1114 = .ok (.iconst 2, 1) := by decide +kernel
theorem dL_law_1115 : decode cL_law 1115 = .ok (.iadd, 1) := by decide +kernel
theorem dL_law_1116 : decode cL_law 1116 = .ok (.iaload, 1) := by decide +kernel
theorem dL_law_1117 : decode cL_law 1117 = .ok (.aload_n 0, 1) := by decide +kernel
theorem dL_law_1118 : decode cL_law 1118 = .ok (.iload_n 3, 1) := by decide +kernel
theorem dL_law_1119 : decode cL_law 1119 = .ok (.iconst 3, 1) := by decide +kernel
theorem dL_law_1120 : decode cL_law 1120 = .ok (.iadd, 1) := by decide +kernel
theorem dL_law_1121 : decode cL_law 1121 = .ok (.iaload, 1) := by decide +kernel
theorem dL_law_1122 : decode cL_law 1122 = .ok (.invokevirtual 143, 3) := by decide +kernel
theorem dL_law_1125 : decode cL_law 1125 = .ok (.aload_n 2, 1) := by decide +kernel
theorem dL_law_1126 : decode cL_law 1126 = .ok (.aload_n 0, 1) := by decide +kernel
theorem dL_law_1127 : decode cL_law 1127 = .ok (.iload_n 3, 1) := by decide +kernel
theorem dL_law_1128 : decode cL_law 1128 = .ok (.iconst 1, 1) := by decide +kernel
theorem dL_law_1129 : decode cL_law 1129 = .ok (.iadd, 1) := by decide +kernel
theorem dL_law_1130 : decode cL_law 1130 = .ok (.iaload, 1) := by decide +kernel
theorem dL_law_1131 : decode cL_law 1131 = .ok (.aload_n 0, 1) := by decide +kernel
theorem dL_law_1132 : decode cL_law 1132 = .ok (.iload_n 3, 1) := by decide +kernel
theorem dL_law_1133 : decode cL_law 1133 = .ok (.iconst 2, 1) := by decide +kernel
theorem dL_law_1134 : decode cL_law 1134 = .ok (.iadd, 1) := by decide +kernel
theorem dL_law_1135 : decode cL_law 1135 = .ok (.iaload, 1) := by decide +kernel
theorem dL_law_1136 : decode cL_law 1136 = .ok (.aload_n 0, 1) := by decide +kernel
theorem dL_law_1137 : decode cL_law 1137 = .ok (.iload_n 3, 1) := by decide +kernel
theorem dL_law_1138 : decode cL_law 1138 = .ok (.iconst 3, 1) := by decide +kernel
theorem dL_law_1139 : decode cL_law 1139 = .ok (.iadd, 1) := by decide +kernel
theorem dL_law_1140 : decode cL_law 1140 = .ok (.iaload, 1) := by decide +kernel
theorem dL_law_1141 : decode cL_law 1141 = .ok (.invokevirtual 146, 3) := by decide +kernel
theorem dL_law_1144 : decode cL_law 1144 = .ok (.if_icmp .eq 219, 3) := by decide +kernel
theorem dL_law_1147 : decode cL_law 1147 = .ok (.iconst 0, 1) := by decide +kernel
theorem dL_law_1148 : decode cL_law 1148 = .ok (.ireturn, 1) := by decide +kernel
theorem dL_law_1149 : decode cL_law 1149 = .ok (.aload_n 1, 1) := by decide +kernel
theorem dL_law_1150 : decode cL_law 1150 = .ok (.aload_n 0, 1) := by decide +kernel
theorem dL_law_1151 : decode cL_law 1151 = .ok (.iload_n 3, 1) := by decide +kernel
theorem dL_law_1152 : decode cL_law 1152 = .ok (.iconst 1, 1) := by decide +kernel
theorem dL_law_1153 : decode cL_law 1153 = .ok (.iadd, 1) := by decide +kernel
theorem dL_law_1154 : decode cL_law 1154 = .ok (.iaload, 1) := by decide +kernel
theorem dL_law_1155 : decode cL_law 1155 = .ok (.aload_n 0, 1) := by decide +kernel
theorem dL_law_1156 : decode cL_law 1156 = .ok (.iload_n 3, 1) := by decide +kernel
theorem dL_law_1157 : decode cL_law 1157 = .ok (.iconst 2, 1) := by decide +kernel
theorem dL_law_1158 : decode cL_law 1158 = .ok (.iadd, 1) := by decide +kernel
theorem dL_law_1159 : decode cL_law 1159 = .ok (.iaload, 1) := by decide +kernel
theorem dL_law_1160 : decode cL_law 1160 = .ok (.aload_n 0, 1) := by decide +kernel
theorem dL_law_1161 : decode cL_law 1161 = .ok (.iload_n 3, 1) := by decide +kernel
theorem dL_law_1162 : decode cL_law 1162 = .ok (.iconst 3, 1) := by decide +kernel
theorem dL_law_1163 : decode cL_law 1163 = .ok (.iadd, 1) := by decide +kernel
theorem dL_law_1164 : decode cL_law 1164 = .ok (.iaload, 1) := by decide +kernel
theorem dL_law_1165 : decode cL_law 1165 = .ok (.invokevirtual 147, 3) := by decide +kernel
theorem dL_law_1168 : decode cL_law 1168 = .ok (.aload_n 2, 1) := by decide +kernel
theorem dL_law_1169 : decode cL_law 1169 = .ok (.aload_n 0, 1) := by decide +kernel
theorem dL_law_1170 : decode cL_law 1170 = .ok (.iload_n 3, 1) := by decide +kernel
theorem dL_law_1171 : decode cL_law 1171 = .ok (.iconst 1, 1) := by decide +kernel
theorem dL_law_1172 : decode cL_law 1172 = .ok (.iadd, 1) := by decide +kernel
theorem dL_law_1173 : decode cL_law 1173 = .ok (.iaload, 1) := by decide +kernel
theorem dL_law_1174 : decode cL_law 1174 = .ok (.aload_n 0, 1) := by decide +kernel
theorem dL_law_1175 : decode cL_law 1175 = .ok (.iload_n 3, 1) := by decide +kernel
theorem dL_law_1176 : decode cL_law 1176 = .ok (.iconst 2, 1) := by decide +kernel
theorem dL_law_1177 : decode cL_law 1177 = .ok (.iadd, 1) := by decide +kernel
theorem dL_law_1178 : decode cL_law 1178 = .ok (.iaload, 1) := by decide +kernel
theorem dL_law_1179 : decode cL_law 1179 = .ok (.aload_n 0, 1) := by decide +kernel
theorem dL_law_1180 : decode cL_law 1180 = .ok (.iload_n 3, 1) := by decide +kernel
theorem dL_law_1181 : decode cL_law 1181 = .ok (.iconst 3, 1) := by decide +kernel
theorem dL_law_1182 : decode cL_law 1182 = .ok (.iadd, 1) := by decide +kernel
theorem dL_law_1183 : decode cL_law 1183 = .ok (.iaload, 1) := by decide +kernel
theorem dL_law_1184 : decode cL_law 1184 = .ok (.invokevirtual 150, 3) := by decide +kernel
theorem dL_law_1187 : decode cL_law 1187 = .ok (.if_icmp .eq 176, 3) := by decide +kernel
theorem dL_law_1190 : decode cL_law 1190 = .ok (.iconst 0, 1) := by decide +kernel
theorem dL_law_1191 : decode cL_law 1191 = .ok (.ireturn, 1) := by decide +kernel
theorem dL_law_1192 : decode cL_law 1192 = .ok (.aload_n 1, 1) := by decide +kernel
theorem dL_law_1193 : decode cL_law 1193 = .ok (.aload_n 0, 1) := by decide +kernel
theorem dL_law_1194 : decode cL_law 1194 = .ok (.iload_n 3, 1) := by decide +kernel
theorem dL_law_1195 : decode cL_law 1195 = .ok (.iconst 1, 1) := by decide +kernel
theorem dL_law_1196 : decode cL_law 1196 = .ok (.iadd, 1) := by decide +kernel
theorem dL_law_1197 : decode cL_law 1197 = .ok (.iaload, 1) := by decide +kernel
theorem dL_law_1198 : decode cL_law 1198 = .ok (.aload_n 0, 1) := by decide +kernel
theorem dL_law_1199 : decode cL_law 1199 = .ok (.iload_n 3, 1) := by decide +kernel
theorem dL_law_1200 : decode cL_law 1200 = .ok (.iconst 2, 1) := by decide +kernel
theorem dL_law_1201 : decode cL_law 1201 = .ok (.iadd, 1) := by decide +kernel
theorem dL_law_1202 : decode cL_law 1202 = .ok (.iaload, 1) := by decide +kernel
theorem dL_law_1203 : decode cL_law 1203 = .ok (.aload_n 0, 1) := by decide +kernel
theorem dL_law_1204 : decode cL_law 1204 = .ok (.iload_n 3, 1) := by decide +kernel
theorem dL_law_1205 : decode cL_law 1205 = .ok (.iconst 3, 1) := by decide +kernel
theorem dL_law_1206 : decode cL_law 1206 = .ok (.iadd, 1) := by decide +kernel
theorem dL_law_1207 : decode cL_law 1207 = .ok (.iaload, 1) := by decide +kernel
theorem dL_law_1208 : decode cL_law 1208 = .ok (.aload_n 0, 1) := by decide +kernel
theorem dL_law_1209 : decode cL_law 1209 = .ok (.iload_n 3, 1) := by decide +kernel
theorem dL_law_1210 : decode cL_law 1210 = .ok (.iconst 4, 1) := by decide +kernel
theorem dL_law_1211 : decode cL_law 1211 = .ok (.iadd, 1) := by decide +kernel
theorem dL_law_1212 : decode cL_law 1212 = .ok (.iaload, 1) := by decide +kernel
theorem dL_law_1213 : decode cL_law 1213 = .ok (.aload_n 0, 1) := by decide +kernel
theorem dL_law_1214 : decode cL_law 1214 = .ok (.iload_n 3, 1) := by decide +kernel
theorem dL_law_1215 : decode cL_law 1215 = .ok (.iconst 5, 1) := by decide +kernel
theorem dL_law_1216 : decode cL_law 1216 = .ok (.iadd, 1) := by decide +kernel
theorem dL_law_1217 : decode cL_law 1217 = .ok (.iaload, 1) := by decide +kernel
theorem dL_law_1218 : decode cL_law 1218 = .ok (.invokevirtual 151, 3) := by decide +kernel
theorem dL_law_1221 : decode cL_law 1221 = .ok (.aload_n 2, 1) := by decide +kernel
theorem dL_law_1222 : decode cL_law 1222 = .ok (.aload_n 0, 1) := by decide +kernel
theorem dL_law_1223 : decode cL_law 1223 = .ok (.iload_n 3, 1) := by decide +kernel
theorem dL_law_1224 : decode cL_law 1224 = .ok (.iconst 1, 1) := by decide +kernel
theorem dL_law_1225 : decode cL_law 1225 = .ok (.iadd, 1) := by decide +kernel
theorem dL_law_1226 : decode cL_law 1226 = .ok (.iaload, 1) := by decide +kernel
theorem dL_law_1227 : decode cL_law 1227 = .ok (.aload_n 0, 1) := by decide +kernel
theorem dL_law_1228 : decode cL_law 1228 = .ok (.iload_n 3, 1) := by decide +kernel
theorem dL_law_1229 : decode cL_law 1229 = .ok (.iconst 2, 1) := by decide +kernel
theorem dL_law_1230 : decode cL_law 1230 = .ok (.iadd, 1) := by decide +kernel
theorem dL_law_1231 : decode cL_law 1231 = .ok (.iaload, 1) := by decide +kernel
theorem dL_law_1232 : decode cL_law 1232 = .ok (.aload_n 0, 1) := by decide +kernel
theorem dL_law_1233 : decode cL_law 1233 = .ok (.iload_n 3, 1) := by decide +kernel
theorem dL_law_1234 : decode cL_law 1234 = .ok (.iconst 3, 1) := by decide +kernel
theorem dL_law_1235 : decode cL_law 1235 = .ok (.iadd, 1) := by decide +kernel
theorem dL_law_1236 : decode cL_law 1236 = .ok (.iaload, 1) := by decide +kernel
theorem dL_law_1237 : decode cL_law 1237 = .ok (.aload_n 0, 1) := by decide +kernel
theorem dL_law_1238 : decode cL_law 1238 = .ok (.iload_n 3, 1) := by decide +kernel
theorem dL_law_1239 : decode cL_law 1239 = .ok (.iconst 4, 1) := by decide +kernel
theorem dL_law_1240 : decode cL_law 1240 = .ok (.iadd, 1) := by decide +kernel
theorem dL_law_1241 : decode cL_law 1241 = .ok (.iaload, 1) := by decide +kernel
theorem dL_law_1242 : decode cL_law 1242 = .ok (.aload_n 0, 1) := by decide +kernel
theorem dL_law_1243 : decode cL_law 1243 = .ok (.iload_n 3, 1) := by decide +kernel
theorem dL_law_1244 : decode cL_law 1244 = .ok (.iconst 5, 1) := by decide +kernel
theorem dL_law_1245 : decode cL_law 1245 = .ok (.iadd, 1) := by decide +kernel
theorem dL_law_1246 : decode cL_law 1246 = .ok (.iaload, 1) := by decide +kernel
theorem dL_law_1247 : decode cL_law 1247 = .ok (.invokevirtual 155, 3) := by decide +kernel
theorem dL_law_1250 : decode cL_law 1250 = .ok (.if_icmp .eq 113, 3) := by decide +kernel
theorem dL_law_1253 : decode cL_law 1253 = .ok (.iconst 0, 1) := by decide +kernel
theorem dL_law_1254 : decode cL_law 1254 = .ok (.ireturn, 1) := by decide +kernel
theorem dL_law_1255 : decode cL_law 1255 = .ok (.aload_n 1, 1) := by decide +kernel
theorem dL_law_1256 : decode cL_law 1256 = .ok (.invokevirtual 156, 3) := by decide +kernel
theorem dL_law_1259 : decode cL_law 1259 = .ok (.aload_n 2, 1) := by decide +kernel
theorem dL_law_1260 : decode cL_law 1260 = .ok (.invokevirtual 159, 3) := by decide +kernel
theorem dL_law_1263 : decode cL_law 1263 = .ok (.if_icmp .eq 100, 3) := by decide +kernel
theorem dL_law_1266 : decode cL_law 1266 = .ok (.iconst 0, 1) := by decide +kernel
theorem dL_law_1267 : decode cL_law 1267 = .ok (.ireturn, 1) := by decide +kernel
theorem dL_law_1268 : decode cL_law 1268 = .ok (.aload_n 1, 1) := by decide +kernel
theorem dL_law_1269 : decode cL_law 1269 = .ok (.invokevirtual 160, 3) := by decide +kernel
theorem dL_law_1272 : decode cL_law 1272 = .ok (.aload_n 2, 1) := by decide +kernel
theorem dL_law_1273 : decode cL_law 1273 = .ok (.invokevirtual 163, 3) := by decide +kernel
theorem dL_law_1276 : decode cL_law 1276 = .ok (.if_icmp .eq 87, 3) := by decide +kernel
theorem dL_law_1279 : decode cL_law 1279 = .ok (.iconst 0, 1) := by decide +kernel
theorem dL_law_1280 : decode cL_law 1280 = .ok (.ireturn, 1) := by decide +kernel
theorem dL_law_1281 : decode cL_law 1281 = .ok (.aload_n 1, 1) := by decide +kernel
theorem dL_law_1282 : decode cL_law 1282 = .ok (.aload_n 0, 1) := by decide +kernel
theorem dL_law_1283 : decode cL_law 1283 = .ok (.iload_n 3, 1) := by decide +kernel
theorem dL_law_1284 : decode cL_law 1284 = .ok (.iconst 1, 1) := by decide +kernel
theorem dL_law_1285 : decode cL_law 1285 = .ok (.iadd, 1) := by decide +kernel
theorem dL_law_1286 : decode cL_law 1286 = .ok (.iaload, 1) := by decide +kernel
theorem dL_law_1287 : decode cL_law 1287 = .ok (.invokevirtual 164, 3) := by decide +kernel
theorem dL_law_1290 : decode cL_law 1290 = .ok (.aload_n 2, 1) := by decide +kernel
theorem dL_law_1291 : decode cL_law 1291 = .ok (.aload_n 0, 1) := by decide +kernel
theorem dL_law_1292 : decode cL_law 1292 = .ok (.iload_n 3, 1) := by decide +kernel
theorem dL_law_1293 : decode cL_law 1293 = .ok (.iconst 1, 1) := by decide +kernel
theorem dL_law_1294 : decode cL_law 1294 = .ok (.iadd, 1) := by decide +kernel
theorem dL_law_1295 : decode cL_law 1295 = .ok (.iaload, 1) := by decide +kernel
theorem dL_law_1296 : decode cL_law 1296 = .ok (.invokevirtual 167, 3) := by decide +kernel
theorem dL_law_1299 : decode cL_law 1299 = .ok (.if_icmp .eq 64, 3) := by decide +kernel
theorem dL_law_1302 : decode cL_law 1302 = .ok (.iconst 0, 1) := by decide +kernel
theorem dL_law_1303 : decode cL_law 1303 = .ok (.ireturn, 1) := by decide +kernel
theorem dL_law_1304 : decode cL_law 1304 = .ok (.aload_n 1, 1) := by decide +kernel
theorem dL_law_1305 : decode cL_law 1305 = .ok (.invokevirtual 168, 3) := by decide +kernel
theorem dL_law_1308 : decode cL_law 1308 = .ok (.aload_n 2, 1) := by decide +kernel
theorem dL_law_1309 : decode cL_law 1309 = .ok (.invokevirtual 171, 3) := by decide +kernel
theorem dL_law_1312 : decode cL_law 1312 = .ok (.if_icmp .eq 51, 3) := by decide +kernel
theorem dL_law_1315 : decode cL_law 1315 = .ok (.iconst 0, 1) := by decide +kernel
theorem dL_law_1316 : decode cL_law 1316 = .ok (.ireturn, 1) := by decide +kernel
theorem dL_law_1317 : decode cL_law 1317 = .ok (.aload_n 1, 1) := by decide +kernel
theorem dL_law_1318 : decode cL_law 1318 = .ok (.aload_n 0, 1) := by decide +kernel
theorem dL_law_1319 : decode cL_law 1319 = .ok (.iload_n 3, 1) := by decide +kernel
theorem dL_law_1320 : decode cL_law 1320 = .ok (.iconst 1, 1) := by decide +kernel
theorem dL_law_1321 : decode cL_law 1321 = .ok (.iadd, 1) := by decide +kernel
theorem dL_law_1322 : decode cL_law 1322 = .ok (.iaload, 1) := by decide +kernel
theorem dL_law_1323 : decode cL_law 1323 = .ok (.invokevirtual 172, 3) := by decide +kernel
theorem dL_law_1326 : decode cL_law 1326 = .ok (.aload_n 2, 1) := by decide +kernel
theorem dL_law_1327 : decode cL_law 1327 = .ok (.aload_n 0, 1) := by decide +kernel
theorem dL_law_1328 : decode cL_law 1328 = .ok (.iload_n 3, 1) := by decide +kernel
theorem dL_law_1329 : decode cL_law 1329 = .ok (.iconst 1, 1) := by decide +kernel
theorem dL_law_1330 : decode cL_law 1330 = .ok (.iadd, 1) := by decide +kernel
theorem dL_law_1331 : decode cL_law 1331 = .ok (.iaload, 1) := by decide +kernel
theorem dL_law_1332 : decode cL_law 1332 = .ok (.invokevirtual 175, 3) := by decide +kernel
theorem dL_law_1335 : decode cL_law 1335 = .ok (.if_icmp .eq 28, 3) := by decide +kernel
theorem dL_law_1338 : decode cL_law 1338 = .ok (.iconst 0, 1) := by decide +kernel
theorem dL_law_1339 : decode cL_law 1339 = .ok (.ireturn, 1) := by decide +kernel
theorem dL_law_1340 : decode cL_law 1340 = .ok (.aload_n 1, 1) := by decide +kernel
theorem dL_law_1341 : decode cL_law 1341 = .ok (.aload_n 0, 1) := by decide +kernel
theorem dL_law_1342 : decode cL_law 1342 = .ok (.iload_n 3, 1) := by decide +kernel
theorem dL_law_1343 : decode cL_law 1343 = .ok (.iconst 1, 1) := by decide +kernel
theorem dL_law_1344 : decode cL_law 1344 = .ok (.iadd, 1) := by decide +kernel
theorem dL_law_1345 : decode cL_law 1345 = .ok (.iaload, 1) := by decide +kernel
theorem dL_law_1346 : decode cL_law 1346 = .ok (.invokevirtual 176, 3) := by decide +kernel
theorem dL_law_1349 : decode cL_law 1349 = .ok (.aload_n 2, 1) := by decide +kernel
theorem dL_law_1350 : decode cL_law 1350 = .ok (.aload_n 0, 1) := by decide +kernel
theorem dL_law_1351 : decode cL_law 1351 = .ok (.iload_n 3, 1) := by decide +kernel
theorem dL_law_1352 : decode cL_law 1352 = .ok (.iconst 1, 1) := by decide +kernel
theorem dL_law_1353 : decode cL_law 1353 = .ok (.iadd, 1) := by decide +kernel
theorem dL_law_1354 : decode cL_law 1354 = .ok (.iaload, 1) := by decide +kernel
theorem dL_law_1355 : decode cL_law 1355 = .ok (.invokevirtual 179, 3) := by decide +kernel
theorem dL_law_1358 : decode cL_law 1358 = .ok (.if_icmp .eq 5, 3) := by decide +kernel
theorem dL_law_1361 : decode cL_law 1361 = .ok (.iconst 0, 1) := by decide +kernel
theorem dL_law_1362 : decode cL_law 1362 = .ok (.ireturn, 1) := by decide +kernel
theorem dL_law_1363 : decode cL_law 1363 = .ok (.iinc 3 6, 3) := by decide +kernel
theorem dL_law_1366 : decode cL_law 1366 = .ok (.goto (-1348), 3) := by decide +kernel
theorem dL_law_1369 : decode cL_law 1369 = .ok (.iconst 1, 1) := by decide +kernel
theorem dL_law_1370 : decode cL_law 1370 = .ok (.ireturn, 1) := by decide +kernel
end
section
/-- the words that any later state keeps -/
def lw_g : List Cond := lw_tbl.filter goodWord
theorem in_g {c : Cond} (h : c ∈ lw_tbl) (hg : goodWord c = true) : c ∈ lw_g := List.mem_filter.mpr ⟨h, hg⟩
theorem tbl_cp : Cond.native arraycopyName ∈ lw_g ∧ Cond.static arraycopyName ∈ lw_g ∧ Cond.initialized "java/lang/System" ∈ lw_g := ⟨by decide +kernel, by decide +kernel, by decide +kernel⟩
theorem tbl_mm : Cond.static Lib.Math.max.name ∈ lw_g ∧ Cond.code Lib.Math.max.name Lib.Math.max.code 2 (some .int) ∈ lw_g ∧ Cond.initialized "java/lang/Math" ∈ lw_g ∧ Cond.static Lib.Math.min.name ∈ lw_g ∧ Cond.code Lib.Math.min.name Lib.Math.min.code 2 (some .int) ∈ lw_g := ⟨by decide +kernel, in_g (List.mem_of_getElem? (i := 601) (by decide +kernel)) rfl, by decide +kernel, by decide +kernel, in_g (List.mem_of_getElem? (i := 598) (by decide +kernel)) rfl⟩
theorem cp_room (d : Nat) {n : Nat} (h : n ≤ 8) : n + (nativeFrameWords "java/lang/System" "arraycopy" 5 + 11) ≤ 64 * (d + 1) := by
  have h2 : nativeFrameWords "java/lang/System" "arraycopy" 5 + 11 ≤ 56 := by decide +kernel
  omega
/-- the pure state of a world: ints, rows of ints, rows of longs -/
abbrev Sg : Type := (Nat → Int32) × (Nat → Nat → Int32) × (Nat → Nat → Int64)
def sI (σ : Sg) (k : Nat) (v : Int32) : Sg := (va_up σ.1 k v, σ.2.1, σ.2.2)
def sA (σ : Sg) (a j : Nat) (v : Int32) : Sg := (σ.1, va_up σ.2.1 a (upd (σ.2.1 a) j v), σ.2.2)
def sR (σ : Sg) (a : Nat) (f : Nat → Int32) : Sg := (σ.1, va_up σ.2.1 a f, σ.2.2)
def sL (σ : Sg) (a j : Nat) (v : Int64) : Sg := (σ.1, σ.2.1, va_up σ.2.2 a (vp_updL (σ.2.2 a) j v))
def sM (σ : Sg) (a : Nat) (f : Nat → Int64) : Sg := (σ.1, σ.2.1, va_up σ.2.2 a f)
/-- a world: its cells by the pure state, class numbers and slots, array classes, which addresses are its, what statics hold -/
abbrev Wo : Type := (Sg → va_W) × va_G × List (ClassId × FieldType) × (Nat → Prop) × (State → Heap → Prop)
def okW (w : Wo) : Prop := (∀ σ, va_D w.2.2.2.1 (w.1 σ)) ∧ (∀ (u U : State) (H H1 : Heap), u.vm.Alike U.vm → (∀ a : Nat, a < H.size → ¬ w.2.2.2.1 a → H1[a]? = H[a]?) → w.2.2.2.2 u H → w.2.2.2.2 U H1)
def rmL (d : Nat) : Room := { frames := d + 1, cells := 0, slots := 0, locals := 64 * (d + 1) }
abbrev EE : Type := Program × Launch × Env × Room × State × MethodId × Array Value × List Frame × Method × Code
def okE (E : EE) (w : Wo) (d : Nat) (cc : ByteArray) (nL : Nat) (own : String) (rt : Option FieldType) : Prop :=
  E.1.tables.exec = Jvm.exec ∧ E.2.2.2.2.2.2.2.2.2.code = cc ∧ E.2.2.2.2.2.2.2.2.2.maxLocals = nL ∧ E.2.2.2.2.1.vm.findClass own = some E.2.2.2.2.2.1.cls ∧ (∀ c ∈ lw_g, c.before E.2.2.2.2.2.2.1 E.2.2.2.2.1 = true) ∧ va_K w.2.1 vwCl w.2.2.1 E.2.2.2.2.1 ∧ w.2.2.2.2 E.2.2.2.2.1 E.2.2.2.2.1.heap ∧ okW w ∧ E.2.2.2.1 = rmL d ∧ E.2.2.2.2.2.2.2.2.1.sig.returnType = rt ∧ E.2.2.2.2.2.2.2.2.1.locks = false
abbrev QT (α : Type) : Type := α → Array Value → State → Outcome → State → Prop
/-- the machine, at this frame over this world, comes to the method's end as the pure term says -/
def T {α : Type} (E : EE) (w : Wo) (d : Nat) (cc : ByteArray) (nL : Nat) (own : String) (rt : Option FieldType) (Qc : QT α) (t : Option α) (σ : Sg) (pc : Nat) (lv : List (Nat × Value)) (st : List Value) : Prop :=
  okE E w d cc nL own rt → ∀ res, t = some res → ∀ (H : Heap) (locs : List Loc) (ls : Array Slot), va_P w.2.1 vwCl (w.1 σ) H → va_S w.2.2.2.1 E.2.2.2.2.1.heap H locs → lv_has ls nL lv →
    W E.1 E.2.1 E.2.2.1 E.2.2.2.1 E.2.2.2.2.1 E.2.2.2.2.2.1 E.2.2.2.2.2.2.1 E.2.2.2.2.2.2.2.1 E.2.2.2.2.2.2.2.2.1 E.2.2.2.2.2.2.2.2.2 H locs 0 0 (MQ E.2.2.2.2.2.2.2.1 (Qc res) E.2.2.2.2.2.2.1 E.2.2.2.2.1 0 0 w.2.2.2.1) (F0 E.2.2.2.2.2.1 pc ls st)
/-- guards and calls in pure terms -/
def gd {α : Type} (b : Bool) (t : Option α) : Option α := match b with | true => t | false => none
def ib (i : Int32) (n : Nat) : Bool := decide (0 ≤ i.toInt ∧ i.toInt < n)
def i01 (x : Int32) : Bool := decide (x = 0 ∨ x = 1)
def nz (x : Int32) : Bool := decide (¬ x = 0)
def bI {α : Type} (f : Option (Int32 × Sg)) (k : Int32 → Sg → Option α) : Option α := match f with | none => none | some z => k z.1 z.2
def bL {α : Type} (f : Option (Int64 × Sg)) (k : Int64 → Sg → Option α) : Option α := match f with | none => none | some z => k z.1 z.2
def bV {α : Type} (f : Option Sg) (k : Sg → Option α) : Option α := match f with | none => none | some z => k z
def bO {α : Type} (f : Option Int32) (k : Int32 → Option α) : Option α := match f with | none => none | some z => k z
def bJ {α : Type} (f : Option Int64) (k : Int64 → Option α) : Option α := match f with | none => none | some z => k z
theorem ib_in {i : Int32} {n : Nat} (h : ib i n = true) : vp_in i n := vp_in_iff.mpr (of_decide_eq_true h)
theorem i01_nar {x : Int32} (h : i01 x = true) : narrow .boolean (.int x) = .int x ∧ fits .boolean (.int x) = true := by
  rcases of_decide_eq_true h with rfl | rfl <;> exact ⟨by decide, by decide⟩
theorem gd_some {α : Type} {b : Bool} {t : Option α} {r : α} (h : gd b t = some r) : b = true ∧ t = some r := by
  cases b with
  | true => exact ⟨rfl, h⟩
  | false => cases h
theorem bI_some {α : Type} {f : Option (Int32 × Sg)} {k : Int32 → Sg → Option α} {r : α} (h : bI f k = some r) : ∃ z, f = some z ∧ k z.1 z.2 = some r := by
  cases f with
  | none => cases h
  | some z => exact ⟨z, rfl, h⟩
theorem bL_some {α : Type} {f : Option (Int64 × Sg)} {k : Int64 → Sg → Option α} {r : α} (h : bL f k = some r) : ∃ z, f = some z ∧ k z.1 z.2 = some r := by
  cases f with
  | none => cases h
  | some z => exact ⟨z, rfl, h⟩
theorem bV_some {α : Type} {f : Option Sg} {k : Sg → Option α} {r : α} (h : bV f k = some r) : ∃ z, f = some z ∧ k z = some r := by
  cases f with
  | none => cases h
  | some z => exact ⟨z, rfl, h⟩
theorem bO_some {α : Type} {f : Option Int32} {k : Int32 → Option α} {r : α} (h : bO f k = some r) : ∃ z, f = some z ∧ k z = some r := by
  cases f with
  | none => cases h
  | some z => exact ⟨z, rfl, h⟩
theorem bJ_some {α : Type} {f : Option Int64} {k : Int64 → Option α} {r : α} (h : bJ f k = some r) : ∃ z, f = some z ∧ k z = some r := by
  cases f with
  | none => cases h
  | some z => exact ⟨z, rfl, h⟩
/-- what a method's world is ahead of it and behind it -/
def PW (w : Wo) (σ : Sg) (U : State) : Prop := va_P w.2.1 vwCl (w.1 σ) U.heap ∧ va_K w.2.1 vwCl w.2.2.1 U ∧ w.2.2.2.2 U U.heap
def QI (w : Wo) : QT (Int32 × Sg) := fun res => va_Qi (fun (r : Int32) (u : Sg) => r = res.1 ∧ u = res.2) (fun u t => va_P w.2.1 vwCl (w.1 u) t.heap) w.2.2.2.1
def QL (w : Wo) : QT (Int64 × Sg) := fun res => va_Ql (fun (r : Int64) (u : Sg) => r = res.1 ∧ u = res.2) (fun u t => va_P w.2.1 vwCl (w.1 u) t.heap) w.2.2.2.1
def QV (w : Wo) : QT Sg := fun res => va_Qv (fun (u : Sg) => u = res) (fun u t => va_P w.2.1 vwCl (w.1 u) t.heap) w.2.2.2.1
def QO (w : Wo) (σ : Sg) : QT Int32 := fun r => QI w (r, σ)
def QJ (w : Wo) (σ : Sg) : QT Int64 := fun r => QL w (r, σ)
abbrev wsG (y : MethodName) (cy : ByteArray) (mL : Nat) (rt : Option FieldType) : List Cond := Cond.code y cy mL rt :: lw_g
/-- a method's contract: it answers what the pure term says, over the world -/
def MQT {α : Type} (Qc : QT α) (w : Wo) (d : Nat) (y : MethodName) (cy : ByteArray) (mL : Nat) (rt : Option FieldType) (As : List Value) (σ : Sg) (f : Option α) : Prop :=
  ∀ (l : Launch), okW w → ∀ res, f = some res → Met l y (wsG y cy mL rt) (rmL d) (va_Pc As (PW w σ)) (Qc res) 0 0 w.2.2.2.1
theorem tbl_good : ∀ c ∈ lw_g, (c.onTables && c.keeps) = true ∨ ∃ ty, c = .arrayClass ty := fun c hc => good_of_word (List.mem_filter.mp hc).2
theorem gIn {y : MethodName} {cy : ByteArray} {mL : Nat} {rt : Option FieldType} (h : Cond.code y cy mL rt ∈ lw_g) : GoodIn lw_g (wsG y cy mL rt) := by
  intro c hc
  rcases List.mem_cons.mp hc with rfl | hc
  · exact ⟨h, tbl_good _ h⟩
  · exact ⟨hc, tbl_good _ hc⟩
/-- a contract out of a walk -/
theorem met_of {α : Type} {Qc : QT α} {w : Wo} {d : Nat} {y : MethodName} {cy : ByteArray} {mL : Nat} {own : String} {rt : Option FieldType} {As : List Value} {σ : Sg} {f : Option α} {lv : List (Nat × Value)} (hy : plainName y.cls = true) (ho : y.cls = own) (hA : (lg_sl As).length ≤ mL) (hlv : lv_args 0 As = lv)
    (h : ∀ E : EE, T E w d cy mL own rt Qc f σ 0 lv []) : MQT Qc w d y cy mL rt As σ f := by
  intro l hW res hf
  refine Met.ofW (cc := cy) (maxL := mL) (ret := rt) hy rfl ?_
  intro p e s m args below meth c s₁ B hml hv
  obtain ⟨rfl, hP, hK, hSt⟩ := hv
  have hts := atoms_spec (ws := wsG y cy mL rt) B.pre
  have hown : s.vm.findClass own = some m.cls := ho ▸ findClass_of_methodNamed B.named
  have hl := lv_entry As (n := mL) hA
  rw [lg_entry_eq]
  generalize (lg_sl As ++ List.replicate (mL - (lg_sl As).length) Slot.unset).toArray = ls at hl ⊢
  rw [hlv] at hl
  exact h (p, l, e, rmL d, s, m, As.toArray, below, meth, c) ⟨B.exec, B.bytes, hml, hown, fun c hc => hts c (List.mem_cons_of_mem _ hc), hK, hSt, hW, rfl, B.returns, B.notSynchronized⟩ res hf s.heap [] ls hP va_S.rf hl
section RW
variable {α : Type} {E : EE} {w : Wo} {d : Nat} {cc : ByteArray} {nL : Nat} {own : String} {rt : Option FieldType} {Qc : QT α} {t a b : Option α} {σ : Sg} {pc : Nat} {lv lv' : List (Nat × Value)} {st : List Value}
theorem r_none : T E w d cc nL own rt Qc none σ pc lv st := fun _ _ h => by cases h
theorem r_eq {t2 : Option α} (h : t = t2) (k : T E w d cc nL own rt Qc t2 σ pc lv st) : T E w d cc nL own rt Qc t σ pc lv st := h ▸ k
theorem r_sub (ks : List Nat) (h : lv_pick lv ks = lv') (k : T E w d cc nL own rt Qc t σ pc lv' st) : T E w d cc nL own rt Qc t σ pc lv st :=
  fun O res ht H locs ls hP hS hl => k O res ht H locs ls hP hS (lv_sub hl ks h)
theorem r_gd {b : Bool} (k : b = true → T E w d cc nL own rt Qc t σ pc lv st) : T E w d cc nL own rt Qc (gd b t) σ pc lv st :=
  fun O res ht H locs ls hP hS hl => k (gd_some ht).1 O res (gd_some ht).2 H locs ls hP hS hl
theorem r_iconst {n : Int} {v : Int32} (hd : decode cc pc = .ok (.iconst n, 1)) (hv : Int32.ofInt n = v) (k : T E w d cc nL own rt Qc t σ (pc + 1) lv (.int v :: st)) : T E w d cc nL own rt Qc t σ pc lv st :=
  fun O res ht H locs ls hP hS hl => lv_iconst O.1 O.2.1 hd hv (k O res ht H locs ls hP hS hl)
theorem r_bipush {n : Int} {v : Int32} (hd : decode cc pc = .ok (.bipush n, 2)) (hv : (Int8.ofInt n).toInt32 = v) (k : T E w d cc nL own rt Qc t σ (pc + 2) lv (.int v :: st)) : T E w d cc nL own rt Qc t σ pc lv st :=
  fun O res ht H locs ls hP hS hl => lv_bipush O.1 O.2.1 hd hv (k O res ht H locs ls hP hS hl)
theorem r_sipush {n : Int} {v : Int32} (hd : decode cc pc = .ok (.sipush n, 3)) (hv : (Int16.ofInt n).toInt32 = v) (k : T E w d cc nL own rt Qc t σ (pc + 3) lv (.int v :: st)) : T E w d cc nL own rt Qc t σ pc lv st :=
  fun O res ht H locs ls hP hS hl => lv_sipush O.1 O.2.1 hd hv (k O res ht H locs ls hP hS hl)
theorem r_lconst {n : Fin 2} {v : Int64} (hd : decode cc pc = .ok (.lconst n, 1)) (hv : Int64.ofNat (n : Nat) = v) (k : T E w d cc nL own rt Qc t σ (pc + 1) lv (.long v :: st)) : T E w d cc nL own rt Qc t σ pc lv st :=
  fun O res ht H locs ls hP hS hl => lv_lconst O.1 O.2.1 hd hv (k O res ht H locs ls hP hS hl)
theorem r_ldc {index : Nat} {v : Int32} (hd : decode cc pc = .ok (.ldc index, 2)) (hc : Cond.constant own index v ∈ lw_g) (k : T E w d cc nL own rt Qc t σ (pc + 2) lv (.int v :: st)) : T E w d cc nL own rt Qc t σ pc lv st :=
  fun O res ht H locs ls hP hS hl => lv_ldc O.1 O.2.1 O.2.2.2.1 (O.2.2.2.2.1 _ hc) hd (k O res ht H locs ls hP hS hl)
theorem r_ldc_w {index : Nat} {v : Int32} (hd : decode cc pc = .ok (.ldc_w index, 3)) (hc : Cond.constant own index v ∈ lw_g) (k : T E w d cc nL own rt Qc t σ (pc + 3) lv (.int v :: st)) : T E w d cc nL own rt Qc t σ pc lv st :=
  fun O res ht H locs ls hP hS hl => lv_ldcw O.1 O.2.1 O.2.2.2.1 (O.2.2.2.2.1 _ hc) hd (k O res ht H locs ls hP hS hl)
theorem r_ldc2_w {index : Nat} {v : Int64} (hd : decode cc pc = .ok (.ldc2_w index, 3)) (hc : Cond.constantLong own index v ∈ lw_g) (k : T E w d cc nL own rt Qc t σ (pc + 3) lv (.long v :: st)) : T E w d cc nL own rt Qc t σ pc lv st :=
  fun O res ht H locs ls hP hS hl => lv_ldc2 O.1 O.2.1 O.2.2.2.1 (O.2.2.2.2.1 _ hc) hd (k O res ht H locs ls hP hS hl)
theorem r_iload_n {k : Fin 4} {x : Int32} (i : Nat) (hd : decode cc pc = .ok (.iload_n k, 1)) (h : lv[i]? = some ((k : Nat), Value.int x)) (k : T E w d cc nL own rt Qc t σ (pc + 1) lv (.int x :: st)) : T E w d cc nL own rt Qc t σ pc lv st :=
  fun O res ht H locs ls hP hS hl => lv_iload_n O.1 O.2.1 hd rfl (lv_at hl i h) (k O res ht H locs ls hP hS hl)
theorem r_iload {k : Nat} {x : Int32} (i : Nat) (hd : decode cc pc = .ok (.iload k, 2)) (h : lv[i]? = some (k, Value.int x)) (k : T E w d cc nL own rt Qc t σ (pc + 2) lv (.int x :: st)) : T E w d cc nL own rt Qc t σ pc lv st :=
  fun O res ht H locs ls hP hS hl => lv_iload O.1 O.2.1 hd (lv_at hl i h) (k O res ht H locs ls hP hS hl)
theorem r_lload_n {k : Fin 4} {x : Int64} (i : Nat) (hd : decode cc pc = .ok (.lload_n k, 1)) (h : lv[i]? = some ((k : Nat), Value.long x)) (k : T E w d cc nL own rt Qc t σ (pc + 1) lv (.long x :: st)) : T E w d cc nL own rt Qc t σ pc lv st :=
  fun O res ht H locs ls hP hS hl => lv_lload_n O.1 O.2.1 hd rfl (lv_at hl i h) (k O res ht H locs ls hP hS hl)
theorem r_lload {k : Nat} {x : Int64} (i : Nat) (hd : decode cc pc = .ok (.lload k, 2)) (h : lv[i]? = some (k, Value.long x)) (k : T E w d cc nL own rt Qc t σ (pc + 2) lv (.long x :: st)) : T E w d cc nL own rt Qc t σ pc lv st :=
  fun O res ht H locs ls hP hS hl => lv_lload O.1 O.2.1 hd (lv_at hl i h) (k O res ht H locs ls hP hS hl)
theorem r_aload_n {k : Fin 4} {x : Nat} (i : Nat) (hd : decode cc pc = .ok (.aload_n k, 1)) (h : lv[i]? = some ((k : Nat), Value.ref x)) (k : T E w d cc nL own rt Qc t σ (pc + 1) lv (.ref x :: st)) : T E w d cc nL own rt Qc t σ pc lv st :=
  fun O res ht H locs ls hP hS hl => lv_aload_n O.1 O.2.1 hd rfl (lv_at hl i h) (k O res ht H locs ls hP hS hl)
theorem r_aload {k : Nat} {x : Nat} (i : Nat) (hd : decode cc pc = .ok (.aload k, 2)) (h : lv[i]? = some (k, Value.ref x)) (k : T E w d cc nL own rt Qc t σ (pc + 2) lv (.ref x :: st)) : T E w d cc nL own rt Qc t σ pc lv st :=
  fun O res ht H locs ls hP hS hl => lv_aload O.1 O.2.1 hd (lv_at hl i h) (k O res ht H locs ls hP hS hl)
theorem r_istore_n {k : Fin 4} {x : Int32} (hd : decode cc pc = .ok (.istore_n k, 1)) (hn : (k : Nat) < nL) (h : ((k : Nat), Value.int x) :: lv.filter (fun q => !(q.1 == (k : Nat)) && !(q.1 + 1 == (k : Nat) && q.2.category == 2)) = lv') (kk : T E w d cc nL own rt Qc t σ (pc + 1) lv' st) : T E w d cc nL own rt Qc t σ pc lv (.int x :: st) :=
  fun O res ht H locs ls hP hS hl => lv_istore_n O.1 O.2.1 hd rfl hl hn h (fun ls hl => kk O res ht H locs ls hP hS hl)
theorem r_istore {k : Nat} {x : Int32} (hd : decode cc pc = .ok (.istore k, 2)) (hn : k < nL) (h : (k, Value.int x) :: lv.filter (fun q => !(q.1 == k) && !(q.1 + 1 == k && q.2.category == 2)) = lv') (kk : T E w d cc nL own rt Qc t σ (pc + 2) lv' st) : T E w d cc nL own rt Qc t σ pc lv (.int x :: st) :=
  fun O res ht H locs ls hP hS hl => lv_istore O.1 O.2.1 hd hl hn h (fun ls hl => kk O res ht H locs ls hP hS hl)
theorem r_lstore_n {k : Fin 4} {x : Int64} (hd : decode cc pc = .ok (.lstore_n k, 1)) (hn : (k : Nat) + 1 < nL) (h : ((k : Nat), Value.long x) :: lv.filter (fun q => !(q.1 == (k : Nat)) && (!(q.1 == (k : Nat) + 1) && !(q.1 + 1 == (k : Nat) && q.2.category == 2))) = lv') (kk : T E w d cc nL own rt Qc t σ (pc + 1) lv' st) : T E w d cc nL own rt Qc t σ pc lv (.long x :: st) :=
  fun O res ht H locs ls hP hS hl => lv_lstore_n O.1 O.2.1 hd rfl hl hn h (fun ls hl => kk O res ht H locs ls hP hS hl)
theorem r_lstore {k : Nat} {x : Int64} (hd : decode cc pc = .ok (.lstore k, 2)) (hn : k + 1 < nL) (h : (k, Value.long x) :: lv.filter (fun q => !(q.1 == k) && (!(q.1 == k + 1) && !(q.1 + 1 == k && q.2.category == 2))) = lv') (kk : T E w d cc nL own rt Qc t σ (pc + 2) lv' st) : T E w d cc nL own rt Qc t σ pc lv (.long x :: st) :=
  fun O res ht H locs ls hP hS hl => lv_lstore O.1 O.2.1 hd hl hn h (fun ls hl => kk O res ht H locs ls hP hS hl)
theorem r_astore_n {k : Fin 4} {x : Nat} (hd : decode cc pc = .ok (.astore_n k, 1)) (hn : (k : Nat) < nL) (h : ((k : Nat), Value.ref x) :: lv.filter (fun q => !(q.1 == (k : Nat)) && !(q.1 + 1 == (k : Nat) && q.2.category == 2)) = lv') (kk : T E w d cc nL own rt Qc t σ (pc + 1) lv' st) : T E w d cc nL own rt Qc t σ pc lv (.ref x :: st) :=
  fun O res ht H locs ls hP hS hl => lv_astore_n O.1 O.2.1 hd rfl hl hn h (fun ls hl => kk O res ht H locs ls hP hS hl)
theorem r_astore {k : Nat} {x : Nat} (hd : decode cc pc = .ok (.astore k, 2)) (hn : k < nL) (h : (k, Value.ref x) :: lv.filter (fun q => !(q.1 == k) && !(q.1 + 1 == k && q.2.category == 2)) = lv') (kk : T E w d cc nL own rt Qc t σ (pc + 2) lv' st) : T E w d cc nL own rt Qc t σ pc lv (.ref x :: st) :=
  fun O res ht H locs ls hP hS hl => lv_astore O.1 O.2.1 hd hl hn h (fun ls hl => kk O res ht H locs ls hP hS hl)
theorem r_iinc {i j : Nat} {n : Int} {x v : Int32} (j : Nat) (hd : decode cc pc = .ok (.iinc i n, 3)) (hk : lv[j]? = some (i, .int x)) (hv : x + Int32.ofInt n = v) (hn : i < nL) (h : (i, Value.int v) :: lv.filter (fun q => !(q.1 == i) && !(q.1 + 1 == i && q.2.category == 2)) = lv') (k : T E w d cc nL own rt Qc t σ (pc + 3) lv' st) : T E w d cc nL own rt Qc t σ pc lv st :=
  fun O res ht H locs ls hP hS hl => lv_iinc O.1 O.2.1 hd hl (k := j) hk hv hn h (fun ls hl => k O res ht H locs ls hP hS hl)
theorem r_iadd {x y : Int32} (hd : decode cc pc = .ok (.iadd, 1)) (k : T E w d cc nL own rt Qc t σ (pc + 1) lv (.int (x + y) :: st)) : T E w d cc nL own rt Qc t σ pc lv (.int y :: .int x :: st) :=
  fun O res ht H locs ls hP hS hl => lv_iadd O.1 O.2.1 hd (k O res ht H locs ls hP hS hl)
theorem r_isub {x y : Int32} (hd : decode cc pc = .ok (.isub, 1)) (k : T E w d cc nL own rt Qc t σ (pc + 1) lv (.int (x - y) :: st)) : T E w d cc nL own rt Qc t σ pc lv (.int y :: .int x :: st) :=
  fun O res ht H locs ls hP hS hl => lv_isub O.1 O.2.1 hd (k O res ht H locs ls hP hS hl)
theorem r_imul {x y : Int32} (hd : decode cc pc = .ok (.imul, 1)) (k : T E w d cc nL own rt Qc t σ (pc + 1) lv (.int (x * y) :: st)) : T E w d cc nL own rt Qc t σ pc lv (.int y :: .int x :: st) :=
  fun O res ht H locs ls hP hS hl => lv_imul O.1 O.2.1 hd (k O res ht H locs ls hP hS hl)
theorem r_iand {x y : Int32} (hd : decode cc pc = .ok (.iand, 1)) (k : T E w d cc nL own rt Qc t σ (pc + 1) lv (.int (x &&& y) :: st)) : T E w d cc nL own rt Qc t σ pc lv (.int y :: .int x :: st) :=
  fun O res ht H locs ls hP hS hl => lv_iand O.1 O.2.1 hd (k O res ht H locs ls hP hS hl)
theorem r_ior {x y : Int32} (hd : decode cc pc = .ok (.ior, 1)) (k : T E w d cc nL own rt Qc t σ (pc + 1) lv (.int (x ||| y) :: st)) : T E w d cc nL own rt Qc t σ pc lv (.int y :: .int x :: st) :=
  fun O res ht H locs ls hP hS hl => lv_ior O.1 O.2.1 hd (k O res ht H locs ls hP hS hl)
theorem r_ixor {x y : Int32} (hd : decode cc pc = .ok (.ixor, 1)) (k : T E w d cc nL own rt Qc t σ (pc + 1) lv (.int (x ^^^ y) :: st)) : T E w d cc nL own rt Qc t σ pc lv (.int y :: .int x :: st) :=
  fun O res ht H locs ls hP hS hl => lv_ixor O.1 O.2.1 hd (k O res ht H locs ls hP hS hl)
theorem r_ishl {x y : Int32} (hd : decode cc pc = .ok (.ishl, 1)) (k : T E w d cc nL own rt Qc t σ (pc + 1) lv (.int (x <<< (y &&& 31)) :: st)) : T E w d cc nL own rt Qc t σ pc lv (.int y :: .int x :: st) :=
  fun O res ht H locs ls hP hS hl => lv_ishl O.1 O.2.1 hd (k O res ht H locs ls hP hS hl)
theorem r_ishr {x y : Int32} (hd : decode cc pc = .ok (.ishr, 1)) (k : T E w d cc nL own rt Qc t σ (pc + 1) lv (.int (x >>> (y &&& 31)) :: st)) : T E w d cc nL own rt Qc t σ pc lv (.int y :: .int x :: st) :=
  fun O res ht H locs ls hP hS hl => lv_ishr O.1 O.2.1 hd (k O res ht H locs ls hP hS hl)
theorem r_ladd {x y : Int64} (hd : decode cc pc = .ok (.ladd, 1)) (k : T E w d cc nL own rt Qc t σ (pc + 1) lv (.long (x + y) :: st)) : T E w d cc nL own rt Qc t σ pc lv (.long y :: .long x :: st) :=
  fun O res ht H locs ls hP hS hl => lv_ladd O.1 O.2.1 hd (k O res ht H locs ls hP hS hl)
theorem r_lsub {x y : Int64} (hd : decode cc pc = .ok (.lsub, 1)) (k : T E w d cc nL own rt Qc t σ (pc + 1) lv (.long (x - y) :: st)) : T E w d cc nL own rt Qc t σ pc lv (.long y :: .long x :: st) :=
  fun O res ht H locs ls hP hS hl => lv_lsub O.1 O.2.1 hd (k O res ht H locs ls hP hS hl)
theorem r_lmul {x y : Int64} (hd : decode cc pc = .ok (.lmul, 1)) (k : T E w d cc nL own rt Qc t σ (pc + 1) lv (.long (x * y) :: st)) : T E w d cc nL own rt Qc t σ pc lv (.long y :: .long x :: st) :=
  fun O res ht H locs ls hP hS hl => lv_lmul O.1 O.2.1 hd (k O res ht H locs ls hP hS hl)
theorem r_land {x y : Int64} (hd : decode cc pc = .ok (.land, 1)) (k : T E w d cc nL own rt Qc t σ (pc + 1) lv (.long (x &&& y) :: st)) : T E w d cc nL own rt Qc t σ pc lv (.long y :: .long x :: st) :=
  fun O res ht H locs ls hP hS hl => lv_land O.1 O.2.1 hd (k O res ht H locs ls hP hS hl)
theorem r_lor {x y : Int64} (hd : decode cc pc = .ok (.lor, 1)) (k : T E w d cc nL own rt Qc t σ (pc + 1) lv (.long (x ||| y) :: st)) : T E w d cc nL own rt Qc t σ pc lv (.long y :: .long x :: st) :=
  fun O res ht H locs ls hP hS hl => lv_lor O.1 O.2.1 hd (k O res ht H locs ls hP hS hl)
theorem r_lxor {x y : Int64} (hd : decode cc pc = .ok (.lxor, 1)) (k : T E w d cc nL own rt Qc t σ (pc + 1) lv (.long (x ^^^ y) :: st)) : T E w d cc nL own rt Qc t σ pc lv (.long y :: .long x :: st) :=
  fun O res ht H locs ls hP hS hl => lv_lxor O.1 O.2.1 hd (k O res ht H locs ls hP hS hl)
theorem r_ineg {x : Int32} (hd : decode cc pc = .ok (.ineg, 1)) (k : T E w d cc nL own rt Qc t σ (pc + 1) lv (.int (-x) :: st)) : T E w d cc nL own rt Qc t σ pc lv (.int x :: st) :=
  fun O res ht H locs ls hP hS hl => lv_ineg O.1 O.2.1 hd (k O res ht H locs ls hP hS hl)
theorem r_iushr {x y : Int32} (hd : decode cc pc = .ok (.iushr, 1)) (k : T E w d cc nL own rt Qc t σ (pc + 1) lv (.int (x.toUInt32 >>> (y.toUInt32 &&& Int32.toUInt32 31)).toInt32 :: st)) : T E w d cc nL own rt Qc t σ pc lv (.int y :: .int x :: st) :=
  fun O res ht H locs ls hP hS hl => lv_iushr O.1 O.2.1 hd rfl (k O res ht H locs ls hP hS hl)
theorem r_lushr {x : Int64} {y : Int32} (hd : decode cc pc = .ok (.lushr, 1)) (k : T E w d cc nL own rt Qc t σ (pc + 1) lv (.long (x.toUInt64 >>> (y.toInt64.toUInt64 &&& Int64.toUInt64 63)).toInt64 :: st)) : T E w d cc nL own rt Qc t σ pc lv (.int y :: .long x :: st) :=
  fun O res ht H locs ls hP hS hl => lv_lushr O.1 O.2.1 hd rfl (k O res ht H locs ls hP hS hl)
theorem r_lshl {x : Int64} {y : Int32} (hd : decode cc pc = .ok (.lshl, 1)) (k : T E w d cc nL own rt Qc t σ (pc + 1) lv (.long (x <<< (y.toInt64 &&& 63)) :: st)) : T E w d cc nL own rt Qc t σ pc lv (.int y :: .long x :: st) :=
  fun O res ht H locs ls hP hS hl => lv_lshl O.1 O.2.1 hd rfl (k O res ht H locs ls hP hS hl)
theorem r_lshr {x : Int64} {y : Int32} (hd : decode cc pc = .ok (.lshr, 1)) (k : T E w d cc nL own rt Qc t σ (pc + 1) lv (.long (x >>> (y.toInt64 &&& 63)) :: st)) : T E w d cc nL own rt Qc t σ pc lv (.int y :: .long x :: st) :=
  fun O res ht H locs ls hP hS hl => lv_lshr O.1 O.2.1 hd rfl (k O res ht H locs ls hP hS hl)
theorem r_i2l {x : Int32} (hd : decode cc pc = .ok (.i2l, 1)) (k : T E w d cc nL own rt Qc t σ (pc + 1) lv (.long x.toInt64 :: st)) : T E w d cc nL own rt Qc t σ pc lv (.int x :: st) :=
  fun O res ht H locs ls hP hS hl => lv_i2l O.1 O.2.1 hd rfl (k O res ht H locs ls hP hS hl)
theorem r_l2i {x : Int64} (hd : decode cc pc = .ok (.l2i, 1)) (k : T E w d cc nL own rt Qc t σ (pc + 1) lv (.int x.toInt32 :: st)) : T E w d cc nL own rt Qc t σ pc lv (.long x :: st) :=
  fun O res ht H locs ls hP hS hl => lv_l2i O.1 O.2.1 hd rfl (k O res ht H locs ls hP hS hl)
theorem r_i2b {x : Int32} (hd : decode cc pc = .ok (.i2b, 1)) (k : T E w d cc nL own rt Qc t σ (pc + 1) lv (.int x.toInt8.toInt32 :: st)) : T E w d cc nL own rt Qc t σ pc lv (.int x :: st) :=
  fun O res ht H locs ls hP hS hl => lv_i2b O.1 O.2.1 hd rfl (k O res ht H locs ls hP hS hl)
theorem r_i2s {x : Int32} (hd : decode cc pc = .ok (.i2s, 1)) (k : T E w d cc nL own rt Qc t σ (pc + 1) lv (.int x.toInt16.toInt32 :: st)) : T E w d cc nL own rt Qc t σ pc lv (.int x :: st) :=
  fun O res ht H locs ls hP hS hl => lv_i2s O.1 O.2.1 hd rfl (k O res ht H locs ls hP hS hl)
theorem r_lcmp {x y : Int64} (hd : decode cc pc = .ok (.lcmp, 1)) (k : T E w d cc nL own rt Qc t σ (pc + 1) lv (.int (lg_cmp x y) :: st)) : T E w d cc nL own rt Qc t σ pc lv (.long y :: .long x :: st) :=
  fun O res ht H locs ls hP hS hl => W.lcmp O.1 O.2.1 hd (k O res ht H locs ls hP hS hl)
theorem r_dup {v : Value} (hd : decode cc pc = .ok (.dup, 1)) (hv : v.category = 1) (k : T E w d cc nL own rt Qc t σ (pc + 1) lv (v :: v :: st)) : T E w d cc nL own rt Qc t σ pc lv (v :: st) :=
  fun O res ht H locs ls hP hS hl => lv_dup O.1 O.2.1 hd hv (k O res ht H locs ls hP hS hl)
theorem r_pop {v : Value} (hd : decode cc pc = .ok (.pop, 1)) (hv : v.category = 1) (k : T E w d cc nL own rt Qc t σ (pc + 1) lv st) : T E w d cc nL own rt Qc t σ pc lv (v :: st) :=
  fun O res ht H locs ls hP hS hl => lv_pop O.1 O.2.1 hd hv (k O res ht H locs ls hP hS hl)
theorem r_dup_x1 {va vb : Value} (hd : decode cc pc = .ok (.dup_x1, 1)) (ha : va.category = 1) (hb : vb.category = 1) (k : T E w d cc nL own rt Qc t σ (pc + 1) lv (va :: vb :: va :: st)) : T E w d cc nL own rt Qc t σ pc lv (va :: vb :: st) :=
  fun O res ht H locs ls hP hS hl => lv_dup_x1 O.1 O.2.1 hd ha hb (k O res ht H locs ls hP hS hl)
theorem r_dup2_11 {va vb : Value} (hd : decode cc pc = .ok (.dup2, 1)) (ha : va.category = 1) (hb : vb.category = 1) (k : T E w d cc nL own rt Qc t σ (pc + 1) lv (va :: vb :: va :: vb :: st)) : T E w d cc nL own rt Qc t σ pc lv (va :: vb :: st) :=
  fun O res ht H locs ls hP hS hl => lv_dup2_11 O.1 O.2.1 hd ha hb (k O res ht H locs ls hP hS hl)
theorem r_goto {off : Int} (tgt : Nat) (hd : decode cc pc = .ok (.goto off, 3)) (htg : (pc : Int) + off = (tgt : Int)) (k : T E w d cc nL own rt Qc t σ tgt lv st) : T E w d cc nL own rt Qc t σ pc lv st :=
  fun O res ht H locs ls hP hS hl => lv_goto O.1 O.2.1 hd htg (k O res ht H locs ls hP hS hl)
theorem r_idiv {x y : Int32} (hd : decode cc pc = .ok (.idiv, 1)) (k : T E w d cc nL own rt Qc t σ (pc + 1) lv (.int (x / y) :: st)) : T E w d cc nL own rt Qc (gd (nz y) t) σ pc lv (.int y :: .int x :: st) :=
  fun O res ht H locs ls hP hS hl => lv_idiv O.1 O.2.1 hd (of_decide_eq_true (gd_some ht).1) (k O res (gd_some ht).2 H locs ls hP hS hl)
theorem r_irem {x y : Int32} (hd : decode cc pc = .ok (.irem, 1)) (k : T E w d cc nL own rt Qc t σ (pc + 1) lv (.int (x - x / y * y) :: st)) : T E w d cc nL own rt Qc (gd (nz y) t) σ pc lv (.int y :: .int x :: st) :=
  fun O res ht H locs ls hP hS hl => lv_irem O.1 O.2.1 hd (of_decide_eq_true (gd_some ht).1) (k O res (gd_some ht).2 H locs ls hP hS hl)
theorem r_if_eq {x : Int32} {off : Int} (tgt : Nat) (hd : decode cc pc = .ok (.ifCond .eq off, 3)) (htg : (pc : Int) + off = (tgt : Int)) (ka : T E w d cc nL own rt Qc a σ tgt lv st) (kb : T E w d cc nL own rt Qc b σ (pc + 3) lv st) : T E w d cc nL own rt Qc (if x = 0 then a else b) σ pc lv (.int x :: st) :=
  fun O res ht H locs ls hP hS hl => lv_if_eq O.1 O.2.1 hd htg (fun c => ka O res (by rw [if_pos c] at ht; exact ht) H locs ls hP hS hl) (fun c => kb O res (by rw [if_neg c] at ht; exact ht) H locs ls hP hS hl)
theorem r_icmp_eq {x y : Int32} {off : Int} (tgt : Nat) (hd : decode cc pc = .ok (.if_icmp .eq off, 3)) (htg : (pc : Int) + off = (tgt : Int)) (ka : T E w d cc nL own rt Qc a σ tgt lv st) (kb : T E w d cc nL own rt Qc b σ (pc + 3) lv st) : T E w d cc nL own rt Qc (if x = y then a else b) σ pc lv (.int y :: .int x :: st) :=
  fun O res ht H locs ls hP hS hl => lv_icmp_eq O.1 O.2.1 hd htg (fun c => ka O res (by rw [if_pos c] at ht; exact ht) H locs ls hP hS hl) (fun c => kb O res (by rw [if_neg c] at ht; exact ht) H locs ls hP hS hl)
theorem r_if_ne {x : Int32} {off : Int} (tgt : Nat) (hd : decode cc pc = .ok (.ifCond .ne off, 3)) (htg : (pc : Int) + off = (tgt : Int)) (ka : T E w d cc nL own rt Qc a σ (pc + 3) lv st) (kb : T E w d cc nL own rt Qc b σ tgt lv st) : T E w d cc nL own rt Qc (if x = 0 then a else b) σ pc lv (.int x :: st) :=
  fun O res ht H locs ls hP hS hl => lv_if_ne O.1 O.2.1 hd htg (fun c => kb O res (by rw [if_neg c] at ht; exact ht) H locs ls hP hS hl) (fun c => ka O res (by rw [if_pos c] at ht; exact ht) H locs ls hP hS hl)
theorem r_icmp_ne {x y : Int32} {off : Int} (tgt : Nat) (hd : decode cc pc = .ok (.if_icmp .ne off, 3)) (htg : (pc : Int) + off = (tgt : Int)) (ka : T E w d cc nL own rt Qc a σ (pc + 3) lv st) (kb : T E w d cc nL own rt Qc b σ tgt lv st) : T E w d cc nL own rt Qc (if x = y then a else b) σ pc lv (.int y :: .int x :: st) :=
  fun O res ht H locs ls hP hS hl => lv_icmp_ne O.1 O.2.1 hd htg (fun c => kb O res (by rw [if_neg c] at ht; exact ht) H locs ls hP hS hl) (fun c => ka O res (by rw [if_pos c] at ht; exact ht) H locs ls hP hS hl)
theorem r_if_lt {x : Int32} {off : Int} (tgt : Nat) (hd : decode cc pc = .ok (.ifCond .lt off, 3)) (htg : (pc : Int) + off = (tgt : Int)) (ka : T E w d cc nL own rt Qc a σ tgt lv st) (kb : T E w d cc nL own rt Qc b σ (pc + 3) lv st) : T E w d cc nL own rt Qc (if x < 0 then a else b) σ pc lv (.int x :: st) :=
  fun O res ht H locs ls hP hS hl => lv_if_lt O.1 O.2.1 hd htg (fun c => ka O res (by rw [if_pos c] at ht; exact ht) H locs ls hP hS hl) (fun c => kb O res (by rw [if_neg c] at ht; exact ht) H locs ls hP hS hl)
theorem r_icmp_lt {x y : Int32} {off : Int} (tgt : Nat) (hd : decode cc pc = .ok (.if_icmp .lt off, 3)) (htg : (pc : Int) + off = (tgt : Int)) (ka : T E w d cc nL own rt Qc a σ tgt lv st) (kb : T E w d cc nL own rt Qc b σ (pc + 3) lv st) : T E w d cc nL own rt Qc (if x < y then a else b) σ pc lv (.int y :: .int x :: st) :=
  fun O res ht H locs ls hP hS hl => lv_icmp_lt O.1 O.2.1 hd htg (fun c => ka O res (by rw [if_pos c] at ht; exact ht) H locs ls hP hS hl) (fun c => kb O res (by rw [if_neg c] at ht; exact ht) H locs ls hP hS hl)
theorem r_if_ge {x : Int32} {off : Int} (tgt : Nat) (hd : decode cc pc = .ok (.ifCond .ge off, 3)) (htg : (pc : Int) + off = (tgt : Int)) (ka : T E w d cc nL own rt Qc a σ tgt lv st) (kb : T E w d cc nL own rt Qc b σ (pc + 3) lv st) : T E w d cc nL own rt Qc (if 0 ≤ x then a else b) σ pc lv (.int x :: st) :=
  fun O res ht H locs ls hP hS hl => lv_if_ge O.1 O.2.1 hd htg (fun c => ka O res (by rw [if_pos c] at ht; exact ht) H locs ls hP hS hl) (fun c => kb O res (by rw [if_neg c] at ht; exact ht) H locs ls hP hS hl)
theorem r_icmp_ge {x y : Int32} {off : Int} (tgt : Nat) (hd : decode cc pc = .ok (.if_icmp .ge off, 3)) (htg : (pc : Int) + off = (tgt : Int)) (ka : T E w d cc nL own rt Qc a σ tgt lv st) (kb : T E w d cc nL own rt Qc b σ (pc + 3) lv st) : T E w d cc nL own rt Qc (if y ≤ x then a else b) σ pc lv (.int y :: .int x :: st) :=
  fun O res ht H locs ls hP hS hl => lv_icmp_ge O.1 O.2.1 hd htg (fun c => ka O res (by rw [if_pos c] at ht; exact ht) H locs ls hP hS hl) (fun c => kb O res (by rw [if_neg c] at ht; exact ht) H locs ls hP hS hl)
theorem r_if_gt {x : Int32} {off : Int} (tgt : Nat) (hd : decode cc pc = .ok (.ifCond .gt off, 3)) (htg : (pc : Int) + off = (tgt : Int)) (ka : T E w d cc nL own rt Qc a σ tgt lv st) (kb : T E w d cc nL own rt Qc b σ (pc + 3) lv st) : T E w d cc nL own rt Qc (if 0 < x then a else b) σ pc lv (.int x :: st) :=
  fun O res ht H locs ls hP hS hl => lv_if_gt O.1 O.2.1 hd htg (fun c => ka O res (by rw [if_pos c] at ht; exact ht) H locs ls hP hS hl) (fun c => kb O res (by rw [if_neg c] at ht; exact ht) H locs ls hP hS hl)
theorem r_icmp_gt {x y : Int32} {off : Int} (tgt : Nat) (hd : decode cc pc = .ok (.if_icmp .gt off, 3)) (htg : (pc : Int) + off = (tgt : Int)) (ka : T E w d cc nL own rt Qc a σ tgt lv st) (kb : T E w d cc nL own rt Qc b σ (pc + 3) lv st) : T E w d cc nL own rt Qc (if y < x then a else b) σ pc lv (.int y :: .int x :: st) :=
  fun O res ht H locs ls hP hS hl => lv_icmp_gt O.1 O.2.1 hd htg (fun c => ka O res (by rw [if_pos c] at ht; exact ht) H locs ls hP hS hl) (fun c => kb O res (by rw [if_neg c] at ht; exact ht) H locs ls hP hS hl)
theorem r_if_le {x : Int32} {off : Int} (tgt : Nat) (hd : decode cc pc = .ok (.ifCond .le off, 3)) (htg : (pc : Int) + off = (tgt : Int)) (ka : T E w d cc nL own rt Qc a σ tgt lv st) (kb : T E w d cc nL own rt Qc b σ (pc + 3) lv st) : T E w d cc nL own rt Qc (if x ≤ 0 then a else b) σ pc lv (.int x :: st) :=
  fun O res ht H locs ls hP hS hl => lv_if_le O.1 O.2.1 hd htg (fun c => ka O res (by rw [if_pos c] at ht; exact ht) H locs ls hP hS hl) (fun c => kb O res (by rw [if_neg c] at ht; exact ht) H locs ls hP hS hl)
theorem r_icmp_le {x y : Int32} {off : Int} (tgt : Nat) (hd : decode cc pc = .ok (.if_icmp .le off, 3)) (htg : (pc : Int) + off = (tgt : Int)) (ka : T E w d cc nL own rt Qc a σ tgt lv st) (kb : T E w d cc nL own rt Qc b σ (pc + 3) lv st) : T E w d cc nL own rt Qc (if x ≤ y then a else b) σ pc lv (.int y :: .int x :: st) :=
  fun O res ht H locs ls hP hS hl => lv_icmp_le O.1 O.2.1 hd htg (fun c => ka O res (by rw [if_pos c] at ht; exact ht) H locs ls hP hS hl) (fun c => kb O res (by rw [if_neg c] at ht; exact ht) H locs ls hP hS hl)
theorem r_ift {c : Prop} [Decidable c] (h : c) (k : T E w d cc nL own rt Qc a σ pc lv st) : T E w d cc nL own rt Qc (if c then a else b) σ pc lv st := by rw [if_pos h]; exact k
theorem r_ite {c : Prop} [Decidable c] (ka : c → T E w d cc nL own rt Qc a σ pc lv st) (kb : ¬ c → T E w d cc nL own rt Qc b σ pc lv st) : T E w d cc nL own rt Qc (if c then a else b) σ pc lv st := by
  by_cases h : c
  · rw [if_pos h]; exact ka h
  · rw [if_neg h]; exact kb h
theorem r_tableIn {dflt lo hi : Int} {offs : Array Int} {len : Nat} {x : Int32} {off : Int} (tgt : Nat) (hd : decode cc pc = .ok (.tableswitch dflt lo hi offs, len)) (h1 : ¬ x.toInt < lo) (h2 : ¬ hi < x.toInt) (ho : offs[(x.toInt - lo).toNat]? = some off) (htg : (pc : Int) + off = (tgt : Int)) (k : T E w d cc nL own rt Qc t σ tgt lv st) : T E w d cc nL own rt Qc t σ pc lv (.int x :: st) :=
  fun O res ht H locs ls hP hS hl => lv_tableIn O.1 O.2.1 hd h1 h2 ho htg (k O res ht H locs ls hP hS hl)
theorem r_tableOut {dflt lo hi : Int} {offs : Array Int} {len : Nat} {x : Int32} (tgt : Nat) (hd : decode cc pc = .ok (.tableswitch dflt lo hi offs, len)) (h : x.toInt < lo ∨ hi < x.toInt) (htg : (pc : Int) + dflt = (tgt : Int)) (k : T E w d cc nL own rt Qc t σ tgt lv st) : T E w d cc nL own rt Qc t σ pc lv (.int x :: st) :=
  fun O res ht H locs ls hP hS hl => lv_tableOut O.1 O.2.1 hd h htg (k O res ht H locs ls hP hS hl)
theorem r_lookup {dflt : Int} {ps : Array (Int × Int)} {len : Nat} {x : Int32} {off : Int} (tgt : Nat) (hd : decode cc pc = .ok (.lookupswitch dflt ps, len)) (hp : (ps.toList.zip (ps.toList.drop 1)).all (fun (a, next) => a.1 < next.1) = true) (ho : Op.lookupswitch.offset ps.toList dflt x.toInt = off) (htg : (pc : Int) + off = (tgt : Int)) (k : T E w d cc nL own rt Qc t σ tgt lv st) : T E w d cc nL own rt Qc t σ pc lv (.int x :: st) :=
  fun O res ht H locs ls hP hS hl => lv_lookup O.1 O.2.1 hd hp ho htg (k O res ht H locs ls hP hS hl)
/-- fields -/
def hasF (w : Wo) (q a ci k : Nat) (v : Sg → Value) : Prop := ∀ σ, ∃ fs : List Value, (w.1 σ)[q]? = some (a, .inr (ci, fs)) ∧ fs[k]? = some (v σ)
def setF (w : Wo) (q a ci k f : Nat) : Prop := ∀ σ (x : Int32), ∃ fs : List Value, (w.1 σ)[q]? = some (a, .inr (ci, fs)) ∧ k < fs.length ∧ (w.1 σ).set q (a, .inr (ci, fs.set k (.int x))) = w.1 (sI σ f x)
theorem r_get {q ar ci k N : Nat} {v : Sg → Value} {C : String} {TT : u_T} {index : Nat} (hd : decode cc pc = .ok (.getfield index, 3)) (hF : hasF w q ar ci k v) (hc : vwCl[ci]? = some (C, TT, N)) (hk : k < N) (hin : ∀ c ∈ u_ws C TT N, c ∈ lw_g) (hlk : Cond.fieldLink own index (TT k).1 (TT k).2.1 (TT k).2.2.1 ∈ lw_g) (kk : T E w d cc nL own rt Qc t σ (pc + 3) lv (v σ :: st)) : T E w d cc nL own rt Qc t σ pc lv (.ref ar :: st) := by
  intro O res ht H locs ls hP hS hl
  obtain ⟨fs, h1, h2⟩ := hF σ
  exact va_get (D := w.2.1) (v := v σ) O.1 O.2.1 O.2.2.2.2.1 hin O.2.2.2.1 O.2.2.2.2.2.1 hP q h1 hc k hk (O.2.2.2.2.1 _ hlk) (fun _ h9 => h9) h2 hd (kk O res ht H locs ls hP hS hl)
theorem r_put {q ar ci k f N : Nat} {x : Int32} {C : String} {TT : u_T} {ty0 : Nat → FieldType} {index : Nat} (hd : decode cc pc = .ok (.putfield index, 3)) (hF : setF w q ar ci k f) (hc : vwCl[ci]? = some (C, TT, N)) (hk : k < N) (hin : ∀ c ∈ u_ws C TT N, c ∈ lw_g) (hty : ∀ k, k < N → parseFieldDescriptor (TT k).2.2.1 = some (ty0 k)) (hnm : ∀ a, a < N → ∀ b, b < N → a ≠ b → (TT a).2.1 ≠ (TT b).2.1) (hlk : Cond.fieldLink own index (TT k).1 (TT k).2.1 (TT k).2.2.1 ∈ lw_g) (hfin : (TT k).2.2.2 = false) {ty : FieldType} (hd2 : parseFieldDescriptor (TT k).2.2.1 = some ty) (hn : narrow ty (.int x) = .int x ∧ fits ty (.int x) = true) (kk : T E w d cc nL own rt Qc t (sI σ f x) (pc + 3) lv st) : T E w d cc nL own rt Qc t σ pc lv (.int x :: .ref ar :: st) := by
  intro O res ht H locs ls hP hS hl
  obtain ⟨fs, h1, h2, h3⟩ := hF σ x
  refine va_put (D := w.2.1) O.1 O.2.1 O.2.2.2.2.1 hin ty0 hty hnm O.2.2.2.1 O.2.2.2.2.2.1 hP (O.2.2.2.2.2.2.2.1.1 σ) hS q h1 hc k hk (O.2.2.2.2.1 _ hlk) (fun _ h9 => h9) hfin hd2 hn.1 hn.2 h2 hd (fun H1 locs1 hP1 hD1 hS1 => ?_)
  rw [h3] at hP1
  exact kk O res ht H1 locs1 ls hP1 hS1 hl
theorem nar_int (x : Int32) : narrow .int (.int x) = .int x ∧ fits .int (.int x) = true := ⟨rfl, rfl⟩
/-- rows of numbers -/
def hasI (w : Wo) (q a n : Nat) (t0 : Nat) (ty : FieldType) : Prop := ∃ cA : ClassId, w.2.2.1[t0]? = some (cA, ty) ∧ (∀ σ : Sg, (w.1 σ)[q]? = some (a, .inl (cA, n, .inl (σ.2.1 q)))) ∧ ∀ (σ : Sg) (f : Nat → Int32), (w.1 σ).set q (a, .inl (cA, n, .inl f)) = w.1 (sR σ q f)
def hasL (w : Wo) (q a n : Nat) (t0 : Nat) : Prop := ∃ cA : ClassId, w.2.2.1[t0]? = some (cA, .long) ∧ (∀ σ : Sg, (w.1 σ)[q]? = some (a, .inl (cA, n, .inr (.inl (σ.2.2 q))))) ∧ ∀ (σ : Sg) (f : Nat → Int64), (w.1 σ).set q (a, .inl (cA, n, .inr (.inl f))) = w.1 (sM σ q f)
theorem r_iald {q ar n t0 : Nat} {i : Int32} (hd : decode cc pc = .ok (.iaload, 1)) (hI : hasI w q ar n t0 .int) (kk : T E w d cc nL own rt Qc t σ (pc + 1) lv (.int (σ.2.1 q i.toNatClampNeg) :: st)) : T E w d cc nL own rt Qc (gd (ib i n) t) σ pc lv (.int i :: .ref ar :: st) := by
  intro O res ht H locs ls hP hS hl
  obtain ⟨cA, h0, h1, h2⟩ := hI
  exact va_iald O.1 O.2.1 O.2.2.2.2.2.1 hP q t0 (h1 σ) h0 (ib_in (gd_some ht).1) hd (kk O res (gd_some ht).2 H locs ls hP hS hl)
theorem r_bald {q ar n t0 : Nat} {i : Int32} (hd : decode cc pc = .ok (.baload, 1)) (hI : hasI w q ar n t0 .byte) (kk : T E w d cc nL own rt Qc t σ (pc + 1) lv (.int (σ.2.1 q i.toNatClampNeg) :: st)) : T E w d cc nL own rt Qc (gd (ib i n) t) σ pc lv (.int i :: .ref ar :: st) := by
  intro O res ht H locs ls hP hS hl
  obtain ⟨cA, h0, h1, h2⟩ := hI
  exact va_bald O.1 O.2.1 O.2.2.2.2.2.1 hP q t0 (h1 σ) h0 (ib_in (gd_some ht).1) hd (kk O res (gd_some ht).2 H locs ls hP hS hl)
theorem r_lald {q ar n t0 : Nat} {i : Int32} (hd : decode cc pc = .ok (.laload, 1)) (hI : hasL w q ar n t0) (kk : T E w d cc nL own rt Qc t σ (pc + 1) lv (.long (σ.2.2 q i.toNatClampNeg) :: st)) : T E w d cc nL own rt Qc (gd (ib i n) t) σ pc lv (.int i :: .ref ar :: st) := by
  intro O res ht H locs ls hP hS hl
  obtain ⟨cA, h0, h1, h2⟩ := hI
  exact va_lald O.1 O.2.1 O.2.2.2.2.2.1 hP q t0 (h1 σ) h0 (ib_in (gd_some ht).1) hd (kk O res (gd_some ht).2 H locs ls hP hS hl)
theorem r_iast {q ar n t0 : Nat} {i x : Int32} (hd : decode cc pc = .ok (.iastore, 1)) (hI : hasI w q ar n t0 .int) (kk : T E w d cc nL own rt Qc t (sA σ q i.toNatClampNeg x) (pc + 1) lv st) : T E w d cc nL own rt Qc (gd (ib i n) t) σ pc lv (.int x :: .int i :: .ref ar :: st) := by
  intro O res ht H locs ls hP hS hl
  obtain ⟨cA, h0, h1, h2⟩ := hI
  refine va_iast O.1 O.2.1 O.2.2.2.2.2.1 hP (O.2.2.2.2.2.2.2.1.1 σ) hS q t0 (h1 σ) h0 (ib_in (gd_some ht).1) hd (fun H1 locs1 hP1 hD1 hS1 => ?_)
  rw [h2] at hP1
  exact kk O res (gd_some ht).2 H1 locs1 ls hP1 hS1 hl
theorem r_bast {q ar n t0 : Nat} {i x : Int32} (hd : decode cc pc = .ok (.bastore, 1)) (hI : hasI w q ar n t0 .byte) (kk : T E w d cc nL own rt Qc t (sA σ q i.toNatClampNeg (vp_nar .byte x)) (pc + 1) lv st) : T E w d cc nL own rt Qc (gd (ib i n) t) σ pc lv (.int x :: .int i :: .ref ar :: st) := by
  intro O res ht H locs ls hP hS hl
  obtain ⟨cA, h0, h1, h2⟩ := hI
  refine va_bast O.1 O.2.1 O.2.2.2.2.2.1 hP (O.2.2.2.2.2.2.2.1.1 σ) hS q t0 (h1 σ) h0 (ib_in (gd_some ht).1) hd (fun H1 locs1 hP1 hD1 hS1 => ?_)
  rw [h2] at hP1
  exact kk O res (gd_some ht).2 H1 locs1 ls hP1 hS1 hl
theorem r_last {q ar n t0 : Nat} {i : Int32} {x : Int64} (hd : decode cc pc = .ok (.lastore, 1)) (hI : hasL w q ar n t0) (kk : T E w d cc nL own rt Qc t (sL σ q i.toNatClampNeg x) (pc + 1) lv st) : T E w d cc nL own rt Qc (gd (ib i n) t) σ pc lv (.long x :: .int i :: .ref ar :: st) := by
  intro O res ht H locs ls hP hS hl
  obtain ⟨cA, h0, h1, h2⟩ := hI
  refine va_last O.1 O.2.1 O.2.2.2.2.2.1 hP (O.2.2.2.2.2.2.2.1.1 σ) hS q t0 (h1 σ) h0 (ib_in (gd_some ht).1) hd (fun H1 locs1 hP1 hD1 hS1 => ?_)
  rw [h2] at hP1
  exact kk O res (gd_some ht).2 H1 locs1 ls hP1 hS1 hl
def cpOk (sp dp n : Int32) (n0 n1 : Nat) : Bool := decide (¬ sp < 0 ∧ ¬ dp < 0 ∧ ¬ n < 0 ∧ sp.toNatClampNeg + n.toNatClampNeg ≤ n0 ∧ dp.toNatClampNeg + n.toNatClampNeg ≤ n1)
def cpFit (ty : FieldType) (f : Nat → Int32) (sp n : Int32) : Bool := (List.range n.toNatClampNeg).all (fun i => fits ty (.int (f (sp.toNatClampNeg + i))))
def cp {α : Type} (ty : FieldType) (σ : Sg) (q0 n0 : Nat) (sp : Int32) (q1 n1 : Nat) (dp n : Int32) (k : Sg → Option α) : Option α := gd (cpOk sp dp n n0 n1 && cpFit ty (σ.2.1 q0) sp n) (k (sR σ q1 (va_cpy (σ.2.1 q0) (σ.2.1 q1) sp.toNatClampNeg dp.toNatClampNeg n.toNatClampNeg)))
theorem r_copy {q0 a0 n0 t0 q1 a1 n1 t1 : Nat} {sp dp n : Int32} {ty : FieldType} {index : Nat} {kt : Sg → Option α} (hd : decode cc pc = .ok (.invokestatic index, 3)) (hlk : Cond.methodLink own index arraycopyName ∈ lw_g) (h0 : hasI w q0 a0 n0 t0 ty) (h1 : hasI w q1 a1 n1 t1 ty) (hp : refKind ty = false) (hsum : (st.map fun v => v.category).sum ≤ 8) (kk : ∀ u : Sg, T E w d cc nL own rt Qc (kt u) u (pc + 3) lv st) : T E w d cc nL own rt Qc (cp ty σ q0 n0 sp q1 n1 dp n kt) σ pc lv (.int n :: .int dp :: .ref a1 :: .int sp :: .ref a0 :: st) := by
  intro O res ht H locs ls hP hS hl
  obtain ⟨c0, g0, g1, g2⟩ := h0
  obtain ⟨c1, f0, f1, f2⟩ := h1
  obtain ⟨hb, ht⟩ := gd_some ht
  simp only [Bool.and_eq_true, cpOk, decide_eq_true_eq] at hb
  obtain ⟨⟨b1, b2, b3, b4, b5⟩, b6⟩ := hb
  have hRm := O.2.2.2.2.2.2.2.2.1
  refine va_copyi O.1 O.2.1 (O.2.2.1.trans hl.1.symm) O.2.2.2.1 (O.2.2.2.2.1 _ hlk) (O.2.2.2.2.1 (.native arraycopyName) tbl_cp.1) (O.2.2.2.2.1 (.static arraycopyName) tbl_cp.2.1) (O.2.2.2.2.1 (.initialized "java/lang/System") tbl_cp.2.2) O.2.2.2.2.2.1 hP (O.2.2.2.2.2.2.2.1.1 σ) hS q0 q1 t0 t1 (g1 σ) (f1 σ) g0 f0 hp b1 b2 b3 b4 b5 (fun i hi => List.all_eq_true.mp b6 i (List.mem_range.mpr hi)) (by rw [hRm]; exact Nat.le_add_left 1 d) (by rw [hRm]; exact cp_room d hsum) hd (fun H1 locs1 hP1 hD1 hS1 => ?_)
  rw [f2] at hP1
  exact kk _ O res ht H1 locs1 ls hP1 hS1 hl
theorem r_mmax {x y : Int32} {index : Nat} (hd : decode cc pc = .ok (.invokestatic index, 3)) (hlk : Cond.methodLink own index Lib.Math.max.name ∈ lw_g) (hsum : (st.map fun v => v.category).sum ≤ 8) (k : T E w d cc nL own rt Qc t σ (pc + 3) lv (.int (if x < y then y else x) :: st)) : T E w d cc nL own rt Qc t σ pc lv (.int y :: .int x :: st) := by
  intro O res ht H locs ls hP hS hl
  have hRm := O.2.2.2.2.2.2.2.2.1
  exact va_mmax O.1 O.2.1 (O.2.2.1.trans hl.1.symm) O.2.2.2.1 (O.2.2.2.2.1 _ hlk) (O.2.2.2.2.1 _ tbl_mm.1) (O.2.2.2.2.1 _ tbl_mm.2.2.1) (O.2.2.2.2.1 _ tbl_mm.2.1) (by rw [hRm]; exact Nat.le_add_left 1 d) (by rw [hRm]; show _ + 13 ≤ 64 * (d + 1); omega) (by rw [hRm]; exact Nat.le_refl 0) (by rw [hRm]; exact Nat.le_refl 0) hd (k O res ht H locs ls hP hS hl)
theorem r_mmin {x y : Int32} {index : Nat} (hd : decode cc pc = .ok (.invokestatic index, 3)) (hlk : Cond.methodLink own index Lib.Math.min.name ∈ lw_g) (hsum : (st.map fun v => v.category).sum ≤ 8) (k : T E w d cc nL own rt Qc t σ (pc + 3) lv (.int (if y < x then y else x) :: st)) : T E w d cc nL own rt Qc t σ pc lv (.int y :: .int x :: st) := by
  intro O res ht H locs ls hP hS hl
  have hRm := O.2.2.2.2.2.2.2.2.1
  exact va_mmin O.1 O.2.1 (O.2.2.1.trans hl.1.symm) O.2.2.2.1 (O.2.2.2.2.1 _ hlk) (O.2.2.2.2.1 _ tbl_mm.2.2.2.1) (O.2.2.2.2.1 _ tbl_mm.2.2.1) (O.2.2.2.2.1 _ tbl_mm.2.2.2.2) (by rw [hRm]; exact Nat.le_add_left 1 d) (by rw [hRm]; show _ + 13 ≤ 64 * (d + 1); omega) (by rw [hRm]; exact Nat.le_refl 0) (by rw [hRm]; exact Nat.le_refl 0) hd (k O res ht H locs ls hP hS hl)
theorem r_iret {x : Int32} (hd : decode cc pc = .ok (.ireturn, 1)) : T E w d cc nL own (some .int) (QI w) (some (x, σ)) σ pc lv [.int x] := by
  intro O res ht H locs ls hP hS hl
  cases ht
  exact W.iret (v := x) O.1 O.2.1 O.2.2.2.2.2.2.2.2.2.1 (fun t ht hW => ⟨⟨x, σ, rfl, ⟨rfl, rfl⟩, (show va_P w.2.1 vwCl (w.1 σ) t.heap by rw [ht]; exact hP)⟩, hS.F ht⟩) hS.2.2 hd (hlocks := O.2.2.2.2.2.2.2.2.2.2)
theorem r_oret {x : Int32} (hd : decode cc pc = .ok (.ireturn, 1)) : T E w d cc nL own (some .int) (QO w σ) (some x) σ pc lv [.int x] := by
  intro O res ht H locs ls hP hS hl
  cases ht
  exact W.iret (v := x) O.1 O.2.1 O.2.2.2.2.2.2.2.2.2.1 (fun t ht hW => ⟨⟨x, σ, rfl, ⟨rfl, rfl⟩, (show va_P w.2.1 vwCl (w.1 σ) t.heap by rw [ht]; exact hP)⟩, hS.F ht⟩) hS.2.2 hd (hlocks := O.2.2.2.2.2.2.2.2.2.2)
theorem r_lret {x : Int64} (hd : decode cc pc = .ok (.lreturn, 1)) : T E w d cc nL own (some .long) (QL w) (some (x, σ)) σ pc lv [.long x] := by
  intro O res ht H locs ls hP hS hl
  cases ht
  exact W.lret (v := x) O.1 O.2.1 O.2.2.2.2.2.2.2.2.2.1 (fun t ht hW => ⟨⟨x, σ, rfl, ⟨rfl, rfl⟩, (show va_P w.2.1 vwCl (w.1 σ) t.heap by rw [ht]; exact hP)⟩, hS.F ht⟩) hS.2.2 hd (hlocks := O.2.2.2.2.2.2.2.2.2.2)
theorem r_jret {x : Int64} (hd : decode cc pc = .ok (.lreturn, 1)) : T E w d cc nL own (some .long) (QJ w σ) (some x) σ pc lv [.long x] := by
  intro O res ht H locs ls hP hS hl
  cases ht
  exact W.lret (v := x) O.1 O.2.1 O.2.2.2.2.2.2.2.2.2.1 (fun t ht hW => ⟨⟨x, σ, rfl, ⟨rfl, rfl⟩, (show va_P w.2.1 vwCl (w.1 σ) t.heap by rw [ht]; exact hP)⟩, hS.F ht⟩) hS.2.2 hd (hlocks := O.2.2.2.2.2.2.2.2.2.2)
theorem r_zret {x : Int32} (hd : decode cc pc = .ok (.ireturn, 1)) (hn : narrow .boolean (.int x) = .int x ∧ fits .boolean (.int x) = true) : T E w d cc nL own (some .boolean) (QI w) (some (x, σ)) σ pc lv [.int x] := by
  intro O res ht H locs ls hP hS hl
  cases ht
  exact W.zret (v := x) O.1 O.2.1 O.2.2.2.2.2.2.2.2.2.1 hn.1 (fun t ht hW => ⟨⟨x, σ, rfl, ⟨rfl, rfl⟩, (show va_P w.2.1 vwCl (w.1 σ) t.heap by rw [ht]; exact hP)⟩, hS.F ht⟩) hS.2.2 hd (hlocks := O.2.2.2.2.2.2.2.2.2.2)
theorem r_pret {x : Int32} (hd : decode cc pc = .ok (.ireturn, 1)) (hn : narrow .boolean (.int x) = .int x ∧ fits .boolean (.int x) = true) : T E w d cc nL own (some .boolean) (QO w σ) (some x) σ pc lv [.int x] := by
  intro O res ht H locs ls hP hS hl
  cases ht
  exact W.zret (v := x) O.1 O.2.1 O.2.2.2.2.2.2.2.2.2.1 hn.1 (fun t ht hW => ⟨⟨x, σ, rfl, ⟨rfl, rfl⟩, (show va_P w.2.1 vwCl (w.1 σ) t.heap by rw [ht]; exact hP)⟩, hS.F ht⟩) hS.2.2 hd (hlocks := O.2.2.2.2.2.2.2.2.2.2)
theorem r_vret (hd : decode cc pc = .ok (.return_, 1)) : T E w d cc nL own none (QV w) (some σ) σ pc lv [] := by
  intro O res ht H locs ls hP hS hl
  cases ht
  exact W.vret O.1 O.2.1 O.2.2.2.2.2.2.2.2.2.1 (fun t ht hW => ⟨⟨σ, rfl, rfl, (show va_P w.2.1 vwCl (w.1 σ) t.heap by rw [ht]; exact hP)⟩, hS.F ht⟩) hS.2.2 hd (hlocks := O.2.2.2.2.2.2.2.2.2.2)
/-- what the tables say of a method: its code, its class's start, how many parameters -/
def crd (y : MethodName) (cy : ByteArray) (mL : Nat) (rt : Option FieldType) (n : Nat) : Prop := Cond.code y cy mL rt ∈ lw_g ∧ Cond.initialized y.cls ∈ lw_g ∧ (y.cls ≠ "java/lang/invoke/MethodHandle" ∧ y.cls ≠ "java/lang/invoke/VarHandle" ∧ (parseMethodDescriptor y.desc).map (fun d => d.parameters.length) = some n) ∧ mL ≤ 40
def crdV (y : MethodName) (C : String) (cy : ByteArray) (mL : Nat) (rt : Option FieldType) (n : Nat) : Prop := crd y cy mL rt n ∧ Cond.instanceMethod y ∈ lw_g ∧ Cond.selects C y y ∈ lw_g
def crdS (y : MethodName) (cy : ByteArray) (mL : Nat) (rt : Option FieldType) (n : Nat) : Prop := crd y cy mL rt n ∧ Cond.static y ∈ lw_g
def hasO (w : Wo) (q a ci : Nat) : Prop := ∀ σ, ∃ fs : List Value, (w.1 σ)[q]? = some (a, .inr (ci, fs))
theorem pw_blind {w : Wo} (hW : okW w) (As : List Value) (σ : Sg) : FrameBlind (va_Pc As (PW w σ)) := by
  intro a U g mk q
  obtain ⟨q0, qP, qK, qS⟩ := q
  exact ⟨q0, qP, va_K.moved (u := U) (U := U.calling g mk a) (Vm.Alike.refl U.vm) qK, hW.2 U (U.calling g mk a) U.heap U.heap (Vm.Alike.refl U.vm) (fun _ _ _ => rfl) qS⟩
theorem cb_of {y : MethodName} {cy : ByteArray} {mL n d d2 index : Nat} {rt2 : Option FieldType} (O : okE E w d cc nL own rt) (hc : crd y cy mL rt2 n) (hd2 : d2 + 1 ≤ d) (hlk : Cond.methodLink own index y ∈ lw_g) : CallB E.2.2.2.1 E.2.2.2.2.1 E.2.2.2.2.2.2.1 own index y cy mL rt2 (wsG y cy mL rt2) (rmL d2) 0 0 n := by
  have hRm := O.2.2.2.2.2.2.2.2.1
  refine callB_of n O.2.2.2.2.1 (gIn hc.1) rfl rfl rfl (O.2.2.2.2.1 _ hc.2.1) (O.2.2.2.2.1 _ hlk) hc.2.2.1 ?_
  rw [hRm]
  have h40 := hc.2.2.2
  exact ⟨by show d2 + 1 + 1 ≤ d + 1; omega, by show 8 + (mL + 11) + 64 * (d2 + 1) ≤ 64 * (d + 1); omega⟩
theorem hf00 (O : okE E w d cc nL own rt) : 0 + 0 ≤ E.2.2.2.1.cells ∧ 0 + 0 ≤ E.2.2.2.1.slots := by
  rw [O.2.2.2.2.2.2.2.2.1]
  exact ⟨Nat.le_refl 0, Nat.le_refl 0⟩
theorem r_cvI {q ar ci : Nat} {C : String} {TU : u_T} {NU : Nat} (As : List Value) {y : MethodName} {cy : ByteArray} {mL n d2 index : Nat} {rt2 : Option FieldType} {f : Option (Int32 × Sg)} {kt : Int32 → Sg → Option α} {st0 : List Value} (hd : decode cc pc = .ok (.invokevirtual index, 3)) (hM : MQT (QI w) w d2 y cy mL rt2 (.ref ar :: As) σ f) (hc : crdV y C cy mL rt2 n) (hci : vwCl[ci]? = some (C, TU, NU)) (hO : hasO w q ar ci) (hlk : Cond.methodLink own index y ∈ lw_g) (hd2 : d2 + 1 ≤ d) (hn : As.length = n) (hst : st0 = As.reverse ++ .ref ar :: st) (hsum : (st.map fun v => v.category).sum ≤ 8) (kk : ∀ (r : Int32) (u : Sg), T E w d cc nL own rt Qc (kt r u) u (pc + 3) lv (.int r :: st)) : T E w d cc nL own rt Qc (bI f kt) σ pc lv st0 := by
  intro O res ht H locs ls hP hS hl
  obtain ⟨z, hz, ht⟩ := bI_some ht
  subst hst
  have hSt : ∀ U : State, U.heap = H → E.2.2.2.2.1.WarmedH U.vm → PW w σ U := fun U hU hW => ⟨by rw [hU]; exact hP, va_K.moved hW.alike O.2.2.2.2.2.1, by rw [hU]; exact O.2.2.2.2.2.2.2.1.2 _ _ _ _ hW.alike hS.2.1 O.2.2.2.2.2.2.1⟩
  obtain ⟨fs, hfs⟩ := hO σ
  refine va_calli (va_runV (As := As) (rest := st) ⟨O.1, O.2.1, O.2.2.1, O.2.2.2.1, O.2.2.2.2.1⟩ (hM E.2.1 O.2.2.2.2.2.2.2.1 z hz) ⟨cb_of O hc.1 hd2 hlk, O.2.2.2.2.1 _ hc.2.1, O.2.2.2.2.1 _ hc.2.2⟩ ⟨pw_blind O.2.2.2.2.2.2.2.1 _ σ, va_recv O.2.2.2.2.2.1 hP hci hfs, fun U hU hW => ⟨rfl, hSt U hU hW⟩⟩ rfl hn hl.1 rfl (lv_room hsum) hd (hf00 O)) hS (fun q _ h => h) (fun q h => h) (fun r u t H1 locs1 ht1 hvm hw hB hz1 hk1 hS1 => ?_)
  obtain ⟨rfl, rfl⟩ := hw
  have hB' : va_P w.2.1 vwCl (w.1 _) t.heap := hB
  rw [ht1] at hB'
  exact kk _ _ O res ht H1 locs1 ls hB' hS1 hl
theorem r_cvL {q ar ci : Nat} {C : String} {TU : u_T} {NU : Nat} (As : List Value) {y : MethodName} {cy : ByteArray} {mL n d2 index : Nat} {rt2 : Option FieldType} {f : Option (Int64 × Sg)} {kt : Int64 → Sg → Option α} {st0 : List Value} (hd : decode cc pc = .ok (.invokevirtual index, 3)) (hM : MQT (QL w) w d2 y cy mL rt2 (.ref ar :: As) σ f) (hc : crdV y C cy mL rt2 n) (hci : vwCl[ci]? = some (C, TU, NU)) (hO : hasO w q ar ci) (hlk : Cond.methodLink own index y ∈ lw_g) (hd2 : d2 + 1 ≤ d) (hn : As.length = n) (hst : st0 = As.reverse ++ .ref ar :: st) (hsum : (st.map fun v => v.category).sum ≤ 8) (kk : ∀ (r : Int64) (u : Sg), T E w d cc nL own rt Qc (kt r u) u (pc + 3) lv (.long r :: st)) : T E w d cc nL own rt Qc (bL f kt) σ pc lv st0 := by
  intro O res ht H locs ls hP hS hl
  obtain ⟨z, hz, ht⟩ := bL_some ht
  subst hst
  have hSt : ∀ U : State, U.heap = H → E.2.2.2.2.1.WarmedH U.vm → PW w σ U := fun U hU hW => ⟨by rw [hU]; exact hP, va_K.moved hW.alike O.2.2.2.2.2.1, by rw [hU]; exact O.2.2.2.2.2.2.2.1.2 _ _ _ _ hW.alike hS.2.1 O.2.2.2.2.2.2.1⟩
  obtain ⟨fs, hfs⟩ := hO σ
  refine va_calll (va_runV (As := As) (rest := st) ⟨O.1, O.2.1, O.2.2.1, O.2.2.2.1, O.2.2.2.2.1⟩ (hM E.2.1 O.2.2.2.2.2.2.2.1 z hz) ⟨cb_of O hc.1 hd2 hlk, O.2.2.2.2.1 _ hc.2.1, O.2.2.2.2.1 _ hc.2.2⟩ ⟨pw_blind O.2.2.2.2.2.2.2.1 _ σ, va_recv O.2.2.2.2.2.1 hP hci hfs, fun U hU hW => ⟨rfl, hSt U hU hW⟩⟩ rfl hn hl.1 rfl (lv_room hsum) hd (hf00 O)) hS (fun q _ h => h) (fun q h => h) (fun r u t H1 locs1 ht1 hvm hw hB hz1 hk1 hS1 => ?_)
  obtain ⟨rfl, rfl⟩ := hw
  have hB' : va_P w.2.1 vwCl (w.1 _) t.heap := hB
  rw [ht1] at hB'
  exact kk _ _ O res ht H1 locs1 ls hB' hS1 hl
theorem r_cvO {q ar ci : Nat} {C : String} {TU : u_T} {NU : Nat} (As : List Value) {y : MethodName} {cy : ByteArray} {mL n d2 index : Nat} {rt2 : Option FieldType} {f : Option (Int32)} {kt : Int32 → Option α} {st0 : List Value} (hd : decode cc pc = .ok (.invokevirtual index, 3)) (hM : MQT (QO w σ) w d2 y cy mL rt2 (.ref ar :: As) σ f) (hc : crdV y C cy mL rt2 n) (hci : vwCl[ci]? = some (C, TU, NU)) (hO : hasO w q ar ci) (hlk : Cond.methodLink own index y ∈ lw_g) (hd2 : d2 + 1 ≤ d) (hn : As.length = n) (hst : st0 = As.reverse ++ .ref ar :: st) (hsum : (st.map fun v => v.category).sum ≤ 8) (kk : ∀ (r : Int32), T E w d cc nL own rt Qc (kt r) σ (pc + 3) lv (.int r :: st)) : T E w d cc nL own rt Qc (bO f kt) σ pc lv st0 := by
  intro O res ht H locs ls hP hS hl
  obtain ⟨z, hz, ht⟩ := bO_some ht
  subst hst
  have hSt : ∀ U : State, U.heap = H → E.2.2.2.2.1.WarmedH U.vm → PW w σ U := fun U hU hW => ⟨by rw [hU]; exact hP, va_K.moved hW.alike O.2.2.2.2.2.1, by rw [hU]; exact O.2.2.2.2.2.2.2.1.2 _ _ _ _ hW.alike hS.2.1 O.2.2.2.2.2.2.1⟩
  obtain ⟨fs, hfs⟩ := hO σ
  refine va_calli (va_runV (As := As) (rest := st) ⟨O.1, O.2.1, O.2.2.1, O.2.2.2.1, O.2.2.2.2.1⟩ (hM E.2.1 O.2.2.2.2.2.2.2.1 z hz) ⟨cb_of O hc.1 hd2 hlk, O.2.2.2.2.1 _ hc.2.1, O.2.2.2.2.1 _ hc.2.2⟩ ⟨pw_blind O.2.2.2.2.2.2.2.1 _ σ, va_recv O.2.2.2.2.2.1 hP hci hfs, fun U hU hW => ⟨rfl, hSt U hU hW⟩⟩ rfl hn hl.1 rfl (lv_room hsum) hd (hf00 O)) hS (fun q _ h => h) (fun q h => h) (fun r u t H1 locs1 ht1 hvm hw hB hz1 hk1 hS1 => ?_)
  obtain ⟨rfl, rfl⟩ := hw
  have hB' : va_P w.2.1 vwCl (w.1 _) t.heap := hB
  rw [ht1] at hB'
  exact kk _ O res ht H1 locs1 ls hB' hS1 hl
theorem r_cvJ {q ar ci : Nat} {C : String} {TU : u_T} {NU : Nat} (As : List Value) {y : MethodName} {cy : ByteArray} {mL n d2 index : Nat} {rt2 : Option FieldType} {f : Option (Int64)} {kt : Int64 → Option α} {st0 : List Value} (hd : decode cc pc = .ok (.invokevirtual index, 3)) (hM : MQT (QJ w σ) w d2 y cy mL rt2 (.ref ar :: As) σ f) (hc : crdV y C cy mL rt2 n) (hci : vwCl[ci]? = some (C, TU, NU)) (hO : hasO w q ar ci) (hlk : Cond.methodLink own index y ∈ lw_g) (hd2 : d2 + 1 ≤ d) (hn : As.length = n) (hst : st0 = As.reverse ++ .ref ar :: st) (hsum : (st.map fun v => v.category).sum ≤ 8) (kk : ∀ (r : Int64), T E w d cc nL own rt Qc (kt r) σ (pc + 3) lv (.long r :: st)) : T E w d cc nL own rt Qc (bJ f kt) σ pc lv st0 := by
  intro O res ht H locs ls hP hS hl
  obtain ⟨z, hz, ht⟩ := bJ_some ht
  subst hst
  have hSt : ∀ U : State, U.heap = H → E.2.2.2.2.1.WarmedH U.vm → PW w σ U := fun U hU hW => ⟨by rw [hU]; exact hP, va_K.moved hW.alike O.2.2.2.2.2.1, by rw [hU]; exact O.2.2.2.2.2.2.2.1.2 _ _ _ _ hW.alike hS.2.1 O.2.2.2.2.2.2.1⟩
  obtain ⟨fs, hfs⟩ := hO σ
  refine va_calll (va_runV (As := As) (rest := st) ⟨O.1, O.2.1, O.2.2.1, O.2.2.2.1, O.2.2.2.2.1⟩ (hM E.2.1 O.2.2.2.2.2.2.2.1 z hz) ⟨cb_of O hc.1 hd2 hlk, O.2.2.2.2.1 _ hc.2.1, O.2.2.2.2.1 _ hc.2.2⟩ ⟨pw_blind O.2.2.2.2.2.2.2.1 _ σ, va_recv O.2.2.2.2.2.1 hP hci hfs, fun U hU hW => ⟨rfl, hSt U hU hW⟩⟩ rfl hn hl.1 rfl (lv_room hsum) hd (hf00 O)) hS (fun q _ h => h) (fun q h => h) (fun r u t H1 locs1 ht1 hvm hw hB hz1 hk1 hS1 => ?_)
  obtain ⟨rfl, rfl⟩ := hw
  have hB' : va_P w.2.1 vwCl (w.1 _) t.heap := hB
  rw [ht1] at hB'
  exact kk _ O res ht H1 locs1 ls hB' hS1 hl
theorem r_cvV {q ar ci : Nat} {C : String} {TU : u_T} {NU : Nat} (As : List Value) {y : MethodName} {cy : ByteArray} {mL n d2 index : Nat} {rt2 : Option FieldType} {f : Option (Sg)} {kt : Sg → Option α} {st0 : List Value} (hd : decode cc pc = .ok (.invokevirtual index, 3)) (hM : MQT (QV w) w d2 y cy mL rt2 (.ref ar :: As) σ f) (hc : crdV y C cy mL rt2 n) (hci : vwCl[ci]? = some (C, TU, NU)) (hO : hasO w q ar ci) (hlk : Cond.methodLink own index y ∈ lw_g) (hd2 : d2 + 1 ≤ d) (hn : As.length = n) (hst : st0 = As.reverse ++ .ref ar :: st) (hsum : (st.map fun v => v.category).sum ≤ 8) (kk : ∀ (u : Sg), T E w d cc nL own rt Qc (kt u) u (pc + 3) lv st) : T E w d cc nL own rt Qc (bV f kt) σ pc lv st0 := by
  intro O res ht H locs ls hP hS hl
  obtain ⟨z, hz, ht⟩ := bV_some ht
  subst hst
  have hSt : ∀ U : State, U.heap = H → E.2.2.2.2.1.WarmedH U.vm → PW w σ U := fun U hU hW => ⟨by rw [hU]; exact hP, va_K.moved hW.alike O.2.2.2.2.2.1, by rw [hU]; exact O.2.2.2.2.2.2.2.1.2 _ _ _ _ hW.alike hS.2.1 O.2.2.2.2.2.2.1⟩
  obtain ⟨fs, hfs⟩ := hO σ
  refine va_callv (va_runV (As := As) (rest := st) ⟨O.1, O.2.1, O.2.2.1, O.2.2.2.1, O.2.2.2.2.1⟩ (hM E.2.1 O.2.2.2.2.2.2.2.1 z hz) ⟨cb_of O hc.1 hd2 hlk, O.2.2.2.2.1 _ hc.2.1, O.2.2.2.2.1 _ hc.2.2⟩ ⟨pw_blind O.2.2.2.2.2.2.2.1 _ σ, va_recv O.2.2.2.2.2.1 hP hci hfs, fun U hU hW => ⟨rfl, hSt U hU hW⟩⟩ rfl hn hl.1 rfl (lv_room hsum) hd (hf00 O)) hS (fun q _ h => h) (fun q h => h) (fun u t H1 locs1 ht1 hvm hw hB hz1 hk1 hS1 => ?_)
  subst hw
  have hB' : va_P w.2.1 vwCl (w.1 _) t.heap := hB
  rw [ht1] at hB'
  exact kk _ O res ht H1 locs1 ls hB' hS1 hl
theorem r_csI (As : List Value) {y : MethodName} {cy : ByteArray} {mL n d2 index : Nat} {rt2 : Option FieldType} {f : Option (Int32 × Sg)} {kt : Int32 → Sg → Option α} {st0 : List Value} (hd : decode cc pc = .ok (.invokestatic index, 3)) (hM : MQT (QI w) w d2 y cy mL rt2 As σ f) (hc : crdS y cy mL rt2 n) (hlk : Cond.methodLink own index y ∈ lw_g) (hd2 : d2 + 1 ≤ d) (hn : As.length = n) (hst : st0 = As.reverse ++ st) (hsum : (st.map fun v => v.category).sum ≤ 8) (kk : ∀ (r : Int32) (u : Sg), T E w d cc nL own rt Qc (kt r u) u (pc + 3) lv (.int r :: st)) : T E w d cc nL own rt Qc (bI f kt) σ pc lv st0 := by
  intro O res ht H locs ls hP hS hl
  obtain ⟨z, hz, ht⟩ := bI_some ht
  subst hst
  have hSt : ∀ U : State, U.heap = H → E.2.2.2.2.1.WarmedH U.vm → PW w σ U := fun U hU hW => ⟨by rw [hU]; exact hP, va_K.moved hW.alike O.2.2.2.2.2.1, by rw [hU]; exact O.2.2.2.2.2.2.2.1.2 _ _ _ _ hW.alike hS.2.1 O.2.2.2.2.2.2.1⟩
  refine va_calli (va_runS (As := As) (rest := st) ⟨O.1, O.2.1, O.2.2.1, O.2.2.2.1, O.2.2.2.2.1⟩ (hM E.2.1 O.2.2.2.2.2.2.2.1 z hz) ⟨cb_of O hc.1 hd2 hlk, O.2.2.2.2.1 _ hc.2⟩ ⟨pw_blind O.2.2.2.2.2.2.2.1 _ σ, fun U hU hW => ⟨rfl, hSt U hU hW⟩⟩ rfl hn hl.1 rfl (lv_room hsum) hd (hf00 O)) hS (fun q _ h => h) (fun q h => h) (fun r u t H1 locs1 ht1 hvm hw hB hz1 hk1 hS1 => ?_)
  obtain ⟨rfl, rfl⟩ := hw
  have hB' : va_P w.2.1 vwCl (w.1 _) t.heap := hB
  rw [ht1] at hB'
  exact kk _ _ O res ht H1 locs1 ls hB' hS1 hl
theorem r_csL (As : List Value) {y : MethodName} {cy : ByteArray} {mL n d2 index : Nat} {rt2 : Option FieldType} {f : Option (Int64 × Sg)} {kt : Int64 → Sg → Option α} {st0 : List Value} (hd : decode cc pc = .ok (.invokestatic index, 3)) (hM : MQT (QL w) w d2 y cy mL rt2 As σ f) (hc : crdS y cy mL rt2 n) (hlk : Cond.methodLink own index y ∈ lw_g) (hd2 : d2 + 1 ≤ d) (hn : As.length = n) (hst : st0 = As.reverse ++ st) (hsum : (st.map fun v => v.category).sum ≤ 8) (kk : ∀ (r : Int64) (u : Sg), T E w d cc nL own rt Qc (kt r u) u (pc + 3) lv (.long r :: st)) : T E w d cc nL own rt Qc (bL f kt) σ pc lv st0 := by
  intro O res ht H locs ls hP hS hl
  obtain ⟨z, hz, ht⟩ := bL_some ht
  subst hst
  have hSt : ∀ U : State, U.heap = H → E.2.2.2.2.1.WarmedH U.vm → PW w σ U := fun U hU hW => ⟨by rw [hU]; exact hP, va_K.moved hW.alike O.2.2.2.2.2.1, by rw [hU]; exact O.2.2.2.2.2.2.2.1.2 _ _ _ _ hW.alike hS.2.1 O.2.2.2.2.2.2.1⟩
  refine va_calll (va_runS (As := As) (rest := st) ⟨O.1, O.2.1, O.2.2.1, O.2.2.2.1, O.2.2.2.2.1⟩ (hM E.2.1 O.2.2.2.2.2.2.2.1 z hz) ⟨cb_of O hc.1 hd2 hlk, O.2.2.2.2.1 _ hc.2⟩ ⟨pw_blind O.2.2.2.2.2.2.2.1 _ σ, fun U hU hW => ⟨rfl, hSt U hU hW⟩⟩ rfl hn hl.1 rfl (lv_room hsum) hd (hf00 O)) hS (fun q _ h => h) (fun q h => h) (fun r u t H1 locs1 ht1 hvm hw hB hz1 hk1 hS1 => ?_)
  obtain ⟨rfl, rfl⟩ := hw
  have hB' : va_P w.2.1 vwCl (w.1 _) t.heap := hB
  rw [ht1] at hB'
  exact kk _ _ O res ht H1 locs1 ls hB' hS1 hl
theorem r_csO (As : List Value) {y : MethodName} {cy : ByteArray} {mL n d2 index : Nat} {rt2 : Option FieldType} {f : Option (Int32)} {kt : Int32 → Option α} {st0 : List Value} (hd : decode cc pc = .ok (.invokestatic index, 3)) (hM : MQT (QO w σ) w d2 y cy mL rt2 As σ f) (hc : crdS y cy mL rt2 n) (hlk : Cond.methodLink own index y ∈ lw_g) (hd2 : d2 + 1 ≤ d) (hn : As.length = n) (hst : st0 = As.reverse ++ st) (hsum : (st.map fun v => v.category).sum ≤ 8) (kk : ∀ (r : Int32), T E w d cc nL own rt Qc (kt r) σ (pc + 3) lv (.int r :: st)) : T E w d cc nL own rt Qc (bO f kt) σ pc lv st0 := by
  intro O res ht H locs ls hP hS hl
  obtain ⟨z, hz, ht⟩ := bO_some ht
  subst hst
  have hSt : ∀ U : State, U.heap = H → E.2.2.2.2.1.WarmedH U.vm → PW w σ U := fun U hU hW => ⟨by rw [hU]; exact hP, va_K.moved hW.alike O.2.2.2.2.2.1, by rw [hU]; exact O.2.2.2.2.2.2.2.1.2 _ _ _ _ hW.alike hS.2.1 O.2.2.2.2.2.2.1⟩
  refine va_calli (va_runS (As := As) (rest := st) ⟨O.1, O.2.1, O.2.2.1, O.2.2.2.1, O.2.2.2.2.1⟩ (hM E.2.1 O.2.2.2.2.2.2.2.1 z hz) ⟨cb_of O hc.1 hd2 hlk, O.2.2.2.2.1 _ hc.2⟩ ⟨pw_blind O.2.2.2.2.2.2.2.1 _ σ, fun U hU hW => ⟨rfl, hSt U hU hW⟩⟩ rfl hn hl.1 rfl (lv_room hsum) hd (hf00 O)) hS (fun q _ h => h) (fun q h => h) (fun r u t H1 locs1 ht1 hvm hw hB hz1 hk1 hS1 => ?_)
  obtain ⟨rfl, rfl⟩ := hw
  have hB' : va_P w.2.1 vwCl (w.1 _) t.heap := hB
  rw [ht1] at hB'
  exact kk _ O res ht H1 locs1 ls hB' hS1 hl
theorem r_csJ (As : List Value) {y : MethodName} {cy : ByteArray} {mL n d2 index : Nat} {rt2 : Option FieldType} {f : Option (Int64)} {kt : Int64 → Option α} {st0 : List Value} (hd : decode cc pc = .ok (.invokestatic index, 3)) (hM : MQT (QJ w σ) w d2 y cy mL rt2 As σ f) (hc : crdS y cy mL rt2 n) (hlk : Cond.methodLink own index y ∈ lw_g) (hd2 : d2 + 1 ≤ d) (hn : As.length = n) (hst : st0 = As.reverse ++ st) (hsum : (st.map fun v => v.category).sum ≤ 8) (kk : ∀ (r : Int64), T E w d cc nL own rt Qc (kt r) σ (pc + 3) lv (.long r :: st)) : T E w d cc nL own rt Qc (bJ f kt) σ pc lv st0 := by
  intro O res ht H locs ls hP hS hl
  obtain ⟨z, hz, ht⟩ := bJ_some ht
  subst hst
  have hSt : ∀ U : State, U.heap = H → E.2.2.2.2.1.WarmedH U.vm → PW w σ U := fun U hU hW => ⟨by rw [hU]; exact hP, va_K.moved hW.alike O.2.2.2.2.2.1, by rw [hU]; exact O.2.2.2.2.2.2.2.1.2 _ _ _ _ hW.alike hS.2.1 O.2.2.2.2.2.2.1⟩
  refine va_calll (va_runS (As := As) (rest := st) ⟨O.1, O.2.1, O.2.2.1, O.2.2.2.1, O.2.2.2.2.1⟩ (hM E.2.1 O.2.2.2.2.2.2.2.1 z hz) ⟨cb_of O hc.1 hd2 hlk, O.2.2.2.2.1 _ hc.2⟩ ⟨pw_blind O.2.2.2.2.2.2.2.1 _ σ, fun U hU hW => ⟨rfl, hSt U hU hW⟩⟩ rfl hn hl.1 rfl (lv_room hsum) hd (hf00 O)) hS (fun q _ h => h) (fun q h => h) (fun r u t H1 locs1 ht1 hvm hw hB hz1 hk1 hS1 => ?_)
  obtain ⟨rfl, rfl⟩ := hw
  have hB' : va_P w.2.1 vwCl (w.1 _) t.heap := hB
  rw [ht1] at hB'
  exact kk _ O res ht H1 locs1 ls hB' hS1 hl
theorem r_csV (As : List Value) {y : MethodName} {cy : ByteArray} {mL n d2 index : Nat} {rt2 : Option FieldType} {f : Option (Sg)} {kt : Sg → Option α} {st0 : List Value} (hd : decode cc pc = .ok (.invokestatic index, 3)) (hM : MQT (QV w) w d2 y cy mL rt2 As σ f) (hc : crdS y cy mL rt2 n) (hlk : Cond.methodLink own index y ∈ lw_g) (hd2 : d2 + 1 ≤ d) (hn : As.length = n) (hst : st0 = As.reverse ++ st) (hsum : (st.map fun v => v.category).sum ≤ 8) (kk : ∀ (u : Sg), T E w d cc nL own rt Qc (kt u) u (pc + 3) lv st) : T E w d cc nL own rt Qc (bV f kt) σ pc lv st0 := by
  intro O res ht H locs ls hP hS hl
  obtain ⟨z, hz, ht⟩ := bV_some ht
  subst hst
  have hSt : ∀ U : State, U.heap = H → E.2.2.2.2.1.WarmedH U.vm → PW w σ U := fun U hU hW => ⟨by rw [hU]; exact hP, va_K.moved hW.alike O.2.2.2.2.2.1, by rw [hU]; exact O.2.2.2.2.2.2.2.1.2 _ _ _ _ hW.alike hS.2.1 O.2.2.2.2.2.2.1⟩
  refine va_callv (va_runS (As := As) (rest := st) ⟨O.1, O.2.1, O.2.2.1, O.2.2.2.1, O.2.2.2.2.1⟩ (hM E.2.1 O.2.2.2.2.2.2.2.1 z hz) ⟨cb_of O hc.1 hd2 hlk, O.2.2.2.2.1 _ hc.2⟩ ⟨pw_blind O.2.2.2.2.2.2.2.1 _ σ, fun U hU hW => ⟨rfl, hSt U hU hW⟩⟩ rfl hn hl.1 rfl (lv_room hsum) hd (hf00 O)) hS (fun q _ h => h) (fun q h => h) (fun u t H1 locs1 ht1 hvm hw hB hz1 hk1 hS1 => ?_)
  subst hw
  have hB' : va_P w.2.1 vwCl (w.1 _) t.heap := hB
  rw [ht1] at hB'
  exact kk _ O res ht H1 locs1 ls hB' hS1 hl
end RW
end
