section
-- ===== PART A: goes FIRST, ahead of the names: the tables' words, and 'selects' of the private methods out of them =====
/-- a private method of a class that the tables say can be made, by its rows of tables_1 -/
def lw_okq (q : MethodName × Nat) : Prop := (q.1.cls ≠ "java/lang/invoke/MethodHandle" ∧ q.1.cls ≠ "java/lang/invoke/VarHandle") ∧ Cond.instantiable q.1.cls q.2 ∈ tables_1 ∧ Cond.privateMethod q.1 ∈ tables_1 ∧ Cond.instanceMethod q.1 ∈ tables_1
theorem lw_p0 : lw_okq (⟨"NineWells", "error", "(I)I"⟩, 11) := ⟨⟨by decide +kernel, by decide +kernel⟩, List.mem_of_getElem? (i := 18) (by decide +kernel), List.mem_of_getElem? (i := 341) (by decide +kernel), List.mem_of_getElem? (i := 342) (by decide +kernel)⟩
theorem lw_p1 : lw_okq (⟨"NineWells", "sheetAt", "(I)LNineWells$Sheet;"⟩, 11) := ⟨⟨by decide +kernel, by decide +kernel⟩, List.mem_of_getElem? (i := 18) (by decide +kernel), List.mem_of_getElem? (i := 404) (by decide +kernel), List.mem_of_getElem? (i := 405) (by decide +kernel)⟩
theorem lw_p2 : lw_okq (⟨"NineWells$World", "lasts", "(I)I"⟩, 5) := ⟨⟨by decide +kernel, by decide +kernel⟩, List.mem_of_getElem? (i := 116) (by decide +kernel), List.mem_of_getElem? (i := 446) (by decide +kernel), List.mem_of_getElem? (i := 447) (by decide +kernel)⟩
theorem lw_p3 : lw_okq (⟨"NineWells$World", "lastsByKind", "(IIII)I"⟩, 5) := ⟨⟨by decide +kernel, by decide +kernel⟩, List.mem_of_getElem? (i := 116) (by decide +kernel), List.mem_of_getElem? (i := 450) (by decide +kernel), List.mem_of_getElem? (i := 451) (by decide +kernel)⟩
theorem lw_p4 : lw_okq (⟨"NineWells$World", "month", "()I"⟩, 5) := ⟨⟨by decide +kernel, by decide +kernel⟩, List.mem_of_getElem? (i := 116) (by decide +kernel), List.mem_of_getElem? (i := 467) (by decide +kernel), List.mem_of_getElem? (i := 468) (by decide +kernel)⟩
theorem lw_p5 : lw_okq (⟨"NineWells$World", "stays", "(I)Z"⟩, 5) := ⟨⟨by decide +kernel, by decide +kernel⟩, List.mem_of_getElem? (i := 116) (by decide +kernel), List.mem_of_getElem? (i := 491) (by decide +kernel), List.mem_of_getElem? (i := 492) (by decide +kernel)⟩
theorem lw_p6 : lw_okq (⟨"NineWells$World", "waitsForMore", "(I)Z"⟩, 5) := ⟨⟨by decide +kernel, by decide +kernel⟩, List.mem_of_getElem? (i := 116) (by decide +kernel), List.mem_of_getElem? (i := 495) (by decide +kernel), List.mem_of_getElem? (i := 496) (by decide +kernel)⟩
theorem lw_p7 : lw_okq (⟨"NineWells$Reader", "reads", "(II)Z"⟩, 4) := ⟨⟨by decide +kernel, by decide +kernel⟩, List.mem_of_getElem? (i := 210) (by decide +kernel), List.mem_of_getElem? (i := 537) (by decide +kernel), List.mem_of_getElem? (i := 538) (by decide +kernel)⟩
theorem lw_p8 : lw_okq (⟨"NineWells$Reader", "readsUnit", "(I)Z"⟩, 4) := ⟨⟨by decide +kernel, by decide +kernel⟩, List.mem_of_getElem? (i := 210) (by decide +kernel), List.mem_of_getElem? (i := 541) (by decide +kernel), List.mem_of_getElem? (i := 542) (by decide +kernel)⟩
theorem lw_p9 : lw_okq (⟨"NineWells$Reader", "next", "()I"⟩, 4) := ⟨⟨by decide +kernel, by decide +kernel⟩, List.mem_of_getElem? (i := 210) (by decide +kernel), List.mem_of_getElem? (i := 545) (by decide +kernel), List.mem_of_getElem? (i := 546) (by decide +kernel)⟩
theorem lw_p10 : lw_okq (⟨"NineWells$Reader", "readNumber", "()V"⟩, 4) := ⟨⟨by decide +kernel, by decide +kernel⟩, List.mem_of_getElem? (i := 210) (by decide +kernel), List.mem_of_getElem? (i := 552) (by decide +kernel), List.mem_of_getElem? (i := 553) (by decide +kernel)⟩
theorem lw_p11 : lw_okq (⟨"NineWells$Reader", "nameOf", "(I)I"⟩, 4) := ⟨⟨by decide +kernel, by decide +kernel⟩, List.mem_of_getElem? (i := 210) (by decide +kernel), List.mem_of_getElem? (i := 560) (by decide +kernel), List.mem_of_getElem? (i := 561) (by decide +kernel)⟩
theorem lw_p12 : lw_okq (⟨"NineWells$Reader", "readsNot", "(I)Z"⟩, 4) := ⟨⟨by decide +kernel, by decide +kernel⟩, List.mem_of_getElem? (i := 210) (by decide +kernel), List.mem_of_getElem? (i := 564) (by decide +kernel), List.mem_of_getElem? (i := 565) (by decide +kernel)⟩
theorem lw_p13 : lw_okq (⟨"NineWells$Reader", "readsInside", "(I)Z"⟩, 4) := ⟨⟨by decide +kernel, by decide +kernel⟩, List.mem_of_getElem? (i := 210) (by decide +kernel), List.mem_of_getElem? (i := 568) (by decide +kernel), List.mem_of_getElem? (i := 569) (by decide +kernel)⟩
theorem lw_p14 : lw_okq (⟨"NineWells$World", "goDown", "(I)V"⟩, 5) := ⟨⟨by decide +kernel, by decide +kernel⟩, List.mem_of_getElem? (i := 116) (by decide +kernel), List.mem_of_getElem? (i := 603) (by decide +kernel), List.mem_of_getElem? (i := 604) (by decide +kernel)⟩
theorem lw_p15 : lw_okq (⟨"NineWells$World", "comeNearer", "(I)V"⟩, 5) := ⟨⟨by decide +kernel, by decide +kernel⟩, List.mem_of_getElem? (i := 116) (by decide +kernel), List.mem_of_getElem? (i := 608) (by decide +kernel), List.mem_of_getElem? (i := 609) (by decide +kernel)⟩
def lw_privs_1 : List (MethodName × Nat) := [(⟨"NineWells", "error", "(I)I"⟩, 11), (⟨"NineWells", "sheetAt", "(I)LNineWells$Sheet;"⟩, 11), (⟨"NineWells$World", "lasts", "(I)I"⟩, 5), (⟨"NineWells$World", "lastsByKind", "(IIII)I"⟩, 5), (⟨"NineWells$World", "month", "()I"⟩, 5), (⟨"NineWells$World", "stays", "(I)Z"⟩, 5), (⟨"NineWells$World", "waitsForMore", "(I)Z"⟩, 5), (⟨"NineWells$Reader", "reads", "(II)Z"⟩, 4), (⟨"NineWells$Reader", "readsUnit", "(I)Z"⟩, 4), (⟨"NineWells$Reader", "next", "()I"⟩, 4), (⟨"NineWells$Reader", "readNumber", "()V"⟩, 4), (⟨"NineWells$Reader", "nameOf", "(I)I"⟩, 4), (⟨"NineWells$Reader", "readsNot", "(I)Z"⟩, 4), (⟨"NineWells$Reader", "readsInside", "(I)Z"⟩, 4), (⟨"NineWells$World", "goDown", "(I)V"⟩, 5), (⟨"NineWells$World", "comeNearer", "(I)V"⟩, 5)]
theorem lw_r1 : ∀ q ∈ lw_privs_1, lw_okq q := List.forall_mem_cons.mpr ⟨lw_p0, List.forall_mem_cons.mpr ⟨lw_p1, List.forall_mem_cons.mpr ⟨lw_p2, List.forall_mem_cons.mpr ⟨lw_p3, List.forall_mem_cons.mpr ⟨lw_p4, List.forall_mem_cons.mpr ⟨lw_p5, List.forall_mem_cons.mpr ⟨lw_p6, List.forall_mem_cons.mpr ⟨lw_p7, List.forall_mem_cons.mpr ⟨lw_p8, List.forall_mem_cons.mpr ⟨lw_p9, List.forall_mem_cons.mpr ⟨lw_p10, List.forall_mem_cons.mpr ⟨lw_p11, List.forall_mem_cons.mpr ⟨lw_p12, List.forall_mem_cons.mpr ⟨lw_p13, List.forall_mem_cons.mpr ⟨lw_p14, List.forall_mem_cons.mpr ⟨lw_p15, fun _ h => absurd h List.not_mem_nil⟩⟩⟩⟩⟩⟩⟩⟩⟩⟩⟩⟩⟩⟩⟩⟩
theorem lw_p16 : lw_okq (⟨"NineWells", "flood", "()V"⟩, 11) := ⟨⟨by decide +kernel, by decide +kernel⟩, List.mem_of_getElem? (i := 18) (by decide +kernel), List.mem_of_getElem? (i := 618) (by decide +kernel), List.mem_of_getElem? (i := 619) (by decide +kernel)⟩
theorem lw_p17 : lw_okq (⟨"NineWells$Wells", "leastOfRing", "(I)I"⟩, 5) := ⟨⟨by decide +kernel, by decide +kernel⟩, List.mem_of_getElem? (i := 122) (by decide +kernel), List.mem_of_getElem? (i := 685) (by decide +kernel), List.mem_of_getElem? (i := 686) (by decide +kernel)⟩
theorem lw_p18 : lw_okq (⟨"NineWells$Belows", "note", "(III)V"⟩, 5) := ⟨⟨by decide +kernel, by decide +kernel⟩, List.mem_of_getElem? (i := 232) (by decide +kernel), List.mem_of_getElem? (i := 751) (by decide +kernel), List.mem_of_getElem? (i := 752) (by decide +kernel)⟩
theorem lw_p19 : lw_okq (⟨"NineWells$Voices", "says", "(IIII)I"⟩, 5) := ⟨⟨by decide +kernel, by decide +kernel⟩, List.mem_of_getElem? (i := 259) (by decide +kernel), List.mem_of_getElem? (i := 785) (by decide +kernel), List.mem_of_getElem? (i := 786) (by decide +kernel)⟩
theorem lw_p20 : lw_okq (⟨"NineWells$Voices", "note", "(I)V"⟩, 5) := ⟨⟨by decide +kernel, by decide +kernel⟩, List.mem_of_getElem? (i := 259) (by decide +kernel), List.mem_of_getElem? (i := 796) (by decide +kernel), List.mem_of_getElem? (i := 797) (by decide +kernel)⟩
theorem lw_p21 : lw_okq (⟨"NineWellsModel", "finds", "(I)I"⟩, 21) := ⟨⟨by decide +kernel, by decide +kernel⟩, List.mem_of_getElem? (i := 873) (by decide +kernel), List.mem_of_getElem? (i := 952) (by decide +kernel), List.mem_of_getElem? (i := 953) (by decide +kernel)⟩
theorem lw_p22 : lw_okq (⟨"NineWellsModel", "worked", "(III)I"⟩, 21) := ⟨⟨by decide +kernel, by decide +kernel⟩, List.mem_of_getElem? (i := 873) (by decide +kernel), List.mem_of_getElem? (i := 962) (by decide +kernel), List.mem_of_getElem? (i := 963) (by decide +kernel)⟩
theorem lw_p23 : lw_okq (⟨"NineWellsModel", "either", "()I"⟩, 21) := ⟨⟨by decide +kernel, by decide +kernel⟩, List.mem_of_getElem? (i := 873) (by decide +kernel), List.mem_of_getElem? (i := 966) (by decide +kernel), List.mem_of_getElem? (i := 967) (by decide +kernel)⟩
theorem lw_p24 : lw_okq (⟨"NineWellsModel", "both", "()I"⟩, 21) := ⟨⟨by decide +kernel, by decide +kernel⟩, List.mem_of_getElem? (i := 873) (by decide +kernel), List.mem_of_getElem? (i := 970) (by decide +kernel), List.mem_of_getElem? (i := 971) (by decide +kernel)⟩
theorem lw_p25 : lw_okq (⟨"NineWellsModel", "compared", "()I"⟩, 21) := ⟨⟨by decide +kernel, by decide +kernel⟩, List.mem_of_getElem? (i := 873) (by decide +kernel), List.mem_of_getElem? (i := 974) (by decide +kernel), List.mem_of_getElem? (i := 975) (by decide +kernel)⟩
theorem lw_p26 : lw_okq (⟨"NineWellsModel", "sum", "()I"⟩, 21) := ⟨⟨by decide +kernel, by decide +kernel⟩, List.mem_of_getElem? (i := 873) (by decide +kernel), List.mem_of_getElem? (i := 978) (by decide +kernel), List.mem_of_getElem? (i := 979) (by decide +kernel)⟩
theorem lw_p27 : lw_okq (⟨"NineWellsModel", "product", "()I"⟩, 21) := ⟨⟨by decide +kernel, by decide +kernel⟩, List.mem_of_getElem? (i := 873) (by decide +kernel), List.mem_of_getElem? (i := 982) (by decide +kernel), List.mem_of_getElem? (i := 983) (by decide +kernel)⟩
theorem lw_p28 : lw_okq (⟨"NineWellsModel", "unit", "()I"⟩, 21) := ⟨⟨by decide +kernel, by decide +kernel⟩, List.mem_of_getElem? (i := 873) (by decide +kernel), List.mem_of_getElem? (i := 986) (by decide +kernel), List.mem_of_getElem? (i := 987) (by decide +kernel)⟩
theorem lw_p29 : lw_okq (⟨"NineWellsModel", "here", "()I"⟩, 21) := ⟨⟨by decide +kernel, by decide +kernel⟩, List.mem_of_getElem? (i := 873) (by decide +kernel), List.mem_of_getElem? (i := 990) (by decide +kernel), List.mem_of_getElem? (i := 991) (by decide +kernel)⟩
theorem lw_p30 : lw_okq (⟨"NineWellsModel", "wrong", "()I"⟩, 21) := ⟨⟨by decide +kernel, by decide +kernel⟩, List.mem_of_getElem? (i := 873) (by decide +kernel), List.mem_of_getElem? (i := 994) (by decide +kernel), List.mem_of_getElem? (i := 995) (by decide +kernel)⟩
theorem lw_p31 : lw_okq (⟨"NineWellsModel", "takes", "(I)Z"⟩, 21) := ⟨⟨by decide +kernel, by decide +kernel⟩, List.mem_of_getElem? (i := 873) (by decide +kernel), List.mem_of_getElem? (i := 998) (by decide +kernel), List.mem_of_getElem? (i := 999) (by decide +kernel)⟩
def lw_privs_2 : List (MethodName × Nat) := [(⟨"NineWells", "flood", "()V"⟩, 11), (⟨"NineWells$Wells", "leastOfRing", "(I)I"⟩, 5), (⟨"NineWells$Belows", "note", "(III)V"⟩, 5), (⟨"NineWells$Voices", "says", "(IIII)I"⟩, 5), (⟨"NineWells$Voices", "note", "(I)V"⟩, 5), (⟨"NineWellsModel", "finds", "(I)I"⟩, 21), (⟨"NineWellsModel", "worked", "(III)I"⟩, 21), (⟨"NineWellsModel", "either", "()I"⟩, 21), (⟨"NineWellsModel", "both", "()I"⟩, 21), (⟨"NineWellsModel", "compared", "()I"⟩, 21), (⟨"NineWellsModel", "sum", "()I"⟩, 21), (⟨"NineWellsModel", "product", "()I"⟩, 21), (⟨"NineWellsModel", "unit", "()I"⟩, 21), (⟨"NineWellsModel", "here", "()I"⟩, 21), (⟨"NineWellsModel", "wrong", "()I"⟩, 21), (⟨"NineWellsModel", "takes", "(I)Z"⟩, 21)]
theorem lw_r2 : ∀ q ∈ lw_privs_2, lw_okq q := List.forall_mem_cons.mpr ⟨lw_p16, List.forall_mem_cons.mpr ⟨lw_p17, List.forall_mem_cons.mpr ⟨lw_p18, List.forall_mem_cons.mpr ⟨lw_p19, List.forall_mem_cons.mpr ⟨lw_p20, List.forall_mem_cons.mpr ⟨lw_p21, List.forall_mem_cons.mpr ⟨lw_p22, List.forall_mem_cons.mpr ⟨lw_p23, List.forall_mem_cons.mpr ⟨lw_p24, List.forall_mem_cons.mpr ⟨lw_p25, List.forall_mem_cons.mpr ⟨lw_p26, List.forall_mem_cons.mpr ⟨lw_p27, List.forall_mem_cons.mpr ⟨lw_p28, List.forall_mem_cons.mpr ⟨lw_p29, List.forall_mem_cons.mpr ⟨lw_p30, List.forall_mem_cons.mpr ⟨lw_p31, fun _ h => absurd h List.not_mem_nil⟩⟩⟩⟩⟩⟩⟩⟩⟩⟩⟩⟩⟩⟩⟩⟩
theorem lw_p32 : lw_okq (⟨"NineWellsModel", "nameOf", "(I)I"⟩, 21) := ⟨⟨by decide +kernel, by decide +kernel⟩, List.mem_of_getElem? (i := 873) (by decide +kernel), List.mem_of_getElem? (i := 1002) (by decide +kernel), List.mem_of_getElem? (i := 1003) (by decide +kernel)⟩
theorem lw_p33 : lw_okq (⟨"NineWellsModel", "gives", "(IIIII)I"⟩, 21) := ⟨⟨by decide +kernel, by decide +kernel⟩, List.mem_of_getElem? (i := 873) (by decide +kernel), List.mem_of_getElem? (i := 1012) (by decide +kernel), List.mem_of_getElem? (i := 1013) (by decide +kernel)⟩
theorem lw_p34 : lw_okq (⟨"NineWellsModel", "isWell", "(I)Z"⟩, 21) := ⟨⟨by decide +kernel, by decide +kernel⟩, List.mem_of_getElem? (i := 873) (by decide +kernel), List.mem_of_getElem? (i := 1027) (by decide +kernel), List.mem_of_getElem? (i := 1028) (by decide +kernel)⟩
theorem lw_p35 : lw_okq (⟨"NineWellsModel", "mayGo", "(II)Z"⟩, 21) := ⟨⟨by decide +kernel, by decide +kernel⟩, List.mem_of_getElem? (i := 873) (by decide +kernel), List.mem_of_getElem? (i := 1031) (by decide +kernel), List.mem_of_getElem? (i := 1032) (by decide +kernel)⟩
theorem lw_p36 : lw_okq (⟨"NineWellsModel", "itsWell", "(II)I"⟩, 21) := ⟨⟨by decide +kernel, by decide +kernel⟩, List.mem_of_getElem? (i := 873) (by decide +kernel), List.mem_of_getElem? (i := 1037) (by decide +kernel), List.mem_of_getElem? (i := 1038) (by decide +kernel)⟩
theorem lw_p37 : lw_okq (⟨"NineWellsModel", "leads", "(III)V"⟩, 21) := ⟨⟨by decide +kernel, by decide +kernel⟩, List.mem_of_getElem? (i := 873) (by decide +kernel), List.mem_of_getElem? (i := 1041) (by decide +kernel), List.mem_of_getElem? (i := 1042) (by decide +kernel)⟩
theorem lw_p38 : lw_okq (⟨"NineWellsModel", "isThing", "(I)Z"⟩, 21) := ⟨⟨by decide +kernel, by decide +kernel⟩, List.mem_of_getElem? (i := 873) (by decide +kernel), List.mem_of_getElem? (i := 1078) (by decide +kernel), List.mem_of_getElem? (i := 1079) (by decide +kernel)⟩
theorem lw_p39 : lw_okq (⟨"NineWellsModel", "ofIt", "([III)I"⟩, 21) := ⟨⟨by decide +kernel, by decide +kernel⟩, List.mem_of_getElem? (i := 873) (by decide +kernel), List.mem_of_getElem? (i := 1083) (by decide +kernel), List.mem_of_getElem? (i := 1084) (by decide +kernel)⟩
theorem lw_p40 : lw_okq (⟨"NineWellsModel", "lasts", "([II)I"⟩, 21) := ⟨⟨by decide +kernel, by decide +kernel⟩, List.mem_of_getElem? (i := 873) (by decide +kernel), List.mem_of_getElem? (i := 1090) (by decide +kernel), List.mem_of_getElem? (i := 1091) (by decide +kernel)⟩
theorem lw_p41 : lw_okq (⟨"NineWellsModel", "itsKind", "(I)I"⟩, 21) := ⟨⟨by decide +kernel, by decide +kernel⟩, List.mem_of_getElem? (i := 873) (by decide +kernel), List.mem_of_getElem? (i := 1107) (by decide +kernel), List.mem_of_getElem? (i := 1108) (by decide +kernel)⟩
theorem lw_p42 : lw_okq (⟨"NineWellsModel", "isNow", "(I)I"⟩, 21) := ⟨⟨by decide +kernel, by decide +kernel⟩, List.mem_of_getElem? (i := 873) (by decide +kernel), List.mem_of_getElem? (i := 1118) (by decide +kernel), List.mem_of_getElem? (i := 1119) (by decide +kernel)⟩
theorem lw_p43 : lw_okq (⟨"NineWellsModel", "goesOn", "([II)V"⟩, 21) := ⟨⟨by decide +kernel, by decide +kernel⟩, List.mem_of_getElem? (i := 873) (by decide +kernel), List.mem_of_getElem? (i := 1134) (by decide +kernel), List.mem_of_getElem? (i := 1135) (by decide +kernel)⟩
theorem lw_p44 : lw_okq (⟨"NineWellsModel", "goesBy", "([I)V"⟩, 21) := ⟨⟨by decide +kernel, by decide +kernel⟩, List.mem_of_getElem? (i := 873) (by decide +kernel), List.mem_of_getElem? (i := 1138) (by decide +kernel), List.mem_of_getElem? (i := 1139) (by decide +kernel)⟩
theorem lw_p45 : lw_okq (⟨"NineWellsModel", "goesUp", "([II)V"⟩, 21) := ⟨⟨by decide +kernel, by decide +kernel⟩, List.mem_of_getElem? (i := 873) (by decide +kernel), List.mem_of_getElem? (i := 1142) (by decide +kernel), List.mem_of_getElem? (i := 1143) (by decide +kernel)⟩
theorem lw_p46 : lw_okq (⟨"NineWellsModel", "drawn", "()I"⟩, 21) := ⟨⟨by decide +kernel, by decide +kernel⟩, List.mem_of_getElem? (i := 873) (by decide +kernel), List.mem_of_getElem? (i := 1151) (by decide +kernel), List.mem_of_getElem? (i := 1152) (by decide +kernel)⟩
theorem lw_p47 : lw_okq (⟨"NineWellsModel", "ahead", "(I)V"⟩, 21) := ⟨⟨by decide +kernel, by decide +kernel⟩, List.mem_of_getElem? (i := 873) (by decide +kernel), List.mem_of_getElem? (i := 1164) (by decide +kernel), List.mem_of_getElem? (i := 1165) (by decide +kernel)⟩
def lw_privs_3 : List (MethodName × Nat) := [(⟨"NineWellsModel", "nameOf", "(I)I"⟩, 21), (⟨"NineWellsModel", "gives", "(IIIII)I"⟩, 21), (⟨"NineWellsModel", "isWell", "(I)Z"⟩, 21), (⟨"NineWellsModel", "mayGo", "(II)Z"⟩, 21), (⟨"NineWellsModel", "itsWell", "(II)I"⟩, 21), (⟨"NineWellsModel", "leads", "(III)V"⟩, 21), (⟨"NineWellsModel", "isThing", "(I)Z"⟩, 21), (⟨"NineWellsModel", "ofIt", "([III)I"⟩, 21), (⟨"NineWellsModel", "lasts", "([II)I"⟩, 21), (⟨"NineWellsModel", "itsKind", "(I)I"⟩, 21), (⟨"NineWellsModel", "isNow", "(I)I"⟩, 21), (⟨"NineWellsModel", "goesOn", "([II)V"⟩, 21), (⟨"NineWellsModel", "goesBy", "([I)V"⟩, 21), (⟨"NineWellsModel", "goesUp", "([II)V"⟩, 21), (⟨"NineWellsModel", "drawn", "()I"⟩, 21), (⟨"NineWellsModel", "ahead", "(I)V"⟩, 21)]
theorem lw_r3 : ∀ q ∈ lw_privs_3, lw_okq q := List.forall_mem_cons.mpr ⟨lw_p32, List.forall_mem_cons.mpr ⟨lw_p33, List.forall_mem_cons.mpr ⟨lw_p34, List.forall_mem_cons.mpr ⟨lw_p35, List.forall_mem_cons.mpr ⟨lw_p36, List.forall_mem_cons.mpr ⟨lw_p37, List.forall_mem_cons.mpr ⟨lw_p38, List.forall_mem_cons.mpr ⟨lw_p39, List.forall_mem_cons.mpr ⟨lw_p40, List.forall_mem_cons.mpr ⟨lw_p41, List.forall_mem_cons.mpr ⟨lw_p42, List.forall_mem_cons.mpr ⟨lw_p43, List.forall_mem_cons.mpr ⟨lw_p44, List.forall_mem_cons.mpr ⟨lw_p45, List.forall_mem_cons.mpr ⟨lw_p46, List.forall_mem_cons.mpr ⟨lw_p47, fun _ h => absurd h List.not_mem_nil⟩⟩⟩⟩⟩⟩⟩⟩⟩⟩⟩⟩⟩⟩⟩⟩
theorem lw_p48 : lw_okq (⟨"NineWellsModel", "least", "(IIIZ)I"⟩, 21) := ⟨⟨by decide +kernel, by decide +kernel⟩, List.mem_of_getElem? (i := 873) (by decide +kernel), List.mem_of_getElem? (i := 1190) (by decide +kernel), List.mem_of_getElem? (i := 1191) (by decide +kernel)⟩
theorem lw_p49 : lw_okq (⟨"NineWellsModel", "ringOf", "(I)I"⟩, 21) := ⟨⟨by decide +kernel, by decide +kernel⟩, List.mem_of_getElem? (i := 873) (by decide +kernel), List.mem_of_getElem? (i := 1203) (by decide +kernel), List.mem_of_getElem? (i := 1204) (by decide +kernel)⟩
theorem lw_p50 : lw_okq (⟨"NineWellsModel", "walk", "(IIIII)I"⟩, 21) := ⟨⟨by decide +kernel, by decide +kernel⟩, List.mem_of_getElem? (i := 873) (by decide +kernel), List.mem_of_getElem? (i := 1211) (by decide +kernel), List.mem_of_getElem? (i := 1212) (by decide +kernel)⟩
theorem lw_p51 : lw_okq (⟨"NineWellsModel", "isSo", "(IIII)Z"⟩, 21) := ⟨⟨by decide +kernel, by decide +kernel⟩, List.mem_of_getElem? (i := 873) (by decide +kernel), List.mem_of_getElem? (i := 1231) (by decide +kernel), List.mem_of_getElem? (i := 1232) (by decide +kernel)⟩
theorem lw_p52 : lw_okq (⟨"NineWellsModel", "areSo", "(III)Z"⟩, 21) := ⟨⟨by decide +kernel, by decide +kernel⟩, List.mem_of_getElem? (i := 873) (by decide +kernel), List.mem_of_getElem? (i := 1240) (by decide +kernel), List.mem_of_getElem? (i := 1241) (by decide +kernel)⟩
theorem lw_p53 : lw_okq (⟨"NineWellsModel", "sinks", "(II)I"⟩, 21) := ⟨⟨by decide +kernel, by decide +kernel⟩, List.mem_of_getElem? (i := 873) (by decide +kernel), List.mem_of_getElem? (i := 1256) (by decide +kernel), List.mem_of_getElem? (i := 1257) (by decide +kernel)⟩
theorem lw_p54 : lw_okq (⟨"NineWellsModel", "ran", "(I)V"⟩, 21) := ⟨⟨by decide +kernel, by decide +kernel⟩, List.mem_of_getElem? (i := 873) (by decide +kernel), List.mem_of_getElem? (i := 1260) (by decide +kernel), List.mem_of_getElem? (i := 1261) (by decide +kernel)⟩
theorem lw_p55 : lw_okq (⟨"NineWellsModel", "goes", "(II)I"⟩, 21) := ⟨⟨by decide +kernel, by decide +kernel⟩, List.mem_of_getElem? (i := 873) (by decide +kernel), List.mem_of_getElem? (i := 1267) (by decide +kernel), List.mem_of_getElem? (i := 1268) (by decide +kernel)⟩
theorem lw_p56 : lw_okq (⟨"NineWellsModel", "waitsFor", "(II)I"⟩, 21) := ⟨⟨by decide +kernel, by decide +kernel⟩, List.mem_of_getElem? (i := 873) (by decide +kernel), List.mem_of_getElem? (i := 1271) (by decide +kernel), List.mem_of_getElem? (i := 1272) (by decide +kernel)⟩
theorem lw_p57 : lw_okq (⟨"NineWellsModel", "tells", "(II)I"⟩, 21) := ⟨⟨by decide +kernel, by decide +kernel⟩, List.mem_of_getElem? (i := 873) (by decide +kernel), List.mem_of_getElem? (i := 1275) (by decide +kernel), List.mem_of_getElem? (i := 1276) (by decide +kernel)⟩
theorem lw_p58 : lw_okq (⟨"NineWellsModel", "manyOut", "()I"⟩, 21) := ⟨⟨by decide +kernel, by decide +kernel⟩, List.mem_of_getElem? (i := 873) (by decide +kernel), List.mem_of_getElem? (i := 1315) (by decide +kernel), List.mem_of_getElem? (i := 1316) (by decide +kernel)⟩
def lw_privs_4 : List (MethodName × Nat) := [(⟨"NineWellsModel", "least", "(IIIZ)I"⟩, 21), (⟨"NineWellsModel", "ringOf", "(I)I"⟩, 21), (⟨"NineWellsModel", "walk", "(IIIII)I"⟩, 21), (⟨"NineWellsModel", "isSo", "(IIII)Z"⟩, 21), (⟨"NineWellsModel", "areSo", "(III)Z"⟩, 21), (⟨"NineWellsModel", "sinks", "(II)I"⟩, 21), (⟨"NineWellsModel", "ran", "(I)V"⟩, 21), (⟨"NineWellsModel", "goes", "(II)I"⟩, 21), (⟨"NineWellsModel", "waitsFor", "(II)I"⟩, 21), (⟨"NineWellsModel", "tells", "(II)I"⟩, 21), (⟨"NineWellsModel", "manyOut", "()I"⟩, 21)]
theorem lw_r4 : ∀ q ∈ lw_privs_4, lw_okq q := List.forall_mem_cons.mpr ⟨lw_p48, List.forall_mem_cons.mpr ⟨lw_p49, List.forall_mem_cons.mpr ⟨lw_p50, List.forall_mem_cons.mpr ⟨lw_p51, List.forall_mem_cons.mpr ⟨lw_p52, List.forall_mem_cons.mpr ⟨lw_p53, List.forall_mem_cons.mpr ⟨lw_p54, List.forall_mem_cons.mpr ⟨lw_p55, List.forall_mem_cons.mpr ⟨lw_p56, List.forall_mem_cons.mpr ⟨lw_p57, List.forall_mem_cons.mpr ⟨lw_p58, fun _ h => absurd h List.not_mem_nil⟩⟩⟩⟩⟩⟩⟩⟩⟩⟩⟩
def lw_privs : List (MethodName × Nat) := lw_privs_1 ++ (lw_privs_2 ++ (lw_privs_3 ++ (lw_privs_4)))
def lw_tbl : List Cond := k2_sels lw_privs ++ tables_1
theorem lw_privs_ok : ∀ q ∈ lw_privs, lw_okq q := by
  show ∀ q ∈ lw_privs_1 ++ (lw_privs_2 ++ (lw_privs_3 ++ (lw_privs_4))), lw_okq q
  exact List.forall_mem_append.mpr ⟨lw_r1, List.forall_mem_append.mpr ⟨lw_r2, List.forall_mem_append.mpr ⟨lw_r3, lw_r4⟩⟩⟩
end
section
def RX0 : String := "NineWells$Belows"
def TX0 : u_T := fun k => match k with
  | 0 => ("NineWells$Belows", "tried", "LNineWells$Wells;", true)
  | 1 => ("NineWells$Belows", "places", "[I", true)
  | 2 => ("NineWells$Belows", "howMany", "I", false)
  | 3 => ("NineWells$Belows", "first", "I", false)
  | _ => ("NineWells$Belows", "ledTo", "I", false)
def tyX0 : Nat → FieldType := fun k => match k with
  | 0 => .object "NineWells$Wells"
  | 1 => .array .int
  | 2 => .int
  | 3 => .int
  | _ => .int
theorem nmX0 : ∀ a, a < 5 → ∀ b, b < 5 → a ≠ b → (TX0 a).2.1 ≠ (TX0 b).2.1 := by decide +kernel
theorem tyX0_ok : ∀ k, k < 5 → parseFieldDescriptor (TX0 k).2.2.1 = some (tyX0 k) := by decide +kernel
def RX1 : String := "NineWells$Desk"
def TX1 : u_T := fun k => match k with
  | 0 => ("NineWells$Desk", "finds", "LNineWells$Finds;", true)
  | 1 => ("NineWells$Desk", "slows", "LNineWells$Text;", true)
  | 2 => ("NineWells$Desk", "takes", "LNineWells$Text;", true)
  | 3 => ("NineWells$Desk", "tape", "LNineWells$Row;", true)
  | 4 => ("NineWells$Desk", "waiting", "LNineWells$Row;", true)
  | _ => ("NineWells$Desk", "z", "I", false)
def tyX1 : Nat → FieldType := fun k => match k with
  | 0 => .object "NineWells$Finds"
  | 1 => .object "NineWells$Text"
  | 2 => .object "NineWells$Text"
  | 3 => .object "NineWells$Row"
  | 4 => .object "NineWells$Row"
  | _ => .int
theorem nmX1 : ∀ a, a < 6 → ∀ b, b < 6 → a ≠ b → (TX1 a).2.1 ≠ (TX1 b).2.1 := by decide +kernel
theorem tyX1_ok : ∀ k, k < 6 → parseFieldDescriptor (TX1 k).2.2.1 = some (tyX1 k) := by decide +kernel
def RX2 : String := "NineWells$Finds"
def TX2 : u_T := fun k => match k with
  | 0 => ("NineWells$Finds", "from", "[I", true)
  | 1 => ("NineWells$Finds", "in", "[I", true)
  | 2 => ("NineWells$Finds", "day", "[I", true)
  | _ => ("NineWells$Finds", "count", "I", false)
def tyX2 : Nat → FieldType := fun k => match k with
  | 0 => .array .int
  | 1 => .array .int
  | 2 => .array .int
  | _ => .int
theorem nmX2 : ∀ a, a < 4 → ∀ b, b < 4 → a ≠ b → (TX2 a).2.1 ≠ (TX2 b).2.1 := by decide +kernel
theorem tyX2_ok : ∀ k, k < 4 → parseFieldDescriptor (TX2 k).2.2.1 = some (tyX2 k) := by decide +kernel
def RX3 : String := "NineWells$Reader"
def TX3 : u_T := fun k => match k with
  | 0 => ("NineWells$Reader", "draft", "LNineWells$Text;", true)
  | 1 => ("NineWells$Reader", "tape", "LNineWells$Row;", true)
  | 2 => ("NineWells$Reader", "use", "I", false)
  | _ => ("NineWells$Reader", "at", "I", false)
def tyX3 : Nat → FieldType := fun k => match k with
  | 0 => .object "NineWells$Text"
  | 1 => .object "NineWells$Row"
  | 2 => .int
  | _ => .int
theorem nmX3 : ∀ a, a < 4 → ∀ b, b < 4 → a ≠ b → (TX3 a).2.1 ≠ (TX3 b).2.1 := by decide +kernel
theorem tyX3_ok : ∀ k, k < 4 → parseFieldDescriptor (TX3 k).2.2.1 = some (tyX3 k) := by decide +kernel
def RX4 : String := "NineWells$Row"
def TX4 : u_T := fun k => match k with
  | 0 => ("NineWells$Row", "numbers", "[I", true)
  | _ => ("NineWells$Row", "count", "I", false)
def tyX4 : Nat → FieldType := fun k => match k with
  | 0 => .array .int
  | _ => .int
theorem nmX4 : ∀ a, a < 2 → ∀ b, b < 2 → a ≠ b → (TX4 a).2.1 ≠ (TX4 b).2.1 := by decide +kernel
theorem tyX4_ok : ∀ k, k < 2 → parseFieldDescriptor (TX4 k).2.2.1 = some (tyX4 k) := by decide +kernel
def RX5 : String := "NineWells$Sheet"
def TX5 : u_T := fun k => match k with
  | 0 => ("NineWells$Sheet", "numbers", "[I", true)
  | 1 => ("NineWells$Sheet", "bits", "I", false)
  | _ => ("NineWells$Sheet", "count", "I", false)
def tyX5 : Nat → FieldType := fun k => match k with
  | 0 => .array .int
  | 1 => .int
  | _ => .int
theorem nmX5 : ∀ a, a < 3 → ∀ b, b < 3 → a ≠ b → (TX5 a).2.1 ≠ (TX5 b).2.1 := by decide +kernel
theorem tyX5_ok : ∀ k, k < 3 → parseFieldDescriptor (TX5 k).2.2.1 = some (tyX5 k) := by decide +kernel
def RX6 : String := "NineWells$Text"
def TX6 : u_T := fun k => match k with
  | 0 => ("NineWells$Text", "code", "[I", true)
  | 1 => ("NineWells$Text", "stack", "[I", true)
  | _ => ("NineWells$Text", "length", "I", false)
def tyX6 : Nat → FieldType := fun k => match k with
  | 0 => .array .int
  | 1 => .array .int
  | _ => .int
theorem nmX6 : ∀ a, a < 3 → ∀ b, b < 3 → a ≠ b → (TX6 a).2.1 ≠ (TX6 b).2.1 := by decide +kernel
theorem tyX6_ok : ∀ k, k < 3 → parseFieldDescriptor (TX6 k).2.2.1 = some (tyX6 k) := by decide +kernel
def RX7 : String := "NineWells$Things"
def TX7 : u_T := fun k => match k with
  | 0 => ("NineWells$Things", "kind", "[I", true)
  | 1 => ("NineWells$Things", "m", "[I", true)
  | 2 => ("NineWells$Things", "state", "[I", true)
  | 3 => ("NineWells$Things", "well", "[I", true)
  | 4 => ("NineWells$Things", "left", "[I", true)
  | 5 => ("NineWells$Things", "spent", "[I", true)
  | _ => ("NineWells$Things", "count", "I", false)
def tyX7 : Nat → FieldType := fun k => match k with
  | 0 => .array .int
  | 1 => .array .int
  | 2 => .array .int
  | 3 => .array .int
  | 4 => .array .int
  | 5 => .array .int
  | _ => .int
theorem nmX7 : ∀ a, a < 7 → ∀ b, b < 7 → a ≠ b → (TX7 a).2.1 ≠ (TX7 b).2.1 := by decide +kernel
theorem tyX7_ok : ∀ k, k < 7 → parseFieldDescriptor (TX7 k).2.2.1 = some (tyX7 k) := by decide +kernel
def RX8 : String := "NineWells$Voices"
def TX8 : u_T := fun k => match k with
  | 0 => ("NineWells$Voices", "bodies", "[I", true)
  | 1 => ("NineWells$Voices", "count", "I", false)
  | 2 => ("NineWells$Voices", "kind", "I", false)
  | 3 => ("NineWells$Voices", "n", "I", false)
  | _ => ("NineWells$Voices", "m", "I", false)
def tyX8 : Nat → FieldType := fun k => match k with
  | 0 => .array .int
  | 1 => .int
  | 2 => .int
  | 3 => .int
  | _ => .int
theorem nmX8 : ∀ a, a < 5 → ∀ b, b < 5 → a ≠ b → (TX8 a).2.1 ≠ (TX8 b).2.1 := by decide +kernel
theorem tyX8_ok : ∀ k, k < 5 → parseFieldDescriptor (TX8 k).2.2.1 = some (tyX8 k) := by decide +kernel
def RX9 : String := "NineWells$Wells"
def TX9 : u_T := fun k => match k with
  | 0 => ("NineWells$Wells", "leads", "[I", true)
  | 1 => ("NineWells$Wells", "days", "[I", true)
  | 2 => ("NineWells$Wells", "toll", "[I", true)
  | 3 => ("NineWells$Wells", "fishes", "[I", true)
  | _ => ("NineWells$Wells", "count", "I", false)
def tyX9 : Nat → FieldType := fun k => match k with
  | 0 => .array .int
  | 1 => .array .int
  | 2 => .array .int
  | 3 => .array .int
  | _ => .int
theorem nmX9 : ∀ a, a < 5 → ∀ b, b < 5 → a ≠ b → (TX9 a).2.1 ≠ (TX9 b).2.1 := by decide +kernel
theorem tyX9_ok : ∀ k, k < 5 → parseFieldDescriptor (TX9 k).2.2.1 = some (tyX9 k) := by decide +kernel
def RX10 : String := "NineWells$World"
def TX10 : u_T := fun k => match k with
  | 0 => ("NineWells$World", "wells", "LNineWells$Wells;", true)
  | 1 => ("NineWells$World", "things", "LNineWells$Things;", true)
  | 2 => ("NineWells$World", "slows", "LNineWells$Text;", true)
  | 3 => ("NineWells$World", "takes", "LNineWells$Text;", true)
  | _ => ("NineWells$World", "today", "I", false)
def tyX10 : Nat → FieldType := fun k => match k with
  | 0 => .object "NineWells$Wells"
  | 1 => .object "NineWells$Things"
  | 2 => .object "NineWells$Text"
  | 3 => .object "NineWells$Text"
  | _ => .int
theorem nmX10 : ∀ a, a < 5 → ∀ b, b < 5 → a ≠ b → (TX10 a).2.1 ≠ (TX10 b).2.1 := by decide +kernel
theorem tyX10_ok : ∀ k, k < 5 → parseFieldDescriptor (TX10 k).2.2.1 = some (tyX10 k) := by decide +kernel
def RX11 : String := "NineWells"
def TX11 : u_T := fun k => match k with
  | 0 => ("NineWells", "now", "LNineWells$World;", true)
  | 1 => ("NineWells", "ahead", "LNineWells$World;", true)
  | 2 => ("NineWells", "kept", "LNineWells$World;", true)
  | 3 => ("NineWells", "desk", "LNineWells$Desk;", true)
  | 4 => ("NineWells", "keptDesk", "LNineWells$Desk;", true)
  | 5 => ("NineWells", "reader", "LNineWells$Reader;", true)
  | 6 => ("NineWells", "agreeing", "LNineWells$Belows;", true)
  | 7 => ("NineWells", "voices", "LNineWells$Voices;", true)
  | 8 => ("NineWells", "sheets", "[LNineWells$Sheet;", true)
  | 9 => ("NineWells", "errors", "[I", true)
  | _ => ("NineWells", "images", "I", false)
def tyX11 : Nat → FieldType := fun k => match k with
  | 0 => .object "NineWells$World"
  | 1 => .object "NineWells$World"
  | 2 => .object "NineWells$World"
  | 3 => .object "NineWells$Desk"
  | 4 => .object "NineWells$Desk"
  | 5 => .object "NineWells$Reader"
  | 6 => .object "NineWells$Belows"
  | 7 => .object "NineWells$Voices"
  | 8 => .array (.object "NineWells$Sheet")
  | 9 => .array .int
  | _ => .int
theorem nmX11 : ∀ a, a < 11 → ∀ b, b < 11 → a ≠ b → (TX11 a).2.1 ≠ (TX11 b).2.1 := by decide +kernel
theorem tyX11_ok : ∀ k, k < 11 → parseFieldDescriptor (TX11 k).2.2.1 = some (tyX11 k) := by decide +kernel
def RX12 : String := "NineWellsModel"
def TX12 : u_T := fun k => match k with
  | 0 => ("NineWellsModel", "d", "[I", true)
  | 1 => ("NineWellsModel", "e", "[I", true)
  | 2 => ("NineWellsModel", "kept", "[I", true)
  | 3 => ("NineWellsModel", "images", "I", false)
  | 4 => ("NineWellsModel", "found", "[I", true)
  | 5 => ("NineWellsModel", "base", "I", false)
  | 6 => ("NineWellsModel", "at", "I", false)
  | 7 => ("NineWellsModel", "size", "I", false)
  | 8 => ("NineWellsModel", "fault", "I", false)
  | 9 => ("NineWellsModel", "opened", "I", false)
  | 10 => ("NineWellsModel", "isSlow", "Z", false)
  | 11 => ("NineWellsModel", "names", "[I", true)
  | 12 => ("NineWellsModel", "cost", "[I", true)
  | 13 => ("NineWellsModel", "isSure", "[Z", true)
  | 14 => ("NineWellsModel", "traced", "[I", true)
  | 15 => ("NineWellsModel", "traceMany", "I", false)
  | 16 => ("NineWellsModel", "who", "I", false)
  | 17 => ("NineWellsModel", "bitsOf", "[I", true)
  | 18 => ("NineWellsModel", "sizeOf", "[I", true)
  | 19 => ("NineWellsModel", "number", "[I", true)
  | _ => ("NineWellsModel", "lifted", "[I", true)
def tyX12 : Nat → FieldType := fun k => match k with
  | 0 => .array .int
  | 1 => .array .int
  | 2 => .array .int
  | 3 => .int
  | 4 => .array .int
  | 5 => .int
  | 6 => .int
  | 7 => .int
  | 8 => .int
  | 9 => .int
  | 10 => .boolean
  | 11 => .array .int
  | 12 => .array .int
  | 13 => .array .boolean
  | 14 => .array .int
  | 15 => .int
  | 16 => .int
  | 17 => .array .int
  | 18 => .array .int
  | 19 => .array .int
  | _ => .array .int
theorem nmX12 : ∀ a, a < 21 → ∀ b, b < 21 → a ≠ b → (TX12 a).2.1 ≠ (TX12 b).2.1 := by decide +kernel
theorem tyX12_ok : ∀ k, k < 21 → parseFieldDescriptor (TX12 k).2.2.1 = some (tyX12 k) := by decide +kernel
def RJ6 : String := "java/lang/Integer"
def RJ9 : String := "java/lang/Math"
def RL : String := "NineWellsLaw"
abbrev cX0_init : ByteArray := prog_2_method_1_code
def yX0_init : MethodName := ⟨RX0, "<init>", "()V"⟩
abbrev cX0_search : ByteArray := prog_2_method_2_code
def yX0_search : MethodName := ⟨RX0, "search", "(LNineWells$Wells;LNineWells$Finds;III)V"⟩
abbrev cX0_note : ByteArray := prog_2_method_3_code
def yX0_note : MethodName := ⟨RX0, "note", "(III)V"⟩
abbrev cX0_howManyPlaces : ByteArray := prog_2_method_4_code
def yX0_howManyPlaces : MethodName := ⟨RX0, "howManyPlaces", "(I)I"⟩
abbrev cX0_bestStart : ByteArray := prog_2_method_5_code
def yX0_bestStart : MethodName := ⟨RX0, "bestStart", "(I)I"⟩
abbrev cX1_init : ByteArray := prog_3_method_1_code
def yX1_init : MethodName := ⟨RX1, "<init>", "()V"⟩
abbrev cX1_copyFrom : ByteArray := prog_3_method_2_code
def yX1_copyFrom : MethodName := ⟨RX1, "copyFrom", "(LNineWells$Desk;)V"⟩
abbrev cX1_draw : ByteArray := prog_3_method_3_code
def yX1_draw : MethodName := ⟨RX1, "draw", "()I"⟩
abbrev cX2_init : ByteArray := prog_4_method_1_code
def yX2_init : MethodName := ⟨RX2, "<init>", "()V"⟩
abbrev cX2_copyFrom : ByteArray := prog_4_method_2_code
def yX2_copyFrom : MethodName := ⟨RX2, "copyFrom", "(LNineWells$Finds;)V"⟩
abbrev cX2_append : ByteArray := prog_4_method_3_code
def yX2_append : MethodName := ⟨RX2, "append", "(III)I"⟩
abbrev cX2_isSo : ByteArray := prog_4_method_4_code
def yX2_isSo : MethodName := ⟨RX2, "isSo", "(ILNineWells$Wells;)Z"⟩
abbrev cX2_allSo : ByteArray := prog_4_method_5_code
def yX2_allSo : MethodName := ⟨RX2, "allSo", "(LNineWells$Wells;)Z"⟩
abbrev cX3_init : ByteArray := prog_5_method_1_code
def yX3_init : MethodName := ⟨RX3, "<init>", "(LNineWells$Row;)V"⟩
abbrev cX3_faultFor : ByteArray := prog_5_method_2_code
def yX3_faultFor : MethodName := ⟨RX3, "faultFor", "(I)I"⟩
abbrev cX3_reads : ByteArray := prog_5_method_3_code
def yX3_reads : MethodName := ⟨RX3, "reads", "(II)Z"⟩
abbrev cX3_readsUnit : ByteArray := prog_5_method_4_code
def yX3_readsUnit : MethodName := ⟨RX3, "readsUnit", "(I)Z"⟩
abbrev cX3_readsNot : ByteArray := prog_5_method_5_code
def yX3_readsNot : MethodName := ⟨RX3, "readsNot", "(I)Z"⟩
abbrev cX3_readsInside : ByteArray := prog_5_method_6_code
def yX3_readsInside : MethodName := ⟨RX3, "readsInside", "(I)Z"⟩
abbrev cX3_readNumber : ByteArray := prog_5_method_7_code
def yX3_readNumber : MethodName := ⟨RX3, "readNumber", "()V"⟩
abbrev cX3_next : ByteArray := prog_5_method_8_code
def yX3_next : MethodName := ⟨RX3, "next", "()I"⟩
abbrev cX3_isDigit : ByteArray := prog_5_method_9_code
def yX3_isDigit : MethodName := ⟨RX3, "isDigit", "(I)Z"⟩
abbrev cX3_nameOf : ByteArray := prog_5_method_10_code
def yX3_nameOf : MethodName := ⟨RX3, "nameOf", "(I)I"⟩
abbrev cX3_levelOf : ByteArray := prog_5_method_11_code
def yX3_levelOf : MethodName := ⟨RX3, "levelOf", "(I)I"⟩
abbrev cX4_init : ByteArray := prog_6_method_1_code
def yX4_init : MethodName := ⟨RX4, "<init>", "(I)V"⟩
abbrev cX4_copyFrom : ByteArray := prog_6_method_2_code
def yX4_copyFrom : MethodName := ⟨RX4, "copyFrom", "(LNineWells$Row;)V"⟩
abbrev cX4_append : ByteArray := prog_6_method_3_code
def yX4_append : MethodName := ⟨RX4, "append", "(I)V"⟩
abbrev cX5_init : ByteArray := prog_7_method_1_code
def yX5_init : MethodName := ⟨RX5, "<init>", "()V"⟩
abbrev cX5_clear : ByteArray := prog_7_method_2_code
def yX5_clear : MethodName := ⟨RX5, "clear", "(II)V"⟩
abbrev cX5_write : ByteArray := prog_7_method_3_code
def yX5_write : MethodName := ⟨RX5, "write", "(II)V"⟩
abbrev cX5_hasSpan : ByteArray := prog_7_method_4_code
def yX5_hasSpan : MethodName := ⟨RX5, "hasSpan", "(II)Z"⟩
abbrev cX6_init : ByteArray := prog_8_method_1_code
def yX6_init : MethodName := ⟨RX6, "<init>", "()V"⟩
abbrev cX6_copyFrom : ByteArray := prog_8_method_2_code
def yX6_copyFrom : MethodName := ⟨RX6, "copyFrom", "(LNineWells$Text;)V"⟩
abbrev cX6_append : ByteArray := prog_8_method_3_code
def yX6_append : MethodName := ⟨RX6, "append", "(I)V"⟩
abbrev cX6_worth : ByteArray := prog_8_method_4_code
def yX6_worth : MethodName := ⟨RX6, "worth", "(IIII)I"⟩
abbrev cX6_named : ByteArray := prog_8_method_5_code
def yX6_named : MethodName := ⟨RX6, "named", "(IIIII)I"⟩
abbrev cX6_joined : ByteArray := prog_8_method_6_code
def yX6_joined : MethodName := ⟨RX6, "joined", "(III)I"⟩
abbrev cX7_init : ByteArray := prog_9_method_1_code
def yX7_init : MethodName := ⟨RX7, "<init>", "()V"⟩
abbrev cX7_copyFrom : ByteArray := prog_9_method_2_code
def yX7_copyFrom : MethodName := ⟨RX7, "copyFrom", "(LNineWells$Things;)V"⟩
abbrev cX7_has : ByteArray := prog_9_method_3_code
def yX7_has : MethodName := ⟨RX7, "has", "(I)Z"⟩
abbrev cX7_make : ByteArray := prog_9_method_4_code
def yX7_make : MethodName := ⟨RX7, "make", "(II)I"⟩
abbrev cX7_place : ByteArray := prog_9_method_5_code
def yX7_place : MethodName := ⟨RX7, "place", "(IIII)V"⟩
abbrev cX7_wellOf : ByteArray := prog_9_method_6_code
def yX7_wellOf : MethodName := ⟨RX7, "wellOf", "(I)I"⟩
abbrev cX7_bits : ByteArray := prog_9_method_7_code
def yX7_bits : MethodName := ⟨RX7, "bits", "(II)I"⟩
abbrev cX7_others : ByteArray := prog_9_method_8_code
def yX7_others : MethodName := ⟨RX7, "others", "(III)I"⟩
abbrev cX7_belowBits : ByteArray := prog_9_method_9_code
def yX7_belowBits : MethodName := ⟨RX7, "belowBits", "()I"⟩
abbrev cX7_howManyOut : ByteArray := prog_9_method_10_code
def yX7_howManyOut : MethodName := ⟨RX7, "howManyOut", "()I"⟩
abbrev cX8_init : ByteArray := prog_10_method_1_code
def yX8_init : MethodName := ⟨RX8, "<init>", "()V"⟩
abbrev cX8_begin : ByteArray := prog_10_method_2_code
def yX8_begin : MethodName := ⟨RX8, "begin", "(IIIII)I"⟩
abbrev cX8_says : ByteArray := prog_10_method_3_code
def yX8_says : MethodName := ⟨RX8, "says", "(IIII)I"⟩
abbrev cX8_holderOf : ByteArray := prog_10_method_4_code
def yX8_holderOf : MethodName := ⟨RX8, "holderOf", "(II)I"⟩
abbrev cX8_note : ByteArray := prog_10_method_5_code
def yX8_note : MethodName := ⟨RX8, "note", "(I)V"⟩
abbrev cX9_init : ByteArray := prog_11_method_1_code
def yX9_init : MethodName := ⟨RX9, "<init>", "()V"⟩
abbrev cX9_copyFrom : ByteArray := prog_11_method_2_code
def yX9_copyFrom : MethodName := ⟨RX9, "copyFrom", "(LNineWells$Wells;)V"⟩
abbrev cX9_has : ByteArray := prog_11_method_3_code
def yX9_has : MethodName := ⟨RX9, "has", "(I)Z"⟩
abbrev cX9_dig : ByteArray := prog_11_method_4_code
def yX9_dig : MethodName := ⟨RX9, "dig", "()I"⟩
abbrev cX9_allows : ByteArray := prog_11_method_5_code
def yX9_allows : MethodName := ⟨RX9, "allows", "(II)Z"⟩
abbrev cX9_lead : ByteArray := prog_11_method_6_code
def yX9_lead : MethodName := ⟨RX9, "lead", "(III)V"⟩
abbrev cX9_leadsTo : ByteArray := prog_11_method_7_code
def yX9_leadsTo : MethodName := ⟨RX9, "leadsTo", "(I)I"⟩
abbrev cX9_daysOf : ByteArray := prog_11_method_8_code
def yX9_daysOf : MethodName := ⟨RX9, "daysOf", "(I)I"⟩
abbrev cX9_placeOn : ByteArray := prog_11_method_9_code
def yX9_placeOn : MethodName := ⟨RX9, "placeOn", "(II)I"⟩
abbrev cX9_leastSum : ByteArray := prog_11_method_10_code
def yX9_leastSum : MethodName := ⟨RX9, "leastSum", "(IIIZ)I"⟩
abbrev cX9_leastOfRing : ByteArray := prog_11_method_11_code
def yX9_leastOfRing : MethodName := ⟨RX9, "leastOfRing", "(I)I"⟩
abbrev cX9_deepBits : ByteArray := prog_11_method_12_code
def yX9_deepBits : MethodName := ⟨RX9, "deepBits", "()I"⟩
abbrev cX9_howManyRings : ByteArray := prog_11_method_13_code
def yX9_howManyRings : MethodName := ⟨RX9, "howManyRings", "()I"⟩
abbrev cX9_meetingDay : ByteArray := prog_11_method_14_code
def yX9_meetingDay : MethodName := ⟨RX9, "meetingDay", "(II)I"⟩
abbrev cX9_longestGoing : ByteArray := prog_11_method_15_code
def yX9_longestGoing : MethodName := ⟨RX9, "longestGoing", "()I"⟩
abbrev cX10_init : ByteArray := prog_12_method_1_code
def yX10_init : MethodName := ⟨RX10, "<init>", "(LNineWells$Text;LNineWells$Text;)V"⟩
abbrev cX10_copyFrom : ByteArray := prog_12_method_2_code
def yX10_copyFrom : MethodName := ⟨RX10, "copyFrom", "(LNineWells$World;)V"⟩
abbrev cX10_goBy : ByteArray := prog_12_method_3_code
def yX10_goBy : MethodName := ⟨RX10, "goBy", "(I)V"⟩
abbrev cX10_goDown : ByteArray := prog_12_method_4_code
def yX10_goDown : MethodName := ⟨RX10, "goDown", "(I)V"⟩
abbrev cX10_comeNearer : ByteArray := prog_12_method_5_code
def yX10_comeNearer : MethodName := ⟨RX10, "comeNearer", "(I)V"⟩
abbrev cX10_gives : ByteArray := prog_12_method_6_code
def yX10_gives : MethodName := ⟨RX10, "gives", "(IIIII)I"⟩
abbrev cX10_detail : ByteArray := prog_12_method_7_code
def yX10_detail : MethodName := ⟨RX10, "detail", "(II)I"⟩
abbrev cX10_month : ByteArray := prog_12_method_8_code
def yX10_month : MethodName := ⟨RX10, "month", "()I"⟩
abbrev cX10_lasts : ByteArray := prog_12_method_9_code
def yX10_lasts : MethodName := ⟨RX10, "lasts", "(I)I"⟩
abbrev cX10_lastsByKind : ByteArray := prog_12_method_10_code
def yX10_lastsByKind : MethodName := ⟨RX10, "lastsByKind", "(IIII)I"⟩
abbrev cX10_stays : ByteArray := prog_12_method_11_code
def yX10_stays : MethodName := ⟨RX10, "stays", "(I)Z"⟩
abbrev cX10_waitsForMore : ByteArray := prog_12_method_12_code
def yX10_waitsForMore : MethodName := ⟨RX10, "waitsForMore", "(I)Z"⟩
abbrev cX10_leaveAlone : ByteArray := prog_12_method_13_code
def yX10_leaveAlone : MethodName := ⟨RX10, "leaveAlone", "(II)V"⟩
abbrev cX11_init : ByteArray := prog_1_method_1_code
def yX11_init : MethodName := ⟨RX11, "<init>", "()V"⟩
abbrev cX11_well : ByteArray := prog_1_method_2_code
def yX11_well : MethodName := ⟨RX11, "well", "()I"⟩
abbrev cX11_going : ByteArray := prog_1_method_3_code
def yX11_going : MethodName := ⟨RX11, "going", "(III)I"⟩
abbrev cX11_set : ByteArray := prog_1_method_4_code
def yX11_set : MethodName := ⟨RX11, "set", "(III)I"⟩
abbrev cX11_ofWell : ByteArray := prog_1_method_5_code
def yX11_ofWell : MethodName := ⟨RX11, "ofWell", "(II)I"⟩
abbrev cX11_goings : ByteArray := prog_1_method_6_code
def yX11_goings : MethodName := ⟨RX11, "goings", "(I)I"⟩
abbrev cX11_thing : ByteArray := prog_1_method_7_code
def yX11_thing : MethodName := ⟨RX11, "thing", "(II)I"⟩
abbrev cX11_ofThing : ByteArray := prog_1_method_8_code
def yX11_ofThing : MethodName := ⟨RX11, "ofThing", "(II)I"⟩
abbrev cX11_as : ByteArray := prog_1_method_9_code
def yX11_as : MethodName := ⟨RX11, "as", "(II)I"⟩
abbrev cX11_let : ByteArray := prog_1_method_10_code
def yX11_let : MethodName := ⟨RX11, "let", "(II)I"⟩
abbrev cX11_fish : ByteArray := prog_1_method_11_code
def yX11_fish : MethodName := ⟨RX11, "fish", "(I)I"⟩
abbrev cX11_feed : ByteArray := prog_1_method_12_code
def yX11_feed : MethodName := ⟨RX11, "feed", "(JI)I"⟩
abbrev cX11_text : ByteArray := prog_1_method_13_code
def yX11_text : MethodName := ⟨RX11, "text", "(I)I"⟩
abbrev cX11_law : ByteArray := prog_1_method_14_code
def yX11_law : MethodName := ⟨RX11, "law", "(IIIII)I"⟩
abbrev cX11_days : ByteArray := prog_1_method_15_code
def yX11_days : MethodName := ⟨RX11, "days", "(I)I"⟩
abbrev cX11_floods : ByteArray := prog_1_method_16_code
def yX11_floods : MethodName := ⟨RX11, "floods", "(I)I"⟩
abbrev cX11_flood : ByteArray := prog_1_method_17_code
def yX11_flood : MethodName := ⟨RX11, "flood", "()V"⟩
abbrev cX11_then : ByteArray := prog_1_method_18_code
def yX11_then : MethodName := ⟨RX11, "then", "(III)I"⟩
abbrev cX11_in : ByteArray := prog_1_method_19_code
def yX11_in : MethodName := ⟨RX11, "in", "(II)I"⟩
abbrev cX11_seen : ByteArray := prog_1_method_20_code
def yX11_seen : MethodName := ⟨RX11, "seen", "(III)I"⟩
abbrev cX11_round : ByteArray := prog_1_method_21_code
def yX11_round : MethodName := ⟨RX11, "round", "(II)I"⟩
abbrev cX11_soon : ByteArray := prog_1_method_22_code
def yX11_soon : MethodName := ⟨RX11, "soon", "(III)I"⟩
abbrev cX11_cheap : ByteArray := prog_1_method_23_code
def yX11_cheap : MethodName := ⟨RX11, "cheap", "(III)I"⟩
abbrev cX11_rings : ByteArray := prog_1_method_24_code
def yX11_rings : MethodName := ⟨RX11, "rings", "(I)I"⟩
abbrev cX11_meet : ByteArray := prog_1_method_25_code
def yX11_meet : MethodName := ⟨RX11, "meet", "(II)I"⟩
abbrev cX11_tenth : ByteArray := prog_1_method_26_code
def yX11_tenth : MethodName := ⟨RX11, "tenth", "()I"⟩
abbrev cX11_find : ByteArray := prog_1_method_27_code
def yX11_find : MethodName := ⟨RX11, "find", "(III)I"⟩
abbrev cX11_forget : ByteArray := prog_1_method_28_code
def yX11_forget : MethodName := ⟨RX11, "forget", "()I"⟩
abbrev cX11_agrees : ByteArray := prog_1_method_29_code
def yX11_agrees : MethodName := ⟨RX11, "agrees", "(I)I"⟩
abbrev cX11_belows : ByteArray := prog_1_method_30_code
def yX11_belows : MethodName := ⟨RX11, "belows", "(III)I"⟩
abbrev cX11_cork : ByteArray := prog_1_method_31_code
def yX11_cork : MethodName := ⟨RX11, "cork", "(IIII)I"⟩
abbrev cX11_seed : ByteArray := prog_1_method_32_code
def yX11_seed : MethodName := ⟨RX11, "seed", "(I)I"⟩
abbrev cX11_voice : ByteArray := prog_1_method_33_code
def yX11_voice : MethodName := ⟨RX11, "voice", "(III)I"⟩
abbrev cX11_trace : ByteArray := prog_1_method_34_code
def yX11_trace : MethodName := ⟨RX11, "trace", "(I)I"⟩
abbrev cX11_sheet : ByteArray := prog_1_method_35_code
def yX11_sheet : MethodName := ⟨RX11, "sheet", "(III)I"⟩
abbrev cX11_put : ByteArray := prog_1_method_36_code
def yX11_put : MethodName := ⟨RX11, "put", "(III)I"⟩
abbrev cX11_move : ByteArray := prog_1_method_37_code
def yX11_move : MethodName := ⟨RX11, "move", "(IIIII)I"⟩
abbrev cX11_image : ByteArray := prog_1_method_38_code
def yX11_image : MethodName := ⟨RX11, "image", "()I"⟩
abbrev cX11_restore : ByteArray := prog_1_method_39_code
def yX11_restore : MethodName := ⟨RX11, "restore", "()I"⟩
abbrev cX11_tell : ByteArray := prog_1_method_40_code
def yX11_tell : MethodName := ⟨RX11, "tell", "(I)I"⟩
abbrev cX11_check : ByteArray := prog_1_method_41_code
def yX11_check : MethodName := ⟨RX11, "check", "(I)I"⟩
abbrev cX11_count : ByteArray := prog_1_method_42_code
def yX11_count : MethodName := ⟨RX11, "count", "(I)I"⟩
abbrev cX11_told : ByteArray := prog_1_method_43_code
def yX11_told : MethodName := ⟨RX11, "told", "(I)I"⟩
abbrev cX11_error : ByteArray := prog_1_method_44_code
def yX11_error : MethodName := ⟨RX11, "error", "(I)I"⟩
abbrev cX11_sheetAt : ByteArray := prog_1_method_45_code
def yX11_sheetAt : MethodName := ⟨RX11, "sheetAt", "(I)LNineWells$Sheet;"⟩
abbrev cX11_within : ByteArray := prog_1_method_46_code
def yX11_within : MethodName := ⟨RX11, "within", "(III)Z"⟩
abbrev cX11_isKind : ByteArray := prog_1_method_47_code
def yX11_isKind : MethodName := ⟨RX11, "isKind", "(I)Z"⟩
abbrev cX11_isUse : ByteArray := prog_1_method_48_code
def yX11_isUse : MethodName := ⟨RX11, "isUse", "(I)Z"⟩
abbrev cX11_isDetail : ByteArray := prog_1_method_49_code
def yX11_isDetail : MethodName := ⟨RX11, "isDetail", "(I)Z"⟩
abbrev cX11_isUnder : ByteArray := prog_1_method_50_code
def yX11_isUnder : MethodName := ⟨RX11, "isUnder", "(II)Z"⟩
abbrev cX11_pick : ByteArray := prog_1_method_51_code
def yX11_pick : MethodName := ⟨RX11, "pick", "([II)I"⟩
abbrev cX11_lay : ByteArray := prog_1_method_52_code
def yX11_lay : MethodName := ⟨RX11, "lay", "([III)V"⟩
abbrev cX11_copyRow : ByteArray := prog_1_method_53_code
def yX11_copyRow : MethodName := ⟨RX11, "copyRow", "([I[I)V"⟩
abbrev cX12_init : ByteArray := prog_14_method_1_code
def yX12_init : MethodName := ⟨RX12, "<init>", "()V"⟩
abbrev cX12_finds : ByteArray := prog_14_method_3_code
def yX12_finds : MethodName := ⟨RX12, "finds", "(I)I"⟩
abbrev cX12_isIn : ByteArray := prog_14_method_4_code
def yX12_isIn : MethodName := ⟨RX12, "isIn", "(JJJ)Z"⟩
abbrev cX12_held : ByteArray := prog_14_method_5_code
def yX12_held : MethodName := ⟨RX12, "held", "(III)I"⟩
abbrev cX12_copies : ByteArray := prog_14_method_6_code
def yX12_copies : MethodName := ⟨RX12, "copies", "([I[I)V"⟩
abbrev cX12_isWell : ByteArray := prog_14_method_7_code
def yX12_isWell : MethodName := ⟨RX12, "isWell", "(I)Z"⟩
abbrev cX12_isThing : ByteArray := prog_14_method_8_code
def yX12_isThing : MethodName := ⟨RX12, "isThing", "(I)Z"⟩
abbrev cX12_aWell : ByteArray := prog_14_method_9_code
def yX12_aWell : MethodName := ⟨RX12, "aWell", "([III)I"⟩
abbrev cX12_aThing : ByteArray := prog_14_method_10_code
def yX12_aThing : MethodName := ⟨RX12, "aThing", "([III)I"⟩
abbrev cX12_here : ByteArray := prog_14_method_11_code
def yX12_here : MethodName := ⟨RX12, "here", "()I"⟩
abbrev cX12_wrong : ByteArray := prog_14_method_12_code
def yX12_wrong : MethodName := ⟨RX12, "wrong", "()I"⟩
abbrev cX12_takes : ByteArray := prog_14_method_13_code
def yX12_takes : MethodName := ⟨RX12, "takes", "(I)Z"⟩
abbrev cX12_nameOf : ByteArray := prog_14_method_14_code
def yX12_nameOf : MethodName := ⟨RX12, "nameOf", "(I)I"⟩
abbrev cX12_either : ByteArray := prog_14_method_15_code
def yX12_either : MethodName := ⟨RX12, "either", "()I"⟩
abbrev cX12_both : ByteArray := prog_14_method_16_code
def yX12_both : MethodName := ⟨RX12, "both", "()I"⟩
abbrev cX12_compared : ByteArray := prog_14_method_17_code
def yX12_compared : MethodName := ⟨RX12, "compared", "()I"⟩
abbrev cX12_sum : ByteArray := prog_14_method_18_code
def yX12_sum : MethodName := ⟨RX12, "sum", "()I"⟩
abbrev cX12_product : ByteArray := prog_14_method_19_code
def yX12_product : MethodName := ⟨RX12, "product", "()I"⟩
abbrev cX12_unit : ByteArray := prog_14_method_20_code
def yX12_unit : MethodName := ⟨RX12, "unit", "()I"⟩
abbrev cX12_worked : ByteArray := prog_14_method_21_code
def yX12_worked : MethodName := ⟨RX12, "worked", "(III)I"⟩
abbrev cX12_feed : ByteArray := prog_14_method_22_code
def yX12_feed : MethodName := ⟨RX12, "feed", "(JI)I"⟩
abbrev cX12_text : ByteArray := prog_14_method_23_code
def yX12_text : MethodName := ⟨RX12, "text", "(I)I"⟩
abbrev cX12_gives : ByteArray := prog_14_method_24_code
def yX12_gives : MethodName := ⟨RX12, "gives", "(IIIII)I"⟩
abbrev cX12_law : ByteArray := prog_14_method_25_code
def yX12_law : MethodName := ⟨RX12, "law", "(IIIII)I"⟩
abbrev cX12_well : ByteArray := prog_14_method_26_code
def yX12_well : MethodName := ⟨RX12, "well", "()I"⟩
abbrev cX12_mayGo : ByteArray := prog_14_method_27_code
def yX12_mayGo : MethodName := ⟨RX12, "mayGo", "(II)Z"⟩
abbrev cX12_leads : ByteArray := prog_14_method_28_code
def yX12_leads : MethodName := ⟨RX12, "leads", "(III)V"⟩
abbrev cX12_going : ByteArray := prog_14_method_29_code
def yX12_going : MethodName := ⟨RX12, "going", "(III)I"⟩
abbrev cX12_set : ByteArray := prog_14_method_30_code
def yX12_set : MethodName := ⟨RX12, "set", "(III)I"⟩
abbrev cX12_thingsIn : ByteArray := prog_14_method_31_code
def yX12_thingsIn : MethodName := ⟨RX12, "thingsIn", "([III)I"⟩
abbrev cX12_ofWell : ByteArray := prog_14_method_32_code
def yX12_ofWell : MethodName := ⟨RX12, "ofWell", "(II)I"⟩
abbrev cX12_goings : ByteArray := prog_14_method_33_code
def yX12_goings : MethodName := ⟨RX12, "goings", "(I)I"⟩
abbrev cX12_thing : ByteArray := prog_14_method_34_code
def yX12_thing : MethodName := ⟨RX12, "thing", "(II)I"⟩
abbrev cX12_many : ByteArray := prog_14_method_35_code
def yX12_many : MethodName := ⟨RX12, "many", "(I)I"⟩
abbrev cX12_month : ByteArray := prog_14_method_36_code
def yX12_month : MethodName := ⟨RX12, "month", "([I)I"⟩
abbrev cX12_lasts : ByteArray := prog_14_method_37_code
def yX12_lasts : MethodName := ⟨RX12, "lasts", "([II)I"⟩
abbrev cX12_stays : ByteArray := prog_14_method_38_code
def yX12_stays : MethodName := ⟨RX12, "stays", "([II)Z"⟩
abbrev cX12_ofIt : ByteArray := prog_14_method_39_code
def yX12_ofIt : MethodName := ⟨RX12, "ofIt", "([III)I"⟩
abbrev cX12_ofThing : ByteArray := prog_14_method_40_code
def yX12_ofThing : MethodName := ⟨RX12, "ofThing", "(II)I"⟩
abbrev cX12_isOf : ByteArray := prog_14_method_41_code
def yX12_isOf : MethodName := ⟨RX12, "isOf", "(II)Z"⟩
abbrev cX12_as : ByteArray := prog_14_method_42_code
def yX12_as : MethodName := ⟨RX12, "as", "(II)I"⟩
abbrev cX12_itsKind : ByteArray := prog_14_method_43_code
def yX12_itsKind : MethodName := ⟨RX12, "itsKind", "(I)I"⟩
abbrev cX12_puts : ByteArray := prog_14_method_44_code
def yX12_puts : MethodName := ⟨RX12, "puts", "([IIIII)V"⟩
abbrev cX12_isNow : ByteArray := prog_14_method_45_code
def yX12_isNow : MethodName := ⟨RX12, "isNow", "(I)I"⟩
abbrev cX12_let : ByteArray := prog_14_method_46_code
def yX12_let : MethodName := ⟨RX12, "let", "(II)I"⟩
abbrev cX12_fish : ByteArray := prog_14_method_47_code
def yX12_fish : MethodName := ⟨RX12, "fish", "(I)I"⟩
abbrev cX12_goesUp : ByteArray := prog_14_method_48_code
def yX12_goesUp : MethodName := ⟨RX12, "goesUp", "([II)V"⟩
abbrev cX12_goesBy : ByteArray := prog_14_method_49_code
def yX12_goesBy : MethodName := ⟨RX12, "goesBy", "([I)V"⟩
abbrev cX12_goesOn : ByteArray := prog_14_method_50_code
def yX12_goesOn : MethodName := ⟨RX12, "goesOn", "([II)V"⟩
abbrev cX12_days : ByteArray := prog_14_method_51_code
def yX12_days : MethodName := ⟨RX12, "days", "(I)I"⟩
abbrev cX12_drawn : ByteArray := prog_14_method_52_code
def yX12_drawn : MethodName := ⟨RX12, "drawn", "()I"⟩
abbrev cX12_floods : ByteArray := prog_14_method_53_code
def yX12_floods : MethodName := ⟨RX12, "floods", "(I)I"⟩
abbrev cX12_isAhead : ByteArray := prog_14_method_54_code
def yX12_isAhead : MethodName := ⟨RX12, "isAhead", "(I)Z"⟩
abbrev cX12_ahead : ByteArray := prog_14_method_55_code
def yX12_ahead : MethodName := ⟨RX12, "ahead", "(I)V"⟩
abbrev cX12_then : ByteArray := prog_14_method_56_code
def yX12_then : MethodName := ⟨RX12, "then", "(III)I"⟩
abbrev cX12_in : ByteArray := prog_14_method_57_code
def yX12_in : MethodName := ⟨RX12, "in", "(II)I"⟩
abbrev cX12_inWhich : ByteArray := prog_14_method_58_code
def yX12_inWhich : MethodName := ⟨RX12, "inWhich", "([II)I"⟩
abbrev cX12_seen : ByteArray := prog_14_method_59_code
def yX12_seen : MethodName := ⟨RX12, "seen", "(III)I"⟩
abbrev cX12_round : ByteArray := prog_14_method_60_code
def yX12_round : MethodName := ⟨RX12, "round", "(II)I"⟩
abbrev cX12_least : ByteArray := prog_14_method_61_code
def yX12_least : MethodName := ⟨RX12, "least", "(IIIZ)I"⟩
abbrev cX12_itsWell : ByteArray := prog_14_method_62_code
def yX12_itsWell : MethodName := ⟨RX12, "itsWell", "(II)I"⟩
abbrev cX12_soon : ByteArray := prog_14_method_63_code
def yX12_soon : MethodName := ⟨RX12, "soon", "(III)I"⟩
abbrev cX12_cheap : ByteArray := prog_14_method_64_code
def yX12_cheap : MethodName := ⟨RX12, "cheap", "(III)I"⟩
abbrev cX12_ringOf : ByteArray := prog_14_method_65_code
def yX12_ringOf : MethodName := ⟨RX12, "ringOf", "(I)I"⟩
abbrev cX12_rings : ByteArray := prog_14_method_66_code
def yX12_rings : MethodName := ⟨RX12, "rings", "(I)I"⟩
abbrev cX12_walk : ByteArray := prog_14_method_67_code
def yX12_walk : MethodName := ⟨RX12, "walk", "(IIIII)I"⟩
abbrev cX12_meet : ByteArray := prog_14_method_68_code
def yX12_meet : MethodName := ⟨RX12, "meet", "(II)I"⟩
abbrev cX12_tenth : ByteArray := prog_14_method_69_code
def yX12_tenth : MethodName := ⟨RX12, "tenth", "()I"⟩
abbrev cX12_find : ByteArray := prog_14_method_70_code
def yX12_find : MethodName := ⟨RX12, "find", "(III)I"⟩
abbrev cX12_forget : ByteArray := prog_14_method_71_code
def yX12_forget : MethodName := ⟨RX12, "forget", "()I"⟩
abbrev cX12_isSo : ByteArray := prog_14_method_72_code
def yX12_isSo : MethodName := ⟨RX12, "isSo", "(IIII)Z"⟩
abbrev cX12_agrees : ByteArray := prog_14_method_73_code
def yX12_agrees : MethodName := ⟨RX12, "agrees", "(I)I"⟩
abbrev cX12_areSo : ByteArray := prog_14_method_74_code
def yX12_areSo : MethodName := ⟨RX12, "areSo", "(III)Z"⟩
abbrev cX12_belows : ByteArray := prog_14_method_75_code
def yX12_belows : MethodName := ⟨RX12, "belows", "(III)I"⟩
abbrev cX12_cork : ByteArray := prog_14_method_76_code
def yX12_cork : MethodName := ⟨RX12, "cork", "(IIII)I"⟩
abbrev cX12_seed : ByteArray := prog_14_method_77_code
def yX12_seed : MethodName := ⟨RX12, "seed", "(I)I"⟩
abbrev cX12_ran : ByteArray := prog_14_method_78_code
def yX12_ran : MethodName := ⟨RX12, "ran", "(I)V"⟩
abbrev cX12_above : ByteArray := prog_14_method_79_code
def yX12_above : MethodName := ⟨RX12, "above", "(I)I"⟩
abbrev cX12_sinks : ByteArray := prog_14_method_80_code
def yX12_sinks : MethodName := ⟨RX12, "sinks", "(II)I"⟩
abbrev cX12_goes : ByteArray := prog_14_method_81_code
def yX12_goes : MethodName := ⟨RX12, "goes", "(II)I"⟩
abbrev cX12_waitsFor : ByteArray := prog_14_method_82_code
def yX12_waitsFor : MethodName := ⟨RX12, "waitsFor", "(II)I"⟩
abbrev cX12_tells : ByteArray := prog_14_method_83_code
def yX12_tells : MethodName := ⟨RX12, "tells", "(II)I"⟩
abbrev cX12_voice : ByteArray := prog_14_method_84_code
def yX12_voice : MethodName := ⟨RX12, "voice", "(III)I"⟩
abbrev cX12_trace : ByteArray := prog_14_method_85_code
def yX12_trace : MethodName := ⟨RX12, "trace", "(I)I"⟩
abbrev cX12_isSheet : ByteArray := prog_14_method_86_code
def yX12_isSheet : MethodName := ⟨RX12, "isSheet", "(I)Z"⟩
abbrev cX12_sheet : ByteArray := prog_14_method_87_code
def yX12_sheet : MethodName := ⟨RX12, "sheet", "(III)I"⟩
abbrev cX12_put : ByteArray := prog_14_method_88_code
def yX12_put : MethodName := ⟨RX12, "put", "(III)I"⟩
abbrev cX12_move : ByteArray := prog_14_method_89_code
def yX12_move : MethodName := ⟨RX12, "move", "(IIIII)I"⟩
abbrev cX12_image : ByteArray := prog_14_method_90_code
def yX12_image : MethodName := ⟨RX12, "image", "()I"⟩
abbrev cX12_restore : ByteArray := prog_14_method_91_code
def yX12_restore : MethodName := ⟨RX12, "restore", "()I"⟩
abbrev cX12_tell : ByteArray := prog_14_method_92_code
def yX12_tell : MethodName := ⟨RX12, "tell", "(I)I"⟩
abbrev cX12_check : ByteArray := prog_14_method_93_code
def yX12_check : MethodName := ⟨RX12, "check", "(I)I"⟩
abbrev cX12_manyOut : ByteArray := prog_14_method_94_code
def yX12_manyOut : MethodName := ⟨RX12, "manyOut", "()I"⟩
abbrev cX12_count : ByteArray := prog_14_method_95_code
def yX12_count : MethodName := ⟨RX12, "count", "(I)I"⟩
abbrev cX12_told : ByteArray := prog_14_method_96_code
def yX12_told : MethodName := ⟨RX12, "told", "(I)I"⟩
abbrev cJ6_bitCount_0f7a4 : ByteArray := prog_15_method_49_code
def yJ6_bitCount_0f7a4 : MethodName := ⟨RJ6, "bitCount", "(I)I"⟩
abbrev cJ9_max_7cf53 : ByteArray := prog_16_method_65_code
def yJ9_max_7cf53 : MethodName := ⟨RJ9, "max", "(II)I"⟩
abbrev cJ9_min_7cf53 : ByteArray := prog_16_method_69_code
def yJ9_min_7cf53 : MethodName := ⟨RJ9, "min", "(II)I"⟩
abbrev cL_law : ByteArray := code
def yL_law : MethodName := ⟨RL, "law", "([I)Z"⟩
abbrev mCl : List vw_C := [(RX0, TX0, 5), (RX1, TX1, 6), (RX2, TX2, 4), (RX3, TX3, 4), (RX4, TX4, 2), (RX5, TX5, 3), (RX6, TX6, 3), (RX7, TX7, 7), (RX8, TX8, 5), (RX9, TX9, 5), (RX10, TX10, 5), (RX11, TX11, 11), (RX12, TX12, 21)]
/-- field kinds by class: 0 int, 1 boolean, 2 reference -/
def mFk : List (List Nat) := [[2, 2, 0, 0, 0], [2, 2, 2, 2, 2, 0], [2, 2, 2, 0], [2, 2, 0, 0], [2, 0], [2, 0, 0], [2, 2, 0], [2, 2, 2, 2, 2, 2, 0], [2, 0, 0, 0, 0], [2, 2, 2, 2, 0], [2, 2, 2, 2, 0], [2, 2, 2, 2, 2, 2, 2, 2, 2, 2, 0], [2, 2, 2, 0, 2, 0, 0, 0, 0, 0, 1, 2, 2, 2, 2, 0, 0, 2, 2, 2, 2]]
/-- the methods: name, code, locals, what they return -/
def mM : List (MethodName × ByteArray × Nat × Option FieldType) := [(yX0_init, cX0_init, 1, none),
  (yX0_search, cX0_search, 8, none),
  (yX0_note, cX0_note, 7, none),
  (yX0_howManyPlaces, cX0_howManyPlaces, 2, (some .int)),
  (yX0_bestStart, cX0_bestStart, 4, (some .int)),
  (yX1_init, cX1_init, 1, none),
  (yX1_copyFrom, cX1_copyFrom, 2, none),
  (yX1_draw, cX1_draw, 1, (some .int)),
  (yX2_init, cX2_init, 1, none),
  (yX2_copyFrom, cX2_copyFrom, 2, none),
  (yX2_append, cX2_append, 5, (some .int)),
  (yX2_isSo, cX2_isSo, 3, (some .boolean)),
  (yX2_allSo, cX2_allSo, 3, (some .boolean)),
  (yX3_init, cX3_init, 2, none),
  (yX3_faultFor, cX3_faultFor, 2, (some .int)),
  (yX3_reads, cX3_reads, 6, (some .boolean)),
  (yX3_readsUnit, cX3_readsUnit, 4, (some .boolean)),
  (yX3_readsNot, cX3_readsNot, 2, (some .boolean)),
  (yX3_readsInside, cX3_readsInside, 2, (some .boolean)),
  (yX3_readNumber, cX3_readNumber, 3, none),
  (yX3_next, cX3_next, 1, (some .int)),
  (yX3_isDigit, cX3_isDigit, 1, (some .boolean)),
  (yX3_nameOf, cX3_nameOf, 2, (some .int)),
  (yX3_levelOf, cX3_levelOf, 1, (some .int)),
  (yX4_init, cX4_init, 2, none),
  (yX4_copyFrom, cX4_copyFrom, 2, none),
  (yX4_append, cX4_append, 2, none),
  (yX5_init, cX5_init, 1, none),
  (yX5_clear, cX5_clear, 4, none),
  (yX5_write, cX5_write, 3, none),
  (yX5_hasSpan, cX5_hasSpan, 3, (some .boolean)),
  (yX6_init, cX6_init, 1, none),
  (yX6_copyFrom, cX6_copyFrom, 2, none),
  (yX6_append, cX6_append, 2, none),
  (yX6_worth, cX6_worth, 8, (some .int)),
  (yX6_named, cX6_named, 5, (some .int)),
  (yX6_joined, cX6_joined, 3, (some .int)),
  (yX7_init, cX7_init, 1, none),
  (yX7_copyFrom, cX7_copyFrom, 2, none),
  (yX7_has, cX7_has, 2, (some .boolean)),
  (yX7_make, cX7_make, 4, (some .int)),
  (yX7_place, cX7_place, 5, none),
  (yX7_wellOf, cX7_wellOf, 2, (some .int)),
  (yX7_bits, cX7_bits, 5, (some .int)),
  (yX7_others, cX7_others, 4, (some .int)),
  (yX7_belowBits, cX7_belowBits, 3, (some .int)),
  (yX7_howManyOut, cX7_howManyOut, 3, (some .int)),
  (yX8_init, cX8_init, 1, none),
  (yX8_begin, cX8_begin, 6, (some .int)),
  (yX8_says, cX8_says, 9, (some .int)),
  (yX8_holderOf, cX8_holderOf, 4, (some .int)),
  (yX8_note, cX8_note, 2, none),
  (yX9_init, cX9_init, 1, none),
  (yX9_copyFrom, cX9_copyFrom, 2, none),
  (yX9_has, cX9_has, 2, (some .boolean)),
  (yX9_dig, cX9_dig, 2, (some .int)),
  (yX9_allows, cX9_allows, 3, (some .boolean)),
  (yX9_lead, cX9_lead, 4, none),
  (yX9_leadsTo, cX9_leadsTo, 2, (some .int)),
  (yX9_daysOf, cX9_daysOf, 2, (some .int)),
  (yX9_placeOn, cX9_placeOn, 6, (some .int)),
  (yX9_leastSum, cX9_leastSum, 9, (some .int)),
  (yX9_leastOfRing, cX9_leastOfRing, 5, (some .int)),
  (yX9_deepBits, cX9_deepBits, 3, (some .int)),
  (yX9_howManyRings, cX9_howManyRings, 3, (some .int)),
  (yX9_meetingDay, cX9_meetingDay, 10, (some .int)),
  (yX9_longestGoing, cX9_longestGoing, 3, (some .int)),
  (yX10_init, cX10_init, 3, none),
  (yX10_copyFrom, cX10_copyFrom, 2, none),
  (yX10_goBy, cX10_goBy, 5, none),
  (yX10_goDown, cX10_goDown, 3, none),
  (yX10_comeNearer, cX10_comeNearer, 6, none),
  (yX10_gives, cX10_gives, 6, (some .int)),
  (yX10_detail, cX10_detail, 4, (some .int)),
  (yX10_month, cX10_month, 1, (some .int)),
  (yX10_lasts, cX10_lasts, 5, (some .int)),
  (yX10_lastsByKind, cX10_lastsByKind, 6, (some .int)),
  (yX10_stays, cX10_stays, 2, (some .boolean)),
  (yX10_waitsForMore, cX10_waitsForMore, 3, (some .boolean)),
  (yX10_leaveAlone, cX10_leaveAlone, 4, none),
  (yX11_init, cX11_init, 2, none),
  (yX11_well, cX11_well, 1, (some .int)),
  (yX11_going, cX11_going, 6, (some .int)),
  (yX11_set, cX11_set, 6, (some .int)),
  (yX11_ofWell, cX11_ofWell, 4, (some .int)),
  (yX11_goings, cX11_goings, 8, (some .int)),
  (yX11_thing, cX11_thing, 3, (some .int)),
  (yX11_ofThing, cX11_ofThing, 3, (some .int)),
  (yX11_as, cX11_as, 3, (some .int)),
  (yX11_let, cX11_let, 3, (some .int)),
  (yX11_fish, cX11_fish, 3, (some .int)),
  (yX11_feed, cX11_feed, 5, (some .int)),
  (yX11_text, cX11_text, 4, (some .int)),
  (yX11_law, cX11_law, 6, (some .int)),
  (yX11_days, cX11_days, 2, (some .int)),
  (yX11_floods, cX11_floods, 3, (some .int)),
  (yX11_flood, cX11_flood, 5, none),
  (yX11_then, cX11_then, 4, (some .int)),
  (yX11_in, cX11_in, 3, (some .int)),
  (yX11_seen, cX11_seen, 5, (some .int)),
  (yX11_round, cX11_round, 5, (some .int)),
  (yX11_soon, cX11_soon, 4, (some .int)),
  (yX11_cheap, cX11_cheap, 4, (some .int)),
  (yX11_rings, cX11_rings, 2, (some .int)),
  (yX11_meet, cX11_meet, 4, (some .int)),
  (yX11_tenth, cX11_tenth, 2, (some .int)),
  (yX11_find, cX11_find, 4, (some .int)),
  (yX11_forget, cX11_forget, 2, (some .int)),
  (yX11_agrees, cX11_agrees, 2, (some .int)),
  (yX11_belows, cX11_belows, 4, (some .int)),
  (yX11_cork, cX11_cork, 6, (some .int)),
  (yX11_seed, cX11_seed, 3, (some .int)),
  (yX11_voice, cX11_voice, 5, (some .int)),
  (yX11_trace, cX11_trace, 2, (some .int)),
  (yX11_sheet, cX11_sheet, 5, (some .int)),
  (yX11_put, cX11_put, 5, (some .int)),
  (yX11_move, cX11_move, 8, (some .int)),
  (yX11_image, cX11_image, 1, (some .int)),
  (yX11_restore, cX11_restore, 1, (some .int)),
  (yX11_tell, cX11_tell, 2, (some .int)),
  (yX11_check, cX11_check, 4, (some .int)),
  (yX11_count, cX11_count, 2, (some .int)),
  (yX11_told, cX11_told, 2, (some .int)),
  (yX11_error, cX11_error, 2, (some .int)),
  (yX11_sheetAt, cX11_sheetAt, 2, (Option.some (Jvm.ClassFile.FieldType.object "NineWells$Sheet"))),
  (yX11_within, cX11_within, 3, (some .boolean)),
  (yX11_isKind, cX11_isKind, 1, (some .boolean)),
  (yX11_isUse, cX11_isUse, 1, (some .boolean)),
  (yX11_isDetail, cX11_isDetail, 1, (some .boolean)),
  (yX11_isUnder, cX11_isUnder, 4, (some .boolean)),
  (yX11_pick, cX11_pick, 2, (some .int)),
  (yX11_lay, cX11_lay, 3, none),
  (yX11_copyRow, cX11_copyRow, 2, none),
  (yX12_init, cX12_init, 1, none),
  (yX12_finds, cX12_finds, 2, (some .int)),
  (yX12_isIn, cX12_isIn, 6, (some .boolean)),
  (yX12_held, cX12_held, 3, (some .int)),
  (yX12_copies, cX12_copies, 3, none),
  (yX12_isWell, cX12_isWell, 2, (some .boolean)),
  (yX12_isThing, cX12_isThing, 2, (some .boolean)),
  (yX12_aWell, cX12_aWell, 3, (some .int)),
  (yX12_aThing, cX12_aThing, 3, (some .int)),
  (yX12_here, cX12_here, 1, (some .int)),
  (yX12_wrong, cX12_wrong, 1, (some .int)),
  (yX12_takes, cX12_takes, 2, (some .boolean)),
  (yX12_nameOf, cX12_nameOf, 2, (some .int)),
  (yX12_either, cX12_either, 3, (some .int)),
  (yX12_both, cX12_both, 3, (some .int)),
  (yX12_compared, cX12_compared, 4, (some .int)),
  (yX12_sum, cX12_sum, 4, (some .int)),
  (yX12_product, cX12_product, 4, (some .int)),
  (yX12_unit, cX12_unit, 5, (some .int)),
  (yX12_worked, cX12_worked, 5, (some .int)),
  (yX12_feed, cX12_feed, 5, (some .int)),
  (yX12_text, cX12_text, 5, (some .int)),
  (yX12_gives, cX12_gives, 7, (some .int)),
  (yX12_law, cX12_law, 6, (some .int)),
  (yX12_well, cX12_well, 2, (some .int)),
  (yX12_mayGo, cX12_mayGo, 3, (some .boolean)),
  (yX12_leads, cX12_leads, 4, none),
  (yX12_going, cX12_going, 5, (some .int)),
  (yX12_set, cX12_set, 5, (some .int)),
  (yX12_thingsIn, cX12_thingsIn, 5, (some .int)),
  (yX12_ofWell, cX12_ofWell, 3, (some .int)),
  (yX12_goings, cX12_goings, 3, (some .int)),
  (yX12_thing, cX12_thing, 4, (some .int)),
  (yX12_many, cX12_many, 3, (some .int)),
  (yX12_month, cX12_month, 1, (some .int)),
  (yX12_lasts, cX12_lasts, 8, (some .int)),
  (yX12_stays, cX12_stays, 6, (some .boolean)),
  (yX12_ofIt, cX12_ofIt, 5, (some .int)),
  (yX12_ofThing, cX12_ofThing, 3, (some .int)),
  (yX12_isOf, cX12_isOf, 2, (some .boolean)),
  (yX12_as, cX12_as, 3, (some .int)),
  (yX12_itsKind, cX12_itsKind, 2, (some .int)),
  (yX12_puts, cX12_puts, 5, none),
  (yX12_isNow, cX12_isNow, 2, (some .int)),
  (yX12_let, cX12_let, 3, (some .int)),
  (yX12_fish, cX12_fish, 3, (some .int)),
  (yX12_goesUp, cX12_goesUp, 6, none),
  (yX12_goesBy, cX12_goesBy, 4, none),
  (yX12_goesOn, cX12_goesOn, 4, none),
  (yX12_days, cX12_days, 2, (some .int)),
  (yX12_drawn, cX12_drawn, 1, (some .int)),
  (yX12_floods, cX12_floods, 5, (some .int)),
  (yX12_isAhead, cX12_isAhead, 1, (some .boolean)),
  (yX12_ahead, cX12_ahead, 2, none),
  (yX12_then, cX12_then, 4, (some .int)),
  (yX12_in, cX12_in, 3, (some .int)),
  (yX12_inWhich, cX12_inWhich, 2, (some .int)),
  (yX12_seen, cX12_seen, 5, (some .int)),
  (yX12_round, cX12_round, 5, (some .int)),
  (yX12_least, cX12_least, 10, (some .int)),
  (yX12_itsWell, cX12_itsWell, 3, (some .int)),
  (yX12_soon, cX12_soon, 4, (some .int)),
  (yX12_cheap, cX12_cheap, 4, (some .int)),
  (yX12_ringOf, cX12_ringOf, 4, (some .int)),
  (yX12_rings, cX12_rings, 9, (some .int)),
  (yX12_walk, cX12_walk, 8, (some .int)),
  (yX12_meet, cX12_meet, 5, (some .int)),
  (yX12_tenth, cX12_tenth, 3, (some .int)),
  (yX12_find, cX12_find, 5, (some .int)),
  (yX12_forget, cX12_forget, 2, (some .int)),
  (yX12_isSo, cX12_isSo, 5, (some .boolean)),
  (yX12_agrees, cX12_agrees, 2, (some .int)),
  (yX12_areSo, cX12_areSo, 5, (some .boolean)),
  (yX12_belows, cX12_belows, 9, (some .int)),
  (yX12_cork, cX12_cork, 11, (some .int)),
  (yX12_seed, cX12_seed, 3, (some .int)),
  (yX12_ran, cX12_ran, 2, none),
  (yX12_above, cX12_above, 1, (some .int)),
  (yX12_sinks, cX12_sinks, 3, (some .int)),
  (yX12_goes, cX12_goes, 4, (some .int)),
  (yX12_waitsFor, cX12_waitsFor, 3, (some .int)),
  (yX12_tells, cX12_tells, 4, (some .int)),
  (yX12_voice, cX12_voice, 5, (some .int)),
  (yX12_trace, cX12_trace, 2, (some .int)),
  (yX12_isSheet, cX12_isSheet, 1, (some .boolean)),
  (yX12_sheet, cX12_sheet, 5, (some .int)),
  (yX12_put, cX12_put, 4, (some .int)),
  (yX12_move, cX12_move, 7, (some .int)),
  (yX12_image, cX12_image, 1, (some .int)),
  (yX12_restore, cX12_restore, 1, (some .int)),
  (yX12_tell, cX12_tell, 2, (some .int)),
  (yX12_check, cX12_check, 4, (some .int)),
  (yX12_manyOut, cX12_manyOut, 3, (some .int)),
  (yX12_count, cX12_count, 2, (some .int)),
  (yX12_told, cX12_told, 2, (some .int)),
  (yJ6_bitCount_0f7a4, cJ6_bitCount_0f7a4, 1, (some .int)),
  (yJ9_max_7cf53, cJ9_max_7cf53, 2, (some .int)),
  (yJ9_min_7cf53, cJ9_min_7cf53, 2, (some .int)),
  (yL_law, code, 4, (some .boolean))]
/-- a method: kind (0 of an object, 1 static, 2 constructor), how many parameters, places of its words in lw_tbl -/
def mMr : List (Nat × Nat × Nat × Nat × Nat) := [(2, 0, 293, 0, 70), (0, 5, 799, 800, 70), (0, 3, 811, 18, 70), (0, 1, 826, 827, 70), (0, 1, 822, 823, 70), (2, 0, 87, 0, 61), (0, 1, 893, 894, 61), (0, 0, 681, 682, 61), (2, 0, 93, 0, 62), (0, 1, 897, 898, 62), (0, 3, 773, 774, 62), (0, 2, 786, 787, 62), (0, 1, 805, 806, 62), (2, 1, 271, 0, 69), (0, 1, 592, 593, 69), (0, 2, 597, 7, 69), (0, 1, 601, 8, 69), (0, 1, 624, 12, 69), (0, 1, 628, 13, 69), (0, 0, 612, 10, 69), (0, 0, 605, 9, 69), (1, 1, 608, 0, 69), (0, 1, 620, 11, 69), (1, 1, 631, 0, 69), (2, 1, 132, 0, 64), (0, 1, 903, 904, 64), (0, 1, 580, 581, 64), (2, 0, 345, 0, 72), (0, 2, 868, 869, 72), (0, 2, 876, 877, 72), (0, 2, 885, 886, 72), (2, 0, 114, 0, 63), (0, 1, 634, 635, 63), (0, 1, 615, 616, 63), (0, 4, 535, 536, 63), (1, 5, 540, 0, 63), (1, 3, 544, 0, 63), (2, 0, 212, 0, 68), (0, 1, 699, 700, 68), (0, 1, 487, 488, 68), (0, 2, 474, 475, 68), (0, 4, 479, 480, 68), (0, 1, 498, 499, 68), (0, 2, 455, 456, 68), (0, 3, 515, 516, 68), (0, 0, 658, 659, 68), (0, 0, 924, 925, 68), (2, 0, 320, 0, 71), (0, 5, 840, 841, 71), (0, 4, 845, 19, 71), (1, 2, 848, 0, 71), (0, 1, 856, 20, 71), (2, 0, 183, 0, 67), (0, 1, 694, 695, 67), (0, 1, 424, 425, 67), (0, 0, 411, 412, 67), (0, 2, 428, 429, 67), (0, 3, 415, 416, 67), (0, 1, 436, 437, 67), (0, 1, 451, 452, 67), (0, 2, 791, 792, 67), (0, 4, 725, 726, 67), (0, 1, 745, 17, 67), (0, 0, 740, 741, 67), (0, 0, 748, 749, 67), (0, 2, 756, 757, 67), (0, 0, 765, 766, 67), (2, 2, 177, 0, 66), (0, 1, 690, 691, 66), (0, 1, 654, 655, 66), (0, 1, 663, 14, 66), (0, 1, 668, 15, 66), (0, 5, 531, 532, 66), (0, 2, 494, 495, 66), (0, 0, 527, 4, 66), (0, 1, 506, 2, 66), (0, 4, 510, 3, 66), (0, 1, 551, 5, 66), (0, 1, 555, 6, 66), (0, 2, 717, 718, 66), (2, 0, 79, 0, 60), (0, 0, 396, 397, 60), (0, 3, 420, 421, 60), (0, 3, 442, 443, 60), (0, 2, 447, 448, 60), (0, 1, 459, 460, 60), (0, 2, 467, 468, 60), (0, 2, 483, 484, 60), (0, 2, 558, 559, 60), (0, 2, 567, 568, 60), (0, 1, 572, 573, 60), (0, 2, 576, 577, 60), (0, 1, 585, 586, 60), (0, 5, 645, 646, 60), (0, 1, 650, 651, 60), (0, 1, 673, 674, 60), (0, 0, 678, 16, 60), (0, 3, 686, 687, 60), (0, 2, 704, 705, 60), (0, 3, 708, 709, 60), (0, 2, 713, 714, 60), (0, 3, 721, 722, 60), (0, 3, 732, 733, 60), (0, 1, 736, 737, 60), (0, 2, 752, 753, 60), (0, 0, 761, 762, 60), (0, 3, 769, 770, 60), (0, 0, 778, 779, 60), (0, 1, 782, 783, 60), (0, 3, 795, 796, 60), (0, 4, 818, 819, 60), (0, 1, 832, 833, 60), (0, 3, 836, 837, 60), (0, 1, 860, 861, 60), (0, 3, 864, 865, 60), (0, 3, 872, 873, 60), (0, 5, 881, 882, 60), (0, 0, 889, 890, 60), (0, 0, 908, 909, 60), (0, 1, 912, 913, 60), (0, 1, 916, 917, 60), (0, 1, 920, 921, 60), (0, 1, 928, 929, 60), (0, 1, 401, 0, 60), (0, 1, 464, 1, 60), (1, 3, 433, 0, 60), (1, 1, 471, 0, 60), (1, 1, 589, 0, 60), (1, 1, 491, 0, 60), (1, 2, 562, 0, 60), (1, 2, 404, 0, 60), (1, 3, 407, 0, 60), (1, 2, 638, 0, 60), (2, 0, 934, 0, 73), (0, 1, 1012, 21, 73), (1, 3, 1008, 0, 73), (1, 3, 1075, 0, 73), (1, 2, 1227, 0, 73), (0, 1, 1087, 34, 73), (0, 1, 1138, 38, 73), (1, 3, 1146, 0, 73), (1, 3, 1117, 0, 73), (0, 0, 1050, 29, 73), (0, 0, 1054, 30, 73), (0, 1, 1058, 31, 73), (0, 1, 1062, 32, 73), (0, 0, 1026, 23, 73), (0, 0, 1030, 24, 73), (0, 0, 1034, 25, 73), (0, 0, 1038, 26, 73), (0, 0, 1042, 27, 73), (0, 0, 1046, 28, 73), (0, 3, 1022, 22, 73), (0, 2, 1003, 1004, 73), (0, 1, 1017, 1018, 73), (0, 5, 1072, 33, 73), (0, 5, 1067, 1068, 73), (0, 0, 1078, 1079, 73), (0, 2, 1091, 35, 73), (0, 3, 1101, 37, 73), (0, 3, 1082, 1083, 73), (0, 3, 1104, 1105, 73), (1, 3, 1114, 0, 73), (0, 2, 1109, 1110, 73), (0, 1, 1120, 1121, 73), (0, 2, 1128, 1129, 73), (1, 1, 1153, 0, 73), (1, 1, 1156, 0, 73), (0, 2, 1150, 40, 73), (1, 2, 1159, 0, 73), (0, 3, 1143, 39, 73), (0, 2, 1133, 1134, 73), (1, 2, 1170, 0, 73), (0, 2, 1162, 1163, 73), (0, 1, 1167, 41, 73), (1, 5, 1181, 0, 73), (0, 1, 1178, 42, 73), (0, 2, 1173, 1174, 73), (0, 1, 1184, 1185, 73), (0, 2, 1202, 45, 73), (0, 1, 1198, 44, 73), (0, 2, 1194, 43, 73), (0, 1, 1188, 1189, 73), (0, 0, 1211, 46, 73), (0, 1, 1206, 1207, 73), (1, 1, 1219, 0, 73), (0, 1, 1224, 47, 73), (0, 3, 1215, 1216, 73), (0, 2, 1230, 1231, 73), (1, 2, 1238, 0, 73), (0, 3, 1234, 1235, 73), (0, 2, 1241, 1242, 73), (0, 4, 1250, 48, 73), (0, 2, 1097, 36, 73), (0, 3, 1245, 1246, 73), (0, 3, 1254, 1255, 73), (0, 1, 1263, 49, 73), (0, 1, 1258, 1259, 73), (0, 5, 1271, 50, 73), (0, 2, 1266, 1267, 73), (0, 0, 1274, 1275, 73), (0, 3, 1278, 1279, 73), (0, 0, 1282, 1283, 73), (0, 4, 1291, 51, 73), (0, 1, 1286, 1287, 73), (0, 3, 1300, 52, 73), (0, 3, 1294, 1295, 73), (0, 4, 1303, 1304, 73), (0, 1, 1307, 1308, 73), (0, 1, 1320, 54, 73), (1, 1, 1323, 0, 73), (0, 2, 1316, 53, 73), (0, 2, 1327, 55, 73), (0, 2, 1331, 56, 73), (0, 2, 1335, 57, 73), (0, 3, 1311, 1312, 73), (0, 1, 1338, 1339, 73), (1, 1, 1124, 0, 73), (0, 3, 1342, 1343, 73), (0, 3, 1346, 1347, 73), (0, 5, 1350, 1351, 73), (0, 0, 1354, 1355, 73), (0, 0, 1358, 1359, 73), (0, 1, 1362, 1363, 73), (0, 1, 1366, 1367, 73), (0, 0, 1375, 58, 73), (0, 1, 1370, 1371, 73), (0, 1, 1378, 1379, 73), (1, 1, 520, 0, 74), (1, 2, 136, 0, 65), (1, 2, 547, 0, 65), (1, 1, 0, 0, 0)]
/-- what a method makes at most: cells, slots -/
def mMc (k : Nat) : Nat × Nat := match k with
  | 0 => (6, 50)
  | 5 => (14, 350)
  | 8 => (3, 36)
  | 13 => (3, 103)
  | 24 => (1, 50)
  | 27 => (1, 40)
  | 31 => (2, 100)
  | 37 => (6, 60)
  | 47 => (1, 40)
  | 52 => (4, 36)
  | 67 => (12, 108)
  | 80 => (92, 1440)
  | 133 => (12, 1236)
  | 231 => (106, 2708)
  | _ => (0, 0)
/-- a method's class, by its number in mCl -/
def mcNl (k : Nat) : Nat := ([0, 0, 0, 0, 0, 1, 1, 1, 2, 2, 2, 2, 2, 3, 3, 3, 3, 3, 3, 3, 3, 3, 3, 3, 4, 4, 4, 5, 5, 5, 5, 6, 6, 6, 6, 6, 6, 7, 7, 7, 7, 7, 7, 7, 7, 7, 7, 8, 8, 8, 8, 8, 9, 9, 9, 9, 9, 9, 9, 9, 9, 9, 9, 9, 9, 9, 9, 10, 10, 10, 10, 10, 10, 10, 10, 10, 10, 10, 10, 10, 11, 11, 11, 11, 11, 11, 11, 11, 11, 11, 11, 11, 11, 11, 11, 11, 11, 11, 11, 11, 11, 11, 11, 11, 11, 11, 11, 11, 11, 11, 11, 11, 11, 11, 11, 11, 11, 11, 11, 11, 11, 11, 11, 11, 11, 11, 11, 11, 11, 11, 11, 11, 11, 12, 12, 12, 12, 12, 12, 12, 12, 12, 12, 12, 12, 12, 12, 12, 12, 12, 12, 12, 12, 12, 12, 12, 12, 12, 12, 12, 12, 12, 12, 12, 12, 12, 12, 12, 12, 12, 12, 12, 12, 12, 12, 12, 12, 12, 12, 12, 12, 12, 12, 12, 12, 12, 12, 12, 12, 12, 12, 12, 12, 12, 12, 12, 12, 12, 12, 12, 12, 12, 12, 12, 12, 12, 12, 12, 12, 12, 12, 12, 12, 12, 12, 12, 12, 12, 12, 12, 12, 12, 12, 12, 12, 12, 12, 12, 99, 99, 99, 99] : List Nat).getD k 99
end
section
/-! THE LAYER: a small pure machine (cells by numbers, ints in one table of rows) over which the methods' walks are said. -/
abbrev mE : Type := Nat × Nat × List (Option Nat)
abbrev mS : Type := List mE × Nat × (Nat → Nat → Int32)
abbrev mLoc : Type := List (Option Value)
abbrev mI : Type := Instr × Nat × Nat × Nat × Nat × List (Int32 × Nat)
abbrev mK6 : Type := Nat → mLoc → List Value → mS → Nat → Nat → Prop
def mnth {α : Type} : List α → Nat → Option α
  | [], _ => none
  | a :: _, 0 => some a
  | _ :: l, n + 1 => mnth l n
theorem mnth_eq {α : Type} : ∀ (l : List α) (n : Nat), mnth l n = l[n]?
  | [], n => by simp [mnth]
  | a :: l, 0 => by simp [mnth]
  | a :: l, n + 1 => by simp [mnth, mnth_eq l n]
theorem mnth_lt {α : Type} {l : List α} {n : Nat} {a : α} (h : mnth l n = some a) : n < l.length := by
  rw [mnth_eq] at h
  exact (List.getElem?_eq_some_iff.mp h).1
def mset : mLoc → Nat → Value → mLoc
  | [], _, _ => []
  | _ :: l, 0, v => some v :: l
  | a :: l, n + 1, v => a :: mset l n v
theorem mset_len : ∀ (l : mLoc) (n : Nat) (v : Value), (mset l n v).length = l.length
  | [], _, _ => rfl
  | _ :: l, 0, v => rfl
  | a :: l, n + 1, v => by simp [mset, mset_len l n v]
theorem mset_eq : ∀ (l : mLoc) (n : Nat) (v : Value), mset l n v = l.set n (some v)
  | [], _, _ => by simp [mset]
  | _ :: l, 0, v => by simp [mset]
  | a :: l, n + 1, v => by simp [mset, mset_eq l n v]
def mY (k : Nat) : MethodName := match mnth mM k with
  | some q => q.1
  | none => ⟨"", "", ""⟩
def mCd (k : Nat) : ByteArray := match mnth mM k with
  | some q => q.2.1
  | none => ByteArray.empty
def mNl (k : Nat) : Nat := match mnth mM k with
  | some q => q.2.2.1
  | none => 0
def mRt (k : Nat) : Option FieldType := match mnth mM k with
  | some q => q.2.2.2
  | none => none
def mKd (k : Nat) : Nat := match mnth mMr k with
  | some r => r.1
  | none => 9
def mNa (k : Nat) : Nat := match mnth mMr k with
  | some r => r.2.1
  | none => 0
def mkd (ci j : Nat) : Nat := match mnth mFk ci with
  | some l => (match mnth l j with
    | some x => x
    | none => 0)
  | none => 0
def mNf (ci : Nat) : Nat := match mnth mFk ci with
  | some l => l.length
  | none => 0
def mCq (ci : Nat) : vw_C := match mnth mCl ci with
  | some q => q
  | none => ("", TX0, 0)
def mka : Nat → Int32 := fun j => ([-1, 0, 0, 0, 1, 0, 2] : List Int32).getD j 0
def mbod : Nat → Int32 := fun j => ([10, 11, 12, 13, 0, 20, 0, 0, 30, 0, 0, 0, 0, 0, 40, 0, 0, 50, 0, 0, 0, 0, 0, 60, 70, 0, 0, 71] : List Int32).getD j 0
/-- rows of ints -/
def mrow (σ : Nat → Nat → Int32) (k : Nat) (f : Nat → Int32) : Nat → Nat → Int32 := fun a => if a = k then f else σ a
def mup (σ : Nat → Nat → Int32) (k j : Nat) (v : Int32) : Nat → Nat → Int32 := mrow σ k (upd (σ k) j v)
/-- where the pure cells lie: base, the three old arrays, class numbers, array classes, the script -/
abbrev mG : Type := Nat × (Nat → Nat) × va_G × (ClassId × ClassId × ClassId) × Nat × (Nat → Int32)
def mA (G : mG) : Nat → Prop := fun q => G.1 ≤ q
def mad (G : mG) (k : Nat) : Nat := if k < 1000000 then G.1 + k else G.2.1 (k - 1000000)
def mtr (G : mG) (v : Value) : Value := match v with
  | .ref k => .ref (mad G k)
  | .int x => .int x
  | .long x => .long x
  | .float x => .float x
  | .double x => .double x
  | .null => .null
  | .retAddr x => .retAddr x
def mrv (G : mG) (r : Option Nat) : Value := match r with
  | none => .null
  | some k => .ref (mad G k)
def mpv (r : Option Nat) : Value := match r with
  | none => .null
  | some k => .ref k
theorem mtr_pv (G : mG) (r : Option Nat) : mtr G (mpv r) = mrv G r := by cases r <;> rfl
theorem mtr_cat (G : mG) (v : Value) : (mtr G v).category = v.category := by cases v <;> rfl
def mFs (G : mG) (σ : Nat → Nat → Int32) (k ci : Nat) (rs : List (Option Nat)) : List Value := (List.range (mNf ci)).map fun j => if mkd ci j = 2 then mrv G (rs.getD j none) else .int (σ k j)
def mEn (G : mG) (σ : Nat → Nat → Int32) (k : Nat) (e : mE) : va_E := match e with
  | (0, ci, rs) => .inr (ci, mFs G σ k ci rs)
  | (1, n, _) => .inl (G.2.2.2.1.1, n, .inl (σ k))
  | (2, n, _) => .inl (G.2.2.2.1.2.1, n, .inl (σ k))
  | (_, n, rs) => .inl (G.2.2.2.1.2.2, n, .inr (.inr (.inr (.inr (fun j => (rs.getD j none).map (mad G))))))
def mWs (G : mG) (S : mS) : va_W := S.1.mapIdx (fun k e => (G.1 + k, mEn G S.2.2 k e))
theorem mWs_at (G : mG) (S : mS) (k : Nat) : (mWs G S)[k]? = (S.1[k]?).map (fun e => (G.1 + k, mEn G S.2.2 k e)) := by
  simp [mWs, List.getElem?_mapIdx]
theorem mWs_some {G : mG} {S : mS} {k : Nat} {e : mE} (h : mnth S.1 k = some e) : (mWs G S)[k]? = some (G.1 + k, mEn G S.2.2 k e) := by
  rw [mnth_eq] at h
  rw [mWs_at, h]; rfl
def mP (G : mG) (S : mS) (H : Heap) : Prop := S.1.length ≤ 1000 ∧ va_P G.2.2.1 mCl (mWs G S) H ∧ S.2.1 = G.2.2.2.2.1 ∧ S.2.2 1000000 = G.2.2.2.2.2 ∧ S.2.2 1000001 = mka ∧ S.2.2 1000002 = mbod
abbrev mTy (G : mG) : List (ClassId × FieldType) := [(G.2.2.2.1.1, .int), (G.2.2.2.1.2.1, .boolean), (G.2.2.2.1.2.2, .object RX5)]
def mKs (G : mG) (U : State) (H : Heap) : Prop := va_K G.2.2.1 mCl (mTy G) U ∧ va_T .int (G.2.1 0) G.2.2.2.2.1 (fun j => .int (G.2.2.2.2.2 j)) (mA G) U H ∧ va_T .int (G.2.1 1) 7 (fun j => .int (mka j)) (mA G) U H ∧ va_T .int (G.2.1 2) 28 (fun j => .int (mbod j)) (mA G) U H ∧ va_Z RX11 "KIND_ABOVE" "[I" (.ref (G.2.1 1)) (mA G) U H ∧ va_Z RX8 "BODIES" "[I" (.ref (G.2.1 2)) (mA G) U H ∧ va_AO RX5 U ∧ G.1 ≤ H.size
theorem mKs.moved {G : mG} {u U : State} {H : Heap} (hvm : u.vm.Alike U.vm) (h : mKs G u H) : mKs G U H := by
  obtain ⟨h1, h2, h3, h4, h5, h6, h8, h7⟩ := h
  exact ⟨va_K.moved hvm h1, h2.moved hvm, h3.moved hvm, h4.moved hvm, h5.moved hvm, h6.moved hvm, va_AO.moved hvm h8, h7⟩
theorem mKs.kept {G : mG} {U : State} {H H1 : Heap} {locs : List Loc} (h : mKs G U H) (hS : va_S (mA G) H H1 locs) : mKs G U H1 := by
  obtain ⟨h1, h2, h3, h4, h5, h6, h8, h7⟩ := h
  exact ⟨h1, h2.kept hS.2.1, h3.kept hS.2.1, h4.kept hS.2.1, h5.kept hS.2.1, h6.kept hS.2.1, h8, Nat.le_trans h7 hS.1⟩
theorem mWs_D (G : mG) (S : mS) : va_D (mA G) (mWs G S) := by
  refine ⟨fun i j p q hi hj hpq => ?_, fun k q hk => ?_⟩
  · rw [mWs_at] at hi hj
    cases h1 : S.1[i]? with
    | none => rw [h1] at hi; cases hi
    | some a =>
      cases h2 : S.1[j]? with
      | none => rw [h2] at hj; cases hj
      | some b =>
        rw [h1] at hi; rw [h2] at hj
        cases hi; cases hj
        exact Nat.add_left_cancel hpq
  · rw [mWs_at] at hk
    cases h1 : S.1[k]? with
    | none => rw [h1] at hk; cases hk
    | some a => rw [h1] at hk; cases hk; exact Nat.le_add_right _ _
theorem mad_lt {G : mG} {k : Nat} (h : k < 1000000) : mad G k = G.1 + k := by simp [mad, h]
/-- contracts -/
def mTb : List Cond := lw_tbl.filter goodWord
def mWd (k : Nat) : List Cond := .code (mY k) (mCd k) (mNl k) (mRt k) :: mTb
def mRm (d k : Nat) : Room := { frames := d, cells := (mMc k).1, slots := (mMc k).2, locals := 64 * d }
def mPc (G : mG) (vs : List Value) (S : mS) : Array Value → State → Prop := va_Pc (vs.map (mtr G)) (fun U => mP G S U.heap ∧ mKs G U U.heap ∧ U.heap.size = G.1 + S.1.length)
def mQc (G : mG) (r : Option Value) (S' : mS) : Array Value → State → Outcome → State → Prop := fun _ st o t => o = .returned (r.map (mtr G)) ∧ mP G S' t.heap ∧ va_F (mA G) st t ∧ t.heap.size = G.1 + S'.1.length
def mEv (d k : Nat) (vs : List Value) (S : mS) (r : Option Value) (S' : mS) : Prop := S'.1.length = S.1.length + (mMc k).1 ∧ ∀ (l : Launch) (G : mG), Met l (mY k) (mWd k) (mRm d k) (mPc G vs S) (mQc G r S') (mMc k).1 (mMc k).2 (mA G)
/-- the pure step -/
def mgI (pl : mLoc) (i : Nat) (k : Int32 → Prop) : Prop := match mnth pl i with
  | some (some (.int x)) => k x
  | _ => False
def mgR (pl : mLoc) (i : Nat) (k : Nat → Prop) : Prop := match mnth pl i with
  | some (some (.ref x)) => k x
  | _ => False
def mgL (pl : mLoc) (i : Nat) (k : Int64 → Prop) : Prop := match mnth pl i with
  | some (some (.long x)) => k x
  | _ => False
def mok1 (pl : mLoc) (i : Nat) : Bool := match i with
  | 0 => true
  | i + 1 => match mnth pl i with
    | some (some v) => v.category == 1
    | _ => true
def msto (pl : mLoc) (i : Nat) (v : Value) (k : mLoc → Prop) : Prop := match mnth pl i, mok1 pl i with
  | some _, true => k (mset pl i v)
  | _, _ => False
def ms1 (st : List Value) (k : Int32 → List Value → Prop) : Prop := match st with
  | .int x :: r => k x r
  | _ => False
def ms2 (st : List Value) (k : Int32 → Int32 → List Value → Prop) : Prop := match st with
  | .int y :: .int x :: r => k x y r
  | _ => False
def ms1L (st : List Value) (k : Int64 → List Value → Prop) : Prop := match st with
  | .long x :: r => k x r
  | _ => False
def ms2L (st : List Value) (k : Int64 → Int64 → List Value → Prop) : Prop := match st with
  | .long y :: .long x :: r => k x y r
  | _ => False
def msLI (st : List Value) (k : Int64 → Int32 → List Value → Prop) : Prop := match st with
  | .int y :: .long x :: r => k x y r
  | _ => False
def ms1R (st : List Value) (k : Nat → List Value → Prop) : Prop := match st with
  | .ref a :: r => k a r
  | _ => False
def msRI (st : List Value) (k : Nat → Int32 → List Value → Prop) : Prop := match st with
  | .int i :: .ref a :: r => k a i r
  | _ => False
def msRII (st : List Value) (k : Nat → Int32 → Int32 → List Value → Prop) : Prop := match st with
  | .int x :: .int i :: .ref a :: r => k a i x r
  | _ => False
def msRIR (st : List Value) (k : Nat → Int32 → Nat → List Value → Prop) : Prop := match st with
  | .ref v :: .int i :: .ref a :: r => k a i v r
  | _ => False
def msRp (st : List Value) (k : Nat → Int32 → List Value → Prop) : Prop := match st with
  | .int x :: .ref a :: r => k a x r
  | _ => False
def msRR (st : List Value) (k : Nat → Nat → List Value → Prop) : Prop := match st with
  | .ref v :: .ref a :: r => k a v r
  | _ => False
def msV (st : List Value) (k : Value → List Value → Prop) : Prop := match st with
  | v :: r => k v r
  | _ => False
def msVV (st : List Value) (k : Value → Value → List Value → Prop) : Prop := match st with
  | v :: w :: r => k v w r
  | _ => False
def msCp (st : List Value) (k : Nat → Int32 → Nat → Int32 → Int32 → List Value → Prop) : Prop := match st with
  | .int n :: .int dp :: .ref b :: .int sp :: .ref a :: r => k a sp b dp n r
  | _ => False
def mcz (c : ClassFile.Cond) (x : Int32) : Prop := match c with
  | .eq => x = 0
  | .ne => ¬ x = 0
  | .lt => x < 0
  | .ge => 0 ≤ x
  | .gt => 0 < x
  | .le => x ≤ 0
def mcc (c : ClassFile.Cond) (x y : Int32) : Prop := match c with
  | .eq => x = y
  | .ne => ¬ x = y
  | .lt => x < y
  | .ge => y ≤ x
  | .gt => y < x
  | .le => x ≤ y
def msw (J : Nat → Prop) (x : Int32) (dflt : Nat) : List (Int32 × Nat) → Prop
  | [] => J dflt
  | q :: ps => (x = q.1 → J q.2) ∧ (¬ x = q.1 → msw J x dflt ps)
/-- an object of a class: its references -/
def mob (S : mS) (a ci : Nat) (k : List (Option Nat) → Prop) : Prop := match mnth S.1 a with
  | some (0, c, rs) => (match Nat.beq c ci with
    | true => k rs
    | false => False)
  | _ => False
/-- an int array's length -/
def mal (S : mS) (a : Nat) : Option Nat := match mnth S.1 a with
  | some (1, n, _) => some n
  | some _ => none
  | none => match a with
    | 1000000 => some S.2.1
    | 1000001 => some 7
    | 1000002 => some 28
    | _ => none
def mai (S : mS) (a : Nat) (k : Nat → Prop) : Prop := match mal S a with
  | some n => k n
  | none => False
def maz (S : mS) (a : Nat) (k : Nat → Prop) : Prop := match mnth S.1 a with
  | some (2, n, _) => k n
  | _ => False
def maq (S : mS) (a : Nat) (k : Nat → List (Option Nat) → Prop) : Prop := match mnth S.1 a with
  | some (3, n, rs) => k n rs
  | _ => False
def mcut : Nat → List Value → List Value → (List Value → List Value → Prop) → Prop
  | 0, st, acc, k => k acc st
  | n + 1, v :: st, acc, k => mcut n st (v :: acc) k
  | _ + 1, [], _, _ => False
def mcats : List Value → Nat
  | [] => 0
  | v :: l => v.category + mcats l
def mcap (k cu su : Nat) : Bool := Nat.ble cu (mMc k).1 && Nat.ble su (mMc k).2
/-- the class of a method's own object -/
def mcN (k : Nat) : Nat := match mnth mMr k with
  | some _ => mcNl k
  | none => 99
/-- what may come back from a method that returns such a thing -/
def mres (t : Option FieldType) (v : Option Value) : Prop := match t, v with
  | none, none => True
  | some .int, some (.int _) => True
  | some .boolean, some (.int _) => True
  | some (.object _), some .null => True
  | some (.object _), some (.ref _) => True
  | _, _ => False
/-- what a method that returns such a thing may give back -/
def mrk (t : Option FieldType) (v : Int32) : Prop := match t with
  | some .int => True
  | some .boolean => v = 0 ∨ v = 1
  | _ => False
def mrq (t : Option FieldType) : Prop := match t with
  | some (.object _) => True
  | _ => False
end
section
/-- one instruction of the pure machine: J where it jumps, K where it goes on, res what the method ends with -/
def mst (d mid : Nat) (res : Option Value × mS) (J : mK6) (I : mI) (pc : Nat) (pl : mLoc) (st : List Value) (S : mS) (cu su : Nat) (K : mK6) : Prop :=
  match I.1 with
  | .iconst n => K (pc + 1) pl (.int (Int32.ofInt n) :: st) S cu su
  | .bipush n => K (pc + 2) pl (.int ((Int8.ofInt n).toInt32) :: st) S cu su
  | .sipush n => K (pc + 3) pl (.int ((Int16.ofInt n).toInt32) :: st) S cu su
  | .lconst n => K (pc + 1) pl (.long (Int64.ofNat (n : Nat)) :: st) S cu su
  | .aconst_null => K (pc + 1) pl (.null :: st) S cu su
  | .ldc _ => (match I.2.2.2.2.2 with
    | q :: _ => K (pc + 2) pl (.int q.1 :: st) S cu su
    | [] => False)
  | .ldc_w _ => (match I.2.2.2.2.2 with
    | q :: _ => K (pc + 3) pl (.int q.1 :: st) S cu su
    | [] => False)
  | .ldc2_w _ => K (pc + 3) pl (.long (Int64.ofInt ((I.2.2.1 : Int) - (I.2.2.2.1 : Int))) :: st) S cu su
  | .iload_n n => mgI pl n fun x => K (pc + 1) pl (.int x :: st) S cu su
  | .iload n => mgI pl n fun x => K (pc + 2) pl (.int x :: st) S cu su
  | .aload_n n => mgR pl n fun x => K (pc + 1) pl (.ref x :: st) S cu su
  | .aload n => mgR pl n fun x => K (pc + 2) pl (.ref x :: st) S cu su
  | .lload_n n => mgL pl n fun x => K (pc + 1) pl (.long x :: st) S cu su
  | .lload n => mgL pl n fun x => K (pc + 2) pl (.long x :: st) S cu su
  | .istore_n n => ms1 st fun x r => msto pl n (.int x) fun pl => K (pc + 1) pl r S cu su
  | .istore n => ms1 st fun x r => msto pl n (.int x) fun pl => K (pc + 2) pl r S cu su
  | .astore_n n => ms1R st fun x r => msto pl n (.ref x) fun pl => K (pc + 1) pl r S cu su
  | .astore n => ms1R st fun x r => msto pl n (.ref x) fun pl => K (pc + 2) pl r S cu su
  | .iinc n v => mgI pl n fun x => msto pl n (.int (x + Int32.ofInt v)) fun pl => K (pc + 3) pl st S cu su
  | .iadd => ms2 st fun x y r => K (pc + 1) pl (.int (x + y) :: r) S cu su
  | .isub => ms2 st fun x y r => K (pc + 1) pl (.int (x - y) :: r) S cu su
  | .imul => ms2 st fun x y r => K (pc + 1) pl (.int (x * y) :: r) S cu su
  | .iand => ms2 st fun x y r => K (pc + 1) pl (.int (x &&& y) :: r) S cu su
  | .ior => ms2 st fun x y r => K (pc + 1) pl (.int (x ||| y) :: r) S cu su
  | .ixor => ms2 st fun x y r => K (pc + 1) pl (.int (x ^^^ y) :: r) S cu su
  | .ishl => ms2 st fun x y r => K (pc + 1) pl (.int (x <<< (y &&& 31)) :: r) S cu su
  | .ishr => ms2 st fun x y r => K (pc + 1) pl (.int (x >>> (y &&& 31)) :: r) S cu su
  | .iushr => ms2 st fun x y r => K (pc + 1) pl (.int ((x.toUInt32 >>> (y.toUInt32 &&& Int32.toUInt32 31)).toInt32) :: r) S cu su
  | .idiv => ms2 st fun x y r => ¬ y = 0 ∧ K (pc + 1) pl (.int (x / y) :: r) S cu su
  | .irem => ms2 st fun x y r => ¬ y = 0 ∧ K (pc + 1) pl (.int (x - x / y * y) :: r) S cu su
  | .ineg => ms1 st fun x r => K (pc + 1) pl (.int (-x) :: r) S cu su
  | .i2b => ms1 st fun x r => K (pc + 1) pl (.int (x.toInt8.toInt32) :: r) S cu su
  | .i2s => ms1 st fun x r => K (pc + 1) pl (.int (x.toInt16.toInt32) :: r) S cu su
  | .i2l => ms1 st fun x r => K (pc + 1) pl (.long x.toInt64 :: r) S cu su
  | .l2i => ms1L st fun x r => K (pc + 1) pl (.int x.toInt32 :: r) S cu su
  | .land => ms2L st fun x y r => K (pc + 1) pl (.long (x &&& y) :: r) S cu su
  | .lor => ms2L st fun x y r => K (pc + 1) pl (.long (x ||| y) :: r) S cu su
  | .lcmp => ms2L st fun x y r => K (pc + 1) pl (.int (lg_cmp x y) :: r) S cu su
  | .lshl => msLI st fun x y r => K (pc + 1) pl (.long (x <<< (y.toInt64 &&& 63)) :: r) S cu su
  | .lshr => msLI st fun x y r => K (pc + 1) pl (.long (x >>> (y.toInt64 &&& 63)) :: r) S cu su
  | .lushr => msLI st fun x y r => K (pc + 1) pl (.long ((x.toUInt64 >>> (y.toInt64.toUInt64 &&& Int64.toUInt64 63)).toInt64) :: r) S cu su
  | .goto _ => J I.2.2.1 pl st S cu su
  | .ifCond c _ => ms1 st fun x r => (mcz c x → J I.2.2.1 pl r S cu su) ∧ (¬ mcz c x → K (pc + 3) pl r S cu su)
  | .if_icmp c _ => ms2 st fun x y r => (mcc c x y → J I.2.2.1 pl r S cu su) ∧ (¬ mcc c x y → K (pc + 3) pl r S cu su)
  | .ifnull _ => (match st with
    | .null :: r => J I.2.2.1 pl r S cu su
    | .ref _ :: r => K (pc + 3) pl r S cu su
    | _ => False)
  | .ifnonnull _ => (match st with
    | .null :: r => K (pc + 3) pl r S cu su
    | .ref _ :: r => J I.2.2.1 pl r S cu su
    | _ => False)
  | .tableswitch _ _ _ _ => ms1 st fun x r => msw (fun t => J t pl r S cu su) x I.2.2.1 I.2.2.2.2.2
  | .lookupswitch _ _ => ms1 st fun x r => msw (fun t => J t pl r S cu su) x I.2.2.1 I.2.2.2.2.2
  | .dup => msV st fun v r => (match v.category with
    | 1 => K (pc + 1) pl (v :: v :: r) S cu su
    | _ => False)
  | .dup2 => msVV st fun v w r => (match v.category, w.category with
    | 1, 1 => K (pc + 1) pl (v :: w :: v :: w :: r) S cu su
    | _, _ => False)
  | .getfield _ => ms1R st fun a r => mob S a I.2.2.1 fun rs => (match mkd I.2.2.1 I.2.2.2.1 with
    | 2 => K (pc + 3) pl (mpv (rs.getD I.2.2.2.1 none) :: r) S cu su
    | _ => K (pc + 3) pl (.int (S.2.2 a I.2.2.2.1) :: r) S cu su)
  | .putfield _ => (match mkd I.2.2.1 I.2.2.2.1 with
    | 0 => msRp st fun a x r => mob S a I.2.2.1 fun _ => K (pc + 3) pl r (S.1, S.2.1, mup S.2.2 a I.2.2.2.1 x) cu su
    | 1 => msRp st fun a x r => mob S a I.2.2.1 fun _ => (x = 0 ∨ x = 1) ∧ K (pc + 3) pl r (S.1, S.2.1, mup S.2.2 a I.2.2.2.1 x) cu su
    | _ => msRR st fun a v r => mob S a I.2.2.1 fun rs => (match Nat.beq rs.length (mNf I.2.2.1) with
      | true => K (pc + 3) pl r (S.1.set a (0, I.2.2.1, rs.set I.2.2.2.1 (some v)), S.2.1, S.2.2) cu su
      | false => False))
  | .getstatic _ => K (pc + 3) pl (.ref (1000000 + I.2.2.1) :: st) S cu su
  | .new _ => (mcap mid (cu + 1) (su + mNf I.2.2.1) = true ∧ Nat.ble (S.1.length + 1) 1000 = true) ∧ K (pc + 3) pl (.ref S.1.length :: st) (S.1 ++ [(0, I.2.2.1, List.replicate (mNf I.2.2.1) none)], S.2.1, mrow S.2.2 S.1.length (fun _ => 0)) (cu + 1) (su + mNf I.2.2.1)
  | .newarray t => ms1 st fun n r => (¬ n < 0 ∧ Nat.ble n.toNatClampNeg 1000000 = true ∧ mcap mid (cu + 1) (su + n.toNatClampNeg) = true ∧ Nat.ble (S.1.length + 1) 1000 = true) ∧ (match t with
    | .int => K (pc + 2) pl (.ref S.1.length :: r) (S.1 ++ [(1, n.toNatClampNeg, [])], S.2.1, mrow S.2.2 S.1.length (fun _ => 0)) (cu + 1) (su + n.toNatClampNeg)
    | .boolean => K (pc + 2) pl (.ref S.1.length :: r) (S.1 ++ [(2, n.toNatClampNeg, [])], S.2.1, mrow S.2.2 S.1.length (fun _ => 0)) (cu + 1) (su + n.toNatClampNeg)
    | _ => False)
  | .anewarray _ => ms1 st fun n r => (¬ n < 0 ∧ Nat.ble n.toNatClampNeg 1000000 = true ∧ mcap mid (cu + 1) (su + n.toNatClampNeg) = true ∧ Nat.ble (S.1.length + 1) 1000 = true) ∧ K (pc + 3) pl (.ref S.1.length :: r) (S.1 ++ [(3, n.toNatClampNeg, List.replicate n.toNatClampNeg none)], S.2.1, mrow S.2.2 S.1.length (fun _ => 0)) (cu + 1) (su + n.toNatClampNeg)
  | .arraylength => ms1R st fun a r => (match mnth S.1 a with
    | some (3, n, _) => K (pc + 1) pl (.int (Int32.ofNat n) :: r) S cu su
    | _ => mai S a fun n => K (pc + 1) pl (.int (Int32.ofNat n) :: r) S cu su)
  | .iaload => msRI st fun a i r => mai S a fun n => vp_in i n ∧ K (pc + 1) pl (.int (S.2.2 a i.toNatClampNeg) :: r) S cu su
  | .iastore => msRII st fun a i x r => (match mnth S.1 a with
    | some (1, n, _) => vp_in i n ∧ K (pc + 1) pl r (S.1, S.2.1, mup S.2.2 a i.toNatClampNeg x) cu su
    | _ => False)
  | .baload => msRI st fun a i r => maz S a fun n => vp_in i n ∧ K (pc + 1) pl (.int (S.2.2 a i.toNatClampNeg) :: r) S cu su
  | .bastore => msRII st fun a i x r => maz S a fun n => vp_in i n ∧ K (pc + 1) pl r (S.1, S.2.1, mup S.2.2 a i.toNatClampNeg (vp_nar .boolean x)) cu su
  | .aaload => msRI st fun a i r => maq S a fun n rs => vp_in i n ∧ K (pc + 1) pl (mpv (rs.getD i.toNatClampNeg none) :: r) S cu su
  | .aastore => msRIR st fun a i v r => maq S a fun n rs => mob S v 5 fun _ => vp_in i n ∧ (match Nat.beq rs.length n with
      | true => K (pc + 1) pl r (S.1.set a (3, n, rs.set i.toNatClampNeg (some v)), S.2.1, S.2.2) cu su
      | false => False)
  | .invokevirtual _ => mcut (mNa I.2.2.1 + 1) st [] fun as r => (match as with
    | .ref a :: _ => mob S a (mcN I.2.2.1) fun _ => (Nat.ble (mcats r) 8 = true ∧ mcap mid (cu + (mMc I.2.2.1).1) (su + (mMc I.2.2.1).2) = true) ∧ ∃ (d' : Nat) (v : Option Value) (S' : mS), d' + 1 ≤ d ∧ mEv d' I.2.2.1 as S v S' ∧ K (pc + 3) pl (v.toList ++ r) S' (cu + (mMc I.2.2.1).1) (su + (mMc I.2.2.1).2)
    | _ => False)
  | .invokestatic _ => (match I.2.2.1 with
    | 998 => msCp st fun a sp b dp n r => (Nat.ble (mcats r) 8 = true ∧ 1 ≤ d) ∧ (match mnth S.1 a, mnth S.1 b with
      | some (1, n0, _), some (1, n1, _) => (¬ sp < 0 ∧ ¬ dp < 0 ∧ ¬ n < 0 ∧ sp.toNatClampNeg + n.toNatClampNeg ≤ n0 ∧ dp.toNatClampNeg + n.toNatClampNeg ≤ n1) ∧ K (pc + 3) pl r (S.1, S.2.1, mrow S.2.2 b (va_cpy (S.2.2 a) (S.2.2 b) sp.toNatClampNeg dp.toNatClampNeg n.toNatClampNeg)) cu su
      | _, _ => False)
    | 997 => ms2 st fun x y r => (Nat.ble (mcats r) 8 = true ∧ 1 ≤ d) ∧ K (pc + 3) pl (.int (if y < x then y else x) :: r) S cu su
    | 996 => ms2 st fun x y r => (Nat.ble (mcats r) 8 = true ∧ 1 ≤ d) ∧ K (pc + 3) pl (.int (if x < y then y else x) :: r) S cu su
    | k => mcut (mNa k) st [] fun as r => (Nat.ble (mcats r) 8 = true ∧ mcap mid (cu + (mMc k).1) (su + (mMc k).2) = true) ∧ ∃ (d' : Nat) (v : Option Value) (S' : mS), d' + 1 ≤ d ∧ mEv d' k as S v S' ∧ K (pc + 3) pl (v.toList ++ r) S' (cu + (mMc k).1) (su + (mMc k).2))
  | .invokespecial _ => (match I.2.2.1 with
    | 999 => ms1R st fun _ r => (Nat.ble (mcats r) 8 = true ∧ 1 ≤ d) ∧ K (pc + 3) pl r S cu su
    | k => mcut (mNa k + 1) st [] fun as r => (match as with
      | .ref _ :: _ => (Nat.ble (mcats r) 8 = true ∧ mcap mid (cu + (mMc k).1) (su + (mMc k).2) = true) ∧ ∃ (d' : Nat) (S' : mS), d' + 1 ≤ d ∧ mEv d' k as S none S' ∧ K (pc + 3) pl r S' (cu + (mMc k).1) (su + (mMc k).2)
      | _ => False))
  | .ireturn => (match st with
    | [.int v] => mcap mid cu su = true ∧ mrk (mRt mid) v ∧ res = (some (.int v), S)
    | _ => False)
  | .return_ => (match st with
    | [] => mcap mid cu su = true ∧ mRt mid = none ∧ res = (none, S)
    | _ => False)
  | .areturn => (match st with
    | [.null] => mcap mid cu su = true ∧ mrq (mRt mid) ∧ res = (some .null, S)
    | [.ref a] => mcap mid cu su = true ∧ mrq (mRt mid) ∧ res = (some (.ref a), S)
    | _ => False)
  | _ => False
/-- a stretch of code -/
def mwp (d mid : Nat) (res : Option Value × mS) (J : mK6) : List mI → mK6
  | [] => J
  | I :: is => fun pc pl st S cu su => mst d mid res J I pc pl st S cu su (mwp d mid res J is)
end
section
/-! words: the tables' rows by their places, what a stretch of code must be -/
def mwd (w : Nat) (c : Cond) : Bool := decide (mnth lw_tbl w = some c) && goodWord c
theorem mwd_in {w : Nat} {c : Cond} (h : mwd w c = true) : c ∈ mTb := by
  simp only [mwd, Bool.and_eq_true, decide_eq_true_eq] at h
  rw [mnth_eq] at h
  exact List.mem_filter.mpr ⟨List.mem_of_getElem? h.1, h.2⟩
theorem mTb_good : GoodIn mTb mTb := fun w h => ⟨h, good_of_word (List.mem_filter.mp h).2⟩
theorem mWd_good {k : Nat} (h : Cond.code (mY k) (mCd k) (mNl k) (mRt k) ∈ mTb) : GoodIn mTb (mWd k) := by
  intro w hw
  rcases List.mem_cons.mp hw with e | e
  · subst e; exact mTb_good _ h
  · exact mTb_good _ e
def mTT (a b : Nat) : String × String × String × Bool := (mCq a).2.1 b
def mln (mid w x k : Nat) : Bool := mwd w (.methodLink (mY mid).cls x (mY k)) || mwd w (.methodLinkNest (mY mid).cls x (mY k) RX11)
def mswT (pc : Nat) (lo : Int) : List Int → Nat → List (Int32 × Nat) → Bool
  | [], _, [] => true
  | o :: os, k, q :: ps => decide (q.1.toInt = lo + k) && decide ((pc : Int) + o = q.2) && mswT pc lo os (k + 1) ps
  | _, _, _ => false
def mswL (pc : Nat) : List (Int × Int) → List (Int32 × Nat) → Bool
  | [], [] => true
  | o :: os, q :: ps => decide (q.1.toInt = o.1) && decide ((pc : Int) + o.2 = q.2) && mswL pc os ps
  | _, _ => false
def mExB (mid pc : Nat) (I : mI) : Bool := match I.1 with
  | .getfield x => mwd I.2.2.2.2.1 (.fieldLink (mY mid).cls x (mTT I.2.2.1 I.2.2.2.1).1 (mTT I.2.2.1 I.2.2.2.1).2.1 (mTT I.2.2.1 I.2.2.2.1).2.2.1) && Nat.blt I.2.2.1 13 && Nat.blt I.2.2.2.1 (mNf I.2.2.1)
  | .putfield x => mwd I.2.2.2.2.1 (.fieldLink (mY mid).cls x (mTT I.2.2.1 I.2.2.2.1).1 (mTT I.2.2.1 I.2.2.2.1).2.1 (mTT I.2.2.1 I.2.2.2.1).2.2.1) && Nat.blt I.2.2.1 13 && Nat.blt I.2.2.2.1 (mNf I.2.2.1) && ((mTT I.2.2.1 I.2.2.2.1).2.2.2 == false || ((mY mid).name == "<init>" && (mTT I.2.2.1 I.2.2.2.1).1 == (mY mid).cls))
  | .getstatic x => (match I.2.2.1 with
    | 1 => mwd I.2.2.2.2.1 (.fieldLink (mY mid).cls x RX11 "KIND_ABOVE" "[I") || mwd I.2.2.2.2.1 (.fieldLinkNest (mY mid).cls x RX11 "KIND_ABOVE" "[I" RX11)
    | 2 => mwd I.2.2.2.2.1 (.fieldLink (mY mid).cls x RX8 "BODIES" "[I")
    | _ => false)
  | .new x => mwd I.2.2.2.2.1 (.classLink (mY mid).cls x (mCq I.2.2.1).1) && Nat.blt I.2.2.1 13
  | .anewarray x => mwd I.2.2.2.2.1 (.classLink (mY mid).cls x RX5)
  | .ldc x => (match I.2.2.2.2.2 with
    | q :: _ => mwd I.2.2.2.2.1 (.constant (mY mid).cls x q.1)
    | [] => false)
  | .ldc_w x => (match I.2.2.2.2.2 with
    | q :: _ => mwd I.2.2.2.2.1 (.constant (mY mid).cls x q.1)
    | [] => false)
  | .ldc2_w x => mwd I.2.2.2.2.1 (.constantLong (mY mid).cls x (Int64.ofInt ((I.2.2.1 : Int) - (I.2.2.2.1 : Int))))
  | .goto o => decide ((pc : Int) + o = (I.2.2.1 : Int))
  | .ifCond _ o => decide ((pc : Int) + o = (I.2.2.1 : Int))
  | .if_icmp _ o => decide ((pc : Int) + o = (I.2.2.1 : Int))
  | .ifnull o => decide ((pc : Int) + o = (I.2.2.1 : Int))
  | .ifnonnull o => decide ((pc : Int) + o = (I.2.2.1 : Int))
  | .tableswitch df lo hi os => decide ((pc : Int) + df = (I.2.2.1 : Int)) && decide (lo + os.size = hi + 1) && mswT pc lo os.toList 0 I.2.2.2.2.2
  | .lookupswitch df ps => decide ((pc : Int) + df = (I.2.2.1 : Int)) && (ps.toList.zip (ps.toList.drop 1)).all (fun (a, next) => a.1 < next.1) && mswL pc ps.toList I.2.2.2.2.2
  | .invokevirtual x => mln mid I.2.2.2.2.1 x I.2.2.1 && Nat.blt I.2.2.1 229 && Nat.beq (mKd I.2.2.1) 0
  | .invokestatic x => (match I.2.2.1 with
    | 998 => mwd I.2.2.2.2.1 (.methodLink (mY mid).cls x arraycopyName)
    | 997 => mwd I.2.2.2.2.1 (.methodLink (mY mid).cls x Lib.Math.min.name)
    | 996 => mwd I.2.2.2.2.1 (.methodLink (mY mid).cls x Lib.Math.max.name)
    | k => mln mid I.2.2.2.2.1 x k && Nat.blt k 229 && Nat.beq (mKd k) 1)
  | .invokespecial x => (match I.2.2.1 with
    | 999 => mwd I.2.2.2.2.1 (.methodLink (mY mid).cls x objectInit)
    | k => mln mid I.2.2.2.2.1 x k && Nat.blt k 229 && Nat.beq (mKd k) 2)
  | _ => true
def mil (i : Instr) (n : Nat) : Nat := match i with
  | .bipush _ => 2
  | .iload _ => 2
  | .aload _ => 2
  | .lload _ => 2
  | .istore _ => 2
  | .astore _ => 2
  | .ldc _ => 2
  | .newarray _ => 2
  | .sipush _ => 3
  | .ldc_w _ => 3
  | .ldc2_w _ => 3
  | .iinc _ _ => 3
  | .goto _ => 3
  | .ifCond _ _ => 3
  | .if_icmp _ _ => 3
  | .ifnull _ => 3
  | .ifnonnull _ => 3
  | .getfield _ => 3
  | .putfield _ => 3
  | .getstatic _ => 3
  | .new _ => 3
  | .anewarray _ => 3
  | .invokevirtual _ => 3
  | .invokestatic _ => 3
  | .invokespecial _ => 3
  | .tableswitch _ _ _ _ => n
  | .lookupswitch _ _ => n
  | _ => 1
def mOkB (mid pc : Nat) (I : mI) : Bool := decide (decode (mCd mid) pc = .ok (I.1, mil I.1 I.2.1)) && Nat.beq I.2.1 (mil I.1 I.2.1) && mExB mid pc I
def mChk (mid : Nat) : Nat → List mI → Bool
  | _, [] => true
  | pc, I :: is => mOkB mid pc I && mChk mid (pc + I.2.1) is
/-- what is known of each method of the tables -/
def mMrB (k : Nat) : Bool := match mnth mM k, mnth mMr k with
  | some q, some r => plainName q.1.cls && !(q.1.cls == "java/lang/invoke/MethodHandle") && !(q.1.cls == "java/lang/invoke/VarHandle") && decide ((parseMethodDescriptor q.1.desc).map (fun d => d.parameters.length) = some r.2.1) && Nat.ble q.2.2.1 40 && mwd r.2.2.2.2 (.initialized q.1.cls) && (match r.1 with
    | 0 => mwd r.2.2.1 (.instanceMethod q.1) && mwd r.2.2.2.1 (.selects q.1.cls q.1 q.1) && decide ((mCq (mcNl k)).1 = q.1.cls) && Nat.blt (mcNl k) 13
    | 1 => mwd r.2.2.1 (.static q.1)
    | 2 => mwd r.2.2.1 (.instanceMethod q.1) && q.1.name == "<init>" && decide (q.2.2.2 = none)
    | _ => false)
  | _, _ => false
set_option maxRecDepth 100000 in
theorem mMr_ok : (List.range 229).all mMrB = true := by decide +kernel
set_option maxRecDepth 100000 in
theorem mM_code : (mM.take 229).map (fun q => Cond.code q.1 q.2.1 q.2.2.1 q.2.2.2) = ([294, 801, 812, 828, 824, 88, 895, 683, 94, 899, 775, 788, 807, 272, 594, 598, 602, 625, 629, 613, 606, 609, 621, 632, 133, 905, 582, 346, 870, 878, 887, 115, 636, 617, 537, 541, 545, 213, 701, 489, 476, 481, 500, 457, 517, 660, 926, 321, 842, 846, 849, 857, 184, 696, 426, 413, 430, 417, 438, 453, 793, 727, 746, 742, 750, 758, 767, 178, 692, 656, 664, 669, 533, 496, 528, 507, 511, 552, 556, 719, 80, 398, 422, 444, 449, 461, 469, 485, 560, 569, 574, 578, 587, 647, 652, 675, 679, 688, 706, 710, 715, 723, 734, 738, 754, 763, 771, 780, 784, 797, 820, 834, 838, 862, 866, 874, 883, 891, 910, 914, 918, 922, 930, 402, 465, 434, 472, 590, 492, 563, 405, 408, 639, 935, 1013, 1009, 1076, 1228, 1088, 1139, 1147, 1118, 1051, 1055, 1059, 1063, 1027, 1031, 1035, 1039, 1043, 1047, 1023, 1005, 1019, 1073, 1069, 1080, 1092, 1102, 1084, 1106, 1115, 1111, 1122, 1130, 1154, 1157, 1151, 1160, 1144, 1135, 1171, 1164, 1168, 1182, 1179, 1175, 1186, 1203, 1199, 1195, 1190, 1212, 1208, 1220, 1225, 1217, 1232, 1239, 1236, 1243, 1251, 1098, 1247, 1256, 1264, 1260, 1272, 1268, 1276, 1280, 1284, 1292, 1288, 1301, 1296, 1305, 1309, 1321, 1324, 1317, 1328, 1332, 1336, 1313, 1340, 1125, 1344, 1348, 1352, 1356, 1360, 1364, 1368, 1376, 1372, 1380, 521] : List Nat).filterMap (fun i => lw_tbl[i]?) := rfl
theorem mTb_mx1 : Cond.static Lib.Math.max.name ∈ mTb := mwd_in (w := 136) (by decide +kernel)
theorem mTb_mn1 : Cond.static Lib.Math.min.name ∈ mTb := mwd_in (w := 547) (by decide +kernel)
theorem mTb_mi : Cond.initialized "java/lang/Math" ∈ mTb := mwd_in (w := 65) (by decide +kernel)
set_option maxRecDepth 100000 in
theorem mTb_mx2 : Cond.code Lib.Math.max.name Lib.Math.max.code 2 (some .int) ∈ mTb := List.mem_filter.mpr ⟨List.mem_of_getElem? (i := 137) rfl, by decide +kernel⟩
set_option maxRecDepth 100000 in
theorem mTb_mn2 : Cond.code Lib.Math.min.name Lib.Math.min.code 2 (some .int) ∈ mTb := List.mem_filter.mpr ⟨List.mem_of_getElem? (i := 548) rfl, by decide +kernel⟩
theorem mTb_ac1 : Cond.static arraycopyName ∈ mTb := mwd_in (w := 642) (by decide +kernel)
theorem mTb_ac2 : Cond.native arraycopyName ∈ mTb := mwd_in (w := 643) (by decide +kernel)
theorem mTb_ac3 : Cond.initialized "java/lang/System" ∈ mTb := mwd_in (w := 75) (by decide +kernel)
theorem mTb_oi1 : Cond.instanceMethod objectInit ∈ mTb := mwd_in (w := 82) (by decide +kernel)
set_option maxRecDepth 100000 in
theorem mTb_oi2 : Cond.code objectInit ⟨#[0xb1]⟩ 1 none ∈ mTb := List.mem_filter.mpr ⟨List.mem_of_getElem? (i := 83) rfl, by decide +kernel⟩
theorem mTb_ai : Cond.arrayClass .int ∈ mTb := mwd_in (w := 110) (by decide +kernel)
theorem mTb_az : Cond.arrayClass .boolean ∈ mTb := mwd_in (w := 1001) (by decide +kernel)
theorem mTb_c0 : ∀ w ∈ u_ws RX0 TX0 5, w ∈ mTb := by
  have h : (u_ws RX0 TX0 5) = ([306, 308, 310, 312, 314] : List Nat).filterMap (fun i => lw_tbl[i]?) := by decide +kernel
  have g : (u_ws RX0 TX0 5).all goodWord = true := by decide +kernel
  intro w hw
  refine List.mem_filter.mpr ⟨?_, List.all_eq_true.mp g w hw⟩
  rw [h] at hw
  obtain ⟨i, -, hi⟩ := List.mem_filterMap.mp hw
  exact List.mem_of_getElem? hi
theorem mTb_n0 : Cond.instantiable RX0 5 ∈ mTb := mwd_in (w := 291) (by decide +kernel)
theorem mTb_i0 : Cond.initialized RX0 ∈ mTb := mwd_in (w := 70) (by decide +kernel)
theorem mTb_c1 : ∀ w ∈ u_ws RX1 TX1 6, w ∈ mTb := by
  have h : (u_ws RX1 TX1 6) = ([161, 163, 165, 167, 169, 171] : List Nat).filterMap (fun i => lw_tbl[i]?) := by decide +kernel
  have g : (u_ws RX1 TX1 6).all goodWord = true := by decide +kernel
  intro w hw
  refine List.mem_filter.mpr ⟨?_, List.all_eq_true.mp g w hw⟩
  rw [h] at hw
  obtain ⟨i, -, hi⟩ := List.mem_filterMap.mp hw
  exact List.mem_of_getElem? hi
theorem mTb_n1 : Cond.instantiable RX1 6 ∈ mTb := mwd_in (w := 85) (by decide +kernel)
theorem mTb_i1 : Cond.initialized RX1 ∈ mTb := mwd_in (w := 61) (by decide +kernel)
theorem mTb_c2 : ∀ w ∈ u_ws RX2 TX2 4, w ∈ mTb := by
  have h : (u_ws RX2 TX2 4) = ([101, 103, 105, 107] : List Nat).filterMap (fun i => lw_tbl[i]?) := by decide +kernel
  have g : (u_ws RX2 TX2 4).all goodWord = true := by decide +kernel
  intro w hw
  refine List.mem_filter.mpr ⟨?_, List.all_eq_true.mp g w hw⟩
  rw [h] at hw
  obtain ⟨i, -, hi⟩ := List.mem_filterMap.mp hw
  exact List.mem_of_getElem? hi
theorem mTb_n2 : Cond.instantiable RX2 4 ∈ mTb := mwd_in (w := 91) (by decide +kernel)
theorem mTb_i2 : Cond.initialized RX2 ∈ mTb := mwd_in (w := 62) (by decide +kernel)
theorem mTb_c3 : ∀ w ∈ u_ws RX3 TX3 4, w ∈ mTb := by
  have h : (u_ws RX3 TX3 4) = ([281, 283, 285, 287] : List Nat).filterMap (fun i => lw_tbl[i]?) := by decide +kernel
  have g : (u_ws RX3 TX3 4).all goodWord = true := by decide +kernel
  intro w hw
  refine List.mem_filter.mpr ⟨?_, List.all_eq_true.mp g w hw⟩
  rw [h] at hw
  obtain ⟨i, -, hi⟩ := List.mem_filterMap.mp hw
  exact List.mem_of_getElem? hi
theorem mTb_n3 : Cond.instantiable RX3 4 ∈ mTb := mwd_in (w := 269) (by decide +kernel)
theorem mTb_i3 : Cond.initialized RX3 ∈ mTb := mwd_in (w := 69) (by decide +kernel)
theorem mTb_c4 : ∀ w ∈ u_ws RX4 TX4 2, w ∈ mTb := by
  have h : (u_ws RX4 TX4 2) = ([144, 146] : List Nat).filterMap (fun i => lw_tbl[i]?) := by decide +kernel
  have g : (u_ws RX4 TX4 2).all goodWord = true := by decide +kernel
  intro w hw
  refine List.mem_filter.mpr ⟨?_, List.all_eq_true.mp g w hw⟩
  rw [h] at hw
  obtain ⟨i, -, hi⟩ := List.mem_filterMap.mp hw
  exact List.mem_of_getElem? hi
theorem mTb_n4 : Cond.instantiable RX4 2 ∈ mTb := mwd_in (w := 130) (by decide +kernel)
theorem mTb_i4 : Cond.initialized RX4 ∈ mTb := mwd_in (w := 64) (by decide +kernel)
theorem mTb_c5 : ∀ w ∈ u_ws RX5 TX5 3, w ∈ mTb := by
  have h : (u_ws RX5 TX5 3) = ([354, 356, 358] : List Nat).filterMap (fun i => lw_tbl[i]?) := by decide +kernel
  have g : (u_ws RX5 TX5 3).all goodWord = true := by decide +kernel
  intro w hw
  refine List.mem_filter.mpr ⟨?_, List.all_eq_true.mp g w hw⟩
  rw [h] at hw
  obtain ⟨i, -, hi⟩ := List.mem_filterMap.mp hw
  exact List.mem_of_getElem? hi
theorem mTb_n5 : Cond.instantiable RX5 3 ∈ mTb := mwd_in (w := 343) (by decide +kernel)
theorem mTb_i5 : Cond.initialized RX5 ∈ mTb := mwd_in (w := 72) (by decide +kernel)
theorem mTb_c6 : ∀ w ∈ u_ws RX6 TX6 3, w ∈ mTb := by
  have h : (u_ws RX6 TX6 3) = ([122, 124, 126] : List Nat).filterMap (fun i => lw_tbl[i]?) := by decide +kernel
  have g : (u_ws RX6 TX6 3).all goodWord = true := by decide +kernel
  intro w hw
  refine List.mem_filter.mpr ⟨?_, List.all_eq_true.mp g w hw⟩
  rw [h] at hw
  obtain ⟨i, -, hi⟩ := List.mem_filterMap.mp hw
  exact List.mem_of_getElem? hi
theorem mTb_n6 : Cond.instantiable RX6 3 ∈ mTb := mwd_in (w := 112) (by decide +kernel)
theorem mTb_i6 : Cond.initialized RX6 ∈ mTb := mwd_in (w := 63) (by decide +kernel)
theorem mTb_c7 : ∀ w ∈ u_ws RX7 TX7 7, w ∈ mTb := by
  have h : (u_ws RX7 TX7 7) = ([234, 236, 238, 240, 242, 244, 246] : List Nat).filterMap (fun i => lw_tbl[i]?) := by decide +kernel
  have g : (u_ws RX7 TX7 7).all goodWord = true := by decide +kernel
  intro w hw
  refine List.mem_filter.mpr ⟨?_, List.all_eq_true.mp g w hw⟩
  rw [h] at hw
  obtain ⟨i, -, hi⟩ := List.mem_filterMap.mp hw
  exact List.mem_of_getElem? hi
theorem mTb_n7 : Cond.instantiable RX7 7 ∈ mTb := mwd_in (w := 210) (by decide +kernel)
theorem mTb_i7 : Cond.initialized RX7 ∈ mTb := mwd_in (w := 68) (by decide +kernel)
theorem mTb_c8 : ∀ w ∈ u_ws RX8 TX8 5, w ∈ mTb := by
  have h : (u_ws RX8 TX8 5) = ([330, 332, 334, 336, 338] : List Nat).filterMap (fun i => lw_tbl[i]?) := by decide +kernel
  have g : (u_ws RX8 TX8 5).all goodWord = true := by decide +kernel
  intro w hw
  refine List.mem_filter.mpr ⟨?_, List.all_eq_true.mp g w hw⟩
  rw [h] at hw
  obtain ⟨i, -, hi⟩ := List.mem_filterMap.mp hw
  exact List.mem_of_getElem? hi
theorem mTb_n8 : Cond.instantiable RX8 5 ∈ mTb := mwd_in (w := 318) (by decide +kernel)
theorem mTb_i8 : Cond.initialized RX8 ∈ mTb := mwd_in (w := 71) (by decide +kernel)
theorem mTb_c9 : ∀ w ∈ u_ws RX9 TX9 5, w ∈ mTb := by
  have h : (u_ws RX9 TX9 5) = ([198, 200, 202, 204, 206] : List Nat).filterMap (fun i => lw_tbl[i]?) := by decide +kernel
  have g : (u_ws RX9 TX9 5).all goodWord = true := by decide +kernel
  intro w hw
  refine List.mem_filter.mpr ⟨?_, List.all_eq_true.mp g w hw⟩
  rw [h] at hw
  obtain ⟨i, -, hi⟩ := List.mem_filterMap.mp hw
  exact List.mem_of_getElem? hi
theorem mTb_n9 : Cond.instantiable RX9 5 ∈ mTb := mwd_in (w := 181) (by decide +kernel)
theorem mTb_i9 : Cond.initialized RX9 ∈ mTb := mwd_in (w := 67) (by decide +kernel)
theorem mTb_c10 : ∀ w ∈ u_ws RX10 TX10 5, w ∈ mTb := by
  have h : (u_ws RX10 TX10 5) = ([257, 259, 261, 263, 265] : List Nat).filterMap (fun i => lw_tbl[i]?) := by decide +kernel
  have g : (u_ws RX10 TX10 5).all goodWord = true := by decide +kernel
  intro w hw
  refine List.mem_filter.mpr ⟨?_, List.all_eq_true.mp g w hw⟩
  rw [h] at hw
  obtain ⟨i, -, hi⟩ := List.mem_filterMap.mp hw
  exact List.mem_of_getElem? hi
theorem mTb_n10 : Cond.instantiable RX10 5 ∈ mTb := mwd_in (w := 175) (by decide +kernel)
theorem mTb_i10 : Cond.initialized RX10 ∈ mTb := mwd_in (w := 66) (by decide +kernel)
theorem mTb_c11 : ∀ w ∈ u_ws RX11 TX11 11, w ∈ mTb := by
  have h : (u_ws RX11 TX11 11) = ([372, 374, 376, 378, 380, 382, 384, 386, 388, 390, 392] : List Nat).filterMap (fun i => lw_tbl[i]?) := by decide +kernel
  have g : (u_ws RX11 TX11 11).all goodWord = true := by decide +kernel
  intro w hw
  refine List.mem_filter.mpr ⟨?_, List.all_eq_true.mp g w hw⟩
  rw [h] at hw
  obtain ⟨i, -, hi⟩ := List.mem_filterMap.mp hw
  exact List.mem_of_getElem? hi
theorem mTb_n11 : Cond.instantiable RX11 11 ∈ mTb := mwd_in (w := 77) (by decide +kernel)
theorem mTb_i11 : Cond.initialized RX11 ∈ mTb := mwd_in (w := 60) (by decide +kernel)
theorem mTb_c12 : ∀ w ∈ u_ws RX12 TX12 21, w ∈ mTb := by
  have h : (u_ws RX12 TX12 21) = ([958, 960, 962, 964, 966, 968, 970, 972, 974, 976, 978, 980, 982, 984, 986, 988, 990, 992, 994, 996, 998] : List Nat).filterMap (fun i => lw_tbl[i]?) := by decide +kernel
  have g : (u_ws RX12 TX12 21).all goodWord = true := by decide +kernel
  intro w hw
  refine List.mem_filter.mpr ⟨?_, List.all_eq_true.mp g w hw⟩
  rw [h] at hw
  obtain ⟨i, -, hi⟩ := List.mem_filterMap.mp hw
  exact List.mem_of_getElem? hi
theorem mTb_n12 : Cond.instantiable RX12 21 ∈ mTb := mwd_in (w := 932) (by decide +kernel)
theorem mTb_i12 : Cond.initialized RX12 ∈ mTb := mwd_in (w := 73) (by decide +kernel)
end
section
/-! the pure step is the machine's -/
theorem mMr_at {k : Nat} (hk : k < 229) : ∃ (q : MethodName × ByteArray × Nat × Option FieldType) (r : Nat × Nat × Nat × Nat × Nat), mnth mM k = some q ∧ mnth mMr k = some r ∧ mMrB k = true := by
  have h := List.all_eq_true.mp mMr_ok k (List.mem_range.mpr hk)
  have h2 := h
  unfold mMrB at h
  cases h1 : mnth mM k with
  | none => rw [h1] at h; simp at h
  | some q =>
    cases h3 : mnth mMr k with
    | none => rw [h1, h3] at h; simp at h
    | some r => exact ⟨q, r, rfl, rfl, h2⟩
theorem mMr_code {k : Nat} (hk : k < 229) : Cond.code (mY k) (mCd k) (mNl k) (mRt k) ∈ mTb := by
  obtain ⟨q, r, h1, -, -⟩ := mMr_at hk
  have e : Cond.code (mY k) (mCd k) (mNl k) (mRt k) = Cond.code q.1 q.2.1 q.2.2.1 q.2.2.2 := by simp only [mY, mCd, mNl, mRt, h1]
  rw [e]
  have hm : Cond.code q.1 q.2.1 q.2.2.1 q.2.2.2 ∈ (mM.take 229).map (fun q => Cond.code q.1 q.2.1 q.2.2.1 q.2.2.2) := by
    refine List.mem_map.mpr ⟨q, ?_, rfl⟩
    rw [mnth_eq] at h1
    refine List.mem_of_getElem? (i := k) ?_
    rw [List.getElem?_take, if_pos hk]
    exact h1
  rw [mM_code] at hm
  obtain ⟨i, -, hi⟩ := List.mem_filterMap.mp hm
  exact List.mem_filter.mpr ⟨List.mem_of_getElem? hi, rfl⟩
/-- what each method's rows say -/
theorem mMr_say {k : Nat} (hk : k < 229) : plainName (mY k).cls = true ∧ ((mY k).cls ≠ "java/lang/invoke/MethodHandle" ∧ (mY k).cls ≠ "java/lang/invoke/VarHandle" ∧ (parseMethodDescriptor (mY k).desc).map (fun d => d.parameters.length) = some (mNa k)) ∧ mNl k ≤ 40 ∧ Cond.initialized (mY k).cls ∈ mTb ∧ (mKd k = 0 → Cond.instanceMethod (mY k) ∈ mTb ∧ Cond.selects (mY k).cls (mY k) (mY k) ∈ mTb ∧ (mCq (mcN k)).1 = (mY k).cls ∧ mcN k < 13) ∧ (mKd k = 1 → Cond.static (mY k) ∈ mTb) ∧ (mKd k = 2 → Cond.instanceMethod (mY k) ∈ mTb ∧ (mY k).name = "<init>" ∧ mRt k = none) := by
  obtain ⟨q, r, h1, h2, h⟩ := mMr_at hk
  have e1 : mY k = q.1 := by simp only [mY, h1]
  have e2 : mNl k = q.2.2.1 := by simp only [mNl, h1]
  have e3 : mNa k = r.2.1 := by simp only [mNa, h2]
  have e4 : mKd k = r.1 := by simp only [mKd, h2]
  have e5 : mcN k = mcNl k := by simp only [mcN, h2]
  have e6 : mRt k = q.2.2.2 := by simp only [mRt, h1]
  unfold mMrB at h
  rw [h1, h2] at h
  simp only [Bool.and_eq_true, Bool.not_eq_true', beq_eq_false_iff_ne, decide_eq_true_eq] at h
  obtain ⟨⟨⟨⟨⟨⟨p1, p2⟩, p3⟩, p4⟩, p5⟩, p6⟩, p7⟩ := h
  rw [e1, e2, e3, e4, e5, e6]
  refine ⟨p1, ⟨p2, p3, p4⟩, Nat.le_of_ble_eq_true p5, mwd_in p6, fun z => ?_, fun z => ?_, fun z => ?_⟩
  · rw [z] at p7
    simp only [Bool.and_eq_true, decide_eq_true_eq] at p7
    exact ⟨mwd_in p7.1.1.1, mwd_in p7.1.1.2, p7.1.2, by simpa [Nat.blt_eq] using p7.2⟩
  · rw [z] at p7
    exact mwd_in p7
  · rw [z] at p7
    simp only [Bool.and_eq_true, decide_eq_true_eq, beq_iff_eq] at p7
    exact ⟨mwd_in p7.1.1, p7.1.2, p7.2⟩
/-- what is known of each class -/
def mCf (ci : Nat) : Prop := ∃ ty : Nat → FieldType, (∀ w ∈ u_ws (mCq ci).1 (mCq ci).2.1 (mCq ci).2.2, w ∈ mTb) ∧ (∀ k, k < (mCq ci).2.2 → parseFieldDescriptor ((mCq ci).2.1 k).2.2.1 = some (ty k)) ∧ (∀ a, a < (mCq ci).2.2 → ∀ b, b < (mCq ci).2.2 → a ≠ b → ((mCq ci).2.1 a).2.1 ≠ ((mCq ci).2.1 b).2.1) ∧ Cond.instantiable (mCq ci).1 (mCq ci).2.2 ∈ mTb ∧ Cond.initialized (mCq ci).1 ∈ mTb ∧ mNf ci = (mCq ci).2.2 ∧ (∀ j, j < (mCq ci).2.2 → (mkd ci j = 0 ∧ ty j = .int) ∨ (mkd ci j = 1 ∧ ty j = .boolean) ∨ (mkd ci j = 2 ∧ ((∃ n, ty j = .object n) ∨ ∃ t, ty j = .array t))) ∧ mCl[ci]? = some (mCq ci)
def mkB (ci j : Nat) (t : FieldType) : Bool := match mkd ci j, t with
  | 0, .int => true
  | 1, .boolean => true
  | 2, .object _ => true
  | 2, .array _ => true
  | _, _ => false
theorem mkB_to {ci j : Nat} {t : FieldType} (h : mkB ci j t = true) : (mkd ci j = 0 ∧ t = .int) ∨ (mkd ci j = 1 ∧ t = .boolean) ∨ (mkd ci j = 2 ∧ ((∃ n, t = .object n) ∨ ∃ u, t = .array u)) := by
  unfold mkB at h
  split at h
  · exact Or.inl ⟨by assumption, rfl⟩
  · exact Or.inr (Or.inl ⟨by assumption, rfl⟩)
  · exact Or.inr (Or.inr ⟨by assumption, Or.inl ⟨_, rfl⟩⟩)
  · exact Or.inr (Or.inr ⟨by assumption, Or.inr ⟨_, rfl⟩⟩)
  · cases h
theorem mCf_0 : mCf 0 := ⟨tyX0, mTb_c0, tyX0_ok, nmX0, mTb_n0, mTb_i0, rfl, fun j hj => mkB_to ((show ∀ j, j < 5 → mkB 0 j (tyX0 j) = true by decide +kernel) j hj), rfl⟩
theorem mCf_1 : mCf 1 := ⟨tyX1, mTb_c1, tyX1_ok, nmX1, mTb_n1, mTb_i1, rfl, fun j hj => mkB_to ((show ∀ j, j < 6 → mkB 1 j (tyX1 j) = true by decide +kernel) j hj), rfl⟩
theorem mCf_2 : mCf 2 := ⟨tyX2, mTb_c2, tyX2_ok, nmX2, mTb_n2, mTb_i2, rfl, fun j hj => mkB_to ((show ∀ j, j < 4 → mkB 2 j (tyX2 j) = true by decide +kernel) j hj), rfl⟩
theorem mCf_3 : mCf 3 := ⟨tyX3, mTb_c3, tyX3_ok, nmX3, mTb_n3, mTb_i3, rfl, fun j hj => mkB_to ((show ∀ j, j < 4 → mkB 3 j (tyX3 j) = true by decide +kernel) j hj), rfl⟩
theorem mCf_4 : mCf 4 := ⟨tyX4, mTb_c4, tyX4_ok, nmX4, mTb_n4, mTb_i4, rfl, fun j hj => mkB_to ((show ∀ j, j < 2 → mkB 4 j (tyX4 j) = true by decide +kernel) j hj), rfl⟩
theorem mCf_5 : mCf 5 := ⟨tyX5, mTb_c5, tyX5_ok, nmX5, mTb_n5, mTb_i5, rfl, fun j hj => mkB_to ((show ∀ j, j < 3 → mkB 5 j (tyX5 j) = true by decide +kernel) j hj), rfl⟩
theorem mCf_6 : mCf 6 := ⟨tyX6, mTb_c6, tyX6_ok, nmX6, mTb_n6, mTb_i6, rfl, fun j hj => mkB_to ((show ∀ j, j < 3 → mkB 6 j (tyX6 j) = true by decide +kernel) j hj), rfl⟩
theorem mCf_7 : mCf 7 := ⟨tyX7, mTb_c7, tyX7_ok, nmX7, mTb_n7, mTb_i7, rfl, fun j hj => mkB_to ((show ∀ j, j < 7 → mkB 7 j (tyX7 j) = true by decide +kernel) j hj), rfl⟩
theorem mCf_8 : mCf 8 := ⟨tyX8, mTb_c8, tyX8_ok, nmX8, mTb_n8, mTb_i8, rfl, fun j hj => mkB_to ((show ∀ j, j < 5 → mkB 8 j (tyX8 j) = true by decide +kernel) j hj), rfl⟩
theorem mCf_9 : mCf 9 := ⟨tyX9, mTb_c9, tyX9_ok, nmX9, mTb_n9, mTb_i9, rfl, fun j hj => mkB_to ((show ∀ j, j < 5 → mkB 9 j (tyX9 j) = true by decide +kernel) j hj), rfl⟩
theorem mCf_10 : mCf 10 := ⟨tyX10, mTb_c10, tyX10_ok, nmX10, mTb_n10, mTb_i10, rfl, fun j hj => mkB_to ((show ∀ j, j < 5 → mkB 10 j (tyX10 j) = true by decide +kernel) j hj), rfl⟩
theorem mCf_11 : mCf 11 := ⟨tyX11, mTb_c11, tyX11_ok, nmX11, mTb_n11, mTb_i11, rfl, fun j hj => mkB_to ((show ∀ j, j < 11 → mkB 11 j (tyX11 j) = true by decide +kernel) j hj), rfl⟩
theorem mCf_12 : mCf 12 := ⟨tyX12, mTb_c12, tyX12_ok, nmX12, mTb_n12, mTb_i12, rfl, fun j hj => mkB_to ((show ∀ j, j < 21 → mkB 12 j (tyX12 j) = true by decide +kernel) j hj), rfl⟩
theorem mCf_all {ci : Nat} (h : ci < 13) : mCf ci := by
  match ci, h with
  | 0, _ => exact mCf_0
  | 1, _ => exact mCf_1
  | 2, _ => exact mCf_2
  | 3, _ => exact mCf_3
  | 4, _ => exact mCf_4
  | 5, _ => exact mCf_5
  | 6, _ => exact mCf_6
  | 7, _ => exact mCf_7
  | 8, _ => exact mCf_8
  | 9, _ => exact mCf_9
  | 10, _ => exact mCf_10
  | 11, _ => exact mCf_11
  | 12, _ => exact mCf_12
  | n + 13, h => omega
end
section
/-! where a walk stands, and the helpers of the step's rows -/
def mlv (G : mG) (ls : Array Slot) (n : Nat) (pl : mLoc) : Prop := pl.length = n ∧ ls.size = n ∧ lv_wf ls ∧ ∀ (i : Nat) (v : Value), mnth pl i = some (some v) → ls[i]? = some (.val (mtr G v))
def mll (G : mG) (pl : mLoc) : List (Nat × Value) := (List.range pl.length).filterMap (fun i => match mnth pl i with
  | some (some v) => some (i, mtr G v)
  | _ => none)
theorem mll_mem {G : mG} {pl : mLoc} {q : Nat × Value} : q ∈ mll G pl ↔ ∃ v, mnth pl q.1 = some (some v) ∧ q.2 = mtr G v := by
  constructor
  · intro h
    obtain ⟨i, -, hi⟩ := List.mem_filterMap.mp h
    split at hi
    · rename_i v hv
      cases hi
      exact ⟨v, hv, rfl⟩
    · cases hi
  · rintro ⟨v, h1, h2⟩
    refine List.mem_filterMap.mpr ⟨q.1, List.mem_range.mpr (mnth_lt h1), ?_⟩
    simp only [h1, ← h2]
theorem mlv.has {G : mG} {ls : Array Slot} {n : Nat} {pl : mLoc} (h : mlv G ls n pl) : lv_has ls n (mll G pl) := ⟨h.2.1, h.2.2.1, fun q hq => by
  obtain ⟨v, h1, h2⟩ := mll_mem.mp hq
  rw [h2]
  exact h.2.2.2 _ _ h1⟩
theorem mlv.of {G : mG} {ls' : Array Slot} {n : Nat} {pl : mLoc} {i : Nat} {v : Value} {x : Option Value} (hn : pl.length = n) (hi : mnth pl i = some x) (ho : mok1 pl i = true) (h : lv_has ls' n ((i, mtr G v) :: (mll G pl).filter (fun q => !(q.1 == i) && !(q.1 + 1 == i && q.2.category == 2)))) : mlv G ls' n (mset pl i v) := by
  refine ⟨by rw [mset_len]; exact hn, h.1, h.2.1, fun j w hj => ?_⟩
  rw [mset_eq, mnth_eq] at hj
  have hil := mnth_lt hi
  by_cases e : j = i
  · subst e
    rw [List.getElem?_set_self hil] at hj
    cases hj
    exact h.2.2 (j, mtr G v) List.mem_cons_self
  · rw [List.getElem?_set_ne (Ne.symm e)] at hj
    have hj' : mnth pl j = some (some w) := by rw [mnth_eq]; exact hj
    refine h.2.2 (j, mtr G w) (List.mem_cons_of_mem _ (List.mem_filter.mpr ⟨mll_mem.mpr ⟨w, hj', rfl⟩, ?_⟩))
    simp only [Bool.and_eq_true, Bool.not_eq_true', beq_eq_false_iff_ne, Bool.and_eq_false_iff]
    refine ⟨e, ?_⟩
    by_cases e2 : j + 1 = i
    · right
      subst e2
      simp only [mok1, hj', beq_iff_eq] at ho
      rw [mtr_cat, ho]
      decide
    · left
      exact e2
def mCx (d mid : Nat) (G : mG) (p : Program) (R : Room) (s : State) (m : MethodId) (args : Array Value) (meth : Method) (c : Code) : Prop :=
  p.tables.exec = Jvm.exec ∧ c.code = mCd mid ∧ c.maxLocals = mNl mid ∧ s.vm.findClass (mY mid).cls = some m.cls ∧ (∀ w ∈ mTb, w.before args s = true) ∧ mKs G s s.heap ∧ d ≤ R.frames ∧ 64 * d ≤ R.locals ∧ (mMc mid).1 ≤ R.cells ∧ (mMc mid).2 ≤ R.slots ∧ ((mY mid).name = "<init>" → meth.name = "<init>") ∧ meth.locks = false
def mGo (mid : Nat) (G : mG) (p : Program) (l : Launch) (e : Env) (R : Room) (s : State) (m : MethodId) (args : Array Value) (below : List Frame) (meth : Method) (c : Code) (Q : State → Prop) : mK6 := fun pc pl st S cu su => ∀ (H : Heap) (locs : List Loc) (ls : Array Slot), mP G S H → va_S (mA G) s.heap H locs → mlv G ls (mNl mid) pl → s.heap.size + cu = G.1 + S.1.length → W p l e R s m args below meth c H locs cu su Q (F0 m pc ls (st.map (mtr G)))
def mRi (mid pc : Nat) (v : Option Value) : Prop := (∃ x, v = some (.int x) ∧ mrk (mRt mid) x ∧ decode (mCd mid) pc = .ok (.ireturn, 1)) ∨ (v = none ∧ mRt mid = none ∧ decode (mCd mid) pc = .ok (.return_, 1)) ∨ (∃ x, v = some x ∧ (x = .null ∨ ∃ a, x = .ref a) ∧ mrq (mRt mid) ∧ decode (mCd mid) pc = .ok (.areturn, 1))
def mFin (mid : Nat) (G : mG) (p : Program) (l : Launch) (e : Env) (R : Room) (s : State) (m : MethodId) (args : Array Value) (below : List Frame) (meth : Method) (c : Code) (Q : State → Prop) (res : Option Value × mS) : Prop := ∀ (H : Heap) (locs : List Loc) (ls : Array Slot) (pc cu su : Nat), mP G res.2 H → va_S (mA G) s.heap H locs → H.size = G.1 + res.2.1.length → mcap mid cu su = true → mRi mid pc res.1 → W p l e R s m args below meth c H locs cu su Q (F0 m pc ls (res.1.toList.map (mtr G)))
theorem mW_size {p : Program} {l : Launch} {e : Env} {R : Room} {s : State} {m : MethodId} {args : Array Value} {below : List Frame} {meth : Method} {c : Code} {H : Heap} {locs : List Loc} {cells slots : Nat} {Q : State → Prop} {g : JFrame} (k : H.size ≤ s.heap.size + cells → W p l e R s m args below meth c H locs cells slots Q g) : W p l e R s m args below meth c H locs cells slots Q g := fun T hT X => k (by rw [← hT]; exact X.heapSize) T hT X
theorem mP_low {G : mG} {S : mS} {H : Heap} (hP : mP G S H) (hG : G.1 ≤ H.size) : G.1 + S.1.length ≤ H.size := by
  cases hn : S.1.length with
  | zero => omega
  | succ n =>
    have hl : n < S.1.length := by omega
    have h := hP.2.1 n _ (by rw [mWs_at, List.getElem?_eq_getElem hl]; rfl)
    have := h.lt
    simp only at this
    omega
theorem mP_eq {G : mG} {S : mS} {s : State} {H : Heap} {locs : List Loc} {cu : Nat} (hP : mP G S H) (hK : mKs G s s.heap) (hS : va_S (mA G) s.heap H locs) (hc : s.heap.size + cu = G.1 + S.1.length) (hz : H.size ≤ s.heap.size + cu) : H.size = G.1 + S.1.length := by
  have h1 := mP_low hP (Nat.le_trans hK.2.2.2.2.2.2.2 hS.1)
  omega
/-- a row of ints changes -/
theorem mEn_ne {G : mG} {σ : Nat → Nat → Int32} {k j : Nat} {f : Nat → Int32} {e : mE} (h : j ≠ k) : mEn G (mrow σ k f) j e = mEn G σ j e := by
  obtain ⟨a, b, c⟩ := e
  unfold mEn mFs mrow
  simp only [if_neg h]
theorem mWs_row {G : mG} {S : mS} {k : Nat} {f : Nat → Int32} {e : mE} (h : mnth S.1 k = some e) : mWs G (S.1, S.2.1, mrow S.2.2 k f) = (mWs G S).set k (G.1 + k, mEn G (mrow S.2.2 k f) k e) := by
  apply List.ext_getElem?
  intro j
  rw [mWs_at]
  by_cases hj : j = k
  · subst hj
    have hl : j < (mWs G S).length := by simp [mWs]; exact mnth_lt h
    rw [List.getElem?_set_self hl]
    rw [mnth_eq] at h
    simp only [h]; rfl
  · rw [List.getElem?_set_ne (Ne.symm hj), mWs_at]
    simp only
    cases S.1[j]? with
    | none => rfl
    | some x => simp only [Option.map_some, mEn_ne hj]
theorem mP_row {G : mG} {S : mS} {H H1 : Heap} {k : Nat} {f : Nat → Int32} {e : mE} (hP : mP G S H) (h : mnth S.1 k = some e) (h1 : va_P G.2.2.1 mCl ((mWs G S).set k (G.1 + k, mEn G (mrow S.2.2 k f) k e)) H1) : mP G (S.1, S.2.1, mrow S.2.2 k f) H1 := by
  have hl := mnth_lt h
  obtain ⟨a1, a2, a3, a4, a5, a6⟩ := hP
  have n0 : (1000000 : Nat) ≠ k := by omega
  have n1 : (1000001 : Nat) ≠ k := by omega
  have n2 : (1000002 : Nat) ≠ k := by omega
  refine ⟨a1, by rw [mWs_row h]; exact h1, a3, ?_, ?_, ?_⟩
  · show mrow S.2.2 k f 1000000 = _
    simp only [mrow, if_neg n0]; exact a4
  · show mrow S.2.2 k f 1000001 = _
    simp only [mrow, if_neg n1]; exact a5
  · show mrow S.2.2 k f 1000002 = _
    simp only [mrow, if_neg n2]; exact a6
/-- a cell's references change -/
theorem mWs_set {G : mG} {S : mS} {k : Nat} {e e' : mE} (h : mnth S.1 k = some e) : mWs G (S.1.set k e', S.2.1, S.2.2) = (mWs G S).set k (G.1 + k, mEn G S.2.2 k e') := by
  apply List.ext_getElem?
  intro j
  have hl := mnth_lt h
  rw [mWs_at]
  by_cases hj : j = k
  · subst hj
    have hl2 : j < (mWs G S).length := by simp [mWs]; exact hl
    rw [List.getElem?_set_self hl2]
    simp only [List.getElem?_set_self hl]; rfl
  · simp only [List.getElem?_set_ne (Ne.symm hj), mWs_at]
theorem mP_set {G : mG} {S : mS} {H H1 : Heap} {k : Nat} {e e' : mE} (hP : mP G S H) (h : mnth S.1 k = some e) (h1 : va_P G.2.2.1 mCl ((mWs G S).set k (G.1 + k, mEn G S.2.2 k e')) H1) : mP G (S.1.set k e', S.2.1, S.2.2) H1 := by
  obtain ⟨a1, a2, a3, a4, a5, a6⟩ := hP
  exact ⟨by simpa using a1, by rw [mWs_set h]; exact h1, a3, a4, a5, a6⟩
/-- a cell comes -/
theorem mP_push {G : mG} {S : mS} {H H1 : Heap} {e : mE} {f : Nat → Int32} (hP : mP G S H) (hn : S.1.length + 1 ≤ 1000) (ho : ∀ q, q < H.size → H1[q]? = H[q]?) (he : va_at G.2.2.1 mCl (G.1 + S.1.length, mEn G (mrow S.2.2 S.1.length f) S.1.length e) H1) : mP G (S.1 ++ [e], S.2.1, mrow S.2.2 S.1.length f) H1 := by
  obtain ⟨a1, a2, a3, a4, a5, a6⟩ := hP
  have n0 : (1000000 : Nat) ≠ S.1.length := by omega
  have n1 : (1000001 : Nat) ≠ S.1.length := by omega
  have n2 : (1000002 : Nat) ≠ S.1.length := by omega
  refine ⟨by simpa using hn, ?_, a3, ?_, ?_, ?_⟩
  · intro j q hq
    rw [mWs_at] at hq
    simp only at hq
    by_cases hj : j < S.1.length
    · rw [List.getElem?_append_left hj, List.getElem?_eq_getElem hj] at hq
      cases hq
      have hne : j ≠ S.1.length := by omega
      have h0 := a2 j _ (by rw [mWs_at, List.getElem?_eq_getElem hj]; rfl)
      show va_at _ _ (G.1 + j, mEn G (mrow S.2.2 S.1.length f) j S.1[j]) H1
      rw [mEn_ne hne]
      exact h0.kept (ho _ h0.lt)
    · rw [List.getElem?_append_right (by omega)] at hq
      by_cases hz : j = S.1.length
      · subst hz
        simp at hq
        subst hq
        exact he
      · have : ([e] : List mE)[j - S.1.length]? = none := by
          rw [List.getElem?_eq_none_iff]; simp; omega
        rw [this] at hq
        cases hq
  · show mrow _ _ f 1000000 = _
    simp only [mrow, if_neg n0]; exact a4
  · show mrow _ _ f 1000001 = _
    simp only [mrow, if_neg n1]; exact a5
  · show mrow _ _ f 1000002 = _
    simp only [mrow, if_neg n2]; exact a6
theorem va_S.grow {A : Nat → Prop} {H0 H H1 : Heap} {locs : List Loc} (h : va_S A H0 H locs) (z : H.size ≤ H1.size) (o : ∀ q, q < H.size → H1[q]? = H[q]?) : va_S A H0 H1 locs := ⟨Nat.le_trans h.1 z, fun q h1 h2 => (o q (Nat.lt_of_lt_of_le h1 h.1)).trans (h.2.1 q h1 h2), h.2.2⟩
theorem mFs_at {G : mG} {σ : Nat → Nat → Int32} {k ci j : Nat} {rs : List (Option Nat)} (h : j < mNf ci) : (mFs G σ k ci rs)[j]? = some (if mkd ci j = 2 then mrv G (rs.getD j none) else .int (σ k j)) := by
  simp [mFs, h]
theorem mFs_len {G : mG} {σ : Nat → Nat → Int32} {k ci : Nat} {rs : List (Option Nat)} : (mFs G σ k ci rs).length = mNf ci := by simp [mFs]
theorem mFs_int {G : mG} {σ : Nat → Nat → Int32} {k ci j : Nat} {rs : List (Option Nat)} {x : Int32} (h : j < mNf ci) (hk : mkd ci j ≠ 2) : mFs G (mup σ k j x) k ci rs = (mFs G σ k ci rs).set j (.int x) := by
  apply List.ext_getElem?
  intro i
  by_cases hi : i < mNf ci
  · rw [mFs_at hi]
    by_cases e : i = j
    · subst e
      rw [List.getElem?_set_self (by rw [mFs_len]; exact hi), if_neg hk]
      simp [mup, mrow, upd]
    · rw [List.getElem?_set_ne (Ne.symm e), mFs_at hi]
      simp [mup, mrow, upd, e]
  · rw [List.getElem?_eq_none (by rw [mFs_len]; omega), List.getElem?_eq_none (by rw [List.length_set, mFs_len]; omega)]
theorem mFs_ref {G : mG} {σ : Nat → Nat → Int32} {k ci j v : Nat} {rs : List (Option Nat)} (h : j < mNf ci) (hk : mkd ci j = 2) (hl : rs.length = mNf ci) : mFs G σ k ci (rs.set j (some v)) = (mFs G σ k ci rs).set j (.ref (mad G v)) := by
  apply List.ext_getElem?
  intro i
  by_cases hi : i < mNf ci
  · rw [mFs_at hi]
    by_cases e : i = j
    · subst e
      rw [List.getElem?_set_self (by rw [mFs_len]; exact hi), if_pos hk]
      simp [hl, hi, mrv]
    · rw [List.getElem?_set_ne (Ne.symm e), mFs_at hi]
      have e2 : j ≠ i := fun z => e z.symm
      simp [List.getD_eq_getElem?_getD, List.getElem?_set_ne e2]
  · rw [List.getElem?_eq_none (by rw [mFs_len]; omega), List.getElem?_eq_none (by rw [List.length_set, mFs_len]; omega)]
end
section
theorem mgI_inv {pl : mLoc} {i : Nat} {k : Int32 → Prop} (h : mgI pl i k) : ∃ x, mnth pl i = some (some (.int x)) ∧ k x := by
  unfold mgI at h
  split at h
  · exact ⟨_, by assumption, h⟩
  · exact h.elim
theorem mgR_inv {pl : mLoc} {i : Nat} {k : Nat → Prop} (h : mgR pl i k) : ∃ x, mnth pl i = some (some (.ref x)) ∧ k x := by
  unfold mgR at h
  split at h
  · exact ⟨_, by assumption, h⟩
  · exact h.elim
theorem mgL_inv {pl : mLoc} {i : Nat} {k : Int64 → Prop} (h : mgL pl i k) : ∃ x, mnth pl i = some (some (.long x)) ∧ k x := by
  unfold mgL at h
  split at h
  · exact ⟨_, by assumption, h⟩
  · exact h.elim
theorem msto_inv {pl : mLoc} {i : Nat} {v : Value} {k : mLoc → Prop} (h : msto pl i v k) : ∃ x, mnth pl i = some x ∧ mok1 pl i = true ∧ k (mset pl i v) := by
  unfold msto at h
  split at h
  · exact ⟨_, by assumption, by assumption, h⟩
  · exact h.elim
theorem ms1_inv {st : List Value} {k : Int32 → List Value → Prop} (h : ms1 st k) : ∃ x r, st = .int x :: r ∧ k x r := by
  unfold ms1 at h
  split at h
  · exact ⟨_, _, rfl, h⟩
  · exact h.elim
theorem ms2_inv {st : List Value} {k : Int32 → Int32 → List Value → Prop} (h : ms2 st k) : ∃ x y r, st = .int y :: .int x :: r ∧ k x y r := by
  unfold ms2 at h
  split at h
  · exact ⟨_, _, _, rfl, h⟩
  · exact h.elim
theorem ms1L_inv {st : List Value} {k : Int64 → List Value → Prop} (h : ms1L st k) : ∃ x r, st = .long x :: r ∧ k x r := by
  unfold ms1L at h
  split at h
  · exact ⟨_, _, rfl, h⟩
  · exact h.elim
theorem ms2L_inv {st : List Value} {k : Int64 → Int64 → List Value → Prop} (h : ms2L st k) : ∃ x y r, st = .long y :: .long x :: r ∧ k x y r := by
  unfold ms2L at h
  split at h
  · exact ⟨_, _, _, rfl, h⟩
  · exact h.elim
theorem msLI_inv {st : List Value} {k : Int64 → Int32 → List Value → Prop} (h : msLI st k) : ∃ x y r, st = .int y :: .long x :: r ∧ k x y r := by
  unfold msLI at h
  split at h
  · exact ⟨_, _, _, rfl, h⟩
  · exact h.elim
theorem ms1R_inv {st : List Value} {k : Nat → List Value → Prop} (h : ms1R st k) : ∃ x r, st = .ref x :: r ∧ k x r := by
  unfold ms1R at h
  split at h
  · exact ⟨_, _, rfl, h⟩
  · exact h.elim
theorem msRI_inv {st : List Value} {k : Nat → Int32 → List Value → Prop} (h : msRI st k) : ∃ a i r, st = .int i :: .ref a :: r ∧ k a i r := by
  unfold msRI at h
  split at h
  · exact ⟨_, _, _, rfl, h⟩
  · exact h.elim
theorem msRII_inv {st : List Value} {k : Nat → Int32 → Int32 → List Value → Prop} (h : msRII st k) : ∃ a i x r, st = .int x :: .int i :: .ref a :: r ∧ k a i x r := by
  unfold msRII at h
  split at h
  · exact ⟨_, _, _, _, rfl, h⟩
  · exact h.elim
theorem msRIR_inv {st : List Value} {k : Nat → Int32 → Nat → List Value → Prop} (h : msRIR st k) : ∃ a i v r, st = .ref v :: .int i :: .ref a :: r ∧ k a i v r := by
  unfold msRIR at h
  split at h
  · exact ⟨_, _, _, _, rfl, h⟩
  · exact h.elim
theorem msRp_inv {st : List Value} {k : Nat → Int32 → List Value → Prop} (h : msRp st k) : ∃ a x r, st = .int x :: .ref a :: r ∧ k a x r := by
  unfold msRp at h
  split at h
  · exact ⟨_, _, _, rfl, h⟩
  · exact h.elim
theorem msRR_inv {st : List Value} {k : Nat → Nat → List Value → Prop} (h : msRR st k) : ∃ a v r, st = .ref v :: .ref a :: r ∧ k a v r := by
  unfold msRR at h
  split at h
  · exact ⟨_, _, _, rfl, h⟩
  · exact h.elim
theorem msV_inv {st : List Value} {k : Value → List Value → Prop} (h : msV st k) : ∃ v r, st = v :: r ∧ k v r := by
  unfold msV at h
  split at h
  · exact ⟨_, _, rfl, h⟩
  · exact h.elim
theorem msVV_inv {st : List Value} {k : Value → Value → List Value → Prop} (h : msVV st k) : ∃ v w r, st = v :: w :: r ∧ k v w r := by
  unfold msVV at h
  split at h
  · exact ⟨_, _, _, rfl, h⟩
  · exact h.elim
theorem msCp_inv {st : List Value} {k : Nat → Int32 → Nat → Int32 → Int32 → List Value → Prop} (h : msCp st k) : ∃ a sp b dp n r, st = .int n :: .int dp :: .ref b :: .int sp :: .ref a :: r ∧ k a sp b dp n r := by
  unfold msCp at h
  split at h
  · exact ⟨_, _, _, _, _, _, rfl, h⟩
  · exact h.elim
theorem mob_inv {S : mS} {a ci : Nat} {k : List (Option Nat) → Prop} (h : mob S a ci k) : ∃ rs, mnth S.1 a = some (0, ci, rs) ∧ k rs := by
  unfold mob at h
  split at h
  · rename_i c rs h1
    split at h
    · rename_i h2
      have := Nat.eq_of_beq_eq_true h2
      subst this
      exact ⟨rs, h1, h⟩
    · exact h.elim
  · exact h.elim
theorem maz_inv {S : mS} {a : Nat} {k : Nat → Prop} (h : maz S a k) : ∃ n rs, mnth S.1 a = some (2, n, rs) ∧ k n := by
  unfold maz at h
  split at h
  · exact ⟨_, _, by assumption, h⟩
  · exact h.elim
theorem maq_inv {S : mS} {a : Nat} {k : Nat → List (Option Nat) → Prop} (h : maq S a k) : ∃ n rs, mnth S.1 a = some (3, n, rs) ∧ k n rs := by
  unfold maq at h
  split at h
  · exact ⟨_, _, by assumption, h⟩
  · exact h.elim
theorem mai_inv {S : mS} {a : Nat} {k : Nat → Prop} (h : mai S a k) : ∃ n, mal S a = some n ∧ k n := by
  unfold mai at h
  split at h
  · exact ⟨_, by assumption, h⟩
  · exact h.elim
theorem mal_inv {S : mS} {a n : Nat} (h : mal S a = some n) : (∃ rs, mnth S.1 a = some (1, n, rs)) ∨ (mnth S.1 a = none ∧ ((a = 1000000 ∧ n = S.2.1) ∨ (a = 1000001 ∧ n = 7) ∨ (a = 1000002 ∧ n = 28))) := by
  unfold mal at h
  split at h
  · rename_i h1
    cases h
    exact Or.inl ⟨_, h1⟩
  · cases h
  · rename_i h1
    refine Or.inr ⟨h1, ?_⟩
    split at h
    · cases h; exact Or.inl ⟨rfl, rfl⟩
    · cases h; exact Or.inr (Or.inl ⟨rfl, rfl⟩)
    · cases h; exact Or.inr (Or.inr ⟨rfl, rfl⟩)
    · cases h
theorem mcut_inv : ∀ {n : Nat} {st acc : List Value} {k : List Value → List Value → Prop}, mcut n st acc k → ∃ xs r, xs.length = n ∧ st = xs ++ r ∧ k (xs.reverse ++ acc) r
  | 0, st, acc, k, h => ⟨[], st, rfl, rfl, h⟩
  | n + 1, [], acc, k, h => h.elim
  | n + 1, v :: st, acc, k, h => by
    obtain ⟨xs, r, h1, h2, h3⟩ := mcut_inv (n := n) h
    exact ⟨v :: xs, r, by simp [h1], by simp [h2], by simpa using h3⟩
theorem mcats_eq (G : mG) (r : List Value) : ((r.map (mtr G)).map fun v => v.category).sum = mcats r := by
  induction r with
  | nil => rfl
  | cons v l ih => simp [mcats, mtr_cat, ih] at ih ⊢; exact ih
theorem mcap_inv {k cu su : Nat} (h : mcap k cu su = true) : cu ≤ (mMc k).1 ∧ su ≤ (mMc k).2 := by
  simp only [mcap, Bool.and_eq_true] at h
  exact ⟨Nat.le_of_ble_eq_true h.1, Nat.le_of_ble_eq_true h.2⟩
theorem mOk_inv {mid pc : Nat} {I : mI} (h : mOkB mid pc I = true) : decode (mCd mid) pc = .ok (I.1, mil I.1 I.2.1) ∧ mExB mid pc I = true := by
  simp only [mOkB, Bool.and_eq_true, decide_eq_true_eq] at h
  exact ⟨h.1.1, h.2⟩
theorem mnth_old {G : mG} {S : mS} {H : Heap} (hP : mP G S H) {a : Nat} {e : mE} (h : mnth S.1 a = some e) : mad G a = G.1 + a := mad_lt (by have := mnth_lt h; have := hP.1; omega)
theorem msw_in {J : Nat → Prop} {x : Int32} {df : Nat} : ∀ {ps : List (Int32 × Nat)}, msw J x df ps → (∃ q ∈ ps, x = q.1 ∧ J q.2 ∧ True) ∨ ((∀ q ∈ ps, ¬ x = q.1) ∧ J df)
  | [], h => Or.inr ⟨fun q hq => (by cases hq), h⟩
  | q :: ps, h => by
    by_cases e : x = q.1
    · exact Or.inl ⟨q, List.mem_cons_self, e, h.1 e, trivial⟩
    · rcases msw_in (h.2 e) with ⟨q', h1, h2⟩ | ⟨h1, h2⟩
      · exact Or.inl ⟨q', List.mem_cons_of_mem _ h1, h2⟩
      · refine Or.inr ⟨fun r hr => ?_, h2⟩
        rcases List.mem_cons.mp hr with z | z
        · subst z; exact e
        · exact h1 r z
theorem mswT_at {pc : Nat} {lo : Int} : ∀ {os : List Int} {k : Nat} {ps : List (Int32 × Nat)}, mswT pc lo os k ps = true → ps.length = os.length ∧ ∀ (q : Int32 × Nat), q ∈ ps → ∃ (j : Nat) (o : Int), os[j]? = some o ∧ q.1.toInt = lo + (k + j : Nat) ∧ (pc : Int) + o = q.2
  | [], k, [], _ => ⟨rfl, fun q hq => by cases hq⟩
  | [], k, q :: ps, h => by simp [mswT] at h
  | o :: os, k, [], h => by simp [mswT] at h
  | o :: os, k, q :: ps, h => by
    simp only [mswT, Bool.and_eq_true, decide_eq_true_eq] at h
    obtain ⟨⟨h1, h2⟩, h3⟩ := h
    obtain ⟨g1, g2⟩ := mswT_at h3
    refine ⟨by simp [g1], fun r hr => ?_⟩
    rcases List.mem_cons.mp hr with z | z
    · subst z; exact ⟨0, o, rfl, h1, h2⟩
    · obtain ⟨j, o', e1, e2, e3⟩ := g2 r z
      exact ⟨j + 1, o', by simpa using e1, by rw [e2]; congr 2; omega, e3⟩
theorem mswT_all {pc : Nat} {lo : Int} : ∀ {os : List Int} {k : Nat} {ps : List (Int32 × Nat)}, mswT pc lo os k ps = true → ∀ (j : Nat), j < os.length → ∃ q ∈ ps, q.1.toInt = lo + (k + j : Nat)
  | [], k, ps, _, j, hj => by simp at hj
  | o :: os, k, [], h, j, hj => by simp [mswT] at h
  | o :: os, k, q :: ps, h, j, hj => by
    simp only [mswT, Bool.and_eq_true, decide_eq_true_eq] at h
    obtain ⟨⟨h1, h2⟩, h3⟩ := h
    cases j with
    | zero => exact ⟨q, List.mem_cons_self, h1⟩
    | succ j =>
      obtain ⟨r, e1, e2⟩ := mswT_all h3 j (by simpa using hj)
      exact ⟨r, List.mem_cons_of_mem _ e1, by rw [e2]; congr 2; omega⟩
theorem mswL_off {pc : Nat} {df : Int} {x : Int32} : ∀ {os : List (Int × Int)} {ps : List (Int32 × Nat)}, mswL pc os ps = true → ∀ (J : Nat → Prop) (dt : Nat), (pc : Int) + df = dt → msw J x dt ps → ∃ t : Nat, (pc : Int) + Op.lookupswitch.offset os df x.toInt = t ∧ J t
  | [], [], h, J, dt, hd, hs => ⟨dt, by simpa [Op.lookupswitch.offset] using hd, hs⟩
  | [], q :: ps, h, J, dt, hd, hs => by simp [mswL] at h
  | o :: os, [], h, J, dt, hd, hs => by simp [mswL] at h
  | o :: os, q :: ps, h, J, dt, hd, hs => by
    simp only [mswL, Bool.and_eq_true, decide_eq_true_eq] at h
    obtain ⟨⟨h1, h2⟩, h3⟩ := h
    by_cases e : x = q.1
    · refine ⟨q.2, ?_, hs.1 e⟩
      subst e
      simp [Op.lookupswitch.offset, h1, h2]
    · obtain ⟨t, e1, e2⟩ := mswL_off h3 J dt hd (hs.2 e)
      refine ⟨t, ?_, e2⟩
      have hne : ¬ o.1 = x.toInt := fun z => e (by rw [← h1] at z; exact (Int32.toInt_inj.mp z).symm)
      have hne2 : ¬ x.toInt = o.1 := fun z => hne z.symm
      rw [← e1]
      simp [Op.lookupswitch.offset, List.find?, hne, hne2]
end
section
section MS
variable {d mid : Nat} {G : mG} {p : Program} {l : Launch} {e : Env} {R : Room} {s : State} {m : MethodId} {args : Array Value} {below : List Frame} {meth : Method} {c : Code} {Q : State → Prop} {res : Option Value × mS} {J K : mK6} {pc : Nat} {pl : mLoc} {st : List Value} {S : mS} {cu su : Nat} {H : Heap} {locs : List Loc} {ls : Array Slot}
/-- behind a call -/
theorem m_call {v : Option Value} {S' : mS} {a : Array Value} {st0 rest : List Value} {mc ms : Nat} (hr : va_Run p l e R s m args below meth c H locs cu su mc ms (F0 m pc ls st0) rest (mQc G v S' a) (mA G)) (hS : va_S (mA G) s.heap H locs)
    (kk : ∀ (H1 : Heap) (locs1 : List Loc), mP G S' H1 → va_S (mA G) s.heap H1 locs1 → W p l e R s m args below meth c H1 locs1 (cu + mc) (su + ms) Q (F0 m (pc + 3) ls ((v.map (mtr G)).toList ++ rest))) : W p l e R s m args below meth c H locs cu su Q (F0 m pc ls st0) := by
  intro T hT X
  obtain ⟨v', st₀, t, T', L, h0, X', hL, e1, e2, ⟨hv, hp, ⟨hz, hk⟩, -⟩, stp⟩ := hr T hT X
  cases hv
  rw [h0] at hz hk
  obtain ⟨t2, a1, b1⟩ := kk T'.heap (locs ++ L) (by rw [e1]; exact hp)
    ⟨Nat.le_trans hS.1 (by rw [e1]; exact hz), fun q h1 h2 => by rw [e1, hk q (Nat.lt_of_lt_of_le h1 hS.1) h2]; exact hS.2.1 q h1 h2, fun q hq => by
      rcases List.mem_append.mp hq with h | h
      · exact hS.2.2 q h
      · exact hL q h⟩ T' rfl X'
  exact ⟨t2, stp t2 a1, b1⟩
theorem m_blind {vs : List Value} : FrameBlind (mPc G vs S) := fun a U g mk q => by
  obtain ⟨q0, q1, q2, q3⟩ := q
  exact ⟨q0, q1, mKs.moved (u := U) (U := U.calling g mk a) (Vm.Alike.refl U.vm) q2, q3⟩
theorem m_pre {vs : List Value} (hP : mP G S H) (hK : mKs G s s.heap) (hS : va_S (mA G) s.heap H locs) (hz : H.size = G.1 + S.1.length) : ∀ U : State, U.heap = H → s.WarmedH U.vm → mPc G vs S (vs.map (mtr G)).toArray U := by
  intro U hU hW
  subst hU
  exact ⟨rfl, hP, (hK.kept hS).moved hW.alike, hz⟩
theorem m_room {d' k : Nat} (hk : k < 229) (h : d' + 1 ≤ d) (h1 : d ≤ R.frames) (h2 : 64 * d ≤ R.locals) : (mRm d' k).frames + 1 ≤ R.frames ∧ 8 + (mNl k + 11) + (mRm d' k).locals ≤ R.locals := by
  have := (mMr_say hk).2.2.1
  refine ⟨Nat.le_trans h h1, ?_⟩
  show 8 + (mNl k + 11) + 64 * d' ≤ R.locals
  omega
/-- a call of a method of an object -/
theorem m_virt {d' k x w a : Nat} {As r : List Value} {v : Option Value} {S' : mS} (C : mCx d mid G p R s m args meth c) (hP : mP G S H) (hS : va_S (mA G) s.heap H locs) (hl : mlv G ls (mNl mid) pl) (hz : H.size = G.1 + S.1.length) (hd : decode (mCd mid) pc = .ok (.invokevirtual x, 3)) (hln : mln mid w x k = true) (hk : k < 229) (hkd : mKd k = 0) (hlen : As.length = mNa k) {rs : List (Option Nat)} (ho : mnth S.1 a = some (0, mcN k, rs)) (hc : Nat.ble (mcats r) 8 = true) (hcap : mcap mid (cu + (mMc k).1) (su + (mMc k).2) = true) (hdd : d' + 1 ≤ d) (hE : mEv d' k (.ref a :: As) S v S')
    (kk : ∀ (H1 : Heap) (locs1 : List Loc), mP G S' H1 → va_S (mA G) s.heap H1 locs1 → W p l e R s m args below meth c H1 locs1 (cu + (mMc k).1) (su + (mMc k).2) Q (F0 m (pc + 3) ls ((v.map (mtr G)).toList ++ r.map (mtr G)))) : W p l e R s m args below meth c H locs cu su Q (F0 m pc ls ((As.map (mtr G)).reverse ++ .ref (mad G a) :: r.map (mtr G))) := by
  obtain ⟨hx, hb, hml, hown, hts, hKs, hd1, hd2, hc1, hc2, hin, hlk⟩ := C
  obtain ⟨s1, s2, s3, s4, s5, s6, s7⟩ := mMr_say hk
  obtain ⟨t1, t2, t3, t4⟩ := s5 hkd
  obtain ⟨p1, p2⟩ := mcap_inv hcap
  have hroom := m_room (R := R) hk hdd hd1 hd2
  have hM := hE.2 l G
  have hrecv : ∃ cellB : Cell, H[mad G a]? = some cellB ∧ cellB.vm.isStatics = false ∧ s.vm.findClass (mY k).cls = some cellB.cls := by
    have hcl := (mCf_all t4)
    obtain ⟨ty, -, -, -, -, -, -, -, hcl⟩ := hcl
    have := va_recv hKs.1 hP.2.1 hcl (q0 := a) (mWs_some ho)
    rw [t3] at this
    rw [mnth_old hP ho]
    exact this
  have hpre : PreV s H (mY k).cls (mad G a) (mPc G (.ref a :: As) S) (As.map (mtr G)) := ⟨m_blind, hrecv, m_pre hP hKs hS hz⟩
  have hfit : cu + (mMc k).1 ≤ R.cells ∧ su + (mMc k).2 ≤ R.slots := ⟨Nat.le_trans p1 hc1, Nat.le_trans p2 hc2⟩
  have hcat : 2 * (F0 m pc ls ((As.map (mtr G)).reverse ++ .ref (mad G a) :: r.map (mtr G))).monitorRoom + ((r.map (mtr G)).map fun v => v.category).sum ≤ 8 := by
    rw [mcats_eq]
    show 2 * 0 + _ ≤ 8
    have := Nat.le_of_ble_eq_true hc
    omega
  simp only [mln, Bool.or_eq_true] at hln
  rcases hln with hln | hln
  · exact m_call (va_runV (As := As.map (mtr G)) (rest := r.map (mtr G)) ⟨hx, hb, hml, hown, hts⟩ hM ⟨callB_of (mNa k) hts (mWd_good (mMr_code hk)) rfl rfl rfl (hts _ s4) (hts _ (mwd_in hln)) s2 hroom, hts _ t1, hts _ t2⟩ hpre rfl (by simp [hlen]) hl.2.1 rfl hcat hd hfit) hS kk
  · exact m_call (va_runVN (As := As.map (mtr G)) (rest := r.map (mtr G)) ⟨hx, hb, hml, hown, hts⟩ hM ⟨va_cnB (mNa k) hts (mWd_good (mMr_code hk)) rfl rfl rfl (va_Nw.of rfl (hts _ (mwd_in hln))) (hts _ s4) s2 hroom, hts _ t1, hts _ t2⟩ hpre rfl (by simp [hlen]) hl.2.1 rfl hcat hd hfit) hS kk
/-- a call of a static method -/
theorem m_stat {d' k x w : Nat} {As r : List Value} {v : Option Value} {S' : mS} (C : mCx d mid G p R s m args meth c) (hP : mP G S H) (hS : va_S (mA G) s.heap H locs) (hl : mlv G ls (mNl mid) pl) (hz : H.size = G.1 + S.1.length) (hd : decode (mCd mid) pc = .ok (.invokestatic x, 3)) (hln : mln mid w x k = true) (hk : k < 229) (hkd : mKd k = 1) (hlen : As.length = mNa k) (hc : Nat.ble (mcats r) 8 = true) (hcap : mcap mid (cu + (mMc k).1) (su + (mMc k).2) = true) (hdd : d' + 1 ≤ d) (hE : mEv d' k As S v S')
    (kk : ∀ (H1 : Heap) (locs1 : List Loc), mP G S' H1 → va_S (mA G) s.heap H1 locs1 → W p l e R s m args below meth c H1 locs1 (cu + (mMc k).1) (su + (mMc k).2) Q (F0 m (pc + 3) ls ((v.map (mtr G)).toList ++ r.map (mtr G)))) : W p l e R s m args below meth c H locs cu su Q (F0 m pc ls ((As.map (mtr G)).reverse ++ r.map (mtr G))) := by
  obtain ⟨hx, hb, hml, hown, hts, hKs, hd1, hd2, hc1, hc2, hin, hlk⟩ := C
  obtain ⟨s1, s2, s3, s4, s5, s6, s7⟩ := mMr_say hk
  have t1 := s6 hkd
  obtain ⟨p1, p2⟩ := mcap_inv hcap
  have hroom := m_room (R := R) hk hdd hd1 hd2
  have hM := hE.2 l G
  have hpre : PreS s H (mPc G As S) (As.map (mtr G)) := ⟨m_blind, m_pre hP hKs hS hz⟩
  have hfit : cu + (mMc k).1 ≤ R.cells ∧ su + (mMc k).2 ≤ R.slots := ⟨Nat.le_trans p1 hc1, Nat.le_trans p2 hc2⟩
  have hcat : 2 * (F0 m pc ls ((As.map (mtr G)).reverse ++ r.map (mtr G))).monitorRoom + ((r.map (mtr G)).map fun v => v.category).sum ≤ 8 := by
    rw [mcats_eq]
    show 2 * 0 + _ ≤ 8
    have := Nat.le_of_ble_eq_true hc
    omega
  simp only [mln, Bool.or_eq_true] at hln
  rcases hln with hln | hln
  · exact m_call (va_runS (As := As.map (mtr G)) (rest := r.map (mtr G)) ⟨hx, hb, hml, hown, hts⟩ hM ⟨callB_of (mNa k) hts (mWd_good (mMr_code hk)) rfl rfl rfl (hts _ s4) (hts _ (mwd_in hln)) s2 hroom, hts _ t1⟩ hpre rfl (by simp [hlen]) hl.2.1 rfl hcat hd hfit) hS kk
  · exact m_call (va_runSN (As := As.map (mtr G)) (rest := r.map (mtr G)) ⟨hx, hb, hml, hown, hts⟩ hM ⟨va_cnB (mNa k) hts (mWd_good (mMr_code hk)) rfl rfl rfl (va_Nw.of rfl (hts _ (mwd_in hln))) (hts _ s4) s2 hroom, hts _ t1, trivial⟩ hpre rfl (by simp [hlen]) hl.2.1 rfl hcat hd hfit) hS kk
/-- a call of a constructor -/
theorem m_spec {d' k x w a : Nat} {As r : List Value} {S' : mS} (C : mCx d mid G p R s m args meth c) (hP : mP G S H) (hS : va_S (mA G) s.heap H locs) (hl : mlv G ls (mNl mid) pl) (hz : H.size = G.1 + S.1.length) (hd : decode (mCd mid) pc = .ok (.invokespecial x, 3)) (hln : mln mid w x k = true) (hk : k < 229) (hkd : mKd k = 2) (hlen : As.length = mNa k) (hc : Nat.ble (mcats r) 8 = true) (hcap : mcap mid (cu + (mMc k).1) (su + (mMc k).2) = true) (hdd : d' + 1 ≤ d) (hE : mEv d' k (.ref a :: As) S none S')
    (kk : ∀ (H1 : Heap) (locs1 : List Loc), mP G S' H1 → va_S (mA G) s.heap H1 locs1 → W p l e R s m args below meth c H1 locs1 (cu + (mMc k).1) (su + (mMc k).2) Q (F0 m (pc + 3) ls (r.map (mtr G)))) : W p l e R s m args below meth c H locs cu su Q (F0 m pc ls ((As.map (mtr G)).reverse ++ .ref (mad G a) :: r.map (mtr G))) := by
  obtain ⟨hx, hb, hml, hown, hts, hKs, hd1, hd2, hc1, hc2, hin, hlk⟩ := C
  obtain ⟨s1, s2, s3, s4, s5, s6, s7⟩ := mMr_say hk
  obtain ⟨t1, t2, t3⟩ := s7 hkd
  obtain ⟨p1, p2⟩ := mcap_inv hcap
  have hroom := m_room (R := R) hk hdd hd1 hd2
  have hM := hE.2 l G
  have hw : mWd k = Cond.code (mY k) (mCd k) (mNl k) none :: mTb := by rw [← t3]; rfl
  have hpre : PreS s H (mPc G (.ref a :: As) S) (.ref (mad G a) :: As.map (mtr G)) := ⟨m_blind, m_pre hP hKs hS hz⟩
  have hfit : cu + (mMc k).1 ≤ R.cells ∧ su + (mMc k).2 ≤ R.slots := ⟨Nat.le_trans p1 hc1, Nat.le_trans p2 hc2⟩
  have hcat : 2 * (F0 m pc ls ((As.map (mtr G)).reverse ++ .ref (mad G a) :: r.map (mtr G))).monitorRoom + ((r.map (mtr G)).map fun v => v.category).sum ≤ 8 := by
    rw [mcats_eq]
    show 2 * 0 + _ ≤ 8
    have := Nat.le_of_ble_eq_true hc
    omega
  simp only [mln, Bool.or_eq_true] at hln
  rcases hln with hln | hln
  · exact m_call (va_runI (As := As.map (mtr G)) (rest := r.map (mtr G)) ⟨hx, hb, hml, hown, hts⟩ hM ⟨callB_of (mNa k) hts (mWd_good (mMr_code hk)) hw rfl rfl (hts _ s4) (hts _ (mwd_in hln)) s2 hroom, t2, hts _ t1⟩ hpre rfl (by simp [hlen]) hl.2.1 rfl hcat hd hfit) hS kk
  · exact m_call (va_runIN (As := As.map (mtr G)) (rest := r.map (mtr G)) ⟨hx, hb, hml, hown, hts⟩ hM ⟨va_cnB (mNa k) hts (mWd_good (mMr_code hk)) hw rfl rfl (va_Nw.of rfl (hts _ (mwd_in hln))) (hts _ s4) s2 hroom, t2, hts _ t1⟩ hpre rfl (by simp [hlen]) hl.2.1 rfl hcat hd hfit) hS kk
end MS
end
