section
-- ===== PART A: goes FIRST, ahead of the names: the tables' words, and 'selects' of the private methods out of them =====
/-- a private method of a class that the tables say can be made, by its rows of tables_1 -/
def lw_okq (q : MethodName × Nat) : Prop := (q.1.cls ≠ "java/lang/invoke/MethodHandle" ∧ q.1.cls ≠ "java/lang/invoke/VarHandle") ∧ Cond.instantiable q.1.cls q.2 ∈ tables_1 ∧ Cond.privateMethod q.1 ∈ tables_1 ∧ Cond.instanceMethod q.1 ∈ tables_1
theorem lw_p0 : lw_okq (⟨"NineWells", "error", "(I)I"⟩, 11) := ⟨⟨by decide +kernel, by decide +kernel⟩, List.mem_of_getElem? (i := 18) (by decide +kernel), List.mem_of_getElem? (i := 341) (by decide +kernel), List.mem_of_getElem? (i := 342) (by decide +kernel)⟩
theorem lw_p1 : lw_okq (⟨"NineWells", "sheetAt", "(I)LNineWells$Sheet;"⟩, 11) := ⟨⟨by decide +kernel, by decide +kernel⟩, List.mem_of_getElem? (i := 18) (by decide +kernel), List.mem_of_getElem? (i := 404) (by decide +kernel), List.mem_of_getElem? (i := 405) (by decide +kernel)⟩
theorem lw_p2 : lw_okq (⟨"NineWells$World", "lasts", "(I)I"⟩, 5) := ⟨⟨by decide +kernel, by decide +kernel⟩, List.mem_of_getElem? (i := 116) (by decide +kernel), List.mem_of_getElem? (i := 446) (by decide +kernel), List.mem_of_getElem? (i := 447) (by decide +kernel)⟩
theorem lw_p3 : lw_okq (⟨"NineWells$World", "lastsByKind", "(IIII)I"⟩, 5) := ⟨⟨by decide +kernel, by decide +kernel⟩, List.mem_of_getElem? (i := 116) (by decide +kernel), List.mem_of_getElem? (i := 450) (by decide +kernel), List.mem_of_getElem? (i := 451) (by decide +kernel)⟩
theorem lw_p4 : lw_okq (⟨"NineWells$World", "month", "()I"⟩, 5) := ⟨⟨by decide +kernel, by decide +kernel⟩, List.mem_of_getElem? (i := 116) (by decide +kernel), List.mem_of_getElem? (i := 467) (by decide +kernel), List.mem_of_getElem? (i := 468) (by decide +kernel)⟩
theorem lw_p5 : lw_okq (⟨"NineWells$World", "stays", "(I)Z"⟩, 5) := ⟨⟨by decide +kernel, by decide +kernel⟩, List.mem_of_getElem? (i := 116) (by decide +kernel), List.mem_of_getElem? (i := 491) (by decide +kernel), List.mem_of_getElem? (i := 492) (by decide +kernel)⟩
theorem lw_p6 : lw_okq (⟨"NineWells$World", "waitsForMore", "(I)Z"⟩, 5) := ⟨⟨by decide +kernel, by decide +kernel⟩, List.mem_of_getElem? (i := 116) (by decide +kernel), List.mem_of_getElem? (i := 495) (by decide +kernel), List.mem_of_getElem? (i := 496) (by decide +kernel)⟩
theorem lw_p7 : lw_okq (⟨"NineWells$Reader", "reads", "(II)Z"⟩, 4) := ⟨⟨by decide +kernel, by decide +kernel⟩, List.mem_of_getElem? (i := 210) (by decide +kernel), List.mem_of_getElem? (i := 537) (by decide +kernel), List.mem_of_getElem? (i := 538) (by decide +kernel)⟩
theorem lw_p8 : lw_okq (⟨"NineWells$Reader", "readsUnit", "(I)Z"⟩, 4) := ⟨⟨by decide +kernel, by decide +kernel⟩, List.mem_of_getElem? (i := 210) (by decide +kernel), List.mem_of_getElem? (i := 541) (by decide +kernel), List.mem_of_getElem? (i := 542) (by decide +kernel)⟩
theorem lw_p9 : lw_okq (⟨"NineWells$Reader", "next", "()I"⟩, 4) := ⟨⟨by decide +kernel, by decide +kernel⟩, List.mem_of_getElem? (i := 210) (by decide +kernel), List.mem_of_getElem? (i := 545) (by decide +kernel), List.mem_of_getElem? (i := 546) (by decide +kernel)⟩
theorem lw_p10 : lw_okq (⟨"NineWells$Reader", "readNumber", "()V"⟩, 4) := ⟨⟨by decide +kernel, by decide +kernel⟩, List.mem_of_getElem? (i := 210) (by decide +kernel), List.mem_of_getElem? (i := 552) (by decide +kernel), List.mem_of_getElem? (i := 553) (by decide +kernel)⟩
theorem lw_p11 : lw_okq (⟨"NineWells$Reader", "nameOf", "(I)I"⟩, 4) := ⟨⟨by decide +kernel, by decide +kernel⟩, List.mem_of_getElem? (i := 210) (by decide +kernel), List.mem_of_getElem? (i := 560) (by decide +kernel), List.mem_of_getElem? (i := 561) (by decide +kernel)⟩
theorem lw_p12 : lw_okq (⟨"NineWells$Reader", "readsNot", "(I)Z"⟩, 4) := ⟨⟨by decide +kernel, by decide +kernel⟩, List.mem_of_getElem? (i := 210) (by decide +kernel), List.mem_of_getElem? (i := 564) (by decide +kernel), List.mem_of_getElem? (i := 565) (by decide +kernel)⟩
theorem lw_p13 : lw_okq (⟨"NineWells$Reader", "readsInside", "(I)Z"⟩, 4) := ⟨⟨by decide +kernel, by decide +kernel⟩, List.mem_of_getElem? (i := 210) (by decide +kernel), List.mem_of_getElem? (i := 568) (by decide +kernel), List.mem_of_getElem? (i := 569) (by decide +kernel)⟩
theorem lw_p14 : lw_okq (⟨"NineWells$World", "goDown", "(I)V"⟩, 5) := ⟨⟨by decide +kernel, by decide +kernel⟩, List.mem_of_getElem? (i := 116) (by decide +kernel), List.mem_of_getElem? (i := 603) (by decide +kernel), List.mem_of_getElem? (i := 604) (by decide +kernel)⟩
theorem lw_p15 : lw_okq (⟨"NineWells$World", "comeNearer", "(I)V"⟩, 5) := ⟨⟨by decide +kernel, by decide +kernel⟩, List.mem_of_getElem? (i := 116) (by decide +kernel), List.mem_of_getElem? (i := 608) (by decide +kernel), List.mem_of_getElem? (i := 609) (by decide +kernel)⟩
def lw_privs_1 : List (MethodName × Nat) := [(⟨"NineWells", "error", "(I)I"⟩, 11), (⟨"NineWells", "sheetAt", "(I)LNineWells$Sheet;"⟩, 11), (⟨"NineWells$World", "lasts", "(I)I"⟩, 5), (⟨"NineWells$World", "lastsByKind", "(IIII)I"⟩, 5), (⟨"NineWells$World", "month", "()I"⟩, 5), (⟨"NineWells$World", "stays", "(I)Z"⟩, 5), (⟨"NineWells$World", "waitsForMore", "(I)Z"⟩, 5), (⟨"NineWells$Reader", "reads", "(II)Z"⟩, 4), (⟨"NineWells$Reader", "readsUnit", "(I)Z"⟩, 4), (⟨"NineWells$Reader", "next", "()I"⟩, 4), (⟨"NineWells$Reader", "readNumber", "()V"⟩, 4), (⟨"NineWells$Reader", "nameOf", "(I)I"⟩, 4), (⟨"NineWells$Reader", "readsNot", "(I)Z"⟩, 4), (⟨"NineWells$Reader", "readsInside", "(I)Z"⟩, 4), (⟨"NineWells$World", "goDown", "(I)V"⟩, 5), (⟨"NineWells$World", "comeNearer", "(I)V"⟩, 5)]
theorem lw_r1 : ∀ q ∈ lw_privs_1, lw_okq q := List.forall_mem_cons.mpr ⟨lw_p0, List.forall_mem_cons.mpr ⟨lw_p1, List.forall_mem_cons.mpr ⟨lw_p2, List.forall_mem_cons.mpr ⟨lw_p3, List.forall_mem_cons.mpr ⟨lw_p4, List.forall_mem_cons.mpr ⟨lw_p5, List.forall_mem_cons.mpr ⟨lw_p6, List.forall_mem_cons.mpr ⟨lw_p7, List.forall_mem_cons.mpr ⟨lw_p8, List.forall_mem_cons.mpr ⟨lw_p9, List.forall_mem_cons.mpr ⟨lw_p10, List.forall_mem_cons.mpr ⟨lw_p11, List.forall_mem_cons.mpr ⟨lw_p12, List.forall_mem_cons.mpr ⟨lw_p13, List.forall_mem_cons.mpr ⟨lw_p14, List.forall_mem_cons.mpr ⟨lw_p15, fun _ h => absurd h List.not_mem_nil⟩⟩⟩⟩⟩⟩⟩⟩⟩⟩⟩⟩⟩⟩⟩⟩
theorem lw_p16 : lw_okq (⟨"NineWells", "flood", "()V"⟩, 11) := ⟨⟨by decide +kernel, by decide +kernel⟩, List.mem_of_getElem? (i := 18) (by decide +kernel), List.mem_of_getElem? (i := 618) (by decide +kernel), List.mem_of_getElem? (i := 619) (by decide +kernel)⟩
theorem lw_p17 : lw_okq (⟨"NineWells$Wells", "leastOfRing", "(I)I"⟩, 5) := ⟨⟨by decide +kernel, by decide +kernel⟩, List.mem_of_getElem? (i := 122) (by decide +kernel), List.mem_of_getElem? (i := 685) (by decide +kernel), List.mem_of_getElem? (i := 686) (by decide +kernel)⟩
theorem lw_p18 : lw_okq (⟨"NineWells$Belows", "note", "(III)V"⟩, 5) := ⟨⟨by decide +kernel, by decide +kernel⟩, List.mem_of_getElem? (i := 232) (by decide +kernel), List.mem_of_getElem? (i := 751) (by decide +kernel), List.mem_of_getElem? (i := 752) (by decide +kernel)⟩
theorem lw_p19 : lw_okq (⟨"NineWells$Voices", "says", "(IIII)I"⟩, 5) := ⟨⟨by decide +kernel, by decide +kernel⟩, List.mem_of_getElem? (i := 259) (by decide +kernel), List.mem_of_getElem? (i := 785) (by decide +kernel), List.mem_of_getElem? (i := 786) (by decide +kernel)⟩
theorem lw_p20 : lw_okq (⟨"NineWells$Voices", "note", "(I)V"⟩, 5) := ⟨⟨by decide +kernel, by decide +kernel⟩, List.mem_of_getElem? (i := 259) (by decide +kernel), List.mem_of_getElem? (i := 796) (by decide +kernel), List.mem_of_getElem? (i := 797) (by decide +kernel)⟩
theorem lw_p21 : lw_okq (⟨"NineWellsModel", "finds", "(I)I"⟩, 21) := ⟨⟨by decide +kernel, by decide +kernel⟩, List.mem_of_getElem? (i := 873) (by decide +kernel), List.mem_of_getElem? (i := 952) (by decide +kernel), List.mem_of_getElem? (i := 953) (by decide +kernel)⟩
theorem lw_p22 : lw_okq (⟨"NineWellsModel", "worked", "(III)I"⟩, 21) := ⟨⟨by decide +kernel, by decide +kernel⟩, List.mem_of_getElem? (i := 873) (by decide +kernel), List.mem_of_getElem? (i := 962) (by decide +kernel), List.mem_of_getElem? (i := 963) (by decide +kernel)⟩
theorem lw_p23 : lw_okq (⟨"NineWellsModel", "either", "()I"⟩, 21) := ⟨⟨by decide +kernel, by decide +kernel⟩, List.mem_of_getElem? (i := 873) (by decide +kernel), List.mem_of_getElem? (i := 966) (by decide +kernel), List.mem_of_getElem? (i := 967) (by decide +kernel)⟩
theorem lw_p24 : lw_okq (⟨"NineWellsModel", "both", "()I"⟩, 21) := ⟨⟨by decide +kernel, by decide +kernel⟩, List.mem_of_getElem? (i := 873) (by decide +kernel), List.mem_of_getElem? (i := 970) (by decide +kernel), List.mem_of_getElem? (i := 971) (by decide +kernel)⟩
theorem lw_p25 : lw_okq (⟨"NineWellsModel", "compared", "()I"⟩, 21) := ⟨⟨by decide +kernel, by decide +kernel⟩, List.mem_of_getElem? (i := 873) (by decide +kernel), List.mem_of_getElem? (i := 974) (by decide +kernel), List.mem_of_getElem? (i := 975) (by decide +kernel)⟩
theorem lw_p26 : lw_okq (⟨"NineWellsModel", "sum", "()I"⟩, 21) := ⟨⟨by decide +kernel, by decide +kernel⟩, List.mem_of_getElem? (i := 873) (by decide +kernel), List.mem_of_getElem? (i := 978) (by decide +kernel), List.mem_of_getElem? (i := 979) (by decide +kernel)⟩
theorem lw_p27 : lw_okq (⟨"NineWellsModel", "product", "()I"⟩, 21) := ⟨⟨by decide +kernel, by decide +kernel⟩, List.mem_of_getElem? (i := 873) (by decide +kernel), List.mem_of_getElem? (i := 982) (by decide +kernel), List.mem_of_getElem? (i := 983) (by decide +kernel)⟩
theorem lw_p28 : lw_okq (⟨"NineWellsModel", "unit", "()I"⟩, 21) := ⟨⟨by decide +kernel, by decide +kernel⟩, List.mem_of_getElem? (i := 873) (by decide +kernel), List.mem_of_getElem? (i := 986) (by decide +kernel), List.mem_of_getElem? (i := 987) (by decide +kernel)⟩
theorem lw_p29 : lw_okq (⟨"NineWellsModel", "here", "()I"⟩, 21) := ⟨⟨by decide +kernel, by decide +kernel⟩, List.mem_of_getElem? (i := 873) (by decide +kernel), List.mem_of_getElem? (i := 990) (by decide +kernel), List.mem_of_getElem? (i := 991) (by decide +kernel)⟩
theorem lw_p30 : lw_okq (⟨"NineWellsModel", "wrong", "()I"⟩, 21) := ⟨⟨by decide +kernel, by decide +kernel⟩, List.mem_of_getElem? (i := 873) (by decide +kernel), List.mem_of_getElem? (i := 994) (by decide +kernel), List.mem_of_getElem? (i := 995) (by decide +kernel)⟩
theorem lw_p31 : lw_okq (⟨"NineWellsModel", "takes", "(I)Z"⟩, 21) := ⟨⟨by decide +kernel, by decide +kernel⟩, List.mem_of_getElem? (i := 873) (by decide +kernel), List.mem_of_getElem? (i := 998) (by decide +kernel), List.mem_of_getElem? (i := 999) (by decide +kernel)⟩
def lw_privs_2 : List (MethodName × Nat) := [(⟨"NineWells", "flood", "()V"⟩, 11), (⟨"NineWells$Wells", "leastOfRing", "(I)I"⟩, 5), (⟨"NineWells$Belows", "note", "(III)V"⟩, 5), (⟨"NineWells$Voices", "says", "(IIII)I"⟩, 5), (⟨"NineWells$Voices", "note", "(I)V"⟩, 5), (⟨"NineWellsModel", "finds", "(I)I"⟩, 21), (⟨"NineWellsModel", "worked", "(III)I"⟩, 21), (⟨"NineWellsModel", "either", "()I"⟩, 21), (⟨"NineWellsModel", "both", "()I"⟩, 21), (⟨"NineWellsModel", "compared", "()I"⟩, 21), (⟨"NineWellsModel", "sum", "()I"⟩, 21), (⟨"NineWellsModel", "product", "()I"⟩, 21), (⟨"NineWellsModel", "unit", "()I"⟩, 21), (⟨"NineWellsModel", "here", "()I"⟩, 21), (⟨"NineWellsModel", "wrong", "()I"⟩, 21), (⟨"NineWellsModel", "takes", "(I)Z"⟩, 21)]
theorem lw_r2 : ∀ q ∈ lw_privs_2, lw_okq q := List.forall_mem_cons.mpr ⟨lw_p16, List.forall_mem_cons.mpr ⟨lw_p17, List.forall_mem_cons.mpr ⟨lw_p18, List.forall_mem_cons.mpr ⟨lw_p19, List.forall_mem_cons.mpr ⟨lw_p20, List.forall_mem_cons.mpr ⟨lw_p21, List.forall_mem_cons.mpr ⟨lw_p22, List.forall_mem_cons.mpr ⟨lw_p23, List.forall_mem_cons.mpr ⟨lw_p24, List.forall_mem_cons.mpr ⟨lw_p25, List.forall_mem_cons.mpr ⟨lw_p26, List.forall_mem_cons.mpr ⟨lw_p27, List.forall_mem_cons.mpr ⟨lw_p28, List.forall_mem_cons.mpr ⟨lw_p29, List.forall_mem_cons.mpr ⟨lw_p30, List.forall_mem_cons.mpr ⟨lw_p31, fun _ h => absurd h List.not_mem_nil⟩⟩⟩⟩⟩⟩⟩⟩⟩⟩⟩⟩⟩⟩⟩⟩
theorem lw_p32 : lw_okq (⟨"NineWellsModel", "nameOf", "(I)I"⟩, 21) := ⟨⟨by decide +kernel, by decide +kernel⟩, List.mem_of_getElem? (i := 873) (by decide +kernel), List.mem_of_getElem? (i := 1002) (by decide +kernel), List.mem_of_getElem? (i := 1003) (by decide +kernel)⟩
theorem lw_p33 : lw_okq (⟨"NineWellsModel", "gives", "(IIIII)I"⟩, 21) := ⟨⟨by decide +kernel, by decide +kernel⟩, List.mem_of_getElem? (i := 873) (by decide +kernel), List.mem_of_getElem? (i := 1012) (by decide +kernel), List.mem_of_getElem? (i := 1013) (by decide +kernel)⟩
theorem lw_p34 : lw_okq (⟨"NineWellsModel", "isWell", "(I)Z"⟩, 21) := ⟨⟨by decide +kernel, by decide +kernel⟩, List.mem_of_getElem? (i := 873) (by decide +kernel), List.mem_of_getElem? (i := 1027) (by decide +kernel), List.mem_of_getElem? (i := 1028) (by decide +kernel)⟩
theorem lw_p35 : lw_okq (⟨"NineWellsModel", "mayGo", "(II)Z"⟩, 21) := ⟨⟨by decide +kernel, by decide +kernel⟩, List.mem_of_getElem? (i := 873) (by decide +kernel), List.mem_of_getElem? (i := 1031) (by decide +kernel), List.mem_of_getElem? (i := 1032) (by decide +kernel)⟩
theorem lw_p36 : lw_okq (⟨"NineWellsModel", "itsWell", "(II)I"⟩, 21) := ⟨⟨by decide +kernel, by decide +kernel⟩, List.mem_of_getElem? (i := 873) (by decide +kernel), List.mem_of_getElem? (i := 1037) (by decide +kernel), List.mem_of_getElem? (i := 1038) (by decide +kernel)⟩
theorem lw_p37 : lw_okq (⟨"NineWellsModel", "leads", "(III)V"⟩, 21) := ⟨⟨by decide +kernel, by decide +kernel⟩, List.mem_of_getElem? (i := 873) (by decide +kernel), List.mem_of_getElem? (i := 1041) (by decide +kernel), List.mem_of_getElem? (i := 1042) (by decide +kernel)⟩
theorem lw_p38 : lw_okq (⟨"NineWellsModel", "isThing", "(I)Z"⟩, 21) := ⟨⟨by decide +kernel, by decide +kernel⟩, List.mem_of_getElem? (i := 873) (by decide +kernel), List.mem_of_getElem? (i := 1078) (by decide +kernel), List.mem_of_getElem? (i := 1079) (by decide +kernel)⟩
theorem lw_p39 : lw_okq (⟨"NineWellsModel", "ofIt", "([III)I"⟩, 21) := ⟨⟨by decide +kernel, by decide +kernel⟩, List.mem_of_getElem? (i := 873) (by decide +kernel), List.mem_of_getElem? (i := 1083) (by decide +kernel), List.mem_of_getElem? (i := 1084) (by decide +kernel)⟩
theorem lw_p40 : lw_okq (⟨"NineWellsModel", "lasts", "([II)I"⟩, 21) := ⟨⟨by decide +kernel, by decide +kernel⟩, List.mem_of_getElem? (i := 873) (by decide +kernel), List.mem_of_getElem? (i := 1090) (by decide +kernel), List.mem_of_getElem? (i := 1091) (by decide +kernel)⟩
theorem lw_p41 : lw_okq (⟨"NineWellsModel", "itsKind", "(I)I"⟩, 21) := ⟨⟨by decide +kernel, by decide +kernel⟩, List.mem_of_getElem? (i := 873) (by decide +kernel), List.mem_of_getElem? (i := 1107) (by decide +kernel), List.mem_of_getElem? (i := 1108) (by decide +kernel)⟩
theorem lw_p42 : lw_okq (⟨"NineWellsModel", "isNow", "(I)I"⟩, 21) := ⟨⟨by decide +kernel, by decide +kernel⟩, List.mem_of_getElem? (i := 873) (by decide +kernel), List.mem_of_getElem? (i := 1118) (by decide +kernel), List.mem_of_getElem? (i := 1119) (by decide +kernel)⟩
theorem lw_p43 : lw_okq (⟨"NineWellsModel", "goesOn", "([II)V"⟩, 21) := ⟨⟨by decide +kernel, by decide +kernel⟩, List.mem_of_getElem? (i := 873) (by decide +kernel), List.mem_of_getElem? (i := 1134) (by decide +kernel), List.mem_of_getElem? (i := 1135) (by decide +kernel)⟩
theorem lw_p44 : lw_okq (⟨"NineWellsModel", "goesBy", "([I)V"⟩, 21) := ⟨⟨by decide +kernel, by decide +kernel⟩, List.mem_of_getElem? (i := 873) (by decide +kernel), List.mem_of_getElem? (i := 1138) (by decide +kernel), List.mem_of_getElem? (i := 1139) (by decide +kernel)⟩
theorem lw_p45 : lw_okq (⟨"NineWellsModel", "goesUp", "([II)V"⟩, 21) := ⟨⟨by decide +kernel, by decide +kernel⟩, List.mem_of_getElem? (i := 873) (by decide +kernel), List.mem_of_getElem? (i := 1142) (by decide +kernel), List.mem_of_getElem? (i := 1143) (by decide +kernel)⟩
theorem lw_p46 : lw_okq (⟨"NineWellsModel", "drawn", "()I"⟩, 21) := ⟨⟨by decide +kernel, by decide +kernel⟩, List.mem_of_getElem? (i := 873) (by decide +kernel), List.mem_of_getElem? (i := 1151) (by decide +kernel), List.mem_of_getElem? (i := 1152) (by decide +kernel)⟩
theorem lw_p47 : lw_okq (⟨"NineWellsModel", "ahead", "(I)V"⟩, 21) := ⟨⟨by decide +kernel, by decide +kernel⟩, List.mem_of_getElem? (i := 873) (by decide +kernel), List.mem_of_getElem? (i := 1164) (by decide +kernel), List.mem_of_getElem? (i := 1165) (by decide +kernel)⟩
def lw_privs_3 : List (MethodName × Nat) := [(⟨"NineWellsModel", "nameOf", "(I)I"⟩, 21), (⟨"NineWellsModel", "gives", "(IIIII)I"⟩, 21), (⟨"NineWellsModel", "isWell", "(I)Z"⟩, 21), (⟨"NineWellsModel", "mayGo", "(II)Z"⟩, 21), (⟨"NineWellsModel", "itsWell", "(II)I"⟩, 21), (⟨"NineWellsModel", "leads", "(III)V"⟩, 21), (⟨"NineWellsModel", "isThing", "(I)Z"⟩, 21), (⟨"NineWellsModel", "ofIt", "([III)I"⟩, 21), (⟨"NineWellsModel", "lasts", "([II)I"⟩, 21), (⟨"NineWellsModel", "itsKind", "(I)I"⟩, 21), (⟨"NineWellsModel", "isNow", "(I)I"⟩, 21), (⟨"NineWellsModel", "goesOn", "([II)V"⟩, 21), (⟨"NineWellsModel", "goesBy", "([I)V"⟩, 21), (⟨"NineWellsModel", "goesUp", "([II)V"⟩, 21), (⟨"NineWellsModel", "drawn", "()I"⟩, 21), (⟨"NineWellsModel", "ahead", "(I)V"⟩, 21)]
theorem lw_r3 : ∀ q ∈ lw_privs_3, lw_okq q := List.forall_mem_cons.mpr ⟨lw_p32, List.forall_mem_cons.mpr ⟨lw_p33, List.forall_mem_cons.mpr ⟨lw_p34, List.forall_mem_cons.mpr ⟨lw_p35, List.forall_mem_cons.mpr ⟨lw_p36, List.forall_mem_cons.mpr ⟨lw_p37, List.forall_mem_cons.mpr ⟨lw_p38, List.forall_mem_cons.mpr ⟨lw_p39, List.forall_mem_cons.mpr ⟨lw_p40, List.forall_mem_cons.mpr ⟨lw_p41, List.forall_mem_cons.mpr ⟨lw_p42, List.forall_mem_cons.mpr ⟨lw_p43, List.forall_mem_cons.mpr ⟨lw_p44, List.forall_mem_cons.mpr ⟨lw_p45, List.forall_mem_cons.mpr ⟨lw_p46, List.forall_mem_cons.mpr ⟨lw_p47, fun _ h => absurd h List.not_mem_nil⟩⟩⟩⟩⟩⟩⟩⟩⟩⟩⟩⟩⟩⟩⟩⟩
theorem lw_p48 : lw_okq (⟨"NineWellsModel", "least", "(IIIZ)I"⟩, 21) := ⟨⟨by decide +kernel, by decide +kernel⟩, List.mem_of_getElem? (i := 873) (by decide +kernel), List.mem_of_getElem? (i := 1190) (by decide +kernel), List.mem_of_getElem? (i := 1191) (by decide +kernel)⟩
theorem lw_p49 : lw_okq (⟨"NineWellsModel", "ringOf", "(I)I"⟩, 21) := ⟨⟨by decide +kernel, by decide +kernel⟩, List.mem_of_getElem? (i := 873) (by decide +kernel), List.mem_of_getElem? (i := 1203) (by decide +kernel), List.mem_of_getElem? (i := 1204) (by decide +kernel)⟩
theorem lw_p50 : lw_okq (⟨"NineWellsModel", "walk", "(IIIII)I"⟩, 21) := ⟨⟨by decide +kernel, by decide +kernel⟩, List.mem_of_getElem? (i := 873) (by decide +kernel), List.mem_of_getElem? (i := 1211) (by decide +kernel), List.mem_of_getElem? (i := 1212) (by decide +kernel)⟩
theorem lw_p51 : lw_okq (⟨"NineWellsModel", "isSo", "(IIII)Z"⟩, 21) := ⟨⟨by decide +kernel, by decide +kernel⟩, List.mem_of_getElem? (i := 873) (by decide +kernel), List.mem_of_getElem? (i := 1231) (by decide +kernel), List.mem_of_getElem? (i := 1232) (by decide +kernel)⟩
theorem lw_p52 : lw_okq (⟨"NineWellsModel", "areSo", "(III)Z"⟩, 21) := ⟨⟨by decide +kernel, by decide +kernel⟩, List.mem_of_getElem? (i := 873) (by decide +kernel), List.mem_of_getElem? (i := 1240) (by decide +kernel), List.mem_of_getElem? (i := 1241) (by decide +kernel)⟩
theorem lw_p53 : lw_okq (⟨"NineWellsModel", "sinks", "(II)I"⟩, 21) := ⟨⟨by decide +kernel, by decide +kernel⟩, List.mem_of_getElem? (i := 873) (by decide +kernel), List.mem_of_getElem? (i := 1256) (by decide +kernel), List.mem_of_getElem? (i := 1257) (by decide +kernel)⟩
theorem lw_p54 : lw_okq (⟨"NineWellsModel", "ran", "(I)V"⟩, 21) := ⟨⟨by decide +kernel, by decide +kernel⟩, List.mem_of_getElem? (i := 873) (by decide +kernel), List.mem_of_getElem? (i := 1260) (by decide +kernel), List.mem_of_getElem? (i := 1261) (by decide +kernel)⟩
theorem lw_p55 : lw_okq (⟨"NineWellsModel", "goes", "(II)I"⟩, 21) := ⟨⟨by decide +kernel, by decide +kernel⟩, List.mem_of_getElem? (i := 873) (by decide +kernel), List.mem_of_getElem? (i := 1267) (by decide +kernel), List.mem_of_getElem? (i := 1268) (by decide +kernel)⟩
theorem lw_p56 : lw_okq (⟨"NineWellsModel", "waitsFor", "(II)I"⟩, 21) := ⟨⟨by decide +kernel, by decide +kernel⟩, List.mem_of_getElem? (i := 873) (by decide +kernel), List.mem_of_getElem? (i := 1271) (by decide +kernel), List.mem_of_getElem? (i := 1272) (by decide +kernel)⟩
theorem lw_p57 : lw_okq (⟨"NineWellsModel", "tells", "(II)I"⟩, 21) := ⟨⟨by decide +kernel, by decide +kernel⟩, List.mem_of_getElem? (i := 873) (by decide +kernel), List.mem_of_getElem? (i := 1275) (by decide +kernel), List.mem_of_getElem? (i := 1276) (by decide +kernel)⟩
theorem lw_p58 : lw_okq (⟨"NineWellsModel", "manyOut", "()I"⟩, 21) := ⟨⟨by decide +kernel, by decide +kernel⟩, List.mem_of_getElem? (i := 873) (by decide +kernel), List.mem_of_getElem? (i := 1315) (by decide +kernel), List.mem_of_getElem? (i := 1316) (by decide +kernel)⟩
def lw_privs_4 : List (MethodName × Nat) := [(⟨"NineWellsModel", "least", "(IIIZ)I"⟩, 21), (⟨"NineWellsModel", "ringOf", "(I)I"⟩, 21), (⟨"NineWellsModel", "walk", "(IIIII)I"⟩, 21), (⟨"NineWellsModel", "isSo", "(IIII)Z"⟩, 21), (⟨"NineWellsModel", "areSo", "(III)Z"⟩, 21), (⟨"NineWellsModel", "sinks", "(II)I"⟩, 21), (⟨"NineWellsModel", "ran", "(I)V"⟩, 21), (⟨"NineWellsModel", "goes", "(II)I"⟩, 21), (⟨"NineWellsModel", "waitsFor", "(II)I"⟩, 21), (⟨"NineWellsModel", "tells", "(II)I"⟩, 21), (⟨"NineWellsModel", "manyOut", "()I"⟩, 21)]
theorem lw_r4 : ∀ q ∈ lw_privs_4, lw_okq q := List.forall_mem_cons.mpr ⟨lw_p48, List.forall_mem_cons.mpr ⟨lw_p49, List.forall_mem_cons.mpr ⟨lw_p50, List.forall_mem_cons.mpr ⟨lw_p51, List.forall_mem_cons.mpr ⟨lw_p52, List.forall_mem_cons.mpr ⟨lw_p53, List.forall_mem_cons.mpr ⟨lw_p54, List.forall_mem_cons.mpr ⟨lw_p55, List.forall_mem_cons.mpr ⟨lw_p56, List.forall_mem_cons.mpr ⟨lw_p57, List.forall_mem_cons.mpr ⟨lw_p58, fun _ h => absurd h List.not_mem_nil⟩⟩⟩⟩⟩⟩⟩⟩⟩⟩⟩
def lw_privs : List (MethodName × Nat) := lw_privs_1 ++ (lw_privs_2 ++ (lw_privs_3 ++ (lw_privs_4)))
def lw_tbl : List Cond := k2_sels lw_privs ++ tables_1
theorem lw_privs_ok : ∀ q ∈ lw_privs, lw_okq q := by
  show ∀ q ∈ lw_privs_1 ++ (lw_privs_2 ++ (lw_privs_3 ++ (lw_privs_4))), lw_okq q
  exact List.forall_mem_append.mpr ⟨lw_r1, List.forall_mem_append.mpr ⟨lw_r2, List.forall_mem_append.mpr ⟨lw_r3, lw_r4⟩⟩⟩
end
section
def RX0 : String := "NineWells$Belows"
def TX0 : u_T := fun k => match k with
  | 0 => ("NineWells$Belows", "tried", "LNineWells$Wells;", true)
  | 1 => ("NineWells$Belows", "places", "[I", true)
  | 2 => ("NineWells$Belows", "howMany", "I", false)
  | 3 => ("NineWells$Belows", "first", "I", false)
  | _ => ("NineWells$Belows", "ledTo", "I", false)
def tyX0 : Nat → FieldType := fun k => match k with
  | 0 => .object "NineWells$Wells"
  | 1 => .array .int
  | 2 => .int
  | 3 => .int
  | _ => .int
theorem nmX0 : ∀ a, a < 5 → ∀ b, b < 5 → a ≠ b → (TX0 a).2.1 ≠ (TX0 b).2.1 := by decide +kernel
theorem tyX0_ok : ∀ k, k < 5 → parseFieldDescriptor (TX0 k).2.2.1 = some (tyX0 k) := by decide +kernel
def RX1 : String := "NineWells$Desk"
def TX1 : u_T := fun k => match k with
  | 0 => ("NineWells$Desk", "finds", "LNineWells$Finds;", true)
  | 1 => ("NineWells$Desk", "slows", "LNineWells$Text;", true)
  | 2 => ("NineWells$Desk", "takes", "LNineWells$Text;", true)
  | 3 => ("NineWells$Desk", "tape", "LNineWells$Row;", true)
  | 4 => ("NineWells$Desk", "waiting", "LNineWells$Row;", true)
  | _ => ("NineWells$Desk", "z", "I", false)
def tyX1 : Nat → FieldType := fun k => match k with
  | 0 => .object "NineWells$Finds"
  | 1 => .object "NineWells$Text"
  | 2 => .object "NineWells$Text"
  | 3 => .object "NineWells$Row"
  | 4 => .object "NineWells$Row"
  | _ => .int
theorem nmX1 : ∀ a, a < 6 → ∀ b, b < 6 → a ≠ b → (TX1 a).2.1 ≠ (TX1 b).2.1 := by decide +kernel
theorem tyX1_ok : ∀ k, k < 6 → parseFieldDescriptor (TX1 k).2.2.1 = some (tyX1 k) := by decide +kernel
def RX2 : String := "NineWells$Finds"
def TX2 : u_T := fun k => match k with
  | 0 => ("NineWells$Finds", "from", "[I", true)
  | 1 => ("NineWells$Finds", "in", "[I", true)
  | 2 => ("NineWells$Finds", "day", "[I", true)
  | _ => ("NineWells$Finds", "count", "I", false)
def tyX2 : Nat → FieldType := fun k => match k with
  | 0 => .array .int
  | 1 => .array .int
  | 2 => .array .int
  | _ => .int
theorem nmX2 : ∀ a, a < 4 → ∀ b, b < 4 → a ≠ b → (TX2 a).2.1 ≠ (TX2 b).2.1 := by decide +kernel
theorem tyX2_ok : ∀ k, k < 4 → parseFieldDescriptor (TX2 k).2.2.1 = some (tyX2 k) := by decide +kernel
def RX3 : String := "NineWells$Reader"
def TX3 : u_T := fun k => match k with
  | 0 => ("NineWells$Reader", "draft", "LNineWells$Text;", true)
  | 1 => ("NineWells$Reader", "tape", "LNineWells$Row;", true)
  | 2 => ("NineWells$Reader", "use", "I", false)
  | _ => ("NineWells$Reader", "at", "I", false)
def tyX3 : Nat → FieldType := fun k => match k with
  | 0 => .object "NineWells$Text"
  | 1 => .object "NineWells$Row"
  | 2 => .int
  | _ => .int
theorem nmX3 : ∀ a, a < 4 → ∀ b, b < 4 → a ≠ b → (TX3 a).2.1 ≠ (TX3 b).2.1 := by decide +kernel
theorem tyX3_ok : ∀ k, k < 4 → parseFieldDescriptor (TX3 k).2.2.1 = some (tyX3 k) := by decide +kernel
def RX4 : String := "NineWells$Row"
def TX4 : u_T := fun k => match k with
  | 0 => ("NineWells$Row", "numbers", "[I", true)
  | _ => ("NineWells$Row", "count", "I", false)
def tyX4 : Nat → FieldType := fun k => match k with
  | 0 => .array .int
  | _ => .int
theorem nmX4 : ∀ a, a < 2 → ∀ b, b < 2 → a ≠ b → (TX4 a).2.1 ≠ (TX4 b).2.1 := by decide +kernel
theorem tyX4_ok : ∀ k, k < 2 → parseFieldDescriptor (TX4 k).2.2.1 = some (tyX4 k) := by decide +kernel
def RX5 : String := "NineWells$Sheet"
def TX5 : u_T := fun k => match k with
  | 0 => ("NineWells$Sheet", "numbers", "[I", true)
  | 1 => ("NineWells$Sheet", "bits", "I", false)
  | _ => ("NineWells$Sheet", "count", "I", false)
def tyX5 : Nat → FieldType := fun k => match k with
  | 0 => .array .int
  | 1 => .int
  | _ => .int
theorem nmX5 : ∀ a, a < 3 → ∀ b, b < 3 → a ≠ b → (TX5 a).2.1 ≠ (TX5 b).2.1 := by decide +kernel
theorem tyX5_ok : ∀ k, k < 3 → parseFieldDescriptor (TX5 k).2.2.1 = some (tyX5 k) := by decide +kernel
def RX6 : String := "NineWells$Text"
def TX6 : u_T := fun k => match k with
  | 0 => ("NineWells$Text", "code", "[I", true)
  | 1 => ("NineWells$Text", "stack", "[I", true)
  | _ => ("NineWells$Text", "length", "I", false)
def tyX6 : Nat → FieldType := fun k => match k with
  | 0 => .array .int
  | 1 => .array .int
  | _ => .int
theorem nmX6 : ∀ a, a < 3 → ∀ b, b < 3 → a ≠ b → (TX6 a).2.1 ≠ (TX6 b).2.1 := by decide +kernel
theorem tyX6_ok : ∀ k, k < 3 → parseFieldDescriptor (TX6 k).2.2.1 = some (tyX6 k) := by decide +kernel
def RX7 : String := "NineWells$Things"
def TX7 : u_T := fun k => match k with
  | 0 => ("NineWells$Things", "kind", "[I", true)
  | 1 => ("NineWells$Things", "m", "[I", true)
  | 2 => ("NineWells$Things", "state", "[I", true)
  | 3 => ("NineWells$Things", "well", "[I", true)
  | 4 => ("NineWells$Things", "left", "[I", true)
  | 5 => ("NineWells$Things", "spent", "[I", true)
  | _ => ("NineWells$Things", "count", "I", false)
def tyX7 : Nat → FieldType := fun k => match k with
  | 0 => .array .int
  | 1 => .array .int
  | 2 => .array .int
  | 3 => .array .int
  | 4 => .array .int
  | 5 => .array .int
  | _ => .int
theorem nmX7 : ∀ a, a < 7 → ∀ b, b < 7 → a ≠ b → (TX7 a).2.1 ≠ (TX7 b).2.1 := by decide +kernel
theorem tyX7_ok : ∀ k, k < 7 → parseFieldDescriptor (TX7 k).2.2.1 = some (tyX7 k) := by decide +kernel
def RX8 : String := "NineWells$Voices"
def TX8 : u_T := fun k => match k with
  | 0 => ("NineWells$Voices", "bodies", "[I", true)
  | 1 => ("NineWells$Voices", "count", "I", false)
  | 2 => ("NineWells$Voices", "kind", "I", false)
  | 3 => ("NineWells$Voices", "n", "I", false)
  | _ => ("NineWells$Voices", "m", "I", false)
def tyX8 : Nat → FieldType := fun k => match k with
  | 0 => .array .int
  | 1 => .int
  | 2 => .int
  | 3 => .int
  | _ => .int
theorem nmX8 : ∀ a, a < 5 → ∀ b, b < 5 → a ≠ b → (TX8 a).2.1 ≠ (TX8 b).2.1 := by decide +kernel
theorem tyX8_ok : ∀ k, k < 5 → parseFieldDescriptor (TX8 k).2.2.1 = some (tyX8 k) := by decide +kernel
def RX9 : String := "NineWells$Wells"
def TX9 : u_T := fun k => match k with
  | 0 => ("NineWells$Wells", "leads", "[I", true)
  | 1 => ("NineWells$Wells", "days", "[I", true)
  | 2 => ("NineWells$Wells", "toll", "[I", true)
  | 3 => ("NineWells$Wells", "fishes", "[I", true)
  | _ => ("NineWells$Wells", "count", "I", false)
def tyX9 : Nat → FieldType := fun k => match k with
  | 0 => .array .int
  | 1 => .array .int
  | 2 => .array .int
  | 3 => .array .int
  | _ => .int
theorem nmX9 : ∀ a, a < 5 → ∀ b, b < 5 → a ≠ b → (TX9 a).2.1 ≠ (TX9 b).2.1 := by decide +kernel
theorem tyX9_ok : ∀ k, k < 5 → parseFieldDescriptor (TX9 k).2.2.1 = some (tyX9 k) := by decide +kernel
def RX10 : String := "NineWells$World"
def TX10 : u_T := fun k => match k with
  | 0 => ("NineWells$World", "wells", "LNineWells$Wells;", true)
  | 1 => ("NineWells$World", "things", "LNineWells$Things;", true)
  | 2 => ("NineWells$World", "slows", "LNineWells$Text;", true)
  | 3 => ("NineWells$World", "takes", "LNineWells$Text;", true)
  | _ => ("NineWells$World", "today", "I", false)
def tyX10 : Nat → FieldType := fun k => match k with
  | 0 => .object "NineWells$Wells"
  | 1 => .object "NineWells$Things"
  | 2 => .object "NineWells$Text"
  | 3 => .object "NineWells$Text"
  | _ => .int
theorem nmX10 : ∀ a, a < 5 → ∀ b, b < 5 → a ≠ b → (TX10 a).2.1 ≠ (TX10 b).2.1 := by decide +kernel
theorem tyX10_ok : ∀ k, k < 5 → parseFieldDescriptor (TX10 k).2.2.1 = some (tyX10 k) := by decide +kernel
def RX11 : String := "NineWells"
def TX11 : u_T := fun k => match k with
  | 0 => ("NineWells", "now", "LNineWells$World;", true)
  | 1 => ("NineWells", "ahead", "LNineWells$World;", true)
  | 2 => ("NineWells", "kept", "LNineWells$World;", true)
  | 3 => ("NineWells", "desk", "LNineWells$Desk;", true)
  | 4 => ("NineWells", "keptDesk", "LNineWells$Desk;", true)
  | 5 => ("NineWells", "reader", "LNineWells$Reader;", true)
  | 6 => ("NineWells", "agreeing", "LNineWells$Belows;", true)
  | 7 => ("NineWells", "voices", "LNineWells$Voices;", true)
  | 8 => ("NineWells", "sheets", "[LNineWells$Sheet;", true)
  | 9 => ("NineWells", "errors", "[I", true)
  | _ => ("NineWells", "images", "I", false)
def tyX11 : Nat → FieldType := fun k => match k with
  | 0 => .object "NineWells$World"
  | 1 => .object "NineWells$World"
  | 2 => .object "NineWells$World"
  | 3 => .object "NineWells$Desk"
  | 4 => .object "NineWells$Desk"
  | 5 => .object "NineWells$Reader"
  | 6 => .object "NineWells$Belows"
  | 7 => .object "NineWells$Voices"
  | 8 => .array (.object "NineWells$Sheet")
  | 9 => .array .int
  | _ => .int
theorem nmX11 : ∀ a, a < 11 → ∀ b, b < 11 → a ≠ b → (TX11 a).2.1 ≠ (TX11 b).2.1 := by decide +kernel
theorem tyX11_ok : ∀ k, k < 11 → parseFieldDescriptor (TX11 k).2.2.1 = some (tyX11 k) := by decide +kernel
def RX12 : String := "NineWellsModel"
def TX12 : u_T := fun k => match k with
  | 0 => ("NineWellsModel", "d", "[I", true)
  | 1 => ("NineWellsModel", "e", "[I", true)
  | 2 => ("NineWellsModel", "kept", "[I", true)
  | 3 => ("NineWellsModel", "images", "I", false)
  | 4 => ("NineWellsModel", "found", "[I", true)
  | 5 => ("NineWellsModel", "base", "I", false)
  | 6 => ("NineWellsModel", "at", "I", false)
  | 7 => ("NineWellsModel", "size", "I", false)
  | 8 => ("NineWellsModel", "fault", "I", false)
  | 9 => ("NineWellsModel", "opened", "I", false)
  | 10 => ("NineWellsModel", "isSlow", "Z", false)
  | 11 => ("NineWellsModel", "names", "[I", true)
  | 12 => ("NineWellsModel", "cost", "[I", true)
  | 13 => ("NineWellsModel", "isSure", "[Z", true)
  | 14 => ("NineWellsModel", "traced", "[I", true)
  | 15 => ("NineWellsModel", "traceMany", "I", false)
  | 16 => ("NineWellsModel", "who", "I", false)
  | 17 => ("NineWellsModel", "bitsOf", "[I", true)
  | 18 => ("NineWellsModel", "sizeOf", "[I", true)
  | 19 => ("NineWellsModel", "number", "[I", true)
  | _ => ("NineWellsModel", "lifted", "[I", true)
def tyX12 : Nat → FieldType := fun k => match k with
  | 0 => .array .int
  | 1 => .array .int
  | 2 => .array .int
  | 3 => .int
  | 4 => .array .int
  | 5 => .int
  | 6 => .int
  | 7 => .int
  | 8 => .int
  | 9 => .int
  | 10 => .boolean
  | 11 => .array .int
  | 12 => .array .int
  | 13 => .array .boolean
  | 14 => .array .int
  | 15 => .int
  | 16 => .int
  | 17 => .array .int
  | 18 => .array .int
  | 19 => .array .int
  | _ => .array .int
theorem nmX12 : ∀ a, a < 21 → ∀ b, b < 21 → a ≠ b → (TX12 a).2.1 ≠ (TX12 b).2.1 := by decide +kernel
theorem tyX12_ok : ∀ k, k < 21 → parseFieldDescriptor (TX12 k).2.2.1 = some (tyX12 k) := by decide +kernel
def RJ6 : String := "java/lang/Integer"
def RJ9 : String := "java/lang/Math"
def RL : String := "NineWellsLaw"
abbrev cX0_init : ByteArray := prog_2_method_1_code
def yX0_init : MethodName := ⟨RX0, "<init>", "()V"⟩
abbrev cX0_search : ByteArray := prog_2_method_2_code
def yX0_search : MethodName := ⟨RX0, "search", "(LNineWells$Wells;LNineWells$Finds;III)V"⟩
abbrev cX0_note : ByteArray := prog_2_method_3_code
def yX0_note : MethodName := ⟨RX0, "note", "(III)V"⟩
abbrev cX0_howManyPlaces : ByteArray := prog_2_method_4_code
def yX0_howManyPlaces : MethodName := ⟨RX0, "howManyPlaces", "(I)I"⟩
abbrev cX0_bestStart : ByteArray := prog_2_method_5_code
def yX0_bestStart : MethodName := ⟨RX0, "bestStart", "(I)I"⟩
abbrev cX1_init : ByteArray := prog_3_method_1_code
def yX1_init : MethodName := ⟨RX1, "<init>", "()V"⟩
abbrev cX1_copyFrom : ByteArray := prog_3_method_2_code
def yX1_copyFrom : MethodName := ⟨RX1, "copyFrom", "(LNineWells$Desk;)V"⟩
abbrev cX1_draw : ByteArray := prog_3_method_3_code
def yX1_draw : MethodName := ⟨RX1, "draw", "()I"⟩
abbrev cX2_init : ByteArray := prog_4_method_1_code
def yX2_init : MethodName := ⟨RX2, "<init>", "()V"⟩
abbrev cX2_copyFrom : ByteArray := prog_4_method_2_code
def yX2_copyFrom : MethodName := ⟨RX2, "copyFrom", "(LNineWells$Finds;)V"⟩
abbrev cX2_append : ByteArray := prog_4_method_3_code
def yX2_append : MethodName := ⟨RX2, "append", "(III)I"⟩
abbrev cX2_isSo : ByteArray := prog_4_method_4_code
def yX2_isSo : MethodName := ⟨RX2, "isSo", "(ILNineWells$Wells;)Z"⟩
abbrev cX2_allSo : ByteArray := prog_4_method_5_code
def yX2_allSo : MethodName := ⟨RX2, "allSo", "(LNineWells$Wells;)Z"⟩
abbrev cX3_init : ByteArray := prog_5_method_1_code
def yX3_init : MethodName := ⟨RX3, "<init>", "(LNineWells$Row;)V"⟩
abbrev cX3_faultFor : ByteArray := prog_5_method_2_code
def yX3_faultFor : MethodName := ⟨RX3, "faultFor", "(I)I"⟩
abbrev cX3_reads : ByteArray := prog_5_method_3_code
def yX3_reads : MethodName := ⟨RX3, "reads", "(II)Z"⟩
abbrev cX3_readsUnit : ByteArray := prog_5_method_4_code
def yX3_readsUnit : MethodName := ⟨RX3, "readsUnit", "(I)Z"⟩
abbrev cX3_readsNot : ByteArray := prog_5_method_5_code
def yX3_readsNot : MethodName := ⟨RX3, "readsNot", "(I)Z"⟩
abbrev cX3_readsInside : ByteArray := prog_5_method_6_code
def yX3_readsInside : MethodName := ⟨RX3, "readsInside", "(I)Z"⟩
abbrev cX3_readNumber : ByteArray := prog_5_method_7_code
def yX3_readNumber : MethodName := ⟨RX3, "readNumber", "()V"⟩
abbrev cX3_next : ByteArray := prog_5_method_8_code
def yX3_next : MethodName := ⟨RX3, "next", "()I"⟩
abbrev cX3_isDigit : ByteArray := prog_5_method_9_code
def yX3_isDigit : MethodName := ⟨RX3, "isDigit", "(I)Z"⟩
abbrev cX3_nameOf : ByteArray := prog_5_method_10_code
def yX3_nameOf : MethodName := ⟨RX3, "nameOf", "(I)I"⟩
abbrev cX3_levelOf : ByteArray := prog_5_method_11_code
def yX3_levelOf : MethodName := ⟨RX3, "levelOf", "(I)I"⟩
abbrev cX4_init : ByteArray := prog_6_method_1_code
def yX4_init : MethodName := ⟨RX4, "<init>", "(I)V"⟩
abbrev cX4_copyFrom : ByteArray := prog_6_method_2_code
def yX4_copyFrom : MethodName := ⟨RX4, "copyFrom", "(LNineWells$Row;)V"⟩
abbrev cX4_append : ByteArray := prog_6_method_3_code
def yX4_append : MethodName := ⟨RX4, "append", "(I)V"⟩
abbrev cX5_init : ByteArray := prog_7_method_1_code
def yX5_init : MethodName := ⟨RX5, "<init>", "()V"⟩
abbrev cX5_clear : ByteArray := prog_7_method_2_code
def yX5_clear : MethodName := ⟨RX5, "clear", "(II)V"⟩
abbrev cX5_write : ByteArray := prog_7_method_3_code
def yX5_write : MethodName := ⟨RX5, "write", "(II)V"⟩
abbrev cX5_hasSpan : ByteArray := prog_7_method_4_code
def yX5_hasSpan : MethodName := ⟨RX5, "hasSpan", "(II)Z"⟩
abbrev cX6_init : ByteArray := prog_8_method_1_code
def yX6_init : MethodName := ⟨RX6, "<init>", "()V"⟩
abbrev cX6_copyFrom : ByteArray := prog_8_method_2_code
def yX6_copyFrom : MethodName := ⟨RX6, "copyFrom", "(LNineWells$Text;)V"⟩
abbrev cX6_append : ByteArray := prog_8_method_3_code
def yX6_append : MethodName := ⟨RX6, "append", "(I)V"⟩
abbrev cX6_worth : ByteArray := prog_8_method_4_code
def yX6_worth : MethodName := ⟨RX6, "worth", "(IIII)I"⟩
abbrev cX6_named : ByteArray := prog_8_method_5_code
def yX6_named : MethodName := ⟨RX6, "named", "(IIIII)I"⟩
abbrev cX6_joined : ByteArray := prog_8_method_6_code
def yX6_joined : MethodName := ⟨RX6, "joined", "(III)I"⟩
abbrev cX7_init : ByteArray := prog_9_method_1_code
def yX7_init : MethodName := ⟨RX7, "<init>", "()V"⟩
abbrev cX7_copyFrom : ByteArray := prog_9_method_2_code
def yX7_copyFrom : MethodName := ⟨RX7, "copyFrom", "(LNineWells$Things;)V"⟩
abbrev cX7_has : ByteArray := prog_9_method_3_code
def yX7_has : MethodName := ⟨RX7, "has", "(I)Z"⟩
abbrev cX7_make : ByteArray := prog_9_method_4_code
def yX7_make : MethodName := ⟨RX7, "make", "(II)I"⟩
abbrev cX7_place : ByteArray := prog_9_method_5_code
def yX7_place : MethodName := ⟨RX7, "place", "(IIII)V"⟩
abbrev cX7_wellOf : ByteArray := prog_9_method_6_code
def yX7_wellOf : MethodName := ⟨RX7, "wellOf", "(I)I"⟩
abbrev cX7_bits : ByteArray := prog_9_method_7_code
def yX7_bits : MethodName := ⟨RX7, "bits", "(II)I"⟩
abbrev cX7_others : ByteArray := prog_9_method_8_code
def yX7_others : MethodName := ⟨RX7, "others", "(III)I"⟩
abbrev cX7_belowBits : ByteArray := prog_9_method_9_code
def yX7_belowBits : MethodName := ⟨RX7, "belowBits", "()I"⟩
abbrev cX7_howManyOut : ByteArray := prog_9_method_10_code
def yX7_howManyOut : MethodName := ⟨RX7, "howManyOut", "()I"⟩
abbrev cX8_init : ByteArray := prog_10_method_1_code
def yX8_init : MethodName := ⟨RX8, "<init>", "()V"⟩
abbrev cX8_begin : ByteArray := prog_10_method_2_code
def yX8_begin : MethodName := ⟨RX8, "begin", "(IIIII)I"⟩
abbrev cX8_says : ByteArray := prog_10_method_3_code
def yX8_says : MethodName := ⟨RX8, "says", "(IIII)I"⟩
abbrev cX8_holderOf : ByteArray := prog_10_method_4_code
def yX8_holderOf : MethodName := ⟨RX8, "holderOf", "(II)I"⟩
abbrev cX8_note : ByteArray := prog_10_method_5_code
def yX8_note : MethodName := ⟨RX8, "note", "(I)V"⟩
abbrev cX9_init : ByteArray := prog_11_method_1_code
def yX9_init : MethodName := ⟨RX9, "<init>", "()V"⟩
abbrev cX9_copyFrom : ByteArray := prog_11_method_2_code
def yX9_copyFrom : MethodName := ⟨RX9, "copyFrom", "(LNineWells$Wells;)V"⟩
abbrev cX9_has : ByteArray := prog_11_method_3_code
def yX9_has : MethodName := ⟨RX9, "has", "(I)Z"⟩
abbrev cX9_dig : ByteArray := prog_11_method_4_code
def yX9_dig : MethodName := ⟨RX9, "dig", "()I"⟩
abbrev cX9_allows : ByteArray := prog_11_method_5_code
def yX9_allows : MethodName := ⟨RX9, "allows", "(II)Z"⟩
abbrev cX9_lead : ByteArray := prog_11_method_6_code
def yX9_lead : MethodName := ⟨RX9, "lead", "(III)V"⟩
abbrev cX9_leadsTo : ByteArray := prog_11_method_7_code
def yX9_leadsTo : MethodName := ⟨RX9, "leadsTo", "(I)I"⟩
abbrev cX9_daysOf : ByteArray := prog_11_method_8_code
def yX9_daysOf : MethodName := ⟨RX9, "daysOf", "(I)I"⟩
abbrev cX9_placeOn : ByteArray := prog_11_method_9_code
def yX9_placeOn : MethodName := ⟨RX9, "placeOn", "(II)I"⟩
abbrev cX9_leastSum : ByteArray := prog_11_method_10_code
def yX9_leastSum : MethodName := ⟨RX9, "leastSum", "(IIIZ)I"⟩
abbrev cX9_leastOfRing : ByteArray := prog_11_method_11_code
def yX9_leastOfRing : MethodName := ⟨RX9, "leastOfRing", "(I)I"⟩
abbrev cX9_deepBits : ByteArray := prog_11_method_12_code
def yX9_deepBits : MethodName := ⟨RX9, "deepBits", "()I"⟩
abbrev cX9_howManyRings : ByteArray := prog_11_method_13_code
def yX9_howManyRings : MethodName := ⟨RX9, "howManyRings", "()I"⟩
abbrev cX9_meetingDay : ByteArray := prog_11_method_14_code
def yX9_meetingDay : MethodName := ⟨RX9, "meetingDay", "(II)I"⟩
abbrev cX9_longestGoing : ByteArray := prog_11_method_15_code
def yX9_longestGoing : MethodName := ⟨RX9, "longestGoing", "()I"⟩
abbrev cX10_init : ByteArray := prog_12_method_1_code
def yX10_init : MethodName := ⟨RX10, "<init>", "(LNineWells$Text;LNineWells$Text;)V"⟩
abbrev cX10_copyFrom : ByteArray := prog_12_method_2_code
def yX10_copyFrom : MethodName := ⟨RX10, "copyFrom", "(LNineWells$World;)V"⟩
abbrev cX10_goBy : ByteArray := prog_12_method_3_code
def yX10_goBy : MethodName := ⟨RX10, "goBy", "(I)V"⟩
abbrev cX10_goDown : ByteArray := prog_12_method_4_code
def yX10_goDown : MethodName := ⟨RX10, "goDown", "(I)V"⟩
abbrev cX10_comeNearer : ByteArray := prog_12_method_5_code
def yX10_comeNearer : MethodName := ⟨RX10, "comeNearer", "(I)V"⟩
abbrev cX10_gives : ByteArray := prog_12_method_6_code
def yX10_gives : MethodName := ⟨RX10, "gives", "(IIIII)I"⟩
abbrev cX10_detail : ByteArray := prog_12_method_7_code
def yX10_detail : MethodName := ⟨RX10, "detail", "(II)I"⟩
abbrev cX10_month : ByteArray := prog_12_method_8_code
def yX10_month : MethodName := ⟨RX10, "month", "()I"⟩
abbrev cX10_lasts : ByteArray := prog_12_method_9_code
def yX10_lasts : MethodName := ⟨RX10, "lasts", "(I)I"⟩
abbrev cX10_lastsByKind : ByteArray := prog_12_method_10_code
def yX10_lastsByKind : MethodName := ⟨RX10, "lastsByKind", "(IIII)I"⟩
abbrev cX10_stays : ByteArray := prog_12_method_11_code
def yX10_stays : MethodName := ⟨RX10, "stays", "(I)Z"⟩
abbrev cX10_waitsForMore : ByteArray := prog_12_method_12_code
def yX10_waitsForMore : MethodName := ⟨RX10, "waitsForMore", "(I)Z"⟩
abbrev cX10_leaveAlone : ByteArray := prog_12_method_13_code
def yX10_leaveAlone : MethodName := ⟨RX10, "leaveAlone", "(II)V"⟩
abbrev cX11_init : ByteArray := prog_1_method_1_code
def yX11_init : MethodName := ⟨RX11, "<init>", "()V"⟩
abbrev cX11_well : ByteArray := prog_1_method_2_code
def yX11_well : MethodName := ⟨RX11, "well", "()I"⟩
abbrev cX11_going : ByteArray := prog_1_method_3_code
def yX11_going : MethodName := ⟨RX11, "going", "(III)I"⟩
abbrev cX11_set : ByteArray := prog_1_method_4_code
def yX11_set : MethodName := ⟨RX11, "set", "(III)I"⟩
abbrev cX11_ofWell : ByteArray := prog_1_method_5_code
def yX11_ofWell : MethodName := ⟨RX11, "ofWell", "(II)I"⟩
abbrev cX11_goings : ByteArray := prog_1_method_6_code
def yX11_goings : MethodName := ⟨RX11, "goings", "(I)I"⟩
abbrev cX11_thing : ByteArray := prog_1_method_7_code
def yX11_thing : MethodName := ⟨RX11, "thing", "(II)I"⟩
abbrev cX11_ofThing : ByteArray := prog_1_method_8_code
def yX11_ofThing : MethodName := ⟨RX11, "ofThing", "(II)I"⟩
abbrev cX11_as : ByteArray := prog_1_method_9_code
def yX11_as : MethodName := ⟨RX11, "as", "(II)I"⟩
abbrev cX11_let : ByteArray := prog_1_method_10_code
def yX11_let : MethodName := ⟨RX11, "let", "(II)I"⟩
abbrev cX11_fish : ByteArray := prog_1_method_11_code
def yX11_fish : MethodName := ⟨RX11, "fish", "(I)I"⟩
abbrev cX11_feed : ByteArray := prog_1_method_12_code
def yX11_feed : MethodName := ⟨RX11, "feed", "(JI)I"⟩
abbrev cX11_text : ByteArray := prog_1_method_13_code
def yX11_text : MethodName := ⟨RX11, "text", "(I)I"⟩
abbrev cX11_law : ByteArray := prog_1_method_14_code
def yX11_law : MethodName := ⟨RX11, "law", "(IIIII)I"⟩
abbrev cX11_days : ByteArray := prog_1_method_15_code
def yX11_days : MethodName := ⟨RX11, "days", "(I)I"⟩
abbrev cX11_floods : ByteArray := prog_1_method_16_code
def yX11_floods : MethodName := ⟨RX11, "floods", "(I)I"⟩
abbrev cX11_flood : ByteArray := prog_1_method_17_code
def yX11_flood : MethodName := ⟨RX11, "flood", "()V"⟩
abbrev cX11_then : ByteArray := prog_1_method_18_code
def yX11_then : MethodName := ⟨RX11, "then", "(III)I"⟩
abbrev cX11_in : ByteArray := prog_1_method_19_code
def yX11_in : MethodName := ⟨RX11, "in", "(II)I"⟩
abbrev cX11_seen : ByteArray := prog_1_method_20_code
def yX11_seen : MethodName := ⟨RX11, "seen", "(III)I"⟩
abbrev cX11_round : ByteArray := prog_1_method_21_code
def yX11_round : MethodName := ⟨RX11, "round", "(II)I"⟩
abbrev cX11_soon : ByteArray := prog_1_method_22_code
def yX11_soon : MethodName := ⟨RX11, "soon", "(III)I"⟩
abbrev cX11_cheap : ByteArray := prog_1_method_23_code
def yX11_cheap : MethodName := ⟨RX11, "cheap", "(III)I"⟩
abbrev cX11_rings : ByteArray := prog_1_method_24_code
def yX11_rings : MethodName := ⟨RX11, "rings", "(I)I"⟩
abbrev cX11_meet : ByteArray := prog_1_method_25_code
def yX11_meet : MethodName := ⟨RX11, "meet", "(II)I"⟩
abbrev cX11_tenth : ByteArray := prog_1_method_26_code
def yX11_tenth : MethodName := ⟨RX11, "tenth", "()I"⟩
abbrev cX11_find : ByteArray := prog_1_method_27_code
def yX11_find : MethodName := ⟨RX11, "find", "(III)I"⟩
abbrev cX11_forget : ByteArray := prog_1_method_28_code
def yX11_forget : MethodName := ⟨RX11, "forget", "()I"⟩
abbrev cX11_agrees : ByteArray := prog_1_method_29_code
def yX11_agrees : MethodName := ⟨RX11, "agrees", "(I)I"⟩
abbrev cX11_belows : ByteArray := prog_1_method_30_code
def yX11_belows : MethodName := ⟨RX11, "belows", "(III)I"⟩
abbrev cX11_cork : ByteArray := prog_1_method_31_code
def yX11_cork : MethodName := ⟨RX11, "cork", "(IIII)I"⟩
abbrev cX11_seed : ByteArray := prog_1_method_32_code
def yX11_seed : MethodName := ⟨RX11, "seed", "(I)I"⟩
abbrev cX11_voice : ByteArray := prog_1_method_33_code
def yX11_voice : MethodName := ⟨RX11, "voice", "(III)I"⟩
abbrev cX11_trace : ByteArray := prog_1_method_34_code
def yX11_trace : MethodName := ⟨RX11, "trace", "(I)I"⟩
abbrev cX11_sheet : ByteArray := prog_1_method_35_code
def yX11_sheet : MethodName := ⟨RX11, "sheet", "(III)I"⟩
abbrev cX11_put : ByteArray := prog_1_method_36_code
def yX11_put : MethodName := ⟨RX11, "put", "(III)I"⟩
abbrev cX11_move : ByteArray := prog_1_method_37_code
def yX11_move : MethodName := ⟨RX11, "move", "(IIIII)I"⟩
abbrev cX11_image : ByteArray := prog_1_method_38_code
def yX11_image : MethodName := ⟨RX11, "image", "()I"⟩
abbrev cX11_restore : ByteArray := prog_1_method_39_code
def yX11_restore : MethodName := ⟨RX11, "restore", "()I"⟩
abbrev cX11_tell : ByteArray := prog_1_method_40_code
def yX11_tell : MethodName := ⟨RX11, "tell", "(I)I"⟩
abbrev cX11_check : ByteArray := prog_1_method_41_code
def yX11_check : MethodName := ⟨RX11, "check", "(I)I"⟩
abbrev cX11_count : ByteArray := prog_1_method_42_code
def yX11_count : MethodName := ⟨RX11, "count", "(I)I"⟩
abbrev cX11_told : ByteArray := prog_1_method_43_code
def yX11_told : MethodName := ⟨RX11, "told", "(I)I"⟩
abbrev cX11_error : ByteArray := prog_1_method_44_code
def yX11_error : MethodName := ⟨RX11, "error", "(I)I"⟩
abbrev cX11_sheetAt : ByteArray := prog_1_method_45_code
def yX11_sheetAt : MethodName := ⟨RX11, "sheetAt", "(I)LNineWells$Sheet;"⟩
abbrev cX11_within : ByteArray := prog_1_method_46_code
def yX11_within : MethodName := ⟨RX11, "within", "(III)Z"⟩
abbrev cX11_isKind : ByteArray := prog_1_method_47_code
def yX11_isKind : MethodName := ⟨RX11, "isKind", "(I)Z"⟩
abbrev cX11_isUse : ByteArray := prog_1_method_48_code
def yX11_isUse : MethodName := ⟨RX11, "isUse", "(I)Z"⟩
abbrev cX11_isDetail : ByteArray := prog_1_method_49_code
def yX11_isDetail : MethodName := ⟨RX11, "isDetail", "(I)Z"⟩
abbrev cX11_isUnder : ByteArray := prog_1_method_50_code
def yX11_isUnder : MethodName := ⟨RX11, "isUnder", "(II)Z"⟩
abbrev cX11_pick : ByteArray := prog_1_method_51_code
def yX11_pick : MethodName := ⟨RX11, "pick", "([II)I"⟩
abbrev cX11_lay : ByteArray := prog_1_method_52_code
def yX11_lay : MethodName := ⟨RX11, "lay", "([III)V"⟩
abbrev cX11_copyRow : ByteArray := prog_1_method_53_code
def yX11_copyRow : MethodName := ⟨RX11, "copyRow", "([I[I)V"⟩
abbrev cX12_init : ByteArray := prog_14_method_1_code
def yX12_init : MethodName := ⟨RX12, "<init>", "()V"⟩
abbrev cX12_finds : ByteArray := prog_14_method_3_code
def yX12_finds : MethodName := ⟨RX12, "finds", "(I)I"⟩
abbrev cX12_isIn : ByteArray := prog_14_method_4_code
def yX12_isIn : MethodName := ⟨RX12, "isIn", "(JJJ)Z"⟩
abbrev cX12_held : ByteArray := prog_14_method_5_code
def yX12_held : MethodName := ⟨RX12, "held", "(III)I"⟩
abbrev cX12_copies : ByteArray := prog_14_method_6_code
def yX12_copies : MethodName := ⟨RX12, "copies", "([I[I)V"⟩
abbrev cX12_isWell : ByteArray := prog_14_method_7_code
def yX12_isWell : MethodName := ⟨RX12, "isWell", "(I)Z"⟩
abbrev cX12_isThing : ByteArray := prog_14_method_8_code
def yX12_isThing : MethodName := ⟨RX12, "isThing", "(I)Z"⟩
abbrev cX12_aWell : ByteArray := prog_14_method_9_code
def yX12_aWell : MethodName := ⟨RX12, "aWell", "([III)I"⟩
abbrev cX12_aThing : ByteArray := prog_14_method_10_code
def yX12_aThing : MethodName := ⟨RX12, "aThing", "([III)I"⟩
abbrev cX12_here : ByteArray := prog_14_method_11_code
def yX12_here : MethodName := ⟨RX12, "here", "()I"⟩
abbrev cX12_wrong : ByteArray := prog_14_method_12_code
def yX12_wrong : MethodName := ⟨RX12, "wrong", "()I"⟩
abbrev cX12_takes : ByteArray := prog_14_method_13_code
def yX12_takes : MethodName := ⟨RX12, "takes", "(I)Z"⟩
abbrev cX12_nameOf : ByteArray := prog_14_method_14_code
def yX12_nameOf : MethodName := ⟨RX12, "nameOf", "(I)I"⟩
abbrev cX12_either : ByteArray := prog_14_method_15_code
def yX12_either : MethodName := ⟨RX12, "either", "()I"⟩
abbrev cX12_both : ByteArray := prog_14_method_16_code
def yX12_both : MethodName := ⟨RX12, "both", "()I"⟩
abbrev cX12_compared : ByteArray := prog_14_method_17_code
def yX12_compared : MethodName := ⟨RX12, "compared", "()I"⟩
abbrev cX12_sum : ByteArray := prog_14_method_18_code
def yX12_sum : MethodName := ⟨RX12, "sum", "()I"⟩
abbrev cX12_product : ByteArray := prog_14_method_19_code
def yX12_product : MethodName := ⟨RX12, "product", "()I"⟩
abbrev cX12_unit : ByteArray := prog_14_method_20_code
def yX12_unit : MethodName := ⟨RX12, "unit", "()I"⟩
abbrev cX12_worked : ByteArray := prog_14_method_21_code
def yX12_worked : MethodName := ⟨RX12, "worked", "(III)I"⟩
abbrev cX12_feed : ByteArray := prog_14_method_22_code
def yX12_feed : MethodName := ⟨RX12, "feed", "(JI)I"⟩
abbrev cX12_text : ByteArray := prog_14_method_23_code
def yX12_text : MethodName := ⟨RX12, "text", "(I)I"⟩
abbrev cX12_gives : ByteArray := prog_14_method_24_code
def yX12_gives : MethodName := ⟨RX12, "gives", "(IIIII)I"⟩
abbrev cX12_law : ByteArray := prog_14_method_25_code
def yX12_law : MethodName := ⟨RX12, "law", "(IIIII)I"⟩
abbrev cX12_well : ByteArray := prog_14_method_26_code
def yX12_well : MethodName := ⟨RX12, "well", "()I"⟩
abbrev cX12_mayGo : ByteArray := prog_14_method_27_code
def yX12_mayGo : MethodName := ⟨RX12, "mayGo", "(II)Z"⟩
abbrev cX12_leads : ByteArray := prog_14_method_28_code
def yX12_leads : MethodName := ⟨RX12, "leads", "(III)V"⟩
abbrev cX12_going : ByteArray := prog_14_method_29_code
def yX12_going : MethodName := ⟨RX12, "going", "(III)I"⟩
abbrev cX12_set : ByteArray := prog_14_method_30_code
def yX12_set : MethodName := ⟨RX12, "set", "(III)I"⟩
abbrev cX12_thingsIn : ByteArray := prog_14_method_31_code
def yX12_thingsIn : MethodName := ⟨RX12, "thingsIn", "([III)I"⟩
abbrev cX12_ofWell : ByteArray := prog_14_method_32_code
def yX12_ofWell : MethodName := ⟨RX12, "ofWell", "(II)I"⟩
abbrev cX12_goings : ByteArray := prog_14_method_33_code
def yX12_goings : MethodName := ⟨RX12, "goings", "(I)I"⟩
abbrev cX12_thing : ByteArray := prog_14_method_34_code
def yX12_thing : MethodName := ⟨RX12, "thing", "(II)I"⟩
abbrev cX12_many : ByteArray := prog_14_method_35_code
def yX12_many : MethodName := ⟨RX12, "many", "(I)I"⟩
abbrev cX12_month : ByteArray := prog_14_method_36_code
def yX12_month : MethodName := ⟨RX12, "month", "([I)I"⟩
abbrev cX12_lasts : ByteArray := prog_14_method_37_code
def yX12_lasts : MethodName := ⟨RX12, "lasts", "([II)I"⟩
abbrev cX12_stays : ByteArray := prog_14_method_38_code
def yX12_stays : MethodName := ⟨RX12, "stays", "([II)Z"⟩
abbrev cX12_ofIt : ByteArray := prog_14_method_39_code
def yX12_ofIt : MethodName := ⟨RX12, "ofIt", "([III)I"⟩
abbrev cX12_ofThing : ByteArray := prog_14_method_40_code
def yX12_ofThing : MethodName := ⟨RX12, "ofThing", "(II)I"⟩
abbrev cX12_isOf : ByteArray := prog_14_method_41_code
def yX12_isOf : MethodName := ⟨RX12, "isOf", "(II)Z"⟩
abbrev cX12_as : ByteArray := prog_14_method_42_code
def yX12_as : MethodName := ⟨RX12, "as", "(II)I"⟩
abbrev cX12_itsKind : ByteArray := prog_14_method_43_code
def yX12_itsKind : MethodName := ⟨RX12, "itsKind", "(I)I"⟩
abbrev cX12_puts : ByteArray := prog_14_method_44_code
def yX12_puts : MethodName := ⟨RX12, "puts", "([IIIII)V"⟩
abbrev cX12_isNow : ByteArray := prog_14_method_45_code
def yX12_isNow : MethodName := ⟨RX12, "isNow", "(I)I"⟩
abbrev cX12_let : ByteArray := prog_14_method_46_code
def yX12_let : MethodName := ⟨RX12, "let", "(II)I"⟩
abbrev cX12_fish : ByteArray := prog_14_method_47_code
def yX12_fish : MethodName := ⟨RX12, "fish", "(I)I"⟩
abbrev cX12_goesUp : ByteArray := prog_14_method_48_code
def yX12_goesUp : MethodName := ⟨RX12, "goesUp", "([II)V"⟩
abbrev cX12_goesBy : ByteArray := prog_14_method_49_code
def yX12_goesBy : MethodName := ⟨RX12, "goesBy", "([I)V"⟩
abbrev cX12_goesOn : ByteArray := prog_14_method_50_code
def yX12_goesOn : MethodName := ⟨RX12, "goesOn", "([II)V"⟩
abbrev cX12_days : ByteArray := prog_14_method_51_code
def yX12_days : MethodName := ⟨RX12, "days", "(I)I"⟩
abbrev cX12_drawn : ByteArray := prog_14_method_52_code
def yX12_drawn : MethodName := ⟨RX12, "drawn", "()I"⟩
abbrev cX12_floods : ByteArray := prog_14_method_53_code
def yX12_floods : MethodName := ⟨RX12, "floods", "(I)I"⟩
abbrev cX12_isAhead : ByteArray := prog_14_method_54_code
def yX12_isAhead : MethodName := ⟨RX12, "isAhead", "(I)Z"⟩
abbrev cX12_ahead : ByteArray := prog_14_method_55_code
def yX12_ahead : MethodName := ⟨RX12, "ahead", "(I)V"⟩
abbrev cX12_then : ByteArray := prog_14_method_56_code
def yX12_then : MethodName := ⟨RX12, "then", "(III)I"⟩
abbrev cX12_in : ByteArray := prog_14_method_57_code
def yX12_in : MethodName := ⟨RX12, "in", "(II)I"⟩
abbrev cX12_inWhich : ByteArray := prog_14_method_58_code
def yX12_inWhich : MethodName := ⟨RX12, "inWhich", "([II)I"⟩
abbrev cX12_seen : ByteArray := prog_14_method_59_code
def yX12_seen : MethodName := ⟨RX12, "seen", "(III)I"⟩
abbrev cX12_round : ByteArray := prog_14_method_60_code
def yX12_round : MethodName := ⟨RX12, "round", "(II)I"⟩
abbrev cX12_least : ByteArray := prog_14_method_61_code
def yX12_least : MethodName := ⟨RX12, "least", "(IIIZ)I"⟩
abbrev cX12_itsWell : ByteArray := prog_14_method_62_code
def yX12_itsWell : MethodName := ⟨RX12, "itsWell", "(II)I"⟩
abbrev cX12_soon : ByteArray := prog_14_method_63_code
def yX12_soon : MethodName := ⟨RX12, "soon", "(III)I"⟩
abbrev cX12_cheap : ByteArray := prog_14_method_64_code
def yX12_cheap : MethodName := ⟨RX12, "cheap", "(III)I"⟩
abbrev cX12_ringOf : ByteArray := prog_14_method_65_code
def yX12_ringOf : MethodName := ⟨RX12, "ringOf", "(I)I"⟩
abbrev cX12_rings : ByteArray := prog_14_method_66_code
def yX12_rings : MethodName := ⟨RX12, "rings", "(I)I"⟩
abbrev cX12_walk : ByteArray := prog_14_method_67_code
def yX12_walk : MethodName := ⟨RX12, "walk", "(IIIII)I"⟩
abbrev cX12_meet : ByteArray := prog_14_method_68_code
def yX12_meet : MethodName := ⟨RX12, "meet", "(II)I"⟩
abbrev cX12_tenth : ByteArray := prog_14_method_69_code
def yX12_tenth : MethodName := ⟨RX12, "tenth", "()I"⟩
abbrev cX12_find : ByteArray := prog_14_method_70_code
def yX12_find : MethodName := ⟨RX12, "find", "(III)I"⟩
abbrev cX12_forget : ByteArray := prog_14_method_71_code
def yX12_forget : MethodName := ⟨RX12, "forget", "()I"⟩
abbrev cX12_isSo : ByteArray := prog_14_method_72_code
def yX12_isSo : MethodName := ⟨RX12, "isSo", "(IIII)Z"⟩
abbrev cX12_agrees : ByteArray := prog_14_method_73_code
def yX12_agrees : MethodName := ⟨RX12, "agrees", "(I)I"⟩
abbrev cX12_areSo : ByteArray := prog_14_method_74_code
def yX12_areSo : MethodName := ⟨RX12, "areSo", "(III)Z"⟩
abbrev cX12_belows : ByteArray := prog_14_method_75_code
def yX12_belows : MethodName := ⟨RX12, "belows", "(III)I"⟩
abbrev cX12_cork : ByteArray := prog_14_method_76_code
def yX12_cork : MethodName := ⟨RX12, "cork", "(IIII)I"⟩
abbrev cX12_seed : ByteArray := prog_14_method_77_code
def yX12_seed : MethodName := ⟨RX12, "seed", "(I)I"⟩
abbrev cX12_ran : ByteArray := prog_14_method_78_code
def yX12_ran : MethodName := ⟨RX12, "ran", "(I)V"⟩
abbrev cX12_above : ByteArray := prog_14_method_79_code
def yX12_above : MethodName := ⟨RX12, "above", "(I)I"⟩
abbrev cX12_sinks : ByteArray := prog_14_method_80_code
def yX12_sinks : MethodName := ⟨RX12, "sinks", "(II)I"⟩
abbrev cX12_goes : ByteArray := prog_14_method_81_code
def yX12_goes : MethodName := ⟨RX12, "goes", "(II)I"⟩
abbrev cX12_waitsFor : ByteArray := prog_14_method_82_code
def yX12_waitsFor : MethodName := ⟨RX12, "waitsFor", "(II)I"⟩
abbrev cX12_tells : ByteArray := prog_14_method_83_code
def yX12_tells : MethodName := ⟨RX12, "tells", "(II)I"⟩
abbrev cX12_voice : ByteArray := prog_14_method_84_code
def yX12_voice : MethodName := ⟨RX12, "voice", "(III)I"⟩
abbrev cX12_trace : ByteArray := prog_14_method_85_code
def yX12_trace : MethodName := ⟨RX12, "trace", "(I)I"⟩
abbrev cX12_isSheet : ByteArray := prog_14_method_86_code
def yX12_isSheet : MethodName := ⟨RX12, "isSheet", "(I)Z"⟩
abbrev cX12_sheet : ByteArray := prog_14_method_87_code
def yX12_sheet : MethodName := ⟨RX12, "sheet", "(III)I"⟩
abbrev cX12_put : ByteArray := prog_14_method_88_code
def yX12_put : MethodName := ⟨RX12, "put", "(III)I"⟩
abbrev cX12_move : ByteArray := prog_14_method_89_code
def yX12_move : MethodName := ⟨RX12, "move", "(IIIII)I"⟩
abbrev cX12_image : ByteArray := prog_14_method_90_code
def yX12_image : MethodName := ⟨RX12, "image", "()I"⟩
abbrev cX12_restore : ByteArray := prog_14_method_91_code
def yX12_restore : MethodName := ⟨RX12, "restore", "()I"⟩
abbrev cX12_tell : ByteArray := prog_14_method_92_code
def yX12_tell : MethodName := ⟨RX12, "tell", "(I)I"⟩
abbrev cX12_check : ByteArray := prog_14_method_93_code
def yX12_check : MethodName := ⟨RX12, "check", "(I)I"⟩
abbrev cX12_manyOut : ByteArray := prog_14_method_94_code
def yX12_manyOut : MethodName := ⟨RX12, "manyOut", "()I"⟩
abbrev cX12_count : ByteArray := prog_14_method_95_code
def yX12_count : MethodName := ⟨RX12, "count", "(I)I"⟩
abbrev cX12_told : ByteArray := prog_14_method_96_code
def yX12_told : MethodName := ⟨RX12, "told", "(I)I"⟩
abbrev cJ6_bitCount_0f7a4 : ByteArray := prog_15_method_49_code
def yJ6_bitCount_0f7a4 : MethodName := ⟨RJ6, "bitCount", "(I)I"⟩
abbrev cJ9_max_7cf53 : ByteArray := prog_16_method_65_code
def yJ9_max_7cf53 : MethodName := ⟨RJ9, "max", "(II)I"⟩
abbrev cJ9_min_7cf53 : ByteArray := prog_16_method_69_code
def yJ9_min_7cf53 : MethodName := ⟨RJ9, "min", "(II)I"⟩
abbrev cL_law : ByteArray := code
def yL_law : MethodName := ⟨RL, "law", "([I)Z"⟩
abbrev mCl : List vw_C := [(RX0, TX0, 5), (RX1, TX1, 6), (RX2, TX2, 4), (RX3, TX3, 4), (RX4, TX4, 2), (RX5, TX5, 3), (RX6, TX6, 3), (RX7, TX7, 7), (RX8, TX8, 5), (RX9, TX9, 5), (RX10, TX10, 5), (RX11, TX11, 11), (RX12, TX12, 21)]
/-- field kinds by class: 0 int, 1 boolean, 2 reference -/
def mFk : List (List Nat) := [[2, 2, 0, 0, 0], [2, 2, 2, 2, 2, 0], [2, 2, 2, 0], [2, 2, 0, 0], [2, 0], [2, 0, 0], [2, 2, 0], [2, 2, 2, 2, 2, 2, 0], [2, 0, 0, 0, 0], [2, 2, 2, 2, 0], [2, 2, 2, 2, 0], [2, 2, 2, 2, 2, 2, 2, 2, 2, 2, 0], [2, 2, 2, 0, 2, 0, 0, 0, 0, 0, 1, 2, 2, 2, 2, 0, 0, 2, 2, 2, 2]]
/-- the methods: name, code, locals, what they return -/
def mM : List (MethodName × ByteArray × Nat × Option FieldType) := [(yX0_init, cX0_init, 1, none),
  (yX0_search, cX0_search, 8, none),
  (yX0_note, cX0_note, 7, none),
  (yX0_howManyPlaces, cX0_howManyPlaces, 2, (some .int)),
  (yX0_bestStart, cX0_bestStart, 4, (some .int)),
  (yX1_init, cX1_init, 1, none),
  (yX1_copyFrom, cX1_copyFrom, 2, none),
  (yX1_draw, cX1_draw, 1, (some .int)),
  (yX2_init, cX2_init, 1, none),
  (yX2_copyFrom, cX2_copyFrom, 2, none),
  (yX2_append, cX2_append, 5, (some .int)),
  (yX2_isSo, cX2_isSo, 3, (some .boolean)),
  (yX2_allSo, cX2_allSo, 3, (some .boolean)),
  (yX3_init, cX3_init, 2, none),
  (yX3_faultFor, cX3_faultFor, 2, (some .int)),
  (yX3_reads, cX3_reads, 6, (some .boolean)),
  (yX3_readsUnit, cX3_readsUnit, 4, (some .boolean)),
  (yX3_readsNot, cX3_readsNot, 2, (some .boolean)),
  (yX3_readsInside, cX3_readsInside, 2, (some .boolean)),
  (yX3_readNumber, cX3_readNumber, 3, none),
  (yX3_next, cX3_next, 1, (some .int)),
  (yX3_isDigit, cX3_isDigit, 1, (some .boolean)),
  (yX3_nameOf, cX3_nameOf, 2, (some .int)),
  (yX3_levelOf, cX3_levelOf, 1, (some .int)),
  (yX4_init, cX4_init, 2, none),
  (yX4_copyFrom, cX4_copyFrom, 2, none),
  (yX4_append, cX4_append, 2, none),
  (yX5_init, cX5_init, 1, none),
  (yX5_clear, cX5_clear, 4, none),
  (yX5_write, cX5_write, 3, none),
  (yX5_hasSpan, cX5_hasSpan, 3, (some .boolean)),
  (yX6_init, cX6_init, 1, none),
  (yX6_copyFrom, cX6_copyFrom, 2, none),
  (yX6_append, cX6_append, 2, none),
  (yX6_worth, cX6_worth, 8, (some .int)),
  (yX6_named, cX6_named, 5, (some .int)),
  (yX6_joined, cX6_joined, 3, (some .int)),
  (yX7_init, cX7_init, 1, none),
  (yX7_copyFrom, cX7_copyFrom, 2, none),
  (yX7_has, cX7_has, 2, (some .boolean)),
  (yX7_make, cX7_make, 4, (some .int)),
  (yX7_place, cX7_place, 5, none),
  (yX7_wellOf, cX7_wellOf, 2, (some .int)),
  (yX7_bits, cX7_bits, 5, (some .int)),
  (yX7_others, cX7_others, 4, (some .int)),
  (yX7_belowBits, cX7_belowBits, 3, (some .int)),
  (yX7_howManyOut, cX7_howManyOut, 3, (some .int)),
  (yX8_init, cX8_init, 1, none),
  (yX8_begin, cX8_begin, 6, (some .int)),
  (yX8_says, cX8_says, 9, (some .int)),
  (yX8_holderOf, cX8_holderOf, 4, (some .int)),
  (yX8_note, cX8_note, 2, none),
  (yX9_init, cX9_init, 1, none),
  (yX9_copyFrom, cX9_copyFrom, 2, none),
  (yX9_has, cX9_has, 2, (some .boolean)),
  (yX9_dig, cX9_dig, 2, (some .int)),
  (yX9_allows, cX9_allows, 3, (some .boolean)),
  (yX9_lead, cX9_lead, 4, none),
  (yX9_leadsTo, cX9_leadsTo, 2, (some .int)),
  (yX9_daysOf, cX9_daysOf, 2, (some .int)),
  (yX9_placeOn, cX9_placeOn, 6, (some .int)),
  (yX9_leastSum, cX9_leastSum, 9, (some .int)),
  (yX9_leastOfRing, cX9_leastOfRing, 5, (some .int)),
  (yX9_deepBits, cX9_deepBits, 3, (some .int)),
  (yX9_howManyRings, cX9_howManyRings, 3, (some .int)),
  (yX9_meetingDay, cX9_meetingDay, 10, (some .int)),
  (yX9_longestGoing, cX9_longestGoing, 3, (some .int)),
  (yX10_init, cX10_init, 3, none),
  (yX10_copyFrom, cX10_copyFrom, 2, none),
  (yX10_goBy, cX10_goBy, 5, none),
  (yX10_goDown, cX10_goDown, 3, none),
  (yX10_comeNearer, cX10_comeNearer, 6, none),
  (yX10_gives, cX10_gives, 6, (some .int)),
  (yX10_detail, cX10_detail, 4, (some .int)),
  (yX10_month, cX10_month, 1, (some .int)),
  (yX10_lasts, cX10_lasts, 5, (some .int)),
  (yX10_lastsByKind, cX10_lastsByKind, 6, (some .int)),
  (yX10_stays, cX10_stays, 2, (some .boolean)),
  (yX10_waitsForMore, cX10_waitsForMore, 3, (some .boolean)),
  (yX10_leaveAlone, cX10_leaveAlone, 4, none),
  (yX11_init, cX11_init, 2, none),
  (yX11_well, cX11_well, 1, (some .int)),
  (yX11_going, cX11_going, 6, (some .int)),
  (yX11_set, cX11_set, 6, (some .int)),
  (yX11_ofWell, cX11_ofWell, 4, (some .int)),
  (yX11_goings, cX11_goings, 8, (some .int)),
  (yX11_thing, cX11_thing, 3, (some .int)),
  (yX11_ofThing, cX11_ofThing, 3, (some .int)),
  (yX11_as, cX11_as, 3, (some .int)),
  (yX11_let, cX11_let, 3, (some .int)),
  (yX11_fish, cX11_fish, 3, (some .int)),
  (yX11_feed, cX11_feed, 5, (some .int)),
  (yX11_text, cX11_text, 4, (some .int)),
  (yX11_law, cX11_law, 6, (some .int)),
  (yX11_days, cX11_days, 2, (some .int)),
  (yX11_floods, cX11_floods, 3, (some .int)),
  (yX11_flood, cX11_flood, 5, none),
  (yX11_then, cX11_then, 4, (some .int)),
  (yX11_in, cX11_in, 3, (some .int)),
  (yX11_seen, cX11_seen, 5, (some .int)),
  (yX11_round, cX11_round, 5, (some .int)),
  (yX11_soon, cX11_soon, 4, (some .int)),
  (yX11_cheap, cX11_cheap, 4, (some .int)),
  (yX11_rings, cX11_rings, 2, (some .int)),
  (yX11_meet, cX11_meet, 4, (some .int)),
  (yX11_tenth, cX11_tenth, 2, (some .int)),
  (yX11_find, cX11_find, 4, (some .int)),
  (yX11_forget, cX11_forget, 2, (some .int)),
  (yX11_agrees, cX11_agrees, 2, (some .int)),
  (yX11_belows, cX11_belows, 4, (some .int)),
  (yX11_cork, cX11_cork, 6, (some .int)),
  (yX11_seed, cX11_seed, 3, (some .int)),
  (yX11_voice, cX11_voice, 5, (some .int)),
  (yX11_trace, cX11_trace, 2, (some .int)),
  (yX11_sheet, cX11_sheet, 5, (some .int)),
  (yX11_put, cX11_put, 5, (some .int)),
  (yX11_move, cX11_move, 8, (some .int)),
  (yX11_image, cX11_image, 1, (some .int)),
  (yX11_restore, cX11_restore, 1, (some .int)),
  (yX11_tell, cX11_tell, 2, (some .int)),
  (yX11_check, cX11_check, 4, (some .int)),
  (yX11_count, cX11_count, 2, (some .int)),
  (yX11_told, cX11_told, 2, (some .int)),
  (yX11_error, cX11_error, 2, (some .int)),
  (yX11_sheetAt, cX11_sheetAt, 2, (Option.some (Jvm.ClassFile.FieldType.object "NineWells$Sheet"))),
  (yX11_within, cX11_within, 3, (some .boolean)),
  (yX11_isKind, cX11_isKind, 1, (some .boolean)),
  (yX11_isUse, cX11_isUse, 1, (some .boolean)),
  (yX11_isDetail, cX11_isDetail, 1, (some .boolean)),
  (yX11_isUnder, cX11_isUnder, 4, (some .boolean)),
  (yX11_pick, cX11_pick, 2, (some .int)),
  (yX11_lay, cX11_lay, 3, none),
  (yX11_copyRow, cX11_copyRow, 2, none),
  (yX12_init, cX12_init, 1, none),
  (yX12_finds, cX12_finds, 2, (some .int)),
  (yX12_isIn, cX12_isIn, 6, (some .boolean)),
  (yX12_held, cX12_held, 3, (some .int)),
  (yX12_copies, cX12_copies, 3, none),
  (yX12_isWell, cX12_isWell, 2, (some .boolean)),
  (yX12_isThing, cX12_isThing, 2, (some .boolean)),
  (yX12_aWell, cX12_aWell, 3, (some .int)),
  (yX12_aThing, cX12_aThing, 3, (some .int)),
  (yX12_here, cX12_here, 1, (some .int)),
  (yX12_wrong, cX12_wrong, 1, (some .int)),
  (yX12_takes, cX12_takes, 2, (some .boolean)),
  (yX12_nameOf, cX12_nameOf, 2, (some .int)),
  (yX12_either, cX12_either, 3, (some .int)),
  (yX12_both, cX12_both, 3, (some .int)),
  (yX12_compared, cX12_compared, 4, (some .int)),
  (yX12_sum, cX12_sum, 4, (some .int)),
  (yX12_product, cX12_product, 4, (some .int)),
  (yX12_unit, cX12_unit, 5, (some .int)),
  (yX12_worked, cX12_worked, 5, (some .int)),
  (yX12_feed, cX12_feed, 5, (some .int)),
  (yX12_text, cX12_text, 5, (some .int)),
  (yX12_gives, cX12_gives, 7, (some .int)),
  (yX12_law, cX12_law, 6, (some .int)),
  (yX12_well, cX12_well, 2, (some .int)),
  (yX12_mayGo, cX12_mayGo, 3, (some .boolean)),
  (yX12_leads, cX12_leads, 4, none),
  (yX12_going, cX12_going, 5, (some .int)),
  (yX12_set, cX12_set, 5, (some .int)),
  (yX12_thingsIn, cX12_thingsIn, 5, (some .int)),
  (yX12_ofWell, cX12_ofWell, 3, (some .int)),
  (yX12_goings, cX12_goings, 3, (some .int)),
  (yX12_thing, cX12_thing, 4, (some .int)),
  (yX12_many, cX12_many, 3, (some .int)),
  (yX12_month, cX12_month, 1, (some .int)),
  (yX12_lasts, cX12_lasts, 8, (some .int)),
  (yX12_stays, cX12_stays, 6, (some .boolean)),
  (yX12_ofIt, cX12_ofIt, 5, (some .int)),
  (yX12_ofThing, cX12_ofThing, 3, (some .int)),
  (yX12_isOf, cX12_isOf, 2, (some .boolean)),
  (yX12_as, cX12_as, 3, (some .int)),
  (yX12_itsKind, cX12_itsKind, 2, (some .int)),
  (yX12_puts, cX12_puts, 5, none),
  (yX12_isNow, cX12_isNow, 2, (some .int)),
  (yX12_let, cX12_let, 3, (some .int)),
  (yX12_fish, cX12_fish, 3, (some .int)),
  (yX12_goesUp, cX12_goesUp, 6, none),
  (yX12_goesBy, cX12_goesBy, 4, none),
  (yX12_goesOn, cX12_goesOn, 4, none),
  (yX12_days, cX12_days, 2, (some .int)),
  (yX12_drawn, cX12_drawn, 1, (some .int)),
  (yX12_floods, cX12_floods, 5, (some .int)),
  (yX12_isAhead, cX12_isAhead, 1, (some .boolean)),
  (yX12_ahead, cX12_ahead, 2, none),
  (yX12_then, cX12_then, 4, (some .int)),
  (yX12_in, cX12_in, 3, (some .int)),
  (yX12_inWhich, cX12_inWhich, 2, (some .int)),
  (yX12_seen, cX12_seen, 5, (some .int)),
  (yX12_round, cX12_round, 5, (some .int)),
  (yX12_least, cX12_least, 10, (some .int)),
  (yX12_itsWell, cX12_itsWell, 3, (some .int)),
  (yX12_soon, cX12_soon, 4, (some .int)),
  (yX12_cheap, cX12_cheap, 4, (some .int)),
  (yX12_ringOf, cX12_ringOf, 4, (some .int)),
  (yX12_rings, cX12_rings, 9, (some .int)),
  (yX12_walk, cX12_walk, 8, (some .int)),
  (yX12_meet, cX12_meet, 5, (some .int)),
  (yX12_tenth, cX12_tenth, 3, (some .int)),
  (yX12_find, cX12_find, 5, (some .int)),
  (yX12_forget, cX12_forget, 2, (some .int)),
  (yX12_isSo, cX12_isSo, 5, (some .boolean)),
  (yX12_agrees, cX12_agrees, 2, (some .int)),
  (yX12_areSo, cX12_areSo, 5, (some .boolean)),
  (yX12_belows, cX12_belows, 9, (some .int)),
  (yX12_cork, cX12_cork, 11, (some .int)),
  (yX12_seed, cX12_seed, 3, (some .int)),
  (yX12_ran, cX12_ran, 2, none),
  (yX12_above, cX12_above, 1, (some .int)),
  (yX12_sinks, cX12_sinks, 3, (some .int)),
  (yX12_goes, cX12_goes, 4, (some .int)),
  (yX12_waitsFor, cX12_waitsFor, 3, (some .int)),
  (yX12_tells, cX12_tells, 4, (some .int)),
  (yX12_voice, cX12_voice, 5, (some .int)),
  (yX12_trace, cX12_trace, 2, (some .int)),
  (yX12_isSheet, cX12_isSheet, 1, (some .boolean)),
  (yX12_sheet, cX12_sheet, 5, (some .int)),
  (yX12_put, cX12_put, 4, (some .int)),
  (yX12_move, cX12_move, 7, (some .int)),
  (yX12_image, cX12_image, 1, (some .int)),
  (yX12_restore, cX12_restore, 1, (some .int)),
  (yX12_tell, cX12_tell, 2, (some .int)),
  (yX12_check, cX12_check, 4, (some .int)),
  (yX12_manyOut, cX12_manyOut, 3, (some .int)),
  (yX12_count, cX12_count, 2, (some .int)),
  (yX12_told, cX12_told, 2, (some .int)),
  (yJ6_bitCount_0f7a4, cJ6_bitCount_0f7a4, 1, (some .int)),
  (yJ9_max_7cf53, cJ9_max_7cf53, 2, (some .int)),
  (yJ9_min_7cf53, cJ9_min_7cf53, 2, (some .int)),
  (yL_law, code, 4, (some .boolean))]
/-- a method: kind (0 of an object, 1 static, 2 constructor), how many parameters, places of its words in lw_tbl -/
def mMr : List (Nat × Nat × Nat × Nat × Nat) := [(2, 0, 293, 0, 70), (0, 5, 799, 800, 70), (0, 3, 811, 18, 70), (0, 1, 826, 827, 70), (0, 1, 822, 823, 70), (2, 0, 87, 0, 61), (0, 1, 893, 894, 61), (0, 0, 681, 682, 61), (2, 0, 93, 0, 62), (0, 1, 897, 898, 62), (0, 3, 773, 774, 62), (0, 2, 786, 787, 62), (0, 1, 805, 806, 62), (2, 1, 271, 0, 69), (0, 1, 592, 593, 69), (0, 2, 597, 7, 69), (0, 1, 601, 8, 69), (0, 1, 624, 12, 69), (0, 1, 628, 13, 69), (0, 0, 612, 10, 69), (0, 0, 605, 9, 69), (1, 1, 608, 0, 69), (0, 1, 620, 11, 69), (1, 1, 631, 0, 69), (2, 1, 132, 0, 64), (0, 1, 903, 904, 64), (0, 1, 580, 581, 64), (2, 0, 345, 0, 72), (0, 2, 868, 869, 72), (0, 2, 876, 877, 72), (0, 2, 885, 886, 72), (2, 0, 114, 0, 63), (0, 1, 634, 635, 63), (0, 1, 615, 616, 63), (0, 4, 535, 536, 63), (1, 5, 540, 0, 63), (1, 3, 544, 0, 63), (2, 0, 212, 0, 68), (0, 1, 699, 700, 68), (0, 1, 487, 488, 68), (0, 2, 474, 475, 68), (0, 4, 479, 480, 68), (0, 1, 498, 499, 68), (0, 2, 455, 456, 68), (0, 3, 515, 516, 68), (0, 0, 658, 659, 68), (0, 0, 924, 925, 68), (2, 0, 320, 0, 71), (0, 5, 840, 841, 71), (0, 4, 845, 19, 71), (1, 2, 848, 0, 71), (0, 1, 856, 20, 71), (2, 0, 183, 0, 67), (0, 1, 694, 695, 67), (0, 1, 424, 425, 67), (0, 0, 411, 412, 67), (0, 2, 428, 429, 67), (0, 3, 415, 416, 67), (0, 1, 436, 437, 67), (0, 1, 451, 452, 67), (0, 2, 791, 792, 67), (0, 4, 725, 726, 67), (0, 1, 745, 17, 67), (0, 0, 740, 741, 67), (0, 0, 748, 749, 67), (0, 2, 756, 757, 67), (0, 0, 765, 766, 67), (2, 2, 177, 0, 66), (0, 1, 690, 691, 66), (0, 1, 654, 655, 66), (0, 1, 663, 14, 66), (0, 1, 668, 15, 66), (0, 5, 531, 532, 66), (0, 2, 494, 495, 66), (0, 0, 527, 4, 66), (0, 1, 506, 2, 66), (0, 4, 510, 3, 66), (0, 1, 551, 5, 66), (0, 1, 555, 6, 66), (0, 2, 717, 718, 66), (2, 0, 79, 0, 60), (0, 0, 396, 397, 60), (0, 3, 420, 421, 60), (0, 3, 442, 443, 60), (0, 2, 447, 448, 60), (0, 1, 459, 460, 60), (0, 2, 467, 468, 60), (0, 2, 483, 484, 60), (0, 2, 558, 559, 60), (0, 2, 567, 568, 60), (0, 1, 572, 573, 60), (0, 2, 576, 577, 60), (0, 1, 585, 586, 60), (0, 5, 645, 646, 60), (0, 1, 650, 651, 60), (0, 1, 673, 674, 60), (0, 0, 678, 16, 60), (0, 3, 686, 687, 60), (0, 2, 704, 705, 60), (0, 3, 708, 709, 60), (0, 2, 713, 714, 60), (0, 3, 721, 722, 60), (0, 3, 732, 733, 60), (0, 1, 736, 737, 60), (0, 2, 752, 753, 60), (0, 0, 761, 762, 60), (0, 3, 769, 770, 60), (0, 0, 778, 779, 60), (0, 1, 782, 783, 60), (0, 3, 795, 796, 60), (0, 4, 818, 819, 60), (0, 1, 832, 833, 60), (0, 3, 836, 837, 60), (0, 1, 860, 861, 60), (0, 3, 864, 865, 60), (0, 3, 872, 873, 60), (0, 5, 881, 882, 60), (0, 0, 889, 890, 60), (0, 0, 908, 909, 60), (0, 1, 912, 913, 60), (0, 1, 916, 917, 60), (0, 1, 920, 921, 60), (0, 1, 928, 929, 60), (0, 1, 401, 0, 60), (0, 1, 464, 1, 60), (1, 3, 433, 0, 60), (1, 1, 471, 0, 60), (1, 1, 589, 0, 60), (1, 1, 491, 0, 60), (1, 2, 562, 0, 60), (1, 2, 404, 0, 60), (1, 3, 407, 0, 60), (1, 2, 638, 0, 60), (2, 0, 934, 0, 73), (0, 1, 1012, 21, 73), (1, 3, 1008, 0, 73), (1, 3, 1075, 0, 73), (1, 2, 1227, 0, 73), (0, 1, 1087, 34, 73), (0, 1, 1138, 38, 73), (1, 3, 1146, 0, 73), (1, 3, 1117, 0, 73), (0, 0, 1050, 29, 73), (0, 0, 1054, 30, 73), (0, 1, 1058, 31, 73), (0, 1, 1062, 32, 73), (0, 0, 1026, 23, 73), (0, 0, 1030, 24, 73), (0, 0, 1034, 25, 73), (0, 0, 1038, 26, 73), (0, 0, 1042, 27, 73), (0, 0, 1046, 28, 73), (0, 3, 1022, 22, 73), (0, 2, 1003, 1004, 73), (0, 1, 1017, 1018, 73), (0, 5, 1072, 33, 73), (0, 5, 1067, 1068, 73), (0, 0, 1078, 1079, 73), (0, 2, 1091, 35, 73), (0, 3, 1101, 37, 73), (0, 3, 1082, 1083, 73), (0, 3, 1104, 1105, 73), (1, 3, 1114, 0, 73), (0, 2, 1109, 1110, 73), (0, 1, 1120, 1121, 73), (0, 2, 1128, 1129, 73), (1, 1, 1153, 0, 73), (1, 1, 1156, 0, 73), (0, 2, 1150, 40, 73), (1, 2, 1159, 0, 73), (0, 3, 1143, 39, 73), (0, 2, 1133, 1134, 73), (1, 2, 1170, 0, 73), (0, 2, 1162, 1163, 73), (0, 1, 1167, 41, 73), (1, 5, 1181, 0, 73), (0, 1, 1178, 42, 73), (0, 2, 1173, 1174, 73), (0, 1, 1184, 1185, 73), (0, 2, 1202, 45, 73), (0, 1, 1198, 44, 73), (0, 2, 1194, 43, 73), (0, 1, 1188, 1189, 73), (0, 0, 1211, 46, 73), (0, 1, 1206, 1207, 73), (1, 1, 1219, 0, 73), (0, 1, 1224, 47, 73), (0, 3, 1215, 1216, 73), (0, 2, 1230, 1231, 73), (1, 2, 1238, 0, 73), (0, 3, 1234, 1235, 73), (0, 2, 1241, 1242, 73), (0, 4, 1250, 48, 73), (0, 2, 1097, 36, 73), (0, 3, 1245, 1246, 73), (0, 3, 1254, 1255, 73), (0, 1, 1263, 49, 73), (0, 1, 1258, 1259, 73), (0, 5, 1271, 50, 73), (0, 2, 1266, 1267, 73), (0, 0, 1274, 1275, 73), (0, 3, 1278, 1279, 73), (0, 0, 1282, 1283, 73), (0, 4, 1291, 51, 73), (0, 1, 1286, 1287, 73), (0, 3, 1300, 52, 73), (0, 3, 1294, 1295, 73), (0, 4, 1303, 1304, 73), (0, 1, 1307, 1308, 73), (0, 1, 1320, 54, 73), (1, 1, 1323, 0, 73), (0, 2, 1316, 53, 73), (0, 2, 1327, 55, 73), (0, 2, 1331, 56, 73), (0, 2, 1335, 57, 73), (0, 3, 1311, 1312, 73), (0, 1, 1338, 1339, 73), (1, 1, 1124, 0, 73), (0, 3, 1342, 1343, 73), (0, 3, 1346, 1347, 73), (0, 5, 1350, 1351, 73), (0, 0, 1354, 1355, 73), (0, 0, 1358, 1359, 73), (0, 1, 1362, 1363, 73), (0, 1, 1366, 1367, 73), (0, 0, 1375, 58, 73), (0, 1, 1370, 1371, 73), (0, 1, 1378, 1379, 73), (1, 1, 520, 0, 74), (1, 2, 136, 0, 65), (1, 2, 547, 0, 65), (1, 1, 0, 0, 0)]
/-- what a method makes at most: cells, slots -/
def mMc (k : Nat) : Nat × Nat := match k with
  | 0 => (6, 50)
  | 5 => (14, 350)
  | 8 => (3, 36)
  | 13 => (3, 103)
  | 24 => (1, 50)
  | 27 => (1, 40)
  | 31 => (2, 100)
  | 37 => (6, 60)
  | 47 => (1, 40)
  | 52 => (4, 36)
  | 67 => (12, 108)
  | 80 => (92, 1440)
  | 133 => (12, 1236)
  | 231 => (106, 2708)
  | _ => (0, 0)
/-- a method's class, by its number in mCl -/
def mcNl (k : Nat) : Nat := ([0, 0, 0, 0, 0, 1, 1, 1, 2, 2, 2, 2, 2, 3, 3, 3, 3, 3, 3, 3, 3, 3, 3, 3, 4, 4, 4, 5, 5, 5, 5, 6, 6, 6, 6, 6, 6, 7, 7, 7, 7, 7, 7, 7, 7, 7, 7, 8, 8, 8, 8, 8, 9, 9, 9, 9, 9, 9, 9, 9, 9, 9, 9, 9, 9, 9, 9, 10, 10, 10, 10, 10, 10, 10, 10, 10, 10, 10, 10, 10, 11, 11, 11, 11, 11, 11, 11, 11, 11, 11, 11, 11, 11, 11, 11, 11, 11, 11, 11, 11, 11, 11, 11, 11, 11, 11, 11, 11, 11, 11, 11, 11, 11, 11, 11, 11, 11, 11, 11, 11, 11, 11, 11, 11, 11, 11, 11, 11, 11, 11, 11, 11, 11, 12, 12, 12, 12, 12, 12, 12, 12, 12, 12, 12, 12, 12, 12, 12, 12, 12, 12, 12, 12, 12, 12, 12, 12, 12, 12, 12, 12, 12, 12, 12, 12, 12, 12, 12, 12, 12, 12, 12, 12, 12, 12, 12, 12, 12, 12, 12, 12, 12, 12, 12, 12, 12, 12, 12, 12, 12, 12, 12, 12, 12, 12, 12, 12, 12, 12, 12, 12, 12, 12, 12, 12, 12, 12, 12, 12, 12, 12, 12, 12, 12, 12, 12, 12, 12, 12, 12, 12, 12, 12, 12, 12, 12, 12, 12, 99, 99, 99, 99] : List Nat).getD k 99
end
section
/-! THE LAYER: a small pure machine (cells by numbers, ints in one table of rows) over which the methods' walks are said. -/
abbrev mE : Type := Nat × Nat × List (Option Nat)
abbrev mS : Type := List mE × Nat × (Nat → Nat → Int32)
abbrev mLoc : Type := List (Option Value)
abbrev mI : Type := Instr × Nat × Nat × Nat × Nat × List (Int32 × Nat)
abbrev mK6 : Type := Nat → mLoc → List Value → mS → Nat → Nat → Prop
def mnth {α : Type} : List α → Nat → Option α
  | [], _ => none
  | a :: _, 0 => some a
  | _ :: l, n + 1 => mnth l n
theorem mnth_eq {α : Type} : ∀ (l : List α) (n : Nat), mnth l n = l[n]?
  | [], n => by simp [mnth]
  | a :: l, 0 => by simp [mnth]
  | a :: l, n + 1 => by simp [mnth, mnth_eq l n]
theorem mnth_lt {α : Type} {l : List α} {n : Nat} {a : α} (h : mnth l n = some a) : n < l.length := by
  rw [mnth_eq] at h
  exact (List.getElem?_eq_some_iff.mp h).1
def mset : mLoc → Nat → Value → mLoc
  | [], _, _ => []
  | _ :: l, 0, v => some v :: l
  | a :: l, n + 1, v => a :: mset l n v
theorem mset_len : ∀ (l : mLoc) (n : Nat) (v : Value), (mset l n v).length = l.length
  | [], _, _ => rfl
  | _ :: l, 0, v => rfl
  | a :: l, n + 1, v => by simp [mset, mset_len l n v]
theorem mset_eq : ∀ (l : mLoc) (n : Nat) (v : Value), mset l n v = l.set n (some v)
  | [], _, _ => by simp [mset]
  | _ :: l, 0, v => by simp [mset]
  | a :: l, n + 1, v => by simp [mset, mset_eq l n v]
def mY (k : Nat) : MethodName := match mnth mM k with
  | some q => q.1
  | none => ⟨"", "", ""⟩
def mCd (k : Nat) : ByteArray := match mnth mM k with
  | some q => q.2.1
  | none => ByteArray.empty
def mNl (k : Nat) : Nat := match mnth mM k with
  | some q => q.2.2.1
  | none => 0
def mRt (k : Nat) : Option FieldType := match mnth mM k with
  | some q => q.2.2.2
  | none => none
def mKd (k : Nat) : Nat := match mnth mMr k with
  | some r => r.1
  | none => 9
def mNa (k : Nat) : Nat := match mnth mMr k with
  | some r => r.2.1
  | none => 0
def mkd (ci j : Nat) : Nat := match mnth mFk ci with
  | some l => (match mnth l j with
    | some x => x
    | none => 0)
  | none => 0
def mNf (ci : Nat) : Nat := match mnth mFk ci with
  | some l => l.length
  | none => 0
def mCq (ci : Nat) : vw_C := match mnth mCl ci with
  | some q => q
  | none => ("", TX0, 0)
def mka : Nat → Int32 := fun j => ([-1, 0, 0, 0, 1, 0, 2] : List Int32).getD j 0
def mbod : Nat → Int32 := fun j => ([10, 11, 12, 13, 0, 20, 0, 0, 30, 0, 0, 0, 0, 0, 40, 0, 0, 50, 0, 0, 0, 0, 0, 60, 70, 0, 0, 71] : List Int32).getD j 0
/-- rows of ints -/
def mrow (σ : Nat → Nat → Int32) (k : Nat) (f : Nat → Int32) : Nat → Nat → Int32 := fun a => if a = k then f else σ a
def mup (σ : Nat → Nat → Int32) (k j : Nat) (v : Int32) : Nat → Nat → Int32 := mrow σ k (upd (σ k) j v)
/-- where the pure cells lie: base, the three old arrays, class numbers, array classes, the script -/
abbrev mG : Type := Nat × (Nat → Nat) × va_G × (ClassId × ClassId × ClassId) × Nat × (Nat → Int32)
def mA (G : mG) : Nat → Prop := fun q => G.1 ≤ q
def mad (G : mG) (k : Nat) : Nat := if k < 1000000 then G.1 + k else G.2.1 (k - 1000000)
def mtr (G : mG) (v : Value) : Value := match v with
  | .ref k => .ref (mad G k)
  | .int x => .int x
  | .long x => .long x
  | .float x => .float x
  | .double x => .double x
  | .null => .null
  | .retAddr x => .retAddr x
def mrv (G : mG) (r : Option Nat) : Value := match r with
  | none => .null
  | some k => .ref (mad G k)
def mpv (r : Option Nat) : Value := match r with
  | none => .null
  | some k => .ref k
theorem mtr_pv (G : mG) (r : Option Nat) : mtr G (mpv r) = mrv G r := by cases r <;> rfl
theorem mtr_cat (G : mG) (v : Value) : (mtr G v).category = v.category := by cases v <;> rfl
def mFs (G : mG) (σ : Nat → Nat → Int32) (k ci : Nat) (rs : List (Option Nat)) : List Value := (List.range (mNf ci)).map fun j => if mkd ci j = 2 then mrv G (rs.getD j none) else .int (σ k j)
def mEn (G : mG) (σ : Nat → Nat → Int32) (k : Nat) (e : mE) : va_E := match e with
  | (0, ci, rs) => .inr (ci, mFs G σ k ci rs)
  | (1, n, _) => .inl (G.2.2.2.1.1, n, .inl (σ k))
  | (2, n, _) => .inl (G.2.2.2.1.2.1, n, .inl (σ k))
  | (_, n, rs) => .inl (G.2.2.2.1.2.2, n, .inr (.inr (.inr (.inr (fun j => (rs.getD j none).map (mad G))))))
def mWs (G : mG) (S : mS) : va_W := S.1.mapIdx (fun k e => (G.1 + k, mEn G S.2.2 k e))
theorem mWs_at (G : mG) (S : mS) (k : Nat) : (mWs G S)[k]? = (S.1[k]?).map (fun e => (G.1 + k, mEn G S.2.2 k e)) := by
  simp [mWs, List.getElem?_mapIdx]
theorem mWs_some {G : mG} {S : mS} {k : Nat} {e : mE} (h : mnth S.1 k = some e) : (mWs G S)[k]? = some (G.1 + k, mEn G S.2.2 k e) := by
  rw [mnth_eq] at h
  rw [mWs_at, h]; rfl
def mP (G : mG) (S : mS) (H : Heap) : Prop := S.1.length ≤ 1000 ∧ va_P G.2.2.1 mCl (mWs G S) H ∧ S.2.1 = G.2.2.2.2.1 ∧ S.2.2 1000000 = G.2.2.2.2.2 ∧ S.2.2 1000001 = mka ∧ S.2.2 1000002 = mbod
abbrev mTy (G : mG) : List (ClassId × FieldType) := [(G.2.2.2.1.1, .int), (G.2.2.2.1.2.1, .boolean), (G.2.2.2.1.2.2, .object RX5)]
def mKs (G : mG) (U : State) (H : Heap) : Prop := va_K G.2.2.1 mCl (mTy G) U ∧ va_T .int (G.2.1 0) G.2.2.2.2.1 (fun j => .int (G.2.2.2.2.2 j)) (mA G) U H ∧ va_T .int (G.2.1 1) 7 (fun j => .int (mka j)) (mA G) U H ∧ va_T .int (G.2.1 2) 28 (fun j => .int (mbod j)) (mA G) U H ∧ va_Z RX11 "KIND_ABOVE" "[I" (.ref (G.2.1 1)) (mA G) U H ∧ va_Z RX8 "BODIES" "[I" (.ref (G.2.1 2)) (mA G) U H ∧ va_AO RX5 U ∧ G.1 ≤ H.size
theorem mKs.moved {G : mG} {u U : State} {H : Heap} (hvm : u.vm.Alike U.vm) (h : mKs G u H) : mKs G U H := by
  obtain ⟨h1, h2, h3, h4, h5, h6, h8, h7⟩ := h
  exact ⟨va_K.moved hvm h1, h2.moved hvm, h3.moved hvm, h4.moved hvm, h5.moved hvm, h6.moved hvm, va_AO.moved hvm h8, h7⟩
theorem mKs.kept {G : mG} {U : State} {H H1 : Heap} {locs : List Loc} (h : mKs G U H) (hS : va_S (mA G) H H1 locs) : mKs G U H1 := by
  obtain ⟨h1, h2, h3, h4, h5, h6, h8, h7⟩ := h
  exact ⟨h1, h2.kept hS.2.1, h3.kept hS.2.1, h4.kept hS.2.1, h5.kept hS.2.1, h6.kept hS.2.1, h8, Nat.le_trans h7 hS.1⟩
theorem mWs_D (G : mG) (S : mS) : va_D (mA G) (mWs G S) := by
  refine ⟨fun i j p q hi hj hpq => ?_, fun k q hk => ?_⟩
  · rw [mWs_at] at hi hj
    cases h1 : S.1[i]? with
    | none => rw [h1] at hi; cases hi
    | some a =>
      cases h2 : S.1[j]? with
      | none => rw [h2] at hj; cases hj
      | some b =>
        rw [h1] at hi; rw [h2] at hj
        cases hi; cases hj
        exact Nat.add_left_cancel hpq
  · rw [mWs_at] at hk
    cases h1 : S.1[k]? with
    | none => rw [h1] at hk; cases hk
    | some a => rw [h1] at hk; cases hk; exact Nat.le_add_right _ _
theorem mad_lt {G : mG} {k : Nat} (h : k < 1000000) : mad G k = G.1 + k := by simp [mad, h]
/-- the words on nest mates: they aren't words of a contract, but of its start -/
def mIsN (c : Cond) : Bool := match c with
  | .methodLinkNest _ _ _ _ => true
  | .fieldLinkNest _ _ _ _ _ _ => true
  | _ => false
def mNst : List Cond := lw_tbl.filter mIsN
def mNk (U : State) : Prop := ∀ w ∈ mNst, va_Nw w U
theorem mNk.warm {s U : State} (hW : s.WarmedH U.vm) (h : mNk s) : mNk U := by
  intro w hw
  have h1 := h w hw
  have h2 := (List.mem_filter.mp hw).2
  cases w with
  | methodLinkNest a i x c => exact va_Nw.warmM hW h1
  | fieldLinkNest a i b n d c => exact va_Nw.warmF hW h1
  | _ => cases h2
theorem mNk.same {u U : State} (e : u.vm = U.vm) (h : mNk u) : mNk U := by
  intro w hw
  have h1 := h w hw
  have h2 := (List.mem_filter.mp hw).2
  cases w with
  | methodLinkNest a i x c => exact va_Nw.same rfl e h1
  | fieldLinkNest a i b n d c => exact va_Nw.same rfl e h1
  | _ => cases h2
/-- contracts -/
def mTb : List Cond := lw_tbl.filter goodWord
def mWd (k : Nat) : List Cond := .code (mY k) (mCd k) (mNl k) (mRt k) :: mTb
def mRm (d k : Nat) : Room := { frames := d, cells := (mMc k).1, slots := (mMc k).2, locals := 64 * d }
def mPc (G : mG) (vs : List Value) (S : mS) : Array Value → State → Prop := va_Pc (vs.map (mtr G)) (fun U => mP G S U.heap ∧ mKs G U U.heap ∧ U.heap.size = G.1 + S.1.length ∧ mNk U)
def mQc (G : mG) (r : Option Value) (S' : mS) : Array Value → State → Outcome → State → Prop := fun _ st o t => o = .returned (r.map (mtr G)) ∧ mP G S' t.heap ∧ va_F (mA G) st t ∧ t.heap.size = G.1 + S'.1.length
def mEv (d k : Nat) (vs : List Value) (S : mS) (r : Option Value) (S' : mS) : Prop := S'.1.length = S.1.length + (mMc k).1 ∧ ∀ (l : Launch) (G : mG), Met l (mY k) (mWd k) (mRm d k) (mPc G vs S) (mQc G r S') (mMc k).1 (mMc k).2 (mA G)
/-- the pure step -/
def mgI (pl : mLoc) (i : Nat) (k : Int32 → Prop) : Prop := match mnth pl i with
  | some (some (.int x)) => k x
  | _ => False
def mgR (pl : mLoc) (i : Nat) (k : Nat → Prop) : Prop := match mnth pl i with
  | some (some (.ref x)) => k x
  | _ => False
def mgL (pl : mLoc) (i : Nat) (k : Int64 → Prop) : Prop := match mnth pl i with
  | some (some (.long x)) => k x
  | _ => False
def mok1 (pl : mLoc) (i : Nat) : Bool := match i with
  | 0 => true
  | i + 1 => match mnth pl i with
    | some (some v) => v.category == 1
    | _ => true
def msto (pl : mLoc) (i : Nat) (v : Value) (k : mLoc → Prop) : Prop := match mnth pl i, mok1 pl i with
  | some _, true => k (mset pl i v)
  | _, _ => False
def ms1 (st : List Value) (k : Int32 → List Value → Prop) : Prop := match st with
  | .int x :: r => k x r
  | _ => False
def ms2 (st : List Value) (k : Int32 → Int32 → List Value → Prop) : Prop := match st with
  | .int y :: .int x :: r => k x y r
  | _ => False
def ms1L (st : List Value) (k : Int64 → List Value → Prop) : Prop := match st with
  | .long x :: r => k x r
  | _ => False
def ms2L (st : List Value) (k : Int64 → Int64 → List Value → Prop) : Prop := match st with
  | .long y :: .long x :: r => k x y r
  | _ => False
def msLI (st : List Value) (k : Int64 → Int32 → List Value → Prop) : Prop := match st with
  | .int y :: .long x :: r => k x y r
  | _ => False
def ms1R (st : List Value) (k : Nat → List Value → Prop) : Prop := match st with
  | .ref a :: r => k a r
  | _ => False
def msRI (st : List Value) (k : Nat → Int32 → List Value → Prop) : Prop := match st with
  | .int i :: .ref a :: r => k a i r
  | _ => False
def msRII (st : List Value) (k : Nat → Int32 → Int32 → List Value → Prop) : Prop := match st with
  | .int x :: .int i :: .ref a :: r => k a i x r
  | _ => False
def msRIR (st : List Value) (k : Nat → Int32 → Nat → List Value → Prop) : Prop := match st with
  | .ref v :: .int i :: .ref a :: r => k a i v r
  | _ => False
def msRp (st : List Value) (k : Nat → Int32 → List Value → Prop) : Prop := match st with
  | .int x :: .ref a :: r => k a x r
  | _ => False
def msRR (st : List Value) (k : Nat → Nat → List Value → Prop) : Prop := match st with
  | .ref v :: .ref a :: r => k a v r
  | _ => False
def msV (st : List Value) (k : Value → List Value → Prop) : Prop := match st with
  | v :: r => k v r
  | _ => False
def msVV (st : List Value) (k : Value → Value → List Value → Prop) : Prop := match st with
  | v :: w :: r => k v w r
  | _ => False
def msCp (st : List Value) (k : Nat → Int32 → Nat → Int32 → Int32 → List Value → Prop) : Prop := match st with
  | .int n :: .int dp :: .ref b :: .int sp :: .ref a :: r => k a sp b dp n r
  | _ => False
def mcz (c : ClassFile.Cond) (x : Int32) : Prop := match c with
  | .eq => x = 0
  | .ne => ¬ x = 0
  | .lt => x < 0
  | .ge => 0 ≤ x
  | .gt => 0 < x
  | .le => x ≤ 0
def mcc (c : ClassFile.Cond) (x y : Int32) : Prop := match c with
  | .eq => x = y
  | .ne => ¬ x = y
  | .lt => x < y
  | .ge => y ≤ x
  | .gt => y < x
  | .le => x ≤ y
def msw (J : Nat → Prop) (x : Int32) (dflt : Nat) : List (Int32 × Nat) → Prop
  | [] => J dflt
  | q :: ps => (x = q.1 → J q.2) ∧ (¬ x = q.1 → msw J x dflt ps)
/-- an object of a class: its references -/
def mob (S : mS) (a ci : Nat) (k : List (Option Nat) → Prop) : Prop := match mnth S.1 a with
  | some (0, c, rs) => (match Nat.beq c ci with
    | true => k rs
    | false => False)
  | _ => False
/-- an int array's length -/
def mal (S : mS) (a : Nat) : Option Nat := match mnth S.1 a with
  | some (1, n, _) => some n
  | some _ => none
  | none => match a with
    | 1000000 => some S.2.1
    | 1000001 => some 7
    | 1000002 => some 28
    | _ => none
def mai (S : mS) (a : Nat) (k : Nat → Prop) : Prop := match mal S a with
  | some n => k n
  | none => False
def maz (S : mS) (a : Nat) (k : Nat → Prop) : Prop := match mnth S.1 a with
  | some (2, n, _) => k n
  | _ => False
def maq (S : mS) (a : Nat) (k : Nat → List (Option Nat) → Prop) : Prop := match mnth S.1 a with
  | some (3, n, rs) => k n rs
  | _ => False
def mcut : Nat → List Value → List Value → (List Value → List Value → Prop) → Prop
  | 0, st, acc, k => k acc st
  | n + 1, v :: st, acc, k => mcut n st (v :: acc) k
  | _ + 1, [], _, _ => False
def mcats : List Value → Nat
  | [] => 0
  | v :: l => v.category + mcats l
def mcap (k cu su : Nat) : Bool := Nat.ble cu (mMc k).1 && Nat.ble su (mMc k).2
/-- the class of a method's own object -/
def mcN (k : Nat) : Nat := match mnth mMr k with
  | some _ => mcNl k
  | none => 99
/-- what may come back from a method that returns such a thing -/
def mres (t : Option FieldType) (v : Option Value) : Prop := match t, v with
  | none, none => True
  | some .int, some (.int _) => True
  | some .boolean, some (.int _) => True
  | some (.object _), some .null => True
  | some (.object _), some (.ref _) => True
  | _, _ => False
/-- what a method that returns such a thing may give back -/
def mrk (t : Option FieldType) (v : Int32) : Prop := match t with
  | some .int => True
  | some .boolean => v = 0 ∨ v = 1
  | _ => False
def mrq (t : Option FieldType) : Prop := match t with
  | some (.object _) => True
  | _ => False
end
section
def mgA (pl : mLoc) (i : Nat) (k : Value → Prop) : Prop := match mnth pl i with
  | some (some (.ref x)) => k (.ref x)
  | some (some .null) => k .null
  | _ => False
def ms1A (st : List Value) (k : Value → List Value → Prop) : Prop := match st with
  | .ref x :: r => k (.ref x) r
  | .null :: r => k .null r
  | _ => False
def mistat (d mid a : Nat) (pc : Nat) (pl : mLoc) (st : List Value) (S : mS) (cu su : Nat) (K : mK6) : Prop := match a with
  | 998 => msCp st fun a sp b dp n r => (Nat.ble (mcats r) 8 = true ∧ 1 ≤ d) ∧ (match mnth S.1 a, mnth S.1 b with
    | some (1, n0, _), some (1, n1, _) => (¬ sp < 0 ∧ ¬ dp < 0 ∧ ¬ n < 0 ∧ sp.toNatClampNeg + n.toNatClampNeg ≤ n0 ∧ dp.toNatClampNeg + n.toNatClampNeg ≤ n1) ∧ K (pc + 3) pl r (S.1, S.2.1, mrow S.2.2 b (va_cpy (S.2.2 a) (S.2.2 b) sp.toNatClampNeg dp.toNatClampNeg n.toNatClampNeg)) cu su
    | _, _ => False)
  | 997 => ms2 st fun x y r => (Nat.ble (mcats r) 8 = true ∧ mcap mid cu su = true ∧ 1 ≤ d) ∧ K (pc + 3) pl (.int (if y < x then y else x) :: r) S cu su
  | 996 => ms2 st fun x y r => (Nat.ble (mcats r) 8 = true ∧ mcap mid cu su = true ∧ 1 ≤ d) ∧ K (pc + 3) pl (.int (if x < y then y else x) :: r) S cu su
  | k => mcut (mNa k) st [] fun as r => (Nat.ble (mcats r) 8 = true ∧ mcap mid (cu + (mMc k).1) (su + (mMc k).2) = true) ∧ ∃ (d' : Nat) (v : Option Value) (S' : mS), d' + 1 ≤ d ∧ mEv d' k as S v S' ∧ K (pc + 3) pl (v.toList ++ r) S' (cu + (mMc k).1) (su + (mMc k).2)
def mispec (d mid a : Nat) (pc : Nat) (pl : mLoc) (st : List Value) (S : mS) (cu su : Nat) (K : mK6) : Prop := match a with
  | 999 => ms1R st fun _ r => (Nat.ble (mcats r) 8 = true ∧ 1 ≤ d) ∧ K (pc + 3) pl r S cu su
  | k => mcut (mNa k + 1) st [] fun as r => (match as with
    | .ref _ :: _ => (Nat.ble (mcats r) 8 = true ∧ mcap mid (cu + (mMc k).1) (su + (mMc k).2) = true) ∧ ∃ (d' : Nat) (S' : mS), d' + 1 ≤ d ∧ mEv d' k as S none S' ∧ K (pc + 3) pl r S' (cu + (mMc k).1) (su + (mMc k).2)
    | _ => False)
def mputf (ci j : Nat) (pc : Nat) (pl : mLoc) (st : List Value) (S : mS) (cu su : Nat) (K : mK6) : Prop := match mkd ci j with
  | 0 => msRp st fun a x r => mob S a ci fun _ => K (pc + 3) pl r (S.1, S.2.1, mup S.2.2 a j x) cu su
  | 1 => msRp st fun a x r => mob S a ci fun _ => (x = 0 ∨ x = 1) ∧ K (pc + 3) pl r (S.1, S.2.1, mup S.2.2 a j x) cu su
  | _ => msRR st fun a v r => mob S a ci fun rs => (match Nat.beq rs.length (mNf ci) with
    | true => K (pc + 3) pl r (S.1.set a (0, ci, rs.set j (some v)), S.2.1, S.2.2) cu su
    | false => False)
/-- one instruction of the pure machine: J where it jumps, K where it goes on, res what the method ends with -/
def mst (d mid : Nat) (res : Option Value × mS) (J : mK6) (I : mI) (pc : Nat) (pl : mLoc) (st : List Value) (S : mS) (cu su : Nat) (K : mK6) : Prop :=
  match I.1 with
  | .iconst _ => (match I.2.2.2.2.2 with
    | q :: _ => K (pc + 1) pl (.int q.1 :: st) S cu su
    | [] => False)
  | .bipush _ => (match I.2.2.2.2.2 with
    | q :: _ => K (pc + 2) pl (.int q.1 :: st) S cu su
    | [] => False)
  | .sipush _ => (match I.2.2.2.2.2 with
    | q :: _ => K (pc + 3) pl (.int q.1 :: st) S cu su
    | [] => False)
  | .lconst _ => (match I.2.2.2.2.2 with
    | q :: _ => K (pc + 1) pl (.long q.1.toInt64 :: st) S cu su
    | [] => False)
  | .aconst_null => K (pc + 1) pl (.null :: st) S cu su
  | .ldc _ => (match I.2.2.2.2.2 with
    | q :: _ => K (pc + 2) pl (.int q.1 :: st) S cu su
    | [] => False)
  | .ldc_w _ => (match I.2.2.2.2.2 with
    | q :: _ => K (pc + 3) pl (.int q.1 :: st) S cu su
    | [] => False)
  | .ldc2_w _ => (match I.2.2.2.2.2 with
    | q :: _ => K (pc + 3) pl (.long q.1.toInt64 :: st) S cu su
    | [] => K (pc + 3) pl (.long (Int64.ofNat I.2.2.1) :: st) S cu su)
  | .iload_n n => mgI pl n fun x => K (pc + 1) pl (.int x :: st) S cu su
  | .iload n => mgI pl n fun x => K (pc + 2) pl (.int x :: st) S cu su
  | .aload_n n => mgA pl n fun x => K (pc + 1) pl (x :: st) S cu su
  | .aload n => mgA pl n fun x => K (pc + 2) pl (x :: st) S cu su
  | .lload_n n => mgL pl n fun x => K (pc + 1) pl (.long x :: st) S cu su
  | .lload n => mgL pl n fun x => K (pc + 2) pl (.long x :: st) S cu su
  | .istore_n n => ms1 st fun x r => msto pl n (.int x) fun pl => K (pc + 1) pl r S cu su
  | .istore n => ms1 st fun x r => msto pl n (.int x) fun pl => K (pc + 2) pl r S cu su
  | .astore_n n => ms1A st fun x r => msto pl n x fun pl => K (pc + 1) pl r S cu su
  | .astore n => ms1A st fun x r => msto pl n x fun pl => K (pc + 2) pl r S cu su
  | .iinc n _ => (match I.2.2.2.2.2 with
    | q :: _ => mgI pl n fun x => msto pl n (.int (x + q.1)) fun pl => K (pc + 3) pl st S cu su
    | [] => False)
  | .iadd => ms2 st fun x y r => K (pc + 1) pl (.int (x + y) :: r) S cu su
  | .isub => ms2 st fun x y r => K (pc + 1) pl (.int (x - y) :: r) S cu su
  | .imul => ms2 st fun x y r => K (pc + 1) pl (.int (x * y) :: r) S cu su
  | .iand => ms2 st fun x y r => K (pc + 1) pl (.int (x &&& y) :: r) S cu su
  | .ior => ms2 st fun x y r => K (pc + 1) pl (.int (x ||| y) :: r) S cu su
  | .ixor => ms2 st fun x y r => K (pc + 1) pl (.int (x ^^^ y) :: r) S cu su
  | .ishl => ms2 st fun x y r => K (pc + 1) pl (.int (x <<< (y &&& 31)) :: r) S cu su
  | .ishr => ms2 st fun x y r => K (pc + 1) pl (.int (x >>> (y &&& 31)) :: r) S cu su
  | .iushr => ms2 st fun x y r => K (pc + 1) pl (.int ((x.toUInt32 >>> (y.toUInt32 &&& Int32.toUInt32 31)).toInt32) :: r) S cu su
  | .idiv => ms2 st fun x y r => ¬ y = 0 ∧ K (pc + 1) pl (.int (x / y) :: r) S cu su
  | .irem => ms2 st fun x y r => ¬ y = 0 ∧ K (pc + 1) pl (.int (x - x / y * y) :: r) S cu su
  | .ineg => ms1 st fun x r => K (pc + 1) pl (.int (-x) :: r) S cu su
  | .i2b => ms1 st fun x r => K (pc + 1) pl (.int (x.toInt8.toInt32) :: r) S cu su
  | .i2s => ms1 st fun x r => K (pc + 1) pl (.int (x.toInt16.toInt32) :: r) S cu su
  | .i2l => ms1 st fun x r => K (pc + 1) pl (.long x.toInt64 :: r) S cu su
  | .l2i => ms1L st fun x r => K (pc + 1) pl (.int x.toInt32 :: r) S cu su
  | .land => ms2L st fun x y r => K (pc + 1) pl (.long (x &&& y) :: r) S cu su
  | .lor => ms2L st fun x y r => K (pc + 1) pl (.long (x ||| y) :: r) S cu su
  | .lcmp => ms2L st fun x y r => K (pc + 1) pl (.int (lg_cmp x y) :: r) S cu su
  | .lshl => msLI st fun x y r => K (pc + 1) pl (.long (x <<< (y.toInt64 &&& 63)) :: r) S cu su
  | .lshr => msLI st fun x y r => K (pc + 1) pl (.long (x >>> (y.toInt64 &&& 63)) :: r) S cu su
  | .lushr => msLI st fun x y r => K (pc + 1) pl (.long ((x.toUInt64 >>> (y.toInt64.toUInt64 &&& Int64.toUInt64 63)).toInt64) :: r) S cu su
  | .goto _ => J I.2.2.1 pl st S cu su
  | .ifCond c _ => ms1 st fun x r => (mcz c x → J I.2.2.1 pl r S cu su) ∧ (¬ mcz c x → K (pc + 3) pl r S cu su)
  | .if_icmp c _ => ms2 st fun x y r => (mcc c x y → J I.2.2.1 pl r S cu su) ∧ (¬ mcc c x y → K (pc + 3) pl r S cu su)
  | .ifnull _ => (match st with
    | .null :: r => J I.2.2.1 pl r S cu su
    | .ref _ :: r => K (pc + 3) pl r S cu su
    | _ => False)
  | .ifnonnull _ => (match st with
    | .null :: r => K (pc + 3) pl r S cu su
    | .ref _ :: r => J I.2.2.1 pl r S cu su
    | _ => False)
  | .tableswitch _ _ _ _ => ms1 st fun x r => msw (fun t => J t pl r S cu su) x I.2.2.1 I.2.2.2.2.2
  | .lookupswitch _ _ => ms1 st fun x r => msw (fun t => J t pl r S cu su) x I.2.2.1 I.2.2.2.2.2
  | .dup => msV st fun v r => (match v.category with
    | 1 => K (pc + 1) pl (v :: v :: r) S cu su
    | _ => False)
  | .dup2 => msVV st fun v w r => (match v.category, w.category with
    | 1, 1 => K (pc + 1) pl (v :: w :: v :: w :: r) S cu su
    | _, _ => False)
  | .getfield _ => ms1R st fun a r => mob S a I.2.2.1 fun rs => (match mkd I.2.2.1 I.2.2.2.1 with
    | 2 => K (pc + 3) pl (mpv (rs.getD I.2.2.2.1 none) :: r) S cu su
    | _ => K (pc + 3) pl (.int (S.2.2 a I.2.2.2.1) :: r) S cu su)
  | .putfield _ => mputf I.2.2.1 I.2.2.2.1 pc pl st S cu su K
  | .getstatic _ => K (pc + 3) pl (.ref (1000000 + I.2.2.1) :: st) S cu su
  | .new _ => (mcap mid (cu + 1) (su + mNf I.2.2.1) = true ∧ Nat.ble (S.1.length + 1) 1000 = true) ∧ K (pc + 3) pl (.ref S.1.length :: st) (S.1 ++ [(0, I.2.2.1, List.replicate (mNf I.2.2.1) none)], S.2.1, mrow S.2.2 S.1.length (fun _ => 0)) (cu + 1) (su + mNf I.2.2.1)
  | .newarray t => ms1 st fun n r => (¬ n < 0 ∧ Nat.ble n.toNatClampNeg 1000000 = true ∧ mcap mid (cu + 1) (su + n.toNatClampNeg) = true ∧ Nat.ble (S.1.length + 1) 1000 = true) ∧ (match t with
    | .int => K (pc + 2) pl (.ref S.1.length :: r) (S.1 ++ [(1, n.toNatClampNeg, [])], S.2.1, mrow S.2.2 S.1.length (fun _ => 0)) (cu + 1) (su + n.toNatClampNeg)
    | .boolean => K (pc + 2) pl (.ref S.1.length :: r) (S.1 ++ [(2, n.toNatClampNeg, [])], S.2.1, mrow S.2.2 S.1.length (fun _ => 0)) (cu + 1) (su + n.toNatClampNeg)
    | _ => False)
  | .anewarray _ => ms1 st fun n r => (¬ n < 0 ∧ Nat.ble n.toNatClampNeg 1000000 = true ∧ mcap mid (cu + 1) (su + n.toNatClampNeg) = true ∧ Nat.ble (S.1.length + 1) 1000 = true) ∧ K (pc + 3) pl (.ref S.1.length :: r) (S.1 ++ [(3, n.toNatClampNeg, List.replicate n.toNatClampNeg none)], S.2.1, mrow S.2.2 S.1.length (fun _ => 0)) (cu + 1) (su + n.toNatClampNeg)
  | .arraylength => ms1R st fun a r => (match mnth S.1 a with
    | some (3, n, _) => K (pc + 1) pl (.int (Int32.ofNat n) :: r) S cu su
    | _ => mai S a fun n => K (pc + 1) pl (.int (Int32.ofNat n) :: r) S cu su)
  | .iaload => msRI st fun a i r => mai S a fun n => vp_in i n ∧ K (pc + 1) pl (.int (S.2.2 a i.toNatClampNeg) :: r) S cu su
  | .iastore => msRII st fun a i x r => (match mnth S.1 a with
    | some (1, n, _) => vp_in i n ∧ K (pc + 1) pl r (S.1, S.2.1, mup S.2.2 a i.toNatClampNeg x) cu su
    | _ => False)
  | .baload => msRI st fun a i r => maz S a fun n => vp_in i n ∧ K (pc + 1) pl (.int (S.2.2 a i.toNatClampNeg) :: r) S cu su
  | .bastore => msRII st fun a i x r => maz S a fun n => vp_in i n ∧ K (pc + 1) pl r (S.1, S.2.1, mup S.2.2 a i.toNatClampNeg (vp_nar .boolean x)) cu su
  | .aaload => msRI st fun a i r => maq S a fun n rs => vp_in i n ∧ K (pc + 1) pl (mpv (rs.getD i.toNatClampNeg none) :: r) S cu su
  | .aastore => msRIR st fun a i v r => maq S a fun n rs => mob S v 5 fun _ => vp_in i n ∧ (match Nat.beq rs.length n with
      | true => K (pc + 1) pl r (S.1.set a (3, n, rs.set i.toNatClampNeg (some v)), S.2.1, S.2.2) cu su
      | false => False)
  | .invokevirtual _ => mcut (mNa I.2.2.1 + 1) st [] fun as r => (match as with
    | .ref a :: _ => mob S a (mcN I.2.2.1) fun _ => (Nat.ble (mcats r) 8 = true ∧ mcap mid (cu + (mMc I.2.2.1).1) (su + (mMc I.2.2.1).2) = true) ∧ ∃ (d' : Nat) (v : Option Value) (S' : mS), d' + 1 ≤ d ∧ mEv d' I.2.2.1 as S v S' ∧ K (pc + 3) pl (v.toList ++ r) S' (cu + (mMc I.2.2.1).1) (su + (mMc I.2.2.1).2)
    | _ => False)
  | .invokestatic _ => mistat d mid I.2.2.1 pc pl st S cu su K
  | .invokespecial _ => mispec d mid I.2.2.1 pc pl st S cu su K
  | .ireturn => (match st with
    | [.int v] => mcap mid cu su = true ∧ mrk (mRt mid) v ∧ res = (some (.int v), S)
    | _ => False)
  | .return_ => (match st with
    | [] => mcap mid cu su = true ∧ mRt mid = none ∧ res = (none, S)
    | _ => False)
  | .areturn => (match st with
    | [.null] => mcap mid cu su = true ∧ mrq (mRt mid) ∧ res = (some .null, S)
    | [.ref a] => mcap mid cu su = true ∧ mrq (mRt mid) ∧ res = (some (.ref a), S)
    | _ => False)
  | _ => False
/-- a stretch of code -/
def mwp (d mid : Nat) (res : Option Value × mS) (J : mK6) : List mI → mK6
  | [] => J
  | I :: is => fun pc pl st S cu su => mst d mid res J I pc pl st S cu su (mwp d mid res J is)
end
section
/-! words: the tables' rows by their places, what a stretch of code must be -/
def mwd (w : Nat) (c : Cond) : Bool := decide (mnth lw_tbl w = some c) && goodWord c
theorem mwd_in {w : Nat} {c : Cond} (h : mwd w c = true) : c ∈ mTb := by
  simp only [mwd, Bool.and_eq_true, decide_eq_true_eq] at h
  rw [mnth_eq] at h
  exact List.mem_filter.mpr ⟨List.mem_of_getElem? h.1, h.2⟩
def mwn (w : Nat) (c : Cond) : Bool := decide (mnth lw_tbl w = some c) && mIsN c
theorem mwn_in {w : Nat} {c : Cond} (h : mwn w c = true) : c ∈ mNst := by
  simp only [mwn, Bool.and_eq_true, decide_eq_true_eq] at h
  rw [mnth_eq] at h
  exact List.mem_filter.mpr ⟨List.mem_of_getElem? h.1, h.2⟩
theorem mTb_good : GoodIn mTb mTb := fun w h => ⟨h, good_of_word (List.mem_filter.mp h).2⟩
theorem mWd_good {k : Nat} (h : Cond.code (mY k) (mCd k) (mNl k) (mRt k) ∈ mTb) : GoodIn mTb (mWd k) := by
  intro w hw
  rcases List.mem_cons.mp hw with e | e
  · subst e; exact mTb_good _ h
  · exact mTb_good _ e
def mTT (a b : Nat) : String × String × String × Bool := (mCq a).2.1 b
def mln (mid w x k : Nat) : Bool := mwd w (.methodLink (mY mid).cls x (mY k)) || mwn w (.methodLinkNest (mY mid).cls x (mY k) RX11)
def mswT (pc : Nat) (lo : Int) : List Int → Nat → List (Int32 × Nat) → Bool
  | [], _, [] => true
  | o :: os, k, q :: ps => decide (q.1.toInt = lo + k) && decide ((pc : Int) + o = q.2) && mswT pc lo os (k + 1) ps
  | _, _, _ => false
def mswL (pc : Nat) : List (Int × Int) → List (Int32 × Nat) → Bool
  | [], [] => true
  | o :: os, q :: ps => decide (q.1.toInt = o.1) && decide ((pc : Int) + o.2 = q.2) && mswL pc os ps
  | _, _ => false
def mExB (mid pc : Nat) (I : mI) : Bool := match I.1 with
  | .getfield x => mwd I.2.2.2.2.1 (.fieldLink (mY mid).cls x (mTT I.2.2.1 I.2.2.2.1).1 (mTT I.2.2.1 I.2.2.2.1).2.1 (mTT I.2.2.1 I.2.2.2.1).2.2.1) && Nat.blt I.2.2.1 13 && Nat.blt I.2.2.2.1 (mNf I.2.2.1)
  | .putfield x => mwd I.2.2.2.2.1 (.fieldLink (mY mid).cls x (mTT I.2.2.1 I.2.2.2.1).1 (mTT I.2.2.1 I.2.2.2.1).2.1 (mTT I.2.2.1 I.2.2.2.1).2.2.1) && Nat.blt I.2.2.1 13 && Nat.blt I.2.2.2.1 (mNf I.2.2.1) && ((mTT I.2.2.1 I.2.2.2.1).2.2.2 == false || ((mY mid).name == "<init>" && (mTT I.2.2.1 I.2.2.2.1).1 == (mY mid).cls))
  | .getstatic x => (match I.2.2.1 with
    | 1 => mwd I.2.2.2.2.1 (.fieldLink (mY mid).cls x RX11 "KIND_ABOVE" "[I") || mwn I.2.2.2.2.1 (.fieldLinkNest (mY mid).cls x RX11 "KIND_ABOVE" "[I" RX11)
    | 2 => mwd I.2.2.2.2.1 (.fieldLink (mY mid).cls x RX8 "BODIES" "[I")
    | _ => false)
  | .new x => mwd I.2.2.2.2.1 (.classLink (mY mid).cls x (mCq I.2.2.1).1) && Nat.blt I.2.2.1 13
  | .anewarray x => mwd I.2.2.2.2.1 (.classLink (mY mid).cls x RX5)
  | .ldc x => (match I.2.2.2.2.2 with
    | q :: _ => mwd I.2.2.2.2.1 (.constant (mY mid).cls x q.1)
    | [] => false)
  | .ldc_w x => (match I.2.2.2.2.2 with
    | q :: _ => mwd I.2.2.2.2.1 (.constant (mY mid).cls x q.1)
    | [] => false)
  | .ldc2_w x => (match I.2.2.2.2.2 with
    | q :: _ => mwd I.2.2.2.2.1 (.constantLong (mY mid).cls x q.1.toInt64)
    | [] => mwd I.2.2.2.2.1 (.constantLong (mY mid).cls x (Int64.ofNat I.2.2.1)))
  | .iconst n => (match I.2.2.2.2.2 with
    | q :: _ => decide (Int32.ofInt n = q.1)
    | [] => false)
  | .bipush n => (match I.2.2.2.2.2 with
    | q :: _ => decide ((Int8.ofInt n).toInt32 = q.1)
    | [] => false)
  | .sipush n => (match I.2.2.2.2.2 with
    | q :: _ => decide ((Int16.ofInt n).toInt32 = q.1)
    | [] => false)
  | .lconst n => (match I.2.2.2.2.2 with
    | q :: _ => decide (Int64.ofNat (n : Nat) = q.1.toInt64)
    | [] => false)
  | .iinc _ n => (match I.2.2.2.2.2 with
    | q :: _ => decide (Int32.ofInt n = q.1)
    | [] => false)
  | .goto o => decide ((pc : Int) + o = (I.2.2.1 : Int))
  | .ifCond _ o => decide ((pc : Int) + o = (I.2.2.1 : Int))
  | .if_icmp _ o => decide ((pc : Int) + o = (I.2.2.1 : Int))
  | .ifnull o => decide ((pc : Int) + o = (I.2.2.1 : Int))
  | .ifnonnull o => decide ((pc : Int) + o = (I.2.2.1 : Int))
  | .tableswitch df lo hi os => decide ((pc : Int) + df = (I.2.2.1 : Int)) && decide (lo + os.size = hi + 1) && mswT pc lo os.toList 0 I.2.2.2.2.2
  | .lookupswitch df ps => decide ((pc : Int) + df = (I.2.2.1 : Int)) && (ps.toList.zip (ps.toList.drop 1)).all (fun (a, next) => a.1 < next.1) && mswL pc ps.toList I.2.2.2.2.2
  | .invokevirtual x => mln mid I.2.2.2.2.1 x I.2.2.1 && Nat.blt I.2.2.1 229 && Nat.beq (mKd I.2.2.1) 0
  | .invokestatic x => (match I.2.2.1 with
    | 998 => mwd I.2.2.2.2.1 (.methodLink (mY mid).cls x arraycopyName)
    | 997 => mwd I.2.2.2.2.1 (.methodLink (mY mid).cls x Lib.Math.min.name)
    | 996 => mwd I.2.2.2.2.1 (.methodLink (mY mid).cls x Lib.Math.max.name)
    | k => mln mid I.2.2.2.2.1 x k && Nat.blt k 229 && Nat.beq (mKd k) 1)
  | .invokespecial x => (match I.2.2.1 with
    | 999 => mwd I.2.2.2.2.1 (.methodLink (mY mid).cls x objectInit)
    | k => mln mid I.2.2.2.2.1 x k && Nat.blt k 229 && Nat.beq (mKd k) 2)
  | _ => true
def mil (i : Instr) (n : Nat) : Nat := match i with
  | .bipush _ => 2
  | .iload _ => 2
  | .aload _ => 2
  | .lload _ => 2
  | .istore _ => 2
  | .astore _ => 2
  | .ldc _ => 2
  | .newarray _ => 2
  | .sipush _ => 3
  | .ldc_w _ => 3
  | .ldc2_w _ => 3
  | .iinc _ _ => 3
  | .goto _ => 3
  | .ifCond _ _ => 3
  | .if_icmp _ _ => 3
  | .ifnull _ => 3
  | .ifnonnull _ => 3
  | .getfield _ => 3
  | .putfield _ => 3
  | .getstatic _ => 3
  | .new _ => 3
  | .anewarray _ => 3
  | .invokevirtual _ => 3
  | .invokestatic _ => 3
  | .invokespecial _ => 3
  | .tableswitch _ _ _ _ => n
  | .lookupswitch _ _ => n
  | _ => 1
def mOkB (mid pc : Nat) (I : mI) : Bool := decide (decode (mCd mid) pc = .ok (I.1, mil I.1 I.2.1)) && Nat.beq I.2.1 (mil I.1 I.2.1) && mExB mid pc I
def mChk (mid : Nat) : Nat → List mI → Bool
  | _, [] => true
  | pc, I :: is => mOkB mid pc I && mChk mid (pc + I.2.1) is
/-- what is known of each method of the tables -/
def mMrB (k : Nat) : Bool := match mnth mM k, mnth mMr k with
  | some q, some r => plainName q.1.cls && !(q.1.cls == "java/lang/invoke/MethodHandle") && !(q.1.cls == "java/lang/invoke/VarHandle") && decide ((parseMethodDescriptor q.1.desc).map (fun d => d.parameters.length) = some r.2.1) && Nat.ble q.2.2.1 40 && mwd r.2.2.2.2 (.initialized q.1.cls) && (match r.1 with
    | 0 => mwd r.2.2.1 (.instanceMethod q.1) && mwd r.2.2.2.1 (.selects q.1.cls q.1 q.1) && decide ((mCq (mcNl k)).1 = q.1.cls) && Nat.blt (mcNl k) 13
    | 1 => mwd r.2.2.1 (.static q.1)
    | 2 => mwd r.2.2.1 (.instanceMethod q.1) && q.1.name == "<init>" && decide (q.2.2.2 = none)
    | _ => false)
  | _, _ => false
set_option maxRecDepth 100000 in
theorem mMr_ok : (List.range 229).all mMrB = true := by decide +kernel
set_option maxRecDepth 100000 in
theorem mM_code : (mM.take 229).map (fun q => Cond.code q.1 q.2.1 q.2.2.1 q.2.2.2) = ([294, 801, 812, 828, 824, 88, 895, 683, 94, 899, 775, 788, 807, 272, 594, 598, 602, 625, 629, 613, 606, 609, 621, 632, 133, 905, 582, 346, 870, 878, 887, 115, 636, 617, 537, 541, 545, 213, 701, 489, 476, 481, 500, 457, 517, 660, 926, 321, 842, 846, 849, 857, 184, 696, 426, 413, 430, 417, 438, 453, 793, 727, 746, 742, 750, 758, 767, 178, 692, 656, 664, 669, 533, 496, 528, 507, 511, 552, 556, 719, 80, 398, 422, 444, 449, 461, 469, 485, 560, 569, 574, 578, 587, 647, 652, 675, 679, 688, 706, 710, 715, 723, 734, 738, 754, 763, 771, 780, 784, 797, 820, 834, 838, 862, 866, 874, 883, 891, 910, 914, 918, 922, 930, 402, 465, 434, 472, 590, 492, 563, 405, 408, 639, 935, 1013, 1009, 1076, 1228, 1088, 1139, 1147, 1118, 1051, 1055, 1059, 1063, 1027, 1031, 1035, 1039, 1043, 1047, 1023, 1005, 1019, 1073, 1069, 1080, 1092, 1102, 1084, 1106, 1115, 1111, 1122, 1130, 1154, 1157, 1151, 1160, 1144, 1135, 1171, 1164, 1168, 1182, 1179, 1175, 1186, 1203, 1199, 1195, 1190, 1212, 1208, 1220, 1225, 1217, 1232, 1239, 1236, 1243, 1251, 1098, 1247, 1256, 1264, 1260, 1272, 1268, 1276, 1280, 1284, 1292, 1288, 1301, 1296, 1305, 1309, 1321, 1324, 1317, 1328, 1332, 1336, 1313, 1340, 1125, 1344, 1348, 1352, 1356, 1360, 1364, 1368, 1376, 1372, 1380, 521] : List Nat).filterMap (fun i => lw_tbl[i]?) := rfl
theorem mTb_mx1 : Cond.static Lib.Math.max.name ∈ mTb := mwd_in (w := 136) (by decide +kernel)
theorem mTb_mn1 : Cond.static Lib.Math.min.name ∈ mTb := mwd_in (w := 547) (by decide +kernel)
theorem mTb_mi : Cond.initialized "java/lang/Math" ∈ mTb := mwd_in (w := 65) (by decide +kernel)
set_option maxRecDepth 100000 in
theorem mTb_mx2 : Cond.code Lib.Math.max.name Lib.Math.max.code 2 (some .int) ∈ mTb := List.mem_filter.mpr ⟨List.mem_of_getElem? (i := 137) rfl, by decide +kernel⟩
set_option maxRecDepth 100000 in
theorem mTb_mn2 : Cond.code Lib.Math.min.name Lib.Math.min.code 2 (some .int) ∈ mTb := List.mem_filter.mpr ⟨List.mem_of_getElem? (i := 548) rfl, by decide +kernel⟩
theorem mTb_ac1 : Cond.static arraycopyName ∈ mTb := mwd_in (w := 642) (by decide +kernel)
theorem mTb_ac2 : Cond.native arraycopyName ∈ mTb := mwd_in (w := 643) (by decide +kernel)
theorem mTb_ac3 : Cond.initialized "java/lang/System" ∈ mTb := mwd_in (w := 75) (by decide +kernel)
theorem mTb_oi1 : Cond.instanceMethod objectInit ∈ mTb := mwd_in (w := 82) (by decide +kernel)
set_option maxRecDepth 100000 in
theorem mTb_oi2 : Cond.code objectInit ⟨#[0xb1]⟩ 1 none ∈ mTb := List.mem_filter.mpr ⟨List.mem_of_getElem? (i := 83) rfl, by decide +kernel⟩
theorem mTb_ai : Cond.arrayClass .int ∈ mTb := mwd_in (w := 110) (by decide +kernel)
theorem mTb_az : Cond.arrayClass .boolean ∈ mTb := mwd_in (w := 1001) (by decide +kernel)
theorem mTb_c0 : ∀ w ∈ u_ws RX0 TX0 5, w ∈ mTb := by
  have h : (u_ws RX0 TX0 5) = ([306, 308, 310, 312, 314] : List Nat).filterMap (fun i => lw_tbl[i]?) := by decide +kernel
  have g : (u_ws RX0 TX0 5).all goodWord = true := by decide +kernel
  intro w hw
  refine List.mem_filter.mpr ⟨?_, List.all_eq_true.mp g w hw⟩
  rw [h] at hw
  obtain ⟨i, -, hi⟩ := List.mem_filterMap.mp hw
  exact List.mem_of_getElem? hi
theorem mTb_n0 : Cond.instantiable RX0 5 ∈ mTb := mwd_in (w := 291) (by decide +kernel)
theorem mTb_i0 : Cond.initialized RX0 ∈ mTb := mwd_in (w := 70) (by decide +kernel)
theorem mTb_c1 : ∀ w ∈ u_ws RX1 TX1 6, w ∈ mTb := by
  have h : (u_ws RX1 TX1 6) = ([161, 163, 165, 167, 169, 171] : List Nat).filterMap (fun i => lw_tbl[i]?) := by decide +kernel
  have g : (u_ws RX1 TX1 6).all goodWord = true := by decide +kernel
  intro w hw
  refine List.mem_filter.mpr ⟨?_, List.all_eq_true.mp g w hw⟩
  rw [h] at hw
  obtain ⟨i, -, hi⟩ := List.mem_filterMap.mp hw
  exact List.mem_of_getElem? hi
theorem mTb_n1 : Cond.instantiable RX1 6 ∈ mTb := mwd_in (w := 85) (by decide +kernel)
theorem mTb_i1 : Cond.initialized RX1 ∈ mTb := mwd_in (w := 61) (by decide +kernel)
theorem mTb_c2 : ∀ w ∈ u_ws RX2 TX2 4, w ∈ mTb := by
  have h : (u_ws RX2 TX2 4) = ([101, 103, 105, 107] : List Nat).filterMap (fun i => lw_tbl[i]?) := by decide +kernel
  have g : (u_ws RX2 TX2 4).all goodWord = true := by decide +kernel
  intro w hw
  refine List.mem_filter.mpr ⟨?_, List.all_eq_true.mp g w hw⟩
  rw [h] at hw
  obtain ⟨i, -, hi⟩ := List.mem_filterMap.mp hw
  exact List.mem_of_getElem? hi
theorem mTb_n2 : Cond.instantiable RX2 4 ∈ mTb := mwd_in (w := 91) (by decide +kernel)
theorem mTb_i2 : Cond.initialized RX2 ∈ mTb := mwd_in (w := 62) (by decide +kernel)
theorem mTb_c3 : ∀ w ∈ u_ws RX3 TX3 4, w ∈ mTb := by
  have h : (u_ws RX3 TX3 4) = ([281, 283, 285, 287] : List Nat).filterMap (fun i => lw_tbl[i]?) := by decide +kernel
  have g : (u_ws RX3 TX3 4).all goodWord = true := by decide +kernel
  intro w hw
  refine List.mem_filter.mpr ⟨?_, List.all_eq_true.mp g w hw⟩
  rw [h] at hw
  obtain ⟨i, -, hi⟩ := List.mem_filterMap.mp hw
  exact List.mem_of_getElem? hi
theorem mTb_n3 : Cond.instantiable RX3 4 ∈ mTb := mwd_in (w := 269) (by decide +kernel)
theorem mTb_i3 : Cond.initialized RX3 ∈ mTb := mwd_in (w := 69) (by decide +kernel)
theorem mTb_c4 : ∀ w ∈ u_ws RX4 TX4 2, w ∈ mTb := by
  have h : (u_ws RX4 TX4 2) = ([144, 146] : List Nat).filterMap (fun i => lw_tbl[i]?) := by decide +kernel
  have g : (u_ws RX4 TX4 2).all goodWord = true := by decide +kernel
  intro w hw
  refine List.mem_filter.mpr ⟨?_, List.all_eq_true.mp g w hw⟩
  rw [h] at hw
  obtain ⟨i, -, hi⟩ := List.mem_filterMap.mp hw
  exact List.mem_of_getElem? hi
theorem mTb_n4 : Cond.instantiable RX4 2 ∈ mTb := mwd_in (w := 130) (by decide +kernel)
theorem mTb_i4 : Cond.initialized RX4 ∈ mTb := mwd_in (w := 64) (by decide +kernel)
theorem mTb_c5 : ∀ w ∈ u_ws RX5 TX5 3, w ∈ mTb := by
  have h : (u_ws RX5 TX5 3) = ([354, 356, 358] : List Nat).filterMap (fun i => lw_tbl[i]?) := by decide +kernel
  have g : (u_ws RX5 TX5 3).all goodWord = true := by decide +kernel
  intro w hw
  refine List.mem_filter.mpr ⟨?_, List.all_eq_true.mp g w hw⟩
  rw [h] at hw
  obtain ⟨i, -, hi⟩ := List.mem_filterMap.mp hw
  exact List.mem_of_getElem? hi
theorem mTb_n5 : Cond.instantiable RX5 3 ∈ mTb := mwd_in (w := 343) (by decide +kernel)
theorem mTb_i5 : Cond.initialized RX5 ∈ mTb := mwd_in (w := 72) (by decide +kernel)
theorem mTb_c6 : ∀ w ∈ u_ws RX6 TX6 3, w ∈ mTb := by
  have h : (u_ws RX6 TX6 3) = ([122, 124, 126] : List Nat).filterMap (fun i => lw_tbl[i]?) := by decide +kernel
  have g : (u_ws RX6 TX6 3).all goodWord = true := by decide +kernel
  intro w hw
  refine List.mem_filter.mpr ⟨?_, List.all_eq_true.mp g w hw⟩
  rw [h] at hw
  obtain ⟨i, -, hi⟩ := List.mem_filterMap.mp hw
  exact List.mem_of_getElem? hi
theorem mTb_n6 : Cond.instantiable RX6 3 ∈ mTb := mwd_in (w := 112) (by decide +kernel)
theorem mTb_i6 : Cond.initialized RX6 ∈ mTb := mwd_in (w := 63) (by decide +kernel)
theorem mTb_c7 : ∀ w ∈ u_ws RX7 TX7 7, w ∈ mTb := by
  have h : (u_ws RX7 TX7 7) = ([234, 236, 238, 240, 242, 244, 246] : List Nat).filterMap (fun i => lw_tbl[i]?) := by decide +kernel
  have g : (u_ws RX7 TX7 7).all goodWord = true := by decide +kernel
  intro w hw
  refine List.mem_filter.mpr ⟨?_, List.all_eq_true.mp g w hw⟩
  rw [h] at hw
  obtain ⟨i, -, hi⟩ := List.mem_filterMap.mp hw
  exact List.mem_of_getElem? hi
theorem mTb_n7 : Cond.instantiable RX7 7 ∈ mTb := mwd_in (w := 210) (by decide +kernel)
theorem mTb_i7 : Cond.initialized RX7 ∈ mTb := mwd_in (w := 68) (by decide +kernel)
theorem mTb_c8 : ∀ w ∈ u_ws RX8 TX8 5, w ∈ mTb := by
  have h : (u_ws RX8 TX8 5) = ([330, 332, 334, 336, 338] : List Nat).filterMap (fun i => lw_tbl[i]?) := by decide +kernel
  have g : (u_ws RX8 TX8 5).all goodWord = true := by decide +kernel
  intro w hw
  refine List.mem_filter.mpr ⟨?_, List.all_eq_true.mp g w hw⟩
  rw [h] at hw
  obtain ⟨i, -, hi⟩ := List.mem_filterMap.mp hw
  exact List.mem_of_getElem? hi
theorem mTb_n8 : Cond.instantiable RX8 5 ∈ mTb := mwd_in (w := 318) (by decide +kernel)
theorem mTb_i8 : Cond.initialized RX8 ∈ mTb := mwd_in (w := 71) (by decide +kernel)
theorem mTb_c9 : ∀ w ∈ u_ws RX9 TX9 5, w ∈ mTb := by
  have h : (u_ws RX9 TX9 5) = ([198, 200, 202, 204, 206] : List Nat).filterMap (fun i => lw_tbl[i]?) := by decide +kernel
  have g : (u_ws RX9 TX9 5).all goodWord = true := by decide +kernel
  intro w hw
  refine List.mem_filter.mpr ⟨?_, List.all_eq_true.mp g w hw⟩
  rw [h] at hw
  obtain ⟨i, -, hi⟩ := List.mem_filterMap.mp hw
  exact List.mem_of_getElem? hi
theorem mTb_n9 : Cond.instantiable RX9 5 ∈ mTb := mwd_in (w := 181) (by decide +kernel)
theorem mTb_i9 : Cond.initialized RX9 ∈ mTb := mwd_in (w := 67) (by decide +kernel)
theorem mTb_c10 : ∀ w ∈ u_ws RX10 TX10 5, w ∈ mTb := by
  have h : (u_ws RX10 TX10 5) = ([257, 259, 261, 263, 265] : List Nat).filterMap (fun i => lw_tbl[i]?) := by decide +kernel
  have g : (u_ws RX10 TX10 5).all goodWord = true := by decide +kernel
  intro w hw
  refine List.mem_filter.mpr ⟨?_, List.all_eq_true.mp g w hw⟩
  rw [h] at hw
  obtain ⟨i, -, hi⟩ := List.mem_filterMap.mp hw
  exact List.mem_of_getElem? hi
theorem mTb_n10 : Cond.instantiable RX10 5 ∈ mTb := mwd_in (w := 175) (by decide +kernel)
theorem mTb_i10 : Cond.initialized RX10 ∈ mTb := mwd_in (w := 66) (by decide +kernel)
theorem mTb_c11 : ∀ w ∈ u_ws RX11 TX11 11, w ∈ mTb := by
  have h : (u_ws RX11 TX11 11) = ([372, 374, 376, 378, 380, 382, 384, 386, 388, 390, 392] : List Nat).filterMap (fun i => lw_tbl[i]?) := by decide +kernel
  have g : (u_ws RX11 TX11 11).all goodWord = true := by decide +kernel
  intro w hw
  refine List.mem_filter.mpr ⟨?_, List.all_eq_true.mp g w hw⟩
  rw [h] at hw
  obtain ⟨i, -, hi⟩ := List.mem_filterMap.mp hw
  exact List.mem_of_getElem? hi
theorem mTb_n11 : Cond.instantiable RX11 11 ∈ mTb := mwd_in (w := 77) (by decide +kernel)
theorem mTb_i11 : Cond.initialized RX11 ∈ mTb := mwd_in (w := 60) (by decide +kernel)
theorem mTb_c12 : ∀ w ∈ u_ws RX12 TX12 21, w ∈ mTb := by
  have h : (u_ws RX12 TX12 21) = ([958, 960, 962, 964, 966, 968, 970, 972, 974, 976, 978, 980, 982, 984, 986, 988, 990, 992, 994, 996, 998] : List Nat).filterMap (fun i => lw_tbl[i]?) := by decide +kernel
  have g : (u_ws RX12 TX12 21).all goodWord = true := by decide +kernel
  intro w hw
  refine List.mem_filter.mpr ⟨?_, List.all_eq_true.mp g w hw⟩
  rw [h] at hw
  obtain ⟨i, -, hi⟩ := List.mem_filterMap.mp hw
  exact List.mem_of_getElem? hi
theorem mTb_n12 : Cond.instantiable RX12 21 ∈ mTb := mwd_in (w := 932) (by decide +kernel)
theorem mTb_i12 : Cond.initialized RX12 ∈ mTb := mwd_in (w := 73) (by decide +kernel)
end
section
/-! the pure step is the machine's -/
theorem mMr_at {k : Nat} (hk : k < 229) : ∃ (q : MethodName × ByteArray × Nat × Option FieldType) (r : Nat × Nat × Nat × Nat × Nat), mnth mM k = some q ∧ mnth mMr k = some r ∧ mMrB k = true := by
  have h := List.all_eq_true.mp mMr_ok k (List.mem_range.mpr hk)
  have h2 := h
  unfold mMrB at h
  cases h1 : mnth mM k with
  | none => rw [h1] at h; simp at h
  | some q =>
    cases h3 : mnth mMr k with
    | none => rw [h1, h3] at h; simp at h
    | some r => exact ⟨q, r, rfl, rfl, h2⟩
theorem mMr_code {k : Nat} (hk : k < 229) : Cond.code (mY k) (mCd k) (mNl k) (mRt k) ∈ mTb := by
  obtain ⟨q, r, h1, -, -⟩ := mMr_at hk
  have e : Cond.code (mY k) (mCd k) (mNl k) (mRt k) = Cond.code q.1 q.2.1 q.2.2.1 q.2.2.2 := by simp only [mY, mCd, mNl, mRt, h1]
  rw [e]
  have hm : Cond.code q.1 q.2.1 q.2.2.1 q.2.2.2 ∈ (mM.take 229).map (fun q => Cond.code q.1 q.2.1 q.2.2.1 q.2.2.2) := by
    refine List.mem_map.mpr ⟨q, ?_, rfl⟩
    rw [mnth_eq] at h1
    refine List.mem_of_getElem? (i := k) ?_
    rw [List.getElem?_take, if_pos hk]
    exact h1
  rw [mM_code] at hm
  obtain ⟨i, -, hi⟩ := List.mem_filterMap.mp hm
  exact List.mem_filter.mpr ⟨List.mem_of_getElem? hi, rfl⟩
/-- what each method's rows say -/
theorem mMr_say {k : Nat} (hk : k < 229) : plainName (mY k).cls = true ∧ ((mY k).cls ≠ "java/lang/invoke/MethodHandle" ∧ (mY k).cls ≠ "java/lang/invoke/VarHandle" ∧ (parseMethodDescriptor (mY k).desc).map (fun d => d.parameters.length) = some (mNa k)) ∧ mNl k ≤ 40 ∧ Cond.initialized (mY k).cls ∈ mTb ∧ (mKd k = 0 → Cond.instanceMethod (mY k) ∈ mTb ∧ Cond.selects (mY k).cls (mY k) (mY k) ∈ mTb ∧ (mCq (mcN k)).1 = (mY k).cls ∧ mcN k < 13) ∧ (mKd k = 1 → Cond.static (mY k) ∈ mTb) ∧ (mKd k = 2 → Cond.instanceMethod (mY k) ∈ mTb ∧ (mY k).name = "<init>" ∧ mRt k = none) := by
  obtain ⟨q, r, h1, h2, h⟩ := mMr_at hk
  have e1 : mY k = q.1 := by simp only [mY, h1]
  have e2 : mNl k = q.2.2.1 := by simp only [mNl, h1]
  have e3 : mNa k = r.2.1 := by simp only [mNa, h2]
  have e4 : mKd k = r.1 := by simp only [mKd, h2]
  have e5 : mcN k = mcNl k := by simp only [mcN, h2]
  have e6 : mRt k = q.2.2.2 := by simp only [mRt, h1]
  unfold mMrB at h
  rw [h1, h2] at h
  simp only [Bool.and_eq_true, Bool.not_eq_true', beq_eq_false_iff_ne, decide_eq_true_eq] at h
  obtain ⟨⟨⟨⟨⟨⟨p1, p2⟩, p3⟩, p4⟩, p5⟩, p6⟩, p7⟩ := h
  rw [e1, e2, e3, e4, e5, e6]
  refine ⟨p1, ⟨p2, p3, p4⟩, Nat.le_of_ble_eq_true p5, mwd_in p6, fun z => ?_, fun z => ?_, fun z => ?_⟩
  · rw [z] at p7
    simp only [Bool.and_eq_true, decide_eq_true_eq] at p7
    exact ⟨mwd_in p7.1.1.1, mwd_in p7.1.1.2, p7.1.2, by simpa [Nat.blt_eq] using p7.2⟩
  · rw [z] at p7
    exact mwd_in p7
  · rw [z] at p7
    simp only [Bool.and_eq_true, decide_eq_true_eq, beq_iff_eq] at p7
    exact ⟨mwd_in p7.1.1, p7.1.2, p7.2⟩
/-- what is known of each class -/
def mCf (ci : Nat) : Prop := ∃ ty : Nat → FieldType, (∀ w ∈ u_ws (mCq ci).1 (mCq ci).2.1 (mCq ci).2.2, w ∈ mTb) ∧ (∀ k, k < (mCq ci).2.2 → parseFieldDescriptor ((mCq ci).2.1 k).2.2.1 = some (ty k)) ∧ (∀ a, a < (mCq ci).2.2 → ∀ b, b < (mCq ci).2.2 → a ≠ b → ((mCq ci).2.1 a).2.1 ≠ ((mCq ci).2.1 b).2.1) ∧ Cond.instantiable (mCq ci).1 (mCq ci).2.2 ∈ mTb ∧ Cond.initialized (mCq ci).1 ∈ mTb ∧ mNf ci = (mCq ci).2.2 ∧ (∀ j, j < (mCq ci).2.2 → (mkd ci j = 0 ∧ ty j = .int) ∨ (mkd ci j = 1 ∧ ty j = .boolean) ∨ (mkd ci j = 2 ∧ ((∃ n, ty j = .object n) ∨ ∃ t, ty j = .array t))) ∧ mCl[ci]? = some (mCq ci)
def mkB (ci j : Nat) (t : FieldType) : Bool := match mkd ci j, t with
  | 0, .int => true
  | 1, .boolean => true
  | 2, .object _ => true
  | 2, .array _ => true
  | _, _ => false
theorem mkB_to {ci j : Nat} {t : FieldType} (h : mkB ci j t = true) : (mkd ci j = 0 ∧ t = .int) ∨ (mkd ci j = 1 ∧ t = .boolean) ∨ (mkd ci j = 2 ∧ ((∃ n, t = .object n) ∨ ∃ u, t = .array u)) := by
  unfold mkB at h
  split at h
  · exact Or.inl ⟨by assumption, rfl⟩
  · exact Or.inr (Or.inl ⟨by assumption, rfl⟩)
  · exact Or.inr (Or.inr ⟨by assumption, Or.inl ⟨_, rfl⟩⟩)
  · exact Or.inr (Or.inr ⟨by assumption, Or.inr ⟨_, rfl⟩⟩)
  · cases h
theorem mCf_0 : mCf 0 := ⟨tyX0, mTb_c0, tyX0_ok, nmX0, mTb_n0, mTb_i0, rfl, fun j hj => mkB_to ((show ∀ j, j < 5 → mkB 0 j (tyX0 j) = true by decide +kernel) j hj), rfl⟩
theorem mCf_1 : mCf 1 := ⟨tyX1, mTb_c1, tyX1_ok, nmX1, mTb_n1, mTb_i1, rfl, fun j hj => mkB_to ((show ∀ j, j < 6 → mkB 1 j (tyX1 j) = true by decide +kernel) j hj), rfl⟩
theorem mCf_2 : mCf 2 := ⟨tyX2, mTb_c2, tyX2_ok, nmX2, mTb_n2, mTb_i2, rfl, fun j hj => mkB_to ((show ∀ j, j < 4 → mkB 2 j (tyX2 j) = true by decide +kernel) j hj), rfl⟩
theorem mCf_3 : mCf 3 := ⟨tyX3, mTb_c3, tyX3_ok, nmX3, mTb_n3, mTb_i3, rfl, fun j hj => mkB_to ((show ∀ j, j < 4 → mkB 3 j (tyX3 j) = true by decide +kernel) j hj), rfl⟩
theorem mCf_4 : mCf 4 := ⟨tyX4, mTb_c4, tyX4_ok, nmX4, mTb_n4, mTb_i4, rfl, fun j hj => mkB_to ((show ∀ j, j < 2 → mkB 4 j (tyX4 j) = true by decide +kernel) j hj), rfl⟩
theorem mCf_5 : mCf 5 := ⟨tyX5, mTb_c5, tyX5_ok, nmX5, mTb_n5, mTb_i5, rfl, fun j hj => mkB_to ((show ∀ j, j < 3 → mkB 5 j (tyX5 j) = true by decide +kernel) j hj), rfl⟩
theorem mCf_6 : mCf 6 := ⟨tyX6, mTb_c6, tyX6_ok, nmX6, mTb_n6, mTb_i6, rfl, fun j hj => mkB_to ((show ∀ j, j < 3 → mkB 6 j (tyX6 j) = true by decide +kernel) j hj), rfl⟩
theorem mCf_7 : mCf 7 := ⟨tyX7, mTb_c7, tyX7_ok, nmX7, mTb_n7, mTb_i7, rfl, fun j hj => mkB_to ((show ∀ j, j < 7 → mkB 7 j (tyX7 j) = true by decide +kernel) j hj), rfl⟩
theorem mCf_8 : mCf 8 := ⟨tyX8, mTb_c8, tyX8_ok, nmX8, mTb_n8, mTb_i8, rfl, fun j hj => mkB_to ((show ∀ j, j < 5 → mkB 8 j (tyX8 j) = true by decide +kernel) j hj), rfl⟩
theorem mCf_9 : mCf 9 := ⟨tyX9, mTb_c9, tyX9_ok, nmX9, mTb_n9, mTb_i9, rfl, fun j hj => mkB_to ((show ∀ j, j < 5 → mkB 9 j (tyX9 j) = true by decide +kernel) j hj), rfl⟩
theorem mCf_10 : mCf 10 := ⟨tyX10, mTb_c10, tyX10_ok, nmX10, mTb_n10, mTb_i10, rfl, fun j hj => mkB_to ((show ∀ j, j < 5 → mkB 10 j (tyX10 j) = true by decide +kernel) j hj), rfl⟩
theorem mCf_11 : mCf 11 := ⟨tyX11, mTb_c11, tyX11_ok, nmX11, mTb_n11, mTb_i11, rfl, fun j hj => mkB_to ((show ∀ j, j < 11 → mkB 11 j (tyX11 j) = true by decide +kernel) j hj), rfl⟩
theorem mCf_12 : mCf 12 := ⟨tyX12, mTb_c12, tyX12_ok, nmX12, mTb_n12, mTb_i12, rfl, fun j hj => mkB_to ((show ∀ j, j < 21 → mkB 12 j (tyX12 j) = true by decide +kernel) j hj), rfl⟩
theorem mCf_all {ci : Nat} (h : ci < 13) : mCf ci := by
  match ci, h with
  | 0, _ => exact mCf_0
  | 1, _ => exact mCf_1
  | 2, _ => exact mCf_2
  | 3, _ => exact mCf_3
  | 4, _ => exact mCf_4
  | 5, _ => exact mCf_5
  | 6, _ => exact mCf_6
  | 7, _ => exact mCf_7
  | 8, _ => exact mCf_8
  | 9, _ => exact mCf_9
  | 10, _ => exact mCf_10
  | 11, _ => exact mCf_11
  | 12, _ => exact mCf_12
  | n + 13, h => omega
end
section
/-! where a walk stands, and the helpers of the step's rows -/
def mlv (G : mG) (ls : Array Slot) (n : Nat) (pl : mLoc) : Prop := pl.length = n ∧ ls.size = n ∧ lv_wf ls ∧ ∀ (i : Nat) (v : Value), mnth pl i = some (some v) → ls[i]? = some (.val (mtr G v))
def mll (G : mG) (pl : mLoc) : List (Nat × Value) := (List.range pl.length).filterMap (fun i => match mnth pl i with
  | some (some v) => some (i, mtr G v)
  | _ => none)
theorem mll_mem {G : mG} {pl : mLoc} {q : Nat × Value} : q ∈ mll G pl ↔ ∃ v, mnth pl q.1 = some (some v) ∧ q.2 = mtr G v := by
  constructor
  · intro h
    obtain ⟨i, -, hi⟩ := List.mem_filterMap.mp h
    split at hi
    · rename_i v hv
      cases hi
      exact ⟨v, hv, rfl⟩
    · cases hi
  · rintro ⟨v, h1, h2⟩
    refine List.mem_filterMap.mpr ⟨q.1, List.mem_range.mpr (mnth_lt h1), ?_⟩
    simp only [h1, ← h2]
theorem mlv.has {G : mG} {ls : Array Slot} {n : Nat} {pl : mLoc} (h : mlv G ls n pl) : lv_has ls n (mll G pl) := ⟨h.2.1, h.2.2.1, fun q hq => by
  obtain ⟨v, h1, h2⟩ := mll_mem.mp hq
  rw [h2]
  exact h.2.2.2 _ _ h1⟩
theorem mlv.of {G : mG} {ls' : Array Slot} {n : Nat} {pl : mLoc} {i : Nat} {v : Value} {x : Option Value} (hn : pl.length = n) (hi : mnth pl i = some x) (ho : mok1 pl i = true) (h : lv_has ls' n ((i, mtr G v) :: (mll G pl).filter (fun q => !(q.1 == i) && !(q.1 + 1 == i && q.2.category == 2)))) : mlv G ls' n (mset pl i v) := by
  refine ⟨by rw [mset_len]; exact hn, h.1, h.2.1, fun j w hj => ?_⟩
  rw [mset_eq, mnth_eq] at hj
  have hil := mnth_lt hi
  by_cases e : j = i
  · subst e
    rw [List.getElem?_set_self hil] at hj
    cases hj
    exact h.2.2 (j, mtr G v) List.mem_cons_self
  · rw [List.getElem?_set_ne (Ne.symm e)] at hj
    have hj' : mnth pl j = some (some w) := by rw [mnth_eq]; exact hj
    refine h.2.2 (j, mtr G w) (List.mem_cons_of_mem _ (List.mem_filter.mpr ⟨mll_mem.mpr ⟨w, hj', rfl⟩, ?_⟩))
    simp only [Bool.and_eq_true, Bool.not_eq_true', beq_eq_false_iff_ne, Bool.and_eq_false_iff]
    refine ⟨e, ?_⟩
    by_cases e2 : j + 1 = i
    · right
      subst e2
      simp only [mok1, hj', beq_iff_eq] at ho
      rw [mtr_cat, ho]
      decide
    · left
      exact e2
def mCx (d mid : Nat) (G : mG) (p : Program) (R : Room) (s : State) (m : MethodId) (args : Array Value) (meth : Method) (c : Code) : Prop :=
  p.tables.exec = Jvm.exec ∧ c.code = mCd mid ∧ c.maxLocals = mNl mid ∧ s.vm.findClass (mY mid).cls = some m.cls ∧ (∀ w ∈ mTb, w.before args s = true) ∧ mKs G s s.heap ∧ d ≤ R.frames ∧ 64 * d ≤ R.locals ∧ (mMc mid).1 ≤ R.cells ∧ (mMc mid).2 ≤ R.slots ∧ ((mY mid).name = "<init>" → meth.name = "<init>") ∧ meth.locks = false ∧ mNk s
def mGo (mid : Nat) (G : mG) (p : Program) (l : Launch) (e : Env) (R : Room) (s : State) (m : MethodId) (args : Array Value) (below : List Frame) (meth : Method) (c : Code) (Q : State → Prop) : mK6 := fun pc pl st S cu su => ∀ (H : Heap) (locs : List Loc) (ls : Array Slot), mP G S H → va_S (mA G) s.heap H locs → mlv G ls (mNl mid) pl → s.heap.size + cu = G.1 + S.1.length → W p l e R s m args below meth c H locs cu su Q (F0 m pc ls (st.map (mtr G)))
def mRi (mid pc : Nat) (v : Option Value) : Prop := (∃ x, v = some (.int x) ∧ mrk (mRt mid) x ∧ decode (mCd mid) pc = .ok (.ireturn, 1)) ∨ (v = none ∧ mRt mid = none ∧ decode (mCd mid) pc = .ok (.return_, 1)) ∨ (∃ x, v = some x ∧ (x = .null ∨ ∃ a, x = .ref a) ∧ mrq (mRt mid) ∧ decode (mCd mid) pc = .ok (.areturn, 1))
def mFin (mid : Nat) (G : mG) (p : Program) (l : Launch) (e : Env) (R : Room) (s : State) (m : MethodId) (args : Array Value) (below : List Frame) (meth : Method) (c : Code) (Q : State → Prop) (res : Option Value × mS) : Prop := ∀ (H : Heap) (locs : List Loc) (ls : Array Slot) (pc cu su : Nat), mP G res.2 H → va_S (mA G) s.heap H locs → H.size = G.1 + res.2.1.length → mcap mid cu su = true → mRi mid pc res.1 → W p l e R s m args below meth c H locs cu su Q (F0 m pc ls (res.1.toList.map (mtr G)))
theorem mW_size {p : Program} {l : Launch} {e : Env} {R : Room} {s : State} {m : MethodId} {args : Array Value} {below : List Frame} {meth : Method} {c : Code} {H : Heap} {locs : List Loc} {cells slots : Nat} {Q : State → Prop} {g : JFrame} (k : H.size ≤ s.heap.size + cells → W p l e R s m args below meth c H locs cells slots Q g) : W p l e R s m args below meth c H locs cells slots Q g := fun T hT X => k (by rw [← hT]; exact X.heapSize) T hT X
theorem mP_low {G : mG} {S : mS} {H : Heap} (hP : mP G S H) (hG : G.1 ≤ H.size) : G.1 + S.1.length ≤ H.size := by
  cases hn : S.1.length with
  | zero => omega
  | succ n =>
    have hl : n < S.1.length := by omega
    have h := hP.2.1 n _ (by rw [mWs_at, List.getElem?_eq_getElem hl]; rfl)
    have := h.lt
    simp only at this
    omega
theorem mP_eq {G : mG} {S : mS} {s : State} {H : Heap} {locs : List Loc} {cu : Nat} (hP : mP G S H) (hK : mKs G s s.heap) (hS : va_S (mA G) s.heap H locs) (hc : s.heap.size + cu = G.1 + S.1.length) (hz : H.size ≤ s.heap.size + cu) : H.size = G.1 + S.1.length := by
  have h1 := mP_low hP (Nat.le_trans hK.2.2.2.2.2.2.2 hS.1)
  omega
/-- a row of ints changes -/
theorem mEn_ne {G : mG} {σ : Nat → Nat → Int32} {k j : Nat} {f : Nat → Int32} {e : mE} (h : j ≠ k) : mEn G (mrow σ k f) j e = mEn G σ j e := by
  obtain ⟨a, b, c⟩ := e
  unfold mEn mFs mrow
  simp only [if_neg h]
theorem mWs_row {G : mG} {S : mS} {k : Nat} {f : Nat → Int32} {e : mE} (h : mnth S.1 k = some e) : mWs G (S.1, S.2.1, mrow S.2.2 k f) = (mWs G S).set k (G.1 + k, mEn G (mrow S.2.2 k f) k e) := by
  apply List.ext_getElem?
  intro j
  rw [mWs_at]
  by_cases hj : j = k
  · subst hj
    have hl : j < (mWs G S).length := by simp [mWs]; exact mnth_lt h
    rw [List.getElem?_set_self hl]
    rw [mnth_eq] at h
    simp only [h]; rfl
  · rw [List.getElem?_set_ne (Ne.symm hj), mWs_at]
    simp only
    cases S.1[j]? with
    | none => rfl
    | some x => simp only [Option.map_some, mEn_ne hj]
theorem mP_row {G : mG} {S : mS} {H H1 : Heap} {k : Nat} {f : Nat → Int32} {e : mE} (hP : mP G S H) (h : mnth S.1 k = some e) (h1 : va_P G.2.2.1 mCl ((mWs G S).set k (G.1 + k, mEn G (mrow S.2.2 k f) k e)) H1) : mP G (S.1, S.2.1, mrow S.2.2 k f) H1 := by
  have hl := mnth_lt h
  obtain ⟨a1, a2, a3, a4, a5, a6⟩ := hP
  have n0 : (1000000 : Nat) ≠ k := by omega
  have n1 : (1000001 : Nat) ≠ k := by omega
  have n2 : (1000002 : Nat) ≠ k := by omega
  refine ⟨a1, by rw [mWs_row h]; exact h1, a3, ?_, ?_, ?_⟩
  · show mrow S.2.2 k f 1000000 = _
    simp only [mrow, if_neg n0]; exact a4
  · show mrow S.2.2 k f 1000001 = _
    simp only [mrow, if_neg n1]; exact a5
  · show mrow S.2.2 k f 1000002 = _
    simp only [mrow, if_neg n2]; exact a6
/-- a cell's references change -/
theorem mWs_set {G : mG} {S : mS} {k : Nat} {e e' : mE} (h : mnth S.1 k = some e) : mWs G (S.1.set k e', S.2.1, S.2.2) = (mWs G S).set k (G.1 + k, mEn G S.2.2 k e') := by
  apply List.ext_getElem?
  intro j
  have hl := mnth_lt h
  rw [mWs_at]
  by_cases hj : j = k
  · subst hj
    have hl2 : j < (mWs G S).length := by simp [mWs]; exact hl
    rw [List.getElem?_set_self hl2]
    simp only [List.getElem?_set_self hl]; rfl
  · simp only [List.getElem?_set_ne (Ne.symm hj), mWs_at]
theorem mP_set {G : mG} {S : mS} {H H1 : Heap} {k : Nat} {e e' : mE} (hP : mP G S H) (h : mnth S.1 k = some e) (h1 : va_P G.2.2.1 mCl ((mWs G S).set k (G.1 + k, mEn G S.2.2 k e')) H1) : mP G (S.1.set k e', S.2.1, S.2.2) H1 := by
  obtain ⟨a1, a2, a3, a4, a5, a6⟩ := hP
  exact ⟨by simpa using a1, by rw [mWs_set h]; exact h1, a3, a4, a5, a6⟩
/-- a cell comes -/
theorem mP_push {G : mG} {S : mS} {H H1 : Heap} {e : mE} {f : Nat → Int32} (hP : mP G S H) (hn : S.1.length + 1 ≤ 1000) (ho : ∀ q, q < H.size → H1[q]? = H[q]?) (he : va_at G.2.2.1 mCl (G.1 + S.1.length, mEn G (mrow S.2.2 S.1.length f) S.1.length e) H1) : mP G (S.1 ++ [e], S.2.1, mrow S.2.2 S.1.length f) H1 := by
  obtain ⟨a1, a2, a3, a4, a5, a6⟩ := hP
  have n0 : (1000000 : Nat) ≠ S.1.length := by omega
  have n1 : (1000001 : Nat) ≠ S.1.length := by omega
  have n2 : (1000002 : Nat) ≠ S.1.length := by omega
  refine ⟨by simpa using hn, ?_, a3, ?_, ?_, ?_⟩
  · intro j q hq
    rw [mWs_at] at hq
    simp only at hq
    by_cases hj : j < S.1.length
    · rw [List.getElem?_append_left hj, List.getElem?_eq_getElem hj] at hq
      cases hq
      have hne : j ≠ S.1.length := by omega
      have h0 := a2 j _ (by rw [mWs_at, List.getElem?_eq_getElem hj]; rfl)
      show va_at _ _ (G.1 + j, mEn G (mrow S.2.2 S.1.length f) j S.1[j]) H1
      rw [mEn_ne hne]
      exact h0.kept (ho _ h0.lt)
    · rw [List.getElem?_append_right (by omega)] at hq
      by_cases hz : j = S.1.length
      · subst hz
        simp at hq
        subst hq
        exact he
      · have : ([e] : List mE)[j - S.1.length]? = none := by
          rw [List.getElem?_eq_none_iff]; simp; omega
        rw [this] at hq
        cases hq
  · show mrow _ _ f 1000000 = _
    simp only [mrow, if_neg n0]; exact a4
  · show mrow _ _ f 1000001 = _
    simp only [mrow, if_neg n1]; exact a5
  · show mrow _ _ f 1000002 = _
    simp only [mrow, if_neg n2]; exact a6
theorem va_S.grow {A : Nat → Prop} {H0 H H1 : Heap} {locs : List Loc} (h : va_S A H0 H locs) (z : H.size ≤ H1.size) (o : ∀ q, q < H.size → H1[q]? = H[q]?) : va_S A H0 H1 locs := ⟨Nat.le_trans h.1 z, fun q h1 h2 => (o q (Nat.lt_of_lt_of_le h1 h.1)).trans (h.2.1 q h1 h2), h.2.2⟩
theorem mFs_at {G : mG} {σ : Nat → Nat → Int32} {k ci j : Nat} {rs : List (Option Nat)} (h : j < mNf ci) : (mFs G σ k ci rs)[j]? = some (if mkd ci j = 2 then mrv G (rs.getD j none) else .int (σ k j)) := by
  simp [mFs, h]
theorem mFs_len {G : mG} {σ : Nat → Nat → Int32} {k ci : Nat} {rs : List (Option Nat)} : (mFs G σ k ci rs).length = mNf ci := by simp [mFs]
theorem mFs_int {G : mG} {σ : Nat → Nat → Int32} {k ci j : Nat} {rs : List (Option Nat)} {x : Int32} (h : j < mNf ci) (hk : mkd ci j ≠ 2) : mFs G (mup σ k j x) k ci rs = (mFs G σ k ci rs).set j (.int x) := by
  apply List.ext_getElem?
  intro i
  by_cases hi : i < mNf ci
  · rw [mFs_at hi]
    by_cases e : i = j
    · subst e
      rw [List.getElem?_set_self (by rw [mFs_len]; exact hi), if_neg hk]
      simp [mup, mrow, upd]
    · rw [List.getElem?_set_ne (Ne.symm e), mFs_at hi]
      simp [mup, mrow, upd, e]
  · rw [List.getElem?_eq_none (by rw [mFs_len]; omega), List.getElem?_eq_none (by rw [List.length_set, mFs_len]; omega)]
theorem mFs_ref {G : mG} {σ : Nat → Nat → Int32} {k ci j v : Nat} {rs : List (Option Nat)} (h : j < mNf ci) (hk : mkd ci j = 2) (hl : rs.length = mNf ci) : mFs G σ k ci (rs.set j (some v)) = (mFs G σ k ci rs).set j (.ref (mad G v)) := by
  apply List.ext_getElem?
  intro i
  by_cases hi : i < mNf ci
  · rw [mFs_at hi]
    by_cases e : i = j
    · subst e
      rw [List.getElem?_set_self (by rw [mFs_len]; exact hi), if_pos hk]
      simp [hl, hi, mrv]
    · rw [List.getElem?_set_ne (Ne.symm e), mFs_at hi]
      have e2 : j ≠ i := fun z => e z.symm
      simp [List.getD_eq_getElem?_getD, List.getElem?_set_ne e2]
  · rw [List.getElem?_eq_none (by rw [mFs_len]; omega), List.getElem?_eq_none (by rw [List.length_set, mFs_len]; omega)]
end
section
theorem mgI_inv {pl : mLoc} {i : Nat} {k : Int32 → Prop} (h : mgI pl i k) : ∃ x, mnth pl i = some (some (.int x)) ∧ k x := by
  unfold mgI at h
  split at h
  · exact ⟨_, by assumption, h⟩
  · exact h.elim
theorem mgR_inv {pl : mLoc} {i : Nat} {k : Nat → Prop} (h : mgR pl i k) : ∃ x, mnth pl i = some (some (.ref x)) ∧ k x := by
  unfold mgR at h
  split at h
  · exact ⟨_, by assumption, h⟩
  · exact h.elim
theorem mgL_inv {pl : mLoc} {i : Nat} {k : Int64 → Prop} (h : mgL pl i k) : ∃ x, mnth pl i = some (some (.long x)) ∧ k x := by
  unfold mgL at h
  split at h
  · exact ⟨_, by assumption, h⟩
  · exact h.elim
theorem msto_inv {pl : mLoc} {i : Nat} {v : Value} {k : mLoc → Prop} (h : msto pl i v k) : ∃ x, mnth pl i = some x ∧ mok1 pl i = true ∧ k (mset pl i v) := by
  unfold msto at h
  split at h
  · exact ⟨_, by assumption, by assumption, h⟩
  · exact h.elim
theorem ms1_inv {st : List Value} {k : Int32 → List Value → Prop} (h : ms1 st k) : ∃ x r, st = .int x :: r ∧ k x r := by
  unfold ms1 at h
  split at h
  · exact ⟨_, _, rfl, h⟩
  · exact h.elim
theorem ms2_inv {st : List Value} {k : Int32 → Int32 → List Value → Prop} (h : ms2 st k) : ∃ x y r, st = .int y :: .int x :: r ∧ k x y r := by
  unfold ms2 at h
  split at h
  · exact ⟨_, _, _, rfl, h⟩
  · exact h.elim
theorem ms1L_inv {st : List Value} {k : Int64 → List Value → Prop} (h : ms1L st k) : ∃ x r, st = .long x :: r ∧ k x r := by
  unfold ms1L at h
  split at h
  · exact ⟨_, _, rfl, h⟩
  · exact h.elim
theorem ms2L_inv {st : List Value} {k : Int64 → Int64 → List Value → Prop} (h : ms2L st k) : ∃ x y r, st = .long y :: .long x :: r ∧ k x y r := by
  unfold ms2L at h
  split at h
  · exact ⟨_, _, _, rfl, h⟩
  · exact h.elim
theorem msLI_inv {st : List Value} {k : Int64 → Int32 → List Value → Prop} (h : msLI st k) : ∃ x y r, st = .int y :: .long x :: r ∧ k x y r := by
  unfold msLI at h
  split at h
  · exact ⟨_, _, _, rfl, h⟩
  · exact h.elim
theorem ms1R_inv {st : List Value} {k : Nat → List Value → Prop} (h : ms1R st k) : ∃ x r, st = .ref x :: r ∧ k x r := by
  unfold ms1R at h
  split at h
  · exact ⟨_, _, rfl, h⟩
  · exact h.elim
theorem msRI_inv {st : List Value} {k : Nat → Int32 → List Value → Prop} (h : msRI st k) : ∃ a i r, st = .int i :: .ref a :: r ∧ k a i r := by
  unfold msRI at h
  split at h
  · exact ⟨_, _, _, rfl, h⟩
  · exact h.elim
theorem msRII_inv {st : List Value} {k : Nat → Int32 → Int32 → List Value → Prop} (h : msRII st k) : ∃ a i x r, st = .int x :: .int i :: .ref a :: r ∧ k a i x r := by
  unfold msRII at h
  split at h
  · exact ⟨_, _, _, _, rfl, h⟩
  · exact h.elim
theorem msRIR_inv {st : List Value} {k : Nat → Int32 → Nat → List Value → Prop} (h : msRIR st k) : ∃ a i v r, st = .ref v :: .int i :: .ref a :: r ∧ k a i v r := by
  unfold msRIR at h
  split at h
  · exact ⟨_, _, _, _, rfl, h⟩
  · exact h.elim
theorem msRp_inv {st : List Value} {k : Nat → Int32 → List Value → Prop} (h : msRp st k) : ∃ a x r, st = .int x :: .ref a :: r ∧ k a x r := by
  unfold msRp at h
  split at h
  · exact ⟨_, _, _, rfl, h⟩
  · exact h.elim
theorem msRR_inv {st : List Value} {k : Nat → Nat → List Value → Prop} (h : msRR st k) : ∃ a v r, st = .ref v :: .ref a :: r ∧ k a v r := by
  unfold msRR at h
  split at h
  · exact ⟨_, _, _, rfl, h⟩
  · exact h.elim
theorem msV_inv {st : List Value} {k : Value → List Value → Prop} (h : msV st k) : ∃ v r, st = v :: r ∧ k v r := by
  unfold msV at h
  split at h
  · exact ⟨_, _, rfl, h⟩
  · exact h.elim
theorem msVV_inv {st : List Value} {k : Value → Value → List Value → Prop} (h : msVV st k) : ∃ v w r, st = v :: w :: r ∧ k v w r := by
  unfold msVV at h
  split at h
  · exact ⟨_, _, _, rfl, h⟩
  · exact h.elim
theorem msCp_inv {st : List Value} {k : Nat → Int32 → Nat → Int32 → Int32 → List Value → Prop} (h : msCp st k) : ∃ a sp b dp n r, st = .int n :: .int dp :: .ref b :: .int sp :: .ref a :: r ∧ k a sp b dp n r := by
  unfold msCp at h
  split at h
  · exact ⟨_, _, _, _, _, _, rfl, h⟩
  · exact h.elim
theorem mob_inv {S : mS} {a ci : Nat} {k : List (Option Nat) → Prop} (h : mob S a ci k) : ∃ rs, mnth S.1 a = some (0, ci, rs) ∧ k rs := by
  unfold mob at h
  split at h
  · rename_i c rs h1
    split at h
    · rename_i h2
      have := Nat.eq_of_beq_eq_true h2
      subst this
      exact ⟨rs, h1, h⟩
    · exact h.elim
  · exact h.elim
theorem maz_inv {S : mS} {a : Nat} {k : Nat → Prop} (h : maz S a k) : ∃ n rs, mnth S.1 a = some (2, n, rs) ∧ k n := by
  unfold maz at h
  split at h
  · exact ⟨_, _, by assumption, h⟩
  · exact h.elim
theorem maq_inv {S : mS} {a : Nat} {k : Nat → List (Option Nat) → Prop} (h : maq S a k) : ∃ n rs, mnth S.1 a = some (3, n, rs) ∧ k n rs := by
  unfold maq at h
  split at h
  · exact ⟨_, _, by assumption, h⟩
  · exact h.elim
theorem mai_inv {S : mS} {a : Nat} {k : Nat → Prop} (h : mai S a k) : ∃ n, mal S a = some n ∧ k n := by
  unfold mai at h
  split at h
  · exact ⟨_, by assumption, h⟩
  · exact h.elim
theorem mal_inv {S : mS} {a n : Nat} (h : mal S a = some n) : (∃ rs, mnth S.1 a = some (1, n, rs)) ∨ (mnth S.1 a = none ∧ ((a = 1000000 ∧ n = S.2.1) ∨ (a = 1000001 ∧ n = 7) ∨ (a = 1000002 ∧ n = 28))) := by
  unfold mal at h
  split at h
  · rename_i h1
    cases h
    exact Or.inl ⟨_, h1⟩
  · cases h
  · rename_i h1
    refine Or.inr ⟨h1, ?_⟩
    split at h
    · cases h; exact Or.inl ⟨rfl, rfl⟩
    · cases h; exact Or.inr (Or.inl ⟨rfl, rfl⟩)
    · cases h; exact Or.inr (Or.inr ⟨rfl, rfl⟩)
    · cases h
theorem mcut_inv : ∀ {n : Nat} {st acc : List Value} {k : List Value → List Value → Prop}, mcut n st acc k → ∃ xs r, xs.length = n ∧ st = xs ++ r ∧ k (xs.reverse ++ acc) r
  | 0, st, acc, k, h => ⟨[], st, rfl, rfl, h⟩
  | n + 1, [], acc, k, h => h.elim
  | n + 1, v :: st, acc, k, h => by
    obtain ⟨xs, r, h1, h2, h3⟩ := mcut_inv (n := n) h
    exact ⟨v :: xs, r, by simp [h1], by simp [h2], by simpa using h3⟩
theorem mcats_eq (G : mG) (r : List Value) : ((r.map (mtr G)).map fun v => v.category).sum = mcats r := by
  induction r with
  | nil => rfl
  | cons v l ih => simp [mcats, mtr_cat, ih] at ih ⊢; exact ih
theorem mcap_inv {k cu su : Nat} (h : mcap k cu su = true) : cu ≤ (mMc k).1 ∧ su ≤ (mMc k).2 := by
  simp only [mcap, Bool.and_eq_true] at h
  exact ⟨Nat.le_of_ble_eq_true h.1, Nat.le_of_ble_eq_true h.2⟩
theorem mOk_inv {mid pc : Nat} {I : mI} (h : mOkB mid pc I = true) : decode (mCd mid) pc = .ok (I.1, mil I.1 I.2.1) ∧ mExB mid pc I = true := by
  simp only [mOkB, Bool.and_eq_true, decide_eq_true_eq] at h
  exact ⟨h.1.1, h.2⟩
theorem mnth_old {G : mG} {S : mS} {H : Heap} (hP : mP G S H) {a : Nat} {e : mE} (h : mnth S.1 a = some e) : mad G a = G.1 + a := mad_lt (by have := mnth_lt h; have := hP.1; omega)
theorem msw_in {J : Nat → Prop} {x : Int32} {df : Nat} : ∀ {ps : List (Int32 × Nat)}, msw J x df ps → (∃ q ∈ ps, x = q.1 ∧ J q.2 ∧ True) ∨ ((∀ q ∈ ps, ¬ x = q.1) ∧ J df)
  | [], h => Or.inr ⟨fun q hq => (by cases hq), h⟩
  | q :: ps, h => by
    by_cases e : x = q.1
    · exact Or.inl ⟨q, List.mem_cons_self, e, h.1 e, trivial⟩
    · rcases msw_in (h.2 e) with ⟨q', h1, h2⟩ | ⟨h1, h2⟩
      · exact Or.inl ⟨q', List.mem_cons_of_mem _ h1, h2⟩
      · refine Or.inr ⟨fun r hr => ?_, h2⟩
        rcases List.mem_cons.mp hr with z | z
        · subst z; exact e
        · exact h1 r z
theorem mswT_at {pc : Nat} {lo : Int} : ∀ {os : List Int} {k : Nat} {ps : List (Int32 × Nat)}, mswT pc lo os k ps = true → ps.length = os.length ∧ ∀ (q : Int32 × Nat), q ∈ ps → ∃ (j : Nat) (o : Int), os[j]? = some o ∧ q.1.toInt = lo + (k + j : Nat) ∧ (pc : Int) + o = q.2
  | [], k, [], _ => ⟨rfl, fun q hq => by cases hq⟩
  | [], k, q :: ps, h => by simp [mswT] at h
  | o :: os, k, [], h => by simp [mswT] at h
  | o :: os, k, q :: ps, h => by
    simp only [mswT, Bool.and_eq_true, decide_eq_true_eq] at h
    obtain ⟨⟨h1, h2⟩, h3⟩ := h
    obtain ⟨g1, g2⟩ := mswT_at h3
    refine ⟨by simp [g1], fun r hr => ?_⟩
    rcases List.mem_cons.mp hr with z | z
    · subst z; exact ⟨0, o, rfl, h1, h2⟩
    · obtain ⟨j, o', e1, e2, e3⟩ := g2 r z
      exact ⟨j + 1, o', by simpa using e1, by rw [e2]; congr 2; omega, e3⟩
theorem mswT_all {pc : Nat} {lo : Int} : ∀ {os : List Int} {k : Nat} {ps : List (Int32 × Nat)}, mswT pc lo os k ps = true → ∀ (j : Nat), j < os.length → ∃ q ∈ ps, q.1.toInt = lo + (k + j : Nat)
  | [], k, ps, _, j, hj => by simp at hj
  | o :: os, k, [], h, j, hj => by simp [mswT] at h
  | o :: os, k, q :: ps, h, j, hj => by
    simp only [mswT, Bool.and_eq_true, decide_eq_true_eq] at h
    obtain ⟨⟨h1, h2⟩, h3⟩ := h
    cases j with
    | zero => exact ⟨q, List.mem_cons_self, h1⟩
    | succ j =>
      obtain ⟨r, e1, e2⟩ := mswT_all h3 j (by simpa using hj)
      exact ⟨r, List.mem_cons_of_mem _ e1, by rw [e2]; congr 2; omega⟩
theorem mswL_off {pc : Nat} {df : Int} {x : Int32} : ∀ {os : List (Int × Int)} {ps : List (Int32 × Nat)}, mswL pc os ps = true → ∀ (J : Nat → Prop) (dt : Nat), (pc : Int) + df = dt → msw J x dt ps → ∃ t : Nat, (pc : Int) + Op.lookupswitch.offset os df x.toInt = t ∧ J t
  | [], [], h, J, dt, hd, hs => ⟨dt, by simpa [Op.lookupswitch.offset] using hd, hs⟩
  | [], q :: ps, h, J, dt, hd, hs => by simp [mswL] at h
  | o :: os, [], h, J, dt, hd, hs => by simp [mswL] at h
  | o :: os, q :: ps, h, J, dt, hd, hs => by
    simp only [mswL, Bool.and_eq_true, decide_eq_true_eq] at h
    obtain ⟨⟨h1, h2⟩, h3⟩ := h
    by_cases e : x = q.1
    · refine ⟨q.2, ?_, hs.1 e⟩
      subst e
      simp [Op.lookupswitch.offset, h1, h2]
    · obtain ⟨t, e1, e2⟩ := mswL_off h3 J dt hd (hs.2 e)
      refine ⟨t, ?_, e2⟩
      have hne : ¬ o.1 = x.toInt := fun z => e (by rw [← h1] at z; exact (Int32.toInt_inj.mp z).symm)
      have hne2 : ¬ x.toInt = o.1 := fun z => hne z.symm
      rw [← e1]
      simp [Op.lookupswitch.offset, List.find?, hne, hne2]
theorem mgA_inv {pl : mLoc} {i : Nat} {k : Value → Prop} (h : mgA pl i k) : (∃ x, mnth pl i = some (some (.ref x)) ∧ k (.ref x)) ∨ (mnth pl i = some (some .null) ∧ k .null) := by
  unfold mgA at h
  split at h
  · exact Or.inl ⟨_, by assumption, h⟩
  · exact Or.inr ⟨by assumption, h⟩
  · exact h.elim
theorem ms1A_inv {st : List Value} {k : Value → List Value → Prop} (h : ms1A st k) : (∃ x r, st = .ref x :: r ∧ k (.ref x) r) ∨ (∃ r, st = .null :: r ∧ k .null r) := by
  unfold ms1A at h
  split at h
  · exact Or.inl ⟨_, _, rfl, h⟩
  · exact Or.inr ⟨_, rfl, h⟩
  · exact h.elim
end
section
section MS
variable {d mid : Nat} {G : mG} {p : Program} {l : Launch} {e : Env} {R : Room} {s : State} {m : MethodId} {args : Array Value} {below : List Frame} {meth : Method} {c : Code} {Q : State → Prop} {res : Option Value × mS} {J K : mK6} {pc : Nat} {pl : mLoc} {st : List Value} {S : mS} {cu su : Nat} {H : Heap} {locs : List Loc} {ls : Array Slot}
/-- behind a call -/
theorem m_call {v : Option Value} {S' : mS} {a : Array Value} {st0 rest : List Value} {mc ms : Nat} (hr : va_Run p l e R s m args below meth c H locs cu su mc ms (F0 m pc ls st0) rest (mQc G v S' a) (mA G)) (hS : va_S (mA G) s.heap H locs)
    (kk : ∀ (H1 : Heap) (locs1 : List Loc), mP G S' H1 → va_S (mA G) s.heap H1 locs1 → W p l e R s m args below meth c H1 locs1 (cu + mc) (su + ms) Q (F0 m (pc + 3) ls ((v.map (mtr G)).toList ++ rest))) : W p l e R s m args below meth c H locs cu su Q (F0 m pc ls st0) := by
  intro T hT X
  obtain ⟨v', st₀, t, T', L, h0, X', hL, e1, e2, ⟨hv, hp, ⟨hz, hk⟩, -⟩, stp⟩ := hr T hT X
  cases hv
  rw [h0] at hz hk
  obtain ⟨t2, a1, b1⟩ := kk T'.heap (locs ++ L) (by rw [e1]; exact hp)
    ⟨Nat.le_trans hS.1 (by rw [e1]; exact hz), fun q h1 h2 => by rw [e1, hk q (Nat.lt_of_lt_of_le h1 hS.1) h2]; exact hS.2.1 q h1 h2, fun q hq => by
      rcases List.mem_append.mp hq with h | h
      · exact hS.2.2 q h
      · exact hL q h⟩ T' rfl X'
  exact ⟨t2, stp t2 a1, b1⟩
theorem m_blind {vs : List Value} : FrameBlind (mPc G vs S) := fun a U g mk q => by
  obtain ⟨q0, q1, q2, q3, q4⟩ := q
  exact ⟨q0, q1, mKs.moved (u := U) (U := U.calling g mk a) (Vm.Alike.refl U.vm) q2, q3, mNk.same (u := U) (U := U.calling g mk a) rfl q4⟩
theorem m_pre {vs : List Value} (hP : mP G S H) (hK : mKs G s s.heap) (hS : va_S (mA G) s.heap H locs) (hz : H.size = G.1 + S.1.length) (hnk : mNk s) : ∀ U : State, U.heap = H → s.WarmedH U.vm → mPc G vs S (vs.map (mtr G)).toArray U := by
  intro U hU hW
  subst hU
  exact ⟨rfl, hP, (hK.kept hS).moved hW.alike, hz, hnk.warm hW⟩
theorem m_room {d' k : Nat} (hk : k < 229) (h : d' + 1 ≤ d) (h1 : d ≤ R.frames) (h2 : 64 * d ≤ R.locals) : (mRm d' k).frames + 1 ≤ R.frames ∧ 8 + (mNl k + 11) + (mRm d' k).locals ≤ R.locals := by
  have := (mMr_say hk).2.2.1
  refine ⟨Nat.le_trans h h1, ?_⟩
  show 8 + (mNl k + 11) + 64 * d' ≤ R.locals
  omega
/-- a call of a method of an object -/
theorem m_virt {d' k x w a : Nat} {As r : List Value} {v : Option Value} {S' : mS} (C : mCx d mid G p R s m args meth c) (hP : mP G S H) (hS : va_S (mA G) s.heap H locs) (hl : mlv G ls (mNl mid) pl) (hz : H.size = G.1 + S.1.length) (hd : decode (mCd mid) pc = .ok (.invokevirtual x, 3)) (hln : mln mid w x k = true) (hk : k < 229) (hkd : mKd k = 0) (hlen : As.length = mNa k) {rs : List (Option Nat)} (ho : mnth S.1 a = some (0, mcN k, rs)) (hc : Nat.ble (mcats r) 8 = true) (hcap : mcap mid (cu + (mMc k).1) (su + (mMc k).2) = true) (hdd : d' + 1 ≤ d) (hE : mEv d' k (.ref a :: As) S v S')
    (kk : ∀ (H1 : Heap) (locs1 : List Loc), mP G S' H1 → va_S (mA G) s.heap H1 locs1 → W p l e R s m args below meth c H1 locs1 (cu + (mMc k).1) (su + (mMc k).2) Q (F0 m (pc + 3) ls ((v.map (mtr G)).toList ++ r.map (mtr G)))) : W p l e R s m args below meth c H locs cu su Q (F0 m pc ls ((As.map (mtr G)).reverse ++ .ref (mad G a) :: r.map (mtr G))) := by
  obtain ⟨hx, hb, hml, hown, hts, hKs, hd1, hd2, hc1, hc2, hin, hlk, hnk⟩ := C
  obtain ⟨s1, s2, s3, s4, s5, s6, s7⟩ := mMr_say hk
  obtain ⟨t1, t2, t3, t4⟩ := s5 hkd
  obtain ⟨p1, p2⟩ := mcap_inv hcap
  have hroom := m_room (R := R) hk hdd hd1 hd2
  have hM := hE.2 l G
  have hrecv : ∃ cellB : Cell, H[mad G a]? = some cellB ∧ cellB.vm.isStatics = false ∧ s.vm.findClass (mY k).cls = some cellB.cls := by
    have hcl := (mCf_all t4)
    obtain ⟨ty, -, -, -, -, -, -, -, hcl⟩ := hcl
    have := va_recv hKs.1 hP.2.1 hcl (q0 := a) (mWs_some ho)
    rw [t3] at this
    rw [mnth_old hP ho]
    exact this
  have hpre : PreV s H (mY k).cls (mad G a) (mPc G (.ref a :: As) S) (As.map (mtr G)) := ⟨m_blind, hrecv, m_pre hP hKs hS hz hnk⟩
  have hfit : cu + (mMc k).1 ≤ R.cells ∧ su + (mMc k).2 ≤ R.slots := ⟨Nat.le_trans p1 hc1, Nat.le_trans p2 hc2⟩
  have hcat : 2 * (F0 m pc ls ((As.map (mtr G)).reverse ++ .ref (mad G a) :: r.map (mtr G))).monitorRoom + ((r.map (mtr G)).map fun v => v.category).sum ≤ 8 := by
    rw [mcats_eq]
    show 2 * 0 + _ ≤ 8
    have := Nat.le_of_ble_eq_true hc
    omega
  simp only [mln, Bool.or_eq_true] at hln
  rcases hln with hln | hln
  · exact m_call (va_runV (As := As.map (mtr G)) (rest := r.map (mtr G)) ⟨hx, hb, hml, hown, hts⟩ hM ⟨callB_of (mNa k) hts (mWd_good (mMr_code hk)) rfl rfl rfl (hts _ s4) (hts _ (mwd_in hln)) s2 hroom, hts _ t1, hts _ t2⟩ hpre rfl (by simp [hlen]) hl.2.1 rfl hcat hd hfit) hS kk
  · exact m_call (va_runVN (As := As.map (mtr G)) (rest := r.map (mtr G)) ⟨hx, hb, hml, hown, hts⟩ hM ⟨va_cnB (mNa k) hts (mWd_good (mMr_code hk)) rfl rfl rfl (hnk _ (mwn_in hln)) (hts _ s4) s2 hroom, hts _ t1, hts _ t2⟩ hpre rfl (by simp [hlen]) hl.2.1 rfl hcat hd hfit) hS kk
/-- a call of a static method -/
theorem m_stat {d' k x w : Nat} {As r : List Value} {v : Option Value} {S' : mS} (C : mCx d mid G p R s m args meth c) (hP : mP G S H) (hS : va_S (mA G) s.heap H locs) (hl : mlv G ls (mNl mid) pl) (hz : H.size = G.1 + S.1.length) (hd : decode (mCd mid) pc = .ok (.invokestatic x, 3)) (hln : mln mid w x k = true) (hk : k < 229) (hkd : mKd k = 1) (hlen : As.length = mNa k) (hc : Nat.ble (mcats r) 8 = true) (hcap : mcap mid (cu + (mMc k).1) (su + (mMc k).2) = true) (hdd : d' + 1 ≤ d) (hE : mEv d' k As S v S')
    (kk : ∀ (H1 : Heap) (locs1 : List Loc), mP G S' H1 → va_S (mA G) s.heap H1 locs1 → W p l e R s m args below meth c H1 locs1 (cu + (mMc k).1) (su + (mMc k).2) Q (F0 m (pc + 3) ls ((v.map (mtr G)).toList ++ r.map (mtr G)))) : W p l e R s m args below meth c H locs cu su Q (F0 m pc ls ((As.map (mtr G)).reverse ++ r.map (mtr G))) := by
  obtain ⟨hx, hb, hml, hown, hts, hKs, hd1, hd2, hc1, hc2, hin, hlk, hnk⟩ := C
  obtain ⟨s1, s2, s3, s4, s5, s6, s7⟩ := mMr_say hk
  have t1 := s6 hkd
  obtain ⟨p1, p2⟩ := mcap_inv hcap
  have hroom := m_room (R := R) hk hdd hd1 hd2
  have hM := hE.2 l G
  have hpre : PreS s H (mPc G As S) (As.map (mtr G)) := ⟨m_blind, m_pre hP hKs hS hz hnk⟩
  have hfit : cu + (mMc k).1 ≤ R.cells ∧ su + (mMc k).2 ≤ R.slots := ⟨Nat.le_trans p1 hc1, Nat.le_trans p2 hc2⟩
  have hcat : 2 * (F0 m pc ls ((As.map (mtr G)).reverse ++ r.map (mtr G))).monitorRoom + ((r.map (mtr G)).map fun v => v.category).sum ≤ 8 := by
    rw [mcats_eq]
    show 2 * 0 + _ ≤ 8
    have := Nat.le_of_ble_eq_true hc
    omega
  simp only [mln, Bool.or_eq_true] at hln
  rcases hln with hln | hln
  · exact m_call (va_runS (As := As.map (mtr G)) (rest := r.map (mtr G)) ⟨hx, hb, hml, hown, hts⟩ hM ⟨callB_of (mNa k) hts (mWd_good (mMr_code hk)) rfl rfl rfl (hts _ s4) (hts _ (mwd_in hln)) s2 hroom, hts _ t1⟩ hpre rfl (by simp [hlen]) hl.2.1 rfl hcat hd hfit) hS kk
  · exact m_call (va_runSN (As := As.map (mtr G)) (rest := r.map (mtr G)) ⟨hx, hb, hml, hown, hts⟩ hM ⟨va_cnB (mNa k) hts (mWd_good (mMr_code hk)) rfl rfl rfl (hnk _ (mwn_in hln)) (hts _ s4) s2 hroom, hts _ t1, trivial⟩ hpre rfl (by simp [hlen]) hl.2.1 rfl hcat hd hfit) hS kk
/-- a call of a constructor -/
theorem m_spec {d' k x w a : Nat} {As r : List Value} {S' : mS} (C : mCx d mid G p R s m args meth c) (hP : mP G S H) (hS : va_S (mA G) s.heap H locs) (hl : mlv G ls (mNl mid) pl) (hz : H.size = G.1 + S.1.length) (hd : decode (mCd mid) pc = .ok (.invokespecial x, 3)) (hln : mln mid w x k = true) (hk : k < 229) (hkd : mKd k = 2) (hlen : As.length = mNa k) (hc : Nat.ble (mcats r) 8 = true) (hcap : mcap mid (cu + (mMc k).1) (su + (mMc k).2) = true) (hdd : d' + 1 ≤ d) (hE : mEv d' k (.ref a :: As) S none S')
    (kk : ∀ (H1 : Heap) (locs1 : List Loc), mP G S' H1 → va_S (mA G) s.heap H1 locs1 → W p l e R s m args below meth c H1 locs1 (cu + (mMc k).1) (su + (mMc k).2) Q (F0 m (pc + 3) ls (r.map (mtr G)))) : W p l e R s m args below meth c H locs cu su Q (F0 m pc ls ((As.map (mtr G)).reverse ++ .ref (mad G a) :: r.map (mtr G))) := by
  obtain ⟨hx, hb, hml, hown, hts, hKs, hd1, hd2, hc1, hc2, hin, hlk, hnk⟩ := C
  obtain ⟨s1, s2, s3, s4, s5, s6, s7⟩ := mMr_say hk
  obtain ⟨t1, t2, t3⟩ := s7 hkd
  obtain ⟨p1, p2⟩ := mcap_inv hcap
  have hroom := m_room (R := R) hk hdd hd1 hd2
  have hM := hE.2 l G
  have hw : mWd k = Cond.code (mY k) (mCd k) (mNl k) none :: mTb := by rw [← t3]; rfl
  have hpre : PreS s H (mPc G (.ref a :: As) S) (.ref (mad G a) :: As.map (mtr G)) := ⟨m_blind, m_pre hP hKs hS hz hnk⟩
  have hfit : cu + (mMc k).1 ≤ R.cells ∧ su + (mMc k).2 ≤ R.slots := ⟨Nat.le_trans p1 hc1, Nat.le_trans p2 hc2⟩
  have hcat : 2 * (F0 m pc ls ((As.map (mtr G)).reverse ++ .ref (mad G a) :: r.map (mtr G))).monitorRoom + ((r.map (mtr G)).map fun v => v.category).sum ≤ 8 := by
    rw [mcats_eq]
    show 2 * 0 + _ ≤ 8
    have := Nat.le_of_ble_eq_true hc
    omega
  simp only [mln, Bool.or_eq_true] at hln
  rcases hln with hln | hln
  · exact m_call (va_runI (As := As.map (mtr G)) (rest := r.map (mtr G)) ⟨hx, hb, hml, hown, hts⟩ hM ⟨callB_of (mNa k) hts (mWd_good (mMr_code hk)) hw rfl rfl (hts _ s4) (hts _ (mwd_in hln)) s2 hroom, t2, hts _ t1⟩ hpre rfl (by simp [hlen]) hl.2.1 rfl hcat hd hfit) hS kk
  · exact m_call (va_runIN (As := As.map (mtr G)) (rest := r.map (mtr G)) ⟨hx, hb, hml, hown, hts⟩ hM ⟨va_cnB (mNa k) hts (mWd_good (mMr_code hk)) hw rfl rfl (hnk _ (mwn_in hln)) (hts _ s4) s2 hroom, t2, hts _ t1⟩ hpre rfl (by simp [hlen]) hl.2.1 rfl hcat hd hfit) hS kk
end MS
end
section
theorem mad_sp (G : mG) (i : Nat) : mad G (1000000 + i) = G.2.1 i := by
  unfold mad
  rw [if_neg (by omega), Nat.add_sub_cancel_left]
section MT
variable {d mid : Nat} {G : mG} {p : Program} {l : Launch} {e : Env} {R : Room} {s : State} {m : MethodId} {args : Array Value} {below : List Frame} {meth : Method} {c : Code} {Q : State → Prop} {res : Option Value × mS} {J K : mK6} {pc : Nat} {pl : mLoc} {st : List Value} {S : mS} {cu su : Nat} {H : Heap} {locs : List Loc} {ls : Array Slot}
set_option maxHeartbeats 4000000 in
theorem mst_sound (C : mCx d mid G p R s m args meth c) (hF : mFin mid G p l e R s m args below meth c Q res) (hJ : ∀ pc pl st S cu su, J pc pl st S cu su → mGo mid G p l e R s m args below meth c Q pc pl st S cu su) {I : mI} (hK : ∀ pl st S cu su, K (pc + mil I.1 I.2.1) pl st S cu su → mGo mid G p l e R s m args below meth c Q (pc + mil I.1 I.2.1) pl st S cu su) (ho : mOkB mid pc I = true) (h : mst d mid res J I pc pl st S cu su K) : mGo mid G p l e R s m args below meth c Q pc pl st S cu su := by
  intro H locs ls hP hS hl hcu
  have C0 := C
  obtain ⟨hx, hb, hml, hown, hts, hKs, hd1, hd2, hc1, hc2, hin, hlk, hnk⟩ := C
  obtain ⟨i, len, a, b, w, ps⟩ := I
  obtain ⟨hd, he⟩ := mOk_inv ho
  dsimp only at hd
  cases i with
  | iconst n =>
    cases ps with
    | nil => exact h.elim
    | cons q ps => exact lv_iconst hx hb hd (of_decide_eq_true he) (hK _ _ _ _ _ h H locs ls hP hS hl hcu)
  | bipush n =>
    cases ps with
    | nil => exact h.elim
    | cons q ps => exact lv_bipush hx hb hd (of_decide_eq_true he) (hK _ _ _ _ _ h H locs ls hP hS hl hcu)
  | sipush n =>
    cases ps with
    | nil => exact h.elim
    | cons q ps => exact lv_sipush hx hb hd (of_decide_eq_true he) (hK _ _ _ _ _ h H locs ls hP hS hl hcu)
  | lconst n =>
    cases ps with
    | nil => exact h.elim
    | cons q ps => exact lv_lconst hx hb hd (of_decide_eq_true he) (hK _ _ _ _ _ h H locs ls hP hS hl hcu)
  | aconst_null => exact lv_null hx hb hd (hK _ _ _ _ _ h H locs ls hP hS hl hcu)
  | ldc n =>
    cases ps with
    | nil => exact h.elim
    | cons q ps => exact lv_ldc hx hb hown (hts _ (mwd_in he)) hd (hK _ _ _ _ _ h H locs ls hP hS hl hcu)
  | ldc_w n =>
    cases ps with
    | nil => exact h.elim
    | cons q ps => exact lv_ldcw hx hb hown (hts _ (mwd_in he)) hd (hK _ _ _ _ _ h H locs ls hP hS hl hcu)
  | ldc2_w n =>
    cases ps with
    | nil => exact lv_ldc2 hx hb hown (hts _ (mwd_in he)) hd (hK _ _ _ _ _ h H locs ls hP hS hl hcu)
    | cons q ps => exact lv_ldc2 hx hb hown (hts _ (mwd_in he)) hd (hK _ _ _ _ _ h H locs ls hP hS hl hcu)
  | iload_n n =>
    obtain ⟨x, h1, h⟩ := mgI_inv h
    exact lv_iload_n hx hb hd rfl (hl.2.2.2 n _ h1) (hK _ _ _ _ _ h H locs ls hP hS hl hcu)
  | iload n =>
    obtain ⟨x, h1, h⟩ := mgI_inv h
    exact lv_iload hx hb hd (hl.2.2.2 n _ h1) (hK _ _ _ _ _ h H locs ls hP hS hl hcu)
  | aload_n n =>
    have h : mgA pl n (fun x => K (pc + 1) pl (x :: st) S cu su) := h
    rcases mgA_inv h with ⟨x, h1, h⟩ | ⟨h1, h⟩
    · exact lv_aload_n hx hb hd rfl (hl.2.2.2 n _ h1) (hK _ _ _ _ _ h H locs ls hP hS hl hcu)
    · exact lv_aload_nN hx hb hd rfl (hl.2.2.2 n _ h1) (hK _ _ _ _ _ h H locs ls hP hS hl hcu)
  | aload n =>
    have h : mgA pl n (fun x => K (pc + 2) pl (x :: st) S cu su) := h
    rcases mgA_inv h with ⟨x, h1, h⟩ | ⟨h1, h⟩
    · exact lv_aload hx hb hd (hl.2.2.2 n _ h1) (hK _ _ _ _ _ h H locs ls hP hS hl hcu)
    · exact lv_aloadN hx hb hd (hl.2.2.2 n _ h1) (hK _ _ _ _ _ h H locs ls hP hS hl hcu)
  | lload_n n =>
    obtain ⟨x, h1, h⟩ := mgL_inv h
    exact lv_lload_n hx hb hd rfl (hl.2.2.2 n _ h1) (hK _ _ _ _ _ h H locs ls hP hS hl hcu)
  | lload n =>
    obtain ⟨x, h1, h⟩ := mgL_inv h
    exact lv_lload hx hb hd (hl.2.2.2 n _ h1) (hK _ _ _ _ _ h H locs ls hP hS hl hcu)
  | istore_n n =>
    obtain ⟨x, r, est, g⟩ := ms1_inv h
    subst est
    have h := g
    obtain ⟨y, h1, h2, h⟩ := msto_inv h
    exact lv_istore_n hx hb hd rfl hl.has (by rw [← hl.1]; exact mnth_lt h1) rfl (fun ls' hl' => hK _ _ _ _ _ h H locs ls' hP hS (mlv.of (v := .int x) hl.1 h1 h2 hl') hcu)
  | istore n =>
    obtain ⟨x, r, est, g⟩ := ms1_inv h
    subst est
    have h := g
    obtain ⟨y, h1, h2, h⟩ := msto_inv h
    exact lv_istore hx hb hd hl.has (by rw [← hl.1]; exact mnth_lt h1) rfl (fun ls' hl' => hK _ _ _ _ _ h H locs ls' hP hS (mlv.of (v := .int x) hl.1 h1 h2 hl') hcu)
  | astore_n n =>
    have h : ms1A st (fun x r => msto pl n x fun pl => K (pc + 1) pl r S cu su) := h
    rcases ms1A_inv h with ⟨x, r, est, g⟩ | ⟨r, est, g⟩
    · subst est
      obtain ⟨y, h1, h2, g⟩ := msto_inv g
      exact lv_astore_n hx hb hd rfl hl.has (by rw [← hl.1]; exact mnth_lt h1) rfl (fun ls' hl' => hK _ _ _ _ _ g H locs ls' hP hS (mlv.of (v := .ref x) hl.1 h1 h2 hl') hcu)
    · subst est
      obtain ⟨y, h1, h2, g⟩ := msto_inv g
      exact lv_astore_nN hx hb hd rfl hl.has (by rw [← hl.1]; exact mnth_lt h1) rfl (fun ls' hl' => hK _ _ _ _ _ g H locs ls' hP hS (mlv.of (v := .null) hl.1 h1 h2 hl') hcu)
  | astore n =>
    have h : ms1A st (fun x r => msto pl n x fun pl => K (pc + 2) pl r S cu su) := h
    rcases ms1A_inv h with ⟨x, r, est, g⟩ | ⟨r, est, g⟩
    · subst est
      obtain ⟨y, h1, h2, g⟩ := msto_inv g
      exact lv_astore hx hb hd hl.has (by rw [← hl.1]; exact mnth_lt h1) rfl (fun ls' hl' => hK _ _ _ _ _ g H locs ls' hP hS (mlv.of (v := .ref x) hl.1 h1 h2 hl') hcu)
    · subst est
      obtain ⟨y, h1, h2, g⟩ := msto_inv g
      exact lv_astoreN hx hb hd hl.has (by rw [← hl.1]; exact mnth_lt h1) rfl (fun ls' hl' => hK _ _ _ _ _ g H locs ls' hP hS (mlv.of (v := .null) hl.1 h1 h2 hl') hcu)
  | iinc n v =>
    cases ps with
    | nil => exact h.elim
    | cons q ps =>
      obtain ⟨x, h0, h⟩ := mgI_inv h
      obtain ⟨y, h1, h2, h⟩ := msto_inv h
      obtain ⟨k, hk⟩ := List.getElem?_of_mem (mll_mem (G := G) (q := (n, .int x)) |>.mpr ⟨.int x, h0, rfl⟩)
      exact lv_iinc hx hb hd hl.has hk (by rw [of_decide_eq_true (show decide (Int32.ofInt v = q.1) = true from he)]) (by rw [← hl.1]; exact mnth_lt h1) rfl (fun ls' hl' => hK _ _ _ _ _ h H locs ls' hP hS (mlv.of (v := .int (x + q.1)) hl.1 h1 h2 hl') hcu)
  | iadd =>
    obtain ⟨x, y, r, est, g⟩ := ms2_inv h
    subst est
    have h := g
    exact lv_iadd hx hb hd (hK _ _ _ _ _ h H locs ls hP hS hl hcu)
  | isub =>
    obtain ⟨x, y, r, est, g⟩ := ms2_inv h
    subst est
    have h := g
    exact lv_isub hx hb hd (hK _ _ _ _ _ h H locs ls hP hS hl hcu)
  | imul =>
    obtain ⟨x, y, r, est, g⟩ := ms2_inv h
    subst est
    have h := g
    exact lv_imul hx hb hd (hK _ _ _ _ _ h H locs ls hP hS hl hcu)
  | iand =>
    obtain ⟨x, y, r, est, g⟩ := ms2_inv h
    subst est
    have h := g
    exact lv_iand hx hb hd (hK _ _ _ _ _ h H locs ls hP hS hl hcu)
  | ior =>
    obtain ⟨x, y, r, est, g⟩ := ms2_inv h
    subst est
    have h := g
    exact lv_ior hx hb hd (hK _ _ _ _ _ h H locs ls hP hS hl hcu)
  | ixor =>
    obtain ⟨x, y, r, est, g⟩ := ms2_inv h
    subst est
    have h := g
    exact lv_ixor hx hb hd (hK _ _ _ _ _ h H locs ls hP hS hl hcu)
  | ishl =>
    obtain ⟨x, y, r, est, g⟩ := ms2_inv h
    subst est
    have h := g
    exact lv_ishl hx hb hd (hK _ _ _ _ _ h H locs ls hP hS hl hcu)
  | ishr =>
    obtain ⟨x, y, r, est, g⟩ := ms2_inv h
    subst est
    have h := g
    exact lv_ishr hx hb hd (hK _ _ _ _ _ h H locs ls hP hS hl hcu)
  | iushr =>
    obtain ⟨x, y, r, est, g⟩ := ms2_inv h
    subst est
    have h := g
    exact lv_iushr hx hb hd rfl (hK _ _ _ _ _ h H locs ls hP hS hl hcu)
  | idiv =>
    obtain ⟨x, y, r, est, h1, g⟩ := ms2_inv h
    subst est
    have h := g
    exact lv_idiv hx hb hd h1 (hK _ _ _ _ _ h H locs ls hP hS hl hcu)
  | irem =>
    obtain ⟨x, y, r, est, h1, g⟩ := ms2_inv h
    subst est
    have h := g
    exact lv_irem hx hb hd h1 (hK _ _ _ _ _ h H locs ls hP hS hl hcu)
  | ineg =>
    obtain ⟨x, r, est, g⟩ := ms1_inv h
    subst est
    have h := g
    exact lv_ineg hx hb hd (hK _ _ _ _ _ h H locs ls hP hS hl hcu)
  | i2b =>
    obtain ⟨x, r, est, g⟩ := ms1_inv h
    subst est
    have h := g
    exact lv_i2b hx hb hd rfl (hK _ _ _ _ _ h H locs ls hP hS hl hcu)
  | i2s =>
    obtain ⟨x, r, est, g⟩ := ms1_inv h
    subst est
    have h := g
    exact lv_i2s hx hb hd rfl (hK _ _ _ _ _ h H locs ls hP hS hl hcu)
  | i2l =>
    obtain ⟨x, r, est, g⟩ := ms1_inv h
    subst est
    have h := g
    exact lv_i2l hx hb hd rfl (hK _ _ _ _ _ h H locs ls hP hS hl hcu)
  | l2i =>
    obtain ⟨x, r, est, g⟩ := ms1L_inv h
    subst est
    have h := g
    exact lv_l2i hx hb hd rfl (hK _ _ _ _ _ h H locs ls hP hS hl hcu)
  | land =>
    obtain ⟨x, y, r, est, g⟩ := ms2L_inv h
    subst est
    have h := g
    exact lv_land hx hb hd (hK _ _ _ _ _ h H locs ls hP hS hl hcu)
  | lor =>
    obtain ⟨x, y, r, est, g⟩ := ms2L_inv h
    subst est
    have h := g
    exact lv_lor hx hb hd (hK _ _ _ _ _ h H locs ls hP hS hl hcu)
  | lcmp =>
    obtain ⟨x, y, r, est, g⟩ := ms2L_inv h
    subst est
    have h := g
    exact W.lcmp hx hb hd (hK _ _ _ _ _ h H locs ls hP hS hl hcu)
  | lshl =>
    obtain ⟨x, y, r, est, g⟩ := msLI_inv h
    subst est
    have h := g
    exact lv_lshl hx hb hd rfl (hK _ _ _ _ _ h H locs ls hP hS hl hcu)
  | lshr =>
    obtain ⟨x, y, r, est, g⟩ := msLI_inv h
    subst est
    have h := g
    exact lv_lshr hx hb hd rfl (hK _ _ _ _ _ h H locs ls hP hS hl hcu)
  | lushr =>
    obtain ⟨x, y, r, est, g⟩ := msLI_inv h
    subst est
    have h := g
    exact lv_lushr hx hb hd rfl (hK _ _ _ _ _ h H locs ls hP hS hl hcu)
  | goto o => exact lv_goto hx hb hd (of_decide_eq_true he) (hJ _ _ _ _ _ _ h H locs ls hP hS hl hcu)
  | ifCond k o =>
    obtain ⟨x, r, est, h1, h2⟩ := ms1_inv h
    subst est
    have k1 := fun z => hJ _ _ _ _ _ _ (h1 z) H locs ls hP hS hl hcu
    have k2 := fun z => hK _ _ _ _ _ (h2 z) H locs ls hP hS hl hcu
    cases k with
    | eq => exact lv_if_eq hx hb hd (of_decide_eq_true he) k1 k2
    | ne => exact lv_if_ne hx hb hd (of_decide_eq_true he) k1 (fun z => k2 (fun n => n z))
    | lt => exact lv_if_lt hx hb hd (of_decide_eq_true he) k1 k2
    | ge => exact lv_if_ge hx hb hd (of_decide_eq_true he) k1 k2
    | gt => exact lv_if_gt hx hb hd (of_decide_eq_true he) k1 k2
    | le => exact lv_if_le hx hb hd (of_decide_eq_true he) k1 k2
  | if_icmp k o =>
    obtain ⟨x, y, r, est, h1, h2⟩ := ms2_inv h
    subst est
    have k1 := fun z => hJ _ _ _ _ _ _ (h1 z) H locs ls hP hS hl hcu
    have k2 := fun z => hK _ _ _ _ _ (h2 z) H locs ls hP hS hl hcu
    cases k with
    | eq => exact lv_icmp_eq hx hb hd (of_decide_eq_true he) k1 k2
    | ne => exact lv_icmp_ne hx hb hd (of_decide_eq_true he) k1 (fun z => k2 (fun n => n z))
    | lt => exact lv_icmp_lt hx hb hd (of_decide_eq_true he) k1 k2
    | ge => exact lv_icmp_ge hx hb hd (of_decide_eq_true he) k1 k2
    | gt => exact lv_icmp_gt hx hb hd (of_decide_eq_true he) k1 k2
    | le => exact lv_icmp_le hx hb hd (of_decide_eq_true he) k1 k2
  | ifnull o =>
    cases st with
    | nil => exact h.elim
    | cons v r =>
      cases v with
      | null => exact lv_ifnullN hx hb hd (of_decide_eq_true he) (hJ _ _ _ _ _ _ h H locs ls hP hS hl hcu)
      | ref a => exact lv_ifnull hx hb hd (hK _ _ _ _ _ h H locs ls hP hS hl hcu)
      | _ => exact h.elim
  | ifnonnull o =>
    cases st with
    | nil => exact h.elim
    | cons v r =>
      cases v with
      | null => exact lv_ifnonnullN hx hb hd (hK _ _ _ _ _ h H locs ls hP hS hl hcu)
      | ref a => exact lv_ifnonnull hx hb hd (of_decide_eq_true he) (hJ _ _ _ _ _ _ h H locs ls hP hS hl hcu)
      | _ => exact h.elim
  | tableswitch df lo hi os =>
    obtain ⟨x, r, est, g⟩ := ms1_inv h
    subst est
    have h := g
    simp only [mExB, Bool.and_eq_true, decide_eq_true_eq] at he
    obtain ⟨⟨e1, e2⟩, e3⟩ := he
    rcases msw_in h with ⟨q, q1, q2, q3, -⟩ | ⟨q1, q2⟩
    · obtain ⟨g1, g2⟩ := mswT_at e3
      obtain ⟨j, o, j1, j2, j3⟩ := g2 q q1
      have hj : j < os.size := by
        have := (List.getElem?_eq_some_iff.mp j1).1
        simpa using this
      rw [← q2] at j2
      refine lv_tableIn hx hb hd (by omega) (by omega) (off := o) ?_ j3 (hJ _ _ _ _ _ _ q3 H locs ls hP hS hl hcu)
      rw [show (x.toInt - lo).toNat = j by omega]
      rw [← Array.getElem?_toList]
      exact j1
    · refine lv_tableOut hx hb hd ?_ e1 (hJ _ _ _ _ _ _ q2 H locs ls hP hS hl hcu)
      rcases Classical.em (x.toInt < lo) with z | z
      · exact Or.inl z
      · refine Or.inr ?_
        rcases Classical.em (hi < x.toInt) with z2 | z2
        · exact z2
        · obtain ⟨q, g1, g2⟩ := mswT_all e3 (x.toInt - lo).toNat (by rw [Array.length_toList]; omega)
          exact absurd (Int32.toInt_inj.mp (by rw [g2]; omega)) (q1 q g1)
  | lookupswitch df prs =>
    obtain ⟨x, r, est, g⟩ := ms1_inv h
    subst est
    have h := g
    simp only [mExB, Bool.and_eq_true, decide_eq_true_eq] at he
    obtain ⟨⟨e1, e2⟩, e3⟩ := he
    obtain ⟨t, t1, t2⟩ := mswL_off (x := x) e3 _ _ e1 h
    exact lv_lookup hx hb hd e2 rfl t1 (hJ _ _ _ _ _ _ t2 H locs ls hP hS hl hcu)
  | dup =>
    obtain ⟨v, r, est, g⟩ := msV_inv h
    subst est
    have h := g
    try dsimp only at h
    split at h
    · rename_i hv
      exact lv_dup hx hb hd (by rw [mtr_cat]; exact hv) (hK _ _ _ _ _ h H locs ls hP hS hl hcu)
    · exact h.elim
  | dup2 =>
    obtain ⟨v, w, r, est, g⟩ := msVV_inv h
    subst est
    have h := g
    try dsimp only at h
    split at h
    · rename_i hv hw
      exact lv_dup2_11 hx hb hd (by rw [mtr_cat]; exact hv) (by rw [mtr_cat]; exact hw) (hK _ _ _ _ _ h H locs ls hP hS hl hcu)
    · exact h.elim
  | getfield x =>
    obtain ⟨a', r, est, g⟩ := ms1R_inv h
    subst est
    have h := g
    obtain ⟨rs, h1, h⟩ := mob_inv h
    simp only [mExB, Bool.and_eq_true] at he
    obtain ⟨⟨e1, e2⟩, e3⟩ := he
    have ha : a < 13 := by simpa [Nat.blt_eq] using e2
    have hbf : b < mNf a := by simpa [Nat.blt_eq] using e3
    obtain ⟨ty, f1, f2, f3, f4, f5, f6, f7, f8⟩ := mCf_all ha
    have hv := mFs_at (G := G) (σ := S.2.2) (k := a') (rs := rs) hbf
    show W p l e R s m args below meth c H locs cu su Q (F0 m pc ls (.ref (mad G a') :: r.map (mtr G)))
    rw [mnth_old hP h1]
    refine va_get (D := G.2.2.1) (ci := a) (C := (mCq a).1) (T := (mCq a).2.1) (N := (mCq a).2.2) hx hb hts f1 hown hKs.1 hP.2.1 a' (mWs_some h1) f8 b (by rw [← f6]; exact hbf) (hts _ (mwd_in e1)) (fun _ h9 => h9) hv hd ?_
    dsimp only at h
    by_cases hk2 : mkd a b = 2
    · rw [hk2] at h
      rw [if_pos hk2, ← mtr_pv]
      exact hK _ _ _ _ _ h H locs ls hP hS hl hcu
    · rw [if_neg hk2]
      have h' : K (pc + 3) pl (.int (S.2.2 a' b) :: r) S cu su := by
        split at h
        · rename_i z; exact absurd z hk2
        · exact h
      exact hK _ _ _ _ _ h' H locs ls hP hS hl hcu
  | putfield x =>
    simp only [mExB, Bool.and_eq_true] at he
    obtain ⟨⟨⟨e1, e2⟩, e3⟩, e4⟩ := he
    have ha : a < 13 := by simpa [Nat.blt_eq] using e2
    have hbf : b < mNf a := by simpa [Nat.blt_eq] using e3
    obtain ⟨ty, f1, f2, f3, f4, f5, f6, f7, f8⟩ := mCf_all ha
    have hbN : b < (mCq a).2.2 := by rw [← f6]; exact hbf
    have hfin : (mTT a b).2.2.2 = false ∨ ((mTT a b).2.2.2 = true ∧ (mY mid).name = "<init>" ∧ (mTT a b).1 = (mY mid).cls) := by
      cases hz : (mTT a b).2.2.2 with
      | false => exact Or.inl rfl
      | true =>
        rw [hz] at e4
        simp at e4
        exact Or.inr ⟨rfl, e4⟩
    have key : ∀ (v : Value) (a' : Nat) (rs : List (Option Nat)) (rest : List Value), mnth S.1 a' = some (0, a, rs) → narrow (ty b) v = v → fits (ty b) v = true →
        (∀ (H1 : Heap) (locs1 : List Loc), va_P G.2.2.1 mCl ((mWs G S).set a' (G.1 + a', .inr (a, (mFs G S.2.2 a' a rs).set b v))) H1 → va_S (mA G) s.heap H1 locs1 → W p l e R s m args below meth c H1 locs1 cu su Q (F0 m (pc + 3) ls rest)) →
        W p l e R s m args below meth c H locs cu su Q (F0 m pc ls (v :: .ref (mad G a') :: rest)) := by
      intro v a' rs rest h1 hn hf kk
      rw [mnth_old hP h1]
      rcases hfin with z | ⟨z1, z2, z3⟩
      · exact va_put (D := G.2.2.1) (ci := a) (C := (mCq a).1) (T := (mCq a).2.1) (N := (mCq a).2.2) hx hb hts f1 ty f2 f3 hown hKs.1 hP.2.1 (mWs_D G S) hS a' (mWs_some h1) f8 b hbN (hts _ (mwd_in e1)) (fun _ h9 => h9) z (f2 b hbN) hn hf (by rw [mFs_len]; exact hbf) hd (fun H1 locs1 g1 _ g3 => kk H1 locs1 g1 g3)
      · exact va_putF (D := G.2.2.1) (ci := a) (C := (mCq a).1) (T := (mCq a).2.1) (N := (mCq a).2.2) hx hb hts f1 ty f2 f3 hown hKs.1 hP.2.1 (mWs_D G S) hS a' (mWs_some h1) f8 b hbN (hts _ (mwd_in e1)) (fun _ h9 => h9) z1 (hin z2) z3 (f2 b hbN) hn hf (by rw [mFs_len]; exact hbf) hd (fun H1 locs1 g1 _ g3 => kk H1 locs1 g1 g3)
    have h : mputf a b pc pl st S cu su K := h
    unfold mputf at h
    rcases f7 b hbN with ⟨k1, k2⟩ | ⟨k1, k2⟩ | ⟨k1, k2⟩
    · rw [k1] at h
      obtain ⟨a', x', r, est, g⟩ := msRp_inv h
      subst est
      have h := g
      obtain ⟨rs, h1, h⟩ := mob_inv h
      refine key (.int x') a' rs (r.map (mtr G)) h1 (by rw [k2]; rfl) (by rw [k2]; rfl) (fun H1 locs1 g1 g3 => ?_)
      refine hK _ _ _ _ _ h H1 locs1 ls (mP_row hP h1 ?_) g3 hl hcu
      show va_P _ _ ((mWs G S).set a' (G.1 + a', .inr (a, mFs G (mup S.2.2 a' b x') a' a rs))) H1
      rw [mFs_int hbf (by rw [k1]; decide)]
      exact g1
    · rw [k1] at h
      obtain ⟨a', x', r, est, g⟩ := msRp_inv h
      subst est
      have h := g
      obtain ⟨rs, h1, hx01, h⟩ := mob_inv h
      refine key (.int x') a' rs (r.map (mtr G)) h1 (by rw [k2]; rcases hx01 with z | z <;> subst z <;> rfl) (by rw [k2]; rcases hx01 with z | z <;> subst z <;> rfl) (fun H1 locs1 g1 g3 => ?_)
      refine hK _ _ _ _ _ h H1 locs1 ls (mP_row hP h1 ?_) g3 hl hcu
      show va_P _ _ ((mWs G S).set a' (G.1 + a', .inr (a, mFs G (mup S.2.2 a' b x') a' a rs))) H1
      rw [mFs_int hbf (by rw [k1]; decide)]
      exact g1
    · rw [k1] at h
      obtain ⟨a', v, r, est, g⟩ := msRR_inv h
      subst est
      have h := g
      obtain ⟨rs, h1, h⟩ := mob_inv h
      split at h
      · rename_i hlen
        have hlen := Nat.eq_of_beq_eq_true hlen
        refine key (.ref (mad G v)) a' rs (r.map (mtr G)) h1 (by rcases k2 with ⟨n, k2⟩ | ⟨n, k2⟩ <;> rw [k2] <;> rfl) (by rcases k2 with ⟨n, k2⟩ | ⟨n, k2⟩ <;> rw [k2] <;> rfl) (fun H1 locs1 g1 g3 => ?_)
        refine hK _ _ _ _ _ h H1 locs1 ls (mP_set hP h1 ?_) g3 hl (by simpa using hcu)
        show va_P _ _ ((mWs G S).set a' (G.1 + a', .inr (a, mFs G S.2.2 a' a (rs.set b (some v))))) H1
        rw [mFs_ref hbf k1 hlen]
        exact g1
      · exact h.elim
  | getstatic x =>
    simp only [mExB] at he
    match a, he, h with
    | 1, he, h =>
      have k1 := hK _ _ _ _ _ h H locs ls hP hS hl hcu
      have k2 : W p l e R s m args below meth c H locs cu su Q (F0 m (pc + 3) ls (.ref (G.2.1 1) :: st.map (mtr G))) := by
        rw [← mad_sp G 1]
        exact k1
      simp only [Bool.or_eq_true] at he
      rcases he with he | he
      · exact va_gets hx hb hKs.2.2.2.2.1 hS hown (hts _ (mwd_in he)) (fun _ h9 => h9) hd k2
      · exact va_getsN hx hb hKs.2.2.2.2.1 hS hown (va_Nw.use rfl (hnk _ (mwn_in he))) (fun _ h9 => h9) hd k2
    | 2, he, h =>
      have k1 := hK _ _ _ _ _ h H locs ls hP hS hl hcu
      have k2 : W p l e R s m args below meth c H locs cu su Q (F0 m (pc + 3) ls (.ref (G.2.1 2) :: st.map (mtr G))) := by
        rw [← mad_sp G 2]
        exact k1
      exact va_gets hx hb hKs.2.2.2.2.2.1 hS hown (hts _ (mwd_in he)) (fun _ h9 => h9) hd k2
    | 0, he, h => simp at he
    | n + 3, he, h => simp at he
  | new x =>
    obtain ⟨⟨g1, g2⟩, h⟩ := h
    simp only [mExB, Bool.and_eq_true] at he
    obtain ⟨e1, e2⟩ := he
    have ha : a < 13 := by simpa [Nat.blt_eq] using e2
    obtain ⟨ty, f1, f2, f3, f4, f5, f6, f7, f8⟩ := mCf_all ha
    obtain ⟨p1, p2⟩ := mcap_inv g1
    have g2 := Nat.le_of_ble_eq_true g2
    refine mW_size (fun hz => ?_)
    have hz2 := mP_eq hP hKs hS hcu hz
    have hKn := hKs.1.1 a _ f8
    refine W.newcK hx hb hown (hts _ (mwd_in e1)) (hts _ f4) (hts _ f5) rfl hd (Nat.le_trans p1 hc1) (by rw [← f6]; exact Nat.le_trans p2 hc2) hKn.2.1 hz2 (fun H1 kC hkC e3 z1 o1 => ?_)
    rw [← f6]
    have hnew := hK _ _ _ _ _ h H1 locs ls (mP_push hP g2 (fun q hq => o1 q (by omega)) ?_) (hS.grow (by omega) (fun q hq => o1 q (by omega))) hl (by simp; omega)
    · have hm : mad G S.1.length = G.1 + S.1.length := mad_lt (by omega)
      have k2 : W p l e R s m args below meth c H1 locs (cu + 1) (su + mNf a) Q (F0 m (pc + 3) ls (.ref (mad G S.1.length) :: st.map (mtr G))) := hnew
      rw [hm] at k2
      exact k2
    · refine ⟨_, f8, (u_born ty hts f1 hKn hkC e3 f2).to (fun j hj => ?_)⟩
      show defaultValue (ty j) = vp_V (mFs G (mrow S.2.2 S.1.length (fun _ => 0)) S.1.length a (List.replicate (mNf a) none)) j
      have hv := mFs_at (G := G) (σ := mrow S.2.2 S.1.length (fun _ => 0)) (k := S.1.length) (ci := a) (rs := List.replicate (mNf a) none) (j := j) (by rw [f6]; exact hj)
      rw [vp_V, List.getD_eq_getElem?_getD, hv]
      rcases f7 j hj with ⟨k1, k2⟩ | ⟨k1, k2⟩ | ⟨k1, k2⟩
      · rw [if_neg (by rw [k1]; decide), k2]; simp [mrow, defaultValue]
      · rw [if_neg (by rw [k1]; decide), k2]; simp [mrow, defaultValue]
      · rw [if_pos k1]
        have e9 : (List.replicate (mNf a) (none : Option Nat)).getD j none = none := by
          simp [List.getD_eq_getElem?_getD, List.getElem?_replicate]
          split <;> rfl
        rw [e9]
        rcases k2 with ⟨n, k2⟩ | ⟨n, k2⟩ <;> rw [k2] <;> rfl
  | newarray t =>
    obtain ⟨n, r, est, g⟩ := ms1_inv h
    subst est
    obtain ⟨⟨g1, g2, g3, g4⟩, g⟩ := g
    obtain ⟨p1, p2⟩ := mcap_inv g3
    have g4 := Nat.le_of_ble_eq_true g4
    have g2 := Nat.le_of_ble_eq_true g2
    refine mW_size (fun hz => ?_)
    have hz2 := mP_eq hP hKs hS hcu hz
    have hm : mad G S.1.length = G.1 + S.1.length := mad_lt (by omega)
    cases t with
    | int =>
      refine va_newaK hx hb (atype := .int) (hts _ mTb_ai) rfl hd rfl g1 rfl (by show n.toNatClampNeg * 4 ≤ _; omega) (Nat.le_trans p1 hc1) (Nat.le_trans p2 hc2) hz2 (fun H1 cA e3 z1 o1 hAr hNm => ?_)
      have hcA : cA = G.2.2.2.1.1 := Option.some.inj (hNm.symm.trans (hKs.1.2 0 _ rfl).2)
      subst hcA
      have hnew := hK _ _ _ _ _ g H1 locs ls (mP_push hP g4 (fun q hq => o1 q (by omega)) ?_) (hS.grow (by omega) (fun q hq => o1 q (by omega))) hl (by simp; omega)
      · have k2 : W p l e R s m args below meth c H1 locs (cu + 1) (su + n.toNatClampNeg) Q (F0 m (pc + 2) ls (.ref (mad G S.1.length) :: r.map (mtr G))) := hnew
        rw [hm] at k2
        exact k2
      · show H1[G.1 + S.1.length]? = some (vp_cell _ _)
        rw [e3]
        simp [vp_cell, mrow]
        rfl
    | boolean =>
      refine va_newaK hx hb (atype := .boolean) (hts _ mTb_az) rfl hd rfl g1 rfl (by show n.toNatClampNeg * 1 ≤ _; omega) (Nat.le_trans p1 hc1) (Nat.le_trans p2 hc2) hz2 (fun H1 cA e3 z1 o1 hAr hNm => ?_)
      have hcA : cA = G.2.2.2.1.2.1 := Option.some.inj (hNm.symm.trans (hKs.1.2 1 _ rfl).2)
      subst hcA
      have hnew := hK _ _ _ _ _ g H1 locs ls (mP_push hP g4 (fun q hq => o1 q (by omega)) ?_) (hS.grow (by omega) (fun q hq => o1 q (by omega))) hl (by simp; omega)
      · have k2 : W p l e R s m args below meth c H1 locs (cu + 1) (su + n.toNatClampNeg) Q (F0 m (pc + 2) ls (.ref (mad G S.1.length) :: r.map (mtr G))) := hnew
        rw [hm] at k2
        exact k2
      · show H1[G.1 + S.1.length]? = some (vp_cell _ _)
        rw [e3]
        simp [vp_cell, mrow]
        rfl
    | _ => exact g.elim
  | anewarray x =>
    obtain ⟨n, r, est, g⟩ := ms1_inv h
    subst est
    obtain ⟨⟨g1, g2, g3, g4⟩, g⟩ := g
    obtain ⟨p1, p2⟩ := mcap_inv g3
    have g4 := Nat.le_of_ble_eq_true g4
    have g2 := Nat.le_of_ble_eq_true g2
    refine mW_size (fun hz => ?_)
    have hz2 := mP_eq hP hKs hS hcu hz
    have hm : mad G S.1.length = G.1 + S.1.length := mad_lt (by omega)
    refine W.anew hx hb hown (hts _ (mwd_in he)) (va_AO.use hKs.2.2.2.2.2.2.1) rfl hd rfl g1 (by omega) (Nat.le_trans p1 hc1) (Nat.le_trans p2 hc2) (fun cA kA comp f1 f2 f3 f4 => ?_)
    have hcA : cA = G.2.2.2.1.2.2 := by
      obtain ⟨kA', comp', q1, q2, q3, q4⟩ := (hKs.1.2 2 _ rfl).2
      exact Option.some.inj (f1.symm.trans q4)
    subst hcA
    generalize hH1 : H.push ({ cls := G.2.2.2.1.2.2, slots := Array.replicate n.toNatClampNeg .null, vm := .none } : Cell) = H1
    have z1 : H1.size = H.size + 1 := by rw [← hH1, Array.size_push]
    have e3 : H1[H.size]? = some (arrV G.2.2.2.1.2.2 n.toNatClampNeg (fun _ => .null)) := by rw [← hH1, Array.getElem?_push_size, ← arrV_new]
    have o1 : ∀ q : Nat, q < H.size → H1[q]? = H[q]? := fun q hq => by rw [← hH1, Array.getElem?_push, if_neg (Nat.ne_of_lt hq)]
    have hnew := hK _ _ _ _ _ g H1 locs ls (mP_push hP g4 o1 ?_) (hS.grow (by omega) o1) hl (by simp; omega)
    · have k2 : W p l e R s m args below meth c H1 locs (cu + 1) (su + n.toNatClampNeg) Q (F0 m (pc + 3) ls (.ref (mad G S.1.length) :: r.map (mtr G))) := hnew
      rw [hm, ← hz2] at k2
      exact k2
    · show H1[G.1 + S.1.length]? = some (vp_cell _ _)
      rw [← hz2, e3]
      simp only [vp_cell]
      congr 2
      funext j
      have e9 : (List.replicate n.toNatClampNeg (none : Option Nat)).getD j none = none := by
        simp [List.getD_eq_getElem?_getD, List.getElem?_replicate]
        split <;> rfl
      rw [e9]; rfl
  | arraylength =>
    obtain ⟨a', r, est, g⟩ := ms1R_inv h
    subst est
    show W p l e R s m args below meth c H locs cu su Q (F0 m pc ls (.ref (mad G a') :: r.map (mtr G)))
    try dsimp only at g
    split at g
    · rename_i n rs h1
      rw [mnth_old hP h1]
      exact va_alen hx hb hKs.1 hP.2.1 a' 2 (mWs_some h1) (ty := .object RX5) rfl rfl hd (hK _ _ _ _ _ g H locs ls hP hS hl hcu)
    · obtain ⟨n, h1, g⟩ := mai_inv g
      have k1 := hK _ _ _ _ _ g H locs ls hP hS hl hcu
      rcases mal_inv h1 with ⟨rs, h2⟩ | ⟨-, ⟨rfl, rfl⟩ | ⟨rfl, rfl⟩ | ⟨rfl, rfl⟩⟩
      · rw [mnth_old hP h2]
        exact va_alen hx hb hKs.1 hP.2.1 a' 0 (mWs_some h2) (ty := .int) rfl rfl hd k1
      · exact va_tlen (t := G.2.1 0) hx hb hKs.2.1 hS (by rw [← hP.2.2.1]) hd k1
      · exact va_tlen (t := G.2.1 1) hx hb hKs.2.2.1 hS rfl hd k1
      · exact va_tlen (t := G.2.1 2) hx hb hKs.2.2.2.1 hS rfl hd k1
  | iaload =>
    obtain ⟨a', i', r, est, g⟩ := msRI_inv h
    subst est
    show W p l e R s m args below meth c H locs cu su Q (F0 m pc ls (.int i' :: .ref (mad G a') :: r.map (mtr G)))
    obtain ⟨n, h1, g1, g⟩ := mai_inv g
    have k1 := hK _ _ _ _ _ g H locs ls hP hS hl hcu
    rcases mal_inv h1 with ⟨rs, h2⟩ | ⟨-, ⟨rfl, rfl⟩ | ⟨rfl, rfl⟩ | ⟨rfl, rfl⟩⟩
    · rw [mnth_old hP h2]
      exact va_iald hx hb hKs.1 hP.2.1 a' 0 (mWs_some h2) rfl g1 hd k1
    · exact va_ti (t := G.2.1 0) hx hb hKs.2.1 hS (by rw [← hP.2.2.1]; exact g1) (by rw [← hP.2.2.2.1]; rfl) hd k1
    · exact va_ti (t := G.2.1 1) hx hb hKs.2.2.1 hS g1 (by rw [← hP.2.2.2.2.1]; rfl) hd k1
    · exact va_ti (t := G.2.1 2) hx hb hKs.2.2.2.1 hS g1 (by rw [← hP.2.2.2.2.2]; rfl) hd k1
  | iastore =>
    obtain ⟨a', i', x', r, est, g⟩ := msRII_inv h
    subst est
    show W p l e R s m args below meth c H locs cu su Q (F0 m pc ls (.int x' :: .int i' :: .ref (mad G a') :: r.map (mtr G)))
    try dsimp only at g
    split at g
    · rename_i n rs h1
      obtain ⟨g1, g⟩ := g
      rw [mnth_old hP h1]
      refine va_iast hx hb hKs.1 hP.2.1 (mWs_D G S) hS a' 0 (mWs_some h1) rfl g1 hd (fun H1 locs1 q1 _ q3 => ?_)
      refine hK _ _ _ _ _ g H1 locs1 ls (mP_row hP h1 ?_) q3 hl hcu
      have e9 : mEn G (mup S.2.2 a' i'.toNatClampNeg x') a' (1, n, rs) = .inl (G.2.2.2.1.1, n, .inl (upd (S.2.2 a') i'.toNatClampNeg x')) := by
        simp only [mEn, mup, mrow, if_pos]
      show va_P _ _ ((mWs G S).set a' (G.1 + a', mEn G (mup S.2.2 a' i'.toNatClampNeg x') a' (1, n, rs))) H1
      rw [e9]
      exact q1
    · exact g.elim
  | baload =>
    obtain ⟨a', i', r, est, g⟩ := msRI_inv h
    subst est
    show W p l e R s m args below meth c H locs cu su Q (F0 m pc ls (.int i' :: .ref (mad G a') :: r.map (mtr G)))
    obtain ⟨n, rs, h1, g1, g⟩ := maz_inv g
    rw [mnth_old hP h1]
    exact va_zald hx hb hKs.1 hP.2.1 a' 1 (mWs_some h1) rfl g1 hd (hK _ _ _ _ _ g H locs ls hP hS hl hcu)
  | bastore =>
    obtain ⟨a', i', x', r, est, g⟩ := msRII_inv h
    subst est
    show W p l e R s m args below meth c H locs cu su Q (F0 m pc ls (.int x' :: .int i' :: .ref (mad G a') :: r.map (mtr G)))
    obtain ⟨n, rs, h1, g1, g⟩ := maz_inv g
    rw [mnth_old hP h1]
    refine va_zast hx hb hKs.1 hP.2.1 (mWs_D G S) hS a' 1 (mWs_some h1) rfl g1 hd (fun H1 locs1 q1 _ q3 => ?_)
    refine hK _ _ _ _ _ g H1 locs1 ls (mP_row hP h1 ?_) q3 hl hcu
    have e9 : mEn G (mup S.2.2 a' i'.toNatClampNeg (vp_nar .boolean x')) a' (2, n, rs) = .inl (G.2.2.2.1.2.1, n, .inl (upd (S.2.2 a') i'.toNatClampNeg (vp_nar .boolean x'))) := by
      simp only [mEn, mup, mrow, if_pos]
    show va_P _ _ ((mWs G S).set a' (G.1 + a', mEn G (mup S.2.2 a' i'.toNatClampNeg (vp_nar .boolean x')) a' (2, n, rs))) H1
    rw [e9]
    exact q1
  | aaload =>
    obtain ⟨a', i', r, est, g⟩ := msRI_inv h
    subst est
    show W p l e R s m args below meth c H locs cu su Q (F0 m pc ls (.int i' :: .ref (mad G a') :: r.map (mtr G)))
    obtain ⟨n, rs, h1, g1, g⟩ := maq_inv g
    rw [mnth_old hP h1]
    have k1 := hK _ _ _ _ _ g H locs ls hP hS hl hcu
    have k2 : W p l e R s m args below meth c H locs cu su Q (F0 m (pc + 1) ls (mtr G (mpv (rs.getD i'.toNatClampNeg none)) :: r.map (mtr G))) := k1
    refine va_aldq (C := RX5) hx hb hKs.1 hP.2.1 a' 2 (mWs_some h1) rfl g1 hd ?_
    rw [mtr_pv] at k2
    have e9 : va_rf ((rs.getD i'.toNatClampNeg none).map (mad G)) = mrv G (rs.getD i'.toNatClampNeg none) := by
      cases rs.getD i'.toNatClampNeg none <;> rfl
    rw [e9]
    exact k2
  | aastore =>
    obtain ⟨a', i', v', r, est, g⟩ := msRIR_inv h
    subst est
    show W p l e R s m args below meth c H locs cu su Q (F0 m pc ls (.ref (mad G v') :: .int i' :: .ref (mad G a') :: r.map (mtr G)))
    obtain ⟨n, rs, h1, g⟩ := maq_inv g
    obtain ⟨rs2, h2, g1, g⟩ := mob_inv g
    split at g
    · rename_i hlen
      have hlen := Nat.eq_of_beq_eq_true hlen
      rw [mnth_old hP h1, mnth_old hP h2]
      refine va_astq (r := mCq 5) hx hb hKs.1 hP.2.1 (mWs_D G S) hS a' 2 v' 5 (mWs_some h1) rfl (mWs_some h2) rfl g1 hd (fun H1 locs1 q1 _ q3 => ?_)
      refine hK _ _ _ _ _ g H1 locs1 ls (mP_set hP h1 ?_) q3 hl (by simpa using hcu)
      have hlt : i'.toNatClampNeg < n := Nat.not_le.mp fun q => g1 (Or.inr q)
      have e9 : (fun j => ((rs.set i'.toNatClampNeg (some v')).getD j none).map (mad G)) = va_up (fun j => (rs.getD j none).map (mad G)) i'.toNatClampNeg (some (G.1 + v')) := by
        funext j
        simp only [va_up]
        split
        · rename_i z
          subst z
          simp [hlen, hlt, mnth_old hP h2]
        · rename_i z
          have z2 : i'.toNatClampNeg ≠ j := fun y => z y.symm
          simp [List.getD_eq_getElem?_getD, List.getElem?_set_ne z2]
      show va_P _ _ ((mWs G S).set a' (G.1 + a', .inl (G.2.2.2.1.2.2, n, .inr (.inr (.inr (.inr (fun j => ((rs.set i'.toNatClampNeg (some v')).getD j none).map (mad G)))))))) H1
      rw [e9]
      exact q1
    · exact g.elim
  | invokevirtual x =>
    obtain ⟨xs, r, h1, h2, g⟩ := mcut_inv h
    simp only [mExB, Bool.and_eq_true] at he
    obtain ⟨⟨e1, e2⟩, e3⟩ := he
    have hk : a < 229 := by simpa [Nat.blt_eq] using e2
    have hkd := Nat.eq_of_beq_eq_true e3
    rw [List.append_nil] at g
    split at g
    · rename_i a' As hxs
      obtain ⟨rs, h3, ⟨g1, g2⟩, d', v, S', g3, g4, g5⟩ := mob_inv g
      refine mW_size (fun hz => ?_)
      have hz2 := mP_eq hP hKs hS hcu hz
      have hlen : As.length = mNa a := by
        have h5 := congrArg List.length hxs
        have h6 : xs.length = mNa a + 1 := h1
        simp only [List.length_reverse, List.length_cons] at h5
        omega
      have est : st = As.reverse ++ .ref a' :: r := by
        have h5 : xs = (Value.ref a' :: As).reverse := by rw [← hxs, List.reverse_reverse]
        rw [h2, h5]; simp
      rw [hxs] at g4
      subst est
      have k1 := m_virt (below := below) (Q := Q) (l := l) (e := e) C0 hP hS hl hz2 hd e1 hk hkd hlen h3 g1 g2 g3 g4 (fun H1 locs1 q1 q2 => by
        have k2 := hK _ _ _ _ _ g5 H1 locs1 ls q1 q2 hl (by have := g4.1; omega)
        rw [List.map_append] at k2
        have e9 : (v.map (mtr G)).toList = v.toList.map (mtr G) := by cases v <;> rfl
        rw [e9]
        exact k2)
      rw [List.map_append, List.map_reverse]
      exact k1
    · exact g.elim
  | invokestatic x =>
    have hgen : ∀ k, mln mid w x k = true → k < 229 → mKd k = 1 → (mcut (mNa k) st [] fun as r => (Nat.ble (mcats r) 8 = true ∧ mcap mid (cu + (mMc k).1) (su + (mMc k).2) = true) ∧ ∃ (d' : Nat) (v : Option Value) (S' : mS), d' + 1 ≤ d ∧ mEv d' k as S v S' ∧ K (pc + 3) pl (v.toList ++ r) S' (cu + (mMc k).1) (su + (mMc k).2)) → W p l e R s m args below meth c H locs cu su Q (F0 m pc ls (st.map (mtr G))) := by
      intro k e1 hk hkd h
      obtain ⟨xs, r, h1, h2, ⟨g1, g2⟩, d', v, S', g3, g4, g5⟩ := mcut_inv h
      rw [List.append_nil] at g4
      refine mW_size (fun hz => ?_)
      have hz2 := mP_eq hP hKs hS hcu hz
      subst h2
      have k1 := m_stat (below := below) (Q := Q) (l := l) (e := e) C0 hP hS hl hz2 hd e1 hk hkd (by simp [h1]) g1 g2 g3 g4 (fun H1 locs1 q1 q2 => by
        have k2 := hK _ _ _ _ _ g5 H1 locs1 ls q1 q2 hl (by have := g4.1; omega)
        rw [List.map_append] at k2
        have e9 : (v.map (mtr G)).toList = v.toList.map (mtr G) := by cases v <;> rfl
        rw [e9]
        exact k2)
      rw [List.map_append]
      rw [List.map_reverse, List.reverse_reverse] at k1
      exact k1
    have h : mistat d mid a pc pl st S cu su K := h
    unfold mistat at h
    simp only [mExB] at he
    split at h
    · obtain ⟨a', sp, b', dp, n, r, est, ⟨g1, g2⟩, g⟩ := msCp_inv h
      subst est
      split at g
      · rename_i n0 rs0 n1 rs1 h1 h2
        obtain ⟨⟨g3, g4, g5, g6, g7⟩, g⟩ := g
        show W p l e R s m args below meth c H locs cu su Q (F0 m pc ls (.int n :: .int dp :: .ref (mad G b') :: .int sp :: .ref (mad G a') :: r.map (mtr G)))
        rw [mnth_old hP h1, mnth_old hP h2]
        have g1 := Nat.le_of_ble_eq_true g1
        refine va_copyi hx hb (by rw [hml, hl.2.1]) hown (hts _ (mwd_in he)) (hts _ mTb_ac2) (hts _ mTb_ac1) (hts _ mTb_ac3) hKs.1 hP.2.1 (mWs_D G S) hS a' b' 0 0 (mWs_some h1) (mWs_some h2) rfl rfl rfl g3 g4 g5 g6 g7 (fun _ _ => rfl) (Nat.le_trans g2 hd1) ?_ hd (fun H1 locs1 q1 _ q3 => ?_)
        · rw [mcats_eq]
          have : nativeFrameWords "java/lang/System" "arraycopy" 5 = 7 := by decide
          omega
        · refine hK _ _ _ _ _ g H1 locs1 ls (mP_row hP h2 ?_) q3 hl hcu
          have e9 : mEn G (mrow S.2.2 b' (va_cpy (S.2.2 a') (S.2.2 b') sp.toNatClampNeg dp.toNatClampNeg n.toNatClampNeg)) b' (1, n1, rs1) = .inl (G.2.2.2.1.1, n1, .inl (va_cpy (S.2.2 a') (S.2.2 b') sp.toNatClampNeg dp.toNatClampNeg n.toNatClampNeg)) := by
            simp only [mEn, mrow, if_pos]
          rw [e9]
          exact q1
      · exact g.elim
    · obtain ⟨x', y', r, est, ⟨g1, g3, g2⟩, g⟩ := ms2_inv h
      subst est
      have g1 := Nat.le_of_ble_eq_true g1
      obtain ⟨p1, p2⟩ := mcap_inv g3
      exact va_mmin hx hb (by rw [hml, hl.2.1]) hown (hts _ (mwd_in he)) (hts _ mTb_mn1) (hts _ mTb_mi) (hts _ mTb_mn2) (Nat.le_trans g2 hd1) (by rw [mcats_eq]; omega) (Nat.le_trans p1 hc1) (Nat.le_trans p2 hc2) hd (hK _ _ _ _ _ g H locs ls hP hS hl hcu)
    · obtain ⟨x', y', r, est, ⟨g1, g3, g2⟩, g⟩ := ms2_inv h
      subst est
      have g1 := Nat.le_of_ble_eq_true g1
      obtain ⟨p1, p2⟩ := mcap_inv g3
      exact va_mmax hx hb (by rw [hml, hl.2.1]) hown (hts _ (mwd_in he)) (hts _ mTb_mx1) (hts _ mTb_mi) (hts _ mTb_mx2) (Nat.le_trans g2 hd1) (by rw [mcats_eq]; omega) (Nat.le_trans p1 hc1) (Nat.le_trans p2 hc2) hd (hK _ _ _ _ _ g H locs ls hP hS hl hcu)
    · have he : (mln mid w x a && Nat.blt a 229 && Nat.beq (mKd a) 1) = true := by
        split at he
        · exact absurd rfl (by assumption)
        · exact absurd rfl (by assumption)
        · exact absurd rfl (by assumption)
        · exact he
      simp only [Bool.and_eq_true] at he
      obtain ⟨⟨e1, e2⟩, e3⟩ := he
      exact hgen _ e1 (by simpa [Nat.blt_eq] using e2) (Nat.eq_of_beq_eq_true e3) h
  | invokespecial x =>
    have h : mispec d mid a pc pl st S cu su K := h
    unfold mispec at h
    simp only [mExB] at he
    split at h
    · obtain ⟨a', r, est, ⟨g1, g2⟩, g⟩ := ms1R_inv h
      subst est
      have g1 := Nat.le_of_ble_eq_true g1
      refine W.objInit hx hb hown (hts _ (mwd_in he)) (hts _ mTb_oi1) (hts _ mTb_oi2) rfl (by rw [hml]; exact hl.2.1) rfl hd (Nat.le_trans g2 hd1) (by show 2 * 0 + ((r.map (mtr G)).map fun v => v.category).sum + 12 ≤ R.locals; rw [mcats_eq]; omega) ?_
      exact hK _ _ _ _ _ g H locs ls hP hS hl hcu
    · have he : (mln mid w x a && Nat.blt a 229 && Nat.beq (mKd a) 2) = true := by
        split at he
        · exact absurd rfl (by assumption)
        · exact he
      simp only [Bool.and_eq_true] at he
      obtain ⟨⟨e1, e2⟩, e3⟩ := he
      obtain ⟨xs, r, h1, h2, g⟩ := mcut_inv h
      have hk : a < 229 := by simpa [Nat.blt_eq] using e2
      have hkd := Nat.eq_of_beq_eq_true e3
      rw [List.append_nil] at g
      split at g
      · rename_i a' As hxs
        obtain ⟨⟨g1, g2⟩, d', S', g3, g4, g5⟩ := g
        refine mW_size (fun hz => ?_)
        have hz2 := mP_eq hP hKs hS hcu hz
        have hlen : As.length = mNa a := by
          have h5 := congrArg List.length hxs
          have h6 : xs.length = mNa a + 1 := h1
          simp only [List.length_reverse, List.length_cons] at h5
          omega
        have est : st = As.reverse ++ .ref a' :: r := by
          have h5 : xs = (Value.ref a' :: As).reverse := by rw [← hxs, List.reverse_reverse]
          rw [h2, h5]; simp
        rw [hxs] at g4
        subst est
        have k1 := m_spec (below := below) (Q := Q) (l := l) (e := e) C0 hP hS hl hz2 hd e1 hk hkd hlen g1 g2 g3 g4 (fun H1 locs1 q1 q2 => hK _ _ _ _ _ g5 H1 locs1 ls q1 q2 hl (by have := g4.1; omega))
        rw [List.map_append, List.map_reverse]
        exact k1
      · exact g.elim
  | ireturn =>
    have h : (match (generalizing := false) st with
      | [.int v] => mcap mid cu su = true ∧ mrk (mRt mid) v ∧ res = (some (.int v), S)
      | _ => False) := h
    split at h
    · obtain ⟨g1, g2, g3⟩ := h
      subst g3
      refine mW_size (fun hz => ?_)
      exact hF H locs ls pc cu su hP hS (mP_eq hP hKs hS hcu hz) g1 (Or.inl ⟨_, rfl, g2, hd⟩)
    · exact h.elim
  | return_ =>
    have h : (match (generalizing := false) st with
      | [] => mcap mid cu su = true ∧ mRt mid = none ∧ res = (none, S)
      | _ => False) := h
    split at h
    · obtain ⟨g1, g2, g3⟩ := h
      subst g3
      refine mW_size (fun hz => ?_)
      exact hF H locs ls pc cu su hP hS (mP_eq hP hKs hS hcu hz) g1 (Or.inr (Or.inl ⟨rfl, g2, hd⟩))
    · exact h.elim
  | areturn =>
    have h : (match (generalizing := false) st with
      | [.null] => mcap mid cu su = true ∧ mrq (mRt mid) ∧ res = (some .null, S)
      | [.ref a] => mcap mid cu su = true ∧ mrq (mRt mid) ∧ res = (some (.ref a), S)
      | _ => False) := h
    split at h
    · obtain ⟨g1, g2, g3⟩ := h
      subst g3
      refine mW_size (fun hz => ?_)
      exact hF H locs ls pc cu su hP hS (mP_eq hP hKs hS hcu hz) g1 (Or.inr (Or.inr ⟨_, rfl, Or.inl rfl, g2, hd⟩))
    · obtain ⟨g1, g2, g3⟩ := h
      subst g3
      refine mW_size (fun hz => ?_)
      exact hF H locs ls pc cu su hP hS (mP_eq hP hKs hS hcu hz) g1 (Or.inr (Or.inr ⟨_, rfl, Or.inr ⟨_, rfl⟩, g2, hd⟩))
    · exact h.elim
  | _ => exact h.elim
end MT
end
section
/-! walks of a method's body, by stretches -/
def mAt (d mid : Nat) (res : Option Value × mS) : mK6 := fun pc pl st S cu su => ∀ (G : mG) (p : Program) (l : Launch) (e : Env) (R : Room) (s : State) (m : MethodId) (args : Array Value) (below : List Frame) (meth : Method) (c : Code) (Q : State → Prop), mCx d mid G p R s m args meth c → mFin mid G p l e R s m args below meth c Q res → mGo mid G p l e R s m args below meth c Q pc pl st S cu su
theorem mwp_sound {d mid : Nat} {G : mG} {p : Program} {l : Launch} {e : Env} {R : Room} {s : State} {m : MethodId} {args : Array Value} {below : List Frame} {meth : Method} {c : Code} {Q : State → Prop} {res : Option Value × mS} {J : mK6} (C : mCx d mid G p R s m args meth c) (hF : mFin mid G p l e R s m args below meth c Q res) (hJ : ∀ pc pl st S cu su, J pc pl st S cu su → mGo mid G p l e R s m args below meth c Q pc pl st S cu su) :
    ∀ (is : List mI) (pc : Nat) (pl : mLoc) (st : List Value) (S : mS) (cu su : Nat), mChk mid pc is = true → mwp d mid res J is pc pl st S cu su → mGo mid G p l e R s m args below meth c Q pc pl st S cu su
  | [], pc, pl, st, S, cu, su, _, h => hJ _ _ _ _ _ _ h
  | I :: is, pc, pl, st, S, cu, su, hc, h => by
    simp only [mChk, Bool.and_eq_true] at hc
    have hlen : mil I.1 I.2.1 = I.2.1 := by
      have h1 := hc.1
      simp only [mOkB, Bool.and_eq_true] at h1
      exact (Nat.eq_of_beq_eq_true h1.1.2).symm
    refine mst_sound C hF hJ (fun pl st S cu su hK => ?_) hc.1 h
    exact mwp_sound C hF hJ is (pc + mil I.1 I.2.1) pl st S cu su (by rw [hlen]; exact hc.2) hK
/-- a stretch, then what is known where it ends -/
theorem mAt.blk {d mid : Nat} {res : Option Value × mS} {pc : Nat} {pl : mLoc} {st : List Value} {S : mS} {cu su : Nat} (is : List mI) (hc : mChk mid pc is = true) (h : mwp d mid res (mAt d mid res) is pc pl st S cu su) : mAt d mid res pc pl st S cu su := by
  intro G p l e R s m args below meth c Q C hF
  exact mwp_sound C hF (fun pc pl st S cu su hj => hj G p l e R s m args below meth c Q C hF) is pc pl st S cu su hc h
/-- fewer locals are known -/
def mlle : mLoc → mLoc → Bool
  | [], [] => true
  | none :: l, _ :: l' => mlle l l'
  | some v :: l, some w :: l' => decide (v = w) && mlle l l'
  | _, _ => false
def mlf : mLoc → mLoc → Prop
  | [], [] => True
  | none :: l, _ :: l' => mlf l l'
  | some v :: l, some w :: l' => v = w ∧ mlf l l'
  | _, _ => False
theorem mlf_at : ∀ {l l' : mLoc}, mlf l l' → l.length = l'.length ∧ ∀ (i : Nat) (v : Value), mnth l i = some (some v) → mnth l' i = some (some v)
  | [], [], _ => ⟨rfl, fun i v h => h⟩
  | [], _ :: _, h => h.elim
  | none :: l, [], h => h.elim
  | some v :: l, [], h => h.elim
  | none :: l, a :: l', h => by
    obtain ⟨h1, h2⟩ := mlf_at (l := l) (l' := l') h
    refine ⟨by simp [h1], fun i v hi => ?_⟩
    cases i with
    | zero => cases hi
    | succ i => exact h2 i v hi
  | some v :: l, none :: l', h => h.elim
  | some v :: l, some w :: l', h => by
    obtain ⟨h1, h2⟩ := mlf_at (l := l) (l' := l') h.2
    refine ⟨by simp [h1], fun i u hi => ?_⟩
    cases i with
    | zero => rw [← h.1]; exact hi
    | succ i => exact h2 i u hi
theorem mAt.less {d mid : Nat} {res : Option Value × mS} {pc : Nat} {pl pl' : mLoc} {st : List Value} {S : mS} {cu su : Nat} (hl : mlf pl pl') (h : mAt d mid res pc pl st S cu su) : mAt d mid res pc pl' st S cu su := by
  intro G p l e R s m args below meth c Q C hF H locs ls hP hS hv hcu
  obtain ⟨h1, h2⟩ := mlf_at hl
  exact h G p l e R s m args below meth c Q C hF H locs ls hP hS ⟨by rw [h1]; exact hv.1, hv.2.1, hv.2.2.1, fun i v hi => hv.2.2.2 i v (h2 i v hi)⟩ hcu
/-- the locals at a method's entry -/
def mloc : List Value → mLoc
  | [] => []
  | v :: l => match v.category with
    | 2 => some v :: none :: mloc l
    | _ => some v :: mloc l
def mpad (n : Nat) (l : mLoc) : mLoc := match n, l with
  | 0, l => l
  | n + 1, [] => none :: mpad n []
  | n + 1, a :: l => a :: mpad n l
theorem mloc_len (G : mG) : ∀ vs : List Value, (lg_sl (vs.map (mtr G))).length = (mloc vs).length
  | [] => rfl
  | v :: l => by
    have ih := mloc_len G l
    have e : lg_sl ((v :: l).map (mtr G)) = (if (mtr G v).category = 2 then [.val (mtr G v), .second] else [.val (mtr G v)]) ++ lg_sl (l.map (mtr G)) := by simp [lg_sl]
    rw [e, List.length_append, ih, mtr_cat]
    show _ = List.length (match v.category with
      | 2 => some v :: none :: mloc l
      | _ => some v :: mloc l)
    by_cases h : v.category = 2
    · rw [if_pos h, h]; simp; omega
    · rw [if_neg h]
      split
      · rename_i z; exact absurd z h
      · simp; omega
theorem mloc_at (G : mG) : ∀ (vs : List Value) (i : Nat) (v : Value), mnth (mloc vs) i = some (some v) → (lg_sl (vs.map (mtr G)))[i]? = some (.val (mtr G v))
  | [], i, v, h => by simp [mloc, mnth] at h
  | w :: l, i, v, h => by
    have ih := mloc_at G l
    have e : lg_sl ((w :: l).map (mtr G)) = (if (mtr G w).category = 2 then [.val (mtr G w), .second] else [.val (mtr G w)]) ++ lg_sl (l.map (mtr G)) := by simp [lg_sl]
    rw [e, mtr_cat]
    have h : mnth (match w.category with
      | 2 => some w :: none :: mloc l
      | _ => some w :: mloc l) i = some (some v) := h
    split at h
    · rename_i hc
      rw [if_pos hc]
      match i, h with
      | 0, h => cases h; rfl
      | 1, h => cases h
      | i + 2, h => simpa using ih i v h
    · rename_i hc
      rw [if_neg hc]
      match i, h with
      | 0, h => cases h; rfl
      | i + 1, h => simpa using ih i v h
theorem mpad_at : ∀ (n : Nat) (l : mLoc) (i : Nat) (v : Value), mnth (mpad n l) i = some (some v) → mnth l i = some (some v)
  | 0, l, i, v, h => by simpa [mpad] using h
  | n + 1, [], 0, v, h => by simp [mpad, mnth] at h
  | n + 1, [], i + 1, v, h => by
    have := mpad_at n [] i v (by simpa [mpad, mnth] using h)
    simp [mnth] at this
  | n + 1, a :: l, 0, v, h => by simpa [mpad, mnth] using h
  | n + 1, a :: l, i + 1, v, h => by
    have := mpad_at n l i v (by simpa [mpad, mnth] using h)
    simpa [mnth] using this
theorem mpad_len : ∀ (n : Nat) (l : mLoc), l.length ≤ n → (mpad n l).length = n
  | 0, l, h => by simp [mpad]; exact List.eq_nil_of_length_eq_zero (by omega)
  | n + 1, [], h => by simp [mpad, mpad_len n [] (by simp)]
  | n + 1, a :: l, h => by simp [mpad, mpad_len n l (by simpa using h)]
theorem mlv_entry {G : mG} {vs : List Value} {n : Nat} (h : (mloc vs).length ≤ n) : mlv G ((lg_sl (vs.map (mtr G)) ++ List.replicate (n - (lg_sl (vs.map (mtr G))).length) Slot.unset).toArray) n (mpad n (mloc vs)) := by
  have h0 := lv_entry (vs.map (mtr G)) (n := n) (by rw [mloc_len]; exact h)
  refine ⟨mpad_len n _ h, h0.1, h0.2.1, fun i v hi => ?_⟩
  have h1 := mloc_at G vs i v (mpad_at n _ i v hi)
  have h2 : i < (lg_sl (vs.map (mtr G))).length := (List.getElem?_eq_some_iff.mp h1).1
  simp only [List.getElem?_toArray]
  rw [List.getElem?_append_left h2]
  exact h1
/-- a method's contract out of the walk of its body -/
theorem mEv.of {d k : Nat} {vs : List Value} {S S' : mS} {r : Option Value} (hk : k < 229) (hn : S'.1.length = S.1.length + (mMc k).1) (hl : Nat.ble (mloc vs).length (mNl k) = true) (h : mAt d k (r, S') 0 (mpad (mNl k) (mloc vs)) [] S 0 0) : mEv d k vs S r S' := by
  refine ⟨hn, fun l G => ?_⟩
  obtain ⟨s1, s2, s3, s4, s5, s6, s7⟩ := mMr_say hk
  refine Met.ofW (cc := mCd k) (maxL := mNl k) (ret := mRt k) s1 rfl ?_
  intro p e s m args below meth c s₁ B hml hv
  obtain ⟨rfl, hP, hK, hz, hnk⟩ := hv
  have hx := B.exec
  have hb := B.bytes
  have hr := B.returns
  have hts0 := atoms_spec (ws := mWd k) B.pre
  have hts : ∀ w ∈ mTb, w.before (vs.map (mtr G)).toArray s = true := fun w hw => hts0 w (List.mem_cons_of_mem _ hw)
  have hown : s.vm.findClass (mY k).cls = some m.cls := findClass_of_methodNamed B.named
  have hlocks := B.notSynchronized
  have hname : meth.name = (mY k).name := (name_of_methodNamed B.named B.method).1
  have C : mCx d k G p (headSpec (mWd k) (mRm d k)).room s m (vs.map (mtr G)).toArray meth c := ⟨hx, hb, hml, hown, hts, hK, Nat.le_refl _, Nat.le_refl _, Nat.le_refl _, Nat.le_refl _, fun z => by rw [hname]; exact z, hlocks, hnk⟩
  have hl2 := Nat.le_of_ble_eq_true hl
  rw [lg_entry_eq]
  refine h G p l e _ s m _ below meth c _ C ?_ s.heap [] _ hP va_S.rf (mlv_entry hl2) (by simpa using hz)
  intro H locs ls pc cu su hP1 hS1 hz1 hcap hri
  obtain ⟨p1, p2⟩ := mcap_inv hcap
  refine W.widen (k := (mMc k).1) (n := (mMc k).2) p1 p2 ?_
  have hq : ∀ v', r = v' → ∀ t : State, t.heap = H → s.WarmedH t.vm → mQc G r S' (vs.map (mtr G)).toArray s (.returned (v'.map (mtr G))) t := by
    intro v' e1 t ht hW
    subst e1
    subst ht
    exact ⟨rfl, hP1, hS1.F rfl, hz1⟩
  rcases hri with ⟨x, e1, e2, e3⟩ | ⟨e1, e2, e3⟩ | ⟨x, e1, e2, e3, e4⟩
  · have e1' : r = some (.int x) := e1
    subst e1'
    show W _ _ _ _ _ _ _ _ _ _ _ _ _ _ _ (F0 m pc ls [.int x])
    have hrt : ∃ ty, mRt k = some ty ∧ narrow ty (.int x) = .int x := by
      unfold mrk at e2
      split at e2
      · rename_i hh; exact ⟨_, hh, rfl⟩
      · rename_i hh
        refine ⟨_, hh, ?_⟩
        rcases e2 with z | z <;> subst z <;> rfl
      · exact e2.elim
    obtain ⟨ty, hrt1, hrt2⟩ := hrt
    exact W.zret (ty := ty) hx hb (by rw [hr]; exact hrt1) hrt2 (hq (some (.int x)) rfl) hS1.2.2 e3
  · have e1' : r = none := e1
    subst e1'
    exact W.vret hx hb (by rw [hr]; exact e2) (hq none rfl) hS1.2.2 e3
  · have e1' : r = some x := e1
    subst e1'
    show W _ _ _ _ _ _ _ _ _ _ _ _ _ _ _ (F0 m pc ls [mtr G x])
    have hrt : ∃ n, mRt k = some (.object n) := by
      unfold mrq at e3
      split at e3
      · rename_i n hh; exact ⟨_, hh⟩
      · exact e3.elim
    obtain ⟨n, hrt⟩ := hrt
    exact W.aret (rt := .object n) hx hb (by rw [hr]; exact hrt) (Or.inl ⟨n, rfl⟩) (by
      rcases e2 with z | ⟨a, z⟩
      · subst z; exact Or.inl rfl
      · subst z; exact Or.inr ⟨_, rfl⟩) (hq (some x) rfl) hS1.2.2 e4
end
section
theorem mob_i {S : mS} {a ci : Nat} {rs : List (Option Nat)} {k : List (Option Nat) → Prop} (h : mnth S.1 a = some (0, ci, rs)) (hk : k rs) : mob S a ci k := by
  unfold mob
  rw [h]
  simp only [Nat.beq_refl]
  exact hk
theorem mai_i {S : mS} {a n : Nat} {k : Nat → Prop} (h : mal S a = some n) (hk : k n) : mai S a k := by
  unfold mai
  rw [h]
  exact hk
theorem mbind {α β : Type} {x : Option α} {f : α → Option β} {r : β} (h : x.bind f = some r) : ∃ q, x = some q ∧ f q = some r := Option.bind_eq_some_iff.mp h
theorem mnone {α : Type} {c : Prop} [Decidable c] {x : Option α} {r : α} (h : (if c then none else x) = some r) : ¬ c ∧ x = some r := by
  by_cases hc : c
  · rw [if_pos hc] at h; cases h
  · rw [if_neg hc] at h; exact ⟨hc, h⟩
theorem msome {α : Type} {c : Prop} [Decidable c] {x : Option α} {r : α} (h : (if c then x else none) = some r) : c ∧ x = some r := by
  by_cases hc : c
  · rw [if_pos hc] at h; exact ⟨hc, h⟩
  · rw [if_neg hc] at h; cases h
theorem mcap_0 {mid : Nat} : mcap mid 0 0 = true := by simp [mcap]
section QQ
variable {d mid : Nat} {res : Option Value × mS} {J : mK6} {is : List mI} {pc : Nat} {pl : mLoc} {st : List Value} {sh : List mE} {L : Nat} {σ : Nat → Nat → Int32} {cu su len a b w : Nat} {ps : List (Int32 × Nat)} {x y : Int32}
theorem q_iconst {n : Int} {v : Int32} {t : Nat} (k : mwp d mid res J is (pc + 1) pl (.int v :: st) (sh, L, σ) cu su) : mwp d mid res J ((.iconst n, len, a, b, w, (v, t) :: ps) :: is) pc pl (st) (sh, L, σ) cu su := k
theorem q_bipush {n : Int} {v : Int32} {t : Nat} (k : mwp d mid res J is (pc + 2) pl (.int v :: st) (sh, L, σ) cu su) : mwp d mid res J ((.bipush n, len, a, b, w, (v, t) :: ps) :: is) pc pl (st) (sh, L, σ) cu su := k
theorem q_sipush {n : Int} {v : Int32} {t : Nat} (k : mwp d mid res J is (pc + 3) pl (.int v :: st) (sh, L, σ) cu su) : mwp d mid res J ((.sipush n, len, a, b, w, (v, t) :: ps) :: is) pc pl (st) (sh, L, σ) cu su := k
theorem q_lconst {n : Fin 2} {v : Int32} {t : Nat} (k : mwp d mid res J is (pc + 1) pl (.long v.toInt64 :: st) (sh, L, σ) cu su) : mwp d mid res J ((.lconst n, len, a, b, w, (v, t) :: ps) :: is) pc pl (st) (sh, L, σ) cu su := k
theorem q_ldc {n : Nat} {v : Int32} {t : Nat} (k : mwp d mid res J is (pc + 2) pl (.int v :: st) (sh, L, σ) cu su) : mwp d mid res J ((.ldc n, len, a, b, w, (v, t) :: ps) :: is) pc pl (st) (sh, L, σ) cu su := k
theorem q_ldc_w {n : Nat} {v : Int32} {t : Nat} (k : mwp d mid res J is (pc + 3) pl (.int v :: st) (sh, L, σ) cu su) : mwp d mid res J ((.ldc_w n, len, a, b, w, (v, t) :: ps) :: is) pc pl (st) (sh, L, σ) cu su := k
theorem q_ldc2_w {n : Nat} {v : Int32} {t : Nat} (k : mwp d mid res J is (pc + 3) pl (.long v.toInt64 :: st) (sh, L, σ) cu su) : mwp d mid res J ((.ldc2_w n, len, a, b, w, (v, t) :: ps) :: is) pc pl (st) (sh, L, σ) cu su := k
theorem q_ldc2_wB {n : Nat} (k : mwp d mid res J is (pc + 3) pl (.long (Int64.ofNat a) :: st) (sh, L, σ) cu su) : mwp d mid res J ((.ldc2_w n, len, a, b, w, []) :: is) pc pl (st) (sh, L, σ) cu su := k
theorem q_aconst_null (k : mwp d mid res J is (pc + 1) pl (.null :: st) (sh, L, σ) cu su) : mwp d mid res J ((.aconst_null, len, a, b, w, ps) :: is) pc pl (st) (sh, L, σ) cu su := k
theorem q_iload_n {n : Fin 4} {z : Int32} (h : mnth pl n = some (some (.int z))) (k : mwp d mid res J is (pc + 1) pl (.int z :: st) (sh, L, σ) cu su) : mwp d mid res J ((.iload_n n, len, a, b, w, ps) :: is) pc pl (st) (sh, L, σ) cu su := by
  show mgI pl n (fun x => mwp d mid res J is (pc + 1) pl (.int x :: st) (sh, L, σ) cu su)
  unfold mgI
  rw [h]
  exact k
theorem q_iload {n : Nat} {z : Int32} (h : mnth pl n = some (some (.int z))) (k : mwp d mid res J is (pc + 2) pl (.int z :: st) (sh, L, σ) cu su) : mwp d mid res J ((.iload n, len, a, b, w, ps) :: is) pc pl (st) (sh, L, σ) cu su := by
  show mgI pl n (fun x => mwp d mid res J is (pc + 2) pl (.int x :: st) (sh, L, σ) cu su)
  unfold mgI
  rw [h]
  exact k
theorem q_aload_n {n : Fin 4} {z : Nat} (h : mnth pl n = some (some (.ref z))) (k : mwp d mid res J is (pc + 1) pl (.ref z :: st) (sh, L, σ) cu su) : mwp d mid res J ((.aload_n n, len, a, b, w, ps) :: is) pc pl (st) (sh, L, σ) cu su := by
  show mgA pl n (fun x => mwp d mid res J is (pc + 1) pl (x :: st) (sh, L, σ) cu su)
  unfold mgA
  rw [h]
  exact k
theorem q_aload {n : Nat} {z : Nat} (h : mnth pl n = some (some (.ref z))) (k : mwp d mid res J is (pc + 2) pl (.ref z :: st) (sh, L, σ) cu su) : mwp d mid res J ((.aload n, len, a, b, w, ps) :: is) pc pl (st) (sh, L, σ) cu su := by
  show mgA pl n (fun x => mwp d mid res J is (pc + 2) pl (x :: st) (sh, L, σ) cu su)
  unfold mgA
  rw [h]
  exact k
theorem q_lload_n {n : Fin 4} {z : Int64} (h : mnth pl n = some (some (.long z))) (k : mwp d mid res J is (pc + 1) pl (.long z :: st) (sh, L, σ) cu su) : mwp d mid res J ((.lload_n n, len, a, b, w, ps) :: is) pc pl (st) (sh, L, σ) cu su := by
  show mgL pl n (fun x => mwp d mid res J is (pc + 1) pl (.long x :: st) (sh, L, σ) cu su)
  unfold mgL
  rw [h]
  exact k
theorem q_lload {n : Nat} {z : Int64} (h : mnth pl n = some (some (.long z))) (k : mwp d mid res J is (pc + 2) pl (.long z :: st) (sh, L, σ) cu su) : mwp d mid res J ((.lload n, len, a, b, w, ps) :: is) pc pl (st) (sh, L, σ) cu su := by
  show mgL pl n (fun x => mwp d mid res J is (pc + 2) pl (.long x :: st) (sh, L, σ) cu su)
  unfold mgL
  rw [h]
  exact k
theorem q_istore_n {n : Fin 4} {z : Int32} {u : Option Value} (h : mnth pl n = some u) (h2 : mok1 pl n = true) (k : mwp d mid res J is (pc + 1) (mset pl n (.int z)) (st) (sh, L, σ) cu su) : mwp d mid res J ((.istore_n n, len, a, b, w, ps) :: is) pc pl (.int z :: st) (sh, L, σ) cu su := by
  show msto pl n (.int z) (fun pl => mwp d mid res J is (pc + 1) pl st (sh, L, σ) cu su)
  unfold msto
  rw [h, h2]
  exact k
theorem q_istore {n : Nat} {z : Int32} {u : Option Value} (h : mnth pl n = some u) (h2 : mok1 pl n = true) (k : mwp d mid res J is (pc + 2) (mset pl n (.int z)) (st) (sh, L, σ) cu su) : mwp d mid res J ((.istore n, len, a, b, w, ps) :: is) pc pl (.int z :: st) (sh, L, σ) cu su := by
  show msto pl n (.int z) (fun pl => mwp d mid res J is (pc + 2) pl st (sh, L, σ) cu su)
  unfold msto
  rw [h, h2]
  exact k
theorem q_astore_n {n : Fin 4} {z : Nat} {u : Option Value} (h : mnth pl n = some u) (h2 : mok1 pl n = true) (k : mwp d mid res J is (pc + 1) (mset pl n (.ref z)) (st) (sh, L, σ) cu su) : mwp d mid res J ((.astore_n n, len, a, b, w, ps) :: is) pc pl (.ref z :: st) (sh, L, σ) cu su := by
  show msto pl n (.ref z) (fun pl => mwp d mid res J is (pc + 1) pl st (sh, L, σ) cu su)
  unfold msto
  rw [h, h2]
  exact k
theorem q_astore {n : Nat} {z : Nat} {u : Option Value} (h : mnth pl n = some u) (h2 : mok1 pl n = true) (k : mwp d mid res J is (pc + 2) (mset pl n (.ref z)) (st) (sh, L, σ) cu su) : mwp d mid res J ((.astore n, len, a, b, w, ps) :: is) pc pl (.ref z :: st) (sh, L, σ) cu su := by
  show msto pl n (.ref z) (fun pl => mwp d mid res J is (pc + 2) pl st (sh, L, σ) cu su)
  unfold msto
  rw [h, h2]
  exact k
theorem q_aloadN_n {n : Fin 4} (h : mnth pl n = some (some .null)) (k : mwp d mid res J is (pc + 1) pl (.null :: st) (sh, L, σ) cu su) : mwp d mid res J ((.aload_n n, len, a, b, w, ps) :: is) pc pl (st) (sh, L, σ) cu su := by
  show mgA pl n (fun x => mwp d mid res J is (pc + 1) pl (x :: st) (sh, L, σ) cu su)
  unfold mgA
  rw [h]
  exact k
theorem q_aloadN {n : Nat} (h : mnth pl n = some (some .null)) (k : mwp d mid res J is (pc + 2) pl (.null :: st) (sh, L, σ) cu su) : mwp d mid res J ((.aload n, len, a, b, w, ps) :: is) pc pl (st) (sh, L, σ) cu su := by
  show mgA pl n (fun x => mwp d mid res J is (pc + 2) pl (x :: st) (sh, L, σ) cu su)
  unfold mgA
  rw [h]
  exact k
theorem q_astoreN_n {n : Fin 4} {u : Option Value} (h : mnth pl n = some u) (h2 : mok1 pl n = true) (k : mwp d mid res J is (pc + 1) (mset pl n .null) (st) (sh, L, σ) cu su) : mwp d mid res J ((.astore_n n, len, a, b, w, ps) :: is) pc pl (.null :: st) (sh, L, σ) cu su := by
  show msto pl n .null (fun pl => mwp d mid res J is (pc + 1) pl st (sh, L, σ) cu su)
  unfold msto
  rw [h, h2]
  exact k
theorem q_astoreN {n : Nat} {u : Option Value} (h : mnth pl n = some u) (h2 : mok1 pl n = true) (k : mwp d mid res J is (pc + 2) (mset pl n .null) (st) (sh, L, σ) cu su) : mwp d mid res J ((.astore n, len, a, b, w, ps) :: is) pc pl (.null :: st) (sh, L, σ) cu su := by
  show msto pl n .null (fun pl => mwp d mid res J is (pc + 2) pl st (sh, L, σ) cu su)
  unfold msto
  rw [h, h2]
  exact k
theorem q_iinc {n : Nat} {i : Int} {z : Int32} {v : Int32} {t : Nat} (h : mnth pl n = some (some (.int z))) (h2 : mok1 pl n = true) (k : mwp d mid res J is (pc + 3) (mset pl n (.int (z + v))) (st) (sh, L, σ) cu su) : mwp d mid res J ((.iinc n i, len, a, b, w, (v, t) :: ps) :: is) pc pl (st) (sh, L, σ) cu su := by
  show mgI pl n _
  unfold mgI
  rw [h]
  show msto pl n _ _
  unfold msto
  rw [h, h2]
  exact k
theorem q_iadd (k : mwp d mid res J is (pc + 1) pl (.int (x + y) :: st) (sh, L, σ) cu su) : mwp d mid res J ((.iadd, len, a, b, w, ps) :: is) pc pl ( .int y :: .int x :: st) (sh, L, σ) cu su := k
theorem q_isub (k : mwp d mid res J is (pc + 1) pl (.int (x - y) :: st) (sh, L, σ) cu su) : mwp d mid res J ((.isub, len, a, b, w, ps) :: is) pc pl ( .int y :: .int x :: st) (sh, L, σ) cu su := k
theorem q_imul (k : mwp d mid res J is (pc + 1) pl (.int (x * y) :: st) (sh, L, σ) cu su) : mwp d mid res J ((.imul, len, a, b, w, ps) :: is) pc pl ( .int y :: .int x :: st) (sh, L, σ) cu su := k
theorem q_iand (k : mwp d mid res J is (pc + 1) pl (.int (x &&& y) :: st) (sh, L, σ) cu su) : mwp d mid res J ((.iand, len, a, b, w, ps) :: is) pc pl ( .int y :: .int x :: st) (sh, L, σ) cu su := k
theorem q_ior (k : mwp d mid res J is (pc + 1) pl (.int (x ||| y) :: st) (sh, L, σ) cu su) : mwp d mid res J ((.ior, len, a, b, w, ps) :: is) pc pl ( .int y :: .int x :: st) (sh, L, σ) cu su := k
theorem q_ixor (k : mwp d mid res J is (pc + 1) pl (.int (x ^^^ y) :: st) (sh, L, σ) cu su) : mwp d mid res J ((.ixor, len, a, b, w, ps) :: is) pc pl ( .int y :: .int x :: st) (sh, L, σ) cu su := k
theorem q_ishl (k : mwp d mid res J is (pc + 1) pl (.int (x <<< (y &&& 31)) :: st) (sh, L, σ) cu su) : mwp d mid res J ((.ishl, len, a, b, w, ps) :: is) pc pl ( .int y :: .int x :: st) (sh, L, σ) cu su := k
theorem q_ishr (k : mwp d mid res J is (pc + 1) pl (.int (x >>> (y &&& 31)) :: st) (sh, L, σ) cu su) : mwp d mid res J ((.ishr, len, a, b, w, ps) :: is) pc pl ( .int y :: .int x :: st) (sh, L, σ) cu su := k
theorem q_iushr (k : mwp d mid res J is (pc + 1) pl (.int ((x.toUInt32 >>> (y.toUInt32 &&& Int32.toUInt32 31)).toInt32) :: st) (sh, L, σ) cu su) : mwp d mid res J ((.iushr, len, a, b, w, ps) :: is) pc pl ( .int y :: .int x :: st) (sh, L, σ) cu su := k
theorem q_idiv (h : ¬ y = 0) (k : mwp d mid res J is (pc + 1) pl (.int (x / y) :: st) (sh, L, σ) cu su) : mwp d mid res J ((.idiv, len, a, b, w, ps) :: is) pc pl (.int y :: .int x :: st) (sh, L, σ) cu su := ⟨h, k⟩
theorem q_irem (h : ¬ y = 0) (k : mwp d mid res J is (pc + 1) pl (.int (x - x / y * y) :: st) (sh, L, σ) cu su) : mwp d mid res J ((.irem, len, a, b, w, ps) :: is) pc pl (.int y :: .int x :: st) (sh, L, σ) cu su := ⟨h, k⟩
theorem q_ineg (k : mwp d mid res J is (pc + 1) pl (.int (-x) :: st) (sh, L, σ) cu su) : mwp d mid res J ((.ineg, len, a, b, w, ps) :: is) pc pl (.int x :: st) (sh, L, σ) cu su := k
theorem q_i2b (k : mwp d mid res J is (pc + 1) pl (.int (x.toInt8.toInt32) :: st) (sh, L, σ) cu su) : mwp d mid res J ((.i2b, len, a, b, w, ps) :: is) pc pl (.int x :: st) (sh, L, σ) cu su := k
theorem q_i2s (k : mwp d mid res J is (pc + 1) pl (.int (x.toInt16.toInt32) :: st) (sh, L, σ) cu su) : mwp d mid res J ((.i2s, len, a, b, w, ps) :: is) pc pl (.int x :: st) (sh, L, σ) cu su := k
theorem q_i2l (k : mwp d mid res J is (pc + 1) pl (.long x.toInt64 :: st) (sh, L, σ) cu su) : mwp d mid res J ((.i2l, len, a, b, w, ps) :: is) pc pl (.int x :: st) (sh, L, σ) cu su := k
theorem q_l2i {z : Int64} (k : mwp d mid res J is (pc + 1) pl (.int z.toInt32 :: st) (sh, L, σ) cu su) : mwp d mid res J ((.l2i, len, a, b, w, ps) :: is) pc pl (.long z :: st) (sh, L, σ) cu su := k
theorem q_land {z u : Int64} (k : mwp d mid res J is (pc + 1) pl (.long (z &&& u) :: st) (sh, L, σ) cu su) : mwp d mid res J ((.land, len, a, b, w, ps) :: is) pc pl (.long u :: .long z :: st) (sh, L, σ) cu su := k
theorem q_lor {z u : Int64} (k : mwp d mid res J is (pc + 1) pl (.long (z ||| u) :: st) (sh, L, σ) cu su) : mwp d mid res J ((.lor, len, a, b, w, ps) :: is) pc pl (.long u :: .long z :: st) (sh, L, σ) cu su := k
theorem q_lcmp {z u : Int64} (k : mwp d mid res J is (pc + 1) pl (.int (lg_cmp z u) :: st) (sh, L, σ) cu su) : mwp d mid res J ((.lcmp, len, a, b, w, ps) :: is) pc pl (.long u :: .long z :: st) (sh, L, σ) cu su := k
theorem q_lshl {z : Int64} (k : mwp d mid res J is (pc + 1) pl (.long (z <<< (y.toInt64 &&& 63)) :: st) (sh, L, σ) cu su) : mwp d mid res J ((.lshl, len, a, b, w, ps) :: is) pc pl (.int y :: .long z :: st) (sh, L, σ) cu su := k
theorem q_lshr {z : Int64} (k : mwp d mid res J is (pc + 1) pl (.long (z >>> (y.toInt64 &&& 63)) :: st) (sh, L, σ) cu su) : mwp d mid res J ((.lshr, len, a, b, w, ps) :: is) pc pl (.int y :: .long z :: st) (sh, L, σ) cu su := k
theorem q_lushr {z : Int64} (k : mwp d mid res J is (pc + 1) pl (.long ((z.toUInt64 >>> (y.toInt64.toUInt64 &&& Int64.toUInt64 63)).toInt64) :: st) (sh, L, σ) cu su) : mwp d mid res J ((.lushr, len, a, b, w, ps) :: is) pc pl (.int y :: .long z :: st) (sh, L, σ) cu su := k
theorem q_goto {o : Int} (k : J a pl st (sh, L, σ) cu su) : mwp d mid res J ((.goto o, len, a, b, w, ps) :: is) pc pl (st) (sh, L, σ) cu su := k
theorem q_if_eq {o : Int} (k : x = 0 → J a pl st (sh, L, σ) cu su) (k2 : ¬ x = 0 → mwp d mid res J is (pc + 3) pl (st) (sh, L, σ) cu su) : mwp d mid res J ((.ifCond .eq o, len, a, b, w, ps) :: is) pc pl (.int x :: st) (sh, L, σ) cu su := ⟨k, k2⟩
theorem q_if_lt {o : Int} (k : x < 0 → J a pl st (sh, L, σ) cu su) (k2 : ¬ x < 0 → mwp d mid res J is (pc + 3) pl (st) (sh, L, σ) cu su) : mwp d mid res J ((.ifCond .lt o, len, a, b, w, ps) :: is) pc pl (.int x :: st) (sh, L, σ) cu su := ⟨k, k2⟩
theorem q_if_ge {o : Int} (k : 0 ≤ x → J a pl st (sh, L, σ) cu su) (k2 : ¬ 0 ≤ x → mwp d mid res J is (pc + 3) pl (st) (sh, L, σ) cu su) : mwp d mid res J ((.ifCond .ge o, len, a, b, w, ps) :: is) pc pl (.int x :: st) (sh, L, σ) cu su := ⟨k, k2⟩
theorem q_if_gt {o : Int} (k : 0 < x → J a pl st (sh, L, σ) cu su) (k2 : ¬ 0 < x → mwp d mid res J is (pc + 3) pl (st) (sh, L, σ) cu su) : mwp d mid res J ((.ifCond .gt o, len, a, b, w, ps) :: is) pc pl (.int x :: st) (sh, L, σ) cu su := ⟨k, k2⟩
theorem q_if_le {o : Int} (k : x ≤ 0 → J a pl st (sh, L, σ) cu su) (k2 : ¬ x ≤ 0 → mwp d mid res J is (pc + 3) pl (st) (sh, L, σ) cu su) : mwp d mid res J ((.ifCond .le o, len, a, b, w, ps) :: is) pc pl (.int x :: st) (sh, L, σ) cu su := ⟨k, k2⟩
theorem q_if_ne {o : Int} (k : x = 0 → mwp d mid res J is (pc + 3) pl (st) (sh, L, σ) cu su) (k2 : ¬ x = 0 → J a pl st (sh, L, σ) cu su) : mwp d mid res J ((.ifCond .ne o, len, a, b, w, ps) :: is) pc pl (.int x :: st) (sh, L, σ) cu su := ⟨k2, fun z => k (Classical.byContradiction z)⟩
theorem q_ic_eq {o : Int} (k : x = y → J a pl st (sh, L, σ) cu su) (k2 : ¬ x = y → mwp d mid res J is (pc + 3) pl (st) (sh, L, σ) cu su) : mwp d mid res J ((.if_icmp .eq o, len, a, b, w, ps) :: is) pc pl (.int y :: .int x :: st) (sh, L, σ) cu su := ⟨k, k2⟩
theorem q_ic_lt {o : Int} (k : x < y → J a pl st (sh, L, σ) cu su) (k2 : ¬ x < y → mwp d mid res J is (pc + 3) pl (st) (sh, L, σ) cu su) : mwp d mid res J ((.if_icmp .lt o, len, a, b, w, ps) :: is) pc pl (.int y :: .int x :: st) (sh, L, σ) cu su := ⟨k, k2⟩
theorem q_ic_ge {o : Int} (k : y ≤ x → J a pl st (sh, L, σ) cu su) (k2 : ¬ y ≤ x → mwp d mid res J is (pc + 3) pl (st) (sh, L, σ) cu su) : mwp d mid res J ((.if_icmp .ge o, len, a, b, w, ps) :: is) pc pl (.int y :: .int x :: st) (sh, L, σ) cu su := ⟨k, k2⟩
theorem q_ic_gt {o : Int} (k : y < x → J a pl st (sh, L, σ) cu su) (k2 : ¬ y < x → mwp d mid res J is (pc + 3) pl (st) (sh, L, σ) cu su) : mwp d mid res J ((.if_icmp .gt o, len, a, b, w, ps) :: is) pc pl (.int y :: .int x :: st) (sh, L, σ) cu su := ⟨k, k2⟩
theorem q_ic_le {o : Int} (k : x ≤ y → J a pl st (sh, L, σ) cu su) (k2 : ¬ x ≤ y → mwp d mid res J is (pc + 3) pl (st) (sh, L, σ) cu su) : mwp d mid res J ((.if_icmp .le o, len, a, b, w, ps) :: is) pc pl (.int y :: .int x :: st) (sh, L, σ) cu su := ⟨k, k2⟩
theorem q_ic_ne {o : Int} (k : x = y → mwp d mid res J is (pc + 3) pl (st) (sh, L, σ) cu su) (k2 : ¬ x = y → J a pl st (sh, L, σ) cu su) : mwp d mid res J ((.if_icmp .ne o, len, a, b, w, ps) :: is) pc pl (.int y :: .int x :: st) (sh, L, σ) cu su := ⟨k2, fun z => k (Classical.byContradiction z)⟩
theorem q_ifnullN {o : Int} (k : J a pl st (sh, L, σ) cu su) : mwp d mid res J ((.ifnull o, len, a, b, w, ps) :: is) pc pl (.null :: st) (sh, L, σ) cu su := k
theorem q_ifnullR {o : Int} {z : Nat} (k : mwp d mid res J is (pc + 3) pl (st) (sh, L, σ) cu su) : mwp d mid res J ((.ifnull o, len, a, b, w, ps) :: is) pc pl (.ref z :: st) (sh, L, σ) cu su := k
theorem q_ifnonnullN {o : Int} (k : mwp d mid res J is (pc + 3) pl (st) (sh, L, σ) cu su) : mwp d mid res J ((.ifnonnull o, len, a, b, w, ps) :: is) pc pl (.null :: st) (sh, L, σ) cu su := k
theorem q_ifnonnullR {o : Int} {z : Nat} (k : J a pl st (sh, L, σ) cu su) : mwp d mid res J ((.ifnonnull o, len, a, b, w, ps) :: is) pc pl (.ref z :: st) (sh, L, σ) cu su := k
theorem q_tsw {df lo hi : Int} {os : Array Int} (k : msw (fun t => J t pl st (sh, L, σ) cu su) x a ps) : mwp d mid res J ((.tableswitch df lo hi os, len, a, b, w, ps) :: is) pc pl (.int x :: st) (sh, L, σ) cu su := k
theorem q_lsw {df : Int} {os : Array (Int × Int)} (k : msw (fun t => J t pl st (sh, L, σ) cu su) x a ps) : mwp d mid res J ((.lookupswitch df os, len, a, b, w, ps) :: is) pc pl (.int x :: st) (sh, L, σ) cu su := k
theorem q_dupI (k : mwp d mid res J is (pc + 1) pl (.int x :: .int x :: st) (sh, L, σ) cu su) : mwp d mid res J ((.dup, len, a, b, w, ps) :: is) pc pl (.int x :: st) (sh, L, σ) cu su := k
theorem q_dupR {z : Nat} (k : mwp d mid res J is (pc + 1) pl (.ref z :: .ref z :: st) (sh, L, σ) cu su) : mwp d mid res J ((.dup, len, a, b, w, ps) :: is) pc pl (.ref z :: st) (sh, L, σ) cu su := k
theorem q_dup2 {z : Nat} (k : mwp d mid res J is (pc + 1) pl (.int x :: .ref z :: .int x :: .ref z :: st) (sh, L, σ) cu su) : mwp d mid res J ((.dup2, len, a, b, w, ps) :: is) pc pl (.int x :: .ref z :: st) (sh, L, σ) cu su := k
theorem q_getI {n z : Nat} {rs : List (Option Nat)} (h : mnth sh z = some (0, a, rs)) (h2 : Nat.beq (mkd a b) 2 = false) (k : mwp d mid res J is (pc + 3) pl (.int (σ z b) :: st) (sh, L, σ) cu su) : mwp d mid res J ((.getfield n, len, a, b, w, ps) :: is) pc pl (.ref z :: st) (sh, L, σ) cu su := by
  refine mob_i (S := (sh, L, σ)) (a := z) (ci := a) h ?_
  show (match mkd a b with
    | 2 => mwp d mid res J is (pc + 3) pl (mpv (rs.getD b none) :: st) (sh, L, σ) cu su
    | _ => mwp d mid res J is (pc + 3) pl (.int (σ z b) :: st) (sh, L, σ) cu su)
  split
  · rename_i e
    rw [e] at h2
    cases h2
  · exact k
theorem q_getR {n z v : Nat} {rs : List (Option Nat)} (h : mnth sh z = some (0, a, rs)) (h2 : mkd a b = 2) (h3 : rs.getD b none = some v) (k : mwp d mid res J is (pc + 3) pl (.ref v :: st) (sh, L, σ) cu su) : mwp d mid res J ((.getfield n, len, a, b, w, ps) :: is) pc pl (.ref z :: st) (sh, L, σ) cu su := by
  refine mob_i (S := (sh, L, σ)) (a := z) (ci := a) h ?_
  show (match mkd a b with
    | 2 => mwp d mid res J is (pc + 3) pl (mpv (rs.getD b none) :: st) (sh, L, σ) cu su
    | _ => mwp d mid res J is (pc + 3) pl (.int (σ z b) :: st) (sh, L, σ) cu su)
  rw [h2, h3]
  exact k
theorem q_putI {n z : Nat} {rs : List (Option Nat)} (h : mnth sh z = some (0, a, rs)) (h2 : mkd a b = 0) (k : mwp d mid res J is (pc + 3) pl (st) (sh, L, mup σ z b x) cu su) : mwp d mid res J ((.putfield n, len, a, b, w, ps) :: is) pc pl (.int x :: .ref z :: st) (sh, L, σ) cu su := by
  show mputf a b pc pl _ (sh, L, σ) cu su _
  unfold mputf
  rw [h2]
  exact mob_i (S := (sh, L, σ)) (a := z) (ci := a) h k
theorem q_putZ {n z : Nat} {rs : List (Option Nat)} (h : mnth sh z = some (0, a, rs)) (h2 : mkd a b = 1) (h3 : x = 0 ∨ x = 1) (k : mwp d mid res J is (pc + 3) pl (st) (sh, L, mup σ z b x) cu su) : mwp d mid res J ((.putfield n, len, a, b, w, ps) :: is) pc pl (.int x :: .ref z :: st) (sh, L, σ) cu su := by
  show mputf a b pc pl _ (sh, L, σ) cu su _
  unfold mputf
  rw [h2]
  exact mob_i (S := (sh, L, σ)) (a := z) (ci := a) h ⟨h3, k⟩
theorem q_getstatic {n : Nat} (k : mwp d mid res J is (pc + 3) pl (.ref (1000000 + a) :: st) (sh, L, σ) cu su) : mwp d mid res J ((.getstatic n, len, a, b, w, ps) :: is) pc pl (st) (sh, L, σ) cu su := k
theorem q_alen {n z : Nat} {v : Int32} (hv : Int32.ofNat n = v) {rs : List (Option Nat)} (h : mnth sh z = some (1, n, rs)) (k : mwp d mid res J is (pc + 1) pl (.int v :: st) (sh, L, σ) cu su) : mwp d mid res J ((.arraylength, len, a, b, w, ps) :: is) pc pl (.ref z :: st) (sh, L, σ) cu su := by
  subst hv
  show (match mnth sh z with
    | some (3, n, _) => mwp d mid res J is (pc + 1) pl (.int (Int32.ofNat n) :: st) (sh, L, σ) cu su
    | _ => mai (sh, L, σ) z fun n => mwp d mid res J is (pc + 1) pl (.int (Int32.ofNat n) :: st) (sh, L, σ) cu su)
  rw [h]
  exact mai_i (by simp only [mal, h]) k
theorem q_alenD {n z : Nat} {v : Int32} (hv : Int32.ofNat n = v) (h : mal (sh, L, σ) z = some n) (k : mwp d mid res J is (pc + 1) pl (.int v :: st) (sh, L, σ) cu su) : mwp d mid res J ((.arraylength, len, a, b, w, ps) :: is) pc pl (.ref z :: st) (sh, L, σ) cu su := by
  subst hv
  show (match mnth sh z with
    | some (3, n, _) => mwp d mid res J is (pc + 1) pl (.int (Int32.ofNat n) :: st) (sh, L, σ) cu su
    | _ => mai (sh, L, σ) z fun n => mwp d mid res J is (pc + 1) pl (.int (Int32.ofNat n) :: st) (sh, L, σ) cu su)
  split
  · rename_i e
    unfold mal at h
    rw [e] at h
    cases h
  · exact mai_i h k
theorem q_alenQ {n z : Nat} {v : Int32} (hv : Int32.ofNat n = v) {rs : List (Option Nat)} (h : mnth sh z = some (3, n, rs)) (k : mwp d mid res J is (pc + 1) pl (.int v :: st) (sh, L, σ) cu su) : mwp d mid res J ((.arraylength, len, a, b, w, ps) :: is) pc pl (.ref z :: st) (sh, L, σ) cu su := by
  subst hv
  show (match mnth sh z with
    | some (3, n, _) => mwp d mid res J is (pc + 1) pl (.int (Int32.ofNat n) :: st) (sh, L, σ) cu su
    | _ => mai (sh, L, σ) z fun n => mwp d mid res J is (pc + 1) pl (.int (Int32.ofNat n) :: st) (sh, L, σ) cu su)
  rw [h]
  exact k
theorem q_iald {n z j : Nat} (h : mal (sh, L, σ) z = some n) (hj : x.toNatClampNeg = j) (h2 : ¬ (x < 0 ∨ n ≤ x.toNatClampNeg)) (k : mwp d mid res J is (pc + 1) pl (.int (σ z j) :: st) (sh, L, σ) cu su) : mwp d mid res J ((.iaload, len, a, b, w, ps) :: is) pc pl (.int x :: .ref z :: st) (sh, L, σ) cu su := by subst hj; exact mai_i (S := (sh, L, σ)) (a := z) h ⟨h2, k⟩
theorem q_iast {n z j : Nat} {rs : List (Option Nat)} (hj : x.toNatClampNeg = j) (h : mnth sh z = some (1, n, rs)) (h2 : ¬ (x < 0 ∨ n ≤ x.toNatClampNeg)) (k : mwp d mid res J is (pc + 1) pl (st) (sh, L, mup σ z j y) cu su) : mwp d mid res J ((.iastore, len, a, b, w, ps) :: is) pc pl (.int y :: .int x :: .ref z :: st) (sh, L, σ) cu su := by
  subst hj
  show (match mnth sh z with
    | some (1, n, _) => vp_in x n ∧ mwp d mid res J is (pc + 1) pl st (sh, L, mup σ z x.toNatClampNeg y) cu su
    | _ => False)
  rw [h]
  exact ⟨h2, k⟩
theorem q_bald {n z j : Nat} {rs : List (Option Nat)} (hj : x.toNatClampNeg = j) (h : mnth sh z = some (2, n, rs)) (h2 : ¬ (x < 0 ∨ n ≤ x.toNatClampNeg)) (k : mwp d mid res J is (pc + 1) pl (.int (σ z j) :: st) (sh, L, σ) cu su) : mwp d mid res J ((.baload, len, a, b, w, ps) :: is) pc pl (.int x :: .ref z :: st) (sh, L, σ) cu su := by
  subst hj
  show maz (sh, L, σ) z fun n => vp_in x n ∧ mwp d mid res J is (pc + 1) pl (.int (σ z x.toNatClampNeg) :: st) (sh, L, σ) cu su
  unfold maz
  rw [h]
  exact ⟨h2, k⟩
theorem q_bast {n z j : Nat} {rs : List (Option Nat)} (hj : x.toNatClampNeg = j) (h : mnth sh z = some (2, n, rs)) (h2 : ¬ (x < 0 ∨ n ≤ x.toNatClampNeg)) (k : mwp d mid res J is (pc + 1) pl (st) (sh, L, mup σ z j (vp_nar .boolean y)) cu su) : mwp d mid res J ((.bastore, len, a, b, w, ps) :: is) pc pl (.int y :: .int x :: .ref z :: st) (sh, L, σ) cu su := by
  subst hj
  show maz (sh, L, σ) z fun n => vp_in x n ∧ mwp d mid res J is (pc + 1) pl st (sh, L, mup σ z x.toNatClampNeg (vp_nar .boolean y)) cu su
  unfold maz
  rw [h]
  exact ⟨h2, k⟩
theorem q_aald {n z v : Nat} {rs : List (Option Nat)} (h : mnth sh z = some (3, n, rs)) (h2 : ¬ (x < 0 ∨ n ≤ x.toNatClampNeg)) (h3 : rs.getD x.toNatClampNeg none = some v) (k : mwp d mid res J is (pc + 1) pl (.ref v :: st) (sh, L, σ) cu su) : mwp d mid res J ((.aaload, len, a, b, w, ps) :: is) pc pl (.int x :: .ref z :: st) (sh, L, σ) cu su := by
  show maq (sh, L, σ) z fun n rs => vp_in x n ∧ mwp d mid res J is (pc + 1) pl (mpv (rs.getD x.toNatClampNeg none) :: st) (sh, L, σ) cu su
  unfold maq
  rw [h]
  refine ⟨h2, ?_⟩
  rw [h3]
  exact k
theorem q_min {n : Nat} (h : Nat.ble (mcats st) 8 = true) (h2 : 1 ≤ d) (h3 : mcap mid cu su = true) (k : mwp d mid res J is (pc + 3) pl (.int (if y < x then y else x) :: st) (sh, L, σ) cu su) : mwp d mid res J ((.invokestatic n, len, 997, b, w, ps) :: is) pc pl (.int y :: .int x :: st) (sh, L, σ) cu su := ⟨⟨h, h3, h2⟩, k⟩
theorem q_max {n : Nat} (h : Nat.ble (mcats st) 8 = true) (h2 : 1 ≤ d) (h3 : mcap mid cu su = true) (k : mwp d mid res J is (pc + 3) pl (.int (if x < y then y else x) :: st) (sh, L, σ) cu su) : mwp d mid res J ((.invokestatic n, len, 996, b, w, ps) :: is) pc pl (.int y :: .int x :: st) (sh, L, σ) cu su := ⟨⟨h, h3, h2⟩, k⟩
theorem q_copy {m z u n0 n1 : Nat} {r0 r1 : List (Option Nat)} {sp dp n : Int32} (h : Nat.ble (mcats st) 8 = true) (h2 : 1 ≤ d) (h3 : mnth sh z = some (1, n0, r0)) (h4 : mnth sh u = some (1, n1, r1)) (h5 : ¬ (sp < 0 ∨ dp < 0 ∨ n < 0 ∨ n0 < sp.toNatClampNeg + n.toNatClampNeg ∨ n1 < dp.toNatClampNeg + n.toNatClampNeg)) (k : mwp d mid res J is (pc + 3) pl (st) (sh, L, mrow σ u (va_cpy (σ z) (σ u) sp.toNatClampNeg dp.toNatClampNeg n.toNatClampNeg)) cu su) : mwp d mid res J ((.invokestatic m, len, 998, b, w, ps) :: is) pc pl (.int n :: .int dp :: .ref u :: .int sp :: .ref z :: st) (sh, L, σ) cu su := by
  refine ⟨⟨h, h2⟩, ?_⟩
  show (match mnth sh z, mnth sh u with
    | some (1, n0, _), some (1, n1, _) => (¬ sp < 0 ∧ ¬ dp < 0 ∧ ¬ n < 0 ∧ sp.toNatClampNeg + n.toNatClampNeg ≤ n0 ∧ dp.toNatClampNeg + n.toNatClampNeg ≤ n1) ∧ mwp d mid res J is (pc + 3) pl st (sh, L, mrow σ u (va_cpy (σ z) (σ u) sp.toNatClampNeg dp.toNatClampNeg n.toNatClampNeg)) cu su
    | _, _ => False)
  rw [h3, h4]
  refine ⟨⟨fun q => h5 (Or.inl q), fun q => h5 (Or.inr (Or.inl q)), fun q => h5 (Or.inr (Or.inr (Or.inl q))), ?_, ?_⟩, k⟩
  · exact Nat.not_lt.mp fun q => h5 (Or.inr (Or.inr (Or.inr (Or.inl q))))
  · exact Nat.not_lt.mp fun q => h5 (Or.inr (Or.inr (Or.inr (Or.inr q))))
theorem q_iretI {n : Int32} (h : mRt mid = some .int) (h2 : res = (some (.int n), (sh, L, σ))) : mwp d mid res J ((.ireturn, len, a, b, w, ps) :: is) pc pl [.int n] (sh, L, σ) 0 0 := ⟨mcap_0, by rw [h]; trivial, h2⟩
theorem q_iretZ {n : Int32} (h : mRt mid = some .boolean) (hv : n = 0 ∨ n = 1) (h2 : res = (some (.int n), (sh, L, σ))) : mwp d mid res J ((.ireturn, len, a, b, w, ps) :: is) pc pl [.int n] (sh, L, σ) 0 0 := ⟨mcap_0, by rw [h]; exact hv, h2⟩
theorem q_iret {n : Int32} (h : mrk (mRt mid) n) (h2 : res = (some (.int n), (sh, L, σ))) : mwp d mid res J ((.ireturn, len, a, b, w, ps) :: is) pc pl [.int n] (sh, L, σ) 0 0 := ⟨mcap_0, h, h2⟩
theorem q_vret (h : mRt mid = none) (h2 : res = (none, (sh, L, σ))) : mwp d mid res J ((.return_, len, a, b, w, ps) :: is) pc pl [] (sh, L, σ) 0 0 := ⟨mcap_0, h, h2⟩
theorem q_aretN (h : mrq (mRt mid)) (h2 : res = (some .null, (sh, L, σ))) : mwp d mid res J ((.areturn, len, a, b, w, ps) :: is) pc pl [.null] (sh, L, σ) 0 0 := ⟨mcap_0, h, h2⟩
theorem q_aretR {n : Nat} (h : mrq (mRt mid)) (h2 : res = (some (.ref n), (sh, L, σ))) : mwp d mid res J ((.areturn, len, a, b, w, ps) :: is) pc pl [.ref n] (sh, L, σ) 0 0 := ⟨mcap_0, h, h2⟩
theorem q_vI0 {m z d' : Nat} {rs : List (Option Nat)} {S' : mS} (hn : mNa a = 0) (hm : mMc a = (0, 0)) (ho : mnth sh z = some (0, mcN a, rs)) (hc : Nat.ble (mcats st) 8 = true) (hd : d' + 1 ≤ d) (hE : mEv d' a [.ref z] (sh, L, σ) (some (.int x)) S') (k : mwp d mid res J is (pc + 3) pl (.int x :: st) S' 0 0) : mwp d mid res J ((.invokevirtual m, len, a, b, w, ps) :: is) pc pl (.ref z :: st) (sh, L, σ) 0 0 := by
  show mcut (mNa a + 1) _ [] _
  rw [hn]
  refine mob_i (S := (sh, L, σ)) (a := z) (ci := mcN a) ho ⟨⟨hc, by rw [hm]; exact mcap_0⟩, d', _, S', hd, hE, ?_⟩
  rw [show 0 + (mMc a).1 = 0 by simp [hm], show 0 + (mMc a).2 = 0 by simp [hm]]
  exact k
theorem q_sI0 {m d' : Nat} {S' : mS} (ha : Nat.blt a 229 = true) (hn : mNa a = 0) (hm : mMc a = (0, 0)) (hc : Nat.ble (mcats st) 8 = true) (hd : d' + 1 ≤ d) (hE : mEv d' a [] (sh, L, σ) (some (.int x)) S') (k : mwp d mid res J is (pc + 3) pl (.int x :: st) S' 0 0) : mwp d mid res J ((.invokestatic m, len, a, b, w, ps) :: is) pc pl (st) (sh, L, σ) 0 0 := by
  have ha : a < 229 := by simpa [Nat.blt_eq] using ha
  show mistat d mid a pc pl _ (sh, L, σ) 0 0 _
  unfold mistat
  split
  · omega
  · omega
  · omega
  · rw [hn]
    refine ⟨⟨hc, by rw [hm]; exact mcap_0⟩, d', _, S', hd, hE, ?_⟩
    rw [show 0 + (mMc a).1 = 0 by simp [hm], show 0 + (mMc a).2 = 0 by simp [hm]]
    exact k
theorem q_vV0 {m z d' : Nat} {rs : List (Option Nat)} {S' : mS} (hn : mNa a = 0) (hm : mMc a = (0, 0)) (ho : mnth sh z = some (0, mcN a, rs)) (hc : Nat.ble (mcats st) 8 = true) (hd : d' + 1 ≤ d) (hE : mEv d' a [.ref z] (sh, L, σ) none S') (k : mwp d mid res J is (pc + 3) pl (st) S' 0 0) : mwp d mid res J ((.invokevirtual m, len, a, b, w, ps) :: is) pc pl (.ref z :: st) (sh, L, σ) 0 0 := by
  show mcut (mNa a + 1) _ [] _
  rw [hn]
  refine mob_i (S := (sh, L, σ)) (a := z) (ci := mcN a) ho ⟨⟨hc, by rw [hm]; exact mcap_0⟩, d', _, S', hd, hE, ?_⟩
  rw [show 0 + (mMc a).1 = 0 by simp [hm], show 0 + (mMc a).2 = 0 by simp [hm]]
  exact k
theorem q_sV0 {m d' : Nat} {S' : mS} (ha : Nat.blt a 229 = true) (hn : mNa a = 0) (hm : mMc a = (0, 0)) (hc : Nat.ble (mcats st) 8 = true) (hd : d' + 1 ≤ d) (hE : mEv d' a [] (sh, L, σ) none S') (k : mwp d mid res J is (pc + 3) pl (st) S' 0 0) : mwp d mid res J ((.invokestatic m, len, a, b, w, ps) :: is) pc pl (st) (sh, L, σ) 0 0 := by
  have ha : a < 229 := by simpa [Nat.blt_eq] using ha
  show mistat d mid a pc pl _ (sh, L, σ) 0 0 _
  unfold mistat
  split
  · omega
  · omega
  · omega
  · rw [hn]
    refine ⟨⟨hc, by rw [hm]; exact mcap_0⟩, d', _, S', hd, hE, ?_⟩
    rw [show 0 + (mMc a).1 = 0 by simp [hm], show 0 + (mMc a).2 = 0 by simp [hm]]
    exact k
theorem q_vN0 {m z d' : Nat} {rs : List (Option Nat)} {S' : mS} (hn : mNa a = 0) (hm : mMc a = (0, 0)) (ho : mnth sh z = some (0, mcN a, rs)) (hc : Nat.ble (mcats st) 8 = true) (hd : d' + 1 ≤ d) (hE : mEv d' a [.ref z] (sh, L, σ) (some .null) S') (k : mwp d mid res J is (pc + 3) pl (.null :: st) S' 0 0) : mwp d mid res J ((.invokevirtual m, len, a, b, w, ps) :: is) pc pl (.ref z :: st) (sh, L, σ) 0 0 := by
  show mcut (mNa a + 1) _ [] _
  rw [hn]
  refine mob_i (S := (sh, L, σ)) (a := z) (ci := mcN a) ho ⟨⟨hc, by rw [hm]; exact mcap_0⟩, d', _, S', hd, hE, ?_⟩
  rw [show 0 + (mMc a).1 = 0 by simp [hm], show 0 + (mMc a).2 = 0 by simp [hm]]
  exact k
theorem q_sN0 {m d' : Nat} {S' : mS} (ha : Nat.blt a 229 = true) (hn : mNa a = 0) (hm : mMc a = (0, 0)) (hc : Nat.ble (mcats st) 8 = true) (hd : d' + 1 ≤ d) (hE : mEv d' a [] (sh, L, σ) (some .null) S') (k : mwp d mid res J is (pc + 3) pl (.null :: st) S' 0 0) : mwp d mid res J ((.invokestatic m, len, a, b, w, ps) :: is) pc pl (st) (sh, L, σ) 0 0 := by
  have ha : a < 229 := by simpa [Nat.blt_eq] using ha
  show mistat d mid a pc pl _ (sh, L, σ) 0 0 _
  unfold mistat
  split
  · omega
  · omega
  · omega
  · rw [hn]
    refine ⟨⟨hc, by rw [hm]; exact mcap_0⟩, d', _, S', hd, hE, ?_⟩
    rw [show 0 + (mMc a).1 = 0 by simp [hm], show 0 + (mMc a).2 = 0 by simp [hm]]
    exact k
theorem q_vR0 {u : Nat} {m z d' : Nat} {rs : List (Option Nat)} {S' : mS} (hn : mNa a = 0) (hm : mMc a = (0, 0)) (ho : mnth sh z = some (0, mcN a, rs)) (hc : Nat.ble (mcats st) 8 = true) (hd : d' + 1 ≤ d) (hE : mEv d' a [.ref z] (sh, L, σ) (some (.ref u)) S') (k : mwp d mid res J is (pc + 3) pl (.ref u :: st) S' 0 0) : mwp d mid res J ((.invokevirtual m, len, a, b, w, ps) :: is) pc pl (.ref z :: st) (sh, L, σ) 0 0 := by
  show mcut (mNa a + 1) _ [] _
  rw [hn]
  refine mob_i (S := (sh, L, σ)) (a := z) (ci := mcN a) ho ⟨⟨hc, by rw [hm]; exact mcap_0⟩, d', _, S', hd, hE, ?_⟩
  rw [show 0 + (mMc a).1 = 0 by simp [hm], show 0 + (mMc a).2 = 0 by simp [hm]]
  exact k
theorem q_sR0 {u : Nat} {m d' : Nat} {S' : mS} (ha : Nat.blt a 229 = true) (hn : mNa a = 0) (hm : mMc a = (0, 0)) (hc : Nat.ble (mcats st) 8 = true) (hd : d' + 1 ≤ d) (hE : mEv d' a [] (sh, L, σ) (some (.ref u)) S') (k : mwp d mid res J is (pc + 3) pl (.ref u :: st) S' 0 0) : mwp d mid res J ((.invokestatic m, len, a, b, w, ps) :: is) pc pl (st) (sh, L, σ) 0 0 := by
  have ha : a < 229 := by simpa [Nat.blt_eq] using ha
  show mistat d mid a pc pl _ (sh, L, σ) 0 0 _
  unfold mistat
  split
  · omega
  · omega
  · omega
  · rw [hn]
    refine ⟨⟨hc, by rw [hm]; exact mcap_0⟩, d', _, S', hd, hE, ?_⟩
    rw [show 0 + (mMc a).1 = 0 by simp [hm], show 0 + (mMc a).2 = 0 by simp [hm]]
    exact k
theorem q_vI1 {v1 : Value} {m z d' : Nat} {rs : List (Option Nat)} {S' : mS} (hn : mNa a = 1) (hm : mMc a = (0, 0)) (ho : mnth sh z = some (0, mcN a, rs)) (hc : Nat.ble (mcats st) 8 = true) (hd : d' + 1 ≤ d) (hE : mEv d' a [.ref z, v1] (sh, L, σ) (some (.int x)) S') (k : mwp d mid res J is (pc + 3) pl (.int x :: st) S' 0 0) : mwp d mid res J ((.invokevirtual m, len, a, b, w, ps) :: is) pc pl (v1 :: .ref z :: st) (sh, L, σ) 0 0 := by
  show mcut (mNa a + 1) _ [] _
  rw [hn]
  refine mob_i (S := (sh, L, σ)) (a := z) (ci := mcN a) ho ⟨⟨hc, by rw [hm]; exact mcap_0⟩, d', _, S', hd, hE, ?_⟩
  rw [show 0 + (mMc a).1 = 0 by simp [hm], show 0 + (mMc a).2 = 0 by simp [hm]]
  exact k
theorem q_sI1 {v1 : Value} {m d' : Nat} {S' : mS} (ha : Nat.blt a 229 = true) (hn : mNa a = 1) (hm : mMc a = (0, 0)) (hc : Nat.ble (mcats st) 8 = true) (hd : d' + 1 ≤ d) (hE : mEv d' a [v1] (sh, L, σ) (some (.int x)) S') (k : mwp d mid res J is (pc + 3) pl (.int x :: st) S' 0 0) : mwp d mid res J ((.invokestatic m, len, a, b, w, ps) :: is) pc pl (v1 :: st) (sh, L, σ) 0 0 := by
  have ha : a < 229 := by simpa [Nat.blt_eq] using ha
  show mistat d mid a pc pl _ (sh, L, σ) 0 0 _
  unfold mistat
  split
  · omega
  · omega
  · omega
  · rw [hn]
    refine ⟨⟨hc, by rw [hm]; exact mcap_0⟩, d', _, S', hd, hE, ?_⟩
    rw [show 0 + (mMc a).1 = 0 by simp [hm], show 0 + (mMc a).2 = 0 by simp [hm]]
    exact k
theorem q_vV1 {v1 : Value} {m z d' : Nat} {rs : List (Option Nat)} {S' : mS} (hn : mNa a = 1) (hm : mMc a = (0, 0)) (ho : mnth sh z = some (0, mcN a, rs)) (hc : Nat.ble (mcats st) 8 = true) (hd : d' + 1 ≤ d) (hE : mEv d' a [.ref z, v1] (sh, L, σ) none S') (k : mwp d mid res J is (pc + 3) pl (st) S' 0 0) : mwp d mid res J ((.invokevirtual m, len, a, b, w, ps) :: is) pc pl (v1 :: .ref z :: st) (sh, L, σ) 0 0 := by
  show mcut (mNa a + 1) _ [] _
  rw [hn]
  refine mob_i (S := (sh, L, σ)) (a := z) (ci := mcN a) ho ⟨⟨hc, by rw [hm]; exact mcap_0⟩, d', _, S', hd, hE, ?_⟩
  rw [show 0 + (mMc a).1 = 0 by simp [hm], show 0 + (mMc a).2 = 0 by simp [hm]]
  exact k
theorem q_sV1 {v1 : Value} {m d' : Nat} {S' : mS} (ha : Nat.blt a 229 = true) (hn : mNa a = 1) (hm : mMc a = (0, 0)) (hc : Nat.ble (mcats st) 8 = true) (hd : d' + 1 ≤ d) (hE : mEv d' a [v1] (sh, L, σ) none S') (k : mwp d mid res J is (pc + 3) pl (st) S' 0 0) : mwp d mid res J ((.invokestatic m, len, a, b, w, ps) :: is) pc pl (v1 :: st) (sh, L, σ) 0 0 := by
  have ha : a < 229 := by simpa [Nat.blt_eq] using ha
  show mistat d mid a pc pl _ (sh, L, σ) 0 0 _
  unfold mistat
  split
  · omega
  · omega
  · omega
  · rw [hn]
    refine ⟨⟨hc, by rw [hm]; exact mcap_0⟩, d', _, S', hd, hE, ?_⟩
    rw [show 0 + (mMc a).1 = 0 by simp [hm], show 0 + (mMc a).2 = 0 by simp [hm]]
    exact k
theorem q_vN1 {v1 : Value} {m z d' : Nat} {rs : List (Option Nat)} {S' : mS} (hn : mNa a = 1) (hm : mMc a = (0, 0)) (ho : mnth sh z = some (0, mcN a, rs)) (hc : Nat.ble (mcats st) 8 = true) (hd : d' + 1 ≤ d) (hE : mEv d' a [.ref z, v1] (sh, L, σ) (some .null) S') (k : mwp d mid res J is (pc + 3) pl (.null :: st) S' 0 0) : mwp d mid res J ((.invokevirtual m, len, a, b, w, ps) :: is) pc pl (v1 :: .ref z :: st) (sh, L, σ) 0 0 := by
  show mcut (mNa a + 1) _ [] _
  rw [hn]
  refine mob_i (S := (sh, L, σ)) (a := z) (ci := mcN a) ho ⟨⟨hc, by rw [hm]; exact mcap_0⟩, d', _, S', hd, hE, ?_⟩
  rw [show 0 + (mMc a).1 = 0 by simp [hm], show 0 + (mMc a).2 = 0 by simp [hm]]
  exact k
theorem q_sN1 {v1 : Value} {m d' : Nat} {S' : mS} (ha : Nat.blt a 229 = true) (hn : mNa a = 1) (hm : mMc a = (0, 0)) (hc : Nat.ble (mcats st) 8 = true) (hd : d' + 1 ≤ d) (hE : mEv d' a [v1] (sh, L, σ) (some .null) S') (k : mwp d mid res J is (pc + 3) pl (.null :: st) S' 0 0) : mwp d mid res J ((.invokestatic m, len, a, b, w, ps) :: is) pc pl (v1 :: st) (sh, L, σ) 0 0 := by
  have ha : a < 229 := by simpa [Nat.blt_eq] using ha
  show mistat d mid a pc pl _ (sh, L, σ) 0 0 _
  unfold mistat
  split
  · omega
  · omega
  · omega
  · rw [hn]
    refine ⟨⟨hc, by rw [hm]; exact mcap_0⟩, d', _, S', hd, hE, ?_⟩
    rw [show 0 + (mMc a).1 = 0 by simp [hm], show 0 + (mMc a).2 = 0 by simp [hm]]
    exact k
theorem q_vR1 {v1 : Value} {u : Nat} {m z d' : Nat} {rs : List (Option Nat)} {S' : mS} (hn : mNa a = 1) (hm : mMc a = (0, 0)) (ho : mnth sh z = some (0, mcN a, rs)) (hc : Nat.ble (mcats st) 8 = true) (hd : d' + 1 ≤ d) (hE : mEv d' a [.ref z, v1] (sh, L, σ) (some (.ref u)) S') (k : mwp d mid res J is (pc + 3) pl (.ref u :: st) S' 0 0) : mwp d mid res J ((.invokevirtual m, len, a, b, w, ps) :: is) pc pl (v1 :: .ref z :: st) (sh, L, σ) 0 0 := by
  show mcut (mNa a + 1) _ [] _
  rw [hn]
  refine mob_i (S := (sh, L, σ)) (a := z) (ci := mcN a) ho ⟨⟨hc, by rw [hm]; exact mcap_0⟩, d', _, S', hd, hE, ?_⟩
  rw [show 0 + (mMc a).1 = 0 by simp [hm], show 0 + (mMc a).2 = 0 by simp [hm]]
  exact k
theorem q_sR1 {v1 : Value} {u : Nat} {m d' : Nat} {S' : mS} (ha : Nat.blt a 229 = true) (hn : mNa a = 1) (hm : mMc a = (0, 0)) (hc : Nat.ble (mcats st) 8 = true) (hd : d' + 1 ≤ d) (hE : mEv d' a [v1] (sh, L, σ) (some (.ref u)) S') (k : mwp d mid res J is (pc + 3) pl (.ref u :: st) S' 0 0) : mwp d mid res J ((.invokestatic m, len, a, b, w, ps) :: is) pc pl (v1 :: st) (sh, L, σ) 0 0 := by
  have ha : a < 229 := by simpa [Nat.blt_eq] using ha
  show mistat d mid a pc pl _ (sh, L, σ) 0 0 _
  unfold mistat
  split
  · omega
  · omega
  · omega
  · rw [hn]
    refine ⟨⟨hc, by rw [hm]; exact mcap_0⟩, d', _, S', hd, hE, ?_⟩
    rw [show 0 + (mMc a).1 = 0 by simp [hm], show 0 + (mMc a).2 = 0 by simp [hm]]
    exact k
theorem q_vI2 {v1 v2 : Value} {m z d' : Nat} {rs : List (Option Nat)} {S' : mS} (hn : mNa a = 2) (hm : mMc a = (0, 0)) (ho : mnth sh z = some (0, mcN a, rs)) (hc : Nat.ble (mcats st) 8 = true) (hd : d' + 1 ≤ d) (hE : mEv d' a [.ref z, v1, v2] (sh, L, σ) (some (.int x)) S') (k : mwp d mid res J is (pc + 3) pl (.int x :: st) S' 0 0) : mwp d mid res J ((.invokevirtual m, len, a, b, w, ps) :: is) pc pl (v2 :: v1 :: .ref z :: st) (sh, L, σ) 0 0 := by
  show mcut (mNa a + 1) _ [] _
  rw [hn]
  refine mob_i (S := (sh, L, σ)) (a := z) (ci := mcN a) ho ⟨⟨hc, by rw [hm]; exact mcap_0⟩, d', _, S', hd, hE, ?_⟩
  rw [show 0 + (mMc a).1 = 0 by simp [hm], show 0 + (mMc a).2 = 0 by simp [hm]]
  exact k
theorem q_sI2 {v1 v2 : Value} {m d' : Nat} {S' : mS} (ha : Nat.blt a 229 = true) (hn : mNa a = 2) (hm : mMc a = (0, 0)) (hc : Nat.ble (mcats st) 8 = true) (hd : d' + 1 ≤ d) (hE : mEv d' a [v1, v2] (sh, L, σ) (some (.int x)) S') (k : mwp d mid res J is (pc + 3) pl (.int x :: st) S' 0 0) : mwp d mid res J ((.invokestatic m, len, a, b, w, ps) :: is) pc pl (v2 :: v1 :: st) (sh, L, σ) 0 0 := by
  have ha : a < 229 := by simpa [Nat.blt_eq] using ha
  show mistat d mid a pc pl _ (sh, L, σ) 0 0 _
  unfold mistat
  split
  · omega
  · omega
  · omega
  · rw [hn]
    refine ⟨⟨hc, by rw [hm]; exact mcap_0⟩, d', _, S', hd, hE, ?_⟩
    rw [show 0 + (mMc a).1 = 0 by simp [hm], show 0 + (mMc a).2 = 0 by simp [hm]]
    exact k
theorem q_vV2 {v1 v2 : Value} {m z d' : Nat} {rs : List (Option Nat)} {S' : mS} (hn : mNa a = 2) (hm : mMc a = (0, 0)) (ho : mnth sh z = some (0, mcN a, rs)) (hc : Nat.ble (mcats st) 8 = true) (hd : d' + 1 ≤ d) (hE : mEv d' a [.ref z, v1, v2] (sh, L, σ) none S') (k : mwp d mid res J is (pc + 3) pl (st) S' 0 0) : mwp d mid res J ((.invokevirtual m, len, a, b, w, ps) :: is) pc pl (v2 :: v1 :: .ref z :: st) (sh, L, σ) 0 0 := by
  show mcut (mNa a + 1) _ [] _
  rw [hn]
  refine mob_i (S := (sh, L, σ)) (a := z) (ci := mcN a) ho ⟨⟨hc, by rw [hm]; exact mcap_0⟩, d', _, S', hd, hE, ?_⟩
  rw [show 0 + (mMc a).1 = 0 by simp [hm], show 0 + (mMc a).2 = 0 by simp [hm]]
  exact k
theorem q_sV2 {v1 v2 : Value} {m d' : Nat} {S' : mS} (ha : Nat.blt a 229 = true) (hn : mNa a = 2) (hm : mMc a = (0, 0)) (hc : Nat.ble (mcats st) 8 = true) (hd : d' + 1 ≤ d) (hE : mEv d' a [v1, v2] (sh, L, σ) none S') (k : mwp d mid res J is (pc + 3) pl (st) S' 0 0) : mwp d mid res J ((.invokestatic m, len, a, b, w, ps) :: is) pc pl (v2 :: v1 :: st) (sh, L, σ) 0 0 := by
  have ha : a < 229 := by simpa [Nat.blt_eq] using ha
  show mistat d mid a pc pl _ (sh, L, σ) 0 0 _
  unfold mistat
  split
  · omega
  · omega
  · omega
  · rw [hn]
    refine ⟨⟨hc, by rw [hm]; exact mcap_0⟩, d', _, S', hd, hE, ?_⟩
    rw [show 0 + (mMc a).1 = 0 by simp [hm], show 0 + (mMc a).2 = 0 by simp [hm]]
    exact k
theorem q_vN2 {v1 v2 : Value} {m z d' : Nat} {rs : List (Option Nat)} {S' : mS} (hn : mNa a = 2) (hm : mMc a = (0, 0)) (ho : mnth sh z = some (0, mcN a, rs)) (hc : Nat.ble (mcats st) 8 = true) (hd : d' + 1 ≤ d) (hE : mEv d' a [.ref z, v1, v2] (sh, L, σ) (some .null) S') (k : mwp d mid res J is (pc + 3) pl (.null :: st) S' 0 0) : mwp d mid res J ((.invokevirtual m, len, a, b, w, ps) :: is) pc pl (v2 :: v1 :: .ref z :: st) (sh, L, σ) 0 0 := by
  show mcut (mNa a + 1) _ [] _
  rw [hn]
  refine mob_i (S := (sh, L, σ)) (a := z) (ci := mcN a) ho ⟨⟨hc, by rw [hm]; exact mcap_0⟩, d', _, S', hd, hE, ?_⟩
  rw [show 0 + (mMc a).1 = 0 by simp [hm], show 0 + (mMc a).2 = 0 by simp [hm]]
  exact k
theorem q_sN2 {v1 v2 : Value} {m d' : Nat} {S' : mS} (ha : Nat.blt a 229 = true) (hn : mNa a = 2) (hm : mMc a = (0, 0)) (hc : Nat.ble (mcats st) 8 = true) (hd : d' + 1 ≤ d) (hE : mEv d' a [v1, v2] (sh, L, σ) (some .null) S') (k : mwp d mid res J is (pc + 3) pl (.null :: st) S' 0 0) : mwp d mid res J ((.invokestatic m, len, a, b, w, ps) :: is) pc pl (v2 :: v1 :: st) (sh, L, σ) 0 0 := by
  have ha : a < 229 := by simpa [Nat.blt_eq] using ha
  show mistat d mid a pc pl _ (sh, L, σ) 0 0 _
  unfold mistat
  split
  · omega
  · omega
  · omega
  · rw [hn]
    refine ⟨⟨hc, by rw [hm]; exact mcap_0⟩, d', _, S', hd, hE, ?_⟩
    rw [show 0 + (mMc a).1 = 0 by simp [hm], show 0 + (mMc a).2 = 0 by simp [hm]]
    exact k
theorem q_vR2 {v1 v2 : Value} {u : Nat} {m z d' : Nat} {rs : List (Option Nat)} {S' : mS} (hn : mNa a = 2) (hm : mMc a = (0, 0)) (ho : mnth sh z = some (0, mcN a, rs)) (hc : Nat.ble (mcats st) 8 = true) (hd : d' + 1 ≤ d) (hE : mEv d' a [.ref z, v1, v2] (sh, L, σ) (some (.ref u)) S') (k : mwp d mid res J is (pc + 3) pl (.ref u :: st) S' 0 0) : mwp d mid res J ((.invokevirtual m, len, a, b, w, ps) :: is) pc pl (v2 :: v1 :: .ref z :: st) (sh, L, σ) 0 0 := by
  show mcut (mNa a + 1) _ [] _
  rw [hn]
  refine mob_i (S := (sh, L, σ)) (a := z) (ci := mcN a) ho ⟨⟨hc, by rw [hm]; exact mcap_0⟩, d', _, S', hd, hE, ?_⟩
  rw [show 0 + (mMc a).1 = 0 by simp [hm], show 0 + (mMc a).2 = 0 by simp [hm]]
  exact k
theorem q_sR2 {v1 v2 : Value} {u : Nat} {m d' : Nat} {S' : mS} (ha : Nat.blt a 229 = true) (hn : mNa a = 2) (hm : mMc a = (0, 0)) (hc : Nat.ble (mcats st) 8 = true) (hd : d' + 1 ≤ d) (hE : mEv d' a [v1, v2] (sh, L, σ) (some (.ref u)) S') (k : mwp d mid res J is (pc + 3) pl (.ref u :: st) S' 0 0) : mwp d mid res J ((.invokestatic m, len, a, b, w, ps) :: is) pc pl (v2 :: v1 :: st) (sh, L, σ) 0 0 := by
  have ha : a < 229 := by simpa [Nat.blt_eq] using ha
  show mistat d mid a pc pl _ (sh, L, σ) 0 0 _
  unfold mistat
  split
  · omega
  · omega
  · omega
  · rw [hn]
    refine ⟨⟨hc, by rw [hm]; exact mcap_0⟩, d', _, S', hd, hE, ?_⟩
    rw [show 0 + (mMc a).1 = 0 by simp [hm], show 0 + (mMc a).2 = 0 by simp [hm]]
    exact k
theorem q_vI3 {v1 v2 v3 : Value} {m z d' : Nat} {rs : List (Option Nat)} {S' : mS} (hn : mNa a = 3) (hm : mMc a = (0, 0)) (ho : mnth sh z = some (0, mcN a, rs)) (hc : Nat.ble (mcats st) 8 = true) (hd : d' + 1 ≤ d) (hE : mEv d' a [.ref z, v1, v2, v3] (sh, L, σ) (some (.int x)) S') (k : mwp d mid res J is (pc + 3) pl (.int x :: st) S' 0 0) : mwp d mid res J ((.invokevirtual m, len, a, b, w, ps) :: is) pc pl (v3 :: v2 :: v1 :: .ref z :: st) (sh, L, σ) 0 0 := by
  show mcut (mNa a + 1) _ [] _
  rw [hn]
  refine mob_i (S := (sh, L, σ)) (a := z) (ci := mcN a) ho ⟨⟨hc, by rw [hm]; exact mcap_0⟩, d', _, S', hd, hE, ?_⟩
  rw [show 0 + (mMc a).1 = 0 by simp [hm], show 0 + (mMc a).2 = 0 by simp [hm]]
  exact k
theorem q_sI3 {v1 v2 v3 : Value} {m d' : Nat} {S' : mS} (ha : Nat.blt a 229 = true) (hn : mNa a = 3) (hm : mMc a = (0, 0)) (hc : Nat.ble (mcats st) 8 = true) (hd : d' + 1 ≤ d) (hE : mEv d' a [v1, v2, v3] (sh, L, σ) (some (.int x)) S') (k : mwp d mid res J is (pc + 3) pl (.int x :: st) S' 0 0) : mwp d mid res J ((.invokestatic m, len, a, b, w, ps) :: is) pc pl (v3 :: v2 :: v1 :: st) (sh, L, σ) 0 0 := by
  have ha : a < 229 := by simpa [Nat.blt_eq] using ha
  show mistat d mid a pc pl _ (sh, L, σ) 0 0 _
  unfold mistat
  split
  · omega
  · omega
  · omega
  · rw [hn]
    refine ⟨⟨hc, by rw [hm]; exact mcap_0⟩, d', _, S', hd, hE, ?_⟩
    rw [show 0 + (mMc a).1 = 0 by simp [hm], show 0 + (mMc a).2 = 0 by simp [hm]]
    exact k
theorem q_vV3 {v1 v2 v3 : Value} {m z d' : Nat} {rs : List (Option Nat)} {S' : mS} (hn : mNa a = 3) (hm : mMc a = (0, 0)) (ho : mnth sh z = some (0, mcN a, rs)) (hc : Nat.ble (mcats st) 8 = true) (hd : d' + 1 ≤ d) (hE : mEv d' a [.ref z, v1, v2, v3] (sh, L, σ) none S') (k : mwp d mid res J is (pc + 3) pl (st) S' 0 0) : mwp d mid res J ((.invokevirtual m, len, a, b, w, ps) :: is) pc pl (v3 :: v2 :: v1 :: .ref z :: st) (sh, L, σ) 0 0 := by
  show mcut (mNa a + 1) _ [] _
  rw [hn]
  refine mob_i (S := (sh, L, σ)) (a := z) (ci := mcN a) ho ⟨⟨hc, by rw [hm]; exact mcap_0⟩, d', _, S', hd, hE, ?_⟩
  rw [show 0 + (mMc a).1 = 0 by simp [hm], show 0 + (mMc a).2 = 0 by simp [hm]]
  exact k
theorem q_sV3 {v1 v2 v3 : Value} {m d' : Nat} {S' : mS} (ha : Nat.blt a 229 = true) (hn : mNa a = 3) (hm : mMc a = (0, 0)) (hc : Nat.ble (mcats st) 8 = true) (hd : d' + 1 ≤ d) (hE : mEv d' a [v1, v2, v3] (sh, L, σ) none S') (k : mwp d mid res J is (pc + 3) pl (st) S' 0 0) : mwp d mid res J ((.invokestatic m, len, a, b, w, ps) :: is) pc pl (v3 :: v2 :: v1 :: st) (sh, L, σ) 0 0 := by
  have ha : a < 229 := by simpa [Nat.blt_eq] using ha
  show mistat d mid a pc pl _ (sh, L, σ) 0 0 _
  unfold mistat
  split
  · omega
  · omega
  · omega
  · rw [hn]
    refine ⟨⟨hc, by rw [hm]; exact mcap_0⟩, d', _, S', hd, hE, ?_⟩
    rw [show 0 + (mMc a).1 = 0 by simp [hm], show 0 + (mMc a).2 = 0 by simp [hm]]
    exact k
theorem q_vN3 {v1 v2 v3 : Value} {m z d' : Nat} {rs : List (Option Nat)} {S' : mS} (hn : mNa a = 3) (hm : mMc a = (0, 0)) (ho : mnth sh z = some (0, mcN a, rs)) (hc : Nat.ble (mcats st) 8 = true) (hd : d' + 1 ≤ d) (hE : mEv d' a [.ref z, v1, v2, v3] (sh, L, σ) (some .null) S') (k : mwp d mid res J is (pc + 3) pl (.null :: st) S' 0 0) : mwp d mid res J ((.invokevirtual m, len, a, b, w, ps) :: is) pc pl (v3 :: v2 :: v1 :: .ref z :: st) (sh, L, σ) 0 0 := by
  show mcut (mNa a + 1) _ [] _
  rw [hn]
  refine mob_i (S := (sh, L, σ)) (a := z) (ci := mcN a) ho ⟨⟨hc, by rw [hm]; exact mcap_0⟩, d', _, S', hd, hE, ?_⟩
  rw [show 0 + (mMc a).1 = 0 by simp [hm], show 0 + (mMc a).2 = 0 by simp [hm]]
  exact k
theorem q_sN3 {v1 v2 v3 : Value} {m d' : Nat} {S' : mS} (ha : Nat.blt a 229 = true) (hn : mNa a = 3) (hm : mMc a = (0, 0)) (hc : Nat.ble (mcats st) 8 = true) (hd : d' + 1 ≤ d) (hE : mEv d' a [v1, v2, v3] (sh, L, σ) (some .null) S') (k : mwp d mid res J is (pc + 3) pl (.null :: st) S' 0 0) : mwp d mid res J ((.invokestatic m, len, a, b, w, ps) :: is) pc pl (v3 :: v2 :: v1 :: st) (sh, L, σ) 0 0 := by
  have ha : a < 229 := by simpa [Nat.blt_eq] using ha
  show mistat d mid a pc pl _ (sh, L, σ) 0 0 _
  unfold mistat
  split
  · omega
  · omega
  · omega
  · rw [hn]
    refine ⟨⟨hc, by rw [hm]; exact mcap_0⟩, d', _, S', hd, hE, ?_⟩
    rw [show 0 + (mMc a).1 = 0 by simp [hm], show 0 + (mMc a).2 = 0 by simp [hm]]
    exact k
theorem q_vR3 {v1 v2 v3 : Value} {u : Nat} {m z d' : Nat} {rs : List (Option Nat)} {S' : mS} (hn : mNa a = 3) (hm : mMc a = (0, 0)) (ho : mnth sh z = some (0, mcN a, rs)) (hc : Nat.ble (mcats st) 8 = true) (hd : d' + 1 ≤ d) (hE : mEv d' a [.ref z, v1, v2, v3] (sh, L, σ) (some (.ref u)) S') (k : mwp d mid res J is (pc + 3) pl (.ref u :: st) S' 0 0) : mwp d mid res J ((.invokevirtual m, len, a, b, w, ps) :: is) pc pl (v3 :: v2 :: v1 :: .ref z :: st) (sh, L, σ) 0 0 := by
  show mcut (mNa a + 1) _ [] _
  rw [hn]
  refine mob_i (S := (sh, L, σ)) (a := z) (ci := mcN a) ho ⟨⟨hc, by rw [hm]; exact mcap_0⟩, d', _, S', hd, hE, ?_⟩
  rw [show 0 + (mMc a).1 = 0 by simp [hm], show 0 + (mMc a).2 = 0 by simp [hm]]
  exact k
theorem q_sR3 {v1 v2 v3 : Value} {u : Nat} {m d' : Nat} {S' : mS} (ha : Nat.blt a 229 = true) (hn : mNa a = 3) (hm : mMc a = (0, 0)) (hc : Nat.ble (mcats st) 8 = true) (hd : d' + 1 ≤ d) (hE : mEv d' a [v1, v2, v3] (sh, L, σ) (some (.ref u)) S') (k : mwp d mid res J is (pc + 3) pl (.ref u :: st) S' 0 0) : mwp d mid res J ((.invokestatic m, len, a, b, w, ps) :: is) pc pl (v3 :: v2 :: v1 :: st) (sh, L, σ) 0 0 := by
  have ha : a < 229 := by simpa [Nat.blt_eq] using ha
  show mistat d mid a pc pl _ (sh, L, σ) 0 0 _
  unfold mistat
  split
  · omega
  · omega
  · omega
  · rw [hn]
    refine ⟨⟨hc, by rw [hm]; exact mcap_0⟩, d', _, S', hd, hE, ?_⟩
    rw [show 0 + (mMc a).1 = 0 by simp [hm], show 0 + (mMc a).2 = 0 by simp [hm]]
    exact k
theorem q_vI4 {v1 v2 v3 v4 : Value} {m z d' : Nat} {rs : List (Option Nat)} {S' : mS} (hn : mNa a = 4) (hm : mMc a = (0, 0)) (ho : mnth sh z = some (0, mcN a, rs)) (hc : Nat.ble (mcats st) 8 = true) (hd : d' + 1 ≤ d) (hE : mEv d' a [.ref z, v1, v2, v3, v4] (sh, L, σ) (some (.int x)) S') (k : mwp d mid res J is (pc + 3) pl (.int x :: st) S' 0 0) : mwp d mid res J ((.invokevirtual m, len, a, b, w, ps) :: is) pc pl (v4 :: v3 :: v2 :: v1 :: .ref z :: st) (sh, L, σ) 0 0 := by
  show mcut (mNa a + 1) _ [] _
  rw [hn]
  refine mob_i (S := (sh, L, σ)) (a := z) (ci := mcN a) ho ⟨⟨hc, by rw [hm]; exact mcap_0⟩, d', _, S', hd, hE, ?_⟩
  rw [show 0 + (mMc a).1 = 0 by simp [hm], show 0 + (mMc a).2 = 0 by simp [hm]]
  exact k
theorem q_sI4 {v1 v2 v3 v4 : Value} {m d' : Nat} {S' : mS} (ha : Nat.blt a 229 = true) (hn : mNa a = 4) (hm : mMc a = (0, 0)) (hc : Nat.ble (mcats st) 8 = true) (hd : d' + 1 ≤ d) (hE : mEv d' a [v1, v2, v3, v4] (sh, L, σ) (some (.int x)) S') (k : mwp d mid res J is (pc + 3) pl (.int x :: st) S' 0 0) : mwp d mid res J ((.invokestatic m, len, a, b, w, ps) :: is) pc pl (v4 :: v3 :: v2 :: v1 :: st) (sh, L, σ) 0 0 := by
  have ha : a < 229 := by simpa [Nat.blt_eq] using ha
  show mistat d mid a pc pl _ (sh, L, σ) 0 0 _
  unfold mistat
  split
  · omega
  · omega
  · omega
  · rw [hn]
    refine ⟨⟨hc, by rw [hm]; exact mcap_0⟩, d', _, S', hd, hE, ?_⟩
    rw [show 0 + (mMc a).1 = 0 by simp [hm], show 0 + (mMc a).2 = 0 by simp [hm]]
    exact k
theorem q_vV4 {v1 v2 v3 v4 : Value} {m z d' : Nat} {rs : List (Option Nat)} {S' : mS} (hn : mNa a = 4) (hm : mMc a = (0, 0)) (ho : mnth sh z = some (0, mcN a, rs)) (hc : Nat.ble (mcats st) 8 = true) (hd : d' + 1 ≤ d) (hE : mEv d' a [.ref z, v1, v2, v3, v4] (sh, L, σ) none S') (k : mwp d mid res J is (pc + 3) pl (st) S' 0 0) : mwp d mid res J ((.invokevirtual m, len, a, b, w, ps) :: is) pc pl (v4 :: v3 :: v2 :: v1 :: .ref z :: st) (sh, L, σ) 0 0 := by
  show mcut (mNa a + 1) _ [] _
  rw [hn]
  refine mob_i (S := (sh, L, σ)) (a := z) (ci := mcN a) ho ⟨⟨hc, by rw [hm]; exact mcap_0⟩, d', _, S', hd, hE, ?_⟩
  rw [show 0 + (mMc a).1 = 0 by simp [hm], show 0 + (mMc a).2 = 0 by simp [hm]]
  exact k
theorem q_sV4 {v1 v2 v3 v4 : Value} {m d' : Nat} {S' : mS} (ha : Nat.blt a 229 = true) (hn : mNa a = 4) (hm : mMc a = (0, 0)) (hc : Nat.ble (mcats st) 8 = true) (hd : d' + 1 ≤ d) (hE : mEv d' a [v1, v2, v3, v4] (sh, L, σ) none S') (k : mwp d mid res J is (pc + 3) pl (st) S' 0 0) : mwp d mid res J ((.invokestatic m, len, a, b, w, ps) :: is) pc pl (v4 :: v3 :: v2 :: v1 :: st) (sh, L, σ) 0 0 := by
  have ha : a < 229 := by simpa [Nat.blt_eq] using ha
  show mistat d mid a pc pl _ (sh, L, σ) 0 0 _
  unfold mistat
  split
  · omega
  · omega
  · omega
  · rw [hn]
    refine ⟨⟨hc, by rw [hm]; exact mcap_0⟩, d', _, S', hd, hE, ?_⟩
    rw [show 0 + (mMc a).1 = 0 by simp [hm], show 0 + (mMc a).2 = 0 by simp [hm]]
    exact k
theorem q_vN4 {v1 v2 v3 v4 : Value} {m z d' : Nat} {rs : List (Option Nat)} {S' : mS} (hn : mNa a = 4) (hm : mMc a = (0, 0)) (ho : mnth sh z = some (0, mcN a, rs)) (hc : Nat.ble (mcats st) 8 = true) (hd : d' + 1 ≤ d) (hE : mEv d' a [.ref z, v1, v2, v3, v4] (sh, L, σ) (some .null) S') (k : mwp d mid res J is (pc + 3) pl (.null :: st) S' 0 0) : mwp d mid res J ((.invokevirtual m, len, a, b, w, ps) :: is) pc pl (v4 :: v3 :: v2 :: v1 :: .ref z :: st) (sh, L, σ) 0 0 := by
  show mcut (mNa a + 1) _ [] _
  rw [hn]
  refine mob_i (S := (sh, L, σ)) (a := z) (ci := mcN a) ho ⟨⟨hc, by rw [hm]; exact mcap_0⟩, d', _, S', hd, hE, ?_⟩
  rw [show 0 + (mMc a).1 = 0 by simp [hm], show 0 + (mMc a).2 = 0 by simp [hm]]
  exact k
theorem q_sN4 {v1 v2 v3 v4 : Value} {m d' : Nat} {S' : mS} (ha : Nat.blt a 229 = true) (hn : mNa a = 4) (hm : mMc a = (0, 0)) (hc : Nat.ble (mcats st) 8 = true) (hd : d' + 1 ≤ d) (hE : mEv d' a [v1, v2, v3, v4] (sh, L, σ) (some .null) S') (k : mwp d mid res J is (pc + 3) pl (.null :: st) S' 0 0) : mwp d mid res J ((.invokestatic m, len, a, b, w, ps) :: is) pc pl (v4 :: v3 :: v2 :: v1 :: st) (sh, L, σ) 0 0 := by
  have ha : a < 229 := by simpa [Nat.blt_eq] using ha
  show mistat d mid a pc pl _ (sh, L, σ) 0 0 _
  unfold mistat
  split
  · omega
  · omega
  · omega
  · rw [hn]
    refine ⟨⟨hc, by rw [hm]; exact mcap_0⟩, d', _, S', hd, hE, ?_⟩
    rw [show 0 + (mMc a).1 = 0 by simp [hm], show 0 + (mMc a).2 = 0 by simp [hm]]
    exact k
theorem q_vR4 {v1 v2 v3 v4 : Value} {u : Nat} {m z d' : Nat} {rs : List (Option Nat)} {S' : mS} (hn : mNa a = 4) (hm : mMc a = (0, 0)) (ho : mnth sh z = some (0, mcN a, rs)) (hc : Nat.ble (mcats st) 8 = true) (hd : d' + 1 ≤ d) (hE : mEv d' a [.ref z, v1, v2, v3, v4] (sh, L, σ) (some (.ref u)) S') (k : mwp d mid res J is (pc + 3) pl (.ref u :: st) S' 0 0) : mwp d mid res J ((.invokevirtual m, len, a, b, w, ps) :: is) pc pl (v4 :: v3 :: v2 :: v1 :: .ref z :: st) (sh, L, σ) 0 0 := by
  show mcut (mNa a + 1) _ [] _
  rw [hn]
  refine mob_i (S := (sh, L, σ)) (a := z) (ci := mcN a) ho ⟨⟨hc, by rw [hm]; exact mcap_0⟩, d', _, S', hd, hE, ?_⟩
  rw [show 0 + (mMc a).1 = 0 by simp [hm], show 0 + (mMc a).2 = 0 by simp [hm]]
  exact k
theorem q_sR4 {v1 v2 v3 v4 : Value} {u : Nat} {m d' : Nat} {S' : mS} (ha : Nat.blt a 229 = true) (hn : mNa a = 4) (hm : mMc a = (0, 0)) (hc : Nat.ble (mcats st) 8 = true) (hd : d' + 1 ≤ d) (hE : mEv d' a [v1, v2, v3, v4] (sh, L, σ) (some (.ref u)) S') (k : mwp d mid res J is (pc + 3) pl (.ref u :: st) S' 0 0) : mwp d mid res J ((.invokestatic m, len, a, b, w, ps) :: is) pc pl (v4 :: v3 :: v2 :: v1 :: st) (sh, L, σ) 0 0 := by
  have ha : a < 229 := by simpa [Nat.blt_eq] using ha
  show mistat d mid a pc pl _ (sh, L, σ) 0 0 _
  unfold mistat
  split
  · omega
  · omega
  · omega
  · rw [hn]
    refine ⟨⟨hc, by rw [hm]; exact mcap_0⟩, d', _, S', hd, hE, ?_⟩
    rw [show 0 + (mMc a).1 = 0 by simp [hm], show 0 + (mMc a).2 = 0 by simp [hm]]
    exact k
theorem q_vI5 {v1 v2 v3 v4 v5 : Value} {m z d' : Nat} {rs : List (Option Nat)} {S' : mS} (hn : mNa a = 5) (hm : mMc a = (0, 0)) (ho : mnth sh z = some (0, mcN a, rs)) (hc : Nat.ble (mcats st) 8 = true) (hd : d' + 1 ≤ d) (hE : mEv d' a [.ref z, v1, v2, v3, v4, v5] (sh, L, σ) (some (.int x)) S') (k : mwp d mid res J is (pc + 3) pl (.int x :: st) S' 0 0) : mwp d mid res J ((.invokevirtual m, len, a, b, w, ps) :: is) pc pl (v5 :: v4 :: v3 :: v2 :: v1 :: .ref z :: st) (sh, L, σ) 0 0 := by
  show mcut (mNa a + 1) _ [] _
  rw [hn]
  refine mob_i (S := (sh, L, σ)) (a := z) (ci := mcN a) ho ⟨⟨hc, by rw [hm]; exact mcap_0⟩, d', _, S', hd, hE, ?_⟩
  rw [show 0 + (mMc a).1 = 0 by simp [hm], show 0 + (mMc a).2 = 0 by simp [hm]]
  exact k
theorem q_sI5 {v1 v2 v3 v4 v5 : Value} {m d' : Nat} {S' : mS} (ha : Nat.blt a 229 = true) (hn : mNa a = 5) (hm : mMc a = (0, 0)) (hc : Nat.ble (mcats st) 8 = true) (hd : d' + 1 ≤ d) (hE : mEv d' a [v1, v2, v3, v4, v5] (sh, L, σ) (some (.int x)) S') (k : mwp d mid res J is (pc + 3) pl (.int x :: st) S' 0 0) : mwp d mid res J ((.invokestatic m, len, a, b, w, ps) :: is) pc pl (v5 :: v4 :: v3 :: v2 :: v1 :: st) (sh, L, σ) 0 0 := by
  have ha : a < 229 := by simpa [Nat.blt_eq] using ha
  show mistat d mid a pc pl _ (sh, L, σ) 0 0 _
  unfold mistat
  split
  · omega
  · omega
  · omega
  · rw [hn]
    refine ⟨⟨hc, by rw [hm]; exact mcap_0⟩, d', _, S', hd, hE, ?_⟩
    rw [show 0 + (mMc a).1 = 0 by simp [hm], show 0 + (mMc a).2 = 0 by simp [hm]]
    exact k
theorem q_vV5 {v1 v2 v3 v4 v5 : Value} {m z d' : Nat} {rs : List (Option Nat)} {S' : mS} (hn : mNa a = 5) (hm : mMc a = (0, 0)) (ho : mnth sh z = some (0, mcN a, rs)) (hc : Nat.ble (mcats st) 8 = true) (hd : d' + 1 ≤ d) (hE : mEv d' a [.ref z, v1, v2, v3, v4, v5] (sh, L, σ) none S') (k : mwp d mid res J is (pc + 3) pl (st) S' 0 0) : mwp d mid res J ((.invokevirtual m, len, a, b, w, ps) :: is) pc pl (v5 :: v4 :: v3 :: v2 :: v1 :: .ref z :: st) (sh, L, σ) 0 0 := by
  show mcut (mNa a + 1) _ [] _
  rw [hn]
  refine mob_i (S := (sh, L, σ)) (a := z) (ci := mcN a) ho ⟨⟨hc, by rw [hm]; exact mcap_0⟩, d', _, S', hd, hE, ?_⟩
  rw [show 0 + (mMc a).1 = 0 by simp [hm], show 0 + (mMc a).2 = 0 by simp [hm]]
  exact k
theorem q_sV5 {v1 v2 v3 v4 v5 : Value} {m d' : Nat} {S' : mS} (ha : Nat.blt a 229 = true) (hn : mNa a = 5) (hm : mMc a = (0, 0)) (hc : Nat.ble (mcats st) 8 = true) (hd : d' + 1 ≤ d) (hE : mEv d' a [v1, v2, v3, v4, v5] (sh, L, σ) none S') (k : mwp d mid res J is (pc + 3) pl (st) S' 0 0) : mwp d mid res J ((.invokestatic m, len, a, b, w, ps) :: is) pc pl (v5 :: v4 :: v3 :: v2 :: v1 :: st) (sh, L, σ) 0 0 := by
  have ha : a < 229 := by simpa [Nat.blt_eq] using ha
  show mistat d mid a pc pl _ (sh, L, σ) 0 0 _
  unfold mistat
  split
  · omega
  · omega
  · omega
  · rw [hn]
    refine ⟨⟨hc, by rw [hm]; exact mcap_0⟩, d', _, S', hd, hE, ?_⟩
    rw [show 0 + (mMc a).1 = 0 by simp [hm], show 0 + (mMc a).2 = 0 by simp [hm]]
    exact k
theorem q_vN5 {v1 v2 v3 v4 v5 : Value} {m z d' : Nat} {rs : List (Option Nat)} {S' : mS} (hn : mNa a = 5) (hm : mMc a = (0, 0)) (ho : mnth sh z = some (0, mcN a, rs)) (hc : Nat.ble (mcats st) 8 = true) (hd : d' + 1 ≤ d) (hE : mEv d' a [.ref z, v1, v2, v3, v4, v5] (sh, L, σ) (some .null) S') (k : mwp d mid res J is (pc + 3) pl (.null :: st) S' 0 0) : mwp d mid res J ((.invokevirtual m, len, a, b, w, ps) :: is) pc pl (v5 :: v4 :: v3 :: v2 :: v1 :: .ref z :: st) (sh, L, σ) 0 0 := by
  show mcut (mNa a + 1) _ [] _
  rw [hn]
  refine mob_i (S := (sh, L, σ)) (a := z) (ci := mcN a) ho ⟨⟨hc, by rw [hm]; exact mcap_0⟩, d', _, S', hd, hE, ?_⟩
  rw [show 0 + (mMc a).1 = 0 by simp [hm], show 0 + (mMc a).2 = 0 by simp [hm]]
  exact k
theorem q_sN5 {v1 v2 v3 v4 v5 : Value} {m d' : Nat} {S' : mS} (ha : Nat.blt a 229 = true) (hn : mNa a = 5) (hm : mMc a = (0, 0)) (hc : Nat.ble (mcats st) 8 = true) (hd : d' + 1 ≤ d) (hE : mEv d' a [v1, v2, v3, v4, v5] (sh, L, σ) (some .null) S') (k : mwp d mid res J is (pc + 3) pl (.null :: st) S' 0 0) : mwp d mid res J ((.invokestatic m, len, a, b, w, ps) :: is) pc pl (v5 :: v4 :: v3 :: v2 :: v1 :: st) (sh, L, σ) 0 0 := by
  have ha : a < 229 := by simpa [Nat.blt_eq] using ha
  show mistat d mid a pc pl _ (sh, L, σ) 0 0 _
  unfold mistat
  split
  · omega
  · omega
  · omega
  · rw [hn]
    refine ⟨⟨hc, by rw [hm]; exact mcap_0⟩, d', _, S', hd, hE, ?_⟩
    rw [show 0 + (mMc a).1 = 0 by simp [hm], show 0 + (mMc a).2 = 0 by simp [hm]]
    exact k
theorem q_vR5 {v1 v2 v3 v4 v5 : Value} {u : Nat} {m z d' : Nat} {rs : List (Option Nat)} {S' : mS} (hn : mNa a = 5) (hm : mMc a = (0, 0)) (ho : mnth sh z = some (0, mcN a, rs)) (hc : Nat.ble (mcats st) 8 = true) (hd : d' + 1 ≤ d) (hE : mEv d' a [.ref z, v1, v2, v3, v4, v5] (sh, L, σ) (some (.ref u)) S') (k : mwp d mid res J is (pc + 3) pl (.ref u :: st) S' 0 0) : mwp d mid res J ((.invokevirtual m, len, a, b, w, ps) :: is) pc pl (v5 :: v4 :: v3 :: v2 :: v1 :: .ref z :: st) (sh, L, σ) 0 0 := by
  show mcut (mNa a + 1) _ [] _
  rw [hn]
  refine mob_i (S := (sh, L, σ)) (a := z) (ci := mcN a) ho ⟨⟨hc, by rw [hm]; exact mcap_0⟩, d', _, S', hd, hE, ?_⟩
  rw [show 0 + (mMc a).1 = 0 by simp [hm], show 0 + (mMc a).2 = 0 by simp [hm]]
  exact k
theorem q_sR5 {v1 v2 v3 v4 v5 : Value} {u : Nat} {m d' : Nat} {S' : mS} (ha : Nat.blt a 229 = true) (hn : mNa a = 5) (hm : mMc a = (0, 0)) (hc : Nat.ble (mcats st) 8 = true) (hd : d' + 1 ≤ d) (hE : mEv d' a [v1, v2, v3, v4, v5] (sh, L, σ) (some (.ref u)) S') (k : mwp d mid res J is (pc + 3) pl (.ref u :: st) S' 0 0) : mwp d mid res J ((.invokestatic m, len, a, b, w, ps) :: is) pc pl (v5 :: v4 :: v3 :: v2 :: v1 :: st) (sh, L, σ) 0 0 := by
  have ha : a < 229 := by simpa [Nat.blt_eq] using ha
  show mistat d mid a pc pl _ (sh, L, σ) 0 0 _
  unfold mistat
  split
  · omega
  · omega
  · omega
  · rw [hn]
    refine ⟨⟨hc, by rw [hm]; exact mcap_0⟩, d', _, S', hd, hE, ?_⟩
    rw [show 0 + (mMc a).1 = 0 by simp [hm], show 0 + (mMc a).2 = 0 by simp [hm]]
    exact k
theorem q_vI6 {v1 v2 v3 v4 v5 v6 : Value} {m z d' : Nat} {rs : List (Option Nat)} {S' : mS} (hn : mNa a = 6) (hm : mMc a = (0, 0)) (ho : mnth sh z = some (0, mcN a, rs)) (hc : Nat.ble (mcats st) 8 = true) (hd : d' + 1 ≤ d) (hE : mEv d' a [.ref z, v1, v2, v3, v4, v5, v6] (sh, L, σ) (some (.int x)) S') (k : mwp d mid res J is (pc + 3) pl (.int x :: st) S' 0 0) : mwp d mid res J ((.invokevirtual m, len, a, b, w, ps) :: is) pc pl (v6 :: v5 :: v4 :: v3 :: v2 :: v1 :: .ref z :: st) (sh, L, σ) 0 0 := by
  show mcut (mNa a + 1) _ [] _
  rw [hn]
  refine mob_i (S := (sh, L, σ)) (a := z) (ci := mcN a) ho ⟨⟨hc, by rw [hm]; exact mcap_0⟩, d', _, S', hd, hE, ?_⟩
  rw [show 0 + (mMc a).1 = 0 by simp [hm], show 0 + (mMc a).2 = 0 by simp [hm]]
  exact k
theorem q_sI6 {v1 v2 v3 v4 v5 v6 : Value} {m d' : Nat} {S' : mS} (ha : Nat.blt a 229 = true) (hn : mNa a = 6) (hm : mMc a = (0, 0)) (hc : Nat.ble (mcats st) 8 = true) (hd : d' + 1 ≤ d) (hE : mEv d' a [v1, v2, v3, v4, v5, v6] (sh, L, σ) (some (.int x)) S') (k : mwp d mid res J is (pc + 3) pl (.int x :: st) S' 0 0) : mwp d mid res J ((.invokestatic m, len, a, b, w, ps) :: is) pc pl (v6 :: v5 :: v4 :: v3 :: v2 :: v1 :: st) (sh, L, σ) 0 0 := by
  have ha : a < 229 := by simpa [Nat.blt_eq] using ha
  show mistat d mid a pc pl _ (sh, L, σ) 0 0 _
  unfold mistat
  split
  · omega
  · omega
  · omega
  · rw [hn]
    refine ⟨⟨hc, by rw [hm]; exact mcap_0⟩, d', _, S', hd, hE, ?_⟩
    rw [show 0 + (mMc a).1 = 0 by simp [hm], show 0 + (mMc a).2 = 0 by simp [hm]]
    exact k
theorem q_vV6 {v1 v2 v3 v4 v5 v6 : Value} {m z d' : Nat} {rs : List (Option Nat)} {S' : mS} (hn : mNa a = 6) (hm : mMc a = (0, 0)) (ho : mnth sh z = some (0, mcN a, rs)) (hc : Nat.ble (mcats st) 8 = true) (hd : d' + 1 ≤ d) (hE : mEv d' a [.ref z, v1, v2, v3, v4, v5, v6] (sh, L, σ) none S') (k : mwp d mid res J is (pc + 3) pl (st) S' 0 0) : mwp d mid res J ((.invokevirtual m, len, a, b, w, ps) :: is) pc pl (v6 :: v5 :: v4 :: v3 :: v2 :: v1 :: .ref z :: st) (sh, L, σ) 0 0 := by
  show mcut (mNa a + 1) _ [] _
  rw [hn]
  refine mob_i (S := (sh, L, σ)) (a := z) (ci := mcN a) ho ⟨⟨hc, by rw [hm]; exact mcap_0⟩, d', _, S', hd, hE, ?_⟩
  rw [show 0 + (mMc a).1 = 0 by simp [hm], show 0 + (mMc a).2 = 0 by simp [hm]]
  exact k
theorem q_sV6 {v1 v2 v3 v4 v5 v6 : Value} {m d' : Nat} {S' : mS} (ha : Nat.blt a 229 = true) (hn : mNa a = 6) (hm : mMc a = (0, 0)) (hc : Nat.ble (mcats st) 8 = true) (hd : d' + 1 ≤ d) (hE : mEv d' a [v1, v2, v3, v4, v5, v6] (sh, L, σ) none S') (k : mwp d mid res J is (pc + 3) pl (st) S' 0 0) : mwp d mid res J ((.invokestatic m, len, a, b, w, ps) :: is) pc pl (v6 :: v5 :: v4 :: v3 :: v2 :: v1 :: st) (sh, L, σ) 0 0 := by
  have ha : a < 229 := by simpa [Nat.blt_eq] using ha
  show mistat d mid a pc pl _ (sh, L, σ) 0 0 _
  unfold mistat
  split
  · omega
  · omega
  · omega
  · rw [hn]
    refine ⟨⟨hc, by rw [hm]; exact mcap_0⟩, d', _, S', hd, hE, ?_⟩
    rw [show 0 + (mMc a).1 = 0 by simp [hm], show 0 + (mMc a).2 = 0 by simp [hm]]
    exact k
theorem q_vN6 {v1 v2 v3 v4 v5 v6 : Value} {m z d' : Nat} {rs : List (Option Nat)} {S' : mS} (hn : mNa a = 6) (hm : mMc a = (0, 0)) (ho : mnth sh z = some (0, mcN a, rs)) (hc : Nat.ble (mcats st) 8 = true) (hd : d' + 1 ≤ d) (hE : mEv d' a [.ref z, v1, v2, v3, v4, v5, v6] (sh, L, σ) (some .null) S') (k : mwp d mid res J is (pc + 3) pl (.null :: st) S' 0 0) : mwp d mid res J ((.invokevirtual m, len, a, b, w, ps) :: is) pc pl (v6 :: v5 :: v4 :: v3 :: v2 :: v1 :: .ref z :: st) (sh, L, σ) 0 0 := by
  show mcut (mNa a + 1) _ [] _
  rw [hn]
  refine mob_i (S := (sh, L, σ)) (a := z) (ci := mcN a) ho ⟨⟨hc, by rw [hm]; exact mcap_0⟩, d', _, S', hd, hE, ?_⟩
  rw [show 0 + (mMc a).1 = 0 by simp [hm], show 0 + (mMc a).2 = 0 by simp [hm]]
  exact k
theorem q_sN6 {v1 v2 v3 v4 v5 v6 : Value} {m d' : Nat} {S' : mS} (ha : Nat.blt a 229 = true) (hn : mNa a = 6) (hm : mMc a = (0, 0)) (hc : Nat.ble (mcats st) 8 = true) (hd : d' + 1 ≤ d) (hE : mEv d' a [v1, v2, v3, v4, v5, v6] (sh, L, σ) (some .null) S') (k : mwp d mid res J is (pc + 3) pl (.null :: st) S' 0 0) : mwp d mid res J ((.invokestatic m, len, a, b, w, ps) :: is) pc pl (v6 :: v5 :: v4 :: v3 :: v2 :: v1 :: st) (sh, L, σ) 0 0 := by
  have ha : a < 229 := by simpa [Nat.blt_eq] using ha
  show mistat d mid a pc pl _ (sh, L, σ) 0 0 _
  unfold mistat
  split
  · omega
  · omega
  · omega
  · rw [hn]
    refine ⟨⟨hc, by rw [hm]; exact mcap_0⟩, d', _, S', hd, hE, ?_⟩
    rw [show 0 + (mMc a).1 = 0 by simp [hm], show 0 + (mMc a).2 = 0 by simp [hm]]
    exact k
theorem q_vR6 {v1 v2 v3 v4 v5 v6 : Value} {u : Nat} {m z d' : Nat} {rs : List (Option Nat)} {S' : mS} (hn : mNa a = 6) (hm : mMc a = (0, 0)) (ho : mnth sh z = some (0, mcN a, rs)) (hc : Nat.ble (mcats st) 8 = true) (hd : d' + 1 ≤ d) (hE : mEv d' a [.ref z, v1, v2, v3, v4, v5, v6] (sh, L, σ) (some (.ref u)) S') (k : mwp d mid res J is (pc + 3) pl (.ref u :: st) S' 0 0) : mwp d mid res J ((.invokevirtual m, len, a, b, w, ps) :: is) pc pl (v6 :: v5 :: v4 :: v3 :: v2 :: v1 :: .ref z :: st) (sh, L, σ) 0 0 := by
  show mcut (mNa a + 1) _ [] _
  rw [hn]
  refine mob_i (S := (sh, L, σ)) (a := z) (ci := mcN a) ho ⟨⟨hc, by rw [hm]; exact mcap_0⟩, d', _, S', hd, hE, ?_⟩
  rw [show 0 + (mMc a).1 = 0 by simp [hm], show 0 + (mMc a).2 = 0 by simp [hm]]
  exact k
theorem q_sR6 {v1 v2 v3 v4 v5 v6 : Value} {u : Nat} {m d' : Nat} {S' : mS} (ha : Nat.blt a 229 = true) (hn : mNa a = 6) (hm : mMc a = (0, 0)) (hc : Nat.ble (mcats st) 8 = true) (hd : d' + 1 ≤ d) (hE : mEv d' a [v1, v2, v3, v4, v5, v6] (sh, L, σ) (some (.ref u)) S') (k : mwp d mid res J is (pc + 3) pl (.ref u :: st) S' 0 0) : mwp d mid res J ((.invokestatic m, len, a, b, w, ps) :: is) pc pl (v6 :: v5 :: v4 :: v3 :: v2 :: v1 :: st) (sh, L, σ) 0 0 := by
  have ha : a < 229 := by simpa [Nat.blt_eq] using ha
  show mistat d mid a pc pl _ (sh, L, σ) 0 0 _
  unfold mistat
  split
  · omega
  · omega
  · omega
  · rw [hn]
    refine ⟨⟨hc, by rw [hm]; exact mcap_0⟩, d', _, S', hd, hE, ?_⟩
    rw [show 0 + (mMc a).1 = 0 by simp [hm], show 0 + (mMc a).2 = 0 by simp [hm]]
    exact k
end QQ
end
section
/-- the cells, as the two constructors lay them -/
def mSh : List mE := [(0, 11, [some 31, some 44, some 57, some 1, some 16, some 70, some 74, some 81, some 83, some 92, none]),
  (0, 1, [some 2, some 6, some 9, some 12, some 14, none]),
  (0, 2, [some 3, some 4, some 5, none]),
  (1, 12, []),
  (1, 12, []),
  (1, 12, []),
  (0, 6, [some 7, some 8, none]),
  (1, 50, []),
  (1, 50, []),
  (0, 6, [some 10, some 11, none]),
  (1, 50, []),
  (1, 50, []),
  (0, 4, [some 13, none]),
  (1, 50, []),
  (0, 4, [some 15, none]),
  (1, 20, []),
  (0, 1, [some 17, some 21, some 24, some 27, some 29, none]),
  (0, 2, [some 18, some 19, some 20, none]),
  (1, 12, []),
  (1, 12, []),
  (1, 12, []),
  (0, 6, [some 22, some 23, none]),
  (1, 50, []),
  (1, 50, []),
  (0, 6, [some 25, some 26, none]),
  (1, 50, []),
  (1, 50, []),
  (0, 4, [some 28, none]),
  (1, 50, []),
  (0, 4, [some 30, none]),
  (1, 20, []),
  (0, 10, [some 32, some 37, some 6, some 9, none]),
  (0, 9, [some 33, some 34, some 35, some 36, none]),
  (1, 9, []),
  (1, 9, []),
  (1, 9, []),
  (1, 9, []),
  (0, 7, [some 38, some 39, some 40, some 41, some 42, some 43, none]),
  (1, 10, []),
  (1, 10, []),
  (1, 10, []),
  (1, 10, []),
  (1, 10, []),
  (1, 10, []),
  (0, 10, [some 45, some 50, some 6, some 9, none]),
  (0, 9, [some 46, some 47, some 48, some 49, none]),
  (1, 9, []),
  (1, 9, []),
  (1, 9, []),
  (1, 9, []),
  (0, 7, [some 51, some 52, some 53, some 54, some 55, some 56, none]),
  (1, 10, []),
  (1, 10, []),
  (1, 10, []),
  (1, 10, []),
  (1, 10, []),
  (1, 10, []),
  (0, 10, [some 58, some 63, some 21, some 24, none]),
  (0, 9, [some 59, some 60, some 61, some 62, none]),
  (1, 9, []),
  (1, 9, []),
  (1, 9, []),
  (1, 9, []),
  (0, 7, [some 64, some 65, some 66, some 67, some 68, some 69, none]),
  (1, 10, []),
  (1, 10, []),
  (1, 10, []),
  (1, 10, []),
  (1, 10, []),
  (1, 10, []),
  (0, 3, [some 71, some 12, none, none]),
  (0, 6, [some 72, some 73, none]),
  (1, 50, []),
  (1, 50, []),
  (0, 0, [some 75, some 80, none, none, none]),
  (0, 9, [some 76, some 77, some 78, some 79, none]),
  (1, 9, []),
  (1, 9, []),
  (1, 9, []),
  (1, 9, []),
  (1, 9, []),
  (0, 8, [some 82, none, none, none, none]),
  (1, 40, []),
  (3, 4, [some 84, some 86, some 88, some 90]),
  (0, 5, [some 85, none, none]),
  (1, 40, []),
  (0, 5, [some 87, none, none]),
  (1, 40, []),
  (0, 5, [some 89, none, none]),
  (1, 40, []),
  (0, 5, [some 91, none, none]),
  (1, 40, []),
  (1, 6, []),
  (0, 12, [some 94, some 95, some 96, none, some 97, none, none, none, none, none, none, some 98, some 99, some 100, some 101, none, none, some 102, some 103, some 104, some 105]),
  (1, 320, []),
  (1, 320, []),
  (1, 320, []),
  (1, 6, []),
  (1, 4, []),
  (1, 9, []),
  (2, 9, []),
  (1, 40, []),
  (1, 4, []),
  (1, 4, []),
  (1, 160, []),
  (1, 40, [])]
abbrev Sg : Type := Nat → Nat → Int32
def P9 (a : Nat) : Prop := mnth mSh a = some (0, 9, [some (a + 1), some (a + 2), some (a + 3), some (a + 4), none]) ∧ mnth mSh (a + 1) = some (1, 9, []) ∧ mnth mSh (a + 2) = some (1, 9, []) ∧ mnth mSh (a + 3) = some (1, 9, []) ∧ mnth mSh (a + 4) = some (1, 9, [])
def P7 (a : Nat) : Prop := mnth mSh a = some (0, 7, [some (a + 1), some (a + 2), some (a + 3), some (a + 4), some (a + 5), some (a + 6), none]) ∧ mnth mSh (a + 1) = some (1, 10, []) ∧ mnth mSh (a + 2) = some (1, 10, []) ∧ mnth mSh (a + 3) = some (1, 10, []) ∧ mnth mSh (a + 4) = some (1, 10, []) ∧ mnth mSh (a + 5) = some (1, 10, []) ∧ mnth mSh (a + 6) = some (1, 10, [])
def P6 (a : Nat) : Prop := mnth mSh a = some (0, 6, [some (a + 1), some (a + 2), none]) ∧ mnth mSh (a + 1) = some (1, 50, []) ∧ mnth mSh (a + 2) = some (1, 50, [])
def P4 (a : Nat) (n : Nat) : Prop := mnth mSh a = some (0, 4, [some (a + 1), none]) ∧ mnth mSh (a + 1) = some (1, n, [])
def P5 (a : Nat) : Prop := mnth mSh a = some (0, 5, [some (a + 1), none, none]) ∧ mnth mSh (a + 1) = some (1, 40, [])
def P2 (a : Nat) : Prop := mnth mSh a = some (0, 2, [some (a + 1), some (a + 2), some (a + 3), none]) ∧ mnth mSh (a + 1) = some (1, 12, []) ∧ mnth mSh (a + 2) = some (1, 12, []) ∧ mnth mSh (a + 3) = some (1, 12, [])
def P1 (a : Nat) : Prop := mnth mSh a = some (0, 1, [some (a + 1), some (a + 5), some (a + 8), some (a + 11), some (a + 13), none]) ∧ P2 (a + 1) ∧ P6 (a + 5) ∧ P6 (a + 8) ∧ P4 (a + 11) 50 ∧ P4 (a + 13) 20
def P10 (a sl tk : Nat) : Prop := mnth mSh a = some (0, 10, [some (a + 1), some (a + 6), some sl, some tk, none]) ∧ P9 (a + 1) ∧ P7 (a + 6) ∧ P6 sl ∧ P6 tk
theorem ob_0 : mnth mSh 0 = some (0, 11, [some 31, some 44, some 57, some 1, some 16, some 70, some 74, some 81, some 83, some 92, none]) := rfl
theorem ob_1 : mnth mSh 1 = some (0, 1, [some 2, some 6, some 9, some 12, some 14, none]) := rfl
theorem ob_2 : mnth mSh 2 = some (0, 2, [some 3, some 4, some 5, none]) := rfl
theorem ar_3 : mnth mSh 3 = some (1, 12, []) := rfl
theorem ar_4 : mnth mSh 4 = some (1, 12, []) := rfl
theorem ar_5 : mnth mSh 5 = some (1, 12, []) := rfl
theorem ob_6 : mnth mSh 6 = some (0, 6, [some 7, some 8, none]) := rfl
theorem ar_7 : mnth mSh 7 = some (1, 50, []) := rfl
theorem ar_8 : mnth mSh 8 = some (1, 50, []) := rfl
theorem ob_9 : mnth mSh 9 = some (0, 6, [some 10, some 11, none]) := rfl
theorem ar_10 : mnth mSh 10 = some (1, 50, []) := rfl
theorem ar_11 : mnth mSh 11 = some (1, 50, []) := rfl
theorem ob_12 : mnth mSh 12 = some (0, 4, [some 13, none]) := rfl
theorem ar_13 : mnth mSh 13 = some (1, 50, []) := rfl
theorem ob_14 : mnth mSh 14 = some (0, 4, [some 15, none]) := rfl
theorem ar_15 : mnth mSh 15 = some (1, 20, []) := rfl
theorem ob_16 : mnth mSh 16 = some (0, 1, [some 17, some 21, some 24, some 27, some 29, none]) := rfl
theorem ob_17 : mnth mSh 17 = some (0, 2, [some 18, some 19, some 20, none]) := rfl
theorem ar_18 : mnth mSh 18 = some (1, 12, []) := rfl
theorem ar_19 : mnth mSh 19 = some (1, 12, []) := rfl
theorem ar_20 : mnth mSh 20 = some (1, 12, []) := rfl
theorem ob_21 : mnth mSh 21 = some (0, 6, [some 22, some 23, none]) := rfl
theorem ar_22 : mnth mSh 22 = some (1, 50, []) := rfl
theorem ar_23 : mnth mSh 23 = some (1, 50, []) := rfl
theorem ob_24 : mnth mSh 24 = some (0, 6, [some 25, some 26, none]) := rfl
theorem ar_25 : mnth mSh 25 = some (1, 50, []) := rfl
theorem ar_26 : mnth mSh 26 = some (1, 50, []) := rfl
theorem ob_27 : mnth mSh 27 = some (0, 4, [some 28, none]) := rfl
theorem ar_28 : mnth mSh 28 = some (1, 50, []) := rfl
theorem ob_29 : mnth mSh 29 = some (0, 4, [some 30, none]) := rfl
theorem ar_30 : mnth mSh 30 = some (1, 20, []) := rfl
theorem ob_31 : mnth mSh 31 = some (0, 10, [some 32, some 37, some 6, some 9, none]) := rfl
theorem ob_32 : mnth mSh 32 = some (0, 9, [some 33, some 34, some 35, some 36, none]) := rfl
theorem ar_33 : mnth mSh 33 = some (1, 9, []) := rfl
theorem ar_34 : mnth mSh 34 = some (1, 9, []) := rfl
theorem ar_35 : mnth mSh 35 = some (1, 9, []) := rfl
theorem ar_36 : mnth mSh 36 = some (1, 9, []) := rfl
theorem ob_37 : mnth mSh 37 = some (0, 7, [some 38, some 39, some 40, some 41, some 42, some 43, none]) := rfl
theorem ar_38 : mnth mSh 38 = some (1, 10, []) := rfl
theorem ar_39 : mnth mSh 39 = some (1, 10, []) := rfl
theorem ar_40 : mnth mSh 40 = some (1, 10, []) := rfl
theorem ar_41 : mnth mSh 41 = some (1, 10, []) := rfl
theorem ar_42 : mnth mSh 42 = some (1, 10, []) := rfl
theorem ar_43 : mnth mSh 43 = some (1, 10, []) := rfl
theorem ob_44 : mnth mSh 44 = some (0, 10, [some 45, some 50, some 6, some 9, none]) := rfl
theorem ob_45 : mnth mSh 45 = some (0, 9, [some 46, some 47, some 48, some 49, none]) := rfl
theorem ar_46 : mnth mSh 46 = some (1, 9, []) := rfl
theorem ar_47 : mnth mSh 47 = some (1, 9, []) := rfl
theorem ar_48 : mnth mSh 48 = some (1, 9, []) := rfl
theorem ar_49 : mnth mSh 49 = some (1, 9, []) := rfl
theorem ob_50 : mnth mSh 50 = some (0, 7, [some 51, some 52, some 53, some 54, some 55, some 56, none]) := rfl
theorem ar_51 : mnth mSh 51 = some (1, 10, []) := rfl
theorem ar_52 : mnth mSh 52 = some (1, 10, []) := rfl
theorem ar_53 : mnth mSh 53 = some (1, 10, []) := rfl
theorem ar_54 : mnth mSh 54 = some (1, 10, []) := rfl
theorem ar_55 : mnth mSh 55 = some (1, 10, []) := rfl
theorem ar_56 : mnth mSh 56 = some (1, 10, []) := rfl
theorem ob_57 : mnth mSh 57 = some (0, 10, [some 58, some 63, some 21, some 24, none]) := rfl
theorem ob_58 : mnth mSh 58 = some (0, 9, [some 59, some 60, some 61, some 62, none]) := rfl
theorem ar_59 : mnth mSh 59 = some (1, 9, []) := rfl
theorem ar_60 : mnth mSh 60 = some (1, 9, []) := rfl
theorem ar_61 : mnth mSh 61 = some (1, 9, []) := rfl
theorem ar_62 : mnth mSh 62 = some (1, 9, []) := rfl
theorem ob_63 : mnth mSh 63 = some (0, 7, [some 64, some 65, some 66, some 67, some 68, some 69, none]) := rfl
theorem ar_64 : mnth mSh 64 = some (1, 10, []) := rfl
theorem ar_65 : mnth mSh 65 = some (1, 10, []) := rfl
theorem ar_66 : mnth mSh 66 = some (1, 10, []) := rfl
theorem ar_67 : mnth mSh 67 = some (1, 10, []) := rfl
theorem ar_68 : mnth mSh 68 = some (1, 10, []) := rfl
theorem ar_69 : mnth mSh 69 = some (1, 10, []) := rfl
theorem ob_70 : mnth mSh 70 = some (0, 3, [some 71, some 12, none, none]) := rfl
theorem ob_71 : mnth mSh 71 = some (0, 6, [some 72, some 73, none]) := rfl
theorem ar_72 : mnth mSh 72 = some (1, 50, []) := rfl
theorem ar_73 : mnth mSh 73 = some (1, 50, []) := rfl
theorem ob_74 : mnth mSh 74 = some (0, 0, [some 75, some 80, none, none, none]) := rfl
theorem ob_75 : mnth mSh 75 = some (0, 9, [some 76, some 77, some 78, some 79, none]) := rfl
theorem ar_76 : mnth mSh 76 = some (1, 9, []) := rfl
theorem ar_77 : mnth mSh 77 = some (1, 9, []) := rfl
theorem ar_78 : mnth mSh 78 = some (1, 9, []) := rfl
theorem ar_79 : mnth mSh 79 = some (1, 9, []) := rfl
theorem ar_80 : mnth mSh 80 = some (1, 9, []) := rfl
theorem ob_81 : mnth mSh 81 = some (0, 8, [some 82, none, none, none, none]) := rfl
theorem ar_82 : mnth mSh 82 = some (1, 40, []) := rfl
theorem aq_83 : mnth mSh 83 = some (3, 4, [some 84, some 86, some 88, some 90]) := rfl
theorem ob_84 : mnth mSh 84 = some (0, 5, [some 85, none, none]) := rfl
theorem ar_85 : mnth mSh 85 = some (1, 40, []) := rfl
theorem ob_86 : mnth mSh 86 = some (0, 5, [some 87, none, none]) := rfl
theorem ar_87 : mnth mSh 87 = some (1, 40, []) := rfl
theorem ob_88 : mnth mSh 88 = some (0, 5, [some 89, none, none]) := rfl
theorem ar_89 : mnth mSh 89 = some (1, 40, []) := rfl
theorem ob_90 : mnth mSh 90 = some (0, 5, [some 91, none, none]) := rfl
theorem ar_91 : mnth mSh 91 = some (1, 40, []) := rfl
theorem ar_92 : mnth mSh 92 = some (1, 6, []) := rfl
theorem ob_93 : mnth mSh 93 = some (0, 12, [some 94, some 95, some 96, none, some 97, none, none, none, none, none, none, some 98, some 99, some 100, some 101, none, none, some 102, some 103, some 104, some 105]) := rfl
theorem ar_94 : mnth mSh 94 = some (1, 320, []) := rfl
theorem ar_95 : mnth mSh 95 = some (1, 320, []) := rfl
theorem ar_96 : mnth mSh 96 = some (1, 320, []) := rfl
theorem ar_97 : mnth mSh 97 = some (1, 6, []) := rfl
theorem ar_98 : mnth mSh 98 = some (1, 4, []) := rfl
theorem ar_99 : mnth mSh 99 = some (1, 9, []) := rfl
theorem az_100 : mnth mSh 100 = some (2, 9, []) := rfl
theorem ar_101 : mnth mSh 101 = some (1, 40, []) := rfl
theorem ar_102 : mnth mSh 102 = some (1, 4, []) := rfl
theorem ar_103 : mnth mSh 103 = some (1, 4, []) := rfl
theorem ar_104 : mnth mSh 104 = some (1, 160, []) := rfl
theorem ar_105 : mnth mSh 105 = some (1, 40, []) := rfl
theorem p9_32 : P9 32 := ⟨ob_32, ar_33, ar_34, ar_35, ar_36⟩
theorem p9_45 : P9 45 := ⟨ob_45, ar_46, ar_47, ar_48, ar_49⟩
theorem p9_58 : P9 58 := ⟨ob_58, ar_59, ar_60, ar_61, ar_62⟩
theorem p9_75 : P9 75 := ⟨ob_75, ar_76, ar_77, ar_78, ar_79⟩
theorem p7_37 : P7 37 := ⟨ob_37, ar_38, ar_39, ar_40, ar_41, ar_42, ar_43⟩
theorem p7_50 : P7 50 := ⟨ob_50, ar_51, ar_52, ar_53, ar_54, ar_55, ar_56⟩
theorem p7_63 : P7 63 := ⟨ob_63, ar_64, ar_65, ar_66, ar_67, ar_68, ar_69⟩
theorem p6_6 : P6 6 := ⟨ob_6, ar_7, ar_8⟩
theorem p6_9 : P6 9 := ⟨ob_9, ar_10, ar_11⟩
theorem p6_21 : P6 21 := ⟨ob_21, ar_22, ar_23⟩
theorem p6_24 : P6 24 := ⟨ob_24, ar_25, ar_26⟩
theorem p6_71 : P6 71 := ⟨ob_71, ar_72, ar_73⟩
theorem p4_12 : P4 12 50 := ⟨ob_12, ar_13⟩
theorem p4_14 : P4 14 20 := ⟨ob_14, ar_15⟩
theorem p4_27 : P4 27 50 := ⟨ob_27, ar_28⟩
theorem p4_29 : P4 29 20 := ⟨ob_29, ar_30⟩
theorem p5_84 : P5 84 := ⟨ob_84, ar_85⟩
theorem p5_86 : P5 86 := ⟨ob_86, ar_87⟩
theorem p5_88 : P5 88 := ⟨ob_88, ar_89⟩
theorem p5_90 : P5 90 := ⟨ob_90, ar_91⟩
theorem p2_2 : P2 2 := ⟨ob_2, ar_3, ar_4, ar_5⟩
theorem p2_17 : P2 17 := ⟨ob_17, ar_18, ar_19, ar_20⟩
theorem p1_1 : P1 1 := ⟨ob_1, p2_2, p6_6, p6_9, p4_12, p4_14⟩
theorem p1_16 : P1 16 := ⟨ob_16, p2_17, p6_21, p6_24, p4_27, p4_29⟩
theorem p10_31 : P10 31 6 9 := ⟨ob_31, p9_32, p7_37, p6_6, p6_9⟩
theorem p10_44 : P10 44 6 9 := ⟨ob_44, p9_45, p7_50, p6_6, p6_9⟩
theorem p10_57 : P10 57 21 24 := ⟨ob_57, p9_58, p7_63, p6_21, p6_24⟩
theorem mrd {r n : Nat} (h : mnth mSh r = some (1, n, [])) (L : Nat) (σ : Sg) : mal (mSh, L, σ) r = some n := by
  simp only [mal, h]
theorem mrd_1 (L : Nat) (σ : Sg) : mal (mSh, L, σ) (1000000 + 1) = some 7 := rfl
theorem mrd_2 (L : Nat) (σ : Sg) : mal (mSh, L, σ) (1000000 + 2) = some 28 := rfl
theorem msheet : ∀ i, i < 4 → ([some 84, some 86, some 88, some 90] : List (Option Nat)).getD i none = some (84 + 2 * i) ∧ P5 (84 + 2 * i) := by
  intro i hi
  match i, hi with
  | 0, _ => exact ⟨rfl, p5_84⟩
  | 1, _ => exact ⟨rfl, p5_86⟩
  | 2, _ => exact ⟨rfl, p5_88⟩
  | 3, _ => exact ⟨rfl, p5_90⟩
  | n + 4, h => omega
end
section
def bk_X11_lay_0 : List mI := [(.iload_n 1, 1, 0, 0, 0, []), (.ifCond .lt 13, 3, 14, 0, 0, []), (.iload_n 1, 1, 0, 0, 0, []), (.aload_n 0, 1, 0, 0, 0, []), (.arraylength, 1, 0, 0, 0, []), (.if_icmp .ge 7, 3, 14, 0, 0, []), (.aload_n 0, 1, 0, 0, 0, []), (.iload_n 1, 1, 0, 0, 0, []), (.iload_n 2, 1, 0, 0, 0, []), (.iastore, 1, 0, 0, 0, [])]
theorem ck_X11_lay_0 : mChk 131 0 bk_X11_lay_0 = true := by decide +kernel
def bk_X11_lay_14 : List mI := [(.return_, 1, 0, 0, 0, [])]
theorem ck_X11_lay_14 : mChk 131 14 bk_X11_lay_14 = true := by decide +kernel
def f_X11_lay (r0 n0 : Nat) (p1 : Int32) (p2 : Int32) (σ : Sg) : Option (Sg) := (if p1 < 0 then (some σ) else (if (Int32.ofNat n0) ≤ p1 then (some σ) else (if p1 < 0 ∨ n0 ≤ (p1).toNatClampNeg then none else (some (mup σ r0 (p1).toNatClampNeg p2)))))
set_option maxHeartbeats 4000000 in
theorem ok_X11_lay {L : Nat} {r0 n0 : Nat} {p1 : Int32} {p2 : Int32} {σ : Sg} {R : Sg} (hr0 : mnth mSh r0 = some (1, n0, [])) (h : f_X11_lay r0 n0 p1 p2 σ = some R) : mEv 0 131 [.ref r0, .int p1, .int p2] (mSh, L, σ) none (mSh, L, R) := by
  refine mEv.of (by decide) rfl rfl ?_
  unfold f_X11_lay at h
  refine mAt.blk bk_X11_lay_0 ck_X11_lay_0 ?_
  refine q_iload_n rfl ?_
  refine q_if_lt (fun c1 => ?_) (fun c1 => ?_)
  · rw [if_pos c1] at h
    refine mAt.blk bk_X11_lay_14 ck_X11_lay_14 ?_
    cases h
    exact q_vret rfl rfl
  · rw [if_neg c1] at h
    refine q_iload_n rfl ?_
    refine q_aload_n rfl ?_
    refine q_alen (v := (Int32.ofNat n0)) rfl hr0 ?_
    refine q_ic_ge (fun c2 => ?_) (fun c2 => ?_)
    · rw [if_pos c2] at h
      refine mAt.blk bk_X11_lay_14 ck_X11_lay_14 ?_
      cases h
      exact q_vret rfl rfl
    · rw [if_neg c2] at h
      refine q_aload_n rfl ?_
      refine q_iload_n rfl ?_
      refine q_iload_n rfl ?_
      obtain ⟨c3, h⟩ := mnone h
      refine q_iast rfl hr0 c3 ?_
      refine mAt.blk bk_X11_lay_14 ck_X11_lay_14 ?_
      cases h
      exact q_vret rfl rfl
def bk_X11_pick_0 : List mI := [(.iload_n 1, 1, 0, 0, 0, []), (.ifCond .lt 15, 3, 16, 0, 0, []), (.iload_n 1, 1, 0, 0, 0, []), (.aload_n 0, 1, 0, 0, 0, []), (.arraylength, 1, 0, 0, 0, []), (.if_icmp .ge 9, 3, 16, 0, 0, []), (.aload_n 0, 1, 0, 0, 0, []), (.iload_n 1, 1, 0, 0, 0, []), (.iaload, 1, 0, 0, 0, []), (.goto 4, 3, 17, 0, 0, [])]
theorem ck_X11_pick_0 : mChk 130 0 bk_X11_pick_0 = true := by decide +kernel
def bk_X11_pick_16 : List mI := [(.iconst 0, 1, 0, 0, 0, [(0, 0)])]
theorem ck_X11_pick_16 : mChk 130 16 bk_X11_pick_16 = true := by decide +kernel
def bk_X11_pick_17 : List mI := [(.ireturn, 1, 0, 0, 0, [])]
theorem ck_X11_pick_17 : mChk 130 17 bk_X11_pick_17 = true := by decide +kernel
def f_X11_pick (r0 n0 : Nat) (p1 : Int32) (σ : Sg) : Option (Int32) := (if p1 < 0 then (some (0 : Int32)) else (if (Int32.ofNat n0) ≤ p1 then (some (0 : Int32)) else (if p1 < 0 ∨ n0 ≤ (p1).toNatClampNeg then none else (some (σ r0 (p1).toNatClampNeg)))))
set_option maxHeartbeats 4000000 in
theorem ok_X11_pick {L : Nat} {r0 n0 : Nat} {p1 : Int32} {σ : Sg} {R : Int32} (hr0 : ∀ L σ, mal (mSh, L, σ) r0 = some n0) (h : f_X11_pick r0 n0 p1 σ = some R) : mEv 0 130 [.ref r0, .int p1] (mSh, L, σ) (some (.int R)) (mSh, L, σ) := by
  refine mEv.of (by decide) rfl rfl ?_
  unfold f_X11_pick at h
  refine mAt.blk bk_X11_pick_0 ck_X11_pick_0 ?_
  refine q_iload_n rfl ?_
  refine q_if_lt (fun c1 => ?_) (fun c1 => ?_)
  · rw [if_pos c1] at h
    refine mAt.blk bk_X11_pick_16 ck_X11_pick_16 ?_
    refine q_iconst ?_
    refine mAt.blk bk_X11_pick_17 ck_X11_pick_17 ?_
    cases h
    exact q_iretI rfl rfl
  · rw [if_neg c1] at h
    refine q_iload_n rfl ?_
    refine q_aload_n rfl ?_
    refine q_alenD (v := (Int32.ofNat n0)) rfl (hr0 _ _) ?_
    refine q_ic_ge (fun c2 => ?_) (fun c2 => ?_)
    · rw [if_pos c2] at h
      refine mAt.blk bk_X11_pick_16 ck_X11_pick_16 ?_
      refine q_iconst ?_
      refine mAt.blk bk_X11_pick_17 ck_X11_pick_17 ?_
      cases h
      exact q_iretI rfl rfl
    · rw [if_neg c2] at h
      refine q_aload_n rfl ?_
      refine q_iload_n rfl ?_
      obtain ⟨c3, h⟩ := mnone h
      refine q_iald (hr0 _ _) rfl c3 ?_
      refine q_goto ?_
      refine mAt.blk bk_X11_pick_17 ck_X11_pick_17 ?_
      cases h
      exact q_iretI rfl rfl
def bk_X9_daysOf_0 : List mI := [(.aload_n 0, 1, 0, 0, 0, []), (.getfield 15, 3, 9, 1, 187, []), (.iload_n 1, 1, 0, 0, 0, []), (.invokestatic 48, 3, 130, 0, 439, []), (.ireturn, 1, 0, 0, 0, [])]
theorem ck_X9_daysOf_0 : mChk 59 0 bk_X9_daysOf_0 = true := by decide +kernel
def f_X9_daysOf (a : Nat) (p0 : Int32) (σ : Sg) : Option (Int32) := ((f_X11_pick (a + 2) 9 p0 σ).bind fun q1 => (some q1))
set_option maxHeartbeats 4000000 in
theorem ok_X9_daysOf {L : Nat} {a : Nat} {p0 : Int32} {σ : Sg} {R : Int32} (ha : P9 a) (h : f_X9_daysOf a p0 σ = some R) : mEv 1 59 [.ref a, .int p0] (mSh, L, σ) (some (.int R)) (mSh, L, σ) := by
  refine mEv.of (by decide) rfl rfl ?_
  unfold f_X9_daysOf at h
  refine mAt.blk bk_X9_daysOf_0 ck_X9_daysOf_0 ?_
  refine q_aload_n rfl ?_
  refine q_getR (ha).1 rfl rfl ?_
  refine q_iload_n rfl ?_
  obtain ⟨q1, e1, h⟩ := mbind h
  refine q_sI2 rfl rfl rfl rfl (by decide) (ok_X11_pick (mrd (ha).2.2.1) e1) ?_
  cases h
  exact q_iretI rfl rfl
def bk_X9_has_0 : List mI := [(.iload_n 1, 1, 0, 0, 0, []), (.ifCond .lt 15, 3, 16, 0, 0, []), (.iload_n 1, 1, 0, 0, 0, []), (.aload_n 0, 1, 0, 0, 0, []), (.getfield 28, 3, 9, 4, 195, []), (.if_icmp .ge 7, 3, 16, 0, 0, []), (.iconst 1, 1, 0, 0, 0, [(1, 0)]), (.goto 4, 3, 17, 0, 0, [])]
theorem ck_X9_has_0 : mChk 54 0 bk_X9_has_0 = true := by decide +kernel
def bk_X9_has_16 : List mI := [(.iconst 0, 1, 0, 0, 0, [(0, 0)])]
theorem ck_X9_has_16 : mChk 54 16 bk_X9_has_16 = true := by decide +kernel
def bk_X9_has_17 : List mI := [(.ireturn, 1, 0, 0, 0, [])]
theorem ck_X9_has_17 : mChk 54 17 bk_X9_has_17 = true := by decide +kernel
def f_X9_has (a : Nat) (p0 : Int32) (σ : Sg) : Option (Int32) := (if p0 < 0 then (some (0 : Int32)) else (if (σ a 4) ≤ p0 then (some (0 : Int32)) else (some (1 : Int32))))
set_option maxHeartbeats 4000000 in
theorem ok_X9_has {L : Nat} {a : Nat} {p0 : Int32} {σ : Sg} {R : Int32} (ha : P9 a) (h : f_X9_has a p0 σ = some R) : mEv 0 54 [.ref a, .int p0] (mSh, L, σ) (some (.int R)) (mSh, L, σ) := by
  refine mEv.of (by decide) rfl rfl ?_
  unfold f_X9_has at h
  refine mAt.blk bk_X9_has_0 ck_X9_has_0 ?_
  refine q_iload_n rfl ?_
  refine q_if_lt (fun c1 => ?_) (fun c1 => ?_)
  · rw [if_pos c1] at h
    refine mAt.blk bk_X9_has_16 ck_X9_has_16 ?_
    refine q_iconst ?_
    refine mAt.blk bk_X9_has_17 ck_X9_has_17 ?_
    cases h
    exact q_iretZ rfl (by decide) rfl
  · rw [if_neg c1] at h
    refine q_iload_n rfl ?_
    refine q_aload_n rfl ?_
    refine q_getI (ha).1 rfl ?_
    refine q_ic_ge (fun c2 => ?_) (fun c2 => ?_)
    · rw [if_pos c2] at h
      refine mAt.blk bk_X9_has_16 ck_X9_has_16 ?_
      refine q_iconst ?_
      refine mAt.blk bk_X9_has_17 ck_X9_has_17 ?_
      cases h
      exact q_iretZ rfl (by decide) rfl
    · rw [if_neg c2] at h
      refine q_iconst ?_
      refine q_goto ?_
      refine mAt.blk bk_X9_has_17 ck_X9_has_17 ?_
      cases h
      exact q_iretZ rfl (by decide) rfl
def bk_X9_leadsTo_0 : List mI := [(.aload_n 0, 1, 0, 0, 0, []), (.iload_n 1, 1, 0, 0, 0, []), (.invokevirtual 40, 3, 54, 0, 431, []), (.ifCond .eq 14, 3, 19, 0, 0, []), (.aload_n 0, 1, 0, 0, 0, []), (.getfield 9, 3, 9, 0, 186, []), (.iload_n 1, 1, 0, 0, 0, []), (.invokestatic 48, 3, 130, 0, 439, []), (.goto 4, 3, 20, 0, 0, [])]
theorem ck_X9_leadsTo_0 : mChk 58 0 bk_X9_leadsTo_0 = true := by decide +kernel
def bk_X9_leadsTo_19 : List mI := [(.iconst (-1), 1, 0, 0, 0, [((-1), 0)])]
theorem ck_X9_leadsTo_19 : mChk 58 19 bk_X9_leadsTo_19 = true := by decide +kernel
def bk_X9_leadsTo_20 : List mI := [(.ireturn, 1, 0, 0, 0, [])]
theorem ck_X9_leadsTo_20 : mChk 58 20 bk_X9_leadsTo_20 = true := by decide +kernel
def f_X9_leadsTo (a : Nat) (p0 : Int32) (σ : Sg) : Option (Int32) := ((f_X9_has a p0 σ).bind fun q1 => (if q1 = 0 then (some (-1 : Int32)) else ((f_X11_pick (a + 1) 9 p0 σ).bind fun q3 => (some q3))))
set_option maxHeartbeats 4000000 in
theorem ok_X9_leadsTo {L : Nat} {a : Nat} {p0 : Int32} {σ : Sg} {R : Int32} (ha : P9 a) (h : f_X9_leadsTo a p0 σ = some R) : mEv 1 58 [.ref a, .int p0] (mSh, L, σ) (some (.int R)) (mSh, L, σ) := by
  refine mEv.of (by decide) rfl rfl ?_
  unfold f_X9_leadsTo at h
  refine mAt.blk bk_X9_leadsTo_0 ck_X9_leadsTo_0 ?_
  refine q_aload_n rfl ?_
  refine q_iload_n rfl ?_
  obtain ⟨q1, e1, h⟩ := mbind h
  refine q_vI1 rfl rfl (ha).1 rfl (by decide) (ok_X9_has ha e1) ?_
  refine q_if_eq (fun c2 => ?_) (fun c2 => ?_)
  · rw [if_pos c2] at h
    refine mAt.blk bk_X9_leadsTo_19 ck_X9_leadsTo_19 ?_
    refine q_iconst ?_
    refine mAt.blk bk_X9_leadsTo_20 ck_X9_leadsTo_20 ?_
    cases h
    exact q_iretI rfl rfl
  · rw [if_neg c2] at h
    refine q_aload_n rfl ?_
    refine q_getR (ha).1 rfl rfl ?_
    refine q_iload_n rfl ?_
    obtain ⟨q3, e3, h⟩ := mbind h
    refine q_sI2 rfl rfl rfl rfl (by decide) (ok_X11_pick (mrd (ha).2.1) e3) ?_
    refine q_goto ?_
    refine mAt.blk bk_X9_leadsTo_20 ck_X9_leadsTo_20 ?_
    cases h
    exact q_iretI rfl rfl
def bk_X9_placeOn_0 : List mI := [(.iload_n 1, 1, 0, 0, 0, []), (.istore_n 3, 1, 0, 0, 0, []), (.iconst 0, 1, 0, 0, 0, [(0, 0)]), (.istore 4, 2, 0, 0, 0, []), (.iconst 0, 1, 0, 0, 0, [(0, 0)]), (.istore 5, 2, 0, 0, 0, [])]
theorem ck_X9_placeOn_0 : mChk 60 0 bk_X9_placeOn_0 = true := by decide +kernel
def bk_X9_placeOn_8 : List mI := [(.iload 5, 2, 0, 0, 0, []), (.iload_n 2, 1, 0, 0, 0, []), (.if_icmp .ge 41, 3, 52, 0, 0, []), (.iload 4, 2, 0, 0, 0, []), (.iload_n 2, 1, 0, 0, 0, []), (.if_icmp .ge 35, 3, 52, 0, 0, []), (.aload_n 0, 1, 0, 0, 0, []), (.iload_n 3, 1, 0, 0, 0, []), (.invokevirtual 40, 3, 54, 0, 431, []), (.ifCond .ne 5, 3, 30, 0, 0, []), (.iconst (-1), 1, 0, 0, 0, [((-1), 0)]), (.ireturn, 1, 0, 0, 0, [])]
theorem ck_X9_placeOn_8 : mChk 60 8 bk_X9_placeOn_8 = true := by decide +kernel
def bk_X9_placeOn_30 : List mI := [(.iload 4, 2, 0, 0, 0, []), (.aload_n 0, 1, 0, 0, 0, []), (.iload_n 3, 1, 0, 0, 0, []), (.invokevirtual 52, 3, 59, 0, 729, []), (.iadd, 1, 0, 0, 0, []), (.istore 4, 2, 0, 0, 0, []), (.aload_n 0, 1, 0, 0, 0, []), (.iload_n 3, 1, 0, 0, 0, []), (.invokevirtual 56, 3, 58, 0, 728, []), (.istore_n 3, 1, 0, 0, 0, []), (.iinc 5 1, 3, 0, 0, 0, [(1, 0)]), (.goto (-41), 3, 8, 0, 0, [])]
theorem ck_X9_placeOn_30 : mChk 60 30 bk_X9_placeOn_30 = true := by decide +kernel
def bk_X9_placeOn_52 : List mI := [(.iload 4, 2, 0, 0, 0, []), (.iload_n 2, 1, 0, 0, 0, []), (.if_icmp .ne 7, 3, 62, 0, 0, []), (.iload_n 3, 1, 0, 0, 0, []), (.goto 4, 3, 63, 0, 0, [])]
theorem ck_X9_placeOn_52 : mChk 60 52 bk_X9_placeOn_52 = true := by decide +kernel
def bk_X9_placeOn_62 : List mI := [(.iconst (-1), 1, 0, 0, 0, [((-1), 0)])]
theorem ck_X9_placeOn_62 : mChk 60 62 bk_X9_placeOn_62 = true := by decide +kernel
def bk_X9_placeOn_63 : List mI := [(.ireturn, 1, 0, 0, 0, [])]
theorem ck_X9_placeOn_63 : mChk 60 63 bk_X9_placeOn_63 = true := by decide +kernel
def c_X9_placeOn_52 (a : Nat) (σ : Sg) (x2 : Int32) (x3 : Int32) (x4 : Int32) : Option (Int32) := (if x4 = x2 then (some x3) else (some (-1 : Int32)))
set_option maxHeartbeats 4000000 in
theorem okc_X9_placeOn_52 {L : Nat} {a : Nat} {σ : Sg} {R : Int32} (ha : P9 a) {x2 : Int32} {x3 : Int32} {x4 : Int32} {pl : mLoc} (h : c_X9_placeOn_52 a σ x2 x3 x4 = some R) (hl : mlf [none, none, some (.int x2), some (.int x3), some (.int x4), none] pl) : mAt 2 60 (some (.int R), (mSh, L, σ)) 52 pl [] (mSh, L, σ) 0 0 := by
  refine mAt.less hl ?_
  unfold c_X9_placeOn_52 at h
  refine mAt.blk bk_X9_placeOn_52 ck_X9_placeOn_52 ?_
  refine q_iload rfl ?_
  refine q_iload_n rfl ?_
  refine q_ic_ne (fun c7 => ?_) (fun c7 => ?_)
  · rw [if_pos c7] at h
    refine q_iload_n rfl ?_
    refine q_goto ?_
    refine mAt.blk bk_X9_placeOn_63 ck_X9_placeOn_63 ?_
    cases h
    exact q_iretI rfl rfl
  · rw [if_neg c7] at h
    refine mAt.blk bk_X9_placeOn_62 ck_X9_placeOn_62 ?_
    refine q_iconst ?_
    refine mAt.blk bk_X9_placeOn_63 ck_X9_placeOn_63 ?_
    cases h
    exact q_iretI rfl rfl
def c_X9_placeOn_8 (a : Nat) (σ : Sg) : Nat → Int32 → Int32 → Int32 → Int32 → Option (Int32)
  | 0, _, _, _, _ => none
  | n + 1, x2, x3, x4, x5 => (if x2 ≤ x5 then (c_X9_placeOn_52  a σ x2 x3 x4) else (if x2 ≤ x4 then (c_X9_placeOn_52  a σ x2 x3 x4) else ((f_X9_has a x3 σ).bind fun q3 => (if q3 = 0 then (some (-1 : Int32)) else ((f_X9_daysOf a x3 σ).bind fun q5 => ((f_X9_leadsTo a x3 σ).bind fun q6 => (c_X9_placeOn_8 a σ n x2 q6 (x4 + q5) (x5 + (1 : Int32)))))))))
set_option maxHeartbeats 4000000 in
theorem okc_X9_placeOn_8 {L : Nat} {a : Nat} {σ : Sg} {R : Int32} (ha : P9 a) {n : Nat} {x2 : Int32} {x3 : Int32} {x4 : Int32} {x5 : Int32} {pl : mLoc} (h : c_X9_placeOn_8 a σ n x2 x3 x4 x5 = some R) (hl : mlf [some (.ref a), none, some (.int x2), some (.int x3), some (.int x4), some (.int x5)] pl) : mAt 2 60 (some (.int R), (mSh, L, σ)) 8 pl [] (mSh, L, σ) 0 0 := by
  induction n generalizing x2 x3 x4 x5 pl with
  | zero =>
    rw [c_X9_placeOn_8.eq_1] at h
    cases h
  | succ n ih =>
    refine mAt.less hl ?_
    rw [c_X9_placeOn_8.eq_2] at h
    refine mAt.blk bk_X9_placeOn_8 ck_X9_placeOn_8 ?_
    refine q_iload rfl ?_
    refine q_iload_n rfl ?_
    refine q_ic_ge (fun c1 => ?_) (fun c1 => ?_)
    · rw [if_pos c1] at h
      exact okc_X9_placeOn_52 ha h ⟨rfl, rfl, rfl, trivial⟩
    · rw [if_neg c1] at h
      refine q_iload rfl ?_
      refine q_iload_n rfl ?_
      refine q_ic_ge (fun c2 => ?_) (fun c2 => ?_)
      · rw [if_pos c2] at h
        exact okc_X9_placeOn_52 ha h ⟨rfl, rfl, rfl, trivial⟩
      · rw [if_neg c2] at h
        refine q_aload_n rfl ?_
        refine q_iload_n rfl ?_
        obtain ⟨q3, e3, h⟩ := mbind h
        refine q_vI1 rfl rfl (ha).1 rfl (by decide) (ok_X9_has ha e3) ?_
        refine q_if_ne (fun c4 => ?_) (fun c4 => ?_)
        · rw [if_pos c4] at h
          refine q_iconst ?_
          cases h
          exact q_iretI rfl rfl
        · rw [if_neg c4] at h
          refine mAt.blk bk_X9_placeOn_30 ck_X9_placeOn_30 ?_
          refine q_iload rfl ?_
          refine q_aload_n rfl ?_
          refine q_iload_n rfl ?_
          obtain ⟨q5, e5, h⟩ := mbind h
          refine q_vI1 rfl rfl (ha).1 rfl (by decide) (ok_X9_daysOf ha e5) ?_
          refine q_iadd ?_
          refine q_istore rfl rfl ?_
          refine q_aload_n rfl ?_
          refine q_iload_n rfl ?_
          obtain ⟨q6, e6, h⟩ := mbind h
          refine q_vI1 rfl rfl (ha).1 rfl (by decide) (ok_X9_leadsTo ha e6) ?_
          refine q_istore_n rfl rfl ?_
          refine q_iinc rfl rfl ?_
          refine q_goto ?_
          exact ih  h ⟨rfl, rfl, rfl, rfl, rfl, trivial⟩
def f_X9_placeOn (a : Nat) (p0 : Int32) (p1 : Int32) (σ : Sg) : Option (Int32) := (c_X9_placeOn_8  a σ 1000 p1 p0 (0 : Int32) (0 : Int32))
set_option maxHeartbeats 4000000 in
theorem ok_X9_placeOn {L : Nat} {a : Nat} {p0 : Int32} {p1 : Int32} {σ : Sg} {R : Int32} (ha : P9 a) (h : f_X9_placeOn a p0 p1 σ = some R) : mEv 2 60 [.ref a, .int p0, .int p1] (mSh, L, σ) (some (.int R)) (mSh, L, σ) := by
  refine mEv.of (by decide) rfl rfl ?_
  unfold f_X9_placeOn at h
  refine mAt.blk bk_X9_placeOn_0 ck_X9_placeOn_0 ?_
  refine q_iload_n rfl ?_
  refine q_istore_n rfl rfl ?_
  refine q_iconst ?_
  refine q_istore rfl rfl ?_
  refine q_iconst ?_
  refine q_istore rfl rfl ?_
  exact okc_X9_placeOn_8 ha h ⟨rfl, rfl, rfl, rfl, rfl, trivial⟩
def bk_X3_next_0 : List mI := [(.aload_n 0, 1, 0, 0, 0, []), (.getfield 26, 3, 3, 3, 280, []), (.ifCond .lt 47, 3, 51, 0, 0, []), (.aload_n 0, 1, 0, 0, 0, []), (.getfield 26, 3, 3, 3, 280, []), (.aload_n 0, 1, 0, 0, 0, []), (.getfield 18, 3, 3, 1, 278, []), (.getfield 36, 3, 4, 1, 142, []), (.if_icmp .ge 33, 3, 51, 0, 0, []), (.aload_n 0, 1, 0, 0, 0, []), (.getfield 26, 3, 3, 3, 280, []), (.aload_n 0, 1, 0, 0, 0, []), (.getfield 18, 3, 3, 1, 278, []), (.getfield 72, 3, 4, 0, 139, []), (.arraylength, 1, 0, 0, 0, []), (.if_icmp .ge 18, 3, 51, 0, 0, []), (.aload_n 0, 1, 0, 0, 0, []), (.getfield 18, 3, 3, 1, 278, []), (.getfield 72, 3, 4, 0, 139, []), (.aload_n 0, 1, 0, 0, 0, []), (.getfield 26, 3, 3, 3, 280, []), (.iaload, 1, 0, 0, 0, []), (.goto 4, 3, 52, 0, 0, [])]
theorem ck_X3_next_0 : mChk 20 0 bk_X3_next_0 = true := by decide +kernel
def bk_X3_next_51 : List mI := [(.iconst (-1), 1, 0, 0, 0, [((-1), 0)])]
theorem ck_X3_next_51 : mChk 20 51 bk_X3_next_51 = true := by decide +kernel
def bk_X3_next_52 : List mI := [(.ireturn, 1, 0, 0, 0, [])]
theorem ck_X3_next_52 : mChk 20 52 bk_X3_next_52 = true := by decide +kernel
def f_X3_next (σ : Sg) : Option (Int32) := (if (σ 70 3) < 0 then (some (-1 : Int32)) else (if (σ 12 1) ≤ (σ 70 3) then (some (-1 : Int32)) else (if (50 : Int32) ≤ (σ 70 3) then (some (-1 : Int32)) else (if (σ 70 3) < 0 ∨ 50 ≤ ((σ 70 3)).toNatClampNeg then none else (some (σ 13 ((σ 70 3)).toNatClampNeg))))))
set_option maxHeartbeats 4000000 in
theorem ok_X3_next {L : Nat} {σ : Sg} {R : Int32} (h : f_X3_next σ = some R) : mEv 0 20 [.ref 70] (mSh, L, σ) (some (.int R)) (mSh, L, σ) := by
  refine mEv.of (by decide) rfl rfl ?_
  unfold f_X3_next at h
  refine mAt.blk bk_X3_next_0 ck_X3_next_0 ?_
  refine q_aload_n rfl ?_
  refine q_getI ob_70 rfl ?_
  refine q_if_lt (fun c1 => ?_) (fun c1 => ?_)
  · rw [if_pos c1] at h
    refine mAt.blk bk_X3_next_51 ck_X3_next_51 ?_
    refine q_iconst ?_
    refine mAt.blk bk_X3_next_52 ck_X3_next_52 ?_
    cases h
    exact q_iretI rfl rfl
  · rw [if_neg c1] at h
    refine q_aload_n rfl ?_
    refine q_getI ob_70 rfl ?_
    refine q_aload_n rfl ?_
    refine q_getR ob_70 rfl rfl ?_
    refine q_getI ob_12 rfl ?_
    refine q_ic_ge (fun c2 => ?_) (fun c2 => ?_)
    · rw [if_pos c2] at h
      refine mAt.blk bk_X3_next_51 ck_X3_next_51 ?_
      refine q_iconst ?_
      refine mAt.blk bk_X3_next_52 ck_X3_next_52 ?_
      cases h
      exact q_iretI rfl rfl
    · rw [if_neg c2] at h
      refine q_aload_n rfl ?_
      refine q_getI ob_70 rfl ?_
      refine q_aload_n rfl ?_
      refine q_getR ob_70 rfl rfl ?_
      refine q_getR ob_12 rfl rfl ?_
      refine q_alen (v := (50 : Int32)) rfl ar_13 ?_
      refine q_ic_ge (fun c3 => ?_) (fun c3 => ?_)
      · rw [if_pos c3] at h
        refine mAt.blk bk_X3_next_51 ck_X3_next_51 ?_
        refine q_iconst ?_
        refine mAt.blk bk_X3_next_52 ck_X3_next_52 ?_
        cases h
        exact q_iretI rfl rfl
      · rw [if_neg c3] at h
        refine q_aload_n rfl ?_
        refine q_getR ob_70 rfl rfl ?_
        refine q_getR ob_12 rfl rfl ?_
        refine q_aload_n rfl ?_
        refine q_getI ob_70 rfl ?_
        obtain ⟨c4, h⟩ := mnone h
        refine q_iald (mrd ar_13 _ _) rfl c4 ?_
        refine q_goto ?_
        refine mAt.blk bk_X3_next_52 ck_X3_next_52 ?_
        cases h
        exact q_iretI rfl rfl
def bk_X7_bits_0 : List mI := [(.iconst 0, 1, 0, 0, 0, [(0, 0)]), (.istore_n 3, 1, 0, 0, 0, []), (.iconst 0, 1, 0, 0, 0, [(0, 0)]), (.istore 4, 2, 0, 0, 0, [])]
theorem ck_X7_bits_0 : mChk 43 0 bk_X7_bits_0 = true := by decide +kernel
def bk_X7_bits_5 : List mI := [(.iload 4, 2, 0, 0, 0, []), (.aload_n 0, 1, 0, 0, 0, []), (.getfield 34, 3, 7, 6, 231, []), (.if_icmp .ge 45, 3, 56, 0, 0, []), (.iload 4, 2, 0, 0, 0, []), (.bipush 10, 2, 0, 0, 0, [(10, 0)]), (.if_icmp .ge 38, 3, 56, 0, 0, []), (.aload_n 0, 1, 0, 0, 0, []), (.getfield 18, 3, 7, 2, 221, []), (.iload 4, 2, 0, 0, 0, []), (.iaload, 1, 0, 0, 0, []), (.iload_n 1, 1, 0, 0, 0, []), (.if_icmp .ne 21, 3, 50, 0, 0, []), (.aload_n 0, 1, 0, 0, 0, []), (.getfield 21, 3, 7, 3, 224, []), (.iload 4, 2, 0, 0, 0, []), (.iaload, 1, 0, 0, 0, []), (.iload_n 2, 1, 0, 0, 0, []), (.if_icmp .ne 10, 3, 50, 0, 0, []), (.iload_n 3, 1, 0, 0, 0, []), (.iconst 1, 1, 0, 0, 0, [(1, 0)]), (.iload 4, 2, 0, 0, 0, []), (.ishl, 1, 0, 0, 0, []), (.ior, 1, 0, 0, 0, []), (.istore_n 3, 1, 0, 0, 0, [])]
theorem ck_X7_bits_5 : mChk 43 5 bk_X7_bits_5 = true := by decide +kernel
def bk_X7_bits_50 : List mI := [(.iinc 4 1, 3, 0, 0, 0, [(1, 0)]), (.goto (-48), 3, 5, 0, 0, [])]
theorem ck_X7_bits_50 : mChk 43 50 bk_X7_bits_50 = true := by decide +kernel
def bk_X7_bits_56 : List mI := [(.iload_n 3, 1, 0, 0, 0, []), (.ireturn, 1, 0, 0, 0, [])]
theorem ck_X7_bits_56 : mChk 43 56 bk_X7_bits_56 = true := by decide +kernel
def c_X7_bits_50 (k5 : Int32 → Int32 → Int32 → Int32 → Option (Int32)) (a : Nat) (σ : Sg) (x1 : Int32) (x2 : Int32) (x3 : Int32) (x4 : Int32) : Option (Int32) := (k5 x1 x2 x3 (x4 + (1 : Int32)))
set_option maxHeartbeats 4000000 in
theorem okc_X7_bits_50 {L : Nat} {k5 : Int32 → Int32 → Int32 → Int32 → Option (Int32)} {a : Nat} {σ : Sg} {R : Int32} (ha : P7 a) (Hk5 : ∀ (x1 : Int32) (x2 : Int32) (x3 : Int32) (x4 : Int32) (pl : mLoc), k5 x1 x2 x3 x4 = some R → mlf [some (.ref a), some (.int x1), some (.int x2), some (.int x3), some (.int x4)] pl → mAt 0 43 (some (.int R), (mSh, L, σ)) 5 pl [] (mSh, L, σ) 0 0) {x1 : Int32} {x2 : Int32} {x3 : Int32} {x4 : Int32} {pl : mLoc} (h : c_X7_bits_50 k5 a σ x1 x2 x3 x4 = some R) (hl : mlf [some (.ref a), some (.int x1), some (.int x2), some (.int x3), some (.int x4)] pl) : mAt 0 43 (some (.int R), (mSh, L, σ)) 50 pl [] (mSh, L, σ) 0 0 := by
  refine mAt.less hl ?_
  unfold c_X7_bits_50 at h
  refine mAt.blk bk_X7_bits_50 ck_X7_bits_50 ?_
  refine q_iinc rfl rfl ?_
  refine q_goto ?_
  exact Hk5 _ _ _ _ _  h ⟨rfl, rfl, rfl, rfl, rfl, trivial⟩
def c_X7_bits_5 (a : Nat) (σ : Sg) : Nat → Int32 → Int32 → Int32 → Int32 → Option (Int32)
  | 0, _, _, _, _ => none
  | n + 1, x1, x2, x3, x4 => (if (σ a 6) ≤ x4 then (some x3) else (if (10 : Int32) ≤ x4 then (some x3) else (if x4 < 0 ∨ 10 ≤ (x4).toNatClampNeg then none else (if (σ (a + 3) (x4).toNatClampNeg) = x1 then (if x4 < 0 ∨ 10 ≤ (x4).toNatClampNeg then none else (if (σ (a + 4) (x4).toNatClampNeg) = x2 then (c_X7_bits_50 (c_X7_bits_5 a σ n) a σ x1 x2 (x3 ||| ((1 : Int32) <<< (x4 &&& 31))) x4) else (c_X7_bits_50 (c_X7_bits_5 a σ n) a σ x1 x2 x3 x4))) else (c_X7_bits_50 (c_X7_bits_5 a σ n) a σ x1 x2 x3 x4)))))
set_option maxHeartbeats 4000000 in
theorem okc_X7_bits_5 {L : Nat} {a : Nat} {σ : Sg} {R : Int32} (ha : P7 a) {n : Nat} {x1 : Int32} {x2 : Int32} {x3 : Int32} {x4 : Int32} {pl : mLoc} (h : c_X7_bits_5 a σ n x1 x2 x3 x4 = some R) (hl : mlf [some (.ref a), some (.int x1), some (.int x2), some (.int x3), some (.int x4)] pl) : mAt 0 43 (some (.int R), (mSh, L, σ)) 5 pl [] (mSh, L, σ) 0 0 := by
  induction n generalizing x1 x2 x3 x4 pl with
  | zero =>
    rw [c_X7_bits_5.eq_1] at h
    cases h
  | succ n ih =>
    refine mAt.less hl ?_
    rw [c_X7_bits_5.eq_2] at h
    refine mAt.blk bk_X7_bits_5 ck_X7_bits_5 ?_
    refine q_iload rfl ?_
    refine q_aload_n rfl ?_
    refine q_getI (ha).1 rfl ?_
    refine q_ic_ge (fun c1 => ?_) (fun c1 => ?_)
    · rw [if_pos c1] at h
      refine mAt.blk bk_X7_bits_56 ck_X7_bits_56 ?_
      refine q_iload_n rfl ?_
      cases h
      exact q_iretI rfl rfl
    · rw [if_neg c1] at h
      refine q_iload rfl ?_
      refine q_bipush ?_
      refine q_ic_ge (fun c2 => ?_) (fun c2 => ?_)
      · rw [if_pos c2] at h
        refine mAt.blk bk_X7_bits_56 ck_X7_bits_56 ?_
        refine q_iload_n rfl ?_
        cases h
        exact q_iretI rfl rfl
      · rw [if_neg c2] at h
        refine q_aload_n rfl ?_
        refine q_getR (ha).1 rfl rfl ?_
        refine q_iload rfl ?_
        obtain ⟨c3, h⟩ := mnone h
        refine q_iald (mrd (ha).2.2.2.1 _ _) rfl c3 ?_
        refine q_iload_n rfl ?_
        refine q_ic_ne (fun c4 => ?_) (fun c4 => ?_)
        · rw [if_pos c4] at h
          refine q_aload_n rfl ?_
          refine q_getR (ha).1 rfl rfl ?_
          refine q_iload rfl ?_
          obtain ⟨c5, h⟩ := mnone h
          refine q_iald (mrd (ha).2.2.2.2.1 _ _) rfl c5 ?_
          refine q_iload_n rfl ?_
          refine q_ic_ne (fun c6 => ?_) (fun c6 => ?_)
          · rw [if_pos c6] at h
            refine q_iload_n rfl ?_
            refine q_iconst ?_
            refine q_iload rfl ?_
            refine q_ishl ?_
            refine q_ior ?_
            refine q_istore_n rfl rfl ?_
            exact okc_X7_bits_50 ha (fun _ _ _ _ _ e hl => ih  e hl) h ⟨rfl, rfl, rfl, rfl, rfl, trivial⟩
          · rw [if_neg c6] at h
            exact okc_X7_bits_50 ha (fun _ _ _ _ _ e hl => ih  e hl) h ⟨rfl, rfl, rfl, rfl, rfl, trivial⟩
        · rw [if_neg c4] at h
          exact okc_X7_bits_50 ha (fun _ _ _ _ _ e hl => ih  e hl) h ⟨rfl, rfl, rfl, rfl, rfl, trivial⟩
def f_X7_bits (a : Nat) (p0 : Int32) (p1 : Int32) (σ : Sg) : Option (Int32) := (c_X7_bits_5  a σ 1000 p0 p1 (0 : Int32) (0 : Int32))
set_option maxHeartbeats 4000000 in
theorem ok_X7_bits {L : Nat} {a : Nat} {p0 : Int32} {p1 : Int32} {σ : Sg} {R : Int32} (ha : P7 a) (h : f_X7_bits a p0 p1 σ = some R) : mEv 0 43 [.ref a, .int p0, .int p1] (mSh, L, σ) (some (.int R)) (mSh, L, σ) := by
  refine mEv.of (by decide) rfl rfl ?_
  unfold f_X7_bits at h
  refine mAt.blk bk_X7_bits_0 ck_X7_bits_0 ?_
  refine q_iconst ?_
  refine q_istore_n rfl rfl ?_
  refine q_iconst ?_
  refine q_istore rfl rfl ?_
  exact okc_X7_bits_5 ha h ⟨rfl, rfl, rfl, rfl, rfl, trivial⟩
def bk_X11_sheetAt_0 : List mI := [(.iload_n 1, 1, 0, 0, 0, []), (.ifCond .lt 21, 3, 22, 0, 0, []), (.iload_n 1, 1, 0, 0, 0, []), (.aload_n 0, 1, 0, 0, 0, []), (.getfield 70, 3, 11, 8, 369, []), (.arraylength, 1, 0, 0, 0, []), (.if_icmp .ge 12, 3, 22, 0, 0, []), (.aload_n 0, 1, 0, 0, 0, []), (.getfield 70, 3, 11, 8, 369, []), (.iload_n 1, 1, 0, 0, 0, []), (.aaload, 1, 0, 0, 0, []), (.goto 4, 3, 23, 0, 0, [])]
theorem ck_X11_sheetAt_0 : mChk 124 0 bk_X11_sheetAt_0 = true := by decide +kernel
def bk_X11_sheetAt_22 : List mI := [(.aconst_null, 1, 0, 0, 0, [])]
theorem ck_X11_sheetAt_22 : mChk 124 22 bk_X11_sheetAt_22 = true := by decide +kernel
def bk_X11_sheetAt_23 : List mI := [(.areturn, 1, 0, 0, 0, [])]
theorem ck_X11_sheetAt_23 : mChk 124 23 bk_X11_sheetAt_23 = true := by decide +kernel
def f_X11_sheetAt (p0 : Int32) (σ : Sg) : Option (Option Nat) := (if p0 < 0 then (some none) else (if (4 : Int32) ≤ p0 then (some none) else (if p0 < 0 ∨ 4 ≤ (p0).toNatClampNeg then none else (some (some (84 + 2 * (p0).toNatClampNeg))))))
set_option maxHeartbeats 4000000 in
theorem ok_X11_sheetAt {L : Nat} {p0 : Int32} {σ : Sg} {R : Option Nat} (h : f_X11_sheetAt p0 σ = some R) : mEv 0 124 [.ref 0, .int p0] (mSh, L, σ) (some (mpv R)) (mSh, L, σ) := by
  refine mEv.of (by decide) rfl rfl ?_
  unfold f_X11_sheetAt at h
  refine mAt.blk bk_X11_sheetAt_0 ck_X11_sheetAt_0 ?_
  refine q_iload_n rfl ?_
  refine q_if_lt (fun c1 => ?_) (fun c1 => ?_)
  · rw [if_pos c1] at h
    refine mAt.blk bk_X11_sheetAt_22 ck_X11_sheetAt_22 ?_
    refine q_aconst_null ?_
    refine mAt.blk bk_X11_sheetAt_23 ck_X11_sheetAt_23 ?_
    cases h
    exact q_aretN trivial rfl
  · rw [if_neg c1] at h
    refine q_iload_n rfl ?_
    refine q_aload_n rfl ?_
    refine q_getR ob_0 rfl rfl ?_
    refine q_alenQ (v := (4 : Int32)) rfl aq_83 ?_
    refine q_ic_ge (fun c2 => ?_) (fun c2 => ?_)
    · rw [if_pos c2] at h
      refine mAt.blk bk_X11_sheetAt_22 ck_X11_sheetAt_22 ?_
      refine q_aconst_null ?_
      refine mAt.blk bk_X11_sheetAt_23 ck_X11_sheetAt_23 ?_
      cases h
      exact q_aretN trivial rfl
    · rw [if_neg c2] at h
      refine q_aload_n rfl ?_
      refine q_getR ob_0 rfl rfl ?_
      refine q_iload_n rfl ?_
      obtain ⟨c3, h⟩ := mnone h
      refine q_aald aq_83 c3 (msheet _ (by have := c3; omega)).1 ?_
      refine q_goto ?_
      refine mAt.blk bk_X11_sheetAt_23 ck_X11_sheetAt_23 ?_
      cases h
      exact q_aretR trivial rfl
theorem ty_X11_sheetAt {p0 : Int32} {σ : Sg} {z : Nat} (h : f_X11_sheetAt p0 σ = some (some z)) : P5 z := by
  unfold f_X11_sheetAt at h
  split at h
  · cases h
  · split at h
    · cases h
    · obtain ⟨c1, h⟩ := mnone h
      cases h
      exact (msheet _ (by omega)).2
end
