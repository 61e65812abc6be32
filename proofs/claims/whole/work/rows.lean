section
-- ===== PART A: goes FIRST, ahead of the names: the tables' words, and 'selects' of the private methods out of them =====
/-- a private method of a class that the tables say can be made, by its rows of tables_1 -/
def lw_okq (q : MethodName × Nat) : Prop := (q.1.cls ≠ "java/lang/invoke/MethodHandle" ∧ q.1.cls ≠ "java/lang/invoke/VarHandle") ∧ Cond.instantiable q.1.cls q.2 ∈ tables_1 ∧ Cond.privateMethod q.1 ∈ tables_1 ∧ Cond.instanceMethod q.1 ∈ tables_1
theorem lw_p0 : lw_okq (⟨"StepRings", "isPerson", "(I)Z"⟩, 9) := ⟨⟨by decide +kernel, by decide +kernel⟩, List.mem_of_getElem? (i := 16) (by decide +kernel), List.mem_of_getElem? (i := 358) (by decide +kernel), List.mem_of_getElem? (i := 359) (by decide +kernel)⟩
theorem lw_p1 : lw_okq (⟨"StepRings$Roads", "layWays", "(I)V"⟩, 3) := ⟨⟨by decide +kernel, by decide +kernel⟩, List.mem_of_getElem? (i := 150) (by decide +kernel), List.mem_of_getElem? (i := 381) (by decide +kernel), List.mem_of_getElem? (i := 382) (by decide +kernel)⟩
theorem lw_p2 : lw_okq (⟨"StepRings$Roads", "joinWays", "([I)V"⟩, 3) := ⟨⟨by decide +kernel, by decide +kernel⟩, List.mem_of_getElem? (i := 150) (by decide +kernel), List.mem_of_getElem? (i := 393) (by decide +kernel), List.mem_of_getElem? (i := 394) (by decide +kernel)⟩
theorem lw_p3 : lw_okq (⟨"StepRings$Tape", "readRow", "(ZI)Z"⟩, 5) := ⟨⟨by decide +kernel, by decide +kernel⟩, List.mem_of_getElem? (i := 226) (by decide +kernel), List.mem_of_getElem? (i := 432) (by decide +kernel), List.mem_of_getElem? (i := 433) (by decide +kernel)⟩
theorem lw_p4 : lw_okq (⟨"StepRings$Tape", "readWay", "()Z"⟩, 5) := ⟨⟨by decide +kernel, by decide +kernel⟩, List.mem_of_getElem? (i := 226) (by decide +kernel), List.mem_of_getElem? (i := 436) (by decide +kernel), List.mem_of_getElem? (i := 437) (by decide +kernel)⟩
theorem lw_p5 : lw_okq (⟨"StepRings$Tape", "readPlace", "(I)I"⟩, 5) := ⟨⟨by decide +kernel, by decide +kernel⟩, List.mem_of_getElem? (i := 226) (by decide +kernel), List.mem_of_getElem? (i := 440) (by decide +kernel), List.mem_of_getElem? (i := 441) (by decide +kernel)⟩
theorem lw_p6 : lw_okq (⟨"StepRings$Tape", "look", "()I"⟩, 5) := ⟨⟨by decide +kernel, by decide +kernel⟩, List.mem_of_getElem? (i := 226) (by decide +kernel), List.mem_of_getElem? (i := 444) (by decide +kernel), List.mem_of_getElem? (i := 445) (by decide +kernel)⟩
theorem lw_p7 : lw_okq (⟨"StepRings$Tape", "take", "(C)Z"⟩, 5) := ⟨⟨by decide +kernel, by decide +kernel⟩, List.mem_of_getElem? (i := 226) (by decide +kernel), List.mem_of_getElem? (i := 448) (by decide +kernel), List.mem_of_getElem? (i := 449) (by decide +kernel)⟩
theorem lw_p8 : lw_okq (⟨"StepRings$Tape", "readDigit", "()I"⟩, 5) := ⟨⟨by decide +kernel, by decide +kernel⟩, List.mem_of_getElem? (i := 226) (by decide +kernel), List.mem_of_getElem? (i := 452) (by decide +kernel), List.mem_of_getElem? (i := 453) (by decide +kernel)⟩
theorem lw_p9 : lw_okq (⟨"StepRings$Tape", "readNumber", "(II)I"⟩, 5) := ⟨⟨by decide +kernel, by decide +kernel⟩, List.mem_of_getElem? (i := 226) (by decide +kernel), List.mem_of_getElem? (i := 456) (by decide +kernel), List.mem_of_getElem? (i := 457) (by decide +kernel)⟩
theorem lw_p10 : lw_okq (⟨"StepRings$Tape", "readPerson", "()Z"⟩, 5) := ⟨⟨by decide +kernel, by decide +kernel⟩, List.mem_of_getElem? (i := 226) (by decide +kernel), List.mem_of_getElem? (i := 462) (by decide +kernel), List.mem_of_getElem? (i := 463) (by decide +kernel)⟩
theorem lw_p11 : lw_okq (⟨"StepRings$Tape", "readKind", "()I"⟩, 5) := ⟨⟨by decide +kernel, by decide +kernel⟩, List.mem_of_getElem? (i := 226) (by decide +kernel), List.mem_of_getElem? (i := 466) (by decide +kernel), List.mem_of_getElem? (i := 467) (by decide +kernel)⟩
theorem lw_p12 : lw_okq (⟨"StepRings", "farFromNow", "(II)I"⟩, 9) := ⟨⟨by decide +kernel, by decide +kernel⟩, List.mem_of_getElem? (i := 16) (by decide +kernel), List.mem_of_getElem? (i := 512) (by decide +kernel), List.mem_of_getElem? (i := 513) (by decide +kernel)⟩
theorem lw_p13 : lw_okq (⟨"StepRings", "walk", "(III)I"⟩, 9) := ⟨⟨by decide +kernel, by decide +kernel⟩, List.mem_of_getElem? (i := 16) (by decide +kernel), List.mem_of_getElem? (i := 516) (by decide +kernel), List.mem_of_getElem? (i := 517) (by decide +kernel)⟩
theorem lw_p14 : lw_okq (⟨"StepRings", "areTwo", "(II)Z"⟩, 9) := ⟨⟨by decide +kernel, by decide +kernel⟩, List.mem_of_getElem? (i := 16) (by decide +kernel), List.mem_of_getElem? (i := 536) (by decide +kernel), List.mem_of_getElem? (i := 537) (by decide +kernel)⟩
theorem lw_p15 : lw_okq (⟨"StepRings$Tours", "through", "(I[III)I"⟩, 5) := ⟨⟨by decide +kernel, by decide +kernel⟩, List.mem_of_getElem? (i := 168) (by decide +kernel), List.mem_of_getElem? (i := 603) (by decide +kernel), List.mem_of_getElem? (i := 604) (by decide +kernel)⟩
def lw_privs_1 : List (MethodName × Nat) := [(⟨"StepRings", "isPerson", "(I)Z"⟩, 9), (⟨"StepRings$Roads", "layWays", "(I)V"⟩, 3), (⟨"StepRings$Roads", "joinWays", "([I)V"⟩, 3), (⟨"StepRings$Tape", "readRow", "(ZI)Z"⟩, 5), (⟨"StepRings$Tape", "readWay", "()Z"⟩, 5), (⟨"StepRings$Tape", "readPlace", "(I)I"⟩, 5), (⟨"StepRings$Tape", "look", "()I"⟩, 5), (⟨"StepRings$Tape", "take", "(C)Z"⟩, 5), (⟨"StepRings$Tape", "readDigit", "()I"⟩, 5), (⟨"StepRings$Tape", "readNumber", "(II)I"⟩, 5), (⟨"StepRings$Tape", "readPerson", "()Z"⟩, 5), (⟨"StepRings$Tape", "readKind", "()I"⟩, 5), (⟨"StepRings", "farFromNow", "(II)I"⟩, 9), (⟨"StepRings", "walk", "(III)I"⟩, 9), (⟨"StepRings", "areTwo", "(II)Z"⟩, 9), (⟨"StepRings$Tours", "through", "(I[III)I"⟩, 5)]
theorem lw_r1 : ∀ q ∈ lw_privs_1, lw_okq q := List.forall_mem_cons.mpr ⟨lw_p0, List.forall_mem_cons.mpr ⟨lw_p1, List.forall_mem_cons.mpr ⟨lw_p2, List.forall_mem_cons.mpr ⟨lw_p3, List.forall_mem_cons.mpr ⟨lw_p4, List.forall_mem_cons.mpr ⟨lw_p5, List.forall_mem_cons.mpr ⟨lw_p6, List.forall_mem_cons.mpr ⟨lw_p7, List.forall_mem_cons.mpr ⟨lw_p8, List.forall_mem_cons.mpr ⟨lw_p9, List.forall_mem_cons.mpr ⟨lw_p10, List.forall_mem_cons.mpr ⟨lw_p11, List.forall_mem_cons.mpr ⟨lw_p12, List.forall_mem_cons.mpr ⟨lw_p13, List.forall_mem_cons.mpr ⟨lw_p14, List.forall_mem_cons.mpr ⟨lw_p15, fun _ h => absurd h List.not_mem_nil⟩⟩⟩⟩⟩⟩⟩⟩⟩⟩⟩⟩⟩⟩⟩⟩
theorem lw_p16 : lw_okq (⟨"StepRings$Tours", "firstOf", "(I[II)I"⟩, 5) := ⟨⟨by decide +kernel, by decide +kernel⟩, List.mem_of_getElem? (i := 168) (by decide +kernel), List.mem_of_getElem? (i := 607) (by decide +kernel), List.mem_of_getElem? (i := 608) (by decide +kernel)⟩
theorem lw_p17 : lw_okq (⟨"StepRings$Tours", "by", "(II[II)I"⟩, 5) := ⟨⟨by decide +kernel, by decide +kernel⟩, List.mem_of_getElem? (i := 168) (by decide +kernel), List.mem_of_getElem? (i := 611) (by decide +kernel), List.mem_of_getElem? (i := 612) (by decide +kernel)⟩
theorem lw_p18 : lw_okq (⟨"StepRings$Tours", "shareWith", "(I)V"⟩, 5) := ⟨⟨by decide +kernel, by decide +kernel⟩, List.mem_of_getElem? (i := 168) (by decide +kernel), List.mem_of_getElem? (i := 616) (by decide +kernel), List.mem_of_getElem? (i := 617) (by decide +kernel)⟩
theorem lw_p19 : lw_okq (⟨"StepRings$Wells", "costOfRow", "(II)I"⟩, 4) := ⟨⟨by decide +kernel, by decide +kernel⟩, List.mem_of_getElem? (i := 190) (by decide +kernel), List.mem_of_getElem? (i := 638) (by decide +kernel), List.mem_of_getElem? (i := 639) (by decide +kernel)⟩
theorem lw_p20 : lw_okq (⟨"StepRings$Wells", "nextRow", "(I)Z"⟩, 4) := ⟨⟨by decide +kernel, by decide +kernel⟩, List.mem_of_getElem? (i := 190) (by decide +kernel), List.mem_of_getElem? (i := 645) (by decide +kernel), List.mem_of_getElem? (i := 646) (by decide +kernel)⟩
theorem lw_p21 : lw_okq (⟨"StepRings$Cut", "findRow", "(II)Z"⟩, 3) := ⟨⟨by decide +kernel, by decide +kernel⟩, List.mem_of_getElem? (i := 210) (by decide +kernel), List.mem_of_getElem? (i := 662) (by decide +kernel), List.mem_of_getElem? (i := 663) (by decide +kernel)⟩
theorem lw_p22 : lw_okq (⟨"StepRings$Cut", "reach", "(IIII)I"⟩, 3) := ⟨⟨by decide +kernel, by decide +kernel⟩, List.mem_of_getElem? (i := 210) (by decide +kernel), List.mem_of_getElem? (i := 666) (by decide +kernel), List.mem_of_getElem? (i := 667) (by decide +kernel)⟩
theorem lw_p23 : lw_okq (⟨"StepRings$Cut", "takeRow", "(I)V"⟩, 3) := ⟨⟨by decide +kernel, by decide +kernel⟩, List.mem_of_getElem? (i := 210) (by decide +kernel), List.mem_of_getElem? (i := 670) (by decide +kernel), List.mem_of_getElem? (i := 671) (by decide +kernel)⟩
theorem lw_p24 : lw_okq (⟨"StepRings", "refusedRow", "(IIII)I"⟩, 9) := ⟨⟨by decide +kernel, by decide +kernel⟩, List.mem_of_getElem? (i := 16) (by decide +kernel), List.mem_of_getElem? (i := 693) (by decide +kernel), List.mem_of_getElem? (i := 694) (by decide +kernel)⟩
theorem lw_p25 : lw_okq (⟨"StepRingsModel", "addWay", "(IIIII)V"⟩, 30) := ⟨⟨by decide +kernel, by decide +kernel⟩, List.mem_of_getElem? (i := 734) (by decide +kernel), List.mem_of_getElem? (i := 845) (by decide +kernel), List.mem_of_getElem? (i := 846) (by decide +kernel)⟩
theorem lw_p26 : lw_okq (⟨"StepRingsModel", "addOne", "(III)V"⟩, 30) := ⟨⟨by decide +kernel, by decide +kernel⟩, List.mem_of_getElem? (i := 734) (by decide +kernel), List.mem_of_getElem? (i := 865) (by decide +kernel), List.mem_of_getElem? (i := 866) (by decide +kernel)⟩
theorem lw_p27 : lw_okq (⟨"StepRingsModel", "isOne", "(I)Z"⟩, 30) := ⟨⟨by decide +kernel, by decide +kernel⟩, List.mem_of_getElem? (i := 734) (by decide +kernel), List.mem_of_getElem? (i := 873) (by decide +kernel), List.mem_of_getElem? (i := 874) (by decide +kernel)⟩
theorem lw_p28 : lw_okq (⟨"StepRingsModel", "costOf", "(III)I"⟩, 30) := ⟨⟨by decide +kernel, by decide +kernel⟩, List.mem_of_getElem? (i := 734) (by decide +kernel), List.mem_of_getElem? (i := 881) (by decide +kernel), List.mem_of_getElem? (i := 882) (by decide +kernel)⟩
theorem lw_p29 : lw_okq (⟨"StepRingsModel", "farOf", "(III)I"⟩, 30) := ⟨⟨by decide +kernel, by decide +kernel⟩, List.mem_of_getElem? (i := 734) (by decide +kernel), List.mem_of_getElem? (i := 889) (by decide +kernel), List.mem_of_getElem? (i := 890) (by decide +kernel)⟩
theorem lw_p30 : lw_okq (⟨"StepRingsModel", "findFar", "(II)V"⟩, 30) := ⟨⟨by decide +kernel, by decide +kernel⟩, List.mem_of_getElem? (i := 734) (by decide +kernel), List.mem_of_getElem? (i := 893) (by decide +kernel), List.mem_of_getElem? (i := 894) (by decide +kernel)⟩
theorem lw_p31 : lw_okq (⟨"StepRingsModel", "readAll", "(Z)Z"⟩, 30) := ⟨⟨by decide +kernel, by decide +kernel⟩, List.mem_of_getElem? (i := 734) (by decide +kernel), List.mem_of_getElem? (i := 924) (by decide +kernel), List.mem_of_getElem? (i := 925) (by decide +kernel)⟩
def lw_privs_2 : List (MethodName × Nat) := [(⟨"StepRings$Tours", "firstOf", "(I[II)I"⟩, 5), (⟨"StepRings$Tours", "by", "(II[II)I"⟩, 5), (⟨"StepRings$Tours", "shareWith", "(I)V"⟩, 5), (⟨"StepRings$Wells", "costOfRow", "(II)I"⟩, 4), (⟨"StepRings$Wells", "nextRow", "(I)Z"⟩, 4), (⟨"StepRings$Cut", "findRow", "(II)Z"⟩, 3), (⟨"StepRings$Cut", "reach", "(IIII)I"⟩, 3), (⟨"StepRings$Cut", "takeRow", "(I)V"⟩, 3), (⟨"StepRings", "refusedRow", "(IIII)I"⟩, 9), (⟨"StepRingsModel", "addWay", "(IIIII)V"⟩, 30), (⟨"StepRingsModel", "addOne", "(III)V"⟩, 30), (⟨"StepRingsModel", "isOne", "(I)Z"⟩, 30), (⟨"StepRingsModel", "costOf", "(III)I"⟩, 30), (⟨"StepRingsModel", "farOf", "(III)I"⟩, 30), (⟨"StepRingsModel", "findFar", "(II)V"⟩, 30), (⟨"StepRingsModel", "readAll", "(Z)Z"⟩, 30)]
theorem lw_r2 : ∀ q ∈ lw_privs_2, lw_okq q := List.forall_mem_cons.mpr ⟨lw_p16, List.forall_mem_cons.mpr ⟨lw_p17, List.forall_mem_cons.mpr ⟨lw_p18, List.forall_mem_cons.mpr ⟨lw_p19, List.forall_mem_cons.mpr ⟨lw_p20, List.forall_mem_cons.mpr ⟨lw_p21, List.forall_mem_cons.mpr ⟨lw_p22, List.forall_mem_cons.mpr ⟨lw_p23, List.forall_mem_cons.mpr ⟨lw_p24, List.forall_mem_cons.mpr ⟨lw_p25, List.forall_mem_cons.mpr ⟨lw_p26, List.forall_mem_cons.mpr ⟨lw_p27, List.forall_mem_cons.mpr ⟨lw_p28, List.forall_mem_cons.mpr ⟨lw_p29, List.forall_mem_cons.mpr ⟨lw_p30, List.forall_mem_cons.mpr ⟨lw_p31, fun _ h => absurd h List.not_mem_nil⟩⟩⟩⟩⟩⟩⟩⟩⟩⟩⟩⟩⟩⟩⟩⟩
theorem lw_p32 : lw_okq (⟨"StepRingsModel", "readWay", "(I)Z"⟩, 30) := ⟨⟨by decide +kernel, by decide +kernel⟩, List.mem_of_getElem? (i := 734) (by decide +kernel), List.mem_of_getElem? (i := 928) (by decide +kernel), List.mem_of_getElem? (i := 929) (by decide +kernel)⟩
theorem lw_p33 : lw_okq (⟨"StepRingsModel", "readPlace", "()I"⟩, 30) := ⟨⟨by decide +kernel, by decide +kernel⟩, List.mem_of_getElem? (i := 734) (by decide +kernel), List.mem_of_getElem? (i := 932) (by decide +kernel), List.mem_of_getElem? (i := 933) (by decide +kernel)⟩
theorem lw_p34 : lw_okq (⟨"StepRingsModel", "nextByte", "()I"⟩, 30) := ⟨⟨by decide +kernel, by decide +kernel⟩, List.mem_of_getElem? (i := 734) (by decide +kernel), List.mem_of_getElem? (i := 936) (by decide +kernel), List.mem_of_getElem? (i := 937) (by decide +kernel)⟩
theorem lw_p35 : lw_okq (⟨"StepRingsModel", "readNumber", "(II)I"⟩, 30) := ⟨⟨by decide +kernel, by decide +kernel⟩, List.mem_of_getElem? (i := 734) (by decide +kernel), List.mem_of_getElem? (i := 940) (by decide +kernel), List.mem_of_getElem? (i := 941) (by decide +kernel)⟩
theorem lw_p36 : lw_okq (⟨"StepRingsModel", "readOne", "(I)Z"⟩, 30) := ⟨⟨by decide +kernel, by decide +kernel⟩, List.mem_of_getElem? (i := 734) (by decide +kernel), List.mem_of_getElem? (i := 947) (by decide +kernel), List.mem_of_getElem? (i := 948) (by decide +kernel)⟩
theorem lw_p37 : lw_okq (⟨"StepRingsModel", "goBy", "(III)V"⟩, 30) := ⟨⟨by decide +kernel, by decide +kernel⟩, List.mem_of_getElem? (i := 734) (by decide +kernel), List.mem_of_getElem? (i := 959) (by decide +kernel), List.mem_of_getElem? (i := 960) (by decide +kernel)⟩
theorem lw_p38 : lw_okq (⟨"StepRingsModel", "isNext", "(III)Z"⟩, 30) := ⟨⟨by decide +kernel, by decide +kernel⟩, List.mem_of_getElem? (i := 734) (by decide +kernel), List.mem_of_getElem? (i := 963) (by decide +kernel), List.mem_of_getElem? (i := 964) (by decide +kernel)⟩
theorem lw_p39 : lw_okq (⟨"StepRingsModel", "areTwo", "(II)Z"⟩, 30) := ⟨⟨by decide +kernel, by decide +kernel⟩, List.mem_of_getElem? (i := 734) (by decide +kernel), List.mem_of_getElem? (i := 972) (by decide +kernel), List.mem_of_getElem? (i := 973) (by decide +kernel)⟩
theorem lw_p40 : lw_okq (⟨"StepRingsModel", "send", "(III)V"⟩, 30) := ⟨⟨by decide +kernel, by decide +kernel⟩, List.mem_of_getElem? (i := 734) (by decide +kernel), List.mem_of_getElem? (i := 980) (by decide +kernel), List.mem_of_getElem? (i := 981) (by decide +kernel)⟩
theorem lw_p41 : lw_okq (⟨"StepRingsModel", "findTours", "(I)V"⟩, 30) := ⟨⟨by decide +kernel, by decide +kernel⟩, List.mem_of_getElem? (i := 734) (by decide +kernel), List.mem_of_getElem? (i := 1012) (by decide +kernel), List.mem_of_getElem? (i := 1013) (by decide +kernel)⟩
theorem lw_p42 : lw_okq (⟨"StepRingsModel", "findTable", "(I)V"⟩, 30) := ⟨⟨by decide +kernel, by decide +kernel⟩, List.mem_of_getElem? (i := 734) (by decide +kernel), List.mem_of_getElem? (i := 1016) (by decide +kernel), List.mem_of_getElem? (i := 1017) (by decide +kernel)⟩
theorem lw_p43 : lw_okq (⟨"StepRingsModel", "placeOf", "(II)I"⟩, 30) := ⟨⟨by decide +kernel, by decide +kernel⟩, List.mem_of_getElem? (i := 734) (by decide +kernel), List.mem_of_getElem? (i := 1020) (by decide +kernel), List.mem_of_getElem? (i := 1021) (by decide +kernel)⟩
theorem lw_p44 : lw_okq (⟨"StepRingsModel", "wellsOf", "(II)I"⟩, 30) := ⟨⟨by decide +kernel, by decide +kernel⟩, List.mem_of_getElem? (i := 734) (by decide +kernel), List.mem_of_getElem? (i := 1037) (by decide +kernel), List.mem_of_getElem? (i := 1038) (by decide +kernel)⟩
theorem lw_p45 : lw_okq (⟨"StepRingsModel", "oneMore", "(II)Z"⟩, 30) := ⟨⟨by decide +kernel, by decide +kernel⟩, List.mem_of_getElem? (i := 734) (by decide +kernel), List.mem_of_getElem? (i := 1052) (by decide +kernel), List.mem_of_getElem? (i := 1053) (by decide +kernel)⟩
theorem lw_p46 : lw_okq (⟨"StepRingsModel", "carried", "(IIZ)I"⟩, 30) := ⟨⟨by decide +kernel, by decide +kernel⟩, List.mem_of_getElem? (i := 734) (by decide +kernel), List.mem_of_getElem? (i := 1060) (by decide +kernel), List.mem_of_getElem? (i := 1061) (by decide +kernel)⟩
theorem lw_p47 : lw_okq (⟨"StepRingsModel", "lacksRow", "(IIII)I"⟩, 30) := ⟨⟨by decide +kernel, by decide +kernel⟩, List.mem_of_getElem? (i := 734) (by decide +kernel), List.mem_of_getElem? (i := 1083) (by decide +kernel), List.mem_of_getElem? (i := 1084) (by decide +kernel)⟩
def lw_privs_3 : List (MethodName × Nat) := [(⟨"StepRingsModel", "readWay", "(I)Z"⟩, 30), (⟨"StepRingsModel", "readPlace", "()I"⟩, 30), (⟨"StepRingsModel", "nextByte", "()I"⟩, 30), (⟨"StepRingsModel", "readNumber", "(II)I"⟩, 30), (⟨"StepRingsModel", "readOne", "(I)Z"⟩, 30), (⟨"StepRingsModel", "goBy", "(III)V"⟩, 30), (⟨"StepRingsModel", "isNext", "(III)Z"⟩, 30), (⟨"StepRingsModel", "areTwo", "(II)Z"⟩, 30), (⟨"StepRingsModel", "send", "(III)V"⟩, 30), (⟨"StepRingsModel", "findTours", "(I)V"⟩, 30), (⟨"StepRingsModel", "findTable", "(I)V"⟩, 30), (⟨"StepRingsModel", "placeOf", "(II)I"⟩, 30), (⟨"StepRingsModel", "wellsOf", "(II)I"⟩, 30), (⟨"StepRingsModel", "oneMore", "(II)Z"⟩, 30), (⟨"StepRingsModel", "carried", "(IIZ)I"⟩, 30), (⟨"StepRingsModel", "lacksRow", "(IIII)I"⟩, 30)]
theorem lw_r3 : ∀ q ∈ lw_privs_3, lw_okq q := List.forall_mem_cons.mpr ⟨lw_p32, List.forall_mem_cons.mpr ⟨lw_p33, List.forall_mem_cons.mpr ⟨lw_p34, List.forall_mem_cons.mpr ⟨lw_p35, List.forall_mem_cons.mpr ⟨lw_p36, List.forall_mem_cons.mpr ⟨lw_p37, List.forall_mem_cons.mpr ⟨lw_p38, List.forall_mem_cons.mpr ⟨lw_p39, List.forall_mem_cons.mpr ⟨lw_p40, List.forall_mem_cons.mpr ⟨lw_p41, List.forall_mem_cons.mpr ⟨lw_p42, List.forall_mem_cons.mpr ⟨lw_p43, List.forall_mem_cons.mpr ⟨lw_p44, List.forall_mem_cons.mpr ⟨lw_p45, List.forall_mem_cons.mpr ⟨lw_p46, List.forall_mem_cons.mpr ⟨lw_p47, fun _ h => absurd h List.not_mem_nil⟩⟩⟩⟩⟩⟩⟩⟩⟩⟩⟩⟩⟩⟩⟩⟩
def lw_privs : List (MethodName × Nat) := lw_privs_1 ++ (lw_privs_2 ++ (lw_privs_3))
def lw_tbl : List Cond := k2_sels lw_privs ++ tables_1
theorem lw_privs_ok : ∀ q ∈ lw_privs, lw_okq q := by
  show ∀ q ∈ lw_privs_1 ++ (lw_privs_2 ++ (lw_privs_3)), lw_okq q
  exact List.forall_mem_append.mpr ⟨lw_r1, List.forall_mem_append.mpr ⟨lw_r2, lw_r3⟩⟩

-- ===== the classes: names, fields, types =====
def xR0 : String := "StepRings$Cut"
def xT0 : u_T := fun k => match k with
  | 0 => ("StepRings$Cut", "ways", "LStepRings$Ways;", true)
  | 1 => ("StepRings$Cut", "used", "[I", true)
  | _ => ("StepRings$Cut", "cameBy", "[I", true)
def xty0 : Nat → FieldType := fun k => match k with
  | 0 => .object "StepRings$Ways"
  | 1 => .array .int
  | _ => .array .int
def xR1 : String := "StepRings$People"
def xT1 : u_T := fun k => match k with
  | 0 => ("StepRings$People", "count", "I", false)
  | 1 => ("StepRings$People", "home", "[I", true)
  | 2 => ("StepRings$People", "kind", "[I", true)
  | 3 => ("StepRings$People", "ring", "[I", true)
  | 4 => ("StepRings$People", "place", "[I", true)
  | 5 => ("StepRings$People", "counted", "[I", true)
  | 6 => ("StepRings$People", "in", "[I", true)
  | 7 => ("StepRings$People", "out", "[I", true)
  | _ => ("StepRings$People", "owed", "[I", true)
def xty1 : Nat → FieldType := fun k => match k with
  | 0 => .int
  | 1 => .array .int
  | 2 => .array .int
  | 3 => .array .int
  | 4 => .array .int
  | 5 => .array .int
  | 6 => .array .int
  | 7 => .array .int
  | _ => .array .int
def xR2 : String := "StepRings$Roads"
def xT2 : u_T := fun k => match k with
  | 0 => ("StepRings$Roads", "ways", "LStepRings$Ways;", true)
  | 1 => ("StepRings$Roads", "table", "[[I", true)
  | _ => ("StepRings$Roads", "known", "I", false)
def xty2 : Nat → FieldType := fun k => match k with
  | 0 => .object "StepRings$Ways"
  | 1 => .array (.array .int)
  | _ => .int
def xR3 : String := "StepRings$Sheet"
def xT3 : u_T := fun k => match k with
  | 0 => ("StepRings$Sheet", "holds", "Z", false)
  | 1 => ("StepRings$Sheet", "lane", "I", false)
  | 2 => ("StepRings$Sheet", "size", "I", false)
  | _ => ("StepRings$Sheet", "items", "[J", true)
def xty3 : Nat → FieldType := fun k => match k with
  | 0 => .boolean
  | 1 => .int
  | 2 => .int
  | _ => .array .long
def xR4 : String := "StepRings$Tape"
def xT4 : u_T := fun k => match k with
  | 0 => ("StepRings$Tape", "bytes", "[C", true)
  | 1 => ("StepRings$Tape", "size", "I", false)
  | 2 => ("StepRings$Tape", "at", "I", false)
  | 3 => ("StepRings$Tape", "ways", "LStepRings$Ways;", true)
  | _ => ("StepRings$Tape", "people", "LStepRings$People;", true)
def xty4 : Nat → FieldType := fun k => match k with
  | 0 => .array .char
  | 1 => .int
  | 2 => .int
  | 3 => .object "StepRings$Ways"
  | _ => .object "StepRings$People"
def xR5 : String := "StepRings$Tours"
def xT5 : u_T := fun k => match k with
  | 0 => ("StepRings$Tours", "world", "LStepRings$World;", true)
  | 1 => ("StepRings$Tours", "roads", "LStepRings$Roads;", true)
  | 2 => ("StepRings$Tours", "rest", "[I", true)
  | 3 => ("StepRings$Tours", "whole", "[I", true)
  | _ => ("StepRings$Tours", "shared", "[I", true)
def xty5 : Nat → FieldType := fun k => match k with
  | 0 => .object "StepRings$World"
  | 1 => .object "StepRings$Roads"
  | 2 => .array .int
  | 3 => .array .int
  | _ => .array .int
def xR6 : String := "StepRings$Ways"
def xT6 : u_T := fun k => match k with
  | 0 => ("StepRings$Ways", "count", "I", false)
  | 1 => ("StepRings$Ways", "first", "[I", true)
  | 2 => ("StepRings$Ways", "second", "[I", true)
  | 3 => ("StepRings$Ways", "length", "[I", true)
  | 4 => ("StepRings$Ways", "slope", "[I", true)
  | _ => ("StepRings$Ways", "gated", "[I", true)
def xty6 : Nat → FieldType := fun k => match k with
  | 0 => .int
  | 1 => .array .int
  | 2 => .array .int
  | 3 => .array .int
  | 4 => .array .int
  | _ => .array .int
def xR7 : String := "StepRings$Wells"
def xT7 : u_T := fun k => match k with
  | 0 => ("StepRings$Wells", "people", "LStepRings$People;", true)
  | 1 => ("StepRings$Wells", "roads", "LStepRings$Roads;", true)
  | 2 => ("StepRings$Wells", "row", "[I", true)
  | _ => ("StepRings$Wells", "best", "[I", true)
def xty7 : Nat → FieldType := fun k => match k with
  | 0 => .object "StepRings$People"
  | 1 => .object "StepRings$Roads"
  | 2 => .array .int
  | _ => .array .int
def xR8 : String := "StepRings$World"
def xT8 : u_T := fun k => match k with
  | 0 => ("StepRings$World", "ways", "LStepRings$Ways;", true)
  | 1 => ("StepRings$World", "people", "LStepRings$People;", true)
  | 2 => ("StepRings$World", "errands", "I", false)
  | 3 => ("StepRings$World", "errandPlace", "[I", true)
  | 4 => ("StepRings$World", "share", "[I", true)
  | 5 => ("StepRings$World", "law", "I", false)
  | _ => ("StepRings$World", "spent", "I", false)
def xty8 : Nat → FieldType := fun k => match k with
  | 0 => .object "StepRings$Ways"
  | 1 => .object "StepRings$People"
  | 2 => .int
  | 3 => .array .int
  | 4 => .array .int
  | 5 => .int
  | _ => .int
def xR9 : String := "StepRings"
def xT9 : u_T := fun k => match k with
  | 0 => ("StepRings", "world", "LStepRings$World;", true)
  | 1 => ("StepRings", "kept", "LStepRings$World;", true)
  | 2 => ("StepRings", "hasImage", "Z", false)
  | 3 => ("StepRings", "roads", "LStepRings$Roads;", true)
  | 4 => ("StepRings", "tours", "LStepRings$Tours;", true)
  | 5 => ("StepRings", "wellRows", "LStepRings$Wells;", true)
  | 6 => ("StepRings", "cut", "LStepRings$Cut;", true)
  | 7 => ("StepRings", "tape", "LStepRings$Tape;", true)
  | _ => ("StepRings", "sheets", "[LStepRings$Sheet;", true)
def xty9 : Nat → FieldType := fun k => match k with
  | 0 => .object "StepRings$World"
  | 1 => .object "StepRings$World"
  | 2 => .boolean
  | 3 => .object "StepRings$Roads"
  | 4 => .object "StepRings$Tours"
  | 5 => .object "StepRings$Wells"
  | 6 => .object "StepRings$Cut"
  | 7 => .object "StepRings$Tape"
  | _ => .array (.object "StepRings$Sheet")
def xR10 : String := "StepRingsModel"
def xT10 : u_T := fun k => match k with
  | 0 => ("StepRingsModel", "ways", "[I", true)
  | 1 => ("StepRingsModel", "wayMany", "I", false)
  | 2 => ("StepRingsModel", "z", "[I", true)
  | 3 => ("StepRingsModel", "many", "I", false)
  | 4 => ("StepRingsModel", "owed", "[I", true)
  | 5 => ("StepRingsModel", "given", "[I", true)
  | 6 => ("StepRingsModel", "law", "I", false)
  | 7 => ("StepRingsModel", "errands", "[I", true)
  | 8 => ("StepRingsModel", "errandMany", "I", false)
  | 9 => ("StepRingsModel", "spent", "I", false)
  | 10 => ("StepRingsModel", "far", "[I", true)
  | 11 => ("StepRingsModel", "tape", "[I", true)
  | 12 => ("StepRingsModel", "taped", "I", false)
  | 13 => ("StepRingsModel", "place", "I", false)
  | 14 => ("StepRingsModel", "reads", "I", false)
  | 15 => ("StepRingsModel", "read", "[I", true)
  | 16 => ("StepRingsModel", "table", "[I", true)
  | 17 => ("StepRingsModel", "left", "[I", true)
  | 18 => ("StepRingsModel", "among", "[I", true)
  | 19 => ("StepRingsModel", "then", "[I", true)
  | 20 => ("StepRingsModel", "fromHome", "[I", true)
  | 21 => ("StepRingsModel", "flow", "[I", true)
  | 22 => ("StepRingsModel", "came", "[I", true)
  | 23 => ("StepRingsModel", "queue", "[I", true)
  | 24 => ("StepRingsModel", "isKept", "Z", false)
  | 25 => ("StepRingsModel", "kept", "[I", true)
  | 26 => ("StepRingsModel", "keptCounts", "[I", true)
  | 27 => ("StepRingsModel", "lanes", "[I", true)
  | 28 => ("StepRingsModel", "rowSizes", "[I", true)
  | _ => ("StepRingsModel", "items", "[J", true)
def xty10 : Nat → FieldType := fun k => match k with
  | 0 => .array .int
  | 1 => .int
  | 2 => .array .int
  | 3 => .int
  | 4 => .array .int
  | 5 => .array .int
  | 6 => .int
  | 7 => .array .int
  | 8 => .int
  | 9 => .int
  | 10 => .array .int
  | 11 => .array .int
  | 12 => .int
  | 13 => .int
  | 14 => .int
  | 15 => .array .int
  | 16 => .array .int
  | 17 => .array .int
  | 18 => .array .int
  | 19 => .array .int
  | 20 => .array .int
  | 21 => .array .int
  | 22 => .array .int
  | 23 => .array .int
  | 24 => .boolean
  | 25 => .array .int
  | 26 => .array .int
  | 27 => .array .int
  | 28 => .array .int
  | _ => .array .long
abbrev xCl : List vw_C := [(xR0, xT0, 3), (xR1, xT1, 9), (xR2, xT2, 3), (xR3, xT3, 4), (xR4, xT4, 5), (xR5, xT5, 5), (xR6, xT6, 6), (xR7, xT7, 4), (xR8, xT8, 7), (xR9, xT9, 9), (xR10, xT10, 30)]
abbrev xTys : List (Nat → FieldType) := [xty0, xty1, xty2, xty3, xty4, xty5, xty6, xty7, xty8, xty9, xty10]
def xKd : List (List Bool) := [[true, true, true], [false, true, true, true, true, true, true, true, true], [true, true, false], [false, false, false, true], [true, false, false, true, true], [true, true, true, true, true], [false, true, true, true, true, true], [true, true, true, true], [true, true, false, true, true, false, false], [true, true, false, true, true, true, true, true, true], [true, false, true, false, true, true, false, true, false, false, true, true, false, false, false, true, true, true, true, true, true, true, true, true, false, true, true, true, true, true]]
-- ===== the methods =====
abbrev m_L_law : Nat := 0
abbrev m_Cut_init : Nat := 1
abbrev m_Cut_fewest : Nat := 2
abbrev m_Cut_findRow : Nat := 3
abbrev m_Cut_reach : Nat := 4
abbrev m_Cut_takeRow : Nat := 5
abbrev m_People_copy : Nat := 6
abbrev m_People_init : Nat := 7
abbrev m_People_add : Nat := 8
abbrev m_People_hand : Nat := 9
abbrev m_People_payBack : Nat := 10
abbrev m_People_settle : Nat := 11
abbrev m_People_renew : Nat := 12
abbrev m_People_isLiar : Nat := 13
abbrev m_People_allRings : Nat := 14
abbrev m_People_allOwed : Nat := 15
abbrev m_Roads_init : Nat := 16
abbrev m_Roads_forget : Nat := 17
abbrev m_Roads_costsOf : Nat := 18
abbrev m_Roads_wayOn : Nat := 19
abbrev m_Roads_layWays : Nat := 20
abbrev m_Roads_joinWays : Nat := 21
abbrev m_Sheet_init : Nat := 22
abbrev m_Sheet_fresh : Nat := 23
abbrev m_Sheet_put : Nat := 24
abbrev m_Tape_readPerson : Nat := 25
abbrev m_Tape_look : Nat := 26
abbrev m_Tape_take : Nat := 27
abbrev m_Tape_readPlace : Nat := 28
abbrev m_Tape_readKind : Nat := 29
abbrev m_Tape_readDigit : Nat := 30
abbrev m_Tape_readNumber : Nat := 31
abbrev m_Tape_init : Nat := 32
abbrev m_Tape_canHold : Nat := 33
abbrev m_Tape_byteOf : Nat := 34
abbrev m_Tape_append : Nat := 35
abbrev m_Tape_empty : Nat := 36
abbrev m_Tape_readTown : Nat := 37
abbrev m_Tape_readPeople : Nat := 38
abbrev m_Tape_readRow : Nat := 39
abbrev m_Tape_readWay : Nat := 40
abbrev m_Tours_init : Nat := 41
abbrev m_Tours_weigh : Nat := 42
abbrev m_Tours_errandAt : Nat := 43
abbrev m_Tours_leastParted : Nat := 44
abbrev m_Tours_shareWith : Nat := 45
abbrev m_Tours_through : Nat := 46
abbrev m_Tours_firstOf : Nat := 47
abbrev m_Tours_by : Nat := 48
abbrev m_Ways_init : Nat := 49
abbrev m_Ways_has : Nat := 50
abbrev m_Ways_add : Nat := 51
abbrev m_Ways_otherEnd : Nat := 52
abbrev m_Ways_costOf : Nat := 53
abbrev m_Ways_copy : Nat := 54
abbrev m_Wells_init : Nat := 55
abbrev m_Wells_dig : Nat := 56
abbrev m_Wells_costOfRow : Nat := 57
abbrev m_Wells_nextRow : Nat := 58
abbrev m_World_init : Nat := 59
abbrev m_World_copy : Nat := 60
abbrev m_SR_rule : Nat := 61
abbrev m_SR_type : Nat := 62
abbrev m_SR_town : Nat := 63
abbrev m_SR_people : Nat := 64
abbrev m_SR_count : Nat := 65
abbrev m_SR_go : Nat := 66
abbrev m_SR_carry : Nat := 67
abbrev m_SR_lend : Nat := 68
abbrev m_SR_pay : Nat := 69
abbrev m_SR_owes : Nat := 70
abbrev m_SR_init : Nat := 71
abbrev m_SR_month : Nat := 72
abbrev m_SR_meet : Nat := 73
abbrev m_SR_errand : Nat := 74
abbrev m_SR_rest : Nat := 75
abbrev m_SR_parted : Nat := 76
abbrev m_SR_tour : Nat := 77
abbrev m_SR_wells : Nat := 78
abbrev m_SR_hold : Nat := 79
abbrev m_SR_stops : Nat := 80
abbrev m_SR_image : Nat := 81
abbrev m_SR_way : Nat := 82
abbrev m_SR_restore : Nat := 83
abbrev m_SR_lies : Nat := 84
abbrev m_SR_sheet : Nat := 85
abbrev m_SR_drop : Nat := 86
abbrev m_SR_item : Nat := 87
abbrev m_SR_film : Nat := 88
abbrev m_SR_isWithin : Nat := 89
abbrev m_SR_isPlace : Nat := 90
abbrev m_SR_isKind : Nat := 91
abbrev m_SR_isSheet : Nat := 92
abbrev m_SR_gate : Nat := 93
abbrev m_SR_isLane : Nat := 94
abbrev m_SR_orNone : Nat := 95
abbrev m_SR_isPerson : Nat := 96
abbrev m_SR_areTwo : Nat := 97
abbrev m_SR_farFromNow : Nat := 98
abbrev m_SR_walk : Nat := 99
abbrev m_SR_refusedRow : Nat := 100
abbrev m_SR_told : Nat := 101
abbrev m_SR_person : Nat := 102
abbrev m_SR_of : Nat := 103
abbrev m_SR_costs : Nat := 104
abbrev m_SR_far : Nat := 105
abbrev m_SR_given : Nat := 106
abbrev m_Mo_addOne : Nat := 107
abbrev m_Mo_person : Nat := 108
abbrev m_Mo_of : Nat := 109
abbrev m_Mo_costOf : Nat := 110
abbrev m_Mo_costs : Nat := 111
abbrev m_Mo_findFar : Nat := 112
abbrev m_Mo_farOf : Nat := 113
abbrev m_Mo_far : Nat := 114
abbrev m_Mo_given : Nat := 115
abbrev m_Mo_rule : Nat := 116
abbrev m_Mo_init : Nat := 117
abbrev m_Mo_count : Nat := 118
abbrev m_Mo_type : Nat := 119
abbrev m_Mo_nextByte : Nat := 120
abbrev m_Mo_readPlace : Nat := 121
abbrev m_Mo_readNumber : Nat := 122
abbrev m_Mo_readWay : Nat := 123
abbrev m_Mo_readOne : Nat := 124
abbrev m_Mo_readAll : Nat := 125
abbrev m_Mo_town : Nat := 126
abbrev m_Mo_people : Nat := 127
abbrev m_Mo_in : Nat := 128
abbrev m_Mo_goBy : Nat := 129
abbrev m_Mo_isNext : Nat := 130
abbrev m_Mo_go : Nat := 131
abbrev m_Mo_carry : Nat := 132
abbrev m_Mo_send : Nat := 133
abbrev m_Mo_lend : Nat := 134
abbrev m_Mo_pay : Nat := 135
abbrev m_Mo_owes : Nat := 136
abbrev m_Mo_month : Nat := 137
abbrev m_Mo_findTable : Nat := 138
abbrev m_Mo_isPlace : Nat := 139
abbrev m_Mo_meet : Nat := 140
abbrev m_Mo_errand : Nat := 141
abbrev m_Mo_rest : Nat := 142
abbrev m_Mo_placeOf : Nat := 143
abbrev m_Mo_findTours : Nat := 144
abbrev m_Mo_parted : Nat := 145
abbrev m_Mo_tour : Nat := 146
abbrev m_Mo_wellsOf : Nat := 147
abbrev m_Mo_ones : Nat := 148
abbrev m_Mo_isAhead : Nat := 149
abbrev m_Mo_isOne : Nat := 150
abbrev m_Mo_wells : Nat := 151
abbrev m_Mo_hold : Nat := 152
abbrev m_Mo_oneMore : Nat := 153
abbrev m_Mo_stops : Nat := 154
abbrev m_Mo_carried : Nat := 155
abbrev m_Mo_image : Nat := 156
abbrev m_Mo_restore : Nat := 157
abbrev m_Mo_isSheet : Nat := 158
abbrev m_Mo_asLane : Nat := 159
abbrev m_Mo_sheet : Nat := 160
abbrev m_Mo_areTwo : Nat := 161
abbrev m_Mo_drop : Nat := 162
abbrev m_Mo_lacksRow : Nat := 163
abbrev m_Mo_item : Nat := 164
abbrev m_Mo_lies : Nat := 165
abbrev m_Mo_film : Nat := 166
abbrev m_Mo_addWay : Nat := 167
abbrev m_Mo_way : Nat := 168
abbrev m_Mo_gate : Nat := 169
abbrev m_Mo_told : Nat := 170
abbrev m_Ar_fillL : Nat := 171
abbrev m_Ar_fillI : Nat := 172
def xNM : Nat := 173
abbrev xIns : Type := Nat × Nat × Instr × Nat × List Nat × List (Int32 × Nat) × Value
/-- StepRingsLaw.law([I)Z -/
def xc0_0 : List xIns := [(0, 1, .new 7, 3, [63, 9, 9, 64], [], .null),
  (3, 2, .dup, 1, [], [], .null),
  (4, 3, .invokespecial 9, 3, [72, 65, 66, 0, 1, 0], [], .null),
  (7, 4, .astore_n 1, 1, [1], [], .null),
  (8, 5, .new 10, 3, [781, 10, 30, 782], [], .null),
  (11, 6, .dup, 1, [], [], .null),
  (12, 7, .invokespecial 12, 3, [118, 783, 784, 0, 1, 0], [], .null),
  (15, 8, .astore_n 2, 1, [2], [], .null),
  (16, 9, .iconst 0, 1, [], [], .int (0)),
  (17, 10, .istore_n 3, 1, [3], [], .null),
  (18, 11, .iload_n 3, 1, [3], [], .null),
  (19, 12, .aload_n 0, 1, [0], [], .null),
  (20, 13, .arraylength, 1, [], [], .null),
  (21, 14, .bipush 6, 2, [], [], .int (6)),
  (23, 15, .isub, 1, [], [], .null),
  (24, 16, .if_icmp .gt 1354, 3, [988], [], .null)]
def xc0_1 : List xIns := [(27, 17, .aload_n 0, 1, [0], [], .null),
  (28, 18, .iload_n 3, 1, [3], [], .null),
  (29, 19, .iaload, 1, [], [], .null),
  (30, 20, .bipush 63, 2, [], [], .int (63)),
  (32, 21, .iand, 1, [], [], .null),
  (33, 22, .tableswitch 1339 0 33 #[151, 204, 253, 286, 329, 362, 405, 448, 481, 504, 567, 580, 593, 616, 649, 692, 735, 778, 811, 824, 867, 890, 903, 926, 959, 1002, 1045, 1078, 1091, 1104, 1147, 1190, 1213, 1296], 151, [986], [(0, 22), (1, 69), (2, 104), (3, 131), (4, 168), (5, 195), (6, 232), (7, 269), (8, 296), (9, 313), (10, 364), (11, 371), (12, 378), (13, 395), (14, 422), (15, 459), (16, 496), (17, 533), (18, 560), (19, 567), (20, 604), (21, 621), (22, 628), (23, 645), (24, 672), (25, 709), (26, 746), (27, 773), (28, 780), (29, 787), (30, 824), (31, 861), (32, 878), (33, 949)], .null),
  (184, 23, .aload_n 1, 1, [1], [], .null),
  (185, 24, .aload_n 0, 1, [0], [], .null),
  (186, 25, .iload_n 3, 1, [3], [], .null),
  (187, 26, .iconst 1, 1, [], [], .int (1)),
  (188, 27, .iadd, 1, [], [], .null),
  (189, 28, .iaload, 1, [], [], .null),
  (190, 29, .aload_n 0, 1, [0], [], .null),
  (191, 30, .iload_n 3, 1, [3], [], .null),
  (192, 31, .iconst 2, 1, [], [], .int (2)),
  (193, 32, .iadd, 1, [], [], .null)]
def xc0_2 : List xIns := [(194, 33, .iaload, 1, [], [], .null),
  (195, 34, .aload_n 0, 1, [0], [], .null),
  (196, 35, .iload_n 3, 1, [3], [], .null),
  (197, 36, .iconst 3, 1, [], [], .int (3)),
  (198, 37, .iadd, 1, [], [], .null),
  (199, 38, .iaload, 1, [], [], .null),
  (200, 39, .aload_n 0, 1, [0], [], .null),
  (201, 40, .iload_n 3, 1, [3], [], .null),
  (202, 41, .iconst 4, 1, [], [], .int (4)),
  (203, 42, .iadd, 1, [], [], .null),
  (204, 43, .iaload, 1, [], [], .null),
  (205, 44, .invokevirtual 13, 3, [83, 357, 358, 359, 5, 0, 9], [], .null),
  (208, 45, .aload_n 2, 1, [2], [], .null),
  (209, 46, .aload_n 0, 1, [0], [], .null),
  (210, 47, .iload_n 3, 1, [3], [], .null),
  (211, 48, .iconst 1, 1, [], [], .int (1))]
def xc0_3 : List xIns := [(212, 49, .iadd, 1, [], [], .null),
  (213, 50, .iaload, 1, [], [], .null),
  (214, 51, .aload_n 0, 1, [0], [], .null),
  (215, 52, .iload_n 3, 1, [3], [], .null),
  (216, 53, .iconst 2, 1, [], [], .int (2)),
  (217, 54, .iadd, 1, [], [], .null),
  (218, 55, .iaload, 1, [], [], .null),
  (219, 56, .aload_n 0, 1, [0], [], .null),
  (220, 57, .iload_n 3, 1, [3], [], .null),
  (221, 58, .iconst 3, 1, [], [], .int (3)),
  (222, 59, .iadd, 1, [], [], .null),
  (223, 60, .iaload, 1, [], [], .null),
  (224, 61, .aload_n 0, 1, [0], [], .null),
  (225, 62, .iload_n 3, 1, [3], [], .null),
  (226, 63, .iconst 4, 1, [], [], .int (4)),
  (227, 64, .iadd, 1, [], [], .null)]
def xc0_4 : List xIns := [(228, 65, .iaload, 1, [], [], .null),
  (229, 66, .invokevirtual 17, 3, [169, 878, 879, 880, 5, 0, 10], [], .null),
  (232, 67, .if_icmp .eq 1140, 3, [986], [], .null),
  (235, 68, .iconst 0, 1, [], [], .int (0)),
  (236, 69, .ireturn, 1, [], [], .null),
  (237, 70, .aload_n 1, 1, [1], [], .null),
  (238, 71, .aload_n 0, 1, [0], [], .null),
  (239, 72, .iload_n 3, 1, [3], [], .null),
  (240, 73, .iconst 1, 1, [], [], .int (1)),
  (241, 74, .iadd, 1, [], [], .null),
  (242, 75, .iaload, 1, [], [], .null),
  (243, 76, .aload_n 0, 1, [0], [], .null),
  (244, 77, .iload_n 3, 1, [3], [], .null),
  (245, 78, .iconst 2, 1, [], [], .int (2)),
  (246, 79, .iadd, 1, [], [], .null),
  (247, 80, .iaload, 1, [], [], .null)]
def xc0_5 : List xIns := [(248, 81, .ifCond .eq 7, 3, [83], [], .null),
  (251, 82, .iconst 1, 1, [], [], .int (1)),
  (252, 83, .goto 4, 3, [84], [], .null),
  (255, 84, .iconst 0, 1, [], [], .int (0)),
  (256, 85, .invokevirtual 18, 3, [94, 375, 376, 377, 3, 0, 9], [], .null),
  (259, 86, .aload_n 2, 1, [2], [], .null),
  (260, 87, .aload_n 0, 1, [0], [], .null),
  (261, 88, .iload_n 3, 1, [3], [], .null),
  (262, 89, .iconst 1, 1, [], [], .int (1)),
  (263, 90, .iadd, 1, [], [], .null),
  (264, 91, .iaload, 1, [], [], .null),
  (265, 92, .aload_n 0, 1, [0], [], .null),
  (266, 93, .iload_n 3, 1, [3], [], .null),
  (267, 94, .iconst 2, 1, [], [], .int (2)),
  (268, 95, .iadd, 1, [], [], .null),
  (269, 96, .iaload, 1, [], [], .null)]
def xc0_6 : List xIns := [(270, 97, .ifCond .eq 7, 3, [99], [], .null),
  (273, 98, .iconst 1, 1, [], [], .int (1)),
  (274, 99, .goto 4, 3, [100], [], .null),
  (277, 100, .iconst 0, 1, [], [], .int (0)),
  (278, 101, .invokevirtual 22, 3, [170, 896, 897, 898, 3, 0, 10], [], .null),
  (281, 102, .if_icmp .eq 1091, 3, [986], [], .null),
  (284, 103, .iconst 0, 1, [], [], .int (0)),
  (285, 104, .ireturn, 1, [], [], .null),
  (286, 105, .aload_n 1, 1, [1], [], .null),
  (287, 106, .aload_n 0, 1, [0], [], .null),
  (288, 107, .iload_n 3, 1, [3], [], .null),
  (289, 108, .iconst 1, 1, [], [], .int (1)),
  (290, 109, .iadd, 1, [], [], .null),
  (291, 110, .iaload, 1, [], [], .null),
  (292, 111, .aload_n 0, 1, [0], [], .null),
  (293, 112, .iload_n 3, 1, [3], [], .null)]
def xc0_7 : List xIns := [(294, 113, .iconst 2, 1, [], [], .int (2)),
  (295, 114, .iadd, 1, [], [], .null),
  (296, 115, .iaload, 1, [], [], .null),
  (297, 116, .invokevirtual 23, 3, [102, 384, 385, 386, 3, 0, 9], [], .null),
  (300, 117, .aload_n 2, 1, [2], [], .null),
  (301, 118, .aload_n 0, 1, [0], [], .null),
  (302, 119, .iload_n 3, 1, [3], [], .null),
  (303, 120, .iconst 1, 1, [], [], .int (1)),
  (304, 121, .iadd, 1, [], [], .null),
  (305, 122, .iaload, 1, [], [], .null),
  (306, 123, .aload_n 0, 1, [0], [], .null),
  (307, 124, .iload_n 3, 1, [3], [], .null),
  (308, 125, .iconst 2, 1, [], [], .int (2)),
  (309, 126, .iadd, 1, [], [], .null),
  (310, 127, .iaload, 1, [], [], .null),
  (311, 128, .invokevirtual 27, 3, [171, 900, 901, 902, 3, 0, 10], [], .null)]
def xc0_8 : List xIns := [(314, 129, .if_icmp .eq 1058, 3, [986], [], .null),
  (317, 130, .iconst 0, 1, [], [], .int (0)),
  (318, 131, .ireturn, 1, [], [], .null),
  (319, 132, .aload_n 1, 1, [1], [], .null),
  (320, 133, .aload_n 0, 1, [0], [], .null),
  (321, 134, .iload_n 3, 1, [3], [], .null),
  (322, 135, .iconst 1, 1, [], [], .int (1)),
  (323, 136, .iadd, 1, [], [], .null),
  (324, 137, .iaload, 1, [], [], .null),
  (325, 138, .aload_n 0, 1, [0], [], .null),
  (326, 139, .iload_n 3, 1, [3], [], .null),
  (327, 140, .iconst 2, 1, [], [], .int (2)),
  (328, 141, .iadd, 1, [], [], .null),
  (329, 142, .iaload, 1, [], [], .null),
  (330, 143, .aload_n 0, 1, [0], [], .null),
  (331, 144, .iload_n 3, 1, [3], [], .null)]
def xc0_9 : List xIns := [(332, 145, .iconst 3, 1, [], [], .int (3)),
  (333, 146, .iadd, 1, [], [], .null),
  (334, 147, .iaload, 1, [], [], .null),
  (335, 148, .invokevirtual 28, 3, [103, 389, 390, 391, 4, 0, 9], [], .null),
  (338, 149, .aload_n 2, 1, [2], [], .null),
  (339, 150, .aload_n 0, 1, [0], [], .null),
  (340, 151, .iload_n 3, 1, [3], [], .null),
  (341, 152, .iconst 1, 1, [], [], .int (1)),
  (342, 153, .iadd, 1, [], [], .null),
  (343, 154, .iaload, 1, [], [], .null),
  (344, 155, .aload_n 0, 1, [0], [], .null),
  (345, 156, .iload_n 3, 1, [3], [], .null),
  (346, 157, .iconst 2, 1, [], [], .int (2)),
  (347, 158, .iadd, 1, [], [], .null),
  (348, 159, .iaload, 1, [], [], .null),
  (349, 160, .aload_n 0, 1, [0], [], .null)]
def xc0_10 : List xIns := [(350, 161, .iload_n 3, 1, [3], [], .null),
  (351, 162, .iconst 3, 1, [], [], .int (3)),
  (352, 163, .iadd, 1, [], [], .null),
  (353, 164, .iaload, 1, [], [], .null),
  (354, 165, .invokevirtual 32, 3, [109, 906, 907, 908, 4, 0, 10], [], .null),
  (357, 166, .if_icmp .eq 1015, 3, [986], [], .null),
  (360, 167, .iconst 0, 1, [], [], .int (0)),
  (361, 168, .ireturn, 1, [], [], .null),
  (362, 169, .aload_n 1, 1, [1], [], .null),
  (363, 170, .aload_n 0, 1, [0], [], .null),
  (364, 171, .iload_n 3, 1, [3], [], .null),
  (365, 172, .iconst 1, 1, [], [], .int (1)),
  (366, 173, .iadd, 1, [], [], .null),
  (367, 174, .iaload, 1, [], [], .null),
  (368, 175, .aload_n 0, 1, [0], [], .null),
  (369, 176, .iload_n 3, 1, [3], [], .null)]
def xc0_11 : List xIns := [(370, 177, .iconst 2, 1, [], [], .int (2)),
  (371, 178, .iadd, 1, [], [], .null),
  (372, 179, .iaload, 1, [], [], .null),
  (373, 180, .invokevirtual 33, 3, [104, 401, 402, 403, 3, 0, 9], [], .null),
  (376, 181, .aload_n 2, 1, [2], [], .null),
  (377, 182, .aload_n 0, 1, [0], [], .null),
  (378, 183, .iload_n 3, 1, [3], [], .null),
  (379, 184, .iconst 1, 1, [], [], .int (1)),
  (380, 185, .iadd, 1, [], [], .null),
  (381, 186, .iaload, 1, [], [], .null),
  (382, 187, .aload_n 0, 1, [0], [], .null),
  (383, 188, .iload_n 3, 1, [3], [], .null),
  (384, 189, .iconst 2, 1, [], [], .int (2)),
  (385, 190, .iadd, 1, [], [], .null),
  (386, 191, .iaload, 1, [], [], .null),
  (387, 192, .invokevirtual 36, 3, [110, 916, 917, 918, 3, 0, 10], [], .null)]
def xc0_12 : List xIns := [(390, 193, .if_icmp .eq 982, 3, [986], [], .null),
  (393, 194, .iconst 0, 1, [], [], .int (0)),
  (394, 195, .ireturn, 1, [], [], .null),
  (395, 196, .aload_n 1, 1, [1], [], .null),
  (396, 197, .aload_n 0, 1, [0], [], .null),
  (397, 198, .iload_n 3, 1, [3], [], .null),
  (398, 199, .iconst 1, 1, [], [], .int (1)),
  (399, 200, .iadd, 1, [], [], .null),
  (400, 201, .iaload, 1, [], [], .null),
  (401, 202, .aload_n 0, 1, [0], [], .null),
  (402, 203, .iload_n 3, 1, [3], [], .null),
  (403, 204, .iconst 2, 1, [], [], .int (2)),
  (404, 205, .iadd, 1, [], [], .null),
  (405, 206, .iaload, 1, [], [], .null),
  (406, 207, .aload_n 0, 1, [0], [], .null),
  (407, 208, .iload_n 3, 1, [3], [], .null)]
def xc0_13 : List xIns := [(408, 209, .iconst 3, 1, [], [], .int (3)),
  (409, 210, .iadd, 1, [], [], .null),
  (410, 211, .iaload, 1, [], [], .null),
  (411, 212, .invokevirtual 37, 3, [105, 409, 410, 411, 4, 0, 9], [], .null),
  (414, 213, .aload_n 2, 1, [2], [], .null),
  (415, 214, .aload_n 0, 1, [0], [], .null),
  (416, 215, .iload_n 3, 1, [3], [], .null),
  (417, 216, .iconst 1, 1, [], [], .int (1)),
  (418, 217, .iadd, 1, [], [], .null),
  (419, 218, .iaload, 1, [], [], .null),
  (420, 219, .aload_n 0, 1, [0], [], .null),
  (421, 220, .iload_n 3, 1, [3], [], .null),
  (422, 221, .iconst 2, 1, [], [], .int (2)),
  (423, 222, .iadd, 1, [], [], .null),
  (424, 223, .iaload, 1, [], [], .null),
  (425, 224, .aload_n 0, 1, [0], [], .null)]
def xc0_14 : List xIns := [(426, 225, .iload_n 3, 1, [3], [], .null),
  (427, 226, .iconst 3, 1, [], [], .int (3)),
  (428, 227, .iadd, 1, [], [], .null),
  (429, 228, .iaload, 1, [], [], .null),
  (430, 229, .invokevirtual 40, 3, [112, 924, 925, 926, 4, 0, 10], [], .null),
  (433, 230, .if_icmp .eq 939, 3, [986], [], .null),
  (436, 231, .iconst 0, 1, [], [], .int (0)),
  (437, 232, .ireturn, 1, [], [], .null),
  (438, 233, .aload_n 1, 1, [1], [], .null),
  (439, 234, .aload_n 0, 1, [0], [], .null),
  (440, 235, .iload_n 3, 1, [3], [], .null),
  (441, 236, .iconst 1, 1, [], [], .int (1)),
  (442, 237, .iadd, 1, [], [], .null),
  (443, 238, .iaload, 1, [], [], .null),
  (444, 239, .aload_n 0, 1, [0], [], .null),
  (445, 240, .iload_n 3, 1, [3], [], .null)]
def xc0_15 : List xIns := [(446, 241, .iconst 2, 1, [], [], .int (2)),
  (447, 242, .iadd, 1, [], [], .null),
  (448, 243, .iaload, 1, [], [], .null),
  (449, 244, .aload_n 0, 1, [0], [], .null),
  (450, 245, .iload_n 3, 1, [3], [], .null),
  (451, 246, .iconst 3, 1, [], [], .int (3)),
  (452, 247, .iadd, 1, [], [], .null),
  (453, 248, .iaload, 1, [], [], .null),
  (454, 249, .invokevirtual 41, 3, [106, 420, 421, 422, 4, 0, 9], [], .null),
  (457, 250, .aload_n 2, 1, [2], [], .null),
  (458, 251, .aload_n 0, 1, [0], [], .null),
  (459, 252, .iload_n 3, 1, [3], [], .null),
  (460, 253, .iconst 1, 1, [], [], .int (1)),
  (461, 254, .iadd, 1, [], [], .null),
  (462, 255, .iaload, 1, [], [], .null),
  (463, 256, .aload_n 0, 1, [0], [], .null)]
def xc0_16 : List xIns := [(464, 257, .iload_n 3, 1, [3], [], .null),
  (465, 258, .iconst 2, 1, [], [], .int (2)),
  (466, 259, .iadd, 1, [], [], .null),
  (467, 260, .iaload, 1, [], [], .null),
  (468, 261, .aload_n 0, 1, [0], [], .null),
  (469, 262, .iload_n 3, 1, [3], [], .null),
  (470, 263, .iconst 3, 1, [], [], .int (3)),
  (471, 264, .iadd, 1, [], [], .null),
  (472, 265, .iaload, 1, [], [], .null),
  (473, 266, .invokevirtual 44, 3, [115, 932, 933, 934, 4, 0, 10], [], .null),
  (476, 267, .if_icmp .eq 896, 3, [986], [], .null),
  (479, 268, .iconst 0, 1, [], [], .int (0)),
  (480, 269, .ireturn, 1, [], [], .null),
  (481, 270, .aload_n 1, 1, [1], [], .null),
  (482, 271, .aload_n 0, 1, [0], [], .null),
  (483, 272, .iload_n 3, 1, [3], [], .null)]
def xc0_17 : List xIns := [(484, 273, .iconst 1, 1, [], [], .int (1)),
  (485, 274, .iadd, 1, [], [], .null),
  (486, 275, .iaload, 1, [], [], .null),
  (487, 276, .aload_n 0, 1, [0], [], .null),
  (488, 277, .iload_n 3, 1, [3], [], .null),
  (489, 278, .iconst 2, 1, [], [], .int (2)),
  (490, 279, .iadd, 1, [], [], .null),
  (491, 280, .iaload, 1, [], [], .null),
  (492, 281, .invokevirtual 45, 3, [107, 448, 449, 450, 3, 0, 9], [], .null),
  (495, 282, .aload_n 2, 1, [2], [], .null),
  (496, 283, .aload_n 0, 1, [0], [], .null),
  (497, 284, .iload_n 3, 1, [3], [], .null),
  (498, 285, .iconst 1, 1, [], [], .int (1)),
  (499, 286, .iadd, 1, [], [], .null),
  (500, 287, .iaload, 1, [], [], .null),
  (501, 288, .aload_n 0, 1, [0], [], .null)]
def xc0_18 : List xIns := [(502, 289, .iload_n 3, 1, [3], [], .null),
  (503, 290, .iconst 2, 1, [], [], .int (2)),
  (504, 291, .iadd, 1, [], [], .null),
  (505, 292, .iaload, 1, [], [], .null),
  (506, 293, .invokevirtual 48, 3, [116, 945, 946, 947, 3, 0, 10], [], .null),
  (509, 294, .if_icmp .eq 863, 3, [986], [], .null),
  (512, 295, .iconst 0, 1, [], [], .int (0)),
  (513, 296, .ireturn, 1, [], [], .null),
  (514, 297, .aload_n 1, 1, [1], [], .null),
  (515, 298, .aload_n 0, 1, [0], [], .null),
  (516, 299, .iload_n 3, 1, [3], [], .null),
  (517, 300, .iconst 1, 1, [], [], .int (1)),
  (518, 301, .iadd, 1, [], [], .null),
  (519, 302, .iaload, 1, [], [], .null),
  (520, 303, .invokevirtual 49, 3, [62, 452, 453, 454, 2, 0, 9], [], .null),
  (523, 304, .aload_n 2, 1, [2], [], .null)]
def xc0_19 : List xIns := [(524, 305, .aload_n 0, 1, [0], [], .null),
  (525, 306, .iload_n 3, 1, [3], [], .null),
  (526, 307, .iconst 1, 1, [], [], .int (1)),
  (527, 308, .iadd, 1, [], [], .null),
  (528, 309, .iaload, 1, [], [], .null),
  (529, 310, .invokevirtual 53, 3, [117, 950, 951, 952, 2, 0, 10], [], .null),
  (532, 311, .if_icmp .eq 840, 3, [986], [], .null),
  (535, 312, .iconst 0, 1, [], [], .int (0)),
  (536, 313, .ireturn, 1, [], [], .null),
  (537, 314, .aload_n 1, 1, [1], [], .null),
  (538, 315, .aload_n 0, 1, [0], [], .null),
  (539, 316, .iload_n 3, 1, [3], [], .null),
  (540, 317, .iconst 1, 1, [], [], .int (1)),
  (541, 318, .iadd, 1, [], [], .null),
  (542, 319, .iaload, 1, [], [], .null),
  (543, 320, .i2l, 1, [], [], .null)]
def xc0_20 : List xIns := [(544, 321, .bipush 32, 2, [], [], .int (32)),
  (546, 322, .lshl, 1, [], [], .null),
  (547, 323, .aload_n 0, 1, [0], [], .null),
  (548, 324, .iload_n 3, 1, [3], [], .null),
  (549, 325, .iconst 2, 1, [], [], .int (2)),
  (550, 326, .iadd, 1, [], [], .null),
  (551, 327, .iaload, 1, [], [], .null),
  (552, 328, .i2l, 1, [], [], .null),
  (553, 329, .ldc2_w 54, 3, [1145], [], .long (4294967295)),
  (556, 330, .land, 1, [], [], .null),
  (557, 331, .lor, 1, [], [], .null),
  (558, 332, .aload_n 0, 1, [0], [], .null),
  (559, 333, .iload_n 3, 1, [3], [], .null),
  (560, 334, .iconst 3, 1, [], [], .int (3)),
  (561, 335, .iadd, 1, [], [], .null),
  (562, 336, .iaload, 1, [], [], .null)]
def xc0_21 : List xIns := [(563, 337, .invokevirtual 56, 3, [63, 456, 457, 458, 3, 0, 9], [], .null),
  (566, 338, .aload_n 2, 1, [2], [], .null),
  (567, 339, .aload_n 0, 1, [0], [], .null),
  (568, 340, .iload_n 3, 1, [3], [], .null),
  (569, 341, .iconst 1, 1, [], [], .int (1)),
  (570, 342, .iadd, 1, [], [], .null),
  (571, 343, .iaload, 1, [], [], .null),
  (572, 344, .i2l, 1, [], [], .null),
  (573, 345, .bipush 32, 2, [], [], .int (32)),
  (575, 346, .lshl, 1, [], [], .null),
  (576, 347, .aload_n 0, 1, [0], [], .null),
  (577, 348, .iload_n 3, 1, [3], [], .null),
  (578, 349, .iconst 2, 1, [], [], .int (2)),
  (579, 350, .iadd, 1, [], [], .null),
  (580, 351, .iaload, 1, [], [], .null),
  (581, 352, .i2l, 1, [], [], .null)]
def xc0_22 : List xIns := [(582, 353, .ldc2_w 54, 3, [1145], [], .long (4294967295)),
  (585, 354, .land, 1, [], [], .null),
  (586, 355, .lor, 1, [], [], .null),
  (587, 356, .aload_n 0, 1, [0], [], .null),
  (588, 357, .iload_n 3, 1, [3], [], .null),
  (589, 358, .iconst 3, 1, [], [], .int (3)),
  (590, 359, .iadd, 1, [], [], .null),
  (591, 360, .iaload, 1, [], [], .null),
  (592, 361, .invokevirtual 60, 3, [120, 959, 960, 961, 3, 0, 10], [], .null),
  (595, 362, .if_icmp .eq 777, 3, [986], [], .null),
  (598, 363, .iconst 0, 1, [], [], .int (0)),
  (599, 364, .ireturn, 1, [], [], .null),
  (600, 365, .aload_n 1, 1, [1], [], .null),
  (601, 366, .invokevirtual 61, 3, [64, 471, 472, 473, 1, 0, 9], [], .null),
  (604, 367, .aload_n 2, 1, [2], [], .null),
  (605, 368, .invokevirtual 65, 3, [127, 967, 968, 969, 1, 0, 10], [], .null)]
def xc0_23 : List xIns := [(608, 369, .if_icmp .eq 764, 3, [986], [], .null),
  (611, 370, .iconst 0, 1, [], [], .int (0)),
  (612, 371, .ireturn, 1, [], [], .null),
  (613, 372, .aload_n 1, 1, [1], [], .null),
  (614, 373, .invokevirtual 66, 3, [65, 530, 531, 532, 1, 0, 9], [], .null),
  (617, 374, .aload_n 2, 1, [2], [], .null),
  (618, 375, .invokevirtual 69, 3, [128, 998, 999, 1000, 1, 0, 10], [], .null),
  (621, 376, .if_icmp .eq 751, 3, [986], [], .null),
  (624, 377, .iconst 0, 1, [], [], .int (0)),
  (625, 378, .ireturn, 1, [], [], .null),
  (626, 379, .aload_n 1, 1, [1], [], .null),
  (627, 380, .aload_n 0, 1, [0], [], .null),
  (628, 381, .iload_n 3, 1, [3], [], .null),
  (629, 382, .iconst 1, 1, [], [], .int (1)),
  (630, 383, .iadd, 1, [], [], .null),
  (631, 384, .iaload, 1, [], [], .null)]
def xc0_24 : List xIns := [(632, 385, .invokevirtual 70, 3, [66, 543, 544, 545, 2, 0, 9], [], .null),
  (635, 386, .aload_n 2, 1, [2], [], .null),
  (636, 387, .aload_n 0, 1, [0], [], .null),
  (637, 388, .iload_n 3, 1, [3], [], .null),
  (638, 389, .iconst 1, 1, [], [], .int (1)),
  (639, 390, .iadd, 1, [], [], .null),
  (640, 391, .iaload, 1, [], [], .null),
  (641, 392, .invokevirtual 73, 3, [119, 955, 956, 957, 2, 0, 10], [], .null),
  (644, 393, .if_icmp .eq 728, 3, [986], [], .null),
  (647, 394, .iconst 0, 1, [], [], .int (0)),
  (648, 395, .ireturn, 1, [], [], .null),
  (649, 396, .aload_n 1, 1, [1], [], .null),
  (650, 397, .aload_n 0, 1, [0], [], .null),
  (651, 398, .iload_n 3, 1, [3], [], .null),
  (652, 399, .iconst 1, 1, [], [], .int (1)),
  (653, 400, .iadd, 1, [], [], .null)]
def xc0_25 : List xIns := [(654, 401, .iaload, 1, [], [], .null),
  (655, 402, .aload_n 0, 1, [0], [], .null),
  (656, 403, .iload_n 3, 1, [3], [], .null),
  (657, 404, .iconst 2, 1, [], [], .int (2)),
  (658, 405, .iadd, 1, [], [], .null),
  (659, 406, .iaload, 1, [], [], .null),
  (660, 407, .invokevirtual 74, 3, [67, 555, 556, 557, 3, 0, 9], [], .null),
  (663, 408, .aload_n 2, 1, [2], [], .null),
  (664, 409, .aload_n 0, 1, [0], [], .null),
  (665, 410, .iload_n 3, 1, [3], [], .null),
  (666, 411, .iconst 1, 1, [], [], .int (1)),
  (667, 412, .iadd, 1, [], [], .null),
  (668, 413, .iaload, 1, [], [], .null),
  (669, 414, .aload_n 0, 1, [0], [], .null),
  (670, 415, .iload_n 3, 1, [3], [], .null),
  (671, 416, .iconst 2, 1, [], [], .int (2))]
def xc0_26 : List xIns := [(672, 417, .iadd, 1, [], [], .null),
  (673, 418, .iaload, 1, [], [], .null),
  (674, 419, .invokevirtual 77, 3, [132, 1002, 1003, 1004, 3, 0, 10], [], .null),
  (677, 420, .if_icmp .eq 695, 3, [986], [], .null),
  (680, 421, .iconst 0, 1, [], [], .int (0)),
  (681, 422, .ireturn, 1, [], [], .null),
  (682, 423, .aload_n 1, 1, [1], [], .null),
  (683, 424, .aload_n 0, 1, [0], [], .null),
  (684, 425, .iload_n 3, 1, [3], [], .null),
  (685, 426, .iconst 1, 1, [], [], .int (1)),
  (686, 427, .iadd, 1, [], [], .null),
  (687, 428, .iaload, 1, [], [], .null),
  (688, 429, .aload_n 0, 1, [0], [], .null),
  (689, 430, .iload_n 3, 1, [3], [], .null),
  (690, 431, .iconst 2, 1, [], [], .int (2)),
  (691, 432, .iadd, 1, [], [], .null)]
def xc0_27 : List xIns := [(692, 433, .iaload, 1, [], [], .null),
  (693, 434, .aload_n 0, 1, [0], [], .null),
  (694, 435, .iload_n 3, 1, [3], [], .null),
  (695, 436, .iconst 3, 1, [], [], .int (3)),
  (696, 437, .iadd, 1, [], [], .null),
  (697, 438, .iaload, 1, [], [], .null),
  (698, 439, .invokevirtual 78, 3, [68, 579, 580, 581, 4, 0, 9], [], .null),
  (701, 440, .aload_n 2, 1, [2], [], .null),
  (702, 441, .aload_n 0, 1, [0], [], .null),
  (703, 442, .iload_n 3, 1, [3], [], .null),
  (704, 443, .iconst 1, 1, [], [], .int (1)),
  (705, 444, .iadd, 1, [], [], .null),
  (706, 445, .iaload, 1, [], [], .null),
  (707, 446, .aload_n 0, 1, [0], [], .null),
  (708, 447, .iload_n 3, 1, [3], [], .null),
  (709, 448, .iconst 2, 1, [], [], .int (2))]
def xc0_28 : List xIns := [(710, 449, .iadd, 1, [], [], .null),
  (711, 450, .iaload, 1, [], [], .null),
  (712, 451, .aload_n 0, 1, [0], [], .null),
  (713, 452, .iload_n 3, 1, [3], [], .null),
  (714, 453, .iconst 3, 1, [], [], .int (3)),
  (715, 454, .iadd, 1, [], [], .null),
  (716, 455, .iaload, 1, [], [], .null),
  (717, 456, .invokevirtual 81, 3, [133, 1015, 1016, 1017, 4, 0, 10], [], .null),
  (720, 457, .if_icmp .eq 652, 3, [986], [], .null),
  (723, 458, .iconst 0, 1, [], [], .int (0)),
  (724, 459, .ireturn, 1, [], [], .null),
  (725, 460, .aload_n 1, 1, [1], [], .null),
  (726, 461, .aload_n 0, 1, [0], [], .null),
  (727, 462, .iload_n 3, 1, [3], [], .null),
  (728, 463, .iconst 1, 1, [], [], .int (1)),
  (729, 464, .iadd, 1, [], [], .null)]
def xc0_29 : List xIns := [(730, 465, .iaload, 1, [], [], .null),
  (731, 466, .aload_n 0, 1, [0], [], .null),
  (732, 467, .iload_n 3, 1, [3], [], .null),
  (733, 468, .iconst 2, 1, [], [], .int (2)),
  (734, 469, .iadd, 1, [], [], .null),
  (735, 470, .iaload, 1, [], [], .null),
  (736, 471, .aload_n 0, 1, [0], [], .null),
  (737, 472, .iload_n 3, 1, [3], [], .null),
  (738, 473, .iconst 3, 1, [], [], .int (3)),
  (739, 474, .iadd, 1, [], [], .null),
  (740, 475, .iaload, 1, [], [], .null),
  (741, 476, .invokevirtual 82, 3, [69, 587, 588, 589, 4, 0, 9], [], .null),
  (744, 477, .aload_n 2, 1, [2], [], .null),
  (745, 478, .aload_n 0, 1, [0], [], .null),
  (746, 479, .iload_n 3, 1, [3], [], .null),
  (747, 480, .iconst 1, 1, [], [], .int (1))]
def xc0_30 : List xIns := [(748, 481, .iadd, 1, [], [], .null),
  (749, 482, .iaload, 1, [], [], .null),
  (750, 483, .aload_n 0, 1, [0], [], .null),
  (751, 484, .iload_n 3, 1, [3], [], .null),
  (752, 485, .iconst 2, 1, [], [], .int (2)),
  (753, 486, .iadd, 1, [], [], .null),
  (754, 487, .iaload, 1, [], [], .null),
  (755, 488, .aload_n 0, 1, [0], [], .null),
  (756, 489, .iload_n 3, 1, [3], [], .null),
  (757, 490, .iconst 3, 1, [], [], .int (3)),
  (758, 491, .iadd, 1, [], [], .null),
  (759, 492, .iaload, 1, [], [], .null),
  (760, 493, .invokevirtual 85, 3, [135, 1023, 1024, 1025, 4, 0, 10], [], .null),
  (763, 494, .if_icmp .eq 609, 3, [986], [], .null),
  (766, 495, .iconst 0, 1, [], [], .int (0)),
  (767, 496, .ireturn, 1, [], [], .null)]
def xc0_31 : List xIns := [(768, 497, .aload_n 1, 1, [1], [], .null),
  (769, 498, .aload_n 0, 1, [0], [], .null),
  (770, 499, .iload_n 3, 1, [3], [], .null),
  (771, 500, .iconst 1, 1, [], [], .int (1)),
  (772, 501, .iadd, 1, [], [], .null),
  (773, 502, .iaload, 1, [], [], .null),
  (774, 503, .aload_n 0, 1, [0], [], .null),
  (775, 504, .iload_n 3, 1, [3], [], .null),
  (776, 505, .iconst 2, 1, [], [], .int (2)),
  (777, 506, .iadd, 1, [], [], .null),
  (778, 507, .iaload, 1, [], [], .null),
  (779, 508, .aload_n 0, 1, [0], [], .null),
  (780, 509, .iload_n 3, 1, [3], [], .null),
  (781, 510, .iconst 3, 1, [], [], .int (3)),
  (782, 511, .iadd, 1, [], [], .null),
  (783, 512, .iaload, 1, [], [], .null)]
def xc0_32 : List xIns := [(784, 513, .invokevirtual 86, 3, [70, 597, 598, 599, 4, 0, 9], [], .null),
  (787, 514, .aload_n 2, 1, [2], [], .null),
  (788, 515, .aload_n 0, 1, [0], [], .null),
  (789, 516, .iload_n 3, 1, [3], [], .null),
  (790, 517, .iconst 1, 1, [], [], .int (1)),
  (791, 518, .iadd, 1, [], [], .null),
  (792, 519, .iaload, 1, [], [], .null),
  (793, 520, .aload_n 0, 1, [0], [], .null),
  (794, 521, .iload_n 3, 1, [3], [], .null),
  (795, 522, .iconst 2, 1, [], [], .int (2)),
  (796, 523, .iadd, 1, [], [], .null),
  (797, 524, .iaload, 1, [], [], .null),
  (798, 525, .aload_n 0, 1, [0], [], .null),
  (799, 526, .iload_n 3, 1, [3], [], .null),
  (800, 527, .iconst 3, 1, [], [], .int (3)),
  (801, 528, .iadd, 1, [], [], .null)]
def xc0_33 : List xIns := [(802, 529, .iaload, 1, [], [], .null),
  (803, 530, .invokevirtual 89, 3, [136, 1031, 1032, 1033, 4, 0, 10], [], .null),
  (806, 531, .if_icmp .eq 566, 3, [986], [], .null),
  (809, 532, .iconst 0, 1, [], [], .int (0)),
  (810, 533, .ireturn, 1, [], [], .null),
  (811, 534, .aload_n 1, 1, [1], [], .null),
  (812, 535, .aload_n 0, 1, [0], [], .null),
  (813, 536, .iload_n 3, 1, [3], [], .null),
  (814, 537, .iconst 1, 1, [], [], .int (1)),
  (815, 538, .iadd, 1, [], [], .null),
  (816, 539, .iaload, 1, [], [], .null),
  (817, 540, .aload_n 0, 1, [0], [], .null),
  (818, 541, .iload_n 3, 1, [3], [], .null),
  (819, 542, .iconst 2, 1, [], [], .int (2)),
  (820, 543, .iadd, 1, [], [], .null),
  (821, 544, .iaload, 1, [], [], .null)]
def xc0_34 : List xIns := [(822, 545, .invokevirtual 90, 3, [71, 606, 607, 608, 3, 0, 9], [], .null),
  (825, 546, .aload_n 2, 1, [2], [], .null),
  (826, 547, .aload_n 0, 1, [0], [], .null),
  (827, 548, .iload_n 3, 1, [3], [], .null),
  (828, 549, .iconst 1, 1, [], [], .int (1)),
  (829, 550, .iadd, 1, [], [], .null),
  (830, 551, .iaload, 1, [], [], .null),
  (831, 552, .aload_n 0, 1, [0], [], .null),
  (832, 553, .iload_n 3, 1, [3], [], .null),
  (833, 554, .iconst 2, 1, [], [], .int (2)),
  (834, 555, .iadd, 1, [], [], .null),
  (835, 556, .iaload, 1, [], [], .null),
  (836, 557, .invokevirtual 93, 3, [137, 1035, 1036, 1037, 3, 0, 10], [], .null),
  (839, 558, .if_icmp .eq 533, 3, [986], [], .null),
  (842, 559, .iconst 0, 1, [], [], .int (0)),
  (843, 560, .ireturn, 1, [], [], .null)]
def xc0_35 : List xIns := [(844, 561, .aload_n 1, 1, [1], [], .null),
  (845, 562, .invokevirtual 94, 3, [73, 610, 611, 612, 1, 0, 9], [], .null),
  (848, 563, .aload_n 2, 1, [2], [], .null),
  (849, 564, .invokevirtual 97, 3, [138, 1039, 1040, 1041, 1, 0, 10], [], .null),
  (852, 565, .if_icmp .eq 520, 3, [986], [], .null),
  (855, 566, .iconst 0, 1, [], [], .int (0)),
  (856, 567, .ireturn, 1, [], [], .null),
  (857, 568, .aload_n 1, 1, [1], [], .null),
  (858, 569, .aload_n 0, 1, [0], [], .null),
  (859, 570, .iload_n 3, 1, [3], [], .null),
  (860, 571, .iconst 1, 1, [], [], .int (1)),
  (861, 572, .iadd, 1, [], [], .null),
  (862, 573, .iaload, 1, [], [], .null),
  (863, 574, .aload_n 0, 1, [0], [], .null),
  (864, 575, .iload_n 3, 1, [3], [], .null),
  (865, 576, .iconst 2, 1, [], [], .int (2))]
def xc0_36 : List xIns := [(866, 577, .iadd, 1, [], [], .null),
  (867, 578, .iaload, 1, [], [], .null),
  (868, 579, .aload_n 0, 1, [0], [], .null),
  (869, 580, .iload_n 3, 1, [3], [], .null),
  (870, 581, .iconst 3, 1, [], [], .int (3)),
  (871, 582, .iadd, 1, [], [], .null),
  (872, 583, .iaload, 1, [], [], .null),
  (873, 584, .invokevirtual 98, 3, [74, 623, 624, 625, 4, 0, 9], [], .null),
  (876, 585, .aload_n 2, 1, [2], [], .null),
  (877, 586, .aload_n 0, 1, [0], [], .null),
  (878, 587, .iload_n 3, 1, [3], [], .null),
  (879, 588, .iconst 1, 1, [], [], .int (1)),
  (880, 589, .iadd, 1, [], [], .null),
  (881, 590, .iaload, 1, [], [], .null),
  (882, 591, .aload_n 0, 1, [0], [], .null),
  (883, 592, .iload_n 3, 1, [3], [], .null)]
def xc0_37 : List xIns := [(884, 593, .iconst 2, 1, [], [], .int (2)),
  (885, 594, .iadd, 1, [], [], .null),
  (886, 595, .iaload, 1, [], [], .null),
  (887, 596, .aload_n 0, 1, [0], [], .null),
  (888, 597, .iload_n 3, 1, [3], [], .null),
  (889, 598, .iconst 3, 1, [], [], .int (3)),
  (890, 599, .iadd, 1, [], [], .null),
  (891, 600, .iaload, 1, [], [], .null),
  (892, 601, .invokevirtual 101, 3, [141, 1043, 1044, 1045, 4, 0, 10], [], .null),
  (895, 602, .if_icmp .eq 477, 3, [986], [], .null),
  (898, 603, .iconst 0, 1, [], [], .int (0)),
  (899, 604, .ireturn, 1, [], [], .null),
  (900, 605, .aload_n 1, 1, [1], [], .null),
  (901, 606, .aload_n 0, 1, [0], [], .null),
  (902, 607, .iload_n 3, 1, [3], [], .null),
  (903, 608, .iconst 1, 1, [], [], .int (1))]
def xc0_38 : List xIns := [(904, 609, .iadd, 1, [], [], .null),
  (905, 610, .iaload, 1, [], [], .null),
  (906, 611, .invokevirtual 102, 3, [75, 627, 628, 629, 2, 0, 9], [], .null),
  (909, 612, .aload_n 2, 1, [2], [], .null),
  (910, 613, .aload_n 0, 1, [0], [], .null),
  (911, 614, .iload_n 3, 1, [3], [], .null),
  (912, 615, .iconst 1, 1, [], [], .int (1)),
  (913, 616, .iadd, 1, [], [], .null),
  (914, 617, .iaload, 1, [], [], .null),
  (915, 618, .invokevirtual 105, 3, [142, 1047, 1048, 1049, 2, 0, 10], [], .null),
  (918, 619, .if_icmp .eq 454, 3, [986], [], .null),
  (921, 620, .iconst 0, 1, [], [], .int (0)),
  (922, 621, .ireturn, 1, [], [], .null),
  (923, 622, .aload_n 1, 1, [1], [], .null),
  (924, 623, .invokevirtual 106, 3, [76, 631, 632, 633, 1, 0, 9], [], .null),
  (927, 624, .aload_n 2, 1, [2], [], .null)]
def xc0_39 : List xIns := [(928, 625, .invokevirtual 109, 3, [143, 1051, 1052, 1053, 1, 0, 10], [], .null),
  (931, 626, .if_icmp .eq 441, 3, [986], [], .null),
  (934, 627, .iconst 0, 1, [], [], .int (0)),
  (935, 628, .ireturn, 1, [], [], .null),
  (936, 629, .aload_n 1, 1, [1], [], .null),
  (937, 630, .aload_n 0, 1, [0], [], .null),
  (938, 631, .iload_n 3, 1, [3], [], .null),
  (939, 632, .iconst 1, 1, [], [], .int (1)),
  (940, 633, .iadd, 1, [], [], .null),
  (941, 634, .iaload, 1, [], [], .null),
  (942, 635, .invokevirtual 110, 3, [77, 635, 636, 637, 2, 0, 9], [], .null),
  (945, 636, .aload_n 2, 1, [2], [], .null),
  (946, 637, .aload_n 0, 1, [0], [], .null),
  (947, 638, .iload_n 3, 1, [3], [], .null),
  (948, 639, .iconst 1, 1, [], [], .int (1)),
  (949, 640, .iadd, 1, [], [], .null)]
def xc0_40 : List xIns := [(950, 641, .iaload, 1, [], [], .null),
  (951, 642, .invokevirtual 113, 3, [146, 1055, 1056, 1057, 2, 0, 10], [], .null),
  (954, 643, .if_icmp .eq 418, 3, [986], [], .null),
  (957, 644, .iconst 0, 1, [], [], .int (0)),
  (958, 645, .ireturn, 1, [], [], .null),
  (959, 646, .aload_n 1, 1, [1], [], .null),
  (960, 647, .aload_n 0, 1, [0], [], .null),
  (961, 648, .iload_n 3, 1, [3], [], .null),
  (962, 649, .iconst 1, 1, [], [], .int (1)),
  (963, 650, .iadd, 1, [], [], .null),
  (964, 651, .iaload, 1, [], [], .null),
  (965, 652, .aload_n 0, 1, [0], [], .null),
  (966, 653, .iload_n 3, 1, [3], [], .null),
  (967, 654, .iconst 2, 1, [], [], .int (2)),
  (968, 655, .iadd, 1, [], [], .null),
  (969, 656, .iaload, 1, [], [], .null)]
def xc0_41 : List xIns := [(970, 657, .invokevirtual 114, 3, [78, 667, 668, 669, 3, 0, 9], [], .null),
  (973, 658, .aload_n 2, 1, [2], [], .null),
  (974, 659, .aload_n 0, 1, [0], [], .null),
  (975, 660, .iload_n 3, 1, [3], [], .null),
  (976, 661, .iconst 1, 1, [], [], .int (1)),
  (977, 662, .iadd, 1, [], [], .null),
  (978, 663, .iaload, 1, [], [], .null),
  (979, 664, .aload_n 0, 1, [0], [], .null),
  (980, 665, .iload_n 3, 1, [3], [], .null),
  (981, 666, .iconst 2, 1, [], [], .int (2)),
  (982, 667, .iadd, 1, [], [], .null),
  (983, 668, .iaload, 1, [], [], .null),
  (984, 669, .invokevirtual 117, 3, [147, 1071, 1072, 1073, 3, 0, 10], [], .null),
  (987, 670, .if_icmp .eq 385, 3, [986], [], .null),
  (990, 671, .iconst 0, 1, [], [], .int (0)),
  (991, 672, .ireturn, 1, [], [], .null)]
def xc0_42 : List xIns := [(992, 673, .aload_n 1, 1, [1], [], .null),
  (993, 674, .aload_n 0, 1, [0], [], .null),
  (994, 675, .iload_n 3, 1, [3], [], .null),
  (995, 676, .iconst 1, 1, [], [], .int (1)),
  (996, 677, .iadd, 1, [], [], .null),
  (997, 678, .iaload, 1, [], [], .null),
  (998, 679, .aload_n 0, 1, [0], [], .null),
  (999, 680, .iload_n 3, 1, [3], [], .null),
  (1000, 681, .iconst 2, 1, [], [], .int (2)),
  (1001, 682, .iadd, 1, [], [], .null),
  (1002, 683, .iaload, 1, [], [], .null),
  (1003, 684, .aload_n 0, 1, [0], [], .null),
  (1004, 685, .iload_n 3, 1, [3], [], .null),
  (1005, 686, .iconst 3, 1, [], [], .int (3)),
  (1006, 687, .iadd, 1, [], [], .null),
  (1007, 688, .iaload, 1, [], [], .null)]
def xc0_43 : List xIns := [(1008, 689, .invokevirtual 118, 3, [79, 676, 677, 678, 4, 0, 9], [], .null),
  (1011, 690, .aload_n 2, 1, [2], [], .null),
  (1012, 691, .aload_n 0, 1, [0], [], .null),
  (1013, 692, .iload_n 3, 1, [3], [], .null),
  (1014, 693, .iconst 1, 1, [], [], .int (1)),
  (1015, 694, .iadd, 1, [], [], .null),
  (1016, 695, .iaload, 1, [], [], .null),
  (1017, 696, .aload_n 0, 1, [0], [], .null),
  (1018, 697, .iload_n 3, 1, [3], [], .null),
  (1019, 698, .iconst 2, 1, [], [], .int (2)),
  (1020, 699, .iadd, 1, [], [], .null),
  (1021, 700, .iaload, 1, [], [], .null),
  (1022, 701, .aload_n 0, 1, [0], [], .null),
  (1023, 702, .iload_n 3, 1, [3], [], .null),
  (1024, 703, .iconst 3, 1, [], [], .int (3)),
  (1025, 704, .iadd, 1, [], [], .null)]
def xc0_44 : List xIns := [(1026, 705, .iaload, 1, [], [], .null),
  (1027, 706, .invokevirtual 121, 3, [152, 1077, 1078, 1079, 4, 0, 10], [], .null),
  (1030, 707, .if_icmp .eq 342, 3, [986], [], .null),
  (1033, 708, .iconst 0, 1, [], [], .int (0)),
  (1034, 709, .ireturn, 1, [], [], .null),
  (1035, 710, .aload_n 1, 1, [1], [], .null),
  (1036, 711, .aload_n 0, 1, [0], [], .null),
  (1037, 712, .iload_n 3, 1, [3], [], .null),
  (1038, 713, .iconst 1, 1, [], [], .int (1)),
  (1039, 714, .iadd, 1, [], [], .null),
  (1040, 715, .iaload, 1, [], [], .null),
  (1041, 716, .aload_n 0, 1, [0], [], .null),
  (1042, 717, .iload_n 3, 1, [3], [], .null),
  (1043, 718, .iconst 2, 1, [], [], .int (2)),
  (1044, 719, .iadd, 1, [], [], .null),
  (1045, 720, .iaload, 1, [], [], .null)]
def xc0_45 : List xIns := [(1046, 721, .aload_n 0, 1, [0], [], .null),
  (1047, 722, .iload_n 3, 1, [3], [], .null),
  (1048, 723, .iconst 3, 1, [], [], .int (3)),
  (1049, 724, .iadd, 1, [], [], .null),
  (1050, 725, .iaload, 1, [], [], .null),
  (1051, 726, .invokevirtual 122, 3, [80, 696, 697, 698, 4, 0, 9], [], .null),
  (1054, 727, .aload_n 2, 1, [2], [], .null),
  (1055, 728, .aload_n 0, 1, [0], [], .null),
  (1056, 729, .iload_n 3, 1, [3], [], .null),
  (1057, 730, .iconst 1, 1, [], [], .int (1)),
  (1058, 731, .iadd, 1, [], [], .null),
  (1059, 732, .iaload, 1, [], [], .null),
  (1060, 733, .aload_n 0, 1, [0], [], .null),
  (1061, 734, .iload_n 3, 1, [3], [], .null),
  (1062, 735, .iconst 2, 1, [], [], .int (2)),
  (1063, 736, .iadd, 1, [], [], .null)]
def xc0_46 : List xIns := [(1064, 737, .iaload, 1, [], [], .null),
  (1065, 738, .aload_n 0, 1, [0], [], .null),
  (1066, 739, .iload_n 3, 1, [3], [], .null),
  (1067, 740, .iconst 3, 1, [], [], .int (3)),
  (1068, 741, .iadd, 1, [], [], .null),
  (1069, 742, .iaload, 1, [], [], .null),
  (1070, 743, .invokevirtual 125, 3, [153, 1091, 1092, 1093, 4, 0, 10], [], .null),
  (1073, 744, .if_icmp .eq 299, 3, [986], [], .null),
  (1076, 745, .iconst 0, 1, [], [], .int (0)),
  (1077, 746, .ireturn, 1, [], [], .null),
  (1078, 747, .aload_n 1, 1, [1], [], .null),
  (1079, 748, .aload_n 0, 1, [0], [], .null),
  (1080, 749, .iload_n 3, 1, [3], [], .null),
  (1081, 750, .iconst 1, 1, [], [], .int (1)),
  (1082, 751, .iadd, 1, [], [], .null),
  (1083, 752, .iaload, 1, [], [], .null)]
def xc0_47 : List xIns := [(1084, 753, .aload_n 0, 1, [0], [], .null),
  (1085, 754, .iload_n 3, 1, [3], [], .null),
  (1086, 755, .iconst 2, 1, [], [], .int (2)),
  (1087, 756, .iadd, 1, [], [], .null),
  (1088, 757, .iaload, 1, [], [], .null),
  (1089, 758, .invokevirtual 126, 3, [81, 700, 701, 702, 3, 0, 9], [], .null),
  (1092, 759, .aload_n 2, 1, [2], [], .null),
  (1093, 760, .aload_n 0, 1, [0], [], .null),
  (1094, 761, .iload_n 3, 1, [3], [], .null),
  (1095, 762, .iconst 1, 1, [], [], .int (1)),
  (1096, 763, .iadd, 1, [], [], .null),
  (1097, 764, .iaload, 1, [], [], .null),
  (1098, 765, .aload_n 0, 1, [0], [], .null),
  (1099, 766, .iload_n 3, 1, [3], [], .null),
  (1100, 767, .iconst 2, 1, [], [], .int (2)),
  (1101, 768, .iadd, 1, [], [], .null)]
def xc0_48 : List xIns := [(1102, 769, .iaload, 1, [], [], .null),
  (1103, 770, .invokevirtual 129, 3, [155, 1095, 1096, 1097, 3, 0, 10], [], .null),
  (1106, 771, .if_icmp .eq 266, 3, [986], [], .null),
  (1109, 772, .iconst 0, 1, [], [], .int (0)),
  (1110, 773, .ireturn, 1, [], [], .null),
  (1111, 774, .aload_n 1, 1, [1], [], .null),
  (1112, 775, .invokevirtual 130, 3, [82, 721, 722, 723, 1, 0, 9], [], .null),
  (1115, 776, .aload_n 2, 1, [2], [], .null),
  (1116, 777, .invokevirtual 133, 3, [157, 1103, 1104, 1105, 1, 0, 10], [], .null),
  (1119, 778, .if_icmp .eq 253, 3, [986], [], .null),
  (1122, 779, .iconst 0, 1, [], [], .int (0)),
  (1123, 780, .ireturn, 1, [], [], .null),
  (1124, 781, .aload_n 1, 1, [1], [], .null),
  (1125, 782, .invokevirtual 134, 3, [84, 732, 733, 734, 1, 0, 9], [], .null),
  (1128, 783, .aload_n 2, 1, [2], [], .null),
  (1129, 784, .invokevirtual 137, 3, [158, 1111, 1112, 1113, 1, 0, 10], [], .null)]
def xc0_49 : List xIns := [(1132, 785, .if_icmp .eq 240, 3, [986], [], .null),
  (1135, 786, .iconst 0, 1, [], [], .int (0)),
  (1136, 787, .ireturn, 1, [], [], .null),
  (1137, 788, .aload_n 1, 1, [1], [], .null),
  (1138, 789, .aload_n 0, 1, [0], [], .null),
  (1139, 790, .iload_n 3, 1, [3], [], .null),
  (1140, 791, .iconst 1, 1, [], [], .int (1)),
  (1141, 792, .iadd, 1, [], [], .null),
  (1142, 793, .iaload, 1, [], [], .null),
  (1143, 794, .aload_n 0, 1, [0], [], .null),
  (1144, 795, .iload_n 3, 1, [3], [], .null),
  (1145, 796, .iconst 2, 1, [], [], .int (2)),
  (1146, 797, .iadd, 1, [], [], .null),
  (1147, 798, .iaload, 1, [], [], .null),
  (1148, 799, .aload_n 0, 1, [0], [], .null),
  (1149, 800, .iload_n 3, 1, [3], [], .null)]
def xc0_50 : List xIns := [(1150, 801, .iconst 3, 1, [], [], .int (3)),
  (1151, 802, .iadd, 1, [], [], .null),
  (1152, 803, .iaload, 1, [], [], .null),
  (1153, 804, .invokevirtual 138, 3, [85, 736, 737, 738, 4, 0, 9], [], .null),
  (1156, 805, .aload_n 2, 1, [2], [], .null),
  (1157, 806, .aload_n 0, 1, [0], [], .null),
  (1158, 807, .iload_n 3, 1, [3], [], .null),
  (1159, 808, .iconst 1, 1, [], [], .int (1)),
  (1160, 809, .iadd, 1, [], [], .null),
  (1161, 810, .iaload, 1, [], [], .null),
  (1162, 811, .aload_n 0, 1, [0], [], .null),
  (1163, 812, .iload_n 3, 1, [3], [], .null),
  (1164, 813, .iconst 2, 1, [], [], .int (2)),
  (1165, 814, .iadd, 1, [], [], .null),
  (1166, 815, .iaload, 1, [], [], .null),
  (1167, 816, .aload_n 0, 1, [0], [], .null)]
def xc0_51 : List xIns := [(1168, 817, .iload_n 3, 1, [3], [], .null),
  (1169, 818, .iconst 3, 1, [], [], .int (3)),
  (1170, 819, .iadd, 1, [], [], .null),
  (1171, 820, .iaload, 1, [], [], .null),
  (1172, 821, .invokevirtual 141, 3, [166, 1137, 1138, 1139, 4, 0, 10], [], .null),
  (1175, 822, .if_icmp .eq 197, 3, [986], [], .null),
  (1178, 823, .iconst 0, 1, [], [], .int (0)),
  (1179, 824, .ireturn, 1, [], [], .null),
  (1180, 825, .aload_n 1, 1, [1], [], .null),
  (1181, 826, .aload_n 0, 1, [0], [], .null),
  (1182, 827, .iload_n 3, 1, [3], [], .null),
  (1183, 828, .iconst 1, 1, [], [], .int (1)),
  (1184, 829, .iadd, 1, [], [], .null),
  (1185, 830, .iaload, 1, [], [], .null),
  (1186, 831, .aload_n 0, 1, [0], [], .null),
  (1187, 832, .iload_n 3, 1, [3], [], .null)]
def xc0_52 : List xIns := [(1188, 833, .iconst 2, 1, [], [], .int (2)),
  (1189, 834, .iadd, 1, [], [], .null),
  (1190, 835, .iaload, 1, [], [], .null),
  (1191, 836, .aload_n 0, 1, [0], [], .null),
  (1192, 837, .iload_n 3, 1, [3], [], .null),
  (1193, 838, .iconst 3, 1, [], [], .int (3)),
  (1194, 839, .iadd, 1, [], [], .null),
  (1195, 840, .iaload, 1, [], [], .null),
  (1196, 841, .invokevirtual 142, 3, [86, 754, 755, 756, 4, 0, 9], [], .null),
  (1199, 842, .aload_n 2, 1, [2], [], .null),
  (1200, 843, .aload_n 0, 1, [0], [], .null),
  (1201, 844, .iload_n 3, 1, [3], [], .null),
  (1202, 845, .iconst 1, 1, [], [], .int (1)),
  (1203, 846, .iadd, 1, [], [], .null),
  (1204, 847, .iaload, 1, [], [], .null),
  (1205, 848, .aload_n 0, 1, [0], [], .null)]
def xc0_53 : List xIns := [(1206, 849, .iload_n 3, 1, [3], [], .null),
  (1207, 850, .iconst 2, 1, [], [], .int (2)),
  (1208, 851, .iadd, 1, [], [], .null),
  (1209, 852, .iaload, 1, [], [], .null),
  (1210, 853, .aload_n 0, 1, [0], [], .null),
  (1211, 854, .iload_n 3, 1, [3], [], .null),
  (1212, 855, .iconst 3, 1, [], [], .int (3)),
  (1213, 856, .iadd, 1, [], [], .null),
  (1214, 857, .iaload, 1, [], [], .null),
  (1215, 858, .invokevirtual 145, 3, [161, 1115, 1116, 1117, 4, 0, 10], [], .null),
  (1218, 859, .if_icmp .eq 154, 3, [986], [], .null),
  (1221, 860, .iconst 0, 1, [], [], .int (0)),
  (1222, 861, .ireturn, 1, [], [], .null),
  (1223, 862, .aload_n 1, 1, [1], [], .null),
  (1224, 863, .aload_n 0, 1, [0], [], .null),
  (1225, 864, .iload_n 3, 1, [3], [], .null)]
def xc0_54 : List xIns := [(1226, 865, .iconst 1, 1, [], [], .int (1)),
  (1227, 866, .iadd, 1, [], [], .null),
  (1228, 867, .iaload, 1, [], [], .null),
  (1229, 868, .invokevirtual 146, 3, [87, 765, 766, 767, 2, 0, 9], [], .null),
  (1232, 869, .aload_n 2, 1, [2], [], .null),
  (1233, 870, .aload_n 0, 1, [0], [], .null),
  (1234, 871, .iload_n 3, 1, [3], [], .null),
  (1235, 872, .iconst 1, 1, [], [], .int (1)),
  (1236, 873, .iadd, 1, [], [], .null),
  (1237, 874, .iaload, 1, [], [], .null),
  (1238, 875, .invokevirtual 149, 3, [163, 1122, 1123, 1124, 2, 0, 10], [], .null),
  (1241, 876, .if_icmp .eq 131, 3, [986], [], .null),
  (1244, 877, .iconst 0, 1, [], [], .int (0)),
  (1245, 878, .ireturn, 1, [], [], .null),
  (1246, 879, .aload_n 1, 1, [1], [], .null),
  (1247, 880, .aload_n 0, 1, [0], [], .null)]
def xc0_55 : List xIns := [(1248, 881, .iload_n 3, 1, [3], [], .null),
  (1249, 882, .iconst 1, 1, [], [], .int (1)),
  (1250, 883, .iadd, 1, [], [], .null),
  (1251, 884, .iaload, 1, [], [], .null),
  (1252, 885, .aload_n 0, 1, [0], [], .null),
  (1253, 886, .iload_n 3, 1, [3], [], .null),
  (1254, 887, .iconst 2, 1, [], [], .int (2)),
  (1255, 888, .iadd, 1, [], [], .null),
  (1256, 889, .iaload, 1, [], [], .null),
  (1257, 890, .aload_n 0, 1, [0], [], .null),
  (1258, 891, .iload_n 3, 1, [3], [], .null),
  (1259, 892, .iconst 3, 1, [], [], .int (3)),
  (1260, 893, .iadd, 1, [], [], .null),
  (1261, 894, .iaload, 1, [], [], .null),
  (1262, 895, .aload_n 0, 1, [0], [], .null),
  (1263, 896, .iload_n 3, 1, [3], [], .null)]
def xc0_56 : List xIns := [(1264, 897, .iconst 4, 1, [], [], .int (4)),
  (1265, 898, .iadd, 1, [], [], .null),
  (1266, 899, .iaload, 1, [], [], .null),
  (1267, 900, .i2l, 1, [], [], .null),
  (1268, 901, .bipush 32, 2, [], [], .int (32)),
  (1270, 902, .lshl, 1, [], [], .null),
  (1271, 903, .aload_n 0, 1, [0], [], .null),
  (1272, 904, .iload_n 3, 1, [3], [], .null),
  (1273, 905, .iconst 5, 1, [], [], .int (5)),
  (1274, 906, .iadd, 1, [], [], .null),
  (1275, 907, .iaload, 1, [], [], .null),
  (1276, 908, .i2l, 1, [], [], .null),
  (1277, 909, .ldc2_w 54, 3, [1145], [], .long (4294967295)),
  (1280, 910, .land, 1, [], [], .null),
  (1281, 911, .lor, 1, [], [], .null),
  (1282, 912, .invokevirtual 150, 3, [88, 769, 770, 771, 5, 0, 9], [], .null)]
def xc0_57 : List xIns := [(1285, 913, .aload_n 2, 1, [2], [], .null),
  (1286, 914, .aload_n 0, 1, [0], [], .null),
  (1287, 915, .iload_n 3, 1, [3], [], .null),
  (1288, 916, .iconst 1, 1, [], [], .int (1)),
  (1289, 917, .iadd, 1, [], [], .null),
  (1290, 918, .iaload, 1, [], [], .null),
  (1291, 919, .aload_n 0, 1, [0], [], .null),
  (1292, 920, .iload_n 3, 1, [3], [], .null),
  (1293, 921, .iconst 2, 1, [], [], .int (2)),
  (1294, 922, .iadd, 1, [], [], .null),
  (1295, 923, .iaload, 1, [], [], .null),
  (1296, 924, .aload_n 0, 1, [0], [], .null),
  (1297, 925, .iload_n 3, 1, [3], [], .null),
  (1298, 926, .iconst 3, 1, [], [], .int (3)),
  (1299, 927, .iadd, 1, [], [], .null),
  (1300, 928, .iaload, 1, [], [], .null)]
def xc0_58 : List xIns := [(1301, 929, .aload_n 0, 1, [0], [], .null),
  (1302, 930, .iload_n 3, 1, [3], [], .null),
  (1303, 931, .iconst 4, 1, [], [], .int (4)),
  (1304, 932, .iadd, 1, [], [], .null),
  (1305, 933, .iaload, 1, [], [], .null),
  (1306, 934, .i2l, 1, [], [], .null),
  (1307, 935, .bipush 32, 2, [], [], .int (32)),
  (1309, 936, .lshl, 1, [], [], .null),
  (1310, 937, .aload_n 0, 1, [0], [], .null),
  (1311, 938, .iload_n 3, 1, [3], [], .null),
  (1312, 939, .iconst 5, 1, [], [], .int (5)),
  (1313, 940, .iadd, 1, [], [], .null),
  (1314, 941, .iaload, 1, [], [], .null),
  (1315, 942, .i2l, 1, [], [], .null),
  (1316, 943, .ldc2_w 54, 3, [1145], [], .long (4294967295)),
  (1319, 944, .land, 1, [], [], .null)]
def xc0_59 : List xIns := [(1320, 945, .lor, 1, [], [], .null),
  (1321, 946, .invokevirtual 154, 3, [165, 1126, 1127, 1128, 5, 0, 10], [], .null),
  (1324, 947, .if_icmp .eq 48, 3, [986], [], .null),
  (1327, 948, .iconst 0, 1, [], [], .int (0)),
  (1328, 949, .ireturn, 1, [], [], .null),
  (1329, 950, .aload_n 1, 1, [1], [], .null),
  (1330, 951, .aload_n 0, 1, [0], [], .null),
  (1331, 952, .iload_n 3, 1, [3], [], .null),
  (1332, 953, .iconst 1, 1, [], [], .int (1)),
  (1333, 954, .iadd, 1, [], [], .null),
  (1334, 955, .iaload, 1, [], [], .null),
  (1335, 956, .aload_n 0, 1, [0], [], .null),
  (1336, 957, .iload_n 3, 1, [3], [], .null),
  (1337, 958, .iconst 2, 1, [], [], .int (2)),
  (1338, 959, .iadd, 1, [], [], .null),
  (1339, 960, .iaload, 1, [], [], .null)]
def xc0_60 : List xIns := [(1340, 961, .aload_n 0, 1, [0], [], .null),
  (1341, 962, .iload_n 3, 1, [3], [], .null),
  (1342, 963, .iconst 3, 1, [], [], .int (3)),
  (1343, 964, .iadd, 1, [], [], .null),
  (1344, 965, .iaload, 1, [], [], .null),
  (1345, 966, .invokevirtual 155, 3, [89, 777, 778, 779, 4, 0, 9], [], .null),
  (1348, 967, .aload_n 2, 1, [2], [], .null),
  (1349, 968, .aload_n 0, 1, [0], [], .null),
  (1350, 969, .iload_n 3, 1, [3], [], .null),
  (1351, 970, .iconst 1, 1, [], [], .int (1)),
  (1352, 971, .iadd, 1, [], [], .null),
  (1353, 972, .iaload, 1, [], [], .null),
  (1354, 973, .aload_n 0, 1, [0], [], .null),
  (1355, 974, .iload_n 3, 1, [3], [], .null),
  (1356, 975, .iconst 2, 1, [], [], .int (2)),
  (1357, 976, .iadd, 1, [], [], .null)]
def xc0_61 : List xIns := [(1358, 977, .iaload, 1, [], [], .null),
  (1359, 978, .aload_n 0, 1, [0], [], .null),
  (1360, 979, .iload_n 3, 1, [3], [], .null),
  (1361, 980, .iconst 3, 1, [], [], .int (3)),
  (1362, 981, .iadd, 1, [], [], .null),
  (1363, 982, .iaload, 1, [], [], .null),
  (1364, 983, .invokevirtual 158, 3, [167, 1141, 1142, 1143, 4, 0, 10], [], .null),
  (1367, 984, .if_icmp .eq 5, 3, [986], [], .null),
  (1370, 985, .iconst 0, 1, [], [], .int (0)),
  (1371, 986, .ireturn, 1, [], [], .null),
  (1372, 987, .iinc 3 6, 3, [3], [], .int (6)),
  (1375, 988, .goto (-1357), 3, [10], [], .null),
  (1378, 989, .iconst 1, 1, [], [], .int (1)),
  (1379, 0, .ireturn, 1, [], [], .null)]
def xc0 : List (List xIns) := [xc0_0, xc0_1, xc0_2, xc0_3, xc0_4, xc0_5, xc0_6, xc0_7, xc0_8, xc0_9, xc0_10, xc0_11, xc0_12, xc0_13, xc0_14, xc0_15, xc0_16, xc0_17, xc0_18, xc0_19, xc0_20, xc0_21, xc0_22, xc0_23, xc0_24, xc0_25, xc0_26, xc0_27, xc0_28, xc0_29, xc0_30, xc0_31, xc0_32, xc0_33, xc0_34, xc0_35, xc0_36, xc0_37, xc0_38, xc0_39, xc0_40, xc0_41, xc0_42, xc0_43, xc0_44, xc0_45, xc0_46, xc0_47, xc0_48, xc0_49, xc0_50, xc0_51, xc0_52, xc0_53, xc0_54, xc0_55, xc0_56, xc0_57, xc0_58, xc0_59, xc0_60, xc0_61]

/-- StepRings$Cut.<init>(LStepRings$Ways;)V -/
def xc1_0 : List xIns := [(0, 1, .aload_n 0, 1, [0], [], .null),
  (1, 2, .invokespecial 3, 3, [0, 262], [], .null),
  (4, 3, .aload_n 0, 1, [0], [], .null),
  (5, 4, .bipush 24, 2, [], [], .int (24)),
  (7, 5, .newarray .int, 2, [], [], .null),
  (9, 6, .putfield 9, 3, [264, 0, 1, 1], [], .null),
  (12, 7, .aload_n 0, 1, [0], [], .null),
  (13, 8, .bipush 12, 2, [], [], .int (12)),
  (15, 9, .newarray .int, 2, [], [], .null),
  (17, 10, .putfield 15, 3, [265, 0, 2, 1], [], .null),
  (20, 11, .aload_n 0, 1, [0], [], .null),
  (21, 12, .aload_n 1, 1, [1], [], .null),
  (22, 13, .putfield 18, 3, [263, 0, 0, 1], [], .null),
  (25, 0, .return_, 1, [], [], .null)]
def xc1 : List (List xIns) := [xc1_0]

/-- StepRings$Cut.fewest(II)I -/
def xc2_0 : List xIns := [(0, 1, .aload_n 0, 1, [0], [], .null),
  (1, 2, .getfield 9, 3, [264, 0, 1, 1], [], .null),
  (4, 3, .iconst 0, 1, [], [], .int (0)),
  (5, 4, .invokestatic 22, 3, [173, 708, 434, 0, 2, 0], [], .null),
  (8, 5, .iconst 0, 1, [], [], .int (0)),
  (9, 6, .istore_n 3, 1, [3], [], .null),
  (10, 7, .iload_n 3, 1, [3], [], .null),
  (11, 8, .bipush 24, 2, [], [], .int (24)),
  (13, 9, .if_icmp .ge 23, 3, [19], [], .null),
  (16, 10, .aload_n 0, 1, [0], [], .null),
  (17, 11, .iload_n 1, 1, [1], [], .null),
  (18, 12, .iload_n 2, 1, [2], [], .null),
  (19, 13, .invokevirtual 28, 3, [4, 709, 711, 21, 3, 0, 0], [], .null),
  (22, 14, .ifCond .eq 14, 3, [19], [], .null),
  (25, 15, .aload_n 0, 1, [0], [], .null),
  (26, 16, .iload_n 2, 1, [2], [], .null)]
def xc2_1 : List xIns := [(27, 17, .invokevirtual 32, 3, [6, 717, 719, 23, 2, 0, 0], [], .null),
  (30, 18, .iinc 3 1, 3, [3], [], .int (1)),
  (33, 19, .goto (-23), 3, [6], [], .null),
  (36, 20, .iload_n 3, 1, [3], [], .null),
  (37, 0, .ireturn, 1, [], [], .null)]
def xc2 : List (List xIns) := [xc2_0, xc2_1]

/-- StepRings$Cut.findRow(II)Z -/
def xc3_0 : List xIns := [(0, 1, .aload_n 0, 1, [0], [], .null),
  (1, 2, .getfield 15, 3, [265, 0, 2, 1], [], .null),
  (4, 3, .iconst (-1), 1, [], [], .int (-1)),
  (5, 4, .invokestatic 22, 3, [173, 708, 434, 0, 2, 0], [], .null),
  (8, 5, .iconst 1, 1, [], [], .int (1)),
  (9, 6, .iload_n 1, 1, [1], [], .null),
  (10, 7, .ishl, 1, [], [], .null),
  (11, 8, .istore_n 3, 1, [3], [], .null),
  (12, 9, .iconst 0, 1, [], [], .int (0)),
  (13, 10, .istore 4, 2, [4], [], .null),
  (15, 11, .iconst 0, 1, [], [], .int (0)),
  (16, 12, .istore 5, 2, [5], [], .null),
  (18, 13, .iload 5, 2, [5], [], .null),
  (20, 14, .bipush 12, 2, [], [], .int (12)),
  (22, 15, .if_icmp .ge 99, 3, [65], [], .null),
  (25, 16, .iload_n 3, 1, [3], [], .null)]
def xc3_1 : List xIns := [(26, 17, .iload 4, 2, [4], [], .null),
  (28, 18, .if_icmp .eq 93, 3, [65], [], .null),
  (31, 19, .iload_n 3, 1, [3], [], .null),
  (32, 20, .istore 4, 2, [4], [], .null),
  (34, 21, .iconst 0, 1, [], [], .int (0)),
  (35, 22, .istore 6, 2, [6], [], .null),
  (37, 23, .iload 6, 2, [6], [], .null),
  (39, 24, .aload_n 0, 1, [0], [], .null),
  (40, 25, .getfield 18, 3, [263, 0, 0, 1], [], .null),
  (43, 26, .getfield 36, 3, [85, 6, 0, 0], [], .null),
  (46, 27, .if_icmp .ge 69, 3, [63], [], .null),
  (49, 28, .iload_n 3, 1, [3], [], .null),
  (50, 29, .aload_n 0, 1, [0], [], .null),
  (51, 30, .iload 6, 2, [6], [], .null),
  (53, 31, .aload_n 0, 1, [0], [], .null),
  (54, 32, .getfield 18, 3, [263, 0, 0, 1], [], .null)]
def xc3_2 : List xIns := [(57, 33, .getfield 42, 3, [89, 6, 1, 1], [], .null),
  (60, 34, .iload 6, 2, [6], [], .null),
  (62, 35, .iaload, 1, [], [], .null),
  (63, 36, .aload_n 0, 1, [0], [], .null),
  (64, 37, .getfield 18, 3, [263, 0, 0, 1], [], .null),
  (67, 38, .getfield 45, 3, [93, 6, 2, 1], [], .null),
  (70, 39, .iload 6, 2, [6], [], .null),
  (72, 40, .iaload, 1, [], [], .null),
  (73, 41, .iload_n 3, 1, [3], [], .null),
  (74, 42, .invokevirtual 48, 3, [5, 713, 715, 22, 5, 0, 0], [], .null),
  (77, 43, .ior, 1, [], [], .null),
  (78, 44, .istore_n 3, 1, [3], [], .null),
  (79, 45, .iload_n 3, 1, [3], [], .null),
  (80, 46, .aload_n 0, 1, [0], [], .null),
  (81, 47, .iload 6, 2, [6], [], .null),
  (83, 48, .aload_n 0, 1, [0], [], .null)]
def xc3_3 : List xIns := [(84, 49, .getfield 18, 3, [263, 0, 0, 1], [], .null),
  (87, 50, .getfield 45, 3, [93, 6, 2, 1], [], .null),
  (90, 51, .iload 6, 2, [6], [], .null),
  (92, 52, .iaload, 1, [], [], .null),
  (93, 53, .aload_n 0, 1, [0], [], .null),
  (94, 54, .getfield 18, 3, [263, 0, 0, 1], [], .null),
  (97, 55, .getfield 42, 3, [89, 6, 1, 1], [], .null),
  (100, 56, .iload 6, 2, [6], [], .null),
  (102, 57, .iaload, 1, [], [], .null),
  (103, 58, .iload_n 3, 1, [3], [], .null),
  (104, 59, .invokevirtual 48, 3, [5, 713, 715, 22, 5, 0, 0], [], .null),
  (107, 60, .ior, 1, [], [], .null),
  (108, 61, .istore_n 3, 1, [3], [], .null),
  (109, 62, .iinc 6 1, 3, [6], [], .int (1)),
  (112, 63, .goto (-75), 3, [22], [], .null),
  (115, 64, .iinc 5 1, 3, [5], [], .int (1))]
def xc3_4 : List xIns := [(118, 65, .goto (-100), 3, [12], [], .null),
  (121, 66, .aload_n 0, 1, [0], [], .null),
  (122, 67, .getfield 15, 3, [265, 0, 2, 1], [], .null),
  (125, 68, .iload_n 2, 1, [2], [], .null),
  (126, 69, .iaload, 1, [], [], .null),
  (127, 70, .ifCond .lt 7, 3, [72], [], .null),
  (130, 71, .iconst 1, 1, [], [], .int (1)),
  (131, 72, .goto 4, 3, [73], [], .null),
  (134, 73, .iconst 0, 1, [], [], .int (0)),
  (135, 0, .ireturn, 1, [], [], .null)]
def xc3 : List (List xIns) := [xc3_0, xc3_1, xc3_2, xc3_3, xc3_4]

/-- StepRings$Cut.reach(IIII)I -/
def xc4_0 : List xIns := [(0, 1, .aload_n 0, 1, [0], [], .null),
  (1, 2, .getfield 18, 3, [263, 0, 0, 1], [], .null),
  (4, 3, .getfield 42, 3, [89, 6, 1, 1], [], .null),
  (7, 4, .iload_n 1, 1, [1], [], .null),
  (8, 5, .iaload, 1, [], [], .null),
  (9, 6, .iload_n 2, 1, [2], [], .null),
  (10, 7, .if_icmp .ne 7, 3, [9], [], .null),
  (13, 8, .iconst 1, 1, [], [], .int (1)),
  (14, 9, .goto 4, 3, [10], [], .null),
  (17, 10, .iconst (-1), 1, [], [], .int (-1)),
  (18, 11, .istore 5, 2, [5], [], .null),
  (20, 12, .iload 4, 2, [4], [], .null),
  (22, 13, .iload_n 2, 1, [2], [], .null),
  (23, 14, .ishr, 1, [], [], .null),
  (24, 15, .iconst 1, 1, [], [], .int (1)),
  (25, 16, .iand, 1, [], [], .null)]
def xc4_1 : List xIns := [(26, 17, .ifCond .eq 23, 3, [29], [], .null),
  (29, 18, .iload 4, 2, [4], [], .null),
  (31, 19, .iload_n 3, 1, [3], [], .null),
  (32, 20, .ishr, 1, [], [], .null),
  (33, 21, .iconst 1, 1, [], [], .int (1)),
  (34, 22, .iand, 1, [], [], .null),
  (35, 23, .ifCond .ne 14, 3, [29], [], .null),
  (38, 24, .aload_n 0, 1, [0], [], .null),
  (39, 25, .getfield 9, 3, [264, 0, 1, 1], [], .null),
  (42, 26, .iload_n 1, 1, [1], [], .null),
  (43, 27, .iaload, 1, [], [], .null),
  (44, 28, .iload 5, 2, [5], [], .null),
  (46, 29, .if_icmp .ne 5, 3, [31], [], .null),
  (49, 30, .iconst 0, 1, [], [], .int (0)),
  (50, 31, .ireturn, 1, [], [], .null),
  (51, 32, .aload_n 0, 1, [0], [], .null)]
def xc4_2 : List xIns := [(52, 33, .getfield 15, 3, [265, 0, 2, 1], [], .null),
  (55, 34, .iload_n 3, 1, [3], [], .null),
  (56, 35, .iload_n 1, 1, [1], [], .null),
  (57, 36, .iastore, 1, [], [], .null),
  (58, 37, .iconst 1, 1, [], [], .int (1)),
  (59, 38, .iload_n 3, 1, [3], [], .null),
  (60, 39, .ishl, 1, [], [], .null),
  (61, 0, .ireturn, 1, [], [], .null)]
def xc4 : List (List xIns) := [xc4_0, xc4_1, xc4_2]

/-- StepRings$Cut.takeRow(I)V -/
def xc5_0 : List xIns := [(0, 1, .iload_n 1, 1, [1], [], .null),
  (1, 2, .istore_n 2, 1, [2], [], .null),
  (2, 3, .iconst 0, 1, [], [], .int (0)),
  (3, 4, .istore_n 3, 1, [3], [], .null),
  (4, 5, .iload_n 3, 1, [3], [], .null),
  (5, 6, .bipush 12, 2, [], [], .int (12)),
  (7, 7, .if_icmp .ge 93, 3, [55], [], .null),
  (10, 8, .aload_n 0, 1, [0], [], .null),
  (11, 9, .getfield 15, 3, [265, 0, 2, 1], [], .null),
  (14, 10, .iload_n 2, 1, [2], [], .null),
  (15, 11, .iaload, 1, [], [], .null),
  (16, 12, .ifCond .lt 84, 3, [55], [], .null),
  (19, 13, .aload_n 0, 1, [0], [], .null),
  (20, 14, .getfield 15, 3, [265, 0, 2, 1], [], .null),
  (23, 15, .iload_n 2, 1, [2], [], .null),
  (24, 16, .iaload, 1, [], [], .null)]
def xc5_1 : List xIns := [(25, 17, .istore 4, 2, [4], [], .null),
  (27, 18, .aload_n 0, 1, [0], [], .null),
  (28, 19, .getfield 9, 3, [264, 0, 1, 1], [], .null),
  (31, 20, .iload 4, 2, [4], [], .null),
  (33, 21, .dup2, 1, [], [], .null),
  (34, 22, .iaload, 1, [], [], .null),
  (35, 23, .aload_n 0, 1, [0], [], .null),
  (36, 24, .getfield 18, 3, [263, 0, 0, 1], [], .null),
  (39, 25, .getfield 45, 3, [93, 6, 2, 1], [], .null),
  (42, 26, .iload 4, 2, [4], [], .null),
  (44, 27, .iaload, 1, [], [], .null),
  (45, 28, .iload_n 2, 1, [2], [], .null),
  (46, 29, .if_icmp .ne 7, 3, [31], [], .null),
  (49, 30, .iconst 1, 1, [], [], .int (1)),
  (50, 31, .goto 4, 3, [32], [], .null),
  (53, 32, .iconst (-1), 1, [], [], .int (-1))]
def xc5_2 : List xIns := [(54, 33, .iadd, 1, [], [], .null),
  (55, 34, .iastore, 1, [], [], .null),
  (56, 35, .aload_n 0, 1, [0], [], .null),
  (57, 36, .getfield 18, 3, [263, 0, 0, 1], [], .null),
  (60, 37, .getfield 45, 3, [93, 6, 2, 1], [], .null),
  (63, 38, .iload 4, 2, [4], [], .null),
  (65, 39, .iaload, 1, [], [], .null),
  (66, 40, .iload_n 2, 1, [2], [], .null),
  (67, 41, .if_icmp .ne 16, 3, [47], [], .null),
  (70, 42, .aload_n 0, 1, [0], [], .null),
  (71, 43, .getfield 18, 3, [263, 0, 0, 1], [], .null),
  (74, 44, .getfield 42, 3, [89, 6, 1, 1], [], .null),
  (77, 45, .iload 4, 2, [4], [], .null),
  (79, 46, .iaload, 1, [], [], .null),
  (80, 47, .goto 13, 3, [52], [], .null),
  (83, 48, .aload_n 0, 1, [0], [], .null)]
def xc5_3 : List xIns := [(84, 49, .getfield 18, 3, [263, 0, 0, 1], [], .null),
  (87, 50, .getfield 45, 3, [93, 6, 2, 1], [], .null),
  (90, 51, .iload 4, 2, [4], [], .null),
  (92, 52, .iaload, 1, [], [], .null),
  (93, 53, .istore_n 2, 1, [2], [], .null),
  (94, 54, .iinc 3 1, 3, [3], [], .int (1)),
  (97, 55, .goto (-93), 3, [4], [], .null),
  (100, 0, .return_, 1, [], [], .null)]
def xc5 : List (List xIns) := [xc5_0, xc5_1, xc5_2, xc5_3]

/-- StepRings$People.copy(LStepRings$People;)V -/
def xc6_0 : List xIns := [(0, 1, .aload_n 0, 1, [0], [], .null),
  (1, 2, .aload_n 1, 1, [1], [], .null),
  (2, 3, .getfield 36, 3, [122, 1, 0, 0], [], .null),
  (5, 4, .putfield 36, 3, [122, 1, 0, 0], [], .null),
  (8, 5, .aload_n 1, 1, [1], [], .null),
  (9, 6, .getfield 9, 3, [127, 1, 1, 1], [], .null),
  (12, 7, .iconst 0, 1, [], [], .int (0)),
  (13, 8, .aload_n 0, 1, [0], [], .null),
  (14, 9, .getfield 9, 3, [127, 1, 1, 1], [], .null),
  (17, 10, .iconst 0, 1, [], [], .int (0)),
  (18, 11, .bipush 8, 2, [], [], .int (8)),
  (20, 12, .invokestatic 54, 3, [0, 542, 0], [], .null),
  (23, 13, .aload_n 1, 1, [1], [], .null),
  (24, 14, .getfield 15, 3, [131, 1, 2, 1], [], .null),
  (27, 15, .iconst 0, 1, [], [], .int (0)),
  (28, 16, .aload_n 0, 1, [0], [], .null)]
def xc6_1 : List xIns := [(29, 17, .getfield 15, 3, [131, 1, 2, 1], [], .null),
  (32, 18, .iconst 0, 1, [], [], .int (0)),
  (33, 19, .bipush 8, 2, [], [], .int (8)),
  (35, 20, .invokestatic 54, 3, [0, 542, 0], [], .null),
  (38, 21, .aload_n 1, 1, [1], [], .null),
  (39, 22, .getfield 18, 3, [135, 1, 3, 1], [], .null),
  (42, 23, .iconst 0, 1, [], [], .int (0)),
  (43, 24, .aload_n 0, 1, [0], [], .null),
  (44, 25, .getfield 18, 3, [135, 1, 3, 1], [], .null),
  (47, 26, .iconst 0, 1, [], [], .int (0)),
  (48, 27, .bipush 8, 2, [], [], .int (8)),
  (50, 28, .invokestatic 54, 3, [0, 542, 0], [], .null),
  (53, 29, .aload_n 1, 1, [1], [], .null),
  (54, 30, .getfield 21, 3, [137, 1, 4, 1], [], .null),
  (57, 31, .iconst 0, 1, [], [], .int (0)),
  (58, 32, .aload_n 0, 1, [0], [], .null)]
def xc6_2 : List xIns := [(59, 33, .getfield 21, 3, [137, 1, 4, 1], [], .null),
  (62, 34, .iconst 0, 1, [], [], .int (0)),
  (63, 35, .bipush 8, 2, [], [], .int (8)),
  (65, 36, .invokestatic 54, 3, [0, 542, 0], [], .null),
  (68, 37, .aload_n 1, 1, [1], [], .null),
  (69, 38, .getfield 24, 3, [140, 1, 5, 1], [], .null),
  (72, 39, .iconst 0, 1, [], [], .int (0)),
  (73, 40, .aload_n 0, 1, [0], [], .null),
  (74, 41, .getfield 24, 3, [140, 1, 5, 1], [], .null),
  (77, 42, .iconst 0, 1, [], [], .int (0)),
  (78, 43, .bipush 8, 2, [], [], .int (8)),
  (80, 44, .invokestatic 54, 3, [0, 542, 0], [], .null),
  (83, 45, .aload_n 1, 1, [1], [], .null),
  (84, 46, .getfield 27, 3, [142, 1, 6, 1], [], .null),
  (87, 47, .iconst 0, 1, [], [], .int (0)),
  (88, 48, .aload_n 0, 1, [0], [], .null)]
def xc6_3 : List xIns := [(89, 49, .getfield 27, 3, [142, 1, 6, 1], [], .null),
  (92, 50, .iconst 0, 1, [], [], .int (0)),
  (93, 51, .bipush 8, 2, [], [], .int (8)),
  (95, 52, .invokestatic 54, 3, [0, 542, 0], [], .null),
  (98, 53, .aload_n 1, 1, [1], [], .null),
  (99, 54, .getfield 30, 3, [143, 1, 7, 1], [], .null),
  (102, 55, .iconst 0, 1, [], [], .int (0)),
  (103, 56, .aload_n 0, 1, [0], [], .null),
  (104, 57, .getfield 30, 3, [143, 1, 7, 1], [], .null),
  (107, 58, .iconst 0, 1, [], [], .int (0)),
  (108, 59, .bipush 8, 2, [], [], .int (8)),
  (110, 60, .invokestatic 54, 3, [0, 542, 0], [], .null),
  (113, 61, .aload_n 1, 1, [1], [], .null),
  (114, 62, .getfield 33, 3, [144, 1, 8, 1], [], .null),
  (117, 63, .iconst 0, 1, [], [], .int (0)),
  (118, 64, .aload_n 0, 1, [0], [], .null)]
def xc6_4 : List xIns := [(119, 65, .getfield 33, 3, [144, 1, 8, 1], [], .null),
  (122, 66, .iconst 0, 1, [], [], .int (0)),
  (123, 67, .bipush 64, 2, [], [], .int (64)),
  (125, 68, .invokestatic 54, 3, [0, 542, 0], [], .null),
  (128, 0, .return_, 1, [], [], .null)]
def xc6 : List (List xIns) := [xc6_0, xc6_1, xc6_2, xc6_3, xc6_4]

/-- StepRings$People.<init>()V -/
def xc7_0 : List xIns := [(0, 1, .aload_n 0, 1, [0], [], .null),
  (1, 2, .invokespecial 3, 3, [0, 121], [], .null),
  (4, 3, .aload_n 0, 1, [0], [], .null),
  (5, 4, .bipush 8, 2, [], [], .int (8)),
  (7, 5, .newarray .int, 2, [], [], .null),
  (9, 6, .putfield 9, 3, [127, 1, 1, 1], [], .null),
  (12, 7, .aload_n 0, 1, [0], [], .null),
  (13, 8, .bipush 8, 2, [], [], .int (8)),
  (15, 9, .newarray .int, 2, [], [], .null),
  (17, 10, .putfield 15, 3, [131, 1, 2, 1], [], .null),
  (20, 11, .aload_n 0, 1, [0], [], .null),
  (21, 12, .bipush 8, 2, [], [], .int (8)),
  (23, 13, .newarray .int, 2, [], [], .null),
  (25, 14, .putfield 18, 3, [135, 1, 3, 1], [], .null),
  (28, 15, .aload_n 0, 1, [0], [], .null),
  (29, 16, .bipush 8, 2, [], [], .int (8))]
def xc7_1 : List xIns := [(31, 17, .newarray .int, 2, [], [], .null),
  (33, 18, .putfield 21, 3, [137, 1, 4, 1], [], .null),
  (36, 19, .aload_n 0, 1, [0], [], .null),
  (37, 20, .bipush 8, 2, [], [], .int (8)),
  (39, 21, .newarray .int, 2, [], [], .null),
  (41, 22, .putfield 24, 3, [140, 1, 5, 1], [], .null),
  (44, 23, .aload_n 0, 1, [0], [], .null),
  (45, 24, .bipush 8, 2, [], [], .int (8)),
  (47, 25, .newarray .int, 2, [], [], .null),
  (49, 26, .putfield 27, 3, [142, 1, 6, 1], [], .null),
  (52, 27, .aload_n 0, 1, [0], [], .null),
  (53, 28, .bipush 8, 2, [], [], .int (8)),
  (55, 29, .newarray .int, 2, [], [], .null),
  (57, 30, .putfield 30, 3, [143, 1, 7, 1], [], .null),
  (60, 31, .aload_n 0, 1, [0], [], .null),
  (61, 32, .bipush 64, 2, [], [], .int (64))]
def xc7_2 : List xIns := [(63, 33, .newarray .int, 2, [], [], .null),
  (65, 34, .putfield 33, 3, [144, 1, 8, 1], [], .null),
  (68, 0, .return_, 1, [], [], .null)]
def xc7 : List (List xIns) := [xc7_0, xc7_1, xc7_2]

/-- StepRings$People.add(III)I -/
def xc8_0 : List xIns := [(0, 1, .aload_n 0, 1, [0], [], .null),
  (1, 2, .getfield 36, 3, [122, 1, 0, 0], [], .null),
  (4, 3, .istore 4, 2, [4], [], .null),
  (6, 4, .aload_n 0, 1, [0], [], .null),
  (7, 5, .getfield 9, 3, [127, 1, 1, 1], [], .null),
  (10, 6, .iload 4, 2, [4], [], .null),
  (12, 7, .iload_n 1, 1, [1], [], .null),
  (13, 8, .iastore, 1, [], [], .null),
  (14, 9, .aload_n 0, 1, [0], [], .null),
  (15, 10, .getfield 15, 3, [131, 1, 2, 1], [], .null),
  (18, 11, .iload 4, 2, [4], [], .null),
  (20, 12, .iload_n 2, 1, [2], [], .null),
  (21, 13, .iastore, 1, [], [], .null),
  (22, 14, .aload_n 0, 1, [0], [], .null),
  (23, 15, .getfield 18, 3, [135, 1, 3, 1], [], .null),
  (26, 16, .iload 4, 2, [4], [], .null)]
def xc8_1 : List xIns := [(28, 17, .iload_n 3, 1, [3], [], .null),
  (29, 18, .iastore, 1, [], [], .null),
  (30, 19, .aload_n 0, 1, [0], [], .null),
  (31, 20, .getfield 21, 3, [137, 1, 4, 1], [], .null),
  (34, 21, .iload 4, 2, [4], [], .null),
  (36, 22, .iload_n 1, 1, [1], [], .null),
  (37, 23, .iastore, 1, [], [], .null),
  (38, 24, .aload_n 0, 1, [0], [], .null),
  (39, 25, .getfield 24, 3, [140, 1, 5, 1], [], .null),
  (42, 26, .iload 4, 2, [4], [], .null),
  (44, 27, .iconst 0, 1, [], [], .int (0)),
  (45, 28, .iastore, 1, [], [], .null),
  (46, 29, .aload_n 0, 1, [0], [], .null),
  (47, 30, .getfield 27, 3, [142, 1, 6, 1], [], .null),
  (50, 31, .iload 4, 2, [4], [], .null),
  (52, 32, .iconst 0, 1, [], [], .int (0))]
def xc8_2 : List xIns := [(53, 33, .iastore, 1, [], [], .null),
  (54, 34, .aload_n 0, 1, [0], [], .null),
  (55, 35, .getfield 30, 3, [143, 1, 7, 1], [], .null),
  (58, 36, .iload 4, 2, [4], [], .null),
  (60, 37, .iconst 0, 1, [], [], .int (0)),
  (61, 38, .iastore, 1, [], [], .null),
  (62, 39, .aload_n 0, 1, [0], [], .null),
  (63, 40, .dup, 1, [], [], .null),
  (64, 41, .getfield 36, 3, [122, 1, 0, 0], [], .null),
  (67, 42, .iconst 1, 1, [], [], .int (1)),
  (68, 43, .iadd, 1, [], [], .null),
  (69, 44, .putfield 36, 3, [122, 1, 0, 0], [], .null),
  (72, 45, .iload 4, 2, [4], [], .null),
  (74, 0, .ireturn, 1, [], [], .null)]
def xc8 : List (List xIns) := [xc8_0, xc8_1, xc8_2]

/-- StepRings$People.hand(III)V -/
def xc9_0 : List xIns := [(0, 1, .aload_n 0, 1, [0], [], .null),
  (1, 2, .getfield 18, 3, [135, 1, 3, 1], [], .null),
  (4, 3, .iload_n 1, 1, [1], [], .null),
  (5, 4, .dup2, 1, [], [], .null),
  (6, 5, .iaload, 1, [], [], .null),
  (7, 6, .iload_n 3, 1, [3], [], .null),
  (8, 7, .isub, 1, [], [], .null),
  (9, 8, .iastore, 1, [], [], .null),
  (10, 9, .aload_n 0, 1, [0], [], .null),
  (11, 10, .getfield 30, 3, [143, 1, 7, 1], [], .null),
  (14, 11, .iload_n 1, 1, [1], [], .null),
  (15, 12, .dup2, 1, [], [], .null),
  (16, 13, .iaload, 1, [], [], .null),
  (17, 14, .iload_n 3, 1, [3], [], .null),
  (18, 15, .iadd, 1, [], [], .null),
  (19, 16, .iastore, 1, [], [], .null)]
def xc9_1 : List xIns := [(20, 17, .aload_n 0, 1, [0], [], .null),
  (21, 18, .getfield 18, 3, [135, 1, 3, 1], [], .null),
  (24, 19, .iload_n 2, 1, [2], [], .null),
  (25, 20, .ldc 40, 2, [595], [], .int (99999)),
  (27, 21, .aload_n 0, 1, [0], [], .null),
  (28, 22, .getfield 18, 3, [135, 1, 3, 1], [], .null),
  (31, 23, .iload_n 2, 1, [2], [], .null),
  (32, 24, .iaload, 1, [], [], .null),
  (33, 25, .iload_n 3, 1, [3], [], .null),
  (34, 26, .iadd, 1, [], [], .null),
  (35, 27, .invokestatic 41, 3, [0, 596, 2], [], .null),
  (38, 28, .iastore, 1, [], [], .null),
  (39, 29, .aload_n 0, 1, [0], [], .null),
  (40, 30, .getfield 27, 3, [142, 1, 6, 1], [], .null),
  (43, 31, .iload_n 2, 1, [2], [], .null),
  (44, 32, .dup2, 1, [], [], .null)]
def xc9_2 : List xIns := [(45, 33, .iaload, 1, [], [], .null),
  (46, 34, .iload_n 3, 1, [3], [], .null),
  (47, 35, .iadd, 1, [], [], .null),
  (48, 36, .iastore, 1, [], [], .null),
  (49, 0, .return_, 1, [], [], .null)]
def xc9 : List (List xIns) := [xc9_0, xc9_1, xc9_2]

/-- StepRings$People.payBack(III)V -/
def xc10_0 : List xIns := [(0, 1, .aload_n 0, 1, [0], [], .null),
  (1, 2, .iload_n 1, 1, [1], [], .null),
  (2, 3, .iload_n 2, 1, [2], [], .null),
  (3, 4, .iload_n 3, 1, [3], [], .null),
  (4, 5, .invokevirtual 47, 3, [10, 605, 592, 593, 4, 0, 1], [], .null),
  (7, 6, .aload_n 0, 1, [0], [], .null),
  (8, 7, .getfield 33, 3, [144, 1, 8, 1], [], .null),
  (11, 8, .iload_n 1, 1, [1], [], .null),
  (12, 9, .bipush 8, 2, [], [], .int (8)),
  (14, 10, .imul, 1, [], [], .null),
  (15, 11, .iload_n 2, 1, [2], [], .null),
  (16, 12, .iadd, 1, [], [], .null),
  (17, 13, .dup2, 1, [], [], .null),
  (18, 14, .iaload, 1, [], [], .null),
  (19, 15, .iload_n 3, 1, [3], [], .null),
  (20, 16, .isub, 1, [], [], .null)]
def xc10_1 : List xIns := [(21, 17, .iastore, 1, [], [], .null),
  (22, 0, .return_, 1, [], [], .null)]
def xc10 : List (List xIns) := [xc10_0, xc10_1]

/-- StepRings$People.settle()I -/
def xc11_0 : List xIns := [(0, 1, .iconst 0, 1, [], [], .int (0)),
  (1, 2, .istore_n 1, 1, [1], [], .null),
  (2, 3, .iconst 0, 1, [], [], .int (0)),
  (3, 4, .istore_n 2, 1, [2], [], .null),
  (4, 5, .iload_n 2, 1, [2], [], .null),
  (5, 6, .aload_n 0, 1, [0], [], .null),
  (6, 7, .getfield 36, 3, [122, 1, 0, 0], [], .null),
  (9, 8, .if_icmp .ge 60, 3, [41], [], .null),
  (12, 9, .iconst 0, 1, [], [], .int (0)),
  (13, 10, .istore_n 3, 1, [3], [], .null),
  (14, 11, .iload_n 3, 1, [3], [], .null),
  (15, 12, .aload_n 0, 1, [0], [], .null),
  (16, 13, .getfield 36, 3, [122, 1, 0, 0], [], .null),
  (19, 14, .if_icmp .ge 44, 3, [39], [], .null),
  (22, 15, .aload_n 0, 1, [0], [], .null),
  (23, 16, .getfield 18, 3, [135, 1, 3, 1], [], .null)]
def xc11_1 : List xIns := [(26, 17, .iload_n 2, 1, [2], [], .null),
  (27, 18, .iaload, 1, [], [], .null),
  (28, 19, .aload_n 0, 1, [0], [], .null),
  (29, 20, .getfield 33, 3, [144, 1, 8, 1], [], .null),
  (32, 21, .iload_n 2, 1, [2], [], .null),
  (33, 22, .bipush 8, 2, [], [], .int (8)),
  (35, 23, .imul, 1, [], [], .null),
  (36, 24, .iload_n 3, 1, [3], [], .null),
  (37, 25, .iadd, 1, [], [], .null),
  (38, 26, .iaload, 1, [], [], .null),
  (39, 27, .invokestatic 41, 3, [0, 596, 2], [], .null),
  (42, 28, .istore 4, 2, [4], [], .null),
  (44, 29, .aload_n 0, 1, [0], [], .null),
  (45, 30, .iload_n 2, 1, [2], [], .null),
  (46, 31, .iload_n 3, 1, [3], [], .null),
  (47, 32, .iload 4, 2, [4], [], .null)]
def xc11_2 : List xIns := [(49, 33, .invokevirtual 51, 3, [11, 618, 602, 603, 4, 0, 1], [], .null),
  (52, 34, .iload_n 1, 1, [1], [], .null),
  (53, 35, .iload 4, 2, [4], [], .null),
  (55, 36, .iadd, 1, [], [], .null),
  (56, 37, .istore_n 1, 1, [1], [], .null),
  (57, 38, .iinc 3 1, 3, [3], [], .int (1)),
  (60, 39, .goto (-46), 3, [10], [], .null),
  (63, 40, .iinc 2 1, 3, [2], [], .int (1)),
  (66, 41, .goto (-62), 3, [4], [], .null),
  (69, 42, .iload_n 1, 1, [1], [], .null),
  (70, 0, .ireturn, 1, [], [], .null)]
def xc11 : List (List xIns) := [xc11_0, xc11_1, xc11_2]

/-- StepRings$People.renew(I[I)V -/
def xc12_0 : List xIns := [(0, 1, .iconst 0, 1, [], [], .int (0)),
  (1, 2, .istore_n 3, 1, [3], [], .null),
  (2, 3, .iload_n 3, 1, [3], [], .null),
  (3, 4, .aload_n 0, 1, [0], [], .null),
  (4, 5, .getfield 36, 3, [122, 1, 0, 0], [], .null),
  (7, 6, .if_icmp .ge 96, 3, [64], [], .null),
  (10, 7, .iload_n 1, 1, [1], [], .null),
  (11, 8, .ifCond .ne 7, 3, [10], [], .null),
  (14, 9, .iconst 0, 1, [], [], .int (0)),
  (15, 10, .goto 25, 3, [24], [], .null),
  (18, 11, .iload_n 1, 1, [1], [], .null),
  (19, 12, .iconst 2, 1, [], [], .int (2)),
  (20, 13, .if_icmp .ne 14, 3, [20], [], .null),
  (23, 14, .aload_n 0, 1, [0], [], .null),
  (24, 15, .getfield 18, 3, [135, 1, 3, 1], [], .null),
  (27, 16, .iload_n 3, 1, [3], [], .null)]
def xc12_1 : List xIns := [(28, 17, .iaload, 1, [], [], .null),
  (29, 18, .iconst 2, 1, [], [], .int (2)),
  (30, 19, .idiv, 1, [], [], .null),
  (31, 20, .goto 9, 3, [24], [], .null),
  (34, 21, .aload_n 0, 1, [0], [], .null),
  (35, 22, .getfield 18, 3, [135, 1, 3, 1], [], .null),
  (38, 23, .iload_n 3, 1, [3], [], .null),
  (39, 24, .iaload, 1, [], [], .null),
  (40, 25, .istore 4, 2, [4], [], .null),
  (42, 26, .aload_n 0, 1, [0], [], .null),
  (43, 27, .getfield 18, 3, [135, 1, 3, 1], [], .null),
  (46, 28, .iload_n 3, 1, [3], [], .null),
  (47, 29, .ldc 40, 2, [595], [], .int (99999)),
  (49, 30, .iload 4, 2, [4], [], .null),
  (51, 31, .aload_n 2, 1, [2], [], .null),
  (52, 32, .aload_n 0, 1, [0], [], .null)]
def xc12_2 : List xIns := [(53, 33, .getfield 15, 3, [131, 1, 2, 1], [], .null),
  (56, 34, .iload_n 3, 1, [3], [], .null),
  (57, 35, .iaload, 1, [], [], .null),
  (58, 36, .iaload, 1, [], [], .null),
  (59, 37, .iadd, 1, [], [], .null),
  (60, 38, .invokestatic 41, 3, [0, 596, 2], [], .null),
  (63, 39, .iastore, 1, [], [], .null),
  (64, 40, .aload_n 0, 1, [0], [], .null),
  (65, 41, .getfield 21, 3, [137, 1, 4, 1], [], .null),
  (68, 42, .iload_n 3, 1, [3], [], .null),
  (69, 43, .aload_n 0, 1, [0], [], .null),
  (70, 44, .getfield 9, 3, [127, 1, 1, 1], [], .null),
  (73, 45, .iload_n 3, 1, [3], [], .null),
  (74, 46, .iaload, 1, [], [], .null),
  (75, 47, .iastore, 1, [], [], .null),
  (76, 48, .aload_n 0, 1, [0], [], .null)]
def xc12_3 : List xIns := [(77, 49, .getfield 24, 3, [140, 1, 5, 1], [], .null),
  (80, 50, .iload_n 3, 1, [3], [], .null),
  (81, 51, .iconst 0, 1, [], [], .int (0)),
  (82, 52, .iastore, 1, [], [], .null),
  (83, 53, .aload_n 0, 1, [0], [], .null),
  (84, 54, .getfield 27, 3, [142, 1, 6, 1], [], .null),
  (87, 55, .iload_n 3, 1, [3], [], .null),
  (88, 56, .iconst 0, 1, [], [], .int (0)),
  (89, 57, .iastore, 1, [], [], .null),
  (90, 58, .aload_n 0, 1, [0], [], .null),
  (91, 59, .getfield 30, 3, [143, 1, 7, 1], [], .null),
  (94, 60, .iload_n 3, 1, [3], [], .null),
  (95, 61, .iconst 0, 1, [], [], .int (0)),
  (96, 62, .iastore, 1, [], [], .null),
  (97, 63, .iinc 3 1, 3, [3], [], .int (1)),
  (100, 64, .goto (-98), 3, [2], [], .null)]
def xc12_4 : List xIns := [(103, 0, .return_, 1, [], [], .null)]
def xc12 : List (List xIns) := [xc12_0, xc12_1, xc12_2, xc12_3, xc12_4]

/-- StepRings$People.isLiar(IJ)Z -/
def xc13_0 : List xIns := [(0, 1, .lload_n 2, 1, [2], [], .null),
  (1, 2, .aload_n 0, 1, [0], [], .null),
  (2, 3, .getfield 24, 3, [140, 1, 5, 1], [], .null),
  (5, 4, .iload_n 1, 1, [1], [], .null),
  (6, 5, .iaload, 1, [], [], .null),
  (7, 6, .i2l, 1, [], [], .null),
  (8, 7, .aload_n 0, 1, [0], [], .null),
  (9, 8, .getfield 18, 3, [135, 1, 3, 1], [], .null),
  (12, 9, .iload_n 1, 1, [1], [], .null),
  (13, 10, .iaload, 1, [], [], .null),
  (14, 11, .i2l, 1, [], [], .null),
  (15, 12, .ladd, 1, [], [], .null),
  (16, 13, .aload_n 0, 1, [0], [], .null),
  (17, 14, .getfield 30, 3, [143, 1, 7, 1], [], .null),
  (20, 15, .iload_n 1, 1, [1], [], .null),
  (21, 16, .iaload, 1, [], [], .null)]
def xc13_1 : List xIns := [(22, 17, .i2l, 1, [], [], .null),
  (23, 18, .ladd, 1, [], [], .null),
  (24, 19, .aload_n 0, 1, [0], [], .null),
  (25, 20, .getfield 27, 3, [142, 1, 6, 1], [], .null),
  (28, 21, .iload_n 1, 1, [1], [], .null),
  (29, 22, .iaload, 1, [], [], .null),
  (30, 23, .i2l, 1, [], [], .null),
  (31, 24, .lsub, 1, [], [], .null),
  (32, 25, .lcmp, 1, [], [], .null),
  (33, 26, .ifCond .ge 7, 3, [28], [], .null),
  (36, 27, .iconst 1, 1, [], [], .int (1)),
  (37, 28, .goto 4, 3, [29], [], .null),
  (40, 29, .iconst 0, 1, [], [], .int (0)),
  (41, 0, .ireturn, 1, [], [], .null)]
def xc13 : List (List xIns) := [xc13_0, xc13_1]

/-- StepRings$People.allRings()I -/
def xc14_0 : List xIns := [(0, 1, .iconst 0, 1, [], [], .int (0)),
  (1, 2, .istore_n 1, 1, [1], [], .null),
  (2, 3, .iconst 0, 1, [], [], .int (0)),
  (3, 4, .istore_n 2, 1, [2], [], .null),
  (4, 5, .iload_n 2, 1, [2], [], .null),
  (5, 6, .aload_n 0, 1, [0], [], .null),
  (6, 7, .getfield 36, 3, [122, 1, 0, 0], [], .null),
  (9, 8, .if_icmp .ge 18, 3, [17], [], .null),
  (12, 9, .iload_n 1, 1, [1], [], .null),
  (13, 10, .aload_n 0, 1, [0], [], .null),
  (14, 11, .getfield 18, 3, [135, 1, 3, 1], [], .null),
  (17, 12, .iload_n 2, 1, [2], [], .null),
  (18, 13, .iaload, 1, [], [], .null),
  (19, 14, .iadd, 1, [], [], .null),
  (20, 15, .istore_n 1, 1, [1], [], .null),
  (21, 16, .iinc 2 1, 3, [2], [], .int (1))]
def xc14_1 : List xIns := [(24, 17, .goto (-20), 3, [4], [], .null),
  (27, 18, .iload_n 1, 1, [1], [], .null),
  (28, 0, .ireturn, 1, [], [], .null)]
def xc14 : List (List xIns) := [xc14_0, xc14_1]

/-- StepRings$People.allOwed()I -/
def xc15_0 : List xIns := [(0, 1, .iconst 0, 1, [], [], .int (0)),
  (1, 2, .istore_n 1, 1, [1], [], .null),
  (2, 3, .iconst 0, 1, [], [], .int (0)),
  (3, 4, .istore_n 2, 1, [2], [], .null),
  (4, 5, .iload_n 2, 1, [2], [], .null),
  (5, 6, .bipush 64, 2, [], [], .int (64)),
  (7, 7, .if_icmp .ge 18, 3, [16], [], .null),
  (10, 8, .iload_n 1, 1, [1], [], .null),
  (11, 9, .aload_n 0, 1, [0], [], .null),
  (12, 10, .getfield 33, 3, [144, 1, 8, 1], [], .null),
  (15, 11, .iload_n 2, 1, [2], [], .null),
  (16, 12, .iaload, 1, [], [], .null),
  (17, 13, .iadd, 1, [], [], .null),
  (18, 14, .istore_n 1, 1, [1], [], .null),
  (19, 15, .iinc 2 1, 3, [2], [], .int (1)),
  (22, 16, .goto (-18), 3, [4], [], .null)]
def xc15_1 : List xIns := [(25, 17, .iload_n 1, 1, [1], [], .null),
  (26, 0, .ireturn, 1, [], [], .null)]
def xc15 : List (List xIns) := [xc15_0, xc15_1]

/-- StepRings$Roads.<init>(LStepRings$Ways;)V -/
def xc16_0 : List xIns := [(0, 1, .aload_n 0, 1, [0], [], .null),
  (1, 2, .invokespecial 3, 3, [0, 202], [], .null),
  (4, 3, .aload_n 0, 1, [0], [], .null),
  (5, 4, .iconst 4, 1, [], [], .int (4)),
  (6, 5, .sipush 144, 3, [], [], .int (144)),
  (9, 6, .multianewarray 9 2, 4, [203], [], .null),
  (13, 7, .putfield 11, 3, [206, 2, 1, 1], [], .null),
  (16, 8, .aload_n 0, 1, [0], [], .null),
  (17, 9, .aload_n 1, 1, [1], [], .null),
  (18, 10, .putfield 16, 3, [205, 2, 0, 1], [], .null),
  (21, 0, .return_, 1, [], [], .null)]
def xc16 : List (List xIns) := [xc16_0]

/-- StepRings$Roads.forget()V -/
def xc17_0 : List xIns := [(0, 1, .aload_n 0, 1, [0], [], .null),
  (1, 2, .iconst 0, 1, [], [], .int (0)),
  (2, 3, .putfield 20, 3, [207, 2, 2, 0], [], .null),
  (5, 0, .return_, 1, [], [], .null)]
def xc17 : List (List xIns) := [xc17_0]

/-- StepRings$Roads.costsOf(I)[I -/
def xc18_0 : List xIns := [(0, 1, .aload_n 0, 1, [0], [], .null),
  (1, 2, .getfield 20, 3, [207, 2, 2, 0], [], .null),
  (4, 3, .iload_n 1, 1, [1], [], .null),
  (5, 4, .ishr, 1, [], [], .null),
  (6, 5, .iconst 1, 1, [], [], .int (1)),
  (7, 6, .iand, 1, [], [], .null),
  (8, 7, .ifCond .ne 30, 3, [24], [], .null),
  (11, 8, .aload_n 0, 1, [0], [], .null),
  (12, 9, .iload_n 1, 1, [1], [], .null),
  (13, 10, .invokevirtual 24, 3, [21, 428, 430, 1, 2, 0, 2], [], .null),
  (16, 11, .aload_n 0, 1, [0], [], .null),
  (17, 12, .aload_n 0, 1, [0], [], .null),
  (18, 13, .getfield 11, 3, [206, 2, 1, 1], [], .null),
  (21, 14, .iload_n 1, 1, [1], [], .null),
  (22, 15, .aaload, 1, [], [], .null),
  (23, 16, .invokevirtual 28, 3, [22, 440, 442, 2, 2, 0, 2], [], .null)]
def xc18_1 : List xIns := [(26, 17, .aload_n 0, 1, [0], [], .null),
  (27, 18, .dup, 1, [], [], .null),
  (28, 19, .getfield 20, 3, [207, 2, 2, 0], [], .null),
  (31, 20, .iconst 1, 1, [], [], .int (1)),
  (32, 21, .iload_n 1, 1, [1], [], .null),
  (33, 22, .ishl, 1, [], [], .null),
  (34, 23, .ior, 1, [], [], .null),
  (35, 24, .putfield 20, 3, [207, 2, 2, 0], [], .null),
  (38, 25, .aload_n 0, 1, [0], [], .null),
  (39, 26, .getfield 11, 3, [206, 2, 1, 1], [], .null),
  (42, 27, .iload_n 1, 1, [1], [], .null),
  (43, 28, .aaload, 1, [], [], .null),
  (44, 0, .areturn, 1, [], [], .null)]
def xc18 : List (List xIns) := [xc18_0, xc18_1]

/-- StepRings$Roads.wayOn(III)I -/
def xc19_0 : List xIns := [(0, 1, .aload_n 0, 1, [0], [], .null),
  (1, 2, .iload_n 1, 1, [1], [], .null),
  (2, 3, .invokevirtual 32, 3, [19, 571, 425, 426, 2, 0, 2], [], .null),
  (5, 4, .astore 4, 2, [4], [], .null),
  (7, 5, .iconst 0, 1, [], [], .int (0)),
  (8, 6, .istore 5, 2, [5], [], .null),
  (10, 7, .iload 5, 2, [5], [], .null),
  (12, 8, .aload_n 0, 1, [0], [], .null),
  (13, 9, .getfield 16, 3, [205, 2, 0, 1], [], .null),
  (16, 10, .getfield 36, 3, [86, 6, 0, 0], [], .null),
  (19, 11, .if_icmp .ge 88, 3, [57], [], .null),
  (22, 12, .aload_n 0, 1, [0], [], .null),
  (23, 13, .getfield 16, 3, [205, 2, 0, 1], [], .null),
  (26, 14, .iload 5, 2, [5], [], .null),
  (28, 15, .iload_n 2, 1, [2], [], .null),
  (29, 16, .invokevirtual 41, 3, [53, 572, 573, 574, 3, 0, 6], [], .null)]
def xc19_1 : List xIns := [(32, 17, .istore 6, 2, [6], [], .null),
  (34, 18, .iload 6, 2, [6], [], .null),
  (36, 19, .ifCond .ge 6, 3, [20], [], .null),
  (39, 20, .goto 62, 3, [55], [], .null),
  (42, 21, .aload_n 0, 1, [0], [], .null),
  (43, 22, .getfield 16, 3, [205, 2, 0, 1], [], .null),
  (46, 23, .iload 5, 2, [5], [], .null),
  (48, 24, .iload_n 1, 1, [1], [], .null),
  (49, 25, .aload_n 0, 1, [0], [], .null),
  (50, 26, .getfield 16, 3, [205, 2, 0, 1], [], .null),
  (53, 27, .getfield 45, 3, [90, 6, 1, 1], [], .null),
  (56, 28, .iload 5, 2, [5], [], .null),
  (58, 29, .iaload, 1, [], [], .null),
  (59, 30, .iload_n 2, 1, [2], [], .null),
  (60, 31, .if_icmp .ne 7, 3, [33], [], .null),
  (63, 32, .iconst 1, 1, [], [], .int (1))]
def xc19_2 : List xIns := [(64, 33, .goto 4, 3, [34], [], .null),
  (67, 34, .iconst 0, 1, [], [], .int (0)),
  (68, 35, .invokevirtual 49, 3, [54, 436, 414, 415, 4, 0, 6], [], .null),
  (71, 36, .istore 7, 2, [7], [], .null),
  (73, 37, .iload 7, 2, [7], [], .null),
  (75, 38, .aload 4, 2, [4], [], .null),
  (77, 39, .iload 6, 2, [6], [], .null),
  (79, 40, .bipush 12, 2, [], [], .int (12)),
  (81, 41, .imul, 1, [], [], .null),
  (82, 42, .iload_n 3, 1, [3], [], .null),
  (83, 43, .iadd, 1, [], [], .null),
  (84, 44, .iaload, 1, [], [], .null),
  (85, 45, .iadd, 1, [], [], .null),
  (86, 46, .aload 4, 2, [4], [], .null),
  (88, 47, .iload_n 2, 1, [2], [], .null),
  (89, 48, .bipush 12, 2, [], [], .int (12))]
def xc19_3 : List xIns := [(91, 49, .imul, 1, [], [], .null),
  (92, 50, .iload_n 3, 1, [3], [], .null),
  (93, 51, .iadd, 1, [], [], .null),
  (94, 52, .iaload, 1, [], [], .null),
  (95, 53, .if_icmp .ne 6, 3, [55], [], .null),
  (98, 54, .iload 5, 2, [5], [], .null),
  (100, 55, .ireturn, 1, [], [], .null),
  (101, 56, .iinc 5 1, 3, [5], [], .int (1)),
  (104, 57, .goto (-94), 3, [6], [], .null),
  (107, 58, .iconst (-1), 1, [], [], .int (-1)),
  (108, 0, .ireturn, 1, [], [], .null)]
def xc19 : List (List xIns) := [xc19_0, xc19_1, xc19_2, xc19_3]

/-- StepRings$Roads.layWays(I)V -/
def xc20_0 : List xIns := [(0, 1, .aload_n 0, 1, [0], [], .null),
  (1, 2, .getfield 11, 3, [206, 2, 1, 1], [], .null),
  (4, 3, .iload_n 1, 1, [1], [], .null),
  (5, 4, .aaload, 1, [], [], .null),
  (6, 5, .astore_n 2, 1, [2], [], .null),
  (7, 6, .aload_n 2, 1, [2], [], .null),
  (8, 7, .ldc 53, 2, [432], [], .int (1000000)),
  (10, 8, .invokestatic 54, 3, [173, 433, 434, 0, 2, 0], [], .null),
  (13, 9, .iconst 0, 1, [], [], .int (0)),
  (14, 10, .istore_n 3, 1, [3], [], .null),
  (15, 11, .iload_n 3, 1, [3], [], .null),
  (16, 12, .bipush 12, 2, [], [], .int (12)),
  (18, 13, .if_icmp .ge 18, 3, [23], [], .null),
  (21, 14, .aload_n 2, 1, [2], [], .null),
  (22, 15, .iload_n 3, 1, [3], [], .null),
  (23, 16, .bipush 12, 2, [], [], .int (12))]
def xc20_1 : List xIns := [(25, 17, .imul, 1, [], [], .null),
  (26, 18, .iload_n 3, 1, [3], [], .null),
  (27, 19, .iadd, 1, [], [], .null),
  (28, 20, .iconst 0, 1, [], [], .int (0)),
  (29, 21, .iastore, 1, [], [], .null),
  (30, 22, .iinc 3 1, 3, [3], [], .int (1)),
  (33, 23, .goto (-18), 3, [10], [], .null),
  (36, 24, .iconst 0, 1, [], [], .int (0)),
  (37, 25, .istore_n 3, 1, [3], [], .null),
  (38, 26, .iload_n 3, 1, [3], [], .null),
  (39, 27, .aload_n 0, 1, [0], [], .null),
  (40, 28, .getfield 16, 3, [205, 2, 0, 1], [], .null),
  (43, 29, .getfield 36, 3, [86, 6, 0, 0], [], .null),
  (46, 30, .if_icmp .ge 99, 3, [86], [], .null),
  (49, 31, .aload_n 0, 1, [0], [], .null),
  (50, 32, .getfield 16, 3, [205, 2, 0, 1], [], .null)]
def xc20_2 : List xIns := [(53, 33, .getfield 45, 3, [90, 6, 1, 1], [], .null),
  (56, 34, .iload_n 3, 1, [3], [], .null),
  (57, 35, .iaload, 1, [], [], .null),
  (58, 36, .bipush 12, 2, [], [], .int (12)),
  (60, 37, .imul, 1, [], [], .null),
  (61, 38, .aload_n 0, 1, [0], [], .null),
  (62, 39, .getfield 16, 3, [205, 2, 0, 1], [], .null),
  (65, 40, .getfield 60, 3, [95, 6, 2, 1], [], .null),
  (68, 41, .iload_n 3, 1, [3], [], .null),
  (69, 42, .iaload, 1, [], [], .null),
  (70, 43, .iadd, 1, [], [], .null),
  (71, 44, .istore 4, 2, [4], [], .null),
  (73, 45, .aload_n 0, 1, [0], [], .null),
  (74, 46, .getfield 16, 3, [205, 2, 0, 1], [], .null),
  (77, 47, .getfield 60, 3, [95, 6, 2, 1], [], .null),
  (80, 48, .iload_n 3, 1, [3], [], .null)]
def xc20_3 : List xIns := [(81, 49, .iaload, 1, [], [], .null),
  (82, 50, .bipush 12, 2, [], [], .int (12)),
  (84, 51, .imul, 1, [], [], .null),
  (85, 52, .aload_n 0, 1, [0], [], .null),
  (86, 53, .getfield 16, 3, [205, 2, 0, 1], [], .null),
  (89, 54, .getfield 45, 3, [90, 6, 1, 1], [], .null),
  (92, 55, .iload_n 3, 1, [3], [], .null),
  (93, 56, .iaload, 1, [], [], .null),
  (94, 57, .iadd, 1, [], [], .null),
  (95, 58, .istore 5, 2, [5], [], .null),
  (97, 59, .aload_n 2, 1, [2], [], .null),
  (98, 60, .iload 4, 2, [4], [], .null),
  (100, 61, .aload_n 2, 1, [2], [], .null),
  (101, 62, .iload 4, 2, [4], [], .null),
  (103, 63, .iaload, 1, [], [], .null),
  (104, 64, .aload_n 0, 1, [0], [], .null)]
def xc20_4 : List xIns := [(105, 65, .getfield 16, 3, [205, 2, 0, 1], [], .null),
  (108, 66, .iload_n 3, 1, [3], [], .null),
  (109, 67, .iload_n 1, 1, [1], [], .null),
  (110, 68, .iconst 1, 1, [], [], .int (1)),
  (111, 69, .invokevirtual 49, 3, [54, 436, 414, 415, 4, 0, 6], [], .null),
  (114, 70, .invokestatic 63, 3, [0, 437, 2], [], .null),
  (117, 71, .iastore, 1, [], [], .null),
  (118, 72, .aload_n 2, 1, [2], [], .null),
  (119, 73, .iload 5, 2, [5], [], .null),
  (121, 74, .aload_n 2, 1, [2], [], .null),
  (122, 75, .iload 5, 2, [5], [], .null),
  (124, 76, .iaload, 1, [], [], .null),
  (125, 77, .aload_n 0, 1, [0], [], .null),
  (126, 78, .getfield 16, 3, [205, 2, 0, 1], [], .null),
  (129, 79, .iload_n 3, 1, [3], [], .null),
  (130, 80, .iload_n 1, 1, [1], [], .null)]
def xc20_5 : List xIns := [(131, 81, .iconst 0, 1, [], [], .int (0)),
  (132, 82, .invokevirtual 49, 3, [54, 436, 414, 415, 4, 0, 6], [], .null),
  (135, 83, .invokestatic 63, 3, [0, 437, 2], [], .null),
  (138, 84, .iastore, 1, [], [], .null),
  (139, 85, .iinc 3 1, 3, [3], [], .int (1)),
  (142, 86, .goto (-104), 3, [25], [], .null),
  (145, 0, .return_, 1, [], [], .null)]
def xc20 : List (List xIns) := [xc20_0, xc20_1, xc20_2, xc20_3, xc20_4, xc20_5]

/-- StepRings$Roads.joinWays([I)V -/
def xc21_0 : List xIns := [(0, 1, .iconst 0, 1, [], [], .int (0)),
  (1, 2, .istore_n 2, 1, [2], [], .null),
  (2, 3, .iload_n 2, 1, [2], [], .null),
  (3, 4, .bipush 12, 2, [], [], .int (12)),
  (5, 5, .if_icmp .ge 98, 3, [60], [], .null),
  (8, 6, .iconst 0, 1, [], [], .int (0)),
  (9, 7, .istore_n 3, 1, [3], [], .null),
  (10, 8, .iload_n 3, 1, [3], [], .null),
  (11, 9, .bipush 12, 2, [], [], .int (12)),
  (13, 10, .if_icmp .ge 84, 3, [58], [], .null),
  (16, 11, .aload_n 1, 1, [1], [], .null),
  (17, 12, .iload_n 3, 1, [3], [], .null),
  (18, 13, .bipush 12, 2, [], [], .int (12)),
  (20, 14, .imul, 1, [], [], .null),
  (21, 15, .iload_n 2, 1, [2], [], .null),
  (22, 16, .iadd, 1, [], [], .null)]
def xc21_1 : List xIns := [(23, 17, .iaload, 1, [], [], .null),
  (24, 18, .istore 4, 2, [4], [], .null),
  (26, 19, .iload 4, 2, [4], [], .null),
  (28, 20, .ldc 53, 2, [432], [], .int (1000000)),
  (30, 21, .if_icmp .lt 6, 3, [22], [], .null),
  (33, 22, .goto 58, 3, [56], [], .null),
  (36, 23, .iconst 0, 1, [], [], .int (0)),
  (37, 24, .istore 5, 2, [5], [], .null),
  (39, 25, .iload 5, 2, [5], [], .null),
  (41, 26, .bipush 12, 2, [], [], .int (12)),
  (43, 27, .if_icmp .ge 48, 3, [56], [], .null),
  (46, 28, .iload 4, 2, [4], [], .null),
  (48, 29, .aload_n 1, 1, [1], [], .null),
  (49, 30, .iload_n 2, 1, [2], [], .null),
  (50, 31, .bipush 12, 2, [], [], .int (12)),
  (52, 32, .imul, 1, [], [], .null)]
def xc21_2 : List xIns := [(53, 33, .iload 5, 2, [5], [], .null),
  (55, 34, .iadd, 1, [], [], .null),
  (56, 35, .iaload, 1, [], [], .null),
  (57, 36, .iadd, 1, [], [], .null),
  (58, 37, .istore 6, 2, [6], [], .null),
  (60, 38, .iload 6, 2, [6], [], .null),
  (62, 39, .aload_n 1, 1, [1], [], .null),
  (63, 40, .iload_n 3, 1, [3], [], .null),
  (64, 41, .bipush 12, 2, [], [], .int (12)),
  (66, 42, .imul, 1, [], [], .null),
  (67, 43, .iload 5, 2, [5], [], .null),
  (69, 44, .iadd, 1, [], [], .null),
  (70, 45, .iaload, 1, [], [], .null),
  (71, 46, .if_icmp .ge 14, 3, [54], [], .null),
  (74, 47, .aload_n 1, 1, [1], [], .null),
  (75, 48, .iload_n 3, 1, [3], [], .null)]
def xc21_3 : List xIns := [(76, 49, .bipush 12, 2, [], [], .int (12)),
  (78, 50, .imul, 1, [], [], .null),
  (79, 51, .iload 5, 2, [5], [], .null),
  (81, 52, .iadd, 1, [], [], .null),
  (82, 53, .iload 6, 2, [6], [], .null),
  (84, 54, .iastore, 1, [], [], .null),
  (85, 55, .iinc 5 1, 3, [5], [], .int (1)),
  (88, 56, .goto (-49), 3, [24], [], .null),
  (91, 57, .iinc 3 1, 3, [3], [], .int (1)),
  (94, 58, .goto (-84), 3, [7], [], .null),
  (97, 59, .iinc 2 1, 3, [2], [], .int (1)),
  (100, 60, .goto (-98), 3, [2], [], .null),
  (103, 0, .return_, 1, [], [], .null)]
def xc21 : List (List xIns) := [xc21_0, xc21_1, xc21_2, xc21_3]

/-- StepRings$Sheet.<init>()V -/
def xc22_0 : List xIns := [(0, 1, .aload_n 0, 1, [0], [], .null),
  (1, 2, .invokespecial 3, 3, [0, 310], [], .null),
  (4, 3, .aload_n 0, 1, [0], [], .null),
  (5, 4, .bipush 24, 2, [], [], .int (24)),
  (7, 5, .newarray .long, 2, [], [], .null),
  (9, 6, .putfield 9, 3, [317, 3, 3, 1], [], .null),
  (12, 0, .return_, 1, [], [], .null)]
def xc22 : List (List xIns) := [xc22_0]

/-- StepRings$Sheet.fresh(II)V -/
def xc23_0 : List xIns := [(0, 1, .aload_n 0, 1, [0], [], .null),
  (1, 2, .iconst 1, 1, [], [], .int (1)),
  (2, 3, .putfield 15, 3, [311, 3, 0, 2], [], .null),
  (5, 4, .aload_n 0, 1, [0], [], .null),
  (6, 5, .iload_n 1, 1, [1], [], .null),
  (7, 6, .putfield 19, 3, [313, 3, 1, 0], [], .null),
  (10, 7, .aload_n 0, 1, [0], [], .null),
  (11, 8, .iload_n 2, 1, [2], [], .null),
  (12, 9, .putfield 23, 3, [315, 3, 2, 0], [], .null),
  (15, 10, .aload_n 0, 1, [0], [], .null),
  (16, 11, .getfield 9, 3, [317, 3, 3, 1], [], .null),
  (19, 12, .lconst 0, 1, [], [], .long 0),
  (20, 13, .invokestatic 26, 3, [172, 762, 763, 0, 2, 0], [], .null),
  (23, 0, .return_, 1, [], [], .null)]
def xc23 : List (List xIns) := [xc23_0]

/-- StepRings$Sheet.put(IJ)V -/
def xc24_0 : List xIns := [(0, 1, .aload_n 0, 1, [0], [], .null),
  (1, 2, .getfield 9, 3, [317, 3, 3, 1], [], .null),
  (4, 3, .iload_n 1, 1, [1], [], .null),
  (5, 4, .aload_n 0, 1, [0], [], .null),
  (6, 5, .getfield 19, 3, [313, 3, 1, 0], [], .null),
  (9, 6, .ifCond .ne 10, 3, [11], [], .null),
  (12, 7, .lload_n 2, 1, [2], [], .null),
  (13, 8, .l2i, 1, [], [], .null),
  (14, 9, .i2s, 1, [], [], .null),
  (15, 10, .i2l, 1, [], [], .null),
  (16, 11, .goto 18, 3, [20], [], .null),
  (19, 12, .aload_n 0, 1, [0], [], .null),
  (20, 13, .getfield 19, 3, [313, 3, 1, 0], [], .null),
  (23, 14, .iconst 1, 1, [], [], .int (1)),
  (24, 15, .if_icmp .ne 9, 3, [19], [], .null),
  (27, 16, .lload_n 2, 1, [2], [], .null)]
def xc24_1 : List xIns := [(28, 17, .l2i, 1, [], [], .null),
  (29, 18, .i2l, 1, [], [], .null),
  (30, 19, .goto 4, 3, [20], [], .null),
  (33, 20, .lload_n 2, 1, [2], [], .null),
  (34, 21, .lastore, 1, [], [], .null),
  (35, 0, .return_, 1, [], [], .null)]
def xc24 : List (List xIns) := [xc24_0, xc24_1]

/-- StepRings$Tape.readPerson()Z -/
def xc25_0 : List xIns := [(0, 1, .aload_n 0, 1, [0], [], .null),
  (1, 2, .iconst (-1), 1, [], [], .int (-1)),
  (2, 3, .invokevirtual 67, 3, [29, 487, 489, 5, 2, 0, 4], [], .null),
  (5, 4, .istore_n 1, 1, [1], [], .null),
  (6, 5, .iload_n 1, 1, [1], [], .null),
  (7, 6, .ifCond .ge 5, 3, [8], [], .null),
  (10, 7, .iconst 0, 1, [], [], .int (0)),
  (11, 8, .ireturn, 1, [], [], .null),
  (12, 9, .aload_n 0, 1, [0], [], .null),
  (13, 10, .invokevirtual 82, 3, [30, 513, 515, 11, 1, 0, 4], [], .null),
  (16, 11, .istore_n 2, 1, [2], [], .null),
  (17, 12, .iload_n 2, 1, [2], [], .null),
  (18, 13, .ifCond .ge 5, 3, [15], [], .null),
  (21, 14, .iconst 0, 1, [], [], .int (0)),
  (22, 15, .ireturn, 1, [], [], .null),
  (23, 16, .aload_n 0, 1, [0], [], .null)]
def xc25_1 : List xIns := [(24, 17, .iconst 0, 1, [], [], .int (0)),
  (25, 18, .ldc 85, 2, [517], [], .int (99999)),
  (27, 19, .invokevirtual 74, 3, [32, 503, 505, 9, 3, 0, 4], [], .null),
  (30, 20, .istore_n 3, 1, [3], [], .null),
  (31, 21, .iload_n 3, 1, [3], [], .null),
  (32, 22, .ifCond .ge 5, 3, [24], [], .null),
  (35, 23, .iconst 0, 1, [], [], .int (0)),
  (36, 24, .ireturn, 1, [], [], .null),
  (37, 25, .aload_n 0, 1, [0], [], .null),
  (38, 26, .getfield 25, 3, [290, 4, 4, 1], [], .null),
  (41, 27, .iload_n 1, 1, [1], [], .null),
  (42, 28, .iload_n 2, 1, [2], [], .null),
  (43, 29, .iload_n 3, 1, [3], [], .null),
  (44, 30, .invokevirtual 86, 3, [9, 518, 398, 399, 4, 0, 1], [], .null),
  (47, 31, .pop, 1, [], [], .null),
  (48, 32, .iconst 1, 1, [], [], .int (1))]
def xc25_2 : List xIns := [(49, 0, .ireturn, 1, [], [], .null)]
def xc25 : List (List xIns) := [xc25_0, xc25_1, xc25_2]

/-- StepRings$Tape.look()I -/
def xc26_0 : List xIns := [(0, 1, .aload_n 0, 1, [0], [], .null),
  (1, 2, .getfield 49, 3, [286, 4, 2, 0], [], .null),
  (4, 3, .aload_n 0, 1, [0], [], .null),
  (5, 4, .getfield 37, 3, [284, 4, 1, 0], [], .null),
  (8, 5, .if_icmp .ge 30, 3, [19], [], .null),
  (11, 6, .aload_n 0, 1, [0], [], .null),
  (12, 7, .getfield 9, 3, [283, 4, 0, 1], [], .null),
  (15, 8, .aload_n 0, 1, [0], [], .null),
  (16, 9, .getfield 49, 3, [286, 4, 2, 0], [], .null),
  (19, 10, .caload, 1, [], [], .null),
  (20, 11, .bipush 32, 2, [], [], .int (32)),
  (22, 12, .if_icmp .ne 16, 3, [19], [], .null),
  (25, 13, .aload_n 0, 1, [0], [], .null),
  (26, 14, .dup, 1, [], [], .null),
  (27, 15, .getfield 49, 3, [286, 4, 2, 0], [], .null),
  (30, 16, .iconst 1, 1, [], [], .int (1))]
def xc26_1 : List xIns := [(31, 17, .iadd, 1, [], [], .null),
  (32, 18, .putfield 49, 3, [286, 4, 2, 0], [], .null),
  (35, 19, .goto (-35), 3, [0], [], .null),
  (38, 20, .aload_n 0, 1, [0], [], .null),
  (39, 21, .getfield 49, 3, [286, 4, 2, 0], [], .null),
  (42, 22, .aload_n 0, 1, [0], [], .null),
  (43, 23, .getfield 37, 3, [284, 4, 1, 0], [], .null),
  (46, 24, .if_icmp .ge 15, 3, [30], [], .null),
  (49, 25, .aload_n 0, 1, [0], [], .null),
  (50, 26, .getfield 9, 3, [283, 4, 0, 1], [], .null),
  (53, 27, .aload_n 0, 1, [0], [], .null),
  (54, 28, .getfield 49, 3, [286, 4, 2, 0], [], .null),
  (57, 29, .caload, 1, [], [], .null),
  (58, 30, .goto 4, 3, [31], [], .null),
  (61, 31, .iconst (-1), 1, [], [], .int (-1)),
  (62, 0, .ireturn, 1, [], [], .null)]
def xc26 : List (List xIns) := [xc26_0, xc26_1]

/-- StepRings$Tape.take(C)Z -/
def xc27_0 : List xIns := [(0, 1, .aload_n 0, 1, [0], [], .null),
  (1, 2, .invokevirtual 59, 3, [27, 491, 493, 6, 1, 0, 4], [], .null),
  (4, 3, .iload_n 1, 1, [1], [], .null),
  (5, 4, .if_icmp .eq 5, 3, [6], [], .null),
  (8, 5, .iconst 0, 1, [], [], .int (0)),
  (9, 6, .ireturn, 1, [], [], .null),
  (10, 7, .aload_n 0, 1, [0], [], .null),
  (11, 8, .dup, 1, [], [], .null),
  (12, 9, .getfield 49, 3, [286, 4, 2, 0], [], .null),
  (15, 10, .iconst 1, 1, [], [], .int (1)),
  (16, 11, .iadd, 1, [], [], .null),
  (17, 12, .putfield 49, 3, [286, 4, 2, 0], [], .null),
  (20, 13, .iconst 1, 1, [], [], .int (1)),
  (21, 0, .ireturn, 1, [], [], .null)]
def xc27 : List (List xIns) := [xc27_0]

/-- StepRings$Tape.readPlace(I)I -/
def xc28_0 : List xIns := [(0, 1, .aload_n 0, 1, [0], [], .null),
  (1, 2, .invokevirtual 59, 3, [27, 491, 493, 6, 1, 0, 4], [], .null),
  (4, 3, .istore_n 2, 1, [2], [], .null),
  (5, 4, .iload_n 2, 1, [2], [], .null),
  (6, 5, .bipush 97, 2, [], [], .int (97)),
  (8, 6, .if_icmp .lt 17, 3, [14], [], .null),
  (11, 7, .iload_n 2, 1, [2], [], .null),
  (12, 8, .bipush 108, 2, [], [], .int (108)),
  (14, 9, .if_icmp .gt 11, 3, [14], [], .null),
  (17, 10, .iload_n 2, 1, [2], [], .null),
  (18, 11, .bipush 97, 2, [], [], .int (97)),
  (20, 12, .isub, 1, [], [], .null),
  (21, 13, .iload_n 1, 1, [1], [], .null),
  (22, 14, .if_icmp .ne 5, 3, [16], [], .null),
  (25, 15, .iconst (-1), 1, [], [], .int (-1)),
  (26, 16, .ireturn, 1, [], [], .null)]
def xc28_1 : List xIns := [(27, 17, .aload_n 0, 1, [0], [], .null),
  (28, 18, .dup, 1, [], [], .null),
  (29, 19, .getfield 49, 3, [286, 4, 2, 0], [], .null),
  (32, 20, .iconst 1, 1, [], [], .int (1)),
  (33, 21, .iadd, 1, [], [], .null),
  (34, 22, .putfield 49, 3, [286, 4, 2, 0], [], .null),
  (37, 23, .iload_n 2, 1, [2], [], .null),
  (38, 24, .bipush 97, 2, [], [], .int (97)),
  (40, 25, .isub, 1, [], [], .null),
  (41, 0, .ireturn, 1, [], [], .null)]
def xc28 : List (List xIns) := [xc28_0, xc28_1]

/-- StepRings$Tape.readKind()I -/
def xc29_0 : List xIns := [(0, 1, .aload_n 0, 1, [0], [], .null),
  (1, 2, .bipush 103, 2, [], [], .int (103)),
  (3, 3, .invokevirtual 63, 3, [28, 495, 497, 7, 2, 0, 4], [], .null),
  (6, 4, .ifCond .eq 5, 3, [6], [], .null),
  (9, 5, .iconst 0, 1, [], [], .int (0)),
  (10, 6, .ireturn, 1, [], [], .null),
  (11, 7, .aload_n 0, 1, [0], [], .null),
  (12, 8, .bipush 99, 2, [], [], .int (99)),
  (14, 9, .invokevirtual 63, 3, [28, 495, 497, 7, 2, 0, 4], [], .null),
  (17, 10, .ifCond .eq 5, 3, [12], [], .null),
  (20, 11, .iconst 1, 1, [], [], .int (1)),
  (21, 12, .ireturn, 1, [], [], .null),
  (22, 13, .aload_n 0, 1, [0], [], .null),
  (23, 14, .bipush 111, 2, [], [], .int (111)),
  (25, 15, .invokevirtual 63, 3, [28, 495, 497, 7, 2, 0, 4], [], .null),
  (28, 16, .ifCond .eq 5, 3, [18], [], .null)]
def xc29_1 : List xIns := [(31, 17, .iconst 2, 1, [], [], .int (2)),
  (32, 18, .ireturn, 1, [], [], .null),
  (33, 19, .aload_n 0, 1, [0], [], .null),
  (34, 20, .bipush 112, 2, [], [], .int (112)),
  (36, 21, .invokevirtual 63, 3, [28, 495, 497, 7, 2, 0, 4], [], .null),
  (39, 22, .ifCond .eq 7, 3, [24], [], .null),
  (42, 23, .iconst 3, 1, [], [], .int (3)),
  (43, 24, .goto 4, 3, [25], [], .null),
  (46, 25, .iconst (-1), 1, [], [], .int (-1)),
  (47, 0, .ireturn, 1, [], [], .null)]
def xc29 : List (List xIns) := [xc29_0, xc29_1]

/-- StepRings$Tape.readDigit()I -/
def xc30_0 : List xIns := [(0, 1, .aload_n 0, 1, [0], [], .null),
  (1, 2, .invokevirtual 59, 3, [27, 491, 493, 6, 1, 0, 4], [], .null),
  (4, 3, .istore_n 1, 1, [1], [], .null),
  (5, 4, .iload_n 1, 1, [1], [], .null),
  (6, 5, .bipush 48, 2, [], [], .int (48)),
  (8, 6, .if_icmp .lt 9, 3, [9], [], .null),
  (11, 7, .iload_n 1, 1, [1], [], .null),
  (12, 8, .bipush 57, 2, [], [], .int (57)),
  (14, 9, .if_icmp .le 5, 3, [11], [], .null),
  (17, 10, .iconst (-1), 1, [], [], .int (-1)),
  (18, 11, .ireturn, 1, [], [], .null),
  (19, 12, .aload_n 0, 1, [0], [], .null),
  (20, 13, .dup, 1, [], [], .null),
  (21, 14, .getfield 49, 3, [286, 4, 2, 0], [], .null),
  (24, 15, .iconst 1, 1, [], [], .int (1)),
  (25, 16, .iadd, 1, [], [], .null)]
def xc30_1 : List xIns := [(26, 17, .putfield 49, 3, [286, 4, 2, 0], [], .null),
  (29, 18, .iload_n 1, 1, [1], [], .null),
  (30, 19, .bipush 48, 2, [], [], .int (48)),
  (32, 20, .isub, 1, [], [], .null),
  (33, 0, .ireturn, 1, [], [], .null)]
def xc30 : List (List xIns) := [xc30_0, xc30_1]

/-- StepRings$Tape.readNumber(II)I -/
def xc31_0 : List xIns := [(0, 1, .aload_n 0, 1, [0], [], .null),
  (1, 2, .invokevirtual 71, 3, [31, 499, 501, 8, 1, 0, 4], [], .null),
  (4, 3, .istore_n 3, 1, [3], [], .null),
  (5, 4, .iload_n 3, 1, [3], [], .null),
  (6, 5, .ifCond .ge 5, 3, [7], [], .null),
  (9, 6, .iconst (-1), 1, [], [], .int (-1)),
  (10, 7, .ireturn, 1, [], [], .null),
  (11, 8, .aload_n 0, 1, [0], [], .null),
  (12, 9, .getfield 49, 3, [286, 4, 2, 0], [], .null),
  (15, 10, .iconst 1, 1, [], [], .int (1)),
  (16, 11, .isub, 1, [], [], .null),
  (17, 12, .istore 4, 2, [4], [], .null),
  (19, 13, .aload_n 0, 1, [0], [], .null),
  (20, 14, .getfield 49, 3, [286, 4, 2, 0], [], .null),
  (23, 15, .aload_n 0, 1, [0], [], .null),
  (24, 16, .getfield 37, 3, [284, 4, 1, 0], [], .null)]
def xc31_1 : List xIns := [(27, 17, .if_icmp .ge 68, 3, [54], [], .null),
  (30, 18, .aload_n 0, 1, [0], [], .null),
  (31, 19, .getfield 9, 3, [283, 4, 0, 1], [], .null),
  (34, 20, .aload_n 0, 1, [0], [], .null),
  (35, 21, .getfield 49, 3, [286, 4, 2, 0], [], .null),
  (38, 22, .caload, 1, [], [], .null),
  (39, 23, .bipush 48, 2, [], [], .int (48)),
  (41, 24, .if_icmp .lt 54, 3, [54], [], .null),
  (44, 25, .aload_n 0, 1, [0], [], .null),
  (45, 26, .getfield 9, 3, [283, 4, 0, 1], [], .null),
  (48, 27, .aload_n 0, 1, [0], [], .null),
  (49, 28, .getfield 49, 3, [286, 4, 2, 0], [], .null),
  (52, 29, .caload, 1, [], [], .null),
  (53, 30, .bipush 57, 2, [], [], .int (57)),
  (55, 31, .if_icmp .gt 40, 3, [54], [], .null),
  (58, 32, .iload_n 2, 1, [2], [], .null)]
def xc31_2 : List xIns := [(59, 33, .iconst 1, 1, [], [], .int (1)),
  (60, 34, .iadd, 1, [], [], .null),
  (61, 35, .iload_n 3, 1, [3], [], .null),
  (62, 36, .bipush 10, 2, [], [], .int (10)),
  (64, 37, .imul, 1, [], [], .null),
  (65, 38, .aload_n 0, 1, [0], [], .null),
  (66, 39, .getfield 9, 3, [283, 4, 0, 1], [], .null),
  (69, 40, .aload_n 0, 1, [0], [], .null),
  (70, 41, .getfield 49, 3, [286, 4, 2, 0], [], .null),
  (73, 42, .caload, 1, [], [], .null),
  (74, 43, .iadd, 1, [], [], .null),
  (75, 44, .bipush 48, 2, [], [], .int (48)),
  (77, 45, .isub, 1, [], [], .null),
  (78, 46, .invokestatic 89, 3, [0, 507, 2], [], .null),
  (81, 47, .istore_n 3, 1, [3], [], .null),
  (82, 48, .aload_n 0, 1, [0], [], .null)]
def xc31_3 : List xIns := [(83, 49, .dup, 1, [], [], .null),
  (84, 50, .getfield 49, 3, [286, 4, 2, 0], [], .null),
  (87, 51, .iconst 1, 1, [], [], .int (1)),
  (88, 52, .iadd, 1, [], [], .null),
  (89, 53, .putfield 49, 3, [286, 4, 2, 0], [], .null),
  (92, 54, .goto (-73), 3, [12], [], .null),
  (95, 55, .iload_n 3, 1, [3], [], .null),
  (96, 56, .iload_n 1, 1, [1], [], .null),
  (97, 57, .iload_n 2, 1, [2], [], .null),
  (98, 58, .invokestatic 33, 3, [90, 466, 365, 0, 3, 1], [], .null),
  (101, 59, .ifCond .ne 11, 3, [64], [], .null),
  (104, 60, .aload_n 0, 1, [0], [], .null),
  (105, 61, .iload 4, 2, [4], [], .null),
  (107, 62, .putfield 49, 3, [286, 4, 2, 0], [], .null),
  (110, 63, .iconst (-1), 1, [], [], .int (-1)),
  (111, 64, .ireturn, 1, [], [], .null)]
def xc31_4 : List xIns := [(112, 65, .iload_n 3, 1, [3], [], .null),
  (113, 0, .ireturn, 1, [], [], .null)]
def xc31 : List (List xIns) := [xc31_0, xc31_1, xc31_2, xc31_3, xc31_4]

/-- StepRings$Tape.<init>()V -/
def xc32_0 : List xIns := [(0, 1, .aload_n 0, 1, [0], [], .null),
  (1, 2, .invokespecial 3, 3, [0, 278], [], .null),
  (4, 3, .aload_n 0, 1, [0], [], .null),
  (5, 4, .sipush 160, 3, [], [], .int (160)),
  (8, 5, .newarray .char, 2, [], [], .null),
  (10, 6, .putfield 9, 3, [283, 4, 0, 1], [], .null),
  (13, 7, .aload_n 0, 1, [0], [], .null),
  (14, 8, .new 15, 3, [279, 6, 6, 78], [], .null),
  (17, 9, .dup, 1, [], [], .null),
  (18, 10, .invokespecial 17, 3, [50, 280, 80, 0, 1, 1], [], .null),
  (21, 11, .putfield 18, 3, [288, 4, 3, 1], [], .null),
  (24, 12, .aload_n 0, 1, [0], [], .null),
  (25, 13, .new 22, 3, [281, 1, 9, 117], [], .null),
  (28, 14, .dup, 1, [], [], .null),
  (29, 15, .invokespecial 24, 3, [8, 282, 119, 0, 1, 1], [], .null),
  (32, 16, .putfield 25, 3, [290, 4, 4, 1], [], .null)]
def xc32_1 : List xIns := [(35, 0, .return_, 1, [], [], .null)]
def xc32 : List (List xIns) := [xc32_0, xc32_1]

/-- StepRings$Tape.canHold(JI)Z -/
def xc33_0 : List xIns := [(0, 1, .iconst 0, 1, [], [], .int (0)),
  (1, 2, .istore_n 3, 1, [3], [], .null),
  (2, 3, .iload_n 3, 1, [3], [], .null),
  (3, 4, .iload_n 2, 1, [2], [], .null),
  (4, 5, .if_icmp .ge 26, 3, [16], [], .null),
  (7, 6, .lload_n 0, 1, [0], [], .null),
  (8, 7, .iload_n 3, 1, [3], [], .null),
  (9, 8, .invokestatic 29, 3, [35, 463, 464, 0, 2, 0], [], .null),
  (12, 9, .bipush 32, 2, [], [], .int (32)),
  (14, 10, .bipush 126, 2, [], [], .int (126)),
  (16, 11, .invokestatic 33, 3, [90, 466, 365, 0, 3, 1], [], .null),
  (19, 12, .ifCond .ne 5, 3, [14], [], .null),
  (22, 13, .iconst 0, 1, [], [], .int (0)),
  (23, 14, .ireturn, 1, [], [], .null),
  (24, 15, .iinc 3 1, 3, [3], [], .int (1)),
  (27, 16, .goto (-25), 3, [2], [], .null)]
def xc33_1 : List xIns := [(30, 17, .iconst 1, 1, [], [], .int (1)),
  (31, 0, .ireturn, 1, [], [], .null)]
def xc33 : List (List xIns) := [xc33_0, xc33_1]

/-- StepRings$Tape.byteOf(JI)I -/
def xc34_0 : List xIns := [(0, 1, .lload_n 0, 1, [0], [], .null),
  (1, 2, .bipush 8, 2, [], [], .int (8)),
  (3, 3, .iload_n 2, 1, [2], [], .null),
  (4, 4, .imul, 1, [], [], .null),
  (5, 5, .lshr, 1, [], [], .null),
  (6, 6, .l2i, 1, [], [], .null),
  (7, 7, .sipush 255, 3, [], [], .int (255)),
  (10, 8, .iand, 1, [], [], .null),
  (11, 0, .ireturn, 1, [], [], .null)]
def xc34 : List (List xIns) := [xc34_0]

/-- StepRings$Tape.append(JI)I -/
def xc35_0 : List xIns := [(0, 1, .iload_n 3, 1, [3], [], .null),
  (1, 2, .iconst 1, 1, [], [], .int (1)),
  (2, 3, .isub, 1, [], [], .null),
  (3, 4, .istore 4, 2, [4], [], .null),
  (5, 5, .iload 4, 2, [4], [], .null),
  (7, 6, .ifCond .lt 35, 3, [23], [], .null),
  (10, 7, .aload_n 0, 1, [0], [], .null),
  (11, 8, .getfield 9, 3, [283, 4, 0, 1], [], .null),
  (14, 9, .aload_n 0, 1, [0], [], .null),
  (15, 10, .getfield 37, 3, [284, 4, 1, 0], [], .null),
  (18, 11, .lload_n 1, 1, [1], [], .null),
  (19, 12, .iload 4, 2, [4], [], .null),
  (21, 13, .invokestatic 29, 3, [35, 463, 464, 0, 2, 0], [], .null),
  (24, 14, .i2c, 1, [], [], .null),
  (25, 15, .castore, 1, [], [], .null),
  (26, 16, .aload_n 0, 1, [0], [], .null)]
def xc35_1 : List xIns := [(27, 17, .dup, 1, [], [], .null),
  (28, 18, .getfield 37, 3, [284, 4, 1, 0], [], .null),
  (31, 19, .iconst 1, 1, [], [], .int (1)),
  (32, 20, .iadd, 1, [], [], .null),
  (33, 21, .putfield 37, 3, [284, 4, 1, 0], [], .null),
  (36, 22, .iinc 4 (-1), 3, [4], [], .int (-1)),
  (39, 23, .goto (-34), 3, [4], [], .null),
  (42, 24, .aload_n 0, 1, [0], [], .null),
  (43, 25, .getfield 37, 3, [284, 4, 1, 0], [], .null),
  (46, 0, .ireturn, 1, [], [], .null)]
def xc35 : List (List xIns) := [xc35_0, xc35_1]

/-- StepRings$Tape.empty()V -/
def xc36_0 : List xIns := [(0, 1, .aload_n 0, 1, [0], [], .null),
  (1, 2, .iconst 0, 1, [], [], .int (0)),
  (2, 3, .putfield 37, 3, [284, 4, 1, 0], [], .null),
  (5, 0, .return_, 1, [], [], .null)]
def xc36 : List (List xIns) := [xc36_0]

/-- StepRings$Tape.readTown()Z -/
def xc37_0 : List xIns := [(0, 1, .aload_n 0, 1, [0], [], .null),
  (1, 2, .getfield 18, 3, [288, 4, 3, 1], [], .null),
  (4, 3, .iconst 0, 1, [], [], .int (0)),
  (5, 4, .putfield 41, 3, [87, 6, 0, 0], [], .null),
  (8, 5, .aload_n 0, 1, [0], [], .null),
  (9, 6, .iconst 1, 1, [], [], .int (1)),
  (10, 7, .bipush 24, 2, [], [], .int (24)),
  (12, 8, .invokevirtual 44, 3, [40, 479, 481, 3, 3, 0, 4], [], .null),
  (15, 0, .ireturn, 1, [], [], .null)]
def xc37 : List (List xIns) := [xc37_0]

/-- StepRings$Tape.readPeople()Z -/
def xc38_0 : List xIns := [(0, 1, .aload_n 0, 1, [0], [], .null),
  (1, 2, .getfield 25, 3, [290, 4, 4, 1], [], .null),
  (4, 3, .iconst 0, 1, [], [], .int (0)),
  (5, 4, .putfield 48, 3, [126, 1, 0, 0], [], .null),
  (8, 5, .aload_n 0, 1, [0], [], .null),
  (9, 6, .iconst 0, 1, [], [], .int (0)),
  (10, 7, .bipush 8, 2, [], [], .int (8)),
  (12, 8, .invokevirtual 44, 3, [40, 479, 481, 3, 3, 0, 4], [], .null),
  (15, 0, .ireturn, 1, [], [], .null)]
def xc38 : List (List xIns) := [xc38_0]

/-- StepRings$Tape.readRow(ZI)Z -/
def xc39_0 : List xIns := [(0, 1, .aload_n 0, 1, [0], [], .null),
  (1, 2, .iconst 0, 1, [], [], .int (0)),
  (2, 3, .putfield 49, 3, [286, 4, 2, 0], [], .null),
  (5, 4, .iload_n 2, 1, [2], [], .null),
  (6, 5, .istore_n 3, 1, [3], [], .null),
  (7, 6, .iload_n 3, 1, [3], [], .null),
  (8, 7, .ifCond .le 59, 3, [36], [], .null),
  (11, 8, .iload_n 1, 1, [1], [], .null),
  (12, 9, .ifCond .eq 10, 3, [12], [], .null),
  (15, 10, .aload_n 0, 1, [0], [], .null),
  (16, 11, .invokevirtual 52, 3, [41, 483, 485, 4, 1, 0, 4], [], .null),
  (19, 12, .goto 7, 3, [14], [], .null),
  (22, 13, .aload_n 0, 1, [0], [], .null),
  (23, 14, .invokevirtual 56, 3, [26, 509, 511, 10, 1, 0, 4], [], .null),
  (26, 15, .istore 4, 2, [4], [], .null),
  (28, 16, .iload 4, 2, [4], [], .null)]
def xc39_1 : List xIns := [(30, 17, .ifCond .ne 5, 3, [19], [], .null),
  (33, 18, .iconst 0, 1, [], [], .int (0)),
  (34, 19, .ireturn, 1, [], [], .null),
  (35, 20, .aload_n 0, 1, [0], [], .null),
  (36, 21, .invokevirtual 59, 3, [27, 491, 493, 6, 1, 0, 4], [], .null),
  (39, 22, .iconst (-1), 1, [], [], .int (-1)),
  (40, 23, .if_icmp .ne 5, 3, [25], [], .null),
  (43, 24, .iconst 1, 1, [], [], .int (1)),
  (44, 25, .ireturn, 1, [], [], .null),
  (45, 26, .iload_n 3, 1, [3], [], .null),
  (46, 27, .iconst 1, 1, [], [], .int (1)),
  (47, 28, .if_icmp .eq 12, 3, [32], [], .null),
  (50, 29, .aload_n 0, 1, [0], [], .null),
  (51, 30, .bipush 44, 2, [], [], .int (44)),
  (53, 31, .invokevirtual 63, 3, [28, 495, 497, 7, 2, 0, 4], [], .null),
  (56, 32, .ifCond .ne 5, 3, [34], [], .null)]
def xc39_2 : List xIns := [(59, 33, .iconst 0, 1, [], [], .int (0)),
  (60, 34, .ireturn, 1, [], [], .null),
  (61, 35, .iinc 3 (-1), 3, [3], [], .int (-1)),
  (64, 36, .goto (-57), 3, [5], [], .null),
  (67, 37, .iconst 0, 1, [], [], .int (0)),
  (68, 0, .ireturn, 1, [], [], .null)]
def xc39 : List (List xIns) := [xc39_0, xc39_1, xc39_2]

/-- StepRings$Tape.readWay()Z -/
def xc40_0 : List xIns := [(0, 1, .aload_n 0, 1, [0], [], .null),
  (1, 2, .iconst (-1), 1, [], [], .int (-1)),
  (2, 3, .invokevirtual 67, 3, [29, 487, 489, 5, 2, 0, 4], [], .null),
  (5, 4, .istore_n 1, 1, [1], [], .null),
  (6, 5, .iload_n 1, 1, [1], [], .null),
  (7, 6, .ifCond .ge 5, 3, [8], [], .null),
  (10, 7, .iconst 0, 1, [], [], .int (0)),
  (11, 8, .ireturn, 1, [], [], .null),
  (12, 9, .aload_n 0, 1, [0], [], .null),
  (13, 10, .bipush 43, 2, [], [], .int (43)),
  (15, 11, .invokevirtual 63, 3, [28, 495, 497, 7, 2, 0, 4], [], .null),
  (18, 12, .ifCond .eq 7, 3, [14], [], .null),
  (21, 13, .iconst 1, 1, [], [], .int (1)),
  (22, 14, .goto 17, 3, [21], [], .null),
  (25, 15, .aload_n 0, 1, [0], [], .null),
  (26, 16, .bipush 45, 2, [], [], .int (45))]
def xc40_1 : List xIns := [(28, 17, .invokevirtual 63, 3, [28, 495, 497, 7, 2, 0, 4], [], .null),
  (31, 18, .ifCond .eq 7, 3, [20], [], .null),
  (34, 19, .iconst (-1), 1, [], [], .int (-1)),
  (35, 20, .goto 4, 3, [21], [], .null),
  (38, 21, .iconst 0, 1, [], [], .int (0)),
  (39, 22, .istore_n 2, 1, [2], [], .null),
  (40, 23, .iconst 0, 1, [], [], .int (0)),
  (41, 24, .istore_n 3, 1, [3], [], .null),
  (42, 25, .iload_n 2, 1, [2], [], .null),
  (43, 26, .ifCond .eq 14, 3, [33], [], .null),
  (46, 27, .aload_n 0, 1, [0], [], .null),
  (47, 28, .invokevirtual 71, 3, [31, 499, 501, 8, 1, 0, 4], [], .null),
  (50, 29, .istore_n 3, 1, [3], [], .null),
  (51, 30, .iload_n 3, 1, [3], [], .null),
  (52, 31, .ifCond .ge 5, 3, [33], [], .null),
  (55, 32, .iconst 0, 1, [], [], .int (0))]
def xc40_2 : List xIns := [(56, 33, .ireturn, 1, [], [], .null),
  (57, 34, .aload_n 0, 1, [0], [], .null),
  (58, 35, .iload_n 1, 1, [1], [], .null),
  (59, 36, .invokevirtual 67, 3, [29, 487, 489, 5, 2, 0, 4], [], .null),
  (62, 37, .istore 4, 2, [4], [], .null),
  (64, 38, .iload 4, 2, [4], [], .null),
  (66, 39, .ifCond .ge 5, 3, [41], [], .null),
  (69, 40, .iconst 0, 1, [], [], .int (0)),
  (70, 41, .ireturn, 1, [], [], .null),
  (71, 42, .aload_n 0, 1, [0], [], .null),
  (72, 43, .iconst 1, 1, [], [], .int (1)),
  (73, 44, .bipush 99, 2, [], [], .int (99)),
  (75, 45, .invokevirtual 74, 3, [32, 503, 505, 9, 3, 0, 4], [], .null),
  (78, 46, .istore 5, 2, [5], [], .null),
  (80, 47, .iload 5, 2, [5], [], .null),
  (82, 48, .ifCond .ge 5, 3, [50], [], .null)]
def xc40_3 : List xIns := [(85, 49, .iconst 0, 1, [], [], .int (0)),
  (86, 50, .ireturn, 1, [], [], .null),
  (87, 51, .aload_n 0, 1, [0], [], .null),
  (88, 52, .getfield 18, 3, [288, 4, 3, 1], [], .null),
  (91, 53, .iload_n 1, 1, [1], [], .null),
  (92, 54, .iload 4, 2, [4], [], .null),
  (94, 55, .iload 5, 2, [5], [], .null),
  (96, 56, .iload_n 2, 1, [2], [], .null),
  (97, 57, .iload_n 3, 1, [3], [], .null),
  (98, 58, .imul, 1, [], [], .null),
  (99, 59, .aload_n 0, 1, [0], [], .null),
  (100, 60, .bipush 103, 2, [], [], .int (103)),
  (102, 61, .invokevirtual 63, 3, [28, 495, 497, 7, 2, 0, 4], [], .null),
  (105, 62, .ifCond .eq 7, 3, [64], [], .null),
  (108, 63, .iconst 1, 1, [], [], .int (1)),
  (109, 64, .goto 4, 3, [65], [], .null)]
def xc40_4 : List xIns := [(112, 65, .iconst 0, 1, [], [], .int (0)),
  (113, 66, .invokevirtual 78, 3, [52, 508, 368, 369, 6, 0, 6], [], .null),
  (116, 67, .pop, 1, [], [], .null),
  (117, 68, .iconst 1, 1, [], [], .int (1)),
  (118, 0, .ireturn, 1, [], [], .null)]
def xc40 : List (List xIns) := [xc40_0, xc40_1, xc40_2, xc40_3, xc40_4]

/-- StepRings$Tours.<init>(LStepRings$World;LStepRings$Roads;)V -/
def xc41_0 : List xIns := [(0, 1, .aload_n 0, 1, [0], [], .null),
  (1, 2, .invokespecial 3, 3, [0, 220], [], .null),
  (4, 3, .aload_n 0, 1, [0], [], .null),
  (5, 4, .sipush 384, 3, [], [], .int (384)),
  (8, 5, .newarray .int, 2, [], [], .null),
  (10, 6, .putfield 9, 3, [223, 5, 2, 1], [], .null),
  (13, 7, .aload_n 0, 1, [0], [], .null),
  (14, 8, .bipush 64, 2, [], [], .int (64)),
  (16, 9, .newarray .int, 2, [], [], .null),
  (18, 10, .putfield 15, 3, [224, 5, 3, 1], [], .null),
  (21, 11, .aload_n 0, 1, [0], [], .null),
  (22, 12, .bipush 64, 2, [], [], .int (64)),
  (24, 13, .newarray .int, 2, [], [], .null),
  (26, 14, .putfield 18, 3, [225, 5, 4, 1], [], .null),
  (29, 15, .aload_n 0, 1, [0], [], .null),
  (30, 16, .aload_n 1, 1, [1], [], .null)]
def xc41_1 : List xIns := [(31, 17, .putfield 21, 3, [221, 5, 0, 1], [], .null),
  (34, 18, .aload_n 0, 1, [0], [], .null),
  (35, 19, .aload_n 2, 1, [2], [], .null),
  (36, 20, .putfield 25, 3, [222, 5, 1, 1], [], .null),
  (39, 0, .return_, 1, [], [], .null)]
def xc41 : List (List xIns) := [xc41_0, xc41_1]

/-- StepRings$Tours.weigh(I)I -/
def xc42_0 : List xIns := [(0, 1, .aload_n 0, 1, [0], [], .null),
  (1, 2, .getfield 25, 3, [222, 5, 1, 1], [], .null),
  (4, 3, .aload_n 0, 1, [0], [], .null),
  (5, 4, .getfield 21, 3, [221, 5, 0, 1], [], .null),
  (8, 5, .getfield 29, 3, [169, 8, 1, 1], [], .null),
  (11, 6, .getfield 35, 3, [132, 1, 2, 1], [], .null),
  (14, 7, .iload_n 1, 1, [1], [], .null),
  (15, 8, .iaload, 1, [], [], .null),
  (16, 9, .invokevirtual 40, 3, [19, 649, 425, 426, 2, 0, 2], [], .null),
  (19, 10, .astore_n 2, 1, [2], [], .null),
  (20, 11, .aload_n 0, 1, [0], [], .null),
  (21, 12, .getfield 21, 3, [221, 5, 0, 1], [], .null),
  (24, 13, .getfield 29, 3, [169, 8, 1, 1], [], .null),
  (27, 14, .getfield 46, 3, [128, 1, 1, 1], [], .null),
  (30, 15, .iload_n 1, 1, [1], [], .null),
  (31, 16, .iaload, 1, [], [], .null)]
def xc42_1 : List xIns := [(32, 17, .istore_n 3, 1, [3], [], .null),
  (33, 18, .iconst 1, 1, [], [], .int (1)),
  (34, 19, .aload_n 0, 1, [0], [], .null),
  (35, 20, .getfield 21, 3, [221, 5, 0, 1], [], .null),
  (38, 21, .getfield 49, 3, [171, 8, 2, 0], [], .null),
  (41, 22, .ishl, 1, [], [], .null),
  (42, 23, .istore 4, 2, [4], [], .null),
  (44, 24, .iconst 0, 1, [], [], .int (0)),
  (45, 25, .istore 5, 2, [5], [], .null),
  (47, 26, .iload 5, 2, [5], [], .null),
  (49, 27, .iload 4, 2, [4], [], .null),
  (51, 28, .if_icmp .ge 98, 3, [78], [], .null),
  (54, 29, .iconst 0, 1, [], [], .int (0)),
  (55, 30, .istore 6, 2, [6], [], .null),
  (57, 31, .iload 6, 2, [6], [], .null),
  (59, 32, .aload_n 0, 1, [0], [], .null)]
def xc42_2 : List xIns := [(60, 33, .getfield 21, 3, [221, 5, 0, 1], [], .null),
  (63, 34, .getfield 49, 3, [171, 8, 2, 0], [], .null),
  (66, 35, .if_icmp .ge 50, 3, [61], [], .null),
  (69, 36, .iload 5, 2, [5], [], .null),
  (71, 37, .iload 6, 2, [6], [], .null),
  (73, 38, .ishr, 1, [], [], .null),
  (74, 39, .iconst 1, 1, [], [], .int (1)),
  (75, 40, .iand, 1, [], [], .null),
  (76, 41, .ifCond .ne 34, 3, [59], [], .null),
  (79, 42, .aload_n 0, 1, [0], [], .null),
  (80, 43, .getfield 9, 3, [223, 5, 2, 1], [], .null),
  (83, 44, .iload 5, 2, [5], [], .null),
  (85, 45, .bipush 6, 2, [], [], .int (6)),
  (87, 46, .imul, 1, [], [], .null),
  (88, 47, .iload 6, 2, [6], [], .null),
  (90, 48, .iadd, 1, [], [], .null)]
def xc42_3 : List xIns := [(91, 49, .aload_n 0, 1, [0], [], .null),
  (92, 50, .iload 5, 2, [5], [], .null),
  (94, 51, .aload_n 2, 1, [2], [], .null),
  (95, 52, .aload_n 0, 1, [0], [], .null),
  (96, 53, .getfield 21, 3, [221, 5, 0, 1], [], .null),
  (99, 54, .getfield 53, 3, [174, 8, 3, 1], [], .null),
  (102, 55, .iload 6, 2, [6], [], .null),
  (104, 56, .iaload, 1, [], [], .null),
  (105, 57, .iload_n 3, 1, [3], [], .null),
  (106, 58, .invokevirtual 56, 3, [47, 650, 652, 15, 5, 0, 5], [], .null),
  (109, 59, .iastore, 1, [], [], .null),
  (110, 60, .iinc 6 1, 3, [6], [], .int (1)),
  (113, 61, .goto (-56), 3, [30], [], .null),
  (116, 62, .aload_n 0, 1, [0], [], .null),
  (117, 63, .getfield 15, 3, [224, 5, 3, 1], [], .null),
  (120, 64, .iload 5, 2, [5], [], .null)]
def xc42_4 : List xIns := [(122, 65, .aload_n 0, 1, [0], [], .null),
  (123, 66, .iload 5, 2, [5], [], .null),
  (125, 67, .aload_n 2, 1, [2], [], .null),
  (126, 68, .aload_n 0, 1, [0], [], .null),
  (127, 69, .getfield 21, 3, [221, 5, 0, 1], [], .null),
  (130, 70, .getfield 29, 3, [169, 8, 1, 1], [], .null),
  (133, 71, .getfield 60, 3, [138, 1, 4, 1], [], .null),
  (136, 72, .iload_n 1, 1, [1], [], .null),
  (137, 73, .iaload, 1, [], [], .null),
  (138, 74, .iload_n 3, 1, [3], [], .null),
  (139, 75, .invokevirtual 56, 3, [47, 650, 652, 15, 5, 0, 5], [], .null),
  (142, 76, .iastore, 1, [], [], .null),
  (143, 77, .iinc 5 1, 3, [5], [], .int (1)),
  (146, 78, .goto (-99), 3, [25], [], .null),
  (149, 79, .aload_n 0, 1, [0], [], .null),
  (150, 80, .getfield 15, 3, [224, 5, 3, 1], [], .null)]
def xc42_5 : List xIns := [(153, 81, .iload 4, 2, [4], [], .null),
  (155, 82, .iconst 1, 1, [], [], .int (1)),
  (156, 83, .isub, 1, [], [], .null),
  (157, 84, .iaload, 1, [], [], .null),
  (158, 0, .ireturn, 1, [], [], .null)]
def xc42 : List (List xIns) := [xc42_0, xc42_1, xc42_2, xc42_3, xc42_4, xc42_5]

/-- StepRings$Tours.errandAt(II)I -/
def xc43_0 : List xIns := [(0, 1, .aload_n 0, 1, [0], [], .null),
  (1, 2, .getfield 25, 3, [222, 5, 1, 1], [], .null),
  (4, 3, .aload_n 0, 1, [0], [], .null),
  (5, 4, .getfield 21, 3, [221, 5, 0, 1], [], .null),
  (8, 5, .getfield 29, 3, [169, 8, 1, 1], [], .null),
  (11, 6, .getfield 35, 3, [132, 1, 2, 1], [], .null),
  (14, 7, .iload_n 1, 1, [1], [], .null),
  (15, 8, .iaload, 1, [], [], .null),
  (16, 9, .invokevirtual 40, 3, [19, 649, 425, 426, 2, 0, 2], [], .null),
  (19, 10, .astore_n 3, 1, [3], [], .null),
  (20, 11, .aload_n 0, 1, [0], [], .null),
  (21, 12, .getfield 21, 3, [221, 5, 0, 1], [], .null),
  (24, 13, .getfield 29, 3, [169, 8, 1, 1], [], .null),
  (27, 14, .getfield 60, 3, [138, 1, 4, 1], [], .null),
  (30, 15, .iload_n 1, 1, [1], [], .null),
  (31, 16, .iaload, 1, [], [], .null)]
def xc43_1 : List xIns := [(32, 17, .istore 4, 2, [4], [], .null),
  (34, 18, .iconst 1, 1, [], [], .int (1)),
  (35, 19, .aload_n 0, 1, [0], [], .null),
  (36, 20, .getfield 21, 3, [221, 5, 0, 1], [], .null),
  (39, 21, .getfield 49, 3, [171, 8, 2, 0], [], .null),
  (42, 22, .ishl, 1, [], [], .null),
  (43, 23, .iconst 1, 1, [], [], .int (1)),
  (44, 24, .isub, 1, [], [], .null),
  (45, 25, .istore 5, 2, [5], [], .null),
  (47, 26, .bipush (-4), 2, [], [], .int (-4)),
  (49, 27, .istore 6, 2, [6], [], .null),
  (51, 28, .iconst 0, 1, [], [], .int (0)),
  (52, 29, .istore 7, 2, [7], [], .null),
  (54, 30, .iload 7, 2, [7], [], .null),
  (56, 31, .iload_n 2, 1, [2], [], .null),
  (57, 32, .if_icmp .gt 48, 3, [56], [], .null)]
def xc43_2 : List xIns := [(60, 33, .iload 5, 2, [5], [], .null),
  (62, 34, .ifCond .eq 43, 3, [56], [], .null),
  (65, 35, .aload_n 0, 1, [0], [], .null),
  (66, 36, .iload 5, 2, [5], [], .null),
  (68, 37, .aload_n 3, 1, [3], [], .null),
  (69, 38, .iload 4, 2, [4], [], .null),
  (71, 39, .invokevirtual 63, 3, [48, 654, 656, 16, 4, 0, 5], [], .null),
  (74, 40, .istore 6, 2, [6], [], .null),
  (76, 41, .aload_n 0, 1, [0], [], .null),
  (77, 42, .getfield 21, 3, [221, 5, 0, 1], [], .null),
  (80, 43, .getfield 53, 3, [174, 8, 3, 1], [], .null),
  (83, 44, .iload 6, 2, [6], [], .null),
  (85, 45, .iaload, 1, [], [], .null),
  (86, 46, .istore 4, 2, [4], [], .null),
  (88, 47, .iload 5, 2, [5], [], .null),
  (90, 48, .iconst 1, 1, [], [], .int (1))]
def xc43_3 : List xIns := [(91, 49, .iload 6, 2, [6], [], .null),
  (93, 50, .ishl, 1, [], [], .null),
  (94, 51, .iconst (-1), 1, [], [], .int (-1)),
  (95, 52, .ixor, 1, [], [], .null),
  (96, 53, .iand, 1, [], [], .null),
  (97, 54, .istore 5, 2, [5], [], .null),
  (99, 55, .iinc 7 1, 3, [7], [], .int (1)),
  (102, 56, .goto (-48), 3, [29], [], .null),
  (105, 57, .iload 6, 2, [6], [], .null),
  (107, 0, .ireturn, 1, [], [], .null)]
def xc43 : List (List xIns) := [xc43_0, xc43_1, xc43_2, xc43_3]

/-- StepRings$Tours.leastParted(I)I -/
def xc44_0 : List xIns := [(0, 1, .iconst 1, 1, [], [], .int (1)),
  (1, 2, .aload_n 0, 1, [0], [], .null),
  (2, 3, .getfield 21, 3, [221, 5, 0, 1], [], .null),
  (5, 4, .getfield 49, 3, [171, 8, 2, 0], [], .null),
  (8, 5, .ishl, 1, [], [], .null),
  (9, 6, .istore_n 2, 1, [2], [], .null),
  (10, 7, .aload_n 0, 1, [0], [], .null),
  (11, 8, .getfield 18, 3, [225, 5, 4, 1], [], .null),
  (14, 9, .ldc 67, 2, [643], [], .int (1000000)),
  (16, 10, .invokestatic 68, 3, [173, 644, 434, 0, 2, 0], [], .null),
  (19, 11, .aload_n 0, 1, [0], [], .null),
  (20, 12, .getfield 18, 3, [225, 5, 4, 1], [], .null),
  (23, 13, .iconst 0, 1, [], [], .int (0)),
  (24, 14, .iconst 0, 1, [], [], .int (0)),
  (25, 15, .iastore, 1, [], [], .null),
  (26, 16, .iconst 0, 1, [], [], .int (0))]
def xc44_1 : List xIns := [(27, 17, .istore_n 3, 1, [3], [], .null),
  (28, 18, .iload_n 3, 1, [3], [], .null),
  (29, 19, .aload_n 0, 1, [0], [], .null),
  (30, 20, .getfield 21, 3, [221, 5, 0, 1], [], .null),
  (33, 21, .getfield 29, 3, [169, 8, 1, 1], [], .null),
  (36, 22, .getfield 74, 3, [124, 1, 0, 0], [], .null),
  (39, 23, .if_icmp .ge 28, 3, [38], [], .null),
  (42, 24, .iload_n 1, 1, [1], [], .null),
  (43, 25, .iload_n 3, 1, [3], [], .null),
  (44, 26, .ishr, 1, [], [], .null),
  (45, 27, .iconst 1, 1, [], [], .int (1)),
  (46, 28, .iand, 1, [], [], .null),
  (47, 29, .ifCond .eq 14, 3, [36], [], .null),
  (50, 30, .aload_n 0, 1, [0], [], .null),
  (51, 31, .iload_n 3, 1, [3], [], .null),
  (52, 32, .invokevirtual 77, 3, [43, 645, 646, 647, 2, 0, 5], [], .null)]
def xc44_2 : List xIns := [(55, 33, .pop, 1, [], [], .null),
  (56, 34, .aload_n 0, 1, [0], [], .null),
  (57, 35, .iload_n 2, 1, [2], [], .null),
  (58, 36, .invokevirtual 81, 3, [46, 663, 665, 18, 2, 0, 5], [], .null),
  (61, 37, .iinc 3 1, 3, [3], [], .int (1)),
  (64, 38, .goto (-36), 3, [17], [], .null),
  (67, 39, .aload_n 0, 1, [0], [], .null),
  (68, 40, .getfield 18, 3, [225, 5, 4, 1], [], .null),
  (71, 41, .iload_n 2, 1, [2], [], .null),
  (72, 42, .iconst 1, 1, [], [], .int (1)),
  (73, 43, .isub, 1, [], [], .null),
  (74, 44, .iaload, 1, [], [], .null),
  (75, 0, .ireturn, 1, [], [], .null)]
def xc44 : List (List xIns) := [xc44_0, xc44_1, xc44_2]

/-- StepRings$Tours.shareWith(I)V -/
def xc45_0 : List xIns := [(0, 1, .iload_n 1, 1, [1], [], .null),
  (1, 2, .iconst 1, 1, [], [], .int (1)),
  (2, 3, .isub, 1, [], [], .null),
  (3, 4, .istore_n 2, 1, [2], [], .null),
  (4, 5, .iload_n 2, 1, [2], [], .null),
  (5, 6, .ifCond .le 66, 3, [45], [], .null),
  (8, 7, .aload_n 0, 1, [0], [], .null),
  (9, 8, .getfield 18, 3, [225, 5, 4, 1], [], .null),
  (12, 9, .iload_n 2, 1, [2], [], .null),
  (13, 10, .iaload, 1, [], [], .null),
  (14, 11, .istore_n 3, 1, [3], [], .null),
  (15, 12, .iload_n 2, 1, [2], [], .null),
  (16, 13, .istore 4, 2, [4], [], .null),
  (18, 14, .iload 4, 2, [4], [], .null),
  (20, 15, .ifCond .le 38, 3, [38], [], .null),
  (23, 16, .iload_n 3, 1, [3], [], .null)]
def xc45_1 : List xIns := [(24, 17, .aload_n 0, 1, [0], [], .null),
  (25, 18, .getfield 18, 3, [225, 5, 4, 1], [], .null),
  (28, 19, .iload_n 2, 1, [2], [], .null),
  (29, 20, .iload 4, 2, [4], [], .null),
  (31, 21, .iconst (-1), 1, [], [], .int (-1)),
  (32, 22, .ixor, 1, [], [], .null),
  (33, 23, .iand, 1, [], [], .null),
  (34, 24, .iaload, 1, [], [], .null),
  (35, 25, .aload_n 0, 1, [0], [], .null),
  (36, 26, .getfield 15, 3, [224, 5, 3, 1], [], .null),
  (39, 27, .iload 4, 2, [4], [], .null),
  (41, 28, .iaload, 1, [], [], .null),
  (42, 29, .iadd, 1, [], [], .null),
  (43, 30, .invokestatic 85, 3, [0, 662, 2], [], .null),
  (46, 31, .istore_n 3, 1, [3], [], .null),
  (47, 32, .iload 4, 2, [4], [], .null)]
def xc45_2 : List xIns := [(49, 33, .iconst 1, 1, [], [], .int (1)),
  (50, 34, .isub, 1, [], [], .null),
  (51, 35, .iload_n 2, 1, [2], [], .null),
  (52, 36, .iand, 1, [], [], .null),
  (53, 37, .istore 4, 2, [4], [], .null),
  (55, 38, .goto (-37), 3, [13], [], .null),
  (58, 39, .aload_n 0, 1, [0], [], .null),
  (59, 40, .getfield 18, 3, [225, 5, 4, 1], [], .null),
  (62, 41, .iload_n 2, 1, [2], [], .null),
  (63, 42, .iload_n 3, 1, [3], [], .null),
  (64, 43, .iastore, 1, [], [], .null),
  (65, 44, .iinc 2 (-1), 3, [2], [], .int (-1)),
  (68, 45, .goto (-64), 3, [4], [], .null),
  (71, 0, .return_, 1, [], [], .null)]
def xc45 : List (List xIns) := [xc45_0, xc45_1, xc45_2]

/-- StepRings$Tours.through(I[III)I -/
def xc46_0 : List xIns := [(0, 1, .iload_n 1, 1, [1], [], .null),
  (1, 2, .ifCond .ne 13, 3, [10], [], .null),
  (4, 3, .aload_n 2, 1, [2], [], .null),
  (5, 4, .iload_n 3, 1, [3], [], .null),
  (6, 5, .bipush 12, 2, [], [], .int (12)),
  (8, 6, .imul, 1, [], [], .null),
  (9, 7, .iload 4, 2, [4], [], .null),
  (11, 8, .iadd, 1, [], [], .null),
  (12, 9, .iaload, 1, [], [], .null),
  (13, 10, .ireturn, 1, [], [], .null),
  (14, 11, .ldc 67, 2, [643], [], .int (1000000)),
  (16, 12, .aload_n 0, 1, [0], [], .null),
  (17, 13, .aload_n 0, 1, [0], [], .null),
  (18, 14, .iload_n 1, 1, [1], [], .null),
  (19, 15, .aload_n 2, 1, [2], [], .null),
  (20, 16, .iload_n 3, 1, [3], [], .null)]
def xc46_1 : List xIns := [(21, 17, .invokevirtual 63, 3, [48, 654, 656, 16, 4, 0, 5], [], .null),
  (24, 18, .iload_n 1, 1, [1], [], .null),
  (25, 19, .aload_n 2, 1, [2], [], .null),
  (26, 20, .iload_n 3, 1, [3], [], .null),
  (27, 21, .invokevirtual 91, 3, [49, 658, 660, 17, 5, 0, 5], [], .null),
  (30, 22, .invokestatic 85, 3, [0, 662, 2], [], .null),
  (33, 0, .ireturn, 1, [], [], .null)]
def xc46 : List (List xIns) := [xc46_0, xc46_1]

/-- StepRings$Tours.firstOf(I[II)I -/
def xc47_0 : List xIns := [(0, 1, .iconst 0, 1, [], [], .int (0)),
  (1, 2, .istore 4, 2, [4], [], .null),
  (3, 3, .iconst (-1), 1, [], [], .int (-1)),
  (4, 4, .istore 5, 2, [5], [], .null),
  (6, 5, .iconst 0, 1, [], [], .int (0)),
  (7, 6, .istore 6, 2, [6], [], .null),
  (9, 7, .iload 6, 2, [6], [], .null),
  (11, 8, .aload_n 0, 1, [0], [], .null),
  (12, 9, .getfield 21, 3, [221, 5, 0, 1], [], .null),
  (15, 10, .getfield 49, 3, [171, 8, 2, 0], [], .null),
  (18, 11, .if_icmp .ge 52, 3, [36], [], .null),
  (21, 12, .iload_n 1, 1, [1], [], .null),
  (22, 13, .iload 6, 2, [6], [], .null),
  (24, 14, .ishr, 1, [], [], .null),
  (25, 15, .iconst 1, 1, [], [], .int (1)),
  (26, 16, .iand, 1, [], [], .null)]
def xc47_1 : List xIns := [(27, 17, .ifCond .ne 6, 3, [18], [], .null),
  (30, 18, .goto 34, 3, [34], [], .null),
  (33, 19, .aload_n 0, 1, [0], [], .null),
  (34, 20, .iload 6, 2, [6], [], .null),
  (36, 21, .iload_n 1, 1, [1], [], .null),
  (37, 22, .aload_n 2, 1, [2], [], .null),
  (38, 23, .iload_n 3, 1, [3], [], .null),
  (39, 24, .invokevirtual 91, 3, [49, 658, 660, 17, 5, 0, 5], [], .null),
  (42, 25, .istore 7, 2, [7], [], .null),
  (44, 26, .iload 5, 2, [5], [], .null),
  (46, 27, .ifCond .lt 10, 3, [30], [], .null),
  (49, 28, .iload 7, 2, [7], [], .null),
  (51, 29, .iload 5, 2, [5], [], .null),
  (53, 30, .if_icmp .ge 11, 3, [34], [], .null),
  (56, 31, .iload 7, 2, [7], [], .null),
  (58, 32, .istore 5, 2, [5], [], .null)]
def xc47_2 : List xIns := [(60, 33, .iload 6, 2, [6], [], .null),
  (62, 34, .istore 4, 2, [4], [], .null),
  (64, 35, .iinc 6 1, 3, [6], [], .int (1)),
  (67, 36, .goto (-58), 3, [6], [], .null),
  (70, 37, .iload 4, 2, [4], [], .null),
  (72, 0, .ireturn, 1, [], [], .null)]
def xc47 : List (List xIns) := [xc47_0, xc47_1, xc47_2]

/-- StepRings$Tours.by(II[II)I -/
def xc48_0 : List xIns := [(0, 1, .aload_n 3, 1, [3], [], .null),
  (1, 2, .iload 4, 2, [4], [], .null),
  (3, 3, .bipush 12, 2, [], [], .int (12)),
  (5, 4, .imul, 1, [], [], .null),
  (6, 5, .aload_n 0, 1, [0], [], .null),
  (7, 6, .getfield 21, 3, [221, 5, 0, 1], [], .null),
  (10, 7, .getfield 53, 3, [174, 8, 3, 1], [], .null),
  (13, 8, .iload_n 1, 1, [1], [], .null),
  (14, 9, .iaload, 1, [], [], .null),
  (15, 10, .iadd, 1, [], [], .null),
  (16, 11, .iaload, 1, [], [], .null),
  (17, 12, .aload_n 0, 1, [0], [], .null),
  (18, 13, .getfield 9, 3, [223, 5, 2, 1], [], .null),
  (21, 14, .iload_n 2, 1, [2], [], .null),
  (22, 15, .iconst 1, 1, [], [], .int (1)),
  (23, 16, .iload_n 1, 1, [1], [], .null)]
def xc48_1 : List xIns := [(24, 17, .ishl, 1, [], [], .null),
  (25, 18, .iconst (-1), 1, [], [], .int (-1)),
  (26, 19, .ixor, 1, [], [], .null),
  (27, 20, .iand, 1, [], [], .null),
  (28, 21, .bipush 6, 2, [], [], .int (6)),
  (30, 22, .imul, 1, [], [], .null),
  (31, 23, .iload_n 1, 1, [1], [], .null),
  (32, 24, .iadd, 1, [], [], .null),
  (33, 25, .iaload, 1, [], [], .null),
  (34, 26, .iadd, 1, [], [], .null),
  (35, 0, .ireturn, 1, [], [], .null)]
def xc48 : List (List xIns) := [xc48_0, xc48_1]

/-- StepRings$Ways.<init>()V -/
def xc49_0 : List xIns := [(0, 1, .aload_n 0, 1, [0], [], .null),
  (1, 2, .invokespecial 3, 3, [0, 82], [], .null),
  (4, 3, .aload_n 0, 1, [0], [], .null),
  (5, 4, .bipush 24, 2, [], [], .int (24)),
  (7, 5, .newarray .int, 2, [], [], .null),
  (9, 6, .putfield 9, 3, [88, 6, 1, 1], [], .null),
  (12, 7, .aload_n 0, 1, [0], [], .null),
  (13, 8, .bipush 24, 2, [], [], .int (24)),
  (15, 9, .newarray .int, 2, [], [], .null),
  (17, 10, .putfield 15, 3, [92, 6, 2, 1], [], .null),
  (20, 11, .aload_n 0, 1, [0], [], .null),
  (21, 12, .bipush 24, 2, [], [], .int (24)),
  (23, 13, .newarray .int, 2, [], [], .null),
  (25, 14, .putfield 18, 3, [96, 6, 3, 1], [], .null),
  (28, 15, .aload_n 0, 1, [0], [], .null),
  (29, 16, .bipush 24, 2, [], [], .int (24))]
def xc49_1 : List xIns := [(31, 17, .newarray .int, 2, [], [], .null),
  (33, 18, .putfield 21, 3, [98, 6, 4, 1], [], .null),
  (36, 19, .aload_n 0, 1, [0], [], .null),
  (37, 20, .bipush 24, 2, [], [], .int (24)),
  (39, 21, .newarray .int, 2, [], [], .null),
  (41, 22, .putfield 24, 3, [100, 6, 5, 1], [], .null),
  (44, 0, .return_, 1, [], [], .null)]
def xc49 : List (List xIns) := [xc49_0, xc49_1]

/-- StepRings$Ways.has(I)Z -/
def xc50_0 : List xIns := [(0, 1, .iload_n 1, 1, [1], [], .null),
  (1, 2, .iconst 0, 1, [], [], .int (0)),
  (2, 3, .aload_n 0, 1, [0], [], .null),
  (3, 4, .getfield 27, 3, [83, 6, 0, 0], [], .null),
  (6, 5, .iconst 1, 1, [], [], .int (1)),
  (7, 6, .isub, 1, [], [], .null),
  (8, 7, .invokestatic 31, 3, [90, 383, 365, 0, 3, 1], [], .null),
  (11, 0, .ireturn, 1, [], [], .null)]
def xc50 : List (List xIns) := [xc50_0]

/-- StepRings$Ways.add(IIIII)I -/
def xc51_0 : List xIns := [(0, 1, .aload_n 0, 1, [0], [], .null),
  (1, 2, .getfield 27, 3, [83, 6, 0, 0], [], .null),
  (4, 3, .istore 6, 2, [6], [], .null),
  (6, 4, .aload_n 0, 1, [0], [], .null),
  (7, 5, .getfield 9, 3, [88, 6, 1, 1], [], .null),
  (10, 6, .iload 6, 2, [6], [], .null),
  (12, 7, .iload_n 1, 1, [1], [], .null),
  (13, 8, .iastore, 1, [], [], .null),
  (14, 9, .aload_n 0, 1, [0], [], .null),
  (15, 10, .getfield 15, 3, [92, 6, 2, 1], [], .null),
  (18, 11, .iload 6, 2, [6], [], .null),
  (20, 12, .iload_n 2, 1, [2], [], .null),
  (21, 13, .iastore, 1, [], [], .null),
  (22, 14, .aload_n 0, 1, [0], [], .null),
  (23, 15, .getfield 18, 3, [96, 6, 3, 1], [], .null),
  (26, 16, .iload 6, 2, [6], [], .null)]
def xc51_1 : List xIns := [(28, 17, .iload_n 3, 1, [3], [], .null),
  (29, 18, .iastore, 1, [], [], .null),
  (30, 19, .aload_n 0, 1, [0], [], .null),
  (31, 20, .getfield 21, 3, [98, 6, 4, 1], [], .null),
  (34, 21, .iload 6, 2, [6], [], .null),
  (36, 22, .iload 4, 2, [4], [], .null),
  (38, 23, .iastore, 1, [], [], .null),
  (39, 24, .aload_n 0, 1, [0], [], .null),
  (40, 25, .getfield 24, 3, [100, 6, 5, 1], [], .null),
  (43, 26, .iload 6, 2, [6], [], .null),
  (45, 27, .iload 5, 2, [5], [], .null),
  (47, 28, .iastore, 1, [], [], .null),
  (48, 29, .aload_n 0, 1, [0], [], .null),
  (49, 30, .dup, 1, [], [], .null),
  (50, 31, .getfield 27, 3, [83, 6, 0, 0], [], .null),
  (53, 32, .iconst 1, 1, [], [], .int (1))]
def xc51_2 : List xIns := [(54, 33, .iadd, 1, [], [], .null),
  (55, 34, .putfield 27, 3, [83, 6, 0, 0], [], .null),
  (58, 35, .iload 6, 2, [6], [], .null),
  (60, 0, .ireturn, 1, [], [], .null)]
def xc51 : List (List xIns) := [xc51_0, xc51_1, xc51_2]

/-- StepRings$Ways.otherEnd(II)I -/
def xc52_0 : List xIns := [(0, 1, .aload_n 0, 1, [0], [], .null),
  (1, 2, .getfield 9, 3, [88, 6, 1, 1], [], .null),
  (4, 3, .iload_n 1, 1, [1], [], .null),
  (5, 4, .iaload, 1, [], [], .null),
  (6, 5, .iload_n 2, 1, [2], [], .null),
  (7, 6, .if_icmp .ne 10, 3, [11], [], .null),
  (10, 7, .aload_n 0, 1, [0], [], .null),
  (11, 8, .getfield 15, 3, [92, 6, 2, 1], [], .null),
  (14, 9, .iload_n 1, 1, [1], [], .null),
  (15, 10, .iaload, 1, [], [], .null),
  (16, 11, .ireturn, 1, [], [], .null),
  (17, 12, .aload_n 0, 1, [0], [], .null),
  (18, 13, .getfield 15, 3, [92, 6, 2, 1], [], .null),
  (21, 14, .iload_n 1, 1, [1], [], .null),
  (22, 15, .iaload, 1, [], [], .null),
  (23, 16, .iload_n 2, 1, [2], [], .null)]
def xc52_1 : List xIns := [(24, 17, .if_icmp .ne 12, 3, [22], [], .null),
  (27, 18, .aload_n 0, 1, [0], [], .null),
  (28, 19, .getfield 9, 3, [88, 6, 1, 1], [], .null),
  (31, 20, .iload_n 1, 1, [1], [], .null),
  (32, 21, .iaload, 1, [], [], .null),
  (33, 22, .goto 4, 3, [23], [], .null),
  (36, 23, .iconst (-1), 1, [], [], .int (-1)),
  (37, 0, .ireturn, 1, [], [], .null)]
def xc52 : List (List xIns) := [xc52_0, xc52_1]

/-- StepRings$Ways.costOf(IIZ)I -/
def xc53_0 : List xIns := [(0, 1, .iload_n 3, 1, [3], [], .null),
  (1, 2, .ifCond .eq 12, 3, [7], [], .null),
  (4, 3, .aload_n 0, 1, [0], [], .null),
  (5, 4, .getfield 21, 3, [98, 6, 4, 1], [], .null),
  (8, 5, .iload_n 1, 1, [1], [], .null),
  (9, 6, .iaload, 1, [], [], .null),
  (10, 7, .goto 10, 3, [12], [], .null),
  (13, 8, .aload_n 0, 1, [0], [], .null),
  (14, 9, .getfield 21, 3, [98, 6, 4, 1], [], .null),
  (17, 10, .iload_n 1, 1, [1], [], .null),
  (18, 11, .iaload, 1, [], [], .null),
  (19, 12, .ineg, 1, [], [], .null),
  (20, 13, .istore 4, 2, [4], [], .null),
  (22, 14, .aload_n 0, 1, [0], [], .null),
  (23, 15, .getfield 18, 3, [96, 6, 3, 1], [], .null),
  (26, 16, .iload_n 1, 1, [1], [], .null)]
def xc53_1 : List xIns := [(27, 17, .iaload, 1, [], [], .null),
  (28, 18, .iconst 3, 1, [], [], .int (3)),
  (29, 19, .iconst 0, 1, [], [], .int (0)),
  (30, 20, .iload 4, 2, [4], [], .null),
  (32, 21, .invokestatic 35, 3, [0, 417, 1], [], .null),
  (35, 22, .imul, 1, [], [], .null),
  (36, 23, .iadd, 1, [], [], .null),
  (37, 24, .istore 5, 2, [5], [], .null),
  (39, 25, .iload 4, 2, [4], [], .null),
  (41, 26, .ifCond .le 17, 3, [35], [], .null),
  (44, 27, .iload 5, 2, [5], [], .null),
  (46, 28, .aload_n 0, 1, [0], [], .null),
  (47, 29, .getfield 18, 3, [96, 6, 3, 1], [], .null),
  (50, 30, .iload_n 1, 1, [1], [], .null),
  (51, 31, .iaload, 1, [], [], .null),
  (52, 32, .iconst 2, 1, [], [], .int (2))]
def xc53_2 : List xIns := [(53, 33, .idiv, 1, [], [], .null),
  (54, 34, .iadd, 1, [], [], .null),
  (55, 35, .goto 5, 3, [36], [], .null),
  (58, 36, .iload 5, 2, [5], [], .null),
  (60, 37, .istore 6, 2, [6], [], .null),
  (62, 38, .iload_n 2, 1, [2], [], .null),
  (63, 39, .tableswitch 42 1 3 #[25, 30, 33], 25, [51], [(1, 39), (2, 43), (3, 45)], .null),
  (88, 40, .iconst 2, 1, [], [], .int (2)),
  (89, 41, .iload 5, 2, [5], [], .null),
  (91, 42, .imul, 1, [], [], .null),
  (92, 43, .ireturn, 1, [], [], .null),
  (93, 44, .iload 6, 2, [6], [], .null),
  (95, 45, .ireturn, 1, [], [], .null),
  (96, 46, .iconst 1, 1, [], [], .int (1)),
  (97, 47, .iload 6, 2, [6], [], .null),
  (99, 48, .iconst 2, 1, [], [], .int (2))]
def xc53_3 : List xIns := [(100, 49, .idiv, 1, [], [], .null),
  (101, 50, .invokestatic 35, 3, [0, 417, 1], [], .null),
  (104, 51, .ireturn, 1, [], [], .null),
  (105, 52, .iload 5, 2, [5], [], .null),
  (107, 0, .ireturn, 1, [], [], .null)]
def xc53 : List (List xIns) := [xc53_0, xc53_1, xc53_2, xc53_3]

/-- StepRings$Ways.copy(LStepRings$Ways;)V -/
def xc54_0 : List xIns := [(0, 1, .aload_n 0, 1, [0], [], .null),
  (1, 2, .aload_n 1, 1, [1], [], .null),
  (2, 3, .getfield 27, 3, [83, 6, 0, 0], [], .null),
  (5, 4, .putfield 27, 3, [83, 6, 0, 0], [], .null),
  (8, 5, .aload_n 1, 1, [1], [], .null),
  (9, 6, .getfield 9, 3, [88, 6, 1, 1], [], .null),
  (12, 7, .iconst 0, 1, [], [], .int (0)),
  (13, 8, .aload_n 0, 1, [0], [], .null),
  (14, 9, .getfield 9, 3, [88, 6, 1, 1], [], .null),
  (17, 10, .iconst 0, 1, [], [], .int (0)),
  (18, 11, .bipush 24, 2, [], [], .int (24)),
  (20, 12, .invokestatic 41, 3, [0, 527, 0], [], .null),
  (23, 13, .aload_n 1, 1, [1], [], .null),
  (24, 14, .getfield 15, 3, [92, 6, 2, 1], [], .null),
  (27, 15, .iconst 0, 1, [], [], .int (0)),
  (28, 16, .aload_n 0, 1, [0], [], .null)]
def xc54_1 : List xIns := [(29, 17, .getfield 15, 3, [92, 6, 2, 1], [], .null),
  (32, 18, .iconst 0, 1, [], [], .int (0)),
  (33, 19, .bipush 24, 2, [], [], .int (24)),
  (35, 20, .invokestatic 41, 3, [0, 527, 0], [], .null),
  (38, 21, .aload_n 1, 1, [1], [], .null),
  (39, 22, .getfield 18, 3, [96, 6, 3, 1], [], .null),
  (42, 23, .iconst 0, 1, [], [], .int (0)),
  (43, 24, .aload_n 0, 1, [0], [], .null),
  (44, 25, .getfield 18, 3, [96, 6, 3, 1], [], .null),
  (47, 26, .iconst 0, 1, [], [], .int (0)),
  (48, 27, .bipush 24, 2, [], [], .int (24)),
  (50, 28, .invokestatic 41, 3, [0, 527, 0], [], .null),
  (53, 29, .aload_n 1, 1, [1], [], .null),
  (54, 30, .getfield 21, 3, [98, 6, 4, 1], [], .null),
  (57, 31, .iconst 0, 1, [], [], .int (0)),
  (58, 32, .aload_n 0, 1, [0], [], .null)]
def xc54_2 : List xIns := [(59, 33, .getfield 21, 3, [98, 6, 4, 1], [], .null),
  (62, 34, .iconst 0, 1, [], [], .int (0)),
  (63, 35, .bipush 24, 2, [], [], .int (24)),
  (65, 36, .invokestatic 41, 3, [0, 527, 0], [], .null),
  (68, 37, .aload_n 1, 1, [1], [], .null),
  (69, 38, .getfield 24, 3, [100, 6, 5, 1], [], .null),
  (72, 39, .iconst 0, 1, [], [], .int (0)),
  (73, 40, .aload_n 0, 1, [0], [], .null),
  (74, 41, .getfield 24, 3, [100, 6, 5, 1], [], .null),
  (77, 42, .iconst 0, 1, [], [], .int (0)),
  (78, 43, .bipush 24, 2, [], [], .int (24)),
  (80, 44, .invokestatic 41, 3, [0, 527, 0], [], .null),
  (83, 0, .return_, 1, [], [], .null)]
def xc54 : List (List xIns) := [xc54_0, xc54_1, xc54_2]

/-- StepRings$Wells.<init>(LStepRings$People;LStepRings$Roads;)V -/
def xc55_0 : List xIns := [(0, 1, .aload_n 0, 1, [0], [], .null),
  (1, 2, .invokespecial 3, 3, [0, 242], [], .null),
  (4, 3, .aload_n 0, 1, [0], [], .null),
  (5, 4, .iconst 3, 1, [], [], .int (3)),
  (6, 5, .newarray .int, 2, [], [], .null),
  (8, 6, .putfield 9, 3, [245, 7, 2, 1], [], .null),
  (11, 7, .aload_n 0, 1, [0], [], .null),
  (12, 8, .iconst 3, 1, [], [], .int (3)),
  (13, 9, .newarray .int, 2, [], [], .null),
  (15, 10, .putfield 15, 3, [246, 7, 3, 1], [], .null),
  (18, 11, .aload_n 0, 1, [0], [], .null),
  (19, 12, .aload_n 1, 1, [1], [], .null),
  (20, 13, .putfield 18, 3, [243, 7, 0, 1], [], .null),
  (23, 14, .aload_n 0, 1, [0], [], .null),
  (24, 15, .aload_n 2, 1, [2], [], .null),
  (25, 16, .putfield 22, 3, [244, 7, 1, 1], [], .null)]
def xc55_1 : List xIns := [(28, 0, .return_, 1, [], [], .null)]
def xc55 : List (List xIns) := [xc55_0, xc55_1]

/-- StepRings$Wells.dig(II)I -/
def xc56_0 : List xIns := [(0, 1, .ldc 26, 2, [684], [], .int (1000000)),
  (2, 2, .istore_n 3, 1, [3], [], .null),
  (3, 3, .iconst 0, 1, [], [], .int (0)),
  (4, 4, .istore 4, 2, [4], [], .null),
  (6, 5, .iload 4, 2, [4], [], .null),
  (8, 6, .iload_n 1, 1, [1], [], .null),
  (9, 7, .if_icmp .ge 18, 3, [14], [], .null),
  (12, 8, .aload_n 0, 1, [0], [], .null),
  (13, 9, .getfield 9, 3, [245, 7, 2, 1], [], .null),
  (16, 10, .iload 4, 2, [4], [], .null),
  (18, 11, .iload 4, 2, [4], [], .null),
  (20, 12, .iastore, 1, [], [], .null),
  (21, 13, .iinc 4 1, 3, [4], [], .int (1)),
  (24, 14, .goto (-18), 3, [4], [], .null),
  (27, 15, .iconst 1, 1, [], [], .int (1)),
  (28, 16, .istore 4, 2, [4], [], .null)]
def xc56_1 : List xIns := [(30, 17, .iconst 0, 1, [], [], .int (0)),
  (31, 18, .istore 5, 2, [5], [], .null),
  (33, 19, .iload 5, 2, [5], [], .null),
  (35, 20, .sipush 1728, 3, [], [], .int (1728)),
  (38, 21, .if_icmp .ge 52, 3, [47], [], .null),
  (41, 22, .iload 4, 2, [4], [], .null),
  (43, 23, .ifCond .eq 47, 3, [47], [], .null),
  (46, 24, .aload_n 0, 1, [0], [], .null),
  (47, 25, .iload_n 1, 1, [1], [], .null),
  (48, 26, .iload_n 2, 1, [2], [], .null),
  (49, 27, .invokevirtual 27, 3, [58, 685, 687, 19, 3, 0, 7], [], .null),
  (52, 28, .istore 6, 2, [6], [], .null),
  (54, 29, .iload 6, 2, [6], [], .null),
  (56, 30, .iload_n 3, 1, [3], [], .null),
  (57, 31, .if_icmp .ge 20, 3, [41], [], .null),
  (60, 32, .iload 6, 2, [6], [], .null)]
def xc56_2 : List xIns := [(62, 33, .istore_n 3, 1, [3], [], .null),
  (63, 34, .aload_n 0, 1, [0], [], .null),
  (64, 35, .getfield 9, 3, [245, 7, 2, 1], [], .null),
  (67, 36, .iconst 0, 1, [], [], .int (0)),
  (68, 37, .aload_n 0, 1, [0], [], .null),
  (69, 38, .getfield 15, 3, [246, 7, 3, 1], [], .null),
  (72, 39, .iconst 0, 1, [], [], .int (0)),
  (73, 40, .iload_n 1, 1, [1], [], .null),
  (74, 41, .invokestatic 31, 3, [0, 691, 0], [], .null),
  (77, 42, .aload_n 0, 1, [0], [], .null),
  (78, 43, .iload_n 1, 1, [1], [], .null),
  (79, 44, .invokevirtual 37, 3, [59, 692, 694, 20, 2, 0, 7], [], .null),
  (82, 45, .istore 4, 2, [4], [], .null),
  (84, 46, .iinc 5 1, 3, [5], [], .int (1)),
  (87, 47, .goto (-54), 3, [18], [], .null),
  (90, 48, .iload_n 3, 1, [3], [], .null)]
def xc56_3 : List xIns := [(91, 0, .ireturn, 1, [], [], .null)]
def xc56 : List (List xIns) := [xc56_0, xc56_1, xc56_2, xc56_3]

/-- StepRings$Wells.costOfRow(II)I -/
def xc57_0 : List xIns := [(0, 1, .iconst 0, 1, [], [], .int (0)),
  (1, 2, .istore_n 3, 1, [3], [], .null),
  (2, 3, .iconst 0, 1, [], [], .int (0)),
  (3, 4, .istore 4, 2, [4], [], .null),
  (5, 5, .iload 4, 2, [4], [], .null),
  (7, 6, .aload_n 0, 1, [0], [], .null),
  (8, 7, .getfield 18, 3, [243, 7, 0, 1], [], .null),
  (11, 8, .getfield 41, 3, [123, 1, 0, 0], [], .null),
  (14, 9, .if_icmp .ge 92, 3, [55], [], .null),
  (17, 10, .aload_n 0, 1, [0], [], .null),
  (18, 11, .getfield 22, 3, [244, 7, 1, 1], [], .null),
  (21, 12, .aload_n 0, 1, [0], [], .null),
  (22, 13, .getfield 18, 3, [243, 7, 0, 1], [], .null),
  (25, 14, .getfield 47, 3, [133, 1, 2, 1], [], .null),
  (28, 15, .iload 4, 2, [4], [], .null),
  (30, 16, .iaload, 1, [], [], .null)]
def xc57_1 : List xIns := [(31, 17, .invokevirtual 50, 3, [19, 689, 425, 426, 2, 0, 2], [], .null),
  (34, 18, .astore 5, 2, [5], [], .null),
  (36, 19, .ldc 26, 2, [684], [], .int (1000000)),
  (38, 20, .istore 6, 2, [6], [], .null),
  (40, 21, .iconst 0, 1, [], [], .int (0)),
  (41, 22, .istore 7, 2, [7], [], .null),
  (43, 23, .iload 7, 2, [7], [], .null),
  (45, 24, .iload_n 1, 1, [1], [], .null),
  (46, 25, .if_icmp .ge 40, 3, [44], [], .null),
  (49, 26, .iload 6, 2, [6], [], .null),
  (51, 27, .aload 5, 2, [5], [], .null),
  (53, 28, .aload_n 0, 1, [0], [], .null),
  (54, 29, .getfield 18, 3, [243, 7, 0, 1], [], .null),
  (57, 30, .getfield 56, 3, [129, 1, 1, 1], [], .null),
  (60, 31, .iload 4, 2, [4], [], .null),
  (62, 32, .iaload, 1, [], [], .null)]
def xc57_2 : List xIns := [(63, 33, .bipush 12, 2, [], [], .int (12)),
  (65, 34, .imul, 1, [], [], .null),
  (66, 35, .aload_n 0, 1, [0], [], .null),
  (67, 36, .getfield 9, 3, [245, 7, 2, 1], [], .null),
  (70, 37, .iload 7, 2, [7], [], .null),
  (72, 38, .iaload, 1, [], [], .null),
  (73, 39, .iadd, 1, [], [], .null),
  (74, 40, .iaload, 1, [], [], .null),
  (75, 41, .invokestatic 59, 3, [0, 690, 2], [], .null),
  (78, 42, .istore 6, 2, [6], [], .null),
  (80, 43, .iinc 7 1, 3, [7], [], .int (1)),
  (83, 44, .goto (-40), 3, [22], [], .null),
  (86, 45, .iload 6, 2, [6], [], .null),
  (88, 46, .iload_n 2, 1, [2], [], .null),
  (89, 47, .if_icmp .le 6, 3, [49], [], .null),
  (92, 48, .ldc 26, 2, [684], [], .int (1000000))]
def xc57_3 : List xIns := [(94, 49, .ireturn, 1, [], [], .null),
  (95, 50, .iload_n 3, 1, [3], [], .null),
  (96, 51, .iload 6, 2, [6], [], .null),
  (98, 52, .iadd, 1, [], [], .null),
  (99, 53, .istore_n 3, 1, [3], [], .null),
  (100, 54, .iinc 4 1, 3, [4], [], .int (1)),
  (103, 55, .goto (-98), 3, [4], [], .null),
  (106, 56, .iload_n 3, 1, [3], [], .null),
  (107, 0, .ireturn, 1, [], [], .null)]
def xc57 : List (List xIns) := [xc57_0, xc57_1, xc57_2, xc57_3]

/-- StepRings$Wells.nextRow(I)Z -/
def xc58_0 : List xIns := [(0, 1, .iload_n 1, 1, [1], [], .null),
  (1, 2, .iconst 1, 1, [], [], .int (1)),
  (2, 3, .isub, 1, [], [], .null),
  (3, 4, .istore_n 2, 1, [2], [], .null),
  (4, 5, .iload_n 2, 1, [2], [], .null),
  (5, 6, .ifCond .lt 24, 3, [18], [], .null),
  (8, 7, .aload_n 0, 1, [0], [], .null),
  (9, 8, .getfield 9, 3, [245, 7, 2, 1], [], .null),
  (12, 9, .iload_n 2, 1, [2], [], .null),
  (13, 10, .iaload, 1, [], [], .null),
  (14, 11, .bipush 12, 2, [], [], .int (12)),
  (16, 12, .iload_n 1, 1, [1], [], .null),
  (17, 13, .isub, 1, [], [], .null),
  (18, 14, .iload_n 2, 1, [2], [], .null),
  (19, 15, .iadd, 1, [], [], .null),
  (20, 16, .if_icmp .ne 9, 3, [18], [], .null)]
def xc58_1 : List xIns := [(23, 17, .iinc 2 (-1), 3, [2], [], .int (-1)),
  (26, 18, .goto (-22), 3, [4], [], .null),
  (29, 19, .iload_n 2, 1, [2], [], .null),
  (30, 20, .ifCond .ge 5, 3, [22], [], .null),
  (33, 21, .iconst 0, 1, [], [], .int (0)),
  (34, 22, .ireturn, 1, [], [], .null),
  (35, 23, .aload_n 0, 1, [0], [], .null),
  (36, 24, .getfield 9, 3, [245, 7, 2, 1], [], .null),
  (39, 25, .iload_n 2, 1, [2], [], .null),
  (40, 26, .dup2, 1, [], [], .null),
  (41, 27, .iaload, 1, [], [], .null),
  (42, 28, .iconst 1, 1, [], [], .int (1)),
  (43, 29, .iadd, 1, [], [], .null),
  (44, 30, .iastore, 1, [], [], .null),
  (45, 31, .iload_n 2, 1, [2], [], .null),
  (46, 32, .iconst 1, 1, [], [], .int (1))]
def xc58_2 : List xIns := [(47, 33, .iadd, 1, [], [], .null),
  (48, 34, .istore_n 3, 1, [3], [], .null),
  (49, 35, .iload_n 3, 1, [3], [], .null),
  (50, 36, .iload_n 1, 1, [1], [], .null),
  (51, 37, .if_icmp .ge 25, 3, [51], [], .null),
  (54, 38, .aload_n 0, 1, [0], [], .null),
  (55, 39, .getfield 9, 3, [245, 7, 2, 1], [], .null),
  (58, 40, .iload_n 3, 1, [3], [], .null),
  (59, 41, .aload_n 0, 1, [0], [], .null),
  (60, 42, .getfield 9, 3, [245, 7, 2, 1], [], .null),
  (63, 43, .iload_n 3, 1, [3], [], .null),
  (64, 44, .iconst 1, 1, [], [], .int (1)),
  (65, 45, .isub, 1, [], [], .null),
  (66, 46, .iaload, 1, [], [], .null),
  (67, 47, .iconst 1, 1, [], [], .int (1)),
  (68, 48, .iadd, 1, [], [], .null)]
def xc58_3 : List xIns := [(69, 49, .iastore, 1, [], [], .null),
  (70, 50, .iinc 3 1, 3, [3], [], .int (1)),
  (73, 51, .goto (-24), 3, [34], [], .null),
  (76, 52, .iconst 1, 1, [], [], .int (1)),
  (77, 0, .ireturn, 1, [], [], .null)]
def xc58 : List (List xIns) := [xc58_0, xc58_1, xc58_2, xc58_3]

/-- StepRings$World.<init>()V -/
def xc59_0 : List xIns := [(0, 1, .aload_n 0, 1, [0], [], .null),
  (1, 2, .invokespecial 3, 3, [0, 76], [], .null),
  (4, 3, .aload_n 0, 1, [0], [], .null),
  (5, 4, .new 9, 3, [77, 6, 6, 78], [], .null),
  (8, 5, .dup, 1, [], [], .null),
  (9, 6, .invokespecial 11, 3, [50, 79, 80, 0, 1, 1], [], .null),
  (12, 7, .putfield 12, 3, [165, 8, 0, 1], [], .null),
  (15, 8, .aload_n 0, 1, [0], [], .null),
  (16, 9, .new 18, 3, [116, 1, 9, 117], [], .null),
  (19, 10, .dup, 1, [], [], .null),
  (20, 11, .invokespecial 20, 3, [8, 118, 119, 0, 1, 1], [], .null),
  (23, 12, .putfield 21, 3, [167, 8, 1, 1], [], .null),
  (26, 13, .aload_n 0, 1, [0], [], .null),
  (27, 14, .bipush 6, 2, [], [], .int (6)),
  (29, 15, .newarray .int, 2, [], [], .null),
  (31, 16, .putfield 25, 3, [173, 8, 3, 1], [], .null)]
def xc59_1 : List xIns := [(34, 17, .aload_n 0, 1, [0], [], .null),
  (35, 18, .iconst 4, 1, [], [], .int (4)),
  (36, 19, .newarray .int, 2, [], [], .null),
  (38, 20, .dup, 1, [], [], .null),
  (39, 21, .iconst 0, 1, [], [], .int (0)),
  (40, 22, .sipush 400, 3, [], [], .int (400)),
  (43, 23, .iastore, 1, [], [], .null),
  (44, 24, .dup, 1, [], [], .null),
  (45, 25, .iconst 1, 1, [], [], .int (1)),
  (46, 26, .sipush 300, 3, [], [], .int (300)),
  (49, 27, .iastore, 1, [], [], .null),
  (50, 28, .dup, 1, [], [], .null),
  (51, 29, .iconst 2, 1, [], [], .int (2)),
  (52, 30, .sipush 500, 3, [], [], .int (500)),
  (55, 31, .iastore, 1, [], [], .null),
  (56, 32, .dup, 1, [], [], .null)]
def xc59_2 : List xIns := [(57, 33, .iconst 3, 1, [], [], .int (3)),
  (58, 34, .sipush 900, 3, [], [], .int (900)),
  (61, 35, .iastore, 1, [], [], .null),
  (62, 36, .putfield 29, 3, [176, 8, 4, 1], [], .null),
  (65, 0, .return_, 1, [], [], .null)]
def xc59 : List (List xIns) := [xc59_0, xc59_1, xc59_2]

/-- StepRings$World.copy(LStepRings$World;)V -/
def xc60_0 : List xIns := [(0, 1, .aload_n 0, 1, [0], [], .null),
  (1, 2, .getfield 12, 3, [165, 8, 0, 1], [], .null),
  (4, 3, .aload_n 1, 1, [1], [], .null),
  (5, 4, .getfield 12, 3, [165, 8, 0, 1], [], .null),
  (8, 5, .invokevirtual 32, 3, [55, 729, 524, 525, 2, 0, 6], [], .null),
  (11, 6, .aload_n 0, 1, [0], [], .null),
  (12, 7, .getfield 21, 3, [167, 8, 1, 1], [], .null),
  (15, 8, .aload_n 1, 1, [1], [], .null),
  (16, 9, .getfield 21, 3, [167, 8, 1, 1], [], .null),
  (19, 10, .invokevirtual 36, 3, [7, 730, 539, 540, 2, 0, 1], [], .null),
  (22, 11, .aload_n 0, 1, [0], [], .null),
  (23, 12, .aload_n 1, 1, [1], [], .null),
  (24, 13, .getfield 39, 3, [170, 8, 2, 0], [], .null),
  (27, 14, .putfield 39, 3, [170, 8, 2, 0], [], .null),
  (30, 15, .aload_n 1, 1, [1], [], .null),
  (31, 16, .getfield 25, 3, [173, 8, 3, 1], [], .null)]
def xc60_1 : List xIns := [(34, 17, .iconst 0, 1, [], [], .int (0)),
  (35, 18, .aload_n 0, 1, [0], [], .null),
  (36, 19, .getfield 25, 3, [173, 8, 3, 1], [], .null),
  (39, 20, .iconst 0, 1, [], [], .int (0)),
  (40, 21, .bipush 6, 2, [], [], .int (6)),
  (42, 22, .invokestatic 43, 3, [0, 731, 0], [], .null),
  (45, 23, .aload_n 1, 1, [1], [], .null),
  (46, 24, .getfield 29, 3, [176, 8, 4, 1], [], .null),
  (49, 25, .iconst 0, 1, [], [], .int (0)),
  (50, 26, .aload_n 0, 1, [0], [], .null),
  (51, 27, .getfield 29, 3, [176, 8, 4, 1], [], .null),
  (54, 28, .iconst 0, 1, [], [], .int (0)),
  (55, 29, .iconst 4, 1, [], [], .int (4)),
  (56, 30, .invokestatic 43, 3, [0, 731, 0], [], .null),
  (59, 31, .aload_n 0, 1, [0], [], .null),
  (60, 32, .aload_n 1, 1, [1], [], .null)]
def xc60_2 : List xIns := [(61, 33, .getfield 49, 3, [178, 8, 5, 0], [], .null),
  (64, 34, .putfield 49, 3, [178, 8, 5, 0], [], .null),
  (67, 35, .aload_n 0, 1, [0], [], .null),
  (68, 36, .aload_n 1, 1, [1], [], .null),
  (69, 37, .getfield 52, 3, [180, 8, 6, 0], [], .null),
  (72, 38, .putfield 52, 3, [180, 8, 6, 0], [], .null),
  (75, 0, .return_, 1, [], [], .null)]
def xc60 : List (List xIns) := [xc60_0, xc60_1, xc60_2]

/-- StepRings.rule(I)I -/
def xc61_0 : List xIns := [(0, 1, .iload_n 1, 1, [1], [], .null),
  (1, 2, .iconst 0, 1, [], [], .int (0)),
  (2, 3, .iconst 2, 1, [], [], .int (2)),
  (3, 4, .invokestatic 79, 3, [90, 364, 365, 0, 3, 0], [], .null),
  (6, 5, .ifCond .ne 5, 3, [7], [], .null),
  (9, 6, .iconst (-1), 1, [], [], .int (-1)),
  (10, 7, .ireturn, 1, [], [], .null),
  (11, 8, .aload_n 0, 1, [0], [], .null),
  (12, 9, .getfield 10, 3, [329, 9, 0, 1], [], .null),
  (15, 10, .getfield 159, 3, [179, 8, 5, 0], [], .null),
  (18, 11, .istore_n 2, 1, [2], [], .null),
  (19, 12, .aload_n 0, 1, [0], [], .null),
  (20, 13, .getfield 10, 3, [329, 9, 0, 1], [], .null),
  (23, 14, .iload_n 1, 1, [1], [], .null),
  (24, 15, .putfield 159, 3, [179, 8, 5, 0], [], .null),
  (27, 16, .iload_n 2, 1, [2], [], .null)]
def xc61_1 : List xIns := [(28, 0, .ireturn, 1, [], [], .null)]
def xc61 : List (List xIns) := [xc61_0, xc61_1]

/-- StepRings.type(JI)I -/
def xc62_0 : List xIns := [(0, 1, .iload_n 3, 1, [3], [], .null),
  (1, 2, .iconst 1, 1, [], [], .int (1)),
  (2, 3, .bipush 8, 2, [], [], .int (8)),
  (4, 4, .invokestatic 79, 3, [90, 364, 365, 0, 3, 0], [], .null),
  (7, 5, .ifCond .eq 11, 3, [9], [], .null),
  (10, 6, .lload_n 1, 1, [1], [], .null),
  (11, 7, .iload_n 3, 1, [3], [], .null),
  (12, 8, .invokestatic 162, 3, [34, 460, 461, 0, 2, 0], [], .null),
  (15, 9, .ifCond .ne 5, 3, [11], [], .null),
  (18, 10, .iconst (-1), 1, [], [], .int (-1)),
  (19, 11, .ireturn, 1, [], [], .null),
  (20, 12, .aload_n 0, 1, [0], [], .null),
  (21, 13, .getfield 64, 3, [336, 9, 7, 1], [], .null),
  (24, 14, .getfield 166, 3, [285, 4, 1, 0], [], .null),
  (27, 15, .iload_n 3, 1, [3], [], .null),
  (28, 16, .iadd, 1, [], [], .null)]
def xc62_1 : List xIns := [(29, 17, .sipush 160, 3, [], [], .int (160)),
  (32, 18, .if_icmp .le 6, 3, [20], [], .null),
  (35, 19, .bipush (-3), 2, [], [], .int (-3)),
  (37, 20, .ireturn, 1, [], [], .null),
  (38, 21, .aload_n 0, 1, [0], [], .null),
  (39, 22, .getfield 64, 3, [336, 9, 7, 1], [], .null),
  (42, 23, .lload_n 1, 1, [1], [], .null),
  (43, 24, .iload_n 3, 1, [3], [], .null),
  (44, 25, .invokevirtual 169, 3, [36, 467, 468, 469, 3, 0, 4], [], .null),
  (47, 0, .ireturn, 1, [], [], .null)]
def xc62 : List (List xIns) := [xc62_0, xc62_1]

/-- StepRings.town()I -/
def xc63_0 : List xIns := [(0, 1, .aload_n 0, 1, [0], [], .null),
  (1, 2, .getfield 64, 3, [336, 9, 7, 1], [], .null),
  (4, 3, .invokevirtual 173, 3, [38, 475, 476, 477, 1, 0, 4], [], .null),
  (7, 4, .istore_n 1, 1, [1], [], .null),
  (8, 5, .aload_n 0, 1, [0], [], .null),
  (9, 6, .getfield 64, 3, [336, 9, 7, 1], [], .null),
  (12, 7, .getfield 177, 3, [287, 4, 2, 0], [], .null),
  (15, 8, .istore_n 2, 1, [2], [], .null),
  (16, 9, .aload_n 0, 1, [0], [], .null),
  (17, 10, .getfield 64, 3, [336, 9, 7, 1], [], .null),
  (20, 11, .invokevirtual 180, 3, [37, 519, 520, 521, 1, 0, 4], [], .null),
  (23, 12, .iload_n 1, 1, [1], [], .null),
  (24, 13, .ifCond .ne 8, 3, [17], [], .null),
  (27, 14, .bipush (-20), 2, [], [], .int (-20)),
  (29, 15, .iload_n 2, 1, [2], [], .null),
  (30, 16, .isub, 1, [], [], .null)]
def xc63_1 : List xIns := [(31, 17, .ireturn, 1, [], [], .null),
  (32, 18, .aload_n 0, 1, [0], [], .null),
  (33, 19, .getfield 10, 3, [329, 9, 0, 1], [], .null),
  (36, 20, .getfield 21, 3, [166, 8, 0, 1], [], .null),
  (39, 21, .aload_n 0, 1, [0], [], .null),
  (40, 22, .getfield 64, 3, [336, 9, 7, 1], [], .null),
  (43, 23, .getfield 183, 3, [289, 4, 3, 1], [], .null),
  (46, 24, .invokevirtual 184, 3, [55, 523, 524, 525, 2, 0, 6], [], .null),
  (49, 25, .aload_n 0, 1, [0], [], .null),
  (50, 26, .getfield 28, 3, [332, 9, 3, 1], [], .null),
  (53, 27, .invokevirtual 93, 3, [18, 371, 372, 373, 1, 0, 2], [], .null),
  (56, 28, .aload_n 0, 1, [0], [], .null),
  (57, 29, .getfield 10, 3, [329, 9, 0, 1], [], .null),
  (60, 30, .getfield 21, 3, [166, 8, 0, 1], [], .null),
  (63, 31, .getfield 83, 3, [84, 6, 0, 0], [], .null),
  (66, 0, .ireturn, 1, [], [], .null)]
def xc63 : List (List xIns) := [xc63_0, xc63_1]

/-- StepRings.people()I -/
def xc64_0 : List xIns := [(0, 1, .aload_n 0, 1, [0], [], .null),
  (1, 2, .getfield 64, 3, [336, 9, 7, 1], [], .null),
  (4, 3, .invokevirtual 187, 3, [39, 534, 535, 536, 1, 0, 4], [], .null),
  (7, 4, .istore_n 1, 1, [1], [], .null),
  (8, 5, .aload_n 0, 1, [0], [], .null),
  (9, 6, .getfield 64, 3, [336, 9, 7, 1], [], .null),
  (12, 7, .getfield 177, 3, [287, 4, 2, 0], [], .null),
  (15, 8, .istore_n 2, 1, [2], [], .null),
  (16, 9, .aload_n 0, 1, [0], [], .null),
  (17, 10, .getfield 64, 3, [336, 9, 7, 1], [], .null),
  (20, 11, .invokevirtual 180, 3, [37, 519, 520, 521, 1, 0, 4], [], .null),
  (23, 12, .iload_n 1, 1, [1], [], .null),
  (24, 13, .ifCond .ne 8, 3, [17], [], .null),
  (27, 14, .bipush (-20), 2, [], [], .int (-20)),
  (29, 15, .iload_n 2, 1, [2], [], .null),
  (30, 16, .isub, 1, [], [], .null)]
def xc64_1 : List xIns := [(31, 17, .ireturn, 1, [], [], .null),
  (32, 18, .aload_n 0, 1, [0], [], .null),
  (33, 19, .getfield 10, 3, [329, 9, 0, 1], [], .null),
  (36, 20, .getfield 43, 3, [168, 8, 1, 1], [], .null),
  (39, 21, .aload_n 0, 1, [0], [], .null),
  (40, 22, .getfield 64, 3, [336, 9, 7, 1], [], .null),
  (43, 23, .getfield 190, 3, [291, 4, 4, 1], [], .null),
  (46, 24, .invokevirtual 191, 3, [7, 538, 539, 540, 2, 0, 1], [], .null),
  (49, 25, .aload_n 0, 1, [0], [], .null),
  (50, 26, .getfield 10, 3, [329, 9, 0, 1], [], .null),
  (53, 27, .getfield 43, 3, [168, 8, 1, 1], [], .null),
  (56, 28, .getfield 120, 3, [125, 1, 0, 0], [], .null),
  (59, 0, .ireturn, 1, [], [], .null)]
def xc64 : List (List xIns) := [xc64_0, xc64_1]

/-- StepRings.count(I)I -/
def xc65_0 : List xIns := [(0, 1, .iload_n 1, 1, [1], [], .null),
  (1, 2, .tableswitch 99 0 5 #[39, 50, 61, 69, 80, 91], 39, [30], [(0, 2), (1, 7), (2, 12), (3, 16), (4, 21), (5, 26)], .null),
  (40, 3, .aload_n 0, 1, [0], [], .null),
  (41, 4, .getfield 10, 3, [329, 9, 0, 1], [], .null),
  (44, 5, .getfield 21, 3, [166, 8, 0, 1], [], .null),
  (47, 6, .getfield 83, 3, [84, 6, 0, 0], [], .null),
  (50, 7, .ireturn, 1, [], [], .null),
  (51, 8, .aload_n 0, 1, [0], [], .null),
  (52, 9, .getfield 10, 3, [329, 9, 0, 1], [], .null),
  (55, 10, .getfield 43, 3, [168, 8, 1, 1], [], .null),
  (58, 11, .getfield 120, 3, [125, 1, 0, 0], [], .null),
  (61, 12, .ireturn, 1, [], [], .null),
  (62, 13, .aload_n 0, 1, [0], [], .null),
  (63, 14, .getfield 10, 3, [329, 9, 0, 1], [], .null),
  (66, 15, .getfield 194, 3, [172, 8, 2, 0], [], .null),
  (69, 16, .ireturn, 1, [], [], .null)]
def xc65_1 : List xIns := [(70, 17, .aload_n 0, 1, [0], [], .null),
  (71, 18, .getfield 10, 3, [329, 9, 0, 1], [], .null),
  (74, 19, .getfield 43, 3, [168, 8, 1, 1], [], .null),
  (77, 20, .invokevirtual 197, 3, [15, 547, 548, 549, 1, 0, 1], [], .null),
  (80, 21, .ireturn, 1, [], [], .null),
  (81, 22, .aload_n 0, 1, [0], [], .null),
  (82, 23, .getfield 10, 3, [329, 9, 0, 1], [], .null),
  (85, 24, .getfield 43, 3, [168, 8, 1, 1], [], .null),
  (88, 25, .invokevirtual 201, 3, [16, 551, 552, 553, 1, 0, 1], [], .null),
  (91, 26, .ireturn, 1, [], [], .null),
  (92, 27, .aload_n 0, 1, [0], [], .null),
  (93, 28, .getfield 10, 3, [329, 9, 0, 1], [], .null),
  (96, 29, .getfield 204, 3, [181, 8, 6, 0], [], .null),
  (99, 30, .ireturn, 1, [], [], .null),
  (100, 31, .iconst (-1), 1, [], [], .int (-1)),
  (101, 0, .ireturn, 1, [], [], .null)]
def xc65 : List (List xIns) := [xc65_0, xc65_1]

/-- StepRings.go(II)I -/
def xc66_0 : List xIns := [(0, 1, .aload_n 0, 1, [0], [], .null),
  (1, 2, .iload_n 1, 1, [1], [], .null),
  (2, 3, .invokevirtual 126, 3, [97, 405, 407, 0, 2, 0, 9], [], .null),
  (5, 4, .ifCond .eq 10, 3, [7], [], .null),
  (8, 5, .iload_n 2, 1, [2], [], .null),
  (9, 6, .invokestatic 75, 3, [91, 361, 362, 0, 1, 0], [], .null),
  (12, 7, .ifCond .ne 5, 3, [9], [], .null),
  (15, 8, .iconst (-1), 1, [], [], .int (-1)),
  (16, 9, .ireturn, 1, [], [], .null),
  (17, 10, .aload_n 0, 1, [0], [], .null),
  (18, 11, .iload_n 1, 1, [1], [], .null),
  (19, 12, .iload_n 2, 1, [2], [], .null),
  (20, 13, .invokevirtual 207, 3, [99, 559, 561, 12, 3, 0, 9], [], .null),
  (23, 14, .istore_n 3, 1, [3], [], .null),
  (24, 15, .iload_n 3, 1, [3], [], .null),
  (25, 16, .ldc 211, 2, [447], [], .int (1000000))]
def xc66_1 : List xIns := [(27, 17, .if_icmp .lt 6, 3, [19], [], .null),
  (30, 18, .bipush (-4), 2, [], [], .int (-4)),
  (32, 19, .ireturn, 1, [], [], .null),
  (33, 20, .iload_n 3, 1, [3], [], .null),
  (34, 21, .aload_n 0, 1, [0], [], .null),
  (35, 22, .getfield 10, 3, [329, 9, 0, 1], [], .null),
  (38, 23, .getfield 43, 3, [168, 8, 1, 1], [], .null),
  (41, 24, .getfield 135, 3, [136, 1, 3, 1], [], .null),
  (44, 25, .iload_n 1, 1, [1], [], .null),
  (45, 26, .iaload, 1, [], [], .null),
  (46, 27, .if_icmp .le 6, 3, [29], [], .null),
  (49, 28, .bipush (-2), 2, [], [], .int (-2)),
  (51, 29, .ireturn, 1, [], [], .null),
  (52, 30, .aload_n 0, 1, [0], [], .null),
  (53, 31, .iload_n 1, 1, [1], [], .null),
  (54, 32, .iload_n 2, 1, [2], [], .null)]
def xc66_2 : List xIns := [(55, 33, .iconst 1, 1, [], [], .int (1)),
  (56, 34, .invokevirtual 212, 3, [100, 563, 565, 13, 4, 0, 9], [], .null),
  (59, 0, .ireturn, 1, [], [], .null)]
def xc66 : List (List xIns) := [xc66_0, xc66_1, xc66_2]

/-- StepRings.carry(III)I -/
def xc67_0 : List xIns := [(0, 1, .aload_n 0, 1, [0], [], .null),
  (1, 2, .iload_n 1, 1, [1], [], .null),
  (2, 3, .iload_n 2, 1, [2], [], .null),
  (3, 4, .invokevirtual 215, 3, [98, 583, 585, 14, 3, 0, 9], [], .null),
  (6, 5, .ifCond .eq 10, 3, [8], [], .null),
  (9, 6, .iload_n 3, 1, [3], [], .null),
  (10, 7, .invokestatic 75, 3, [91, 361, 362, 0, 1, 0], [], .null),
  (13, 8, .ifCond .ne 5, 3, [10], [], .null),
  (16, 9, .iconst (-1), 1, [], [], .int (-1)),
  (17, 10, .ireturn, 1, [], [], .null),
  (18, 11, .aload_n 0, 1, [0], [], .null),
  (19, 12, .getfield 10, 3, [329, 9, 0, 1], [], .null),
  (22, 13, .getfield 43, 3, [168, 8, 1, 1], [], .null),
  (25, 14, .getfield 138, 3, [139, 1, 4, 1], [], .null),
  (28, 15, .iload_n 1, 1, [1], [], .null),
  (29, 16, .iaload, 1, [], [], .null)]
def xc67_1 : List xIns := [(30, 17, .aload_n 0, 1, [0], [], .null),
  (31, 18, .getfield 10, 3, [329, 9, 0, 1], [], .null),
  (34, 19, .getfield 43, 3, [168, 8, 1, 1], [], .null),
  (37, 20, .getfield 138, 3, [139, 1, 4, 1], [], .null),
  (40, 21, .iload_n 2, 1, [2], [], .null),
  (41, 22, .iaload, 1, [], [], .null),
  (42, 23, .if_icmp .eq 6, 3, [25], [], .null),
  (45, 24, .bipush (-2), 2, [], [], .int (-2)),
  (47, 25, .ireturn, 1, [], [], .null),
  (48, 26, .aload_n 0, 1, [0], [], .null),
  (49, 27, .iload_n 1, 1, [1], [], .null),
  (50, 28, .iload_n 3, 1, [3], [], .null),
  (51, 29, .invokevirtual 207, 3, [99, 559, 561, 12, 3, 0, 9], [], .null),
  (54, 30, .istore 4, 2, [4], [], .null),
  (56, 31, .iload 4, 2, [4], [], .null),
  (58, 32, .ldc 211, 2, [447], [], .int (1000000))]
def xc67_2 : List xIns := [(60, 33, .if_icmp .lt 6, 3, [35], [], .null),
  (63, 34, .bipush (-4), 2, [], [], .int (-4)),
  (65, 35, .ireturn, 1, [], [], .null),
  (66, 36, .iconst 2, 1, [], [], .int (2)),
  (67, 37, .iload 4, 2, [4], [], .null),
  (69, 38, .imul, 1, [], [], .null),
  (70, 39, .aload_n 0, 1, [0], [], .null),
  (71, 40, .getfield 10, 3, [329, 9, 0, 1], [], .null),
  (74, 41, .getfield 43, 3, [168, 8, 1, 1], [], .null),
  (77, 42, .getfield 135, 3, [136, 1, 3, 1], [], .null),
  (80, 43, .iload_n 1, 1, [1], [], .null),
  (81, 44, .iaload, 1, [], [], .null),
  (82, 45, .if_icmp .le 6, 3, [47], [], .null),
  (85, 46, .bipush (-3), 2, [], [], .int (-3)),
  (87, 47, .ireturn, 1, [], [], .null),
  (88, 48, .aload_n 0, 1, [0], [], .null)]
def xc67_3 : List xIns := [(89, 49, .getfield 10, 3, [329, 9, 0, 1], [], .null),
  (92, 50, .getfield 43, 3, [168, 8, 1, 1], [], .null),
  (95, 51, .getfield 138, 3, [139, 1, 4, 1], [], .null),
  (98, 52, .iload_n 2, 1, [2], [], .null),
  (99, 53, .iload_n 3, 1, [3], [], .null),
  (100, 54, .iastore, 1, [], [], .null),
  (101, 55, .aload_n 0, 1, [0], [], .null),
  (102, 56, .iload_n 1, 1, [1], [], .null),
  (103, 57, .iload_n 3, 1, [3], [], .null),
  (104, 58, .iconst 2, 1, [], [], .int (2)),
  (105, 59, .invokevirtual 212, 3, [100, 563, 565, 13, 4, 0, 9], [], .null),
  (108, 0, .ireturn, 1, [], [], .null)]
def xc67 : List (List xIns) := [xc67_0, xc67_1, xc67_2, xc67_3]

/-- StepRings.lend(III)I -/
def xc68_0 : List xIns := [(0, 1, .aload_n 0, 1, [0], [], .null),
  (1, 2, .iload_n 1, 1, [1], [], .null),
  (2, 3, .iload_n 2, 1, [2], [], .null),
  (3, 4, .invokevirtual 215, 3, [98, 583, 585, 14, 3, 0, 9], [], .null),
  (6, 5, .ifCond .eq 13, 3, [10], [], .null),
  (9, 6, .iload_n 3, 1, [3], [], .null),
  (10, 7, .iconst 1, 1, [], [], .int (1)),
  (11, 8, .ldc 119, 2, [396], [], .int (99999)),
  (13, 9, .invokestatic 79, 3, [90, 364, 365, 0, 3, 0], [], .null),
  (16, 10, .ifCond .ne 5, 3, [12], [], .null),
  (19, 11, .iconst (-1), 1, [], [], .int (-1)),
  (20, 12, .ireturn, 1, [], [], .null),
  (21, 13, .iload_n 3, 1, [3], [], .null),
  (22, 14, .aload_n 0, 1, [0], [], .null),
  (23, 15, .getfield 10, 3, [329, 9, 0, 1], [], .null),
  (26, 16, .getfield 43, 3, [168, 8, 1, 1], [], .null)]
def xc68_1 : List xIns := [(29, 17, .getfield 135, 3, [136, 1, 3, 1], [], .null),
  (32, 18, .iload_n 1, 1, [1], [], .null),
  (33, 19, .iaload, 1, [], [], .null),
  (34, 20, .if_icmp .le 6, 3, [22], [], .null),
  (37, 21, .bipush (-2), 2, [], [], .int (-2)),
  (39, 22, .ireturn, 1, [], [], .null),
  (40, 23, .aload_n 0, 1, [0], [], .null),
  (41, 24, .getfield 10, 3, [329, 9, 0, 1], [], .null),
  (44, 25, .getfield 43, 3, [168, 8, 1, 1], [], .null),
  (47, 26, .iload_n 1, 1, [1], [], .null),
  (48, 27, .iload_n 2, 1, [2], [], .null),
  (49, 28, .iload_n 3, 1, [3], [], .null),
  (50, 29, .invokevirtual 219, 3, [10, 591, 592, 593, 4, 0, 1], [], .null),
  (53, 30, .aload_n 0, 1, [0], [], .null),
  (54, 31, .getfield 10, 3, [329, 9, 0, 1], [], .null),
  (57, 32, .getfield 43, 3, [168, 8, 1, 1], [], .null)]
def xc68_2 : List xIns := [(60, 33, .getfield 223, 3, [145, 1, 8, 1], [], .null),
  (63, 34, .iload_n 2, 1, [2], [], .null),
  (64, 35, .bipush 8, 2, [], [], .int (8)),
  (66, 36, .imul, 1, [], [], .null),
  (67, 37, .iload_n 1, 1, [1], [], .null),
  (68, 38, .iadd, 1, [], [], .null),
  (69, 39, .dup2, 1, [], [], .null),
  (70, 40, .iaload, 1, [], [], .null),
  (71, 41, .iload_n 3, 1, [3], [], .null),
  (72, 42, .iadd, 1, [], [], .null),
  (73, 43, .iastore, 1, [], [], .null),
  (74, 44, .aload_n 0, 1, [0], [], .null),
  (75, 45, .getfield 10, 3, [329, 9, 0, 1], [], .null),
  (78, 46, .getfield 43, 3, [168, 8, 1, 1], [], .null),
  (81, 47, .getfield 135, 3, [136, 1, 3, 1], [], .null),
  (84, 48, .iload_n 1, 1, [1], [], .null)]
def xc68_3 : List xIns := [(85, 49, .iaload, 1, [], [], .null),
  (86, 0, .ireturn, 1, [], [], .null)]
def xc68 : List (List xIns) := [xc68_0, xc68_1, xc68_2, xc68_3]

/-- StepRings.pay(III)I -/
def xc69_0 : List xIns := [(0, 1, .aload_n 0, 1, [0], [], .null),
  (1, 2, .iload_n 1, 1, [1], [], .null),
  (2, 3, .iload_n 2, 1, [2], [], .null),
  (3, 4, .invokevirtual 215, 3, [98, 583, 585, 14, 3, 0, 9], [], .null),
  (6, 5, .ifCond .eq 13, 3, [10], [], .null),
  (9, 6, .iload_n 3, 1, [3], [], .null),
  (10, 7, .iconst 1, 1, [], [], .int (1)),
  (11, 8, .ldc 119, 2, [396], [], .int (99999)),
  (13, 9, .invokestatic 79, 3, [90, 364, 365, 0, 3, 0], [], .null),
  (16, 10, .ifCond .ne 5, 3, [12], [], .null),
  (19, 11, .iconst (-1), 1, [], [], .int (-1)),
  (20, 12, .ireturn, 1, [], [], .null),
  (21, 13, .iload_n 3, 1, [3], [], .null),
  (22, 14, .aload_n 0, 1, [0], [], .null),
  (23, 15, .getfield 10, 3, [329, 9, 0, 1], [], .null),
  (26, 16, .getfield 43, 3, [168, 8, 1, 1], [], .null)]
def xc69_1 : List xIns := [(29, 17, .getfield 135, 3, [136, 1, 3, 1], [], .null),
  (32, 18, .iload_n 1, 1, [1], [], .null),
  (33, 19, .iaload, 1, [], [], .null),
  (34, 20, .if_icmp .gt 24, 3, [32], [], .null),
  (37, 21, .iload_n 3, 1, [3], [], .null),
  (38, 22, .aload_n 0, 1, [0], [], .null),
  (39, 23, .getfield 10, 3, [329, 9, 0, 1], [], .null),
  (42, 24, .getfield 43, 3, [168, 8, 1, 1], [], .null),
  (45, 25, .getfield 223, 3, [145, 1, 8, 1], [], .null),
  (48, 26, .iload_n 1, 1, [1], [], .null),
  (49, 27, .bipush 8, 2, [], [], .int (8)),
  (51, 28, .imul, 1, [], [], .null),
  (52, 29, .iload_n 2, 1, [2], [], .null),
  (53, 30, .iadd, 1, [], [], .null),
  (54, 31, .iaload, 1, [], [], .null),
  (55, 32, .if_icmp .le 6, 3, [34], [], .null)]
def xc69_2 : List xIns := [(58, 33, .bipush (-2), 2, [], [], .int (-2)),
  (60, 34, .ireturn, 1, [], [], .null),
  (61, 35, .aload_n 0, 1, [0], [], .null),
  (62, 36, .getfield 10, 3, [329, 9, 0, 1], [], .null),
  (65, 37, .getfield 43, 3, [168, 8, 1, 1], [], .null),
  (68, 38, .iload_n 1, 1, [1], [], .null),
  (69, 39, .iload_n 2, 1, [2], [], .null),
  (70, 40, .iload_n 3, 1, [3], [], .null),
  (71, 41, .invokevirtual 226, 3, [11, 601, 602, 603, 4, 0, 1], [], .null),
  (74, 42, .aload_n 0, 1, [0], [], .null),
  (75, 43, .getfield 10, 3, [329, 9, 0, 1], [], .null),
  (78, 44, .getfield 43, 3, [168, 8, 1, 1], [], .null),
  (81, 45, .getfield 135, 3, [136, 1, 3, 1], [], .null),
  (84, 46, .iload_n 1, 1, [1], [], .null),
  (85, 47, .iaload, 1, [], [], .null),
  (86, 0, .ireturn, 1, [], [], .null)]
def xc69 : List (List xIns) := [xc69_0, xc69_1, xc69_2]

/-- StepRings.owes(II)I -/
def xc70_0 : List xIns := [(0, 1, .aload_n 0, 1, [0], [], .null),
  (1, 2, .iload_n 1, 1, [1], [], .null),
  (2, 3, .iload_n 2, 1, [2], [], .null),
  (3, 4, .invokevirtual 215, 3, [98, 583, 585, 14, 3, 0, 9], [], .null),
  (6, 5, .ifCond .ne 5, 3, [7], [], .null),
  (9, 6, .iconst (-1), 1, [], [], .int (-1)),
  (10, 7, .ireturn, 1, [], [], .null),
  (11, 8, .aload_n 0, 1, [0], [], .null),
  (12, 9, .getfield 10, 3, [329, 9, 0, 1], [], .null),
  (15, 10, .getfield 43, 3, [168, 8, 1, 1], [], .null),
  (18, 11, .getfield 223, 3, [145, 1, 8, 1], [], .null),
  (21, 12, .iload_n 1, 1, [1], [], .null),
  (22, 13, .bipush 8, 2, [], [], .int (8)),
  (24, 14, .imul, 1, [], [], .null),
  (25, 15, .iload_n 2, 1, [2], [], .null),
  (26, 16, .iadd, 1, [], [], .null)]
def xc70_1 : List xIns := [(27, 17, .iaload, 1, [], [], .null),
  (28, 0, .ireturn, 1, [], [], .null)]
def xc70 : List (List xIns) := [xc70_0, xc70_1]

/-- StepRings.<init>()V -/
def xc71_0 : List xIns := [(0, 1, .aload_n 0, 1, [0], [], .null),
  (1, 2, .invokespecial 1, 3, [0, 68], [], .null),
  (4, 3, .aload_n 0, 1, [0], [], .null),
  (5, 4, .new 7, 3, [71, 8, 7, 72], [], .null),
  (8, 5, .dup, 1, [], [], .null),
  (9, 6, .invokespecial 9, 3, [60, 73, 74, 0, 1, 1], [], .null),
  (12, 7, .putfield 10, 3, [329, 9, 0, 1], [], .null),
  (15, 8, .aload_n 0, 1, [0], [], .null),
  (16, 9, .new 7, 3, [71, 8, 7, 72], [], .null),
  (19, 10, .dup, 1, [], [], .null),
  (20, 11, .invokespecial 9, 3, [60, 73, 74, 0, 1, 1], [], .null),
  (23, 12, .putfield 16, 3, [330, 9, 1, 1], [], .null),
  (26, 13, .aload_n 0, 1, [0], [], .null),
  (27, 14, .new 19, 3, [197, 2, 3, 198], [], .null),
  (30, 15, .dup, 1, [], [], .null),
  (31, 16, .aload_n 0, 1, [0], [], .null)]
def xc71_1 : List xIns := [(32, 17, .getfield 10, 3, [329, 9, 0, 1], [], .null),
  (35, 18, .getfield 21, 3, [166, 8, 0, 1], [], .null),
  (38, 19, .invokespecial 25, 3, [17, 199, 200, 0, 2, 0], [], .null),
  (41, 20, .putfield 28, 3, [332, 9, 3, 1], [], .null),
  (44, 21, .aload_n 0, 1, [0], [], .null),
  (45, 22, .new 32, 3, [215, 5, 5, 216], [], .null),
  (48, 23, .dup, 1, [], [], .null),
  (49, 24, .aload_n 0, 1, [0], [], .null),
  (50, 25, .getfield 10, 3, [329, 9, 0, 1], [], .null),
  (53, 26, .aload_n 0, 1, [0], [], .null),
  (54, 27, .getfield 28, 3, [332, 9, 3, 1], [], .null),
  (57, 28, .invokespecial 34, 3, [42, 217, 218, 0, 3, 0], [], .null),
  (60, 29, .putfield 37, 3, [333, 9, 4, 1], [], .null),
  (63, 30, .aload_n 0, 1, [0], [], .null),
  (64, 31, .new 41, 3, [237, 7, 4, 238], [], .null),
  (67, 32, .dup, 1, [], [], .null)]
def xc71_2 : List xIns := [(68, 33, .aload_n 0, 1, [0], [], .null),
  (69, 34, .getfield 10, 3, [329, 9, 0, 1], [], .null),
  (72, 35, .getfield 43, 3, [168, 8, 1, 1], [], .null),
  (75, 36, .aload_n 0, 1, [0], [], .null),
  (76, 37, .getfield 28, 3, [332, 9, 3, 1], [], .null),
  (79, 38, .invokespecial 47, 3, [56, 239, 240, 0, 3, 0], [], .null),
  (82, 39, .putfield 50, 3, [334, 9, 5, 1], [], .null),
  (85, 40, .aload_n 0, 1, [0], [], .null),
  (86, 41, .new 54, 3, [257, 0, 3, 258], [], .null),
  (89, 42, .dup, 1, [], [], .null),
  (90, 43, .aload_n 0, 1, [0], [], .null),
  (91, 44, .getfield 10, 3, [329, 9, 0, 1], [], .null),
  (94, 45, .getfield 21, 3, [166, 8, 0, 1], [], .null),
  (97, 46, .invokespecial 56, 3, [2, 259, 260, 0, 2, 0], [], .null),
  (100, 47, .putfield 57, 3, [335, 9, 6, 1], [], .null),
  (103, 48, .aload_n 0, 1, [0], [], .null)]
def xc71_3 : List xIns := [(104, 49, .new 61, 3, [273, 4, 5, 274], [], .null),
  (107, 50, .dup, 1, [], [], .null),
  (108, 51, .invokespecial 63, 3, [33, 275, 276, 0, 1, 1], [], .null),
  (111, 52, .putfield 64, 3, [336, 9, 7, 1], [], .null),
  (114, 53, .aload_n 0, 1, [0], [], .null),
  (115, 54, .iconst 4, 1, [], [], .int (4)),
  (116, 55, .anewarray 68, 3, [304], [], .null),
  (119, 56, .putfield 70, 3, [337, 9, 8, 1], [], .null),
  (122, 57, .iconst 0, 1, [], [], .int (0)),
  (123, 58, .istore_n 1, 1, [1], [], .null),
  (124, 59, .iload_n 1, 1, [1], [], .null),
  (125, 60, .iconst 4, 1, [], [], .int (4)),
  (126, 61, .if_icmp .ge 22, 3, [70], [], .null),
  (129, 62, .aload_n 0, 1, [0], [], .null),
  (130, 63, .getfield 70, 3, [337, 9, 8, 1], [], .null),
  (133, 64, .iload_n 1, 1, [1], [], .null)]
def xc71_4 : List xIns := [(134, 65, .new 68, 3, [304, 3, 4, 306], [], .null),
  (137, 66, .dup, 1, [], [], .null),
  (138, 67, .invokespecial 74, 3, [23, 307, 308, 0, 1, 1], [], .null),
  (141, 68, .aastore, 1, [], [], .null),
  (142, 69, .iinc 1 1, 3, [1], [], .int (1)),
  (145, 70, .goto (-21), 3, [58], [], .null),
  (148, 0, .return_, 1, [], [], .null)]
def xc71 : List (List xIns) := [xc71_0, xc71_1, xc71_2, xc71_3, xc71_4]

/-- StepRings.month()I -/
def xc72_0 : List xIns := [(0, 1, .aload_n 0, 1, [0], [], .null),
  (1, 2, .getfield 10, 3, [329, 9, 0, 1], [], .null),
  (4, 3, .getfield 43, 3, [168, 8, 1, 1], [], .null),
  (7, 4, .invokevirtual 229, 3, [12, 614, 615, 616, 1, 0, 1], [], .null),
  (10, 5, .istore_n 1, 1, [1], [], .null),
  (11, 6, .aload_n 0, 1, [0], [], .null),
  (12, 7, .getfield 10, 3, [329, 9, 0, 1], [], .null),
  (15, 8, .getfield 43, 3, [168, 8, 1, 1], [], .null),
  (18, 9, .aload_n 0, 1, [0], [], .null),
  (19, 10, .getfield 10, 3, [329, 9, 0, 1], [], .null),
  (22, 11, .getfield 159, 3, [179, 8, 5, 0], [], .null),
  (25, 12, .aload_n 0, 1, [0], [], .null),
  (26, 13, .getfield 10, 3, [329, 9, 0, 1], [], .null),
  (29, 14, .getfield 156, 3, [177, 8, 4, 1], [], .null),
  (32, 15, .invokevirtual 232, 3, [13, 619, 620, 621, 3, 0, 1], [], .null),
  (35, 16, .iload_n 1, 1, [1], [], .null)]
def xc72_1 : List xIns := [(36, 0, .ireturn, 1, [], [], .null)]
def xc72 : List (List xIns) := [xc72_0, xc72_1]

/-- StepRings.meet(III)I -/
def xc73_0 : List xIns := [(0, 1, .aload_n 0, 1, [0], [], .null),
  (1, 2, .iload_n 1, 1, [1], [], .null),
  (2, 3, .iload_n 2, 1, [2], [], .null),
  (3, 4, .invokevirtual 215, 3, [98, 583, 585, 14, 3, 0, 9], [], .null),
  (6, 5, .ifCond .eq 12, 3, [10], [], .null),
  (9, 6, .iload_n 3, 1, [3], [], .null),
  (10, 7, .iconst 0, 1, [], [], .int (0)),
  (11, 8, .iconst 1, 1, [], [], .int (1)),
  (12, 9, .invokestatic 79, 3, [90, 364, 365, 0, 3, 0], [], .null),
  (15, 10, .ifCond .ne 5, 3, [12], [], .null),
  (18, 11, .iconst (-1), 1, [], [], .int (-1)),
  (19, 12, .ireturn, 1, [], [], .null),
  (20, 13, .ldc 211, 2, [447], [], .int (1000000)),
  (22, 14, .istore 4, 2, [4], [], .null),
  (24, 15, .bipush (-4), 2, [], [], .int (-4)),
  (26, 16, .istore 5, 2, [5], [], .null)]
def xc73_1 : List xIns := [(28, 17, .iconst 0, 1, [], [], .int (0)),
  (29, 18, .istore 6, 2, [6], [], .null),
  (31, 19, .iload 6, 2, [6], [], .null),
  (33, 20, .bipush 12, 2, [], [], .int (12)),
  (35, 21, .if_icmp .ge 41, 3, [40], [], .null),
  (38, 22, .aload_n 0, 1, [0], [], .null),
  (39, 23, .iload_n 1, 1, [1], [], .null),
  (40, 24, .iload 6, 2, [6], [], .null),
  (42, 25, .invokevirtual 207, 3, [99, 559, 561, 12, 3, 0, 9], [], .null),
  (45, 26, .aload_n 0, 1, [0], [], .null),
  (46, 27, .iload_n 2, 1, [2], [], .null),
  (47, 28, .iload 6, 2, [6], [], .null),
  (49, 29, .invokevirtual 207, 3, [99, 559, 561, 12, 3, 0, 9], [], .null),
  (52, 30, .iadd, 1, [], [], .null),
  (53, 31, .istore 7, 2, [7], [], .null),
  (55, 32, .iload 7, 2, [7], [], .null)]
def xc73_2 : List xIns := [(57, 33, .iload 4, 2, [4], [], .null),
  (59, 34, .if_icmp .ge 11, 3, [38], [], .null),
  (62, 35, .iload 7, 2, [7], [], .null),
  (64, 36, .istore 4, 2, [4], [], .null),
  (66, 37, .iload 6, 2, [6], [], .null),
  (68, 38, .istore 5, 2, [5], [], .null),
  (70, 39, .iinc 6 1, 3, [6], [], .int (1)),
  (73, 40, .goto (-42), 3, [18], [], .null),
  (76, 41, .iload_n 3, 1, [3], [], .null),
  (77, 42, .ifCond .ne 8, 3, [44], [], .null),
  (80, 43, .iload 5, 2, [5], [], .null),
  (82, 44, .goto 8, 3, [46], [], .null),
  (85, 45, .iload 4, 2, [4], [], .null),
  (87, 46, .invokestatic 152, 3, [96, 444, 445, 0, 1, 0], [], .null),
  (90, 0, .ireturn, 1, [], [], .null)]
def xc73 : List (List xIns) := [xc73_0, xc73_1, xc73_2]

/-- StepRings.errand(I)I -/
def xc74_0 : List xIns := [(0, 1, .iload_n 1, 1, [1], [], .null),
  (1, 2, .invokestatic 75, 3, [91, 361, 362, 0, 1, 0], [], .null),
  (4, 3, .ifCond .ne 5, 3, [5], [], .null),
  (7, 4, .iconst (-1), 1, [], [], .int (-1)),
  (8, 5, .ireturn, 1, [], [], .null),
  (9, 6, .aload_n 0, 1, [0], [], .null),
  (10, 7, .getfield 10, 3, [329, 9, 0, 1], [], .null),
  (13, 8, .getfield 194, 3, [172, 8, 2, 0], [], .null),
  (16, 9, .bipush 6, 2, [], [], .int (6)),
  (18, 10, .if_icmp .lt 6, 3, [12], [], .null),
  (21, 11, .bipush (-3), 2, [], [], .int (-3)),
  (23, 12, .ireturn, 1, [], [], .null),
  (24, 13, .aload_n 0, 1, [0], [], .null),
  (25, 14, .getfield 10, 3, [329, 9, 0, 1], [], .null),
  (28, 15, .getfield 236, 3, [175, 8, 3, 1], [], .null),
  (31, 16, .aload_n 0, 1, [0], [], .null)]
def xc74_1 : List xIns := [(32, 17, .getfield 10, 3, [329, 9, 0, 1], [], .null),
  (35, 18, .getfield 194, 3, [172, 8, 2, 0], [], .null),
  (38, 19, .iload_n 1, 1, [1], [], .null),
  (39, 20, .iastore, 1, [], [], .null),
  (40, 21, .aload_n 0, 1, [0], [], .null),
  (41, 22, .getfield 10, 3, [329, 9, 0, 1], [], .null),
  (44, 23, .dup, 1, [], [], .null),
  (45, 24, .getfield 194, 3, [172, 8, 2, 0], [], .null),
  (48, 25, .iconst 1, 1, [], [], .int (1)),
  (49, 26, .iadd, 1, [], [], .null),
  (50, 27, .putfield 194, 3, [172, 8, 2, 0], [], .null),
  (53, 28, .aload_n 0, 1, [0], [], .null),
  (54, 29, .getfield 10, 3, [329, 9, 0, 1], [], .null),
  (57, 30, .getfield 194, 3, [172, 8, 2, 0], [], .null),
  (60, 31, .iconst 1, 1, [], [], .int (1)),
  (61, 32, .isub, 1, [], [], .null)]
def xc74_2 : List xIns := [(62, 0, .ireturn, 1, [], [], .null)]
def xc74 : List (List xIns) := [xc74_0, xc74_1, xc74_2]

/-- StepRings.rest()I -/
def xc75_0 : List xIns := [(0, 1, .aload_n 0, 1, [0], [], .null),
  (1, 2, .getfield 10, 3, [329, 9, 0, 1], [], .null),
  (4, 3, .getfield 194, 3, [172, 8, 2, 0], [], .null),
  (7, 4, .istore_n 1, 1, [1], [], .null),
  (8, 5, .aload_n 0, 1, [0], [], .null),
  (9, 6, .getfield 10, 3, [329, 9, 0, 1], [], .null),
  (12, 7, .iconst 0, 1, [], [], .int (0)),
  (13, 8, .putfield 194, 3, [172, 8, 2, 0], [], .null),
  (16, 9, .iload_n 1, 1, [1], [], .null),
  (17, 0, .ireturn, 1, [], [], .null)]
def xc75 : List (List xIns) := [xc75_0]

/-- StepRings.parted(I)I -/
def xc76_0 : List xIns := [(0, 1, .iload_n 1, 1, [1], [], .null),
  (1, 2, .iconst 1, 1, [], [], .int (1)),
  (2, 3, .iconst 1, 1, [], [], .int (1)),
  (3, 4, .aload_n 0, 1, [0], [], .null),
  (4, 5, .getfield 10, 3, [329, 9, 0, 1], [], .null),
  (7, 6, .getfield 43, 3, [168, 8, 1, 1], [], .null),
  (10, 7, .getfield 120, 3, [125, 1, 0, 0], [], .null),
  (13, 8, .ishl, 1, [], [], .null),
  (14, 9, .iconst 1, 1, [], [], .int (1)),
  (15, 10, .isub, 1, [], [], .null),
  (16, 11, .invokestatic 79, 3, [90, 364, 365, 0, 3, 0], [], .null),
  (19, 12, .ifCond .ne 5, 3, [14], [], .null),
  (22, 13, .iconst (-1), 1, [], [], .int (-1)),
  (23, 14, .ireturn, 1, [], [], .null),
  (24, 15, .aload_n 0, 1, [0], [], .null),
  (25, 16, .getfield 37, 3, [333, 9, 4, 1], [], .null)]
def xc76_1 : List xIns := [(28, 17, .iload_n 1, 1, [1], [], .null),
  (29, 18, .invokevirtual 239, 3, [45, 639, 640, 641, 2, 0, 5], [], .null),
  (32, 19, .invokestatic 152, 3, [96, 444, 445, 0, 1, 0], [], .null),
  (35, 0, .ireturn, 1, [], [], .null)]
def xc76 : List (List xIns) := [xc76_0, xc76_1]

/-- StepRings.tour(II)I -/
def xc77_0 : List xIns := [(0, 1, .aload_n 0, 1, [0], [], .null),
  (1, 2, .iload_n 1, 1, [1], [], .null),
  (2, 3, .invokevirtual 126, 3, [97, 405, 407, 0, 2, 0, 9], [], .null),
  (5, 4, .ifCond .eq 12, 3, [9], [], .null),
  (8, 5, .iload_n 2, 1, [2], [], .null),
  (9, 6, .iconst (-1), 1, [], [], .int (-1)),
  (10, 7, .iconst 5, 1, [], [], .int (5)),
  (11, 8, .invokestatic 79, 3, [90, 364, 365, 0, 3, 0], [], .null),
  (14, 9, .ifCond .ne 5, 3, [11], [], .null),
  (17, 10, .iconst (-1), 1, [], [], .int (-1)),
  (18, 11, .ireturn, 1, [], [], .null),
  (19, 12, .aload_n 0, 1, [0], [], .null),
  (20, 13, .getfield 37, 3, [333, 9, 4, 1], [], .null),
  (23, 14, .iload_n 1, 1, [1], [], .null),
  (24, 15, .invokevirtual 242, 3, [43, 671, 646, 647, 2, 0, 5], [], .null),
  (27, 16, .istore_n 3, 1, [3], [], .null)]
def xc77_1 : List xIns := [(28, 17, .iload_n 3, 1, [3], [], .null),
  (29, 18, .ldc 211, 2, [447], [], .int (1000000)),
  (31, 19, .if_icmp .ge 14, 3, [24], [], .null),
  (34, 20, .iload_n 2, 1, [2], [], .null),
  (35, 21, .aload_n 0, 1, [0], [], .null),
  (36, 22, .getfield 10, 3, [329, 9, 0, 1], [], .null),
  (39, 23, .getfield 194, 3, [172, 8, 2, 0], [], .null),
  (42, 24, .if_icmp .lt 6, 3, [26], [], .null),
  (45, 25, .bipush (-4), 2, [], [], .int (-4)),
  (47, 26, .ireturn, 1, [], [], .null),
  (48, 27, .iload_n 2, 1, [2], [], .null),
  (49, 28, .ifCond .ge 7, 3, [30], [], .null),
  (52, 29, .iload_n 3, 1, [3], [], .null),
  (53, 30, .goto 12, 3, [35], [], .null),
  (56, 31, .aload_n 0, 1, [0], [], .null),
  (57, 32, .getfield 37, 3, [333, 9, 4, 1], [], .null)]
def xc77_2 : List xIns := [(60, 33, .iload_n 1, 1, [1], [], .null),
  (61, 34, .iload_n 2, 1, [2], [], .null),
  (62, 35, .invokevirtual 245, 3, [44, 672, 673, 674, 3, 0, 5], [], .null),
  (65, 0, .ireturn, 1, [], [], .null)]
def xc77 : List (List xIns) := [xc77_0, xc77_1, xc77_2]

/-- StepRings.wells(III)I -/
def xc78_0 : List xIns := [(0, 1, .iload_n 1, 1, [1], [], .null),
  (1, 2, .iconst 1, 1, [], [], .int (1)),
  (2, 3, .iconst 3, 1, [], [], .int (3)),
  (3, 4, .invokestatic 79, 3, [90, 364, 365, 0, 3, 0], [], .null),
  (6, 5, .ifCond .eq 24, 3, [17], [], .null),
  (9, 6, .iload_n 2, 1, [2], [], .null),
  (10, 7, .iconst 0, 1, [], [], .int (0)),
  (11, 8, .ldc 119, 2, [396], [], .int (99999)),
  (13, 9, .invokestatic 79, 3, [90, 364, 365, 0, 3, 0], [], .null),
  (16, 10, .ifCond .eq 14, 3, [17], [], .null),
  (19, 11, .iload_n 3, 1, [3], [], .null),
  (20, 12, .iconst (-1), 1, [], [], .int (-1)),
  (21, 13, .iload_n 1, 1, [1], [], .null),
  (22, 14, .iconst 1, 1, [], [], .int (1)),
  (23, 15, .isub, 1, [], [], .null),
  (24, 16, .invokestatic 79, 3, [90, 364, 365, 0, 3, 0], [], .null)]
def xc78_1 : List xIns := [(27, 17, .ifCond .ne 5, 3, [19], [], .null),
  (30, 18, .iconst (-1), 1, [], [], .int (-1)),
  (31, 19, .ireturn, 1, [], [], .null),
  (32, 20, .aload_n 0, 1, [0], [], .null),
  (33, 21, .getfield 10, 3, [329, 9, 0, 1], [], .null),
  (36, 22, .getfield 43, 3, [168, 8, 1, 1], [], .null),
  (39, 23, .getfield 120, 3, [125, 1, 0, 0], [], .null),
  (42, 24, .ifCond .ne 6, 3, [26], [], .null),
  (45, 25, .bipush (-4), 2, [], [], .int (-4)),
  (47, 26, .ireturn, 1, [], [], .null),
  (48, 27, .aload_n 0, 1, [0], [], .null),
  (49, 28, .getfield 50, 3, [334, 9, 5, 1], [], .null),
  (52, 29, .iload_n 1, 1, [1], [], .null),
  (53, 30, .iload_n 2, 1, [2], [], .null),
  (54, 31, .invokevirtual 248, 3, [57, 680, 681, 682, 3, 0, 7], [], .null),
  (57, 32, .istore 4, 2, [4], [], .null)]
def xc78_2 : List xIns := [(59, 33, .iload 4, 2, [4], [], .null),
  (61, 34, .ldc 211, 2, [447], [], .int (1000000)),
  (63, 35, .if_icmp .lt 6, 3, [37], [], .null),
  (66, 36, .bipush (-4), 2, [], [], .int (-4)),
  (68, 37, .ireturn, 1, [], [], .null),
  (69, 38, .iload_n 3, 1, [3], [], .null),
  (70, 39, .ifCond .ge 8, 3, [41], [], .null),
  (73, 40, .iload 4, 2, [4], [], .null),
  (75, 41, .goto 12, 3, [46], [], .null),
  (78, 42, .aload_n 0, 1, [0], [], .null),
  (79, 43, .getfield 50, 3, [334, 9, 5, 1], [], .null),
  (82, 44, .getfield 251, 3, [247, 7, 3, 1], [], .null),
  (85, 45, .iload_n 3, 1, [3], [], .null),
  (86, 46, .iaload, 1, [], [], .null),
  (87, 0, .ireturn, 1, [], [], .null)]
def xc78 : List (List xIns) := [xc78_0, xc78_1, xc78_2]

/-- StepRings.hold(III)I -/
def xc79_0 : List xIns := [(0, 1, .aload_n 0, 1, [0], [], .null),
  (1, 2, .iload_n 1, 1, [1], [], .null),
  (2, 3, .invokevirtual 126, 3, [97, 405, 407, 0, 2, 0, 9], [], .null),
  (5, 4, .ifCond .eq 20, 3, [12], [], .null),
  (8, 5, .iload_n 2, 1, [2], [], .null),
  (9, 6, .invokestatic 75, 3, [91, 361, 362, 0, 1, 0], [], .null),
  (12, 7, .ifCond .eq 13, 3, [12], [], .null),
  (15, 8, .iload_n 3, 1, [3], [], .null),
  (16, 9, .iconst 0, 1, [], [], .int (0)),
  (17, 10, .ldc 119, 2, [396], [], .int (99999)),
  (19, 11, .invokestatic 79, 3, [90, 364, 365, 0, 3, 0], [], .null),
  (22, 12, .ifCond .ne 5, 3, [14], [], .null),
  (25, 13, .iconst (-1), 1, [], [], .int (-1)),
  (26, 14, .ireturn, 1, [], [], .null),
  (27, 15, .aload_n 0, 1, [0], [], .null),
  (28, 16, .getfield 28, 3, [332, 9, 3, 1], [], .null)]
def xc79_1 : List xIns := [(31, 17, .aload_n 0, 1, [0], [], .null),
  (32, 18, .getfield 10, 3, [329, 9, 0, 1], [], .null),
  (35, 19, .getfield 43, 3, [168, 8, 1, 1], [], .null),
  (38, 20, .getfield 132, 3, [134, 1, 2, 1], [], .null),
  (41, 21, .iload_n 1, 1, [1], [], .null),
  (42, 22, .iaload, 1, [], [], .null),
  (43, 23, .invokevirtual 148, 3, [19, 424, 425, 426, 2, 0, 2], [], .null),
  (46, 24, .astore 4, 2, [4], [], .null),
  (48, 25, .iconst 0, 1, [], [], .int (0)),
  (49, 26, .istore 5, 2, [5], [], .null),
  (51, 27, .iconst 0, 1, [], [], .int (0)),
  (52, 28, .istore 6, 2, [6], [], .null),
  (54, 29, .iload 6, 2, [6], [], .null),
  (56, 30, .bipush 12, 2, [], [], .int (12)),
  (58, 31, .if_icmp .ge 32, 3, [48], [], .null),
  (61, 32, .aload 4, 2, [4], [], .null)]
def xc79_2 : List xIns := [(63, 33, .iload_n 2, 1, [2], [], .null),
  (64, 34, .bipush 12, 2, [], [], .int (12)),
  (66, 35, .imul, 1, [], [], .null),
  (67, 36, .iload 6, 2, [6], [], .null),
  (69, 37, .iadd, 1, [], [], .null),
  (70, 38, .iaload, 1, [], [], .null),
  (71, 39, .iload_n 3, 1, [3], [], .null),
  (72, 40, .if_icmp .gt 12, 3, [46], [], .null),
  (75, 41, .iload 5, 2, [5], [], .null),
  (77, 42, .iconst 1, 1, [], [], .int (1)),
  (78, 43, .iload 6, 2, [6], [], .null),
  (80, 44, .ishl, 1, [], [], .null),
  (81, 45, .ior, 1, [], [], .null),
  (82, 46, .istore 5, 2, [5], [], .null),
  (84, 47, .iinc 6 1, 3, [6], [], .int (1)),
  (87, 48, .goto (-33), 3, [28], [], .null)]
def xc79_3 : List xIns := [(90, 49, .iload 5, 2, [5], [], .null),
  (92, 0, .ireturn, 1, [], [], .null)]
def xc79 : List (List xIns) := [xc79_0, xc79_1, xc79_2, xc79_3]

/-- StepRings.stops(II)I -/
def xc80_0 : List xIns := [(0, 1, .iload_n 1, 1, [1], [], .null),
  (1, 2, .invokestatic 75, 3, [91, 361, 362, 0, 1, 0], [], .null),
  (4, 3, .ifCond .eq 15, 3, [9], [], .null),
  (7, 4, .iload_n 2, 1, [2], [], .null),
  (8, 5, .invokestatic 75, 3, [91, 361, 362, 0, 1, 0], [], .null),
  (11, 6, .ifCond .eq 8, 3, [9], [], .null),
  (14, 7, .iload_n 1, 1, [1], [], .null),
  (15, 8, .iload_n 2, 1, [2], [], .null),
  (16, 9, .if_icmp .ne 5, 3, [11], [], .null),
  (19, 10, .iconst (-1), 1, [], [], .int (-1)),
  (20, 11, .ireturn, 1, [], [], .null),
  (21, 12, .aload_n 0, 1, [0], [], .null),
  (22, 13, .getfield 57, 3, [335, 9, 6, 1], [], .null),
  (25, 14, .iload_n 1, 1, [1], [], .null),
  (26, 15, .iload_n 2, 1, [2], [], .null),
  (27, 16, .invokevirtual 254, 3, [3, 704, 705, 706, 3, 0, 0], [], .null)]
def xc80_1 : List xIns := [(30, 0, .ireturn, 1, [], [], .null)]
def xc80 : List (List xIns) := [xc80_0, xc80_1]

/-- StepRings.image()I -/
def xc81_0 : List xIns := [(0, 1, .aload_n 0, 1, [0], [], .null),
  (1, 2, .getfield 16, 3, [330, 9, 1, 1], [], .null),
  (4, 3, .aload_n 0, 1, [0], [], .null),
  (5, 4, .getfield 10, 3, [329, 9, 0, 1], [], .null),
  (8, 5, .invokevirtual 257, 3, [61, 725, 726, 727, 2, 0, 8], [], .null),
  (11, 6, .aload_n 0, 1, [0], [], .null),
  (12, 7, .iconst 1, 1, [], [], .int (1)),
  (13, 8, .putfield 260, 3, [331, 9, 2, 2], [], .null),
  (16, 9, .iconst 1, 1, [], [], .int (1)),
  (17, 0, .ireturn, 1, [], [], .null)]
def xc81 : List (List xIns) := [xc81_0]

/-- StepRings.way(IIII)I -/
def xc82_0 : List xIns := [(0, 1, .iload_n 1, 1, [1], [], .null),
  (1, 2, .invokestatic 75, 3, [91, 361, 362, 0, 1, 0], [], .null),
  (4, 3, .ifCond .eq 15, 3, [9], [], .null),
  (7, 4, .iload_n 2, 1, [2], [], .null),
  (8, 5, .invokestatic 75, 3, [91, 361, 362, 0, 1, 0], [], .null),
  (11, 6, .ifCond .eq 8, 3, [9], [], .null),
  (14, 7, .iload_n 1, 1, [1], [], .null),
  (15, 8, .iload_n 2, 1, [2], [], .null),
  (16, 9, .if_icmp .ne 5, 3, [11], [], .null),
  (19, 10, .iconst (-1), 1, [], [], .int (-1)),
  (20, 11, .ireturn, 1, [], [], .null),
  (21, 12, .iload_n 3, 1, [3], [], .null),
  (22, 13, .iconst 1, 1, [], [], .int (1)),
  (23, 14, .bipush 99, 2, [], [], .int (99)),
  (25, 15, .invokestatic 79, 3, [90, 364, 365, 0, 3, 0], [], .null),
  (28, 16, .ifCond .eq 15, 3, [21], [], .null)]
def xc82_1 : List xIns := [(31, 17, .iload 4, 2, [4], [], .null),
  (33, 18, .bipush (-9), 2, [], [], .int (-9)),
  (35, 19, .bipush 9, 2, [], [], .int (9)),
  (37, 20, .invokestatic 79, 3, [90, 364, 365, 0, 3, 0], [], .null),
  (40, 21, .ifCond .ne 5, 3, [23], [], .null),
  (43, 22, .iconst (-1), 1, [], [], .int (-1)),
  (44, 23, .ireturn, 1, [], [], .null),
  (45, 24, .aload_n 0, 1, [0], [], .null),
  (46, 25, .getfield 10, 3, [329, 9, 0, 1], [], .null),
  (49, 26, .getfield 21, 3, [166, 8, 0, 1], [], .null),
  (52, 27, .getfield 83, 3, [84, 6, 0, 0], [], .null),
  (55, 28, .bipush 24, 2, [], [], .int (24)),
  (57, 29, .if_icmp .lt 6, 3, [31], [], .null),
  (60, 30, .bipush (-3), 2, [], [], .int (-3)),
  (62, 31, .ireturn, 1, [], [], .null),
  (63, 32, .aload_n 0, 1, [0], [], .null)]
def xc82_2 : List xIns := [(64, 33, .getfield 10, 3, [329, 9, 0, 1], [], .null),
  (67, 34, .getfield 21, 3, [166, 8, 0, 1], [], .null),
  (70, 35, .iload_n 1, 1, [1], [], .null),
  (71, 36, .iload_n 2, 1, [2], [], .null),
  (72, 37, .iload_n 3, 1, [3], [], .null),
  (73, 38, .iload 4, 2, [4], [], .null),
  (75, 39, .iconst 0, 1, [], [], .int (0)),
  (76, 40, .invokevirtual 89, 3, [52, 367, 368, 369, 6, 0, 6], [], .null),
  (79, 41, .istore 5, 2, [5], [], .null),
  (81, 42, .aload_n 0, 1, [0], [], .null),
  (82, 43, .getfield 28, 3, [332, 9, 3, 1], [], .null),
  (85, 44, .invokevirtual 93, 3, [18, 371, 372, 373, 1, 0, 2], [], .null),
  (88, 45, .iload 5, 2, [5], [], .null),
  (90, 0, .ireturn, 1, [], [], .null)]
def xc82 : List (List xIns) := [xc82_0, xc82_1, xc82_2]

/-- StepRings.restore()I -/
def xc83_0 : List xIns := [(0, 1, .aload_n 0, 1, [0], [], .null),
  (1, 2, .getfield 260, 3, [331, 9, 2, 2], [], .null),
  (4, 3, .ifCond .ne 6, 3, [5], [], .null),
  (7, 4, .bipush (-4), 2, [], [], .int (-4)),
  (9, 5, .ireturn, 1, [], [], .null),
  (10, 6, .aload_n 0, 1, [0], [], .null),
  (11, 7, .getfield 10, 3, [329, 9, 0, 1], [], .null),
  (14, 8, .aload_n 0, 1, [0], [], .null),
  (15, 9, .getfield 16, 3, [330, 9, 1, 1], [], .null),
  (18, 10, .invokevirtual 257, 3, [61, 725, 726, 727, 2, 0, 8], [], .null),
  (21, 11, .aload_n 0, 1, [0], [], .null),
  (22, 12, .getfield 28, 3, [332, 9, 3, 1], [], .null),
  (25, 13, .invokevirtual 93, 3, [18, 371, 372, 373, 1, 0, 2], [], .null),
  (28, 14, .iconst 1, 1, [], [], .int (1)),
  (29, 0, .ireturn, 1, [], [], .null)]
def xc83 : List (List xIns) := [xc83_0]

/-- StepRings.lies(III)I -/
def xc84_0 : List xIns := [(0, 1, .aload_n 0, 1, [0], [], .null),
  (1, 2, .iload_n 1, 1, [1], [], .null),
  (2, 3, .iload_n 2, 1, [2], [], .null),
  (3, 4, .iload_n 3, 1, [3], [], .null),
  (4, 5, .aload_n 0, 1, [0], [], .null),
  (5, 6, .getfield 10, 3, [329, 9, 0, 1], [], .null),
  (8, 7, .getfield 43, 3, [168, 8, 1, 1], [], .null),
  (11, 8, .getfield 120, 3, [125, 1, 0, 0], [], .null),
  (14, 9, .invokevirtual 264, 3, [101, 740, 742, 24, 5, 0, 9], [], .null),
  (17, 10, .istore 4, 2, [4], [], .null),
  (19, 11, .iload 4, 2, [4], [], .null),
  (21, 12, .ifCond .eq 6, 3, [14], [], .null),
  (24, 13, .iload 4, 2, [4], [], .null),
  (26, 14, .ireturn, 1, [], [], .null),
  (27, 15, .iconst 0, 1, [], [], .int (0)),
  (28, 16, .istore 5, 2, [5], [], .null)]
def xc84_1 : List xIns := [(30, 17, .iconst 0, 1, [], [], .int (0)),
  (31, 18, .istore 6, 2, [6], [], .null),
  (33, 19, .iload 6, 2, [6], [], .null),
  (35, 20, .aload_n 0, 1, [0], [], .null),
  (36, 21, .getfield 10, 3, [329, 9, 0, 1], [], .null),
  (39, 22, .getfield 43, 3, [168, 8, 1, 1], [], .null),
  (42, 23, .getfield 120, 3, [125, 1, 0, 0], [], .null),
  (45, 24, .if_icmp .ge 47, 3, [47], [], .null),
  (48, 25, .aload_n 0, 1, [0], [], .null),
  (49, 26, .getfield 10, 3, [329, 9, 0, 1], [], .null),
  (52, 27, .getfield 43, 3, [168, 8, 1, 1], [], .null),
  (55, 28, .iload 6, 2, [6], [], .null),
  (57, 29, .aload_n 0, 1, [0], [], .null),
  (58, 30, .getfield 70, 3, [337, 9, 8, 1], [], .null),
  (61, 31, .iload_n 1, 1, [1], [], .null),
  (62, 32, .aaload, 1, [], [], .null)]
def xc84_2 : List xIns := [(63, 33, .getfield 268, 3, [318, 3, 3, 1], [], .null),
  (66, 34, .iload_n 3, 1, [3], [], .null),
  (67, 35, .iload 6, 2, [6], [], .null),
  (69, 36, .iadd, 1, [], [], .null),
  (70, 37, .laload, 1, [], [], .null),
  (71, 38, .invokevirtual 272, 3, [14, 750, 751, 752, 3, 0, 1], [], .null),
  (74, 39, .ifCond .eq 12, 3, [45], [], .null),
  (77, 40, .iload 5, 2, [5], [], .null),
  (79, 41, .iconst 1, 1, [], [], .int (1)),
  (80, 42, .iload 6, 2, [6], [], .null),
  (82, 43, .ishl, 1, [], [], .null),
  (83, 44, .ior, 1, [], [], .null),
  (84, 45, .istore 5, 2, [5], [], .null),
  (86, 46, .iinc 6 1, 3, [6], [], .int (1)),
  (89, 47, .goto (-56), 3, [18], [], .null),
  (92, 48, .iload 5, 2, [5], [], .null)]
def xc84_3 : List xIns := [(94, 0, .ireturn, 1, [], [], .null)]
def xc84 : List (List xIns) := [xc84_0, xc84_1, xc84_2, xc84_3]

/-- StepRings.sheet(III)I -/
def xc85_0 : List xIns := [(0, 1, .iload_n 1, 1, [1], [], .null),
  (1, 2, .invokestatic 276, 3, [93, 744, 745, 0, 1, 0], [], .null),
  (4, 3, .ifCond .eq 16, 3, [9], [], .null),
  (7, 4, .iload_n 2, 1, [2], [], .null),
  (8, 5, .invokestatic 279, 3, [95, 747, 748, 0, 1, 0], [], .null),
  (11, 6, .ifCond .eq 9, 3, [9], [], .null),
  (14, 7, .iload_n 3, 1, [3], [], .null),
  (15, 8, .bipush 24, 2, [], [], .int (24)),
  (17, 9, .if_icmp .le 5, 3, [11], [], .null),
  (20, 10, .iconst (-1), 1, [], [], .int (-1)),
  (21, 11, .ireturn, 1, [], [], .null),
  (22, 12, .iload_n 3, 1, [3], [], .null),
  (23, 13, .ifCond .ge 6, 3, [15], [], .null),
  (26, 14, .bipush (-14), 2, [], [], .int (-14)),
  (28, 15, .ireturn, 1, [], [], .null),
  (29, 16, .aload_n 0, 1, [0], [], .null)]
def xc85_1 : List xIns := [(30, 17, .getfield 70, 3, [337, 9, 8, 1], [], .null),
  (33, 18, .iload_n 1, 1, [1], [], .null),
  (34, 19, .aaload, 1, [], [], .null),
  (35, 20, .iload_n 2, 1, [2], [], .null),
  (36, 21, .iload_n 3, 1, [3], [], .null),
  (37, 22, .invokevirtual 282, 3, [24, 758, 759, 760, 3, 0, 3], [], .null),
  (40, 23, .iload_n 3, 1, [3], [], .null),
  (41, 0, .ireturn, 1, [], [], .null)]
def xc85 : List (List xIns) := [xc85_0, xc85_1]

/-- StepRings.drop(I)I -/
def xc86_0 : List xIns := [(0, 1, .iload_n 1, 1, [1], [], .null),
  (1, 2, .invokestatic 276, 3, [93, 744, 745, 0, 1, 0], [], .null),
  (4, 3, .ifCond .ne 5, 3, [5], [], .null),
  (7, 4, .iconst (-1), 1, [], [], .int (-1)),
  (8, 5, .ireturn, 1, [], [], .null),
  (9, 6, .aload_n 0, 1, [0], [], .null),
  (10, 7, .getfield 70, 3, [337, 9, 8, 1], [], .null),
  (13, 8, .iload_n 1, 1, [1], [], .null),
  (14, 9, .aaload, 1, [], [], .null),
  (15, 10, .getfield 286, 3, [312, 3, 0, 2], [], .null),
  (18, 11, .ifCond .ne 6, 3, [13], [], .null),
  (21, 12, .bipush (-11), 2, [], [], .int (-11)),
  (23, 13, .ireturn, 1, [], [], .null),
  (24, 14, .aload_n 0, 1, [0], [], .null),
  (25, 15, .getfield 70, 3, [337, 9, 8, 1], [], .null),
  (28, 16, .iload_n 1, 1, [1], [], .null)]
def xc86_1 : List xIns := [(29, 17, .aaload, 1, [], [], .null),
  (30, 18, .iconst 0, 1, [], [], .int (0)),
  (31, 19, .putfield 286, 3, [312, 3, 0, 2], [], .null),
  (34, 20, .aload_n 0, 1, [0], [], .null),
  (35, 21, .getfield 70, 3, [337, 9, 8, 1], [], .null),
  (38, 22, .iload_n 1, 1, [1], [], .null),
  (39, 23, .aaload, 1, [], [], .null),
  (40, 24, .getfield 289, 3, [316, 3, 2, 0], [], .null),
  (43, 0, .ireturn, 1, [], [], .null)]
def xc86 : List (List xIns) := [xc86_0, xc86_1]

/-- StepRings.item(IIIJ)I -/
def xc87_0 : List xIns := [(0, 1, .aload_n 0, 1, [0], [], .null),
  (1, 2, .iload_n 1, 1, [1], [], .null),
  (2, 3, .iload_n 2, 1, [2], [], .null),
  (3, 4, .iload_n 3, 1, [3], [], .null),
  (4, 5, .iconst 1, 1, [], [], .int (1)),
  (5, 6, .invokevirtual 264, 3, [101, 740, 742, 24, 5, 0, 9], [], .null),
  (8, 7, .istore 6, 2, [6], [], .null),
  (10, 8, .iload 6, 2, [6], [], .null),
  (12, 9, .ifCond .eq 6, 3, [11], [], .null),
  (15, 10, .iload 6, 2, [6], [], .null),
  (17, 11, .ireturn, 1, [], [], .null),
  (18, 12, .aload_n 0, 1, [0], [], .null),
  (19, 13, .getfield 70, 3, [337, 9, 8, 1], [], .null),
  (22, 14, .iload_n 1, 1, [1], [], .null),
  (23, 15, .aaload, 1, [], [], .null),
  (24, 16, .iload_n 3, 1, [3], [], .null)]
def xc87_1 : List xIns := [(25, 17, .lload 4, 2, [4], [], .null),
  (27, 18, .invokevirtual 290, 3, [25, 773, 774, 775, 3, 0, 3], [], .null),
  (30, 19, .iconst 1, 1, [], [], .int (1)),
  (31, 0, .ireturn, 1, [], [], .null)]
def xc87 : List (List xIns) := [xc87_0, xc87_1]

/-- StepRings.film(III)I -/
def xc88_0 : List xIns := [(0, 1, .aload_n 0, 1, [0], [], .null),
  (1, 2, .iload_n 1, 1, [1], [], .null),
  (2, 3, .iload_n 2, 1, [2], [], .null),
  (3, 4, .iload_n 3, 1, [3], [], .null),
  (4, 5, .aload_n 0, 1, [0], [], .null),
  (5, 6, .getfield 10, 3, [329, 9, 0, 1], [], .null),
  (8, 7, .getfield 43, 3, [168, 8, 1, 1], [], .null),
  (11, 8, .getfield 120, 3, [125, 1, 0, 0], [], .null),
  (14, 9, .invokevirtual 264, 3, [101, 740, 742, 24, 5, 0, 9], [], .null),
  (17, 10, .istore 4, 2, [4], [], .null),
  (19, 11, .iload 4, 2, [4], [], .null),
  (21, 12, .ifCond .eq 6, 3, [14], [], .null),
  (24, 13, .iload 4, 2, [4], [], .null),
  (26, 14, .ireturn, 1, [], [], .null),
  (27, 15, .iconst 0, 1, [], [], .int (0)),
  (28, 16, .istore 5, 2, [5], [], .null)]
def xc88_1 : List xIns := [(30, 17, .iload 5, 2, [5], [], .null),
  (32, 18, .aload_n 0, 1, [0], [], .null),
  (33, 19, .getfield 10, 3, [329, 9, 0, 1], [], .null),
  (36, 20, .getfield 43, 3, [168, 8, 1, 1], [], .null),
  (39, 21, .getfield 120, 3, [125, 1, 0, 0], [], .null),
  (42, 22, .if_icmp .ge 36, 3, [39], [], .null),
  (45, 23, .aload_n 0, 1, [0], [], .null),
  (46, 24, .getfield 70, 3, [337, 9, 8, 1], [], .null),
  (49, 25, .iload_n 1, 1, [1], [], .null),
  (50, 26, .aaload, 1, [], [], .null),
  (51, 27, .iload_n 3, 1, [3], [], .null),
  (52, 28, .iload 5, 2, [5], [], .null),
  (54, 29, .iadd, 1, [], [], .null),
  (55, 30, .aload_n 0, 1, [0], [], .null),
  (56, 31, .getfield 10, 3, [329, 9, 0, 1], [], .null),
  (59, 32, .getfield 43, 3, [168, 8, 1, 1], [], .null)]
def xc88_2 : List xIns := [(62, 33, .getfield 135, 3, [136, 1, 3, 1], [], .null),
  (65, 34, .iload 5, 2, [5], [], .null),
  (67, 35, .iaload, 1, [], [], .null),
  (68, 36, .i2l, 1, [], [], .null),
  (69, 37, .invokevirtual 290, 3, [25, 773, 774, 775, 3, 0, 3], [], .null),
  (72, 38, .iinc 5 1, 3, [5], [], .int (1)),
  (75, 39, .goto (-45), 3, [16], [], .null),
  (78, 40, .aload_n 0, 1, [0], [], .null),
  (79, 41, .getfield 10, 3, [329, 9, 0, 1], [], .null),
  (82, 42, .getfield 43, 3, [168, 8, 1, 1], [], .null),
  (85, 43, .getfield 120, 3, [125, 1, 0, 0], [], .null),
  (88, 0, .ireturn, 1, [], [], .null)]
def xc88 : List (List xIns) := [xc88_0, xc88_1, xc88_2]

/-- StepRings.isWithin(III)Z -/
def xc89_0 : List xIns := [(0, 1, .iload_n 0, 1, [0], [], .null),
  (1, 2, .iload_n 1, 1, [1], [], .null),
  (2, 3, .if_icmp .lt 12, 3, [8], [], .null),
  (5, 4, .iload_n 0, 1, [0], [], .null),
  (6, 5, .iload_n 2, 1, [2], [], .null),
  (7, 6, .if_icmp .gt 7, 3, [8], [], .null),
  (10, 7, .iconst 1, 1, [], [], .int (1)),
  (11, 8, .goto 4, 3, [9], [], .null),
  (14, 9, .iconst 0, 1, [], [], .int (0)),
  (15, 0, .ireturn, 1, [], [], .null)]
def xc89 : List (List xIns) := [xc89_0]

/-- StepRings.isPlace(I)Z -/
def xc90_0 : List xIns := [(0, 1, .iload_n 0, 1, [0], [], .null),
  (1, 2, .iconst 0, 1, [], [], .int (0)),
  (2, 3, .bipush 11, 2, [], [], .int (11)),
  (4, 4, .invokestatic 79, 3, [90, 364, 365, 0, 3, 0], [], .null),
  (7, 0, .ireturn, 1, [], [], .null)]
def xc90 : List (List xIns) := [xc90_0]

/-- StepRings.isKind(I)Z -/
def xc91_0 : List xIns := [(0, 1, .iload_n 0, 1, [0], [], .null),
  (1, 2, .iconst 0, 1, [], [], .int (0)),
  (2, 3, .iconst 3, 1, [], [], .int (3)),
  (3, 4, .invokestatic 79, 3, [90, 364, 365, 0, 3, 0], [], .null),
  (6, 0, .ireturn, 1, [], [], .null)]
def xc91 : List (List xIns) := [xc91_0]

/-- StepRings.isSheet(I)Z -/
def xc92_0 : List xIns := [(0, 1, .iload_n 0, 1, [0], [], .null),
  (1, 2, .iconst 0, 1, [], [], .int (0)),
  (2, 3, .iconst 3, 1, [], [], .int (3)),
  (3, 4, .invokestatic 79, 3, [90, 364, 365, 0, 3, 0], [], .null),
  (6, 0, .ireturn, 1, [], [], .null)]
def xc92 : List (List xIns) := [xc92_0]

/-- StepRings.gate(IZ)I -/
def xc93_0 : List xIns := [(0, 1, .aload_n 0, 1, [0], [], .null),
  (1, 2, .getfield 10, 3, [329, 9, 0, 1], [], .null),
  (4, 3, .getfield 21, 3, [166, 8, 0, 1], [], .null),
  (7, 4, .iload_n 1, 1, [1], [], .null),
  (8, 5, .invokevirtual 96, 3, [51, 379, 380, 381, 2, 0, 6], [], .null),
  (11, 6, .ifCond .ne 5, 3, [8], [], .null),
  (14, 7, .iconst (-1), 1, [], [], .int (-1)),
  (15, 8, .ireturn, 1, [], [], .null),
  (16, 9, .aload_n 0, 1, [0], [], .null),
  (17, 10, .getfield 10, 3, [329, 9, 0, 1], [], .null),
  (20, 11, .getfield 21, 3, [166, 8, 0, 1], [], .null),
  (23, 12, .getfield 99, 3, [101, 6, 5, 1], [], .null),
  (26, 13, .iload_n 1, 1, [1], [], .null),
  (27, 14, .iaload, 1, [], [], .null),
  (28, 15, .istore_n 3, 1, [3], [], .null),
  (29, 16, .aload_n 0, 1, [0], [], .null)]
def xc93_1 : List xIns := [(30, 17, .getfield 10, 3, [329, 9, 0, 1], [], .null),
  (33, 18, .getfield 21, 3, [166, 8, 0, 1], [], .null),
  (36, 19, .getfield 99, 3, [101, 6, 5, 1], [], .null),
  (39, 20, .iload_n 1, 1, [1], [], .null),
  (40, 21, .iload_n 2, 1, [2], [], .null),
  (41, 22, .ifCond .eq 7, 3, [24], [], .null),
  (44, 23, .iconst 1, 1, [], [], .int (1)),
  (45, 24, .goto 4, 3, [25], [], .null),
  (48, 25, .iconst 0, 1, [], [], .int (0)),
  (49, 26, .iastore, 1, [], [], .null),
  (50, 27, .iload_n 3, 1, [3], [], .null),
  (51, 0, .ireturn, 1, [], [], .null)]
def xc93 : List (List xIns) := [xc93_0, xc93_1]

/-- StepRings.isLane(I)Z -/
def xc94_0 : List xIns := [(0, 1, .iload_n 0, 1, [0], [], .null),
  (1, 2, .iconst 0, 1, [], [], .int (0)),
  (2, 3, .iconst 2, 1, [], [], .int (2)),
  (3, 4, .invokestatic 79, 3, [90, 364, 365, 0, 3, 0], [], .null),
  (6, 0, .ireturn, 1, [], [], .null)]
def xc94 : List (List xIns) := [xc94_0]

/-- StepRings.orNone(I)I -/
def xc95_0 : List xIns := [(0, 1, .iload_n 0, 1, [0], [], .null),
  (1, 2, .ldc 211, 2, [447], [], .int (1000000)),
  (3, 3, .if_icmp .lt 8, 3, [5], [], .null),
  (6, 4, .bipush (-4), 2, [], [], .int (-4)),
  (8, 5, .goto 4, 3, [6], [], .null),
  (11, 6, .iload_n 0, 1, [0], [], .null),
  (12, 0, .ireturn, 1, [], [], .null)]
def xc95 : List (List xIns) := [xc95_0]

/-- StepRings.isPerson(I)Z -/
def xc96_0 : List xIns := [(0, 1, .iload_n 1, 1, [1], [], .null),
  (1, 2, .iconst 0, 1, [], [], .int (0)),
  (2, 3, .aload_n 0, 1, [0], [], .null),
  (3, 4, .getfield 10, 3, [329, 9, 0, 1], [], .null),
  (6, 5, .getfield 43, 3, [168, 8, 1, 1], [], .null),
  (9, 6, .getfield 120, 3, [125, 1, 0, 0], [], .null),
  (12, 7, .iconst 1, 1, [], [], .int (1)),
  (13, 8, .isub, 1, [], [], .null),
  (14, 9, .invokestatic 79, 3, [90, 364, 365, 0, 3, 0], [], .null),
  (17, 0, .ireturn, 1, [], [], .null)]
def xc96 : List (List xIns) := [xc96_0]

/-- StepRings.areTwo(II)Z -/
def xc97_0 : List xIns := [(0, 1, .aload_n 0, 1, [0], [], .null),
  (1, 2, .iload_n 1, 1, [1], [], .null),
  (2, 3, .invokevirtual 126, 3, [97, 405, 407, 0, 2, 0, 9], [], .null),
  (5, 4, .ifCond .eq 20, 3, [13], [], .null),
  (8, 5, .aload_n 0, 1, [0], [], .null),
  (9, 6, .iload_n 2, 1, [2], [], .null),
  (10, 7, .invokevirtual 126, 3, [97, 405, 407, 0, 2, 0, 9], [], .null),
  (13, 8, .ifCond .eq 12, 3, [13], [], .null),
  (16, 9, .iload_n 1, 1, [1], [], .null),
  (17, 10, .iload_n 2, 1, [2], [], .null),
  (18, 11, .if_icmp .eq 7, 3, [13], [], .null),
  (21, 12, .iconst 1, 1, [], [], .int (1)),
  (22, 13, .goto 4, 3, [14], [], .null),
  (25, 14, .iconst 0, 1, [], [], .int (0)),
  (26, 0, .ireturn, 1, [], [], .null)]
def xc97 : List (List xIns) := [xc97_0]

/-- StepRings.farFromNow(II)I -/
def xc98_0 : List xIns := [(0, 1, .aload_n 0, 1, [0], [], .null),
  (1, 2, .getfield 28, 3, [332, 9, 3, 1], [], .null),
  (4, 3, .aload_n 0, 1, [0], [], .null),
  (5, 4, .getfield 10, 3, [329, 9, 0, 1], [], .null),
  (8, 5, .getfield 43, 3, [168, 8, 1, 1], [], .null),
  (11, 6, .getfield 132, 3, [134, 1, 2, 1], [], .null),
  (14, 7, .iload_n 1, 1, [1], [], .null),
  (15, 8, .iaload, 1, [], [], .null),
  (16, 9, .invokevirtual 148, 3, [19, 424, 425, 426, 2, 0, 2], [], .null),
  (19, 10, .aload_n 0, 1, [0], [], .null),
  (20, 11, .getfield 10, 3, [329, 9, 0, 1], [], .null),
  (23, 12, .getfield 43, 3, [168, 8, 1, 1], [], .null),
  (26, 13, .getfield 138, 3, [139, 1, 4, 1], [], .null),
  (29, 14, .iload_n 1, 1, [1], [], .null),
  (30, 15, .iaload, 1, [], [], .null),
  (31, 16, .bipush 12, 2, [], [], .int (12))]
def xc98_1 : List xIns := [(33, 17, .imul, 1, [], [], .null),
  (34, 18, .iload_n 2, 1, [2], [], .null),
  (35, 19, .iadd, 1, [], [], .null),
  (36, 20, .iaload, 1, [], [], .null),
  (37, 0, .ireturn, 1, [], [], .null)]
def xc98 : List (List xIns) := [xc98_0, xc98_1]

/-- StepRings.walk(III)I -/
def xc99_0 : List xIns := [(0, 1, .aload_n 0, 1, [0], [], .null),
  (1, 2, .getfield 10, 3, [329, 9, 0, 1], [], .null),
  (4, 3, .getfield 43, 3, [168, 8, 1, 1], [], .null),
  (7, 4, .astore 4, 2, [4], [], .null),
  (9, 5, .aload 4, 2, [4], [], .null),
  (11, 6, .getfield 132, 3, [134, 1, 2, 1], [], .null),
  (14, 7, .iload_n 1, 1, [1], [], .null),
  (15, 8, .iaload, 1, [], [], .null),
  (16, 9, .istore 5, 2, [5], [], .null),
  (18, 10, .iconst 0, 1, [], [], .int (0)),
  (19, 11, .istore 6, 2, [6], [], .null),
  (21, 12, .iload 6, 2, [6], [], .null),
  (23, 13, .bipush 12, 2, [], [], .int (12)),
  (25, 14, .if_icmp .ge 176, 3, [100], [], .null),
  (28, 15, .aload 4, 2, [4], [], .null),
  (30, 16, .getfield 138, 3, [139, 1, 4, 1], [], .null)]
def xc99_1 : List xIns := [(33, 17, .iload_n 1, 1, [1], [], .null),
  (34, 18, .iaload, 1, [], [], .null),
  (35, 19, .iload_n 2, 1, [2], [], .null),
  (36, 20, .if_icmp .eq 165, 3, [100], [], .null),
  (39, 21, .aload 4, 2, [4], [], .null),
  (41, 22, .getfield 138, 3, [139, 1, 4, 1], [], .null),
  (44, 23, .iload_n 1, 1, [1], [], .null),
  (45, 24, .iaload, 1, [], [], .null),
  (46, 25, .istore 7, 2, [7], [], .null),
  (48, 26, .aload_n 0, 1, [0], [], .null),
  (49, 27, .getfield 28, 3, [332, 9, 3, 1], [], .null),
  (52, 28, .iload 5, 2, [5], [], .null),
  (54, 29, .iload 7, 2, [7], [], .null),
  (56, 30, .iload_n 2, 1, [2], [], .null),
  (57, 31, .invokevirtual 294, 3, [20, 567, 568, 569, 4, 0, 2], [], .null),
  (60, 32, .istore 8, 2, [8], [], .null)]
def xc99_2 : List xIns := [(62, 33, .iload 8, 2, [8], [], .null),
  (64, 34, .ifCond .ge 6, 3, [35], [], .null),
  (67, 35, .goto 134, 3, [100], [], .null),
  (70, 36, .iload_n 3, 1, [3], [], .null),
  (71, 37, .aload_n 0, 1, [0], [], .null),
  (72, 38, .getfield 10, 3, [329, 9, 0, 1], [], .null),
  (75, 39, .getfield 21, 3, [166, 8, 0, 1], [], .null),
  (78, 40, .iload 8, 2, [8], [], .null),
  (80, 41, .iload 5, 2, [5], [], .null),
  (82, 42, .aload_n 0, 1, [0], [], .null),
  (83, 43, .getfield 10, 3, [329, 9, 0, 1], [], .null),
  (86, 44, .getfield 21, 3, [166, 8, 0, 1], [], .null),
  (89, 45, .getfield 104, 3, [91, 6, 1, 1], [], .null),
  (92, 46, .iload 8, 2, [8], [], .null),
  (94, 47, .iaload, 1, [], [], .null),
  (95, 48, .iload 7, 2, [7], [], .null)]
def xc99_3 : List xIns := [(97, 49, .if_icmp .ne 7, 3, [51], [], .null),
  (100, 50, .iconst 1, 1, [], [], .int (1)),
  (101, 51, .goto 4, 3, [52], [], .null),
  (104, 52, .iconst 0, 1, [], [], .int (0)),
  (105, 53, .invokevirtual 144, 3, [54, 413, 414, 415, 4, 0, 6], [], .null),
  (108, 54, .imul, 1, [], [], .null),
  (109, 55, .istore 9, 2, [9], [], .null),
  (111, 56, .aload 4, 2, [4], [], .null),
  (113, 57, .getfield 135, 3, [136, 1, 3, 1], [], .null),
  (116, 58, .iload_n 1, 1, [1], [], .null),
  (117, 59, .dup2, 1, [], [], .null),
  (118, 60, .iaload, 1, [], [], .null),
  (119, 61, .iload 9, 2, [9], [], .null),
  (121, 62, .isub, 1, [], [], .null),
  (122, 63, .iastore, 1, [], [], .null),
  (123, 64, .aload 4, 2, [4], [], .null)]
def xc99_4 : List xIns := [(125, 65, .getfield 138, 3, [139, 1, 4, 1], [], .null),
  (128, 66, .iload_n 1, 1, [1], [], .null),
  (129, 67, .aload_n 0, 1, [0], [], .null),
  (130, 68, .getfield 10, 3, [329, 9, 0, 1], [], .null),
  (133, 69, .getfield 21, 3, [166, 8, 0, 1], [], .null),
  (136, 70, .iload 8, 2, [8], [], .null),
  (138, 71, .iload 7, 2, [7], [], .null),
  (140, 72, .invokevirtual 297, 3, [53, 576, 573, 574, 3, 0, 6], [], .null),
  (143, 73, .iastore, 1, [], [], .null),
  (144, 74, .aload_n 0, 1, [0], [], .null),
  (145, 75, .getfield 10, 3, [329, 9, 0, 1], [], .null),
  (148, 76, .getfield 21, 3, [166, 8, 0, 1], [], .null),
  (151, 77, .getfield 99, 3, [101, 6, 5, 1], [], .null),
  (154, 78, .iload 8, 2, [8], [], .null),
  (156, 79, .iaload, 1, [], [], .null),
  (157, 80, .ifCond .eq 15, 3, [88], [], .null)]
def xc99_5 : List xIns := [(160, 81, .aload 4, 2, [4], [], .null),
  (162, 82, .getfield 141, 3, [141, 1, 5, 1], [], .null),
  (165, 83, .iload_n 1, 1, [1], [], .null),
  (166, 84, .dup2, 1, [], [], .null),
  (167, 85, .iaload, 1, [], [], .null),
  (168, 86, .iload 9, 2, [9], [], .null),
  (170, 87, .iadd, 1, [], [], .null),
  (171, 88, .iastore, 1, [], [], .null),
  (172, 89, .aload_n 0, 1, [0], [], .null),
  (173, 90, .getfield 10, 3, [329, 9, 0, 1], [], .null),
  (176, 91, .ldc_w 300, 3, [577], [], .int (1000000000)),
  (179, 92, .aload_n 0, 1, [0], [], .null),
  (180, 93, .getfield 10, 3, [329, 9, 0, 1], [], .null),
  (183, 94, .getfield 204, 3, [181, 8, 6, 0], [], .null),
  (186, 95, .iload 9, 2, [9], [], .null),
  (188, 96, .iadd, 1, [], [], .null)]
def xc99_6 : List xIns := [(189, 97, .invokestatic 301, 3, [0, 578, 2], [], .null),
  (192, 98, .putfield 204, 3, [181, 8, 6, 0], [], .null),
  (195, 99, .iinc 6 1, 3, [6], [], .int (1)),
  (198, 100, .goto (-177), 3, [11], [], .null),
  (201, 101, .aload 4, 2, [4], [], .null),
  (203, 102, .getfield 135, 3, [136, 1, 3, 1], [], .null),
  (206, 103, .iload_n 1, 1, [1], [], .null),
  (207, 104, .iaload, 1, [], [], .null),
  (208, 0, .ireturn, 1, [], [], .null)]
def xc99 : List (List xIns) := [xc99_0, xc99_1, xc99_2, xc99_3, xc99_4, xc99_5, xc99_6]

/-- StepRings.refusedRow(IIII)I -/
def xc100_0 : List xIns := [(0, 1, .iload_n 1, 1, [1], [], .null),
  (1, 2, .invokestatic 276, 3, [93, 744, 745, 0, 1, 0], [], .null),
  (4, 3, .ifCond .eq 10, 3, [6], [], .null),
  (7, 4, .iload_n 2, 1, [2], [], .null),
  (8, 5, .invokestatic 279, 3, [95, 747, 748, 0, 1, 0], [], .null),
  (11, 6, .ifCond .ne 5, 3, [8], [], .null),
  (14, 7, .iconst (-1), 1, [], [], .int (-1)),
  (15, 8, .ireturn, 1, [], [], .null),
  (16, 9, .aload_n 0, 1, [0], [], .null),
  (17, 10, .getfield 70, 3, [337, 9, 8, 1], [], .null),
  (20, 11, .iload_n 1, 1, [1], [], .null),
  (21, 12, .aaload, 1, [], [], .null),
  (22, 13, .getfield 286, 3, [312, 3, 0, 2], [], .null),
  (25, 14, .ifCond .ne 6, 3, [16], [], .null),
  (28, 15, .bipush (-11), 2, [], [], .int (-11)),
  (30, 16, .ireturn, 1, [], [], .null)]
def xc100_1 : List xIns := [(31, 17, .aload_n 0, 1, [0], [], .null),
  (32, 18, .getfield 70, 3, [337, 9, 8, 1], [], .null),
  (35, 19, .iload_n 1, 1, [1], [], .null),
  (36, 20, .aaload, 1, [], [], .null),
  (37, 21, .getfield 306, 3, [314, 3, 1, 0], [], .null),
  (40, 22, .iload_n 2, 1, [2], [], .null),
  (41, 23, .if_icmp .eq 6, 3, [25], [], .null),
  (44, 24, .bipush (-12), 2, [], [], .int (-12)),
  (46, 25, .ireturn, 1, [], [], .null),
  (47, 26, .iload_n 3, 1, [3], [], .null),
  (48, 27, .ifCond .lt 19, 3, [36], [], .null),
  (51, 28, .iload_n 3, 1, [3], [], .null),
  (52, 29, .aload_n 0, 1, [0], [], .null),
  (53, 30, .getfield 70, 3, [337, 9, 8, 1], [], .null),
  (56, 31, .iload_n 1, 1, [1], [], .null),
  (57, 32, .aaload, 1, [], [], .null)]
def xc100_2 : List xIns := [(58, 33, .getfield 289, 3, [316, 3, 2, 0], [], .null),
  (61, 34, .iload 4, 2, [4], [], .null),
  (63, 35, .isub, 1, [], [], .null),
  (64, 36, .if_icmp .le 6, 3, [38], [], .null),
  (67, 37, .bipush (-13), 2, [], [], .int (-13)),
  (69, 38, .ireturn, 1, [], [], .null),
  (70, 39, .iconst 0, 1, [], [], .int (0)),
  (71, 0, .ireturn, 1, [], [], .null)]
def xc100 : List (List xIns) := [xc100_0, xc100_1, xc100_2]

/-- StepRings.told(II)I -/
def xc101_0 : List xIns := [(0, 1, .aload_n 0, 1, [0], [], .null),
  (1, 2, .getfield 10, 3, [329, 9, 0, 1], [], .null),
  (4, 3, .getfield 21, 3, [166, 8, 0, 1], [], .null),
  (7, 4, .iload_n 1, 1, [1], [], .null),
  (8, 5, .invokevirtual 96, 3, [51, 379, 380, 381, 2, 0, 6], [], .null),
  (11, 6, .ifCond .ne 6, 3, [8], [], .null),
  (14, 7, .ldc 103, 2, [388], [], .int (-100001)),
  (16, 8, .ireturn, 1, [], [], .null),
  (17, 9, .iload_n 2, 1, [2], [], .null),
  (18, 10, .tableswitch 99 0 4 #[34, 47, 60, 73, 86], 34, [45], [(0, 10), (1, 17), (2, 24), (3, 31), (4, 38)], .null),
  (52, 11, .aload_n 0, 1, [0], [], .null),
  (53, 12, .getfield 10, 3, [329, 9, 0, 1], [], .null),
  (56, 13, .getfield 21, 3, [166, 8, 0, 1], [], .null),
  (59, 14, .getfield 104, 3, [91, 6, 1, 1], [], .null),
  (62, 15, .iload_n 1, 1, [1], [], .null),
  (63, 16, .iaload, 1, [], [], .null)]
def xc101_1 : List xIns := [(64, 17, .ireturn, 1, [], [], .null),
  (65, 18, .aload_n 0, 1, [0], [], .null),
  (66, 19, .getfield 10, 3, [329, 9, 0, 1], [], .null),
  (69, 20, .getfield 21, 3, [166, 8, 0, 1], [], .null),
  (72, 21, .getfield 107, 3, [94, 6, 2, 1], [], .null),
  (75, 22, .iload_n 1, 1, [1], [], .null),
  (76, 23, .iaload, 1, [], [], .null),
  (77, 24, .ireturn, 1, [], [], .null),
  (78, 25, .aload_n 0, 1, [0], [], .null),
  (79, 26, .getfield 10, 3, [329, 9, 0, 1], [], .null),
  (82, 27, .getfield 21, 3, [166, 8, 0, 1], [], .null),
  (85, 28, .getfield 110, 3, [97, 6, 3, 1], [], .null),
  (88, 29, .iload_n 1, 1, [1], [], .null),
  (89, 30, .iaload, 1, [], [], .null),
  (90, 31, .ireturn, 1, [], [], .null),
  (91, 32, .aload_n 0, 1, [0], [], .null)]
def xc101_2 : List xIns := [(92, 33, .getfield 10, 3, [329, 9, 0, 1], [], .null),
  (95, 34, .getfield 21, 3, [166, 8, 0, 1], [], .null),
  (98, 35, .getfield 113, 3, [99, 6, 4, 1], [], .null),
  (101, 36, .iload_n 1, 1, [1], [], .null),
  (102, 37, .iaload, 1, [], [], .null),
  (103, 38, .ireturn, 1, [], [], .null),
  (104, 39, .aload_n 0, 1, [0], [], .null),
  (105, 40, .getfield 10, 3, [329, 9, 0, 1], [], .null),
  (108, 41, .getfield 21, 3, [166, 8, 0, 1], [], .null),
  (111, 42, .getfield 99, 3, [101, 6, 5, 1], [], .null),
  (114, 43, .iload_n 1, 1, [1], [], .null),
  (115, 44, .iaload, 1, [], [], .null),
  (116, 45, .ireturn, 1, [], [], .null),
  (117, 46, .ldc 103, 2, [388], [], .int (-100001)),
  (119, 0, .ireturn, 1, [], [], .null)]
def xc101 : List (List xIns) := [xc101_0, xc101_1, xc101_2]

/-- StepRings.person(III)I -/
def xc102_0 : List xIns := [(0, 1, .iload_n 1, 1, [1], [], .null),
  (1, 2, .invokestatic 75, 3, [91, 361, 362, 0, 1, 0], [], .null),
  (4, 3, .ifCond .eq 20, 3, [11], [], .null),
  (7, 4, .iload_n 2, 1, [2], [], .null),
  (8, 5, .invokestatic 116, 3, [92, 393, 394, 0, 1, 0], [], .null),
  (11, 6, .ifCond .eq 13, 3, [11], [], .null),
  (14, 7, .iload_n 3, 1, [3], [], .null),
  (15, 8, .iconst 0, 1, [], [], .int (0)),
  (16, 9, .ldc 119, 2, [396], [], .int (99999)),
  (18, 10, .invokestatic 79, 3, [90, 364, 365, 0, 3, 0], [], .null),
  (21, 11, .ifCond .ne 5, 3, [13], [], .null),
  (24, 12, .iconst (-1), 1, [], [], .int (-1)),
  (25, 13, .ireturn, 1, [], [], .null),
  (26, 14, .aload_n 0, 1, [0], [], .null),
  (27, 15, .getfield 10, 3, [329, 9, 0, 1], [], .null),
  (30, 16, .getfield 43, 3, [168, 8, 1, 1], [], .null)]
def xc102_1 : List xIns := [(33, 17, .getfield 120, 3, [125, 1, 0, 0], [], .null),
  (36, 18, .bipush 8, 2, [], [], .int (8)),
  (38, 19, .if_icmp .lt 6, 3, [21], [], .null),
  (41, 20, .bipush (-3), 2, [], [], .int (-3)),
  (43, 21, .ireturn, 1, [], [], .null),
  (44, 22, .aload_n 0, 1, [0], [], .null),
  (45, 23, .getfield 10, 3, [329, 9, 0, 1], [], .null),
  (48, 24, .getfield 43, 3, [168, 8, 1, 1], [], .null),
  (51, 25, .iload_n 1, 1, [1], [], .null),
  (52, 26, .iload_n 2, 1, [2], [], .null),
  (53, 27, .iload_n 3, 1, [3], [], .null),
  (54, 28, .invokevirtual 123, 3, [9, 397, 398, 399, 4, 0, 1], [], .null),
  (57, 0, .ireturn, 1, [], [], .null)]
def xc102 : List (List xIns) := [xc102_0, xc102_1]

/-- StepRings.of(II)I -/
def xc103_0 : List xIns := [(0, 1, .aload_n 0, 1, [0], [], .null),
  (1, 2, .iload_n 1, 1, [1], [], .null),
  (2, 3, .invokevirtual 126, 3, [97, 405, 407, 0, 2, 0, 9], [], .null),
  (5, 4, .ifCond .ne 5, 3, [6], [], .null),
  (8, 5, .iconst (-1), 1, [], [], .int (-1)),
  (9, 6, .ireturn, 1, [], [], .null),
  (10, 7, .iload_n 2, 1, [2], [], .null),
  (11, 8, .tableswitch 98 0 4 #[33, 46, 59, 72, 85], 33, [43], [(0, 8), (1, 15), (2, 22), (3, 29), (4, 36)], .null),
  (44, 9, .aload_n 0, 1, [0], [], .null),
  (45, 10, .getfield 10, 3, [329, 9, 0, 1], [], .null),
  (48, 11, .getfield 43, 3, [168, 8, 1, 1], [], .null),
  (51, 12, .getfield 129, 3, [130, 1, 1, 1], [], .null),
  (54, 13, .iload_n 1, 1, [1], [], .null),
  (55, 14, .iaload, 1, [], [], .null),
  (56, 15, .ireturn, 1, [], [], .null),
  (57, 16, .aload_n 0, 1, [0], [], .null)]
def xc103_1 : List xIns := [(58, 17, .getfield 10, 3, [329, 9, 0, 1], [], .null),
  (61, 18, .getfield 43, 3, [168, 8, 1, 1], [], .null),
  (64, 19, .getfield 132, 3, [134, 1, 2, 1], [], .null),
  (67, 20, .iload_n 1, 1, [1], [], .null),
  (68, 21, .iaload, 1, [], [], .null),
  (69, 22, .ireturn, 1, [], [], .null),
  (70, 23, .aload_n 0, 1, [0], [], .null),
  (71, 24, .getfield 10, 3, [329, 9, 0, 1], [], .null),
  (74, 25, .getfield 43, 3, [168, 8, 1, 1], [], .null),
  (77, 26, .getfield 135, 3, [136, 1, 3, 1], [], .null),
  (80, 27, .iload_n 1, 1, [1], [], .null),
  (81, 28, .iaload, 1, [], [], .null),
  (82, 29, .ireturn, 1, [], [], .null),
  (83, 30, .aload_n 0, 1, [0], [], .null),
  (84, 31, .getfield 10, 3, [329, 9, 0, 1], [], .null),
  (87, 32, .getfield 43, 3, [168, 8, 1, 1], [], .null)]
def xc103_2 : List xIns := [(90, 33, .getfield 138, 3, [139, 1, 4, 1], [], .null),
  (93, 34, .iload_n 1, 1, [1], [], .null),
  (94, 35, .iaload, 1, [], [], .null),
  (95, 36, .ireturn, 1, [], [], .null),
  (96, 37, .aload_n 0, 1, [0], [], .null),
  (97, 38, .getfield 10, 3, [329, 9, 0, 1], [], .null),
  (100, 39, .getfield 43, 3, [168, 8, 1, 1], [], .null),
  (103, 40, .getfield 141, 3, [141, 1, 5, 1], [], .null),
  (106, 41, .iload_n 1, 1, [1], [], .null),
  (107, 42, .iaload, 1, [], [], .null),
  (108, 43, .ireturn, 1, [], [], .null),
  (109, 44, .iconst (-1), 1, [], [], .int (-1)),
  (110, 0, .ireturn, 1, [], [], .null)]
def xc103 : List (List xIns) := [xc103_0, xc103_1, xc103_2]

/-- StepRings.costs(III)I -/
def xc104_0 : List xIns := [(0, 1, .aload_n 0, 1, [0], [], .null),
  (1, 2, .iload_n 1, 1, [1], [], .null),
  (2, 3, .invokevirtual 126, 3, [97, 405, 407, 0, 2, 0, 9], [], .null),
  (5, 4, .ifCond .eq 26, 3, [15], [], .null),
  (8, 5, .aload_n 0, 1, [0], [], .null),
  (9, 6, .getfield 10, 3, [329, 9, 0, 1], [], .null),
  (12, 7, .getfield 21, 3, [166, 8, 0, 1], [], .null),
  (15, 8, .iload_n 2, 1, [2], [], .null),
  (16, 9, .invokevirtual 96, 3, [51, 379, 380, 381, 2, 0, 6], [], .null),
  (19, 10, .ifCond .eq 12, 3, [15], [], .null),
  (22, 11, .iload_n 3, 1, [3], [], .null),
  (23, 12, .iconst 0, 1, [], [], .int (0)),
  (24, 13, .iconst 1, 1, [], [], .int (1)),
  (25, 14, .invokestatic 79, 3, [90, 364, 365, 0, 3, 0], [], .null),
  (28, 15, .ifCond .ne 5, 3, [17], [], .null),
  (31, 16, .iconst (-1), 1, [], [], .int (-1))]
def xc104_1 : List xIns := [(32, 17, .ireturn, 1, [], [], .null),
  (33, 18, .aload_n 0, 1, [0], [], .null),
  (34, 19, .getfield 10, 3, [329, 9, 0, 1], [], .null),
  (37, 20, .getfield 21, 3, [166, 8, 0, 1], [], .null),
  (40, 21, .iload_n 2, 1, [2], [], .null),
  (41, 22, .aload_n 0, 1, [0], [], .null),
  (42, 23, .getfield 10, 3, [329, 9, 0, 1], [], .null),
  (45, 24, .getfield 43, 3, [168, 8, 1, 1], [], .null),
  (48, 25, .getfield 132, 3, [134, 1, 2, 1], [], .null),
  (51, 26, .iload_n 1, 1, [1], [], .null),
  (52, 27, .iaload, 1, [], [], .null),
  (53, 28, .iload_n 3, 1, [3], [], .null),
  (54, 29, .ifCond .ne 7, 3, [31], [], .null),
  (57, 30, .iconst 1, 1, [], [], .int (1)),
  (58, 31, .goto 4, 3, [32], [], .null),
  (61, 32, .iconst 0, 1, [], [], .int (0))]
def xc104_2 : List xIns := [(62, 33, .invokevirtual 144, 3, [54, 413, 414, 415, 4, 0, 6], [], .null),
  (65, 0, .ireturn, 1, [], [], .null)]
def xc104 : List (List xIns) := [xc104_0, xc104_1, xc104_2]

/-- StepRings.far(III)I -/
def xc105_0 : List xIns := [(0, 1, .aload_n 0, 1, [0], [], .null),
  (1, 2, .iload_n 1, 1, [1], [], .null),
  (2, 3, .invokevirtual 126, 3, [97, 405, 407, 0, 2, 0, 9], [], .null),
  (5, 4, .ifCond .eq 17, 3, [10], [], .null),
  (8, 5, .iload_n 2, 1, [2], [], .null),
  (9, 6, .invokestatic 75, 3, [91, 361, 362, 0, 1, 0], [], .null),
  (12, 7, .ifCond .eq 10, 3, [10], [], .null),
  (15, 8, .iload_n 3, 1, [3], [], .null),
  (16, 9, .invokestatic 75, 3, [91, 361, 362, 0, 1, 0], [], .null),
  (19, 10, .ifCond .ne 5, 3, [12], [], .null),
  (22, 11, .iconst (-1), 1, [], [], .int (-1)),
  (23, 12, .ireturn, 1, [], [], .null),
  (24, 13, .aload_n 0, 1, [0], [], .null),
  (25, 14, .getfield 28, 3, [332, 9, 3, 1], [], .null),
  (28, 15, .aload_n 0, 1, [0], [], .null),
  (29, 16, .getfield 10, 3, [329, 9, 0, 1], [], .null)]
def xc105_1 : List xIns := [(32, 17, .getfield 43, 3, [168, 8, 1, 1], [], .null),
  (35, 18, .getfield 132, 3, [134, 1, 2, 1], [], .null),
  (38, 19, .iload_n 1, 1, [1], [], .null),
  (39, 20, .iaload, 1, [], [], .null),
  (40, 21, .invokevirtual 148, 3, [19, 424, 425, 426, 2, 0, 2], [], .null),
  (43, 22, .iload_n 2, 1, [2], [], .null),
  (44, 23, .bipush 12, 2, [], [], .int (12)),
  (46, 24, .imul, 1, [], [], .null),
  (47, 25, .iload_n 3, 1, [3], [], .null),
  (48, 26, .iadd, 1, [], [], .null),
  (49, 27, .iaload, 1, [], [], .null),
  (50, 28, .invokestatic 152, 3, [96, 444, 445, 0, 1, 0], [], .null),
  (53, 0, .ireturn, 1, [], [], .null)]
def xc105 : List (List xIns) := [xc105_0, xc105_1]

/-- StepRings.given(II)I -/
def xc106_0 : List xIns := [(0, 1, .iload_n 1, 1, [1], [], .null),
  (1, 2, .invokestatic 116, 3, [92, 393, 394, 0, 1, 0], [], .null),
  (4, 3, .ifCond .eq 14, 3, [8], [], .null),
  (7, 4, .iload_n 2, 1, [2], [], .null),
  (8, 5, .iconst 0, 1, [], [], .int (0)),
  (9, 6, .sipush 9999, 3, [], [], .int (9999)),
  (12, 7, .invokestatic 79, 3, [90, 364, 365, 0, 3, 0], [], .null),
  (15, 8, .ifCond .ne 5, 3, [10], [], .null),
  (18, 9, .iconst (-1), 1, [], [], .int (-1)),
  (19, 10, .ireturn, 1, [], [], .null),
  (20, 11, .aload_n 0, 1, [0], [], .null),
  (21, 12, .getfield 10, 3, [329, 9, 0, 1], [], .null),
  (24, 13, .getfield 156, 3, [177, 8, 4, 1], [], .null),
  (27, 14, .iload_n 1, 1, [1], [], .null),
  (28, 15, .iaload, 1, [], [], .null),
  (29, 16, .istore_n 3, 1, [3], [], .null)]
def xc106_1 : List xIns := [(30, 17, .aload_n 0, 1, [0], [], .null),
  (31, 18, .getfield 10, 3, [329, 9, 0, 1], [], .null),
  (34, 19, .getfield 156, 3, [177, 8, 4, 1], [], .null),
  (37, 20, .iload_n 1, 1, [1], [], .null),
  (38, 21, .iload_n 2, 1, [2], [], .null),
  (39, 22, .iastore, 1, [], [], .null),
  (40, 23, .iload_n 3, 1, [3], [], .null),
  (41, 0, .ireturn, 1, [], [], .null)]
def xc106 : List (List xIns) := [xc106_0, xc106_1]

/-- StepRingsModel.addOne(III)V -/
def xc107_0 : List xIns := [(0, 1, .bipush 7, 2, [], [], .int (7)),
  (2, 2, .aload_n 0, 1, [0], [], .null),
  (3, 3, .getfield 80, 3, [790, 10, 3, 0], [], .null),
  (6, 4, .imul, 1, [], [], .null),
  (7, 5, .istore 4, 2, [4], [], .null),
  (9, 6, .aload_n 0, 1, [0], [], .null),
  (10, 7, .getfield 13, 3, [789, 10, 2, 1], [], .null),
  (13, 8, .iload 4, 2, [4], [], .null),
  (15, 9, .iload_n 1, 1, [1], [], .null),
  (16, 10, .iastore, 1, [], [], .null),
  (17, 11, .aload_n 0, 1, [0], [], .null),
  (18, 12, .getfield 13, 3, [789, 10, 2, 1], [], .null),
  (21, 13, .iload 4, 2, [4], [], .null),
  (23, 14, .iconst 1, 1, [], [], .int (1)),
  (24, 15, .iadd, 1, [], [], .null),
  (25, 16, .iload_n 2, 1, [2], [], .null)]
def xc107_1 : List xIns := [(26, 17, .iastore, 1, [], [], .null),
  (27, 18, .aload_n 0, 1, [0], [], .null),
  (28, 19, .getfield 13, 3, [789, 10, 2, 1], [], .null),
  (31, 20, .iload 4, 2, [4], [], .null),
  (33, 21, .iconst 2, 1, [], [], .int (2)),
  (34, 22, .iadd, 1, [], [], .null),
  (35, 23, .iload_n 3, 1, [3], [], .null),
  (36, 24, .iastore, 1, [], [], .null),
  (37, 25, .aload_n 0, 1, [0], [], .null),
  (38, 26, .getfield 13, 3, [789, 10, 2, 1], [], .null),
  (41, 27, .iload 4, 2, [4], [], .null),
  (43, 28, .iconst 3, 1, [], [], .int (3)),
  (44, 29, .iadd, 1, [], [], .null),
  (45, 30, .iload_n 1, 1, [1], [], .null),
  (46, 31, .iastore, 1, [], [], .null),
  (47, 32, .aload_n 0, 1, [0], [], .null)]
def xc107_2 : List xIns := [(48, 33, .getfield 13, 3, [789, 10, 2, 1], [], .null),
  (51, 34, .iload 4, 2, [4], [], .null),
  (53, 35, .iconst 4, 1, [], [], .int (4)),
  (54, 36, .iadd, 1, [], [], .null),
  (55, 37, .iconst 0, 1, [], [], .int (0)),
  (56, 38, .iastore, 1, [], [], .null),
  (57, 39, .aload_n 0, 1, [0], [], .null),
  (58, 40, .getfield 13, 3, [789, 10, 2, 1], [], .null),
  (61, 41, .iload 4, 2, [4], [], .null),
  (63, 42, .iconst 5, 1, [], [], .int (5)),
  (64, 43, .iadd, 1, [], [], .null),
  (65, 44, .iconst 0, 1, [], [], .int (0)),
  (66, 45, .iastore, 1, [], [], .null),
  (67, 46, .aload_n 0, 1, [0], [], .null),
  (68, 47, .getfield 13, 3, [789, 10, 2, 1], [], .null),
  (71, 48, .iload 4, 2, [4], [], .null)]
def xc107_3 : List xIns := [(73, 49, .bipush 6, 2, [], [], .int (6)),
  (75, 50, .iadd, 1, [], [], .null),
  (76, 51, .iconst 0, 1, [], [], .int (0)),
  (77, 52, .iastore, 1, [], [], .null),
  (78, 53, .aload_n 0, 1, [0], [], .null),
  (79, 54, .dup, 1, [], [], .null),
  (80, 55, .getfield 80, 3, [790, 10, 3, 0], [], .null),
  (83, 56, .iconst 1, 1, [], [], .int (1)),
  (84, 57, .iadd, 1, [], [], .null),
  (85, 58, .putfield 80, 3, [790, 10, 3, 0], [], .null),
  (88, 0, .return_, 1, [], [], .null)]
def xc107 : List (List xIns) := [xc107_0, xc107_1, xc107_2, xc107_3]

/-- StepRingsModel.person(III)I -/
def xc108_0 : List xIns := [(0, 1, .iload_n 1, 1, [1], [], .null),
  (1, 2, .invokestatic 91, 3, [140, 882, 883, 0, 1, 0], [], .null),
  (4, 3, .ifCond .eq 27, 3, [15], [], .null),
  (7, 4, .iload_n 2, 1, [2], [], .null),
  (8, 5, .i2l, 1, [], [], .null),
  (9, 6, .lconst 0, 1, [], [], .long 0),
  (10, 7, .ldc2_w 107, 3, [910], [], .long (3)),
  (13, 8, .invokestatic 76, 3, [129, 886, 887, 0, 3, 0], [], .null),
  (16, 9, .ifCond .eq 15, 3, [15], [], .null),
  (19, 10, .iload_n 3, 1, [3], [], .null),
  (20, 11, .i2l, 1, [], [], .null),
  (21, 12, .lconst 0, 1, [], [], .long 0),
  (22, 13, .ldc2_w 109, 3, [911], [], .long (99999)),
  (25, 14, .invokestatic 76, 3, [129, 886, 887, 0, 3, 0], [], .null),
  (28, 15, .ifCond .ne 5, 3, [17], [], .null),
  (31, 16, .iconst (-1), 1, [], [], .int (-1))]
def xc108_1 : List xIns := [(32, 17, .ireturn, 1, [], [], .null),
  (33, 18, .aload_n 0, 1, [0], [], .null),
  (34, 19, .getfield 80, 3, [790, 10, 3, 0], [], .null),
  (37, 20, .bipush 8, 2, [], [], .int (8)),
  (39, 21, .if_icmp .ne 6, 3, [23], [], .null),
  (42, 22, .bipush (-3), 2, [], [], .int (-3)),
  (44, 23, .ireturn, 1, [], [], .null),
  (45, 24, .aload_n 0, 1, [0], [], .null),
  (46, 25, .iload_n 1, 1, [1], [], .null),
  (47, 26, .iload_n 2, 1, [2], [], .null),
  (48, 27, .iload_n 3, 1, [3], [], .null),
  (49, 28, .invokevirtual 111, 3, [108, 912, 914, 26, 4, 0, 10], [], .null),
  (52, 29, .aload_n 0, 1, [0], [], .null),
  (53, 30, .getfield 80, 3, [790, 10, 3, 0], [], .null),
  (56, 31, .iconst 1, 1, [], [], .int (1)),
  (57, 32, .isub, 1, [], [], .null)]
def xc108_2 : List xIns := [(58, 0, .ireturn, 1, [], [], .null)]
def xc108 : List (List xIns) := [xc108_0, xc108_1, xc108_2]

/-- StepRingsModel.of(II)I -/
def xc109_0 : List xIns := [(0, 1, .aload_n 0, 1, [0], [], .null),
  (1, 2, .iload_n 1, 1, [1], [], .null),
  (2, 3, .invokevirtual 84, 3, [151, 920, 922, 27, 2, 0, 10], [], .null),
  (5, 4, .ifCond .eq 29, 3, [19], [], .null),
  (8, 5, .iload_n 2, 1, [2], [], .null),
  (9, 6, .i2l, 1, [], [], .null),
  (10, 7, .lconst 0, 1, [], [], .long 0),
  (11, 8, .ldc2_w 104, 3, [904], [], .long (4)),
  (14, 9, .invokestatic 76, 3, [129, 886, 887, 0, 3, 0], [], .null),
  (17, 10, .ifCond .eq 17, 3, [19], [], .null),
  (20, 11, .aload_n 0, 1, [0], [], .null),
  (21, 12, .getfield 13, 3, [789, 10, 2, 1], [], .null),
  (24, 13, .bipush 7, 2, [], [], .int (7)),
  (26, 14, .iload_n 1, 1, [1], [], .null),
  (27, 15, .imul, 1, [], [], .null),
  (28, 16, .iload_n 2, 1, [2], [], .null)]
def xc109_1 : List xIns := [(29, 17, .iadd, 1, [], [], .null),
  (30, 18, .iaload, 1, [], [], .null),
  (31, 19, .goto 4, 3, [20], [], .null),
  (34, 20, .iconst (-1), 1, [], [], .int (-1)),
  (35, 0, .ireturn, 1, [], [], .null)]
def xc109 : List (List xIns) := [xc109_0, xc109_1]

/-- StepRingsModel.costOf(III)I -/
def xc110_0 : List xIns := [(0, 1, .aload_n 0, 1, [0], [], .null),
  (1, 2, .getfield 7, 3, [787, 10, 0, 1], [], .null),
  (4, 3, .iconst 5, 1, [], [], .int (5)),
  (5, 4, .iload_n 2, 1, [2], [], .null),
  (6, 5, .imul, 1, [], [], .null),
  (7, 6, .iconst 2, 1, [], [], .int (2)),
  (8, 7, .iadd, 1, [], [], .null),
  (9, 8, .iaload, 1, [], [], .null),
  (10, 9, .istore 4, 2, [4], [], .null),
  (12, 10, .iload_n 3, 1, [3], [], .null),
  (13, 11, .ifCond .ne 16, 3, [20], [], .null),
  (16, 12, .aload_n 0, 1, [0], [], .null),
  (17, 13, .getfield 7, 3, [787, 10, 0, 1], [], .null),
  (20, 14, .iconst 5, 1, [], [], .int (5)),
  (21, 15, .iload_n 2, 1, [2], [], .null),
  (22, 16, .imul, 1, [], [], .null)]
def xc110_1 : List xIns := [(23, 17, .iconst 3, 1, [], [], .int (3)),
  (24, 18, .iadd, 1, [], [], .null),
  (25, 19, .iaload, 1, [], [], .null),
  (26, 20, .goto 14, 3, [29], [], .null),
  (29, 21, .aload_n 0, 1, [0], [], .null),
  (30, 22, .getfield 7, 3, [787, 10, 0, 1], [], .null),
  (33, 23, .iconst 5, 1, [], [], .int (5)),
  (34, 24, .iload_n 2, 1, [2], [], .null),
  (35, 25, .imul, 1, [], [], .null),
  (36, 26, .iconst 3, 1, [], [], .int (3)),
  (37, 27, .iadd, 1, [], [], .null),
  (38, 28, .iaload, 1, [], [], .null),
  (39, 29, .ineg, 1, [], [], .null),
  (40, 30, .istore 5, 2, [5], [], .null),
  (42, 31, .iload 5, 2, [5], [], .null),
  (44, 32, .ifCond .le 13, 3, [38], [], .null)]
def xc110_2 : List xIns := [(47, 33, .iload 4, 2, [4], [], .null),
  (49, 34, .iconst 3, 1, [], [], .int (3)),
  (50, 35, .iload 5, 2, [5], [], .null),
  (52, 36, .imul, 1, [], [], .null),
  (53, 37, .iadd, 1, [], [], .null),
  (54, 38, .goto 5, 3, [39], [], .null),
  (57, 39, .iload 4, 2, [4], [], .null),
  (59, 40, .istore 6, 2, [6], [], .null),
  (61, 41, .iload_n 1, 1, [1], [], .null),
  (62, 42, .iconst 2, 1, [], [], .int (2)),
  (63, 43, .if_icmp .ge 18, 3, [52], [], .null),
  (66, 44, .iload_n 1, 1, [1], [], .null),
  (67, 45, .iconst 1, 1, [], [], .int (1)),
  (68, 46, .if_icmp .ne 10, 3, [50], [], .null),
  (71, 47, .iconst 2, 1, [], [], .int (2)),
  (72, 48, .iload 6, 2, [6], [], .null)]
def xc110_3 : List xIns := [(74, 49, .imul, 1, [], [], .null),
  (75, 50, .goto 5, 3, [51], [], .null),
  (78, 51, .iload 6, 2, [6], [], .null),
  (80, 52, .ireturn, 1, [], [], .null),
  (81, 53, .iload 5, 2, [5], [], .null),
  (83, 54, .ifCond .le 13, 3, [60], [], .null),
  (86, 55, .iload 6, 2, [6], [], .null),
  (88, 56, .iload 4, 2, [4], [], .null),
  (90, 57, .iconst 2, 1, [], [], .int (2)),
  (91, 58, .idiv, 1, [], [], .null),
  (92, 59, .iadd, 1, [], [], .null),
  (93, 60, .goto 5, 3, [61], [], .null),
  (96, 61, .iload 6, 2, [6], [], .null),
  (98, 62, .istore 7, 2, [7], [], .null),
  (100, 63, .iload_n 1, 1, [1], [], .null),
  (101, 64, .iconst 2, 1, [], [], .int (2))]
def xc110_4 : List xIns := [(102, 65, .if_icmp .ne 8, 3, [67], [], .null),
  (105, 66, .iload 7, 2, [7], [], .null),
  (107, 67, .goto 17, 3, [75], [], .null),
  (110, 68, .iload 7, 2, [7], [], .null),
  (112, 69, .iconst 4, 1, [], [], .int (4)),
  (113, 70, .if_icmp .ge 7, 3, [72], [], .null),
  (116, 71, .iconst 1, 1, [], [], .int (1)),
  (117, 72, .goto 7, 3, [75], [], .null),
  (120, 73, .iload 7, 2, [7], [], .null),
  (122, 74, .iconst 2, 1, [], [], .int (2)),
  (123, 75, .idiv, 1, [], [], .null),
  (124, 0, .ireturn, 1, [], [], .null)]
def xc110 : List (List xIns) := [xc110_0, xc110_1, xc110_2, xc110_3, xc110_4]

/-- StepRingsModel.costs(III)I -/
def xc111_0 : List xIns := [(0, 1, .aload_n 0, 1, [0], [], .null),
  (1, 2, .iload_n 1, 1, [1], [], .null),
  (2, 3, .invokevirtual 84, 3, [151, 920, 922, 27, 2, 0, 10], [], .null),
  (5, 4, .ifCond .eq 49, 3, [33], [], .null),
  (8, 5, .iload_n 2, 1, [2], [], .null),
  (9, 6, .i2l, 1, [], [], .null),
  (10, 7, .lconst 0, 1, [], [], .long 0),
  (11, 8, .aload_n 0, 1, [0], [], .null),
  (12, 9, .getfield 88, 3, [788, 10, 1, 0], [], .null),
  (15, 10, .iconst 1, 1, [], [], .int (1)),
  (16, 11, .isub, 1, [], [], .null),
  (17, 12, .i2l, 1, [], [], .null),
  (18, 13, .invokestatic 76, 3, [129, 886, 887, 0, 3, 0], [], .null),
  (21, 14, .ifCond .eq 33, 3, [33], [], .null),
  (24, 15, .iload_n 3, 1, [3], [], .null),
  (25, 16, .i2l, 1, [], [], .null)]
def xc111_1 : List xIns := [(26, 17, .lconst 0, 1, [], [], .long 0),
  (27, 18, .lconst 1, 1, [], [], .long 1),
  (28, 19, .invokestatic 76, 3, [129, 886, 887, 0, 3, 0], [], .null),
  (31, 20, .ifCond .eq 23, 3, [33], [], .null),
  (34, 21, .aload_n 0, 1, [0], [], .null),
  (35, 22, .aload_n 0, 1, [0], [], .null),
  (36, 23, .getfield 13, 3, [789, 10, 2, 1], [], .null),
  (39, 24, .bipush 7, 2, [], [], .int (7)),
  (41, 25, .iload_n 1, 1, [1], [], .null),
  (42, 26, .imul, 1, [], [], .null),
  (43, 27, .iconst 1, 1, [], [], .int (1)),
  (44, 28, .iadd, 1, [], [], .null),
  (45, 29, .iaload, 1, [], [], .null),
  (46, 30, .iload_n 2, 1, [2], [], .null),
  (47, 31, .iload_n 3, 1, [3], [], .null),
  (48, 32, .invokevirtual 115, 3, [111, 928, 930, 28, 4, 0, 10], [], .null)]
def xc111_2 : List xIns := [(51, 33, .goto 4, 3, [34], [], .null),
  (54, 34, .iconst (-1), 1, [], [], .int (-1)),
  (55, 0, .ireturn, 1, [], [], .null)]
def xc111 : List (List xIns) := [xc111_0, xc111_1, xc111_2]

/-- StepRingsModel.findFar(II)V -/
def xc112_0 : List xIns := [(0, 1, .iconst 0, 1, [], [], .int (0)),
  (1, 2, .istore_n 3, 1, [3], [], .null),
  (2, 3, .iload_n 3, 1, [3], [], .null),
  (3, 4, .bipush 12, 2, [], [], .int (12)),
  (5, 5, .if_icmp .ge 26, 3, [17], [], .null),
  (8, 6, .aload_n 0, 1, [0], [], .null),
  (9, 7, .getfield 25, 3, [797, 10, 10, 1], [], .null),
  (12, 8, .iload_n 3, 1, [3], [], .null),
  (13, 9, .iload_n 3, 1, [3], [], .null),
  (14, 10, .iload_n 2, 1, [2], [], .null),
  (15, 11, .if_icmp .ne 7, 3, [13], [], .null),
  (18, 12, .iconst 0, 1, [], [], .int (0)),
  (19, 13, .goto 5, 3, [14], [], .null),
  (22, 14, .ldc 119, 2, [944], [], .int (100000000)),
  (24, 15, .iastore, 1, [], [], .null),
  (25, 16, .iinc 3 1, 3, [3], [], .int (1))]
def xc112_1 : List xIns := [(28, 17, .goto (-26), 3, [2], [], .null),
  (31, 18, .iconst 1, 1, [], [], .int (1)),
  (32, 19, .istore_n 3, 1, [3], [], .null),
  (33, 20, .iload_n 3, 1, [3], [], .null),
  (34, 21, .ifCond .eq 112, 3, [90], [], .null),
  (37, 22, .iconst 0, 1, [], [], .int (0)),
  (38, 23, .istore_n 3, 1, [3], [], .null),
  (39, 24, .iconst 0, 1, [], [], .int (0)),
  (40, 25, .istore 4, 2, [4], [], .null),
  (42, 26, .iload 4, 2, [4], [], .null),
  (44, 27, .iconst 2, 1, [], [], .int (2)),
  (45, 28, .aload_n 0, 1, [0], [], .null),
  (46, 29, .getfield 88, 3, [788, 10, 1, 0], [], .null),
  (49, 30, .imul, 1, [], [], .null),
  (50, 31, .if_icmp .ge 93, 3, [89], [], .null),
  (53, 32, .aload_n 0, 1, [0], [], .null)]
def xc112_2 : List xIns := [(54, 33, .getfield 7, 3, [787, 10, 0, 1], [], .null),
  (57, 34, .iconst 5, 1, [], [], .int (5)),
  (58, 35, .iload 4, 2, [4], [], .null),
  (60, 36, .iconst 2, 1, [], [], .int (2)),
  (61, 37, .idiv, 1, [], [], .null),
  (62, 38, .imul, 1, [], [], .null),
  (63, 39, .iload 4, 2, [4], [], .null),
  (65, 40, .iconst 2, 1, [], [], .int (2)),
  (66, 41, .irem, 1, [], [], .null),
  (67, 42, .iadd, 1, [], [], .null),
  (68, 43, .iaload, 1, [], [], .null),
  (69, 44, .istore 5, 2, [5], [], .null),
  (71, 45, .aload_n 0, 1, [0], [], .null),
  (72, 46, .getfield 7, 3, [787, 10, 0, 1], [], .null),
  (75, 47, .iconst 5, 1, [], [], .int (5)),
  (76, 48, .iload 4, 2, [4], [], .null)]
def xc112_3 : List xIns := [(78, 49, .iconst 2, 1, [], [], .int (2)),
  (79, 50, .idiv, 1, [], [], .null),
  (80, 51, .imul, 1, [], [], .null),
  (81, 52, .iconst 1, 1, [], [], .int (1)),
  (82, 53, .iadd, 1, [], [], .null),
  (83, 54, .iload 4, 2, [4], [], .null),
  (85, 55, .iconst 2, 1, [], [], .int (2)),
  (86, 56, .irem, 1, [], [], .null),
  (87, 57, .isub, 1, [], [], .null),
  (88, 58, .iaload, 1, [], [], .null),
  (89, 59, .istore 6, 2, [6], [], .null),
  (91, 60, .aload_n 0, 1, [0], [], .null),
  (92, 61, .getfield 25, 3, [797, 10, 10, 1], [], .null),
  (95, 62, .iload 6, 2, [6], [], .null),
  (97, 63, .iaload, 1, [], [], .null),
  (98, 64, .aload_n 0, 1, [0], [], .null)]
def xc112_4 : List xIns := [(99, 65, .iload_n 1, 1, [1], [], .null),
  (100, 66, .iload 4, 2, [4], [], .null),
  (102, 67, .iconst 2, 1, [], [], .int (2)),
  (103, 68, .idiv, 1, [], [], .null),
  (104, 69, .iload 4, 2, [4], [], .null),
  (106, 70, .iconst 2, 1, [], [], .int (2)),
  (107, 71, .irem, 1, [], [], .null),
  (108, 72, .invokevirtual 115, 3, [111, 928, 930, 28, 4, 0, 10], [], .null),
  (111, 73, .iadd, 1, [], [], .null),
  (112, 74, .istore 7, 2, [7], [], .null),
  (114, 75, .iload 7, 2, [7], [], .null),
  (116, 76, .aload_n 0, 1, [0], [], .null),
  (117, 77, .getfield 25, 3, [797, 10, 10, 1], [], .null),
  (120, 78, .iload 5, 2, [5], [], .null),
  (122, 79, .iaload, 1, [], [], .null),
  (123, 80, .if_icmp .ge 14, 3, [87], [], .null)]
def xc112_5 : List xIns := [(126, 81, .aload_n 0, 1, [0], [], .null),
  (127, 82, .getfield 25, 3, [797, 10, 10, 1], [], .null),
  (130, 83, .iload 5, 2, [5], [], .null),
  (132, 84, .iload 7, 2, [7], [], .null),
  (134, 85, .iastore, 1, [], [], .null),
  (135, 86, .iconst 1, 1, [], [], .int (1)),
  (136, 87, .istore_n 3, 1, [3], [], .null),
  (137, 88, .iinc 4 1, 3, [4], [], .int (1)),
  (140, 89, .goto (-98), 3, [25], [], .null),
  (143, 90, .goto (-110), 3, [19], [], .null),
  (146, 0, .return_, 1, [], [], .null)]
def xc112 : List (List xIns) := [xc112_0, xc112_1, xc112_2, xc112_3, xc112_4, xc112_5]

/-- StepRingsModel.farOf(III)I -/
def xc113_0 : List xIns := [(0, 1, .aload_n 0, 1, [0], [], .null),
  (1, 2, .aload_n 0, 1, [0], [], .null),
  (2, 3, .getfield 13, 3, [789, 10, 2, 1], [], .null),
  (5, 4, .bipush 7, 2, [], [], .int (7)),
  (7, 5, .iload_n 1, 1, [1], [], .null),
  (8, 6, .imul, 1, [], [], .null),
  (9, 7, .iconst 1, 1, [], [], .int (1)),
  (10, 8, .iadd, 1, [], [], .null),
  (11, 9, .iaload, 1, [], [], .null),
  (12, 10, .iload_n 3, 1, [3], [], .null),
  (13, 11, .invokevirtual 120, 3, [113, 940, 942, 30, 3, 0, 10], [], .null),
  (16, 12, .aload_n 0, 1, [0], [], .null),
  (17, 13, .getfield 25, 3, [797, 10, 10, 1], [], .null),
  (20, 14, .iload_n 2, 1, [2], [], .null),
  (21, 15, .iaload, 1, [], [], .null),
  (22, 0, .ireturn, 1, [], [], .null)]
def xc113 : List (List xIns) := [xc113_0]

/-- StepRingsModel.far(III)I -/
def xc114_0 : List xIns := [(0, 1, .aload_n 0, 1, [0], [], .null),
  (1, 2, .iload_n 1, 1, [1], [], .null),
  (2, 3, .invokevirtual 84, 3, [151, 920, 922, 27, 2, 0, 10], [], .null),
  (5, 4, .ifCond .eq 17, 3, [10], [], .null),
  (8, 5, .iload_n 2, 1, [2], [], .null),
  (9, 6, .invokestatic 91, 3, [140, 882, 883, 0, 1, 0], [], .null),
  (12, 7, .ifCond .eq 10, 3, [10], [], .null),
  (15, 8, .iload_n 3, 1, [3], [], .null),
  (16, 9, .invokestatic 91, 3, [140, 882, 883, 0, 1, 0], [], .null),
  (19, 10, .ifCond .ne 5, 3, [12], [], .null),
  (22, 11, .iconst (-1), 1, [], [], .int (-1)),
  (23, 12, .ireturn, 1, [], [], .null),
  (24, 13, .aload_n 0, 1, [0], [], .null),
  (25, 14, .iload_n 1, 1, [1], [], .null),
  (26, 15, .iload_n 2, 1, [2], [], .null),
  (27, 16, .iload_n 3, 1, [3], [], .null)]
def xc114_1 : List xIns := [(28, 17, .invokevirtual 124, 3, [114, 936, 938, 29, 4, 0, 10], [], .null),
  (31, 18, .istore 4, 2, [4], [], .null),
  (33, 19, .iload 4, 2, [4], [], .null),
  (35, 20, .ldc 119, 2, [944], [], .int (100000000)),
  (37, 21, .if_icmp .lt 8, 3, [23], [], .null),
  (40, 22, .bipush (-4), 2, [], [], .int (-4)),
  (42, 23, .goto 5, 3, [24], [], .null),
  (45, 24, .iload 4, 2, [4], [], .null),
  (47, 0, .ireturn, 1, [], [], .null)]
def xc114 : List (List xIns) := [xc114_0, xc114_1]

/-- StepRingsModel.given(II)I -/
def xc115_0 : List xIns := [(0, 1, .iload_n 1, 1, [1], [], .null),
  (1, 2, .i2l, 1, [], [], .null),
  (2, 3, .lconst 0, 1, [], [], .long 0),
  (3, 4, .ldc2_w 107, 3, [910], [], .long (3)),
  (6, 5, .invokestatic 76, 3, [129, 886, 887, 0, 3, 0], [], .null),
  (9, 6, .ifCond .eq 15, 3, [12], [], .null),
  (12, 7, .iload_n 2, 1, [2], [], .null),
  (13, 8, .i2l, 1, [], [], .null),
  (14, 9, .lconst 0, 1, [], [], .long 0),
  (15, 10, .ldc2_w 127, 3, [949], [], .long (9999)),
  (18, 11, .invokestatic 76, 3, [129, 886, 887, 0, 3, 0], [], .null),
  (21, 12, .ifCond .ne 5, 3, [14], [], .null),
  (24, 13, .iconst (-1), 1, [], [], .int (-1)),
  (25, 14, .ireturn, 1, [], [], .null),
  (26, 15, .aload_n 0, 1, [0], [], .null),
  (27, 16, .getfield 19, 3, [792, 10, 5, 1], [], .null)]
def xc115_1 : List xIns := [(30, 17, .iload_n 1, 1, [1], [], .null),
  (31, 18, .iaload, 1, [], [], .null),
  (32, 19, .istore_n 3, 1, [3], [], .null),
  (33, 20, .aload_n 0, 1, [0], [], .null),
  (34, 21, .getfield 19, 3, [792, 10, 5, 1], [], .null),
  (37, 22, .iload_n 1, 1, [1], [], .null),
  (38, 23, .iload_n 2, 1, [2], [], .null),
  (39, 24, .iastore, 1, [], [], .null),
  (40, 25, .iload_n 3, 1, [3], [], .null),
  (41, 0, .ireturn, 1, [], [], .null)]
def xc115 : List (List xIns) := [xc115_0, xc115_1]

/-- StepRingsModel.rule(I)I -/
def xc116_0 : List xIns := [(0, 1, .iload_n 1, 1, [1], [], .null),
  (1, 2, .i2l, 1, [], [], .null),
  (2, 3, .lconst 0, 1, [], [], .long 0),
  (3, 4, .ldc2_w 129, 3, [954], [], .long (2)),
  (6, 5, .invokestatic 76, 3, [129, 886, 887, 0, 3, 0], [], .null),
  (9, 6, .ifCond .ne 5, 3, [8], [], .null),
  (12, 7, .iconst (-1), 1, [], [], .int (-1)),
  (13, 8, .ireturn, 1, [], [], .null),
  (14, 9, .aload_n 0, 1, [0], [], .null),
  (15, 10, .getfield 131, 3, [793, 10, 6, 0], [], .null),
  (18, 11, .istore_n 2, 1, [2], [], .null),
  (19, 12, .aload_n 0, 1, [0], [], .null),
  (20, 13, .iload_n 1, 1, [1], [], .null),
  (21, 14, .putfield 131, 3, [793, 10, 6, 0], [], .null),
  (24, 15, .iload_n 2, 1, [2], [], .null),
  (25, 0, .ireturn, 1, [], [], .null)]
def xc116 : List (List xIns) := [xc116_0]

/-- StepRingsModel.<init>()V -/
def xc117_0 : List xIns := [(0, 1, .aload_n 0, 1, [0], [], .null),
  (1, 2, .invokespecial 1, 3, [0, 786], [], .null),
  (4, 3, .aload_n 0, 1, [0], [], .null),
  (5, 4, .bipush 120, 2, [], [], .int (120)),
  (7, 5, .newarray .int, 2, [], [], .null),
  (9, 6, .putfield 7, 3, [787, 10, 0, 1], [], .null),
  (12, 7, .aload_n 0, 1, [0], [], .null),
  (13, 8, .bipush 56, 2, [], [], .int (56)),
  (15, 9, .newarray .int, 2, [], [], .null),
  (17, 10, .putfield 13, 3, [789, 10, 2, 1], [], .null),
  (20, 11, .aload_n 0, 1, [0], [], .null),
  (21, 12, .bipush 64, 2, [], [], .int (64)),
  (23, 13, .newarray .int, 2, [], [], .null),
  (25, 14, .putfield 16, 3, [791, 10, 4, 1], [], .null),
  (28, 15, .aload_n 0, 1, [0], [], .null),
  (29, 16, .iconst 4, 1, [], [], .int (4))]
def xc117_1 : List xIns := [(30, 17, .newarray .int, 2, [], [], .null),
  (32, 18, .putfield 19, 3, [792, 10, 5, 1], [], .null),
  (35, 19, .aload_n 0, 1, [0], [], .null),
  (36, 20, .bipush 6, 2, [], [], .int (6)),
  (38, 21, .newarray .int, 2, [], [], .null),
  (40, 22, .putfield 22, 3, [794, 10, 7, 1], [], .null),
  (43, 23, .aload_n 0, 1, [0], [], .null),
  (44, 24, .bipush 12, 2, [], [], .int (12)),
  (46, 25, .newarray .int, 2, [], [], .null),
  (48, 26, .putfield 25, 3, [797, 10, 10, 1], [], .null),
  (51, 27, .aload_n 0, 1, [0], [], .null),
  (52, 28, .sipush 160, 3, [], [], .int (160)),
  (55, 29, .newarray .int, 2, [], [], .null),
  (57, 30, .putfield 28, 3, [798, 10, 11, 1], [], .null),
  (60, 31, .aload_n 0, 1, [0], [], .null),
  (61, 32, .bipush 120, 2, [], [], .int (120))]
def xc117_2 : List xIns := [(63, 33, .newarray .int, 2, [], [], .null),
  (65, 34, .putfield 31, 3, [802, 10, 15, 1], [], .null),
  (68, 35, .aload_n 0, 1, [0], [], .null),
  (69, 36, .sipush 144, 3, [], [], .int (144)),
  (72, 37, .newarray .int, 2, [], [], .null),
  (74, 38, .putfield 34, 3, [803, 10, 16, 1], [], .null),
  (77, 39, .aload_n 0, 1, [0], [], .null),
  (78, 40, .sipush 448, 3, [], [], .int (448)),
  (81, 41, .newarray .int, 2, [], [], .null),
  (83, 42, .putfield 37, 3, [804, 10, 17, 1], [], .null),
  (86, 43, .aload_n 0, 1, [0], [], .null),
  (87, 44, .bipush 64, 2, [], [], .int (64)),
  (89, 45, .newarray .int, 2, [], [], .null),
  (91, 46, .putfield 40, 3, [805, 10, 18, 1], [], .null),
  (94, 47, .aload_n 0, 1, [0], [], .null),
  (95, 48, .bipush 64, 2, [], [], .int (64))]
def xc117_3 : List xIns := [(97, 49, .newarray .int, 2, [], [], .null),
  (99, 50, .putfield 43, 3, [806, 10, 19, 1], [], .null),
  (102, 51, .aload_n 0, 1, [0], [], .null),
  (103, 52, .bipush 96, 2, [], [], .int (96)),
  (105, 53, .newarray .int, 2, [], [], .null),
  (107, 54, .putfield 46, 3, [807, 10, 20, 1], [], .null),
  (110, 55, .aload_n 0, 1, [0], [], .null),
  (111, 56, .bipush 24, 2, [], [], .int (24)),
  (113, 57, .newarray .int, 2, [], [], .null),
  (115, 58, .putfield 49, 3, [808, 10, 21, 1], [], .null),
  (118, 59, .aload_n 0, 1, [0], [], .null),
  (119, 60, .bipush 12, 2, [], [], .int (12)),
  (121, 61, .newarray .int, 2, [], [], .null),
  (123, 62, .putfield 52, 3, [809, 10, 22, 1], [], .null),
  (126, 63, .aload_n 0, 1, [0], [], .null),
  (127, 64, .bipush 12, 2, [], [], .int (12))]
def xc117_4 : List xIns := [(129, 65, .newarray .int, 2, [], [], .null),
  (131, 66, .putfield 55, 3, [810, 10, 23, 1], [], .null),
  (134, 67, .aload_n 0, 1, [0], [], .null),
  (135, 68, .sipush 250, 3, [], [], .int (250)),
  (138, 69, .newarray .int, 2, [], [], .null),
  (140, 70, .putfield 58, 3, [812, 10, 25, 1], [], .null),
  (143, 71, .aload_n 0, 1, [0], [], .null),
  (144, 72, .iconst 5, 1, [], [], .int (5)),
  (145, 73, .newarray .int, 2, [], [], .null),
  (147, 74, .putfield 61, 3, [813, 10, 26, 1], [], .null),
  (150, 75, .aload_n 0, 1, [0], [], .null),
  (151, 76, .iconst 4, 1, [], [], .int (4)),
  (152, 77, .newarray .int, 2, [], [], .null),
  (154, 78, .putfield 64, 3, [814, 10, 27, 1], [], .null),
  (157, 79, .aload_n 0, 1, [0], [], .null),
  (158, 80, .iconst 4, 1, [], [], .int (4))]
def xc117_5 : List xIns := [(159, 81, .newarray .int, 2, [], [], .null),
  (161, 82, .putfield 67, 3, [815, 10, 28, 1], [], .null),
  (164, 83, .aload_n 0, 1, [0], [], .null),
  (165, 84, .bipush 96, 2, [], [], .int (96)),
  (167, 85, .newarray .long, 2, [], [], .null),
  (169, 86, .putfield 70, 3, [816, 10, 29, 1], [], .null),
  (172, 87, .iconst 0, 1, [], [], .int (0)),
  (173, 88, .istore_n 1, 1, [1], [], .null),
  (174, 89, .iload_n 1, 1, [1], [], .null),
  (175, 90, .iconst 4, 1, [], [], .int (4)),
  (176, 91, .if_icmp .ge 16, 3, [98], [], .null),
  (179, 92, .aload_n 0, 1, [0], [], .null),
  (180, 93, .getfield 64, 3, [814, 10, 27, 1], [], .null),
  (183, 94, .iload_n 1, 1, [1], [], .null),
  (184, 95, .iconst (-1), 1, [], [], .int (-1)),
  (185, 96, .iastore, 1, [], [], .null)]
def xc117_6 : List xIns := [(186, 97, .iinc 1 1, 3, [1], [], .int (1)),
  (189, 98, .goto (-15), 3, [88], [], .null),
  (192, 99, .aload_n 0, 1, [0], [], .null),
  (193, 100, .getfield 19, 3, [792, 10, 5, 1], [], .null),
  (196, 101, .iconst 0, 1, [], [], .int (0)),
  (197, 102, .sipush 400, 3, [], [], .int (400)),
  (200, 103, .iastore, 1, [], [], .null),
  (201, 104, .aload_n 0, 1, [0], [], .null),
  (202, 105, .getfield 19, 3, [792, 10, 5, 1], [], .null),
  (205, 106, .iconst 1, 1, [], [], .int (1)),
  (206, 107, .sipush 300, 3, [], [], .int (300)),
  (209, 108, .iastore, 1, [], [], .null),
  (210, 109, .aload_n 0, 1, [0], [], .null),
  (211, 110, .getfield 19, 3, [792, 10, 5, 1], [], .null),
  (214, 111, .iconst 2, 1, [], [], .int (2)),
  (215, 112, .sipush 500, 3, [], [], .int (500))]
def xc117_7 : List xIns := [(218, 113, .iastore, 1, [], [], .null),
  (219, 114, .aload_n 0, 1, [0], [], .null),
  (220, 115, .getfield 19, 3, [792, 10, 5, 1], [], .null),
  (223, 116, .iconst 3, 1, [], [], .int (3)),
  (224, 117, .sipush 900, 3, [], [], .int (900)),
  (227, 118, .iastore, 1, [], [], .null),
  (228, 0, .return_, 1, [], [], .null)]
def xc117 : List (List xIns) := [xc117_0, xc117_1, xc117_2, xc117_3, xc117_4, xc117_5, xc117_6, xc117_7]

/-- StepRingsModel.count(I)I -/
def xc118_0 : List xIns := [(0, 1, .iconst 0, 1, [], [], .int (0)),
  (1, 2, .istore_n 2, 1, [2], [], .null),
  (2, 3, .iconst 0, 1, [], [], .int (0)),
  (3, 4, .istore_n 3, 1, [3], [], .null),
  (4, 5, .iconst 0, 1, [], [], .int (0)),
  (5, 6, .istore 4, 2, [4], [], .null),
  (7, 7, .iload 4, 2, [4], [], .null),
  (9, 8, .aload_n 0, 1, [0], [], .null),
  (10, 9, .getfield 80, 3, [790, 10, 3, 0], [], .null),
  (13, 10, .if_icmp .ge 24, 3, [23], [], .null),
  (16, 11, .iload_n 2, 1, [2], [], .null),
  (17, 12, .aload_n 0, 1, [0], [], .null),
  (18, 13, .getfield 13, 3, [789, 10, 2, 1], [], .null),
  (21, 14, .bipush 7, 2, [], [], .int (7)),
  (23, 15, .iload 4, 2, [4], [], .null),
  (25, 16, .imul, 1, [], [], .null)]
def xc118_1 : List xIns := [(26, 17, .iconst 2, 1, [], [], .int (2)),
  (27, 18, .iadd, 1, [], [], .null),
  (28, 19, .iaload, 1, [], [], .null),
  (29, 20, .iadd, 1, [], [], .null),
  (30, 21, .istore_n 2, 1, [2], [], .null),
  (31, 22, .iinc 4 1, 3, [4], [], .int (1)),
  (34, 23, .goto (-27), 3, [6], [], .null),
  (37, 24, .iconst 0, 1, [], [], .int (0)),
  (38, 25, .istore 4, 2, [4], [], .null),
  (40, 26, .iload 4, 2, [4], [], .null),
  (42, 27, .bipush 64, 2, [], [], .int (64)),
  (44, 28, .if_icmp .ge 19, 3, [37], [], .null),
  (47, 29, .iload_n 3, 1, [3], [], .null),
  (48, 30, .aload_n 0, 1, [0], [], .null),
  (49, 31, .getfield 16, 3, [791, 10, 4, 1], [], .null),
  (52, 32, .iload 4, 2, [4], [], .null)]
def xc118_2 : List xIns := [(54, 33, .iaload, 1, [], [], .null),
  (55, 34, .iadd, 1, [], [], .null),
  (56, 35, .istore_n 3, 1, [3], [], .null),
  (57, 36, .iinc 4 1, 3, [4], [], .int (1)),
  (60, 37, .goto (-20), 3, [25], [], .null),
  (63, 38, .iload_n 1, 1, [1], [], .null),
  (64, 39, .tableswitch 64 0 5 #[40, 45, 50, 55, 57, 59], 40, [55], [(0, 39), (1, 42), (2, 45), (3, 48), (4, 50), (5, 52)], .null),
  (104, 40, .aload_n 0, 1, [0], [], .null),
  (105, 41, .getfield 88, 3, [788, 10, 1, 0], [], .null),
  (108, 42, .ireturn, 1, [], [], .null),
  (109, 43, .aload_n 0, 1, [0], [], .null),
  (110, 44, .getfield 80, 3, [790, 10, 3, 0], [], .null),
  (113, 45, .ireturn, 1, [], [], .null),
  (114, 46, .aload_n 0, 1, [0], [], .null),
  (115, 47, .getfield 134, 3, [795, 10, 8, 0], [], .null),
  (118, 48, .ireturn, 1, [], [], .null)]
def xc118_3 : List xIns := [(119, 49, .iload_n 2, 1, [2], [], .null),
  (120, 50, .ireturn, 1, [], [], .null),
  (121, 51, .iload_n 3, 1, [3], [], .null),
  (122, 52, .ireturn, 1, [], [], .null),
  (123, 53, .aload_n 0, 1, [0], [], .null),
  (124, 54, .getfield 137, 3, [796, 10, 9, 0], [], .null),
  (127, 55, .ireturn, 1, [], [], .null),
  (128, 56, .iconst (-1), 1, [], [], .int (-1)),
  (129, 0, .ireturn, 1, [], [], .null)]
def xc118 : List (List xIns) := [xc118_0, xc118_1, xc118_2, xc118_3]

/-- StepRingsModel.type(JI)I -/
def xc119_0 : List xIns := [(0, 1, .iload_n 3, 1, [3], [], .null),
  (1, 2, .i2l, 1, [], [], .null),
  (2, 3, .lconst 1, 1, [], [], .long 1),
  (3, 4, .ldc2_w 140, 3, [963], [], .long (8)),
  (6, 5, .invokestatic 76, 3, [129, 886, 887, 0, 3, 0], [], .null),
  (9, 6, .ifCond .ne 5, 3, [8], [], .null),
  (12, 7, .iconst (-1), 1, [], [], .int (-1)),
  (13, 8, .ireturn, 1, [], [], .null),
  (14, 9, .iload_n 3, 1, [3], [], .null),
  (15, 10, .iconst 1, 1, [], [], .int (1)),
  (16, 11, .isub, 1, [], [], .null),
  (17, 12, .istore 4, 2, [4], [], .null),
  (19, 13, .iload 4, 2, [4], [], .null),
  (21, 14, .ifCond .lt 34, 3, [29], [], .null),
  (24, 15, .lload_n 1, 1, [1], [], .null),
  (25, 16, .bipush 8, 2, [], [], .int (8))]
def xc119_1 : List xIns := [(27, 17, .iload 4, 2, [4], [], .null),
  (29, 18, .imul, 1, [], [], .null),
  (30, 19, .lshr, 1, [], [], .null),
  (31, 20, .ldc2_w 142, 3, [964], [], .long (255)),
  (34, 21, .land, 1, [], [], .null),
  (35, 22, .ldc2_w 144, 3, [965], [], .long (32)),
  (38, 23, .ldc2_w 146, 3, [966], [], .long (126)),
  (41, 24, .invokestatic 76, 3, [129, 886, 887, 0, 3, 0], [], .null),
  (44, 25, .ifCond .ne 5, 3, [27], [], .null),
  (47, 26, .iconst (-1), 1, [], [], .int (-1)),
  (48, 27, .ireturn, 1, [], [], .null),
  (49, 28, .iinc 4 (-1), 3, [4], [], .int (-1)),
  (52, 29, .goto (-33), 3, [12], [], .null),
  (55, 30, .aload_n 0, 1, [0], [], .null),
  (56, 31, .getfield 148, 3, [799, 10, 12, 0], [], .null),
  (59, 32, .iload_n 3, 1, [3], [], .null)]
def xc119_2 : List xIns := [(60, 33, .iadd, 1, [], [], .null),
  (61, 34, .sipush 160, 3, [], [], .int (160)),
  (64, 35, .if_icmp .le 6, 3, [37], [], .null),
  (67, 36, .bipush (-3), 2, [], [], .int (-3)),
  (69, 37, .ireturn, 1, [], [], .null),
  (70, 38, .iload_n 3, 1, [3], [], .null),
  (71, 39, .iconst 1, 1, [], [], .int (1)),
  (72, 40, .isub, 1, [], [], .null),
  (73, 41, .istore 4, 2, [4], [], .null),
  (75, 42, .iload 4, 2, [4], [], .null),
  (77, 43, .ifCond .lt 40, 3, [64], [], .null),
  (80, 44, .aload_n 0, 1, [0], [], .null),
  (81, 45, .getfield 28, 3, [798, 10, 11, 1], [], .null),
  (84, 46, .aload_n 0, 1, [0], [], .null),
  (85, 47, .getfield 148, 3, [799, 10, 12, 0], [], .null),
  (88, 48, .lload_n 1, 1, [1], [], .null)]
def xc119_3 : List xIns := [(89, 49, .bipush 8, 2, [], [], .int (8)),
  (91, 50, .iload 4, 2, [4], [], .null),
  (93, 51, .imul, 1, [], [], .null),
  (94, 52, .lshr, 1, [], [], .null),
  (95, 53, .ldc2_w 142, 3, [964], [], .long (255)),
  (98, 54, .land, 1, [], [], .null),
  (99, 55, .l2i, 1, [], [], .null),
  (100, 56, .iastore, 1, [], [], .null),
  (101, 57, .aload_n 0, 1, [0], [], .null),
  (102, 58, .dup, 1, [], [], .null),
  (103, 59, .getfield 148, 3, [799, 10, 12, 0], [], .null),
  (106, 60, .iconst 1, 1, [], [], .int (1)),
  (107, 61, .iadd, 1, [], [], .null),
  (108, 62, .putfield 148, 3, [799, 10, 12, 0], [], .null),
  (111, 63, .iinc 4 (-1), 3, [4], [], .int (-1)),
  (114, 64, .goto (-39), 3, [41], [], .null)]
def xc119_4 : List xIns := [(117, 65, .aload_n 0, 1, [0], [], .null),
  (118, 66, .getfield 148, 3, [799, 10, 12, 0], [], .null),
  (121, 0, .ireturn, 1, [], [], .null)]
def xc119 : List (List xIns) := [xc119_0, xc119_1, xc119_2, xc119_3, xc119_4]

/-- StepRingsModel.nextByte()I -/
def xc120_0 : List xIns := [(0, 1, .aload_n 0, 1, [0], [], .null),
  (1, 2, .getfield 151, 3, [800, 10, 13, 0], [], .null),
  (4, 3, .aload_n 0, 1, [0], [], .null),
  (5, 4, .getfield 148, 3, [799, 10, 12, 0], [], .null),
  (8, 5, .if_icmp .ge 30, 3, [19], [], .null),
  (11, 6, .aload_n 0, 1, [0], [], .null),
  (12, 7, .getfield 28, 3, [798, 10, 11, 1], [], .null),
  (15, 8, .aload_n 0, 1, [0], [], .null),
  (16, 9, .getfield 151, 3, [800, 10, 13, 0], [], .null),
  (19, 10, .iaload, 1, [], [], .null),
  (20, 11, .bipush 32, 2, [], [], .int (32)),
  (22, 12, .if_icmp .ne 16, 3, [19], [], .null),
  (25, 13, .aload_n 0, 1, [0], [], .null),
  (26, 14, .dup, 1, [], [], .null),
  (27, 15, .getfield 151, 3, [800, 10, 13, 0], [], .null),
  (30, 16, .iconst 1, 1, [], [], .int (1))]
def xc120_1 : List xIns := [(31, 17, .iadd, 1, [], [], .null),
  (32, 18, .putfield 151, 3, [800, 10, 13, 0], [], .null),
  (35, 19, .goto (-35), 3, [0], [], .null),
  (38, 20, .aload_n 0, 1, [0], [], .null),
  (39, 21, .getfield 151, 3, [800, 10, 13, 0], [], .null),
  (42, 22, .aload_n 0, 1, [0], [], .null),
  (43, 23, .getfield 148, 3, [799, 10, 12, 0], [], .null),
  (46, 24, .if_icmp .ge 15, 3, [30], [], .null),
  (49, 25, .aload_n 0, 1, [0], [], .null),
  (50, 26, .getfield 28, 3, [798, 10, 11, 1], [], .null),
  (53, 27, .aload_n 0, 1, [0], [], .null),
  (54, 28, .getfield 151, 3, [800, 10, 13, 0], [], .null),
  (57, 29, .iaload, 1, [], [], .null),
  (58, 30, .goto 4, 3, [31], [], .null),
  (61, 31, .iconst (-1), 1, [], [], .int (-1)),
  (62, 0, .ireturn, 1, [], [], .null)]
def xc120 : List (List xIns) := [xc120_0, xc120_1]

/-- StepRingsModel.readPlace()I -/
def xc121_0 : List xIns := [(0, 1, .aload_n 0, 1, [0], [], .null),
  (1, 2, .invokevirtual 154, 3, [121, 983, 985, 34, 1, 0, 10], [], .null),
  (4, 3, .bipush 97, 2, [], [], .int (97)),
  (6, 4, .isub, 1, [], [], .null),
  (7, 5, .istore_n 1, 1, [1], [], .null),
  (8, 6, .iload_n 1, 1, [1], [], .null),
  (9, 7, .invokestatic 91, 3, [140, 882, 883, 0, 1, 0], [], .null),
  (12, 8, .ifCond .ne 5, 3, [10], [], .null),
  (15, 9, .iconst (-1), 1, [], [], .int (-1)),
  (16, 10, .ireturn, 1, [], [], .null),
  (17, 11, .aload_n 0, 1, [0], [], .null),
  (18, 12, .dup, 1, [], [], .null),
  (19, 13, .getfield 151, 3, [800, 10, 13, 0], [], .null),
  (22, 14, .iconst 1, 1, [], [], .int (1)),
  (23, 15, .iadd, 1, [], [], .null),
  (24, 16, .putfield 151, 3, [800, 10, 13, 0], [], .null)]
def xc121_1 : List xIns := [(27, 17, .iload_n 1, 1, [1], [], .null),
  (28, 0, .ireturn, 1, [], [], .null)]
def xc121 : List (List xIns) := [xc121_0, xc121_1]

/-- StepRingsModel.readNumber(II)I -/
def xc122_0 : List xIns := [(0, 1, .aload_n 0, 1, [0], [], .null),
  (1, 2, .invokevirtual 154, 3, [121, 983, 985, 34, 1, 0, 10], [], .null),
  (4, 3, .pop, 1, [], [], .null),
  (5, 4, .aload_n 0, 1, [0], [], .null),
  (6, 5, .getfield 151, 3, [800, 10, 13, 0], [], .null),
  (9, 6, .istore_n 3, 1, [3], [], .null),
  (10, 7, .iconst 0, 1, [], [], .int (0)),
  (11, 8, .istore 4, 2, [4], [], .null),
  (13, 9, .aload_n 0, 1, [0], [], .null),
  (14, 10, .getfield 151, 3, [800, 10, 13, 0], [], .null),
  (17, 11, .aload_n 0, 1, [0], [], .null),
  (18, 12, .getfield 148, 3, [799, 10, 12, 0], [], .null),
  (21, 13, .if_icmp .ge 70, 3, [47], [], .null),
  (24, 14, .aload_n 0, 1, [0], [], .null),
  (25, 15, .getfield 28, 3, [798, 10, 11, 1], [], .null),
  (28, 16, .aload_n 0, 1, [0], [], .null)]
def xc122_1 : List xIns := [(29, 17, .getfield 151, 3, [800, 10, 13, 0], [], .null),
  (32, 18, .iaload, 1, [], [], .null),
  (33, 19, .i2l, 1, [], [], .null),
  (34, 20, .ldc2_w 158, 3, [991], [], .long (48)),
  (37, 21, .ldc2_w 160, 3, [992], [], .long (57)),
  (40, 22, .invokestatic 76, 3, [129, 886, 887, 0, 3, 0], [], .null),
  (43, 23, .ifCond .eq 48, 3, [47], [], .null),
  (46, 24, .iload 4, 2, [4], [], .null),
  (48, 25, .ldc 162, 2, [993], [], .int (99999)),
  (50, 26, .if_icmp .le 8, 3, [28], [], .null),
  (53, 27, .iload 4, 2, [4], [], .null),
  (55, 28, .goto 21, 3, [39], [], .null),
  (58, 29, .bipush 10, 2, [], [], .int (10)),
  (60, 30, .iload 4, 2, [4], [], .null),
  (62, 31, .imul, 1, [], [], .null),
  (63, 32, .aload_n 0, 1, [0], [], .null)]
def xc122_2 : List xIns := [(64, 33, .getfield 28, 3, [798, 10, 11, 1], [], .null),
  (67, 34, .aload_n 0, 1, [0], [], .null),
  (68, 35, .getfield 151, 3, [800, 10, 13, 0], [], .null),
  (71, 36, .iaload, 1, [], [], .null),
  (72, 37, .iadd, 1, [], [], .null),
  (73, 38, .bipush 48, 2, [], [], .int (48)),
  (75, 39, .isub, 1, [], [], .null),
  (76, 40, .istore 4, 2, [4], [], .null),
  (78, 41, .aload_n 0, 1, [0], [], .null),
  (79, 42, .dup, 1, [], [], .null),
  (80, 43, .getfield 151, 3, [800, 10, 13, 0], [], .null),
  (83, 44, .iconst 1, 1, [], [], .int (1)),
  (84, 45, .iadd, 1, [], [], .null),
  (85, 46, .putfield 151, 3, [800, 10, 13, 0], [], .null),
  (88, 47, .goto (-75), 3, [8], [], .null),
  (91, 48, .aload_n 0, 1, [0], [], .null)]
def xc122_3 : List xIns := [(92, 49, .getfield 151, 3, [800, 10, 13, 0], [], .null),
  (95, 50, .iload_n 3, 1, [3], [], .null),
  (96, 51, .if_icmp .ne 5, 3, [53], [], .null),
  (99, 52, .iconst (-1), 1, [], [], .int (-1)),
  (100, 53, .ireturn, 1, [], [], .null),
  (101, 54, .iload 4, 2, [4], [], .null),
  (103, 55, .i2l, 1, [], [], .null),
  (104, 56, .iload_n 1, 1, [1], [], .null),
  (105, 57, .i2l, 1, [], [], .null),
  (106, 58, .iload_n 2, 1, [2], [], .null),
  (107, 59, .i2l, 1, [], [], .null),
  (108, 60, .invokestatic 76, 3, [129, 886, 887, 0, 3, 0], [], .null),
  (111, 61, .ifCond .ne 10, 3, [66], [], .null),
  (114, 62, .aload_n 0, 1, [0], [], .null),
  (115, 63, .iload_n 3, 1, [3], [], .null),
  (116, 64, .putfield 151, 3, [800, 10, 13, 0], [], .null)]
def xc122_4 : List xIns := [(119, 65, .iconst (-1), 1, [], [], .int (-1)),
  (120, 66, .ireturn, 1, [], [], .null),
  (121, 67, .iload 4, 2, [4], [], .null),
  (123, 0, .ireturn, 1, [], [], .null)]
def xc122 : List (List xIns) := [xc122_0, xc122_1, xc122_2, xc122_3, xc122_4]

/-- StepRingsModel.readWay(I)Z -/
def xc123_0 : List xIns := [(0, 1, .aload_n 0, 1, [0], [], .null),
  (1, 2, .getfield 31, 3, [802, 10, 15, 1], [], .null),
  (4, 3, .iload_n 1, 1, [1], [], .null),
  (5, 4, .aload_n 0, 1, [0], [], .null),
  (6, 5, .invokevirtual 163, 3, [122, 979, 981, 33, 1, 0, 10], [], .null),
  (9, 6, .iastore, 1, [], [], .null),
  (10, 7, .aload_n 0, 1, [0], [], .null),
  (11, 8, .getfield 31, 3, [802, 10, 15, 1], [], .null),
  (14, 9, .iload_n 1, 1, [1], [], .null),
  (15, 10, .iaload, 1, [], [], .null),
  (16, 11, .ifCond .ge 5, 3, [13], [], .null),
  (19, 12, .iconst 0, 1, [], [], .int (0)),
  (20, 13, .ireturn, 1, [], [], .null),
  (21, 14, .aload_n 0, 1, [0], [], .null),
  (22, 15, .getfield 31, 3, [802, 10, 15, 1], [], .null),
  (25, 16, .iload_n 1, 1, [1], [], .null)]
def xc123_1 : List xIns := [(26, 17, .iconst 3, 1, [], [], .int (3)),
  (27, 18, .iadd, 1, [], [], .null),
  (28, 19, .iconst 0, 1, [], [], .int (0)),
  (29, 20, .iastore, 1, [], [], .null),
  (30, 21, .aload_n 0, 1, [0], [], .null),
  (31, 22, .invokevirtual 154, 3, [121, 983, 985, 34, 1, 0, 10], [], .null),
  (34, 23, .istore_n 2, 1, [2], [], .null),
  (35, 24, .iload_n 2, 1, [2], [], .null),
  (36, 25, .bipush 43, 2, [], [], .int (43)),
  (38, 26, .if_icmp .eq 9, 3, [29], [], .null),
  (41, 27, .iload_n 2, 1, [2], [], .null),
  (42, 28, .bipush 45, 2, [], [], .int (45)),
  (44, 29, .if_icmp .ne 65, 3, [67], [], .null),
  (47, 30, .aload_n 0, 1, [0], [], .null),
  (48, 31, .dup, 1, [], [], .null),
  (49, 32, .getfield 151, 3, [800, 10, 13, 0], [], .null)]
def xc123_2 : List xIns := [(52, 33, .iconst 1, 1, [], [], .int (1)),
  (53, 34, .iadd, 1, [], [], .null),
  (54, 35, .putfield 151, 3, [800, 10, 13, 0], [], .null),
  (57, 36, .aload_n 0, 1, [0], [], .null),
  (58, 37, .invokevirtual 154, 3, [121, 983, 985, 34, 1, 0, 10], [], .null),
  (61, 38, .bipush 48, 2, [], [], .int (48)),
  (63, 39, .isub, 1, [], [], .null),
  (64, 40, .istore_n 3, 1, [3], [], .null),
  (65, 41, .iload_n 3, 1, [3], [], .null),
  (66, 42, .i2l, 1, [], [], .null),
  (67, 43, .lconst 0, 1, [], [], .long 0),
  (68, 44, .ldc2_w 98, 3, [891], [], .long (9)),
  (71, 45, .invokestatic 76, 3, [129, 886, 887, 0, 3, 0], [], .null),
  (74, 46, .ifCond .ne 5, 3, [48], [], .null),
  (77, 47, .iconst 0, 1, [], [], .int (0)),
  (78, 48, .ireturn, 1, [], [], .null)]
def xc123_3 : List xIns := [(79, 49, .aload_n 0, 1, [0], [], .null),
  (80, 50, .getfield 31, 3, [802, 10, 15, 1], [], .null),
  (83, 51, .iload_n 1, 1, [1], [], .null),
  (84, 52, .iconst 3, 1, [], [], .int (3)),
  (85, 53, .iadd, 1, [], [], .null),
  (86, 54, .iload_n 2, 1, [2], [], .null),
  (87, 55, .bipush 43, 2, [], [], .int (43)),
  (89, 56, .if_icmp .ne 7, 3, [58], [], .null),
  (92, 57, .iload_n 3, 1, [3], [], .null),
  (93, 58, .goto 5, 3, [60], [], .null),
  (96, 59, .iload_n 3, 1, [3], [], .null),
  (97, 60, .ineg, 1, [], [], .null),
  (98, 61, .iastore, 1, [], [], .null),
  (99, 62, .aload_n 0, 1, [0], [], .null),
  (100, 63, .dup, 1, [], [], .null),
  (101, 64, .getfield 151, 3, [800, 10, 13, 0], [], .null)]
def xc123_4 : List xIns := [(104, 65, .iconst 1, 1, [], [], .int (1)),
  (105, 66, .iadd, 1, [], [], .null),
  (106, 67, .putfield 151, 3, [800, 10, 13, 0], [], .null),
  (109, 68, .aload_n 0, 1, [0], [], .null),
  (110, 69, .invokevirtual 154, 3, [121, 983, 985, 34, 1, 0, 10], [], .null),
  (113, 70, .bipush 97, 2, [], [], .int (97)),
  (115, 71, .isub, 1, [], [], .null),
  (116, 72, .aload_n 0, 1, [0], [], .null),
  (117, 73, .getfield 31, 3, [802, 10, 15, 1], [], .null),
  (120, 74, .iload_n 1, 1, [1], [], .null),
  (121, 75, .iaload, 1, [], [], .null),
  (122, 76, .if_icmp .ne 5, 3, [78], [], .null),
  (125, 77, .iconst 0, 1, [], [], .int (0)),
  (126, 78, .ireturn, 1, [], [], .null),
  (127, 79, .aload_n 0, 1, [0], [], .null),
  (128, 80, .getfield 31, 3, [802, 10, 15, 1], [], .null)]
def xc123_5 : List xIns := [(131, 81, .iload_n 1, 1, [1], [], .null),
  (132, 82, .iconst 1, 1, [], [], .int (1)),
  (133, 83, .iadd, 1, [], [], .null),
  (134, 84, .aload_n 0, 1, [0], [], .null),
  (135, 85, .invokevirtual 163, 3, [122, 979, 981, 33, 1, 0, 10], [], .null),
  (138, 86, .iastore, 1, [], [], .null),
  (139, 87, .aload_n 0, 1, [0], [], .null),
  (140, 88, .getfield 31, 3, [802, 10, 15, 1], [], .null),
  (143, 89, .iload_n 1, 1, [1], [], .null),
  (144, 90, .iconst 1, 1, [], [], .int (1)),
  (145, 91, .iadd, 1, [], [], .null),
  (146, 92, .iaload, 1, [], [], .null),
  (147, 93, .ifCond .ge 5, 3, [95], [], .null),
  (150, 94, .iconst 0, 1, [], [], .int (0)),
  (151, 95, .ireturn, 1, [], [], .null),
  (152, 96, .aload_n 0, 1, [0], [], .null)]
def xc123_6 : List xIns := [(153, 97, .getfield 31, 3, [802, 10, 15, 1], [], .null),
  (156, 98, .iload_n 1, 1, [1], [], .null),
  (157, 99, .iconst 2, 1, [], [], .int (2)),
  (158, 100, .iadd, 1, [], [], .null),
  (159, 101, .aload_n 0, 1, [0], [], .null),
  (160, 102, .iconst 1, 1, [], [], .int (1)),
  (161, 103, .bipush 99, 2, [], [], .int (99)),
  (163, 104, .invokevirtual 166, 3, [123, 987, 989, 35, 3, 0, 10], [], .null),
  (166, 105, .iastore, 1, [], [], .null),
  (167, 106, .aload_n 0, 1, [0], [], .null),
  (168, 107, .getfield 31, 3, [802, 10, 15, 1], [], .null),
  (171, 108, .iload_n 1, 1, [1], [], .null),
  (172, 109, .iconst 2, 1, [], [], .int (2)),
  (173, 110, .iadd, 1, [], [], .null),
  (174, 111, .iaload, 1, [], [], .null),
  (175, 112, .ifCond .ge 5, 3, [114], [], .null)]
def xc123_7 : List xIns := [(178, 113, .iconst 0, 1, [], [], .int (0)),
  (179, 114, .ireturn, 1, [], [], .null),
  (180, 115, .aload_n 0, 1, [0], [], .null),
  (181, 116, .getfield 31, 3, [802, 10, 15, 1], [], .null),
  (184, 117, .iload_n 1, 1, [1], [], .null),
  (185, 118, .iconst 4, 1, [], [], .int (4)),
  (186, 119, .iadd, 1, [], [], .null),
  (187, 120, .aload_n 0, 1, [0], [], .null),
  (188, 121, .invokevirtual 154, 3, [121, 983, 985, 34, 1, 0, 10], [], .null),
  (191, 122, .bipush 103, 2, [], [], .int (103)),
  (193, 123, .if_icmp .ne 7, 3, [125], [], .null),
  (196, 124, .iconst 1, 1, [], [], .int (1)),
  (197, 125, .goto 4, 3, [126], [], .null),
  (200, 126, .iconst 0, 1, [], [], .int (0)),
  (201, 127, .iastore, 1, [], [], .null),
  (202, 128, .aload_n 0, 1, [0], [], .null)]
def xc123_8 : List xIns := [(203, 129, .dup, 1, [], [], .null),
  (204, 130, .getfield 151, 3, [800, 10, 13, 0], [], .null),
  (207, 131, .aload_n 0, 1, [0], [], .null),
  (208, 132, .getfield 31, 3, [802, 10, 15, 1], [], .null),
  (211, 133, .iload_n 1, 1, [1], [], .null),
  (212, 134, .iconst 4, 1, [], [], .int (4)),
  (213, 135, .iadd, 1, [], [], .null),
  (214, 136, .iaload, 1, [], [], .null),
  (215, 137, .iadd, 1, [], [], .null),
  (216, 138, .putfield 151, 3, [800, 10, 13, 0], [], .null),
  (219, 139, .iconst 1, 1, [], [], .int (1)),
  (220, 0, .ireturn, 1, [], [], .null)]
def xc123 : List (List xIns) := [xc123_0, xc123_1, xc123_2, xc123_3, xc123_4, xc123_5, xc123_6, xc123_7, xc123_8]

/-- StepRingsModel.readOne(I)Z -/
def xc124_0 : List xIns := [(0, 1, .aload_n 0, 1, [0], [], .null),
  (1, 2, .getfield 31, 3, [802, 10, 15, 1], [], .null),
  (4, 3, .iload_n 1, 1, [1], [], .null),
  (5, 4, .aload_n 0, 1, [0], [], .null),
  (6, 5, .invokevirtual 163, 3, [122, 979, 981, 33, 1, 0, 10], [], .null),
  (9, 6, .iastore, 1, [], [], .null),
  (10, 7, .aload_n 0, 1, [0], [], .null),
  (11, 8, .getfield 31, 3, [802, 10, 15, 1], [], .null),
  (14, 9, .iload_n 1, 1, [1], [], .null),
  (15, 10, .iaload, 1, [], [], .null),
  (16, 11, .ifCond .ge 5, 3, [13], [], .null),
  (19, 12, .iconst 0, 1, [], [], .int (0)),
  (20, 13, .ireturn, 1, [], [], .null),
  (21, 14, .aload_n 0, 1, [0], [], .null),
  (22, 15, .invokevirtual 154, 3, [121, 983, 985, 34, 1, 0, 10], [], .null),
  (25, 16, .istore_n 2, 1, [2], [], .null)]
def xc124_1 : List xIns := [(26, 17, .aload_n 0, 1, [0], [], .null),
  (27, 18, .getfield 31, 3, [802, 10, 15, 1], [], .null),
  (30, 19, .iload_n 1, 1, [1], [], .null),
  (31, 20, .iconst 1, 1, [], [], .int (1)),
  (32, 21, .iadd, 1, [], [], .null),
  (33, 22, .iload_n 2, 1, [2], [], .null),
  (34, 23, .bipush 103, 2, [], [], .int (103)),
  (36, 24, .if_icmp .ne 7, 3, [26], [], .null),
  (39, 25, .iconst 0, 1, [], [], .int (0)),
  (40, 26, .goto 34, 3, [42], [], .null),
  (43, 27, .iload_n 2, 1, [2], [], .null),
  (44, 28, .bipush 99, 2, [], [], .int (99)),
  (46, 29, .if_icmp .ne 7, 3, [31], [], .null),
  (49, 30, .iconst 1, 1, [], [], .int (1)),
  (50, 31, .goto 24, 3, [42], [], .null),
  (53, 32, .iload_n 2, 1, [2], [], .null)]
def xc124_2 : List xIns := [(54, 33, .bipush 111, 2, [], [], .int (111)),
  (56, 34, .if_icmp .ne 7, 3, [36], [], .null),
  (59, 35, .iconst 2, 1, [], [], .int (2)),
  (60, 36, .goto 14, 3, [42], [], .null),
  (63, 37, .iload_n 2, 1, [2], [], .null),
  (64, 38, .bipush 112, 2, [], [], .int (112)),
  (66, 39, .if_icmp .ne 7, 3, [41], [], .null),
  (69, 40, .iconst 3, 1, [], [], .int (3)),
  (70, 41, .goto 4, 3, [42], [], .null),
  (73, 42, .iconst (-1), 1, [], [], .int (-1)),
  (74, 43, .iastore, 1, [], [], .null),
  (75, 44, .aload_n 0, 1, [0], [], .null),
  (76, 45, .getfield 31, 3, [802, 10, 15, 1], [], .null),
  (79, 46, .iload_n 1, 1, [1], [], .null),
  (80, 47, .iconst 1, 1, [], [], .int (1)),
  (81, 48, .iadd, 1, [], [], .null)]
def xc124_3 : List xIns := [(82, 49, .iaload, 1, [], [], .null),
  (83, 50, .ifCond .ge 5, 3, [52], [], .null),
  (86, 51, .iconst 0, 1, [], [], .int (0)),
  (87, 52, .ireturn, 1, [], [], .null),
  (88, 53, .aload_n 0, 1, [0], [], .null),
  (89, 54, .dup, 1, [], [], .null),
  (90, 55, .getfield 151, 3, [800, 10, 13, 0], [], .null),
  (93, 56, .iconst 1, 1, [], [], .int (1)),
  (94, 57, .iadd, 1, [], [], .null),
  (95, 58, .putfield 151, 3, [800, 10, 13, 0], [], .null),
  (98, 59, .aload_n 0, 1, [0], [], .null),
  (99, 60, .getfield 31, 3, [802, 10, 15, 1], [], .null),
  (102, 61, .iload_n 1, 1, [1], [], .null),
  (103, 62, .iconst 2, 1, [], [], .int (2)),
  (104, 63, .iadd, 1, [], [], .null),
  (105, 64, .aload_n 0, 1, [0], [], .null)]
def xc124_4 : List xIns := [(106, 65, .iconst 0, 1, [], [], .int (0)),
  (107, 66, .ldc 162, 2, [993], [], .int (99999)),
  (109, 67, .invokevirtual 166, 3, [123, 987, 989, 35, 3, 0, 10], [], .null),
  (112, 68, .iastore, 1, [], [], .null),
  (113, 69, .aload_n 0, 1, [0], [], .null),
  (114, 70, .getfield 31, 3, [802, 10, 15, 1], [], .null),
  (117, 71, .iload_n 1, 1, [1], [], .null),
  (118, 72, .iconst 2, 1, [], [], .int (2)),
  (119, 73, .iadd, 1, [], [], .null),
  (120, 74, .iaload, 1, [], [], .null),
  (121, 75, .ifCond .lt 7, 3, [77], [], .null),
  (124, 76, .iconst 1, 1, [], [], .int (1)),
  (125, 77, .goto 4, 3, [78], [], .null),
  (128, 78, .iconst 0, 1, [], [], .int (0)),
  (129, 0, .ireturn, 1, [], [], .null)]
def xc124 : List (List xIns) := [xc124_0, xc124_1, xc124_2, xc124_3, xc124_4]

/-- StepRingsModel.readAll(Z)Z -/
def xc125_0 : List xIns := [(0, 1, .aload_n 0, 1, [0], [], .null),
  (1, 2, .iconst 0, 1, [], [], .int (0)),
  (2, 3, .putfield 151, 3, [800, 10, 13, 0], [], .null),
  (5, 4, .iload_n 1, 1, [1], [], .null),
  (6, 5, .ifCond .eq 8, 3, [7], [], .null),
  (9, 6, .bipush 24, 2, [], [], .int (24)),
  (11, 7, .goto 5, 3, [8], [], .null),
  (14, 8, .bipush 8, 2, [], [], .int (8)),
  (16, 9, .istore_n 2, 1, [2], [], .null),
  (17, 10, .iconst 0, 1, [], [], .int (0)),
  (18, 11, .istore_n 3, 1, [3], [], .null),
  (19, 12, .iload_n 3, 1, [3], [], .null),
  (20, 13, .iload_n 2, 1, [2], [], .null),
  (21, 14, .if_icmp .ge 84, 3, [61], [], .null),
  (24, 15, .iload_n 1, 1, [1], [], .null),
  (25, 16, .ifCond .eq 16, 3, [23], [], .null)]
def xc125_1 : List xIns := [(28, 17, .aload_n 0, 1, [0], [], .null),
  (29, 18, .iconst 5, 1, [], [], .int (5)),
  (30, 19, .iload_n 3, 1, [3], [], .null),
  (31, 20, .imul, 1, [], [], .null),
  (32, 21, .invokevirtual 170, 3, [124, 975, 977, 32, 2, 0, 10], [], .null),
  (35, 22, .ifCond .eq 16, 3, [29], [], .null),
  (38, 23, .goto 15, 3, [31], [], .null),
  (41, 24, .aload_n 0, 1, [0], [], .null),
  (42, 25, .iconst 5, 1, [], [], .int (5)),
  (43, 26, .iload_n 3, 1, [3], [], .null),
  (44, 27, .imul, 1, [], [], .null),
  (45, 28, .invokevirtual 173, 3, [125, 994, 996, 36, 2, 0, 10], [], .null),
  (48, 29, .ifCond .ne 5, 3, [31], [], .null),
  (51, 30, .iconst 0, 1, [], [], .int (0)),
  (52, 31, .ireturn, 1, [], [], .null),
  (53, 32, .aload_n 0, 1, [0], [], .null)]
def xc125_2 : List xIns := [(54, 33, .iload_n 3, 1, [3], [], .null),
  (55, 34, .iconst 1, 1, [], [], .int (1)),
  (56, 35, .iadd, 1, [], [], .null),
  (57, 36, .putfield 176, 3, [801, 10, 14, 0], [], .null),
  (60, 37, .aload_n 0, 1, [0], [], .null),
  (61, 38, .invokevirtual 154, 3, [121, 983, 985, 34, 1, 0, 10], [], .null),
  (64, 39, .istore 4, 2, [4], [], .null),
  (66, 40, .iload 4, 2, [4], [], .null),
  (68, 41, .ifCond .ge 5, 3, [43], [], .null),
  (71, 42, .iconst 1, 1, [], [], .int (1)),
  (72, 43, .ireturn, 1, [], [], .null),
  (73, 44, .iload 4, 2, [4], [], .null),
  (75, 45, .bipush 44, 2, [], [], .int (44)),
  (77, 46, .if_icmp .ne 10, 3, [51], [], .null),
  (80, 47, .iload_n 3, 1, [3], [], .null),
  (81, 48, .iload_n 2, 1, [2], [], .null)]
def xc125_3 : List xIns := [(82, 49, .iconst 1, 1, [], [], .int (1)),
  (83, 50, .isub, 1, [], [], .null),
  (84, 51, .if_icmp .ne 5, 3, [53], [], .null),
  (87, 52, .iconst 0, 1, [], [], .int (0)),
  (88, 53, .ireturn, 1, [], [], .null),
  (89, 54, .aload_n 0, 1, [0], [], .null),
  (90, 55, .dup, 1, [], [], .null),
  (91, 56, .getfield 151, 3, [800, 10, 13, 0], [], .null),
  (94, 57, .iconst 1, 1, [], [], .int (1)),
  (95, 58, .iadd, 1, [], [], .null),
  (96, 59, .putfield 151, 3, [800, 10, 13, 0], [], .null),
  (99, 60, .iinc 3 1, 3, [3], [], .int (1)),
  (102, 61, .goto (-83), 3, [11], [], .null),
  (105, 62, .iconst 0, 1, [], [], .int (0)),
  (106, 0, .ireturn, 1, [], [], .null)]
def xc125 : List (List xIns) := [xc125_0, xc125_1, xc125_2, xc125_3]

/-- StepRingsModel.town()I -/
def xc126_0 : List xIns := [(0, 1, .aload_n 0, 1, [0], [], .null),
  (1, 2, .iconst 1, 1, [], [], .int (1)),
  (2, 3, .invokevirtual 179, 3, [126, 971, 973, 31, 2, 0, 10], [], .null),
  (5, 4, .istore_n 1, 1, [1], [], .null),
  (6, 5, .iload_n 1, 1, [1], [], .null),
  (7, 6, .ifCond .ne 8, 3, [9], [], .null),
  (10, 7, .aload_n 0, 1, [0], [], .null),
  (11, 8, .invokevirtual 154, 3, [121, 983, 985, 34, 1, 0, 10], [], .null),
  (14, 9, .pop, 1, [], [], .null),
  (15, 10, .aload_n 0, 1, [0], [], .null),
  (16, 11, .iconst 0, 1, [], [], .int (0)),
  (17, 12, .putfield 148, 3, [799, 10, 12, 0], [], .null),
  (20, 13, .iload_n 1, 1, [1], [], .null),
  (21, 14, .ifCond .ne 11, 3, [19], [], .null),
  (24, 15, .bipush (-20), 2, [], [], .int (-20)),
  (26, 16, .aload_n 0, 1, [0], [], .null)]
def xc126_1 : List xIns := [(27, 17, .getfield 151, 3, [800, 10, 13, 0], [], .null),
  (30, 18, .isub, 1, [], [], .null),
  (31, 19, .ireturn, 1, [], [], .null),
  (32, 20, .aload_n 0, 1, [0], [], .null),
  (33, 21, .iconst 0, 1, [], [], .int (0)),
  (34, 22, .putfield 88, 3, [788, 10, 1, 0], [], .null),
  (37, 23, .iconst 0, 1, [], [], .int (0)),
  (38, 24, .istore_n 2, 1, [2], [], .null),
  (39, 25, .iload_n 2, 1, [2], [], .null),
  (40, 26, .aload_n 0, 1, [0], [], .null),
  (41, 27, .getfield 176, 3, [801, 10, 14, 0], [], .null),
  (44, 28, .if_icmp .ge 61, 3, [70], [], .null),
  (47, 29, .aload_n 0, 1, [0], [], .null),
  (48, 30, .aload_n 0, 1, [0], [], .null),
  (49, 31, .getfield 31, 3, [802, 10, 15, 1], [], .null),
  (52, 32, .iconst 5, 1, [], [], .int (5))]
def xc126_2 : List xIns := [(53, 33, .iload_n 2, 1, [2], [], .null),
  (54, 34, .imul, 1, [], [], .null),
  (55, 35, .iaload, 1, [], [], .null),
  (56, 36, .aload_n 0, 1, [0], [], .null),
  (57, 37, .getfield 31, 3, [802, 10, 15, 1], [], .null),
  (60, 38, .iconst 5, 1, [], [], .int (5)),
  (61, 39, .iload_n 2, 1, [2], [], .null),
  (62, 40, .imul, 1, [], [], .null),
  (63, 41, .iconst 1, 1, [], [], .int (1)),
  (64, 42, .iadd, 1, [], [], .null),
  (65, 43, .iaload, 1, [], [], .null),
  (66, 44, .aload_n 0, 1, [0], [], .null),
  (67, 45, .getfield 31, 3, [802, 10, 15, 1], [], .null),
  (70, 46, .iconst 5, 1, [], [], .int (5)),
  (71, 47, .iload_n 2, 1, [2], [], .null),
  (72, 48, .imul, 1, [], [], .null)]
def xc126_3 : List xIns := [(73, 49, .iconst 2, 1, [], [], .int (2)),
  (74, 50, .iadd, 1, [], [], .null),
  (75, 51, .iaload, 1, [], [], .null),
  (76, 52, .aload_n 0, 1, [0], [], .null),
  (77, 53, .getfield 31, 3, [802, 10, 15, 1], [], .null),
  (80, 54, .iconst 5, 1, [], [], .int (5)),
  (81, 55, .iload_n 2, 1, [2], [], .null),
  (82, 56, .imul, 1, [], [], .null),
  (83, 57, .iconst 3, 1, [], [], .int (3)),
  (84, 58, .iadd, 1, [], [], .null),
  (85, 59, .iaload, 1, [], [], .null),
  (86, 60, .aload_n 0, 1, [0], [], .null),
  (87, 61, .getfield 31, 3, [802, 10, 15, 1], [], .null),
  (90, 62, .iconst 5, 1, [], [], .int (5)),
  (91, 63, .iload_n 2, 1, [2], [], .null),
  (92, 64, .imul, 1, [], [], .null)]
def xc126_4 : List xIns := [(93, 65, .iconst 4, 1, [], [], .int (4)),
  (94, 66, .iadd, 1, [], [], .null),
  (95, 67, .iaload, 1, [], [], .null),
  (96, 68, .invokevirtual 100, 3, [168, 892, 894, 25, 6, 0, 10], [], .null),
  (99, 69, .iinc 2 1, 3, [2], [], .int (1)),
  (102, 70, .goto (-63), 3, [24], [], .null),
  (105, 71, .aload_n 0, 1, [0], [], .null),
  (106, 72, .getfield 88, 3, [788, 10, 1, 0], [], .null),
  (109, 0, .ireturn, 1, [], [], .null)]
def xc126 : List (List xIns) := [xc126_0, xc126_1, xc126_2, xc126_3, xc126_4]

/-- StepRingsModel.people()I -/
def xc127_0 : List xIns := [(0, 1, .aload_n 0, 1, [0], [], .null),
  (1, 2, .iconst 0, 1, [], [], .int (0)),
  (2, 3, .invokevirtual 179, 3, [126, 971, 973, 31, 2, 0, 10], [], .null),
  (5, 4, .istore_n 1, 1, [1], [], .null),
  (6, 5, .iload_n 1, 1, [1], [], .null),
  (7, 6, .ifCond .ne 8, 3, [9], [], .null),
  (10, 7, .aload_n 0, 1, [0], [], .null),
  (11, 8, .invokevirtual 154, 3, [121, 983, 985, 34, 1, 0, 10], [], .null),
  (14, 9, .pop, 1, [], [], .null),
  (15, 10, .aload_n 0, 1, [0], [], .null),
  (16, 11, .iconst 0, 1, [], [], .int (0)),
  (17, 12, .putfield 148, 3, [799, 10, 12, 0], [], .null),
  (20, 13, .iload_n 1, 1, [1], [], .null),
  (21, 14, .ifCond .ne 11, 3, [19], [], .null),
  (24, 15, .bipush (-20), 2, [], [], .int (-20)),
  (26, 16, .aload_n 0, 1, [0], [], .null)]
def xc127_1 : List xIns := [(27, 17, .getfield 151, 3, [800, 10, 13, 0], [], .null),
  (30, 18, .isub, 1, [], [], .null),
  (31, 19, .ireturn, 1, [], [], .null),
  (32, 20, .aload_n 0, 1, [0], [], .null),
  (33, 21, .iconst 0, 1, [], [], .int (0)),
  (34, 22, .putfield 80, 3, [790, 10, 3, 0], [], .null),
  (37, 23, .iconst 0, 1, [], [], .int (0)),
  (38, 24, .istore_n 2, 1, [2], [], .null),
  (39, 25, .iload_n 2, 1, [2], [], .null),
  (40, 26, .bipush 64, 2, [], [], .int (64)),
  (42, 27, .if_icmp .ge 16, 3, [34], [], .null),
  (45, 28, .aload_n 0, 1, [0], [], .null),
  (46, 29, .getfield 16, 3, [791, 10, 4, 1], [], .null),
  (49, 30, .iload_n 2, 1, [2], [], .null),
  (50, 31, .iconst 0, 1, [], [], .int (0)),
  (51, 32, .iastore, 1, [], [], .null)]
def xc127_2 : List xIns := [(52, 33, .iinc 2 1, 3, [2], [], .int (1)),
  (55, 34, .goto (-16), 3, [24], [], .null),
  (58, 35, .iconst 0, 1, [], [], .int (0)),
  (59, 36, .istore_n 2, 1, [2], [], .null),
  (60, 37, .iload_n 2, 1, [2], [], .null),
  (61, 38, .aload_n 0, 1, [0], [], .null),
  (62, 39, .getfield 176, 3, [801, 10, 14, 0], [], .null),
  (65, 40, .if_icmp .ge 41, 3, [66], [], .null),
  (68, 41, .aload_n 0, 1, [0], [], .null),
  (69, 42, .aload_n 0, 1, [0], [], .null),
  (70, 43, .getfield 31, 3, [802, 10, 15, 1], [], .null),
  (73, 44, .iconst 5, 1, [], [], .int (5)),
  (74, 45, .iload_n 2, 1, [2], [], .null),
  (75, 46, .imul, 1, [], [], .null),
  (76, 47, .iaload, 1, [], [], .null),
  (77, 48, .aload_n 0, 1, [0], [], .null)]
def xc127_3 : List xIns := [(78, 49, .getfield 31, 3, [802, 10, 15, 1], [], .null),
  (81, 50, .iconst 5, 1, [], [], .int (5)),
  (82, 51, .iload_n 2, 1, [2], [], .null),
  (83, 52, .imul, 1, [], [], .null),
  (84, 53, .iconst 1, 1, [], [], .int (1)),
  (85, 54, .iadd, 1, [], [], .null),
  (86, 55, .iaload, 1, [], [], .null),
  (87, 56, .aload_n 0, 1, [0], [], .null),
  (88, 57, .getfield 31, 3, [802, 10, 15, 1], [], .null),
  (91, 58, .iconst 5, 1, [], [], .int (5)),
  (92, 59, .iload_n 2, 1, [2], [], .null),
  (93, 60, .imul, 1, [], [], .null),
  (94, 61, .iconst 2, 1, [], [], .int (2)),
  (95, 62, .iadd, 1, [], [], .null),
  (96, 63, .iaload, 1, [], [], .null),
  (97, 64, .invokevirtual 111, 3, [108, 912, 914, 26, 4, 0, 10], [], .null)]
def xc127_4 : List xIns := [(100, 65, .iinc 2 1, 3, [2], [], .int (1)),
  (103, 66, .goto (-43), 3, [36], [], .null),
  (106, 67, .aload_n 0, 1, [0], [], .null),
  (107, 68, .getfield 80, 3, [790, 10, 3, 0], [], .null),
  (110, 0, .ireturn, 1, [], [], .null)]
def xc127 : List (List xIns) := [xc127_0, xc127_1, xc127_2, xc127_3, xc127_4]

/-- StepRingsModel.in(JJJ)Z -/
def xc128_0 : List xIns := [(0, 1, .lload_n 0, 1, [0], [], .null),
  (1, 2, .lload_n 2, 1, [2], [], .null),
  (2, 3, .lcmp, 1, [], [], .null),
  (3, 4, .ifCond .lt 14, 3, [10], [], .null),
  (6, 5, .lload_n 0, 1, [0], [], .null),
  (7, 6, .lload 4, 2, [4], [], .null),
  (9, 7, .lcmp, 1, [], [], .null),
  (10, 8, .ifCond .gt 7, 3, [10], [], .null),
  (13, 9, .iconst 1, 1, [], [], .int (1)),
  (14, 10, .goto 4, 3, [11], [], .null),
  (17, 11, .iconst 0, 1, [], [], .int (0)),
  (18, 0, .ireturn, 1, [], [], .null)]
def xc128 : List (List xIns) := [xc128_0]

/-- StepRingsModel.goBy(III)V -/
def xc129_0 : List xIns := [(0, 1, .aload_n 0, 1, [0], [], .null),
  (1, 2, .getfield 13, 3, [789, 10, 2, 1], [], .null),
  (4, 3, .bipush 7, 2, [], [], .int (7)),
  (6, 4, .iload_n 1, 1, [1], [], .null),
  (7, 5, .imul, 1, [], [], .null),
  (8, 6, .iconst 3, 1, [], [], .int (3)),
  (9, 7, .iadd, 1, [], [], .null),
  (10, 8, .iaload, 1, [], [], .null),
  (11, 9, .istore 4, 2, [4], [], .null),
  (13, 10, .aload_n 0, 1, [0], [], .null),
  (14, 11, .getfield 13, 3, [789, 10, 2, 1], [], .null),
  (17, 12, .bipush 7, 2, [], [], .int (7)),
  (19, 13, .iload_n 1, 1, [1], [], .null),
  (20, 14, .imul, 1, [], [], .null),
  (21, 15, .iconst 1, 1, [], [], .int (1)),
  (22, 16, .iadd, 1, [], [], .null)]
def xc129_1 : List xIns := [(23, 17, .iaload, 1, [], [], .null),
  (24, 18, .istore 5, 2, [5], [], .null),
  (26, 19, .iload_n 3, 1, [3], [], .null),
  (27, 20, .aload_n 0, 1, [0], [], .null),
  (28, 21, .getfield 25, 3, [797, 10, 10, 1], [], .null),
  (31, 22, .iload 4, 2, [4], [], .null),
  (33, 23, .iaload, 1, [], [], .null),
  (34, 24, .imul, 1, [], [], .null),
  (35, 25, .istore 6, 2, [6], [], .null),
  (37, 26, .iload 4, 2, [4], [], .null),
  (39, 27, .iload_n 2, 1, [2], [], .null),
  (40, 28, .if_icmp .eq 119, 3, [104], [], .null),
  (43, 29, .iconst 0, 1, [], [], .int (0)),
  (44, 30, .istore 7, 2, [7], [], .null),
  (46, 31, .aload_n 0, 1, [0], [], .null),
  (47, 32, .iload 5, 2, [5], [], .null)]
def xc129_2 : List xIns := [(49, 33, .iload 4, 2, [4], [], .null),
  (51, 34, .iload 7, 2, [7], [], .null),
  (53, 35, .invokevirtual 183, 3, [131, 1010, 1012, 38, 4, 0, 10], [], .null),
  (56, 36, .ifCond .ne 9, 3, [38], [], .null),
  (59, 37, .iinc 7 1, 3, [7], [], .int (1)),
  (62, 38, .goto (-16), 3, [30], [], .null),
  (65, 39, .iload_n 3, 1, [3], [], .null),
  (66, 40, .aload_n 0, 1, [0], [], .null),
  (67, 41, .iload 5, 2, [5], [], .null),
  (69, 42, .iload 7, 2, [7], [], .null),
  (71, 43, .iconst 2, 1, [], [], .int (2)),
  (72, 44, .idiv, 1, [], [], .null),
  (73, 45, .iload 7, 2, [7], [], .null),
  (75, 46, .iconst 2, 1, [], [], .int (2)),
  (76, 47, .irem, 1, [], [], .null),
  (77, 48, .invokevirtual 115, 3, [111, 928, 930, 28, 4, 0, 10], [], .null)]
def xc129_3 : List xIns := [(80, 49, .imul, 1, [], [], .null),
  (81, 50, .istore 8, 2, [8], [], .null),
  (83, 51, .aload_n 0, 1, [0], [], .null),
  (84, 52, .getfield 13, 3, [789, 10, 2, 1], [], .null),
  (87, 53, .bipush 7, 2, [], [], .int (7)),
  (89, 54, .iload_n 1, 1, [1], [], .null),
  (90, 55, .imul, 1, [], [], .null),
  (91, 56, .iconst 2, 1, [], [], .int (2)),
  (92, 57, .iadd, 1, [], [], .null),
  (93, 58, .dup2, 1, [], [], .null),
  (94, 59, .iaload, 1, [], [], .null),
  (95, 60, .iload 8, 2, [8], [], .null),
  (97, 61, .isub, 1, [], [], .null),
  (98, 62, .iastore, 1, [], [], .null),
  (99, 63, .aload_n 0, 1, [0], [], .null),
  (100, 64, .getfield 13, 3, [789, 10, 2, 1], [], .null)]
def xc129_4 : List xIns := [(103, 65, .bipush 7, 2, [], [], .int (7)),
  (105, 66, .iload_n 1, 1, [1], [], .null),
  (106, 67, .imul, 1, [], [], .null),
  (107, 68, .iconst 4, 1, [], [], .int (4)),
  (108, 69, .iadd, 1, [], [], .null),
  (109, 70, .dup2, 1, [], [], .null),
  (110, 71, .iaload, 1, [], [], .null),
  (111, 72, .aload_n 0, 1, [0], [], .null),
  (112, 73, .getfield 7, 3, [787, 10, 0, 1], [], .null),
  (115, 74, .iconst 5, 1, [], [], .int (5)),
  (116, 75, .iload 7, 2, [7], [], .null),
  (118, 76, .iconst 2, 1, [], [], .int (2)),
  (119, 77, .idiv, 1, [], [], .null),
  (120, 78, .imul, 1, [], [], .null),
  (121, 79, .iconst 4, 1, [], [], .int (4)),
  (122, 80, .iadd, 1, [], [], .null)]
def xc129_5 : List xIns := [(123, 81, .iaload, 1, [], [], .null),
  (124, 82, .iconst 1, 1, [], [], .int (1)),
  (125, 83, .if_icmp .ne 8, 3, [85], [], .null),
  (128, 84, .iload 8, 2, [8], [], .null),
  (130, 85, .goto 4, 3, [86], [], .null),
  (133, 86, .iconst 0, 1, [], [], .int (0)),
  (134, 87, .iadd, 1, [], [], .null),
  (135, 88, .iastore, 1, [], [], .null),
  (136, 89, .aload_n 0, 1, [0], [], .null),
  (137, 90, .getfield 7, 3, [787, 10, 0, 1], [], .null),
  (140, 91, .iconst 5, 1, [], [], .int (5)),
  (141, 92, .iload 7, 2, [7], [], .null),
  (143, 93, .iconst 2, 1, [], [], .int (2)),
  (144, 94, .idiv, 1, [], [], .null),
  (145, 95, .imul, 1, [], [], .null),
  (146, 96, .iconst 1, 1, [], [], .int (1))]
def xc129_6 : List xIns := [(147, 97, .iadd, 1, [], [], .null),
  (148, 98, .iload 7, 2, [7], [], .null),
  (150, 99, .iconst 2, 1, [], [], .int (2)),
  (151, 100, .irem, 1, [], [], .null),
  (152, 101, .isub, 1, [], [], .null),
  (153, 102, .iaload, 1, [], [], .null),
  (154, 103, .istore 4, 2, [4], [], .null),
  (156, 104, .goto (-119), 3, [25], [], .null),
  (159, 105, .aload_n 0, 1, [0], [], .null),
  (160, 106, .getfield 13, 3, [789, 10, 2, 1], [], .null),
  (163, 107, .bipush 7, 2, [], [], .int (7)),
  (165, 108, .iload_n 1, 1, [1], [], .null),
  (166, 109, .imul, 1, [], [], .null),
  (167, 110, .iconst 3, 1, [], [], .int (3)),
  (168, 111, .iadd, 1, [], [], .null),
  (169, 112, .iload_n 2, 1, [2], [], .null)]
def xc129_7 : List xIns := [(170, 113, .iastore, 1, [], [], .null),
  (171, 114, .aload_n 0, 1, [0], [], .null),
  (172, 115, .aload_n 0, 1, [0], [], .null),
  (173, 116, .getfield 137, 3, [796, 10, 9, 0], [], .null),
  (176, 117, .ldc 187, 2, [1014], [], .int (1000000000)),
  (178, 118, .iload 6, 2, [6], [], .null),
  (180, 119, .isub, 1, [], [], .null),
  (181, 120, .if_icmp .le 8, 3, [122], [], .null),
  (184, 121, .ldc 187, 2, [1014], [], .int (1000000000)),
  (186, 122, .goto 10, 3, [126], [], .null),
  (189, 123, .aload_n 0, 1, [0], [], .null),
  (190, 124, .getfield 137, 3, [796, 10, 9, 0], [], .null),
  (193, 125, .iload 6, 2, [6], [], .null),
  (195, 126, .iadd, 1, [], [], .null),
  (196, 127, .putfield 137, 3, [796, 10, 9, 0], [], .null),
  (199, 0, .return_, 1, [], [], .null)]
def xc129 : List (List xIns) := [xc129_0, xc129_1, xc129_2, xc129_3, xc129_4, xc129_5, xc129_6, xc129_7]

/-- StepRingsModel.isNext(III)Z -/
def xc130_0 : List xIns := [(0, 1, .aload_n 0, 1, [0], [], .null),
  (1, 2, .getfield 7, 3, [787, 10, 0, 1], [], .null),
  (4, 3, .iconst 5, 1, [], [], .int (5)),
  (5, 4, .iload_n 3, 1, [3], [], .null),
  (6, 5, .iconst 2, 1, [], [], .int (2)),
  (7, 6, .idiv, 1, [], [], .null),
  (8, 7, .imul, 1, [], [], .null),
  (9, 8, .iconst 1, 1, [], [], .int (1)),
  (10, 9, .iadd, 1, [], [], .null),
  (11, 10, .iload_n 3, 1, [3], [], .null),
  (12, 11, .iconst 2, 1, [], [], .int (2)),
  (13, 12, .irem, 1, [], [], .null),
  (14, 13, .isub, 1, [], [], .null),
  (15, 14, .iaload, 1, [], [], .null),
  (16, 15, .istore 4, 2, [4], [], .null),
  (18, 16, .aload_n 0, 1, [0], [], .null)]
def xc130_1 : List xIns := [(19, 17, .getfield 7, 3, [787, 10, 0, 1], [], .null),
  (22, 18, .iconst 5, 1, [], [], .int (5)),
  (23, 19, .iload_n 3, 1, [3], [], .null),
  (24, 20, .iconst 2, 1, [], [], .int (2)),
  (25, 21, .idiv, 1, [], [], .null),
  (26, 22, .imul, 1, [], [], .null),
  (27, 23, .iload_n 3, 1, [3], [], .null),
  (28, 24, .iconst 2, 1, [], [], .int (2)),
  (29, 25, .irem, 1, [], [], .null),
  (30, 26, .iadd, 1, [], [], .null),
  (31, 27, .iaload, 1, [], [], .null),
  (32, 28, .iload_n 2, 1, [2], [], .null),
  (33, 29, .if_icmp .ne 35, 3, [50], [], .null),
  (36, 30, .aload_n 0, 1, [0], [], .null),
  (37, 31, .getfield 25, 3, [797, 10, 10, 1], [], .null),
  (40, 32, .iload 4, 2, [4], [], .null)]
def xc130_2 : List xIns := [(42, 33, .iaload, 1, [], [], .null),
  (43, 34, .aload_n 0, 1, [0], [], .null),
  (44, 35, .iload_n 1, 1, [1], [], .null),
  (45, 36, .iload_n 3, 1, [3], [], .null),
  (46, 37, .iconst 2, 1, [], [], .int (2)),
  (47, 38, .idiv, 1, [], [], .null),
  (48, 39, .iload_n 3, 1, [3], [], .null),
  (49, 40, .iconst 2, 1, [], [], .int (2)),
  (50, 41, .irem, 1, [], [], .null),
  (51, 42, .invokevirtual 115, 3, [111, 928, 930, 28, 4, 0, 10], [], .null),
  (54, 43, .iadd, 1, [], [], .null),
  (55, 44, .aload_n 0, 1, [0], [], .null),
  (56, 45, .getfield 25, 3, [797, 10, 10, 1], [], .null),
  (59, 46, .iload_n 2, 1, [2], [], .null),
  (60, 47, .iaload, 1, [], [], .null),
  (61, 48, .if_icmp .ne 7, 3, [50], [], .null)]
def xc130_3 : List xIns := [(64, 49, .iconst 1, 1, [], [], .int (1)),
  (65, 50, .goto 4, 3, [51], [], .null),
  (68, 51, .iconst 0, 1, [], [], .int (0)),
  (69, 0, .ireturn, 1, [], [], .null)]
def xc130 : List (List xIns) := [xc130_0, xc130_1, xc130_2, xc130_3]

/-- StepRingsModel.go(II)I -/
def xc131_0 : List xIns := [(0, 1, .aload_n 0, 1, [0], [], .null),
  (1, 2, .iload_n 1, 1, [1], [], .null),
  (2, 3, .invokevirtual 84, 3, [151, 920, 922, 27, 2, 0, 10], [], .null),
  (5, 4, .ifCond .eq 10, 3, [7], [], .null),
  (8, 5, .iload_n 2, 1, [2], [], .null),
  (9, 6, .invokestatic 91, 3, [140, 882, 883, 0, 1, 0], [], .null),
  (12, 7, .ifCond .ne 5, 3, [9], [], .null),
  (15, 8, .iconst (-1), 1, [], [], .int (-1)),
  (16, 9, .ireturn, 1, [], [], .null),
  (17, 10, .aload_n 0, 1, [0], [], .null),
  (18, 11, .iload_n 1, 1, [1], [], .null),
  (19, 12, .aload_n 0, 1, [0], [], .null),
  (20, 13, .getfield 13, 3, [789, 10, 2, 1], [], .null),
  (23, 14, .bipush 7, 2, [], [], .int (7)),
  (25, 15, .iload_n 1, 1, [1], [], .null),
  (26, 16, .imul, 1, [], [], .null)]
def xc131_1 : List xIns := [(27, 17, .iconst 3, 1, [], [], .int (3)),
  (28, 18, .iadd, 1, [], [], .null),
  (29, 19, .iaload, 1, [], [], .null),
  (30, 20, .iload_n 2, 1, [2], [], .null),
  (31, 21, .invokevirtual 124, 3, [114, 936, 938, 29, 4, 0, 10], [], .null),
  (34, 22, .istore_n 3, 1, [3], [], .null),
  (35, 23, .iload_n 3, 1, [3], [], .null),
  (36, 24, .ldc 119, 2, [944], [], .int (100000000)),
  (38, 25, .if_icmp .lt 6, 3, [27], [], .null),
  (41, 26, .bipush (-4), 2, [], [], .int (-4)),
  (43, 27, .ireturn, 1, [], [], .null),
  (44, 28, .iload_n 3, 1, [3], [], .null),
  (45, 29, .aload_n 0, 1, [0], [], .null),
  (46, 30, .getfield 13, 3, [789, 10, 2, 1], [], .null),
  (49, 31, .bipush 7, 2, [], [], .int (7)),
  (51, 32, .iload_n 1, 1, [1], [], .null)]
def xc131_2 : List xIns := [(52, 33, .imul, 1, [], [], .null),
  (53, 34, .iconst 2, 1, [], [], .int (2)),
  (54, 35, .iadd, 1, [], [], .null),
  (55, 36, .iaload, 1, [], [], .null),
  (56, 37, .if_icmp .le 6, 3, [39], [], .null),
  (59, 38, .bipush (-2), 2, [], [], .int (-2)),
  (61, 39, .ireturn, 1, [], [], .null),
  (62, 40, .aload_n 0, 1, [0], [], .null),
  (63, 41, .iload_n 1, 1, [1], [], .null),
  (64, 42, .iload_n 2, 1, [2], [], .null),
  (65, 43, .iconst 1, 1, [], [], .int (1)),
  (66, 44, .invokevirtual 188, 3, [130, 1006, 1008, 37, 4, 0, 10], [], .null),
  (69, 45, .aload_n 0, 1, [0], [], .null),
  (70, 46, .getfield 13, 3, [789, 10, 2, 1], [], .null),
  (73, 47, .bipush 7, 2, [], [], .int (7)),
  (75, 48, .iload_n 1, 1, [1], [], .null)]
def xc131_3 : List xIns := [(76, 49, .imul, 1, [], [], .null),
  (77, 50, .iconst 2, 1, [], [], .int (2)),
  (78, 51, .iadd, 1, [], [], .null),
  (79, 52, .iaload, 1, [], [], .null),
  (80, 0, .ireturn, 1, [], [], .null)]
def xc131 : List (List xIns) := [xc131_0, xc131_1, xc131_2, xc131_3]

/-- StepRingsModel.carry(III)I -/
def xc132_0 : List xIns := [(0, 1, .aload_n 0, 1, [0], [], .null),
  (1, 2, .iload_n 1, 1, [1], [], .null),
  (2, 3, .iload_n 2, 1, [2], [], .null),
  (3, 4, .invokevirtual 191, 3, [162, 1019, 1021, 39, 3, 0, 10], [], .null),
  (6, 5, .ifCond .eq 10, 3, [8], [], .null),
  (9, 6, .iload_n 3, 1, [3], [], .null),
  (10, 7, .invokestatic 91, 3, [140, 882, 883, 0, 1, 0], [], .null),
  (13, 8, .ifCond .ne 5, 3, [10], [], .null),
  (16, 9, .iconst (-1), 1, [], [], .int (-1)),
  (17, 10, .ireturn, 1, [], [], .null),
  (18, 11, .aload_n 0, 1, [0], [], .null),
  (19, 12, .getfield 13, 3, [789, 10, 2, 1], [], .null),
  (22, 13, .bipush 7, 2, [], [], .int (7)),
  (24, 14, .iload_n 1, 1, [1], [], .null),
  (25, 15, .imul, 1, [], [], .null),
  (26, 16, .iconst 3, 1, [], [], .int (3))]
def xc132_1 : List xIns := [(27, 17, .iadd, 1, [], [], .null),
  (28, 18, .iaload, 1, [], [], .null),
  (29, 19, .aload_n 0, 1, [0], [], .null),
  (30, 20, .getfield 13, 3, [789, 10, 2, 1], [], .null),
  (33, 21, .bipush 7, 2, [], [], .int (7)),
  (35, 22, .iload_n 2, 1, [2], [], .null),
  (36, 23, .imul, 1, [], [], .null),
  (37, 24, .iconst 3, 1, [], [], .int (3)),
  (38, 25, .iadd, 1, [], [], .null),
  (39, 26, .iaload, 1, [], [], .null),
  (40, 27, .if_icmp .eq 6, 3, [29], [], .null),
  (43, 28, .bipush (-2), 2, [], [], .int (-2)),
  (45, 29, .ireturn, 1, [], [], .null),
  (46, 30, .aload_n 0, 1, [0], [], .null),
  (47, 31, .iload_n 1, 1, [1], [], .null),
  (48, 32, .aload_n 0, 1, [0], [], .null)]
def xc132_2 : List xIns := [(49, 33, .getfield 13, 3, [789, 10, 2, 1], [], .null),
  (52, 34, .bipush 7, 2, [], [], .int (7)),
  (54, 35, .iload_n 1, 1, [1], [], .null),
  (55, 36, .imul, 1, [], [], .null),
  (56, 37, .iconst 3, 1, [], [], .int (3)),
  (57, 38, .iadd, 1, [], [], .null),
  (58, 39, .iaload, 1, [], [], .null),
  (59, 40, .iload_n 3, 1, [3], [], .null),
  (60, 41, .invokevirtual 124, 3, [114, 936, 938, 29, 4, 0, 10], [], .null),
  (63, 42, .istore 4, 2, [4], [], .null),
  (65, 43, .iload 4, 2, [4], [], .null),
  (67, 44, .ldc 119, 2, [944], [], .int (100000000)),
  (69, 45, .if_icmp .lt 6, 3, [47], [], .null),
  (72, 46, .bipush (-4), 2, [], [], .int (-4)),
  (74, 47, .ireturn, 1, [], [], .null),
  (75, 48, .iconst 2, 1, [], [], .int (2))]
def xc132_3 : List xIns := [(76, 49, .iload 4, 2, [4], [], .null),
  (78, 50, .imul, 1, [], [], .null),
  (79, 51, .aload_n 0, 1, [0], [], .null),
  (80, 52, .getfield 13, 3, [789, 10, 2, 1], [], .null),
  (83, 53, .bipush 7, 2, [], [], .int (7)),
  (85, 54, .iload_n 1, 1, [1], [], .null),
  (86, 55, .imul, 1, [], [], .null),
  (87, 56, .iconst 2, 1, [], [], .int (2)),
  (88, 57, .iadd, 1, [], [], .null),
  (89, 58, .iaload, 1, [], [], .null),
  (90, 59, .if_icmp .le 6, 3, [61], [], .null),
  (93, 60, .bipush (-3), 2, [], [], .int (-3)),
  (95, 61, .ireturn, 1, [], [], .null),
  (96, 62, .aload_n 0, 1, [0], [], .null),
  (97, 63, .iload_n 1, 1, [1], [], .null),
  (98, 64, .iload_n 3, 1, [3], [], .null)]
def xc132_4 : List xIns := [(99, 65, .iconst 2, 1, [], [], .int (2)),
  (100, 66, .invokevirtual 188, 3, [130, 1006, 1008, 37, 4, 0, 10], [], .null),
  (103, 67, .aload_n 0, 1, [0], [], .null),
  (104, 68, .getfield 13, 3, [789, 10, 2, 1], [], .null),
  (107, 69, .bipush 7, 2, [], [], .int (7)),
  (109, 70, .iload_n 2, 1, [2], [], .null),
  (110, 71, .imul, 1, [], [], .null),
  (111, 72, .iconst 3, 1, [], [], .int (3)),
  (112, 73, .iadd, 1, [], [], .null),
  (113, 74, .iload_n 3, 1, [3], [], .null),
  (114, 75, .iastore, 1, [], [], .null),
  (115, 76, .aload_n 0, 1, [0], [], .null),
  (116, 77, .getfield 13, 3, [789, 10, 2, 1], [], .null),
  (119, 78, .bipush 7, 2, [], [], .int (7)),
  (121, 79, .iload_n 1, 1, [1], [], .null),
  (122, 80, .imul, 1, [], [], .null)]
def xc132_5 : List xIns := [(123, 81, .iconst 2, 1, [], [], .int (2)),
  (124, 82, .iadd, 1, [], [], .null),
  (125, 83, .iaload, 1, [], [], .null),
  (126, 0, .ireturn, 1, [], [], .null)]
def xc132 : List (List xIns) := [xc132_0, xc132_1, xc132_2, xc132_3, xc132_4, xc132_5]

/-- StepRingsModel.send(III)V -/
def xc133_0 : List xIns := [(0, 1, .aload_n 0, 1, [0], [], .null),
  (1, 2, .getfield 13, 3, [789, 10, 2, 1], [], .null),
  (4, 3, .bipush 7, 2, [], [], .int (7)),
  (6, 4, .iload_n 1, 1, [1], [], .null),
  (7, 5, .imul, 1, [], [], .null),
  (8, 6, .iconst 2, 1, [], [], .int (2)),
  (9, 7, .iadd, 1, [], [], .null),
  (10, 8, .dup2, 1, [], [], .null),
  (11, 9, .iaload, 1, [], [], .null),
  (12, 10, .iload_n 3, 1, [3], [], .null),
  (13, 11, .isub, 1, [], [], .null),
  (14, 12, .iastore, 1, [], [], .null),
  (15, 13, .aload_n 0, 1, [0], [], .null),
  (16, 14, .getfield 13, 3, [789, 10, 2, 1], [], .null),
  (19, 15, .bipush 7, 2, [], [], .int (7)),
  (21, 16, .iload_n 1, 1, [1], [], .null)]
def xc133_1 : List xIns := [(22, 17, .imul, 1, [], [], .null),
  (23, 18, .bipush 6, 2, [], [], .int (6)),
  (25, 19, .iadd, 1, [], [], .null),
  (26, 20, .dup2, 1, [], [], .null),
  (27, 21, .iaload, 1, [], [], .null),
  (28, 22, .iload_n 3, 1, [3], [], .null),
  (29, 23, .iadd, 1, [], [], .null),
  (30, 24, .iastore, 1, [], [], .null),
  (31, 25, .aload_n 0, 1, [0], [], .null),
  (32, 26, .getfield 13, 3, [789, 10, 2, 1], [], .null),
  (35, 27, .bipush 7, 2, [], [], .int (7)),
  (37, 28, .iload_n 2, 1, [2], [], .null),
  (38, 29, .imul, 1, [], [], .null),
  (39, 30, .iconst 2, 1, [], [], .int (2)),
  (40, 31, .iadd, 1, [], [], .null),
  (41, 32, .aload_n 0, 1, [0], [], .null)]
def xc133_2 : List xIns := [(42, 33, .getfield 13, 3, [789, 10, 2, 1], [], .null),
  (45, 34, .bipush 7, 2, [], [], .int (7)),
  (47, 35, .iload_n 2, 1, [2], [], .null),
  (48, 36, .imul, 1, [], [], .null),
  (49, 37, .iconst 2, 1, [], [], .int (2)),
  (50, 38, .iadd, 1, [], [], .null),
  (51, 39, .iaload, 1, [], [], .null),
  (52, 40, .iload_n 3, 1, [3], [], .null),
  (53, 41, .iadd, 1, [], [], .null),
  (54, 42, .ldc 162, 2, [993], [], .int (99999)),
  (56, 43, .if_icmp .le 8, 3, [45], [], .null),
  (59, 44, .ldc 162, 2, [993], [], .int (99999)),
  (61, 45, .goto 16, 3, [55], [], .null),
  (64, 46, .aload_n 0, 1, [0], [], .null),
  (65, 47, .getfield 13, 3, [789, 10, 2, 1], [], .null),
  (68, 48, .bipush 7, 2, [], [], .int (7))]
def xc133_3 : List xIns := [(70, 49, .iload_n 2, 1, [2], [], .null),
  (71, 50, .imul, 1, [], [], .null),
  (72, 51, .iconst 2, 1, [], [], .int (2)),
  (73, 52, .iadd, 1, [], [], .null),
  (74, 53, .iaload, 1, [], [], .null),
  (75, 54, .iload_n 3, 1, [3], [], .null),
  (76, 55, .iadd, 1, [], [], .null),
  (77, 56, .iastore, 1, [], [], .null),
  (78, 57, .aload_n 0, 1, [0], [], .null),
  (79, 58, .getfield 13, 3, [789, 10, 2, 1], [], .null),
  (82, 59, .bipush 7, 2, [], [], .int (7)),
  (84, 60, .iload_n 2, 1, [2], [], .null),
  (85, 61, .imul, 1, [], [], .null),
  (86, 62, .iconst 5, 1, [], [], .int (5)),
  (87, 63, .iadd, 1, [], [], .null),
  (88, 64, .dup2, 1, [], [], .null)]
def xc133_4 : List xIns := [(89, 65, .iaload, 1, [], [], .null),
  (90, 66, .iload_n 3, 1, [3], [], .null),
  (91, 67, .iadd, 1, [], [], .null),
  (92, 68, .iastore, 1, [], [], .null),
  (93, 0, .return_, 1, [], [], .null)]
def xc133 : List (List xIns) := [xc133_0, xc133_1, xc133_2, xc133_3, xc133_4]

/-- StepRingsModel.lend(III)I -/
def xc134_0 : List xIns := [(0, 1, .aload_n 0, 1, [0], [], .null),
  (1, 2, .iload_n 1, 1, [1], [], .null),
  (2, 3, .iload_n 2, 1, [2], [], .null),
  (3, 4, .invokevirtual 191, 3, [162, 1019, 1021, 39, 3, 0, 10], [], .null),
  (6, 5, .ifCond .eq 15, 3, [11], [], .null),
  (9, 6, .iload_n 3, 1, [3], [], .null),
  (10, 7, .i2l, 1, [], [], .null),
  (11, 8, .lconst 1, 1, [], [], .long 1),
  (12, 9, .ldc2_w 109, 3, [911], [], .long (99999)),
  (15, 10, .invokestatic 76, 3, [129, 886, 887, 0, 3, 0], [], .null),
  (18, 11, .ifCond .ne 5, 3, [13], [], .null),
  (21, 12, .iconst (-1), 1, [], [], .int (-1)),
  (22, 13, .ireturn, 1, [], [], .null),
  (23, 14, .aload_n 0, 1, [0], [], .null),
  (24, 15, .getfield 13, 3, [789, 10, 2, 1], [], .null),
  (27, 16, .bipush 7, 2, [], [], .int (7))]
def xc134_1 : List xIns := [(29, 17, .iload_n 1, 1, [1], [], .null),
  (30, 18, .imul, 1, [], [], .null),
  (31, 19, .iconst 2, 1, [], [], .int (2)),
  (32, 20, .iadd, 1, [], [], .null),
  (33, 21, .iaload, 1, [], [], .null),
  (34, 22, .iload_n 3, 1, [3], [], .null),
  (35, 23, .if_icmp .ge 6, 3, [25], [], .null),
  (38, 24, .bipush (-2), 2, [], [], .int (-2)),
  (40, 25, .ireturn, 1, [], [], .null),
  (41, 26, .aload_n 0, 1, [0], [], .null),
  (42, 27, .iload_n 1, 1, [1], [], .null),
  (43, 28, .iload_n 2, 1, [2], [], .null),
  (44, 29, .iload_n 3, 1, [3], [], .null),
  (45, 30, .invokevirtual 195, 3, [134, 1027, 1029, 40, 4, 0, 10], [], .null),
  (48, 31, .aload_n 0, 1, [0], [], .null),
  (49, 32, .getfield 16, 3, [791, 10, 4, 1], [], .null)]
def xc134_2 : List xIns := [(52, 33, .bipush 8, 2, [], [], .int (8)),
  (54, 34, .iload_n 2, 1, [2], [], .null),
  (55, 35, .imul, 1, [], [], .null),
  (56, 36, .iload_n 1, 1, [1], [], .null),
  (57, 37, .iadd, 1, [], [], .null),
  (58, 38, .dup2, 1, [], [], .null),
  (59, 39, .iaload, 1, [], [], .null),
  (60, 40, .iload_n 3, 1, [3], [], .null),
  (61, 41, .iadd, 1, [], [], .null),
  (62, 42, .iastore, 1, [], [], .null),
  (63, 43, .aload_n 0, 1, [0], [], .null),
  (64, 44, .getfield 13, 3, [789, 10, 2, 1], [], .null),
  (67, 45, .bipush 7, 2, [], [], .int (7)),
  (69, 46, .iload_n 1, 1, [1], [], .null),
  (70, 47, .imul, 1, [], [], .null),
  (71, 48, .iconst 2, 1, [], [], .int (2))]
def xc134_3 : List xIns := [(72, 49, .iadd, 1, [], [], .null),
  (73, 50, .iaload, 1, [], [], .null),
  (74, 0, .ireturn, 1, [], [], .null)]
def xc134 : List (List xIns) := [xc134_0, xc134_1, xc134_2, xc134_3]

/-- StepRingsModel.pay(III)I -/
def xc135_0 : List xIns := [(0, 1, .aload_n 0, 1, [0], [], .null),
  (1, 2, .iload_n 1, 1, [1], [], .null),
  (2, 3, .iload_n 2, 1, [2], [], .null),
  (3, 4, .invokevirtual 191, 3, [162, 1019, 1021, 39, 3, 0, 10], [], .null),
  (6, 5, .ifCond .eq 15, 3, [11], [], .null),
  (9, 6, .iload_n 3, 1, [3], [], .null),
  (10, 7, .i2l, 1, [], [], .null),
  (11, 8, .lconst 1, 1, [], [], .long 1),
  (12, 9, .ldc2_w 109, 3, [911], [], .long (99999)),
  (15, 10, .invokestatic 76, 3, [129, 886, 887, 0, 3, 0], [], .null),
  (18, 11, .ifCond .ne 5, 3, [13], [], .null),
  (21, 12, .iconst (-1), 1, [], [], .int (-1)),
  (22, 13, .ireturn, 1, [], [], .null),
  (23, 14, .aload_n 0, 1, [0], [], .null),
  (24, 15, .getfield 13, 3, [789, 10, 2, 1], [], .null),
  (27, 16, .bipush 7, 2, [], [], .int (7))]
def xc135_1 : List xIns := [(29, 17, .iload_n 1, 1, [1], [], .null),
  (30, 18, .imul, 1, [], [], .null),
  (31, 19, .iconst 2, 1, [], [], .int (2)),
  (32, 20, .iadd, 1, [], [], .null),
  (33, 21, .iaload, 1, [], [], .null),
  (34, 22, .iload_n 3, 1, [3], [], .null),
  (35, 23, .if_icmp .lt 18, 3, [33], [], .null),
  (38, 24, .aload_n 0, 1, [0], [], .null),
  (39, 25, .getfield 16, 3, [791, 10, 4, 1], [], .null),
  (42, 26, .bipush 8, 2, [], [], .int (8)),
  (44, 27, .iload_n 1, 1, [1], [], .null),
  (45, 28, .imul, 1, [], [], .null),
  (46, 29, .iload_n 2, 1, [2], [], .null),
  (47, 30, .iadd, 1, [], [], .null),
  (48, 31, .iaload, 1, [], [], .null),
  (49, 32, .iload_n 3, 1, [3], [], .null)]
def xc135_2 : List xIns := [(50, 33, .if_icmp .ge 6, 3, [35], [], .null),
  (53, 34, .bipush (-2), 2, [], [], .int (-2)),
  (55, 35, .ireturn, 1, [], [], .null),
  (56, 36, .aload_n 0, 1, [0], [], .null),
  (57, 37, .iload_n 1, 1, [1], [], .null),
  (58, 38, .iload_n 2, 1, [2], [], .null),
  (59, 39, .iload_n 3, 1, [3], [], .null),
  (60, 40, .invokevirtual 195, 3, [134, 1027, 1029, 40, 4, 0, 10], [], .null),
  (63, 41, .aload_n 0, 1, [0], [], .null),
  (64, 42, .getfield 16, 3, [791, 10, 4, 1], [], .null),
  (67, 43, .bipush 8, 2, [], [], .int (8)),
  (69, 44, .iload_n 1, 1, [1], [], .null),
  (70, 45, .imul, 1, [], [], .null),
  (71, 46, .iload_n 2, 1, [2], [], .null),
  (72, 47, .iadd, 1, [], [], .null),
  (73, 48, .dup2, 1, [], [], .null)]
def xc135_3 : List xIns := [(74, 49, .iaload, 1, [], [], .null),
  (75, 50, .iload_n 3, 1, [3], [], .null),
  (76, 51, .isub, 1, [], [], .null),
  (77, 52, .iastore, 1, [], [], .null),
  (78, 53, .aload_n 0, 1, [0], [], .null),
  (79, 54, .getfield 13, 3, [789, 10, 2, 1], [], .null),
  (82, 55, .bipush 7, 2, [], [], .int (7)),
  (84, 56, .iload_n 1, 1, [1], [], .null),
  (85, 57, .imul, 1, [], [], .null),
  (86, 58, .iconst 2, 1, [], [], .int (2)),
  (87, 59, .iadd, 1, [], [], .null),
  (88, 60, .iaload, 1, [], [], .null),
  (89, 0, .ireturn, 1, [], [], .null)]
def xc135 : List (List xIns) := [xc135_0, xc135_1, xc135_2, xc135_3]

/-- StepRingsModel.owes(II)I -/
def xc136_0 : List xIns := [(0, 1, .aload_n 0, 1, [0], [], .null),
  (1, 2, .iload_n 1, 1, [1], [], .null),
  (2, 3, .iload_n 2, 1, [2], [], .null),
  (3, 4, .invokevirtual 191, 3, [162, 1019, 1021, 39, 3, 0, 10], [], .null),
  (6, 5, .ifCond .eq 17, 3, [14], [], .null),
  (9, 6, .aload_n 0, 1, [0], [], .null),
  (10, 7, .getfield 16, 3, [791, 10, 4, 1], [], .null),
  (13, 8, .bipush 8, 2, [], [], .int (8)),
  (15, 9, .iload_n 1, 1, [1], [], .null),
  (16, 10, .imul, 1, [], [], .null),
  (17, 11, .iload_n 2, 1, [2], [], .null),
  (18, 12, .iadd, 1, [], [], .null),
  (19, 13, .iaload, 1, [], [], .null),
  (20, 14, .goto 4, 3, [15], [], .null),
  (23, 15, .iconst (-1), 1, [], [], .int (-1)),
  (24, 0, .ireturn, 1, [], [], .null)]
def xc136 : List (List xIns) := [xc136_0]

/-- StepRingsModel.month()I -/
def xc137_0 : List xIns := [(0, 1, .iconst 0, 1, [], [], .int (0)),
  (1, 2, .istore_n 1, 1, [1], [], .null),
  (2, 3, .iconst 0, 1, [], [], .int (0)),
  (3, 4, .istore_n 2, 1, [2], [], .null),
  (4, 5, .iload_n 2, 1, [2], [], .null),
  (5, 6, .aload_n 0, 1, [0], [], .null),
  (6, 7, .getfield 80, 3, [790, 10, 3, 0], [], .null),
  (9, 8, .if_icmp .ge 111, 3, [76], [], .null),
  (12, 9, .iconst 0, 1, [], [], .int (0)),
  (13, 10, .istore_n 3, 1, [3], [], .null),
  (14, 11, .iload_n 3, 1, [3], [], .null),
  (15, 12, .aload_n 0, 1, [0], [], .null),
  (16, 13, .getfield 80, 3, [790, 10, 3, 0], [], .null),
  (19, 14, .if_icmp .ge 95, 3, [74], [], .null),
  (22, 15, .aload_n 0, 1, [0], [], .null),
  (23, 16, .getfield 16, 3, [791, 10, 4, 1], [], .null)]
def xc137_1 : List xIns := [(26, 17, .bipush 8, 2, [], [], .int (8)),
  (28, 18, .iload_n 2, 1, [2], [], .null),
  (29, 19, .imul, 1, [], [], .null),
  (30, 20, .iload_n 3, 1, [3], [], .null),
  (31, 21, .iadd, 1, [], [], .null),
  (32, 22, .iaload, 1, [], [], .null),
  (33, 23, .aload_n 0, 1, [0], [], .null),
  (34, 24, .getfield 13, 3, [789, 10, 2, 1], [], .null),
  (37, 25, .bipush 7, 2, [], [], .int (7)),
  (39, 26, .iload_n 2, 1, [2], [], .null),
  (40, 27, .imul, 1, [], [], .null),
  (41, 28, .iconst 2, 1, [], [], .int (2)),
  (42, 29, .iadd, 1, [], [], .null),
  (43, 30, .iaload, 1, [], [], .null),
  (44, 31, .if_icmp .ge 17, 3, [40], [], .null),
  (47, 32, .aload_n 0, 1, [0], [], .null)]
def xc137_2 : List xIns := [(48, 33, .getfield 16, 3, [791, 10, 4, 1], [], .null),
  (51, 34, .bipush 8, 2, [], [], .int (8)),
  (53, 35, .iload_n 2, 1, [2], [], .null),
  (54, 36, .imul, 1, [], [], .null),
  (55, 37, .iload_n 3, 1, [3], [], .null),
  (56, 38, .iadd, 1, [], [], .null),
  (57, 39, .iaload, 1, [], [], .null),
  (58, 40, .goto 14, 3, [48], [], .null),
  (61, 41, .aload_n 0, 1, [0], [], .null),
  (62, 42, .getfield 13, 3, [789, 10, 2, 1], [], .null),
  (65, 43, .bipush 7, 2, [], [], .int (7)),
  (67, 44, .iload_n 2, 1, [2], [], .null),
  (68, 45, .imul, 1, [], [], .null),
  (69, 46, .iconst 2, 1, [], [], .int (2)),
  (70, 47, .iadd, 1, [], [], .null),
  (71, 48, .iaload, 1, [], [], .null)]
def xc137_3 : List xIns := [(72, 49, .istore 4, 2, [4], [], .null),
  (74, 50, .iload 4, 2, [4], [], .null),
  (76, 51, .ifCond .le 32, 3, [72], [], .null),
  (79, 52, .aload_n 0, 1, [0], [], .null),
  (80, 53, .iload_n 2, 1, [2], [], .null),
  (81, 54, .iload_n 3, 1, [3], [], .null),
  (82, 55, .iload 4, 2, [4], [], .null),
  (84, 56, .invokevirtual 195, 3, [134, 1027, 1029, 40, 4, 0, 10], [], .null),
  (87, 57, .aload_n 0, 1, [0], [], .null),
  (88, 58, .getfield 16, 3, [791, 10, 4, 1], [], .null),
  (91, 59, .bipush 8, 2, [], [], .int (8)),
  (93, 60, .iload_n 2, 1, [2], [], .null),
  (94, 61, .imul, 1, [], [], .null),
  (95, 62, .iload_n 3, 1, [3], [], .null),
  (96, 63, .iadd, 1, [], [], .null),
  (97, 64, .dup2, 1, [], [], .null)]
def xc137_4 : List xIns := [(98, 65, .iaload, 1, [], [], .null),
  (99, 66, .iload 4, 2, [4], [], .null),
  (101, 67, .isub, 1, [], [], .null),
  (102, 68, .iastore, 1, [], [], .null),
  (103, 69, .iload_n 1, 1, [1], [], .null),
  (104, 70, .iload 4, 2, [4], [], .null),
  (106, 71, .iadd, 1, [], [], .null),
  (107, 72, .istore_n 1, 1, [1], [], .null),
  (108, 73, .iinc 3 1, 3, [3], [], .int (1)),
  (111, 74, .goto (-97), 3, [10], [], .null),
  (114, 75, .iinc 2 1, 3, [2], [], .int (1)),
  (117, 76, .goto (-113), 3, [4], [], .null),
  (120, 77, .iconst 0, 1, [], [], .int (0)),
  (121, 78, .istore_n 2, 1, [2], [], .null),
  (122, 79, .iload_n 2, 1, [2], [], .null),
  (123, 80, .aload_n 0, 1, [0], [], .null)]
def xc137_5 : List xIns := [(124, 81, .getfield 80, 3, [790, 10, 3, 0], [], .null),
  (127, 82, .if_icmp .ge 148, 3, [175], [], .null),
  (130, 83, .aload_n 0, 1, [0], [], .null),
  (131, 84, .getfield 13, 3, [789, 10, 2, 1], [], .null),
  (134, 85, .bipush 7, 2, [], [], .int (7)),
  (136, 86, .iload_n 2, 1, [2], [], .null),
  (137, 87, .imul, 1, [], [], .null),
  (138, 88, .iconst 2, 1, [], [], .int (2)),
  (139, 89, .iadd, 1, [], [], .null),
  (140, 90, .iaload, 1, [], [], .null),
  (141, 91, .istore_n 3, 1, [3], [], .null),
  (142, 92, .aload_n 0, 1, [0], [], .null),
  (143, 93, .getfield 19, 3, [792, 10, 5, 1], [], .null),
  (146, 94, .aload_n 0, 1, [0], [], .null),
  (147, 95, .getfield 13, 3, [789, 10, 2, 1], [], .null),
  (150, 96, .bipush 7, 2, [], [], .int (7))]
def xc137_6 : List xIns := [(152, 97, .iload_n 2, 1, [2], [], .null),
  (153, 98, .imul, 1, [], [], .null),
  (154, 99, .iconst 1, 1, [], [], .int (1)),
  (155, 100, .iadd, 1, [], [], .null),
  (156, 101, .iaload, 1, [], [], .null),
  (157, 102, .iaload, 1, [], [], .null),
  (158, 103, .aload_n 0, 1, [0], [], .null),
  (159, 104, .getfield 131, 3, [793, 10, 6, 0], [], .null),
  (162, 105, .ifCond .ne 7, 3, [107], [], .null),
  (165, 106, .iconst 0, 1, [], [], .int (0)),
  (166, 107, .goto 18, 3, [116], [], .null),
  (169, 108, .aload_n 0, 1, [0], [], .null),
  (170, 109, .getfield 131, 3, [793, 10, 6, 0], [], .null),
  (173, 110, .iconst 1, 1, [], [], .int (1)),
  (174, 111, .if_icmp .ne 7, 3, [113], [], .null),
  (177, 112, .iload_n 3, 1, [3], [], .null)]
def xc137_7 : List xIns := [(178, 113, .goto 6, 3, [116], [], .null),
  (181, 114, .iload_n 3, 1, [3], [], .null),
  (182, 115, .iconst 2, 1, [], [], .int (2)),
  (183, 116, .idiv, 1, [], [], .null),
  (184, 117, .iadd, 1, [], [], .null),
  (185, 118, .istore 4, 2, [4], [], .null),
  (187, 119, .aload_n 0, 1, [0], [], .null),
  (188, 120, .getfield 13, 3, [789, 10, 2, 1], [], .null),
  (191, 121, .bipush 7, 2, [], [], .int (7)),
  (193, 122, .iload_n 2, 1, [2], [], .null),
  (194, 123, .imul, 1, [], [], .null),
  (195, 124, .iconst 2, 1, [], [], .int (2)),
  (196, 125, .iadd, 1, [], [], .null),
  (197, 126, .iload 4, 2, [4], [], .null),
  (199, 127, .ldc 162, 2, [993], [], .int (99999)),
  (201, 128, .if_icmp .le 8, 3, [130], [], .null)]
def xc137_8 : List xIns := [(204, 129, .ldc 162, 2, [993], [], .int (99999)),
  (206, 130, .goto 5, 3, [131], [], .null),
  (209, 131, .iload 4, 2, [4], [], .null),
  (211, 132, .iastore, 1, [], [], .null),
  (212, 133, .aload_n 0, 1, [0], [], .null),
  (213, 134, .getfield 13, 3, [789, 10, 2, 1], [], .null),
  (216, 135, .bipush 7, 2, [], [], .int (7)),
  (218, 136, .iload_n 2, 1, [2], [], .null),
  (219, 137, .imul, 1, [], [], .null),
  (220, 138, .iconst 3, 1, [], [], .int (3)),
  (221, 139, .iadd, 1, [], [], .null),
  (222, 140, .aload_n 0, 1, [0], [], .null),
  (223, 141, .getfield 13, 3, [789, 10, 2, 1], [], .null),
  (226, 142, .bipush 7, 2, [], [], .int (7)),
  (228, 143, .iload_n 2, 1, [2], [], .null),
  (229, 144, .imul, 1, [], [], .null)]
def xc137_9 : List xIns := [(230, 145, .iaload, 1, [], [], .null),
  (231, 146, .iastore, 1, [], [], .null),
  (232, 147, .aload_n 0, 1, [0], [], .null),
  (233, 148, .getfield 13, 3, [789, 10, 2, 1], [], .null),
  (236, 149, .bipush 7, 2, [], [], .int (7)),
  (238, 150, .iload_n 2, 1, [2], [], .null),
  (239, 151, .imul, 1, [], [], .null),
  (240, 152, .iconst 4, 1, [], [], .int (4)),
  (241, 153, .iadd, 1, [], [], .null),
  (242, 154, .iconst 0, 1, [], [], .int (0)),
  (243, 155, .iastore, 1, [], [], .null),
  (244, 156, .aload_n 0, 1, [0], [], .null),
  (245, 157, .getfield 13, 3, [789, 10, 2, 1], [], .null),
  (248, 158, .bipush 7, 2, [], [], .int (7)),
  (250, 159, .iload_n 2, 1, [2], [], .null),
  (251, 160, .imul, 1, [], [], .null)]
def xc137_10 : List xIns := [(252, 161, .iconst 5, 1, [], [], .int (5)),
  (253, 162, .iadd, 1, [], [], .null),
  (254, 163, .iconst 0, 1, [], [], .int (0)),
  (255, 164, .iastore, 1, [], [], .null),
  (256, 165, .aload_n 0, 1, [0], [], .null),
  (257, 166, .getfield 13, 3, [789, 10, 2, 1], [], .null),
  (260, 167, .bipush 7, 2, [], [], .int (7)),
  (262, 168, .iload_n 2, 1, [2], [], .null),
  (263, 169, .imul, 1, [], [], .null),
  (264, 170, .bipush 6, 2, [], [], .int (6)),
  (266, 171, .iadd, 1, [], [], .null),
  (267, 172, .iconst 0, 1, [], [], .int (0)),
  (268, 173, .iastore, 1, [], [], .null),
  (269, 174, .iinc 2 1, 3, [2], [], .int (1)),
  (272, 175, .goto (-150), 3, [78], [], .null),
  (275, 176, .iload_n 1, 1, [1], [], .null)]
def xc137_11 : List xIns := [(276, 0, .ireturn, 1, [], [], .null)]
def xc137 : List (List xIns) := [xc137_0, xc137_1, xc137_2, xc137_3, xc137_4, xc137_5, xc137_6, xc137_7, xc137_8, xc137_9, xc137_10, xc137_11]

/-- StepRingsModel.findTable(I)V -/
def xc138_0 : List xIns := [(0, 1, .iconst 0, 1, [], [], .int (0)),
  (1, 2, .istore_n 2, 1, [2], [], .null),
  (2, 3, .iload_n 2, 1, [2], [], .null),
  (3, 4, .bipush 12, 2, [], [], .int (12)),
  (5, 5, .if_icmp .ge 56, 3, [37], [], .null),
  (8, 6, .aload_n 0, 1, [0], [], .null),
  (9, 7, .aload_n 0, 1, [0], [], .null),
  (10, 8, .getfield 13, 3, [789, 10, 2, 1], [], .null),
  (13, 9, .bipush 7, 2, [], [], .int (7)),
  (15, 10, .iload_n 1, 1, [1], [], .null),
  (16, 11, .imul, 1, [], [], .null),
  (17, 12, .iconst 1, 1, [], [], .int (1)),
  (18, 13, .iadd, 1, [], [], .null),
  (19, 14, .iaload, 1, [], [], .null),
  (20, 15, .iload_n 2, 1, [2], [], .null),
  (21, 16, .invokevirtual 120, 3, [113, 940, 942, 30, 3, 0, 10], [], .null)]
def xc138_1 : List xIns := [(24, 17, .iconst 0, 1, [], [], .int (0)),
  (25, 18, .istore_n 3, 1, [3], [], .null),
  (26, 19, .iload_n 3, 1, [3], [], .null),
  (27, 20, .bipush 12, 2, [], [], .int (12)),
  (29, 21, .if_icmp .ge 26, 3, [35], [], .null),
  (32, 22, .aload_n 0, 1, [0], [], .null),
  (33, 23, .getfield 34, 3, [803, 10, 16, 1], [], .null),
  (36, 24, .bipush 12, 2, [], [], .int (12)),
  (38, 25, .iload_n 3, 1, [3], [], .null),
  (39, 26, .imul, 1, [], [], .null),
  (40, 27, .iload_n 2, 1, [2], [], .null),
  (41, 28, .iadd, 1, [], [], .null),
  (42, 29, .aload_n 0, 1, [0], [], .null),
  (43, 30, .getfield 25, 3, [797, 10, 10, 1], [], .null),
  (46, 31, .iload_n 3, 1, [3], [], .null),
  (47, 32, .iaload, 1, [], [], .null)]
def xc138_2 : List xIns := [(48, 33, .iastore, 1, [], [], .null),
  (49, 34, .iinc 3 1, 3, [3], [], .int (1)),
  (52, 35, .goto (-26), 3, [18], [], .null),
  (55, 36, .iinc 2 1, 3, [2], [], .int (1)),
  (58, 37, .goto (-56), 3, [2], [], .null),
  (61, 0, .return_, 1, [], [], .null)]
def xc138 : List (List xIns) := [xc138_0, xc138_1, xc138_2]

/-- StepRingsModel.isPlace(I)Z -/
def xc139_0 : List xIns := [(0, 1, .iload_n 0, 1, [0], [], .null),
  (1, 2, .i2l, 1, [], [], .null),
  (2, 3, .lconst 0, 1, [], [], .long 0),
  (3, 4, .ldc2_w 74, 3, [885], [], .long (11)),
  (6, 5, .invokestatic 76, 3, [129, 886, 887, 0, 3, 0], [], .null),
  (9, 0, .ireturn, 1, [], [], .null)]
def xc139 : List (List xIns) := [xc139_0]

/-- StepRingsModel.meet(III)I -/
def xc140_0 : List xIns := [(0, 1, .aload_n 0, 1, [0], [], .null),
  (1, 2, .iload_n 1, 1, [1], [], .null),
  (2, 3, .iload_n 2, 1, [2], [], .null),
  (3, 4, .invokevirtual 191, 3, [162, 1019, 1021, 39, 3, 0, 10], [], .null),
  (6, 5, .ifCond .eq 13, 3, [11], [], .null),
  (9, 6, .iload_n 3, 1, [3], [], .null),
  (10, 7, .i2l, 1, [], [], .null),
  (11, 8, .lconst 0, 1, [], [], .long 0),
  (12, 9, .lconst 1, 1, [], [], .long 1),
  (13, 10, .invokestatic 76, 3, [129, 886, 887, 0, 3, 0], [], .null),
  (16, 11, .ifCond .ne 5, 3, [13], [], .null),
  (19, 12, .iconst (-1), 1, [], [], .int (-1)),
  (20, 13, .ireturn, 1, [], [], .null),
  (21, 14, .bipush (-4), 2, [], [], .int (-4)),
  (23, 15, .istore 4, 2, [4], [], .null),
  (25, 16, .ldc 119, 2, [944], [], .int (100000000))]
def xc140_1 : List xIns := [(27, 17, .istore 5, 2, [5], [], .null),
  (29, 18, .iconst 0, 1, [], [], .int (0)),
  (30, 19, .istore 6, 2, [6], [], .null),
  (32, 20, .iload 6, 2, [6], [], .null),
  (34, 21, .bipush 12, 2, [], [], .int (12)),
  (36, 22, .if_icmp .ge 80, 3, [64], [], .null),
  (39, 23, .aload_n 0, 1, [0], [], .null),
  (40, 24, .iload_n 1, 1, [1], [], .null),
  (41, 25, .aload_n 0, 1, [0], [], .null),
  (42, 26, .getfield 13, 3, [789, 10, 2, 1], [], .null),
  (45, 27, .bipush 7, 2, [], [], .int (7)),
  (47, 28, .iload_n 1, 1, [1], [], .null),
  (48, 29, .imul, 1, [], [], .null),
  (49, 30, .iconst 3, 1, [], [], .int (3)),
  (50, 31, .iadd, 1, [], [], .null),
  (51, 32, .iaload, 1, [], [], .null)]
def xc140_2 : List xIns := [(52, 33, .iload 6, 2, [6], [], .null),
  (54, 34, .invokevirtual 124, 3, [114, 936, 938, 29, 4, 0, 10], [], .null),
  (57, 35, .aload_n 0, 1, [0], [], .null),
  (58, 36, .iload_n 2, 1, [2], [], .null),
  (59, 37, .aload_n 0, 1, [0], [], .null),
  (60, 38, .getfield 13, 3, [789, 10, 2, 1], [], .null),
  (63, 39, .bipush 7, 2, [], [], .int (7)),
  (65, 40, .iload_n 2, 1, [2], [], .null),
  (66, 41, .imul, 1, [], [], .null),
  (67, 42, .iconst 3, 1, [], [], .int (3)),
  (68, 43, .iadd, 1, [], [], .null),
  (69, 44, .iaload, 1, [], [], .null),
  (70, 45, .iload 6, 2, [6], [], .null),
  (72, 46, .invokevirtual 124, 3, [114, 936, 938, 29, 4, 0, 10], [], .null),
  (75, 47, .iadd, 1, [], [], .null),
  (76, 48, .istore 7, 2, [7], [], .null)]
def xc140_3 : List xIns := [(78, 49, .iload 7, 2, [7], [], .null),
  (80, 50, .iload 5, 2, [5], [], .null),
  (82, 51, .if_icmp .ge 8, 3, [53], [], .null),
  (85, 52, .iload 6, 2, [6], [], .null),
  (87, 53, .goto 5, 3, [54], [], .null),
  (90, 54, .iload 4, 2, [4], [], .null),
  (92, 55, .istore 4, 2, [4], [], .null),
  (94, 56, .iload 7, 2, [7], [], .null),
  (96, 57, .iload 5, 2, [5], [], .null),
  (98, 58, .if_icmp .ge 8, 3, [60], [], .null),
  (101, 59, .iload 7, 2, [7], [], .null),
  (103, 60, .goto 5, 3, [61], [], .null),
  (106, 61, .iload 5, 2, [5], [], .null),
  (108, 62, .istore 5, 2, [5], [], .null),
  (110, 63, .iinc 6 1, 3, [6], [], .int (1)),
  (113, 64, .goto (-81), 3, [19], [], .null)]
def xc140_4 : List xIns := [(116, 65, .iload 4, 2, [4], [], .null),
  (118, 66, .ifCond .ge 8, 3, [68], [], .null),
  (121, 67, .bipush (-4), 2, [], [], .int (-4)),
  (123, 68, .goto 14, 3, [73], [], .null),
  (126, 69, .iload_n 3, 1, [3], [], .null),
  (127, 70, .ifCond .ne 8, 3, [72], [], .null),
  (130, 71, .iload 4, 2, [4], [], .null),
  (132, 72, .goto 5, 3, [73], [], .null),
  (135, 73, .iload 5, 2, [5], [], .null),
  (137, 0, .ireturn, 1, [], [], .null)]
def xc140 : List (List xIns) := [xc140_0, xc140_1, xc140_2, xc140_3, xc140_4]

/-- StepRingsModel.errand(I)I -/
def xc141_0 : List xIns := [(0, 1, .iload_n 1, 1, [1], [], .null),
  (1, 2, .invokestatic 91, 3, [140, 882, 883, 0, 1, 0], [], .null),
  (4, 3, .ifCond .ne 5, 3, [5], [], .null),
  (7, 4, .iconst (-1), 1, [], [], .int (-1)),
  (8, 5, .ireturn, 1, [], [], .null),
  (9, 6, .aload_n 0, 1, [0], [], .null),
  (10, 7, .getfield 134, 3, [795, 10, 8, 0], [], .null),
  (13, 8, .bipush 6, 2, [], [], .int (6)),
  (15, 9, .if_icmp .ne 6, 3, [11], [], .null),
  (18, 10, .bipush (-3), 2, [], [], .int (-3)),
  (20, 11, .ireturn, 1, [], [], .null),
  (21, 12, .aload_n 0, 1, [0], [], .null),
  (22, 13, .getfield 22, 3, [794, 10, 7, 1], [], .null),
  (25, 14, .aload_n 0, 1, [0], [], .null),
  (26, 15, .getfield 134, 3, [795, 10, 8, 0], [], .null),
  (29, 16, .iload_n 1, 1, [1], [], .null)]
def xc141_1 : List xIns := [(30, 17, .iastore, 1, [], [], .null),
  (31, 18, .aload_n 0, 1, [0], [], .null),
  (32, 19, .dup, 1, [], [], .null),
  (33, 20, .getfield 134, 3, [795, 10, 8, 0], [], .null),
  (36, 21, .iconst 1, 1, [], [], .int (1)),
  (37, 22, .iadd, 1, [], [], .null),
  (38, 23, .putfield 134, 3, [795, 10, 8, 0], [], .null),
  (41, 24, .aload_n 0, 1, [0], [], .null),
  (42, 25, .getfield 134, 3, [795, 10, 8, 0], [], .null),
  (45, 26, .iconst 1, 1, [], [], .int (1)),
  (46, 27, .isub, 1, [], [], .null),
  (47, 0, .ireturn, 1, [], [], .null)]
def xc141 : List (List xIns) := [xc141_0, xc141_1]

/-- StepRingsModel.rest()I -/
def xc142_0 : List xIns := [(0, 1, .aload_n 0, 1, [0], [], .null),
  (1, 2, .getfield 134, 3, [795, 10, 8, 0], [], .null),
  (4, 3, .istore_n 1, 1, [1], [], .null),
  (5, 4, .aload_n 0, 1, [0], [], .null),
  (6, 5, .iconst 0, 1, [], [], .int (0)),
  (7, 6, .putfield 134, 3, [795, 10, 8, 0], [], .null),
  (10, 7, .iload_n 1, 1, [1], [], .null),
  (11, 0, .ireturn, 1, [], [], .null)]
def xc142 : List (List xIns) := [xc142_0]

/-- StepRingsModel.placeOf(II)I -/
def xc143_0 : List xIns := [(0, 1, .iload_n 2, 1, [2], [], .null),
  (1, 2, .bipush 6, 2, [], [], .int (6)),
  (3, 3, .if_icmp .ne 17, 3, [12], [], .null),
  (6, 4, .aload_n 0, 1, [0], [], .null),
  (7, 5, .getfield 13, 3, [789, 10, 2, 1], [], .null),
  (10, 6, .bipush 7, 2, [], [], .int (7)),
  (12, 7, .iload_n 1, 1, [1], [], .null),
  (13, 8, .imul, 1, [], [], .null),
  (14, 9, .iconst 3, 1, [], [], .int (3)),
  (15, 10, .iadd, 1, [], [], .null),
  (16, 11, .iaload, 1, [], [], .null),
  (17, 12, .goto 9, 3, [16], [], .null),
  (20, 13, .aload_n 0, 1, [0], [], .null),
  (21, 14, .getfield 22, 3, [794, 10, 7, 1], [], .null),
  (24, 15, .iload_n 2, 1, [2], [], .null),
  (25, 16, .iaload, 1, [], [], .null)]
def xc143_1 : List xIns := [(26, 0, .ireturn, 1, [], [], .null)]
def xc143 : List (List xIns) := [xc143_0, xc143_1]

/-- StepRingsModel.findTours(I)V -/
def xc144_0 : List xIns := [(0, 1, .aload_n 0, 1, [0], [], .null),
  (1, 2, .iload_n 1, 1, [1], [], .null),
  (2, 3, .invokevirtual 198, 3, [139, 1063, 1065, 42, 2, 0, 10], [], .null),
  (5, 4, .aload_n 0, 1, [0], [], .null),
  (6, 5, .getfield 13, 3, [789, 10, 2, 1], [], .null),
  (9, 6, .bipush 7, 2, [], [], .int (7)),
  (11, 7, .iload_n 1, 1, [1], [], .null),
  (12, 8, .imul, 1, [], [], .null),
  (13, 9, .iaload, 1, [], [], .null),
  (14, 10, .istore_n 2, 1, [2], [], .null),
  (15, 11, .iconst 0, 1, [], [], .int (0)),
  (16, 12, .istore_n 3, 1, [3], [], .null),
  (17, 13, .iload_n 3, 1, [3], [], .null),
  (18, 14, .iconst 1, 1, [], [], .int (1)),
  (19, 15, .aload_n 0, 1, [0], [], .null),
  (20, 16, .getfield 134, 3, [795, 10, 8, 0], [], .null)]
def xc144_1 : List xIns := [(23, 17, .ishl, 1, [], [], .null),
  (24, 18, .if_icmp .ge 188, 3, [117], [], .null),
  (27, 19, .iconst 0, 1, [], [], .int (0)),
  (28, 20, .istore 4, 2, [4], [], .null),
  (30, 21, .iload 4, 2, [4], [], .null),
  (32, 22, .bipush 6, 2, [], [], .int (6)),
  (34, 23, .if_icmp .gt 172, 3, [115], [], .null),
  (37, 24, .iload 4, 2, [4], [], .null),
  (39, 25, .aload_n 0, 1, [0], [], .null),
  (40, 26, .getfield 134, 3, [795, 10, 8, 0], [], .null),
  (43, 27, .if_icmp .lt 10, 3, [30], [], .null),
  (46, 28, .iload 4, 2, [4], [], .null),
  (48, 29, .bipush 6, 2, [], [], .int (6)),
  (50, 30, .if_icmp .ne 150, 3, [113], [], .null),
  (53, 31, .aload_n 0, 1, [0], [], .null),
  (54, 32, .iload_n 1, 1, [1], [], .null)]
def xc144_2 : List xIns := [(55, 33, .iload 4, 2, [4], [], .null),
  (57, 34, .invokevirtual 202, 3, [144, 1067, 1069, 43, 3, 0, 10], [], .null),
  (60, 35, .istore 5, 2, [5], [], .null),
  (62, 36, .iload_n 3, 1, [3], [], .null),
  (63, 37, .ifCond .ne 18, 3, [46], [], .null),
  (66, 38, .aload_n 0, 1, [0], [], .null),
  (67, 39, .getfield 34, 3, [803, 10, 16, 1], [], .null),
  (70, 40, .bipush 12, 2, [], [], .int (12)),
  (72, 41, .iload 5, 2, [5], [], .null),
  (74, 42, .imul, 1, [], [], .null),
  (75, 43, .iload_n 2, 1, [2], [], .null),
  (76, 44, .iadd, 1, [], [], .null),
  (77, 45, .iaload, 1, [], [], .null),
  (78, 46, .goto 5, 3, [47], [], .null),
  (81, 47, .ldc 119, 2, [944], [], .int (100000000)),
  (83, 48, .istore 6, 2, [6], [], .null)]
def xc144_3 : List xIns := [(85, 49, .iconst 0, 1, [], [], .int (0)),
  (86, 50, .istore 7, 2, [7], [], .null),
  (88, 51, .iload 7, 2, [7], [], .null),
  (90, 52, .aload_n 0, 1, [0], [], .null),
  (91, 53, .getfield 134, 3, [795, 10, 8, 0], [], .null),
  (94, 54, .if_icmp .ge 80, 3, [99], [], .null),
  (97, 55, .iload_n 3, 1, [3], [], .null),
  (98, 56, .iload 7, 2, [7], [], .null),
  (100, 57, .ishr, 1, [], [], .null),
  (101, 58, .iconst 1, 1, [], [], .int (1)),
  (102, 59, .iand, 1, [], [], .null),
  (103, 60, .iconst 1, 1, [], [], .int (1)),
  (104, 61, .if_icmp .ne 44, 3, [88], [], .null),
  (107, 62, .aload_n 0, 1, [0], [], .null),
  (108, 63, .getfield 34, 3, [803, 10, 16, 1], [], .null),
  (111, 64, .bipush 12, 2, [], [], .int (12))]
def xc144_4 : List xIns := [(113, 65, .iload 5, 2, [5], [], .null),
  (115, 66, .imul, 1, [], [], .null),
  (116, 67, .aload_n 0, 1, [0], [], .null),
  (117, 68, .getfield 22, 3, [794, 10, 7, 1], [], .null),
  (120, 69, .iload 7, 2, [7], [], .null),
  (122, 70, .iaload, 1, [], [], .null),
  (123, 71, .iadd, 1, [], [], .null),
  (124, 72, .iaload, 1, [], [], .null),
  (125, 73, .aload_n 0, 1, [0], [], .null),
  (126, 74, .getfield 37, 3, [804, 10, 17, 1], [], .null),
  (129, 75, .bipush 7, 2, [], [], .int (7)),
  (131, 76, .iload_n 3, 1, [3], [], .null),
  (132, 77, .iconst 1, 1, [], [], .int (1)),
  (133, 78, .iload 7, 2, [7], [], .null),
  (135, 79, .ishl, 1, [], [], .null),
  (136, 80, .iconst (-1), 1, [], [], .int (-1))]
def xc144_5 : List xIns := [(137, 81, .ixor, 1, [], [], .null),
  (138, 82, .iand, 1, [], [], .null),
  (139, 83, .imul, 1, [], [], .null),
  (140, 84, .iload 7, 2, [7], [], .null),
  (142, 85, .iadd, 1, [], [], .null),
  (143, 86, .iaload, 1, [], [], .null),
  (144, 87, .iadd, 1, [], [], .null),
  (145, 88, .goto 5, 3, [89], [], .null),
  (148, 89, .ldc 119, 2, [944], [], .int (100000000)),
  (150, 90, .istore 8, 2, [8], [], .null),
  (152, 91, .iload 8, 2, [8], [], .null),
  (154, 92, .iload 6, 2, [6], [], .null),
  (156, 93, .if_icmp .ge 8, 3, [95], [], .null),
  (159, 94, .iload 8, 2, [8], [], .null),
  (161, 95, .goto 5, 3, [96], [], .null),
  (164, 96, .iload 6, 2, [6], [], .null)]
def xc144_6 : List xIns := [(166, 97, .istore 6, 2, [6], [], .null),
  (168, 98, .iinc 7 1, 3, [7], [], .int (1)),
  (171, 99, .goto (-83), 3, [50], [], .null),
  (174, 100, .aload_n 0, 1, [0], [], .null),
  (175, 101, .getfield 37, 3, [804, 10, 17, 1], [], .null),
  (178, 102, .bipush 7, 2, [], [], .int (7)),
  (180, 103, .iload_n 3, 1, [3], [], .null),
  (181, 104, .imul, 1, [], [], .null),
  (182, 105, .iload 4, 2, [4], [], .null),
  (184, 106, .iadd, 1, [], [], .null),
  (185, 107, .iload 6, 2, [6], [], .null),
  (187, 108, .ldc 119, 2, [944], [], .int (100000000)),
  (189, 109, .if_icmp .le 8, 3, [111], [], .null),
  (192, 110, .ldc 119, 2, [944], [], .int (100000000)),
  (194, 111, .goto 5, 3, [112], [], .null),
  (197, 112, .iload 6, 2, [6], [], .null)]
def xc144_7 : List xIns := [(199, 113, .iastore, 1, [], [], .null),
  (200, 114, .iinc 4 1, 3, [4], [], .int (1)),
  (203, 115, .goto (-173), 3, [20], [], .null),
  (206, 116, .iinc 3 1, 3, [3], [], .int (1)),
  (209, 117, .goto (-192), 3, [12], [], .null),
  (212, 0, .return_, 1, [], [], .null)]
def xc144 : List (List xIns) := [xc144_0, xc144_1, xc144_2, xc144_3, xc144_4, xc144_5, xc144_6, xc144_7]

/-- StepRingsModel.parted(I)I -/
def xc145_0 : List xIns := [(0, 1, .iload_n 1, 1, [1], [], .null),
  (1, 2, .i2l, 1, [], [], .null),
  (2, 3, .lconst 1, 1, [], [], .long 1),
  (3, 4, .iconst 1, 1, [], [], .int (1)),
  (4, 5, .aload_n 0, 1, [0], [], .null),
  (5, 6, .getfield 80, 3, [790, 10, 3, 0], [], .null),
  (8, 7, .ishl, 1, [], [], .null),
  (9, 8, .iconst 1, 1, [], [], .int (1)),
  (10, 9, .isub, 1, [], [], .null),
  (11, 10, .i2l, 1, [], [], .null),
  (12, 11, .invokestatic 76, 3, [129, 886, 887, 0, 3, 0], [], .null),
  (15, 12, .ifCond .ne 5, 3, [14], [], .null),
  (18, 13, .iconst (-1), 1, [], [], .int (-1)),
  (19, 14, .ireturn, 1, [], [], .null),
  (20, 15, .iconst 1, 1, [], [], .int (1)),
  (21, 16, .aload_n 0, 1, [0], [], .null)]
def xc145_1 : List xIns := [(22, 17, .getfield 134, 3, [795, 10, 8, 0], [], .null),
  (25, 18, .ishl, 1, [], [], .null),
  (26, 19, .iconst 1, 1, [], [], .int (1)),
  (27, 20, .isub, 1, [], [], .null),
  (28, 21, .istore_n 2, 1, [2], [], .null),
  (29, 22, .iconst 0, 1, [], [], .int (0)),
  (30, 23, .istore_n 3, 1, [3], [], .null),
  (31, 24, .iload_n 3, 1, [3], [], .null),
  (32, 25, .iload_n 2, 1, [2], [], .null),
  (33, 26, .if_icmp .gt 25, 3, [37], [], .null),
  (36, 27, .aload_n 0, 1, [0], [], .null),
  (37, 28, .getfield 40, 3, [805, 10, 18, 1], [], .null),
  (40, 29, .iload_n 3, 1, [3], [], .null),
  (41, 30, .iload_n 3, 1, [3], [], .null),
  (42, 31, .ifCond .ne 7, 3, [33], [], .null),
  (45, 32, .iconst 0, 1, [], [], .int (0))]
def xc145_2 : List xIns := [(46, 33, .goto 5, 3, [34], [], .null),
  (49, 34, .ldc 119, 2, [944], [], .int (100000000)),
  (51, 35, .iastore, 1, [], [], .null),
  (52, 36, .iinc 3 1, 3, [3], [], .int (1)),
  (55, 37, .goto (-24), 3, [23], [], .null),
  (58, 38, .iconst 0, 1, [], [], .int (0)),
  (59, 39, .istore_n 3, 1, [3], [], .null),
  (60, 40, .iload_n 3, 1, [3], [], .null),
  (61, 41, .aload_n 0, 1, [0], [], .null),
  (62, 42, .getfield 80, 3, [790, 10, 3, 0], [], .null),
  (65, 43, .if_icmp .ge 161, 3, [130], [], .null),
  (68, 44, .iload_n 1, 1, [1], [], .null),
  (69, 45, .iload_n 3, 1, [3], [], .null),
  (70, 46, .ishr, 1, [], [], .null),
  (71, 47, .iconst 1, 1, [], [], .int (1)),
  (72, 48, .iand, 1, [], [], .null)]
def xc145_3 : List xIns := [(73, 49, .iconst 1, 1, [], [], .int (1)),
  (74, 50, .if_icmp .ne 146, 3, [128], [], .null),
  (77, 51, .aload_n 0, 1, [0], [], .null),
  (78, 52, .iload_n 3, 1, [3], [], .null),
  (79, 53, .invokevirtual 205, 3, [145, 1059, 1061, 41, 2, 0, 10], [], .null),
  (82, 54, .iconst 0, 1, [], [], .int (0)),
  (83, 55, .istore 4, 2, [4], [], .null),
  (85, 56, .iload 4, 2, [4], [], .null),
  (87, 57, .iload_n 2, 1, [2], [], .null),
  (88, 58, .if_icmp .gt 103, 3, [113], [], .null),
  (91, 59, .aload_n 0, 1, [0], [], .null),
  (92, 60, .getfield 43, 3, [806, 10, 19, 1], [], .null),
  (95, 61, .iload 4, 2, [4], [], .null),
  (97, 62, .aload_n 0, 1, [0], [], .null),
  (98, 63, .getfield 40, 3, [805, 10, 18, 1], [], .null),
  (101, 64, .iload 4, 2, [4], [], .null)]
def xc145_4 : List xIns := [(103, 65, .iaload, 1, [], [], .null),
  (104, 66, .iastore, 1, [], [], .null),
  (105, 67, .iload 4, 2, [4], [], .null),
  (107, 68, .istore 5, 2, [5], [], .null),
  (109, 69, .iload 5, 2, [5], [], .null),
  (111, 70, .ifCond .le 74, 3, [111], [], .null),
  (114, 71, .aload_n 0, 1, [0], [], .null),
  (115, 72, .getfield 40, 3, [805, 10, 18, 1], [], .null),
  (118, 73, .iload 4, 2, [4], [], .null),
  (120, 74, .iload 5, 2, [5], [], .null),
  (122, 75, .iconst (-1), 1, [], [], .int (-1)),
  (123, 76, .ixor, 1, [], [], .null),
  (124, 77, .iand, 1, [], [], .null),
  (125, 78, .iaload, 1, [], [], .null),
  (126, 79, .aload_n 0, 1, [0], [], .null),
  (127, 80, .getfield 37, 3, [804, 10, 17, 1], [], .null)]
def xc145_5 : List xIns := [(130, 81, .bipush 7, 2, [], [], .int (7)),
  (132, 82, .iload 5, 2, [5], [], .null),
  (134, 83, .imul, 1, [], [], .null),
  (135, 84, .bipush 6, 2, [], [], .int (6)),
  (137, 85, .iadd, 1, [], [], .null),
  (138, 86, .iaload, 1, [], [], .null),
  (139, 87, .iadd, 1, [], [], .null),
  (140, 88, .istore 6, 2, [6], [], .null),
  (142, 89, .aload_n 0, 1, [0], [], .null),
  (143, 90, .getfield 43, 3, [806, 10, 19, 1], [], .null),
  (146, 91, .iload 4, 2, [4], [], .null),
  (148, 92, .iload 6, 2, [6], [], .null),
  (150, 93, .aload_n 0, 1, [0], [], .null),
  (151, 94, .getfield 43, 3, [806, 10, 19, 1], [], .null),
  (154, 95, .iload 4, 2, [4], [], .null),
  (156, 96, .iaload, 1, [], [], .null)]
def xc145_6 : List xIns := [(157, 97, .if_icmp .ge 8, 3, [99], [], .null),
  (160, 98, .iload 6, 2, [6], [], .null),
  (162, 99, .goto 10, 3, [103], [], .null),
  (165, 100, .aload_n 0, 1, [0], [], .null),
  (166, 101, .getfield 43, 3, [806, 10, 19, 1], [], .null),
  (169, 102, .iload 4, 2, [4], [], .null),
  (171, 103, .iaload, 1, [], [], .null),
  (172, 104, .iastore, 1, [], [], .null),
  (173, 105, .iload 5, 2, [5], [], .null),
  (175, 106, .iconst 1, 1, [], [], .int (1)),
  (176, 107, .isub, 1, [], [], .null),
  (177, 108, .iload 4, 2, [4], [], .null),
  (179, 109, .iand, 1, [], [], .null),
  (180, 110, .istore 5, 2, [5], [], .null),
  (182, 111, .goto (-73), 3, [68], [], .null),
  (185, 112, .iinc 4 1, 3, [4], [], .int (1))]
def xc145_7 : List xIns := [(188, 113, .goto (-103), 3, [55], [], .null),
  (191, 114, .iconst 0, 1, [], [], .int (0)),
  (192, 115, .istore 4, 2, [4], [], .null),
  (194, 116, .iload 4, 2, [4], [], .null),
  (196, 117, .iload_n 2, 1, [2], [], .null),
  (197, 118, .if_icmp .gt 23, 3, [128], [], .null),
  (200, 119, .aload_n 0, 1, [0], [], .null),
  (201, 120, .getfield 40, 3, [805, 10, 18, 1], [], .null),
  (204, 121, .iload 4, 2, [4], [], .null),
  (206, 122, .aload_n 0, 1, [0], [], .null),
  (207, 123, .getfield 43, 3, [806, 10, 19, 1], [], .null),
  (210, 124, .iload 4, 2, [4], [], .null),
  (212, 125, .iaload, 1, [], [], .null),
  (213, 126, .iastore, 1, [], [], .null),
  (214, 127, .iinc 4 1, 3, [4], [], .int (1)),
  (217, 128, .goto (-23), 3, [115], [], .null)]
def xc145_8 : List xIns := [(220, 129, .iinc 3 1, 3, [3], [], .int (1)),
  (223, 130, .goto (-163), 3, [39], [], .null),
  (226, 131, .aload_n 0, 1, [0], [], .null),
  (227, 132, .getfield 40, 3, [805, 10, 18, 1], [], .null),
  (230, 133, .iload_n 2, 1, [2], [], .null),
  (231, 134, .iaload, 1, [], [], .null),
  (232, 135, .ldc 119, 2, [944], [], .int (100000000)),
  (234, 136, .if_icmp .lt 8, 3, [138], [], .null),
  (237, 137, .bipush (-4), 2, [], [], .int (-4)),
  (239, 138, .goto 9, 3, [142], [], .null),
  (242, 139, .aload_n 0, 1, [0], [], .null),
  (243, 140, .getfield 40, 3, [805, 10, 18, 1], [], .null),
  (246, 141, .iload_n 2, 1, [2], [], .null),
  (247, 142, .iaload, 1, [], [], .null),
  (248, 0, .ireturn, 1, [], [], .null)]
def xc145 : List (List xIns) := [xc145_0, xc145_1, xc145_2, xc145_3, xc145_4, xc145_5, xc145_6, xc145_7, xc145_8]

/-- StepRingsModel.tour(II)I -/
def xc146_0 : List xIns := [(0, 1, .aload_n 0, 1, [0], [], .null),
  (1, 2, .iload_n 1, 1, [1], [], .null),
  (2, 3, .invokevirtual 84, 3, [151, 920, 922, 27, 2, 0, 10], [], .null),
  (5, 4, .ifCond .eq 17, 3, [10], [], .null),
  (8, 5, .iload_n 2, 1, [2], [], .null),
  (9, 6, .i2l, 1, [], [], .null),
  (10, 7, .ldc2_w 208, 3, [1075], [], .long (-1)),
  (13, 8, .ldc2_w 210, 3, [1076], [], .long (5)),
  (16, 9, .invokestatic 76, 3, [129, 886, 887, 0, 3, 0], [], .null),
  (19, 10, .ifCond .ne 5, 3, [12], [], .null),
  (22, 11, .iconst (-1), 1, [], [], .int (-1)),
  (23, 12, .ireturn, 1, [], [], .null),
  (24, 13, .aload_n 0, 1, [0], [], .null),
  (25, 14, .iload_n 1, 1, [1], [], .null),
  (26, 15, .invokevirtual 205, 3, [145, 1059, 1061, 41, 2, 0, 10], [], .null),
  (29, 16, .iconst 1, 1, [], [], .int (1))]
def xc146_1 : List xIns := [(30, 17, .aload_n 0, 1, [0], [], .null),
  (31, 18, .getfield 134, 3, [795, 10, 8, 0], [], .null),
  (34, 19, .ishl, 1, [], [], .null),
  (35, 20, .iconst 1, 1, [], [], .int (1)),
  (36, 21, .isub, 1, [], [], .null),
  (37, 22, .istore_n 3, 1, [3], [], .null),
  (38, 23, .bipush 6, 2, [], [], .int (6)),
  (40, 24, .istore 4, 2, [4], [], .null),
  (42, 25, .aload_n 0, 1, [0], [], .null),
  (43, 26, .getfield 37, 3, [804, 10, 17, 1], [], .null),
  (46, 27, .bipush 7, 2, [], [], .int (7)),
  (48, 28, .iload_n 3, 1, [3], [], .null),
  (49, 29, .imul, 1, [], [], .null),
  (50, 30, .iload 4, 2, [4], [], .null),
  (52, 31, .iadd, 1, [], [], .null),
  (53, 32, .iaload, 1, [], [], .null)]
def xc146_2 : List xIns := [(54, 33, .ldc 119, 2, [944], [], .int (100000000)),
  (56, 34, .if_icmp .ge 11, 3, [38], [], .null),
  (59, 35, .iload_n 2, 1, [2], [], .null),
  (60, 36, .aload_n 0, 1, [0], [], .null),
  (61, 37, .getfield 134, 3, [795, 10, 8, 0], [], .null),
  (64, 38, .if_icmp .lt 6, 3, [40], [], .null),
  (67, 39, .bipush (-4), 2, [], [], .int (-4)),
  (69, 40, .ireturn, 1, [], [], .null),
  (70, 41, .iload_n 2, 1, [2], [], .null),
  (71, 42, .ifCond .ge 16, 3, [51], [], .null),
  (74, 43, .aload_n 0, 1, [0], [], .null),
  (75, 44, .getfield 37, 3, [804, 10, 17, 1], [], .null),
  (78, 45, .bipush 7, 2, [], [], .int (7)),
  (80, 46, .iload_n 3, 1, [3], [], .null),
  (81, 47, .imul, 1, [], [], .null),
  (82, 48, .iload 4, 2, [4], [], .null)]
def xc146_3 : List xIns := [(84, 49, .iadd, 1, [], [], .null),
  (85, 50, .iaload, 1, [], [], .null),
  (86, 51, .ireturn, 1, [], [], .null),
  (87, 52, .iconst 0, 1, [], [], .int (0)),
  (88, 53, .istore 5, 2, [5], [], .null),
  (90, 54, .iload 5, 2, [5], [], .null),
  (92, 55, .iload_n 2, 1, [2], [], .null),
  (93, 56, .if_icmp .gt 98, 3, [116], [], .null),
  (96, 57, .iconst 0, 1, [], [], .int (0)),
  (97, 58, .istore 6, 2, [6], [], .null),
  (99, 59, .iload_n 3, 1, [3], [], .null),
  (100, 60, .iload 6, 2, [6], [], .null),
  (102, 61, .ishr, 1, [], [], .null),
  (103, 62, .iconst 1, 1, [], [], .int (1)),
  (104, 63, .iand, 1, [], [], .null),
  (105, 64, .ifCond .eq 61, 3, [102], [], .null)]
def xc146_4 : List xIns := [(108, 65, .aload_n 0, 1, [0], [], .null),
  (109, 66, .getfield 34, 3, [803, 10, 16, 1], [], .null),
  (112, 67, .bipush 12, 2, [], [], .int (12)),
  (114, 68, .aload_n 0, 1, [0], [], .null),
  (115, 69, .iload_n 1, 1, [1], [], .null),
  (116, 70, .iload 4, 2, [4], [], .null),
  (118, 71, .invokevirtual 202, 3, [144, 1067, 1069, 43, 3, 0, 10], [], .null),
  (121, 72, .imul, 1, [], [], .null),
  (122, 73, .aload_n 0, 1, [0], [], .null),
  (123, 74, .getfield 22, 3, [794, 10, 7, 1], [], .null),
  (126, 75, .iload 6, 2, [6], [], .null),
  (128, 76, .iaload, 1, [], [], .null),
  (129, 77, .iadd, 1, [], [], .null),
  (130, 78, .iaload, 1, [], [], .null),
  (131, 79, .aload_n 0, 1, [0], [], .null),
  (132, 80, .getfield 37, 3, [804, 10, 17, 1], [], .null)]
def xc146_5 : List xIns := [(135, 81, .bipush 7, 2, [], [], .int (7)),
  (137, 82, .iload_n 3, 1, [3], [], .null),
  (138, 83, .iconst 1, 1, [], [], .int (1)),
  (139, 84, .iload 6, 2, [6], [], .null),
  (141, 85, .ishl, 1, [], [], .null),
  (142, 86, .iconst (-1), 1, [], [], .int (-1)),
  (143, 87, .ixor, 1, [], [], .null),
  (144, 88, .iand, 1, [], [], .null),
  (145, 89, .imul, 1, [], [], .null),
  (146, 90, .iload 6, 2, [6], [], .null),
  (148, 91, .iadd, 1, [], [], .null),
  (149, 92, .iaload, 1, [], [], .null),
  (150, 93, .iadd, 1, [], [], .null),
  (151, 94, .aload_n 0, 1, [0], [], .null),
  (152, 95, .getfield 37, 3, [804, 10, 17, 1], [], .null),
  (155, 96, .bipush 7, 2, [], [], .int (7))]
def xc146_6 : List xIns := [(157, 97, .iload_n 3, 1, [3], [], .null),
  (158, 98, .imul, 1, [], [], .null),
  (159, 99, .iload 4, 2, [4], [], .null),
  (161, 100, .iadd, 1, [], [], .null),
  (162, 101, .iaload, 1, [], [], .null),
  (163, 102, .if_icmp .eq 9, 3, [104], [], .null),
  (166, 103, .iinc 6 1, 3, [6], [], .int (1)),
  (169, 104, .goto (-70), 3, [58], [], .null),
  (172, 105, .iload_n 3, 1, [3], [], .null),
  (173, 106, .iconst 1, 1, [], [], .int (1)),
  (174, 107, .iload 6, 2, [6], [], .null),
  (176, 108, .ishl, 1, [], [], .null),
  (177, 109, .iconst (-1), 1, [], [], .int (-1)),
  (178, 110, .ixor, 1, [], [], .null),
  (179, 111, .iand, 1, [], [], .null),
  (180, 112, .istore_n 3, 1, [3], [], .null)]
def xc146_7 : List xIns := [(181, 113, .iload 6, 2, [6], [], .null),
  (183, 114, .istore 4, 2, [4], [], .null),
  (185, 115, .iinc 5 1, 3, [5], [], .int (1)),
  (188, 116, .goto (-98), 3, [53], [], .null),
  (191, 117, .iload 4, 2, [4], [], .null),
  (193, 0, .ireturn, 1, [], [], .null)]
def xc146 : List (List xIns) := [xc146_0, xc146_1, xc146_2, xc146_3, xc146_4, xc146_5, xc146_6, xc146_7]

/-- StepRingsModel.wellsOf(II)I -/
def xc147_0 : List xIns := [(0, 1, .iconst 0, 1, [], [], .int (0)),
  (1, 2, .istore_n 3, 1, [3], [], .null),
  (2, 3, .iconst 0, 1, [], [], .int (0)),
  (3, 4, .istore 4, 2, [4], [], .null),
  (5, 5, .iload 4, 2, [4], [], .null),
  (7, 6, .aload_n 0, 1, [0], [], .null),
  (8, 7, .getfield 80, 3, [790, 10, 3, 0], [], .null),
  (11, 8, .if_icmp .ge 91, 3, [56], [], .null),
  (14, 9, .ldc 119, 2, [944], [], .int (100000000)),
  (16, 10, .istore 5, 2, [5], [], .null),
  (18, 11, .iconst 0, 1, [], [], .int (0)),
  (19, 12, .istore 6, 2, [6], [], .null),
  (21, 13, .iload 6, 2, [6], [], .null),
  (23, 14, .bipush 12, 2, [], [], .int (12)),
  (25, 15, .if_icmp .ge 57, 3, [45], [], .null),
  (28, 16, .iload_n 1, 1, [1], [], .null)]
def xc147_1 : List xIns := [(29, 17, .iload 6, 2, [6], [], .null),
  (31, 18, .ishr, 1, [], [], .null),
  (32, 19, .iconst 1, 1, [], [], .int (1)),
  (33, 20, .iand, 1, [], [], .null),
  (34, 21, .iconst 1, 1, [], [], .int (1)),
  (35, 22, .if_icmp .ne 37, 3, [41], [], .null),
  (38, 23, .aload_n 0, 1, [0], [], .null),
  (39, 24, .getfield 46, 3, [807, 10, 20, 1], [], .null),
  (42, 25, .bipush 12, 2, [], [], .int (12)),
  (44, 26, .iload 4, 2, [4], [], .null),
  (46, 27, .imul, 1, [], [], .null),
  (47, 28, .iload 6, 2, [6], [], .null),
  (49, 29, .iadd, 1, [], [], .null),
  (50, 30, .iaload, 1, [], [], .null),
  (51, 31, .iload 5, 2, [5], [], .null),
  (53, 32, .if_icmp .ge 19, 3, [41], [], .null)]
def xc147_2 : List xIns := [(56, 33, .aload_n 0, 1, [0], [], .null),
  (57, 34, .getfield 46, 3, [807, 10, 20, 1], [], .null),
  (60, 35, .bipush 12, 2, [], [], .int (12)),
  (62, 36, .iload 4, 2, [4], [], .null),
  (64, 37, .imul, 1, [], [], .null),
  (65, 38, .iload 6, 2, [6], [], .null),
  (67, 39, .iadd, 1, [], [], .null),
  (68, 40, .iaload, 1, [], [], .null),
  (69, 41, .goto 5, 3, [42], [], .null),
  (72, 42, .iload 5, 2, [5], [], .null),
  (74, 43, .istore 5, 2, [5], [], .null),
  (76, 44, .iinc 6 1, 3, [6], [], .int (1)),
  (79, 45, .goto (-58), 3, [12], [], .null),
  (82, 46, .iload 5, 2, [5], [], .null),
  (84, 47, .iload_n 2, 1, [2], [], .null),
  (85, 48, .if_icmp .le 6, 3, [50], [], .null)]
def xc147_3 : List xIns := [(88, 49, .ldc 119, 2, [944], [], .int (100000000)),
  (90, 50, .ireturn, 1, [], [], .null),
  (91, 51, .iload_n 3, 1, [3], [], .null),
  (92, 52, .iload 5, 2, [5], [], .null),
  (94, 53, .iadd, 1, [], [], .null),
  (95, 54, .istore_n 3, 1, [3], [], .null),
  (96, 55, .iinc 4 1, 3, [4], [], .int (1)),
  (99, 56, .goto (-94), 3, [4], [], .null),
  (102, 57, .iload_n 3, 1, [3], [], .null),
  (103, 0, .ireturn, 1, [], [], .null)]
def xc147 : List (List xIns) := [xc147_0, xc147_1, xc147_2, xc147_3]

/-- StepRingsModel.ones(I)I -/
def xc148_0 : List xIns := [(0, 1, .iconst 0, 1, [], [], .int (0)),
  (1, 2, .istore_n 1, 1, [1], [], .null),
  (2, 3, .iload_n 0, 1, [0], [], .null),
  (3, 4, .istore_n 2, 1, [2], [], .null),
  (4, 5, .iload_n 2, 1, [2], [], .null),
  (5, 6, .ifCond .eq 15, 3, [14], [], .null),
  (8, 7, .iinc 1 1, 3, [1], [], .int (1)),
  (11, 8, .iload_n 2, 1, [2], [], .null),
  (12, 9, .iload_n 2, 1, [2], [], .null),
  (13, 10, .iconst 1, 1, [], [], .int (1)),
  (14, 11, .isub, 1, [], [], .null),
  (15, 12, .iand, 1, [], [], .null),
  (16, 13, .istore_n 2, 1, [2], [], .null),
  (17, 14, .goto (-13), 3, [4], [], .null),
  (20, 15, .iload_n 1, 1, [1], [], .null),
  (21, 0, .ireturn, 1, [], [], .null)]
def xc148 : List (List xIns) := [xc148_0]

/-- StepRingsModel.isAhead(II)Z -/
def xc149_0 : List xIns := [(0, 1, .iload_n 0, 1, [0], [], .null),
  (1, 2, .iload_n 1, 1, [1], [], .null),
  (2, 3, .ixor, 1, [], [], .null),
  (3, 4, .istore_n 2, 1, [2], [], .null),
  (4, 5, .iload_n 2, 1, [2], [], .null),
  (5, 6, .ifCond .eq 16, 3, [15], [], .null),
  (8, 7, .iload_n 0, 1, [0], [], .null),
  (9, 8, .iload_n 2, 1, [2], [], .null),
  (10, 9, .iand, 1, [], [], .null),
  (11, 10, .iload_n 2, 1, [2], [], .null),
  (12, 11, .ineg, 1, [], [], .null),
  (13, 12, .iand, 1, [], [], .null),
  (14, 13, .ifCond .eq 7, 3, [15], [], .null),
  (17, 14, .iconst 1, 1, [], [], .int (1)),
  (18, 15, .goto 4, 3, [16], [], .null),
  (21, 16, .iconst 0, 1, [], [], .int (0))]
def xc149_1 : List xIns := [(22, 0, .ireturn, 1, [], [], .null)]
def xc149 : List (List xIns) := [xc149_0, xc149_1]

/-- StepRingsModel.isOne(I)Z -/
def xc150_0 : List xIns := [(0, 1, .iload_n 1, 1, [1], [], .null),
  (1, 2, .i2l, 1, [], [], .null),
  (2, 3, .lconst 0, 1, [], [], .long 0),
  (3, 4, .aload_n 0, 1, [0], [], .null),
  (4, 5, .getfield 80, 3, [790, 10, 3, 0], [], .null),
  (7, 6, .iconst 1, 1, [], [], .int (1)),
  (8, 7, .isub, 1, [], [], .null),
  (9, 8, .i2l, 1, [], [], .null),
  (10, 9, .invokestatic 76, 3, [129, 886, 887, 0, 3, 0], [], .null),
  (13, 0, .ireturn, 1, [], [], .null)]
def xc150 : List (List xIns) := [xc150_0]

/-- StepRingsModel.wells(III)I -/
def xc151_0 : List xIns := [(0, 1, .iload_n 1, 1, [1], [], .null),
  (1, 2, .i2l, 1, [], [], .null),
  (2, 3, .lconst 1, 1, [], [], .long 1),
  (3, 4, .ldc2_w 107, 3, [910], [], .long (3)),
  (6, 5, .invokestatic 76, 3, [129, 886, 887, 0, 3, 0], [], .null),
  (9, 6, .ifCond .eq 30, 3, [21], [], .null),
  (12, 7, .iload_n 2, 1, [2], [], .null),
  (13, 8, .i2l, 1, [], [], .null),
  (14, 9, .lconst 0, 1, [], [], .long 0),
  (15, 10, .ldc2_w 109, 3, [911], [], .long (99999)),
  (18, 11, .invokestatic 76, 3, [129, 886, 887, 0, 3, 0], [], .null),
  (21, 12, .ifCond .eq 18, 3, [21], [], .null),
  (24, 13, .iload_n 3, 1, [3], [], .null),
  (25, 14, .i2l, 1, [], [], .null),
  (26, 15, .ldc2_w 208, 3, [1075], [], .long (-1)),
  (29, 16, .iload_n 1, 1, [1], [], .null)]
def xc151_1 : List xIns := [(30, 17, .iconst 1, 1, [], [], .int (1)),
  (31, 18, .isub, 1, [], [], .null),
  (32, 19, .i2l, 1, [], [], .null),
  (33, 20, .invokestatic 76, 3, [129, 886, 887, 0, 3, 0], [], .null),
  (36, 21, .ifCond .ne 5, 3, [23], [], .null),
  (39, 22, .iconst (-1), 1, [], [], .int (-1)),
  (40, 23, .ireturn, 1, [], [], .null),
  (41, 24, .aload_n 0, 1, [0], [], .null),
  (42, 25, .getfield 80, 3, [790, 10, 3, 0], [], .null),
  (45, 26, .ifCond .ne 6, 3, [28], [], .null),
  (48, 27, .bipush (-4), 2, [], [], .int (-4)),
  (50, 28, .ireturn, 1, [], [], .null),
  (51, 29, .iconst 0, 1, [], [], .int (0)),
  (52, 30, .istore 4, 2, [4], [], .null),
  (54, 31, .iload 4, 2, [4], [], .null),
  (56, 32, .aload_n 0, 1, [0], [], .null)]
def xc151_2 : List xIns := [(57, 33, .getfield 80, 3, [790, 10, 3, 0], [], .null),
  (60, 34, .if_icmp .ge 56, 3, [61], [], .null),
  (63, 35, .iconst 0, 1, [], [], .int (0)),
  (64, 36, .istore 5, 2, [5], [], .null),
  (66, 37, .iload 5, 2, [5], [], .null),
  (68, 38, .bipush 12, 2, [], [], .int (12)),
  (70, 39, .if_icmp .ge 40, 3, [59], [], .null),
  (73, 40, .aload_n 0, 1, [0], [], .null),
  (74, 41, .getfield 46, 3, [807, 10, 20, 1], [], .null),
  (77, 42, .bipush 12, 2, [], [], .int (12)),
  (79, 43, .iload 4, 2, [4], [], .null),
  (81, 44, .imul, 1, [], [], .null),
  (82, 45, .iload 5, 2, [5], [], .null),
  (84, 46, .iadd, 1, [], [], .null),
  (85, 47, .aload_n 0, 1, [0], [], .null),
  (86, 48, .iload 4, 2, [4], [], .null)]
def xc151_3 : List xIns := [(88, 49, .aload_n 0, 1, [0], [], .null),
  (89, 50, .getfield 13, 3, [789, 10, 2, 1], [], .null),
  (92, 51, .bipush 7, 2, [], [], .int (7)),
  (94, 52, .iload 4, 2, [4], [], .null),
  (96, 53, .imul, 1, [], [], .null),
  (97, 54, .iaload, 1, [], [], .null),
  (98, 55, .iload 5, 2, [5], [], .null),
  (100, 56, .invokevirtual 124, 3, [114, 936, 938, 29, 4, 0, 10], [], .null),
  (103, 57, .iastore, 1, [], [], .null),
  (104, 58, .iinc 5 1, 3, [5], [], .int (1)),
  (107, 59, .goto (-41), 3, [36], [], .null),
  (110, 60, .iinc 4 1, 3, [4], [], .int (1)),
  (113, 61, .goto (-59), 3, [30], [], .null),
  (116, 62, .iconst 0, 1, [], [], .int (0)),
  (117, 63, .istore 4, 2, [4], [], .null),
  (119, 64, .ldc 119, 2, [944], [], .int (100000000))]
def xc151_4 : List xIns := [(121, 65, .istore 5, 2, [5], [], .null),
  (123, 66, .iconst 1, 1, [], [], .int (1)),
  (124, 67, .istore 6, 2, [6], [], .null),
  (126, 68, .iload 6, 2, [6], [], .null),
  (128, 69, .sipush 4096, 3, [], [], .int (4096)),
  (131, 70, .if_icmp .ge 66, 3, [98], [], .null),
  (134, 71, .iload 6, 2, [6], [], .null),
  (136, 72, .invokestatic 212, 3, [149, 1081, 1082, 0, 1, 0], [], .null),
  (139, 73, .iload_n 1, 1, [1], [], .null),
  (140, 74, .if_icmp .ne 51, 3, [96], [], .null),
  (143, 75, .aload_n 0, 1, [0], [], .null),
  (144, 76, .iload 6, 2, [6], [], .null),
  (146, 77, .iload_n 2, 1, [2], [], .null),
  (147, 78, .invokevirtual 216, 3, [148, 1084, 1086, 44, 3, 0, 10], [], .null),
  (150, 79, .istore 7, 2, [7], [], .null),
  (152, 80, .iload 7, 2, [7], [], .null)]
def xc151_5 : List xIns := [(154, 81, .iload 5, 2, [5], [], .null),
  (156, 82, .if_icmp .lt 27, 3, [92], [], .null),
  (159, 83, .iload 7, 2, [7], [], .null),
  (161, 84, .iload 5, 2, [5], [], .null),
  (163, 85, .if_icmp .ne 28, 3, [96], [], .null),
  (166, 86, .iload 7, 2, [7], [], .null),
  (168, 87, .ldc 119, 2, [944], [], .int (100000000)),
  (170, 88, .if_icmp .ge 21, 3, [96], [], .null),
  (173, 89, .iload 6, 2, [6], [], .null),
  (175, 90, .iload 4, 2, [4], [], .null),
  (177, 91, .invokestatic 219, 3, [150, 1088, 1089, 0, 2, 0], [], .null),
  (180, 92, .ifCond .eq 11, 3, [96], [], .null),
  (183, 93, .iload 6, 2, [6], [], .null),
  (185, 94, .istore 4, 2, [4], [], .null),
  (187, 95, .iload 7, 2, [7], [], .null),
  (189, 96, .istore 5, 2, [5], [], .null)]
def xc151_6 : List xIns := [(191, 97, .iinc 6 1, 3, [6], [], .int (1)),
  (194, 98, .goto (-68), 3, [67], [], .null),
  (197, 99, .iload 5, 2, [5], [], .null),
  (199, 100, .ldc 119, 2, [944], [], .int (100000000)),
  (201, 101, .if_icmp .lt 6, 3, [103], [], .null),
  (204, 102, .bipush (-4), 2, [], [], .int (-4)),
  (206, 103, .ireturn, 1, [], [], .null),
  (207, 104, .iload_n 3, 1, [3], [], .null),
  (208, 105, .ifCond .ge 6, 3, [107], [], .null),
  (211, 106, .iload 5, 2, [5], [], .null),
  (213, 107, .ireturn, 1, [], [], .null),
  (214, 108, .iconst 0, 1, [], [], .int (0)),
  (215, 109, .istore 6, 2, [6], [], .null),
  (217, 110, .iload 4, 2, [4], [], .null),
  (219, 111, .iconst 1, 1, [], [], .int (1)),
  (220, 112, .iand, 1, [], [], .null)]
def xc151_7 : List xIns := [(221, 113, .iconst 1, 1, [], [], .int (1)),
  (222, 114, .isub, 1, [], [], .null),
  (223, 115, .istore 7, 2, [7], [], .null),
  (225, 116, .iload 7, 2, [7], [], .null),
  (227, 117, .iload_n 3, 1, [3], [], .null),
  (228, 118, .if_icmp .ge 21, 3, [128], [], .null),
  (231, 119, .iinc 6 1, 3, [6], [], .int (1)),
  (234, 120, .iload 7, 2, [7], [], .null),
  (236, 121, .iload 4, 2, [4], [], .null),
  (238, 122, .iload 6, 2, [6], [], .null),
  (240, 123, .ishr, 1, [], [], .null),
  (241, 124, .iconst 1, 1, [], [], .int (1)),
  (242, 125, .iand, 1, [], [], .null),
  (243, 126, .iadd, 1, [], [], .null),
  (244, 127, .istore 7, 2, [7], [], .null),
  (246, 128, .goto (-21), 3, [115], [], .null)]
def xc151_8 : List xIns := [(249, 129, .iload 6, 2, [6], [], .null),
  (251, 0, .ireturn, 1, [], [], .null)]
def xc151 : List (List xIns) := [xc151_0, xc151_1, xc151_2, xc151_3, xc151_4, xc151_5, xc151_6, xc151_7, xc151_8]

/-- StepRingsModel.hold(III)I -/
def xc152_0 : List xIns := [(0, 1, .aload_n 0, 1, [0], [], .null),
  (1, 2, .iload_n 1, 1, [1], [], .null),
  (2, 3, .invokevirtual 84, 3, [151, 920, 922, 27, 2, 0, 10], [], .null),
  (5, 4, .ifCond .eq 22, 3, [13], [], .null),
  (8, 5, .iload_n 2, 1, [2], [], .null),
  (9, 6, .invokestatic 91, 3, [140, 882, 883, 0, 1, 0], [], .null),
  (12, 7, .ifCond .eq 15, 3, [13], [], .null),
  (15, 8, .iload_n 3, 1, [3], [], .null),
  (16, 9, .i2l, 1, [], [], .null),
  (17, 10, .lconst 0, 1, [], [], .long 0),
  (18, 11, .ldc2_w 109, 3, [911], [], .long (99999)),
  (21, 12, .invokestatic 76, 3, [129, 886, 887, 0, 3, 0], [], .null),
  (24, 13, .ifCond .ne 5, 3, [15], [], .null),
  (27, 14, .iconst (-1), 1, [], [], .int (-1)),
  (28, 15, .ireturn, 1, [], [], .null),
  (29, 16, .iconst 0, 1, [], [], .int (0))]
def xc152_1 : List xIns := [(30, 17, .istore 4, 2, [4], [], .null),
  (32, 18, .iconst 0, 1, [], [], .int (0)),
  (33, 19, .istore 5, 2, [5], [], .null),
  (35, 20, .iload 5, 2, [5], [], .null),
  (37, 21, .bipush 12, 2, [], [], .int (12)),
  (39, 22, .if_icmp .ge 34, 3, [39], [], .null),
  (42, 23, .iload 4, 2, [4], [], .null),
  (44, 24, .aload_n 0, 1, [0], [], .null),
  (45, 25, .iload_n 1, 1, [1], [], .null),
  (46, 26, .iload_n 2, 1, [2], [], .null),
  (47, 27, .iload 5, 2, [5], [], .null),
  (49, 28, .invokevirtual 124, 3, [114, 936, 938, 29, 4, 0, 10], [], .null),
  (52, 29, .iload_n 3, 1, [3], [], .null),
  (53, 30, .if_icmp .gt 10, 3, [34], [], .null),
  (56, 31, .iconst 1, 1, [], [], .int (1)),
  (57, 32, .iload 5, 2, [5], [], .null)]
def xc152_2 : List xIns := [(59, 33, .ishl, 1, [], [], .null),
  (60, 34, .goto 4, 3, [35], [], .null),
  (63, 35, .iconst 0, 1, [], [], .int (0)),
  (64, 36, .ior, 1, [], [], .null),
  (65, 37, .istore 4, 2, [4], [], .null),
  (67, 38, .iinc 5 1, 3, [5], [], .int (1)),
  (70, 39, .goto (-35), 3, [19], [], .null),
  (73, 40, .iload 4, 2, [4], [], .null),
  (75, 0, .ireturn, 1, [], [], .null)]
def xc152 : List (List xIns) := [xc152_0, xc152_1, xc152_2]

/-- StepRingsModel.oneMore(II)Z -/
def xc153_0 : List xIns := [(0, 1, .iconst 0, 1, [], [], .int (0)),
  (1, 2, .istore_n 3, 1, [3], [], .null),
  (2, 3, .iload_n 3, 1, [3], [], .null),
  (3, 4, .bipush 12, 2, [], [], .int (12)),
  (5, 5, .if_icmp .ge 16, 3, [12], [], .null),
  (8, 6, .aload_n 0, 1, [0], [], .null),
  (9, 7, .getfield 52, 3, [809, 10, 22, 1], [], .null),
  (12, 8, .iload_n 3, 1, [3], [], .null),
  (13, 9, .iconst (-1), 1, [], [], .int (-1)),
  (14, 10, .iastore, 1, [], [], .null),
  (15, 11, .iinc 3 1, 3, [3], [], .int (1)),
  (18, 12, .goto (-16), 3, [2], [], .null),
  (21, 13, .aload_n 0, 1, [0], [], .null),
  (22, 14, .getfield 52, 3, [809, 10, 22, 1], [], .null),
  (25, 15, .iload_n 1, 1, [1], [], .null),
  (26, 16, .bipush 48, 2, [], [], .int (48))]
def xc153_1 : List xIns := [(28, 17, .iastore, 1, [], [], .null),
  (29, 18, .aload_n 0, 1, [0], [], .null),
  (30, 19, .getfield 55, 3, [810, 10, 23, 1], [], .null),
  (33, 20, .iconst 0, 1, [], [], .int (0)),
  (34, 21, .iload_n 1, 1, [1], [], .null),
  (35, 22, .iastore, 1, [], [], .null),
  (36, 23, .iconst 1, 1, [], [], .int (1)),
  (37, 24, .istore_n 3, 1, [3], [], .null),
  (38, 25, .iconst 0, 1, [], [], .int (0)),
  (39, 26, .istore 4, 2, [4], [], .null),
  (41, 27, .iload 4, 2, [4], [], .null),
  (43, 28, .iload_n 3, 1, [3], [], .null),
  (44, 29, .if_icmp .ge 155, 3, [118], [], .null),
  (47, 30, .aload_n 0, 1, [0], [], .null),
  (48, 31, .getfield 52, 3, [809, 10, 22, 1], [], .null),
  (51, 32, .iload_n 2, 1, [2], [], .null)]
def xc153_2 : List xIns := [(52, 33, .iaload, 1, [], [], .null),
  (53, 34, .ifCond .ge 146, 3, [118], [], .null),
  (56, 35, .iconst 0, 1, [], [], .int (0)),
  (57, 36, .istore 5, 2, [5], [], .null),
  (59, 37, .iload 5, 2, [5], [], .null),
  (61, 38, .iconst 2, 1, [], [], .int (2)),
  (62, 39, .aload_n 0, 1, [0], [], .null),
  (63, 40, .getfield 88, 3, [788, 10, 1, 0], [], .null),
  (66, 41, .imul, 1, [], [], .null),
  (67, 42, .if_icmp .ge 126, 3, [116], [], .null),
  (70, 43, .aload_n 0, 1, [0], [], .null),
  (71, 44, .getfield 7, 3, [787, 10, 0, 1], [], .null),
  (74, 45, .iconst 5, 1, [], [], .int (5)),
  (75, 46, .iload 5, 2, [5], [], .null),
  (77, 47, .iconst 2, 1, [], [], .int (2)),
  (78, 48, .idiv, 1, [], [], .null)]
def xc153_3 : List xIns := [(79, 49, .imul, 1, [], [], .null),
  (80, 50, .iload 5, 2, [5], [], .null),
  (82, 51, .iconst 2, 1, [], [], .int (2)),
  (83, 52, .irem, 1, [], [], .null),
  (84, 53, .iadd, 1, [], [], .null),
  (85, 54, .iaload, 1, [], [], .null),
  (86, 55, .istore 6, 2, [6], [], .null),
  (88, 56, .aload_n 0, 1, [0], [], .null),
  (89, 57, .getfield 7, 3, [787, 10, 0, 1], [], .null),
  (92, 58, .iconst 5, 1, [], [], .int (5)),
  (93, 59, .iload 5, 2, [5], [], .null),
  (95, 60, .iconst 2, 1, [], [], .int (2)),
  (96, 61, .idiv, 1, [], [], .null),
  (97, 62, .imul, 1, [], [], .null),
  (98, 63, .iconst 1, 1, [], [], .int (1)),
  (99, 64, .iadd, 1, [], [], .null)]
def xc153_4 : List xIns := [(100, 65, .iload 5, 2, [5], [], .null),
  (102, 66, .iconst 2, 1, [], [], .int (2)),
  (103, 67, .irem, 1, [], [], .null),
  (104, 68, .isub, 1, [], [], .null),
  (105, 69, .iaload, 1, [], [], .null),
  (106, 70, .istore 7, 2, [7], [], .null),
  (108, 71, .iload 5, 2, [5], [], .null),
  (110, 72, .iconst 2, 1, [], [], .int (2)),
  (111, 73, .irem, 1, [], [], .null),
  (112, 74, .ifCond .ne 15, 3, [81], [], .null),
  (115, 75, .aload_n 0, 1, [0], [], .null),
  (116, 76, .getfield 49, 3, [808, 10, 21, 1], [], .null),
  (119, 77, .iload 5, 2, [5], [], .null),
  (121, 78, .iconst 2, 1, [], [], .int (2)),
  (122, 79, .idiv, 1, [], [], .null),
  (123, 80, .iaload, 1, [], [], .null)]
def xc153_5 : List xIns := [(124, 81, .goto 13, 3, [88], [], .null),
  (127, 82, .aload_n 0, 1, [0], [], .null),
  (128, 83, .getfield 49, 3, [808, 10, 21, 1], [], .null),
  (131, 84, .iload 5, 2, [5], [], .null),
  (133, 85, .iconst 2, 1, [], [], .int (2)),
  (134, 86, .idiv, 1, [], [], .null),
  (135, 87, .iaload, 1, [], [], .null),
  (136, 88, .ineg, 1, [], [], .null),
  (137, 89, .istore 8, 2, [8], [], .null),
  (139, 90, .iload 6, 2, [6], [], .null),
  (141, 91, .aload_n 0, 1, [0], [], .null),
  (142, 92, .getfield 55, 3, [810, 10, 23, 1], [], .null),
  (145, 93, .iload 4, 2, [4], [], .null),
  (147, 94, .iaload, 1, [], [], .null),
  (148, 95, .if_icmp .ne 39, 3, [114], [], .null),
  (151, 96, .aload_n 0, 1, [0], [], .null)]
def xc153_6 : List xIns := [(152, 97, .getfield 52, 3, [809, 10, 22, 1], [], .null),
  (155, 98, .iload 7, 2, [7], [], .null),
  (157, 99, .iaload, 1, [], [], .null),
  (158, 100, .ifCond .ge 29, 3, [114], [], .null),
  (161, 101, .iload 8, 2, [8], [], .null),
  (163, 102, .iconst 1, 1, [], [], .int (1)),
  (164, 103, .if_icmp .ge 23, 3, [114], [], .null),
  (167, 104, .aload_n 0, 1, [0], [], .null),
  (168, 105, .getfield 52, 3, [809, 10, 22, 1], [], .null),
  (171, 106, .iload 7, 2, [7], [], .null),
  (173, 107, .iload 5, 2, [5], [], .null),
  (175, 108, .iastore, 1, [], [], .null),
  (176, 109, .aload_n 0, 1, [0], [], .null),
  (177, 110, .getfield 55, 3, [810, 10, 23, 1], [], .null),
  (180, 111, .iload_n 3, 1, [3], [], .null),
  (181, 112, .iload 7, 2, [7], [], .null)]
def xc153_7 : List xIns := [(183, 113, .iastore, 1, [], [], .null),
  (184, 114, .iinc 3 1, 3, [3], [], .int (1)),
  (187, 115, .iinc 5 1, 3, [5], [], .int (1)),
  (190, 116, .goto (-131), 3, [36], [], .null),
  (193, 117, .iinc 4 1, 3, [4], [], .int (1)),
  (196, 118, .goto (-155), 3, [26], [], .null),
  (199, 119, .aload_n 0, 1, [0], [], .null),
  (200, 120, .getfield 52, 3, [809, 10, 22, 1], [], .null),
  (203, 121, .iload_n 2, 1, [2], [], .null),
  (204, 122, .iaload, 1, [], [], .null),
  (205, 123, .ifCond .ge 5, 3, [125], [], .null),
  (208, 124, .iconst 0, 1, [], [], .int (0)),
  (209, 125, .ireturn, 1, [], [], .null),
  (210, 126, .iload_n 2, 1, [2], [], .null),
  (211, 127, .istore 4, 2, [4], [], .null),
  (213, 128, .iload 4, 2, [4], [], .null)]
def xc153_8 : List xIns := [(215, 129, .iload_n 1, 1, [1], [], .null),
  (216, 130, .if_icmp .eq 57, 3, [165], [], .null),
  (219, 131, .aload_n 0, 1, [0], [], .null),
  (220, 132, .getfield 52, 3, [809, 10, 22, 1], [], .null),
  (223, 133, .iload 4, 2, [4], [], .null),
  (225, 134, .iaload, 1, [], [], .null),
  (226, 135, .istore 5, 2, [5], [], .null),
  (228, 136, .aload_n 0, 1, [0], [], .null),
  (229, 137, .getfield 49, 3, [808, 10, 21, 1], [], .null),
  (232, 138, .iload 5, 2, [5], [], .null),
  (234, 139, .iconst 2, 1, [], [], .int (2)),
  (235, 140, .idiv, 1, [], [], .null),
  (236, 141, .dup2, 1, [], [], .null),
  (237, 142, .iaload, 1, [], [], .null),
  (238, 143, .iload 5, 2, [5], [], .null),
  (240, 144, .iconst 2, 1, [], [], .int (2))]
def xc153_9 : List xIns := [(241, 145, .irem, 1, [], [], .null),
  (242, 146, .ifCond .ne 7, 3, [148], [], .null),
  (245, 147, .iconst 1, 1, [], [], .int (1)),
  (246, 148, .goto 4, 3, [149], [], .null),
  (249, 149, .iconst (-1), 1, [], [], .int (-1)),
  (250, 150, .iadd, 1, [], [], .null),
  (251, 151, .iastore, 1, [], [], .null),
  (252, 152, .aload_n 0, 1, [0], [], .null),
  (253, 153, .getfield 7, 3, [787, 10, 0, 1], [], .null),
  (256, 154, .iconst 5, 1, [], [], .int (5)),
  (257, 155, .iload 5, 2, [5], [], .null),
  (259, 156, .iconst 2, 1, [], [], .int (2)),
  (260, 157, .idiv, 1, [], [], .null),
  (261, 158, .imul, 1, [], [], .null),
  (262, 159, .iload 5, 2, [5], [], .null),
  (264, 160, .iconst 2, 1, [], [], .int (2))]
def xc153_10 : List xIns := [(265, 161, .irem, 1, [], [], .null),
  (266, 162, .iadd, 1, [], [], .null),
  (267, 163, .iaload, 1, [], [], .null),
  (268, 164, .istore 4, 2, [4], [], .null),
  (270, 165, .goto (-57), 3, [127], [], .null),
  (273, 166, .iconst 1, 1, [], [], .int (1)),
  (274, 0, .ireturn, 1, [], [], .null)]
def xc153 : List (List xIns) := [xc153_0, xc153_1, xc153_2, xc153_3, xc153_4, xc153_5, xc153_6, xc153_7, xc153_8, xc153_9, xc153_10]

/-- StepRingsModel.stops(II)I -/
def xc154_0 : List xIns := [(0, 1, .iload_n 1, 1, [1], [], .null),
  (1, 2, .invokestatic 91, 3, [140, 882, 883, 0, 1, 0], [], .null),
  (4, 3, .ifCond .eq 15, 3, [9], [], .null),
  (7, 4, .iload_n 2, 1, [2], [], .null),
  (8, 5, .invokestatic 91, 3, [140, 882, 883, 0, 1, 0], [], .null),
  (11, 6, .ifCond .eq 8, 3, [9], [], .null),
  (14, 7, .iload_n 1, 1, [1], [], .null),
  (15, 8, .iload_n 2, 1, [2], [], .null),
  (16, 9, .if_icmp .ne 5, 3, [11], [], .null),
  (19, 10, .iconst (-1), 1, [], [], .int (-1)),
  (20, 11, .ireturn, 1, [], [], .null),
  (21, 12, .iconst 0, 1, [], [], .int (0)),
  (22, 13, .istore_n 3, 1, [3], [], .null),
  (23, 14, .iload_n 3, 1, [3], [], .null),
  (24, 15, .bipush 24, 2, [], [], .int (24)),
  (26, 16, .if_icmp .ge 16, 3, [23], [], .null)]
def xc154_1 : List xIns := [(29, 17, .aload_n 0, 1, [0], [], .null),
  (30, 18, .getfield 49, 3, [808, 10, 21, 1], [], .null),
  (33, 19, .iload_n 3, 1, [3], [], .null),
  (34, 20, .iconst 0, 1, [], [], .int (0)),
  (35, 21, .iastore, 1, [], [], .null),
  (36, 22, .iinc 3 1, 3, [3], [], .int (1)),
  (39, 23, .goto (-16), 3, [13], [], .null),
  (42, 24, .iconst 0, 1, [], [], .int (0)),
  (43, 25, .istore_n 3, 1, [3], [], .null),
  (44, 26, .aload_n 0, 1, [0], [], .null),
  (45, 27, .iload_n 1, 1, [1], [], .null),
  (46, 28, .iload_n 2, 1, [2], [], .null),
  (47, 29, .invokevirtual 222, 3, [154, 1099, 1101, 45, 3, 0, 10], [], .null),
  (50, 30, .ifCond .eq 9, 3, [32], [], .null),
  (53, 31, .iinc 3 1, 3, [3], [], .int (1)),
  (56, 32, .goto (-12), 3, [25], [], .null)]
def xc154_2 : List xIns := [(59, 33, .iload_n 3, 1, [3], [], .null),
  (60, 0, .ireturn, 1, [], [], .null)]
def xc154 : List (List xIns) := [xc154_0, xc154_1, xc154_2]

/-- StepRingsModel.carried(IIZ)I -/
def xc155_0 : List xIns := [(0, 1, .iload_n 1, 1, [1], [], .null),
  (1, 2, .istore 4, 2, [4], [], .null),
  (3, 3, .iload 4, 2, [4], [], .null),
  (5, 4, .bipush 120, 2, [], [], .int (120)),
  (7, 5, .if_icmp .ge 33, 3, [22], [], .null),
  (10, 6, .aload_n 0, 1, [0], [], .null),
  (11, 7, .getfield 7, 3, [787, 10, 0, 1], [], .null),
  (14, 8, .iload 4, 2, [4], [], .null),
  (16, 9, .iload_n 3, 1, [3], [], .null),
  (17, 10, .ifCond .eq 7, 3, [12], [], .null),
  (20, 11, .iload_n 2, 1, [2], [], .null),
  (21, 12, .goto 10, 3, [16], [], .null),
  (24, 13, .aload_n 0, 1, [0], [], .null),
  (25, 14, .getfield 7, 3, [787, 10, 0, 1], [], .null),
  (28, 15, .iload 4, 2, [4], [], .null),
  (30, 16, .iaload, 1, [], [], .null)]
def xc155_1 : List xIns := [(31, 17, .iastore, 1, [], [], .null),
  (32, 18, .aload_n 0, 1, [0], [], .null),
  (33, 19, .getfield 7, 3, [787, 10, 0, 1], [], .null),
  (36, 20, .iload 4, 2, [4], [], .null),
  (38, 21, .iaload, 1, [], [], .null),
  (39, 22, .ireturn, 1, [], [], .null),
  (40, 23, .iinc 4 (-120), 3, [4], [], .int (-120)),
  (43, 24, .iload 4, 2, [4], [], .null),
  (45, 25, .bipush 56, 2, [], [], .int (56)),
  (47, 26, .if_icmp .ge 33, 3, [43], [], .null),
  (50, 27, .aload_n 0, 1, [0], [], .null),
  (51, 28, .getfield 13, 3, [789, 10, 2, 1], [], .null),
  (54, 29, .iload 4, 2, [4], [], .null),
  (56, 30, .iload_n 3, 1, [3], [], .null),
  (57, 31, .ifCond .eq 7, 3, [33], [], .null),
  (60, 32, .iload_n 2, 1, [2], [], .null)]
def xc155_2 : List xIns := [(61, 33, .goto 10, 3, [37], [], .null),
  (64, 34, .aload_n 0, 1, [0], [], .null),
  (65, 35, .getfield 13, 3, [789, 10, 2, 1], [], .null),
  (68, 36, .iload 4, 2, [4], [], .null),
  (70, 37, .iaload, 1, [], [], .null),
  (71, 38, .iastore, 1, [], [], .null),
  (72, 39, .aload_n 0, 1, [0], [], .null),
  (73, 40, .getfield 13, 3, [789, 10, 2, 1], [], .null),
  (76, 41, .iload 4, 2, [4], [], .null),
  (78, 42, .iaload, 1, [], [], .null),
  (79, 43, .ireturn, 1, [], [], .null),
  (80, 44, .iinc 4 (-56), 3, [4], [], .int (-56)),
  (83, 45, .iload 4, 2, [4], [], .null),
  (85, 46, .bipush 64, 2, [], [], .int (64)),
  (87, 47, .if_icmp .ge 33, 3, [64], [], .null),
  (90, 48, .aload_n 0, 1, [0], [], .null)]
def xc155_3 : List xIns := [(91, 49, .getfield 16, 3, [791, 10, 4, 1], [], .null),
  (94, 50, .iload 4, 2, [4], [], .null),
  (96, 51, .iload_n 3, 1, [3], [], .null),
  (97, 52, .ifCond .eq 7, 3, [54], [], .null),
  (100, 53, .iload_n 2, 1, [2], [], .null),
  (101, 54, .goto 10, 3, [58], [], .null),
  (104, 55, .aload_n 0, 1, [0], [], .null),
  (105, 56, .getfield 16, 3, [791, 10, 4, 1], [], .null),
  (108, 57, .iload 4, 2, [4], [], .null),
  (110, 58, .iaload, 1, [], [], .null),
  (111, 59, .iastore, 1, [], [], .null),
  (112, 60, .aload_n 0, 1, [0], [], .null),
  (113, 61, .getfield 16, 3, [791, 10, 4, 1], [], .null),
  (116, 62, .iload 4, 2, [4], [], .null),
  (118, 63, .iaload, 1, [], [], .null),
  (119, 64, .ireturn, 1, [], [], .null)]
def xc155_4 : List xIns := [(120, 65, .iinc 4 (-64), 3, [4], [], .int (-64)),
  (123, 66, .iload 4, 2, [4], [], .null),
  (125, 67, .iconst 4, 1, [], [], .int (4)),
  (126, 68, .if_icmp .ge 33, 3, [85], [], .null),
  (129, 69, .aload_n 0, 1, [0], [], .null),
  (130, 70, .getfield 19, 3, [792, 10, 5, 1], [], .null),
  (133, 71, .iload 4, 2, [4], [], .null),
  (135, 72, .iload_n 3, 1, [3], [], .null),
  (136, 73, .ifCond .eq 7, 3, [75], [], .null),
  (139, 74, .iload_n 2, 1, [2], [], .null),
  (140, 75, .goto 10, 3, [79], [], .null),
  (143, 76, .aload_n 0, 1, [0], [], .null),
  (144, 77, .getfield 19, 3, [792, 10, 5, 1], [], .null),
  (147, 78, .iload 4, 2, [4], [], .null),
  (149, 79, .iaload, 1, [], [], .null),
  (150, 80, .iastore, 1, [], [], .null)]
def xc155_5 : List xIns := [(151, 81, .aload_n 0, 1, [0], [], .null),
  (152, 82, .getfield 19, 3, [792, 10, 5, 1], [], .null),
  (155, 83, .iload 4, 2, [4], [], .null),
  (157, 84, .iaload, 1, [], [], .null),
  (158, 85, .ireturn, 1, [], [], .null),
  (159, 86, .iinc 4 (-4), 3, [4], [], .int (-4)),
  (162, 87, .aload_n 0, 1, [0], [], .null),
  (163, 88, .getfield 22, 3, [794, 10, 7, 1], [], .null),
  (166, 89, .iload 4, 2, [4], [], .null),
  (168, 90, .iload_n 3, 1, [3], [], .null),
  (169, 91, .ifCond .eq 7, 3, [93], [], .null),
  (172, 92, .iload_n 2, 1, [2], [], .null),
  (173, 93, .goto 10, 3, [97], [], .null),
  (176, 94, .aload_n 0, 1, [0], [], .null),
  (177, 95, .getfield 22, 3, [794, 10, 7, 1], [], .null),
  (180, 96, .iload 4, 2, [4], [], .null)]
def xc155_6 : List xIns := [(182, 97, .iaload, 1, [], [], .null),
  (183, 98, .iastore, 1, [], [], .null),
  (184, 99, .aload_n 0, 1, [0], [], .null),
  (185, 100, .getfield 22, 3, [794, 10, 7, 1], [], .null),
  (188, 101, .iload 4, 2, [4], [], .null),
  (190, 102, .iaload, 1, [], [], .null),
  (191, 0, .ireturn, 1, [], [], .null)]
def xc155 : List (List xIns) := [xc155_0, xc155_1, xc155_2, xc155_3, xc155_4, xc155_5, xc155_6]

/-- StepRingsModel.image()I -/
def xc156_0 : List xIns := [(0, 1, .iconst 0, 1, [], [], .int (0)),
  (1, 2, .istore_n 1, 1, [1], [], .null),
  (2, 3, .iload_n 1, 1, [1], [], .null),
  (3, 4, .sipush 250, 3, [], [], .int (250)),
  (6, 5, .if_icmp .ge 22, 3, [16], [], .null),
  (9, 6, .aload_n 0, 1, [0], [], .null),
  (10, 7, .getfield 58, 3, [812, 10, 25, 1], [], .null),
  (13, 8, .iload_n 1, 1, [1], [], .null),
  (14, 9, .aload_n 0, 1, [0], [], .null),
  (15, 10, .iload_n 1, 1, [1], [], .null),
  (16, 11, .iconst 0, 1, [], [], .int (0)),
  (17, 12, .iconst 0, 1, [], [], .int (0)),
  (18, 13, .invokevirtual 225, 3, [156, 1107, 1109, 46, 4, 0, 10], [], .null),
  (21, 14, .iastore, 1, [], [], .null),
  (22, 15, .iinc 1 1, 3, [1], [], .int (1)),
  (25, 16, .goto (-23), 3, [2], [], .null)]
def xc156_1 : List xIns := [(28, 17, .aload_n 0, 1, [0], [], .null),
  (29, 18, .getfield 61, 3, [813, 10, 26, 1], [], .null),
  (32, 19, .iconst 0, 1, [], [], .int (0)),
  (33, 20, .aload_n 0, 1, [0], [], .null),
  (34, 21, .getfield 88, 3, [788, 10, 1, 0], [], .null),
  (37, 22, .iastore, 1, [], [], .null),
  (38, 23, .aload_n 0, 1, [0], [], .null),
  (39, 24, .getfield 61, 3, [813, 10, 26, 1], [], .null),
  (42, 25, .iconst 1, 1, [], [], .int (1)),
  (43, 26, .aload_n 0, 1, [0], [], .null),
  (44, 27, .getfield 80, 3, [790, 10, 3, 0], [], .null),
  (47, 28, .iastore, 1, [], [], .null),
  (48, 29, .aload_n 0, 1, [0], [], .null),
  (49, 30, .getfield 61, 3, [813, 10, 26, 1], [], .null),
  (52, 31, .iconst 2, 1, [], [], .int (2)),
  (53, 32, .aload_n 0, 1, [0], [], .null)]
def xc156_2 : List xIns := [(54, 33, .getfield 134, 3, [795, 10, 8, 0], [], .null),
  (57, 34, .iastore, 1, [], [], .null),
  (58, 35, .aload_n 0, 1, [0], [], .null),
  (59, 36, .getfield 61, 3, [813, 10, 26, 1], [], .null),
  (62, 37, .iconst 3, 1, [], [], .int (3)),
  (63, 38, .aload_n 0, 1, [0], [], .null),
  (64, 39, .getfield 131, 3, [793, 10, 6, 0], [], .null),
  (67, 40, .iastore, 1, [], [], .null),
  (68, 41, .aload_n 0, 1, [0], [], .null),
  (69, 42, .getfield 61, 3, [813, 10, 26, 1], [], .null),
  (72, 43, .iconst 4, 1, [], [], .int (4)),
  (73, 44, .aload_n 0, 1, [0], [], .null),
  (74, 45, .getfield 137, 3, [796, 10, 9, 0], [], .null),
  (77, 46, .iastore, 1, [], [], .null),
  (78, 47, .aload_n 0, 1, [0], [], .null),
  (79, 48, .iconst 1, 1, [], [], .int (1))]
def xc156_3 : List xIns := [(80, 49, .putfield 229, 3, [811, 10, 24, 2], [], .null),
  (83, 50, .iconst 1, 1, [], [], .int (1)),
  (84, 0, .ireturn, 1, [], [], .null)]
def xc156 : List (List xIns) := [xc156_0, xc156_1, xc156_2, xc156_3]

/-- StepRingsModel.restore()I -/
def xc157_0 : List xIns := [(0, 1, .aload_n 0, 1, [0], [], .null),
  (1, 2, .getfield 229, 3, [811, 10, 24, 2], [], .null),
  (4, 3, .ifCond .ne 6, 3, [5], [], .null),
  (7, 4, .bipush (-4), 2, [], [], .int (-4)),
  (9, 5, .ireturn, 1, [], [], .null),
  (10, 6, .iconst 0, 1, [], [], .int (0)),
  (11, 7, .istore_n 1, 1, [1], [], .null),
  (12, 8, .iload_n 1, 1, [1], [], .null),
  (13, 9, .sipush 250, 3, [], [], .int (250)),
  (16, 10, .if_icmp .ge 22, 3, [21], [], .null),
  (19, 11, .aload_n 0, 1, [0], [], .null),
  (20, 12, .iload_n 1, 1, [1], [], .null),
  (21, 13, .aload_n 0, 1, [0], [], .null),
  (22, 14, .getfield 58, 3, [812, 10, 25, 1], [], .null),
  (25, 15, .iload_n 1, 1, [1], [], .null),
  (26, 16, .iaload, 1, [], [], .null)]
def xc157_1 : List xIns := [(27, 17, .iconst 1, 1, [], [], .int (1)),
  (28, 18, .invokevirtual 225, 3, [156, 1107, 1109, 46, 4, 0, 10], [], .null),
  (31, 19, .pop, 1, [], [], .null),
  (32, 20, .iinc 1 1, 3, [1], [], .int (1)),
  (35, 21, .goto (-23), 3, [7], [], .null),
  (38, 22, .aload_n 0, 1, [0], [], .null),
  (39, 23, .aload_n 0, 1, [0], [], .null),
  (40, 24, .getfield 61, 3, [813, 10, 26, 1], [], .null),
  (43, 25, .iconst 0, 1, [], [], .int (0)),
  (44, 26, .iaload, 1, [], [], .null),
  (45, 27, .putfield 88, 3, [788, 10, 1, 0], [], .null),
  (48, 28, .aload_n 0, 1, [0], [], .null),
  (49, 29, .aload_n 0, 1, [0], [], .null),
  (50, 30, .getfield 61, 3, [813, 10, 26, 1], [], .null),
  (53, 31, .iconst 1, 1, [], [], .int (1)),
  (54, 32, .iaload, 1, [], [], .null)]
def xc157_2 : List xIns := [(55, 33, .putfield 80, 3, [790, 10, 3, 0], [], .null),
  (58, 34, .aload_n 0, 1, [0], [], .null),
  (59, 35, .aload_n 0, 1, [0], [], .null),
  (60, 36, .getfield 61, 3, [813, 10, 26, 1], [], .null),
  (63, 37, .iconst 2, 1, [], [], .int (2)),
  (64, 38, .iaload, 1, [], [], .null),
  (65, 39, .putfield 134, 3, [795, 10, 8, 0], [], .null),
  (68, 40, .aload_n 0, 1, [0], [], .null),
  (69, 41, .aload_n 0, 1, [0], [], .null),
  (70, 42, .getfield 61, 3, [813, 10, 26, 1], [], .null),
  (73, 43, .iconst 3, 1, [], [], .int (3)),
  (74, 44, .iaload, 1, [], [], .null),
  (75, 45, .putfield 131, 3, [793, 10, 6, 0], [], .null),
  (78, 46, .aload_n 0, 1, [0], [], .null),
  (79, 47, .aload_n 0, 1, [0], [], .null),
  (80, 48, .getfield 61, 3, [813, 10, 26, 1], [], .null)]
def xc157_3 : List xIns := [(83, 49, .iconst 4, 1, [], [], .int (4)),
  (84, 50, .iaload, 1, [], [], .null),
  (85, 51, .putfield 137, 3, [796, 10, 9, 0], [], .null),
  (88, 52, .iconst 1, 1, [], [], .int (1)),
  (89, 0, .ireturn, 1, [], [], .null)]
def xc157 : List (List xIns) := [xc157_0, xc157_1, xc157_2, xc157_3]

/-- StepRingsModel.isSheet(II)Z -/
def xc158_0 : List xIns := [(0, 1, .iload_n 0, 1, [0], [], .null),
  (1, 2, .i2l, 1, [], [], .null),
  (2, 3, .lconst 0, 1, [], [], .long 0),
  (3, 4, .ldc2_w 107, 3, [910], [], .long (3)),
  (6, 5, .invokestatic 76, 3, [129, 886, 887, 0, 3, 0], [], .null),
  (9, 6, .ifCond .eq 19, 3, [14], [], .null),
  (12, 7, .iload_n 1, 1, [1], [], .null),
  (13, 8, .i2l, 1, [], [], .null),
  (14, 9, .lconst 0, 1, [], [], .long 0),
  (15, 10, .ldc2_w 129, 3, [954], [], .long (2)),
  (18, 11, .invokestatic 76, 3, [129, 886, 887, 0, 3, 0], [], .null),
  (21, 12, .ifCond .eq 7, 3, [14], [], .null),
  (24, 13, .iconst 1, 1, [], [], .int (1)),
  (25, 14, .goto 4, 3, [15], [], .null),
  (28, 15, .iconst 0, 1, [], [], .int (0)),
  (29, 0, .ireturn, 1, [], [], .null)]
def xc158 : List (List xIns) := [xc158_0]

/-- StepRingsModel.asLane(IJ)J -/
def xc159_0 : List xIns := [(0, 1, .iload_n 0, 1, [0], [], .null),
  (1, 2, .ifCond .ne 13, 3, [8], [], .null),
  (4, 3, .lload_n 1, 1, [1], [], .null),
  (5, 4, .bipush 48, 2, [], [], .int (48)),
  (7, 5, .lshl, 1, [], [], .null),
  (8, 6, .bipush 48, 2, [], [], .int (48)),
  (10, 7, .lshr, 1, [], [], .null),
  (11, 8, .goto 19, 3, [18], [], .null),
  (14, 9, .iload_n 0, 1, [0], [], .null),
  (15, 10, .iconst 1, 1, [], [], .int (1)),
  (16, 11, .if_icmp .ne 13, 3, [17], [], .null),
  (19, 12, .lload_n 1, 1, [1], [], .null),
  (20, 13, .bipush 32, 2, [], [], .int (32)),
  (22, 14, .lshl, 1, [], [], .null),
  (23, 15, .bipush 32, 2, [], [], .int (32)),
  (25, 16, .lshr, 1, [], [], .null)]
def xc159_1 : List xIns := [(26, 17, .goto 4, 3, [18], [], .null),
  (29, 18, .lload_n 1, 1, [1], [], .null),
  (30, 0, .lreturn, 1, [], [], .null)]
def xc159 : List (List xIns) := [xc159_0, xc159_1]

/-- StepRingsModel.sheet(III)I -/
def xc160_0 : List xIns := [(0, 1, .iload_n 1, 1, [1], [], .null),
  (1, 2, .iload_n 2, 1, [2], [], .null),
  (2, 3, .invokestatic 233, 3, [159, 1119, 1120, 0, 2, 0], [], .null),
  (5, 4, .ifCond .eq 9, 3, [7], [], .null),
  (8, 5, .iload_n 3, 1, [3], [], .null),
  (9, 6, .bipush 24, 2, [], [], .int (24)),
  (11, 7, .if_icmp .le 5, 3, [9], [], .null),
  (14, 8, .iconst (-1), 1, [], [], .int (-1)),
  (15, 9, .ireturn, 1, [], [], .null),
  (16, 10, .iload_n 3, 1, [3], [], .null),
  (17, 11, .ifCond .ge 6, 3, [13], [], .null),
  (20, 12, .bipush (-14), 2, [], [], .int (-14)),
  (22, 13, .ireturn, 1, [], [], .null),
  (23, 14, .aload_n 0, 1, [0], [], .null),
  (24, 15, .getfield 64, 3, [814, 10, 27, 1], [], .null),
  (27, 16, .iload_n 1, 1, [1], [], .null)]
def xc160_1 : List xIns := [(28, 17, .iload_n 2, 1, [2], [], .null),
  (29, 18, .iastore, 1, [], [], .null),
  (30, 19, .aload_n 0, 1, [0], [], .null),
  (31, 20, .getfield 67, 3, [815, 10, 28, 1], [], .null),
  (34, 21, .iload_n 1, 1, [1], [], .null),
  (35, 22, .iload_n 3, 1, [3], [], .null),
  (36, 23, .iastore, 1, [], [], .null),
  (37, 24, .iconst 0, 1, [], [], .int (0)),
  (38, 25, .istore 4, 2, [4], [], .null),
  (40, 26, .iload 4, 2, [4], [], .null),
  (42, 27, .bipush 24, 2, [], [], .int (24)),
  (44, 28, .if_icmp .ge 22, 3, [39], [], .null),
  (47, 29, .aload_n 0, 1, [0], [], .null),
  (48, 30, .getfield 70, 3, [816, 10, 29, 1], [], .null),
  (51, 31, .bipush 24, 2, [], [], .int (24)),
  (53, 32, .iload_n 1, 1, [1], [], .null)]
def xc160_2 : List xIns := [(54, 33, .imul, 1, [], [], .null),
  (55, 34, .iload 4, 2, [4], [], .null),
  (57, 35, .iadd, 1, [], [], .null),
  (58, 36, .lconst 0, 1, [], [], .long 0),
  (59, 37, .lastore, 1, [], [], .null),
  (60, 38, .iinc 4 1, 3, [4], [], .int (1)),
  (63, 39, .goto (-23), 3, [25], [], .null),
  (66, 40, .iload_n 3, 1, [3], [], .null),
  (67, 0, .ireturn, 1, [], [], .null)]
def xc160 : List (List xIns) := [xc160_0, xc160_1, xc160_2]

/-- StepRingsModel.areTwo(II)Z -/
def xc161_0 : List xIns := [(0, 1, .aload_n 0, 1, [0], [], .null),
  (1, 2, .iload_n 1, 1, [1], [], .null),
  (2, 3, .invokevirtual 84, 3, [151, 920, 922, 27, 2, 0, 10], [], .null),
  (5, 4, .ifCond .eq 20, 3, [13], [], .null),
  (8, 5, .aload_n 0, 1, [0], [], .null),
  (9, 6, .iload_n 2, 1, [2], [], .null),
  (10, 7, .invokevirtual 84, 3, [151, 920, 922, 27, 2, 0, 10], [], .null),
  (13, 8, .ifCond .eq 12, 3, [13], [], .null),
  (16, 9, .iload_n 1, 1, [1], [], .null),
  (17, 10, .iload_n 2, 1, [2], [], .null),
  (18, 11, .if_icmp .eq 7, 3, [13], [], .null),
  (21, 12, .iconst 1, 1, [], [], .int (1)),
  (22, 13, .goto 4, 3, [14], [], .null),
  (25, 14, .iconst 0, 1, [], [], .int (0)),
  (26, 0, .ireturn, 1, [], [], .null)]
def xc161 : List (List xIns) := [xc161_0]

/-- StepRingsModel.drop(I)I -/
def xc162_0 : List xIns := [(0, 1, .iload_n 1, 1, [1], [], .null),
  (1, 2, .i2l, 1, [], [], .null),
  (2, 3, .lconst 0, 1, [], [], .long 0),
  (3, 4, .ldc2_w 107, 3, [910], [], .long (3)),
  (6, 5, .invokestatic 76, 3, [129, 886, 887, 0, 3, 0], [], .null),
  (9, 6, .ifCond .ne 5, 3, [8], [], .null),
  (12, 7, .iconst (-1), 1, [], [], .int (-1)),
  (13, 8, .ireturn, 1, [], [], .null),
  (14, 9, .aload_n 0, 1, [0], [], .null),
  (15, 10, .getfield 64, 3, [814, 10, 27, 1], [], .null),
  (18, 11, .iload_n 1, 1, [1], [], .null),
  (19, 12, .iaload, 1, [], [], .null),
  (20, 13, .ifCond .ge 6, 3, [15], [], .null),
  (23, 14, .bipush (-11), 2, [], [], .int (-11)),
  (25, 15, .ireturn, 1, [], [], .null),
  (26, 16, .aload_n 0, 1, [0], [], .null)]
def xc162_1 : List xIns := [(27, 17, .getfield 64, 3, [814, 10, 27, 1], [], .null),
  (30, 18, .iload_n 1, 1, [1], [], .null),
  (31, 19, .iconst (-1), 1, [], [], .int (-1)),
  (32, 20, .iastore, 1, [], [], .null),
  (33, 21, .aload_n 0, 1, [0], [], .null),
  (34, 22, .getfield 67, 3, [815, 10, 28, 1], [], .null),
  (37, 23, .iload_n 1, 1, [1], [], .null),
  (38, 24, .iaload, 1, [], [], .null),
  (39, 0, .ireturn, 1, [], [], .null)]
def xc162 : List (List xIns) := [xc162_0, xc162_1]

/-- StepRingsModel.lacksRow(IIII)I -/
def xc163_0 : List xIns := [(0, 1, .aload_n 0, 1, [0], [], .null),
  (1, 2, .getfield 64, 3, [814, 10, 27, 1], [], .null),
  (4, 3, .iload_n 1, 1, [1], [], .null),
  (5, 4, .iaload, 1, [], [], .null),
  (6, 5, .iload_n 2, 1, [2], [], .null),
  (7, 6, .if_icmp .eq 20, 3, [15], [], .null),
  (10, 7, .aload_n 0, 1, [0], [], .null),
  (11, 8, .getfield 64, 3, [814, 10, 27, 1], [], .null),
  (14, 9, .iload_n 1, 1, [1], [], .null),
  (15, 10, .iaload, 1, [], [], .null),
  (16, 11, .ifCond .ge 8, 3, [13], [], .null),
  (19, 12, .bipush (-11), 2, [], [], .int (-11)),
  (21, 13, .goto 5, 3, [14], [], .null),
  (24, 14, .bipush (-12), 2, [], [], .int (-12)),
  (26, 15, .ireturn, 1, [], [], .null),
  (27, 16, .iload_n 3, 1, [3], [], .null)]
def xc163_1 : List xIns := [(28, 17, .i2l, 1, [], [], .null),
  (29, 18, .lconst 0, 1, [], [], .long 0),
  (30, 19, .aload_n 0, 1, [0], [], .null),
  (31, 20, .getfield 67, 3, [815, 10, 28, 1], [], .null),
  (34, 21, .iload_n 1, 1, [1], [], .null),
  (35, 22, .iaload, 1, [], [], .null),
  (36, 23, .iload 4, 2, [4], [], .null),
  (38, 24, .isub, 1, [], [], .null),
  (39, 25, .i2l, 1, [], [], .null),
  (40, 26, .invokestatic 76, 3, [129, 886, 887, 0, 3, 0], [], .null),
  (43, 27, .ifCond .eq 7, 3, [29], [], .null),
  (46, 28, .iconst 0, 1, [], [], .int (0)),
  (47, 29, .goto 5, 3, [30], [], .null),
  (50, 30, .bipush (-13), 2, [], [], .int (-13)),
  (52, 0, .ireturn, 1, [], [], .null)]
def xc163 : List (List xIns) := [xc163_0, xc163_1]

/-- StepRingsModel.item(IIIJ)I -/
def xc164_0 : List xIns := [(0, 1, .iload_n 1, 1, [1], [], .null),
  (1, 2, .iload_n 2, 1, [2], [], .null),
  (2, 3, .invokestatic 233, 3, [159, 1119, 1120, 0, 2, 0], [], .null),
  (5, 4, .ifCond .ne 5, 3, [6], [], .null),
  (8, 5, .iconst (-1), 1, [], [], .int (-1)),
  (9, 6, .ireturn, 1, [], [], .null),
  (10, 7, .aload_n 0, 1, [0], [], .null),
  (11, 8, .iload_n 1, 1, [1], [], .null),
  (12, 9, .iload_n 2, 1, [2], [], .null),
  (13, 10, .iload_n 3, 1, [3], [], .null),
  (14, 11, .iconst 1, 1, [], [], .int (1)),
  (15, 12, .invokevirtual 236, 3, [164, 1130, 1132, 47, 5, 0, 10], [], .null),
  (18, 13, .istore 6, 2, [6], [], .null),
  (20, 14, .iload 6, 2, [6], [], .null),
  (22, 15, .ifCond .ge 6, 3, [17], [], .null),
  (25, 16, .iload 6, 2, [6], [], .null)]
def xc164_1 : List xIns := [(27, 17, .ireturn, 1, [], [], .null),
  (28, 18, .aload_n 0, 1, [0], [], .null),
  (29, 19, .getfield 70, 3, [816, 10, 29, 1], [], .null),
  (32, 20, .bipush 24, 2, [], [], .int (24)),
  (34, 21, .iload_n 1, 1, [1], [], .null),
  (35, 22, .imul, 1, [], [], .null),
  (36, 23, .iload_n 3, 1, [3], [], .null),
  (37, 24, .iadd, 1, [], [], .null),
  (38, 25, .iload_n 2, 1, [2], [], .null),
  (39, 26, .lload 4, 2, [4], [], .null),
  (41, 27, .invokestatic 240, 3, [160, 1134, 1135, 0, 2, 0], [], .null),
  (44, 28, .lastore, 1, [], [], .null),
  (45, 29, .iconst 1, 1, [], [], .int (1)),
  (46, 0, .ireturn, 1, [], [], .null)]
def xc164 : List (List xIns) := [xc164_0, xc164_1]

/-- StepRingsModel.lies(III)I -/
def xc165_0 : List xIns := [(0, 1, .iload_n 1, 1, [1], [], .null),
  (1, 2, .iload_n 2, 1, [2], [], .null),
  (2, 3, .invokestatic 233, 3, [159, 1119, 1120, 0, 2, 0], [], .null),
  (5, 4, .ifCond .ne 5, 3, [6], [], .null),
  (8, 5, .iconst (-1), 1, [], [], .int (-1)),
  (9, 6, .ireturn, 1, [], [], .null),
  (10, 7, .aload_n 0, 1, [0], [], .null),
  (11, 8, .iload_n 1, 1, [1], [], .null),
  (12, 9, .iload_n 2, 1, [2], [], .null),
  (13, 10, .iload_n 3, 1, [3], [], .null),
  (14, 11, .aload_n 0, 1, [0], [], .null),
  (15, 12, .getfield 80, 3, [790, 10, 3, 0], [], .null),
  (18, 13, .invokevirtual 236, 3, [164, 1130, 1132, 47, 5, 0, 10], [], .null),
  (21, 14, .istore 4, 2, [4], [], .null),
  (23, 15, .iload 4, 2, [4], [], .null),
  (25, 16, .ifCond .ge 6, 3, [18], [], .null)]
def xc165_1 : List xIns := [(28, 17, .iload 4, 2, [4], [], .null),
  (30, 18, .ireturn, 1, [], [], .null),
  (31, 19, .iconst 0, 1, [], [], .int (0)),
  (32, 20, .istore 5, 2, [5], [], .null),
  (34, 21, .iconst 0, 1, [], [], .int (0)),
  (35, 22, .istore 6, 2, [6], [], .null),
  (37, 23, .iload 6, 2, [6], [], .null),
  (39, 24, .aload_n 0, 1, [0], [], .null),
  (40, 25, .getfield 80, 3, [790, 10, 3, 0], [], .null),
  (43, 26, .if_icmp .ge 100, 3, [89], [], .null),
  (46, 27, .aload_n 0, 1, [0], [], .null),
  (47, 28, .getfield 13, 3, [789, 10, 2, 1], [], .null),
  (50, 29, .bipush 7, 2, [], [], .int (7)),
  (52, 30, .iload 6, 2, [6], [], .null),
  (54, 31, .imul, 1, [], [], .null),
  (55, 32, .iconst 4, 1, [], [], .int (4))]
def xc165_2 : List xIns := [(56, 33, .iadd, 1, [], [], .null),
  (57, 34, .iaload, 1, [], [], .null),
  (58, 35, .i2l, 1, [], [], .null),
  (59, 36, .aload_n 0, 1, [0], [], .null),
  (60, 37, .getfield 13, 3, [789, 10, 2, 1], [], .null),
  (63, 38, .bipush 7, 2, [], [], .int (7)),
  (65, 39, .iload 6, 2, [6], [], .null),
  (67, 40, .imul, 1, [], [], .null),
  (68, 41, .bipush 6, 2, [], [], .int (6)),
  (70, 42, .iadd, 1, [], [], .null),
  (71, 43, .iaload, 1, [], [], .null),
  (72, 44, .i2l, 1, [], [], .null),
  (73, 45, .ladd, 1, [], [], .null),
  (74, 46, .aload_n 0, 1, [0], [], .null),
  (75, 47, .getfield 13, 3, [789, 10, 2, 1], [], .null),
  (78, 48, .bipush 7, 2, [], [], .int (7))]
def xc165_3 : List xIns := [(80, 49, .iload 6, 2, [6], [], .null),
  (82, 50, .imul, 1, [], [], .null),
  (83, 51, .iconst 2, 1, [], [], .int (2)),
  (84, 52, .iadd, 1, [], [], .null),
  (85, 53, .iaload, 1, [], [], .null),
  (86, 54, .i2l, 1, [], [], .null),
  (87, 55, .ladd, 1, [], [], .null),
  (88, 56, .aload_n 0, 1, [0], [], .null),
  (89, 57, .getfield 13, 3, [789, 10, 2, 1], [], .null),
  (92, 58, .bipush 7, 2, [], [], .int (7)),
  (94, 59, .iload 6, 2, [6], [], .null),
  (96, 60, .imul, 1, [], [], .null),
  (97, 61, .iconst 5, 1, [], [], .int (5)),
  (98, 62, .iadd, 1, [], [], .null),
  (99, 63, .iaload, 1, [], [], .null),
  (100, 64, .i2l, 1, [], [], .null)]
def xc165_4 : List xIns := [(101, 65, .lsub, 1, [], [], .null),
  (102, 66, .lstore 7, 2, [7], [], .null),
  (104, 67, .iload 5, 2, [5], [], .null),
  (106, 68, .aload_n 0, 1, [0], [], .null),
  (107, 69, .getfield 70, 3, [816, 10, 29, 1], [], .null),
  (110, 70, .bipush 24, 2, [], [], .int (24)),
  (112, 71, .iload_n 1, 1, [1], [], .null),
  (113, 72, .imul, 1, [], [], .null),
  (114, 73, .iload_n 3, 1, [3], [], .null),
  (115, 74, .iadd, 1, [], [], .null),
  (116, 75, .iload 6, 2, [6], [], .null),
  (118, 76, .iadd, 1, [], [], .null),
  (119, 77, .laload, 1, [], [], .null),
  (120, 78, .lload 7, 2, [7], [], .null),
  (122, 79, .lcmp, 1, [], [], .null),
  (123, 80, .ifCond .ge 10, 3, [84], [], .null)]
def xc165_5 : List xIns := [(126, 81, .iconst 1, 1, [], [], .int (1)),
  (127, 82, .iload 6, 2, [6], [], .null),
  (129, 83, .ishl, 1, [], [], .null),
  (130, 84, .goto 4, 3, [85], [], .null),
  (133, 85, .iconst 0, 1, [], [], .int (0)),
  (134, 86, .ior, 1, [], [], .null),
  (135, 87, .istore 5, 2, [5], [], .null),
  (137, 88, .iinc 6 1, 3, [6], [], .int (1)),
  (140, 89, .goto (-103), 3, [22], [], .null),
  (143, 90, .iload 5, 2, [5], [], .null),
  (145, 0, .ireturn, 1, [], [], .null)]
def xc165 : List (List xIns) := [xc165_0, xc165_1, xc165_2, xc165_3, xc165_4, xc165_5]

/-- StepRingsModel.film(III)I -/
def xc166_0 : List xIns := [(0, 1, .iload_n 1, 1, [1], [], .null),
  (1, 2, .iload_n 2, 1, [2], [], .null),
  (2, 3, .invokestatic 233, 3, [159, 1119, 1120, 0, 2, 0], [], .null),
  (5, 4, .ifCond .ne 5, 3, [6], [], .null),
  (8, 5, .iconst (-1), 1, [], [], .int (-1)),
  (9, 6, .ireturn, 1, [], [], .null),
  (10, 7, .aload_n 0, 1, [0], [], .null),
  (11, 8, .iload_n 1, 1, [1], [], .null),
  (12, 9, .iload_n 2, 1, [2], [], .null),
  (13, 10, .iload_n 3, 1, [3], [], .null),
  (14, 11, .aload_n 0, 1, [0], [], .null),
  (15, 12, .getfield 80, 3, [790, 10, 3, 0], [], .null),
  (18, 13, .invokevirtual 236, 3, [164, 1130, 1132, 47, 5, 0, 10], [], .null),
  (21, 14, .istore 4, 2, [4], [], .null),
  (23, 15, .iload 4, 2, [4], [], .null),
  (25, 16, .ifCond .ge 6, 3, [18], [], .null)]
def xc166_1 : List xIns := [(28, 17, .iload 4, 2, [4], [], .null),
  (30, 18, .ireturn, 1, [], [], .null),
  (31, 19, .iconst 0, 1, [], [], .int (0)),
  (32, 20, .istore 5, 2, [5], [], .null),
  (34, 21, .iload 5, 2, [5], [], .null),
  (36, 22, .aload_n 0, 1, [0], [], .null),
  (37, 23, .getfield 80, 3, [790, 10, 3, 0], [], .null),
  (40, 24, .if_icmp .ge 40, 3, [47], [], .null),
  (43, 25, .aload_n 0, 1, [0], [], .null),
  (44, 26, .getfield 70, 3, [816, 10, 29, 1], [], .null),
  (47, 27, .bipush 24, 2, [], [], .int (24)),
  (49, 28, .iload_n 1, 1, [1], [], .null),
  (50, 29, .imul, 1, [], [], .null),
  (51, 30, .iload_n 3, 1, [3], [], .null),
  (52, 31, .iadd, 1, [], [], .null),
  (53, 32, .iload 5, 2, [5], [], .null)]
def xc166_2 : List xIns := [(55, 33, .iadd, 1, [], [], .null),
  (56, 34, .iload_n 2, 1, [2], [], .null),
  (57, 35, .aload_n 0, 1, [0], [], .null),
  (58, 36, .getfield 13, 3, [789, 10, 2, 1], [], .null),
  (61, 37, .bipush 7, 2, [], [], .int (7)),
  (63, 38, .iload 5, 2, [5], [], .null),
  (65, 39, .imul, 1, [], [], .null),
  (66, 40, .iconst 2, 1, [], [], .int (2)),
  (67, 41, .iadd, 1, [], [], .null),
  (68, 42, .iaload, 1, [], [], .null),
  (69, 43, .i2l, 1, [], [], .null),
  (70, 44, .invokestatic 240, 3, [160, 1134, 1135, 0, 2, 0], [], .null),
  (73, 45, .lastore, 1, [], [], .null),
  (74, 46, .iinc 5 1, 3, [5], [], .int (1)),
  (77, 47, .goto (-43), 3, [20], [], .null),
  (80, 48, .aload_n 0, 1, [0], [], .null)]
def xc166_3 : List xIns := [(81, 49, .getfield 80, 3, [790, 10, 3, 0], [], .null),
  (84, 0, .ireturn, 1, [], [], .null)]
def xc166 : List (List xIns) := [xc166_0, xc166_1, xc166_2, xc166_3]

/-- StepRingsModel.addWay(IIIII)V -/
def xc167_0 : List xIns := [(0, 1, .iconst 5, 1, [], [], .int (5)),
  (1, 2, .aload_n 0, 1, [0], [], .null),
  (2, 3, .getfield 88, 3, [788, 10, 1, 0], [], .null),
  (5, 4, .imul, 1, [], [], .null),
  (6, 5, .istore 6, 2, [6], [], .null),
  (8, 6, .aload_n 0, 1, [0], [], .null),
  (9, 7, .getfield 7, 3, [787, 10, 0, 1], [], .null),
  (12, 8, .iload 6, 2, [6], [], .null),
  (14, 9, .iload_n 1, 1, [1], [], .null),
  (15, 10, .iastore, 1, [], [], .null),
  (16, 11, .aload_n 0, 1, [0], [], .null),
  (17, 12, .getfield 7, 3, [787, 10, 0, 1], [], .null),
  (20, 13, .iload 6, 2, [6], [], .null),
  (22, 14, .iconst 1, 1, [], [], .int (1)),
  (23, 15, .iadd, 1, [], [], .null),
  (24, 16, .iload_n 2, 1, [2], [], .null)]
def xc167_1 : List xIns := [(25, 17, .iastore, 1, [], [], .null),
  (26, 18, .aload_n 0, 1, [0], [], .null),
  (27, 19, .getfield 7, 3, [787, 10, 0, 1], [], .null),
  (30, 20, .iload 6, 2, [6], [], .null),
  (32, 21, .iconst 2, 1, [], [], .int (2)),
  (33, 22, .iadd, 1, [], [], .null),
  (34, 23, .iload_n 3, 1, [3], [], .null),
  (35, 24, .iastore, 1, [], [], .null),
  (36, 25, .aload_n 0, 1, [0], [], .null),
  (37, 26, .getfield 7, 3, [787, 10, 0, 1], [], .null),
  (40, 27, .iload 6, 2, [6], [], .null),
  (42, 28, .iconst 3, 1, [], [], .int (3)),
  (43, 29, .iadd, 1, [], [], .null),
  (44, 30, .iload 4, 2, [4], [], .null),
  (46, 31, .iastore, 1, [], [], .null),
  (47, 32, .aload_n 0, 1, [0], [], .null)]
def xc167_2 : List xIns := [(48, 33, .getfield 7, 3, [787, 10, 0, 1], [], .null),
  (51, 34, .iload 6, 2, [6], [], .null),
  (53, 35, .iconst 4, 1, [], [], .int (4)),
  (54, 36, .iadd, 1, [], [], .null),
  (55, 37, .iload 5, 2, [5], [], .null),
  (57, 38, .iastore, 1, [], [], .null),
  (58, 39, .aload_n 0, 1, [0], [], .null),
  (59, 40, .dup, 1, [], [], .null),
  (60, 41, .getfield 88, 3, [788, 10, 1, 0], [], .null),
  (63, 42, .iconst 1, 1, [], [], .int (1)),
  (64, 43, .iadd, 1, [], [], .null),
  (65, 44, .putfield 88, 3, [788, 10, 1, 0], [], .null),
  (68, 0, .return_, 1, [], [], .null)]
def xc167 : List (List xIns) := [xc167_0, xc167_1, xc167_2]

/-- StepRingsModel.way(IIII)I -/
def xc168_0 : List xIns := [(0, 1, .iload_n 1, 1, [1], [], .null),
  (1, 2, .invokestatic 91, 3, [140, 882, 883, 0, 1, 0], [], .null),
  (4, 3, .ifCond .eq 42, 3, [21], [], .null),
  (7, 4, .iload_n 2, 1, [2], [], .null),
  (8, 5, .invokestatic 91, 3, [140, 882, 883, 0, 1, 0], [], .null),
  (11, 6, .ifCond .eq 35, 3, [21], [], .null),
  (14, 7, .iload_n 1, 1, [1], [], .null),
  (15, 8, .iload_n 2, 1, [2], [], .null),
  (16, 9, .if_icmp .eq 30, 3, [21], [], .null),
  (19, 10, .iload_n 3, 1, [3], [], .null),
  (20, 11, .i2l, 1, [], [], .null),
  (21, 12, .lconst 1, 1, [], [], .long 1),
  (22, 13, .ldc2_w 94, 3, [889], [], .long (99)),
  (25, 14, .invokestatic 76, 3, [129, 886, 887, 0, 3, 0], [], .null),
  (28, 15, .ifCond .eq 18, 3, [21], [], .null),
  (31, 16, .iload 4, 2, [4], [], .null)]
def xc168_1 : List xIns := [(33, 17, .i2l, 1, [], [], .null),
  (34, 18, .ldc2_w 96, 3, [890], [], .long (-9)),
  (37, 19, .ldc2_w 98, 3, [891], [], .long (9)),
  (40, 20, .invokestatic 76, 3, [129, 886, 887, 0, 3, 0], [], .null),
  (43, 21, .ifCond .ne 5, 3, [23], [], .null),
  (46, 22, .iconst (-1), 1, [], [], .int (-1)),
  (47, 23, .ireturn, 1, [], [], .null),
  (48, 24, .aload_n 0, 1, [0], [], .null),
  (49, 25, .getfield 88, 3, [788, 10, 1, 0], [], .null),
  (52, 26, .bipush 24, 2, [], [], .int (24)),
  (54, 27, .if_icmp .ne 6, 3, [29], [], .null),
  (57, 28, .bipush (-3), 2, [], [], .int (-3)),
  (59, 29, .ireturn, 1, [], [], .null),
  (60, 30, .aload_n 0, 1, [0], [], .null),
  (61, 31, .iload_n 1, 1, [1], [], .null),
  (62, 32, .iload_n 2, 1, [2], [], .null)]
def xc168_2 : List xIns := [(63, 33, .iload_n 3, 1, [3], [], .null),
  (64, 34, .iload 4, 2, [4], [], .null),
  (66, 35, .iconst 0, 1, [], [], .int (0)),
  (67, 36, .invokevirtual 100, 3, [168, 892, 894, 25, 6, 0, 10], [], .null),
  (70, 37, .aload_n 0, 1, [0], [], .null),
  (71, 38, .getfield 88, 3, [788, 10, 1, 0], [], .null),
  (74, 39, .iconst 1, 1, [], [], .int (1)),
  (75, 40, .isub, 1, [], [], .null),
  (76, 0, .ireturn, 1, [], [], .null)]
def xc168 : List (List xIns) := [xc168_0, xc168_1, xc168_2]

/-- StepRingsModel.gate(IZ)I -/
def xc169_0 : List xIns := [(0, 1, .iload_n 1, 1, [1], [], .null),
  (1, 2, .i2l, 1, [], [], .null),
  (2, 3, .lconst 0, 1, [], [], .long 0),
  (3, 4, .aload_n 0, 1, [0], [], .null),
  (4, 5, .getfield 88, 3, [788, 10, 1, 0], [], .null),
  (7, 6, .iconst 1, 1, [], [], .int (1)),
  (8, 7, .isub, 1, [], [], .null),
  (9, 8, .i2l, 1, [], [], .null),
  (10, 9, .invokestatic 76, 3, [129, 886, 887, 0, 3, 0], [], .null),
  (13, 10, .ifCond .ne 5, 3, [12], [], .null),
  (16, 11, .iconst (-1), 1, [], [], .int (-1)),
  (17, 12, .ireturn, 1, [], [], .null),
  (18, 13, .aload_n 0, 1, [0], [], .null),
  (19, 14, .getfield 7, 3, [787, 10, 0, 1], [], .null),
  (22, 15, .iconst 5, 1, [], [], .int (5)),
  (23, 16, .iload_n 1, 1, [1], [], .null)]
def xc169_1 : List xIns := [(24, 17, .imul, 1, [], [], .null),
  (25, 18, .iconst 4, 1, [], [], .int (4)),
  (26, 19, .iadd, 1, [], [], .null),
  (27, 20, .iaload, 1, [], [], .null),
  (28, 21, .istore_n 3, 1, [3], [], .null),
  (29, 22, .aload_n 0, 1, [0], [], .null),
  (30, 23, .getfield 7, 3, [787, 10, 0, 1], [], .null),
  (33, 24, .iconst 5, 1, [], [], .int (5)),
  (34, 25, .iload_n 1, 1, [1], [], .null),
  (35, 26, .imul, 1, [], [], .null),
  (36, 27, .iconst 4, 1, [], [], .int (4)),
  (37, 28, .iadd, 1, [], [], .null),
  (38, 29, .iload_n 2, 1, [2], [], .null),
  (39, 30, .ifCond .eq 7, 3, [32], [], .null),
  (42, 31, .iconst 1, 1, [], [], .int (1)),
  (43, 32, .goto 4, 3, [33], [], .null)]
def xc169_2 : List xIns := [(46, 33, .iconst 0, 1, [], [], .int (0)),
  (47, 34, .iastore, 1, [], [], .null),
  (48, 35, .iload_n 3, 1, [3], [], .null),
  (49, 0, .ireturn, 1, [], [], .null)]
def xc169 : List (List xIns) := [xc169_0, xc169_1, xc169_2]

/-- StepRingsModel.told(II)I -/
def xc170_0 : List xIns := [(0, 1, .iload_n 1, 1, [1], [], .null),
  (1, 2, .i2l, 1, [], [], .null),
  (2, 3, .lconst 0, 1, [], [], .long 0),
  (3, 4, .aload_n 0, 1, [0], [], .null),
  (4, 5, .getfield 88, 3, [788, 10, 1, 0], [], .null),
  (7, 6, .iconst 1, 1, [], [], .int (1)),
  (8, 7, .isub, 1, [], [], .null),
  (9, 8, .i2l, 1, [], [], .null),
  (10, 9, .invokestatic 76, 3, [129, 886, 887, 0, 3, 0], [], .null),
  (13, 10, .ifCond .eq 28, 3, [25], [], .null),
  (16, 11, .iload_n 2, 1, [2], [], .null),
  (17, 12, .i2l, 1, [], [], .null),
  (18, 13, .lconst 0, 1, [], [], .long 0),
  (19, 14, .ldc2_w 104, 3, [904], [], .long (4)),
  (22, 15, .invokestatic 76, 3, [129, 886, 887, 0, 3, 0], [], .null),
  (25, 16, .ifCond .eq 16, 3, [25], [], .null)]
def xc170_1 : List xIns := [(28, 17, .aload_n 0, 1, [0], [], .null),
  (29, 18, .getfield 7, 3, [787, 10, 0, 1], [], .null),
  (32, 19, .iconst 5, 1, [], [], .int (5)),
  (33, 20, .iload_n 1, 1, [1], [], .null),
  (34, 21, .imul, 1, [], [], .null),
  (35, 22, .iload_n 2, 1, [2], [], .null),
  (36, 23, .iadd, 1, [], [], .null),
  (37, 24, .iaload, 1, [], [], .null),
  (38, 25, .goto 5, 3, [26], [], .null),
  (41, 26, .ldc 106, 2, [905], [], .int (-100001)),
  (43, 0, .ireturn, 1, [], [], .null)]
def xc170 : List (List xIns) := [xc170_0, xc170_1]

/-- java/util/Arrays.fill([JJ)V -/
def xc171_0 : List xIns := [(0, 1, .iconst 0, 1, [], [], .int (0)),
  (1, 2, .istore_n 3, 1, [3], [], .null),
  (2, 3, .aload_n 0, 1, [0], [], .null),
  (3, 4, .arraylength, 1, [], [], .null),
  (4, 5, .istore 4, 2, [4], [], .null),
  (6, 6, .iload_n 3, 1, [3], [], .null),
  (7, 7, .iload 4, 2, [4], [], .null),
  (9, 8, .if_icmp .ge 13, 3, [14], [], .null),
  (12, 9, .aload_n 0, 1, [0], [], .null),
  (13, 10, .iload_n 3, 1, [3], [], .null),
  (14, 11, .lload_n 1, 1, [1], [], .null),
  (15, 12, .lastore, 1, [], [], .null),
  (16, 13, .iinc 3 1, 3, [3], [], .int (1)),
  (19, 14, .goto (-13), 3, [5], [], .null),
  (22, 0, .return_, 1, [], [], .null)]
def xc171 : List (List xIns) := [xc171_0]

/-- java/util/Arrays.fill([II)V -/
def xc172_0 : List xIns := [(0, 1, .iconst 0, 1, [], [], .int (0)),
  (1, 2, .istore_n 2, 1, [2], [], .null),
  (2, 3, .aload_n 0, 1, [0], [], .null),
  (3, 4, .arraylength, 1, [], [], .null),
  (4, 5, .istore_n 3, 1, [3], [], .null),
  (5, 6, .iload_n 2, 1, [2], [], .null),
  (6, 7, .iload_n 3, 1, [3], [], .null),
  (7, 8, .if_icmp .ge 13, 3, [14], [], .null),
  (10, 9, .aload_n 0, 1, [0], [], .null),
  (11, 10, .iload_n 2, 1, [2], [], .null),
  (12, 11, .iload_n 1, 1, [1], [], .null),
  (13, 12, .iastore, 1, [], [], .null),
  (14, 13, .iinc 2 1, 3, [2], [], .int (1)),
  (17, 14, .goto (-12), 3, [5], [], .null),
  (20, 0, .return_, 1, [], [], .null)]
def xc172 : List (List xIns) := [xc172_0]
def xcodes : List (List (List (List xIns))) := [[xc0, xc1, xc2, xc3, xc4, xc5, xc6, xc7, xc8, xc9, xc10, xc11, xc12, xc13, xc14, xc15],
  [xc16, xc17, xc18, xc19, xc20, xc21, xc22, xc23, xc24, xc25, xc26, xc27, xc28, xc29, xc30, xc31],
  [xc32, xc33, xc34, xc35, xc36, xc37, xc38, xc39, xc40, xc41, xc42, xc43, xc44, xc45, xc46, xc47],
  [xc48, xc49, xc50, xc51, xc52, xc53, xc54, xc55, xc56, xc57, xc58, xc59, xc60, xc61, xc62, xc63],
  [xc64, xc65, xc66, xc67, xc68, xc69, xc70, xc71, xc72, xc73, xc74, xc75, xc76, xc77, xc78, xc79],
  [xc80, xc81, xc82, xc83, xc84, xc85, xc86, xc87, xc88, xc89, xc90, xc91, xc92, xc93, xc94, xc95],
  [xc96, xc97, xc98, xc99, xc100, xc101, xc102, xc103, xc104, xc105, xc106, xc107, xc108, xc109, xc110, xc111],
  [xc112, xc113, xc114, xc115, xc116, xc117, xc118, xc119, xc120, xc121, xc122, xc123, xc124, xc125, xc126, xc127],
  [xc128, xc129, xc130, xc131, xc132, xc133, xc134, xc135, xc136, xc137, xc138, xc139, xc140, xc141, xc142, xc143],
  [xc144, xc145, xc146, xc147, xc148, xc149, xc150, xc151, xc152, xc153, xc154, xc155, xc156, xc157, xc158, xc159],
  [xc160, xc161, xc162, xc163, xc164, xc165, xc166, xc167, xc168, xc169, xc170, xc171, xc172]]
def xmaxL : List (List Nat) := [[4, 2, 4, 7, 6, 5, 2, 1, 5, 4, 4, 5, 5, 4, 3, 3],
  [2, 1, 2, 8, 6, 7, 1, 3, 4, 4, 1, 2, 3, 1, 2, 5],
  [1, 4, 3, 5, 1, 1, 1, 5, 6, 3, 7, 8, 4, 5, 5, 8],
  [5, 1, 2, 7, 3, 7, 2, 3, 7, 8, 4, 1, 2, 3, 4, 3],
  [3, 2, 4, 5, 4, 4, 3, 2, 2, 8, 2, 2, 2, 4, 5, 7],
  [3, 1, 6, 1, 7, 4, 2, 7, 6, 3, 1, 1, 1, 4, 1, 1],
  [2, 3, 3, 10, 5, 3, 4, 3, 4, 4, 4, 5, 4, 3, 8, 4],
  [8, 4, 5, 4, 3, 2, 5, 5, 1, 2, 5, 4, 3, 5, 3, 3],
  [6, 9, 5, 4, 5, 4, 4, 4, 3, 5, 4, 1, 8, 2, 2, 3],
  [9, 7, 7, 7, 3, 3, 2, 8, 6, 9, 4, 5, 2, 2, 2, 3],
  [5, 3, 2, 5, 7, 9, 6, 7, 5, 4, 3, 5, 4]]
def xfr : List (List Nat) := [[7, 1, 2, 1, 0, 0, 1, 1, 0, 1, 2, 3, 1, 0, 0, 0],
  [1, 0, 3, 4, 2, 0, 1, 1, 0, 3, 0, 1, 1, 2, 1, 2],
  [2, 1, 0, 1, 0, 5, 5, 4, 3, 1, 4, 4, 5, 1, 2, 1],
  [0, 1, 1, 0, 0, 1, 1, 1, 5, 4, 0, 2, 2, 1, 2, 6],
  [6, 1, 6, 6, 3, 3, 3, 3, 4, 5, 2, 0, 6, 5, 6, 4],
  [3, 3, 2, 3, 3, 2, 2, 3, 3, 0, 1, 1, 1, 2, 1, 0],
  [1, 2, 4, 5, 2, 2, 2, 2, 2, 4, 2, 0, 2, 2, 0, 2],
  [1, 2, 3, 1, 1, 1, 0, 1, 0, 2, 1, 3, 3, 4, 5, 5],
  [0, 2, 1, 3, 3, 0, 3, 3, 3, 1, 2, 1, 3, 2, 0, 0],
  [3, 4, 4, 0, 0, 0, 1, 3, 3, 0, 2, 0, 1, 1, 1, 0],
  [2, 2, 1, 1, 2, 2, 2, 0, 2, 1, 1, 0, 0]]
def xlo : List (List Nat) := [[173, 20, 51, 25, 0, 0, 26, 20, 0, 21, 44, 67, 21, 0, 0, 0],
  [20, 0, 72, 93, 47, 0, 20, 24, 0, 65, 0, 20, 20, 41, 20, 41],
  [40, 22, 0, 22, 0, 114, 114, 90, 65, 20, 93, 93, 119, 21, 51, 24],
  [0, 20, 22, 0, 0, 21, 26, 20, 120, 93, 0, 40, 47, 22, 46, 134],
  [134, 22, 149, 149, 65, 67, 65, 60, 91, 115, 42, 0, 142, 120, 146, 93],
  [74, 68, 42, 68, 66, 46, 42, 66, 66, 0, 22, 22, 22, 43, 22, 0],
  [22, 43, 93, 120, 42, 43, 42, 43, 47, 93, 42, 0, 45, 46, 0, 46],
  [27, 54, 77, 25, 25, 20, 0, 25, 0, 45, 25, 66, 66, 89, 113, 113],
  [0, 51, 27, 79, 79, 0, 68, 68, 68, 23, 54, 25, 77, 45, 0, 0],
  [77, 105, 105, 0, 0, 0, 25, 77, 77, 0, 45, 0, 24, 24, 25, 0],
  [46, 46, 25, 25, 49, 49, 49, 0, 45, 25, 25, 0, 0]]
def xret : List (List (Option FieldType)) := [[some .boolean, none, some .int, some .boolean, some .int, none, none, none, some .int, none, none, some .int, none, some .boolean, some .int, some .int],
  [none, none, (some (.array .int)), some .int, none, none, none, none, none, some .boolean, some .int, some .boolean, some .int, some .int, some .int, some .int],
  [none, some .boolean, some .int, some .int, none, some .boolean, some .boolean, some .boolean, some .boolean, none, some .int, some .int, some .int, none, some .int, some .int],
  [some .int, none, some .boolean, some .int, some .int, some .int, none, none, some .int, some .int, some .boolean, none, none, some .int, some .int, some .int],
  [some .int, some .int, some .int, some .int, some .int, some .int, some .int, none, some .int, some .int, some .int, some .int, some .int, some .int, some .int, some .int],
  [some .int, some .int, some .int, some .int, some .int, some .int, some .int, some .int, some .int, some .boolean, some .boolean, some .boolean, some .boolean, some .int, some .boolean, some .int],
  [some .boolean, some .boolean, some .int, some .int, some .int, some .int, some .int, some .int, some .int, some .int, some .int, none, some .int, some .int, some .int, some .int],
  [none, some .int, some .int, some .int, some .int, none, some .int, some .int, some .int, some .int, some .int, some .boolean, some .boolean, some .boolean, some .int, some .int],
  [some .boolean, none, some .boolean, some .int, some .int, none, some .int, some .int, some .int, some .int, none, some .boolean, some .int, some .int, some .int, some .int],
  [none, some .int, some .int, some .int, some .int, some .boolean, some .boolean, some .int, some .int, some .boolean, some .int, some .int, some .int, some .int, some .boolean, some .long],
  [some .int, some .boolean, some .int, some .int, some .int, some .int, some .int, none, some .int, some .int, some .int, none, none]]
def xY : List (List MethodName) := [[⟨"StepRingsLaw", "law", "([I)Z"⟩, ⟨"StepRings$Cut", "<init>", "(LStepRings$Ways;)V"⟩, ⟨"StepRings$Cut", "fewest", "(II)I"⟩, ⟨"StepRings$Cut", "findRow", "(II)Z"⟩, ⟨"StepRings$Cut", "reach", "(IIII)I"⟩, ⟨"StepRings$Cut", "takeRow", "(I)V"⟩, ⟨"StepRings$People", "copy", "(LStepRings$People;)V"⟩, ⟨"StepRings$People", "<init>", "()V"⟩, ⟨"StepRings$People", "add", "(III)I"⟩, ⟨"StepRings$People", "hand", "(III)V"⟩, ⟨"StepRings$People", "payBack", "(III)V"⟩, ⟨"StepRings$People", "settle", "()I"⟩, ⟨"StepRings$People", "renew", "(I[I)V"⟩, ⟨"StepRings$People", "isLiar", "(IJ)Z"⟩, ⟨"StepRings$People", "allRings", "()I"⟩, ⟨"StepRings$People", "allOwed", "()I"⟩],
  [⟨"StepRings$Roads", "<init>", "(LStepRings$Ways;)V"⟩, ⟨"StepRings$Roads", "forget", "()V"⟩, ⟨"StepRings$Roads", "costsOf", "(I)[I"⟩, ⟨"StepRings$Roads", "wayOn", "(III)I"⟩, ⟨"StepRings$Roads", "layWays", "(I)V"⟩, ⟨"StepRings$Roads", "joinWays", "([I)V"⟩, ⟨"StepRings$Sheet", "<init>", "()V"⟩, ⟨"StepRings$Sheet", "fresh", "(II)V"⟩, ⟨"StepRings$Sheet", "put", "(IJ)V"⟩, ⟨"StepRings$Tape", "readPerson", "()Z"⟩, ⟨"StepRings$Tape", "look", "()I"⟩, ⟨"StepRings$Tape", "take", "(C)Z"⟩, ⟨"StepRings$Tape", "readPlace", "(I)I"⟩, ⟨"StepRings$Tape", "readKind", "()I"⟩, ⟨"StepRings$Tape", "readDigit", "()I"⟩, ⟨"StepRings$Tape", "readNumber", "(II)I"⟩],
  [⟨"StepRings$Tape", "<init>", "()V"⟩, ⟨"StepRings$Tape", "canHold", "(JI)Z"⟩, ⟨"StepRings$Tape", "byteOf", "(JI)I"⟩, ⟨"StepRings$Tape", "append", "(JI)I"⟩, ⟨"StepRings$Tape", "empty", "()V"⟩, ⟨"StepRings$Tape", "readTown", "()Z"⟩, ⟨"StepRings$Tape", "readPeople", "()Z"⟩, ⟨"StepRings$Tape", "readRow", "(ZI)Z"⟩, ⟨"StepRings$Tape", "readWay", "()Z"⟩, ⟨"StepRings$Tours", "<init>", "(LStepRings$World;LStepRings$Roads;)V"⟩, ⟨"StepRings$Tours", "weigh", "(I)I"⟩, ⟨"StepRings$Tours", "errandAt", "(II)I"⟩, ⟨"StepRings$Tours", "leastParted", "(I)I"⟩, ⟨"StepRings$Tours", "shareWith", "(I)V"⟩, ⟨"StepRings$Tours", "through", "(I[III)I"⟩, ⟨"StepRings$Tours", "firstOf", "(I[II)I"⟩],
  [⟨"StepRings$Tours", "by", "(II[II)I"⟩, ⟨"StepRings$Ways", "<init>", "()V"⟩, ⟨"StepRings$Ways", "has", "(I)Z"⟩, ⟨"StepRings$Ways", "add", "(IIIII)I"⟩, ⟨"StepRings$Ways", "otherEnd", "(II)I"⟩, ⟨"StepRings$Ways", "costOf", "(IIZ)I"⟩, ⟨"StepRings$Ways", "copy", "(LStepRings$Ways;)V"⟩, ⟨"StepRings$Wells", "<init>", "(LStepRings$People;LStepRings$Roads;)V"⟩, ⟨"StepRings$Wells", "dig", "(II)I"⟩, ⟨"StepRings$Wells", "costOfRow", "(II)I"⟩, ⟨"StepRings$Wells", "nextRow", "(I)Z"⟩, ⟨"StepRings$World", "<init>", "()V"⟩, ⟨"StepRings$World", "copy", "(LStepRings$World;)V"⟩, ⟨"StepRings", "rule", "(I)I"⟩, ⟨"StepRings", "type", "(JI)I"⟩, ⟨"StepRings", "town", "()I"⟩],
  [⟨"StepRings", "people", "()I"⟩, ⟨"StepRings", "count", "(I)I"⟩, ⟨"StepRings", "go", "(II)I"⟩, ⟨"StepRings", "carry", "(III)I"⟩, ⟨"StepRings", "lend", "(III)I"⟩, ⟨"StepRings", "pay", "(III)I"⟩, ⟨"StepRings", "owes", "(II)I"⟩, ⟨"StepRings", "<init>", "()V"⟩, ⟨"StepRings", "month", "()I"⟩, ⟨"StepRings", "meet", "(III)I"⟩, ⟨"StepRings", "errand", "(I)I"⟩, ⟨"StepRings", "rest", "()I"⟩, ⟨"StepRings", "parted", "(I)I"⟩, ⟨"StepRings", "tour", "(II)I"⟩, ⟨"StepRings", "wells", "(III)I"⟩, ⟨"StepRings", "hold", "(III)I"⟩],
  [⟨"StepRings", "stops", "(II)I"⟩, ⟨"StepRings", "image", "()I"⟩, ⟨"StepRings", "way", "(IIII)I"⟩, ⟨"StepRings", "restore", "()I"⟩, ⟨"StepRings", "lies", "(III)I"⟩, ⟨"StepRings", "sheet", "(III)I"⟩, ⟨"StepRings", "drop", "(I)I"⟩, ⟨"StepRings", "item", "(IIIJ)I"⟩, ⟨"StepRings", "film", "(III)I"⟩, ⟨"StepRings", "isWithin", "(III)Z"⟩, ⟨"StepRings", "isPlace", "(I)Z"⟩, ⟨"StepRings", "isKind", "(I)Z"⟩, ⟨"StepRings", "isSheet", "(I)Z"⟩, ⟨"StepRings", "gate", "(IZ)I"⟩, ⟨"StepRings", "isLane", "(I)Z"⟩, ⟨"StepRings", "orNone", "(I)I"⟩],
  [⟨"StepRings", "isPerson", "(I)Z"⟩, ⟨"StepRings", "areTwo", "(II)Z"⟩, ⟨"StepRings", "farFromNow", "(II)I"⟩, ⟨"StepRings", "walk", "(III)I"⟩, ⟨"StepRings", "refusedRow", "(IIII)I"⟩, ⟨"StepRings", "told", "(II)I"⟩, ⟨"StepRings", "person", "(III)I"⟩, ⟨"StepRings", "of", "(II)I"⟩, ⟨"StepRings", "costs", "(III)I"⟩, ⟨"StepRings", "far", "(III)I"⟩, ⟨"StepRings", "given", "(II)I"⟩, ⟨"StepRingsModel", "addOne", "(III)V"⟩, ⟨"StepRingsModel", "person", "(III)I"⟩, ⟨"StepRingsModel", "of", "(II)I"⟩, ⟨"StepRingsModel", "costOf", "(III)I"⟩, ⟨"StepRingsModel", "costs", "(III)I"⟩],
  [⟨"StepRingsModel", "findFar", "(II)V"⟩, ⟨"StepRingsModel", "farOf", "(III)I"⟩, ⟨"StepRingsModel", "far", "(III)I"⟩, ⟨"StepRingsModel", "given", "(II)I"⟩, ⟨"StepRingsModel", "rule", "(I)I"⟩, ⟨"StepRingsModel", "<init>", "()V"⟩, ⟨"StepRingsModel", "count", "(I)I"⟩, ⟨"StepRingsModel", "type", "(JI)I"⟩, ⟨"StepRingsModel", "nextByte", "()I"⟩, ⟨"StepRingsModel", "readPlace", "()I"⟩, ⟨"StepRingsModel", "readNumber", "(II)I"⟩, ⟨"StepRingsModel", "readWay", "(I)Z"⟩, ⟨"StepRingsModel", "readOne", "(I)Z"⟩, ⟨"StepRingsModel", "readAll", "(Z)Z"⟩, ⟨"StepRingsModel", "town", "()I"⟩, ⟨"StepRingsModel", "people", "()I"⟩],
  [⟨"StepRingsModel", "in", "(JJJ)Z"⟩, ⟨"StepRingsModel", "goBy", "(III)V"⟩, ⟨"StepRingsModel", "isNext", "(III)Z"⟩, ⟨"StepRingsModel", "go", "(II)I"⟩, ⟨"StepRingsModel", "carry", "(III)I"⟩, ⟨"StepRingsModel", "send", "(III)V"⟩, ⟨"StepRingsModel", "lend", "(III)I"⟩, ⟨"StepRingsModel", "pay", "(III)I"⟩, ⟨"StepRingsModel", "owes", "(II)I"⟩, ⟨"StepRingsModel", "month", "()I"⟩, ⟨"StepRingsModel", "findTable", "(I)V"⟩, ⟨"StepRingsModel", "isPlace", "(I)Z"⟩, ⟨"StepRingsModel", "meet", "(III)I"⟩, ⟨"StepRingsModel", "errand", "(I)I"⟩, ⟨"StepRingsModel", "rest", "()I"⟩, ⟨"StepRingsModel", "placeOf", "(II)I"⟩],
  [⟨"StepRingsModel", "findTours", "(I)V"⟩, ⟨"StepRingsModel", "parted", "(I)I"⟩, ⟨"StepRingsModel", "tour", "(II)I"⟩, ⟨"StepRingsModel", "wellsOf", "(II)I"⟩, ⟨"StepRingsModel", "ones", "(I)I"⟩, ⟨"StepRingsModel", "isAhead", "(II)Z"⟩, ⟨"StepRingsModel", "isOne", "(I)Z"⟩, ⟨"StepRingsModel", "wells", "(III)I"⟩, ⟨"StepRingsModel", "hold", "(III)I"⟩, ⟨"StepRingsModel", "oneMore", "(II)Z"⟩, ⟨"StepRingsModel", "stops", "(II)I"⟩, ⟨"StepRingsModel", "carried", "(IIZ)I"⟩, ⟨"StepRingsModel", "image", "()I"⟩, ⟨"StepRingsModel", "restore", "()I"⟩, ⟨"StepRingsModel", "isSheet", "(II)Z"⟩, ⟨"StepRingsModel", "asLane", "(IJ)J"⟩],
  [⟨"StepRingsModel", "sheet", "(III)I"⟩, ⟨"StepRingsModel", "areTwo", "(II)Z"⟩, ⟨"StepRingsModel", "drop", "(I)I"⟩, ⟨"StepRingsModel", "lacksRow", "(IIII)I"⟩, ⟨"StepRingsModel", "item", "(IIIJ)I"⟩, ⟨"StepRingsModel", "lies", "(III)I"⟩, ⟨"StepRingsModel", "film", "(III)I"⟩, ⟨"StepRingsModel", "addWay", "(IIIII)V"⟩, ⟨"StepRingsModel", "way", "(IIII)I"⟩, ⟨"StepRingsModel", "gate", "(IZ)I"⟩, ⟨"StepRingsModel", "told", "(II)I"⟩, ⟨"java/util/Arrays", "fill", "([JJ)V"⟩, ⟨"java/util/Arrays", "fill", "([II)V"⟩]]
def xcc : List (List ByteArray) := [[code, prog_2_method_1_code, prog_2_method_2_code, prog_2_method_3_code, prog_2_method_4_code, prog_2_method_5_code, prog_3_method_10_code, prog_3_method_1_code, prog_3_method_2_code, prog_3_method_3_code, prog_3_method_4_code, prog_3_method_5_code, prog_3_method_6_code, prog_3_method_7_code, prog_3_method_8_code, prog_3_method_9_code],
  [prog_4_method_1_code, prog_4_method_2_code, prog_4_method_3_code, prog_4_method_4_code, prog_4_method_5_code, prog_4_method_6_code, prog_5_method_1_code, prog_5_method_2_code, prog_5_method_3_code, prog_6_method_10_code, prog_6_method_11_code, prog_6_method_12_code, prog_6_method_13_code, prog_6_method_14_code, prog_6_method_15_code, prog_6_method_16_code],
  [prog_6_method_1_code, prog_6_method_2_code, prog_6_method_3_code, prog_6_method_4_code, prog_6_method_5_code, prog_6_method_6_code, prog_6_method_7_code, prog_6_method_8_code, prog_6_method_9_code, prog_7_method_1_code, prog_7_method_2_code, prog_7_method_3_code, prog_7_method_4_code, prog_7_method_5_code, prog_7_method_6_code, prog_7_method_7_code],
  [prog_7_method_8_code, prog_8_method_1_code, prog_8_method_2_code, prog_8_method_3_code, prog_8_method_4_code, prog_8_method_5_code, prog_8_method_6_code, prog_9_method_1_code, prog_9_method_2_code, prog_9_method_3_code, prog_9_method_4_code, prog_10_method_1_code, prog_10_method_2_code, prog_1_method_10_code, prog_1_method_11_code, prog_1_method_12_code],
  [prog_1_method_13_code, prog_1_method_14_code, prog_1_method_15_code, prog_1_method_16_code, prog_1_method_17_code, prog_1_method_18_code, prog_1_method_19_code, prog_1_method_1_code, prog_1_method_20_code, prog_1_method_21_code, prog_1_method_22_code, prog_1_method_23_code, prog_1_method_24_code, prog_1_method_25_code, prog_1_method_26_code, prog_1_method_27_code],
  [prog_1_method_28_code, prog_1_method_29_code, prog_1_method_2_code, prog_1_method_30_code, prog_1_method_31_code, prog_1_method_32_code, prog_1_method_33_code, prog_1_method_34_code, prog_1_method_35_code, prog_1_method_36_code, prog_1_method_37_code, prog_1_method_38_code, prog_1_method_39_code, prog_1_method_3_code, prog_1_method_40_code, prog_1_method_41_code],
  [prog_1_method_42_code, prog_1_method_43_code, prog_1_method_44_code, prog_1_method_45_code, prog_1_method_46_code, prog_1_method_4_code, prog_1_method_5_code, prog_1_method_6_code, prog_1_method_7_code, prog_1_method_8_code, prog_1_method_9_code, prog_12_method_10_code, prog_12_method_11_code, prog_12_method_12_code, prog_12_method_13_code, prog_12_method_14_code],
  [prog_12_method_15_code, prog_12_method_16_code, prog_12_method_17_code, prog_12_method_18_code, prog_12_method_19_code, prog_12_method_1_code, prog_12_method_20_code, prog_12_method_21_code, prog_12_method_22_code, prog_12_method_23_code, prog_12_method_24_code, prog_12_method_25_code, prog_12_method_26_code, prog_12_method_27_code, prog_12_method_28_code, prog_12_method_29_code],
  [prog_12_method_2_code, prog_12_method_30_code, prog_12_method_31_code, prog_12_method_32_code, prog_12_method_33_code, prog_12_method_34_code, prog_12_method_35_code, prog_12_method_36_code, prog_12_method_37_code, prog_12_method_38_code, prog_12_method_39_code, prog_12_method_3_code, prog_12_method_40_code, prog_12_method_41_code, prog_12_method_42_code, prog_12_method_43_code],
  [prog_12_method_44_code, prog_12_method_45_code, prog_12_method_46_code, prog_12_method_47_code, prog_12_method_48_code, prog_12_method_49_code, prog_12_method_4_code, prog_12_method_50_code, prog_12_method_51_code, prog_12_method_52_code, prog_12_method_53_code, prog_12_method_54_code, prog_12_method_55_code, prog_12_method_56_code, prog_12_method_57_code, prog_12_method_58_code],
  [prog_12_method_59_code, prog_12_method_5_code, prog_12_method_60_code, prog_12_method_61_code, prog_12_method_62_code, prog_12_method_63_code, prog_12_method_64_code, prog_12_method_6_code, prog_12_method_7_code, prog_12_method_8_code, prog_12_method_9_code, prog_15_method_101_code, prog_15_method_103_code]]
def xnp : List (List Nat) := [[1, 1, 2, 2, 4, 1, 1, 0, 3, 3, 3, 0, 2, 2, 0, 0],
  [1, 0, 1, 3, 1, 1, 0, 2, 2, 0, 0, 1, 1, 0, 0, 2],
  [0, 2, 2, 2, 0, 0, 0, 2, 0, 2, 1, 2, 1, 1, 4, 3],
  [4, 0, 1, 5, 2, 3, 1, 2, 2, 2, 1, 0, 1, 1, 2, 0],
  [0, 1, 2, 3, 3, 3, 2, 0, 0, 3, 1, 0, 1, 2, 3, 3],
  [2, 0, 4, 0, 3, 3, 1, 4, 3, 3, 1, 1, 1, 2, 1, 1],
  [1, 2, 2, 3, 4, 2, 3, 2, 3, 3, 2, 3, 3, 2, 3, 3],
  [2, 3, 3, 2, 1, 0, 1, 2, 0, 0, 2, 1, 1, 1, 0, 0],
  [3, 3, 3, 2, 3, 3, 3, 3, 2, 0, 1, 1, 3, 1, 0, 2],
  [1, 1, 2, 2, 1, 2, 1, 3, 3, 2, 2, 3, 0, 0, 2, 2],
  [3, 2, 1, 4, 4, 3, 3, 5, 4, 2, 2, 2, 2]]
def xcw : List (List Nat) := [[0, 261, 707, 712, 716, 720, 541, 120, 400, 594, 604, 617, 622, 753, 550, 554],
  [201, 374, 427, 570, 431, 443, 309, 761, 776, 512, 494, 498, 490, 516, 502, 506],
  [277, 462, 465, 470, 522, 478, 537, 482, 486, 219, 648, 675, 642, 666, 653, 657],
  [661, 81, 382, 370, 575, 416, 526, 241, 683, 688, 695, 75, 728, 455, 459, 474],
  [533, 546, 558, 582, 590, 600, 609, 67, 613, 626, 630, 634, 638, 670, 679, 699],
  [703, 724, 360, 735, 739, 757, 768, 772, 780, 366, 363, 395, 746, 378, 749, 446],
  [408, 586, 562, 566, 743, 387, 392, 404, 412, 423, 451, 915, 909, 919, 931, 927],
  [943, 939, 935, 948, 953, 785, 958, 962, 986, 982, 990, 978, 997, 974, 970, 1001],
  [888, 1009, 1013, 1005, 1018, 1030, 1026, 1034, 1038, 1042, 1066, 884, 1046, 1050, 1054, 1070],
  [1062, 1058, 1074, 1087, 1083, 1090, 923, 1080, 1094, 1102, 1098, 1110, 1106, 1114, 1121, 1136],
  [1118, 1022, 1125, 1133, 1129, 1140, 1144, 895, 881, 899, 903, 764, 435]]
def xiw : List (List Nat) := [[48, 56, 56, 56, 56, 56, 52, 52, 52, 52, 52, 52, 52, 52, 52, 52],
  [53, 53, 53, 53, 53, 53, 58, 58, 58, 57, 57, 57, 57, 57, 57, 57],
  [57, 57, 57, 57, 57, 57, 57, 57, 57, 54, 54, 54, 54, 54, 54, 54],
  [54, 51, 51, 51, 51, 51, 51, 55, 55, 55, 55, 50, 50, 49, 49, 49],
  [49, 49, 49, 49, 49, 49, 49, 49, 49, 49, 49, 49, 49, 49, 49, 49],
  [49, 49, 49, 49, 49, 49, 49, 49, 49, 49, 49, 49, 49, 49, 49, 49],
  [49, 49, 49, 49, 49, 49, 49, 49, 49, 49, 49, 59, 59, 59, 59, 59],
  [59, 59, 59, 59, 59, 59, 59, 59, 59, 59, 59, 59, 59, 59, 59, 59],
  [59, 59, 59, 59, 59, 59, 59, 59, 59, 59, 59, 59, 59, 59, 59, 59],
  [59, 59, 59, 59, 59, 59, 59, 59, 59, 59, 59, 59, 59, 59, 59, 59],
  [59, 59, 59, 59, 59, 59, 59, 59, 59, 59, 59, 61, 61]]
end
section
-- ===== a small machine over pictures: cells by numbers, whole numbers by functions =====
abbrev xSh : Type := List (Nat × Nat)
abbrev xRf : Type := List (List (Option Nat))
abbrev xIv : Type := Nat → Nat → Int32
abbrev xLg : Type := Nat → Nat → Int64
abbrev xLv : Type := List (Option Value)
abbrev xMem : Type := xSh × xRf × xIv × xLg
abbrev xSt : Type := Nat × xLv × List Value × xMem
/-- what a step gives: on; a branch; on, if; a call; an end; a switch; an end, if -/
abbrev xR : Type := Option (xSt ⊕ (Prop × Nat × xSt) ⊕ (Prop × xSt) ⊕ (Nat × List Value × xSt) ⊕ (Option Value × xMem) ⊕ (Int32 × List (Int32 × Nat) × xSt) ⊕ (Prop × Option Value × xMem))
def xnth {α β : Type} : List α → Nat → β → (α → β) → β
  | [], _, d, _ => d
  | x :: _, 0, _, f => f x
  | _ :: l, n + 1, d, f => xnth l n d f
def xn2 {α β : Type} (l : List (List α)) (i : Nat) (d : β) (f : α → β) : β := xnth l (i / 16) d (fun c => xnth c (i % 16) d f)
def xml (M : Nat) : Nat := xn2 xmaxL M 0 id
def xset {β : Type} : xLv → Nat → Option Value → β → (xLv → β) → β
  | [], _, _, d, _ => d
  | _ :: l, 0, v, _, f => f (v :: l)
  | o :: l, n + 1, v, d, f => xset l n v d (fun l' => f (o :: l'))
def xsnoc {α β : Type} : List α → α → (List α → β) → β
  | [], x, f => f [x]
  | a :: l, x, f => xsnoc l x (fun l' => f (a :: l'))
def xsetr {β : Type} : List (Option Nat) → Nat → Option Nat → β → (List (Option Nat) → β) → β
  | [], _, _, d, _ => d
  | _ :: l, 0, v, _, f => f (v :: l)
  | o :: l, n + 1, v, d, f => xsetr l n v d (fun l' => f (o :: l'))
def xsetrr {β : Type} : xRf → Nat → Nat → Option Nat → β → (xRf → β) → β
  | [], _, _, _, d, _ => d
  | r :: l, 0, j, v, d, f => xsetr r j v d (fun r' => f (r' :: l))
  | o :: l, n + 1, j, v, d, f => xsetrr l n j v d (fun l' => f (o :: l'))
/-- storing into a local, where no long stands just ahead -/
def xsto {β : Type} (lv : xLv) (i : Nat) (v : Value) (d : β) (f : xLv → β) : β := match i with
  | 0 => xset lv 0 (some v) d f
  | j + 1 => xnth lv j d (fun o => match o with
    | some (.long _) => d
    | some (.double _) => d
    | _ => xset lv (j + 1) (some v) d f)
def xsto2 {β : Type} (lv : xLv) (i : Nat) (v : Value) (d : β) (f : xLv → β) : β := xsto lv i v d (fun l => xset l (i + 1) none d f)
def xtake {β : Type} : Nat → List Value → List Value → β → (List Value → List Value → β) → β
  | 0, st, acc, _, f => f acc st
  | n + 1, v :: st, acc, d, f => xtake n st (v :: acc) d f
  | _ + 1, [], _, d, _ => d
def xu2 {α : Type} (iv : Nat → Nat → α) (k j : Nat) (x : α) : Nat → Nat → α := fun a b => if a = k then (if b = j then x else iv a b) else iv a b
def xur {α : Type} (iv : Nat → Nat → α) (k : Nat) (row : Nat → α) : Nat → Nat → α := fun a => if a = k then row else iv a
def xzr {α : Type} (iv : Nat → Nat → α) (n : Nat) (z : α) : Nat → Nat → α := fun a b => if n ≤ a then z else iv a b
/-- references are of cells that are there, or of the script -/
def xro1 (n : Nat) (v : Value) : Bool := match v with
  | .ref k => Nat.blt k n || Nat.beq k 1000
  | _ => true
def xroS (n : Nat) : List Value → Bool
  | [] => true
  | v :: l => xro1 n v && xroS n l
def xroL (n : Nat) : xLv → Bool
  | [] => true
  | none :: l => xroL n l
  | some v :: l => xro1 n v && xroL n l
def xroN (n : Nat) : List (Option Nat) → Bool
  | [] => true
  | none :: l => xroN n l
  | some k :: l => Nat.blt k n && xroN n l
def xroR (n : Nat) : xRf → Bool
  | [] => true
  | r :: l => xroN n r && xroR n l
def xcat : List Value → Nat
  | [] => 0
  | .long _ :: l => 2 + xcat l
  | .double _ :: l => 2 + xcat l
  | _ :: l => 1 + xcat l
def xguard {β : Type} (c : Bool) (d f : β) : β := match c with
  | true => f
  | false => d
def xN (nx : Nat) (lv : xLv) (st : List Value) (sh : xSh) (rf : xRf) (iv : xIv) (lg : xLg) : xR := some (.inl (nx, lv, st, sh, rf, iv, lg))
def xB (c : Prop) (t nx : Nat) (lv : xLv) (st : List Value) (sh : xSh) (rf : xRf) (iv : xIv) (lg : xLg) : xR := some (.inr (.inl (c, t, nx, lv, st, sh, rf, iv, lg)))
def xC (c : Prop) (nx : Nat) (lv : xLv) (st : List Value) (sh : xSh) (rf : xRf) (iv : xIv) (lg : xLg) : xR := some (.inr (.inr (.inl (c, nx, lv, st, sh, rf, iv, lg))))
def xCall (m : Nat) (as : List Value) (nx : Nat) (lv : xLv) (st : List Value) (sh : xSh) (rf : xRf) (iv : xIv) (lg : xLg) : xR := some (.inr (.inr (.inr (.inl (m, as, nx, lv, st, sh, rf, iv, lg)))))
def xEnd (r : Option Value) (sh : xSh) (rf : xRf) (iv : xIv) (lg : xLg) : xR := some (.inr (.inr (.inr (.inr (.inl (r, sh, rf, iv, lg))))))
def xSw (v : Int32) (sw : List (Int32 × Nat)) (d : Nat) (lv : xLv) (st : List Value) (sh : xSh) (rf : xRf) (iv : xIv) (lg : xLg) : xR := some (.inr (.inr (.inr (.inr (.inr (.inl (v, sw, d, lv, st, sh, rf, iv, lg)))))))
def xEndZ (c : Prop) (r : Option Value) (sh : xSh) (rf : xRf) (iv : xIv) (lg : xLg) : xR := some (.inr (.inr (.inr (.inr (.inr (.inr (c, r, sh, rf, iv, lg)))))))
-- instructions by kinds
def xldI (nx : Nat) (os : List Nat) (lv : xLv) (st : List Value) (sh : xSh) (rf : xRf) (iv : xIv) (lg : xLg) : xR := match os with
  | i :: _ => xnth lv i none (fun o => match o with
    | some (.int x) => xN nx lv (.int x :: st) sh rf iv lg
    | _ => none)
  | [] => none
def xldL (nx : Nat) (os : List Nat) (lv : xLv) (st : List Value) (sh : xSh) (rf : xRf) (iv : xIv) (lg : xLg) : xR := match os with
  | i :: _ => xnth lv i none (fun o => match o with
    | some (.long x) => xN nx lv (.long x :: st) sh rf iv lg
    | _ => none)
  | [] => none
def xldA (nx : Nat) (os : List Nat) (lv : xLv) (st : List Value) (sh : xSh) (rf : xRf) (iv : xIv) (lg : xLg) : xR := match os with
  | i :: _ => xnth lv i none (fun o => match o with
    | some (.ref x) => xN nx lv (.ref x :: st) sh rf iv lg
    | _ => none)
  | [] => none
def xstI (nx : Nat) (os : List Nat) (lv : xLv) (st : List Value) (sh : xSh) (rf : xRf) (iv : xIv) (lg : xLg) : xR := match os with
  | i :: _ => match st with
    | .int x :: st => xsto lv i (.int x) none (fun lv => xN nx lv st sh rf iv lg)
    | _ => none
  | [] => none
def xstL (nx : Nat) (os : List Nat) (lv : xLv) (st : List Value) (sh : xSh) (rf : xRf) (iv : xIv) (lg : xLg) : xR := match os with
  | i :: _ => match st with
    | .long x :: st => xsto2 lv i (.long x) none (fun lv => xN nx lv st sh rf iv lg)
    | _ => none
  | [] => none
def xstA (nx : Nat) (os : List Nat) (lv : xLv) (st : List Value) (sh : xSh) (rf : xRf) (iv : xIv) (lg : xLg) : xR := match os with
  | i :: _ => match st with
    | .ref x :: st => xsto lv i (.ref x) none (fun lv => xN nx lv st sh rf iv lg)
    | _ => none
  | [] => none
def xinc (nx : Nat) (os : List Nat) (cv : Value) (lv : xLv) (st : List Value) (sh : xSh) (rf : xRf) (iv : xIv) (lg : xLg) : xR := match os with
  | i :: _ => match cv with
    | .int c => xnth lv i none (fun o => match o with
      | some (.int x) => xsto lv i (.int (x + c)) none (fun lv => xN nx lv st sh rf iv lg)
      | _ => none)
    | _ => none
  | [] => none
def xbin (f : Int32 → Int32 → (Int32 → xR) → xR) (nx : Nat) (lv : xLv) (st : List Value) (sh : xSh) (rf : xRf) (iv : xIv) (lg : xLg) : xR := match st with
  | .int y :: .int x :: st => f x y (fun z => xN nx lv (.int z :: st) sh rf iv lg)
  | _ => none
def xdiv (f : Int32 → Int32 → (Int32 → xR) → xR) (nx : Nat) (lv : xLv) (st : List Value) (sh : xSh) (rf : xRf) (iv : xIv) (lg : xLg) : xR := match st with
  | .int y :: .int x :: st => f x y (fun z => xC (¬ y = 0) nx lv (.int z :: st) sh rf iv lg)
  | _ => none
def xbinL (f : Int64 → Int64 → (Int64 → xR) → xR) (nx : Nat) (lv : xLv) (st : List Value) (sh : xSh) (rf : xRf) (iv : xIv) (lg : xLg) : xR := match st with
  | .long y :: .long x :: st => f x y (fun z => xN nx lv (.long z :: st) sh rf iv lg)
  | _ => none
def xshL (f : Int64 → Int32 → (Int64 → xR) → xR) (nx : Nat) (lv : xLv) (st : List Value) (sh : xSh) (rf : xRf) (iv : xIv) (lg : xLg) : xR := match st with
  | .int y :: .long x :: st => f x y (fun z => xN nx lv (.long z :: st) sh rf iv lg)
  | _ => none
def xcmpL (nx : Nat) (lv : xLv) (st : List Value) (sh : xSh) (rf : xRf) (iv : xIv) (lg : xLg) : xR := match st with
  | .long y :: .long x :: st => xN nx lv (.int (lg_cmp x y) :: st) sh rf iv lg
  | _ => none
def xunI (f : Int32 → (Value → xR) → xR) (nx : Nat) (lv : xLv) (st : List Value) (sh : xSh) (rf : xRf) (iv : xIv) (lg : xLg) : xR := match st with
  | .int x :: st => f x (fun z => xN nx lv (z :: st) sh rf iv lg)
  | _ => none
def xunL (f : Int64 → (Value → xR) → xR) (nx : Nat) (lv : xLv) (st : List Value) (sh : xSh) (rf : xRf) (iv : xIv) (lg : xLg) : xR := match st with
  | .long x :: st => f x (fun z => xN nx lv (z :: st) sh rf iv lg)
  | _ => none
def xdup (nx : Nat) (lv : xLv) (st : List Value) (sh : xSh) (rf : xRf) (iv : xIv) (lg : xLg) : xR := match st with
  | .int x :: st => xN nx lv (.int x :: .int x :: st) sh rf iv lg
  | .ref x :: st => xN nx lv (.ref x :: .ref x :: st) sh rf iv lg
  | _ => none
def xdup2 (nx : Nat) (lv : xLv) (st : List Value) (sh : xSh) (rf : xRf) (iv : xIv) (lg : xLg) : xR := match st with
  | .int x :: .ref y :: st => xN nx lv (.int x :: .ref y :: .int x :: .ref y :: st) sh rf iv lg
  | _ => none
def xpop (nx : Nat) (lv : xLv) (st : List Value) (sh : xSh) (rf : xRf) (iv : xIv) (lg : xLg) : xR := match st with
  | .int _ :: st => xN nx lv st sh rf iv lg
  | _ => none
def xgo (os : List Nat) (lv : xLv) (st : List Value) (sh : xSh) (rf : xRf) (iv : xIv) (lg : xLg) : xR := match os with
  | t :: _ => xN t lv st sh rf iv lg
  | [] => none
def xif (f : Int32 → (Prop → xR) → xR) (nx : Nat) (os : List Nat) (lv : xLv) (st : List Value) (sh : xSh) (rf : xRf) (iv : xIv) (lg : xLg) : xR := match os with
  | t :: _ => match st with
    | .int x :: st => f x (fun c => xB c t nx lv st sh rf iv lg)
    | _ => none
  | [] => none
def xicmp (f : Int32 → Int32 → (Prop → xR) → xR) (nx : Nat) (os : List Nat) (lv : xLv) (st : List Value) (sh : xSh) (rf : xRf) (iv : xIv) (lg : xLg) : xR := match os with
  | t :: _ => match st with
    | .int y :: .int x :: st => f x y (fun c => xB c t nx lv st sh rf iv lg)
    | _ => none
  | [] => none
def xtab (os : List Nat) (sw : List (Int32 × Nat)) (lv : xLv) (st : List Value) (sh : xSh) (rf : xRf) (iv : xIv) (lg : xLg) : xR := match os with
  | t :: _ => match st with
    | .int x :: st => xSw x sw t lv st sh rf iv lg
    | _ => none
  | [] => none
def xrv (o : Option Nat) : Value := match o with
  | some k => .ref k
  | none => .null
def xget (nx : Nat) (os : List Nat) (lv : xLv) (st : List Value) (sh : xSh) (rf : xRf) (iv : xIv) (lg : xLg) : xR := match os with
  | _ :: ci :: j :: kd :: _ => match st with
    | .ref k :: st => xnth sh k none (fun q => xguard (Nat.beq q.1 (10 + ci) && Nat.blt j q.2) none (match kd with
      | 1 => xnth rf k none (fun r => xnth r j none (fun o => match o with
        | some z => xN nx lv (.ref z :: st) sh rf iv lg
        | none => none))
      | _ => xN nx lv (.int (iv k j) :: st) sh rf iv lg))
    | _ => none
  | _ => none
def xput (nx : Nat) (os : List Nat) (lv : xLv) (st : List Value) (sh : xSh) (rf : xRf) (iv : xIv) (lg : xLg) : xR := match os with
  | _ :: ci :: j :: kd :: _ => match st with
    | .int x :: .ref k :: st => xnth sh k none (fun q => xguard (Nat.beq q.1 (10 + ci) && Nat.blt j q.2) none (match kd with
      | 0 => xN nx lv st sh rf (xu2 iv k j x) lg
      | 2 => xC (x = 0 ∨ x = 1) nx lv st sh rf (xu2 iv k j x) lg
      | _ => none))
    | .ref z :: .ref k :: st => xnth sh k none (fun q => xguard (Nat.beq q.1 (10 + ci) && Nat.blt j q.2) none (match kd with
      | 1 => xsetrr rf k j (some z) none (fun rf => xN nx lv st sh rf iv lg)
      | _ => none))
    | _ => none
  | _ => none
def xald (L : Nat) (xs : Nat → Int32) (M nx : Nat) (lv : xLv) (st : List Value) (sh : xSh) (rf : xRf) (iv : xIv) (lg : xLg) : xR := match st with
  | .int i :: .ref k :: st => match Nat.beq k 1000 with
    | true => (match M with
      | 0 => xC (vp_in i L) nx lv (.int (xs i.toNatClampNeg) :: st) sh rf iv lg
      | _ => none)
    | false => xnth sh k none (fun q => match q.1 with
      | 0 => xC (vp_in i q.2) nx lv (.int (iv k i.toNatClampNeg) :: st) sh rf iv lg
      | _ => none)
  | _ => none
def xcald (nx : Nat) (lv : xLv) (st : List Value) (sh : xSh) (rf : xRf) (iv : xIv) (lg : xLg) : xR := match st with
  | .int i :: .ref k :: st => xnth sh k none (fun q => match q.1 with
      | 2 => xC (vp_in i q.2) nx lv (.int (iv k i.toNatClampNeg) :: st) sh rf iv lg
      | _ => none)
  | _ => none
def xlald (nx : Nat) (lv : xLv) (st : List Value) (sh : xSh) (rf : xRf) (iv : xIv) (lg : xLg) : xR := match st with
  | .int i :: .ref k :: st => xnth sh k none (fun q => match q.1 with
      | 1 => xC (vp_in i q.2) nx lv (.long (lg k i.toNatClampNeg) :: st) sh rf iv lg
      | _ => none)
  | _ => none
def xast (nx : Nat) (lv : xLv) (st : List Value) (sh : xSh) (rf : xRf) (iv : xIv) (lg : xLg) : xR := match st with
  | .int x :: .int i :: .ref k :: st => xnth sh k none (fun q => match q.1 with
      | 0 => xC (vp_in i q.2) nx lv st sh rf (xu2 iv k i.toNatClampNeg x) lg
      | _ => none)
  | _ => none
def xcast (nx : Nat) (lv : xLv) (st : List Value) (sh : xSh) (rf : xRf) (iv : xIv) (lg : xLg) : xR := match st with
  | .int x :: .int i :: .ref k :: st => xnth sh k none (fun q => match q.1 with
      | 2 => xC (vp_in i q.2) nx lv st sh rf (xu2 iv k i.toNatClampNeg (vp_nar .char x)) lg
      | _ => none)
  | _ => none
def xlast (nx : Nat) (lv : xLv) (st : List Value) (sh : xSh) (rf : xRf) (iv : xIv) (lg : xLg) : xR := match st with
  | .long x :: .int i :: .ref k :: st => xnth sh k none (fun q => match q.1 with
      | 1 => xC (vp_in i q.2) nx lv st sh rf iv (xu2 lg k i.toNatClampNeg x)
      | _ => none)
  | _ => none
def xaald (nx : Nat) (lv : xLv) (st : List Value) (sh : xSh) (rf : xRf) (iv : xIv) (lg : xLg) : xR := match st with
  | .int i :: .ref k :: st => xnth sh k none (fun q => xguard (Nat.beq q.1 3 || Nat.beq q.1 4) none (xnth rf k none (fun r => xnth r i.toNatClampNeg none (fun o => match o with
      | some z => xC (vp_in i q.2) nx lv (.ref z :: st) sh rf iv lg
      | none => none))))
  | _ => none
/-- into a row of sheets (class 3 of the classes) -/
def xaast (nx : Nat) (lv : xLv) (st : List Value) (sh : xSh) (rf : xRf) (iv : xIv) (lg : xLg) : xR := match st with
  | .ref z :: .int i :: .ref k :: st => xnth sh k none (fun q => xguard (Nat.beq q.1 4) none (xnth sh z none (fun q2 => xguard (Nat.beq q2.1 13) none (xsetrr rf k i.toNatClampNeg (some z) none (fun rf => xC (vp_in i q.2) nx lv st sh rf iv lg)))))
  | _ => none
def xlen (L : Nat) (M nx : Nat) (lv : xLv) (st : List Value) (sh : xSh) (rf : xRf) (iv : xIv) (lg : xLg) : xR := match st with
  | .ref k :: st => match Nat.beq k 1000 with
    | true => (match M with
      | 0 => xN nx lv (.int (nI L) :: st) sh rf iv lg
      | _ => none)
    | false => xnth sh k none (fun q => xguard (Nat.blt q.1 3) none (xN nx lv (.int (nI q.2) :: st) sh rf iv lg))
  | _ => none
/-- all references are of cells that are there, and one more may come -/
def xokA (lv : xLv) (st : List Value) (sh : xSh) (rf : xRf) : Bool := Nat.blt sh.length 900 && (xroL sh.length lv && (xroS sh.length st && xroR sh.length rf))
def xnew (nx : Nat) (os : List Nat) (lv : xLv) (st : List Value) (sh : xSh) (rf : xRf) (iv : xIv) (lg : xLg) : xR := match os with
  | _ :: ci :: n :: _ => xguard (xokA lv st sh rf) none (xsnoc sh (10 + ci, n) (fun sh' => xsnoc rf (List.replicate n none) (fun rf' => xN nx lv (.ref sh.length :: st) sh' rf' (xzr iv sh.length 0) (xzr lg sh.length 0))))
  | _ => none
def xnewa (tag : Nat) (nx : Nat) (lv : xLv) (st : List Value) (sh : xSh) (rf : xRf) (iv : xIv) (lg : xLg) : xR := match st with
  | .int n :: st => xguard (xokA lv st sh rf) none (xsnoc sh (tag, n.toNatClampNeg) (fun sh' => xsnoc rf [] (fun rf' => xC (¬ n < 0 ∧ n.toNatClampNeg ≤ 1000) nx lv (.ref sh.length :: st) sh' rf' (xzr iv sh.length 0) (xzr lg sh.length 0))))
  | _ => none
def xnewq (nx : Nat) (lv : xLv) (st : List Value) (sh : xSh) (rf : xRf) (iv : xIv) (lg : xLg) : xR := match st with
  | .int n :: st => xguard (xokA lv st sh rf) none (xsnoc sh (4, n.toNatClampNeg) (fun sh' => xsnoc rf (List.replicate n.toNatClampNeg none) (fun rf' => xC (¬ n < 0 ∧ n.toNatClampNeg ≤ 1000) nx lv (.ref sh.length :: st) sh' rf' (xzr iv sh.length 0) (xzr lg sh.length 0))))
  | _ => none
/-- new int[4][n], as it stands in the class -/
def xmna (nx : Nat) (lv : xLv) (st : List Value) (sh : xSh) (rf : xRf) (iv : xIv) (lg : xLg) : xR := match st with
  | .int n :: .int m :: st => xguard (xokA lv st sh rf) none (xC (m = 4 ∧ ¬ n < 0 ∧ n.toNatClampNeg ≤ 1000) nx lv (.ref sh.length :: st) (sh ++ [(3, 4), (0, n.toNatClampNeg), (0, n.toNatClampNeg), (0, n.toNatClampNeg), (0, n.toNatClampNeg)]) (rf ++ [[some (sh.length + 1), some (sh.length + 2), some (sh.length + 3), some (sh.length + 4)], [], [], [], []]) (xzr iv sh.length 0) (xzr lg sh.length 0))
  | _ => none
/-- System.arraycopy of ints -/
def xcpy (nx : Nat) (lv : xLv) (st : List Value) (sh : xSh) (rf : xRf) (iv : xIv) (lg : xLg) : xR := match st with
  | .int n :: .int dp :: .ref d :: .int sp :: .ref k :: st => xguard (Nat.ble (xcat st) 8) none (xnth sh k none (fun q => xnth sh d none (fun q2 => xguard (Nat.beq q.1 0 && Nat.beq q2.1 0) none (xC ((¬ sp < 0 ∧ ¬ dp < 0 ∧ ¬ n < 0) ∧ sp.toNatClampNeg + n.toNatClampNeg ≤ q.2 ∧ dp.toNatClampNeg + n.toNatClampNeg ≤ q2.2) nx lv st sh rf (xur iv d (va_cpy (iv k) (iv d) sp.toNatClampNeg dp.toNatClampNeg n.toNatClampNeg)) lg))))
  | _ => none
def xobj (nx : Nat) (lv : xLv) (st : List Value) (sh : xSh) (rf : xRf) (iv : xIv) (lg : xLg) : xR := match st with
  | .ref _ :: st => xguard (Nat.ble (xcat st) 8) none (xN nx lv st sh rf iv lg)
  | _ => none
def xcall (m np : Nat) (nx : Nat) (lv : xLv) (st : List Value) (sh : xSh) (rf : xRf) (iv : xIv) (lg : xLg) : xR :=
  xtake np st [] none (fun as st => xguard ((Nat.ble (xcat st) 8 && (Nat.ble (xcat as) (xml m) && xroS sh.length as)) && (xroL sh.length lv && xroS sh.length st)) none (xCall m as nx lv st sh rf iv lg))
def xcallI (m np : Nat) (nx : Nat) (lv : xLv) (st : List Value) (sh : xSh) (rf : xRf) (iv : xIv) (lg : xLg) : xR :=
  xtake np st [] none (fun as st => match as with
    | .ref k :: as => xguard ((Nat.ble (xcat st) 8 && (Nat.ble (xcat (.ref k :: as)) (xml m) && xroS sh.length (.ref k :: as))) && (xroL sh.length lv && xroS sh.length st)) none (xCall m (.ref k :: as) nx lv st sh rf iv lg)
    | _ => none)
def xcallV (m np ci : Nat) (nx : Nat) (lv : xLv) (st : List Value) (sh : xSh) (rf : xRf) (iv : xIv) (lg : xLg) : xR :=
  xtake np st [] none (fun as st => match as with
    | .ref k :: as => xnth sh k none (fun q => xguard (Nat.beq q.1 (10 + ci)) none (xguard ((Nat.ble (xcat st) 8 && (Nat.ble (xcat (.ref k :: as)) (xml m) && xroS sh.length (.ref k :: as))) && (xroL sh.length lv && xroS sh.length st)) none (xCall m (.ref k :: as) nx lv st sh rf iv lg)))
    | _ => none)
def xretI (rt : Option FieldType) (st : List Value) (sh : xSh) (rf : xRf) (iv : xIv) (lg : xLg) : xR := match st with
  | [.int v] => (match rt with
    | some .int => xEnd (some (.int v)) sh rf iv lg
    | some .boolean => xEndZ (v = 0 ∨ v = 1) (some (.int v)) sh rf iv lg
    | _ => none)
  | _ => none
def xretL (rt : Option FieldType) (st : List Value) (sh : xSh) (rf : xRf) (iv : xIv) (lg : xLg) : xR := match st with
  | [.long v] => (match rt with
    | some .long => xEnd (some (.long v)) sh rf iv lg
    | _ => none)
  | _ => none
def xretA (rt : Option FieldType) (st : List Value) (sh : xSh) (rf : xRf) (iv : xIv) (lg : xLg) : xR := match st with
  | [.ref v] => (match rt with
    | some (.array _) => xEnd (some (.ref v)) sh rf iv lg
    | _ => none)
  | _ => none
def xretV (rt : Option FieldType) (st : List Value) (sh : xSh) (rf : xRf) (iv : xIv) (lg : xLg) : xR := match st with
  | [] => (match rt with
    | none => xEnd none sh rf iv lg
    | _ => none)
  | _ => none
def imx (x y : Int32) : Int32 := if x < y then y else x
def imn (x y : Int32) : Int32 := if y < x then y else x
def xmth (f : Int32 → Int32 → Int32) (nx : Nat) (lv : xLv) (st : List Value) (sh : xSh) (rf : xRf) (iv : xIv) (lg : xLg) : xR := match st with
  | .int y :: .int x :: st => xguard (Nat.ble (xcat st) 8) none (xN nx lv (.int (f x y) :: st) sh rf iv lg)
  | _ => none
def xinvS (os : List Nat) (b0 b1 b2 : xR) (f : Nat → Nat → xR) : xR := match os with
  | [0, _, 0] => b0
  | [0, _, 1] => b1
  | [0, _, 2] => b2
  | (m + 1) :: _ :: _ :: _ :: np :: _ => f m np
  | _ => none
def xinv (os : List Nat) (bi : xR) (f : Nat → Nat → xR) : xR := match os with
  | 0 :: _ => bi
  | (m + 1) :: _ :: _ :: _ :: np :: _ => f m np
  | _ => none
def xinvV (os : List Nat) (f : Nat → Nat → Nat → xR) : xR := match os with
  | (m + 1) :: _ :: _ :: _ :: np :: _ :: ci :: _ => f m np ci
  | _ => none
def xdo (L : Nat) (xs : Nat → Int32) (M : Nat) (lv : xLv) (st : List Value) (sh : xSh) (rf : xRf) (iv : xIv) (lg : xLg) (nx : Nat) (ins : Instr) (os : List Nat) (sw : List (Int32 × Nat)) (cv : Value) : xR := match ins with
  | .iconst _ => xN nx lv (cv :: st) sh rf iv lg
  | .bipush _ => xN nx lv (cv :: st) sh rf iv lg
  | .sipush _ => xN nx lv (cv :: st) sh rf iv lg
  | .ldc _ => xN nx lv (cv :: st) sh rf iv lg
  | .ldc_w _ => xN nx lv (cv :: st) sh rf iv lg
  | .lconst _ => xN nx lv (cv :: st) sh rf iv lg
  | .ldc2_w _ => xN nx lv (cv :: st) sh rf iv lg
  | .iload_n _ => xldI nx os lv st sh rf iv lg
  | .iload _ => xldI nx os lv st sh rf iv lg
  | .lload_n _ => xldL nx os lv st sh rf iv lg
  | .lload _ => xldL nx os lv st sh rf iv lg
  | .aload_n _ => xldA nx os lv st sh rf iv lg
  | .aload _ => xldA nx os lv st sh rf iv lg
  | .istore_n _ => xstI nx os lv st sh rf iv lg
  | .istore _ => xstI nx os lv st sh rf iv lg
  | .lstore_n _ => xstL nx os lv st sh rf iv lg
  | .lstore _ => xstL nx os lv st sh rf iv lg
  | .astore_n _ => xstA nx os lv st sh rf iv lg
  | .astore _ => xstA nx os lv st sh rf iv lg
  | .iinc _ _ => xinc nx os cv lv st sh rf iv lg
  | .iadd => xbin (fun x y k => k (x + y)) nx lv st sh rf iv lg
  | .isub => xbin (fun x y k => k (x - y)) nx lv st sh rf iv lg
  | .imul => xbin (fun x y k => k (x * y)) nx lv st sh rf iv lg
  | .iand => xbin (fun x y k => k (x &&& y)) nx lv st sh rf iv lg
  | .ior => xbin (fun x y k => k (x ||| y)) nx lv st sh rf iv lg
  | .ixor => xbin (fun x y k => k (x ^^^ y)) nx lv st sh rf iv lg
  | .ishl => xbin (fun x y k => k (x <<< (y &&& 31))) nx lv st sh rf iv lg
  | .ishr => xbin (fun x y k => k (x >>> (y &&& 31))) nx lv st sh rf iv lg
  | .idiv => xdiv (fun x y k => k (x / y)) nx lv st sh rf iv lg
  | .irem => xdiv (fun x y k => k (x - x / y * y)) nx lv st sh rf iv lg
  | .ineg => xunI (fun x k => k (.int (-x))) nx lv st sh rf iv lg
  | .ladd => xbinL (fun x y k => k (x + y)) nx lv st sh rf iv lg
  | .lsub => xbinL (fun x y k => k (x - y)) nx lv st sh rf iv lg
  | .land => xbinL (fun x y k => k (x &&& y)) nx lv st sh rf iv lg
  | .lor => xbinL (fun x y k => k (x ||| y)) nx lv st sh rf iv lg
  | .lshl => xshL (fun x y k => k (x <<< (y.toInt64 &&& 63))) nx lv st sh rf iv lg
  | .lshr => xshL (fun x y k => k (x >>> (y.toInt64 &&& 63))) nx lv st sh rf iv lg
  | .lcmp => xcmpL nx lv st sh rf iv lg
  | .i2l => xunI (fun x k => k (.long x.toInt64)) nx lv st sh rf iv lg
  | .l2i => xunL (fun x k => k (.int x.toInt32)) nx lv st sh rf iv lg
  | .i2c => xunI (fun x k => k (.int (x.toUInt32 % 65536).toInt32)) nx lv st sh rf iv lg
  | .i2s => xunI (fun x k => k (.int x.toInt16.toInt32)) nx lv st sh rf iv lg
  | .dup => xdup nx lv st sh rf iv lg
  | .dup2 => xdup2 nx lv st sh rf iv lg
  | .pop => xpop nx lv st sh rf iv lg
  | .goto _ => xgo os lv st sh rf iv lg
  | .ifCond .eq _ => xif (fun x k => k (x = 0)) nx os lv st sh rf iv lg
  | .ifCond .ne _ => xif (fun x k => k (¬ x = 0)) nx os lv st sh rf iv lg
  | .ifCond .lt _ => xif (fun x k => k (x < 0)) nx os lv st sh rf iv lg
  | .ifCond .ge _ => xif (fun x k => k (0 ≤ x)) nx os lv st sh rf iv lg
  | .ifCond .gt _ => xif (fun x k => k (0 < x)) nx os lv st sh rf iv lg
  | .ifCond .le _ => xif (fun x k => k (x ≤ 0)) nx os lv st sh rf iv lg
  | .if_icmp .eq _ => xicmp (fun x y k => k (x = y)) nx os lv st sh rf iv lg
  | .if_icmp .ne _ => xicmp (fun x y k => k (¬ x = y)) nx os lv st sh rf iv lg
  | .if_icmp .lt _ => xicmp (fun x y k => k (x < y)) nx os lv st sh rf iv lg
  | .if_icmp .ge _ => xicmp (fun x y k => k (y ≤ x)) nx os lv st sh rf iv lg
  | .if_icmp .gt _ => xicmp (fun x y k => k (y < x)) nx os lv st sh rf iv lg
  | .if_icmp .le _ => xicmp (fun x y k => k (x ≤ y)) nx os lv st sh rf iv lg
  | .tableswitch _ _ _ _ => xtab os sw lv st sh rf iv lg
  | .getfield _ => xget nx os lv st sh rf iv lg
  | .putfield _ => xput nx os lv st sh rf iv lg
  | .iaload => xald L xs M nx lv st sh rf iv lg
  | .caload => xcald nx lv st sh rf iv lg
  | .laload => xlald nx lv st sh rf iv lg
  | .aaload => xaald nx lv st sh rf iv lg
  | .iastore => xast nx lv st sh rf iv lg
  | .castore => xcast nx lv st sh rf iv lg
  | .lastore => xlast nx lv st sh rf iv lg
  | .aastore => xaast nx lv st sh rf iv lg
  | .arraylength => xlen L M nx lv st sh rf iv lg
  | .new _ => xnew nx os lv st sh rf iv lg
  | .newarray .int => xnewa 0 nx lv st sh rf iv lg
  | .newarray .long => xnewa 1 nx lv st sh rf iv lg
  | .newarray .char => xnewa 2 nx lv st sh rf iv lg
  | .anewarray _ => xnewq nx lv st sh rf iv lg
  | .multianewarray _ _ => xmna nx lv st sh rf iv lg
  | .invokestatic _ => xinvS os (xcpy nx lv st sh rf iv lg) (xmth imx nx lv st sh rf iv lg) (xmth imn nx lv st sh rf iv lg) (fun m np => xcall m np nx lv st sh rf iv lg)
  | .invokespecial _ => xinv os (xobj nx lv st sh rf iv lg) (fun m np => xcallI m np nx lv st sh rf iv lg)
  | .invokevirtual _ => xinvV os (fun m np ci => xcallV m np ci nx lv st sh rf iv lg)
  | .ireturn => xn2 xret M none (fun rt => xretI rt st sh rf iv lg)
  | .lreturn => xn2 xret M none (fun rt => xretL rt st sh rf iv lg)
  | .areturn => xn2 xret M none (fun rt => xretA rt st sh rf iv lg)
  | .return_ => xn2 xret M none (fun rt => xretV rt st sh rf iv lg)
  | _ => none
def xfetch {β : Type} (M pc : Nat) (d : β) (f : xIns → β) : β := xn2 xcodes M d (fun cs => xn2 cs pc d f)
def xstep (L : Nat) (xs : Nat → Int32) (M pc : Nat) (lv : xLv) (st : List Value) (sh : xSh) (rf : xRf) (iv : xIv) (lg : xLg) : xR :=
  xfetch M pc none (fun e => match e with
    | (_, nx, ins, _, os, sw, cv) => xdo L xs M lv st sh rf iv lg nx ins os sw cv)
/-- the locals with which a method begins -/
def xent : Nat → List Value → xLv
  | 0, _ => []
  | n + 1, [] => none :: xent n []
  | n + 1, .long x :: l => some (.long x) :: (match n with
    | 0 => []
    | n + 1 => none :: xent n l)
  | n + 1, .double x :: l => some (.double x) :: (match n with
    | 0 => []
    | n + 1 => none :: xent n l)
  | n + 1, v :: l => some v :: xent n l
def xpush (r : Option Value) (st : List Value) : List Value := match r with
  | none => st
  | some v => v :: st
def xpushK {β : Type} (r : Option Value) (st : List Value) (f : List Value → β) : β := match r with
  | none => f st
  | some v => f (v :: st)
/-- the same, the list built ahead of its use -/
def xentK {β : Type} : Nat → List Value → (xLv → β) → β
  | 0, _, f => f []
  | n + 1, [], f => xentK n [] (fun l => f (none :: l))
  | n + 1, .long x :: l, f => (match n with
    | 0 => f [some (.long x)]
    | n + 1 => xentK n l (fun l => f (some (.long x) :: none :: l)))
  | n + 1, .double x :: l, f => (match n with
    | 0 => f [some (.double x)]
    | n + 1 => xentK n l (fun l => f (some (.double x) :: none :: l)))
  | n + 1, v :: l, f => xentK n l (fun l => f (some v :: l))
noncomputable def xite {α : Type} (c : Prop) (a b : α) : α := @ite α c (Classical.propDecidable c) a b
noncomputable def xsw {α : Type} (v : Int32) (f : Nat → α) (d : Nat) : List (Int32 × Nat) → α
  | [] => f d
  | q :: l => xite (v = q.1) (f q.2) (xsw v f d l)
noncomputable def xrun (g : Nat → Nat → xLv → List Value → xMem → Option (Option Value × xMem)) (M : Nat) (r : xR) : Option (Option Value × xMem) := match r with
  | none => none
  | some (.inl (pc, lv, st, μ)) => g M pc lv st μ
  | some (.inr (.inl (c, t, pc, lv, st, μ))) => xite c (g M t lv st μ) (g M pc lv st μ)
  | some (.inr (.inr (.inl (c, pc, lv, st, μ)))) => xite c (g M pc lv st μ) none
  | some (.inr (.inr (.inr (.inl (m, as, pc, lv, st, μ))))) => (match g m 0 (xent (xml m) as) [] μ with
    | none => none
    | some (r, μ') => g M pc lv (xpush r st) μ')
  | some (.inr (.inr (.inr (.inr (.inl (r, μ)))))) => some (r, μ)
  | some (.inr (.inr (.inr (.inr (.inr (.inl (v, sw, pc, lv, st, μ))))))) => xsw v (fun t => g M t lv st μ) pc sw
  | some (.inr (.inr (.inr (.inr (.inr (.inr (c, r, μ))))))) => xite c (some (r, μ)) none
noncomputable def xexec (L : Nat) (xs : Nat → Int32) : Nat → Nat → Nat → xLv → List Value → xMem → Option (Option Value × xMem)
  | 0, _, _, _, _, _ => none
  | n + 1, M, pc, lv, st, μ => xrun (xexec L xs n) M (xstep L xs M pc lv st μ.1 μ.2.1 μ.2.2.1 μ.2.2.2)
abbrev xQ : Type := Option Value → xSh → xRf → xIv → xLg → Prop
/-- the machine, from here, ends with Q -/
def Wp (L : Nat) (xs : Nat → Int32) (M pc : Nat) (lv : xLv) (st : List Value) (sh : xSh) (rf : xRf) (iv : xIv) (lg : xLg) (Q : xQ) : Prop :=
  ∃ n r sh' rf' iv' lg', xexec L xs n M pc lv st (sh, rf, iv, lg) = some (r, sh', rf', iv', lg') ∧ Q r sh' rf' iv' lg'
/-- a method, called with these, ends with Q -/
def Sp (L : Nat) (xs : Nat → Int32) (M : Nat) (as : List Value) (sh : xSh) (rf : xRf) (iv : xIv) (lg : xLg) (Q : xQ) : Prop := Wp L xs M 0 (xent (xml M) as) [] sh rf iv lg Q
def xswP (v : Int32) (f : Nat → Prop) (d : Nat) : List (Int32 × Nat) → Prop
  | [] => f d
  | q :: l => (v = q.1 → f q.2) ∧ (¬ v = q.1 → xswP v f d l)
def xmemN (i : Nat) : List Nat → Bool
  | [] => false
  | k :: l => Nat.beq i k || xmemN i l
/-- what must hold at a step, where F stands for what comes behind -/
def xwb (L : Nat) (xs : Nat → Int32) (M : Nat) (F : Nat → xLv → List Value → xSh → xRf → xIv → xLg → Prop) (Q : xQ) (r : xR) : Prop := match r with
  | none => False
  | some (.inl (pc, lv, st, sh, rf, iv, lg)) => F pc lv st sh rf iv lg
  | some (.inr (.inl (c, t, pc, lv, st, sh, rf, iv, lg))) => (c → F t lv st sh rf iv lg) ∧ (¬ c → F pc lv st sh rf iv lg)
  | some (.inr (.inr (.inl (c, pc, lv, st, sh, rf, iv, lg)))) => c ∧ F pc lv st sh rf iv lg
  | some (.inr (.inr (.inr (.inl (m, as, pc, lv, st, sh, rf, iv, lg))))) => Sp L xs m as sh rf iv lg (fun r sh rf iv lg => xpushK r st (fun st => F pc lv st sh rf iv lg))
  | some (.inr (.inr (.inr (.inr (.inl (r, sh, rf, iv, lg)))))) => Q r sh rf iv lg
  | some (.inr (.inr (.inr (.inr (.inr (.inl (v, sw, pc, lv, st, sh, rf, iv, lg))))))) => xswP v (fun t => F t lv st sh rf iv lg) pc sw
  | some (.inr (.inr (.inr (.inr (.inr (.inr (c, r, sh, rf, iv, lg))))))) => c ∧ Q r sh rf iv lg
/-- what must hold here: read off the code, up to the places S, to calls and to the end -/
def wpx (L : Nat) (xs : Nat → Int32) (S : List Nat) (M : Nat) (Q : xQ) : Nat → Nat → xLv → List Value → xSh → xRf → xIv → xLg → Prop
  | 0, pc, lv, st, sh, rf, iv, lg => Wp L xs M pc lv st sh rf iv lg Q
  | n + 1, pc, lv, st, sh, rf, iv, lg => match xmemN pc S with
    | true => Wp L xs M pc lv st sh rf iv lg Q
    | false => xwb L xs M (wpx L xs S M Q n) Q (xstep L xs M pc lv st sh rf iv lg)
end
section
-- ===== the small machine: more steps do no harm; what is read off the code suffices =====
theorem xite_t {α : Type} {c : Prop} {a b : α} (h : c) : xite c a b = a := by unfold xite; rw [if_pos h]
theorem xite_f {α : Type} {c : Prop} {a b : α} (h : ¬ c) : xite c a b = b := by unfold xite; rw [if_neg h]
theorem xsw_mono {α : Type} {v : Int32} {f g : Nat → Option α} {d : Nat} {r : α} (hfg : ∀ t, f t = some r → g t = some r) : ∀ sw : List (Int32 × Nat), xsw v f d sw = some r → xsw v g d sw = some r
  | [], h => hfg d h
  | q :: l, h => by
    unfold xsw at h ⊢
    by_cases hc : v = q.1
    · rw [xite_t hc] at h ⊢; exact hfg _ h
    · rw [xite_f hc] at h ⊢; exact xsw_mono hfg l h
theorem xrun_mono {g g' : Nat → Nat → xLv → List Value → xMem → Option (Option Value × xMem)} (hg : ∀ M pc lv st μ r, g M pc lv st μ = some r → g' M pc lv st μ = some r) {M : Nat} {r : Option Value × xMem} : ∀ R : xR, xrun g M R = some r → xrun g' M R = some r := by
  intro R h
  match R with
  | none => exact h
  | some (.inl (pc, lv, st, μ)) => exact hg _ _ _ _ _ _ h
  | some (.inr (.inl (c, t, pc, lv, st, μ))) =>
    unfold xrun at h ⊢
    dsimp only at h ⊢
    by_cases hc : c
    · rw [xite_t hc] at h ⊢; exact hg _ _ _ _ _ _ h
    · rw [xite_f hc] at h ⊢; exact hg _ _ _ _ _ _ h
  | some (.inr (.inr (.inl (c, pc, lv, st, μ)))) =>
    unfold xrun at h ⊢
    dsimp only at h ⊢
    by_cases hc : c
    · rw [xite_t hc] at h ⊢; exact hg _ _ _ _ _ _ h
    · rw [xite_f hc] at h; cases h
  | some (.inr (.inr (.inr (.inl (m, as, pc, lv, st, μ))))) =>
    unfold xrun at h ⊢
    dsimp only at h ⊢
    cases hm : g m 0 (xent (xml m) as) [] μ with
    | none => rw [hm] at h; cases h
    | some q =>
      rw [hm] at h
      rw [hg _ _ _ _ _ _ hm]
      exact hg _ _ _ _ _ _ h
  | some (.inr (.inr (.inr (.inr (.inl (r, μ)))))) => exact h
  | some (.inr (.inr (.inr (.inr (.inr (.inl (v, sw, pc, lv, st, μ))))))) => exact xsw_mono (fun t => hg _ _ _ _ _ _) sw h
  | some (.inr (.inr (.inr (.inr (.inr (.inr (c, r, μ))))))) =>
    unfold xrun at h ⊢
    exact h
theorem xexec_mono {L : Nat} {xs : Nat → Int32} : ∀ (n M pc : Nat) (lv : xLv) (st : List Value) (μ : xMem) (r : Option Value × xMem), xexec L xs n M pc lv st μ = some r → xexec L xs (n + 1) M pc lv st μ = some r
  | 0, _, _, _, _, _, _, h => by cases h
  | n + 1, M, pc, lv, st, μ, r, h => xrun_mono (fun M pc lv st μ r => xexec_mono n M pc lv st μ r) _ h
theorem xexec_le {L : Nat} {xs : Nat → Int32} {n M pc : Nat} {lv : xLv} {st : List Value} {μ : xMem} {r : Option Value × xMem} (h : xexec L xs n M pc lv st μ = some r) : ∀ k, xexec L xs (n + k) M pc lv st μ = some r
  | 0 => h
  | k + 1 => xexec_mono _ _ _ _ _ _ _ (xexec_le h k)
theorem xexec_le' {L : Nat} {xs : Nat → Int32} {n k M pc : Nat} {lv : xLv} {st : List Value} {μ : xMem} {r : Option Value × xMem} (h : xexec L xs n M pc lv st μ = some r) (hk : n ≤ k) : xexec L xs k M pc lv st μ = some r := by
  obtain ⟨d, rfl⟩ := Nat.le.dest hk
  exact xexec_le h d
theorem xswP_run {L : Nat} {xs : Nat → Int32} {M : Nat} {lv : xLv} {st : List Value} {sh : xSh} {rf : xRf} {iv : xIv} {lg : xLg} {Q : xQ} {v : Int32} {d : Nat} : ∀ sw : List (Int32 × Nat), xswP v (fun t => Wp L xs M t lv st sh rf iv lg Q) d sw →
    ∃ n r sh' rf' iv' lg', xsw v (fun t => xexec L xs n M t lv st (sh, rf, iv, lg)) d sw = some (r, sh', rf', iv', lg') ∧ Q r sh' rf' iv' lg'
  | [], h => h
  | q :: l, h => by
    obtain ⟨h1, h2⟩ := h
    by_cases hc : v = q.1
    · obtain ⟨n, r, a, b, c, e, he, hq⟩ := h1 hc
      refine ⟨n, r, a, b, c, e, ?_, hq⟩
      unfold xsw
      rw [xite_t hc]
      exact he
    · obtain ⟨n, r, a, b, c, e, he, hq⟩ := xswP_run l (h2 hc)
      refine ⟨n, r, a, b, c, e, ?_, hq⟩
      unfold xsw
      rw [xite_f hc]
      exact he
theorem xswP_imp {v : Int32} {f g : Nat → Prop} (hfg : ∀ t, f t → g t) {d : Nat} : ∀ sw : List (Int32 × Nat), xswP v f d sw → xswP v g d sw
  | [], h => hfg _ h
  | _ :: l, h => ⟨fun e => hfg _ (h.1 e), fun e => xswP_imp hfg l (h.2 e)⟩
theorem Wp.imp {L : Nat} {xs : Nat → Int32} {M pc : Nat} {lv : xLv} {st : List Value} {sh : xSh} {rf : xRf} {iv : xIv} {lg : xLg} {Q Q' : xQ} (h : Wp L xs M pc lv st sh rf iv lg Q) (hq : ∀ r sh rf iv lg, Q r sh rf iv lg → Q' r sh rf iv lg) : Wp L xs M pc lv st sh rf iv lg Q' := by
  obtain ⟨n, r, a, b, c, e, he, h2⟩ := h
  exact ⟨n, r, a, b, c, e, he, hq _ _ _ _ _ h2⟩
theorem xpushK_eq {β : Type} (r : Option Value) (st : List Value) (f : List Value → β) : xpushK r st f = f (xpush r st) := by cases r <;> rfl
theorem xentK_eq {β : Type} : ∀ (n : Nat) (as : List Value) (f : xLv → β), xentK n as f = f (xent n as)
  | 0, _, _ => rfl
  | n + 1, [], f => xentK_eq n [] _
  | 0 + 1, .long x :: l, f => rfl
  | (n + 1) + 1, .long x :: l, f => xentK_eq n l _
  | n + 1, .int x :: l, f => xentK_eq n l _
  | n + 1, .float x :: l, f => xentK_eq n l _
  | 0 + 1, .double x :: l, f => rfl
  | (n + 1) + 1, .double x :: l, f => xentK_eq n l _
  | n + 1, .ref x :: l, f => xentK_eq n l _
  | n + 1, .null :: l, f => xentK_eq n l _
  | n + 1, .retAddr _ :: l, f => xentK_eq n l _
/-- one step -/
theorem xwb_Wp {L : Nat} {xs : Nat → Int32} {M pc : Nat} {lv : xLv} {st : List Value} {sh : xSh} {rf : xRf} {iv : xIv} {lg : xLg} {Q : xQ} (F : Nat → xLv → List Value → xSh → xRf → xIv → xLg → Prop) (hF : ∀ pc lv st sh rf iv lg, F pc lv st sh rf iv lg → Wp L xs M pc lv st sh rf iv lg Q)
    (h : xwb L xs M F Q (xstep L xs M pc lv st sh rf iv lg)) : Wp L xs M pc lv st sh rf iv lg Q := by
  have key : ∀ (R : xR), xstep L xs M pc lv st sh rf iv lg = R → xwb L xs M F Q R → ∃ n r sh' rf' iv' lg', xrun (xexec L xs n) M R = some (r, sh', rf', iv', lg') ∧ Q r sh' rf' iv' lg' := by
    intro R _ h
    match R, h with
    | some (.inl (pc, lv, st, sh, rf, iv, lg)), h => exact hF _ _ _ _ _ _ _ h
    | some (.inr (.inl (c, t, pc, lv, st, sh, rf, iv, lg))), h =>
      by_cases hc : c
      · obtain ⟨n, r, a, b, c', e, he, hq⟩ := hF _ _ _ _ _ _ _ (h.1 hc)
        exact ⟨n, r, a, b, c', e, by unfold xrun; dsimp only; rw [xite_t hc]; exact he, hq⟩
      · obtain ⟨n, r, a, b, c', e, he, hq⟩ := hF _ _ _ _ _ _ _ (h.2 hc)
        exact ⟨n, r, a, b, c', e, by unfold xrun; dsimp only; rw [xite_f hc]; exact he, hq⟩
    | some (.inr (.inr (.inl (c, pc, lv, st, sh, rf, iv, lg)))), h =>
      obtain ⟨n, r, a, b, c', e, he, hq⟩ := hF _ _ _ _ _ _ _ h.2
      exact ⟨n, r, a, b, c', e, by unfold xrun; dsimp only; rw [xite_t h.1]; exact he, hq⟩
    | some (.inr (.inr (.inr (.inl (m, as, pc, lv, st, sh, rf, iv, lg))))), h =>
      obtain ⟨n, r, a, b, c', e, he, hq⟩ := h
      rw [xpushK_eq] at hq
      obtain ⟨n2, r2, a2, b2, c2, e2, he2, hq2⟩ := hF _ _ _ _ _ _ _ hq
      refine ⟨n + n2, r2, a2, b2, c2, e2, ?_, hq2⟩
      unfold xrun
      dsimp only
      rw [xexec_le he n2]
      exact xexec_le' he2 (Nat.le_add_left _ _)
    | some (.inr (.inr (.inr (.inr (.inl (r, sh, rf, iv, lg)))))), h => exact ⟨0, r, sh, rf, iv, lg, rfl, h⟩
    | some (.inr (.inr (.inr (.inr (.inr (.inl (v, sw, pc, lv, st, sh, rf, iv, lg))))))), h => exact xswP_run sw (xswP_imp (fun t => hF _ _ _ _ _ _ _) sw h)
    | some (.inr (.inr (.inr (.inr (.inr (.inr (c, r, sh, rf, iv, lg))))))), h =>
      exact ⟨0, r, sh, rf, iv, lg, by unfold xrun; dsimp only; rw [xite_t h.1], h.2⟩
  obtain ⟨n, r, a, b, c, e, he, hq⟩ := key _ rfl h
  exact ⟨n + 1, r, a, b, c, e, he, hq⟩
theorem wpx_Wp {L : Nat} {xs : Nat → Int32} {S : List Nat} {M : Nat} {Q : xQ} : ∀ (n pc : Nat) (lv : xLv) (st : List Value) (sh : xSh) (rf : xRf) (iv : xIv) (lg : xLg), wpx L xs S M Q n pc lv st sh rf iv lg → Wp L xs M pc lv st sh rf iv lg Q
  | 0, _, _, _, _, _, _, _, h => h
  | n + 1, pc, lv, st, sh, rf, iv, lg, h => by
    unfold wpx at h
    cases hm : xmemN pc S with
    | true => rw [hm] at h; exact h
    | false => rw [hm] at h; exact xwb_Wp _ (wpx_Wp n) h
/-- walk: S the places where to stop (loops' heads), n how many steps at most -/
theorem wgo {L : Nat} {xs : Nat → Int32} {M pc : Nat} {lv : xLv} {st : List Value} {sh : xSh} {rf : xRf} {iv : xIv} {lg : xLg} {Q : xQ} (S : List Nat) (n : Nat) (h : xwb L xs M (wpx L xs S M Q n) Q (xstep L xs M pc lv st sh rf iv lg)) : Wp L xs M pc lv st sh rf iv lg Q := xwb_Wp _ (wpx_Wp n) h
theorem Sp.imp {L : Nat} {xs : Nat → Int32} {M : Nat} {as : List Value} {sh : xSh} {rf : xRf} {iv : xIv} {lg : xLg} {Q Q' : xQ} (h : Sp L xs M as sh rf iv lg Q) (hq : ∀ r sh rf iv lg, Q r sh rf iv lg → Q' r sh rf iv lg) : Sp L xs M as sh rf iv lg Q' := Wp.imp h hq
/-- the same, from a method's entry -/
theorem sgo {L : Nat} {xs : Nat → Int32} {M : Nat} {as : List Value} {sh : xSh} {rf : xRf} {iv : xIv} {lg : xLg} {Q : xQ} (S : List Nat) (n : Nat) (h : xentK (xml M) as (fun lv => xwb L xs M (wpx L xs S M Q n) Q (xstep L xs M 0 lv [] sh rf iv lg))) : Sp L xs M as sh rf iv lg Q := by
  rw [xentK_eq] at h
  exact wgo S n h
/-- from a method's entry, where that is a loop's head -/
theorem sin {L : Nat} {xs : Nat → Int32} {M : Nat} {as : List Value} {sh : xSh} {rf : xRf} {iv : xIv} {lg : xLg} {Q : xQ} (h : xentK (xml M) as (fun lv => Wp L xs M 0 lv [] sh rf iv lg Q)) : Sp L xs M as sh rf iv lg Q := by
  rw [xentK_eq] at h
  exact h
end
section
-- ===== the tables are the code's: each row is decoded, linked, and goes where it says =====
def xlw (p : Nat) : Option Cond := lw_tbl[p]?
def xYf (M : Nat) : MethodName := xn2 xY M ⟨"", "", ""⟩ id
def xccf (M : Nat) : ByteArray := xn2 xcc M ⟨#[]⟩ id
def xretf (M : Nat) : Option FieldType := xn2 xret M none id
def xfrf (M : Nat) : Nat := xn2 xfr M 0 id
def xlof (M : Nat) : Nat := xn2 xlo M 0 id
def xnpf (M : Nat) : Nat := xn2 xnp M 0 id
def xcwf (M : Nat) : Nat := xn2 xcw M 0 id
def xiwf (M : Nat) : Nat := xn2 xiw M 0 id
def xbpc (cs : List (List xIns)) (i : Nat) : Nat := xn2 cs i 0 (fun e => e.1)
def xcs (M : Nat) : List (List xIns) := xn2 xcodes M [] id
def xbp (M i : Nat) : Nat := xbpc (xcs M) i
def xokSw (M : Nat) (bp : Nat) : Int → List Int → List (Int32 × Nat) → Bool
  | _, [], [] => true
  | lo, o :: os, q :: sw => decide (q.1.toInt = lo) && (decide ((bp : Int) + o = (xbp M q.2 : Int)) && xokSw M bp (lo + 1) os sw)
  | _, _, _ => false
def xsome {α : Type} (o : Option α) (f : α → Bool) : Bool := match o with
  | some x => f x
  | none => false
def xkty (t : FieldType) : Nat := match t with
  | .int => 0
  | .boolean => 2
  | .object _ => 1
  | .array _ => 1
  | _ => 3
/-- a field's row: its link, its class, its type -/
def xokF (own : String) (idx q ci j kd : Nat) : Bool := xsome xCl[ci]? (fun C => Nat.blt j C.2.2 && (decide ((C.2.1 j).1 = C.1) && (decide (xlw q = some (.fieldLink own idx C.1 (C.2.1 j).2.1 (C.2.1 j).2.2.1)) &&
  xsome xTys[ci]? (fun ty => Nat.beq (xkty (ty j)) kd))))
def xokP (M : Nat) (own : String) (ci j : Nat) : Bool := xsome xCl[ci]? (fun C => (C.2.1 j).2.2.2 == false || (decide ((C.2.1 j).1 = own) && decide ((xYf M).name = "<init>")))
def xokL (own : String) (idx m q nest : Nat) : Bool := match nest with
  | 0 => decide (xlw q = some (.methodLink own idx (xYf m)))
  | _ => decide (xlw q = some (.methodLinkNest own idx (xYf m) "StepRings"))
/-- what a callee is, wherever it is called -/
def xokC (m : Nat) : Bool := Nat.beq (xbp m 0) 0 && Nat.blt m xNM && (decide (xlw (xcwf m) = some (.code (xYf m) (xccf m) (xml m) (xretf m))) && (decide (xlw (xiwf m) = some (.initialized (xYf m).cls)) && (decide ((xYf m).cls ≠ "java/lang/invoke/MethodHandle" ∧ (xYf m).cls ≠ "java/lang/invoke/VarHandle") && (plainName (xYf m).cls &&
  decide ((parseMethodDescriptor (xYf m).desc).map (fun d => d.parameters.length) = some (xnpf m))))))
def xokR (M m : Nat) : Bool := Nat.blt m xNM && Nat.ble (xfrf m + 1) (xfrf M) && Nat.ble (19 + (xml m + xlof m)) (xlof M)
def xokO (M : Nat) (own : String) (bp nx : Nat) (ins : Instr) (len : Nat) (os : List Nat) (sw : List (Int32 × Nat)) (cv : Value) : Bool := match ins with
  | .iconst n => Nat.beq len 1 && (Nat.beq (xbp M nx) (bp + 1) && decide (cv = .int (Int32.ofInt n)))
  | .bipush n => Nat.beq len 2 && (Nat.beq (xbp M nx) (bp + 2) && decide (cv = .int (Int8.ofInt n).toInt32))
  | .sipush n => Nat.beq len 3 && (Nat.beq (xbp M nx) (bp + 3) && decide (cv = .int (Int16.ofInt n).toInt32))
  | .lconst n => Nat.beq len 1 && (Nat.beq (xbp M nx) (bp + 1) && decide (cv = .long (Int64.ofNat (n : Nat))))
  | .ldc i => Nat.beq len 2 && (Nat.beq (xbp M nx) (bp + 2) && (match os, cv with
    | [q], .int v => decide (xlw q = some (.constant own i v))
    | _, _ => false))
  | .ldc_w i => Nat.beq len 3 && (Nat.beq (xbp M nx) (bp + 3) && (match os, cv with
    | [q], .int v => decide (xlw q = some (.constant own i v))
    | _, _ => false))
  | .ldc2_w i => Nat.beq len 3 && (Nat.beq (xbp M nx) (bp + 3) && (match os, cv with
    | [q], .long v => decide (xlw q = some (.constantLong own i v))
    | _, _ => false))
  | .iload_n k => Nat.beq len 1 && (Nat.beq (xbp M nx) (bp + 1) && decide (os = [(k : Nat)]))
  | .lload_n k => Nat.beq len 1 && (Nat.beq (xbp M nx) (bp + 1) && decide (os = [(k : Nat)]))
  | .aload_n k => Nat.beq len 1 && (Nat.beq (xbp M nx) (bp + 1) && decide (os = [(k : Nat)]))
  | .istore_n k => Nat.beq len 1 && (Nat.beq (xbp M nx) (bp + 1) && (decide (os = [(k : Nat)]) && Nat.blt k (xml M)))
  | .lstore_n k => Nat.beq len 1 && (Nat.beq (xbp M nx) (bp + 1) && (decide (os = [(k : Nat)]) && Nat.blt (k + 1) (xml M)))
  | .astore_n k => Nat.beq len 1 && (Nat.beq (xbp M nx) (bp + 1) && (decide (os = [(k : Nat)]) && Nat.blt k (xml M)))
  | .iload k => Nat.beq len 2 && (Nat.beq (xbp M nx) (bp + 2) && decide (os = [k]))
  | .lload k => Nat.beq len 2 && (Nat.beq (xbp M nx) (bp + 2) && decide (os = [k]))
  | .aload k => Nat.beq len 2 && (Nat.beq (xbp M nx) (bp + 2) && decide (os = [k]))
  | .istore k => Nat.beq len 2 && (Nat.beq (xbp M nx) (bp + 2) && (decide (os = [k]) && Nat.blt k (xml M)))
  | .lstore k => Nat.beq len 2 && (Nat.beq (xbp M nx) (bp + 2) && (decide (os = [k]) && Nat.blt (k + 1) (xml M)))
  | .astore k => Nat.beq len 2 && (Nat.beq (xbp M nx) (bp + 2) && (decide (os = [k]) && Nat.blt k (xml M)))
  | .iinc k n => Nat.beq len 3 && (Nat.beq (xbp M nx) (bp + 3) && (decide (os = [k]) && (Nat.blt k (xml M) && decide (cv = .int (Int32.ofInt n)))))
  | .goto off => Nat.beq len 3 && (match os with
    | [t] => decide ((bp : Int) + off = (xbp M t : Int))
    | _ => false)
  | .ifCond _ off => Nat.beq len 3 && (Nat.beq (xbp M nx) (bp + 3) && (match os with
    | [t] => decide ((bp : Int) + off = (xbp M t : Int))
    | _ => false))
  | .if_icmp _ off => Nat.beq len 3 && (Nat.beq (xbp M nx) (bp + 3) && (match os with
    | [t] => decide ((bp : Int) + off = (xbp M t : Int))
    | _ => false))
  | .tableswitch d lo hi offs => (match os with
    | [t] => decide ((bp : Int) + d = (xbp M t : Int)) && (decide (hi = lo + (offs.toList.length : Int) - 1) && xokSw M bp lo offs.toList sw)
    | _ => false)
  | .getfield idx => Nat.beq len 3 && (Nat.beq (xbp M nx) (bp + 3) && (match os with
    | [q, ci, j, kd] => xokF own idx q ci j kd
    | _ => false))
  | .putfield idx => Nat.beq len 3 && (Nat.beq (xbp M nx) (bp + 3) && (match os with
    | [q, ci, j, kd] => xokF own idx q ci j kd && xokP M own ci j
    | _ => false))
  | .new idx => Nat.beq len 3 && (Nat.beq (xbp M nx) (bp + 3) && (match os with
    | [q, ci, n, q2] => xsome xCl[ci]? (fun C => Nat.beq n C.2.2 && (decide (xlw q = some (.classLink own idx C.1)) && (decide (xlw q2 = some (.instantiable C.1 C.2.2)) && decide (Cond.initialized C.1 ∈ lw_tbl))))
    | _ => false))
  | .newarray _ => Nat.beq len 2 && Nat.beq (xbp M nx) (bp + 2)
  | .anewarray idx => Nat.beq len 3 && (Nat.beq (xbp M nx) (bp + 3) && (match os with
    | [q] => decide (xlw q = some (.classLink own idx "StepRings$Sheet"))
    | _ => false))
  | .multianewarray idx d => Nat.beq len 4 && (Nat.beq (xbp M nx) (bp + 4) && (Nat.beq d 2 && (match os with
    | [q] => decide (xlw q = some (.classLink own idx "[[I"))
    | _ => false)))
  | .invokestatic idx => Nat.beq len 3 && (Nat.beq (xbp M nx) (bp + 3) && (match os with
    | [0, q, 0] => decide (xlw q = some (.methodLink own idx arraycopyName)) && (Nat.ble 1 (xfrf M) && Nat.ble 26 (xlof M))
    | [0, q, 1] => decide (xlw q = some (.methodLink own idx Lib.Math.max.name)) && (Nat.ble 1 (xfrf M) && Nat.ble 21 (xlof M))
    | [0, q, 2] => decide (xlw q = some (.methodLink own idx Lib.Math.min.name)) && (Nat.ble 1 (xfrf M) && Nat.ble 21 (xlof M))
    | [m1 + 1, q, k2, _, np, nest] => Nat.blt 0 m1 && (xokL own idx m1 q nest && (decide (xlw k2 = some (.static (xYf m1))) && (Nat.beq np (xnpf m1) && xokR M m1)))
    | _ => false))
  | .invokespecial idx => Nat.beq len 3 && (Nat.beq (xbp M nx) (bp + 3) && (match os with
    | [0, q] => decide (xlw q = some (.methodLink own idx Lib.objectInit)) && (Nat.ble 1 (xfrf M) && Nat.ble 20 (xlof M))
    | [m1 + 1, q, k2, _, np, nest] => Nat.blt 0 m1 && (xokL own idx m1 q nest && (decide (xlw k2 = some (.instanceMethod (xYf m1))) && (Nat.beq np (xnpf m1 + 1) && (decide ((xYf m1).name = "<init>") && (decide (xretf m1 = none) && xokR M m1)))))
    | _ => false))
  | .invokevirtual idx => Nat.beq len 3 && (Nat.beq (xbp M nx) (bp + 3) && (match os with
    | [m1 + 1, q, k2, k3, np, nest, ci] => Nat.blt 0 m1 && (xokL own idx m1 q nest && (decide (xlw k2 = some (.instanceMethod (xYf m1))) && (decide (xlw k3 = some (.selects (xYf m1).cls (xYf m1) (xYf m1))) && (Nat.beq np (xnpf m1 + 1) && (xsome xCl[ci]? (fun C => decide (C.1 = (xYf m1).cls)) && xokR M m1)))))
    | _ => false))
  | _ => Nat.beq len 1 && Nat.beq (xbp M nx) (bp + 1)
def xokI (M : Nat) (own : String) (cc : ByteArray) (e : xIns) : Bool := match e with
  | (bp, nx, ins, len, os, sw, cv) => decide (decode cc bp = .ok (ins, len)) && (match ins with
    | .ireturn => Nat.beq len 1
    | .lreturn => Nat.beq len 1
    | .areturn => Nat.beq len 1
    | .return_ => Nat.beq len 1
    | _ => xokO M own bp nx ins len os sw cv)
def xokM (M : Nat) : Bool := (xcs M).all (fun c => c.all (fun e => xokI M (xYf M).cls (xccf M) e)) && (match M with
  | 0 => true
  | m + 1 => xokC (m + 1) || Nat.ble xNM (m + 1))
end
section
-- ===== how the small machine's pictures stand in the heap =====
def xtv (a : Nat → Nat) (v : Value) : Value := match v with
  | .ref k => .ref (a k)
  | v => v
theorem xtv_cat (a : Nat → Nat) (v : Value) : (xtv a v).category = v.category := by cases v <;> rfl
def xkd (ci j : Nat) : Bool := match xKd[ci]? with
  | some l => (match l[j]? with
    | some b => b
    | none => false)
  | none => false
def xrfo (rf : xRf) (k j : Nat) : Option Nat := match rf[k]? with
  | some r => (match r[j]? with
    | some o => o
    | none => none)
  | none => none
def xfs (a : Nat → Nat) (rf : xRf) (iv : xIv) (k ci n : Nat) : List Value := (List.range n).map (fun j => if xkd ci j = true then va_rf ((xrfo rf k j).map a) else .int (iv k j))
def xcell (dA : Nat → ClassId) (a : Nat → Nat) (rf : xRf) (iv : xIv) (lg : xLg) (k : Nat) (q : Nat × Nat) : va_E := match q.1 with
  | 0 => .inl (dA 0, q.2, .inl (iv k))
  | 1 => .inl (dA 1, q.2, .inr (.inl (lg k)))
  | 2 => .inl (dA 2, q.2, .inl (iv k))
  | 3 => .inl (dA 3, q.2, .inr (.inr (.inr (.inr (fun j => (xrfo rf k j).map a)))))
  | 4 => .inl (dA 4, q.2, .inr (.inr (.inr (.inr (fun j => (xrfo rf k j).map a)))))
  | t => .inr (t - 10, xfs a rf iv k (t - 10) q.2)
def xws (dA : Nat → ClassId) (a : Nat → Nat) (sh : xSh) (rf : xRf) (iv : xIv) (lg : xLg) : va_W := (List.range sh.length).map (fun k => (a k, xcell dA a rf iv lg k (sh.getD k (0, 0))))
def xtys (dA : Nat → ClassId) : List (ClassId × FieldType) := [(dA 0, .int), (dA 1, .long), (dA 2, .char), (dA 3, .array .int), (dA 4, .object "StepRings$Sheet")]
def xsz (sh : xSh) : Nat := (sh.map (fun q => q.2)).sum
section XW
variable {dA : Nat → ClassId} {a a' : Nat → Nat} {sh : xSh} {rf rf' : xRf} {iv iv' : xIv} {lg lg' : xLg}
theorem xcell_obj (k ci n : Nat) : xcell dA a rf iv lg k (10 + ci, n) = .inr (ci, xfs a rf iv k ci n) := by
  unfold xcell
  dsimp only
  split
  · omega
  · omega
  · omega
  · omega
  · omega
  · rw [Nat.add_sub_cancel_left]
theorem xws_len : (xws dA a sh rf iv lg).length = sh.length := by simp [xws]
theorem xws_get {k : Nat} {q : Nat × Nat} (h : sh[k]? = some q) : (xws dA a sh rf iv lg)[k]? = some (a k, xcell dA a rf iv lg k q) := by
  have hk : k < sh.length := (List.getElem?_eq_some_iff.mp h).1
  unfold xws
  rw [List.getElem?_map, List.getElem?_range hk]
  simp [List.getD, h]
theorem xws_none {k : Nat} (h : sh.length ≤ k) : (xws dA a sh rf iv lg)[k]? = none := List.getElem?_eq_none (by rw [xws_len]; exact h)
theorem xcell_congr {k : Nat} {q : Nat × Nat} (h1 : iv' k = iv k) (h2 : lg' k = lg k) (h3 : ∀ j, (xrfo rf' k j).map a' = (xrfo rf k j).map a) : xcell dA a' rf' iv' lg' k q = xcell dA a rf iv lg k q := by
  have h4 : (fun j => (xrfo rf' k j).map a') = (fun j => (xrfo rf k j).map a) := funext h3
  have h5 : ∀ ci n, xfs a' rf' iv' k ci n = xfs a rf iv k ci n := fun ci n => by
    unfold xfs
    apply List.map_congr_left
    intro j _
    rw [h3 j, h1]
  unfold xcell
  rw [h1, h2, h4]
  split <;> first | rfl | rw [h5]
theorem xws_set {k : Nat} {q : Nat × Nat} {x : va_E} (hk : sh[k]? = some q) (h1 : xcell dA a rf' iv' lg' k q = x) (h2 : ∀ k' : Nat, k' ≠ k → iv' k' = iv k' ∧ lg' k' = lg k' ∧ ∀ j, xrfo rf' k' j = xrfo rf k' j) : (xws dA a sh rf iv lg).set k (a k, x) = xws dA a sh rf' iv' lg' := by
  have hkl : k < sh.length := (List.getElem?_eq_some_iff.mp hk).1
  apply List.ext_getElem?
  intro i
  by_cases hi : i < sh.length
  · obtain ⟨qi, hqi⟩ : ∃ qi, sh[i]? = some qi := ⟨_, List.getElem?_eq_getElem hi⟩
    by_cases he : k = i
    · subst he
      rw [List.getElem?_set_self (by rw [xws_len]; exact hkl), xws_get hk, h1]
    · have hc := h2 i (fun z => he z.symm)
      rw [List.getElem?_set_ne he, xws_get hqi, xws_get hqi, xcell_congr (a := a) (a' := a) (rf := rf) (rf' := rf') (iv := iv) (iv' := iv') (lg := lg) (lg' := lg') hc.1 hc.2.1 (fun j => by rw [hc.2.2 j])]
  · rw [xws_none (Nat.le_of_not_lt hi), List.getElem?_eq_none (by rw [List.length_set, xws_len]; exact Nat.le_of_not_lt hi)]
theorem xu2_ne {α : Type} {f : Nat → Nat → α} {k j k' : Nat} {x : α} (h : k' ≠ k) : xu2 f k j x k' = f k' := by
  unfold xu2
  funext b
  rw [if_neg h]
theorem xu2_row (f : Nat → Nat → Int32) (k j : Nat) (x : Int32) : xu2 f k j x k = upd (f k) j x := by
  unfold xu2 upd
  funext b
  rw [if_pos rfl]
theorem xu2_rowL (f : Nat → Nat → Int64) (k j : Nat) (x : Int64) : xu2 f k j x k = vp_updL (f k) j x := by
  unfold xu2 vp_updL
  funext b
  rw [if_pos rfl]
theorem xur_ne {α : Type} {f : Nat → Nat → α} {k k' : Nat} {x : Nat → α} (h : k' ≠ k) : xur f k x k' = f k' := by unfold xur; rw [if_neg h]
theorem xur_row {α : Type} {f : Nat → Nat → α} {k : Nat} {x : Nat → α} : xur f k x k = x := by unfold xur; rw [if_pos rfl]
theorem xzr_lt {α : Type} {f : Nat → Nat → α} {n k : Nat} {z : α} (h : k < n) : xzr f n z k = f k := by
  unfold xzr
  funext b
  rw [if_neg (Nat.not_le.mpr h)]
theorem xzr_ge {α : Type} {f : Nat → Nat → α} {n k : Nat} {z : α} (h : n ≤ k) : xzr f n z k = fun _ => z := by
  unfold xzr
  funext b
  rw [if_pos h]
theorem xnth_eq {α β : Type} : ∀ (l : List α) (i : Nat) (d : β) (f : α → β), xnth l i d f = (match l[i]? with
    | some x => f x
    | none => d)
  | [], _, _, _ => rfl
  | _ :: _, 0, _, _ => rfl
  | _ :: l, i + 1, d, f => by rw [List.getElem?_cons_succ]; exact xnth_eq l i d f
theorem xnth_inv {α β : Type} {l : List α} {i : Nat} {d : β} {f : α → β} {y : β} (h : xnth l i d f = y) (hd : d ≠ y) : ∃ x, l[i]? = some x ∧ f x = y := by
  rw [xnth_eq] at h
  cases hx : l[i]? with
  | none => rw [hx] at h; exact absurd h hd
  | some x => rw [hx] at h; exact ⟨x, rfl, h⟩
theorem xset_eq {β : Type} : ∀ (l : xLv) (i : Nat) (v : Option Value) (d : β) (f : xLv → β), xset l i v d f = if i < l.length then f (l.set i v) else d
  | [], _, _, _, _ => rfl
  | _ :: l, 0, _, _, _ => by rw [if_pos (by simp)]; rfl
  | o :: l, i + 1, v, d, f => by
    show xset l i v d (fun l' => f (o :: l')) = _
    rw [xset_eq l i v d]
    simp [List.set_cons_succ]
theorem xsnoc_eq {α β : Type} : ∀ (l : List α) (x : α) (f : List α → β), xsnoc l x f = f (l ++ [x])
  | [], _, _ => rfl
  | a :: l, x, f => xsnoc_eq l x (fun l' => f (a :: l'))
theorem xguard_inv {β : Type} {c : Bool} {d f y : β} (h : xguard c d f = y) (hd : d ≠ y) : c = true ∧ f = y := by
  cases c with
  | true => exact ⟨rfl, h⟩
  | false => exact absurd h hd
theorem xsetr_eq {β : Type} : ∀ (l : List (Option Nat)) (i : Nat) (v : Option Nat) (d : β) (f : List (Option Nat) → β), xsetr l i v d f = if i < l.length then f (l.set i v) else d
  | [], _, _, _, _ => rfl
  | _ :: l, 0, _, _, _ => by rw [if_pos (by simp)]; rfl
  | o :: l, i + 1, v, d, f => by
    show xsetr l i v d (fun l' => f (o :: l')) = _
    rw [xsetr_eq l i v d]
    simp [List.set_cons_succ]
theorem xsetrr_inv {β : Type} {v : Option Nat} {j : Nat} : ∀ (rf : xRf) (k : Nat) (d : β) (f : xRf → β) (y : β), xsetrr rf k j v d f = y → d ≠ y → ∃ rf' : xRf, f rf' = y ∧ rf'.length = rf.length ∧ ∀ k' j', xrfo rf' k' j' = if k' = k ∧ j' = j then v else xrfo rf k' j'
  | [], _, _, _, _, h, hd => absurd h hd
  | r :: l, 0, d, f, y, h, hd => by
    have h1 : xsetr r j v d (fun r' => f (r' :: l)) = y := h
    rw [xsetr_eq] at h1
    by_cases hj : j < r.length
    · rw [if_pos hj] at h1
      refine ⟨_, h1, rfl, fun k' j' => ?_⟩
      cases k' with
      | zero =>
        by_cases e : j' = j
        · subst e
          rw [if_pos ⟨rfl, rfl⟩]
          simp [xrfo, List.getElem?_set_self hj]
        · rw [if_neg (fun z => e z.2)]
          simp [xrfo, List.getElem?_set_ne (fun z : j = j' => e z.symm)]
      | succ k' =>
        rw [if_neg (fun z => by omega)]
        simp [xrfo]
    · rw [if_neg hj] at h1
      exact absurd h1 hd
  | o :: l, k + 1, d, f, y, h, hd => by
    obtain ⟨rf', h1, h2, h3⟩ := xsetrr_inv l k d (fun l' => f (o :: l')) y h hd
    refine ⟨o :: rf', h1, by simp [h2], fun k' j' => ?_⟩
    cases k' with
    | zero => rw [if_neg (fun z => by omega)]; simp [xrfo]
    | succ k' =>
      have e1 : ∀ (z : List (Option Nat)) (w : xRf), xrfo (z :: w) (k' + 1) j' = xrfo w k' j' := fun z w => by simp [xrfo]
      rw [e1, e1, h3 k' j']
      by_cases hk : k' = k ∧ j' = j
      · rw [if_pos hk, if_pos ⟨by omega, hk.2⟩]
      · rw [if_neg hk, if_neg (fun z => hk ⟨by omega, z.2⟩)]
theorem xfs_get {k ci n j : Nat} (h : j < n) : (xfs a rf iv k ci n)[j]? = some (if xkd ci j = true then va_rf ((xrfo rf k j).map a) else .int (iv k j)) := by
  unfold xfs
  rw [List.getElem?_map, List.getElem?_range h]
  rfl
theorem xfs_len (k ci n : Nat) : (xfs a rf iv k ci n).length = n := by simp [xfs]
theorem xfs_setI {k ci n j : Nat} {x : Int32} (hk : xkd ci j = false) : (xfs a rf iv k ci n).set j (.int x) = xfs a rf (xu2 iv k j x) k ci n := by
  apply List.ext_getElem?
  intro i
  by_cases hi : i < n
  · by_cases e : j = i
    · subst e
      rw [List.getElem?_set_self (by rw [xfs_len]; exact hi), xfs_get hi]
      simp [hk, xu2]
    · rw [List.getElem?_set_ne e, xfs_get hi, xfs_get hi]
      have e2 : xu2 iv k j x k i = iv k i := by
        unfold xu2
        rw [if_pos rfl, if_neg (fun z : i = j => e z.symm)]
      rw [e2]
  · rw [List.getElem?_eq_none (by rw [List.length_set, xfs_len]; omega), List.getElem?_eq_none (by rw [xfs_len]; omega)]
theorem xfs_setR {k ci n j z : Nat} (hk : xkd ci j = true) (hr : ∀ j', xrfo rf' k j' = if j' = j then some z else xrfo rf k j') : (xfs a rf iv k ci n).set j (.ref (a z)) = xfs a rf' iv k ci n := by
  apply List.ext_getElem?
  intro i
  by_cases hi : i < n
  · by_cases e : j = i
    · subst e
      rw [List.getElem?_set_self (by rw [xfs_len]; exact hi), xfs_get hi, hr j]
      simp [hk, va_rf]
    · rw [List.getElem?_set_ne e, xfs_get hi, xfs_get hi, hr i, if_neg (fun w : i = j => e w.symm)]
  · rw [List.getElem?_eq_none (by rw [List.length_set, xfs_len]; omega), List.getElem?_eq_none (by rw [xfs_len]; omega)]
theorem xroN_spec {n : Nat} : ∀ {l : List (Option Nat)}, xroN n l = true → ∀ (j k : Nat), l[j]? = some (some k) → k < n
  | [], _, j, k, h => by simp at h
  | none :: l, h, 0, k, h2 => by simp at h2
  | none :: l, h, j + 1, k, h2 => xroN_spec (l := l) h j k (by simpa using h2)
  | some x :: l, h, j, k, h2 => by
    have h3 : (Nat.blt x n && xroN n l) = true := h
    rw [Bool.and_eq_true] at h3
    cases j with
    | zero =>
      have : x = k := by simpa using h2
      subst this
      exact Nat.le_of_ble_eq_true h3.1
    | succ j => exact xroN_spec (l := l) h3.2 j k (by simpa using h2)
theorem xroR_spec {n : Nat} : ∀ {rf : xRf}, xroR n rf = true → ∀ (k j z : Nat), xrfo rf k j = some z → z < n
  | [], _, k, j, z, h => by simp [xrfo] at h
  | r :: l, h, k, j, z, h2 => by
    have h3 : (xroN n r && xroR n l) = true := h
    rw [Bool.and_eq_true] at h3
    cases k with
    | zero =>
      have h4 : (match r[j]? with
        | some o => o
        | none => none) = some z := h2
      cases hr : r[j]? with
      | none => rw [hr] at h4; cases h4
      | some o =>
        rw [hr] at h4
        have h5 : o = some z := h4
        subst h5
        exact xroN_spec h3.1 j z hr
    | succ k => exact xroR_spec (rf := l) h3.2 k j z (by simpa [xrfo] using h2)
theorem xrfo_none {k j : Nat} (h : rf.length ≤ k) : xrfo rf k j = none := by
  unfold xrfo
  rw [List.getElem?_eq_none h]
theorem xrfo_app {k j : Nat} {l : xRf} (h : k < rf.length) : xrfo (rf ++ l) k j = xrfo rf k j := by
  unfold xrfo
  rw [List.getElem?_append_left h]
/-- more cells: what stood there stands as it did -/
theorem xws_app {l : xSh} {lr : xRf} (hl : rf.length = sh.length) (hr : xroR sh.length rf = true) (ha : ∀ k, k < sh.length → a' k = a k) (h1 : ∀ k, k < sh.length → iv' k = iv k ∧ lg' k = lg k) :
    xws dA a' (sh ++ l) (rf ++ lr) iv' lg' = xws dA a sh rf iv lg ++ (List.range l.length).map (fun i => (a' (sh.length + i), xcell dA a' (rf ++ lr) iv' lg' (sh.length + i) (l.getD i (0, 0)))) := by
  apply List.ext_getElem?
  intro i
  by_cases hi : i < sh.length
  · obtain ⟨qi, hqi⟩ : ∃ qi, sh[i]? = some qi := ⟨_, List.getElem?_eq_getElem hi⟩
    have hqi2 : (sh ++ l)[i]? = some qi := by rw [List.getElem?_append_left hi]; exact hqi
    rw [xws_get hqi2, List.getElem?_append_left (by rw [xws_len]; exact hi), xws_get hqi, ha i hi]
    rw [xcell_congr (h1 i hi).1 (h1 i hi).2 (fun j => ?_)]
    rw [xrfo_app (by rw [hl]; exact hi)]
    cases hz : xrfo rf i j with
    | none => rfl
    | some z => simp [ha z (xroR_spec hr i j z hz)]
  · by_cases hi2 : i < sh.length + l.length
    · obtain ⟨d, rfl⟩ : ∃ d, i = sh.length + d := ⟨i - sh.length, by omega⟩
      obtain ⟨qi, hqi⟩ : ∃ qi, l[d]? = some qi := ⟨_, List.getElem?_eq_getElem (by omega)⟩
      have hqi2 : (sh ++ l)[sh.length + d]? = some qi := by rw [List.getElem?_append_right (by omega)]; simpa using hqi
      rw [xws_get hqi2, List.getElem?_append_right (by rw [xws_len]; omega), xws_len, List.getElem?_map, Nat.add_sub_cancel_left, List.getElem?_range (by omega)]
      simp [List.getD, hqi]
    · rw [xws_none (by rw [List.length_append]; omega), List.getElem?_eq_none (by rw [List.length_append, xws_len, List.length_map, List.length_range]; omega)]
end XW
-- locals
def xal (a : Nat → Nat) : Nat → xLv → List (Nat × Value)
  | _, [] => []
  | i, none :: l => xal a (i + 1) l
  | i, some v :: l => (i, xtv a v) :: xal a (i + 1) l
theorem xal_mem {a : Nat → Nat} {q : Nat × Value} : ∀ (lv : xLv) (i : Nat), q ∈ xal a i lv → ∃ j v, lv[j]? = some (some v) ∧ q = (i + j, xtv a v)
  | [], _, h => by simp [xal] at h
  | none :: l, i, h => by
    obtain ⟨j, v, h1, h2⟩ := xal_mem l (i + 1) h
    exact ⟨j + 1, v, by simpa using h1, by rw [h2]; congr 1; omega⟩
  | some w :: l, i, h => by
    rcases List.mem_cons.mp h with h | h
    · exact ⟨0, w, rfl, by rw [h]; rfl⟩
    · obtain ⟨j, v, h1, h2⟩ := xal_mem l (i + 1) h
      exact ⟨j + 1, v, by simpa using h1, by rw [h2]; congr 1; omega⟩
theorem xal_in {a : Nat → Nat} {v : Value} : ∀ (lv : xLv) (i j : Nat), lv[j]? = some (some v) → (i + j, xtv a v) ∈ xal a i lv
  | [], _, _, h => by simp at h
  | none :: l, i, 0, h => by simp at h
  | none :: l, i, j + 1, h => by
    have := xal_in (a := a) l (i + 1) j (by simpa using h)
    rw [show i + (j + 1) = i + 1 + j by omega]
    exact this
  | some w :: l, i, 0, h => by
    have e : w = v := by simpa using h
    subst e
    exact List.mem_cons_self
  | some w :: l, i, j + 1, h => by
    have := xal_in (a := a) l (i + 1) j (by simpa using h)
    rw [show i + (j + 1) = i + 1 + j by omega]
    exact List.mem_cons_of_mem _ this
theorem xal_at {a : Nat → Nat} {ls : Array Slot} {nL : Nat} {lv : xLv} (h : lv_has ls nL (xal a 0 lv)) {i : Nat} {v : Value} (hi : lv[i]? = some (some v)) : ls[i]? = some (.val (xtv a v)) := by
  have := h.2.2 _ (xal_in (a := a) lv 0 i hi)
  simpa using this
theorem xal_move {a a' : Nat → Nat} {ls : Array Slot} {nL : Nat} {lv : xLv} (h : lv_has ls nL (xal a 0 lv)) (ha : ∀ (i : Nat) (v : Value), lv[i]? = some (some v) → xtv a' v = xtv a v) : lv_has ls nL (xal a' 0 lv) := by
  refine ⟨h.1, h.2.1, fun q hq => ?_⟩
  obtain ⟨j, v, h1, h2⟩ := xal_mem lv 0 hq
  rw [h2, Nat.zero_add, ha j v h1]
  exact xal_at h h1
theorem xsto_inv {β : Type} {lv : xLv} {i : Nat} {v : Value} {d : β} {f : xLv → β} {y : β} (h : xsto lv i v d f = y) (hd : d ≠ y) : i < lv.length ∧ f (lv.set i (some v)) = y ∧ ∀ j w, j + 1 = i → lv[j]? = some (some w) → ¬ w.category = 2 := by
  unfold xsto at h
  split at h
  · rw [xset_eq] at h
    by_cases hi : 0 < lv.length
    · rw [if_pos hi] at h
      exact ⟨hi, h, fun j w hj _ => by omega⟩
    · rw [if_neg hi] at h; exact absurd h hd
  · rename_i j
    obtain ⟨o, ho, h2⟩ := xnth_inv h hd
    have key : ∀ w, o = some w → w.category = 2 → d = y := by
      intro w hw hc
      subst hw
      cases w <;> first | exact h2 | cases hc
    have h3 : xset lv (j + 1) (some v) d f = y := by
      split at h2
      · exact absurd h2 hd
      · exact absurd h2 hd
      · exact h2
    rw [xset_eq] at h3
    by_cases hi : j + 1 < lv.length
    · rw [if_pos hi] at h3
      refine ⟨hi, h3, fun j' w hj hw hc => ?_⟩
      have e : j' = j := by omega
      subst e
      rw [ho] at hw
      exact hd (key w (Option.some.inj hw) hc)
    · rw [if_neg hi] at h3; exact absurd h3 hd
theorem xal_set1 {a : Nat → Nat} {ls : Array Slot} {nL : Nat} {lv : xLv} {i : Nat} {v : Value} (hk : ∀ j w, j + 1 = i → lv[j]? = some (some w) → ¬ w.category = 2) (h : lv_has ls nL ((i, xtv a v) :: (xal a 0 lv).filter (fun q => !(q.1 == i) && !(q.1 + 1 == i && q.2.category == 2)))) : lv_has ls nL (xal a 0 (lv.set i (some v))) := by
  refine ⟨h.1, h.2.1, fun q hq => ?_⟩
  obtain ⟨j, w, h1, h2⟩ := xal_mem _ 0 hq
  rw [Nat.zero_add] at h2
  subst h2
  by_cases e : i = j
  · subst e
    have hlt : i < (lv.set i (some v)).length := (List.getElem?_eq_some_iff.mp h1).1
    rw [List.length_set] at hlt
    rw [List.getElem?_set_self hlt] at h1
    have e2 : v = w := by simpa using h1
    subst e2
    exact h.2.2 _ List.mem_cons_self
  · rw [List.getElem?_set_ne e] at h1
    refine h.2.2 _ (List.mem_cons_of_mem _ (List.mem_filter.mpr ⟨by simpa using xal_in (a := a) lv 0 j h1, ?_⟩))
    simp only [Bool.and_eq_true, Bool.not_eq_true', beq_eq_false_iff_ne, ne_eq, Bool.and_eq_false_iff]
    refine ⟨fun z => e z.symm, ?_⟩
    by_cases hj : j + 1 = i
    · right; rw [xtv_cat]; exact hk j w hj h1
    · left; exact hj
theorem xal_set2 {a : Nat → Nat} {ls : Array Slot} {nL : Nat} {lv : xLv} {i : Nat} {v : Value} (hk : ∀ j w, j + 1 = i → lv[j]? = some (some w) → ¬ w.category = 2) (h : lv_has ls nL ((i, xtv a v) :: (xal a 0 lv).filter (fun q => !(q.1 == i) && (!(q.1 == i + 1) && !(q.1 + 1 == i && q.2.category == 2))))) : lv_has ls nL (xal a 0 ((lv.set i (some v)).set (i + 1) none)) := by
  refine ⟨h.1, h.2.1, fun q hq => ?_⟩
  obtain ⟨j, w, h1, h2⟩ := xal_mem _ 0 hq
  rw [Nat.zero_add] at h2
  subst h2
  by_cases e1 : i + 1 = j
  · subst e1
    have hlt : i + 1 < ((lv.set i (some v)).set (i + 1) none).length := (List.getElem?_eq_some_iff.mp h1).1
    rw [List.length_set] at hlt
    rw [List.getElem?_set_self hlt] at h1
    cases h1
  · rw [List.getElem?_set_ne e1] at h1
    by_cases e : i = j
    · subst e
      have hlt : i < (lv.set i (some v)).length := (List.getElem?_eq_some_iff.mp h1).1
      rw [List.length_set] at hlt
      rw [List.getElem?_set_self hlt] at h1
      have e2 : v = w := by simpa using h1
      subst e2
      exact h.2.2 _ List.mem_cons_self
    · rw [List.getElem?_set_ne e] at h1
      refine h.2.2 _ (List.mem_cons_of_mem _ (List.mem_filter.mpr ⟨by simpa using xal_in (a := a) lv 0 j h1, ?_⟩))
      simp only [Bool.and_eq_true, Bool.not_eq_true', beq_eq_false_iff_ne, ne_eq, Bool.and_eq_false_iff]
      refine ⟨fun z => e z.symm, fun z => e1 z.symm, ?_⟩
      by_cases hj : j + 1 = i
      · right; rw [xtv_cat]; exact hk j w hj h1
      · left; exact hj
theorem xent_args {a : Nat → Nat} {q : Nat × Value} : ∀ (n : Nat) (as : List Value) (i : Nat), q ∈ xal a i (xent n as) → q ∈ lv_args i (as.map (xtv a))
  | 0, _, _, h => by simp [xent, xal] at h
  | n + 1, [], i, h => by
    have h2 : q ∈ xal a (i + 1) (xent n []) := h
    have := xent_args n [] (i + 1) h2
    simp [lv_args] at this
  | 0 + 1, .long x :: l, i, h => by
    have h2 : q ∈ [(i, xtv a (.long x))] := h
    have h3 : q = (i, xtv a (.long x)) := by simpa using h2
    rw [h3]
    exact List.mem_cons_self
  | (n + 1) + 1, .long x :: l, i, h => by
    have h2 : q ∈ (i, xtv a (.long x)) :: xal a (i + 1 + 1) (xent n l) := h
    rcases List.mem_cons.mp h2 with h3 | h3
    · rw [h3]; exact List.mem_cons_self
    · exact List.mem_cons_of_mem _ (xent_args n l (i + 2) h3)
  | 0 + 1, .double x :: l, i, h => by
    have h2 : q ∈ [(i, xtv a (.double x))] := h
    have h3 : q = (i, xtv a (.double x)) := by simpa using h2
    rw [h3]
    exact List.mem_cons_self
  | (n + 1) + 1, .double x :: l, i, h => by
    have h2 : q ∈ (i, xtv a (.double x)) :: xal a (i + 1 + 1) (xent n l) := h
    rcases List.mem_cons.mp h2 with h3 | h3
    · rw [h3]; exact List.mem_cons_self
    · exact List.mem_cons_of_mem _ (xent_args n l (i + 2) h3)
  | n + 1, .int x :: l, i, h => by
    have h2 : q ∈ (i, xtv a (.int x)) :: xal a (i + 1) (xent n l) := h
    rcases List.mem_cons.mp h2 with h3 | h3
    · rw [h3]; exact List.mem_cons_self
    · exact List.mem_cons_of_mem _ (xent_args n l (i + 1) h3)
  | n + 1, .float x :: l, i, h => by
    have h2 : q ∈ (i, xtv a (.float x)) :: xal a (i + 1) (xent n l) := h
    rcases List.mem_cons.mp h2 with h3 | h3
    · rw [h3]; exact List.mem_cons_self
    · exact List.mem_cons_of_mem _ (xent_args n l (i + 1) h3)
  | n + 1, .ref x :: l, i, h => by
    have h2 : q ∈ (i, xtv a (.ref x)) :: xal a (i + 1) (xent n l) := h
    rcases List.mem_cons.mp h2 with h3 | h3
    · rw [h3]; exact List.mem_cons_self
    · exact List.mem_cons_of_mem _ (xent_args n l (i + 1) h3)
  | n + 1, .null :: l, i, h => by
    have h2 : q ∈ (i, xtv a .null) :: xal a (i + 1) (xent n l) := h
    rcases List.mem_cons.mp h2 with h3 | h3
    · rw [h3]; exact List.mem_cons_self
    · exact List.mem_cons_of_mem _ (xent_args n l (i + 1) h3)
  | n + 1, .retAddr x :: l, i, h => by
    have h2 : q ∈ (i, xtv a (.retAddr x)) :: xal a (i + 1) (xent n l) := h
    rcases List.mem_cons.mp h2 with h3 | h3
    · rw [h3]; exact List.mem_cons_self
    · exact List.mem_cons_of_mem _ (xent_args n l (i + 1) h3)
-- references that are there
theorem xro1_spec {n : Nat} {v : Value} (h : xro1 n v = true) {a a' : Nat → Nat} (ha : ∀ k, k < n ∨ k = 1000 → a' k = a k) : xtv a' v = xtv a v := by
  cases v <;> try rfl
  rename_i k
  have h2 : (Nat.blt k n || Nat.beq k 1000) = true := h
  rw [Bool.or_eq_true] at h2
  have : a' k = a k := ha k (h2.elim (fun z => Or.inl (Nat.le_of_ble_eq_true z)) (fun z => Or.inr (Nat.eq_of_beq_eq_true z)))
  show Value.ref (a' k) = Value.ref (a k)
  rw [this]
theorem xroS_spec {n : Nat} {a a' : Nat → Nat} (ha : ∀ k, k < n ∨ k = 1000 → a' k = a k) : ∀ {l : List Value}, xroS n l = true → l.map (xtv a') = l.map (xtv a)
  | [], _ => rfl
  | v :: l, h => by
    have h2 : (xro1 n v && xroS n l) = true := h
    rw [Bool.and_eq_true] at h2
    rw [List.map_cons, List.map_cons, xro1_spec h2.1 ha, xroS_spec ha h2.2]
theorem xroL_spec {n : Nat} {a a' : Nat → Nat} (ha : ∀ k, k < n ∨ k = 1000 → a' k = a k) : ∀ {l : xLv}, xroL n l = true → ∀ (i : Nat) (v : Value), l[i]? = some (some v) → xtv a' v = xtv a v
  | [], _, i, v, h => by simp at h
  | none :: l, h, 0, v, h2 => by simp at h2
  | none :: l, h, i + 1, v, h2 => xroL_spec ha (l := l) h i v (by simpa using h2)
  | some w :: l, h, i, v, h2 => by
    have h3 : (xro1 n w && xroL n l) = true := h
    rw [Bool.and_eq_true] at h3
    cases i with
    | zero =>
      have e : w = v := by simpa using h2
      subst e
      exact xro1_spec h3.1 ha
    | succ i => exact xroL_spec ha (l := l) h3.2 i v (by simpa using h2)
theorem xcat_sum (a : Nat → Nat) : ∀ l : List Value, ((l.map (xtv a)).map fun v => v.category).sum = xcat l
  | [] => rfl
  | v :: l => by
    have ih := xcat_sum a l
    rw [List.map_cons, List.map_cons, List.sum_cons, ih, xtv_cat]
    cases v <;> rfl
theorem xtake_inv {β : Type} : ∀ (n : Nat) (st acc : List Value) (d : β) (f : List Value → List Value → β) (y : β), xtake n st acc d f = y → d ≠ y → ∃ as st', st = as.reverse ++ st' ∧ as.length = n ∧ f (as ++ acc) st' = y
  | 0, st, acc, _, _, _, h, _ => ⟨[], st, rfl, rfl, h⟩
  | n + 1, [], _, _, _, _, h, hd => absurd h hd
  | n + 1, v :: st, acc, d, f, y, h, hd => by
    obtain ⟨as, st', h1, h2, h3⟩ := xtake_inv n st (v :: acc) d f y h hd
    refine ⟨as ++ [v], st', ?_, by simp [h2], ?_⟩
    · rw [List.reverse_append, h1]; rfl
    · rw [List.append_assoc]; exact h3
theorem xsz_app (a b : xSh) : xsz (a ++ b) = xsz a + xsz b := by simp [xsz]
end
section
-- ===== cells only come =====
def xle (sh sh2 : xSh) : Prop := sh.length ≤ sh2.length ∧ xsz sh ≤ xsz sh2
theorem xle_rfl {sh : xSh} : xle sh sh := ⟨Nat.le_refl _, Nat.le_refl _⟩
theorem xle_trans {a b c : xSh} (h : xle a b) (h2 : xle b c) : xle a c := ⟨Nat.le_trans h.1 h2.1, Nat.le_trans h.2 h2.2⟩
theorem xle_app (a b : xSh) : xle a (a ++ b) := ⟨by rw [List.length_append]; omega, by rw [xsz_app]; omega⟩
def xgr (sh : xSh) (R : xR) : Prop := match R with
  | none => True
  | some (.inl q) => xle sh q.2.2.2.1
  | some (.inr (.inl q)) => xle sh q.2.2.2.2.2.1
  | some (.inr (.inr (.inl q))) => xle sh q.2.2.2.2.1
  | some (.inr (.inr (.inr (.inl q)))) => xle sh q.2.2.2.2.2.1
  | some (.inr (.inr (.inr (.inr (.inl q))))) => xle sh q.2.1
  | some (.inr (.inr (.inr (.inr (.inr (.inl q)))))) => xle sh q.2.2.2.2.2.1
  | some (.inr (.inr (.inr (.inr (.inr (.inr q)))))) => xle sh q.2.2.1
section XGR
variable {sh : xSh}
theorem g_nth {α : Type} {l : List α} {i : Nat} {d : xR} {f : α → xR} (hd : xgr sh d) (h : ∀ x, xgr sh (f x)) : xgr sh (xnth l i d f) := by
  rw [xnth_eq]
  split
  · exact h _
  · exact hd
theorem g_n2 {α : Type} {l : List (List α)} {i : Nat} {d : xR} {f : α → xR} (hd : xgr sh d) (h : ∀ x, xgr sh (f x)) : xgr sh (xn2 l i d f) := g_nth hd (fun _ => g_nth hd h)
theorem g_guard {c : Bool} {d f : xR} (hd : xgr sh d) (h : xgr sh f) : xgr sh (xguard c d f) := by
  cases c
  · exact hd
  · exact h
theorem g_set {lv : xLv} {i : Nat} {v : Option Value} {d : xR} {f : xLv → xR} (hd : xgr sh d) (h : ∀ x, xgr sh (f x)) : xgr sh (xset lv i v d f) := by
  rw [xset_eq]
  split
  · exact h _
  · exact hd
theorem g_sto {lv : xLv} {i : Nat} {v : Value} {d : xR} {f : xLv → xR} (hd : xgr sh d) (h : ∀ x, xgr sh (f x)) : xgr sh (xsto lv i v d f) := by
  unfold xsto
  split
  · exact g_set hd h
  · refine g_nth hd (fun o => ?_)
    split
    · exact hd
    · exact hd
    · exact g_set hd h
theorem g_setr {l : List (Option Nat)} {i : Nat} {v : Option Nat} {d : xR} {f : List (Option Nat) → xR} (hd : xgr sh d) (h : ∀ x, xgr sh (f x)) : xgr sh (xsetr l i v d f) := by
  rw [xsetr_eq]
  split
  · exact h _
  · exact hd
theorem g_setrr {v : Option Nat} {j : Nat} : ∀ (rf : xRf) (k : Nat) (d : xR) (f : xRf → xR), xgr sh d → (∀ x, xgr sh (f x)) → xgr sh (xsetrr rf k j v d f)
  | [], _, _, _, hd, _ => hd
  | _ :: _, 0, _, _, hd, h => g_setr hd (fun _ => h _)
  | _ :: l, k + 1, d, _, hd, h => g_setrr l k d _ hd (fun _ => h _)
theorem g_take : ∀ (n : Nat) (st acc : List Value) (d : xR) (f : List Value → List Value → xR), xgr sh d → (∀ x y, xgr sh (f x y)) → xgr sh (xtake n st acc d f)
  | 0, _, _, _, _, _, h => h _ _
  | _ + 1, [], _, _, _, hd, _ => hd
  | n + 1, _ :: st, _, d, f, hd, h => g_take n st _ d f hd h
set_option maxHeartbeats 4000000 in
theorem xdo_gr (L : Nat) (xs : Nat → Int32) (M : Nat) (lv : xLv) (st : List Value) (rf : xRf) (iv : xIv) (lg : xLg) (nx : Nat) (ins : Instr) (os : List Nat) (sw : List (Int32 × Nat)) (cv : Value) : xgr sh (xdo L xs M lv st sh rf iv lg nx ins os sw cv) := by
  unfold xdo
  split
  all_goals (try simp only [xldI, xldL, xldA, xstI, xstL, xstA, xinc, xbin, xdiv, xbinL, xshL, xcmpL, xunI, xunL, xdup, xdup2, xpop, xgo, xif, xicmp, xtab, xget, xput, xald, xcald, xlald, xast, xcast, xlast, xaald, xaast, xlen, xnew, xnewa, xnewq, xmna, xcpy, xobj, xcall, xcallI, xcallV, xretI, xretL, xretA, xretV, xinv, xinvS, xinvV, xmth, xsto2, xsnoc_eq])
  all_goals repeat' (first | exact trivial | exact xle_rfl | exact xle_app _ _ | refine g_nth trivial (fun _ => ?_) | refine g_n2 trivial (fun _ => ?_) | refine g_guard trivial ?_ | refine g_sto trivial (fun _ => ?_) | refine g_set trivial (fun _ => ?_) | refine g_setrr _ _ _ _ trivial (fun _ => ?_) | refine g_take _ _ _ _ _ trivial (fun _ _ => ?_) | split)
theorem xstep_gr (L : Nat) (xs : Nat → Int32) (M pc : Nat) (lv : xLv) (st : List Value) (rf : xRf) (iv : xIv) (lg : xLg) : xgr sh (xstep L xs M pc lv st sh rf iv lg) := by
  unfold xstep xfetch
  refine g_n2 trivial (fun _ => g_n2 trivial (fun e => ?_))
  obtain ⟨_, nx, ins, _, os, sw, cv⟩ := e
  exact xdo_gr L xs M lv st rf iv lg nx ins os sw cv
end XGR
theorem xsw_le {v : Int32} {g : Nat → Option (Option Value × xMem)} {sh : xSh} {r : Option Value × xMem} {d : Nat} (hg : ∀ t, g t = some r → xle sh r.2.1) : ∀ sw : List (Int32 × Nat), xsw v g d sw = some r → xle sh r.2.1
  | [], h => hg d h
  | q :: l, h => by
    unfold xsw at h
    by_cases hc : v = q.1
    · rw [xite_t hc] at h; exact hg _ h
    · rw [xite_f hc] at h; exact xsw_le hg l h
theorem xexec_gr {L : Nat} {xs : Nat → Int32} : ∀ (n M pc : Nat) (lv : xLv) (st : List Value) (μ : xMem) (r : Option Value × xMem), xexec L xs n M pc lv st μ = some r → xle μ.1 r.2.1
  | 0, _, _, _, _, _, _, h => by cases h
  | n + 1, M, pc, lv, st, (sh, rf, iv, lg), r, h => by
    have ih := @xexec_gr L xs n
    have hR := xstep_gr (sh := sh) L xs M pc lv st rf iv lg
    have h : xrun (xexec L xs n) M (xstep L xs M pc lv st sh rf iv lg) = some r := h
    generalize xstep L xs M pc lv st sh rf iv lg = R at h hR
    match R, h, hR with
    | some (.inl (pc, lv, st, μ)), h, hR => exact xle_trans hR (ih _ _ _ _ _ _ h)
    | some (.inr (.inl (c, t, pc, lv, st, μ))), h, hR =>
      unfold xrun at h
      dsimp only at h
      by_cases hc : c
      · rw [xite_t hc] at h; exact xle_trans hR (ih _ _ _ _ _ _ h)
      · rw [xite_f hc] at h; exact xle_trans hR (ih _ _ _ _ _ _ h)
    | some (.inr (.inr (.inl (c, pc, lv, st, μ)))), h, hR =>
      unfold xrun at h
      dsimp only at h
      by_cases hc : c
      · rw [xite_t hc] at h; exact xle_trans hR (ih _ _ _ _ _ _ h)
      · rw [xite_f hc] at h; cases h
    | some (.inr (.inr (.inr (.inl (m, as, pc, lv, st, μ))))), h, hR =>
      unfold xrun at h
      dsimp only at h
      cases hm : xexec L xs n m 0 (xent (xml m) as) [] μ with
      | none => rw [hm] at h; cases h
      | some q =>
        rw [hm] at h
        exact xle_trans hR (xle_trans (ih _ _ _ _ _ _ hm) (ih _ _ _ _ _ _ h))
    | some (.inr (.inr (.inr (.inr (.inl (r, μ)))))), h, hR =>
      cases h
      exact hR
    | some (.inr (.inr (.inr (.inr (.inr (.inl (v, sw, pc, lv, st, μ))))))), h, hR => exact xle_trans hR (xsw_le (fun t ht => ih _ _ _ _ _ _ ht) sw h)
    | some (.inr (.inr (.inr (.inr (.inr (.inr (c, r, μ))))))), h, hR =>
      unfold xrun at h
      dsimp only at h
      by_cases hc : c
      · rw [xite_t hc] at h; cases h; exact hR
      · rw [xite_f hc] at h; cases h
end
section
-- ===== what stands at a point of a method's walk =====
def xneed (w : Cond) : Bool := goodWord w || (match w with
  | .methodLinkNest _ _ _ _ => true
  | .arrayOver _ => true
  | _ => false)
def xTs : List Cond := lw_tbl.filter xneed
/-- what is known of a class of the tables -/
def xokCls (ci : Nat) (C : vw_C) (ty : Nat → FieldType) : Prop := (∀ w ∈ u_ws C.1 C.2.1 C.2.2, w ∈ xTs) ∧ (∀ k, k < C.2.2 → parseFieldDescriptor (C.2.1 k).2.2.1 = some (ty k)) ∧ (∀ a, a < C.2.2 → ∀ b, b < C.2.2 → a ≠ b → (C.2.1 a).2.1 ≠ (C.2.1 b).2.1) ∧
  (∀ j, j < C.2.2 → xkd ci j = Nat.beq (xkty (ty j)) 1 ∧ defaultValue (ty j) = if xkd ci j = true then .null else .int 0)
/-- all that is checked of the tables by running -/
def xOK : Prop := (∀ M, xokM M = true) ∧ (∀ ci C, xCl[ci]? = some C → ∃ ty, xTys[ci]? = some ty ∧ xokCls ci C ty) ∧ (∀ w ∈ lw_tbl, xneed w = true → goodWord w = true ∨ (∃ a i y h, w = .methodLinkNest a i y h) ∨ (∃ C, w = .arrayOver (.object C)) ∨ w = .arrayOver (.array .int)) ∧
  (Cond.code Lib.Math.max.name Lib.Math.max.code 2 (some .int) ∈ xTs ∧ Cond.static Lib.Math.max.name ∈ xTs ∧ Cond.code Lib.Math.min.name Lib.Math.min.code 2 (some .int) ∈ xTs ∧ Cond.static Lib.Math.min.name ∈ xTs ∧ Cond.initialized "java/lang/Math" ∈ xTs) ∧
  (Cond.native arraycopyName ∈ xTs ∧ Cond.static arraycopyName ∈ xTs ∧ Cond.initialized "java/lang/System" ∈ xTs) ∧ (Cond.instanceMethod Lib.objectInit ∈ xTs ∧ Cond.code Lib.objectInit ⟨#[0xb1]⟩ 1 none ∈ xTs) ∧
  (Cond.arrayClass .int ∈ xTs ∧ Cond.arrayClass .long ∈ xTs ∧ Cond.arrayClass .char ∈ xTs ∧ Cond.arrayOver (.object "StepRings$Sheet") ∈ xTs ∧ Cond.arrayOver (.array .int) ∈ xTs)
def xCx (p : Program) (R : Room) (s : State) (m : MethodId) (args : Array Value) (meth : Method) (c : Code) (D : va_G) (dA : Nat → ClassId) (A : Nat → Prop) (L : Nat) (xs : Nat → Int32) (b M : Nat) : Prop :=
  (p.tables.exec = Jvm.exec ∧ c.code = xccf M ∧ c.maxLocals = xml M ∧ s.vm.findClass (xYf M).cls = some m.cls ∧ (0 < M → meth.name = (xYf M).name)) ∧ (∀ w ∈ xTs, w.before args s = true) ∧ (xfrf M ≤ R.frames ∧ xlof M ≤ R.locals) ∧ va_K D xCl (xtys dA) s ∧ (∀ q, s.heap.size ≤ q → A q) ∧ (M = 0 → va_X b L xs s s.heap ∧ b < s.heap.size ∧ ¬ A b)
def xWd (D : va_G) (dA : Nat → ClassId) (A : Nat → Prop) (s : State) (a : Nat → Nat) (sh : xSh) (rf : xRf) (iv : xIv) (lg : xLg) (H : Heap) (locs : List Loc) : Prop := rf.length = sh.length ∧ va_P D xCl (xws dA a sh rf iv lg) H ∧ va_D A (xws dA a sh rf iv lg) ∧ va_S A s.heap H locs
def xRt (M bp : Nat) (r : Option Value) : Prop :=
  (∃ v, r = some (.int v) ∧ decode (xccf M) bp = .ok (.ireturn, 1) ∧ (xretf M = some .int ∨ (xretf M = some .boolean ∧ (v = 0 ∨ v = 1)))) ∨ (∃ v, r = some (.long v) ∧ decode (xccf M) bp = .ok (.lreturn, 1) ∧ xretf M = some .long) ∨ (∃ v t, r = some (.ref v) ∧ decode (xccf M) bp = .ok (.areturn, 1) ∧ xretf M = some (.array t)) ∨ (r = none ∧ decode (xccf M) bp = .ok (.return_, 1) ∧ xretf M = none)
def xEd (p : Program) (l : Launch) (e : Env) (R : Room) (s : State) (m : MethodId) (args : Array Value) (below : List Frame) (meth : Method) (c : Code) (Q : State → Prop) (D : va_G) (dA : Nat → ClassId) (A : Nat → Prop) (a0 : Nat → Nat) (c0 s0 M : Nat) (r : Option Value) (sh' : xSh) (rf' : xRf) (iv' : xIv) (lg' : xLg) : Prop :=
  ∀ (a : Nat → Nat) (H : Heap) (locs : List Loc) (ls : Array Slot) (bp : Nat), (∀ k, k < c0 ∨ k = 1000 → a k = a0 k) → xWd D dA A s a sh' rf' iv' lg' H locs → xRt M bp r → W p l e R s m args below meth c H locs (sh'.length - c0) (xsz sh' - s0) Q (F0 m bp ls (r.toList.map (xtv a)))
def xS (L : Nat) (xs : Nat → Int32) (p : Program) (l : Launch) (e : Env) (R : Room) (s : State) (m : MethodId) (args : Array Value) (below : List Frame) (meth : Method) (c : Code) (Q : State → Prop) (D : va_G) (dA : Nat → ClassId) (A : Nat → Prop) (a0 : Nat → Nat) (b c0 s0 M : Nat) (r : Option Value) (sh' : xSh) (rf' : xRf) (iv' : xIv) (lg' : xLg) (a : Nat → Nat) (H : Heap) (locs : List Loc) (ls : Array Slot) (lv : xLv) (sh : xSh) (rf : xRf) (iv : xIv) (lg : xLg) : Prop :=
  xCx p R s m args meth c D dA A L xs b M ∧ ((sh'.length - c0 ≤ R.cells ∧ xsz sh' - s0 ≤ R.slots) ∧ c0 ≤ sh.length ∧ s0 ≤ xsz sh) ∧ ((∀ k, k < c0 ∨ k = 1000 → a k = a0 k) ∧ a0 1000 = b) ∧ xWd D dA A s a sh rf iv lg H locs ∧ lv_has ls (xml M) (xal a 0 lv) ∧ xEd p l e R s m args below meth c Q D dA A a0 c0 s0 M r sh' rf' iv' lg'
/-- the machine does what the small machine does -/
def xG (L : Nat) (xs : Nat → Int32) (l : Launch) (n : Nat) : Prop := ∀ {p : Program} {e : Env} {R : Room} {s : State} {m : MethodId} {args : Array Value} {below : List Frame} {meth : Method} {c : Code} {Q : State → Prop} {D : va_G} {dA : Nat → ClassId} {A : Nat → Prop} {a0 : Nat → Nat} {b c0 s0 M pc : Nat} {r : Option Value} {sh' : xSh} {rf' : xRf} {iv' : xIv} {lg' : xLg} {a : Nat → Nat} {H : Heap} {locs : List Loc} {ls : Array Slot} {lv : xLv} {st : List Value} {sh : xSh} {rf : xRf} {iv : xIv} {lg : xLg},
  xexec L xs n M pc lv st (sh, rf, iv, lg) = some (r, sh', rf', iv', lg') → xS L xs p l e R s m args below meth c Q D dA A a0 b c0 s0 M r sh' rf' iv' lg' a H locs ls lv sh rf iv lg →
  W p l e R s m args below meth c H locs (sh.length - c0) (xsz sh - s0) Q (F0 m (xbp M pc) ls (st.map (xtv a)))
theorem xrun_none {g : Nat → Nat → xLv → List Value → xMem → Option (Option Value × xMem)} {M : Nat} {y : Option Value × xMem} (h : xrun g M none = some y) : False := by cases h
theorem xrun_nth {g : Nat → Nat → xLv → List Value → xMem → Option (Option Value × xMem)} {M : Nat} {y : Option Value × xMem} {α : Type} {l : List α} {i : Nat} {f : α → xR} (h : xrun g M (xnth l i none f) = some y) : ∃ x, l[i]? = some x ∧ xrun g M (f x) = some y := by
  rw [xnth_eq] at h
  cases hx : l[i]? with
  | none => rw [hx] at h; cases h
  | some x => rw [hx] at h; exact ⟨x, rfl, h⟩
theorem xrun_guard {g : Nat → Nat → xLv → List Value → xMem → Option (Option Value × xMem)} {M : Nat} {y : Option Value × xMem} {c : Bool} {f : xR} (h : xrun g M (xguard c none f) = some y) : c = true ∧ xrun g M f = some y := by
  cases c with
  | true => exact ⟨rfl, h⟩
  | false => cases h
theorem xrun_sto {g : Nat → Nat → xLv → List Value → xMem → Option (Option Value × xMem)} {M : Nat} {y : Option Value × xMem} {lv : xLv} {i : Nat} {v : Value} {f : xLv → xR} (h : xrun g M (xsto lv i v none f) = some y) : i < lv.length ∧ xrun g M (f (lv.set i (some v))) = some y ∧ ∀ (j : Nat) (w : Value), j + 1 = i → lv[j]? = some (some w) → ¬ w.category = 2 := by
  have hne : (none : xR) ≠ xsto lv i v none f := fun z => by rw [← z] at h; cases h
  obtain ⟨h1, h2, h3⟩ := xsto_inv (rfl : xsto lv i v none f = _) hne
  rw [← h2] at h
  exact ⟨h1, h, h3⟩
theorem xrun_setrr {g : Nat → Nat → xLv → List Value → xMem → Option (Option Value × xMem)} {M : Nat} {y : Option Value × xMem} {rf : xRf} {k j : Nat} {v : Option Nat} {f : xRf → xR} (h : xrun g M (xsetrr rf k j v none f) = some y) : ∃ rf' : xRf, xrun g M (f rf') = some y ∧ rf'.length = rf.length ∧ ∀ k' j', xrfo rf' k' j' = if k' = k ∧ j' = j then v else xrfo rf k' j' := by
  have hne : (none : xR) ≠ xsetrr rf k j v none f := fun z => by rw [← z] at h; cases h
  obtain ⟨rf', h1, h2, h3⟩ := xsetrr_inv rf k none f _ rfl hne
  rw [← h1] at h
  exact ⟨rf', h, h2, h3⟩
theorem xrun_take {g : Nat → Nat → xLv → List Value → xMem → Option (Option Value × xMem)} {M : Nat} {y : Option Value × xMem} {n : Nat} {st : List Value} {f : List Value → List Value → xR} (h : xrun g M (xtake n st [] none f) = some y) : ∃ as st', st = as.reverse ++ st' ∧ as.length = n ∧ xrun g M (f as st') = some y := by
  have hne : (none : xR) ≠ xtake n st [] none f := fun z => by rw [← z] at h; cases h
  obtain ⟨as, st', h1, h2, h3⟩ := xtake_inv n st [] none f _ rfl hne
  rw [← h3, List.append_nil] at h
  exact ⟨as, st', h1, h2, h⟩
theorem xrun_C {g : Nat → Nat → xLv → List Value → xMem → Option (Option Value × xMem)} {M : Nat} {y : Option Value × xMem} {c : Prop} {nx : Nat} {lv : xLv} {st : List Value} {sh : xSh} {rf : xRf} {iv : xIv} {lg : xLg} (h : xrun g M (xC c nx lv st sh rf iv lg) = some y) : c ∧ g M nx lv st (sh, rf, iv, lg) = some y := by
  have h : xite c (g M nx lv st (sh, rf, iv, lg)) none = some y := h
  by_cases hc : c
  · rw [xite_t hc] at h; exact ⟨hc, h⟩
  · rw [xite_f hc] at h; cases h
section XI
variable {L : Nat} {xs : Nat → Int32} {p : Program} {l : Launch} {e : Env} {R : Room} {s : State} {m : MethodId} {args : Array Value} {below : List Frame} {meth : Method} {c : Code} {Q : State → Prop} {D : va_G} {dA : Nat → ClassId} {A : Nat → Prop} {a0 : Nat → Nat} {b c0 s0 M : Nat} {r : Option Value} {sh' : xSh} {rf' : xRf} {iv' : xIv} {lg' : xLg} {a : Nat → Nat} {H : Heap} {locs : List Loc} {ls : Array Slot} {lv : xLv} {st : List Value} {sh : xSh} {rf : xRf} {iv : xIv} {lg : xLg} {n bp nx : Nat} {os : List Nat} {cv : Value}
theorem xS.mem {rf2 : xRf} {iv2 : xIv} {lg2 : xLg} {H2 : Heap} {locs2 : List Loc} (hS : xS L xs p l e R s m args below meth c Q D dA A a0 b c0 s0 M r sh' rf' iv' lg' a H locs ls lv sh rf iv lg) (h1 : rf2.length = sh.length) (hP : va_P D xCl (xws dA a sh rf2 iv2 lg2) H2) (hD : va_D A (xws dA a sh rf2 iv2 lg2)) (hs : va_S A s.heap H2 locs2) : xS L xs p l e R s m args below meth c Q D dA A a0 b c0 s0 M r sh' rf' iv' lg' a H2 locs2 ls lv sh rf2 iv2 lg2 :=
  ⟨hS.1, hS.2.1, hS.2.2.1, ⟨h1, hP, hD, hs⟩, hS.2.2.2.2⟩
theorem xS.lvs {ls2 : Array Slot} {lv2 : xLv} (hS : xS L xs p l e R s m args below meth c Q D dA A a0 b c0 s0 M r sh' rf' iv' lg' a H locs ls lv sh rf iv lg) (h : lv_has ls2 (xml M) (xal a 0 lv2)) : xS L xs p l e R s m args below meth c Q D dA A a0 b c0 s0 M r sh' rf' iv' lg' a H locs ls2 lv2 sh rf iv lg :=
  ⟨hS.1, hS.2.1, hS.2.2.1, hS.2.2.2.1, h, hS.2.2.2.2.2⟩
theorem xi_push (ih : xG L xs l n) (hS : xS L xs p l e R s m args below meth c Q D dA A a0 b c0 s0 M r sh' rf' iv' lg' a H locs ls lv sh rf iv lg) (h : xrun (xexec L xs n) M (xN nx lv (cv :: st) sh rf iv lg) = some (r, sh', rf', iv', lg')) :
    W p l e R s m args below meth c H locs (sh.length - c0) (xsz sh - s0) Q (F0 m (xbp M nx) ls (xtv a cv :: st.map (xtv a))) := ih h hS
theorem xi_ldI (ih : xG L xs l n) (hS : xS L xs p l e R s m args below meth c Q D dA A a0 b c0 s0 M r sh' rf' iv' lg' a H locs ls lv sh rf iv lg) {i k : Nat} (hn : xbp M nx = k)
    (row : ∀ x : Int32, ls[i]? = some (.val (.int x)) → W p l e R s m args below meth c H locs (sh.length - c0) (xsz sh - s0) Q (F0 m k ls (.int x :: st.map (xtv a))) → W p l e R s m args below meth c H locs (sh.length - c0) (xsz sh - s0) Q (F0 m bp ls (st.map (xtv a))))
    (h : xrun (xexec L xs n) M (xldI nx [i] lv st sh rf iv lg) = some (r, sh', rf', iv', lg')) : W p l e R s m args below meth c H locs (sh.length - c0) (xsz sh - s0) Q (F0 m bp ls (st.map (xtv a))) := by
  unfold xldI at h
  dsimp only at h
  rw [xnth_eq] at h
  cases ho : lv[i]? with
  | none => rw [ho] at h; cases h
  | some o =>
    rw [ho] at h
    match o, ho, h with
    | some (.int x), ho, h =>
      have k1 := ih h hS
      rw [hn] at k1
      exact row x (xal_at hS.2.2.2.2.1 ho) k1
    | none, _, h => cases h
    | some (.long _), _, h => cases h
    | some (.float _), _, h => cases h
    | some (.double _), _, h => cases h
    | some (.ref _), _, h => cases h
    | some .null, _, h => cases h
    | some (.retAddr _), _, h => cases h
theorem xi_ldL (ih : xG L xs l n) (hS : xS L xs p l e R s m args below meth c Q D dA A a0 b c0 s0 M r sh' rf' iv' lg' a H locs ls lv sh rf iv lg) {i k : Nat} (hn : xbp M nx = k)
    (row : ∀ x : Int64, ls[i]? = some (.val (.long x)) → W p l e R s m args below meth c H locs (sh.length - c0) (xsz sh - s0) Q (F0 m k ls (.long x :: st.map (xtv a))) → W p l e R s m args below meth c H locs (sh.length - c0) (xsz sh - s0) Q (F0 m bp ls (st.map (xtv a))))
    (h : xrun (xexec L xs n) M (xldL nx [i] lv st sh rf iv lg) = some (r, sh', rf', iv', lg')) : W p l e R s m args below meth c H locs (sh.length - c0) (xsz sh - s0) Q (F0 m bp ls (st.map (xtv a))) := by
  unfold xldL at h
  dsimp only at h
  rw [xnth_eq] at h
  cases ho : lv[i]? with
  | none => rw [ho] at h; cases h
  | some o =>
    rw [ho] at h
    match o, ho, h with
    | some (.long x), ho, h =>
      have k1 := ih h hS
      rw [hn] at k1
      exact row x (xal_at hS.2.2.2.2.1 ho) k1
    | none, _, h => cases h
    | some (.int _), _, h => cases h
    | some (.float _), _, h => cases h
    | some (.double _), _, h => cases h
    | some (.ref _), _, h => cases h
    | some .null, _, h => cases h
    | some (.retAddr _), _, h => cases h
theorem xi_ldA (ih : xG L xs l n) (hS : xS L xs p l e R s m args below meth c Q D dA A a0 b c0 s0 M r sh' rf' iv' lg' a H locs ls lv sh rf iv lg) {i k : Nat} (hn : xbp M nx = k)
    (row : ∀ x : Nat, ls[i]? = some (.val (.ref x)) → W p l e R s m args below meth c H locs (sh.length - c0) (xsz sh - s0) Q (F0 m k ls (.ref x :: st.map (xtv a))) → W p l e R s m args below meth c H locs (sh.length - c0) (xsz sh - s0) Q (F0 m bp ls (st.map (xtv a))))
    (h : xrun (xexec L xs n) M (xldA nx [i] lv st sh rf iv lg) = some (r, sh', rf', iv', lg')) : W p l e R s m args below meth c H locs (sh.length - c0) (xsz sh - s0) Q (F0 m bp ls (st.map (xtv a))) := by
  unfold xldA at h
  dsimp only at h
  rw [xnth_eq] at h
  cases ho : lv[i]? with
  | none => rw [ho] at h; cases h
  | some o =>
    rw [ho] at h
    match o, ho, h with
    | some (.ref x), ho, h =>
      have k1 := ih h hS
      rw [hn] at k1
      exact row (a x) (xal_at hS.2.2.2.2.1 ho) k1
    | none, _, h => cases h
    | some (.int _), _, h => cases h
    | some (.float _), _, h => cases h
    | some (.double _), _, h => cases h
    | some (.long _), _, h => cases h
    | some .null, _, h => cases h
    | some (.retAddr _), _, h => cases h
theorem xi_stI (ih : xG L xs l n) (hS : xS L xs p l e R s m args below meth c Q D dA A a0 b c0 s0 M r sh' rf' iv' lg' a H locs ls lv sh rf iv lg) {i k : Nat} (hn : xbp M nx = k)
    (row : ∀ (x : Int32) (rest : List Value), (∀ ls2, lv_has ls2 (xml M) ((i, .int x) :: (xal a 0 lv).filter (fun q => !(q.1 == i) && !(q.1 + 1 == i && q.2.category == 2))) → W p l e R s m args below meth c H locs (sh.length - c0) (xsz sh - s0) Q (F0 m k ls2 rest)) → W p l e R s m args below meth c H locs (sh.length - c0) (xsz sh - s0) Q (F0 m bp ls (.int x :: rest)))
    (h : xrun (xexec L xs n) M (xstI nx [i] lv st sh rf iv lg) = some (r, sh', rf', iv', lg')) : W p l e R s m args below meth c H locs (sh.length - c0) (xsz sh - s0) Q (F0 m bp ls (st.map (xtv a))) := by
  unfold xstI at h
  dsimp only at h
  split at h
  · obtain ⟨_, h, h3⟩ := xrun_sto h
    refine row _ _ (fun ls2 hl2 => ?_)
    have k1 := ih h (hS.lvs (xal_set1 (v := .int _) h3 hl2))
    rw [hn] at k1
    exact k1
  · cases h
theorem xi_stA (ih : xG L xs l n) (hS : xS L xs p l e R s m args below meth c Q D dA A a0 b c0 s0 M r sh' rf' iv' lg' a H locs ls lv sh rf iv lg) {i k : Nat} (hn : xbp M nx = k)
    (row : ∀ (x : Nat) (rest : List Value), (∀ ls2, lv_has ls2 (xml M) ((i, .ref x) :: (xal a 0 lv).filter (fun q => !(q.1 == i) && !(q.1 + 1 == i && q.2.category == 2))) → W p l e R s m args below meth c H locs (sh.length - c0) (xsz sh - s0) Q (F0 m k ls2 rest)) → W p l e R s m args below meth c H locs (sh.length - c0) (xsz sh - s0) Q (F0 m bp ls (.ref x :: rest)))
    (h : xrun (xexec L xs n) M (xstA nx [i] lv st sh rf iv lg) = some (r, sh', rf', iv', lg')) : W p l e R s m args below meth c H locs (sh.length - c0) (xsz sh - s0) Q (F0 m bp ls (st.map (xtv a))) := by
  unfold xstA at h
  dsimp only at h
  split at h
  · obtain ⟨_, h, h3⟩ := xrun_sto h
    refine row _ _ (fun ls2 hl2 => ?_)
    have k1 := ih h (hS.lvs (xal_set1 (v := .ref _) h3 hl2))
    rw [hn] at k1
    exact k1
  · cases h
theorem xi_stL (ih : xG L xs l n) (hS : xS L xs p l e R s m args below meth c Q D dA A a0 b c0 s0 M r sh' rf' iv' lg' a H locs ls lv sh rf iv lg) {i k : Nat} (hn : xbp M nx = k)
    (row : ∀ (x : Int64) (rest : List Value), (∀ ls2, lv_has ls2 (xml M) ((i, .long x) :: (xal a 0 lv).filter (fun q => !(q.1 == i) && (!(q.1 == i + 1) && !(q.1 + 1 == i && q.2.category == 2)))) → W p l e R s m args below meth c H locs (sh.length - c0) (xsz sh - s0) Q (F0 m k ls2 rest)) → W p l e R s m args below meth c H locs (sh.length - c0) (xsz sh - s0) Q (F0 m bp ls (.long x :: rest)))
    (h : xrun (xexec L xs n) M (xstL nx [i] lv st sh rf iv lg) = some (r, sh', rf', iv', lg')) : W p l e R s m args below meth c H locs (sh.length - c0) (xsz sh - s0) Q (F0 m bp ls (st.map (xtv a))) := by
  unfold xstL xsto2 at h
  dsimp only at h
  split at h
  · obtain ⟨_, h, h3⟩ := xrun_sto h
    rw [xset_eq] at h
    split at h
    · refine row _ _ (fun ls2 hl2 => ?_)
      have k1 := ih h (hS.lvs (xal_set2 (v := .long _) h3 hl2))
      rw [hn] at k1
      exact k1
    · cases h
  · cases h
theorem xi_inc (ih : xG L xs l n) (hS : xS L xs p l e R s m args below meth c Q D dA A a0 b c0 s0 M r sh' rf' iv' lg' a H locs ls lv sh rf iv lg) {i : Nat} {z : Int} (hn : xbp M nx = bp + 3) (hi : i < xml M) (hd : decode (xccf M) bp = .ok (.iinc i z, 3))
    (h : xrun (xexec L xs n) M (xinc nx [i] (.int (Int32.ofInt z)) lv st sh rf iv lg) = some (r, sh', rf', iv', lg')) : W p l e R s m args below meth c H locs (sh.length - c0) (xsz sh - s0) Q (F0 m bp ls (st.map (xtv a))) := by
  unfold xinc at h
  dsimp only at h
  rw [xnth_eq] at h
  cases ho : lv[i]? with
  | none => rw [ho] at h; cases h
  | some o =>
    rw [ho] at h
    dsimp only at h
    split at h
    · rename_i x
      obtain ⟨_, h, h3⟩ := xrun_sto h
      have hm := xal_in (a := a) lv 0 i ho
      rw [Nat.zero_add] at hm
      obtain ⟨k, hk⟩ := List.getElem?_of_mem hm
      refine lv_iinc hS.1.1.1 hS.1.1.2.1 hd hS.2.2.2.2.1 hk rfl hi rfl (fun ls2 hl2 => ?_)
      have k1 := ih h (hS.lvs (xal_set1 (v := .int _) h3 hl2))
      rw [hn] at k1
      exact k1
    · cases h
theorem xi_bin (ih : xG L xs l n) (hS : xS L xs p l e R s m args below meth c Q D dA A a0 b c0 s0 M r sh' rf' iv' lg' a H locs ls lv sh rf iv lg) (hn : xbp M nx = bp + 1) {f : Int32 → Int32 → Int32}
    (row : ∀ (x y : Int32) (rest : List Value), W p l e R s m args below meth c H locs (sh.length - c0) (xsz sh - s0) Q (F0 m (bp + 1) ls (.int (f x y) :: rest)) → W p l e R s m args below meth c H locs (sh.length - c0) (xsz sh - s0) Q (F0 m bp ls (.int y :: .int x :: rest)))
    (h : xrun (xexec L xs n) M (xbin (fun x y k => k (f x y)) nx lv st sh rf iv lg) = some (r, sh', rf', iv', lg')) : W p l e R s m args below meth c H locs (sh.length - c0) (xsz sh - s0) Q (F0 m bp ls (st.map (xtv a))) := by
  unfold xbin at h
  split at h
  · have k1 := ih h hS
    rw [hn] at k1
    exact row _ _ _ k1
  · cases h
theorem xi_div (ih : xG L xs l n) (hS : xS L xs p l e R s m args below meth c Q D dA A a0 b c0 s0 M r sh' rf' iv' lg' a H locs ls lv sh rf iv lg) (hn : xbp M nx = bp + 1) {f : Int32 → Int32 → Int32}
    (row : ∀ (x y : Int32) (rest : List Value), ¬ y = 0 → W p l e R s m args below meth c H locs (sh.length - c0) (xsz sh - s0) Q (F0 m (bp + 1) ls (.int (f x y) :: rest)) → W p l e R s m args below meth c H locs (sh.length - c0) (xsz sh - s0) Q (F0 m bp ls (.int y :: .int x :: rest)))
    (h : xrun (xexec L xs n) M (xdiv (fun x y k => k (f x y)) nx lv st sh rf iv lg) = some (r, sh', rf', iv', lg')) : W p l e R s m args below meth c H locs (sh.length - c0) (xsz sh - s0) Q (F0 m bp ls (st.map (xtv a))) := by
  unfold xdiv at h
  split at h
  · rename_i y x st
    have h : xite (¬ y = 0) (xexec L xs n M nx lv (.int (f x y) :: st) (sh, rf, iv, lg)) none = some (r, sh', rf', iv', lg') := h
    by_cases hc : y = 0
    · rw [xite_f (fun z => z hc)] at h; cases h
    · rw [xite_t hc] at h
      have k1 := ih h hS
      rw [hn] at k1
      exact row _ _ _ hc k1
  · cases h
theorem xi_binL (ih : xG L xs l n) (hS : xS L xs p l e R s m args below meth c Q D dA A a0 b c0 s0 M r sh' rf' iv' lg' a H locs ls lv sh rf iv lg) (hn : xbp M nx = bp + 1) {f : Int64 → Int64 → Int64}
    (row : ∀ (x y : Int64) (rest : List Value), W p l e R s m args below meth c H locs (sh.length - c0) (xsz sh - s0) Q (F0 m (bp + 1) ls (.long (f x y) :: rest)) → W p l e R s m args below meth c H locs (sh.length - c0) (xsz sh - s0) Q (F0 m bp ls (.long y :: .long x :: rest)))
    (h : xrun (xexec L xs n) M (xbinL (fun x y k => k (f x y)) nx lv st sh rf iv lg) = some (r, sh', rf', iv', lg')) : W p l e R s m args below meth c H locs (sh.length - c0) (xsz sh - s0) Q (F0 m bp ls (st.map (xtv a))) := by
  unfold xbinL at h
  split at h
  · have k1 := ih h hS
    rw [hn] at k1
    exact row _ _ _ k1
  · cases h
theorem xi_shL (ih : xG L xs l n) (hS : xS L xs p l e R s m args below meth c Q D dA A a0 b c0 s0 M r sh' rf' iv' lg' a H locs ls lv sh rf iv lg) (hn : xbp M nx = bp + 1) {f : Int64 → Int32 → Int64}
    (row : ∀ (x : Int64) (y : Int32) (rest : List Value), W p l e R s m args below meth c H locs (sh.length - c0) (xsz sh - s0) Q (F0 m (bp + 1) ls (.long (f x y) :: rest)) → W p l e R s m args below meth c H locs (sh.length - c0) (xsz sh - s0) Q (F0 m bp ls (.int y :: .long x :: rest)))
    (h : xrun (xexec L xs n) M (xshL (fun x y k => k (f x y)) nx lv st sh rf iv lg) = some (r, sh', rf', iv', lg')) : W p l e R s m args below meth c H locs (sh.length - c0) (xsz sh - s0) Q (F0 m bp ls (st.map (xtv a))) := by
  unfold xshL at h
  split at h
  · have k1 := ih h hS
    rw [hn] at k1
    exact row _ _ _ k1
  · cases h
theorem xi_cmpL (ih : xG L xs l n) (hS : xS L xs p l e R s m args below meth c Q D dA A a0 b c0 s0 M r sh' rf' iv' lg' a H locs ls lv sh rf iv lg) (hn : xbp M nx = bp + 1) (hd : decode (xccf M) bp = .ok (.lcmp, 1))
    (h : xrun (xexec L xs n) M (xcmpL nx lv st sh rf iv lg) = some (r, sh', rf', iv', lg')) : W p l e R s m args below meth c H locs (sh.length - c0) (xsz sh - s0) Q (F0 m bp ls (st.map (xtv a))) := by
  unfold xcmpL at h
  split at h
  · have k1 := ih h hS
    rw [hn] at k1
    exact W.lcmp hS.1.1.1 hS.1.1.2.1 hd k1
  · cases h
theorem xi_unI (ih : xG L xs l n) (hS : xS L xs p l e R s m args below meth c Q D dA A a0 b c0 s0 M r sh' rf' iv' lg' a H locs ls lv sh rf iv lg) (hn : xbp M nx = bp + 1) {f : Int32 → Value} (hf : ∀ x, xtv a (f x) = f x)
    (row : ∀ (x : Int32) (rest : List Value), W p l e R s m args below meth c H locs (sh.length - c0) (xsz sh - s0) Q (F0 m (bp + 1) ls (f x :: rest)) → W p l e R s m args below meth c H locs (sh.length - c0) (xsz sh - s0) Q (F0 m bp ls (.int x :: rest)))
    (h : xrun (xexec L xs n) M (xunI (fun x k => k (f x)) nx lv st sh rf iv lg) = some (r, sh', rf', iv', lg')) : W p l e R s m args below meth c H locs (sh.length - c0) (xsz sh - s0) Q (F0 m bp ls (st.map (xtv a))) := by
  unfold xunI at h
  split at h
  · have k1 := ih h hS
    rw [hn, List.map_cons, hf] at k1
    exact row _ _ k1
  · cases h
theorem xi_unL (ih : xG L xs l n) (hS : xS L xs p l e R s m args below meth c Q D dA A a0 b c0 s0 M r sh' rf' iv' lg' a H locs ls lv sh rf iv lg) (hn : xbp M nx = bp + 1) {f : Int64 → Value} (hf : ∀ x, xtv a (f x) = f x)
    (row : ∀ (x : Int64) (rest : List Value), W p l e R s m args below meth c H locs (sh.length - c0) (xsz sh - s0) Q (F0 m (bp + 1) ls (f x :: rest)) → W p l e R s m args below meth c H locs (sh.length - c0) (xsz sh - s0) Q (F0 m bp ls (.long x :: rest)))
    (h : xrun (xexec L xs n) M (xunL (fun x k => k (f x)) nx lv st sh rf iv lg) = some (r, sh', rf', iv', lg')) : W p l e R s m args below meth c H locs (sh.length - c0) (xsz sh - s0) Q (F0 m bp ls (st.map (xtv a))) := by
  unfold xunL at h
  split at h
  · have k1 := ih h hS
    rw [hn, List.map_cons, hf] at k1
    exact row _ _ k1
  · cases h
theorem xi_dup (ih : xG L xs l n) (hS : xS L xs p l e R s m args below meth c Q D dA A a0 b c0 s0 M r sh' rf' iv' lg' a H locs ls lv sh rf iv lg) (hn : xbp M nx = bp + 1) (hd : decode (xccf M) bp = .ok (.dup, 1))
    (h : xrun (xexec L xs n) M (xdup nx lv st sh rf iv lg) = some (r, sh', rf', iv', lg')) : W p l e R s m args below meth c H locs (sh.length - c0) (xsz sh - s0) Q (F0 m bp ls (st.map (xtv a))) := by
  unfold xdup at h
  split at h
  · have k1 := ih h hS
    rw [hn] at k1
    exact lv_dup hS.1.1.1 hS.1.1.2.1 hd rfl k1
  · have k1 := ih h hS
    rw [hn] at k1
    exact lv_dup hS.1.1.1 hS.1.1.2.1 hd rfl k1
  · cases h
theorem xi_dup2 (ih : xG L xs l n) (hS : xS L xs p l e R s m args below meth c Q D dA A a0 b c0 s0 M r sh' rf' iv' lg' a H locs ls lv sh rf iv lg) (hn : xbp M nx = bp + 1) (hd : decode (xccf M) bp = .ok (.dup2, 1))
    (h : xrun (xexec L xs n) M (xdup2 nx lv st sh rf iv lg) = some (r, sh', rf', iv', lg')) : W p l e R s m args below meth c H locs (sh.length - c0) (xsz sh - s0) Q (F0 m bp ls (st.map (xtv a))) := by
  unfold xdup2 at h
  split at h
  · have k1 := ih h hS
    rw [hn] at k1
    exact lv_dup2_11 hS.1.1.1 hS.1.1.2.1 hd rfl rfl k1
  · cases h
theorem xi_pop (ih : xG L xs l n) (hS : xS L xs p l e R s m args below meth c Q D dA A a0 b c0 s0 M r sh' rf' iv' lg' a H locs ls lv sh rf iv lg) (hn : xbp M nx = bp + 1) (hd : decode (xccf M) bp = .ok (.pop, 1))
    (h : xrun (xexec L xs n) M (xpop nx lv st sh rf iv lg) = some (r, sh', rf', iv', lg')) : W p l e R s m args below meth c H locs (sh.length - c0) (xsz sh - s0) Q (F0 m bp ls (st.map (xtv a))) := by
  unfold xpop at h
  split at h
  · have k1 := ih h hS
    rw [hn] at k1
    exact lv_pop hS.1.1.1 hS.1.1.2.1 hd rfl k1
  · cases h
theorem xi_go (ih : xG L xs l n) (hS : xS L xs p l e R s m args below meth c Q D dA A a0 b c0 s0 M r sh' rf' iv' lg' a H locs ls lv sh rf iv lg) {t : Nat} {off : Int} (ht : (bp : Int) + off = (xbp M t : Int)) (hd : decode (xccf M) bp = .ok (.goto off, 3))
    (h : xrun (xexec L xs n) M (xgo [t] lv st sh rf iv lg) = some (r, sh', rf', iv', lg')) : W p l e R s m args below meth c H locs (sh.length - c0) (xsz sh - s0) Q (F0 m bp ls (st.map (xtv a))) :=
  lv_goto hS.1.1.1 hS.1.1.2.1 hd ht (ih h hS)
theorem xi_if (ih : xG L xs l n) (hS : xS L xs p l e R s m args below meth c Q D dA A a0 b c0 s0 M r sh' rf' iv' lg' a H locs ls lv sh rf iv lg) {t : Nat} (hn : xbp M nx = bp + 3) {f : Int32 → Prop}
    (row : ∀ (x : Int32) (rest : List Value), (f x → W p l e R s m args below meth c H locs (sh.length - c0) (xsz sh - s0) Q (F0 m (xbp M t) ls rest)) → (¬ f x → W p l e R s m args below meth c H locs (sh.length - c0) (xsz sh - s0) Q (F0 m (bp + 3) ls rest)) → W p l e R s m args below meth c H locs (sh.length - c0) (xsz sh - s0) Q (F0 m bp ls (.int x :: rest)))
    (h : xrun (xexec L xs n) M (xif (fun x k => k (f x)) nx [t] lv st sh rf iv lg) = some (r, sh', rf', iv', lg')) : W p l e R s m args below meth c H locs (sh.length - c0) (xsz sh - s0) Q (F0 m bp ls (st.map (xtv a))) := by
  unfold xif at h
  dsimp only at h
  split at h
  · rename_i x st
    have h : xite (f x) (xexec L xs n M t lv st (sh, rf, iv, lg)) (xexec L xs n M nx lv st (sh, rf, iv, lg)) = some (r, sh', rf', iv', lg') := h
    refine row _ _ (fun hc => ?_) (fun hc => ?_)
    · rw [xite_t hc] at h
      exact ih h hS
    · rw [xite_f hc] at h
      have k1 := ih h hS
      rw [hn] at k1
      exact k1
  · cases h
theorem xi_icmp (ih : xG L xs l n) (hS : xS L xs p l e R s m args below meth c Q D dA A a0 b c0 s0 M r sh' rf' iv' lg' a H locs ls lv sh rf iv lg) {t : Nat} (hn : xbp M nx = bp + 3) {f : Int32 → Int32 → Prop}
    (row : ∀ (x y : Int32) (rest : List Value), (f x y → W p l e R s m args below meth c H locs (sh.length - c0) (xsz sh - s0) Q (F0 m (xbp M t) ls rest)) → (¬ f x y → W p l e R s m args below meth c H locs (sh.length - c0) (xsz sh - s0) Q (F0 m (bp + 3) ls rest)) → W p l e R s m args below meth c H locs (sh.length - c0) (xsz sh - s0) Q (F0 m bp ls (.int y :: .int x :: rest)))
    (h : xrun (xexec L xs n) M (xicmp (fun x y k => k (f x y)) nx [t] lv st sh rf iv lg) = some (r, sh', rf', iv', lg')) : W p l e R s m args below meth c H locs (sh.length - c0) (xsz sh - s0) Q (F0 m bp ls (st.map (xtv a))) := by
  unfold xicmp at h
  dsimp only at h
  split at h
  · rename_i y x st
    have h : xite (f x y) (xexec L xs n M t lv st (sh, rf, iv, lg)) (xexec L xs n M nx lv st (sh, rf, iv, lg)) = some (r, sh', rf', iv', lg') := h
    refine row _ _ _ (fun hc => ?_) (fun hc => ?_)
    · rw [xite_t hc] at h
      exact ih h hS
    · rw [xite_f hc] at h
      have k1 := ih h hS
      rw [hn] at k1
      exact k1
  · cases h
end XI
end
section
theorem xTs_of {q : Nat} {w : Cond} (h : xlw q = some w) (hn : xneed w = true) : w ∈ xTs := List.mem_filter.mpr ⟨List.mem_of_getElem? h, hn⟩
theorem xsome_inv {α : Type} {o : Option α} {f : α → Bool} (h : xsome o f = true) : ∃ x, o = some x ∧ f x = true := by
  cases o with
  | none => cases h
  | some x => exact ⟨x, rfl, h⟩
theorem xkty_0 {t : FieldType} (h : xkty t = 0) : t = .int := by cases t <;> first | rfl | cases h
theorem xkty_2 {t : FieldType} (h : xkty t = 2) : t = .boolean := by cases t <;> first | rfl | cases h
theorem xkty_1 {t : FieldType} (h : xkty t = 1) : (∃ n, t = .object n) ∨ ∃ u, t = .array u := by cases t <;> first | exact Or.inl ⟨_, rfl⟩ | exact Or.inr ⟨_, rfl⟩ | cases h
theorem xokF_spec {own : String} {idx q ci j kd : Nat} (h : xokF own idx q ci j kd = true) : ∃ (Cn : String) (T : u_T) (N : Nat) (ty : Nat → FieldType), xCl[ci]? = some (Cn, T, N) ∧ j < N ∧ (T j).1 = Cn ∧ xlw q = some (.fieldLink own idx Cn (T j).2.1 (T j).2.2.1) ∧ xTys[ci]? = some ty ∧ xkty (ty j) = kd := by
  unfold xokF at h
  obtain ⟨⟨Cn, T, N⟩, hC, h⟩ := xsome_inv h
  simp only [Bool.and_eq_true, decide_eq_true_eq] at h
  obtain ⟨h1, h2, h3, h4⟩ := h
  obtain ⟨ty, h5, h6⟩ := xsome_inv h4
  exact ⟨Cn, T, N, ty, hC, Nat.le_of_ble_eq_true h1, h2, h3, h5, Nat.eq_of_beq_eq_true h6⟩
section XH
variable {L : Nat} {xs : Nat → Int32} {p : Program} {l : Launch} {e : Env} {R : Room} {s : State} {m : MethodId} {args : Array Value} {below : List Frame} {meth : Method} {c : Code} {Q : State → Prop} {D : va_G} {dA : Nat → ClassId} {A : Nat → Prop} {a0 : Nat → Nat} {b c0 s0 M : Nat} {r : Option Value} {sh' : xSh} {rf' : xRf} {iv' : xIv} {lg' : xLg} {a : Nat → Nat} {H : Heap} {locs : List Loc} {ls : Array Slot} {lv : xLv} {st : List Value} {sh : xSh} {rf : xRf} {iv : xIv} {lg : xLg} {n bp nx : Nat} {os : List Nat} {cv : Value}
set_option maxHeartbeats 1000000 in
theorem xi_get (hok : xOK) (ih : xG L xs l n) (hS : xS L xs p l e R s m args below meth c Q D dA A a0 b c0 s0 M r sh' rf' iv' lg' a H locs ls lv sh rf iv lg) {idx q ci j kd : Nat} (hn : xbp M nx = bp + 3) (hF : xokF (xYf M).cls idx q ci j kd = true) (hd : decode (xccf M) bp = .ok (.getfield idx, 3))
    (h : xrun (xexec L xs n) M (xget nx [q, ci, j, kd] lv st sh rf iv lg) = some (r, sh', rf', iv', lg')) : W p l e R s m args below meth c H locs (sh.length - c0) (xsz sh - s0) Q (F0 m bp ls (st.map (xtv a))) := by
  obtain ⟨Cn, T, N, ty, hC, hj, hdecl, hlink, hty, hkd⟩ := xokF_spec hF
  obtain ⟨ty', hty', hcls⟩ := hok.2.1 ci _ hC
  cases hty.symm.trans hty'
  have hl1 := hS.1.2.1 _ (xTs_of hlink rfl)
  have hsame : ∀ x, s.fieldFound? (T j).1 (T j).2.1 (T j).2.2.1 = some x → s.fieldFound? Cn (T j).2.1 (T j).2.2.1 = some x := fun x hx => by rw [← hdecl]; exact hx
  unfold xget at h
  dsimp only at h
  split at h
  · rename_i k st
    obtain ⟨⟨tg, nn⟩, hq2, h9⟩ := xrun_nth h
    clear h; have h := h9; clear h9
    obtain ⟨hg, h9⟩ := xrun_guard h
    clear h; have h := h9; clear h9
    rw [Bool.and_eq_true] at hg
    have htag : tg = 10 + ci := Nat.eq_of_beq_eq_true hg.1
    have hjn : j < nn := Nat.le_of_ble_eq_true hg.2
    subst htag
    have hw := xws_get (dA := dA) (a := a) (rf := rf) (iv := iv) (lg := lg) hq2
    rw [xcell_obj] at hw
    have hkk := (hcls.2.2.2 j hj).1
    rw [hkd] at hkk
    split at h
    · obtain ⟨row, hrow, h9⟩ := xrun_nth h
      clear h; have h := h9; clear h9
      obtain ⟨o, ho, h9⟩ := xrun_nth h
      clear h; have h := h9; clear h9
      split at h
      · rename_i z
        have hz : xrfo rf k j = some z := by simp [xrfo, hrow, ho]
        have k1 := ih h hS
        rw [hn] at k1
        refine va_get (v := .ref (a z)) hS.1.1.1 hS.1.1.2.1 hS.1.2.1 hcls.1 hS.1.1.2.2.2.1 hS.1.2.2.2.1 hS.2.2.2.1.2.1 k hw hC j hj hl1 hsame ?_ hd k1
        rw [xfs_get hjn, hz]
        have : xkd ci j = true := hkk
        simp [this, va_rf]
      · cases h
    · rename_i hne
      have k1 := ih h hS
      rw [hn] at k1
      refine va_get (v := .int (iv k j)) hS.1.1.1 hS.1.1.2.1 hS.1.2.1 hcls.1 hS.1.1.2.2.2.1 hS.1.2.2.2.1 hS.2.2.2.1.2.1 k hw hC j hj hl1 hsame ?_ hd k1
      rw [xfs_get hjn]
      have : xkd ci j = false := by
        rw [hkk]
        cases hb : Nat.beq kd 1 with
        | false => rfl
        | true => exact absurd (Nat.eq_of_beq_eq_true hb) hne
      simp [this]
  · cases h
set_option maxHeartbeats 1000000 in
theorem xi_put (hok : xOK) (ih : xG L xs l n) (hS : xS L xs p l e R s m args below meth c Q D dA A a0 b c0 s0 M r sh' rf' iv' lg' a H locs ls lv sh rf iv lg) {idx q ci j kd : Nat} (hn : xbp M nx = bp + 3) (hF : xokF (xYf M).cls idx q ci j kd = true) (hPf : xokP M (xYf M).cls ci j = true) (hd : decode (xccf M) bp = .ok (.putfield idx, 3))
    (h : xrun (xexec L xs n) M (xput nx [q, ci, j, kd] lv st sh rf iv lg) = some (r, sh', rf', iv', lg')) : W p l e R s m args below meth c H locs (sh.length - c0) (xsz sh - s0) Q (F0 m bp ls (st.map (xtv a))) := by
  obtain ⟨Cn, T, N, ty, hC, hj, hdecl, hlink, hty, hkd⟩ := xokF_spec hF
  obtain ⟨ty', hty', hcls⟩ := hok.2.1 ci _ hC
  cases hty.symm.trans hty'
  have hl1 := hS.1.2.1 _ (xTs_of hlink rfl)
  have hsame : ∀ x, s.fieldFound? (T j).1 (T j).2.1 (T j).2.2.1 = some x → s.fieldFound? Cn (T j).2.1 (T j).2.2.1 = some x := fun x hx => by rw [← hdecl]; exact hx
  have hkk := (hcls.2.2.2 j hj).1
  rw [hkd] at hkk
  unfold xokP at hPf
  obtain ⟨C2, hC2, hPf⟩ := xsome_inv hPf
  cases hC.symm.trans hC2
  dsimp only at hPf
  -- the row of the machine, whatever the field holds
  have row : ∀ (k nn : Nat) (v : Value) (rest : List Value), sh[k]? = some (10 + ci, nn) → j < nn → narrow (ty j) v = v → fits (ty j) v = true →
      (∀ (H1 : Heap) (locs1 : List Loc), va_P D xCl ((xws dA a sh rf iv lg).set k (a k, .inr (ci, (xfs a rf iv k ci nn).set j v))) H1 → va_D A ((xws dA a sh rf iv lg).set k (a k, .inr (ci, (xfs a rf iv k ci nn).set j v))) → va_S A s.heap H1 locs1 → W p l e R s m args below meth c H1 locs1 (sh.length - c0) (xsz sh - s0) Q (F0 m (bp + 3) ls rest)) →
      W p l e R s m args below meth c H locs (sh.length - c0) (xsz sh - s0) Q (F0 m bp ls (v :: .ref (a k) :: rest)) := by
    intro k nn v rest hq2 hjn hnar hfit kk
    have hw := xws_get (dA := dA) (a := a) (rf := rf) (iv := iv) (lg := lg) hq2
    rw [xcell_obj] at hw
    cases hfin : (T j).2.2.2 with
    | false => exact va_put hS.1.1.1 hS.1.1.2.1 hS.1.2.1 hcls.1 ty hcls.2.1 hcls.2.2.1 hS.1.1.2.2.2.1 hS.1.2.2.2.1 hS.2.2.2.1.2.1 hS.2.2.2.1.2.2.1 hS.2.2.2.1.2.2.2 k hw hC j hj hl1 hsame hfin (hcls.2.1 j hj) hnar hfit (by rw [xfs_len]; exact hjn) hd kk
    | true =>
      rw [hfin] at hPf
      simp only [Bool.or_eq_true, Bool.and_eq_true, decide_eq_true_eq] at hPf
      obtain ⟨f1, f2⟩ := hPf.resolve_left (fun z => by cases z)
      exact va_putF hS.1.1.1 hS.1.1.2.1 hS.1.2.1 hcls.1 ty hcls.2.1 hcls.2.2.1 hS.1.1.2.2.2.1 hS.1.2.2.2.1 hS.2.2.2.1.2.1 hS.2.2.2.1.2.2.1 hS.2.2.2.1.2.2.2 k hw hC j hj hl1 hsame hfin ((hS.1.1.2.2.2.2 (Nat.pos_of_ne_zero (fun z => by rw [z] at f2; exact absurd f2 (by decide)))).trans f2) f1 (hcls.2.1 j hj) hnar hfit (by rw [xfs_len]; exact hjn) hd kk
  unfold xput at h
  dsimp only at h
  split at h
  · rename_i x k st
    obtain ⟨⟨tg, nn⟩, hq2, h9⟩ := xrun_nth h
    clear h; have h := h9; clear h9
    obtain ⟨hg, h9⟩ := xrun_guard h
    clear h; have h := h9; clear h9
    rw [Bool.and_eq_true] at hg
    have htag : tg = 10 + ci := Nat.eq_of_beq_eq_true hg.1
    have hjn : j < nn := Nat.le_of_ble_eq_true hg.2
    subst htag
    have hkf : kd ≠ 1 → xkd ci j = false := fun hne => by
      rw [hkk]
      cases hb : Nat.beq kd 1 with
      | false => rfl
      | true => exact absurd (Nat.eq_of_beq_eq_true hb) hne
    have e1 : kd ≠ 1 → (xws dA a sh rf iv lg).set k (a k, .inr (ci, (xfs a rf iv k ci nn).set j (.int x))) = xws dA a sh rf (xu2 iv k j x) lg := fun hne =>
      xws_set hq2 (by rw [xcell_obj, xfs_setI (hkf hne)]) (fun k' hk' => ⟨xu2_ne hk', rfl, fun _ => rfl⟩)
    split at h
    · refine row k nn (.int x) _ hq2 hjn ?_ ?_ (fun H1 locs1 hP hD hs => ?_)
      · rw [xkty_0 hkd]; rfl
      · rw [xkty_0 hkd]; rfl
      · rw [e1 (by decide)] at hP hD
        have k1 := ih h (hS.mem hS.2.2.2.1.1 hP hD hs)
        rw [hn] at k1
        exact k1
    · obtain ⟨hx01, h9⟩ := xrun_C h
      clear h; have h := h9; clear h9
      refine row k nn (.int x) _ hq2 hjn ?_ ?_ (fun H1 locs1 hP hD hs => ?_)
      · rw [xkty_2 hkd]; rcases hx01 with z | z <;> subst z <;> decide
      · rw [xkty_2 hkd]; rcases hx01 with z | z <;> subst z <;> decide
      · rw [e1 (by decide)] at hP hD
        have k1 := ih h (hS.mem hS.2.2.2.1.1 hP hD hs)
        rw [hn] at k1
        exact k1
    · cases h
  · rename_i z k st
    obtain ⟨⟨tg, nn⟩, hq2, h9⟩ := xrun_nth h
    clear h; have h := h9; clear h9
    obtain ⟨hg, h9⟩ := xrun_guard h
    clear h; have h := h9; clear h9
    rw [Bool.and_eq_true] at hg
    have htag : tg = 10 + ci := Nat.eq_of_beq_eq_true hg.1
    have hjn : j < nn := Nat.le_of_ble_eq_true hg.2
    subst htag
    split at h
    · obtain ⟨rf2, h9, hlen, hrf⟩ := xrun_setrr h
      clear h; have h := h9; clear h9
      have hkt : xkd ci j = true := hkk
      refine row k nn (.ref (a z)) _ hq2 hjn ?_ ?_ (fun H1 locs1 hP hD hs => ?_)
      · rcases xkty_1 hkd with ⟨_, e⟩ | ⟨_, e⟩ <;> rw [e] <;> rfl
      · rcases xkty_1 hkd with ⟨_, e⟩ | ⟨_, e⟩ <;> rw [e] <;> rfl
      · have e2 : (xws dA a sh rf iv lg).set k (a k, .inr (ci, (xfs a rf iv k ci nn).set j (.ref (a z)))) = xws dA a sh rf2 iv lg :=
          xws_set hq2 (by rw [xcell_obj, xfs_setR hkt (fun j' => by rw [hrf k j']; simp)]) (fun k' hk' => ⟨rfl, rfl, fun j' => by rw [hrf k' j', if_neg (fun w => hk' w.1)]⟩)
        rw [e2] at hP hD
        have k1 := ih h (hS.mem (hlen.trans hS.2.2.2.1.1) hP hD hs)
        rw [hn] at k1
        exact k1
    · cases h
  · cases h
theorem xi_ald (ih : xG L xs l n) (hS : xS L xs p l e R s m args below meth c Q D dA A a0 b c0 s0 M r sh' rf' iv' lg' a H locs ls lv sh rf iv lg) (hn : xbp M nx = bp + 1) (hd : decode (xccf M) bp = .ok (.iaload, 1))
    (h : xrun (xexec L xs n) M (xald L xs M nx lv st sh rf iv lg) = some (r, sh', rf', iv', lg')) : W p l e R s m args below meth c H locs (sh.length - c0) (xsz sh - s0) Q (F0 m bp ls (st.map (xtv a))) := by
  unfold xald at h
  split at h
  · rename_i i k st
    split at h
    · rename_i hk
      have hk : k = 1000 := Nat.eq_of_beq_eq_true hk
      subst hk
      split at h
      · obtain ⟨hin, h9⟩ := xrun_C h
        clear h; have h := h9; clear h9
        have k1 := ih h hS
        rw [hn] at k1
        obtain ⟨hX, hbl, hbA⟩ := hS.1.2.2.2.2.2 rfl
        have hab : a 1000 = b := (hS.2.2.1.1 1000 (Or.inr rfl)).trans hS.2.2.1.2
        show W p l e R s m args below meth c H locs (sh.length - c0) (xsz sh - s0) Q (F0 m bp ls (.int i :: .ref (a 1000) :: st.map (xtv a)))
        rw [hab]
        exact va_sld hS.1.1.1 hS.1.1.2.1 hX hbl hbA hS.2.2.2.1.2.2.2 hin hd k1
      · cases h
    · obtain ⟨⟨tg, nn⟩, hq2, h9⟩ := xrun_nth h
      clear h; have h := h9; clear h9
      dsimp only at h
      split at h
      · obtain ⟨hin, h9⟩ := xrun_C h
        clear h; have h := h9; clear h9
        have k1 := ih h hS
        rw [hn] at k1
        exact va_iald hS.1.1.1 hS.1.1.2.1 hS.1.2.2.2.1 hS.2.2.2.1.2.1 k 0 (xws_get hq2) rfl hin hd k1
      · cases h
  · cases h
theorem xi_cald (ih : xG L xs l n) (hS : xS L xs p l e R s m args below meth c Q D dA A a0 b c0 s0 M r sh' rf' iv' lg' a H locs ls lv sh rf iv lg) (hn : xbp M nx = bp + 1) (hd : decode (xccf M) bp = .ok (.caload, 1))
    (h : xrun (xexec L xs n) M (xcald nx lv st sh rf iv lg) = some (r, sh', rf', iv', lg')) : W p l e R s m args below meth c H locs (sh.length - c0) (xsz sh - s0) Q (F0 m bp ls (st.map (xtv a))) := by
  unfold xcald at h
  split at h
  · rename_i i k st
    obtain ⟨⟨tg, nn⟩, hq2, h9⟩ := xrun_nth h
    clear h; have h := h9; clear h9
    dsimp only at h
    split at h
    · obtain ⟨hin, h9⟩ := xrun_C h
      clear h; have h := h9; clear h9
      have k1 := ih h hS
      rw [hn] at k1
      exact va_cald hS.1.1.1 hS.1.1.2.1 hS.1.2.2.2.1 hS.2.2.2.1.2.1 k 2 (xws_get hq2) rfl hin hd k1
    · cases h
  · cases h
theorem xi_lald (ih : xG L xs l n) (hS : xS L xs p l e R s m args below meth c Q D dA A a0 b c0 s0 M r sh' rf' iv' lg' a H locs ls lv sh rf iv lg) (hn : xbp M nx = bp + 1) (hd : decode (xccf M) bp = .ok (.laload, 1))
    (h : xrun (xexec L xs n) M (xlald nx lv st sh rf iv lg) = some (r, sh', rf', iv', lg')) : W p l e R s m args below meth c H locs (sh.length - c0) (xsz sh - s0) Q (F0 m bp ls (st.map (xtv a))) := by
  unfold xlald at h
  split at h
  · rename_i i k st
    obtain ⟨⟨tg, nn⟩, hq2, h9⟩ := xrun_nth h
    clear h; have h := h9; clear h9
    dsimp only at h
    split at h
    · obtain ⟨hin, h9⟩ := xrun_C h
      clear h; have h := h9; clear h9
      have k1 := ih h hS
      rw [hn] at k1
      exact va_lald hS.1.1.1 hS.1.1.2.1 hS.1.2.2.2.1 hS.2.2.2.1.2.1 k 1 (xws_get hq2) rfl hin hd k1
    · cases h
  · cases h
theorem xi_ast (ih : xG L xs l n) (hS : xS L xs p l e R s m args below meth c Q D dA A a0 b c0 s0 M r sh' rf' iv' lg' a H locs ls lv sh rf iv lg) (hn : xbp M nx = bp + 1) (hd : decode (xccf M) bp = .ok (.iastore, 1))
    (h : xrun (xexec L xs n) M (xast nx lv st sh rf iv lg) = some (r, sh', rf', iv', lg')) : W p l e R s m args below meth c H locs (sh.length - c0) (xsz sh - s0) Q (F0 m bp ls (st.map (xtv a))) := by
  unfold xast at h
  split at h
  · rename_i x i k st
    obtain ⟨⟨tg, nn⟩, hq2, h9⟩ := xrun_nth h
    clear h; have h := h9; clear h9
    dsimp only at h
    split at h
    · obtain ⟨hin, h9⟩ := xrun_C h
      clear h; have h := h9; clear h9
      refine va_iast hS.1.1.1 hS.1.1.2.1 hS.1.2.2.2.1 hS.2.2.2.1.2.1 hS.2.2.2.1.2.2.1 hS.2.2.2.1.2.2.2 k 0 (xws_get hq2) rfl hin hd (fun H1 locs1 hP hD hs => ?_)
      have e1 : (xws dA a sh rf iv lg).set k (a k, .inl (dA 0, nn, .inl (upd (iv k) i.toNatClampNeg x))) = xws dA a sh rf (xu2 iv k i.toNatClampNeg x) lg :=
        xws_set hq2 (by show (Sum.inl (dA 0, nn, .inl (xu2 iv k i.toNatClampNeg x k)) : va_E) = _; rw [xu2_row]) (fun k' hk' => ⟨xu2_ne hk', rfl, fun _ => rfl⟩)
      have hP : va_P D xCl ((xws dA a sh rf iv lg).set k (a k, .inl (dA 0, nn, .inl (upd (iv k) i.toNatClampNeg x)))) H1 := hP
      have hD : va_D A ((xws dA a sh rf iv lg).set k (a k, .inl (dA 0, nn, .inl (upd (iv k) i.toNatClampNeg x)))) := hD
      rw [e1] at hP hD
      have k1 := ih h (hS.mem hS.2.2.2.1.1 hP hD hs)
      rw [hn] at k1
      exact k1
    · cases h
  · cases h
theorem xi_cast (ih : xG L xs l n) (hS : xS L xs p l e R s m args below meth c Q D dA A a0 b c0 s0 M r sh' rf' iv' lg' a H locs ls lv sh rf iv lg) (hn : xbp M nx = bp + 1) (hd : decode (xccf M) bp = .ok (.castore, 1))
    (h : xrun (xexec L xs n) M (xcast nx lv st sh rf iv lg) = some (r, sh', rf', iv', lg')) : W p l e R s m args below meth c H locs (sh.length - c0) (xsz sh - s0) Q (F0 m bp ls (st.map (xtv a))) := by
  unfold xcast at h
  split at h
  · rename_i x i k st
    obtain ⟨⟨tg, nn⟩, hq2, h9⟩ := xrun_nth h
    clear h; have h := h9; clear h9
    dsimp only at h
    split at h
    · obtain ⟨hin, h9⟩ := xrun_C h
      clear h; have h := h9; clear h9
      refine va_cast hS.1.1.1 hS.1.1.2.1 hS.1.2.2.2.1 hS.2.2.2.1.2.1 hS.2.2.2.1.2.2.1 hS.2.2.2.1.2.2.2 k 2 (xws_get hq2) rfl hin hd (fun H1 locs1 hP hD hs => ?_)
      have e1 : (xws dA a sh rf iv lg).set k (a k, .inl (dA 2, nn, .inl (upd (iv k) i.toNatClampNeg (vp_nar .char x)))) = xws dA a sh rf (xu2 iv k i.toNatClampNeg (vp_nar .char x)) lg :=
        xws_set hq2 (by show (Sum.inl (dA 2, nn, .inl (xu2 iv k i.toNatClampNeg (vp_nar .char x) k)) : va_E) = _; rw [xu2_row]) (fun k' hk' => ⟨xu2_ne hk', rfl, fun _ => rfl⟩)
      have hP : va_P D xCl ((xws dA a sh rf iv lg).set k (a k, .inl (dA 2, nn, .inl (upd (iv k) i.toNatClampNeg (vp_nar .char x))))) H1 := hP
      have hD : va_D A ((xws dA a sh rf iv lg).set k (a k, .inl (dA 2, nn, .inl (upd (iv k) i.toNatClampNeg (vp_nar .char x))))) := hD
      rw [e1] at hP hD
      have k1 := ih h (hS.mem hS.2.2.2.1.1 hP hD hs)
      rw [hn] at k1
      exact k1
    · cases h
  · cases h
theorem xi_last (ih : xG L xs l n) (hS : xS L xs p l e R s m args below meth c Q D dA A a0 b c0 s0 M r sh' rf' iv' lg' a H locs ls lv sh rf iv lg) (hn : xbp M nx = bp + 1) (hd : decode (xccf M) bp = .ok (.lastore, 1))
    (h : xrun (xexec L xs n) M (xlast nx lv st sh rf iv lg) = some (r, sh', rf', iv', lg')) : W p l e R s m args below meth c H locs (sh.length - c0) (xsz sh - s0) Q (F0 m bp ls (st.map (xtv a))) := by
  unfold xlast at h
  split at h
  · rename_i x i k st
    obtain ⟨⟨tg, nn⟩, hq2, h9⟩ := xrun_nth h
    clear h; have h := h9; clear h9
    dsimp only at h
    split at h
    · obtain ⟨hin, h9⟩ := xrun_C h
      clear h; have h := h9; clear h9
      refine va_last hS.1.1.1 hS.1.1.2.1 hS.1.2.2.2.1 hS.2.2.2.1.2.1 hS.2.2.2.1.2.2.1 hS.2.2.2.1.2.2.2 k 1 (xws_get hq2) rfl hin hd (fun H1 locs1 hP hD hs => ?_)
      have e1 : (xws dA a sh rf iv lg).set k (a k, .inl (dA 1, nn, .inr (.inl (vp_updL (lg k) i.toNatClampNeg x)))) = xws dA a sh rf iv (xu2 lg k i.toNatClampNeg x) :=
        xws_set hq2 (by show (Sum.inl (dA 1, nn, .inr (.inl (xu2 lg k i.toNatClampNeg x k))) : va_E) = _; rw [xu2_rowL]) (fun k' hk' => ⟨rfl, xu2_ne hk', fun _ => rfl⟩)
      have hP : va_P D xCl ((xws dA a sh rf iv lg).set k (a k, .inl (dA 1, nn, .inr (.inl (vp_updL (lg k) i.toNatClampNeg x))))) H1 := hP
      have hD : va_D A ((xws dA a sh rf iv lg).set k (a k, .inl (dA 1, nn, .inr (.inl (vp_updL (lg k) i.toNatClampNeg x))))) := hD
      rw [e1] at hP hD
      have k1 := ih h (hS.mem hS.2.2.2.1.1 hP hD hs)
      rw [hn] at k1
      exact k1
    · cases h
  · cases h
theorem xi_aald (ih : xG L xs l n) (hS : xS L xs p l e R s m args below meth c Q D dA A a0 b c0 s0 M r sh' rf' iv' lg' a H locs ls lv sh rf iv lg) (hn : xbp M nx = bp + 1) (hd : decode (xccf M) bp = .ok (.aaload, 1))
    (h : xrun (xexec L xs n) M (xaald nx lv st sh rf iv lg) = some (r, sh', rf', iv', lg')) : W p l e R s m args below meth c H locs (sh.length - c0) (xsz sh - s0) Q (F0 m bp ls (st.map (xtv a))) := by
  unfold xaald at h
  split at h
  · rename_i i k st
    obtain ⟨⟨tg, nn⟩, hq2, h9⟩ := xrun_nth h
    clear h; have h := h9; clear h9
    obtain ⟨hg, h9⟩ := xrun_guard h
    clear h; have h := h9; clear h9
    rw [Bool.or_eq_true] at hg
    obtain ⟨row, hrow, h9⟩ := xrun_nth h
    clear h; have h := h9; clear h9
    obtain ⟨o, ho, h9⟩ := xrun_nth h
    clear h; have h := h9; clear h9
    split at h
    · rename_i z
      obtain ⟨hin, h9⟩ := xrun_C h
      clear h; have h := h9; clear h9
      have k1 := ih h hS
      rw [hn] at k1
      have hz : xrfo rf k i.toNatClampNeg = some z := by simp [xrfo, hrow, ho]
      have hlt : i.toNatClampNeg < nn := Nat.not_le.mp fun w => hin (Or.inr w)
      have key : ∀ (t0 : Nat) (ty : FieldType), (xtys dA)[t0]? = some (dA t0, ty) → ty.isReference = true → (xws dA a sh rf iv lg)[k]? = some (a k, .inl (dA t0, nn, .inr (.inr (.inr (.inr (fun j => (xrfo rf k j).map a)))))) → W p l e R s m args below meth c H locs (sh.length - c0) (xsz sh - s0) Q (F0 m bp ls (.int i :: .ref (a k) :: st.map (xtv a))) := by
        intro t0 ty ht hr ha
        refine W.aald (v := .ref (a z)) (ty := ty) hS.1.1.1 hS.1.1.2.1 (hS.2.2.2.1.2.1 k _ ha) ((hS.1.2.2.2.1.2 t0 _ ht).1 nn (fun j => va_rf ((xrfo rf k j).map a))) hr (fun w => by cases w) (by show ¬ (i < 0 ∨ (arrV _ _ _).slots.size ≤ _); rw [arrV_size]; exact hin) (by show (arrV _ _ _).slots[_]? = _; rw [arrV_read _ _ hlt]; show some (va_rf ((xrfo rf k i.toNatClampNeg).map a)) = _; rw [hz]; rfl) rfl rfl hd k1
      rcases hg with hg | hg
      · have e : tg = 3 := Nat.eq_of_beq_eq_true hg
        subst e
        exact key 3 (.array .int) rfl rfl (xws_get hq2)
      · have e : tg = 4 := Nat.eq_of_beq_eq_true hg
        subst e
        exact key 4 (.object "StepRings$Sheet") rfl rfl (xws_get hq2)
    · cases h
  · cases h
theorem xi_aast (ih : xG L xs l n) (hS : xS L xs p l e R s m args below meth c Q D dA A a0 b c0 s0 M r sh' rf' iv' lg' a H locs ls lv sh rf iv lg) (hn : xbp M nx = bp + 1) (hd : decode (xccf M) bp = .ok (.aastore, 1))
    (h : xrun (xexec L xs n) M (xaast nx lv st sh rf iv lg) = some (r, sh', rf', iv', lg')) : W p l e R s m args below meth c H locs (sh.length - c0) (xsz sh - s0) Q (F0 m bp ls (st.map (xtv a))) := by
  unfold xaast at h
  split at h
  · rename_i z i k st
    obtain ⟨⟨tg, nn⟩, hq2, h9⟩ := xrun_nth h
    clear h; have h := h9; clear h9
    obtain ⟨hg, h9⟩ := xrun_guard h
    clear h; have h := h9; clear h9
    obtain ⟨⟨tz, nz⟩, hqz, h9⟩ := xrun_nth h
    clear h; have h := h9; clear h9
    obtain ⟨hgz, h9⟩ := xrun_guard h
    clear h; have h := h9; clear h9
    obtain ⟨rf2, h9, hlen, hrf⟩ := xrun_setrr h
    clear h; have h := h9; clear h9
    obtain ⟨hin, h9⟩ := xrun_C h
    clear h; have h := h9; clear h9
    have e : tg = 4 := Nat.eq_of_beq_eq_true hg
    subst e
    have ez : tz = 10 + 3 := Nat.eq_of_beq_eq_true hgz
    subst ez
    have hwz := xws_get (dA := dA) (a := a) (rf := rf) (iv := iv) (lg := lg) hqz
    rw [xcell_obj] at hwz
    refine va_astq (r := (xR3, xT3, 4)) hS.1.1.1 hS.1.1.2.1 hS.1.2.2.2.1 hS.2.2.2.1.2.1 hS.2.2.2.1.2.2.1 hS.2.2.2.1.2.2.2 k 4 z 3 (xws_get hq2) rfl hwz rfl hin hd (fun H1 locs1 hP hD hs => ?_)
    have e1 : (xws dA a sh rf iv lg).set k (a k, .inl (dA 4, nn, .inr (.inr (.inr (.inr (va_up (fun j => (xrfo rf k j).map a) i.toNatClampNeg (some (a z)))))))) = xws dA a sh rf2 iv lg := by
      refine xws_set hq2 ?_ (fun k' hk' => ⟨rfl, rfl, fun j' => by rw [hrf k' j', if_neg (fun w => hk' w.1)]⟩)
      show (Sum.inl (dA 4, nn, .inr (.inr (.inr (.inr (fun j => (xrfo rf2 k j).map a))))) : va_E) = _
      have e2 : (fun j => (xrfo rf2 k j).map a) = va_up (fun j => (xrfo rf k j).map a) i.toNatClampNeg (some (a z)) := by
        funext j
        rw [hrf k j]
        unfold va_up
        by_cases hj : j = i.toNatClampNeg
        · rw [if_pos ⟨rfl, hj⟩, if_pos hj]; rfl
        · rw [if_neg (fun w => hj w.2), if_neg hj]
      rw [e2]
    have hP : va_P D xCl ((xws dA a sh rf iv lg).set k (a k, .inl (dA 4, nn, .inr (.inr (.inr (.inr (va_up (fun j => (xrfo rf k j).map a) i.toNatClampNeg (some (a z))))))))) H1 := hP
    have hD : va_D A ((xws dA a sh rf iv lg).set k (a k, .inl (dA 4, nn, .inr (.inr (.inr (.inr (va_up (fun j => (xrfo rf k j).map a) i.toNatClampNeg (some (a z))))))))) := hD
    rw [e1] at hP hD
    have k1 := ih h (hS.mem (hlen.trans hS.2.2.2.1.1) hP hD hs)
    rw [hn] at k1
    exact k1
  · cases h
theorem xi_len (ih : xG L xs l n) (hS : xS L xs p l e R s m args below meth c Q D dA A a0 b c0 s0 M r sh' rf' iv' lg' a H locs ls lv sh rf iv lg) (hn : xbp M nx = bp + 1) (hd : decode (xccf M) bp = .ok (.arraylength, 1))
    (h : xrun (xexec L xs n) M (xlen L M nx lv st sh rf iv lg) = some (r, sh', rf', iv', lg')) : W p l e R s m args below meth c H locs (sh.length - c0) (xsz sh - s0) Q (F0 m bp ls (st.map (xtv a))) := by
  unfold xlen at h
  split at h
  · rename_i k st
    split at h
    · rename_i hk
      have hk : k = 1000 := Nat.eq_of_beq_eq_true hk
      subst hk
      split at h
      · have k1 := ih h hS
        rw [hn] at k1
        obtain ⟨hX, hbl, hbA⟩ := hS.1.2.2.2.2.2 rfl
        have hab : a 1000 = b := (hS.2.2.1.1 1000 (Or.inr rfl)).trans hS.2.2.1.2
        show W p l e R s m args below meth c H locs (sh.length - c0) (xsz sh - s0) Q (F0 m bp ls (.ref (a 1000) :: st.map (xtv a)))
        rw [hab]
        exact va_slen hS.1.1.1 hS.1.1.2.1 hX hbl hbA hS.2.2.2.1.2.2.2 hd k1
      · cases h
    · obtain ⟨⟨tg, nn⟩, hq2, h9⟩ := xrun_nth h
      clear h; have h := h9; clear h9
      obtain ⟨hg, h9⟩ := xrun_guard h
      clear h; have h := h9; clear h9
      have htg : tg < 3 := Nat.le_of_ble_eq_true hg
      have k1 := ih h hS
      rw [hn] at k1
      have hw := xws_get (dA := dA) (a := a) (rf := rf) (iv := iv) (lg := lg) hq2
      match tg, htg, hw with
      | 0, _, hw => exact va_alen hS.1.1.1 hS.1.1.2.1 hS.1.2.2.2.1 hS.2.2.2.1.2.1 k 0 hw (ty := .int) rfl rfl hd k1
      | 1, _, hw => exact va_alen hS.1.1.1 hS.1.1.2.1 hS.1.2.2.2.1 hS.2.2.2.1.2.1 k 1 hw (ty := .long) rfl rfl hd k1
      | 2, _, hw => exact va_alen hS.1.1.1 hS.1.1.2.1 hS.1.2.2.2.1 hS.2.2.2.1.2.1 k 2 hw (ty := .char) rfl rfl hd k1
  · cases h
theorem xi_cpy (hok : xOK) (ih : xG L xs l n) (hS : xS L xs p l e R s m args below meth c Q D dA A a0 b c0 s0 M r sh' rf' iv' lg' a H locs ls lv sh rf iv lg) {q idx : Nat} (hn : xbp M nx = bp + 3) (hq : xlw q = some (.methodLink (xYf M).cls idx arraycopyName)) (hfr : 1 ≤ xfrf M) (hlo : 26 ≤ xlof M) (hd : decode (xccf M) bp = .ok (.invokestatic idx, 3))
    (h : xrun (xexec L xs n) M (xcpy nx lv st sh rf iv lg) = some (r, sh', rf', iv', lg')) : W p l e R s m args below meth c H locs (sh.length - c0) (xsz sh - s0) Q (F0 m bp ls (st.map (xtv a))) := by
  unfold xcpy at h
  split at h
  · rename_i cn dp d sp k st
    obtain ⟨hcat, h9⟩ := xrun_guard h
    clear h; have h := h9; clear h9
    obtain ⟨⟨tg, nn⟩, hq2, h9⟩ := xrun_nth h
    clear h; have h := h9; clear h9
    obtain ⟨⟨td, nd⟩, hqd, h9⟩ := xrun_nth h
    clear h; have h := h9; clear h9
    obtain ⟨hg, h9⟩ := xrun_guard h
    clear h; have h := h9; clear h9
    rw [Bool.and_eq_true] at hg
    obtain ⟨hin, h9⟩ := xrun_C h
    clear h; have h := h9; clear h9
    have e : tg = 0 := Nat.eq_of_beq_eq_true hg.1
    subst e
    have e : td = 0 := Nat.eq_of_beq_eq_true hg.2
    subst e
    have hcat : xcat st ≤ 8 := Nat.le_of_ble_eq_true hcat
    have hts := hS.1.2.1
    refine va_copyi (ty := .int) hS.1.1.1 hS.1.1.2.1 (hS.1.1.2.2.1.trans hS.2.2.2.2.1.1.symm) hS.1.1.2.2.2.1 (hts _ (xTs_of hq rfl)) (hts _ hok.2.2.2.2.1.1) (hts _ hok.2.2.2.2.1.2.1) (hts _ hok.2.2.2.2.1.2.2) hS.1.2.2.2.1 hS.2.2.2.1.2.1 hS.2.2.2.1.2.2.1 hS.2.2.2.1.2.2.2 k d 0 0 (xws_get hq2) (xws_get hqd) rfl rfl rfl hin.1.1 hin.1.2.1 hin.1.2.2 hin.2.1 hin.2.2 (fun _ _ => rfl) (Nat.le_trans hfr hS.1.2.2.1.1) ?_ hd (fun H1 locs1 hP hD hs => ?_)
    · rw [xcat_sum]
      have : nativeFrameWords "java/lang/System" "arraycopy" 5 = 7 := by decide +kernel
      rw [this]
      have := hS.1.2.2.1.2
      omega
    · have e1 : (xws dA a sh rf iv lg).set d (a d, .inl (dA 0, nd, .inl (va_cpy (iv k) (iv d) sp.toNatClampNeg dp.toNatClampNeg cn.toNatClampNeg))) = xws dA a sh rf (xur iv d (va_cpy (iv k) (iv d) sp.toNatClampNeg dp.toNatClampNeg cn.toNatClampNeg)) lg :=
        xws_set hqd (by show (Sum.inl (dA 0, nd, .inl (xur iv d _ d)) : va_E) = _; rw [xur_row]) (fun k' hk' => ⟨xur_ne hk', rfl, fun _ => rfl⟩)
      have hP : va_P D xCl ((xws dA a sh rf iv lg).set d (a d, .inl (dA 0, nd, .inl (va_cpy (iv k) (iv d) sp.toNatClampNeg dp.toNatClampNeg cn.toNatClampNeg)))) H1 := hP
      have hD : va_D A ((xws dA a sh rf iv lg).set d (a d, .inl (dA 0, nd, .inl (va_cpy (iv k) (iv d) sp.toNatClampNeg dp.toNatClampNeg cn.toNatClampNeg)))) := hD
      rw [e1] at hP hD
      have k1 := ih h (hS.mem hS.2.2.2.1.1 hP hD hs)
      rw [hn] at k1
      exact k1
  · cases h
end XH
end
section
theorem xokA_spec {lv : xLv} {st : List Value} {sh : xSh} {rf : xRf} (h : xokA lv st sh rf = true) : sh.length < 900 ∧ xroL sh.length lv = true ∧ xroS sh.length st = true ∧ xroR sh.length rf = true := by
  unfold xokA at h
  simp only [Bool.and_eq_true] at h
  exact ⟨Nat.le_of_ble_eq_true h.1, h.2.1, h.2.2.1, h.2.2.2⟩
theorem xouter (c : ClassId) (N h0 : Nat) : ∀ i : Nat, Jvm.Free.Multi.outerC c N h0 i = arrV c N (fun j => va_rf (if j < i then some (h0 + 1 + j) else none))
  | 0 => by
    show ({ cls := c, slots := Array.replicate N .null, vm := .none } : Cell) = _
    rw [arrV_new]
    refine congrArg (arrV c N) (funext fun j => ?_)
    simp [va_rf]
  | i + 1 => by
    show (Jvm.Free.Multi.outerC c N h0 i).setSlot i (.ref (h0 + 1 + i)) = _
    rw [xouter c N h0 i, arrV_store]
    refine congrArg (arrV c N) (funext fun j => ?_)
    by_cases e : j = i
    · subst e
      simp [updV, va_rf]
    · by_cases h : j < i
      · simp [updV, e, h, Nat.lt_succ_of_lt h]
      · simp [updV, e, h, show ¬ j < i + 1 by omega]
section XA
variable {L : Nat} {xs : Nat → Int32} {p : Program} {l : Launch} {e : Env} {R : Room} {s : State} {m : MethodId} {args : Array Value} {below : List Frame} {meth : Method} {c : Code} {Q : State → Prop} {D : va_G} {dA : Nat → ClassId} {A : Nat → Prop} {a0 : Nat → Nat} {b c0 s0 M : Nat} {r : Option Value} {sh' : xSh} {rf' : xRf} {iv' : xIv} {lg' : xLg} {a : Nat → Nat} {H : Heap} {locs : List Loc} {ls : Array Slot} {lv : xLv} {st : List Value} {sh : xSh} {rf : xRf} {iv : xIv} {lg : xLg} {n bp nx : Nat} {os : List Nat} {cv : Value}
theorem xS.alloc {a2 : Nat → Nat} {sh2 : xSh} {rf2 : xRf} {iv2 : xIv} {lg2 : xLg} {H2 : Heap} {locs2 : List Loc} (hS : xS L xs p l e R s m args below meth c Q D dA A a0 b c0 s0 M r sh' rf' iv' lg' a H locs ls lv sh rf iv lg) (hL : xroL sh.length lv = true) (ha : ∀ k, k < sh.length ∨ k = 1000 → a2 k = a k) (hle : xle sh sh2) (h1 : rf2.length = sh2.length) (hP : va_P D xCl (xws dA a2 sh2 rf2 iv2 lg2) H2) (hD : va_D A (xws dA a2 sh2 rf2 iv2 lg2)) (hs : va_S A s.heap H2 locs2) :
    xS L xs p l e R s m args below meth c Q D dA A a0 b c0 s0 M r sh' rf' iv' lg' a2 H2 locs2 ls lv sh2 rf2 iv2 lg2 :=
  ⟨hS.1, ⟨hS.2.1.1, Nat.le_trans hS.2.1.2.1 hle.1, Nat.le_trans hS.2.1.2.2 hle.2⟩, ⟨fun k hk => (ha k (hk.imp (fun z => Nat.lt_of_lt_of_le z hS.2.1.2.1) id)).trans (hS.2.2.1.1 k hk), hS.2.2.1.2⟩, ⟨h1, hP, hD, hs⟩, xal_move hS.2.2.2.2.1 (xroL_spec ha hL), hS.2.2.2.2.2⟩
/-- one more cell -/
theorem xi_one (ih : xG L xs l n) (hS : xS L xs p l e R s m args below meth c Q D dA A a0 b c0 s0 M r sh' rf' iv' lg' a H locs ls lv sh rf iv lg) {q : Nat × Nat} {row : List (Option Nat)} {k : Nat} (hn : xbp M nx = k) (hA : sh.length < 900 ∧ xroL sh.length lv = true ∧ xroS sh.length st = true ∧ xroR sh.length rf = true)
    (h : xexec L xs n M nx lv (.ref sh.length :: st) (sh ++ [q], rf ++ [row], xzr iv sh.length 0, xzr lg sh.length 0) = some (r, sh', rf', iv', lg'))
    {q0 : Nat} {H1 : Heap} {x : va_E} (hx : ∀ a2 : Nat → Nat, a2 sh.length = q0 → xcell dA a2 (rf ++ [row]) (xzr iv sh.length 0) (xzr lg sh.length 0) sh.length q = x)
    (hP : va_P D xCl (xws dA a sh rf iv lg ++ [(q0, x)]) H1) (hD : va_D A (xws dA a sh rf iv lg ++ [(q0, x)])) (hs : va_S A s.heap H1 locs) :
    W p l e R s m args below meth c H1 locs (sh.length - c0 + 1) (xsz sh - s0 + q.2) Q (F0 m k ls (.ref q0 :: st.map (xtv a))) := by
  obtain ⟨h900, hL, hSt, hR⟩ := hA
  have ha : ∀ k, k < sh.length ∨ k = 1000 → va_up a sh.length q0 k = a k := fun k hk => by
    unfold va_up
    rw [if_neg]
    omega
  have e1 : xws dA (va_up a sh.length q0) (sh ++ [q]) (rf ++ [row]) (xzr iv sh.length 0) (xzr lg sh.length 0) = xws dA a sh rf iv lg ++ [(q0, x)] := by
    rw [xws_app hS.2.2.2.1.1 hR (fun k hk => ha k (Or.inl hk)) (fun k hk => ⟨xzr_lt hk, xzr_lt hk⟩)]
    have e2 : va_up a sh.length q0 sh.length = q0 := by unfold va_up; rw [if_pos rfl]
    congr 1
    show [(va_up a sh.length q0 (sh.length + 0), xcell dA (va_up a sh.length q0) (rf ++ [row]) (xzr iv sh.length 0) (xzr lg sh.length 0) (sh.length + 0) q)] = _
    rw [Nat.add_zero, e2, hx _ e2]
  have k1 := ih h (hS.alloc (a2 := va_up a sh.length q0) hL ha (xle_app sh [q]) (by rw [List.length_append, List.length_append, hS.2.2.2.1.1]; rfl) (by rw [e1]; exact hP) (by rw [e1]; exact hD) hs)
  have c1 : (sh ++ [q]).length - c0 = sh.length - c0 + 1 := by
    have := hS.2.1.2.1
    rw [List.length_append, List.length_singleton]
    omega
  have c2 : xsz (sh ++ [q]) - s0 = xsz sh - s0 + q.2 := by
    have := hS.2.1.2.2
    rw [xsz_app]
    show xsz sh + (q.2 + 0) - s0 = _
    omega
  rw [c1, c2, hn, List.map_cons, xroS_spec ha hSt] at k1
  have e3 : xtv (va_up a sh.length q0) (.ref sh.length) = .ref q0 := by
    show Value.ref (va_up a sh.length q0 sh.length) = _
    unfold va_up
    rw [if_pos rfl]
  rw [e3] at k1
  exact k1
theorem xroom1 (hS : xS L xs p l e R s m args below meth c Q D dA A a0 b c0 s0 M r sh' rf' iv' lg' a H locs ls lv sh rf iv lg) {q : Nat × Nat} {pc : Nat} {lv2 : xLv} {st2 : List Value} {rf2 : xRf} {iv2 : xIv} {lg2 : xLg} (h : xexec L xs n M pc lv2 st2 (sh ++ [q], rf2, iv2, lg2) = some (r, sh', rf', iv', lg')) : sh.length - c0 + 1 ≤ R.cells ∧ xsz sh - s0 + q.2 ≤ R.slots := by
  have hg := xexec_gr _ _ _ _ _ _ _ h
  have h1 : (sh ++ [q]).length ≤ sh'.length := hg.1
  have h2 : xsz (sh ++ [q]) ≤ xsz sh' := hg.2
  rw [List.length_append, List.length_singleton] at h1
  rw [xsz_app] at h2
  have h3 : xsz [q] = q.2 := by show q.2 + 0 = _; omega
  have := hS.2.1
  omega
set_option maxHeartbeats 1000000 in
theorem xi_new (hok : xOK) (ih : xG L xs l n) (hS : xS L xs p l e R s m args below meth c Q D dA A a0 b c0 s0 M r sh' rf' iv' lg' a H locs ls lv sh rf iv lg) {idx q ci nn q2 : Nat} (hn : xbp M nx = bp + 3) (hd : decode (xccf M) bp = .ok (.new idx, 3))
    (hF : xsome xCl[ci]? (fun C => Nat.beq nn C.2.2 && (decide (xlw q = some (.classLink (xYf M).cls idx C.1)) && (decide (xlw q2 = some (.instantiable C.1 C.2.2)) && decide (Cond.initialized C.1 ∈ lw_tbl)))) = true)
    (h : xrun (xexec L xs n) M (xnew nx [q, ci, nn, q2] lv st sh rf iv lg) = some (r, sh', rf', iv', lg')) : W p l e R s m args below meth c H locs (sh.length - c0) (xsz sh - s0) Q (F0 m bp ls (st.map (xtv a))) := by
  obtain ⟨⟨Cn, T, N⟩, hC, hF⟩ := xsome_inv hF
  simp only [Bool.and_eq_true, decide_eq_true_eq] at hF
  obtain ⟨hN, f1, f2, f3⟩ := hF
  have hN : nn = N := Nat.eq_of_beq_eq_true hN
  subst hN
  obtain ⟨ty, hty, hcls⟩ := hok.2.1 ci _ hC
  unfold xnew at h
  dsimp only at h
  obtain ⟨hA, h9⟩ := xrun_guard h
  clear h; have h := h9; clear h9
  rw [xsnoc_eq, xsnoc_eq] at h
  have h : xexec L xs n M nx lv (.ref sh.length :: st) (sh ++ [(10 + ci, nn)], rf ++ [List.replicate nn none], xzr iv sh.length 0, xzr lg sh.length 0) = some (r, sh', rf', iv', lg') := h
  have hrm := xroom1 hS h
  have hts := hS.1.2.1
  refine va_new (ci := ci) (fs := (List.range nn).map (fun j => if xkd ci j = true then Value.null else .int 0)) hS.1.1.1 hS.1.1.2.1 hts hcls.1 ty hcls.2.1 hS.1.1.2.2.2.1 (hts _ (xTs_of f1 rfl)) (hts _ (xTs_of f2 rfl)) (hts _ (List.mem_filter.mpr ⟨f3, rfl⟩)) hS.1.2.2.2.1 hS.2.2.2.1.2.1 hS.2.2.2.1.2.2.1 hS.2.2.2.1.2.2.2 hS.1.2.2.2.2.1 hC (fun j hj => ?_) hrm.1 hrm.2 hd (fun q0 H1 hP hD hs => ?_)
  · rw [(hcls.2.2.2 j hj).2]
    unfold vp_V
    rw [List.getD_eq_getElem?_getD, List.getElem?_map, List.getElem?_range hj]
    rfl
  · refine xi_one ih hS hn (xokA_spec hA) h (fun a2 _ => ?_) hP hD hs
    rw [xcell_obj]
    congr 2
    unfold xfs
    apply List.map_congr_left
    intro j hj
    have e1 : xrfo (rf ++ [List.replicate nn none]) sh.length j = none := by
      unfold xrfo
      rw [← hS.2.2.2.1.1, List.getElem?_append_right (Nat.le_refl _), Nat.sub_self]
      simp only [List.getElem?_cons_zero]
      rw [List.getElem?_replicate]
      split <;> rename_i heq <;> split at heq <;> simp_all
    rw [e1, xzr_ge (Nat.le_refl _)]
    rfl
/-- a new row of numbers -/
theorem xi_newa (hok : xOK) (ih : xG L xs l n) (hS : xS L xs p l e R s m args below meth c Q D dA A a0 b c0 s0 M r sh' rf' iv' lg' a H locs ls lv sh rf iv lg) {tag : Nat} {aty : ArrayType} {ty : FieldType} {z : Nat → vp_A} (hn : xbp M nx = bp + 2) (hd : decode (xccf M) bp = .ok (.newarray aty, 2))
    (hty : newarray.typeOf aty = ty) (harr : Cond.arrayClass ty ∈ xTs) (ht : (xtys dA)[tag]? = some (dA tag, ty)) (hRA : ∀ cA, va_RA s cA ty → s.vm.findClass ("[" ++ ty.toString) = some cA) (hz : ∀ N cA, vp_cell cA (z N) = arrV cA N (fun _ => defaultValue ty)) (hcb : componentBytes ty ≤ 8)
    (hx : ∀ (a2 : Nat → Nat) (rf2 : xRf) (iv2 : xIv) (lg2 : xLg) (k N : Nat), iv2 k = (fun _ => 0) → lg2 k = (fun _ => 0) → xcell dA a2 rf2 iv2 lg2 k (tag, N) = .inl (dA tag, z N))
    (h : xrun (xexec L xs n) M (xnewa tag nx lv st sh rf iv lg) = some (r, sh', rf', iv', lg')) : W p l e R s m args below meth c H locs (sh.length - c0) (xsz sh - s0) Q (F0 m bp ls (st.map (xtv a))) := by
  unfold xnewa at h
  split at h
  · rename_i N st
    obtain ⟨hA, h9⟩ := xrun_guard h
    clear h; have h := h9; clear h9
    rw [xsnoc_eq, xsnoc_eq] at h
    obtain ⟨hc, h9⟩ := xrun_C h
    clear h; have h := h9; clear h9
    have hrm := xroom1 hS h
    refine va_newa (a0 := z N.toNatClampNeg) hS.1.1.1 hS.1.1.2.1 (by rw [hty]; exact hS.1.2.1 _ harr) hty hS.1.2.2.2.1 hS.2.2.2.1.2.1 hS.2.2.2.1.2.2.1 hS.2.2.2.1.2.2.2 hS.1.2.2.2.2.1 (fun cA => hz _ cA) hc.1 rfl (Nat.le_trans (Nat.mul_le_mul hc.2 hcb) (by decide)) hrm.1 hrm.2 hd (fun q0 cA H1 hK1 hP hD hs => ?_)
    have e1 : cA = dA tag := by
      have f1 := hRA _ (hK1.2 5 (cA, ty) rfl).2
      have f2 := hRA _ (hS.1.2.2.2.1.2 tag _ ht).2
      exact Option.some.inj (f1.symm.trans f2)
    subst e1
    exact xi_one ih hS hn (xokA_spec hA) h (fun a2 _ => hx a2 _ _ _ _ _ (xzr_ge (Nat.le_refl _)) (xzr_ge (Nat.le_refl _))) hP hD hs
  · cases h
theorem xi_newq (hok : xOK) (ih : xG L xs l n) (hS : xS L xs p l e R s m args below meth c Q D dA A a0 b c0 s0 M r sh' rf' iv' lg' a H locs ls lv sh rf iv lg) {idx q : Nat} (hn : xbp M nx = bp + 3) (hd : decode (xccf M) bp = .ok (.anewarray idx, 3)) (hq : xlw q = some (.classLink (xYf M).cls idx "StepRings$Sheet"))
    (h : xrun (xexec L xs n) M (xnewq nx lv st sh rf iv lg) = some (r, sh', rf', iv', lg')) : W p l e R s m args below meth c H locs (sh.length - c0) (xsz sh - s0) Q (F0 m bp ls (st.map (xtv a))) := by
  unfold xnewq at h
  split at h
  · rename_i N st
    obtain ⟨hA, h9⟩ := xrun_guard h
    clear h; have h := h9; clear h9
    rw [xsnoc_eq, xsnoc_eq] at h
    obtain ⟨hc, h9⟩ := xrun_C h
    clear h; have h := h9; clear h9
    have hrm := xroom1 hS h
    have hts := hS.1.2.1
    refine va_newq (C := "StepRings$Sheet") hS.1.1.1 hS.1.1.2.1 hS.1.1.2.2.2.1 (hts _ (xTs_of hq rfl)) (va_AO.of (hts _ hok.2.2.2.2.2.2.2.2.2.1)) hS.1.2.2.2.1 hS.2.2.2.1.2.1 hS.2.2.2.1.2.2.1 hS.2.2.2.1.2.2.2 hS.1.2.2.2.2.1 hc.1 rfl (Nat.le_trans (Nat.mul_le_mul_right 4 hc.2) (by decide)) hrm.1 hrm.2 hd (fun q0 cA H1 hK1 hP hD hs => ?_)
    have e1 : cA = dA 4 := by
      obtain ⟨_, _, _, _, _, f1⟩ := (hK1.2 5 (cA, .object "StepRings$Sheet") rfl).2
      obtain ⟨_, _, _, _, _, f2⟩ := (hS.1.2.2.2.1.2 4 (dA 4, .object "StepRings$Sheet") rfl).2
      exact Option.some.inj (f1.symm.trans f2)
    subst e1
    refine xi_one ih hS hn (xokA_spec hA) h (fun a2 _ => ?_) hP hD hs
    show (Sum.inl (dA 4, N.toNatClampNeg, .inr (.inr (.inr (.inr (fun j => (xrfo (rf ++ [List.replicate N.toNatClampNeg none]) sh.length j).map a2))))) : va_E) = _
    have e2 : (fun j => (xrfo (rf ++ [List.replicate N.toNatClampNeg none]) sh.length j).map a2) = fun _ => none := by
      funext j
      have e1 : xrfo (rf ++ [List.replicate N.toNatClampNeg none]) sh.length j = none := by
        unfold xrfo
        rw [← hS.2.2.2.1.1, List.getElem?_append_right (Nat.le_refl _), Nat.sub_self]
        simp only [List.getElem?_cons_zero]
        rw [List.getElem?_replicate]
        split <;> rename_i heq <;> split at heq <;> simp_all
      rw [e1]
      rfl
    rw [e2]
  · cases h
end XA
end
section
theorem xsw_inv {α : Type} {v : Int32} {g : Nat → Option α} {d : Nat} {y : α} : ∀ sw : List (Int32 × Nat), xsw v g d sw = some y → (∃ (j : Nat) (q : Int32 × Nat), sw[j]? = some q ∧ v = q.1 ∧ g q.2 = some y) ∨ ((∀ (j : Nat) (q : Int32 × Nat), sw[j]? = some q → ¬ v = q.1) ∧ g d = some y)
  | [], h => Or.inr ⟨fun j q hj => by simp at hj, h⟩
  | q :: l, h => by
    unfold xsw at h
    by_cases hc : v = q.1
    · rw [xite_t hc] at h
      exact Or.inl ⟨0, q, rfl, hc, h⟩
    · rw [xite_f hc] at h
      rcases xsw_inv l h with ⟨j, q2, h1, h2, h3⟩ | ⟨h1, h2⟩
      · exact Or.inl ⟨j + 1, q2, by simpa using h1, h2, h3⟩
      · refine Or.inr ⟨fun j q2 hj => ?_, h2⟩
        cases j with
        | zero =>
          have e : q = q2 := by simpa using hj
          subst e
          exact hc
        | succ j => exact h1 j q2 (by simpa using hj)
theorem xokSw_spec {M bp : Nat} : ∀ {lo : Int} {offs : List Int} {sw : List (Int32 × Nat)}, xokSw M bp lo offs sw = true → sw.length = offs.length ∧ ∀ (j : Nat) (q : Int32 × Nat), sw[j]? = some q → ∃ o, offs[j]? = some o ∧ q.1.toInt = lo + j ∧ (bp : Int) + o = (xbp M q.2 : Int)
  | lo, [], [], _ => ⟨rfl, fun j q hj => by simp at hj⟩
  | lo, o :: os, q :: sw, h => by
    have h2 : (decide (q.1.toInt = lo) && (decide ((bp : Int) + o = (xbp M q.2 : Int)) && xokSw M bp (lo + 1) os sw)) = true := h
    simp only [Bool.and_eq_true, decide_eq_true_eq] at h2
    obtain ⟨h3, h4, h5⟩ := h2
    obtain ⟨h6, h7⟩ := xokSw_spec h5
    refine ⟨by simp [h6], fun j q2 hj => ?_⟩
    cases j with
    | zero =>
      have e : q = q2 := by simpa using hj
      subst e
      exact ⟨o, rfl, by rw [h3]; simp, h4⟩
    | succ j =>
      obtain ⟨o2, g1, g2, g3⟩ := h7 j q2 (by simpa using hj)
      exact ⟨o2, by simpa using g1, by rw [g2]; simp; omega, g3⟩
  | lo, [], q :: sw, h => by cases h
  | lo, o :: os, [], h => by cases h
section XM
variable {L : Nat} {xs : Nat → Int32} {p : Program} {l : Launch} {e : Env} {R : Room} {s : State} {m : MethodId} {args : Array Value} {below : List Frame} {meth : Method} {c : Code} {Q : State → Prop} {D : va_G} {dA : Nat → ClassId} {A : Nat → Prop} {a0 : Nat → Nat} {b c0 s0 M : Nat} {r : Option Value} {sh' : xSh} {rf' : xRf} {iv' : xIv} {lg' : xLg} {a : Nat → Nat} {H : Heap} {locs : List Loc} {ls : Array Slot} {lv : xLv} {st : List Value} {sh : xSh} {rf : xRf} {iv : xIv} {lg : xLg} {n bp nx : Nat} {os : List Nat} {cv : Value}
theorem xi_tab (ih : xG L xs l n) (hS : xS L xs p l e R s m args below meth c Q D dA A a0 b c0 s0 M r sh' rf' iv' lg' a H locs ls lv sh rf iv lg) {t len : Nat} {dflt lo hi : Int} {offs : Array Int} {sw : List (Int32 × Nat)} (hd : decode (xccf M) bp = .ok (.tableswitch dflt lo hi offs, len)) (ht : (bp : Int) + dflt = (xbp M t : Int)) (hhi : hi = lo + (offs.toList.length : Int) - 1) (hsw : xokSw M bp lo offs.toList sw = true)
    (h : xrun (xexec L xs n) M (xtab [t] sw lv st sh rf iv lg) = some (r, sh', rf', iv', lg')) : W p l e R s m args below meth c H locs (sh.length - c0) (xsz sh - s0) Q (F0 m bp ls (st.map (xtv a))) := by
  unfold xtab at h
  dsimp only at h
  split at h
  · rename_i x st
    have h : xsw x (fun t => xexec L xs n M t lv st (sh, rf, iv, lg)) t sw = some (r, sh', rf', iv', lg') := h
    obtain ⟨hlen, hrow⟩ := xokSw_spec hsw
    rcases xsw_inv sw h with ⟨j, q, h1, h2, h3⟩ | ⟨h1, h2⟩
    · obtain ⟨o, g1, g2, g3⟩ := hrow j q h1
      have hj : j < sw.length := (List.getElem?_eq_some_iff.mp h1).1
      rw [← h2] at g2
      exact lv_tableIn hS.1.1.1 hS.1.1.2.1 hd (by omega) (by omega) (by rw [show (x.toInt - lo).toNat = j by omega, ← Array.getElem?_toList]; exact g1) g3 (ih h3 hS)
    · refine lv_tableOut hS.1.1.1 hS.1.1.2.1 hd ?_ ht (ih h2 hS)
      by_cases z1 : x.toInt < lo
      · exact Or.inl z1
      · by_cases z2 : hi < x.toInt
        · exact Or.inr z2
        · exfalso
          have hj : (x.toInt - lo).toNat < sw.length := by omega
          have hq := List.getElem?_eq_getElem hj
          obtain ⟨o, g1, g2, g3⟩ := hrow _ _ hq
          refine h1 _ _ hq (Int32.toInt_inj.mp ?_)
          rw [g2]
          omega
  · cases h
theorem xi_obj (hok : xOK) (ih : xG L xs l n) (hS : xS L xs p l e R s m args below meth c Q D dA A a0 b c0 s0 M r sh' rf' iv' lg' a H locs ls lv sh rf iv lg) {q idx : Nat} (hn : xbp M nx = bp + 3) (hq : xlw q = some (.methodLink (xYf M).cls idx Lib.objectInit)) (hfr : 1 ≤ xfrf M) (hlo : 20 ≤ xlof M) (hd : decode (xccf M) bp = .ok (.invokespecial idx, 3))
    (h : xrun (xexec L xs n) M (xobj nx lv st sh rf iv lg) = some (r, sh', rf', iv', lg')) : W p l e R s m args below meth c H locs (sh.length - c0) (xsz sh - s0) Q (F0 m bp ls (st.map (xtv a))) := by
  unfold xobj at h
  split at h
  · rename_i k st
    obtain ⟨hcat, h9⟩ := xrun_guard h
    clear h; have h := h9; clear h9
    have hcat : xcat st ≤ 8 := Nat.le_of_ble_eq_true hcat
    have hts := hS.1.2.1
    have k1 := ih h hS
    rw [hn] at k1
    have hr := lv_room (m := m) (pc := bp) (ls := ls) (rest := List.map (xtv a) (Value.ref k :: st)) (st := st.map (xtv a)) (by rw [xcat_sum]; exact hcat)
    refine W.objInit hS.1.1.1 hS.1.1.2.1 hS.1.1.2.2.2.1 (hts _ (xTs_of hq rfl)) (hts _ hok.2.2.2.2.2.1.1) (hts _ hok.2.2.2.2.2.1.2) rfl (hS.2.2.2.2.1.1.trans hS.1.1.2.2.1.symm) rfl hd (Nat.le_trans hfr hS.1.2.2.1.1) ?_ k1
    have := hS.1.2.2.1.2
    omega
  · cases h
theorem xroom0 (hS : xS L xs p l e R s m args below meth c Q D dA A a0 b c0 s0 M r sh' rf' iv' lg' a H locs ls lv sh rf iv lg) {pc : Nat} {lv2 : xLv} {st2 : List Value} {rf2 : xRf} {iv2 : xIv} {lg2 : xLg} (h : xexec L xs n M pc lv2 st2 (sh, rf2, iv2, lg2) = some (r, sh', rf', iv', lg')) : sh.length - c0 ≤ R.cells ∧ xsz sh - s0 ≤ R.slots := by
  have hg := xexec_gr _ _ _ _ _ _ _ h
  have h1 : sh.length ≤ sh'.length := hg.1
  have h2 : xsz sh ≤ xsz sh' := hg.2
  have := hS.2.1
  omega
theorem xi_max (hok : xOK) (ih : xG L xs l n) (hS : xS L xs p l e R s m args below meth c Q D dA A a0 b c0 s0 M r sh' rf' iv' lg' a H locs ls lv sh rf iv lg) {q idx : Nat} (hn : xbp M nx = bp + 3) (hq : xlw q = some (.methodLink (xYf M).cls idx Lib.Math.max.name)) (hfr : 1 ≤ xfrf M) (hlo : 21 ≤ xlof M) (hd : decode (xccf M) bp = .ok (.invokestatic idx, 3))
    (h : xrun (xexec L xs n) M (xmth imx nx lv st sh rf iv lg) = some (r, sh', rf', iv', lg')) : W p l e R s m args below meth c H locs (sh.length - c0) (xsz sh - s0) Q (F0 m bp ls (st.map (xtv a))) := by
  unfold xmth at h
  split at h
  · rename_i y x st
    obtain ⟨hcat, h9⟩ := xrun_guard h
    clear h; have h := h9; clear h9
    have hcat : xcat st ≤ 8 := Nat.le_of_ble_eq_true hcat
    have hts := hS.1.2.1
    have hrm := xroom0 hS h
    have k1 := ih h hS
    rw [hn] at k1
    refine va_mmax hS.1.1.1 hS.1.1.2.1 (hS.1.1.2.2.1.trans hS.2.2.2.2.1.1.symm) hS.1.1.2.2.2.1 (hts _ (xTs_of hq rfl)) (hts _ hok.2.2.2.1.2.1) (hts _ hok.2.2.2.1.2.2.2.2) (hts _ hok.2.2.2.1.1) (Nat.le_trans hfr hS.1.2.2.1.1) ?_ hrm.1 hrm.2 hd k1
    rw [xcat_sum]
    have := hS.1.2.2.1.2
    omega
  · cases h
theorem xi_min (hok : xOK) (ih : xG L xs l n) (hS : xS L xs p l e R s m args below meth c Q D dA A a0 b c0 s0 M r sh' rf' iv' lg' a H locs ls lv sh rf iv lg) {q idx : Nat} (hn : xbp M nx = bp + 3) (hq : xlw q = some (.methodLink (xYf M).cls idx Lib.Math.min.name)) (hfr : 1 ≤ xfrf M) (hlo : 21 ≤ xlof M) (hd : decode (xccf M) bp = .ok (.invokestatic idx, 3))
    (h : xrun (xexec L xs n) M (xmth imn nx lv st sh rf iv lg) = some (r, sh', rf', iv', lg')) : W p l e R s m args below meth c H locs (sh.length - c0) (xsz sh - s0) Q (F0 m bp ls (st.map (xtv a))) := by
  unfold xmth at h
  split at h
  · rename_i y x st
    obtain ⟨hcat, h9⟩ := xrun_guard h
    clear h; have h := h9; clear h9
    have hcat : xcat st ≤ 8 := Nat.le_of_ble_eq_true hcat
    have hts := hS.1.2.1
    have hrm := xroom0 hS h
    have k1 := ih h hS
    rw [hn] at k1
    refine va_mmin hS.1.1.1 hS.1.1.2.1 (hS.1.1.2.2.1.trans hS.2.2.2.2.1.1.symm) hS.1.1.2.2.2.1 (hts _ (xTs_of hq rfl)) (hts _ hok.2.2.2.1.2.2.2.1) (hts _ hok.2.2.2.1.2.2.2.2) (hts _ hok.2.2.2.1.2.2.1) (Nat.le_trans hfr hS.1.2.2.1.1) ?_ hrm.1 hrm.2 hd k1
    rw [xcat_sum]
    have := hS.1.2.2.1.2
    omega
  · cases h
set_option maxHeartbeats 2000000 in
theorem xi_mna (hok : xOK) (ih : xG L xs l n) (hS : xS L xs p l e R s m args below meth c Q D dA A a0 b c0 s0 M r sh' rf' iv' lg' a H locs ls lv sh rf iv lg) {q idx : Nat} (hn : xbp M nx = bp + 4) (hd : decode (xccf M) bp = .ok (.multianewarray idx 2, 4)) (hq : xlw q = some (.classLink (xYf M).cls idx "[[I"))
    (h : xrun (xexec L xs n) M (xmna nx lv st sh rf iv lg) = some (r, sh', rf', iv', lg')) : W p l e R s m args below meth c H locs (sh.length - c0) (xsz sh - s0) Q (F0 m bp ls (st.map (xtv a))) := by
  unfold xmna at h
  split at h
  · rename_i K N st
    obtain ⟨hA, h9⟩ := xrun_guard h
    clear h; have h := h9; clear h9
    obtain ⟨hc, h9⟩ := xrun_C h
    clear h; have h := h9; clear h9
    obtain ⟨h4, hk0, hk1⟩ := hc
    subst h4
    obtain ⟨h900, hL, hSt, hR⟩ := xokA_spec hA
    have hts := hS.1.2.1
    generalize hl5 : ([(3, 4), (0, K.toNatClampNeg), (0, K.toNatClampNeg), (0, K.toNatClampNeg), (0, K.toNatClampNeg)] : xSh) = l5 at h
    generalize hr5 : ([[some (sh.length + 1), some (sh.length + 2), some (sh.length + 3), some (sh.length + 4)], [], [], [], []] : xRf) = r5 at h
    have hg := xexec_gr _ _ _ _ _ _ _ h
    have hg1 : (sh ++ l5).length ≤ sh'.length := hg.1
    have hg2 : xsz (sh ++ l5) ≤ xsz sh' := hg.2
    have hl5l : l5.length = 5 := by rw [← hl5]; rfl
    have hl5z : xsz l5 = 4 + 4 * K.toNatClampNeg := by rw [← hl5]; show 4 + (K.toNatClampNeg + (K.toNatClampNeg + (K.toNatClampNeg + (K.toNatClampNeg + 0)))) = _; omega
    rw [List.length_append, hl5l] at hg1
    rw [xsz_app, hl5z] at hg2
    have hS21 := hS.2.1
    have h44 : (4 : Int32).toNatClampNeg = 4 := by decide
    intro T hT Xs
    obtain ⟨vm₁, cA, comp, -, fA, fC, -, -, X', step⟩ := Xs.multianewarray2F (ty := .int) hS.1.1.1 hS.1.1.2.2.2.1 (hts _ (xTs_of hq rfl)) (hts _ hok.2.2.2.2.2.2.2.2.2.2) (hts _ hok.2.2.2.2.2.2.1) (g := F0 m bp ls (.int K :: .int 4 :: st.map (xtv a))) rfl (by rw [hS.1.1.2.1]; exact hd) rfl (by decide) hk0 (by rw [h44]; decide) (Nat.le_trans (Nat.mul_le_mul_right _ hk1) (by decide)) (Nat.le_trans hk1 (by decide)) rfl rfl (by rw [h44]; omega) (by rw [h44]; omega)
    rw [h44] at X' step
    have eA : cA = dA 3 := Option.some.inj (fA.symm.trans (hS.1.2.2.2.1.2 3 (dA 3, .array .int) rfl).2)
    have eC : comp = dA 0 := Option.some.inj (fC.symm.trans (hS.1.2.2.2.1.2 0 (dA 0, .int) rfl).2)
    subst eA
    subst eC
    generalize hF : Jvm.Free.Multi.fill (T.setVm vm₁) (dA 3) (dA 0) 4 K.toNatClampNeg (defaultValue .int) 4 = F at X' step
    have hTh : (T.setVm vm₁).heap = H := hT
    obtain ⟨f1, f2, -, -⟩ := Jvm.Free.Multi.fill_facts (T.setVm vm₁) (dA 3) (dA 0) 4 K.toNatClampNeg (defaultValue .int) 4
    rw [hF, hTh] at f1 f2
    have hold : ∀ x : Nat, x < H.size → F.heap[x]? = H[x]? := fun x hx => by
      have := Jvm.Free.Multi.fill_old (T.setVm vm₁) (dA 3) (dA 0) 4 K.toNatClampNeg (defaultValue .int) (a := x) (by rw [hTh]; exact hx) 4
      rw [hF, hTh] at this
      exact this
    have hrow : ∀ j : Nat, j < 4 → F.heap[H.size + 1 + j]? = some (vp_cell (dA 0) (K.toNatClampNeg, .inl (fun _ => 0))) := fun j hj => by
      have := Jvm.Free.Multi.fill_inner (T.setVm vm₁) (dA 3) (dA 0) 4 K.toNatClampNeg (defaultValue .int) 4 j hj
      rw [hF, hTh] at this
      rw [this, vp_cell_i]
      show some ({ cls := dA 0, slots := Array.replicate K.toNatClampNeg (.int 0), vm := .none } : Cell) = _
      rw [arrV_new]
    rw [xouter] at f2
    -- the new addresses
    generalize ha2 : (fun k : Nat => if sh.length ≤ k ∧ k ≤ sh.length + 4 then H.size + (k - sh.length) else a k) = a2
    have ha : ∀ k, k < sh.length ∨ k = 1000 → a2 k = a k := fun k hk => by rw [← ha2]; exact if_neg (by omega)
    have hnew : ∀ i, i ≤ 4 → a2 (sh.length + i) = H.size + i := fun i hi => by
      rw [← ha2]
      show (if sh.length ≤ sh.length + i ∧ sh.length + i ≤ sh.length + 4 then H.size + (sh.length + i - sh.length) else a (sh.length + i)) = _
      rw [if_pos (by omega)]
      omega
    have hrl := hS.2.2.2.1.1
    have e1 := xws_app (dA := dA) (a := a) (a' := a2) (l := l5) (lr := r5) (iv := iv) (lg := lg) (iv' := xzr iv sh.length 0) (lg' := xzr lg sh.length 0) hrl hR (fun k hk => ha k (Or.inl hk)) (fun k hk => ⟨xzr_lt hk, xzr_lt hk⟩)
    rw [hl5l] at e1
    have hrf0 : ∀ j, (xrfo (rf ++ r5) sh.length j).map a2 = if j < 4 then some (H.size + 1 + j) else none := fun j => by
      have e2 : xrfo (rf ++ r5) sh.length j = xrfo r5 0 j := by
        unfold xrfo
        rw [← hrl, List.getElem?_append_right (Nat.le_refl _), Nat.sub_self]
      rw [e2, ← hr5]
      match j with
      | 0 => show some (a2 (sh.length + 1)) = _; rw [hnew 1 (by decide)]; rfl
      | 1 => show some (a2 (sh.length + 2)) = _; rw [hnew 2 (by decide)]; rfl
      | 2 => show some (a2 (sh.length + 3)) = _; rw [hnew 3 (by decide)]; rfl
      | 3 => show some (a2 (sh.length + 4)) = _; rw [hnew 4 (by decide)]; rfl
      | j + 4 => rw [if_neg (by omega)]; rfl
    have hcell : ∀ (i : Nat) (x : Nat × va_E), ((List.range 5).map (fun i => (a2 (sh.length + i), xcell dA a2 (rf ++ r5) (xzr iv sh.length 0) (xzr lg sh.length 0) (sh.length + i) (l5.getD i (0, 0)))))[i]? = some x → i < 5 ∧ x.1 = H.size + i ∧ va_at D xCl x F.heap := by
      intro i x hx
      have hi : i < 5 := by
        have := (List.getElem?_eq_some_iff.mp hx).1
        rw [List.length_map, List.length_range] at this
        exact this
      rw [List.getElem?_map, List.getElem?_range hi] at hx
      have hx : (a2 (sh.length + i), xcell dA a2 (rf ++ r5) (xzr iv sh.length 0) (xzr lg sh.length 0) (sh.length + i) (l5.getD i (0, 0))) = x := Option.some.inj hx
      subst hx
      refine ⟨hi, hnew i (by omega), ?_⟩
      have hin : ∀ i, 0 < i → i < 5 → l5.getD i (0, 0) = (0, K.toNatClampNeg) := fun i h0 h1 => by
        rw [← hl5]
        match i, h0, h1 with
        | 1, _, _ => rfl
        | 2, _, _ => rfl
        | 3, _, _ => rfl
        | 4, _, _ => rfl
      by_cases h0 : i = 0
      · subst h0
        have g0 : l5.getD 0 (0, 0) = (3, 4) := by rw [← hl5]; rfl
        rw [g0]
        show F.heap[a2 (sh.length + 0)]? = some (vp_cell (dA 3) (4, .inr (.inr (.inr (.inr (fun j => (xrfo (rf ++ r5) (sh.length + 0) j).map a2))))))
        rw [hnew 0 (by decide), Nat.add_zero, Nat.add_zero, vp_cell_q, f2]
        congr 2
        funext j
        rw [hrf0 j]
      · rw [hin i (by omega) hi]
        show F.heap[a2 (sh.length + i)]? = some (vp_cell (dA 0) (K.toNatClampNeg, .inl (xzr iv sh.length 0 (sh.length + i))))
        rw [hnew i (by omega), xzr_ge (Nat.le_add_right _ _), show H.size + i = H.size + 1 + (i - 1) by omega]
        exact hrow (i - 1) (by omega)
    have hP := hS.2.2.2.1.2.1
    have hD := hS.2.2.2.1.2.2.1
    have hs := hS.2.2.2.1.2.2.2
    have hP2 : va_P D xCl (xws dA a2 (sh ++ l5) (rf ++ r5) (xzr iv sh.length 0) (xzr lg sh.length 0)) F.heap := by
      rw [e1]
      exact (hP.kept (fun k x hx => hold x.1 (hP k x hx).lt)).app (fun i x hx => (hcell i x hx).2.2)
    have hD2 : va_D A (xws dA a2 (sh ++ l5) (rf ++ r5) (xzr iv sh.length 0) (xzr lg sh.length 0)) := by
      rw [e1]
      refine hD.app ⟨fun i j x y hi hj hxy => ?_, fun k x hx => hS.1.2.2.2.2.1 _ ?_⟩ (fun i j x y hx hy hxy => ?_)
      · have := (hcell i x hi).2.1
        have := (hcell j y hj).2.1
        omega
      · rw [(hcell k x hx).2.1]
        have := hs.1
        omega
      · have := (hP i x hx).lt
        have := (hcell j y hy).2.1
        omega
    have hs2 : va_S A s.heap F.heap locs := ⟨Nat.le_trans hs.1 (by rw [f1]; omega), fun x h1 h2 => (hold x (Nat.lt_of_lt_of_le h1 hs.1)).trans (hs.2.1 x h1 h2), hs.2.2⟩
    have k1 := ih h (hS.alloc (a2 := a2) hL ha (xle_app sh l5) (by rw [List.length_append, List.length_append, hrl, hl5l, ← hr5]; rfl) hP2 hD2 hs2)
    have c1 : (sh ++ l5).length - c0 = sh.length - c0 + 1 + 4 := by rw [List.length_append, hl5l]; omega
    have c2 : xsz (sh ++ l5) - s0 = xsz sh - s0 + 4 + 4 * K.toNatClampNeg := by rw [xsz_app, hl5z]; omega
    rw [c1, c2, hn, List.map_cons, xroS_spec ha hSt] at k1
    have e3 : xtv a2 (.ref sh.length) = .ref H.size := by
      show Value.ref (a2 sh.length) = _
      have := hnew 0 (by decide)
      rw [Nat.add_zero, Nat.add_zero] at this
      rw [this]
    rw [e3] at k1
    obtain ⟨t, a1, b1⟩ := k1 F rfl X'
    refine ⟨t, step t ?_, b1⟩
    have e4 : T.heap.size = H.size := by rw [hT]
    rw [e4]
    exact a1
  · cases h
end XM
end
section
/-- the words that a callee may take as they are, and the others, which are carried -/
def xTg : List Cond := xTs.filter goodWord
def xNs (U : State) : Prop := ∀ w ∈ xTs, goodWord w = false → w.before #[] U = true
theorem xAOA_moved {u U : State} (hvm : u.vm.Alike U.vm) (h : (Cond.arrayOver (.array .int)).before #[] u = true) : (Cond.arrayOver (.array .int)).before #[] U = true := by
  obtain ⟨comp, c, k, h1, h2, h3, h4, h5⟩ := arrayOverA_spec h
  obtain ⟨k', hk', he⟩ := hvm.2.2 _ _ h3
  have hi : (U.vm.classes.findIdx? fun (x : Class) => match x.kind with | .array component _ => component == comp | _ => false) = some c := by
    have e1 := va_idx_bare U.vm comp
    have e2 := va_idx_bare u.vm comp
    have e3 : U.vm.bare = u.vm.bare := by first | exact hvm.bare_eq | exact hvm.bare_eq.symm
    rw [e3] at e1
    exact e1.symm.trans (e2.trans h2)
  have hkind : k'.kind = .array comp (.array .int) := by rw [he]; exact h4
  have f1 : U.vm.findClass (FieldType.array .int).toString = some comp := by rw [hvm.findClass]; exact h1
  have f2 : U.vm.findClass ("[" ++ (FieldType.array .int).toString) = some c := by rw [hvm.findClass]; exact h5
  unfold Cond.before Cond.holds
  simp only [Cond.value]
  rw [f1, Option.bind_some]
  refine (congrArg (fun o : Option Nat => (o.bind (fun c => (U.vm.classes[c]?).map fun (k : Class) => match k.kind with | .array _ ty => decide (ty = FieldType.array .int) && decide (U.vm.findClass ("[" ++ (FieldType.array .int).toString) = some c) | _ => false) == some true)) hi).trans ?_
  simp [hk', hkind, f2]
theorem xTs_kinds (hok : xOK) {w : Cond} (hw : w ∈ xTs) (hg : goodWord w = false) : (∃ a i y h, w = .methodLinkNest a i y h) ∨ (∃ C, w = .arrayOver (.object C)) ∨ w = .arrayOver (.array .int) := by
  obtain ⟨h1, h2⟩ := List.mem_filter.mp hw
  exact (hok.2.2.1 w h1 h2).resolve_left (fun z => by rw [hg] at z; cases z)
theorem xNs_same (hok : xOK) {u U : State} (h : u.vm = U.vm) (hN : xNs u) : xNs U := by
  intro w hw hg
  have h1 := hN w hw hg
  rcases xTs_kinds hok hw hg with ⟨a, i, y, h, rfl⟩ | ⟨C, rfl⟩ | rfl
  · exact va_Nw.same rfl ‹u.vm = U.vm› h1
  · exact va_AO.moved (by rw [h]; exact Vm.Alike.refl _) h1
  · exact xAOA_moved (by rw [h]; exact Vm.Alike.refl _) h1
theorem xNs_warm (hok : xOK) {s U : State} {args : Array Value} (hW : s.WarmedH U.vm) (hts : ∀ w ∈ xTs, w.before args s = true) : xNs U := by
  intro w hw hg
  have h1 := hts w hw
  rcases xTs_kinds hok hw hg with ⟨a, i, y, h, rfl⟩ | ⟨C, rfl⟩ | rfl
  · exact va_Nw.warmM hW (va_Nw.of rfl h1)
  · exact va_AO.moved hW.alike (va_AO.of h1)
  · exact xAOA_moved hW.alike h1
theorem xNs_use (hok : xOK) {s : State} {args : Array Value} (hN : xNs s) (hg : ∀ w ∈ xTg, w.before args s = true) : ∀ w ∈ xTs, w.before args s = true := by
  intro w hw
  cases hgw : goodWord w with
  | true => exact hg w (List.mem_filter.mpr ⟨hw, hgw⟩)
  | false =>
    have h1 := hN w hw hgw
    rcases xTs_kinds hok hw hgw with ⟨a, i, y, h, rfl⟩ | ⟨C, rfl⟩ | rfl
    · exact va_Nw.use rfl h1
    · exact va_AO.use h1
    · exact h1
theorem lg_sl_cat : ∀ l : List Value, (lg_sl l).length = (l.map fun v => v.category).sum
  | [] => rfl
  | v :: l => by
    have ih := lg_sl_cat l
    unfold lg_sl at ih ⊢
    rw [List.flatMap_cons, List.length_append, ih, List.map_cons, List.sum_cons]
    rcases lv_cat v with h | h
    · rw [if_neg (by omega), h]; rfl
    · rw [if_pos h, h]; rfl
theorem xokC_spec {m : Nat} (h : xokC m = true) : xbp m 0 = 0 ∧ m < xNM ∧ xlw (xcwf m) = some (.code (xYf m) (xccf m) (xml m) (xretf m)) ∧ xlw (xiwf m) = some (.initialized (xYf m).cls) ∧ ((xYf m).cls ≠ "java/lang/invoke/MethodHandle" ∧ (xYf m).cls ≠ "java/lang/invoke/VarHandle") ∧ plainName (xYf m).cls = true ∧ (parseMethodDescriptor (xYf m).desc).map (fun d => d.parameters.length) = some (xnpf m) := by
  unfold xokC at h
  simp only [Bool.and_eq_true, decide_eq_true_eq] at h
  exact ⟨Nat.eq_of_beq_eq_true h.1.1, Nat.le_of_ble_eq_true h.1.2, h.2.1, h.2.2.1, h.2.2.2.1, h.2.2.2.2.1, h.2.2.2.2.2⟩
def xPc (D : va_G) (dA : Nat → ClassId) (a : Nat → Nat) (sz : Nat) (as : List Value) (sh : xSh) (rf : xRf) (iv : xIv) (lg : xLg) : Array Value → State → Prop := va_Pc (as.map (xtv a)) (fun U => U.heap.size = sz ∧ va_P D xCl (xws dA a sh rf iv lg) U.heap ∧ va_K D xCl (xtys dA) U ∧ va_D (fun _ => True) (xws dA a sh rf iv lg) ∧ xNs U)
def xQc (D : va_G) (dA : Nat → ClassId) (a : Nat → Nat) (sz : Nat) (sh : xSh) (rf : xRf) (iv : xIv) (lg : xLg) (r1 : Option Value) (sh1 : xSh) (rf1 : xRf) (iv1 : xIv) (lg1 : xLg) : Array Value → State → Outcome → State → Prop := fun _ st oc t =>
  (∃ a' : Nat → Nat, oc = .returned (r1.map (xtv a')) ∧ (∀ k, k < sh.length ∨ k = 1000 → a' k = a k) ∧ rf1.length = sh1.length ∧ va_P D xCl (xws dA a' sh1 rf1 iv1 lg1) t.heap ∧ va_D (va_A (xws dA a sh rf iv lg) sz) (xws dA a' sh1 rf1 iv1 lg1)) ∧ va_F (va_A (xws dA a sh rf iv lg) sz) st t
section XC
variable {L : Nat} {xs : Nat → Int32} {p : Program} {l : Launch} {e : Env} {R : Room} {s : State} {m : MethodId} {args : Array Value} {below : List Frame} {meth : Method} {c : Code} {Q : State → Prop} {D : va_G} {dA : Nat → ClassId} {A : Nat → Prop} {a0 : Nat → Nat} {b c0 s0 M : Nat} {r : Option Value} {sh' : xSh} {rf' : xRf} {iv' : xIv} {lg' : xLg} {a : Nat → Nat} {H : Heap} {locs : List Loc} {ls : Array Slot} {lv : xLv} {st : List Value} {sh : xSh} {rf : xRf} {iv : xIv} {lg : xLg} {n bp nx : Nat} {os : List Nat} {cv : Value}
set_option maxHeartbeats 1000000 in
/-- a method's contract, out of the small machine's run -/
theorem xMet (hok : xOK) (ih : xG L xs l n) {m1 : Nat} (hm0 : 0 < m1) (hC : xokC m1 = true) {as : List Value} {r1 : Option Value} {sh1 : xSh} {rf1 : xRf} {iv1 : xIv} {lg1 : xLg} (h : xexec L xs n m1 0 (xent (xml m1) as) [] (sh, rf, iv, lg) = some (r1, sh1, rf1, iv1, lg1)) (hrl : rf.length = sh.length) (hcat : xcat as ≤ xml m1) (D : va_G) (dA : Nat → ClassId) (a : Nat → Nat) (sz : Nat) :
    Met l (xYf m1) (Cond.code (xYf m1) (xccf m1) (xml m1) (xretf m1) :: xTg) ({ frames := xfrf m1, cells := sh1.length - sh.length, slots := xsz sh1 - xsz sh, locals := xlof m1 }) (xPc D dA a sz as sh rf iv lg) (xQc D dA a sz sh rf iv lg r1 sh1 rf1 iv1 lg1) (sh1.length - sh.length) (xsz sh1 - xsz sh) (va_A (xws dA a sh rf iv lg) sz) := by
  obtain ⟨hbp0, -, -, -, -, hpl, -⟩ := xokC_spec hC
  refine Met.ofW (cc := xccf m1) (maxL := xml m1) (ret := xretf m1) hpl rfl ?_
  intro p e s m args below meth c s₁ B hml hv
  obtain ⟨rfl, hsz, hP, hK, hD0, hNs⟩ := hv
  have hts0 := atoms_spec (ws := Cond.code (xYf m1) (xccf m1) (xml m1) (xretf m1) :: xTg) B.pre
  have hts := xNs_use hok hNs (fun w hw => hts0 w (List.mem_cons_of_mem _ hw))
  have hlocks := B.notSynchronized
  subst hsz
  have hD := hD0.self (sz := s.heap.size)
  have hl := lv_entry (as.map (xtv a)) (n := xml m1) (by rw [lg_sl_cat, xcat_sum]; exact hcat)
  rw [lg_entry_eq]
  generalize (lg_sl (as.map (xtv a)) ++ List.replicate (xml m1 - (lg_sl (as.map (xtv a))).length) Slot.unset).toArray = ls at hl ⊢
  have hl2 : lv_has ls (xml m1) (xal a 0 (xent (xml m1) as)) := ⟨hl.1, hl.2.1, fun q hq => hl.2.2 q (xent_args _ _ _ hq)⟩
  have k1 := @ih p e ({ frames := xfrf m1, cells := sh1.length - sh.length, slots := xsz sh1 - xsz sh, locals := xlof m1 } : Room) s m _ below meth c (MQ below (xQc D dA a s.heap.size sh rf iv lg r1 sh1 rf1 iv1 lg1) (as.map (xtv a)).toArray s (sh1.length - sh.length) (xsz sh1 - xsz sh) (va_A (xws dA a sh rf iv lg) s.heap.size)) D dA (va_A (xws dA a sh rf iv lg) s.heap.size) a (a 1000) sh.length (xsz sh) m1 0 r1 sh1 rf1 iv1 lg1 a s.heap [] ls (xent (xml m1) as) [] sh rf iv lg h
    ⟨⟨⟨B.exec, B.bytes, hml, findClass_of_methodNamed B.named, fun _ => (name_of_methodNamed B.named B.method).1⟩, hts, ⟨Nat.le_refl _, Nat.le_refl _⟩, hK, fun q hq => Or.inr hq, fun z => absurd z (by omega)⟩, ⟨⟨Nat.le_refl _, Nat.le_refl _⟩, Nat.le_refl _, Nat.le_refl _⟩, ⟨fun _ _ => rfl, rfl⟩, ⟨hrl, hP, hD, va_S.rf⟩, hl2, ?_⟩
  · rw [hbp0, Nat.sub_self, Nat.sub_self] at k1
    exact k1
  · intro a' H locs ls' bp hag hWd hRt
    obtain ⟨w1, w2, w3, w4⟩ := hWd
    have hq : ∀ t : State, t.heap = H → (∀ v, v = r1.map (xtv a') → xQc D dA a s.heap.size sh rf iv lg r1 sh1 rf1 iv1 lg1 (as.map (xtv a)).toArray s (.returned v) t) := fun t ht v hv => ⟨⟨a', by rw [hv], hag, w1, by rw [ht]; exact w2, w3⟩, w4.F ht⟩
    rcases hRt with ⟨v, rfl, hd, hret⟩ | ⟨v, rfl, hd, hret⟩ | ⟨v, t, rfl, hd, hret⟩ | ⟨rfl, hd, hret⟩
    · rcases hret with hret | ⟨hret, hv⟩
      · exact W.iret B.exec B.bytes (B.returns.trans hret) (fun t ht hW => hq t ht _ rfl) w4.2.2 hd
      · exact W.zret B.exec B.bytes (B.returns.trans hret) (by rcases hv with z | z <;> subst z <;> decide) (fun t ht hW => hq t ht _ rfl) w4.2.2 hd
    · exact W.lret B.exec B.bytes (B.returns.trans hret) (fun t ht hW => hq t ht _ rfl) w4.2.2 hd
    · exact W.aret B.exec B.bytes (B.returns.trans hret) (Or.inr ⟨t, rfl⟩) (Or.inr ⟨_, rfl⟩) (fun t ht hW => hq t ht _ rfl) w4.2.2 hd
    · exact W.vret B.exec B.bytes (B.returns.trans hret) (fun t ht hW => hq t ht _ rfl) w4.2.2 hd
theorem xPc_blind (hok : xOK) {as : List Value} {sz : Nat} : FrameBlind (xPc D dA a sz as sh rf iv lg) := fun x U g mk q => by
  obtain ⟨q0, q1, qP, qK, qD, qN⟩ := q
  exact ⟨q0, q1, qP, va_K.moved (u := U) (U := U.calling g mk x) (Vm.Alike.refl U.vm) qK, qD, xNs_same hok (u := U) rfl qN⟩
set_option maxHeartbeats 1000000 in
/-- behind a call -/
theorem xi_back (ih : xG L xs l n) (hS : xS L xs p l e R s m args below meth c Q D dA A a0 b c0 s0 M r sh' rf' iv' lg' a H locs ls lv sh rf iv lg) (hn : xbp M nx = bp + 3) {r1 : Option Value} {sh1 : xSh} {rf1 : xRf} {iv1 : xIv} {lg1 : xLg} (hle : xle sh sh1) {st0 : List Value} {as : Array Value} (hL : xroL sh.length lv = true) (hSt : xroS sh.length st = true)
    (hr : va_Run p l e R s m args below meth c H locs (sh.length - c0) (xsz sh - s0) (sh1.length - sh.length) (xsz sh1 - xsz sh) (F0 m bp ls st0) (st.map (xtv a)) (xQc D dA a H.size sh rf iv lg r1 sh1 rf1 iv1 lg1 as) (va_A (xws dA a sh rf iv lg) H.size))
    (h : xexec L xs n M nx lv (xpush r1 st) (sh1, rf1, iv1, lg1) = some (r, sh', rf', iv', lg')) : W p l e R s m args below meth c H locs (sh.length - c0) (xsz sh - s0) Q (F0 m bp ls st0) := by
  intro T hT X
  obtain ⟨v, st₀, t, T', L0, h0, X', hL0, e1, e2, ⟨⟨a', hv, hag, hl1, hP1, hD1⟩, hz, hk⟩, stp⟩ := hr T hT X
  rw [h0] at hz hk
  have hP := hS.2.2.2.1.2.1
  have hD := hS.2.2.2.1.2.2.1
  have hs := hS.2.2.2.1.2.2.2
  have hF : ∀ q, va_A (xws dA a sh rf iv lg) H.size q → A q := fun q hq => by
    rcases hq with ⟨k, x, hk⟩ | hq
    · exact hD.2 k (q, x) hk
    · exact hS.1.2.2.2.2.1 q (Nat.le_trans hs.1 hq)
  have hs1 : va_S A s.heap T'.heap (locs ++ L0) := ⟨Nat.le_trans hs.1 (by rw [e1]; exact hz), fun q h1 h2 => by rw [e1, hk q (Nat.lt_of_lt_of_le h1 hs.1) (fun z => h2 (hF q z))]; exact hs.2.1 q h1 h2, fun q hq => by
      rcases List.mem_append.mp hq with h | h
      · exact hs.2.2 q h
      · exact hF _ (hL0 q h)⟩
  have k1 := ih h (hS.alloc (a2 := a') (rf2 := rf1) (iv2 := iv1) (lg2 := lg1) (H2 := T'.heap) (locs2 := locs ++ L0) hL hag hle hl1 (by rw [e1]; exact hP1) (hD1.weaken (fun _ q _ z => hF q.1 z)) hs1)
  have c1 : sh.length - c0 + (sh1.length - sh.length) = sh1.length - c0 := by
    have := hS.2.1.2.1
    have := hle.1
    omega
  have c2 : xsz sh - s0 + (xsz sh1 - xsz sh) = xsz sh1 - s0 := by
    have := hS.2.1.2.2
    have := hle.2
    omega
  rw [c1, c2] at X'
  obtain ⟨t2, a1, b1⟩ := k1 T' rfl X'
  refine ⟨t2, stp t2 ?_, b1⟩
  have hv2 : v = r1.map (xtv a') := by cases hv; rfl
  have e3 : v.toList ++ st.map (xtv a) = (xpush r1 st).map (xtv a') := by
    rw [hv2]
    cases r1 with
    | none => exact (xroS_spec hag hSt).symm
    | some w =>
      show xtv a' w :: st.map (xtv a) = xtv a' w :: st.map (xtv a')
      rw [xroS_spec hag hSt]
  rw [hn] at a1
  show Steps p.tables e below (T'.setTop (F0 m (bp + 3) ls (v.toList ++ st.map (xtv a)))) t2
  rw [e3]
  exact a1
theorem xGood (hok : xOK) {m1 : Nat} (hC : xokC m1 = true) : GoodIn xTs (Cond.code (xYf m1) (xccf m1) (xml m1) (xretf m1) :: xTg) := by
  obtain ⟨-, -, hcw, -⟩ := xokC_spec hC
  intro w hw
  rcases List.mem_cons.mp hw with rfl | hw
  · exact ⟨xTs_of hcw rfl, Or.inl rfl⟩
  · obtain ⟨h1, h2⟩ := List.mem_filter.mp hw
    exact ⟨h1, good_of_word h2⟩
theorem xrun_call {g : Nat → Nat → xLv → List Value → xMem → Option (Option Value × xMem)} {M : Nat} {y : Option Value × xMem} {m1 nx : Nat} {as : List Value} {lv : xLv} {st : List Value} {sh : xSh} {rf : xRf} {iv : xIv} {lg : xLg} (h : xrun g M (xCall m1 as nx lv st sh rf iv lg) = some y) : ∃ r1 sh1 rf1 iv1 lg1, g m1 0 (xent (xml m1) as) [] (sh, rf, iv, lg) = some (r1, sh1, rf1, iv1, lg1) ∧ g M nx lv (xpush r1 st) (sh1, rf1, iv1, lg1) = some y := by
  unfold xCall xrun at h
  dsimp only at h
  cases hm : g m1 0 (xent (xml m1) as) [] (sh, rf, iv, lg) with
  | none => rw [hm] at h; cases h
  | some q =>
    rw [hm] at h
    obtain ⟨r1, sh1, rf1, iv1, lg1⟩ := q
    exact ⟨r1, sh1, rf1, iv1, lg1, rfl, h⟩
theorem xokR_spec {M m1 : Nat} (h : xokR M m1 = true) : xfrf m1 + 1 ≤ xfrf M ∧ 19 + (xml m1 + xlof m1) ≤ xlof M := by
  unfold xokR at h
  simp only [Bool.and_eq_true] at h
  exact ⟨Nat.le_of_ble_eq_true h.1.2, Nat.le_of_ble_eq_true h.2⟩
set_option maxHeartbeats 2000000 in
theorem xi_stat (hok : xOK) (ih : xG L xs l n) (hS : xS L xs p l e R s m args below meth c Q D dA A a0 b c0 s0 M r sh' rf' iv' lg' a H locs ls lv sh rf iv lg) {m1 idx q k2 np nest : Nat} (hn : xbp M nx = bp + 3) (hd : decode (xccf M) bp = .ok (.invokestatic idx, 3)) (hm0 : 0 < m1) (hC : xokC m1 = true) (hlk : xokL (xYf M).cls idx m1 q nest = true) (hst : xlw k2 = some (.static (xYf m1))) (hnp : np = xnpf m1) (hR : xokR M m1 = true)
    (h : xrun (xexec L xs n) M (xcall m1 np nx lv st sh rf iv lg) = some (r, sh', rf', iv', lg')) : W p l e R s m args below meth c H locs (sh.length - c0) (xsz sh - s0) Q (F0 m bp ls (st.map (xtv a))) := by
  unfold xcall at h
  obtain ⟨as, st', rfl, hlen, h9⟩ := xrun_take h
  clear h; have h := h9; clear h9
  obtain ⟨hg, h9⟩ := xrun_guard h
  clear h; have h := h9; clear h9
  simp only [Bool.and_eq_true] at hg
  obtain ⟨⟨hcs, hca, hra⟩, hrl, hrs⟩ := hg
  obtain ⟨r1, sh1, rf1, iv1, lg1, h1, h2⟩ := xrun_call h
  obtain ⟨-, -, hcw, hiw, hnn, -, hpar⟩ := xokC_spec hC
  obtain ⟨hR1, hR2⟩ := xokR_spec hR
  have hts := hS.1.2.1
  have hle : xle sh sh1 := xexec_gr _ _ _ _ _ _ _ h1
  have hgr : xle sh1 sh' := xexec_gr _ _ _ _ _ _ _ h2
  have hM := xMet hok ih hm0 hC h1 hS.2.2.2.1.1 (Nat.le_of_ble_eq_true hca) D dA a H.size
  have hf : sh.length - c0 + (sh1.length - sh.length) ≤ R.cells ∧ xsz sh - s0 + (xsz sh1 - xsz sh) ≤ R.slots := by
    have h1 := hS.2.1
    have h2 := hle.1
    have h3 := hle.2
    have h4 := hgr.1
    have h5 := hgr.2
    omega
  have hpre : PreS s H (xPc D dA a H.size as sh rf iv lg) (as.map (xtv a)) := ⟨xPc_blind hok, fun U hU hW => ⟨rfl, by rw [hU], by rw [hU]; exact hS.2.2.2.1.2.1, va_K.moved hW.alike hS.1.2.2.2.1, hS.2.2.2.1.2.2.1.weaken (fun _ _ _ _ => trivial), xNs_warm hok hW hts⟩⟩
  have hstk : (F0 m bp ls (List.map (xtv a) (as.reverse ++ st'))).stack = (as.map (xtv a)).reverse ++ st'.map (xtv a) := by
    show List.map (xtv a) (as.reverse ++ st') = _
    rw [List.map_append, List.map_reverse]
  have hroom : xfrf m1 + 1 ≤ R.frames ∧ 8 + (xml m1 + 11) + xlof m1 ≤ R.locals := by
    have := hS.1.2.2.1
    omega
  have hd3 : (xYf m1).cls ≠ "java/lang/invoke/MethodHandle" ∧ (xYf m1).cls ≠ "java/lang/invoke/VarHandle" ∧ (parseMethodDescriptor (xYf m1).desc).map (fun d => d.parameters.length) = some (xnpf m1) := ⟨hnn.1, hnn.2, hpar⟩
  refine xi_back (as := (as.map (xtv a)).toArray) ih hS hn hle hrl hrs ?_ h2
  unfold xokL at hlk
  split at hlk
  · have hlk := of_decide_eq_true hlk
    exact va_runS (As := as.map (xtv a)) ⟨hS.1.1.1, hS.1.1.2.1, hS.1.1.2.2.1, hS.1.1.2.2.2.1, hts⟩ hM ⟨callB_of (xnpf m1) hts (xGood hok hC) rfl rfl rfl (hts _ (xTs_of hiw rfl)) (hts _ (xTs_of hlk rfl)) hd3 hroom, hts _ (xTs_of hst rfl)⟩ hpre rfl (by rw [List.length_map, hlen, hnp]) hS.2.2.2.2.1.1 hstk (lv_room (by rw [xcat_sum]; exact Nat.le_of_ble_eq_true hcs)) hd hf
  · have hlk := of_decide_eq_true hlk
    exact va_runSN (As := as.map (xtv a)) ⟨hS.1.1.1, hS.1.1.2.1, hS.1.1.2.2.1, hS.1.1.2.2.2.1, hts⟩ hM ⟨va_cnB (xnpf m1) hts (xGood hok hC) rfl rfl rfl (va_Nw.of rfl (hts _ (xTs_of hlk rfl))) (hts _ (xTs_of hiw rfl)) hd3 hroom, hts _ (xTs_of hst rfl), trivial⟩ hpre rfl (by rw [List.length_map, hlen, hnp]) hS.2.2.2.2.1.1 hstk (lv_room (by rw [xcat_sum]; exact Nat.le_of_ble_eq_true hcs)) hd hf
end XC
end
section
section XC
variable {L : Nat} {xs : Nat → Int32} {p : Program} {l : Launch} {e : Env} {R : Room} {s : State} {m : MethodId} {args : Array Value} {below : List Frame} {meth : Method} {c : Code} {Q : State → Prop} {D : va_G} {dA : Nat → ClassId} {A : Nat → Prop} {a0 : Nat → Nat} {b c0 s0 M : Nat} {r : Option Value} {sh' : xSh} {rf' : xRf} {iv' : xIv} {lg' : xLg} {a : Nat → Nat} {H : Heap} {locs : List Loc} {ls : Array Slot} {lv : xLv} {st : List Value} {sh : xSh} {rf : xRf} {iv : xIv} {lg : xLg} {n bp nx : Nat} {os : List Nat} {cv : Value}
set_option maxHeartbeats 2000000 in
theorem xi_spec (hok : xOK) (ih : xG L xs l n) (hS : xS L xs p l e R s m args below meth c Q D dA A a0 b c0 s0 M r sh' rf' iv' lg' a H locs ls lv sh rf iv lg) {m1 idx q k2 np nest : Nat} (hn : xbp M nx = bp + 3) (hd : decode (xccf M) bp = .ok (.invokespecial idx, 3)) (hm0 : 0 < m1) (hC : xokC m1 = true) (hlk : xokL (xYf M).cls idx m1 q nest = true) (hst : xlw k2 = some (.instanceMethod (xYf m1))) (hnp : np = xnpf m1 + 1) (hnm : (xYf m1).name = "<init>") (hrt : xretf m1 = none) (hR : xokR M m1 = true)
    (h : xrun (xexec L xs n) M (xcallI m1 np nx lv st sh rf iv lg) = some (r, sh', rf', iv', lg')) : W p l e R s m args below meth c H locs (sh.length - c0) (xsz sh - s0) Q (F0 m bp ls (st.map (xtv a))) := by
  unfold xcallI at h
  obtain ⟨as, st', rfl, hlen, h9⟩ := xrun_take h
  clear h; have h := h9; clear h9
  split at h
  · rename_i k as
    obtain ⟨hg, h9⟩ := xrun_guard h
    clear h; have h := h9; clear h9
    simp only [Bool.and_eq_true] at hg
    obtain ⟨⟨hcs, hca, hra⟩, hrl, hrs⟩ := hg
    obtain ⟨r1, sh1, rf1, iv1, lg1, h1, h2⟩ := xrun_call h
    obtain ⟨-, -, hcw, hiw, hnn, -, hpar⟩ := xokC_spec hC
    obtain ⟨hR1, hR2⟩ := xokR_spec hR
    have hts := hS.1.2.1
    have hle : xle sh sh1 := xexec_gr _ _ _ _ _ _ _ h1
    have hgr : xle sh1 sh' := xexec_gr _ _ _ _ _ _ _ h2
    have hM := xMet hok ih hm0 hC h1 hS.2.2.2.1.1 (Nat.le_of_ble_eq_true hca) D dA a H.size
    have hf : sh.length - c0 + (sh1.length - sh.length) ≤ R.cells ∧ xsz sh - s0 + (xsz sh1 - xsz sh) ≤ R.slots := by
      have h1 := hS.2.1
      have h2 := hle.1
      have h3 := hle.2
      have h4 := hgr.1
      have h5 := hgr.2
      omega
    have hpre : PreS s H (xPc D dA a H.size (.ref k :: as) sh rf iv lg) (.ref (a k) :: as.map (xtv a)) := ⟨xPc_blind hok, fun U hU hW => ⟨rfl, by rw [hU], by rw [hU]; exact hS.2.2.2.1.2.1, va_K.moved hW.alike hS.1.2.2.2.1, hS.2.2.2.1.2.2.1.weaken (fun _ _ _ _ => trivial), xNs_warm hok hW hts⟩⟩
    have hroom : xfrf m1 + 1 ≤ R.frames ∧ 8 + (xml m1 + 11) + xlof m1 ≤ R.locals := by
      have := hS.1.2.2.1
      omega
    have hd3 : (xYf m1).cls ≠ "java/lang/invoke/MethodHandle" ∧ (xYf m1).cls ≠ "java/lang/invoke/VarHandle" ∧ (parseMethodDescriptor (xYf m1).desc).map (fun d => d.parameters.length) = some (xnpf m1) := ⟨hnn.1, hnn.2, hpar⟩
    have hGd := xGood hok hC
    rw [hrt] at hM hGd
    have hstk : (F0 m bp ls (List.map (xtv a) ((.ref k :: as).reverse ++ st'))).stack = (as.map (xtv a)).reverse ++ .ref (a k) :: st'.map (xtv a) := by
      show List.map (xtv a) ((.ref k :: as).reverse ++ st') = _
      rw [List.reverse_cons, List.append_assoc, List.map_append, List.map_reverse]
      rfl
    refine xi_back (as := ((Value.ref k :: as).map (xtv a)).toArray) ih hS hn hle hrl hrs ?_ h2
    have hl2 : (as.map (xtv a)).length = xnpf m1 := by
      rw [List.length_map]
      rw [hnp, List.length_cons] at hlen
      omega
    unfold xokL at hlk
    split at hlk
    · have hlk := of_decide_eq_true hlk
      exact va_runI (b := a k) (As := as.map (xtv a)) ⟨hS.1.1.1, hS.1.1.2.1, hS.1.1.2.2.1, hS.1.1.2.2.2.1, hts⟩ hM ⟨callB_of (xnpf m1) hts hGd rfl rfl rfl (hts _ (xTs_of hiw rfl)) (hts _ (xTs_of hlk rfl)) hd3 hroom, hnm, hts _ (xTs_of hst rfl)⟩ hpre rfl hl2 hS.2.2.2.2.1.1 hstk (lv_room (by rw [xcat_sum]; exact Nat.le_of_ble_eq_true hcs)) hd hf
    · have hlk := of_decide_eq_true hlk
      exact va_runIN (b := a k) (As := as.map (xtv a)) ⟨hS.1.1.1, hS.1.1.2.1, hS.1.1.2.2.1, hS.1.1.2.2.2.1, hts⟩ hM ⟨va_cnB (xnpf m1) hts hGd rfl rfl rfl (va_Nw.of rfl (hts _ (xTs_of hlk rfl))) (hts _ (xTs_of hiw rfl)) hd3 hroom, hnm, hts _ (xTs_of hst rfl)⟩ hpre rfl hl2 hS.2.2.2.2.1.1 hstk (lv_room (by rw [xcat_sum]; exact Nat.le_of_ble_eq_true hcs)) hd hf
  · cases h
set_option maxHeartbeats 2000000 in
theorem xi_virt (hok : xOK) (ih : xG L xs l n) (hS : xS L xs p l e R s m args below meth c Q D dA A a0 b c0 s0 M r sh' rf' iv' lg' a H locs ls lv sh rf iv lg) {m1 idx q k2 k3 np nest ci : Nat} (hn : xbp M nx = bp + 3) (hd : decode (xccf M) bp = .ok (.invokevirtual idx, 3)) (hm0 : 0 < m1) (hC : xokC m1 = true) (hlk : xokL (xYf M).cls idx m1 q nest = true) (hst : xlw k2 = some (.instanceMethod (xYf m1))) (hsel : xlw k3 = some (.selects (xYf m1).cls (xYf m1) (xYf m1))) (hnp : np = xnpf m1 + 1) (hci : xsome xCl[ci]? (fun C => decide (C.1 = (xYf m1).cls)) = true) (hR : xokR M m1 = true)
    (h : xrun (xexec L xs n) M (xcallV m1 np ci nx lv st sh rf iv lg) = some (r, sh', rf', iv', lg')) : W p l e R s m args below meth c H locs (sh.length - c0) (xsz sh - s0) Q (F0 m bp ls (st.map (xtv a))) := by
  unfold xcallV at h
  obtain ⟨as, st', rfl, hlen, h9⟩ := xrun_take h
  clear h; have h := h9; clear h9
  split at h
  · rename_i k as
    obtain ⟨⟨tg, nn⟩, hq2, h9⟩ := xrun_nth h
    clear h; have h := h9; clear h9
    obtain ⟨htag, h9⟩ := xrun_guard h
    clear h; have h := h9; clear h9
    have htag : tg = 10 + ci := Nat.eq_of_beq_eq_true htag
    subst htag
    have hw := xws_get (dA := dA) (a := a) (rf := rf) (iv := iv) (lg := lg) hq2
    rw [xcell_obj] at hw
    obtain ⟨Cc, hCc, hcc⟩ := xsome_inv hci
    have hcc := of_decide_eq_true hcc
    obtain ⟨hg, h9⟩ := xrun_guard h
    clear h; have h := h9; clear h9
    simp only [Bool.and_eq_true] at hg
    obtain ⟨⟨hcs, hca, hra⟩, hrl, hrs⟩ := hg
    obtain ⟨r1, sh1, rf1, iv1, lg1, h1, h2⟩ := xrun_call h
    obtain ⟨-, -, hcw, hiw, hnn, -, hpar⟩ := xokC_spec hC
    obtain ⟨hR1, hR2⟩ := xokR_spec hR
    have hts := hS.1.2.1
    have hle : xle sh sh1 := xexec_gr _ _ _ _ _ _ _ h1
    have hgr : xle sh1 sh' := xexec_gr _ _ _ _ _ _ _ h2
    have hM := xMet hok ih hm0 hC h1 hS.2.2.2.1.1 (Nat.le_of_ble_eq_true hca) D dA a H.size
    have hf : sh.length - c0 + (sh1.length - sh.length) ≤ R.cells ∧ xsz sh - s0 + (xsz sh1 - xsz sh) ≤ R.slots := by
      have h1 := hS.2.1
      have h2 := hle.1
      have h3 := hle.2
      have h4 := hgr.1
      have h5 := hgr.2
      omega
    have hpre : PreV s H (xYf m1).cls (a k) (xPc D dA a H.size (.ref k :: as) sh rf iv lg) (as.map (xtv a)) := ⟨xPc_blind hok, by rw [← hcc]; exact va_recv hS.1.2.2.2.1 hS.2.2.2.1.2.1 hCc hw, fun U hU hW => ⟨rfl, by rw [hU], by rw [hU]; exact hS.2.2.2.1.2.1, va_K.moved hW.alike hS.1.2.2.2.1, hS.2.2.2.1.2.2.1.weaken (fun _ _ _ _ => trivial), xNs_warm hok hW hts⟩⟩
    have hroom : xfrf m1 + 1 ≤ R.frames ∧ 8 + (xml m1 + 11) + xlof m1 ≤ R.locals := by
      have := hS.1.2.2.1
      omega
    have hd3 : (xYf m1).cls ≠ "java/lang/invoke/MethodHandle" ∧ (xYf m1).cls ≠ "java/lang/invoke/VarHandle" ∧ (parseMethodDescriptor (xYf m1).desc).map (fun d => d.parameters.length) = some (xnpf m1) := ⟨hnn.1, hnn.2, hpar⟩
    have hGd := xGood hok hC
    have hstk : (F0 m bp ls (List.map (xtv a) ((.ref k :: as).reverse ++ st'))).stack = (as.map (xtv a)).reverse ++ .ref (a k) :: st'.map (xtv a) := by
      show List.map (xtv a) ((.ref k :: as).reverse ++ st') = _
      rw [List.reverse_cons, List.append_assoc, List.map_append, List.map_reverse]
      rfl
    refine xi_back (as := ((Value.ref k :: as).map (xtv a)).toArray) ih hS hn hle hrl hrs ?_ h2
    have hl2 : (as.map (xtv a)).length = xnpf m1 := by
      rw [List.length_map]
      rw [hnp, List.length_cons] at hlen
      omega
    unfold xokL at hlk
    split at hlk
    · have hlk := of_decide_eq_true hlk
      exact va_runV (C := (xYf m1).cls) (b := a k) (As := as.map (xtv a)) ⟨hS.1.1.1, hS.1.1.2.1, hS.1.1.2.2.1, hS.1.1.2.2.2.1, hts⟩ hM ⟨callB_of (xnpf m1) hts hGd rfl rfl rfl (hts _ (xTs_of hiw rfl)) (hts _ (xTs_of hlk rfl)) hd3 hroom, hts _ (xTs_of hst rfl), hts _ (xTs_of hsel rfl)⟩ hpre rfl hl2 hS.2.2.2.2.1.1 hstk (lv_room (by rw [xcat_sum]; exact Nat.le_of_ble_eq_true hcs)) hd hf
    · have hlk := of_decide_eq_true hlk
      exact va_runVN (C := (xYf m1).cls) (b := a k) (As := as.map (xtv a)) ⟨hS.1.1.1, hS.1.1.2.1, hS.1.1.2.2.1, hS.1.1.2.2.2.1, hts⟩ hM ⟨va_cnB (xnpf m1) hts hGd rfl rfl rfl (va_Nw.of rfl (hts _ (xTs_of hlk rfl))) (hts _ (xTs_of hiw rfl)) hd3 hroom, hts _ (xTs_of hst rfl), hts _ (xTs_of hsel rfl)⟩ hpre rfl hl2 hS.2.2.2.2.1.1 hstk (lv_room (by rw [xcat_sum]; exact Nat.le_of_ble_eq_true hcs)) hd hf
  · cases h
theorem xn2_ret {M : Nat} {f : Option FieldType → xR} : xn2 xret M none f = none ∨ xn2 xret M none f = f (xretf M) := by
  unfold xretf xn2
  rw [xnth_eq, xnth_eq]
  cases h : xret[M / 16]? with
  | none => exact Or.inl rfl
  | some c =>
    dsimp only
    rw [xnth_eq, xnth_eq]
    cases h2 : c[M % 16]? with
    | none => exact Or.inl rfl
    | some x => exact Or.inr rfl
theorem xrun_ret {g : Nat → Nat → xLv → List Value → xMem → Option (Option Value × xMem)} {M : Nat} {y : Option Value × xMem} {f : Option FieldType → xR} (h : xrun g M (xn2 xret M none f) = some y) : xrun g M (f (xretf M)) = some y := by
  rcases xn2_ret (M := M) (f := f) with z | z
  · rw [z] at h; cases h
  · rw [z] at h; exact h
theorem xi_retI (hS : xS L xs p l e R s m args below meth c Q D dA A a0 b c0 s0 M r sh' rf' iv' lg' a H locs ls lv sh rf iv lg) (hd : decode (xccf M) bp = .ok (.ireturn, 1))
    (h : xrun (xexec L xs n) M (xn2 xret M none (fun rt => xretI rt st sh rf iv lg)) = some (r, sh', rf', iv', lg')) : W p l e R s m args below meth c H locs (sh.length - c0) (xsz sh - s0) Q (F0 m bp ls (st.map (xtv a))) := by
  replace h := xrun_ret h
  unfold xretI at h
  split at h
  · rename_i v
    split at h
    · rename_i hrt
      cases h
      exact hS.2.2.2.2.2 a H locs ls bp hS.2.2.1.1 hS.2.2.2.1 (Or.inl ⟨v, rfl, hd, Or.inl hrt⟩)
    · rename_i hrt
      have h : xite (v = 0 ∨ v = 1) (some (some (Value.int v), sh, rf, iv, lg)) none = some (r, sh', rf', iv', lg') := h
      by_cases hv : v = 0 ∨ v = 1
      · rw [xite_t hv] at h
        cases h
        exact hS.2.2.2.2.2 a H locs ls bp hS.2.2.1.1 hS.2.2.2.1 (Or.inl ⟨v, rfl, hd, Or.inr ⟨hrt, hv⟩⟩)
      · rw [xite_f hv] at h; cases h
    · cases h
  · cases h
theorem xi_retL (hS : xS L xs p l e R s m args below meth c Q D dA A a0 b c0 s0 M r sh' rf' iv' lg' a H locs ls lv sh rf iv lg) (hd : decode (xccf M) bp = .ok (.lreturn, 1))
    (h : xrun (xexec L xs n) M (xn2 xret M none (fun rt => xretL rt st sh rf iv lg)) = some (r, sh', rf', iv', lg')) : W p l e R s m args below meth c H locs (sh.length - c0) (xsz sh - s0) Q (F0 m bp ls (st.map (xtv a))) := by
  replace h := xrun_ret h
  unfold xretL at h
  split at h
  · rename_i v
    split at h
    · rename_i hrt
      cases h
      exact hS.2.2.2.2.2 a H locs ls bp hS.2.2.1.1 hS.2.2.2.1 (Or.inr (Or.inl ⟨v, rfl, hd, hrt⟩))
    · cases h
  · cases h
theorem xi_retA (hS : xS L xs p l e R s m args below meth c Q D dA A a0 b c0 s0 M r sh' rf' iv' lg' a H locs ls lv sh rf iv lg) (hd : decode (xccf M) bp = .ok (.areturn, 1))
    (h : xrun (xexec L xs n) M (xn2 xret M none (fun rt => xretA rt st sh rf iv lg)) = some (r, sh', rf', iv', lg')) : W p l e R s m args below meth c H locs (sh.length - c0) (xsz sh - s0) Q (F0 m bp ls (st.map (xtv a))) := by
  replace h := xrun_ret h
  unfold xretA at h
  split at h
  · rename_i v
    split at h
    · rename_i t hrt
      cases h
      exact hS.2.2.2.2.2 a H locs ls bp hS.2.2.1.1 hS.2.2.2.1 (Or.inr (Or.inr (Or.inl ⟨v, t, rfl, hd, hrt⟩)))
    · cases h
  · cases h
theorem xi_retV (hS : xS L xs p l e R s m args below meth c Q D dA A a0 b c0 s0 M r sh' rf' iv' lg' a H locs ls lv sh rf iv lg) (hd : decode (xccf M) bp = .ok (.return_, 1))
    (h : xrun (xexec L xs n) M (xn2 xret M none (fun rt => xretV rt st sh rf iv lg)) = some (r, sh', rf', iv', lg')) : W p l e R s m args below meth c H locs (sh.length - c0) (xsz sh - s0) Q (F0 m bp ls (st.map (xtv a))) := by
  replace h := xrun_ret h
  unfold xretV at h
  split at h
  · split at h
    · rename_i hrt
      cases h
      exact hS.2.2.2.2.2 a H locs ls bp hS.2.2.1.1 hS.2.2.2.1 (Or.inr (Or.inr (Or.inr ⟨rfl, hd, hrt⟩)))
    · cases h
  · cases h
end XC
end
section
theorem xand {a b : Bool} (h : (a && b) = true) : a = true ∧ b = true := by simpa using h
theorem xokC_of (hok : xOK) {M m1 : Nat} (h0 : 0 < m1) (hR : xokR M m1 = true) : xokC m1 = true := by
  unfold xokR at hR
  simp only [Bool.and_eq_true] at hR
  have hlt : m1 < xNM := Nat.le_of_ble_eq_true hR.1.1
  have h := (xand (hok.1 m1)).2
  match m1, h0, hlt, h with
  | k + 1, _, hlt, h =>
    have h : (xokC (k + 1) || Nat.ble xNM (k + 1)) = true := h
    rw [Bool.or_eq_true] at h
    rcases h with h | h
    · exact h
    · exact absurd (Nat.le_of_ble_eq_true h) (Nat.not_le.mpr hlt)
section XD
variable {L : Nat} {xs : Nat → Int32} {p : Program} {l : Launch} {e : Env} {R : Room} {s : State} {m : MethodId} {args : Array Value} {below : List Frame} {meth : Method} {c : Code} {Q : State → Prop} {D : va_G} {dA : Nat → ClassId} {A : Nat → Prop} {a0 : Nat → Nat} {b c0 s0 M : Nat} {r : Option Value} {sh' : xSh} {rf' : xRf} {iv' : xIv} {lg' : xLg} {a : Nat → Nat} {H : Heap} {locs : List Loc} {ls : Array Slot} {lv : xLv} {st : List Value} {sh : xSh} {rf : xRf} {iv : xIv} {lg : xLg} {n bp nx : Nat} {os : List Nat} {cv : Value}
set_option maxHeartbeats 8000000 in
theorem xsnd_do (hok : xOK) (ih : xG L xs l n) (hS : xS L xs p l e R s m args below meth c Q D dA A a0 b c0 s0 M r sh' rf' iv' lg' a H locs ls lv sh rf iv lg) {ins : Instr} {len : Nat} {sw : List (Int32 × Nat)} (hI : xokI M (xYf M).cls (xccf M) (bp, nx, ins, len, os, sw, cv) = true)
    (h : xrun (xexec L xs n) M (xdo L xs M lv st sh rf iv lg nx ins os sw cv) = some (r, sh', rf', iv', lg')) : W p l e R s m args below meth c H locs (sh.length - c0) (xsz sh - s0) Q (F0 m bp ls (st.map (xtv a))) := by
  obtain ⟨hd, hO⟩ := xand hI
  have hd := of_decide_eq_true hd
  cases ins with
  | iconst z =>
    obtain ⟨hl, hO2⟩ := xand hO
    clear hO
    have hO := hO2
    clear hO2
    have hl : len = 1 := Nat.eq_of_beq_eq_true hl
    subst hl
    obtain ⟨hn, hO⟩ := xand hO
    have hn : xbp M nx = bp + 1 := Nat.eq_of_beq_eq_true hn
    have hO := of_decide_eq_true hO
    subst hO
    have k1 := xi_push ih hS h
    rw [hn] at k1
    exact lv_iconst hS.1.1.1 hS.1.1.2.1 hd rfl k1
  | bipush z =>
    obtain ⟨hl, hO2⟩ := xand hO
    clear hO
    have hO := hO2
    clear hO2
    have hl : len = 2 := Nat.eq_of_beq_eq_true hl
    subst hl
    obtain ⟨hn, hO⟩ := xand hO
    have hn : xbp M nx = bp + 2 := Nat.eq_of_beq_eq_true hn
    have hO := of_decide_eq_true hO
    subst hO
    have k1 := xi_push ih hS h
    rw [hn] at k1
    exact lv_bipush hS.1.1.1 hS.1.1.2.1 hd rfl k1
  | sipush z =>
    obtain ⟨hl, hO2⟩ := xand hO
    clear hO
    have hO := hO2
    clear hO2
    have hl : len = 3 := Nat.eq_of_beq_eq_true hl
    subst hl
    obtain ⟨hn, hO⟩ := xand hO
    have hn : xbp M nx = bp + 3 := Nat.eq_of_beq_eq_true hn
    have hO := of_decide_eq_true hO
    subst hO
    have k1 := xi_push ih hS h
    rw [hn] at k1
    exact lv_sipush hS.1.1.1 hS.1.1.2.1 hd rfl k1
  | lconst z =>
    obtain ⟨hl, hO2⟩ := xand hO
    clear hO
    have hO := hO2
    clear hO2
    have hl : len = 1 := Nat.eq_of_beq_eq_true hl
    subst hl
    obtain ⟨hn, hO⟩ := xand hO
    have hn : xbp M nx = bp + 1 := Nat.eq_of_beq_eq_true hn
    have hO := of_decide_eq_true hO
    subst hO
    have k1 := xi_push ih hS h
    rw [hn] at k1
    exact lv_lconst hS.1.1.1 hS.1.1.2.1 hd rfl k1
  | ldc z =>
    obtain ⟨hl, hO2⟩ := xand hO
    clear hO
    have hO := hO2
    clear hO2
    have hl : len = 2 := Nat.eq_of_beq_eq_true hl
    subst hl
    obtain ⟨hn, hO⟩ := xand hO
    have hn : xbp M nx = bp + 2 := Nat.eq_of_beq_eq_true hn
    split at hO
    · rename_i q v
      have hO := of_decide_eq_true hO
      have k1 := xi_push ih hS h
      rw [hn] at k1
      exact lv_ldc hS.1.1.1 hS.1.1.2.1 hS.1.1.2.2.2.1 (hS.1.2.1 _ (xTs_of hO rfl)) hd k1
    · cases hO
  | ldc_w z =>
    obtain ⟨hl, hO2⟩ := xand hO
    clear hO
    have hO := hO2
    clear hO2
    have hl : len = 3 := Nat.eq_of_beq_eq_true hl
    subst hl
    obtain ⟨hn, hO⟩ := xand hO
    have hn : xbp M nx = bp + 3 := Nat.eq_of_beq_eq_true hn
    split at hO
    · rename_i q v
      have hO := of_decide_eq_true hO
      have k1 := xi_push ih hS h
      rw [hn] at k1
      exact lv_ldcw hS.1.1.1 hS.1.1.2.1 hS.1.1.2.2.2.1 (hS.1.2.1 _ (xTs_of hO rfl)) hd k1
    · cases hO
  | ldc2_w z =>
    obtain ⟨hl, hO2⟩ := xand hO
    clear hO
    have hO := hO2
    clear hO2
    have hl : len = 3 := Nat.eq_of_beq_eq_true hl
    subst hl
    obtain ⟨hn, hO⟩ := xand hO
    have hn : xbp M nx = bp + 3 := Nat.eq_of_beq_eq_true hn
    split at hO
    · rename_i q v
      have hO := of_decide_eq_true hO
      have k1 := xi_push ih hS h
      rw [hn] at k1
      exact lv_ldc2 hS.1.1.1 hS.1.1.2.1 hS.1.1.2.2.2.1 (hS.1.2.1 _ (xTs_of hO rfl)) hd k1
    · cases hO
  | iload_n z =>
    obtain ⟨hl, hO2⟩ := xand hO
    clear hO
    have hO := hO2
    clear hO2
    have hl : len = 1 := Nat.eq_of_beq_eq_true hl
    subst hl
    obtain ⟨hn, hO⟩ := xand hO
    have hn : xbp M nx = bp + 1 := Nat.eq_of_beq_eq_true hn
    have hO := of_decide_eq_true hO
    subst hO
    exact xi_ldI ih hS hn (fun x hx k1 => lv_iload_n hS.1.1.1 hS.1.1.2.1 hd rfl hx k1) h
  | lload_n z =>
    obtain ⟨hl, hO2⟩ := xand hO
    clear hO
    have hO := hO2
    clear hO2
    have hl : len = 1 := Nat.eq_of_beq_eq_true hl
    subst hl
    obtain ⟨hn, hO⟩ := xand hO
    have hn : xbp M nx = bp + 1 := Nat.eq_of_beq_eq_true hn
    have hO := of_decide_eq_true hO
    subst hO
    exact xi_ldL ih hS hn (fun x hx k1 => lv_lload_n hS.1.1.1 hS.1.1.2.1 hd rfl hx k1) h
  | aload_n z =>
    obtain ⟨hl, hO2⟩ := xand hO
    clear hO
    have hO := hO2
    clear hO2
    have hl : len = 1 := Nat.eq_of_beq_eq_true hl
    subst hl
    obtain ⟨hn, hO⟩ := xand hO
    have hn : xbp M nx = bp + 1 := Nat.eq_of_beq_eq_true hn
    have hO := of_decide_eq_true hO
    subst hO
    exact xi_ldA ih hS hn (fun x hx k1 => lv_aload_n hS.1.1.1 hS.1.1.2.1 hd rfl hx k1) h
  | iload z =>
    obtain ⟨hl, hO2⟩ := xand hO
    clear hO
    have hO := hO2
    clear hO2
    have hl : len = 2 := Nat.eq_of_beq_eq_true hl
    subst hl
    obtain ⟨hn, hO⟩ := xand hO
    have hn : xbp M nx = bp + 2 := Nat.eq_of_beq_eq_true hn
    have hO := of_decide_eq_true hO
    subst hO
    exact xi_ldI ih hS hn (fun x hx k1 => lv_iload hS.1.1.1 hS.1.1.2.1 hd hx k1) h
  | lload z =>
    obtain ⟨hl, hO2⟩ := xand hO
    clear hO
    have hO := hO2
    clear hO2
    have hl : len = 2 := Nat.eq_of_beq_eq_true hl
    subst hl
    obtain ⟨hn, hO⟩ := xand hO
    have hn : xbp M nx = bp + 2 := Nat.eq_of_beq_eq_true hn
    have hO := of_decide_eq_true hO
    subst hO
    exact xi_ldL ih hS hn (fun x hx k1 => lv_lload hS.1.1.1 hS.1.1.2.1 hd hx k1) h
  | aload z =>
    obtain ⟨hl, hO2⟩ := xand hO
    clear hO
    have hO := hO2
    clear hO2
    have hl : len = 2 := Nat.eq_of_beq_eq_true hl
    subst hl
    obtain ⟨hn, hO⟩ := xand hO
    have hn : xbp M nx = bp + 2 := Nat.eq_of_beq_eq_true hn
    have hO := of_decide_eq_true hO
    subst hO
    exact xi_ldA ih hS hn (fun x hx k1 => lv_aload hS.1.1.1 hS.1.1.2.1 hd hx k1) h
  | istore_n z =>
    obtain ⟨hl, hO2⟩ := xand hO
    clear hO
    have hO := hO2
    clear hO2
    have hl : len = 1 := Nat.eq_of_beq_eq_true hl
    subst hl
    obtain ⟨hn, hO⟩ := xand hO
    have hn : xbp M nx = bp + 1 := Nat.eq_of_beq_eq_true hn
    obtain ⟨hO, hlt⟩ := xand hO
    have hO := of_decide_eq_true hO
    subst hO
    exact xi_stI ih hS hn (fun x rest k1 => lv_istore_n hS.1.1.1 hS.1.1.2.1 hd rfl hS.2.2.2.2.1 (Nat.le_of_ble_eq_true hlt) rfl (fun ls2 hl2 => k1 ls2 hl2)) h
  | lstore_n z =>
    obtain ⟨hl, hO2⟩ := xand hO
    clear hO
    have hO := hO2
    clear hO2
    have hl : len = 1 := Nat.eq_of_beq_eq_true hl
    subst hl
    obtain ⟨hn, hO⟩ := xand hO
    have hn : xbp M nx = bp + 1 := Nat.eq_of_beq_eq_true hn
    obtain ⟨hO, hlt⟩ := xand hO
    have hO := of_decide_eq_true hO
    subst hO
    exact xi_stL ih hS hn (fun x rest k1 => lv_lstore_n hS.1.1.1 hS.1.1.2.1 hd rfl hS.2.2.2.2.1 (Nat.le_of_ble_eq_true hlt) rfl (fun ls2 hl2 => k1 ls2 hl2)) h
  | astore_n z =>
    obtain ⟨hl, hO2⟩ := xand hO
    clear hO
    have hO := hO2
    clear hO2
    have hl : len = 1 := Nat.eq_of_beq_eq_true hl
    subst hl
    obtain ⟨hn, hO⟩ := xand hO
    have hn : xbp M nx = bp + 1 := Nat.eq_of_beq_eq_true hn
    obtain ⟨hO, hlt⟩ := xand hO
    have hO := of_decide_eq_true hO
    subst hO
    exact xi_stA ih hS hn (fun x rest k1 => lv_astore_n hS.1.1.1 hS.1.1.2.1 hd rfl hS.2.2.2.2.1 (Nat.le_of_ble_eq_true hlt) rfl (fun ls2 hl2 => k1 ls2 hl2)) h
  | istore z =>
    obtain ⟨hl, hO2⟩ := xand hO
    clear hO
    have hO := hO2
    clear hO2
    have hl : len = 2 := Nat.eq_of_beq_eq_true hl
    subst hl
    obtain ⟨hn, hO⟩ := xand hO
    have hn : xbp M nx = bp + 2 := Nat.eq_of_beq_eq_true hn
    obtain ⟨hO, hlt⟩ := xand hO
    have hO := of_decide_eq_true hO
    subst hO
    exact xi_stI ih hS hn (fun x rest k1 => lv_istore hS.1.1.1 hS.1.1.2.1 hd hS.2.2.2.2.1 (Nat.le_of_ble_eq_true hlt) rfl (fun ls2 hl2 => k1 ls2 hl2)) h
  | lstore z =>
    obtain ⟨hl, hO2⟩ := xand hO
    clear hO
    have hO := hO2
    clear hO2
    have hl : len = 2 := Nat.eq_of_beq_eq_true hl
    subst hl
    obtain ⟨hn, hO⟩ := xand hO
    have hn : xbp M nx = bp + 2 := Nat.eq_of_beq_eq_true hn
    obtain ⟨hO, hlt⟩ := xand hO
    have hO := of_decide_eq_true hO
    subst hO
    exact xi_stL ih hS hn (fun x rest k1 => lv_lstore hS.1.1.1 hS.1.1.2.1 hd hS.2.2.2.2.1 (Nat.le_of_ble_eq_true hlt) rfl (fun ls2 hl2 => k1 ls2 hl2)) h
  | astore z =>
    obtain ⟨hl, hO2⟩ := xand hO
    clear hO
    have hO := hO2
    clear hO2
    have hl : len = 2 := Nat.eq_of_beq_eq_true hl
    subst hl
    obtain ⟨hn, hO⟩ := xand hO
    have hn : xbp M nx = bp + 2 := Nat.eq_of_beq_eq_true hn
    obtain ⟨hO, hlt⟩ := xand hO
    have hO := of_decide_eq_true hO
    subst hO
    exact xi_stA ih hS hn (fun x rest k1 => lv_astore hS.1.1.1 hS.1.1.2.1 hd hS.2.2.2.2.1 (Nat.le_of_ble_eq_true hlt) rfl (fun ls2 hl2 => k1 ls2 hl2)) h
  | iinc z1 z2 =>
    obtain ⟨hl, hO2⟩ := xand hO
    clear hO
    have hO := hO2
    clear hO2
    have hl : len = 3 := Nat.eq_of_beq_eq_true hl
    subst hl
    obtain ⟨hn, hO⟩ := xand hO
    have hn : xbp M nx = bp + 3 := Nat.eq_of_beq_eq_true hn
    obtain ⟨hO, hO2⟩ := xand hO
    obtain ⟨hlt, hO2⟩ := xand hO2
    have hO := of_decide_eq_true hO
    subst hO
    have hO2 := of_decide_eq_true hO2
    subst hO2
    exact xi_inc ih hS hn (Nat.le_of_ble_eq_true hlt) hd h
  | iadd =>
    obtain ⟨hl, hO2⟩ := xand hO
    clear hO
    have hO := hO2
    clear hO2
    have hl : len = 1 := Nat.eq_of_beq_eq_true hl
    subst hl
    have hn : xbp M nx = bp + 1 := Nat.eq_of_beq_eq_true hO
    exact xi_bin ih hS hn (fun x y rest k1 => lv_iadd hS.1.1.1 hS.1.1.2.1 hd k1) h
  | isub =>
    obtain ⟨hl, hO2⟩ := xand hO
    clear hO
    have hO := hO2
    clear hO2
    have hl : len = 1 := Nat.eq_of_beq_eq_true hl
    subst hl
    have hn : xbp M nx = bp + 1 := Nat.eq_of_beq_eq_true hO
    exact xi_bin ih hS hn (fun x y rest k1 => lv_isub hS.1.1.1 hS.1.1.2.1 hd k1) h
  | imul =>
    obtain ⟨hl, hO2⟩ := xand hO
    clear hO
    have hO := hO2
    clear hO2
    have hl : len = 1 := Nat.eq_of_beq_eq_true hl
    subst hl
    have hn : xbp M nx = bp + 1 := Nat.eq_of_beq_eq_true hO
    exact xi_bin ih hS hn (fun x y rest k1 => lv_imul hS.1.1.1 hS.1.1.2.1 hd k1) h
  | iand =>
    obtain ⟨hl, hO2⟩ := xand hO
    clear hO
    have hO := hO2
    clear hO2
    have hl : len = 1 := Nat.eq_of_beq_eq_true hl
    subst hl
    have hn : xbp M nx = bp + 1 := Nat.eq_of_beq_eq_true hO
    exact xi_bin ih hS hn (fun x y rest k1 => lv_iand hS.1.1.1 hS.1.1.2.1 hd k1) h
  | ior =>
    obtain ⟨hl, hO2⟩ := xand hO
    clear hO
    have hO := hO2
    clear hO2
    have hl : len = 1 := Nat.eq_of_beq_eq_true hl
    subst hl
    have hn : xbp M nx = bp + 1 := Nat.eq_of_beq_eq_true hO
    exact xi_bin ih hS hn (fun x y rest k1 => lv_ior hS.1.1.1 hS.1.1.2.1 hd k1) h
  | ixor =>
    obtain ⟨hl, hO2⟩ := xand hO
    clear hO
    have hO := hO2
    clear hO2
    have hl : len = 1 := Nat.eq_of_beq_eq_true hl
    subst hl
    have hn : xbp M nx = bp + 1 := Nat.eq_of_beq_eq_true hO
    exact xi_bin ih hS hn (fun x y rest k1 => lv_ixor hS.1.1.1 hS.1.1.2.1 hd k1) h
  | ishl =>
    obtain ⟨hl, hO2⟩ := xand hO
    clear hO
    have hO := hO2
    clear hO2
    have hl : len = 1 := Nat.eq_of_beq_eq_true hl
    subst hl
    have hn : xbp M nx = bp + 1 := Nat.eq_of_beq_eq_true hO
    exact xi_bin ih hS hn (fun x y rest k1 => lv_ishl hS.1.1.1 hS.1.1.2.1 hd k1) h
  | ishr =>
    obtain ⟨hl, hO2⟩ := xand hO
    clear hO
    have hO := hO2
    clear hO2
    have hl : len = 1 := Nat.eq_of_beq_eq_true hl
    subst hl
    have hn : xbp M nx = bp + 1 := Nat.eq_of_beq_eq_true hO
    exact xi_bin ih hS hn (fun x y rest k1 => lv_ishr hS.1.1.1 hS.1.1.2.1 hd k1) h
  | idiv =>
    obtain ⟨hl, hO2⟩ := xand hO
    clear hO
    have hO := hO2
    clear hO2
    have hl : len = 1 := Nat.eq_of_beq_eq_true hl
    subst hl
    have hn : xbp M nx = bp + 1 := Nat.eq_of_beq_eq_true hO
    exact xi_div ih hS hn (fun x y rest hne k1 => lv_idiv hS.1.1.1 hS.1.1.2.1 hd hne k1) h
  | irem =>
    obtain ⟨hl, hO2⟩ := xand hO
    clear hO
    have hO := hO2
    clear hO2
    have hl : len = 1 := Nat.eq_of_beq_eq_true hl
    subst hl
    have hn : xbp M nx = bp + 1 := Nat.eq_of_beq_eq_true hO
    exact xi_div ih hS hn (fun x y rest hne k1 => lv_irem hS.1.1.1 hS.1.1.2.1 hd hne k1) h
  | ladd =>
    obtain ⟨hl, hO2⟩ := xand hO
    clear hO
    have hO := hO2
    clear hO2
    have hl : len = 1 := Nat.eq_of_beq_eq_true hl
    subst hl
    have hn : xbp M nx = bp + 1 := Nat.eq_of_beq_eq_true hO
    exact xi_binL ih hS hn (fun x y rest k1 => lv_ladd hS.1.1.1 hS.1.1.2.1 hd k1) h
  | lsub =>
    obtain ⟨hl, hO2⟩ := xand hO
    clear hO
    have hO := hO2
    clear hO2
    have hl : len = 1 := Nat.eq_of_beq_eq_true hl
    subst hl
    have hn : xbp M nx = bp + 1 := Nat.eq_of_beq_eq_true hO
    exact xi_binL ih hS hn (fun x y rest k1 => lv_lsub hS.1.1.1 hS.1.1.2.1 hd k1) h
  | land =>
    obtain ⟨hl, hO2⟩ := xand hO
    clear hO
    have hO := hO2
    clear hO2
    have hl : len = 1 := Nat.eq_of_beq_eq_true hl
    subst hl
    have hn : xbp M nx = bp + 1 := Nat.eq_of_beq_eq_true hO
    exact xi_binL ih hS hn (fun x y rest k1 => lv_land hS.1.1.1 hS.1.1.2.1 hd k1) h
  | lor =>
    obtain ⟨hl, hO2⟩ := xand hO
    clear hO
    have hO := hO2
    clear hO2
    have hl : len = 1 := Nat.eq_of_beq_eq_true hl
    subst hl
    have hn : xbp M nx = bp + 1 := Nat.eq_of_beq_eq_true hO
    exact xi_binL ih hS hn (fun x y rest k1 => lv_lor hS.1.1.1 hS.1.1.2.1 hd k1) h
  | lshl =>
    obtain ⟨hl, hO2⟩ := xand hO
    clear hO
    have hO := hO2
    clear hO2
    have hl : len = 1 := Nat.eq_of_beq_eq_true hl
    subst hl
    have hn : xbp M nx = bp + 1 := Nat.eq_of_beq_eq_true hO
    exact xi_shL ih hS hn (fun x y rest k1 => lv_lshl hS.1.1.1 hS.1.1.2.1 hd rfl k1) h
  | lshr =>
    obtain ⟨hl, hO2⟩ := xand hO
    clear hO
    have hO := hO2
    clear hO2
    have hl : len = 1 := Nat.eq_of_beq_eq_true hl
    subst hl
    have hn : xbp M nx = bp + 1 := Nat.eq_of_beq_eq_true hO
    exact xi_shL ih hS hn (fun x y rest k1 => lv_lshr hS.1.1.1 hS.1.1.2.1 hd rfl k1) h
  | lcmp =>
    obtain ⟨hl, hO2⟩ := xand hO
    clear hO
    have hO := hO2
    clear hO2
    have hl : len = 1 := Nat.eq_of_beq_eq_true hl
    subst hl
    have hn : xbp M nx = bp + 1 := Nat.eq_of_beq_eq_true hO
    exact xi_cmpL ih hS hn hd h
  | ineg =>
    obtain ⟨hl, hO2⟩ := xand hO
    clear hO
    have hO := hO2
    clear hO2
    have hl : len = 1 := Nat.eq_of_beq_eq_true hl
    subst hl
    have hn : xbp M nx = bp + 1 := Nat.eq_of_beq_eq_true hO
    exact xi_unI (f := fun x => .int (-x)) ih hS hn (fun _ => rfl) (fun x rest k1 => lv_ineg hS.1.1.1 hS.1.1.2.1 hd k1) h
  | i2l =>
    obtain ⟨hl, hO2⟩ := xand hO
    clear hO
    have hO := hO2
    clear hO2
    have hl : len = 1 := Nat.eq_of_beq_eq_true hl
    subst hl
    have hn : xbp M nx = bp + 1 := Nat.eq_of_beq_eq_true hO
    exact xi_unI (f := fun x => .long x.toInt64) ih hS hn (fun _ => rfl) (fun x rest k1 => lv_i2l hS.1.1.1 hS.1.1.2.1 hd rfl k1) h
  | i2c =>
    obtain ⟨hl, hO2⟩ := xand hO
    clear hO
    have hO := hO2
    clear hO2
    have hl : len = 1 := Nat.eq_of_beq_eq_true hl
    subst hl
    have hn : xbp M nx = bp + 1 := Nat.eq_of_beq_eq_true hO
    exact xi_unI (f := fun x => .int (x.toUInt32 % 65536).toInt32) ih hS hn (fun _ => rfl) (fun x rest k1 => lv_i2c hS.1.1.1 hS.1.1.2.1 hd rfl k1) h
  | i2s =>
    obtain ⟨hl, hO2⟩ := xand hO
    clear hO
    have hO := hO2
    clear hO2
    have hl : len = 1 := Nat.eq_of_beq_eq_true hl
    subst hl
    have hn : xbp M nx = bp + 1 := Nat.eq_of_beq_eq_true hO
    exact xi_unI (f := fun x => .int x.toInt16.toInt32) ih hS hn (fun _ => rfl) (fun x rest k1 => lv_i2s hS.1.1.1 hS.1.1.2.1 hd rfl k1) h
  | l2i =>
    obtain ⟨hl, hO2⟩ := xand hO
    clear hO
    have hO := hO2
    clear hO2
    have hl : len = 1 := Nat.eq_of_beq_eq_true hl
    subst hl
    have hn : xbp M nx = bp + 1 := Nat.eq_of_beq_eq_true hO
    exact xi_unL (f := fun x => .int x.toInt32) ih hS hn (fun _ => rfl) (fun x rest k1 => lv_l2i hS.1.1.1 hS.1.1.2.1 hd rfl k1) h
  | dup =>
    obtain ⟨hl, hO2⟩ := xand hO
    clear hO
    have hO := hO2
    clear hO2
    have hl : len = 1 := Nat.eq_of_beq_eq_true hl
    subst hl
    have hn : xbp M nx = bp + 1 := Nat.eq_of_beq_eq_true hO
    exact xi_dup ih hS hn hd h
  | dup2 =>
    obtain ⟨hl, hO2⟩ := xand hO
    clear hO
    have hO := hO2
    clear hO2
    have hl : len = 1 := Nat.eq_of_beq_eq_true hl
    subst hl
    have hn : xbp M nx = bp + 1 := Nat.eq_of_beq_eq_true hO
    exact xi_dup2 ih hS hn hd h
  | pop =>
    obtain ⟨hl, hO2⟩ := xand hO
    clear hO
    have hO := hO2
    clear hO2
    have hl : len = 1 := Nat.eq_of_beq_eq_true hl
    subst hl
    have hn : xbp M nx = bp + 1 := Nat.eq_of_beq_eq_true hO
    exact xi_pop ih hS hn hd h
  | iaload =>
    obtain ⟨hl, hO2⟩ := xand hO
    clear hO
    have hO := hO2
    clear hO2
    have hl : len = 1 := Nat.eq_of_beq_eq_true hl
    subst hl
    have hn : xbp M nx = bp + 1 := Nat.eq_of_beq_eq_true hO
    exact xi_ald ih hS hn hd h
  | caload =>
    obtain ⟨hl, hO2⟩ := xand hO
    clear hO
    have hO := hO2
    clear hO2
    have hl : len = 1 := Nat.eq_of_beq_eq_true hl
    subst hl
    have hn : xbp M nx = bp + 1 := Nat.eq_of_beq_eq_true hO
    exact xi_cald ih hS hn hd h
  | laload =>
    obtain ⟨hl, hO2⟩ := xand hO
    clear hO
    have hO := hO2
    clear hO2
    have hl : len = 1 := Nat.eq_of_beq_eq_true hl
    subst hl
    have hn : xbp M nx = bp + 1 := Nat.eq_of_beq_eq_true hO
    exact xi_lald ih hS hn hd h
  | aaload =>
    obtain ⟨hl, hO2⟩ := xand hO
    clear hO
    have hO := hO2
    clear hO2
    have hl : len = 1 := Nat.eq_of_beq_eq_true hl
    subst hl
    have hn : xbp M nx = bp + 1 := Nat.eq_of_beq_eq_true hO
    exact xi_aald ih hS hn hd h
  | iastore =>
    obtain ⟨hl, hO2⟩ := xand hO
    clear hO
    have hO := hO2
    clear hO2
    have hl : len = 1 := Nat.eq_of_beq_eq_true hl
    subst hl
    have hn : xbp M nx = bp + 1 := Nat.eq_of_beq_eq_true hO
    exact xi_ast ih hS hn hd h
  | castore =>
    obtain ⟨hl, hO2⟩ := xand hO
    clear hO
    have hO := hO2
    clear hO2
    have hl : len = 1 := Nat.eq_of_beq_eq_true hl
    subst hl
    have hn : xbp M nx = bp + 1 := Nat.eq_of_beq_eq_true hO
    exact xi_cast ih hS hn hd h
  | lastore =>
    obtain ⟨hl, hO2⟩ := xand hO
    clear hO
    have hO := hO2
    clear hO2
    have hl : len = 1 := Nat.eq_of_beq_eq_true hl
    subst hl
    have hn : xbp M nx = bp + 1 := Nat.eq_of_beq_eq_true hO
    exact xi_last ih hS hn hd h
  | aastore =>
    obtain ⟨hl, hO2⟩ := xand hO
    clear hO
    have hO := hO2
    clear hO2
    have hl : len = 1 := Nat.eq_of_beq_eq_true hl
    subst hl
    have hn : xbp M nx = bp + 1 := Nat.eq_of_beq_eq_true hO
    exact xi_aast ih hS hn hd h
  | arraylength =>
    obtain ⟨hl, hO2⟩ := xand hO
    clear hO
    have hO := hO2
    clear hO2
    have hl : len = 1 := Nat.eq_of_beq_eq_true hl
    subst hl
    have hn : xbp M nx = bp + 1 := Nat.eq_of_beq_eq_true hO
    exact xi_len ih hS hn hd h
  | goto off =>
    obtain ⟨hl, hO2⟩ := xand hO
    clear hO
    have hO := hO2
    clear hO2
    have hl : len = 3 := Nat.eq_of_beq_eq_true hl
    subst hl
    split at hO
    · rename_i t
      exact xi_go ih hS (of_decide_eq_true hO) hd h
    · cases hO
  | ifCond cnd off =>
    obtain ⟨hl, hO2⟩ := xand hO
    clear hO
    have hO := hO2
    clear hO2
    have hl : len = 3 := Nat.eq_of_beq_eq_true hl
    subst hl
    obtain ⟨hn, hO⟩ := xand hO
    have hn : xbp M nx = bp + 3 := Nat.eq_of_beq_eq_true hn
    split at hO
    · rename_i t
      have ht := of_decide_eq_true hO
      cases cnd with
      | eq => exact xi_if ih hS hn (fun x rest kt kf => lv_if_eq hS.1.1.1 hS.1.1.2.1 hd ht kt kf) h
      | ne => exact xi_if ih hS hn (fun x rest kt kf => lv_if_ne hS.1.1.1 hS.1.1.2.1 hd ht kt (fun z => kf (fun w => w z))) h
      | lt => exact xi_if ih hS hn (fun x rest kt kf => lv_if_lt hS.1.1.1 hS.1.1.2.1 hd ht kt kf) h
      | ge => exact xi_if ih hS hn (fun x rest kt kf => lv_if_ge hS.1.1.1 hS.1.1.2.1 hd ht kt kf) h
      | gt => exact xi_if ih hS hn (fun x rest kt kf => lv_if_gt hS.1.1.1 hS.1.1.2.1 hd ht kt kf) h
      | le => exact xi_if ih hS hn (fun x rest kt kf => lv_if_le hS.1.1.1 hS.1.1.2.1 hd ht kt kf) h
    · cases hO
  | if_icmp cnd off =>
    obtain ⟨hl, hO2⟩ := xand hO
    clear hO
    have hO := hO2
    clear hO2
    have hl : len = 3 := Nat.eq_of_beq_eq_true hl
    subst hl
    obtain ⟨hn, hO⟩ := xand hO
    have hn : xbp M nx = bp + 3 := Nat.eq_of_beq_eq_true hn
    split at hO
    · rename_i t
      have ht := of_decide_eq_true hO
      cases cnd with
      | eq => exact xi_icmp ih hS hn (fun x y rest kt kf => lv_icmp_eq hS.1.1.1 hS.1.1.2.1 hd ht kt kf) h
      | ne => exact xi_icmp ih hS hn (fun x y rest kt kf => lv_icmp_ne hS.1.1.1 hS.1.1.2.1 hd ht kt (fun z => kf (fun w => w z))) h
      | lt => exact xi_icmp ih hS hn (fun x y rest kt kf => lv_icmp_lt hS.1.1.1 hS.1.1.2.1 hd ht kt kf) h
      | ge => exact xi_icmp ih hS hn (fun x y rest kt kf => lv_icmp_ge hS.1.1.1 hS.1.1.2.1 hd ht kt kf) h
      | gt => exact xi_icmp ih hS hn (fun x y rest kt kf => lv_icmp_gt hS.1.1.1 hS.1.1.2.1 hd ht kt kf) h
      | le => exact xi_icmp ih hS hn (fun x y rest kt kf => lv_icmp_le hS.1.1.1 hS.1.1.2.1 hd ht kt kf) h
    · cases hO
  | tableswitch dflt lo hi offs =>
    replace hO : xokO M (xYf M).cls bp nx (.tableswitch dflt lo hi offs) len os sw cv = true := hO
    unfold xokO at hO
    dsimp only at hO
    split at hO
    · rename_i t
      obtain ⟨h1, hO⟩ := xand hO
      obtain ⟨h2, hO⟩ := xand hO
      exact xi_tab ih hS hd (of_decide_eq_true h1) (of_decide_eq_true h2) hO h
    · cases hO
  | getfield idx =>
    obtain ⟨hl, hO2⟩ := xand hO
    clear hO
    have hO := hO2
    clear hO2
    have hl : len = 3 := Nat.eq_of_beq_eq_true hl
    subst hl
    obtain ⟨hn, hO⟩ := xand hO
    have hn : xbp M nx = bp + 3 := Nat.eq_of_beq_eq_true hn
    split at hO
    · exact xi_get hok ih hS hn hO hd h
    · cases hO
  | putfield idx =>
    obtain ⟨hl, hO2⟩ := xand hO
    clear hO
    have hO := hO2
    clear hO2
    have hl : len = 3 := Nat.eq_of_beq_eq_true hl
    subst hl
    obtain ⟨hn, hO⟩ := xand hO
    have hn : xbp M nx = bp + 3 := Nat.eq_of_beq_eq_true hn
    split at hO
    · obtain ⟨h1, h2⟩ := xand hO
      exact xi_put hok ih hS hn h1 h2 hd h
    · cases hO
  | new idx =>
    obtain ⟨hl, hO2⟩ := xand hO
    clear hO
    have hO := hO2
    clear hO2
    have hl : len = 3 := Nat.eq_of_beq_eq_true hl
    subst hl
    obtain ⟨hn, hO⟩ := xand hO
    have hn : xbp M nx = bp + 3 := Nat.eq_of_beq_eq_true hn
    split at hO
    · exact xi_new hok ih hS hn hd hO h
    · cases hO
  | newarray aty =>
    obtain ⟨hl, hO2⟩ := xand hO
    clear hO
    have hO := hO2
    clear hO2
    have hl : len = 2 := Nat.eq_of_beq_eq_true hl
    subst hl
    have hn : xbp M nx = bp + 2 := Nat.eq_of_beq_eq_true hO
    cases aty with
    | int => exact xi_newa (tag := 0) (ty := .int) (z := fun N => (N, .inl (fun _ => 0))) hok ih hS hn hd rfl hok.2.2.2.2.2.2.1 rfl (fun _ z => z) (fun _ _ => rfl) (by decide) (fun a2 rf2 iv2 lg2 k N h1 h2 => by show (Sum.inl (dA 0, N, .inl (iv2 k)) : va_E) = _; rw [h1]) h
    | long => exact xi_newa (tag := 1) (ty := .long) (z := fun N => (N, .inr (.inl (fun _ => 0)))) hok ih hS hn hd rfl hok.2.2.2.2.2.2.2.1 rfl (fun _ z => z) (fun _ _ => rfl) (by decide) (fun a2 rf2 iv2 lg2 k N h1 h2 => by show (Sum.inl (dA 1, N, .inr (.inl (lg2 k))) : va_E) = _; rw [h2]) h
    | char => exact xi_newa (tag := 2) (ty := .char) (z := fun N => (N, .inl (fun _ => 0))) hok ih hS hn hd rfl hok.2.2.2.2.2.2.2.2.1 rfl (fun _ z => z) (fun _ _ => rfl) (by decide) (fun a2 rf2 iv2 lg2 k N h1 h2 => by show (Sum.inl (dA 2, N, .inl (iv2 k)) : va_E) = _; rw [h1]) h
    | _ => exact (xrun_none h).elim
  | anewarray idx =>
    obtain ⟨hl, hO2⟩ := xand hO
    clear hO
    have hO := hO2
    clear hO2
    have hl : len = 3 := Nat.eq_of_beq_eq_true hl
    subst hl
    obtain ⟨hn, hO⟩ := xand hO
    have hn : xbp M nx = bp + 3 := Nat.eq_of_beq_eq_true hn
    split at hO
    · exact xi_newq hok ih hS hn hd (of_decide_eq_true hO) h
    · cases hO
  | multianewarray idx dims =>
    obtain ⟨hl, hO2⟩ := xand hO
    clear hO
    have hO := hO2
    clear hO2
    have hl : len = 4 := Nat.eq_of_beq_eq_true hl
    subst hl
    obtain ⟨hn, hO⟩ := xand hO
    have hn : xbp M nx = bp + 4 := Nat.eq_of_beq_eq_true hn
    obtain ⟨h2, hO⟩ := xand hO
    have h2 := Nat.eq_of_beq_eq_true h2
    subst h2
    split at hO
    · exact xi_mna hok ih hS hn hd (of_decide_eq_true hO) h
    · cases hO
  | invokestatic idx =>
    obtain ⟨hl, hO2⟩ := xand hO
    clear hO
    have hO := hO2
    clear hO2
    have hl : len = 3 := Nat.eq_of_beq_eq_true hl
    subst hl
    obtain ⟨hn, hO⟩ := xand hO
    have hn : xbp M nx = bp + 3 := Nat.eq_of_beq_eq_true hn
    split at hO
    · obtain ⟨h1, hO⟩ := xand hO
      obtain ⟨h2, h3⟩ := xand hO
      exact xi_cpy hok ih hS hn (of_decide_eq_true h1) (Nat.le_of_ble_eq_true h2) (Nat.le_of_ble_eq_true h3) hd h
    · obtain ⟨h1, hO⟩ := xand hO
      obtain ⟨h2, h3⟩ := xand hO
      exact xi_max hok ih hS hn (of_decide_eq_true h1) (Nat.le_of_ble_eq_true h2) (Nat.le_of_ble_eq_true h3) hd h
    · obtain ⟨h1, hO⟩ := xand hO
      obtain ⟨h2, h3⟩ := xand hO
      exact xi_min hok ih hS hn (of_decide_eq_true h1) (Nat.le_of_ble_eq_true h2) (Nat.le_of_ble_eq_true h3) hd h
    · obtain ⟨h1, hO⟩ := xand hO
      obtain ⟨h2, hO⟩ := xand hO
      obtain ⟨h3, hO⟩ := xand hO
      obtain ⟨h4, h5⟩ := xand hO
      exact xi_stat hok ih hS hn hd (Nat.le_of_ble_eq_true h1) (xokC_of hok (Nat.le_of_ble_eq_true h1) h5) h2 (of_decide_eq_true h3) (Nat.eq_of_beq_eq_true h4) h5 h
    · cases hO
  | invokespecial idx =>
    obtain ⟨hl, hO2⟩ := xand hO
    clear hO
    have hO := hO2
    clear hO2
    have hl : len = 3 := Nat.eq_of_beq_eq_true hl
    subst hl
    obtain ⟨hn, hO⟩ := xand hO
    have hn : xbp M nx = bp + 3 := Nat.eq_of_beq_eq_true hn
    split at hO
    · obtain ⟨h1, hO⟩ := xand hO
      obtain ⟨h2, h3⟩ := xand hO
      exact xi_obj hok ih hS hn (of_decide_eq_true h1) (Nat.le_of_ble_eq_true h2) (Nat.le_of_ble_eq_true h3) hd h
    · obtain ⟨h1, hO⟩ := xand hO
      obtain ⟨h2, hO⟩ := xand hO
      obtain ⟨h3, hO⟩ := xand hO
      obtain ⟨h4, hO⟩ := xand hO
      obtain ⟨h5, hO⟩ := xand hO
      obtain ⟨h6, h7⟩ := xand hO
      exact xi_spec hok ih hS hn hd (Nat.le_of_ble_eq_true h1) (xokC_of hok (Nat.le_of_ble_eq_true h1) h7) h2 (of_decide_eq_true h3) (Nat.eq_of_beq_eq_true h4) (of_decide_eq_true h5) (of_decide_eq_true h6) h7 h
    · cases hO
  | invokevirtual idx =>
    obtain ⟨hl, hO2⟩ := xand hO
    clear hO
    have hO := hO2
    clear hO2
    have hl : len = 3 := Nat.eq_of_beq_eq_true hl
    subst hl
    obtain ⟨hn, hO⟩ := xand hO
    have hn : xbp M nx = bp + 3 := Nat.eq_of_beq_eq_true hn
    split at hO
    · obtain ⟨h1, hO⟩ := xand hO
      obtain ⟨h2, hO⟩ := xand hO
      obtain ⟨h3, hO⟩ := xand hO
      obtain ⟨h4, hO⟩ := xand hO
      obtain ⟨h5, hO⟩ := xand hO
      obtain ⟨h6, h7⟩ := xand hO
      exact xi_virt hok ih hS hn hd (Nat.le_of_ble_eq_true h1) (xokC_of hok (Nat.le_of_ble_eq_true h1) h7) h2 (of_decide_eq_true h3) (of_decide_eq_true h4) (Nat.eq_of_beq_eq_true h5) h6 h7 h
    · cases hO
  | ireturn =>
    have hl : len = 1 := Nat.eq_of_beq_eq_true hO
    subst hl
    exact xi_retI hS hd h
  | lreturn =>
    have hl : len = 1 := Nat.eq_of_beq_eq_true hO
    subst hl
    exact xi_retL hS hd h
  | areturn =>
    have hl : len = 1 := Nat.eq_of_beq_eq_true hO
    subst hl
    exact xi_retA hS hd h
  | return_ =>
    have hl : len = 1 := Nat.eq_of_beq_eq_true hO
    subst hl
    exact xi_retV hS hd h
  | _ => exact (xrun_none h).elim
theorem xsnd_step (hok : xOK) (ih : xG L xs l n) {pc : Nat} (h : xexec L xs (n + 1) M pc lv st (sh, rf, iv, lg) = some (r, sh', rf', iv', lg')) (hS : xS L xs p l e R s m args below meth c Q D dA A a0 b c0 s0 M r sh' rf' iv' lg' a H locs ls lv sh rf iv lg) :
    W p l e R s m args below meth c H locs (sh.length - c0) (xsz sh - s0) Q (F0 m (xbp M pc) ls (st.map (xtv a))) := by
  replace h : xrun (xexec L xs n) M (xstep L xs M pc lv st sh rf iv lg) = some (r, sh', rf', iv', lg') := h
  unfold xstep xfetch xn2 at h
  obtain ⟨mc, hmc, h1⟩ := xrun_nth h
  obtain ⟨cs, hcs, h2⟩ := xrun_nth h1
  obtain ⟨ch, hch, h3⟩ := xrun_nth h2
  obtain ⟨en, hen, h4⟩ := xrun_nth h3
  have hcsM : xcs M = cs := by
    unfold xcs xn2
    rw [xnth_eq, hmc]
    dsimp only
    rw [xnth_eq, hcs]
    rfl
  have hbp : xbp M pc = en.1 := by
    unfold xbp xbpc xn2
    rw [hcsM, xnth_eq, hch]
    dsimp only
    rw [xnth_eq, hen]
  have hM := (xand (hok.1 M)).1
  rw [hcsM] at hM
  have hI := List.all_eq_true.mp (List.all_eq_true.mp hM ch (List.mem_of_getElem? hch)) en (List.mem_of_getElem? hen)
  obtain ⟨bp, nx, ins, len, os, sw, cv⟩ := en
  rw [hbp]
  exact xsnd_do hok ih hS hI h4
theorem xsnd (hok : xOK) : ∀ n, xG L xs l n
  | 0 => fun h _ => by cases h
  | n + 1 => fun h hS => xsnd_step hok (xsnd hok n) h hS
end XD
end
section
/-! THE CLAIM OUT OF ONE WALK OF THE LAW'S BODY. Your part is whole_start (and what it stands on); all else here is the same for every law, but numbers. -/
def R_law : String := "StepRingsLaw"
def lw_P (b : Addr) (xs : List Int32) (args : Array Value) (s : State) : Prop := args = #[.ref b] ∧ s.IntsAt b xs ∧ xs.length ≤ 3072 ∧ (Jvm.Cond.and given_1 narrow_1).before args s = true
def lw_Q (_ : Array Value) (s : State) (o : Outcome) (t : State) : Prop := o = .returned (some (.int 1)) ∧ Framed s o t [] 600000 7302250
def lw_Z (below : List Frame) (a : Array Value) (s : State) : State → Prop := fun t => ∃ o, t.status = .running ∧ Ended t below o ∧ lw_Q a s o t
/-- the law's own end, with 1 on the stack, nothing written that was there before, its room as the claim has it -/
theorem lw_ret {p : Program} {l : Launch} {e : Env} {s : State} {m : MethodId} {below : List Frame} {meth : Method} {c : Code} {b : Nat} (hx : p.tables.exec = Jvm.exec) (hb : c.code = code) (hr : meth.sig.returnType = ret) (hlocks : meth.locks = false) {pc : Nat} {H : Heap} {ls : Array Slot} (hdg : decode code pc = .ok (.ireturn, 1)) : W p l e room_1 s m #[Value.ref b] below meth c H [] 600000 7302250 (lw_Z below #[Value.ref b] s) (F0 m pc ls [.int 1]) := by
  intro T hT X
  obtain ⟨fs, hret, hrun, hended, hW, hframe⟩ := X.leave (v := some (.int 1)) (hlocks := hlocks) (fun h => by rw [hr] at h; cases h)
  have hmeth' : T.vm.method? m = some meth := X.method'
  refine ⟨T.setFrames fs, ?_, .returned (some (.int 1)), hrun, hended, rfl, ⟨_, rfl⟩, hW, hframe⟩
  jvm_step X.here [X.here.top, hx, hb, hdg, hmeth', hr, ret, narrow_b1]
  (try refine ⟨rfl, ?_⟩); (try refine ⟨rfl, ?_⟩)
  first | (intro acts; rw [hret _ acts rfl rfl rfl]) | rw [hret _ _ rfl rfl rfl]
  exact Steps.refl _
/-- what holds at the law's entry: the machine, the code, the tables' words (any of lw_tbl by 'hts w (by decide +kernel)'), the script of L ints xs at the cell b, what the Statement gives of the start (any of its parts by flat_of_before) -/
def lw_At (p : Program) (s : State) (m : MethodId) (meth : Method) (c : Code) (b L : Nat) (xs : Nat → Int32) : Prop :=
  p.tables.exec = Jvm.exec ∧ c.code = code ∧ meth.sig.returnType = ret ∧ c.maxLocals = 4 ∧ s.vm.findClass R_law = some m.cls ∧ (∀ w ∈ lw_tbl, w.before #[Value.ref b] s = true) ∧ va_X b L xs s s.heap ∧ b < s.heap.size ∧ meth.locks = false ∧ (Jvm.Cond.and given_1 narrow_1).before #[Value.ref b] s = true
/-- what is left to show: the law, run by the small machine, answers 1 -/
def xLaw : Prop := ∀ (L : Nat) (xs : Nat → Int32), L ≤ 3072 → Sp L xs 0 [.ref 1000] [] [] (fun _ _ => 0) (fun _ _ => 0) (fun r sh _ _ _ => r = some (.int 1) ∧ sh.length ≤ 600000 ∧ xsz sh ≤ 7302250)
theorem xArrT {s : State} {cA comp : ClassId} {kA : Class} {ty : FieldType} (h2 : s.vm.classes[cA]? = some kA) (h3 : kA.kind = .array comp ty) : ArrOfT s cA ty := fun n z => ⟨fun k h => (by cases h), kA, h2, comp, h3⟩
theorem whole_open (hok : xOK) (hinst : ∀ (ci : Nat) (C : vw_C), xCl[ci]? = some C → Cond.instantiable C.1 C.2.2 ∈ xTs) (hLaw : xLaw) {p : Program} {e : Env} {s : State} {m : MethodId} {below : List Frame} {meth : Method} {c : Code} (l : Launch) {b L : Nat} {xs : Nat → Int32} (hL : L ≤ 3072) (C0 : lw_At p s m meth c b L xs) : W p l e room_1 s m #[Value.ref b] below meth c s.heap [] 0 0 (lw_Z below #[Value.ref b] s) (entryFrame m ([Value.ref b] : List Value).toArray 4) := by
  obtain ⟨hx, hb, hr, hml, hown, hts0, hX, hbl, hlocks, -⟩ := id C0
  have hts : ∀ w ∈ xTs, w.before #[Value.ref b] s = true := fun w hw => hts0 w (List.mem_filter.mp hw).1
  obtain ⟨n, r, sh', rf', iv', lg', he, hr1, hz1, hz2⟩ := hLaw L xs hL
  subst hr1
  -- the classes
  have hcl : ∀ ci : Nat, ∃ (cC : ClassId) (iS : Nat → Nat), ∀ C, xCl[ci]? = some C → u_Kn s C.1 C.2.1 C.2.2 cC iS := fun ci => by
    cases hC : xCl[ci]? with
    | none => exact ⟨default, fun _ => 0, fun C h => by cases h⟩
    | some C =>
      obtain ⟨ty, hty, hcls⟩ := hok.2.1 ci C hC
      obtain ⟨cC, iS, hk⟩ := u_known hts hcls.1 (hts _ (hinst ci C hC))
      exact ⟨cC, iS, fun C2 h => by cases h; exact hk⟩
  obtain ⟨cI, kI, pI, fI, gI, qI⟩ := Cond.arrayClass_spec (hts _ hok.2.2.2.2.2.2.1)
  obtain ⟨cL, kL, pL, fL, gL, qL⟩ := Cond.arrayClass_spec (hts _ hok.2.2.2.2.2.2.2.1)
  obtain ⟨cC, kC, pC, fC, gC, qC⟩ := Cond.arrayClass_spec (hts _ hok.2.2.2.2.2.2.2.2.1)
  obtain ⟨pO, cO, kO, fO, -, gO, qO, wO⟩ := Cond.arrayOver_spec (hts _ hok.2.2.2.2.2.2.2.2.2.1)
  obtain ⟨pA, cA, kA, fA, -, gA, qA, wA⟩ := arrayOverA_spec (hts _ hok.2.2.2.2.2.2.2.2.2.2)
  obtain ⟨dA, d0, d1, d2, d3, d4⟩ : ∃ dA : Nat → ClassId, dA 0 = cI ∧ dA 1 = cL ∧ dA 2 = cC ∧ dA 3 = cA ∧ dA 4 = cO := ⟨fun k => match k with | 0 => cI | 1 => cL | 2 => cC | 3 => cA | _ => cO, rfl, rfl, rfl, rfl, rfl⟩
  have hK : va_K (fun ci => Classical.choose (hcl ci), fun ci => Classical.choose (Classical.choose_spec (hcl ci))) xCl (xtys dA) s := by
    refine ⟨fun ci C hC => Classical.choose_spec (Classical.choose_spec (hcl ci)) C hC, fun k q hq => ?_⟩
    match k, hq with
    | 0, hq => cases hq; rw [d0]; exact ⟨xArrT gI qI, fI⟩
    | 1, hq => cases hq; rw [d1]; exact ⟨xArrT gL qL, fL⟩
    | 2, hq => cases hq; rw [d2]; exact ⟨xArrT gC qC, fC⟩
    | 3, hq => cases hq; rw [d3]; exact ⟨xArrT gA qA, wA⟩
    | 4, hq => cases hq; rw [d4]; exact ⟨xArrT gO qO, kO, pO, gO, qO, fO, wO⟩
    | k + 5, hq => simp [xtys] at hq
  have hl := lv_entry ([.ref b]) (n := 4) (Nat.le_of_ble_eq_true rfl)
  rw [lg_entry_eq]
  generalize (lg_sl ([.ref b]) ++ List.replicate (4 - (lg_sl ([.ref b])).length) Slot.unset).toArray = ls at hl ⊢
  have hl2 : lv_has ls 4 (xal (fun _ => b) 0 (xent 4 [.ref 1000])) := ⟨hl.1, hl.2.1, fun q hq => hl.2.2 q (xent_args _ _ _ hq)⟩
  have k1 := @xsnd L xs l hok n p e room_1 s m #[Value.ref b] below meth c (lw_Z below #[Value.ref b] s) _ dA (fun q : Nat => s.heap.size ≤ q) (fun _ => b) b 0 0 0 0 (some (.int 1)) sh' rf' iv' lg' (fun _ => b) s.heap [] ls (xent 4 [.ref 1000]) [] [] [] (fun _ _ => 0) (fun _ _ => 0) he
    ⟨⟨⟨hx, hb, hml, hown, fun z => absurd z (by omega)⟩, hts, ⟨by decide +kernel, by decide +kernel⟩, hK, fun _ h => h, fun _ => ⟨hX, hbl, Nat.not_le.mpr hbl⟩⟩, ⟨⟨Nat.le_trans (Nat.sub_le _ _) hz1, Nat.le_trans (Nat.sub_le _ _) hz2⟩, Nat.le_refl _, Nat.le_refl _⟩, ⟨fun _ _ => rfl, rfl⟩, ⟨rfl, fun k q h => by simp [xws] at h, ⟨fun i j p q h => by simp [xws] at h, fun k q h => by simp [xws] at h⟩, va_S.rf⟩, hl2, ?_⟩
  · exact k1
  · intro a H locs ls' bp _ hWd hRt
    have hd : decode (xccf 0) bp = .ok (.ireturn, 1) := by
      rcases hRt with ⟨v, h1, h2, h3⟩ | ⟨v, h1, -⟩ | ⟨v, t, h1, -⟩ | ⟨h1, -⟩
      · exact h2
      · cases h1
      · cases h1
      · cases h1
    refine va_forget (fun q hq => hWd.2.2.2.2.2 q hq) ?_
    refine W.widen (k := 600000) (n := 7302250) (Nat.le_trans (Nat.sub_le _ _) hz1) (Nat.le_trans (Nat.sub_le _ _) hz2) ?_
    exact lw_ret hx hb hr hlocks hd
end
section
def xokG (M g : Nat) : Bool := (((xcs M).drop (4 * g)).take 4).all (fun c => c.all (fun e => xokI M (xYf M).cls (xccf M) e))
theorem xk0_0 : xokG 0 0 = true := by decide +kernel
theorem xk0_1 : xokG 0 1 = true := by decide +kernel
theorem xk0_2 : xokG 0 2 = true := by decide +kernel
theorem xk0_3 : xokG 0 3 = true := by decide +kernel
theorem xk0_4 : xokG 0 4 = true := by decide +kernel
theorem xk0_5 : xokG 0 5 = true := by decide +kernel
theorem xk0_6 : xokG 0 6 = true := by decide +kernel
theorem xk0_7 : xokG 0 7 = true := by decide +kernel
theorem xk0_8 : xokG 0 8 = true := by decide +kernel
theorem xk0_9 : xokG 0 9 = true := by decide +kernel
theorem xk0_10 : xokG 0 10 = true := by decide +kernel
theorem xk0_11 : xokG 0 11 = true := by decide +kernel
theorem xk0_12 : xokG 0 12 = true := by decide +kernel
theorem xk0_13 : xokG 0 13 = true := by decide +kernel
theorem xk0_14 : xokG 0 14 = true := by decide +kernel
theorem xk0_15 : xokG 0 15 = true := by decide +kernel
theorem xk1_0 : xokG 1 0 = true := by decide +kernel
theorem xk2_0 : xokG 2 0 = true := by decide +kernel
theorem xk3_0 : xokG 3 0 = true := by decide +kernel
theorem xk3_1 : xokG 3 1 = true := by decide +kernel
theorem xk4_0 : xokG 4 0 = true := by decide +kernel
end
section
theorem xk5_0 : xokG 5 0 = true := by decide +kernel
theorem xk6_0 : xokG 6 0 = true := by decide +kernel
theorem xk6_1 : xokG 6 1 = true := by decide +kernel
theorem xk7_0 : xokG 7 0 = true := by decide +kernel
theorem xk8_0 : xokG 8 0 = true := by decide +kernel
theorem xk9_0 : xokG 9 0 = true := by decide +kernel
theorem xk10_0 : xokG 10 0 = true := by decide +kernel
theorem xk11_0 : xokG 11 0 = true := by decide +kernel
theorem xk12_0 : xokG 12 0 = true := by decide +kernel
theorem xk12_1 : xokG 12 1 = true := by decide +kernel
theorem xk13_0 : xokG 13 0 = true := by decide +kernel
theorem xk14_0 : xokG 14 0 = true := by decide +kernel
theorem xk15_0 : xokG 15 0 = true := by decide +kernel
theorem xk16_0 : xokG 16 0 = true := by decide +kernel
theorem xk17_0 : xokG 17 0 = true := by decide +kernel
theorem xk18_0 : xokG 18 0 = true := by decide +kernel
theorem xk19_0 : xokG 19 0 = true := by decide +kernel
theorem xk20_0 : xokG 20 0 = true := by decide +kernel
theorem xk20_1 : xokG 20 1 = true := by decide +kernel
theorem xk21_0 : xokG 21 0 = true := by decide +kernel
theorem xk22_0 : xokG 22 0 = true := by decide +kernel
theorem xk23_0 : xokG 23 0 = true := by decide +kernel
theorem xk24_0 : xokG 24 0 = true := by decide +kernel
theorem xk25_0 : xokG 25 0 = true := by decide +kernel
theorem xk26_0 : xokG 26 0 = true := by decide +kernel
theorem xk27_0 : xokG 27 0 = true := by decide +kernel
theorem xk28_0 : xokG 28 0 = true := by decide +kernel
theorem xk29_0 : xokG 29 0 = true := by decide +kernel
theorem xk30_0 : xokG 30 0 = true := by decide +kernel
theorem xk31_0 : xokG 31 0 = true := by decide +kernel
theorem xk31_1 : xokG 31 1 = true := by decide +kernel
theorem xk32_0 : xokG 32 0 = true := by decide +kernel
theorem xk33_0 : xokG 33 0 = true := by decide +kernel
theorem xk34_0 : xokG 34 0 = true := by decide +kernel
theorem xk35_0 : xokG 35 0 = true := by decide +kernel
theorem xk36_0 : xokG 36 0 = true := by decide +kernel
theorem xk37_0 : xokG 37 0 = true := by decide +kernel
theorem xk38_0 : xokG 38 0 = true := by decide +kernel
theorem xk39_0 : xokG 39 0 = true := by decide +kernel
theorem xk40_0 : xokG 40 0 = true := by decide +kernel
end
section
theorem xk40_1 : xokG 40 1 = true := by decide +kernel
theorem xk41_0 : xokG 41 0 = true := by decide +kernel
theorem xk42_0 : xokG 42 0 = true := by decide +kernel
theorem xk42_1 : xokG 42 1 = true := by decide +kernel
theorem xk43_0 : xokG 43 0 = true := by decide +kernel
theorem xk44_0 : xokG 44 0 = true := by decide +kernel
theorem xk45_0 : xokG 45 0 = true := by decide +kernel
theorem xk46_0 : xokG 46 0 = true := by decide +kernel
theorem xk47_0 : xokG 47 0 = true := by decide +kernel
theorem xk48_0 : xokG 48 0 = true := by decide +kernel
theorem xk49_0 : xokG 49 0 = true := by decide +kernel
theorem xk50_0 : xokG 50 0 = true := by decide +kernel
theorem xk51_0 : xokG 51 0 = true := by decide +kernel
theorem xk52_0 : xokG 52 0 = true := by decide +kernel
theorem xk53_0 : xokG 53 0 = true := by decide +kernel
theorem xk54_0 : xokG 54 0 = true := by decide +kernel
theorem xk55_0 : xokG 55 0 = true := by decide +kernel
theorem xk56_0 : xokG 56 0 = true := by decide +kernel
theorem xk57_0 : xokG 57 0 = true := by decide +kernel
theorem xk58_0 : xokG 58 0 = true := by decide +kernel
theorem xk59_0 : xokG 59 0 = true := by decide +kernel
theorem xk60_0 : xokG 60 0 = true := by decide +kernel
theorem xk61_0 : xokG 61 0 = true := by decide +kernel
theorem xk62_0 : xokG 62 0 = true := by decide +kernel
theorem xk63_0 : xokG 63 0 = true := by decide +kernel
theorem xk64_0 : xokG 64 0 = true := by decide +kernel
theorem xk65_0 : xokG 65 0 = true := by decide +kernel
theorem xk66_0 : xokG 66 0 = true := by decide +kernel
theorem xk67_0 : xokG 67 0 = true := by decide +kernel
theorem xk68_0 : xokG 68 0 = true := by decide +kernel
theorem xk69_0 : xokG 69 0 = true := by decide +kernel
end
section
theorem xk70_0 : xokG 70 0 = true := by decide +kernel
theorem xk71_0 : xokG 71 0 = true := by decide +kernel
theorem xk71_1 : xokG 71 1 = true := by decide +kernel
theorem xk72_0 : xokG 72 0 = true := by decide +kernel
theorem xk73_0 : xokG 73 0 = true := by decide +kernel
theorem xk74_0 : xokG 74 0 = true := by decide +kernel
theorem xk75_0 : xokG 75 0 = true := by decide +kernel
theorem xk76_0 : xokG 76 0 = true := by decide +kernel
theorem xk77_0 : xokG 77 0 = true := by decide +kernel
theorem xk78_0 : xokG 78 0 = true := by decide +kernel
theorem xk79_0 : xokG 79 0 = true := by decide +kernel
theorem xk80_0 : xokG 80 0 = true := by decide +kernel
theorem xk81_0 : xokG 81 0 = true := by decide +kernel
theorem xk82_0 : xokG 82 0 = true := by decide +kernel
theorem xk83_0 : xokG 83 0 = true := by decide +kernel
theorem xk84_0 : xokG 84 0 = true := by decide +kernel
theorem xk85_0 : xokG 85 0 = true := by decide +kernel
theorem xk86_0 : xokG 86 0 = true := by decide +kernel
theorem xk87_0 : xokG 87 0 = true := by decide +kernel
theorem xk88_0 : xokG 88 0 = true := by decide +kernel
theorem xk89_0 : xokG 89 0 = true := by decide +kernel
theorem xk90_0 : xokG 90 0 = true := by decide +kernel
theorem xk91_0 : xokG 91 0 = true := by decide +kernel
theorem xk92_0 : xokG 92 0 = true := by decide +kernel
theorem xk93_0 : xokG 93 0 = true := by decide +kernel
theorem xk94_0 : xokG 94 0 = true := by decide +kernel
theorem xk95_0 : xokG 95 0 = true := by decide +kernel
theorem xk96_0 : xokG 96 0 = true := by decide +kernel
theorem xk97_0 : xokG 97 0 = true := by decide +kernel
theorem xk98_0 : xokG 98 0 = true := by decide +kernel
theorem xk99_0 : xokG 99 0 = true := by decide +kernel
theorem xk99_1 : xokG 99 1 = true := by decide +kernel
theorem xk100_0 : xokG 100 0 = true := by decide +kernel
theorem xk101_0 : xokG 101 0 = true := by decide +kernel
theorem xk102_0 : xokG 102 0 = true := by decide +kernel
theorem xk103_0 : xokG 103 0 = true := by decide +kernel
theorem xk104_0 : xokG 104 0 = true := by decide +kernel
theorem xk105_0 : xokG 105 0 = true := by decide +kernel
theorem xk106_0 : xokG 106 0 = true := by decide +kernel
theorem xk107_0 : xokG 107 0 = true := by decide +kernel
end
section
theorem xk108_0 : xokG 108 0 = true := by decide +kernel
theorem xk109_0 : xokG 109 0 = true := by decide +kernel
theorem xk110_0 : xokG 110 0 = true := by decide +kernel
theorem xk110_1 : xokG 110 1 = true := by decide +kernel
theorem xk111_0 : xokG 111 0 = true := by decide +kernel
theorem xk112_0 : xokG 112 0 = true := by decide +kernel
theorem xk112_1 : xokG 112 1 = true := by decide +kernel
theorem xk113_0 : xokG 113 0 = true := by decide +kernel
theorem xk114_0 : xokG 114 0 = true := by decide +kernel
theorem xk115_0 : xokG 115 0 = true := by decide +kernel
theorem xk116_0 : xokG 116 0 = true := by decide +kernel
theorem xk117_0 : xokG 117 0 = true := by decide +kernel
theorem xk117_1 : xokG 117 1 = true := by decide +kernel
theorem xk118_0 : xokG 118 0 = true := by decide +kernel
theorem xk119_0 : xokG 119 0 = true := by decide +kernel
theorem xk119_1 : xokG 119 1 = true := by decide +kernel
theorem xk120_0 : xokG 120 0 = true := by decide +kernel
theorem xk121_0 : xokG 121 0 = true := by decide +kernel
theorem xk122_0 : xokG 122 0 = true := by decide +kernel
theorem xk122_1 : xokG 122 1 = true := by decide +kernel
theorem xk123_0 : xokG 123 0 = true := by decide +kernel
theorem xk123_1 : xokG 123 1 = true := by decide +kernel
theorem xk123_2 : xokG 123 2 = true := by decide +kernel
theorem xk124_0 : xokG 124 0 = true := by decide +kernel
theorem xk124_1 : xokG 124 1 = true := by decide +kernel
theorem xk125_0 : xokG 125 0 = true := by decide +kernel
theorem xk126_0 : xokG 126 0 = true := by decide +kernel
theorem xk126_1 : xokG 126 1 = true := by decide +kernel
theorem xk127_0 : xokG 127 0 = true := by decide +kernel
end
section
theorem xk127_1 : xokG 127 1 = true := by decide +kernel
theorem xk128_0 : xokG 128 0 = true := by decide +kernel
theorem xk129_0 : xokG 129 0 = true := by decide +kernel
theorem xk129_1 : xokG 129 1 = true := by decide +kernel
theorem xk130_0 : xokG 130 0 = true := by decide +kernel
theorem xk131_0 : xokG 131 0 = true := by decide +kernel
theorem xk132_0 : xokG 132 0 = true := by decide +kernel
theorem xk132_1 : xokG 132 1 = true := by decide +kernel
theorem xk133_0 : xokG 133 0 = true := by decide +kernel
theorem xk133_1 : xokG 133 1 = true := by decide +kernel
theorem xk134_0 : xokG 134 0 = true := by decide +kernel
theorem xk135_0 : xokG 135 0 = true := by decide +kernel
theorem xk136_0 : xokG 136 0 = true := by decide +kernel
theorem xk137_0 : xokG 137 0 = true := by decide +kernel
theorem xk137_1 : xokG 137 1 = true := by decide +kernel
theorem xk137_2 : xokG 137 2 = true := by decide +kernel
theorem xk138_0 : xokG 138 0 = true := by decide +kernel
theorem xk139_0 : xokG 139 0 = true := by decide +kernel
theorem xk140_0 : xokG 140 0 = true := by decide +kernel
theorem xk140_1 : xokG 140 1 = true := by decide +kernel
theorem xk141_0 : xokG 141 0 = true := by decide +kernel
theorem xk142_0 : xokG 142 0 = true := by decide +kernel
theorem xk143_0 : xokG 143 0 = true := by decide +kernel
theorem xk144_0 : xokG 144 0 = true := by decide +kernel
theorem xk144_1 : xokG 144 1 = true := by decide +kernel
theorem xk145_0 : xokG 145 0 = true := by decide +kernel
theorem xk145_1 : xokG 145 1 = true := by decide +kernel
end
section
theorem xk145_2 : xokG 145 2 = true := by decide +kernel
theorem xk146_0 : xokG 146 0 = true := by decide +kernel
theorem xk146_1 : xokG 146 1 = true := by decide +kernel
theorem xk147_0 : xokG 147 0 = true := by decide +kernel
theorem xk148_0 : xokG 148 0 = true := by decide +kernel
theorem xk149_0 : xokG 149 0 = true := by decide +kernel
theorem xk150_0 : xokG 150 0 = true := by decide +kernel
theorem xk151_0 : xokG 151 0 = true := by decide +kernel
theorem xk151_1 : xokG 151 1 = true := by decide +kernel
theorem xk151_2 : xokG 151 2 = true := by decide +kernel
theorem xk152_0 : xokG 152 0 = true := by decide +kernel
theorem xk153_0 : xokG 153 0 = true := by decide +kernel
theorem xk153_1 : xokG 153 1 = true := by decide +kernel
theorem xk153_2 : xokG 153 2 = true := by decide +kernel
theorem xk154_0 : xokG 154 0 = true := by decide +kernel
theorem xk155_0 : xokG 155 0 = true := by decide +kernel
theorem xk155_1 : xokG 155 1 = true := by decide +kernel
theorem xk156_0 : xokG 156 0 = true := by decide +kernel
theorem xk157_0 : xokG 157 0 = true := by decide +kernel
theorem xk158_0 : xokG 158 0 = true := by decide +kernel
theorem xk159_0 : xokG 159 0 = true := by decide +kernel
theorem xk160_0 : xokG 160 0 = true := by decide +kernel
theorem xk161_0 : xokG 161 0 = true := by decide +kernel
theorem xk162_0 : xokG 162 0 = true := by decide +kernel
theorem xk163_0 : xokG 163 0 = true := by decide +kernel
theorem xk164_0 : xokG 164 0 = true := by decide +kernel
theorem xk165_0 : xokG 165 0 = true := by decide +kernel
theorem xk165_1 : xokG 165 1 = true := by decide +kernel
theorem xk166_0 : xokG 166 0 = true := by decide +kernel
end
section
theorem xk167_0 : xokG 167 0 = true := by decide +kernel
theorem xk168_0 : xokG 168 0 = true := by decide +kernel
theorem xk169_0 : xokG 169 0 = true := by decide +kernel
theorem xk170_0 : xokG 170 0 = true := by decide +kernel
theorem xk171_0 : xokG 171 0 = true := by decide +kernel
theorem xk172_0 : xokG 172 0 = true := by decide +kernel
end
section
theorem xkC1 : xokC 1 = true := by decide +kernel
theorem xkC2 : xokC 2 = true := by decide +kernel
theorem xkC3 : xokC 3 = true := by decide +kernel
theorem xkC4 : xokC 4 = true := by decide +kernel
theorem xkC5 : xokC 5 = true := by decide +kernel
theorem xkC6 : xokC 6 = true := by decide +kernel
theorem xkC7 : xokC 7 = true := by decide +kernel
theorem xkC8 : xokC 8 = true := by decide +kernel
theorem xkC9 : xokC 9 = true := by decide +kernel
theorem xkC10 : xokC 10 = true := by decide +kernel
theorem xkC11 : xokC 11 = true := by decide +kernel
theorem xkC12 : xokC 12 = true := by decide +kernel
theorem xkC13 : xokC 13 = true := by decide +kernel
theorem xkC14 : xokC 14 = true := by decide +kernel
theorem xkC15 : xokC 15 = true := by decide +kernel
theorem xkC16 : xokC 16 = true := by decide +kernel
theorem xkC17 : xokC 17 = true := by decide +kernel
theorem xkC18 : xokC 18 = true := by decide +kernel
theorem xkC19 : xokC 19 = true := by decide +kernel
theorem xkC20 : xokC 20 = true := by decide +kernel
theorem xkC21 : xokC 21 = true := by decide +kernel
theorem xkC22 : xokC 22 = true := by decide +kernel
theorem xkC23 : xokC 23 = true := by decide +kernel
theorem xkC24 : xokC 24 = true := by decide +kernel
theorem xkC25 : xokC 25 = true := by decide +kernel
theorem xkC26 : xokC 26 = true := by decide +kernel
theorem xkC27 : xokC 27 = true := by decide +kernel
theorem xkC28 : xokC 28 = true := by decide +kernel
theorem xkC29 : xokC 29 = true := by decide +kernel
theorem xkC30 : xokC 30 = true := by decide +kernel
theorem xkC31 : xokC 31 = true := by decide +kernel
theorem xkC32 : xokC 32 = true := by decide +kernel
theorem xkC33 : xokC 33 = true := by decide +kernel
theorem xkC34 : xokC 34 = true := by decide +kernel
theorem xkC35 : xokC 35 = true := by decide +kernel
theorem xkC36 : xokC 36 = true := by decide +kernel
theorem xkC37 : xokC 37 = true := by decide +kernel
theorem xkC38 : xokC 38 = true := by decide +kernel
theorem xkC39 : xokC 39 = true := by decide +kernel
theorem xkC40 : xokC 40 = true := by decide +kernel
theorem xkC41 : xokC 41 = true := by decide +kernel
theorem xkC42 : xokC 42 = true := by decide +kernel
theorem xkC43 : xokC 43 = true := by decide +kernel
theorem xkC44 : xokC 44 = true := by decide +kernel
theorem xkC45 : xokC 45 = true := by decide +kernel
theorem xkC46 : xokC 46 = true := by decide +kernel
theorem xkC47 : xokC 47 = true := by decide +kernel
theorem xkC48 : xokC 48 = true := by decide +kernel
theorem xkC49 : xokC 49 = true := by decide +kernel
theorem xkC50 : xokC 50 = true := by decide +kernel
theorem xkC51 : xokC 51 = true := by decide +kernel
theorem xkC52 : xokC 52 = true := by decide +kernel
theorem xkC53 : xokC 53 = true := by decide +kernel
theorem xkC54 : xokC 54 = true := by decide +kernel
theorem xkC55 : xokC 55 = true := by decide +kernel
theorem xkC56 : xokC 56 = true := by decide +kernel
theorem xkC57 : xokC 57 = true := by decide +kernel
theorem xkC58 : xokC 58 = true := by decide +kernel
theorem xkC59 : xokC 59 = true := by decide +kernel
theorem xkC60 : xokC 60 = true := by decide +kernel
theorem xkC61 : xokC 61 = true := by decide +kernel
theorem xkC62 : xokC 62 = true := by decide +kernel
theorem xkC63 : xokC 63 = true := by decide +kernel
theorem xkC64 : xokC 64 = true := by decide +kernel
theorem xkC65 : xokC 65 = true := by decide +kernel
theorem xkC66 : xokC 66 = true := by decide +kernel
theorem xkC67 : xokC 67 = true := by decide +kernel
theorem xkC68 : xokC 68 = true := by decide +kernel
theorem xkC69 : xokC 69 = true := by decide +kernel
theorem xkC70 : xokC 70 = true := by decide +kernel
theorem xkC71 : xokC 71 = true := by decide +kernel
theorem xkC72 : xokC 72 = true := by decide +kernel
theorem xkC73 : xokC 73 = true := by decide +kernel
theorem xkC74 : xokC 74 = true := by decide +kernel
theorem xkC75 : xokC 75 = true := by decide +kernel
theorem xkC76 : xokC 76 = true := by decide +kernel
theorem xkC77 : xokC 77 = true := by decide +kernel
theorem xkC78 : xokC 78 = true := by decide +kernel
theorem xkC79 : xokC 79 = true := by decide +kernel
theorem xkC80 : xokC 80 = true := by decide +kernel
theorem xkC81 : xokC 81 = true := by decide +kernel
theorem xkC82 : xokC 82 = true := by decide +kernel
theorem xkC83 : xokC 83 = true := by decide +kernel
theorem xkC84 : xokC 84 = true := by decide +kernel
theorem xkC85 : xokC 85 = true := by decide +kernel
theorem xkC86 : xokC 86 = true := by decide +kernel
end
section
theorem xkC87 : xokC 87 = true := by decide +kernel
theorem xkC88 : xokC 88 = true := by decide +kernel
theorem xkC89 : xokC 89 = true := by decide +kernel
theorem xkC90 : xokC 90 = true := by decide +kernel
theorem xkC91 : xokC 91 = true := by decide +kernel
theorem xkC92 : xokC 92 = true := by decide +kernel
theorem xkC93 : xokC 93 = true := by decide +kernel
theorem xkC94 : xokC 94 = true := by decide +kernel
theorem xkC95 : xokC 95 = true := by decide +kernel
theorem xkC96 : xokC 96 = true := by decide +kernel
theorem xkC97 : xokC 97 = true := by decide +kernel
theorem xkC98 : xokC 98 = true := by decide +kernel
theorem xkC99 : xokC 99 = true := by decide +kernel
theorem xkC100 : xokC 100 = true := by decide +kernel
theorem xkC101 : xokC 101 = true := by decide +kernel
theorem xkC102 : xokC 102 = true := by decide +kernel
theorem xkC103 : xokC 103 = true := by decide +kernel
theorem xkC104 : xokC 104 = true := by decide +kernel
theorem xkC105 : xokC 105 = true := by decide +kernel
theorem xkC106 : xokC 106 = true := by decide +kernel
theorem xkC107 : xokC 107 = true := by decide +kernel
theorem xkC108 : xokC 108 = true := by decide +kernel
theorem xkC109 : xokC 109 = true := by decide +kernel
theorem xkC110 : xokC 110 = true := by decide +kernel
theorem xkC111 : xokC 111 = true := by decide +kernel
theorem xkC112 : xokC 112 = true := by decide +kernel
theorem xkC113 : xokC 113 = true := by decide +kernel
theorem xkC114 : xokC 114 = true := by decide +kernel
theorem xkC115 : xokC 115 = true := by decide +kernel
theorem xkC116 : xokC 116 = true := by decide +kernel
theorem xkC117 : xokC 117 = true := by decide +kernel
theorem xkC118 : xokC 118 = true := by decide +kernel
theorem xkC119 : xokC 119 = true := by decide +kernel
theorem xkC120 : xokC 120 = true := by decide +kernel
theorem xkC121 : xokC 121 = true := by decide +kernel
theorem xkC122 : xokC 122 = true := by decide +kernel
theorem xkC123 : xokC 123 = true := by decide +kernel
theorem xkC124 : xokC 124 = true := by decide +kernel
theorem xkC125 : xokC 125 = true := by decide +kernel
theorem xkC126 : xokC 126 = true := by decide +kernel
theorem xkC127 : xokC 127 = true := by decide +kernel
theorem xkC128 : xokC 128 = true := by decide +kernel
theorem xkC129 : xokC 129 = true := by decide +kernel
theorem xkC130 : xokC 130 = true := by decide +kernel
theorem xkC131 : xokC 131 = true := by decide +kernel
theorem xkC132 : xokC 132 = true := by decide +kernel
theorem xkC133 : xokC 133 = true := by decide +kernel
theorem xkC134 : xokC 134 = true := by decide +kernel
theorem xkC135 : xokC 135 = true := by decide +kernel
theorem xkC136 : xokC 136 = true := by decide +kernel
theorem xkC137 : xokC 137 = true := by decide +kernel
theorem xkC138 : xokC 138 = true := by decide +kernel
theorem xkC139 : xokC 139 = true := by decide +kernel
theorem xkC140 : xokC 140 = true := by decide +kernel
theorem xkC141 : xokC 141 = true := by decide +kernel
theorem xkC142 : xokC 142 = true := by decide +kernel
theorem xkC143 : xokC 143 = true := by decide +kernel
theorem xkC144 : xokC 144 = true := by decide +kernel
theorem xkC145 : xokC 145 = true := by decide +kernel
theorem xkC146 : xokC 146 = true := by decide +kernel
theorem xkC147 : xokC 147 = true := by decide +kernel
theorem xkC148 : xokC 148 = true := by decide +kernel
theorem xkC149 : xokC 149 = true := by decide +kernel
theorem xkC150 : xokC 150 = true := by decide +kernel
theorem xkC151 : xokC 151 = true := by decide +kernel
theorem xkC152 : xokC 152 = true := by decide +kernel
theorem xkC153 : xokC 153 = true := by decide +kernel
theorem xkC154 : xokC 154 = true := by decide +kernel
theorem xkC155 : xokC 155 = true := by decide +kernel
theorem xkC156 : xokC 156 = true := by decide +kernel
theorem xkC157 : xokC 157 = true := by decide +kernel
theorem xkC158 : xokC 158 = true := by decide +kernel
theorem xkC159 : xokC 159 = true := by decide +kernel
theorem xkC160 : xokC 160 = true := by decide +kernel
theorem xkC161 : xokC 161 = true := by decide +kernel
theorem xkC162 : xokC 162 = true := by decide +kernel
theorem xkC163 : xokC 163 = true := by decide +kernel
theorem xkC164 : xokC 164 = true := by decide +kernel
theorem xkC165 : xokC 165 = true := by decide +kernel
theorem xkC166 : xokC 166 = true := by decide +kernel
theorem xkC167 : xokC 167 = true := by decide +kernel
theorem xkC168 : xokC 168 = true := by decide +kernel
theorem xkC169 : xokC 169 = true := by decide +kernel
theorem xkC170 : xokC 170 = true := by decide +kernel
theorem xkC171 : xokC 171 = true := by decide +kernel
theorem xkC172 : xokC 172 = true := by decide +kernel
end
section
theorem xkA0 : ∀ g, g < 16 → xokG 0 g = true
  | 0, _ => xk0_0
  | 1, _ => xk0_1
  | 2, _ => xk0_2
  | 3, _ => xk0_3
  | 4, _ => xk0_4
  | 5, _ => xk0_5
  | 6, _ => xk0_6
  | 7, _ => xk0_7
  | 8, _ => xk0_8
  | 9, _ => xk0_9
  | 10, _ => xk0_10
  | 11, _ => xk0_11
  | 12, _ => xk0_12
  | 13, _ => xk0_13
  | 14, _ => xk0_14
  | 15, _ => xk0_15
  | g + 16, h => absurd h (by omega)
theorem xkA1 : ∀ g, g < 1 → xokG 1 g = true
  | 0, _ => xk1_0
  | g + 1, h => absurd h (by omega)
theorem xkA2 : ∀ g, g < 1 → xokG 2 g = true
  | 0, _ => xk2_0
  | g + 1, h => absurd h (by omega)
theorem xkA3 : ∀ g, g < 2 → xokG 3 g = true
  | 0, _ => xk3_0
  | 1, _ => xk3_1
  | g + 2, h => absurd h (by omega)
theorem xkA4 : ∀ g, g < 1 → xokG 4 g = true
  | 0, _ => xk4_0
  | g + 1, h => absurd h (by omega)
theorem xkA5 : ∀ g, g < 1 → xokG 5 g = true
  | 0, _ => xk5_0
  | g + 1, h => absurd h (by omega)
theorem xkA6 : ∀ g, g < 2 → xokG 6 g = true
  | 0, _ => xk6_0
  | 1, _ => xk6_1
  | g + 2, h => absurd h (by omega)
theorem xkA7 : ∀ g, g < 1 → xokG 7 g = true
  | 0, _ => xk7_0
  | g + 1, h => absurd h (by omega)
theorem xkA8 : ∀ g, g < 1 → xokG 8 g = true
  | 0, _ => xk8_0
  | g + 1, h => absurd h (by omega)
theorem xkA9 : ∀ g, g < 1 → xokG 9 g = true
  | 0, _ => xk9_0
  | g + 1, h => absurd h (by omega)
theorem xkA10 : ∀ g, g < 1 → xokG 10 g = true
  | 0, _ => xk10_0
  | g + 1, h => absurd h (by omega)
theorem xkA11 : ∀ g, g < 1 → xokG 11 g = true
  | 0, _ => xk11_0
  | g + 1, h => absurd h (by omega)
theorem xkA12 : ∀ g, g < 2 → xokG 12 g = true
  | 0, _ => xk12_0
  | 1, _ => xk12_1
  | g + 2, h => absurd h (by omega)
theorem xkA13 : ∀ g, g < 1 → xokG 13 g = true
  | 0, _ => xk13_0
  | g + 1, h => absurd h (by omega)
theorem xkA14 : ∀ g, g < 1 → xokG 14 g = true
  | 0, _ => xk14_0
  | g + 1, h => absurd h (by omega)
theorem xkA15 : ∀ g, g < 1 → xokG 15 g = true
  | 0, _ => xk15_0
  | g + 1, h => absurd h (by omega)
theorem xkA16 : ∀ g, g < 1 → xokG 16 g = true
  | 0, _ => xk16_0
  | g + 1, h => absurd h (by omega)
theorem xkA17 : ∀ g, g < 1 → xokG 17 g = true
  | 0, _ => xk17_0
  | g + 1, h => absurd h (by omega)
theorem xkA18 : ∀ g, g < 1 → xokG 18 g = true
  | 0, _ => xk18_0
  | g + 1, h => absurd h (by omega)
theorem xkA19 : ∀ g, g < 1 → xokG 19 g = true
  | 0, _ => xk19_0
  | g + 1, h => absurd h (by omega)
theorem xkA20 : ∀ g, g < 2 → xokG 20 g = true
  | 0, _ => xk20_0
  | 1, _ => xk20_1
  | g + 2, h => absurd h (by omega)
theorem xkA21 : ∀ g, g < 1 → xokG 21 g = true
  | 0, _ => xk21_0
  | g + 1, h => absurd h (by omega)
theorem xkA22 : ∀ g, g < 1 → xokG 22 g = true
  | 0, _ => xk22_0
  | g + 1, h => absurd h (by omega)
theorem xkA23 : ∀ g, g < 1 → xokG 23 g = true
  | 0, _ => xk23_0
  | g + 1, h => absurd h (by omega)
theorem xkA24 : ∀ g, g < 1 → xokG 24 g = true
  | 0, _ => xk24_0
  | g + 1, h => absurd h (by omega)
theorem xkA25 : ∀ g, g < 1 → xokG 25 g = true
  | 0, _ => xk25_0
  | g + 1, h => absurd h (by omega)
theorem xkA26 : ∀ g, g < 1 → xokG 26 g = true
  | 0, _ => xk26_0
  | g + 1, h => absurd h (by omega)
theorem xkA27 : ∀ g, g < 1 → xokG 27 g = true
  | 0, _ => xk27_0
  | g + 1, h => absurd h (by omega)
theorem xkA28 : ∀ g, g < 1 → xokG 28 g = true
  | 0, _ => xk28_0
  | g + 1, h => absurd h (by omega)
theorem xkA29 : ∀ g, g < 1 → xokG 29 g = true
  | 0, _ => xk29_0
  | g + 1, h => absurd h (by omega)
theorem xkA30 : ∀ g, g < 1 → xokG 30 g = true
  | 0, _ => xk30_0
  | g + 1, h => absurd h (by omega)
theorem xkA31 : ∀ g, g < 2 → xokG 31 g = true
  | 0, _ => xk31_0
  | 1, _ => xk31_1
  | g + 2, h => absurd h (by omega)
theorem xkA32 : ∀ g, g < 1 → xokG 32 g = true
  | 0, _ => xk32_0
  | g + 1, h => absurd h (by omega)
theorem xkA33 : ∀ g, g < 1 → xokG 33 g = true
  | 0, _ => xk33_0
  | g + 1, h => absurd h (by omega)
theorem xkA34 : ∀ g, g < 1 → xokG 34 g = true
  | 0, _ => xk34_0
  | g + 1, h => absurd h (by omega)
theorem xkA35 : ∀ g, g < 1 → xokG 35 g = true
  | 0, _ => xk35_0
  | g + 1, h => absurd h (by omega)
theorem xkA36 : ∀ g, g < 1 → xokG 36 g = true
  | 0, _ => xk36_0
  | g + 1, h => absurd h (by omega)
theorem xkA37 : ∀ g, g < 1 → xokG 37 g = true
  | 0, _ => xk37_0
  | g + 1, h => absurd h (by omega)
theorem xkA38 : ∀ g, g < 1 → xokG 38 g = true
  | 0, _ => xk38_0
  | g + 1, h => absurd h (by omega)
theorem xkA39 : ∀ g, g < 1 → xokG 39 g = true
  | 0, _ => xk39_0
  | g + 1, h => absurd h (by omega)
theorem xkA40 : ∀ g, g < 2 → xokG 40 g = true
  | 0, _ => xk40_0
  | 1, _ => xk40_1
  | g + 2, h => absurd h (by omega)
theorem xkA41 : ∀ g, g < 1 → xokG 41 g = true
  | 0, _ => xk41_0
  | g + 1, h => absurd h (by omega)
theorem xkA42 : ∀ g, g < 2 → xokG 42 g = true
  | 0, _ => xk42_0
  | 1, _ => xk42_1
  | g + 2, h => absurd h (by omega)
theorem xkA43 : ∀ g, g < 1 → xokG 43 g = true
  | 0, _ => xk43_0
  | g + 1, h => absurd h (by omega)
theorem xkA44 : ∀ g, g < 1 → xokG 44 g = true
  | 0, _ => xk44_0
  | g + 1, h => absurd h (by omega)
theorem xkA45 : ∀ g, g < 1 → xokG 45 g = true
  | 0, _ => xk45_0
  | g + 1, h => absurd h (by omega)
theorem xkA46 : ∀ g, g < 1 → xokG 46 g = true
  | 0, _ => xk46_0
  | g + 1, h => absurd h (by omega)
theorem xkA47 : ∀ g, g < 1 → xokG 47 g = true
  | 0, _ => xk47_0
  | g + 1, h => absurd h (by omega)
theorem xkA48 : ∀ g, g < 1 → xokG 48 g = true
  | 0, _ => xk48_0
  | g + 1, h => absurd h (by omega)
theorem xkA49 : ∀ g, g < 1 → xokG 49 g = true
  | 0, _ => xk49_0
  | g + 1, h => absurd h (by omega)
theorem xkA50 : ∀ g, g < 1 → xokG 50 g = true
  | 0, _ => xk50_0
  | g + 1, h => absurd h (by omega)
theorem xkA51 : ∀ g, g < 1 → xokG 51 g = true
  | 0, _ => xk51_0
  | g + 1, h => absurd h (by omega)
theorem xkA52 : ∀ g, g < 1 → xokG 52 g = true
  | 0, _ => xk52_0
  | g + 1, h => absurd h (by omega)
theorem xkA53 : ∀ g, g < 1 → xokG 53 g = true
  | 0, _ => xk53_0
  | g + 1, h => absurd h (by omega)
theorem xkA54 : ∀ g, g < 1 → xokG 54 g = true
  | 0, _ => xk54_0
  | g + 1, h => absurd h (by omega)
theorem xkA55 : ∀ g, g < 1 → xokG 55 g = true
  | 0, _ => xk55_0
  | g + 1, h => absurd h (by omega)
theorem xkA56 : ∀ g, g < 1 → xokG 56 g = true
  | 0, _ => xk56_0
  | g + 1, h => absurd h (by omega)
theorem xkA57 : ∀ g, g < 1 → xokG 57 g = true
  | 0, _ => xk57_0
  | g + 1, h => absurd h (by omega)
theorem xkA58 : ∀ g, g < 1 → xokG 58 g = true
  | 0, _ => xk58_0
  | g + 1, h => absurd h (by omega)
theorem xkA59 : ∀ g, g < 1 → xokG 59 g = true
  | 0, _ => xk59_0
  | g + 1, h => absurd h (by omega)
theorem xkA60 : ∀ g, g < 1 → xokG 60 g = true
  | 0, _ => xk60_0
  | g + 1, h => absurd h (by omega)
theorem xkA61 : ∀ g, g < 1 → xokG 61 g = true
  | 0, _ => xk61_0
  | g + 1, h => absurd h (by omega)
theorem xkA62 : ∀ g, g < 1 → xokG 62 g = true
  | 0, _ => xk62_0
  | g + 1, h => absurd h (by omega)
theorem xkA63 : ∀ g, g < 1 → xokG 63 g = true
  | 0, _ => xk63_0
  | g + 1, h => absurd h (by omega)
theorem xkA64 : ∀ g, g < 1 → xokG 64 g = true
  | 0, _ => xk64_0
  | g + 1, h => absurd h (by omega)
theorem xkA65 : ∀ g, g < 1 → xokG 65 g = true
  | 0, _ => xk65_0
  | g + 1, h => absurd h (by omega)
theorem xkA66 : ∀ g, g < 1 → xokG 66 g = true
  | 0, _ => xk66_0
  | g + 1, h => absurd h (by omega)
theorem xkA67 : ∀ g, g < 1 → xokG 67 g = true
  | 0, _ => xk67_0
  | g + 1, h => absurd h (by omega)
theorem xkA68 : ∀ g, g < 1 → xokG 68 g = true
  | 0, _ => xk68_0
  | g + 1, h => absurd h (by omega)
theorem xkA69 : ∀ g, g < 1 → xokG 69 g = true
  | 0, _ => xk69_0
  | g + 1, h => absurd h (by omega)
theorem xkA70 : ∀ g, g < 1 → xokG 70 g = true
  | 0, _ => xk70_0
  | g + 1, h => absurd h (by omega)
theorem xkA71 : ∀ g, g < 2 → xokG 71 g = true
  | 0, _ => xk71_0
  | 1, _ => xk71_1
  | g + 2, h => absurd h (by omega)
theorem xkA72 : ∀ g, g < 1 → xokG 72 g = true
  | 0, _ => xk72_0
  | g + 1, h => absurd h (by omega)
theorem xkA73 : ∀ g, g < 1 → xokG 73 g = true
  | 0, _ => xk73_0
  | g + 1, h => absurd h (by omega)
theorem xkA74 : ∀ g, g < 1 → xokG 74 g = true
  | 0, _ => xk74_0
  | g + 1, h => absurd h (by omega)
theorem xkA75 : ∀ g, g < 1 → xokG 75 g = true
  | 0, _ => xk75_0
  | g + 1, h => absurd h (by omega)
theorem xkA76 : ∀ g, g < 1 → xokG 76 g = true
  | 0, _ => xk76_0
  | g + 1, h => absurd h (by omega)
theorem xkA77 : ∀ g, g < 1 → xokG 77 g = true
  | 0, _ => xk77_0
  | g + 1, h => absurd h (by omega)
theorem xkA78 : ∀ g, g < 1 → xokG 78 g = true
  | 0, _ => xk78_0
  | g + 1, h => absurd h (by omega)
theorem xkA79 : ∀ g, g < 1 → xokG 79 g = true
  | 0, _ => xk79_0
  | g + 1, h => absurd h (by omega)
theorem xkA80 : ∀ g, g < 1 → xokG 80 g = true
  | 0, _ => xk80_0
  | g + 1, h => absurd h (by omega)
theorem xkA81 : ∀ g, g < 1 → xokG 81 g = true
  | 0, _ => xk81_0
  | g + 1, h => absurd h (by omega)
theorem xkA82 : ∀ g, g < 1 → xokG 82 g = true
  | 0, _ => xk82_0
  | g + 1, h => absurd h (by omega)
theorem xkA83 : ∀ g, g < 1 → xokG 83 g = true
  | 0, _ => xk83_0
  | g + 1, h => absurd h (by omega)
theorem xkA84 : ∀ g, g < 1 → xokG 84 g = true
  | 0, _ => xk84_0
  | g + 1, h => absurd h (by omega)
theorem xkA85 : ∀ g, g < 1 → xokG 85 g = true
  | 0, _ => xk85_0
  | g + 1, h => absurd h (by omega)
theorem xkA86 : ∀ g, g < 1 → xokG 86 g = true
  | 0, _ => xk86_0
  | g + 1, h => absurd h (by omega)
theorem xkA87 : ∀ g, g < 1 → xokG 87 g = true
  | 0, _ => xk87_0
  | g + 1, h => absurd h (by omega)
theorem xkA88 : ∀ g, g < 1 → xokG 88 g = true
  | 0, _ => xk88_0
  | g + 1, h => absurd h (by omega)
theorem xkA89 : ∀ g, g < 1 → xokG 89 g = true
  | 0, _ => xk89_0
  | g + 1, h => absurd h (by omega)
theorem xkA90 : ∀ g, g < 1 → xokG 90 g = true
  | 0, _ => xk90_0
  | g + 1, h => absurd h (by omega)
theorem xkA91 : ∀ g, g < 1 → xokG 91 g = true
  | 0, _ => xk91_0
  | g + 1, h => absurd h (by omega)
theorem xkA92 : ∀ g, g < 1 → xokG 92 g = true
  | 0, _ => xk92_0
  | g + 1, h => absurd h (by omega)
theorem xkA93 : ∀ g, g < 1 → xokG 93 g = true
  | 0, _ => xk93_0
  | g + 1, h => absurd h (by omega)
theorem xkA94 : ∀ g, g < 1 → xokG 94 g = true
  | 0, _ => xk94_0
  | g + 1, h => absurd h (by omega)
theorem xkA95 : ∀ g, g < 1 → xokG 95 g = true
  | 0, _ => xk95_0
  | g + 1, h => absurd h (by omega)
theorem xkA96 : ∀ g, g < 1 → xokG 96 g = true
  | 0, _ => xk96_0
  | g + 1, h => absurd h (by omega)
theorem xkA97 : ∀ g, g < 1 → xokG 97 g = true
  | 0, _ => xk97_0
  | g + 1, h => absurd h (by omega)
theorem xkA98 : ∀ g, g < 1 → xokG 98 g = true
  | 0, _ => xk98_0
  | g + 1, h => absurd h (by omega)
theorem xkA99 : ∀ g, g < 2 → xokG 99 g = true
  | 0, _ => xk99_0
  | 1, _ => xk99_1
  | g + 2, h => absurd h (by omega)
theorem xkA100 : ∀ g, g < 1 → xokG 100 g = true
  | 0, _ => xk100_0
  | g + 1, h => absurd h (by omega)
theorem xkA101 : ∀ g, g < 1 → xokG 101 g = true
  | 0, _ => xk101_0
  | g + 1, h => absurd h (by omega)
theorem xkA102 : ∀ g, g < 1 → xokG 102 g = true
  | 0, _ => xk102_0
  | g + 1, h => absurd h (by omega)
theorem xkA103 : ∀ g, g < 1 → xokG 103 g = true
  | 0, _ => xk103_0
  | g + 1, h => absurd h (by omega)
theorem xkA104 : ∀ g, g < 1 → xokG 104 g = true
  | 0, _ => xk104_0
  | g + 1, h => absurd h (by omega)
theorem xkA105 : ∀ g, g < 1 → xokG 105 g = true
  | 0, _ => xk105_0
  | g + 1, h => absurd h (by omega)
theorem xkA106 : ∀ g, g < 1 → xokG 106 g = true
  | 0, _ => xk106_0
  | g + 1, h => absurd h (by omega)
theorem xkA107 : ∀ g, g < 1 → xokG 107 g = true
  | 0, _ => xk107_0
  | g + 1, h => absurd h (by omega)
theorem xkA108 : ∀ g, g < 1 → xokG 108 g = true
  | 0, _ => xk108_0
  | g + 1, h => absurd h (by omega)
theorem xkA109 : ∀ g, g < 1 → xokG 109 g = true
  | 0, _ => xk109_0
  | g + 1, h => absurd h (by omega)
theorem xkA110 : ∀ g, g < 2 → xokG 110 g = true
  | 0, _ => xk110_0
  | 1, _ => xk110_1
  | g + 2, h => absurd h (by omega)
theorem xkA111 : ∀ g, g < 1 → xokG 111 g = true
  | 0, _ => xk111_0
  | g + 1, h => absurd h (by omega)
theorem xkA112 : ∀ g, g < 2 → xokG 112 g = true
  | 0, _ => xk112_0
  | 1, _ => xk112_1
  | g + 2, h => absurd h (by omega)
theorem xkA113 : ∀ g, g < 1 → xokG 113 g = true
  | 0, _ => xk113_0
  | g + 1, h => absurd h (by omega)
theorem xkA114 : ∀ g, g < 1 → xokG 114 g = true
  | 0, _ => xk114_0
  | g + 1, h => absurd h (by omega)
theorem xkA115 : ∀ g, g < 1 → xokG 115 g = true
  | 0, _ => xk115_0
  | g + 1, h => absurd h (by omega)
theorem xkA116 : ∀ g, g < 1 → xokG 116 g = true
  | 0, _ => xk116_0
  | g + 1, h => absurd h (by omega)
theorem xkA117 : ∀ g, g < 2 → xokG 117 g = true
  | 0, _ => xk117_0
  | 1, _ => xk117_1
  | g + 2, h => absurd h (by omega)
theorem xkA118 : ∀ g, g < 1 → xokG 118 g = true
  | 0, _ => xk118_0
  | g + 1, h => absurd h (by omega)
theorem xkA119 : ∀ g, g < 2 → xokG 119 g = true
  | 0, _ => xk119_0
  | 1, _ => xk119_1
  | g + 2, h => absurd h (by omega)
theorem xkA120 : ∀ g, g < 1 → xokG 120 g = true
  | 0, _ => xk120_0
  | g + 1, h => absurd h (by omega)
theorem xkA121 : ∀ g, g < 1 → xokG 121 g = true
  | 0, _ => xk121_0
  | g + 1, h => absurd h (by omega)
theorem xkA122 : ∀ g, g < 2 → xokG 122 g = true
  | 0, _ => xk122_0
  | 1, _ => xk122_1
  | g + 2, h => absurd h (by omega)
theorem xkA123 : ∀ g, g < 3 → xokG 123 g = true
  | 0, _ => xk123_0
  | 1, _ => xk123_1
  | 2, _ => xk123_2
  | g + 3, h => absurd h (by omega)
theorem xkA124 : ∀ g, g < 2 → xokG 124 g = true
  | 0, _ => xk124_0
  | 1, _ => xk124_1
  | g + 2, h => absurd h (by omega)
theorem xkA125 : ∀ g, g < 1 → xokG 125 g = true
  | 0, _ => xk125_0
  | g + 1, h => absurd h (by omega)
theorem xkA126 : ∀ g, g < 2 → xokG 126 g = true
  | 0, _ => xk126_0
  | 1, _ => xk126_1
  | g + 2, h => absurd h (by omega)
theorem xkA127 : ∀ g, g < 2 → xokG 127 g = true
  | 0, _ => xk127_0
  | 1, _ => xk127_1
  | g + 2, h => absurd h (by omega)
theorem xkA128 : ∀ g, g < 1 → xokG 128 g = true
  | 0, _ => xk128_0
  | g + 1, h => absurd h (by omega)
theorem xkA129 : ∀ g, g < 2 → xokG 129 g = true
  | 0, _ => xk129_0
  | 1, _ => xk129_1
  | g + 2, h => absurd h (by omega)
theorem xkA130 : ∀ g, g < 1 → xokG 130 g = true
  | 0, _ => xk130_0
  | g + 1, h => absurd h (by omega)
theorem xkA131 : ∀ g, g < 1 → xokG 131 g = true
  | 0, _ => xk131_0
  | g + 1, h => absurd h (by omega)
theorem xkA132 : ∀ g, g < 2 → xokG 132 g = true
  | 0, _ => xk132_0
  | 1, _ => xk132_1
  | g + 2, h => absurd h (by omega)
theorem xkA133 : ∀ g, g < 2 → xokG 133 g = true
  | 0, _ => xk133_0
  | 1, _ => xk133_1
  | g + 2, h => absurd h (by omega)
theorem xkA134 : ∀ g, g < 1 → xokG 134 g = true
  | 0, _ => xk134_0
  | g + 1, h => absurd h (by omega)
theorem xkA135 : ∀ g, g < 1 → xokG 135 g = true
  | 0, _ => xk135_0
  | g + 1, h => absurd h (by omega)
theorem xkA136 : ∀ g, g < 1 → xokG 136 g = true
  | 0, _ => xk136_0
  | g + 1, h => absurd h (by omega)
theorem xkA137 : ∀ g, g < 3 → xokG 137 g = true
  | 0, _ => xk137_0
  | 1, _ => xk137_1
  | 2, _ => xk137_2
  | g + 3, h => absurd h (by omega)
theorem xkA138 : ∀ g, g < 1 → xokG 138 g = true
  | 0, _ => xk138_0
  | g + 1, h => absurd h (by omega)
theorem xkA139 : ∀ g, g < 1 → xokG 139 g = true
  | 0, _ => xk139_0
  | g + 1, h => absurd h (by omega)
theorem xkA140 : ∀ g, g < 2 → xokG 140 g = true
  | 0, _ => xk140_0
  | 1, _ => xk140_1
  | g + 2, h => absurd h (by omega)
theorem xkA141 : ∀ g, g < 1 → xokG 141 g = true
  | 0, _ => xk141_0
  | g + 1, h => absurd h (by omega)
theorem xkA142 : ∀ g, g < 1 → xokG 142 g = true
  | 0, _ => xk142_0
  | g + 1, h => absurd h (by omega)
theorem xkA143 : ∀ g, g < 1 → xokG 143 g = true
  | 0, _ => xk143_0
  | g + 1, h => absurd h (by omega)
theorem xkA144 : ∀ g, g < 2 → xokG 144 g = true
  | 0, _ => xk144_0
  | 1, _ => xk144_1
  | g + 2, h => absurd h (by omega)
theorem xkA145 : ∀ g, g < 3 → xokG 145 g = true
  | 0, _ => xk145_0
  | 1, _ => xk145_1
  | 2, _ => xk145_2
  | g + 3, h => absurd h (by omega)
theorem xkA146 : ∀ g, g < 2 → xokG 146 g = true
  | 0, _ => xk146_0
  | 1, _ => xk146_1
  | g + 2, h => absurd h (by omega)
theorem xkA147 : ∀ g, g < 1 → xokG 147 g = true
  | 0, _ => xk147_0
  | g + 1, h => absurd h (by omega)
theorem xkA148 : ∀ g, g < 1 → xokG 148 g = true
  | 0, _ => xk148_0
  | g + 1, h => absurd h (by omega)
theorem xkA149 : ∀ g, g < 1 → xokG 149 g = true
  | 0, _ => xk149_0
  | g + 1, h => absurd h (by omega)
theorem xkA150 : ∀ g, g < 1 → xokG 150 g = true
  | 0, _ => xk150_0
  | g + 1, h => absurd h (by omega)
theorem xkA151 : ∀ g, g < 3 → xokG 151 g = true
  | 0, _ => xk151_0
  | 1, _ => xk151_1
  | 2, _ => xk151_2
  | g + 3, h => absurd h (by omega)
theorem xkA152 : ∀ g, g < 1 → xokG 152 g = true
  | 0, _ => xk152_0
  | g + 1, h => absurd h (by omega)
theorem xkA153 : ∀ g, g < 3 → xokG 153 g = true
  | 0, _ => xk153_0
  | 1, _ => xk153_1
  | 2, _ => xk153_2
  | g + 3, h => absurd h (by omega)
theorem xkA154 : ∀ g, g < 1 → xokG 154 g = true
  | 0, _ => xk154_0
  | g + 1, h => absurd h (by omega)
theorem xkA155 : ∀ g, g < 2 → xokG 155 g = true
  | 0, _ => xk155_0
  | 1, _ => xk155_1
  | g + 2, h => absurd h (by omega)
theorem xkA156 : ∀ g, g < 1 → xokG 156 g = true
  | 0, _ => xk156_0
  | g + 1, h => absurd h (by omega)
theorem xkA157 : ∀ g, g < 1 → xokG 157 g = true
  | 0, _ => xk157_0
  | g + 1, h => absurd h (by omega)
theorem xkA158 : ∀ g, g < 1 → xokG 158 g = true
  | 0, _ => xk158_0
  | g + 1, h => absurd h (by omega)
theorem xkA159 : ∀ g, g < 1 → xokG 159 g = true
  | 0, _ => xk159_0
  | g + 1, h => absurd h (by omega)
theorem xkA160 : ∀ g, g < 1 → xokG 160 g = true
  | 0, _ => xk160_0
  | g + 1, h => absurd h (by omega)
theorem xkA161 : ∀ g, g < 1 → xokG 161 g = true
  | 0, _ => xk161_0
  | g + 1, h => absurd h (by omega)
theorem xkA162 : ∀ g, g < 1 → xokG 162 g = true
  | 0, _ => xk162_0
  | g + 1, h => absurd h (by omega)
theorem xkA163 : ∀ g, g < 1 → xokG 163 g = true
  | 0, _ => xk163_0
  | g + 1, h => absurd h (by omega)
theorem xkA164 : ∀ g, g < 1 → xokG 164 g = true
  | 0, _ => xk164_0
  | g + 1, h => absurd h (by omega)
theorem xkA165 : ∀ g, g < 2 → xokG 165 g = true
  | 0, _ => xk165_0
  | 1, _ => xk165_1
  | g + 2, h => absurd h (by omega)
theorem xkA166 : ∀ g, g < 1 → xokG 166 g = true
  | 0, _ => xk166_0
  | g + 1, h => absurd h (by omega)
theorem xkA167 : ∀ g, g < 1 → xokG 167 g = true
  | 0, _ => xk167_0
  | g + 1, h => absurd h (by omega)
theorem xkA168 : ∀ g, g < 1 → xokG 168 g = true
  | 0, _ => xk168_0
  | g + 1, h => absurd h (by omega)
theorem xkA169 : ∀ g, g < 1 → xokG 169 g = true
  | 0, _ => xk169_0
  | g + 1, h => absurd h (by omega)
theorem xkA170 : ∀ g, g < 1 → xokG 170 g = true
  | 0, _ => xk170_0
  | g + 1, h => absurd h (by omega)
theorem xkA171 : ∀ g, g < 1 → xokG 171 g = true
  | 0, _ => xk171_0
  | g + 1, h => absurd h (by omega)
theorem xkA172 : ∀ g, g < 1 → xokG 172 g = true
  | 0, _ => xk172_0
  | g + 1, h => absurd h (by omega)
theorem xokG_all {M k : Nat} (hk : (xcs M).length ≤ 4 * k) (h : ∀ g, g < k → xokG M g = true) : (xcs M).all (fun c => c.all (fun e => xokI M (xYf M).cls (xccf M) e)) = true := by
  rw [List.all_eq_true]
  intro c hc
  obtain ⟨i, hi⟩ := List.getElem?_of_mem hc
  have hlt : i < (xcs M).length := (List.getElem?_eq_some_iff.mp hi).1
  have h1 := h (i / 4) (by omega)
  unfold xokG at h1
  rw [List.all_eq_true] at h1
  refine h1 c (List.mem_of_getElem? (i := i % 4) ?_)
  rw [List.getElem?_take_of_lt (Nat.mod_lt _ (by decide)), List.getElem?_drop, show 4 * (i / 4) + i % 4 = i by omega]
  exact hi
theorem xkN : ∀ M, M < 173 → (xcs M).all (fun c => c.all (fun e => xokI M (xYf M).cls (xccf M) e)) = true
  | 0, _ => xokG_all (k := 16) (by decide +kernel) xkA0
  | 1, _ => xokG_all (k := 1) (by decide +kernel) xkA1
  | 2, _ => xokG_all (k := 1) (by decide +kernel) xkA2
  | 3, _ => xokG_all (k := 2) (by decide +kernel) xkA3
  | 4, _ => xokG_all (k := 1) (by decide +kernel) xkA4
  | 5, _ => xokG_all (k := 1) (by decide +kernel) xkA5
  | 6, _ => xokG_all (k := 2) (by decide +kernel) xkA6
  | 7, _ => xokG_all (k := 1) (by decide +kernel) xkA7
  | 8, _ => xokG_all (k := 1) (by decide +kernel) xkA8
  | 9, _ => xokG_all (k := 1) (by decide +kernel) xkA9
  | 10, _ => xokG_all (k := 1) (by decide +kernel) xkA10
  | 11, _ => xokG_all (k := 1) (by decide +kernel) xkA11
  | 12, _ => xokG_all (k := 2) (by decide +kernel) xkA12
  | 13, _ => xokG_all (k := 1) (by decide +kernel) xkA13
  | 14, _ => xokG_all (k := 1) (by decide +kernel) xkA14
  | 15, _ => xokG_all (k := 1) (by decide +kernel) xkA15
  | 16, _ => xokG_all (k := 1) (by decide +kernel) xkA16
  | 17, _ => xokG_all (k := 1) (by decide +kernel) xkA17
  | 18, _ => xokG_all (k := 1) (by decide +kernel) xkA18
  | 19, _ => xokG_all (k := 1) (by decide +kernel) xkA19
  | 20, _ => xokG_all (k := 2) (by decide +kernel) xkA20
  | 21, _ => xokG_all (k := 1) (by decide +kernel) xkA21
  | 22, _ => xokG_all (k := 1) (by decide +kernel) xkA22
  | 23, _ => xokG_all (k := 1) (by decide +kernel) xkA23
  | 24, _ => xokG_all (k := 1) (by decide +kernel) xkA24
  | 25, _ => xokG_all (k := 1) (by decide +kernel) xkA25
  | 26, _ => xokG_all (k := 1) (by decide +kernel) xkA26
  | 27, _ => xokG_all (k := 1) (by decide +kernel) xkA27
  | 28, _ => xokG_all (k := 1) (by decide +kernel) xkA28
  | 29, _ => xokG_all (k := 1) (by decide +kernel) xkA29
  | 30, _ => xokG_all (k := 1) (by decide +kernel) xkA30
  | 31, _ => xokG_all (k := 2) (by decide +kernel) xkA31
  | 32, _ => xokG_all (k := 1) (by decide +kernel) xkA32
  | 33, _ => xokG_all (k := 1) (by decide +kernel) xkA33
  | 34, _ => xokG_all (k := 1) (by decide +kernel) xkA34
  | 35, _ => xokG_all (k := 1) (by decide +kernel) xkA35
  | 36, _ => xokG_all (k := 1) (by decide +kernel) xkA36
  | 37, _ => xokG_all (k := 1) (by decide +kernel) xkA37
  | 38, _ => xokG_all (k := 1) (by decide +kernel) xkA38
  | 39, _ => xokG_all (k := 1) (by decide +kernel) xkA39
  | 40, _ => xokG_all (k := 2) (by decide +kernel) xkA40
  | 41, _ => xokG_all (k := 1) (by decide +kernel) xkA41
  | 42, _ => xokG_all (k := 2) (by decide +kernel) xkA42
  | 43, _ => xokG_all (k := 1) (by decide +kernel) xkA43
  | 44, _ => xokG_all (k := 1) (by decide +kernel) xkA44
  | 45, _ => xokG_all (k := 1) (by decide +kernel) xkA45
  | 46, _ => xokG_all (k := 1) (by decide +kernel) xkA46
  | 47, _ => xokG_all (k := 1) (by decide +kernel) xkA47
  | 48, _ => xokG_all (k := 1) (by decide +kernel) xkA48
  | 49, _ => xokG_all (k := 1) (by decide +kernel) xkA49
  | 50, _ => xokG_all (k := 1) (by decide +kernel) xkA50
  | 51, _ => xokG_all (k := 1) (by decide +kernel) xkA51
  | 52, _ => xokG_all (k := 1) (by decide +kernel) xkA52
  | 53, _ => xokG_all (k := 1) (by decide +kernel) xkA53
  | 54, _ => xokG_all (k := 1) (by decide +kernel) xkA54
  | 55, _ => xokG_all (k := 1) (by decide +kernel) xkA55
  | 56, _ => xokG_all (k := 1) (by decide +kernel) xkA56
  | 57, _ => xokG_all (k := 1) (by decide +kernel) xkA57
  | 58, _ => xokG_all (k := 1) (by decide +kernel) xkA58
  | 59, _ => xokG_all (k := 1) (by decide +kernel) xkA59
  | 60, _ => xokG_all (k := 1) (by decide +kernel) xkA60
  | 61, _ => xokG_all (k := 1) (by decide +kernel) xkA61
  | 62, _ => xokG_all (k := 1) (by decide +kernel) xkA62
  | 63, _ => xokG_all (k := 1) (by decide +kernel) xkA63
  | 64, _ => xokG_all (k := 1) (by decide +kernel) xkA64
  | 65, _ => xokG_all (k := 1) (by decide +kernel) xkA65
  | 66, _ => xokG_all (k := 1) (by decide +kernel) xkA66
  | 67, _ => xokG_all (k := 1) (by decide +kernel) xkA67
  | 68, _ => xokG_all (k := 1) (by decide +kernel) xkA68
  | 69, _ => xokG_all (k := 1) (by decide +kernel) xkA69
  | 70, _ => xokG_all (k := 1) (by decide +kernel) xkA70
  | 71, _ => xokG_all (k := 2) (by decide +kernel) xkA71
  | 72, _ => xokG_all (k := 1) (by decide +kernel) xkA72
  | 73, _ => xokG_all (k := 1) (by decide +kernel) xkA73
  | 74, _ => xokG_all (k := 1) (by decide +kernel) xkA74
  | 75, _ => xokG_all (k := 1) (by decide +kernel) xkA75
  | 76, _ => xokG_all (k := 1) (by decide +kernel) xkA76
  | 77, _ => xokG_all (k := 1) (by decide +kernel) xkA77
  | 78, _ => xokG_all (k := 1) (by decide +kernel) xkA78
  | 79, _ => xokG_all (k := 1) (by decide +kernel) xkA79
  | 80, _ => xokG_all (k := 1) (by decide +kernel) xkA80
  | 81, _ => xokG_all (k := 1) (by decide +kernel) xkA81
  | 82, _ => xokG_all (k := 1) (by decide +kernel) xkA82
  | 83, _ => xokG_all (k := 1) (by decide +kernel) xkA83
  | 84, _ => xokG_all (k := 1) (by decide +kernel) xkA84
  | 85, _ => xokG_all (k := 1) (by decide +kernel) xkA85
  | 86, _ => xokG_all (k := 1) (by decide +kernel) xkA86
  | 87, _ => xokG_all (k := 1) (by decide +kernel) xkA87
  | 88, _ => xokG_all (k := 1) (by decide +kernel) xkA88
  | 89, _ => xokG_all (k := 1) (by decide +kernel) xkA89
  | 90, _ => xokG_all (k := 1) (by decide +kernel) xkA90
  | 91, _ => xokG_all (k := 1) (by decide +kernel) xkA91
  | 92, _ => xokG_all (k := 1) (by decide +kernel) xkA92
  | 93, _ => xokG_all (k := 1) (by decide +kernel) xkA93
  | 94, _ => xokG_all (k := 1) (by decide +kernel) xkA94
  | 95, _ => xokG_all (k := 1) (by decide +kernel) xkA95
  | 96, _ => xokG_all (k := 1) (by decide +kernel) xkA96
  | 97, _ => xokG_all (k := 1) (by decide +kernel) xkA97
  | 98, _ => xokG_all (k := 1) (by decide +kernel) xkA98
  | 99, _ => xokG_all (k := 2) (by decide +kernel) xkA99
  | 100, _ => xokG_all (k := 1) (by decide +kernel) xkA100
  | 101, _ => xokG_all (k := 1) (by decide +kernel) xkA101
  | 102, _ => xokG_all (k := 1) (by decide +kernel) xkA102
  | 103, _ => xokG_all (k := 1) (by decide +kernel) xkA103
  | 104, _ => xokG_all (k := 1) (by decide +kernel) xkA104
  | 105, _ => xokG_all (k := 1) (by decide +kernel) xkA105
  | 106, _ => xokG_all (k := 1) (by decide +kernel) xkA106
  | 107, _ => xokG_all (k := 1) (by decide +kernel) xkA107
  | 108, _ => xokG_all (k := 1) (by decide +kernel) xkA108
  | 109, _ => xokG_all (k := 1) (by decide +kernel) xkA109
  | 110, _ => xokG_all (k := 2) (by decide +kernel) xkA110
  | 111, _ => xokG_all (k := 1) (by decide +kernel) xkA111
  | 112, _ => xokG_all (k := 2) (by decide +kernel) xkA112
  | 113, _ => xokG_all (k := 1) (by decide +kernel) xkA113
  | 114, _ => xokG_all (k := 1) (by decide +kernel) xkA114
  | 115, _ => xokG_all (k := 1) (by decide +kernel) xkA115
  | 116, _ => xokG_all (k := 1) (by decide +kernel) xkA116
  | 117, _ => xokG_all (k := 2) (by decide +kernel) xkA117
  | 118, _ => xokG_all (k := 1) (by decide +kernel) xkA118
  | 119, _ => xokG_all (k := 2) (by decide +kernel) xkA119
  | 120, _ => xokG_all (k := 1) (by decide +kernel) xkA120
  | 121, _ => xokG_all (k := 1) (by decide +kernel) xkA121
  | 122, _ => xokG_all (k := 2) (by decide +kernel) xkA122
  | 123, _ => xokG_all (k := 3) (by decide +kernel) xkA123
  | 124, _ => xokG_all (k := 2) (by decide +kernel) xkA124
  | 125, _ => xokG_all (k := 1) (by decide +kernel) xkA125
  | 126, _ => xokG_all (k := 2) (by decide +kernel) xkA126
  | 127, _ => xokG_all (k := 2) (by decide +kernel) xkA127
  | 128, _ => xokG_all (k := 1) (by decide +kernel) xkA128
  | 129, _ => xokG_all (k := 2) (by decide +kernel) xkA129
  | 130, _ => xokG_all (k := 1) (by decide +kernel) xkA130
  | 131, _ => xokG_all (k := 1) (by decide +kernel) xkA131
  | 132, _ => xokG_all (k := 2) (by decide +kernel) xkA132
  | 133, _ => xokG_all (k := 2) (by decide +kernel) xkA133
  | 134, _ => xokG_all (k := 1) (by decide +kernel) xkA134
  | 135, _ => xokG_all (k := 1) (by decide +kernel) xkA135
  | 136, _ => xokG_all (k := 1) (by decide +kernel) xkA136
  | 137, _ => xokG_all (k := 3) (by decide +kernel) xkA137
  | 138, _ => xokG_all (k := 1) (by decide +kernel) xkA138
  | 139, _ => xokG_all (k := 1) (by decide +kernel) xkA139
  | 140, _ => xokG_all (k := 2) (by decide +kernel) xkA140
  | 141, _ => xokG_all (k := 1) (by decide +kernel) xkA141
  | 142, _ => xokG_all (k := 1) (by decide +kernel) xkA142
  | 143, _ => xokG_all (k := 1) (by decide +kernel) xkA143
  | 144, _ => xokG_all (k := 2) (by decide +kernel) xkA144
  | 145, _ => xokG_all (k := 3) (by decide +kernel) xkA145
  | 146, _ => xokG_all (k := 2) (by decide +kernel) xkA146
  | 147, _ => xokG_all (k := 1) (by decide +kernel) xkA147
  | 148, _ => xokG_all (k := 1) (by decide +kernel) xkA148
  | 149, _ => xokG_all (k := 1) (by decide +kernel) xkA149
  | 150, _ => xokG_all (k := 1) (by decide +kernel) xkA150
  | 151, _ => xokG_all (k := 3) (by decide +kernel) xkA151
  | 152, _ => xokG_all (k := 1) (by decide +kernel) xkA152
  | 153, _ => xokG_all (k := 3) (by decide +kernel) xkA153
  | 154, _ => xokG_all (k := 1) (by decide +kernel) xkA154
  | 155, _ => xokG_all (k := 2) (by decide +kernel) xkA155
  | 156, _ => xokG_all (k := 1) (by decide +kernel) xkA156
  | 157, _ => xokG_all (k := 1) (by decide +kernel) xkA157
  | 158, _ => xokG_all (k := 1) (by decide +kernel) xkA158
  | 159, _ => xokG_all (k := 1) (by decide +kernel) xkA159
  | 160, _ => xokG_all (k := 1) (by decide +kernel) xkA160
  | 161, _ => xokG_all (k := 1) (by decide +kernel) xkA161
  | 162, _ => xokG_all (k := 1) (by decide +kernel) xkA162
  | 163, _ => xokG_all (k := 1) (by decide +kernel) xkA163
  | 164, _ => xokG_all (k := 1) (by decide +kernel) xkA164
  | 165, _ => xokG_all (k := 2) (by decide +kernel) xkA165
  | 166, _ => xokG_all (k := 1) (by decide +kernel) xkA166
  | 167, _ => xokG_all (k := 1) (by decide +kernel) xkA167
  | 168, _ => xokG_all (k := 1) (by decide +kernel) xkA168
  | 169, _ => xokG_all (k := 1) (by decide +kernel) xkA169
  | 170, _ => xokG_all (k := 1) (by decide +kernel) xkA170
  | 171, _ => xokG_all (k := 1) (by decide +kernel) xkA171
  | 172, _ => xokG_all (k := 1) (by decide +kernel) xkA172
  | M + 173, h => absurd h (by omega)
theorem xkOut {M : Nat} (h : 173 ≤ M) : xcs M = [] := by
  unfold xcs xn2
  rw [xnth_eq]
  by_cases h2 : 16 * xcodes.length ≤ M
  · rw [List.getElem?_eq_none (by omega)]
  · have e : M / 16 = 10 := by
      have : xcodes.length = 11 := by decide +kernel
      omega
    rw [e]
    have e2 : 13 ≤ M % 16 := by
      have : xcodes.length = 11 := by decide +kernel
      omega
    show xnth _ (M % 16) [] id = []
    rw [xnth_eq, List.getElem?_eq_none (Nat.le_trans (by decide +kernel) e2)]
theorem xkCC : ∀ m, 0 < m → m < 173 → xokC m = true
  | 0, h, _ => absurd h (by decide)
  | 1, _, _ => xkC1
  | 2, _, _ => xkC2
  | 3, _, _ => xkC3
  | 4, _, _ => xkC4
  | 5, _, _ => xkC5
  | 6, _, _ => xkC6
  | 7, _, _ => xkC7
  | 8, _, _ => xkC8
  | 9, _, _ => xkC9
  | 10, _, _ => xkC10
  | 11, _, _ => xkC11
  | 12, _, _ => xkC12
  | 13, _, _ => xkC13
  | 14, _, _ => xkC14
  | 15, _, _ => xkC15
  | 16, _, _ => xkC16
  | 17, _, _ => xkC17
  | 18, _, _ => xkC18
  | 19, _, _ => xkC19
  | 20, _, _ => xkC20
  | 21, _, _ => xkC21
  | 22, _, _ => xkC22
  | 23, _, _ => xkC23
  | 24, _, _ => xkC24
  | 25, _, _ => xkC25
  | 26, _, _ => xkC26
  | 27, _, _ => xkC27
  | 28, _, _ => xkC28
  | 29, _, _ => xkC29
  | 30, _, _ => xkC30
  | 31, _, _ => xkC31
  | 32, _, _ => xkC32
  | 33, _, _ => xkC33
  | 34, _, _ => xkC34
  | 35, _, _ => xkC35
  | 36, _, _ => xkC36
  | 37, _, _ => xkC37
  | 38, _, _ => xkC38
  | 39, _, _ => xkC39
  | 40, _, _ => xkC40
  | 41, _, _ => xkC41
  | 42, _, _ => xkC42
  | 43, _, _ => xkC43
  | 44, _, _ => xkC44
  | 45, _, _ => xkC45
  | 46, _, _ => xkC46
  | 47, _, _ => xkC47
  | 48, _, _ => xkC48
  | 49, _, _ => xkC49
  | 50, _, _ => xkC50
  | 51, _, _ => xkC51
  | 52, _, _ => xkC52
  | 53, _, _ => xkC53
  | 54, _, _ => xkC54
  | 55, _, _ => xkC55
  | 56, _, _ => xkC56
  | 57, _, _ => xkC57
  | 58, _, _ => xkC58
  | 59, _, _ => xkC59
  | 60, _, _ => xkC60
  | 61, _, _ => xkC61
  | 62, _, _ => xkC62
  | 63, _, _ => xkC63
  | 64, _, _ => xkC64
  | 65, _, _ => xkC65
  | 66, _, _ => xkC66
  | 67, _, _ => xkC67
  | 68, _, _ => xkC68
  | 69, _, _ => xkC69
  | 70, _, _ => xkC70
  | 71, _, _ => xkC71
  | 72, _, _ => xkC72
  | 73, _, _ => xkC73
  | 74, _, _ => xkC74
  | 75, _, _ => xkC75
  | 76, _, _ => xkC76
  | 77, _, _ => xkC77
  | 78, _, _ => xkC78
  | 79, _, _ => xkC79
  | 80, _, _ => xkC80
  | 81, _, _ => xkC81
  | 82, _, _ => xkC82
  | 83, _, _ => xkC83
  | 84, _, _ => xkC84
  | 85, _, _ => xkC85
  | 86, _, _ => xkC86
  | 87, _, _ => xkC87
  | 88, _, _ => xkC88
  | 89, _, _ => xkC89
  | 90, _, _ => xkC90
  | 91, _, _ => xkC91
  | 92, _, _ => xkC92
  | 93, _, _ => xkC93
  | 94, _, _ => xkC94
  | 95, _, _ => xkC95
  | 96, _, _ => xkC96
  | 97, _, _ => xkC97
  | 98, _, _ => xkC98
  | 99, _, _ => xkC99
  | 100, _, _ => xkC100
  | 101, _, _ => xkC101
  | 102, _, _ => xkC102
  | 103, _, _ => xkC103
  | 104, _, _ => xkC104
  | 105, _, _ => xkC105
  | 106, _, _ => xkC106
  | 107, _, _ => xkC107
  | 108, _, _ => xkC108
  | 109, _, _ => xkC109
  | 110, _, _ => xkC110
  | 111, _, _ => xkC111
  | 112, _, _ => xkC112
  | 113, _, _ => xkC113
  | 114, _, _ => xkC114
  | 115, _, _ => xkC115
  | 116, _, _ => xkC116
  | 117, _, _ => xkC117
  | 118, _, _ => xkC118
  | 119, _, _ => xkC119
  | 120, _, _ => xkC120
  | 121, _, _ => xkC121
  | 122, _, _ => xkC122
  | 123, _, _ => xkC123
  | 124, _, _ => xkC124
  | 125, _, _ => xkC125
  | 126, _, _ => xkC126
  | 127, _, _ => xkC127
  | 128, _, _ => xkC128
  | 129, _, _ => xkC129
  | 130, _, _ => xkC130
  | 131, _, _ => xkC131
  | 132, _, _ => xkC132
  | 133, _, _ => xkC133
  | 134, _, _ => xkC134
  | 135, _, _ => xkC135
  | 136, _, _ => xkC136
  | 137, _, _ => xkC137
  | 138, _, _ => xkC138
  | 139, _, _ => xkC139
  | 140, _, _ => xkC140
  | 141, _, _ => xkC141
  | 142, _, _ => xkC142
  | 143, _, _ => xkC143
  | 144, _, _ => xkC144
  | 145, _, _ => xkC145
  | 146, _, _ => xkC146
  | 147, _, _ => xkC147
  | 148, _, _ => xkC148
  | 149, _, _ => xkC149
  | 150, _, _ => xkC150
  | 151, _, _ => xkC151
  | 152, _, _ => xkC152
  | 153, _, _ => xkC153
  | 154, _, _ => xkC154
  | 155, _, _ => xkC155
  | 156, _, _ => xkC156
  | 157, _, _ => xkC157
  | 158, _, _ => xkC158
  | 159, _, _ => xkC159
  | 160, _, _ => xkC160
  | 161, _, _ => xkC161
  | 162, _, _ => xkC162
  | 163, _, _ => xkC163
  | 164, _, _ => xkC164
  | 165, _, _ => xkC165
  | 166, _, _ => xkC166
  | 167, _, _ => xkC167
  | 168, _, _ => xkC168
  | 169, _, _ => xkC169
  | 170, _, _ => xkC170
  | 171, _, _ => xkC171
  | 172, _, _ => xkC172
  | m + 173, _, h => absurd h (by omega)
theorem xkAll : ∀ M, xokM M = true := by
  intro M
  unfold xokM
  rw [Bool.and_eq_true]
  by_cases h : M < 173
  · refine ⟨xkN M h, ?_⟩
    match M, h with
    | 0, _ => rfl
    | m + 1, h =>
      show (xokC (m + 1) || Nat.ble xNM (m + 1)) = true
      rw [xkCC (m + 1) (by omega) h]
      rfl
  · refine ⟨by rw [xkOut (by omega)]; rfl, ?_⟩
    match M, h with
    | 0, h => exact absurd (by decide) h
    | m + 1, h =>
      show (xokC (m + 1) || Nat.ble xNM (m + 1)) = true
      have : Nat.ble xNM (m + 1) = true := Nat.ble_eq_true_of_le (show 173 ≤ m + 1 by omega)
      rw [this, Bool.or_true]
theorem xkcls0 : ∀ w ∈ u_ws xR0 xT0 3, w ∈ xTs := by decide +kernel
theorem xkcls1 : ∀ w ∈ u_ws xR1 xT1 9, w ∈ xTs := by decide +kernel
theorem xkcls2 : ∀ w ∈ u_ws xR2 xT2 3, w ∈ xTs := by decide +kernel
theorem xkcls3 : ∀ w ∈ u_ws xR3 xT3 4, w ∈ xTs := by decide +kernel
theorem xkcls4 : ∀ w ∈ u_ws xR4 xT4 5, w ∈ xTs := by decide +kernel
theorem xkcls5 : ∀ w ∈ u_ws xR5 xT5 5, w ∈ xTs := by decide +kernel
theorem xkcls6 : ∀ w ∈ u_ws xR6 xT6 6, w ∈ xTs := by decide +kernel
theorem xkcls7 : ∀ w ∈ u_ws xR7 xT7 4, w ∈ xTs := by decide +kernel
theorem xkcls8 : ∀ w ∈ u_ws xR8 xT8 7, w ∈ xTs := by decide +kernel
theorem xkcls9 : ∀ w ∈ u_ws xR9 xT9 9, w ∈ xTs := by decide +kernel
theorem xkcls10 : ∀ w ∈ u_ws xR10 xT10 30, w ∈ xTs := by decide +kernel
theorem xkcls : ∀ ci C, xCl[ci]? = some C → ∃ ty, xTys[ci]? = some ty ∧ xokCls ci C ty
  | 0, C, h => by cases h; exact ⟨xty0, rfl, xkcls0, by decide +kernel, by decide +kernel, by decide +kernel⟩
  | 1, C, h => by cases h; exact ⟨xty1, rfl, xkcls1, by decide +kernel, by decide +kernel, by decide +kernel⟩
  | 2, C, h => by cases h; exact ⟨xty2, rfl, xkcls2, by decide +kernel, by decide +kernel, by decide +kernel⟩
  | 3, C, h => by cases h; exact ⟨xty3, rfl, xkcls3, by decide +kernel, by decide +kernel, by decide +kernel⟩
  | 4, C, h => by cases h; exact ⟨xty4, rfl, xkcls4, by decide +kernel, by decide +kernel, by decide +kernel⟩
  | 5, C, h => by cases h; exact ⟨xty5, rfl, xkcls5, by decide +kernel, by decide +kernel, by decide +kernel⟩
  | 6, C, h => by cases h; exact ⟨xty6, rfl, xkcls6, by decide +kernel, by decide +kernel, by decide +kernel⟩
  | 7, C, h => by cases h; exact ⟨xty7, rfl, xkcls7, by decide +kernel, by decide +kernel, by decide +kernel⟩
  | 8, C, h => by cases h; exact ⟨xty8, rfl, xkcls8, by decide +kernel, by decide +kernel, by decide +kernel⟩
  | 9, C, h => by cases h; exact ⟨xty9, rfl, xkcls9, by decide +kernel, by decide +kernel, by decide +kernel⟩
  | 10, C, h => by cases h; exact ⟨xty10, rfl, xkcls10, by decide +kernel, by decide +kernel, by decide +kernel⟩
  | ci + 11, C, h => by simp [xCl] at h
theorem xkinst : ∀ (ci : Nat) (C : vw_C), xCl[ci]? = some C → Cond.instantiable C.1 C.2.2 ∈ xTs
  | 0, C, h => by cases h; decide +kernel
  | 1, C, h => by cases h; decide +kernel
  | 2, C, h => by cases h; decide +kernel
  | 3, C, h => by cases h; decide +kernel
  | 4, C, h => by cases h; decide +kernel
  | 5, C, h => by cases h; decide +kernel
  | 6, C, h => by cases h; decide +kernel
  | 7, C, h => by cases h; decide +kernel
  | 8, C, h => by cases h; decide +kernel
  | 9, C, h => by cases h; decide +kernel
  | 10, C, h => by cases h; decide +kernel
  | ci + 11, C, h => by simp [xCl] at h
def xkind (w : Cond) : Bool := goodWord w || (match w with
  | .methodLinkNest _ _ _ _ => true
  | .arrayOver (.object _) => true
  | .arrayOver (.array .int) => true
  | _ => false)
theorem xkind_all : lw_tbl.all (fun w => !xneed w || xkind w) = true := by decide +kernel
theorem xkind_of {w : Cond} (h : xkind w = true) : goodWord w = true ∨ (∃ a i y h, w = .methodLinkNest a i y h) ∨ (∃ C, w = .arrayOver (.object C)) ∨ w = .arrayOver (.array .int) := by
  unfold xkind at h
  rw [Bool.or_eq_true] at h
  rcases h with h | h
  · exact Or.inl h
  · split at h
    · exact Or.inr (Or.inl ⟨_, _, _, _, rfl⟩)
    · exact Or.inr (Or.inr (Or.inl ⟨_, rfl⟩))
    · exact Or.inr (Or.inr (Or.inr rfl))
    · cases h
theorem xkOK : xOK := by
  refine ⟨xkAll, xkcls, fun w hw hn => ?_, ⟨by decide +kernel, by decide +kernel, by decide +kernel, by decide +kernel, by decide +kernel⟩, ⟨by decide +kernel, by decide +kernel, by decide +kernel⟩, ⟨by decide +kernel, by decide +kernel⟩, ⟨by decide +kernel, by decide +kernel, by decide +kernel, by decide +kernel, by decide +kernel⟩⟩
  have h := List.all_eq_true.mp xkind_all w hw
  rw [hn] at h
  exact xkind_of h
end
section
-- ===== the cells as they stand behind the two constructors =====
def SH : xSh := [(19, 9), (18, 7), (16, 6), (0, 24), (0, 24), (0, 24), (0, 24), (0, 24), (11, 9), (0, 8), (0, 8), (0, 8), (0, 8), (0, 8), (0, 8), (0, 8), (0, 64), (0, 6), (0, 4), (18, 7), (16, 6), (0, 24), (0, 24), (0, 24), (0, 24), (0, 24), (11, 9), (0, 8), (0, 8), (0, 8), (0, 8), (0, 8), (0, 8), (0, 8), (0, 64), (0, 6), (0, 4), (12, 3), (3, 4), (0, 144), (0, 144), (0, 144), (0, 144), (15, 5), (0, 384), (0, 64), (0, 64), (17, 4), (0, 3), (0, 3), (10, 3), (0, 24), (0, 12), (14, 5), (2, 160), (16, 6), (0, 24), (0, 24), (0, 24), (0, 24), (0, 24), (11, 9), (0, 8), (0, 8), (0, 8), (0, 8), (0, 8), (0, 8), (0, 8), (0, 64), (4, 4), (13, 4), (1, 24), (13, 4), (1, 24), (13, 4), (1, 24), (13, 4), (1, 24), (20, 30), (0, 120), (0, 56), (0, 64), (0, 4), (0, 6), (0, 12), (0, 160), (0, 120), (0, 144), (0, 448), (0, 64), (0, 64), (0, 96), (0, 24), (0, 12), (0, 12), (0, 250), (0, 5), (0, 4), (0, 4), (1, 96)]
def RF : xRf := [[some 1, some 19, none, some 37, some 43, some 47, some 50, some 53, some 70],
  [some 2, some 8, none, some 17, some 18, none, none],
  [none, some 3, some 4, some 5, some 6, some 7],
  [],
  [],
  [],
  [],
  [],
  [none, some 9, some 10, some 11, some 12, some 13, some 14, some 15, some 16],
  [],
  [],
  [],
  [],
  [],
  [],
  [],
  [],
  [],
  [],
  [some 20, some 26, none, some 35, some 36, none, none],
  [none, some 21, some 22, some 23, some 24, some 25],
  [],
  [],
  [],
  [],
  [],
  [none, some 27, some 28, some 29, some 30, some 31, some 32, some 33, some 34],
  [],
  [],
  [],
  [],
  [],
  [],
  [],
  [],
  [],
  [],
  [some 2, some 38, none],
  [some 39, some 40, some 41, some 42],
  [],
  [],
  [],
  [],
  [some 1, some 37, some 44, some 45, some 46],
  [],
  [],
  [],
  [some 8, some 37, some 48, some 49],
  [],
  [],
  [some 2, some 51, some 52],
  [],
  [],
  [some 54, none, none, some 55, some 61],
  [],
  [none, some 56, some 57, some 58, some 59, some 60],
  [],
  [],
  [],
  [],
  [],
  [none, some 62, some 63, some 64, some 65, some 66, some 67, some 68, some 69],
  [],
  [],
  [],
  [],
  [],
  [],
  [],
  [],
  [some 71, some 73, some 75, some 77],
  [none, none, none, some 72],
  [],
  [none, none, none, some 74],
  [],
  [none, none, none, some 76],
  [],
  [none, none, none, some 78],
  [],
  [some 80, none, some 81, none, some 82, some 83, none, some 84, none, none, some 85, some 86, none, none, none, some 87, some 88, some 89, some 90, some 91, some 92, some 93, some 94, some 95, none, some 96, some 97, some 98, some 99, some 100],
  [],
  [],
  [],
  [],
  [],
  [],
  [],
  [],
  [],
  [],
  [],
  [],
  [],
  [],
  [],
  [],
  [],
  [],
  [],
  [],
  []]
/-- what the numbers are at first -/
def IV0 (k j : Nat) : Int32 := match k with
  | 18 => (match j with
    | 0 => 400
    | 1 => 300
    | 2 => 500
    | 3 => 900
    | _ => 0)
  | 36 => (match j with
    | 0 => 400
    | 1 => 300
    | 2 => 500
    | 3 => 900
    | _ => 0)
  | 83 => (match j with
    | 0 => 400
    | 1 => 300
    | 2 => 500
    | 3 => 900
    | _ => 0)
  | 98 => (match j with
    | 0 => (-1)
    | 1 => (-1)
    | 2 => (-1)
    | 3 => (-1)
    | _ => 0)
  | _ => 0
end
section
-- ===== the law's two constructors, run =====
set_option maxRecDepth 100000 in
set_option maxHeartbeats 8000000 in
theorem law_init {L : Nat} {xs : Nat → Int32} {Q : xQ} (k : ∀ (iv : xIv) (lg : xLg), (∀ k, k < 101 → ∀ j, iv k j = IV0 k j) → (∀ k, k < 101 → ∀ j, lg k j = 0) → Wp L xs 0 10 [some (.ref 1000), some (.ref 0), some (.ref 79), some (.int 0)] [] SH RF iv lg Q) : Sp L xs 0 [.ref 1000] [] [] (fun _ _ => 0) (fun _ _ => 0) Q := by
  refine sgo [10] 1000 ?_
  repeat (first | refine And.intro (by decide) ?_ | refine And.intro (by unfold vp_in; decide) ?_ | refine sgo [] 1000 ?_ | refine And.intro (fun _ => ?_) (fun z => absurd (by decide) z) | refine And.intro (fun z => absurd z (by decide)) (fun _ => ?_))
  refine k _ _ ?_ ?_
  · intro k hk j
    match k, hk with
    | 0, _ => rfl
    | 1, _ => rfl
    | 2, _ => rfl
    | 3, _ => rfl
    | 4, _ => rfl
    | 5, _ => rfl
    | 6, _ => rfl
    | 7, _ => rfl
    | 8, _ => rfl
    | 9, _ => rfl
    | 10, _ => rfl
    | 11, _ => rfl
    | 12, _ => rfl
    | 13, _ => rfl
    | 14, _ => rfl
    | 15, _ => rfl
    | 16, _ => rfl
    | 17, _ => rfl
    | 18, _ => exact (match j with | 0 => rfl | 1 => rfl | 2 => rfl | 3 => rfl | _ + 4 => rfl)
    | 19, _ => rfl
    | 20, _ => rfl
    | 21, _ => rfl
    | 22, _ => rfl
    | 23, _ => rfl
    | 24, _ => rfl
    | 25, _ => rfl
    | 26, _ => rfl
    | 27, _ => rfl
    | 28, _ => rfl
    | 29, _ => rfl
    | 30, _ => rfl
    | 31, _ => rfl
    | 32, _ => rfl
    | 33, _ => rfl
    | 34, _ => rfl
    | 35, _ => rfl
    | 36, _ => exact (match j with | 0 => rfl | 1 => rfl | 2 => rfl | 3 => rfl | _ + 4 => rfl)
    | 37, _ => rfl
    | 38, _ => rfl
    | 39, _ => rfl
    | 40, _ => rfl
    | 41, _ => rfl
    | 42, _ => rfl
    | 43, _ => rfl
    | 44, _ => rfl
    | 45, _ => rfl
    | 46, _ => rfl
    | 47, _ => rfl
    | 48, _ => rfl
    | 49, _ => rfl
    | 50, _ => rfl
    | 51, _ => rfl
    | 52, _ => rfl
    | 53, _ => rfl
    | 54, _ => rfl
    | 55, _ => rfl
    | 56, _ => rfl
    | 57, _ => rfl
    | 58, _ => rfl
    | 59, _ => rfl
    | 60, _ => rfl
    | 61, _ => rfl
    | 62, _ => rfl
    | 63, _ => rfl
    | 64, _ => rfl
    | 65, _ => rfl
    | 66, _ => rfl
    | 67, _ => rfl
    | 68, _ => rfl
    | 69, _ => rfl
    | 70, _ => rfl
    | 71, _ => rfl
    | 72, _ => rfl
    | 73, _ => rfl
    | 74, _ => rfl
    | 75, _ => rfl
    | 76, _ => rfl
    | 77, _ => rfl
    | 78, _ => rfl
    | 79, _ => rfl
    | 80, _ => rfl
    | 81, _ => rfl
    | 82, _ => rfl
    | 83, _ => exact (match j with | 0 => rfl | 1 => rfl | 2 => rfl | 3 => rfl | _ + 4 => rfl)
    | 84, _ => rfl
    | 85, _ => rfl
    | 86, _ => rfl
    | 87, _ => rfl
    | 88, _ => rfl
    | 89, _ => rfl
    | 90, _ => rfl
    | 91, _ => rfl
    | 92, _ => rfl
    | 93, _ => rfl
    | 94, _ => rfl
    | 95, _ => rfl
    | 96, _ => rfl
    | 97, _ => rfl
    | 98, _ => exact (match j with | 0 => rfl | 1 => rfl | 2 => rfl | 3 => rfl | _ + 4 => rfl)
    | 99, _ => rfl
    | 100, _ => rfl
    | k + 101, h => exact absurd h (by omega)
  · intro k hk j
    match k, hk with
    | 0, _ => rfl
    | 1, _ => rfl
    | 2, _ => rfl
    | 3, _ => rfl
    | 4, _ => rfl
    | 5, _ => rfl
    | 6, _ => rfl
    | 7, _ => rfl
    | 8, _ => rfl
    | 9, _ => rfl
    | 10, _ => rfl
    | 11, _ => rfl
    | 12, _ => rfl
    | 13, _ => rfl
    | 14, _ => rfl
    | 15, _ => rfl
    | 16, _ => rfl
    | 17, _ => rfl
    | 18, _ => rfl
    | 19, _ => rfl
    | 20, _ => rfl
    | 21, _ => rfl
    | 22, _ => rfl
    | 23, _ => rfl
    | 24, _ => rfl
    | 25, _ => rfl
    | 26, _ => rfl
    | 27, _ => rfl
    | 28, _ => rfl
    | 29, _ => rfl
    | 30, _ => rfl
    | 31, _ => rfl
    | 32, _ => rfl
    | 33, _ => rfl
    | 34, _ => rfl
    | 35, _ => rfl
    | 36, _ => rfl
    | 37, _ => rfl
    | 38, _ => rfl
    | 39, _ => rfl
    | 40, _ => rfl
    | 41, _ => rfl
    | 42, _ => rfl
    | 43, _ => rfl
    | 44, _ => rfl
    | 45, _ => rfl
    | 46, _ => rfl
    | 47, _ => rfl
    | 48, _ => rfl
    | 49, _ => rfl
    | 50, _ => rfl
    | 51, _ => rfl
    | 52, _ => rfl
    | 53, _ => rfl
    | 54, _ => rfl
    | 55, _ => rfl
    | 56, _ => rfl
    | 57, _ => rfl
    | 58, _ => rfl
    | 59, _ => rfl
    | 60, _ => rfl
    | 61, _ => rfl
    | 62, _ => rfl
    | 63, _ => rfl
    | 64, _ => rfl
    | 65, _ => rfl
    | 66, _ => rfl
    | 67, _ => rfl
    | 68, _ => rfl
    | 69, _ => rfl
    | 70, _ => rfl
    | 71, _ => rfl
    | 72, _ => rfl
    | 73, _ => rfl
    | 74, _ => rfl
    | 75, _ => rfl
    | 76, _ => rfl
    | 77, _ => rfl
    | 78, _ => rfl
    | 79, _ => rfl
    | 80, _ => rfl
    | 81, _ => rfl
    | 82, _ => rfl
    | 83, _ => rfl
    | 84, _ => rfl
    | 85, _ => rfl
    | 86, _ => rfl
    | 87, _ => rfl
    | 88, _ => rfl
    | 89, _ => rfl
    | 90, _ => rfl
    | 91, _ => rfl
    | 92, _ => rfl
    | 93, _ => rfl
    | 94, _ => rfl
    | 95, _ => rfl
    | 96, _ => rfl
    | 97, _ => rfl
    | 98, _ => rfl
    | 99, _ => rfl
    | 100, _ => rfl
    | k + 101, h => exact absurd h (by omega)
end
section
-- ===== numbers, and the small tests that both sides make =====
abbrev isN (v : Int32) (n : Nat) : Prop := 0 ≤ v ∧ v < nI n
theorem il {a b : Int32} : a ≤ b ↔ a.toInt ≤ b.toInt := Int32.le_iff_toInt_le
theorem it {a b : Int32} : a < b ↔ a.toInt < b.toInt := Int32.lt_iff_toInt_lt
theorem ie {a b : Int32} : a = b ↔ a.toInt = b.toInt := Int32.toInt_inj.symm
theorem nlt {a b : Int32} (h : ¬ a < b) : b ≤ a := by rw [it] at h; rw [il]; omega
theorem nle {a b : Int32} (h : ¬ a ≤ b) : b < a := by rw [il] at h; rw [it]; omega
theorem lnle {a b : Int32} (h : a < b) : ¬ b ≤ a := by rw [it] at h; rw [il]; omega
theorem lenl {a b : Int32} (h : a ≤ b) : ¬ b < a := by rw [il] at h; rw [it]; omega
theorem isN_of {v : Int32} {n : Nat} (h : isN v n) (hn : n < 2 ^ 31) : ∃ p, p < n ∧ v = nI p := by
  obtain ⟨p, hp, rfl⟩ := nI_of (lenl h.1)
  exact ⟨p, (nI_ltI hp hn).mp h.2, rfl⟩
theorem isN_nI {p n : Nat} (h : p < n) (hn : n < 2 ^ 31) : isN (nI p) n := ⟨nI_pos' (by omega), nI_lt h hn⟩
theorem nI_m1_toInt {n : Nat} (hn : n < 2 ^ 30) : (nI n - 1).toInt = (n : Int) - 1 := pk_sub_toInt (b := 1) hn (by decide)
theorem isN_m1 {v : Int32} {n : Nat} (hn : n < 2 ^ 30) : (0 ≤ v ∧ v ≤ nI n - 1) ↔ isN v n := by
  unfold isN
  rw [il, il, it, nI_m1_toInt hn, nI_toInt (by omega)]
  omega
theorem vp_N {p n : Nat} (h : p < n) (hn : n < 2 ^ 31 := by decide) : vp_in (nI p) n := vp_in_nI h hn
theorem wide_le (a b : Int32) : a.toInt64 ≤ b.toInt64 ↔ a ≤ b := by
  rw [Int64.le_iff_toInt_le, il, Int32.toInt_toInt64, Int32.toInt_toInt64]
theorem lcmp_lt {x y : Int64} : lg_cmp x y < 0 ↔ x < y := by
  unfold lg_cmp
  simp only [gt_iff_lt]
  split
  · rename_i h
    exact ⟨fun z => absurd z (by decide), fun z => absurd z (by rw [Int64.lt_iff_toInt_lt] at h ⊢; omega)⟩
  · split
    · rename_i h1 h2
      subst h2
      exact ⟨fun z => absurd z (by decide), fun z => absurd z h1⟩
    · rename_i h1 h2
      refine ⟨fun _ => ?_, fun _ => by decide⟩
      have h3 : ¬ x.toInt = y.toInt := fun z => h2 (Int64.toInt_inj.mp z)
      rw [Int64.lt_iff_toInt_lt] at h1 ⊢
      omega
theorem lcmp_gt {x y : Int64} : 0 < lg_cmp x y ↔ y < x := by
  unfold lg_cmp
  simp only [gt_iff_lt]
  split
  · rename_i h
    exact ⟨fun _ => h, fun _ => by decide⟩
  · split
    · rename_i h1 h2
      exact ⟨fun z => absurd z (by decide), fun z => absurd z h1⟩
    · rename_i h1 h2
      exact ⟨fun z => absurd z (by decide), fun z => absurd z h1⟩
section B
variable {L : Nat} {xs : Nat → Int32} {sh : xSh} {rf : xRf} {iv : xIv} {lg : xLg} {Q : xQ}
theorem s_within {v a b : Int32} (kt : a ≤ v ∧ v ≤ b → Q (some (.int 1)) sh rf iv lg) (kf : ¬ (a ≤ v ∧ v ≤ b) → Q (some (.int 0)) sh rf iv lg) : Sp L xs m_SR_isWithin [.int v, .int a, .int b] sh rf iv lg Q := by
  refine sgo [] 100 ?_
  refine And.intro (fun h1 => ?_) (fun h1 => ?_)
  · exact And.intro (Or.inl rfl) (kf (fun z => lnle h1 z.1))
  · refine And.intro (fun h2 => ?_) (fun h2 => ?_)
    · exact And.intro (Or.inl rfl) (kf (fun z => lnle h2 z.2))
    · exact And.intro (Or.inr rfl) (kt ⟨nlt h1, nlt h2⟩)
theorem s_in {v a b : Int64} (kt : a ≤ v ∧ v ≤ b → Q (some (.int 1)) sh rf iv lg) (kf : ¬ (a ≤ v ∧ v ≤ b) → Q (some (.int 0)) sh rf iv lg) : Sp L xs m_Mo_in [.long v, .long a, .long b] sh rf iv lg Q := by
  have hl : ∀ {x y : Int64}, ¬ x < y → y ≤ x := fun h => by rw [Int64.lt_iff_toInt_lt] at h; rw [Int64.le_iff_toInt_le]; omega
  have hr : ∀ {x y : Int64}, x < y → ¬ y ≤ x := fun h => by rw [Int64.lt_iff_toInt_lt] at h; rw [Int64.le_iff_toInt_le]; omega
  refine sgo [] 100 ?_
  refine And.intro (fun h1 => ?_) (fun h1 => ?_)
  · exact And.intro (Or.inl rfl) (kf (fun z => hr (lcmp_lt.mp h1) z.1))
  · refine And.intro (fun h2 => ?_) (fun h2 => ?_)
    · exact And.intro (Or.inl rfl) (kf (fun z => hr (lcmp_gt.mp h2) z.2))
    · exact And.intro (Or.inr rfl) (kt ⟨hl (fun z => h1 (lcmp_lt.mpr z)), hl (fun z => h2 (lcmp_gt.mpr z))⟩)
theorem s_inI {v a b : Int32} {a' b' : Int64} (ha : a' = a.toInt64 := by decide) (hb : b' = b.toInt64 := by decide) (kt : a ≤ v ∧ v ≤ b → Q (some (.int 1)) sh rf iv lg) (kf : ¬ (a ≤ v ∧ v ≤ b) → Q (some (.int 0)) sh rf iv lg) : Sp L xs m_Mo_in [.long v.toInt64, .long a', .long b'] sh rf iv lg Q := by
  subst ha; subst hb
  exact s_in (fun h => kt ⟨(wide_le _ _).mp h.1, (wide_le _ _).mp h.2⟩) (fun h => kf (fun z => h ⟨(wide_le _ _).mpr z.1, (wide_le _ _).mpr z.2⟩))
theorem r11 {v : Int32} : (0 ≤ v ∧ v ≤ 11) ↔ isN v 12 := isN_m1 (n := 12) (by decide)
theorem r3 {v : Int32} : (0 ≤ v ∧ v ≤ 3) ↔ isN v 4 := isN_m1 (n := 4) (by decide)
theorem r2 {v : Int32} : (0 ≤ v ∧ v ≤ 2) ↔ isN v 3 := isN_m1 (n := 3) (by decide)
theorem s_isPlace {v : Int32} (kt : isN v 12 → Q (some (.int 1)) sh rf iv lg) (kf : ¬ isN v 12 → Q (some (.int 0)) sh rf iv lg) : Sp L xs m_SR_isPlace [.int v] sh rf iv lg Q := by
  refine sgo [] 100 ?_
  refine s_within (fun h => ?_) (fun h => ?_)
  · exact And.intro (Or.inr rfl) (kt (r11.mp h))
  · exact And.intro (Or.inl rfl) (kf (fun z => h (r11.mpr z)))
theorem s_isKind {v : Int32} (kt : isN v 4 → Q (some (.int 1)) sh rf iv lg) (kf : ¬ isN v 4 → Q (some (.int 0)) sh rf iv lg) : Sp L xs m_SR_isKind [.int v] sh rf iv lg Q := by
  refine sgo [] 100 ?_
  refine s_within (fun h => ?_) (fun h => ?_)
  · exact And.intro (Or.inr rfl) (kt (r3.mp h))
  · exact And.intro (Or.inl rfl) (kf (fun z => h (r3.mpr z)))
theorem s_isSheet {v : Int32} (kt : isN v 4 → Q (some (.int 1)) sh rf iv lg) (kf : ¬ isN v 4 → Q (some (.int 0)) sh rf iv lg) : Sp L xs m_SR_isSheet [.int v] sh rf iv lg Q := by
  refine sgo [] 100 ?_
  refine s_within (fun h => ?_) (fun h => ?_)
  · exact And.intro (Or.inr rfl) (kt (r3.mp h))
  · exact And.intro (Or.inl rfl) (kf (fun z => h (r3.mpr z)))
theorem s_isLane {v : Int32} (kt : isN v 3 → Q (some (.int 1)) sh rf iv lg) (kf : ¬ isN v 3 → Q (some (.int 0)) sh rf iv lg) : Sp L xs m_SR_isLane [.int v] sh rf iv lg Q := by
  refine sgo [] 100 ?_
  refine s_within (fun h => ?_) (fun h => ?_)
  · exact And.intro (Or.inr rfl) (kt (r2.mp h))
  · exact And.intro (Or.inl rfl) (kf (fun z => h (r2.mpr z)))
theorem s_orNone {v : Int32} (k1 : (1000000 : Int32) ≤ v → Q (some (.int (-4))) sh rf iv lg) (k2 : ¬ (1000000 : Int32) ≤ v → Q (some (.int v)) sh rf iv lg) : Sp L xs m_SR_orNone [.int v] sh rf iv lg Q := by
  refine sgo [] 100 ?_
  exact And.intro (fun h => k2 (lnle h)) (fun h => k1 (nlt h))
theorem s_moPlace {v : Int32} (kt : isN v 12 → Q (some (.int 1)) sh rf iv lg) (kf : ¬ isN v 12 → Q (some (.int 0)) sh rf iv lg) : Sp L xs m_Mo_isPlace [.int v] sh rf iv lg Q := by
  refine sgo [] 100 ?_
  refine s_inI (a := 0) (b := 11) (kt := fun h => ?_) (kf := fun h => ?_)
  · exact And.intro (Or.inr rfl) (kt (r11.mp h))
  · exact And.intro (Or.inl rfl) (kf (fun z => h (r11.mpr z)))
end B
section B2
variable {L : Nat} {xs : Nat → Int32} {iv : xIv} {lg : xLg} {Q : xQ}
theorem s_isPerson {v : Int32} {n : Nat} (hn : iv 8 0 = nI n) (h8 : n ≤ 8) (kt : isN v n → Q (some (.int 1)) SH RF iv lg) (kf : ¬ isN v n → Q (some (.int 0)) SH RF iv lg) : Sp L xs m_SR_isPerson [.ref 0, .int v] SH RF iv lg Q := by
  refine sgo [] 100 ?_
  refine s_within (fun h => ?_) (fun h => ?_) <;> rw [hn] at h
  · exact And.intro (Or.inr rfl) (kt ((isN_m1 (by omega)).mp h))
  · exact And.intro (Or.inl rfl) (kf (fun z => h ((isN_m1 (by omega)).mpr z)))
theorem s_has {v : Int32} {n : Nat} (hn : iv 2 0 = nI n) (h8 : n ≤ 24) (kt : isN v n → Q (some (.int 1)) SH RF iv lg) (kf : ¬ isN v n → Q (some (.int 0)) SH RF iv lg) : Sp L xs m_Ways_has [.ref 2, .int v] SH RF iv lg Q := by
  refine sgo [] 100 ?_
  refine s_within (fun h => ?_) (fun h => ?_) <;> rw [hn] at h
  · exact And.intro (Or.inr rfl) (kt ((isN_m1 (by omega)).mp h))
  · exact And.intro (Or.inl rfl) (kf (fun z => h ((isN_m1 (by omega)).mpr z)))
set_option maxRecDepth 100000 in
theorem s_isOne {v : Int32} {n : Nat} (hn : iv 79 3 = nI n) (h8 : n ≤ 8) (kt : isN v n → Q (some (.int 1)) SH RF iv lg) (kf : ¬ isN v n → Q (some (.int 0)) SH RF iv lg) : Sp L xs m_Mo_isOne [.ref 79, .int v] SH RF iv lg Q := by
  refine sgo [] 100 ?_
  refine s_inI (a := 0) (hb := rfl) (kt := fun h => ?_) (kf := fun h => ?_) <;> rw [hn] at h
  · exact And.intro (Or.inr rfl) (kt ((isN_m1 (by omega)).mp h))
  · exact And.intro (Or.inl rfl) (kf (fun z => h ((isN_m1 (by omega)).mpr z)))
set_option maxRecDepth 100000 in
theorem s_areTwo {v w : Int32} {n : Nat} (hn : iv 8 0 = nI n) (h8 : n ≤ 8) (kt : isN v n ∧ isN w n ∧ ¬ v = w → Q (some (.int 1)) SH RF iv lg) (kf : ¬ (isN v n ∧ isN w n ∧ ¬ v = w) → Q (some (.int 0)) SH RF iv lg) : Sp L xs m_SR_areTwo [.ref 0, .int v, .int w] SH RF iv lg Q := by
  refine sgo [] 100 ?_
  refine s_isPerson hn h8 (fun h1 => ?_) (fun h1 => ?_)
  · refine And.intro (fun z => absurd z (by decide)) (fun _ => ?_)
    refine s_isPerson hn h8 (fun h2 => ?_) (fun h2 => ?_)
    · refine And.intro (fun z => absurd z (by decide)) (fun _ => ?_)
      refine And.intro (fun h3 => ?_) (fun h3 => ?_)
      · exact And.intro (Or.inl rfl) (kf (fun z => z.2.2 h3))
      · exact And.intro (Or.inr rfl) (kt ⟨h1, h2, h3⟩)
    · refine And.intro (fun _ => ?_) (fun z => absurd rfl z)
      exact And.intro (Or.inl rfl) (kf (fun z => h2 z.2.1))
  · refine And.intro (fun _ => ?_) (fun z => absurd rfl z)
    exact And.intro (Or.inl rfl) (kf (fun z => h1 z.1))
set_option maxRecDepth 100000 in
theorem s_moTwo {v w : Int32} {n : Nat} (hn : iv 79 3 = nI n) (h8 : n ≤ 8) (kt : isN v n ∧ isN w n ∧ ¬ v = w → Q (some (.int 1)) SH RF iv lg) (kf : ¬ (isN v n ∧ isN w n ∧ ¬ v = w) → Q (some (.int 0)) SH RF iv lg) : Sp L xs m_Mo_areTwo [.ref 79, .int v, .int w] SH RF iv lg Q := by
  refine sgo [] 100 ?_
  refine s_isOne hn h8 (fun h1 => ?_) (fun h1 => ?_)
  · refine And.intro (fun z => absurd z (by decide)) (fun _ => ?_)
    refine s_isOne hn h8 (fun h2 => ?_) (fun h2 => ?_)
    · refine And.intro (fun z => absurd z (by decide)) (fun _ => ?_)
      refine And.intro (fun h3 => ?_) (fun h3 => ?_)
      · exact And.intro (Or.inl rfl) (kf (fun z => z.2.2 h3))
      · exact And.intro (Or.inr rfl) (kt ⟨h1, h2, h3⟩)
    · refine And.intro (fun _ => ?_) (fun z => absurd rfl z)
      exact And.intro (Or.inl rfl) (kf (fun z => h2 z.2.1))
  · refine And.intro (fun _ => ?_) (fun z => absurd rfl z)
    exact And.intro (Or.inl rfl) (kf (fun z => h1 z.1))
end B2
end
section
-- ===== what a state is: the reference's numbers sg, tw (by the reference's own cells), and how the class holds them =====
/-- the numbers that an image keeps: 0 counts (ways, people, errands), law, spent; 1 ways; 2 people; 3 owed; 4 given; 5 errands -/
def vL (sg : xIv) (r j : Nat) : Int32 := match r with
  | 0 => (match j with
    | 0 => sg 79 1
    | 1 => sg 79 3
    | 2 => sg 79 8
    | 3 => sg 79 6
    | _ => sg 79 9)
  | 1 => sg 80 j
  | 2 => sg 81 j
  | 3 => sg 82 j
  | 4 => sg 83 j
  | _ => sg 84 j
def vK (sg : xIv) (r j : Nat) : Int32 := match r with
  | 0 => sg 97 j
  | 1 => sg 96 j
  | 2 => sg 96 (120 + j)
  | 3 => sg 96 (176 + j)
  | 4 => sg 96 (240 + j)
  | _ => sg 96 (244 + j)
def cnt (v : xIv) (i : Nat) : Nat := (v 0 i).toNatClampNeg
/-- what a way is -/
def okW (v : xIv) (w : Nat) : Prop := isN (v 1 (5 * w)) 12 ∧ isN (v 1 (5 * w + 1)) 12 ∧ ¬ v 1 (5 * w) = v 1 (5 * w + 1) ∧ (1 ≤ v 1 (5 * w + 2) ∧ v 1 (5 * w + 2) ≤ 99) ∧ (-9 ≤ v 1 (5 * w + 3) ∧ v 1 (5 * w + 3) ≤ 9) ∧ (v 1 (5 * w + 4) = 0 ∨ v 1 (5 * w + 4) = 1)
/-- what one of people is -/
def okP (v : xIv) (p : Nat) : Prop := isN (v 2 (7 * p)) 12 ∧ isN (v 2 (7 * p + 1)) 4 ∧ (0 ≤ v 2 (7 * p + 2) ∧ v 2 (7 * p + 2) ≤ 99999) ∧ isN (v 2 (7 * p + 3)) 12
def Gv (t : Nat) (v : xIv) : Prop :=
  (v 0 0 = nI (cnt v 0) ∧ cnt v 0 ≤ 24) ∧ (v 0 1 = nI (cnt v 1) ∧ cnt v 1 ≤ 8) ∧ (v 0 2 = nI (cnt v 2) ∧ cnt v 2 ≤ 6) ∧ isN (v 0 3) 3 ∧ (0 ≤ v 0 4 ∧ v 0 4 ≤ 1000000000) ∧
  (∀ w, w < cnt v 0 → okW v w) ∧ (∀ p, p < cnt v 1 → okP v p) ∧ (∀ j, j < 64 → 0 ≤ (v 3 j).toInt ∧ (v 3 j).toInt ≤ 99999 * t) ∧ (∀ j, j < 4 → 0 ≤ v 4 j ∧ v 4 j ≤ 9999) ∧ (∀ x, x < cnt v 2 → isN (v 5 x) 12)
/-- a world of the class, from the cell w on, holds v -/
def CWy (iv : xIv) (w : Nat) (v : xIv) : Prop := iv (w + 1) 0 = v 0 0 ∧ ∀ i, i < cnt v 0 → iv (w + 2) i = v 1 (5 * i) ∧ iv (w + 3) i = v 1 (5 * i + 1) ∧ iv (w + 4) i = v 1 (5 * i + 2) ∧ iv (w + 5) i = v 1 (5 * i + 3) ∧ iv (w + 6) i = v 1 (5 * i + 4)
def CWp (iv : xIv) (w : Nat) (v : xIv) : Prop := iv (w + 7) 0 = v 0 1 ∧ (∀ p, p < cnt v 1 → iv (w + 8) p = v 2 (7 * p) ∧ iv (w + 9) p = v 2 (7 * p + 1) ∧ iv (w + 10) p = v 2 (7 * p + 2) ∧ iv (w + 11) p = v 2 (7 * p + 3) ∧ iv (w + 12) p = v 2 (7 * p + 4) ∧ iv (w + 13) p = v 2 (7 * p + 5) ∧ iv (w + 14) p = v 2 (7 * p + 6)) ∧ ∀ j, j < 64 → iv (w + 15) j = v 3 j
def CWo (iv : xIv) (w : Nat) (v : xIv) : Prop := iv w 2 = v 0 2 ∧ (∀ x, x < cnt v 2 → iv (w + 16) x = v 5 x) ∧ (∀ j, j < 4 → iv (w + 17) j = v 4 j) ∧ iv w 5 = v 0 3 ∧ iv w 6 = v 0 4
def CW (iv : xIv) (w : Nat) (v : xIv) : Prop := CWy iv w v ∧ CWp iv w v ∧ CWo iv w v
-- costs and distances
def wcost (v : xIv) (k w d : Nat) : Nat :=
  let len := (v 1 (5 * w + 2)).toInt
  let up := if d = 0 then (v 1 (5 * w + 3)).toInt else - (v 1 (5 * w + 3)).toInt
  let grown := if up > 0 then len + 3 * up else len
  let old := if up > 0 then grown + len / 2 else grown
  (match k with
  | 0 => grown
  | 1 => 2 * grown
  | 2 => old
  | _ => if old < 4 then 1 else old / 2).toNat
/-- a walk of n ways from a to b for c steps -/
def Wk (v : xIv) (k : Nat) : Nat → Nat → Nat → Nat → Prop
  | 0, a, b, c => a = b ∧ c = 0
  | n + 1, a, b, c => ∃ w d a' c', w < cnt v 0 ∧ d < 2 ∧ v 1 (5 * w + d) = nI a ∧ v 1 (5 * w + (1 - d)) = nI a' ∧ a' < 12 ∧ Wk v k n a' b c' ∧ c = wcost v k w d + c'
def isD (v : xIv) (k a b : Nat) (o : Option Nat) : Prop := match o with
  | some c => (∃ n, Wk v k n a b c) ∧ ∀ n c', Wk v k n a b c' → c ≤ c'
  | none => ∀ n c', ¬ Wk v k n a b c'
theorem isD_ex (v : xIv) (k a b : Nat) : ∃ o, isD v k a b o := by
  by_cases h : ∃ c n, Wk v k n a b c
  · obtain ⟨c, ⟨n, hn⟩, hc⟩ := pk_least (fun c => ∃ n, Wk v k n a b c) h
    refine ⟨some c, ⟨n, hn⟩, fun n' c' h' => ?_⟩
    by_cases hlt : c' < c
    · exact absurd ⟨n', h'⟩ (hc c' hlt)
    · omega
  · exact ⟨none, fun n c' h' => h ⟨c', n, h'⟩⟩
theorem isD_uniq {v : xIv} {k a b : Nat} {o o' : Option Nat} (h : isD v k a b o) (h' : isD v k a b o') : o = o' := by
  match o, o', h, h' with
  | none, none, _, _ => rfl
  | some c, none, h, h' => exact absurd h.1.choose_spec (h' _ _)
  | none, some c, h, h' => exact absurd h'.1.choose_spec (h _ _)
  | some c, some c', h, h' =>
    obtain ⟨⟨n, hn⟩, h2⟩ := h
    obtain ⟨⟨n', hn'⟩, h2'⟩ := h'
    have := h2 n' c' hn'
    have := h2' n c hn
    congr 1
    omega
noncomputable def dst (v : xIv) (k a b : Nat) : Option Nat := Classical.choose (isD_ex v k a b)
theorem dst_is (v : xIv) (k a b : Nat) : isD v k a b (dst v k a b) := Classical.choose_spec (isD_ex v k a b)
theorem dst_eq {v : xIv} {k a b : Nat} {o : Option Nat} (h : isD v k a b o) : dst v k a b = o := isD_uniq (dst_is v k a b) h
/-- a distance as a number: inf where there is none -/
def enc (inf : Nat) (o : Option Nat) : Int32 := nI (o.getD inf)
/-- only the ways count -/
theorem Wk_congr {v v' : xIv} {k : Nat} (h0 : v' 0 0 = v 0 0) (h1 : ∀ w f, w < cnt v 0 → f < 4 → v' 1 (5 * w + f) = v 1 (5 * w + f)) : ∀ n a b c, Wk v k n a b c → Wk v' k n a b c
  | 0, _, _, _, h => h
  | n + 1, a, b, c, ⟨w, d, a', c', h2, h3, h4, h5, h6, h7, h8⟩ => by
    have e0 : cnt v' 0 = cnt v 0 := by unfold cnt; rw [h0]
    have e1 : wcost v' k w d = wcost v k w d := by
      unfold wcost
      rw [h1 w 2 h2 (by decide), h1 w 3 h2 (by decide)]
    exact ⟨w, d, a', c', by rw [e0]; exact h2, h3, by rw [h1 w d h2 (by omega)]; exact h4, by rw [h1 w (1 - d) h2 (by omega)]; exact h5, h6, Wk_congr h0 h1 n a' b c' h7, by rw [e1]; exact h8⟩
theorem dst_congr {v v' : xIv} {k a b : Nat} (h0 : v' 0 0 = v 0 0) (h1 : ∀ w f, w < cnt v 0 → f < 4 → v' 1 (5 * w + f) = v 1 (5 * w + f)) : dst v' k a b = dst v k a b := by
  have e0 : cnt v' 0 = cnt v 0 := by unfold cnt; rw [h0]
  have g1 : ∀ n c, Wk v k n a b c → Wk v' k n a b c := fun n c => Wk_congr h0 h1 n a b c
  have g2 : ∀ n c, Wk v' k n a b c → Wk v k n a b c := fun n c => Wk_congr h0.symm (fun w f hw hf => (h1 w f (by rw [e0] at hw; exact hw) hf).symm) n a b c
  refine dst_eq ?_
  have h := dst_is v k a b
  cases hd : dst v k a b with
  | none => rw [hd] at h; exact fun n c' h' => h n c' (g2 n c' h')
  | some c =>
    rw [hd] at h
    obtain ⟨⟨n, hn⟩, h2⟩ := h
    exact ⟨⟨n, g1 n c hn⟩, fun n c' h' => h2 n c' (g2 n c' h')⟩
/-- a table of the class -/
def DT (v : xIv) (k : Nat) (row : Nat → Int32) : Prop := ∀ a b, a < 12 → b < 12 → row (12 * a + b) = enc 1000000 (dst v k a b)
def RD (iv : xIv) (v : xIv) : Prop := ∃ kn, kn < 16 ∧ iv 37 2 = nI kn ∧ ∀ k, k < 4 → kn.testBit k = true → DT v k (iv (39 + k))
def TP (iv : xIv) (sg : xIv) : Prop := ∃ n, n ≤ 160 ∧ iv 53 1 = nI n ∧ sg 79 12 = nI n ∧ (∀ j, j < n → iv 54 j = sg 86 j ∧ 32 ≤ (sg 86 j).toInt ∧ (sg 86 j).toInt ≤ 126) ∧ ∀ j, j < 64 → iv 69 j = 0
/-- a sheet: cells 71 + 2 s, 72 + 2 s -/
def ST (iv : xIv) (lg : xLg) (sg : xIv) (tw : Nat → Int64) : Prop := ∀ s, s < 4 → ((sg 98 s = -1 ∧ iv (71 + 2 * s) 0 = 0) ∨ (isN (sg 98 s) 3 ∧ iv (71 + 2 * s) 0 = 1 ∧ iv (71 + 2 * s) 1 = sg 98 s)) ∧ iv (71 + 2 * s) 2 = sg 99 s ∧ (∃ n, n ≤ 24 ∧ sg 99 s = nI n) ∧ ∀ i, i < 24 → lg (72 + 2 * s) i = tw (24 * s + i)
def CX (iv : xIv) (lg : xLg) (sg : xIv) (tw : Nat → Int64) : Prop := CW iv 1 (vL sg) ∧ (iv 0 2 = sg 79 24 ∧ (sg 79 24 = 0 ∨ sg 79 24 = 1) ∧ (sg 79 24 = 1 → CW iv 19 (vK sg))) ∧ RD iv (vL sg) ∧ TP iv sg ∧ ST iv lg sg tw
def MV (iv : xIv) (lg : xLg) (sg : xIv) (tw : Nat → Int64) : Prop := (iv 79 1 = sg 79 1 ∧ iv 79 3 = sg 79 3 ∧ iv 79 6 = sg 79 6 ∧ iv 79 8 = sg 79 8 ∧ iv 79 9 = sg 79 9 ∧ iv 79 12 = sg 79 12 ∧ iv 79 24 = sg 79 24) ∧ (iv 80 = sg 80 ∧ iv 81 = sg 81 ∧ iv 82 = sg 82 ∧ iv 83 = sg 83 ∧ iv 84 = sg 84 ∧ iv 86 = sg 86 ∧ iv 96 = sg 96 ∧ iv 97 = sg 97 ∧ iv 98 = sg 98 ∧ iv 99 = sg 99) ∧ lg 100 = tw
def GG (t : Nat) (sg : xIv) : Prop := Gv t (vL sg) ∧ (sg 79 24 = 1 → Gv t (vK sg))
def refS (iv' : xIv) (lg' : xLg) (iv : xIv) (lg : xLg) : Prop := (∀ k, 79 ≤ k → iv' k = iv k) ∧ ∀ k, 79 ≤ k → lg' k = lg k
def clsS (iv' : xIv) (lg' : xLg) (iv : xIv) (lg : xLg) : Prop := (∀ k, k < 79 → iv' k = iv k) ∧ ∀ k, k < 79 → lg' k = lg k
/-- what holds between the law's turns -/
def INV (t : Nat) (iv : xIv) (lg : xLg) : Prop := ∃ sg tw, CX iv lg sg tw ∧ MV iv lg sg tw ∧ GG t sg
theorem refS.rfl {iv : xIv} {lg : xLg} : refS iv lg iv lg := ⟨fun _ _ => Eq.refl _, fun _ _ => Eq.refl _⟩
theorem clsS.rfl {iv : xIv} {lg : xLg} : clsS iv lg iv lg := ⟨fun _ _ => Eq.refl _, fun _ _ => Eq.refl _⟩
theorem CW_congr {iv iv' : xIv} {w : Nat} {v : xIv} (h : ∀ i, i < 18 → iv' (w + i) = iv (w + i)) (hC : CW iv w v) : CW iv' w v := by
  have h0 : iv' w = iv w := h 0 (by decide)
  unfold CW CWy CWp CWo at hC ⊢
  rw [h0, h 1 (by decide), h 2 (by decide), h 3 (by decide), h 4 (by decide), h 5 (by decide), h 6 (by decide), h 7 (by decide), h 8 (by decide), h 9 (by decide), h 10 (by decide), h 11 (by decide), h 12 (by decide), h 13 (by decide), h 14 (by decide), h 15 (by decide), h 16 (by decide), h 17 (by decide)]
  exact hC
theorem RD_congr {iv iv' : xIv} {v : xIv} (h : ∀ k, 37 ≤ k → k < 43 → iv' k = iv k) (hC : RD iv v) : RD iv' v := by
  obtain ⟨kn, h1, h2, h3⟩ := hC
  exact ⟨kn, h1, by rw [h 37 (by decide) (by decide)]; exact h2, fun k hk hb => by rw [h (39 + k) (by omega) (by omega)]; exact h3 k hk hb⟩
theorem ST_congr {iv iv' : xIv} {lg lg' : xLg} {sg : xIv} {tw : Nat → Int64} (h : ∀ k, 71 ≤ k → k < 79 → iv' k = iv k) (h2 : ∀ k, 71 ≤ k → k < 79 → lg' k = lg k) (hC : ST iv lg sg tw) : ST iv' lg' sg tw := by
  intro s hs
  rw [h (71 + 2 * s) (by omega) (by omega), h2 (72 + 2 * s) (by omega) (by omega)]
  exact hC s hs
theorem CX_congr {iv iv' : xIv} {lg lg' : xLg} {sg : xIv} {tw : Nat → Int64} (h : clsS iv' lg' iv lg) (hC : CX iv lg sg tw) : CX iv' lg' sg tw := by
  obtain ⟨h1, ⟨h2, h3, h4⟩, h5, h6, h7⟩ := hC
  obtain ⟨g1, g2⟩ := h
  refine ⟨CW_congr (fun i hi => g1 _ (by omega)) h1, ⟨by rw [g1 0 (by decide)]; exact h2, h3, fun z => CW_congr (fun i hi => g1 _ (by omega)) (h4 z)⟩, RD_congr (fun k _ hk => g1 k (by omega)) h5, ?_, ST_congr (fun k _ hk => g1 k hk) (fun k _ hk => g2 k hk) h7⟩
  unfold TP at h6 ⊢
  rw [g1 53 (by decide), g1 54 (by decide), g1 69 (by decide)]
  exact h6
theorem MV_congr {iv iv' : xIv} {lg lg' : xLg} {sg : xIv} {tw : Nat → Int64} (h : refS iv' lg' iv lg) (hC : MV iv lg sg tw) : MV iv' lg' sg tw := by
  obtain ⟨g1, g2⟩ := h
  unfold MV at hC ⊢
  rw [g1 79 (by decide), g1 80 (by decide), g1 81 (by decide), g1 82 (by decide), g1 83 (by decide), g1 84 (by decide), g1 86 (by decide), g1 96 (by decide), g1 97 (by decide), g1 98 (by decide), g1 99 (by decide), g2 100 (by decide)]
  exact hC
end
section
-- ===== how parts of a state stay =====
theorem xu2_s {α : Type} {f : Nat → Nat → α} {k j : Nat} {x : α} : xu2 f k j x k j = x := by unfold xu2; rw [if_pos rfl, if_pos rfl]
theorem xu2_k {α : Type} {f : Nat → Nat → α} {k j k' j' : Nat} {x : α} (h : k' ≠ k) : xu2 f k j x k' j' = f k' j' := by unfold xu2; rw [if_neg h]
theorem xu2_j {α : Type} {f : Nat → Nat → α} {k j k' j' : Nat} {x : α} (h : j' ≠ j) : xu2 f k j x k' j' = f k' j' := by unfold xu2; rw [if_neg h, ite_self]
theorem xu2_rc {α : Type} {f g : Nat → Nat → α} {k j k' : Nat} {x : α} (h : f k' = g k') : xu2 f k j x k' = xu2 g k j x k' := by
  funext b
  unfold xu2
  rw [h]
theorem xu2_ec {α : Type} {f g : Nat → Nat → α} {k j k' j' : Nat} {x : α} (h : f k' j' = g k' j') : xu2 f k j x k' j' = xu2 g k j x k' j' := by
  unfold xu2
  rw [h]
theorem ni5 (n : Nat) : (5 : Int32) * nI n = nI (5 * n) := pk_mul 5 n
theorem ni7 (n : Nat) : (7 : Int32) * nI n = nI (7 * n) := pk_mul 7 n
theorem ni_a (n c : Nat) : nI n + nI c = nI (n + c) := nI_add n c
theorem cl {n : Nat} (h : n < 2 ^ 31 := by omega) : (nI n).toNatClampNeg = n := nI_clamp h
theorem CWy.keep {iv iv' : xIv} {w : Nat} {v v' : xIv} (h : CWy iv w v) (hr : ∀ i, 1 ≤ i → i < 7 → iv' (w + i) = iv (w + i)) (h0 : v' 0 0 = v 0 0) (h1 : ∀ j, j < 5 * cnt v 0 → v' 1 j = v 1 j) : CWy iv' w v' := by
  have e0 : cnt v' 0 = cnt v 0 := by unfold cnt; rw [h0]
  unfold CWy at h ⊢
  rw [hr 1 (by decide) (by decide), hr 2 (by decide) (by decide), hr 3 (by decide) (by decide), hr 4 (by decide) (by decide), hr 5 (by decide) (by decide), hr 6 (by decide) (by decide), h0, e0]
  refine ⟨h.1, fun i hi => ?_⟩
  rw [h1 _ (by omega), h1 _ (by omega), h1 _ (by omega), h1 _ (by omega), h1 _ (by omega)]
  exact h.2 i hi
theorem CWp.keep {iv iv' : xIv} {w : Nat} {v v' : xIv} (h : CWp iv w v) (hr : ∀ i, 7 ≤ i → i < 16 → iv' (w + i) = iv (w + i)) (h0 : v' 0 1 = v 0 1) (h1 : ∀ j, j < 7 * cnt v 1 → v' 2 j = v 2 j) (h2 : ∀ j, j < 64 → v' 3 j = v 3 j) : CWp iv' w v' := by
  have e0 : cnt v' 1 = cnt v 1 := by unfold cnt; rw [h0]
  unfold CWp at h ⊢
  rw [hr 7 (by decide) (by decide), hr 8 (by decide) (by decide), hr 9 (by decide) (by decide), hr 10 (by decide) (by decide), hr 11 (by decide) (by decide), hr 12 (by decide) (by decide), hr 13 (by decide) (by decide), hr 14 (by decide) (by decide), hr 15 (by decide) (by decide), h0, e0]
  refine ⟨h.1, fun i hi => ?_, fun j hj => by rw [h2 j hj]; exact h.2.2 j hj⟩
  rw [h1 _ (by omega), h1 _ (by omega), h1 _ (by omega), h1 _ (by omega), h1 _ (by omega), h1 _ (by omega), h1 _ (by omega)]
  exact h.2.1 i hi
theorem CWo.keep {iv iv' : xIv} {w : Nat} {v v' : xIv} (h : CWo iv w v) (hr : iv' w = iv w) (hr1 : iv' (w + 16) = iv (w + 16)) (hr2 : iv' (w + 17) = iv (w + 17)) (h0 : v' 0 2 = v 0 2) (h3 : v' 0 3 = v 0 3) (h4 : v' 0 4 = v 0 4) (h5 : ∀ j, j < cnt v 2 → v' 5 j = v 5 j) (h6 : ∀ j, j < 4 → v' 4 j = v 4 j) : CWo iv' w v' := by
  have e0 : cnt v' 2 = cnt v 2 := by unfold cnt; rw [h0]
  unfold CWo at h ⊢
  rw [hr, hr1, hr2, h0, h3, h4, e0]
  exact ⟨h.1, fun j hj => by rw [h5 j hj]; exact h.2.1 j hj, fun j hj => by rw [h6 j hj]; exact h.2.2.1 j hj, h.2.2.2⟩
theorem RD.keep {iv iv' : xIv} {v v' : xIv} (h : RD iv v) (hr : ∀ k, 37 ≤ k → k < 43 → iv' k = iv k) (h0 : v' 0 0 = v 0 0) (h1 : ∀ w f, w < cnt v 0 → f < 4 → v' 1 (5 * w + f) = v 1 (5 * w + f)) : RD iv' v' := by
  obtain ⟨kn, g1, g2, g3⟩ := RD_congr hr h
  exact ⟨kn, g1, g2, fun k hk hb a b ha hb2 => by rw [dst_congr h0 h1]; exact g3 k hk hb a b ha hb2⟩
theorem RD.zero {iv : xIv} {v : xIv} (h : iv 37 2 = 0) : RD iv v := ⟨0, by decide, h, fun k _ hb => by simp at hb⟩
theorem TP.keep {iv iv' sg sg' : xIv} (h : TP iv sg) (h1 : iv' 53 1 = iv 53 1) (h2 : iv' 54 = iv 54) (h3 : iv' 69 = iv 69) (h4 : sg' 79 12 = sg 79 12) (h5 : sg' 86 = sg 86) : TP iv' sg' := by
  unfold TP at h ⊢
  rw [h1, h2, h3, h4, h5]
  exact h
theorem ST.keep {iv iv' sg sg' : xIv} {lg lg' : xLg} {tw : Nat → Int64} (h : ST iv lg sg tw) (hr : ∀ k, 71 ≤ k → k < 79 → iv' k = iv k) (hl : ∀ k, 71 ≤ k → k < 79 → lg' k = lg k) (h1 : sg' 98 = sg 98) (h2 : sg' 99 = sg 99) : ST iv' lg' sg' tw := by
  unfold ST at h ⊢
  rw [h1, h2]
  exact ST_congr hr hl h
theorem CX.kept {iv iv' sg sg' : xIv} {lg : xLg} {tw : Nat → Int64} (h : CX iv lg sg tw) (hr : ∀ k, 19 ≤ k → k < 37 → iv' k = iv k) (h0 : iv' 0 2 = iv 0 2) (h1 : sg' 79 24 = sg 79 24) (h2 : sg' 96 = sg 96) (h3 : sg' 97 = sg 97) : iv' 0 2 = sg' 79 24 ∧ (sg' 79 24 = 0 ∨ sg' 79 24 = 1) ∧ (sg' 79 24 = 1 → CW iv' 19 (vK sg')) := by
  obtain ⟨-, ⟨g1, g2, g3⟩, -⟩ := h
  rw [h0, h1]
  refine ⟨g1, g2, fun z => ?_⟩
  have e : vK sg' = vK sg := by
    funext r j
    unfold vK
    rw [h2, h3]
  rw [e]
  exact CW_congr (fun i hi => hr _ (by omega) (by omega)) (g3 z)
theorem Gv.mono {t t' : Nat} {v : xIv} (h : Gv t v) (ht : t ≤ t') : Gv t' v := by
  obtain ⟨h1, h2, h3, h4, h5, h6, h7, h8, h9, h10⟩ := h
  exact ⟨h1, h2, h3, h4, h5, h6, h7, fun j hj => ⟨(h8 j hj).1, by have := (h8 j hj).2; omega⟩, h9, h10⟩
theorem GG.mono {t t' : Nat} {sg : xIv} (h : GG t sg) (ht : t ≤ t') : GG t' sg := ⟨h.1.mono ht, fun z => (h.2 z).mono ht⟩
theorem GG.kept {t : Nat} {sg sg' : xIv} (h : GG t sg) (hL : Gv (t + 1) (vL sg')) (h1 : sg' 79 24 = sg 79 24) (h2 : sg' 96 = sg 96) (h3 : sg' 97 = sg 97) : GG (t + 1) sg' := by
  refine ⟨hL, fun z => ?_⟩
  have e : vK sg' = vK sg := by
    funext r j
    unfold vK
    rw [h2, h3]
  rw [e]
  exact (h.2 (h1 ▸ z)).mono (Nat.le_succ t)
/-- a call of the class and the same call of the reference: like answers, and the state stands -/
def EQ (mc mm : Nat) (as : List Value) : Prop := ∀ {L : Nat} {xs : Nat → Int32} {t : Nat} {iv : xIv} {lg : xLg} {Q : xQ}, INV t iv lg → t < 512 → (∀ (v : Int32) (iv1 : xIv) (lg1 : xLg), (∀ Q2 : xQ, (∀ iv2 lg2, INV (t + 1) iv2 lg2 → Q2 (some (.int v)) SH RF iv2 lg2) → Sp L xs mm (.ref 79 :: as) SH RF iv1 lg1 Q2) → Q (some (.int v)) SH RF iv1 lg1) → Sp L xs mc (.ref 0 :: as) SH RF iv lg Q
/-- out of the two sides, each against one account of the call -/
theorem EQ.of {mc mm : Nat} {as : List Value} (op : xIv → (Nat → Int64) → Int32 × xIv × (Nat → Int64))
    (hc : ∀ {L : Nat} {xs : Nat → Int32} {t : Nat} {iv : xIv} {lg : xLg} {Q : xQ} {sg : xIv} {tw : Nat → Int64}, CX iv lg sg tw → GG t sg → t < 512 → (∀ iv' lg', CX iv' lg' (op sg tw).2.1 (op sg tw).2.2 → refS iv' lg' iv lg → Q (some (.int (op sg tw).1)) SH RF iv' lg') → Sp L xs mc (.ref 0 :: as) SH RF iv lg Q)
    (hm : ∀ {L : Nat} {xs : Nat → Int32} {t : Nat} {iv : xIv} {lg : xLg} {Q : xQ} {sg : xIv} {tw : Nat → Int64}, MV iv lg sg tw → GG t sg → t < 512 → (∀ iv' lg', MV iv' lg' (op sg tw).2.1 (op sg tw).2.2 → clsS iv' lg' iv lg → Q (some (.int (op sg tw).1)) SH RF iv' lg') → Sp L xs mm (.ref 79 :: as) SH RF iv lg Q)
    (hg : ∀ {t : Nat} {sg : xIv} {tw : Nat → Int64}, GG t sg → t < 512 → GG (t + 1) (op sg tw).2.1) : EQ mc mm as := by
  intro L xs t iv lg Q hI ht k
  obtain ⟨sg, tw, hC, hM, hG⟩ := hI
  refine hc hC hG ht (fun iv1 lg1 hC1 hr => k _ iv1 lg1 (fun Q2 k2 => ?_))
  exact hm (MV_congr hr hM) hG ht (fun iv2 lg2 hM2 hs => k2 iv2 lg2 ⟨_, _, CX_congr hs hC1, hM2, hg hG ht⟩)
end
section
-- ===== one number of a state changes, on both sides =====
theorem MV.up {iv sg : xIv} {lg : xLg} {tw : Nat → Int64} (h : MV iv lg sg tw) (k j : Nat) (x : Int32) : MV (xu2 iv k j x) lg (xu2 sg k j x) tw := by
  obtain ⟨⟨a1, a2, a3, a4, a5, a6, a7⟩, ⟨b1, b2, b3, b4, b5, b6, b7, b8, b9, b10⟩, c⟩ := h
  exact ⟨⟨xu2_ec a1, xu2_ec a2, xu2_ec a3, xu2_ec a4, xu2_ec a5, xu2_ec a6, xu2_ec a7⟩, ⟨xu2_rc b1, xu2_rc b2, xu2_rc b3, xu2_rc b4, xu2_rc b5, xu2_rc b6, xu2_rc b7, xu2_rc b8, xu2_rc b9, xu2_rc b10⟩, c⟩
/-- the reference's own working rows -/
theorem MV.wk {iv iv' sg : xIv} {lg : xLg} {tw : Nat → Int64} (h : MV iv lg sg tw) (h79 : ∀ j, j ≠ 13 → j ≠ 14 → iv' 79 j = iv 79 j) (hr : ∀ k, (k = 80 ∨ k = 81 ∨ k = 82 ∨ k = 83 ∨ k = 84 ∨ k = 86 ∨ k = 96 ∨ k = 97 ∨ k = 98 ∨ k = 99) → iv' k = iv k) : MV iv' lg sg tw := by
  unfold MV at h ⊢
  rw [h79 1 (by decide) (by decide), h79 3 (by decide) (by decide), h79 6 (by decide) (by decide), h79 8 (by decide) (by decide), h79 9 (by decide) (by decide), h79 12 (by decide) (by decide), h79 24 (by decide) (by decide), hr 80 (by decide), hr 81 (by decide), hr 82 (by decide), hr 83 (by decide), hr 84 (by decide), hr 86 (by decide), hr 96 (by decide), hr 97 (by decide), hr 98 (by decide), hr 99 (by decide)]
  exact h
theorem clsS.up {iv iv' : xIv} {lg lg' : xLg} (h : clsS iv' lg' iv lg) {k j : Nat} {x : Int32} (hk : 79 ≤ k) : clsS (xu2 iv' k j x) lg' iv lg := ⟨fun k' hk' => by rw [xu2_ne (by omega)]; exact h.1 k' hk', h.2⟩
theorem refS.up {iv iv' : xIv} {lg lg' : xLg} (h : refS iv' lg' iv lg) {k j : Nat} {x : Int32} (hk : k < 79) : refS (xu2 iv' k j x) lg' iv lg := ⟨fun k' hk' => by rw [xu2_ne (by omega)]; exact h.1 k' hk', h.2⟩
theorem clsS.trans {a b c : xIv} {la lb lc : xLg} (h : clsS a la b lb) (h2 : clsS b lb c lc) : clsS a la c lc := ⟨fun k hk => (h.1 k hk).trans (h2.1 k hk), fun k hk => (h.2 k hk).trans (h2.2 k hk)⟩
theorem refS.trans {a b c : xIv} {la lb lc : xLg} (h : refS a la b lb) (h2 : refS b lb c lc) : refS a la c lc := ⟨fun k hk => (h.1 k hk).trans (h2.1 k hk), fun k hk => (h.2 k hk).trans (h2.2 k hk)⟩
section UPD
variable {iv : xIv} {lg : xLg} {sg : xIv} {tw : Nat → Int64} {x : Int32}
/-- where nothing of the live numbers moves but by these three, the rest stands -/
theorem CX.of {iv' sg' : xIv} (hC : CX iv lg sg tw) (hy : CWy iv' 1 (vL sg')) (hp : CWp iv' 1 (vL sg')) (ho : CWo iv' 1 (vL sg')) (hrd : RD iv' (vL sg')) (hr : ∀ k, 19 ≤ k → k < 37 → iv' k = iv k) (h0 : iv' 0 2 = iv 0 2) (h53 : iv' 53 1 = iv 53 1) (h54 : iv' 54 = iv 54) (h69 : iv' 69 = iv 69) (h71 : ∀ k, 71 ≤ k → k < 79 → iv' k = iv k)
    (g1 : sg' 79 24 = sg 79 24) (g2 : sg' 79 12 = sg 79 12) (g3 : sg' 86 = sg 86) (g4 : sg' 96 = sg 96) (g5 : sg' 97 = sg 97) (g6 : sg' 98 = sg 98) (g7 : sg' 99 = sg 99) : CX iv' lg sg' tw :=
  ⟨⟨hy, hp, ho⟩, hC.kept hr h0 g1 g4 g5, hrd, hC.2.2.2.1.keep h53 h54 h69 g2 g3, hC.2.2.2.2.keep h71 (fun _ _ _ => rfl) g6 g7⟩
theorem vL_ne {k j r : Nat} (hr : r = 0 → k ≠ 79) (h1 : r = 1 → k ≠ 80) (h2 : r = 2 → k ≠ 81) (h3 : r = 3 → k ≠ 82) (h4 : r = 4 → k ≠ 83) (h5 : 5 ≤ r → k ≠ 84) : vL (xu2 sg k j x) r = vL sg r := by
  funext b
  match r with
  | 0 =>
    have := hr rfl
    unfold vL
    rw [xu2_ne (fun z => this z.symm)]
    rfl
  | 1 => exact xu2_k (fun z => h1 rfl z.symm)
  | 2 => exact xu2_k (fun z => h2 rfl z.symm)
  | 3 => exact xu2_k (fun z => h3 rfl z.symm)
  | 4 => exact xu2_k (fun z => h4 rfl z.symm)
  | r + 5 => exact xu2_k (fun z => h5 (by omega) z.symm)
/-- one of people: field f of p -/
theorem CX.p (hC : CX iv lg sg tw) {p f : Nat} (hp : p < cnt (vL sg) 1) (hf : f < 7) : CX (xu2 iv (9 + f) p x) lg (xu2 sg 81 (7 * p + f) x) tw := by
  obtain ⟨⟨hy, hpp, ho⟩, hk, hrd, htp, hst⟩ := id hC
  have v0 : vL (xu2 sg 81 (7 * p + f) x) 0 = vL sg 0 := vL_ne (by decide) (by decide) (by decide) (by decide) (by decide) (by decide)
  have v1 : vL (xu2 sg 81 (7 * p + f) x) 1 = vL sg 1 := vL_ne (by decide) (by decide) (by decide) (by decide) (by decide) (by decide)
  have v3 : vL (xu2 sg 81 (7 * p + f) x) 3 = vL sg 3 := vL_ne (by decide) (by decide) (by decide) (by decide) (by decide) (by decide)
  have v4 : vL (xu2 sg 81 (7 * p + f) x) 4 = vL sg 4 := vL_ne (by decide) (by decide) (by decide) (by decide) (by decide) (by decide)
  have v5 : vL (xu2 sg 81 (7 * p + f) x) 5 = vL sg 5 := vL_ne (by decide) (by decide) (by decide) (by decide) (by decide) (by decide)
  have hr : ∀ k, (k < 9 ∨ 15 < k) → xu2 iv (9 + f) p x k = iv k := fun k hk => xu2_ne (by omega)
  refine hC.of (hy.keep (fun i a b => hr _ (by omega)) (by rw [v0]) (fun j _ => by rw [v1])) ?_ (ho.keep (hr _ (by omega)) (hr _ (by omega)) (hr _ (by omega)) (by rw [v0]) (by rw [v0]) (by rw [v0]) (fun j _ => by rw [v5]) (fun j _ => by rw [v4])) (hrd.keep (fun k a b => hr k (by omega)) (by rw [v0]) (fun w f _ _ => by rw [v1])) (fun k a b => hr k (by omega)) (by rw [hr 0 (by omega)]) (by rw [hr 53 (by omega)]) (hr 54 (by omega)) (hr 69 (by omega)) (fun k a b => hr k (by omega)) (xu2_k (by decide)) (xu2_k (by decide)) (xu2_ne (by decide)) (xu2_ne (by decide)) (xu2_ne (by decide)) (xu2_ne (by decide)) (xu2_ne (by decide))
  have e0 : cnt (vL (xu2 sg 81 (7 * p + f) x)) 1 = cnt (vL sg) 1 := by unfold cnt; rw [v0]
  refine ⟨?_, fun q hq => ?_, fun j hj => ?_⟩
  · show xu2 iv (9 + f) p x 8 0 = _
    rw [hr 8 (by omega), v0]
    exact hpp.1
  · rw [e0] at hq
    have key : ∀ g, g < 7 → iv (9 + g) q = vL sg 2 (7 * q + g) → xu2 iv (9 + f) p x (9 + g) q = vL (xu2 sg 81 (7 * p + f) x) 2 (7 * q + g) := by
      intro g hg h
      show _ = xu2 sg 81 (7 * p + f) x 81 (7 * q + g)
      by_cases e : g = f ∧ q = p
      · rw [e.1, e.2, xu2_s, xu2_s]
      · rw [show xu2 iv (9 + f) p x (9 + g) q = iv (9 + g) q by
          by_cases e1 : g = f
          · rw [e1]; exact xu2_j (fun z => e ⟨e1, z⟩)
          · exact xu2_k (by omega), xu2_j (by omega)]
        exact h
    obtain ⟨b0, b1, b2, b3, b4, b5, b6⟩ := hpp.2.1 q hq
    exact ⟨key 0 (by decide) b0, key 1 (by decide) b1, key 2 (by decide) b2, key 3 (by decide) b3, key 4 (by decide) b4, key 5 (by decide) b5, key 6 (by decide) b6⟩
  · rw [v3]
    show xu2 iv (9 + f) p x 16 j = _
    rw [hr 16 (by omega)]
    exact hpp.2.2 j hj
/-- what is owed -/
theorem CX.o (hC : CX iv lg sg tw) {j : Nat} : CX (xu2 iv 16 j x) lg (xu2 sg 82 j x) tw := by
  obtain ⟨⟨hy, hpp, ho⟩, hk, hrd, htp, hst⟩ := id hC
  have v0 : vL (xu2 sg 82 j x) 0 = vL sg 0 := vL_ne (by decide) (by decide) (by decide) (by decide) (by decide) (by decide)
  have v1 : vL (xu2 sg 82 j x) 1 = vL sg 1 := vL_ne (by decide) (by decide) (by decide) (by decide) (by decide) (by decide)
  have v2 : vL (xu2 sg 82 j x) 2 = vL sg 2 := vL_ne (by decide) (by decide) (by decide) (by decide) (by decide) (by decide)
  have v4 : vL (xu2 sg 82 j x) 4 = vL sg 4 := vL_ne (by decide) (by decide) (by decide) (by decide) (by decide) (by decide)
  have v5 : vL (xu2 sg 82 j x) 5 = vL sg 5 := vL_ne (by decide) (by decide) (by decide) (by decide) (by decide) (by decide)
  have hr : ∀ k, k ≠ 16 → xu2 iv 16 j x k = iv k := fun k hk => xu2_ne hk
  refine hC.of (hy.keep (fun i a b => hr _ (by omega)) (by rw [v0]) (fun j _ => by rw [v1])) ?_ (ho.keep (hr _ (by omega)) (hr _ (by omega)) (hr _ (by omega)) (by rw [v0]) (by rw [v0]) (by rw [v0]) (fun j _ => by rw [v5]) (fun j _ => by rw [v4])) (hrd.keep (fun k a b => hr k (by omega)) (by rw [v0]) (fun w f _ _ => by rw [v1])) (fun k a b => hr k (by omega)) (by rw [hr 0 (by omega)]) (by rw [hr 53 (by omega)]) (hr 54 (by omega)) (hr 69 (by omega)) (fun k a b => hr k (by omega)) (xu2_k (by decide)) (xu2_k (by decide)) (xu2_ne (by decide)) (xu2_ne (by decide)) (xu2_ne (by decide)) (xu2_ne (by decide)) (xu2_ne (by decide))
  have e0 : cnt (vL (xu2 sg 82 j x)) 1 = cnt (vL sg) 1 := by unfold cnt; rw [v0]
  refine ⟨?_, fun q hq => ?_, fun i hi => ?_⟩
  · rw [v0]
    exact (congrFun (hr 8 (by decide)) 0).trans hpp.1
  · rw [e0] at hq
    rw [v2]
    have := hpp.2.1 q hq
    rw [hr _ (by omega), hr _ (by omega), hr _ (by omega), hr _ (by omega), hr _ (by omega), hr _ (by omega), hr _ (by omega)]
    exact this
  · show xu2 iv 16 j x 16 i = xu2 sg 82 j x 82 i
    by_cases e : i = j
    · rw [e, xu2_s, xu2_s]
    · rw [xu2_j e, xu2_j e]
      exact hpp.2.2 i hi
/-- rows of the class that hold nothing between calls -/
theorem CX.w (hC : CX iv lg sg tw) {k j : Nat} (hk : (43 ≤ k ∧ k < 53) ∨ (k = 53 ∧ j = 2) ∨ (55 ≤ k ∧ k < 69)) : CX (xu2 iv k j x) lg sg tw := by
  obtain ⟨⟨hy, hpp, ho⟩, hkk, hrd, htp, hst⟩ := id hC
  have hr : ∀ k', k' < 43 ∨ k' = 54 ∨ 69 ≤ k' → xu2 iv k j x k' = iv k' := fun k' hk' => xu2_ne (by omega)
  refine hC.of (hy.keep (fun i a b => hr _ (by omega)) rfl (fun j _ => rfl)) (hpp.keep (fun i a b => hr _ (by omega)) rfl (fun _ _ => rfl) (fun _ _ => rfl)) (ho.keep (hr _ (by omega)) (hr _ (by omega)) (hr _ (by omega)) rfl rfl rfl (fun j _ => rfl) (fun j _ => rfl)) (hrd.keep (fun k a b => hr k (by omega)) rfl (fun w f _ _ => rfl)) (fun k a b => hr k (by omega)) (by rw [hr 0 (by omega)]) ?_ (hr 54 (by omega)) (hr 69 (by omega)) (fun k a b => hr k (by omega)) rfl rfl rfl rfl rfl rfl rfl
  by_cases e : k = 53
  · subst e
    exact xu2_j (by omega)
  · exact xu2_k (fun z => e z.symm)
theorem CX.wr (hC : CX iv lg sg tw) {k : Nat} {row : Nat → Int32} (hk : (43 ≤ k ∧ k < 53) ∨ (55 ≤ k ∧ k < 69)) : CX (xur iv k row) lg sg tw := by
  obtain ⟨⟨hy, hpp, ho⟩, hkk, hrd, htp, hst⟩ := id hC
  have hr : ∀ k', k' < 43 ∨ k' = 53 ∨ k' = 54 ∨ 69 ≤ k' → xur iv k row k' = iv k' := fun k' hk' => xur_ne (by omega)
  exact hC.of (hy.keep (fun i a b => hr _ (by omega)) rfl (fun j _ => rfl)) (hpp.keep (fun i a b => hr _ (by omega)) rfl (fun _ _ => rfl) (fun _ _ => rfl)) (ho.keep (hr _ (by omega)) (hr _ (by omega)) (hr _ (by omega)) rfl rfl rfl (fun j _ => rfl) (fun j _ => rfl)) (hrd.keep (fun k a b => hr k (by omega)) rfl (fun w f _ _ => rfl)) (fun k a b => hr k (by omega)) (by rw [hr 0 (by omega)]) (by rw [hr 53 (by omega)]) (hr 54 (by omega)) (hr 69 (by omega)) (fun k a b => hr k (by omega)) rfl rfl rfl rfl rfl rfl rfl
/-- what is given -/
theorem CX.g (hC : CX iv lg sg tw) {j : Nat} : CX (xu2 iv 18 j x) lg (xu2 sg 83 j x) tw := by
  obtain ⟨⟨hy, hpp, ho⟩, hk, hrd, htp, hst⟩ := id hC
  have v0 : vL (xu2 sg 83 j x) 0 = vL sg 0 := vL_ne (by decide) (by decide) (by decide) (by decide) (by decide) (by decide)
  have v1 : vL (xu2 sg 83 j x) 1 = vL sg 1 := vL_ne (by decide) (by decide) (by decide) (by decide) (by decide) (by decide)
  have v2 : vL (xu2 sg 83 j x) 2 = vL sg 2 := vL_ne (by decide) (by decide) (by decide) (by decide) (by decide) (by decide)
  have v3 : vL (xu2 sg 83 j x) 3 = vL sg 3 := vL_ne (by decide) (by decide) (by decide) (by decide) (by decide) (by decide)
  have v5 : vL (xu2 sg 83 j x) 5 = vL sg 5 := vL_ne (by decide) (by decide) (by decide) (by decide) (by decide) (by decide)
  have hr : ∀ k, k ≠ 18 → xu2 iv 18 j x k = iv k := fun k hk => xu2_ne hk
  refine hC.of (hy.keep (fun i a b => hr _ (by omega)) (by rw [v0]) (fun j _ => by rw [v1])) (hpp.keep (fun i a b => hr _ (by omega)) (by rw [v0]) (fun j _ => by rw [v2]) (fun j _ => by rw [v3])) ?_ (hrd.keep (fun k a b => hr k (by omega)) (by rw [v0]) (fun w f _ _ => by rw [v1])) (fun k a b => hr k (by omega)) (by rw [hr 0 (by omega)]) (by rw [hr 53 (by omega)]) (hr 54 (by omega)) (hr 69 (by omega)) (fun k a b => hr k (by omega)) (xu2_k (by decide)) (xu2_k (by decide)) (xu2_ne (by decide)) (xu2_ne (by decide)) (xu2_ne (by decide)) (xu2_ne (by decide)) (xu2_ne (by decide))
  have e0 : cnt (vL (xu2 sg 83 j x)) 2 = cnt (vL sg) 2 := by unfold cnt; rw [v0]
  obtain ⟨o1, o2, o3, o4, o5⟩ := ho
  refine ⟨?_, fun q hq => ?_, fun i hi => ?_, ?_, ?_⟩
  · rw [v0]; exact (congrFun (hr 1 (by decide)) 2).trans o1
  · rw [e0] at hq
    rw [v5]; exact (congrFun (hr 17 (by decide)) q).trans (o2 q hq)
  · show xu2 iv 18 j x 18 i = xu2 sg 83 j x 83 i
    by_cases e : i = j
    · rw [e, xu2_s, xu2_s]
    · rw [xu2_j e, xu2_j e]
      exact o3 i hi
  · rw [v0]; exact (congrFun (hr 1 (by decide)) 5).trans o4
  · rw [v0]; exact (congrFun (hr 1 (by decide)) 6).trans o5
/-- law, spent, errands' count: a number of the world's own, and of the reference's -/
theorem CX.s (hC : CX iv lg sg tw) {j i : Nat} (hji : (j = 5 ∧ i = 6) ∨ (j = 6 ∧ i = 9) ∨ (j = 2 ∧ i = 8 ∧ x.toNatClampNeg ≤ cnt (vL sg) 2)) : CX (xu2 iv 1 j x) lg (xu2 sg 79 i x) tw := by
  obtain ⟨⟨hy, hpp, ho⟩, hk, hrd, htp, hst⟩ := id hC
  have v1 : vL (xu2 sg 79 i x) 1 = vL sg 1 := vL_ne (by decide) (by decide) (by decide) (by decide) (by decide) (by decide)
  have v2 : vL (xu2 sg 79 i x) 2 = vL sg 2 := vL_ne (by decide) (by decide) (by decide) (by decide) (by decide) (by decide)
  have v3 : vL (xu2 sg 79 i x) 3 = vL sg 3 := vL_ne (by decide) (by decide) (by decide) (by decide) (by decide) (by decide)
  have v4 : vL (xu2 sg 79 i x) 4 = vL sg 4 := vL_ne (by decide) (by decide) (by decide) (by decide) (by decide) (by decide)
  have v5 : vL (xu2 sg 79 i x) 5 = vL sg 5 := vL_ne (by decide) (by decide) (by decide) (by decide) (by decide) (by decide)
  have v00 : vL (xu2 sg 79 i x) 0 0 = vL sg 0 0 := xu2_j (by omega)
  have v01 : vL (xu2 sg 79 i x) 0 1 = vL sg 0 1 := xu2_j (by omega)
  have hr : ∀ k, k ≠ 1 → xu2 iv 1 j x k = iv k := fun k hk => xu2_ne hk
  refine hC.of (hy.keep (fun i a b => hr _ (by omega)) v00 (fun j _ => by rw [v1])) (hpp.keep (fun i a b => hr _ (by omega)) v01 (fun j _ => by rw [v2]) (fun j _ => by rw [v3])) ?_ (hrd.keep (fun k a b => hr k (by omega)) v00 (fun w f _ _ => by rw [v1])) (fun k a b => hr k (by omega)) (by rw [hr 0 (by omega)]) (by rw [hr 53 (by omega)]) (hr 54 (by omega)) (hr 69 (by omega)) (fun k a b => hr k (by omega)) (xu2_j (by omega)) (xu2_j (by omega)) (xu2_ne (by decide)) (xu2_ne (by decide)) (xu2_ne (by decide)) (xu2_ne (by decide)) (xu2_ne (by decide))
  obtain ⟨o1, o2, o3, o4, o5⟩ := ho
  refine ⟨?_, fun q hq => ?_, fun i hi => ?_, ?_, ?_⟩
  · show xu2 iv 1 j x 1 2 = xu2 sg 79 i x 79 8
    by_cases e : j = 2
    · rw [show i = 8 by omega, e, xu2_s, xu2_s]
    · rw [xu2_j (by omega), xu2_j (by omega)]; exact o1
  · rw [v5]
    refine (congrFun (hr 17 (by decide)) q).trans (o2 q ?_)
    by_cases e : j = 2
    · have ei : i = 8 := by omega
      subst ei
      have hc : cnt (vL (xu2 sg 79 8 x)) 2 = x.toNatClampNeg := by
        show (xu2 sg 79 8 x 79 8).toNatClampNeg = _
        rw [xu2_s]
      rw [hc] at hq
      omega
    · have hc : cnt (vL (xu2 sg 79 i x)) 2 = cnt (vL sg) 2 := by
        show (xu2 sg 79 i x 79 8).toNatClampNeg = _
        rw [xu2_j (by omega)]
        rfl
      rw [hc] at hq
      exact hq
  · rw [v4]; exact (congrFun (hr 18 (by decide)) i).trans (o3 i hi)
  · show xu2 iv 1 j x 1 5 = xu2 sg 79 i x 79 6
    by_cases e : j = 5
    · rw [show i = 6 by omega, e, xu2_s, xu2_s]
    · rw [xu2_j (by omega), xu2_j (by omega)]; exact o4
  · show xu2 iv 1 j x 1 6 = xu2 sg 79 i x 79 9
    by_cases e : j = 6
    · rw [show i = 9 by omega, e, xu2_s, xu2_s]
    · rw [xu2_j (by omega), xu2_j (by omega)]; exact o5
/-- one more errand -/
theorem CX.e (hC : CX iv lg sg tw) {n : Nat} (hn : n = cnt (vL sg) 2) (h6 : n < 6) : CX (xu2 (xu2 iv 17 n x) 1 2 (nI (n + 1))) lg (xu2 (xu2 sg 84 n x) 79 8 (nI (n + 1))) tw := by
  obtain ⟨⟨hy, hpp, ho⟩, hk, hrd, htp, hst⟩ := id hC
  have v1 : vL (xu2 (xu2 sg 84 n x) 79 8 (nI (n + 1))) 1 = vL sg 1 := (vL_ne (by decide) (by decide) (by decide) (by decide) (by decide) (by decide)).trans (vL_ne (by decide) (by decide) (by decide) (by decide) (by decide) (by decide))
  have v2 : vL (xu2 (xu2 sg 84 n x) 79 8 (nI (n + 1))) 2 = vL sg 2 := (vL_ne (by decide) (by decide) (by decide) (by decide) (by decide) (by decide)).trans (vL_ne (by decide) (by decide) (by decide) (by decide) (by decide) (by decide))
  have v3 : vL (xu2 (xu2 sg 84 n x) 79 8 (nI (n + 1))) 3 = vL sg 3 := (vL_ne (by decide) (by decide) (by decide) (by decide) (by decide) (by decide)).trans (vL_ne (by decide) (by decide) (by decide) (by decide) (by decide) (by decide))
  have v4 : vL (xu2 (xu2 sg 84 n x) 79 8 (nI (n + 1))) 4 = vL sg 4 := (vL_ne (by decide) (by decide) (by decide) (by decide) (by decide) (by decide)).trans (vL_ne (by decide) (by decide) (by decide) (by decide) (by decide) (by decide))
  have s79 : ∀ i, i ≠ 8 → xu2 (xu2 sg 84 n x) 79 8 (nI (n + 1)) 79 i = sg 79 i := fun i hi => by rw [xu2_j hi, xu2_k (by decide)]
  have srow : ∀ k, k ≠ 79 → k ≠ 84 → xu2 (xu2 sg 84 n x) 79 8 (nI (n + 1)) k = sg k := fun k a b => by rw [xu2_ne a, xu2_ne b]
  have hr : ∀ k, k ≠ 1 → k ≠ 17 → xu2 (xu2 iv 17 n x) 1 2 (nI (n + 1)) k = iv k := fun k a b => by rw [xu2_ne a, xu2_ne b]
  refine hC.of (hy.keep (fun i a b => hr _ (by omega) (by omega)) (s79 1 (by decide)) (fun j _ => by rw [v1])) (hpp.keep (fun i a b => hr _ (by omega) (by omega)) (s79 3 (by decide)) (fun j _ => by rw [v2]) (fun j _ => by rw [v3])) ?_ (hrd.keep (fun k a b => hr k (by omega) (by omega)) (s79 1 (by decide)) (fun w f _ _ => by rw [v1])) (fun k a b => hr k (by omega) (by omega)) (by rw [hr 0 (by omega) (by omega)]) (by rw [hr 53 (by omega) (by omega)]) (hr 54 (by omega) (by omega)) (hr 69 (by omega) (by omega)) (fun k a b => hr k (by omega) (by omega)) (s79 24 (by decide)) (s79 12 (by decide)) (srow 86 (by decide) (by decide)) (srow 96 (by decide) (by decide)) (srow 97 (by decide) (by decide)) (srow 98 (by decide) (by decide)) (srow 99 (by decide) (by decide))
  obtain ⟨o1, o2, o3, o4, o5⟩ := ho
  refine ⟨?_, fun q hq => ?_, fun i hi => ?_, ?_, ?_⟩
  · show xu2 (xu2 iv 17 n x) 1 2 (nI (n + 1)) 1 2 = xu2 (xu2 sg 84 n x) 79 8 (nI (n + 1)) 79 8
    rw [xu2_s, xu2_s]
  · have hc : cnt (vL (xu2 (xu2 sg 84 n x) 79 8 (nI (n + 1)))) 2 = n + 1 := by
      show (xu2 (xu2 sg 84 n x) 79 8 (nI (n + 1)) 79 8).toNatClampNeg = _
      rw [xu2_s, cl]
    rw [hc] at hq
    show xu2 (xu2 iv 17 n x) 1 2 (nI (n + 1)) 17 q = xu2 (xu2 sg 84 n x) 79 8 (nI (n + 1)) 84 q
    rw [xu2_k (k := 1) (by decide), xu2_k (k := 79) (by decide)]
    by_cases e : q = n
    · rw [e, xu2_s, xu2_s]
    · rw [xu2_j e, xu2_j e]
      exact o2 q (by omega)
  · rw [v4]; exact (congrFun (hr 18 (by decide) (by decide)) i).trans (o3 i hi)
  · show xu2 (xu2 iv 17 n x) 1 2 (nI (n + 1)) 1 5 = xu2 (xu2 sg 84 n x) 79 8 (nI (n + 1)) 79 6
    rw [xu2_j (by decide), xu2_k (by decide), s79 6 (by decide)]
    exact o4
  · show xu2 (xu2 iv 17 n x) 1 2 (nI (n + 1)) 1 6 = xu2 (xu2 sg 84 n x) 79 8 (nI (n + 1)) 79 9
    rw [xu2_j (by decide), xu2_k (by decide), s79 9 (by decide)]
    exact o5
/-- a gate -/
theorem CX.gt (hC : CX iv lg sg tw) {w : Nat} (hw : w < cnt (vL sg) 0) : CX (xu2 iv 7 w x) lg (xu2 sg 80 (5 * w + 4) x) tw := by
  obtain ⟨⟨hy, hpp, ho⟩, hk, hrd, htp, hst⟩ := id hC
  have v0 : vL (xu2 sg 80 (5 * w + 4) x) 0 = vL sg 0 := vL_ne (by decide) (by decide) (by decide) (by decide) (by decide) (by decide)
  have v2 : vL (xu2 sg 80 (5 * w + 4) x) 2 = vL sg 2 := vL_ne (by decide) (by decide) (by decide) (by decide) (by decide) (by decide)
  have v3 : vL (xu2 sg 80 (5 * w + 4) x) 3 = vL sg 3 := vL_ne (by decide) (by decide) (by decide) (by decide) (by decide) (by decide)
  have v4 : vL (xu2 sg 80 (5 * w + 4) x) 4 = vL sg 4 := vL_ne (by decide) (by decide) (by decide) (by decide) (by decide) (by decide)
  have v5 : vL (xu2 sg 80 (5 * w + 4) x) 5 = vL sg 5 := vL_ne (by decide) (by decide) (by decide) (by decide) (by decide) (by decide)
  have hr : ∀ k, k ≠ 7 → xu2 iv 7 w x k = iv k := fun k hk => xu2_ne hk
  have e1 : ∀ j, j ≠ 5 * w + 4 → vL (xu2 sg 80 (5 * w + 4) x) 1 j = vL sg 1 j := fun j hj => xu2_j hj
  refine hC.of ?_ (hpp.keep (fun i a b => hr _ (by omega)) (by rw [v0]) (fun j _ => by rw [v2]) (fun j _ => by rw [v3])) (ho.keep (hr _ (by omega)) (hr _ (by omega)) (hr _ (by omega)) (by rw [v0]) (by rw [v0]) (by rw [v0]) (fun j _ => by rw [v5]) (fun j _ => by rw [v4])) (hrd.keep (fun k a b => hr k (by omega)) (by rw [v0]) (fun w' f _ _ => e1 _ (by omega))) (fun k a b => hr k (by omega)) (by rw [hr 0 (by omega)]) (by rw [hr 53 (by omega)]) (hr 54 (by omega)) (hr 69 (by omega)) (fun k a b => hr k (by omega)) (xu2_k (by decide)) (xu2_k (by decide)) (xu2_ne (by decide)) (xu2_ne (by decide)) (xu2_ne (by decide)) (xu2_ne (by decide)) (xu2_ne (by decide))
  have e0 : cnt (vL (xu2 sg 80 (5 * w + 4) x)) 0 = cnt (vL sg) 0 := by unfold cnt; rw [v0]
  refine ⟨?_, fun q hq => ?_⟩
  · rw [v0]; exact (congrFun (hr 2 (by decide)) 0).trans hy.1
  · rw [e0] at hq
    obtain ⟨b0, b1, b2, b3, b4⟩ := hy.2 q hq
    rw [hr (1 + 2) (by decide), hr (1 + 3) (by decide), hr (1 + 4) (by decide), hr (1 + 5) (by decide), e1 _ (by omega), e1 _ (by omega), e1 _ (by omega), e1 _ (by omega)]
    refine ⟨b0, b1, b2, b3, ?_⟩
    show xu2 iv 7 w x 7 q = xu2 sg 80 (5 * w + 4) x 80 (5 * q + 4)
    by_cases e : q = w
    · rw [e, xu2_s, xu2_s]
    · rw [xu2_j e, xu2_j (by omega)]
      exact b4
end UPD
end
section
-- ===== way =====
def addW (sg : xIv) (f t ln sl g : Int32) : xIv := xu2 (xu2 (xu2 (xu2 (xu2 (xu2 sg 80 (5 * cnt (vL sg) 0) f) 80 (5 * cnt (vL sg) 0 + 1) t) 80 (5 * cnt (vL sg) 0 + 2) ln) 80 (5 * cnt (vL sg) 0 + 3) sl) 80 (5 * cnt (vL sg) 0 + 4) g) 79 1 (nI (cnt (vL sg) 0 + 1))
abbrev okWy (f t ln sl : Int32) : Prop := isN f 12 ∧ isN t 12 ∧ ¬ f = t ∧ (1 ≤ ln ∧ ln ≤ 99) ∧ (-9 ≤ sl ∧ sl ≤ 9)
def opWay (sg : xIv) (f t ln sl : Int32) : Int32 × xIv := if okWy f t ln sl then (if cnt (vL sg) 0 = 24 then (-3, sg) else (nI (cnt (vL sg) 0), addW sg f t ln sl 0)) else (-1, sg)
section WAY
variable {L : Nat} {xs : Nat → Int32} {iv : xIv} {lg : xLg} {Q : xQ} {sg : xIv} {tw : Nat → Int64} {t : Nat}
set_option maxRecDepth 100000 in
theorem s_add2 {n : Nat} {f t ln sl g : Int32} (hn : iv 2 0 = nI n) (h24 : n < 24) (k : Q (some (.int (nI n))) SH RF (xu2 (xu2 (xu2 (xu2 (xu2 (xu2 iv 3 n f) 4 n t) 5 n ln) 6 n sl) 7 n g) 2 0 (nI (n + 1))) lg) : Sp L xs m_Ways_add [.ref 2, .int f, .int t, .int ln, .int sl, .int g] SH RF iv lg Q := by
  have hv : vp_in (iv 2 0) 24 := by rw [hn]; exact vp_N h24
  refine sgo [] 100 ?_
  refine And.intro hv ?_
  refine And.intro hv ?_
  refine And.intro hv ?_
  refine And.intro hv ?_
  refine And.intro hv ?_
  show Q _ _ _ _ _
  rw [hn, cl]
  have e : ∀ a : xIv, a 2 0 = nI n → a 2 0 + 1 = nI (n + 1) := fun a ha => by rw [ha]; exact nI_1 n
  rw [e _ (by simp only [xu2_k (show (2 : Nat) ≠ 3 by decide), xu2_k (show (2 : Nat) ≠ 4 by decide), xu2_k (show (2 : Nat) ≠ 5 by decide), xu2_k (show (2 : Nat) ≠ 6 by decide), xu2_k (show (2 : Nat) ≠ 7 by decide)]; exact hn)]
  exact k
theorem s_forget (k : Q none SH RF (xu2 iv 37 2 0) lg) : Sp L xs m_Roads_forget [.ref 37] SH RF iv lg Q := by
  refine sgo [] 100 ?_
  exact k
theorem vL_addW0 {f t2 ln sl g : Int32} : cnt (vL (addW sg f t2 ln sl g)) 0 = (nI (cnt (vL sg) 0 + 1)).toNatClampNeg := by
  show (addW sg f t2 ln sl g 79 1).toNatClampNeg = _
  unfold addW
  rw [xu2_s]
theorem addW_old {f t2 ln sl g : Int32} {j : Nat} (h : j < 5 * cnt (vL sg) 0) : vL (addW sg f t2 ln sl g) 1 j = vL sg 1 j := by
  show addW sg f t2 ln sl g 80 j = sg 80 j
  unfold addW
  rw [xu2_k (by decide), xu2_j (by omega), xu2_j (by omega), xu2_j (by omega), xu2_j (by omega), xu2_j (by omega)]
theorem addW_row {f t2 ln sl g : Int32} {k : Nat} (h : k ≠ 79) (h2 : k ≠ 80) : addW sg f t2 ln sl g k = sg k := by
  unfold addW
  rw [xu2_ne h, xu2_ne h2, xu2_ne h2, xu2_ne h2, xu2_ne h2, xu2_ne h2]
theorem addW_79 {f t2 ln sl g : Int32} {j : Nat} (h : j ≠ 1) : addW sg f t2 ln sl g 79 j = sg 79 j := by
  unfold addW
  rw [xu2_j h, xu2_k (by decide), xu2_k (by decide), xu2_k (by decide), xu2_k (by decide), xu2_k (by decide)]
theorem addW_n {f t2 ln sl g : Int32} : addW sg f t2 ln sl g 80 (5 * cnt (vL sg) 0) = f ∧ addW sg f t2 ln sl g 80 (5 * cnt (vL sg) 0 + 1) = t2 ∧ addW sg f t2 ln sl g 80 (5 * cnt (vL sg) 0 + 2) = ln ∧ addW sg f t2 ln sl g 80 (5 * cnt (vL sg) 0 + 3) = sl ∧ addW sg f t2 ln sl g 80 (5 * cnt (vL sg) 0 + 4) = g := by
  unfold addW
  refine ⟨?_, ?_, ?_, ?_, ?_⟩
  · rw [xu2_k (by decide), xu2_j (by omega), xu2_j (by omega), xu2_j (by omega), xu2_j (by omega), xu2_s]
  · rw [xu2_k (by decide), xu2_j (by omega), xu2_j (by omega), xu2_j (by omega), xu2_s]
  · rw [xu2_k (by decide), xu2_j (by omega), xu2_j (by omega), xu2_s]
  · rw [xu2_k (by decide), xu2_j (by omega), xu2_s]
  · rw [xu2_k (by decide), xu2_s]
theorem c_addW {f t2 ln sl g : Int32} (hC : CX iv lg sg tw) (hG : Gv t (vL sg)) (h6 : cnt (vL sg) 0 < 24) : CX (xu2 (xu2 (xu2 (xu2 (xu2 (xu2 (xu2 iv 3 (cnt (vL sg) 0) f) 4 (cnt (vL sg) 0) t2) 5 (cnt (vL sg) 0) ln) 6 (cnt (vL sg) 0) sl) 7 (cnt (vL sg) 0) g) 2 0 (nI (cnt (vL sg) 0 + 1))) 37 2 0) lg (addW sg f t2 ln sl g) tw := by
  generalize hiv : xu2 (xu2 (xu2 (xu2 (xu2 (xu2 (xu2 iv 3 (cnt (vL sg) 0) f) 4 (cnt (vL sg) 0) t2) 5 (cnt (vL sg) 0) ln) 6 (cnt (vL sg) 0) sl) 7 (cnt (vL sg) 0) g) 2 0 (nI (cnt (vL sg) 0 + 1))) 37 2 0 = iv'
  have hr : ∀ k, k ≠ 2 → k ≠ 3 → k ≠ 4 → k ≠ 5 → k ≠ 6 → k ≠ 7 → k ≠ 37 → iv' k = iv k := fun k a b c d e f g => by rw [← hiv, xu2_ne g, xu2_ne a, xu2_ne f, xu2_ne e, xu2_ne d, xu2_ne c, xu2_ne b]
  obtain ⟨⟨hy, hp, ho⟩, hk, hrd, htp, hst⟩ := id hC
  refine ⟨⟨?_, ?_, ?_⟩, ?_, ?_, ?_, ?_⟩
  · refine ⟨?_, fun i hi => ?_⟩
    · show iv' 2 0 = addW sg f t2 ln sl g 79 1
      rw [← hiv, xu2_k (by decide), xu2_s]
      unfold addW
      rw [xu2_s]
    · rw [vL_addW0, cl] at hi
      by_cases e : i = cnt (vL sg) 0
      · subst e
        obtain ⟨a1, a2, a3, a4, a5⟩ := addW_n (sg := sg) (f := f) (t2 := t2) (ln := ln) (sl := sl) (g := g)
        refine ⟨Eq.trans ?_ a1.symm, Eq.trans ?_ a2.symm, Eq.trans ?_ a3.symm, Eq.trans ?_ a4.symm, Eq.trans ?_ a5.symm⟩
        · show iv' 3 _ = _
          rw [← hiv, xu2_k (by decide), xu2_k (by decide), xu2_k (by decide), xu2_k (by decide), xu2_k (by decide), xu2_k (by decide), xu2_s]
        · show iv' 4 _ = _
          rw [← hiv, xu2_k (by decide), xu2_k (by decide), xu2_k (by decide), xu2_k (by decide), xu2_k (by decide), xu2_s]
        · show iv' 5 _ = _
          rw [← hiv, xu2_k (by decide), xu2_k (by decide), xu2_k (by decide), xu2_k (by decide), xu2_s]
        · show iv' 6 _ = _
          rw [← hiv, xu2_k (by decide), xu2_k (by decide), xu2_k (by decide), xu2_s]
        · show iv' 7 _ = _
          rw [← hiv, xu2_k (by decide), xu2_k (by decide), xu2_s]
      · have hi2 : i < cnt (vL sg) 0 := by omega
        obtain ⟨b1, b2, b3, b4, b5⟩ := hy.2 i hi2
        rw [addW_old (by omega), addW_old (by omega), addW_old (by omega), addW_old (by omega), addW_old (by omega)]
        refine ⟨Eq.trans ?_ b1, Eq.trans ?_ b2, Eq.trans ?_ b3, Eq.trans ?_ b4, Eq.trans ?_ b5⟩
        · show iv' 3 _ = iv 3 _
          rw [← hiv, xu2_k (by decide), xu2_k (by decide), xu2_k (by decide), xu2_k (by decide), xu2_k (by decide), xu2_k (by decide), xu2_j e]
        · show iv' 4 _ = iv 4 _
          rw [← hiv, xu2_k (by decide), xu2_k (by decide), xu2_k (by decide), xu2_k (by decide), xu2_k (by decide), xu2_j e, xu2_k (by decide)]
        · show iv' 5 _ = iv 5 _
          rw [← hiv, xu2_k (by decide), xu2_k (by decide), xu2_k (by decide), xu2_k (by decide), xu2_j e, xu2_k (by decide), xu2_k (by decide)]
        · show iv' 6 _ = iv 6 _
          rw [← hiv, xu2_k (by decide), xu2_k (by decide), xu2_k (by decide), xu2_j e, xu2_k (by decide), xu2_k (by decide), xu2_k (by decide)]
        · show iv' 7 _ = iv 7 _
          rw [← hiv, xu2_k (by decide), xu2_k (by decide), xu2_j e, xu2_k (by decide), xu2_k (by decide), xu2_k (by decide), xu2_k (by decide)]
  · refine hp.keep (fun i a b => hr _ (by omega) (by omega) (by omega) (by omega) (by omega) (by omega) (by omega)) (addW_79 (by decide)) (fun j _ => ?_) (fun j _ => ?_)
    · show addW sg f t2 ln sl g 81 j = sg 81 j
      rw [addW_row (by decide) (by decide)]
    · show addW sg f t2 ln sl g 82 j = sg 82 j
      rw [addW_row (by decide) (by decide)]
  · refine ho.keep (hr _ (by omega) (by omega) (by omega) (by omega) (by omega) (by omega) (by omega)) (hr _ (by omega) (by omega) (by omega) (by omega) (by omega) (by omega) (by omega)) (hr _ (by omega) (by omega) (by omega) (by omega) (by omega) (by omega) (by omega)) (addW_79 (by decide)) (addW_79 (by decide)) (addW_79 (by decide)) (fun j _ => ?_) (fun j _ => ?_)
    · show addW sg f t2 ln sl g 84 j = sg 84 j
      rw [addW_row (by decide) (by decide)]
    · show addW sg f t2 ln sl g 83 j = sg 83 j
      rw [addW_row (by decide) (by decide)]
  · exact hC.kept (fun k a b => hr _ (by omega) (by omega) (by omega) (by omega) (by omega) (by omega) (by omega)) (by rw [hr 0 (by decide) (by decide) (by decide) (by decide) (by decide) (by decide) (by decide)]) (addW_79 (by decide)) (addW_row (by decide) (by decide)) (addW_row (by decide) (by decide))
  · exact RD.zero (by rw [← hiv, xu2_s])
  · exact htp.keep (by rw [hr 53 (by decide) (by decide) (by decide) (by decide) (by decide) (by decide) (by decide)]) (hr 54 (by decide) (by decide) (by decide) (by decide) (by decide) (by decide) (by decide)) (hr 69 (by decide) (by decide) (by decide) (by decide) (by decide) (by decide) (by decide)) (addW_79 (by decide)) (addW_row (by decide) (by decide))
  · exact hst.keep (fun k a b => hr _ (by omega) (by omega) (by omega) (by omega) (by omega) (by omega) (by omega)) (fun _ _ _ => rfl) (addW_row (by decide) (by decide)) (addW_row (by decide) (by decide))
set_option maxRecDepth 100000 in
theorem c_way {f t2 ln sl : Int32} (hC : CX iv lg sg tw) (hG : Gv t (vL sg)) (k : ∀ iv', CX iv' lg (opWay sg f t2 ln sl).2 tw → refS iv' lg iv lg → Q (some (.int (opWay sg f t2 ln sl).1)) SH RF iv' lg) : Sp L xs m_SR_way [.ref 0, .int f, .int t2, .int ln, .int sl] SH RF iv lg Q := by
  have hn : iv 2 0 = nI (cnt (vL sg) 0) := hC.1.1.1.trans hG.1.1
  have kb : ¬ okWy f t2 ln sl → Q (some (.int (-1))) SH RF iv lg := fun h => by
    have e : opWay sg f t2 ln sl = (-1, sg) := if_neg h
    rw [e] at k
    exact k iv hC refS.rfl
  refine sgo [] 100 ?_
  refine s_isPlace (fun h1 => ?_) (fun h1 => ?_)
  · refine And.intro (fun z => absurd z (by decide)) (fun _ => ?_)
    refine s_isPlace (fun h2 => ?_) (fun h2 => ?_)
    · refine And.intro (fun z => absurd z (by decide)) (fun _ => ?_)
      refine And.intro (fun h3 => ?_) (fun h3 => ?_)
      · refine s_within (fun h4 => ?_) (fun h4 => ?_)
        · refine And.intro (fun z => absurd z (by decide)) (fun _ => ?_)
          refine s_within (fun h5 => ?_) (fun h5 => ?_)
          · refine And.intro (fun _ => ?_) (fun z => absurd (by decide) z)
            have hok : okWy f t2 ln sl := ⟨h1, h2, h3, h4, h5⟩
            refine And.intro (fun h6 => ?_) (fun h6 => ?_)
            · rw [hn] at h6
              replace h6 : cnt (vL sg) 0 < 24 := (nI_ltI (b := 24) (by have := hG.1.2; omega) (by decide)).mp h6
              have e : opWay sg f t2 ln sl = (nI (cnt (vL sg) 0), addW sg f t2 ln sl 0) := by unfold opWay; rw [if_pos hok, if_neg (by omega)]
              rw [e] at k
              refine s_add2 hn h6 ?_
              refine s_forget ?_
              exact k _ (c_addW hC hG h6) ⟨fun k hk => by rw [xu2_ne (by omega), xu2_ne (by omega), xu2_ne (by omega), xu2_ne (by omega), xu2_ne (by omega), xu2_ne (by omega), xu2_ne (by omega)], fun _ _ => rfl⟩
            · rw [hn] at h6
              replace h6 : ¬ cnt (vL sg) 0 < 24 := fun z => h6 ((nI_ltI (b := 24) (by have := hG.1.2; omega) (by decide)).mpr z)
              have e : opWay sg f t2 ln sl = (-3, sg) := by unfold opWay; rw [if_pos hok, if_pos (by have := hG.1.2; omega)]
              rw [e] at k
              exact k iv hC refS.rfl
          · refine And.intro (fun z => absurd rfl z) (fun _ => ?_)
            exact kb (fun z => h5 z.2.2.2.2)
        · refine And.intro (fun _ => ?_) (fun z => absurd rfl z)
          exact kb (fun z => h4 z.2.2.2.1)
      · exact kb (fun z => h3 z.2.2.1)
    · refine And.intro (fun _ => ?_) (fun z => absurd rfl z)
      exact kb (fun z => h2 z.2.1)
  · refine And.intro (fun _ => ?_) (fun z => absurd rfl z)
    exact kb (fun z => h1 z.1)
theorem lit_eq {n c : Nat} (hn : n < 2 ^ 31) (hc : c < 2 ^ 31) : nI n = nI c ↔ n = c := nI_eq hn hc
set_option maxRecDepth 100000 in
theorem m_addWay {n : Nat} {f t ln sl g : Int32} (hn : iv 79 1 = nI n) (h24 : n < 24) (k : Q none SH RF (xu2 (xu2 (xu2 (xu2 (xu2 (xu2 iv 80 (5 * n) f) 80 (5 * n + 1) t) 80 (5 * n + 2) ln) 80 (5 * n + 3) sl) 80 (5 * n + 4) g) 79 1 (nI (n + 1))) lg) : Sp L xs m_Mo_addWay [.ref 79, .int f, .int t, .int ln, .int sl, .int g] SH RF iv lg Q := by
  have e5 : (5 : Int32) * iv 79 1 = nI (5 * n) := by rw [hn]; exact ni5 n
  have e : ∀ c, (5 : Int32) * iv 79 1 + nI c = nI (5 * n + c) := fun c => by rw [e5]; exact ni_a _ _
  refine sgo [] 100 ?_
  refine And.intro (by rw [e5]; exact vp_N (by omega)) ?_
  refine And.intro (by show vp_in ((5 : Int32) * iv 79 1 + nI 1) 120; rw [e]; exact vp_N (by omega)) ?_
  refine And.intro (by show vp_in ((5 : Int32) * iv 79 1 + nI 2) 120; rw [e]; exact vp_N (by omega)) ?_
  refine And.intro (by show vp_in ((5 : Int32) * iv 79 1 + nI 3) 120; rw [e]; exact vp_N (by omega)) ?_
  refine And.intro (by show vp_in ((5 : Int32) * iv 79 1 + nI 4) 120; rw [e]; exact vp_N (by omega)) ?_
  show Q none SH RF (xu2 (xu2 (xu2 (xu2 (xu2 (xu2 iv 80 ((5 : Int32) * iv 79 1).toNatClampNeg f) 80 ((5 : Int32) * iv 79 1 + nI 1).toNatClampNeg t) 80 ((5 : Int32) * iv 79 1 + nI 2).toNatClampNeg ln) 80 ((5 : Int32) * iv 79 1 + nI 3).toNatClampNeg sl) 80 ((5 : Int32) * iv 79 1 + nI 4).toNatClampNeg g) 79 1 (iv 79 1 + 1)) lg
  rw [e, e, e, e, e5, cl, cl, cl, cl, cl, hn, nI_1]
  exact k
set_option maxRecDepth 100000 in
theorem m_way {f t2 ln sl : Int32} (hM : MV iv lg sg tw) (hG : Gv t (vL sg)) (k : ∀ iv', MV iv' lg (opWay sg f t2 ln sl).2 tw → clsS iv' lg iv lg → Q (some (.int (opWay sg f t2 ln sl).1)) SH RF iv' lg) : Sp L xs m_Mo_way [.ref 79, .int f, .int t2, .int ln, .int sl] SH RF iv lg Q := by
  have hn : iv 79 1 = nI (cnt (vL sg) 0) := hM.1.1.trans hG.1.1
  have kb : ¬ okWy f t2 ln sl → Q (some (.int (-1))) SH RF iv lg := fun h => by
    have e : opWay sg f t2 ln sl = (-1, sg) := if_neg h
    rw [e] at k
    exact k iv hM clsS.rfl
  refine sgo [] 100 ?_
  refine s_moPlace (fun h1 => ?_) (fun h1 => ?_)
  · refine And.intro (fun z => absurd z (by decide)) (fun _ => ?_)
    refine s_moPlace (fun h2 => ?_) (fun h2 => ?_)
    · refine And.intro (fun z => absurd z (by decide)) (fun _ => ?_)
      refine And.intro (fun h3 => ?_) (fun h3 => ?_)
      · exact kb (fun z => z.2.2.1 h3)
      · refine s_inI (a := 1) (b := 99) (kt := fun h4 => ?_) (kf := fun h4 => ?_)
        · refine And.intro (fun z => absurd z (by decide)) (fun _ => ?_)
          refine s_inI (a := -9) (b := 9) (kt := fun h5 => ?_) (kf := fun h5 => ?_)
          · refine And.intro (fun _ => ?_) (fun z => absurd (by decide) z)
            have hok : okWy f t2 ln sl := ⟨h1, h2, h3, h4, h5⟩
            refine And.intro (fun h6 => ?_) (fun h6 => ?_)
            · rw [hn] at h6
              replace h6 : cnt (vL sg) 0 < 24 := by
                have h7 : ¬ cnt (vL sg) 0 = 24 := fun z => h6 ((nI_eq (b := 24) (by have := hG.1.2; omega) (by decide)).mpr z)
                have := hG.1.2
                omega
              have e : opWay sg f t2 ln sl = (nI (cnt (vL sg) 0), addW sg f t2 ln sl 0) := by unfold opWay; rw [if_pos hok, if_neg (by omega)]
              rw [e] at k
              refine m_addWay hn h6 ?_
              show Q (some (.int (xu2 _ 79 1 (nI (cnt (vL sg) 0 + 1)) 79 1 - 1))) SH RF _ lg
              rw [xu2_s, nI_pred]
              refine k _ ?_ ?_
              · unfold addW
                exact (((((hM.up _ _ _).up _ _ _).up _ _ _).up _ _ _).up _ _ _).up _ _ _
              · exact (((((clsS.rfl.up (by decide)).up (by decide)).up (by decide)).up (by decide)).up (by decide)).up (by decide)
            · rw [hn] at h6
              replace h6 : cnt (vL sg) 0 = 24 := by
                by_cases z : cnt (vL sg) 0 = 24
                · exact z
                · exact absurd (fun w => z ((nI_eq (b := 24) (by have := hG.1.2; omega) (by decide)).mp w)) h6
              have e : opWay sg f t2 ln sl = (-3, sg) := by unfold opWay; rw [if_pos hok, if_pos h6]
              rw [e] at k
              exact k iv hM clsS.rfl
          · refine And.intro (fun z => absurd rfl z) (fun _ => ?_)
            exact kb (fun z => h5 z.2.2.2.2)
        · refine And.intro (fun _ => ?_) (fun z => absurd rfl z)
          exact kb (fun z => h4 z.2.2.2.1)
    · refine And.intro (fun _ => ?_) (fun z => absurd rfl z)
      exact kb (fun z => h2 z.2.1)
  · refine And.intro (fun _ => ?_) (fun z => absurd rfl z)
    exact kb (fun z => h1 z.1)
theorem g_addW {f t2 ln sl g : Int32} (hG : Gv t (vL sg)) (hok : okWy f t2 ln sl) (hg : g = 0 ∨ g = 1) (h6 : cnt (vL sg) 0 < 24) : Gv t (vL (addW sg f t2 ln sl g)) := by
  obtain ⟨h1, h2, h3, h4, h5, h6', h7, h8, h9, h10⟩ := hG
  have e0 : cnt (vL (addW sg f t2 ln sl g)) 0 = cnt (vL sg) 0 + 1 := by rw [vL_addW0, cl]
  have ez : ∀ j, j ≠ 0 → vL (addW sg f t2 ln sl g) 0 j = vL sg 0 j := fun j hj => by
    match j, hj with
    | 1, _ => exact addW_79 (by decide)
    | 2, _ => exact addW_79 (by decide)
    | 3, _ => exact addW_79 (by decide)
    | j + 4, _ => exact addW_79 (by decide)
  have e1 : cnt (vL (addW sg f t2 ln sl g)) 1 = cnt (vL sg) 1 := by unfold cnt; rw [ez 1 (by decide)]
  have e2 : cnt (vL (addW sg f t2 ln sl g)) 2 = cnt (vL sg) 2 := by unfold cnt; rw [ez 2 (by decide)]
  have r2 : vL (addW sg f t2 ln sl g) 2 = vL sg 2 := by funext j; show addW sg f t2 ln sl g 81 j = _; rw [addW_row (by decide) (by decide)]; rfl
  have r3 : vL (addW sg f t2 ln sl g) 3 = vL sg 3 := by funext j; show addW sg f t2 ln sl g 82 j = _; rw [addW_row (by decide) (by decide)]; rfl
  have r4 : vL (addW sg f t2 ln sl g) 4 = vL sg 4 := by funext j; show addW sg f t2 ln sl g 83 j = _; rw [addW_row (by decide) (by decide)]; rfl
  have r5 : vL (addW sg f t2 ln sl g) 5 = vL sg 5 := by funext j; show addW sg f t2 ln sl g 84 j = _; rw [addW_row (by decide) (by decide)]; rfl
  refine ⟨⟨?_, by omega⟩, by rw [ez 1 (by decide), e1]; exact h2, by rw [ez 2 (by decide), e2]; exact h3, by rw [ez 3 (by decide)]; exact h4, by rw [ez 4 (by decide)]; exact h5, fun w hw => ?_, fun p hp => ?_, fun j hj => by rw [r3]; exact h8 j hj, fun j hj => by rw [r4]; exact h9 j hj, fun x hx => by rw [e2] at hx; rw [r5]; exact h10 x hx⟩
  · rw [e0]
    show addW sg f t2 ln sl g 79 1 = _
    unfold addW
    rw [xu2_s]
  · rw [e0] at hw
    by_cases e : w = cnt (vL sg) 0
    · subst e
      obtain ⟨a1, a2, a3, a4, a5⟩ := addW_n (sg := sg) (f := f) (t2 := t2) (ln := ln) (sl := sl) (g := g)
      unfold okW
      show isN (addW sg f t2 ln sl g 80 _) 12 ∧ isN (addW sg f t2 ln sl g 80 _) 12 ∧ ¬ addW sg f t2 ln sl g 80 _ = addW sg f t2 ln sl g 80 _ ∧ (1 ≤ addW sg f t2 ln sl g 80 _ ∧ addW sg f t2 ln sl g 80 _ ≤ 99) ∧ (-9 ≤ addW sg f t2 ln sl g 80 _ ∧ addW sg f t2 ln sl g 80 _ ≤ 9) ∧ (addW sg f t2 ln sl g 80 _ = 0 ∨ addW sg f t2 ln sl g 80 _ = 1)
      rw [a1, a2, a3, a4, a5]
      exact ⟨hok.1, hok.2.1, hok.2.2.1, hok.2.2.2.1, hok.2.2.2.2, hg⟩
    · have := h6' w (by omega)
      unfold okW at this ⊢
      rw [addW_old (by omega), addW_old (by omega), addW_old (by omega), addW_old (by omega), addW_old (by omega)]
      exact this
  · rw [e1] at hp
    have := h7 p hp
    unfold okP at this ⊢
    rw [r2]
    exact this
theorem e_way (f t2 ln sl : Int32) : EQ m_SR_way m_Mo_way [.int f, .int t2, .int ln, .int sl] := by
  refine EQ.of (fun sg tw => ((opWay sg f t2 ln sl).1, (opWay sg f t2 ln sl).2, tw)) (fun hC hG ht k => c_way hC hG.1 (fun iv' h1 h2 => k iv' _ h1 h2)) (fun hM hG ht k => m_way hM hG.1 (fun iv' h1 h2 => k iv' _ h1 h2)) (fun {t sg tw} hG ht => ?_)
  show GG (t + 1) (opWay sg f t2 ln sl).2
  unfold opWay
  split
  · rename_i hok
    split
    · exact hG.mono (Nat.le_succ t)
    · rename_i h24
      exact GG.kept (sg' := addW sg f t2 ln sl 0) hG ((g_addW hG.1 hok (Or.inl rfl) (by have := hG.1.1.2; omega)).mono (Nat.le_succ t)) (addW_79 (by decide)) (addW_row (by decide) (by decide)) (addW_row (by decide) (by decide))
  · exact hG.mono (Nat.le_succ t)
end WAY
end
section
-- ===== told, of, owes, gate, given, rule, errand, rest =====
theorem br1 {A B : Prop} {z : Int32} (hz : z = 1) (h : B) : (z = 0 → A) ∧ (¬ z = 0 → B) := ⟨fun w => absurd (hz ▸ w) (by decide), fun _ => h⟩
theorem b1 {A B : Prop} (h : B) : ((1 : Int32) = 0 → A) ∧ (¬ (1 : Int32) = 0 → B) := ⟨fun w => absurd w (by decide), fun _ => h⟩
theorem b0 {A B : Prop} (h : A) : ((0 : Int32) = 0 → A) ∧ (¬ (0 : Int32) = 0 → B) := ⟨fun _ => h, fun w => absurd rfl w⟩
theorem c1 {A B : Prop} (h : A) : (¬ (1 : Int32) = 0 → A) ∧ (¬ ¬ (1 : Int32) = 0 → B) := ⟨fun _ => h, fun w => absurd (by decide) w⟩
theorem c0 {A B : Prop} (h : B) : (¬ (0 : Int32) = 0 → A) ∧ (¬ ¬ (0 : Int32) = 0 → B) := ⟨fun w => absurd rfl w, fun _ => h⟩
theorem r4 {v : Int32} : (0 ≤ v ∧ v ≤ 4) ↔ isN v 5 := isN_m1 (n := 5) (by decide)
section OPS1
variable {L : Nat} {xs : Nat → Int32} {iv : xIv} {lg : xLg} {Q : xQ} {sg : xIv} {tw : Nat → Int64} {t : Nat}
theorem s_inN {v c : Int32} {n : Nat} {sh : xSh} {rf : xRf} (hn : c = nI n) (h : n < 2 ^ 30) (kt : isN v n → Q (some (.int 1)) sh rf iv lg) (kf : ¬ isN v n → Q (some (.int 0)) sh rf iv lg) : Sp L xs m_Mo_in [.long v.toInt64, .long 0, .long (c - 1).toInt64] sh rf iv lg Q := by
  subst hn
  exact s_inI (a := 0) (hb := rfl) (kt := fun h' => kt ((isN_m1 h).mp h')) (kf := fun h' => kf (fun z => h' ((isN_m1 h).mpr z)))
theorem INV.wk {t' : Nat} (h : t ≤ t') (hI : INV t iv lg) : INV t' iv lg := by
  obtain ⟨sg, tw, a, b, c⟩ := hI
  exact ⟨sg, tw, a, b, c.mono h⟩
theorem nW_c (hC : CX iv lg sg tw) (hG : GG t sg) : iv 2 0 = nI (cnt (vL sg) 0) := hC.1.1.1.trans hG.1.1.1
theorem nW_m (hM : MV iv lg sg tw) (hG : GG t sg) : iv 79 1 = nI (cnt (vL sg) 0) := hM.1.1.trans hG.1.1.1
theorem nP_c (hC : CX iv lg sg tw) (hG : GG t sg) : iv 8 0 = nI (cnt (vL sg) 1) := hC.1.2.1.1.trans hG.1.2.1.1
theorem nP_m (hM : MV iv lg sg tw) (hG : GG t sg) : iv 79 3 = nI (cnt (vL sg) 1) := hM.1.2.1.trans hG.1.2.1.1
theorem nE_c (hC : CX iv lg sg tw) (hG : GG t sg) : iv 1 2 = nI (cnt (vL sg) 2) := hC.1.2.2.1.trans hG.1.2.2.1.1
theorem nE_m (hM : MV iv lg sg tw) (hG : GG t sg) : iv 79 8 = nI (cnt (vL sg) 2) := hM.1.2.2.2.1.trans hG.1.2.2.1.1
set_option maxRecDepth 100000 in
theorem m_told {a b : Int32} (hM : MV iv lg sg tw) (hG : GG t sg) (k1 : ∀ w f, w < cnt (vL sg) 0 → f < 5 → a = nI w → b = nI f → Q (some (.int (sg 80 (5 * w + f)))) SH RF iv lg) (k2 : ¬ (isN a (cnt (vL sg) 0) ∧ isN b 5) → Q (some (.int (-100001))) SH RF iv lg) : Sp L xs m_Mo_told [.ref 79, .int a, .int b] SH RF iv lg Q := by
  have h24 := hG.1.1.2
  refine sgo [] 100 ?_
  refine s_inN (nW_m hM hG) (by omega) (fun h1 => ?_) (fun h1 => ?_)
  · refine b1 ?_
    refine s_inI (a := 0) (b := 4) (kt := fun h2 => ?_) (kf := fun h2 => ?_)
    · refine b1 ?_
      obtain ⟨w, hw, rfl⟩ := isN_of h1 (by omega)
      obtain ⟨f, hf, rfl⟩ := isN_of (r4.mp h2) (by decide)
      have e : (5 : Int32) * nI w + nI f = nI (5 * w + f) := by rw [ni5, ni_a]
      refine And.intro (by rw [e]; exact vp_N (by omega)) ?_
      show Q (some (.int (iv 80 ((5 : Int32) * nI w + nI f).toNatClampNeg))) SH RF iv lg
      rw [e, cl, hM.2.1.1]
      exact k1 w f hw hf rfl rfl
    · refine b0 ?_
      exact k2 (fun z => h2 (r4.mpr z.2))
  · refine b0 ?_
    exact k2 (fun z => h1 z.1)
set_option maxRecDepth 100000 in
theorem e_told (a b : Int32) : EQ m_SR_told m_Mo_told [.int a, .int b] := by
  intro L xs t iv lg Q hI ht k
  obtain ⟨sg, tw, hC, hM, hG⟩ := id hI
  have h24 := hG.1.1.2
  have bad : ¬ (isN a (cnt (vL sg) 0) ∧ isN b 5) → Q (some (.int (-100001))) SH RF iv lg := fun h => k _ iv lg (fun Q2 k2 => m_told hM hG (fun w f hw hf ha hb => absurd ⟨ha ▸ isN_nI hw (by omega), hb ▸ isN_nI hf (by decide)⟩ h) (fun _ => k2 _ _ (hI.wk (Nat.le_succ t))))
  have good : ∀ w f, w < cnt (vL sg) 0 → f < 5 → a = nI w → b = nI f → Q (some (.int (sg 80 (5 * w + f)))) SH RF iv lg := fun w f hw hf ha hb => k _ iv lg (fun Q2 k2 => m_told hM hG (fun w' f' hw' hf' ha' hb' => by
      have e1 : w = w' := (nI_eq (by omega) (by omega)).mp (ha.symm.trans ha')
      have e2 : f = f' := (nI_eq (by omega) (by omega)).mp (hb.symm.trans hb')
      subst e1; subst e2
      exact k2 _ _ (hI.wk (Nat.le_succ t))) (fun h => absurd ⟨ha ▸ isN_nI hw (by omega), hb ▸ isN_nI hf (by decide)⟩ h))
  refine sgo [] 100 ?_
  refine s_has (nW_c hC hG) (by omega) (fun h1 => ?_) (fun h1 => ?_)
  · refine c1 ?_
    obtain ⟨w, hw, rfl⟩ := isN_of h1 (by omega)
    obtain ⟨y0, y1, y2, y3, y4⟩ := hC.1.1.2 w hw
    have hv : vp_in (nI w) 24 := vp_N (by omega)
    refine And.intro (fun hb => ?_) (fun hb0 => ?_)
    · refine And.intro hv ?_
      show Q (some (.int (iv 3 (nI w).toNatClampNeg))) SH RF iv lg
      rw [cl, show iv 3 w = sg 80 (5 * w + 0) from y0]
      exact good w 0 hw (by decide) rfl hb
    · refine And.intro (fun hb => ?_) (fun hb1 => ?_)
      · refine And.intro hv ?_
        show Q (some (.int (iv 4 (nI w).toNatClampNeg))) SH RF iv lg
        rw [cl, show iv 4 w = sg 80 (5 * w + 1) from y1]
        exact good w 1 hw (by decide) rfl hb
      · refine And.intro (fun hb => ?_) (fun hb2 => ?_)
        · refine And.intro hv ?_
          show Q (some (.int (iv 5 (nI w).toNatClampNeg))) SH RF iv lg
          rw [cl, show iv 5 w = sg 80 (5 * w + 2) from y2]
          exact good w 2 hw (by decide) rfl hb
        · refine And.intro (fun hb => ?_) (fun hb3 => ?_)
          · refine And.intro hv ?_
            show Q (some (.int (iv 6 (nI w).toNatClampNeg))) SH RF iv lg
            rw [cl, show iv 6 w = sg 80 (5 * w + 3) from y3]
            exact good w 3 hw (by decide) rfl hb
          · refine And.intro (fun hb => ?_) (fun hb4 => ?_)
            · refine And.intro hv ?_
              show Q (some (.int (iv 7 (nI w).toNatClampNeg))) SH RF iv lg
              rw [cl, show iv 7 w = sg 80 (5 * w + 4) from y4]
              exact good w 4 hw (by decide) rfl hb
            · refine bad (fun z => ?_)
              obtain ⟨f, hf, e⟩ := isN_of z.2 (by decide)
              match f, hf, e with
              | 0, _, e => exact hb0 e
              | 1, _, e => exact hb1 e
              | 2, _, e => exact hb2 e
              | 3, _, e => exact hb3 e
              | 4, _, e => exact hb4 e
  · refine c0 ?_
    exact bad (fun z => h1 z.1)
set_option maxRecDepth 100000 in
theorem m_of {a b : Int32} (hM : MV iv lg sg tw) (hG : GG t sg) (k1 : ∀ w f, w < cnt (vL sg) 1 → f < 5 → a = nI w → b = nI f → Q (some (.int (sg 81 (7 * w + f)))) SH RF iv lg) (k2 : ¬ (isN a (cnt (vL sg) 1) ∧ isN b 5) → Q (some (.int (-1))) SH RF iv lg) : Sp L xs m_Mo_of [.ref 79, .int a, .int b] SH RF iv lg Q := by
  have h24 := hG.1.2.1.2
  refine sgo [] 100 ?_
  refine s_isOne (nP_m hM hG) (by omega) (fun h1 => ?_) (fun h1 => ?_)
  · refine b1 ?_
    refine s_inI (a := 0) (b := 4) (kt := fun h2 => ?_) (kf := fun h2 => ?_)
    · refine b1 ?_
      obtain ⟨w, hw, rfl⟩ := isN_of h1 (by omega)
      obtain ⟨f, hf, rfl⟩ := isN_of (r4.mp h2) (by decide)
      have e : (7 : Int32) * nI w + nI f = nI (7 * w + f) := by rw [ni7, ni_a]
      refine And.intro (by rw [e]; exact vp_N (by omega)) ?_
      show Q (some (.int (iv 81 ((7 : Int32) * nI w + nI f).toNatClampNeg))) SH RF iv lg
      rw [e, cl, hM.2.1.2.1]
      exact k1 w f hw hf rfl rfl
    · refine b0 ?_
      exact k2 (fun z => h2 (r4.mpr z.2))
  · refine b0 ?_
    exact k2 (fun z => h1 z.1)
set_option maxRecDepth 100000 in
theorem e_of (a b : Int32) : EQ m_SR_of m_Mo_of [.int a, .int b] := by
  intro L xs t iv lg Q hI ht k
  obtain ⟨sg, tw, hC, hM, hG⟩ := id hI
  have h24 := hG.1.2.1.2
  have bad : ¬ (isN a (cnt (vL sg) 1) ∧ isN b 5) → Q (some (.int (-1))) SH RF iv lg := fun h => k _ iv lg (fun Q2 k2 => m_of hM hG (fun w f hw hf ha hb => absurd ⟨ha ▸ isN_nI hw (by omega), hb ▸ isN_nI hf (by decide)⟩ h) (fun _ => k2 _ _ (hI.wk (Nat.le_succ t))))
  have good : ∀ w f, w < cnt (vL sg) 1 → f < 5 → a = nI w → b = nI f → Q (some (.int (sg 81 (7 * w + f)))) SH RF iv lg := fun w f hw hf ha hb => k _ iv lg (fun Q2 k2 => m_of hM hG (fun w' f' hw' hf' ha' hb' => by
      have e1 : w = w' := (nI_eq (by omega) (by omega)).mp (ha.symm.trans ha')
      have e2 : f = f' := (nI_eq (by omega) (by omega)).mp (hb.symm.trans hb')
      subst e1; subst e2
      exact k2 _ _ (hI.wk (Nat.le_succ t))) (fun h => absurd ⟨ha ▸ isN_nI hw (by omega), hb ▸ isN_nI hf (by decide)⟩ h))
  refine sgo [] 100 ?_
  refine s_isPerson (nP_c hC hG) (by omega) (fun h1 => ?_) (fun h1 => ?_)
  · refine c1 ?_
    obtain ⟨w, hw, rfl⟩ := isN_of h1 (by omega)
    obtain ⟨y0, y1, y2, y3, y4, y5, y6⟩ := hC.1.2.1.2.1 w hw
    have hv : vp_in (nI w) 8 := vp_N (by omega)
    refine And.intro (fun hb => ?_) (fun hb0 => ?_)
    · refine And.intro hv ?_
      show Q (some (.int (iv 9 (nI w).toNatClampNeg))) SH RF iv lg
      rw [cl, show iv 9 w = sg 81 (7 * w + 0) from y0]
      exact good w 0 hw (by decide) rfl hb
    · refine And.intro (fun hb => ?_) (fun hb1 => ?_)
      · refine And.intro hv ?_
        show Q (some (.int (iv 10 (nI w).toNatClampNeg))) SH RF iv lg
        rw [cl, show iv 10 w = sg 81 (7 * w + 1) from y1]
        exact good w 1 hw (by decide) rfl hb
      · refine And.intro (fun hb => ?_) (fun hb2 => ?_)
        · refine And.intro hv ?_
          show Q (some (.int (iv 11 (nI w).toNatClampNeg))) SH RF iv lg
          rw [cl, show iv 11 w = sg 81 (7 * w + 2) from y2]
          exact good w 2 hw (by decide) rfl hb
        · refine And.intro (fun hb => ?_) (fun hb3 => ?_)
          · refine And.intro hv ?_
            show Q (some (.int (iv 12 (nI w).toNatClampNeg))) SH RF iv lg
            rw [cl, show iv 12 w = sg 81 (7 * w + 3) from y3]
            exact good w 3 hw (by decide) rfl hb
          · refine And.intro (fun hb => ?_) (fun hb4 => ?_)
            · refine And.intro hv ?_
              show Q (some (.int (iv 13 (nI w).toNatClampNeg))) SH RF iv lg
              rw [cl, show iv 13 w = sg 81 (7 * w + 4) from y4]
              exact good w 4 hw (by decide) rfl hb
            · refine bad (fun z => ?_)
              obtain ⟨f, hf, e⟩ := isN_of z.2 (by decide)
              match f, hf, e with
              | 0, _, e => exact hb0 e
              | 1, _, e => exact hb1 e
              | 2, _, e => exact hb2 e
              | 3, _, e => exact hb3 e
              | 4, _, e => exact hb4 e
  · refine c0 ?_
    exact bad (fun z => h1 z.1)
end OPS1
end
section
-- ===== how what is good of a state stays =====
section GVU
variable {sg : xIv} {t : Nat} {x : Int32}
theorem cnt_ne {k j i : Nat} (h : k ≠ 79) : cnt (vL (xu2 sg k j x)) i = cnt (vL sg) i := by
  unfold cnt
  rw [vL_ne (fun _ => h) (fun z => by cases z) (fun z => by cases z) (fun z => by cases z) (fun z => by cases z) (fun z => by omega)]
theorem v0_ne {k j : Nat} (h : k ≠ 79) : vL (xu2 sg k j x) 0 = vL sg 0 := vL_ne (fun _ => h) (fun z => by cases z) (fun z => by cases z) (fun z => by cases z) (fun z => by cases z) (fun z => by omega)
theorem v1_ne {k j : Nat} (h : k ≠ 80) : vL (xu2 sg k j x) 1 = vL sg 1 := vL_ne (fun z => by cases z) (fun _ => h) (fun z => by cases z) (fun z => by cases z) (fun z => by cases z) (fun z => by omega)
theorem v2_ne {k j : Nat} (h : k ≠ 81) : vL (xu2 sg k j x) 2 = vL sg 2 := vL_ne (fun z => by cases z) (fun z => by cases z) (fun _ => h) (fun z => by cases z) (fun z => by cases z) (fun z => by omega)
theorem v3_ne {k j : Nat} (h : k ≠ 82) : vL (xu2 sg k j x) 3 = vL sg 3 := vL_ne (fun z => by cases z) (fun z => by cases z) (fun z => by cases z) (fun _ => h) (fun z => by cases z) (fun z => by omega)
theorem v4_ne {k j : Nat} (h : k ≠ 83) : vL (xu2 sg k j x) 4 = vL sg 4 := vL_ne (fun z => by cases z) (fun z => by cases z) (fun z => by cases z) (fun z => by cases z) (fun _ => h) (fun z => by omega)
theorem v5_ne {k j : Nat} (h : k ≠ 84) : vL (xu2 sg k j x) 5 = vL sg 5 := vL_ne (fun z => by cases z) (fun z => by cases z) (fun z => by cases z) (fun z => by cases z) (fun z => by cases z) (fun _ => h)
theorem okP_ne {k j p : Nat} (h : k ≠ 81) : okP (vL (xu2 sg k j x)) p = okP (vL sg) p := by unfold okP; rw [v2_ne h]
theorem okW_ne {k j p : Nat} (h : k ≠ 80) : okW (vL (xu2 sg k j x)) p = okW (vL sg) p := by unfold okW; rw [v1_ne h]
theorem Gv.gt (hG : Gv t (vL sg)) {w : Nat} (hw : w < cnt (vL sg) 0) (hx : x = 0 ∨ x = 1) : Gv t (vL (xu2 sg 80 (5 * w + 4) x)) := by
  obtain ⟨h1, h2, h3, h4, h5, h6, h7, h8, h9, h10⟩ := hG
  unfold Gv
  rw [cnt_ne (by decide), cnt_ne (by decide), cnt_ne (by decide), v0_ne (by decide), v3_ne (by decide), v4_ne (by decide), v5_ne (by decide)]
  refine ⟨h1, h2, h3, h4, h5, fun q hq => ?_, fun p hp => by rw [okP_ne (by decide)]; exact h7 p hp, h8, h9, h10⟩
  obtain ⟨a1, a2, a3, a4, a5, a6⟩ := h6 q hq
  have e : ∀ f, f < 4 → vL (xu2 sg 80 (5 * w + 4) x) 1 (5 * q + f) = vL sg 1 (5 * q + f) := fun f hf => xu2_j (by omega)
  unfold okW
  rw [show 5 * q = 5 * q + 0 from rfl, e 0 (by decide), e 1 (by decide), e 2 (by decide), e 3 (by decide)]
  refine ⟨a1, a2, a3, a4, a5, ?_⟩
  show xu2 sg 80 (5 * w + 4) x 80 (5 * q + 4) = 0 ∨ xu2 sg 80 (5 * w + 4) x 80 (5 * q + 4) = 1
  by_cases e2 : q = w
  · rw [e2, xu2_s]; exact hx
  · rw [xu2_j (by omega)]; exact a6
theorem Gv.p (hG : Gv t (vL sg)) {p f : Nat} (hf : f < 7) (hx : (f = 0 → isN x 12) ∧ (f = 1 → isN x 4) ∧ (f = 2 → 0 ≤ x ∧ x ≤ 99999) ∧ (f = 3 → isN x 12)) : Gv t (vL (xu2 sg 81 (7 * p + f) x)) := by
  obtain ⟨h1, h2, h3, h4, h5, h6, h7, h8, h9, h10⟩ := hG
  unfold Gv
  rw [cnt_ne (by decide), cnt_ne (by decide), cnt_ne (by decide), v0_ne (by decide), v3_ne (by decide), v4_ne (by decide), v5_ne (by decide)]
  refine ⟨h1, h2, h3, h4, h5, fun q hq => by rw [okW_ne (by decide)]; exact h6 q hq, fun q hq => ?_, h8, h9, h10⟩
  obtain ⟨a1, a2, a3, a4⟩ := h7 q hq
  have e : ∀ g, g < 7 → (g = f ∧ q = p → vL (xu2 sg 81 (7 * p + f) x) 2 (7 * q + g) = x) ∧ (¬ (g = f ∧ q = p) → vL (xu2 sg 81 (7 * p + f) x) 2 (7 * q + g) = vL sg 2 (7 * q + g)) := fun g hg =>
    ⟨fun z => by show xu2 sg 81 (7 * p + f) x 81 (7 * q + g) = x; rw [z.1, z.2, xu2_s], fun z => xu2_j (by omega)⟩
  unfold okP
  refine ⟨?_, ?_, ?_, ?_⟩
  · by_cases z : 0 = f ∧ q = p
    · rw [show 7 * q = 7 * q + 0 from rfl, (e 0 (by decide)).1 z]; exact hx.1 z.1.symm
    · rw [show 7 * q = 7 * q + 0 from rfl, (e 0 (by decide)).2 z]; exact a1
  · by_cases z : 1 = f ∧ q = p
    · rw [(e 1 (by decide)).1 z]; exact hx.2.1 z.1.symm
    · rw [(e 1 (by decide)).2 z]; exact a2
  · by_cases z : 2 = f ∧ q = p
    · rw [(e 2 (by decide)).1 z]; exact hx.2.2.1 z.1.symm
    · rw [(e 2 (by decide)).2 z]; exact a3
  · by_cases z : 3 = f ∧ q = p
    · rw [(e 3 (by decide)).1 z]; exact hx.2.2.2 z.1.symm
    · rw [(e 3 (by decide)).2 z]; exact a4
theorem Gv.o {t' : Nat} (hG : Gv t (vL sg)) {j : Nat} (ht : t ≤ t') (hx : 0 ≤ x.toInt ∧ x.toInt ≤ 99999 * t') : Gv t' (vL (xu2 sg 82 j x)) := by
  obtain ⟨h1, h2, h3, h4, h5, h6, h7, h8, h9, h10⟩ := hG.mono ht
  unfold Gv
  rw [cnt_ne (by decide), cnt_ne (by decide), cnt_ne (by decide), v0_ne (by decide), v4_ne (by decide), v5_ne (by decide)]
  refine ⟨h1, h2, h3, h4, h5, fun q hq => by rw [okW_ne (by decide)]; exact h6 q hq, fun q hq => by rw [okP_ne (by decide)]; exact h7 q hq, fun i hi => ?_, h9, h10⟩
  show 0 ≤ (xu2 sg 82 j x 82 i).toInt ∧ (xu2 sg 82 j x 82 i).toInt ≤ 99999 * t'
  by_cases e : i = j
  · rw [e, xu2_s]; exact hx
  · rw [xu2_j e]; exact h8 i hi
theorem Gv.g (hG : Gv t (vL sg)) {j : Nat} (hx : 0 ≤ x ∧ x ≤ 9999) : Gv t (vL (xu2 sg 83 j x)) := by
  obtain ⟨h1, h2, h3, h4, h5, h6, h7, h8, h9, h10⟩ := hG
  unfold Gv
  rw [cnt_ne (by decide), cnt_ne (by decide), cnt_ne (by decide), v0_ne (by decide), v3_ne (by decide), v5_ne (by decide)]
  refine ⟨h1, h2, h3, h4, h5, fun q hq => by rw [okW_ne (by decide)]; exact h6 q hq, fun q hq => by rw [okP_ne (by decide)]; exact h7 q hq, h8, fun i hi => ?_, h10⟩
  show 0 ≤ xu2 sg 83 j x 83 i ∧ xu2 sg 83 j x 83 i ≤ 9999
  by_cases e : i = j
  · rw [e, xu2_s]; exact hx
  · rw [xu2_j e]; exact h9 i hi
/-- law, spent, a smaller count of errands -/
theorem Gv.s (hG : Gv t (vL sg)) {i : Nat} (hi : (i = 6 ∧ isN x 3) ∨ (i = 9 ∧ 0 ≤ x ∧ x ≤ 1000000000) ∨ (i = 8 ∧ x = 0)) : Gv t (vL (xu2 sg 79 i x)) := by
  obtain ⟨h1, h2, h3, h4, h5, h6, h7, h8, h9, h10⟩ := hG
  have z0 : vL (xu2 sg 79 i x) 0 0 = vL sg 0 0 := xu2_j (by omega)
  have z1 : vL (xu2 sg 79 i x) 0 1 = vL sg 0 1 := xu2_j (by omega)
  have c0 : cnt (vL (xu2 sg 79 i x)) 0 = cnt (vL sg) 0 := by unfold cnt; rw [z0]
  have c1 : cnt (vL (xu2 sg 79 i x)) 1 = cnt (vL sg) 1 := by unfold cnt; rw [z1]
  have hc2 : cnt (vL (xu2 sg 79 i x)) 2 ≤ cnt (vL sg) 2 ∧ vL (xu2 sg 79 i x) 0 2 = nI (cnt (vL (xu2 sg 79 i x)) 2) := by
    by_cases e : i = 8
    · subst e
      have hx : x = 0 := by rcases hi with ⟨a, b⟩ | ⟨a, b⟩ | ⟨a, b⟩ <;> first | exact b | (exfalso; omega)
      have e2 : vL (xu2 sg 79 8 x) 0 2 = 0 := by show xu2 sg 79 8 x 79 8 = 0; rw [xu2_s]; exact hx
      have e3 : cnt (vL (xu2 sg 79 8 x)) 2 = 0 := by unfold cnt; rw [e2]; decide
      rw [e3, e2]
      exact ⟨Nat.zero_le _, rfl⟩
    · have e2 : vL (xu2 sg 79 i x) 0 2 = vL sg 0 2 := xu2_j (by omega)
      have e3 : cnt (vL (xu2 sg 79 i x)) 2 = cnt (vL sg) 2 := by unfold cnt; rw [e2]
      rw [e3, e2]
      exact ⟨Nat.le_refl _, h3.1⟩
  unfold Gv
  rw [v3_ne (by decide), v4_ne (by decide), v5_ne (by decide), z0, z1, c0, c1]
  refine ⟨h1, h2, ⟨hc2.2, by have := h3.2; omega⟩, ?_, ?_, fun q hq => by rw [okW_ne (by decide)]; exact h6 q hq, fun q hq => by rw [okP_ne (by decide)]; exact h7 q hq, h8, h9, fun q hq => h10 q (by omega)⟩
  · show isN (xu2 sg 79 i x 79 6) 3
    by_cases e : i = 6
    · subst e; rw [xu2_s]; rcases hi with ⟨a, b⟩ | ⟨a, b⟩ | ⟨a, b⟩ <;> first | exact b | (exfalso; omega)
    · rw [xu2_j (by omega)]; exact h4
  · show 0 ≤ xu2 sg 79 i x 79 9 ∧ xu2 sg 79 i x 79 9 ≤ 1000000000
    by_cases e : i = 9
    · subst e; rw [xu2_s]; rcases hi with ⟨a, b⟩ | ⟨a, b⟩ | ⟨a, b⟩ <;> first | exact b | (exfalso; omega)
    · rw [xu2_j (by omega)]; exact h5
theorem Gv.e (hG : Gv t (vL sg)) {n : Nat} (hn : n = cnt (vL sg) 2) (h6 : n < 6) (hx : isN x 12) : Gv t (vL (xu2 (xu2 sg 84 n x) 79 8 (nI (n + 1)))) := by
  obtain ⟨h1, h2, h3, h4, h5, h6', h7, h8, h9, h10⟩ := hG
  generalize hs : xu2 (xu2 sg 84 n x) 79 8 (nI (n + 1)) = s'
  have z : ∀ i, i ≠ 8 → s' 79 i = sg 79 i := fun i hi => by rw [← hs, xu2_j hi, xu2_k (by decide)]
  have rw' : ∀ k, k ≠ 79 → k ≠ 84 → s' k = sg k := fun k a b => by rw [← hs, xu2_ne a, xu2_ne b]
  have c0 : cnt (vL s') 0 = cnt (vL sg) 0 := by show (s' 79 1).toNatClampNeg = _; rw [z 1 (by decide)]; rfl
  have c1 : cnt (vL s') 1 = cnt (vL sg) 1 := by show (s' 79 3).toNatClampNeg = _; rw [z 3 (by decide)]; rfl
  have e2 : vL s' 0 2 = nI (n + 1) := by show s' 79 8 = _; rw [← hs, xu2_s]
  have c2 : cnt (vL s') 2 = n + 1 := by unfold cnt; rw [e2, cl]
  have r1 : vL s' 1 = vL sg 1 := by funext j; show s' 80 j = _; rw [rw' 80 (by decide) (by decide)]; rfl
  have r2 : vL s' 2 = vL sg 2 := by funext j; show s' 81 j = _; rw [rw' 81 (by decide) (by decide)]; rfl
  have r3 : vL s' 3 = vL sg 3 := by funext j; show s' 82 j = _; rw [rw' 82 (by decide) (by decide)]; rfl
  have r4 : vL s' 4 = vL sg 4 := by funext j; show s' 83 j = _; rw [rw' 83 (by decide) (by decide)]; rfl
  unfold Gv
  rw [c0, c1, c2, r3, r4]
  refine ⟨⟨(z 1 (by decide)).trans h1.1, h1.2⟩, ⟨(z 3 (by decide)).trans h2.1, h2.2⟩, ⟨e2, by omega⟩, ?_, ?_, fun q hq => by unfold okW; rw [r1]; exact h6' q hq, fun q hq => by unfold okP; rw [r2]; exact h7 q hq, h8, h9, fun q hq => ?_⟩
  · show isN (s' 79 6) 3
    rw [z 6 (by decide)]; exact h4
  · show 0 ≤ s' 79 9 ∧ s' 79 9 ≤ 1000000000
    rw [z 9 (by decide)]; exact h5
  · show isN (s' 84 q) 12
    rw [← hs, xu2_k (by decide)]
    by_cases e : q = n
    · rw [e, xu2_s]; exact hx
    · rw [xu2_j e]; exact h10 q (by omega)
end GVU
/-- an update of the live numbers alone -/
theorem GG.up {t t' : Nat} {sg : xIv} {k j : Nat} {x : Int32} (hG : GG t sg) (ht : t ≤ t') (hL : Gv t' (vL (xu2 sg k j x))) (h1 : k = 79 → j ≠ 24) (h2 : k ≠ 96) (h3 : k ≠ 97) : GG t' (xu2 sg k j x) := by
  refine ⟨hL, fun z => ?_⟩
  have e : vK (xu2 sg k j x) = vK sg := by
    funext r b
    unfold vK
    rw [xu2_ne (fun w => h2 w.symm), xu2_ne (fun w => h3 w.symm)]
  rw [e]
  refine (hG.2 ?_).mono ht
  by_cases e2 : k = 79
  · subst e2
    rw [xu2_j (fun w => h1 rfl w.symm)] at z
    exact z
  · rw [xu2_k (fun w => e2 w.symm)] at z
    exact z
end
section
-- ===== gate, given, rule, owes, errand, rest =====
section OPS2
variable {L : Nat} {xs : Nat → Int32} {iv : xIv} {lg : xLg} {Q : xQ} {sg : xIv} {tw : Nat → Int64} {t : Nat}
/-- behind both sides' changes -/
theorem INV.mk2 {sg' : xIv} {iv1 iv2 : xIv} {lg1 lg2 : xLg} (hC : CX iv1 lg1 sg' tw) (hs : clsS iv2 lg2 iv1 lg1) (hM : MV iv2 lg2 sg' tw) (hG : GG t sg') : INV t iv2 lg2 := ⟨sg', tw, CX_congr hs hC, hM, hG⟩
set_option maxRecDepth 100000 in
theorem m_gate {a b : Int32} (hM : MV iv lg sg tw) (hG : GG t sg) (k1 : ∀ w x, w < cnt (vL sg) 0 → a = nI w → (¬ b = 0 ∧ x = 1 ∨ b = 0 ∧ x = 0) → Q (some (.int (sg 80 (5 * w + 4)))) SH RF (xu2 iv 80 (5 * w + 4) x) lg) (k2 : ¬ isN a (cnt (vL sg) 0) → Q (some (.int (-1))) SH RF iv lg) : Sp L xs m_Mo_gate [.ref 79, .int a, .int b] SH RF iv lg Q := by
  have h24 := hG.1.1.2
  refine sgo [] 100 ?_
  refine s_inN (nW_m hM hG) (by omega) (fun h1 => ?_) (fun h1 => ?_)
  · refine c1 ?_
    obtain ⟨w, hw, rfl⟩ := isN_of h1 (by omega)
    have e : (5 : Int32) * nI w + 4 = nI (5 * w + 4) := by rw [ni5]; exact ni_a _ 4
    have hv : vp_in ((5 : Int32) * nI w + 4) 120 := by rw [e]; exact vp_N (by omega)
    refine And.intro hv ?_
    refine And.intro (fun hb => ?_) (fun hb => ?_)
    · refine And.intro hv ?_
      show Q (some (.int (iv 80 ((5 : Int32) * nI w + 4).toNatClampNeg))) SH RF (xu2 iv 80 ((5 : Int32) * nI w + 4).toNatClampNeg 0) lg
      rw [e, cl, hM.2.1.1]
      exact k1 w 0 hw rfl (Or.inr ⟨hb, rfl⟩)
    · refine And.intro hv ?_
      show Q (some (.int (iv 80 ((5 : Int32) * nI w + 4).toNatClampNeg))) SH RF (xu2 iv 80 ((5 : Int32) * nI w + 4).toNatClampNeg 1) lg
      rw [e, cl, hM.2.1.1]
      exact k1 w 1 hw rfl (Or.inl ⟨hb, rfl⟩)
  · refine c0 ?_
    exact k2 h1
set_option maxRecDepth 100000 in
theorem e_gate (a b : Int32) : EQ m_SR_gate m_Mo_gate [.int a, .int b] := by
  intro L xs t iv lg Q hI ht k
  obtain ⟨sg, tw, hC, hM, hG⟩ := id hI
  have h24 := hG.1.1.2
  have good : ∀ w x, w < cnt (vL sg) 0 → a = nI w → (¬ b = 0 ∧ x = 1 ∨ b = 0 ∧ x = 0) → Q (some (.int (sg 80 (5 * w + 4)))) SH RF (xu2 iv 7 w x) lg := fun w x hw ha hx => k _ _ lg (fun Q2 k2 => by
    have hM1 : MV (xu2 iv 7 w x) lg sg tw := MV_congr (refS.rfl.up (by decide)) hM
    refine m_gate hM1 hG (fun w' x' hw' ha' hx' => ?_) (fun h => absurd (ha ▸ isN_nI hw (by omega)) h)
    have e1 : w = w' := (nI_eq (by omega) (by omega)).mp (ha.symm.trans ha')
    subst e1
    have e2 : x = x' := by
      rcases hx with ⟨p, q⟩ | ⟨p, q⟩ <;> rcases hx' with ⟨p', q'⟩ | ⟨p', q'⟩
      · rw [q, q']
      · exact absurd p' p
      · exact absurd p p'
      · rw [q, q']
    subst e2
    have h01 : x = 0 ∨ x = 1 := by rcases hx with ⟨_, q⟩ | ⟨_, q⟩ <;> simp [q]
    exact k2 _ _ (INV.mk2 (hC.gt hw) (clsS.rfl.up (by decide)) (hM1.up _ _ _) (hG.up (Nat.le_succ t) ((hG.1.gt hw h01).mono (Nat.le_succ t)) (fun z => absurd z (by decide)) (by decide) (by decide))))
  refine sgo [] 100 ?_
  refine s_has (nW_c hC hG) (by omega) (fun h1 => ?_) (fun h1 => ?_)
  · refine c1 ?_
    obtain ⟨w, hw, rfl⟩ := isN_of h1 (by omega)
    obtain ⟨-, -, -, -, y4⟩ := hC.1.1.2 w hw
    have hv : vp_in (nI w) 24 := vp_N (by omega)
    refine And.intro hv ?_
    refine And.intro (fun hb => ?_) (fun hb => ?_)
    · refine And.intro hv ?_
      show Q (some (.int (iv 7 (nI w).toNatClampNeg))) SH RF (xu2 iv 7 (nI w).toNatClampNeg 0) lg
      rw [cl, show iv 7 w = sg 80 (5 * w + 4) from y4]
      exact good w 0 hw rfl (Or.inr ⟨hb, rfl⟩)
    · refine And.intro hv ?_
      show Q (some (.int (iv 7 (nI w).toNatClampNeg))) SH RF (xu2 iv 7 (nI w).toNatClampNeg 1) lg
      rw [cl, show iv 7 w = sg 80 (5 * w + 4) from y4]
      exact good w 1 hw rfl (Or.inl ⟨hb, rfl⟩)
  · refine c0 ?_
    exact k _ iv lg (fun Q2 k2 => m_gate hM hG (fun w x hw ha _ => absurd (ha ▸ isN_nI hw (by omega)) h1) (fun _ => k2 _ _ (hI.wk (Nat.le_succ t))))
set_option maxRecDepth 100000 in
theorem m_given {a b : Int32} (hM : MV iv lg sg tw) (k1 : ∀ w, w < 4 → a = nI w → (0 ≤ b ∧ b ≤ 9999) → Q (some (.int (sg 83 w))) SH RF (xu2 iv 83 w b) lg) (k2 : ¬ (isN a 4 ∧ (0 ≤ b ∧ b ≤ 9999)) → Q (some (.int (-1))) SH RF iv lg) : Sp L xs m_Mo_given [.ref 79, .int a, .int b] SH RF iv lg Q := by
  refine sgo [] 100 ?_
  refine s_inI (a := 0) (b := 3) (kt := fun h1 => ?_) (kf := fun h1 => ?_)
  · refine b1 ?_
    refine s_inI (a := 0) (b := 9999) (kt := fun h2 => ?_) (kf := fun h2 => ?_)
    · refine c1 ?_
      obtain ⟨w, hw, rfl⟩ := isN_of (r3.mp h1) (by decide)
      have hv : vp_in (nI w) 4 := vp_N (by omega)
      refine And.intro hv ?_
      refine And.intro hv ?_
      show Q (some (.int (iv 83 (nI w).toNatClampNeg))) SH RF (xu2 iv 83 (nI w).toNatClampNeg b) lg
      rw [cl, hM.2.1.2.2.2.1]
      exact k1 w hw rfl h2
    · refine c0 ?_
      exact k2 (fun z => h2 z.2)
  · refine b0 ?_
    exact k2 (fun z => h1 (r3.mpr z.1))
set_option maxRecDepth 100000 in
theorem e_given (a b : Int32) : EQ m_SR_given m_Mo_given [.int a, .int b] := by
  intro L xs t iv lg Q hI ht k
  obtain ⟨sg, tw, hC, hM, hG⟩ := id hI
  have bad : ¬ (isN a 4 ∧ (0 ≤ b ∧ b ≤ 9999)) → Q (some (.int (-1))) SH RF iv lg := fun h => k _ iv lg (fun Q2 k2 => m_given hM (fun w hw ha hb => absurd ⟨ha ▸ isN_nI hw (by decide), hb⟩ h) (fun _ => k2 _ _ (hI.wk (Nat.le_succ t))))
  refine sgo [] 100 ?_
  refine s_isKind (fun h1 => ?_) (fun h1 => ?_)
  · refine b1 ?_
    refine s_within (fun h2 => ?_) (fun h2 => ?_)
    · refine c1 ?_
      obtain ⟨w, hw, rfl⟩ := isN_of h1 (by decide)
      have hv : vp_in (nI w) 4 := vp_N (by omega)
      refine And.intro hv ?_
      refine And.intro hv ?_
      show Q (some (.int (iv 18 (nI w).toNatClampNeg))) SH RF (xu2 iv 18 (nI w).toNatClampNeg b) lg
      rw [cl, show iv 18 w = sg 83 w from hC.1.2.2.2.2.1 w hw]
      refine k _ _ lg (fun Q2 k2 => ?_)
      have hM1 : MV (xu2 iv 18 w b) lg sg tw := MV_congr (refS.rfl.up (by decide)) hM
      refine m_given hM1 (fun w' hw' ha' _ => ?_) (fun h => absurd ⟨h1, h2⟩ h)
      have e1 : w = w' := (nI_eq (by omega) (by omega)).mp ha'
      subst e1
      exact k2 _ _ (INV.mk2 hC.g (clsS.rfl.up (by decide)) (hM1.up _ _ _) (hG.up (Nat.le_succ t) ((hG.1.g h2).mono (Nat.le_succ t)) (fun z => absurd z (by decide)) (by decide) (by decide)))
    · refine c0 ?_
      exact bad (fun z => h2 z.2)
  · refine b0 ?_
    exact bad (fun z => h1 z.1)
set_option maxRecDepth 100000 in
theorem m_rule {a : Int32} (hM : MV iv lg sg tw) (k1 : isN a 3 → Q (some (.int (sg 79 6))) SH RF (xu2 iv 79 6 a) lg) (k2 : ¬ isN a 3 → Q (some (.int (-1))) SH RF iv lg) : Sp L xs m_Mo_rule [.ref 79, .int a] SH RF iv lg Q := by
  refine sgo [] 100 ?_
  refine s_inI (a := 0) (b := 2) (kt := fun h1 => ?_) (kf := fun h1 => ?_)
  · refine c1 ?_
    show Q (some (.int (iv 79 6))) SH RF (xu2 iv 79 6 a) lg
    rw [hM.1.2.2.1]
    exact k1 (r2.mp h1)
  · refine c0 ?_
    exact k2 (fun z => h1 (r2.mpr z))
set_option maxRecDepth 100000 in
theorem e_rule (a : Int32) : EQ m_SR_rule m_Mo_rule [.int a] := by
  intro L xs t iv lg Q hI ht k
  obtain ⟨sg, tw, hC, hM, hG⟩ := id hI
  refine sgo [] 100 ?_
  refine s_within (fun h1 => ?_) (fun h1 => ?_)
  · refine c1 ?_
    show Q (some (.int (iv 1 5))) SH RF (xu2 iv 1 5 a) lg
    rw [show iv 1 5 = sg 79 6 from hC.1.2.2.2.2.2.1]
    refine k _ _ lg (fun Q2 k2 => ?_)
    have hM1 : MV (xu2 iv 1 5 a) lg sg tw := MV_congr (refS.rfl.up (by decide)) hM
    refine m_rule hM1 (fun h => ?_) (fun h => absurd (r2.mp h1) h)
    exact k2 _ _ (INV.mk2 (hC.s (Or.inl ⟨rfl, rfl⟩)) (clsS.rfl.up (by decide)) (hM1.up _ _ _) (hG.up (Nat.le_succ t) ((hG.1.s (Or.inl ⟨rfl, h⟩)).mono (Nat.le_succ t)) (by decide) (by decide) (by decide)))
  · refine c0 ?_
    exact k _ iv lg (fun Q2 k2 => m_rule hM (fun h => absurd (r2.mpr h) h1) (fun _ => k2 _ _ (hI.wk (Nat.le_succ t))))
theorem ni8 (n : Nat) : (8 : Int32) * nI n = nI (8 * n) := pk_mul 8 n
theorem ni8' (n : Nat) : nI n * (8 : Int32) = nI (8 * n) := by rw [Nat.mul_comm]; exact pk_mul n 8
set_option maxRecDepth 100000 in
theorem m_owes {a b : Int32} (hM : MV iv lg sg tw) (hG : GG t sg) (k1 : ∀ p q, p < cnt (vL sg) 1 → q < cnt (vL sg) 1 → a = nI p → b = nI q → ¬ a = b → Q (some (.int (sg 82 (8 * p + q)))) SH RF iv lg) (k2 : ¬ (isN a (cnt (vL sg) 1) ∧ isN b (cnt (vL sg) 1) ∧ ¬ a = b) → Q (some (.int (-1))) SH RF iv lg) : Sp L xs m_Mo_owes [.ref 79, .int a, .int b] SH RF iv lg Q := by
  have h8 := hG.1.2.1.2
  refine sgo [] 100 ?_
  refine s_moTwo (nP_m hM hG) h8 (fun h1 => ?_) (fun h1 => ?_)
  · refine b1 ?_
    obtain ⟨p, hp, rfl⟩ := isN_of h1.1 (by omega)
    obtain ⟨q, hq, rfl⟩ := isN_of h1.2.1 (by omega)
    have e : (8 : Int32) * nI p + nI q = nI (8 * p + q) := by rw [ni8, ni_a]
    refine And.intro (by rw [e]; exact vp_N (by omega)) ?_
    show Q (some (.int (iv 82 ((8 : Int32) * nI p + nI q).toNatClampNeg))) SH RF iv lg
    rw [e, cl, hM.2.1.2.2.1]
    exact k1 p q hp hq rfl rfl h1.2.2
  · refine b0 ?_
    exact k2 h1
set_option maxRecDepth 100000 in
theorem e_owes (a b : Int32) : EQ m_SR_owes m_Mo_owes [.int a, .int b] := by
  intro L xs t iv lg Q hI ht k
  obtain ⟨sg, tw, hC, hM, hG⟩ := id hI
  have h8 := hG.1.2.1.2
  refine sgo [] 100 ?_
  refine s_areTwo (nP_c hC hG) h8 (fun h1 => ?_) (fun h1 => ?_)
  · refine c1 ?_
    obtain ⟨p, hp, rfl⟩ := isN_of h1.1 (by omega)
    obtain ⟨q, hq, rfl⟩ := isN_of h1.2.1 (by omega)
    have e : nI p * (8 : Int32) + nI q = nI (8 * p + q) := by rw [ni8', ni_a]
    refine And.intro (by rw [e]; exact vp_N (by omega)) ?_
    show Q (some (.int (iv 16 (nI p * (8 : Int32) + nI q).toNatClampNeg))) SH RF iv lg
    rw [e, cl, show iv 16 (8 * p + q) = sg 82 (8 * p + q) from hC.1.2.1.2.2 _ (by omega)]
    refine k _ iv lg (fun Q2 k2 => m_owes hM hG (fun p' q' hp' hq' ha' hb' _ => ?_) (fun h => absurd h1 h))
    have e1 : p = p' := (nI_eq (by omega) (by omega)).mp ha'
    have e2 : q = q' := (nI_eq (by omega) (by omega)).mp hb'
    subst e1; subst e2
    exact k2 _ _ (hI.wk (Nat.le_succ t))
  · refine c0 ?_
    exact k _ iv lg (fun Q2 k2 => m_owes hM hG (fun p q hp hq ha hb hab => absurd ⟨ha ▸ isN_nI hp (by omega), hb ▸ isN_nI hq (by omega), hab⟩ h1) (fun _ => k2 _ _ (hI.wk (Nat.le_succ t))))
set_option maxRecDepth 100000 in
theorem m_errand {a : Int32} (hM : MV iv lg sg tw) (hG : GG t sg) (k0 : ¬ isN a 12 → Q (some (.int (-1))) SH RF iv lg) (k1 : isN a 12 → cnt (vL sg) 2 = 6 → Q (some (.int (-3))) SH RF iv lg) (k2 : isN a 12 → cnt (vL sg) 2 < 6 → Q (some (.int (nI (cnt (vL sg) 2)))) SH RF (xu2 (xu2 iv 84 (cnt (vL sg) 2) a) 79 8 (nI (cnt (vL sg) 2 + 1))) lg) : Sp L xs m_Mo_errand [.ref 79, .int a] SH RF iv lg Q := by
  have h6 := hG.1.2.2.1.2
  have hn := nE_m hM hG
  generalize cnt (vL sg) 2 = n at *
  refine sgo [] 100 ?_
  refine s_moPlace (fun h1 => ?_) (fun h1 => ?_)
  · refine c1 ?_
    refine And.intro (fun h2 => ?_) (fun h2 => ?_)
    · rw [hn] at h2
      have h3 : ¬ n = 6 := fun z => h2 (by rw [z]; rfl)
      refine And.intro (by rw [hn]; exact vp_N (by omega)) ?_
      show Q (some (.int (xu2 (xu2 iv 84 (iv 79 8).toNatClampNeg a) 79 8 (xu2 iv 84 (iv 79 8).toNatClampNeg a 79 8 + 1) 79 8 - 1))) SH RF (xu2 (xu2 iv 84 (iv 79 8).toNatClampNeg a) 79 8 (xu2 iv 84 (iv 79 8).toNatClampNeg a 79 8 + 1)) lg
      rw [xu2_s, xu2_k (by decide), hn, cl, nI_1, nI_pred]
      exact k2 h1 (by omega)
    · rw [hn] at h2
      have h3 : n = 6 := by
        by_cases z : n = 6
        · exact z
        · exact absurd (fun w => z ((nI_eq (b := 6) (by omega) (by decide)).mp w)) h2
      exact k1 h1 h3
  · refine c0 ?_
    exact k0 h1
set_option maxRecDepth 100000 in
theorem e_errand (a : Int32) : EQ m_SR_errand m_Mo_errand [.int a] := by
  intro L xs t iv lg Q hI ht k
  obtain ⟨sg, tw, hC, hM, hG⟩ := id hI
  have h6 := hG.1.2.2.1.2
  have hn := nE_c hC hG
  refine sgo [] 100 ?_
  refine s_isPlace (fun h1 => ?_) (fun h1 => ?_)
  · refine c1 ?_
    refine And.intro (fun h2 => ?_) (fun h2 => ?_)
    · rw [hn] at h2
      replace h2 : cnt (vL sg) 2 < 6 := (nI_ltI (b := 6) (by omega) (by decide)).mp h2
      refine And.intro (by rw [hn]; exact vp_N (by omega)) ?_
      show Q (some (.int (xu2 (xu2 iv 17 (iv 1 2).toNatClampNeg a) 1 2 (xu2 iv 17 (iv 1 2).toNatClampNeg a 1 2 + 1) 1 2 - 1))) SH RF (xu2 (xu2 iv 17 (iv 1 2).toNatClampNeg a) 1 2 (xu2 iv 17 (iv 1 2).toNatClampNeg a 1 2 + 1)) lg
      rw [xu2_s, xu2_k (by decide), hn, cl, nI_1, nI_pred]
      refine k _ _ lg (fun Q2 k2 => ?_)
      have hM1 : MV (xu2 (xu2 iv 17 (cnt (vL sg) 2) a) 1 2 (nI (cnt (vL sg) 2 + 1))) lg sg tw := MV_congr ((refS.rfl.up (by decide)).up (by decide)) hM
      refine m_errand hM1 hG (fun h => absurd h1 h) (fun _ h => by omega) (fun _ _ => ?_)
      refine k2 _ _ (INV.mk2 (hC.e rfl h2) ((clsS.rfl.up (by decide)).up (by decide)) ((hM1.up _ _ _).up _ _ _) ?_)
      refine GG.kept hG ((hG.1.e rfl h2 h1).mono (Nat.le_succ t)) ?_ ?_ ?_
      · rw [xu2_j (by decide), xu2_k (by decide)]
      · rw [xu2_ne (by decide), xu2_ne (by decide)]
      · rw [xu2_ne (by decide), xu2_ne (by decide)]
    · rw [hn] at h2
      replace h2 : ¬ cnt (vL sg) 2 < 6 := fun z => h2 ((nI_ltI (b := 6) (by omega) (by decide)).mpr z)
      exact k _ iv lg (fun Q2 k2 => m_errand hM hG (fun h => absurd h1 h) (fun _ _ => k2 _ _ (hI.wk (Nat.le_succ t))) (fun _ h => absurd h h2))
  · refine c0 ?_
    exact k _ iv lg (fun Q2 k2 => m_errand hM hG (fun _ => k2 _ _ (hI.wk (Nat.le_succ t))) (fun h => absurd h h1) (fun h => absurd h h1))
set_option maxRecDepth 100000 in
theorem e_rest : EQ m_SR_rest m_Mo_rest [] := by
  intro L xs t iv lg Q hI ht k
  obtain ⟨sg, tw, hC, hM, hG⟩ := id hI
  refine sgo [] 100 ?_
  show Q (some (.int (iv 1 2))) SH RF (xu2 iv 1 2 0) lg
  refine k _ _ lg (fun Q2 k2 => ?_)
  have hM1 : MV (xu2 iv 1 2 0) lg sg tw := MV_congr (refS.rfl.up (by decide)) hM
  refine sgo [] 100 ?_
  show Q2 (some (.int (xu2 iv 1 2 0 79 8))) SH RF (xu2 (xu2 iv 1 2 0) 79 8 0) lg
  rw [hM1.1.2.2.2.1, show sg 79 8 = iv 1 2 from hC.1.2.2.1.symm]
  exact k2 _ _ (INV.mk2 (hC.s (Or.inr (Or.inr ⟨rfl, rfl, Nat.zero_le _⟩))) (clsS.rfl.up (by decide)) (hM1.up _ _ _) (hG.up (Nat.le_succ t) ((hG.1.s (Or.inr (Or.inr ⟨rfl, rfl⟩))).mono (Nat.le_succ t)) (by decide) (by decide) (by decide)))
end OPS2
end
section
-- ===== hand, lend, pay =====
theorem addI {a b : Int32} (h1 : -2147483648 ≤ a.toInt + b.toInt) (h2 : a.toInt + b.toInt < 2147483648) : (a + b).toInt = a.toInt + b.toInt := by
  rw [Int32.toInt_add]
  simp only [Int.bmod_def]
  omega
theorem subI {a b : Int32} (h1 : -2147483648 ≤ a.toInt - b.toInt) (h2 : a.toInt - b.toInt < 2147483648) : (a - b).toInt = a.toInt - b.toInt := by
  rw [Int32.toInt_sub]
  simp only [Int.bmod_def]
  omega
theorem tl0 : (0 : Int32).toInt = 0 := by decide
theorem tl1 : (1 : Int32).toInt = 1 := by decide
theorem tl9 : (99999 : Int32).toInt = 99999 := by decide
theorem imn_toInt (x y : Int32) : (imn x y).toInt = if y.toInt < x.toInt then y.toInt else x.toInt := by
  unfold imn
  by_cases h : y < x
  · rw [if_pos h, if_pos (it.mp h)]
  · rw [if_neg h, if_neg (fun z => h (it.mpr z))]
/-- n steps go from p's ring to q's -/
def hnd1 (sg : xIv) (p : Nat) (n : Int32) : xIv := xu2 sg 81 (7 * p + 2) (sg 81 (7 * p + 2) - n)
def hnd2 (sg : xIv) (p : Nat) (n : Int32) : xIv := xu2 (hnd1 sg p n) 81 (7 * p + 6) (hnd1 sg p n 81 (7 * p + 6) + n)
def hnd3 (sg : xIv) (p q : Nat) (n : Int32) : xIv := xu2 (hnd2 sg p n) 81 (7 * q + 2) (imn 99999 (hnd2 sg p n 81 (7 * q + 2) + n))
def hnd (sg : xIv) (p q : Nat) (n : Int32) : xIv := xu2 (hnd3 sg p q n) 81 (7 * q + 5) (hnd3 sg p q n 81 (7 * q + 5) + n)
section HAND
variable {L : Nat} {xs : Nat → Int32} {iv : xIv} {lg : xLg} {Q : xQ} {sg : xIv} {tw : Nat → Int64} {t : Nat}
theorem CX.rd (hC : CX iv lg sg tw) {p : Nat} (hp : p < cnt (vL sg) 1) : iv 9 p = sg 81 (7 * p) ∧ iv 10 p = sg 81 (7 * p + 1) ∧ iv 11 p = sg 81 (7 * p + 2) ∧ iv 12 p = sg 81 (7 * p + 3) ∧ iv 13 p = sg 81 (7 * p + 4) ∧ iv 14 p = sg 81 (7 * p + 5) ∧ iv 15 p = sg 81 (7 * p + 6) := hC.1.2.1.2.1 p hp
theorem hnd_cnt {p q : Nat} {n : Int32} (i : Nat) : cnt (vL (hnd sg p q n)) i = cnt (vL sg) i := by
  unfold hnd hnd3 hnd2 hnd1
  rw [cnt_ne (by decide), cnt_ne (by decide), cnt_ne (by decide), cnt_ne (by decide)]
theorem hnd_row {p q k : Nat} {n : Int32} (h : k ≠ 81) : hnd sg p q n k = sg k := by
  unfold hnd hnd3 hnd2 hnd1
  rw [xu2_ne h, xu2_ne h, xu2_ne h, xu2_ne h]
theorem Gv_hnd {p q : Nat} {n : Int32} (hG : Gv t (vL sg)) (hp : p < cnt (vL sg) 1) (hq : q < cnt (vL sg) 1) (h0 : 0 ≤ n.toInt) (hn : n ≤ sg 81 (7 * p + 2)) : Gv t (vL (hnd sg p q n)) := by
  have hr : 0 ≤ sg 81 (7 * p + 2) ∧ sg 81 (7 * p + 2) ≤ 99999 := (hG.2.2.2.2.2.2.1 p hp).2.2.1
  rw [il, il, tl0, tl9] at hr
  rw [il] at hn
  have g1 : Gv t (vL (hnd1 sg p n)) := by
    refine hG.p (by decide) ⟨fun z => absurd z (by decide), fun z => absurd z (by decide), fun _ => ?_, fun z => absurd z (by decide)⟩
    rw [il, il, tl0, tl9, subI (by omega) (by omega)]
    omega
  have g2 : Gv t (vL (hnd2 sg p n)) := g1.p (by decide) ⟨fun z => absurd z (by decide), fun z => absurd z (by decide), fun z => absurd z (by decide), fun z => absurd z (by decide)⟩
  have c2 : cnt (vL (hnd2 sg p n)) 1 = cnt (vL sg) 1 := by unfold hnd2 hnd1; rw [cnt_ne (by decide), cnt_ne (by decide)]
  have hr2 : 0 ≤ hnd2 sg p n 81 (7 * q + 2) ∧ hnd2 sg p n 81 (7 * q + 2) ≤ 99999 := (g2.2.2.2.2.2.2.1 q (by rw [c2]; exact hq)).2.2.1
  rw [il, il, tl0, tl9] at hr2
  have g3 : Gv t (vL (hnd3 sg p q n)) := by
    refine g2.p (by decide) ⟨fun z => absurd z (by decide), fun z => absurd z (by decide), fun _ => ?_, fun z => absurd z (by decide)⟩
    rw [il, il, imn_toInt, tl0, tl9, addI (by omega) (by omega)]
    split <;> omega
  exact g3.p (by decide) ⟨fun z => absurd z (by decide), fun z => absurd z (by decide), fun z => absurd z (by decide), fun z => absurd z (by decide)⟩
set_option maxRecDepth 100000 in
theorem s_hand {p q : Nat} {n : Int32} (hC : CX iv lg sg tw) (h8 : cnt (vL sg) 1 ≤ 8) (hp : p < cnt (vL sg) 1) (hq : q < cnt (vL sg) 1) (k : ∀ iv', CX iv' lg (hnd sg p q n) tw → refS iv' lg iv lg → Q none SH RF iv' lg) : Sp L xs m_People_hand [.ref 8, .int (nI p), .int (nI q), .int n] SH RF iv lg Q := by
  have hvp : vp_in (nI p) 8 := vp_N (by omega)
  have hvq : vp_in (nI q) 8 := vp_N (by omega)
  have ep : (nI p).toNatClampNeg = p := cl
  have eq' : (nI q).toNatClampNeg = q := cl
  refine sgo [] 100 ?_
  refine And.intro hvp ?_
  refine And.intro hvp ?_
  refine And.intro hvp ?_
  refine And.intro hvp ?_
  refine And.intro hvq ?_
  refine And.intro hvq ?_
  refine And.intro hvq ?_
  refine And.intro hvq ?_
  show Q none SH RF _ lg
  rw [ep, eq']
  have C1 : CX (xu2 iv 11 p (iv 11 p - n)) lg (hnd1 sg p n) tw := by
    unfold hnd1
    rw [(hC.rd hp).2.2.1]
    exact hC.p hp (f := 2) (by decide)
  have c1 : cnt (vL (hnd1 sg p n)) 1 = cnt (vL sg) 1 := cnt_ne (by decide)
  generalize h1 : xu2 iv 11 p (iv 11 p - n) = iv1 at C1 ⊢
  have C2 : CX (xu2 iv1 15 p (iv1 15 p + n)) lg (hnd2 sg p n) tw := by
    unfold hnd2
    rw [(C1.rd (by rw [c1]; exact hp)).2.2.2.2.2.2]
    exact C1.p (by rw [c1]; exact hp) (f := 6) (by decide)
  have c2 : cnt (vL (hnd2 sg p n)) 1 = cnt (vL sg) 1 := (cnt_ne (by decide)).trans c1
  generalize h2 : xu2 iv1 15 p (iv1 15 p + n) = iv2 at C2 ⊢
  have C3 : CX (xu2 iv2 11 q (imn 99999 (iv2 11 q + n))) lg (hnd3 sg p q n) tw := by
    unfold hnd3
    rw [(C2.rd (by rw [c2]; exact hq)).2.2.1]
    exact C2.p (by rw [c2]; exact hq) (f := 2) (by decide)
  have c3 : cnt (vL (hnd3 sg p q n)) 1 = cnt (vL sg) 1 := (cnt_ne (by decide)).trans c2
  generalize h3 : xu2 iv2 11 q (imn 99999 (iv2 11 q + n)) = iv3 at C3 ⊢
  have C4 : CX (xu2 iv3 14 q (iv3 14 q + n)) lg (hnd sg p q n) tw := by
    unfold hnd
    rw [(C3.rd (by rw [c3]; exact hq)).2.2.2.2.2.1]
    exact C3.p (by rw [c3]; exact hq) (f := 5) (by decide)
  refine k _ C4 ?_
  rw [← h3, ← h2, ← h1]
  exact (((refS.rfl.up (by decide)).up (by decide)).up (by decide)).up (by decide)
set_option maxRecDepth 100000 in
theorem m_send {p q : Nat} {n : Int32} (hM : MV iv lg sg tw) (hp : p < 8) (hq : q < 8) (k : ∀ iv', MV iv' lg (hnd sg p q n) tw → clsS iv' lg iv lg → Q none SH RF iv' lg) : Sp L xs m_Mo_send [.ref 79, .int (nI p), .int (nI q), .int n] SH RF iv lg Q := by
  have ep : ∀ c : Nat, c < 7 → (7 : Int32) * nI p + nI c = nI (7 * p + c) := fun c _ => by rw [ni7, ni_a]
  have eq' : ∀ c : Nat, c < 7 → (7 : Int32) * nI q + nI c = nI (7 * q + c) := fun c _ => by rw [ni7, ni_a]
  have vp2 : vp_in ((7 : Int32) * nI p + 2) 56 := by rw [show (7 : Int32) * nI p + 2 = nI (7 * p + 2) from ep 2 (by decide)]; exact vp_N (by omega)
  have vp6 : vp_in ((7 : Int32) * nI p + 6) 56 := by rw [show (7 : Int32) * nI p + 6 = nI (7 * p + 6) from ep 6 (by decide)]; exact vp_N (by omega)
  have vq2 : vp_in ((7 : Int32) * nI q + 2) 56 := by rw [show (7 : Int32) * nI q + 2 = nI (7 * q + 2) from eq' 2 (by decide)]; exact vp_N (by omega)
  have vq5 : vp_in ((7 : Int32) * nI q + 5) 56 := by rw [show (7 : Int32) * nI q + 5 = nI (7 * q + 5) from eq' 5 (by decide)]; exact vp_N (by omega)
  have cp2 : ((7 : Int32) * nI p + 2).toNatClampNeg = 7 * p + 2 := by rw [show (7 : Int32) * nI p + 2 = nI (7 * p + 2) from ep 2 (by decide), cl]
  have cp6 : ((7 : Int32) * nI p + 6).toNatClampNeg = 7 * p + 6 := by rw [show (7 : Int32) * nI p + 6 = nI (7 * p + 6) from ep 6 (by decide), cl]
  have cq2 : ((7 : Int32) * nI q + 2).toNatClampNeg = 7 * q + 2 := by rw [show (7 : Int32) * nI q + 2 = nI (7 * q + 2) from eq' 2 (by decide), cl]
  have cq5 : ((7 : Int32) * nI q + 5).toNatClampNeg = 7 * q + 5 := by rw [show (7 : Int32) * nI q + 5 = nI (7 * q + 5) from eq' 5 (by decide), cl]
  have M1 : MV (xu2 iv 81 (7 * p + 2) (iv 81 (7 * p + 2) - n)) lg (hnd1 sg p n) tw := by
    unfold hnd1
    rw [hM.2.1.2.1]
    exact hM.up _ _ _
  generalize h1 : xu2 iv 81 (7 * p + 2) (iv 81 (7 * p + 2) - n) = iv1 at M1
  have M2 : MV (xu2 iv1 81 (7 * p + 6) (iv1 81 (7 * p + 6) + n)) lg (hnd2 sg p n) tw := by
    unfold hnd2
    rw [M1.2.1.2.1]
    exact M1.up _ _ _
  generalize h2 : xu2 iv1 81 (7 * p + 6) (iv1 81 (7 * p + 6) + n) = iv2 at M2
  have M3 : MV (xu2 iv2 81 (7 * q + 2) (imn 99999 (iv2 81 (7 * q + 2) + n))) lg (hnd3 sg p q n) tw := by
    unfold hnd3
    rw [M2.2.1.2.1]
    exact M2.up _ _ _
  generalize h3 : xu2 iv2 81 (7 * q + 2) (imn 99999 (iv2 81 (7 * q + 2) + n)) = iv3 at M3
  have M4 : MV (xu2 iv3 81 (7 * q + 5) (iv3 81 (7 * q + 5) + n)) lg (hnd sg p q n) tw := by
    unfold hnd
    rw [M3.2.1.2.1]
    exact M3.up _ _ _
  have hk := k _ M4 (by rw [← h3, ← h2, ← h1]; exact (((clsS.rfl.up (by decide)).up (by decide)).up (by decide)).up (by decide))
  refine sgo [] 100 ?_
  refine And.intro vp2 ?_
  refine And.intro vp2 ?_
  refine And.intro vp6 ?_
  refine And.intro vp6 ?_
  refine And.intro vq2 ?_
  rw [cp2, cp6, cq2, h1, h2]
  refine And.intro (fun h => ?_) (fun h => ?_)
  · refine And.intro vq2 ?_
    refine And.intro vq2 ?_
    refine And.intro vq5 ?_
    refine And.intro vq5 ?_
    show Q none SH RF (xu2 (xu2 iv2 81 ((7 : Int32) * nI q + 2).toNatClampNeg (iv2 81 ((7 : Int32) * nI q + 2).toNatClampNeg + n)) 81 ((7 : Int32) * nI q + 5).toNatClampNeg (xu2 iv2 81 ((7 : Int32) * nI q + 2).toNatClampNeg (iv2 81 ((7 : Int32) * nI q + 2).toNatClampNeg + n) 81 ((7 : Int32) * nI q + 5).toNatClampNeg + n)) lg
    rw [cq2, cq5]
    have e : imn 99999 (iv2 81 (7 * q + 2) + n) = iv2 81 (7 * q + 2) + n := by
      unfold imn
      by_cases z : iv2 81 (7 * q + 2) + n < 99999
      · rw [if_pos z]
      · rw [if_neg z]
        exact ie.mpr (by rw [il] at h; rw [it] at z; omega)
    rw [← e, h3]
    exact hk
  · refine And.intro vq2 ?_
    refine And.intro vq5 ?_
    refine And.intro vq5 ?_
    show Q none SH RF (xu2 (xu2 iv2 81 ((7 : Int32) * nI q + 2).toNatClampNeg 99999) 81 ((7 : Int32) * nI q + 5).toNatClampNeg (xu2 iv2 81 ((7 : Int32) * nI q + 2).toNatClampNeg 99999 81 ((7 : Int32) * nI q + 5).toNatClampNeg + n)) lg
    rw [cq2, cq5]
    have e : imn 99999 (iv2 81 (7 * q + 2) + n) = 99999 := by
      unfold imn
      rw [if_neg (fun z => by rw [il] at h; rw [it] at z; omega)]
    rw [← e, h3]
    exact hk
end HAND
end
section
-- ===== lend, pay =====
section LEND
variable {L : Nat} {xs : Nat → Int32} {iv : xIv} {lg : xLg} {Q : xQ} {sg : xIv} {tw : Nat → Int64} {t : Nat}
abbrev okT (sg : xIv) (a b n : Int32) : Prop := (isN a (cnt (vL sg) 1) ∧ isN b (cnt (vL sg) 1) ∧ ¬ a = b) ∧ (1 ≤ n ∧ n ≤ 99999)
def lnd (sg : xIv) (p q : Nat) (n : Int32) : xIv := xu2 (hnd sg p q n) 82 (8 * q + p) (hnd sg p q n 82 (8 * q + p) + n)
def pyb (sg : xIv) (p q : Nat) (n : Int32) : xIv := xu2 (hnd sg p q n) 82 (8 * p + q) (hnd sg p q n 82 (8 * p + q) - n)
def opLend (sg : xIv) (a b n : Int32) : Int32 × xIv := if okT sg a b n then (if n ≤ sg 81 (7 * a.toNatClampNeg + 2) then (lnd sg a.toNatClampNeg b.toNatClampNeg n 81 (7 * a.toNatClampNeg + 2), lnd sg a.toNatClampNeg b.toNatClampNeg n) else (-2, sg)) else (-1, sg)
def opPay (sg : xIv) (a b n : Int32) : Int32 × xIv := if okT sg a b n then (if n ≤ sg 81 (7 * a.toNatClampNeg + 2) ∧ n ≤ sg 82 (8 * a.toNatClampNeg + b.toNatClampNeg) then (pyb sg a.toNatClampNeg b.toNatClampNeg n 81 (7 * a.toNatClampNeg + 2), pyb sg a.toNatClampNeg b.toNatClampNeg n) else (-2, sg)) else (-1, sg)
set_option maxRecDepth 100000 in
theorem c_lend {a b n : Int32} (hC : CX iv lg sg tw) (hG : GG t sg) (k : ∀ iv', CX iv' lg (opLend sg a b n).2 tw → refS iv' lg iv lg → Q (some (.int (opLend sg a b n).1)) SH RF iv' lg) : Sp L xs m_SR_lend [.ref 0, .int a, .int b, .int n] SH RF iv lg Q := by
  have h8 := hG.1.2.1.2
  have kb : ¬ okT sg a b n → Q (some (.int (-1))) SH RF iv lg := fun h => by
    have e : opLend sg a b n = (-1, sg) := if_neg h
    rw [e] at k
    exact k iv hC refS.rfl
  refine sgo [] 100 ?_
  refine s_areTwo (nP_c hC hG) h8 (fun h1 => ?_) (fun h1 => ?_)
  · refine b1 ?_
    refine s_within (fun h2 => ?_) (fun h2 => ?_)
    · refine c1 ?_
      have hok : okT sg a b n := ⟨h1, h2⟩
      obtain ⟨p, hp, rfl⟩ := isN_of h1.1 (by omega)
      obtain ⟨q, hq, rfl⟩ := isN_of h1.2.1 (by omega)
      have ep : (nI p).toNatClampNeg = p := cl
      have eq' : (nI q).toNatClampNeg = q := cl
      have hvp : vp_in (nI p) 8 := vp_N (by omega)
      refine And.intro hvp ?_
      rw [ep, (hC.rd hp).2.2.1]
      refine And.intro (fun h3 => ?_) (fun h3 => ?_)
      · have e : opLend sg (nI p) (nI q) n = (lnd sg p q n 81 (7 * p + 2), lnd sg p q n) := by unfold opLend; rw [if_pos hok, ep, eq', if_pos h3]
        rw [e] at k
        refine s_hand hC h8 hp hq (fun iv1 C1 R1 => ?_)
        have c1 : cnt (vL (hnd sg p q n)) 1 = cnt (vL sg) 1 := hnd_cnt 1
        have e8 : nI q * (8 : Int32) + nI p = nI (8 * q + p) := by rw [ni8', ni_a]
        have v8 : vp_in (nI q * (8 : Int32) + nI p) 64 := by rw [e8]; exact vp_N (by omega)
        have k8 : (nI q * (8 : Int32) + nI p).toNatClampNeg = 8 * q + p := by rw [e8, cl]
        refine And.intro v8 ?_
        refine And.intro v8 ?_
        refine And.intro hvp ?_
        show Q (some (.int (xu2 iv1 16 (nI q * (8 : Int32) + nI p).toNatClampNeg (iv1 16 (nI q * (8 : Int32) + nI p).toNatClampNeg + n) 11 (nI p).toNatClampNeg))) SH RF (xu2 iv1 16 (nI q * (8 : Int32) + nI p).toNatClampNeg (iv1 16 (nI q * (8 : Int32) + nI p).toNatClampNeg + n)) lg
        rw [k8, ep, show iv1 16 (8 * q + p) = hnd sg p q n 82 (8 * q + p) from C1.1.2.1.2.2 _ (by omega)]
        have C2 : CX (xu2 iv1 16 (8 * q + p) (hnd sg p q n 82 (8 * q + p) + n)) lg (lnd sg p q n) tw := C1.o
        rw [(C2.rd (by unfold lnd; rw [cnt_ne (by decide), c1]; exact hp)).2.2.1]
        exact k _ C2 (R1.up (by decide))
      · have e : opLend sg (nI p) (nI q) n = (-2, sg) := by unfold opLend; rw [if_pos hok, ep, if_neg h3]
        rw [e] at k
        exact k iv hC refS.rfl
    · refine c0 ?_
      exact kb (fun z => h2 z.2)
  · refine b0 ?_
    exact kb (fun z => h1 z.1)
set_option maxRecDepth 100000 in
theorem m_lend {a b n : Int32} (hM : MV iv lg sg tw) (hG : GG t sg) (k : ∀ iv', MV iv' lg (opLend sg a b n).2 tw → clsS iv' lg iv lg → Q (some (.int (opLend sg a b n).1)) SH RF iv' lg) : Sp L xs m_Mo_lend [.ref 79, .int a, .int b, .int n] SH RF iv lg Q := by
  have h8 := hG.1.2.1.2
  have kb : ¬ okT sg a b n → Q (some (.int (-1))) SH RF iv lg := fun h => by
    have e : opLend sg a b n = (-1, sg) := if_neg h
    rw [e] at k
    exact k iv hM clsS.rfl
  refine sgo [] 100 ?_
  refine s_moTwo (nP_m hM hG) h8 (fun h1 => ?_) (fun h1 => ?_)
  · refine b1 ?_
    refine s_inI (a := 1) (b := 99999) (kt := fun h2 => ?_) (kf := fun h2 => ?_)
    · refine c1 ?_
      have hok : okT sg a b n := ⟨h1, h2⟩
      obtain ⟨p, hp, rfl⟩ := isN_of h1.1 (by omega)
      obtain ⟨q, hq, rfl⟩ := isN_of h1.2.1 (by omega)
      have ep : (nI p).toNatClampNeg = p := cl
      have eq' : (nI q).toNatClampNeg = q := cl
      have e7 : (7 : Int32) * nI p + 2 = nI (7 * p + 2) := by rw [ni7]; exact ni_a _ 2
      have v7 : vp_in ((7 : Int32) * nI p + 2) 56 := by rw [e7]; exact vp_N (by omega)
      have k7 : ((7 : Int32) * nI p + 2).toNatClampNeg = 7 * p + 2 := by rw [e7, cl]
      refine And.intro v7 ?_
      rw [k7, hM.2.1.2.1]
      refine And.intro (fun h3 => ?_) (fun h3 => ?_)
      · have e : opLend sg (nI p) (nI q) n = (lnd sg p q n 81 (7 * p + 2), lnd sg p q n) := by unfold opLend; rw [if_pos hok, ep, eq', if_pos h3]
        rw [e] at k
        refine m_send hM (by omega) (by omega) (fun iv1 M1 R1 => ?_)
        have e8 : (8 : Int32) * nI q + nI p = nI (8 * q + p) := by rw [ni8, ni_a]
        have v8 : vp_in ((8 : Int32) * nI q + nI p) 64 := by rw [e8]; exact vp_N (by omega)
        have k8 : ((8 : Int32) * nI q + nI p).toNatClampNeg = 8 * q + p := by rw [e8, cl]
        refine And.intro v8 ?_
        refine And.intro v8 ?_
        refine And.intro v7 ?_
        show Q (some (.int (xu2 iv1 82 ((8 : Int32) * nI q + nI p).toNatClampNeg (iv1 82 ((8 : Int32) * nI q + nI p).toNatClampNeg + n) 81 ((7 : Int32) * nI p + 2).toNatClampNeg))) SH RF (xu2 iv1 82 ((8 : Int32) * nI q + nI p).toNatClampNeg (iv1 82 ((8 : Int32) * nI q + nI p).toNatClampNeg + n)) lg
        rw [k8, k7, M1.2.1.2.2.1]
        have M2 : MV (xu2 iv1 82 (8 * q + p) (hnd sg p q n 82 (8 * q + p) + n)) lg (lnd sg p q n) tw := M1.up _ _ _
        rw [M2.2.1.2.1]
        exact k _ M2 (R1.up (by decide))
      · have e : opLend sg (nI p) (nI q) n = (-2, sg) := by unfold opLend; rw [if_pos hok, ep, if_neg h3]
        rw [e] at k
        exact k iv hM clsS.rfl
    · refine c0 ?_
      exact kb (fun z => h2 z.2)
  · refine b0 ?_
    exact kb (fun z => h1 z.1)
theorem e_lend (a b n : Int32) : EQ m_SR_lend m_Mo_lend [.int a, .int b, .int n] := by
  refine EQ.of (fun sg tw => ((opLend sg a b n).1, (opLend sg a b n).2, tw)) (fun hC hG ht k => c_lend hC hG (fun iv' h1 h2 => k iv' _ h1 h2)) (fun hM hG ht k => m_lend hM hG (fun iv' h1 h2 => k iv' _ h1 h2)) (fun {t sg tw} hG ht => ?_)
  show GG (t + 1) (opLend sg a b n).2
  unfold opLend
  split
  · rename_i hok
    split
    · rename_i hle
      have h8 := hG.1.2.1.2
      obtain ⟨p, hp, rfl⟩ := isN_of hok.1.1 (by omega)
      obtain ⟨q, hq, rfl⟩ := isN_of hok.1.2.1 (by omega)
      rw [cl (n := p)] at hle ⊢
      rw [cl (n := q)]
      have hn := hok.2
      rw [il, il, tl1, tl9] at hn
      have g1 : Gv t (vL (hnd sg p q n)) := Gv_hnd hG.1 hp hq (by omega) hle
      have g2 : Gv (t + 1) (vL (lnd sg p q n)) := by
        have ho := g1.2.2.2.2.2.2.2.1 (8 * q + p) (by omega)
        refine g1.o (Nat.le_succ t) ?_
        show 0 ≤ (hnd sg p q n 82 (8 * q + p) + n).toInt ∧ (hnd sg p q n 82 (8 * q + p) + n).toInt ≤ 99999 * ((t + 1 : Nat) : Int)
        have ho : 0 ≤ (hnd sg p q n 82 (8 * q + p)).toInt ∧ (hnd sg p q n 82 (8 * q + p)).toInt ≤ 99999 * (t : Int) := ho
        rw [addI (by omega) (by omega)]
        omega
      have er : ∀ k, k ≠ 81 → k ≠ 82 → lnd sg p q n k = sg k := fun k h1 h2 => by unfold lnd; rw [xu2_ne h2, hnd_row h1]
      exact GG.kept (sg' := lnd sg p q n) hG g2 (by rw [er 79 (by decide) (by decide)]) (er 96 (by decide) (by decide)) (er 97 (by decide) (by decide))
    · exact hG.mono (Nat.le_succ t)
  · exact hG.mono (Nat.le_succ t)
set_option maxRecDepth 100000 in
theorem s_payBack {p q : Nat} {n : Int32} (hC : CX iv lg sg tw) (h8 : cnt (vL sg) 1 ≤ 8) (hp : p < cnt (vL sg) 1) (hq : q < cnt (vL sg) 1) (k : ∀ iv', CX iv' lg (pyb sg p q n) tw → refS iv' lg iv lg → Q none SH RF iv' lg) : Sp L xs m_People_payBack [.ref 8, .int (nI p), .int (nI q), .int n] SH RF iv lg Q := by
  refine sgo [] 100 ?_
  refine s_hand hC h8 hp hq (fun iv1 C1 R1 => ?_)
  have e8 : nI p * (8 : Int32) + nI q = nI (8 * p + q) := by rw [ni8', ni_a]
  have v8 : vp_in (nI p * (8 : Int32) + nI q) 64 := by rw [e8]; exact vp_N (by omega)
  have k8 : (nI p * (8 : Int32) + nI q).toNatClampNeg = 8 * p + q := by rw [e8, cl]
  refine And.intro v8 ?_
  refine And.intro v8 ?_
  show Q none SH RF (xu2 iv1 16 (nI p * (8 : Int32) + nI q).toNatClampNeg (iv1 16 (nI p * (8 : Int32) + nI q).toNatClampNeg - n)) lg
  rw [k8, show iv1 16 (8 * p + q) = hnd sg p q n 82 (8 * p + q) from C1.1.2.1.2.2 _ (by omega)]
  exact k _ C1.o (R1.up (by decide))
set_option maxRecDepth 100000 in
theorem c_pay {a b n : Int32} (hC : CX iv lg sg tw) (hG : GG t sg) (k : ∀ iv', CX iv' lg (opPay sg a b n).2 tw → refS iv' lg iv lg → Q (some (.int (opPay sg a b n).1)) SH RF iv' lg) : Sp L xs m_SR_pay [.ref 0, .int a, .int b, .int n] SH RF iv lg Q := by
  have h8 := hG.1.2.1.2
  have kb : ¬ okT sg a b n → Q (some (.int (-1))) SH RF iv lg := fun h => by
    have e : opPay sg a b n = (-1, sg) := if_neg h
    rw [e] at k
    exact k iv hC refS.rfl
  refine sgo [] 100 ?_
  refine s_areTwo (nP_c hC hG) h8 (fun h1 => ?_) (fun h1 => ?_)
  · refine b1 ?_
    refine s_within (fun h2 => ?_) (fun h2 => ?_)
    · refine c1 ?_
      have hok : okT sg a b n := ⟨h1, h2⟩
      obtain ⟨p, hp, rfl⟩ := isN_of h1.1 (by omega)
      obtain ⟨q, hq, rfl⟩ := isN_of h1.2.1 (by omega)
      have ep : (nI p).toNatClampNeg = p := cl
      have eq' : (nI q).toNatClampNeg = q := cl
      have hvp : vp_in (nI p) 8 := vp_N (by omega)
      have bad : ¬ (n ≤ sg 81 (7 * p + 2) ∧ n ≤ sg 82 (8 * p + q)) → Q (some (.int (-2))) SH RF iv lg := fun h => by
        have e : opPay sg (nI p) (nI q) n = (-2, sg) := by unfold opPay; rw [if_pos hok, ep, eq', if_neg h]
        rw [e] at k
        exact k iv hC refS.rfl
      refine And.intro hvp ?_
      rw [ep, (hC.rd hp).2.2.1]
      refine And.intro (fun h3 => ?_) (fun h3 => ?_)
      · exact bad (fun z => lnle h3 z.1)
      · have e8 : nI p * (8 : Int32) + nI q = nI (8 * p + q) := by rw [ni8', ni_a]
        have v8 : vp_in (nI p * (8 : Int32) + nI q) 64 := by rw [e8]; exact vp_N (by omega)
        have k8 : (nI p * (8 : Int32) + nI q).toNatClampNeg = 8 * p + q := by rw [e8, cl]
        refine And.intro v8 ?_
        rw [k8, show iv 16 (8 * p + q) = sg 82 (8 * p + q) from hC.1.2.1.2.2 _ (by omega)]
        refine And.intro (fun h4 => ?_) (fun h4 => ?_)
        · have e : opPay sg (nI p) (nI q) n = (pyb sg p q n 81 (7 * p + 2), pyb sg p q n) := by unfold opPay; rw [if_pos hok, ep, eq', if_pos ⟨nlt h3, h4⟩]
          rw [e] at k
          refine s_payBack hC h8 hp hq (fun iv1 C1 R1 => ?_)
          refine And.intro hvp ?_
          show Q (some (.int (iv1 11 (nI p).toNatClampNeg))) SH RF iv1 lg
          rw [ep, (C1.rd (by unfold pyb; rw [cnt_ne (by decide), hnd_cnt]; exact hp)).2.2.1]
          exact k _ C1 R1
        · exact bad (fun z => h4 z.2)
    · refine c0 ?_
      exact kb (fun z => h2 z.2)
  · refine b0 ?_
    exact kb (fun z => h1 z.1)
set_option maxRecDepth 100000 in
theorem m_pay {a b n : Int32} (hM : MV iv lg sg tw) (hG : GG t sg) (k : ∀ iv', MV iv' lg (opPay sg a b n).2 tw → clsS iv' lg iv lg → Q (some (.int (opPay sg a b n).1)) SH RF iv' lg) : Sp L xs m_Mo_pay [.ref 79, .int a, .int b, .int n] SH RF iv lg Q := by
  have h8 := hG.1.2.1.2
  have kb : ¬ okT sg a b n → Q (some (.int (-1))) SH RF iv lg := fun h => by
    have e : opPay sg a b n = (-1, sg) := if_neg h
    rw [e] at k
    exact k iv hM clsS.rfl
  refine sgo [] 100 ?_
  refine s_moTwo (nP_m hM hG) h8 (fun h1 => ?_) (fun h1 => ?_)
  · refine b1 ?_
    refine s_inI (a := 1) (b := 99999) (kt := fun h2 => ?_) (kf := fun h2 => ?_)
    · refine c1 ?_
      have hok : okT sg a b n := ⟨h1, h2⟩
      obtain ⟨p, hp, rfl⟩ := isN_of h1.1 (by omega)
      obtain ⟨q, hq, rfl⟩ := isN_of h1.2.1 (by omega)
      have ep : (nI p).toNatClampNeg = p := cl
      have eq' : (nI q).toNatClampNeg = q := cl
      have e7 : (7 : Int32) * nI p + 2 = nI (7 * p + 2) := by rw [ni7]; exact ni_a _ 2
      have v7 : vp_in ((7 : Int32) * nI p + 2) 56 := by rw [e7]; exact vp_N (by omega)
      have k7 : ((7 : Int32) * nI p + 2).toNatClampNeg = 7 * p + 2 := by rw [e7, cl]
      have bad : ¬ (n ≤ sg 81 (7 * p + 2) ∧ n ≤ sg 82 (8 * p + q)) → Q (some (.int (-2))) SH RF iv lg := fun h => by
        have e : opPay sg (nI p) (nI q) n = (-2, sg) := by unfold opPay; rw [if_pos hok, ep, eq', if_neg h]
        rw [e] at k
        exact k iv hM clsS.rfl
      have e8 : (8 : Int32) * nI p + nI q = nI (8 * p + q) := by rw [ni8, ni_a]
      have v8 : vp_in ((8 : Int32) * nI p + nI q) 64 := by rw [e8]; exact vp_N (by omega)
      have k8 : ((8 : Int32) * nI p + nI q).toNatClampNeg = 8 * p + q := by rw [e8, cl]
      refine And.intro v7 ?_
      rw [k7, hM.2.1.2.1]
      refine And.intro (fun h3 => ?_) (fun h3 => ?_)
      · exact bad (fun z => lnle h3 z.1)
      · refine And.intro v8 ?_
        rw [k8, hM.2.1.2.2.1]
        refine And.intro (fun h4 => ?_) (fun h4 => ?_)
        · have e : opPay sg (nI p) (nI q) n = (pyb sg p q n 81 (7 * p + 2), pyb sg p q n) := by unfold opPay; rw [if_pos hok, ep, eq', if_pos ⟨nlt h3, h4⟩]
          rw [e] at k
          refine m_send hM (by omega) (by omega) (fun iv1 M1 R1 => ?_)
          refine And.intro v8 ?_
          refine And.intro v8 ?_
          refine And.intro v7 ?_
          show Q (some (.int (xu2 iv1 82 ((8 : Int32) * nI p + nI q).toNatClampNeg (iv1 82 ((8 : Int32) * nI p + nI q).toNatClampNeg - n) 81 ((7 : Int32) * nI p + 2).toNatClampNeg))) SH RF (xu2 iv1 82 ((8 : Int32) * nI p + nI q).toNatClampNeg (iv1 82 ((8 : Int32) * nI p + nI q).toNatClampNeg - n)) lg
          rw [k8, k7, M1.2.1.2.2.1]
          have M2 : MV (xu2 iv1 82 (8 * p + q) (hnd sg p q n 82 (8 * p + q) - n)) lg (pyb sg p q n) tw := M1.up _ _ _
          rw [M2.2.1.2.1]
          exact k _ M2 (R1.up (by decide))
        · exact bad (fun z => h4 z.2)
    · refine c0 ?_
      exact kb (fun z => h2 z.2)
  · refine b0 ?_
    exact kb (fun z => h1 z.1)
theorem pyb_row {p q k : Nat} {n : Int32} (h1 : k ≠ 81) (h2 : k ≠ 82) : pyb sg p q n k = sg k := by unfold pyb; rw [xu2_ne h2, hnd_row h1]
theorem Gv_pyb {p q : Nat} {n : Int32} (hG : Gv t (vL sg)) (hp : p < cnt (vL sg) 1) (hq : q < cnt (vL sg) 1) (h8 : cnt (vL sg) 1 ≤ 8) (ht : t ≤ 512) (h0 : 0 ≤ n.toInt) (hn : n ≤ sg 81 (7 * p + 2)) (ho : n ≤ sg 82 (8 * p + q)) : Gv t (vL (pyb sg p q n)) := by
  have g1 : Gv t (vL (hnd sg p q n)) := Gv_hnd hG hp hq h0 hn
  have h3 := g1.2.2.2.2.2.2.2.1 (8 * p + q) (by omega)
  refine g1.o (Nat.le_refl t) ?_
  have h3 : 0 ≤ (hnd sg p q n 82 (8 * p + q)).toInt ∧ (hnd sg p q n 82 (8 * p + q)).toInt ≤ 99999 * (t : Int) := h3
  rw [hnd_row (by decide)] at h3 ⊢
  rw [il] at ho
  rw [subI (by omega) (by omega)]
  omega
theorem e_pay (a b n : Int32) : EQ m_SR_pay m_Mo_pay [.int a, .int b, .int n] := by
  refine EQ.of (fun sg tw => ((opPay sg a b n).1, (opPay sg a b n).2, tw)) (fun hC hG ht k => c_pay hC hG (fun iv' h1 h2 => k iv' _ h1 h2)) (fun hM hG ht k => m_pay hM hG (fun iv' h1 h2 => k iv' _ h1 h2)) (fun {t sg tw} hG ht => ?_)
  show GG (t + 1) (opPay sg a b n).2
  unfold opPay
  split
  · rename_i hok
    split
    · rename_i hle
      have h8 := hG.1.2.1.2
      obtain ⟨p, hp, rfl⟩ := isN_of hok.1.1 (by omega)
      obtain ⟨q, hq, rfl⟩ := isN_of hok.1.2.1 (by omega)
      rw [cl (n := p), cl (n := q)] at hle ⊢
      have hn := hok.2
      rw [il, il, tl1, tl9] at hn
      exact GG.kept (sg' := pyb sg p q n) hG ((Gv_pyb hG.1 hp hq h8 (by omega) (by omega) hle.1 hle.2).mono (Nat.le_succ t)) (by rw [pyb_row (by decide) (by decide)]) (pyb_row (by decide) (by decide)) (pyb_row (by decide) (by decide))
    · exact hG.mono (Nat.le_succ t)
  · exact hG.mono (Nat.le_succ t)
end LEND
end
section
-- ===== person =====
def addP (sg : xIv) (h kd r : Int32) : xIv := xu2 (xu2 (xu2 (xu2 (xu2 (xu2 (xu2 (xu2 sg 81 (7 * cnt (vL sg) 1) h) 81 (7 * cnt (vL sg) 1 + 1) kd) 81 (7 * cnt (vL sg) 1 + 2) r) 81 (7 * cnt (vL sg) 1 + 3) h) 81 (7 * cnt (vL sg) 1 + 4) 0) 81 (7 * cnt (vL sg) 1 + 5) 0) 81 (7 * cnt (vL sg) 1 + 6) 0) 79 3 (nI (cnt (vL sg) 1 + 1))
section PERS
variable {L : Nat} {xs : Nat → Int32} {iv : xIv} {lg : xLg} {Q : xQ} {sg : xIv} {tw : Nat → Int64} {t : Nat} {h kd r : Int32}
theorem addP_cnt : cnt (vL (addP sg h kd r)) 1 = (nI (cnt (vL sg) 1 + 1)).toNatClampNeg := by
  show (addP sg h kd r 79 3).toNatClampNeg = _
  unfold addP
  rw [xu2_s]
theorem addP_old {j : Nat} (hj : j < 7 * cnt (vL sg) 1) : addP sg h kd r 81 j = sg 81 j := by
  unfold addP
  rw [xu2_k (by decide), xu2_j (by omega), xu2_j (by omega), xu2_j (by omega), xu2_j (by omega), xu2_j (by omega), xu2_j (by omega), xu2_j (by omega)]
theorem addP_row {k : Nat} (h1 : k ≠ 79) (h2 : k ≠ 81) : addP sg h kd r k = sg k := by
  unfold addP
  rw [xu2_ne h1, xu2_ne h2, xu2_ne h2, xu2_ne h2, xu2_ne h2, xu2_ne h2, xu2_ne h2, xu2_ne h2]
theorem addP_79 {j : Nat} (hj : j ≠ 3) : addP sg h kd r 79 j = sg 79 j := by
  unfold addP
  rw [xu2_j hj, xu2_k (by decide), xu2_k (by decide), xu2_k (by decide), xu2_k (by decide), xu2_k (by decide), xu2_k (by decide), xu2_k (by decide)]
theorem addP_n : addP sg h kd r 81 (7 * cnt (vL sg) 1) = h ∧ addP sg h kd r 81 (7 * cnt (vL sg) 1 + 1) = kd ∧ addP sg h kd r 81 (7 * cnt (vL sg) 1 + 2) = r ∧ addP sg h kd r 81 (7 * cnt (vL sg) 1 + 3) = h ∧ addP sg h kd r 81 (7 * cnt (vL sg) 1 + 4) = 0 ∧ addP sg h kd r 81 (7 * cnt (vL sg) 1 + 5) = 0 ∧ addP sg h kd r 81 (7 * cnt (vL sg) 1 + 6) = 0 := by
  unfold addP
  refine ⟨?_, ?_, ?_, ?_, ?_, ?_, ?_⟩
  · rw [xu2_k (by decide), xu2_j (by omega), xu2_j (by omega), xu2_j (by omega), xu2_j (by omega), xu2_j (by omega), xu2_j (by omega), xu2_s]
  · rw [xu2_k (by decide), xu2_j (by omega), xu2_j (by omega), xu2_j (by omega), xu2_j (by omega), xu2_j (by omega), xu2_s]
  · rw [xu2_k (by decide), xu2_j (by omega), xu2_j (by omega), xu2_j (by omega), xu2_j (by omega), xu2_s]
  · rw [xu2_k (by decide), xu2_j (by omega), xu2_j (by omega), xu2_j (by omega), xu2_s]
  · rw [xu2_k (by decide), xu2_j (by omega), xu2_j (by omega), xu2_s]
  · rw [xu2_k (by decide), xu2_j (by omega), xu2_s]
  · rw [xu2_k (by decide), xu2_s]
theorem c_addP (hC : CX iv lg sg tw) (h8 : cnt (vL sg) 1 < 8) : CX (xu2 (xu2 (xu2 (xu2 (xu2 (xu2 (xu2 (xu2 iv 9 (cnt (vL sg) 1) h) 10 (cnt (vL sg) 1) kd) 11 (cnt (vL sg) 1) r) 12 (cnt (vL sg) 1) h) 13 (cnt (vL sg) 1) 0) 14 (cnt (vL sg) 1) 0) 15 (cnt (vL sg) 1) 0) 8 0 (nI (cnt (vL sg) 1 + 1))) lg (addP sg h kd r) tw := by
  generalize hiv : xu2 (xu2 (xu2 (xu2 (xu2 (xu2 (xu2 (xu2 iv 9 (cnt (vL sg) 1) h) 10 (cnt (vL sg) 1) kd) 11 (cnt (vL sg) 1) r) 12 (cnt (vL sg) 1) h) 13 (cnt (vL sg) 1) 0) 14 (cnt (vL sg) 1) 0) 15 (cnt (vL sg) 1) 0) 8 0 (nI (cnt (vL sg) 1 + 1)) = iv'
  have hr : ∀ k, k ≠ 8 → k ≠ 9 → k ≠ 10 → k ≠ 11 → k ≠ 12 → k ≠ 13 → k ≠ 14 → k ≠ 15 → iv' k = iv k := fun k a b c d e f g i => by rw [← hiv, xu2_ne a, xu2_ne i, xu2_ne g, xu2_ne f, xu2_ne e, xu2_ne d, xu2_ne c, xu2_ne b]
  obtain ⟨⟨hy, hp, ho⟩, hk, hrd, htp, hst⟩ := id hC
  refine hC.of (hy.keep (fun i a b => hr _ (by omega) (by omega) (by omega) (by omega) (by omega) (by omega) (by omega) (by omega)) (addP_79 (by decide)) (fun j _ => ?_)) ?_ (ho.keep (hr _ (by omega) (by omega) (by omega) (by omega) (by omega) (by omega) (by omega) (by omega)) (hr _ (by omega) (by omega) (by omega) (by omega) (by omega) (by omega) (by omega) (by omega)) (hr _ (by omega) (by omega) (by omega) (by omega) (by omega) (by omega) (by omega) (by omega)) (addP_79 (by decide)) (addP_79 (by decide)) (addP_79 (by decide)) (fun j _ => ?_) (fun j _ => ?_)) (hrd.keep (fun k a b => hr k (by omega) (by omega) (by omega) (by omega) (by omega) (by omega) (by omega) (by omega)) (addP_79 (by decide)) (fun w f _ _ => ?_)) (fun k a b => hr k (by omega) (by omega) (by omega) (by omega) (by omega) (by omega) (by omega) (by omega)) (by rw [hr 0 (by decide) (by decide) (by decide) (by decide) (by decide) (by decide) (by decide) (by decide)]) (by rw [hr 53 (by decide) (by decide) (by decide) (by decide) (by decide) (by decide) (by decide) (by decide)]) (hr 54 (by decide) (by decide) (by decide) (by decide) (by decide) (by decide) (by decide) (by decide)) (hr 69 (by decide) (by decide) (by decide) (by decide) (by decide) (by decide) (by decide) (by decide)) (fun k a b => hr k (by omega) (by omega) (by omega) (by omega) (by omega) (by omega) (by omega) (by omega)) (addP_79 (by decide)) (addP_79 (by decide)) (addP_row (by decide) (by decide)) (addP_row (by decide) (by decide)) (addP_row (by decide) (by decide)) (addP_row (by decide) (by decide)) (addP_row (by decide) (by decide))
  · show addP sg h kd r 80 j = sg 80 j
    rw [addP_row (by decide) (by decide)]
  · refine ⟨?_, fun i hi => ?_, fun j hj => ?_⟩
    · show iv' 8 0 = addP sg h kd r 79 3
      rw [← hiv, xu2_s]
      unfold addP
      rw [xu2_s]
    · rw [addP_cnt, cl] at hi
      by_cases e : i = cnt (vL sg) 1
      · subst e
        obtain ⟨a0, a1, a2, a3, a4, a5, a6⟩ := addP_n (sg := sg) (h := h) (kd := kd) (r := r)
        refine ⟨Eq.trans ?_ a0.symm, Eq.trans ?_ a1.symm, Eq.trans ?_ a2.symm, Eq.trans ?_ a3.symm, Eq.trans ?_ a4.symm, Eq.trans ?_ a5.symm, Eq.trans ?_ a6.symm⟩
        · show iv' 9 _ = _
          rw [← hiv, xu2_k (by decide), xu2_k (by decide), xu2_k (by decide), xu2_k (by decide), xu2_k (by decide), xu2_k (by decide), xu2_k (by decide), xu2_s]
        · show iv' 10 _ = _
          rw [← hiv, xu2_k (by decide), xu2_k (by decide), xu2_k (by decide), xu2_k (by decide), xu2_k (by decide), xu2_k (by decide), xu2_s]
        · show iv' 11 _ = _
          rw [← hiv, xu2_k (by decide), xu2_k (by decide), xu2_k (by decide), xu2_k (by decide), xu2_k (by decide), xu2_s]
        · show iv' 12 _ = _
          rw [← hiv, xu2_k (by decide), xu2_k (by decide), xu2_k (by decide), xu2_k (by decide), xu2_s]
        · show iv' 13 _ = _
          rw [← hiv, xu2_k (by decide), xu2_k (by decide), xu2_k (by decide), xu2_s]
        · show iv' 14 _ = _
          rw [← hiv, xu2_k (by decide), xu2_k (by decide), xu2_s]
        · show iv' 15 _ = _
          rw [← hiv, xu2_k (by decide), xu2_s]
      · obtain ⟨b0, b1, b2, b3, b4, b5, b6⟩ := hp.2.1 i (by omega)
        have eo : ∀ f, f < 7 → vL (addP sg h kd r) 2 (7 * i + f) = vL sg 2 (7 * i + f) := fun f hf => addP_old (by omega)
        rw [show 7 * i = 7 * i + 0 from rfl, eo 0 (by decide), eo 1 (by decide), eo 2 (by decide), eo 3 (by decide), eo 4 (by decide), eo 5 (by decide), eo 6 (by decide)]
        refine ⟨Eq.trans ?_ b0, Eq.trans ?_ b1, Eq.trans ?_ b2, Eq.trans ?_ b3, Eq.trans ?_ b4, Eq.trans ?_ b5, Eq.trans ?_ b6⟩
        · show iv' 9 _ = iv 9 _
          rw [← hiv, xu2_k (by decide), xu2_k (by decide), xu2_k (by decide), xu2_k (by decide), xu2_k (by decide), xu2_k (by decide), xu2_k (by decide), xu2_j e]
        · show iv' 10 _ = iv 10 _
          rw [← hiv, xu2_k (by decide), xu2_k (by decide), xu2_k (by decide), xu2_k (by decide), xu2_k (by decide), xu2_k (by decide), xu2_j e, xu2_k (by decide)]
        · show iv' 11 _ = iv 11 _
          rw [← hiv, xu2_k (by decide), xu2_k (by decide), xu2_k (by decide), xu2_k (by decide), xu2_k (by decide), xu2_j e, xu2_k (by decide), xu2_k (by decide)]
        · show iv' 12 _ = iv 12 _
          rw [← hiv, xu2_k (by decide), xu2_k (by decide), xu2_k (by decide), xu2_k (by decide), xu2_j e, xu2_k (by decide), xu2_k (by decide), xu2_k (by decide)]
        · show iv' 13 _ = iv 13 _
          rw [← hiv, xu2_k (by decide), xu2_k (by decide), xu2_k (by decide), xu2_j e, xu2_k (by decide), xu2_k (by decide), xu2_k (by decide), xu2_k (by decide)]
        · show iv' 14 _ = iv 14 _
          rw [← hiv, xu2_k (by decide), xu2_k (by decide), xu2_j e, xu2_k (by decide), xu2_k (by decide), xu2_k (by decide), xu2_k (by decide), xu2_k (by decide)]
        · show iv' 15 _ = iv 15 _
          rw [← hiv, xu2_k (by decide), xu2_j e, xu2_k (by decide), xu2_k (by decide), xu2_k (by decide), xu2_k (by decide), xu2_k (by decide), xu2_k (by decide)]
    · show iv' 16 j = addP sg h kd r 82 j
      rw [hr 16 (by decide) (by decide) (by decide) (by decide) (by decide) (by decide) (by decide) (by decide), addP_row (by decide) (by decide)]
      exact hp.2.2 j hj
  · show addP sg h kd r 84 j = sg 84 j
    rw [addP_row (by decide) (by decide)]
  · show addP sg h kd r 83 j = sg 83 j
    rw [addP_row (by decide) (by decide)]
  · show addP sg h kd r 80 _ = sg 80 _
    rw [addP_row (by decide) (by decide)]
set_option maxRecDepth 100000 in
theorem s_addP8 {n : Nat} (hn : iv 8 0 = nI n) (h8 : n < 8) (k : Q (some (.int (nI n))) SH RF (xu2 (xu2 (xu2 (xu2 (xu2 (xu2 (xu2 (xu2 iv 9 n h) 10 n kd) 11 n r) 12 n h) 13 n 0) 14 n 0) 15 n 0) 8 0 (nI (n + 1))) lg) : Sp L xs m_People_add [.ref 8, .int h, .int kd, .int r] SH RF iv lg Q := by
  have hv : vp_in (iv 8 0) 8 := by rw [hn]; exact vp_N h8
  refine sgo [] 100 ?_
  refine And.intro hv ?_
  refine And.intro hv ?_
  refine And.intro hv ?_
  refine And.intro hv ?_
  refine And.intro hv ?_
  refine And.intro hv ?_
  refine And.intro hv ?_
  show Q _ _ _ _ _
  rw [hn, cl]
  have e : ∀ a : xIv, a 8 0 = nI n → a 8 0 + 1 = nI (n + 1) := fun a ha => by rw [ha]; exact nI_1 n
  rw [e _ (by simp only [xu2_k (show (8 : Nat) ≠ 9 by decide), xu2_k (show (8 : Nat) ≠ 10 by decide), xu2_k (show (8 : Nat) ≠ 11 by decide), xu2_k (show (8 : Nat) ≠ 12 by decide), xu2_k (show (8 : Nat) ≠ 13 by decide), xu2_k (show (8 : Nat) ≠ 14 by decide), xu2_k (show (8 : Nat) ≠ 15 by decide)]; exact hn)]
  exact k
set_option maxRecDepth 100000 in
theorem m_addOne {n : Nat} (hn : iv 79 3 = nI n) (h8 : n < 8) (k : Q none SH RF (xu2 (xu2 (xu2 (xu2 (xu2 (xu2 (xu2 (xu2 iv 81 (7 * n) h) 81 (7 * n + 1) kd) 81 (7 * n + 2) r) 81 (7 * n + 3) h) 81 (7 * n + 4) 0) 81 (7 * n + 5) 0) 81 (7 * n + 6) 0) 79 3 (nI (n + 1))) lg) : Sp L xs m_Mo_addOne [.ref 79, .int h, .int kd, .int r] SH RF iv lg Q := by
  have e5 : (7 : Int32) * iv 79 3 = nI (7 * n) := by rw [hn]; exact ni7 n
  have e : ∀ c, (7 : Int32) * iv 79 3 + nI c = nI (7 * n + c) := fun c => by rw [e5]; exact ni_a _ _
  refine sgo [] 100 ?_
  refine And.intro (by rw [e5]; exact vp_N (by omega)) ?_
  refine And.intro (by show vp_in ((7 : Int32) * iv 79 3 + nI 1) 56; rw [e]; exact vp_N (by omega)) ?_
  refine And.intro (by show vp_in ((7 : Int32) * iv 79 3 + nI 2) 56; rw [e]; exact vp_N (by omega)) ?_
  refine And.intro (by show vp_in ((7 : Int32) * iv 79 3 + nI 3) 56; rw [e]; exact vp_N (by omega)) ?_
  refine And.intro (by show vp_in ((7 : Int32) * iv 79 3 + nI 4) 56; rw [e]; exact vp_N (by omega)) ?_
  refine And.intro (by show vp_in ((7 : Int32) * iv 79 3 + nI 5) 56; rw [e]; exact vp_N (by omega)) ?_
  refine And.intro (by show vp_in ((7 : Int32) * iv 79 3 + nI 6) 56; rw [e]; exact vp_N (by omega)) ?_
  show Q none SH RF (xu2 (xu2 (xu2 (xu2 (xu2 (xu2 (xu2 (xu2 iv 81 ((7 : Int32) * iv 79 3).toNatClampNeg h) 81 ((7 : Int32) * iv 79 3 + nI 1).toNatClampNeg kd) 81 ((7 : Int32) * iv 79 3 + nI 2).toNatClampNeg r) 81 ((7 : Int32) * iv 79 3 + nI 3).toNatClampNeg h) 81 ((7 : Int32) * iv 79 3 + nI 4).toNatClampNeg 0) 81 ((7 : Int32) * iv 79 3 + nI 5).toNatClampNeg 0) 81 ((7 : Int32) * iv 79 3 + nI 6).toNatClampNeg 0) 79 3 (iv 79 3 + 1)) lg
  rw [e, e, e, e, e, e, e5, cl, cl, cl, cl, cl, cl, cl, hn, nI_1]
  exact k
abbrev okPy (h kd r : Int32) : Prop := isN h 12 ∧ isN kd 4 ∧ (0 ≤ r ∧ r ≤ 99999)
def opPer (sg : xIv) (h kd r : Int32) : Int32 × xIv := if okPy h kd r then (if cnt (vL sg) 1 = 8 then (-3, sg) else (nI (cnt (vL sg) 1), addP sg h kd r)) else (-1, sg)
set_option maxRecDepth 100000 in
theorem c_person (hC : CX iv lg sg tw) (hG : GG t sg) (k : ∀ iv', CX iv' lg (opPer sg h kd r).2 tw → refS iv' lg iv lg → Q (some (.int (opPer sg h kd r).1)) SH RF iv' lg) : Sp L xs m_SR_person [.ref 0, .int h, .int kd, .int r] SH RF iv lg Q := by
  have hn := nP_c hC hG
  have h8 := hG.1.2.1.2
  have kb : ¬ okPy h kd r → Q (some (.int (-1))) SH RF iv lg := fun z => by
    have e : opPer sg h kd r = (-1, sg) := if_neg z
    rw [e] at k
    exact k iv hC refS.rfl
  refine sgo [] 100 ?_
  refine s_isPlace (fun h1 => ?_) (fun h1 => ?_)
  · refine b1 ?_
    refine s_isKind (fun h2 => ?_) (fun h2 => ?_)
    · refine b1 ?_
      refine s_within (fun h3 => ?_) (fun h3 => ?_)
      · refine c1 ?_
        have hok : okPy h kd r := ⟨h1, h2, h3⟩
        refine And.intro (fun h6 => ?_) (fun h6 => ?_)
        · rw [hn] at h6
          replace h6 : cnt (vL sg) 1 < 8 := (nI_ltI (b := 8) (by omega) (by decide)).mp h6
          have e : opPer sg h kd r = (nI (cnt (vL sg) 1), addP sg h kd r) := by unfold opPer; rw [if_pos hok, if_neg (by omega)]
          rw [e] at k
          refine s_addP8 hn h6 ?_
          exact k _ (c_addP hC h6) ((((((((refS.rfl.up (by decide)).up (by decide)).up (by decide)).up (by decide)).up (by decide)).up (by decide)).up (by decide)).up (by decide))
        · rw [hn] at h6
          replace h6 : ¬ cnt (vL sg) 1 < 8 := fun z => h6 ((nI_ltI (b := 8) (by omega) (by decide)).mpr z)
          have e : opPer sg h kd r = (-3, sg) := by unfold opPer; rw [if_pos hok, if_pos (by omega)]
          rw [e] at k
          exact k iv hC refS.rfl
      · refine c0 ?_
        exact kb (fun z => h3 z.2.2)
    · refine b0 ?_
      exact kb (fun z => h2 z.2.1)
  · refine b0 ?_
    exact kb (fun z => h1 z.1)
set_option maxRecDepth 100000 in
theorem m_person (hM : MV iv lg sg tw) (hG : GG t sg) (k : ∀ iv', MV iv' lg (opPer sg h kd r).2 tw → clsS iv' lg iv lg → Q (some (.int (opPer sg h kd r).1)) SH RF iv' lg) : Sp L xs m_Mo_person [.ref 79, .int h, .int kd, .int r] SH RF iv lg Q := by
  have hn := nP_m hM hG
  have h8 := hG.1.2.1.2
  have kb : ¬ okPy h kd r → Q (some (.int (-1))) SH RF iv lg := fun z => by
    have e : opPer sg h kd r = (-1, sg) := if_neg z
    rw [e] at k
    exact k iv hM clsS.rfl
  refine sgo [] 100 ?_
  refine s_moPlace (fun h1 => ?_) (fun h1 => ?_)
  · refine b1 ?_
    refine s_inI (a := 0) (b := 3) (kt := fun h2 => ?_) (kf := fun h2 => ?_)
    · refine b1 ?_
      refine s_inI (a := 0) (b := 99999) (kt := fun h3 => ?_) (kf := fun h3 => ?_)
      · refine c1 ?_
        have hok : okPy h kd r := ⟨h1, r3.mp h2, h3⟩
        refine And.intro (fun h6 => ?_) (fun h6 => ?_)
        · rw [hn] at h6
          have h7 : ¬ cnt (vL sg) 1 = 8 := fun z => h6 (by rw [z]; rfl)
          have e : opPer sg h kd r = (nI (cnt (vL sg) 1), addP sg h kd r) := by unfold opPer; rw [if_pos hok, if_neg h7]
          rw [e] at k
          refine m_addOne hn (by omega) ?_
          show Q (some (.int (xu2 _ 79 3 (nI (cnt (vL sg) 1 + 1)) 79 3 - 1))) SH RF _ lg
          rw [xu2_s, nI_pred]
          refine k _ ?_ ?_
          · unfold addP
            exact (((((((hM.up _ _ _).up _ _ _).up _ _ _).up _ _ _).up _ _ _).up _ _ _).up _ _ _).up _ _ _
          · exact (((((((clsS.rfl.up (by decide)).up (by decide)).up (by decide)).up (by decide)).up (by decide)).up (by decide)).up (by decide)).up (by decide)
        · rw [hn] at h6
          have h7 : cnt (vL sg) 1 = 8 := by
            by_cases z : cnt (vL sg) 1 = 8
            · exact z
            · exact absurd (fun w => z ((nI_eq (b := 8) (by omega) (by decide)).mp w)) h6
          have e : opPer sg h kd r = (-3, sg) := by unfold opPer; rw [if_pos hok, if_pos h7]
          rw [e] at k
          exact k iv hM clsS.rfl
      · refine c0 ?_
        exact kb (fun z => h3 z.2.2)
    · refine b0 ?_
      exact kb (fun z => h2 (r3.mpr z.2.1))
  · refine b0 ?_
    exact kb (fun z => h1 z.1)
theorem g_addP (hG : Gv t (vL sg)) (hok : okPy h kd r) (h8 : cnt (vL sg) 1 < 8) : Gv t (vL (addP sg h kd r)) := by
  obtain ⟨g1, g2, g3, g4, g5, g6, g7, g8, g9, g10⟩ := hG
  have e1 : cnt (vL (addP sg h kd r)) 1 = cnt (vL sg) 1 + 1 := by rw [addP_cnt, cl]
  have ez : ∀ j, j ≠ 1 → vL (addP sg h kd r) 0 j = vL sg 0 j := fun j hj => by
    match j, hj with
    | 0, _ => exact addP_79 (by decide)
    | 2, _ => exact addP_79 (by decide)
    | 3, _ => exact addP_79 (by decide)
    | j + 4, _ => exact addP_79 (by decide)
  have c0 : cnt (vL (addP sg h kd r)) 0 = cnt (vL sg) 0 := by unfold cnt; rw [ez 0 (by decide)]
  have c2 : cnt (vL (addP sg h kd r)) 2 = cnt (vL sg) 2 := by unfold cnt; rw [ez 2 (by decide)]
  have r1 : vL (addP sg h kd r) 1 = vL sg 1 := by funext j; show addP sg h kd r 80 j = _; rw [addP_row (by decide) (by decide)]; rfl
  have r3 : vL (addP sg h kd r) 3 = vL sg 3 := by funext j; show addP sg h kd r 82 j = _; rw [addP_row (by decide) (by decide)]; rfl
  have r4 : vL (addP sg h kd r) 4 = vL sg 4 := by funext j; show addP sg h kd r 83 j = _; rw [addP_row (by decide) (by decide)]; rfl
  have r5 : vL (addP sg h kd r) 5 = vL sg 5 := by funext j; show addP sg h kd r 84 j = _; rw [addP_row (by decide) (by decide)]; rfl
  refine ⟨by rw [ez 0 (by decide), c0]; exact g1, ⟨?_, by omega⟩, by rw [ez 2 (by decide), c2]; exact g3, by rw [ez 3 (by decide)]; exact g4, by rw [ez 4 (by decide)]; exact g5, fun w hw => ?_, fun p hp => ?_, fun j hj => by rw [r3]; exact g8 j hj, fun j hj => by rw [r4]; exact g9 j hj, fun x hx => by rw [c2] at hx; rw [r5]; exact g10 x hx⟩
  · rw [e1]
    show addP sg h kd r 79 3 = _
    unfold addP
    rw [xu2_s]
  · rw [c0] at hw
    unfold okW
    rw [r1]
    exact g6 w hw
  · rw [e1] at hp
    by_cases e : p = cnt (vL sg) 1
    · subst e
      obtain ⟨a0, a1, a2, a3, -⟩ := addP_n (sg := sg) (h := h) (kd := kd) (r := r)
      unfold okP
      show isN (addP sg h kd r 81 _) 12 ∧ isN (addP sg h kd r 81 _) 4 ∧ (0 ≤ addP sg h kd r 81 _ ∧ addP sg h kd r 81 _ ≤ 99999) ∧ isN (addP sg h kd r 81 _) 12
      rw [a0, a1, a2, a3]
      exact ⟨hok.1, hok.2.1, hok.2.2, hok.1⟩
    · have := g7 p (by omega)
      have eo : ∀ f, f < 7 → vL (addP sg h kd r) 2 (7 * p + f) = vL sg 2 (7 * p + f) := fun f hf => addP_old (by omega)
      unfold okP at this ⊢
      rw [show 7 * p = 7 * p + 0 from rfl, eo 0 (by decide), eo 1 (by decide), eo 2 (by decide), eo 3 (by decide)]
      exact this
theorem e_person (h kd r : Int32) : EQ m_SR_person m_Mo_person [.int h, .int kd, .int r] := by
  refine EQ.of (fun sg tw => ((opPer sg h kd r).1, (opPer sg h kd r).2, tw)) (fun hC hG ht k => c_person hC hG (fun iv' h1 h2 => k iv' _ h1 h2)) (fun hM hG ht k => m_person hM hG (fun iv' h1 h2 => k iv' _ h1 h2)) (fun {t sg tw} hG ht => ?_)
  show GG (t + 1) (opPer sg h kd r).2
  unfold opPer
  split
  · rename_i hok
    split
    · exact hG.mono (Nat.le_succ t)
    · rename_i h24
      exact GG.kept (sg' := addP sg h kd r) hG ((g_addP hG.1 hok (by have := hG.1.2.1.2; omega)).mono (Nat.le_succ t)) (addP_79 (by decide)) (addP_row (by decide) (by decide)) (addP_row (by decide) (by decide))
  · exact hG.mono (Nat.le_succ t)
end PERS
end
section
-- ===== what a way costs =====
theorem mulI {a b : Int32} (h1 : -2147483648 ≤ a.toInt * b.toInt) (h2 : a.toInt * b.toInt < 2147483648) : (a * b).toInt = a.toInt * b.toInt := by
  rw [Int32.toInt_mul]
  simp only [Int.bmod_def]
  omega
theorem negI {a : Int32} (h1 : -2147483648 < a.toInt) : (-a).toInt = - a.toInt := by
  rw [Int32.toInt_neg]
  have := Int32.toInt_lt a
  simp only [Int.bmod_def]
  omega
theorem tl2 : (2 : Int32).toInt = 2 := by decide
theorem tl3 : (3 : Int32).toInt = 3 := by decide
theorem halfI {a : Int32} (h : 0 ≤ a.toInt) : (a / 2).toInt = a.toInt / 2 := by
  rw [Int32.toInt_div, tl2, Int.tdiv_eq_ediv_of_nonneg h]
  have := Int32.toInt_lt a
  simp only [Int.bmod_def]
  omega
theorem nI_of_toInt {r : Int32} {n : Nat} (h : r.toInt = (n : Int)) (hn : n < 2 ^ 31 := by omega) : r = nI n := ie.mpr (h.trans (nI_toInt hn).symm)
theorem imx_toInt (x y : Int32) : (imx x y).toInt = if x.toInt < y.toInt then y.toInt else x.toInt := by
  unfold imx
  by_cases h : x < y
  · rw [if_pos h, if_pos (it.mp h)]
  · rw [if_neg h, if_neg (fun z => h (it.mpr z))]
theorem qv {Q : xQ} {sh : xSh} {rf : xRf} {iv : xIv} {lg : xLg} {a b : Int32} (k : Q (some (.int b)) sh rf iv lg) (h : a = b) : Q (some (.int a)) sh rf iv lg := h ▸ k
/-- the class's reckoning -/
def wcC (k : Nat) (x u : Int32) : Int32 := match k with
  | 0 => x + 3 * imx 0 u
  | 1 => 2 * (x + 3 * imx 0 u)
  | 2 => if u ≤ 0 then x + 3 * imx 0 u else x + 3 * imx 0 u + x / 2
  | _ => imx 1 ((if u ≤ 0 then x + 3 * imx 0 u else x + 3 * imx 0 u + x / 2) / 2)
/-- the reference's -/
def wcM (k : Nat) (x u : Int32) : Int32 := match k with
  | 0 => if u ≤ 0 then x else x + 3 * u
  | 1 => 2 * (if u ≤ 0 then x else x + 3 * u)
  | 2 => if u ≤ 0 then x else x + 3 * u + x / 2
  | _ => if 4 ≤ (if u ≤ 0 then x else x + 3 * u + x / 2) then (if u ≤ 0 then x else x + 3 * u + x / 2) / 2 else 1
def wcN (k : Nat) (len up : Int) : Nat :=
  let grown := if up > 0 then len + 3 * up else len
  let old := if up > 0 then grown + len / 2 else grown
  (match k with
  | 0 => grown
  | 1 => 2 * grown
  | 2 => old
  | _ => if old < 4 then 1 else old / 2).toNat
theorem wcN0 {len up : Int} : wcN 0 len up = (if up > 0 then len + 3 * up else len).toNat := rfl
theorem wcN1 {len up : Int} : wcN 1 len up = (2 * (if up > 0 then len + 3 * up else len)).toNat := rfl
theorem wcN2 {len up : Int} : wcN 2 len up = (if up > 0 then (if up > 0 then len + 3 * up else len) + len / 2 else (if up > 0 then len + 3 * up else len)).toNat := rfl
theorem wcN3 {len up : Int} {k : Nat} : wcN (k + 3) len up = (if (if up > 0 then (if up > 0 then len + 3 * up else len) + len / 2 else (if up > 0 then len + 3 * up else len)) < 4 then 1 else (if up > 0 then (if up > 0 then len + 3 * up else len) + len / 2 else (if up > 0 then len + 3 * up else len)) / 2).toNat := rfl
theorem wcM0 {x u : Int32} : wcM 0 x u = (if u ≤ 0 then x else x + 3 * u) := rfl
theorem wcM1 {x u : Int32} : wcM 1 x u = 2 * (if u ≤ 0 then x else x + 3 * u) := rfl
theorem wcM2 {x u : Int32} : wcM 2 x u = (if u ≤ 0 then x else x + 3 * u + x / 2) := rfl
theorem wcM3 {x u : Int32} {k : Nat} : wcM (k + 3) x u = (if 4 ≤ (if u ≤ 0 then x else x + 3 * u + x / 2) then (if u ≤ 0 then x else x + 3 * u + x / 2) / 2 else 1) := rfl
theorem wcC0 {x u : Int32} : wcC 0 x u = x + 3 * imx 0 u := rfl
theorem wcC1 {x u : Int32} : wcC 1 x u = 2 * (x + 3 * imx 0 u) := rfl
theorem wcC2 {x u : Int32} : wcC 2 x u = (if u ≤ 0 then x + 3 * imx 0 u else x + 3 * imx 0 u + x / 2) := rfl
theorem wcC3 {x u : Int32} {k : Nat} : wcC (k + 3) x u = imx 1 ((if u ≤ 0 then x + 3 * imx 0 u else x + 3 * imx 0 u + x / 2) / 2) := rfl
theorem wcN_bd {k : Nat} {len up : Int} (h1 : 1 ≤ len) (h2 : len ≤ 99) (h3 : -9 ≤ up) (h4 : up ≤ 9) : 1 ≤ wcN k len up ∧ wcN k len up ≤ 252 := by
  match k with
  | 0 => rw [wcN0]; split <;> omega
  | 1 => rw [wcN1]; split <;> omega
  | 2 => rw [wcN2]; split <;> omega
  | k + 3 => rw [wcN3]; split <;> split <;> omega
theorem tl4 : (4 : Int32).toInt = 4 := by decide
theorem wcM_eq {k : Nat} {x u : Int32} (h1 : 1 ≤ x.toInt) (h2 : x.toInt ≤ 99) (h3 : -9 ≤ u.toInt) (h4 : u.toInt ≤ 9) : wcM k x u = nI (wcN k x.toInt u.toInt) := by
  have hb := wcN_bd (k := k) h1 h2 h3 h4
  refine nI_of_toInt ?_
  have e3 : (3 * u).toInt = 3 * u.toInt := by rw [mulI] <;> rw [tl3] <;> omega
  have hx2 := halfI (a := x) (by omega)
  by_cases hu : u ≤ 0
  · have hu' : ¬ u.toInt > 0 := by rw [il, tl0] at hu; omega
    match k with
    | 0 => rw [wcM0, wcN0, if_pos hu, if_neg hu']; omega
    | 1 => rw [wcM1, wcN1, if_pos hu, if_neg hu', mulI] <;> rw [tl2] <;> omega
    | 2 => rw [wcM2, wcN2, if_pos hu, if_neg hu', if_neg hu']; omega
    | k + 3 =>
      rw [wcM3, wcN3, if_pos hu, if_neg hu', if_neg hu']
      by_cases h5 : 4 ≤ x
      · rw [if_pos h5]
        rw [il, tl4] at h5
        rw [if_neg (by omega)]
        omega
      · rw [if_neg h5]
        rw [il, tl4] at h5
        rw [if_pos (by omega)]
        decide
  · have hu' : u.toInt > 0 := by rw [il, tl0] at hu; omega
    have eg : (x + 3 * u).toInt = x.toInt + 3 * u.toInt := by rw [addI] <;> omega
    have eo : (x + 3 * u + x / 2).toInt = x.toInt + 3 * u.toInt + x.toInt / 2 := by rw [addI] <;> omega
    match k with
    | 0 => rw [wcM0, wcN0, if_neg hu, if_pos hu']; omega
    | 1 => rw [wcM1, wcN1, if_neg hu, if_pos hu', mulI] <;> rw [tl2] <;> omega
    | 2 => rw [wcM2, wcN2, if_neg hu, if_pos hu', if_pos hu']; omega
    | k + 3 =>
      rw [wcM3, wcN3, if_neg hu, if_pos hu', if_pos hu']
      by_cases h5 : 4 ≤ x + 3 * u + x / 2
      · rw [if_pos h5]
        rw [il, tl4] at h5
        rw [if_neg (by omega), halfI (by omega)]
        omega
      · rw [if_neg h5]
        rw [il, tl4] at h5
        rw [if_pos (by omega)]
        decide
theorem wcC_eq {k : Nat} {x u : Int32} (h1 : 1 ≤ x.toInt) (h2 : x.toInt ≤ 99) (h3 : -9 ≤ u.toInt) (h4 : u.toInt ≤ 9) : wcC k x u = wcM k x u := by
  have hz : u ≤ 0 → imx 0 u = 0 := fun h => by unfold imx; rw [if_neg (lenl h)]
  have hp : ¬ u ≤ 0 → imx 0 u = u := fun h => by unfold imx; rw [if_pos (nle h)]
  have hm : ∀ o : Int32, 1 ≤ o.toInt → imx 1 (o / 2) = if 4 ≤ o then o / 2 else 1 := fun o ho => by
    have e := halfI (a := o) (by omega)
    refine ie.mpr ?_
    rw [imx_toInt, e, tl1]
    by_cases h5 : 4 ≤ o
    · rw [if_pos h5, e]
      rw [il, tl4] at h5
      split <;> omega
    · rw [if_neg h5, tl1]
      rw [il, tl4] at h5
      split <;> omega
  have e3 : (3 * u).toInt = 3 * u.toInt := by rw [mulI] <;> rw [tl3] <;> omega
  have hx2 := halfI (a := x) (by omega)
  by_cases hu : u ≤ 0
  · have e0 : x + 3 * (0 : Int32) = x := by rw [show (3 : Int32) * 0 = 0 by decide, Int32.add_zero]
    match k with
    | 0 => rw [wcC0, wcM0, if_pos hu, hz hu, e0]
    | 1 => rw [wcC1, wcM1, if_pos hu, hz hu, e0]
    | 2 => rw [wcC2, wcM2, if_pos hu, if_pos hu, hz hu, e0]
    | k + 3 => rw [wcC3, wcM3, if_pos hu, if_pos hu, hz hu, e0]; exact hm x h1
  · have hu' : u.toInt > 0 := by rw [il, tl0] at hu; omega
    have eg : (x + 3 * u).toInt = x.toInt + 3 * u.toInt := by rw [addI] <;> omega
    have eo : (x + 3 * u + x / 2).toInt = x.toInt + 3 * u.toInt + x.toInt / 2 := by rw [addI] <;> omega
    match k with
    | 0 => rw [wcC0, wcM0, if_neg hu, hp hu]
    | 1 => rw [wcC1, wcM1, if_neg hu, hp hu]
    | 2 => rw [wcC2, wcM2, if_neg hu, if_neg hu, hp hu]
    | k + 3 => rw [wcC3, wcM3, if_neg hu, if_neg hu, hp hu]; exact hm _ (by omega)
theorem wcost_N {v : xIv} {k w d : Nat} : wcost v k w d = wcN k (v 1 (5 * w + 2)).toInt (if d = 0 then (v 1 (5 * w + 3)).toInt else - (v 1 (5 * w + 3)).toInt) := rfl
def upO (v : xIv) (w d : Nat) : Int32 := if d = 0 then v 1 (5 * w + 3) else - v 1 (5 * w + 3)
theorem okW_bd {v : xIv} {w d : Nat} (h : okW v w) : (1 ≤ (v 1 (5 * w + 2)).toInt ∧ (v 1 (5 * w + 2)).toInt ≤ 99) ∧ (-9 ≤ (upO v w d).toInt ∧ (upO v w d).toInt ≤ 9) ∧ (upO v w d).toInt = (if d = 0 then (v 1 (5 * w + 3)).toInt else - (v 1 (5 * w + 3)).toInt) := by
  obtain ⟨-, -, -, h1, h2, -⟩ := h
  rw [il, il] at h1 h2
  rw [show (1 : Int32).toInt = 1 by decide, show (99 : Int32).toInt = 99 by decide] at h1
  rw [show (-9 : Int32).toInt = -9 by decide, show (9 : Int32).toInt = 9 by decide] at h2
  unfold upO
  refine ⟨h1, ?_⟩
  split
  · exact ⟨h2, rfl⟩
  · rw [negI (by omega)]
    exact ⟨by omega, rfl⟩
theorem wcM_N {v : xIv} {k w d : Nat} (h : okW v w) : wcM k (v 1 (5 * w + 2)) (upO v w d) = nI (wcost v k w d) := by
  obtain ⟨h1, h2, h3⟩ := okW_bd (d := d) h
  rw [wcM_eq h1.1 h1.2 h2.1 h2.2, h3, wcost_N]
theorem wcC_N {v : xIv} {k w d : Nat} (h : okW v w) : wcC k (v 1 (5 * w + 2)) (upO v w d) = nI (wcost v k w d) := by
  obtain ⟨h1, h2, h3⟩ := okW_bd (d := d) h
  rw [wcC_eq h1.1 h1.2 h2.1 h2.2, wcM_N h]
theorem wcost_bd {v : xIv} {k w d : Nat} (h : okW v w) : 1 ≤ wcost v k w d ∧ wcost v k w d ≤ 252 := by
  obtain ⟨h1, h2, h3⟩ := okW_bd (d := d) h
  rw [wcost_N, ← h3]
  exact wcN_bd h1.1 h1.2 h2.1 h2.2
section COSTS
variable {L : Nat} {xs : Nat → Int32} {iv : xIv} {lg : xLg} {Q : xQ} {sg : xIv} {tw : Nat → Int64} {t : Nat}
set_option maxRecDepth 100000 in
theorem s_costOf0 {w k : Nat} {d : Nat} {b x u : Int32} (hw : w < 24) (hk : k < 4) (hb : (d = 1 ∧ b = 0) ∨ (d = 0 ∧ b = 1)) (hx : iv 5 w = x) (hu : (if d = 0 then iv 6 w else - iv 6 w) = u) (kk : Q (some (.int (wcC k x u))) SH RF iv lg) : Sp L xs m_Ways_costOf [.ref 2, .int (nI w), .int (nI k), .int b] SH RF iv lg Q := by
  have hv : vp_in (nI w) 24 := vp_N hw
  have ew : (nI w).toNatClampNeg = w := cl
  have key : ∀ {lv : xLv}, (∀ {x u : Int32}, iv 5 w = x → (if d = 0 then iv 6 w else - iv 6 w) = u → Q (some (.int (wcC k x u))) SH RF iv lg → Wp L xs m_Ways_costOf 12 [some (.ref 2), some (.int (nI w)), some (.int (nI k)), some (.int b), none, none, none] [.int u] SH RF iv lg Q) := by
    intro _ x u hx hu kk
    refine wgo [] 100 ?_
    refine And.intro hv ?_
    rw [ew, hx]
    refine And.intro (fun h => ?_) (fun h => ?_)
    · match k, hk, kk with
      | 0, _, kk => exact ⟨fun z => absurd z (by decide), fun _ => ⟨fun z => absurd z (by decide), fun _ => ⟨fun z => absurd z (by decide), fun _ => kk⟩⟩⟩
      | 1, _, kk => exact ⟨fun _ => kk, fun z => absurd rfl z⟩
      | 2, _, kk => exact ⟨fun z => absurd z (by decide), fun _ => ⟨fun _ => qv kk (by rw [wcC2, if_pos h]), fun z => absurd rfl z⟩⟩
      | 3, _, kk => exact ⟨fun z => absurd z (by decide), fun _ => ⟨fun z => absurd z (by decide), fun _ => ⟨fun _ => ⟨by decide, qv kk (by rw [show wcC 3 _ _ = _ from wcC3 (k := 0), if_pos h])⟩, fun z => absurd rfl z⟩⟩⟩
    · refine And.intro hv ?_
      rw [ew, hx]
      refine And.intro (by decide) ?_
      match k, hk, kk with
      | 0, _, kk => exact ⟨fun z => absurd z (by decide), fun _ => ⟨fun z => absurd z (by decide), fun _ => ⟨fun z => absurd z (by decide), fun _ => kk⟩⟩⟩
      | 1, _, kk => exact ⟨fun _ => kk, fun z => absurd rfl z⟩
      | 2, _, kk => exact ⟨fun z => absurd z (by decide), fun _ => ⟨fun _ => qv kk (by rw [wcC2, if_neg h]), fun z => absurd rfl z⟩⟩
      | 3, _, kk => exact ⟨fun z => absurd z (by decide), fun _ => ⟨fun z => absurd z (by decide), fun _ => ⟨fun _ => ⟨by decide, qv kk (by rw [show wcC 3 _ _ = _ from wcC3 (k := 0), if_neg h])⟩, fun z => absurd rfl z⟩⟩⟩
  refine sgo [12] 100 ?_
  rcases hb with ⟨hd, hb⟩ | ⟨hd, hb⟩
  · subst hd; subst hb
    refine b0 ?_
    refine And.intro hv ?_
    rw [ew]
    exact key (lv := []) hx (by rw [if_neg (by decide)] at hu ⊢) (by rw [if_neg (by decide)] at hu; rw [hu]; exact kk)
  · subst hd; subst hb
    refine b1 ?_
    refine And.intro hv ?_
    rw [ew]
    exact key (lv := []) hx (by rw [if_pos rfl] at hu ⊢) (by rw [if_pos rfl] at hu; rw [hu]; exact kk)
theorem s_costOf {w k : Nat} {d : Nat} {b : Int32} (hC : CX iv lg sg tw) (hG : GG t sg) (hw : w < cnt (vL sg) 0) (hk : k < 4) (hb : (d = 1 ∧ b = 0) ∨ (d = 0 ∧ b = 1)) (kk : Q (some (.int (nI (wcost (vL sg) k w d)))) SH RF iv lg) : Sp L xs m_Ways_costOf [.ref 2, .int (nI w), .int (nI k), .int b] SH RF iv lg Q := by
  obtain ⟨y0, y1, y2, y3, y4⟩ := hC.1.1.2 w hw
  have h24 := hG.1.1.2
  refine s_costOf0 (by omega) hk hb y2 (u := upO (vL sg) w d) ?_ ?_
  · rw [show iv 6 w = vL sg 1 (5 * w + 3) from y3]; rfl
  · rw [wcC_N (hG.1.2.2.2.2.2.1 w hw)]; exact kk
set_option maxRecDepth 100000 in
theorem m_costOf {w k : Nat} {d : Nat} (hM : MV iv lg sg tw) (hG : GG t sg) (hw : w < cnt (vL sg) 0) (hk : k < 4) (hd : d < 2) (kk : Q (some (.int (nI (wcost (vL sg) k w d)))) SH RF iv lg) : Sp L xs m_Mo_costOf [.ref 79, .int (nI k), .int (nI w), .int (nI d)] SH RF iv lg Q := by
  have h24 := hG.1.1.2
  rw [← wcM_N (hG.1.2.2.2.2.2.1 w hw)] at kk
  have e2 : (5 : Int32) * nI w + 2 = nI (5 * w + 2) := by rw [ni5]; exact ni_a _ 2
  have e3 : (5 : Int32) * nI w + 3 = nI (5 * w + 3) := by rw [ni5]; exact ni_a _ 3
  have v2 : vp_in ((5 : Int32) * nI w + 2) 120 := by rw [e2]; exact vp_N (by omega)
  have v3 : vp_in ((5 : Int32) * nI w + 3) 120 := by rw [e3]; exact vp_N (by omega)
  have k2 : iv 80 ((5 : Int32) * nI w + 2).toNatClampNeg = vL sg 1 (5 * w + 2) := by rw [e2, cl, hM.2.1.1]; rfl
  have k3 : iv 80 ((5 : Int32) * nI w + 3).toNatClampNeg = vL sg 1 (5 * w + 3) := by rw [e3, cl, hM.2.1.1]; rfl
  have key : ∀ (x u : Int32), Q (some (.int (wcM k x u))) SH RF iv lg → Wp L xs m_Mo_costOf 29 [some (.ref 79), some (.int (nI k)), some (.int (nI w)), some (.int (nI d)), some (.int x), none, none, none] [.int u] SH RF iv lg Q := by
    intro x u kk
    refine wgo [] 100 ?_
    refine And.intro (fun h => ?_) (fun h => ?_)
    · match k, hk, kk with
      | 0, _, kk => exact ⟨fun z => absurd z (by decide), fun _ => ⟨fun _ => qv kk (by rw [wcM0, if_pos h]), fun z => absurd (by decide) z⟩⟩
      | 1, _, kk => exact ⟨fun z => absurd z (by decide), fun _ => ⟨fun z => absurd rfl z, fun _ => qv kk (by rw [wcM1, if_pos h])⟩⟩
      | 2, _, kk => exact ⟨fun _ => ⟨fun _ => ⟨fun z => absurd rfl z, fun _ => qv kk (by rw [wcM2, if_pos h])⟩, fun z => absurd h z⟩, fun z => absurd (by decide) z⟩
      | 3, _, kk =>
        refine ⟨fun _ => ⟨fun _ => ⟨fun _ => ⟨fun z => ⟨by decide, qv kk ?_⟩, fun z => qv kk ?_⟩, fun z => absurd (by decide) z⟩, fun z => absurd h z⟩, fun z => absurd (by decide) z⟩
        · rw [show wcM 3 _ _ = _ from wcM3 (k := 0), if_pos h, if_pos z]
        · rw [show wcM 3 _ _ = _ from wcM3 (k := 0), if_pos h, if_neg z]
    · match k, hk, kk with
      | 0, _, kk => exact ⟨fun z => absurd z (by decide), fun _ => ⟨fun _ => qv kk (by rw [wcM0, if_neg h]), fun z => absurd (by decide) z⟩⟩
      | 1, _, kk => exact ⟨fun z => absurd z (by decide), fun _ => ⟨fun z => absurd rfl z, fun _ => qv kk (by rw [wcM1, if_neg h])⟩⟩
      | 2, _, kk => exact ⟨fun _ => ⟨fun z => absurd z h, fun _ => ⟨by decide, ⟨fun z => absurd rfl z, fun _ => qv kk (by rw [wcM2, if_neg h])⟩⟩⟩, fun z => absurd (by decide) z⟩
      | 3, _, kk =>
        refine ⟨fun _ => ⟨fun z => absurd z h, fun _ => ⟨by decide, ⟨fun _ => ⟨fun z => ⟨by decide, qv kk ?_⟩, fun z => qv kk ?_⟩, fun z => absurd (by decide) z⟩⟩⟩, fun z => absurd (by decide) z⟩
        · rw [show wcM 3 _ _ = _ from wcM3 (k := 0), if_neg h, if_pos z]
        · rw [show wcM 3 _ _ = _ from wcM3 (k := 0), if_neg h, if_neg z]
  refine sgo [29] 100 ?_
  refine And.intro v2 ?_
  rw [k2]
  match d, hd, key, kk with
  | 0, _, key, kk =>
    refine And.intro (fun z => absurd rfl z) (fun _ => ?_)
    refine And.intro v3 ?_
    rw [k3]
    exact key _ _ kk
  | 1, _, key, kk =>
    refine And.intro (fun _ => ?_) (fun z => absurd (by decide) z)
    refine And.intro v3 ?_
    rw [k3]
    exact key _ _ kk
abbrev okC (sg : xIv) (a b c : Int32) : Prop := isN a (cnt (vL sg) 1) ∧ isN b (cnt (vL sg) 0) ∧ isN c 2
theorem r1 {v : Int32} : (0 ≤ v ∧ v ≤ 1) ↔ isN v 2 := isN_m1 (n := 2) (by decide)
set_option maxRecDepth 100000 in
theorem m_costs {a b c : Int32} (hM : MV iv lg sg tw) (hG : GG t sg) (k1 : ∀ p w d kd, p < cnt (vL sg) 1 → w < cnt (vL sg) 0 → d < 2 → kd < 4 → a = nI p → b = nI w → c = nI d → sg 81 (7 * p + 1) = nI kd → Q (some (.int (nI (wcost (vL sg) kd w d)))) SH RF iv lg) (k2 : ¬ okC sg a b c → Q (some (.int (-1))) SH RF iv lg) : Sp L xs m_Mo_costs [.ref 79, .int a, .int b, .int c] SH RF iv lg Q := by
  have h24 := hG.1.1.2
  have h8 := hG.1.2.1.2
  refine sgo [] 100 ?_
  refine s_isOne (nP_m hM hG) (by omega) (fun h1 => ?_) (fun h1 => ?_)
  · refine b1 ?_
    refine s_inN (nW_m hM hG) (by omega) (fun h2 => ?_) (fun h2 => ?_)
    · refine b1 ?_
      refine s_inI (a := 0) (b := 1) (kt := fun h3 => ?_) (kf := fun h3 => ?_)
      · refine b1 ?_
        obtain ⟨p, hp, rfl⟩ := isN_of h1 (by omega)
        obtain ⟨w, hw, rfl⟩ := isN_of h2 (by omega)
        obtain ⟨d, hd, rfl⟩ := isN_of (r1.mp h3) (by decide)
        obtain ⟨kd, hkd, ek⟩ := isN_of (hG.1.2.2.2.2.2.2.1 p hp).2.1 (by decide)
        have e : (7 : Int32) * nI p + 1 = nI (7 * p + 1) := by rw [ni7]; exact ni_a _ 1
        refine And.intro (by rw [e]; exact vp_N (by omega)) ?_
        rw [e, cl, hM.2.1.2.1, show sg 81 (7 * p + 1) = nI kd from ek]
        exact m_costOf hM hG hw hkd hd (k1 p w d kd hp hw hd hkd rfl rfl rfl ek)
      · refine b0 ?_
        exact k2 (fun z => h3 (r1.mpr z.2.2))
    · refine b0 ?_
      exact k2 (fun z => h2 z.2.1)
  · refine b0 ?_
    exact k2 (fun z => h1 z.1)
set_option maxRecDepth 100000 in
theorem c_costs {a b c : Int32} (hC : CX iv lg sg tw) (hG : GG t sg) (k1 : ∀ p w d kd, p < cnt (vL sg) 1 → w < cnt (vL sg) 0 → d < 2 → kd < 4 → a = nI p → b = nI w → c = nI d → sg 81 (7 * p + 1) = nI kd → Q (some (.int (nI (wcost (vL sg) kd w d)))) SH RF iv lg) (k2 : ¬ okC sg a b c → Q (some (.int (-1))) SH RF iv lg) : Sp L xs m_SR_costs [.ref 0, .int a, .int b, .int c] SH RF iv lg Q := by
  have h24 := hG.1.1.2
  have h8 := hG.1.2.1.2
  refine sgo [] 100 ?_
  refine s_isPerson (nP_c hC hG) (by omega) (fun h1 => ?_) (fun h1 => ?_)
  · refine b1 ?_
    refine s_has (nW_c hC hG) (by omega) (fun h2 => ?_) (fun h2 => ?_)
    · refine b1 ?_
      refine s_within (fun h3 => ?_) (fun h3 => ?_)
      · refine c1 ?_
        obtain ⟨p, hp, rfl⟩ := isN_of h1 (by omega)
        obtain ⟨w, hw, rfl⟩ := isN_of h2 (by omega)
        obtain ⟨d, hd, rfl⟩ := isN_of (r1.mp h3) (by decide)
        obtain ⟨kd, hkd, ek⟩ := isN_of (hG.1.2.2.2.2.2.2.1 p hp).2.1 (by decide)
        refine And.intro (vp_N (by omega)) ?_
        rw [cl, (hC.rd hp).2.1, show sg 81 (7 * p + 1) = nI kd from ek]
        match d, hd with
        | 0, hd => exact ⟨fun z => absurd rfl z, fun _ => s_costOf hC hG hw hkd (Or.inr ⟨rfl, rfl⟩) (k1 p w 0 kd hp hw hd hkd rfl rfl rfl ek)⟩
        | 1, hd => exact ⟨fun _ => s_costOf hC hG hw hkd (Or.inl ⟨rfl, rfl⟩) (k1 p w 1 kd hp hw hd hkd rfl rfl rfl ek), fun z => absurd (by decide) z⟩
      · refine c0 ?_
        exact k2 (fun z => h3 (r1.mpr z.2.2))
    · refine b0 ?_
      exact k2 (fun z => h2 z.2.1)
  · refine b0 ?_
    exact k2 (fun z => h1 z.1)
theorem e_costs (a b c : Int32) : EQ m_SR_costs m_Mo_costs [.int a, .int b, .int c] := by
  intro L xs t iv lg Q hI ht k
  obtain ⟨sg, tw, hC, hM, hG⟩ := id hI
  have h24 := hG.1.1.2
  have h8 := hG.1.2.1.2
  refine c_costs hC hG (fun p w d kd hp hw hd hkd ha hb hc ek => k _ iv lg (fun Q2 k2 => m_costs hM hG (fun p' w' d' kd' hp' hw' hd' hkd' ha' hb' hc' ek' => ?_) (fun h => absurd ⟨ha ▸ isN_nI hp (by omega), hb ▸ isN_nI hw (by omega), hc ▸ isN_nI hd (by decide)⟩ h))) (fun h => k _ iv lg (fun Q2 k2 => m_costs hM hG (fun p w d kd hp hw hd hkd ha hb hc ek => absurd ⟨ha ▸ isN_nI hp (by omega), hb ▸ isN_nI hw (by omega), hc ▸ isN_nI hd (by decide)⟩ h) (fun _ => k2 _ _ (hI.wk (Nat.le_succ t)))))
  have e1 : p = p' := (nI_eq (by omega) (by omega)).mp (ha.symm.trans ha')
  have e2 : w = w' := (nI_eq (by omega) (by omega)).mp (hb.symm.trans hb')
  have e3 : d = d' := (nI_eq (by omega) (by omega)).mp (hc.symm.trans hc')
  subst e1; subst e2; subst e3
  have e4 : kd = kd' := (nI_eq (by omega) (by omega)).mp (ek.symm.trans ek')
  subst e4
  exact k2 _ _ (hI.wk (Nat.le_succ t))
end COSTS
end
section
-- ===== count =====
/-- the sum of f over the first n -/
def sumN (f : Nat → Int32) : Nat → Int32
  | 0 => 0
  | n + 1 => sumN f n + f n
theorem sumN_congr {f g : Nat → Int32} : ∀ n, (∀ i, i < n → f i = g i) → sumN f n = sumN g n
  | 0, _ => rfl
  | n + 1, h => by
    show sumN f n + f n = sumN g n + g n
    rw [sumN_congr n (fun i hi => h i (by omega)), h n (by omega)]
section COUNT
variable {L : Nat} {xs : Nat → Int32} {iv : xIv} {lg : xLg} {Q : xQ} {sg : xIv} {tw : Nat → Int64} {t : Nat}
set_option maxRecDepth 100000 in
theorem s_rings_l {n : Nat} (hn : iv 8 0 = nI n) (h8 : n ≤ 8) (k : Q (some (.int (sumN (iv 11) n))) SH RF iv lg) : ∀ (r i : Nat) (x s : Int32), i + r = n → x = nI i → s = sumN (iv 11) i → Wp L xs m_People_allRings 4 [some (.ref 8), some (.int s), some (.int x)] [] SH RF iv lg Q
  | 0, i, x, s, h, hx, hs => by
    obtain rfl : i = n := by omega
    subst hx; subst hs
    refine wgo [4] 100 ?_
    exact And.intro (fun _ => k) (fun z => absurd (by rw [hn]; exact il.mpr (Int.le_refl _)) z)
  | r + 1, i, x, s, h, hx, hs => by
    subst hx; subst hs
    refine wgo [4] 100 ?_
    refine And.intro (fun z => absurd (nI_lt (show i < n by omega) (by omega)) (by rw [hn] at z; exact lenl z)) (fun _ => ?_)
    refine And.intro (vp_N (by omega)) ?_
    exact s_rings_l hn h8 k r (i + 1) _ _ (by omega) (nI_1 i) (by rw [cl]; rfl)
theorem s_rings {n : Nat} (hn : iv 8 0 = nI n) (h8 : n ≤ 8) (k : Q (some (.int (sumN (iv 11) n))) SH RF iv lg) : Sp L xs m_People_allRings [.ref 8] SH RF iv lg Q := by
  refine sgo [4] 100 ?_
  exact s_rings_l hn h8 k n 0 _ _ (by omega) rfl rfl
theorem ni64 {i : Nat} (h : i < 64) : nI i < 64 := nI_lt (b := 64) h (by decide)
set_option maxRecDepth 100000 in
theorem s_owed_l (k : Q (some (.int (sumN (iv 16) 64))) SH RF iv lg) : ∀ (r i : Nat) (x s : Int32), i + r = 64 → x = nI i → s = sumN (iv 16) i → Wp L xs m_People_allOwed 4 [some (.ref 8), some (.int s), some (.int x)] [] SH RF iv lg Q
  | 0, i, x, s, h, hx, hs => by
    obtain rfl : i = 64 := by omega
    subst hx; subst hs
    refine wgo [4] 100 ?_
    exact And.intro (fun _ => k) (fun z => absurd (by decide) z)
  | r + 1, i, x, s, h, hx, hs => by
    subst hx; subst hs
    refine wgo [4] 100 ?_
    refine And.intro (fun z => absurd (ni64 (show i < 64 by omega)) (lenl z)) (fun _ => ?_)
    refine And.intro (vp_N (by omega)) ?_
    exact s_owed_l k r (i + 1) _ _ (by omega) (nI_1 i) (by rw [cl]; rfl)
theorem s_owed (k : Q (some (.int (sumN (iv 16) 64))) SH RF iv lg) : Sp L xs m_People_allOwed [.ref 8] SH RF iv lg Q := by
  refine sgo [4] 100 ?_
  exact s_owed_l k 64 0 _ _ (by omega) rfl rfl
def opCnt (sg : xIv) (a : Int32) : Int32 := if a = 0 then sg 79 1 else if a = 1 then sg 79 3 else if a = 2 then sg 79 8 else if a = 3 then sumN (fun p => sg 81 (7 * p + 2)) (cnt (vL sg) 1) else if a = 4 then sumN (sg 82) 64 else if a = 5 then sg 79 9 else -1
set_option maxRecDepth 100000 in
theorem c_count {a : Int32} (hC : CX iv lg sg tw) (hG : GG t sg) (k : Q (some (.int (opCnt sg a))) SH RF iv lg) : Sp L xs m_SR_count [.ref 0, .int a] SH RF iv lg Q := by
  have h8 := hG.1.2.1.2
  unfold opCnt at k
  refine sgo [] 100 ?_
  refine And.intro (fun h => ?_) (fun h0 => ?_)
  · rw [if_pos h] at k
    exact qv k hC.1.1.1
  rw [if_neg h0] at k
  refine And.intro (fun h => ?_) (fun h1 => ?_)
  · rw [if_pos h] at k
    exact qv k hC.1.2.1.1
  rw [if_neg h1] at k
  refine And.intro (fun h => ?_) (fun h2 => ?_)
  · rw [if_pos h] at k
    exact qv k hC.1.2.2.1
  rw [if_neg h2] at k
  refine And.intro (fun h => ?_) (fun h3 => ?_)
  · rw [if_pos h] at k
    refine s_rings (nP_c hC hG) h8 ?_
    exact qv k (sumN_congr _ (fun i hi => (hC.rd hi).2.2.1))
  rw [if_neg h3] at k
  refine And.intro (fun h => ?_) (fun h4 => ?_)
  · rw [if_pos h] at k
    refine s_owed ?_
    exact qv k (sumN_congr _ (fun i hi => hC.1.2.1.2.2 i hi))
  rw [if_neg h4] at k
  refine And.intro (fun h => ?_) (fun h5 => ?_)
  · rw [if_pos h] at k
    exact qv k hC.1.2.2.2.2.2.2
  rw [if_neg h5] at k
  exact k
set_option maxRecDepth 100000 in
theorem m_count_2 {a R : Int32} {lv1 : Option Value} (hM : MV iv lg sg tw) (k : (a = 3 → R = sumN (fun p => sg 81 (7 * p + 2)) (cnt (vL sg) 1)) → Q (some (.int (opCnt sg a))) SH RF iv lg) (hR : R = sumN (fun p => sg 81 (7 * p + 2)) (cnt (vL sg) 1)) : ∀ (r i : Nat) (x s : Int32), i + r = 64 → x = nI i → s = sumN (iv 82) i → Wp L xs m_Mo_count 25 [some (.ref 79), some (.int a), some (.int R), some (.int s), some (.int x)] [] SH RF iv lg Q
  | 0, i, x, s, h, hx, hs => by
    obtain rfl : i = 64 := by omega
    subst hx; subst hs
    replace k := k (fun _ => hR)
    refine wgo [25] 100 ?_
    refine And.intro (fun _ => ?_) (fun z => absurd (by decide) z)
    unfold opCnt at k
    refine And.intro (fun h => ?_) (fun h0 => ?_)
    · rw [if_pos h] at k
      exact qv k hM.1.1
    rw [if_neg h0] at k
    refine And.intro (fun h => ?_) (fun h1 => ?_)
    · rw [if_pos h] at k
      exact qv k hM.1.2.1
    rw [if_neg h1] at k
    refine And.intro (fun h => ?_) (fun h2 => ?_)
    · rw [if_pos h] at k
      exact qv k hM.1.2.2.2.1
    rw [if_neg h2] at k
    refine And.intro (fun h => ?_) (fun h3 => ?_)
    · rw [if_pos h] at k
      exact qv k hR
    rw [if_neg h3] at k
    refine And.intro (fun h => ?_) (fun h4 => ?_)
    · rw [if_pos h] at k
      exact qv k (sumN_congr _ (fun i hi => congrFun hM.2.1.2.2.1 i))
    rw [if_neg h4] at k
    refine And.intro (fun h => ?_) (fun h5 => ?_)
    · rw [if_pos h] at k
      exact qv k hM.1.2.2.2.2.1
    rw [if_neg h5] at k
    exact k
  | r + 1, i, x, s, h, hx, hs => by
    subst hx; subst hs
    refine wgo [25] 100 ?_
    refine And.intro (fun z => absurd (ni64 (show i < 64 by omega)) (lenl z)) (fun _ => ?_)
    refine And.intro (vp_N (by omega)) ?_
    exact m_count_2 (lv1 := lv1) hM k hR r (i + 1) _ _ (by omega) (nI_1 i) (by rw [cl]; rfl)
set_option maxRecDepth 100000 in
theorem m_count_1 {a : Int32} {n : Nat} (hM : MV iv lg sg tw) (hn : iv 79 3 = nI n) (h8 : n ≤ 8) (k : Wp L xs m_Mo_count 25 [some (.ref 79), some (.int a), some (.int (sumN (fun p => iv 81 (7 * p + 2)) n)), some (.int 0), some (.int 0)] [] SH RF iv lg Q) : ∀ (r i : Nat) (x s : Int32), i + r = n → x = nI i → s = sumN (fun p => iv 81 (7 * p + 2)) i → Wp L xs m_Mo_count 6 [some (.ref 79), some (.int a), some (.int s), some (.int 0), some (.int x)] [] SH RF iv lg Q
  | 0, i, x, s, h, hx, hs => by
    obtain rfl : i = n := by omega
    subst hx; subst hs
    refine wgo [6, 25] 100 ?_
    exact And.intro (fun _ => k) (fun z => absurd (by rw [hn]; exact il.mpr (Int.le_refl _)) z)
  | r + 1, i, x, s, h, hx, hs => by
    subst hx; subst hs
    have e : (7 : Int32) * nI i + 2 = nI (7 * i + 2) := by rw [ni7]; exact ni_a _ 2
    refine wgo [6, 25] 100 ?_
    refine And.intro (fun z => absurd (nI_lt (show i < n by omega) (by omega)) (by rw [hn] at z; exact lenl z)) (fun _ => ?_)
    refine And.intro (by rw [e]; exact vp_N (by omega)) ?_
    exact m_count_1 hM hn h8 k r (i + 1) _ _ (by omega) (nI_1 i) (by rw [e, cl]; rfl)
set_option maxRecDepth 100000 in
theorem m_count {a : Int32} (hM : MV iv lg sg tw) (hG : GG t sg) (k : Q (some (.int (opCnt sg a))) SH RF iv lg) : Sp L xs m_Mo_count [.ref 79, .int a] SH RF iv lg Q := by
  have h8 := hG.1.2.1.2
  refine sgo [6, 25] 100 ?_
  refine m_count_1 hM (nP_m hM hG) h8 ?_ _ 0 _ _ (Nat.zero_add _) rfl rfl
  exact m_count_2 (lv1 := none) hM (fun _ => k) (sumN_congr _ (fun i hi => congrFun hM.2.1.2.1 _)) 64 0 _ _ rfl rfl rfl
theorem e_count (a : Int32) : EQ m_SR_count m_Mo_count [.int a] := by
  refine EQ.of (fun sg tw => (opCnt sg a, sg, tw)) (fun hC hG ht k => c_count hC hG (k _ _ hC refS.rfl)) (fun hM hG ht k => m_count hM hG (k _ _ hM clsS.rfl)) (fun hG ht => hG.mono (Nat.le_succ _))
end COUNT
end
section
-- ===== month =====
theorem xu2_id {α : Type} {f : Nat → Nat → α} {k j : Nat} : xu2 f k j (f k j) = f := by
  funext a b
  unfold xu2
  split
  · rename_i h; subst h
    split
    · rename_i h; subst h; rfl
    · rfl
  · rfl
def nS (sg : xIv) (p q : Nat) : Int32 := imn (sg 81 (7 * p + 2)) (sg 82 (8 * p + q))
def stS (p q : Nat) (s : xIv × Int32) : xIv × Int32 := (pyb s.1 p q (nS s.1 p q), s.2 + nS s.1 p q)
def stI (p : Nat) : Nat → Nat → xIv × Int32 → xIv × Int32
  | 0, _, s => s
  | r + 1, q, s => stI p r (q + 1) (stS p q s)
def stO (m : Nat) : Nat → Nat → xIv × Int32 → xIv × Int32
  | 0, _, s => s
  | r + 1, p, s => stO m r (p + 1) (stI p m 0 s)
abbrev Kp (sg' sg : xIv) : Prop := ∀ k, k ≠ 81 → k ≠ 82 → sg' k = sg k
theorem Kp.n {sg' sg : xIv} (h : Kp sg' sg) (i : Nat) : cnt (vL sg') i = cnt (vL sg) i := by
  have : vL sg' 0 = vL sg 0 := by
    funext j
    unfold vL
    rw [h 79 (by decide) (by decide)]
    rfl
  unfold cnt
  rw [this]
section MONTH
variable {L : Nat} {xs : Nat → Int32} {iv : xIv} {lg : xLg} {Q : xQ} {sg : xIv} {tw : Nat → Int64} {t : Nat}
theorem nS_bd {p q : Nat} (hG : Gv t (vL sg)) (hp : p < cnt (vL sg) 1) (hq : q < cnt (vL sg) 1) : 0 ≤ (nS sg p q).toInt ∧ nS sg p q ≤ sg 81 (7 * p + 2) ∧ nS sg p q ≤ sg 82 (8 * p + q) := by
  have h8 := hG.2.1.2
  have hr : 0 ≤ sg 81 (7 * p + 2) ∧ sg 81 (7 * p + 2) ≤ 99999 := (hG.2.2.2.2.2.2.1 p hp).2.2.1
  have ho : 0 ≤ (sg 82 (8 * p + q)).toInt ∧ (sg 82 (8 * p + q)).toInt ≤ 99999 * (t : Int) := hG.2.2.2.2.2.2.2.1 (8 * p + q) (by omega)
  rw [il, il, tl0] at hr
  rw [il, il]
  unfold nS
  rw [imn_toInt]
  split <;> omega
theorem pyb_kp {p q : Nat} {n : Int32} : Kp (pyb sg p q n) sg := fun k h1 h2 => by unfold pyb; rw [xu2_ne h2, hnd_row h1]
theorem stS_ok {p q : Nat} {a : Int32} (ht : t ≤ 512) (hG : Gv t (vL sg)) (hp : p < cnt (vL sg) 1) (hq : q < cnt (vL sg) 1) : Gv t (vL (stS p q (sg, a)).1) ∧ Kp (stS p q (sg, a)).1 sg := by
  obtain ⟨b1, b2, b3⟩ := nS_bd hG hp hq
  exact ⟨Gv_pyb hG hp hq hG.2.1.2 ht b1 b2 b3, pyb_kp⟩
theorem Kp.trans {a b c : xIv} (h : Kp a b) (h2 : Kp b c) : Kp a c := fun k x y => (h k x y).trans (h2 k x y)
theorem stI_ok {p m : Nat} (ht : t ≤ 512) (hp : p < m) : ∀ (r q : Nat) (s : xIv × Int32), q + r = m → cnt (vL s.1) 1 = m → Gv t (vL s.1) → Gv t (vL (stI p r q s).1) ∧ Kp (stI p r q s).1 s.1
  | 0, q, s, _, _, hG => ⟨hG, fun _ _ _ => rfl⟩
  | r + 1, q, s, h, hm, hG => by
    obtain ⟨g1, k1⟩ := stS_ok (p := p) (q := q) (a := s.2) ht hG (by omega) (by omega)
    obtain ⟨g2, k2⟩ := stI_ok ht hp r (q + 1) (stS p q s) (by omega) ((k1.n 1).trans hm) g1
    exact ⟨g2, k2.trans k1⟩
theorem stO_ok {m : Nat} (ht : t ≤ 512) : ∀ (r p : Nat) (s : xIv × Int32), p + r = m → cnt (vL s.1) 1 = m → Gv t (vL s.1) → Gv t (vL (stO m r p s).1) ∧ Kp (stO m r p s).1 s.1
  | 0, q, s, _, _, hG => ⟨hG, fun _ _ _ => rfl⟩
  | r + 1, p, s, h, hm, hG => by
    obtain ⟨g1, k1⟩ := stI_ok (p := p) (m := m) ht (by omega) m 0 s (by omega) hm hG
    obtain ⟨g2, k2⟩ := stO_ok ht r (p + 1) (stI p m 0 s) (by omega) ((k1.n 1).trans hm) g1
    exact ⟨g2, k2.trans k1⟩
theorem pyb_zero {p q : Nat} (hG : Gv t (vL sg)) (hq : q < cnt (vL sg) 1) : pyb sg p q 0 = sg := by
  have hr : 0 ≤ sg 81 (7 * q + 2) ∧ sg 81 (7 * q + 2) ≤ 99999 := (hG.2.2.2.2.2.2.1 q hq).2.2.1
  have e1 : hnd1 sg p 0 = sg := by unfold hnd1; rw [Int32.sub_zero]; exact xu2_id
  have e2 : hnd2 sg p 0 = sg := by unfold hnd2; rw [e1, Int32.add_zero]; exact xu2_id
  have e3 : hnd3 sg p q 0 = sg := by
    unfold hnd3
    rw [e2, Int32.add_zero, show imn 99999 (sg 81 (7 * q + 2)) = sg 81 (7 * q + 2) from ?_]
    · exact xu2_id
    · refine ie.mpr ?_
      rw [imn_toInt]
      rw [il, il] at hr
      split <;> omega
  have e4 : hnd sg p q 0 = sg := by unfold hnd; rw [e3, Int32.add_zero]; exact xu2_id
  unfold pyb
  rw [e4, Int32.sub_zero]
  exact xu2_id
theorem stS_zero {p q : Nat} {a : Int32} (hG : Gv t (vL sg)) (hp : p < cnt (vL sg) 1) (hq : q < cnt (vL sg) 1) (h : nS sg p q ≤ 0) : stS p q (sg, a) = (sg, a) := by
  obtain ⟨b1, b2, b3⟩ := nS_bd hG hp hq
  rw [il, tl0] at h
  have e : nS sg p q = 0 := ie.mpr (by rw [tl0]; omega)
  unfold stS
  dsimp only
  rw [e, pyb_zero hG hq, Int32.add_zero]
set_option maxRecDepth 100000 in
theorem c_set_in {m p : Nat} (ht : t ≤ 512) (hm8 : m ≤ 8) (hp : p < m) : ∀ (r q : Nat) (x a A : Int32) (iv sg : xIv) (o4 : Option Value), q + r = m → x = nI q → a = A → cnt (vL sg) 1 = m → CX iv lg sg tw → Gv t (vL sg) → (∀ iv' a' x' o4', CX iv' lg (stI p r q (sg, A)).1 tw → refS iv' lg iv lg → a' = (stI p r q (sg, A)).2 → Wp L xs m_People_settle 39 [some (.ref 8), some (.int a'), some (.int (nI p)), some (.int x'), o4'] [] SH RF iv' lg Q) → Wp L xs m_People_settle 10 [some (.ref 8), some (.int a), some (.int (nI p)), some (.int x), o4] [] SH RF iv lg Q
  | 0, q, x, a, A, iv, sg, o4, h, hx, ha, hc, hC, hG, k => by
    obtain rfl : q = m := by omega
    subst hx; subst ha
    have hn : iv 8 0 = nI q := by rw [hC.1.2.1.1, hG.2.1.1, hc]
    refine wgo [10, 39] 100 ?_
    exact And.intro (fun _ => k iv _ _ _ hC refS.rfl rfl) (fun z => absurd (by rw [hn]; exact il.mpr (Int.le_refl _)) z)
  | r + 1, q, x, a, A, iv, sg, o4, h, hx, ha, hc, hC, hG, k => by
    subst hx; subst ha
    have hn : iv 8 0 = nI m := by rw [hC.1.2.1.1, hG.2.1.1, hc]
    have e8 : nI p * (8 : Int32) + nI q = nI (8 * p + q) := by rw [ni8', ni_a]
    have v8 : vp_in (nI p * (8 : Int32) + nI q) 64 := by rw [e8]; exact vp_N (by omega)
    have k8 : (nI p * (8 : Int32) + nI q).toNatClampNeg = 8 * p + q := by rw [e8, cl]
    have en : imn (iv 11 (nI p).toNatClampNeg) (iv 16 (nI p * (8 : Int32) + nI q).toNatClampNeg) = nS sg p q := by
      rw [k8, cl, (hC.rd (show p < cnt (vL sg) 1 by omega)).2.2.1, show iv 16 (8 * p + q) = sg 82 (8 * p + q) from hC.1.2.1.2.2 _ (by omega)]
      rfl
    refine wgo [10, 39] 100 ?_
    refine And.intro (fun z => absurd (nI_lt (show q < m by omega) (by omega)) (by rw [hn] at z; exact lenl z)) (fun _ => ?_)
    refine And.intro (vp_N (by omega)) ?_
    refine And.intro v8 ?_
    refine s_payBack hC (by omega) (by omega) (by omega) (fun iv1 C1 R1 => ?_)
    rw [en] at C1
    obtain ⟨g1, k1⟩ := stS_ok (p := p) (q := q) (a := a) ht hG (by omega) (by omega)
    exact c_set_in ht hm8 hp r (q + 1) _ _ (a + nS sg p q) iv1 (pyb sg p q (nS sg p q)) _ (by omega) (nI_1 q) (by rw [en]) ((k1.n 1).trans hc) C1 g1 (fun iv' a' x' o4' c1 c2 c3 => k iv' a' x' o4' c1 (c2.trans R1) c3)
set_option maxRecDepth 100000 in
theorem c_set_out {m : Nat} (ht : t ≤ 512) (hm8 : m ≤ 8) : ∀ (r p : Nat) (x a A : Int32) (iv sg : xIv) (o3 o4 : Option Value), p + r = m → x = nI p → a = A → cnt (vL sg) 1 = m → CX iv lg sg tw → Gv t (vL sg) → (∀ iv', CX iv' lg (stO m r p (sg, A)).1 tw → refS iv' lg iv lg → Q (some (.int (stO m r p (sg, A)).2)) SH RF iv' lg) → Wp L xs m_People_settle 4 [some (.ref 8), some (.int a), some (.int x), o3, o4] [] SH RF iv lg Q
  | 0, q, x, a, A, iv, sg, o3, o4, h, hx, ha, hc, hC, hG, k => by
    obtain rfl : q = m := by omega
    subst hx; subst ha
    have hn : iv 8 0 = nI q := by rw [hC.1.2.1.1, hG.2.1.1, hc]
    refine wgo [4, 10] 100 ?_
    exact And.intro (fun _ => k iv hC refS.rfl) (fun z => absurd (by rw [hn]; exact il.mpr (Int.le_refl _)) z)
  | r + 1, p, x, a, A, iv, sg, o3, o4, h, hx, ha, hc, hC, hG, k => by
    subst hx; subst ha
    have hn : iv 8 0 = nI m := by rw [hC.1.2.1.1, hG.2.1.1, hc]
    refine wgo [4, 10] 100 ?_
    refine And.intro (fun z => absurd (nI_lt (show p < m by omega) (by omega)) (by rw [hn] at z; exact lenl z)) (fun _ => ?_)
    obtain ⟨g1, k1⟩ := stI_ok (p := p) (m := m) ht (by omega) m 0 (sg, a) (by omega) hc hG
    refine c_set_in ht hm8 (show p < m by omega) m 0 _ _ a iv sg _ (by omega) rfl rfl hc hC hG (fun iv' a' x' o4' c1 c2 c3 => ?_)
    refine wgo [4, 10] 100 ?_
    exact c_set_out ht hm8 r (p + 1) _ _ (stI p m 0 (sg, a)).2 iv' (stI p m 0 (sg, a)).1 _ _ (by omega) (nI_1 p) c3 ((k1.n 1).trans hc) c1 g1 (fun iv2 d1 d2 => k iv2 d1 (d2.trans c2))
theorem c_settle (ht : t ≤ 512) (hC : CX iv lg sg tw) (hG : Gv t (vL sg)) (k : ∀ iv', CX iv' lg (stO (cnt (vL sg) 1) (cnt (vL sg) 1) 0 (sg, 0)).1 tw → refS iv' lg iv lg → Q (some (.int (stO (cnt (vL sg) 1) (cnt (vL sg) 1) 0 (sg, 0)).2)) SH RF iv' lg) : Sp L xs m_People_settle [.ref 8] SH RF iv lg Q := by
  refine sgo [4, 10] 100 ?_
  exact c_set_out ht hG.2.1.2 _ 0 _ _ 0 iv sg _ _ (by omega) rfl rfl rfl hC hG k
set_option maxRecDepth 100000 in
theorem m_set_in {m p : Nat} (ht : t ≤ 512) (hm8 : m ≤ 8) (hp : p < m) : ∀ (r q : Nat) (x a A : Int32) (iv sg : xIv) (o4 : Option Value), q + r = m → x = nI q → a = A → cnt (vL sg) 1 = m → MV iv lg sg tw → Gv t (vL sg) → (∀ iv' a' x' o4', MV iv' lg (stI p r q (sg, A)).1 tw → clsS iv' lg iv lg → a' = (stI p r q (sg, A)).2 → Wp L xs m_Mo_month 74 [some (.ref 79), some (.int a'), some (.int (nI p)), some (.int x'), o4'] [] SH RF iv' lg Q) → Wp L xs m_Mo_month 10 [some (.ref 79), some (.int a), some (.int (nI p)), some (.int x), o4] [] SH RF iv lg Q
  | 0, q, x, a, A, iv, sg, o4, h, hx, ha, hc, hC, hG, k => by
    obtain rfl : q = m := by omega
    subst hx; subst ha
    have hn : iv 79 3 = nI q := by rw [hC.1.2.1]; exact hG.2.1.1.trans (by rw [hc])
    refine wgo [10, 74] 100 ?_
    exact And.intro (fun _ => k iv _ _ _ hC clsS.rfl rfl) (fun z => absurd (by rw [hn]; exact il.mpr (Int.le_refl _)) z)
  | r + 1, q, x, a, A, iv, sg, o4, h, hx, ha, hc, hC, hG, k => by
    subst hx; subst ha
    have hn : iv 79 3 = nI m := by rw [hC.1.2.1]; exact hG.2.1.1.trans (by rw [hc])
    have e8 : (8 : Int32) * nI p + nI q = nI (8 * p + q) := by rw [ni8, ni_a]
    have v8 : vp_in ((8 : Int32) * nI p + nI q) 64 := by rw [e8]; exact vp_N (by omega)
    have k8 : ((8 : Int32) * nI p + nI q).toNatClampNeg = 8 * p + q := by rw [e8, cl]
    have e7 : (7 : Int32) * nI p + 2 = nI (7 * p + 2) := by rw [ni7]; exact ni_a _ 2
    have v7 : vp_in ((7 : Int32) * nI p + 2) 56 := by rw [e7]; exact vp_N (by omega)
    have k7 : ((7 : Int32) * nI p + 2).toNatClampNeg = 7 * p + 2 := by rw [e7, cl]
    have i8 : iv 82 ((8 : Int32) * nI p + nI q).toNatClampNeg = sg 82 (8 * p + q) := by rw [k8, hC.2.1.2.2.1]
    have i7 : iv 81 ((7 : Int32) * nI p + 2).toNatClampNeg = sg 81 (7 * p + 2) := by rw [k7, hC.2.1.2.1]
    have key : ∀ (n : Int32) (o4 : Option Value), n = nS sg p q → Wp L xs m_Mo_month 48 [some (.ref 79), some (.int a), some (.int (nI p)), some (.int (nI q)), o4] [.int n] SH RF iv lg Q := by
      intro n o4 en
      subst en
      refine wgo [10, 74] 100 ?_
      refine And.intro (fun z => ?_) (fun z => ?_)
      · have es := stS_zero (a := a) hG (show p < cnt (vL sg) 1 by omega) (show q < cnt (vL sg) 1 by omega) z
        refine m_set_in ht hm8 hp r (q + 1) _ _ a iv sg _ (by omega) (nI_1 q) rfl hc hC hG (fun iv' a' x' o4' c1 c2 c3 => ?_)
        have e : stI p (r + 1) q (sg, a) = stI p r (q + 1) (sg, a) := by show stI p r (q + 1) (stS p q (sg, a)) = _; rw [es]
        rw [e] at k
        exact k iv' a' x' o4' c1 c2 c3
      · refine m_send hC (by omega) (by omega) (fun iv1 M1 R1 => ?_)
        refine And.intro v8 ?_
        refine And.intro v8 ?_
        obtain ⟨g1, k1⟩ := stS_ok (p := p) (q := q) (a := a) ht hG (by omega) (by omega)
        have M2 : MV (xu2 iv1 82 ((8 : Int32) * nI p + nI q).toNatClampNeg (iv1 82 ((8 : Int32) * nI p + nI q).toNatClampNeg - nS sg p q)) lg (pyb sg p q (nS sg p q)) tw := by
          rw [k8, M1.2.1.2.2.1]
          exact M1.up _ _ _
        exact m_set_in ht hm8 hp r (q + 1) _ _ (a + nS sg p q) _ (pyb sg p q (nS sg p q)) _ (by omega) (nI_1 q) rfl ((k1.n 1).trans hc) M2 g1 (fun iv' a' x' o4' c1 c2 c3 => k iv' a' x' o4' c1 (c2.trans (R1.up (by decide))) c3)
    refine wgo [10, 48, 74] 100 ?_
    refine And.intro (fun z => absurd (nI_lt (show q < m by omega) (by omega)) (by rw [hn] at z; exact lenl z)) (fun _ => ?_)
    refine And.intro v8 ?_
    refine And.intro v7 ?_
    refine And.intro (fun z => ?_) (fun z => ?_)
    · rw [i7, i8] at z
      refine And.intro v7 ?_
      exact key _ _ (by rw [i7]; unfold nS imn; rw [if_neg (lenl z)])
    · rw [i7, i8] at z
      refine And.intro v8 ?_
      exact key _ _ (by rw [i8]; unfold nS imn; rw [if_pos (nle z)])
set_option maxRecDepth 100000 in
theorem m_set_out {m : Nat} (ht : t ≤ 512) (hm8 : m ≤ 8) : ∀ (r p : Nat) (x a A : Int32) (iv sg : xIv) (o3 o4 : Option Value), p + r = m → x = nI p → a = A → cnt (vL sg) 1 = m → MV iv lg sg tw → Gv t (vL sg) → (∀ iv' o3' o4', MV iv' lg (stO m r p (sg, A)).1 tw → clsS iv' lg iv lg → Wp L xs m_Mo_month 78 [some (.ref 79), some (.int (stO m r p (sg, A)).2), some (.int 0), o3', o4'] [] SH RF iv' lg Q) → Wp L xs m_Mo_month 4 [some (.ref 79), some (.int a), some (.int x), o3, o4] [] SH RF iv lg Q
  | 0, q, x, a, A, iv, sg, o3, o4, h, hx, ha, hc, hC, hG, k => by
    obtain rfl : q = m := by omega
    subst hx; subst ha
    have hn : iv 79 3 = nI q := by rw [hC.1.2.1]; exact hG.2.1.1.trans (by rw [hc])
    refine wgo [4, 10, 78] 100 ?_
    exact And.intro (fun _ => k iv _ _ hC clsS.rfl) (fun z => absurd (by rw [hn]; exact il.mpr (Int.le_refl _)) z)
  | r + 1, p, x, a, A, iv, sg, o3, o4, h, hx, ha, hc, hC, hG, k => by
    subst hx; subst ha
    have hn : iv 79 3 = nI m := by rw [hC.1.2.1]; exact hG.2.1.1.trans (by rw [hc])
    refine wgo [4, 10, 78] 100 ?_
    refine And.intro (fun z => absurd (nI_lt (show p < m by omega) (by omega)) (by rw [hn] at z; exact lenl z)) (fun _ => ?_)
    obtain ⟨g1, k1⟩ := stI_ok (p := p) (m := m) ht (by omega) m 0 (sg, a) (by omega) hc hG
    refine m_set_in ht hm8 (show p < m by omega) m 0 _ _ a iv sg _ (by omega) rfl rfl hc hC hG (fun iv' a' x' o4' c1 c2 c3 => ?_)
    refine wgo [4, 10, 78] 100 ?_
    exact m_set_out ht hm8 r (p + 1) _ _ (stI p m 0 (sg, a)).2 iv' (stI p m 0 (sg, a)).1 _ _ (by omega) (nI_1 p) c3 ((k1.n 1).trans hc) c1 g1 (fun iv2 o3' o4' d1 d2 => k iv2 o3' o4' d1 (d2.trans c2))
/-- the new month of one -/
def rnV (sg : xIv) (p : Nat) : Int32 := imn 99999 ((if sg 79 6 = 0 then 0 else if sg 79 6 = 2 then sg 81 (7 * p + 2) / 2 else sg 81 (7 * p + 2)) + sg 83 (sg 81 (7 * p + 1)).toNatClampNeg)
def rn1 (sg : xIv) (p : Nat) : xIv := xu2 sg 81 (7 * p + 2) (rnV sg p)
def rn2 (sg : xIv) (p : Nat) : xIv := xu2 (rn1 sg p) 81 (7 * p + 3) (rn1 sg p 81 (7 * p))
def rn3 (sg : xIv) (p : Nat) : xIv := xu2 (rn2 sg p) 81 (7 * p + 4) 0
def rn4 (sg : xIv) (p : Nat) : xIv := xu2 (rn3 sg p) 81 (7 * p + 5) 0
def rnw (sg : xIv) (p : Nat) : xIv := xu2 (rn4 sg p) 81 (7 * p + 6) 0
def rnR : Nat → Nat → xIv → xIv
  | 0, _, s => s
  | r + 1, p, s => rnR r (p + 1) (rnw s p)
theorem rn_c {p : Nat} (i : Nat) : cnt (vL (rn1 sg p)) i = cnt (vL sg) i ∧ cnt (vL (rn2 sg p)) i = cnt (vL sg) i ∧ cnt (vL (rn3 sg p)) i = cnt (vL sg) i ∧ cnt (vL (rn4 sg p)) i = cnt (vL sg) i ∧ cnt (vL (rnw sg p)) i = cnt (vL sg) i := by
  have a1 : cnt (vL (rn1 sg p)) i = cnt (vL sg) i := cnt_ne (by decide)
  have a2 : cnt (vL (rn2 sg p)) i = cnt (vL sg) i := (cnt_ne (by decide)).trans a1
  have a3 : cnt (vL (rn3 sg p)) i = cnt (vL sg) i := (cnt_ne (by decide)).trans a2
  have a4 : cnt (vL (rn4 sg p)) i = cnt (vL sg) i := (cnt_ne (by decide)).trans a3
  exact ⟨a1, a2, a3, a4, (cnt_ne (by decide)).trans a4⟩
theorem rnw_kp {p : Nat} : Kp (rnw sg p) sg := fun k h1 _ => by unfold rnw rn4 rn3 rn2 rn1; rw [xu2_ne h1, xu2_ne h1, xu2_ne h1, xu2_ne h1, xu2_ne h1]
theorem rnw_ok {p : Nat} (hG : Gv t (vL sg)) (hp : p < cnt (vL sg) 1) : Gv t (vL (rnw sg p)) := by
  obtain ⟨a1, a2, a3, a4⟩ := hG.2.2.2.2.2.2.1 p hp
  obtain ⟨kd, hkd, ek⟩ := isN_of a2 (by decide)
  have ek : sg 81 (7 * p + 1) = nI kd := ek
  have hr : 0 ≤ sg 81 (7 * p + 2) ∧ sg 81 (7 * p + 2) ≤ 99999 := a3
  have hg : 0 ≤ sg 83 kd ∧ sg 83 kd ≤ 9999 := hG.2.2.2.2.2.2.2.2.1 kd hkd
  rw [il, il, tl0, tl9] at hr
  rw [il, il, tl0, show (9999 : Int32).toInt = 9999 by decide] at hg
  have hv : 0 ≤ rnV sg p ∧ rnV sg p ≤ 99999 := by
    unfold rnV
    rw [il, il, imn_toInt, tl0, tl9, ek, cl]
    have h2 := halfI (a := sg 81 (7 * p + 2)) (by omega)
    have hl : ∀ l : Int32, 0 ≤ l.toInt → l.toInt ≤ 99999 → 0 ≤ (if (l + sg 83 kd).toInt < 99999 then (l + sg 83 kd).toInt else 99999) ∧ (if (l + sg 83 kd).toInt < 99999 then (l + sg 83 kd).toInt else 99999) ≤ 99999 := fun l h1 h3 => by
      rw [addI (by omega) (by omega)]
      split <;> omega
    refine hl _ ?_ ?_
    · split
      · rw [tl0]; omega
      · split <;> omega
    · split
      · rw [tl0]; omega
      · split <;> omega
  have g1 : Gv t (vL (rn1 sg p)) := hG.p (by decide) ⟨fun z => absurd z (by decide), fun z => absurd z (by decide), fun _ => hv, fun z => absurd z (by decide)⟩
  have g2 : Gv t (vL (rn2 sg p)) := by
    refine g1.p (by decide) ⟨fun z => absurd z (by decide), fun z => absurd z (by decide), fun z => absurd z (by decide), fun _ => ?_⟩
    exact (g1.2.2.2.2.2.2.1 p (by rw [(rn_c 1).1]; exact hp)).1
  have g3 : Gv t (vL (rn3 sg p)) := g2.p (by decide) ⟨fun z => absurd z (by decide), fun z => absurd z (by decide), fun z => absurd z (by decide), fun z => absurd z (by decide)⟩
  have g4 : Gv t (vL (rn4 sg p)) := g3.p (by decide) ⟨fun z => absurd z (by decide), fun z => absurd z (by decide), fun z => absurd z (by decide), fun z => absurd z (by decide)⟩
  exact g4.p (by decide) ⟨fun z => absurd z (by decide), fun z => absurd z (by decide), fun z => absurd z (by decide), fun z => absurd z (by decide)⟩
theorem rnR_ok {m : Nat} : ∀ (r p : Nat) (s : xIv), p + r = m → cnt (vL s) 1 = m → Gv t (vL s) → Gv t (vL (rnR r p s)) ∧ Kp (rnR r p s) s
  | 0, q, s, _, _, hG => ⟨hG, fun _ _ _ => rfl⟩
  | r + 1, p, s, h, hm, hG => by
    have g1 := rnw_ok (p := p) hG (by omega)
    obtain ⟨g2, k2⟩ := rnR_ok r (p + 1) (rnw s p) (by omega) ((rnw_kp.n 1).trans hm) g1
    exact ⟨g2, k2.trans rnw_kp⟩
set_option maxRecDepth 100000 in
theorem c_renew_l {m : Nat} (hm8 : m ≤ 8) : ∀ (r p : Nat) (x law : Int32) (iv sg : xIv) (o4 : Option Value), p + r = m → x = nI p → law = sg 79 6 → cnt (vL sg) 1 = m → CX iv lg sg tw → Gv t (vL sg) → (∀ iv', CX iv' lg (rnR r p sg) tw → refS iv' lg iv lg → Q none SH RF iv' lg) → Wp L xs m_People_renew 2 [some (.ref 8), some (.int law), some (.ref 18), some (.int x), o4] [] SH RF iv lg Q
  | 0, q, x, law, iv, sg, o4, h, hx, hl, hc, hC, hG, k => by
    obtain rfl : q = m := by omega
    subst hx
    have hn : iv 8 0 = nI q := by rw [hC.1.2.1.1, hG.2.1.1, hc]
    refine wgo [2] 100 ?_
    exact And.intro (fun _ => k iv hC refS.rfl) (fun z => absurd (by rw [hn]; exact il.mpr (Int.le_refl _)) z)
  | r + 1, p, x, law, iv, sg, o4, h, hx, hl, hc, hC, hG, k => by
    subst hx
    have hn : iv 8 0 = nI m := by rw [hC.1.2.1.1, hG.2.1.1, hc]
    have hp : p < cnt (vL sg) 1 := by omega
    have hvp : vp_in (nI p) 8 := vp_N (by omega)
    have ep : (nI p).toNatClampNeg = p := cl
    obtain ⟨kd, hkd, ek⟩ := isN_of (hG.2.2.2.2.2.2.1 p hp).2.1 (by decide)
    have ek : sg 81 (7 * p + 1) = nI kd := ek
    have key : ∀ (lf : Int32) (o4 : Option Value), lf = (if sg 79 6 = 0 then 0 else if sg 79 6 = 2 then sg 81 (7 * p + 2) / 2 else sg 81 (7 * p + 2)) → Wp L xs m_People_renew 24 [some (.ref 8), some (.int law), some (.ref 18), some (.int (nI p)), o4] [.int lf] SH RF iv lg Q := by
      intro lf o4 elf
      refine wgo [2] 100 ?_
      refine And.intro hvp ?_
      refine And.intro (by rw [ep, (hC.rd hp).2.1, ek]; exact vp_N (by omega)) ?_
      refine And.intro hvp ?_
      refine And.intro hvp ?_
      refine And.intro hvp ?_
      refine And.intro hvp ?_
      refine And.intro hvp ?_
      refine And.intro hvp ?_
      have ev : imn 99999 (lf + iv 18 (iv 10 (nI p).toNatClampNeg).toNatClampNeg) = rnV sg p := by
        rw [ep, (hC.rd hp).2.1, elf]
        unfold rnV
        rw [ek, cl, show iv 18 kd = sg 83 kd from hC.1.2.2.2.2.1 kd hkd]
      have C1 : CX (xu2 iv 11 (nI p).toNatClampNeg (imn 99999 (lf + iv 18 (iv 10 (nI p).toNatClampNeg).toNatClampNeg))) lg (rn1 sg p) tw := by
        rw [ev, ep]
        exact hC.p hp (f := 2) (by decide)
      obtain ⟨a1, a2, a3, a4, a5⟩ := rn_c (sg := sg) (p := p) 1
      have R1 : refS (xu2 iv 11 (nI p).toNatClampNeg (imn 99999 (lf + iv 18 (iv 10 (nI p).toNatClampNeg).toNatClampNeg))) lg iv lg := refS.rfl.up (by decide)
      generalize xu2 iv 11 (nI p).toNatClampNeg (imn 99999 (lf + iv 18 (iv 10 (nI p).toNatClampNeg).toNatClampNeg)) = iv1 at C1 R1 ⊢
      have C2 : CX (xu2 iv1 12 (nI p).toNatClampNeg (iv1 9 (nI p).toNatClampNeg)) lg (rn2 sg p) tw := by
        rw [ep, (C1.rd (by omega)).1]
        exact C1.p (by omega) (f := 3) (by decide)
      have C5 : CX (xu2 (xu2 (xu2 (xu2 iv1 12 (nI p).toNatClampNeg (iv1 9 (nI p).toNatClampNeg)) 13 (nI p).toNatClampNeg 0) 14 (nI p).toNatClampNeg 0) 15 (nI p).toNatClampNeg 0) lg (rnw sg p) tw := by
        rw [ep] at C2 ⊢
        have C3 : CX (xu2 (xu2 iv1 12 p (iv1 9 p)) 13 p 0) lg (rn3 sg p) tw := C2.p (by omega) (f := 4) (by decide)
        have C4 : CX (xu2 (xu2 (xu2 iv1 12 p (iv1 9 p)) 13 p 0) 14 p 0) lg (rn4 sg p) tw := C3.p (by omega) (f := 5) (by decide)
        exact C4.p (by omega) (f := 6) (by decide)
      exact c_renew_l hm8 r (p + 1) _ _ _ (rnw sg p) _ (by omega) (nI_1 p) (hl.trans (by rw [rnw_kp 79 (by decide) (by decide)])) (a5.trans hc) C5 (rnw_ok hG hp) (fun iv' c1 c2 => k iv' c1 (c2.trans ((((R1.up (by decide)).up (by decide)).up (by decide)).up (by decide))))
    refine wgo [2, 24] 100 ?_
    refine And.intro (fun z => absurd (nI_lt (show p < m by omega) (by omega)) (by rw [hn] at z; exact lenl z)) (fun _ => ?_)
    refine And.intro (fun z => ?_) (fun z => ?_)
    · refine And.intro (fun z2 => ?_) (fun z2 => ?_)
      · refine And.intro hvp ?_
        exact key _ _ (by rw [ep, (hC.rd hp).2.2.1, ← hl, if_neg z, if_neg z2])
      · refine And.intro hvp ?_
        refine And.intro (by decide) ?_
        exact key _ _ (by rw [ep, (hC.rd hp).2.2.1, ← hl, if_neg z, if_pos (Decidable.not_not.mp z2)])
    · exact key _ _ (by rw [← hl, if_pos (Decidable.not_not.mp z)])
set_option maxRecDepth 100000 in
theorem m_renew_l {m : Nat} {A : Int32} (hm8 : m ≤ 8) : ∀ (r p : Nat) (x : Int32) (iv sg : xIv) (o3 o4 : Option Value), p + r = m → x = nI p → cnt (vL sg) 1 = m → MV iv lg sg tw → Gv t (vL sg) → (∀ iv', MV iv' lg (rnR r p sg) tw → clsS iv' lg iv lg → Q (some (.int A)) SH RF iv' lg) → Wp L xs m_Mo_month 78 [some (.ref 79), some (.int A), some (.int x), o3, o4] [] SH RF iv lg Q
  | 0, q, x, iv, sg, o3, o4, h, hx, hc, hC, hG, k => by
    obtain rfl : q = m := by omega
    subst hx
    have hn : iv 79 3 = nI q := by rw [hC.1.2.1]; exact hG.2.1.1.trans (by rw [hc])
    refine wgo [78] 100 ?_
    exact And.intro (fun _ => k iv hC clsS.rfl) (fun z => absurd (by rw [hn]; exact il.mpr (Int.le_refl _)) z)
  | r + 1, p, x, iv, sg, o3, o4, h, hx, hc, hC, hG, k => by
    subst hx
    have hn : iv 79 3 = nI m := by rw [hC.1.2.1]; exact hG.2.1.1.trans (by rw [hc])
    have hp : p < cnt (vL sg) 1 := by omega
    have e7 : ∀ c : Nat, (7 : Int32) * nI p + nI c = nI (7 * p + c) := fun c => by rw [ni7]; exact ni_a _ _
    have e70 : (7 : Int32) * nI p = nI (7 * p) := ni7 p
    have v7 : ∀ c : Nat, c < 7 → vp_in ((7 : Int32) * nI p + nI c) 56 := fun c hcc => by rw [e7]; exact vp_N (by omega)
    have k7 : ∀ c : Nat, c < 7 → ((7 : Int32) * nI p + nI c).toNatClampNeg = 7 * p + c := fun c hcc => by rw [e7, cl]
    have v70 : vp_in ((7 : Int32) * nI p) 56 := by rw [e70]; exact vp_N (by omega)
    have k70 : ((7 : Int32) * nI p).toNatClampNeg = 7 * p := by rw [e70, cl]
    obtain ⟨kd, hkd, ek⟩ := isN_of (hG.2.2.2.2.2.2.1 p hp).2.1 (by decide)
    have ek : sg 81 (7 * p + 1) = nI kd := ek
    have i1 : iv 81 ((7 : Int32) * nI p + nI 1).toNatClampNeg = nI kd := by rw [k7 1 (by decide), hC.2.1.2.1, ek]
    have i2 : iv 81 ((7 : Int32) * nI p + nI 2).toNatClampNeg = sg 81 (7 * p + 2) := by rw [k7 2 (by decide), hC.2.1.2.1]
    obtain ⟨a1, a2, a3, a4, a5⟩ := rn_c (sg := sg) (p := p) 1
    have key2 : ∀ (v : Int32) (o3 o4 : Option Value), v = rnV sg p → Wp L xs m_Mo_month 131 [some (.ref 79), some (.int A), some (.int (nI p)), o3, o4] [.int v, .int ((7 : Int32) * nI p + nI 2), .ref 81] SH RF iv lg Q := by
      intro v o3 o4 ev
      refine wgo [78] 100 ?_
      refine And.intro (v7 2 (by decide)) ?_
      refine And.intro v70 ?_
      refine And.intro (v7 3 (by decide)) ?_
      refine And.intro (v7 4 (by decide)) ?_
      refine And.intro (v7 5 (by decide)) ?_
      refine And.intro (v7 6 (by decide)) ?_
      have M1 : MV (xu2 iv 81 ((7 : Int32) * nI p + nI 2).toNatClampNeg v) lg (rn1 sg p) tw := by
        rw [ev, k7 2 (by decide)]
        exact hC.up _ _ _
      have R1 : clsS (xu2 iv 81 ((7 : Int32) * nI p + nI 2).toNatClampNeg v) lg iv lg := clsS.rfl.up (by decide)
      generalize xu2 iv 81 ((7 : Int32) * nI p + nI 2).toNatClampNeg v = iv1 at M1 R1 ⊢
      have M5 : MV (xu2 (xu2 (xu2 (xu2 iv1 81 ((7 : Int32) * nI p + nI 3).toNatClampNeg (iv1 81 ((7 : Int32) * nI p).toNatClampNeg)) 81 ((7 : Int32) * nI p + nI 4).toNatClampNeg 0) 81 ((7 : Int32) * nI p + nI 5).toNatClampNeg 0) 81 ((7 : Int32) * nI p + nI 6).toNatClampNeg 0) lg (rnw sg p) tw := by
        rw [k7 3 (by decide), k7 4 (by decide), k7 5 (by decide), k7 6 (by decide), k70, M1.2.1.2.1]
        exact (((M1.up _ _ _).up _ _ _).up _ _ _).up _ _ _
      exact m_renew_l hm8 r (p + 1) _ _ (rnw sg p) _ _ (by omega) (nI_1 p) (a5.trans hc) M5 (rnw_ok hG hp) (fun iv' c1 c2 => k iv' c1 (c2.trans ((((R1.up (by decide)).up (by decide)).up (by decide)).up (by decide))))
    have key : ∀ (lf : Int32) (o4 : Option Value), lf = (if sg 79 6 = 0 then 0 else if sg 79 6 = 2 then sg 81 (7 * p + 2) / 2 else sg 81 (7 * p + 2)) → Wp L xs m_Mo_month 116 [some (.ref 79), some (.int A), some (.int (nI p)), some (.int (sg 81 (7 * p + 2))), o4] [.int lf, .int (sg 83 kd)] SH RF iv lg Q := by
      intro lf o4 elf
      have ev : imn 99999 (sg 83 kd + lf) = rnV sg p := by
        rw [elf, Int32.add_comm]
        unfold rnV
        rw [ek, cl]
      refine wgo [78, 131] 100 ?_
      refine And.intro (fun z => ?_) (fun z => ?_)
      · refine key2 _ _ _ (Eq.trans ?_ ev)
        refine ie.mpr ?_
        rw [imn_toInt]
        rw [il] at z
        split <;> omega
      · refine key2 _ _ _ (Eq.trans ?_ ev)
        refine ie.mpr ?_
        rw [imn_toInt]
        rw [il] at z
        split <;> omega
    have elaw : iv 79 6 = sg 79 6 := hC.1.2.2.1
    have hlaw : sg 79 6 = 0 ∨ sg 79 6 = 1 ∨ sg 79 6 = 2 := by
      obtain ⟨l, hl, el⟩ := isN_of hG.2.2.2.1 (by decide)
      have el : sg 79 6 = nI l := el
      rw [el]
      match l, hl with
      | 0, _ => exact Or.inl rfl
      | 1, _ => exact Or.inr (Or.inl rfl)
      | 2, _ => exact Or.inr (Or.inr rfl)
    refine wgo [78, 116] 100 ?_
    refine And.intro (fun z => absurd (nI_lt (show p < m by omega) (by omega)) (by rw [hn] at z; exact lenl z)) (fun _ => ?_)
    refine And.intro (v7 2 (by decide)) ?_
    refine And.intro (v7 1 (by decide)) ?_
    refine And.intro (show vp_in (iv 81 ((7 : Int32) * nI p + nI 1).toNatClampNeg) 4 by rw [i1]; exact vp_N (by omega)) ?_
    rw [show iv 81 ((7 : Int32) * nI p + 1).toNatClampNeg = nI kd from i1, show iv 81 ((7 : Int32) * nI p + 2).toNatClampNeg = sg 81 (7 * p + 2) from i2, show iv 83 (nI kd).toNatClampNeg = sg 83 kd by rw [cl, hC.2.1.2.2.2.1]]
    refine And.intro (fun z => ?_) (fun z => ?_)
    · rw [elaw] at z
      refine And.intro (fun z2 => ?_) (fun z2 => ?_)
      · rw [elaw] at z2
        refine And.intro (by decide) ?_
        exact key _ _ (by rw [if_neg z, if_pos (by rcases hlaw with h | h | h; exact absurd h z; exact absurd h z2; exact h)])
      · rw [elaw] at z2
        exact key _ _ (by rw [if_neg z, if_neg (by rw [Decidable.not_not.mp z2]; decide)])
    · rw [elaw] at z
      exact key _ _ (by rw [if_pos (Decidable.not_not.mp z)])
def opMon (sg : xIv) : Int32 × xIv := ((stO (cnt (vL sg) 1) (cnt (vL sg) 1) 0 (sg, 0)).2, rnR (cnt (vL sg) 1) 0 (stO (cnt (vL sg) 1) (cnt (vL sg) 1) 0 (sg, 0)).1)
set_option maxRecDepth 100000 in
theorem c_month (ht : t ≤ 512) (hC : CX iv lg sg tw) (hG : GG t sg) (k : ∀ iv', CX iv' lg (opMon sg).2 tw → refS iv' lg iv lg → Q (some (.int (opMon sg).1)) SH RF iv' lg) : Sp L xs m_SR_month [.ref 0] SH RF iv lg Q := by
  refine sgo [] 100 ?_
  obtain ⟨g1, k1⟩ := stO_ok (m := cnt (vL sg) 1) ht (cnt (vL sg) 1) 0 (sg, 0) (by omega) rfl hG.1
  refine c_settle ht hC hG.1 (fun iv1 C1 R1 => ?_)
  refine sgo [2] 100 ?_
  exact c_renew_l hG.1.2.1.2 _ 0 _ _ _ _ _ (Nat.zero_add _) rfl C1.1.2.2.2.2.2.1 (k1.n 1) C1 g1 (fun iv2 c1 c2 => k iv2 c1 (c2.trans R1))
set_option maxRecDepth 100000 in
theorem m_month (ht : t ≤ 512) (hM : MV iv lg sg tw) (hG : GG t sg) (k : ∀ iv', MV iv' lg (opMon sg).2 tw → clsS iv' lg iv lg → Q (some (.int (opMon sg).1)) SH RF iv' lg) : Sp L xs m_Mo_month [.ref 79] SH RF iv lg Q := by
  refine sgo [4] 100 ?_
  obtain ⟨g1, k1⟩ := stO_ok (m := cnt (vL sg) 1) ht (cnt (vL sg) 1) 0 (sg, 0) (by omega) rfl hG.1
  refine m_set_out ht hG.1.2.1.2 _ 0 _ _ 0 iv sg _ _ (Nat.zero_add _) rfl rfl rfl hM hG.1 (fun iv1 o3 o4 M1 R1 => ?_)
  exact m_renew_l hG.1.2.1.2 _ 0 _ _ _ _ _ (Nat.zero_add _) rfl (k1.n 1) M1 g1 (fun iv2 c1 c2 => k iv2 c1 (c2.trans R1))
theorem e_month : EQ m_SR_month m_Mo_month [] := by
  refine EQ.of (fun sg tw => ((opMon sg).1, (opMon sg).2, tw)) (fun hC hG ht k => c_month (by omega) hC hG (fun iv' h1 h2 => k iv' _ h1 h2)) (fun hM hG ht k => m_month (by omega) hM hG (fun iv' h1 h2 => k iv' _ h1 h2)) (fun {t sg tw} hG ht => ?_)
  obtain ⟨g1, k1⟩ := stO_ok (m := cnt (vL sg) 1) (show t ≤ 512 by omega) (cnt (vL sg) 1) 0 (sg, 0) (by omega) rfl hG.1
  obtain ⟨g2, k2⟩ := rnR_ok (m := cnt (vL sg) 1) (cnt (vL sg) 1) 0 (stO (cnt (vL sg) 1) (cnt (vL sg) 1) 0 (sg, 0)).1 (by omega) (k1.n 1) g1
  have kk := k2.trans k1
  exact GG.kept (sg' := (opMon sg).2) hG (g2.mono (Nat.le_succ t)) (congrFun (kk 79 (by decide) (by decide)) 24) (kk 96 (by decide) (by decide)) (kk 97 (by decide) (by decide))
end MONTH
end
section
-- ===== type =====
/-- a byte of a long -/
def bN (w : Int64) (x : Int32) : Nat := (w >>> ((8 * x).toInt64 &&& 63)).toBitVec.toNat % 256
theorem bN_lt {w : Int64} {x : Int32} : bN w x < 256 := Nat.mod_lt _ (by decide)
theorem nx_and2 (a b : Nat) : nI a &&& nI b = nI (a &&& b) := by
  apply Int32.toBitVec_inj.1
  show BitVec.ofNat 32 a &&& BitVec.ofNat 32 b = BitVec.ofNat 32 (a &&& b)
  apply BitVec.eq_of_getLsbD_eq
  intro i hi
  simp [hi]
theorem bN_c (y : Int64) : y.toInt32 &&& 255 = nI (y.toBitVec.toNat % 256) := by
  have e : y.toInt32 = nI y.toBitVec.toNat := by
    apply Int32.toBitVec_inj.1
    rw [Int64.toBitVec_toInt32]
    show _ = BitVec.ofNat 32 y.toBitVec.toNat
    apply BitVec.eq_of_toNat_eq
    rw [BitVec.toNat_ofNat, BitVec.signExtend_eq_setWidth_of_le _ (by decide), BitVec.toNat_setWidth]
  rw [e]
  show nI _ &&& nI 255 = _
  rw [nx_and2, show (255 : Nat) = 2 ^ 8 - 1 from rfl, Nat.and_two_pow_sub_one_eq_mod]
theorem bN_m (y : Int64) : y &&& 255 = (nI (y.toBitVec.toNat % 256)).toInt64 := by
  rw [nI_l (by have := Nat.mod_lt y.toBitVec.toNat (show 0 < 256 by decide); omega)]
  apply Int64.toBitVec_inj.1
  rw [Int64.toBitVec_and]
  apply BitVec.eq_of_toNat_eq
  show (y.toBitVec &&& 255#64).toNat = (BitVec.ofNat 64 _).toNat
  rw [BitVec.toNat_and, BitVec.toNat_ofNat, BitVec.toNat_ofNat, show 255 % 2 ^ 64 = 2 ^ 8 - 1 from rfl, Nat.and_two_pow_sub_one_eq_mod]
  have := Nat.mod_lt y.toBitVec.toNat (show 0 < 256 by decide)
  omega
theorem bN_ch {n : Nat} (h : n < 256) : vp_nar .char ((nI n).toUInt32 % 65536).toInt32 = nI n := by
  rw [pk_vc, pk_char]
  show nI ((BitVec.ofNat 32 n).toNat % 65536) = nI n
  rw [BitVec.toNat_ofNat]
  congr 1
  omega
theorem toI32_l {n : Nat} (h : n < 2 ^ 31) : (nI n).toInt64.toInt32 = nI n := by rw [nI_l h, lN_i]
section TYPE
variable {L : Nat} {xs : Nat → Int32} {iv : xIv} {lg : xLg} {Q : xQ} {sg : xIv} {tw : Nat → Int64} {t : Nat}
theorem vL_tp {sg' : xIv} (h1 : ∀ k, k ≠ 79 → k ≠ 86 → sg' k = sg k) (h2 : ∀ j, j ≠ 12 → sg' 79 j = sg 79 j) : vL sg' = vL sg ∧ vK sg' = vK sg := by
  constructor
  · funext r j
    unfold vL
    rw [h2 1 (by decide), h2 3 (by decide), h2 8 (by decide), h2 6 (by decide), h2 9 (by decide), h1 80 (by decide) (by decide), h1 81 (by decide) (by decide), h1 82 (by decide) (by decide), h1 83 (by decide) (by decide), h1 84 (by decide) (by decide)]
  · funext r j
    unfold vK
    rw [h1 96 (by decide) (by decide), h1 97 (by decide) (by decide)]
/-- the tape alone changes -/
theorem CX.tape {iv' sg' : xIv} (hC : CX iv lg sg tw) (h1 : ∀ k, k ≠ 79 → k ≠ 86 → sg' k = sg k) (h2 : ∀ j, j ≠ 12 → sg' 79 j = sg 79 j) (hr : ∀ k, k ≠ 53 → k ≠ 54 → k < 79 → iv' k = iv k) (hT : TP iv' sg') : CX iv' lg sg' tw := by
  obtain ⟨e1, e2⟩ := vL_tp h1 h2
  obtain ⟨h, ⟨a1, a2, a3⟩, hrd, htp, hst⟩ := hC
  refine ⟨by rw [e1]; exact CW_congr (fun i hi => hr _ (by omega) (by omega) (by omega)) h, ⟨?_, ?_, fun z => ?_⟩, by rw [e1]; exact RD_congr (fun k a b => hr k (by omega) (by omega) (by omega)) hrd, hT, hst.keep (fun k a b => hr k (by omega) (by omega) (by omega)) (fun _ _ _ => rfl) (h1 98 (by decide) (by decide)) (h1 99 (by decide) (by decide))⟩
  · rw [hr 0 (by decide) (by decide) (by decide), h2 24 (by decide)]; exact a1
  · rw [h2 24 (by decide)]; exact a2
  · rw [h2 24 (by decide)] at z
    rw [e2]
    exact CW_congr (fun i hi => hr _ (by omega) (by omega) (by omega)) (a3 z)
theorem GG.tape {sg' : xIv} (hG : GG t sg) (h1 : ∀ k, k ≠ 79 → k ≠ 86 → sg' k = sg k) (h2 : ∀ j, j ≠ 12 → sg' 79 j = sg 79 j) : GG t sg' := by
  obtain ⟨e1, e2⟩ := vL_tp h1 h2
  exact ⟨by rw [e1]; exact hG.1, fun z => by rw [e2]; exact hG.2 (by rw [h2 24 (by decide)] at z; exact z)⟩
def tpN (sg : xIv) : Nat := (sg 79 12).toNatClampNeg
def ap1 (sg : xIv) (x : Int32) : xIv := xu2 (xu2 sg 86 (tpN sg) x) 79 12 (nI (tpN sg + 1))
def apR (w : Int64) : Nat → xIv → xIv
  | 0, s => s
  | r + 1, s => apR w r (ap1 s (nI (bN w (nI r))))
abbrev allB (w : Int64) (n : Nat) : Prop := ∀ i, i < n → 32 ≤ bN w (nI i) ∧ bN w (nI i) ≤ 126
def opTy (sg : xIv) (w : Int64) (x : Int32) : Int32 × xIv := if (1 ≤ x ∧ x ≤ 8) ∧ allB w x.toNatClampNeg then (if tpN sg + x.toNatClampNeg ≤ 160 then (nI (tpN sg + x.toNatClampNeg), apR w x.toNatClampNeg sg) else (-3, sg)) else (-1, sg)
theorem CX.tn (hC : CX iv lg sg tw) : tpN sg ≤ 160 ∧ iv 53 1 = nI (tpN sg) ∧ sg 79 12 = nI (tpN sg) := by
  obtain ⟨n, h1, h2, h3, -⟩ := hC.2.2.2.1
  have e : tpN sg = n := by unfold tpN; rw [h3, cl]
  rw [e]
  exact ⟨h1, h2, h3⟩
theorem ap1_k {x : Int32} : (∀ k, k ≠ 79 → k ≠ 86 → ap1 sg x k = sg k) ∧ ∀ j, j ≠ 12 → ap1 sg x 79 j = sg 79 j := by
  unfold ap1
  exact ⟨fun k a b => by rw [xu2_ne a, xu2_ne b], fun j hj => by rw [xu2_j hj, xu2_k (by decide)]⟩
theorem ap1_n {x : Int32} (h : tpN sg < 160) : tpN (ap1 sg x) = tpN sg + 1 := by
  show (ap1 sg x 79 12).toNatClampNeg = _
  unfold ap1
  rw [xu2_s, cl]
theorem CX.ap (hC : CX iv lg sg tw) {b : Nat} (h : tpN sg < 160) (hb : 32 ≤ b ∧ b ≤ 126) : CX (xu2 (xu2 iv 54 (tpN sg) (nI b)) 53 1 (nI (tpN sg + 1))) lg (ap1 sg (nI b)) tw := by
  refine hC.tape ap1_k.1 ap1_k.2 (fun k a b _ => by rw [xu2_ne a, xu2_ne b]) ?_
  obtain ⟨n, h1, h2, h3, h4, h5⟩ := hC.2.2.2.1
  have e : tpN sg = n := by unfold tpN; rw [h3, cl]
  unfold ap1
  rw [e] at h ⊢
  refine ⟨n + 1, by omega, xu2_s, xu2_s, fun j hj => ?_, fun j hj => ?_⟩
  · rw [xu2_k (k := 53) (by decide), xu2_k (k := 79) (by decide)]
    by_cases ej : j = n
    · rw [ej, xu2_s, xu2_s, nI_toInt (by omega)]
      exact ⟨rfl, by omega, by omega⟩
    · rw [xu2_j ej, xu2_j ej]
      exact h4 j (by omega)
  · rw [xu2_k (by decide), xu2_k (by decide)]
    exact h5 j hj
set_option maxRecDepth 100000 in
theorem s_byteOf {sh : xSh} {rf : xRf} {w : Int64} {x : Int32} (k : Q (some (.int (nI (bN w x)))) sh rf iv lg) : Sp L xs m_Tape_byteOf [.long w, .int x] sh rf iv lg Q := by
  refine sgo [] 100 ?_
  exact qv k (bN_c _)
theorem n8 {b : Nat} (hb : b < 256) : ((32 : Int32) ≤ nI b ∧ nI b ≤ (126 : Int32)) ↔ (32 ≤ b ∧ b ≤ 126) := by
  rw [il, il, nI_toInt (by omega), show (32 : Int32).toInt = 32 by decide, show (126 : Int32).toInt = 126 by decide]
  omega
set_option maxRecDepth 100000 in
theorem s_canHold_l {sh : xSh} {rf : xRf} {w : Int64} {n : Nat} (hn : n ≤ 8) (kt : allB w n → Q (some (.int 1)) sh rf iv lg) (kf : ¬ allB w n → Q (some (.int 0)) sh rf iv lg) : ∀ (r i : Nat) (x : Int32), i + r = n → x = nI i → allB w i → Wp L xs m_Tape_canHold 2 [some (.long w), none, some (.int (nI n)), some (.int x)] [] sh rf iv lg Q
  | 0, i, x, h, hx, ha => by
    obtain rfl : i = n := by omega
    subst hx
    refine wgo [2] 100 ?_
    exact And.intro (fun _ => And.intro (Or.inr rfl) (kt ha)) (fun z => absurd (il.mpr (Int.le_refl _)) z)
  | r + 1, i, x, h, hx, ha => by
    subst hx
    refine wgo [2] 100 ?_
    refine And.intro (fun z => absurd (nI_lt (show i < n by omega) (by omega)) (lenl z)) (fun _ => ?_)
    refine s_byteOf ?_
    refine s_within (fun h2 => ?_) (fun h2 => ?_)
    · refine c1 ?_
      refine s_canHold_l hn kt kf r (i + 1) _ (by omega) (nI_1 i) (fun j hj => ?_)
      by_cases e : j = i
      · rw [e]; exact (n8 bN_lt).mp h2
      · exact ha j (by omega)
    · refine c0 ?_
      exact And.intro (Or.inl rfl) (kf (fun z => h2 ((n8 bN_lt).mpr (z i (by omega)))))
theorem s_canHold {sh : xSh} {rf : xRf} {w : Int64} {n : Nat} (hn : n ≤ 8) (kt : allB w n → Q (some (.int 1)) sh rf iv lg) (kf : ¬ allB w n → Q (some (.int 0)) sh rf iv lg) : Sp L xs m_Tape_canHold [.long w, .int (nI n)] sh rf iv lg Q := by
  refine sgo [2] 100 ?_
  exact s_canHold_l hn kt kf n 0 _ (by omega) rfl (fun j hj => absurd hj (Nat.not_lt_zero j))
theorem dm1 (x : Int32) : x + (-1) = x - 1 := by rw [Int32.sub_eq_add_neg]
theorem m1lt : (nI 0 - 1) < 0 := by decide
set_option maxRecDepth 100000 in
theorem s_append_l {w : Int64} {n : Nat} (ha : allB w n) (hn : n ≤ 8) {T : Nat} : ∀ (r : Nat) (x : Int32) (iv sg : xIv), r ≤ n → x = nI r - 1 → tpN sg + r = T → T ≤ 160 → CX iv lg sg tw → (∀ iv', CX iv' lg (apR w r sg) tw → refS iv' lg iv lg → Q (some (.int (nI T))) SH RF iv' lg) → Wp L xs m_Tape_append 4 [some (.ref 53), some (.long w), none, some (.int (nI n)), some (.int x)] [] SH RF iv lg Q
  | 0, x, iv, sg, hr, hx, hT, h160, hC, k => by
    subst hx
    refine wgo [4] 100 ?_
    refine And.intro (fun _ => ?_) (fun z => absurd m1lt z)
    exact qv (k iv hC refS.rfl) (hC.tn.2.1.trans (by rw [show tpN sg = T by omega]))
  | r + 1, x, iv, sg, hr, hx, hT, h160, hC, k => by
    rw [nI_pred] at hx
    subst hx
    obtain ⟨a1, a2, a3⟩ := hC.tn
    have hv : vp_in (iv 53 1) 160 := by rw [a2]; exact vp_N (by omega)
    refine wgo [4] 100 ?_
    refine And.intro (fun z => absurd z (nI_pos (by omega))) (fun _ => ?_)
    refine s_byteOf ?_
    refine And.intro hv ?_
    have C1 := hC.ap (b := bN w (nI r)) (by omega) (ha r (by omega))
    have e : xu2 (xu2 iv 54 (iv 53 1).toNatClampNeg (vp_nar .char ((nI (bN w (nI r))).toUInt32 % 65536).toInt32)) 53 1 (xu2 iv 54 (iv 53 1).toNatClampNeg (vp_nar .char ((nI (bN w (nI r))).toUInt32 % 65536).toInt32) 53 1 + 1) = xu2 (xu2 iv 54 (tpN sg) (nI (bN w (nI r)))) 53 1 (nI (tpN sg + 1)) := by
      rw [xu2_k (k := 54) (k' := 53) (by decide), a2, cl, nI_1, bN_ch bN_lt]
    rw [← e] at C1
    exact s_append_l ha hn r _ _ (ap1 sg (nI (bN w (nI r)))) (by omega) (dm1 _) (by rw [ap1_n (by omega)]; omega) h160 C1 (fun iv' c1 c2 => k iv' c1 (c2.trans ((refS.rfl.up (by decide)).up (by decide))))
set_option maxRecDepth 100000 in
theorem c_type {w : Int64} {x : Int32} (hC : CX iv lg sg tw) (k : ∀ iv', CX iv' lg (opTy sg w x).2 tw → refS iv' lg iv lg → Q (some (.int (opTy sg w x).1)) SH RF iv' lg) : Sp L xs m_SR_type [.ref 0, .long w, .int x] SH RF iv lg Q := by
  have kb : ¬ ((1 ≤ x ∧ x ≤ 8) ∧ allB w x.toNatClampNeg) → Q (some (.int (-1))) SH RF iv lg := fun h => by
    have e : opTy sg w x = (-1, sg) := if_neg h
    rw [e] at k
    exact k iv hC refS.rfl
  obtain ⟨a1, a2, a3⟩ := hC.tn
  refine sgo [] 100 ?_
  refine s_within (fun h1 => ?_) (fun h1 => ?_)
  · refine b1 ?_
    obtain ⟨n, hn, rfl⟩ := nI_of2 (x := x) (M := 8) (n := 8) (by decide) (lenl (il.mpr (by have := il.mp h1.1; rw [tl1] at this; rw [tl0]; omega))) h1.2
    have en : (nI n).toNatClampNeg = n := cl
    refine s_canHold hn (fun h2 => ?_) (fun h2 => ?_)
    · refine c1 ?_
      refine And.intro (fun h3 => ?_) (fun h3 => ?_)
      · rw [a2, ni_a] at h3
        have h3 : tpN sg + n ≤ 160 := (nI_leI (b := 160) (by omega) (by decide)).mp h3
        have e : opTy sg w (nI n) = (nI (tpN sg + n), apR w n sg) := by unfold opTy; rw [en, if_pos ⟨h1, h2⟩, if_pos h3]
        rw [e] at k
        refine sgo [4] 100 ?_
        exact s_append_l h2 hn n _ iv sg (Nat.le_refl n) rfl rfl h3 hC k
      · rw [a2, ni_a] at h3
        have h3 : ¬ tpN sg + n ≤ 160 := fun z => h3 ((nI_leI (b := 160) (by omega) (by decide)).mpr z)
        have e : opTy sg w (nI n) = (-3, sg) := by unfold opTy; rw [en, if_pos ⟨h1, h2⟩, if_neg h3]
        rw [e] at k
        exact k iv hC refS.rfl
    · refine c0 ?_
      exact kb (fun z => h2 (by have := z.2; rw [en] at this; exact this))
  · refine b0 ?_
    exact kb (fun z => h1 z.1)
set_option maxRecDepth 100000 in
theorem m_type_2 {w : Int64} {n : Nat} (ha : allB w n) (hn : n ≤ 8) {T : Nat} : ∀ (r : Nat) (x : Int32) (iv sg : xIv), r ≤ n → x = nI r - 1 → tpN sg + r = T → T ≤ 160 → sg 79 12 = nI (tpN sg) → MV iv lg sg tw → (∀ iv', MV iv' lg (apR w r sg) tw → clsS iv' lg iv lg → Q (some (.int (nI T))) SH RF iv' lg) → Wp L xs m_Mo_type 41 [some (.ref 79), some (.long w), none, some (.int (nI n)), some (.int x)] [] SH RF iv lg Q
  | 0, x, iv, sg, hr, hx, hT, h160, h12, hM, k => by
    subst hx
    refine wgo [41] 100 ?_
    refine And.intro (fun _ => ?_) (fun z => absurd m1lt z)
    exact qv (k iv hM clsS.rfl) (hM.1.2.2.2.2.2.1.trans (h12.trans (by rw [show tpN sg = T by omega])))
  | r + 1, x, iv, sg, hr, hx, hT, h160, h12, hM, k => by
    rw [nI_pred] at hx
    subst hx
    have a2 : iv 79 12 = nI (tpN sg) := hM.1.2.2.2.2.2.1.trans h12
    have hv : vp_in (iv 79 12) 160 := by rw [a2]; exact vp_N (by omega)
    refine wgo [41] 100 ?_
    refine And.intro (fun z => absurd z (nI_pos (by omega))) (fun _ => ?_)
    refine And.intro hv ?_
    have M1 : MV (xu2 (xu2 iv 86 (tpN sg) (nI (bN w (nI r)))) 79 12 (nI (tpN sg + 1))) lg (ap1 sg (nI (bN w (nI r)))) tw := (hM.up _ _ _).up _ _ _
    have e : xu2 (xu2 iv 86 (iv 79 12).toNatClampNeg ((w >>> ((8 * nI r).toInt64 &&& 63)) &&& 255).toInt32) 79 12 (xu2 iv 86 (iv 79 12).toNatClampNeg ((w >>> ((8 * nI r).toInt64 &&& 63)) &&& 255).toInt32 79 12 + 1) = xu2 (xu2 iv 86 (tpN sg) (nI (bN w (nI r)))) 79 12 (nI (tpN sg + 1)) := by
      rw [xu2_k (k := 86) (k' := 79) (by decide), a2, cl, nI_1, bN_m, toI32_l (by have := bN_lt (w := w) (x := nI r); unfold bN at this; omega)]
      rfl
    rw [← e] at M1
    exact m_type_2 ha hn r _ _ (ap1 sg (nI (bN w (nI r)))) (by omega) (dm1 _) (by rw [ap1_n (by omega)]; omega) h160 (by rw [ap1_n (by omega)]; unfold ap1; rw [xu2_s]) M1 (fun iv' c1 c2 => k iv' c1 (c2.trans ((clsS.rfl.up (by decide)).up (by decide))))
set_option maxRecDepth 100000 in
theorem m_type_1 {w : Int64} {n : Nat} (hn : n ≤ 8) (kt : allB w n → ∀ o, Wp L xs m_Mo_type 29 [some (.ref 79), some (.long w), none, some (.int (nI n)), o] [] SH RF iv lg Q) (kf : ¬ allB w n → Q (some (.int (-1))) SH RF iv lg) : ∀ (r : Nat) (x : Int32), r ≤ n → x = nI r - 1 → (∀ i, r ≤ i → i < n → 32 ≤ bN w (nI i) ∧ bN w (nI i) ≤ 126) → Wp L xs m_Mo_type 12 [some (.ref 79), some (.long w), none, some (.int (nI n)), some (.int x)] [] SH RF iv lg Q
  | 0, x, hr, hx, ha => by
    subst hx
    refine wgo [12, 29] 100 ?_
    exact And.intro (fun _ => kt (fun i hi => ha i (Nat.zero_le _) hi) _) (fun z => absurd m1lt z)
  | r + 1, x, hr, hx, ha => by
    rw [nI_pred] at hx
    subst hx
    refine wgo [12, 29] 100 ?_
    refine And.intro (fun z => absurd z (nI_pos (by omega))) (fun _ => ?_)
    have e : (w >>> ((8 * nI r).toInt64 &&& 63)) &&& 255 = (nI (bN w (nI r))).toInt64 := bN_m _
    have hS : ∀ Q2 : xQ, (((32 : Int32) ≤ nI (bN w (nI r)) ∧ nI (bN w (nI r)) ≤ (126 : Int32)) → Q2 (some (.int 1)) SH RF iv lg) → (¬ ((32 : Int32) ≤ nI (bN w (nI r)) ∧ nI (bN w (nI r)) ≤ (126 : Int32)) → Q2 (some (.int 0)) SH RF iv lg) → Sp L xs m_Mo_in [.long ((w >>> ((8 * nI r).toInt64 &&& 63)) &&& 255), .long 32, .long 126] SH RF iv lg Q2 := fun Q2 k1 k2 => by
      rw [e]
      exact s_inI (a := 32) (b := 126) (kt := k1) (kf := k2)
    refine hS _ (fun h2 => ?_) (fun h2 => ?_)
    · refine c1 ?_
      refine m_type_1 hn kt kf r _ (by omega) (dm1 _) (fun i h3 h4 => ?_)
      by_cases e : i = r
      · rw [e]; exact (n8 bN_lt).mp h2
      · exact ha i (by omega) h4
    · refine c0 ?_
      exact kf (fun z => h2 ((n8 bN_lt).mpr (z r (by omega))))
set_option maxRecDepth 100000 in
theorem m_type {w : Int64} {x : Int32} (hT : tpN sg ≤ 160 ∧ sg 79 12 = nI (tpN sg)) (hM : MV iv lg sg tw) (k : ∀ iv', MV iv' lg (opTy sg w x).2 tw → clsS iv' lg iv lg → Q (some (.int (opTy sg w x).1)) SH RF iv' lg) : Sp L xs m_Mo_type [.ref 79, .long w, .int x] SH RF iv lg Q := by
  have kb : ¬ ((1 ≤ x ∧ x ≤ 8) ∧ allB w x.toNatClampNeg) → Q (some (.int (-1))) SH RF iv lg := fun h => by
    have e : opTy sg w x = (-1, sg) := if_neg h
    rw [e] at k
    exact k iv hM clsS.rfl
  have a2 : iv 79 12 = nI (tpN sg) := hM.1.2.2.2.2.2.1.trans hT.2
  refine sgo [12] 100 ?_
  refine s_inI (a := 1) (b := 8) (kt := fun h1 => ?_) (kf := fun h1 => ?_)
  · refine c1 ?_
    obtain ⟨n, hn, rfl⟩ := nI_of2 (x := x) (M := 8) (n := 8) (by decide) (lenl (il.mpr (by have := il.mp h1.1; rw [tl1] at this; rw [tl0]; omega))) h1.2
    have en : (nI n).toNatClampNeg = n := cl
    refine m_type_1 hn (fun h2 o => ?_) (fun h2 => kb (fun z => h2 (by have := z.2; rw [en] at this; exact this))) n _ (Nat.le_refl n) rfl (fun i h3 h4 => absurd h3 (by omega))
    refine wgo [41] 100 ?_
    refine And.intro (fun h3 => ?_) (fun h3 => ?_)
    · rw [a2, ni_a] at h3
      have h3 : tpN sg + n ≤ 160 := (nI_leI (b := 160) (by omega) (by decide)).mp h3
      have e : opTy sg w (nI n) = (nI (tpN sg + n), apR w n sg) := by unfold opTy; rw [en, if_pos ⟨h1, h2⟩, if_pos h3]
      rw [e] at k
      exact m_type_2 h2 hn n _ iv sg (Nat.le_refl n) rfl rfl h3 hT.2 hM k
    · rw [a2, ni_a] at h3
      have h3 : ¬ tpN sg + n ≤ 160 := fun z => h3 ((nI_leI (b := 160) (by omega) (by decide)).mpr z)
      have e : opTy sg w (nI n) = (-3, sg) := by unfold opTy; rw [en, if_pos ⟨h1, h2⟩, if_neg h3]
      rw [e] at k
      exact k iv hM clsS.rfl
  · refine c0 ?_
    exact kb (fun z => h1 z.1)
theorem apR_k (w : Int64) : ∀ (r : Nat) (s : xIv), (∀ k, k ≠ 79 → k ≠ 86 → apR w r s k = s k) ∧ ∀ j, j ≠ 12 → apR w r s 79 j = s 79 j
  | 0, s => ⟨fun _ _ _ => rfl, fun _ _ => rfl⟩
  | r + 1, s => by
    obtain ⟨h1, h2⟩ := apR_k w r (ap1 s (nI (bN w (nI r))))
    exact ⟨fun k a b => (h1 k a b).trans (ap1_k.1 k a b), fun j hj => (h2 j hj).trans (ap1_k.2 j hj)⟩
theorem e_type (w : Int64) (x : Int32) : EQ m_SR_type m_Mo_type [.long w, .int x] := by
  intro L xs t iv lg Q hI ht k
  obtain ⟨sg, tw, hC, hM, hG⟩ := hI
  refine c_type hC (fun iv1 C1 R1 => k _ iv1 lg (fun Q2 k2 => ?_))
  refine m_type ⟨hC.tn.1, hC.tn.2.2⟩ (MV_congr R1 hM) (fun iv2 M2 R2 => k2 _ _ ⟨_, _, CX_congr R2 C1, M2, ?_⟩)
  unfold opTy
  split
  · split
    · exact (hG.tape (apR_k w _ sg).1 (apR_k w _ sg).2).mono (Nat.le_succ t)
    · exact hG.mono (Nat.le_succ t)
  · exact hG.mono (Nat.le_succ t)
end TYPE
end
