-- ===== PART A: goes FIRST, ahead of the names: the tables' words, and 'selects' of the private methods out of them =====
/-- a private method of a class that the tables say can be made, by its rows of tables_1 -/
def lw_okq (q : MethodName × Nat) : Prop := (q.1.cls ≠ "java/lang/invoke/MethodHandle" ∧ q.1.cls ≠ "java/lang/invoke/VarHandle") ∧ Cond.instantiable q.1.cls q.2 ∈ tables_1 ∧ Cond.privateMethod q.1 ∈ tables_1 ∧ Cond.instanceMethod q.1 ∈ tables_1
theorem lw_p0 : lw_okq (⟨"GivenSearch$Tape", "isNext", "(C)Z"⟩, 4) := ⟨⟨by decide +kernel, by decide +kernel⟩, List.mem_of_getElem? (i := 27) (by decide +kernel), List.mem_of_getElem? (i := 458) (by decide +kernel), List.mem_of_getElem? (i := 459) (by decide +kernel)⟩
theorem lw_p1 : lw_okq (⟨"GivenSearch$Tape", "next", "()I"⟩, 4) := ⟨⟨by decide +kernel, by decide +kernel⟩, List.mem_of_getElem? (i := 27) (by decide +kernel), List.mem_of_getElem? (i := 462) (by decide +kernel), List.mem_of_getElem? (i := 463) (by decide +kernel)⟩
theorem lw_p2 : lw_okq (⟨"GivenSearch$Tape", "passed", "(C)Z"⟩, 4) := ⟨⟨by decide +kernel, by decide +kernel⟩, List.mem_of_getElem? (i := 27) (by decide +kernel), List.mem_of_getElem? (i := 478) (by decide +kernel), List.mem_of_getElem? (i := 479) (by decide +kernel)⟩
theorem lw_p3 : lw_okq (⟨"GivenSearch$Tape", "readGiven", "(LGivenSearch$Text;I)Z"⟩, 4) := ⟨⟨by decide +kernel, by decide +kernel⟩, List.mem_of_getElem? (i := 27) (by decide +kernel), List.mem_of_getElem? (i := 486) (by decide +kernel), List.mem_of_getElem? (i := 487) (by decide +kernel)⟩
theorem lw_p4 : lw_okq (⟨"GivenSearch$Tape", "readOne", "(LGivenSearch$Flat;)Z"⟩, 4) := ⟨⟨by decide +kernel, by decide +kernel⟩, List.mem_of_getElem? (i := 27) (by decide +kernel), List.mem_of_getElem? (i := 494) (by decide +kernel), List.mem_of_getElem? (i := 495) (by decide +kernel)⟩
theorem lw_p5 : lw_okq (⟨"GivenSearch$Tape", "isConNext", "()Z"⟩, 4) := ⟨⟨by decide +kernel, by decide +kernel⟩, List.mem_of_getElem? (i := 27) (by decide +kernel), List.mem_of_getElem? (i := 502) (by decide +kernel), List.mem_of_getElem? (i := 503) (by decide +kernel)⟩
theorem lw_p6 : lw_okq (⟨"GivenSearch$Tape", "isVarNext", "()Z"⟩, 4) := ⟨⟨by decide +kernel, by decide +kernel⟩, List.mem_of_getElem? (i := 27) (by decide +kernel), List.mem_of_getElem? (i := 506) (by decide +kernel), List.mem_of_getElem? (i := 507) (by decide +kernel)⟩
theorem lw_p7 : lw_okq (⟨"GivenSearch$Tape", "close", "(I)I"⟩, 4) := ⟨⟨by decide +kernel, by decide +kernel⟩, List.mem_of_getElem? (i := 27) (by decide +kernel), List.mem_of_getElem? (i := 511) (by decide +kernel), List.mem_of_getElem? (i := 512) (by decide +kernel)⟩
theorem lw_p8 : lw_okq (⟨"GivenSearch$Tape", "nextPart", "(LGivenSearch$Flat;I)Z"⟩, 4) := ⟨⟨by decide +kernel, by decide +kernel⟩, List.mem_of_getElem? (i := 27) (by decide +kernel), List.mem_of_getElem? (i := 515) (by decide +kernel), List.mem_of_getElem? (i := 516) (by decide +kernel)⟩
theorem lw_p9 : lw_okq (⟨"GivenSearch$Flat", "length", "()I"⟩, 2) := ⟨⟨by decide +kernel, by decide +kernel⟩, List.mem_of_getElem? (i := 50) (by decide +kernel), List.mem_of_getElem? (i := 534) (by decide +kernel), List.mem_of_getElem? (i := 535) (by decide +kernel)⟩
theorem lw_p10 : lw_okq (⟨"GivenSearch$Match", "put", "(ILGivenSearch$Flat;I)Z"⟩, 1) := ⟨⟨by decide +kernel, by decide +kernel⟩, List.mem_of_getElem? (i := 98) (by decide +kernel), List.mem_of_getElem? (i := 558) (by decide +kernel), List.mem_of_getElem? (i := 559) (by decide +kernel)⟩
theorem lw_p11 : lw_okq (⟨"GivenSearch$Terms", "unknown", "(I)I"⟩, 15) := ⟨⟨by decide +kernel, by decide +kernel⟩, List.mem_of_getElem? (i := 158) (by decide +kernel), List.mem_of_getElem? (i := 669) (by decide +kernel), List.mem_of_getElem? (i := 670) (by decide +kernel)⟩
theorem lw_p12 : lw_okq (⟨"GivenSearch$Terms", "make", "(I)I"⟩, 15) := ⟨⟨by decide +kernel, by decide +kernel⟩, List.mem_of_getElem? (i := 158) (by decide +kernel), List.mem_of_getElem? (i := 673) (by decide +kernel), List.mem_of_getElem? (i := 674) (by decide +kernel)⟩
theorem lw_p13 : lw_okq (⟨"GivenSearch$Terms", "setPart", "(III)V"⟩, 15) := ⟨⟨by decide +kernel, by decide +kernel⟩, List.mem_of_getElem? (i := 158) (by decide +kernel), List.mem_of_getElem? (i := 696) (by decide +kernel), List.mem_of_getElem? (i := 697) (by decide +kernel)⟩
theorem lw_p14 : lw_okq (⟨"GivenSearch$Terms", "popOpen", "()I"⟩, 15) := ⟨⟨by decide +kernel, by decide +kernel⟩, List.mem_of_getElem? (i := 158) (by decide +kernel), List.mem_of_getElem? (i := 701) (by decide +kernel), List.mem_of_getElem? (i := 702) (by decide +kernel)⟩
theorem lw_p15 : lw_okq (⟨"GivenSearch$Terms", "pushOpen", "(I)V"⟩, 15) := ⟨⟨by decide +kernel, by decide +kernel⟩, List.mem_of_getElem? (i := 158) (by decide +kernel), List.mem_of_getElem? (i := 705) (by decide +kernel), List.mem_of_getElem? (i := 706) (by decide +kernel)⟩
def lw_privs_1 : List (MethodName × Nat) := [(⟨"GivenSearch$Tape", "isNext", "(C)Z"⟩, 4), (⟨"GivenSearch$Tape", "next", "()I"⟩, 4), (⟨"GivenSearch$Tape", "passed", "(C)Z"⟩, 4), (⟨"GivenSearch$Tape", "readGiven", "(LGivenSearch$Text;I)Z"⟩, 4), (⟨"GivenSearch$Tape", "readOne", "(LGivenSearch$Flat;)Z"⟩, 4), (⟨"GivenSearch$Tape", "isConNext", "()Z"⟩, 4), (⟨"GivenSearch$Tape", "isVarNext", "()Z"⟩, 4), (⟨"GivenSearch$Tape", "close", "(I)I"⟩, 4), (⟨"GivenSearch$Tape", "nextPart", "(LGivenSearch$Flat;I)Z"⟩, 4), (⟨"GivenSearch$Flat", "length", "()I"⟩, 2), (⟨"GivenSearch$Match", "put", "(ILGivenSearch$Flat;I)Z"⟩, 1), (⟨"GivenSearch$Terms", "unknown", "(I)I"⟩, 15), (⟨"GivenSearch$Terms", "make", "(I)I"⟩, 15), (⟨"GivenSearch$Terms", "setPart", "(III)V"⟩, 15), (⟨"GivenSearch$Terms", "popOpen", "()I"⟩, 15), (⟨"GivenSearch$Terms", "pushOpen", "(I)V"⟩, 15)]
theorem lw_r1 : ∀ q ∈ lw_privs_1, lw_okq q := List.forall_mem_cons.mpr ⟨lw_p0, List.forall_mem_cons.mpr ⟨lw_p1, List.forall_mem_cons.mpr ⟨lw_p2, List.forall_mem_cons.mpr ⟨lw_p3, List.forall_mem_cons.mpr ⟨lw_p4, List.forall_mem_cons.mpr ⟨lw_p5, List.forall_mem_cons.mpr ⟨lw_p6, List.forall_mem_cons.mpr ⟨lw_p7, List.forall_mem_cons.mpr ⟨lw_p8, List.forall_mem_cons.mpr ⟨lw_p9, List.forall_mem_cons.mpr ⟨lw_p10, List.forall_mem_cons.mpr ⟨lw_p11, List.forall_mem_cons.mpr ⟨lw_p12, List.forall_mem_cons.mpr ⟨lw_p13, List.forall_mem_cons.mpr ⟨lw_p14, List.forall_mem_cons.mpr ⟨lw_p15, fun _ h => absurd h List.not_mem_nil⟩⟩⟩⟩⟩⟩⟩⟩⟩⟩⟩⟩⟩⟩⟩⟩
theorem lw_p16 : lw_okq (⟨"GivenSearch$Terms", "pushPair", "(II)V"⟩, 15) := ⟨⟨by decide +kernel, by decide +kernel⟩, List.mem_of_getElem? (i := 158) (by decide +kernel), List.mem_of_getElem? (i := 713) (by decide +kernel), List.mem_of_getElem? (i := 714) (by decide +kernel)⟩
theorem lw_p17 : lw_okq (⟨"GivenSearch$Terms", "solved", "(I)I"⟩, 15) := ⟨⟨by decide +kernel, by decide +kernel⟩, List.mem_of_getElem? (i := 158) (by decide +kernel), List.mem_of_getElem? (i := 718) (by decide +kernel), List.mem_of_getElem? (i := 719) (by decide +kernel)⟩
theorem lw_p18 : lw_okq (⟨"GivenSearch$Terms", "signOf", "(I)I"⟩, 15) := ⟨⟨by decide +kernel, by decide +kernel⟩, List.mem_of_getElem? (i := 158) (by decide +kernel), List.mem_of_getElem? (i := 722) (by decide +kernel), List.mem_of_getElem? (i := 723) (by decide +kernel)⟩
theorem lw_p19 : lw_okq (⟨"GivenSearch$Terms", "partOf", "(II)I"⟩, 15) := ⟨⟨by decide +kernel, by decide +kernel⟩, List.mem_of_getElem? (i := 158) (by decide +kernel), List.mem_of_getElem? (i := 726) (by decide +kernel), List.mem_of_getElem? (i := 727) (by decide +kernel)⟩
theorem lw_p20 : lw_okq (⟨"GivenSearch$Terms", "isUnknown", "(I)Z"⟩, 15) := ⟨⟨by decide +kernel, by decide +kernel⟩, List.mem_of_getElem? (i := 158) (by decide +kernel), List.mem_of_getElem? (i := 730) (by decide +kernel), List.mem_of_getElem? (i := 731) (by decide +kernel)⟩
theorem lw_p21 : lw_okq (⟨"GivenSearch$Terms", "standsIn", "(II)Z"⟩, 15) := ⟨⟨by decide +kernel, by decide +kernel⟩, List.mem_of_getElem? (i := 158) (by decide +kernel), List.mem_of_getElem? (i := 734) (by decide +kernel), List.mem_of_getElem? (i := 735) (by decide +kernel)⟩
theorem lw_p22 : lw_okq (⟨"GivenSearch$Terms", "list", "(I)V"⟩, 15) := ⟨⟨by decide +kernel, by decide +kernel⟩, List.mem_of_getElem? (i := 158) (by decide +kernel), List.mem_of_getElem? (i := 738) (by decide +kernel), List.mem_of_getElem? (i := 739) (by decide +kernel)⟩
theorem lw_p23 : lw_okq (⟨"GivenSearch$Terms", "isListed", "(I)Z"⟩, 15) := ⟨⟨by decide +kernel, by decide +kernel⟩, List.mem_of_getElem? (i := 158) (by decide +kernel), List.mem_of_getElem? (i := 742) (by decide +kernel), List.mem_of_getElem? (i := 743) (by decide +kernel)⟩
theorem lw_p24 : lw_okq (⟨"GivenSearch$Terms", "setListed", "(II)V"⟩, 15) := ⟨⟨by decide +kernel, by decide +kernel⟩, List.mem_of_getElem? (i := 158) (by decide +kernel), List.mem_of_getElem? (i := 746) (by decide +kernel), List.mem_of_getElem? (i := 747) (by decide +kernel)⟩
theorem lw_p25 : lw_okq (⟨"GivenSearch$Terms", "put", "(II)V"⟩, 15) := ⟨⟨by decide +kernel, by decide +kernel⟩, List.mem_of_getElem? (i := 158) (by decide +kernel), List.mem_of_getElem? (i := 750) (by decide +kernel), List.mem_of_getElem? (i := 751) (by decide +kernel)⟩
theorem lw_p26 : lw_okq (⟨"GivenSearch$Terms", "pushPairsOfParts", "(II)V"⟩, 15) := ⟨⟨by decide +kernel, by decide +kernel⟩, List.mem_of_getElem? (i := 158) (by decide +kernel), List.mem_of_getElem? (i := 754) (by decide +kernel), List.mem_of_getElem? (i := 755) (by decide +kernel)⟩
theorem lw_p27 : lw_okq (⟨"GivenSearch", "hasType", "(I)Z"⟩, 18) := ⟨⟨by decide +kernel, by decide +kernel⟩, List.mem_of_getElem? (i := 19) (by decide +kernel), List.mem_of_getElem? (i := 767) (by decide +kernel), List.mem_of_getElem? (i := 768) (by decide +kernel)⟩
theorem lw_p28 : lw_okq (⟨"GivenSearch$Terms", "nameOf", "(I)I"⟩, 15) := ⟨⟨by decide +kernel, by decide +kernel⟩, List.mem_of_getElem? (i := 158) (by decide +kernel), List.mem_of_getElem? (i := 793) (by decide +kernel), List.mem_of_getElem? (i := 794) (by decide +kernel)⟩
theorem lw_p29 : lw_okq (⟨"GivenSearch$Terms", "pushParts", "(I)V"⟩, 15) := ⟨⟨by decide +kernel, by decide +kernel⟩, List.mem_of_getElem? (i := 158) (by decide +kernel), List.mem_of_getElem? (i := 798) (by decide +kernel), List.mem_of_getElem? (i := 799) (by decide +kernel)⟩
theorem lw_p30 : lw_okq (⟨"GivenSearch", "writeFlat", "()I"⟩, 18) := ⟨⟨by decide +kernel, by decide +kernel⟩, List.mem_of_getElem? (i := 19) (by decide +kernel), List.mem_of_getElem? (i := 811) (by decide +kernel), List.mem_of_getElem? (i := 812) (by decide +kernel)⟩
theorem lw_p31 : lw_okq (⟨"GivenSearch$Written", "addSign", "(I)V"⟩, 3) := ⟨⟨by decide +kernel, by decide +kernel⟩, List.mem_of_getElem? (i := 75) (by decide +kernel), List.mem_of_getElem? (i := 824) (by decide +kernel), List.mem_of_getElem? (i := 825) (by decide +kernel)⟩
def lw_privs_2 : List (MethodName × Nat) := [(⟨"GivenSearch$Terms", "pushPair", "(II)V"⟩, 15), (⟨"GivenSearch$Terms", "solved", "(I)I"⟩, 15), (⟨"GivenSearch$Terms", "signOf", "(I)I"⟩, 15), (⟨"GivenSearch$Terms", "partOf", "(II)I"⟩, 15), (⟨"GivenSearch$Terms", "isUnknown", "(I)Z"⟩, 15), (⟨"GivenSearch$Terms", "standsIn", "(II)Z"⟩, 15), (⟨"GivenSearch$Terms", "list", "(I)V"⟩, 15), (⟨"GivenSearch$Terms", "isListed", "(I)Z"⟩, 15), (⟨"GivenSearch$Terms", "setListed", "(II)V"⟩, 15), (⟨"GivenSearch$Terms", "put", "(II)V"⟩, 15), (⟨"GivenSearch$Terms", "pushPairsOfParts", "(II)V"⟩, 15), (⟨"GivenSearch", "hasType", "(I)Z"⟩, 18), (⟨"GivenSearch$Terms", "nameOf", "(I)I"⟩, 15), (⟨"GivenSearch$Terms", "pushParts", "(I)V"⟩, 15), (⟨"GivenSearch", "writeFlat", "()I"⟩, 18), (⟨"GivenSearch$Written", "addSign", "(I)V"⟩, 3)]
theorem lw_r2 : ∀ q ∈ lw_privs_2, lw_okq q := List.forall_mem_cons.mpr ⟨lw_p16, List.forall_mem_cons.mpr ⟨lw_p17, List.forall_mem_cons.mpr ⟨lw_p18, List.forall_mem_cons.mpr ⟨lw_p19, List.forall_mem_cons.mpr ⟨lw_p20, List.forall_mem_cons.mpr ⟨lw_p21, List.forall_mem_cons.mpr ⟨lw_p22, List.forall_mem_cons.mpr ⟨lw_p23, List.forall_mem_cons.mpr ⟨lw_p24, List.forall_mem_cons.mpr ⟨lw_p25, List.forall_mem_cons.mpr ⟨lw_p26, List.forall_mem_cons.mpr ⟨lw_p27, List.forall_mem_cons.mpr ⟨lw_p28, List.forall_mem_cons.mpr ⟨lw_p29, List.forall_mem_cons.mpr ⟨lw_p30, List.forall_mem_cons.mpr ⟨lw_p31, fun _ h => absurd h List.not_mem_nil⟩⟩⟩⟩⟩⟩⟩⟩⟩⟩⟩⟩⟩⟩⟩⟩
theorem lw_p32 : lw_okq (⟨"GivenSearch$Written", "add", "(I)V"⟩, 3) := ⟨⟨by decide +kernel, by decide +kernel⟩, List.mem_of_getElem? (i := 75) (by decide +kernel), List.mem_of_getElem? (i := 828) (by decide +kernel), List.mem_of_getElem? (i := 829) (by decide +kernel)⟩
theorem lw_p33 : lw_okq (⟨"GivenSearch$Written", "addNumber", "(I)V"⟩, 3) := ⟨⟨by decide +kernel, by decide +kernel⟩, List.mem_of_getElem? (i := 75) (by decide +kernel), List.mem_of_getElem? (i := 832) (by decide +kernel), List.mem_of_getElem? (i := 833) (by decide +kernel)⟩
theorem lw_p34 : lw_okq (⟨"GivenSearch$Written", "close", "(I)I"⟩, 3) := ⟨⟨by decide +kernel, by decide +kernel⟩, List.mem_of_getElem? (i := 75) (by decide +kernel), List.mem_of_getElem? (i := 837) (by decide +kernel), List.mem_of_getElem? (i := 838) (by decide +kernel)⟩
theorem lw_p35 : lw_okq (⟨"GivenSearch$Search", "askGoal", "(IIII)I"⟩, 20) := ⟨⟨by decide +kernel, by decide +kernel⟩, List.mem_of_getElem? (i := 152) (by decide +kernel), List.mem_of_getElem? (i := 854) (by decide +kernel), List.mem_of_getElem? (i := 855) (by decide +kernel)⟩
theorem lw_p36 : lw_okq (⟨"GivenSearch$Search", "mayAsk", "(II)Z"⟩, 20) := ⟨⟨by decide +kernel, by decide +kernel⟩, List.mem_of_getElem? (i := 152) (by decide +kernel), List.mem_of_getElem? (i := 858) (by decide +kernel), List.mem_of_getElem? (i := 859) (by decide +kernel)⟩
theorem lw_p37 : lw_okq (⟨"GivenSearch$Search", "addToPlan", "(III)I"⟩, 20) := ⟨⟨by decide +kernel, by decide +kernel⟩, List.mem_of_getElem? (i := 152) (by decide +kernel), List.mem_of_getElem? (i := 863) (by decide +kernel), List.mem_of_getElem? (i := 864) (by decide +kernel)⟩
theorem lw_p38 : lw_okq (⟨"GivenSearch$Search", "meet", "(II)I"⟩, 20) := ⟨⟨by decide +kernel, by decide +kernel⟩, List.mem_of_getElem? (i := 152) (by decide +kernel), List.mem_of_getElem? (i := 889) (by decide +kernel), List.mem_of_getElem? (i := 890) (by decide +kernel)⟩
theorem lw_p39 : lw_okq (⟨"GivenSearch$Search", "seek", "(III)I"⟩, 20) := ⟨⟨by decide +kernel, by decide +kernel⟩, List.mem_of_getElem? (i := 152) (by decide +kernel), List.mem_of_getElem? (i := 897) (by decide +kernel), List.mem_of_getElem? (i := 898) (by decide +kernel)⟩
theorem lw_p40 : lw_okq (⟨"GivenSearch$Search", "seekAt", "(IIII)I"⟩, 20) := ⟨⟨by decide +kernel, by decide +kernel⟩, List.mem_of_getElem? (i := 152) (by decide +kernel), List.mem_of_getElem? (i := 901) (by decide +kernel), List.mem_of_getElem? (i := 902) (by decide +kernel)⟩
theorem lw_p41 : lw_okq (⟨"GivenSearch$Text", "hasMoreSpecial", "(II)Z"⟩, 10) := ⟨⟨by decide +kernel, by decide +kernel⟩, List.mem_of_getElem? (i := 92) (by decide +kernel), List.mem_of_getElem? (i := 926) (by decide +kernel), List.mem_of_getElem? (i := 927) (by decide +kernel)⟩
theorem lw_p42 : lw_okq (⟨"GivenSearch$Search", "tryBest", "(IIII)I"⟩, 20) := ⟨⟨by decide +kernel, by decide +kernel⟩, List.mem_of_getElem? (i := 152) (by decide +kernel), List.mem_of_getElem? (i := 931) (by decide +kernel), List.mem_of_getElem? (i := 932) (by decide +kernel)⟩
theorem lw_p43 : lw_okq (⟨"GivenSearch$Search", "isCut", "(III)Z"⟩, 20) := ⟨⟨by decide +kernel, by decide +kernel⟩, List.mem_of_getElem? (i := 152) (by decide +kernel), List.mem_of_getElem? (i := 935) (by decide +kernel), List.mem_of_getElem? (i := 936) (by decide +kernel)⟩
theorem lw_p44 : lw_okq (⟨"GivenSearch$Search", "tryGiven", "(IIII)I"⟩, 20) := ⟨⟨by decide +kernel, by decide +kernel⟩, List.mem_of_getElem? (i := 152) (by decide +kernel), List.mem_of_getElem? (i := 940) (by decide +kernel), List.mem_of_getElem? (i := 941) (by decide +kernel)⟩
theorem lw_p45 : lw_okq (⟨"GivenSearch$Search", "buildGiven", "(II)I"⟩, 20) := ⟨⟨by decide +kernel, by decide +kernel⟩, List.mem_of_getElem? (i := 152) (by decide +kernel), List.mem_of_getElem? (i := 944) (by decide +kernel), List.mem_of_getElem? (i := 945) (by decide +kernel)⟩
theorem lw_p46 : lw_okq (⟨"GivenSearch$Search", "tellBoth", "(III)V"⟩, 20) := ⟨⟨by decide +kernel, by decide +kernel⟩, List.mem_of_getElem? (i := 152) (by decide +kernel), List.mem_of_getElem? (i := 958) (by decide +kernel), List.mem_of_getElem? (i := 959) (by decide +kernel)⟩
theorem lw_p47 : lw_okq (⟨"GivenSearch$Search", "remember", "(III)V"⟩, 20) := ⟨⟨by decide +kernel, by decide +kernel⟩, List.mem_of_getElem? (i := 152) (by decide +kernel), List.mem_of_getElem? (i := 967) (by decide +kernel), List.mem_of_getElem? (i := 968) (by decide +kernel)⟩
def lw_privs_3 : List (MethodName × Nat) := [(⟨"GivenSearch$Written", "add", "(I)V"⟩, 3), (⟨"GivenSearch$Written", "addNumber", "(I)V"⟩, 3), (⟨"GivenSearch$Written", "close", "(I)I"⟩, 3), (⟨"GivenSearch$Search", "askGoal", "(IIII)I"⟩, 20), (⟨"GivenSearch$Search", "mayAsk", "(II)Z"⟩, 20), (⟨"GivenSearch$Search", "addToPlan", "(III)I"⟩, 20), (⟨"GivenSearch$Search", "meet", "(II)I"⟩, 20), (⟨"GivenSearch$Search", "seek", "(III)I"⟩, 20), (⟨"GivenSearch$Search", "seekAt", "(IIII)I"⟩, 20), (⟨"GivenSearch$Text", "hasMoreSpecial", "(II)Z"⟩, 10), (⟨"GivenSearch$Search", "tryBest", "(IIII)I"⟩, 20), (⟨"GivenSearch$Search", "isCut", "(III)Z"⟩, 20), (⟨"GivenSearch$Search", "tryGiven", "(IIII)I"⟩, 20), (⟨"GivenSearch$Search", "buildGiven", "(II)I"⟩, 20), (⟨"GivenSearch$Search", "tellBoth", "(III)V"⟩, 20), (⟨"GivenSearch$Search", "remember", "(III)V"⟩, 20)]
theorem lw_r3 : ∀ q ∈ lw_privs_3, lw_okq q := List.forall_mem_cons.mpr ⟨lw_p32, List.forall_mem_cons.mpr ⟨lw_p33, List.forall_mem_cons.mpr ⟨lw_p34, List.forall_mem_cons.mpr ⟨lw_p35, List.forall_mem_cons.mpr ⟨lw_p36, List.forall_mem_cons.mpr ⟨lw_p37, List.forall_mem_cons.mpr ⟨lw_p38, List.forall_mem_cons.mpr ⟨lw_p39, List.forall_mem_cons.mpr ⟨lw_p40, List.forall_mem_cons.mpr ⟨lw_p41, List.forall_mem_cons.mpr ⟨lw_p42, List.forall_mem_cons.mpr ⟨lw_p43, List.forall_mem_cons.mpr ⟨lw_p44, List.forall_mem_cons.mpr ⟨lw_p45, List.forall_mem_cons.mpr ⟨lw_p46, List.forall_mem_cons.mpr ⟨lw_p47, fun _ h => absurd h List.not_mem_nil⟩⟩⟩⟩⟩⟩⟩⟩⟩⟩⟩⟩⟩⟩⟩⟩
theorem lw_p48 : lw_okq (⟨"GivenSearch$Forest", "addSign", "(I)V"⟩, 3) := ⟨⟨by decide +kernel, by decide +kernel⟩, List.mem_of_getElem? (i := 219) (by decide +kernel), List.mem_of_getElem? (i := 995) (by decide +kernel), List.mem_of_getElem? (i := 996) (by decide +kernel)⟩
theorem lw_p49 : lw_okq (⟨"GivenSearch$Search", "plantRemembered", "(ILGivenSearch$Forest;III)V"⟩, 20) := ⟨⟨by decide +kernel, by decide +kernel⟩, List.mem_of_getElem? (i := 152) (by decide +kernel), List.mem_of_getElem? (i := 1001) (by decide +kernel), List.mem_of_getElem? (i := 1002) (by decide +kernel)⟩
theorem lw_p50 : lw_okq (⟨"GivenSearch", "keepAsking", "()V"⟩, 18) := ⟨⟨by decide +kernel, by decide +kernel⟩, List.mem_of_getElem? (i := 19) (by decide +kernel), List.mem_of_getElem? (i := 1015) (by decide +kernel), List.mem_of_getElem? (i := 1016) (by decide +kernel)⟩
theorem lw_p51 : lw_okq (⟨"GivenSearch$Written", "addBetween", "(II)V"⟩, 3) := ⟨⟨by decide +kernel, by decide +kernel⟩, List.mem_of_getElem? (i := 75) (by decide +kernel), List.mem_of_getElem? (i := 1062) (by decide +kernel), List.mem_of_getElem? (i := 1063) (by decide +kernel)⟩
theorem lw_p52 : lw_okq (⟨"GivenSearch$Written", "addEnds", "(I)V"⟩, 3) := ⟨⟨by decide +kernel, by decide +kernel⟩, List.mem_of_getElem? (i := 75) (by decide +kernel), List.mem_of_getElem? (i := 1066) (by decide +kernel), List.mem_of_getElem? (i := 1067) (by decide +kernel)⟩
theorem lw_p53 : lw_okq (⟨"GivenSearch$Search", "count", "(III)I"⟩, 20) := ⟨⟨by decide +kernel, by decide +kernel⟩, List.mem_of_getElem? (i := 152) (by decide +kernel), List.mem_of_getElem? (i := 1127) (by decide +kernel), List.mem_of_getElem? (i := 1128) (by decide +kernel)⟩
theorem lw_p54 : lw_okq (⟨"GivenSearch$Search", "countAnew", "(III)I"⟩, 20) := ⟨⟨by decide +kernel, by decide +kernel⟩, List.mem_of_getElem? (i := 152) (by decide +kernel), List.mem_of_getElem? (i := 1131) (by decide +kernel), List.mem_of_getElem? (i := 1132) (by decide +kernel)⟩
theorem lw_p55 : lw_okq (⟨"GivenSearch$Search", "countBy", "(IIII)J"⟩, 20) := ⟨⟨by decide +kernel, by decide +kernel⟩, List.mem_of_getElem? (i := 152) (by decide +kernel), List.mem_of_getElem? (i := 1136) (by decide +kernel), List.mem_of_getElem? (i := 1137) (by decide +kernel)⟩
theorem lw_p56 : lw_okq (⟨"GivenSearchModel", "four", "(I)V"⟩, 144) := ⟨⟨by decide +kernel, by decide +kernel⟩, List.mem_of_getElem? (i := 1161) (by decide +kernel), List.mem_of_getElem? (i := 1159) (by decide +kernel), List.mem_of_getElem? (i := 1160) (by decide +kernel)⟩
theorem lw_p57 : lw_okq (⟨"GivenSearchModel", "readScopes", "()Z"⟩, 144) := ⟨⟨by decide +kernel, by decide +kernel⟩, List.mem_of_getElem? (i := 1161) (by decide +kernel), List.mem_of_getElem? (i := 1175) (by decide +kernel), List.mem_of_getElem? (i := 1176) (by decide +kernel)⟩
theorem lw_p58 : lw_okq (⟨"GivenSearchModel", "beginText", "()V"⟩, 144) := ⟨⟨by decide +kernel, by decide +kernel⟩, List.mem_of_getElem? (i := 1161) (by decide +kernel), List.mem_of_getElem? (i := 1179) (by decide +kernel), List.mem_of_getElem? (i := 1180) (by decide +kernel)⟩
theorem lw_p59 : lw_okq (⟨"GivenSearchModel", "openScope", "()Z"⟩, 144) := ⟨⟨by decide +kernel, by decide +kernel⟩, List.mem_of_getElem? (i := 1161) (by decide +kernel), List.mem_of_getElem? (i := 1183) (by decide +kernel), List.mem_of_getElem? (i := 1184) (by decide +kernel)⟩
theorem lw_p60 : lw_okq (⟨"GivenSearchModel", "here", "()I"⟩, 144) := ⟨⟨by decide +kernel, by decide +kernel⟩, List.mem_of_getElem? (i := 1161) (by decide +kernel), List.mem_of_getElem? (i := 1187) (by decide +kernel), List.mem_of_getElem? (i := 1188) (by decide +kernel)⟩
theorem lw_p61 : lw_okq (⟨"GivenSearchModel", "fails", "(I)Z"⟩, 144) := ⟨⟨by decide +kernel, by decide +kernel⟩, List.mem_of_getElem? (i := 1161) (by decide +kernel), List.mem_of_getElem? (i := 1191) (by decide +kernel), List.mem_of_getElem? (i := 1192) (by decide +kernel)⟩
theorem lw_p62 : lw_okq (⟨"GivenSearchModel", "readGiven", "()Z"⟩, 144) := ⟨⟨by decide +kernel, by decide +kernel⟩, List.mem_of_getElem? (i := 1161) (by decide +kernel), List.mem_of_getElem? (i := 1195) (by decide +kernel), List.mem_of_getElem? (i := 1196) (by decide +kernel)⟩
theorem lw_p63 : lw_okq (⟨"GivenSearchModel", "readType", "()Z"⟩, 144) := ⟨⟨by decide +kernel, by decide +kernel⟩, List.mem_of_getElem? (i := 1161) (by decide +kernel), List.mem_of_getElem? (i := 1199) (by decide +kernel), List.mem_of_getElem? (i := 1200) (by decide +kernel)⟩
def lw_privs_4 : List (MethodName × Nat) := [(⟨"GivenSearch$Forest", "addSign", "(I)V"⟩, 3), (⟨"GivenSearch$Search", "plantRemembered", "(ILGivenSearch$Forest;III)V"⟩, 20), (⟨"GivenSearch", "keepAsking", "()V"⟩, 18), (⟨"GivenSearch$Written", "addBetween", "(II)V"⟩, 3), (⟨"GivenSearch$Written", "addEnds", "(I)V"⟩, 3), (⟨"GivenSearch$Search", "count", "(III)I"⟩, 20), (⟨"GivenSearch$Search", "countAnew", "(III)I"⟩, 20), (⟨"GivenSearch$Search", "countBy", "(IIII)J"⟩, 20), (⟨"GivenSearchModel", "four", "(I)V"⟩, 144), (⟨"GivenSearchModel", "readScopes", "()Z"⟩, 144), (⟨"GivenSearchModel", "beginText", "()V"⟩, 144), (⟨"GivenSearchModel", "openScope", "()Z"⟩, 144), (⟨"GivenSearchModel", "here", "()I"⟩, 144), (⟨"GivenSearchModel", "fails", "(I)Z"⟩, 144), (⟨"GivenSearchModel", "readGiven", "()Z"⟩, 144), (⟨"GivenSearchModel", "readType", "()Z"⟩, 144)]
theorem lw_r4 : ∀ q ∈ lw_privs_4, lw_okq q := List.forall_mem_cons.mpr ⟨lw_p48, List.forall_mem_cons.mpr ⟨lw_p49, List.forall_mem_cons.mpr ⟨lw_p50, List.forall_mem_cons.mpr ⟨lw_p51, List.forall_mem_cons.mpr ⟨lw_p52, List.forall_mem_cons.mpr ⟨lw_p53, List.forall_mem_cons.mpr ⟨lw_p54, List.forall_mem_cons.mpr ⟨lw_p55, List.forall_mem_cons.mpr ⟨lw_p56, List.forall_mem_cons.mpr ⟨lw_p57, List.forall_mem_cons.mpr ⟨lw_p58, List.forall_mem_cons.mpr ⟨lw_p59, List.forall_mem_cons.mpr ⟨lw_p60, List.forall_mem_cons.mpr ⟨lw_p61, List.forall_mem_cons.mpr ⟨lw_p62, List.forall_mem_cons.mpr ⟨lw_p63, fun _ h => absurd h List.not_mem_nil⟩⟩⟩⟩⟩⟩⟩⟩⟩⟩⟩⟩⟩⟩⟩⟩
theorem lw_p64 : lw_okq (⟨"GivenSearchModel", "hasMore", "(Z)Z"⟩, 144) := ⟨⟨by decide +kernel, by decide +kernel⟩, List.mem_of_getElem? (i := 1161) (by decide +kernel), List.mem_of_getElem? (i := 1215) (by decide +kernel), List.mem_of_getElem? (i := 1216) (by decide +kernel)⟩
theorem lw_p65 : lw_okq (⟨"GivenSearchModel", "layType", "(I)V"⟩, 144) := ⟨⟨by decide +kernel, by decide +kernel⟩, List.mem_of_getElem? (i := 1161) (by decide +kernel), List.mem_of_getElem? (i := 1219) (by decide +kernel), List.mem_of_getElem? (i := 1220) (by decide +kernel)⟩
theorem lw_p66 : lw_okq (⟨"GivenSearchModel", "takes", "(I)Z"⟩, 144) := ⟨⟨by decide +kernel, by decide +kernel⟩, List.mem_of_getElem? (i := 1161) (by decide +kernel), List.mem_of_getElem? (i := 1226) (by decide +kernel), List.mem_of_getElem? (i := 1227) (by decide +kernel)⟩
theorem lw_p67 : lw_okq (⟨"GivenSearchModel", "isPut", "(IIII)Z"⟩, 144) := ⟨⟨by decide +kernel, by decide +kernel⟩, List.mem_of_getElem? (i := 1161) (by decide +kernel), List.mem_of_getElem? (i := 1230) (by decide +kernel), List.mem_of_getElem? (i := 1231) (by decide +kernel)⟩
theorem lw_p68 : lw_okq (⟨"GivenSearchModel", "isPutIn", "([II[III)Z"⟩, 144) := ⟨⟨by decide +kernel, by decide +kernel⟩, List.mem_of_getElem? (i := 1161) (by decide +kernel), List.mem_of_getElem? (i := 1234) (by decide +kernel), List.mem_of_getElem? (i := 1235) (by decide +kernel)⟩
theorem lw_p69 : lw_okq (⟨"GivenSearchModel", "forget", "()V"⟩, 144) := ⟨⟨by decide +kernel, by decide +kernel⟩, List.mem_of_getElem? (i := 1161) (by decide +kernel), List.mem_of_getElem? (i := 1244) (by decide +kernel), List.mem_of_getElem? (i := 1245) (by decide +kernel)⟩
theorem lw_p70 : lw_okq (⟨"GivenSearchModel", "isScope", "(I)Z"⟩, 144) := ⟨⟨by decide +kernel, by decide +kernel⟩, List.mem_of_getElem? (i := 1161) (by decide +kernel), List.mem_of_getElem? (i := 1260) (by decide +kernel), List.mem_of_getElem? (i := 1261) (by decide +kernel)⟩
theorem lw_p71 : lw_okq (⟨"GivenSearchModel", "liesIn", "(I)I"⟩, 144) := ⟨⟨by decide +kernel, by decide +kernel⟩, List.mem_of_getElem? (i := 1161) (by decide +kernel), List.mem_of_getElem? (i := 1264) (by decide +kernel), List.mem_of_getElem? (i := 1265) (by decide +kernel)⟩
theorem lw_p72 : lw_okq (⟨"GivenSearchModel", "isGiven", "(I)Z"⟩, 144) := ⟨⟨by decide +kernel, by decide +kernel⟩, List.mem_of_getElem? (i := 1161) (by decide +kernel), List.mem_of_getElem? (i := 1272) (by decide +kernel), List.mem_of_getElem? (i := 1273) (by decide +kernel)⟩
theorem lw_p73 : lw_okq (⟨"GivenSearchModel", "varsOf", "(III)I"⟩, 144) := ⟨⟨by decide +kernel, by decide +kernel⟩, List.mem_of_getElem? (i := 1161) (by decide +kernel), List.mem_of_getElem? (i := 1276) (by decide +kernel), List.mem_of_getElem? (i := 1277) (by decide +kernel)⟩
theorem lw_p74 : lw_okq (⟨"GivenSearchModel", "needsVars", "(I)I"⟩, 144) := ⟨⟨by decide +kernel, by decide +kernel⟩, List.mem_of_getElem? (i := 1161) (by decide +kernel), List.mem_of_getElem? (i := 1283) (by decide +kernel), List.mem_of_getElem? (i := 1284) (by decide +kernel)⟩
theorem lw_p75 : lw_okq (⟨"GivenSearchModel", "beginHeap", "()V"⟩, 144) := ⟨⟨by decide +kernel, by decide +kernel⟩, List.mem_of_getElem? (i := 1161) (by decide +kernel), List.mem_of_getElem? (i := 1302) (by decide +kernel), List.mem_of_getElem? (i := 1303) (by decide +kernel)⟩
theorem lw_p76 : lw_okq (⟨"GivenSearchModel", "layGiven", "(II)I"⟩, 144) := ⟨⟨by decide +kernel, by decide +kernel⟩, List.mem_of_getElem? (i := 1161) (by decide +kernel), List.mem_of_getElem? (i := 1306) (by decide +kernel), List.mem_of_getElem? (i := 1307) (by decide +kernel)⟩
theorem lw_p77 : lw_okq (⟨"GivenSearchModel", "newUnknowns", "()V"⟩, 144) := ⟨⟨by decide +kernel, by decide +kernel⟩, List.mem_of_getElem? (i := 1161) (by decide +kernel), List.mem_of_getElem? (i := 1310) (by decide +kernel), List.mem_of_getElem? (i := 1311) (by decide +kernel)⟩
theorem lw_p78 : lw_okq (⟨"GivenSearchModel", "layRow", "([III)I"⟩, 144) := ⟨⟨by decide +kernel, by decide +kernel⟩, List.mem_of_getElem? (i := 1161) (by decide +kernel), List.mem_of_getElem? (i := 1314) (by decide +kernel), List.mem_of_getElem? (i := 1315) (by decide +kernel)⟩
theorem lw_p79 : lw_okq (⟨"GivenSearchModel", "unknown", "()I"⟩, 144) := ⟨⟨by decide +kernel, by decide +kernel⟩, List.mem_of_getElem? (i := 1161) (by decide +kernel), List.mem_of_getElem? (i := 1318) (by decide +kernel), List.mem_of_getElem? (i := 1319) (by decide +kernel)⟩
def lw_privs_5 : List (MethodName × Nat) := [(⟨"GivenSearchModel", "hasMore", "(Z)Z"⟩, 144), (⟨"GivenSearchModel", "layType", "(I)V"⟩, 144), (⟨"GivenSearchModel", "takes", "(I)Z"⟩, 144), (⟨"GivenSearchModel", "isPut", "(IIII)Z"⟩, 144), (⟨"GivenSearchModel", "isPutIn", "([II[III)Z"⟩, 144), (⟨"GivenSearchModel", "forget", "()V"⟩, 144), (⟨"GivenSearchModel", "isScope", "(I)Z"⟩, 144), (⟨"GivenSearchModel", "liesIn", "(I)I"⟩, 144), (⟨"GivenSearchModel", "isGiven", "(I)Z"⟩, 144), (⟨"GivenSearchModel", "varsOf", "(III)I"⟩, 144), (⟨"GivenSearchModel", "needsVars", "(I)I"⟩, 144), (⟨"GivenSearchModel", "beginHeap", "()V"⟩, 144), (⟨"GivenSearchModel", "layGiven", "(II)I"⟩, 144), (⟨"GivenSearchModel", "newUnknowns", "()V"⟩, 144), (⟨"GivenSearchModel", "layRow", "([III)I"⟩, 144), (⟨"GivenSearchModel", "unknown", "()I"⟩, 144)]
theorem lw_r5 : ∀ q ∈ lw_privs_5, lw_okq q := List.forall_mem_cons.mpr ⟨lw_p64, List.forall_mem_cons.mpr ⟨lw_p65, List.forall_mem_cons.mpr ⟨lw_p66, List.forall_mem_cons.mpr ⟨lw_p67, List.forall_mem_cons.mpr ⟨lw_p68, List.forall_mem_cons.mpr ⟨lw_p69, List.forall_mem_cons.mpr ⟨lw_p70, List.forall_mem_cons.mpr ⟨lw_p71, List.forall_mem_cons.mpr ⟨lw_p72, List.forall_mem_cons.mpr ⟨lw_p73, List.forall_mem_cons.mpr ⟨lw_p74, List.forall_mem_cons.mpr ⟨lw_p75, List.forall_mem_cons.mpr ⟨lw_p76, List.forall_mem_cons.mpr ⟨lw_p77, List.forall_mem_cons.mpr ⟨lw_p78, List.forall_mem_cons.mpr ⟨lw_p79, fun _ h => absurd h List.not_mem_nil⟩⟩⟩⟩⟩⟩⟩⟩⟩⟩⟩⟩⟩⟩⟩⟩
theorem lw_p80 : lw_okq (⟨"GivenSearchModel", "isUnified", "(II)Z"⟩, 144) := ⟨⟨by decide +kernel, by decide +kernel⟩, List.mem_of_getElem? (i := 1161) (by decide +kernel), List.mem_of_getElem? (i := 1322) (by decide +kernel), List.mem_of_getElem? (i := 1323) (by decide +kernel)⟩
theorem lw_p81 : lw_okq (⟨"GivenSearchModel", "seen", "(I)I"⟩, 144) := ⟨⟨by decide +kernel, by decide +kernel⟩, List.mem_of_getElem? (i := 1161) (by decide +kernel), List.mem_of_getElem? (i := 1326) (by decide +kernel), List.mem_of_getElem? (i := 1327) (by decide +kernel)⟩
theorem lw_p82 : lw_okq (⟨"GivenSearchModel", "isWithin", "(II)Z"⟩, 144) := ⟨⟨by decide +kernel, by decide +kernel⟩, List.mem_of_getElem? (i := 1161) (by decide +kernel), List.mem_of_getElem? (i := 1330) (by decide +kernel), List.mem_of_getElem? (i := 1331) (by decide +kernel)⟩
theorem lw_p83 : lw_okq (⟨"GivenSearchModel", "tie", "(II)V"⟩, 144) := ⟨⟨by decide +kernel, by decide +kernel⟩, List.mem_of_getElem? (i := 1161) (by decide +kernel), List.mem_of_getElem? (i := 1334) (by decide +kernel), List.mem_of_getElem? (i := 1335) (by decide +kernel)⟩
theorem lw_p84 : lw_okq (⟨"GivenSearchModel", "readWhole", "()Z"⟩, 144) := ⟨⟨by decide +kernel, by decide +kernel⟩, List.mem_of_getElem? (i := 1161) (by decide +kernel), List.mem_of_getElem? (i := 1791) (by decide +kernel), List.mem_of_getElem? (i := 1792) (by decide +kernel)⟩
theorem lw_p85 : lw_okq (⟨"GivenSearchModel", "askAll", "(Z)I"⟩, 144) := ⟨⟨by decide +kernel, by decide +kernel⟩, List.mem_of_getElem? (i := 1161) (by decide +kernel), List.mem_of_getElem? (i := 1799) (by decide +kernel), List.mem_of_getElem? (i := 1800) (by decide +kernel)⟩
theorem lw_p86 : lw_okq (⟨"GivenSearchModel", "askGoal", "(I)V"⟩, 144) := ⟨⟨by decide +kernel, by decide +kernel⟩, List.mem_of_getElem? (i := 1161) (by decide +kernel), List.mem_of_getElem? (i := 1803) (by decide +kernel), List.mem_of_getElem? (i := 1804) (by decide +kernel)⟩
theorem lw_p87 : lw_okq (⟨"GivenSearchModel", "layOut", "(I)I"⟩, 144) := ⟨⟨by decide +kernel, by decide +kernel⟩, List.mem_of_getElem? (i := 1161) (by decide +kernel), List.mem_of_getElem? (i := 1807) (by decide +kernel), List.mem_of_getElem? (i := 1808) (by decide +kernel)⟩
theorem lw_p88 : lw_okq (⟨"GivenSearchModel", "orderOf", "(I)I"⟩, 144) := ⟨⟨by decide +kernel, by decide +kernel⟩, List.mem_of_getElem? (i := 1161) (by decide +kernel), List.mem_of_getElem? (i := 1811) (by decide +kernel), List.mem_of_getElem? (i := 1812) (by decide +kernel)⟩
theorem lw_p89 : lw_okq (⟨"GivenSearchModel", "memoryOf", "(I)I"⟩, 144) := ⟨⟨by decide +kernel, by decide +kernel⟩, List.mem_of_getElem? (i := 1161) (by decide +kernel), List.mem_of_getElem? (i := 1815) (by decide +kernel), List.mem_of_getElem? (i := 1816) (by decide +kernel)⟩
theorem lw_p90 : lw_okq (⟨"GivenSearchModel", "openLevel", "(III)V"⟩, 144) := ⟨⟨by decide +kernel, by decide +kernel⟩, List.mem_of_getElem? (i := 1161) (by decide +kernel), List.mem_of_getElem? (i := 1819) (by decide +kernel), List.mem_of_getElem? (i := 1820) (by decide +kernel)⟩
theorem lw_p91 : lw_okq (⟨"GivenSearchModel", "candidatesOf", "(II)I"⟩, 144) := ⟨⟨by decide +kernel, by decide +kernel⟩, List.mem_of_getElem? (i := 1161) (by decide +kernel), List.mem_of_getElem? (i := 1823) (by decide +kernel), List.mem_of_getElem? (i := 1824) (by decide +kernel)⟩
theorem lw_p92 : lw_okq (⟨"GivenSearchModel", "untie", "(I)V"⟩, 144) := ⟨⟨by decide +kernel, by decide +kernel⟩, List.mem_of_getElem? (i := 1161) (by decide +kernel), List.mem_of_getElem? (i := 1827) (by decide +kernel), List.mem_of_getElem? (i := 1828) (by decide +kernel)⟩
theorem lw_p93 : lw_okq (⟨"GivenSearchModel", "newRound", "(I)V"⟩, 144) := ⟨⟨by decide +kernel, by decide +kernel⟩, List.mem_of_getElem? (i := 1161) (by decide +kernel), List.mem_of_getElem? (i := 1831) (by decide +kernel), List.mem_of_getElem? (i := 1832) (by decide +kernel)⟩
theorem lw_p94 : lw_okq (⟨"GivenSearchModel", "bestOf", "(I)I"⟩, 144) := ⟨⟨by decide +kernel, by decide +kernel⟩, List.mem_of_getElem? (i := 1161) (by decide +kernel), List.mem_of_getElem? (i := 1835) (by decide +kernel), List.mem_of_getElem? (i := 1836) (by decide +kernel)⟩
theorem lw_p95 : lw_okq (⟨"GivenSearchModel", "step", "()V"⟩, 144) := ⟨⟨by decide +kernel, by decide +kernel⟩, List.mem_of_getElem? (i := 1161) (by decide +kernel), List.mem_of_getElem? (i := 1839) (by decide +kernel), List.mem_of_getElem? (i := 1840) (by decide +kernel)⟩
def lw_privs_6 : List (MethodName × Nat) := [(⟨"GivenSearchModel", "isUnified", "(II)Z"⟩, 144), (⟨"GivenSearchModel", "seen", "(I)I"⟩, 144), (⟨"GivenSearchModel", "isWithin", "(II)Z"⟩, 144), (⟨"GivenSearchModel", "tie", "(II)V"⟩, 144), (⟨"GivenSearchModel", "readWhole", "()Z"⟩, 144), (⟨"GivenSearchModel", "askAll", "(Z)I"⟩, 144), (⟨"GivenSearchModel", "askGoal", "(I)V"⟩, 144), (⟨"GivenSearchModel", "layOut", "(I)I"⟩, 144), (⟨"GivenSearchModel", "orderOf", "(I)I"⟩, 144), (⟨"GivenSearchModel", "memoryOf", "(I)I"⟩, 144), (⟨"GivenSearchModel", "openLevel", "(III)V"⟩, 144), (⟨"GivenSearchModel", "candidatesOf", "(II)I"⟩, 144), (⟨"GivenSearchModel", "untie", "(I)V"⟩, 144), (⟨"GivenSearchModel", "newRound", "(I)V"⟩, 144), (⟨"GivenSearchModel", "bestOf", "(I)I"⟩, 144), (⟨"GivenSearchModel", "step", "()V"⟩, 144)]
theorem lw_r6 : ∀ q ∈ lw_privs_6, lw_okq q := List.forall_mem_cons.mpr ⟨lw_p80, List.forall_mem_cons.mpr ⟨lw_p81, List.forall_mem_cons.mpr ⟨lw_p82, List.forall_mem_cons.mpr ⟨lw_p83, List.forall_mem_cons.mpr ⟨lw_p84, List.forall_mem_cons.mpr ⟨lw_p85, List.forall_mem_cons.mpr ⟨lw_p86, List.forall_mem_cons.mpr ⟨lw_p87, List.forall_mem_cons.mpr ⟨lw_p88, List.forall_mem_cons.mpr ⟨lw_p89, List.forall_mem_cons.mpr ⟨lw_p90, List.forall_mem_cons.mpr ⟨lw_p91, List.forall_mem_cons.mpr ⟨lw_p92, List.forall_mem_cons.mpr ⟨lw_p93, List.forall_mem_cons.mpr ⟨lw_p94, List.forall_mem_cons.mpr ⟨lw_p95, fun _ h => absurd h List.not_mem_nil⟩⟩⟩⟩⟩⟩⟩⟩⟩⟩⟩⟩⟩⟩⟩⟩
theorem lw_p96 : lw_okq (⟨"GivenSearchModel", "comeBack", "(I)V"⟩, 144) := ⟨⟨by decide +kernel, by decide +kernel⟩, List.mem_of_getElem? (i := 1161) (by decide +kernel), List.mem_of_getElem? (i := 1843) (by decide +kernel), List.mem_of_getElem? (i := 1844) (by decide +kernel)⟩
theorem lw_p97 : lw_okq (⟨"GivenSearchModel", "back", "(I)V"⟩, 144) := ⟨⟨by decide +kernel, by decide +kernel⟩, List.mem_of_getElem? (i := 1161) (by decide +kernel), List.mem_of_getElem? (i := 1847) (by decide +kernel), List.mem_of_getElem? (i := 1848) (by decide +kernel)⟩
theorem lw_p98 : lw_okq (⟨"GivenSearchModel", "goOn", "(I)V"⟩, 144) := ⟨⟨by decide +kernel, by decide +kernel⟩, List.mem_of_getElem? (i := 1161) (by decide +kernel), List.mem_of_getElem? (i := 1851) (by decide +kernel), List.mem_of_getElem? (i := 1852) (by decide +kernel)⟩
theorem lw_p99 : lw_okq (⟨"GivenSearchModel", "didWell", "(I)V"⟩, 144) := ⟨⟨by decide +kernel, by decide +kernel⟩, List.mem_of_getElem? (i := 1161) (by decide +kernel), List.mem_of_getElem? (i := 1855) (by decide +kernel), List.mem_of_getElem? (i := 1856) (by decide +kernel)⟩
theorem lw_p100 : lw_okq (⟨"GivenSearchModel", "isCut", "(II)Z"⟩, 144) := ⟨⟨by decide +kernel, by decide +kernel⟩, List.mem_of_getElem? (i := 1161) (by decide +kernel), List.mem_of_getElem? (i := 1859) (by decide +kernel), List.mem_of_getElem? (i := 1860) (by decide +kernel)⟩
theorem lw_p101 : lw_okq (⟨"GivenSearchModel", "tryGiven", "(II)V"⟩, 144) := ⟨⟨by decide +kernel, by decide +kernel⟩, List.mem_of_getElem? (i := 1161) (by decide +kernel), List.mem_of_getElem? (i := 1863) (by decide +kernel), List.mem_of_getElem? (i := 1864) (by decide +kernel)⟩
theorem lw_p102 : lw_okq (⟨"GivenSearchModel", "leaveFound", "(I)V"⟩, 144) := ⟨⟨by decide +kernel, by decide +kernel⟩, List.mem_of_getElem? (i := 1161) (by decide +kernel), List.mem_of_getElem? (i := 1867) (by decide +kernel), List.mem_of_getElem? (i := 1868) (by decide +kernel)⟩
theorem lw_p103 : lw_okq (⟨"GivenSearchModel", "newNode", "(I)I"⟩, 144) := ⟨⟨by decide +kernel, by decide +kernel⟩, List.mem_of_getElem? (i := 1161) (by decide +kernel), List.mem_of_getElem? (i := 1871) (by decide +kernel), List.mem_of_getElem? (i := 1872) (by decide +kernel)⟩
theorem lw_p104 : lw_okq (⟨"GivenSearchModel", "leave", "(II)V"⟩, 144) := ⟨⟨by decide +kernel, by decide +kernel⟩, List.mem_of_getElem? (i := 1161) (by decide +kernel), List.mem_of_getElem? (i := 1875) (by decide +kernel), List.mem_of_getElem? (i := 1876) (by decide +kernel)⟩
theorem lw_p105 : lw_okq (⟨"GivenSearchModel", "remember", "(II)V"⟩, 144) := ⟨⟨by decide +kernel, by decide +kernel⟩, List.mem_of_getElem? (i := 1161) (by decide +kernel), List.mem_of_getElem? (i := 1879) (by decide +kernel), List.mem_of_getElem? (i := 1880) (by decide +kernel)⟩
theorem lw_p106 : lw_okq (⟨"GivenSearchModel", "keep", "(I)I"⟩, 144) := ⟨⟨by decide +kernel, by decide +kernel⟩, List.mem_of_getElem? (i := 1161) (by decide +kernel), List.mem_of_getElem? (i := 1883) (by decide +kernel), List.mem_of_getElem? (i := 1884) (by decide +kernel)⟩
theorem lw_p107 : lw_okq (⟨"GivenSearchModel", "keepOne", "(I)I"⟩, 144) := ⟨⟨by decide +kernel, by decide +kernel⟩, List.mem_of_getElem? (i := 1161) (by decide +kernel), List.mem_of_getElem? (i := 1887) (by decide +kernel), List.mem_of_getElem? (i := 1888) (by decide +kernel)⟩
theorem lw_p108 : lw_okq (⟨"GivenSearchModel", "layAsking", "(I)V"⟩, 144) := ⟨⟨by decide +kernel, by decide +kernel⟩, List.mem_of_getElem? (i := 1161) (by decide +kernel), List.mem_of_getElem? (i := 1891) (by decide +kernel), List.mem_of_getElem? (i := 1892) (by decide +kernel)⟩
theorem lw_p109 : lw_okq (⟨"GivenSearchModel", "layTree", "(I)V"⟩, 144) := ⟨⟨by decide +kernel, by decide +kernel⟩, List.mem_of_getElem? (i := 1161) (by decide +kernel), List.mem_of_getElem? (i := 1895) (by decide +kernel), List.mem_of_getElem? (i := 1896) (by decide +kernel)⟩
theorem lw_p110 : lw_okq (⟨"GivenSearchModel", "layNodeGoal", "(II)V"⟩, 144) := ⟨⟨by decide +kernel, by decide +kernel⟩, List.mem_of_getElem? (i := 1161) (by decide +kernel), List.mem_of_getElem? (i := 1899) (by decide +kernel), List.mem_of_getElem? (i := 1900) (by decide +kernel)⟩
theorem lw_p111 : lw_okq (⟨"GivenSearchModel", "layAnswer", "(I)V"⟩, 144) := ⟨⟨by decide +kernel, by decide +kernel⟩, List.mem_of_getElem? (i := 1161) (by decide +kernel), List.mem_of_getElem? (i := 1903) (by decide +kernel), List.mem_of_getElem? (i := 1904) (by decide +kernel)⟩
def lw_privs_7 : List (MethodName × Nat) := [(⟨"GivenSearchModel", "comeBack", "(I)V"⟩, 144), (⟨"GivenSearchModel", "back", "(I)V"⟩, 144), (⟨"GivenSearchModel", "goOn", "(I)V"⟩, 144), (⟨"GivenSearchModel", "didWell", "(I)V"⟩, 144), (⟨"GivenSearchModel", "isCut", "(II)Z"⟩, 144), (⟨"GivenSearchModel", "tryGiven", "(II)V"⟩, 144), (⟨"GivenSearchModel", "leaveFound", "(I)V"⟩, 144), (⟨"GivenSearchModel", "newNode", "(I)I"⟩, 144), (⟨"GivenSearchModel", "leave", "(II)V"⟩, 144), (⟨"GivenSearchModel", "remember", "(II)V"⟩, 144), (⟨"GivenSearchModel", "keep", "(I)I"⟩, 144), (⟨"GivenSearchModel", "keepOne", "(I)I"⟩, 144), (⟨"GivenSearchModel", "layAsking", "(I)V"⟩, 144), (⟨"GivenSearchModel", "layTree", "(I)V"⟩, 144), (⟨"GivenSearchModel", "layNodeGoal", "(II)V"⟩, 144), (⟨"GivenSearchModel", "layAnswer", "(I)V"⟩, 144)]
theorem lw_r7 : ∀ q ∈ lw_privs_7, lw_okq q := List.forall_mem_cons.mpr ⟨lw_p96, List.forall_mem_cons.mpr ⟨lw_p97, List.forall_mem_cons.mpr ⟨lw_p98, List.forall_mem_cons.mpr ⟨lw_p99, List.forall_mem_cons.mpr ⟨lw_p100, List.forall_mem_cons.mpr ⟨lw_p101, List.forall_mem_cons.mpr ⟨lw_p102, List.forall_mem_cons.mpr ⟨lw_p103, List.forall_mem_cons.mpr ⟨lw_p104, List.forall_mem_cons.mpr ⟨lw_p105, List.forall_mem_cons.mpr ⟨lw_p106, List.forall_mem_cons.mpr ⟨lw_p107, List.forall_mem_cons.mpr ⟨lw_p108, List.forall_mem_cons.mpr ⟨lw_p109, List.forall_mem_cons.mpr ⟨lw_p110, List.forall_mem_cons.mpr ⟨lw_p111, fun _ h => absurd h List.not_mem_nil⟩⟩⟩⟩⟩⟩⟩⟩⟩⟩⟩⟩⟩⟩⟩⟩
theorem lw_p112 : lw_okq (⟨"GivenSearchModel", "isNode", "(I)Z"⟩, 144) := ⟨⟨by decide +kernel, by decide +kernel⟩, List.mem_of_getElem? (i := 1161) (by decide +kernel), List.mem_of_getElem? (i := 1915) (by decide +kernel), List.mem_of_getElem? (i := 1916) (by decide +kernel)⟩
theorem lw_p113 : lw_okq (⟨"GivenSearchModel", "wasFound", "()Z"⟩, 144) := ⟨⟨by decide +kernel, by decide +kernel⟩, List.mem_of_getElem? (i := 1161) (by decide +kernel), List.mem_of_getElem? (i := 1919) (by decide +kernel), List.mem_of_getElem? (i := 1920) (by decide +kernel)⟩
theorem lw_p114 : lw_okq (⟨"GivenSearchModel", "writeRow", "([III)I"⟩, 144) := ⟨⟨by decide +kernel, by decide +kernel⟩, List.mem_of_getElem? (i := 1161) (by decide +kernel), List.mem_of_getElem? (i := 1927) (by decide +kernel), List.mem_of_getElem? (i := 1928) (by decide +kernel)⟩
theorem lw_p115 : lw_okq (⟨"GivenSearchModel", "put", "(I)V"⟩, 144) := ⟨⟨by decide +kernel, by decide +kernel⟩, List.mem_of_getElem? (i := 1161) (by decide +kernel), List.mem_of_getElem? (i := 1931) (by decide +kernel), List.mem_of_getElem? (i := 1932) (by decide +kernel)⟩
theorem lw_p116 : lw_okq (⟨"GivenSearchModel", "putNumber", "(I)V"⟩, 144) := ⟨⟨by decide +kernel, by decide +kernel⟩, List.mem_of_getElem? (i := 1161) (by decide +kernel), List.mem_of_getElem? (i := 1935) (by decide +kernel), List.mem_of_getElem? (i := 1936) (by decide +kernel)⟩
theorem lw_p117 : lw_okq (⟨"GivenSearchModel", "closeAll", "(I)I"⟩, 144) := ⟨⟨by decide +kernel, by decide +kernel⟩, List.mem_of_getElem? (i := 1161) (by decide +kernel), List.mem_of_getElem? (i := 1939) (by decide +kernel), List.mem_of_getElem? (i := 1940) (by decide +kernel)⟩
theorem lw_p118 : lw_okq (⟨"GivenSearchModel", "endWith", "(I)I"⟩, 144) := ⟨⟨by decide +kernel, by decide +kernel⟩, List.mem_of_getElem? (i := 1161) (by decide +kernel), List.mem_of_getElem? (i := 1963) (by decide +kernel), List.mem_of_getElem? (i := 1964) (by decide +kernel)⟩
theorem lw_p119 : lw_okq (⟨"GivenSearchModel", "areUnified", "(II)Z"⟩, 144) := ⟨⟨by decide +kernel, by decide +kernel⟩, List.mem_of_getElem? (i := 1161) (by decide +kernel), List.mem_of_getElem? (i := 1982) (by decide +kernel), List.mem_of_getElem? (i := 1983) (by decide +kernel)⟩
theorem lw_p120 : lw_okq (⟨"GivenSearchModel", "coverOf", "(I)I"⟩, 144) := ⟨⟨by decide +kernel, by decide +kernel⟩, List.mem_of_getElem? (i := 1161) (by decide +kernel), List.mem_of_getElem? (i := 1986) (by decide +kernel), List.mem_of_getElem? (i := 1987) (by decide +kernel)⟩
theorem lw_p121 : lw_okq (⟨"GivenSearchModel", "allAround", "(I)I"⟩, 144) := ⟨⟨by decide +kernel, by decide +kernel⟩, List.mem_of_getElem? (i := 1161) (by decide +kernel), List.mem_of_getElem? (i := 2002) (by decide +kernel), List.mem_of_getElem? (i := 2003) (by decide +kernel)⟩
theorem lw_p122 : lw_okq (⟨"GivenSearchModel", "valuesOf", "(III)I"⟩, 144) := ⟨⟨by decide +kernel, by decide +kernel⟩, List.mem_of_getElem? (i := 1161) (by decide +kernel), List.mem_of_getElem? (i := 2006) (by decide +kernel), List.mem_of_getElem? (i := 2007) (by decide +kernel)⟩
theorem lw_p123 : lw_okq (⟨"GivenSearchModel", "openValue", "(II)V"⟩, 144) := ⟨⟨by decide +kernel, by decide +kernel⟩, List.mem_of_getElem? (i := 1161) (by decide +kernel), List.mem_of_getElem? (i := 2010) (by decide +kernel), List.mem_of_getElem? (i := 2011) (by decide +kernel)⟩
theorem lw_p124 : lw_okq (⟨"GivenSearchModel", "nextGiven", "(II)Z"⟩, 144) := ⟨⟨by decide +kernel, by decide +kernel⟩, List.mem_of_getElem? (i := 1161) (by decide +kernel), List.mem_of_getElem? (i := 2014) (by decide +kernel), List.mem_of_getElem? (i := 2015) (by decide +kernel)⟩
theorem lw_p125 : lw_okq (⟨"GivenSearchModel", "backValue", "(I)V"⟩, 144) := ⟨⟨by decide +kernel, by decide +kernel⟩, List.mem_of_getElem? (i := 1161) (by decide +kernel), List.mem_of_getElem? (i := 2018) (by decide +kernel), List.mem_of_getElem? (i := 2019) (by decide +kernel)⟩
theorem lw_p126 : lw_okq (⟨"GivenSearchModel", "upWith", "(IJ)I"⟩, 144) := ⟨⟨by decide +kernel, by decide +kernel⟩, List.mem_of_getElem? (i := 1161) (by decide +kernel), List.mem_of_getElem? (i := 2022) (by decide +kernel), List.mem_of_getElem? (i := 2023) (by decide +kernel)⟩
def lw_privs_8 : List (MethodName × Nat) := [(⟨"GivenSearchModel", "isNode", "(I)Z"⟩, 144), (⟨"GivenSearchModel", "wasFound", "()Z"⟩, 144), (⟨"GivenSearchModel", "writeRow", "([III)I"⟩, 144), (⟨"GivenSearchModel", "put", "(I)V"⟩, 144), (⟨"GivenSearchModel", "putNumber", "(I)V"⟩, 144), (⟨"GivenSearchModel", "closeAll", "(I)I"⟩, 144), (⟨"GivenSearchModel", "endWith", "(I)I"⟩, 144), (⟨"GivenSearchModel", "areUnified", "(II)Z"⟩, 144), (⟨"GivenSearchModel", "coverOf", "(I)I"⟩, 144), (⟨"GivenSearchModel", "allAround", "(I)I"⟩, 144), (⟨"GivenSearchModel", "valuesOf", "(III)I"⟩, 144), (⟨"GivenSearchModel", "openValue", "(II)V"⟩, 144), (⟨"GivenSearchModel", "nextGiven", "(II)Z"⟩, 144), (⟨"GivenSearchModel", "backValue", "(I)V"⟩, 144), (⟨"GivenSearchModel", "upWith", "(IJ)I"⟩, 144)]
theorem lw_r8 : ∀ q ∈ lw_privs_8, lw_okq q := List.forall_mem_cons.mpr ⟨lw_p112, List.forall_mem_cons.mpr ⟨lw_p113, List.forall_mem_cons.mpr ⟨lw_p114, List.forall_mem_cons.mpr ⟨lw_p115, List.forall_mem_cons.mpr ⟨lw_p116, List.forall_mem_cons.mpr ⟨lw_p117, List.forall_mem_cons.mpr ⟨lw_p118, List.forall_mem_cons.mpr ⟨lw_p119, List.forall_mem_cons.mpr ⟨lw_p120, List.forall_mem_cons.mpr ⟨lw_p121, List.forall_mem_cons.mpr ⟨lw_p122, List.forall_mem_cons.mpr ⟨lw_p123, List.forall_mem_cons.mpr ⟨lw_p124, List.forall_mem_cons.mpr ⟨lw_p125, List.forall_mem_cons.mpr ⟨lw_p126, fun _ h => absurd h List.not_mem_nil⟩⟩⟩⟩⟩⟩⟩⟩⟩⟩⟩⟩⟩⟩⟩
def lw_privs : List (MethodName × Nat) := lw_privs_1 ++ (lw_privs_2 ++ (lw_privs_3 ++ (lw_privs_4 ++ (lw_privs_5 ++ (lw_privs_6 ++ (lw_privs_7 ++ (lw_privs_8)))))))
def lw_tbl : List Cond := k2_sels lw_privs ++ tables_1
theorem lw_privs_ok : ∀ q ∈ lw_privs, lw_okq q := by
  show ∀ q ∈ lw_privs_1 ++ (lw_privs_2 ++ (lw_privs_3 ++ (lw_privs_4 ++ (lw_privs_5 ++ (lw_privs_6 ++ (lw_privs_7 ++ (lw_privs_8))))))), lw_okq q
  exact List.forall_mem_append.mpr ⟨lw_r1, List.forall_mem_append.mpr ⟨lw_r2, List.forall_mem_append.mpr ⟨lw_r3, List.forall_mem_append.mpr ⟨lw_r4, List.forall_mem_append.mpr ⟨lw_r5, List.forall_mem_append.mpr ⟨lw_r6, List.forall_mem_append.mpr ⟨lw_r7, lw_r8⟩⟩⟩⟩⟩⟩⟩

-- the classes: names, fields in the order of their slots, their types
def ax_T0 : u_T := fun k => match k with
  | 0 => ("GivenSearch$Flat", "sign", "[I", true)
  | _ => ("GivenSearch$Flat", "size", "I", false)
def ax_t0 : Nat → FieldType := fun k => match k with
  | 0 => .array .int
  | _ => .int
def ax_T1 : u_T := fun k => match k with
  | 0 => ("GivenSearchModel", "tape", "[B", true)
  | 1 => ("GivenSearchModel", "taped", "I", false)
  | 2 => ("GivenSearchModel", "at", "I", false)
  | 3 => ("GivenSearchModel", "faultPlace", "I", false)
  | 4 => ("GivenSearchModel", "read", "[I", true)
  | 5 => ("GivenSearchModel", "open", "[I", true)
  | 6 => ("GivenSearchModel", "readLong", "I", false)
  | 7 => ("GivenSearchModel", "opened", "I", false)
  | 8 => ("GivenSearchModel", "around", "[I", true)
  | 9 => ("GivenSearchModel", "scopeOf", "[I", true)
  | 10 => ("GivenSearchModel", "needs", "[I", true)
  | 11 => ("GivenSearchModel", "things", "[I", true)
  | 12 => ("GivenSearchModel", "longOf", "[I", true)
  | 13 => ("GivenSearchModel", "scopes", "I", false)
  | 14 => ("GivenSearchModel", "givens", "I", false)
  | 15 => ("GivenSearchModel", "outs", "I", false)
  | 16 => ("GivenSearchModel", "shuts", "I", false)
  | 17 => ("GivenSearchModel", "newAround", "[I", true)
  | 18 => ("GivenSearchModel", "newScopeOf", "[I", true)
  | 19 => ("GivenSearchModel", "newNeeds", "[I", true)
  | 20 => ("GivenSearchModel", "newThings", "[I", true)
  | 21 => ("GivenSearchModel", "newLong", "[I", true)
  | 22 => ("GivenSearchModel", "opens", "[I", true)
  | 23 => ("GivenSearchModel", "newScopes", "I", false)
  | 24 => ("GivenSearchModel", "newGivens", "I", false)
  | 25 => ("GivenSearchModel", "deep", "I", false)
  | 26 => ("GivenSearchModel", "special", "[Z", true)
  | 27 => ("GivenSearchModel", "putAt", "[I", true)
  | 28 => ("GivenSearchModel", "head", "[I", true)
  | 29 => ("GivenSearchModel", "first", "[I", true)
  | 30 => ("GivenSearchModel", "tied", "[I", true)
  | 31 => ("GivenSearchModel", "parts", "[I", true)
  | 32 => ("GivenSearchModel", "trail", "[I", true)
  | 33 => ("GivenSearchModel", "heap", "I", false)
  | 34 => ("GivenSearchModel", "partMany", "I", false)
  | 35 => ("GivenSearchModel", "tiedMany", "I", false)
  | 36 => ("GivenSearchModel", "unknownOf", "[I", true)
  | 37 => ("GivenSearchModel", "pile", "[I", true)
  | 38 => ("GivenSearchModel", "piled", "I", false)
  | 39 => ("GivenSearchModel", "walk", "[I", true)
  | 40 => ("GivenSearchModel", "twos", "[I", true)
  | 41 => ("GivenSearchModel", "laid", "[I", true)
  | 42 => ("GivenSearchModel", "order", "[I", true)
  | 43 => ("GivenSearchModel", "laidLong", "I", false)
  | 44 => ("GivenSearchModel", "ordered", "I", false)
  | 45 => ("GivenSearchModel", "letters", "I", false)
  | 46 => ("GivenSearchModel", "told", "[I", true)
  | 47 => ("GivenSearchModel", "toldLong", "[I", true)
  | 48 => ("GivenSearchModel", "goalRow", "[I", true)
  | 49 => ("GivenSearchModel", "goalLong", "I", false)
  | 50 => ("GivenSearchModel", "goalScope", "I", false)
  | 51 => ("GivenSearchModel", "wasAsked", "Z", false)
  | 52 => ("GivenSearchModel", "nodeGiven", "[I", true)
  | 53 => ("GivenSearchModel", "nodeLevel", "[I", true)
  | 54 => ("GivenSearchModel", "nodeCands", "[I", true)
  | 55 => ("GivenSearchModel", "nodeFailed", "[I", true)
  | 56 => ("GivenSearchModel", "nodeUntried", "[I", true)
  | 57 => ("GivenSearchModel", "nodeBelow", "[I", true)
  | 58 => ("GivenSearchModel", "nodeKid", "[I", true)
  | 59 => ("GivenSearchModel", "nodeAll", "[I", true)
  | 60 => ("GivenSearchModel", "nodeGoal", "[I", true)
  | 61 => ("GivenSearchModel", "nodeLong", "[I", true)
  | 62 => ("GivenSearchModel", "pool", "[I", true)
  | 63 => ("GivenSearchModel", "kept", "I", false)
  | 64 => ("GivenSearchModel", "live", "I", false)
  | 65 => ("GivenSearchModel", "pooled", "I", false)
  | 66 => ("GivenSearchModel", "memoryScope", "[I", true)
  | 67 => ("GivenSearchModel", "memoryLong", "[I", true)
  | 68 => ("GivenSearchModel", "memoryRow", "[I", true)
  | 69 => ("GivenSearchModel", "memoryNode", "[I", true)
  | 70 => ("GivenSearchModel", "remembered", "I", false)
  | 71 => ("GivenSearchModel", "goal", "[I", true)
  | 72 => ("GivenSearchModel", "closed", "[Z", true)
  | 73 => ("GivenSearchModel", "cutsThen", "[I", true)
  | 74 => ("GivenSearchModel", "scopeNow", "[I", true)
  | 75 => ("GivenSearchModel", "level", "[I", true)
  | 76 => ("GivenSearchModel", "cands", "[I", true)
  | 77 => ("GivenSearchModel", "candMany", "[I", true)
  | 78 => ("GivenSearchModel", "failed", "[I", true)
  | 79 => ("GivenSearchModel", "best", "[I", true)
  | 80 => ("GivenSearchModel", "next", "[I", true)
  | 81 => ("GivenSearchModel", "tried", "[I", true)
  | 82 => ("GivenSearchModel", "need", "[I", true)
  | 83 => ("GivenSearchModel", "needNode", "[I", true)
  | 84 => ("GivenSearchModel", "mark", "[I", true)
  | 85 => ("GivenSearchModel", "heapMark", "[I", true)
  | 86 => ("GivenSearchModel", "partMark", "[I", true)
  | 87 => ("GivenSearchModel", "liveMark", "[I", true)
  | 88 => ("GivenSearchModel", "kid", "[I", true)
  | 89 => ("GivenSearchModel", "well", "[I", true)
  | 90 => ("GivenSearchModel", "wellGiven", "[I", true)
  | 91 => ("GivenSearchModel", "wellOther", "[I", true)
  | 92 => ("GivenSearchModel", "wellKid", "[I", true)
  | 93 => ("GivenSearchModel", "wellFrom", "[I", true)
  | 94 => ("GivenSearchModel", "wellMany", "[I", true)
  | 95 => ("GivenSearchModel", "savedFrom", "[I", true)
  | 96 => ("GivenSearchModel", "savedTo", "[I", true)
  | 97 => ("GivenSearchModel", "saved", "I", false)
  | 98 => ("GivenSearchModel", "frames", "I", false)
  | 99 => ("GivenSearchModel", "over", "I", false)
  | 100 => ("GivenSearchModel", "isApart", "Z", false)
  | 101 => ("GivenSearchModel", "hasCome", "Z", false)
  | 102 => ("GivenSearchModel", "came", "I", false)
  | 103 => ("GivenSearchModel", "askedMany", "I", false)
  | 104 => ("GivenSearchModel", "metMany", "I", false)
  | 105 => ("GivenSearchModel", "cutMany", "I", false)
  | 106 => ("GivenSearchModel", "triedMany", "I", false)
  | 107 => ("GivenSearchModel", "deepest", "I", false)
  | 108 => ("GivenSearchModel", "askedIn", "I", false)
  | 109 => ("GivenSearchModel", "keptAs", "[I", true)
  | 110 => ("GivenSearchModel", "todo", "[I", true)
  | 111 => ("GivenSearchModel", "whole", "I", false)
  | 112 => ("GivenSearchModel", "counts", "[I", true)
  | 113 => ("GivenSearchModel", "treeNode", "[I", true)
  | 114 => ("GivenSearchModel", "treeUp", "[I", true)
  | 115 => ("GivenSearchModel", "treeNeed", "[I", true)
  | 116 => ("GivenSearchModel", "treeGiven", "[I", true)
  | 117 => ("GivenSearchModel", "treeLevel", "[I", true)
  | 118 => ("GivenSearchModel", "treeCands", "[I", true)
  | 119 => ("GivenSearchModel", "treeFailed", "[I", true)
  | 120 => ("GivenSearchModel", "treeUntried", "[I", true)
  | 121 => ("GivenSearchModel", "treeBelow", "[I", true)
  | 122 => ("GivenSearchModel", "treeLong", "[I", true)
  | 123 => ("GivenSearchModel", "treeRow", "[I", true)
  | 124 => ("GivenSearchModel", "depthOf", "[I", true)
  | 125 => ("GivenSearchModel", "answer", "[I", true)
  | 126 => ("GivenSearchModel", "treeMany", "I", false)
  | 127 => ("GivenSearchModel", "answerLong", "I", false)
  | 128 => ("GivenSearchModel", "firstOne", "I", false)
  | 129 => ("GivenSearchModel", "otherOne", "I", false)
  | 130 => ("GivenSearchModel", "todoUp", "[I", true)
  | 131 => ("GivenSearchModel", "todoNeed", "[I", true)
  | 132 => ("GivenSearchModel", "written", "[B", true)
  | 133 => ("GivenSearchModel", "writtenLong", "I", false)
  | 134 => ("GivenSearchModel", "still", "[I", true)
  | 135 => ("GivenSearchModel", "valueGoal", "[I", true)
  | 136 => ("GivenSearchModel", "valueGiven", "[I", true)
  | 137 => ("GivenSearchModel", "valueNeed", "[I", true)
  | 138 => ("GivenSearchModel", "valueNeeds", "[I", true)
  | 139 => ("GivenSearchModel", "valueMark", "[I", true)
  | 140 => ("GivenSearchModel", "valueHeap", "[I", true)
  | 141 => ("GivenSearchModel", "valueParts", "[I", true)
  | 142 => ("GivenSearchModel", "product", "[J", true)
  | _ => ("GivenSearchModel", "sum", "[J", true)
def ax_t1 : Nat → FieldType := fun k => match k with
  | 0 => .array .byte
  | 1 => .int
  | 2 => .int
  | 3 => .int
  | 4 => .array .int
  | 5 => .array .int
  | 6 => .int
  | 7 => .int
  | 8 => .array .int
  | 9 => .array .int
  | 10 => .array .int
  | 11 => .array .int
  | 12 => .array .int
  | 13 => .int
  | 14 => .int
  | 15 => .int
  | 16 => .int
  | 17 => .array .int
  | 18 => .array .int
  | 19 => .array .int
  | 20 => .array .int
  | 21 => .array .int
  | 22 => .array .int
  | 23 => .int
  | 24 => .int
  | 25 => .int
  | 26 => .array .boolean
  | 27 => .array .int
  | 28 => .array .int
  | 29 => .array .int
  | 30 => .array .int
  | 31 => .array .int
  | 32 => .array .int
  | 33 => .int
  | 34 => .int
  | 35 => .int
  | 36 => .array .int
  | 37 => .array .int
  | 38 => .int
  | 39 => .array .int
  | 40 => .array .int
  | 41 => .array .int
  | 42 => .array .int
  | 43 => .int
  | 44 => .int
  | 45 => .int
  | 46 => .array .int
  | 47 => .array .int
  | 48 => .array .int
  | 49 => .int
  | 50 => .int
  | 51 => .boolean
  | 52 => .array .int
  | 53 => .array .int
  | 54 => .array .int
  | 55 => .array .int
  | 56 => .array .int
  | 57 => .array .int
  | 58 => .array .int
  | 59 => .array .int
  | 60 => .array .int
  | 61 => .array .int
  | 62 => .array .int
  | 63 => .int
  | 64 => .int
  | 65 => .int
  | 66 => .array .int
  | 67 => .array .int
  | 68 => .array .int
  | 69 => .array .int
  | 70 => .int
  | 71 => .array .int
  | 72 => .array .boolean
  | 73 => .array .int
  | 74 => .array .int
  | 75 => .array .int
  | 76 => .array .int
  | 77 => .array .int
  | 78 => .array .int
  | 79 => .array .int
  | 80 => .array .int
  | 81 => .array .int
  | 82 => .array .int
  | 83 => .array .int
  | 84 => .array .int
  | 85 => .array .int
  | 86 => .array .int
  | 87 => .array .int
  | 88 => .array .int
  | 89 => .array .int
  | 90 => .array .int
  | 91 => .array .int
  | 92 => .array .int
  | 93 => .array .int
  | 94 => .array .int
  | 95 => .array .int
  | 96 => .array .int
  | 97 => .int
  | 98 => .int
  | 99 => .int
  | 100 => .boolean
  | 101 => .boolean
  | 102 => .int
  | 103 => .int
  | 104 => .int
  | 105 => .int
  | 106 => .int
  | 107 => .int
  | 108 => .int
  | 109 => .array .int
  | 110 => .array .int
  | 111 => .int
  | 112 => .array .int
  | 113 => .array .int
  | 114 => .array .int
  | 115 => .array .int
  | 116 => .array .int
  | 117 => .array .int
  | 118 => .array .int
  | 119 => .array .int
  | 120 => .array .int
  | 121 => .array .int
  | 122 => .array .int
  | 123 => .array .int
  | 124 => .array .int
  | 125 => .array .int
  | 126 => .int
  | 127 => .int
  | 128 => .int
  | 129 => .int
  | 130 => .array .int
  | 131 => .array .int
  | 132 => .array .byte
  | 133 => .int
  | 134 => .array .int
  | 135 => .array .int
  | 136 => .array .int
  | 137 => .array .int
  | 138 => .array .int
  | 139 => .array .int
  | 140 => .array .int
  | 141 => .array .int
  | 142 => .array .long
  | _ => .array .long
def ax_T2 : u_T := fun k => match k with
  | 0 => ("GivenSearch$Counts", "types", "[LGivenSearch$Flat;", true)
  | 1 => ("GivenSearch$Counts", "deeps", "[I", true)
  | 2 => ("GivenSearch$Counts", "totals", "[I", true)
  | 3 => ("GivenSearch$Counts", "kept", "I", false)
  | _ => ("GivenSearch$Counts", "next", "I", false)
def ax_t2 : Nat → FieldType := fun k => match k with
  | 0 => .array (.object "GivenSearch$Flat")
  | 1 => .array .int
  | 2 => .array .int
  | 3 => .int
  | _ => .int
def ax_T3 : u_T := fun k => match k with
  | 0 => ("GivenSearch$Forest", "nodes", "LGivenSearch$Nodes;", true)
  | 1 => ("GivenSearch$Forest", "signs", "[I", false)
  | _ => ("GivenSearch$Forest", "signTop", "I", false)
def ax_t3 : Nat → FieldType := fun k => match k with
  | 0 => .object "GivenSearch$Nodes"
  | 1 => .array .int
  | _ => .int
def ax_T4 : u_T := fun k => match k with
  | _ => ("GivenSearch$Match", "putAt", "[I", true)
def ax_t4 : Nat → FieldType := fun k => match k with
  | _ => .array .int
def ax_T5 : u_T := fun k => match k with
  | 0 => ("GivenSearch$Memory", "count", "I", false)
  | 1 => ("GivenSearch$Memory", "nodes", "[I", true)
  | 2 => ("GivenSearch$Memory", "from", "[I", true)
  | 3 => ("GivenSearch$Memory", "forest", "LGivenSearch$Forest;", true)
  | 4 => ("GivenSearch$Memory", "scopes", "[I", true)
  | _ => ("GivenSearch$Memory", "goals", "[LGivenSearch$Flat;", true)
def ax_t5 : Nat → FieldType := fun k => match k with
  | 0 => .int
  | 1 => .array .int
  | 2 => .array .int
  | 3 => .object "GivenSearch$Forest"
  | 4 => .array .int
  | _ => .array (.object "GivenSearch$Flat")
def ax_T6 : u_T := fun k => match k with
  | 0 => ("GivenSearch$Nodes", "top", "I", false)
  | _ => ("GivenSearch$Nodes", "cells", "[I", false)
def ax_t6 : Nat → FieldType := fun k => match k with
  | 0 => .int
  | _ => .array .int
def ax_T7 : u_T := fun k => match k with
  | 0 => ("GivenSearch$Search", "terms", "LGivenSearch$Terms;", true)
  | 1 => ("GivenSearch$Search", "memory", "LGivenSearch$Memory;", true)
  | 2 => ("GivenSearch$Search", "tally", "[I", true)
  | 3 => ("GivenSearch$Search", "clash", "LGivenSearch$Flat;", true)
  | 4 => ("GivenSearch$Search", "first", "I", false)
  | 5 => ("GivenSearch$Search", "second", "I", false)
  | 6 => ("GivenSearch$Search", "plan", "LGivenSearch$Nodes;", true)
  | 7 => ("GivenSearch$Search", "counts", "LGivenSearch$Counts;", true)
  | 8 => ("GivenSearch$Search", "row", "LGivenSearch$Flat;", true)
  | 9 => ("GivenSearch$Search", "other", "LGivenSearch$Flat;", true)
  | 10 => ("GivenSearch$Search", "underGiven", "[I", true)
  | 11 => ("GivenSearch$Search", "underGoal", "[I", true)
  | 12 => ("GivenSearch$Search", "needAt", "[I", true)
  | 13 => ("GivenSearch$Search", "place", "[I", true)
  | 14 => ("GivenSearch$Search", "start", "I", false)
  | 15 => ("GivenSearch$Search", "outs", "I", false)
  | 16 => ("GivenSearch$Search", "shuts", "I", false)
  | 17 => ("GivenSearch$Search", "stop", "I", false)
  | 18 => ("GivenSearch$Search", "remembers", "Z", false)
  | _ => ("GivenSearch$Search", "text", "LGivenSearch$Text;", false)
def ax_t7 : Nat → FieldType := fun k => match k with
  | 0 => .object "GivenSearch$Terms"
  | 1 => .object "GivenSearch$Memory"
  | 2 => .array .int
  | 3 => .object "GivenSearch$Flat"
  | 4 => .int
  | 5 => .int
  | 6 => .object "GivenSearch$Nodes"
  | 7 => .object "GivenSearch$Counts"
  | 8 => .object "GivenSearch$Flat"
  | 9 => .object "GivenSearch$Flat"
  | 10 => .array .int
  | 11 => .array .int
  | 12 => .array .int
  | 13 => .array .int
  | 14 => .int
  | 15 => .int
  | 16 => .int
  | 17 => .int
  | 18 => .boolean
  | _ => .object "GivenSearch$Text"
def ax_T8 : u_T := fun k => match k with
  | 0 => ("GivenSearch$Tape", "length", "I", false)
  | 1 => ("GivenSearch$Tape", "at", "I", false)
  | 2 => ("GivenSearch$Tape", "octets", "[I", true)
  | _ => ("GivenSearch$Tape", "openAt", "[I", true)
def ax_t8 : Nat → FieldType := fun k => match k with
  | 0 => .int
  | 1 => .int
  | 2 => .array .int
  | _ => .array .int
def ax_T9 : u_T := fun k => match k with
  | 0 => ("GivenSearch$Terms", "top", "I", false)
  | 1 => ("GivenSearch$Terms", "trailTop", "I", false)
  | 2 => ("GivenSearch$Terms", "savedTop", "I", false)
  | 3 => ("GivenSearch$Terms", "sign", "[I", false)
  | 4 => ("GivenSearch$Terms", "listed", "[I", false)
  | 5 => ("GivenSearch$Terms", "link", "[I", false)
  | 6 => ("GivenSearch$Terms", "trail", "[I", false)
  | 7 => ("GivenSearch$Terms", "saved", "[I", false)
  | 8 => ("GivenSearch$Terms", "open", "[I", true)
  | 9 => ("GivenSearch$Terms", "pairs", "[I", true)
  | 10 => ("GivenSearch$Terms", "unknownOf", "[I", true)
  | 11 => ("GivenSearch$Terms", "names", "[I", true)
  | 12 => ("GivenSearch$Terms", "openTop", "I", false)
  | 13 => ("GivenSearch$Terms", "pairTop", "I", false)
  | _ => ("GivenSearch$Terms", "nameCount", "I", false)
def ax_t9 : Nat → FieldType := fun k => match k with
  | 0 => .int
  | 1 => .int
  | 2 => .int
  | 3 => .array .int
  | 4 => .array .int
  | 5 => .array .int
  | 6 => .array .int
  | 7 => .array .int
  | 8 => .array .int
  | 9 => .array .int
  | 10 => .array .int
  | 11 => .array .int
  | 12 => .int
  | 13 => .int
  | _ => .int
def ax_T10 : u_T := fun k => match k with
  | 0 => ("GivenSearch$Text", "scopeCount", "I", false)
  | 1 => ("GivenSearch$Text", "givenCount", "I", false)
  | 2 => ("GivenSearch$Text", "around", "[I", true)
  | 3 => ("GivenSearch$Text", "lies", "[I", true)
  | 4 => ("GivenSearch$Text", "own", "[I", true)
  | 5 => ("GivenSearch$Text", "home", "[I", true)
  | 6 => ("GivenSearch$Text", "needs", "[I", true)
  | 7 => ("GivenSearch$Text", "match", "LGivenSearch$Match;", true)
  | 8 => ("GivenSearch$Text", "parts", "[LGivenSearch$Flat;", true)
  | _ => ("GivenSearch$Text", "cases", "[I", true)
def ax_t10 : Nat → FieldType := fun k => match k with
  | 0 => .int
  | 1 => .int
  | 2 => .array .int
  | 3 => .array .int
  | 4 => .array .int
  | 5 => .array .int
  | 6 => .array .int
  | 7 => .object "GivenSearch$Match"
  | 8 => .array (.object "GivenSearch$Flat")
  | _ => .array .int
def ax_T11 : u_T := fun k => match k with
  | 0 => ("GivenSearch$Written", "length", "I", false)
  | 1 => ("GivenSearch$Written", "octets", "[I", true)
  | _ => ("GivenSearch$Written", "wanted", "[I", true)
def ax_t11 : Nat → FieldType := fun k => match k with
  | 0 => .int
  | 1 => .array .int
  | _ => .array .int
def ax_T12 : u_T := fun k => match k with
  | 0 => ("GivenSearch", "tape", "LGivenSearch$Tape;", true)
  | 1 => ("GivenSearch", "types", "[LGivenSearch$Flat;", true)
  | 2 => ("GivenSearch", "read", "LGivenSearch$Flat;", true)
  | 3 => ("GivenSearch", "flat", "LGivenSearch$Flat;", true)
  | 4 => ("GivenSearch", "written", "LGivenSearch$Written;", true)
  | 5 => ("GivenSearch", "text", "LGivenSearch$Text;", false)
  | 6 => ("GivenSearch", "spare", "LGivenSearch$Text;", false)
  | 7 => ("GivenSearch", "search", "LGivenSearch$Search;", true)
  | 8 => ("GivenSearch", "faultAt", "I", false)
  | 9 => ("GivenSearch", "outs", "I", false)
  | 10 => ("GivenSearch", "shuts", "I", false)
  | 11 => ("GivenSearch", "told", "[I", true)
  | 12 => ("GivenSearch", "goal", "LGivenSearch$Flat;", true)
  | 13 => ("GivenSearch", "clash", "LGivenSearch$Flat;", true)
  | 14 => ("GivenSearch", "tree", "LGivenSearch$Forest;", true)
  | 15 => ("GivenSearch", "askedIn", "I", false)
  | 16 => ("GivenSearch", "firstOfBoth", "I", false)
  | _ => ("GivenSearch", "secondOfBoth", "I", false)
def ax_t12 : Nat → FieldType := fun k => match k with
  | 0 => .object "GivenSearch$Tape"
  | 1 => .array (.object "GivenSearch$Flat")
  | 2 => .object "GivenSearch$Flat"
  | 3 => .object "GivenSearch$Flat"
  | 4 => .object "GivenSearch$Written"
  | 5 => .object "GivenSearch$Text"
  | 6 => .object "GivenSearch$Text"
  | 7 => .object "GivenSearch$Search"
  | 8 => .int
  | 9 => .int
  | 10 => .int
  | 11 => .array .int
  | 12 => .object "GivenSearch$Flat"
  | 13 => .object "GivenSearch$Flat"
  | 14 => .object "GivenSearch$Forest"
  | 15 => .int
  | 16 => .int
  | _ => .int
def ax_cl : List vw_C := [("GivenSearch$Flat", ax_T0, 2), ("GivenSearchModel", ax_T1, 144), ("GivenSearch$Counts", ax_T2, 5), ("GivenSearch$Forest", ax_T3, 3), ("GivenSearch$Match", ax_T4, 1), ("GivenSearch$Memory", ax_T5, 6), ("GivenSearch$Nodes", ax_T6, 2), ("GivenSearch$Search", ax_T7, 20), ("GivenSearch$Tape", ax_T8, 4), ("GivenSearch$Terms", ax_T9, 15), ("GivenSearch$Text", ax_T10, 10), ("GivenSearch$Written", ax_T11, 3), ("GivenSearch", ax_T12, 18)]
def ax_ty (ci k : Nat) : FieldType := match ci with
  | 0 => ax_t0 k
  | 1 => ax_t1 k
  | 2 => ax_t2 k
  | 3 => ax_t3 k
  | 4 => ax_t4 k
  | 5 => ax_t5 k
  | 6 => ax_t6 k
  | 7 => ax_t7 k
  | 8 => ax_t8 k
  | 9 => ax_t9 k
  | 10 => ax_t10 k
  | 11 => ax_t11 k
  | _ => ax_t12 k
def ax_own (o : Nat) : String := match o with
  | 0 => "GivenSearch$Flat"
  | 1 => "GivenSearchModel"
  | 2 => "GivenSearch$Counts"
  | 3 => "GivenSearch$Forest"
  | 4 => "GivenSearch$Match"
  | 5 => "GivenSearch$Memory"
  | 6 => "GivenSearch$Nodes"
  | 7 => "GivenSearch$Search"
  | 8 => "GivenSearch$Tape"
  | 9 => "GivenSearch$Terms"
  | 10 => "GivenSearch$Text"
  | 11 => "GivenSearch$Written"
  | 12 => "GivenSearch"
  | 13 => "java/lang/Integer"
  | 14 => "java/lang/Math"
  | 15 => "java/util/Arrays"
  | _ => "GivenSearchLaw"
-- links: owner, place in the pool, what it is, its place in the tables
def ax_FR : List (Nat × Nat × Nat × Nat × Nat) := [(0, 15, 0, 0, 58), (0, 21, 0, 1, 59), (1, 1, 1, 0, 1350), (1, 7, 1, 1, 1351), (1, 19, 1, 2, 1352), (1, 22, 1, 3, 1353), (1, 33, 1, 6, 1356), (1, 36, 1, 7, 1357), (1, 45, 1, 4, 1354), (1, 61, 1, 5, 1355), (1, 64, 1, 24, 1374), (1, 67, 1, 21, 1371), (1, 70, 1, 20, 1370), (1, 87, 1, 19, 1369), (1, 90, 1, 18, 1368), (1, 93, 1, 22, 1372), (1, 96, 1, 25, 1375), (1, 99, 1, 23, 1373), (1, 102, 1, 17, 1367), (1, 118, 1, 13, 1363), (1, 121, 1, 14, 1364), (1, 124, 1, 15, 1365), (1, 127, 1, 16, 1366), (1, 130, 1, 8, 1358), (1, 133, 1, 9, 1359), (1, 136, 1, 10, 1360), (1, 139, 1, 12, 1362), (1, 142, 1, 11, 1361), (1, 145, 1, 26, 1376), (1, 156, 1, 51, 1401), (1, 160, 1, 70, 1420), (1, 193, 1, 27, 1377), (1, 211, 1, 33, 1383), (1, 214, 1, 34, 1384), (1, 217, 1, 35, 1385), (1, 220, 1, 28, 1378), (1, 223, 1, 30, 1380), (1, 226, 1, 36, 1386), (1, 229, 1, 38, 1388), (1, 235, 1, 37, 1387), (1, 238, 1, 29, 1379), (1, 241, 1, 31, 1381), (1, 251, 1, 32, 1382), (1, 254, 1, 39, 1389), (1, 260, 1, 40, 1390), (1, 270, 1, 44, 1394), (1, 273, 1, 42, 1392), (1, 276, 1, 43, 1393), (1, 279, 1, 45, 1395), (1, 282, 1, 41, 1391), (1, 294, 1, 46, 1396), (1, 297, 1, 47, 1397), (1, 300, 1, 48, 1398), (1, 303, 1, 52, 1402), (1, 306, 1, 53, 1403), (1, 309, 1, 54, 1404), (1, 312, 1, 55, 1405), (1, 315, 1, 56, 1406), (1, 318, 1, 57, 1407), (1, 322, 1, 58, 1408), (1, 325, 1, 59, 1409), (1, 328, 1, 60, 1410), (1, 331, 1, 61, 1411), (1, 335, 1, 62, 1412), (1, 338, 1, 66, 1416), (1, 341, 1, 67, 1417), (1, 344, 1, 68, 1418), (1, 347, 1, 69, 1419), (1, 350, 1, 71, 1421), (1, 353, 1, 72, 1422), (1, 356, 1, 73, 1423), (1, 359, 1, 74, 1424), (1, 362, 1, 75, 1425), (1, 365, 1, 76, 1426), (1, 368, 1, 77, 1427), (1, 371, 1, 78, 1428), (1, 374, 1, 79, 1429), (1, 377, 1, 80, 1430), (1, 380, 1, 81, 1431), (1, 383, 1, 82, 1432), (1, 386, 1, 83, 1433), (1, 389, 1, 84, 1434), (1, 392, 1, 85, 1435), (1, 395, 1, 86, 1436), (1, 398, 1, 87, 1437), (1, 401, 1, 88, 1438), (1, 404, 1, 89, 1439), (1, 407, 1, 90, 1440), (1, 410, 1, 91, 1441), (1, 413, 1, 92, 1442), (1, 416, 1, 93, 1443), (1, 419, 1, 94, 1444), (1, 422, 1, 95, 1445), (1, 425, 1, 96, 1446), (1, 428, 1, 109, 1459), (1, 431, 1, 110, 1460), (1, 434, 1, 112, 1462), (1, 437, 1, 113, 1463), (1, 440, 1, 114, 1464), (1, 443, 1, 115, 1465), (1, 446, 1, 116, 1466), (1, 449, 1, 117, 1467), (1, 452, 1, 118, 1468), (1, 455, 1, 119, 1469), (1, 458, 1, 120, 1470), (1, 461, 1, 121, 1471), (1, 464, 1, 122, 1472), (1, 467, 1, 123, 1473), (1, 470, 1, 124, 1474), (1, 473, 1, 125, 1475), (1, 476, 1, 130, 1480), (1, 479, 1, 131, 1481), (1, 482, 1, 132, 1482), (1, 485, 1, 134, 1484), (1, 488, 1, 135, 1485), (1, 491, 1, 136, 1486), (1, 494, 1, 137, 1487), (1, 497, 1, 138, 1488), (1, 500, 1, 139, 1489), (1, 503, 1, 140, 1490), (1, 506, 1, 141, 1491), (1, 509, 1, 142, 1492), (1, 513, 1, 143, 1493), (1, 519, 1, 63, 1413), (1, 522, 1, 65, 1415), (1, 540, 1, 103, 1453), (1, 543, 1, 98, 1448), (1, 546, 1, 99, 1449), (1, 549, 1, 107, 1457), (1, 552, 1, 100, 1450), (1, 555, 1, 108, 1458), (1, 561, 1, 104, 1454), (1, 564, 1, 101, 1451), (1, 567, 1, 102, 1452), (1, 570, 1, 105, 1455), (1, 573, 1, 97, 1447), (1, 580, 1, 106, 1456), (1, 583, 1, 64, 1414), (1, 625, 1, 50, 1400), (1, 628, 1, 49, 1399), (1, 631, 1, 111, 1461), (1, 637, 1, 126, 1476), (1, 643, 1, 127, 1477), (1, 652, 1, 128, 1478), (1, 655, 1, 129, 1479), (1, 671, 1, 133, 1483), (2, 13, 2, 0, 289), (2, 17, 2, 1, 290), (2, 21, 2, 2, 291), (2, 24, 2, 3, 292), (2, 28, 2, 4, 293), (2, 35, 0, 1, 62), (3, 12, 3, 0, 242), (3, 18, 3, 1, 247), (3, 22, 6, 0, 230), (3, 26, 3, 2, 248), (3, 41, 0, 1, 61), (4, 9, 4, 0, 103), (4, 21, 0, 1, 60), (5, 9, 5, 1, 259), (5, 15, 5, 2, 260), (5, 21, 5, 3, 261), (5, 25, 5, 4, 263), (5, 30, 5, 5, 264), (5, 34, 5, 0, 257), (5, 56, 3, 0, 243), (5, 59, 6, 0, 233), (6, 9, 6, 1, 236), (6, 15, 6, 0, 231), (7, 12, 7, 0, 305), (7, 21, 7, 1, 307), (7, 25, 7, 2, 309), (7, 34, 7, 3, 311), (7, 38, 7, 4, 313), (7, 42, 7, 5, 315), (7, 48, 7, 6, 317), (7, 55, 7, 7, 318), (7, 59, 7, 8, 319), (7, 62, 7, 9, 320), (7, 65, 7, 10, 321), (7, 68, 7, 11, 322), (7, 71, 7, 12, 323), (7, 74, 7, 13, 324), (7, 77, 7, 19, 330), (7, 87, 6, 0, 232), (7, 96, 7, 14, 325), (7, 99, 7, 15, 326), (7, 102, 7, 16, 327), (7, 105, 7, 17, 328), (7, 112, 7, 18, 329), (7, 134, 10, 4, 120), (7, 144, 9, 1, 166), (7, 147, 9, 0, 164), (7, 148, 10, 1, 113), (7, 196, 0, 1, 66), (7, 216, 5, 3, 262), (7, 241, 9, 2, 168), (7, 272, 3, 0, 246), (8, 9, 8, 2, 36), (8, 15, 8, 3, 37), (8, 18, 8, 0, 33), (8, 22, 8, 1, 34), (8, 53, 0, 1, 67), (8, 90, 10, 1, 114), (9, 9, 9, 3, 169), (9, 15, 9, 4, 170), (9, 18, 9, 5, 171), (9, 21, 9, 6, 172), (9, 24, 9, 7, 173), (9, 27, 9, 8, 174), (9, 30, 9, 9, 175), (9, 33, 9, 10, 176), (9, 36, 9, 11, 177), (9, 39, 9, 0, 163), (9, 43, 9, 1, 165), (9, 46, 9, 2, 167), (9, 72, 9, 12, 178), (9, 75, 0, 1, 65), (9, 104, 9, 13, 179), (9, 149, 9, 14, 180), (10, 9, 10, 2, 115), (10, 15, 10, 3, 117), (10, 18, 10, 4, 119), (10, 21, 10, 5, 122), (10, 24, 10, 6, 124), (10, 30, 10, 7, 126), (10, 36, 10, 8, 128), (10, 40, 10, 9, 129), (10, 46, 10, 0, 109), (10, 50, 10, 1, 111), (10, 68, 0, 1, 68), (11, 11, 11, 1, 82), (11, 15, 11, 2, 83), (11, 18, 11, 0, 80), (11, 26, 0, 1, 63), (11, 47, 3, 0, 244), (11, 53, 6, 0, 234), (12, 12, 12, 0, 378), (12, 18, 12, 1, 379), (12, 25, 12, 2, 380), (12, 29, 12, 3, 381), (12, 35, 12, 4, 382), (12, 42, 12, 5, 383), (12, 46, 12, 6, 384), (12, 54, 12, 7, 385), (12, 58, 12, 8, 386), (12, 62, 12, 11, 389), (12, 66, 12, 12, 390), (12, 69, 12, 13, 391), (12, 75, 12, 14, 392), (12, 79, 12, 16, 394), (12, 82, 12, 17, 395), (12, 88, 8, 0, 32), (12, 98, 8, 1, 35), (12, 107, 12, 9, 387), (12, 110, 12, 10, 388), (12, 116, 10, 1, 112), (12, 119, 10, 0, 110), (12, 122, 7, 1, 308), (12, 126, 5, 0, 258), (12, 139, 10, 2, 116), (12, 142, 10, 4, 121), (12, 151, 10, 3, 118), (12, 170, 10, 5, 123), (12, 173, 10, 6, 125), (12, 176, 0, 1, 64), (12, 215, 10, 7, 127), (12, 230, 12, 15, 393), (12, 240, 3, 0, 245), (12, 256, 6, 0, 235), (12, 264, 11, 0, 81), (12, 274, 7, 0, 306), (12, 307, 7, 2, 310), (12, 326, 7, 4, 314), (12, 329, 7, 5, 316), (12, 332, 7, 3, 312)]
def ax_MR : List (Nat × Nat × Nat × Nat × Nat × String) := [(16, 9, 251, 2, 20, ""), (12, 3, 0, 3, 23, ""), (12, 11, 182, 4, 28, "GivenSearch"), (8, 3, 0, 3, 31, ""), (12, 22, 114, 2, 51, ""), (0, 3, 0, 3, 54, ""), (0, 9, 0, 7, 55, ""), (12, 34, 240, 4, 76, "GivenSearch"), (11, 3, 0, 3, 79, ""), (12, 41, 222, 2, 93, ""), (10, 3, 0, 3, 96, ""), (10, 29, 140, 4, 99, "GivenSearch"), (4, 3, 0, 3, 102, ""), (10, 43, 114, 2, 108, ""), (12, 51, 155, 2, 153, ""), (7, 3, 0, 3, 156, ""), (7, 11, 195, 4, 159, "GivenSearch"), (9, 3, 0, 3, 162, ""), (7, 20, 143, 4, 214, "GivenSearch"), (5, 3, 0, 3, 217, ""), (5, 20, 132, 4, 220, "GivenSearch"), (3, 3, 0, 3, 223, ""), (3, 11, 150, 4, 226, "GivenSearch"), (6, 3, 0, 3, 229, ""), (7, 31, 114, 2, 279, ""), (7, 47, 150, 4, 281, "GivenSearch"), (7, 54, 128, 4, 284, "GivenSearch"), (2, 3, 0, 3, 287, ""), (12, 74, 132, 4, 373, "GivenSearch"), (12, 85, 116, 0, 374, ""), (16, 13, 252, 0, 433, ""), (12, 91, 183, 0, 437, ""), (16, 18, 253, 0, 441, ""), (16, 23, 254, 0, 445, ""), (12, 94, 193, 0, 449, ""), (8, 73, 223, 0, 453, ""), (8, 29, 185, 0, 457, ""), (8, 25, 184, 0, 461, ""), (8, 76, 226, 0, 465, ""), (10, 53, 224, 0, 469, ""), (8, 80, 227, 0, 473, ""), (8, 64, 186, 0, 477, ""), (8, 83, 228, 0, 481, ""), (8, 86, 194, 0, 485, ""), (8, 93, 230, 0, 489, ""), (8, 33, 190, 0, 493, ""), (8, 37, 115, 0, 497, ""), (8, 42, 187, 0, 501, ""), (8, 46, 188, 0, 505, ""), (8, 49, 116, 0, 509, ""), (8, 56, 191, 0, 510, ""), (8, 60, 192, 0, 514, ""), (8, 67, 119, 0, 518, ""), (0, 29, 117, 0, 522, ""), (0, 33, 120, 1, 526, ""), (8, 70, 118, 0, 529, ""), (0, 25, 121, 0, 533, ""), (0, 36, 0, 8, 537, ""), (8, 97, 229, 0, 540, ""), (12, 101, 236, 0, 544, ""), (10, 64, 230, 0, 548, ""), (10, 75, 141, 0, 549, ""), (4, 15, 112, 1, 553, ""), (4, 27, 117, 0, 556, ""), (4, 31, 142, 0, 557, ""), (4, 35, 127, 0, 561, ""), (0, 43, 119, 0, 565, ""), (12, 104, 156, 0, 566, ""), (7, 81, 144, 0, 570, ""), (5, 38, 133, 0, 574, ""), (12, 113, 133, 0, 578, ""), (16, 28, 255, 0, 579, ""), (16, 32, 256, 0, 583, ""), (12, 131, 232, 0, 587, ""), (16, 36, 257, 0, 591, ""), (12, 135, 224, 0, 595, ""), (12, 145, 111, 1, 596, ""), (12, 154, 235, 0, 602, ""), (16, 41, 258, 0, 606, ""), (12, 157, 225, 0, 610, ""), (12, 160, 230, 0, 614, ""), (12, 164, 126, 0, 615, ""), (12, 167, 234, 0, 619, ""), (10, 60, 231, 0, 623, ""), (10, 57, 225, 0, 627, ""), (10, 71, 126, 0, 628, ""), (12, 179, 233, 0, 629, ""), (16, 45, 259, 0, 633, ""), (12, 182, 279, 1, 637, ""), (12, 186, 144, 0, 640, ""), (16, 50, 260, 0, 641, ""), (16, 54, 261, 0, 645, ""), (12, 189, 237, 0, 649, ""), (10, 79, 279, 5, 653, "GivenSearch"), (12, 192, 177, 0, 654, ""), (7, 84, 196, 0, 658, ""), (7, 116, 203, 0, 662, ""), (9, 68, 112, 1, 666, ""), (9, 80, 117, 0, 667, ""), (9, 83, 204, 0, 668, ""), (9, 86, 202, 0, 672, ""), (9, 60, 201, 1, 677, ""), (9, 53, 113, 1, 680, ""), (15, 304, 0, 8, 690, ""), (15, 150, 0, 6, 691, ""), (9, 64, 200, 0, 695, ""), (9, 89, 120, 1, 699, ""), (9, 92, 206, 0, 700, ""), (9, 96, 205, 0, 704, ""), (7, 155, 209, 0, 708, ""), (9, 107, 210, 0, 712, ""), (9, 112, 208, 0, 717, ""), (9, 49, 197, 0, 721, ""), (9, 100, 199, 0, 725, ""), (9, 115, 198, 0, 729, ""), (9, 119, 213, 0, 733, ""), (9, 129, 214, 0, 737, ""), (9, 132, 215, 0, 741, ""), (9, 135, 216, 0, 745, ""), (9, 123, 212, 0, 749, ""), (9, 126, 211, 0, 753, ""), (16, 58, 262, 0, 757, ""), (12, 196, 261, 0, 761, ""), (16, 62, 263, 0, 762, ""), (12, 200, 280, 0, 766, ""), (12, 203, 189, 0, 770, ""), (12, 207, 122, 0, 774, ""), (0, 39, 116, 0, 778, ""), (16, 66, 264, 0, 779, ""), (12, 211, 176, 0, 783, ""), (7, 192, 220, 0, 787, ""), (9, 146, 115, 0, 791, ""), (9, 152, 221, 0, 792, ""), (9, 155, 116, 0, 796, ""), (9, 158, 207, 0, 797, ""), (12, 219, 141, 0, 801, ""), (12, 224, 125, 0, 802, ""), (16, 71, 265, 0, 806, ""), (12, 227, 281, 0, 810, ""), (12, 259, 241, 0, 814, ""), (12, 304, 245, 0, 818, ""), (11, 31, 117, 0, 822, ""), (11, 35, 246, 0, 823, ""), (11, 22, 243, 0, 827, ""), (11, 44, 244, 0, 831, ""), (11, 38, 119, 0, 835, ""), (11, 41, 247, 0, 836, ""), (16, 75, 266, 0, 840, ""), (12, 233, 158, 0, 844, ""), (7, 108, 157, 0, 848, ""), (7, 90, 112, 1, 852, ""), (7, 120, 162, 0, 853, ""), (7, 162, 163, 0, 857, ""), (7, 165, 0, 7, 861, ""), (7, 171, 164, 0, 862, ""), (7, 199, 154, 0, 866, ""), (6, 20, 113, 1, 871, ""), (7, 203, 153, 0, 872, ""), (7, 175, 124, 0, 876, ""), (7, 179, 145, 0, 880, ""), (5, 41, 123, 0, 884, ""), (7, 183, 165, 0, 888, ""), (7, 206, 148, 0, 892, ""), (7, 186, 167, 0, 896, ""), (7, 224, 168, 0, 900, ""), (7, 227, 161, 0, 904, ""), (7, 137, 159, 0, 908, ""), (7, 124, 224, 0, 912, ""), (7, 130, 279, 5, 913, "GivenSearch"), (7, 151, 230, 0, 914, ""), (7, 158, 217, 0, 915, ""), (9, 138, 0, 8, 919, ""), (7, 230, 111, 1, 920, ""), (7, 235, 239, 0, 921, ""), (10, 86, 238, 0, 925, ""), (10, 83, 237, 0, 929, ""), (7, 238, 169, 0, 930, ""), (7, 244, 171, 0, 934, ""), (7, 263, 125, 0, 938, ""), (7, 248, 172, 0, 939, ""), (7, 266, 173, 0, 943, ""), (7, 269, 231, 0, 947, ""), (7, 251, 152, 0, 948, ""), (7, 254, 218, 0, 952, ""), (9, 143, 0, 7, 956, ""), (7, 257, 170, 0, 957, ""), (7, 260, 219, 0, 961, ""), (7, 141, 228, 0, 965, ""), (7, 189, 166, 0, 966, ""), (7, 209, 146, 0, 970, ""), (5, 45, 145, 0, 974, ""), (7, 213, 147, 0, 975, ""), (5, 49, 114, 2, 979, ""), (5, 52, 122, 0, 980, ""), (7, 220, 174, 0, 981, ""), (7, 277, 134, 0, 985, ""), (3, 29, 154, 0, 989, ""), (3, 33, 152, 0, 990, ""), (3, 37, 153, 0, 991, ""), (3, 46, 0, 8, 992, ""), (3, 51, 117, 0, 993, ""), (3, 55, 135, 0, 994, ""), (3, 60, 113, 1, 999, ""), (7, 280, 175, 0, 1000, ""), (7, 284, 149, 0, 1004, ""), (7, 287, 136, 0, 1008, ""), (3, 66, 115, 0, 1012, ""), (3, 69, 116, 0, 1013, ""), (12, 237, 282, 0, 1014, ""), (12, 310, 0, 6, 1018, ""), (12, 316, 174, 0, 1019, ""), (12, 320, 137, 0, 1020, ""), (3, 71, 138, 0, 1024, ""), (3, 74, 0, 7, 1028, ""), (12, 323, 139, 0, 1029, ""), (3, 77, 111, 1, 1033, ""), (16, 79, 267, 0, 1034, ""), (16, 83, 268, 0, 1038, ""), (12, 244, 151, 0, 1042, ""), (12, 249, 152, 0, 1046, ""), (16, 87, 269, 0, 1047, ""), (12, 252, 136, 0, 1051, ""), (16, 91, 270, 0, 1052, ""), (12, 260, 248, 0, 1056, ""), (11, 58, 138, 0, 1060, ""), (11, 61, 249, 0, 1061, ""), (11, 69, 250, 0, 1065, ""), (11, 65, 152, 0, 1069, ""), (16, 95, 271, 0, 1070, ""), (12, 265, 269, 0, 1074, ""), (16, 99, 272, 0, 1075, ""), (16, 103, 273, 0, 1079, ""), (12, 268, 242, 0, 1083, ""), (16, 107, 274, 0, 1087, ""), (16, 111, 275, 0, 1091, ""), (16, 115, 276, 0, 1095, ""), (16, 119, 277, 0, 1099, ""), (12, 270, 157, 0, 1103, ""), (12, 278, 203, 0, 1104, ""), (12, 284, 161, 0, 1105, ""), (12, 287, 239, 0, 1106, ""), (12, 290, 228, 0, 1107, ""), (16, 123, 278, 0, 1108, ""), (12, 293, 124, 0, 1112, ""), (12, 297, 160, 0, 1113, ""), (12, 300, 178, 0, 1117, ""), (7, 290, 129, 0, 1121, ""), (7, 291, 0, 8, 1125, ""), (7, 294, 179, 0, 1126, ""), (7, 297, 180, 0, 1130, ""), (7, 309, 181, 0, 1135, ""), (7, 313, 0, 9, 1139, ""), (7, 300, 130, 0, 1142, ""), (2, 31, 123, 0, 1146, ""), (7, 303, 131, 0, 1147, ""), (2, 38, 114, 2, 1151, ""), (2, 41, 122, 0, 1152, ""), (2, 45, 0, 7, 1153, ""), (16, 17, 7, 0, 1154, ""), (1, 11, 6, 0, 1158, ""), (16, 22, 8, 0, 1163, ""), (1, 15, 0, 1, 1167, ""), (16, 27, 22, 0, 1170, ""), (1, 115, 20, 0, 1174, ""), (1, 105, 21, 0, 1178, ""), (1, 109, 19, 0, 1182, ""), (1, 25, 9, 0, 1186, ""), (1, 29, 10, 0, 1190, ""), (1, 112, 18, 0, 1194, ""), (1, 77, 14, 0, 1198, ""), (1, 39, 12, 1, 1202, ""), (1, 42, 13, 1, 1205, ""), (1, 49, 4, 1, 1208, ""), (1, 53, 3, 1, 1211, ""), (1, 57, 15, 0, 1214, ""), (1, 81, 17, 0, 1218, ""), (1, 73, 16, 1, 1222, ""), (1, 84, 11, 0, 1225, ""), (1, 149, 35, 0, 1229, ""), (1, 189, 36, 0, 1233, ""), (1, 196, 34, 1, 1237, ""), (1, 186, 5, 1, 1240, ""), (1, 153, 54, 0, 1243, ""), (16, 31, 23, 0, 1247, ""), (16, 35, 26, 0, 1251, ""), (16, 40, 28, 0, 1255, ""), (1, 163, 24, 0, 1259, ""), (1, 166, 27, 0, 1263, ""), (16, 44, 31, 0, 1267, ""), (1, 176, 25, 0, 1271, ""), (1, 169, 29, 0, 1275, ""), (1, 173, 2, 1, 1279, ""), (1, 179, 30, 0, 1282, ""), (16, 49, 32, 0, 1286, ""), (1, 182, 1, 1, 1290, ""), (16, 53, 33, 0, 1293, ""), (16, 57, 37, 0, 1297, ""), (1, 200, 39, 0, 1301, ""), (1, 203, 43, 0, 1305, ""), (1, 244, 41, 0, 1309, ""), (1, 247, 42, 0, 1313, ""), (1, 232, 40, 0, 1317, ""), (1, 206, 48, 0, 1321, ""), (1, 257, 44, 0, 1325, ""), (1, 263, 47, 0, 1329, ""), (1, 266, 45, 0, 1333, ""), (16, 61, 38, 0, 1337, ""), (1, 209, 37, 0, 1341, ""), (16, 12, 51, 2, 1343, ""), (1, 288, 0, 3, 1346, ""), (16, 65, 53, 0, 1786, ""), (1, 516, 52, 0, 1790, ""), (16, 78, 79, 0, 1794, ""), (1, 658, 74, 0, 1798, ""), (1, 589, 60, 0, 1802, ""), (1, 537, 50, 0, 1806, ""), (1, 285, 49, 0, 1810, ""), (1, 558, 55, 0, 1814, ""), (1, 576, 56, 0, 1818, ""), (1, 525, 57, 0, 1822, ""), (1, 531, 46, 0, 1826, ""), (1, 528, 59, 0, 1830, ""), (1, 534, 58, 0, 1834, ""), (1, 634, 67, 0, 1838, ""), (1, 598, 68, 0, 1842, ""), (1, 595, 64, 0, 1846, ""), (1, 586, 63, 0, 1850, ""), (1, 592, 65, 0, 1854, ""), (1, 601, 61, 0, 1858, ""), (1, 604, 62, 0, 1862, ""), (1, 607, 69, 0, 1866, ""), (1, 613, 66, 0, 1870, ""), (1, 610, 70, 0, 1874, ""), (1, 616, 71, 0, 1878, ""), (1, 619, 72, 0, 1882, ""), (1, 622, 73, 0, 1886, ""), (1, 662, 78, 0, 1890, ""), (1, 646, 76, 0, 1894, ""), (1, 640, 75, 0, 1898, ""), (1, 649, 77, 0, 1902, ""), (16, 82, 80, 0, 1906, ""), (16, 86, 83, 0, 1910, ""), (1, 668, 82, 0, 1914, ""), (1, 665, 81, 0, 1918, ""), (16, 90, 88, 0, 1922, ""), (1, 683, 86, 0, 1926, ""), (1, 674, 84, 0, 1930, ""), (1, 677, 85, 0, 1934, ""), (1, 680, 87, 0, 1938, ""), (16, 98, 89, 0, 1942, ""), (16, 94, 90, 0, 1946, ""), (16, 102, 91, 0, 1950, ""), (16, 106, 92, 0, 1954, ""), (16, 110, 94, 0, 1958, ""), (1, 686, 93, 0, 1962, ""), (16, 114, 95, 0, 1966, ""), (16, 118, 96, 0, 1970, ""), (16, 70, 100, 0, 1974, ""), (1, 689, 97, 1, 1978, ""), (1, 692, 98, 0, 1981, ""), (1, 695, 99, 0, 1985, ""), (16, 74, 101, 0, 1989, ""), (16, 122, 102, 0, 1993, ""), (16, 126, 110, 0, 1997, ""), (1, 717, 103, 0, 2001, ""), (1, 720, 108, 0, 2005, ""), (1, 703, 104, 0, 2009, ""), (1, 706, 106, 0, 2013, ""), (1, 700, 107, 0, 2017, ""), (1, 709, 109, 0, 2021, ""), (1, 713, 105, 1, 2025, "")]
def ax_CR : List (Nat × Nat × Nat × Nat) := [(16, 7, 12, 18), (12, 9, 8, 26), (12, 16, 0, 48), (12, 32, 11, 74), (12, 39, 10, 91), (10, 27, 4, 97), (10, 34, 0, 107), (12, 49, 7, 151), (7, 9, 9, 157), (7, 18, 5, 212), (5, 18, 3, 218), (3, 9, 6, 224), (5, 28, 0, 256), (7, 29, 0, 278), (7, 45, 6, 280), (7, 52, 2, 282), (2, 11, 0, 288), (12, 72, 3, 372), (16, 10, 1, 1342)]
def ax_KR : List (Nat × Nat × Nat × Nat) := [(13, 265, 1431655765, 599), (13, 266, 858993459, 600), (13, 267, 252645135, 601), (9, 59, 65536, 676), (9, 63, 196608, 694), (9, 111, 16777216, 716), (6, 19, 131072, 870), (3, 59, 1048576, 998), (1, 293, 40000, 1347), (1, 321, 33680, 1348), (1, 334, 820000, 1349)]
def ax_LR : List (Nat × Nat × Nat × Nat) := [(7, 307, 1000000, 1134), (1, 698, 1000000, 2028)]
-- methods: owner, name, bytes, locals, answer, parameters, static, place of its code word
abbrev ax_Mt : Type := Nat × MethodName × ByteArray × Nat × Option FieldType × Nat × Bool × Nat × Nat × Nat
def ax_m0 : ax_Mt := (1, ⟨"GivenSearchModel", "isIn", "(III)Z"⟩, prog_14_method_1_code, 3, some .boolean, 3, true, 1169, 1168, 0)
def ax_m1 : ax_Mt := (1, ⟨"GivenSearchModel", "has", "(II)Z"⟩, prog_14_method_2_code, 2, some .boolean, 2, true, 1292, 1291, 0)
def ax_m2 : ax_Mt := (1, ⟨"GivenSearchModel", "bits", "(I)I"⟩, prog_14_method_3_code, 3, some .int, 1, true, 1281, 1280, 0)
def ax_m3 : ax_Mt := (1, ⟨"GivenSearchModel", "con", "(II)I"⟩, prog_14_method_4_code, 2, some .int, 2, true, 1213, 1212, 0)
def ax_m4 : ax_Mt := (1, ⟨"GivenSearchModel", "var", "(I)I"⟩, prog_14_method_5_code, 1, some .int, 1, true, 1210, 1209, 0)
def ax_m5 : ax_Mt := (1, ⟨"GivenSearchModel", "partsOf", "(I)I"⟩, prog_14_method_6_code, 1, some .int, 1, true, 1242, 1241, 0)
def ax_m6 : ax_Mt := (1, ⟨"GivenSearchModel", "four", "(I)V"⟩, prog_14_method_7_code, 3, none, 1, false, 1162, 1160, 56)
def ax_m7 : ax_Mt := (1, ⟨"GivenSearchModel", "feed", "(IIIII)I"⟩, prog_14_method_8_code, 6, some .int, 5, false, 1157, 1155, 1283)
def ax_m8 : ax_Mt := (1, ⟨"GivenSearchModel", "end", "(I)I"⟩, prog_14_method_9_code, 2, some .int, 1, false, 1166, 1164, 1292)
def ax_m9 : ax_Mt := (1, ⟨"GivenSearchModel", "here", "()I"⟩, prog_14_method_10_code, 1, some .int, 0, false, 1189, 1188, 60)
def ax_m10 : ax_Mt := (1, ⟨"GivenSearchModel", "fails", "(I)Z"⟩, prog_14_method_11_code, 2, some .boolean, 1, false, 1193, 1192, 61)
def ax_m11 : ax_Mt := (1, ⟨"GivenSearchModel", "takes", "(I)Z"⟩, prog_14_method_12_code, 2, some .boolean, 1, false, 1228, 1227, 66)
def ax_m12 : ax_Mt := (1, ⟨"GivenSearchModel", "isVar", "(I)Z"⟩, prog_14_method_13_code, 1, some .boolean, 1, true, 1204, 1203, 0)
def ax_m13 : ax_Mt := (1, ⟨"GivenSearchModel", "isCon", "(I)Z"⟩, prog_14_method_14_code, 1, some .boolean, 1, true, 1207, 1206, 0)
def ax_m14 : ax_Mt := (1, ⟨"GivenSearchModel", "readType", "()Z"⟩, prog_14_method_15_code, 3, some .boolean, 0, false, 1201, 1200, 63)
def ax_m15 : ax_Mt := (1, ⟨"GivenSearchModel", "hasMore", "(Z)Z"⟩, prog_14_method_16_code, 3, some .boolean, 1, false, 1217, 1216, 64)
def ax_m16 : ax_Mt := (1, ⟨"GivenSearchModel", "copy", "([III[II)V"⟩, prog_14_method_17_code, 6, none, 5, true, 1224, 1223, 0)
def ax_m17 : ax_Mt := (1, ⟨"GivenSearchModel", "layType", "(I)V"⟩, prog_14_method_18_code, 3, none, 1, false, 1221, 1220, 65)
def ax_m18 : ax_Mt := (1, ⟨"GivenSearchModel", "readGiven", "()Z"⟩, prog_14_method_19_code, 3, some .boolean, 0, false, 1197, 1196, 62)
def ax_m19 : ax_Mt := (1, ⟨"GivenSearchModel", "openScope", "()Z"⟩, prog_14_method_20_code, 1, some .boolean, 0, false, 1185, 1184, 59)
def ax_m20 : ax_Mt := (1, ⟨"GivenSearchModel", "readScopes", "()Z"⟩, prog_14_method_21_code, 2, some .boolean, 0, false, 1177, 1176, 57)
def ax_m21 : ax_Mt := (1, ⟨"GivenSearchModel", "beginText", "()V"⟩, prog_14_method_22_code, 1, none, 0, false, 1181, 1180, 58)
def ax_m22 : ax_Mt := (1, ⟨"GivenSearchModel", "scopes", "()I"⟩, prog_14_method_23_code, 4, some .int, 0, false, 1173, 1171, 1299)
def ax_m23 : ax_Mt := (1, ⟨"GivenSearchModel", "fault", "()I"⟩, prog_14_method_24_code, 1, some .int, 0, false, 1250, 1248, 1376)
def ax_m24 : ax_Mt := (1, ⟨"GivenSearchModel", "isScope", "(I)Z"⟩, prog_14_method_25_code, 2, some .boolean, 1, false, 1262, 1261, 70)
def ax_m25 : ax_Mt := (1, ⟨"GivenSearchModel", "isGiven", "(I)Z"⟩, prog_14_method_26_code, 2, some .boolean, 1, false, 1274, 1273, 72)
def ax_m26 : ax_Mt := (1, ⟨"GivenSearchModel", "is", "(I)I"⟩, prog_14_method_27_code, 4, some .int, 1, false, 1254, 1252, 1380)
def ax_m27 : ax_Mt := (1, ⟨"GivenSearchModel", "liesIn", "(I)I"⟩, prog_14_method_28_code, 4, some .int, 1, false, 1266, 1265, 71)
def ax_m28 : ax_Mt := (1, ⟨"GivenSearchModel", "scope", "(II)I"⟩, prog_14_method_29_code, 5, some .int, 2, false, 1258, 1256, 1384)
def ax_m29 : ax_Mt := (1, ⟨"GivenSearchModel", "varsOf", "(III)I"⟩, prog_14_method_30_code, 7, some .int, 3, false, 1278, 1277, 73)
def ax_m30 : ax_Mt := (1, ⟨"GivenSearchModel", "needsVars", "(I)I"⟩, prog_14_method_31_code, 2, some .int, 1, false, 1285, 1284, 74)
def ax_m31 : ax_Mt := (1, ⟨"GivenSearchModel", "given", "(II)I"⟩, prog_14_method_32_code, 5, some .int, 2, false, 1270, 1268, 1396)
def ax_m32 : ax_Mt := (1, ⟨"GivenSearchModel", "out", "(IZ)Z"⟩, prog_14_method_33_code, 3, some .boolean, 2, false, 1289, 1287, 1415)
def ax_m33 : ax_Mt := (1, ⟨"GivenSearchModel", "shut", "(IZ)Z"⟩, prog_14_method_34_code, 3, some .boolean, 2, false, 1296, 1294, 1422)
def ax_m34 : ax_Mt := (1, ⟨"GivenSearchModel", "behind", "([II)I"⟩, prog_14_method_35_code, 4, some .int, 2, true, 1239, 1238, 0)
def ax_m35 : ax_Mt := (1, ⟨"GivenSearchModel", "isPut", "(IIII)Z"⟩, prog_14_method_36_code, 5, some .boolean, 4, false, 1232, 1231, 67)
def ax_m36 : ax_Mt := (1, ⟨"GivenSearchModel", "isPutIn", "([II[III)Z"⟩, prog_14_method_37_code, 11, some .boolean, 5, false, 1236, 1235, 68)
def ax_m37 : ax_Mt := (1, ⟨"GivenSearchModel", "special", "(II)I"⟩, prog_14_method_38_code, 4, some .int, 2, false, 1300, 1298, 1426)
def ax_m38 : ax_Mt := (1, ⟨"GivenSearchModel", "clashes", "()I"⟩, prog_14_method_39_code, 4, some .int, 0, false, 1340, 1338, 1466)
def ax_m39 : ax_Mt := (1, ⟨"GivenSearchModel", "beginHeap", "()V"⟩, prog_14_method_40_code, 1, none, 0, false, 1304, 1303, 75)
def ax_m40 : ax_Mt := (1, ⟨"GivenSearchModel", "unknown", "()I"⟩, prog_14_method_41_code, 1, some .int, 0, false, 1320, 1319, 79)
def ax_m41 : ax_Mt := (1, ⟨"GivenSearchModel", "newUnknowns", "()V"⟩, prog_14_method_42_code, 2, none, 0, false, 1312, 1311, 77)
def ax_m42 : ax_Mt := (1, ⟨"GivenSearchModel", "layRow", "([III)I"⟩, prog_14_method_43_code, 7, some .int, 3, false, 1316, 1315, 78)
def ax_m43 : ax_Mt := (1, ⟨"GivenSearchModel", "layGiven", "(II)I"⟩, prog_14_method_44_code, 3, some .int, 2, false, 1308, 1307, 76)
def ax_m44 : ax_Mt := (1, ⟨"GivenSearchModel", "seen", "(I)I"⟩, prog_14_method_45_code, 3, some .int, 1, false, 1328, 1327, 81)
def ax_m45 : ax_Mt := (1, ⟨"GivenSearchModel", "tie", "(II)V"⟩, prog_14_method_46_code, 3, none, 2, false, 1336, 1335, 83)
def ax_m46 : ax_Mt := (1, ⟨"GivenSearchModel", "untie", "(I)V"⟩, prog_14_method_47_code, 2, none, 1, false, 1829, 1828, 92)
def ax_m47 : ax_Mt := (1, ⟨"GivenSearchModel", "isWithin", "(II)Z"⟩, prog_14_method_48_code, 6, some .boolean, 2, false, 1332, 1331, 82)
def ax_m48 : ax_Mt := (1, ⟨"GivenSearchModel", "isUnified", "(II)Z"⟩, prog_14_method_49_code, 8, some .boolean, 2, false, 1324, 1323, 80)
def ax_m49 : ax_Mt := (1, ⟨"GivenSearchModel", "orderOf", "(I)I"⟩, prog_14_method_50_code, 3, some .int, 1, false, 1813, 1812, 88)
def ax_m50 : ax_Mt := (1, ⟨"GivenSearchModel", "layOut", "(I)I"⟩, prog_14_method_51_code, 6, some .int, 1, false, 1809, 1808, 87)
def ax_m51 : ax_Mt := (1, ⟨"GivenSearchModel", "<init>", "()V"⟩, prog_14_method_52_code, 2, none, 0, false, 1345, 1344, 0)
def ax_m52 : ax_Mt := (1, ⟨"GivenSearchModel", "readWhole", "()Z"⟩, prog_14_method_53_code, 1, some .boolean, 0, false, 1793, 1792, 84)
def ax_m53 : ax_Mt := (1, ⟨"GivenSearchModel", "type", "(I)I"⟩, prog_14_method_54_code, 3, some .int, 1, false, 1789, 1787, 1915)
def ax_m54 : ax_Mt := (1, ⟨"GivenSearchModel", "forget", "()V"⟩, prog_14_method_55_code, 1, none, 0, false, 1246, 1245, 69)
def ax_m55 : ax_Mt := (1, ⟨"GivenSearchModel", "memoryOf", "(I)I"⟩, prog_14_method_56_code, 5, some .int, 1, false, 1817, 1816, 89)
def ax_m56 : ax_Mt := (1, ⟨"GivenSearchModel", "openLevel", "(III)V"⟩, prog_14_method_57_code, 4, none, 3, false, 1821, 1820, 90)
def ax_m57 : ax_Mt := (1, ⟨"GivenSearchModel", "candidatesOf", "(II)I"⟩, prog_14_method_58_code, 8, some .int, 2, false, 1825, 1824, 91)
def ax_m58 : ax_Mt := (1, ⟨"GivenSearchModel", "bestOf", "(I)I"⟩, prog_14_method_59_code, 6, some .int, 1, false, 1837, 1836, 94)
def ax_m59 : ax_Mt := (1, ⟨"GivenSearchModel", "newRound", "(I)V"⟩, prog_14_method_60_code, 2, none, 1, false, 1833, 1832, 93)
def ax_m60 : ax_Mt := (1, ⟨"GivenSearchModel", "askGoal", "(I)V"⟩, prog_14_method_61_code, 6, none, 1, false, 1805, 1804, 86)
def ax_m61 : ax_Mt := (1, ⟨"GivenSearchModel", "isCut", "(II)Z"⟩, prog_14_method_62_code, 6, some .boolean, 2, false, 1861, 1860, 100)
def ax_m62 : ax_Mt := (1, ⟨"GivenSearchModel", "tryGiven", "(II)V"⟩, prog_14_method_63_code, 5, none, 2, false, 1865, 1864, 101)
def ax_m63 : ax_Mt := (1, ⟨"GivenSearchModel", "goOn", "(I)V"⟩, prog_14_method_64_code, 2, none, 1, false, 1853, 1852, 98)
def ax_m64 : ax_Mt := (1, ⟨"GivenSearchModel", "back", "(I)V"⟩, prog_14_method_65_code, 2, none, 1, false, 1849, 1848, 97)
def ax_m65 : ax_Mt := (1, ⟨"GivenSearchModel", "didWell", "(I)V"⟩, prog_14_method_66_code, 4, none, 1, false, 1857, 1856, 99)
def ax_m66 : ax_Mt := (1, ⟨"GivenSearchModel", "newNode", "(I)I"⟩, prog_14_method_67_code, 5, some .int, 1, false, 1873, 1872, 103)
def ax_m67 : ax_Mt := (1, ⟨"GivenSearchModel", "step", "()V"⟩, prog_14_method_68_code, 3, none, 0, false, 1841, 1840, 95)
def ax_m68 : ax_Mt := (1, ⟨"GivenSearchModel", "comeBack", "(I)V"⟩, prog_14_method_69_code, 2, none, 1, false, 1845, 1844, 96)
def ax_m69 : ax_Mt := (1, ⟨"GivenSearchModel", "leaveFound", "(I)V"⟩, prog_14_method_70_code, 3, none, 1, false, 1869, 1868, 102)
def ax_m70 : ax_Mt := (1, ⟨"GivenSearchModel", "leave", "(II)V"⟩, prog_14_method_71_code, 3, none, 2, false, 1877, 1876, 104)
def ax_m71 : ax_Mt := (1, ⟨"GivenSearchModel", "remember", "(II)V"⟩, prog_14_method_72_code, 4, none, 2, false, 1881, 1880, 105)
def ax_m72 : ax_Mt := (1, ⟨"GivenSearchModel", "keep", "(I)I"⟩, prog_14_method_73_code, 7, some .int, 1, false, 1885, 1884, 106)
def ax_m73 : ax_Mt := (1, ⟨"GivenSearchModel", "keepOne", "(I)I"⟩, prog_14_method_74_code, 5, some .int, 1, false, 1889, 1888, 107)
def ax_m74 : ax_Mt := (1, ⟨"GivenSearchModel", "askAll", "(Z)I"⟩, prog_14_method_75_code, 2, some .int, 1, false, 1801, 1800, 85)
def ax_m75 : ax_Mt := (1, ⟨"GivenSearchModel", "layNodeGoal", "(II)V"⟩, prog_14_method_76_code, 3, none, 2, false, 1901, 1900, 110)
def ax_m76 : ax_Mt := (1, ⟨"GivenSearchModel", "layTree", "(I)V"⟩, prog_14_method_77_code, 6, none, 1, false, 1897, 1896, 109)
def ax_m77 : ax_Mt := (1, ⟨"GivenSearchModel", "layAnswer", "(I)V"⟩, prog_14_method_78_code, 2, none, 1, false, 1905, 1904, 111)
def ax_m78 : ax_Mt := (1, ⟨"GivenSearchModel", "layAsking", "(I)V"⟩, prog_14_method_79_code, 4, none, 1, false, 1893, 1892, 108)
def ax_m79 : ax_Mt := (1, ⟨"GivenSearchModel", "ask", "(I)I"⟩, prog_14_method_80_code, 4, some .int, 1, false, 1797, 1795, 1923)
def ax_m80 : ax_Mt := (1, ⟨"GivenSearchModel", "asked", "(I)I"⟩, prog_14_method_81_code, 2, some .int, 1, false, 1909, 1907, 2035)
def ax_m81 : ax_Mt := (1, ⟨"GivenSearchModel", "wasFound", "()Z"⟩, prog_14_method_82_code, 1, some .boolean, 0, false, 1921, 1920, 113)
def ax_m82 : ax_Mt := (1, ⟨"GivenSearchModel", "isNode", "(I)Z"⟩, prog_14_method_83_code, 2, some .boolean, 1, false, 1917, 1916, 112)
def ax_m83 : ax_Mt := (1, ⟨"GivenSearchModel", "node", "(II)I"⟩, prog_14_method_84_code, 3, some .int, 2, false, 1913, 1911, 2039)
def ax_m84 : ax_Mt := (1, ⟨"GivenSearchModel", "put", "(I)V"⟩, prog_14_method_85_code, 2, none, 1, false, 1933, 1932, 115)
def ax_m85 : ax_Mt := (1, ⟨"GivenSearchModel", "putNumber", "(I)V"⟩, prog_14_method_86_code, 2, none, 1, false, 1937, 1936, 116)
def ax_m86 : ax_Mt := (1, ⟨"GivenSearchModel", "writeRow", "([III)I"⟩, prog_14_method_87_code, 7, some .int, 3, false, 1929, 1928, 114)
def ax_m87 : ax_Mt := (1, ⟨"GivenSearchModel", "closeAll", "(I)I"⟩, prog_14_method_88_code, 3, some .int, 1, false, 1941, 1940, 117)
def ax_m88 : ax_Mt := (1, ⟨"GivenSearchModel", "writeGoal", "(I)I"⟩, prog_14_method_89_code, 2, some .int, 1, false, 1925, 1923, 2051)
def ax_m89 : ax_Mt := (1, ⟨"GivenSearchModel", "writeAnswer", "()I"⟩, prog_14_method_90_code, 1, some .int, 0, false, 1945, 1943, 2071)
def ax_m90 : ax_Mt := (1, ⟨"GivenSearchModel", "writeTree", "()I"⟩, prog_14_method_91_code, 3, some .int, 0, false, 1949, 1947, 2075)
def ax_m91 : ax_Mt := (1, ⟨"GivenSearchModel", "both", "(I)I"⟩, prog_14_method_92_code, 2, some .int, 1, false, 1953, 1951, 2079)
def ax_m92 : ax_Mt := (1, ⟨"GivenSearchModel", "octet", "(I)I"⟩, prog_14_method_93_code, 2, some .int, 1, false, 1957, 1955, 2083)
def ax_m93 : ax_Mt := (1, ⟨"GivenSearchModel", "endWith", "(I)I"⟩, prog_14_method_94_code, 4, some .int, 1, false, 1965, 1964, 118)
def ax_m94 : ax_Mt := (1, ⟨"GivenSearchModel", "without", "(I)I"⟩, prog_14_method_95_code, 2, some .int, 1, false, 1961, 1959, 2087)
def ax_m95 : ax_Mt := (1, ⟨"GivenSearchModel", "needed", "()I"⟩, prog_14_method_96_code, 3, some .int, 0, false, 1969, 1967, 2095)
def ax_m96 : ax_Mt := (1, ⟨"GivenSearchModel", "mends", "()I"⟩, prog_14_method_97_code, 3, some .int, 0, false, 1973, 1971, 2099)
def ax_m97 : ax_Mt := (1, ⟨"GivenSearchModel", "isTold", "(I)Z"⟩, prog_14_method_98_code, 1, some .boolean, 1, true, 1980, 1979, 0)
def ax_m98 : ax_Mt := (1, ⟨"GivenSearchModel", "areUnified", "(II)Z"⟩, prog_14_method_99_code, 3, some .boolean, 2, false, 1984, 1983, 119)
def ax_m99 : ax_Mt := (1, ⟨"GivenSearchModel", "coverOf", "(I)I"⟩, prog_14_method_100_code, 4, some .int, 1, false, 1988, 1987, 120)
def ax_m100 : ax_Mt := (1, ⟨"GivenSearchModel", "relation", "(III)I"⟩, prog_14_method_101_code, 5, some .int, 3, false, 1977, 1975, 2103)
def ax_m101 : ax_Mt := (1, ⟨"GivenSearchModel", "unified", "(II)I"⟩, prog_14_method_102_code, 3, some .int, 2, false, 1992, 1990, 2118)
def ax_m102 : ax_Mt := (1, ⟨"GivenSearchModel", "candidates", "(III)I"⟩, prog_14_method_103_code, 11, some .int, 3, false, 1996, 1994, 2122)
def ax_m103 : ax_Mt := (1, ⟨"GivenSearchModel", "allAround", "(I)I"⟩, prog_14_method_104_code, 5, some .int, 1, false, 2004, 2003, 121)
def ax_m104 : ax_Mt := (1, ⟨"GivenSearchModel", "openValue", "(II)V"⟩, prog_14_method_105_code, 3, none, 2, false, 2012, 2011, 123)
def ax_m105 : ax_Mt := (1, ⟨"GivenSearchModel", "least", "(J)J"⟩, prog_14_method_106_code, 2, some .long, 1, true, 2027, 2026, 0)
def ax_m106 : ax_Mt := (1, ⟨"GivenSearchModel", "nextGiven", "(II)Z"⟩, prog_14_method_107_code, 6, some .boolean, 2, false, 2016, 2015, 124)
def ax_m107 : ax_Mt := (1, ⟨"GivenSearchModel", "backValue", "(I)V"⟩, prog_14_method_108_code, 2, none, 1, false, 2020, 2019, 125)
def ax_m108 : ax_Mt := (1, ⟨"GivenSearchModel", "valuesOf", "(III)I"⟩, prog_14_method_109_code, 6, some .int, 3, false, 2008, 2007, 122)
def ax_m109 : ax_Mt := (1, ⟨"GivenSearchModel", "upWith", "(IJ)I"⟩, prog_14_method_110_code, 4, some .int, 2, false, 2024, 2023, 126)
def ax_m110 : ax_Mt := (1, ⟨"GivenSearchModel", "values", "(III)I"⟩, prog_14_method_111_code, 6, some .int, 3, false, 2000, 1998, 2126)
def ax_m111 : ax_Mt := (13, ⟨"java/lang/Integer", "bitCount", "(I)I"⟩, prog_16_method_49_code, 1, some .int, 1, true, 598, 597, 0)
def ax_m112 : ax_Mt := (15, ⟨"java/util/Arrays", "fill", "([II)V"⟩, prog_19_method_103_code, 4, none, 2, true, 555, 554, 0)
def ax_m113 : ax_Mt := (15, ⟨"java/util/Arrays", "copyOf", "([II)[I"⟩, prog_19_method_123_code, 3, some (.array .int), 2, true, 682, 681, 0)
def ax_m114 : ax_Mt := (0, ⟨"GivenSearch$Flat", "<init>", "(I)V"⟩, prog_3_method_1_code, 2, none, 1, false, 53, 52, 0)
def ax_m115 : ax_Mt := (0, ⟨"GivenSearch$Flat", "clear", "()V"⟩, prog_3_method_2_code, 1, none, 0, false, 500, 498, 626)
def ax_m116 : ax_Mt := (0, ⟨"GivenSearch$Flat", "add", "(I)V"⟩, prog_3_method_3_code, 2, none, 1, false, 377, 375, 503)
def ax_m117 : ax_Mt := (0, ⟨"GivenSearch$Flat", "at", "(I)I"⟩, prog_3_method_4_code, 2, some .int, 1, false, 525, 523, 651)
def ax_m118 : ax_Mt := (0, ⟨"GivenSearch$Flat", "addPart", "(I)V"⟩, prog_3_method_5_code, 2, none, 1, false, 532, 530, 658)
def ax_m119 : ax_Mt := (0, ⟨"GivenSearch$Flat", "partsAt", "(I)I"⟩, prog_3_method_6_code, 2, some .int, 1, false, 521, 519, 647)
def ax_m120 : ax_Mt := (0, ⟨"GivenSearch$Flat", "partsOf", "(I)I"⟩, prog_3_method_7_code, 1, some .int, 1, true, 528, 527, 0)
def ax_m121 : ax_Mt := (0, ⟨"GivenSearch$Flat", "length", "()I"⟩, prog_3_method_8_code, 1, some .int, 0, false, 536, 535, 9)
def ax_m122 : ax_Mt := (0, ⟨"GivenSearch$Flat", "take", "(LGivenSearch$Flat;)V"⟩, prog_3_method_9_code, 3, none, 1, false, 777, 775, 903)
def ax_m123 : ax_Mt := (0, ⟨"GivenSearch$Flat", "isSame", "(LGivenSearch$Flat;)Z"⟩, prog_3_method_10_code, 3, some .boolean, 1, false, 887, 885, 1013)
def ax_m124 : ax_Mt := (0, ⟨"GivenSearch$Flat", "isClosed", "()Z"⟩, prog_3_method_11_code, 2, some .boolean, 0, false, 879, 877, 1005)
def ax_m125 : ax_Mt := (0, ⟨"GivenSearch$Flat", "cover", "()I"⟩, prog_3_method_12_code, 3, some .int, 0, false, 805, 803, 931)
def ax_m126 : ax_Mt := (0, ⟨"GivenSearch$Flat", "varLetters", "()I"⟩, prog_3_method_13_code, 3, some .int, 0, false, 618, 616, 744)
def ax_m127 : ax_Mt := (0, ⟨"GivenSearch$Flat", "behind", "(I)I"⟩, prog_3_method_14_code, 4, some .int, 1, false, 564, 562, 690)
def ax_m128 : ax_Mt := (2, ⟨"GivenSearch$Counts", "<init>", "()V"⟩, prog_2_method_1_code, 1, none, 0, false, 286, 285, 0)
def ax_m129 : ax_Mt := (2, ⟨"GivenSearch$Counts", "clear", "()V"⟩, prog_2_method_2_code, 1, none, 0, false, 1124, 1122, 1250)
def ax_m130 : ax_Mt := (2, ⟨"GivenSearch$Counts", "find", "(LGivenSearch$Flat;I)I"⟩, prog_2_method_3_code, 4, some .int, 2, false, 1145, 1143, 1271)
def ax_m131 : ax_Mt := (2, ⟨"GivenSearch$Counts", "keep", "(LGivenSearch$Flat;II)V"⟩, prog_2_method_4_code, 5, none, 3, false, 1150, 1148, 1276)
def ax_m132 : ax_Mt := (3, ⟨"GivenSearch$Forest", "<init>", "()V"⟩, prog_4_method_1_code, 1, none, 0, false, 222, 221, 0)
def ax_m133 : ax_Mt := (3, ⟨"GivenSearch$Forest", "clear", "()V"⟩, prog_4_method_2_code, 1, none, 0, false, 577, 575, 703)
def ax_m134 : ax_Mt := (3, ⟨"GivenSearch$Forest", "add", "(LGivenSearch$Flat;LGivenSearch$Nodes;III)V"⟩, prog_4_method_3_code, 8, none, 5, false, 988, 986, 1114)
def ax_m135 : ax_Mt := (3, ⟨"GivenSearch$Forest", "addSign", "(I)V"⟩, prog_4_method_4_code, 2, none, 1, false, 997, 996, 48)
def ax_m136 : ax_Mt := (3, ⟨"GivenSearch$Forest", "goalInto", "(ILGivenSearch$Flat;)V"⟩, prog_4_method_5_code, 7, none, 2, false, 1011, 1009, 1137)
def ax_m137 : ax_Mt := (3, ⟨"GivenSearch$Forest", "deepest", "()I"⟩, prog_4_method_6_code, 3, some .int, 0, false, 1023, 1021, 1149)
def ax_m138 : ax_Mt := (3, ⟨"GivenSearch$Forest", "deepOf", "(I)I"⟩, prog_4_method_7_code, 5, some .int, 1, false, 1027, 1025, 1153)
def ax_m139 : ax_Mt := (3, ⟨"GivenSearch$Forest", "unlikeGivens", "()I"⟩, prog_4_method_8_code, 3, some .int, 0, false, 1032, 1030, 1158)
def ax_m140 : ax_Mt := (4, ⟨"GivenSearch$Match", "<init>", "()V"⟩, prog_5_method_1_code, 1, none, 0, false, 101, 100, 0)
def ax_m141 : ax_Mt := (4, ⟨"GivenSearch$Match", "becomes", "(LGivenSearch$Flat;LGivenSearch$Flat;)Z"⟩, prog_5_method_2_code, 6, some .boolean, 2, false, 552, 550, 678)
def ax_m142 : ax_Mt := (4, ⟨"GivenSearch$Match", "put", "(ILGivenSearch$Flat;I)Z"⟩, prog_5_method_3_code, 7, some .boolean, 3, false, 560, 559, 10)
def ax_m143 : ax_Mt := (5, ⟨"GivenSearch$Memory", "<init>", "()V"⟩, prog_6_method_1_code, 1, none, 0, false, 216, 215, 0)
def ax_m144 : ax_Mt := (5, ⟨"GivenSearch$Memory", "forget", "()V"⟩, prog_6_method_2_code, 1, none, 0, false, 573, 571, 699)
def ax_m145 : ax_Mt := (5, ⟨"GivenSearch$Memory", "find", "(ILGivenSearch$Flat;)I"⟩, prog_6_method_3_code, 4, some .int, 2, false, 883, 881, 1009)
def ax_m146 : ax_Mt := (5, ⟨"GivenSearch$Memory", "takes", "(ILGivenSearch$Flat;)Z"⟩, prog_6_method_4_code, 3, some .boolean, 2, false, 973, 971, 1099)
def ax_m147 : ax_Mt := (5, ⟨"GivenSearch$Memory", "add", "(ILGivenSearch$Flat;I)V"⟩, prog_6_method_5_code, 4, none, 3, false, 978, 976, 1104)
def ax_m148 : ax_Mt := (5, ⟨"GivenSearch$Memory", "nodesOf", "(I)I"⟩, prog_6_method_6_code, 2, some .int, 1, false, 895, 893, 1021)
def ax_m149 : ax_Mt := (5, ⟨"GivenSearch$Memory", "fromOf", "(I)I"⟩, prog_6_method_7_code, 2, some .int, 1, false, 1007, 1005, 1133)
def ax_m150 : ax_Mt := (6, ⟨"GivenSearch$Nodes", "<init>", "()V"⟩, prog_7_method_1_code, 1, none, 0, false, 228, 227, 0)
def ax_m151 : ax_Mt := (6, ⟨"GivenSearch$Nodes", "has", "(I)Z"⟩, prog_7_method_2_code, 2, some .boolean, 1, false, 1045, 1043, 1171)
def ax_m152 : ax_Mt := (6, ⟨"GivenSearch$Nodes", "get", "(II)I"⟩, prog_7_method_3_code, 4, some .int, 2, false, 951, 949, 1077)
def ax_m153 : ax_Mt := (6, ⟨"GivenSearch$Nodes", "set", "(III)V"⟩, prog_7_method_4_code, 5, none, 3, false, 875, 873, 1001)
def ax_m154 : ax_Mt := (6, ⟨"GivenSearch$Nodes", "add", "()I"⟩, prog_7_method_5_code, 2, some .int, 0, false, 869, 867, 995)
def ax_m155 : ax_Mt := (7, ⟨"GivenSearch$Search", "<init>", "(LGivenSearch$Text;)V"⟩, prog_8_method_1_code, 2, none, 1, false, 155, 154, 0)
def ax_m156 : ax_Mt := (7, ⟨"GivenSearch$Search", "tell", "(LGivenSearch$Text;)V"⟩, prog_8_method_2_code, 2, none, 1, false, 569, 567, 695)
def ax_m157 : ax_Mt := (7, ⟨"GivenSearch$Search", "begin", "(III)V"⟩, prog_8_method_3_code, 4, none, 3, false, 851, 849, 977)
def ax_m158 : ax_Mt := (7, ⟨"GivenSearch$Search", "run", "(LGivenSearch$Flat;IIIZ)I"⟩, prog_8_method_4_code, 7, some .int, 5, false, 847, 845, 973)
def ax_m159 : ax_Mt := (7, ⟨"GivenSearch$Search", "usable", "(I)I"⟩, prog_8_method_5_code, 2, some .int, 1, false, 911, 909, 1037)
def ax_m160 : ax_Mt := (7, ⟨"GivenSearch$Search", "usableFrom", "(I)I"⟩, prog_8_method_6_code, 5, some .int, 1, false, 1116, 1114, 1242)
def ax_m161 : ax_Mt := (7, ⟨"GivenSearch$Search", "suited", "(II)I"⟩, prog_8_method_7_code, 8, some .int, 2, false, 907, 905, 1033)
def ax_m162 : ax_Mt := (7, ⟨"GivenSearch$Search", "askGoal", "(IIII)I"⟩, prog_8_method_8_code, 10, some .int, 4, false, 856, 855, 35)
def ax_m163 : ax_Mt := (7, ⟨"GivenSearch$Search", "mayAsk", "(II)Z"⟩, prog_8_method_9_code, 3, some .boolean, 2, false, 860, 859, 36)
def ax_m164 : ax_Mt := (7, ⟨"GivenSearch$Search", "addToPlan", "(III)I"⟩, prog_8_method_10_code, 5, some .int, 3, false, 865, 864, 37)
def ax_m165 : ax_Mt := (7, ⟨"GivenSearch$Search", "meet", "(II)I"⟩, prog_8_method_11_code, 3, some .int, 2, false, 891, 890, 38)
def ax_m166 : ax_Mt := (7, ⟨"GivenSearch$Search", "remember", "(III)V"⟩, prog_8_method_12_code, 4, none, 3, false, 969, 968, 47)
def ax_m167 : ax_Mt := (7, ⟨"GivenSearch$Search", "seek", "(III)I"⟩, prog_8_method_13_code, 7, some .int, 3, false, 899, 898, 39)
def ax_m168 : ax_Mt := (7, ⟨"GivenSearch$Search", "seekAt", "(IIII)I"⟩, prog_8_method_14_code, 9, some .int, 4, false, 903, 902, 40)
def ax_m169 : ax_Mt := (7, ⟨"GivenSearch$Search", "tryBest", "(IIII)I"⟩, prog_8_method_15_code, 14, some .int, 4, false, 933, 932, 42)
def ax_m170 : ax_Mt := (7, ⟨"GivenSearch$Search", "tellBoth", "(III)V"⟩, prog_8_method_16_code, 4, none, 3, false, 960, 959, 46)
def ax_m171 : ax_Mt := (7, ⟨"GivenSearch$Search", "isCut", "(III)Z"⟩, prog_8_method_17_code, 5, some .boolean, 3, false, 937, 936, 43)
def ax_m172 : ax_Mt := (7, ⟨"GivenSearch$Search", "tryGiven", "(IIII)I"⟩, prog_8_method_18_code, 8, some .int, 4, false, 942, 941, 44)
def ax_m173 : ax_Mt := (7, ⟨"GivenSearch$Search", "buildGiven", "(II)I"⟩, prog_8_method_19_code, 5, some .int, 2, false, 946, 945, 45)
def ax_m174 : ax_Mt := (7, ⟨"GivenSearch$Search", "plant", "(ILGivenSearch$Forest;)V"⟩, prog_8_method_20_code, 10, none, 2, false, 984, 982, 1110)
def ax_m175 : ax_Mt := (7, ⟨"GivenSearch$Search", "plantRemembered", "(ILGivenSearch$Forest;III)V"⟩, prog_8_method_21_code, 11, none, 5, false, 1003, 1002, 49)
def ax_m176 : ax_Mt := (7, ⟨"GivenSearch$Search", "join", "(LGivenSearch$Flat;LGivenSearch$Flat;LGivenSearch$Flat;)Z"⟩, prog_8_method_22_code, 6, some .boolean, 3, false, 786, 784, 912)
def ax_m177 : ax_Mt := (7, ⟨"GivenSearch$Search", "canMeet", "(LGivenSearch$Flat;LGivenSearch$Flat;)Z"⟩, prog_8_method_23_code, 4, some .boolean, 2, false, 657, 655, 783)
def ax_m178 : ax_Mt := (7, ⟨"GivenSearch$Search", "countValues", "(III)I"⟩, prog_8_method_24_code, 4, some .int, 3, false, 1120, 1118, 1246)
def ax_m179 : ax_Mt := (7, ⟨"GivenSearch$Search", "count", "(III)I"⟩, prog_8_method_25_code, 6, some .int, 3, false, 1129, 1128, 53)
def ax_m180 : ax_Mt := (7, ⟨"GivenSearch$Search", "countAnew", "(III)I"⟩, prog_8_method_26_code, 7, some .int, 3, false, 1133, 1132, 54)
def ax_m181 : ax_Mt := (7, ⟨"GivenSearch$Search", "countBy", "(IIII)J"⟩, prog_8_method_27_code, 12, some .long, 4, false, 1138, 1137, 55)
def ax_m182 : ax_Mt := (8, ⟨"GivenSearch$Tape", "<init>", "()V"⟩, prog_9_method_1_code, 1, none, 0, false, 30, 29, 0)
def ax_m183 : ax_Mt := (8, ⟨"GivenSearch$Tape", "addFour", "(I)V"⟩, prog_9_method_2_code, 3, none, 1, false, 440, 438, 566)
def ax_m184 : ax_Mt := (8, ⟨"GivenSearch$Tape", "next", "()I"⟩, prog_9_method_3_code, 1, some .int, 0, false, 464, 463, 1)
def ax_m185 : ax_Mt := (8, ⟨"GivenSearch$Tape", "isNext", "(C)Z"⟩, prog_9_method_4_code, 2, some .boolean, 1, false, 460, 459, 0)
def ax_m186 : ax_Mt := (8, ⟨"GivenSearch$Tape", "passed", "(C)Z"⟩, prog_9_method_5_code, 2, some .boolean, 1, false, 480, 479, 2)
def ax_m187 : ax_Mt := (8, ⟨"GivenSearch$Tape", "isConNext", "()Z"⟩, prog_9_method_6_code, 1, some .boolean, 0, false, 504, 503, 5)
def ax_m188 : ax_Mt := (8, ⟨"GivenSearch$Tape", "isVarNext", "()Z"⟩, prog_9_method_7_code, 1, some .boolean, 0, false, 508, 507, 6)
def ax_m189 : ax_Mt := (8, ⟨"GivenSearch$Tape", "readWhole", "(LGivenSearch$Flat;)Z"⟩, prog_9_method_8_code, 2, some .boolean, 1, false, 773, 771, 899)
def ax_m190 : ax_Mt := (8, ⟨"GivenSearch$Tape", "readOne", "(LGivenSearch$Flat;)Z"⟩, prog_9_method_9_code, 5, some .boolean, 1, false, 496, 495, 4)
def ax_m191 : ax_Mt := (8, ⟨"GivenSearch$Tape", "close", "(I)I"⟩, prog_9_method_10_code, 3, some .int, 1, false, 513, 512, 7)
def ax_m192 : ax_Mt := (8, ⟨"GivenSearch$Tape", "nextPart", "(LGivenSearch$Flat;I)Z"⟩, prog_9_method_11_code, 4, some .boolean, 2, false, 517, 516, 8)
def ax_m193 : ax_Mt := (8, ⟨"GivenSearch$Tape", "readText", "(LGivenSearch$Text;)Z"⟩, prog_9_method_12_code, 4, some .boolean, 1, false, 452, 450, 578)
def ax_m194 : ax_Mt := (8, ⟨"GivenSearch$Tape", "readGiven", "(LGivenSearch$Text;I)Z"⟩, prog_9_method_13_code, 5, some .boolean, 2, false, 488, 487, 3)
def ax_m195 : ax_Mt := (9, ⟨"GivenSearch$Terms", "<init>", "()V"⟩, prog_10_method_1_code, 1, none, 0, false, 161, 160, 0)
def ax_m196 : ax_Mt := (9, ⟨"GivenSearch$Terms", "clear", "()V"⟩, prog_10_method_2_code, 1, none, 0, false, 661, 659, 787)
def ax_m197 : ax_Mt := (9, ⟨"GivenSearch$Terms", "signOf", "(I)I"⟩, prog_10_method_3_code, 2, some .int, 1, false, 724, 723, 18)
def ax_m198 : ax_Mt := (9, ⟨"GivenSearch$Terms", "isUnknown", "(I)Z"⟩, prog_10_method_4_code, 2, some .boolean, 1, false, 732, 731, 20)
def ax_m199 : ax_Mt := (9, ⟨"GivenSearch$Terms", "partOf", "(II)I"⟩, prog_10_method_5_code, 4, some .int, 2, false, 728, 727, 19)
def ax_m200 : ax_Mt := (9, ⟨"GivenSearch$Terms", "setPart", "(III)V"⟩, prog_10_method_6_code, 5, none, 3, false, 698, 697, 13)
def ax_m201 : ax_Mt := (9, ⟨"GivenSearch$Terms", "grown", "([II)[I"⟩, prog_10_method_7_code, 2, some (.array .int), 2, true, 679, 678, 0)
def ax_m202 : ax_Mt := (9, ⟨"GivenSearch$Terms", "make", "(I)I"⟩, prog_10_method_8_code, 3, some .int, 1, false, 675, 674, 12)
def ax_m203 : ax_Mt := (9, ⟨"GivenSearch$Terms", "build", "(LGivenSearch$Flat;Z)I"⟩, prog_10_method_9_code, 7, some .int, 2, false, 665, 663, 791)
def ax_m204 : ax_Mt := (9, ⟨"GivenSearch$Terms", "unknown", "(I)I"⟩, prog_10_method_10_code, 2, some .int, 1, false, 671, 670, 11)
def ax_m205 : ax_Mt := (9, ⟨"GivenSearch$Terms", "pushOpen", "(I)V"⟩, prog_10_method_11_code, 2, none, 1, false, 707, 706, 15)
def ax_m206 : ax_Mt := (9, ⟨"GivenSearch$Terms", "popOpen", "()I"⟩, prog_10_method_12_code, 1, some .int, 0, false, 703, 702, 14)
def ax_m207 : ax_Mt := (9, ⟨"GivenSearch$Terms", "pushParts", "(I)V"⟩, prog_10_method_13_code, 3, none, 1, false, 800, 799, 29)
def ax_m208 : ax_Mt := (9, ⟨"GivenSearch$Terms", "solved", "(I)I"⟩, prog_10_method_14_code, 4, some .int, 1, false, 720, 719, 17)
def ax_m209 : ax_Mt := (9, ⟨"GivenSearch$Terms", "unify", "(II)Z"⟩, prog_10_method_15_code, 7, some .boolean, 2, false, 711, 709, 837)
def ax_m210 : ax_Mt := (9, ⟨"GivenSearch$Terms", "pushPair", "(II)V"⟩, prog_10_method_16_code, 3, none, 2, false, 715, 714, 16)
def ax_m211 : ax_Mt := (9, ⟨"GivenSearch$Terms", "pushPairsOfParts", "(II)V"⟩, prog_10_method_17_code, 4, none, 2, false, 756, 755, 26)
def ax_m212 : ax_Mt := (9, ⟨"GivenSearch$Terms", "put", "(II)V"⟩, prog_10_method_18_code, 3, none, 2, false, 752, 751, 25)
def ax_m213 : ax_Mt := (9, ⟨"GivenSearch$Terms", "standsIn", "(II)Z"⟩, prog_10_method_19_code, 6, some .boolean, 2, false, 736, 735, 21)
def ax_m214 : ax_Mt := (9, ⟨"GivenSearch$Terms", "list", "(I)V"⟩, prog_10_method_20_code, 2, none, 1, false, 740, 739, 22)
def ax_m215 : ax_Mt := (9, ⟨"GivenSearch$Terms", "isListed", "(I)Z"⟩, prog_10_method_21_code, 2, some .boolean, 1, false, 744, 743, 23)
def ax_m216 : ax_Mt := (9, ⟨"GivenSearch$Terms", "setListed", "(II)V"⟩, prog_10_method_22_code, 3, none, 2, false, 748, 747, 24)
def ax_m217 : ax_Mt := (9, ⟨"GivenSearch$Terms", "back", "(II)V"⟩, prog_10_method_23_code, 3, none, 2, false, 918, 916, 1044)
def ax_m218 : ax_Mt := (9, ⟨"GivenSearch$Terms", "save", "(I)V"⟩, prog_10_method_24_code, 3, none, 1, false, 955, 953, 1081)
def ax_m219 : ax_Mt := (9, ⟨"GivenSearch$Terms", "putAgain", "(I)V"⟩, prog_10_method_25_code, 3, none, 1, false, 964, 962, 1090)
def ax_m220 : ax_Mt := (9, ⟨"GivenSearch$Terms", "flatten", "(ILGivenSearch$Flat;)V"⟩, prog_10_method_26_code, 5, none, 2, false, 790, 788, 916)
def ax_m221 : ax_Mt := (9, ⟨"GivenSearch$Terms", "nameOf", "(I)I"⟩, prog_10_method_27_code, 3, some .int, 1, false, 795, 794, 28)
def ax_m222 : ax_Mt := (10, ⟨"GivenSearch$Text", "<init>", "()V"⟩, prog_11_method_1_code, 2, none, 0, false, 95, 94, 0)
def ax_m223 : ax_Mt := (10, ⟨"GivenSearch$Text", "clear", "()V"⟩, prog_11_method_2_code, 1, none, 0, false, 456, 454, 582)
def ax_m224 : ax_Mt := (10, ⟨"GivenSearch$Text", "hasScope", "(I)Z"⟩, prog_11_method_3_code, 2, some .boolean, 1, false, 472, 470, 598)
def ax_m225 : ax_Mt := (10, ⟨"GivenSearch$Text", "hasGiven", "(I)Z"⟩, prog_11_method_4_code, 2, some .boolean, 1, false, 613, 611, 739)
def ax_m226 : ax_Mt := (10, ⟨"GivenSearch$Text", "mayOpenIn", "(I)Z"⟩, prog_11_method_5_code, 2, some .boolean, 1, false, 468, 466, 594)
def ax_m227 : ax_Mt := (10, ⟨"GivenSearch$Text", "open", "(I)I"⟩, prog_11_method_6_code, 3, some .int, 1, false, 476, 474, 602)
def ax_m228 : ax_Mt := (10, ⟨"GivenSearch$Text", "aroundOf", "(I)I"⟩, prog_11_method_7_code, 2, some .int, 1, false, 484, 482, 610)
def ax_m229 : ax_Mt := (10, ⟨"GivenSearch$Text", "addGiven", "(II)V"⟩, prog_11_method_8_code, 3, none, 2, false, 543, 541, 669)
def ax_m230 : ax_Mt := (10, ⟨"GivenSearch$Text", "part", "(II)LGivenSearch$Flat;"⟩, prog_11_method_9_code, 4, some (.object "GivenSearch$Flat"), 2, false, 492, 490, 618)
def ax_m231 : ax_Mt := (10, ⟨"GivenSearch$Text", "needsOf", "(I)I"⟩, prog_11_method_10_code, 2, some .int, 1, false, 626, 624, 752)
def ax_m232 : ax_Mt := (10, ⟨"GivenSearch$Text", "needsInAll", "()I"⟩, prog_11_method_11_code, 3, some .int, 0, false, 590, 588, 716)
def ax_m233 : ax_Mt := (10, ⟨"GivenSearch$Text", "needSizes", "(I)I"⟩, prog_11_method_12_code, 4, some .int, 1, false, 632, 630, 758)
def ax_m234 : ax_Mt := (10, ⟨"GivenSearch$Text", "needVars", "(I)I"⟩, prog_11_method_13_code, 4, some .int, 1, false, 622, 620, 748)
def ax_m235 : ax_Mt := (10, ⟨"GivenSearch$Text", "scopesRightIn", "(I)I"⟩, prog_11_method_14_code, 4, some .int, 1, false, 605, 603, 731)
def ax_m236 : ax_Mt := (10, ⟨"GivenSearch$Text", "settle", "()V"⟩, prog_11_method_15_code, 3, none, 0, false, 547, 545, 673)
def ax_m237 : ax_Mt := (10, ⟨"GivenSearch$Text", "isCase", "(II)Z"⟩, prog_11_method_16_code, 3, some .boolean, 2, false, 652, 650, 778)
def ax_m238 : ax_Mt := (10, ⟨"GivenSearch$Text", "hasMoreSpecial", "(II)Z"⟩, prog_11_method_17_code, 4, some .boolean, 2, false, 928, 927, 41)
def ax_m239 : ax_Mt := (10, ⟨"GivenSearch$Text", "bestOf", "(I)I"⟩, prog_11_method_18_code, 4, some .int, 1, false, 924, 922, 1050)
def ax_m240 : ax_Mt := (11, ⟨"GivenSearch$Written", "<init>", "()V"⟩, prog_12_method_1_code, 1, none, 0, false, 78, 77, 0)
def ax_m241 : ax_Mt := (11, ⟨"GivenSearch$Written", "clear", "()V"⟩, prog_12_method_2_code, 1, none, 0, false, 817, 815, 943)
def ax_m242 : ax_Mt := (11, ⟨"GivenSearch$Written", "at", "(I)I"⟩, prog_12_method_3_code, 2, some .int, 1, false, 1086, 1084, 1212)
def ax_m243 : ax_Mt := (11, ⟨"GivenSearch$Written", "add", "(I)V"⟩, prog_12_method_4_code, 2, none, 1, false, 830, 829, 32)
def ax_m244 : ax_Mt := (11, ⟨"GivenSearch$Written", "addNumber", "(I)V"⟩, prog_12_method_5_code, 2, none, 1, false, 834, 833, 33)
def ax_m245 : ax_Mt := (11, ⟨"GivenSearch$Written", "addFlat", "(LGivenSearch$Flat;)V"⟩, prog_12_method_6_code, 5, none, 1, false, 821, 819, 947)
def ax_m246 : ax_Mt := (11, ⟨"GivenSearch$Written", "addSign", "(I)V"⟩, prog_12_method_7_code, 3, none, 1, false, 826, 825, 31)
def ax_m247 : ax_Mt := (11, ⟨"GivenSearch$Written", "close", "(I)I"⟩, prog_12_method_8_code, 3, some .int, 1, false, 839, 838, 34)
def ax_m248 : ax_Mt := (11, ⟨"GivenSearch$Written", "addTree", "(LGivenSearch$Forest;)V"⟩, prog_12_method_9_code, 5, none, 1, false, 1059, 1057, 1185)
def ax_m249 : ax_Mt := (11, ⟨"GivenSearch$Written", "addBetween", "(II)V"⟩, prog_12_method_10_code, 3, none, 2, false, 1064, 1063, 51)
def ax_m250 : ax_Mt := (11, ⟨"GivenSearch$Written", "addEnds", "(I)V"⟩, prog_12_method_11_code, 3, none, 1, false, 1068, 1067, 52)
def ax_m251 : ax_Mt := (12, ⟨"GivenSearch", "<init>", "()V"⟩, prog_1_method_1_code, 2, none, 0, false, 22, 21, 0)
def ax_m252 : ax_Mt := (12, ⟨"GivenSearch", "feed", "(IIIII)I"⟩, prog_1_method_2_code, 6, some .int, 5, false, 436, 434, 562)
def ax_m253 : ax_Mt := (12, ⟨"GivenSearch", "end", "(I)I"⟩, prog_1_method_3_code, 2, some .int, 1, false, 444, 442, 570)
def ax_m254 : ax_Mt := (12, ⟨"GivenSearch", "scopes", "()I"⟩, prog_1_method_4_code, 3, some .int, 0, false, 448, 446, 574)
def ax_m255 : ax_Mt := (12, ⟨"GivenSearch", "fault", "()I"⟩, prog_1_method_5_code, 1, some .int, 0, false, 582, 580, 708)
def ax_m256 : ax_Mt := (12, ⟨"GivenSearch", "is", "(I)I"⟩, prog_1_method_6_code, 2, some .int, 1, false, 586, 584, 712)
def ax_m257 : ax_Mt := (12, ⟨"GivenSearch", "scope", "(II)I"⟩, prog_1_method_7_code, 3, some .int, 2, false, 594, 592, 720)
def ax_m258 : ax_Mt := (12, ⟨"GivenSearch", "given", "(II)I"⟩, prog_1_method_8_code, 5, some .int, 2, false, 609, 607, 735)
def ax_m259 : ax_Mt := (12, ⟨"GivenSearch", "out", "(IZ)Z"⟩, prog_1_method_9_code, 3, some .boolean, 2, false, 636, 634, 762)
def ax_m260 : ax_Mt := (12, ⟨"GivenSearch", "shut", "(IZ)Z"⟩, prog_1_method_10_code, 3, some .boolean, 2, false, 644, 642, 770)
def ax_m261 : ax_Mt := (12, ⟨"GivenSearch", "special", "(II)I"⟩, prog_1_method_11_code, 5, some .int, 2, false, 648, 646, 774)
def ax_m262 : ax_Mt := (12, ⟨"GivenSearch", "clashes", "()I"⟩, prog_1_method_12_code, 5, some .int, 0, false, 760, 758, 886)
def ax_m263 : ax_Mt := (12, ⟨"GivenSearch", "type", "(I)I"⟩, prog_1_method_13_code, 4, some .int, 1, false, 765, 763, 891)
def ax_m264 : ax_Mt := (12, ⟨"GivenSearch", "relation", "(III)I"⟩, prog_1_method_14_code, 4, some .int, 3, false, 782, 780, 908)
def ax_m265 : ax_Mt := (12, ⟨"GivenSearch", "unified", "(II)I"⟩, prog_1_method_15_code, 3, some .int, 2, false, 809, 807, 935)
def ax_m266 : ax_Mt := (12, ⟨"GivenSearch", "ask", "(I)I"⟩, prog_1_method_16_code, 4, some .int, 1, false, 843, 841, 969)
def ax_m267 : ax_Mt := (12, ⟨"GivenSearch", "asked", "(I)I"⟩, prog_1_method_17_code, 2, some .int, 1, false, 1037, 1035, 1163)
def ax_m268 : ax_Mt := (12, ⟨"GivenSearch", "node", "(II)I"⟩, prog_1_method_18_code, 3, some .int, 2, false, 1041, 1039, 1167)
def ax_m269 : ax_Mt := (12, ⟨"GivenSearch", "writeGoal", "(I)I"⟩, prog_1_method_19_code, 2, some .int, 1, false, 1050, 1048, 1176)
def ax_m270 : ax_Mt := (12, ⟨"GivenSearch", "writeTree", "()I"⟩, prog_1_method_20_code, 1, some .int, 0, false, 1055, 1053, 1181)
def ax_m271 : ax_Mt := (12, ⟨"GivenSearch", "writeAnswer", "()I"⟩, prog_1_method_21_code, 1, some .int, 0, false, 1073, 1071, 1199)
def ax_m272 : ax_Mt := (12, ⟨"GivenSearch", "both", "(I)I"⟩, prog_1_method_22_code, 2, some .int, 1, false, 1078, 1076, 1204)
def ax_m273 : ax_Mt := (12, ⟨"GivenSearch", "octet", "(I)I"⟩, prog_1_method_23_code, 2, some .int, 1, false, 1082, 1080, 1208)
def ax_m274 : ax_Mt := (12, ⟨"GivenSearch", "without", "(I)I"⟩, prog_1_method_24_code, 2, some .int, 1, false, 1090, 1088, 1216)
def ax_m275 : ax_Mt := (12, ⟨"GivenSearch", "needed", "()I"⟩, prog_1_method_25_code, 3, some .int, 0, false, 1094, 1092, 1220)
def ax_m276 : ax_Mt := (12, ⟨"GivenSearch", "mends", "()I"⟩, prog_1_method_26_code, 3, some .int, 0, false, 1098, 1096, 1224)
def ax_m277 : ax_Mt := (12, ⟨"GivenSearch", "candidates", "(III)I"⟩, prog_1_method_27_code, 11, some .int, 3, false, 1102, 1100, 1228)
def ax_m278 : ax_Mt := (12, ⟨"GivenSearch", "values", "(III)I"⟩, prog_1_method_28_code, 6, some .int, 3, false, 1111, 1109, 1237)
def ax_m279 : ax_Mt := (12, ⟨"GivenSearch", "isIn", "(II)Z"⟩, prog_1_method_29_code, 2, some .boolean, 2, true, 639, 638, 0)
def ax_m280 : ax_Mt := (12, ⟨"GivenSearch", "hasType", "(I)Z"⟩, prog_1_method_30_code, 2, some .boolean, 1, false, 769, 768, 27)
def ax_m281 : ax_Mt := (12, ⟨"GivenSearch", "writeFlat", "()I"⟩, prog_1_method_31_code, 1, some .int, 0, false, 813, 812, 30)
def ax_m282 : ax_Mt := (12, ⟨"GivenSearch", "keepAsking", "()V"⟩, prog_1_method_32_code, 1, none, 0, false, 1017, 1016, 50)
