-- ===== PART A: goes FIRST, ahead of the names: the tables' words, and 'selects' of the private methods out of them =====
/-- a private method of a class that the tables say can be made, by its rows of tables_1 -/
def lw_okq (q : MethodName × Nat) : Prop := (q.1.cls ≠ "java/lang/invoke/MethodHandle" ∧ q.1.cls ≠ "java/lang/invoke/VarHandle") ∧ Cond.instantiable q.1.cls q.2 ∈ tables_1 ∧ Cond.privateMethod q.1 ∈ tables_1 ∧ Cond.instanceMethod q.1 ∈ tables_1
theorem lw_p0 : lw_okq (⟨"GivenSearch$Tape", "isNext", "(C)Z"⟩, 4) := ⟨⟨by decide +kernel, by decide +kernel⟩, List.mem_of_getElem? (i := 26) (by decide +kernel), List.mem_of_getElem? (i := 433) (by decide +kernel), List.mem_of_getElem? (i := 434) (by decide +kernel)⟩
theorem lw_p1 : lw_okq (⟨"GivenSearch$Tape", "next", "()I"⟩, 4) := ⟨⟨by decide +kernel, by decide +kernel⟩, List.mem_of_getElem? (i := 26) (by decide +kernel), List.mem_of_getElem? (i := 437) (by decide +kernel), List.mem_of_getElem? (i := 438) (by decide +kernel)⟩
theorem lw_p2 : lw_okq (⟨"GivenSearch$Tape", "passed", "(C)Z"⟩, 4) := ⟨⟨by decide +kernel, by decide +kernel⟩, List.mem_of_getElem? (i := 26) (by decide +kernel), List.mem_of_getElem? (i := 453) (by decide +kernel), List.mem_of_getElem? (i := 454) (by decide +kernel)⟩
theorem lw_p3 : lw_okq (⟨"GivenSearch$Tape", "readGiven", "(LGivenSearch$Text;I)Z"⟩, 4) := ⟨⟨by decide +kernel, by decide +kernel⟩, List.mem_of_getElem? (i := 26) (by decide +kernel), List.mem_of_getElem? (i := 461) (by decide +kernel), List.mem_of_getElem? (i := 462) (by decide +kernel)⟩
theorem lw_p4 : lw_okq (⟨"GivenSearch$Tape", "readOne", "(LGivenSearch$Flat;)Z"⟩, 4) := ⟨⟨by decide +kernel, by decide +kernel⟩, List.mem_of_getElem? (i := 26) (by decide +kernel), List.mem_of_getElem? (i := 469) (by decide +kernel), List.mem_of_getElem? (i := 470) (by decide +kernel)⟩
theorem lw_p5 : lw_okq (⟨"GivenSearch$Tape", "isConNext", "()Z"⟩, 4) := ⟨⟨by decide +kernel, by decide +kernel⟩, List.mem_of_getElem? (i := 26) (by decide +kernel), List.mem_of_getElem? (i := 477) (by decide +kernel), List.mem_of_getElem? (i := 478) (by decide +kernel)⟩
theorem lw_p6 : lw_okq (⟨"GivenSearch$Tape", "isVarNext", "()Z"⟩, 4) := ⟨⟨by decide +kernel, by decide +kernel⟩, List.mem_of_getElem? (i := 26) (by decide +kernel), List.mem_of_getElem? (i := 481) (by decide +kernel), List.mem_of_getElem? (i := 482) (by decide +kernel)⟩
theorem lw_p7 : lw_okq (⟨"GivenSearch$Tape", "close", "(I)I"⟩, 4) := ⟨⟨by decide +kernel, by decide +kernel⟩, List.mem_of_getElem? (i := 26) (by decide +kernel), List.mem_of_getElem? (i := 486) (by decide +kernel), List.mem_of_getElem? (i := 487) (by decide +kernel)⟩
theorem lw_p8 : lw_okq (⟨"GivenSearch$Tape", "nextPart", "(LGivenSearch$Flat;I)Z"⟩, 4) := ⟨⟨by decide +kernel, by decide +kernel⟩, List.mem_of_getElem? (i := 26) (by decide +kernel), List.mem_of_getElem? (i := 490) (by decide +kernel), List.mem_of_getElem? (i := 491) (by decide +kernel)⟩
theorem lw_p9 : lw_okq (⟨"GivenSearch$Flat", "length", "()I"⟩, 2) := ⟨⟨by decide +kernel, by decide +kernel⟩, List.mem_of_getElem? (i := 49) (by decide +kernel), List.mem_of_getElem? (i := 509) (by decide +kernel), List.mem_of_getElem? (i := 510) (by decide +kernel)⟩
theorem lw_p10 : lw_okq (⟨"GivenSearch$Match", "put", "(ILGivenSearch$Flat;I)Z"⟩, 1) := ⟨⟨by decide +kernel, by decide +kernel⟩, List.mem_of_getElem? (i := 96) (by decide +kernel), List.mem_of_getElem? (i := 533) (by decide +kernel), List.mem_of_getElem? (i := 534) (by decide +kernel)⟩
theorem lw_p11 : lw_okq (⟨"GivenSearch$Terms", "unknown", "(I)I"⟩, 16) := ⟨⟨by decide +kernel, by decide +kernel⟩, List.mem_of_getElem? (i := 156) (by decide +kernel), List.mem_of_getElem? (i := 644) (by decide +kernel), List.mem_of_getElem? (i := 645) (by decide +kernel)⟩
theorem lw_p12 : lw_okq (⟨"GivenSearch$Terms", "make", "(I)I"⟩, 16) := ⟨⟨by decide +kernel, by decide +kernel⟩, List.mem_of_getElem? (i := 156) (by decide +kernel), List.mem_of_getElem? (i := 648) (by decide +kernel), List.mem_of_getElem? (i := 649) (by decide +kernel)⟩
theorem lw_p13 : lw_okq (⟨"GivenSearch$Terms", "setPart", "(III)V"⟩, 16) := ⟨⟨by decide +kernel, by decide +kernel⟩, List.mem_of_getElem? (i := 156) (by decide +kernel), List.mem_of_getElem? (i := 671) (by decide +kernel), List.mem_of_getElem? (i := 672) (by decide +kernel)⟩
theorem lw_p14 : lw_okq (⟨"GivenSearch$Terms", "popOpen", "()I"⟩, 16) := ⟨⟨by decide +kernel, by decide +kernel⟩, List.mem_of_getElem? (i := 156) (by decide +kernel), List.mem_of_getElem? (i := 676) (by decide +kernel), List.mem_of_getElem? (i := 677) (by decide +kernel)⟩
theorem lw_p15 : lw_okq (⟨"GivenSearch$Terms", "pushOpen", "(I)V"⟩, 16) := ⟨⟨by decide +kernel, by decide +kernel⟩, List.mem_of_getElem? (i := 156) (by decide +kernel), List.mem_of_getElem? (i := 680) (by decide +kernel), List.mem_of_getElem? (i := 681) (by decide +kernel)⟩
def lw_privs_1 : List (MethodName × Nat) := [(⟨"GivenSearch$Tape", "isNext", "(C)Z"⟩, 4), (⟨"GivenSearch$Tape", "next", "()I"⟩, 4), (⟨"GivenSearch$Tape", "passed", "(C)Z"⟩, 4), (⟨"GivenSearch$Tape", "readGiven", "(LGivenSearch$Text;I)Z"⟩, 4), (⟨"GivenSearch$Tape", "readOne", "(LGivenSearch$Flat;)Z"⟩, 4), (⟨"GivenSearch$Tape", "isConNext", "()Z"⟩, 4), (⟨"GivenSearch$Tape", "isVarNext", "()Z"⟩, 4), (⟨"GivenSearch$Tape", "close", "(I)I"⟩, 4), (⟨"GivenSearch$Tape", "nextPart", "(LGivenSearch$Flat;I)Z"⟩, 4), (⟨"GivenSearch$Flat", "length", "()I"⟩, 2), (⟨"GivenSearch$Match", "put", "(ILGivenSearch$Flat;I)Z"⟩, 1), (⟨"GivenSearch$Terms", "unknown", "(I)I"⟩, 16), (⟨"GivenSearch$Terms", "make", "(I)I"⟩, 16), (⟨"GivenSearch$Terms", "setPart", "(III)V"⟩, 16), (⟨"GivenSearch$Terms", "popOpen", "()I"⟩, 16), (⟨"GivenSearch$Terms", "pushOpen", "(I)V"⟩, 16)]
theorem lw_r1 : ∀ q ∈ lw_privs_1, lw_okq q := List.forall_mem_cons.mpr ⟨lw_p0, List.forall_mem_cons.mpr ⟨lw_p1, List.forall_mem_cons.mpr ⟨lw_p2, List.forall_mem_cons.mpr ⟨lw_p3, List.forall_mem_cons.mpr ⟨lw_p4, List.forall_mem_cons.mpr ⟨lw_p5, List.forall_mem_cons.mpr ⟨lw_p6, List.forall_mem_cons.mpr ⟨lw_p7, List.forall_mem_cons.mpr ⟨lw_p8, List.forall_mem_cons.mpr ⟨lw_p9, List.forall_mem_cons.mpr ⟨lw_p10, List.forall_mem_cons.mpr ⟨lw_p11, List.forall_mem_cons.mpr ⟨lw_p12, List.forall_mem_cons.mpr ⟨lw_p13, List.forall_mem_cons.mpr ⟨lw_p14, List.forall_mem_cons.mpr ⟨lw_p15, fun _ h => absurd h List.not_mem_nil⟩⟩⟩⟩⟩⟩⟩⟩⟩⟩⟩⟩⟩⟩⟩⟩
theorem lw_p16 : lw_okq (⟨"GivenSearch$Terms", "pushPair", "(II)V"⟩, 16) := ⟨⟨by decide +kernel, by decide +kernel⟩, List.mem_of_getElem? (i := 156) (by decide +kernel), List.mem_of_getElem? (i := 688) (by decide +kernel), List.mem_of_getElem? (i := 689) (by decide +kernel)⟩
theorem lw_p17 : lw_okq (⟨"GivenSearch$Terms", "solved", "(I)I"⟩, 16) := ⟨⟨by decide +kernel, by decide +kernel⟩, List.mem_of_getElem? (i := 156) (by decide +kernel), List.mem_of_getElem? (i := 693) (by decide +kernel), List.mem_of_getElem? (i := 694) (by decide +kernel)⟩
theorem lw_p18 : lw_okq (⟨"GivenSearch$Terms", "isUnknown", "(I)Z"⟩, 16) := ⟨⟨by decide +kernel, by decide +kernel⟩, List.mem_of_getElem? (i := 156) (by decide +kernel), List.mem_of_getElem? (i := 697) (by decide +kernel), List.mem_of_getElem? (i := 698) (by decide +kernel)⟩
theorem lw_p19 : lw_okq (⟨"GivenSearch$Terms", "signOf", "(I)I"⟩, 16) := ⟨⟨by decide +kernel, by decide +kernel⟩, List.mem_of_getElem? (i := 156) (by decide +kernel), List.mem_of_getElem? (i := 701) (by decide +kernel), List.mem_of_getElem? (i := 702) (by decide +kernel)⟩
theorem lw_p20 : lw_okq (⟨"GivenSearch$Terms", "partOf", "(II)I"⟩, 16) := ⟨⟨by decide +kernel, by decide +kernel⟩, List.mem_of_getElem? (i := 156) (by decide +kernel), List.mem_of_getElem? (i := 705) (by decide +kernel), List.mem_of_getElem? (i := 706) (by decide +kernel)⟩
theorem lw_p21 : lw_okq (⟨"GivenSearch$Terms", "standsIn", "(II)Z"⟩, 16) := ⟨⟨by decide +kernel, by decide +kernel⟩, List.mem_of_getElem? (i := 156) (by decide +kernel), List.mem_of_getElem? (i := 709) (by decide +kernel), List.mem_of_getElem? (i := 710) (by decide +kernel)⟩
theorem lw_p22 : lw_okq (⟨"GivenSearch$Terms", "pushParts", "(I)V"⟩, 16) := ⟨⟨by decide +kernel, by decide +kernel⟩, List.mem_of_getElem? (i := 156) (by decide +kernel), List.mem_of_getElem? (i := 713) (by decide +kernel), List.mem_of_getElem? (i := 714) (by decide +kernel)⟩
theorem lw_p23 : lw_okq (⟨"GivenSearch$Terms", "put", "(II)V"⟩, 16) := ⟨⟨by decide +kernel, by decide +kernel⟩, List.mem_of_getElem? (i := 156) (by decide +kernel), List.mem_of_getElem? (i := 717) (by decide +kernel), List.mem_of_getElem? (i := 718) (by decide +kernel)⟩
theorem lw_p24 : lw_okq (⟨"GivenSearch$Terms", "pushPairsOfParts", "(II)V"⟩, 16) := ⟨⟨by decide +kernel, by decide +kernel⟩, List.mem_of_getElem? (i := 156) (by decide +kernel), List.mem_of_getElem? (i := 721) (by decide +kernel), List.mem_of_getElem? (i := 722) (by decide +kernel)⟩
theorem lw_p25 : lw_okq (⟨"GivenSearch", "hasType", "(I)Z"⟩, 18) := ⟨⟨by decide +kernel, by decide +kernel⟩, List.mem_of_getElem? (i := 18) (by decide +kernel), List.mem_of_getElem? (i := 734) (by decide +kernel), List.mem_of_getElem? (i := 735) (by decide +kernel)⟩
theorem lw_p26 : lw_okq (⟨"GivenSearch$Terms", "nameOf", "(I)I"⟩, 16) := ⟨⟨by decide +kernel, by decide +kernel⟩, List.mem_of_getElem? (i := 156) (by decide +kernel), List.mem_of_getElem? (i := 760) (by decide +kernel), List.mem_of_getElem? (i := 761) (by decide +kernel)⟩
theorem lw_p27 : lw_okq (⟨"GivenSearch", "writeFlat", "()I"⟩, 18) := ⟨⟨by decide +kernel, by decide +kernel⟩, List.mem_of_getElem? (i := 18) (by decide +kernel), List.mem_of_getElem? (i := 774) (by decide +kernel), List.mem_of_getElem? (i := 775) (by decide +kernel)⟩
theorem lw_p28 : lw_okq (⟨"GivenSearch$Written", "addSign", "(I)V"⟩, 3) := ⟨⟨by decide +kernel, by decide +kernel⟩, List.mem_of_getElem? (i := 73) (by decide +kernel), List.mem_of_getElem? (i := 787) (by decide +kernel), List.mem_of_getElem? (i := 788) (by decide +kernel)⟩
theorem lw_p29 : lw_okq (⟨"GivenSearch$Written", "add", "(I)V"⟩, 3) := ⟨⟨by decide +kernel, by decide +kernel⟩, List.mem_of_getElem? (i := 73) (by decide +kernel), List.mem_of_getElem? (i := 791) (by decide +kernel), List.mem_of_getElem? (i := 792) (by decide +kernel)⟩
theorem lw_p30 : lw_okq (⟨"GivenSearch$Written", "addNumber", "(I)V"⟩, 3) := ⟨⟨by decide +kernel, by decide +kernel⟩, List.mem_of_getElem? (i := 73) (by decide +kernel), List.mem_of_getElem? (i := 795) (by decide +kernel), List.mem_of_getElem? (i := 796) (by decide +kernel)⟩
theorem lw_p31 : lw_okq (⟨"GivenSearch$Written", "close", "(I)I"⟩, 3) := ⟨⟨by decide +kernel, by decide +kernel⟩, List.mem_of_getElem? (i := 73) (by decide +kernel), List.mem_of_getElem? (i := 800) (by decide +kernel), List.mem_of_getElem? (i := 801) (by decide +kernel)⟩
def lw_privs_2 : List (MethodName × Nat) := [(⟨"GivenSearch$Terms", "pushPair", "(II)V"⟩, 16), (⟨"GivenSearch$Terms", "solved", "(I)I"⟩, 16), (⟨"GivenSearch$Terms", "isUnknown", "(I)Z"⟩, 16), (⟨"GivenSearch$Terms", "signOf", "(I)I"⟩, 16), (⟨"GivenSearch$Terms", "partOf", "(II)I"⟩, 16), (⟨"GivenSearch$Terms", "standsIn", "(II)Z"⟩, 16), (⟨"GivenSearch$Terms", "pushParts", "(I)V"⟩, 16), (⟨"GivenSearch$Terms", "put", "(II)V"⟩, 16), (⟨"GivenSearch$Terms", "pushPairsOfParts", "(II)V"⟩, 16), (⟨"GivenSearch", "hasType", "(I)Z"⟩, 18), (⟨"GivenSearch$Terms", "nameOf", "(I)I"⟩, 16), (⟨"GivenSearch", "writeFlat", "()I"⟩, 18), (⟨"GivenSearch$Written", "addSign", "(I)V"⟩, 3), (⟨"GivenSearch$Written", "add", "(I)V"⟩, 3), (⟨"GivenSearch$Written", "addNumber", "(I)V"⟩, 3), (⟨"GivenSearch$Written", "close", "(I)I"⟩, 3)]
theorem lw_r2 : ∀ q ∈ lw_privs_2, lw_okq q := List.forall_mem_cons.mpr ⟨lw_p16, List.forall_mem_cons.mpr ⟨lw_p17, List.forall_mem_cons.mpr ⟨lw_p18, List.forall_mem_cons.mpr ⟨lw_p19, List.forall_mem_cons.mpr ⟨lw_p20, List.forall_mem_cons.mpr ⟨lw_p21, List.forall_mem_cons.mpr ⟨lw_p22, List.forall_mem_cons.mpr ⟨lw_p23, List.forall_mem_cons.mpr ⟨lw_p24, List.forall_mem_cons.mpr ⟨lw_p25, List.forall_mem_cons.mpr ⟨lw_p26, List.forall_mem_cons.mpr ⟨lw_p27, List.forall_mem_cons.mpr ⟨lw_p28, List.forall_mem_cons.mpr ⟨lw_p29, List.forall_mem_cons.mpr ⟨lw_p30, List.forall_mem_cons.mpr ⟨lw_p31, fun _ h => absurd h List.not_mem_nil⟩⟩⟩⟩⟩⟩⟩⟩⟩⟩⟩⟩⟩⟩⟩⟩
theorem lw_p32 : lw_okq (⟨"GivenSearch$Search", "askGoal", "(IIII)I"⟩, 19) := ⟨⟨by decide +kernel, by decide +kernel⟩, List.mem_of_getElem? (i := 150) (by decide +kernel), List.mem_of_getElem? (i := 817) (by decide +kernel), List.mem_of_getElem? (i := 818) (by decide +kernel)⟩
theorem lw_p33 : lw_okq (⟨"GivenSearch$Search", "mayAsk", "(II)Z"⟩, 19) := ⟨⟨by decide +kernel, by decide +kernel⟩, List.mem_of_getElem? (i := 150) (by decide +kernel), List.mem_of_getElem? (i := 821) (by decide +kernel), List.mem_of_getElem? (i := 822) (by decide +kernel)⟩
theorem lw_p34 : lw_okq (⟨"GivenSearch$Search", "addToPlan", "(III)I"⟩, 19) := ⟨⟨by decide +kernel, by decide +kernel⟩, List.mem_of_getElem? (i := 150) (by decide +kernel), List.mem_of_getElem? (i := 826) (by decide +kernel), List.mem_of_getElem? (i := 827) (by decide +kernel)⟩
theorem lw_p35 : lw_okq (⟨"GivenSearch$Search", "meet", "(II)I"⟩, 19) := ⟨⟨by decide +kernel, by decide +kernel⟩, List.mem_of_getElem? (i := 150) (by decide +kernel), List.mem_of_getElem? (i := 852) (by decide +kernel), List.mem_of_getElem? (i := 853) (by decide +kernel)⟩
theorem lw_p36 : lw_okq (⟨"GivenSearch$Search", "seek", "(III)I"⟩, 19) := ⟨⟨by decide +kernel, by decide +kernel⟩, List.mem_of_getElem? (i := 150) (by decide +kernel), List.mem_of_getElem? (i := 860) (by decide +kernel), List.mem_of_getElem? (i := 861) (by decide +kernel)⟩
theorem lw_p37 : lw_okq (⟨"GivenSearch$Search", "seekAt", "(IIII)I"⟩, 19) := ⟨⟨by decide +kernel, by decide +kernel⟩, List.mem_of_getElem? (i := 150) (by decide +kernel), List.mem_of_getElem? (i := 864) (by decide +kernel), List.mem_of_getElem? (i := 865) (by decide +kernel)⟩
theorem lw_p38 : lw_okq (⟨"GivenSearch$Text", "hasMoreSpecial", "(II)Z"⟩, 10) := ⟨⟨by decide +kernel, by decide +kernel⟩, List.mem_of_getElem? (i := 90) (by decide +kernel), List.mem_of_getElem? (i := 889) (by decide +kernel), List.mem_of_getElem? (i := 890) (by decide +kernel)⟩
theorem lw_p39 : lw_okq (⟨"GivenSearch$Search", "tryBest", "(IIII)I"⟩, 19) := ⟨⟨by decide +kernel, by decide +kernel⟩, List.mem_of_getElem? (i := 150) (by decide +kernel), List.mem_of_getElem? (i := 894) (by decide +kernel), List.mem_of_getElem? (i := 895) (by decide +kernel)⟩
theorem lw_p40 : lw_okq (⟨"GivenSearch$Search", "isCut", "(III)Z"⟩, 19) := ⟨⟨by decide +kernel, by decide +kernel⟩, List.mem_of_getElem? (i := 150) (by decide +kernel), List.mem_of_getElem? (i := 898) (by decide +kernel), List.mem_of_getElem? (i := 899) (by decide +kernel)⟩
theorem lw_p41 : lw_okq (⟨"GivenSearch$Search", "tryGiven", "(IIII)I"⟩, 19) := ⟨⟨by decide +kernel, by decide +kernel⟩, List.mem_of_getElem? (i := 150) (by decide +kernel), List.mem_of_getElem? (i := 903) (by decide +kernel), List.mem_of_getElem? (i := 904) (by decide +kernel)⟩
theorem lw_p42 : lw_okq (⟨"GivenSearch$Search", "buildGiven", "(II)I"⟩, 19) := ⟨⟨by decide +kernel, by decide +kernel⟩, List.mem_of_getElem? (i := 150) (by decide +kernel), List.mem_of_getElem? (i := 907) (by decide +kernel), List.mem_of_getElem? (i := 908) (by decide +kernel)⟩
theorem lw_p43 : lw_okq (⟨"GivenSearch$Search", "tellBoth", "(III)V"⟩, 19) := ⟨⟨by decide +kernel, by decide +kernel⟩, List.mem_of_getElem? (i := 150) (by decide +kernel), List.mem_of_getElem? (i := 921) (by decide +kernel), List.mem_of_getElem? (i := 922) (by decide +kernel)⟩
theorem lw_p44 : lw_okq (⟨"GivenSearch$Search", "remember", "(III)V"⟩, 19) := ⟨⟨by decide +kernel, by decide +kernel⟩, List.mem_of_getElem? (i := 150) (by decide +kernel), List.mem_of_getElem? (i := 930) (by decide +kernel), List.mem_of_getElem? (i := 931) (by decide +kernel)⟩
theorem lw_p45 : lw_okq (⟨"GivenSearch$Forest", "addSign", "(I)V"⟩, 3) := ⟨⟨by decide +kernel, by decide +kernel⟩, List.mem_of_getElem? (i := 220) (by decide +kernel), List.mem_of_getElem? (i := 958) (by decide +kernel), List.mem_of_getElem? (i := 959) (by decide +kernel)⟩
theorem lw_p46 : lw_okq (⟨"GivenSearch$Search", "plantRemembered", "(ILGivenSearch$Forest;III)V"⟩, 19) := ⟨⟨by decide +kernel, by decide +kernel⟩, List.mem_of_getElem? (i := 150) (by decide +kernel), List.mem_of_getElem? (i := 964) (by decide +kernel), List.mem_of_getElem? (i := 965) (by decide +kernel)⟩
theorem lw_p47 : lw_okq (⟨"GivenSearch", "keepAsking", "()V"⟩, 18) := ⟨⟨by decide +kernel, by decide +kernel⟩, List.mem_of_getElem? (i := 18) (by decide +kernel), List.mem_of_getElem? (i := 978) (by decide +kernel), List.mem_of_getElem? (i := 979) (by decide +kernel)⟩
def lw_privs_3 : List (MethodName × Nat) := [(⟨"GivenSearch$Search", "askGoal", "(IIII)I"⟩, 19), (⟨"GivenSearch$Search", "mayAsk", "(II)Z"⟩, 19), (⟨"GivenSearch$Search", "addToPlan", "(III)I"⟩, 19), (⟨"GivenSearch$Search", "meet", "(II)I"⟩, 19), (⟨"GivenSearch$Search", "seek", "(III)I"⟩, 19), (⟨"GivenSearch$Search", "seekAt", "(IIII)I"⟩, 19), (⟨"GivenSearch$Text", "hasMoreSpecial", "(II)Z"⟩, 10), (⟨"GivenSearch$Search", "tryBest", "(IIII)I"⟩, 19), (⟨"GivenSearch$Search", "isCut", "(III)Z"⟩, 19), (⟨"GivenSearch$Search", "tryGiven", "(IIII)I"⟩, 19), (⟨"GivenSearch$Search", "buildGiven", "(II)I"⟩, 19), (⟨"GivenSearch$Search", "tellBoth", "(III)V"⟩, 19), (⟨"GivenSearch$Search", "remember", "(III)V"⟩, 19), (⟨"GivenSearch$Forest", "addSign", "(I)V"⟩, 3), (⟨"GivenSearch$Search", "plantRemembered", "(ILGivenSearch$Forest;III)V"⟩, 19), (⟨"GivenSearch", "keepAsking", "()V"⟩, 18)]
theorem lw_r3 : ∀ q ∈ lw_privs_3, lw_okq q := List.forall_mem_cons.mpr ⟨lw_p32, List.forall_mem_cons.mpr ⟨lw_p33, List.forall_mem_cons.mpr ⟨lw_p34, List.forall_mem_cons.mpr ⟨lw_p35, List.forall_mem_cons.mpr ⟨lw_p36, List.forall_mem_cons.mpr ⟨lw_p37, List.forall_mem_cons.mpr ⟨lw_p38, List.forall_mem_cons.mpr ⟨lw_p39, List.forall_mem_cons.mpr ⟨lw_p40, List.forall_mem_cons.mpr ⟨lw_p41, List.forall_mem_cons.mpr ⟨lw_p42, List.forall_mem_cons.mpr ⟨lw_p43, List.forall_mem_cons.mpr ⟨lw_p44, List.forall_mem_cons.mpr ⟨lw_p45, List.forall_mem_cons.mpr ⟨lw_p46, List.forall_mem_cons.mpr ⟨lw_p47, fun _ h => absurd h List.not_mem_nil⟩⟩⟩⟩⟩⟩⟩⟩⟩⟩⟩⟩⟩⟩⟩⟩
theorem lw_p48 : lw_okq (⟨"GivenSearch$Written", "addBetween", "(II)V"⟩, 3) := ⟨⟨by decide +kernel, by decide +kernel⟩, List.mem_of_getElem? (i := 73) (by decide +kernel), List.mem_of_getElem? (i := 1025) (by decide +kernel), List.mem_of_getElem? (i := 1026) (by decide +kernel)⟩
theorem lw_p49 : lw_okq (⟨"GivenSearch$Written", "addEnds", "(I)V"⟩, 3) := ⟨⟨by decide +kernel, by decide +kernel⟩, List.mem_of_getElem? (i := 73) (by decide +kernel), List.mem_of_getElem? (i := 1029) (by decide +kernel), List.mem_of_getElem? (i := 1030) (by decide +kernel)⟩
theorem lw_p50 : lw_okq (⟨"GivenSearch$Search", "count", "(III)I"⟩, 19) := ⟨⟨by decide +kernel, by decide +kernel⟩, List.mem_of_getElem? (i := 150) (by decide +kernel), List.mem_of_getElem? (i := 1086) (by decide +kernel), List.mem_of_getElem? (i := 1087) (by decide +kernel)⟩
theorem lw_p51 : lw_okq (⟨"GivenSearch$Search", "countBy", "(IIII)J"⟩, 19) := ⟨⟨by decide +kernel, by decide +kernel⟩, List.mem_of_getElem? (i := 150) (by decide +kernel), List.mem_of_getElem? (i := 1091) (by decide +kernel), List.mem_of_getElem? (i := 1092) (by decide +kernel)⟩
theorem lw_p52 : lw_okq (⟨"GivenSearchModel", "four", "(I)V"⟩, 144) := ⟨⟨by decide +kernel, by decide +kernel⟩, List.mem_of_getElem? (i := 1104) (by decide +kernel), List.mem_of_getElem? (i := 1102) (by decide +kernel), List.mem_of_getElem? (i := 1103) (by decide +kernel)⟩
theorem lw_p53 : lw_okq (⟨"GivenSearchModel", "readScopes", "()Z"⟩, 144) := ⟨⟨by decide +kernel, by decide +kernel⟩, List.mem_of_getElem? (i := 1104) (by decide +kernel), List.mem_of_getElem? (i := 1118) (by decide +kernel), List.mem_of_getElem? (i := 1119) (by decide +kernel)⟩
theorem lw_p54 : lw_okq (⟨"GivenSearchModel", "beginText", "()V"⟩, 144) := ⟨⟨by decide +kernel, by decide +kernel⟩, List.mem_of_getElem? (i := 1104) (by decide +kernel), List.mem_of_getElem? (i := 1122) (by decide +kernel), List.mem_of_getElem? (i := 1123) (by decide +kernel)⟩
theorem lw_p55 : lw_okq (⟨"GivenSearchModel", "openScope", "()Z"⟩, 144) := ⟨⟨by decide +kernel, by decide +kernel⟩, List.mem_of_getElem? (i := 1104) (by decide +kernel), List.mem_of_getElem? (i := 1126) (by decide +kernel), List.mem_of_getElem? (i := 1127) (by decide +kernel)⟩
theorem lw_p56 : lw_okq (⟨"GivenSearchModel", "here", "()I"⟩, 144) := ⟨⟨by decide +kernel, by decide +kernel⟩, List.mem_of_getElem? (i := 1104) (by decide +kernel), List.mem_of_getElem? (i := 1130) (by decide +kernel), List.mem_of_getElem? (i := 1131) (by decide +kernel)⟩
theorem lw_p57 : lw_okq (⟨"GivenSearchModel", "fails", "(I)Z"⟩, 144) := ⟨⟨by decide +kernel, by decide +kernel⟩, List.mem_of_getElem? (i := 1104) (by decide +kernel), List.mem_of_getElem? (i := 1134) (by decide +kernel), List.mem_of_getElem? (i := 1135) (by decide +kernel)⟩
theorem lw_p58 : lw_okq (⟨"GivenSearchModel", "readGiven", "()Z"⟩, 144) := ⟨⟨by decide +kernel, by decide +kernel⟩, List.mem_of_getElem? (i := 1104) (by decide +kernel), List.mem_of_getElem? (i := 1138) (by decide +kernel), List.mem_of_getElem? (i := 1139) (by decide +kernel)⟩
theorem lw_p59 : lw_okq (⟨"GivenSearchModel", "readType", "()Z"⟩, 144) := ⟨⟨by decide +kernel, by decide +kernel⟩, List.mem_of_getElem? (i := 1104) (by decide +kernel), List.mem_of_getElem? (i := 1142) (by decide +kernel), List.mem_of_getElem? (i := 1143) (by decide +kernel)⟩
theorem lw_p60 : lw_okq (⟨"GivenSearchModel", "hasMore", "(Z)Z"⟩, 144) := ⟨⟨by decide +kernel, by decide +kernel⟩, List.mem_of_getElem? (i := 1104) (by decide +kernel), List.mem_of_getElem? (i := 1158) (by decide +kernel), List.mem_of_getElem? (i := 1159) (by decide +kernel)⟩
theorem lw_p61 : lw_okq (⟨"GivenSearchModel", "layType", "(I)V"⟩, 144) := ⟨⟨by decide +kernel, by decide +kernel⟩, List.mem_of_getElem? (i := 1104) (by decide +kernel), List.mem_of_getElem? (i := 1162) (by decide +kernel), List.mem_of_getElem? (i := 1163) (by decide +kernel)⟩
theorem lw_p62 : lw_okq (⟨"GivenSearchModel", "takes", "(I)Z"⟩, 144) := ⟨⟨by decide +kernel, by decide +kernel⟩, List.mem_of_getElem? (i := 1104) (by decide +kernel), List.mem_of_getElem? (i := 1169) (by decide +kernel), List.mem_of_getElem? (i := 1170) (by decide +kernel)⟩
theorem lw_p63 : lw_okq (⟨"GivenSearchModel", "isPut", "(IIII)Z"⟩, 144) := ⟨⟨by decide +kernel, by decide +kernel⟩, List.mem_of_getElem? (i := 1104) (by decide +kernel), List.mem_of_getElem? (i := 1173) (by decide +kernel), List.mem_of_getElem? (i := 1174) (by decide +kernel)⟩
def lw_privs_4 : List (MethodName × Nat) := [(⟨"GivenSearch$Written", "addBetween", "(II)V"⟩, 3), (⟨"GivenSearch$Written", "addEnds", "(I)V"⟩, 3), (⟨"GivenSearch$Search", "count", "(III)I"⟩, 19), (⟨"GivenSearch$Search", "countBy", "(IIII)J"⟩, 19), (⟨"GivenSearchModel", "four", "(I)V"⟩, 144), (⟨"GivenSearchModel", "readScopes", "()Z"⟩, 144), (⟨"GivenSearchModel", "beginText", "()V"⟩, 144), (⟨"GivenSearchModel", "openScope", "()Z"⟩, 144), (⟨"GivenSearchModel", "here", "()I"⟩, 144), (⟨"GivenSearchModel", "fails", "(I)Z"⟩, 144), (⟨"GivenSearchModel", "readGiven", "()Z"⟩, 144), (⟨"GivenSearchModel", "readType", "()Z"⟩, 144), (⟨"GivenSearchModel", "hasMore", "(Z)Z"⟩, 144), (⟨"GivenSearchModel", "layType", "(I)V"⟩, 144), (⟨"GivenSearchModel", "takes", "(I)Z"⟩, 144), (⟨"GivenSearchModel", "isPut", "(IIII)Z"⟩, 144)]
theorem lw_r4 : ∀ q ∈ lw_privs_4, lw_okq q := List.forall_mem_cons.mpr ⟨lw_p48, List.forall_mem_cons.mpr ⟨lw_p49, List.forall_mem_cons.mpr ⟨lw_p50, List.forall_mem_cons.mpr ⟨lw_p51, List.forall_mem_cons.mpr ⟨lw_p52, List.forall_mem_cons.mpr ⟨lw_p53, List.forall_mem_cons.mpr ⟨lw_p54, List.forall_mem_cons.mpr ⟨lw_p55, List.forall_mem_cons.mpr ⟨lw_p56, List.forall_mem_cons.mpr ⟨lw_p57, List.forall_mem_cons.mpr ⟨lw_p58, List.forall_mem_cons.mpr ⟨lw_p59, List.forall_mem_cons.mpr ⟨lw_p60, List.forall_mem_cons.mpr ⟨lw_p61, List.forall_mem_cons.mpr ⟨lw_p62, List.forall_mem_cons.mpr ⟨lw_p63, fun _ h => absurd h List.not_mem_nil⟩⟩⟩⟩⟩⟩⟩⟩⟩⟩⟩⟩⟩⟩⟩⟩
theorem lw_p64 : lw_okq (⟨"GivenSearchModel", "isPutIn", "([II[III)Z"⟩, 144) := ⟨⟨by decide +kernel, by decide +kernel⟩, List.mem_of_getElem? (i := 1104) (by decide +kernel), List.mem_of_getElem? (i := 1177) (by decide +kernel), List.mem_of_getElem? (i := 1178) (by decide +kernel)⟩
theorem lw_p65 : lw_okq (⟨"GivenSearchModel", "forget", "()V"⟩, 144) := ⟨⟨by decide +kernel, by decide +kernel⟩, List.mem_of_getElem? (i := 1104) (by decide +kernel), List.mem_of_getElem? (i := 1187) (by decide +kernel), List.mem_of_getElem? (i := 1188) (by decide +kernel)⟩
theorem lw_p66 : lw_okq (⟨"GivenSearchModel", "isScope", "(I)Z"⟩, 144) := ⟨⟨by decide +kernel, by decide +kernel⟩, List.mem_of_getElem? (i := 1104) (by decide +kernel), List.mem_of_getElem? (i := 1203) (by decide +kernel), List.mem_of_getElem? (i := 1204) (by decide +kernel)⟩
theorem lw_p67 : lw_okq (⟨"GivenSearchModel", "liesIn", "(I)I"⟩, 144) := ⟨⟨by decide +kernel, by decide +kernel⟩, List.mem_of_getElem? (i := 1104) (by decide +kernel), List.mem_of_getElem? (i := 1207) (by decide +kernel), List.mem_of_getElem? (i := 1208) (by decide +kernel)⟩
theorem lw_p68 : lw_okq (⟨"GivenSearchModel", "isGiven", "(I)Z"⟩, 144) := ⟨⟨by decide +kernel, by decide +kernel⟩, List.mem_of_getElem? (i := 1104) (by decide +kernel), List.mem_of_getElem? (i := 1215) (by decide +kernel), List.mem_of_getElem? (i := 1216) (by decide +kernel)⟩
theorem lw_p69 : lw_okq (⟨"GivenSearchModel", "varsOf", "(III)I"⟩, 144) := ⟨⟨by decide +kernel, by decide +kernel⟩, List.mem_of_getElem? (i := 1104) (by decide +kernel), List.mem_of_getElem? (i := 1219) (by decide +kernel), List.mem_of_getElem? (i := 1220) (by decide +kernel)⟩
theorem lw_p70 : lw_okq (⟨"GivenSearchModel", "needsVars", "(I)I"⟩, 144) := ⟨⟨by decide +kernel, by decide +kernel⟩, List.mem_of_getElem? (i := 1104) (by decide +kernel), List.mem_of_getElem? (i := 1226) (by decide +kernel), List.mem_of_getElem? (i := 1227) (by decide +kernel)⟩
theorem lw_p71 : lw_okq (⟨"GivenSearchModel", "beginHeap", "()V"⟩, 144) := ⟨⟨by decide +kernel, by decide +kernel⟩, List.mem_of_getElem? (i := 1104) (by decide +kernel), List.mem_of_getElem? (i := 1245) (by decide +kernel), List.mem_of_getElem? (i := 1246) (by decide +kernel)⟩
theorem lw_p72 : lw_okq (⟨"GivenSearchModel", "layGiven", "(II)I"⟩, 144) := ⟨⟨by decide +kernel, by decide +kernel⟩, List.mem_of_getElem? (i := 1104) (by decide +kernel), List.mem_of_getElem? (i := 1249) (by decide +kernel), List.mem_of_getElem? (i := 1250) (by decide +kernel)⟩
theorem lw_p73 : lw_okq (⟨"GivenSearchModel", "newUnknowns", "()V"⟩, 144) := ⟨⟨by decide +kernel, by decide +kernel⟩, List.mem_of_getElem? (i := 1104) (by decide +kernel), List.mem_of_getElem? (i := 1253) (by decide +kernel), List.mem_of_getElem? (i := 1254) (by decide +kernel)⟩
theorem lw_p74 : lw_okq (⟨"GivenSearchModel", "layRow", "([III)I"⟩, 144) := ⟨⟨by decide +kernel, by decide +kernel⟩, List.mem_of_getElem? (i := 1104) (by decide +kernel), List.mem_of_getElem? (i := 1257) (by decide +kernel), List.mem_of_getElem? (i := 1258) (by decide +kernel)⟩
theorem lw_p75 : lw_okq (⟨"GivenSearchModel", "unknown", "()I"⟩, 144) := ⟨⟨by decide +kernel, by decide +kernel⟩, List.mem_of_getElem? (i := 1104) (by decide +kernel), List.mem_of_getElem? (i := 1261) (by decide +kernel), List.mem_of_getElem? (i := 1262) (by decide +kernel)⟩
theorem lw_p76 : lw_okq (⟨"GivenSearchModel", "isUnified", "(II)Z"⟩, 144) := ⟨⟨by decide +kernel, by decide +kernel⟩, List.mem_of_getElem? (i := 1104) (by decide +kernel), List.mem_of_getElem? (i := 1265) (by decide +kernel), List.mem_of_getElem? (i := 1266) (by decide +kernel)⟩
theorem lw_p77 : lw_okq (⟨"GivenSearchModel", "seen", "(I)I"⟩, 144) := ⟨⟨by decide +kernel, by decide +kernel⟩, List.mem_of_getElem? (i := 1104) (by decide +kernel), List.mem_of_getElem? (i := 1269) (by decide +kernel), List.mem_of_getElem? (i := 1270) (by decide +kernel)⟩
theorem lw_p78 : lw_okq (⟨"GivenSearchModel", "isWithin", "(II)Z"⟩, 144) := ⟨⟨by decide +kernel, by decide +kernel⟩, List.mem_of_getElem? (i := 1104) (by decide +kernel), List.mem_of_getElem? (i := 1273) (by decide +kernel), List.mem_of_getElem? (i := 1274) (by decide +kernel)⟩
theorem lw_p79 : lw_okq (⟨"GivenSearchModel", "tie", "(II)V"⟩, 144) := ⟨⟨by decide +kernel, by decide +kernel⟩, List.mem_of_getElem? (i := 1104) (by decide +kernel), List.mem_of_getElem? (i := 1277) (by decide +kernel), List.mem_of_getElem? (i := 1278) (by decide +kernel)⟩
def lw_privs_5 : List (MethodName × Nat) := [(⟨"GivenSearchModel", "isPutIn", "([II[III)Z"⟩, 144), (⟨"GivenSearchModel", "forget", "()V"⟩, 144), (⟨"GivenSearchModel", "isScope", "(I)Z"⟩, 144), (⟨"GivenSearchModel", "liesIn", "(I)I"⟩, 144), (⟨"GivenSearchModel", "isGiven", "(I)Z"⟩, 144), (⟨"GivenSearchModel", "varsOf", "(III)I"⟩, 144), (⟨"GivenSearchModel", "needsVars", "(I)I"⟩, 144), (⟨"GivenSearchModel", "beginHeap", "()V"⟩, 144), (⟨"GivenSearchModel", "layGiven", "(II)I"⟩, 144), (⟨"GivenSearchModel", "newUnknowns", "()V"⟩, 144), (⟨"GivenSearchModel", "layRow", "([III)I"⟩, 144), (⟨"GivenSearchModel", "unknown", "()I"⟩, 144), (⟨"GivenSearchModel", "isUnified", "(II)Z"⟩, 144), (⟨"GivenSearchModel", "seen", "(I)I"⟩, 144), (⟨"GivenSearchModel", "isWithin", "(II)Z"⟩, 144), (⟨"GivenSearchModel", "tie", "(II)V"⟩, 144)]
theorem lw_r5 : ∀ q ∈ lw_privs_5, lw_okq q := List.forall_mem_cons.mpr ⟨lw_p64, List.forall_mem_cons.mpr ⟨lw_p65, List.forall_mem_cons.mpr ⟨lw_p66, List.forall_mem_cons.mpr ⟨lw_p67, List.forall_mem_cons.mpr ⟨lw_p68, List.forall_mem_cons.mpr ⟨lw_p69, List.forall_mem_cons.mpr ⟨lw_p70, List.forall_mem_cons.mpr ⟨lw_p71, List.forall_mem_cons.mpr ⟨lw_p72, List.forall_mem_cons.mpr ⟨lw_p73, List.forall_mem_cons.mpr ⟨lw_p74, List.forall_mem_cons.mpr ⟨lw_p75, List.forall_mem_cons.mpr ⟨lw_p76, List.forall_mem_cons.mpr ⟨lw_p77, List.forall_mem_cons.mpr ⟨lw_p78, List.forall_mem_cons.mpr ⟨lw_p79, fun _ h => absurd h List.not_mem_nil⟩⟩⟩⟩⟩⟩⟩⟩⟩⟩⟩⟩⟩⟩⟩⟩
theorem lw_p80 : lw_okq (⟨"GivenSearchModel", "readWhole", "()Z"⟩, 144) := ⟨⟨by decide +kernel, by decide +kernel⟩, List.mem_of_getElem? (i := 1104) (by decide +kernel), List.mem_of_getElem? (i := 1734) (by decide +kernel), List.mem_of_getElem? (i := 1735) (by decide +kernel)⟩
theorem lw_p81 : lw_okq (⟨"GivenSearchModel", "askAll", "(Z)I"⟩, 144) := ⟨⟨by decide +kernel, by decide +kernel⟩, List.mem_of_getElem? (i := 1104) (by decide +kernel), List.mem_of_getElem? (i := 1742) (by decide +kernel), List.mem_of_getElem? (i := 1743) (by decide +kernel)⟩
theorem lw_p82 : lw_okq (⟨"GivenSearchModel", "askGoal", "(I)V"⟩, 144) := ⟨⟨by decide +kernel, by decide +kernel⟩, List.mem_of_getElem? (i := 1104) (by decide +kernel), List.mem_of_getElem? (i := 1746) (by decide +kernel), List.mem_of_getElem? (i := 1747) (by decide +kernel)⟩
theorem lw_p83 : lw_okq (⟨"GivenSearchModel", "layOut", "(I)I"⟩, 144) := ⟨⟨by decide +kernel, by decide +kernel⟩, List.mem_of_getElem? (i := 1104) (by decide +kernel), List.mem_of_getElem? (i := 1750) (by decide +kernel), List.mem_of_getElem? (i := 1751) (by decide +kernel)⟩
theorem lw_p84 : lw_okq (⟨"GivenSearchModel", "orderOf", "(I)I"⟩, 144) := ⟨⟨by decide +kernel, by decide +kernel⟩, List.mem_of_getElem? (i := 1104) (by decide +kernel), List.mem_of_getElem? (i := 1754) (by decide +kernel), List.mem_of_getElem? (i := 1755) (by decide +kernel)⟩
theorem lw_p85 : lw_okq (⟨"GivenSearchModel", "memoryOf", "(I)I"⟩, 144) := ⟨⟨by decide +kernel, by decide +kernel⟩, List.mem_of_getElem? (i := 1104) (by decide +kernel), List.mem_of_getElem? (i := 1758) (by decide +kernel), List.mem_of_getElem? (i := 1759) (by decide +kernel)⟩
theorem lw_p86 : lw_okq (⟨"GivenSearchModel", "openLevel", "(III)V"⟩, 144) := ⟨⟨by decide +kernel, by decide +kernel⟩, List.mem_of_getElem? (i := 1104) (by decide +kernel), List.mem_of_getElem? (i := 1762) (by decide +kernel), List.mem_of_getElem? (i := 1763) (by decide +kernel)⟩
theorem lw_p87 : lw_okq (⟨"GivenSearchModel", "candidatesOf", "(II)I"⟩, 144) := ⟨⟨by decide +kernel, by decide +kernel⟩, List.mem_of_getElem? (i := 1104) (by decide +kernel), List.mem_of_getElem? (i := 1766) (by decide +kernel), List.mem_of_getElem? (i := 1767) (by decide +kernel)⟩
theorem lw_p88 : lw_okq (⟨"GivenSearchModel", "untie", "(I)V"⟩, 144) := ⟨⟨by decide +kernel, by decide +kernel⟩, List.mem_of_getElem? (i := 1104) (by decide +kernel), List.mem_of_getElem? (i := 1770) (by decide +kernel), List.mem_of_getElem? (i := 1771) (by decide +kernel)⟩
theorem lw_p89 : lw_okq (⟨"GivenSearchModel", "newRound", "(I)V"⟩, 144) := ⟨⟨by decide +kernel, by decide +kernel⟩, List.mem_of_getElem? (i := 1104) (by decide +kernel), List.mem_of_getElem? (i := 1774) (by decide +kernel), List.mem_of_getElem? (i := 1775) (by decide +kernel)⟩
theorem lw_p90 : lw_okq (⟨"GivenSearchModel", "bestOf", "(I)I"⟩, 144) := ⟨⟨by decide +kernel, by decide +kernel⟩, List.mem_of_getElem? (i := 1104) (by decide +kernel), List.mem_of_getElem? (i := 1778) (by decide +kernel), List.mem_of_getElem? (i := 1779) (by decide +kernel)⟩
theorem lw_p91 : lw_okq (⟨"GivenSearchModel", "step", "()V"⟩, 144) := ⟨⟨by decide +kernel, by decide +kernel⟩, List.mem_of_getElem? (i := 1104) (by decide +kernel), List.mem_of_getElem? (i := 1782) (by decide +kernel), List.mem_of_getElem? (i := 1783) (by decide +kernel)⟩
theorem lw_p92 : lw_okq (⟨"GivenSearchModel", "comeBack", "(I)V"⟩, 144) := ⟨⟨by decide +kernel, by decide +kernel⟩, List.mem_of_getElem? (i := 1104) (by decide +kernel), List.mem_of_getElem? (i := 1786) (by decide +kernel), List.mem_of_getElem? (i := 1787) (by decide +kernel)⟩
theorem lw_p93 : lw_okq (⟨"GivenSearchModel", "back", "(I)V"⟩, 144) := ⟨⟨by decide +kernel, by decide +kernel⟩, List.mem_of_getElem? (i := 1104) (by decide +kernel), List.mem_of_getElem? (i := 1790) (by decide +kernel), List.mem_of_getElem? (i := 1791) (by decide +kernel)⟩
theorem lw_p94 : lw_okq (⟨"GivenSearchModel", "goOn", "(I)V"⟩, 144) := ⟨⟨by decide +kernel, by decide +kernel⟩, List.mem_of_getElem? (i := 1104) (by decide +kernel), List.mem_of_getElem? (i := 1794) (by decide +kernel), List.mem_of_getElem? (i := 1795) (by decide +kernel)⟩
theorem lw_p95 : lw_okq (⟨"GivenSearchModel", "didWell", "(I)V"⟩, 144) := ⟨⟨by decide +kernel, by decide +kernel⟩, List.mem_of_getElem? (i := 1104) (by decide +kernel), List.mem_of_getElem? (i := 1798) (by decide +kernel), List.mem_of_getElem? (i := 1799) (by decide +kernel)⟩
def lw_privs_6 : List (MethodName × Nat) := [(⟨"GivenSearchModel", "readWhole", "()Z"⟩, 144), (⟨"GivenSearchModel", "askAll", "(Z)I"⟩, 144), (⟨"GivenSearchModel", "askGoal", "(I)V"⟩, 144), (⟨"GivenSearchModel", "layOut", "(I)I"⟩, 144), (⟨"GivenSearchModel", "orderOf", "(I)I"⟩, 144), (⟨"GivenSearchModel", "memoryOf", "(I)I"⟩, 144), (⟨"GivenSearchModel", "openLevel", "(III)V"⟩, 144), (⟨"GivenSearchModel", "candidatesOf", "(II)I"⟩, 144), (⟨"GivenSearchModel", "untie", "(I)V"⟩, 144), (⟨"GivenSearchModel", "newRound", "(I)V"⟩, 144), (⟨"GivenSearchModel", "bestOf", "(I)I"⟩, 144), (⟨"GivenSearchModel", "step", "()V"⟩, 144), (⟨"GivenSearchModel", "comeBack", "(I)V"⟩, 144), (⟨"GivenSearchModel", "back", "(I)V"⟩, 144), (⟨"GivenSearchModel", "goOn", "(I)V"⟩, 144), (⟨"GivenSearchModel", "didWell", "(I)V"⟩, 144)]
theorem lw_r6 : ∀ q ∈ lw_privs_6, lw_okq q := List.forall_mem_cons.mpr ⟨lw_p80, List.forall_mem_cons.mpr ⟨lw_p81, List.forall_mem_cons.mpr ⟨lw_p82, List.forall_mem_cons.mpr ⟨lw_p83, List.forall_mem_cons.mpr ⟨lw_p84, List.forall_mem_cons.mpr ⟨lw_p85, List.forall_mem_cons.mpr ⟨lw_p86, List.forall_mem_cons.mpr ⟨lw_p87, List.forall_mem_cons.mpr ⟨lw_p88, List.forall_mem_cons.mpr ⟨lw_p89, List.forall_mem_cons.mpr ⟨lw_p90, List.forall_mem_cons.mpr ⟨lw_p91, List.forall_mem_cons.mpr ⟨lw_p92, List.forall_mem_cons.mpr ⟨lw_p93, List.forall_mem_cons.mpr ⟨lw_p94, List.forall_mem_cons.mpr ⟨lw_p95, fun _ h => absurd h List.not_mem_nil⟩⟩⟩⟩⟩⟩⟩⟩⟩⟩⟩⟩⟩⟩⟩⟩
theorem lw_p96 : lw_okq (⟨"GivenSearchModel", "isCut", "(II)Z"⟩, 144) := ⟨⟨by decide +kernel, by decide +kernel⟩, List.mem_of_getElem? (i := 1104) (by decide +kernel), List.mem_of_getElem? (i := 1802) (by decide +kernel), List.mem_of_getElem? (i := 1803) (by decide +kernel)⟩
theorem lw_p97 : lw_okq (⟨"GivenSearchModel", "tryGiven", "(II)V"⟩, 144) := ⟨⟨by decide +kernel, by decide +kernel⟩, List.mem_of_getElem? (i := 1104) (by decide +kernel), List.mem_of_getElem? (i := 1806) (by decide +kernel), List.mem_of_getElem? (i := 1807) (by decide +kernel)⟩
theorem lw_p98 : lw_okq (⟨"GivenSearchModel", "leaveFound", "(I)V"⟩, 144) := ⟨⟨by decide +kernel, by decide +kernel⟩, List.mem_of_getElem? (i := 1104) (by decide +kernel), List.mem_of_getElem? (i := 1810) (by decide +kernel), List.mem_of_getElem? (i := 1811) (by decide +kernel)⟩
theorem lw_p99 : lw_okq (⟨"GivenSearchModel", "newNode", "(I)I"⟩, 144) := ⟨⟨by decide +kernel, by decide +kernel⟩, List.mem_of_getElem? (i := 1104) (by decide +kernel), List.mem_of_getElem? (i := 1814) (by decide +kernel), List.mem_of_getElem? (i := 1815) (by decide +kernel)⟩
theorem lw_p100 : lw_okq (⟨"GivenSearchModel", "leave", "(II)V"⟩, 144) := ⟨⟨by decide +kernel, by decide +kernel⟩, List.mem_of_getElem? (i := 1104) (by decide +kernel), List.mem_of_getElem? (i := 1818) (by decide +kernel), List.mem_of_getElem? (i := 1819) (by decide +kernel)⟩
theorem lw_p101 : lw_okq (⟨"GivenSearchModel", "remember", "(II)V"⟩, 144) := ⟨⟨by decide +kernel, by decide +kernel⟩, List.mem_of_getElem? (i := 1104) (by decide +kernel), List.mem_of_getElem? (i := 1822) (by decide +kernel), List.mem_of_getElem? (i := 1823) (by decide +kernel)⟩
theorem lw_p102 : lw_okq (⟨"GivenSearchModel", "keep", "(I)I"⟩, 144) := ⟨⟨by decide +kernel, by decide +kernel⟩, List.mem_of_getElem? (i := 1104) (by decide +kernel), List.mem_of_getElem? (i := 1826) (by decide +kernel), List.mem_of_getElem? (i := 1827) (by decide +kernel)⟩
theorem lw_p103 : lw_okq (⟨"GivenSearchModel", "keepOne", "(I)I"⟩, 144) := ⟨⟨by decide +kernel, by decide +kernel⟩, List.mem_of_getElem? (i := 1104) (by decide +kernel), List.mem_of_getElem? (i := 1830) (by decide +kernel), List.mem_of_getElem? (i := 1831) (by decide +kernel)⟩
theorem lw_p104 : lw_okq (⟨"GivenSearchModel", "layAsking", "(I)V"⟩, 144) := ⟨⟨by decide +kernel, by decide +kernel⟩, List.mem_of_getElem? (i := 1104) (by decide +kernel), List.mem_of_getElem? (i := 1834) (by decide +kernel), List.mem_of_getElem? (i := 1835) (by decide +kernel)⟩
theorem lw_p105 : lw_okq (⟨"GivenSearchModel", "layTree", "(I)V"⟩, 144) := ⟨⟨by decide +kernel, by decide +kernel⟩, List.mem_of_getElem? (i := 1104) (by decide +kernel), List.mem_of_getElem? (i := 1838) (by decide +kernel), List.mem_of_getElem? (i := 1839) (by decide +kernel)⟩
theorem lw_p106 : lw_okq (⟨"GivenSearchModel", "layNodeGoal", "(II)V"⟩, 144) := ⟨⟨by decide +kernel, by decide +kernel⟩, List.mem_of_getElem? (i := 1104) (by decide +kernel), List.mem_of_getElem? (i := 1842) (by decide +kernel), List.mem_of_getElem? (i := 1843) (by decide +kernel)⟩
theorem lw_p107 : lw_okq (⟨"GivenSearchModel", "layAnswer", "(I)V"⟩, 144) := ⟨⟨by decide +kernel, by decide +kernel⟩, List.mem_of_getElem? (i := 1104) (by decide +kernel), List.mem_of_getElem? (i := 1846) (by decide +kernel), List.mem_of_getElem? (i := 1847) (by decide +kernel)⟩
theorem lw_p108 : lw_okq (⟨"GivenSearchModel", "isNode", "(I)Z"⟩, 144) := ⟨⟨by decide +kernel, by decide +kernel⟩, List.mem_of_getElem? (i := 1104) (by decide +kernel), List.mem_of_getElem? (i := 1858) (by decide +kernel), List.mem_of_getElem? (i := 1859) (by decide +kernel)⟩
theorem lw_p109 : lw_okq (⟨"GivenSearchModel", "wasFound", "()Z"⟩, 144) := ⟨⟨by decide +kernel, by decide +kernel⟩, List.mem_of_getElem? (i := 1104) (by decide +kernel), List.mem_of_getElem? (i := 1862) (by decide +kernel), List.mem_of_getElem? (i := 1863) (by decide +kernel)⟩
theorem lw_p110 : lw_okq (⟨"GivenSearchModel", "writeRow", "([III)I"⟩, 144) := ⟨⟨by decide +kernel, by decide +kernel⟩, List.mem_of_getElem? (i := 1104) (by decide +kernel), List.mem_of_getElem? (i := 1870) (by decide +kernel), List.mem_of_getElem? (i := 1871) (by decide +kernel)⟩
theorem lw_p111 : lw_okq (⟨"GivenSearchModel", "put", "(I)V"⟩, 144) := ⟨⟨by decide +kernel, by decide +kernel⟩, List.mem_of_getElem? (i := 1104) (by decide +kernel), List.mem_of_getElem? (i := 1874) (by decide +kernel), List.mem_of_getElem? (i := 1875) (by decide +kernel)⟩
def lw_privs_7 : List (MethodName × Nat) := [(⟨"GivenSearchModel", "isCut", "(II)Z"⟩, 144), (⟨"GivenSearchModel", "tryGiven", "(II)V"⟩, 144), (⟨"GivenSearchModel", "leaveFound", "(I)V"⟩, 144), (⟨"GivenSearchModel", "newNode", "(I)I"⟩, 144), (⟨"GivenSearchModel", "leave", "(II)V"⟩, 144), (⟨"GivenSearchModel", "remember", "(II)V"⟩, 144), (⟨"GivenSearchModel", "keep", "(I)I"⟩, 144), (⟨"GivenSearchModel", "keepOne", "(I)I"⟩, 144), (⟨"GivenSearchModel", "layAsking", "(I)V"⟩, 144), (⟨"GivenSearchModel", "layTree", "(I)V"⟩, 144), (⟨"GivenSearchModel", "layNodeGoal", "(II)V"⟩, 144), (⟨"GivenSearchModel", "layAnswer", "(I)V"⟩, 144), (⟨"GivenSearchModel", "isNode", "(I)Z"⟩, 144), (⟨"GivenSearchModel", "wasFound", "()Z"⟩, 144), (⟨"GivenSearchModel", "writeRow", "([III)I"⟩, 144), (⟨"GivenSearchModel", "put", "(I)V"⟩, 144)]
theorem lw_r7 : ∀ q ∈ lw_privs_7, lw_okq q := List.forall_mem_cons.mpr ⟨lw_p96, List.forall_mem_cons.mpr ⟨lw_p97, List.forall_mem_cons.mpr ⟨lw_p98, List.forall_mem_cons.mpr ⟨lw_p99, List.forall_mem_cons.mpr ⟨lw_p100, List.forall_mem_cons.mpr ⟨lw_p101, List.forall_mem_cons.mpr ⟨lw_p102, List.forall_mem_cons.mpr ⟨lw_p103, List.forall_mem_cons.mpr ⟨lw_p104, List.forall_mem_cons.mpr ⟨lw_p105, List.forall_mem_cons.mpr ⟨lw_p106, List.forall_mem_cons.mpr ⟨lw_p107, List.forall_mem_cons.mpr ⟨lw_p108, List.forall_mem_cons.mpr ⟨lw_p109, List.forall_mem_cons.mpr ⟨lw_p110, List.forall_mem_cons.mpr ⟨lw_p111, fun _ h => absurd h List.not_mem_nil⟩⟩⟩⟩⟩⟩⟩⟩⟩⟩⟩⟩⟩⟩⟩⟩
theorem lw_p112 : lw_okq (⟨"GivenSearchModel", "putNumber", "(I)V"⟩, 144) := ⟨⟨by decide +kernel, by decide +kernel⟩, List.mem_of_getElem? (i := 1104) (by decide +kernel), List.mem_of_getElem? (i := 1878) (by decide +kernel), List.mem_of_getElem? (i := 1879) (by decide +kernel)⟩
theorem lw_p113 : lw_okq (⟨"GivenSearchModel", "closeAll", "(I)I"⟩, 144) := ⟨⟨by decide +kernel, by decide +kernel⟩, List.mem_of_getElem? (i := 1104) (by decide +kernel), List.mem_of_getElem? (i := 1882) (by decide +kernel), List.mem_of_getElem? (i := 1883) (by decide +kernel)⟩
theorem lw_p114 : lw_okq (⟨"GivenSearchModel", "endWith", "(I)I"⟩, 144) := ⟨⟨by decide +kernel, by decide +kernel⟩, List.mem_of_getElem? (i := 1104) (by decide +kernel), List.mem_of_getElem? (i := 1906) (by decide +kernel), List.mem_of_getElem? (i := 1907) (by decide +kernel)⟩
theorem lw_p115 : lw_okq (⟨"GivenSearchModel", "areUnified", "(II)Z"⟩, 144) := ⟨⟨by decide +kernel, by decide +kernel⟩, List.mem_of_getElem? (i := 1104) (by decide +kernel), List.mem_of_getElem? (i := 1925) (by decide +kernel), List.mem_of_getElem? (i := 1926) (by decide +kernel)⟩
theorem lw_p116 : lw_okq (⟨"GivenSearchModel", "coverOf", "(I)I"⟩, 144) := ⟨⟨by decide +kernel, by decide +kernel⟩, List.mem_of_getElem? (i := 1104) (by decide +kernel), List.mem_of_getElem? (i := 1929) (by decide +kernel), List.mem_of_getElem? (i := 1930) (by decide +kernel)⟩
theorem lw_p117 : lw_okq (⟨"GivenSearchModel", "allAround", "(I)I"⟩, 144) := ⟨⟨by decide +kernel, by decide +kernel⟩, List.mem_of_getElem? (i := 1104) (by decide +kernel), List.mem_of_getElem? (i := 1945) (by decide +kernel), List.mem_of_getElem? (i := 1946) (by decide +kernel)⟩
theorem lw_p118 : lw_okq (⟨"GivenSearchModel", "valuesOf", "(III)I"⟩, 144) := ⟨⟨by decide +kernel, by decide +kernel⟩, List.mem_of_getElem? (i := 1104) (by decide +kernel), List.mem_of_getElem? (i := 1949) (by decide +kernel), List.mem_of_getElem? (i := 1950) (by decide +kernel)⟩
theorem lw_p119 : lw_okq (⟨"GivenSearchModel", "openValue", "(II)V"⟩, 144) := ⟨⟨by decide +kernel, by decide +kernel⟩, List.mem_of_getElem? (i := 1104) (by decide +kernel), List.mem_of_getElem? (i := 1953) (by decide +kernel), List.mem_of_getElem? (i := 1954) (by decide +kernel)⟩
theorem lw_p120 : lw_okq (⟨"GivenSearchModel", "nextGiven", "(II)Z"⟩, 144) := ⟨⟨by decide +kernel, by decide +kernel⟩, List.mem_of_getElem? (i := 1104) (by decide +kernel), List.mem_of_getElem? (i := 1957) (by decide +kernel), List.mem_of_getElem? (i := 1958) (by decide +kernel)⟩
theorem lw_p121 : lw_okq (⟨"GivenSearchModel", "backValue", "(I)V"⟩, 144) := ⟨⟨by decide +kernel, by decide +kernel⟩, List.mem_of_getElem? (i := 1104) (by decide +kernel), List.mem_of_getElem? (i := 1961) (by decide +kernel), List.mem_of_getElem? (i := 1962) (by decide +kernel)⟩
theorem lw_p122 : lw_okq (⟨"GivenSearchModel", "upWith", "(IJ)I"⟩, 144) := ⟨⟨by decide +kernel, by decide +kernel⟩, List.mem_of_getElem? (i := 1104) (by decide +kernel), List.mem_of_getElem? (i := 1965) (by decide +kernel), List.mem_of_getElem? (i := 1966) (by decide +kernel)⟩
def lw_privs_8 : List (MethodName × Nat) := [(⟨"GivenSearchModel", "putNumber", "(I)V"⟩, 144), (⟨"GivenSearchModel", "closeAll", "(I)I"⟩, 144), (⟨"GivenSearchModel", "endWith", "(I)I"⟩, 144), (⟨"GivenSearchModel", "areUnified", "(II)Z"⟩, 144), (⟨"GivenSearchModel", "coverOf", "(I)I"⟩, 144), (⟨"GivenSearchModel", "allAround", "(I)I"⟩, 144), (⟨"GivenSearchModel", "valuesOf", "(III)I"⟩, 144), (⟨"GivenSearchModel", "openValue", "(II)V"⟩, 144), (⟨"GivenSearchModel", "nextGiven", "(II)Z"⟩, 144), (⟨"GivenSearchModel", "backValue", "(I)V"⟩, 144), (⟨"GivenSearchModel", "upWith", "(IJ)I"⟩, 144)]
theorem lw_r8 : ∀ q ∈ lw_privs_8, lw_okq q := List.forall_mem_cons.mpr ⟨lw_p112, List.forall_mem_cons.mpr ⟨lw_p113, List.forall_mem_cons.mpr ⟨lw_p114, List.forall_mem_cons.mpr ⟨lw_p115, List.forall_mem_cons.mpr ⟨lw_p116, List.forall_mem_cons.mpr ⟨lw_p117, List.forall_mem_cons.mpr ⟨lw_p118, List.forall_mem_cons.mpr ⟨lw_p119, List.forall_mem_cons.mpr ⟨lw_p120, List.forall_mem_cons.mpr ⟨lw_p121, List.forall_mem_cons.mpr ⟨lw_p122, fun _ h => absurd h List.not_mem_nil⟩⟩⟩⟩⟩⟩⟩⟩⟩⟩⟩
def lw_privs : List (MethodName × Nat) := lw_privs_1 ++ (lw_privs_2 ++ (lw_privs_3 ++ (lw_privs_4 ++ (lw_privs_5 ++ (lw_privs_6 ++ (lw_privs_7 ++ (lw_privs_8)))))))
def lw_tbl : List Cond := k2_sels lw_privs ++ tables_1
theorem lw_privs_ok : ∀ q ∈ lw_privs, lw_okq q := by
  show ∀ q ∈ lw_privs_1 ++ (lw_privs_2 ++ (lw_privs_3 ++ (lw_privs_4 ++ (lw_privs_5 ++ (lw_privs_6 ++ (lw_privs_7 ++ (lw_privs_8))))))), lw_okq q
  exact List.forall_mem_append.mpr ⟨lw_r1, List.forall_mem_append.mpr ⟨lw_r2, List.forall_mem_append.mpr ⟨lw_r3, List.forall_mem_append.mpr ⟨lw_r4, List.forall_mem_append.mpr ⟨lw_r5, List.forall_mem_append.mpr ⟨lw_r6, List.forall_mem_append.mpr ⟨lw_r7, lw_r8⟩⟩⟩⟩⟩⟩⟩

-- the classes: names, fields in the order of their slots, their types
def ax_T0 : u_T := fun k => match k with
  | 0 => ("GivenSearch$Flat", "sign", "[I", true)
  | _ => ("GivenSearch$Flat", "size", "I", false)
def ax_t0 : Nat → FieldType := fun k => match k with
  | 0 => .array .int
  | _ => .int
def ax_T1 : u_T := fun k => match k with
  | 0 => ("GivenSearch$Forest", "nodes", "LGivenSearch$Nodes;", true)
  | 1 => ("GivenSearch$Forest", "signs", "[I", false)
  | _ => ("GivenSearch$Forest", "signTop", "I", false)
def ax_t1 : Nat → FieldType := fun k => match k with
  | 0 => .object "GivenSearch$Nodes"
  | 1 => .array .int
  | _ => .int
def ax_T2 : u_T := fun k => match k with
  | _ => ("GivenSearch$Match", "putAt", "[I", true)
def ax_t2 : Nat → FieldType := fun k => match k with
  | _ => .array .int
def ax_T3 : u_T := fun k => match k with
  | 0 => ("GivenSearch$Memory", "count", "I", false)
  | 1 => ("GivenSearch$Memory", "nodes", "[I", true)
  | 2 => ("GivenSearch$Memory", "from", "[I", true)
  | 3 => ("GivenSearch$Memory", "forest", "LGivenSearch$Forest;", true)
  | 4 => ("GivenSearch$Memory", "scopes", "[I", true)
  | _ => ("GivenSearch$Memory", "goals", "[LGivenSearch$Flat;", true)
def ax_t3 : Nat → FieldType := fun k => match k with
  | 0 => .int
  | 1 => .array .int
  | 2 => .array .int
  | 3 => .object "GivenSearch$Forest"
  | 4 => .array .int
  | _ => .array (.object "GivenSearch$Flat")
def ax_T4 : u_T := fun k => match k with
  | 0 => ("GivenSearch$Nodes", "top", "I", false)
  | _ => ("GivenSearch$Nodes", "cells", "[I", false)
def ax_t4 : Nat → FieldType := fun k => match k with
  | 0 => .int
  | _ => .array .int
def ax_T5 : u_T := fun k => match k with
  | 0 => ("GivenSearch$Search", "terms", "LGivenSearch$Terms;", true)
  | 1 => ("GivenSearch$Search", "memory", "LGivenSearch$Memory;", true)
  | 2 => ("GivenSearch$Search", "tally", "[I", true)
  | 3 => ("GivenSearch$Search", "clash", "LGivenSearch$Flat;", true)
  | 4 => ("GivenSearch$Search", "first", "I", false)
  | 5 => ("GivenSearch$Search", "second", "I", false)
  | 6 => ("GivenSearch$Search", "plan", "LGivenSearch$Nodes;", true)
  | 7 => ("GivenSearch$Search", "row", "LGivenSearch$Flat;", true)
  | 8 => ("GivenSearch$Search", "other", "LGivenSearch$Flat;", true)
  | 9 => ("GivenSearch$Search", "underGiven", "[I", true)
  | 10 => ("GivenSearch$Search", "underGoal", "[I", true)
  | 11 => ("GivenSearch$Search", "needAt", "[I", true)
  | 12 => ("GivenSearch$Search", "place", "[I", true)
  | 13 => ("GivenSearch$Search", "start", "I", false)
  | 14 => ("GivenSearch$Search", "outs", "I", false)
  | 15 => ("GivenSearch$Search", "shuts", "I", false)
  | 16 => ("GivenSearch$Search", "stop", "I", false)
  | 17 => ("GivenSearch$Search", "remembers", "Z", false)
  | _ => ("GivenSearch$Search", "text", "LGivenSearch$Text;", false)
def ax_t5 : Nat → FieldType := fun k => match k with
  | 0 => .object "GivenSearch$Terms"
  | 1 => .object "GivenSearch$Memory"
  | 2 => .array .int
  | 3 => .object "GivenSearch$Flat"
  | 4 => .int
  | 5 => .int
  | 6 => .object "GivenSearch$Nodes"
  | 7 => .object "GivenSearch$Flat"
  | 8 => .object "GivenSearch$Flat"
  | 9 => .array .int
  | 10 => .array .int
  | 11 => .array .int
  | 12 => .array .int
  | 13 => .int
  | 14 => .int
  | 15 => .int
  | 16 => .int
  | 17 => .boolean
  | _ => .object "GivenSearch$Text"
def ax_T6 : u_T := fun k => match k with
  | 0 => ("GivenSearch$Tape", "length", "I", false)
  | 1 => ("GivenSearch$Tape", "at", "I", false)
  | 2 => ("GivenSearch$Tape", "octets", "[I", true)
  | _ => ("GivenSearch$Tape", "openAt", "[I", true)
def ax_t6 : Nat → FieldType := fun k => match k with
  | 0 => .int
  | 1 => .int
  | 2 => .array .int
  | _ => .array .int
def ax_T7 : u_T := fun k => match k with
  | 0 => ("GivenSearch$Terms", "top", "I", false)
  | 1 => ("GivenSearch$Terms", "trailTop", "I", false)
  | 2 => ("GivenSearch$Terms", "savedTop", "I", false)
  | 3 => ("GivenSearch$Terms", "sign", "[I", false)
  | 4 => ("GivenSearch$Terms", "seen", "[I", false)
  | 5 => ("GivenSearch$Terms", "link", "[I", false)
  | 6 => ("GivenSearch$Terms", "trail", "[I", false)
  | 7 => ("GivenSearch$Terms", "saved", "[I", false)
  | 8 => ("GivenSearch$Terms", "stamp", "I", false)
  | 9 => ("GivenSearch$Terms", "open", "[I", true)
  | 10 => ("GivenSearch$Terms", "pairs", "[I", true)
  | 11 => ("GivenSearch$Terms", "unknownOf", "[I", true)
  | 12 => ("GivenSearch$Terms", "names", "[I", true)
  | 13 => ("GivenSearch$Terms", "openTop", "I", false)
  | 14 => ("GivenSearch$Terms", "pairTop", "I", false)
  | _ => ("GivenSearch$Terms", "nameCount", "I", false)
def ax_t7 : Nat → FieldType := fun k => match k with
  | 0 => .int
  | 1 => .int
  | 2 => .int
  | 3 => .array .int
  | 4 => .array .int
  | 5 => .array .int
  | 6 => .array .int
  | 7 => .array .int
  | 8 => .int
  | 9 => .array .int
  | 10 => .array .int
  | 11 => .array .int
  | 12 => .array .int
  | 13 => .int
  | 14 => .int
  | _ => .int
def ax_T8 : u_T := fun k => match k with
  | 0 => ("GivenSearch$Text", "scopeCount", "I", false)
  | 1 => ("GivenSearch$Text", "givenCount", "I", false)
  | 2 => ("GivenSearch$Text", "around", "[I", true)
  | 3 => ("GivenSearch$Text", "lies", "[I", true)
  | 4 => ("GivenSearch$Text", "own", "[I", true)
  | 5 => ("GivenSearch$Text", "home", "[I", true)
  | 6 => ("GivenSearch$Text", "needs", "[I", true)
  | 7 => ("GivenSearch$Text", "match", "LGivenSearch$Match;", true)
  | 8 => ("GivenSearch$Text", "parts", "[LGivenSearch$Flat;", true)
  | _ => ("GivenSearch$Text", "cases", "[I", true)
def ax_t8 : Nat → FieldType := fun k => match k with
  | 0 => .int
  | 1 => .int
  | 2 => .array .int
  | 3 => .array .int
  | 4 => .array .int
  | 5 => .array .int
  | 6 => .array .int
  | 7 => .object "GivenSearch$Match"
  | 8 => .array (.object "GivenSearch$Flat")
  | _ => .array .int
def ax_T9 : u_T := fun k => match k with
  | 0 => ("GivenSearch$Written", "length", "I", false)
  | 1 => ("GivenSearch$Written", "octets", "[I", true)
  | _ => ("GivenSearch$Written", "wanted", "[I", true)
def ax_t9 : Nat → FieldType := fun k => match k with
  | 0 => .int
  | 1 => .array .int
  | _ => .array .int
def ax_T10 : u_T := fun k => match k with
  | 0 => ("GivenSearch", "tape", "LGivenSearch$Tape;", true)
  | 1 => ("GivenSearch", "types", "[LGivenSearch$Flat;", true)
  | 2 => ("GivenSearch", "read", "LGivenSearch$Flat;", true)
  | 3 => ("GivenSearch", "flat", "LGivenSearch$Flat;", true)
  | 4 => ("GivenSearch", "written", "LGivenSearch$Written;", true)
  | 5 => ("GivenSearch", "text", "LGivenSearch$Text;", false)
  | 6 => ("GivenSearch", "spare", "LGivenSearch$Text;", false)
  | 7 => ("GivenSearch", "search", "LGivenSearch$Search;", true)
  | 8 => ("GivenSearch", "faultAt", "I", false)
  | 9 => ("GivenSearch", "outs", "I", false)
  | 10 => ("GivenSearch", "shuts", "I", false)
  | 11 => ("GivenSearch", "told", "[I", true)
  | 12 => ("GivenSearch", "goal", "LGivenSearch$Flat;", true)
  | 13 => ("GivenSearch", "clash", "LGivenSearch$Flat;", true)
  | 14 => ("GivenSearch", "tree", "LGivenSearch$Forest;", true)
  | 15 => ("GivenSearch", "askedIn", "I", false)
  | 16 => ("GivenSearch", "firstOfBoth", "I", false)
  | _ => ("GivenSearch", "secondOfBoth", "I", false)
def ax_t10 : Nat → FieldType := fun k => match k with
  | 0 => .object "GivenSearch$Tape"
  | 1 => .array (.object "GivenSearch$Flat")
  | 2 => .object "GivenSearch$Flat"
  | 3 => .object "GivenSearch$Flat"
  | 4 => .object "GivenSearch$Written"
  | 5 => .object "GivenSearch$Text"
  | 6 => .object "GivenSearch$Text"
  | 7 => .object "GivenSearch$Search"
  | 8 => .int
  | 9 => .int
  | 10 => .int
  | 11 => .array .int
  | 12 => .object "GivenSearch$Flat"
  | 13 => .object "GivenSearch$Flat"
  | 14 => .object "GivenSearch$Forest"
  | 15 => .int
  | 16 => .int
  | _ => .int
def ax_T11 : u_T := fun k => match k with
  | 0 => ("GivenSearchModel", "tape", "[B", true)
  | 1 => ("GivenSearchModel", "taped", "I", false)
  | 2 => ("GivenSearchModel", "at", "I", false)
  | 3 => ("GivenSearchModel", "faultPlace", "I", false)
  | 4 => ("GivenSearchModel", "read", "[I", true)
  | 5 => ("GivenSearchModel", "open", "[I", true)
  | 6 => ("GivenSearchModel", "readLong", "I", false)
  | 7 => ("GivenSearchModel", "opened", "I", false)
  | 8 => ("GivenSearchModel", "around", "[I", true)
  | 9 => ("GivenSearchModel", "scopeOf", "[I", true)
  | 10 => ("GivenSearchModel", "needs", "[I", true)
  | 11 => ("GivenSearchModel", "things", "[I", true)
  | 12 => ("GivenSearchModel", "longOf", "[I", true)
  | 13 => ("GivenSearchModel", "scopes", "I", false)
  | 14 => ("GivenSearchModel", "givens", "I", false)
  | 15 => ("GivenSearchModel", "outs", "I", false)
  | 16 => ("GivenSearchModel", "shuts", "I", false)
  | 17 => ("GivenSearchModel", "newAround", "[I", true)
  | 18 => ("GivenSearchModel", "newScopeOf", "[I", true)
  | 19 => ("GivenSearchModel", "newNeeds", "[I", true)
  | 20 => ("GivenSearchModel", "newThings", "[I", true)
  | 21 => ("GivenSearchModel", "newLong", "[I", true)
  | 22 => ("GivenSearchModel", "opens", "[I", true)
  | 23 => ("GivenSearchModel", "newScopes", "I", false)
  | 24 => ("GivenSearchModel", "newGivens", "I", false)
  | 25 => ("GivenSearchModel", "deep", "I", false)
  | 26 => ("GivenSearchModel", "special", "[Z", true)
  | 27 => ("GivenSearchModel", "putAt", "[I", true)
  | 28 => ("GivenSearchModel", "head", "[I", true)
  | 29 => ("GivenSearchModel", "first", "[I", true)
  | 30 => ("GivenSearchModel", "tied", "[I", true)
  | 31 => ("GivenSearchModel", "parts", "[I", true)
  | 32 => ("GivenSearchModel", "trail", "[I", true)
  | 33 => ("GivenSearchModel", "heap", "I", false)
  | 34 => ("GivenSearchModel", "partMany", "I", false)
  | 35 => ("GivenSearchModel", "tiedMany", "I", false)
  | 36 => ("GivenSearchModel", "unknownOf", "[I", true)
  | 37 => ("GivenSearchModel", "pile", "[I", true)
  | 38 => ("GivenSearchModel", "piled", "I", false)
  | 39 => ("GivenSearchModel", "walk", "[I", true)
  | 40 => ("GivenSearchModel", "twos", "[I", true)
  | 41 => ("GivenSearchModel", "laid", "[I", true)
  | 42 => ("GivenSearchModel", "order", "[I", true)
  | 43 => ("GivenSearchModel", "laidLong", "I", false)
  | 44 => ("GivenSearchModel", "ordered", "I", false)
  | 45 => ("GivenSearchModel", "letters", "I", false)
  | 46 => ("GivenSearchModel", "told", "[I", true)
  | 47 => ("GivenSearchModel", "toldLong", "[I", true)
  | 48 => ("GivenSearchModel", "goalRow", "[I", true)
  | 49 => ("GivenSearchModel", "goalLong", "I", false)
  | 50 => ("GivenSearchModel", "goalScope", "I", false)
  | 51 => ("GivenSearchModel", "wasAsked", "Z", false)
  | 52 => ("GivenSearchModel", "nodeGiven", "[I", true)
  | 53 => ("GivenSearchModel", "nodeLevel", "[I", true)
  | 54 => ("GivenSearchModel", "nodeCands", "[I", true)
  | 55 => ("GivenSearchModel", "nodeFailed", "[I", true)
  | 56 => ("GivenSearchModel", "nodeUntried", "[I", true)
  | 57 => ("GivenSearchModel", "nodeBelow", "[I", true)
  | 58 => ("GivenSearchModel", "nodeKid", "[I", true)
  | 59 => ("GivenSearchModel", "nodeAll", "[I", true)
  | 60 => ("GivenSearchModel", "nodeGoal", "[I", true)
  | 61 => ("GivenSearchModel", "nodeLong", "[I", true)
  | 62 => ("GivenSearchModel", "pool", "[I", true)
  | 63 => ("GivenSearchModel", "kept", "I", false)
  | 64 => ("GivenSearchModel", "live", "I", false)
  | 65 => ("GivenSearchModel", "pooled", "I", false)
  | 66 => ("GivenSearchModel", "memoryScope", "[I", true)
  | 67 => ("GivenSearchModel", "memoryLong", "[I", true)
  | 68 => ("GivenSearchModel", "memoryRow", "[I", true)
  | 69 => ("GivenSearchModel", "memoryNode", "[I", true)
  | 70 => ("GivenSearchModel", "remembered", "I", false)
  | 71 => ("GivenSearchModel", "goal", "[I", true)
  | 72 => ("GivenSearchModel", "closed", "[Z", true)
  | 73 => ("GivenSearchModel", "cutsThen", "[I", true)
  | 74 => ("GivenSearchModel", "scopeNow", "[I", true)
  | 75 => ("GivenSearchModel", "level", "[I", true)
  | 76 => ("GivenSearchModel", "cands", "[I", true)
  | 77 => ("GivenSearchModel", "candMany", "[I", true)
  | 78 => ("GivenSearchModel", "failed", "[I", true)
  | 79 => ("GivenSearchModel", "best", "[I", true)
  | 80 => ("GivenSearchModel", "next", "[I", true)
  | 81 => ("GivenSearchModel", "tried", "[I", true)
  | 82 => ("GivenSearchModel", "need", "[I", true)
  | 83 => ("GivenSearchModel", "needNode", "[I", true)
  | 84 => ("GivenSearchModel", "mark", "[I", true)
  | 85 => ("GivenSearchModel", "heapMark", "[I", true)
  | 86 => ("GivenSearchModel", "partMark", "[I", true)
  | 87 => ("GivenSearchModel", "liveMark", "[I", true)
  | 88 => ("GivenSearchModel", "kid", "[I", true)
  | 89 => ("GivenSearchModel", "well", "[I", true)
  | 90 => ("GivenSearchModel", "wellGiven", "[I", true)
  | 91 => ("GivenSearchModel", "wellOther", "[I", true)
  | 92 => ("GivenSearchModel", "wellKid", "[I", true)
  | 93 => ("GivenSearchModel", "wellFrom", "[I", true)
  | 94 => ("GivenSearchModel", "wellMany", "[I", true)
  | 95 => ("GivenSearchModel", "savedFrom", "[I", true)
  | 96 => ("GivenSearchModel", "savedTo", "[I", true)
  | 97 => ("GivenSearchModel", "saved", "I", false)
  | 98 => ("GivenSearchModel", "frames", "I", false)
  | 99 => ("GivenSearchModel", "over", "I", false)
  | 100 => ("GivenSearchModel", "isApart", "Z", false)
  | 101 => ("GivenSearchModel", "hasCome", "Z", false)
  | 102 => ("GivenSearchModel", "came", "I", false)
  | 103 => ("GivenSearchModel", "askedMany", "I", false)
  | 104 => ("GivenSearchModel", "metMany", "I", false)
  | 105 => ("GivenSearchModel", "cutMany", "I", false)
  | 106 => ("GivenSearchModel", "triedMany", "I", false)
  | 107 => ("GivenSearchModel", "deepest", "I", false)
  | 108 => ("GivenSearchModel", "askedIn", "I", false)
  | 109 => ("GivenSearchModel", "keptAs", "[I", true)
  | 110 => ("GivenSearchModel", "todo", "[I", true)
  | 111 => ("GivenSearchModel", "whole", "I", false)
  | 112 => ("GivenSearchModel", "counts", "[I", true)
  | 113 => ("GivenSearchModel", "treeNode", "[I", true)
  | 114 => ("GivenSearchModel", "treeUp", "[I", true)
  | 115 => ("GivenSearchModel", "treeNeed", "[I", true)
  | 116 => ("GivenSearchModel", "treeGiven", "[I", true)
  | 117 => ("GivenSearchModel", "treeLevel", "[I", true)
  | 118 => ("GivenSearchModel", "treeCands", "[I", true)
  | 119 => ("GivenSearchModel", "treeFailed", "[I", true)
  | 120 => ("GivenSearchModel", "treeUntried", "[I", true)
  | 121 => ("GivenSearchModel", "treeBelow", "[I", true)
  | 122 => ("GivenSearchModel", "treeLong", "[I", true)
  | 123 => ("GivenSearchModel", "treeRow", "[I", true)
  | 124 => ("GivenSearchModel", "depthOf", "[I", true)
  | 125 => ("GivenSearchModel", "answer", "[I", true)
  | 126 => ("GivenSearchModel", "treeMany", "I", false)
  | 127 => ("GivenSearchModel", "answerLong", "I", false)
  | 128 => ("GivenSearchModel", "firstOne", "I", false)
  | 129 => ("GivenSearchModel", "otherOne", "I", false)
  | 130 => ("GivenSearchModel", "todoUp", "[I", true)
  | 131 => ("GivenSearchModel", "todoNeed", "[I", true)
  | 132 => ("GivenSearchModel", "written", "[B", true)
  | 133 => ("GivenSearchModel", "writtenLong", "I", false)
  | 134 => ("GivenSearchModel", "still", "[I", true)
  | 135 => ("GivenSearchModel", "valueGoal", "[I", true)
  | 136 => ("GivenSearchModel", "valueGiven", "[I", true)
  | 137 => ("GivenSearchModel", "valueNeed", "[I", true)
  | 138 => ("GivenSearchModel", "valueNeeds", "[I", true)
  | 139 => ("GivenSearchModel", "valueMark", "[I", true)
  | 140 => ("GivenSearchModel", "valueHeap", "[I", true)
  | 141 => ("GivenSearchModel", "valueParts", "[I", true)
  | 142 => ("GivenSearchModel", "product", "[J", true)
  | _ => ("GivenSearchModel", "sum", "[J", true)
def ax_t11 : Nat → FieldType := fun k => match k with
  | 0 => .array .byte
  | 1 => .int
  | 2 => .int
  | 3 => .int
  | 4 => .array .int
  | 5 => .array .int
  | 6 => .int
  | 7 => .int
  | 8 => .array .int
  | 9 => .array .int
  | 10 => .array .int
  | 11 => .array .int
  | 12 => .array .int
  | 13 => .int
  | 14 => .int
  | 15 => .int
  | 16 => .int
  | 17 => .array .int
  | 18 => .array .int
  | 19 => .array .int
  | 20 => .array .int
  | 21 => .array .int
  | 22 => .array .int
  | 23 => .int
  | 24 => .int
  | 25 => .int
  | 26 => .array .boolean
  | 27 => .array .int
  | 28 => .array .int
  | 29 => .array .int
  | 30 => .array .int
  | 31 => .array .int
  | 32 => .array .int
  | 33 => .int
  | 34 => .int
  | 35 => .int
  | 36 => .array .int
  | 37 => .array .int
  | 38 => .int
  | 39 => .array .int
  | 40 => .array .int
  | 41 => .array .int
  | 42 => .array .int
  | 43 => .int
  | 44 => .int
  | 45 => .int
  | 46 => .array .int
  | 47 => .array .int
  | 48 => .array .int
  | 49 => .int
  | 50 => .int
  | 51 => .boolean
  | 52 => .array .int
  | 53 => .array .int
  | 54 => .array .int
  | 55 => .array .int
  | 56 => .array .int
  | 57 => .array .int
  | 58 => .array .int
  | 59 => .array .int
  | 60 => .array .int
  | 61 => .array .int
  | 62 => .array .int
  | 63 => .int
  | 64 => .int
  | 65 => .int
  | 66 => .array .int
  | 67 => .array .int
  | 68 => .array .int
  | 69 => .array .int
  | 70 => .int
  | 71 => .array .int
  | 72 => .array .boolean
  | 73 => .array .int
  | 74 => .array .int
  | 75 => .array .int
  | 76 => .array .int
  | 77 => .array .int
  | 78 => .array .int
  | 79 => .array .int
  | 80 => .array .int
  | 81 => .array .int
  | 82 => .array .int
  | 83 => .array .int
  | 84 => .array .int
  | 85 => .array .int
  | 86 => .array .int
  | 87 => .array .int
  | 88 => .array .int
  | 89 => .array .int
  | 90 => .array .int
  | 91 => .array .int
  | 92 => .array .int
  | 93 => .array .int
  | 94 => .array .int
  | 95 => .array .int
  | 96 => .array .int
  | 97 => .int
  | 98 => .int
  | 99 => .int
  | 100 => .boolean
  | 101 => .boolean
  | 102 => .int
  | 103 => .int
  | 104 => .int
  | 105 => .int
  | 106 => .int
  | 107 => .int
  | 108 => .int
  | 109 => .array .int
  | 110 => .array .int
  | 111 => .int
  | 112 => .array .int
  | 113 => .array .int
  | 114 => .array .int
  | 115 => .array .int
  | 116 => .array .int
  | 117 => .array .int
  | 118 => .array .int
  | 119 => .array .int
  | 120 => .array .int
  | 121 => .array .int
  | 122 => .array .int
  | 123 => .array .int
  | 124 => .array .int
  | 125 => .array .int
  | 126 => .int
  | 127 => .int
  | 128 => .int
  | 129 => .int
  | 130 => .array .int
  | 131 => .array .int
  | 132 => .array .byte
  | 133 => .int
  | 134 => .array .int
  | 135 => .array .int
  | 136 => .array .int
  | 137 => .array .int
  | 138 => .array .int
  | 139 => .array .int
  | 140 => .array .int
  | 141 => .array .int
  | 142 => .array .long
  | _ => .array .long
def ax_cl : List vw_C := [("GivenSearch$Flat", ax_T0, 2), ("GivenSearch$Forest", ax_T1, 3), ("GivenSearch$Match", ax_T2, 1), ("GivenSearch$Memory", ax_T3, 6), ("GivenSearch$Nodes", ax_T4, 2), ("GivenSearch$Search", ax_T5, 19), ("GivenSearch$Tape", ax_T6, 4), ("GivenSearch$Terms", ax_T7, 16), ("GivenSearch$Text", ax_T8, 10), ("GivenSearch$Written", ax_T9, 3), ("GivenSearch", ax_T10, 18), ("GivenSearchModel", ax_T11, 144)]
def ax_ty (ci k : Nat) : FieldType := match ci with
  | 0 => ax_t0 k
  | 1 => ax_t1 k
  | 2 => ax_t2 k
  | 3 => ax_t3 k
  | 4 => ax_t4 k
  | 5 => ax_t5 k
  | 6 => ax_t6 k
  | 7 => ax_t7 k
  | 8 => ax_t8 k
  | 9 => ax_t9 k
  | 10 => ax_t10 k
  | _ => ax_t11 k
def ax_own (o : Nat) : String := match o with
  | 0 => "GivenSearch$Flat"
  | 1 => "GivenSearch$Forest"
  | 2 => "GivenSearch$Match"
  | 3 => "GivenSearch$Memory"
  | 4 => "GivenSearch$Nodes"
  | 5 => "GivenSearch$Search"
  | 6 => "GivenSearch$Tape"
  | 7 => "GivenSearch$Terms"
  | 8 => "GivenSearch$Text"
  | 9 => "GivenSearch$Written"
  | 10 => "GivenSearch"
  | 11 => "GivenSearchModel"
  | 12 => "java/lang/Integer"
  | 13 => "java/lang/Math"
  | 14 => "java/util/Arrays"
  | _ => "GivenSearchLaw"
-- links: owner, place in the pool, what it is, its place in the tables
def ax_FR : List (Nat × Nat × Nat × Nat × Nat) := [(0, 15, 0, 0, 57), (0, 21, 0, 1, 58), (1, 12, 1, 0, 243), (1, 18, 1, 1, 248), (1, 22, 4, 0, 231), (1, 26, 1, 2, 249), (1, 41, 0, 1, 60), (2, 9, 2, 0, 101), (2, 21, 0, 1, 59), (3, 9, 3, 1, 260), (3, 15, 3, 2, 261), (3, 21, 3, 3, 262), (3, 25, 3, 4, 264), (3, 30, 3, 5, 265), (3, 34, 3, 0, 258), (3, 56, 1, 0, 244), (3, 59, 4, 0, 234), (4, 9, 4, 1, 237), (4, 15, 4, 0, 232), (5, 12, 5, 0, 283), (5, 21, 5, 1, 285), (5, 25, 5, 2, 287), (5, 34, 5, 3, 289), (5, 38, 5, 4, 291), (5, 42, 5, 5, 293), (5, 48, 5, 6, 295), (5, 52, 5, 7, 296), (5, 55, 5, 8, 297), (5, 58, 5, 9, 298), (5, 61, 5, 10, 299), (5, 64, 5, 11, 300), (5, 67, 5, 12, 301), (5, 70, 5, 18, 307), (5, 80, 4, 0, 233), (5, 89, 5, 13, 302), (5, 92, 5, 14, 303), (5, 95, 5, 15, 304), (5, 98, 5, 16, 305), (5, 105, 5, 17, 306), (5, 127, 8, 4, 118), (5, 137, 7, 1, 164), (5, 140, 7, 0, 162), (5, 141, 8, 1, 111), (5, 189, 0, 1, 64), (5, 209, 3, 3, 263), (5, 234, 7, 2, 166), (5, 265, 1, 0, 247), (6, 9, 6, 2, 35), (6, 15, 6, 3, 36), (6, 18, 6, 0, 32), (6, 22, 6, 1, 33), (6, 53, 0, 1, 65), (6, 90, 8, 1, 112), (7, 9, 7, 3, 167), (7, 15, 7, 4, 168), (7, 18, 7, 5, 169), (7, 21, 7, 6, 170), (7, 24, 7, 7, 171), (7, 27, 7, 9, 173), (7, 30, 7, 10, 174), (7, 33, 7, 11, 175), (7, 36, 7, 12, 176), (7, 39, 7, 0, 161), (7, 43, 7, 1, 163), (7, 46, 7, 2, 165), (7, 72, 7, 13, 177), (7, 75, 0, 1, 63), (7, 108, 7, 14, 178), (7, 129, 7, 8, 172), (7, 146, 7, 15, 179), (8, 9, 8, 2, 113), (8, 15, 8, 3, 115), (8, 18, 8, 4, 117), (8, 21, 8, 5, 120), (8, 24, 8, 6, 122), (8, 30, 8, 7, 124), (8, 36, 8, 8, 126), (8, 40, 8, 9, 127), (8, 46, 8, 0, 107), (8, 50, 8, 1, 109), (8, 68, 0, 1, 66), (9, 11, 9, 1, 80), (9, 15, 9, 2, 81), (9, 18, 9, 0, 78), (9, 26, 0, 1, 61), (9, 47, 1, 0, 245), (9, 53, 4, 0, 235), (10, 12, 10, 0, 353), (10, 18, 10, 1, 354), (10, 25, 10, 2, 355), (10, 29, 10, 3, 356), (10, 35, 10, 4, 357), (10, 42, 10, 5, 358), (10, 46, 10, 6, 359), (10, 54, 10, 7, 360), (10, 58, 10, 8, 361), (10, 62, 10, 11, 364), (10, 66, 10, 12, 365), (10, 69, 10, 13, 366), (10, 75, 10, 14, 367), (10, 79, 10, 16, 369), (10, 82, 10, 17, 370), (10, 88, 6, 0, 31), (10, 98, 6, 1, 34), (10, 107, 10, 9, 362), (10, 110, 10, 10, 363), (10, 116, 8, 1, 110), (10, 119, 8, 0, 108), (10, 122, 5, 1, 286), (10, 126, 3, 0, 259), (10, 139, 8, 2, 114), (10, 142, 8, 4, 119), (10, 151, 8, 3, 116), (10, 170, 8, 5, 121), (10, 173, 8, 6, 123), (10, 176, 0, 1, 62), (10, 215, 8, 7, 125), (10, 230, 10, 15, 368), (10, 240, 1, 0, 246), (10, 256, 4, 0, 236), (10, 264, 9, 0, 79), (10, 274, 5, 0, 284), (10, 307, 5, 2, 288), (10, 326, 5, 4, 292), (10, 329, 5, 5, 294), (10, 332, 5, 3, 290), (11, 1, 11, 0, 1293), (11, 7, 11, 1, 1294), (11, 19, 11, 2, 1295), (11, 22, 11, 3, 1296), (11, 33, 11, 6, 1299), (11, 36, 11, 7, 1300), (11, 45, 11, 4, 1297), (11, 61, 11, 5, 1298), (11, 64, 11, 24, 1317), (11, 67, 11, 21, 1314), (11, 70, 11, 20, 1313), (11, 87, 11, 19, 1312), (11, 90, 11, 18, 1311), (11, 93, 11, 22, 1315), (11, 96, 11, 25, 1318), (11, 99, 11, 23, 1316), (11, 102, 11, 17, 1310), (11, 118, 11, 13, 1306), (11, 121, 11, 14, 1307), (11, 124, 11, 15, 1308), (11, 127, 11, 16, 1309), (11, 130, 11, 8, 1301), (11, 133, 11, 9, 1302), (11, 136, 11, 10, 1303), (11, 139, 11, 12, 1305), (11, 142, 11, 11, 1304), (11, 145, 11, 26, 1319), (11, 156, 11, 51, 1344), (11, 160, 11, 70, 1363), (11, 193, 11, 27, 1320), (11, 211, 11, 33, 1326), (11, 214, 11, 34, 1327), (11, 217, 11, 35, 1328), (11, 220, 11, 28, 1321), (11, 223, 11, 30, 1323), (11, 226, 11, 36, 1329), (11, 229, 11, 38, 1331), (11, 235, 11, 37, 1330), (11, 238, 11, 29, 1322), (11, 241, 11, 31, 1324), (11, 251, 11, 32, 1325), (11, 254, 11, 39, 1332), (11, 260, 11, 40, 1333), (11, 270, 11, 44, 1337), (11, 273, 11, 42, 1335), (11, 276, 11, 43, 1336), (11, 279, 11, 45, 1338), (11, 282, 11, 41, 1334), (11, 294, 11, 46, 1339), (11, 297, 11, 47, 1340), (11, 300, 11, 48, 1341), (11, 303, 11, 52, 1345), (11, 306, 11, 53, 1346), (11, 309, 11, 54, 1347), (11, 312, 11, 55, 1348), (11, 315, 11, 56, 1349), (11, 318, 11, 57, 1350), (11, 322, 11, 58, 1351), (11, 325, 11, 59, 1352), (11, 328, 11, 60, 1353), (11, 331, 11, 61, 1354), (11, 335, 11, 62, 1355), (11, 338, 11, 66, 1359), (11, 341, 11, 67, 1360), (11, 344, 11, 68, 1361), (11, 347, 11, 69, 1362), (11, 350, 11, 71, 1364), (11, 353, 11, 72, 1365), (11, 356, 11, 73, 1366), (11, 359, 11, 74, 1367), (11, 362, 11, 75, 1368), (11, 365, 11, 76, 1369), (11, 368, 11, 77, 1370), (11, 371, 11, 78, 1371), (11, 374, 11, 79, 1372), (11, 377, 11, 80, 1373), (11, 380, 11, 81, 1374), (11, 383, 11, 82, 1375), (11, 386, 11, 83, 1376), (11, 389, 11, 84, 1377), (11, 392, 11, 85, 1378), (11, 395, 11, 86, 1379), (11, 398, 11, 87, 1380), (11, 401, 11, 88, 1381), (11, 404, 11, 89, 1382), (11, 407, 11, 90, 1383), (11, 410, 11, 91, 1384), (11, 413, 11, 92, 1385), (11, 416, 11, 93, 1386), (11, 419, 11, 94, 1387), (11, 422, 11, 95, 1388), (11, 425, 11, 96, 1389), (11, 428, 11, 109, 1402), (11, 431, 11, 110, 1403), (11, 434, 11, 112, 1405), (11, 437, 11, 113, 1406), (11, 440, 11, 114, 1407), (11, 443, 11, 115, 1408), (11, 446, 11, 116, 1409), (11, 449, 11, 117, 1410), (11, 452, 11, 118, 1411), (11, 455, 11, 119, 1412), (11, 458, 11, 120, 1413), (11, 461, 11, 121, 1414), (11, 464, 11, 122, 1415), (11, 467, 11, 123, 1416), (11, 470, 11, 124, 1417), (11, 473, 11, 125, 1418), (11, 476, 11, 130, 1423), (11, 479, 11, 131, 1424), (11, 482, 11, 132, 1425), (11, 485, 11, 134, 1427), (11, 488, 11, 135, 1428), (11, 491, 11, 136, 1429), (11, 494, 11, 137, 1430), (11, 497, 11, 138, 1431), (11, 500, 11, 139, 1432), (11, 503, 11, 140, 1433), (11, 506, 11, 141, 1434), (11, 509, 11, 142, 1435), (11, 513, 11, 143, 1436), (11, 519, 11, 63, 1356), (11, 522, 11, 65, 1358), (11, 540, 11, 103, 1396), (11, 543, 11, 98, 1391), (11, 546, 11, 99, 1392), (11, 549, 11, 107, 1400), (11, 552, 11, 100, 1393), (11, 555, 11, 108, 1401), (11, 561, 11, 104, 1397), (11, 564, 11, 101, 1394), (11, 567, 11, 102, 1395), (11, 570, 11, 105, 1398), (11, 573, 11, 97, 1390), (11, 580, 11, 106, 1399), (11, 583, 11, 64, 1357), (11, 625, 11, 50, 1343), (11, 628, 11, 49, 1342), (11, 631, 11, 111, 1404), (11, 637, 11, 126, 1419), (11, 643, 11, 127, 1420), (11, 652, 11, 128, 1421), (11, 655, 11, 129, 1422), (11, 671, 11, 133, 1426)]
def ax_MR : List (Nat × Nat × Nat × Nat × Nat × String) := [(15, 9, 129, 2, 19, ""), (10, 3, 0, 3, 22, ""), (10, 11, 63, 4, 27, "GivenSearch"), (6, 3, 0, 3, 30, ""), (10, 22, 0, 2, 50, ""), (0, 3, 0, 3, 53, ""), (0, 9, 0, 7, 54, ""), (10, 34, 118, 4, 74, "GivenSearch"), (9, 3, 0, 3, 77, ""), (10, 41, 100, 2, 91, ""), (8, 3, 0, 3, 94, ""), (8, 29, 22, 4, 97, "GivenSearch"), (2, 3, 0, 3, 100, ""), (8, 43, 0, 2, 106, ""), (10, 51, 37, 2, 151, ""), (5, 3, 0, 3, 154, ""), (5, 11, 76, 4, 157, "GivenSearch"), (7, 3, 0, 3, 160, ""), (5, 20, 25, 4, 215, "GivenSearch"), (3, 3, 0, 3, 218, ""), (3, 20, 14, 4, 221, "GivenSearch"), (1, 3, 0, 3, 224, ""), (1, 11, 32, 4, 227, "GivenSearch"), (4, 3, 0, 3, 230, ""), (5, 31, 0, 2, 280, ""), (5, 47, 32, 4, 282, "GivenSearch"), (10, 74, 14, 4, 348, "GivenSearch"), (10, 85, 2, 0, 349, ""), (15, 13, 130, 0, 408, ""), (10, 91, 64, 0, 412, ""), (15, 18, 131, 0, 416, ""), (15, 23, 132, 0, 420, ""), (10, 94, 74, 0, 424, ""), (6, 73, 101, 0, 428, ""), (6, 29, 66, 0, 432, ""), (6, 25, 65, 0, 436, ""), (6, 76, 104, 0, 440, ""), (8, 53, 102, 0, 444, ""), (6, 80, 105, 0, 448, ""), (6, 64, 67, 0, 452, ""), (6, 83, 106, 0, 456, ""), (6, 86, 75, 0, 460, ""), (6, 93, 108, 0, 464, ""), (6, 33, 71, 0, 468, ""), (6, 37, 1, 0, 472, ""), (6, 42, 68, 0, 476, ""), (6, 46, 69, 0, 480, ""), (6, 49, 2, 0, 484, ""), (6, 56, 72, 0, 485, ""), (6, 60, 73, 0, 489, ""), (6, 67, 5, 0, 493, ""), (0, 29, 3, 0, 497, ""), (0, 33, 6, 1, 501, ""), (6, 70, 4, 0, 504, ""), (0, 25, 7, 0, 508, ""), (0, 36, 0, 8, 512, ""), (6, 97, 107, 0, 515, ""), (10, 101, 114, 0, 519, ""), (8, 64, 108, 0, 523, ""), (8, 75, 23, 0, 524, ""), (2, 15, 273, 1, 528, ""), (2, 27, 3, 0, 531, ""), (2, 31, 24, 0, 532, ""), (2, 35, 13, 0, 536, ""), (0, 43, 5, 0, 540, ""), (10, 104, 38, 0, 541, ""), (5, 74, 26, 0, 545, ""), (3, 38, 15, 0, 549, ""), (10, 113, 15, 0, 553, ""), (15, 28, 133, 0, 554, ""), (15, 32, 134, 0, 558, ""), (10, 131, 110, 0, 562, ""), (15, 36, 135, 0, 566, ""), (10, 135, 102, 0, 570, ""), (10, 145, 272, 1, 571, ""), (10, 154, 113, 0, 577, ""), (15, 41, 136, 0, 581, ""), (10, 157, 103, 0, 585, ""), (10, 160, 108, 0, 589, ""), (10, 164, 12, 0, 590, ""), (10, 167, 112, 0, 594, ""), (8, 60, 109, 0, 598, ""), (8, 57, 103, 0, 602, ""), (8, 71, 12, 0, 603, ""), (10, 179, 111, 0, 604, ""), (15, 45, 137, 0, 608, ""), (10, 182, 157, 1, 612, ""), (10, 186, 26, 0, 615, ""), (15, 50, 138, 0, 616, ""), (15, 54, 139, 0, 620, ""), (10, 189, 115, 0, 624, ""), (8, 79, 157, 5, 628, "GivenSearch"), (10, 192, 59, 0, 629, ""), (5, 77, 77, 0, 633, ""), (5, 109, 84, 0, 637, ""), (7, 68, 273, 1, 641, ""), (7, 80, 3, 0, 642, ""), (7, 83, 85, 0, 643, ""), (7, 86, 83, 0, 647, ""), (7, 60, 82, 1, 652, ""), (7, 53, 274, 1, 655, ""), (14, 304, 0, 8, 665, ""), (14, 150, 0, 6, 666, ""), (7, 64, 81, 0, 670, ""), (7, 89, 6, 1, 674, ""), (7, 92, 87, 0, 675, ""), (7, 96, 86, 0, 679, ""), (5, 148, 90, 0, 683, ""), (7, 111, 91, 0, 687, ""), (7, 116, 89, 0, 692, ""), (7, 104, 79, 0, 696, ""), (7, 49, 78, 0, 700, ""), (7, 100, 80, 0, 704, ""), (7, 119, 94, 0, 708, ""), (7, 132, 88, 0, 712, ""), (7, 123, 93, 0, 716, ""), (7, 126, 92, 0, 720, ""), (15, 58, 140, 0, 724, ""), (10, 196, 139, 0, 728, ""), (15, 62, 141, 0, 729, ""), (10, 200, 158, 0, 733, ""), (10, 203, 70, 0, 737, ""), (10, 207, 8, 0, 741, ""), (0, 39, 2, 0, 745, ""), (15, 66, 142, 0, 746, ""), (10, 211, 58, 0, 750, ""), (5, 185, 98, 0, 754, ""), (7, 143, 1, 0, 758, ""), (7, 149, 99, 0, 759, ""), (7, 152, 2, 0, 763, ""), (10, 219, 23, 0, 764, ""), (10, 224, 11, 0, 765, ""), (15, 71, 143, 0, 769, ""), (10, 227, 159, 0, 773, ""), (10, 259, 119, 0, 777, ""), (10, 304, 123, 0, 781, ""), (9, 31, 3, 0, 785, ""), (9, 35, 124, 0, 786, ""), (9, 22, 121, 0, 790, ""), (9, 44, 122, 0, 794, ""), (9, 38, 5, 0, 798, ""), (9, 41, 125, 0, 799, ""), (15, 75, 144, 0, 803, ""), (10, 233, 40, 0, 807, ""), (5, 101, 39, 0, 811, ""), (5, 83, 273, 1, 815, ""), (5, 113, 44, 0, 816, ""), (5, 155, 45, 0, 820, ""), (5, 158, 0, 7, 824, ""), (5, 164, 46, 0, 825, ""), (5, 192, 36, 0, 829, ""), (4, 20, 274, 1, 834, ""), (5, 196, 35, 0, 835, ""), (5, 168, 10, 0, 839, ""), (5, 172, 27, 0, 843, ""), (3, 41, 9, 0, 847, ""), (5, 176, 47, 0, 851, ""), (5, 199, 30, 0, 855, ""), (5, 179, 49, 0, 859, ""), (5, 217, 50, 0, 863, ""), (5, 220, 43, 0, 867, ""), (5, 130, 41, 0, 871, ""), (5, 117, 102, 0, 875, ""), (5, 123, 157, 5, 876, "GivenSearch"), (5, 144, 108, 0, 877, ""), (5, 151, 95, 0, 878, ""), (7, 135, 0, 8, 882, ""), (5, 223, 272, 1, 883, ""), (5, 228, 117, 0, 884, ""), (8, 86, 116, 0, 888, ""), (8, 83, 115, 0, 892, ""), (5, 231, 51, 0, 893, ""), (5, 237, 53, 0, 897, ""), (5, 256, 11, 0, 901, ""), (5, 241, 54, 0, 902, ""), (5, 259, 55, 0, 906, ""), (5, 262, 109, 0, 910, ""), (5, 244, 34, 0, 911, ""), (5, 247, 96, 0, 915, ""), (7, 140, 0, 7, 919, ""), (5, 250, 52, 0, 920, ""), (5, 253, 97, 0, 924, ""), (5, 134, 106, 0, 928, ""), (5, 182, 48, 0, 929, ""), (5, 202, 28, 0, 933, ""), (3, 45, 27, 0, 937, ""), (5, 206, 29, 0, 938, ""), (3, 49, 0, 2, 942, ""), (3, 52, 8, 0, 943, ""), (5, 213, 56, 0, 944, ""), (5, 270, 16, 0, 948, ""), (1, 29, 36, 0, 952, ""), (1, 33, 34, 0, 953, ""), (1, 37, 35, 0, 954, ""), (1, 46, 0, 8, 955, ""), (1, 51, 3, 0, 956, ""), (1, 55, 17, 0, 957, ""), (1, 60, 274, 1, 962, ""), (5, 273, 57, 0, 963, ""), (5, 277, 31, 0, 967, ""), (5, 280, 18, 0, 971, ""), (1, 66, 1, 0, 975, ""), (1, 69, 2, 0, 976, ""), (10, 237, 160, 0, 977, ""), (10, 310, 0, 6, 981, ""), (10, 316, 56, 0, 982, ""), (10, 320, 19, 0, 983, ""), (1, 71, 20, 0, 987, ""), (1, 74, 0, 7, 991, ""), (10, 323, 21, 0, 992, ""), (1, 77, 272, 1, 996, ""), (15, 79, 145, 0, 997, ""), (15, 83, 146, 0, 1001, ""), (10, 244, 33, 0, 1005, ""), (10, 249, 34, 0, 1009, ""), (15, 87, 147, 0, 1010, ""), (10, 252, 18, 0, 1014, ""), (15, 91, 148, 0, 1015, ""), (10, 260, 126, 0, 1019, ""), (9, 58, 20, 0, 1023, ""), (9, 61, 127, 0, 1024, ""), (9, 69, 128, 0, 1028, ""), (9, 65, 34, 0, 1032, ""), (15, 95, 149, 0, 1033, ""), (10, 265, 147, 0, 1037, ""), (15, 99, 150, 0, 1038, ""), (15, 103, 151, 0, 1042, ""), (10, 268, 120, 0, 1046, ""), (15, 107, 152, 0, 1050, ""), (15, 111, 153, 0, 1054, ""), (15, 115, 154, 0, 1058, ""), (15, 119, 155, 0, 1062, ""), (10, 270, 39, 0, 1066, ""), (10, 278, 84, 0, 1067, ""), (10, 284, 43, 0, 1068, ""), (10, 287, 117, 0, 1069, ""), (10, 290, 106, 0, 1070, ""), (15, 123, 156, 0, 1071, ""), (10, 293, 10, 0, 1075, ""), (10, 297, 42, 0, 1076, ""), (10, 300, 60, 0, 1080, ""), (5, 283, 0, 8, 1084, ""), (5, 286, 61, 0, 1085, ""), (5, 291, 62, 0, 1090, ""), (5, 295, 0, 9, 1094, ""), (15, 17, 168, 0, 1097, ""), (11, 11, 167, 0, 1101, ""), (15, 22, 169, 0, 1106, ""), (11, 15, 161, 1, 1110, ""), (15, 27, 183, 0, 1113, ""), (11, 115, 181, 0, 1117, ""), (11, 105, 182, 0, 1121, ""), (11, 109, 180, 0, 1125, ""), (11, 25, 170, 0, 1129, ""), (11, 29, 171, 0, 1133, ""), (11, 112, 179, 0, 1137, ""), (11, 77, 175, 0, 1141, ""), (11, 39, 173, 1, 1145, ""), (11, 42, 174, 1, 1148, ""), (11, 49, 165, 1, 1151, ""), (11, 53, 164, 1, 1154, ""), (11, 57, 176, 0, 1157, ""), (11, 81, 178, 0, 1161, ""), (11, 73, 177, 1, 1165, ""), (11, 84, 172, 0, 1168, ""), (11, 149, 196, 0, 1172, ""), (11, 189, 197, 0, 1176, ""), (11, 196, 195, 1, 1180, ""), (11, 186, 166, 1, 1183, ""), (11, 153, 215, 0, 1186, ""), (15, 31, 184, 0, 1190, ""), (15, 35, 187, 0, 1194, ""), (15, 40, 189, 0, 1198, ""), (11, 163, 185, 0, 1202, ""), (11, 166, 188, 0, 1206, ""), (15, 44, 192, 0, 1210, ""), (11, 176, 186, 0, 1214, ""), (11, 169, 190, 0, 1218, ""), (11, 173, 163, 1, 1222, ""), (11, 179, 191, 0, 1225, ""), (15, 49, 193, 0, 1229, ""), (11, 182, 162, 1, 1233, ""), (15, 53, 194, 0, 1236, ""), (15, 57, 198, 0, 1240, ""), (11, 200, 200, 0, 1244, ""), (11, 203, 204, 0, 1248, ""), (11, 244, 202, 0, 1252, ""), (11, 247, 203, 0, 1256, ""), (11, 232, 201, 0, 1260, ""), (11, 206, 209, 0, 1264, ""), (11, 257, 205, 0, 1268, ""), (11, 263, 208, 0, 1272, ""), (11, 266, 206, 0, 1276, ""), (15, 61, 199, 0, 1280, ""), (11, 209, 198, 0, 1284, ""), (15, 12, 212, 2, 1286, ""), (11, 288, 0, 3, 1289, ""), (15, 65, 214, 0, 1729, ""), (11, 516, 213, 0, 1733, ""), (15, 78, 240, 0, 1737, ""), (11, 658, 235, 0, 1741, ""), (11, 589, 221, 0, 1745, ""), (11, 537, 211, 0, 1749, ""), (11, 285, 210, 0, 1753, ""), (11, 558, 216, 0, 1757, ""), (11, 576, 217, 0, 1761, ""), (11, 525, 218, 0, 1765, ""), (11, 531, 207, 0, 1769, ""), (11, 528, 220, 0, 1773, ""), (11, 534, 219, 0, 1777, ""), (11, 634, 228, 0, 1781, ""), (11, 598, 229, 0, 1785, ""), (11, 595, 225, 0, 1789, ""), (11, 586, 224, 0, 1793, ""), (11, 592, 226, 0, 1797, ""), (11, 601, 222, 0, 1801, ""), (11, 604, 223, 0, 1805, ""), (11, 607, 230, 0, 1809, ""), (11, 613, 227, 0, 1813, ""), (11, 610, 231, 0, 1817, ""), (11, 616, 232, 0, 1821, ""), (11, 619, 233, 0, 1825, ""), (11, 622, 234, 0, 1829, ""), (11, 662, 239, 0, 1833, ""), (11, 646, 237, 0, 1837, ""), (11, 640, 236, 0, 1841, ""), (11, 649, 238, 0, 1845, ""), (15, 82, 241, 0, 1849, ""), (15, 86, 244, 0, 1853, ""), (11, 668, 243, 0, 1857, ""), (11, 665, 242, 0, 1861, ""), (15, 90, 249, 0, 1865, ""), (11, 683, 247, 0, 1869, ""), (11, 674, 245, 0, 1873, ""), (11, 677, 246, 0, 1877, ""), (11, 680, 248, 0, 1881, ""), (15, 98, 250, 0, 1885, ""), (15, 94, 251, 0, 1889, ""), (15, 102, 252, 0, 1893, ""), (15, 106, 253, 0, 1897, ""), (15, 110, 255, 0, 1901, ""), (11, 686, 254, 0, 1905, ""), (15, 114, 256, 0, 1909, ""), (15, 118, 257, 0, 1913, ""), (15, 70, 261, 0, 1917, ""), (11, 689, 258, 1, 1921, ""), (11, 692, 259, 0, 1924, ""), (11, 695, 260, 0, 1928, ""), (15, 74, 262, 0, 1932, ""), (15, 122, 263, 0, 1936, ""), (15, 126, 271, 0, 1940, ""), (11, 717, 264, 0, 1944, ""), (11, 720, 269, 0, 1948, ""), (11, 703, 265, 0, 1952, ""), (11, 706, 267, 0, 1956, ""), (11, 700, 268, 0, 1960, ""), (11, 709, 270, 0, 1964, ""), (11, 713, 266, 1, 1968, "")]
def ax_CR : List (Nat × Nat × Nat × Nat) := [(15, 7, 10, 17), (10, 9, 6, 25), (10, 16, 0, 47), (10, 32, 9, 72), (10, 39, 8, 89), (8, 27, 2, 95), (8, 34, 0, 105), (10, 49, 5, 149), (5, 9, 7, 155), (5, 18, 3, 213), (3, 18, 1, 219), (1, 9, 4, 225), (3, 28, 0, 257), (5, 29, 0, 279), (5, 45, 4, 281), (10, 72, 1, 347), (15, 10, 11, 1285)]
def ax_KR : List (Nat × Nat × Nat × Nat) := [(12, 265, 1431655765, 574), (12, 266, 858993459, 575), (12, 267, 252645135, 576), (7, 59, 65536, 651), (7, 63, 196608, 669), (7, 115, 16777216, 691), (4, 19, 131072, 833), (1, 59, 1048576, 961), (11, 293, 40000, 1290), (11, 321, 33680, 1291), (11, 334, 820000, 1292)]
def ax_LR : List (Nat × Nat × Nat × Nat) := [(5, 289, 1000000, 1089), (11, 698, 1000000, 1971)]
-- methods: owner, name, bytes, locals, answer, parameters, static, place of its code word
abbrev ax_Mt : Type := Nat × MethodName × ByteArray × Nat × Option FieldType × Nat × Bool × Nat × Nat × Nat
def ax_m0 : ax_Mt := (0, ⟨"GivenSearch$Flat", "<init>", "(I)V"⟩, prog_2_method_1_code, 2, none, 1, false, 52, 51, 0)
def ax_m1 : ax_Mt := (0, ⟨"GivenSearch$Flat", "clear", "()V"⟩, prog_2_method_2_code, 1, none, 0, false, 475, 473, 597)
def ax_m2 : ax_Mt := (0, ⟨"GivenSearch$Flat", "add", "(I)V"⟩, prog_2_method_3_code, 2, none, 1, false, 352, 350, 474)
def ax_m3 : ax_Mt := (0, ⟨"GivenSearch$Flat", "at", "(I)I"⟩, prog_2_method_4_code, 2, some .int, 1, false, 500, 498, 622)
def ax_m4 : ax_Mt := (0, ⟨"GivenSearch$Flat", "addPart", "(I)V"⟩, prog_2_method_5_code, 2, none, 1, false, 507, 505, 629)
def ax_m5 : ax_Mt := (0, ⟨"GivenSearch$Flat", "partsAt", "(I)I"⟩, prog_2_method_6_code, 2, some .int, 1, false, 496, 494, 618)
def ax_m6 : ax_Mt := (0, ⟨"GivenSearch$Flat", "partsOf", "(I)I"⟩, prog_2_method_7_code, 1, some .int, 1, true, 503, 502, 0)
def ax_m7 : ax_Mt := (0, ⟨"GivenSearch$Flat", "length", "()I"⟩, prog_2_method_8_code, 1, some .int, 0, false, 511, 510, 9)
def ax_m8 : ax_Mt := (0, ⟨"GivenSearch$Flat", "take", "(LGivenSearch$Flat;)V"⟩, prog_2_method_9_code, 3, none, 1, false, 744, 742, 866)
def ax_m9 : ax_Mt := (0, ⟨"GivenSearch$Flat", "isSame", "(LGivenSearch$Flat;)Z"⟩, prog_2_method_10_code, 3, some .boolean, 1, false, 850, 848, 972)
def ax_m10 : ax_Mt := (0, ⟨"GivenSearch$Flat", "isClosed", "()Z"⟩, prog_2_method_11_code, 2, some .boolean, 0, false, 842, 840, 964)
def ax_m11 : ax_Mt := (0, ⟨"GivenSearch$Flat", "cover", "()I"⟩, prog_2_method_12_code, 3, some .int, 0, false, 768, 766, 890)
def ax_m12 : ax_Mt := (0, ⟨"GivenSearch$Flat", "varLetters", "()I"⟩, prog_2_method_13_code, 3, some .int, 0, false, 593, 591, 715)
def ax_m13 : ax_Mt := (0, ⟨"GivenSearch$Flat", "behind", "(I)I"⟩, prog_2_method_14_code, 4, some .int, 1, false, 539, 537, 661)
def ax_m14 : ax_Mt := (1, ⟨"GivenSearch$Forest", "<init>", "()V"⟩, prog_3_method_1_code, 1, none, 0, false, 223, 222, 0)
def ax_m15 : ax_Mt := (1, ⟨"GivenSearch$Forest", "clear", "()V"⟩, prog_3_method_2_code, 1, none, 0, false, 552, 550, 674)
def ax_m16 : ax_Mt := (1, ⟨"GivenSearch$Forest", "add", "(LGivenSearch$Flat;LGivenSearch$Nodes;III)V"⟩, prog_3_method_3_code, 8, none, 5, false, 951, 949, 1073)
def ax_m17 : ax_Mt := (1, ⟨"GivenSearch$Forest", "addSign", "(I)V"⟩, prog_3_method_4_code, 2, none, 1, false, 960, 959, 45)
def ax_m18 : ax_Mt := (1, ⟨"GivenSearch$Forest", "goalInto", "(ILGivenSearch$Flat;)V"⟩, prog_3_method_5_code, 7, none, 2, false, 974, 972, 1096)
def ax_m19 : ax_Mt := (1, ⟨"GivenSearch$Forest", "deepest", "()I"⟩, prog_3_method_6_code, 3, some .int, 0, false, 986, 984, 1108)
def ax_m20 : ax_Mt := (1, ⟨"GivenSearch$Forest", "deepOf", "(I)I"⟩, prog_3_method_7_code, 5, some .int, 1, false, 990, 988, 1112)
def ax_m21 : ax_Mt := (1, ⟨"GivenSearch$Forest", "unlikeGivens", "()I"⟩, prog_3_method_8_code, 3, some .int, 0, false, 995, 993, 1117)
def ax_m22 : ax_Mt := (2, ⟨"GivenSearch$Match", "<init>", "()V"⟩, prog_4_method_1_code, 1, none, 0, false, 99, 98, 0)
def ax_m23 : ax_Mt := (2, ⟨"GivenSearch$Match", "becomes", "(LGivenSearch$Flat;LGivenSearch$Flat;)Z"⟩, prog_4_method_2_code, 6, some .boolean, 2, false, 527, 525, 649)
def ax_m24 : ax_Mt := (2, ⟨"GivenSearch$Match", "put", "(ILGivenSearch$Flat;I)Z"⟩, prog_4_method_3_code, 7, some .boolean, 3, false, 535, 534, 10)
def ax_m25 : ax_Mt := (3, ⟨"GivenSearch$Memory", "<init>", "()V"⟩, prog_5_method_1_code, 1, none, 0, false, 217, 216, 0)
def ax_m26 : ax_Mt := (3, ⟨"GivenSearch$Memory", "forget", "()V"⟩, prog_5_method_2_code, 1, none, 0, false, 548, 546, 670)
def ax_m27 : ax_Mt := (3, ⟨"GivenSearch$Memory", "find", "(ILGivenSearch$Flat;)I"⟩, prog_5_method_3_code, 4, some .int, 2, false, 846, 844, 968)
def ax_m28 : ax_Mt := (3, ⟨"GivenSearch$Memory", "takes", "(ILGivenSearch$Flat;)Z"⟩, prog_5_method_4_code, 3, some .boolean, 2, false, 936, 934, 1058)
def ax_m29 : ax_Mt := (3, ⟨"GivenSearch$Memory", "add", "(ILGivenSearch$Flat;I)V"⟩, prog_5_method_5_code, 4, none, 3, false, 941, 939, 1063)
def ax_m30 : ax_Mt := (3, ⟨"GivenSearch$Memory", "nodesOf", "(I)I"⟩, prog_5_method_6_code, 2, some .int, 1, false, 858, 856, 980)
def ax_m31 : ax_Mt := (3, ⟨"GivenSearch$Memory", "fromOf", "(I)I"⟩, prog_5_method_7_code, 2, some .int, 1, false, 970, 968, 1092)
def ax_m32 : ax_Mt := (4, ⟨"GivenSearch$Nodes", "<init>", "()V"⟩, prog_6_method_1_code, 1, none, 0, false, 229, 228, 0)
def ax_m33 : ax_Mt := (4, ⟨"GivenSearch$Nodes", "has", "(I)Z"⟩, prog_6_method_2_code, 2, some .boolean, 1, false, 1008, 1006, 1130)
def ax_m34 : ax_Mt := (4, ⟨"GivenSearch$Nodes", "get", "(II)I"⟩, prog_6_method_3_code, 4, some .int, 2, false, 914, 912, 1036)
def ax_m35 : ax_Mt := (4, ⟨"GivenSearch$Nodes", "set", "(III)V"⟩, prog_6_method_4_code, 5, none, 3, false, 838, 836, 960)
def ax_m36 : ax_Mt := (4, ⟨"GivenSearch$Nodes", "add", "()I"⟩, prog_6_method_5_code, 2, some .int, 0, false, 832, 830, 954)
def ax_m37 : ax_Mt := (5, ⟨"GivenSearch$Search", "<init>", "(LGivenSearch$Text;)V"⟩, prog_7_method_1_code, 2, none, 1, false, 153, 152, 0)
def ax_m38 : ax_Mt := (5, ⟨"GivenSearch$Search", "tell", "(LGivenSearch$Text;)V"⟩, prog_7_method_2_code, 2, none, 1, false, 544, 542, 666)
def ax_m39 : ax_Mt := (5, ⟨"GivenSearch$Search", "begin", "(III)V"⟩, prog_7_method_3_code, 4, none, 3, false, 814, 812, 936)
def ax_m40 : ax_Mt := (5, ⟨"GivenSearch$Search", "run", "(LGivenSearch$Flat;IIIZ)I"⟩, prog_7_method_4_code, 7, some .int, 5, false, 810, 808, 932)
def ax_m41 : ax_Mt := (5, ⟨"GivenSearch$Search", "usable", "(I)I"⟩, prog_7_method_5_code, 2, some .int, 1, false, 874, 872, 996)
def ax_m42 : ax_Mt := (5, ⟨"GivenSearch$Search", "usableFrom", "(I)I"⟩, prog_7_method_6_code, 5, some .int, 1, false, 1079, 1077, 1201)
def ax_m43 : ax_Mt := (5, ⟨"GivenSearch$Search", "suited", "(II)I"⟩, prog_7_method_7_code, 8, some .int, 2, false, 870, 868, 992)
def ax_m44 : ax_Mt := (5, ⟨"GivenSearch$Search", "askGoal", "(IIII)I"⟩, prog_7_method_8_code, 10, some .int, 4, false, 819, 818, 32)
def ax_m45 : ax_Mt := (5, ⟨"GivenSearch$Search", "mayAsk", "(II)Z"⟩, prog_7_method_9_code, 3, some .boolean, 2, false, 823, 822, 33)
def ax_m46 : ax_Mt := (5, ⟨"GivenSearch$Search", "addToPlan", "(III)I"⟩, prog_7_method_10_code, 5, some .int, 3, false, 828, 827, 34)
def ax_m47 : ax_Mt := (5, ⟨"GivenSearch$Search", "meet", "(II)I"⟩, prog_7_method_11_code, 3, some .int, 2, false, 854, 853, 35)
def ax_m48 : ax_Mt := (5, ⟨"GivenSearch$Search", "remember", "(III)V"⟩, prog_7_method_12_code, 4, none, 3, false, 932, 931, 44)
def ax_m49 : ax_Mt := (5, ⟨"GivenSearch$Search", "seek", "(III)I"⟩, prog_7_method_13_code, 7, some .int, 3, false, 862, 861, 36)
def ax_m50 : ax_Mt := (5, ⟨"GivenSearch$Search", "seekAt", "(IIII)I"⟩, prog_7_method_14_code, 9, some .int, 4, false, 866, 865, 37)
def ax_m51 : ax_Mt := (5, ⟨"GivenSearch$Search", "tryBest", "(IIII)I"⟩, prog_7_method_15_code, 14, some .int, 4, false, 896, 895, 39)
def ax_m52 : ax_Mt := (5, ⟨"GivenSearch$Search", "tellBoth", "(III)V"⟩, prog_7_method_16_code, 4, none, 3, false, 923, 922, 43)
def ax_m53 : ax_Mt := (5, ⟨"GivenSearch$Search", "isCut", "(III)Z"⟩, prog_7_method_17_code, 5, some .boolean, 3, false, 900, 899, 40)
def ax_m54 : ax_Mt := (5, ⟨"GivenSearch$Search", "tryGiven", "(IIII)I"⟩, prog_7_method_18_code, 8, some .int, 4, false, 905, 904, 41)
def ax_m55 : ax_Mt := (5, ⟨"GivenSearch$Search", "buildGiven", "(II)I"⟩, prog_7_method_19_code, 5, some .int, 2, false, 909, 908, 42)
def ax_m56 : ax_Mt := (5, ⟨"GivenSearch$Search", "plant", "(ILGivenSearch$Forest;)V"⟩, prog_7_method_20_code, 10, none, 2, false, 947, 945, 1069)
def ax_m57 : ax_Mt := (5, ⟨"GivenSearch$Search", "plantRemembered", "(ILGivenSearch$Forest;III)V"⟩, prog_7_method_21_code, 11, none, 5, false, 966, 965, 46)
def ax_m58 : ax_Mt := (5, ⟨"GivenSearch$Search", "join", "(LGivenSearch$Flat;LGivenSearch$Flat;LGivenSearch$Flat;)Z"⟩, prog_7_method_22_code, 6, some .boolean, 3, false, 753, 751, 875)
def ax_m59 : ax_Mt := (5, ⟨"GivenSearch$Search", "canMeet", "(LGivenSearch$Flat;LGivenSearch$Flat;)Z"⟩, prog_7_method_23_code, 4, some .boolean, 2, false, 632, 630, 754)
def ax_m60 : ax_Mt := (5, ⟨"GivenSearch$Search", "countValues", "(III)I"⟩, prog_7_method_24_code, 4, some .int, 3, false, 1083, 1081, 1205)
def ax_m61 : ax_Mt := (5, ⟨"GivenSearch$Search", "count", "(III)I"⟩, prog_7_method_25_code, 7, some .int, 3, false, 1088, 1087, 50)
def ax_m62 : ax_Mt := (5, ⟨"GivenSearch$Search", "countBy", "(IIII)J"⟩, prog_7_method_26_code, 12, some .long, 4, false, 1093, 1092, 51)
def ax_m63 : ax_Mt := (6, ⟨"GivenSearch$Tape", "<init>", "()V"⟩, prog_8_method_1_code, 1, none, 0, false, 29, 28, 0)
def ax_m64 : ax_Mt := (6, ⟨"GivenSearch$Tape", "addFour", "(I)V"⟩, prog_8_method_2_code, 3, none, 1, false, 415, 413, 537)
def ax_m65 : ax_Mt := (6, ⟨"GivenSearch$Tape", "next", "()I"⟩, prog_8_method_3_code, 1, some .int, 0, false, 439, 438, 1)
def ax_m66 : ax_Mt := (6, ⟨"GivenSearch$Tape", "isNext", "(C)Z"⟩, prog_8_method_4_code, 2, some .boolean, 1, false, 435, 434, 0)
def ax_m67 : ax_Mt := (6, ⟨"GivenSearch$Tape", "passed", "(C)Z"⟩, prog_8_method_5_code, 2, some .boolean, 1, false, 455, 454, 2)
def ax_m68 : ax_Mt := (6, ⟨"GivenSearch$Tape", "isConNext", "()Z"⟩, prog_8_method_6_code, 1, some .boolean, 0, false, 479, 478, 5)
def ax_m69 : ax_Mt := (6, ⟨"GivenSearch$Tape", "isVarNext", "()Z"⟩, prog_8_method_7_code, 1, some .boolean, 0, false, 483, 482, 6)
def ax_m70 : ax_Mt := (6, ⟨"GivenSearch$Tape", "readWhole", "(LGivenSearch$Flat;)Z"⟩, prog_8_method_8_code, 2, some .boolean, 1, false, 740, 738, 862)
def ax_m71 : ax_Mt := (6, ⟨"GivenSearch$Tape", "readOne", "(LGivenSearch$Flat;)Z"⟩, prog_8_method_9_code, 5, some .boolean, 1, false, 471, 470, 4)
def ax_m72 : ax_Mt := (6, ⟨"GivenSearch$Tape", "close", "(I)I"⟩, prog_8_method_10_code, 3, some .int, 1, false, 488, 487, 7)
def ax_m73 : ax_Mt := (6, ⟨"GivenSearch$Tape", "nextPart", "(LGivenSearch$Flat;I)Z"⟩, prog_8_method_11_code, 4, some .boolean, 2, false, 492, 491, 8)
def ax_m74 : ax_Mt := (6, ⟨"GivenSearch$Tape", "readText", "(LGivenSearch$Text;)Z"⟩, prog_8_method_12_code, 4, some .boolean, 1, false, 427, 425, 549)
def ax_m75 : ax_Mt := (6, ⟨"GivenSearch$Tape", "readGiven", "(LGivenSearch$Text;I)Z"⟩, prog_8_method_13_code, 5, some .boolean, 2, false, 463, 462, 3)
def ax_m76 : ax_Mt := (7, ⟨"GivenSearch$Terms", "<init>", "()V"⟩, prog_9_method_1_code, 1, none, 0, false, 159, 158, 0)
def ax_m77 : ax_Mt := (7, ⟨"GivenSearch$Terms", "clear", "()V"⟩, prog_9_method_2_code, 1, none, 0, false, 636, 634, 758)
def ax_m78 : ax_Mt := (7, ⟨"GivenSearch$Terms", "signOf", "(I)I"⟩, prog_9_method_3_code, 2, some .int, 1, false, 703, 702, 19)
def ax_m79 : ax_Mt := (7, ⟨"GivenSearch$Terms", "isUnknown", "(I)Z"⟩, prog_9_method_4_code, 2, some .boolean, 1, false, 699, 698, 18)
def ax_m80 : ax_Mt := (7, ⟨"GivenSearch$Terms", "partOf", "(II)I"⟩, prog_9_method_5_code, 4, some .int, 2, false, 707, 706, 20)
def ax_m81 : ax_Mt := (7, ⟨"GivenSearch$Terms", "setPart", "(III)V"⟩, prog_9_method_6_code, 5, none, 3, false, 673, 672, 13)
def ax_m82 : ax_Mt := (7, ⟨"GivenSearch$Terms", "grown", "([II)[I"⟩, prog_9_method_7_code, 2, some (.array .int), 2, true, 654, 653, 0)
def ax_m83 : ax_Mt := (7, ⟨"GivenSearch$Terms", "make", "(I)I"⟩, prog_9_method_8_code, 3, some .int, 1, false, 650, 649, 12)
def ax_m84 : ax_Mt := (7, ⟨"GivenSearch$Terms", "build", "(LGivenSearch$Flat;Z)I"⟩, prog_9_method_9_code, 7, some .int, 2, false, 640, 638, 762)
def ax_m85 : ax_Mt := (7, ⟨"GivenSearch$Terms", "unknown", "(I)I"⟩, prog_9_method_10_code, 2, some .int, 1, false, 646, 645, 11)
def ax_m86 : ax_Mt := (7, ⟨"GivenSearch$Terms", "pushOpen", "(I)V"⟩, prog_9_method_11_code, 2, none, 1, false, 682, 681, 15)
def ax_m87 : ax_Mt := (7, ⟨"GivenSearch$Terms", "popOpen", "()I"⟩, prog_9_method_12_code, 1, some .int, 0, false, 678, 677, 14)
def ax_m88 : ax_Mt := (7, ⟨"GivenSearch$Terms", "pushParts", "(I)V"⟩, prog_9_method_13_code, 3, none, 1, false, 715, 714, 22)
def ax_m89 : ax_Mt := (7, ⟨"GivenSearch$Terms", "solved", "(I)I"⟩, prog_9_method_14_code, 4, some .int, 1, false, 695, 694, 17)
def ax_m90 : ax_Mt := (7, ⟨"GivenSearch$Terms", "unify", "(II)Z"⟩, prog_9_method_15_code, 7, some .boolean, 2, false, 686, 684, 808)
def ax_m91 : ax_Mt := (7, ⟨"GivenSearch$Terms", "pushPair", "(II)V"⟩, prog_9_method_16_code, 3, none, 2, false, 690, 689, 16)
def ax_m92 : ax_Mt := (7, ⟨"GivenSearch$Terms", "pushPairsOfParts", "(II)V"⟩, prog_9_method_17_code, 4, none, 2, false, 723, 722, 24)
def ax_m93 : ax_Mt := (7, ⟨"GivenSearch$Terms", "put", "(II)V"⟩, prog_9_method_18_code, 3, none, 2, false, 719, 718, 23)
def ax_m94 : ax_Mt := (7, ⟨"GivenSearch$Terms", "standsIn", "(II)Z"⟩, prog_9_method_19_code, 5, some .boolean, 2, false, 711, 710, 21)
def ax_m95 : ax_Mt := (7, ⟨"GivenSearch$Terms", "back", "(II)V"⟩, prog_9_method_20_code, 3, none, 2, false, 881, 879, 1003)
def ax_m96 : ax_Mt := (7, ⟨"GivenSearch$Terms", "save", "(I)V"⟩, prog_9_method_21_code, 3, none, 1, false, 918, 916, 1040)
def ax_m97 : ax_Mt := (7, ⟨"GivenSearch$Terms", "putAgain", "(I)V"⟩, prog_9_method_22_code, 3, none, 1, false, 927, 925, 1049)
def ax_m98 : ax_Mt := (7, ⟨"GivenSearch$Terms", "flatten", "(ILGivenSearch$Flat;)V"⟩, prog_9_method_23_code, 5, none, 2, false, 757, 755, 879)
def ax_m99 : ax_Mt := (7, ⟨"GivenSearch$Terms", "nameOf", "(I)I"⟩, prog_9_method_24_code, 3, some .int, 1, false, 762, 761, 26)
def ax_m100 : ax_Mt := (8, ⟨"GivenSearch$Text", "<init>", "()V"⟩, prog_10_method_1_code, 2, none, 0, false, 93, 92, 0)
def ax_m101 : ax_Mt := (8, ⟨"GivenSearch$Text", "clear", "()V"⟩, prog_10_method_2_code, 1, none, 0, false, 431, 429, 553)
def ax_m102 : ax_Mt := (8, ⟨"GivenSearch$Text", "hasScope", "(I)Z"⟩, prog_10_method_3_code, 2, some .boolean, 1, false, 447, 445, 569)
def ax_m103 : ax_Mt := (8, ⟨"GivenSearch$Text", "hasGiven", "(I)Z"⟩, prog_10_method_4_code, 2, some .boolean, 1, false, 588, 586, 710)
def ax_m104 : ax_Mt := (8, ⟨"GivenSearch$Text", "mayOpenIn", "(I)Z"⟩, prog_10_method_5_code, 2, some .boolean, 1, false, 443, 441, 565)
def ax_m105 : ax_Mt := (8, ⟨"GivenSearch$Text", "open", "(I)I"⟩, prog_10_method_6_code, 3, some .int, 1, false, 451, 449, 573)
def ax_m106 : ax_Mt := (8, ⟨"GivenSearch$Text", "aroundOf", "(I)I"⟩, prog_10_method_7_code, 2, some .int, 1, false, 459, 457, 581)
def ax_m107 : ax_Mt := (8, ⟨"GivenSearch$Text", "addGiven", "(II)V"⟩, prog_10_method_8_code, 3, none, 2, false, 518, 516, 640)
def ax_m108 : ax_Mt := (8, ⟨"GivenSearch$Text", "part", "(II)LGivenSearch$Flat;"⟩, prog_10_method_9_code, 4, some (.object "GivenSearch$Flat"), 2, false, 467, 465, 589)
def ax_m109 : ax_Mt := (8, ⟨"GivenSearch$Text", "needsOf", "(I)I"⟩, prog_10_method_10_code, 2, some .int, 1, false, 601, 599, 723)
def ax_m110 : ax_Mt := (8, ⟨"GivenSearch$Text", "needsInAll", "()I"⟩, prog_10_method_11_code, 3, some .int, 0, false, 565, 563, 687)
def ax_m111 : ax_Mt := (8, ⟨"GivenSearch$Text", "needSizes", "(I)I"⟩, prog_10_method_12_code, 4, some .int, 1, false, 607, 605, 729)
def ax_m112 : ax_Mt := (8, ⟨"GivenSearch$Text", "needVars", "(I)I"⟩, prog_10_method_13_code, 4, some .int, 1, false, 597, 595, 719)
def ax_m113 : ax_Mt := (8, ⟨"GivenSearch$Text", "scopesRightIn", "(I)I"⟩, prog_10_method_14_code, 4, some .int, 1, false, 580, 578, 702)
def ax_m114 : ax_Mt := (8, ⟨"GivenSearch$Text", "settle", "()V"⟩, prog_10_method_15_code, 3, none, 0, false, 522, 520, 644)
def ax_m115 : ax_Mt := (8, ⟨"GivenSearch$Text", "isCase", "(II)Z"⟩, prog_10_method_16_code, 3, some .boolean, 2, false, 627, 625, 749)
def ax_m116 : ax_Mt := (8, ⟨"GivenSearch$Text", "hasMoreSpecial", "(II)Z"⟩, prog_10_method_17_code, 4, some .boolean, 2, false, 891, 890, 38)
def ax_m117 : ax_Mt := (8, ⟨"GivenSearch$Text", "bestOf", "(I)I"⟩, prog_10_method_18_code, 4, some .int, 1, false, 887, 885, 1009)
def ax_m118 : ax_Mt := (9, ⟨"GivenSearch$Written", "<init>", "()V"⟩, prog_11_method_1_code, 1, none, 0, false, 76, 75, 0)
def ax_m119 : ax_Mt := (9, ⟨"GivenSearch$Written", "clear", "()V"⟩, prog_11_method_2_code, 1, none, 0, false, 780, 778, 902)
def ax_m120 : ax_Mt := (9, ⟨"GivenSearch$Written", "at", "(I)I"⟩, prog_11_method_3_code, 2, some .int, 1, false, 1049, 1047, 1171)
def ax_m121 : ax_Mt := (9, ⟨"GivenSearch$Written", "add", "(I)V"⟩, prog_11_method_4_code, 2, none, 1, false, 793, 792, 29)
def ax_m122 : ax_Mt := (9, ⟨"GivenSearch$Written", "addNumber", "(I)V"⟩, prog_11_method_5_code, 2, none, 1, false, 797, 796, 30)
def ax_m123 : ax_Mt := (9, ⟨"GivenSearch$Written", "addFlat", "(LGivenSearch$Flat;)V"⟩, prog_11_method_6_code, 5, none, 1, false, 784, 782, 906)
def ax_m124 : ax_Mt := (9, ⟨"GivenSearch$Written", "addSign", "(I)V"⟩, prog_11_method_7_code, 3, none, 1, false, 789, 788, 28)
def ax_m125 : ax_Mt := (9, ⟨"GivenSearch$Written", "close", "(I)I"⟩, prog_11_method_8_code, 3, some .int, 1, false, 802, 801, 31)
def ax_m126 : ax_Mt := (9, ⟨"GivenSearch$Written", "addTree", "(LGivenSearch$Forest;)V"⟩, prog_11_method_9_code, 5, none, 1, false, 1022, 1020, 1144)
def ax_m127 : ax_Mt := (9, ⟨"GivenSearch$Written", "addBetween", "(II)V"⟩, prog_11_method_10_code, 3, none, 2, false, 1027, 1026, 48)
def ax_m128 : ax_Mt := (9, ⟨"GivenSearch$Written", "addEnds", "(I)V"⟩, prog_11_method_11_code, 3, none, 1, false, 1031, 1030, 49)
def ax_m129 : ax_Mt := (10, ⟨"GivenSearch", "<init>", "()V"⟩, prog_1_method_1_code, 2, none, 0, false, 21, 20, 0)
def ax_m130 : ax_Mt := (10, ⟨"GivenSearch", "feed", "(IIIII)I"⟩, prog_1_method_2_code, 6, some .int, 5, false, 411, 409, 533)
def ax_m131 : ax_Mt := (10, ⟨"GivenSearch", "end", "(I)I"⟩, prog_1_method_3_code, 2, some .int, 1, false, 419, 417, 541)
def ax_m132 : ax_Mt := (10, ⟨"GivenSearch", "scopes", "()I"⟩, prog_1_method_4_code, 3, some .int, 0, false, 423, 421, 545)
def ax_m133 : ax_Mt := (10, ⟨"GivenSearch", "fault", "()I"⟩, prog_1_method_5_code, 1, some .int, 0, false, 557, 555, 679)
def ax_m134 : ax_Mt := (10, ⟨"GivenSearch", "is", "(I)I"⟩, prog_1_method_6_code, 2, some .int, 1, false, 561, 559, 683)
def ax_m135 : ax_Mt := (10, ⟨"GivenSearch", "scope", "(II)I"⟩, prog_1_method_7_code, 3, some .int, 2, false, 569, 567, 691)
def ax_m136 : ax_Mt := (10, ⟨"GivenSearch", "given", "(II)I"⟩, prog_1_method_8_code, 5, some .int, 2, false, 584, 582, 706)
def ax_m137 : ax_Mt := (10, ⟨"GivenSearch", "out", "(IZ)Z"⟩, prog_1_method_9_code, 3, some .boolean, 2, false, 611, 609, 733)
def ax_m138 : ax_Mt := (10, ⟨"GivenSearch", "shut", "(IZ)Z"⟩, prog_1_method_10_code, 3, some .boolean, 2, false, 619, 617, 741)
def ax_m139 : ax_Mt := (10, ⟨"GivenSearch", "special", "(II)I"⟩, prog_1_method_11_code, 5, some .int, 2, false, 623, 621, 745)
def ax_m140 : ax_Mt := (10, ⟨"GivenSearch", "clashes", "()I"⟩, prog_1_method_12_code, 5, some .int, 0, false, 727, 725, 849)
def ax_m141 : ax_Mt := (10, ⟨"GivenSearch", "type", "(I)I"⟩, prog_1_method_13_code, 4, some .int, 1, false, 732, 730, 854)
def ax_m142 : ax_Mt := (10, ⟨"GivenSearch", "relation", "(III)I"⟩, prog_1_method_14_code, 4, some .int, 3, false, 749, 747, 871)
def ax_m143 : ax_Mt := (10, ⟨"GivenSearch", "unified", "(II)I"⟩, prog_1_method_15_code, 3, some .int, 2, false, 772, 770, 894)
def ax_m144 : ax_Mt := (10, ⟨"GivenSearch", "ask", "(I)I"⟩, prog_1_method_16_code, 4, some .int, 1, false, 806, 804, 928)
def ax_m145 : ax_Mt := (10, ⟨"GivenSearch", "asked", "(I)I"⟩, prog_1_method_17_code, 2, some .int, 1, false, 1000, 998, 1122)
def ax_m146 : ax_Mt := (10, ⟨"GivenSearch", "node", "(II)I"⟩, prog_1_method_18_code, 3, some .int, 2, false, 1004, 1002, 1126)
def ax_m147 : ax_Mt := (10, ⟨"GivenSearch", "writeGoal", "(I)I"⟩, prog_1_method_19_code, 2, some .int, 1, false, 1013, 1011, 1135)
def ax_m148 : ax_Mt := (10, ⟨"GivenSearch", "writeTree", "()I"⟩, prog_1_method_20_code, 1, some .int, 0, false, 1018, 1016, 1140)
def ax_m149 : ax_Mt := (10, ⟨"GivenSearch", "writeAnswer", "()I"⟩, prog_1_method_21_code, 1, some .int, 0, false, 1036, 1034, 1158)
def ax_m150 : ax_Mt := (10, ⟨"GivenSearch", "both", "(I)I"⟩, prog_1_method_22_code, 2, some .int, 1, false, 1041, 1039, 1163)
def ax_m151 : ax_Mt := (10, ⟨"GivenSearch", "octet", "(I)I"⟩, prog_1_method_23_code, 2, some .int, 1, false, 1045, 1043, 1167)
def ax_m152 : ax_Mt := (10, ⟨"GivenSearch", "without", "(I)I"⟩, prog_1_method_24_code, 2, some .int, 1, false, 1053, 1051, 1175)
def ax_m153 : ax_Mt := (10, ⟨"GivenSearch", "needed", "()I"⟩, prog_1_method_25_code, 3, some .int, 0, false, 1057, 1055, 1179)
def ax_m154 : ax_Mt := (10, ⟨"GivenSearch", "mends", "()I"⟩, prog_1_method_26_code, 3, some .int, 0, false, 1061, 1059, 1183)
def ax_m155 : ax_Mt := (10, ⟨"GivenSearch", "candidates", "(III)I"⟩, prog_1_method_27_code, 11, some .int, 3, false, 1065, 1063, 1187)
def ax_m156 : ax_Mt := (10, ⟨"GivenSearch", "values", "(III)I"⟩, prog_1_method_28_code, 6, some .int, 3, false, 1074, 1072, 1196)
def ax_m157 : ax_Mt := (10, ⟨"GivenSearch", "isIn", "(II)Z"⟩, prog_1_method_29_code, 2, some .boolean, 2, true, 614, 613, 0)
def ax_m158 : ax_Mt := (10, ⟨"GivenSearch", "hasType", "(I)Z"⟩, prog_1_method_30_code, 2, some .boolean, 1, false, 736, 735, 25)
def ax_m159 : ax_Mt := (10, ⟨"GivenSearch", "writeFlat", "()I"⟩, prog_1_method_31_code, 1, some .int, 0, false, 776, 775, 27)
def ax_m160 : ax_Mt := (10, ⟨"GivenSearch", "keepAsking", "()V"⟩, prog_1_method_32_code, 1, none, 0, false, 980, 979, 47)
def ax_m161 : ax_Mt := (11, ⟨"GivenSearchModel", "isIn", "(III)Z"⟩, prog_13_method_1_code, 3, some .boolean, 3, true, 1112, 1111, 0)
def ax_m162 : ax_Mt := (11, ⟨"GivenSearchModel", "has", "(II)Z"⟩, prog_13_method_2_code, 2, some .boolean, 2, true, 1235, 1234, 0)
def ax_m163 : ax_Mt := (11, ⟨"GivenSearchModel", "bits", "(I)I"⟩, prog_13_method_3_code, 3, some .int, 1, true, 1224, 1223, 0)
def ax_m164 : ax_Mt := (11, ⟨"GivenSearchModel", "con", "(II)I"⟩, prog_13_method_4_code, 2, some .int, 2, true, 1156, 1155, 0)
def ax_m165 : ax_Mt := (11, ⟨"GivenSearchModel", "var", "(I)I"⟩, prog_13_method_5_code, 1, some .int, 1, true, 1153, 1152, 0)
def ax_m166 : ax_Mt := (11, ⟨"GivenSearchModel", "partsOf", "(I)I"⟩, prog_13_method_6_code, 1, some .int, 1, true, 1185, 1184, 0)
def ax_m167 : ax_Mt := (11, ⟨"GivenSearchModel", "four", "(I)V"⟩, prog_13_method_7_code, 3, none, 1, false, 1105, 1103, 52)
def ax_m168 : ax_Mt := (11, ⟨"GivenSearchModel", "feed", "(IIIII)I"⟩, prog_13_method_8_code, 6, some .int, 5, false, 1100, 1098, 1222)
def ax_m169 : ax_Mt := (11, ⟨"GivenSearchModel", "end", "(I)I"⟩, prog_13_method_9_code, 2, some .int, 1, false, 1109, 1107, 1231)
def ax_m170 : ax_Mt := (11, ⟨"GivenSearchModel", "here", "()I"⟩, prog_13_method_10_code, 1, some .int, 0, false, 1132, 1131, 56)
def ax_m171 : ax_Mt := (11, ⟨"GivenSearchModel", "fails", "(I)Z"⟩, prog_13_method_11_code, 2, some .boolean, 1, false, 1136, 1135, 57)
def ax_m172 : ax_Mt := (11, ⟨"GivenSearchModel", "takes", "(I)Z"⟩, prog_13_method_12_code, 2, some .boolean, 1, false, 1171, 1170, 62)
def ax_m173 : ax_Mt := (11, ⟨"GivenSearchModel", "isVar", "(I)Z"⟩, prog_13_method_13_code, 1, some .boolean, 1, true, 1147, 1146, 0)
def ax_m174 : ax_Mt := (11, ⟨"GivenSearchModel", "isCon", "(I)Z"⟩, prog_13_method_14_code, 1, some .boolean, 1, true, 1150, 1149, 0)
def ax_m175 : ax_Mt := (11, ⟨"GivenSearchModel", "readType", "()Z"⟩, prog_13_method_15_code, 3, some .boolean, 0, false, 1144, 1143, 59)
def ax_m176 : ax_Mt := (11, ⟨"GivenSearchModel", "hasMore", "(Z)Z"⟩, prog_13_method_16_code, 3, some .boolean, 1, false, 1160, 1159, 60)
def ax_m177 : ax_Mt := (11, ⟨"GivenSearchModel", "copy", "([III[II)V"⟩, prog_13_method_17_code, 6, none, 5, true, 1167, 1166, 0)
def ax_m178 : ax_Mt := (11, ⟨"GivenSearchModel", "layType", "(I)V"⟩, prog_13_method_18_code, 3, none, 1, false, 1164, 1163, 61)
def ax_m179 : ax_Mt := (11, ⟨"GivenSearchModel", "readGiven", "()Z"⟩, prog_13_method_19_code, 3, some .boolean, 0, false, 1140, 1139, 58)
def ax_m180 : ax_Mt := (11, ⟨"GivenSearchModel", "openScope", "()Z"⟩, prog_13_method_20_code, 1, some .boolean, 0, false, 1128, 1127, 55)
def ax_m181 : ax_Mt := (11, ⟨"GivenSearchModel", "readScopes", "()Z"⟩, prog_13_method_21_code, 2, some .boolean, 0, false, 1120, 1119, 53)
def ax_m182 : ax_Mt := (11, ⟨"GivenSearchModel", "beginText", "()V"⟩, prog_13_method_22_code, 1, none, 0, false, 1124, 1123, 54)
def ax_m183 : ax_Mt := (11, ⟨"GivenSearchModel", "scopes", "()I"⟩, prog_13_method_23_code, 4, some .int, 0, false, 1116, 1114, 1238)
def ax_m184 : ax_Mt := (11, ⟨"GivenSearchModel", "fault", "()I"⟩, prog_13_method_24_code, 1, some .int, 0, false, 1193, 1191, 1315)
def ax_m185 : ax_Mt := (11, ⟨"GivenSearchModel", "isScope", "(I)Z"⟩, prog_13_method_25_code, 2, some .boolean, 1, false, 1205, 1204, 66)
def ax_m186 : ax_Mt := (11, ⟨"GivenSearchModel", "isGiven", "(I)Z"⟩, prog_13_method_26_code, 2, some .boolean, 1, false, 1217, 1216, 68)
def ax_m187 : ax_Mt := (11, ⟨"GivenSearchModel", "is", "(I)I"⟩, prog_13_method_27_code, 4, some .int, 1, false, 1197, 1195, 1319)
def ax_m188 : ax_Mt := (11, ⟨"GivenSearchModel", "liesIn", "(I)I"⟩, prog_13_method_28_code, 4, some .int, 1, false, 1209, 1208, 67)
def ax_m189 : ax_Mt := (11, ⟨"GivenSearchModel", "scope", "(II)I"⟩, prog_13_method_29_code, 5, some .int, 2, false, 1201, 1199, 1323)
def ax_m190 : ax_Mt := (11, ⟨"GivenSearchModel", "varsOf", "(III)I"⟩, prog_13_method_30_code, 7, some .int, 3, false, 1221, 1220, 69)
def ax_m191 : ax_Mt := (11, ⟨"GivenSearchModel", "needsVars", "(I)I"⟩, prog_13_method_31_code, 2, some .int, 1, false, 1228, 1227, 70)
def ax_m192 : ax_Mt := (11, ⟨"GivenSearchModel", "given", "(II)I"⟩, prog_13_method_32_code, 5, some .int, 2, false, 1213, 1211, 1335)
def ax_m193 : ax_Mt := (11, ⟨"GivenSearchModel", "out", "(IZ)Z"⟩, prog_13_method_33_code, 3, some .boolean, 2, false, 1232, 1230, 1354)
def ax_m194 : ax_Mt := (11, ⟨"GivenSearchModel", "shut", "(IZ)Z"⟩, prog_13_method_34_code, 3, some .boolean, 2, false, 1239, 1237, 1361)
def ax_m195 : ax_Mt := (11, ⟨"GivenSearchModel", "behind", "([II)I"⟩, prog_13_method_35_code, 4, some .int, 2, true, 1182, 1181, 0)
def ax_m196 : ax_Mt := (11, ⟨"GivenSearchModel", "isPut", "(IIII)Z"⟩, prog_13_method_36_code, 5, some .boolean, 4, false, 1175, 1174, 63)
def ax_m197 : ax_Mt := (11, ⟨"GivenSearchModel", "isPutIn", "([II[III)Z"⟩, prog_13_method_37_code, 11, some .boolean, 5, false, 1179, 1178, 64)
def ax_m198 : ax_Mt := (11, ⟨"GivenSearchModel", "special", "(II)I"⟩, prog_13_method_38_code, 4, some .int, 2, false, 1243, 1241, 1365)
def ax_m199 : ax_Mt := (11, ⟨"GivenSearchModel", "clashes", "()I"⟩, prog_13_method_39_code, 4, some .int, 0, false, 1283, 1281, 1405)
def ax_m200 : ax_Mt := (11, ⟨"GivenSearchModel", "beginHeap", "()V"⟩, prog_13_method_40_code, 1, none, 0, false, 1247, 1246, 71)
def ax_m201 : ax_Mt := (11, ⟨"GivenSearchModel", "unknown", "()I"⟩, prog_13_method_41_code, 1, some .int, 0, false, 1263, 1262, 75)
def ax_m202 : ax_Mt := (11, ⟨"GivenSearchModel", "newUnknowns", "()V"⟩, prog_13_method_42_code, 2, none, 0, false, 1255, 1254, 73)
def ax_m203 : ax_Mt := (11, ⟨"GivenSearchModel", "layRow", "([III)I"⟩, prog_13_method_43_code, 7, some .int, 3, false, 1259, 1258, 74)
def ax_m204 : ax_Mt := (11, ⟨"GivenSearchModel", "layGiven", "(II)I"⟩, prog_13_method_44_code, 3, some .int, 2, false, 1251, 1250, 72)
def ax_m205 : ax_Mt := (11, ⟨"GivenSearchModel", "seen", "(I)I"⟩, prog_13_method_45_code, 3, some .int, 1, false, 1271, 1270, 77)
def ax_m206 : ax_Mt := (11, ⟨"GivenSearchModel", "tie", "(II)V"⟩, prog_13_method_46_code, 3, none, 2, false, 1279, 1278, 79)
def ax_m207 : ax_Mt := (11, ⟨"GivenSearchModel", "untie", "(I)V"⟩, prog_13_method_47_code, 2, none, 1, false, 1772, 1771, 88)
def ax_m208 : ax_Mt := (11, ⟨"GivenSearchModel", "isWithin", "(II)Z"⟩, prog_13_method_48_code, 6, some .boolean, 2, false, 1275, 1274, 78)
def ax_m209 : ax_Mt := (11, ⟨"GivenSearchModel", "isUnified", "(II)Z"⟩, prog_13_method_49_code, 8, some .boolean, 2, false, 1267, 1266, 76)
def ax_m210 : ax_Mt := (11, ⟨"GivenSearchModel", "orderOf", "(I)I"⟩, prog_13_method_50_code, 3, some .int, 1, false, 1756, 1755, 84)
def ax_m211 : ax_Mt := (11, ⟨"GivenSearchModel", "layOut", "(I)I"⟩, prog_13_method_51_code, 6, some .int, 1, false, 1752, 1751, 83)
def ax_m212 : ax_Mt := (11, ⟨"GivenSearchModel", "<init>", "()V"⟩, prog_13_method_52_code, 2, none, 0, false, 1288, 1287, 0)
def ax_m213 : ax_Mt := (11, ⟨"GivenSearchModel", "readWhole", "()Z"⟩, prog_13_method_53_code, 1, some .boolean, 0, false, 1736, 1735, 80)
def ax_m214 : ax_Mt := (11, ⟨"GivenSearchModel", "type", "(I)I"⟩, prog_13_method_54_code, 3, some .int, 1, false, 1732, 1730, 1854)
def ax_m215 : ax_Mt := (11, ⟨"GivenSearchModel", "forget", "()V"⟩, prog_13_method_55_code, 1, none, 0, false, 1189, 1188, 65)
def ax_m216 : ax_Mt := (11, ⟨"GivenSearchModel", "memoryOf", "(I)I"⟩, prog_13_method_56_code, 5, some .int, 1, false, 1760, 1759, 85)
def ax_m217 : ax_Mt := (11, ⟨"GivenSearchModel", "openLevel", "(III)V"⟩, prog_13_method_57_code, 4, none, 3, false, 1764, 1763, 86)
def ax_m218 : ax_Mt := (11, ⟨"GivenSearchModel", "candidatesOf", "(II)I"⟩, prog_13_method_58_code, 8, some .int, 2, false, 1768, 1767, 87)
def ax_m219 : ax_Mt := (11, ⟨"GivenSearchModel", "bestOf", "(I)I"⟩, prog_13_method_59_code, 6, some .int, 1, false, 1780, 1779, 90)
def ax_m220 : ax_Mt := (11, ⟨"GivenSearchModel", "newRound", "(I)V"⟩, prog_13_method_60_code, 2, none, 1, false, 1776, 1775, 89)
def ax_m221 : ax_Mt := (11, ⟨"GivenSearchModel", "askGoal", "(I)V"⟩, prog_13_method_61_code, 6, none, 1, false, 1748, 1747, 82)
def ax_m222 : ax_Mt := (11, ⟨"GivenSearchModel", "isCut", "(II)Z"⟩, prog_13_method_62_code, 6, some .boolean, 2, false, 1804, 1803, 96)
def ax_m223 : ax_Mt := (11, ⟨"GivenSearchModel", "tryGiven", "(II)V"⟩, prog_13_method_63_code, 5, none, 2, false, 1808, 1807, 97)
def ax_m224 : ax_Mt := (11, ⟨"GivenSearchModel", "goOn", "(I)V"⟩, prog_13_method_64_code, 2, none, 1, false, 1796, 1795, 94)
def ax_m225 : ax_Mt := (11, ⟨"GivenSearchModel", "back", "(I)V"⟩, prog_13_method_65_code, 2, none, 1, false, 1792, 1791, 93)
def ax_m226 : ax_Mt := (11, ⟨"GivenSearchModel", "didWell", "(I)V"⟩, prog_13_method_66_code, 4, none, 1, false, 1800, 1799, 95)
def ax_m227 : ax_Mt := (11, ⟨"GivenSearchModel", "newNode", "(I)I"⟩, prog_13_method_67_code, 5, some .int, 1, false, 1816, 1815, 99)
def ax_m228 : ax_Mt := (11, ⟨"GivenSearchModel", "step", "()V"⟩, prog_13_method_68_code, 3, none, 0, false, 1784, 1783, 91)
def ax_m229 : ax_Mt := (11, ⟨"GivenSearchModel", "comeBack", "(I)V"⟩, prog_13_method_69_code, 2, none, 1, false, 1788, 1787, 92)
def ax_m230 : ax_Mt := (11, ⟨"GivenSearchModel", "leaveFound", "(I)V"⟩, prog_13_method_70_code, 3, none, 1, false, 1812, 1811, 98)
def ax_m231 : ax_Mt := (11, ⟨"GivenSearchModel", "leave", "(II)V"⟩, prog_13_method_71_code, 3, none, 2, false, 1820, 1819, 100)
def ax_m232 : ax_Mt := (11, ⟨"GivenSearchModel", "remember", "(II)V"⟩, prog_13_method_72_code, 4, none, 2, false, 1824, 1823, 101)
def ax_m233 : ax_Mt := (11, ⟨"GivenSearchModel", "keep", "(I)I"⟩, prog_13_method_73_code, 7, some .int, 1, false, 1828, 1827, 102)
def ax_m234 : ax_Mt := (11, ⟨"GivenSearchModel", "keepOne", "(I)I"⟩, prog_13_method_74_code, 5, some .int, 1, false, 1832, 1831, 103)
def ax_m235 : ax_Mt := (11, ⟨"GivenSearchModel", "askAll", "(Z)I"⟩, prog_13_method_75_code, 2, some .int, 1, false, 1744, 1743, 81)
def ax_m236 : ax_Mt := (11, ⟨"GivenSearchModel", "layNodeGoal", "(II)V"⟩, prog_13_method_76_code, 3, none, 2, false, 1844, 1843, 106)
def ax_m237 : ax_Mt := (11, ⟨"GivenSearchModel", "layTree", "(I)V"⟩, prog_13_method_77_code, 6, none, 1, false, 1840, 1839, 105)
def ax_m238 : ax_Mt := (11, ⟨"GivenSearchModel", "layAnswer", "(I)V"⟩, prog_13_method_78_code, 2, none, 1, false, 1848, 1847, 107)
def ax_m239 : ax_Mt := (11, ⟨"GivenSearchModel", "layAsking", "(I)V"⟩, prog_13_method_79_code, 4, none, 1, false, 1836, 1835, 104)
def ax_m240 : ax_Mt := (11, ⟨"GivenSearchModel", "ask", "(I)I"⟩, prog_13_method_80_code, 4, some .int, 1, false, 1740, 1738, 1862)
def ax_m241 : ax_Mt := (11, ⟨"GivenSearchModel", "asked", "(I)I"⟩, prog_13_method_81_code, 2, some .int, 1, false, 1852, 1850, 1974)
def ax_m242 : ax_Mt := (11, ⟨"GivenSearchModel", "wasFound", "()Z"⟩, prog_13_method_82_code, 1, some .boolean, 0, false, 1864, 1863, 109)
def ax_m243 : ax_Mt := (11, ⟨"GivenSearchModel", "isNode", "(I)Z"⟩, prog_13_method_83_code, 2, some .boolean, 1, false, 1860, 1859, 108)
def ax_m244 : ax_Mt := (11, ⟨"GivenSearchModel", "node", "(II)I"⟩, prog_13_method_84_code, 3, some .int, 2, false, 1856, 1854, 1978)
def ax_m245 : ax_Mt := (11, ⟨"GivenSearchModel", "put", "(I)V"⟩, prog_13_method_85_code, 2, none, 1, false, 1876, 1875, 111)
def ax_m246 : ax_Mt := (11, ⟨"GivenSearchModel", "putNumber", "(I)V"⟩, prog_13_method_86_code, 2, none, 1, false, 1880, 1879, 112)
def ax_m247 : ax_Mt := (11, ⟨"GivenSearchModel", "writeRow", "([III)I"⟩, prog_13_method_87_code, 7, some .int, 3, false, 1872, 1871, 110)
def ax_m248 : ax_Mt := (11, ⟨"GivenSearchModel", "closeAll", "(I)I"⟩, prog_13_method_88_code, 3, some .int, 1, false, 1884, 1883, 113)
def ax_m249 : ax_Mt := (11, ⟨"GivenSearchModel", "writeGoal", "(I)I"⟩, prog_13_method_89_code, 2, some .int, 1, false, 1868, 1866, 1990)
def ax_m250 : ax_Mt := (11, ⟨"GivenSearchModel", "writeAnswer", "()I"⟩, prog_13_method_90_code, 1, some .int, 0, false, 1888, 1886, 2010)
def ax_m251 : ax_Mt := (11, ⟨"GivenSearchModel", "writeTree", "()I"⟩, prog_13_method_91_code, 3, some .int, 0, false, 1892, 1890, 2014)
def ax_m252 : ax_Mt := (11, ⟨"GivenSearchModel", "both", "(I)I"⟩, prog_13_method_92_code, 2, some .int, 1, false, 1896, 1894, 2018)
def ax_m253 : ax_Mt := (11, ⟨"GivenSearchModel", "octet", "(I)I"⟩, prog_13_method_93_code, 2, some .int, 1, false, 1900, 1898, 2022)
def ax_m254 : ax_Mt := (11, ⟨"GivenSearchModel", "endWith", "(I)I"⟩, prog_13_method_94_code, 4, some .int, 1, false, 1908, 1907, 114)
def ax_m255 : ax_Mt := (11, ⟨"GivenSearchModel", "without", "(I)I"⟩, prog_13_method_95_code, 2, some .int, 1, false, 1904, 1902, 2026)
def ax_m256 : ax_Mt := (11, ⟨"GivenSearchModel", "needed", "()I"⟩, prog_13_method_96_code, 3, some .int, 0, false, 1912, 1910, 2034)
def ax_m257 : ax_Mt := (11, ⟨"GivenSearchModel", "mends", "()I"⟩, prog_13_method_97_code, 3, some .int, 0, false, 1916, 1914, 2038)
def ax_m258 : ax_Mt := (11, ⟨"GivenSearchModel", "isTold", "(I)Z"⟩, prog_13_method_98_code, 1, some .boolean, 1, true, 1923, 1922, 0)
def ax_m259 : ax_Mt := (11, ⟨"GivenSearchModel", "areUnified", "(II)Z"⟩, prog_13_method_99_code, 3, some .boolean, 2, false, 1927, 1926, 115)
def ax_m260 : ax_Mt := (11, ⟨"GivenSearchModel", "coverOf", "(I)I"⟩, prog_13_method_100_code, 4, some .int, 1, false, 1931, 1930, 116)
def ax_m261 : ax_Mt := (11, ⟨"GivenSearchModel", "relation", "(III)I"⟩, prog_13_method_101_code, 5, some .int, 3, false, 1920, 1918, 2042)
def ax_m262 : ax_Mt := (11, ⟨"GivenSearchModel", "unified", "(II)I"⟩, prog_13_method_102_code, 3, some .int, 2, false, 1935, 1933, 2057)
def ax_m263 : ax_Mt := (11, ⟨"GivenSearchModel", "candidates", "(III)I"⟩, prog_13_method_103_code, 11, some .int, 3, false, 1939, 1937, 2061)
def ax_m264 : ax_Mt := (11, ⟨"GivenSearchModel", "allAround", "(I)I"⟩, prog_13_method_104_code, 5, some .int, 1, false, 1947, 1946, 117)
def ax_m265 : ax_Mt := (11, ⟨"GivenSearchModel", "openValue", "(II)V"⟩, prog_13_method_105_code, 3, none, 2, false, 1955, 1954, 119)
def ax_m266 : ax_Mt := (11, ⟨"GivenSearchModel", "least", "(J)J"⟩, prog_13_method_106_code, 2, some .long, 1, true, 1970, 1969, 0)
def ax_m267 : ax_Mt := (11, ⟨"GivenSearchModel", "nextGiven", "(II)Z"⟩, prog_13_method_107_code, 6, some .boolean, 2, false, 1959, 1958, 120)
def ax_m268 : ax_Mt := (11, ⟨"GivenSearchModel", "backValue", "(I)V"⟩, prog_13_method_108_code, 2, none, 1, false, 1963, 1962, 121)
def ax_m269 : ax_Mt := (11, ⟨"GivenSearchModel", "valuesOf", "(III)I"⟩, prog_13_method_109_code, 6, some .int, 3, false, 1951, 1950, 118)
def ax_m270 : ax_Mt := (11, ⟨"GivenSearchModel", "upWith", "(IJ)I"⟩, prog_13_method_110_code, 4, some .int, 2, false, 1967, 1966, 122)
def ax_m271 : ax_Mt := (11, ⟨"GivenSearchModel", "values", "(III)I"⟩, prog_13_method_111_code, 6, some .int, 3, false, 1943, 1941, 2065)
def ax_m272 : ax_Mt := (12, ⟨"java/lang/Integer", "bitCount", "(I)I"⟩, prog_15_method_49_code, 1, some .int, 1, true, 573, 572, 0)
def ax_m273 : ax_Mt := (14, ⟨"java/util/Arrays", "fill", "([II)V"⟩, prog_18_method_103_code, 4, none, 2, true, 530, 529, 0)
def ax_m274 : ax_Mt := (14, ⟨"java/util/Arrays", "copyOf", "([II)[I"⟩, prog_18_method_123_code, 3, some (.array .int), 2, true, 657, 656, 0)
