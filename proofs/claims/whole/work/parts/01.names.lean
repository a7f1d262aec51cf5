-- ===== PART A: goes FIRST, ahead of the names: the tables' words, and 'selects' of the private methods out of them =====
/-- a private method of a class that the tables say can be made, by its rows of tables_1 -/
def lw_okq (q : MethodName × Nat) : Prop := (q.1.cls ≠ "java/lang/invoke/MethodHandle" ∧ q.1.cls ≠ "java/lang/invoke/VarHandle") ∧ Cond.instantiable q.1.cls q.2 ∈ tables_1 ∧ Cond.privateMethod q.1 ∈ tables_1 ∧ Cond.instanceMethod q.1 ∈ tables_1
theorem lw_p0 : lw_okq (⟨"GivenSearch$Tape", "isNext", "(C)Z"⟩, 4) := ⟨⟨by decide +kernel, by decide +kernel⟩, List.mem_of_getElem? (i := 26) (by decide +kernel), List.mem_of_getElem? (i := 433) (by decide +kernel), List.mem_of_getElem? (i := 434) (by decide +kernel)⟩
theorem lw_p1 : lw_okq (⟨"GivenSearch$Tape", "next", "()I"⟩, 4) := ⟨⟨by decide +kernel, by decide +kernel⟩, List.mem_of_getElem? (i := 26) (by decide +kernel), List.mem_of_getElem? (i := 437) (by decide +kernel), List.mem_of_getElem? (i := 438) (by decide +kernel)⟩
theorem lw_p2 : lw_okq (⟨"GivenSearch$Tape", "passed", "(C)Z"⟩, 4) := ⟨⟨by decide +kernel, by decide +kernel⟩, List.mem_of_getElem? (i := 26) (by decide +kernel), List.mem_of_getElem? (i := 453) (by decide +kernel), List.mem_of_getElem? (i := 454) (by decide +kernel)⟩
theorem lw_p3 : lw_okq (⟨"GivenSearch$Tape", "readGiven", "(LGivenSearch$Text;I)Z"⟩, 4) := ⟨⟨by decide +kernel, by decide +kernel⟩, List.mem_of_getElem? (i := 26) (by decide +kernel), List.mem_of_getElem? (i := 461) (by decide +kernel), List.mem_of_getElem? (i := 462) (by decide +kernel)⟩
theorem lw_p4 : lw_okq (⟨"GivenSearch$Tape", "readOne", "(LGivenSearch$Flat;)Z"⟩, 4) := ⟨⟨by decide +kernel, by decide +kernel⟩, List.mem_of_getElem? (i := 26) (by decide +kernel), List.mem_of_getElem? (i := 469) (by decide +kernel), List.mem_of_getElem? (i := 470) (by decide +kernel)⟩
theorem lw_p5 : lw_okq (⟨"GivenSearch$Tape", "isConNext", "()Z"⟩, 4) := ⟨⟨by decide +kernel, by decide +kernel⟩, List.mem_of_getElem? (i := 26) (by decide +kernel), List.mem_of_getElem? (i := 477) (by decide +kernel), List.mem_of_getElem? (i := 478) (by decide +kernel)⟩
theorem lw_p6 : lw_okq (⟨"GivenSearch$Tape", "isVarNext", "()Z"⟩, 4) := ⟨⟨by decide +kernel, by decide +kernel⟩, List.mem_of_getElem? (i := 26) (by decide +kernel), List.mem_of_getElem? (i := 481) (by decide +kernel), List.mem_of_getElem? (i := 482) (by decide +kernel)⟩
theorem lw_p7 : lw_okq (⟨"GivenSearch$Tape", "close", "(I)I"⟩, 4) := ⟨⟨by decide +kernel, by decide +kernel⟩, List.mem_of_getElem? (i := 26) (by decide +kernel), List.mem_of_getElem? (i := 486) (by decide +kernel), List.mem_of_getElem? (i := 487) (by decide +kernel)⟩
theorem lw_p8 : lw_okq (⟨"GivenSearch$Tape", "nextPart", "(LGivenSearch$Flat;I)Z"⟩, 4) := ⟨⟨by decide +kernel, by decide +kernel⟩, List.mem_of_getElem? (i := 26) (by decide +kernel), List.mem_of_getElem? (i := 490) (by decide +kernel), List.mem_of_getElem? (i := 491) (by decide +kernel)⟩
theorem lw_p9 : lw_okq (⟨"GivenSearch$Flat", "length", "()I"⟩, 2) := ⟨⟨by decide +kernel, by decide +kernel⟩, List.mem_of_getElem? (i := 49) (by decide +kernel), List.mem_of_getElem? (i := 509) (by decide +kernel), List.mem_of_getElem? (i := 510) (by decide +kernel)⟩
theorem lw_p10 : lw_okq (⟨"GivenSearch$Match", "put", "(ILGivenSearch$Flat;I)Z"⟩, 1) := ⟨⟨by decide +kernel, by decide +kernel⟩, List.mem_of_getElem? (i := 96) (by decide +kernel), List.mem_of_getElem? (i := 533) (by decide +kernel), List.mem_of_getElem? (i := 534) (by decide +kernel)⟩
theorem lw_p11 : lw_okq (⟨"GivenSearch$Terms", "unknown", "(I)I"⟩, 16) := ⟨⟨by decide +kernel, by decide +kernel⟩, List.mem_of_getElem? (i := 156) (by decide +kernel), List.mem_of_getElem? (i := 644) (by decide +kernel), List.mem_of_getElem? (i := 645) (by decide +kernel)⟩
theorem lw_p12 : lw_okq (⟨"GivenSearch$Terms", "make", "(I)I"⟩, 16) := ⟨⟨by decide +kernel, by decide +kernel⟩, List.mem_of_getElem? (i := 156) (by decide +kernel), List.mem_of_getElem? (i := 648) (by decide +kernel), List.mem_of_getElem? (i := 649) (by decide +kernel)⟩
theorem lw_p13 : lw_okq (⟨"GivenSearch$Terms", "setPart", "(III)V"⟩, 16) := ⟨⟨by decide +kernel, by decide +kernel⟩, List.mem_of_getElem? (i := 156) (by decide +kernel), List.mem_of_getElem? (i := 671) (by decide +kernel), List.mem_of_getElem? (i := 672) (by decide +kernel)⟩
theorem lw_p14 : lw_okq (⟨"GivenSearch$Terms", "popOpen", "()I"⟩, 16) := ⟨⟨by decide +kernel, by decide +kernel⟩, List.mem_of_getElem? (i := 156) (by decide +kernel), List.mem_of_getElem? (i := 676) (by decide +kernel), List.mem_of_getElem? (i := 677) (by decide +kernel)⟩
theorem lw_p15 : lw_okq (⟨"GivenSearch$Terms", "pushOpen", "(I)V"⟩, 16) := ⟨⟨by decide +kernel, by decide +kernel⟩, List.mem_of_getElem? (i := 156) (by decide +kernel), List.mem_of_getElem? (i := 680) (by decide +kernel), List.mem_of_getElem? (i := 681) (by decide +kernel)⟩
def lw_privs_1 : List (MethodName × Nat) := [(⟨"GivenSearch$Tape", "isNext", "(C)Z"⟩, 4), (⟨"GivenSearch$Tape", "next", "()I"⟩, 4), (⟨"GivenSearch$Tape", "passed", "(C)Z"⟩, 4), (⟨"GivenSearch$Tape", "readGiven", "(LGivenSearch$Text;I)Z"⟩, 4), (⟨"GivenSearch$Tape", "readOne", "(LGivenSearch$Flat;)Z"⟩, 4), (⟨"GivenSearch$Tape", "isConNext", "()Z"⟩, 4), (⟨"GivenSearch$Tape", "isVarNext", "()Z"⟩, 4), (⟨"GivenSearch$Tape", "close", "(I)I"⟩, 4), (⟨"GivenSearch$Tape", "nextPart", "(LGivenSearch$Flat;I)Z"⟩, 4), (⟨"GivenSearch$Flat", "length", "()I"⟩, 2), (⟨"GivenSearch$Match", "put", "(ILGivenSearch$Flat;I)Z"⟩, 1), (⟨"GivenSearch$Terms", "unknown", "(I)I"⟩, 16), (⟨"GivenSearch$Terms", "make", "(I)I"⟩, 16), (⟨"GivenSearch$Terms", "setPart", "(III)V"⟩, 16), (⟨"GivenSearch$Terms", "popOpen", "()I"⟩, 16), (⟨"GivenSearch$Terms", "pushOpen", "(I)V"⟩, 16)]
theorem lw_r1 : ∀ q ∈ lw_privs_1, lw_okq q := List.forall_mem_cons.mpr ⟨lw_p0, List.forall_mem_cons.mpr ⟨lw_p1, List.forall_mem_cons.mpr ⟨lw_p2, List.forall_mem_cons.mpr ⟨lw_p3, List.forall_mem_cons.mpr ⟨lw_p4, List.forall_mem_cons.mpr ⟨lw_p5, List.forall_mem_cons.mpr ⟨lw_p6, List.forall_mem_cons.mpr ⟨lw_p7, List.forall_mem_cons.mpr ⟨lw_p8, List.forall_mem_cons.mpr ⟨lw_p9, List.forall_mem_cons.mpr ⟨lw_p10, List.forall_mem_cons.mpr ⟨lw_p11, List.forall_mem_cons.mpr ⟨lw_p12, List.forall_mem_cons.mpr ⟨lw_p13, List.forall_mem_cons.mpr ⟨lw_p14, List.forall_mem_cons.mpr ⟨lw_p15, fun _ h => absurd h List.not_mem_nil⟩⟩⟩⟩⟩⟩⟩⟩⟩⟩⟩⟩⟩⟩⟩⟩
theorem lw_p16 : lw_okq (⟨"GivenSearch$Terms", "pushPair", "(II)V"⟩, 16) := ⟨⟨by decide +kernel, by decide +kernel⟩, List.mem_of_getElem? (i := 156) (by decide +kernel), List.mem_of_getElem? (i := 688) (by decide +kernel), List.mem_of_getElem? (i := 689) (by decide +kernel)⟩
theorem lw_p17 : lw_okq (⟨"GivenSearch$Terms", "solved", "(I)I"⟩, 16) := ⟨⟨by decide +kernel, by decide +kernel⟩, List.mem_of_getElem? (i := 156) (by decide +kernel), List.mem_of_getElem? (i := 693) (by decide +kernel), List.mem_of_getElem? (i := 694) (by decide +kernel)⟩
theorem lw_p18 : lw_okq (⟨"GivenSearch$Terms", "isUnknown", "(I)Z"⟩, 16) := ⟨⟨by decide +kernel, by decide +kernel⟩, List.mem_of_getElem? (i := 156) (by decide +kernel), List.mem_of_getElem? (i := 697) (by decide +kernel), List.mem_of_getElem? (i := 698) (by decide +kernel)⟩
theorem lw_p19 : lw_okq (⟨"GivenSearch$Terms", "signOf", "(I)I"⟩, 16) := ⟨⟨by decide +kernel, by decide +kernel⟩, List.mem_of_getElem? (i := 156) (by decide +kernel), List.mem_of_getElem? (i := 701) (by decide +kernel), List.mem_of_getElem? (i := 702) (by decide +kernel)⟩
theorem lw_p20 : lw_okq (⟨"GivenSearch$Terms", "partOf", "(II)I"⟩, 16) := ⟨⟨by decide +kernel, by decide +kernel⟩, List.mem_of_getElem? (i := 156) (by decide +kernel), List.mem_of_getElem? (i := 705) (by decide +kernel), List.mem_of_getElem? (i := 706) (by decide +kernel)⟩
theorem lw_p21 : lw_okq (⟨"GivenSearch$Terms", "standsIn", "(II)Z"⟩, 16) := ⟨⟨by decide +kernel, by decide +kernel⟩, List.mem_of_getElem? (i := 156) (by decide +kernel), List.mem_of_getElem? (i := 709) (by decide +kernel), List.mem_of_getElem? (i := 710) (by decide +kernel)⟩
theorem lw_p22 : lw_okq (⟨"GivenSearch$Terms", "pushParts", "(I)V"⟩, 16) := ⟨⟨by decide +kernel, by decide +kernel⟩, List.mem_of_getElem? (i := 156) (by decide +kernel), List.mem_of_getElem? (i := 713) (by decide +kernel), List.mem_of_getElem? (i := 714) (by decide +kernel)⟩
theorem lw_p23 : lw_okq (⟨"GivenSearch$Terms", "put", "(II)V"⟩, 16) := ⟨⟨by decide +kernel, by decide +kernel⟩, List.mem_of_getElem? (i := 156) (by decide +kernel), List.mem_of_getElem? (i := 717) (by decide +kernel), List.mem_of_getElem? (i := 718) (by decide +kernel)⟩
theorem lw_p24 : lw_okq (⟨"GivenSearch$Terms", "pushPairsOfParts", "(II)V"⟩, 16) := ⟨⟨by decide +kernel, by decide +kernel⟩, List.mem_of_getElem? (i := 156) (by decide +kernel), List.mem_of_getElem? (i := 721) (by decide +kernel), List.mem_of_getElem? (i := 722) (by decide +kernel)⟩
theorem lw_p25 : lw_okq (⟨"GivenSearch", "hasType", "(I)Z"⟩, 18) := ⟨⟨by decide +kernel, by decide +kernel⟩, List.mem_of_getElem? (i := 18) (by decide +kernel), List.mem_of_getElem? (i := 734) (by decide +kernel), List.mem_of_getElem? (i := 735) (by decide +kernel)⟩
theorem lw_p26 : lw_okq (⟨"GivenSearch$Terms", "nameOf", "(I)I"⟩, 16) := ⟨⟨by decide +kernel, by decide +kernel⟩, List.mem_of_getElem? (i := 156) (by decide +kernel), List.mem_of_getElem? (i := 760) (by decide +kernel), List.mem_of_getElem? (i := 761) (by decide +kernel)⟩
theorem lw_p27 : lw_okq (⟨"GivenSearch", "writeFlat", "()I"⟩, 18) := ⟨⟨by decide +kernel, by decide +kernel⟩, List.mem_of_getElem? (i := 18) (by decide +kernel), List.mem_of_getElem? (i := 774) (by decide +kernel), List.mem_of_getElem? (i := 775) (by decide +kernel)⟩
theorem lw_p28 : lw_okq (⟨"GivenSearch$Written", "addSign", "(I)V"⟩, 3) := ⟨⟨by decide +kernel, by decide +kernel⟩, List.mem_of_getElem? (i := 73) (by decide +kernel), List.mem_of_getElem? (i := 787) (by decide +kernel), List.mem_of_getElem? (i := 788) (by decide +kernel)⟩
theorem lw_p29 : lw_okq (⟨"GivenSearch$Written", "add", "(I)V"⟩, 3) := ⟨⟨by decide +kernel, by decide +kernel⟩, List.mem_of_getElem? (i := 73) (by decide +kernel), List.mem_of_getElem? (i := 791) (by decide +kernel), List.mem_of_getElem? (i := 792) (by decide +kernel)⟩
theorem lw_p30 : lw_okq (⟨"GivenSearch$Written", "addNumber", "(I)V"⟩, 3) := ⟨⟨by decide +kernel, by decide +kernel⟩, List.mem_of_getElem? (i := 73) (by decide +kernel), List.mem_of_getElem? (i := 795) (by decide +kernel), List.mem_of_getElem? (i := 796) (by decide +kernel)⟩
theorem lw_p31 : lw_okq (⟨"GivenSearch$Written", "close", "(I)I"⟩, 3) := ⟨⟨by decide +kernel, by decide +kernel⟩, List.mem_of_getElem? (i := 73) (by decide +kernel), List.mem_of_getElem? (i := 800) (by decide +kernel), List.mem_of_getElem? (i := 801) (by decide +kernel)⟩
def lw_privs_2 : List (MethodName × Nat) := [(⟨"GivenSearch$Terms", "pushPair", "(II)V"⟩, 16), (⟨"GivenSearch$Terms", "solved", "(I)I"⟩, 16), (⟨"GivenSearch$Terms", "isUnknown", "(I)Z"⟩, 16), (⟨"GivenSearch$Terms", "signOf", "(I)I"⟩, 16), (⟨"GivenSearch$Terms", "partOf", "(II)I"⟩, 16), (⟨"GivenSearch$Terms", "standsIn", "(II)Z"⟩, 16), (⟨"GivenSearch$Terms", "pushParts", "(I)V"⟩, 16), (⟨"GivenSearch$Terms", "put", "(II)V"⟩, 16), (⟨"GivenSearch$Terms", "pushPairsOfParts", "(II)V"⟩, 16), (⟨"GivenSearch", "hasType", "(I)Z"⟩, 18), (⟨"GivenSearch$Terms", "nameOf", "(I)I"⟩, 16), (⟨"GivenSearch", "writeFlat", "()I"⟩, 18), (⟨"GivenSearch$Written", "addSign", "(I)V"⟩, 3), (⟨"GivenSearch$Written", "add", "(I)V"⟩, 3), (⟨"GivenSearch$Written", "addNumber", "(I)V"⟩, 3), (⟨"GivenSearch$Written", "close", "(I)I"⟩, 3)]
theorem lw_r2 : ∀ q ∈ lw_privs_2, lw_okq q := List.forall_mem_cons.mpr ⟨lw_p16, List.forall_mem_cons.mpr ⟨lw_p17, List.forall_mem_cons.mpr ⟨lw_p18, List.forall_mem_cons.mpr ⟨lw_p19, List.forall_mem_cons.mpr ⟨lw_p20, List.forall_mem_cons.mpr ⟨lw_p21, List.forall_mem_cons.mpr ⟨lw_p22, List.forall_mem_cons.mpr ⟨lw_p23, List.forall_mem_cons.mpr ⟨lw_p24, List.forall_mem_cons.mpr ⟨lw_p25, List.forall_mem_cons.mpr ⟨lw_p26, List.forall_mem_cons.mpr ⟨lw_p27, List.forall_mem_cons.mpr ⟨lw_p28, List.forall_mem_cons.mpr ⟨lw_p29, List.forall_mem_cons.mpr ⟨lw_p30, List.forall_mem_cons.mpr ⟨lw_p31, fun _ h => absurd h List.not_mem_nil⟩⟩⟩⟩⟩⟩⟩⟩⟩⟩⟩⟩⟩⟩⟩⟩
theorem lw_p32 : lw_okq (⟨"GivenSearch$Search", "askGoal", "(IIII)I"⟩, 19) := ⟨⟨by decide +kernel, by decide +kernel⟩, List.mem_of_getElem? (i := 150) (by decide +kernel), List.mem_of_getElem? (i := 817) (by decide +kernel), List.mem_of_getElem? (i := 818) (by decide +kernel)⟩
theorem lw_p33 : lw_okq (⟨"GivenSearch$Search", "mayAsk", "(II)Z"⟩, 19) := ⟨⟨by decide +kernel, by decide +kernel⟩, List.mem_of_getElem? (i := 150) (by decide +kernel), List.mem_of_getElem? (i := 821) (by decide +kernel), List.mem_of_getElem? (i := 822) (by decide +kernel)⟩
theorem lw_p34 : lw_okq (⟨"GivenSearch$Search", "addToPlan", "(III)I"⟩, 19) := ⟨⟨by decide +kernel, by decide +kernel⟩, List.mem_of_getElem? (i := 150) (by decide +kernel), List.mem_of_getElem? (i := 826) (by decide +kernel), List.mem_of_getElem? (i := 827) (by decide +kernel)⟩
theorem lw_p35 : lw_okq (⟨"GivenSearch$Search", "meet", "(II)I"⟩, 19) := ⟨⟨by decide +kernel, by decide +kernel⟩, List.mem_of_getElem? (i := 150) (by decide +kernel), List.mem_of_getElem? (i := 852) (by decide +kernel), List.mem_of_getElem? (i := 853) (by decide +kernel)⟩
theorem lw_p36 : lw_okq (⟨"GivenSearch$Search", "seek", "(III)I"⟩, 19) := ⟨⟨by decide +kernel, by decide +kernel⟩, List.mem_of_getElem? (i := 150) (by decide +kernel), List.mem_of_getElem? (i := 860) (by decide +kernel), List.mem_of_getElem? (i := 861) (by decide +kernel)⟩
theorem lw_p37 : lw_okq (⟨"GivenSearch$Search", "seekAt", "(IIII)I"⟩, 19) := ⟨⟨by decide +kernel, by decide +kernel⟩, List.mem_of_getElem? (i := 150) (by decide +kernel), List.mem_of_getElem? (i := 864) (by decide +kernel), List.mem_of_getElem? (i := 865) (by decide +kernel)⟩
theorem lw_p38 : lw_okq (⟨"GivenSearch$Text", "hasMoreSpecial", "(II)Z"⟩, 10) := ⟨⟨by decide +kernel, by decide +kernel⟩, List.mem_of_getElem? (i := 90) (by decide +kernel), List.mem_of_getElem? (i := 889) (by decide +kernel), List.mem_of_getElem? (i := 890) (by decide +kernel)⟩
theorem lw_p39 : lw_okq (⟨"GivenSearch$Search", "tryBest", "(IIII)I"⟩, 19) := ⟨⟨by decide +kernel, by decide +kernel⟩, List.mem_of_getElem? (i := 150) (by decide +kernel), List.mem_of_getElem? (i := 894) (by decide +kernel), List.mem_of_getElem? (i := 895) (by decide +kernel)⟩
theorem lw_p40 : lw_okq (⟨"GivenSearch$Search", "isCut", "(III)Z"⟩, 19) := ⟨⟨by decide +kernel, by decide +kernel⟩, List.mem_of_getElem? (i := 150) (by decide +kernel), List.mem_of_getElem? (i := 898) (by decide +kernel), List.mem_of_getElem? (i := 899) (by decide +kernel)⟩
theorem lw_p41 : lw_okq (⟨"GivenSearch$Search", "tryGiven", "(IIII)I"⟩, 19) := ⟨⟨by decide +kernel, by decide +kernel⟩, List.mem_of_getElem? (i := 150) (by decide +kernel), List.mem_of_getElem? (i := 903) (by decide +kernel), List.mem_of_getElem? (i := 904) (by decide +kernel)⟩
theorem lw_p42 : lw_okq (⟨"GivenSearch$Search", "buildGiven", "(II)I"⟩, 19) := ⟨⟨by decide +kernel, by decide +kernel⟩, List.mem_of_getElem? (i := 150) (by decide +kernel), List.mem_of_getElem? (i := 907) (by decide +kernel), List.mem_of_getElem? (i := 908) (by decide +kernel)⟩
theorem lw_p43 : lw_okq (⟨"GivenSearch$Search", "tellBoth", "(III)V"⟩, 19) := ⟨⟨by decide +kernel, by decide +kernel⟩, List.mem_of_getElem? (i := 150) (by decide +kernel), List.mem_of_getElem? (i := 921) (by decide +kernel), List.mem_of_getElem? (i := 922) (by decide +kernel)⟩
theorem lw_p44 : lw_okq (⟨"GivenSearch$Search", "remember", "(III)V"⟩, 19) := ⟨⟨by decide +kernel, by decide +kernel⟩, List.mem_of_getElem? (i := 150) (by decide +kernel), List.mem_of_getElem? (i := 930) (by decide +kernel), List.mem_of_getElem? (i := 931) (by decide +kernel)⟩
theorem lw_p45 : lw_okq (⟨"GivenSearch$Forest", "addSign", "(I)V"⟩, 3) := ⟨⟨by decide +kernel, by decide +kernel⟩, List.mem_of_getElem? (i := 220) (by decide +kernel), List.mem_of_getElem? (i := 958) (by decide +kernel), List.mem_of_getElem? (i := 959) (by decide +kernel)⟩
theorem lw_p46 : lw_okq (⟨"GivenSearch$Search", "plantRemembered", "(ILGivenSearch$Forest;III)V"⟩, 19) := ⟨⟨by decide +kernel, by decide +kernel⟩, List.mem_of_getElem? (i := 150) (by decide +kernel), List.mem_of_getElem? (i := 964) (by decide +kernel), List.mem_of_getElem? (i := 965) (by decide +kernel)⟩
theorem lw_p47 : lw_okq (⟨"GivenSearch", "keepAsking", "()V"⟩, 18) := ⟨⟨by decide +kernel, by decide +kernel⟩, List.mem_of_getElem? (i := 18) (by decide +kernel), List.mem_of_getElem? (i := 978) (by decide +kernel), List.mem_of_getElem? (i := 979) (by decide +kernel)⟩
def lw_privs_3 : List (MethodName × Nat) := [(⟨"GivenSearch$Search", "askGoal", "(IIII)I"⟩, 19), (⟨"GivenSearch$Search", "mayAsk", "(II)Z"⟩, 19), (⟨"GivenSearch$Search", "addToPlan", "(III)I"⟩, 19), (⟨"GivenSearch$Search", "meet", "(II)I"⟩, 19), (⟨"GivenSearch$Search", "seek", "(III)I"⟩, 19), (⟨"GivenSearch$Search", "seekAt", "(IIII)I"⟩, 19), (⟨"GivenSearch$Text", "hasMoreSpecial", "(II)Z"⟩, 10), (⟨"GivenSearch$Search", "tryBest", "(IIII)I"⟩, 19), (⟨"GivenSearch$Search", "isCut", "(III)Z"⟩, 19), (⟨"GivenSearch$Search", "tryGiven", "(IIII)I"⟩, 19), (⟨"GivenSearch$Search", "buildGiven", "(II)I"⟩, 19), (⟨"GivenSearch$Search", "tellBoth", "(III)V"⟩, 19), (⟨"GivenSearch$Search", "remember", "(III)V"⟩, 19), (⟨"GivenSearch$Forest", "addSign", "(I)V"⟩, 3), (⟨"GivenSearch$Search", "plantRemembered", "(ILGivenSearch$Forest;III)V"⟩, 19), (⟨"GivenSearch", "keepAsking", "()V"⟩, 18)]
theorem lw_r3 : ∀ q ∈ lw_privs_3, lw_okq q := List.forall_mem_cons.mpr ⟨lw_p32, List.forall_mem_cons.mpr ⟨lw_p33, List.forall_mem_cons.mpr ⟨lw_p34, List.forall_mem_cons.mpr ⟨lw_p35, List.forall_mem_cons.mpr ⟨lw_p36, List.forall_mem_cons.mpr ⟨lw_p37, List.forall_mem_cons.mpr ⟨lw_p38, List.forall_mem_cons.mpr ⟨lw_p39, List.forall_mem_cons.mpr ⟨lw_p40, List.forall_mem_cons.mpr ⟨lw_p41, List.forall_mem_cons.mpr ⟨lw_p42, List.forall_mem_cons.mpr ⟨lw_p43, List.forall_mem_cons.mpr ⟨lw_p44, List.forall_mem_cons.mpr ⟨lw_p45, List.forall_mem_cons.mpr ⟨lw_p46, List.forall_mem_cons.mpr ⟨lw_p47, fun _ h => absurd h List.not_mem_nil⟩⟩⟩⟩⟩⟩⟩⟩⟩⟩⟩⟩⟩⟩⟩⟩
theorem lw_p48 : lw_okq (⟨"GivenSearch$Written", "addBetween", "(II)V"⟩, 3) := ⟨⟨by decide +kernel, by decide +kernel⟩, List.mem_of_getElem? (i := 73) (by decide +kernel), List.mem_of_getElem? (i := 1025) (by decide +kernel), List.mem_of_getElem? (i := 1026) (by decide +kernel)⟩
theorem lw_p49 : lw_okq (⟨"GivenSearch$Written", "addEnds", "(I)V"⟩, 3) := ⟨⟨by decide +kernel, by decide +kernel⟩, List.mem_of_getElem? (i := 73) (by decide +kernel), List.mem_of_getElem? (i := 1029) (by decide +kernel), List.mem_of_getElem? (i := 1030) (by decide +kernel)⟩
theorem lw_p50 : lw_okq (⟨"GivenSearch$Search", "count", "(III)I"⟩, 19) := ⟨⟨by decide +kernel, by decide +kernel⟩, List.mem_of_getElem? (i := 150) (by decide +kernel), List.mem_of_getElem? (i := 1086) (by decide +kernel), List.mem_of_getElem? (i := 1087) (by decide +kernel)⟩
theorem lw_p51 : lw_okq (⟨"GivenSearch$Search", "countBy", "(IIII)J"⟩, 19) := ⟨⟨by decide +kernel, by decide +kernel⟩, List.mem_of_getElem? (i := 150) (by decide +kernel), List.mem_of_getElem? (i := 1091) (by decide +kernel), List.mem_of_getElem? (i := 1092) (by decide +kernel)⟩
theorem lw_p52 : lw_okq (⟨"GivenSearchModel", "four", "(I)V"⟩, 144) := ⟨⟨by decide +kernel, by decide +kernel⟩, List.mem_of_getElem? (i := 1104) (by decide +kernel), List.mem_of_getElem? (i := 1102) (by decide +kernel), List.mem_of_getElem? (i := 1103) (by decide +kernel)⟩
theorem lw_p53 : lw_okq (⟨"GivenSearchModel", "readScopes", "()Z"⟩, 144) := ⟨⟨by decide +kernel, by decide +kernel⟩, List.mem_of_getElem? (i := 1104) (by decide +kernel), List.mem_of_getElem? (i := 1118) (by decide +kernel), List.mem_of_getElem? (i := 1119) (by decide +kernel)⟩
theorem lw_p54 : lw_okq (⟨"GivenSearchModel", "beginText", "()V"⟩, 144) := ⟨⟨by decide +kernel, by decide +kernel⟩, List.mem_of_getElem? (i := 1104) (by decide +kernel), List.mem_of_getElem? (i := 1122) (by decide +kernel), List.mem_of_getElem? (i := 1123) (by decide +kernel)⟩
theorem lw_p55 : lw_okq (⟨"GivenSearchModel", "openScope", "()Z"⟩, 144) := ⟨⟨by decide +kernel, by decide +kernel⟩, List.mem_of_getElem? (i := 1104) (by decide +kernel), List.mem_of_getElem? (i := 1126) (by decide +kernel), List.mem_of_getElem? (i := 1127) (by decide +kernel)⟩
theorem lw_p56 : lw_okq (⟨"GivenSearchModel", "here", "()I"⟩, 144) := ⟨⟨by decide +kernel, by decide +kernel⟩, List.mem_of_getElem? (i := 1104) (by decide +kernel), List.mem_of_getElem? (i := 1130) (by decide +kernel), List.mem_of_getElem? (i := 1131) (by decide +kernel)⟩
theorem lw_p57 : lw_okq (⟨"GivenSearchModel", "fails", "(I)Z"⟩, 144) := ⟨⟨by decide +kernel, by decide +kernel⟩, List.mem_of_getElem? (i := 1104) (by decide +kernel), List.mem_of_getElem? (i := 1134) (by decide +kernel), List.mem_of_getElem? (i := 1135) (by decide +kernel)⟩
theorem lw_p58 : lw_okq (⟨"GivenSearchModel", "readGiven", "()Z"⟩, 144) := ⟨⟨by decide +kernel, by decide +kernel⟩, List.mem_of_getElem? (i := 1104) (by decide +kernel), List.mem_of_getElem? (i := 1138) (by decide +kernel), List.mem_of_getElem? (i := 1139) (by decide +kernel)⟩
theorem lw_p59 : lw_okq (⟨"GivenSearchModel", "readType", "()Z"⟩, 144) := ⟨⟨by decide +kernel, by decide +kernel⟩, List.mem_of_getElem? (i := 1104) (by decide +kernel), List.mem_of_getElem? (i := 1142) (by decide +kernel), List.mem_of_getElem? (i := 1143) (by decide +kernel)⟩
theorem lw_p60 : lw_okq (⟨"GivenSearchModel", "hasMore", "(Z)Z"⟩, 144) := ⟨⟨by decide +kernel, by decide +kernel⟩, List.mem_of_getElem? (i := 1104) (by decide +kernel), List.mem_of_getElem? (i := 1158) (by decide +kernel), List.mem_of_getElem? (i := 1159) (by decide +kernel)⟩
theorem lw_p61 : lw_okq (⟨"GivenSearchModel", "layType", "(I)V"⟩, 144) := ⟨⟨by decide +kernel, by decide +kernel⟩, List.mem_of_getElem? (i := 1104) (by decide +kernel), List.mem_of_getElem? (i := 1162) (by decide +kernel), List.mem_of_getElem? (i := 1163) (by decide +kernel)⟩
theorem lw_p62 : lw_okq (⟨"GivenSearchModel", "takes", "(I)Z"⟩, 144) := ⟨⟨by decide +kernel, by decide +kernel⟩, List.mem_of_getElem? (i := 1104) (by decide +kernel), List.mem_of_getElem? (i := 1169) (by decide +kernel), List.mem_of_getElem? (i := 1170) (by decide +kernel)⟩
theorem lw_p63 : lw_okq (⟨"GivenSearchModel", "isPut", "(IIII)Z"⟩, 144) := ⟨⟨by decide +kernel, by decide +kernel⟩, List.mem_of_getElem? (i := 1104) (by decide +kernel), List.mem_of_getElem? (i := 1173) (by decide +kernel), List.mem_of_getElem? (i := 1174) (by decide +kernel)⟩
def lw_privs_4 : List (MethodName × Nat) := [(⟨"GivenSearch$Written", "addBetween", "(II)V"⟩, 3), (⟨"GivenSearch$Written", "addEnds", "(I)V"⟩, 3), (⟨"GivenSearch$Search", "count", "(III)I"⟩, 19), (⟨"GivenSearch$Search", "countBy", "(IIII)J"⟩, 19), (⟨"GivenSearchModel", "four", "(I)V"⟩, 144), (⟨"GivenSearchModel", "readScopes", "()Z"⟩, 144), (⟨"GivenSearchModel", "beginText", "()V"⟩, 144), (⟨"GivenSearchModel", "openScope", "()Z"⟩, 144), (⟨"GivenSearchModel", "here", "()I"⟩, 144), (⟨"GivenSearchModel", "fails", "(I)Z"⟩, 144), (⟨"GivenSearchModel", "readGiven", "()Z"⟩, 144), (⟨"GivenSearchModel", "readType", "()Z"⟩, 144), (⟨"GivenSearchModel", "hasMore", "(Z)Z"⟩, 144), (⟨"GivenSearchModel", "layType", "(I)V"⟩, 144), (⟨"GivenSearchModel", "takes", "(I)Z"⟩, 144), (⟨"GivenSearchModel", "isPut", "(IIII)Z"⟩, 144)]
theorem lw_r4 : ∀ q ∈ lw_privs_4, lw_okq q := List.forall_mem_cons.mpr ⟨lw_p48, List.forall_mem_cons.mpr ⟨lw_p49, List.forall_mem_cons.mpr ⟨lw_p50, List.forall_mem_cons.mpr ⟨lw_p51, List.forall_mem_cons.mpr ⟨lw_p52, List.forall_mem_cons.mpr ⟨lw_p53, List.forall_mem_cons.mpr ⟨lw_p54, List.forall_mem_cons.mpr ⟨lw_p55, List.forall_mem_cons.mpr ⟨lw_p56, List.forall_mem_cons.mpr ⟨lw_p57, List.forall_mem_cons.mpr ⟨lw_p58, List.forall_mem_cons.mpr ⟨lw_p59, List.forall_mem_cons.mpr ⟨lw_p60, List.forall_mem_cons.mpr ⟨lw_p61, List.forall_mem_cons.mpr ⟨lw_p62, List.forall_mem_cons.mpr ⟨lw_p63, fun _ h => absurd h List.not_mem_nil⟩⟩⟩⟩⟩⟩⟩⟩⟩⟩⟩⟩⟩⟩⟩⟩
theorem lw_p64 : lw_okq (⟨"GivenSearchModel", "isPutIn", "([II[III)Z"⟩, 144) := ⟨⟨by decide +kernel, by decide +kernel⟩, List.mem_of_getElem? (i := 1104) (by decide +kernel), List.mem_of_getElem? (i := 1177) (by decide +kernel), List.mem_of_getElem? (i := 1178) (by decide +kernel)⟩
theorem lw_p65 : lw_okq (⟨"GivenSearchModel", "forget", "()V"⟩, 144) := ⟨⟨by decide +kernel, by decide +kernel⟩, List.mem_of_getElem? (i := 1104) (by decide +kernel), List.mem_of_getElem? (i := 1187) (by decide +kernel), List.mem_of_getElem? (i := 1188) (by decide +kernel)⟩
theorem lw_p66 : lw_okq (⟨"GivenSearchModel", "isScope", "(I)Z"⟩, 144) := ⟨⟨by decide +kernel, by decide +kernel⟩, List.mem_of_getElem? (i := 1104) (by decide +kernel), List.mem_of_getElem? (i := 1203) (by decide +kernel), List.mem_of_getElem? (i := 1204) (by decide +kernel)⟩
theorem lw_p67 : lw_okq (⟨"GivenSearchModel", "liesIn", "(I)I"⟩, 144) := ⟨⟨by decide +kernel, by decide +kernel⟩, List.mem_of_getElem? (i := 1104) (by decide +kernel), List.mem_of_getElem? (i := 1207) (by decide +kernel), List.mem_of_getElem? (i := 1208) (by decide +kernel)⟩
theorem lw_p68 : lw_okq (⟨"GivenSearchModel", "isGiven", "(I)Z"⟩, 144) := ⟨⟨by decide +kernel, by decide +kernel⟩, List.mem_of_getElem? (i := 1104) (by decide +kernel), List.mem_of_getElem? (i := 1215) (by decide +kernel), List.mem_of_getElem? (i := 1216) (by decide +kernel)⟩
theorem lw_p69 : lw_okq (⟨"GivenSearchModel", "varsOf", "(III)I"⟩, 144) := ⟨⟨by decide +kernel, by decide +kernel⟩, List.mem_of_getElem? (i := 1104) (by decide +kernel), List.mem_of_getElem? (i := 1219) (by decide +kernel), List.mem_of_getElem? (i := 1220) (by decide +kernel)⟩
theorem lw_p70 : lw_okq (⟨"GivenSearchModel", "needsVars", "(I)I"⟩, 144) := ⟨⟨by decide +kernel, by decide +kernel⟩, List.mem_of_getElem? (i := 1104) (by decide +kernel), List.mem_of_getElem? (i := 1226) (by decide +kernel), List.mem_of_getElem? (i := 1227) (by decide +kernel)⟩
theorem lw_p71 : lw_okq (⟨"GivenSearchModel", "beginHeap", "()V"⟩, 144) := ⟨⟨by decide +kernel, by decide +kernel⟩, List.mem_of_getElem? (i := 1104) (by decide +kernel), List.mem_of_getElem? (i := 1245) (by decide +kernel), List.mem_of_getElem? (i := 1246) (by decide +kernel)⟩
theorem lw_p72 : lw_okq (⟨"GivenSearchModel", "layGiven", "(II)I"⟩, 144) := ⟨⟨by decide +kernel, by decide +kernel⟩, List.mem_of_getElem? (i := 1104) (by decide +kernel), List.mem_of_getElem? (i := 1249) (by decide +kernel), List.mem_of_getElem? (i := 1250) (by decide +kernel)⟩
theorem lw_p73 : lw_okq (⟨"GivenSearchModel", "newUnknowns", "()V"⟩, 144) := ⟨⟨by decide +kernel, by decide +kernel⟩, List.mem_of_getElem? (i := 1104) (by decide +kernel), List.mem_of_getElem? (i := 1253) (by decide +kernel), List.mem_of_getElem? (i := 1254) (by decide +kernel)⟩
theorem lw_p74 : lw_okq (⟨"GivenSearchModel", "layRow", "([III)I"⟩, 144) := ⟨⟨by decide +kernel, by decide +kernel⟩, List.mem_of_getElem? (i := 1104) (by decide +kernel), List.mem_of_getElem? (i := 1257) (by decide +kernel), List.mem_of_getElem? (i := 1258) (by decide +kernel)⟩
theorem lw_p75 : lw_okq (⟨"GivenSearchModel", "unknown", "()I"⟩, 144) := ⟨⟨by decide +kernel, by decide +kernel⟩, List.mem_of_getElem? (i := 1104) (by decide +kernel), List.mem_of_getElem? (i := 1261) (by decide +kernel), List.mem_of_getElem? (i := 1262) (by decide +kernel)⟩
theorem lw_p76 : lw_okq (⟨"GivenSearchModel", "isUnified", "(II)Z"⟩, 144) := ⟨⟨by decide +kernel, by decide +kernel⟩, List.mem_of_getElem? (i := 1104) (by decide +kernel), List.mem_of_getElem? (i := 1265) (by decide +kernel), List.mem_of_getElem? (i := 1266) (by decide +kernel)⟩
theorem lw_p77 : lw_okq (⟨"GivenSearchModel", "seen", "(I)I"⟩, 144) := ⟨⟨by decide +kernel, by decide +kernel⟩, List.mem_of_getElem? (i := 1104) (by decide +kernel), List.mem_of_getElem? (i := 1269) (by decide +kernel), List.mem_of_getElem? (i := 1270) (by decide +kernel)⟩
theorem lw_p78 : lw_okq (⟨"GivenSearchModel", "isWithin", "(II)Z"⟩, 144) := ⟨⟨by decide +kernel, by decide +kernel⟩, List.mem_of_getElem? (i := 1104) (by decide +kernel), List.mem_of_getElem? (i := 1273) (by decide +kernel), List.mem_of_getElem? (i := 1274) (by decide +kernel)⟩
theorem lw_p79 : lw_okq (⟨"GivenSearchModel", "tie", "(II)V"⟩, 144) := ⟨⟨by decide +kernel, by decide +kernel⟩, List.mem_of_getElem? (i := 1104) (by decide +kernel), List.mem_of_getElem? (i := 1277) (by decide +kernel), List.mem_of_getElem? (i := 1278) (by decide +kernel)⟩
def lw_privs_5 : List (MethodName × Nat) := [(⟨"GivenSearchModel", "isPutIn", "([II[III)Z"⟩, 144), (⟨"GivenSearchModel", "forget", "()V"⟩, 144), (⟨"GivenSearchModel", "isScope", "(I)Z"⟩, 144), (⟨"GivenSearchModel", "liesIn", "(I)I"⟩, 144), (⟨"GivenSearchModel", "isGiven", "(I)Z"⟩, 144), (⟨"GivenSearchModel", "varsOf", "(III)I"⟩, 144), (⟨"GivenSearchModel", "needsVars", "(I)I"⟩, 144), (⟨"GivenSearchModel", "beginHeap", "()V"⟩, 144), (⟨"GivenSearchModel", "layGiven", "(II)I"⟩, 144), (⟨"GivenSearchModel", "newUnknowns", "()V"⟩, 144), (⟨"GivenSearchModel", "layRow", "([III)I"⟩, 144), (⟨"GivenSearchModel", "unknown", "()I"⟩, 144), (⟨"GivenSearchModel", "isUnified", "(II)Z"⟩, 144), (⟨"GivenSearchModel", "seen", "(I)I"⟩, 144), (⟨"GivenSearchModel", "isWithin", "(II)Z"⟩, 144), (⟨"GivenSearchModel", "tie", "(II)V"⟩, 144)]
theorem lw_r5 : ∀ q ∈ lw_privs_5, lw_okq q := List.forall_mem_cons.mpr ⟨lw_p64, List.forall_mem_cons.mpr ⟨lw_p65, List.forall_mem_cons.mpr ⟨lw_p66, List.forall_mem_cons.mpr ⟨lw_p67, List.forall_mem_cons.mpr ⟨lw_p68, List.forall_mem_cons.mpr ⟨lw_p69, List.forall_mem_cons.mpr ⟨lw_p70, List.forall_mem_cons.mpr ⟨lw_p71, List.forall_mem_cons.mpr ⟨lw_p72, List.forall_mem_cons.mpr ⟨lw_p73, List.forall_mem_cons.mpr ⟨lw_p74, List.forall_mem_cons.mpr ⟨lw_p75, List.forall_mem_cons.mpr ⟨lw_p76, List.forall_mem_cons.mpr ⟨lw_p77, List.forall_mem_cons.mpr ⟨lw_p78, List.forall_mem_cons.mpr ⟨lw_p79, fun _ h => absurd h List.not_mem_nil⟩⟩⟩⟩⟩⟩⟩⟩⟩⟩⟩⟩⟩⟩⟩⟩
theorem lw_p80 : lw_okq (⟨"GivenSearchModel", "readWhole", "()Z"⟩, 144) := ⟨⟨by decide +kernel, by decide +kernel⟩, List.mem_of_getElem? (i := 1104) (by decide +kernel), List.mem_of_getElem? (i := 1734) (by decide +kernel), List.mem_of_getElem? (i := 1735) (by decide +kernel)⟩
theorem lw_p81 : lw_okq (⟨"GivenSearchModel", "askAll", "(Z)I"⟩, 144) := ⟨⟨by decide +kernel, by decide +kernel⟩, List.mem_of_getElem? (i := 1104) (by decide +kernel), List.mem_of_getElem? (i := 1742) (by decide +kernel), List.mem_of_getElem? (i := 1743) (by decide +kernel)⟩
theorem lw_p82 : lw_okq (⟨"GivenSearchModel", "askGoal", "(I)V"⟩, 144) := ⟨⟨by decide +kernel, by decide +kernel⟩, List.mem_of_getElem? (i := 1104) (by decide +kernel), List.mem_of_getElem? (i := 1746) (by decide +kernel), List.mem_of_getElem? (i := 1747) (by decide +kernel)⟩
theorem lw_p83 : lw_okq (⟨"GivenSearchModel", "layOut", "(I)I"⟩, 144) := ⟨⟨by decide +kernel, by decide +kernel⟩, List.mem_of_getElem? (i := 1104) (by decide +kernel), List.mem_of_getElem? (i := 1750) (by decide +kernel), List.mem_of_getElem? (i := 1751) (by decide +kernel)⟩
theorem lw_p84 : lw_okq (⟨"GivenSearchModel", "orderOf", "(I)I"⟩, 144) := ⟨⟨by decide +kernel, by decide +kernel⟩, List.mem_of_getElem? (i := 1104) (by decide +kernel), List.mem_of_getElem? (i := 1754) (by decide +kernel), List.mem_of_getElem? (i := 1755) (by decide +kernel)⟩
theorem lw_p85 : lw_okq (⟨"GivenSearchModel", "memoryOf", "(I)I"⟩, 144) := ⟨⟨by decide +kernel, by decide +kernel⟩, List.mem_of_getElem? (i := 1104) (by decide +kernel), List.mem_of_getElem? (i := 1758) (by decide +kernel), List.mem_of_getElem? (i := 1759) (by decide +kernel)⟩
theorem lw_p86 : lw_okq (⟨"GivenSearchModel", "openLevel", "(III)V"⟩, 144) := ⟨⟨by decide +kernel, by decide +kernel⟩, List.mem_of_getElem? (i := 1104) (by decide +kernel), List.mem_of_getElem? (i := 1762) (by decide +kernel), List.mem_of_getElem? (i := 1763) (by decide +kernel)⟩
theorem lw_p87 : lw_okq (⟨"GivenSearchModel", "candidatesOf", "(II)I"⟩, 144) := ⟨⟨by decide +kernel, by decide +kernel⟩, List.mem_of_getElem? (i := 1104) (by decide +kernel), List.mem_of_getElem? (i := 1766) (by decide +kernel), List.mem_of_getElem? (i := 1767) (by decide +kernel)⟩
theorem lw_p88 : lw_okq (⟨"GivenSearchModel", "untie", "(I)V"⟩, 144) := ⟨⟨by decide +kernel, by decide +kernel⟩, List.mem_of_getElem? (i := 1104) (by decide +kernel), List.mem_of_getElem? (i := 1770) (by decide +kernel), List.mem_of_getElem? (i := 1771) (by decide +kernel)⟩
theorem lw_p89 : lw_okq (⟨"GivenSearchModel", "newRound", "(I)V"⟩, 144) := ⟨⟨by decide +kernel, by decide +kernel⟩, List.mem_of_getElem? (i := 1104) (by decide +kernel), List.mem_of_getElem? (i := 1774) (by decide +kernel), List.mem_of_getElem? (i := 1775) (by decide +kernel)⟩
theorem lw_p90 : lw_okq (⟨"GivenSearchModel", "bestOf", "(I)I"⟩, 144) := ⟨⟨by decide +kernel, by decide +kernel⟩, List.mem_of_getElem? (i := 1104) (by decide +kernel), List.mem_of_getElem? (i := 1778) (by decide +kernel), List.mem_of_getElem? (i := 1779) (by decide +kernel)⟩
theorem lw_p91 : lw_okq (⟨"GivenSearchModel", "step", "()V"⟩, 144) := ⟨⟨by decide +kernel, by decide +kernel⟩, List.mem_of_getElem? (i := 1104) (by decide +kernel), List.mem_of_getElem? (i := 1782) (by decide +kernel), List.mem_of_getElem? (i := 1783) (by decide +kernel)⟩
theorem lw_p92 : lw_okq (⟨"GivenSearchModel", "comeBack", "(I)V"⟩, 144) := ⟨⟨by decide +kernel, by decide +kernel⟩, List.mem_of_getElem? (i := 1104) (by decide +kernel), List.mem_of_getElem? (i := 1786) (by decide +kernel), List.mem_of_getElem? (i := 1787) (by decide +kernel)⟩
theorem lw_p93 : lw_okq (⟨"GivenSearchModel", "back", "(I)V"⟩, 144) := ⟨⟨by decide +kernel, by decide +kernel⟩, List.mem_of_getElem? (i := 1104) (by decide +kernel), List.mem_of_getElem? (i := 1790) (by decide +kernel), List.mem_of_getElem? (i := 1791) (by decide +kernel)⟩
theorem lw_p94 : lw_okq (⟨"GivenSearchModel", "goOn", "(I)V"⟩, 144) := ⟨⟨by decide +kernel, by decide +kernel⟩, List.mem_of_getElem? (i := 1104) (by decide +kernel), List.mem_of_getElem? (i := 1794) (by decide +kernel), List.mem_of_getElem? (i := 1795) (by decide +kernel)⟩
theorem lw_p95 : lw_okq (⟨"GivenSearchModel", "didWell", "(I)V"⟩, 144) := ⟨⟨by decide +kernel, by decide +kernel⟩, List.mem_of_getElem? (i := 1104) (by decide +kernel), List.mem_of_getElem? (i := 1798) (by decide +kernel), List.mem_of_getElem? (i := 1799) (by decide +kernel)⟩
def lw_privs_6 : List (MethodName × Nat) := [(⟨"GivenSearchModel", "readWhole", "()Z"⟩, 144), (⟨"GivenSearchModel", "askAll", "(Z)I"⟩, 144), (⟨"GivenSearchModel", "askGoal", "(I)V"⟩, 144), (⟨"GivenSearchModel", "layOut", "(I)I"⟩, 144), (⟨"GivenSearchModel", "orderOf", "(I)I"⟩, 144), (⟨"GivenSearchModel", "memoryOf", "(I)I"⟩, 144), (⟨"GivenSearchModel", "openLevel", "(III)V"⟩, 144), (⟨"GivenSearchModel", "candidatesOf", "(II)I"⟩, 144), (⟨"GivenSearchModel", "untie", "(I)V"⟩, 144), (⟨"GivenSearchModel", "newRound", "(I)V"⟩, 144), (⟨"GivenSearchModel", "bestOf", "(I)I"⟩, 144), (⟨"GivenSearchModel", "step", "()V"⟩, 144), (⟨"GivenSearchModel", "comeBack", "(I)V"⟩, 144), (⟨"GivenSearchModel", "back", "(I)V"⟩, 144), (⟨"GivenSearchModel", "goOn", "(I)V"⟩, 144), (⟨"GivenSearchModel", "didWell", "(I)V"⟩, 144)]
theorem lw_r6 : ∀ q ∈ lw_privs_6, lw_okq q := List.forall_mem_cons.mpr ⟨lw_p80, List.forall_mem_cons.mpr ⟨lw_p81, List.forall_mem_cons.mpr ⟨lw_p82, List.forall_mem_cons.mpr ⟨lw_p83, List.forall_mem_cons.mpr ⟨lw_p84, List.forall_mem_cons.mpr ⟨lw_p85, List.forall_mem_cons.mpr ⟨lw_p86, List.forall_mem_cons.mpr ⟨lw_p87, List.forall_mem_cons.mpr ⟨lw_p88, List.forall_mem_cons.mpr ⟨lw_p89, List.forall_mem_cons.mpr ⟨lw_p90, List.forall_mem_cons.mpr ⟨lw_p91, List.forall_mem_cons.mpr ⟨lw_p92, List.forall_mem_cons.mpr ⟨lw_p93, List.forall_mem_cons.mpr ⟨lw_p94, List.forall_mem_cons.mpr ⟨lw_p95, fun _ h => absurd h List.not_mem_nil⟩⟩⟩⟩⟩⟩⟩⟩⟩⟩⟩⟩⟩⟩⟩⟩
theorem lw_p96 : lw_okq (⟨"GivenSearchModel", "isCut", "(II)Z"⟩, 144) := ⟨⟨by decide +kernel, by decide +kernel⟩, List.mem_of_getElem? (i := 1104) (by decide +kernel), List.mem_of_getElem? (i := 1802) (by decide +kernel), List.mem_of_getElem? (i := 1803) (by decide +kernel)⟩
theorem lw_p97 : lw_okq (⟨"GivenSearchModel", "tryGiven", "(II)V"⟩, 144) := ⟨⟨by decide +kernel, by decide +kernel⟩, List.mem_of_getElem? (i := 1104) (by decide +kernel), List.mem_of_getElem? (i := 1806) (by decide +kernel), List.mem_of_getElem? (i := 1807) (by decide +kernel)⟩
theorem lw_p98 : lw_okq (⟨"GivenSearchModel", "leaveFound", "(I)V"⟩, 144) := ⟨⟨by decide +kernel, by decide +kernel⟩, List.mem_of_getElem? (i := 1104) (by decide +kernel), List.mem_of_getElem? (i := 1810) (by decide +kernel), List.mem_of_getElem? (i := 1811) (by decide +kernel)⟩
theorem lw_p99 : lw_okq (⟨"GivenSearchModel", "newNode", "(I)I"⟩, 144) := ⟨⟨by decide +kernel, by decide +kernel⟩, List.mem_of_getElem? (i := 1104) (by decide +kernel), List.mem_of_getElem? (i := 1814) (by decide +kernel), List.mem_of_getElem? (i := 1815) (by decide +kernel)⟩
theorem lw_p100 : lw_okq (⟨"GivenSearchModel", "leave", "(II)V"⟩, 144) := ⟨⟨by decide +kernel, by decide +kernel⟩, List.mem_of_getElem? (i := 1104) (by decide +kernel), List.mem_of_getElem? (i := 1818) (by decide +kernel), List.mem_of_getElem? (i := 1819) (by decide +kernel)⟩
theorem lw_p101 : lw_okq (⟨"GivenSearchModel", "remember", "(II)V"⟩, 144) := ⟨⟨by decide +kernel, by decide +kernel⟩, List.mem_of_getElem? (i := 1104) (by decide +kernel), List.mem_of_getElem? (i := 1822) (by decide +kernel), List.mem_of_getElem? (i := 1823) (by decide +kernel)⟩
theorem lw_p102 : lw_okq (⟨"GivenSearchModel", "keep", "(I)I"⟩, 144) := ⟨⟨by decide +kernel, by decide +kernel⟩, List.mem_of_getElem? (i := 1104) (by decide +kernel), List.mem_of_getElem? (i := 1826) (by decide +kernel), List.mem_of_getElem? (i := 1827) (by decide +kernel)⟩
theorem lw_p103 : lw_okq (⟨"GivenSearchModel", "keepOne", "(I)I"⟩, 144) := ⟨⟨by decide +kernel, by decide +kernel⟩, List.mem_of_getElem? (i := 1104) (by decide +kernel), List.mem_of_getElem? (i := 1830) (by decide +kernel), List.mem_of_getElem? (i := 1831) (by decide +kernel)⟩
theorem lw_p104 : lw_okq (⟨"GivenSearchModel", "layAsking", "(I)V"⟩, 144) := ⟨⟨by decide +kernel, by decide +kernel⟩, List.mem_of_getElem? (i := 1104) (by decide +kernel), List.mem_of_getElem? (i := 1834) (by decide +kernel), List.mem_of_getElem? (i := 1835) (by decide +kernel)⟩
theorem lw_p105 : lw_okq (⟨"GivenSearchModel", "layTree", "(I)V"⟩, 144) := ⟨⟨by decide +kernel, by decide +kernel⟩, List.mem_of_getElem? (i := 1104) (by decide +kernel), List.mem_of_getElem? (i := 1838) (by decide +kernel), List.mem_of_getElem? (i := 1839) (by decide +kernel)⟩
theorem lw_p106 : lw_okq (⟨"GivenSearchModel", "layNodeGoal", "(II)V"⟩, 144) := ⟨⟨by decide +kernel, by decide +kernel⟩, List.mem_of_getElem? (i := 1104) (by decide +kernel), List.mem_of_getElem? (i := 1842) (by decide +kernel), List.mem_of_getElem? (i := 1843) (by decide +kernel)⟩
theorem lw_p107 : lw_okq (⟨"GivenSearchModel", "layAnswer", "(I)V"⟩, 144) := ⟨⟨by decide +kernel, by decide +kernel⟩, List.mem_of_getElem? (i := 1104) (by decide +kernel), List.mem_of_getElem? (i := 1846) (by decide +kernel), List.mem_of_getElem? (i := 1847) (by decide +kernel)⟩
theorem lw_p108 : lw_okq (⟨"GivenSearchModel", "isNode", "(I)Z"⟩, 144) := ⟨⟨by decide +kernel, by decide +kernel⟩, List.mem_of_getElem? (i := 1104) (by decide +kernel), List.mem_of_getElem? (i := 1858) (by decide +kernel), List.mem_of_getElem? (i := 1859) (by decide +kernel)⟩
theorem lw_p109 : lw_okq (⟨"GivenSearchModel", "wasFound", "()Z"⟩, 144) := ⟨⟨by decide +kernel, by decide +kernel⟩, List.mem_of_getElem? (i := 1104) (by decide +kernel), List.mem_of_getElem? (i := 1862) (by decide +kernel), List.mem_of_getElem? (i := 1863) (by decide +kernel)⟩
theorem lw_p110 : lw_okq (⟨"GivenSearchModel", "writeRow", "([III)I"⟩, 144) := ⟨⟨by decide +kernel, by decide +kernel⟩, List.mem_of_getElem? (i := 1104) (by decide +kernel), List.mem_of_getElem? (i := 1870) (by decide +kernel), List.mem_of_getElem? (i := 1871) (by decide +kernel)⟩
theorem lw_p111 : lw_okq (⟨"GivenSearchModel", "put", "(I)V"⟩, 144) := ⟨⟨by decide +kernel, by decide +kernel⟩, List.mem_of_getElem? (i := 1104) (by decide +kernel), List.mem_of_getElem? (i := 1874) (by decide +kernel), List.mem_of_getElem? (i := 1875) (by decide +kernel)⟩
def lw_privs_7 : List (MethodName × Nat) := [(⟨"GivenSearchModel", "isCut", "(II)Z"⟩, 144), (⟨"GivenSearchModel", "tryGiven", "(II)V"⟩, 144), (⟨"GivenSearchModel", "leaveFound", "(I)V"⟩, 144), (⟨"GivenSearchModel", "newNode", "(I)I"⟩, 144), (⟨"GivenSearchModel", "leave", "(II)V"⟩, 144), (⟨"GivenSearchModel", "remember", "(II)V"⟩, 144), (⟨"GivenSearchModel", "keep", "(I)I"⟩, 144), (⟨"GivenSearchModel", "keepOne", "(I)I"⟩, 144), (⟨"GivenSearchModel", "layAsking", "(I)V"⟩, 144), (⟨"GivenSearchModel", "layTree", "(I)V"⟩, 144), (⟨"GivenSearchModel", "layNodeGoal", "(II)V"⟩, 144), (⟨"GivenSearchModel", "layAnswer", "(I)V"⟩, 144), (⟨"GivenSearchModel", "isNode", "(I)Z"⟩, 144), (⟨"GivenSearchModel", "wasFound", "()Z"⟩, 144), (⟨"GivenSearchModel", "writeRow", "([III)I"⟩, 144), (⟨"GivenSearchModel", "put", "(I)V"⟩, 144)]
theorem lw_r7 : ∀ q ∈ lw_privs_7, lw_okq q := List.forall_mem_cons.mpr ⟨lw_p96, List.forall_mem_cons.mpr ⟨lw_p97, List.forall_mem_cons.mpr ⟨lw_p98, List.forall_mem_cons.mpr ⟨lw_p99, List.forall_mem_cons.mpr ⟨lw_p100, List.forall_mem_cons.mpr ⟨lw_p101, List.forall_mem_cons.mpr ⟨lw_p102, List.forall_mem_cons.mpr ⟨lw_p103, List.forall_mem_cons.mpr ⟨lw_p104, List.forall_mem_cons.mpr ⟨lw_p105, List.forall_mem_cons.mpr ⟨lw_p106, List.forall_mem_cons.mpr ⟨lw_p107, List.forall_mem_cons.mpr ⟨lw_p108, List.forall_mem_cons.mpr ⟨lw_p109, List.forall_mem_cons.mpr ⟨lw_p110, List.forall_mem_cons.mpr ⟨lw_p111, fun _ h => absurd h List.not_mem_nil⟩⟩⟩⟩⟩⟩⟩⟩⟩⟩⟩⟩⟩⟩⟩⟩
theorem lw_p112 : lw_okq (⟨"GivenSearchModel", "putNumber", "(I)V"⟩, 144) := ⟨⟨by decide +kernel, by decide +kernel⟩, List.mem_of_getElem? (i := 1104) (by decide +kernel), List.mem_of_getElem? (i := 1878) (by decide +kernel), List.mem_of_getElem? (i := 1879) (by decide +kernel)⟩
theorem lw_p113 : lw_okq (⟨"GivenSearchModel", "closeAll", "(I)I"⟩, 144) := ⟨⟨by decide +kernel, by decide +kernel⟩, List.mem_of_getElem? (i := 1104) (by decide +kernel), List.mem_of_getElem? (i := 1882) (by decide +kernel), List.mem_of_getElem? (i := 1883) (by decide +kernel)⟩
theorem lw_p114 : lw_okq (⟨"GivenSearchModel", "endWith", "(I)I"⟩, 144) := ⟨⟨by decide +kernel, by decide +kernel⟩, List.mem_of_getElem? (i := 1104) (by decide +kernel), List.mem_of_getElem? (i := 1906) (by decide +kernel), List.mem_of_getElem? (i := 1907) (by decide +kernel)⟩
theorem lw_p115 : lw_okq (⟨"GivenSearchModel", "areUnified", "(II)Z"⟩, 144) := ⟨⟨by decide +kernel, by decide +kernel⟩, List.mem_of_getElem? (i := 1104) (by decide +kernel), List.mem_of_getElem? (i := 1925) (by decide +kernel), List.mem_of_getElem? (i := 1926) (by decide +kernel)⟩
theorem lw_p116 : lw_okq (⟨"GivenSearchModel", "coverOf", "(I)I"⟩, 144) := ⟨⟨by decide +kernel, by decide +kernel⟩, List.mem_of_getElem? (i := 1104) (by decide +kernel), List.mem_of_getElem? (i := 1929) (by decide +kernel), List.mem_of_getElem? (i := 1930) (by decide +kernel)⟩
theorem lw_p117 : lw_okq (⟨"GivenSearchModel", "allAround", "(I)I"⟩, 144) := ⟨⟨by decide +kernel, by decide +kernel⟩, List.mem_of_getElem? (i := 1104) (by decide +kernel), List.mem_of_getElem? (i := 1945) (by decide +kernel), List.mem_of_getElem? (i := 1946) (by decide +kernel)⟩
theorem lw_p118 : lw_okq (⟨"GivenSearchModel", "valuesOf", "(III)I"⟩, 144) := ⟨⟨by decide +kernel, by decide +kernel⟩, List.mem_of_getElem? (i := 1104) (by decide +kernel), List.mem_of_getElem? (i := 1949) (by decide +kernel), List.mem_of_getElem? (i := 1950) (by decide +kernel)⟩
theorem lw_p119 : lw_okq (⟨"GivenSearchModel", "openValue", "(II)V"⟩, 144) := ⟨⟨by decide +kernel, by decide +kernel⟩, List.mem_of_getElem? (i := 1104) (by decide +kernel), List.mem_of_getElem? (i := 1953) (by decide +kernel), List.mem_of_getElem? (i := 1954) (by decide +kernel)⟩
theorem lw_p120 : lw_okq (⟨"GivenSearchModel", "nextGiven", "(II)Z"⟩, 144) := ⟨⟨by decide +kernel, by decide +kernel⟩, List.mem_of_getElem? (i := 1104) (by decide +kernel), List.mem_of_getElem? (i := 1957) (by decide +kernel), List.mem_of_getElem? (i := 1958) (by decide +kernel)⟩
theorem lw_p121 : lw_okq (⟨"GivenSearchModel", "backValue", "(I)V"⟩, 144) := ⟨⟨by decide +kernel, by decide +kernel⟩, List.mem_of_getElem? (i := 1104) (by decide +kernel), List.mem_of_getElem? (i := 1961) (by decide +kernel), List.mem_of_getElem? (i := 1962) (by decide +kernel)⟩
theorem lw_p122 : lw_okq (⟨"GivenSearchModel", "upWith", "(IJ)I"⟩, 144) := ⟨⟨by decide +kernel, by decide +kernel⟩, List.mem_of_getElem? (i := 1104) (by decide +kernel), List.mem_of_getElem? (i := 1965) (by decide +kernel), List.mem_of_getElem? (i := 1966) (by decide +kernel)⟩
def lw_privs_8 : List (MethodName × Nat) := [(⟨"GivenSearchModel", "putNumber", "(I)V"⟩, 144), (⟨"GivenSearchModel", "closeAll", "(I)I"⟩, 144), (⟨"GivenSearchModel", "endWith", "(I)I"⟩, 144), (⟨"GivenSearchModel", "areUnified", "(II)Z"⟩, 144), (⟨"GivenSearchModel", "coverOf", "(I)I"⟩, 144), (⟨"GivenSearchModel", "allAround", "(I)I"⟩, 144), (⟨"GivenSearchModel", "valuesOf", "(III)I"⟩, 144), (⟨"GivenSearchModel", "openValue", "(II)V"⟩, 144), (⟨"GivenSearchModel", "nextGiven", "(II)Z"⟩, 144), (⟨"GivenSearchModel", "backValue", "(I)V"⟩, 144), (⟨"GivenSearchModel", "upWith", "(IJ)I"⟩, 144)]
theorem lw_r8 : ∀ q ∈ lw_privs_8, lw_okq q := List.forall_mem_cons.mpr ⟨lw_p112, List.forall_mem_cons.mpr ⟨lw_p113, List.forall_mem_cons.mpr ⟨lw_p114, List.forall_mem_cons.mpr ⟨lw_p115, List.forall_mem_cons.mpr ⟨lw_p116, List.forall_mem_cons.mpr ⟨lw_p117, List.forall_mem_cons.mpr ⟨lw_p118, List.forall_mem_cons.mpr ⟨lw_p119, List.forall_mem_cons.mpr ⟨lw_p120, List.forall_mem_cons.mpr ⟨lw_p121, List.forall_mem_cons.mpr ⟨lw_p122, fun _ h => absurd h List.not_mem_nil⟩⟩⟩⟩⟩⟩⟩⟩⟩⟩⟩
def lw_privs : List (MethodName × Nat) := lw_privs_1 ++ (lw_privs_2 ++ (lw_privs_3 ++ (lw_privs_4 ++ (lw_privs_5 ++ (lw_privs_6 ++ (lw_privs_7 ++ (lw_privs_8)))))))
def lw_tbl : List Cond := k2_sels lw_privs ++ tables_1
theorem lw_privs_ok : ∀ q ∈ lw_privs, lw_okq q := by
  show ∀ q ∈ lw_privs_1 ++ (lw_privs_2 ++ (lw_privs_3 ++ (lw_privs_4 ++ (lw_privs_5 ++ (lw_privs_6 ++ (lw_privs_7 ++ (lw_privs_8))))))), lw_okq q
  exact List.forall_mem_append.mpr ⟨lw_r1, List.forall_mem_append.mpr ⟨lw_r2, List.forall_mem_append.mpr ⟨lw_r3, List.forall_mem_append.mpr ⟨lw_r4, List.forall_mem_append.mpr ⟨lw_r5, List.forall_mem_append.mpr ⟨lw_r6, List.forall_mem_append.mpr ⟨lw_r7, lw_r8⟩⟩⟩⟩⟩⟩⟩

-- the classes: names, fields in the order of their slots, their types
def ax_T0 : u_T := fun k => match k with
  | 0 => ("GivenSearch$Flat", "sign", "[I", true)
  | _ => ("GivenSearch$Flat", "size", "I", false)
def ax_t0 : Nat → FieldType := fun k => match k with
  | 0 => .array .int
  | _ => .int
def ax_T1 : u_T := fun k => match k with
  | 0 => ("GivenSearchModel", "tape", "[B", true)
  | 1 => ("GivenSearchModel", "taped", "I", false)
  | 2 => ("GivenSearchModel", "at", "I", false)
  | 3 => ("GivenSearchModel", "faultPlace", "I", false)
  | 4 => ("GivenSearchModel", "read", "[I", true)
  | 5 => ("GivenSearchModel", "open", "[I", true)
  | 6 => ("GivenSearchModel", "readLong", "I", false)
  | 7 => ("GivenSearchModel", "opened", "I", false)
  | 8 => ("GivenSearchModel", "around", "[I", true)
  | 9 => ("GivenSearchModel", "scopeOf", "[I", true)
  | 10 => ("GivenSearchModel", "needs", "[I", true)
  | 11 => ("GivenSearchModel", "things", "[I", true)
  | 12 => ("GivenSearchModel", "longOf", "[I", true)
  | 13 => ("GivenSearchModel", "scopes", "I", false)
  | 14 => ("GivenSearchModel", "givens", "I", false)
  | 15 => ("GivenSearchModel", "outs", "I", false)
  | 16 => ("GivenSearchModel", "shuts", "I", false)
  | 17 => ("GivenSearchModel", "newAround", "[I", true)
  | 18 => ("GivenSearchModel", "newScopeOf", "[I", true)
  | 19 => ("GivenSearchModel", "newNeeds", "[I", true)
  | 20 => ("GivenSearchModel", "newThings", "[I", true)
  | 21 => ("GivenSearchModel", "newLong", "[I", true)
  | 22 => ("GivenSearchModel", "opens", "[I", true)
  | 23 => ("GivenSearchModel", "newScopes", "I", false)
  | 24 => ("GivenSearchModel", "newGivens", "I", false)
  | 25 => ("GivenSearchModel", "deep", "I", false)
  | 26 => ("GivenSearchModel", "special", "[Z", true)
  | 27 => ("GivenSearchModel", "putAt", "[I", true)
  | 28 => ("GivenSearchModel", "head", "[I", true)
  | 29 => ("GivenSearchModel", "first", "[I", true)
  | 30 => ("GivenSearchModel", "tied", "[I", true)
  | 31 => ("GivenSearchModel", "parts", "[I", true)
  | 32 => ("GivenSearchModel", "trail", "[I", true)
  | 33 => ("GivenSearchModel", "heap", "I", false)
  | 34 => ("GivenSearchModel", "partMany", "I", false)
  | 35 => ("GivenSearchModel", "tiedMany", "I", false)
  | 36 => ("GivenSearchModel", "unknownOf", "[I", true)
  | 37 => ("GivenSearchModel", "pile", "[I", true)
  | 38 => ("GivenSearchModel", "piled", "I", false)
  | 39 => ("GivenSearchModel", "walk", "[I", true)
  | 40 => ("GivenSearchModel", "twos", "[I", true)
  | 41 => ("GivenSearchModel", "laid", "[I", true)
  | 42 => ("GivenSearchModel", "order", "[I", true)
  | 43 => ("GivenSearchModel", "laidLong", "I", false)
  | 44 => ("GivenSearchModel", "ordered", "I", false)
  | 45 => ("GivenSearchModel", "letters", "I", false)
  | 46 => ("GivenSearchModel", "told", "[I", true)
  | 47 => ("GivenSearchModel", "toldLong", "[I", true)
  | 48 => ("GivenSearchModel", "goalRow", "[I", true)
  | 49 => ("GivenSearchModel", "goalLong", "I", false)
  | 50 => ("GivenSearchModel", "goalScope", "I", false)
  | 51 => ("GivenSearchModel", "wasAsked", "Z", false)
  | 52 => ("GivenSearchModel", "nodeGiven", "[I", true)
  | 53 => ("GivenSearchModel", "nodeLevel", "[I", true)
  | 54 => ("GivenSearchModel", "nodeCands", "[I", true)
  | 55 => ("GivenSearchModel", "nodeFailed", "[I", true)
  | 56 => ("GivenSearchModel", "nodeUntried", "[I", true)
  | 57 => ("GivenSearchModel", "nodeBelow", "[I", true)
  | 58 => ("GivenSearchModel", "nodeKid", "[I", true)
  | 59 => ("GivenSearchModel", "nodeAll", "[I", true)
  | 60 => ("GivenSearchModel", "nodeGoal", "[I", true)
  | 61 => ("GivenSearchModel", "nodeLong", "[I", true)
  | 62 => ("GivenSearchModel", "pool", "[I", true)
  | 63 => ("GivenSearchModel", "kept", "I", false)
  | 64 => ("GivenSearchModel", "live", "I", false)
  | 65 => ("GivenSearchModel", "pooled", "I", false)
  | 66 => ("GivenSearchModel", "memoryScope", "[I", true)
  | 67 => ("GivenSearchModel", "memoryLong", "[I", true)
  | 68 => ("GivenSearchModel", "memoryRow", "[I", true)
  | 69 => ("GivenSearchModel", "memoryNode", "[I", true)
  | 70 => ("GivenSearchModel", "remembered", "I", false)
  | 71 => ("GivenSearchModel", "goal", "[I", true)
  | 72 => ("GivenSearchModel", "closed", "[Z", true)
  | 73 => ("GivenSearchModel", "cutsThen", "[I", true)
  | 74 => ("GivenSearchModel", "scopeNow", "[I", true)
  | 75 => ("GivenSearchModel", "level", "[I", true)
  | 76 => ("GivenSearchModel", "cands", "[I", true)
  | 77 => ("GivenSearchModel", "candMany", "[I", true)
  | 78 => ("GivenSearchModel", "failed", "[I", true)
  | 79 => ("GivenSearchModel", "best", "[I", true)
  | 80 => ("GivenSearchModel", "next", "[I", true)
  | 81 => ("GivenSearchModel", "tried", "[I", true)
  | 82 => ("GivenSearchModel", "need", "[I", true)
  | 83 => ("GivenSearchModel", "needNode", "[I", true)
  | 84 => ("GivenSearchModel", "mark", "[I", true)
  | 85 => ("GivenSearchModel", "heapMark", "[I", true)
  | 86 => ("GivenSearchModel", "partMark", "[I", true)
  | 87 => ("GivenSearchModel", "liveMark", "[I", true)
  | 88 => ("GivenSearchModel", "kid", "[I", true)
  | 89 => ("GivenSearchModel", "well", "[I", true)
  | 90 => ("GivenSearchModel", "wellGiven", "[I", true)
  | 91 => ("GivenSearchModel", "wellOther", "[I", true)
  | 92 => ("GivenSearchModel", "wellKid", "[I", true)
  | 93 => ("GivenSearchModel", "wellFrom", "[I", true)
  | 94 => ("GivenSearchModel", "wellMany", "[I", true)
  | 95 => ("GivenSearchModel", "savedFrom", "[I", true)
  | 96 => ("GivenSearchModel", "savedTo", "[I", true)
  | 97 => ("GivenSearchModel", "saved", "I", false)
  | 98 => ("GivenSearchModel", "frames", "I", false)
  | 99 => ("GivenSearchModel", "over", "I", false)
  | 100 => ("GivenSearchModel", "isApart", "Z", false)
  | 101 => ("GivenSearchModel", "hasCome", "Z", false)
  | 102 => ("GivenSearchModel", "came", "I", false)
  | 103 => ("GivenSearchModel", "askedMany", "I", false)
  | 104 => ("GivenSearchModel", "metMany", "I", false)
  | 105 => ("GivenSearchModel", "cutMany", "I", false)
  | 106 => ("GivenSearchModel", "triedMany", "I", false)
  | 107 => ("GivenSearchModel", "deepest", "I", false)
  | 108 => ("GivenSearchModel", "askedIn", "I", false)
  | 109 => ("GivenSearchModel", "keptAs", "[I", true)
  | 110 => ("GivenSearchModel", "todo", "[I", true)
  | 111 => ("GivenSearchModel", "whole", "I", false)
  | 112 => ("GivenSearchModel", "counts", "[I", true)
  | 113 => ("GivenSearchModel", "treeNode", "[I", true)
  | 114 => ("GivenSearchModel", "treeUp", "[I", true)
  | 115 => ("GivenSearchModel", "treeNeed", "[I", true)
  | 116 => ("GivenSearchModel", "treeGiven", "[I", true)
  | 117 => ("GivenSearchModel", "treeLevel", "[I", true)
  | 118 => ("GivenSearchModel", "treeCands", "[I", true)
  | 119 => ("GivenSearchModel", "treeFailed", "[I", true)
  | 120 => ("GivenSearchModel", "treeUntried", "[I", true)
  | 121 => ("GivenSearchModel", "treeBelow", "[I", true)
  | 122 => ("GivenSearchModel", "treeLong", "[I", true)
  | 123 => ("GivenSearchModel", "treeRow", "[I", true)
  | 124 => ("GivenSearchModel", "depthOf", "[I", true)
  | 125 => ("GivenSearchModel", "answer", "[I", true)
  | 126 => ("GivenSearchModel", "treeMany", "I", false)
  | 127 => ("GivenSearchModel", "answerLong", "I", false)
  | 128 => ("GivenSearchModel", "firstOne", "I", false)
  | 129 => ("GivenSearchModel", "otherOne", "I", false)
  | 130 => ("GivenSearchModel", "todoUp", "[I", true)
  | 131 => ("GivenSearchModel", "todoNeed", "[I", true)
  | 132 => ("GivenSearchModel", "written", "[B", true)
  | 133 => ("GivenSearchModel", "writtenLong", "I", false)
  | 134 => ("GivenSearchModel", "still", "[I", true)
  | 135 => ("GivenSearchModel", "valueGoal", "[I", true)
  | 136 => ("GivenSearchModel", "valueGiven", "[I", true)
  | 137 => ("GivenSearchModel", "valueNeed", "[I", true)
  | 138 => ("GivenSearchModel", "valueNeeds", "[I", true)
  | 139 => ("GivenSearchModel", "valueMark", "[I", true)
  | 140 => ("GivenSearchModel", "valueHeap", "[I", true)
  | 141 => ("GivenSearchModel", "valueParts", "[I", true)
  | 142 => ("GivenSearchModel", "product", "[J", true)
  | _ => ("GivenSearchModel", "sum", "[J", true)
def ax_t1 : Nat → FieldType := fun k => match k with
  | 0 => .array .byte
  | 1 => .int
  | 2 => .int
  | 3 => .int
  | 4 => .array .int
  | 5 => .array .int
  | 6 => .int
  | 7 => .int
  | 8 => .array .int
  | 9 => .array .int
  | 10 => .array .int
  | 11 => .array .int
  | 12 => .array .int
  | 13 => .int
  | 14 => .int
  | 15 => .int
  | 16 => .int
  | 17 => .array .int
  | 18 => .array .int
  | 19 => .array .int
  | 20 => .array .int
  | 21 => .array .int
  | 22 => .array .int
  | 23 => .int
  | 24 => .int
  | 25 => .int
  | 26 => .array .boolean
  | 27 => .array .int
  | 28 => .array .int
  | 29 => .array .int
  | 30 => .array .int
  | 31 => .array .int
  | 32 => .array .int
  | 33 => .int
  | 34 => .int
  | 35 => .int
  | 36 => .array .int
  | 37 => .array .int
  | 38 => .int
  | 39 => .array .int
  | 40 => .array .int
  | 41 => .array .int
  | 42 => .array .int
  | 43 => .int
  | 44 => .int
  | 45 => .int
  | 46 => .array .int
  | 47 => .array .int
  | 48 => .array .int
  | 49 => .int
  | 50 => .int
  | 51 => .boolean
  | 52 => .array .int
  | 53 => .array .int
  | 54 => .array .int
  | 55 => .array .int
  | 56 => .array .int
  | 57 => .array .int
  | 58 => .array .int
  | 59 => .array .int
  | 60 => .array .int
  | 61 => .array .int
  | 62 => .array .int
  | 63 => .int
  | 64 => .int
  | 65 => .int
  | 66 => .array .int
  | 67 => .array .int
  | 68 => .array .int
  | 69 => .array .int
  | 70 => .int
  | 71 => .array .int
  | 72 => .array .boolean
  | 73 => .array .int
  | 74 => .array .int
  | 75 => .array .int
  | 76 => .array .int
  | 77 => .array .int
  | 78 => .array .int
  | 79 => .array .int
  | 80 => .array .int
  | 81 => .array .int
  | 82 => .array .int
  | 83 => .array .int
  | 84 => .array .int
  | 85 => .array .int
  | 86 => .array .int
  | 87 => .array .int
  | 88 => .array .int
  | 89 => .array .int
  | 90 => .array .int
  | 91 => .array .int
  | 92 => .array .int
  | 93 => .array .int
  | 94 => .array .int
  | 95 => .array .int
  | 96 => .array .int
  | 97 => .int
  | 98 => .int
  | 99 => .int
  | 100 => .boolean
  | 101 => .boolean
  | 102 => .int
  | 103 => .int
  | 104 => .int
  | 105 => .int
  | 106 => .int
  | 107 => .int
  | 108 => .int
  | 109 => .array .int
  | 110 => .array .int
  | 111 => .int
  | 112 => .array .int
  | 113 => .array .int
  | 114 => .array .int
  | 115 => .array .int
  | 116 => .array .int
  | 117 => .array .int
  | 118 => .array .int
  | 119 => .array .int
  | 120 => .array .int
  | 121 => .array .int
  | 122 => .array .int
  | 123 => .array .int
  | 124 => .array .int
  | 125 => .array .int
  | 126 => .int
  | 127 => .int
  | 128 => .int
  | 129 => .int
  | 130 => .array .int
  | 131 => .array .int
  | 132 => .array .byte
  | 133 => .int
  | 134 => .array .int
  | 135 => .array .int
  | 136 => .array .int
  | 137 => .array .int
  | 138 => .array .int
  | 139 => .array .int
  | 140 => .array .int
  | 141 => .array .int
  | 142 => .array .long
  | _ => .array .long
def ax_T2 : u_T := fun k => match k with
  | 0 => ("GivenSearch$Forest", "nodes", "LGivenSearch$Nodes;", true)
  | 1 => ("GivenSearch$Forest", "signs", "[I", false)
  | _ => ("GivenSearch$Forest", "signTop", "I", false)
def ax_t2 : Nat → FieldType := fun k => match k with
  | 0 => .object "GivenSearch$Nodes"
  | 1 => .array .int
  | _ => .int
def ax_T3 : u_T := fun k => match k with
  | _ => ("GivenSearch$Match", "putAt", "[I", true)
def ax_t3 : Nat → FieldType := fun k => match k with
  | _ => .array .int
def ax_T4 : u_T := fun k => match k with
  | 0 => ("GivenSearch$Memory", "count", "I", false)
  | 1 => ("GivenSearch$Memory", "nodes", "[I", true)
  | 2 => ("GivenSearch$Memory", "from", "[I", true)
  | 3 => ("GivenSearch$Memory", "forest", "LGivenSearch$Forest;", true)
  | 4 => ("GivenSearch$Memory", "scopes", "[I", true)
  | _ => ("GivenSearch$Memory", "goals", "[LGivenSearch$Flat;", true)
def ax_t4 : Nat → FieldType := fun k => match k with
  | 0 => .int
  | 1 => .array .int
  | 2 => .array .int
  | 3 => .object "GivenSearch$Forest"
  | 4 => .array .int
  | _ => .array (.object "GivenSearch$Flat")
def ax_T5 : u_T := fun k => match k with
  | 0 => ("GivenSearch$Nodes", "top", "I", false)
  | _ => ("GivenSearch$Nodes", "cells", "[I", false)
def ax_t5 : Nat → FieldType := fun k => match k with
  | 0 => .int
  | _ => .array .int
def ax_T6 : u_T := fun k => match k with
  | 0 => ("GivenSearch$Search", "terms", "LGivenSearch$Terms;", true)
  | 1 => ("GivenSearch$Search", "memory", "LGivenSearch$Memory;", true)
  | 2 => ("GivenSearch$Search", "tally", "[I", true)
  | 3 => ("GivenSearch$Search", "clash", "LGivenSearch$Flat;", true)
  | 4 => ("GivenSearch$Search", "first", "I", false)
  | 5 => ("GivenSearch$Search", "second", "I", false)
  | 6 => ("GivenSearch$Search", "plan", "LGivenSearch$Nodes;", true)
  | 7 => ("GivenSearch$Search", "row", "LGivenSearch$Flat;", true)
  | 8 => ("GivenSearch$Search", "other", "LGivenSearch$Flat;", true)
  | 9 => ("GivenSearch$Search", "underGiven", "[I", true)
  | 10 => ("GivenSearch$Search", "underGoal", "[I", true)
  | 11 => ("GivenSearch$Search", "needAt", "[I", true)
  | 12 => ("GivenSearch$Search", "place", "[I", true)
  | 13 => ("GivenSearch$Search", "start", "I", false)
  | 14 => ("GivenSearch$Search", "outs", "I", false)
  | 15 => ("GivenSearch$Search", "shuts", "I", false)
  | 16 => ("GivenSearch$Search", "stop", "I", false)
  | 17 => ("GivenSearch$Search", "remembers", "Z", false)
  | _ => ("GivenSearch$Search", "text", "LGivenSearch$Text;", false)
def ax_t6 : Nat → FieldType := fun k => match k with
  | 0 => .object "GivenSearch$Terms"
  | 1 => .object "GivenSearch$Memory"
  | 2 => .array .int
  | 3 => .object "GivenSearch$Flat"
  | 4 => .int
  | 5 => .int
  | 6 => .object "GivenSearch$Nodes"
  | 7 => .object "GivenSearch$Flat"
  | 8 => .object "GivenSearch$Flat"
  | 9 => .array .int
  | 10 => .array .int
  | 11 => .array .int
  | 12 => .array .int
  | 13 => .int
  | 14 => .int
  | 15 => .int
  | 16 => .int
  | 17 => .boolean
  | _ => .object "GivenSearch$Text"
def ax_T7 : u_T := fun k => match k with
  | 0 => ("GivenSearch$Tape", "length", "I", false)
  | 1 => ("GivenSearch$Tape", "at", "I", false)
  | 2 => ("GivenSearch$Tape", "octets", "[I", true)
  | _ => ("GivenSearch$Tape", "openAt", "[I", true)
def ax_t7 : Nat → FieldType := fun k => match k with
  | 0 => .int
  | 1 => .int
  | 2 => .array .int
  | _ => .array .int
def ax_T8 : u_T := fun k => match k with
  | 0 => ("GivenSearch$Terms", "top", "I", false)
  | 1 => ("GivenSearch$Terms", "trailTop", "I", false)
  | 2 => ("GivenSearch$Terms", "savedTop", "I", false)
  | 3 => ("GivenSearch$Terms", "sign", "[I", false)
  | 4 => ("GivenSearch$Terms", "seen", "[I", false)
  | 5 => ("GivenSearch$Terms", "link", "[I", false)
  | 6 => ("GivenSearch$Terms", "trail", "[I", false)
  | 7 => ("GivenSearch$Terms", "saved", "[I", false)
  | 8 => ("GivenSearch$Terms", "stamp", "I", false)
  | 9 => ("GivenSearch$Terms", "open", "[I", true)
  | 10 => ("GivenSearch$Terms", "pairs", "[I", true)
  | 11 => ("GivenSearch$Terms", "unknownOf", "[I", true)
  | 12 => ("GivenSearch$Terms", "names", "[I", true)
  | 13 => ("GivenSearch$Terms", "openTop", "I", false)
  | 14 => ("GivenSearch$Terms", "pairTop", "I", false)
  | _ => ("GivenSearch$Terms", "nameCount", "I", false)
def ax_t8 : Nat → FieldType := fun k => match k with
  | 0 => .int
  | 1 => .int
  | 2 => .int
  | 3 => .array .int
  | 4 => .array .int
  | 5 => .array .int
  | 6 => .array .int
  | 7 => .array .int
  | 8 => .int
  | 9 => .array .int
  | 10 => .array .int
  | 11 => .array .int
  | 12 => .array .int
  | 13 => .int
  | 14 => .int
  | _ => .int
def ax_T9 : u_T := fun k => match k with
  | 0 => ("GivenSearch$Text", "scopeCount", "I", false)
  | 1 => ("GivenSearch$Text", "givenCount", "I", false)
  | 2 => ("GivenSearch$Text", "around", "[I", true)
  | 3 => ("GivenSearch$Text", "lies", "[I", true)
  | 4 => ("GivenSearch$Text", "own", "[I", true)
  | 5 => ("GivenSearch$Text", "home", "[I", true)
  | 6 => ("GivenSearch$Text", "needs", "[I", true)
  | 7 => ("GivenSearch$Text", "match", "LGivenSearch$Match;", true)
  | 8 => ("GivenSearch$Text", "parts", "[LGivenSearch$Flat;", true)
  | _ => ("GivenSearch$Text", "cases", "[I", true)
def ax_t9 : Nat → FieldType := fun k => match k with
  | 0 => .int
  | 1 => .int
  | 2 => .array .int
  | 3 => .array .int
  | 4 => .array .int
  | 5 => .array .int
  | 6 => .array .int
  | 7 => .object "GivenSearch$Match"
  | 8 => .array (.object "GivenSearch$Flat")
  | _ => .array .int
def ax_T10 : u_T := fun k => match k with
  | 0 => ("GivenSearch$Written", "length", "I", false)
  | 1 => ("GivenSearch$Written", "octets", "[I", true)
  | _ => ("GivenSearch$Written", "wanted", "[I", true)
def ax_t10 : Nat → FieldType := fun k => match k with
  | 0 => .int
  | 1 => .array .int
  | _ => .array .int
def ax_T11 : u_T := fun k => match k with
  | 0 => ("GivenSearch", "tape", "LGivenSearch$Tape;", true)
  | 1 => ("GivenSearch", "types", "[LGivenSearch$Flat;", true)
  | 2 => ("GivenSearch", "read", "LGivenSearch$Flat;", true)
  | 3 => ("GivenSearch", "flat", "LGivenSearch$Flat;", true)
  | 4 => ("GivenSearch", "written", "LGivenSearch$Written;", true)
  | 5 => ("GivenSearch", "text", "LGivenSearch$Text;", false)
  | 6 => ("GivenSearch", "spare", "LGivenSearch$Text;", false)
  | 7 => ("GivenSearch", "search", "LGivenSearch$Search;", true)
  | 8 => ("GivenSearch", "faultAt", "I", false)
  | 9 => ("GivenSearch", "outs", "I", false)
  | 10 => ("GivenSearch", "shuts", "I", false)
  | 11 => ("GivenSearch", "told", "[I", true)
  | 12 => ("GivenSearch", "goal", "LGivenSearch$Flat;", true)
  | 13 => ("GivenSearch", "clash", "LGivenSearch$Flat;", true)
  | 14 => ("GivenSearch", "tree", "LGivenSearch$Forest;", true)
  | 15 => ("GivenSearch", "askedIn", "I", false)
  | 16 => ("GivenSearch", "firstOfBoth", "I", false)
  | _ => ("GivenSearch", "secondOfBoth", "I", false)
def ax_t11 : Nat → FieldType := fun k => match k with
  | 0 => .object "GivenSearch$Tape"
  | 1 => .array (.object "GivenSearch$Flat")
  | 2 => .object "GivenSearch$Flat"
  | 3 => .object "GivenSearch$Flat"
  | 4 => .object "GivenSearch$Written"
  | 5 => .object "GivenSearch$Text"
  | 6 => .object "GivenSearch$Text"
  | 7 => .object "GivenSearch$Search"
  | 8 => .int
  | 9 => .int
  | 10 => .int
  | 11 => .array .int
  | 12 => .object "GivenSearch$Flat"
  | 13 => .object "GivenSearch$Flat"
  | 14 => .object "GivenSearch$Forest"
  | 15 => .int
  | 16 => .int
  | _ => .int
def ax_cl : List vw_C := [("GivenSearch$Flat", ax_T0, 2), ("GivenSearchModel", ax_T1, 144), ("GivenSearch$Forest", ax_T2, 3), ("GivenSearch$Match", ax_T3, 1), ("GivenSearch$Memory", ax_T4, 6), ("GivenSearch$Nodes", ax_T5, 2), ("GivenSearch$Search", ax_T6, 19), ("GivenSearch$Tape", ax_T7, 4), ("GivenSearch$Terms", ax_T8, 16), ("GivenSearch$Text", ax_T9, 10), ("GivenSearch$Written", ax_T10, 3), ("GivenSearch", ax_T11, 18)]
def ax_ty (ci k : Nat) : FieldType := match ci with
  | 0 => ax_t0 k
  | 1 => ax_t1 k
  | 2 => ax_t2 k
  | 3 => ax_t3 k
  | 4 => ax_t4 k
  | 5 => ax_t5 k
  | 6 => ax_t6 k
  | 7 => ax_t7 k
  | 8 => ax_t8 k
  | 9 => ax_t9 k
  | 10 => ax_t10 k
  | _ => ax_t11 k
def ax_own (o : Nat) : String := match o with
  | 0 => "GivenSearch$Flat"
  | 1 => "GivenSearchModel"
  | 2 => "GivenSearch$Forest"
  | 3 => "GivenSearch$Match"
  | 4 => "GivenSearch$Memory"
  | 5 => "GivenSearch$Nodes"
  | 6 => "GivenSearch$Search"
  | 7 => "GivenSearch$Tape"
  | 8 => "GivenSearch$Terms"
  | 9 => "GivenSearch$Text"
  | 10 => "GivenSearch$Written"
  | 11 => "GivenSearch"
  | 12 => "java/lang/Integer"
  | 13 => "java/lang/Math"
  | 14 => "java/util/Arrays"
  | _ => "GivenSearchLaw"
-- links: owner, place in the pool, what it is, its place in the tables
def ax_FR : List (Nat × Nat × Nat × Nat × Nat) := [(0, 15, 0, 0, 57), (0, 21, 0, 1, 58), (1, 1, 1, 0, 1293), (1, 7, 1, 1, 1294), (1, 19, 1, 2, 1295), (1, 22, 1, 3, 1296), (1, 33, 1, 6, 1299), (1, 36, 1, 7, 1300), (1, 45, 1, 4, 1297), (1, 61, 1, 5, 1298), (1, 64, 1, 24, 1317), (1, 67, 1, 21, 1314), (1, 70, 1, 20, 1313), (1, 87, 1, 19, 1312), (1, 90, 1, 18, 1311), (1, 93, 1, 22, 1315), (1, 96, 1, 25, 1318), (1, 99, 1, 23, 1316), (1, 102, 1, 17, 1310), (1, 118, 1, 13, 1306), (1, 121, 1, 14, 1307), (1, 124, 1, 15, 1308), (1, 127, 1, 16, 1309), (1, 130, 1, 8, 1301), (1, 133, 1, 9, 1302), (1, 136, 1, 10, 1303), (1, 139, 1, 12, 1305), (1, 142, 1, 11, 1304), (1, 145, 1, 26, 1319), (1, 156, 1, 51, 1344), (1, 160, 1, 70, 1363), (1, 193, 1, 27, 1320), (1, 211, 1, 33, 1326), (1, 214, 1, 34, 1327), (1, 217, 1, 35, 1328), (1, 220, 1, 28, 1321), (1, 223, 1, 30, 1323), (1, 226, 1, 36, 1329), (1, 229, 1, 38, 1331), (1, 235, 1, 37, 1330), (1, 238, 1, 29, 1322), (1, 241, 1, 31, 1324), (1, 251, 1, 32, 1325), (1, 254, 1, 39, 1332), (1, 260, 1, 40, 1333), (1, 270, 1, 44, 1337), (1, 273, 1, 42, 1335), (1, 276, 1, 43, 1336), (1, 279, 1, 45, 1338), (1, 282, 1, 41, 1334), (1, 294, 1, 46, 1339), (1, 297, 1, 47, 1340), (1, 300, 1, 48, 1341), (1, 303, 1, 52, 1345), (1, 306, 1, 53, 1346), (1, 309, 1, 54, 1347), (1, 312, 1, 55, 1348), (1, 315, 1, 56, 1349), (1, 318, 1, 57, 1350), (1, 322, 1, 58, 1351), (1, 325, 1, 59, 1352), (1, 328, 1, 60, 1353), (1, 331, 1, 61, 1354), (1, 335, 1, 62, 1355), (1, 338, 1, 66, 1359), (1, 341, 1, 67, 1360), (1, 344, 1, 68, 1361), (1, 347, 1, 69, 1362), (1, 350, 1, 71, 1364), (1, 353, 1, 72, 1365), (1, 356, 1, 73, 1366), (1, 359, 1, 74, 1367), (1, 362, 1, 75, 1368), (1, 365, 1, 76, 1369), (1, 368, 1, 77, 1370), (1, 371, 1, 78, 1371), (1, 374, 1, 79, 1372), (1, 377, 1, 80, 1373), (1, 380, 1, 81, 1374), (1, 383, 1, 82, 1375), (1, 386, 1, 83, 1376), (1, 389, 1, 84, 1377), (1, 392, 1, 85, 1378), (1, 395, 1, 86, 1379), (1, 398, 1, 87, 1380), (1, 401, 1, 88, 1381), (1, 404, 1, 89, 1382), (1, 407, 1, 90, 1383), (1, 410, 1, 91, 1384), (1, 413, 1, 92, 1385), (1, 416, 1, 93, 1386), (1, 419, 1, 94, 1387), (1, 422, 1, 95, 1388), (1, 425, 1, 96, 1389), (1, 428, 1, 109, 1402), (1, 431, 1, 110, 1403), (1, 434, 1, 112, 1405), (1, 437, 1, 113, 1406), (1, 440, 1, 114, 1407), (1, 443, 1, 115, 1408), (1, 446, 1, 116, 1409), (1, 449, 1, 117, 1410), (1, 452, 1, 118, 1411), (1, 455, 1, 119, 1412), (1, 458, 1, 120, 1413), (1, 461, 1, 121, 1414), (1, 464, 1, 122, 1415), (1, 467, 1, 123, 1416), (1, 470, 1, 124, 1417), (1, 473, 1, 125, 1418), (1, 476, 1, 130, 1423), (1, 479, 1, 131, 1424), (1, 482, 1, 132, 1425), (1, 485, 1, 134, 1427), (1, 488, 1, 135, 1428), (1, 491, 1, 136, 1429), (1, 494, 1, 137, 1430), (1, 497, 1, 138, 1431), (1, 500, 1, 139, 1432), (1, 503, 1, 140, 1433), (1, 506, 1, 141, 1434), (1, 509, 1, 142, 1435), (1, 513, 1, 143, 1436), (1, 519, 1, 63, 1356), (1, 522, 1, 65, 1358), (1, 540, 1, 103, 1396), (1, 543, 1, 98, 1391), (1, 546, 1, 99, 1392), (1, 549, 1, 107, 1400), (1, 552, 1, 100, 1393), (1, 555, 1, 108, 1401), (1, 561, 1, 104, 1397), (1, 564, 1, 101, 1394), (1, 567, 1, 102, 1395), (1, 570, 1, 105, 1398), (1, 573, 1, 97, 1390), (1, 580, 1, 106, 1399), (1, 583, 1, 64, 1357), (1, 625, 1, 50, 1343), (1, 628, 1, 49, 1342), (1, 631, 1, 111, 1404), (1, 637, 1, 126, 1419), (1, 643, 1, 127, 1420), (1, 652, 1, 128, 1421), (1, 655, 1, 129, 1422), (1, 671, 1, 133, 1426), (2, 12, 2, 0, 243), (2, 18, 2, 1, 248), (2, 22, 5, 0, 231), (2, 26, 2, 2, 249), (2, 41, 0, 1, 60), (3, 9, 3, 0, 101), (3, 21, 0, 1, 59), (4, 9, 4, 1, 260), (4, 15, 4, 2, 261), (4, 21, 4, 3, 262), (4, 25, 4, 4, 264), (4, 30, 4, 5, 265), (4, 34, 4, 0, 258), (4, 56, 2, 0, 244), (4, 59, 5, 0, 234), (5, 9, 5, 1, 237), (5, 15, 5, 0, 232), (6, 12, 6, 0, 283), (6, 21, 6, 1, 285), (6, 25, 6, 2, 287), (6, 34, 6, 3, 289), (6, 38, 6, 4, 291), (6, 42, 6, 5, 293), (6, 48, 6, 6, 295), (6, 52, 6, 7, 296), (6, 55, 6, 8, 297), (6, 58, 6, 9, 298), (6, 61, 6, 10, 299), (6, 64, 6, 11, 300), (6, 67, 6, 12, 301), (6, 70, 6, 18, 307), (6, 80, 5, 0, 233), (6, 89, 6, 13, 302), (6, 92, 6, 14, 303), (6, 95, 6, 15, 304), (6, 98, 6, 16, 305), (6, 105, 6, 17, 306), (6, 127, 9, 4, 118), (6, 137, 8, 1, 164), (6, 140, 8, 0, 162), (6, 141, 9, 1, 111), (6, 189, 0, 1, 64), (6, 209, 4, 3, 263), (6, 234, 8, 2, 166), (6, 265, 2, 0, 247), (7, 9, 7, 2, 35), (7, 15, 7, 3, 36), (7, 18, 7, 0, 32), (7, 22, 7, 1, 33), (7, 53, 0, 1, 65), (7, 90, 9, 1, 112), (8, 9, 8, 3, 167), (8, 15, 8, 4, 168), (8, 18, 8, 5, 169), (8, 21, 8, 6, 170), (8, 24, 8, 7, 171), (8, 27, 8, 9, 173), (8, 30, 8, 10, 174), (8, 33, 8, 11, 175), (8, 36, 8, 12, 176), (8, 39, 8, 0, 161), (8, 43, 8, 1, 163), (8, 46, 8, 2, 165), (8, 72, 8, 13, 177), (8, 75, 0, 1, 63), (8, 108, 8, 14, 178), (8, 129, 8, 8, 172), (8, 146, 8, 15, 179), (9, 9, 9, 2, 113), (9, 15, 9, 3, 115), (9, 18, 9, 4, 117), (9, 21, 9, 5, 120), (9, 24, 9, 6, 122), (9, 30, 9, 7, 124), (9, 36, 9, 8, 126), (9, 40, 9, 9, 127), (9, 46, 9, 0, 107), (9, 50, 9, 1, 109), (9, 68, 0, 1, 66), (10, 11, 10, 1, 80), (10, 15, 10, 2, 81), (10, 18, 10, 0, 78), (10, 26, 0, 1, 61), (10, 47, 2, 0, 245), (10, 53, 5, 0, 235), (11, 12, 11, 0, 353), (11, 18, 11, 1, 354), (11, 25, 11, 2, 355), (11, 29, 11, 3, 356), (11, 35, 11, 4, 357), (11, 42, 11, 5, 358), (11, 46, 11, 6, 359), (11, 54, 11, 7, 360), (11, 58, 11, 8, 361), (11, 62, 11, 11, 364), (11, 66, 11, 12, 365), (11, 69, 11, 13, 366), (11, 75, 11, 14, 367), (11, 79, 11, 16, 369), (11, 82, 11, 17, 370), (11, 88, 7, 0, 31), (11, 98, 7, 1, 34), (11, 107, 11, 9, 362), (11, 110, 11, 10, 363), (11, 116, 9, 1, 110), (11, 119, 9, 0, 108), (11, 122, 6, 1, 286), (11, 126, 4, 0, 259), (11, 139, 9, 2, 114), (11, 142, 9, 4, 119), (11, 151, 9, 3, 116), (11, 170, 9, 5, 121), (11, 173, 9, 6, 123), (11, 176, 0, 1, 62), (11, 215, 9, 7, 125), (11, 230, 11, 15, 368), (11, 240, 2, 0, 246), (11, 256, 5, 0, 236), (11, 264, 10, 0, 79), (11, 274, 6, 0, 284), (11, 307, 6, 2, 288), (11, 326, 6, 4, 292), (11, 329, 6, 5, 294), (11, 332, 6, 3, 290)]
def ax_MR : List (Nat × Nat × Nat × Nat × Nat × String) := [(15, 9, 243, 2, 19, ""), (11, 3, 0, 3, 22, ""), (11, 11, 177, 4, 27, "GivenSearch"), (7, 3, 0, 3, 30, ""), (11, 22, 114, 2, 50, ""), (0, 3, 0, 3, 53, ""), (0, 9, 0, 7, 54, ""), (11, 34, 232, 4, 74, "GivenSearch"), (10, 3, 0, 3, 77, ""), (11, 41, 214, 2, 91, ""), (9, 3, 0, 3, 94, ""), (9, 29, 136, 4, 97, "GivenSearch"), (3, 3, 0, 3, 100, ""), (9, 43, 114, 2, 106, ""), (11, 51, 151, 2, 151, ""), (6, 3, 0, 3, 154, ""), (6, 11, 190, 4, 157, "GivenSearch"), (8, 3, 0, 3, 160, ""), (6, 20, 139, 4, 215, "GivenSearch"), (4, 3, 0, 3, 218, ""), (4, 20, 128, 4, 221, "GivenSearch"), (2, 3, 0, 3, 224, ""), (2, 11, 146, 4, 227, "GivenSearch"), (5, 3, 0, 3, 230, ""), (6, 31, 114, 2, 280, ""), (6, 47, 146, 4, 282, "GivenSearch"), (11, 74, 128, 4, 348, "GivenSearch"), (11, 85, 116, 0, 349, ""), (15, 13, 244, 0, 408, ""), (11, 91, 178, 0, 412, ""), (15, 18, 245, 0, 416, ""), (15, 23, 246, 0, 420, ""), (11, 94, 188, 0, 424, ""), (7, 73, 215, 0, 428, ""), (7, 29, 180, 0, 432, ""), (7, 25, 179, 0, 436, ""), (7, 76, 218, 0, 440, ""), (9, 53, 216, 0, 444, ""), (7, 80, 219, 0, 448, ""), (7, 64, 181, 0, 452, ""), (7, 83, 220, 0, 456, ""), (7, 86, 189, 0, 460, ""), (7, 93, 222, 0, 464, ""), (7, 33, 185, 0, 468, ""), (7, 37, 115, 0, 472, ""), (7, 42, 182, 0, 476, ""), (7, 46, 183, 0, 480, ""), (7, 49, 116, 0, 484, ""), (7, 56, 186, 0, 485, ""), (7, 60, 187, 0, 489, ""), (7, 67, 119, 0, 493, ""), (0, 29, 117, 0, 497, ""), (0, 33, 120, 1, 501, ""), (7, 70, 118, 0, 504, ""), (0, 25, 121, 0, 508, ""), (0, 36, 0, 8, 512, ""), (7, 97, 221, 0, 515, ""), (11, 101, 228, 0, 519, ""), (9, 64, 222, 0, 523, ""), (9, 75, 137, 0, 524, ""), (3, 15, 112, 1, 528, ""), (3, 27, 117, 0, 531, ""), (3, 31, 138, 0, 532, ""), (3, 35, 127, 0, 536, ""), (0, 43, 119, 0, 540, ""), (11, 104, 152, 0, 541, ""), (6, 74, 140, 0, 545, ""), (4, 38, 129, 0, 549, ""), (11, 113, 129, 0, 553, ""), (15, 28, 247, 0, 554, ""), (15, 32, 248, 0, 558, ""), (11, 131, 224, 0, 562, ""), (15, 36, 249, 0, 566, ""), (11, 135, 216, 0, 570, ""), (11, 145, 111, 1, 571, ""), (11, 154, 227, 0, 577, ""), (15, 41, 250, 0, 581, ""), (11, 157, 217, 0, 585, ""), (11, 160, 222, 0, 589, ""), (11, 164, 126, 0, 590, ""), (11, 167, 226, 0, 594, ""), (9, 60, 223, 0, 598, ""), (9, 57, 217, 0, 602, ""), (9, 71, 126, 0, 603, ""), (11, 179, 225, 0, 604, ""), (15, 45, 251, 0, 608, ""), (11, 182, 271, 1, 612, ""), (11, 186, 140, 0, 615, ""), (15, 50, 252, 0, 616, ""), (15, 54, 253, 0, 620, ""), (11, 189, 229, 0, 624, ""), (9, 79, 271, 5, 628, "GivenSearch"), (11, 192, 173, 0, 629, ""), (6, 77, 191, 0, 633, ""), (6, 109, 198, 0, 637, ""), (8, 68, 112, 1, 641, ""), (8, 80, 117, 0, 642, ""), (8, 83, 199, 0, 643, ""), (8, 86, 197, 0, 647, ""), (8, 60, 196, 1, 652, ""), (8, 53, 113, 1, 655, ""), (14, 304, 0, 8, 665, ""), (14, 150, 0, 6, 666, ""), (8, 64, 195, 0, 670, ""), (8, 89, 120, 1, 674, ""), (8, 92, 201, 0, 675, ""), (8, 96, 200, 0, 679, ""), (6, 148, 204, 0, 683, ""), (8, 111, 205, 0, 687, ""), (8, 116, 203, 0, 692, ""), (8, 104, 193, 0, 696, ""), (8, 49, 192, 0, 700, ""), (8, 100, 194, 0, 704, ""), (8, 119, 208, 0, 708, ""), (8, 132, 202, 0, 712, ""), (8, 123, 207, 0, 716, ""), (8, 126, 206, 0, 720, ""), (15, 58, 254, 0, 724, ""), (11, 196, 253, 0, 728, ""), (15, 62, 255, 0, 729, ""), (11, 200, 272, 0, 733, ""), (11, 203, 184, 0, 737, ""), (11, 207, 122, 0, 741, ""), (0, 39, 116, 0, 745, ""), (15, 66, 256, 0, 746, ""), (11, 211, 172, 0, 750, ""), (6, 185, 212, 0, 754, ""), (8, 143, 115, 0, 758, ""), (8, 149, 213, 0, 759, ""), (8, 152, 116, 0, 763, ""), (11, 219, 137, 0, 764, ""), (11, 224, 125, 0, 765, ""), (15, 71, 257, 0, 769, ""), (11, 227, 273, 0, 773, ""), (11, 259, 233, 0, 777, ""), (11, 304, 237, 0, 781, ""), (10, 31, 117, 0, 785, ""), (10, 35, 238, 0, 786, ""), (10, 22, 235, 0, 790, ""), (10, 44, 236, 0, 794, ""), (10, 38, 119, 0, 798, ""), (10, 41, 239, 0, 799, ""), (15, 75, 258, 0, 803, ""), (11, 233, 154, 0, 807, ""), (6, 101, 153, 0, 811, ""), (6, 83, 112, 1, 815, ""), (6, 113, 158, 0, 816, ""), (6, 155, 159, 0, 820, ""), (6, 158, 0, 7, 824, ""), (6, 164, 160, 0, 825, ""), (6, 192, 150, 0, 829, ""), (5, 20, 113, 1, 834, ""), (6, 196, 149, 0, 835, ""), (6, 168, 124, 0, 839, ""), (6, 172, 141, 0, 843, ""), (4, 41, 123, 0, 847, ""), (6, 176, 161, 0, 851, ""), (6, 199, 144, 0, 855, ""), (6, 179, 163, 0, 859, ""), (6, 217, 164, 0, 863, ""), (6, 220, 157, 0, 867, ""), (6, 130, 155, 0, 871, ""), (6, 117, 216, 0, 875, ""), (6, 123, 271, 5, 876, "GivenSearch"), (6, 144, 222, 0, 877, ""), (6, 151, 209, 0, 878, ""), (8, 135, 0, 8, 882, ""), (6, 223, 111, 1, 883, ""), (6, 228, 231, 0, 884, ""), (9, 86, 230, 0, 888, ""), (9, 83, 229, 0, 892, ""), (6, 231, 165, 0, 893, ""), (6, 237, 167, 0, 897, ""), (6, 256, 125, 0, 901, ""), (6, 241, 168, 0, 902, ""), (6, 259, 169, 0, 906, ""), (6, 262, 223, 0, 910, ""), (6, 244, 148, 0, 911, ""), (6, 247, 210, 0, 915, ""), (8, 140, 0, 7, 919, ""), (6, 250, 166, 0, 920, ""), (6, 253, 211, 0, 924, ""), (6, 134, 220, 0, 928, ""), (6, 182, 162, 0, 929, ""), (6, 202, 142, 0, 933, ""), (4, 45, 141, 0, 937, ""), (6, 206, 143, 0, 938, ""), (4, 49, 114, 2, 942, ""), (4, 52, 122, 0, 943, ""), (6, 213, 170, 0, 944, ""), (6, 270, 130, 0, 948, ""), (2, 29, 150, 0, 952, ""), (2, 33, 148, 0, 953, ""), (2, 37, 149, 0, 954, ""), (2, 46, 0, 8, 955, ""), (2, 51, 117, 0, 956, ""), (2, 55, 131, 0, 957, ""), (2, 60, 113, 1, 962, ""), (6, 273, 171, 0, 963, ""), (6, 277, 145, 0, 967, ""), (6, 280, 132, 0, 971, ""), (2, 66, 115, 0, 975, ""), (2, 69, 116, 0, 976, ""), (11, 237, 274, 0, 977, ""), (11, 310, 0, 6, 981, ""), (11, 316, 170, 0, 982, ""), (11, 320, 133, 0, 983, ""), (2, 71, 134, 0, 987, ""), (2, 74, 0, 7, 991, ""), (11, 323, 135, 0, 992, ""), (2, 77, 111, 1, 996, ""), (15, 79, 259, 0, 997, ""), (15, 83, 260, 0, 1001, ""), (11, 244, 147, 0, 1005, ""), (11, 249, 148, 0, 1009, ""), (15, 87, 261, 0, 1010, ""), (11, 252, 132, 0, 1014, ""), (15, 91, 262, 0, 1015, ""), (11, 260, 240, 0, 1019, ""), (10, 58, 134, 0, 1023, ""), (10, 61, 241, 0, 1024, ""), (10, 69, 242, 0, 1028, ""), (10, 65, 148, 0, 1032, ""), (15, 95, 263, 0, 1033, ""), (11, 265, 261, 0, 1037, ""), (15, 99, 264, 0, 1038, ""), (15, 103, 265, 0, 1042, ""), (11, 268, 234, 0, 1046, ""), (15, 107, 266, 0, 1050, ""), (15, 111, 267, 0, 1054, ""), (15, 115, 268, 0, 1058, ""), (15, 119, 269, 0, 1062, ""), (11, 270, 153, 0, 1066, ""), (11, 278, 198, 0, 1067, ""), (11, 284, 157, 0, 1068, ""), (11, 287, 231, 0, 1069, ""), (11, 290, 220, 0, 1070, ""), (15, 123, 270, 0, 1071, ""), (11, 293, 124, 0, 1075, ""), (11, 297, 156, 0, 1076, ""), (11, 300, 174, 0, 1080, ""), (6, 283, 0, 8, 1084, ""), (6, 286, 175, 0, 1085, ""), (6, 291, 176, 0, 1090, ""), (6, 295, 0, 9, 1094, ""), (15, 17, 7, 0, 1097, ""), (1, 11, 6, 0, 1101, ""), (15, 22, 8, 0, 1106, ""), (1, 15, 0, 1, 1110, ""), (15, 27, 22, 0, 1113, ""), (1, 115, 20, 0, 1117, ""), (1, 105, 21, 0, 1121, ""), (1, 109, 19, 0, 1125, ""), (1, 25, 9, 0, 1129, ""), (1, 29, 10, 0, 1133, ""), (1, 112, 18, 0, 1137, ""), (1, 77, 14, 0, 1141, ""), (1, 39, 12, 1, 1145, ""), (1, 42, 13, 1, 1148, ""), (1, 49, 4, 1, 1151, ""), (1, 53, 3, 1, 1154, ""), (1, 57, 15, 0, 1157, ""), (1, 81, 17, 0, 1161, ""), (1, 73, 16, 1, 1165, ""), (1, 84, 11, 0, 1168, ""), (1, 149, 35, 0, 1172, ""), (1, 189, 36, 0, 1176, ""), (1, 196, 34, 1, 1180, ""), (1, 186, 5, 1, 1183, ""), (1, 153, 54, 0, 1186, ""), (15, 31, 23, 0, 1190, ""), (15, 35, 26, 0, 1194, ""), (15, 40, 28, 0, 1198, ""), (1, 163, 24, 0, 1202, ""), (1, 166, 27, 0, 1206, ""), (15, 44, 31, 0, 1210, ""), (1, 176, 25, 0, 1214, ""), (1, 169, 29, 0, 1218, ""), (1, 173, 2, 1, 1222, ""), (1, 179, 30, 0, 1225, ""), (15, 49, 32, 0, 1229, ""), (1, 182, 1, 1, 1233, ""), (15, 53, 33, 0, 1236, ""), (15, 57, 37, 0, 1240, ""), (1, 200, 39, 0, 1244, ""), (1, 203, 43, 0, 1248, ""), (1, 244, 41, 0, 1252, ""), (1, 247, 42, 0, 1256, ""), (1, 232, 40, 0, 1260, ""), (1, 206, 48, 0, 1264, ""), (1, 257, 44, 0, 1268, ""), (1, 263, 47, 0, 1272, ""), (1, 266, 45, 0, 1276, ""), (15, 61, 38, 0, 1280, ""), (1, 209, 37, 0, 1284, ""), (15, 12, 51, 2, 1286, ""), (1, 288, 0, 3, 1289, ""), (15, 65, 53, 0, 1729, ""), (1, 516, 52, 0, 1733, ""), (15, 78, 79, 0, 1737, ""), (1, 658, 74, 0, 1741, ""), (1, 589, 60, 0, 1745, ""), (1, 537, 50, 0, 1749, ""), (1, 285, 49, 0, 1753, ""), (1, 558, 55, 0, 1757, ""), (1, 576, 56, 0, 1761, ""), (1, 525, 57, 0, 1765, ""), (1, 531, 46, 0, 1769, ""), (1, 528, 59, 0, 1773, ""), (1, 534, 58, 0, 1777, ""), (1, 634, 67, 0, 1781, ""), (1, 598, 68, 0, 1785, ""), (1, 595, 64, 0, 1789, ""), (1, 586, 63, 0, 1793, ""), (1, 592, 65, 0, 1797, ""), (1, 601, 61, 0, 1801, ""), (1, 604, 62, 0, 1805, ""), (1, 607, 69, 0, 1809, ""), (1, 613, 66, 0, 1813, ""), (1, 610, 70, 0, 1817, ""), (1, 616, 71, 0, 1821, ""), (1, 619, 72, 0, 1825, ""), (1, 622, 73, 0, 1829, ""), (1, 662, 78, 0, 1833, ""), (1, 646, 76, 0, 1837, ""), (1, 640, 75, 0, 1841, ""), (1, 649, 77, 0, 1845, ""), (15, 82, 80, 0, 1849, ""), (15, 86, 83, 0, 1853, ""), (1, 668, 82, 0, 1857, ""), (1, 665, 81, 0, 1861, ""), (15, 90, 88, 0, 1865, ""), (1, 683, 86, 0, 1869, ""), (1, 674, 84, 0, 1873, ""), (1, 677, 85, 0, 1877, ""), (1, 680, 87, 0, 1881, ""), (15, 98, 89, 0, 1885, ""), (15, 94, 90, 0, 1889, ""), (15, 102, 91, 0, 1893, ""), (15, 106, 92, 0, 1897, ""), (15, 110, 94, 0, 1901, ""), (1, 686, 93, 0, 1905, ""), (15, 114, 95, 0, 1909, ""), (15, 118, 96, 0, 1913, ""), (15, 70, 100, 0, 1917, ""), (1, 689, 97, 1, 1921, ""), (1, 692, 98, 0, 1924, ""), (1, 695, 99, 0, 1928, ""), (15, 74, 101, 0, 1932, ""), (15, 122, 102, 0, 1936, ""), (15, 126, 110, 0, 1940, ""), (1, 717, 103, 0, 1944, ""), (1, 720, 108, 0, 1948, ""), (1, 703, 104, 0, 1952, ""), (1, 706, 106, 0, 1956, ""), (1, 700, 107, 0, 1960, ""), (1, 709, 109, 0, 1964, ""), (1, 713, 105, 1, 1968, "")]
def ax_CR : List (Nat × Nat × Nat × Nat) := [(15, 7, 11, 17), (11, 9, 7, 25), (11, 16, 0, 47), (11, 32, 10, 72), (11, 39, 9, 89), (9, 27, 3, 95), (9, 34, 0, 105), (11, 49, 6, 149), (6, 9, 8, 155), (6, 18, 4, 213), (4, 18, 2, 219), (2, 9, 5, 225), (4, 28, 0, 257), (6, 29, 0, 279), (6, 45, 5, 281), (11, 72, 2, 347), (15, 10, 1, 1285)]
def ax_KR : List (Nat × Nat × Nat × Nat) := [(12, 265, 1431655765, 574), (12, 266, 858993459, 575), (12, 267, 252645135, 576), (8, 59, 65536, 651), (8, 63, 196608, 669), (8, 115, 16777216, 691), (5, 19, 131072, 833), (2, 59, 1048576, 961), (1, 293, 40000, 1290), (1, 321, 33680, 1291), (1, 334, 820000, 1292)]
def ax_LR : List (Nat × Nat × Nat × Nat) := [(6, 289, 1000000, 1089), (1, 698, 1000000, 1971)]
-- methods: owner, name, bytes, locals, answer, parameters, static, place of its code word
abbrev ax_Mt : Type := Nat × MethodName × ByteArray × Nat × Option FieldType × Nat × Bool × Nat × Nat × Nat
def ax_m0 : ax_Mt := (1, ⟨"GivenSearchModel", "isIn", "(III)Z"⟩, prog_13_method_1_code, 3, some .boolean, 3, true, 1112, 1111, 0)
def ax_m1 : ax_Mt := (1, ⟨"GivenSearchModel", "has", "(II)Z"⟩, prog_13_method_2_code, 2, some .boolean, 2, true, 1235, 1234, 0)
def ax_m2 : ax_Mt := (1, ⟨"GivenSearchModel", "bits", "(I)I"⟩, prog_13_method_3_code, 3, some .int, 1, true, 1224, 1223, 0)
def ax_m3 : ax_Mt := (1, ⟨"GivenSearchModel", "con", "(II)I"⟩, prog_13_method_4_code, 2, some .int, 2, true, 1156, 1155, 0)
def ax_m4 : ax_Mt := (1, ⟨"GivenSearchModel", "var", "(I)I"⟩, prog_13_method_5_code, 1, some .int, 1, true, 1153, 1152, 0)
def ax_m5 : ax_Mt := (1, ⟨"GivenSearchModel", "partsOf", "(I)I"⟩, prog_13_method_6_code, 1, some .int, 1, true, 1185, 1184, 0)
def ax_m6 : ax_Mt := (1, ⟨"GivenSearchModel", "four", "(I)V"⟩, prog_13_method_7_code, 3, none, 1, false, 1105, 1103, 52)
def ax_m7 : ax_Mt := (1, ⟨"GivenSearchModel", "feed", "(IIIII)I"⟩, prog_13_method_8_code, 6, some .int, 5, false, 1100, 1098, 1222)
def ax_m8 : ax_Mt := (1, ⟨"GivenSearchModel", "end", "(I)I"⟩, prog_13_method_9_code, 2, some .int, 1, false, 1109, 1107, 1231)
def ax_m9 : ax_Mt := (1, ⟨"GivenSearchModel", "here", "()I"⟩, prog_13_method_10_code, 1, some .int, 0, false, 1132, 1131, 56)
def ax_m10 : ax_Mt := (1, ⟨"GivenSearchModel", "fails", "(I)Z"⟩, prog_13_method_11_code, 2, some .boolean, 1, false, 1136, 1135, 57)
def ax_m11 : ax_Mt := (1, ⟨"GivenSearchModel", "takes", "(I)Z"⟩, prog_13_method_12_code, 2, some .boolean, 1, false, 1171, 1170, 62)
def ax_m12 : ax_Mt := (1, ⟨"GivenSearchModel", "isVar", "(I)Z"⟩, prog_13_method_13_code, 1, some .boolean, 1, true, 1147, 1146, 0)
def ax_m13 : ax_Mt := (1, ⟨"GivenSearchModel", "isCon", "(I)Z"⟩, prog_13_method_14_code, 1, some .boolean, 1, true, 1150, 1149, 0)
def ax_m14 : ax_Mt := (1, ⟨"GivenSearchModel", "readType", "()Z"⟩, prog_13_method_15_code, 3, some .boolean, 0, false, 1144, 1143, 59)
def ax_m15 : ax_Mt := (1, ⟨"GivenSearchModel", "hasMore", "(Z)Z"⟩, prog_13_method_16_code, 3, some .boolean, 1, false, 1160, 1159, 60)
def ax_m16 : ax_Mt := (1, ⟨"GivenSearchModel", "copy", "([III[II)V"⟩, prog_13_method_17_code, 6, none, 5, true, 1167, 1166, 0)
def ax_m17 : ax_Mt := (1, ⟨"GivenSearchModel", "layType", "(I)V"⟩, prog_13_method_18_code, 3, none, 1, false, 1164, 1163, 61)
def ax_m18 : ax_Mt := (1, ⟨"GivenSearchModel", "readGiven", "()Z"⟩, prog_13_method_19_code, 3, some .boolean, 0, false, 1140, 1139, 58)
def ax_m19 : ax_Mt := (1, ⟨"GivenSearchModel", "openScope", "()Z"⟩, prog_13_method_20_code, 1, some .boolean, 0, false, 1128, 1127, 55)
def ax_m20 : ax_Mt := (1, ⟨"GivenSearchModel", "readScopes", "()Z"⟩, prog_13_method_21_code, 2, some .boolean, 0, false, 1120, 1119, 53)
def ax_m21 : ax_Mt := (1, ⟨"GivenSearchModel", "beginText", "()V"⟩, prog_13_method_22_code, 1, none, 0, false, 1124, 1123, 54)
def ax_m22 : ax_Mt := (1, ⟨"GivenSearchModel", "scopes", "()I"⟩, prog_13_method_23_code, 4, some .int, 0, false, 1116, 1114, 1238)
def ax_m23 : ax_Mt := (1, ⟨"GivenSearchModel", "fault", "()I"⟩, prog_13_method_24_code, 1, some .int, 0, false, 1193, 1191, 1315)
def ax_m24 : ax_Mt := (1, ⟨"GivenSearchModel", "isScope", "(I)Z"⟩, prog_13_method_25_code, 2, some .boolean, 1, false, 1205, 1204, 66)
def ax_m25 : ax_Mt := (1, ⟨"GivenSearchModel", "isGiven", "(I)Z"⟩, prog_13_method_26_code, 2, some .boolean, 1, false, 1217, 1216, 68)
def ax_m26 : ax_Mt := (1, ⟨"GivenSearchModel", "is", "(I)I"⟩, prog_13_method_27_code, 4, some .int, 1, false, 1197, 1195, 1319)
def ax_m27 : ax_Mt := (1, ⟨"GivenSearchModel", "liesIn", "(I)I"⟩, prog_13_method_28_code, 4, some .int, 1, false, 1209, 1208, 67)
def ax_m28 : ax_Mt := (1, ⟨"GivenSearchModel", "scope", "(II)I"⟩, prog_13_method_29_code, 5, some .int, 2, false, 1201, 1199, 1323)
def ax_m29 : ax_Mt := (1, ⟨"GivenSearchModel", "varsOf", "(III)I"⟩, prog_13_method_30_code, 7, some .int, 3, false, 1221, 1220, 69)
def ax_m30 : ax_Mt := (1, ⟨"GivenSearchModel", "needsVars", "(I)I"⟩, prog_13_method_31_code, 2, some .int, 1, false, 1228, 1227, 70)
def ax_m31 : ax_Mt := (1, ⟨"GivenSearchModel", "given", "(II)I"⟩, prog_13_method_32_code, 5, some .int, 2, false, 1213, 1211, 1335)
def ax_m32 : ax_Mt := (1, ⟨"GivenSearchModel", "out", "(IZ)Z"⟩, prog_13_method_33_code, 3, some .boolean, 2, false, 1232, 1230, 1354)
def ax_m33 : ax_Mt := (1, ⟨"GivenSearchModel", "shut", "(IZ)Z"⟩, prog_13_method_34_code, 3, some .boolean, 2, false, 1239, 1237, 1361)
def ax_m34 : ax_Mt := (1, ⟨"GivenSearchModel", "behind", "([II)I"⟩, prog_13_method_35_code, 4, some .int, 2, true, 1182, 1181, 0)
def ax_m35 : ax_Mt := (1, ⟨"GivenSearchModel", "isPut", "(IIII)Z"⟩, prog_13_method_36_code, 5, some .boolean, 4, false, 1175, 1174, 63)
def ax_m36 : ax_Mt := (1, ⟨"GivenSearchModel", "isPutIn", "([II[III)Z"⟩, prog_13_method_37_code, 11, some .boolean, 5, false, 1179, 1178, 64)
def ax_m37 : ax_Mt := (1, ⟨"GivenSearchModel", "special", "(II)I"⟩, prog_13_method_38_code, 4, some .int, 2, false, 1243, 1241, 1365)
def ax_m38 : ax_Mt := (1, ⟨"GivenSearchModel", "clashes", "()I"⟩, prog_13_method_39_code, 4, some .int, 0, false, 1283, 1281, 1405)
def ax_m39 : ax_Mt := (1, ⟨"GivenSearchModel", "beginHeap", "()V"⟩, prog_13_method_40_code, 1, none, 0, false, 1247, 1246, 71)
def ax_m40 : ax_Mt := (1, ⟨"GivenSearchModel", "unknown", "()I"⟩, prog_13_method_41_code, 1, some .int, 0, false, 1263, 1262, 75)
def ax_m41 : ax_Mt := (1, ⟨"GivenSearchModel", "newUnknowns", "()V"⟩, prog_13_method_42_code, 2, none, 0, false, 1255, 1254, 73)
def ax_m42 : ax_Mt := (1, ⟨"GivenSearchModel", "layRow", "([III)I"⟩, prog_13_method_43_code, 7, some .int, 3, false, 1259, 1258, 74)
def ax_m43 : ax_Mt := (1, ⟨"GivenSearchModel", "layGiven", "(II)I"⟩, prog_13_method_44_code, 3, some .int, 2, false, 1251, 1250, 72)
def ax_m44 : ax_Mt := (1, ⟨"GivenSearchModel", "seen", "(I)I"⟩, prog_13_method_45_code, 3, some .int, 1, false, 1271, 1270, 77)
def ax_m45 : ax_Mt := (1, ⟨"GivenSearchModel", "tie", "(II)V"⟩, prog_13_method_46_code, 3, none, 2, false, 1279, 1278, 79)
def ax_m46 : ax_Mt := (1, ⟨"GivenSearchModel", "untie", "(I)V"⟩, prog_13_method_47_code, 2, none, 1, false, 1772, 1771, 88)
def ax_m47 : ax_Mt := (1, ⟨"GivenSearchModel", "isWithin", "(II)Z"⟩, prog_13_method_48_code, 6, some .boolean, 2, false, 1275, 1274, 78)
def ax_m48 : ax_Mt := (1, ⟨"GivenSearchModel", "isUnified", "(II)Z"⟩, prog_13_method_49_code, 8, some .boolean, 2, false, 1267, 1266, 76)
def ax_m49 : ax_Mt := (1, ⟨"GivenSearchModel", "orderOf", "(I)I"⟩, prog_13_method_50_code, 3, some .int, 1, false, 1756, 1755, 84)
def ax_m50 : ax_Mt := (1, ⟨"GivenSearchModel", "layOut", "(I)I"⟩, prog_13_method_51_code, 6, some .int, 1, false, 1752, 1751, 83)
def ax_m51 : ax_Mt := (1, ⟨"GivenSearchModel", "<init>", "()V"⟩, prog_13_method_52_code, 2, none, 0, false, 1288, 1287, 0)
def ax_m52 : ax_Mt := (1, ⟨"GivenSearchModel", "readWhole", "()Z"⟩, prog_13_method_53_code, 1, some .boolean, 0, false, 1736, 1735, 80)
def ax_m53 : ax_Mt := (1, ⟨"GivenSearchModel", "type", "(I)I"⟩, prog_13_method_54_code, 3, some .int, 1, false, 1732, 1730, 1854)
def ax_m54 : ax_Mt := (1, ⟨"GivenSearchModel", "forget", "()V"⟩, prog_13_method_55_code, 1, none, 0, false, 1189, 1188, 65)
def ax_m55 : ax_Mt := (1, ⟨"GivenSearchModel", "memoryOf", "(I)I"⟩, prog_13_method_56_code, 5, some .int, 1, false, 1760, 1759, 85)
def ax_m56 : ax_Mt := (1, ⟨"GivenSearchModel", "openLevel", "(III)V"⟩, prog_13_method_57_code, 4, none, 3, false, 1764, 1763, 86)
def ax_m57 : ax_Mt := (1, ⟨"GivenSearchModel", "candidatesOf", "(II)I"⟩, prog_13_method_58_code, 8, some .int, 2, false, 1768, 1767, 87)
def ax_m58 : ax_Mt := (1, ⟨"GivenSearchModel", "bestOf", "(I)I"⟩, prog_13_method_59_code, 6, some .int, 1, false, 1780, 1779, 90)
def ax_m59 : ax_Mt := (1, ⟨"GivenSearchModel", "newRound", "(I)V"⟩, prog_13_method_60_code, 2, none, 1, false, 1776, 1775, 89)
def ax_m60 : ax_Mt := (1, ⟨"GivenSearchModel", "askGoal", "(I)V"⟩, prog_13_method_61_code, 6, none, 1, false, 1748, 1747, 82)
def ax_m61 : ax_Mt := (1, ⟨"GivenSearchModel", "isCut", "(II)Z"⟩, prog_13_method_62_code, 6, some .boolean, 2, false, 1804, 1803, 96)
def ax_m62 : ax_Mt := (1, ⟨"GivenSearchModel", "tryGiven", "(II)V"⟩, prog_13_method_63_code, 5, none, 2, false, 1808, 1807, 97)
def ax_m63 : ax_Mt := (1, ⟨"GivenSearchModel", "goOn", "(I)V"⟩, prog_13_method_64_code, 2, none, 1, false, 1796, 1795, 94)
def ax_m64 : ax_Mt := (1, ⟨"GivenSearchModel", "back", "(I)V"⟩, prog_13_method_65_code, 2, none, 1, false, 1792, 1791, 93)
def ax_m65 : ax_Mt := (1, ⟨"GivenSearchModel", "didWell", "(I)V"⟩, prog_13_method_66_code, 4, none, 1, false, 1800, 1799, 95)
def ax_m66 : ax_Mt := (1, ⟨"GivenSearchModel", "newNode", "(I)I"⟩, prog_13_method_67_code, 5, some .int, 1, false, 1816, 1815, 99)
def ax_m67 : ax_Mt := (1, ⟨"GivenSearchModel", "step", "()V"⟩, prog_13_method_68_code, 3, none, 0, false, 1784, 1783, 91)
def ax_m68 : ax_Mt := (1, ⟨"GivenSearchModel", "comeBack", "(I)V"⟩, prog_13_method_69_code, 2, none, 1, false, 1788, 1787, 92)
def ax_m69 : ax_Mt := (1, ⟨"GivenSearchModel", "leaveFound", "(I)V"⟩, prog_13_method_70_code, 3, none, 1, false, 1812, 1811, 98)
def ax_m70 : ax_Mt := (1, ⟨"GivenSearchModel", "leave", "(II)V"⟩, prog_13_method_71_code, 3, none, 2, false, 1820, 1819, 100)
def ax_m71 : ax_Mt := (1, ⟨"GivenSearchModel", "remember", "(II)V"⟩, prog_13_method_72_code, 4, none, 2, false, 1824, 1823, 101)
def ax_m72 : ax_Mt := (1, ⟨"GivenSearchModel", "keep", "(I)I"⟩, prog_13_method_73_code, 7, some .int, 1, false, 1828, 1827, 102)
def ax_m73 : ax_Mt := (1, ⟨"GivenSearchModel", "keepOne", "(I)I"⟩, prog_13_method_74_code, 5, some .int, 1, false, 1832, 1831, 103)
def ax_m74 : ax_Mt := (1, ⟨"GivenSearchModel", "askAll", "(Z)I"⟩, prog_13_method_75_code, 2, some .int, 1, false, 1744, 1743, 81)
def ax_m75 : ax_Mt := (1, ⟨"GivenSearchModel", "layNodeGoal", "(II)V"⟩, prog_13_method_76_code, 3, none, 2, false, 1844, 1843, 106)
def ax_m76 : ax_Mt := (1, ⟨"GivenSearchModel", "layTree", "(I)V"⟩, prog_13_method_77_code, 6, none, 1, false, 1840, 1839, 105)
def ax_m77 : ax_Mt := (1, ⟨"GivenSearchModel", "layAnswer", "(I)V"⟩, prog_13_method_78_code, 2, none, 1, false, 1848, 1847, 107)
def ax_m78 : ax_Mt := (1, ⟨"GivenSearchModel", "layAsking", "(I)V"⟩, prog_13_method_79_code, 4, none, 1, false, 1836, 1835, 104)
def ax_m79 : ax_Mt := (1, ⟨"GivenSearchModel", "ask", "(I)I"⟩, prog_13_method_80_code, 4, some .int, 1, false, 1740, 1738, 1862)
def ax_m80 : ax_Mt := (1, ⟨"GivenSearchModel", "asked", "(I)I"⟩, prog_13_method_81_code, 2, some .int, 1, false, 1852, 1850, 1974)
def ax_m81 : ax_Mt := (1, ⟨"GivenSearchModel", "wasFound", "()Z"⟩, prog_13_method_82_code, 1, some .boolean, 0, false, 1864, 1863, 109)
def ax_m82 : ax_Mt := (1, ⟨"GivenSearchModel", "isNode", "(I)Z"⟩, prog_13_method_83_code, 2, some .boolean, 1, false, 1860, 1859, 108)
def ax_m83 : ax_Mt := (1, ⟨"GivenSearchModel", "node", "(II)I"⟩, prog_13_method_84_code, 3, some .int, 2, false, 1856, 1854, 1978)
def ax_m84 : ax_Mt := (1, ⟨"GivenSearchModel", "put", "(I)V"⟩, prog_13_method_85_code, 2, none, 1, false, 1876, 1875, 111)
def ax_m85 : ax_Mt := (1, ⟨"GivenSearchModel", "putNumber", "(I)V"⟩, prog_13_method_86_code, 2, none, 1, false, 1880, 1879, 112)
def ax_m86 : ax_Mt := (1, ⟨"GivenSearchModel", "writeRow", "([III)I"⟩, prog_13_method_87_code, 7, some .int, 3, false, 1872, 1871, 110)
def ax_m87 : ax_Mt := (1, ⟨"GivenSearchModel", "closeAll", "(I)I"⟩, prog_13_method_88_code, 3, some .int, 1, false, 1884, 1883, 113)
def ax_m88 : ax_Mt := (1, ⟨"GivenSearchModel", "writeGoal", "(I)I"⟩, prog_13_method_89_code, 2, some .int, 1, false, 1868, 1866, 1990)
def ax_m89 : ax_Mt := (1, ⟨"GivenSearchModel", "writeAnswer", "()I"⟩, prog_13_method_90_code, 1, some .int, 0, false, 1888, 1886, 2010)
def ax_m90 : ax_Mt := (1, ⟨"GivenSearchModel", "writeTree", "()I"⟩, prog_13_method_91_code, 3, some .int, 0, false, 1892, 1890, 2014)
def ax_m91 : ax_Mt := (1, ⟨"GivenSearchModel", "both", "(I)I"⟩, prog_13_method_92_code, 2, some .int, 1, false, 1896, 1894, 2018)
def ax_m92 : ax_Mt := (1, ⟨"GivenSearchModel", "octet", "(I)I"⟩, prog_13_method_93_code, 2, some .int, 1, false, 1900, 1898, 2022)
def ax_m93 : ax_Mt := (1, ⟨"GivenSearchModel", "endWith", "(I)I"⟩, prog_13_method_94_code, 4, some .int, 1, false, 1908, 1907, 114)
def ax_m94 : ax_Mt := (1, ⟨"GivenSearchModel", "without", "(I)I"⟩, prog_13_method_95_code, 2, some .int, 1, false, 1904, 1902, 2026)
def ax_m95 : ax_Mt := (1, ⟨"GivenSearchModel", "needed", "()I"⟩, prog_13_method_96_code, 3, some .int, 0, false, 1912, 1910, 2034)
def ax_m96 : ax_Mt := (1, ⟨"GivenSearchModel", "mends", "()I"⟩, prog_13_method_97_code, 3, some .int, 0, false, 1916, 1914, 2038)
def ax_m97 : ax_Mt := (1, ⟨"GivenSearchModel", "isTold", "(I)Z"⟩, prog_13_method_98_code, 1, some .boolean, 1, true, 1923, 1922, 0)
def ax_m98 : ax_Mt := (1, ⟨"GivenSearchModel", "areUnified", "(II)Z"⟩, prog_13_method_99_code, 3, some .boolean, 2, false, 1927, 1926, 115)
def ax_m99 : ax_Mt := (1, ⟨"GivenSearchModel", "coverOf", "(I)I"⟩, prog_13_method_100_code, 4, some .int, 1, false, 1931, 1930, 116)
def ax_m100 : ax_Mt := (1, ⟨"GivenSearchModel", "relation", "(III)I"⟩, prog_13_method_101_code, 5, some .int, 3, false, 1920, 1918, 2042)
def ax_m101 : ax_Mt := (1, ⟨"GivenSearchModel", "unified", "(II)I"⟩, prog_13_method_102_code, 3, some .int, 2, false, 1935, 1933, 2057)
def ax_m102 : ax_Mt := (1, ⟨"GivenSearchModel", "candidates", "(III)I"⟩, prog_13_method_103_code, 11, some .int, 3, false, 1939, 1937, 2061)
def ax_m103 : ax_Mt := (1, ⟨"GivenSearchModel", "allAround", "(I)I"⟩, prog_13_method_104_code, 5, some .int, 1, false, 1947, 1946, 117)
def ax_m104 : ax_Mt := (1, ⟨"GivenSearchModel", "openValue", "(II)V"⟩, prog_13_method_105_code, 3, none, 2, false, 1955, 1954, 119)
def ax_m105 : ax_Mt := (1, ⟨"GivenSearchModel", "least", "(J)J"⟩, prog_13_method_106_code, 2, some .long, 1, true, 1970, 1969, 0)
def ax_m106 : ax_Mt := (1, ⟨"GivenSearchModel", "nextGiven", "(II)Z"⟩, prog_13_method_107_code, 6, some .boolean, 2, false, 1959, 1958, 120)
def ax_m107 : ax_Mt := (1, ⟨"GivenSearchModel", "backValue", "(I)V"⟩, prog_13_method_108_code, 2, none, 1, false, 1963, 1962, 121)
def ax_m108 : ax_Mt := (1, ⟨"GivenSearchModel", "valuesOf", "(III)I"⟩, prog_13_method_109_code, 6, some .int, 3, false, 1951, 1950, 118)
def ax_m109 : ax_Mt := (1, ⟨"GivenSearchModel", "upWith", "(IJ)I"⟩, prog_13_method_110_code, 4, some .int, 2, false, 1967, 1966, 122)
def ax_m110 : ax_Mt := (1, ⟨"GivenSearchModel", "values", "(III)I"⟩, prog_13_method_111_code, 6, some .int, 3, false, 1943, 1941, 2065)
def ax_m111 : ax_Mt := (12, ⟨"java/lang/Integer", "bitCount", "(I)I"⟩, prog_15_method_49_code, 1, some .int, 1, true, 573, 572, 0)
def ax_m112 : ax_Mt := (14, ⟨"java/util/Arrays", "fill", "([II)V"⟩, prog_18_method_103_code, 4, none, 2, true, 530, 529, 0)
def ax_m113 : ax_Mt := (14, ⟨"java/util/Arrays", "copyOf", "([II)[I"⟩, prog_18_method_123_code, 3, some (.array .int), 2, true, 657, 656, 0)
def ax_m114 : ax_Mt := (0, ⟨"GivenSearch$Flat", "<init>", "(I)V"⟩, prog_2_method_1_code, 2, none, 1, false, 52, 51, 0)
def ax_m115 : ax_Mt := (0, ⟨"GivenSearch$Flat", "clear", "()V"⟩, prog_2_method_2_code, 1, none, 0, false, 475, 473, 597)
def ax_m116 : ax_Mt := (0, ⟨"GivenSearch$Flat", "add", "(I)V"⟩, prog_2_method_3_code, 2, none, 1, false, 352, 350, 474)
def ax_m117 : ax_Mt := (0, ⟨"GivenSearch$Flat", "at", "(I)I"⟩, prog_2_method_4_code, 2, some .int, 1, false, 500, 498, 622)
def ax_m118 : ax_Mt := (0, ⟨"GivenSearch$Flat", "addPart", "(I)V"⟩, prog_2_method_5_code, 2, none, 1, false, 507, 505, 629)
def ax_m119 : ax_Mt := (0, ⟨"GivenSearch$Flat", "partsAt", "(I)I"⟩, prog_2_method_6_code, 2, some .int, 1, false, 496, 494, 618)
def ax_m120 : ax_Mt := (0, ⟨"GivenSearch$Flat", "partsOf", "(I)I"⟩, prog_2_method_7_code, 1, some .int, 1, true, 503, 502, 0)
def ax_m121 : ax_Mt := (0, ⟨"GivenSearch$Flat", "length", "()I"⟩, prog_2_method_8_code, 1, some .int, 0, false, 511, 510, 9)
def ax_m122 : ax_Mt := (0, ⟨"GivenSearch$Flat", "take", "(LGivenSearch$Flat;)V"⟩, prog_2_method_9_code, 3, none, 1, false, 744, 742, 866)
def ax_m123 : ax_Mt := (0, ⟨"GivenSearch$Flat", "isSame", "(LGivenSearch$Flat;)Z"⟩, prog_2_method_10_code, 3, some .boolean, 1, false, 850, 848, 972)
def ax_m124 : ax_Mt := (0, ⟨"GivenSearch$Flat", "isClosed", "()Z"⟩, prog_2_method_11_code, 2, some .boolean, 0, false, 842, 840, 964)
def ax_m125 : ax_Mt := (0, ⟨"GivenSearch$Flat", "cover", "()I"⟩, prog_2_method_12_code, 3, some .int, 0, false, 768, 766, 890)
def ax_m126 : ax_Mt := (0, ⟨"GivenSearch$Flat", "varLetters", "()I"⟩, prog_2_method_13_code, 3, some .int, 0, false, 593, 591, 715)
def ax_m127 : ax_Mt := (0, ⟨"GivenSearch$Flat", "behind", "(I)I"⟩, prog_2_method_14_code, 4, some .int, 1, false, 539, 537, 661)
def ax_m128 : ax_Mt := (2, ⟨"GivenSearch$Forest", "<init>", "()V"⟩, prog_3_method_1_code, 1, none, 0, false, 223, 222, 0)
def ax_m129 : ax_Mt := (2, ⟨"GivenSearch$Forest", "clear", "()V"⟩, prog_3_method_2_code, 1, none, 0, false, 552, 550, 674)
def ax_m130 : ax_Mt := (2, ⟨"GivenSearch$Forest", "add", "(LGivenSearch$Flat;LGivenSearch$Nodes;III)V"⟩, prog_3_method_3_code, 8, none, 5, false, 951, 949, 1073)
def ax_m131 : ax_Mt := (2, ⟨"GivenSearch$Forest", "addSign", "(I)V"⟩, prog_3_method_4_code, 2, none, 1, false, 960, 959, 45)
def ax_m132 : ax_Mt := (2, ⟨"GivenSearch$Forest", "goalInto", "(ILGivenSearch$Flat;)V"⟩, prog_3_method_5_code, 7, none, 2, false, 974, 972, 1096)
def ax_m133 : ax_Mt := (2, ⟨"GivenSearch$Forest", "deepest", "()I"⟩, prog_3_method_6_code, 3, some .int, 0, false, 986, 984, 1108)
def ax_m134 : ax_Mt := (2, ⟨"GivenSearch$Forest", "deepOf", "(I)I"⟩, prog_3_method_7_code, 5, some .int, 1, false, 990, 988, 1112)
def ax_m135 : ax_Mt := (2, ⟨"GivenSearch$Forest", "unlikeGivens", "()I"⟩, prog_3_method_8_code, 3, some .int, 0, false, 995, 993, 1117)
def ax_m136 : ax_Mt := (3, ⟨"GivenSearch$Match", "<init>", "()V"⟩, prog_4_method_1_code, 1, none, 0, false, 99, 98, 0)
def ax_m137 : ax_Mt := (3, ⟨"GivenSearch$Match", "becomes", "(LGivenSearch$Flat;LGivenSearch$Flat;)Z"⟩, prog_4_method_2_code, 6, some .boolean, 2, false, 527, 525, 649)
def ax_m138 : ax_Mt := (3, ⟨"GivenSearch$Match", "put", "(ILGivenSearch$Flat;I)Z"⟩, prog_4_method_3_code, 7, some .boolean, 3, false, 535, 534, 10)
def ax_m139 : ax_Mt := (4, ⟨"GivenSearch$Memory", "<init>", "()V"⟩, prog_5_method_1_code, 1, none, 0, false, 217, 216, 0)
def ax_m140 : ax_Mt := (4, ⟨"GivenSearch$Memory", "forget", "()V"⟩, prog_5_method_2_code, 1, none, 0, false, 548, 546, 670)
def ax_m141 : ax_Mt := (4, ⟨"GivenSearch$Memory", "find", "(ILGivenSearch$Flat;)I"⟩, prog_5_method_3_code, 4, some .int, 2, false, 846, 844, 968)
def ax_m142 : ax_Mt := (4, ⟨"GivenSearch$Memory", "takes", "(ILGivenSearch$Flat;)Z"⟩, prog_5_method_4_code, 3, some .boolean, 2, false, 936, 934, 1058)
def ax_m143 : ax_Mt := (4, ⟨"GivenSearch$Memory", "add", "(ILGivenSearch$Flat;I)V"⟩, prog_5_method_5_code, 4, none, 3, false, 941, 939, 1063)
def ax_m144 : ax_Mt := (4, ⟨"GivenSearch$Memory", "nodesOf", "(I)I"⟩, prog_5_method_6_code, 2, some .int, 1, false, 858, 856, 980)
def ax_m145 : ax_Mt := (4, ⟨"GivenSearch$Memory", "fromOf", "(I)I"⟩, prog_5_method_7_code, 2, some .int, 1, false, 970, 968, 1092)
def ax_m146 : ax_Mt := (5, ⟨"GivenSearch$Nodes", "<init>", "()V"⟩, prog_6_method_1_code, 1, none, 0, false, 229, 228, 0)
def ax_m147 : ax_Mt := (5, ⟨"GivenSearch$Nodes", "has", "(I)Z"⟩, prog_6_method_2_code, 2, some .boolean, 1, false, 1008, 1006, 1130)
def ax_m148 : ax_Mt := (5, ⟨"GivenSearch$Nodes", "get", "(II)I"⟩, prog_6_method_3_code, 4, some .int, 2, false, 914, 912, 1036)
def ax_m149 : ax_Mt := (5, ⟨"GivenSearch$Nodes", "set", "(III)V"⟩, prog_6_method_4_code, 5, none, 3, false, 838, 836, 960)
def ax_m150 : ax_Mt := (5, ⟨"GivenSearch$Nodes", "add", "()I"⟩, prog_6_method_5_code, 2, some .int, 0, false, 832, 830, 954)
def ax_m151 : ax_Mt := (6, ⟨"GivenSearch$Search", "<init>", "(LGivenSearch$Text;)V"⟩, prog_7_method_1_code, 2, none, 1, false, 153, 152, 0)
def ax_m152 : ax_Mt := (6, ⟨"GivenSearch$Search", "tell", "(LGivenSearch$Text;)V"⟩, prog_7_method_2_code, 2, none, 1, false, 544, 542, 666)
def ax_m153 : ax_Mt := (6, ⟨"GivenSearch$Search", "begin", "(III)V"⟩, prog_7_method_3_code, 4, none, 3, false, 814, 812, 936)
def ax_m154 : ax_Mt := (6, ⟨"GivenSearch$Search", "run", "(LGivenSearch$Flat;IIIZ)I"⟩, prog_7_method_4_code, 7, some .int, 5, false, 810, 808, 932)
def ax_m155 : ax_Mt := (6, ⟨"GivenSearch$Search", "usable", "(I)I"⟩, prog_7_method_5_code, 2, some .int, 1, false, 874, 872, 996)
def ax_m156 : ax_Mt := (6, ⟨"GivenSearch$Search", "usableFrom", "(I)I"⟩, prog_7_method_6_code, 5, some .int, 1, false, 1079, 1077, 1201)
def ax_m157 : ax_Mt := (6, ⟨"GivenSearch$Search", "suited", "(II)I"⟩, prog_7_method_7_code, 8, some .int, 2, false, 870, 868, 992)
def ax_m158 : ax_Mt := (6, ⟨"GivenSearch$Search", "askGoal", "(IIII)I"⟩, prog_7_method_8_code, 10, some .int, 4, false, 819, 818, 32)
def ax_m159 : ax_Mt := (6, ⟨"GivenSearch$Search", "mayAsk", "(II)Z"⟩, prog_7_method_9_code, 3, some .boolean, 2, false, 823, 822, 33)
def ax_m160 : ax_Mt := (6, ⟨"GivenSearch$Search", "addToPlan", "(III)I"⟩, prog_7_method_10_code, 5, some .int, 3, false, 828, 827, 34)
def ax_m161 : ax_Mt := (6, ⟨"GivenSearch$Search", "meet", "(II)I"⟩, prog_7_method_11_code, 3, some .int, 2, false, 854, 853, 35)
def ax_m162 : ax_Mt := (6, ⟨"GivenSearch$Search", "remember", "(III)V"⟩, prog_7_method_12_code, 4, none, 3, false, 932, 931, 44)
def ax_m163 : ax_Mt := (6, ⟨"GivenSearch$Search", "seek", "(III)I"⟩, prog_7_method_13_code, 7, some .int, 3, false, 862, 861, 36)
def ax_m164 : ax_Mt := (6, ⟨"GivenSearch$Search", "seekAt", "(IIII)I"⟩, prog_7_method_14_code, 9, some .int, 4, false, 866, 865, 37)
def ax_m165 : ax_Mt := (6, ⟨"GivenSearch$Search", "tryBest", "(IIII)I"⟩, prog_7_method_15_code, 14, some .int, 4, false, 896, 895, 39)
def ax_m166 : ax_Mt := (6, ⟨"GivenSearch$Search", "tellBoth", "(III)V"⟩, prog_7_method_16_code, 4, none, 3, false, 923, 922, 43)
def ax_m167 : ax_Mt := (6, ⟨"GivenSearch$Search", "isCut", "(III)Z"⟩, prog_7_method_17_code, 5, some .boolean, 3, false, 900, 899, 40)
def ax_m168 : ax_Mt := (6, ⟨"GivenSearch$Search", "tryGiven", "(IIII)I"⟩, prog_7_method_18_code, 8, some .int, 4, false, 905, 904, 41)
def ax_m169 : ax_Mt := (6, ⟨"GivenSearch$Search", "buildGiven", "(II)I"⟩, prog_7_method_19_code, 5, some .int, 2, false, 909, 908, 42)
def ax_m170 : ax_Mt := (6, ⟨"GivenSearch$Search", "plant", "(ILGivenSearch$Forest;)V"⟩, prog_7_method_20_code, 10, none, 2, false, 947, 945, 1069)
def ax_m171 : ax_Mt := (6, ⟨"GivenSearch$Search", "plantRemembered", "(ILGivenSearch$Forest;III)V"⟩, prog_7_method_21_code, 11, none, 5, false, 966, 965, 46)
def ax_m172 : ax_Mt := (6, ⟨"GivenSearch$Search", "join", "(LGivenSearch$Flat;LGivenSearch$Flat;LGivenSearch$Flat;)Z"⟩, prog_7_method_22_code, 6, some .boolean, 3, false, 753, 751, 875)
def ax_m173 : ax_Mt := (6, ⟨"GivenSearch$Search", "canMeet", "(LGivenSearch$Flat;LGivenSearch$Flat;)Z"⟩, prog_7_method_23_code, 4, some .boolean, 2, false, 632, 630, 754)
def ax_m174 : ax_Mt := (6, ⟨"GivenSearch$Search", "countValues", "(III)I"⟩, prog_7_method_24_code, 4, some .int, 3, false, 1083, 1081, 1205)
def ax_m175 : ax_Mt := (6, ⟨"GivenSearch$Search", "count", "(III)I"⟩, prog_7_method_25_code, 7, some .int, 3, false, 1088, 1087, 50)
def ax_m176 : ax_Mt := (6, ⟨"GivenSearch$Search", "countBy", "(IIII)J"⟩, prog_7_method_26_code, 12, some .long, 4, false, 1093, 1092, 51)
def ax_m177 : ax_Mt := (7, ⟨"GivenSearch$Tape", "<init>", "()V"⟩, prog_8_method_1_code, 1, none, 0, false, 29, 28, 0)
def ax_m178 : ax_Mt := (7, ⟨"GivenSearch$Tape", "addFour", "(I)V"⟩, prog_8_method_2_code, 3, none, 1, false, 415, 413, 537)
def ax_m179 : ax_Mt := (7, ⟨"GivenSearch$Tape", "next", "()I"⟩, prog_8_method_3_code, 1, some .int, 0, false, 439, 438, 1)
def ax_m180 : ax_Mt := (7, ⟨"GivenSearch$Tape", "isNext", "(C)Z"⟩, prog_8_method_4_code, 2, some .boolean, 1, false, 435, 434, 0)
def ax_m181 : ax_Mt := (7, ⟨"GivenSearch$Tape", "passed", "(C)Z"⟩, prog_8_method_5_code, 2, some .boolean, 1, false, 455, 454, 2)
def ax_m182 : ax_Mt := (7, ⟨"GivenSearch$Tape", "isConNext", "()Z"⟩, prog_8_method_6_code, 1, some .boolean, 0, false, 479, 478, 5)
def ax_m183 : ax_Mt := (7, ⟨"GivenSearch$Tape", "isVarNext", "()Z"⟩, prog_8_method_7_code, 1, some .boolean, 0, false, 483, 482, 6)
def ax_m184 : ax_Mt := (7, ⟨"GivenSearch$Tape", "readWhole", "(LGivenSearch$Flat;)Z"⟩, prog_8_method_8_code, 2, some .boolean, 1, false, 740, 738, 862)
def ax_m185 : ax_Mt := (7, ⟨"GivenSearch$Tape", "readOne", "(LGivenSearch$Flat;)Z"⟩, prog_8_method_9_code, 5, some .boolean, 1, false, 471, 470, 4)
def ax_m186 : ax_Mt := (7, ⟨"GivenSearch$Tape", "close", "(I)I"⟩, prog_8_method_10_code, 3, some .int, 1, false, 488, 487, 7)
def ax_m187 : ax_Mt := (7, ⟨"GivenSearch$Tape", "nextPart", "(LGivenSearch$Flat;I)Z"⟩, prog_8_method_11_code, 4, some .boolean, 2, false, 492, 491, 8)
def ax_m188 : ax_Mt := (7, ⟨"GivenSearch$Tape", "readText", "(LGivenSearch$Text;)Z"⟩, prog_8_method_12_code, 4, some .boolean, 1, false, 427, 425, 549)
def ax_m189 : ax_Mt := (7, ⟨"GivenSearch$Tape", "readGiven", "(LGivenSearch$Text;I)Z"⟩, prog_8_method_13_code, 5, some .boolean, 2, false, 463, 462, 3)
def ax_m190 : ax_Mt := (8, ⟨"GivenSearch$Terms", "<init>", "()V"⟩, prog_9_method_1_code, 1, none, 0, false, 159, 158, 0)
def ax_m191 : ax_Mt := (8, ⟨"GivenSearch$Terms", "clear", "()V"⟩, prog_9_method_2_code, 1, none, 0, false, 636, 634, 758)
def ax_m192 : ax_Mt := (8, ⟨"GivenSearch$Terms", "signOf", "(I)I"⟩, prog_9_method_3_code, 2, some .int, 1, false, 703, 702, 19)
def ax_m193 : ax_Mt := (8, ⟨"GivenSearch$Terms", "isUnknown", "(I)Z"⟩, prog_9_method_4_code, 2, some .boolean, 1, false, 699, 698, 18)
def ax_m194 : ax_Mt := (8, ⟨"GivenSearch$Terms", "partOf", "(II)I"⟩, prog_9_method_5_code, 4, some .int, 2, false, 707, 706, 20)
def ax_m195 : ax_Mt := (8, ⟨"GivenSearch$Terms", "setPart", "(III)V"⟩, prog_9_method_6_code, 5, none, 3, false, 673, 672, 13)
def ax_m196 : ax_Mt := (8, ⟨"GivenSearch$Terms", "grown", "([II)[I"⟩, prog_9_method_7_code, 2, some (.array .int), 2, true, 654, 653, 0)
def ax_m197 : ax_Mt := (8, ⟨"GivenSearch$Terms", "make", "(I)I"⟩, prog_9_method_8_code, 3, some .int, 1, false, 650, 649, 12)
def ax_m198 : ax_Mt := (8, ⟨"GivenSearch$Terms", "build", "(LGivenSearch$Flat;Z)I"⟩, prog_9_method_9_code, 7, some .int, 2, false, 640, 638, 762)
def ax_m199 : ax_Mt := (8, ⟨"GivenSearch$Terms", "unknown", "(I)I"⟩, prog_9_method_10_code, 2, some .int, 1, false, 646, 645, 11)
def ax_m200 : ax_Mt := (8, ⟨"GivenSearch$Terms", "pushOpen", "(I)V"⟩, prog_9_method_11_code, 2, none, 1, false, 682, 681, 15)
def ax_m201 : ax_Mt := (8, ⟨"GivenSearch$Terms", "popOpen", "()I"⟩, prog_9_method_12_code, 1, some .int, 0, false, 678, 677, 14)
def ax_m202 : ax_Mt := (8, ⟨"GivenSearch$Terms", "pushParts", "(I)V"⟩, prog_9_method_13_code, 3, none, 1, false, 715, 714, 22)
def ax_m203 : ax_Mt := (8, ⟨"GivenSearch$Terms", "solved", "(I)I"⟩, prog_9_method_14_code, 4, some .int, 1, false, 695, 694, 17)
def ax_m204 : ax_Mt := (8, ⟨"GivenSearch$Terms", "unify", "(II)Z"⟩, prog_9_method_15_code, 7, some .boolean, 2, false, 686, 684, 808)
def ax_m205 : ax_Mt := (8, ⟨"GivenSearch$Terms", "pushPair", "(II)V"⟩, prog_9_method_16_code, 3, none, 2, false, 690, 689, 16)
def ax_m206 : ax_Mt := (8, ⟨"GivenSearch$Terms", "pushPairsOfParts", "(II)V"⟩, prog_9_method_17_code, 4, none, 2, false, 723, 722, 24)
def ax_m207 : ax_Mt := (8, ⟨"GivenSearch$Terms", "put", "(II)V"⟩, prog_9_method_18_code, 3, none, 2, false, 719, 718, 23)
def ax_m208 : ax_Mt := (8, ⟨"GivenSearch$Terms", "standsIn", "(II)Z"⟩, prog_9_method_19_code, 5, some .boolean, 2, false, 711, 710, 21)
def ax_m209 : ax_Mt := (8, ⟨"GivenSearch$Terms", "back", "(II)V"⟩, prog_9_method_20_code, 3, none, 2, false, 881, 879, 1003)
def ax_m210 : ax_Mt := (8, ⟨"GivenSearch$Terms", "save", "(I)V"⟩, prog_9_method_21_code, 3, none, 1, false, 918, 916, 1040)
def ax_m211 : ax_Mt := (8, ⟨"GivenSearch$Terms", "putAgain", "(I)V"⟩, prog_9_method_22_code, 3, none, 1, false, 927, 925, 1049)
def ax_m212 : ax_Mt := (8, ⟨"GivenSearch$Terms", "flatten", "(ILGivenSearch$Flat;)V"⟩, prog_9_method_23_code, 5, none, 2, false, 757, 755, 879)
def ax_m213 : ax_Mt := (8, ⟨"GivenSearch$Terms", "nameOf", "(I)I"⟩, prog_9_method_24_code, 3, some .int, 1, false, 762, 761, 26)
def ax_m214 : ax_Mt := (9, ⟨"GivenSearch$Text", "<init>", "()V"⟩, prog_10_method_1_code, 2, none, 0, false, 93, 92, 0)
def ax_m215 : ax_Mt := (9, ⟨"GivenSearch$Text", "clear", "()V"⟩, prog_10_method_2_code, 1, none, 0, false, 431, 429, 553)
def ax_m216 : ax_Mt := (9, ⟨"GivenSearch$Text", "hasScope", "(I)Z"⟩, prog_10_method_3_code, 2, some .boolean, 1, false, 447, 445, 569)
def ax_m217 : ax_Mt := (9, ⟨"GivenSearch$Text", "hasGiven", "(I)Z"⟩, prog_10_method_4_code, 2, some .boolean, 1, false, 588, 586, 710)
def ax_m218 : ax_Mt := (9, ⟨"GivenSearch$Text", "mayOpenIn", "(I)Z"⟩, prog_10_method_5_code, 2, some .boolean, 1, false, 443, 441, 565)
def ax_m219 : ax_Mt := (9, ⟨"GivenSearch$Text", "open", "(I)I"⟩, prog_10_method_6_code, 3, some .int, 1, false, 451, 449, 573)
def ax_m220 : ax_Mt := (9, ⟨"GivenSearch$Text", "aroundOf", "(I)I"⟩, prog_10_method_7_code, 2, some .int, 1, false, 459, 457, 581)
def ax_m221 : ax_Mt := (9, ⟨"GivenSearch$Text", "addGiven", "(II)V"⟩, prog_10_method_8_code, 3, none, 2, false, 518, 516, 640)
def ax_m222 : ax_Mt := (9, ⟨"GivenSearch$Text", "part", "(II)LGivenSearch$Flat;"⟩, prog_10_method_9_code, 4, some (.object "GivenSearch$Flat"), 2, false, 467, 465, 589)
def ax_m223 : ax_Mt := (9, ⟨"GivenSearch$Text", "needsOf", "(I)I"⟩, prog_10_method_10_code, 2, some .int, 1, false, 601, 599, 723)
def ax_m224 : ax_Mt := (9, ⟨"GivenSearch$Text", "needsInAll", "()I"⟩, prog_10_method_11_code, 3, some .int, 0, false, 565, 563, 687)
def ax_m225 : ax_Mt := (9, ⟨"GivenSearch$Text", "needSizes", "(I)I"⟩, prog_10_method_12_code, 4, some .int, 1, false, 607, 605, 729)
def ax_m226 : ax_Mt := (9, ⟨"GivenSearch$Text", "needVars", "(I)I"⟩, prog_10_method_13_code, 4, some .int, 1, false, 597, 595, 719)
def ax_m227 : ax_Mt := (9, ⟨"GivenSearch$Text", "scopesRightIn", "(I)I"⟩, prog_10_method_14_code, 4, some .int, 1, false, 580, 578, 702)
def ax_m228 : ax_Mt := (9, ⟨"GivenSearch$Text", "settle", "()V"⟩, prog_10_method_15_code, 3, none, 0, false, 522, 520, 644)
def ax_m229 : ax_Mt := (9, ⟨"GivenSearch$Text", "isCase", "(II)Z"⟩, prog_10_method_16_code, 3, some .boolean, 2, false, 627, 625, 749)
def ax_m230 : ax_Mt := (9, ⟨"GivenSearch$Text", "hasMoreSpecial", "(II)Z"⟩, prog_10_method_17_code, 4, some .boolean, 2, false, 891, 890, 38)
def ax_m231 : ax_Mt := (9, ⟨"GivenSearch$Text", "bestOf", "(I)I"⟩, prog_10_method_18_code, 4, some .int, 1, false, 887, 885, 1009)
def ax_m232 : ax_Mt := (10, ⟨"GivenSearch$Written", "<init>", "()V"⟩, prog_11_method_1_code, 1, none, 0, false, 76, 75, 0)
def ax_m233 : ax_Mt := (10, ⟨"GivenSearch$Written", "clear", "()V"⟩, prog_11_method_2_code, 1, none, 0, false, 780, 778, 902)
def ax_m234 : ax_Mt := (10, ⟨"GivenSearch$Written", "at", "(I)I"⟩, prog_11_method_3_code, 2, some .int, 1, false, 1049, 1047, 1171)
def ax_m235 : ax_Mt := (10, ⟨"GivenSearch$Written", "add", "(I)V"⟩, prog_11_method_4_code, 2, none, 1, false, 793, 792, 29)
def ax_m236 : ax_Mt := (10, ⟨"GivenSearch$Written", "addNumber", "(I)V"⟩, prog_11_method_5_code, 2, none, 1, false, 797, 796, 30)
def ax_m237 : ax_Mt := (10, ⟨"GivenSearch$Written", "addFlat", "(LGivenSearch$Flat;)V"⟩, prog_11_method_6_code, 5, none, 1, false, 784, 782, 906)
def ax_m238 : ax_Mt := (10, ⟨"GivenSearch$Written", "addSign", "(I)V"⟩, prog_11_method_7_code, 3, none, 1, false, 789, 788, 28)
def ax_m239 : ax_Mt := (10, ⟨"GivenSearch$Written", "close", "(I)I"⟩, prog_11_method_8_code, 3, some .int, 1, false, 802, 801, 31)
def ax_m240 : ax_Mt := (10, ⟨"GivenSearch$Written", "addTree", "(LGivenSearch$Forest;)V"⟩, prog_11_method_9_code, 5, none, 1, false, 1022, 1020, 1144)
def ax_m241 : ax_Mt := (10, ⟨"GivenSearch$Written", "addBetween", "(II)V"⟩, prog_11_method_10_code, 3, none, 2, false, 1027, 1026, 48)
def ax_m242 : ax_Mt := (10, ⟨"GivenSearch$Written", "addEnds", "(I)V"⟩, prog_11_method_11_code, 3, none, 1, false, 1031, 1030, 49)
def ax_m243 : ax_Mt := (11, ⟨"GivenSearch", "<init>", "()V"⟩, prog_1_method_1_code, 2, none, 0, false, 21, 20, 0)
def ax_m244 : ax_Mt := (11, ⟨"GivenSearch", "feed", "(IIIII)I"⟩, prog_1_method_2_code, 6, some .int, 5, false, 411, 409, 533)
def ax_m245 : ax_Mt := (11, ⟨"GivenSearch", "end", "(I)I"⟩, prog_1_method_3_code, 2, some .int, 1, false, 419, 417, 541)
def ax_m246 : ax_Mt := (11, ⟨"GivenSearch", "scopes", "()I"⟩, prog_1_method_4_code, 3, some .int, 0, false, 423, 421, 545)
def ax_m247 : ax_Mt := (11, ⟨"GivenSearch", "fault", "()I"⟩, prog_1_method_5_code, 1, some .int, 0, false, 557, 555, 679)
def ax_m248 : ax_Mt := (11, ⟨"GivenSearch", "is", "(I)I"⟩, prog_1_method_6_code, 2, some .int, 1, false, 561, 559, 683)
def ax_m249 : ax_Mt := (11, ⟨"GivenSearch", "scope", "(II)I"⟩, prog_1_method_7_code, 3, some .int, 2, false, 569, 567, 691)
def ax_m250 : ax_Mt := (11, ⟨"GivenSearch", "given", "(II)I"⟩, prog_1_method_8_code, 5, some .int, 2, false, 584, 582, 706)
def ax_m251 : ax_Mt := (11, ⟨"GivenSearch", "out", "(IZ)Z"⟩, prog_1_method_9_code, 3, some .boolean, 2, false, 611, 609, 733)
def ax_m252 : ax_Mt := (11, ⟨"GivenSearch", "shut", "(IZ)Z"⟩, prog_1_method_10_code, 3, some .boolean, 2, false, 619, 617, 741)
def ax_m253 : ax_Mt := (11, ⟨"GivenSearch", "special", "(II)I"⟩, prog_1_method_11_code, 5, some .int, 2, false, 623, 621, 745)
def ax_m254 : ax_Mt := (11, ⟨"GivenSearch", "clashes", "()I"⟩, prog_1_method_12_code, 5, some .int, 0, false, 727, 725, 849)
def ax_m255 : ax_Mt := (11, ⟨"GivenSearch", "type", "(I)I"⟩, prog_1_method_13_code, 4, some .int, 1, false, 732, 730, 854)
def ax_m256 : ax_Mt := (11, ⟨"GivenSearch", "relation", "(III)I"⟩, prog_1_method_14_code, 4, some .int, 3, false, 749, 747, 871)
def ax_m257 : ax_Mt := (11, ⟨"GivenSearch", "unified", "(II)I"⟩, prog_1_method_15_code, 3, some .int, 2, false, 772, 770, 894)
def ax_m258 : ax_Mt := (11, ⟨"GivenSearch", "ask", "(I)I"⟩, prog_1_method_16_code, 4, some .int, 1, false, 806, 804, 928)
def ax_m259 : ax_Mt := (11, ⟨"GivenSearch", "asked", "(I)I"⟩, prog_1_method_17_code, 2, some .int, 1, false, 1000, 998, 1122)
def ax_m260 : ax_Mt := (11, ⟨"GivenSearch", "node", "(II)I"⟩, prog_1_method_18_code, 3, some .int, 2, false, 1004, 1002, 1126)
def ax_m261 : ax_Mt := (11, ⟨"GivenSearch", "writeGoal", "(I)I"⟩, prog_1_method_19_code, 2, some .int, 1, false, 1013, 1011, 1135)
def ax_m262 : ax_Mt := (11, ⟨"GivenSearch", "writeTree", "()I"⟩, prog_1_method_20_code, 1, some .int, 0, false, 1018, 1016, 1140)
def ax_m263 : ax_Mt := (11, ⟨"GivenSearch", "writeAnswer", "()I"⟩, prog_1_method_21_code, 1, some .int, 0, false, 1036, 1034, 1158)
def ax_m264 : ax_Mt := (11, ⟨"GivenSearch", "both", "(I)I"⟩, prog_1_method_22_code, 2, some .int, 1, false, 1041, 1039, 1163)
def ax_m265 : ax_Mt := (11, ⟨"GivenSearch", "octet", "(I)I"⟩, prog_1_method_23_code, 2, some .int, 1, false, 1045, 1043, 1167)
def ax_m266 : ax_Mt := (11, ⟨"GivenSearch", "without", "(I)I"⟩, prog_1_method_24_code, 2, some .int, 1, false, 1053, 1051, 1175)
def ax_m267 : ax_Mt := (11, ⟨"GivenSearch", "needed", "()I"⟩, prog_1_method_25_code, 3, some .int, 0, false, 1057, 1055, 1179)
def ax_m268 : ax_Mt := (11, ⟨"GivenSearch", "mends", "()I"⟩, prog_1_method_26_code, 3, some .int, 0, false, 1061, 1059, 1183)
def ax_m269 : ax_Mt := (11, ⟨"GivenSearch", "candidates", "(III)I"⟩, prog_1_method_27_code, 11, some .int, 3, false, 1065, 1063, 1187)
def ax_m270 : ax_Mt := (11, ⟨"GivenSearch", "values", "(III)I"⟩, prog_1_method_28_code, 6, some .int, 3, false, 1074, 1072, 1196)
def ax_m271 : ax_Mt := (11, ⟨"GivenSearch", "isIn", "(II)Z"⟩, prog_1_method_29_code, 2, some .boolean, 2, true, 614, 613, 0)
def ax_m272 : ax_Mt := (11, ⟨"GivenSearch", "hasType", "(I)Z"⟩, prog_1_method_30_code, 2, some .boolean, 1, false, 736, 735, 25)
def ax_m273 : ax_Mt := (11, ⟨"GivenSearch", "writeFlat", "()I"⟩, prog_1_method_31_code, 1, some .int, 0, false, 776, 775, 27)
def ax_m274 : ax_Mt := (11, ⟨"GivenSearch", "keepAsking", "()V"⟩, prog_1_method_32_code, 1, none, 0, false, 980, 979, 47)
