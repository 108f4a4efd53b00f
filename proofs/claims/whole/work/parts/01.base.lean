-- ===== PART A: goes FIRST, ahead of the names: the tables' words, and 'selects' of the private methods out of them =====
/-- a private method of a class that the tables say can be made, by its rows of tables_1 -/
def lw_okq (q : MethodName × Nat) : Prop := (q.1.cls ≠ "java/lang/invoke/MethodHandle" ∧ q.1.cls ≠ "java/lang/invoke/VarHandle") ∧ Cond.instantiable q.1.cls q.2 ∈ tables_1 ∧ Cond.privateMethod q.1 ∈ tables_1 ∧ Cond.instanceMethod q.1 ∈ tables_1
theorem lw_p0 : lw_okq (⟨"RodDips", "isPlace", "(I)Z"⟩, 18) := ⟨⟨by decide +kernel, by decide +kernel⟩, List.mem_of_getElem? (i := 24) (by decide +kernel), List.mem_of_getElem? (i := 202) (by decide +kernel), List.mem_of_getElem? (i := 203) (by decide +kernel)⟩
theorem lw_p1 : lw_okq (⟨"RodDips", "madeOfKind", "(I)LRodDips$Try;"⟩, 18) := ⟨⟨by decide +kernel, by decide +kernel⟩, List.mem_of_getElem? (i := 24) (by decide +kernel), List.mem_of_getElem? (i := 206) (by decide +kernel), List.mem_of_getElem? (i := 207) (by decide +kernel)⟩
theorem lw_p2 : lw_okq (⟨"RodDips", "tryAt", "(I)LRodDips$Try;"⟩, 18) := ⟨⟨by decide +kernel, by decide +kernel⟩, List.mem_of_getElem? (i := 24) (by decide +kernel), List.mem_of_getElem? (i := 355) (by decide +kernel), List.mem_of_getElem? (i := 356) (by decide +kernel)⟩
theorem lw_p3 : lw_okq (⟨"RodDips$Tape", "readClause", "(LRodDips$Text;)Z"⟩, 3) := ⟨⟨by decide +kernel, by decide +kernel⟩, List.mem_of_getElem? (i := 34) (by decide +kernel), List.mem_of_getElem? (i := 383) (by decide +kernel), List.mem_of_getElem? (i := 384) (by decide +kernel)⟩
theorem lw_p4 : lw_okq (⟨"RodDips$Tape", "look", "()I"⟩, 3) := ⟨⟨by decide +kernel, by decide +kernel⟩, List.mem_of_getElem? (i := 34) (by decide +kernel), List.mem_of_getElem? (i := 387) (by decide +kernel), List.mem_of_getElem? (i := 388) (by decide +kernel)⟩
theorem lw_p5 : lw_okq (⟨"RodDips$Tape", "readWord", "(Ljava/lang/String;)Z"⟩, 3) := ⟨⟨by decide +kernel, by decide +kernel⟩, List.mem_of_getElem? (i := 34) (by decide +kernel), List.mem_of_getElem? (i := 408) (by decide +kernel), List.mem_of_getElem? (i := 409) (by decide +kernel)⟩
theorem lw_p6 : lw_okq (⟨"RodDips$Tape", "readNumber", "()I"⟩, 3) := ⟨⟨by decide +kernel, by decide +kernel⟩, List.mem_of_getElem? (i := 34) (by decide +kernel), List.mem_of_getElem? (i := 464) (by decide +kernel), List.mem_of_getElem? (i := 465) (by decide +kernel)⟩
theorem lw_p7 : lw_okq (⟨"RodDips$Tape", "readE", "(LRodDips$Text;I)Z"⟩, 3) := ⟨⟨by decide +kernel, by decide +kernel⟩, List.mem_of_getElem? (i := 34) (by decide +kernel), List.mem_of_getElem? (i := 477) (by decide +kernel), List.mem_of_getElem? (i := 478) (by decide +kernel)⟩
theorem lw_p8 : lw_okq (⟨"RodDips$Tape", "readF", "(LRodDips$Text;I)Z"⟩, 3) := ⟨⟨by decide +kernel, by decide +kernel⟩, List.mem_of_getElem? (i := 34) (by decide +kernel), List.mem_of_getElem? (i := 481) (by decide +kernel), List.mem_of_getElem? (i := 482) (by decide +kernel)⟩
theorem lw_p9 : lw_okq (⟨"RodDips$Tape", "readTest", "(LRodDips$Text;)Z"⟩, 3) := ⟨⟨by decide +kernel, by decide +kernel⟩, List.mem_of_getElem? (i := 34) (by decide +kernel), List.mem_of_getElem? (i := 485) (by decide +kernel), List.mem_of_getElem? (i := 486) (by decide +kernel)⟩
theorem lw_p10 : lw_okq (⟨"RodDips", "planAt", "(I)LRodDips$Text;"⟩, 18) := ⟨⟨by decide +kernel, by decide +kernel⟩, List.mem_of_getElem? (i := 24) (by decide +kernel), List.mem_of_getElem? (i := 558) (by decide +kernel), List.mem_of_getElem? (i := 559) (by decide +kernel)⟩
theorem lw_p11 : lw_okq (⟨"RodDips", "countedBits", "(LRodDips$Text;)I"⟩, 18) := ⟨⟨by decide +kernel, by decide +kernel⟩, List.mem_of_getElem? (i := 24) (by decide +kernel), List.mem_of_getElem? (i := 562) (by decide +kernel), List.mem_of_getElem? (i := 563) (by decide +kernel)⟩
theorem lw_p12 : lw_okq (⟨"RodDips$Text", "holds", "(ILRodDips$Try;I)Z"⟩, 11) := ⟨⟨by decide +kernel, by decide +kernel⟩, List.mem_of_getElem? (i := 86) (by decide +kernel), List.mem_of_getElem? (i := 570) (by decide +kernel), List.mem_of_getElem? (i := 571) (by decide +kernel)⟩
theorem lw_p13 : lw_okq (⟨"RodDips", "hitBits", "(LRodDips$Text;)I"⟩, 18) := ⟨⟨by decide +kernel, by decide +kernel⟩, List.mem_of_getElem? (i := 24) (by decide +kernel), List.mem_of_getElem? (i := 588) (by decide +kernel), List.mem_of_getElem? (i := 589) (by decide +kernel)⟩
theorem lw_p14 : lw_okq (⟨"RodDips", "bitsNoFartherThan", "(I)I"⟩, 18) := ⟨⟨by decide +kernel, by decide +kernel⟩, List.mem_of_getElem? (i := 24) (by decide +kernel), List.mem_of_getElem? (i := 592) (by decide +kernel), List.mem_of_getElem? (i := 593) (by decide +kernel)⟩
theorem lw_p15 : lw_okq (⟨"RodDips", "passingMen", "(II)I"⟩, 18) := ⟨⟨by decide +kernel, by decide +kernel⟩, List.mem_of_getElem? (i := 24) (by decide +kernel), List.mem_of_getElem? (i := 600) (by decide +kernel), List.mem_of_getElem? (i := 601) (by decide +kernel)⟩
def lw_privs_1 : List (MethodName × Nat) := [(⟨"RodDips", "isPlace", "(I)Z"⟩, 18), (⟨"RodDips", "madeOfKind", "(I)LRodDips$Try;"⟩, 18), (⟨"RodDips", "tryAt", "(I)LRodDips$Try;"⟩, 18), (⟨"RodDips$Tape", "readClause", "(LRodDips$Text;)Z"⟩, 3), (⟨"RodDips$Tape", "look", "()I"⟩, 3), (⟨"RodDips$Tape", "readWord", "(Ljava/lang/String;)Z"⟩, 3), (⟨"RodDips$Tape", "readNumber", "()I"⟩, 3), (⟨"RodDips$Tape", "readE", "(LRodDips$Text;I)Z"⟩, 3), (⟨"RodDips$Tape", "readF", "(LRodDips$Text;I)Z"⟩, 3), (⟨"RodDips$Tape", "readTest", "(LRodDips$Text;)Z"⟩, 3), (⟨"RodDips", "planAt", "(I)LRodDips$Text;"⟩, 18), (⟨"RodDips", "countedBits", "(LRodDips$Text;)I"⟩, 18), (⟨"RodDips$Text", "holds", "(ILRodDips$Try;I)Z"⟩, 11), (⟨"RodDips", "hitBits", "(LRodDips$Text;)I"⟩, 18), (⟨"RodDips", "bitsNoFartherThan", "(I)I"⟩, 18), (⟨"RodDips", "passingMen", "(II)I"⟩, 18)]
theorem lw_r1 : ∀ q ∈ lw_privs_1, lw_okq q := List.forall_mem_cons.mpr ⟨lw_p0, List.forall_mem_cons.mpr ⟨lw_p1, List.forall_mem_cons.mpr ⟨lw_p2, List.forall_mem_cons.mpr ⟨lw_p3, List.forall_mem_cons.mpr ⟨lw_p4, List.forall_mem_cons.mpr ⟨lw_p5, List.forall_mem_cons.mpr ⟨lw_p6, List.forall_mem_cons.mpr ⟨lw_p7, List.forall_mem_cons.mpr ⟨lw_p8, List.forall_mem_cons.mpr ⟨lw_p9, List.forall_mem_cons.mpr ⟨lw_p10, List.forall_mem_cons.mpr ⟨lw_p11, List.forall_mem_cons.mpr ⟨lw_p12, List.forall_mem_cons.mpr ⟨lw_p13, List.forall_mem_cons.mpr ⟨lw_p14, List.forall_mem_cons.mpr ⟨lw_p15, fun _ h => absurd h List.not_mem_nil⟩⟩⟩⟩⟩⟩⟩⟩⟩⟩⟩⟩⟩⟩⟩⟩
theorem lw_p16 : lw_okq (⟨"RodDips", "bitsOfMan", "(I)I"⟩, 18) := ⟨⟨by decide +kernel, by decide +kernel⟩, List.mem_of_getElem? (i := 24) (by decide +kernel), List.mem_of_getElem? (i := 604) (by decide +kernel), List.mem_of_getElem? (i := 605) (by decide +kernel)⟩
theorem lw_p17 : lw_okq (⟨"RodDips", "placesWithin", "(II)I"⟩, 18) := ⟨⟨by decide +kernel, by decide +kernel⟩, List.mem_of_getElem? (i := 24) (by decide +kernel), List.mem_of_getElem? (i := 619) (by decide +kernel), List.mem_of_getElem? (i := 620) (by decide +kernel)⟩
theorem lw_p18 : lw_okq (⟨"RodDips", "isSet", "(I)Z"⟩, 18) := ⟨⟨by decide +kernel, by decide +kernel⟩, List.mem_of_getElem? (i := 24) (by decide +kernel), List.mem_of_getElem? (i := 638) (by decide +kernel), List.mem_of_getElem? (i := 639) (by decide +kernel)⟩
theorem lw_p19 : lw_okq (⟨"RodDips", "setOdds", "(II)V"⟩, 18) := ⟨⟨by decide +kernel, by decide +kernel⟩, List.mem_of_getElem? (i := 24) (by decide +kernel), List.mem_of_getElem? (i := 645) (by decide +kernel), List.mem_of_getElem? (i := 646) (by decide +kernel)⟩
theorem lw_p20 : lw_okq (⟨"RodDips", "bestOfMen", "(LRodDips$Text;II)J"⟩, 18) := ⟨⟨by decide +kernel, by decide +kernel⟩, List.mem_of_getElem? (i := 24) (by decide +kernel), List.mem_of_getElem? (i := 677) (by decide +kernel), List.mem_of_getElem? (i := 678) (by decide +kernel)⟩
theorem lw_p21 : lw_okq (⟨"RodDips", "bestAlone", "(LRodDips$Text;II)J"⟩, 18) := ⟨⟨by decide +kernel, by decide +kernel⟩, List.mem_of_getElem? (i := 24) (by decide +kernel), List.mem_of_getElem? (i := 682) (by decide +kernel), List.mem_of_getElem? (i := 683) (by decide +kernel)⟩
theorem lw_p22 : lw_okq (⟨"RodDips", "sumOfNears", "(II)I"⟩, 18) := ⟨⟨by decide +kernel, by decide +kernel⟩, List.mem_of_getElem? (i := 24) (by decide +kernel), List.mem_of_getElem? (i := 690) (by decide +kernel), List.mem_of_getElem? (i := 691) (by decide +kernel)⟩
theorem lw_p23 : lw_okq (⟨"RodDips", "sumOfOwnNears", "(I)I"⟩, 18) := ⟨⟨by decide +kernel, by decide +kernel⟩, List.mem_of_getElem? (i := 24) (by decide +kernel), List.mem_of_getElem? (i := 698) (by decide +kernel), List.mem_of_getElem? (i := 699) (by decide +kernel)⟩
theorem lw_p24 : lw_okq (⟨"RodDips", "hitsBySaying", "(III)I"⟩, 18) := ⟨⟨by decide +kernel, by decide +kernel⟩, List.mem_of_getElem? (i := 24) (by decide +kernel), List.mem_of_getElem? (i := 706) (by decide +kernel), List.mem_of_getElem? (i := 707) (by decide +kernel)⟩
theorem lw_p25 : lw_okq (⟨"RodDips", "waysAsGood", "(II)J"⟩, 18) := ⟨⟨by decide +kernel, by decide +kernel⟩, List.mem_of_getElem? (i := 24) (by decide +kernel), List.mem_of_getElem? (i := 714) (by decide +kernel), List.mem_of_getElem? (i := 715) (by decide +kernel)⟩
theorem lw_p26 : lw_okq (⟨"RodDips", "lawAt", "(I)LRodDips$Text;"⟩, 18) := ⟨⟨by decide +kernel, by decide +kernel⟩, List.mem_of_getElem? (i := 24) (by decide +kernel), List.mem_of_getElem? (i := 726) (by decide +kernel), List.mem_of_getElem? (i := 727) (by decide +kernel)⟩
theorem lw_p27 : lw_okq (⟨"RodDips", "saidBefore", "(LRodDips$Try;)I"⟩, 18) := ⟨⟨by decide +kernel, by decide +kernel⟩, List.mem_of_getElem? (i := 24) (by decide +kernel), List.mem_of_getElem? (i := 730) (by decide +kernel), List.mem_of_getElem? (i := 731) (by decide +kernel)⟩
theorem lw_p28 : lw_okq (⟨"RodDips", "bitsThatLawHas", "(LRodDips$Text;)I"⟩, 18) := ⟨⟨by decide +kernel, by decide +kernel⟩, List.mem_of_getElem? (i := 24) (by decide +kernel), List.mem_of_getElem? (i := 744) (by decide +kernel), List.mem_of_getElem? (i := 745) (by decide +kernel)⟩
theorem lw_p29 : lw_okq (⟨"RodDips", "bitsExcusedAfter", "()I"⟩, 18) := ⟨⟨by decide +kernel, by decide +kernel⟩, List.mem_of_getElem? (i := 24) (by decide +kernel), List.mem_of_getElem? (i := 768) (by decide +kernel), List.mem_of_getElem? (i := 769) (by decide +kernel)⟩
theorem lw_p30 : lw_okq (⟨"RodDipsModel", "isPlace", "(I)Z"⟩, 20) := ⟨⟨by decide +kernel, by decide +kernel⟩, List.mem_of_getElem? (i := 940) (by decide +kernel), List.mem_of_getElem? (i := 1021) (by decide +kernel), List.mem_of_getElem? (i := 1022) (by decide +kernel)⟩
theorem lw_p31 : lw_okq (⟨"RodDipsModel", "isTry", "(I)Z"⟩, 20) := ⟨⟨by decide +kernel, by decide +kernel⟩, List.mem_of_getElem? (i := 940) (by decide +kernel), List.mem_of_getElem? (i := 1029) (by decide +kernel), List.mem_of_getElem? (i := 1030) (by decide +kernel)⟩
def lw_privs_2 : List (MethodName × Nat) := [(⟨"RodDips", "bitsOfMan", "(I)I"⟩, 18), (⟨"RodDips", "placesWithin", "(II)I"⟩, 18), (⟨"RodDips", "isSet", "(I)Z"⟩, 18), (⟨"RodDips", "setOdds", "(II)V"⟩, 18), (⟨"RodDips", "bestOfMen", "(LRodDips$Text;II)J"⟩, 18), (⟨"RodDips", "bestAlone", "(LRodDips$Text;II)J"⟩, 18), (⟨"RodDips", "sumOfNears", "(II)I"⟩, 18), (⟨"RodDips", "sumOfOwnNears", "(I)I"⟩, 18), (⟨"RodDips", "hitsBySaying", "(III)I"⟩, 18), (⟨"RodDips", "waysAsGood", "(II)J"⟩, 18), (⟨"RodDips", "lawAt", "(I)LRodDips$Text;"⟩, 18), (⟨"RodDips", "saidBefore", "(LRodDips$Try;)I"⟩, 18), (⟨"RodDips", "bitsThatLawHas", "(LRodDips$Text;)I"⟩, 18), (⟨"RodDips", "bitsExcusedAfter", "()I"⟩, 18), (⟨"RodDipsModel", "isPlace", "(I)Z"⟩, 20), (⟨"RodDipsModel", "isTry", "(I)Z"⟩, 20)]
theorem lw_r2 : ∀ q ∈ lw_privs_2, lw_okq q := List.forall_mem_cons.mpr ⟨lw_p16, List.forall_mem_cons.mpr ⟨lw_p17, List.forall_mem_cons.mpr ⟨lw_p18, List.forall_mem_cons.mpr ⟨lw_p19, List.forall_mem_cons.mpr ⟨lw_p20, List.forall_mem_cons.mpr ⟨lw_p21, List.forall_mem_cons.mpr ⟨lw_p22, List.forall_mem_cons.mpr ⟨lw_p23, List.forall_mem_cons.mpr ⟨lw_p24, List.forall_mem_cons.mpr ⟨lw_p25, List.forall_mem_cons.mpr ⟨lw_p26, List.forall_mem_cons.mpr ⟨lw_p27, List.forall_mem_cons.mpr ⟨lw_p28, List.forall_mem_cons.mpr ⟨lw_p29, List.forall_mem_cons.mpr ⟨lw_p30, List.forall_mem_cons.mpr ⟨lw_p31, fun _ h => absurd h List.not_mem_nil⟩⟩⟩⟩⟩⟩⟩⟩⟩⟩⟩⟩⟩⟩⟩⟩
theorem lw_p32 : lw_okq (⟨"RodDipsModel", "nearOf", "(I)I"⟩, 20) := ⟨⟨by decide +kernel, by decide +kernel⟩, List.mem_of_getElem? (i := 940) (by decide +kernel), List.mem_of_getElem? (i := 1037) (by decide +kernel), List.mem_of_getElem? (i := 1038) (by decide +kernel)⟩
theorem lw_p33 : lw_okq (⟨"RodDipsModel", "reads", "(I)I"⟩, 20) := ⟨⟨by decide +kernel, by decide +kernel⟩, List.mem_of_getElem? (i := 940) (by decide +kernel), List.mem_of_getElem? (i := 1053) (by decide +kernel), List.mem_of_getElem? (i := 1054) (by decide +kernel)⟩
theorem lw_p34 : lw_okq (⟨"RodDipsModel", "planHere", "()V"⟩, 20) := ⟨⟨by decide +kernel, by decide +kernel⟩, List.mem_of_getElem? (i := 940) (by decide +kernel), List.mem_of_getElem? (i := 1057) (by decide +kernel), List.mem_of_getElem? (i := 1058) (by decide +kernel)⟩
theorem lw_p35 : lw_okq (⟨"RodDipsModel", "here", "()I"⟩, 20) := ⟨⟨by decide +kernel, by decide +kernel⟩, List.mem_of_getElem? (i := 940) (by decide +kernel), List.mem_of_getElem? (i := 1061) (by decide +kernel), List.mem_of_getElem? (i := 1062) (by decide +kernel)⟩
theorem lw_p36 : lw_okq (⟨"RodDipsModel", "numbered", "(ILjava/lang/String;)V"⟩, 20) := ⟨⟨by decide +kernel, by decide +kernel⟩, List.mem_of_getElem? (i := 940) (by decide +kernel), List.mem_of_getElem? (i := 1066) (by decide +kernel), List.mem_of_getElem? (i := 1067) (by decide +kernel)⟩
theorem lw_p37 : lw_okq (⟨"RodDipsModel", "spells", "(Ljava/lang/String;)V"⟩, 20) := ⟨⟨by decide +kernel, by decide +kernel⟩, List.mem_of_getElem? (i := 940) (by decide +kernel), List.mem_of_getElem? (i := 1070) (by decide +kernel), List.mem_of_getElem? (i := 1071) (by decide +kernel)⟩
theorem lw_p38 : lw_okq (⟨"RodDipsModel", "must", "(I)V"⟩, 20) := ⟨⟨by decide +kernel, by decide +kernel⟩, List.mem_of_getElem? (i := 940) (by decide +kernel), List.mem_of_getElem? (i := 1076) (by decide +kernel), List.mem_of_getElem? (i := 1077) (by decide +kernel)⟩
theorem lw_p39 : lw_okq (⟨"RodDipsModel", "figures", "()I"⟩, 20) := ⟨⟨by decide +kernel, by decide +kernel⟩, List.mem_of_getElem? (i := 940) (by decide +kernel), List.mem_of_getElem? (i := 1080) (by decide +kernel), List.mem_of_getElem? (i := 1081) (by decide +kernel)⟩
theorem lw_p40 : lw_okq (⟨"RodDipsModel", "tested", "(ILjava/lang/String;)V"⟩, 20) := ⟨⟨by decide +kernel, by decide +kernel⟩, List.mem_of_getElem? (i := 940) (by decide +kernel), List.mem_of_getElem? (i := 1086) (by decide +kernel), List.mem_of_getElem? (i := 1087) (by decide +kernel)⟩
theorem lw_p41 : lw_okq (⟨"RodDipsModel", "some", "()V"⟩, 20) := ⟨⟨by decide +kernel, by decide +kernel⟩, List.mem_of_getElem? (i := 940) (by decide +kernel), List.mem_of_getElem? (i := 1090) (by decide +kernel), List.mem_of_getElem? (i := 1091) (by decide +kernel)⟩
theorem lw_p42 : lw_okq (⟨"RodDipsModel", "every", "()V"⟩, 20) := ⟨⟨by decide +kernel, by decide +kernel⟩, List.mem_of_getElem? (i := 940) (by decide +kernel), List.mem_of_getElem? (i := 1094) (by decide +kernel), List.mem_of_getElem? (i := 1095) (by decide +kernel)⟩
theorem lw_p43 : lw_okq (⟨"RodDipsModel", "factor", "()V"⟩, 20) := ⟨⟨by decide +kernel, by decide +kernel⟩, List.mem_of_getElem? (i := 940) (by decide +kernel), List.mem_of_getElem? (i := 1098) (by decide +kernel), List.mem_of_getElem? (i := 1099) (by decide +kernel)⟩
theorem lw_p44 : lw_okq (⟨"RodDipsModel", "emits", "(I)V"⟩, 20) := ⟨⟨by decide +kernel, by decide +kernel⟩, List.mem_of_getElem? (i := 940) (by decide +kernel), List.mem_of_getElem? (i := 1102) (by decide +kernel), List.mem_of_getElem? (i := 1103) (by decide +kernel)⟩
theorem lw_p45 : lw_okq (⟨"RodDipsModel", "among", "(Ljava/lang/String;)I"⟩, 20) := ⟨⟨by decide +kernel, by decide +kernel⟩, List.mem_of_getElem? (i := 940) (by decide +kernel), List.mem_of_getElem? (i := 1108) (by decide +kernel), List.mem_of_getElem? (i := 1109) (by decide +kernel)⟩
theorem lw_p46 : lw_okq (⟨"RodDipsModel", "lawHere", "()V"⟩, 20) := ⟨⟨by decide +kernel, by decide +kernel⟩, List.mem_of_getElem? (i := 940) (by decide +kernel), List.mem_of_getElem? (i := 1114) (by decide +kernel), List.mem_of_getElem? (i := 1115) (by decide +kernel)⟩
theorem lw_p47 : lw_okq (⟨"RodDipsModel", "saying", "(ILjava/lang/String;)V"⟩, 20) := ⟨⟨by decide +kernel, by decide +kernel⟩, List.mem_of_getElem? (i := 940) (by decide +kernel), List.mem_of_getElem? (i := 1119) (by decide +kernel), List.mem_of_getElem? (i := 1120) (by decide +kernel)⟩
def lw_privs_3 : List (MethodName × Nat) := [(⟨"RodDipsModel", "nearOf", "(I)I"⟩, 20), (⟨"RodDipsModel", "reads", "(I)I"⟩, 20), (⟨"RodDipsModel", "planHere", "()V"⟩, 20), (⟨"RodDipsModel", "here", "()I"⟩, 20), (⟨"RodDipsModel", "numbered", "(ILjava/lang/String;)V"⟩, 20), (⟨"RodDipsModel", "spells", "(Ljava/lang/String;)V"⟩, 20), (⟨"RodDipsModel", "must", "(I)V"⟩, 20), (⟨"RodDipsModel", "figures", "()I"⟩, 20), (⟨"RodDipsModel", "tested", "(ILjava/lang/String;)V"⟩, 20), (⟨"RodDipsModel", "some", "()V"⟩, 20), (⟨"RodDipsModel", "every", "()V"⟩, 20), (⟨"RodDipsModel", "factor", "()V"⟩, 20), (⟨"RodDipsModel", "emits", "(I)V"⟩, 20), (⟨"RodDipsModel", "among", "(Ljava/lang/String;)I"⟩, 20), (⟨"RodDipsModel", "lawHere", "()V"⟩, 20), (⟨"RodDipsModel", "saying", "(ILjava/lang/String;)V"⟩, 20)]
theorem lw_r3 : ∀ q ∈ lw_privs_3, lw_okq q := List.forall_mem_cons.mpr ⟨lw_p32, List.forall_mem_cons.mpr ⟨lw_p33, List.forall_mem_cons.mpr ⟨lw_p34, List.forall_mem_cons.mpr ⟨lw_p35, List.forall_mem_cons.mpr ⟨lw_p36, List.forall_mem_cons.mpr ⟨lw_p37, List.forall_mem_cons.mpr ⟨lw_p38, List.forall_mem_cons.mpr ⟨lw_p39, List.forall_mem_cons.mpr ⟨lw_p40, List.forall_mem_cons.mpr ⟨lw_p41, List.forall_mem_cons.mpr ⟨lw_p42, List.forall_mem_cons.mpr ⟨lw_p43, List.forall_mem_cons.mpr ⟨lw_p44, List.forall_mem_cons.mpr ⟨lw_p45, List.forall_mem_cons.mpr ⟨lw_p46, List.forall_mem_cons.mpr ⟨lw_p47, fun _ h => absurd h List.not_mem_nil⟩⟩⟩⟩⟩⟩⟩⟩⟩⟩⟩⟩⟩⟩⟩⟩
theorem lw_p48 : lw_okq (⟨"RodDipsModel", "isPlan", "(I)Z"⟩, 20) := ⟨⟨by decide +kernel, by decide +kernel⟩, List.mem_of_getElem? (i := 940) (by decide +kernel), List.mem_of_getElem? (i := 1134) (by decide +kernel), List.mem_of_getElem? (i := 1135) (by decide +kernel)⟩
theorem lw_p49 : lw_okq (⟨"RodDipsModel", "counted", "(I)I"⟩, 20) := ⟨⟨by decide +kernel, by decide +kernel⟩, List.mem_of_getElem? (i := 940) (by decide +kernel), List.mem_of_getElem? (i := 1138) (by decide +kernel), List.mem_of_getElem? (i := 1139) (by decide +kernel)⟩
theorem lw_p50 : lw_okq (⟨"RodDipsModel", "isCounted", "(II)Z"⟩, 20) := ⟨⟨by decide +kernel, by decide +kernel⟩, List.mem_of_getElem? (i := 940) (by decide +kernel), List.mem_of_getElem? (i := 1142) (by decide +kernel), List.mem_of_getElem? (i := 1143) (by decide +kernel)⟩
theorem lw_p51 : lw_okq (⟨"RodDipsModel", "looks", "(II)V"⟩, 20) := ⟨⟨by decide +kernel, by decide +kernel⟩, List.mem_of_getElem? (i := 940) (by decide +kernel), List.mem_of_getElem? (i := 1146) (by decide +kernel), List.mem_of_getElem? (i := 1147) (by decide +kernel)⟩
theorem lw_p52 : lw_okq (⟨"RodDipsModel", "letter", "(III)I"⟩, 20) := ⟨⟨by decide +kernel, by decide +kernel⟩, List.mem_of_getElem? (i := 940) (by decide +kernel), List.mem_of_getElem? (i := 1150) (by decide +kernel), List.mem_of_getElem? (i := 1151) (by decide +kernel)⟩
theorem lw_p53 : lw_okq (⟨"RodDipsModel", "before", "(I)I"⟩, 20) := ⟨⟨by decide +kernel, by decide +kernel⟩, List.mem_of_getElem? (i := 940) (by decide +kernel), List.mem_of_getElem? (i := 1154) (by decide +kernel), List.mem_of_getElem? (i := 1155) (by decide +kernel)⟩
theorem lw_p54 : lw_okq (⟨"RodDipsModel", "hitsOf", "(II)I"⟩, 20) := ⟨⟨by decide +kernel, by decide +kernel⟩, List.mem_of_getElem? (i := 940) (by decide +kernel), List.mem_of_getElem? (i := 1158) (by decide +kernel), List.mem_of_getElem? (i := 1159) (by decide +kernel)⟩
theorem lw_p55 : lw_okq (⟨"RodDipsModel", "passing", "(I)I"⟩, 20) := ⟨⟨by decide +kernel, by decide +kernel⟩, List.mem_of_getElem? (i := 940) (by decide +kernel), List.mem_of_getElem? (i := 1166) (by decide +kernel), List.mem_of_getElem? (i := 1167) (by decide +kernel)⟩
theorem lw_p56 : lw_okq (⟨"RodDipsModel", "ofMan", "(II)I"⟩, 20) := ⟨⟨by decide +kernel, by decide +kernel⟩, List.mem_of_getElem? (i := 940) (by decide +kernel), List.mem_of_getElem? (i := 1170) (by decide +kernel), List.mem_of_getElem? (i := 1171) (by decide +kernel)⟩
theorem lw_p57 : lw_okq (⟨"RodDipsModel", "placesBy", "(II)I"⟩, 20) := ⟨⟨by decide +kernel, by decide +kernel⟩, List.mem_of_getElem? (i := 940) (by decide +kernel), List.mem_of_getElem? (i := 1182) (by decide +kernel), List.mem_of_getElem? (i := 1183) (by decide +kernel)⟩
theorem lw_p58 : lw_okq (⟨"RodDipsModel", "areTries", "(I)Z"⟩, 20) := ⟨⟨by decide +kernel, by decide +kernel⟩, List.mem_of_getElem? (i := 940) (by decide +kernel), List.mem_of_getElem? (i := 1196) (by decide +kernel), List.mem_of_getElem? (i := 1197) (by decide +kernel)⟩
theorem lw_p59 : lw_okq (⟨"RodDipsModel", "counts", "(II)V"⟩, 20) := ⟨⟨by decide +kernel, by decide +kernel⟩, List.mem_of_getElem? (i := 940) (by decide +kernel), List.mem_of_getElem? (i := 1200) (by decide +kernel), List.mem_of_getElem? (i := 1201) (by decide +kernel)⟩
theorem lw_p60 : lw_okq (⟨"RodDipsModel", "orMore", "(I)J"⟩, 20) := ⟨⟨by decide +kernel, by decide +kernel⟩, List.mem_of_getElem? (i := 940) (by decide +kernel), List.mem_of_getElem? (i := 1204) (by decide +kernel), List.mem_of_getElem? (i := 1205) (by decide +kernel)⟩
theorem lw_p61 : lw_okq (⟨"RodDipsModel", "bestOfMen", "(III)J"⟩, 20) := ⟨⟨by decide +kernel, by decide +kernel⟩, List.mem_of_getElem? (i := 940) (by decide +kernel), List.mem_of_getElem? (i := 1212) (by decide +kernel), List.mem_of_getElem? (i := 1213) (by decide +kernel)⟩
theorem lw_p62 : lw_okq (⟨"RodDipsModel", "aloneOf", "(III)J"⟩, 20) := ⟨⟨by decide +kernel, by decide +kernel⟩, List.mem_of_getElem? (i := 940) (by decide +kernel), List.mem_of_getElem? (i := 1216) (by decide +kernel), List.mem_of_getElem? (i := 1217) (by decide +kernel)⟩
theorem lw_p63 : lw_okq (⟨"RodDipsModel", "sumFrom", "(II)I"⟩, 20) := ⟨⟨by decide +kernel, by decide +kernel⟩, List.mem_of_getElem? (i := 940) (by decide +kernel), List.mem_of_getElem? (i := 1224) (by decide +kernel), List.mem_of_getElem? (i := 1225) (by decide +kernel)⟩
def lw_privs_4 : List (MethodName × Nat) := [(⟨"RodDipsModel", "isPlan", "(I)Z"⟩, 20), (⟨"RodDipsModel", "counted", "(I)I"⟩, 20), (⟨"RodDipsModel", "isCounted", "(II)Z"⟩, 20), (⟨"RodDipsModel", "looks", "(II)V"⟩, 20), (⟨"RodDipsModel", "letter", "(III)I"⟩, 20), (⟨"RodDipsModel", "before", "(I)I"⟩, 20), (⟨"RodDipsModel", "hitsOf", "(II)I"⟩, 20), (⟨"RodDipsModel", "passing", "(I)I"⟩, 20), (⟨"RodDipsModel", "ofMan", "(II)I"⟩, 20), (⟨"RodDipsModel", "placesBy", "(II)I"⟩, 20), (⟨"RodDipsModel", "areTries", "(I)Z"⟩, 20), (⟨"RodDipsModel", "counts", "(II)V"⟩, 20), (⟨"RodDipsModel", "orMore", "(I)J"⟩, 20), (⟨"RodDipsModel", "bestOfMen", "(III)J"⟩, 20), (⟨"RodDipsModel", "aloneOf", "(III)J"⟩, 20), (⟨"RodDipsModel", "sumFrom", "(II)I"⟩, 20)]
theorem lw_r4 : ∀ q ∈ lw_privs_4, lw_okq q := List.forall_mem_cons.mpr ⟨lw_p48, List.forall_mem_cons.mpr ⟨lw_p49, List.forall_mem_cons.mpr ⟨lw_p50, List.forall_mem_cons.mpr ⟨lw_p51, List.forall_mem_cons.mpr ⟨lw_p52, List.forall_mem_cons.mpr ⟨lw_p53, List.forall_mem_cons.mpr ⟨lw_p54, List.forall_mem_cons.mpr ⟨lw_p55, List.forall_mem_cons.mpr ⟨lw_p56, List.forall_mem_cons.mpr ⟨lw_p57, List.forall_mem_cons.mpr ⟨lw_p58, List.forall_mem_cons.mpr ⟨lw_p59, List.forall_mem_cons.mpr ⟨lw_p60, List.forall_mem_cons.mpr ⟨lw_p61, List.forall_mem_cons.mpr ⟨lw_p62, List.forall_mem_cons.mpr ⟨lw_p63, fun _ h => absurd h List.not_mem_nil⟩⟩⟩⟩⟩⟩⟩⟩⟩⟩⟩⟩⟩⟩⟩⟩
theorem lw_p64 : lw_okq (⟨"RodDipsModel", "isLaw", "(I)Z"⟩, 20) := ⟨⟨by decide +kernel, by decide +kernel⟩, List.mem_of_getElem? (i := 940) (by decide +kernel), List.mem_of_getElem? (i := 1244) (by decide +kernel), List.mem_of_getElem? (i := 1245) (by decide +kernel)⟩
theorem lw_p65 : lw_okq (⟨"RodDipsModel", "saysBy", "(II)I"⟩, 20) := ⟨⟨by decide +kernel, by decide +kernel⟩, List.mem_of_getElem? (i := 940) (by decide +kernel), List.mem_of_getElem? (i := 1248) (by decide +kernel), List.mem_of_getElem? (i := 1249) (by decide +kernel)⟩
theorem lw_p66 : lw_okq (⟨"RodDipsModel", "kept", "(I)I"⟩, 20) := ⟨⟨by decide +kernel, by decide +kernel⟩, List.mem_of_getElem? (i := 940) (by decide +kernel), List.mem_of_getElem? (i := 1252) (by decide +kernel), List.mem_of_getElem? (i := 1253) (by decide +kernel)⟩
theorem lw_p67 : lw_okq (⟨"RodDipsModel", "has", "(II)Z"⟩, 20) := ⟨⟨by decide +kernel, by decide +kernel⟩, List.mem_of_getElem? (i := 940) (by decide +kernel), List.mem_of_getElem? (i := 1260) (by decide +kernel), List.mem_of_getElem? (i := 1261) (by decide +kernel)⟩
theorem lw_p68 : lw_okq (⟨"RodDipsModel", "fitting", "(II)I"⟩, 20) := ⟨⟨by decide +kernel, by decide +kernel⟩, List.mem_of_getElem? (i := 940) (by decide +kernel), List.mem_of_getElem? (i := 1268) (by decide +kernel), List.mem_of_getElem? (i := 1269) (by decide +kernel)⟩
theorem lw_p69 : lw_okq (⟨"RodDipsModel", "saysActs", "(I)I"⟩, 20) := ⟨⟨by decide +kernel, by decide +kernel⟩, List.mem_of_getElem? (i := 940) (by decide +kernel), List.mem_of_getElem? (i := 1315) (by decide +kernel), List.mem_of_getElem? (i := 1316) (by decide +kernel)⟩
theorem lw_p70 : lw_okq (⟨"RodDipsModel", "runs", "(I)V"⟩, 20) := ⟨⟨by decide +kernel, by decide +kernel⟩, List.mem_of_getElem? (i := 940) (by decide +kernel), List.mem_of_getElem? (i := 1319) (by decide +kernel), List.mem_of_getElem? (i := 1320) (by decide +kernel)⟩
theorem lw_p71 : lw_okq (⟨"RodDipsModel", "plainSays", "(I)I"⟩, 20) := ⟨⟨by decide +kernel, by decide +kernel⟩, List.mem_of_getElem? (i := 940) (by decide +kernel), List.mem_of_getElem? (i := 1323) (by decide +kernel), List.mem_of_getElem? (i := 1324) (by decide +kernel)⟩
theorem lw_p72 : lw_okq (⟨"RodDipsModel", "knowsActs", "(I)I"⟩, 20) := ⟨⟨by decide +kernel, by decide +kernel⟩, List.mem_of_getElem? (i := 940) (by decide +kernel), List.mem_of_getElem? (i := 1327) (by decide +kernel), List.mem_of_getElem? (i := 1328) (by decide +kernel)⟩
theorem lw_p73 : lw_okq (⟨"RodDipsModel", "plainKnows", "(I)I"⟩, 20) := ⟨⟨by decide +kernel, by decide +kernel⟩, List.mem_of_getElem? (i := 940) (by decide +kernel), List.mem_of_getElem? (i := 1331) (by decide +kernel), List.mem_of_getElem? (i := 1332) (by decide +kernel)⟩
theorem lw_p74 : lw_okq (⟨"RodDipsModel", "tellsActs", "(I)I"⟩, 20) := ⟨⟨by decide +kernel, by decide +kernel⟩, List.mem_of_getElem? (i := 940) (by decide +kernel), List.mem_of_getElem? (i := 1338) (by decide +kernel), List.mem_of_getElem? (i := 1339) (by decide +kernel)⟩
theorem lw_p75 : lw_okq (⟨"RodDipsModel", "plainTells", "(I)I"⟩, 20) := ⟨⟨by decide +kernel, by decide +kernel⟩, List.mem_of_getElem? (i := 940) (by decide +kernel), List.mem_of_getElem? (i := 1342) (by decide +kernel), List.mem_of_getElem? (i := 1343) (by decide +kernel)⟩
def lw_privs_5 : List (MethodName × Nat) := [(⟨"RodDipsModel", "isLaw", "(I)Z"⟩, 20), (⟨"RodDipsModel", "saysBy", "(II)I"⟩, 20), (⟨"RodDipsModel", "kept", "(I)I"⟩, 20), (⟨"RodDipsModel", "has", "(II)Z"⟩, 20), (⟨"RodDipsModel", "fitting", "(II)I"⟩, 20), (⟨"RodDipsModel", "saysActs", "(I)I"⟩, 20), (⟨"RodDipsModel", "runs", "(I)V"⟩, 20), (⟨"RodDipsModel", "plainSays", "(I)I"⟩, 20), (⟨"RodDipsModel", "knowsActs", "(I)I"⟩, 20), (⟨"RodDipsModel", "plainKnows", "(I)I"⟩, 20), (⟨"RodDipsModel", "tellsActs", "(I)I"⟩, 20), (⟨"RodDipsModel", "plainTells", "(I)I"⟩, 20)]
theorem lw_r5 : ∀ q ∈ lw_privs_5, lw_okq q := List.forall_mem_cons.mpr ⟨lw_p64, List.forall_mem_cons.mpr ⟨lw_p65, List.forall_mem_cons.mpr ⟨lw_p66, List.forall_mem_cons.mpr ⟨lw_p67, List.forall_mem_cons.mpr ⟨lw_p68, List.forall_mem_cons.mpr ⟨lw_p69, List.forall_mem_cons.mpr ⟨lw_p70, List.forall_mem_cons.mpr ⟨lw_p71, List.forall_mem_cons.mpr ⟨lw_p72, List.forall_mem_cons.mpr ⟨lw_p73, List.forall_mem_cons.mpr ⟨lw_p74, List.forall_mem_cons.mpr ⟨lw_p75, fun _ h => absurd h List.not_mem_nil⟩⟩⟩⟩⟩⟩⟩⟩⟩⟩⟩⟩
def lw_privs : List (MethodName × Nat) := lw_privs_1 ++ (lw_privs_2 ++ (lw_privs_3 ++ (lw_privs_4 ++ (lw_privs_5))))
def lw_tbl : List Cond := k2_sels lw_privs ++ tables_1
theorem lw_privs_ok : ∀ q ∈ lw_privs, lw_okq q := by
  show ∀ q ∈ lw_privs_1 ++ (lw_privs_2 ++ (lw_privs_3 ++ (lw_privs_4 ++ (lw_privs_5)))), lw_okq q
  exact List.forall_mem_append.mpr ⟨lw_r1, List.forall_mem_append.mpr ⟨lw_r2, List.forall_mem_append.mpr ⟨lw_r3, List.forall_mem_append.mpr ⟨lw_r4, lw_r5⟩⟩⟩⟩

/-- the tables' words that stay: any of tables_1 by its place, and the 'selects' of the private methods -/
def lwG : List Cond := lw_tbl.filter goodWord
theorem bw {w : Cond} (i : Nat) (h : tables_1[i]? = some w) (g : goodWord w = true) : w ∈ lwG := List.mem_filter.mpr ⟨List.mem_append_right _ (List.mem_of_getElem? h), g⟩
theorem bs {w : Cond} (i : Nat) (h : (k2_sels lw_privs)[i]? = some w) (g : goodWord w = true) : w ∈ lwG := List.mem_filter.mpr ⟨List.mem_append_left _ (List.mem_of_getElem? h), g⟩
theorem lwG_tbl {w : Cond} (h : w ∈ lwG) : w ∈ lw_tbl := (List.mem_filter.mp h).1
theorem lwG_good {c : Cond} : GoodIn lwG lwG := fun w h => ⟨h, good_of_word (List.mem_filter.mp h).2⟩
theorem gdIn {hd : List Cond} {y : MethodName} {b : ByteArray} {n : Nat} {r : Option FieldType} (h : ∀ w ∈ hd, w ∈ lwG) (hc : Cond.code y b n r ∈ lwG) : GoodIn lwG (hd ++ (Cond.code y b n r :: lwG)) := by
  intro w hw
  have : w ∈ lwG := by
    rcases List.mem_append.mp hw with q | q
    · exact h w q
    · rcases List.mem_cons.mp q with q | q
      · rw [q]; exact hc
      · exact q
  exact ⟨this, good_of_word (List.mem_filter.mp this).2⟩
def RX0 : String := "RodDips$Barn"
def TX0 : u_T := fun k => match k with
  | 0 => ("RodDips$Try", "trace", "LRodDips$Trace;", true)
  | 1 => ("RodDips$Try", "number", "I", false)
  | 2 => ("RodDips$Try", "man", "I", false)
  | 3 => ("RodDips$Try", "day", "I", false)
  | 4 => ("RodDips$Try", "kind", "I", false)
  | 5 => ("RodDips$Try", "pipe", "I", false)
  | 6 => ("RodDips$Try", "said", "I", false)
  | 7 => ("RodDips$Try", "near", "I", false)
  | _ => ("RodDips$Try", "excused", "I", false)
def tyX0 : Nat → FieldType := fun k => match k with
  | 0 => .object "RodDips$Trace"
  | 1 => .int
  | 2 => .int
  | 3 => .int
  | 4 => .int
  | 5 => .int
  | 6 => .int
  | 7 => .int
  | _ => .int
theorem nmX0 : ∀ a, a < 9 → ∀ b, b < 9 → a ≠ b → (TX0 a).2.1 ≠ (TX0 b).2.1 := by decide +kernel
theorem tyX0_ok : ∀ k, k < 9 → parseFieldDescriptor (TX0 k).2.2.1 = some (tyX0 k) := by decide +kernel
abbrev cX0_init : ByteArray := prog_2_method_1_code
def yX0_init : MethodName := ⟨RX0, "<init>", "(LRodDips$Trace;)V"⟩
abbrev cX0_know : ByteArray := prog_2_method_2_code
def yX0_know : MethodName := ⟨RX0, "know", "(I)I"⟩
def RX1 : String := "RodDips$Boxed"
def TX1 : u_T := fun k => match k with
  | 0 => ("RodDips$Try", "trace", "LRodDips$Trace;", true)
  | 1 => ("RodDips$Try", "number", "I", false)
  | 2 => ("RodDips$Try", "man", "I", false)
  | 3 => ("RodDips$Try", "day", "I", false)
  | 4 => ("RodDips$Try", "kind", "I", false)
  | 5 => ("RodDips$Try", "pipe", "I", false)
  | 6 => ("RodDips$Try", "said", "I", false)
  | 7 => ("RodDips$Try", "near", "I", false)
  | _ => ("RodDips$Try", "excused", "I", false)
def tyX1 : Nat → FieldType := fun k => match k with
  | 0 => .object "RodDips$Trace"
  | 1 => .int
  | 2 => .int
  | 3 => .int
  | 4 => .int
  | 5 => .int
  | 6 => .int
  | 7 => .int
  | _ => .int
theorem nmX1 : ∀ a, a < 9 → ∀ b, b < 9 → a ≠ b → (TX1 a).2.1 ≠ (TX1 b).2.1 := by decide +kernel
theorem tyX1_ok : ∀ k, k < 9 → parseFieldDescriptor (TX1 k).2.2.1 = some (tyX1 k) := by decide +kernel
abbrev cX1_init : ByteArray := prog_3_method_1_code
def yX1_init : MethodName := ⟨RX1, "<init>", "(LRodDips$Trace;)V"⟩
abbrev cX1_say : ByteArray := prog_3_method_2_code
def yX1_say : MethodName := ⟨RX1, "say", "(I)I"⟩
def RX2 : String := "RodDips$Field"
def TX2 : u_T := fun k => match k with
  | 0 => ("RodDips$Try", "trace", "LRodDips$Trace;", true)
  | 1 => ("RodDips$Try", "number", "I", false)
  | 2 => ("RodDips$Try", "man", "I", false)
  | 3 => ("RodDips$Try", "day", "I", false)
  | 4 => ("RodDips$Try", "kind", "I", false)
  | 5 => ("RodDips$Try", "pipe", "I", false)
  | 6 => ("RodDips$Try", "said", "I", false)
  | 7 => ("RodDips$Try", "near", "I", false)
  | _ => ("RodDips$Try", "excused", "I", false)
def tyX2 : Nat → FieldType := fun k => match k with
  | 0 => .object "RodDips$Trace"
  | 1 => .int
  | 2 => .int
  | 3 => .int
  | 4 => .int
  | 5 => .int
  | 6 => .int
  | 7 => .int
  | _ => .int
theorem nmX2 : ∀ a, a < 9 → ∀ b, b < 9 → a ≠ b → (TX2 a).2.1 ≠ (TX2 b).2.1 := by decide +kernel
theorem tyX2_ok : ∀ k, k < 9 → parseFieldDescriptor (TX2 k).2.2.1 = some (tyX2 k) := by decide +kernel
abbrev cX2_init : ByteArray := prog_4_method_1_code
def yX2_init : MethodName := ⟨RX2, "<init>", "(LRodDips$Trace;)V"⟩
abbrev cX2_say : ByteArray := prog_4_method_2_code
def yX2_say : MethodName := ⟨RX2, "say", "(I)I"⟩
def RX3 : String := "RodDips$Middle"
def TX3 : u_T := fun k => match k with
  | 0 => ("RodDips$Try", "trace", "LRodDips$Trace;", true)
  | 1 => ("RodDips$Try", "number", "I", false)
  | 2 => ("RodDips$Try", "man", "I", false)
  | 3 => ("RodDips$Try", "day", "I", false)
  | 4 => ("RodDips$Try", "kind", "I", false)
  | 5 => ("RodDips$Try", "pipe", "I", false)
  | 6 => ("RodDips$Try", "said", "I", false)
  | 7 => ("RodDips$Try", "near", "I", false)
  | _ => ("RodDips$Try", "excused", "I", false)
def tyX3 : Nat → FieldType := fun k => match k with
  | 0 => .object "RodDips$Trace"
  | 1 => .int
  | 2 => .int
  | 3 => .int
  | 4 => .int
  | 5 => .int
  | 6 => .int
  | 7 => .int
  | _ => .int
theorem nmX3 : ∀ a, a < 9 → ∀ b, b < 9 → a ≠ b → (TX3 a).2.1 ≠ (TX3 b).2.1 := by decide +kernel
theorem tyX3_ok : ∀ k, k < 9 → parseFieldDescriptor (TX3 k).2.2.1 = some (tyX3 k) := by decide +kernel
abbrev cX3_init : ByteArray := prog_5_method_1_code
def yX3_init : MethodName := ⟨RX3, "<init>", "(LRodDips$Trace;)V"⟩
abbrev cX3_tell : ByteArray := prog_5_method_2_code
def yX3_tell : MethodName := ⟨RX3, "tell", "(I)I"⟩
def RX4 : String := "RodDips$Odds"
def TX4 : u_T := fun k => match k with
  | 0 => ("RodDips$Odds", "ways", "[J", true)
  | 1 => ("RodDips$Odds", "size", "I", false)
  | _ => ("RodDips$Odds", "all", "J", false)
def tyX4 : Nat → FieldType := fun k => match k with
  | 0 => .array .long
  | 1 => .int
  | _ => .long
theorem nmX4 : ∀ a, a < 3 → ∀ b, b < 3 → a ≠ b → (TX4 a).2.1 ≠ (TX4 b).2.1 := by decide +kernel
theorem tyX4_ok : ∀ k, k < 3 → parseFieldDescriptor (TX4 k).2.2.1 = some (tyX4 k) := by decide +kernel
abbrev cX4_init : ByteArray := prog_6_method_1_code
def yX4_init : MethodName := ⟨RX4, "<init>", "()V"⟩
abbrev cX4_start : ByteArray := prog_6_method_2_code
def yX4_start : MethodName := ⟨RX4, "start", "()V"⟩
abbrev cX4_add : ByteArray := prog_6_method_3_code
def yX4_add : MethodName := ⟨RX4, "add", "(JJ)V"⟩
abbrev cX4_exactly : ByteArray := prog_6_method_4_code
def yX4_exactly : MethodName := ⟨RX4, "exactly", "(I)J"⟩
abbrev cX4_fewer : ByteArray := prog_6_method_5_code
def yX4_fewer : MethodName := ⟨RX4, "fewer", "(I)J"⟩
abbrev cX4_orMore : ByteArray := prog_6_method_6_code
def yX4_orMore : MethodName := ⟨RX4, "orMore", "(I)J"⟩
def RX5 : String := "RodDips$Seen"
def TX5 : u_T := fun k => match k with
  | 0 => ("RodDips$Try", "trace", "LRodDips$Trace;", true)
  | 1 => ("RodDips$Try", "number", "I", false)
  | 2 => ("RodDips$Try", "man", "I", false)
  | 3 => ("RodDips$Try", "day", "I", false)
  | 4 => ("RodDips$Try", "kind", "I", false)
  | 5 => ("RodDips$Try", "pipe", "I", false)
  | 6 => ("RodDips$Try", "said", "I", false)
  | 7 => ("RodDips$Try", "near", "I", false)
  | _ => ("RodDips$Try", "excused", "I", false)
def tyX5 : Nat → FieldType := fun k => match k with
  | 0 => .object "RodDips$Trace"
  | 1 => .int
  | 2 => .int
  | 3 => .int
  | 4 => .int
  | 5 => .int
  | 6 => .int
  | 7 => .int
  | _ => .int
theorem nmX5 : ∀ a, a < 9 → ∀ b, b < 9 → a ≠ b → (TX5 a).2.1 ≠ (TX5 b).2.1 := by decide +kernel
theorem tyX5_ok : ∀ k, k < 9 → parseFieldDescriptor (TX5 k).2.2.1 = some (tyX5 k) := by decide +kernel
abbrev cX5_init : ByteArray := prog_7_method_1_code
def yX5_init : MethodName := ⟨RX5, "<init>", "(LRodDips$Trace;)V"⟩
abbrev cX5_tell : ByteArray := prog_7_method_2_code
def yX5_tell : MethodName := ⟨RX5, "tell", "(I)I"⟩
def RX6 : String := "RodDips$Tape"
def TX6 : u_T := fun k => match k with
  | 0 => ("RodDips$Tape", "bytes", "[B", true)
  | 1 => ("RodDips$Tape", "size", "I", false)
  | _ => ("RodDips$Tape", "at", "I", false)
def tyX6 : Nat → FieldType := fun k => match k with
  | 0 => .array .byte
  | 1 => .int
  | _ => .int
theorem nmX6 : ∀ a, a < 3 → ∀ b, b < 3 → a ≠ b → (TX6 a).2.1 ≠ (TX6 b).2.1 := by decide +kernel
theorem tyX6_ok : ∀ k, k < 3 → parseFieldDescriptor (TX6 k).2.2.1 = some (tyX6 k) := by decide +kernel
abbrev cX6_init : ByteArray := prog_8_method_1_code
def yX6_init : MethodName := ⟨RX6, "<init>", "()V"⟩
abbrev cX6_add : ByteArray := prog_8_method_2_code
def yX6_add : MethodName := ⟨RX6, "add", "(JI)Z"⟩
abbrev cX6_copyOf : ByteArray := prog_8_method_3_code
def yX6_copyOf : MethodName := ⟨RX6, "copyOf", "(LRodDips$Tape;)V"⟩
abbrev cX6_readInto : ByteArray := prog_8_method_4_code
def yX6_readInto : MethodName := ⟨RX6, "readInto", "(LRodDips$Text;)I"⟩
abbrev cX6_readClause : ByteArray := prog_8_method_5_code
def yX6_readClause : MethodName := ⟨RX6, "readClause", "(LRodDips$Text;)Z"⟩
abbrev cX6_readWord : ByteArray := prog_8_method_6_code
def yX6_readWord : MethodName := ⟨RX6, "readWord", "(Ljava/lang/String;)Z"⟩
abbrev cX6_readNumber : ByteArray := prog_8_method_7_code
def yX6_readNumber : MethodName := ⟨RX6, "readNumber", "()I"⟩
abbrev cX6_readE : ByteArray := prog_8_method_8_code
def yX6_readE : MethodName := ⟨RX6, "readE", "(LRodDips$Text;I)Z"⟩
abbrev cX6_readF : ByteArray := prog_8_method_9_code
def yX6_readF : MethodName := ⟨RX6, "readF", "(LRodDips$Text;I)Z"⟩
abbrev cX6_readTest : ByteArray := prog_8_method_10_code
def yX6_readTest : MethodName := ⟨RX6, "readTest", "(LRodDips$Text;)Z"⟩
abbrev cX6_look : ByteArray := prog_8_method_11_code
def yX6_look : MethodName := ⟨RX6, "look", "()I"⟩
def RX7 : String := "RodDips$Text"
def TX7 : u_T := fun k => match k with
  | 0 => ("RodDips$Text", "law", "Z", true)
  | 1 => ("RodDips$Text", "letters", "Ljava/lang/String;", true)
  | 2 => ("RodDips$Text", "code", "[I", true)
  | 3 => ("RodDips$Text", "word", "[I", true)
  | 4 => ("RodDips$Text", "number", "[I", true)
  | 5 => ("RodDips$Text", "end", "[I", true)
  | 6 => ("RodDips$Text", "codeSize", "I", false)
  | 7 => ("RodDips$Text", "clauses", "I", false)
  | 8 => ("RodDips$Text", "hit", "I", false)
  | 9 => ("RodDips$Text", "need", "I", false)
  | _ => ("RodDips$Text", "near", "I", false)
def tyX7 : Nat → FieldType := fun k => match k with
  | 0 => .boolean
  | 1 => .object "java/lang/String"
  | 2 => .array .int
  | 3 => .array .int
  | 4 => .array .int
  | 5 => .array .int
  | 6 => .int
  | 7 => .int
  | 8 => .int
  | 9 => .int
  | _ => .int
theorem nmX7 : ∀ a, a < 11 → ∀ b, b < 11 → a ≠ b → (TX7 a).2.1 ≠ (TX7 b).2.1 := by decide +kernel
theorem tyX7_ok : ∀ k, k < 11 → parseFieldDescriptor (TX7 k).2.2.1 = some (tyX7 k) := by decide +kernel
abbrev cX7_init : ByteArray := prog_9_method_1_code
def yX7_init : MethodName := ⟨RX7, "<init>", "(Z)V"⟩
abbrev cX7_clear : ByteArray := prog_9_method_2_code
def yX7_clear : MethodName := ⟨RX7, "clear", "()V"⟩
abbrev cX7_isTold : ByteArray := prog_9_method_3_code
def yX7_isTold : MethodName := ⟨RX7, "isTold", "(I)Z"⟩
abbrev cX7_wordThatBegins : ByteArray := prog_9_method_4_code
def yX7_wordThatBegins : MethodName := ⟨RX7, "wordThatBegins", "(I)Ljava/lang/String;"⟩
abbrev cX7_tell : ByteArray := prog_9_method_5_code
def yX7_tell : MethodName := ⟨RX7, "tell", "(II)V"⟩
abbrev cX7_startClause : ByteArray := prog_9_method_6_code
def yX7_startClause : MethodName := ⟨RX7, "startClause", "(II)V"⟩
abbrev cX7_put : ByteArray := prog_9_method_7_code
def yX7_put : MethodName := ⟨RX7, "put", "(I)V"⟩
abbrev cX7_counts : ByteArray := prog_9_method_8_code
def yX7_counts : MethodName := ⟨RX7, "counts", "(LRodDips$Try;)Z"⟩
abbrev cX7_lawful : ByteArray := prog_9_method_9_code
def yX7_lawful : MethodName := ⟨RX7, "lawful", "(LRodDips$Try;II)I"⟩
abbrev cX7_holds : ByteArray := prog_9_method_10_code
def yX7_holds : MethodName := ⟨RX7, "holds", "(ILRodDips$Try;I)Z"⟩
abbrev cX7_testHolds : ByteArray := prog_9_method_11_code
def yX7_testHolds : MethodName := ⟨RX7, "testHolds", "(ILRodDips$Try;I)Z"⟩
def RX8 : String := "RodDips$Trace"
def TX8 : u_T := fun k => match k with
  | 0 => ("RodDips$Trace", "kept", "[I", true)
  | _ => ("RodDips$Trace", "ran", "I", false)
def tyX8 : Nat → FieldType := fun k => match k with
  | 0 => .array .int
  | _ => .int
theorem nmX8 : ∀ a, a < 2 → ∀ b, b < 2 → a ≠ b → (TX8 a).2.1 ≠ (TX8 b).2.1 := by decide +kernel
theorem tyX8_ok : ∀ k, k < 2 → parseFieldDescriptor (TX8 k).2.2.1 = some (tyX8 k) := by decide +kernel
abbrev cX8_init : ByteArray := prog_10_method_1_code
def yX8_init : MethodName := ⟨RX8, "<init>", "()V"⟩
abbrev cX8_clear : ByteArray := prog_10_method_2_code
def yX8_clear : MethodName := ⟨RX8, "clear", "()V"⟩
abbrev cX8_add : ByteArray := prog_10_method_3_code
def yX8_add : MethodName := ⟨RX8, "add", "(I)V"⟩
abbrev cX8_bodyAt : ByteArray := prog_10_method_4_code
def yX8_bodyAt : MethodName := ⟨RX8, "bodyAt", "(I)I"⟩
def RX9 : String := "RodDips$Try"
def TX9 : u_T := fun k => match k with
  | 0 => ("RodDips$Try", "trace", "LRodDips$Trace;", true)
  | 1 => ("RodDips$Try", "number", "I", false)
  | 2 => ("RodDips$Try", "man", "I", false)
  | 3 => ("RodDips$Try", "day", "I", false)
  | 4 => ("RodDips$Try", "kind", "I", false)
  | 5 => ("RodDips$Try", "pipe", "I", false)
  | 6 => ("RodDips$Try", "said", "I", false)
  | 7 => ("RodDips$Try", "near", "I", false)
  | _ => ("RodDips$Try", "excused", "I", false)
def tyX9 : Nat → FieldType := fun k => match k with
  | 0 => .object "RodDips$Trace"
  | 1 => .int
  | 2 => .int
  | 3 => .int
  | 4 => .int
  | 5 => .int
  | 6 => .int
  | 7 => .int
  | _ => .int
theorem nmX9 : ∀ a, a < 9 → ∀ b, b < 9 → a ≠ b → (TX9 a).2.1 ≠ (TX9 b).2.1 := by decide +kernel
theorem tyX9_ok : ∀ k, k < 9 → parseFieldDescriptor (TX9 k).2.2.1 = some (tyX9 k) := by decide +kernel
abbrev cX9_init : ByteArray := prog_11_method_1_code
def yX9_init : MethodName := ⟨RX9, "<init>", "(LRodDips$Trace;)V"⟩
abbrev cX9_number : ByteArray := prog_11_method_2_code
def yX9_number : MethodName := ⟨RX9, "number", "()I"⟩
abbrev cX9_place : ByteArray := prog_11_method_3_code
def yX9_place : MethodName := ⟨RX9, "place", "()I"⟩
abbrev cX9_begin : ByteArray := prog_11_method_4_code
def yX9_begin : MethodName := ⟨RX9, "begin", "(I)V"⟩
abbrev cX9_valueOf : ByteArray := prog_11_method_5_code
def yX9_valueOf : MethodName := ⟨RX9, "valueOf", "(II)I"⟩
abbrev cX9_say : ByteArray := prog_11_method_6_code
def yX9_say : MethodName := ⟨RX9, "say", "(I)I"⟩
abbrev cX9_know : ByteArray := prog_11_method_7_code
def yX9_know : MethodName := ⟨RX9, "know", "(I)I"⟩
abbrev cX9_tell : ByteArray := prog_11_method_8_code
def yX9_tell : MethodName := ⟨RX9, "tell", "(I)I"⟩
def RX10 : String := "RodDips$Warm"
def TX10 : u_T := fun k => match k with
  | 0 => ("RodDips$Try", "trace", "LRodDips$Trace;", true)
  | 1 => ("RodDips$Try", "number", "I", false)
  | 2 => ("RodDips$Try", "man", "I", false)
  | 3 => ("RodDips$Try", "day", "I", false)
  | 4 => ("RodDips$Try", "kind", "I", false)
  | 5 => ("RodDips$Try", "pipe", "I", false)
  | 6 => ("RodDips$Try", "said", "I", false)
  | 7 => ("RodDips$Try", "near", "I", false)
  | _ => ("RodDips$Try", "excused", "I", false)
def tyX10 : Nat → FieldType := fun k => match k with
  | 0 => .object "RodDips$Trace"
  | 1 => .int
  | 2 => .int
  | 3 => .int
  | 4 => .int
  | 5 => .int
  | 6 => .int
  | 7 => .int
  | _ => .int
theorem nmX10 : ∀ a, a < 9 → ∀ b, b < 9 → a ≠ b → (TX10 a).2.1 ≠ (TX10 b).2.1 := by decide +kernel
theorem tyX10_ok : ∀ k, k < 9 → parseFieldDescriptor (TX10 k).2.2.1 = some (tyX10 k) := by decide +kernel
abbrev cX10_init : ByteArray := prog_12_method_1_code
def yX10_init : MethodName := ⟨RX10, "<init>", "(LRodDips$Trace;)V"⟩
abbrev cX10_know : ByteArray := prog_12_method_2_code
def yX10_know : MethodName := ⟨RX10, "know", "(I)I"⟩
def RX11 : String := "RodDips"
def TX11 : u_T := fun k => match k with
  | 0 => ("RodDips", "places", "I", false)
  | 1 => ("RodDips", "tries", "[LRodDips$Try;", true)
  | 2 => ("RodDips", "tryCount", "I", false)
  | 3 => ("RodDips", "tape", "LRodDips$Tape;", true)
  | 4 => ("RodDips", "plans", "[LRodDips$Text;", true)
  | 5 => ("RodDips", "planCount", "I", false)
  | 6 => ("RodDips", "laws", "[LRodDips$Text;", true)
  | 7 => ("RodDips", "lawCount", "I", false)
  | 8 => ("RodDips", "odds", "LRodDips$Odds;", true)
  | 9 => ("RodDips", "feeling", "LRodDips$Odds;", true)
  | 10 => ("RodDips", "trace", "LRodDips$Trace;", true)
  | 11 => ("RodDips", "imageTaken", "Z", false)
  | 12 => ("RodDips", "imagePlaces", "I", false)
  | 13 => ("RodDips", "imageTries", "I", false)
  | 14 => ("RodDips", "imagePlans", "I", false)
  | 15 => ("RodDips", "imageLaws", "I", false)
  | 16 => ("RodDips", "imageExcused", "[I", true)
  | _ => ("RodDips", "imageTape", "LRodDips$Tape;", true)
def tyX11 : Nat → FieldType := fun k => match k with
  | 0 => .int
  | 1 => .array (.object "RodDips$Try")
  | 2 => .int
  | 3 => .object "RodDips$Tape"
  | 4 => .array (.object "RodDips$Text")
  | 5 => .int
  | 6 => .array (.object "RodDips$Text")
  | 7 => .int
  | 8 => .object "RodDips$Odds"
  | 9 => .object "RodDips$Odds"
  | 10 => .object "RodDips$Trace"
  | 11 => .boolean
  | 12 => .int
  | 13 => .int
  | 14 => .int
  | 15 => .int
  | 16 => .array .int
  | _ => .object "RodDips$Tape"
theorem nmX11 : ∀ a, a < 18 → ∀ b, b < 18 → a ≠ b → (TX11 a).2.1 ≠ (TX11 b).2.1 := by decide +kernel
theorem tyX11_ok : ∀ k, k < 18 → parseFieldDescriptor (TX11 k).2.2.1 = some (tyX11 k) := by decide +kernel
abbrev cX11_init : ByteArray := prog_1_method_1_code
def yX11_init : MethodName := ⟨RX11, "<init>", "()V"⟩
abbrev cX11_barn : ByteArray := prog_1_method_2_code
def yX11_barn : MethodName := ⟨RX11, "barn", "(I)I"⟩
abbrev cX11_tryout : ByteArray := prog_1_method_3_code
def yX11_tryout : MethodName := ⟨RX11, "tryout", "(IIIII)I"⟩
abbrev cX11_excuse : ByteArray := prog_1_method_4_code
def yX11_excuse : MethodName := ⟨RX11, "excuse", "(II)I"⟩
abbrev cX11_of : ByteArray := prog_1_method_5_code
def yX11_of : MethodName := ⟨RX11, "of", "(II)I"⟩
abbrev cX11_feed : ByteArray := prog_1_method_6_code
def yX11_feed : MethodName := ⟨RX11, "feed", "(JI)I"⟩
abbrev cX11_plan : ByteArray := prog_1_method_7_code
def yX11_plan : MethodName := ⟨RX11, "plan", "()I"⟩
abbrev cX11_told : ByteArray := prog_1_method_8_code
def yX11_told : MethodName := ⟨RX11, "told", "(II)I"⟩
abbrev cX11_passes : ByteArray := prog_1_method_9_code
def yX11_passes : MethodName := ⟨RX11, "passes", "(I)I"⟩
abbrev cX11_chance : ByteArray := prog_1_method_10_code
def yX11_chance : MethodName := ⟨RX11, "chance", "(III)J"⟩
abbrev cX11_odds : ByteArray := prog_1_method_11_code
def yX11_odds : MethodName := ⟨RX11, "odds", "(IIIII)J"⟩
abbrev cX11_best : ByteArray := prog_1_method_12_code
def yX11_best : MethodName := ⟨RX11, "best", "(IIII)J"⟩
abbrev cX11_fixed : ByteArray := prog_1_method_13_code
def yX11_fixed : MethodName := ⟨RX11, "fixed", "(II)I"⟩
abbrev cX11_beats : ByteArray := prog_1_method_14_code
def yX11_beats : MethodName := ⟨RX11, "beats", "(I)I"⟩
abbrev cX11_otherwise : ByteArray := prog_1_method_15_code
def yX11_otherwise : MethodName := ⟨RX11, "otherwise", "(I)I"⟩
abbrev cX11_afterwards : ByteArray := prog_1_method_16_code
def yX11_afterwards : MethodName := ⟨RX11, "afterwards", "(II)I"⟩
abbrev cX11_law : ByteArray := prog_1_method_17_code
def yX11_law : MethodName := ⟨RX11, "law", "()I"⟩
abbrev cX11_says : ByteArray := prog_1_method_18_code
def yX11_says : MethodName := ⟨RX11, "says", "(II)I"⟩
abbrev cX11_cannot : ByteArray := prog_1_method_19_code
def yX11_cannot : MethodName := ⟨RX11, "cannot", "(I)I"⟩
abbrev cX11_fits : ByteArray := prog_1_method_20_code
def yX11_fits : MethodName := ⟨RX11, "fits", "(II)I"⟩
abbrev cX11_let : ByteArray := prog_1_method_21_code
def yX11_let : MethodName := ⟨RX11, "let", "(I)I"⟩
abbrev cX11_fair : ByteArray := prog_1_method_22_code
def yX11_fair : MethodName := ⟨RX11, "fair", "(IIIII)I"⟩
abbrev cX11_excuses : ByteArray := prog_1_method_23_code
def yX11_excuses : MethodName := ⟨RX11, "excuses", "(IIII)I"⟩
abbrev cX11_field : ByteArray := prog_1_method_24_code
def yX11_field : MethodName := ⟨RX11, "field", "(III)J"⟩
abbrev cX11_holes : ByteArray := prog_1_method_25_code
def yX11_holes : MethodName := ⟨RX11, "holes", "(II)I"⟩
abbrev cX11_rod : ByteArray := prog_1_method_26_code
def yX11_rod : MethodName := ⟨RX11, "rod", "(III)I"⟩
abbrev cX11_papers : ByteArray := prog_1_method_27_code
def yX11_papers : MethodName := ⟨RX11, "papers", "(III)I"⟩
abbrev cX11_act : ByteArray := prog_1_method_28_code
def yX11_act : MethodName := ⟨RX11, "act", "(III)I"⟩
abbrev cX11_trace : ByteArray := prog_1_method_29_code
def yX11_trace : MethodName := ⟨RX11, "trace", "(I)I"⟩
abbrev cX11_as : ByteArray := prog_1_method_30_code
def yX11_as : MethodName := ⟨RX11, "as", "(II)I"⟩
abbrev cX11_image : ByteArray := prog_1_method_31_code
def yX11_image : MethodName := ⟨RX11, "image", "()I"⟩
abbrev cX11_undo : ByteArray := prog_1_method_32_code
def yX11_undo : MethodName := ⟨RX11, "undo", "()I"⟩
abbrev cX11_count : ByteArray := prog_1_method_33_code
def yX11_count : MethodName := ⟨RX11, "count", "(I)I"⟩
abbrev cX11_isMan : ByteArray := prog_1_method_34_code
def yX11_isMan : MethodName := ⟨RX11, "isMan", "(I)Z"⟩
abbrev cX11_isKind : ByteArray := prog_1_method_35_code
def yX11_isKind : MethodName := ⟨RX11, "isKind", "(I)Z"⟩
abbrev cX11_isHitNumber : ByteArray := prog_1_method_36_code
def yX11_isHitNumber : MethodName := ⟨RX11, "isHitNumber", "(I)Z"⟩
abbrev cX11_isOneOfTwo : ByteArray := prog_1_method_37_code
def yX11_isOneOfTwo : MethodName := ⟨RX11, "isOneOfTwo", "(I)Z"⟩
abbrev cX11_isPercent : ByteArray := prog_1_method_38_code
def yX11_isPercent : MethodName := ⟨RX11, "isPercent", "(I)Z"⟩
abbrev cX11_isPlace : ByteArray := prog_1_method_39_code
def yX11_isPlace : MethodName := ⟨RX11, "isPlace", "(I)Z"⟩
abbrev cX11_isSet : ByteArray := prog_1_method_40_code
def yX11_isSet : MethodName := ⟨RX11, "isSet", "(I)Z"⟩
abbrev cX11_isKindOrUnder : ByteArray := prog_1_method_41_code
def yX11_isKindOrUnder : MethodName := ⟨RX11, "isKindOrUnder", "(II)Z"⟩
abbrev cX11_tryAt : ByteArray := prog_1_method_42_code
def yX11_tryAt : MethodName := ⟨RX11, "tryAt", "(I)LRodDips$Try;"⟩
abbrev cX11_planAt : ByteArray := prog_1_method_43_code
def yX11_planAt : MethodName := ⟨RX11, "planAt", "(I)LRodDips$Text;"⟩
abbrev cX11_lawAt : ByteArray := prog_1_method_44_code
def yX11_lawAt : MethodName := ⟨RX11, "lawAt", "(I)LRodDips$Text;"⟩
abbrev cX11_madeOfKind : ByteArray := prog_1_method_45_code
def yX11_madeOfKind : MethodName := ⟨RX11, "madeOfKind", "(I)LRodDips$Try;"⟩
abbrev cX11_bitsOfMan : ByteArray := prog_1_method_46_code
def yX11_bitsOfMan : MethodName := ⟨RX11, "bitsOfMan", "(I)I"⟩
abbrev cX11_bitsNoFartherThan : ByteArray := prog_1_method_47_code
def yX11_bitsNoFartherThan : MethodName := ⟨RX11, "bitsNoFartherThan", "(I)I"⟩
abbrev cX11_bitsExcusedAfter : ByteArray := prog_1_method_48_code
def yX11_bitsExcusedAfter : MethodName := ⟨RX11, "bitsExcusedAfter", "()I"⟩
abbrev cX11_countedBits : ByteArray := prog_1_method_49_code
def yX11_countedBits : MethodName := ⟨RX11, "countedBits", "(LRodDips$Text;)I"⟩
abbrev cX11_hitBits : ByteArray := prog_1_method_50_code
def yX11_hitBits : MethodName := ⟨RX11, "hitBits", "(LRodDips$Text;)I"⟩
abbrev cX11_passingMen : ByteArray := prog_1_method_51_code
def yX11_passingMen : MethodName := ⟨RX11, "passingMen", "(II)I"⟩
abbrev cX11_bitsThatLawHas : ByteArray := prog_1_method_52_code
def yX11_bitsThatLawHas : MethodName := ⟨RX11, "bitsThatLawHas", "(LRodDips$Text;)I"⟩
abbrev cX11_saidBefore : ByteArray := prog_1_method_53_code
def yX11_saidBefore : MethodName := ⟨RX11, "saidBefore", "(LRodDips$Try;)I"⟩
abbrev cX11_placesWithin : ByteArray := prog_1_method_54_code
def yX11_placesWithin : MethodName := ⟨RX11, "placesWithin", "(II)I"⟩
abbrev cX11_setOdds : ByteArray := prog_1_method_55_code
def yX11_setOdds : MethodName := ⟨RX11, "setOdds", "(II)V"⟩
abbrev cX11_bestOfMen : ByteArray := prog_1_method_56_code
def yX11_bestOfMen : MethodName := ⟨RX11, "bestOfMen", "(LRodDips$Text;II)J"⟩
abbrev cX11_bestAlone : ByteArray := prog_1_method_57_code
def yX11_bestAlone : MethodName := ⟨RX11, "bestAlone", "(LRodDips$Text;II)J"⟩
abbrev cX11_sumOfNears : ByteArray := prog_1_method_58_code
def yX11_sumOfNears : MethodName := ⟨RX11, "sumOfNears", "(II)I"⟩
abbrev cX11_sumOfOwnNears : ByteArray := prog_1_method_59_code
def yX11_sumOfOwnNears : MethodName := ⟨RX11, "sumOfOwnNears", "(I)I"⟩
abbrev cX11_hitsBySaying : ByteArray := prog_1_method_60_code
def yX11_hitsBySaying : MethodName := ⟨RX11, "hitsBySaying", "(III)I"⟩
abbrev cX11_waysAsGood : ByteArray := prog_1_method_61_code
def yX11_waysAsGood : MethodName := ⟨RX11, "waysAsGood", "(II)J"⟩
abbrev cX11_leastLeftOut : ByteArray := prog_1_method_62_code
def yX11_leastLeftOut : MethodName := ⟨RX11, "leastLeftOut", "(III)I"⟩
abbrev cX11_partOf : ByteArray := prog_1_method_63_code
def yX11_partOf : MethodName := ⟨RX11, "partOf", "(JJI)J"⟩
abbrev cX11_greatestDivisor : ByteArray := prog_1_method_64_code
def yX11_greatestDivisor : MethodName := ⟨RX11, "greatestDivisor", "(JJ)J"⟩
def RX12 : String := "RodDipsModel"
def TX12 : u_T := fun k => match k with
  | 0 => ("RodDipsModel", "thrown", "I", false)
  | 1 => ("RodDipsModel", "s", "[I", true)
  | 2 => ("RodDipsModel", "image", "[I", true)
  | 3 => ("RodDipsModel", "hasImage", "Z", false)
  | 4 => ("RodDipsModel", "act", "I", false)
  | 5 => ("RodDipsModel", "spot", "I", false)
  | 6 => ("RodDipsModel", "end", "I", false)
  | 7 => ("RodDipsModel", "isWrong", "Z", false)
  | 8 => ("RodDipsModel", "open", "I", false)
  | 9 => ("RodDipsModel", "truths", "[Z", true)
  | 10 => ("RodDipsModel", "many", "[I", true)
  | 11 => ("RodDipsModel", "holds", "[Z", true)
  | 12 => ("RodDipsModel", "firstTold", "I", false)
  | 13 => ("RodDipsModel", "ways", "[J", true)
  | 14 => ("RodDipsModel", "all", "J", false)
  | 15 => ("RodDipsModel", "bodies", "[I", true)
  | 16 => ("RodDipsModel", "ran", "I", false)
  | 17 => ("RodDipsModel", "kind", "I", false)
  | 18 => ("RodDipsModel", "number", "I", false)
  | _ => ("RodDipsModel", "said", "I", false)
def tyX12 : Nat → FieldType := fun k => match k with
  | 0 => .int
  | 1 => .array .int
  | 2 => .array .int
  | 3 => .boolean
  | 4 => .int
  | 5 => .int
  | 6 => .int
  | 7 => .boolean
  | 8 => .int
  | 9 => .array .boolean
  | 10 => .array .int
  | 11 => .array .boolean
  | 12 => .int
  | 13 => .array .long
  | 14 => .long
  | 15 => .array .int
  | 16 => .int
  | 17 => .int
  | 18 => .int
  | _ => .int
theorem nmX12 : ∀ a, a < 20 → ∀ b, b < 20 → a ≠ b → (TX12 a).2.1 ≠ (TX12 b).2.1 := by decide +kernel
theorem tyX12_ok : ∀ k, k < 20 → parseFieldDescriptor (TX12 k).2.2.1 = some (tyX12 k) := by decide +kernel
abbrev cX12_init : ByteArray := prog_14_method_1_code
def yX12_init : MethodName := ⟨RX12, "<init>", "()V"⟩
abbrev cX12_in : ByteArray := prog_14_method_3_code
def yX12_in : MethodName := ⟨RX12, "in", "(III)Z"⟩
abbrev cX12_size : ByteArray := prog_14_method_4_code
def yX12_size : MethodName := ⟨RX12, "size", "(I)I"⟩
abbrev cX12_count1 : ByteArray := prog_14_method_5_code
def yX12_count1 : MethodName := ⟨RX12, "count1", "(I)I"⟩
abbrev cX12_isTry : ByteArray := prog_14_method_6_code
def yX12_isTry : MethodName := ⟨RX12, "isTry", "(I)Z"⟩
abbrev cX12_areTries : ByteArray := prog_14_method_7_code
def yX12_areTries : MethodName := ⟨RX12, "areTries", "(I)Z"⟩
abbrev cX12_isPlan : ByteArray := prog_14_method_8_code
def yX12_isPlan : MethodName := ⟨RX12, "isPlan", "(I)Z"⟩
abbrev cX12_isLaw : ByteArray := prog_14_method_9_code
def yX12_isLaw : MethodName := ⟨RX12, "isLaw", "(I)Z"⟩
abbrev cX12_isMan : ByteArray := prog_14_method_10_code
def yX12_isMan : MethodName := ⟨RX12, "isMan", "(I)Z"⟩
abbrev cX12_isPlace : ByteArray := prog_14_method_11_code
def yX12_isPlace : MethodName := ⟨RX12, "isPlace", "(I)Z"⟩
abbrev cX12_barn : ByteArray := prog_14_method_12_code
def yX12_barn : MethodName := ⟨RX12, "barn", "(I)I"⟩
abbrev cX12_tryout : ByteArray := prog_14_method_13_code
def yX12_tryout : MethodName := ⟨RX12, "tryout", "(IIIII)I"⟩
abbrev cX12_excuse : ByteArray := prog_14_method_14_code
def yX12_excuse : MethodName := ⟨RX12, "excuse", "(II)I"⟩
abbrev cX12_nearOf : ByteArray := prog_14_method_15_code
def yX12_nearOf : MethodName := ⟨RX12, "nearOf", "(I)I"⟩
abbrev cX12_of : ByteArray := prog_14_method_16_code
def yX12_of : MethodName := ⟨RX12, "of", "(II)I"⟩
abbrev cX12_feed : ByteArray := prog_14_method_17_code
def yX12_feed : MethodName := ⟨RX12, "feed", "(JI)I"⟩
abbrev cX12_here : ByteArray := prog_14_method_18_code
def yX12_here : MethodName := ⟨RX12, "here", "()I"⟩
abbrev cX12_must : ByteArray := prog_14_method_19_code
def yX12_must : MethodName := ⟨RX12, "must", "(I)V"⟩
abbrev cX12_spells : ByteArray := prog_14_method_20_code
def yX12_spells : MethodName := ⟨RX12, "spells", "(Ljava/lang/String;)V"⟩
abbrev cX12_figures : ByteArray := prog_14_method_21_code
def yX12_figures : MethodName := ⟨RX12, "figures", "()I"⟩
abbrev cX12_among : ByteArray := prog_14_method_22_code
def yX12_among : MethodName := ⟨RX12, "among", "(Ljava/lang/String;)I"⟩
abbrev cX12_emits : ByteArray := prog_14_method_23_code
def yX12_emits : MethodName := ⟨RX12, "emits", "(I)V"⟩
abbrev cX12_factor : ByteArray := prog_14_method_24_code
def yX12_factor : MethodName := ⟨RX12, "factor", "()V"⟩
abbrev cX12_every : ByteArray := prog_14_method_25_code
def yX12_every : MethodName := ⟨RX12, "every", "()V"⟩
abbrev cX12_some : ByteArray := prog_14_method_26_code
def yX12_some : MethodName := ⟨RX12, "some", "()V"⟩
abbrev cX12_tested : ByteArray := prog_14_method_27_code
def yX12_tested : MethodName := ⟨RX12, "tested", "(ILjava/lang/String;)V"⟩
abbrev cX12_numbered : ByteArray := prog_14_method_28_code
def yX12_numbered : MethodName := ⟨RX12, "numbered", "(ILjava/lang/String;)V"⟩
abbrev cX12_saying : ByteArray := prog_14_method_29_code
def yX12_saying : MethodName := ⟨RX12, "saying", "(ILjava/lang/String;)V"⟩
abbrev cX12_planHere : ByteArray := prog_14_method_30_code
def yX12_planHere : MethodName := ⟨RX12, "planHere", "()V"⟩
abbrev cX12_lawHere : ByteArray := prog_14_method_31_code
def yX12_lawHere : MethodName := ⟨RX12, "lawHere", "()V"⟩
abbrev cX12_reads : ByteArray := prog_14_method_32_code
def yX12_reads : MethodName := ⟨RX12, "reads", "(I)I"⟩
abbrev cX12_plan : ByteArray := prog_14_method_33_code
def yX12_plan : MethodName := ⟨RX12, "plan", "()I"⟩
abbrev cX12_law : ByteArray := prog_14_method_34_code
def yX12_law : MethodName := ⟨RX12, "law", "()I"⟩
abbrev cX12_before : ByteArray := prog_14_method_35_code
def yX12_before : MethodName := ⟨RX12, "before", "(I)I"⟩
abbrev cX12_letter : ByteArray := prog_14_method_36_code
def yX12_letter : MethodName := ⟨RX12, "letter", "(III)I"⟩
abbrev cX12_looks : ByteArray := prog_14_method_37_code
def yX12_looks : MethodName := ⟨RX12, "looks", "(II)V"⟩
abbrev cX12_isCounted : ByteArray := prog_14_method_38_code
def yX12_isCounted : MethodName := ⟨RX12, "isCounted", "(II)Z"⟩
abbrev cX12_counted : ByteArray := prog_14_method_39_code
def yX12_counted : MethodName := ⟨RX12, "counted", "(I)I"⟩
abbrev cX12_hitsOf : ByteArray := prog_14_method_40_code
def yX12_hitsOf : MethodName := ⟨RX12, "hitsOf", "(II)I"⟩
abbrev cX12_ofMan : ByteArray := prog_14_method_41_code
def yX12_ofMan : MethodName := ⟨RX12, "ofMan", "(II)I"⟩
abbrev cX12_told : ByteArray := prog_14_method_42_code
def yX12_told : MethodName := ⟨RX12, "told", "(II)I"⟩
abbrev cX12_passing : ByteArray := prog_14_method_43_code
def yX12_passing : MethodName := ⟨RX12, "passing", "(I)I"⟩
abbrev cX12_passes : ByteArray := prog_14_method_44_code
def yX12_passes : MethodName := ⟨RX12, "passes", "(I)I"⟩
abbrev cX12_divisor : ByteArray := prog_14_method_45_code
def yX12_divisor : MethodName := ⟨RX12, "divisor", "(JJ)J"⟩
abbrev cX12_lowest : ByteArray := prog_14_method_46_code
def yX12_lowest : MethodName := ⟨RX12, "lowest", "(JJI)J"⟩
abbrev cX12_placesBy : ByteArray := prog_14_method_47_code
def yX12_placesBy : MethodName := ⟨RX12, "placesBy", "(II)I"⟩
abbrev cX12_chance : ByteArray := prog_14_method_48_code
def yX12_chance : MethodName := ⟨RX12, "chance", "(III)J"⟩
abbrev cX12_counts : ByteArray := prog_14_method_49_code
def yX12_counts : MethodName := ⟨RX12, "counts", "(II)V"⟩
abbrev cX12_orMore : ByteArray := prog_14_method_50_code
def yX12_orMore : MethodName := ⟨RX12, "orMore", "(I)J"⟩
abbrev cX12_odds : ByteArray := prog_14_method_51_code
def yX12_odds : MethodName := ⟨RX12, "odds", "(IIIII)J"⟩
abbrev cX12_bestOfMen : ByteArray := prog_14_method_52_code
def yX12_bestOfMen : MethodName := ⟨RX12, "bestOfMen", "(III)J"⟩
abbrev cX12_aloneOf : ByteArray := prog_14_method_53_code
def yX12_aloneOf : MethodName := ⟨RX12, "aloneOf", "(III)J"⟩
abbrev cX12_best : ByteArray := prog_14_method_54_code
def yX12_best : MethodName := ⟨RX12, "best", "(IIII)J"⟩
abbrev cX12_sumFrom : ByteArray := prog_14_method_55_code
def yX12_sumFrom : MethodName := ⟨RX12, "sumFrom", "(II)I"⟩
abbrev cX12_fixed : ByteArray := prog_14_method_56_code
def yX12_fixed : MethodName := ⟨RX12, "fixed", "(II)I"⟩
abbrev cX12_beats : ByteArray := prog_14_method_57_code
def yX12_beats : MethodName := ⟨RX12, "beats", "(I)I"⟩
abbrev cX12_otherwise : ByteArray := prog_14_method_58_code
def yX12_otherwise : MethodName := ⟨RX12, "otherwise", "(I)I"⟩
abbrev cX12_afterwards : ByteArray := prog_14_method_59_code
def yX12_afterwards : MethodName := ⟨RX12, "afterwards", "(II)I"⟩
abbrev cX12_kept : ByteArray := prog_14_method_60_code
def yX12_kept : MethodName := ⟨RX12, "kept", "(I)I"⟩
abbrev cX12_saysBy : ByteArray := prog_14_method_61_code
def yX12_saysBy : MethodName := ⟨RX12, "saysBy", "(II)I"⟩
abbrev cX12_says : ByteArray := prog_14_method_62_code
def yX12_says : MethodName := ⟨RX12, "says", "(II)I"⟩
abbrev cX12_has : ByteArray := prog_14_method_63_code
def yX12_has : MethodName := ⟨RX12, "has", "(II)Z"⟩
abbrev cX12_cannot : ByteArray := prog_14_method_64_code
def yX12_cannot : MethodName := ⟨RX12, "cannot", "(I)I"⟩
abbrev cX12_fitting : ByteArray := prog_14_method_65_code
def yX12_fitting : MethodName := ⟨RX12, "fitting", "(II)I"⟩
abbrev cX12_fits : ByteArray := prog_14_method_66_code
def yX12_fits : MethodName := ⟨RX12, "fits", "(II)I"⟩
abbrev cX12_let : ByteArray := prog_14_method_67_code
def yX12_let : MethodName := ⟨RX12, "let", "(I)I"⟩
abbrev cX12_choose : ByteArray := prog_14_method_68_code
def yX12_choose : MethodName := ⟨RX12, "choose", "(II)J"⟩
abbrev cX12_power : ByteArray := prog_14_method_69_code
def yX12_power : MethodName := ⟨RX12, "power", "(JI)J"⟩
abbrev cX12_fewer : ByteArray := prog_14_method_70_code
def yX12_fewer : MethodName := ⟨RX12, "fewer", "(IIII)J"⟩
abbrev cX12_fair : ByteArray := prog_14_method_71_code
def yX12_fair : MethodName := ⟨RX12, "fair", "(IIIII)I"⟩
abbrev cX12_excuses : ByteArray := prog_14_method_72_code
def yX12_excuses : MethodName := ⟨RX12, "excuses", "(IIII)I"⟩
abbrev cX12_field : ByteArray := prog_14_method_73_code
def yX12_field : MethodName := ⟨RX12, "field", "(III)J"⟩
abbrev cX12_holes : ByteArray := prog_14_method_74_code
def yX12_holes : MethodName := ⟨RX12, "holes", "(II)I"⟩
abbrev cX12_rod : ByteArray := prog_14_method_75_code
def yX12_rod : MethodName := ⟨RX12, "rod", "(III)I"⟩
abbrev cX12_papers : ByteArray := prog_14_method_76_code
def yX12_papers : MethodName := ⟨RX12, "papers", "(III)I"⟩
abbrev cX12_runs : ByteArray := prog_14_method_77_code
def yX12_runs : MethodName := ⟨RX12, "runs", "(I)V"⟩
abbrev cX12_isUnder : ByteArray := prog_14_method_78_code
def yX12_isUnder : MethodName := ⟨RX12, "isUnder", "(II)Z"⟩
abbrev cX12_plainSays : ByteArray := prog_14_method_79_code
def yX12_plainSays : MethodName := ⟨RX12, "plainSays", "(I)I"⟩
abbrev cX12_saysActs : ByteArray := prog_14_method_80_code
def yX12_saysActs : MethodName := ⟨RX12, "saysActs", "(I)I"⟩
abbrev cX12_plainKnows : ByteArray := prog_14_method_81_code
def yX12_plainKnows : MethodName := ⟨RX12, "plainKnows", "(I)I"⟩
abbrev cX12_knowsActs : ByteArray := prog_14_method_82_code
def yX12_knowsActs : MethodName := ⟨RX12, "knowsActs", "(I)I"⟩
abbrev cX12_plainTells : ByteArray := prog_14_method_83_code
def yX12_plainTells : MethodName := ⟨RX12, "plainTells", "(I)I"⟩
abbrev cX12_tellsActs : ByteArray := prog_14_method_84_code
def yX12_tellsActs : MethodName := ⟨RX12, "tellsActs", "(I)I"⟩
abbrev cX12_act : ByteArray := prog_14_method_85_code
def yX12_act : MethodName := ⟨RX12, "act", "(III)I"⟩
abbrev cX12_trace : ByteArray := prog_14_method_86_code
def yX12_trace : MethodName := ⟨RX12, "trace", "(I)I"⟩
abbrev cX12_as : ByteArray := prog_14_method_87_code
def yX12_as : MethodName := ⟨RX12, "as", "(II)I"⟩
abbrev cX12_image : ByteArray := prog_14_method_88_code
def yX12_image : MethodName := ⟨RX12, "image", "()I"⟩
abbrev cX12_undo : ByteArray := prog_14_method_89_code
def yX12_undo : MethodName := ⟨RX12, "undo", "()I"⟩
abbrev cX12_count : ByteArray := prog_14_method_90_code
def yX12_count : MethodName := ⟨RX12, "count", "(I)I"⟩
def RJx145de : String := "java/io/Serializable"
def TJx145de : u_T := fun k => match k with
  | _ => ("", "", "", false)
def tyJx145de : Nat → FieldType := fun k => match k with
  | _ => .int
theorem nmJx145de : ∀ a, a < 0 → ∀ b, b < 0 → a ≠ b → (TJx145de a).2.1 ≠ (TJx145de b).2.1 := by decide +kernel
theorem tyJx145de_ok : ∀ k, k < 0 → parseFieldDescriptor (TJx145de k).2.2.1 = some (tyJx145de k) := by decide +kernel
def RJx9f9b0 : String := "java/lang/CharSequence"
def TJx9f9b0 : u_T := fun k => match k with
  | _ => ("", "", "", false)
def tyJx9f9b0 : Nat → FieldType := fun k => match k with
  | _ => .int
theorem nmJx9f9b0 : ∀ a, a < 0 → ∀ b, b < 0 → a ≠ b → (TJx9f9b0 a).2.1 ≠ (TJx9f9b0 b).2.1 := by decide +kernel
theorem tyJx9f9b0_ok : ∀ k, k < 0 → parseFieldDescriptor (TJx9f9b0 k).2.2.1 = some (tyJx9f9b0 k) := by decide +kernel
def RJ11 : String := "java/lang/Character"
def TJ11 : u_T := fun k => match k with
  | _ => ("", "", "", false)
def tyJ11 : Nat → FieldType := fun k => match k with
  | _ => .int
theorem nmJ11 : ∀ a, a < 0 → ∀ b, b < 0 → a ≠ b → (TJ11 a).2.1 ≠ (TJ11 b).2.1 := by decide +kernel
theorem tyJ11_ok : ∀ k, k < 0 → parseFieldDescriptor (TJ11 k).2.2.1 = some (tyJ11 k) := by decide +kernel
abbrev cJ11_isValidCodePoint_9a6ad : ByteArray := prog_15_method_11_code
def yJ11_isValidCodePoint_9a6ad : MethodName := ⟨RJ11, "isValidCodePoint", "(I)Z"⟩
abbrev cJ11_highSurrogate_5068e : ByteArray := prog_15_method_28_code
def yJ11_highSurrogate_5068e : MethodName := ⟨RJ11, "highSurrogate", "(I)C"⟩
abbrev cJ11_lowSurrogate_5068e : ByteArray := prog_15_method_29_code
def yJ11_lowSurrogate_5068e : MethodName := ⟨RJ11, "lowSurrogate", "(I)C"⟩
def RJxb160c : String := "java/lang/Comparable"
def TJxb160c : u_T := fun k => match k with
  | _ => ("", "", "", false)
def tyJxb160c : Nat → FieldType := fun k => match k with
  | _ => .int
theorem nmJxb160c : ∀ a, a < 0 → ∀ b, b < 0 → a ≠ b → (TJxb160c a).2.1 ≠ (TJxb160c b).2.1 := by decide +kernel
theorem tyJxb160c_ok : ∀ k, k < 0 → parseFieldDescriptor (TJxb160c k).2.2.1 = some (tyJxb160c k) := by decide +kernel
def RJ6 : String := "java/lang/Integer"
def TJ6 : u_T := fun k => match k with
  | _ => ("", "", "", false)
def tyJ6 : Nat → FieldType := fun k => match k with
  | _ => .int
theorem nmJ6 : ∀ a, a < 0 → ∀ b, b < 0 → a ≠ b → (TJ6 a).2.1 ≠ (TJ6 b).2.1 := by decide +kernel
theorem tyJ6_ok : ∀ k, k < 0 → parseFieldDescriptor (TJ6 k).2.2.1 = some (tyJ6 k) := by decide +kernel
abbrev cJ6_bitCount_0f7a4 : ByteArray := prog_16_method_49_code
def yJ6_bitCount_0f7a4 : MethodName := ⟨RJ6, "bitCount", "(I)I"⟩
def RJ9 : String := "java/lang/Math"
def TJ9 : u_T := fun k => match k with
  | _ => ("", "", "", false)
def tyJ9 : Nat → FieldType := fun k => match k with
  | _ => .int
theorem nmJ9 : ∀ a, a < 0 → ∀ b, b < 0 → a ≠ b → (TJ9 a).2.1 ≠ (TJ9 b).2.1 := by decide +kernel
theorem tyJ9_ok : ∀ k, k < 0 → parseFieldDescriptor (TJ9 k).2.2.1 = some (tyJ9 k) := by decide +kernel
abbrev cJ9_abs_0f7a4 : ByteArray := prog_17_method_59_code
def yJ9_abs_0f7a4 : MethodName := ⟨RJ9, "abs", "(I)I"⟩
abbrev cJ9_max_7cf53 : ByteArray := prog_17_method_65_code
def yJ9_max_7cf53 : MethodName := ⟨RJ9, "max", "(II)I"⟩
abbrev cJ9_min_7cf53 : ByteArray := prog_17_method_69_code
def yJ9_min_7cf53 : MethodName := ⟨RJ9, "min", "(II)I"⟩
def RJ0 : String := "java/lang/String"
def TJ0 : u_T := fun k => match k with
  | _ => ("", "", "", false)
def tyJ0 : Nat → FieldType := fun k => match k with
  | _ => .int
theorem nmJ0 : ∀ a, a < 0 → ∀ b, b < 0 → a ≠ b → (TJ0 a).2.1 ≠ (TJ0 b).2.1 := by decide +kernel
theorem tyJ0_ok : ∀ k, k < 0 → parseFieldDescriptor (TJ0 k).2.2.1 = some (tyJ0 k) := by decide +kernel
abbrev cJ0_length_8abf5 : ByteArray := prog_18_method_54_code
def yJ0_length_8abf5 : MethodName := ⟨RJ0, "length", "()I"⟩
abbrev cJ0_isEmpty_aae02 : ByteArray := prog_18_method_55_code
def yJ0_isEmpty_aae02 : MethodName := ⟨RJ0, "isEmpty", "()Z"⟩
abbrev cJ0_charAt_5068e : ByteArray := prog_18_method_56_code
def yJ0_charAt_5068e : MethodName := ⟨RJ0, "charAt", "(I)C"⟩
abbrev cJ0_indexOf_0f7a4 : ByteArray := prog_18_method_79_code
def yJ0_indexOf_0f7a4 : MethodName := ⟨RJ0, "indexOf", "(I)I"⟩
abbrev cJ0_indexOf_7cf53 : ByteArray := prog_18_method_80_code
def yJ0_indexOf_7cf53 : MethodName := ⟨RJ0, "indexOf", "(II)I"⟩
abbrev cJ0_coder_7d493 : ByteArray := prog_18_method_152_code
def yJ0_coder_7d493 : MethodName := ⟨RJ0, "coder", "()B"⟩
abbrev cJ0_isLatin1_aae02 : ByteArray := prog_18_method_154_code
def yJ0_isLatin1_aae02 : MethodName := ⟨RJ0, "isLatin1", "()Z"⟩
abbrev cJ0_checkIndex_df160 : ByteArray := prog_18_method_155_code
def yJ0_checkIndex_df160 : MethodName := ⟨RJ0, "checkIndex", "(II)V"⟩
abbrev cJ0_checkBoundsBeginEnd_23922 : ByteArray := prog_18_method_158_code
def yJ0_checkBoundsBeginEnd_23922 : MethodName := ⟨RJ0, "checkBoundsBeginEnd", "(III)V"⟩
def RJ1 : String := "java/lang/StringLatin1"
def TJ1 : u_T := fun k => match k with
  | _ => ("", "", "", false)
def tyJ1 : Nat → FieldType := fun k => match k with
  | _ => .int
theorem nmJ1 : ∀ a, a < 0 → ∀ b, b < 0 → a ≠ b → (TJ1 a).2.1 ≠ (TJ1 b).2.1 := by decide +kernel
theorem tyJ1_ok : ∀ k, k < 0 → parseFieldDescriptor (TJ1 k).2.2.1 = some (tyJ1 k) := by decide +kernel
abbrev cJ1_charAt_3b067 : ByteArray := prog_19_method_2_code
def yJ1_charAt_3b067 : MethodName := ⟨RJ1, "charAt", "([BI)C"⟩
abbrev cJ1_canEncode_9a6ad : ByteArray := prog_19_method_4_code
def yJ1_canEncode_9a6ad : MethodName := ⟨RJ1, "canEncode", "(I)Z"⟩
abbrev cJ1_indexOf_4cfef : ByteArray := prog_19_method_22_code
def yJ1_indexOf_4cfef : MethodName := ⟨RJ1, "indexOf", "([BIII)I"⟩
abbrev cJ1_indexOfChar_4cfef : ByteArray := prog_19_method_23_code
def yJ1_indexOfChar_4cfef : MethodName := ⟨RJ1, "indexOfChar", "([BIII)I"⟩
def RJ2 : String := "java/lang/StringUTF16"
def TJ2 : u_T := fun k => match k with
  | _ => ("", "", "", false)
def tyJ2 : Nat → FieldType := fun k => match k with
  | _ => .int
theorem nmJ2 : ∀ a, a < 0 → ∀ b, b < 0 → a ≠ b → (TJ2 a).2.1 ≠ (TJ2 b).2.1 := by decide +kernel
theorem tyJ2_ok : ∀ k, k < 0 → parseFieldDescriptor (TJ2 k).2.2.1 = some (tyJ2 k) := by decide +kernel
abbrev cJ2_getChar_3b067 : ByteArray := prog_20_method_5_code
def yJ2_getChar_3b067 : MethodName := ⟨RJ2, "getChar", "([BI)C"⟩
abbrev cJ2_length_9d52b : ByteArray := prog_20_method_6_code
def yJ2_length_9d52b : MethodName := ⟨RJ2, "length", "([B)I"⟩
abbrev cJ2_indexOf_4cfef : ByteArray := prog_20_method_40_code
def yJ2_indexOf_4cfef : MethodName := ⟨RJ2, "indexOf", "([BIII)I"⟩
abbrev cJ2_indexOfChar_4cfef : ByteArray := prog_20_method_47_code
def yJ2_indexOfChar_4cfef : MethodName := ⟨RJ2, "indexOfChar", "([BIII)I"⟩
abbrev cJ2_indexOfCharUnsafe_4cfef : ByteArray := prog_20_method_48_code
def yJ2_indexOfCharUnsafe_4cfef : MethodName := ⟨RJ2, "indexOfCharUnsafe", "([BIII)I"⟩
abbrev cJ2_indexOfSupplementary_4cfef : ByteArray := prog_20_method_49_code
def yJ2_indexOfSupplementary_4cfef : MethodName := ⟨RJ2, "indexOfSupplementary", "([BIII)I"⟩
abbrev cJ2_charAt_3b067 : ByteArray := prog_20_method_83_code
def yJ2_charAt_3b067 : MethodName := ⟨RJ2, "charAt", "([BI)C"⟩
abbrev cJ2_checkIndex_2214a : ByteArray := prog_20_method_91_code
def yJ2_checkIndex_2214a : MethodName := ⟨RJ2, "checkIndex", "(I[B)V"⟩
abbrev cJ2_checkBoundsBeginEnd_d044e : ByteArray := prog_20_method_93_code
def yJ2_checkBoundsBeginEnd_d044e : MethodName := ⟨RJ2, "checkBoundsBeginEnd", "(II[B)V"⟩
def RJ10 : String := "java/lang/System"
def TJ10 : u_T := fun k => match k with
  | _ => ("", "", "", false)
def tyJ10 : Nat → FieldType := fun k => match k with
  | _ => .int
theorem nmJ10 : ∀ a, a < 0 → ∀ b, b < 0 → a ≠ b → (TJ10 a).2.1 ≠ (TJ10 b).2.1 := by decide +kernel
theorem tyJ10_ok : ∀ k, k < 0 → parseFieldDescriptor (TJ10 k).2.2.1 = some (tyJ10 k) := by decide +kernel
def RJxfd54e : String := "java/lang/constant/Constable"
def TJxfd54e : u_T := fun k => match k with
  | _ => ("", "", "", false)
def tyJxfd54e : Nat → FieldType := fun k => match k with
  | _ => .int
theorem nmJxfd54e : ∀ a, a < 0 → ∀ b, b < 0 → a ≠ b → (TJxfd54e a).2.1 ≠ (TJxfd54e b).2.1 := by decide +kernel
theorem tyJxfd54e_ok : ∀ k, k < 0 → parseFieldDescriptor (TJxfd54e k).2.2.1 = some (tyJxfd54e k) := by decide +kernel
def RJx3cf43 : String := "java/lang/constant/ConstantDesc"
def TJx3cf43 : u_T := fun k => match k with
  | _ => ("", "", "", false)
def tyJx3cf43 : Nat → FieldType := fun k => match k with
  | _ => .int
theorem nmJx3cf43 : ∀ a, a < 0 → ∀ b, b < 0 → a ≠ b → (TJx3cf43 a).2.1 ≠ (TJx3cf43 b).2.1 := by decide +kernel
theorem tyJx3cf43_ok : ∀ k, k < 0 → parseFieldDescriptor (TJx3cf43 k).2.2.1 = some (tyJx3cf43 k) := by decide +kernel
def RJ7 : String := "java/util/Arrays"
def TJ7 : u_T := fun k => match k with
  | _ => ("", "", "", false)
def tyJ7 : Nat → FieldType := fun k => match k with
  | _ => .int
theorem nmJ7 : ∀ a, a < 0 → ∀ b, b < 0 → a ≠ b → (TJ7 a).2.1 ≠ (TJ7 b).2.1 := by decide +kernel
theorem tyJ7_ok : ∀ k, k < 0 → parseFieldDescriptor (TJ7 k).2.2.1 = some (tyJ7 k) := by decide +kernel
abbrev cJ7_fill_d0a16 : ByteArray := prog_22_method_101_code
def yJ7_fill_d0a16 : MethodName := ⟨RJ7, "fill", "([JJ)V"⟩
def RJ3 : String := "jdk/internal/util/Preconditions"
def TJ3 : u_T := fun k => match k with
  | _ => ("", "", "", false)
def tyJ3 : Nat → FieldType := fun k => match k with
  | _ => .int
theorem nmJ3 : ∀ a, a < 0 → ∀ b, b < 0 → a ≠ b → (TJ3 a).2.1 ≠ (TJ3 b).2.1 := by decide +kernel
theorem tyJ3_ok : ∀ k, k < 0 → parseFieldDescriptor (TJ3 k).2.2.1 = some (tyJ3 k) := by decide +kernel
abbrev cJ3_checkIndex_8e157 : ByteArray := prog_23_method_11_code
def yJ3_checkIndex_8e157 : MethodName := ⟨RJ3, "checkIndex", "(IILjava/util/function/BiFunction;)I"⟩
abbrev cJ3_checkFromToIndex_8c36e : ByteArray := prog_23_method_12_code
def yJ3_checkFromToIndex_8c36e : MethodName := ⟨RJ3, "checkFromToIndex", "(IIILjava/util/function/BiFunction;)I"⟩
def RL : String := "RodDipsLaw"
abbrev cL_law : ByteArray := code
def yL_law : MethodName := ⟨RL, "law", "([I)Z"⟩
abbrev vwCl : List vw_C := [(RX0, TX0, 9), (RX1, TX1, 9), (RX2, TX2, 9), (RX3, TX3, 9), (RX4, TX4, 3), (RX5, TX5, 9), (RX6, TX6, 3), (RX7, TX7, 11), (RX8, TX8, 2), (RX9, TX9, 9), (RX10, TX10, 9), (RX11, TX11, 18), (RX12, TX12, 20)]
