-- ===== PART A: goes FIRST, ahead of the names: the tables' words, and 'selects' of the private methods out of them =====
/-- a private method of a class that the tables say can be made, by its rows of tables_1 -/
noncomputable def lw_okq (q : MethodName × Nat) : Prop := (q.1.cls ≠ "java/lang/invoke/MethodHandle" ∧ q.1.cls ≠ "java/lang/invoke/VarHandle") ∧ Cond.instantiable q.1.cls q.2 ∈ tables_1 ∧ Cond.privateMethod q.1 ∈ tables_1 ∧ Cond.instanceMethod q.1 ∈ tables_1
theorem lw_p0 : lw_okq (⟨"YesPlanes", "told", "(I)I"⟩, 15) := ⟨⟨by decide +kernel, by decide +kernel⟩, List.mem_of_getElem? (i := 20) (by decide +kernel), List.mem_of_getElem? (i := 465) (by decide +kernel), List.mem_of_getElem? (i := 466) (by decide +kernel)⟩
theorem lw_p1 : lw_okq (⟨"YesPlanes$Sheet", "cut", "(J)J"⟩, 4) := ⟨⟨by decide +kernel, by decide +kernel⟩, List.mem_of_getElem? (i := 386) (by decide +kernel), List.mem_of_getElem? (i := 528) (by decide +kernel), List.mem_of_getElem? (i := 529) (by decide +kernel)⟩
theorem lw_p2 : lw_okq (⟨"YesPlanes", "areParted", "()Z"⟩, 15) := ⟨⟨by decide +kernel, by decide +kernel⟩, List.mem_of_getElem? (i := 20) (by decide +kernel), List.mem_of_getElem? (i := 576) (by decide +kernel), List.mem_of_getElem? (i := 577) (by decide +kernel)⟩
theorem lw_p3 : lw_okq (⟨"YesPlanes$Way", "tryPair", "(LYesPlanes$Points;II)V"⟩, 11) := ⟨⟨by decide +kernel, by decide +kernel⟩, List.mem_of_getElem? (i := 149) (by decide +kernel), List.mem_of_getElem? (i := 593) (by decide +kernel), List.mem_of_getElem? (i := 594) (by decide +kernel)⟩
theorem lw_p4 : lw_okq (⟨"YesPlanes$Way", "tryAcross", "(LYesPlanes$Points;II)V"⟩, 11) := ⟨⟨by decide +kernel, by decide +kernel⟩, List.mem_of_getElem? (i := 149) (by decide +kernel), List.mem_of_getElem? (i := 601) (by decide +kernel), List.mem_of_getElem? (i := 602) (by decide +kernel)⟩
theorem lw_p5 : lw_okq (⟨"YesPlanes$Way", "isWider", "(JII)Z"⟩, 11) := ⟨⟨by decide +kernel, by decide +kernel⟩, List.mem_of_getElem? (i := 149) (by decide +kernel), List.mem_of_getElem? (i := 613) (by decide +kernel), List.mem_of_getElem? (i := 614) (by decide +kernel)⟩
theorem lw_p6 : lw_okq (⟨"YesPlanes$Way", "finish", "(LYesPlanes$Points;)V"⟩, 11) := ⟨⟨by decide +kernel, by decide +kernel⟩, List.mem_of_getElem? (i := 149) (by decide +kernel), List.mem_of_getElem? (i := 620) (by decide +kernel), List.mem_of_getElem? (i := 621) (by decide +kernel)⟩
theorem lw_p7 : lw_okq (⟨"YesPlanes$Meeting", "gather", "(LYesPlanes$Points;)V"⟩, 11) := ⟨⟨by decide +kernel, by decide +kernel⟩, List.mem_of_getElem? (i := 213) (by decide +kernel), List.mem_of_getElem? (i := 666) (by decide +kernel), List.mem_of_getElem? (i := 667) (by decide +kernel)⟩
theorem lw_p8 : lw_okq (⟨"YesPlanes$Meeting", "findOnePlace", "(LYesPlanes$Points;)Z"⟩, 11) := ⟨⟨by decide +kernel, by decide +kernel⟩, List.mem_of_getElem? (i := 213) (by decide +kernel), List.mem_of_getElem? (i := 670) (by decide +kernel), List.mem_of_getElem? (i := 671) (by decide +kernel)⟩
theorem lw_p9 : lw_okq (⟨"YesPlanes$Meeting", "hold", "(IIIIII)Z"⟩, 11) := ⟨⟨by decide +kernel, by decide +kernel⟩, List.mem_of_getElem? (i := 213) (by decide +kernel), List.mem_of_getElem? (i := 675) (by decide +kernel), List.mem_of_getElem? (i := 676) (by decide +kernel)⟩
theorem lw_p10 : lw_okq (⟨"YesPlanes$Meeting", "shareAlone", "(LYesPlanes$Points;I)V"⟩, 11) := ⟨⟨by decide +kernel, by decide +kernel⟩, List.mem_of_getElem? (i := 213) (by decide +kernel), List.mem_of_getElem? (i := 679) (by decide +kernel), List.mem_of_getElem? (i := 680) (by decide +kernel)⟩
theorem lw_p11 : lw_okq (⟨"YesPlanes$Meeting", "findYesBetween", "(LYesPlanes$Points;)Z"⟩, 11) := ⟨⟨by decide +kernel, by decide +kernel⟩, List.mem_of_getElem? (i := 213) (by decide +kernel), List.mem_of_getElem? (i := 684) (by decide +kernel), List.mem_of_getElem? (i := 685) (by decide +kernel)⟩
theorem lw_p12 : lw_okq (⟨"YesPlanes$Meeting", "shareBetween", "(LYesPlanes$Points;II)V"⟩, 11) := ⟨⟨by decide +kernel, by decide +kernel⟩, List.mem_of_getElem? (i := 213) (by decide +kernel), List.mem_of_getElem? (i := 699) (by decide +kernel), List.mem_of_getElem? (i := 700) (by decide +kernel)⟩
theorem lw_p13 : lw_okq (⟨"YesPlanes$Meeting", "findNoBetween", "(LYesPlanes$Points;)Z"⟩, 11) := ⟨⟨by decide +kernel, by decide +kernel⟩, List.mem_of_getElem? (i := 213) (by decide +kernel), List.mem_of_getElem? (i := 703) (by decide +kernel), List.mem_of_getElem? (i := 704) (by decide +kernel)⟩
theorem lw_p14 : lw_okq (⟨"YesPlanes$Meeting", "findYesWithin", "(LYesPlanes$Points;)Z"⟩, 11) := ⟨⟨by decide +kernel, by decide +kernel⟩, List.mem_of_getElem? (i := 213) (by decide +kernel), List.mem_of_getElem? (i := 707) (by decide +kernel), List.mem_of_getElem? (i := 708) (by decide +kernel)⟩
theorem lw_p15 : lw_okq (⟨"YesPlanes$Meeting", "thirdAround", "(LYesPlanes$Points;III)I"⟩, 11) := ⟨⟨by decide +kernel, by decide +kernel⟩, List.mem_of_getElem? (i := 213) (by decide +kernel), List.mem_of_getElem? (i := 711) (by decide +kernel), List.mem_of_getElem? (i := 712) (by decide +kernel)⟩
noncomputable def lw_privs_1 : List (MethodName × Nat) := [(⟨"YesPlanes", "told", "(I)I"⟩, 15), (⟨"YesPlanes$Sheet", "cut", "(J)J"⟩, 4), (⟨"YesPlanes", "areParted", "()Z"⟩, 15), (⟨"YesPlanes$Way", "tryPair", "(LYesPlanes$Points;II)V"⟩, 11), (⟨"YesPlanes$Way", "tryAcross", "(LYesPlanes$Points;II)V"⟩, 11), (⟨"YesPlanes$Way", "isWider", "(JII)Z"⟩, 11), (⟨"YesPlanes$Way", "finish", "(LYesPlanes$Points;)V"⟩, 11), (⟨"YesPlanes$Meeting", "gather", "(LYesPlanes$Points;)V"⟩, 11), (⟨"YesPlanes$Meeting", "findOnePlace", "(LYesPlanes$Points;)Z"⟩, 11), (⟨"YesPlanes$Meeting", "hold", "(IIIIII)Z"⟩, 11), (⟨"YesPlanes$Meeting", "shareAlone", "(LYesPlanes$Points;I)V"⟩, 11), (⟨"YesPlanes$Meeting", "findYesBetween", "(LYesPlanes$Points;)Z"⟩, 11), (⟨"YesPlanes$Meeting", "shareBetween", "(LYesPlanes$Points;II)V"⟩, 11), (⟨"YesPlanes$Meeting", "findNoBetween", "(LYesPlanes$Points;)Z"⟩, 11), (⟨"YesPlanes$Meeting", "findYesWithin", "(LYesPlanes$Points;)Z"⟩, 11), (⟨"YesPlanes$Meeting", "thirdAround", "(LYesPlanes$Points;III)I"⟩, 11)]
theorem lw_r1 : ∀ q ∈ lw_privs_1, lw_okq q := List.forall_mem_cons.mpr ⟨lw_p0, List.forall_mem_cons.mpr ⟨lw_p1, List.forall_mem_cons.mpr ⟨lw_p2, List.forall_mem_cons.mpr ⟨lw_p3, List.forall_mem_cons.mpr ⟨lw_p4, List.forall_mem_cons.mpr ⟨lw_p5, List.forall_mem_cons.mpr ⟨lw_p6, List.forall_mem_cons.mpr ⟨lw_p7, List.forall_mem_cons.mpr ⟨lw_p8, List.forall_mem_cons.mpr ⟨lw_p9, List.forall_mem_cons.mpr ⟨lw_p10, List.forall_mem_cons.mpr ⟨lw_p11, List.forall_mem_cons.mpr ⟨lw_p12, List.forall_mem_cons.mpr ⟨lw_p13, List.forall_mem_cons.mpr ⟨lw_p14, List.forall_mem_cons.mpr ⟨lw_p15, fun _ h => absurd h List.not_mem_nil⟩⟩⟩⟩⟩⟩⟩⟩⟩⟩⟩⟩⟩⟩⟩⟩
theorem lw_p16 : lw_okq (⟨"YesPlanes$Meeting", "shareWithin", "(LYesPlanes$Points;II)V"⟩, 11) := ⟨⟨by decide +kernel, by decide +kernel⟩, List.mem_of_getElem? (i := 213) (by decide +kernel), List.mem_of_getElem? (i := 718) (by decide +kernel), List.mem_of_getElem? (i := 719) (by decide +kernel)⟩
theorem lw_p17 : lw_okq (⟨"YesPlanes$Meeting", "findNoWithin", "(LYesPlanes$Points;)Z"⟩, 11) := ⟨⟨by decide +kernel, by decide +kernel⟩, List.mem_of_getElem? (i := 213) (by decide +kernel), List.mem_of_getElem? (i := 722) (by decide +kernel), List.mem_of_getElem? (i := 723) (by decide +kernel)⟩
theorem lw_p18 : lw_okq (⟨"YesPlanes$Meeting", "firstNoWithin", "(LYesPlanes$Points;III)I"⟩, 11) := ⟨⟨by decide +kernel, by decide +kernel⟩, List.mem_of_getElem? (i := 213) (by decide +kernel), List.mem_of_getElem? (i := 726) (by decide +kernel), List.mem_of_getElem? (i := 727) (by decide +kernel)⟩
theorem lw_p19 : lw_okq (⟨"YesPlanes$Meeting", "findCrossing", "(LYesPlanes$Points;)Z"⟩, 11) := ⟨⟨by decide +kernel, by decide +kernel⟩, List.mem_of_getElem? (i := 213) (by decide +kernel), List.mem_of_getElem? (i := 730) (by decide +kernel), List.mem_of_getElem? (i := 731) (by decide +kernel)⟩
theorem lw_p20 : lw_okq (⟨"YesPlanes$Meeting", "otherEndAcross", "(LYesPlanes$Points;III)I"⟩, 11) := ⟨⟨by decide +kernel, by decide +kernel⟩, List.mem_of_getElem? (i := 213) (by decide +kernel), List.mem_of_getElem? (i := 734) (by decide +kernel), List.mem_of_getElem? (i := 735) (by decide +kernel)⟩
theorem lw_p21 : lw_okq (⟨"YesPlanes$Meeting", "shareCrossing", "(LYesPlanes$Points;)V"⟩, 11) := ⟨⟨by decide +kernel, by decide +kernel⟩, List.mem_of_getElem? (i := 213) (by decide +kernel), List.mem_of_getElem? (i := 738) (by decide +kernel), List.mem_of_getElem? (i := 739) (by decide +kernel)⟩
theorem lw_p22 : lw_okq (⟨"YesPlanes$Meeting", "shareEnds", "(LYesPlanes$Points;II)V"⟩, 11) := ⟨⟨by decide +kernel, by decide +kernel⟩, List.mem_of_getElem? (i := 213) (by decide +kernel), List.mem_of_getElem? (i := 742) (by decide +kernel), List.mem_of_getElem? (i := 743) (by decide +kernel)⟩
theorem lw_p23 : lw_okq (⟨"YesPlanes", "canPartFirst", "(I)Z"⟩, 15) := ⟨⟨by decide +kernel, by decide +kernel⟩, List.mem_of_getElem? (i := 20) (by decide +kernel), List.mem_of_getElem? (i := 773) (by decide +kernel), List.mem_of_getElem? (i := 774) (by decide +kernel)⟩
theorem lw_p24 : lw_okq (⟨"YesPlanes$Partings", "markBoth", "(I)V"⟩, 4) := ⟨⟨by decide +kernel, by decide +kernel⟩, List.mem_of_getElem? (i := 260) (by decide +kernel), List.mem_of_getElem? (i := 782) (by decide +kernel), List.mem_of_getElem? (i := 783) (by decide +kernel)⟩
theorem lw_p25 : lw_okq (⟨"YesPlanes$Partings", "mark", "(I)V"⟩, 4) := ⟨⟨by decide +kernel, by decide +kernel⟩, List.mem_of_getElem? (i := 260) (by decide +kernel), List.mem_of_getElem? (i := 786) (by decide +kernel), List.mem_of_getElem? (i := 787) (by decide +kernel)⟩
theorem lw_p26 : lw_okq (⟨"YesPlanes$Partings", "markAlong", "(LYesPlanes$Points;III)V"⟩, 4) := ⟨⟨by decide +kernel, by decide +kernel⟩, List.mem_of_getElem? (i := 260) (by decide +kernel), List.mem_of_getElem? (i := 791) (by decide +kernel), List.mem_of_getElem? (i := 792) (by decide +kernel)⟩
theorem lw_p27 : lw_okq (⟨"YesPlanes$Learner", "goRound", "(LYesPlanes$Points;)I"⟩, 5) := ⟨⟨by decide +kernel, by decide +kernel⟩, List.mem_of_getElem? (i := 117) (by decide +kernel), List.mem_of_getElem? (i := 855) (by decide +kernel), List.mem_of_getElem? (i := 856) (by decide +kernel)⟩
theorem lw_p28 : lw_okq (⟨"YesPlanes$Learner", "mend", "(III)V"⟩, 5) := ⟨⟨by decide +kernel, by decide +kernel⟩, List.mem_of_getElem? (i := 117) (by decide +kernel), List.mem_of_getElem? (i := 859) (by decide +kernel), List.mem_of_getElem? (i := 860) (by decide +kernel)⟩
theorem lw_p29 : lw_okq (⟨"YesPlanes$Judges", "sayers", "(III)I"⟩, 5) := ⟨⟨by decide +kernel, by decide +kernel⟩, List.mem_of_getElem? (i := 93) (by decide +kernel), List.mem_of_getElem? (i := 891) (by decide +kernel), List.mem_of_getElem? (i := 892) (by decide +kernel)⟩
theorem lw_p30 : lw_okq (⟨"YesPlanes$Strong", "playRound", "(LYesPlanes$Points;)V"⟩, 17) := ⟨⟨by decide +kernel, by decide +kernel⟩, List.mem_of_getElem? (i := 282) (by decide +kernel), List.mem_of_getElem? (i := 913) (by decide +kernel), List.mem_of_getElem? (i := 914) (by decide +kernel)⟩
theorem lw_p31 : lw_okq (⟨"YesPlanes$Strong", "choose", "(LYesPlanes$Points;)V"⟩, 17) := ⟨⟨by decide +kernel, by decide +kernel⟩, List.mem_of_getElem? (i := 282) (by decide +kernel), List.mem_of_getElem? (i := 917) (by decide +kernel), List.mem_of_getElem? (i := 918) (by decide +kernel)⟩
noncomputable def lw_privs_2 : List (MethodName × Nat) := [(⟨"YesPlanes$Meeting", "shareWithin", "(LYesPlanes$Points;II)V"⟩, 11), (⟨"YesPlanes$Meeting", "findNoWithin", "(LYesPlanes$Points;)Z"⟩, 11), (⟨"YesPlanes$Meeting", "firstNoWithin", "(LYesPlanes$Points;III)I"⟩, 11), (⟨"YesPlanes$Meeting", "findCrossing", "(LYesPlanes$Points;)Z"⟩, 11), (⟨"YesPlanes$Meeting", "otherEndAcross", "(LYesPlanes$Points;III)I"⟩, 11), (⟨"YesPlanes$Meeting", "shareCrossing", "(LYesPlanes$Points;)V"⟩, 11), (⟨"YesPlanes$Meeting", "shareEnds", "(LYesPlanes$Points;II)V"⟩, 11), (⟨"YesPlanes", "canPartFirst", "(I)Z"⟩, 15), (⟨"YesPlanes$Partings", "markBoth", "(I)V"⟩, 4), (⟨"YesPlanes$Partings", "mark", "(I)V"⟩, 4), (⟨"YesPlanes$Partings", "markAlong", "(LYesPlanes$Points;III)V"⟩, 4), (⟨"YesPlanes$Learner", "goRound", "(LYesPlanes$Points;)I"⟩, 5), (⟨"YesPlanes$Learner", "mend", "(III)V"⟩, 5), (⟨"YesPlanes$Judges", "sayers", "(III)I"⟩, 5), (⟨"YesPlanes$Strong", "playRound", "(LYesPlanes$Points;)V"⟩, 17), (⟨"YesPlanes$Strong", "choose", "(LYesPlanes$Points;)V"⟩, 17)]
theorem lw_r2 : ∀ q ∈ lw_privs_2, lw_okq q := List.forall_mem_cons.mpr ⟨lw_p16, List.forall_mem_cons.mpr ⟨lw_p17, List.forall_mem_cons.mpr ⟨lw_p18, List.forall_mem_cons.mpr ⟨lw_p19, List.forall_mem_cons.mpr ⟨lw_p20, List.forall_mem_cons.mpr ⟨lw_p21, List.forall_mem_cons.mpr ⟨lw_p22, List.forall_mem_cons.mpr ⟨lw_p23, List.forall_mem_cons.mpr ⟨lw_p24, List.forall_mem_cons.mpr ⟨lw_p25, List.forall_mem_cons.mpr ⟨lw_p26, List.forall_mem_cons.mpr ⟨lw_p27, List.forall_mem_cons.mpr ⟨lw_p28, List.forall_mem_cons.mpr ⟨lw_p29, List.forall_mem_cons.mpr ⟨lw_p30, List.forall_mem_cons.mpr ⟨lw_p31, fun _ h => absurd h List.not_mem_nil⟩⟩⟩⟩⟩⟩⟩⟩⟩⟩⟩⟩⟩⟩⟩⟩
theorem lw_p32 : lw_okq (⟨"YesPlanes$Strong", "weigh", "(LYesPlanes$Points;II)V"⟩, 17) := ⟨⟨by decide +kernel, by decide +kernel⟩, List.mem_of_getElem? (i := 282) (by decide +kernel), List.mem_of_getElem? (i := 921) (by decide +kernel), List.mem_of_getElem? (i := 922) (by decide +kernel)⟩
theorem lw_p33 : lw_okq (⟨"YesPlanes$Strong", "offer", "(IIIJ)V"⟩, 17) := ⟨⟨by decide +kernel, by decide +kernel⟩, List.mem_of_getElem? (i := 282) (by decide +kernel), List.mem_of_getElem? (i := 928) (by decide +kernel), List.mem_of_getElem? (i := 929) (by decide +kernel)⟩
theorem lw_p34 : lw_okq (⟨"YesPlanes$Strong", "keepChosen", "()V"⟩, 17) := ⟨⟨by decide +kernel, by decide +kernel⟩, List.mem_of_getElem? (i := 282) (by decide +kernel), List.mem_of_getElem? (i := 932) (by decide +kernel), List.mem_of_getElem? (i := 933) (by decide +kernel)⟩
theorem lw_p35 : lw_okq (⟨"YesPlanes$Strong", "reweigh", "(LYesPlanes$Points;)Z"⟩, 17) := ⟨⟨by decide +kernel, by decide +kernel⟩, List.mem_of_getElem? (i := 282) (by decide +kernel), List.mem_of_getElem? (i := 937) (by decide +kernel), List.mem_of_getElem? (i := 938) (by decide +kernel)⟩
theorem lw_p36 : lw_okq (⟨"YesPlanes$Strong", "commonMass", "(LYesPlanes$Points;Z)J"⟩, 17) := ⟨⟨by decide +kernel, by decide +kernel⟩, List.mem_of_getElem? (i := 282) (by decide +kernel), List.mem_of_getElem? (i := 942) (by decide +kernel), List.mem_of_getElem? (i := 943) (by decide +kernel)⟩
theorem lw_p37 : lw_okq (⟨"YesPlanes$Strong", "isWrong", "(LYesPlanes$Points;I)Z"⟩, 17) := ⟨⟨by decide +kernel, by decide +kernel⟩, List.mem_of_getElem? (i := 282) (by decide +kernel), List.mem_of_getElem? (i := 946) (by decide +kernel), List.mem_of_getElem? (i := 947) (by decide +kernel)⟩
theorem lw_p38 : lw_okq (⟨"YesPlanes$Cover", "gather", "(LYesPlanes$Points;)V"⟩, 5) := ⟨⟨by decide +kernel, by decide +kernel⟩, List.mem_of_getElem? (i := 364) (by decide +kernel), List.mem_of_getElem? (i := 1042) (by decide +kernel), List.mem_of_getElem? (i := 1043) (by decide +kernel)⟩
theorem lw_p39 : lw_okq (⟨"YesPlanes$Cover", "findSets", "(LYesPlanes$Points;I)V"⟩, 5) := ⟨⟨by decide +kernel, by decide +kernel⟩, List.mem_of_getElem? (i := 364) (by decide +kernel), List.mem_of_getElem? (i := 1049) (by decide +kernel), List.mem_of_getElem? (i := 1050) (by decide +kernel)⟩
theorem lw_p40 : lw_okq (⟨"YesPlanes$Cover", "setWithin", "(LYesPlanes$Points;III)I"⟩, 5) := ⟨⟨by decide +kernel, by decide +kernel⟩, List.mem_of_getElem? (i := 364) (by decide +kernel), List.mem_of_getElem? (i := 1053) (by decide +kernel), List.mem_of_getElem? (i := 1054) (by decide +kernel)⟩
theorem lw_p41 : lw_okq (⟨"YesPlanes$Cover", "addSet", "(I)V"⟩, 5) := ⟨⟨by decide +kernel, by decide +kernel⟩, List.mem_of_getElem? (i := 364) (by decide +kernel), List.mem_of_getElem? (i := 1059) (by decide +kernel), List.mem_of_getElem? (i := 1060) (by decide +kernel)⟩
theorem lw_p42 : lw_okq (⟨"YesPlanes$Cover", "widen", "(I)V"⟩, 5) := ⟨⟨by decide +kernel, by decide +kernel⟩, List.mem_of_getElem? (i := 364) (by decide +kernel), List.mem_of_getElem? (i := 1063) (by decide +kernel), List.mem_of_getElem? (i := 1064) (by decide +kernel)⟩
theorem lw_p43 : lw_okq (⟨"YesPlanes", "sheetsThere", "()I"⟩, 15) := ⟨⟨by decide +kernel, by decide +kernel⟩, List.mem_of_getElem? (i := 20) (by decide +kernel), List.mem_of_getElem? (i := 1100) (by decide +kernel), List.mem_of_getElem? (i := 1101) (by decide +kernel)⟩
theorem lw_p44 : lw_okq (⟨"YesPlanesModel", "told", "(I)I"⟩, 61) := ⟨⟨by decide +kernel, by decide +kernel⟩, List.mem_of_getElem? (i := 1108) (by decide +kernel), List.mem_of_getElem? (i := 1307) (by decide +kernel), List.mem_of_getElem? (i := 1308) (by decide +kernel)⟩
theorem lw_p45 : lw_okq (⟨"YesPlanesModel", "add", "(III)V"⟩, 61) := ⟨⟨by decide +kernel, by decide +kernel⟩, List.mem_of_getElem? (i := 1108) (by decide +kernel), List.mem_of_getElem? (i := 1311) (by decide +kernel), List.mem_of_getElem? (i := 1312) (by decide +kernel)⟩
theorem lw_p46 : lw_okq (⟨"YesPlanesModel", "isPoint", "(I)Z"⟩, 61) := ⟨⟨by decide +kernel, by decide +kernel⟩, List.mem_of_getElem? (i := 1108) (by decide +kernel), List.mem_of_getElem? (i := 1319) (by decide +kernel), List.mem_of_getElem? (i := 1320) (by decide +kernel)⟩
theorem lw_p47 : lw_okq (⟨"YesPlanesModel", "findMeeting", "()V"⟩, 61) := ⟨⟨by decide +kernel, by decide +kernel⟩, List.mem_of_getElem? (i := 1108) (by decide +kernel), List.mem_of_getElem? (i := 1366) (by decide +kernel), List.mem_of_getElem? (i := 1367) (by decide +kernel)⟩
noncomputable def lw_privs_3 : List (MethodName × Nat) := [(⟨"YesPlanes$Strong", "weigh", "(LYesPlanes$Points;II)V"⟩, 17), (⟨"YesPlanes$Strong", "offer", "(IIIJ)V"⟩, 17), (⟨"YesPlanes$Strong", "keepChosen", "()V"⟩, 17), (⟨"YesPlanes$Strong", "reweigh", "(LYesPlanes$Points;)Z"⟩, 17), (⟨"YesPlanes$Strong", "commonMass", "(LYesPlanes$Points;Z)J"⟩, 17), (⟨"YesPlanes$Strong", "isWrong", "(LYesPlanes$Points;I)Z"⟩, 17), (⟨"YesPlanes$Cover", "gather", "(LYesPlanes$Points;)V"⟩, 5), (⟨"YesPlanes$Cover", "findSets", "(LYesPlanes$Points;I)V"⟩, 5), (⟨"YesPlanes$Cover", "setWithin", "(LYesPlanes$Points;III)I"⟩, 5), (⟨"YesPlanes$Cover", "addSet", "(I)V"⟩, 5), (⟨"YesPlanes$Cover", "widen", "(I)V"⟩, 5), (⟨"YesPlanes", "sheetsThere", "()I"⟩, 15), (⟨"YesPlanesModel", "told", "(I)I"⟩, 61), (⟨"YesPlanesModel", "add", "(III)V"⟩, 61), (⟨"YesPlanesModel", "isPoint", "(I)Z"⟩, 61), (⟨"YesPlanesModel", "findMeeting", "()V"⟩, 61)]
theorem lw_r3 : ∀ q ∈ lw_privs_3, lw_okq q := List.forall_mem_cons.mpr ⟨lw_p32, List.forall_mem_cons.mpr ⟨lw_p33, List.forall_mem_cons.mpr ⟨lw_p34, List.forall_mem_cons.mpr ⟨lw_p35, List.forall_mem_cons.mpr ⟨lw_p36, List.forall_mem_cons.mpr ⟨lw_p37, List.forall_mem_cons.mpr ⟨lw_p38, List.forall_mem_cons.mpr ⟨lw_p39, List.forall_mem_cons.mpr ⟨lw_p40, List.forall_mem_cons.mpr ⟨lw_p41, List.forall_mem_cons.mpr ⟨lw_p42, List.forall_mem_cons.mpr ⟨lw_p43, List.forall_mem_cons.mpr ⟨lw_p44, List.forall_mem_cons.mpr ⟨lw_p45, List.forall_mem_cons.mpr ⟨lw_p46, List.forall_mem_cons.mpr ⟨lw_p47, fun _ h => absurd h List.not_mem_nil⟩⟩⟩⟩⟩⟩⟩⟩⟩⟩⟩⟩⟩⟩⟩⟩
theorem lw_p48 : lw_okq (⟨"YesPlanesModel", "findSame", "()Z"⟩, 61) := ⟨⟨by decide +kernel, by decide +kernel⟩, List.mem_of_getElem? (i := 1108) (by decide +kernel), List.mem_of_getElem? (i := 1370) (by decide +kernel), List.mem_of_getElem? (i := 1371) (by decide +kernel)⟩
theorem lw_p49 : lw_okq (⟨"YesPlanesModel", "isAt", "(II)Z"⟩, 61) := ⟨⟨by decide +kernel, by decide +kernel⟩, List.mem_of_getElem? (i := 1108) (by decide +kernel), List.mem_of_getElem? (i := 1374) (by decide +kernel), List.mem_of_getElem? (i := 1375) (by decide +kernel)⟩
theorem lw_p50 : lw_okq (⟨"YesPlanesModel", "member", "(IIJJ)V"⟩, 61) := ⟨⟨by decide +kernel, by decide +kernel⟩, List.mem_of_getElem? (i := 1108) (by decide +kernel), List.mem_of_getElem? (i := 1378) (by decide +kernel), List.mem_of_getElem? (i := 1379) (by decide +kernel)⟩
theorem lw_p51 : lw_okq (⟨"YesPlanesModel", "place", "(JJJ)V"⟩, 61) := ⟨⟨by decide +kernel, by decide +kernel⟩, List.mem_of_getElem? (i := 1108) (by decide +kernel), List.mem_of_getElem? (i := 1383) (by decide +kernel), List.mem_of_getElem? (i := 1384) (by decide +kernel)⟩
theorem lw_p52 : lw_okq (⟨"YesPlanesModel", "findBetween", "()Z"⟩, 61) := ⟨⟨by decide +kernel, by decide +kernel⟩, List.mem_of_getElem? (i := 1108) (by decide +kernel), List.mem_of_getElem? (i := 1387) (by decide +kernel), List.mem_of_getElem? (i := 1388) (by decide +kernel)⟩
theorem lw_p53 : lw_okq (⟨"YesPlanesModel", "isBetween", "(III)Z"⟩, 61) := ⟨⟨by decide +kernel, by decide +kernel⟩, List.mem_of_getElem? (i := 1108) (by decide +kernel), List.mem_of_getElem? (i := 1391) (by decide +kernel), List.mem_of_getElem? (i := 1392) (by decide +kernel)⟩
theorem lw_p54 : lw_okq (⟨"YesPlanesModel", "area", "(III)J"⟩, 61) := ⟨⟨by decide +kernel, by decide +kernel⟩, List.mem_of_getElem? (i := 1108) (by decide +kernel), List.mem_of_getElem? (i := 1395) (by decide +kernel), List.mem_of_getElem? (i := 1396) (by decide +kernel)⟩
theorem lw_p55 : lw_okq (⟨"YesPlanesModel", "meetsBy", "(IIIIII)V"⟩, 61) := ⟨⟨by decide +kernel, by decide +kernel⟩, List.mem_of_getElem? (i := 1108) (by decide +kernel), List.mem_of_getElem? (i := 1402) (by decide +kernel), List.mem_of_getElem? (i := 1403) (by decide +kernel)⟩
theorem lw_p56 : lw_okq (⟨"YesPlanesModel", "meetsAt", "(IIII)V"⟩, 61) := ⟨⟨by decide +kernel, by decide +kernel⟩, List.mem_of_getElem? (i := 1108) (by decide +kernel), List.mem_of_getElem? (i := 1406) (by decide +kernel), List.mem_of_getElem? (i := 1407) (by decide +kernel)⟩
theorem lw_p57 : lw_okq (⟨"YesPlanesModel", "findWithin", "()Z"⟩, 61) := ⟨⟨by decide +kernel, by decide +kernel⟩, List.mem_of_getElem? (i := 1108) (by decide +kernel), List.mem_of_getElem? (i := 1410) (by decide +kernel), List.mem_of_getElem? (i := 1411) (by decide +kernel)⟩
theorem lw_p58 : lw_okq (⟨"YesPlanesModel", "findOthers", "(II)Z"⟩, 61) := ⟨⟨by decide +kernel, by decide +kernel⟩, List.mem_of_getElem? (i := 1108) (by decide +kernel), List.mem_of_getElem? (i := 1414) (by decide +kernel), List.mem_of_getElem? (i := 1415) (by decide +kernel)⟩
theorem lw_p59 : lw_okq (⟨"YesPlanesModel", "isWithin", "(IIII)Z"⟩, 61) := ⟨⟨by decide +kernel, by decide +kernel⟩, List.mem_of_getElem? (i := 1108) (by decide +kernel), List.mem_of_getElem? (i := 1418) (by decide +kernel), List.mem_of_getElem? (i := 1419) (by decide +kernel)⟩
theorem lw_p60 : lw_okq (⟨"YesPlanesModel", "findInner", "(III)Z"⟩, 61) := ⟨⟨by decide +kernel, by decide +kernel⟩, List.mem_of_getElem? (i := 1108) (by decide +kernel), List.mem_of_getElem? (i := 1422) (by decide +kernel), List.mem_of_getElem? (i := 1423) (by decide +kernel)⟩
theorem lw_p61 : lw_okq (⟨"YesPlanesModel", "findCrossing", "()Z"⟩, 61) := ⟨⟨by decide +kernel, by decide +kernel⟩, List.mem_of_getElem? (i := 1108) (by decide +kernel), List.mem_of_getElem? (i := 1426) (by decide +kernel), List.mem_of_getElem? (i := 1427) (by decide +kernel)⟩
theorem lw_p62 : lw_okq (⟨"YesPlanesModel", "findCrossed", "(III)Z"⟩, 61) := ⟨⟨by decide +kernel, by decide +kernel⟩, List.mem_of_getElem? (i := 1108) (by decide +kernel), List.mem_of_getElem? (i := 1430) (by decide +kernel), List.mem_of_getElem? (i := 1431) (by decide +kernel)⟩
theorem lw_p63 : lw_okq (⟨"YesPlanesModel", "isCrossing", "(IIII)Z"⟩, 61) := ⟨⟨by decide +kernel, by decide +kernel⟩, List.mem_of_getElem? (i := 1108) (by decide +kernel), List.mem_of_getElem? (i := 1434) (by decide +kernel), List.mem_of_getElem? (i := 1435) (by decide +kernel)⟩
noncomputable def lw_privs_4 : List (MethodName × Nat) := [(⟨"YesPlanesModel", "findSame", "()Z"⟩, 61), (⟨"YesPlanesModel", "isAt", "(II)Z"⟩, 61), (⟨"YesPlanesModel", "member", "(IIJJ)V"⟩, 61), (⟨"YesPlanesModel", "place", "(JJJ)V"⟩, 61), (⟨"YesPlanesModel", "findBetween", "()Z"⟩, 61), (⟨"YesPlanesModel", "isBetween", "(III)Z"⟩, 61), (⟨"YesPlanesModel", "area", "(III)J"⟩, 61), (⟨"YesPlanesModel", "meetsBy", "(IIIIII)V"⟩, 61), (⟨"YesPlanesModel", "meetsAt", "(IIII)V"⟩, 61), (⟨"YesPlanesModel", "findWithin", "()Z"⟩, 61), (⟨"YesPlanesModel", "findOthers", "(II)Z"⟩, 61), (⟨"YesPlanesModel", "isWithin", "(IIII)Z"⟩, 61), (⟨"YesPlanesModel", "findInner", "(III)Z"⟩, 61), (⟨"YesPlanesModel", "findCrossing", "()Z"⟩, 61), (⟨"YesPlanesModel", "findCrossed", "(III)Z"⟩, 61), (⟨"YesPlanesModel", "isCrossing", "(IIII)Z"⟩, 61)]
theorem lw_r4 : ∀ q ∈ lw_privs_4, lw_okq q := List.forall_mem_cons.mpr ⟨lw_p48, List.forall_mem_cons.mpr ⟨lw_p49, List.forall_mem_cons.mpr ⟨lw_p50, List.forall_mem_cons.mpr ⟨lw_p51, List.forall_mem_cons.mpr ⟨lw_p52, List.forall_mem_cons.mpr ⟨lw_p53, List.forall_mem_cons.mpr ⟨lw_p54, List.forall_mem_cons.mpr ⟨lw_p55, List.forall_mem_cons.mpr ⟨lw_p56, List.forall_mem_cons.mpr ⟨lw_p57, List.forall_mem_cons.mpr ⟨lw_p58, List.forall_mem_cons.mpr ⟨lw_p59, List.forall_mem_cons.mpr ⟨lw_p60, List.forall_mem_cons.mpr ⟨lw_p61, List.forall_mem_cons.mpr ⟨lw_p62, List.forall_mem_cons.mpr ⟨lw_p63, fun _ h => absurd h List.not_mem_nil⟩⟩⟩⟩⟩⟩⟩⟩⟩⟩⟩⟩⟩⟩⟩⟩
theorem lw_p64 : lw_okq (⟨"YesPlanesModel", "findWay", "()V"⟩, 61) := ⟨⟨by decide +kernel, by decide +kernel⟩, List.mem_of_getElem? (i := 1108) (by decide +kernel), List.mem_of_getElem? (i := 1463) (by decide +kernel), List.mem_of_getElem? (i := 1464) (by decide +kernel)⟩
theorem lw_p65 : lw_okq (⟨"YesPlanesModel", "many", "(I)I"⟩, 61) := ⟨⟨by decide +kernel, by decide +kernel⟩, List.mem_of_getElem? (i := 1108) (by decide +kernel), List.mem_of_getElem? (i := 1467) (by decide +kernel), List.mem_of_getElem? (i := 1468) (by decide +kernel)⟩
theorem lw_p66 : lw_okq (⟨"YesPlanesModel", "tryWay", "(JJ)V"⟩, 61) := ⟨⟨by decide +kernel, by decide +kernel⟩, List.mem_of_getElem? (i := 1108) (by decide +kernel), List.mem_of_getElem? (i := 1471) (by decide +kernel), List.mem_of_getElem? (i := 1472) (by decide +kernel)⟩
theorem lw_p67 : lw_okq (⟨"YesPlanesModel", "isSide", "(I)Z"⟩, 61) := ⟨⟨by decide +kernel, by decide +kernel⟩, List.mem_of_getElem? (i := 1108) (by decide +kernel), List.mem_of_getElem? (i := 1476) (by decide +kernel), List.mem_of_getElem? (i := 1477) (by decide +kernel)⟩
theorem lw_p68 : lw_okq (⟨"YesPlanesModel", "isMany", "(I)Z"⟩, 61) := ⟨⟨by decide +kernel, by decide +kernel⟩, List.mem_of_getElem? (i := 1108) (by decide +kernel), List.mem_of_getElem? (i := 1499) (by decide +kernel), List.mem_of_getElem? (i := 1500) (by decide +kernel)⟩
theorem lw_p69 : lw_okq (⟨"YesPlanesModel", "findSets", "(I)V"⟩, 61) := ⟨⟨by decide +kernel, by decide +kernel⟩, List.mem_of_getElem? (i := 1108) (by decide +kernel), List.mem_of_getElem? (i := 1504) (by decide +kernel), List.mem_of_getElem? (i := 1505) (by decide +kernel)⟩
theorem lw_p70 : lw_okq (⟨"YesPlanesModel", "choose", "(I)V"⟩, 61) := ⟨⟨by decide +kernel, by decide +kernel⟩, List.mem_of_getElem? (i := 1108) (by decide +kernel), List.mem_of_getElem? (i := 1508) (by decide +kernel), List.mem_of_getElem? (i := 1509) (by decide +kernel)⟩
theorem lw_p71 : lw_okq (⟨"YesPlanesModel", "turnAbout", "(II)V"⟩, 61) := ⟨⟨by decide +kernel, by decide +kernel⟩, List.mem_of_getElem? (i := 1108) (by decide +kernel), List.mem_of_getElem? (i := 1512) (by decide +kernel), List.mem_of_getElem? (i := 1513) (by decide +kernel)⟩
theorem lw_p72 : lw_okq (⟨"YesPlanesModel", "further", "(III)J"⟩, 61) := ⟨⟨by decide +kernel, by decide +kernel⟩, List.mem_of_getElem? (i := 1108) (by decide +kernel), List.mem_of_getElem? (i := 1516) (by decide +kernel), List.mem_of_getElem? (i := 1517) (by decide +kernel)⟩
theorem lw_p73 : lw_okq (⟨"YesPlanesModel", "findStep", "()V"⟩, 61) := ⟨⟨by decide +kernel, by decide +kernel⟩, List.mem_of_getElem? (i := 1108) (by decide +kernel), List.mem_of_getElem? (i := 1565) (by decide +kernel), List.mem_of_getElem? (i := 1566) (by decide +kernel)⟩
theorem lw_p74 : lw_okq (⟨"YesPlanesModel", "wrongOf", "(III)J"⟩, 61) := ⟨⟨by decide +kernel, by decide +kernel⟩, List.mem_of_getElem? (i := 1108) (by decide +kernel), List.mem_of_getElem? (i := 1569) (by decide +kernel), List.mem_of_getElem? (i := 1570) (by decide +kernel)⟩
theorem lw_p75 : lw_okq (⟨"YesPlanesModel", "weigh", "(I)Z"⟩, 61) := ⟨⟨by decide +kernel, by decide +kernel⟩, List.mem_of_getElem? (i := 1108) (by decide +kernel), List.mem_of_getElem? (i := 1576) (by decide +kernel), List.mem_of_getElem? (i := 1577) (by decide +kernel)⟩
theorem lw_p76 : lw_okq (⟨"YesPlanesModel", "isWrongBy", "(II)Z"⟩, 61) := ⟨⟨by decide +kernel, by decide +kernel⟩, List.mem_of_getElem? (i := 1108) (by decide +kernel), List.mem_of_getElem? (i := 1580) (by decide +kernel), List.mem_of_getElem? (i := 1581) (by decide +kernel)⟩
theorem lw_p77 : lw_okq (⟨"YesPlanesModel", "times", "([IJ)V"⟩, 61) := ⟨⟨by decide +kernel, by decide +kernel⟩, List.mem_of_getElem? (i := 1108) (by decide +kernel), List.mem_of_getElem? (i := 1601) (by decide +kernel), List.mem_of_getElem? (i := 1602) (by decide +kernel)⟩
theorem lw_p78 : lw_okq (⟨"YesPlanesModel", "findHull", "(I)V"⟩, 61) := ⟨⟨by decide +kernel, by decide +kernel⟩, List.mem_of_getElem? (i := 1108) (by decide +kernel), List.mem_of_getElem? (i := 1610) (by decide +kernel), List.mem_of_getElem? (i := 1611) (by decide +kernel)⟩
theorem lw_p79 : lw_okq (⟨"YesPlanesModel", "far", "(II)J"⟩, 61) := ⟨⟨by decide +kernel, by decide +kernel⟩, List.mem_of_getElem? (i := 1108) (by decide +kernel), List.mem_of_getElem? (i := 1614) (by decide +kernel), List.mem_of_getElem? (i := 1615) (by decide +kernel)⟩
noncomputable def lw_privs_5 : List (MethodName × Nat) := [(⟨"YesPlanesModel", "findWay", "()V"⟩, 61), (⟨"YesPlanesModel", "many", "(I)I"⟩, 61), (⟨"YesPlanesModel", "tryWay", "(JJ)V"⟩, 61), (⟨"YesPlanesModel", "isSide", "(I)Z"⟩, 61), (⟨"YesPlanesModel", "isMany", "(I)Z"⟩, 61), (⟨"YesPlanesModel", "findSets", "(I)V"⟩, 61), (⟨"YesPlanesModel", "choose", "(I)V"⟩, 61), (⟨"YesPlanesModel", "turnAbout", "(II)V"⟩, 61), (⟨"YesPlanesModel", "further", "(III)J"⟩, 61), (⟨"YesPlanesModel", "findStep", "()V"⟩, 61), (⟨"YesPlanesModel", "wrongOf", "(III)J"⟩, 61), (⟨"YesPlanesModel", "weigh", "(I)Z"⟩, 61), (⟨"YesPlanesModel", "isWrongBy", "(II)Z"⟩, 61), (⟨"YesPlanesModel", "times", "([IJ)V"⟩, 61), (⟨"YesPlanesModel", "findHull", "(I)V"⟩, 61), (⟨"YesPlanesModel", "far", "(II)J"⟩, 61)]
theorem lw_r5 : ∀ q ∈ lw_privs_5, lw_okq q := List.forall_mem_cons.mpr ⟨lw_p64, List.forall_mem_cons.mpr ⟨lw_p65, List.forall_mem_cons.mpr ⟨lw_p66, List.forall_mem_cons.mpr ⟨lw_p67, List.forall_mem_cons.mpr ⟨lw_p68, List.forall_mem_cons.mpr ⟨lw_p69, List.forall_mem_cons.mpr ⟨lw_p70, List.forall_mem_cons.mpr ⟨lw_p71, List.forall_mem_cons.mpr ⟨lw_p72, List.forall_mem_cons.mpr ⟨lw_p73, List.forall_mem_cons.mpr ⟨lw_p74, List.forall_mem_cons.mpr ⟨lw_p75, List.forall_mem_cons.mpr ⟨lw_p76, List.forall_mem_cons.mpr ⟨lw_p77, List.forall_mem_cons.mpr ⟨lw_p78, List.forall_mem_cons.mpr ⟨lw_p79, fun _ h => absurd h List.not_mem_nil⟩⟩⟩⟩⟩⟩⟩⟩⟩⟩⟩⟩⟩⟩⟩⟩
theorem lw_p80 : lw_okq (⟨"YesPlanesModel", "isHalf", "(IIII)Z"⟩, 61) := ⟨⟨by decide +kernel, by decide +kernel⟩, List.mem_of_getElem? (i := 1108) (by decide +kernel), List.mem_of_getElem? (i := 1627) (by decide +kernel), List.mem_of_getElem? (i := 1628) (by decide +kernel)⟩
theorem lw_p81 : lw_okq (⟨"YesPlanesModel", "isClear", "(II)Z"⟩, 61) := ⟨⟨by decide +kernel, by decide +kernel⟩, List.mem_of_getElem? (i := 1108) (by decide +kernel), List.mem_of_getElem? (i := 1635) (by decide +kernel), List.mem_of_getElem? (i := 1636) (by decide +kernel)⟩
noncomputable def lw_privs_6 : List (MethodName × Nat) := [(⟨"YesPlanesModel", "isHalf", "(IIII)Z"⟩, 61), (⟨"YesPlanesModel", "isClear", "(II)Z"⟩, 61)]
theorem lw_r6 : ∀ q ∈ lw_privs_6, lw_okq q := List.forall_mem_cons.mpr ⟨lw_p80, List.forall_mem_cons.mpr ⟨lw_p81, fun _ h => absurd h List.not_mem_nil⟩⟩
noncomputable def lw_privs : List (MethodName × Nat) := lw_privs_1 ++ (lw_privs_2 ++ (lw_privs_3 ++ (lw_privs_4 ++ (lw_privs_5 ++ (lw_privs_6)))))
noncomputable def lw_tbl : List Cond := k2_sels lw_privs ++ tables_1
theorem lw_privs_ok : ∀ q ∈ lw_privs, lw_okq q := by
  show ∀ q ∈ lw_privs_1 ++ (lw_privs_2 ++ (lw_privs_3 ++ (lw_privs_4 ++ (lw_privs_5 ++ (lw_privs_6))))), lw_okq q
  exact List.forall_mem_append.mpr ⟨lw_r1, List.forall_mem_append.mpr ⟨lw_r2, List.forall_mem_append.mpr ⟨lw_r3, List.forall_mem_append.mpr ⟨lw_r4, List.forall_mem_append.mpr ⟨lw_r5, lw_r6⟩⟩⟩⟩⟩
/-! ===== BEGIN words of one list among another's, by their places ===== -/
theorem goodIn_r {big : List Cond} (ws : List Cond) (ps : List Nat) (hp : ws = ps.filterMap (fun i => big[i]?)) (h : ws.all goodWord = true) : GoodIn big ws := by
  intro w hw
  have h1 := List.all_eq_true.mp h w hw
  rw [hp] at hw
  obtain ⟨i, -, hi⟩ := List.mem_filterMap.mp hw
  have hm : w ∈ big := by first | exact List.mem_of_getElem? hi | exact List.getElem?_mem hi
  exact ⟨hm, good_of_word h1⟩
theorem goodIn_app {big a b : List Cond} (ha : GoodIn big a) (hb : GoodIn big b) : GoodIn big (a ++ b) := fun w h => (List.mem_append.mp h).elim (ha w) (hb w)
theorem goodIn_ca {big a b : List Cond} {c : Cond} (ha : GoodIn big (c :: a)) (hb : GoodIn big b) : GoodIn big (c :: (a ++ b)) := fun w h => (List.mem_cons.mp h).elim (fun e => ha w (List.mem_cons.mpr (Or.inl e))) (fun h => (List.mem_append.mp h).elim (fun h => ha w (List.mem_cons.mpr (Or.inr h))) (hb w))
theorem goodIn_sub {big ws : List Cond} (hm : ∀ w ∈ ws, w ∈ big) (h : ws.all goodWord = true) : GoodIn big ws := fun w hw => ⟨hm w hw, good_of_word (List.all_eq_true.mp h w hw)⟩
/-! ===== END ===== -/

/-! ===== BEGIN printed: names, fields, word lists, decode rows ===== -/
noncomputable def RX0 : String := "YesPlanes$Cover"
noncomputable def TX0 : u_T := fun k => match k with
  | 0 => ("YesPlanes$Cover", "yes", "[I", true)
  | 1 => ("YesPlanes$Cover", "yesMany", "I", false)
  | 2 => ("YesPlanes$Cover", "sets", "[I", true)
  | 3 => ("YesPlanes$Cover", "setsMany", "I", false)
  | _ => ("YesPlanes$Cover", "needed", "[B", true)
noncomputable def tyX0 : Nat → FieldType := fun k => match k with
  | 0 => .array .int
  | 1 => .int
  | 2 => .array .int
  | 3 => .int
  | _ => .array .byte
noncomputable abbrev wsX00 : List Cond := u_ws RX0 TX0 5
theorem nmX0 : ∀ a, a < 5 → ∀ b, b < 5 → a ≠ b → (TX0 a).2.1 ≠ (TX0 b).2.1 := by decide +kernel
theorem tyX0_ok : ∀ k, k < 5 → parseFieldDescriptor (TX0 k).2.2.1 = some (tyX0 k) := by decide +kernel
noncomputable abbrev cX0_init : ByteArray := prog_2_method_1_code
noncomputable def yX0_init : MethodName := ⟨RX0, "<init>", "()V"⟩
noncomputable abbrev cX0_fewest : ByteArray := prog_2_method_2_code
noncomputable def yX0_fewest : MethodName := ⟨RX0, "fewest", "(LYesPlanes$Points;)I"⟩
noncomputable abbrev cX0_gather : ByteArray := prog_2_method_3_code
noncomputable def yX0_gather : MethodName := ⟨RX0, "gather", "(LYesPlanes$Points;)V"⟩
noncomputable abbrev cX0_widen : ByteArray := prog_2_method_4_code
noncomputable def yX0_widen : MethodName := ⟨RX0, "widen", "(I)V"⟩
noncomputable abbrev cX0_findSets : ByteArray := prog_2_method_5_code
noncomputable def yX0_findSets : MethodName := ⟨RX0, "findSets", "(LYesPlanes$Points;I)V"⟩
noncomputable abbrev cX0_addSet : ByteArray := prog_2_method_6_code
noncomputable def yX0_addSet : MethodName := ⟨RX0, "addSet", "(I)V"⟩
noncomputable abbrev cX0_setWithin : ByteArray := prog_2_method_7_code
noncomputable def yX0_setWithin : MethodName := ⟨RX0, "setWithin", "(LYesPlanes$Points;III)I"⟩
noncomputable def RX1 : String := "YesPlanes$Fraction"
noncomputable def TX1 : u_T := fun k => match k with
  | 0 => ("YesPlanes$Fraction", "top", "J", false)
  | _ => ("YesPlanes$Fraction", "under", "J", false)
noncomputable def tyX1 : Nat → FieldType := fun k => match k with
  | 0 => .long
  | _ => .long
noncomputable abbrev wsX10 : List Cond := u_ws RX1 TX1 2
theorem nmX1 : ∀ a, a < 2 → ∀ b, b < 2 → a ≠ b → (TX1 a).2.1 ≠ (TX1 b).2.1 := by decide +kernel
theorem tyX1_ok : ∀ k, k < 2 → parseFieldDescriptor (TX1 k).2.2.1 = some (tyX1 k) := by decide +kernel
noncomputable abbrev cX1_init : ByteArray := prog_3_method_1_code
noncomputable def yX1_init : MethodName := ⟨RX1, "<init>", "()V"⟩
noncomputable abbrev cX1_become : ByteArray := prog_3_method_2_code
noncomputable def yX1_become : MethodName := ⟨RX1, "become", "(JJ)V"⟩
noncomputable abbrev cX1_common : ByteArray := prog_3_method_3_code
noncomputable def yX1_common : MethodName := ⟨RX1, "common", "(JJ)J"⟩
noncomputable def RX2 : String := "YesPlanes$Judges"
noncomputable def TX2 : u_T := fun k => match k with
  | 0 => ("YesPlanes$Judges", "many", "I", false)
  | 1 => ("YesPlanes$Judges", "in", "I", false)
  | 2 => ("YesPlanes$Judges", "a", "[I", true)
  | 3 => ("YesPlanes$Judges", "b", "[I", true)
  | _ => ("YesPlanes$Judges", "c", "[I", true)
noncomputable def tyX2 : Nat → FieldType := fun k => match k with
  | 0 => .int
  | 1 => .int
  | 2 => .array .int
  | 3 => .array .int
  | _ => .array .int
noncomputable abbrev wsX20 : List Cond := u_ws RX2 TX2 5
theorem nmX2 : ∀ a, a < 5 → ∀ b, b < 5 → a ≠ b → (TX2 a).2.1 ≠ (TX2 b).2.1 := by decide +kernel
theorem tyX2_ok : ∀ k, k < 5 → parseFieldDescriptor (TX2 k).2.2.1 = some (tyX2 k) := by decide +kernel
noncomputable abbrev cX2_init : ByteArray := prog_4_method_1_code
noncomputable def yX2_init : MethodName := ⟨RX2, "<init>", "()V"⟩
noncomputable abbrev cX2_isLine : ByteArray := prog_4_method_2_code
noncomputable def yX2_isLine : MethodName := ⟨RX2, "isLine", "(III)Z"⟩
noncomputable abbrev cX2_canBe : ByteArray := prog_4_method_3_code
noncomputable def yX2_canBe : MethodName := ⟨RX2, "canBe", "(I)Z"⟩
noncomputable abbrev cX2_heightAbove : ByteArray := prog_4_method_4_code
noncomputable def yX2_heightAbove : MethodName := ⟨RX2, "heightAbove", "(JJJII)J"⟩
noncomputable abbrev cX2_add : ByteArray := prog_4_method_5_code
noncomputable def yX2_add : MethodName := ⟨RX2, "add", "(III)V"⟩
noncomputable abbrev cX2_become : ByteArray := prog_4_method_6_code
noncomputable def yX2_become : MethodName := ⟨RX2, "become", "(LYesPlanes$Judges;)V"⟩
noncomputable abbrev cX2_thin : ByteArray := prog_4_method_7_code
noncomputable def yX2_thin : MethodName := ⟨RX2, "thin", "(LYesPlanes$Points;)I"⟩
noncomputable abbrev cX2_sayers : ByteArray := prog_4_method_8_code
noncomputable def yX2_sayers : MethodName := ⟨RX2, "sayers", "(III)I"⟩
noncomputable def RX3 : String := "YesPlanes$Learner"
noncomputable def TX3 : u_T := fun k => match k with
  | 0 => ("YesPlanes$Learner", "p", "J", false)
  | 1 => ("YesPlanes$Learner", "q", "J", false)
  | 2 => ("YesPlanes$Learner", "\x72", "J", false)
  | 3 => ("YesPlanes$Learner", "mistakes", "J", false)
  | _ => ("YesPlanes$Learner", "rounds", "J", false)
noncomputable def tyX3 : Nat → FieldType := fun k => match k with
  | 0 => .long
  | 1 => .long
  | 2 => .long
  | 3 => .long
  | _ => .long
noncomputable abbrev wsX30 : List Cond := u_ws RX3 TX3 5
theorem nmX3 : ∀ a, a < 5 → ∀ b, b < 5 → a ≠ b → (TX3 a).2.1 ≠ (TX3 b).2.1 := by decide +kernel
theorem tyX3_ok : ∀ k, k < 5 → parseFieldDescriptor (TX3 k).2.2.1 = some (tyX3 k) := by decide +kernel
noncomputable abbrev cX3_init : ByteArray := prog_5_method_1_code
noncomputable def yX3_init : MethodName := ⟨RX3, "<init>", "()V"⟩
noncomputable abbrev cX3_forget : ByteArray := prog_5_method_2_code
noncomputable def yX3_forget : MethodName := ⟨RX3, "forget", "()V"⟩
noncomputable abbrev cX3_become : ByteArray := prog_5_method_3_code
noncomputable def yX3_become : MethodName := ⟨RX3, "become", "(LYesPlanes$Learner;)V"⟩
noncomputable abbrev cX3_train : ByteArray := prog_5_method_4_code
noncomputable def yX3_train : MethodName := ⟨RX3, "train", "(LYesPlanes$Points;I)I"⟩
noncomputable abbrev cX3_goRound : ByteArray := prog_5_method_5_code
noncomputable def yX3_goRound : MethodName := ⟨RX3, "goRound", "(LYesPlanes$Points;)I"⟩
noncomputable abbrev cX3_mend : ByteArray := prog_5_method_6_code
noncomputable def yX3_mend : MethodName := ⟨RX3, "mend", "(III)V"⟩
noncomputable def RX4 : String := "YesPlanes$Meeting"
noncomputable def TX4 : u_T := fun k => match k with
  | 0 => ("YesPlanes$Meeting", "placeX", "LYesPlanes$Fraction;", true)
  | 1 => ("YesPlanes$Meeting", "placeY", "LYesPlanes$Fraction;", true)
  | 2 => ("YesPlanes$Meeting", "kind", "I", false)
  | 3 => ("YesPlanes$Meeting", "many", "I", false)
  | 4 => ("YesPlanes$Meeting", "who", "[I", true)
  | 5 => ("YesPlanes$Meeting", "shares", "[LYesPlanes$Fraction;", true)
  | 6 => ("YesPlanes$Meeting", "yes", "[I", true)
  | 7 => ("YesPlanes$Meeting", "no", "[I", true)
  | 8 => ("YesPlanes$Meeting", "yesMany", "I", false)
  | 9 => ("YesPlanes$Meeting", "noMany", "I", false)
  | _ => ("YesPlanes$Meeting", "seen", "I", false)
noncomputable def tyX4 : Nat → FieldType := fun k => match k with
  | 0 => .object "YesPlanes$Fraction"
  | 1 => .object "YesPlanes$Fraction"
  | 2 => .int
  | 3 => .int
  | 4 => .array .int
  | 5 => .array (.object "YesPlanes$Fraction")
  | 6 => .array .int
  | 7 => .array .int
  | 8 => .int
  | 9 => .int
  | _ => .int
noncomputable abbrev wsX40 : List Cond := u_ws RX4 TX4 11
theorem nmX4 : ∀ a, a < 11 → ∀ b, b < 11 → a ≠ b → (TX4 a).2.1 ≠ (TX4 b).2.1 := by decide +kernel
theorem tyX4_ok : ∀ k, k < 11 → parseFieldDescriptor (TX4 k).2.2.1 = some (tyX4 k) := by decide +kernel
noncomputable abbrev cX4_init : ByteArray := prog_6_method_1_code
noncomputable def yX4_init : MethodName := ⟨RX4, "<init>", "()V"⟩
noncomputable abbrev cX4_canTell : ByteArray := prog_6_method_2_code
noncomputable def yX4_canTell : MethodName := ⟨RX4, "canTell", "(I)Z"⟩
noncomputable abbrev cX4_tellPoint : ByteArray := prog_6_method_3_code
noncomputable def yX4_tellPoint : MethodName := ⟨RX4, "tellPoint", "(II)J"⟩
noncomputable abbrev cX4_find : ByteArray := prog_6_method_4_code
noncomputable def yX4_find : MethodName := ⟨RX4, "find", "(LYesPlanes$Points;)V"⟩
noncomputable abbrev cX4_gather : ByteArray := prog_6_method_5_code
noncomputable def yX4_gather : MethodName := ⟨RX4, "gather", "(LYesPlanes$Points;)V"⟩
noncomputable abbrev cX4_findOnePlace : ByteArray := prog_6_method_6_code
noncomputable def yX4_findOnePlace : MethodName := ⟨RX4, "findOnePlace", "(LYesPlanes$Points;)Z"⟩
noncomputable abbrev cX4_findYesBetween : ByteArray := prog_6_method_7_code
noncomputable def yX4_findYesBetween : MethodName := ⟨RX4, "findYesBetween", "(LYesPlanes$Points;)Z"⟩
noncomputable abbrev cX4_findNoBetween : ByteArray := prog_6_method_8_code
noncomputable def yX4_findNoBetween : MethodName := ⟨RX4, "findNoBetween", "(LYesPlanes$Points;)Z"⟩
noncomputable abbrev cX4_findYesWithin : ByteArray := prog_6_method_9_code
noncomputable def yX4_findYesWithin : MethodName := ⟨RX4, "findYesWithin", "(LYesPlanes$Points;)Z"⟩
noncomputable abbrev cX4_thirdAround : ByteArray := prog_6_method_10_code
noncomputable def yX4_thirdAround : MethodName := ⟨RX4, "thirdAround", "(LYesPlanes$Points;III)I"⟩
noncomputable abbrev cX4_findNoWithin : ByteArray := prog_6_method_11_code
noncomputable def yX4_findNoWithin : MethodName := ⟨RX4, "findNoWithin", "(LYesPlanes$Points;)Z"⟩
noncomputable abbrev cX4_firstNoWithin : ByteArray := prog_6_method_12_code
noncomputable def yX4_firstNoWithin : MethodName := ⟨RX4, "firstNoWithin", "(LYesPlanes$Points;III)I"⟩
noncomputable abbrev cX4_findCrossing : ByteArray := prog_6_method_13_code
noncomputable def yX4_findCrossing : MethodName := ⟨RX4, "findCrossing", "(LYesPlanes$Points;)Z"⟩
noncomputable abbrev cX4_otherEndAcross : ByteArray := prog_6_method_14_code
noncomputable def yX4_otherEndAcross : MethodName := ⟨RX4, "otherEndAcross", "(LYesPlanes$Points;III)I"⟩
noncomputable abbrev cX4_isSameSide : ByteArray := prog_6_method_15_code
noncomputable def yX4_isSameSide : MethodName := ⟨RX4, "isSameSide", "(II)Z"⟩
noncomputable abbrev cX4_isBetween : ByteArray := prog_6_method_16_code
noncomputable def yX4_isBetween : MethodName := ⟨RX4, "isBetween", "(LYesPlanes$Points;III)Z"⟩
noncomputable abbrev cX4_hold : ByteArray := prog_6_method_17_code
noncomputable def yX4_hold : MethodName := ⟨RX4, "hold", "(IIIIII)Z"⟩
noncomputable abbrev cX4_shareAlone : ByteArray := prog_6_method_18_code
noncomputable def yX4_shareAlone : MethodName := ⟨RX4, "shareAlone", "(LYesPlanes$Points;I)V"⟩
noncomputable abbrev cX4_shareBetween : ByteArray := prog_6_method_19_code
noncomputable def yX4_shareBetween : MethodName := ⟨RX4, "shareBetween", "(LYesPlanes$Points;II)V"⟩
noncomputable abbrev cX4_shareWithin : ByteArray := prog_6_method_20_code
noncomputable def yX4_shareWithin : MethodName := ⟨RX4, "shareWithin", "(LYesPlanes$Points;II)V"⟩
noncomputable abbrev cX4_shareCrossing : ByteArray := prog_6_method_21_code
noncomputable def yX4_shareCrossing : MethodName := ⟨RX4, "shareCrossing", "(LYesPlanes$Points;)V"⟩
noncomputable abbrev cX4_shareEnds : ByteArray := prog_6_method_22_code
noncomputable def yX4_shareEnds : MethodName := ⟨RX4, "shareEnds", "(LYesPlanes$Points;II)V"⟩
noncomputable def RX5 : String := "YesPlanes$Partings"
noncomputable def TX5 : u_T := fun k => match k with
  | 0 => ("YesPlanes$Partings", "leastWrong", "I", false)
  | 1 => ("YesPlanes$Partings", "leastWrongSet", "I", false)
  | 2 => ("YesPlanes$Partings", "marks", "[J", true)
  | _ => ("YesPlanes$Partings", "all", "I", false)
noncomputable def tyX5 : Nat → FieldType := fun k => match k with
  | 0 => .int
  | 1 => .int
  | 2 => .array .long
  | _ => .int
noncomputable abbrev wsX50 : List Cond := u_ws RX5 TX5 4
theorem nmX5 : ∀ a, a < 4 → ∀ b, b < 4 → a ≠ b → (TX5 a).2.1 ≠ (TX5 b).2.1 := by decide +kernel
theorem tyX5_ok : ∀ k, k < 4 → parseFieldDescriptor (TX5 k).2.2.1 = some (tyX5 k) := by decide +kernel
noncomputable abbrev cX5_init : ByteArray := prog_7_method_1_code
noncomputable def yX5_init : MethodName := ⟨RX5, "<init>", "()V"⟩
noncomputable abbrev cX5_fits : ByteArray := prog_7_method_2_code
noncomputable def yX5_fits : MethodName := ⟨RX5, "fits", "(II)Z"⟩
noncomputable abbrev cX5_find : ByteArray := prog_7_method_3_code
noncomputable def yX5_find : MethodName := ⟨RX5, "find", "(LYesPlanes$Points;I)V"⟩
noncomputable abbrev cX5_markAlong : ByteArray := prog_7_method_4_code
noncomputable def yX5_markAlong : MethodName := ⟨RX5, "markAlong", "(LYesPlanes$Points;III)V"⟩
noncomputable abbrev cX5_markBoth : ByteArray := prog_7_method_5_code
noncomputable def yX5_markBoth : MethodName := ⟨RX5, "markBoth", "(I)V"⟩
noncomputable abbrev cX5_mark : ByteArray := prog_7_method_6_code
noncomputable def yX5_mark : MethodName := ⟨RX5, "mark", "(I)V"⟩
noncomputable abbrev cX5_isMarked : ByteArray := prog_7_method_7_code
noncomputable def yX5_isMarked : MethodName := ⟨RX5, "isMarked", "(I)Z"⟩
noncomputable abbrev cX5_tally : ByteArray := prog_7_method_8_code
noncomputable def yX5_tally : MethodName := ⟨RX5, "tally", "()I"⟩
noncomputable abbrev cX5_findLeastWrong : ByteArray := prog_7_method_9_code
noncomputable def yX5_findLeastWrong : MethodName := ⟨RX5, "findLeastWrong", "(LYesPlanes$Points;I)V"⟩
noncomputable abbrev cX5_wrongBy : ByteArray := prog_7_method_10_code
noncomputable def yX5_wrongBy : MethodName := ⟨RX5, "wrongBy", "(LYesPlanes$Points;II)I"⟩
noncomputable abbrev cX5_isShattered : ByteArray := prog_7_method_11_code
noncomputable def yX5_isShattered : MethodName := ⟨RX5, "isShattered", "(LYesPlanes$Points;I)Z"⟩
noncomputable abbrev cX5_nextOf : ByteArray := prog_7_method_12_code
noncomputable def yX5_nextOf : MethodName := ⟨RX5, "nextOf", "(LYesPlanes$Points;II)I"⟩
noncomputable def RX6 : String := "YesPlanes$Points"
noncomputable def TX6 : u_T := fun k => match k with
  | 0 => ("YesPlanes$Points", "x", "[I", true)
  | 1 => ("YesPlanes$Points", "y", "[I", true)
  | 2 => ("YesPlanes$Points", "colour", "[I", true)
  | 3 => ("YesPlanes$Points", "weight", "[I", true)
  | 4 => ("YesPlanes$Points", "many", "I", false)
  | _ => ("YesPlanes$Points", "changes", "I", false)
noncomputable def tyX6 : Nat → FieldType := fun k => match k with
  | 0 => .array .int
  | 1 => .array .int
  | 2 => .array .int
  | 3 => .array .int
  | 4 => .int
  | _ => .int
noncomputable abbrev wsX60 : List Cond := u_ws RX6 TX6 6
theorem nmX6 : ∀ a, a < 6 → ∀ b, b < 6 → a ≠ b → (TX6 a).2.1 ≠ (TX6 b).2.1 := by decide +kernel
theorem tyX6_ok : ∀ k, k < 6 → parseFieldDescriptor (TX6 k).2.2.1 = some (tyX6 k) := by decide +kernel
noncomputable abbrev cX6_init : ByteArray := prog_8_method_1_code
noncomputable def yX6_init : MethodName := ⟨RX6, "<init>", "()V"⟩
noncomputable abbrev cX6_isNear : ByteArray := prog_8_method_2_code
noncomputable def yX6_isNear : MethodName := ⟨RX6, "isNear", "(J)Z"⟩
noncomputable abbrev cX6_isColour : ByteArray := prog_8_method_3_code
noncomputable def yX6_isColour : MethodName := ⟨RX6, "isColour", "(I)Z"⟩
noncomputable abbrev cX6_has : ByteArray := prog_8_method_4_code
noncomputable def yX6_has : MethodName := ⟨RX6, "has", "(I)Z"⟩
noncomputable abbrev cX6_add : ByteArray := prog_8_method_5_code
noncomputable def yX6_add : MethodName := ⟨RX6, "add", "(III)V"⟩
noncomputable abbrev cX6_remove : ByteArray := prog_8_method_6_code
noncomputable def yX6_remove : MethodName := ⟨RX6, "remove", "(I)V"⟩
noncomputable abbrev cX6_repaint : ByteArray := prog_8_method_7_code
noncomputable def yX6_repaint : MethodName := ⟨RX6, "repaint", "(III)V"⟩
noncomputable abbrev cX6_become : ByteArray := prog_8_method_8_code
noncomputable def yX6_become : MethodName := ⟨RX6, "become", "(LYesPlanes$Points;)V"⟩
noncomputable abbrev cX6_tally : ByteArray := prog_8_method_9_code
noncomputable def yX6_tally : MethodName := ⟨RX6, "tally", "(I)I"⟩
noncomputable abbrev cX6_hasBothColours : ByteArray := prog_8_method_10_code
noncomputable def yX6_hasBothColours : MethodName := ⟨RX6, "hasBothColours", "()Z"⟩
noncomputable abbrev cX6_allWeights : ByteArray := prog_8_method_11_code
noncomputable def yX6_allWeights : MethodName := ⟨RX6, "allWeights", "()I"⟩
noncomputable abbrev cX6_samePlace : ByteArray := prog_8_method_12_code
noncomputable def yX6_samePlace : MethodName := ⟨RX6, "samePlace", "(II)Z"⟩
noncomputable abbrev cX6_coloursShareAPlace : ByteArray := prog_8_method_13_code
noncomputable def yX6_coloursShareAPlace : MethodName := ⟨RX6, "coloursShareAPlace", "()Z"⟩
noncomputable abbrev cX6_turn : ByteArray := prog_8_method_14_code
noncomputable def yX6_turn : MethodName := ⟨RX6, "turn", "(III)I"⟩
noncomputable abbrev cX6_reach : ByteArray := prog_8_method_15_code
noncomputable def yX6_reach : MethodName := ⟨RX6, "reach", "(III)I"⟩
noncomputable def RX7 : String := "YesPlanes$Shape"
noncomputable def TX7 : u_T := fun k => match k with
  | 0 => ("YesPlanes$Shape", "corner", "[I", true)
  | _ => ("YesPlanes$Shape", "corners", "I", false)
noncomputable def tyX7 : Nat → FieldType := fun k => match k with
  | 0 => .array .int
  | _ => .int
noncomputable abbrev wsX70 : List Cond := u_ws RX7 TX7 2
theorem nmX7 : ∀ a, a < 2 → ∀ b, b < 2 → a ≠ b → (TX7 a).2.1 ≠ (TX7 b).2.1 := by decide +kernel
theorem tyX7_ok : ∀ k, k < 2 → parseFieldDescriptor (TX7 k).2.2.1 = some (tyX7 k) := by decide +kernel
noncomputable abbrev cX7_init : ByteArray := prog_9_method_1_code
noncomputable def yX7_init : MethodName := ⟨RX7, "<init>", "()V"⟩
noncomputable abbrev cX7_wrap : ByteArray := prog_9_method_2_code
noncomputable def yX7_wrap : MethodName := ⟨RX7, "wrap", "(LYesPlanes$Points;I)V"⟩
noncomputable abbrev cX7_lowest : ByteArray := prog_9_method_3_code
noncomputable def yX7_lowest : MethodName := ⟨RX7, "lowest", "(LYesPlanes$Points;I)I"⟩
noncomputable abbrev cX7_isLower : ByteArray := prog_9_method_4_code
noncomputable def yX7_isLower : MethodName := ⟨RX7, "isLower", "(LYesPlanes$Points;II)Z"⟩
noncomputable abbrev cX7_nextCorner : ByteArray := prog_9_method_5_code
noncomputable def yX7_nextCorner : MethodName := ⟨RX7, "nextCorner", "(LYesPlanes$Points;II)I"⟩
noncomputable abbrev cX7_isOuter : ByteArray := prog_9_method_6_code
noncomputable def yX7_isOuter : MethodName := ⟨RX7, "isOuter", "(LYesPlanes$Points;III)Z"⟩
noncomputable abbrev cX7_depthAt : ByteArray := prog_9_method_7_code
noncomputable def yX7_depthAt : MethodName := ⟨RX7, "depthAt", "(LYesPlanes$Points;II)I"⟩
noncomputable abbrev cX7_lighterSide : ByteArray := prog_9_method_8_code
noncomputable def yX7_lighterSide : MethodName := ⟨RX7, "lighterSide", "(LYesPlanes$Points;IIII)I"⟩
noncomputable abbrev cX7_firstHalving : ByteArray := prog_9_method_9_code
noncomputable def yX7_firstHalving : MethodName := ⟨RX7, "firstHalving", "(LYesPlanes$Points;)I"⟩
noncomputable abbrev cX7_isHalving : ByteArray := prog_9_method_10_code
noncomputable def yX7_isHalving : MethodName := ⟨RX7, "isHalving", "(LYesPlanes$Points;IIII)Z"⟩
noncomputable def RX8 : String := "YesPlanes$Sheet"
noncomputable def TX8 : u_T := fun k => match k with
  | 0 => ("YesPlanes$Sheet", "row", "[J", true)
  | 1 => ("YesPlanes$Sheet", "there", "Z", false)
  | 2 => ("YesPlanes$Sheet", "kindOfNumber", "I", false)
  | _ => ("YesPlanes$Sheet", "length", "I", false)
noncomputable def tyX8 : Nat → FieldType := fun k => match k with
  | 0 => .array .long
  | 1 => .boolean
  | 2 => .int
  | _ => .int
noncomputable abbrev wsX80 : List Cond := u_ws RX8 TX8 4
theorem nmX8 : ∀ a, a < 4 → ∀ b, b < 4 → a ≠ b → (TX8 a).2.1 ≠ (TX8 b).2.1 := by decide +kernel
theorem tyX8_ok : ∀ k, k < 4 → parseFieldDescriptor (TX8 k).2.2.1 = some (tyX8 k) := by decide +kernel
noncomputable abbrev cX8_init : ByteArray := prog_10_method_1_code
noncomputable def yX8_init : MethodName := ⟨RX8, "<init>", "()V"⟩
noncomputable abbrev cX8_lay : ByteArray := prog_10_method_2_code
noncomputable def yX8_lay : MethodName := ⟨RX8, "lay", "(II)V"⟩
noncomputable abbrev cX8_tear : ByteArray := prog_10_method_3_code
noncomputable def yX8_tear : MethodName := ⟨RX8, "tear", "()V"⟩
noncomputable abbrev cX8_has : ByteArray := prog_10_method_4_code
noncomputable def yX8_has : MethodName := ⟨RX8, "has", "(I)Z"⟩
noncomputable abbrev cX8_hasAll : ByteArray := prog_10_method_5_code
noncomputable def yX8_hasAll : MethodName := ⟨RX8, "hasAll", "(II)Z"⟩
noncomputable abbrev cX8_put : ByteArray := prog_10_method_6_code
noncomputable def yX8_put : MethodName := ⟨RX8, "put", "(IJ)V"⟩
noncomputable abbrev cX8_putAll : ByteArray := prog_10_method_7_code
noncomputable def yX8_putAll : MethodName := ⟨RX8, "putAll", "(ILYesPlanes$Sheet;II)V"⟩
noncomputable abbrev cX8_hasEveryX : ByteArray := prog_10_method_8_code
noncomputable def yX8_hasEveryX : MethodName := ⟨RX8, "hasEveryX", "(II)Z"⟩
noncomputable abbrev cX8_hasNearPlaces : ByteArray := prog_10_method_9_code
noncomputable def yX8_hasNearPlaces : MethodName := ⟨RX8, "hasNearPlaces", "(II)Z"⟩
noncomputable abbrev cX8_numberOrZero : ByteArray := prog_10_method_10_code
noncomputable def yX8_numberOrZero : MethodName := ⟨RX8, "numberOrZero", "(I)J"⟩
noncomputable abbrev cX8_cut : ByteArray := prog_10_method_11_code
noncomputable def yX8_cut : MethodName := ⟨RX8, "cut", "(J)J"⟩
noncomputable def RX9 : String := "YesPlanes$Strong"
noncomputable def TX9 : u_T := fun k => match k with
  | 0 => ("YesPlanes$Strong", "axis", "[I", true)
  | 1 => ("YesPlanes$Strong", "edge", "[I", true)
  | 2 => ("YesPlanes$Strong", "sign", "[I", true)
  | 3 => ("YesPlanes$Strong", "wrong", "[J", true)
  | 4 => ("YesPlanes$Strong", "whole", "[J", true)
  | 5 => ("YesPlanes$Strong", "masses", "[J", true)
  | 6 => ("YesPlanes$Strong", "many", "I", false)
  | 7 => ("YesPlanes$Strong", "kept", "I", false)
  | 8 => ("YesPlanes$Strong", "ending", "I", false)
  | 9 => ("YesPlanes$Strong", "fresh", "[J", true)
  | 10 => ("YesPlanes$Strong", "forYes", "[J", true)
  | 11 => ("YesPlanes$Strong", "forNo", "[J", true)
  | 12 => ("YesPlanes$Strong", "chosenAxis", "I", false)
  | 13 => ("YesPlanes$Strong", "chosenEdge", "I", false)
  | 14 => ("YesPlanes$Strong", "chosenSign", "I", false)
  | 15 => ("YesPlanes$Strong", "chosenWrong", "J", false)
  | _ => ("YesPlanes$Strong", "total", "J", false)
noncomputable def tyX9 : Nat → FieldType := fun k => match k with
  | 0 => .array .int
  | 1 => .array .int
  | 2 => .array .int
  | 3 => .array .long
  | 4 => .array .long
  | 5 => .array .long
  | 6 => .int
  | 7 => .int
  | 8 => .int
  | 9 => .array .long
  | 10 => .array .long
  | 11 => .array .long
  | 12 => .int
  | 13 => .int
  | 14 => .int
  | 15 => .long
  | _ => .long
noncomputable abbrev wsX90 : List Cond := u_ws RX9 TX9 17
theorem nmX9 : ∀ a, a < 17 → ∀ b, b < 17 → a ≠ b → (TX9 a).2.1 ≠ (TX9 b).2.1 := by decide +kernel
theorem tyX9_ok : ∀ k, k < 17 → parseFieldDescriptor (TX9 k).2.2.1 = some (tyX9 k) := by decide +kernel
noncomputable abbrev cX9_init : ByteArray := prog_11_method_1_code
noncomputable def yX9_init : MethodName := ⟨RX9, "<init>", "()V"⟩
noncomputable abbrev cX9_make : ByteArray := prog_11_method_2_code
noncomputable def yX9_make : MethodName := ⟨RX9, "make", "(LYesPlanes$Points;I)V"⟩
noncomputable abbrev cX9_playRound : ByteArray := prog_11_method_3_code
noncomputable def yX9_playRound : MethodName := ⟨RX9, "playRound", "(LYesPlanes$Points;)V"⟩
noncomputable abbrev cX9_keepChosen : ByteArray := prog_11_method_4_code
noncomputable def yX9_keepChosen : MethodName := ⟨RX9, "keepChosen", "()V"⟩
noncomputable abbrev cX9_choose : ByteArray := prog_11_method_5_code
noncomputable def yX9_choose : MethodName := ⟨RX9, "choose", "(LYesPlanes$Points;)V"⟩
noncomputable abbrev cX9_weigh : ByteArray := prog_11_method_6_code
noncomputable def yX9_weigh : MethodName := ⟨RX9, "weigh", "(LYesPlanes$Points;II)V"⟩
noncomputable abbrev cX9_offer : ByteArray := prog_11_method_7_code
noncomputable def yX9_offer : MethodName := ⟨RX9, "offer", "(IIIJ)V"⟩
noncomputable abbrev cX9_saysYes : ByteArray := prog_11_method_8_code
noncomputable def yX9_saysYes : MethodName := ⟨RX9, "saysYes", "(IIIII)Z"⟩
noncomputable abbrev cX9_isWrong : ByteArray := prog_11_method_9_code
noncomputable def yX9_isWrong : MethodName := ⟨RX9, "isWrong", "(LYesPlanes$Points;I)Z"⟩
noncomputable abbrev cX9_commonMass : ByteArray := prog_11_method_10_code
noncomputable def yX9_commonMass : MethodName := ⟨RX9, "commonMass", "(LYesPlanes$Points;Z)J"⟩
noncomputable abbrev cX9_reweigh : ByteArray := prog_11_method_11_code
noncomputable def yX9_reweigh : MethodName := ⟨RX9, "reweigh", "(LYesPlanes$Points;)Z"⟩
noncomputable abbrev cX9_poll : ByteArray := prog_11_method_12_code
noncomputable def yX9_poll : MethodName := ⟨RX9, "poll", "(II)I"⟩
noncomputable abbrev cX9_setToOne : ByteArray := prog_11_method_13_code
noncomputable def yX9_setToOne : MethodName := ⟨RX9, "setToOne", "([J)V"⟩
noncomputable abbrev cX9_multiply : ByteArray := prog_11_method_14_code
noncomputable def yX9_multiply : MethodName := ⟨RX9, "multiply", "([JJ)V"⟩
noncomputable def RX10 : String := "YesPlanes$Way"
noncomputable def TX10 : u_T := fun k => match k with
  | 0 => ("YesPlanes$Way", "width", "LYesPlanes$Fraction;", true)
  | 1 => ("YesPlanes$Way", "there", "Z", false)
  | 2 => ("YesPlanes$Way", "lineA", "J", false)
  | 3 => ("YesPlanes$Way", "lineB", "J", false)
  | 4 => ("YesPlanes$Way", "lineC", "J", false)
  | 5 => ("YesPlanes$Way", "sidePoints", "I", false)
  | 6 => ("YesPlanes$Way", "seen", "I", false)
  | 7 => ("YesPlanes$Way", "a", "I", false)
  | 8 => ("YesPlanes$Way", "b", "I", false)
  | 9 => ("YesPlanes$Way", "lowYes", "I", false)
  | _ => ("YesPlanes$Way", "highNo", "I", false)
noncomputable def tyX10 : Nat → FieldType := fun k => match k with
  | 0 => .object "YesPlanes$Fraction"
  | 1 => .boolean
  | 2 => .long
  | 3 => .long
  | 4 => .long
  | 5 => .int
  | 6 => .int
  | 7 => .int
  | 8 => .int
  | 9 => .int
  | _ => .int
noncomputable abbrev wsX100 : List Cond := u_ws RX10 TX10 11
theorem nmX10 : ∀ a, a < 11 → ∀ b, b < 11 → a ≠ b → (TX10 a).2.1 ≠ (TX10 b).2.1 := by decide +kernel
theorem tyX10_ok : ∀ k, k < 11 → parseFieldDescriptor (TX10 k).2.2.1 = some (tyX10 k) := by decide +kernel
noncomputable abbrev cX10_init : ByteArray := prog_12_method_1_code
noncomputable def yX10_init : MethodName := ⟨RX10, "<init>", "()V"⟩
noncomputable abbrev cX10_find : ByteArray := prog_12_method_2_code
noncomputable def yX10_find : MethodName := ⟨RX10, "find", "(LYesPlanes$Points;)V"⟩
noncomputable abbrev cX10_isAtSide : ByteArray := prog_12_method_3_code
noncomputable def yX10_isAtSide : MethodName := ⟨RX10, "isAtSide", "(LYesPlanes$Points;I)Z"⟩
noncomputable abbrev cX10_tryPair : ByteArray := prog_12_method_4_code
noncomputable def yX10_tryPair : MethodName := ⟨RX10, "tryPair", "(LYesPlanes$Points;II)V"⟩
noncomputable abbrev cX10_tryAcross : ByteArray := prog_12_method_5_code
noncomputable def yX10_tryAcross : MethodName := ⟨RX10, "tryAcross", "(LYesPlanes$Points;II)V"⟩
noncomputable abbrev cX10_isWider : ByteArray := prog_12_method_6_code
noncomputable def yX10_isWider : MethodName := ⟨RX10, "isWider", "(JII)Z"⟩
noncomputable abbrev cX10_finish : ByteArray := prog_12_method_7_code
noncomputable def yX10_finish : MethodName := ⟨RX10, "finish", "(LYesPlanes$Points;)V"⟩
noncomputable abbrev cX10_squareSum : ByteArray := prog_12_method_8_code
noncomputable def yX10_squareSum : MethodName := ⟨RX10, "squareSum", "(JJ)J"⟩
noncomputable def RX11 : String := "YesPlanes"
noncomputable def TX11 : u_T := fun k => match k with
  | 0 => ("YesPlanes", "points", "LYesPlanes$Points;", true)
  | 1 => ("YesPlanes", "judges", "LYesPlanes$Judges;", true)
  | 2 => ("YesPlanes", "learner", "LYesPlanes$Learner;", true)
  | 3 => ("YesPlanes", "sheets", "[LYesPlanes$Sheet;", true)
  | 4 => ("YesPlanes", "keptPoints", "[LYesPlanes$Points;", true)
  | 5 => ("YesPlanes", "keptJudges", "[LYesPlanes$Judges;", true)
  | 6 => ("YesPlanes", "keptLearners", "[LYesPlanes$Learner;", true)
  | 7 => ("YesPlanes", "imageThere", "[Z", true)
  | 8 => ("YesPlanes", "way", "LYesPlanes$Way;", true)
  | 9 => ("YesPlanes", "meeting", "LYesPlanes$Meeting;", true)
  | 10 => ("YesPlanes", "partings", "LYesPlanes$Partings;", true)
  | 11 => ("YesPlanes", "latestStrong", "LYesPlanes$Strong;", true)
  | 12 => ("YesPlanes", "shape", "LYesPlanes$Shape;", true)
  | 13 => ("YesPlanes", "cover", "LYesPlanes$Cover;", true)
  | _ => ("YesPlanes", "refusedBy", "I", false)
noncomputable def tyX11 : Nat → FieldType := fun k => match k with
  | 0 => .object "YesPlanes$Points"
  | 1 => .object "YesPlanes$Judges"
  | 2 => .object "YesPlanes$Learner"
  | 3 => .array (.object "YesPlanes$Sheet")
  | 4 => .array (.object "YesPlanes$Points")
  | 5 => .array (.object "YesPlanes$Judges")
  | 6 => .array (.object "YesPlanes$Learner")
  | 7 => .array .boolean
  | 8 => .object "YesPlanes$Way"
  | 9 => .object "YesPlanes$Meeting"
  | 10 => .object "YesPlanes$Partings"
  | 11 => .object "YesPlanes$Strong"
  | 12 => .object "YesPlanes$Shape"
  | 13 => .object "YesPlanes$Cover"
  | _ => .int
noncomputable abbrev wsX110 : List Cond := u_ws RX11 TX11 15
theorem nmX11 : ∀ a, a < 15 → ∀ b, b < 15 → a ≠ b → (TX11 a).2.1 ≠ (TX11 b).2.1 := by decide +kernel
theorem tyX11_ok : ∀ k, k < 15 → parseFieldDescriptor (TX11 k).2.2.1 = some (tyX11 k) := by decide +kernel
noncomputable abbrev cX11_init : ByteArray := prog_1_method_1_code
noncomputable def yX11_init : MethodName := ⟨RX11, "<init>", "()V"⟩
noncomputable abbrev cX11_point : ByteArray := prog_1_method_2_code
noncomputable def yX11_point : MethodName := ⟨RX11, "point", "(III)I"⟩
noncomputable abbrev cX11_of : ByteArray := prog_1_method_3_code
noncomputable def yX11_of : MethodName := ⟨RX11, "of", "(II)I"⟩
noncomputable abbrev cX11_drop : ByteArray := prog_1_method_4_code
noncomputable def yX11_drop : MethodName := ⟨RX11, "drop", "(I)I"⟩
noncomputable abbrev cX11_paint : ByteArray := prog_1_method_5_code
noncomputable def yX11_paint : MethodName := ⟨RX11, "paint", "(III)I"⟩
noncomputable abbrev cX11_sheet : ByteArray := prog_1_method_6_code
noncomputable def yX11_sheet : MethodName := ⟨RX11, "sheet", "(III)I"⟩
noncomputable abbrev cX11_write : ByteArray := prog_1_method_7_code
noncomputable def yX11_write : MethodName := ⟨RX11, "write", "(IIJ)I"⟩
noncomputable abbrev cX11_read : ByteArray := prog_1_method_8_code
noncomputable def yX11_read : MethodName := ⟨RX11, "read", "(II)J"⟩
noncomputable abbrev cX11_copy : ByteArray := prog_1_method_9_code
noncomputable def yX11_copy : MethodName := ⟨RX11, "copy", "(IIIII)I"⟩
noncomputable abbrev cX11_take : ByteArray := prog_1_method_10_code
noncomputable def yX11_take : MethodName := ⟨RX11, "take", "(IIII)I"⟩
noncomputable abbrev cX11_parted : ByteArray := prog_1_method_11_code
noncomputable def yX11_parted : MethodName := ⟨RX11, "parted", "()I"⟩
noncomputable abbrev cX11_wide : ByteArray := prog_1_method_12_code
noncomputable def yX11_wide : MethodName := ⟨RX11, "wide", "(I)J"⟩
noncomputable abbrev cX11_side : ByteArray := prog_1_method_13_code
noncomputable def yX11_side : MethodName := ⟨RX11, "side", "(I)I"⟩
noncomputable abbrev cX11_meet : ByteArray := prog_1_method_14_code
noncomputable def yX11_meet : MethodName := ⟨RX11, "meet", "(I)J"⟩
noncomputable abbrev cX11_check : ByteArray := prog_1_method_15_code
noncomputable def yX11_check : MethodName := ⟨RX11, "check", "(III)I"⟩
noncomputable abbrev cX11_ways : ByteArray := prog_1_method_16_code
noncomputable def yX11_ways : MethodName := ⟨RX11, "ways", "(I)I"⟩
noncomputable abbrev cX11_isWay : ByteArray := prog_1_method_17_code
noncomputable def yX11_isWay : MethodName := ⟨RX11, "isWay", "(II)I"⟩
noncomputable abbrev cX11_best : ByteArray := prog_1_method_18_code
noncomputable def yX11_best : MethodName := ⟨RX11, "best", "(II)I"⟩
noncomputable abbrev cX11_shatter : ByteArray := prog_1_method_19_code
noncomputable def yX11_shatter : MethodName := ⟨RX11, "shatter", "(I)I"⟩
noncomputable abbrev cX11_learn : ByteArray := prog_1_method_20_code
noncomputable def yX11_learn : MethodName := ⟨RX11, "learn", "(I)I"⟩
noncomputable abbrev cX11_learnt : ByteArray := prog_1_method_21_code
noncomputable def yX11_learnt : MethodName := ⟨RX11, "learnt", "(I)J"⟩
noncomputable abbrev cX11_anew : ByteArray := prog_1_method_22_code
noncomputable def yX11_anew : MethodName := ⟨RX11, "anew", "()I"⟩
noncomputable abbrev cX11_judge : ByteArray := prog_1_method_23_code
noncomputable def yX11_judge : MethodName := ⟨RX11, "judge", "(III)I"⟩
noncomputable abbrev cX11_halve : ByteArray := prog_1_method_24_code
noncomputable def yX11_halve : MethodName := ⟨RX11, "halve", "()I"⟩
noncomputable abbrev cX11_left : ByteArray := prog_1_method_25_code
noncomputable def yX11_left : MethodName := ⟨RX11, "left", "()I"⟩
noncomputable abbrev cX11_dismiss : ByteArray := prog_1_method_26_code
noncomputable def yX11_dismiss : MethodName := ⟨RX11, "dismiss", "()I"⟩
noncomputable abbrev cX11_strong : ByteArray := prog_1_method_27_code
noncomputable def yX11_strong : MethodName := ⟨RX11, "strong", "(I)I"⟩
noncomputable abbrev cX11_step : ByteArray := prog_1_method_28_code
noncomputable def yX11_step : MethodName := ⟨RX11, "step", "(II)J"⟩
noncomputable abbrev cX11_end : ByteArray := prog_1_method_29_code
noncomputable def yX11_end : MethodName := ⟨RX11, "end", "()I"⟩
noncomputable abbrev cX11_mass : ByteArray := prog_1_method_30_code
noncomputable def yX11_mass : MethodName := ⟨RX11, "mass", "(I)J"⟩
noncomputable abbrev cX11_vote : ByteArray := prog_1_method_31_code
noncomputable def yX11_vote : MethodName := ⟨RX11, "vote", "(II)I"⟩
noncomputable abbrev cX11_hull : ByteArray := prog_1_method_32_code
noncomputable def yX11_hull : MethodName := ⟨RX11, "hull", "(II)I"⟩
noncomputable abbrev cX11_depth : ByteArray := prog_1_method_33_code
noncomputable def yX11_depth : MethodName := ⟨RX11, "depth", "(II)I"⟩
noncomputable abbrev cX11_halves : ByteArray := prog_1_method_34_code
noncomputable def yX11_halves : MethodName := ⟨RX11, "halves", "()I"⟩
noncomputable abbrev cX11_boxes : ByteArray := prog_1_method_35_code
noncomputable def yX11_boxes : MethodName := ⟨RX11, "boxes", "()I"⟩
noncomputable abbrev cX11_image : ByteArray := prog_1_method_36_code
noncomputable def yX11_image : MethodName := ⟨RX11, "image", "(I)I"⟩
noncomputable abbrev cX11_back : ByteArray := prog_1_method_37_code
noncomputable def yX11_back : MethodName := ⟨RX11, "back", "(I)I"⟩
noncomputable abbrev cX11_count : ByteArray := prog_1_method_38_code
noncomputable def yX11_count : MethodName := ⟨RX11, "count", "(I)I"⟩
noncomputable abbrev cX11_status : ByteArray := prog_1_method_39_code
noncomputable def yX11_status : MethodName := ⟨RX11, "status", "()I"⟩
noncomputable abbrev cX11_told : ByteArray := prog_1_method_40_code
noncomputable def yX11_told : MethodName := ⟨RX11, "told", "(I)I"⟩
noncomputable abbrev cX11_areParted : ByteArray := prog_1_method_41_code
noncomputable def yX11_areParted : MethodName := ⟨RX11, "areParted", "()Z"⟩
noncomputable abbrev cX11_canPartFirst : ByteArray := prog_1_method_42_code
noncomputable def yX11_canPartFirst : MethodName := ⟨RX11, "canPartFirst", "(I)Z"⟩
noncomputable abbrev cX11_sheetsThere : ByteArray := prog_1_method_43_code
noncomputable def yX11_sheetsThere : MethodName := ⟨RX11, "sheetsThere", "()I"⟩
noncomputable abbrev cX11_isSheet : ByteArray := prog_1_method_44_code
noncomputable def yX11_isSheet : MethodName := ⟨RX11, "isSheet", "(I)Z"⟩
noncomputable abbrev cX11_isImage : ByteArray := prog_1_method_45_code
noncomputable def yX11_isImage : MethodName := ⟨RX11, "isImage", "(I)Z"⟩
noncomputable def RX12 : String := "YesPlanesModel"
noncomputable def TX12 : u_T := fun k => match k with
  | 0 => ("YesPlanesModel", "thrown", "I", false)
  | 1 => ("YesPlanesModel", "status", "I", false)
  | 2 => ("YesPlanesModel", "px", "[I", true)
  | 3 => ("YesPlanesModel", "py", "[I", true)
  | 4 => ("YesPlanesModel", "pc", "[I", true)
  | 5 => ("YesPlanesModel", "pw", "[I", true)
  | 6 => ("YesPlanesModel", "points", "I", false)
  | 7 => ("YesPlanesModel", "sheet", "[J", true)
  | 8 => ("YesPlanesModel", "sheetSort", "[I", true)
  | 9 => ("YesPlanesModel", "sheetLen", "[I", true)
  | 10 => ("YesPlanesModel", "spare", "[J", true)
  | 11 => ("YesPlanesModel", "meets", "I", false)
  | 12 => ("YesPlanesModel", "meetMany", "I", false)
  | 13 => ("YesPlanesModel", "meetPoint", "[I", true)
  | 14 => ("YesPlanesModel", "shareUp", "[J", true)
  | 15 => ("YesPlanesModel", "shareLow", "[J", true)
  | 16 => ("YesPlanesModel", "placeX", "J", false)
  | 17 => ("YesPlanesModel", "placeY", "J", false)
  | 18 => ("YesPlanesModel", "placeLow", "J", false)
  | 19 => ("YesPlanesModel", "hasWay", "Z", false)
  | 20 => ("YesPlanesModel", "wayA", "J", false)
  | 21 => ("YesPlanesModel", "wayB", "J", false)
  | 22 => ("YesPlanesModel", "wayNo", "J", false)
  | 23 => ("YesPlanesModel", "wayYes", "J", false)
  | 24 => ("YesPlanesModel", "isSet", "[Z", true)
  | 25 => ("YesPlanesModel", "chosen", "[I", true)
  | 26 => ("YesPlanesModel", "chosenMany", "I", false)
  | 27 => ("YesPlanesModel", "along", "[I", true)
  | 28 => ("YesPlanesModel", "p", "J", false)
  | 29 => ("YesPlanesModel", "q", "J", false)
  | 30 => ("YesPlanesModel", "\x72", "J", false)
  | 31 => ("YesPlanesModel", "mistakes", "J", false)
  | 32 => ("YesPlanesModel", "rounds", "J", false)
  | 33 => ("YesPlanesModel", "ja", "[I", true)
  | 34 => ("YesPlanesModel", "jb", "[I", true)
  | 35 => ("YesPlanesModel", "jc", "[I", true)
  | 36 => ("YesPlanesModel", "judges", "I", false)
  | 37 => ("YesPlanesModel", "left", "I", false)
  | 38 => ("YesPlanesModel", "sAxis", "[I", true)
  | 39 => ("YesPlanesModel", "sAt", "[I", true)
  | 40 => ("YesPlanesModel", "sSign", "[I", true)
  | 41 => ("YesPlanesModel", "sWrong", "[J", true)
  | 42 => ("YesPlanesModel", "sAll", "[J", true)
  | 43 => ("YesPlanesModel", "steps", "I", false)
  | 44 => ("YesPlanesModel", "ended", "I", false)
  | 45 => ("YesPlanesModel", "mass", "[J", true)
  | 46 => ("YesPlanesModel", "masses", "I", false)
  | 47 => ("YesPlanesModel", "forYes", "[I", true)
  | 48 => ("YesPlanesModel", "forNo", "[I", true)
  | 49 => ("YesPlanesModel", "other", "[I", true)
  | 50 => ("YesPlanesModel", "corners", "[I", true)
  | 51 => ("YesPlanesModel", "cornerMany", "I", false)
  | 52 => ("YesPlanesModel", "yesAt", "[I", true)
  | 53 => ("YesPlanesModel", "fewest", "[I", true)
  | 54 => ("YesPlanesModel", "isBox", "[Z", true)
  | 55 => ("YesPlanesModel", "iIs", "[Z", true)
  | 56 => ("YesPlanesModel", "iPoints", "[I", true)
  | 57 => ("YesPlanesModel", "iNumbers", "[I", true)
  | 58 => ("YesPlanesModel", "iJudges", "[I", true)
  | 59 => ("YesPlanesModel", "iLines", "[I", true)
  | _ => ("YesPlanesModel", "iLearnt", "[J", true)
noncomputable def tyX12 : Nat → FieldType := fun k => match k with
  | 0 => .int
  | 1 => .int
  | 2 => .array .int
  | 3 => .array .int
  | 4 => .array .int
  | 5 => .array .int
  | 6 => .int
  | 7 => .array .long
  | 8 => .array .int
  | 9 => .array .int
  | 10 => .array .long
  | 11 => .int
  | 12 => .int
  | 13 => .array .int
  | 14 => .array .long
  | 15 => .array .long
  | 16 => .long
  | 17 => .long
  | 18 => .long
  | 19 => .boolean
  | 20 => .long
  | 21 => .long
  | 22 => .long
  | 23 => .long
  | 24 => .array .boolean
  | 25 => .array .int
  | 26 => .int
  | 27 => .array .int
  | 28 => .long
  | 29 => .long
  | 30 => .long
  | 31 => .long
  | 32 => .long
  | 33 => .array .int
  | 34 => .array .int
  | 35 => .array .int
  | 36 => .int
  | 37 => .int
  | 38 => .array .int
  | 39 => .array .int
  | 40 => .array .int
  | 41 => .array .long
  | 42 => .array .long
  | 43 => .int
  | 44 => .int
  | 45 => .array .long
  | 46 => .int
  | 47 => .array .int
  | 48 => .array .int
  | 49 => .array .int
  | 50 => .array .int
  | 51 => .int
  | 52 => .array .int
  | 53 => .array .int
  | 54 => .array .boolean
  | 55 => .array .boolean
  | 56 => .array .int
  | 57 => .array .int
  | 58 => .array .int
  | 59 => .array .int
  | _ => .array .long
noncomputable abbrev wsX120 : List Cond := u_ws RX12 TX12 61
theorem nmX12 : ∀ a, a < 61 → ∀ b, b < 61 → a ≠ b → (TX12 a).2.1 ≠ (TX12 b).2.1 := by decide +kernel
theorem tyX12_ok : ∀ k, k < 61 → parseFieldDescriptor (TX12 k).2.2.1 = some (tyX12 k) := by decide +kernel
noncomputable abbrev cX12_init : ByteArray := prog_14_method_1_code
noncomputable def yX12_init : MethodName := ⟨RX12, "<init>", "()V"⟩
noncomputable abbrev cX12_in : ByteArray := prog_14_method_3_code
noncomputable def yX12_in : MethodName := ⟨RX12, "in", "(JJJ)Z"⟩
noncomputable abbrev cX12_told : ByteArray := prog_14_method_4_code
noncomputable def yX12_told : MethodName := ⟨RX12, "told", "(I)I"⟩
noncomputable abbrev cX12_divisor : ByteArray := prog_14_method_5_code
noncomputable def yX12_divisor : MethodName := ⟨RX12, "divisor", "(JJ)J"⟩
noncomputable abbrev cX12_isPoint : ByteArray := prog_14_method_6_code
noncomputable def yX12_isPoint : MethodName := ⟨RX12, "isPoint", "(I)Z"⟩
noncomputable abbrev cX12_add : ByteArray := prog_14_method_7_code
noncomputable def yX12_add : MethodName := ⟨RX12, "add", "(III)V"⟩
noncomputable abbrev cX12_point : ByteArray := prog_14_method_8_code
noncomputable def yX12_point : MethodName := ⟨RX12, "point", "(III)I"⟩
noncomputable abbrev cX12_of : ByteArray := prog_14_method_9_code
noncomputable def yX12_of : MethodName := ⟨RX12, "of", "(II)I"⟩
noncomputable abbrev cX12_drop : ByteArray := prog_14_method_10_code
noncomputable def yX12_drop : MethodName := ⟨RX12, "drop", "(I)I"⟩
noncomputable abbrev cX12_paint : ByteArray := prog_14_method_11_code
noncomputable def yX12_paint : MethodName := ⟨RX12, "paint", "(III)I"⟩
noncomputable abbrev cX12_cut : ByteArray := prog_14_method_12_code
noncomputable def yX12_cut : MethodName := ⟨RX12, "cut", "(IJ)J"⟩
noncomputable abbrev cX12_isSheet : ByteArray := prog_14_method_13_code
noncomputable def yX12_isSheet : MethodName := ⟨RX12, "isSheet", "(I)Z"⟩
noncomputable abbrev cX12_sheet : ByteArray := prog_14_method_14_code
noncomputable def yX12_sheet : MethodName := ⟨RX12, "sheet", "(III)I"⟩
noncomputable abbrev cX12_write : ByteArray := prog_14_method_15_code
noncomputable def yX12_write : MethodName := ⟨RX12, "write", "(IIJ)I"⟩
noncomputable abbrev cX12_read : ByteArray := prog_14_method_16_code
noncomputable def yX12_read : MethodName := ⟨RX12, "read", "(II)J"⟩
noncomputable abbrev cX12_copy : ByteArray := prog_14_method_17_code
noncomputable def yX12_copy : MethodName := ⟨RX12, "copy", "(IIIII)I"⟩
noncomputable abbrev cX12_take : ByteArray := prog_14_method_18_code
noncomputable def yX12_take : MethodName := ⟨RX12, "take", "(IIII)I"⟩
noncomputable abbrev cX12_cross : ByteArray := prog_14_method_19_code
noncomputable def yX12_cross : MethodName := ⟨RX12, "cross", "(JJJJ)J"⟩
noncomputable abbrev cX12_area : ByteArray := prog_14_method_20_code
noncomputable def yX12_area : MethodName := ⟨RX12, "area", "(III)J"⟩
noncomputable abbrev cX12_isAt : ByteArray := prog_14_method_21_code
noncomputable def yX12_isAt : MethodName := ⟨RX12, "isAt", "(II)Z"⟩
noncomputable abbrev cX12_isBetween : ByteArray := prog_14_method_22_code
noncomputable def yX12_isBetween : MethodName := ⟨RX12, "isBetween", "(III)Z"⟩
noncomputable abbrev cX12_isWithin : ByteArray := prog_14_method_23_code
noncomputable def yX12_isWithin : MethodName := ⟨RX12, "isWithin", "(IIII)Z"⟩
noncomputable abbrev cX12_isCrossing : ByteArray := prog_14_method_24_code
noncomputable def yX12_isCrossing : MethodName := ⟨RX12, "isCrossing", "(IIII)Z"⟩
noncomputable abbrev cX12_member : ByteArray := prog_14_method_25_code
noncomputable def yX12_member : MethodName := ⟨RX12, "member", "(IIJJ)V"⟩
noncomputable abbrev cX12_place : ByteArray := prog_14_method_26_code
noncomputable def yX12_place : MethodName := ⟨RX12, "place", "(JJJ)V"⟩
noncomputable abbrev cX12_meetsAt : ByteArray := prog_14_method_27_code
noncomputable def yX12_meetsAt : MethodName := ⟨RX12, "meetsAt", "(IIII)V"⟩
noncomputable abbrev cX12_findSame : ByteArray := prog_14_method_28_code
noncomputable def yX12_findSame : MethodName := ⟨RX12, "findSame", "()Z"⟩
noncomputable abbrev cX12_findBetween : ByteArray := prog_14_method_29_code
noncomputable def yX12_findBetween : MethodName := ⟨RX12, "findBetween", "()Z"⟩
noncomputable abbrev cX12_meetsBy : ByteArray := prog_14_method_30_code
noncomputable def yX12_meetsBy : MethodName := ⟨RX12, "meetsBy", "(IIIIII)V"⟩
noncomputable abbrev cX12_findWithin : ByteArray := prog_14_method_31_code
noncomputable def yX12_findWithin : MethodName := ⟨RX12, "findWithin", "()Z"⟩
noncomputable abbrev cX12_findOthers : ByteArray := prog_14_method_32_code
noncomputable def yX12_findOthers : MethodName := ⟨RX12, "findOthers", "(II)Z"⟩
noncomputable abbrev cX12_findInner : ByteArray := prog_14_method_33_code
noncomputable def yX12_findInner : MethodName := ⟨RX12, "findInner", "(III)Z"⟩
noncomputable abbrev cX12_findCrossing : ByteArray := prog_14_method_34_code
noncomputable def yX12_findCrossing : MethodName := ⟨RX12, "findCrossing", "()Z"⟩
noncomputable abbrev cX12_findCrossed : ByteArray := prog_14_method_35_code
noncomputable def yX12_findCrossed : MethodName := ⟨RX12, "findCrossed", "(III)Z"⟩
noncomputable abbrev cX12_findMeeting : ByteArray := prog_14_method_36_code
noncomputable def yX12_findMeeting : MethodName := ⟨RX12, "findMeeting", "()V"⟩
noncomputable abbrev cX12_many : ByteArray := prog_14_method_37_code
noncomputable def yX12_many : MethodName := ⟨RX12, "many", "(I)I"⟩
noncomputable abbrev cX12_parted : ByteArray := prog_14_method_38_code
noncomputable def yX12_parted : MethodName := ⟨RX12, "parted", "()I"⟩
noncomputable abbrev cX12_part : ByteArray := prog_14_method_39_code
noncomputable def yX12_part : MethodName := ⟨RX12, "part", "(JJZ)J"⟩
noncomputable abbrev cX12_meet : ByteArray := prog_14_method_40_code
noncomputable def yX12_meet : MethodName := ⟨RX12, "meet", "(I)J"⟩
noncomputable abbrev cX12_tryWay : ByteArray := prog_14_method_41_code
noncomputable def yX12_tryWay : MethodName := ⟨RX12, "tryWay", "(JJ)V"⟩
noncomputable abbrev cX12_findWay : ByteArray := prog_14_method_42_code
noncomputable def yX12_findWay : MethodName := ⟨RX12, "findWay", "()V"⟩
noncomputable abbrev cX12_isSide : ByteArray := prog_14_method_43_code
noncomputable def yX12_isSide : MethodName := ⟨RX12, "isSide", "(I)Z"⟩
noncomputable abbrev cX12_wide : ByteArray := prog_14_method_44_code
noncomputable def yX12_wide : MethodName := ⟨RX12, "wide", "(I)J"⟩
noncomputable abbrev cX12_side : ByteArray := prog_14_method_45_code
noncomputable def yX12_side : MethodName := ⟨RX12, "side", "(I)I"⟩
noncomputable abbrev cX12_isLine : ByteArray := prog_14_method_46_code
noncomputable def yX12_isLine : MethodName := ⟨RX12, "isLine", "(III)Z"⟩
noncomputable abbrev cX12_says : ByteArray := prog_14_method_47_code
noncomputable def yX12_says : MethodName := ⟨RX12, "says", "(JJJJJ)I"⟩
noncomputable abbrev cX12_check : ByteArray := prog_14_method_48_code
noncomputable def yX12_check : MethodName := ⟨RX12, "check", "(III)I"⟩
noncomputable abbrev cX12_choose : ByteArray := prog_14_method_49_code
noncomputable def yX12_choose : MethodName := ⟨RX12, "choose", "(I)V"⟩
noncomputable abbrev cX12_findSets : ByteArray := prog_14_method_50_code
noncomputable def yX12_findSets : MethodName := ⟨RX12, "findSets", "(I)V"⟩
noncomputable abbrev cX12_turnAbout : ByteArray := prog_14_method_51_code
noncomputable def yX12_turnAbout : MethodName := ⟨RX12, "turnAbout", "(II)V"⟩
noncomputable abbrev cX12_further : ByteArray := prog_14_method_52_code
noncomputable def yX12_further : MethodName := ⟨RX12, "further", "(III)J"⟩
noncomputable abbrev cX12_isMany : ByteArray := prog_14_method_53_code
noncomputable def yX12_isMany : MethodName := ⟨RX12, "isMany", "(I)Z"⟩
noncomputable abbrev cX12_ways : ByteArray := prog_14_method_54_code
noncomputable def yX12_ways : MethodName := ⟨RX12, "ways", "(I)I"⟩
noncomputable abbrev cX12_isWay : ByteArray := prog_14_method_55_code
noncomputable def yX12_isWay : MethodName := ⟨RX12, "isWay", "(II)I"⟩
noncomputable abbrev cX12_best : ByteArray := prog_14_method_56_code
noncomputable def yX12_best : MethodName := ⟨RX12, "best", "(II)I"⟩
noncomputable abbrev cX12_shatter : ByteArray := prog_14_method_57_code
noncomputable def yX12_shatter : MethodName := ⟨RX12, "shatter", "(I)I"⟩
noncomputable abbrev cX12_learn : ByteArray := prog_14_method_58_code
noncomputable def yX12_learn : MethodName := ⟨RX12, "learn", "(I)I"⟩
noncomputable abbrev cX12_learnt : ByteArray := prog_14_method_59_code
noncomputable def yX12_learnt : MethodName := ⟨RX12, "learnt", "(I)J"⟩
noncomputable abbrev cX12_anew : ByteArray := prog_14_method_60_code
noncomputable def yX12_anew : MethodName := ⟨RX12, "anew", "()I"⟩
noncomputable abbrev cX12_judge : ByteArray := prog_14_method_61_code
noncomputable def yX12_judge : MethodName := ⟨RX12, "judge", "(III)I"⟩
noncomputable abbrev cX12_halve : ByteArray := prog_14_method_62_code
noncomputable def yX12_halve : MethodName := ⟨RX12, "halve", "()I"⟩
noncomputable abbrev cX12_left : ByteArray := prog_14_method_63_code
noncomputable def yX12_left : MethodName := ⟨RX12, "left", "()I"⟩
noncomputable abbrev cX12_dismiss : ByteArray := prog_14_method_64_code
noncomputable def yX12_dismiss : MethodName := ⟨RX12, "dismiss", "()I"⟩
noncomputable abbrev cX12_stepSays : ByteArray := prog_14_method_65_code
noncomputable def yX12_stepSays : MethodName := ⟨RX12, "stepSays", "(IIIII)I"⟩
noncomputable abbrev cX12_wrongOf : ByteArray := prog_14_method_66_code
noncomputable def yX12_wrongOf : MethodName := ⟨RX12, "wrongOf", "(III)J"⟩
noncomputable abbrev cX12_findStep : ByteArray := prog_14_method_67_code
noncomputable def yX12_findStep : MethodName := ⟨RX12, "findStep", "()V"⟩
noncomputable abbrev cX12_isWrongBy : ByteArray := prog_14_method_68_code
noncomputable def yX12_isWrongBy : MethodName := ⟨RX12, "isWrongBy", "(II)Z"⟩
noncomputable abbrev cX12_weigh : ByteArray := prog_14_method_69_code
noncomputable def yX12_weigh : MethodName := ⟨RX12, "weigh", "(I)Z"⟩
noncomputable abbrev cX12_strong : ByteArray := prog_14_method_70_code
noncomputable def yX12_strong : MethodName := ⟨RX12, "strong", "(I)I"⟩
noncomputable abbrev cX12_step : ByteArray := prog_14_method_71_code
noncomputable def yX12_step : MethodName := ⟨RX12, "step", "(II)J"⟩
noncomputable abbrev cX12_end : ByteArray := prog_14_method_72_code
noncomputable def yX12_end : MethodName := ⟨RX12, "end", "()I"⟩
noncomputable abbrev cX12_mass : ByteArray := prog_14_method_73_code
noncomputable def yX12_mass : MethodName := ⟨RX12, "mass", "(I)J"⟩
noncomputable abbrev cX12_times : ByteArray := prog_14_method_74_code
noncomputable def yX12_times : MethodName := ⟨RX12, "times", "([IJ)V"⟩
noncomputable abbrev cX12_vote : ByteArray := prog_14_method_75_code
noncomputable def yX12_vote : MethodName := ⟨RX12, "vote", "(II)I"⟩
noncomputable abbrev cX12_findHull : ByteArray := prog_14_method_76_code
noncomputable def yX12_findHull : MethodName := ⟨RX12, "findHull", "(I)V"⟩
noncomputable abbrev cX12_far : ByteArray := prog_14_method_77_code
noncomputable def yX12_far : MethodName := ⟨RX12, "far", "(II)J"⟩
noncomputable abbrev cX12_hull : ByteArray := prog_14_method_78_code
noncomputable def yX12_hull : MethodName := ⟨RX12, "hull", "(II)I"⟩
noncomputable abbrev cX12_depth : ByteArray := prog_14_method_79_code
noncomputable def yX12_depth : MethodName := ⟨RX12, "depth", "(II)I"⟩
noncomputable abbrev cX12_halves : ByteArray := prog_14_method_80_code
noncomputable def yX12_halves : MethodName := ⟨RX12, "halves", "()I"⟩
noncomputable abbrev cX12_isHalf : ByteArray := prog_14_method_81_code
noncomputable def yX12_isHalf : MethodName := ⟨RX12, "isHalf", "(IIII)Z"⟩
noncomputable abbrev cX12_isClear : ByteArray := prog_14_method_82_code
noncomputable def yX12_isClear : MethodName := ⟨RX12, "isClear", "(II)Z"⟩
noncomputable abbrev cX12_boxes : ByteArray := prog_14_method_83_code
noncomputable def yX12_boxes : MethodName := ⟨RX12, "boxes", "()I"⟩
noncomputable abbrev cX12_image : ByteArray := prog_14_method_84_code
noncomputable def yX12_image : MethodName := ⟨RX12, "image", "(I)I"⟩
noncomputable abbrev cX12_back : ByteArray := prog_14_method_85_code
noncomputable def yX12_back : MethodName := ⟨RX12, "back", "(I)I"⟩
noncomputable abbrev cX12_count : ByteArray := prog_14_method_86_code
noncomputable def yX12_count : MethodName := ⟨RX12, "count", "(I)I"⟩
noncomputable abbrev cX12_status : ByteArray := prog_14_method_87_code
noncomputable def yX12_status : MethodName := ⟨RX12, "status", "()I"⟩
noncomputable def RJ6 : String := "java/lang/Integer"
noncomputable def TJ6 : u_T := fun k => match k with
  | _ => ("", "", "", false)
noncomputable def tyJ6 : Nat → FieldType := fun k => match k with
  | _ => .int
theorem nmJ6 : ∀ a, a < 0 → ∀ b, b < 0 → a ≠ b → (TJ6 a).2.1 ≠ (TJ6 b).2.1 := by decide +kernel
theorem tyJ6_ok : ∀ k, k < 0 → parseFieldDescriptor (TJ6 k).2.2.1 = some (tyJ6 k) := by decide +kernel
noncomputable abbrev cJ6_bitCount_0f7a4 : ByteArray := prog_15_method_49_code
noncomputable def yJ6_bitCount_0f7a4 : MethodName := ⟨RJ6, "bitCount", "(I)I"⟩
noncomputable def RJ13 : String := "java/lang/Long"
noncomputable def TJ13 : u_T := fun k => match k with
  | _ => ("", "", "", false)
noncomputable def tyJ13 : Nat → FieldType := fun k => match k with
  | _ => .int
theorem nmJ13 : ∀ a, a < 0 → ∀ b, b < 0 → a ≠ b → (TJ13 a).2.1 ≠ (TJ13 b).2.1 := by decide +kernel
theorem tyJ13_ok : ∀ k, k < 0 → parseFieldDescriptor (TJ13 k).2.2.1 = some (tyJ13 k) := by decide +kernel
noncomputable abbrev cJ13_bitCount_95d88 : ByteArray := prog_16_method_50_code
noncomputable def yJ13_bitCount_95d88 : MethodName := ⟨RJ13, "bitCount", "(J)I"⟩
noncomputable def RJ9 : String := "java/lang/Math"
noncomputable def TJ9 : u_T := fun k => match k with
  | _ => ("", "", "", false)
noncomputable def tyJ9 : Nat → FieldType := fun k => match k with
  | _ => .int
theorem nmJ9 : ∀ a, a < 0 → ∀ b, b < 0 → a ≠ b → (TJ9 a).2.1 ≠ (TJ9 b).2.1 := by decide +kernel
theorem tyJ9_ok : ∀ k, k < 0 → parseFieldDescriptor (TJ9 k).2.2.1 = some (tyJ9 k) := by decide +kernel
noncomputable abbrev cJ9_abs_0f7a4 : ByteArray := prog_17_method_59_code
noncomputable def yJ9_abs_0f7a4 : MethodName := ⟨RJ9, "abs", "(I)I"⟩
noncomputable abbrev cJ9_abs_067f4 : ByteArray := prog_17_method_61_code
noncomputable def yJ9_abs_067f4 : MethodName := ⟨RJ9, "abs", "(J)J"⟩
noncomputable abbrev cJ9_max_7cf53 : ByteArray := prog_17_method_65_code
noncomputable def yJ9_max_7cf53 : MethodName := ⟨RJ9, "max", "(II)I"⟩
noncomputable abbrev cJ9_max_f86c9 : ByteArray := prog_17_method_66_code
noncomputable def yJ9_max_f86c9 : MethodName := ⟨RJ9, "max", "(JJ)J"⟩
noncomputable abbrev cJ9_min_7cf53 : ByteArray := prog_17_method_69_code
noncomputable def yJ9_min_7cf53 : MethodName := ⟨RJ9, "min", "(II)I"⟩
noncomputable def RJ10 : String := "java/lang/System"
noncomputable def TJ10 : u_T := fun k => match k with
  | _ => ("", "", "", false)
noncomputable def tyJ10 : Nat → FieldType := fun k => match k with
  | _ => .int
theorem nmJ10 : ∀ a, a < 0 → ∀ b, b < 0 → a ≠ b → (TJ10 a).2.1 ≠ (TJ10 b).2.1 := by decide +kernel
theorem tyJ10_ok : ∀ k, k < 0 → parseFieldDescriptor (TJ10 k).2.2.1 = some (tyJ10 k) := by decide +kernel
noncomputable def RJ7 : String := "java/util/Arrays"
noncomputable def TJ7 : u_T := fun k => match k with
  | _ => ("", "", "", false)
noncomputable def tyJ7 : Nat → FieldType := fun k => match k with
  | _ => .int
theorem nmJ7 : ∀ a, a < 0 → ∀ b, b < 0 → a ≠ b → (TJ7 a).2.1 ≠ (TJ7 b).2.1 := by decide +kernel
theorem tyJ7_ok : ∀ k, k < 0 → parseFieldDescriptor (TJ7 k).2.2.1 = some (tyJ7 k) := by decide +kernel
noncomputable abbrev cJ7_fill_d0a16 : ByteArray := prog_19_method_101_code
noncomputable def yJ7_fill_d0a16 : MethodName := ⟨RJ7, "fill", "([JJ)V"⟩
noncomputable abbrev cJ7_fill_031fb : ByteArray := prog_19_method_109_code
noncomputable def yJ7_fill_031fb : MethodName := ⟨RJ7, "fill", "([BB)V"⟩
noncomputable def RL : String := "YesPlanesLaw"
noncomputable abbrev cL_law : ByteArray := code
noncomputable def yL_law : MethodName := ⟨RL, "law", "([I)Z"⟩
noncomputable abbrev vwCl : List vw_C := [(RX0, TX0, 5), (RX1, TX1, 2), (RX2, TX2, 5), (RX3, TX3, 5), (RX4, TX4, 11), (RX5, TX5, 4), (RX6, TX6, 6), (RX7, TX7, 2), (RX8, TX8, 4), (RX9, TX9, 17), (RX10, TX10, 11), (RX11, TX11, 15), (RX12, TX12, 61)]
