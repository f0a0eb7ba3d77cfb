-- ===== PART A: goes FIRST, ahead of the names: the tables' words, and 'selects' of the private methods out of them =====
/-- a private method of a class that the tables say can be made, by its rows of tables_1 -/
def lw_okq (q : MethodName × Nat) : Prop := (q.1.cls ≠ "java/lang/invoke/MethodHandle" ∧ q.1.cls ≠ "java/lang/invoke/VarHandle") ∧ Cond.instantiable q.1.cls q.2 ∈ tables_1 ∧ Cond.privateMethod q.1 ∈ tables_1 ∧ Cond.instanceMethod q.1 ∈ tables_1
theorem lw_p0 : lw_okq (⟨"StairPortraits$Reader", "skipBlanks", "()V"⟩, 6) := ⟨⟨by decide +kernel, by decide +kernel⟩, List.mem_of_getElem? (i := 21) (by decide +kernel), List.mem_of_getElem? (i := 314) (by decide +kernel), List.mem_of_getElem? (i := 315) (by decide +kernel)⟩
theorem lw_p1 : lw_okq (⟨"StairPortraits$Reader", "letterHere", "()I"⟩, 6) := ⟨⟨by decide +kernel, by decide +kernel⟩, List.mem_of_getElem? (i := 21) (by decide +kernel), List.mem_of_getElem? (i := 318) (by decide +kernel), List.mem_of_getElem? (i := 319) (by decide +kernel)⟩
theorem lw_p2 : lw_okq (⟨"StairPortraits$Reader", "readClause", "(LStairPortraits$Plan;)V"⟩, 6) := ⟨⟨by decide +kernel, by decide +kernel⟩, List.mem_of_getElem? (i := 21) (by decide +kernel), List.mem_of_getElem? (i := 322) (by decide +kernel), List.mem_of_getElem? (i := 323) (by decide +kernel)⟩
theorem lw_p3 : lw_okq (⟨"StairPortraits$Reader", "failAt", "(II)V"⟩, 6) := ⟨⟨by decide +kernel, by decide +kernel⟩, List.mem_of_getElem? (i := 21) (by decide +kernel), List.mem_of_getElem? (i := 329) (by decide +kernel), List.mem_of_getElem? (i := 330) (by decide +kernel)⟩
theorem lw_p4 : lw_okq (⟨"StairPortraits$Reader", "readWall", "(LStairPortraits$Plan;)V"⟩, 6) := ⟨⟨by decide +kernel, by decide +kernel⟩, List.mem_of_getElem? (i := 21) (by decide +kernel), List.mem_of_getElem? (i := 336) (by decide +kernel), List.mem_of_getElem? (i := 337) (by decide +kernel)⟩
theorem lw_p5 : lw_okq (⟨"StairPortraits$Reader", "readNumber", "(II)I"⟩, 6) := ⟨⟨by decide +kernel, by decide +kernel⟩, List.mem_of_getElem? (i := 21) (by decide +kernel), List.mem_of_getElem? (i := 340) (by decide +kernel), List.mem_of_getElem? (i := 341) (by decide +kernel)⟩
theorem lw_p6 : lw_okq (⟨"StairPortraits$Reader", "readEnd", "()V"⟩, 6) := ⟨⟨by decide +kernel, by decide +kernel⟩, List.mem_of_getElem? (i := 21) (by decide +kernel), List.mem_of_getElem? (i := 347) (by decide +kernel), List.mem_of_getElem? (i := 348) (by decide +kernel)⟩
theorem lw_p7 : lw_okq (⟨"StairPortraits$Reader", "readPicture", "(LStairPortraits$Plan;)V"⟩, 6) := ⟨⟨by decide +kernel, by decide +kernel⟩, List.mem_of_getElem? (i := 21) (by decide +kernel), List.mem_of_getElem? (i := 351) (by decide +kernel), List.mem_of_getElem? (i := 352) (by decide +kernel)⟩
theorem lw_p8 : lw_okq (⟨"StairPortraits$Reader", "refuseTakenCell", "(LStairPortraits$Plan;II)V"⟩, 6) := ⟨⟨by decide +kernel, by decide +kernel⟩, List.mem_of_getElem? (i := 21) (by decide +kernel), List.mem_of_getElem? (i := 355) (by decide +kernel), List.mem_of_getElem? (i := 356) (by decide +kernel)⟩
theorem lw_p9 : lw_okq (⟨"StairPortraits$Reader", "readDoor", "(LStairPortraits$Plan;)V"⟩, 6) := ⟨⟨by decide +kernel, by decide +kernel⟩, List.mem_of_getElem? (i := 21) (by decide +kernel), List.mem_of_getElem? (i := 371) (by decide +kernel), List.mem_of_getElem? (i := 372) (by decide +kernel)⟩
theorem lw_p10 : lw_okq (⟨"StairPortraits$Reader", "readComing", "(LStairPortraits$Plan;)V"⟩, 6) := ⟨⟨by decide +kernel, by decide +kernel⟩, List.mem_of_getElem? (i := 21) (by decide +kernel), List.mem_of_getElem? (i := 379) (by decide +kernel), List.mem_of_getElem? (i := 380) (by decide +kernel)⟩
theorem lw_p11 : lw_okq (⟨"StairPortraits$Reader", "readFirst", "(LStairPortraits$Plan;)V"⟩, 6) := ⟨⟨by decide +kernel, by decide +kernel⟩, List.mem_of_getElem? (i := 21) (by decide +kernel), List.mem_of_getElem? (i := 387) (by decide +kernel), List.mem_of_getElem? (i := 388) (by decide +kernel)⟩
theorem lw_p12 : lw_okq (⟨"StairPortraits", "refusalOfHours", "(I)I"⟩, 12) := ⟨⟨by decide +kernel, by decide +kernel⟩, List.mem_of_getElem? (i := 13) (by decide +kernel), List.mem_of_getElem? (i := 494) (by decide +kernel), List.mem_of_getElem? (i := 495) (by decide +kernel)⟩
theorem lw_p13 : lw_okq (⟨"StairPortraits", "arePictures", "(I)Z"⟩, 12) := ⟨⟨by decide +kernel, by decide +kernel⟩, List.mem_of_getElem? (i := 13) (by decide +kernel), List.mem_of_getElem? (i := 572) (by decide +kernel), List.mem_of_getElem? (i := 573) (by decide +kernel)⟩
theorem lw_p14 : lw_okq (⟨"StairPortraits$Turning", "isFulfilled", "(LStairPortraits$Plan;LStairPortraits$Scene;)Z"⟩, 6) := ⟨⟨by decide +kernel, by decide +kernel⟩, List.mem_of_getElem? (i := 194) (by decide +kernel), List.mem_of_getElem? (i := 585) (by decide +kernel), List.mem_of_getElem? (i := 586) (by decide +kernel)⟩
theorem lw_p15 : lw_okq (⟨"StairPortraits$Turning", "canTurnOne", "(LStairPortraits$Plan;LStairPortraits$Scene;II)Z"⟩, 6) := ⟨⟨by decide +kernel, by decide +kernel⟩, List.mem_of_getElem? (i := 194) (by decide +kernel), List.mem_of_getElem? (i := 591) (by decide +kernel), List.mem_of_getElem? (i := 592) (by decide +kernel)⟩
def lw_privs_1 : List (MethodName × Nat) := [(⟨"StairPortraits$Reader", "skipBlanks", "()V"⟩, 6), (⟨"StairPortraits$Reader", "letterHere", "()I"⟩, 6), (⟨"StairPortraits$Reader", "readClause", "(LStairPortraits$Plan;)V"⟩, 6), (⟨"StairPortraits$Reader", "failAt", "(II)V"⟩, 6), (⟨"StairPortraits$Reader", "readWall", "(LStairPortraits$Plan;)V"⟩, 6), (⟨"StairPortraits$Reader", "readNumber", "(II)I"⟩, 6), (⟨"StairPortraits$Reader", "readEnd", "()V"⟩, 6), (⟨"StairPortraits$Reader", "readPicture", "(LStairPortraits$Plan;)V"⟩, 6), (⟨"StairPortraits$Reader", "refuseTakenCell", "(LStairPortraits$Plan;II)V"⟩, 6), (⟨"StairPortraits$Reader", "readDoor", "(LStairPortraits$Plan;)V"⟩, 6), (⟨"StairPortraits$Reader", "readComing", "(LStairPortraits$Plan;)V"⟩, 6), (⟨"StairPortraits$Reader", "readFirst", "(LStairPortraits$Plan;)V"⟩, 6), (⟨"StairPortraits", "refusalOfHours", "(I)I"⟩, 12), (⟨"StairPortraits", "arePictures", "(I)Z"⟩, 12), (⟨"StairPortraits$Turning", "isFulfilled", "(LStairPortraits$Plan;LStairPortraits$Scene;)Z"⟩, 6), (⟨"StairPortraits$Turning", "canTurnOne", "(LStairPortraits$Plan;LStairPortraits$Scene;II)Z"⟩, 6)]
theorem lw_r1 : ∀ q ∈ lw_privs_1, lw_okq q := List.forall_mem_cons.mpr ⟨lw_p0, List.forall_mem_cons.mpr ⟨lw_p1, List.forall_mem_cons.mpr ⟨lw_p2, List.forall_mem_cons.mpr ⟨lw_p3, List.forall_mem_cons.mpr ⟨lw_p4, List.forall_mem_cons.mpr ⟨lw_p5, List.forall_mem_cons.mpr ⟨lw_p6, List.forall_mem_cons.mpr ⟨lw_p7, List.forall_mem_cons.mpr ⟨lw_p8, List.forall_mem_cons.mpr ⟨lw_p9, List.forall_mem_cons.mpr ⟨lw_p10, List.forall_mem_cons.mpr ⟨lw_p11, List.forall_mem_cons.mpr ⟨lw_p12, List.forall_mem_cons.mpr ⟨lw_p13, List.forall_mem_cons.mpr ⟨lw_p14, List.forall_mem_cons.mpr ⟨lw_p15, fun _ h => absurd h List.not_mem_nil⟩⟩⟩⟩⟩⟩⟩⟩⟩⟩⟩⟩⟩⟩⟩⟩
theorem lw_p16 : lw_okq (⟨"StairPortraits$Turning", "canTurnTwo", "(LStairPortraits$Plan;LStairPortraits$Scene;)Z"⟩, 6) := ⟨⟨by decide +kernel, by decide +kernel⟩, List.mem_of_getElem? (i := 194) (by decide +kernel), List.mem_of_getElem? (i := 595) (by decide +kernel), List.mem_of_getElem? (i := 596) (by decide +kernel)⟩
theorem lw_p17 : lw_okq (⟨"StairPortraits", "staysAwayBy", "(IIII)Z"⟩, 12) := ⟨⟨by decide +kernel, by decide +kernel⟩, List.mem_of_getElem? (i := 13) (by decide +kernel), List.mem_of_getElem? (i := 603) (by decide +kernel), List.mem_of_getElem? (i := 604) (by decide +kernel)⟩
theorem lw_p18 : lw_okq (⟨"StairPortraits$Past", "followChain", "(LStairPortraits$Scene;I)V"⟩, 8) := ⟨⟨by decide +kernel, by decide +kernel⟩, List.mem_of_getElem? (i := 220) (by decide +kernel), List.mem_of_getElem? (i := 652) (by decide +kernel), List.mem_of_getElem? (i := 653) (by decide +kernel)⟩
theorem lw_p19 : lw_okq (⟨"StairPortraits$Past", "knowersOf", "(II)I"⟩, 8) := ⟨⟨by decide +kernel, by decide +kernel⟩, List.mem_of_getElem? (i := 220) (by decide +kernel), List.mem_of_getElem? (i := 664) (by decide +kernel), List.mem_of_getElem? (i := 665) (by decide +kernel)⟩
theorem lw_p20 : lw_okq (⟨"StairPortraits$Past", "countKnowingWays", "(LStairPortraits$Notes;)I"⟩, 8) := ⟨⟨by decide +kernel, by decide +kernel⟩, List.mem_of_getElem? (i := 220) (by decide +kernel), List.mem_of_getElem? (i := 684) (by decide +kernel), List.mem_of_getElem? (i := 685) (by decide +kernel)⟩
theorem lw_p21 : lw_okq (⟨"StairPortraits", "image", "(I)LStairPortraits$Scene;"⟩, 12) := ⟨⟨by decide +kernel, by decide +kernel⟩, List.mem_of_getElem? (i := 13) (by decide +kernel), List.mem_of_getElem? (i := 721) (by decide +kernel), List.mem_of_getElem? (i := 722) (by decide +kernel)⟩
theorem lw_p22 : lw_okq (⟨"StairPortraitsModel", "here", "()I"⟩, 48) := ⟨⟨by decide +kernel, by decide +kernel⟩, List.mem_of_getElem? (i := 729) (by decide +kernel), List.mem_of_getElem? (i := 895) (by decide +kernel), List.mem_of_getElem? (i := 896) (by decide +kernel)⟩
theorem lw_p23 : lw_okq (⟨"StairPortraitsModel", "takeClause", "()I"⟩, 48) := ⟨⟨by decide +kernel, by decide +kernel⟩, List.mem_of_getElem? (i := 729) (by decide +kernel), List.mem_of_getElem? (i := 899) (by decide +kernel), List.mem_of_getElem? (i := 900) (by decide +kernel)⟩
theorem lw_p24 : lw_okq (⟨"StairPortraitsModel", "fails", "(II)I"⟩, 48) := ⟨⟨by decide +kernel, by decide +kernel⟩, List.mem_of_getElem? (i := 729) (by decide +kernel), List.mem_of_getElem? (i := 903) (by decide +kernel), List.mem_of_getElem? (i := 904) (by decide +kernel)⟩
theorem lw_p25 : lw_okq (⟨"StairPortraitsModel", "takeWall", "()I"⟩, 48) := ⟨⟨by decide +kernel, by decide +kernel⟩, List.mem_of_getElem? (i := 729) (by decide +kernel), List.mem_of_getElem? (i := 907) (by decide +kernel), List.mem_of_getElem? (i := 908) (by decide +kernel)⟩
theorem lw_p26 : lw_okq (⟨"StairPortraitsModel", "into", "([IIII)I"⟩, 48) := ⟨⟨by decide +kernel, by decide +kernel⟩, List.mem_of_getElem? (i := 729) (by decide +kernel), List.mem_of_getElem? (i := 911) (by decide +kernel), List.mem_of_getElem? (i := 912) (by decide +kernel)⟩
theorem lw_p27 : lw_okq (⟨"StairPortraitsModel", "takeNumber", "(II)I"⟩, 48) := ⟨⟨by decide +kernel, by decide +kernel⟩, List.mem_of_getElem? (i := 729) (by decide +kernel), List.mem_of_getElem? (i := 915) (by decide +kernel), List.mem_of_getElem? (i := 916) (by decide +kernel)⟩
theorem lw_p28 : lw_okq (⟨"StairPortraitsModel", "takePicture", "()I"⟩, 48) := ⟨⟨by decide +kernel, by decide +kernel⟩, List.mem_of_getElem? (i := 729) (by decide +kernel), List.mem_of_getElem? (i := 921) (by decide +kernel), List.mem_of_getElem? (i := 922) (by decide +kernel)⟩
theorem lw_p29 : lw_okq (⟨"StairPortraitsModel", "takeCell", "([I[II)I"⟩, 48) := ⟨⟨by decide +kernel, by decide +kernel⟩, List.mem_of_getElem? (i := 729) (by decide +kernel), List.mem_of_getElem? (i := 925) (by decide +kernel), List.mem_of_getElem? (i := 926) (by decide +kernel)⟩
theorem lw_p30 : lw_okq (⟨"StairPortraitsModel", "isTaken", "(II)Z"⟩, 48) := ⟨⟨by decide +kernel, by decide +kernel⟩, List.mem_of_getElem? (i := 729) (by decide +kernel), List.mem_of_getElem? (i := 929) (by decide +kernel), List.mem_of_getElem? (i := 930) (by decide +kernel)⟩
theorem lw_p31 : lw_okq (⟨"StairPortraitsModel", "takeDoor", "()I"⟩, 48) := ⟨⟨by decide +kernel, by decide +kernel⟩, List.mem_of_getElem? (i := 729) (by decide +kernel), List.mem_of_getElem? (i := 933) (by decide +kernel), List.mem_of_getElem? (i := 934) (by decide +kernel)⟩
def lw_privs_2 : List (MethodName × Nat) := [(⟨"StairPortraits$Turning", "canTurnTwo", "(LStairPortraits$Plan;LStairPortraits$Scene;)Z"⟩, 6), (⟨"StairPortraits", "staysAwayBy", "(IIII)Z"⟩, 12), (⟨"StairPortraits$Past", "followChain", "(LStairPortraits$Scene;I)V"⟩, 8), (⟨"StairPortraits$Past", "knowersOf", "(II)I"⟩, 8), (⟨"StairPortraits$Past", "countKnowingWays", "(LStairPortraits$Notes;)I"⟩, 8), (⟨"StairPortraits", "image", "(I)LStairPortraits$Scene;"⟩, 12), (⟨"StairPortraitsModel", "here", "()I"⟩, 48), (⟨"StairPortraitsModel", "takeClause", "()I"⟩, 48), (⟨"StairPortraitsModel", "fails", "(II)I"⟩, 48), (⟨"StairPortraitsModel", "takeWall", "()I"⟩, 48), (⟨"StairPortraitsModel", "into", "([IIII)I"⟩, 48), (⟨"StairPortraitsModel", "takeNumber", "(II)I"⟩, 48), (⟨"StairPortraitsModel", "takePicture", "()I"⟩, 48), (⟨"StairPortraitsModel", "takeCell", "([I[II)I"⟩, 48), (⟨"StairPortraitsModel", "isTaken", "(II)Z"⟩, 48), (⟨"StairPortraitsModel", "takeDoor", "()I"⟩, 48)]
theorem lw_r2 : ∀ q ∈ lw_privs_2, lw_okq q := List.forall_mem_cons.mpr ⟨lw_p16, List.forall_mem_cons.mpr ⟨lw_p17, List.forall_mem_cons.mpr ⟨lw_p18, List.forall_mem_cons.mpr ⟨lw_p19, List.forall_mem_cons.mpr ⟨lw_p20, List.forall_mem_cons.mpr ⟨lw_p21, List.forall_mem_cons.mpr ⟨lw_p22, List.forall_mem_cons.mpr ⟨lw_p23, List.forall_mem_cons.mpr ⟨lw_p24, List.forall_mem_cons.mpr ⟨lw_p25, List.forall_mem_cons.mpr ⟨lw_p26, List.forall_mem_cons.mpr ⟨lw_p27, List.forall_mem_cons.mpr ⟨lw_p28, List.forall_mem_cons.mpr ⟨lw_p29, List.forall_mem_cons.mpr ⟨lw_p30, List.forall_mem_cons.mpr ⟨lw_p31, fun _ h => absurd h List.not_mem_nil⟩⟩⟩⟩⟩⟩⟩⟩⟩⟩⟩⟩⟩⟩⟩⟩
theorem lw_p32 : lw_okq (⟨"StairPortraitsModel", "takeComing", "()I"⟩, 48) := ⟨⟨by decide +kernel, by decide +kernel⟩, List.mem_of_getElem? (i := 729) (by decide +kernel), List.mem_of_getElem? (i := 937) (by decide +kernel), List.mem_of_getElem? (i := 938) (by decide +kernel)⟩
theorem lw_p33 : lw_okq (⟨"StairPortraitsModel", "takeSecret", "()I"⟩, 48) := ⟨⟨by decide +kernel, by decide +kernel⟩, List.mem_of_getElem? (i := 729) (by decide +kernel), List.mem_of_getElem? (i := 941) (by decide +kernel), List.mem_of_getElem? (i := 942) (by decide +kernel)⟩
theorem lw_p34 : lw_okq (⟨"StairPortraitsModel", "takeRead", "()V"⟩, 48) := ⟨⟨by decide +kernel, by decide +kernel⟩, List.mem_of_getElem? (i := 729) (by decide +kernel), List.mem_of_getElem? (i := 948) (by decide +kernel), List.mem_of_getElem? (i := 949) (by decide +kernel)⟩
theorem lw_p35 : lw_okq (⟨"StairPortraitsModel", "known", "()I"⟩, 48) := ⟨⟨by decide +kernel, by decide +kernel⟩, List.mem_of_getElem? (i := 729) (by decide +kernel), List.mem_of_getElem? (i := 960) (by decide +kernel), List.mem_of_getElem? (i := 961) (by decide +kernel)⟩
theorem lw_p36 : lw_okq (⟨"StairPortraitsModel", "isPicture", "(I)Z"⟩, 48) := ⟨⟨by decide +kernel, by decide +kernel⟩, List.mem_of_getElem? (i := 729) (by decide +kernel), List.mem_of_getElem? (i := 968) (by decide +kernel), List.mem_of_getElem? (i := 969) (by decide +kernel)⟩
theorem lw_p37 : lw_okq (⟨"StairPortraitsModel", "looksAt", "(I)I"⟩, 48) := ⟨⟨by decide +kernel, by decide +kernel⟩, List.mem_of_getElem? (i := 729) (by decide +kernel), List.mem_of_getElem? (i := 973) (by decide +kernel), List.mem_of_getElem? (i := 974) (by decide +kernel)⟩
theorem lw_p38 : lw_okq (⟨"StairPortraitsModel", "isCell", "(II)Z"⟩, 48) := ⟨⟨by decide +kernel, by decide +kernel⟩, List.mem_of_getElem? (i := 729) (by decide +kernel), List.mem_of_getElem? (i := 977) (by decide +kernel), List.mem_of_getElem? (i := 978) (by decide +kernel)⟩
theorem lw_p39 : lw_okq (⟨"StairPortraitsModel", "onCell", "(II)I"⟩, 48) := ⟨⟨by decide +kernel, by decide +kernel⟩, List.mem_of_getElem? (i := 729) (by decide +kernel), List.mem_of_getElem? (i := 981) (by decide +kernel), List.mem_of_getElem? (i := 982) (by decide +kernel)⟩
theorem lw_p40 : lw_okq (⟨"StairPortraitsModel", "hoursRefused", "(I)I"⟩, 48) := ⟨⟨by decide +kernel, by decide +kernel⟩, List.mem_of_getElem? (i := 729) (by decide +kernel), List.mem_of_getElem? (i := 1012) (by decide +kernel), List.mem_of_getElem? (i := 1013) (by decide +kernel)⟩
theorem lw_p41 : lw_okq (⟨"StairPortraitsModel", "pass", "()V"⟩, 48) := ⟨⟨by decide +kernel, by decide +kernel⟩, List.mem_of_getElem? (i := 729) (by decide +kernel), List.mem_of_getElem? (i := 1018) (by decide +kernel), List.mem_of_getElem? (i := 1019) (by decide +kernel)⟩
theorem lw_p42 : lw_okq (⟨"StairPortraitsModel", "passBy", "(II)V"⟩, 48) := ⟨⟨by decide +kernel, by decide +kernel⟩, List.mem_of_getElem? (i := 729) (by decide +kernel), List.mem_of_getElem? (i := 1022) (by decide +kernel), List.mem_of_getElem? (i := 1023) (by decide +kernel)⟩
theorem lw_p43 : lw_okq (⟨"StairPortraitsModel", "comes", "(II)I"⟩, 48) := ⟨⟨by decide +kernel, by decide +kernel⟩, List.mem_of_getElem? (i := 729) (by decide +kernel), List.mem_of_getElem? (i := 1026) (by decide +kernel), List.mem_of_getElem? (i := 1027) (by decide +kernel)⟩
theorem lw_p44 : lw_okq (⟨"StairPortraitsModel", "takesOver", "(II)I"⟩, 48) := ⟨⟨by decide +kernel, by decide +kernel⟩, List.mem_of_getElem? (i := 729) (by decide +kernel), List.mem_of_getElem? (i := 1030) (by decide +kernel), List.mem_of_getElem? (i := 1031) (by decide +kernel)⟩
theorem lw_p45 : lw_okq (⟨"StairPortraitsModel", "draw", "(I)I"⟩, 48) := ⟨⟨by decide +kernel, by decide +kernel⟩, List.mem_of_getElem? (i := 729) (by decide +kernel), List.mem_of_getElem? (i := 1038) (by decide +kernel), List.mem_of_getElem? (i := 1039) (by decide +kernel)⟩
theorem lw_p46 : lw_okq (⟨"StairPortraitsModel", "hoursTill", "(II)I"⟩, 48) := ⟨⟨by decide +kernel, by decide +kernel⟩, List.mem_of_getElem? (i := 729) (by decide +kernel), List.mem_of_getElem? (i := 1054) (by decide +kernel), List.mem_of_getElem? (i := 1055) (by decide +kernel)⟩
theorem lw_p47 : lw_okq (⟨"StairPortraitsModel", "save", "()V"⟩, 48) := ⟨⟨by decide +kernel, by decide +kernel⟩, List.mem_of_getElem? (i := 729) (by decide +kernel), List.mem_of_getElem? (i := 1058) (by decide +kernel), List.mem_of_getElem? (i := 1059) (by decide +kernel)⟩
def lw_privs_3 : List (MethodName × Nat) := [(⟨"StairPortraitsModel", "takeComing", "()I"⟩, 48), (⟨"StairPortraitsModel", "takeSecret", "()I"⟩, 48), (⟨"StairPortraitsModel", "takeRead", "()V"⟩, 48), (⟨"StairPortraitsModel", "known", "()I"⟩, 48), (⟨"StairPortraitsModel", "isPicture", "(I)Z"⟩, 48), (⟨"StairPortraitsModel", "looksAt", "(I)I"⟩, 48), (⟨"StairPortraitsModel", "isCell", "(II)Z"⟩, 48), (⟨"StairPortraitsModel", "onCell", "(II)I"⟩, 48), (⟨"StairPortraitsModel", "hoursRefused", "(I)I"⟩, 48), (⟨"StairPortraitsModel", "pass", "()V"⟩, 48), (⟨"StairPortraitsModel", "passBy", "(II)V"⟩, 48), (⟨"StairPortraitsModel", "comes", "(II)I"⟩, 48), (⟨"StairPortraitsModel", "takesOver", "(II)I"⟩, 48), (⟨"StairPortraitsModel", "draw", "(I)I"⟩, 48), (⟨"StairPortraitsModel", "hoursTill", "(II)I"⟩, 48), (⟨"StairPortraitsModel", "save", "()V"⟩, 48)]
theorem lw_r3 : ∀ q ∈ lw_privs_3, lw_okq q := List.forall_mem_cons.mpr ⟨lw_p32, List.forall_mem_cons.mpr ⟨lw_p33, List.forall_mem_cons.mpr ⟨lw_p34, List.forall_mem_cons.mpr ⟨lw_p35, List.forall_mem_cons.mpr ⟨lw_p36, List.forall_mem_cons.mpr ⟨lw_p37, List.forall_mem_cons.mpr ⟨lw_p38, List.forall_mem_cons.mpr ⟨lw_p39, List.forall_mem_cons.mpr ⟨lw_p40, List.forall_mem_cons.mpr ⟨lw_p41, List.forall_mem_cons.mpr ⟨lw_p42, List.forall_mem_cons.mpr ⟨lw_p43, List.forall_mem_cons.mpr ⟨lw_p44, List.forall_mem_cons.mpr ⟨lw_p45, List.forall_mem_cons.mpr ⟨lw_p46, List.forall_mem_cons.mpr ⟨lw_p47, fun _ h => absurd h List.not_mem_nil⟩⟩⟩⟩⟩⟩⟩⟩⟩⟩⟩⟩⟩⟩⟩⟩
theorem lw_p48 : lw_okq (⟨"StairPortraitsModel", "knowAll", "(II)Z"⟩, 48) := ⟨⟨by decide +kernel, by decide +kernel⟩, List.mem_of_getElem? (i := 729) (by decide +kernel), List.mem_of_getElem? (i := 1062) (by decide +kernel), List.mem_of_getElem? (i := 1063) (by decide +kernel)⟩
theorem lw_p49 : lw_okq (⟨"StairPortraitsModel", "putBack", "()V"⟩, 48) := ⟨⟨by decide +kernel, by decide +kernel⟩, List.mem_of_getElem? (i := 729) (by decide +kernel), List.mem_of_getElem? (i := 1066) (by decide +kernel), List.mem_of_getElem? (i := 1067) (by decide +kernel)⟩
theorem lw_p50 : lw_okq (⟨"StairPortraitsModel", "isSet", "(I)Z"⟩, 48) := ⟨⟨by decide +kernel, by decide +kernel⟩, List.mem_of_getElem? (i := 729) (by decide +kernel), List.mem_of_getElem? (i := 1074) (by decide +kernel), List.mem_of_getElem? (i := 1075) (by decide +kernel)⟩
theorem lw_p51 : lw_okq (⟨"StairPortraitsModel", "findTurns", "(IIII)I"⟩, 48) := ⟨⟨by decide +kernel, by decide +kernel⟩, List.mem_of_getElem? (i := 729) (by decide +kernel), List.mem_of_getElem? (i := 1087) (by decide +kernel), List.mem_of_getElem? (i := 1088) (by decide +kernel)⟩
theorem lw_p52 : lw_okq (⟨"StairPortraitsModel", "isSo", "(IIII)Z"⟩, 48) := ⟨⟨by decide +kernel, by decide +kernel⟩, List.mem_of_getElem? (i := 729) (by decide +kernel), List.mem_of_getElem? (i := 1091) (by decide +kernel), List.mem_of_getElem? (i := 1092) (by decide +kernel)⟩
theorem lw_p53 : lw_okq (⟨"StairPortraitsModel", "canTurn", "(I)Z"⟩, 48) := ⟨⟨by decide +kernel, by decide +kernel⟩, List.mem_of_getElem? (i := 729) (by decide +kernel), List.mem_of_getElem? (i := 1095) (by decide +kernel), List.mem_of_getElem? (i := 1096) (by decide +kernel)⟩
theorem lw_p54 : lw_okq (⟨"StairPortraitsModel", "findWays", "(I)V"⟩, 48) := ⟨⟨by decide +kernel, by decide +kernel⟩, List.mem_of_getElem? (i := 729) (by decide +kernel), List.mem_of_getElem? (i := 1128) (by decide +kernel), List.mem_of_getElem? (i := 1129) (by decide +kernel)⟩
theorem lw_p55 : lw_okq (⟨"StairPortraitsModel", "knowers", "(III)I"⟩, 48) := ⟨⟨by decide +kernel, by decide +kernel⟩, List.mem_of_getElem? (i := 729) (by decide +kernel), List.mem_of_getElem? (i := 1132) (by decide +kernel), List.mem_of_getElem? (i := 1133) (by decide +kernel)⟩
def lw_privs_4 : List (MethodName × Nat) := [(⟨"StairPortraitsModel", "knowAll", "(II)Z"⟩, 48), (⟨"StairPortraitsModel", "putBack", "()V"⟩, 48), (⟨"StairPortraitsModel", "isSet", "(I)Z"⟩, 48), (⟨"StairPortraitsModel", "findTurns", "(IIII)I"⟩, 48), (⟨"StairPortraitsModel", "isSo", "(IIII)Z"⟩, 48), (⟨"StairPortraitsModel", "canTurn", "(I)Z"⟩, 48), (⟨"StairPortraitsModel", "findWays", "(I)V"⟩, 48), (⟨"StairPortraitsModel", "knowers", "(III)I"⟩, 48)]
theorem lw_r4 : ∀ q ∈ lw_privs_4, lw_okq q := List.forall_mem_cons.mpr ⟨lw_p48, List.forall_mem_cons.mpr ⟨lw_p49, List.forall_mem_cons.mpr ⟨lw_p50, List.forall_mem_cons.mpr ⟨lw_p51, List.forall_mem_cons.mpr ⟨lw_p52, List.forall_mem_cons.mpr ⟨lw_p53, List.forall_mem_cons.mpr ⟨lw_p54, List.forall_mem_cons.mpr ⟨lw_p55, fun _ h => absurd h List.not_mem_nil⟩⟩⟩⟩⟩⟩⟩⟩
def lw_privs : List (MethodName × Nat) := lw_privs_1 ++ (lw_privs_2 ++ (lw_privs_3 ++ (lw_privs_4)))
def lw_tbl : List Cond := k2_sels lw_privs ++ tables_1
theorem lw_privs_ok : ∀ q ∈ lw_privs, lw_okq q := by
  show ∀ q ∈ lw_privs_1 ++ (lw_privs_2 ++ (lw_privs_3 ++ (lw_privs_4))), lw_okq q
  exact List.forall_mem_append.mpr ⟨lw_r1, List.forall_mem_append.mpr ⟨lw_r2, List.forall_mem_append.mpr ⟨lw_r3, lw_r4⟩⟩⟩
def RX0 : String := "StairPortraits$Notes"
def TX0 : u_T := fun k => match k with
  | 0 => ("StairPortraits$Notes", "asked", "I", false)
  | 1 => ("StairPortraits$Notes", "entries", "I", false)
  | 2 => ("StairPortraits$Notes", "askedPicture", "[I", true)
  | 3 => ("StairPortraits$Notes", "askedThing", "[I", true)
  | 4 => ("StairPortraits$Notes", "askedAnswer", "[I", true)
  | 5 => ("StairPortraits$Notes", "entryPicture", "[I", true)
  | _ => ("StairPortraits$Notes", "entrySet", "[I", true)
def tyX0 : Nat → FieldType := fun k => match k with
  | 0 => .int
  | 1 => .int
  | 2 => .array .int
  | 3 => .array .int
  | 4 => .array .int
  | 5 => .array .int
  | _ => .array .int
abbrev wsX00 : List Cond := u_ws RX0 TX0 7
theorem nmX0 : ∀ a, a < 7 → ∀ b, b < 7 → a ≠ b → (TX0 a).2.1 ≠ (TX0 b).2.1 := by decide +kernel
theorem tyX0_ok : ∀ k, k < 7 → parseFieldDescriptor (TX0 k).2.2.1 = some (tyX0 k) := by decide +kernel
def RX1 : String := "StairPortraits$Past"
def TX1 : u_T := fun k => match k with
  | 0 => ("StairPortraits$Past", "doorOf", "[I", true)
  | 1 => ("StairPortraits$Past", "linksOf", "[I", true)
  | 2 => ("StairPortraits$Past", "knowingWays", "[I", true)
  | 3 => ("StairPortraits$Past", "pictures", "I", false)
  | 4 => ("StairPortraits$Past", "doors", "I", false)
  | 5 => ("StairPortraits$Past", "hours", "I", false)
  | 6 => ("StairPortraits$Past", "hoursToTry", "I", false)
  | _ => ("StairPortraits$Past", "thing", "I", false)
def tyX1 : Nat → FieldType := fun k => match k with
  | 0 => .array .int
  | 1 => .array .int
  | 2 => .array .int
  | 3 => .int
  | 4 => .int
  | 5 => .int
  | 6 => .int
  | _ => .int
abbrev wsX10 : List Cond := u_ws RX1 TX1 8
theorem nmX1 : ∀ a, a < 8 → ∀ b, b < 8 → a ≠ b → (TX1 a).2.1 ≠ (TX1 b).2.1 := by decide +kernel
theorem tyX1_ok : ∀ k, k < 8 → parseFieldDescriptor (TX1 k).2.2.1 = some (tyX1 k) := by decide +kernel
def RX2 : String := "StairPortraits$Plan"
def TX2 : u_T := fun k => match k with
  | 0 => ("StairPortraits$Plan", "width", "I", false)
  | 1 => ("StairPortraits$Plan", "height", "I", false)
  | 2 => ("StairPortraits$Plan", "doors", "I", false)
  | 3 => ("StairPortraits$Plan", "comings", "I", false)
  | 4 => ("StairPortraits$Plan", "firsts", "I", false)
  | 5 => ("StairPortraits$Plan", "doorX", "[I", true)
  | 6 => ("StairPortraits$Plan", "doorY", "[I", true)
  | 7 => ("StairPortraits$Plan", "comingHour", "[I", true)
  | 8 => ("StairPortraits$Plan", "comingDoor", "[I", true)
  | 9 => ("StairPortraits$Plan", "comingThing", "[I", true)
  | _ => ("StairPortraits$Plan", "start", "LStairPortraits$Scene;", true)
def tyX2 : Nat → FieldType := fun k => match k with
  | 0 => .int
  | 1 => .int
  | 2 => .int
  | 3 => .int
  | 4 => .int
  | 5 => .array .int
  | 6 => .array .int
  | 7 => .array .int
  | 8 => .array .int
  | 9 => .array .int
  | _ => .object "StairPortraits$Scene"
abbrev wsX20 : List Cond := u_ws RX2 TX2 11
theorem nmX2 : ∀ a, a < 11 → ∀ b, b < 11 → a ≠ b → (TX2 a).2.1 ≠ (TX2 b).2.1 := by decide +kernel
theorem tyX2_ok : ∀ k, k < 11 → parseFieldDescriptor (TX2 k).2.2.1 = some (tyX2 k) := by decide +kernel
def RX3 : String := "StairPortraits$Reader"
def TX3 : u_T := fun k => match k with
  | 0 => ("StairPortraits$Reader", "letters", "[I", true)
  | 1 => ("StairPortraits$Reader", "count", "I", false)
  | 2 => ("StairPortraits$Reader", "at", "I", false)
  | 3 => ("StairPortraits$Reader", "numberAt", "I", false)
  | 4 => ("StairPortraits$Reader", "faultNumber", "I", false)
  | _ => ("StairPortraits$Reader", "faultAt", "I", false)
def tyX3 : Nat → FieldType := fun k => match k with
  | 0 => .array .int
  | 1 => .int
  | 2 => .int
  | 3 => .int
  | 4 => .int
  | _ => .int
abbrev wsX30 : List Cond := u_ws RX3 TX3 6
theorem nmX3 : ∀ a, a < 6 → ∀ b, b < 6 → a ≠ b → (TX3 a).2.1 ≠ (TX3 b).2.1 := by decide +kernel
theorem tyX3_ok : ∀ k, k < 6 → parseFieldDescriptor (TX3 k).2.2.1 = some (tyX3 k) := by decide +kernel
def RX4 : String := "StairPortraits$Scene"
def TX4 : u_T := fun k => match k with
  | 0 => ("StairPortraits$Scene", "count", "I", false)
  | 1 => ("StairPortraits$Scene", "turnedToWall", "I", false)
  | 2 => ("StairPortraits$Scene", "hours", "I", false)
  | 3 => ("StairPortraits$Scene", "drawn", "I", false)
  | 4 => ("StairPortraits$Scene", "kind", "[I", true)
  | 5 => ("StairPortraits$Scene", "x", "[I", true)
  | 6 => ("StairPortraits$Scene", "y", "[I", true)
  | 7 => ("StairPortraits$Scene", "way", "[I", true)
  | 8 => ("StairPortraits$Scene", "knows", "[I", true)
  | 9 => ("StairPortraits$Scene", "looks", "[I", true)
  | _ => ("StairPortraits$Scene", "knewBefore", "[I", true)
def tyX4 : Nat → FieldType := fun k => match k with
  | 0 => .int
  | 1 => .int
  | 2 => .int
  | 3 => .int
  | 4 => .array .int
  | 5 => .array .int
  | 6 => .array .int
  | 7 => .array .int
  | 8 => .array .int
  | 9 => .array .int
  | _ => .array .int
abbrev wsX40 : List Cond := u_ws RX4 TX4 11
theorem nmX4 : ∀ a, a < 11 → ∀ b, b < 11 → a ≠ b → (TX4 a).2.1 ≠ (TX4 b).2.1 := by decide +kernel
theorem tyX4_ok : ∀ k, k < 11 → parseFieldDescriptor (TX4 k).2.2.1 = some (tyX4 k) := by decide +kernel
def RX5 : String := "StairPortraits$Turning"
def TX5 : u_T := fun k => match k with
  | 0 => ("StairPortraits$Turning", "found", "[I", true)
  | 1 => ("StairPortraits$Turning", "lookBy", "[I", true)
  | 2 => ("StairPortraits$Turning", "knower", "I", false)
  | 3 => ("StairPortraits$Turning", "thing", "I", false)
  | 4 => ("StairPortraits$Turning", "ignorant", "I", false)
  | _ => ("StairPortraits$Turning", "hours", "I", false)
def tyX5 : Nat → FieldType := fun k => match k with
  | 0 => .array .int
  | 1 => .array .int
  | 2 => .int
  | 3 => .int
  | 4 => .int
  | _ => .int
abbrev wsX50 : List Cond := u_ws RX5 TX5 6
theorem nmX5 : ∀ a, a < 6 → ∀ b, b < 6 → a ≠ b → (TX5 a).2.1 ≠ (TX5 b).2.1 := by decide +kernel
theorem tyX5_ok : ∀ k, k < 6 → parseFieldDescriptor (TX5 k).2.2.1 = some (tyX5 k) := by decide +kernel
def RX6 : String := "StairPortraits"
def TX6 : u_T := fun k => match k with
  | 0 => ("StairPortraits", "reader", "LStairPortraits$Reader;", true)
  | 1 => ("StairPortraits", "plan", "LStairPortraits$Plan;", false)
  | 2 => ("StairPortraits", "draft", "LStairPortraits$Plan;", false)
  | 3 => ("StairPortraits", "now", "LStairPortraits$Scene;", true)
  | 4 => ("StairPortraits", "trial", "LStairPortraits$Scene;", true)
  | 5 => ("StairPortraits", "firstImage", "LStairPortraits$Scene;", true)
  | 6 => ("StairPortraits", "secondImage", "LStairPortraits$Scene;", true)
  | 7 => ("StairPortraits", "keptImages", "I", false)
  | 8 => ("StairPortraits", "faultLetter", "I", false)
  | 9 => ("StairPortraits", "notes", "LStairPortraits$Notes;", true)
  | 10 => ("StairPortraits", "turning", "LStairPortraits$Turning;", true)
  | _ => ("StairPortraits", "past", "LStairPortraits$Past;", true)
def tyX6 : Nat → FieldType := fun k => match k with
  | 0 => .object "StairPortraits$Reader"
  | 1 => .object "StairPortraits$Plan"
  | 2 => .object "StairPortraits$Plan"
  | 3 => .object "StairPortraits$Scene"
  | 4 => .object "StairPortraits$Scene"
  | 5 => .object "StairPortraits$Scene"
  | 6 => .object "StairPortraits$Scene"
  | 7 => .int
  | 8 => .int
  | 9 => .object "StairPortraits$Notes"
  | 10 => .object "StairPortraits$Turning"
  | _ => .object "StairPortraits$Past"
abbrev wsX60 : List Cond := u_ws RX6 TX6 12
theorem nmX6 : ∀ a, a < 12 → ∀ b, b < 12 → a ≠ b → (TX6 a).2.1 ≠ (TX6 b).2.1 := by decide +kernel
theorem tyX6_ok : ∀ k, k < 12 → parseFieldDescriptor (TX6 k).2.2.1 = some (tyX6 k) := by decide +kernel
def RX7 : String := "StairPortraitsModel"
def TX7 : u_T := fun k => match k with
  | 0 => ("StairPortraitsModel", "wide", "I", false)
  | 1 => ("StairPortraitsModel", "high", "I", false)
  | 2 => ("StairPortraitsModel", "pictures", "I", false)
  | 3 => ("StairPortraitsModel", "kind", "[I", true)
  | 4 => ("StairPortraitsModel", "doors", "I", false)
  | 5 => ("StairPortraitsModel", "doorX", "[I", true)
  | 6 => ("StairPortraitsModel", "doorY", "[I", true)
  | 7 => ("StairPortraitsModel", "comings", "I", false)
  | 8 => ("StairPortraitsModel", "comeHour", "[I", true)
  | 9 => ("StairPortraitsModel", "comeDoor", "[I", true)
  | 10 => ("StairPortraitsModel", "comeThing", "[I", true)
  | 11 => ("StairPortraitsModel", "now", "[I", true)
  | 12 => ("StairPortraitsModel", "seed", "I", false)
  | 13 => ("StairPortraitsModel", "text", "[I", true)
  | 14 => ("StairPortraitsModel", "texted", "I", false)
  | 15 => ("StairPortraitsModel", "faultPlace", "I", false)
  | 16 => ("StairPortraitsModel", "at0", "I", false)
  | 17 => ("StairPortraitsModel", "number", "I", false)
  | 18 => ("StairPortraitsModel", "numberAt", "I", false)
  | 19 => ("StairPortraitsModel", "readWall", "[I", true)
  | 20 => ("StairPortraitsModel", "readPictures", "I", false)
  | 21 => ("StairPortraitsModel", "readKind", "[I", true)
  | 22 => ("StairPortraitsModel", "readX", "[I", true)
  | 23 => ("StairPortraitsModel", "readY", "[I", true)
  | 24 => ("StairPortraitsModel", "readWay", "[I", true)
  | 25 => ("StairPortraitsModel", "readKnows", "[I", true)
  | 26 => ("StairPortraitsModel", "readDoors", "I", false)
  | 27 => ("StairPortraitsModel", "readDoorX", "[I", true)
  | 28 => ("StairPortraitsModel", "readDoorY", "[I", true)
  | 29 => ("StairPortraitsModel", "readComings", "I", false)
  | 30 => ("StairPortraitsModel", "readHour", "[I", true)
  | 31 => ("StairPortraitsModel", "readDoor", "[I", true)
  | 32 => ("StairPortraitsModel", "readThing", "[I", true)
  | 33 => ("StairPortraitsModel", "readSecrets", "I", false)
  | 34 => ("StairPortraitsModel", "ahead", "[I", true)
  | 35 => ("StairPortraitsModel", "was", "[I", true)
  | 36 => ("StairPortraitsModel", "turnOne", "I", false)
  | 37 => ("StairPortraitsModel", "turnTwo", "I", false)
  | 38 => ("StairPortraitsModel", "asked", "I", false)
  | 39 => ("StairPortraitsModel", "askWho", "[I", true)
  | 40 => ("StairPortraitsModel", "askWhat", "[I", true)
  | 41 => ("StairPortraitsModel", "askKnows", "[Z", true)
  | 42 => ("StairPortraitsModel", "ways", "[I", true)
  | 43 => ("StairPortraitsModel", "booked", "I", false)
  | 44 => ("StairPortraitsModel", "bookWho", "[I", true)
  | 45 => ("StairPortraitsModel", "bookSet", "[I", true)
  | 46 => ("StairPortraitsModel", "images", "[I", true)
  | _ => ("StairPortraitsModel", "isKept", "[Z", true)
def tyX7 : Nat → FieldType := fun k => match k with
  | 0 => .int
  | 1 => .int
  | 2 => .int
  | 3 => .array .int
  | 4 => .int
  | 5 => .array .int
  | 6 => .array .int
  | 7 => .int
  | 8 => .array .int
  | 9 => .array .int
  | 10 => .array .int
  | 11 => .array .int
  | 12 => .int
  | 13 => .array .int
  | 14 => .int
  | 15 => .int
  | 16 => .int
  | 17 => .int
  | 18 => .int
  | 19 => .array .int
  | 20 => .int
  | 21 => .array .int
  | 22 => .array .int
  | 23 => .array .int
  | 24 => .array .int
  | 25 => .array .int
  | 26 => .int
  | 27 => .array .int
  | 28 => .array .int
  | 29 => .int
  | 30 => .array .int
  | 31 => .array .int
  | 32 => .array .int
  | 33 => .int
  | 34 => .array .int
  | 35 => .array .int
  | 36 => .int
  | 37 => .int
  | 38 => .int
  | 39 => .array .int
  | 40 => .array .int
  | 41 => .array .boolean
  | 42 => .array .int
  | 43 => .int
  | 44 => .array .int
  | 45 => .array .int
  | 46 => .array .int
  | _ => .array .boolean
abbrev wsX70 : List Cond := u_ws RX7 TX7 48
theorem nmX7 : ∀ a, a < 48 → ∀ b, b < 48 → a ≠ b → (TX7 a).2.1 ≠ (TX7 b).2.1 := by decide +kernel
theorem tyX7_ok : ∀ k, k < 48 → parseFieldDescriptor (TX7 k).2.2.1 = some (tyX7 k) := by decide +kernel
def RL : String := "StairPortraitsLaw"
def RJ9 : String := "java/lang/Math"
def RJ7 : String := "java/util/Arrays"
def RJ10 : String := "java/lang/System"
abbrev vwCl : List vw_C := [(RX0, TX0, 7), (RX1, TX1, 8), (RX2, TX2, 11), (RX3, TX3, 6), (RX4, TX4, 11), (RX5, TX5, 6), (RX6, TX6, 12), (RX7, TX7, 48)]
