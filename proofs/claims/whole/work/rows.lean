section
-- ===== PART A: goes FIRST, ahead of the names: the tables' words, and 'selects' of the private methods out of them =====
/-- a private method of a class that the tables say can be made, by its rows of tables_1 -/
def lw_okq (q : MethodName × Nat) : Prop := (q.1.cls ≠ "java/lang/invoke/MethodHandle" ∧ q.1.cls ≠ "java/lang/invoke/VarHandle") ∧ Cond.instantiable q.1.cls q.2 ∈ tables_1 ∧ Cond.privateMethod q.1 ∈ tables_1 ∧ Cond.instanceMethod q.1 ∈ tables_1
theorem lw_p0 : lw_okq (⟨"DustySayings$Room", "quipGathers", "(I)I"⟩, 15) := ⟨⟨by decide +kernel, by decide +kernel⟩, List.mem_of_getElem? (i := 56) (by decide +kernel), List.mem_of_getElem? (i := 288) (by decide +kernel), List.mem_of_getElem? (i := 289) (by decide +kernel)⟩
theorem lw_p1 : lw_okq (⟨"DustySayings$Room", "plainBloom", "(I)I"⟩, 15) := ⟨⟨by decide +kernel, by decide +kernel⟩, List.mem_of_getElem? (i := 56) (by decide +kernel), List.mem_of_getElem? (i := 292) (by decide +kernel), List.mem_of_getElem? (i := 293) (by decide +kernel)⟩
theorem lw_p2 : lw_okq (⟨"DustySayings$Laws", "leaf", "(I)I"⟩, 6) := ⟨⟨by decide +kernel, by decide +kernel⟩, List.mem_of_getElem? (i := 26) (by decide +kernel), List.mem_of_getElem? (i := 315) (by decide +kernel), List.mem_of_getElem? (i := 316) (by decide +kernel)⟩
theorem lw_p3 : lw_okq (⟨"DustySayings$Room", "othersBeside", "(II)I"⟩, 15) := ⟨⟨by decide +kernel, by decide +kernel⟩, List.mem_of_getElem? (i := 56) (by decide +kernel), List.mem_of_getElem? (i := 334) (by decide +kernel), List.mem_of_getElem? (i := 335) (by decide +kernel)⟩
theorem lw_p4 : lw_okq (⟨"DustySayings", "isEnoughShine", "(II)Z"⟩, 11) := ⟨⟨by decide +kernel, by decide +kernel⟩, List.mem_of_getElem? (i := 18) (by decide +kernel), List.mem_of_getElem? (i := 495) (by decide +kernel), List.mem_of_getElem? (i := 496) (by decide +kernel)⟩
theorem lw_p5 : lw_okq (⟨"DustySayings", "gatherDifferences", "(LDustySayings$Sheet;)V"⟩, 11) := ⟨⟨by decide +kernel, by decide +kernel⟩, List.mem_of_getElem? (i := 18) (by decide +kernel), List.mem_of_getElem? (i := 532) (by decide +kernel), List.mem_of_getElem? (i := 533) (by decide +kernel)⟩
theorem lw_p6 : lw_okq (⟨"DustySayings$Tape", "pass", "()V"⟩, 9) := ⟨⟨by decide +kernel, by decide +kernel⟩, List.mem_of_getElem? (i := 123) (by decide +kernel), List.mem_of_getElem? (i := 585) (by decide +kernel), List.mem_of_getElem? (i := 586) (by decide +kernel)⟩
theorem lw_p7 : lw_okq (⟨"DustySayings$Tape", "sortAt", "(I)I"⟩, 9) := ⟨⟨by decide +kernel, by decide +kernel⟩, List.mem_of_getElem? (i := 123) (by decide +kernel), List.mem_of_getElem? (i := 589) (by decide +kernel), List.mem_of_getElem? (i := 590) (by decide +kernel)⟩
theorem lw_p8 : lw_okq (⟨"DustySayings$Tape", "readKey", "()Z"⟩, 9) := ⟨⟨by decide +kernel, by decide +kernel⟩, List.mem_of_getElem? (i := 123) (by decide +kernel), List.mem_of_getElem? (i := 595) (by decide +kernel), List.mem_of_getElem? (i := 596) (by decide +kernel)⟩
theorem lw_p9 : lw_okq (⟨"DustySayings$Tape", "isWord", "(Ljava/lang/String;)Z"⟩, 9) := ⟨⟨by decide +kernel, by decide +kernel⟩, List.mem_of_getElem? (i := 123) (by decide +kernel), List.mem_of_getElem? (i := 605) (by decide +kernel), List.mem_of_getElem? (i := 606) (by decide +kernel)⟩
theorem lw_p10 : lw_okq (⟨"DustySayings$Tape", "readJoined", "(III)Z"⟩, 9) := ⟨⟨by decide +kernel, by decide +kernel⟩, List.mem_of_getElem? (i := 123) (by decide +kernel), List.mem_of_getElem? (i := 657) (by decide +kernel), List.mem_of_getElem? (i := 658) (by decide +kernel)⟩
theorem lw_p11 : lw_okq (⟨"DustySayings$Tape", "readPiece", "(II)Z"⟩, 9) := ⟨⟨by decide +kernel, by decide +kernel⟩, List.mem_of_getElem? (i := 123) (by decide +kernel), List.mem_of_getElem? (i := 661) (by decide +kernel), List.mem_of_getElem? (i := 662) (by decide +kernel)⟩
theorem lw_p12 : lw_okq (⟨"DustySayings$Tape", "readNumber", "()Z"⟩, 9) := ⟨⟨by decide +kernel, by decide +kernel⟩, List.mem_of_getElem? (i := 123) (by decide +kernel), List.mem_of_getElem? (i := 665) (by decide +kernel), List.mem_of_getElem? (i := 666) (by decide +kernel)⟩
theorem lw_p13 : lw_okq (⟨"DustySayings$Tape", "writeLeaf", "(I)V"⟩, 9) := ⟨⟨by decide +kernel, by decide +kernel⟩, List.mem_of_getElem? (i := 123) (by decide +kernel), List.mem_of_getElem? (i := 669) (by decide +kernel), List.mem_of_getElem? (i := 670) (by decide +kernel)⟩
theorem lw_p14 : lw_okq (⟨"DustySayings$Tape", "write", "(I)V"⟩, 9) := ⟨⟨by decide +kernel, by decide +kernel⟩, List.mem_of_getElem? (i := 123) (by decide +kernel), List.mem_of_getElem? (i := 673) (by decide +kernel), List.mem_of_getElem? (i := 674) (by decide +kernel)⟩
theorem lw_p15 : lw_okq (⟨"DustySayings$Tape", "readName", "()Z"⟩, 9) := ⟨⟨by decide +kernel, by decide +kernel⟩, List.mem_of_getElem? (i := 123) (by decide +kernel), List.mem_of_getElem? (i := 677) (by decide +kernel), List.mem_of_getElem? (i := 678) (by decide +kernel)⟩
def lw_privs_1 : List (MethodName × Nat) := [(⟨"DustySayings$Room", "quipGathers", "(I)I"⟩, 15), (⟨"DustySayings$Room", "plainBloom", "(I)I"⟩, 15), (⟨"DustySayings$Laws", "leaf", "(I)I"⟩, 6), (⟨"DustySayings$Room", "othersBeside", "(II)I"⟩, 15), (⟨"DustySayings", "isEnoughShine", "(II)Z"⟩, 11), (⟨"DustySayings", "gatherDifferences", "(LDustySayings$Sheet;)V"⟩, 11), (⟨"DustySayings$Tape", "pass", "()V"⟩, 9), (⟨"DustySayings$Tape", "sortAt", "(I)I"⟩, 9), (⟨"DustySayings$Tape", "readKey", "()Z"⟩, 9), (⟨"DustySayings$Tape", "isWord", "(Ljava/lang/String;)Z"⟩, 9), (⟨"DustySayings$Tape", "readJoined", "(III)Z"⟩, 9), (⟨"DustySayings$Tape", "readPiece", "(II)Z"⟩, 9), (⟨"DustySayings$Tape", "readNumber", "()Z"⟩, 9), (⟨"DustySayings$Tape", "writeLeaf", "(I)V"⟩, 9), (⟨"DustySayings$Tape", "write", "(I)V"⟩, 9), (⟨"DustySayings$Tape", "readName", "()Z"⟩, 9)]
theorem lw_r1 : ∀ q ∈ lw_privs_1, lw_okq q := List.forall_mem_cons.mpr ⟨lw_p0, List.forall_mem_cons.mpr ⟨lw_p1, List.forall_mem_cons.mpr ⟨lw_p2, List.forall_mem_cons.mpr ⟨lw_p3, List.forall_mem_cons.mpr ⟨lw_p4, List.forall_mem_cons.mpr ⟨lw_p5, List.forall_mem_cons.mpr ⟨lw_p6, List.forall_mem_cons.mpr ⟨lw_p7, List.forall_mem_cons.mpr ⟨lw_p8, List.forall_mem_cons.mpr ⟨lw_p9, List.forall_mem_cons.mpr ⟨lw_p10, List.forall_mem_cons.mpr ⟨lw_p11, List.forall_mem_cons.mpr ⟨lw_p12, List.forall_mem_cons.mpr ⟨lw_p13, List.forall_mem_cons.mpr ⟨lw_p14, List.forall_mem_cons.mpr ⟨lw_p15, fun _ h => absurd h List.not_mem_nil⟩⟩⟩⟩⟩⟩⟩⟩⟩⟩⟩⟩⟩⟩⟩⟩
theorem lw_p16 : lw_okq (⟨"DustySayings$Tape", "isSignOf", "(Ljava/lang/String;)Z"⟩, 9) := ⟨⟨by decide +kernel, by decide +kernel⟩, List.mem_of_getElem? (i := 123) (by decide +kernel), List.mem_of_getElem? (i := 743) (by decide +kernel), List.mem_of_getElem? (i := 744) (by decide +kernel)⟩
theorem lw_p17 : lw_okq (⟨"DustySayings$Tape", "readClosing", "()Z"⟩, 9) := ⟨⟨by decide +kernel, by decide +kernel⟩, List.mem_of_getElem? (i := 123) (by decide +kernel), List.mem_of_getElem? (i := 748) (by decide +kernel), List.mem_of_getElem? (i := 749) (by decide +kernel)⟩
theorem lw_p18 : lw_okq (⟨"DustySayingsModel", "comes", "(IIII)I"⟩, 33) := ⟨⟨by decide +kernel, by decide +kernel⟩, List.mem_of_getElem? (i := 864) (by decide +kernel), List.mem_of_getElem? (i := 984) (by decide +kernel), List.mem_of_getElem? (i := 985) (by decide +kernel)⟩
theorem lw_p19 : lw_okq (⟨"DustySayingsModel", "put", "(III)V"⟩, 33) := ⟨⟨by decide +kernel, by decide +kernel⟩, List.mem_of_getElem? (i := 864) (by decide +kernel), List.mem_of_getElem? (i := 988) (by decide +kernel), List.mem_of_getElem? (i := 989) (by decide +kernel)⟩
theorem lw_p20 : lw_okq (⟨"DustySayingsModel", "isSaying", "(I)Z"⟩, 33) := ⟨⟨by decide +kernel, by decide +kernel⟩, List.mem_of_getElem? (i := 864) (by decide +kernel), List.mem_of_getElem? (i := 996) (by decide +kernel), List.mem_of_getElem? (i := 997) (by decide +kernel)⟩
theorem lw_p21 : lw_okq (⟨"DustySayingsModel", "of", "(II)I"⟩, 33) := ⟨⟨by decide +kernel, by decide +kernel⟩, List.mem_of_getElem? (i := 864) (by decide +kernel), List.mem_of_getElem? (i := 1000) (by decide +kernel), List.mem_of_getElem? (i := 1001) (by decide +kernel)⟩
theorem lw_p22 : lw_okq (⟨"DustySayingsModel", "gathers", "(I)I"⟩, 33) := ⟨⟨by decide +kernel, by decide +kernel⟩, List.mem_of_getElem? (i := 864) (by decide +kernel), List.mem_of_getElem? (i := 1004) (by decide +kernel), List.mem_of_getElem? (i := 1005) (by decide +kernel)⟩
theorem lw_p23 : lw_okq (⟨"DustySayingsModel", "plainBloom", "(I)I"⟩, 33) := ⟨⟨by decide +kernel, by decide +kernel⟩, List.mem_of_getElem? (i := 864) (by decide +kernel), List.mem_of_getElem? (i := 1008) (by decide +kernel), List.mem_of_getElem? (i := 1009) (by decide +kernel)⟩
theorem lw_p24 : lw_okq (⟨"DustySayingsModel", "counts", "(I)I"⟩, 33) := ⟨⟨by decide +kernel, by decide +kernel⟩, List.mem_of_getElem? (i := 864) (by decide +kernel), List.mem_of_getElem? (i := 1012) (by decide +kernel), List.mem_of_getElem? (i := 1013) (by decide +kernel)⟩
theorem lw_p25 : lw_okq (⟨"DustySayingsModel", "saidIn", "(I)I"⟩, 33) := ⟨⟨by decide +kernel, by decide +kernel⟩, List.mem_of_getElem? (i := 864) (by decide +kernel), List.mem_of_getElem? (i := 1016) (by decide +kernel), List.mem_of_getElem? (i := 1017) (by decide +kernel)⟩
theorem lw_p26 : lw_okq (⟨"DustySayingsModel", "worksOut", "(I)I"⟩, 33) := ⟨⟨by decide +kernel, by decide +kernel⟩, List.mem_of_getElem? (i := 864) (by decide +kernel), List.mem_of_getElem? (i := 1023) (by decide +kernel), List.mem_of_getElem? (i := 1024) (by decide +kernel)⟩
theorem lw_p27 : lw_okq (⟨"DustySayingsModel", "fellows", "(III)I"⟩, 33) := ⟨⟨by decide +kernel, by decide +kernel⟩, List.mem_of_getElem? (i := 864) (by decide +kernel), List.mem_of_getElem? (i := 1033) (by decide +kernel), List.mem_of_getElem? (i := 1034) (by decide +kernel)⟩
theorem lw_p28 : lw_okq (⟨"DustySayingsModel", "draws", "(I)I"⟩, 33) := ⟨⟨by decide +kernel, by decide +kernel⟩, List.mem_of_getElem? (i := 864) (by decide +kernel), List.mem_of_getElem? (i := 1037) (by decide +kernel), List.mem_of_getElem? (i := 1038) (by decide +kernel)⟩
theorem lw_p29 : lw_okq (⟨"DustySayingsModel", "worthOf", "(I)I"⟩, 33) := ⟨⟨by decide +kernel, by decide +kernel⟩, List.mem_of_getElem? (i := 864) (by decide +kernel), List.mem_of_getElem? (i := 1041) (by decide +kernel), List.mem_of_getElem? (i := 1042) (by decide +kernel)⟩
theorem lw_p30 : lw_okq (⟨"DustySayingsModel", "swaps", "(II)I"⟩, 33) := ⟨⟨by decide +kernel, by decide +kernel⟩, List.mem_of_getElem? (i := 864) (by decide +kernel), List.mem_of_getElem? (i := 1057) (by decide +kernel), List.mem_of_getElem? (i := 1058) (by decide +kernel)⟩
theorem lw_p31 : lw_okq (⟨"DustySayingsModel", "goesOver", "(I)I"⟩, 33) := ⟨⟨by decide +kernel, by decide +kernel⟩, List.mem_of_getElem? (i := 864) (by decide +kernel), List.mem_of_getElem? (i := 1073) (by decide +kernel), List.mem_of_getElem? (i := 1074) (by decide +kernel)⟩
def lw_privs_2 : List (MethodName × Nat) := [(⟨"DustySayings$Tape", "isSignOf", "(Ljava/lang/String;)Z"⟩, 9), (⟨"DustySayings$Tape", "readClosing", "()Z"⟩, 9), (⟨"DustySayingsModel", "comes", "(IIII)I"⟩, 33), (⟨"DustySayingsModel", "put", "(III)V"⟩, 33), (⟨"DustySayingsModel", "isSaying", "(I)Z"⟩, 33), (⟨"DustySayingsModel", "of", "(II)I"⟩, 33), (⟨"DustySayingsModel", "gathers", "(I)I"⟩, 33), (⟨"DustySayingsModel", "plainBloom", "(I)I"⟩, 33), (⟨"DustySayingsModel", "counts", "(I)I"⟩, 33), (⟨"DustySayingsModel", "saidIn", "(I)I"⟩, 33), (⟨"DustySayingsModel", "worksOut", "(I)I"⟩, 33), (⟨"DustySayingsModel", "fellows", "(III)I"⟩, 33), (⟨"DustySayingsModel", "draws", "(I)I"⟩, 33), (⟨"DustySayingsModel", "worthOf", "(I)I"⟩, 33), (⟨"DustySayingsModel", "swaps", "(II)I"⟩, 33), (⟨"DustySayingsModel", "goesOver", "(I)I"⟩, 33)]
theorem lw_r2 : ∀ q ∈ lw_privs_2, lw_okq q := List.forall_mem_cons.mpr ⟨lw_p16, List.forall_mem_cons.mpr ⟨lw_p17, List.forall_mem_cons.mpr ⟨lw_p18, List.forall_mem_cons.mpr ⟨lw_p19, List.forall_mem_cons.mpr ⟨lw_p20, List.forall_mem_cons.mpr ⟨lw_p21, List.forall_mem_cons.mpr ⟨lw_p22, List.forall_mem_cons.mpr ⟨lw_p23, List.forall_mem_cons.mpr ⟨lw_p24, List.forall_mem_cons.mpr ⟨lw_p25, List.forall_mem_cons.mpr ⟨lw_p26, List.forall_mem_cons.mpr ⟨lw_p27, List.forall_mem_cons.mpr ⟨lw_p28, List.forall_mem_cons.mpr ⟨lw_p29, List.forall_mem_cons.mpr ⟨lw_p30, List.forall_mem_cons.mpr ⟨lw_p31, fun _ h => absurd h List.not_mem_nil⟩⟩⟩⟩⟩⟩⟩⟩⟩⟩⟩⟩⟩⟩⟩⟩
theorem lw_p32 : lw_okq (⟨"DustySayingsModel", "worthIn", "(I)I"⟩, 33) := ⟨⟨by decide +kernel, by decide +kernel⟩, List.mem_of_getElem? (i := 864) (by decide +kernel), List.mem_of_getElem? (i := 1085) (by decide +kernel), List.mem_of_getElem? (i := 1086) (by decide +kernel)⟩
theorem lw_p33 : lw_okq (⟨"DustySayingsModel", "buriedOnes", "()I"⟩, 33) := ⟨⟨by decide +kernel, by decide +kernel⟩, List.mem_of_getElem? (i := 864) (by decide +kernel), List.mem_of_getElem? (i := 1089) (by decide +kernel), List.mem_of_getElem? (i := 1090) (by decide +kernel)⟩
theorem lw_p34 : lw_okq (⟨"DustySayingsModel", "drawn", "(I)I"⟩, 33) := ⟨⟨by decide +kernel, by decide +kernel⟩, List.mem_of_getElem? (i := 864) (by decide +kernel), List.mem_of_getElem? (i := 1093) (by decide +kernel), List.mem_of_getElem? (i := 1094) (by decide +kernel)⟩
theorem lw_p35 : lw_okq (⟨"DustySayingsModel", "draw", "()I"⟩, 33) := ⟨⟨by decide +kernel, by decide +kernel⟩, List.mem_of_getElem? (i := 864) (by decide +kernel), List.mem_of_getElem? (i := 1105) (by decide +kernel), List.mem_of_getElem? (i := 1106) (by decide +kernel)⟩
theorem lw_p36 : lw_okq (⟨"DustySayingsModel", "goesOn", "(I)V"⟩, 33) := ⟨⟨by decide +kernel, by decide +kernel⟩, List.mem_of_getElem? (i := 864) (by decide +kernel), List.mem_of_getElem? (i := 1118) (by decide +kernel), List.mem_of_getElem? (i := 1119) (by decide +kernel)⟩
theorem lw_p37 : lw_okq (⟨"DustySayingsModel", "evening", "()V"⟩, 33) := ⟨⟨by decide +kernel, by decide +kernel⟩, List.mem_of_getElem? (i := 864) (by decide +kernel), List.mem_of_getElem? (i := 1122) (by decide +kernel), List.mem_of_getElem? (i := 1123) (by decide +kernel)⟩
theorem lw_p38 : lw_okq (⟨"DustySayingsModel", "maid", "()I"⟩, 33) := ⟨⟨by decide +kernel, by decide +kernel⟩, List.mem_of_getElem? (i := 864) (by decide +kernel), List.mem_of_getElem? (i := 1126) (by decide +kernel), List.mem_of_getElem? (i := 1127) (by decide +kernel)⟩
theorem lw_p39 : lw_okq (⟨"DustySayingsModel", "dustiest", "(I)I"⟩, 33) := ⟨⟨by decide +kernel, by decide +kernel⟩, List.mem_of_getElem? (i := 864) (by decide +kernel), List.mem_of_getElem? (i := 1130) (by decide +kernel), List.mem_of_getElem? (i := 1131) (by decide +kernel)⟩
theorem lw_p40 : lw_okq (⟨"DustySayingsModel", "allDust", "()I"⟩, 33) := ⟨⟨by decide +kernel, by decide +kernel⟩, List.mem_of_getElem? (i := 864) (by decide +kernel), List.mem_of_getElem? (i := 1138) (by decide +kernel), List.mem_of_getElem? (i := 1139) (by decide +kernel)⟩
theorem lw_p41 : lw_okq (⟨"DustySayingsModel", "peopled", "()I"⟩, 33) := ⟨⟨by decide +kernel, by decide +kernel⟩, List.mem_of_getElem? (i := 864) (by decide +kernel), List.mem_of_getElem? (i := 1142) (by decide +kernel), List.mem_of_getElem? (i := 1143) (by decide +kernel)⟩
theorem lw_p42 : lw_okq (⟨"DustySayingsModel", "deafest", "()I"⟩, 33) := ⟨⟨by decide +kernel, by decide +kernel⟩, List.mem_of_getElem? (i := 864) (by decide +kernel), List.mem_of_getElem? (i := 1146) (by decide +kernel), List.mem_of_getElem? (i := 1147) (by decide +kernel)⟩
theorem lw_p43 : lw_okq (⟨"DustySayingsModel", "thinks", "()V"⟩, 33) := ⟨⟨by decide +kernel, by decide +kernel⟩, List.mem_of_getElem? (i := 864) (by decide +kernel), List.mem_of_getElem? (i := 1154) (by decide +kernel), List.mem_of_getElem? (i := 1155) (by decide +kernel)⟩
theorem lw_p44 : lw_okq (⟨"DustySayingsModel", "putsBack", "()V"⟩, 33) := ⟨⟨by decide +kernel, by decide +kernel⟩, List.mem_of_getElem? (i := 864) (by decide +kernel), List.mem_of_getElem? (i := 1161) (by decide +kernel), List.mem_of_getElem? (i := 1162) (by decide +kernel)⟩
theorem lw_p45 : lw_okq (⟨"DustySayingsModel", "isBright", "(II)Z"⟩, 33) := ⟨⟨by decide +kernel, by decide +kernel⟩, List.mem_of_getElem? (i := 864) (by decide +kernel), List.mem_of_getElem? (i := 1178) (by decide +kernel), List.mem_of_getElem? (i := 1179) (by decide +kernel)⟩
theorem lw_p46 : lw_okq (⟨"DustySayingsModel", "dustOn", "(II)I"⟩, 33) := ⟨⟨by decide +kernel, by decide +kernel⟩, List.mem_of_getElem? (i := 864) (by decide +kernel), List.mem_of_getElem? (i := 1186) (by decide +kernel), List.mem_of_getElem? (i := 1187) (by decide +kernel)⟩
theorem lw_p47 : lw_okq (⟨"DustySayingsModel", "allHeed", "()I"⟩, 33) := ⟨⟨by decide +kernel, by decide +kernel⟩, List.mem_of_getElem? (i := 864) (by decide +kernel), List.mem_of_getElem? (i := 1198) (by decide +kernel), List.mem_of_getElem? (i := 1199) (by decide +kernel)⟩
def lw_privs_3 : List (MethodName × Nat) := [(⟨"DustySayingsModel", "worthIn", "(I)I"⟩, 33), (⟨"DustySayingsModel", "buriedOnes", "()I"⟩, 33), (⟨"DustySayingsModel", "drawn", "(I)I"⟩, 33), (⟨"DustySayingsModel", "draw", "()I"⟩, 33), (⟨"DustySayingsModel", "goesOn", "(I)V"⟩, 33), (⟨"DustySayingsModel", "evening", "()V"⟩, 33), (⟨"DustySayingsModel", "maid", "()I"⟩, 33), (⟨"DustySayingsModel", "dustiest", "(I)I"⟩, 33), (⟨"DustySayingsModel", "allDust", "()I"⟩, 33), (⟨"DustySayingsModel", "peopled", "()I"⟩, 33), (⟨"DustySayingsModel", "deafest", "()I"⟩, 33), (⟨"DustySayingsModel", "thinks", "()V"⟩, 33), (⟨"DustySayingsModel", "putsBack", "()V"⟩, 33), (⟨"DustySayingsModel", "isBright", "(II)Z"⟩, 33), (⟨"DustySayingsModel", "dustOn", "(II)I"⟩, 33), (⟨"DustySayingsModel", "allHeed", "()I"⟩, 33)]
theorem lw_r3 : ∀ q ∈ lw_privs_3, lw_okq q := List.forall_mem_cons.mpr ⟨lw_p32, List.forall_mem_cons.mpr ⟨lw_p33, List.forall_mem_cons.mpr ⟨lw_p34, List.forall_mem_cons.mpr ⟨lw_p35, List.forall_mem_cons.mpr ⟨lw_p36, List.forall_mem_cons.mpr ⟨lw_p37, List.forall_mem_cons.mpr ⟨lw_p38, List.forall_mem_cons.mpr ⟨lw_p39, List.forall_mem_cons.mpr ⟨lw_p40, List.forall_mem_cons.mpr ⟨lw_p41, List.forall_mem_cons.mpr ⟨lw_p42, List.forall_mem_cons.mpr ⟨lw_p43, List.forall_mem_cons.mpr ⟨lw_p44, List.forall_mem_cons.mpr ⟨lw_p45, List.forall_mem_cons.mpr ⟨lw_p46, List.forall_mem_cons.mpr ⟨lw_p47, fun _ h => absurd h List.not_mem_nil⟩⟩⟩⟩⟩⟩⟩⟩⟩⟩⟩⟩⟩⟩⟩⟩
theorem lw_p48 : lw_okq (⟨"DustySayingsModel", "go", "()V"⟩, 33) := ⟨⟨by decide +kernel, by decide +kernel⟩, List.mem_of_getElem? (i := 864) (by decide +kernel), List.mem_of_getElem? (i := 1233) (by decide +kernel), List.mem_of_getElem? (i := 1234) (by decide +kernel)⟩
theorem lw_p49 : lw_okq (⟨"DustySayingsModel", "isLetter", "(I)Z"⟩, 33) := ⟨⟨by decide +kernel, by decide +kernel⟩, List.mem_of_getElem? (i := 864) (by decide +kernel), List.mem_of_getElem? (i := 1237) (by decide +kernel), List.mem_of_getElem? (i := 1238) (by decide +kernel)⟩
theorem lw_p50 : lw_okq (⟨"DustySayingsModel", "isFigure", "(I)Z"⟩, 33) := ⟨⟨by decide +kernel, by decide +kernel⟩, List.mem_of_getElem? (i := 864) (by decide +kernel), List.mem_of_getElem? (i := 1241) (by decide +kernel), List.mem_of_getElem? (i := 1242) (by decide +kernel)⟩
theorem lw_p51 : lw_okq (⟨"DustySayingsModel", "takesKey", "()Z"⟩, 33) := ⟨⟨by decide +kernel, by decide +kernel⟩, List.mem_of_getElem? (i := 864) (by decide +kernel), List.mem_of_getElem? (i := 1245) (by decide +kernel), List.mem_of_getElem? (i := 1246) (by decide +kernel)⟩
theorem lw_p52 : lw_okq (⟨"DustySayingsModel", "takesE", "()Z"⟩, 33) := ⟨⟨by decide +kernel, by decide +kernel⟩, List.mem_of_getElem? (i := 864) (by decide +kernel), List.mem_of_getElem? (i := 1249) (by decide +kernel), List.mem_of_getElem? (i := 1250) (by decide +kernel)⟩
theorem lw_p53 : lw_okq (⟨"DustySayingsModel", "takesPart", "()Z"⟩, 33) := ⟨⟨by decide +kernel, by decide +kernel⟩, List.mem_of_getElem? (i := 864) (by decide +kernel), List.mem_of_getElem? (i := 1253) (by decide +kernel), List.mem_of_getElem? (i := 1254) (by decide +kernel)⟩
theorem lw_p54 : lw_okq (⟨"DustySayingsModel", "nameOf", "(I)I"⟩, 33) := ⟨⟨by decide +kernel, by decide +kernel⟩, List.mem_of_getElem? (i := 864) (by decide +kernel), List.mem_of_getElem? (i := 1257) (by decide +kernel), List.mem_of_getElem? (i := 1258) (by decide +kernel)⟩
theorem lw_p55 : lw_okq (⟨"DustySayingsModel", "settle", "(I)V"⟩, 33) := ⟨⟨by decide +kernel, by decide +kernel⟩, List.mem_of_getElem? (i := 864) (by decide +kernel), List.mem_of_getElem? (i := 1261) (by decide +kernel), List.mem_of_getElem? (i := 1262) (by decide +kernel)⟩
theorem lw_p56 : lw_okq (⟨"DustySayingsModel", "notsOpen", "()I"⟩, 33) := ⟨⟨by decide +kernel, by decide +kernel⟩, List.mem_of_getElem? (i := 864) (by decide +kernel), List.mem_of_getElem? (i := 1268) (by decide +kernel), List.mem_of_getElem? (i := 1269) (by decide +kernel)⟩
theorem lw_p57 : lw_okq (⟨"DustySayingsModel", "signHere", "()I"⟩, 33) := ⟨⟨by decide +kernel, by decide +kernel⟩, List.mem_of_getElem? (i := 864) (by decide +kernel), List.mem_of_getElem? (i := 1272) (by decide +kernel), List.mem_of_getElem? (i := 1273) (by decide +kernel)⟩
def lw_privs_4 : List (MethodName × Nat) := [(⟨"DustySayingsModel", "go", "()V"⟩, 33), (⟨"DustySayingsModel", "isLetter", "(I)Z"⟩, 33), (⟨"DustySayingsModel", "isFigure", "(I)Z"⟩, 33), (⟨"DustySayingsModel", "takesKey", "()Z"⟩, 33), (⟨"DustySayingsModel", "takesE", "()Z"⟩, 33), (⟨"DustySayingsModel", "takesPart", "()Z"⟩, 33), (⟨"DustySayingsModel", "nameOf", "(I)I"⟩, 33), (⟨"DustySayingsModel", "settle", "(I)V"⟩, 33), (⟨"DustySayingsModel", "notsOpen", "()I"⟩, 33), (⟨"DustySayingsModel", "signHere", "()I"⟩, 33)]
theorem lw_r4 : ∀ q ∈ lw_privs_4, lw_okq q := List.forall_mem_cons.mpr ⟨lw_p48, List.forall_mem_cons.mpr ⟨lw_p49, List.forall_mem_cons.mpr ⟨lw_p50, List.forall_mem_cons.mpr ⟨lw_p51, List.forall_mem_cons.mpr ⟨lw_p52, List.forall_mem_cons.mpr ⟨lw_p53, List.forall_mem_cons.mpr ⟨lw_p54, List.forall_mem_cons.mpr ⟨lw_p55, List.forall_mem_cons.mpr ⟨lw_p56, List.forall_mem_cons.mpr ⟨lw_p57, fun _ h => absurd h List.not_mem_nil⟩⟩⟩⟩⟩⟩⟩⟩⟩⟩
def lw_privs : List (MethodName × Nat) := lw_privs_1 ++ (lw_privs_2 ++ (lw_privs_3 ++ (lw_privs_4)))
def lw_tbl : List Cond := k2_sels lw_privs ++ tables_1
theorem lw_privs_ok : ∀ q ∈ lw_privs, lw_okq q := by
  show ∀ q ∈ lw_privs_1 ++ (lw_privs_2 ++ (lw_privs_3 ++ (lw_privs_4))), lw_okq q
  exact List.forall_mem_append.mpr ⟨lw_r1, List.forall_mem_append.mpr ⟨lw_r2, List.forall_mem_append.mpr ⟨lw_r3, lw_r4⟩⟩⟩
end
section
/-! ===== BEGIN words of one list among another's, by their places ===== -/
theorem goodIn_r {big : List Cond} (ws : List Cond) (ps : List Nat) (hp : ws = ps.filterMap (fun i => big[i]?)) (h : ws.all goodWord = true) : GoodIn big ws := by
  intro w hw
  have h1 := List.all_eq_true.mp h w hw
  rw [hp] at hw
  obtain ⟨i, -, hi⟩ := List.mem_filterMap.mp hw
  have hm : w ∈ big := by first | exact List.mem_of_getElem? hi | exact List.getElem?_mem hi
  exact ⟨hm, good_of_word h1⟩
theorem goodIn_app {big a b : List Cond} (ha : GoodIn big a) (hb : GoodIn big b) : GoodIn big (a ++ b) := fun w h => (List.mem_append.mp h).elim (ha w) (hb w)
theorem goodIn_ca {big a b : List Cond} {c : Cond} (ha : GoodIn big (c :: a)) (hb : GoodIn big b) : GoodIn big (c :: (a ++ b)) := fun w h => (List.mem_cons.mp h).elim (fun e => ha w (List.mem_cons.mpr (Or.inl e))) (fun h => (List.mem_append.mp h).elim (fun h => ha w (List.mem_cons.mpr (Or.inr h))) (hb w))
theorem goodIn_sub {big ws : List Cond} (hm : ∀ w ∈ ws, w ∈ big) (h : ws.all goodWord = true) : GoodIn big ws := fun w hw => ⟨hm w hw, good_of_word (List.all_eq_true.mp h w hw)⟩
/-! ===== END ===== -/

def RX0 : String := "DustySayings$Kinds"
def TX0 : u_T := fun k => match k with
  | _ => ("", "", "", false)
def tyX0 : Nat → FieldType := fun k => match k with
  | _ => .int
theorem nmX0 : ∀ a, a < 0 → ∀ b, b < 0 → a ≠ b → (TX0 a).2.1 ≠ (TX0 b).2.1 := by decide +kernel
theorem tyX0_ok : ∀ k, k < 0 → parseFieldDescriptor (TX0 k).2.2.1 = some (tyX0 k) := by decide +kernel
abbrev cX0_isKind : ByteArray := prog_2_method_2_code
def yX0_isKind : MethodName := ⟨RX0, "isKind", "(I)Z"⟩
abbrev cX0_isUnder : ByteArray := prog_2_method_3_code
def yX0_isUnder : MethodName := ⟨RX0, "isUnder", "(II)Z"⟩
abbrev cX0_worth : ByteArray := prog_2_method_4_code
def yX0_worth : MethodName := ⟨RX0, "worth", "(III)I"⟩
def RX1 : String := "DustySayings$Laws"
def TX1 : u_T := fun k => match k with
  | 0 => ("DustySayings$Laws", "keys", "[I", true)
  | 1 => ("DustySayings$Laws", "leaves", "[I", true)
  | 2 => ("DustySayings$Laws", "lengths", "[I", true)
  | 3 => ("DustySayings$Laws", "steps", "[[I", true)
  | 4 => ("DustySayings$Laws", "names", "[I", true)
  | _ => ("DustySayings$Laws", "stack", "[I", true)
def tyX1 : Nat → FieldType := fun k => match k with
  | 0 => .array .int
  | 1 => .array .int
  | 2 => .array .int
  | 3 => .array (.array .int)
  | 4 => .array .int
  | _ => .array .int
theorem nmX1 : ∀ a, a < 6 → ∀ b, b < 6 → a ≠ b → (TX1 a).2.1 ≠ (TX1 b).2.1 := by decide +kernel
theorem tyX1_ok : ∀ k, k < 6 → parseFieldDescriptor (TX1 k).2.2.1 = some (tyX1 k) := by decide +kernel
abbrev cX1_init : ByteArray := prog_3_method_1_code
def yX1_init : MethodName := ⟨RX1, "<init>", "()V"⟩
abbrev cX1_namesOf : ByteArray := prog_3_method_2_code
def yX1_namesOf : MethodName := ⟨RX1, "namesOf", "(I)Ljava/lang/String;"⟩
abbrev cX1_wordOf : ByteArray := prog_3_method_3_code
def yX1_wordOf : MethodName := ⟨RX1, "wordOf", "(I)Ljava/lang/String;"⟩
abbrev cX1_write : ByteArray := prog_3_method_4_code
def yX1_write : MethodName := ⟨RX1, "write", "(ILDustySayings$Tape;)V"⟩
abbrev cX1_name : ByteArray := prog_3_method_5_code
def yX1_name : MethodName := ⟨RX1, "name", "(IIII)V"⟩
abbrev cX1_value : ByteArray := prog_3_method_6_code
def yX1_value : MethodName := ⟨RX1, "value", "(I)I"⟩
abbrev cX1_leaf : ByteArray := prog_3_method_7_code
def yX1_leaf : MethodName := ⟨RX1, "leaf", "(I)I"⟩
abbrev cX1_join : ByteArray := prog_3_method_8_code
def yX1_join : MethodName := ⟨RX1, "join", "(III)I"⟩
abbrev cX1_truth : ByteArray := prog_3_method_9_code
def yX1_truth : MethodName := ⟨RX1, "truth", "(Z)I"⟩
def RX2 : String := "DustySayings$Room"
def TX2 : u_T := fun k => match k with
  | 0 => ("DustySayings$Room", "laws", "LDustySayings$Laws;", true)
  | 1 => ("DustySayings$Room", "kind", "[I", true)
  | 2 => ("DustySayings$Room", "wit", "[I", true)
  | 3 => ("DustySayings$Room", "dust", "[I", true)
  | 4 => ("DustySayings$Room", "corner", "[I", true)
  | 5 => ("DustySayings$Room", "turned", "[I", true)
  | 6 => ("DustySayings$Room", "heeds", "[I", true)
  | 7 => ("DustySayings$Room", "counting", "[I", true)
  | 8 => ("DustySayings$Room", "size", "I", false)
  | 9 => ("DustySayings$Room", "texts", "I", false)
  | 10 => ("DustySayings$Room", "kicking", "I", false)
  | 11 => ("DustySayings$Room", "dusted", "I", false)
  | 12 => ("DustySayings$Room", "found", "I", false)
  | 13 => ("DustySayings$Room", "evening", "I", false)
  | _ => ("DustySayings$Room", "z", "I", false)
def tyX2 : Nat → FieldType := fun k => match k with
  | 0 => .object "DustySayings$Laws"
  | 1 => .array .int
  | 2 => .array .int
  | 3 => .array .int
  | 4 => .array .int
  | 5 => .array .int
  | 6 => .array .int
  | 7 => .array .int
  | 8 => .int
  | 9 => .int
  | 10 => .int
  | 11 => .int
  | 12 => .int
  | 13 => .int
  | _ => .int
theorem nmX2 : ∀ a, a < 15 → ∀ b, b < 15 → a ≠ b → (TX2 a).2.1 ≠ (TX2 b).2.1 := by decide +kernel
theorem tyX2_ok : ∀ k, k < 15 → parseFieldDescriptor (TX2 k).2.2.1 = some (tyX2 k) := by decide +kernel
abbrev cX2_init : ByteArray := prog_4_method_1_code
def yX2_init : MethodName := ⟨RX2, "<init>", "(LDustySayings$Laws;)V"⟩
abbrev cX2_isCorner : ByteArray := prog_4_method_2_code
def yX2_isCorner : MethodName := ⟨RX2, "isCorner", "(I)Z"⟩
abbrev cX2_held : ByteArray := prog_4_method_3_code
def yX2_held : MethodName := ⟨RX2, "held", "(I)I"⟩
abbrev cX2_become : ByteArray := prog_4_method_4_code
def yX2_become : MethodName := ⟨RX2, "become", "(LDustySayings$Room;)V"⟩
abbrev cX2_has : ByteArray := prog_4_method_5_code
def yX2_has : MethodName := ⟨RX2, "has", "(I)Z"⟩
abbrev cX2_isFull : ByteArray := prog_4_method_6_code
def yX2_isFull : MethodName := ⟨RX2, "isFull", "()Z"⟩
abbrev cX2_isBuried : ByteArray := prog_4_method_7_code
def yX2_isBuried : MethodName := ⟨RX2, "isBuried", "(I)Z"⟩
abbrev cX2_add : ByteArray := prog_4_method_8_code
def yX2_add : MethodName := ⟨RX2, "add", "(IIII)I"⟩
abbrev cX2_addByLot : ByteArray := prog_4_method_9_code
def yX2_addByLot : MethodName := ⟨RX2, "addByLot", "()V"⟩
abbrev cX2_draw : ByteArray := prog_4_method_10_code
def yX2_draw : MethodName := ⟨RX2, "draw", "()I"⟩
abbrev cX2_goOver : ByteArray := prog_4_method_11_code
def yX2_goOver : MethodName := ⟨RX2, "goOver", "(I)V"⟩
abbrev cX2_brighten : ByteArray := prog_4_method_12_code
def yX2_brighten : MethodName := ⟨RX2, "brighten", "(I)V"⟩
abbrev cX2_passEvenings : ByteArray := prog_4_method_13_code
def yX2_passEvenings : MethodName := ⟨RX2, "passEvenings", "(I)V"⟩
abbrev cX2_passEvening : ByteArray := prog_4_method_14_code
def yX2_passEvening : MethodName := ⟨RX2, "passEvening", "()V"⟩
abbrev cX2_dustiestIn : ByteArray := prog_4_method_15_code
def yX2_dustiestIn : MethodName := ⟨RX2, "dustiestIn", "(I)I"⟩
abbrev cX2_kickByChance : ByteArray := prog_4_method_16_code
def yX2_kickByChance : MethodName := ⟨RX2, "kickByChance", "()V"⟩
abbrev cX2_gathers : ByteArray := prog_4_method_17_code
def yX2_gathers : MethodName := ⟨RX2, "gathers", "(I)I"⟩
abbrev cX2_quipGathers : ByteArray := prog_4_method_18_code
def yX2_quipGathers : MethodName := ⟨RX2, "quipGathers", "(I)I"⟩
abbrev cX2_plainBloom : ByteArray := prog_4_method_19_code
def yX2_plainBloom : MethodName := ⟨RX2, "plainBloom", "(I)I"⟩
abbrev cX2_othersBeside : ByteArray := prog_4_method_20_code
def yX2_othersBeside : MethodName := ⟨RX2, "othersBeside", "(II)I"⟩
abbrev cX2_draws : ByteArray := prog_4_method_21_code
def yX2_draws : MethodName := ⟨RX2, "draws", "(I)I"⟩
abbrev cX2_worth : ByteArray := prog_4_method_22_code
def yX2_worth : MethodName := ⟨RX2, "worth", "(I)I"⟩
abbrev cX2_sayingsIn : ByteArray := prog_4_method_23_code
def yX2_sayingsIn : MethodName := ⟨RX2, "sayingsIn", "(I)I"⟩
abbrev cX2_worthIn : ByteArray := prog_4_method_24_code
def yX2_worthIn : MethodName := ⟨RX2, "worthIn", "(I)I"⟩
abbrev cX2_drawnIn : ByteArray := prog_4_method_25_code
def yX2_drawnIn : MethodName := ⟨RX2, "drawnIn", "(I)I"⟩
abbrev cX2_buried : ByteArray := prog_4_method_26_code
def yX2_buried : MethodName := ⟨RX2, "buried", "()I"⟩
abbrev cX2_cornersWithSayings : ByteArray := prog_4_method_27_code
def yX2_cornersWithSayings : MethodName := ⟨RX2, "cornersWithSayings", "()I"⟩
abbrev cX2_deafest : ByteArray := prog_4_method_28_code
def yX2_deafest : MethodName := ⟨RX2, "deafest", "()I"⟩
abbrev cX2_allDust : ByteArray := prog_4_method_29_code
def yX2_allDust : MethodName := ⟨RX2, "allDust", "()I"⟩
abbrev cX2_allHeed : ByteArray := prog_4_method_30_code
def yX2_allHeed : MethodName := ⟨RX2, "allHeed", "()I"⟩
abbrev cX2_feeGiven : ByteArray := prog_4_method_31_code
def yX2_feeGiven : MethodName := ⟨RX2, "feeGiven", "()I"⟩
abbrev cX2_fineGiven : ByteArray := prog_4_method_32_code
def yX2_fineGiven : MethodName := ⟨RX2, "fineGiven", "(I)I"⟩
def RX3 : String := "DustySayings$Sheet"
def TX3 : u_T := fun k => match k with
  | 0 => ("DustySayings$Sheet", "places", "[I", true)
  | 1 => ("DustySayings$Sheet", "sort", "I", false)
  | _ => ("DustySayings$Sheet", "size", "I", false)
def tyX3 : Nat → FieldType := fun k => match k with
  | 0 => .array .int
  | 1 => .int
  | _ => .int
theorem nmX3 : ∀ a, a < 3 → ∀ b, b < 3 → a ≠ b → (TX3 a).2.1 ≠ (TX3 b).2.1 := by decide +kernel
theorem tyX3_ok : ∀ k, k < 3 → parseFieldDescriptor (TX3 k).2.2.1 = some (tyX3 k) := by decide +kernel
abbrev cX3_init : ByteArray := prog_5_method_1_code
def yX3_init : MethodName := ⟨RX3, "<init>", "()V"⟩
abbrev cX3_begin : ByteArray := prog_5_method_2_code
def yX3_begin : MethodName := ⟨RX3, "begin", "(II)V"⟩
abbrev cX3_become : ByteArray := prog_5_method_3_code
def yX3_become : MethodName := ⟨RX3, "become", "(LDustySayings$Sheet;)V"⟩
abbrev cX3_isMissing : ByteArray := prog_5_method_4_code
def yX3_isMissing : MethodName := ⟨RX3, "isMissing", "()Z"⟩
abbrev cX3_has : ByteArray := prog_5_method_5_code
def yX3_has : MethodName := ⟨RX3, "has", "(I)Z"⟩
abbrev cX3_hasRun : ByteArray := prog_5_method_6_code
def yX3_hasRun : MethodName := ⟨RX3, "hasRun", "(II)Z"⟩
abbrev cX3_isNumber : ByteArray := prog_5_method_7_code
def yX3_isNumber : MethodName := ⟨RX3, "isNumber", "(I)Z"⟩
def RX4 : String := "DustySayings$Slot"
def TX4 : u_T := fun k => match k with
  | 0 => ("DustySayings$Slot", "row", "LDustySayings$Sheet;", true)
  | 1 => ("DustySayings$Slot", "thing", "I", false)
  | 2 => ("DustySayings$Slot", "number", "I", false)
  | 3 => ("DustySayings$Slot", "kind", "I", false)
  | 4 => ("DustySayings$Slot", "wit", "I", false)
  | _ => ("DustySayings$Slot", "dust", "I", false)
def tyX4 : Nat → FieldType := fun k => match k with
  | 0 => .object "DustySayings$Sheet"
  | 1 => .int
  | 2 => .int
  | 3 => .int
  | 4 => .int
  | _ => .int
theorem nmX4 : ∀ a, a < 6 → ∀ b, b < 6 → a ≠ b → (TX4 a).2.1 ≠ (TX4 b).2.1 := by decide +kernel
theorem tyX4_ok : ∀ k, k < 6 → parseFieldDescriptor (TX4 k).2.2.1 = some (tyX4 k) := by decide +kernel
abbrev cX4_init : ByteArray := prog_6_method_1_code
def yX4_init : MethodName := ⟨RX4, "<init>", "()V"⟩
abbrev cX4_holdSaying : ByteArray := prog_6_method_2_code
def yX4_holdSaying : MethodName := ⟨RX4, "holdSaying", "(III)V"⟩
def RX5 : String := "DustySayings$Tape"
def TX5 : u_T := fun k => match k with
  | 0 => ("DustySayings$Tape", "bytes", "[I", true)
  | 1 => ("DustySayings$Tape", "size", "I", false)
  | 2 => ("DustySayings$Tape", "start", "I", false)
  | 3 => ("DustySayings$Tape", "stop", "I", false)
  | 4 => ("DustySayings$Tape", "sort", "I", false)
  | 5 => ("DustySayings$Tape", "key", "I", false)
  | 6 => ("DustySayings$Tape", "leaves", "I", false)
  | 7 => ("DustySayings$Tape", "written", "I", false)
  | _ => ("DustySayings$Tape", "steps", "[I", true)
def tyX5 : Nat → FieldType := fun k => match k with
  | 0 => .array .int
  | 1 => .int
  | 2 => .int
  | 3 => .int
  | 4 => .int
  | 5 => .int
  | 6 => .int
  | 7 => .int
  | _ => .array .int
theorem nmX5 : ∀ a, a < 9 → ∀ b, b < 9 → a ≠ b → (TX5 a).2.1 ≠ (TX5 b).2.1 := by decide +kernel
theorem tyX5_ok : ∀ k, k < 9 → parseFieldDescriptor (TX5 k).2.2.1 = some (tyX5 k) := by decide +kernel
abbrev cX5_init : ByteArray := prog_7_method_1_code
def yX5_init : MethodName := ⟨RX5, "<init>", "()V"⟩
abbrev cX5_hasRoom : ByteArray := prog_7_method_2_code
def yX5_hasRoom : MethodName := ⟨RX5, "hasRoom", "(I)Z"⟩
abbrev cX5_add : ByteArray := prog_7_method_3_code
def yX5_add : MethodName := ⟨RX5, "add", "(I)V"⟩
abbrev cX5_isText : ByteArray := prog_7_method_4_code
def yX5_isText : MethodName := ⟨RX5, "isText", "()Z"⟩
abbrev cX5_pass : ByteArray := prog_7_method_5_code
def yX5_pass : MethodName := ⟨RX5, "pass", "()V"⟩
abbrev cX5_sortAt : ByteArray := prog_7_method_6_code
def yX5_sortAt : MethodName := ⟨RX5, "sortAt", "(I)I"⟩
abbrev cX5_isSignOf : ByteArray := prog_7_method_7_code
def yX5_isSignOf : MethodName := ⟨RX5, "isSignOf", "(Ljava/lang/String;)Z"⟩
abbrev cX5_readKey : ByteArray := prog_7_method_8_code
def yX5_readKey : MethodName := ⟨RX5, "readKey", "()Z"⟩
abbrev cX5_isWord : ByteArray := prog_7_method_9_code
def yX5_isWord : MethodName := ⟨RX5, "isWord", "(Ljava/lang/String;)Z"⟩
abbrev cX5_signsOf : ByteArray := prog_7_method_10_code
def yX5_signsOf : MethodName := ⟨RX5, "signsOf", "(I)Ljava/lang/String;"⟩
abbrev cX5_readJoined : ByteArray := prog_7_method_11_code
def yX5_readJoined : MethodName := ⟨RX5, "readJoined", "(III)Z"⟩
abbrev cX5_readPiece : ByteArray := prog_7_method_12_code
def yX5_readPiece : MethodName := ⟨RX5, "readPiece", "(II)Z"⟩
abbrev cX5_readClosing : ByteArray := prog_7_method_13_code
def yX5_readClosing : MethodName := ⟨RX5, "readClosing", "()Z"⟩
abbrev cX5_readNumber : ByteArray := prog_7_method_14_code
def yX5_readNumber : MethodName := ⟨RX5, "readNumber", "()Z"⟩
abbrev cX5_readName : ByteArray := prog_7_method_15_code
def yX5_readName : MethodName := ⟨RX5, "readName", "()Z"⟩
abbrev cX5_writeLeaf : ByteArray := prog_7_method_16_code
def yX5_writeLeaf : MethodName := ⟨RX5, "writeLeaf", "(I)V"⟩
abbrev cX5_write : ByteArray := prog_7_method_17_code
def yX5_write : MethodName := ⟨RX5, "write", "(I)V"⟩
def RX6 : String := "DustySayings"
def TX6 : u_T := fun k => match k with
  | 0 => ("DustySayings", "laws", "LDustySayings$Laws;", true)
  | 1 => ("DustySayings", "now", "LDustySayings$Room;", true)
  | 2 => ("DustySayings", "image", "LDustySayings$Room;", true)
  | 3 => ("DustySayings", "thought", "LDustySayings$Room;", true)
  | 4 => ("DustySayings", "tape", "LDustySayings$Tape;", true)
  | 5 => ("DustySayings", "sheets", "[LDustySayings$Sheet;", true)
  | 6 => ("DustySayings", "slots", "[LDustySayings$Slot;", true)
  | 7 => ("DustySayings", "waiting", "[I", true)
  | 8 => ("DustySayings", "differences", "[I", true)
  | 9 => ("DustySayings", "hasImage", "Z", false)
  | _ => ("DustySayings", "waits", "I", false)
def tyX6 : Nat → FieldType := fun k => match k with
  | 0 => .object "DustySayings$Laws"
  | 1 => .object "DustySayings$Room"
  | 2 => .object "DustySayings$Room"
  | 3 => .object "DustySayings$Room"
  | 4 => .object "DustySayings$Tape"
  | 5 => .array (.object "DustySayings$Sheet")
  | 6 => .array (.object "DustySayings$Slot")
  | 7 => .array .int
  | 8 => .array .int
  | 9 => .boolean
  | _ => .int
theorem nmX6 : ∀ a, a < 11 → ∀ b, b < 11 → a ≠ b → (TX6 a).2.1 ≠ (TX6 b).2.1 := by decide +kernel
theorem tyX6_ok : ∀ k, k < 11 → parseFieldDescriptor (TX6 k).2.2.1 = some (tyX6 k) := by decide +kernel
abbrev cX6_init : ByteArray := prog_1_method_1_code
def yX6_init : MethodName := ⟨RX6, "<init>", "()V"⟩
abbrev cX6_saying : ByteArray := prog_1_method_2_code
def yX6_saying : MethodName := ⟨RX6, "saying", "(III)I"⟩
abbrev cX6_told : ByteArray := prog_1_method_3_code
def yX6_told : MethodName := ⟨RX6, "told", "(II)I"⟩
abbrev cX6_as : ByteArray := prog_1_method_4_code
def yX6_as : MethodName := ⟨RX6, "as", "(II)I"⟩
abbrev cX6_turns : ByteArray := prog_1_method_5_code
def yX6_turns : MethodName := ⟨RX6, "turns", "(II)I"⟩
abbrev cX6_set : ByteArray := prog_1_method_6_code
def yX6_set : MethodName := ⟨RX6, "set", "(III)I"⟩
abbrev cX6_moves : ByteArray := prog_1_method_7_code
def yX6_moves : MethodName := ⟨RX6, "moves", "(II)I"⟩
abbrev cX6_dusts : ByteArray := prog_1_method_8_code
def yX6_dusts : MethodName := ⟨RX6, "dusts", "(I)I"⟩
abbrev cX6_heed : ByteArray := prog_1_method_9_code
def yX6_heed : MethodName := ⟨RX6, "heed", "(II)I"⟩
abbrev cX6_cornerOf : ByteArray := prog_1_method_10_code
def yX6_cornerOf : MethodName := ⟨RX6, "cornerOf", "(II)I"⟩
abbrev cX6_kicks : ByteArray := prog_1_method_11_code
def yX6_kicks : MethodName := ⟨RX6, "kicks", "(I)I"⟩
abbrev cX6_deal : ByteArray := prog_1_method_12_code
def yX6_deal : MethodName := ⟨RX6, "deal", "(I)I"⟩
abbrev cX6_seed : ByteArray := prog_1_method_13_code
def yX6_seed : MethodName := ⟨RX6, "seed", "(I)I"⟩
abbrev cX6_evenings : ByteArray := prog_1_method_14_code
def yX6_evenings : MethodName := ⟨RX6, "evenings", "(I)I"⟩
abbrev cX6_room : ByteArray := prog_1_method_15_code
def yX6_room : MethodName := ⟨RX6, "room", "(I)I"⟩
abbrev cX6_behind : ByteArray := prog_1_method_16_code
def yX6_behind : MethodName := ⟨RX6, "behind", "(II)I"⟩
abbrev cX6_sinks : ByteArray := prog_1_method_17_code
def yX6_sinks : MethodName := ⟨RX6, "sinks", "(I)I"⟩
abbrev cX6_hears : ByteArray := prog_1_method_18_code
def yX6_hears : MethodName := ⟨RX6, "hears", "(II)I"⟩
abbrev cX6_shine : ByteArray := prog_1_method_19_code
def yX6_shine : MethodName := ⟨RX6, "shine", "(I)I"⟩
abbrev cX6_isEnoughShine : ByteArray := prog_1_method_20_code
def yX6_isEnoughShine : MethodName := ⟨RX6, "isEnoughShine", "(II)Z"⟩
abbrev cX6_edge : ByteArray := prog_1_method_21_code
def yX6_edge : MethodName := ⟨RX6, "edge", "(III)I"⟩
abbrev cX6_place : ByteArray := prog_1_method_22_code
def yX6_place : MethodName := ⟨RX6, "place", "(III)I"⟩
abbrev cX6_becomes : ByteArray := prog_1_method_23_code
def yX6_becomes : MethodName := ⟨RX6, "becomes", "(III)I"⟩
abbrev cX6_like : ByteArray := prog_1_method_24_code
def yX6_like : MethodName := ⟨RX6, "like", "(II)I"⟩
abbrev cX6_gatherDifferences : ByteArray := prog_1_method_25_code
def yX6_gatherDifferences : MethodName := ⟨RX6, "gatherDifferences", "(LDustySayings$Sheet;)V"⟩
abbrev cX6_fee : ByteArray := prog_1_method_26_code
def yX6_fee : MethodName := ⟨RX6, "fee", "()I"⟩
abbrev cX6_fine : ByteArray := prog_1_method_27_code
def yX6_fine : MethodName := ⟨RX6, "fine", "(I)I"⟩
abbrev cX6_feed : ByteArray := prog_1_method_28_code
def yX6_feed : MethodName := ⟨RX6, "feed", "(III)I"⟩
abbrev cX6_trim : ByteArray := prog_1_method_29_code
def yX6_trim : MethodName := ⟨RX6, "trim", "(I)I"⟩
abbrev cX6_text : ByteArray := prog_1_method_30_code
def yX6_text : MethodName := ⟨RX6, "text", "()I"⟩
abbrev cX6_textTold : ByteArray := prog_1_method_31_code
def yX6_textTold : MethodName := ⟨RX6, "textTold", "(II)I"⟩
abbrev cX6_why : ByteArray := prog_1_method_32_code
def yX6_why : MethodName := ⟨RX6, "why", "(I)I"⟩
abbrev cX6_sheet : ByteArray := prog_1_method_33_code
def yX6_sheet : MethodName := ⟨RX6, "sheet", "(III)I"⟩
abbrev cX6_mark : ByteArray := prog_1_method_34_code
def yX6_mark : MethodName := ⟨RX6, "mark", "(III)I"⟩
abbrev cX6_pour : ByteArray := prog_1_method_35_code
def yX6_pour : MethodName := ⟨RX6, "pour", "(I)I"⟩
abbrev cX6_reads : ByteArray := prog_1_method_36_code
def yX6_reads : MethodName := ⟨RX6, "reads", "(I)I"⟩
abbrev cX6_copy : ByteArray := prog_1_method_37_code
def yX6_copy : MethodName := ⟨RX6, "copy", "(IIIII)I"⟩
abbrev cX6_lay : ByteArray := prog_1_method_38_code
def yX6_lay : MethodName := ⟨RX6, "lay", "(III)I"⟩
abbrev cX6_ask : ByteArray := prog_1_method_39_code
def yX6_ask : MethodName := ⟨RX6, "ask", "(II)I"⟩
abbrev cX6_item : ByteArray := prog_1_method_40_code
def yX6_item : MethodName := ⟨RX6, "item", "(II)I"⟩
abbrev cX6_rest : ByteArray := prog_1_method_41_code
def yX6_rest : MethodName := ⟨RX6, "rest", "(II)I"⟩
abbrev cX6_tell : ByteArray := prog_1_method_42_code
def yX6_tell : MethodName := ⟨RX6, "tell", "(I)I"⟩
abbrev cX6_check : ByteArray := prog_1_method_43_code
def yX6_check : MethodName := ⟨RX6, "check", "(I)I"⟩
abbrev cX6_keep : ByteArray := prog_1_method_44_code
def yX6_keep : MethodName := ⟨RX6, "keep", "()I"⟩
abbrev cX6_back : ByteArray := prog_1_method_45_code
def yX6_back : MethodName := ⟨RX6, "back", "()I"⟩
abbrev cX6_count : ByteArray := prog_1_method_46_code
def yX6_count : MethodName := ⟨RX6, "count", "(I)I"⟩
abbrev cX6_isWithin : ByteArray := prog_1_method_47_code
def yX6_isWithin : MethodName := ⟨RX6, "isWithin", "(III)Z"⟩
abbrev cX6_isSheet : ByteArray := prog_1_method_48_code
def yX6_isSheet : MethodName := ⟨RX6, "isSheet", "(I)Z"⟩
abbrev cX6_isSlot : ByteArray := prog_1_method_49_code
def yX6_isSlot : MethodName := ⟨RX6, "isSlot", "(I)Z"⟩
def RX7 : String := "DustySayingsModel"
def TX7 : u_T := fun k => match k with
  | 0 => ("DustySayingsModel", "now", "[I", true)
  | 1 => ("DustySayingsModel", "image", "[I", true)
  | 2 => ("DustySayingsModel", "aside", "[I", true)
  | 3 => ("DustySayingsModel", "hasImage", "Z", false)
  | 4 => ("DustySayingsModel", "unlike", "[I", true)
  | 5 => ("DustySayingsModel", "tape", "[I", true)
  | 6 => ("DustySayingsModel", "taped", "I", false)
  | 7 => ("DustySayingsModel", "next", "I", false)
  | 8 => ("DustySayingsModel", "from", "I", false)
  | 9 => ("DustySayingsModel", "token", "I", false)
  | 10 => ("DustySayingsModel", "value", "I", false)
  | 11 => ("DustySayingsModel", "ended", "I", false)
  | 12 => ("DustySayingsModel", "key", "I", false)
  | 13 => ("DustySayingsModel", "keys", "[C", true)
  | 14 => ("DustySayingsModel", "keyAt", "[I", true)
  | 15 => ("DustySayingsModel", "code", "[I", true)
  | 16 => ("DustySayingsModel", "codes", "I", false)
  | 17 => ("DustySayingsModel", "atoms", "I", false)
  | 18 => ("DustySayingsModel", "waits", "[I", true)
  | 19 => ("DustySayingsModel", "held", "I", false)
  | 20 => ("DustySayingsModel", "tested", "[Z", true)
  | 21 => ("DustySayingsModel", "stack", "[I", true)
  | 22 => ("DustySayingsModel", "facts", "[I", true)
  | 23 => ("DustySayingsModel", "sorts", "[I", true)
  | 24 => ("DustySayingsModel", "sizes", "[I", true)
  | 25 => ("DustySayingsModel", "cells", "[I", true)
  | 26 => ("DustySayingsModel", "holds", "[I", true)
  | 27 => ("DustySayingsModel", "holdsA", "[I", true)
  | 28 => ("DustySayingsModel", "holdsB", "[I", true)
  | 29 => ("DustySayingsModel", "heldCells", "[I", true)
  | 30 => ("DustySayingsModel", "moved", "[I", true)
  | 31 => ("DustySayingsModel", "tells", "[I", true)
  | _ => ("DustySayingsModel", "waiting", "I", false)
def tyX7 : Nat → FieldType := fun k => match k with
  | 0 => .array .int
  | 1 => .array .int
  | 2 => .array .int
  | 3 => .boolean
  | 4 => .array .int
  | 5 => .array .int
  | 6 => .int
  | 7 => .int
  | 8 => .int
  | 9 => .int
  | 10 => .int
  | 11 => .int
  | 12 => .int
  | 13 => .array .char
  | 14 => .array .int
  | 15 => .array .int
  | 16 => .int
  | 17 => .int
  | 18 => .array .int
  | 19 => .int
  | 20 => .array .boolean
  | 21 => .array .int
  | 22 => .array .int
  | 23 => .array .int
  | 24 => .array .int
  | 25 => .array .int
  | 26 => .array .int
  | 27 => .array .int
  | 28 => .array .int
  | 29 => .array .int
  | 30 => .array .int
  | 31 => .array .int
  | _ => .int
theorem nmX7 : ∀ a, a < 33 → ∀ b, b < 33 → a ≠ b → (TX7 a).2.1 ≠ (TX7 b).2.1 := by decide +kernel
theorem tyX7_ok : ∀ k, k < 33 → parseFieldDescriptor (TX7 k).2.2.1 = some (tyX7 k) := by decide +kernel
abbrev cX7_init : ByteArray := prog_9_method_1_code
def yX7_init : MethodName := ⟨RX7, "<init>", "()V"⟩
abbrev cX7_in : ByteArray := prog_9_method_2_code
def yX7_in : MethodName := ⟨RX7, "in", "(III)Z"⟩
abbrev cX7_within : ByteArray := prog_9_method_3_code
def yX7_within : MethodName := ⟨RX7, "within", "(III)I"⟩
abbrev cX7_copyAll : ByteArray := prog_9_method_4_code
def yX7_copyAll : MethodName := ⟨RX7, "copyAll", "([I[I)V"⟩
abbrev cX7_bits : ByteArray := prog_9_method_5_code
def yX7_bits : MethodName := ⟨RX7, "bits", "(I)I"⟩
abbrev cX7_isSaying : ByteArray := prog_9_method_6_code
def yX7_isSaying : MethodName := ⟨RX7, "isSaying", "(I)Z"⟩
abbrev cX7_isCorner : ByteArray := prog_9_method_7_code
def yX7_isCorner : MethodName := ⟨RX7, "isCorner", "(I)Z"⟩
abbrev cX7_of : ByteArray := prog_9_method_8_code
def yX7_of : MethodName := ⟨RX7, "of", "(II)I"⟩
abbrev cX7_put : ByteArray := prog_9_method_9_code
def yX7_put : MethodName := ⟨RX7, "put", "(III)V"⟩
abbrev cX7_swaps : ByteArray := prog_9_method_10_code
def yX7_swaps : MethodName := ⟨RX7, "swaps", "(II)I"⟩
abbrev cX7_off : ByteArray := prog_9_method_11_code
def yX7_off : MethodName := ⟨RX7, "off", "(I)I"⟩
abbrev cX7_saidIn : ByteArray := prog_9_method_12_code
def yX7_saidIn : MethodName := ⟨RX7, "saidIn", "(I)I"⟩
abbrev cX7_plainBloom : ByteArray := prog_9_method_13_code
def yX7_plainBloom : MethodName := ⟨RX7, "plainBloom", "(I)I"⟩
abbrev cX7_fellows : ByteArray := prog_9_method_14_code
def yX7_fellows : MethodName := ⟨RX7, "fellows", "(III)I"⟩
abbrev cX7_gathers : ByteArray := prog_9_method_15_code
def yX7_gathers : MethodName := ⟨RX7, "gathers", "(I)I"⟩
abbrev cX7_draws : ByteArray := prog_9_method_16_code
def yX7_draws : MethodName := ⟨RX7, "draws", "(I)I"⟩
abbrev cX7_worthOf : ByteArray := prog_9_method_17_code
def yX7_worthOf : MethodName := ⟨RX7, "worthOf", "(I)I"⟩
abbrev cX7_comes : ByteArray := prog_9_method_18_code
def yX7_comes : MethodName := ⟨RX7, "comes", "(IIII)I"⟩
abbrev cX7_saying : ByteArray := prog_9_method_19_code
def yX7_saying : MethodName := ⟨RX7, "saying", "(III)I"⟩
abbrev cX7_told : ByteArray := prog_9_method_20_code
def yX7_told : MethodName := ⟨RX7, "told", "(II)I"⟩
abbrev cX7_isUnder : ByteArray := prog_9_method_21_code
def yX7_isUnder : MethodName := ⟨RX7, "isUnder", "(II)Z"⟩
abbrev cX7_as : ByteArray := prog_9_method_22_code
def yX7_as : MethodName := ⟨RX7, "as", "(II)I"⟩
abbrev cX7_turns : ByteArray := prog_9_method_23_code
def yX7_turns : MethodName := ⟨RX7, "turns", "(II)I"⟩
abbrev cX7_set : ByteArray := prog_9_method_24_code
def yX7_set : MethodName := ⟨RX7, "set", "(III)I"⟩
abbrev cX7_moves : ByteArray := prog_9_method_25_code
def yX7_moves : MethodName := ⟨RX7, "moves", "(II)I"⟩
abbrev cX7_goesOver : ByteArray := prog_9_method_26_code
def yX7_goesOver : MethodName := ⟨RX7, "goesOver", "(I)I"⟩
abbrev cX7_dusts : ByteArray := prog_9_method_27_code
def yX7_dusts : MethodName := ⟨RX7, "dusts", "(I)I"⟩
abbrev cX7_heed : ByteArray := prog_9_method_28_code
def yX7_heed : MethodName := ⟨RX7, "heed", "(II)I"⟩
abbrev cX7_buriedOnes : ByteArray := prog_9_method_29_code
def yX7_buriedOnes : MethodName := ⟨RX7, "buriedOnes", "()I"⟩
abbrev cX7_drawn : ByteArray := prog_9_method_30_code
def yX7_drawn : MethodName := ⟨RX7, "drawn", "(I)I"⟩
abbrev cX7_worthIn : ByteArray := prog_9_method_31_code
def yX7_worthIn : MethodName := ⟨RX7, "worthIn", "(I)I"⟩
abbrev cX7_cornerOf : ByteArray := prog_9_method_32_code
def yX7_cornerOf : MethodName := ⟨RX7, "cornerOf", "(II)I"⟩
abbrev cX7_kicks : ByteArray := prog_9_method_33_code
def yX7_kicks : MethodName := ⟨RX7, "kicks", "(I)I"⟩
abbrev cX7_draw : ByteArray := prog_9_method_34_code
def yX7_draw : MethodName := ⟨RX7, "draw", "()I"⟩
abbrev cX7_deal : ByteArray := prog_9_method_35_code
def yX7_deal : MethodName := ⟨RX7, "deal", "(I)I"⟩
abbrev cX7_seed : ByteArray := prog_9_method_36_code
def yX7_seed : MethodName := ⟨RX7, "seed", "(I)I"⟩
abbrev cX7_dustiest : ByteArray := prog_9_method_37_code
def yX7_dustiest : MethodName := ⟨RX7, "dustiest", "(I)I"⟩
abbrev cX7_maid : ByteArray := prog_9_method_38_code
def yX7_maid : MethodName := ⟨RX7, "maid", "()I"⟩
abbrev cX7_evening : ByteArray := prog_9_method_39_code
def yX7_evening : MethodName := ⟨RX7, "evening", "()V"⟩
abbrev cX7_goesOn : ByteArray := prog_9_method_40_code
def yX7_goesOn : MethodName := ⟨RX7, "goesOn", "(I)V"⟩
abbrev cX7_evenings : ByteArray := prog_9_method_41_code
def yX7_evenings : MethodName := ⟨RX7, "evenings", "(I)I"⟩
abbrev cX7_allDust : ByteArray := prog_9_method_42_code
def yX7_allDust : MethodName := ⟨RX7, "allDust", "()I"⟩
abbrev cX7_peopled : ByteArray := prog_9_method_43_code
def yX7_peopled : MethodName := ⟨RX7, "peopled", "()I"⟩
abbrev cX7_deafest : ByteArray := prog_9_method_44_code
def yX7_deafest : MethodName := ⟨RX7, "deafest", "()I"⟩
abbrev cX7_allHeed : ByteArray := prog_9_method_45_code
def yX7_allHeed : MethodName := ⟨RX7, "allHeed", "()I"⟩
abbrev cX7_room : ByteArray := prog_9_method_46_code
def yX7_room : MethodName := ⟨RX7, "room", "(I)I"⟩
abbrev cX7_thinks : ByteArray := prog_9_method_47_code
def yX7_thinks : MethodName := ⟨RX7, "thinks", "()V"⟩
abbrev cX7_putsBack : ByteArray := prog_9_method_48_code
def yX7_putsBack : MethodName := ⟨RX7, "putsBack", "()V"⟩
abbrev cX7_behind : ByteArray := prog_9_method_49_code
def yX7_behind : MethodName := ⟨RX7, "behind", "(II)I"⟩
abbrev cX7_sinks : ByteArray := prog_9_method_50_code
def yX7_sinks : MethodName := ⟨RX7, "sinks", "(I)I"⟩
abbrev cX7_hears : ByteArray := prog_9_method_51_code
def yX7_hears : MethodName := ⟨RX7, "hears", "(II)I"⟩
abbrev cX7_isBright : ByteArray := prog_9_method_52_code
def yX7_isBright : MethodName := ⟨RX7, "isBright", "(II)Z"⟩
abbrev cX7_shine : ByteArray := prog_9_method_53_code
def yX7_shine : MethodName := ⟨RX7, "shine", "(I)I"⟩
abbrev cX7_dustOn : ByteArray := prog_9_method_54_code
def yX7_dustOn : MethodName := ⟨RX7, "dustOn", "(II)I"⟩
abbrev cX7_edge : ByteArray := prog_9_method_55_code
def yX7_edge : MethodName := ⟨RX7, "edge", "(III)I"⟩
abbrev cX7_place : ByteArray := prog_9_method_56_code
def yX7_place : MethodName := ⟨RX7, "place", "(III)I"⟩
abbrev cX7_becomes : ByteArray := prog_9_method_57_code
def yX7_becomes : MethodName := ⟨RX7, "becomes", "(III)I"⟩
abbrev cX7_like : ByteArray := prog_9_method_58_code
def yX7_like : MethodName := ⟨RX7, "like", "(II)I"⟩
abbrev cX7_fee : ByteArray := prog_9_method_59_code
def yX7_fee : MethodName := ⟨RX7, "fee", "()I"⟩
abbrev cX7_fine : ByteArray := prog_9_method_60_code
def yX7_fine : MethodName := ⟨RX7, "fine", "(I)I"⟩
abbrev cX7_feed : ByteArray := prog_9_method_61_code
def yX7_feed : MethodName := ⟨RX7, "feed", "(III)I"⟩
abbrev cX7_trim : ByteArray := prog_9_method_62_code
def yX7_trim : MethodName := ⟨RX7, "trim", "(I)I"⟩
abbrev cX7_isLetter : ByteArray := prog_9_method_63_code
def yX7_isLetter : MethodName := ⟨RX7, "isLetter", "(I)Z"⟩
abbrev cX7_isFigure : ByteArray := prog_9_method_64_code
def yX7_isFigure : MethodName := ⟨RX7, "isFigure", "(I)Z"⟩
abbrev cX7_go : ByteArray := prog_9_method_65_code
def yX7_go : MethodName := ⟨RX7, "go", "()V"⟩
abbrev cX7_takesKey : ByteArray := prog_9_method_66_code
def yX7_takesKey : MethodName := ⟨RX7, "takesKey", "()Z"⟩
abbrev cX7_nameOf : ByteArray := prog_9_method_67_code
def yX7_nameOf : MethodName := ⟨RX7, "nameOf", "(I)I"⟩
abbrev cX7_rank : ByteArray := prog_9_method_68_code
def yX7_rank : MethodName := ⟨RX7, "rank", "(I)I"⟩
abbrev cX7_settle : ByteArray := prog_9_method_69_code
def yX7_settle : MethodName := ⟨RX7, "settle", "(I)V"⟩
abbrev cX7_signHere : ByteArray := prog_9_method_70_code
def yX7_signHere : MethodName := ⟨RX7, "signHere", "()I"⟩
abbrev cX7_takesPart : ByteArray := prog_9_method_71_code
def yX7_takesPart : MethodName := ⟨RX7, "takesPart", "()Z"⟩
abbrev cX7_takesE : ByteArray := prog_9_method_72_code
def yX7_takesE : MethodName := ⟨RX7, "takesE", "()Z"⟩
abbrev cX7_notsOpen : ByteArray := prog_9_method_73_code
def yX7_notsOpen : MethodName := ⟨RX7, "notsOpen", "()I"⟩
abbrev cX7_text : ByteArray := prog_9_method_74_code
def yX7_text : MethodName := ⟨RX7, "text", "()I"⟩
abbrev cX7_textTold : ByteArray := prog_9_method_75_code
def yX7_textTold : MethodName := ⟨RX7, "textTold", "(II)I"⟩
abbrev cX7_counts : ByteArray := prog_9_method_76_code
def yX7_counts : MethodName := ⟨RX7, "counts", "(I)I"⟩
abbrev cX7_why : ByteArray := prog_9_method_77_code
def yX7_why : MethodName := ⟨RX7, "why", "(I)I"⟩
abbrev cX7_two : ByteArray := prog_9_method_78_code
def yX7_two : MethodName := ⟨RX7, "two", "(III)I"⟩
abbrev cX7_worksOut : ByteArray := prog_9_method_79_code
def yX7_worksOut : MethodName := ⟨RX7, "worksOut", "(I)I"⟩
abbrev cX7_isSheet : ByteArray := prog_9_method_80_code
def yX7_isSheet : MethodName := ⟨RX7, "isSheet", "(I)Z"⟩
abbrev cX7_isSlot : ByteArray := prog_9_method_81_code
def yX7_isSlot : MethodName := ⟨RX7, "isSlot", "(I)Z"⟩
abbrev cX7_sheet : ByteArray := prog_9_method_82_code
def yX7_sheet : MethodName := ⟨RX7, "sheet", "(III)I"⟩
abbrev cX7_mark : ByteArray := prog_9_method_83_code
def yX7_mark : MethodName := ⟨RX7, "mark", "(III)I"⟩
abbrev cX7_pour : ByteArray := prog_9_method_84_code
def yX7_pour : MethodName := ⟨RX7, "pour", "(I)I"⟩
abbrev cX7_reads : ByteArray := prog_9_method_85_code
def yX7_reads : MethodName := ⟨RX7, "reads", "(I)I"⟩
abbrev cX7_copy : ByteArray := prog_9_method_86_code
def yX7_copy : MethodName := ⟨RX7, "copy", "(IIIII)I"⟩
abbrev cX7_lay : ByteArray := prog_9_method_87_code
def yX7_lay : MethodName := ⟨RX7, "lay", "(III)I"⟩
abbrev cX7_ask : ByteArray := prog_9_method_88_code
def yX7_ask : MethodName := ⟨RX7, "ask", "(II)I"⟩
abbrev cX7_item : ByteArray := prog_9_method_89_code
def yX7_item : MethodName := ⟨RX7, "item", "(II)I"⟩
abbrev cX7_rest : ByteArray := prog_9_method_90_code
def yX7_rest : MethodName := ⟨RX7, "rest", "(II)I"⟩
abbrev cX7_tell : ByteArray := prog_9_method_91_code
def yX7_tell : MethodName := ⟨RX7, "tell", "(I)I"⟩
abbrev cX7_check : ByteArray := prog_9_method_92_code
def yX7_check : MethodName := ⟨RX7, "check", "(I)I"⟩
abbrev cX7_keep : ByteArray := prog_9_method_93_code
def yX7_keep : MethodName := ⟨RX7, "keep", "()I"⟩
abbrev cX7_back : ByteArray := prog_9_method_94_code
def yX7_back : MethodName := ⟨RX7, "back", "()I"⟩
abbrev cX7_count : ByteArray := prog_9_method_95_code
def yX7_count : MethodName := ⟨RX7, "count", "(I)I"⟩
def RJ6 : String := "java/lang/Integer"
abbrev cJ6_bitCount_0f7a4 : ByteArray := prog_11_method_49_code
def yJ6_bitCount_0f7a4 : MethodName := ⟨RJ6, "bitCount", "(I)I"⟩
def RJ9 : String := "java/lang/Math"
abbrev cJ9_abs_0f7a4 : ByteArray := prog_12_method_59_code
def yJ9_abs_0f7a4 : MethodName := ⟨RJ9, "abs", "(I)I"⟩
abbrev cJ9_max_7cf53 : ByteArray := prog_12_method_65_code
def yJ9_max_7cf53 : MethodName := ⟨RJ9, "max", "(II)I"⟩
abbrev cJ9_min_7cf53 : ByteArray := prog_12_method_69_code
def yJ9_min_7cf53 : MethodName := ⟨RJ9, "min", "(II)I"⟩
def RJ0 : String := "java/lang/String"
abbrev cJ0_length_8abf5 : ByteArray := prog_13_method_54_code
def yJ0_length_8abf5 : MethodName := ⟨RJ0, "length", "()I"⟩
abbrev cJ0_charAt_5068e : ByteArray := prog_13_method_56_code
def yJ0_charAt_5068e : MethodName := ⟨RJ0, "charAt", "(I)C"⟩
abbrev cJ0_indexOf_0f7a4 : ByteArray := prog_13_method_79_code
def yJ0_indexOf_0f7a4 : MethodName := ⟨RJ0, "indexOf", "(I)I"⟩
abbrev cJ0_indexOf_7cf53 : ByteArray := prog_13_method_80_code
def yJ0_indexOf_7cf53 : MethodName := ⟨RJ0, "indexOf", "(II)I"⟩
abbrev cJ0_coder_7d493 : ByteArray := prog_13_method_152_code
def yJ0_coder_7d493 : MethodName := ⟨RJ0, "coder", "()B"⟩
abbrev cJ0_isLatin1_aae02 : ByteArray := prog_13_method_154_code
def yJ0_isLatin1_aae02 : MethodName := ⟨RJ0, "isLatin1", "()Z"⟩
abbrev cJ0_checkIndex_df160 : ByteArray := prog_13_method_155_code
def yJ0_checkIndex_df160 : MethodName := ⟨RJ0, "checkIndex", "(II)V"⟩
abbrev cJ0_checkBoundsBeginEnd_23922 : ByteArray := prog_13_method_158_code
def yJ0_checkBoundsBeginEnd_23922 : MethodName := ⟨RJ0, "checkBoundsBeginEnd", "(III)V"⟩
def RJ1 : String := "java/lang/StringLatin1"
abbrev cJ1_charAt_3b067 : ByteArray := prog_14_method_2_code
def yJ1_charAt_3b067 : MethodName := ⟨RJ1, "charAt", "([BI)C"⟩
abbrev cJ1_canEncode_9a6ad : ByteArray := prog_14_method_4_code
def yJ1_canEncode_9a6ad : MethodName := ⟨RJ1, "canEncode", "(I)Z"⟩
abbrev cJ1_indexOf_4cfef : ByteArray := prog_14_method_22_code
def yJ1_indexOf_4cfef : MethodName := ⟨RJ1, "indexOf", "([BIII)I"⟩
abbrev cJ1_indexOfChar_4cfef : ByteArray := prog_14_method_23_code
def yJ1_indexOfChar_4cfef : MethodName := ⟨RJ1, "indexOfChar", "([BIII)I"⟩
def RJ3 : String := "jdk/internal/util/Preconditions"
abbrev cJ3_checkIndex_8e157 : ByteArray := prog_17_method_11_code
def yJ3_checkIndex_8e157 : MethodName := ⟨RJ3, "checkIndex", "(IILjava/util/function/BiFunction;)I"⟩
abbrev cJ3_checkFromToIndex_8c36e : ByteArray := prog_17_method_12_code
def yJ3_checkFromToIndex_8c36e : MethodName := ⟨RJ3, "checkFromToIndex", "(IIILjava/util/function/BiFunction;)I"⟩
def RL : String := "DustySayingsLaw"
end
section
/-! THE ABSTRACT MACHINE'S TABLES: methods, links, constants: written by wip/tools/gen_names.py out of the printed claim -/
/-- (name, bytes, locals, what it returns, number of its class, parameters) -/
def ab_ms0 : List (MethodName × Nat × Option FieldType × Nat × Nat) := [(yX0_isKind, 1, (some .boolean), 0, 1), (yX0_isUnder, 2, (some .boolean), 0, 2), (yX0_worth, 4, (some .int), 0, 3), (yX1_init, 1, none, 1, 0), (yX1_namesOf, 1, (some (.object "java/lang/String")), 1, 1), (yX1_wordOf, 1, (some (.object "java/lang/String")), 1, 1), (yX1_write, 3, none, 1, 2), (yX1_name, 5, none, 1, 4), (yX1_value, 6, (some .int), 1, 1), (yX1_leaf, 3, (some .int), 1, 1), (yX1_join, 3, (some .int), 1, 3), (yX1_truth, 1, (some .int), 1, 1), (yX2_init, 3, none, 2, 1), (yX2_isCorner, 1, (some .boolean), 2, 1), (yX2_held, 1, (some .int), 2, 1), (yX2_become, 2, none, 2, 1), (yX2_has, 2, (some .boolean), 2, 1), (yX2_isFull, 1, (some .boolean), 2, 0), (yX2_isBuried, 2, (some .boolean), 2, 1), (yX2_add, 5, (some .int), 2, 4), (yX2_addByLot, 5, none, 2, 0), (yX2_draw, 1, (some .int), 2, 0), (yX2_goOver, 2, none, 2, 1), (yX2_brighten, 3, none, 2, 1), (yX2_passEvenings, 3, none, 2, 1), (yX2_passEvening, 3, none, 2, 0), (yX2_dustiestIn, 7, (some .int), 2, 1), (yX2_kickByChance, 4, none, 2, 0), (yX2_gathers, 2, (some .int), 2, 1), (yX2_quipGathers, 2, (some .int), 2, 1), (yX2_plainBloom, 4, (some .int), 2, 1), (yX2_othersBeside, 5, (some .int), 2, 2), (yX2_draws, 3, (some .int), 2, 1), (yX2_worth, 2, (some .int), 2, 1), (yX2_sayingsIn, 4, (some .int), 2, 1), (yX2_worthIn, 4, (some .int), 2, 1), (yX2_drawnIn, 4, (some .int), 2, 1), (yX2_buried, 3, (some .int), 2, 0), (yX2_cornersWithSayings, 3, (some .int), 2, 0), (yX2_deafest, 3, (some .int), 2, 0)]
def ab_ms1 : List (MethodName × Nat × Option FieldType × Nat × Nat) := [(yX2_allDust, 3, (some .int), 2, 0), (yX2_allHeed, 3, (some .int), 2, 0), (yX2_feeGiven, 2, (some .int), 2, 0), (yX2_fineGiven, 3, (some .int), 2, 1), (yX3_init, 1, none, 3, 0), (yX3_begin, 4, none, 3, 2), (yX3_become, 2, none, 3, 1), (yX3_isMissing, 1, (some .boolean), 3, 0), (yX3_has, 2, (some .boolean), 3, 1), (yX3_hasRun, 3, (some .boolean), 3, 2), (yX3_isNumber, 2, (some .boolean), 3, 1), (yX4_init, 1, none, 4, 0), (yX4_holdSaying, 4, none, 4, 3), (yX5_init, 1, none, 5, 0), (yX5_hasRoom, 2, (some .boolean), 5, 1), (yX5_add, 3, none, 5, 1), (yX5_isText, 1, (some .boolean), 5, 0), (yX5_pass, 5, none, 5, 0), (yX5_sortAt, 3, (some .int), 5, 1), (yX5_isSignOf, 2, (some .boolean), 5, 1), (yX5_readKey, 2, (some .boolean), 5, 0), (yX5_isWord, 3, (some .boolean), 5, 1), (yX5_signsOf, 1, (some (.object "java/lang/String")), 5, 1), (yX5_readJoined, 8, (some .boolean), 5, 3), (yX5_readPiece, 4, (some .boolean), 5, 2), (yX5_readClosing, 1, (some .boolean), 5, 0), (yX5_readNumber, 3, (some .boolean), 5, 0), (yX5_readName, 2, (some .boolean), 5, 0), (yX5_writeLeaf, 2, none, 5, 1), (yX5_write, 2, none, 5, 1), (yX6_init, 2, none, 6, 0), (yX6_saying, 4, (some .int), 6, 3), (yX6_told, 3, (some .int), 6, 2), (yX6_as, 3, (some .int), 6, 2), (yX6_turns, 4, (some .int), 6, 2), (yX6_set, 6, (some .int), 6, 3), (yX6_moves, 4, (some .int), 6, 2), (yX6_dusts, 3, (some .int), 6, 1), (yX6_heed, 4, (some .int), 6, 2), (yX6_cornerOf, 3, (some .int), 6, 2)]
def ab_ms2 : List (MethodName × Nat × Option FieldType × Nat × Nat) := [(yX6_kicks, 3, (some .int), 6, 1), (yX6_deal, 4, (some .int), 6, 1), (yX6_seed, 3, (some .int), 6, 1), (yX6_evenings, 4, (some .int), 6, 1), (yX6_room, 2, (some .int), 6, 1), (yX6_behind, 3, (some .int), 6, 2), (yX6_sinks, 3, (some .int), 6, 1), (yX6_hears, 4, (some .int), 6, 2), (yX6_shine, 5, (some .int), 6, 1), (yX6_isEnoughShine, 3, (some .boolean), 6, 2), (yX6_edge, 5, (some .int), 6, 3), (yX6_place, 7, (some .int), 6, 3), (yX6_becomes, 7, (some .int), 6, 3), (yX6_like, 5, (some .int), 6, 2), (yX6_gatherDifferences, 4, none, 6, 1), (yX6_fee, 1, (some .int), 6, 0), (yX6_fine, 2, (some .int), 6, 1), (yX6_feed, 4, (some .int), 6, 3), (yX6_trim, 2, (some .int), 6, 1), (yX6_text, 2, (some .int), 6, 0), (yX6_textTold, 3, (some .int), 6, 2), (yX6_why, 2, (some .int), 6, 1), (yX6_sheet, 4, (some .int), 6, 3), (yX6_mark, 5, (some .int), 6, 3), (yX6_pour, 6, (some .int), 6, 1), (yX6_reads, 5, (some .int), 6, 1), (yX6_copy, 8, (some .int), 6, 5), (yX6_lay, 6, (some .int), 6, 3), (yX6_ask, 4, (some .int), 6, 2), (yX6_item, 4, (some .int), 6, 2), (yX6_rest, 4, (some .int), 6, 2), (yX6_tell, 2, (some .int), 6, 1), (yX6_check, 5, (some .int), 6, 1), (yX6_keep, 1, (some .int), 6, 0), (yX6_back, 1, (some .int), 6, 0), (yX6_count, 2, (some .int), 6, 1), (yX6_isWithin, 3, (some .boolean), 6, 3), (yX6_isSheet, 1, (some .boolean), 6, 1), (yX6_isSlot, 1, (some .boolean), 6, 1), (yX7_init, 2, none, 7, 0)]
def ab_ms3 : List (MethodName × Nat × Option FieldType × Nat × Nat) := [(yX7_in, 3, (some .boolean), 7, 3), (yX7_within, 3, (some .int), 7, 3), (yX7_copyAll, 3, none, 7, 2), (yX7_bits, 3, (some .int), 7, 1), (yX7_isSaying, 2, (some .boolean), 7, 1), (yX7_isCorner, 1, (some .boolean), 7, 1), (yX7_of, 3, (some .int), 7, 2), (yX7_put, 4, none, 7, 3), (yX7_swaps, 4, (some .int), 7, 2), (yX7_off, 1, (some .int), 7, 1), (yX7_saidIn, 4, (some .int), 7, 1), (yX7_plainBloom, 4, (some .int), 7, 1), (yX7_fellows, 7, (some .int), 7, 3), (yX7_gathers, 4, (some .int), 7, 1), (yX7_draws, 3, (some .int), 7, 1), (yX7_worthOf, 3, (some .int), 7, 1), (yX7_comes, 6, (some .int), 7, 4), (yX7_saying, 4, (some .int), 7, 3), (yX7_told, 3, (some .int), 7, 2), (yX7_isUnder, 2, (some .boolean), 7, 2), (yX7_as, 3, (some .int), 7, 2), (yX7_turns, 3, (some .int), 7, 2), (yX7_set, 4, (some .int), 7, 3), (yX7_moves, 3, (some .int), 7, 2), (yX7_goesOver, 3, (some .int), 7, 1), (yX7_dusts, 2, (some .int), 7, 1), (yX7_heed, 3, (some .int), 7, 2), (yX7_buriedOnes, 3, (some .int), 7, 0), (yX7_drawn, 5, (some .int), 7, 1), (yX7_worthIn, 5, (some .int), 7, 1), (yX7_cornerOf, 3, (some .int), 7, 2), (yX7_kicks, 2, (some .int), 7, 1), (yX7_draw, 1, (some .int), 7, 0), (yX7_deal, 7, (some .int), 7, 1), (yX7_seed, 2, (some .int), 7, 1), (yX7_dustiest, 4, (some .int), 7, 1), (yX7_maid, 5, (some .int), 7, 0), (yX7_evening, 5, none, 7, 0), (yX7_goesOn, 3, none, 7, 1), (yX7_evenings, 3, (some .int), 7, 1)]
def ab_ms4 : List (MethodName × Nat × Option FieldType × Nat × Nat) := [(yX7_allDust, 3, (some .int), 7, 0), (yX7_peopled, 3, (some .int), 7, 0), (yX7_deafest, 3, (some .int), 7, 0), (yX7_allHeed, 3, (some .int), 7, 0), (yX7_room, 2, (some .int), 7, 1), (yX7_thinks, 1, none, 7, 0), (yX7_putsBack, 1, none, 7, 0), (yX7_behind, 4, (some .int), 7, 2), (yX7_sinks, 3, (some .int), 7, 1), (yX7_hears, 4, (some .int), 7, 2), (yX7_isBright, 5, (some .boolean), 7, 2), (yX7_shine, 5, (some .int), 7, 1), (yX7_dustOn, 4, (some .int), 7, 2), (yX7_edge, 5, (some .int), 7, 3), (yX7_place, 8, (some .int), 7, 3), (yX7_becomes, 8, (some .int), 7, 3), (yX7_like, 7, (some .int), 7, 2), (yX7_fee, 2, (some .int), 7, 0), (yX7_fine, 3, (some .int), 7, 1), (yX7_feed, 6, (some .int), 7, 3), (yX7_trim, 2, (some .int), 7, 1), (yX7_isLetter, 2, (some .boolean), 7, 1), (yX7_isFigure, 2, (some .boolean), 7, 1), (yX7_go, 2, none, 7, 0), (yX7_takesKey, 5, (some .boolean), 7, 0), (yX7_nameOf, 2, (some .int), 7, 1), (yX7_rank, 1, (some .int), 7, 1), (yX7_settle, 2, none, 7, 1), (yX7_signHere, 1, (some .int), 7, 0), (yX7_takesPart, 2, (some .boolean), 7, 0), (yX7_takesE, 5, (some .boolean), 7, 0), (yX7_notsOpen, 3, (some .int), 7, 0), (yX7_text, 4, (some .int), 7, 0), (yX7_textTold, 3, (some .int), 7, 2), (yX7_counts, 3, (some .int), 7, 1), (yX7_why, 3, (some .int), 7, 1), (yX7_two, 3, (some .int), 7, 3), (yX7_worksOut, 6, (some .int), 7, 1), (yX7_isSheet, 1, (some .boolean), 7, 1), (yX7_isSlot, 1, (some .boolean), 7, 1)]
def ab_ms5 : List (MethodName × Nat × Option FieldType × Nat × Nat) := [(yX7_sheet, 5, (some .int), 7, 3), (yX7_mark, 4, (some .int), 7, 3), (yX7_pour, 6, (some .int), 7, 1), (yX7_reads, 4, (some .int), 7, 1), (yX7_copy, 7, (some .int), 7, 5), (yX7_lay, 6, (some .int), 7, 3), (yX7_ask, 3, (some .int), 7, 2), (yX7_item, 4, (some .int), 7, 2), (yX7_rest, 3, (some .int), 7, 2), (yX7_tell, 2, (some .int), 7, 1), (yX7_check, 6, (some .int), 7, 1), (yX7_keep, 1, (some .int), 7, 0), (yX7_back, 1, (some .int), 7, 0), (yX7_count, 2, (some .int), 7, 1), (yJ6_bitCount_0f7a4, 1, (some .int), 12, 1), (yJ9_abs_0f7a4, 1, (some .int), 13, 1), (yJ9_max_7cf53, 2, (some .int), 13, 2), (yJ9_min_7cf53, 2, (some .int), 13, 2), (yJ0_length_8abf5, 1, (some .int), 9, 0), (yJ0_charAt_5068e, 2, (some .char), 9, 1), (yJ0_indexOf_0f7a4, 2, (some .int), 9, 1), (yJ0_indexOf_7cf53, 3, (some .int), 9, 2), (yJ0_coder_7d493, 1, (some .byte), 9, 0), (yJ0_isLatin1_aae02, 1, (some .boolean), 9, 0), (yJ0_checkIndex_df160, 2, none, 9, 2), (yJ0_checkBoundsBeginEnd_23922, 3, none, 9, 3), (yJ1_charAt_3b067, 2, (some .char), 10, 2), (yJ1_canEncode_9a6ad, 1, (some .boolean), 10, 1), (yJ1_indexOf_4cfef, 4, (some .int), 10, 4), (yJ1_indexOfChar_4cfef, 6, (some .int), 10, 4), (yJ3_checkIndex_8e157, 3, (some .int), 11, 3), (yJ3_checkFromToIndex_8c36e, 4, (some .int), 11, 4)]
/-- the law is the last -/
def ab_msL : List (MethodName × Nat × Option FieldType × Nat × Nat) := [(x, 4, (some .boolean), 8, 1)]
def ab_ms : List (MethodName × Nat × Option FieldType × Nat × Nat) := ab_ms0 ++ (ab_ms1 ++ (ab_ms2 ++ (ab_ms3 ++ (ab_ms4 ++ (ab_ms5 ++ (ab_msL))))))
abbrev m_X0_isKind : Nat := 0
abbrev m_X0_isUnder : Nat := 1
abbrev m_X0_worth : Nat := 2
abbrev m_X1_init : Nat := 3
abbrev m_X1_namesOf : Nat := 4
abbrev m_X1_wordOf : Nat := 5
abbrev m_X1_write : Nat := 6
abbrev m_X1_name : Nat := 7
abbrev m_X1_value : Nat := 8
abbrev m_X1_leaf : Nat := 9
abbrev m_X1_join : Nat := 10
abbrev m_X1_truth : Nat := 11
abbrev m_X2_init : Nat := 12
abbrev m_X2_isCorner : Nat := 13
abbrev m_X2_held : Nat := 14
abbrev m_X2_become : Nat := 15
abbrev m_X2_has : Nat := 16
abbrev m_X2_isFull : Nat := 17
abbrev m_X2_isBuried : Nat := 18
abbrev m_X2_add : Nat := 19
abbrev m_X2_addByLot : Nat := 20
abbrev m_X2_draw : Nat := 21
abbrev m_X2_goOver : Nat := 22
abbrev m_X2_brighten : Nat := 23
abbrev m_X2_passEvenings : Nat := 24
abbrev m_X2_passEvening : Nat := 25
abbrev m_X2_dustiestIn : Nat := 26
abbrev m_X2_kickByChance : Nat := 27
abbrev m_X2_gathers : Nat := 28
abbrev m_X2_quipGathers : Nat := 29
abbrev m_X2_plainBloom : Nat := 30
abbrev m_X2_othersBeside : Nat := 31
abbrev m_X2_draws : Nat := 32
abbrev m_X2_worth : Nat := 33
abbrev m_X2_sayingsIn : Nat := 34
abbrev m_X2_worthIn : Nat := 35
abbrev m_X2_drawnIn : Nat := 36
abbrev m_X2_buried : Nat := 37
abbrev m_X2_cornersWithSayings : Nat := 38
abbrev m_X2_deafest : Nat := 39
abbrev m_X2_allDust : Nat := 40
abbrev m_X2_allHeed : Nat := 41
abbrev m_X2_feeGiven : Nat := 42
abbrev m_X2_fineGiven : Nat := 43
abbrev m_X3_init : Nat := 44
abbrev m_X3_begin : Nat := 45
abbrev m_X3_become : Nat := 46
abbrev m_X3_isMissing : Nat := 47
abbrev m_X3_has : Nat := 48
abbrev m_X3_hasRun : Nat := 49
abbrev m_X3_isNumber : Nat := 50
abbrev m_X4_init : Nat := 51
abbrev m_X4_holdSaying : Nat := 52
abbrev m_X5_init : Nat := 53
abbrev m_X5_hasRoom : Nat := 54
abbrev m_X5_add : Nat := 55
abbrev m_X5_isText : Nat := 56
abbrev m_X5_pass : Nat := 57
abbrev m_X5_sortAt : Nat := 58
abbrev m_X5_isSignOf : Nat := 59
abbrev m_X5_readKey : Nat := 60
abbrev m_X5_isWord : Nat := 61
abbrev m_X5_signsOf : Nat := 62
abbrev m_X5_readJoined : Nat := 63
abbrev m_X5_readPiece : Nat := 64
abbrev m_X5_readClosing : Nat := 65
abbrev m_X5_readNumber : Nat := 66
abbrev m_X5_readName : Nat := 67
abbrev m_X5_writeLeaf : Nat := 68
abbrev m_X5_write : Nat := 69
abbrev m_X6_init : Nat := 70
abbrev m_X6_saying : Nat := 71
abbrev m_X6_told : Nat := 72
abbrev m_X6_as : Nat := 73
abbrev m_X6_turns : Nat := 74
abbrev m_X6_set : Nat := 75
abbrev m_X6_moves : Nat := 76
abbrev m_X6_dusts : Nat := 77
abbrev m_X6_heed : Nat := 78
abbrev m_X6_cornerOf : Nat := 79
abbrev m_X6_kicks : Nat := 80
abbrev m_X6_deal : Nat := 81
abbrev m_X6_seed : Nat := 82
abbrev m_X6_evenings : Nat := 83
abbrev m_X6_room : Nat := 84
abbrev m_X6_behind : Nat := 85
abbrev m_X6_sinks : Nat := 86
abbrev m_X6_hears : Nat := 87
abbrev m_X6_shine : Nat := 88
abbrev m_X6_isEnoughShine : Nat := 89
abbrev m_X6_edge : Nat := 90
abbrev m_X6_place : Nat := 91
abbrev m_X6_becomes : Nat := 92
abbrev m_X6_like : Nat := 93
abbrev m_X6_gatherDifferences : Nat := 94
abbrev m_X6_fee : Nat := 95
abbrev m_X6_fine : Nat := 96
abbrev m_X6_feed : Nat := 97
abbrev m_X6_trim : Nat := 98
abbrev m_X6_text : Nat := 99
abbrev m_X6_textTold : Nat := 100
abbrev m_X6_why : Nat := 101
abbrev m_X6_sheet : Nat := 102
abbrev m_X6_mark : Nat := 103
abbrev m_X6_pour : Nat := 104
abbrev m_X6_reads : Nat := 105
abbrev m_X6_copy : Nat := 106
abbrev m_X6_lay : Nat := 107
abbrev m_X6_ask : Nat := 108
abbrev m_X6_item : Nat := 109
abbrev m_X6_rest : Nat := 110
abbrev m_X6_tell : Nat := 111
abbrev m_X6_check : Nat := 112
abbrev m_X6_keep : Nat := 113
abbrev m_X6_back : Nat := 114
abbrev m_X6_count : Nat := 115
abbrev m_X6_isWithin : Nat := 116
abbrev m_X6_isSheet : Nat := 117
abbrev m_X6_isSlot : Nat := 118
abbrev m_X7_init : Nat := 119
abbrev m_X7_in : Nat := 120
abbrev m_X7_within : Nat := 121
abbrev m_X7_copyAll : Nat := 122
abbrev m_X7_bits : Nat := 123
abbrev m_X7_isSaying : Nat := 124
abbrev m_X7_isCorner : Nat := 125
abbrev m_X7_of : Nat := 126
abbrev m_X7_put : Nat := 127
abbrev m_X7_swaps : Nat := 128
abbrev m_X7_off : Nat := 129
abbrev m_X7_saidIn : Nat := 130
abbrev m_X7_plainBloom : Nat := 131
abbrev m_X7_fellows : Nat := 132
abbrev m_X7_gathers : Nat := 133
abbrev m_X7_draws : Nat := 134
abbrev m_X7_worthOf : Nat := 135
abbrev m_X7_comes : Nat := 136
abbrev m_X7_saying : Nat := 137
abbrev m_X7_told : Nat := 138
abbrev m_X7_isUnder : Nat := 139
abbrev m_X7_as : Nat := 140
abbrev m_X7_turns : Nat := 141
abbrev m_X7_set : Nat := 142
abbrev m_X7_moves : Nat := 143
abbrev m_X7_goesOver : Nat := 144
abbrev m_X7_dusts : Nat := 145
abbrev m_X7_heed : Nat := 146
abbrev m_X7_buriedOnes : Nat := 147
abbrev m_X7_drawn : Nat := 148
abbrev m_X7_worthIn : Nat := 149
abbrev m_X7_cornerOf : Nat := 150
abbrev m_X7_kicks : Nat := 151
abbrev m_X7_draw : Nat := 152
abbrev m_X7_deal : Nat := 153
abbrev m_X7_seed : Nat := 154
abbrev m_X7_dustiest : Nat := 155
abbrev m_X7_maid : Nat := 156
abbrev m_X7_evening : Nat := 157
abbrev m_X7_goesOn : Nat := 158
abbrev m_X7_evenings : Nat := 159
abbrev m_X7_allDust : Nat := 160
abbrev m_X7_peopled : Nat := 161
abbrev m_X7_deafest : Nat := 162
abbrev m_X7_allHeed : Nat := 163
abbrev m_X7_room : Nat := 164
abbrev m_X7_thinks : Nat := 165
abbrev m_X7_putsBack : Nat := 166
abbrev m_X7_behind : Nat := 167
abbrev m_X7_sinks : Nat := 168
abbrev m_X7_hears : Nat := 169
abbrev m_X7_isBright : Nat := 170
abbrev m_X7_shine : Nat := 171
abbrev m_X7_dustOn : Nat := 172
abbrev m_X7_edge : Nat := 173
abbrev m_X7_place : Nat := 174
abbrev m_X7_becomes : Nat := 175
abbrev m_X7_like : Nat := 176
abbrev m_X7_fee : Nat := 177
abbrev m_X7_fine : Nat := 178
abbrev m_X7_feed : Nat := 179
abbrev m_X7_trim : Nat := 180
abbrev m_X7_isLetter : Nat := 181
abbrev m_X7_isFigure : Nat := 182
abbrev m_X7_go : Nat := 183
abbrev m_X7_takesKey : Nat := 184
abbrev m_X7_nameOf : Nat := 185
abbrev m_X7_rank : Nat := 186
abbrev m_X7_settle : Nat := 187
abbrev m_X7_signHere : Nat := 188
abbrev m_X7_takesPart : Nat := 189
abbrev m_X7_takesE : Nat := 190
abbrev m_X7_notsOpen : Nat := 191
abbrev m_X7_text : Nat := 192
abbrev m_X7_textTold : Nat := 193
abbrev m_X7_counts : Nat := 194
abbrev m_X7_why : Nat := 195
abbrev m_X7_two : Nat := 196
abbrev m_X7_worksOut : Nat := 197
abbrev m_X7_isSheet : Nat := 198
abbrev m_X7_isSlot : Nat := 199
abbrev m_X7_sheet : Nat := 200
abbrev m_X7_mark : Nat := 201
abbrev m_X7_pour : Nat := 202
abbrev m_X7_reads : Nat := 203
abbrev m_X7_copy : Nat := 204
abbrev m_X7_lay : Nat := 205
abbrev m_X7_ask : Nat := 206
abbrev m_X7_item : Nat := 207
abbrev m_X7_rest : Nat := 208
abbrev m_X7_tell : Nat := 209
abbrev m_X7_check : Nat := 210
abbrev m_X7_keep : Nat := 211
abbrev m_X7_back : Nat := 212
abbrev m_X7_count : Nat := 213
abbrev m_J6_bitCount_0f7a4 : Nat := 214
abbrev m_J9_abs_0f7a4 : Nat := 215
abbrev m_J9_max_7cf53 : Nat := 216
abbrev m_J9_min_7cf53 : Nat := 217
abbrev m_J0_length_8abf5 : Nat := 218
abbrev m_J0_charAt_5068e : Nat := 219
abbrev m_J0_indexOf_0f7a4 : Nat := 220
abbrev m_J0_indexOf_7cf53 : Nat := 221
abbrev m_J0_coder_7d493 : Nat := 222
abbrev m_J0_isLatin1_aae02 : Nat := 223
abbrev m_J0_checkIndex_df160 : Nat := 224
abbrev m_J0_checkBoundsBeginEnd_23922 : Nat := 225
abbrev m_J1_charAt_3b067 : Nat := 226
abbrev m_J1_canEncode_9a6ad : Nat := 227
abbrev m_J1_indexOf_4cfef : Nat := 228
abbrev m_J1_indexOfChar_4cfef : Nat := 229
abbrev m_J3_checkIndex_8e157 : Nat := 230
abbrev m_J3_checkFromToIndex_8c36e : Nat := 231
abbrev m_law : Nat := 232
def ab_nM : Nat := 232
/-- where each method's code stands among the tables' words -/
def ab_cp : List Nat := [314, 397, 408, 87, 740, 658, 821, 366, 370, 375, 381, 378, 117, 321, 384, 529, 340, 331, 457, 327, 476, 480, 435, 559, 536, 494, 498, 505, 344, 348, 352, 394, 401, 405, 356, 448, 462, 453, 517, 521, 513, 576, 608, 616, 226, 839, 885, 587, 848, 869, 596, 246, 881, 184, 624, 629, 641, 645, 649, 803, 655, 665, 812, 717, 721, 808, 725, 737, 729, 733, 79, 311, 336, 413, 419, 423, 427, 431, 439, 443, 467, 471, 486, 490, 509, 525, 541, 547, 551, 555, 563, 567, 572, 580, 592, 604, 612, 620, 633, 637, 827, 831, 835, 844, 856, 861, 865, 874, 890, 895, 899, 904, 908, 912, 916, 920, 317, 583, 877, 925, 1035, 1089, 1217, 1079, 1056, 1038, 1060, 1048, 1117, 1269, 1076, 1068, 1093, 1064, 1097, 1101, 1044, 1032, 1052, 1108, 1105, 1113, 1121, 1125, 1133, 1129, 1137, 1149, 1153, 1145, 1141, 1157, 1165, 1161, 1170, 1190, 1186, 1182, 1178, 1174, 1198, 1202, 1206, 1258, 1194, 1214, 1221, 1210, 1225, 1230, 1238, 1234, 1246, 1242, 1250, 1254, 1262, 1273, 1277, 1281, 1285, 1297, 1301, 1293, 1305, 1317, 1324, 1321, 1332, 1313, 1309, 1328, 1289, 1336, 1072, 1340, 1086, 1083, 1265, 1371, 1344, 1349, 1356, 1360, 1364, 1368, 1375, 1379, 1383, 1388, 1392, 1396, 1400, 1404, 359, 600, 390, 387, 669, 679, 747, 751, 673, 683, 689, 778, 686, 758, 755, 763, 694, 781]
def ab_cb (w : Cond) : ByteArray := match w with
  | .code _ b _ _ => b
  | _ => code
def ab_cd (k : Nat) : Cond := lw_tbl.getD (ab_cp.getD k 0) .tt
def ab_m (k : Nat) : MethodName × Nat × Option FieldType × Nat × Nat := ab_ms.getD k (x, 4, none, 8, 1)
def ab_Y (k : Nat) : MethodName := (ab_m k).1
def ab_B (k : Nat) : ByteArray := if k = ab_nM then code else ab_cb (ab_cd k)
def ab_mL (k : Nat) : Nat := (ab_m k).2.1
def ab_rt (k : Nat) : Option FieldType := (ab_m k).2.2.1
def ab_own (k : Nat) : Nat := (ab_m k).2.2.2.1
def ab_np (k : Nat) : Nat := (ab_m k).2.2.2.2
def ab_R (c : Nat) : String := [RX0, RX1, RX2, RX3, RX4, RX5, RX6, RX7, RL, RJ0, RJ1, RJ3, RJ6, RJ9].getD c ""
abbrev ab_cl : List vw_C := [(RX0, TX0, 0), (RX1, TX1, 6), (RX2, TX2, 15), (RX3, TX3, 3), (RX4, TX4, 6), (RX5, TX5, 9), (RX6, TX6, 11), (RX7, TX7, 33)]
def ab_T (c : Nat) : u_T := match c with
  | 0 => TX0
  | 1 => TX1
  | 2 => TX2
  | 3 => TX3
  | 4 => TX4
  | 5 => TX5
  | 6 => TX6
  | _ => TX7
def ab_ty (c : Nat) : Nat → FieldType := match c with
  | 0 => tyX0
  | 1 => tyX1
  | 2 => tyX2
  | 3 => tyX3
  | 4 => tyX4
  | 5 => tyX5
  | 6 => tyX6
  | _ => tyX7
def ab_N (c : Nat) : Nat := [0, 6, 15, 3, 6, 9, 11, 33].getD c 0
/-- own class, entry, class of the field, its place -/
def ab_flT : List (Nat × Nat × Nat × Nat) := [(1, 9, 1, 0), (6, 249, 1, 0), (1, 13, 1, 1), (6, 252, 1, 1), (1, 16, 1, 2), (1, 23, 1, 3), (1, 26, 1, 4), (1, 29, 1, 5), (2, 39, 2, 0), (2, 11, 2, 1), (6, 80, 2, 1), (2, 15, 2, 2), (6, 83, 2, 2), (2, 18, 2, 3), (6, 86, 2, 3), (2, 21, 2, 4), (6, 89, 2, 4), (2, 24, 2, 5), (6, 92, 2, 5), (2, 27, 2, 6), (6, 114, 2, 6), (2, 32, 2, 7), (6, 243, 2, 7), (2, 63, 2, 8), (6, 181, 2, 8), (2, 66, 2, 9), (6, 236, 2, 9), (2, 69, 2, 10), (6, 135, 2, 10), (2, 72, 2, 11), (6, 149, 2, 11), (2, 75, 2, 12), (6, 158, 2, 12), (2, 78, 2, 13), (6, 152, 2, 13), (2, 35, 2, 14), (6, 146, 2, 14), (5, 9, 5, 0), (5, 16, 5, 1), (6, 229, 5, 1), (5, 43, 5, 2), (6, 233, 5, 2), (5, 20, 5, 3), (5, 23, 5, 4), (1, 50, 5, 5), (5, 76, 5, 5), (6, 246, 5, 5), (5, 26, 5, 6), (1, 54, 5, 6), (5, 29, 5, 7), (1, 56, 5, 7), (5, 13, 5, 8), (1, 59, 5, 8), (3, 11, 3, 0), (6, 209, 3, 0), (3, 15, 3, 1), (6, 262, 3, 1), (3, 19, 3, 2), (6, 205, 3, 2), (4, 10, 4, 0), (6, 289, 4, 0), (4, 16, 4, 1), (6, 282, 4, 1), (6, 295, 4, 2), (4, 20, 4, 3), (6, 298, 4, 3), (4, 23, 4, 4), (6, 300, 4, 4), (4, 26, 4, 5), (6, 302, 4, 5), (6, 10, 6, 0), (6, 21, 6, 1), (6, 25, 6, 2), (6, 28, 6, 3), (6, 34, 6, 4), (6, 40, 6, 5), (6, 47, 6, 6), (6, 52, 6, 7), (6, 56, 6, 8), (6, 311, 6, 9), (6, 308, 6, 10), (7, 9, 7, 0), (7, 13, 7, 1), (7, 16, 7, 2), (7, 285, 7, 3), (7, 19, 7, 4), (7, 22, 7, 5), (7, 206, 7, 6), (7, 210, 7, 7), (7, 213, 7, 8), (7, 219, 7, 9), (7, 225, 7, 10), (7, 216, 7, 11), (7, 231, 7, 12), (7, 25, 7, 13), (7, 29, 7, 14), (7, 32, 7, 15), (7, 243, 7, 16), (7, 249, 7, 17), (7, 35, 7, 18), (7, 237, 7, 19), (7, 38, 7, 20), (7, 42, 7, 21), (7, 45, 7, 22), (7, 48, 7, 23), (7, 51, 7, 24), (7, 54, 7, 25), (7, 57, 7, 26), (7, 60, 7, 27), (7, 63, 7, 28), (7, 66, 7, 29), (7, 69, 7, 30), (7, 72, 7, 31), (7, 282, 7, 32)]
def ab_fl (o j : Nat) : Option (Nat × Nat) := (ab_flT.find? fun e => e.1 == o && e.2.1 == j).map fun e => e.2.2
/-- String.value, String.coder -/
def ab_fsV : Nat := 9
def ab_fsC : Nat := 15
/-- statics: COMPACT_STRINGS, SIOOBE_FORMATTER -/
def ab_sfZ : Nat := 38
def ab_sfF : Nat := 1053
def ab_mlV : List (Nat × Nat × Nat) := [(8, 13, 71), (6, 73, 19), (2, 81, 17), (8, 18, 72), (6, 77, 16), (6, 95, 28), (2, 128, 29), (2, 131, 30), (2, 137, 34), (2, 145, 7), (2, 149, 8), (1, 67, 9), (2, 134, 31), (6, 99, 32), (6, 102, 33), (8, 23, 73), (8, 27, 74), (8, 31, 75), (8, 35, 76), (8, 39, 77), (6, 110, 22), (8, 44, 78), (8, 48, 79), (6, 117, 34), (6, 120, 35), (2, 156, 33), (6, 123, 37), (2, 108, 18), (6, 132, 36), (2, 158, 32), (8, 52, 80), (8, 56, 81), (6, 139, 17), (6, 143, 20), (2, 86, 21), (2, 92, 19), (8, 60, 82), (8, 64, 83), (6, 155, 25), (2, 100, 26), (2, 104, 22), (2, 112, 28), (2, 115, 36), (2, 121, 27), (8, 68, 84), (6, 161, 40), (6, 164, 38), (6, 167, 39), (8, 72, 85), (6, 170, 15), (6, 174, 24), (2, 97, 25), (8, 76, 86), (6, 177, 18), (8, 80, 87), (8, 84, 88), (6, 184, 89), (6, 187, 23), (8, 88, 90), (8, 92, 91), (8, 96, 92), (6, 191, 41), (8, 100, 93), (6, 197, 47), (6, 201, 94), (6, 206, 50), (8, 104, 95), (6, 217, 42), (8, 109, 96), (6, 220, 43), (8, 113, 97), (6, 223, 54), (6, 227, 55), (8, 117, 98), (8, 121, 99), (6, 230, 56), (5, 32, 57), (5, 46, 58), (5, 35, 60), (5, 72, 61), (5, 79, 218), (9, 335, 222), (5, 83, 219), (9, 492, 223), (5, 39, 63), (5, 97, 64), (5, 111, 66), (5, 126, 68), (5, 107, 69), (5, 114, 67), (5, 61, 220), (9, 633, 221), (9, 505, 218), (5, 104, 59), (5, 121, 65), (6, 239, 6), (8, 125, 100), (8, 129, 101), (8, 133, 102), (6, 255, 45), (8, 137, 103), (6, 260, 48), (8, 141, 104), (8, 145, 105), (8, 149, 106), (6, 270, 49), (8, 154, 107), (6, 285, 52), (6, 293, 46), (8, 158, 108), (8, 162, 109), (8, 166, 110), (8, 170, 111), (8, 174, 112), (8, 178, 113), (8, 182, 114), (8, 186, 115), (8, 17, 137), (7, 116, 136), (7, 106, 127), (8, 22, 138), (7, 120, 124), (7, 79, 126), (7, 123, 133), (7, 100, 131), (7, 83, 194), (7, 87, 130), (7, 93, 197), (7, 103, 132), (7, 126, 134), (7, 129, 135), (8, 26, 140), (8, 30, 141), (7, 137, 128), (8, 34, 142), (8, 38, 143), (8, 43, 145), (7, 140, 144), (8, 47, 146), (8, 51, 150), (7, 147, 149), (7, 143, 147), (7, 150, 148), (8, 55, 151), (8, 59, 153), (7, 154, 152), (8, 63, 154), (8, 67, 159), (7, 166, 158), (7, 163, 157), (7, 160, 156), (7, 157, 155), (8, 71, 164), (7, 170, 160), (7, 173, 161), (7, 176, 162), (8, 75, 167), (7, 183, 165), (7, 186, 166), (8, 79, 168), (8, 83, 169), (8, 87, 171), (7, 190, 170), (8, 91, 173), (7, 193, 172), (8, 95, 174), (8, 99, 175), (7, 196, 163), (8, 103, 176), (8, 108, 177), (8, 112, 178), (8, 116, 179), (8, 120, 180), (8, 124, 192), (7, 234, 183), (7, 222, 181), (7, 228, 182), (7, 265, 184), (7, 268, 190), (7, 255, 189), (7, 246, 185), (7, 252, 187), (7, 259, 191), (7, 262, 188), (8, 128, 193), (8, 132, 195), (8, 136, 200), (8, 140, 201), (8, 144, 202), (8, 148, 203), (8, 153, 204), (8, 157, 205), (8, 161, 206), (8, 165, 207), (8, 169, 208), (8, 173, 209), (8, 177, 210), (8, 181, 211), (8, 185, 212), (8, 189, 213)]
def ab_mlS : List (Nat × Nat × Nat) := [(6, 59, 0), (6, 65, 116), (6, 69, 13), (2, 140, 214), (1, 71, 11), (1, 75, 10), (2, 118, 14), (2, 48, 217), (2, 54, 216), (2, 124, 1), (2, 152, 2), (0, 15, 216), (6, 105, 1), (6, 127, 214), (6, 194, 117), (6, 212, 215), (5, 50, 217), (5, 68, 5), (9, 495, 226), (10, 9, 224), (9, 1059, 230), (5, 129, 4), (9, 637, 228), (10, 88, 227), (10, 92, 216), (10, 38, 217), (10, 95, 229), (9, 1062, 231), (5, 101, 62), (6, 267, 14), (6, 279, 118), (6, 304, 2), (7, 75, 120), (7, 110, 125), (7, 90, 123), (7, 271, 196), (7, 96, 121), (7, 132, 139), (7, 179, 122), (7, 199, 198), (7, 203, 129), (7, 240, 186), (7, 278, 199)]
def ab_mlI : List (Nat × Nat × Nat) := [(8, 9, 70), (6, 18, 12), (8, 12, 119)]
def ab_mlSN : List (Nat × Nat × Nat) := [(0, 9, 116), (2, 44, 116), (1, 44, 116), (5, 56, 116), (3, 28, 116)]
def ab_mlIN : List (Nat × Nat × Nat) := [(6, 9, 3), (6, 33, 53), (6, 44, 44), (6, 51, 51), (4, 9, 44)]
def ab_mlO : List (Nat × Nat) := [(6, 1), (1, 1), (2, 3), (5, 1), (3, 3), (4, 1), (7, 1)]
def ab_mlC : List (Nat × Nat) := [(2, 57), (1, 61), (6, 273), (3, 22)]
def ab_mk (T : List (Nat × Nat × Nat)) (o j : Nat) : Option Nat := (T.find? fun e => e.1 == o && e.2.1 == j).map fun e => e.2.2
def ab_kcT : List (Nat × Nat × Int32) := [(2, 43, -1000000005), (6, 72, -1000000001), (2, 85, -1000000003), (12, 265, 1431655765), (12, 266, 858993459), (12, 267, 252645135), (6, 109, -1000000012), (2, 96, 1103515245), (6, 180, -1000000005), (6, 190, 2147483647), (6, 200, -1000000011), (3, 32, -1000000005), (6, 226, -1000000003), (6, 259, -1000000014), (6, 261, -1000000013), (6, 265, -99999), (6, 266, 99999), (6, 307, -1000000002), (7, 114, -1000000001), (7, 115, -1000000003), (7, 136, -1000000012), (7, 153, 1103515245), (7, 189, -1000000005), (7, 202, -1000000011), (7, 274, -1000000014), (7, 275, -1000000013), (7, 276, -99999), (7, 277, 99999), (7, 281, -1000000002)]
def ab_kc (o j : Nat) : Option Int32 := (ab_kcT.find? fun e => e.1 == o && e.2.1 == j).map fun e => e.2.2
def ab_ksT : List (Nat × Nat × Nat) := [(1, 38, 0), (1, 40, 1), (1, 42, 2), (1, 32, 3), (1, 34, 4), (1, 36, 5), (5, 117, 6), (5, 119, 7), (5, 124, 8), (5, 87, 9), (5, 89, 10), (5, 91, 11), (5, 93, 12), (5, 95, 13)]
def ab_ks (o j : Nat) : Option Nat := ab_mk ab_ksT o j
def ab_tx : List String := ["bloom", "fee", "fine", "wdhn", "df", "wd", "!", "(", ")", "|", "&", "<=>", "+-", "*/"]
def ab_by : List (List Int32) := [[98, 108, 111, 111, 109], [102, 101, 101], [102, 105, 110, 101], [119, 100, 104, 110], [100, 102], [119, 100], [33], [40], [41], [124], [38], [60, 61, 62], [43, 45], [42, 47]]
def ab_ln : List Nat := [5, 3, 4, 4, 2, 2, 1, 1, 1, 1, 1, 3, 2, 2]
/-- classes that are made, by entries -/
def ab_klT : List (Nat × Nat × Nat) := [(8, 7, 6), (6, 7, 1), (6, 16, 2), (6, 31, 5), (6, 38, 3), (6, 45, 4), (4, 7, 3), (8, 10, 7)]
def ab_kl (o j : Nat) : Option Nat := ab_mk ab_klT o j
def ab_kq : Nat × Nat := (1, 21)
end
section
/-! what the tables' words give, checked once, by their places; written by wip/tools/gen_checks.py -/
def ab_U : List Cond := lw_tbl.filter goodWord
def ab_has (p : Nat) (w : Cond) : Bool := decide (lw_tbl[p]? = some w) && goodWord w
theorem ab_has_U {p : Nat} {w : Cond} (h : ab_has p w = true) : w ∈ ab_U := by
  unfold ab_has at h
  rw [Bool.and_eq_true, decide_eq_true_eq] at h
  exact List.mem_filter.mpr ⟨List.mem_of_getElem? h.1, h.2⟩
def ab_flP : List Nat := [91, 92, 93, 94, 95, 96, 97, 98, 120, 121, 122, 123, 124, 125, 126, 127, 128, 129, 130, 131, 132, 133, 134, 135, 136, 137, 138, 139, 140, 141, 142, 143, 144, 145, 146, 147, 148, 186, 187, 188, 189, 190, 191, 192, 193, 194, 195, 196, 197, 198, 199, 200, 201, 228, 229, 230, 231, 232, 233, 250, 251, 252, 253, 254, 255, 256, 257, 258, 259, 260, 274, 275, 276, 277, 278, 279, 280, 281, 282, 283, 284, 927, 928, 929, 930, 931, 932, 933, 934, 935, 936, 937, 938, 939, 940, 941, 942, 943, 944, 945, 946, 947, 948, 949, 950, 951, 952, 953, 954, 955, 956, 957, 958, 959]
theorem ab_flP_n : ab_flT.length = ab_flP.length := by decide +kernel
def ab_ckF (q : (Nat × Nat × Nat × Nat) × Nat) : Bool := ab_has q.2 (.fieldLink (ab_R q.1.1) q.1.2.1 (ab_R q.1.2.2.1) (ab_T q.1.2.2.1 q.1.2.2.2).2.1 (ab_T q.1.2.2.1 q.1.2.2.2).2.2.1) && decide ((ab_T q.1.2.2.1 q.1.2.2.2).1 = ab_R q.1.2.2.1) && decide (q.1.2.2.2 < ab_N q.1.2.2.1) && decide (q.1.2.2.1 < 8)
set_option maxRecDepth 100000 in
theorem ab_ckF_ok : (ab_flT.zip ab_flP).all ab_ckF = true := by decide +kernel
theorem ab_zip {α β : Type} {T : List α} {P : List β} (hn : T.length = P.length) {e : α} (h : e ∈ T) : ∃ p, (e, p) ∈ T.zip P := by
  obtain ⟨i, hi, rfl⟩ := List.getElem_of_mem h
  exact ⟨P[i]'(by omega), List.mem_iff_getElem.mpr ⟨i, by rw [List.length_zip]; omega, by rw [List.getElem_zip]⟩⟩
theorem ab_mk_mem {T : List (Nat × Nat × Nat)} {o j k : Nat} (h : ab_mk T o j = some k) : (o, j, k) ∈ T := by
  unfold ab_mk at h
  obtain ⟨e, h1, rfl⟩ := Option.map_eq_some_iff.mp h
  have h2 := List.find?_some h1
  simp only [Bool.and_eq_true, beq_iff_eq] at h2
  have h3 := List.mem_of_find?_eq_some h1
  rw [← h2.1, ← h2.2]
  exact h3
theorem ab_okF {o j ci fi : Nat} (h : ab_fl o j = some (ci, fi)) : Cond.fieldLink (ab_R o) j (ab_R ci) (ab_T ci fi).2.1 (ab_T ci fi).2.2.1 ∈ ab_U ∧ (ab_T ci fi).1 = ab_R ci ∧ fi < ab_N ci ∧ ci < 8 := by
  unfold ab_fl at h
  obtain ⟨e, h1, h4⟩ := Option.map_eq_some_iff.mp h
  have h2 := List.find?_some h1
  simp only [Bool.and_eq_true, beq_iff_eq] at h2
  have h3 := List.mem_of_find?_eq_some h1
  obtain ⟨p, hp⟩ := ab_zip ab_flP_n h3
  have h5 := List.all_eq_true.mp ab_ckF_ok _ hp
  obtain ⟨e1, e2, e3, e4⟩ := e
  cases h4
  obtain ⟨rfl, rfl⟩ := h2
  unfold ab_ckF at h5
  simp only [Bool.and_eq_true, decide_eq_true_eq] at h5
  exact ⟨ab_has_U h5.1.1.1, h5.1.1.2, h5.1.2, h5.2⟩
def ab_wsT : List (Nat × Nat × Nat) := [(1, 0, 99), (1, 1, 101), (1, 2, 103), (1, 3, 105), (1, 4, 107), (1, 5, 109), (2, 0, 149), (2, 1, 151), (2, 2, 153), (2, 3, 155), (2, 4, 157), (2, 5, 159), (2, 6, 161), (2, 7, 163), (2, 8, 165), (2, 9, 167), (2, 10, 169), (2, 11, 171), (2, 12, 173), (2, 13, 175), (2, 14, 177), (3, 0, 234), (3, 1, 236), (3, 2, 238), (4, 0, 261), (4, 1, 263), (4, 2, 265), (4, 3, 267), (4, 4, 269), (4, 5, 271), (5, 0, 202), (5, 1, 204), (5, 2, 206), (5, 3, 208), (5, 4, 210), (5, 5, 212), (5, 6, 214), (5, 7, 216), (5, 8, 218), (6, 0, 285), (6, 1, 287), (6, 2, 289), (6, 3, 291), (6, 4, 293), (6, 5, 295), (6, 6, 297), (6, 7, 299), (6, 8, 301), (6, 9, 303), (6, 10, 305), (7, 0, 960), (7, 1, 962), (7, 2, 964), (7, 3, 966), (7, 4, 968), (7, 5, 970), (7, 6, 972), (7, 7, 974), (7, 8, 976), (7, 9, 978), (7, 10, 980), (7, 11, 982), (7, 12, 984), (7, 13, 986), (7, 14, 988), (7, 15, 990), (7, 16, 992), (7, 17, 994), (7, 18, 996), (7, 19, 998), (7, 20, 1000), (7, 21, 1002), (7, 22, 1004), (7, 23, 1006), (7, 24, 1008), (7, 25, 1010), (7, 26, 1012), (7, 27, 1014), (7, 28, 1016), (7, 29, 1018), (7, 30, 1020), (7, 31, 1022), (7, 32, 1024)]
set_option maxRecDepth 100000 in
theorem ab_wsT_ok : ab_wsT.all (fun q => ab_has q.2.2 (u_lay (ab_R q.1) (ab_T q.1) q.2.1)) = true := by decide +kernel
theorem ab_wsT_all : ∀ c, c < 8 → ∀ k, k < ab_N c → ∃ p, (c, k, p) ∈ ab_wsT := by
  have h : (List.range 8).all (fun c => (List.range (ab_N c)).all fun k => ab_wsT.any fun q => q.1 == c && q.2.1 == k) = true := by decide +kernel
  intro c hc k hk
  have h1 := List.all_eq_true.mp (List.all_eq_true.mp h c (List.mem_range.mpr hc)) k (List.mem_range.mpr hk)
  obtain ⟨q, hq, h2⟩ := List.any_eq_true.mp h1
  simp only [Bool.and_eq_true, beq_iff_eq] at h2
  exact ⟨q.2.2, by rw [← h2.1, ← h2.2]; exact hq⟩
theorem ab_okW {c : Nat} (hc : c < 8) : ∀ w ∈ u_ws (ab_R c) (ab_T c) (ab_N c), w ∈ ab_U := by
  intro w hw
  unfold u_ws at hw
  obtain ⟨k, hk, rfl⟩ := List.mem_map.mp hw
  obtain ⟨p, hp⟩ := ab_wsT_all c hc k (List.mem_range.mp hk)
  exact ab_has_U (List.all_eq_true.mp ab_wsT_ok _ hp)
def ab_msP : List Nat := [66, 66, 66, 60, 60, 60, 60, 60, 60, 60, 60, 60, 61, 61, 61, 61, 61, 61, 61, 61, 61, 61, 61, 61, 61, 61, 61, 61, 61, 61, 61, 61, 61, 61, 61, 61, 61, 61, 61, 61, 61, 61, 61, 61, 63, 63, 63, 63, 63, 63, 63, 64, 64, 62, 62, 62, 62, 62, 62, 62, 62, 62, 62, 62, 62, 62, 62, 62, 62, 62, 59, 59, 59, 59, 59, 59, 59, 59, 59, 59, 59, 59, 59, 59, 59, 59, 59, 59, 59, 59, 59, 59, 59, 59, 59, 59, 59, 59, 59, 59, 59, 59, 59, 59, 59, 59, 59, 59, 59, 59, 59, 59, 59, 59, 59, 59, 59, 59, 59, 65, 65, 65, 65, 65, 65, 65, 65, 65, 65, 65, 65, 65, 65, 65, 65, 65, 65, 65, 65, 65, 65, 65, 65, 65, 65, 65, 65, 65, 65, 65, 65, 65, 65, 65, 65, 65, 65, 65, 65, 65, 65, 65, 65, 65, 65, 65, 65, 65, 65, 65, 65, 65, 65, 65, 65, 65, 65, 65, 65, 65, 65, 65, 65, 65, 65, 65, 65, 65, 65, 65, 65, 65, 65, 65, 65, 65, 65, 65, 65, 65, 65, 65, 65, 65, 65, 65, 65, 65, 65, 65, 65, 65, 65, 65, 67, 68, 68, 68, 70, 70, 70, 70, 70, 70, 70, 70, 71, 71, 71, 71, 72, 72]
def ab_isCd (w : Cond) (y : MethodName) (n : Nat) (r : Option FieldType) : Bool := match w with
  | .code y' _ n' r' => decide (y' = y) && decide (n' = n) && decide (r' = r)
  | _ => false
theorem ab_isCd_e {w : Cond} {y : MethodName} {n : Nat} {r : Option FieldType} (h : ab_isCd w y n r = true) : w = .code y (ab_cb w) n r := by
  unfold ab_isCd at h
  split at h
  · simp only [Bool.and_eq_true, decide_eq_true_eq] at h
    obtain ⟨⟨rfl, rfl⟩, rfl⟩ := h
    rfl
  · cases h
def ab_ckM (k : Nat) (p : Nat) : Bool := ab_isCd (ab_cd k) (ab_Y k) (ab_mL k) (ab_rt k) && ab_has p (.initialized (ab_Y k).cls) && plainFor (ab_Y k) && decide ((ab_Y k).cls ≠ "java/lang/invoke/MethodHandle" ∧ (ab_Y k).cls ≠ "java/lang/invoke/VarHandle" ∧ (parseMethodDescriptor (ab_Y k).desc).map (fun d => d.parameters.length) = some (ab_np k)) && decide ((ab_Y k).cls = ab_R (ab_own k)) && decide (ab_mL k ≤ 20)
set_option maxRecDepth 100000 in
theorem ab_ckM_0 : ((List.range 58).drop 0).all (fun k => ab_ckM k (ab_msP.getD k 0)) = true := by decide +kernel
set_option maxRecDepth 100000 in
theorem ab_ckM_58 : ((List.range 116).drop 58).all (fun k => ab_ckM k (ab_msP.getD k 0)) = true := by decide +kernel
set_option maxRecDepth 100000 in
theorem ab_ckM_116 : ((List.range 174).drop 116).all (fun k => ab_ckM k (ab_msP.getD k 0)) = true := by decide +kernel
set_option maxRecDepth 100000 in
theorem ab_ckM_174 : ((List.range 232).drop 174).all (fun k => ab_ckM k (ab_msP.getD k 0)) = true := by decide +kernel
theorem ab_ckM_all {k : Nat} (h : k < ab_nM) : ab_ckM k (ab_msP.getD k 0) = true := by
  have h : k < 232 := h
  by_cases h0 : k < 58
  · exact List.all_eq_true.mp ab_ckM_0 k (List.mem_iff_getElem.mpr ⟨k - 0, by rw [List.length_drop, List.length_range]; omega, by rw [List.getElem_drop, List.getElem_range]; omega⟩)
  by_cases h58 : k < 116
  · exact List.all_eq_true.mp ab_ckM_58 k (List.mem_iff_getElem.mpr ⟨k - 58, by rw [List.length_drop, List.length_range]; omega, by rw [List.getElem_drop, List.getElem_range]; omega⟩)
  by_cases h116 : k < 174
  · exact List.all_eq_true.mp ab_ckM_116 k (List.mem_iff_getElem.mpr ⟨k - 116, by rw [List.length_drop, List.length_range]; omega, by rw [List.getElem_drop, List.getElem_range]; omega⟩)
  by_cases h174 : k < 232
  · exact List.all_eq_true.mp ab_ckM_174 k (List.mem_iff_getElem.mpr ⟨k - 174, by rw [List.length_drop, List.length_range]; omega, by rw [List.getElem_drop, List.getElem_range]; omega⟩)
  omega
theorem ab_cd_mem {k : Nat} {y : MethodName} {n : Nat} {r : Option FieldType} (h : ab_isCd (ab_cd k) y n r = true) : Cond.code y (ab_cb (ab_cd k)) n r ∈ ab_U := by
  have e := ab_isCd_e h
  have h1 : ab_cd k ∈ lw_tbl := by
    unfold ab_cd at h ⊢
    rw [List.getD_eq_getElem?_getD] at h ⊢
    cases hq : lw_tbl[ab_cp.getD k 0]? with
    | none => rw [hq] at h; cases h
    | some w => rw [Option.getD_some]; exact List.mem_of_getElem? hq
  rw [e] at h1
  exact List.mem_filter.mpr ⟨h1, rfl⟩
theorem ab_okM {k : Nat} (h : k < ab_nM) : Cond.code (ab_Y k) (ab_B k) (ab_mL k) (ab_rt k) ∈ ab_U ∧ Cond.initialized (ab_Y k).cls ∈ ab_U ∧ plainFor (ab_Y k) = true ∧ ((ab_Y k).cls ≠ "java/lang/invoke/MethodHandle" ∧ (ab_Y k).cls ≠ "java/lang/invoke/VarHandle" ∧ (parseMethodDescriptor (ab_Y k).desc).map (fun d => d.parameters.length) = some (ab_np k)) ∧ (ab_Y k).cls = ab_R (ab_own k) ∧ ab_mL k ≤ 20 := by
  have h5 := ab_ckM_all h
  unfold ab_ckM at h5
  simp only [Bool.and_eq_true, decide_eq_true_eq] at h5
  refine ⟨?_, ab_has_U h5.1.1.1.1.2, h5.1.1.1.2, h5.1.1.2, h5.1.2, h5.2⟩
  unfold ab_B
  rw [if_neg (Nat.ne_of_lt h)]
  exact ab_cd_mem h5.1.1.1.1.1
def ab_mlVP : List (Nat × Nat × Nat) := [(308, 309, 310), (324, 325, 326), (328, 329, 330), (333, 334, 335), (337, 338, 339), (341, 342, 343), (345, 347, 0), (349, 351, 1), (353, 354, 355), (363, 364, 365), (367, 368, 369), (372, 374, 2), (391, 393, 3), (398, 399, 400), (402, 403, 404), (410, 411, 412), (416, 417, 418), (420, 421, 422), (424, 425, 426), (428, 429, 430), (432, 433, 434), (436, 437, 438), (440, 441, 442), (444, 354, 355), (445, 446, 447), (449, 403, 404), (450, 451, 452), (454, 455, 456), (459, 460, 461), (463, 399, 400), (464, 465, 466), (468, 469, 470), (472, 329, 330), (473, 474, 475), (477, 478, 479), (482, 325, 326), (483, 484, 485), (487, 488, 489), (491, 492, 493), (495, 496, 497), (499, 433, 434), (500, 342, 343), (501, 460, 461), (502, 503, 504), (506, 507, 508), (510, 511, 512), (514, 515, 516), (518, 519, 520), (522, 523, 524), (526, 527, 528), (533, 534, 535), (537, 492, 493), (538, 539, 540), (542, 455, 456), (544, 545, 546), (548, 549, 550), (552, 554, 4), (556, 557, 558), (560, 561, 562), (564, 565, 566), (569, 570, 571), (573, 574, 575), (577, 578, 579), (584, 585, 586), (589, 591, 5), (593, 594, 595), (601, 602, 603), (605, 606, 607), (609, 610, 611), (613, 614, 615), (617, 618, 619), (621, 622, 623), (626, 627, 628), (630, 631, 632), (634, 635, 636), (638, 639, 640), (642, 644, 6), (646, 648, 7), (652, 654, 8), (662, 664, 9), (666, 667, 668), (670, 671, 672), (676, 677, 678), (680, 681, 682), (714, 716, 10), (718, 720, 11), (722, 724, 12), (726, 728, 13), (730, 732, 14), (734, 736, 15), (744, 745, 746), (748, 749, 750), (752, 667, 668), (800, 802, 16), (805, 807, 17), (818, 819, 820), (824, 825, 826), (828, 829, 830), (832, 833, 834), (836, 837, 838), (841, 842, 843), (845, 846, 847), (853, 854, 855), (858, 859, 860), (862, 863, 864), (866, 867, 868), (871, 872, 873), (878, 879, 880), (882, 883, 884), (887, 888, 889), (892, 893, 894), (896, 897, 898), (901, 902, 903), (905, 906, 907), (909, 910, 911), (913, 914, 915), (917, 918, 919), (1029, 1030, 1031), (1041, 1043, 18), (1045, 1047, 19), (1049, 1050, 1051), (1053, 1055, 20), (1057, 1059, 21), (1061, 1063, 22), (1065, 1067, 23), (1069, 1071, 24), (1073, 1075, 25), (1080, 1082, 26), (1090, 1092, 27), (1094, 1096, 28), (1098, 1100, 29), (1102, 1103, 1104), (1110, 1111, 1112), (1114, 1116, 30), (1118, 1119, 1120), (1122, 1123, 1124), (1126, 1127, 1128), (1130, 1132, 31), (1134, 1135, 1136), (1138, 1139, 1140), (1142, 1144, 32), (1146, 1148, 33), (1150, 1152, 34), (1154, 1155, 1156), (1158, 1159, 1160), (1162, 1164, 35), (1167, 1168, 1169), (1171, 1172, 1173), (1175, 1177, 36), (1179, 1181, 37), (1183, 1185, 38), (1187, 1189, 39), (1191, 1192, 1193), (1195, 1197, 40), (1199, 1201, 41), (1203, 1205, 42), (1207, 1208, 1209), (1211, 1213, 43), (1218, 1220, 44), (1222, 1223, 1224), (1227, 1228, 1229), (1231, 1232, 1233), (1235, 1237, 45), (1239, 1240, 1241), (1243, 1245, 46), (1247, 1248, 1249), (1251, 1252, 1253), (1255, 1257, 47), (1259, 1260, 1261), (1270, 1271, 1272), (1274, 1275, 1276), (1278, 1279, 1280), (1282, 1283, 1284), (1286, 1287, 1288), (1290, 1292, 48), (1294, 1296, 49), (1298, 1300, 50), (1302, 1304, 51), (1306, 1308, 52), (1310, 1312, 53), (1314, 1316, 54), (1318, 1320, 55), (1325, 1327, 56), (1329, 1331, 57), (1333, 1334, 1335), (1337, 1338, 1339), (1341, 1342, 1343), (1346, 1347, 1348), (1353, 1354, 1355), (1357, 1358, 1359), (1361, 1362, 1363), (1365, 1366, 1367), (1372, 1373, 1374), (1376, 1377, 1378), (1380, 1381, 1382), (1385, 1386, 1387), (1389, 1390, 1391), (1393, 1394, 1395), (1397, 1398, 1399), (1401, 1402, 1403)]
theorem ab_mlVP_n : ab_mlV.length = ab_mlVP.length := by decide +kernel
def ab_ckmlV (q : (Nat × Nat × Nat) × Nat × Nat × Nat) : Bool := ab_has q.2.1 (.methodLink (ab_R q.1.1) q.1.2.1 (ab_Y q.1.2.2)) && ab_has q.2.2.1 (.instanceMethod (ab_Y q.1.2.2)) && ab_has q.2.2.2 (.selects (ab_Y q.1.2.2).cls (ab_Y q.1.2.2) (ab_Y q.1.2.2)) && decide (q.1.2.2 < ab_nM)
set_option maxRecDepth 100000 in
theorem ab_ckmlV_0 : (((ab_mlV.zip ab_mlVP).drop 0).take 70).all ab_ckmlV = true := by decide +kernel
set_option maxRecDepth 100000 in
theorem ab_ckmlV_70 : (((ab_mlV.zip ab_mlVP).drop 70).take 70).all ab_ckmlV = true := by decide +kernel
set_option maxRecDepth 100000 in
theorem ab_ckmlV_140 : (((ab_mlV.zip ab_mlVP).drop 140).take 70).all ab_ckmlV = true := by decide +kernel
theorem ab_ckmlV_ok : (ab_mlV.zip ab_mlVP).all ab_ckmlV = true := by
  have e : ab_mlV.zip ab_mlVP = ((ab_mlV.zip ab_mlVP).drop 0).take 70 ++ (((ab_mlV.zip ab_mlVP).drop 70).take 70 ++ (((ab_mlV.zip ab_mlVP).drop 140).take 70)) := by decide +kernel
  rw [e]; simp only [List.all_append, ab_ckmlV_0, ab_ckmlV_70, ab_ckmlV_140, Bool.and_self]
theorem ab_okmlV {o j k : Nat} (h : (o, j, k) ∈ ab_mlV) : Cond.methodLink (ab_R o) j (ab_Y k) ∈ ab_U ∧ Cond.instanceMethod (ab_Y k) ∈ ab_U ∧ Cond.selects (ab_Y k).cls (ab_Y k) (ab_Y k) ∈ ab_U ∧ k < ab_nM := by
  obtain ⟨p, hp⟩ := ab_zip ab_mlVP_n h
  have h5 := List.all_eq_true.mp ab_ckmlV_ok _ hp
  unfold ab_ckmlV at h5
  simp only [Bool.and_eq_true, decide_eq_true_eq] at h5
  exact ⟨ab_has_U h5.1.1.1, ab_has_U h5.1.1.2, ab_has_U h5.1.2, h5.2⟩
def ab_mlSP : List (Nat × Nat) := [(312, 313), (318, 316), (319, 320), (357, 358), (376, 377), (379, 380), (382, 383), (385, 386), (388, 389), (395, 396), (406, 407), (409, 389), (414, 396), (458, 358), (581, 582), (598, 599), (651, 386), (656, 657), (684, 685), (687, 688), (692, 693), (738, 739), (753, 754), (756, 757), (759, 389), (760, 386), (761, 762), (779, 780), (810, 811), (857, 383), (875, 876), (891, 407), (1033, 1034), (1036, 1037), (1077, 1078), (1084, 1085), (1087, 1088), (1106, 1107), (1215, 1216), (1263, 1264), (1267, 1268), (1322, 1323), (1369, 1370)]
theorem ab_mlSP_n : ab_mlS.length = ab_mlSP.length := by decide +kernel
def ab_ckmlS (q : (Nat × Nat × Nat) × Nat × Nat) : Bool := ab_has q.2.1 (.methodLink (ab_R q.1.1) q.1.2.1 (ab_Y q.1.2.2)) && ab_has q.2.2 (.static (ab_Y q.1.2.2)) && decide (q.1.2.2 < ab_nM)
set_option maxRecDepth 100000 in
theorem ab_ckmlS_0 : (((ab_mlS.zip ab_mlSP).drop 0).take 70).all ab_ckmlS = true := by decide +kernel
theorem ab_ckmlS_ok : (ab_mlS.zip ab_mlSP).all ab_ckmlS = true := by
  have e : ab_mlS.zip ab_mlSP = ((ab_mlS.zip ab_mlSP).drop 0).take 70 := by decide +kernel
  rw [e]; simp only [List.all_append, ab_ckmlS_0, Bool.and_self]
theorem ab_okmlS {o j k : Nat} (h : (o, j, k) ∈ ab_mlS) : Cond.methodLink (ab_R o) j (ab_Y k) ∈ ab_U ∧ Cond.static (ab_Y k) ∈ ab_U ∧ k < ab_nM := by
  obtain ⟨p, hp⟩ := ab_zip ab_mlSP_n h
  have h5 := List.all_eq_true.mp ab_ckmlS_ok _ hp
  unfold ab_ckmlS at h5
  simp only [Bool.and_eq_true, decide_eq_true_eq] at h5
  exact ⟨ab_has_U h5.1.1, ab_has_U h5.1.2, h5.2⟩
def ab_mlSNP : List (Nat) := [316, 316, 316, 316, 316]
theorem ab_mlSNP_n : ab_mlSN.length = ab_mlSNP.length := by decide +kernel
def ab_ckmlSN (q : (Nat × Nat × Nat) × Nat) : Bool := ab_has q.2 (.static (ab_Y q.1.2.2)) && decide (q.1.2.2 < ab_nM)
set_option maxRecDepth 100000 in
theorem ab_ckmlSN_0 : (((ab_mlSN.zip ab_mlSNP).drop 0).take 70).all ab_ckmlSN = true := by decide +kernel
theorem ab_ckmlSN_ok : (ab_mlSN.zip ab_mlSNP).all ab_ckmlSN = true := by
  have e : ab_mlSN.zip ab_mlSNP = ((ab_mlSN.zip ab_mlSNP).drop 0).take 70 := by decide +kernel
  rw [e]; simp only [List.all_append, ab_ckmlSN_0, Bool.and_self]
theorem ab_okmlSN {o j k : Nat} (h : (o, j, k) ∈ ab_mlSN) : Cond.static (ab_Y k) ∈ ab_U ∧ k < ab_nM := by
  obtain ⟨p, hp⟩ := ab_zip ab_mlSNP_n h
  have h5 := List.all_eq_true.mp ab_ckmlSN_ok _ hp
  unfold ab_ckmlSN at h5
  simp only [Bool.and_eq_true, decide_eq_true_eq] at h5
  exact ⟨ab_has_U h5.1, h5.2⟩
def ab_mlIP : List (Nat × Nat) := [(77, 78), (115, 116), (923, 924)]
theorem ab_mlIP_n : ab_mlI.length = ab_mlIP.length := by decide +kernel
def ab_ckmlI (q : (Nat × Nat × Nat) × Nat × Nat) : Bool := ab_has q.2.1 (.methodLink (ab_R q.1.1) q.1.2.1 (ab_Y q.1.2.2)) && ab_has q.2.2 (.instanceMethod (ab_Y q.1.2.2)) && decide (q.1.2.2 < ab_nM) && decide ((ab_Y q.1.2.2).name = "<init>") && decide (ab_rt q.1.2.2 = none)
set_option maxRecDepth 100000 in
theorem ab_ckmlI_0 : (((ab_mlI.zip ab_mlIP).drop 0).take 70).all ab_ckmlI = true := by decide +kernel
theorem ab_ckmlI_ok : (ab_mlI.zip ab_mlIP).all ab_ckmlI = true := by
  have e : ab_mlI.zip ab_mlIP = ((ab_mlI.zip ab_mlIP).drop 0).take 70 := by decide +kernel
  rw [e]; simp only [List.all_append, ab_ckmlI_0, Bool.and_self]
theorem ab_okmlI {o j k : Nat} (h : (o, j, k) ∈ ab_mlI) : Cond.methodLink (ab_R o) j (ab_Y k) ∈ ab_U ∧ Cond.instanceMethod (ab_Y k) ∈ ab_U ∧ k < ab_nM ∧ (ab_Y k).name = "<init>" ∧ ab_rt k = none := by
  obtain ⟨p, hp⟩ := ab_zip ab_mlIP_n h
  have h5 := List.all_eq_true.mp ab_ckmlI_ok _ hp
  unfold ab_ckmlI at h5
  simp only [Bool.and_eq_true, decide_eq_true_eq] at h5
  exact ⟨ab_has_U h5.1.1.1.1, ab_has_U h5.1.1.1.2, h5.1.1.2, h5.1.2, h5.2⟩
def ab_mlINP : List (Nat) := [86, 183, 225, 245, 225]
theorem ab_mlINP_n : ab_mlIN.length = ab_mlINP.length := by decide +kernel
def ab_ckmlIN (q : (Nat × Nat × Nat) × Nat) : Bool := ab_has q.2 (.instanceMethod (ab_Y q.1.2.2)) && decide (q.1.2.2 < ab_nM) && decide ((ab_Y q.1.2.2).name = "<init>") && decide (ab_rt q.1.2.2 = none)
set_option maxRecDepth 100000 in
theorem ab_ckmlIN_0 : (((ab_mlIN.zip ab_mlINP).drop 0).take 70).all ab_ckmlIN = true := by decide +kernel
theorem ab_ckmlIN_ok : (ab_mlIN.zip ab_mlINP).all ab_ckmlIN = true := by
  have e : ab_mlIN.zip ab_mlINP = ((ab_mlIN.zip ab_mlINP).drop 0).take 70 := by decide +kernel
  rw [e]; simp only [List.all_append, ab_ckmlIN_0, Bool.and_self]
theorem ab_okmlIN {o j k : Nat} (h : (o, j, k) ∈ ab_mlIN) : Cond.instanceMethod (ab_Y k) ∈ ab_U ∧ k < ab_nM ∧ (ab_Y k).name = "<init>" ∧ ab_rt k = none := by
  obtain ⟨p, hp⟩ := ab_zip ab_mlINP_n h
  have h5 := List.all_eq_true.mp ab_ckmlIN_ok _ hp
  unfold ab_ckmlIN at h5
  simp only [Bool.and_eq_true, decide_eq_true_eq] at h5
  exact ⟨ab_has_U h5.1.1.1, h5.1.1.2, h5.1.2, h5.2⟩
def ab_klTP : List (Nat × Nat × Nat) := [(75, 76, 59), (83, 84, 60), (113, 114, 61), (180, 181, 62), (221, 223, 63), (241, 243, 64), (248, 223, 63), (921, 922, 65)]
theorem ab_klTP_n : ab_klT.length = ab_klTP.length := by decide +kernel
def ab_ckklT (q : (Nat × Nat × Nat) × Nat × Nat × Nat) : Bool := ab_has q.2.1 (.classLink (ab_R q.1.1) q.1.2.1 (ab_R q.1.2.2)) && ab_has q.2.2.1 (.instantiable (ab_R q.1.2.2) (ab_N q.1.2.2)) && ab_has q.2.2.2 (.initialized (ab_R q.1.2.2)) && decide (q.1.2.2 < 8)
set_option maxRecDepth 100000 in
theorem ab_ckklT_0 : (((ab_klT.zip ab_klTP).drop 0).take 70).all ab_ckklT = true := by decide +kernel
theorem ab_ckklT_ok : (ab_klT.zip ab_klTP).all ab_ckklT = true := by
  have e : ab_klT.zip ab_klTP = ((ab_klT.zip ab_klTP).drop 0).take 70 := by decide +kernel
  rw [e]; simp only [List.all_append, ab_ckklT_0, Bool.and_self]
theorem ab_okklT {o j k : Nat} (h : (o, j, k) ∈ ab_klT) : Cond.classLink (ab_R o) j (ab_R k) ∈ ab_U ∧ Cond.instantiable (ab_R k) (ab_N k) ∈ ab_U ∧ Cond.initialized (ab_R k) ∈ ab_U ∧ k < 8 := by
  obtain ⟨p, hp⟩ := ab_zip ab_klTP_n h
  have h5 := List.all_eq_true.mp ab_ckklT_ok _ hp
  unfold ab_ckklT at h5
  simp only [Bool.and_eq_true, decide_eq_true_eq] at h5
  exact ⟨ab_has_U h5.1.1.1, ab_has_U h5.1.1.2, ab_has_U h5.1.2, h5.2⟩
def ab_kcP : List Nat := [119, 323, 332, 360, 361, 362, 415, 481, 543, 568, 588, 597, 625, 840, 850, 851, 852, 900, 1039, 1040, 1109, 1166, 1226, 1266, 1345, 1350, 1351, 1352, 1384]
theorem ab_kcP_n : ab_kcT.length = ab_kcP.length := by decide +kernel
set_option maxRecDepth 100000 in
theorem ab_ckK_ok : (ab_kcT.zip ab_kcP).all (fun q => ab_has q.2 (.constant (ab_R q.1.1) q.1.2.1 q.1.2.2)) = true := by decide +kernel
theorem ab_okK {o j : Nat} {v : Int32} (h : ab_kc o j = some v) : Cond.constant (ab_R o) j v ∈ ab_U := by
  unfold ab_kc at h
  obtain ⟨e, h1, rfl⟩ := Option.map_eq_some_iff.mp h
  have h2 := List.find?_some h1
  simp only [Bool.and_eq_true, beq_iff_eq] at h2
  obtain ⟨p, hp⟩ := ab_zip ab_kcP_n (List.mem_of_find?_eq_some h1)
  have h5 := List.all_eq_true.mp ab_ckK_ok _ hp
  rw [← h2.1, ← h2.2]
  exact ab_has_U h5
def ab_mlOP : List Nat := [80, 88, 118, 185, 227, 247, 926]
def ab_mlCP : List Nat := [530, 822, 870, 886]
theorem ab_mlOP_n : ab_mlO.length = ab_mlOP.length := by decide +kernel
theorem ab_mlCP_n : ab_mlC.length = ab_mlCP.length := by decide +kernel
theorem ab_ckO_ok : (ab_mlO.zip ab_mlOP).all (fun q => ab_has q.2 (.methodLink (ab_R q.1.1) q.1.2 Lib.objectInit)) = true := by decide +kernel
theorem ab_ckC_ok : (ab_mlC.zip ab_mlCP).all (fun q => ab_has q.2 (.methodLink (ab_R q.1.1) q.1.2 arraycopyName)) = true := by decide +kernel
theorem ab_okO {o j : Nat} (h : (o, j) ∈ ab_mlO) : Cond.methodLink (ab_R o) j Lib.objectInit ∈ ab_U := by
  obtain ⟨p, hp⟩ := ab_zip ab_mlOP_n h
  exact ab_has_U (List.all_eq_true.mp ab_ckO_ok _ hp)
theorem ab_okC {o j : Nat} (h : (o, j) ∈ ab_mlC) : Cond.methodLink (ab_R o) j arraycopyName ∈ ab_U := by
  obtain ⟨p, hp⟩ := ab_zip ab_mlCP_n h
  exact ab_has_U (List.all_eq_true.mp ab_ckC_ok _ hp)
theorem ab_oO1 : Cond.instanceMethod Lib.objectInit ∈ ab_U := ab_has_U (p := 81) (by decide +kernel)
theorem ab_oO2 : Cond.code Lib.objectInit ⟨#[0xb1]⟩ 1 none ∈ ab_U := ab_has_U (p := 82) (by decide +kernel)
theorem ab_oC1 : Cond.native arraycopyName ∈ ab_U := ab_has_U (p := 532) (by decide +kernel)
theorem ab_oC2 : Cond.static arraycopyName ∈ ab_U := ab_has_U (p := 531) (by decide +kernel)
theorem ab_oC3 : Cond.initialized "java/lang/System" ∈ ab_U := ab_has_U (p := 69) (by decide +kernel)
theorem ab_oA_int : Cond.arrayClass .int ∈ ab_U := ab_has_U (p := 112) (by decide +kernel)
theorem ab_oA_boolean : Cond.arrayClass .boolean ∈ ab_U := ab_has_U (p := 1028) (by decide +kernel)
theorem ab_oA_char : Cond.arrayClass .char ∈ ab_U := ab_has_U (p := 1027) (by decide +kernel)
theorem ab_oS1 : Cond.fieldLink RJ0 ab_fsV "java/lang/String" "value" "[B" ∈ ab_U := ab_has_U (p := 1405) (by decide +kernel)
theorem ab_oS2 : Cond.fieldLink RJ0 ab_fsC "java/lang/String" "coder" "B" ∈ ab_U := ab_has_U (p := 1406) (by decide +kernel)
theorem ab_oS3 : Cond.fieldLink RJ0 ab_sfZ "java/lang/String" "COMPACT_STRINGS" "Z" ∈ ab_U := ab_has_U (p := 674) (by decide +kernel)
theorem ab_oS4 : Cond.fieldLink RJ0 ab_sfF "jdk/internal/util/Preconditions" "SIOOBE_FORMATTER" "Ljava/util/function/BiFunction;" ∈ ab_U := ab_has_U (p := 690) (by decide +kernel)
theorem ab_oQ : Cond.classLink (ab_R ab_kq.1) ab_kq.2 "[[I" ∈ ab_U := ab_has_U (p := 89) (by decide +kernel)
end
section
/-! THE ABSTRACT MACHINE: cells have numbers; what they hold that never changes behind the constructors (classes, lengths, references) is S, the ints are μ. -/
abbrev ab_M : Type := Nat → Nat → Int32
/-- (0, class, fields: .int 0 where an int is) | (1 int[], 2 boolean[], 3 char[], length, []) | (5 int[][], 6 Sheet[], 7 Slot[], length, what they hold); of what is only read: (4 byte[]), (8 String) -/
abbrev ab_C : Type := Nat × Nat × List Value
abbrev ab_L : Type := List (Option Value)
/-- the script's length, the script, what SIOOBE_FORMATTER holds -/
abbrev ab_E : Type := Nat × (Nat → Int32) × Value
abbrev ab_H : Type := List ab_C × ab_M
abbrev ab_O : Type := (Nat × ab_L × List Value × ab_M) ⊕ ((Option Value × ab_M) ⊕ (Nat × List Value × Nat × ab_L × List Value))
abbrev ab_OB : Type := (Nat × ab_L × List Value × ab_H) ⊕ ((Option Value × ab_H) ⊕ (Nat × List Value × Nat × ab_L × List Value))
def ab_up (μ : ab_M) (r j : Nat) (x : Int32) : ab_M := fun a => if a = r then upd (μ r) j x else μ a
def ab_upA (μ : ab_M) (r : Nat) (f : Nat → Int32) : ab_M := fun a => if a = r then f else μ a
/-- an index in range, as the machine asks it -/
abbrev ab_in (i : Int32) (n : Nat) : Prop := ¬ (i < 0 ∨ n ≤ i.toNatClampNeg)
def ab_fetch (k pc : Nat) : Option (Instr × Nat) := match decode (ab_B k) pc with
  | .ok r => some r
  | .error _ => none
def ab_cell (E : ab_E) (S : List ab_C) (r : Nat) : Option ab_C :=
  if r < 900 then (match S[r]? with
    | some x => if x.1 = 4 ∨ x.1 = 8 ∨ x.1 = 9 then none else some x
    | none => none) else if r = 999 then some (9, E.1, []) else if 1000 ≤ r ∧ r < 1028 then (if r % 2 = 0 then some (8, (r - 1000) / 2, []) else some (4, (ab_ln.getD ((r - 1000) / 2) 0), [])) else none
def ab_nx (pc : Nat) (L : ab_L) (st : List Value) (μ : ab_M) : Option ab_O := some (.inl (pc, L, st, μ))
def ab_jp (pc : Nat) (off : Int) (L : ab_L) (st : List Value) (μ : ab_M) : Option ab_O := if 0 ≤ (pc : Int) + off then ab_nx ((pc : Int) + off).toNat L st μ else none
def ab_bin (pc : Nat) (f : Int32 → Int32 → Int32) (L : ab_L) (st : List Value) (μ : ab_M) : Option ab_O := match st with
  | .int y :: .int x :: r => ab_nx (pc + 1) L (.int (f x y) :: r) μ
  | _ => none
def ab_dv (pc : Nat) (f : Int32 → Int32 → Int32) (L : ab_L) (st : List Value) (μ : ab_M) : Option ab_O := match st with
  | .int y :: .int x :: r => if y = 0 then none else ab_nx (pc + 1) L (.int (f x y) :: r) μ
  | _ => none
def ab_un (pc : Nat) (f : Int32 → Int32) (L : ab_L) (st : List Value) (μ : ab_M) : Option ab_O := match st with
  | .int x :: r => ab_nx (pc + 1) L (.int (f x) :: r) μ
  | _ => none
def ab_br2 (pc : Nat) (off : Int) (f : Int32 → Int32 → Bool) (L : ab_L) (st : List Value) (μ : ab_M) : Option ab_O := match st with
  | .int y :: .int x :: r => if 0 ≤ (pc : Int) + off then (if f x y then ab_nx ((pc : Int) + off).toNat L r μ else ab_nx (pc + 3) L r μ) else none
  | _ => none
def ab_br1 (pc : Nat) (off : Int) (f : Int32 → Bool) (L : ab_L) (st : List Value) (μ : ab_M) : Option ab_O := match st with
  | .int x :: r => if 0 ≤ (pc : Int) + off then (if f x then ab_nx ((pc : Int) + off).toNat L r μ else ab_nx (pc + 3) L r μ) else none
  | _ => none
def ab_ldI (pc' i : Nat) (L : ab_L) (st : List Value) (μ : ab_M) : Option ab_O := match L[i]? with
  | some (some (.int x)) => ab_nx pc' L (.int x :: st) μ
  | _ => none
def ab_ldA (pc' i : Nat) (L : ab_L) (st : List Value) (μ : ab_M) : Option ab_O := match L[i]? with
  | some (some (.ref x)) => ab_nx pc' L (.ref x :: st) μ
  | _ => none
def ab_stI (pc' i : Nat) (L : ab_L) (st : List Value) (μ : ab_M) : Option ab_O := match st with
  | .int x :: r => if i < L.length then ab_nx pc' (L.set i (some (.int x))) r μ else none
  | _ => none
def ab_stA (pc' i : Nat) (L : ab_L) (st : List Value) (μ : ab_M) : Option ab_O := match st with
  | .ref x :: r => if i < L.length then ab_nx pc' (L.set i (some (.ref x))) r μ else none
  | _ => none
def ab_inc (pc' i : Nat) (n : Int) (L : ab_L) (st : List Value) (μ : ab_M) : Option ab_O := match L[i]? with
  | some (some (.int x)) => ab_nx pc' (L.set i (some (.int (x + Int32.ofInt n)))) st μ
  | _ => none
def ab_ldc (k pc' j : Nat) (L : ab_L) (st : List Value) (μ : ab_M) : Option ab_O := match ab_kc (ab_own k) j with
  | some v => ab_nx pc' L (.int v :: st) μ
  | none => match ab_ks (ab_own k) j with
    | some i => if i < 14 then ab_nx pc' L (.ref (1000 + 2 * i) :: st) μ else none
    | none => none
def ab_ldcw (k pc' j : Nat) (L : ab_L) (st : List Value) (μ : ab_M) : Option ab_O := match ab_kc (ab_own k) j with
  | some v => ab_nx pc' L (.int v :: st) μ
  | none => none
def ab_tsw (pc : Nat) (d lo hi : Int) (os : Array Int) (L : ab_L) (st : List Value) (μ : ab_M) : Option ab_O := match st with
  | .int x :: r => if x.toInt < lo ∨ hi < x.toInt then ab_jp pc d L r μ else match os[(x.toInt - lo).toNat]? with
    | some off => ab_jp pc off L r μ
    | none => none
  | _ => none
def ab_lsw (pc : Nat) (d : Int) (ps : Array (Int × Int)) (L : ab_L) (st : List Value) (μ : ab_M) : Option ab_O := match st with
  | .int x :: r => if (ps.toList.zip (ps.toList.drop 1)).all (fun (a, next) => a.1 < next.1) then ab_jp pc (Op.lookupswitch.offset ps.toList d x.toInt) L r μ else none
  | _ => none
/-- an int field | a reference's field | a String's -/
def ab_fv (E : ab_E) (S : List ab_C) (k j r : Nat) (μ : ab_M) : Option Value := match ab_cell E S r with
  | some (0, c, vs) => match ab_fl (ab_own k) j with
    | some (ci, fi) => if c = ci then match vs[fi]? with
        | some (.int _) => some (.int (μ r fi))
        | some (.ref q) => some (.ref q)
        | _ => none
      else none
    | none => none
  | some (8, _, _) => if ab_own k = 9 then (if j = ab_fsV then some (.ref (r + 1)) else if j = ab_fsC then some (.int 0) else none) else none
  | _ => none
def ab_getf (E : ab_E) (S : List ab_C) (k pc j : Nat) (L : ab_L) (st : List Value) (μ : ab_M) : Option ab_O := match st with
  | .ref r :: rest => match ab_fv E S k j r μ with
    | some v => ab_nx (pc + 3) L (v :: rest) μ
    | none => none
  | _ => none
def ab_putf (S : List ab_C) (k pc j : Nat) (L : ab_L) (st : List Value) (μ : ab_M) : Option ab_O := match st with
  | .int x :: .ref r :: rest => if r < 900 then match S[r]? with
    | some (0, c, vs) => match ab_fl (ab_own k) j with
      | some (ci, fi) => if c = ci ∧ fi < ab_N ci ∧ (ab_T ci fi).2.2.2 = false ∧ narrow (ab_ty ci fi) (.int x) = .int x ∧ fits (ab_ty ci fi) (.int x) = true then match vs[fi]? with
          | some (.int _) => ab_nx (pc + 3) L rest (ab_up μ r fi x)
          | _ => none
        else none
      | none => none
    | _ => none
    else none
  | _ => none
/-- what stands in an array of ints (tag 1, 2, 3), of bytes (4), of the script (9) -/
def ab_av (E : ab_E) (S : List ab_C) (μ : ab_M) (r : Nat) (tg : List Nat) (i : Int32) : Option Int32 := match ab_cell E S r with
  | some (t, n, _) => if t ∈ tg ∧ ab_in i n then (if t = 4 then some ((ab_by.getD ((r - 1000) / 2) []).getD i.toNatClampNeg 0) else if t = 9 then some (E.2.1 i.toNatClampNeg) else some (μ r i.toNatClampNeg)) else none
  | none => none
def ab_ald (E : ab_E) (S : List ab_C) (tg : List Nat) (pc : Nat) (L : ab_L) (st : List Value) (μ : ab_M) : Option ab_O := match st with
  | .int i :: .ref r :: rest => match ab_av E S μ r tg i with
    | some v => ab_nx (pc + 1) L (.int v :: rest) μ
    | none => none
  | _ => none
def ab_ast (S : List ab_C) (t : Nat) (f : Int32 → Int32) (pc : Nat) (L : ab_L) (st : List Value) (μ : ab_M) : Option ab_O := match st with
  | .int x :: .int i :: .ref r :: rest => if r < 900 then match S[r]? with
    | some (t', n, _) => if t' = t ∧ ab_in i n then ab_nx (pc + 1) L rest (ab_up μ r i.toNatClampNeg (f x)) else none
    | none => none
    else none
  | _ => none
def ab_aald (S : List ab_C) (pc : Nat) (L : ab_L) (st : List Value) (μ : ab_M) : Option ab_O := match st with
  | .int i :: .ref r :: rest => if r < 900 then match S[r]? with
    | some (t, n, vs) => if (t = 5 ∨ t = 6 ∨ t = 7) ∧ ab_in i n then match vs[i.toNatClampNeg]? with
        | some (.ref q) => ab_nx (pc + 1) L (.ref q :: rest) μ
        | _ => none
      else none
    | none => none
    else none
  | _ => none
def ab_alen (E : ab_E) (S : List ab_C) (pc : Nat) (L : ab_L) (st : List Value) (μ : ab_M) : Option ab_O := match st with
  | .ref r :: rest => match ab_cell E S r with
    | some (t, n, _) => if t = 1 ∨ t = 4 ∨ t = 9 then ab_nx (pc + 1) L (.int (Int32.ofNat n) :: rest) μ else none
    | none => none
  | _ => none
def ab_gets (E : ab_E) (k pc j : Nat) (L : ab_L) (st : List Value) (μ : ab_M) : Option ab_O :=
  if ab_own k = 9 then (if j = ab_sfZ then ab_nx (pc + 3) L (.int 1 :: st) μ else if j = ab_sfF then ab_nx (pc + 3) L (E.2.2 :: st) μ else none) else none
/-- a call: the method, its arguments (the receiver first), what is left of the stack -/
def ab_cal (k' pc : Nat) (L : ab_L) (as rest : List Value) : Option ab_O := if (rest.map fun v => v.category).sum ≤ 8 ∧ (as.all fun v => v.category == 1) = true ∧ as.length ≤ ab_mL k' then some (.inr (.inr (k', as, pc + 3, L, rest))) else none
def ab_isRecv (E : ab_E) (S : List ab_C) (k' r : Nat) : Bool := match ab_cell E S r with
  | some (0, c, _) => decide (c = ab_own k')
  | some (8, _, _) => decide (ab_own k' = 9)
  | _ => false
def ab_vir (E : ab_E) (S : List ab_C) (k pc j : Nat) (L : ab_L) (st : List Value) : Option ab_O := match ab_mk ab_mlV (ab_own k) j with
  | some k' => match st.drop (ab_np k') with
    | .ref r :: rest => if (st.take (ab_np k')).length = ab_np k' ∧ ab_isRecv E S k' r = true then ab_cal k' pc L (.ref r :: (st.take (ab_np k')).reverse) rest else none
    | _ => none
  | none => none
def ab_acp (S : List ab_C) (pc : Nat) (L : ab_L) (st : List Value) (μ : ab_M) : Option ab_O := match st with
  | .int n :: .int dp :: .ref d :: .int sp :: .ref r :: rest => if r < 900 ∧ d < 900 then match S[r]?, S[d]? with
    | some (1, n0, _), some (1, n1, _) => if ¬ sp < 0 ∧ ¬ dp < 0 ∧ ¬ n < 0 ∧ sp.toNatClampNeg + n.toNatClampNeg ≤ n0 ∧ dp.toNatClampNeg + n.toNatClampNeg ≤ n1 ∧ (rest.map fun v => v.category).sum ≤ 8 then
        ab_nx (pc + 3) L rest (ab_upA μ d (va_cpy (μ r) (μ d) sp.toNatClampNeg dp.toNatClampNeg n.toNatClampNeg)) else none
    | _, _ => none
    else none
  | _ => none
def ab_sta (S : List ab_C) (k pc j : Nat) (L : ab_L) (st : List Value) (μ : ab_M) : Option ab_O := match ab_mk (ab_mlS ++ ab_mlSN) (ab_own k) j with
  | some k' => if (st.take (ab_np k')).length = ab_np k' then ab_cal k' pc L (st.take (ab_np k')).reverse (st.drop (ab_np k')) else none
  | none => if (ab_own k, j) ∈ ab_mlC then ab_acp S pc L st μ else none
def ab_spe (k pc j : Nat) (L : ab_L) (st : List Value) (μ : ab_M) : Option ab_O := match ab_mk (ab_mlI ++ ab_mlIN) (ab_own k) j with
  | some k' => match st.drop (ab_np k') with
    | .ref r :: rest => if (st.take (ab_np k')).length = ab_np k' then ab_cal k' pc L (.ref r :: (st.take (ab_np k')).reverse) rest else none
    | _ => none
  | none => match st with
    | .ref _ :: rest => if (ab_own k, j) ∈ ab_mlO ∧ (rest.map fun v => v.category).sum ≤ 8 then ab_nx (pc + 3) L rest μ else none
    | _ => none
def ab_isObj (t : FieldType) : Bool := match t with
  | .object _ => true
  | _ => false
def ab_retI (k : Nat) (st : List Value) (μ : ab_M) : Option ab_O := match st, ab_rt k with
  | [.int x], some ty => if ab_isObj ty = false ∧ narrow ty (.int x) = .int x then some (.inr (.inl (some (.int x), μ))) else none
  | _, _ => none
def ab_retA (k : Nat) (st : List Value) (μ : ab_M) : Option ab_O := match st, ab_rt k with
  | [.ref x], some (.object _) => some (.inr (.inl (some (.ref x), μ)))
  | _, _ => none
def ab_retV (k : Nat) (st : List Value) (μ : ab_M) : Option ab_O := match st, ab_rt k with
  | [], none => some (.inr (.inl (none, μ)))
  | _, _ => none
/-- how long each instruction is, of those that are read -/
def ab_len (i : Instr) (n : Nat) : Bool := match i with
  | .bipush _ | .iload _ | .aload _ | .istore _ | .astore _ | .ldc _ | .newarray _ => n == 2
  | .sipush _ | .ldc_w _ | .iinc _ _ | .if_icmp _ _ | .ifCond _ _ | .goto _ | .getfield _ | .putfield _ | .getstatic _ | .invokevirtual _ | .invokestatic _ | .invokespecial _ | .new _ | .anewarray _ => n == 3
  | .multianewarray _ _ => n == 4
  | .tableswitch _ _ _ _ | .lookupswitch _ _ => true
  | _ => n == 1
def ab_ex (E : ab_E) (S : List ab_C) (k pc : Nat) (i : Instr) (L : ab_L) (st : List Value) (μ : ab_M) : Option ab_O := match i with
  | .iconst n => ab_nx (pc + 1) L (.int (Int32.ofInt n) :: st) μ
  | .bipush n => ab_nx (pc + 2) L (.int (Int8.ofInt n).toInt32 :: st) μ
  | .sipush n => ab_nx (pc + 3) L (.int (Int16.ofInt n).toInt32 :: st) μ
  | .ldc j => ab_ldc k (pc + 2) j L st μ
  | .ldc_w j => ab_ldcw k (pc + 3) j L st μ
  | .iload i => ab_ldI (pc + 2) i L st μ
  | .iload_n i => ab_ldI (pc + 1) i L st μ
  | .aload i => ab_ldA (pc + 2) i L st μ
  | .aload_n i => ab_ldA (pc + 1) i L st μ
  | .istore i => ab_stI (pc + 2) i L st μ
  | .istore_n i => ab_stI (pc + 1) i L st μ
  | .astore i => ab_stA (pc + 2) i L st μ
  | .astore_n i => ab_stA (pc + 1) i L st μ
  | .iinc i n => ab_inc (pc + 3) i n L st μ
  | .iadd => ab_bin pc (fun x y => x + y) L st μ
  | .isub => ab_bin pc (fun x y => x - y) L st μ
  | .imul => ab_bin pc (fun x y => x * y) L st μ
  | .iand => ab_bin pc (fun x y => x &&& y) L st μ
  | .ior => ab_bin pc (fun x y => x ||| y) L st μ
  | .ixor => ab_bin pc (fun x y => x ^^^ y) L st μ
  | .idiv => ab_dv pc (fun x y => x / y) L st μ
  | .irem => ab_dv pc (fun x y => x - x / y * y) L st μ
  | .ineg => ab_un pc (fun x => -x) L st μ
  | .ishl => ab_bin pc (fun x y => x <<< (y &&& 31)) L st μ
  | .ishr => ab_bin pc (fun x y => x >>> (y &&& 31)) L st μ
  | .iushr => ab_bin pc (fun x y => (x.toUInt32 >>> (y.toUInt32 &&& Int32.toUInt32 31)).toInt32) L st μ
  | .i2b => ab_un pc (fun x => x.toInt8.toInt32) L st μ
  | .i2s => ab_un pc (fun x => x.toInt16.toInt32) L st μ
  | .i2c => ab_un pc (fun x => (x.toUInt32 % 65536).toInt32) L st μ
  | .dup => match st with
    | .int x :: r => ab_nx (pc + 1) L (.int x :: .int x :: r) μ
    | .ref x :: r => ab_nx (pc + 1) L (.ref x :: .ref x :: r) μ
    | _ => none
  | .dup2 => match st with
    | .int y :: .ref x :: r => ab_nx (pc + 1) L (.int y :: .ref x :: .int y :: .ref x :: r) μ
    | _ => none
  | .pop => match st with
    | .int _ :: r => ab_nx (pc + 1) L r μ
    | _ => none
  | .if_icmp .eq off => ab_br2 pc off (fun x y => decide (x = y)) L st μ
  | .if_icmp .ne off => ab_br2 pc off (fun x y => decide (¬ x = y)) L st μ
  | .if_icmp .lt off => ab_br2 pc off (fun x y => decide (x < y)) L st μ
  | .if_icmp .ge off => ab_br2 pc off (fun x y => decide (y ≤ x)) L st μ
  | .if_icmp .gt off => ab_br2 pc off (fun x y => decide (y < x)) L st μ
  | .if_icmp .le off => ab_br2 pc off (fun x y => decide (x ≤ y)) L st μ
  | .ifCond .eq off => ab_br1 pc off (fun x => decide (x = 0)) L st μ
  | .ifCond .ne off => ab_br1 pc off (fun x => decide (¬ x = 0)) L st μ
  | .ifCond .lt off => ab_br1 pc off (fun x => decide (x < 0)) L st μ
  | .ifCond .ge off => ab_br1 pc off (fun x => decide (0 ≤ x)) L st μ
  | .ifCond .gt off => ab_br1 pc off (fun x => decide (0 < x)) L st μ
  | .ifCond .le off => ab_br1 pc off (fun x => decide (x ≤ 0)) L st μ
  | .goto off => ab_jp pc off L st μ
  | .tableswitch d lo hi os => ab_tsw pc d lo hi os L st μ
  | .lookupswitch d ps => ab_lsw pc d ps L st μ
  | .getfield j => ab_getf E S k pc j L st μ
  | .putfield j => ab_putf S k pc j L st μ
  | .iaload => ab_ald E S [1, 9] pc L st μ
  | .baload => ab_ald E S [2, 4] pc L st μ
  | .caload => ab_ald E S [3] pc L st μ
  | .iastore => ab_ast S 1 (fun x => x) pc L st μ
  | .bastore => ab_ast S 2 (vp_nar .boolean) pc L st μ
  | .castore => ab_ast S 3 (vp_nar .char) pc L st μ
  | .aaload => ab_aald S pc L st μ
  | .arraylength => ab_alen E S pc L st μ
  | .getstatic j => ab_gets E k pc j L st μ
  | .invokevirtual j => ab_vir E S k pc j L st
  | .invokestatic j => ab_sta S k pc j L st μ
  | .invokespecial j => ab_spe k pc j L st μ
  | .ireturn => ab_retI k st μ
  | .areturn => ab_retA k st μ
  | .return_ => ab_retV k st μ
  | _ => none
def ab_core (E : ab_E) (S : List ab_C) (k pc : Nat) (L : ab_L) (st : List Value) (μ : ab_M) : Option ab_O := match ab_fetch k pc with
  | some (i, n) => if ab_len i n then ab_ex E S k pc i L st μ else none
  | none => none
/-- a method's locals at its entry -/
def ab_ent (k : Nat) (as : List Value) : ab_L := as.map some ++ List.replicate (ab_mL k - as.length) none
/-- THE MACHINE over a heap whose shape stays -/
def ab_run (E : ab_E) (S : List ab_C) : Nat → Nat → Nat → Nat → ab_L → List Value → ab_M → Option (Option Value × ab_M)
  | 0, _, _, _, _, _, _ => none
  | n + 1, d, k, pc, L, st, μ => match ab_core E S k pc L st μ with
    | some (.inl (pc', L', st', μ')) => ab_run E S n d k pc' L' st' μ'
    | some (.inr (.inl r)) => some r
    | some (.inr (.inr (k', as, pc', L', st'))) => match d with
      | 0 => none
      | d' + 1 => match ab_run E S n d' k' 0 (ab_ent k' as) [] μ with
        | some (v, μ') => ab_run E S n (d' + 1) k pc' L' (v.toList ++ st') μ'
        | none => none
    | none => none
/-! what makes cells, or writes references -/
def ab_zs (c : Nat) : List Value := (List.range (ab_N c)).map fun j => defaultValue (ab_ty c j)
def ab_tag (t : ArrayType) : Nat := match t with
  | .int => 1
  | .boolean => 2
  | .char => 3
  | _ => 0
def ab_alloc (S : List ab_C) (k pc : Nat) (i : Instr) (L : ab_L) (st : List Value) (μ : ab_M) : Option (Nat × ab_L × List Value × ab_H) := match i with
  | .new j => match ab_kl (ab_own k) j with
    | some c => if S.length < 900 then some (pc + 3, L, .ref S.length :: st, S ++ [(0, c, ab_zs c)], ab_upA μ S.length (fun _ => 0)) else none
    | none => none
  | .newarray t => match st with
    | .int n :: r => if S.length < 900 ∧ ¬ n < 0 ∧ n.toNatClampNeg ≤ 10000 ∧ ab_tag t ≠ 0 then some (pc + 2, L, .ref S.length :: r, S ++ [(ab_tag t, n.toNatClampNeg, [])], ab_upA μ S.length (fun _ => 0)) else none
    | _ => none
  | .anewarray j => match st, ab_kl (ab_own k) j with
    | .int n :: r, some c => if S.length < 900 ∧ ¬ n < 0 ∧ n.toNatClampNeg ≤ 10000 ∧ (c = 3 ∨ c = 4) then some (pc + 3, L, .ref S.length :: r, S ++ [(c + 3, n.toNatClampNeg, List.replicate n.toNatClampNeg .null)], ab_upA μ S.length (fun _ => 0)) else none
    | _, _ => none
  | .multianewarray j dm => match st with
    | .int kk :: .int n :: r => if (ab_own k, j) = ab_kq ∧ dm = 2 ∧ S.length + n.toNatClampNeg < 900 ∧ ¬ n < 0 ∧ ¬ kk < 0 ∧ n.toNatClampNeg ≤ 1000 ∧ kk.toNatClampNeg ≤ 1000 then
        some (pc + 4, L, .ref S.length :: r, S ++ [(5, n.toNatClampNeg, (List.range n.toNatClampNeg).map fun q => .ref (S.length + 1 + q))] ++ List.replicate n.toNatClampNeg (1, kk.toNatClampNeg, []), fun a => if S.length ≤ a then (fun _ => 0) else μ a) else none
    | _ => none
  | .putfield j => match st with
    | .ref q :: .ref r :: rest => if r < 900 then match S[r]? with
      | some (0, c, vs) => match ab_fl (ab_own k) j with
        | some (ci, fi) => if c = ci ∧ fi < ab_N ci ∧ (ab_T ci fi).2.2.2 = true ∧ (ab_Y k).name = "<init>" ∧ ab_own k = ci ∧ (ab_ty ci fi).isReference = true ∧ fi < vs.length then some (pc + 3, L, rest, S.set r (0, c, vs.set fi (.ref q)), μ) else none
        | none => none
      | _ => none
      else none
    | _ => none
  | .aastore => match st with
    | .ref q :: .int i :: .ref r :: rest => if r < 900 ∧ q < 900 then match S[r]?, S[q]? with
      | some (t, n, vs), some (0, c, _) => if (c = 3 ∨ c = 4) ∧ t = c + 3 ∧ ab_in i n ∧ vs.length = n then some (pc + 1, L, rest, S.set r (t, n, vs.set i.toNatClampNeg (.ref q)), μ) else none
      | _, _ => none
      else none
    | _ => none
  | _ => none
def ab_step (E : ab_E) (k pc : Nat) (L : ab_L) (st : List Value) (h : ab_H) : Option ab_OB := match ab_core E h.1 k pc L st h.2 with
  | some (.inl (pc', L', st', μ')) => some (.inl (pc', L', st', (h.1, μ')))
  | some (.inr (.inl (v, μ'))) => some (.inr (.inl (v, (h.1, μ'))))
  | some (.inr (.inr c)) => some (.inr (.inr c))
  | none => match ab_fetch k pc with
    | some (i, n) => if ab_len i n then (ab_alloc h.1 k pc i L st h.2).map .inl else none
    | none => none
/-- THE MACHINE, cells made too -/
def ab_runB (E : ab_E) : Nat → Nat → Nat → Nat → ab_L → List Value → ab_H → Option (Option Value × ab_H)
  | 0, _, _, _, _, _, _ => none
  | n + 1, d, k, pc, L, st, h => match ab_step E k pc L st h with
    | some (.inl (pc', L', st', h')) => ab_runB E n d k pc' L' st' h'
    | some (.inr (.inl r)) => some r
    | some (.inr (.inr (k', as, pc', L', st'))) => match d with
      | 0 => none
      | d' + 1 => match ab_runB E n d' k' 0 (ab_ent k' as) [] h with
        | some (v, h') => ab_runB E n (d' + 1) k pc' L' (v.toList ++ st') h'
        | none => none
    | none => none
theorem ab_run_runB (E : ab_E) (S : List ab_C) : ∀ (n d k pc : Nat) (L : ab_L) (st : List Value) (μ : ab_M) (r : Option Value × ab_M), ab_run E S n d k pc L st μ = some r → ab_runB E n d k pc L st (S, μ) = some (r.1, (S, r.2)) := by
  intro n
  induction n with
  | zero => intro d k pc L st μ r h; cases h
  | succ n ih =>
    intro d k pc L st μ r h
    unfold ab_run at h
    unfold ab_runB ab_step
    split at h
    · rename_i e; rw [e]; exact ih _ _ _ _ _ _ _ h
    · rename_i e; rw [e]; cases h; rfl
    · rename_i e
      rw [e]
      cases d with
      | zero => cases h
      | succ d =>
        simp only at h ⊢
        split at h
        · rename_i e2
          rw [ih _ _ _ _ _ _ _ e2]
          exact ih _ _ _ _ _ _ _ h
        · cases h
    · cases h
end
section
/-! THE ABSTRACT HEAP AND THE MACHINE'S: cell i lies at B0 + i -/
def ab_tr (ad : Nat → Nat) (v : Value) : Value := match v with
  | .ref r => .ref (ad r)
  | v => v
/-- a field of the cell i -/
def ab_f1 (ad : Nat → Nat) (μ : ab_M) (i j : Nat) (v : Value) : Value := match v with
  | .int _ => .int (μ i j)
  | v => ab_tr ad v
/-- a place of an array of references -/
def ab_q1 (ad : Nat → Nat) (vs : List Value) (j : Nat) : Option Nat := match vs[j]? with
  | some (.ref q) => some (ad q)
  | _ => none
def ab_w1 (cT : Nat → ClassId) (ad : Nat → Nat) (μ : ab_M) (i : Nat) (c : ab_C) : Nat × va_E :=
  (ad i, if c.1 = 0 then .inr (c.2.1, c.2.2.mapIdx (ab_f1 ad μ i))
    else if c.1 ≤ 3 then .inl (cT c.1, c.2.1, .inl (μ i))
    else .inl (cT c.1, c.2.1, .inr (.inr (.inr (.inr (ab_q1 ad c.2.2))))))
def ab_wd (cT : Nat → ClassId) (ad : Nat → Nat) (S : List ab_C) (μ : ab_M) : va_W := S.mapIdx fun i c => ab_w1 cT ad μ i c
def ab_tys (cT : Nat → ClassId) : List (ClassId × FieldType) := [(cT 1, .int), (cT 2, .boolean), (cT 3, .char), (cT 5, .array .int), (cT 6, .object RX3), (cT 7, .object RX4)]
section
variable {cT : Nat → ClassId} {ad : Nat → Nat} {S : List ab_C} {μ μ' : ab_M} {r B0 : Nat} {c : ab_C}
theorem ab_w1_0 {ci : Nat} {vs : List Value} : ab_w1 cT ad μ r (0, ci, vs) = (ad r, .inr (ci, vs.mapIdx (ab_f1 ad μ r))) := rfl
theorem ab_w1_a {t n : Nat} {vs : List Value} (h0 : t ≠ 0) (h : t ≤ 3) : ab_w1 cT ad μ r (t, n, vs) = (ad r, .inl (cT t, n, .inl (μ r))) := by
  unfold ab_w1; simp [h0, h]
theorem ab_w1_q {t n : Nat} {vs : List Value} (h : 4 ≤ t) : ab_w1 cT ad μ r (t, n, vs) = (ad r, .inl (cT t, n, .inr (.inr (.inr (.inr (ab_q1 ad vs)))))) := by
  unfold ab_w1
  rw [if_neg (show ¬ (t, n, vs).1 = 0 by show ¬ t = 0; omega), if_neg (show ¬ (t, n, vs).1 ≤ 3 by show ¬ t ≤ 3; omega)]
theorem ab_wd_at (h : S[r]? = some c) : (ab_wd cT ad S μ)[r]? = some (ab_w1 cT ad μ r c) := by
  unfold ab_wd; rw [List.getElem?_mapIdx, h]; rfl
theorem ab_wd_inv {q : Nat × va_E} (h : (ab_wd cT ad S μ)[r]? = some q) : ∃ c, S[r]? = some c ∧ q = ab_w1 cT ad μ r c := by
  unfold ab_wd at h; rw [List.getElem?_mapIdx] at h
  cases e : S[r]? with
  | none => rw [e] at h; cases h
  | some c => rw [e] at h; exact ⟨c, rfl, (Option.some.inj h).symm⟩
theorem ab_wd_len : (ab_wd cT ad S μ).length = S.length := by unfold ab_wd; simp
theorem ab_D (had : ∀ i, i < 900 → ad i = B0 + i) (hS : S.length ≤ 900) : va_D (fun q => B0 ≤ q) (ab_wd cT ad S μ) := by
  have hlt : ∀ {i : Nat} {q : Nat × va_E}, (ab_wd cT ad S μ)[i]? = some q → i < 900 := fun {i q} h => by
    have := (List.getElem?_eq_some_iff.mp h).1
    rw [ab_wd_len] at this
    omega
  refine ⟨fun i j p q hp hq e => ?_, fun k q hq => ?_⟩
  · obtain ⟨c, -, rfl⟩ := ab_wd_inv hp
    obtain ⟨c', -, rfl⟩ := ab_wd_inv hq
    have e : ad i = ad j := e
    rw [had i (hlt hp), had j (hlt hq)] at e
    omega
  · obtain ⟨c, -, rfl⟩ := ab_wd_inv hq
    show B0 ≤ ad k
    rw [had k (hlt hq)]
    omega
theorem ab_w1_c {μ μ' : ab_M} (h : μ' r = μ r) : ab_w1 cT ad μ' r c = ab_w1 cT ad μ r c := by
  unfold ab_w1; rw [h]
  have : ab_f1 ad μ' r = ab_f1 ad μ r := by funext j v; unfold ab_f1; rw [h]
  rw [this]
theorem ab_wd_set (h : S[r]? = some c) (hμ : ∀ a, a ≠ r → μ' a = μ a) : (ab_wd cT ad S μ).set r (ab_w1 cT ad μ' r c) = ab_wd cT ad S μ' := by
  apply List.ext_getElem?
  intro i
  unfold ab_wd
  rw [List.getElem?_set, List.getElem?_mapIdx, List.getElem?_mapIdx]
  by_cases e : r = i
  · subst e
    have : r < S.length := (List.getElem?_eq_some_iff.mp h).1
    rw [if_pos rfl, List.length_mapIdx, if_pos this, h]
    rfl
  · rw [if_neg e]
    cases S[i]? with
    | none => rfl
    | some c => simp only [Option.map_some]; rw [ab_w1_c (hμ i (fun q => e q.symm))]
theorem ab_wd_setS {c' : ab_C} (h : r < S.length) : (ab_wd cT ad S μ).set r (ab_w1 cT ad μ r c') = ab_wd cT ad (S.set r c') μ := by
  apply List.ext_getElem?
  intro i
  unfold ab_wd
  rw [List.getElem?_set, List.getElem?_mapIdx, List.getElem?_mapIdx, List.getElem?_set]
  by_cases e : r = i
  · subst e; simp [h]
  · rw [if_neg e, if_neg e]
theorem ab_wd_push {S2 : List ab_C} (hμ : ∀ a, a < S.length → μ' a = μ a) : ab_wd cT ad (S ++ S2) μ' = ab_wd cT ad S μ ++ S2.mapIdx (fun i c => ab_w1 cT ad μ' (S.length + i) c) := by
  unfold ab_wd
  rw [List.mapIdx_append]
  congr 1
  · apply List.ext_getElem?
    intro i
    rw [List.getElem?_mapIdx, List.getElem?_mapIdx]
    cases e : S[i]? with
    | none => rfl
    | some c => simp only [Option.map_some]; rw [ab_w1_c (hμ i (List.getElem?_eq_some_iff.mp e).1)]
  · apply List.ext_getElem?
    intro i
    rw [List.getElem?_mapIdx, List.getElem?_mapIdx, Nat.add_comm]
end
/-! locals -/
def ab_LR (ad : Nat → Nat) (nL : Nat) (L : ab_L) (ls : Array Slot) : Prop := ls.size = nL ∧ lv_wf ls ∧ L.length ≤ nL ∧ ∀ (i : Nat) (v : Value), L[i]? = some (some v) → ls[i]? = some (.val (ab_tr ad v)) ∧ (ab_tr ad v).category = 1
def ab_lv (ad : Nat → Nat) (L : ab_L) : List (Nat × Value) := (List.range L.length).filterMap fun i => match L[i]? with
  | some (some v) => some (i, ab_tr ad v)
  | _ => none
theorem ab_lv_mem {ad : Nat → Nat} {L : ab_L} {q : Nat × Value} : q ∈ ab_lv ad L ↔ ∃ v, L[q.1]? = some (some v) ∧ q.2 = ab_tr ad v := by
  unfold ab_lv
  rw [List.mem_filterMap]
  constructor
  · rintro ⟨i, -, h⟩
    split at h
    · rename_i v e; cases h; exact ⟨v, e, rfl⟩
    · cases h
  · rintro ⟨v, h1, h2⟩
    refine ⟨q.1, List.mem_range.mpr (List.getElem?_eq_some_iff.mp h1).1, ?_⟩
    rw [h1]
    simp only [← h2]
theorem ab_LR.has {ad : Nat → Nat} {nL : Nat} {L : ab_L} {ls : Array Slot} (h : ab_LR ad nL L ls) : lv_has ls nL (ab_lv ad L) :=
  ⟨h.1, h.2.1, fun q hq => by obtain ⟨v, h1, h2⟩ := ab_lv_mem.mp hq; rw [h2]; exact (h.2.2.2 q.1 v h1).1⟩
theorem ab_LR.set {ad : Nat → Nat} {nL i : Nat} {L : ab_L} {ls ls' : Array Slot} {v : Value} (h : ab_LR ad nL L ls) (hv : (ab_tr ad v).category = 1) (h' : lv_has ls' nL ((i, ab_tr ad v) :: (ab_lv ad L).filter (fun q => !(q.1 == i) && !(q.1 + 1 == i && q.2.category == 2)))) : ab_LR ad nL (L.set i (some v)) ls' := by
  refine ⟨h'.1, h'.2.1, by rw [List.length_set]; exact h.2.2.1, fun j w hw => ?_⟩
  rw [List.getElem?_set] at hw
  by_cases e : i = j
  · subst e
    rw [if_pos rfl] at hw
    split at hw
    · cases hw
      exact ⟨h'.2.2 (i, ab_tr ad v) List.mem_cons_self, hv⟩
    · cases hw
  · rw [if_neg e] at hw
    have h1 := h.2.2.2 j w hw
    refine ⟨h'.2.2 (j, ab_tr ad w) (List.mem_cons_of_mem _ (List.mem_filter.mpr ⟨ab_lv_mem.mpr ⟨w, hw, rfl⟩, ?_⟩)), h1.2⟩
    have : (j == i) = false := by simpa using fun q => e q.symm
    simp [this, h1.2]
end
section
/-! THE CONTEXT: what every state of the run holds beside the abstract heap -/
def ab_AOA (U : State) : Prop := (Cond.arrayOver (.array .int)).before #[] U = true
theorem ab_AOA_spec {A : Array Value} {U : State} (h : (Cond.arrayOver (.array .int)).before A U = true) : ∃ comp c k, U.vm.findClass (FieldType.array .int).toString = some comp ∧ (U.vm.classes.findIdx? fun (x : Class) => match x.kind with | .array component _ => component == comp | _ => false) = some c ∧ U.vm.classes[c]? = some k ∧ k.kind = .array comp (.array .int) ∧ U.vm.findClass ("[" ++ (FieldType.array .int).toString) = some c := by
  unfold Cond.before at h
  simp only [Cond.holds, Cond.value, beq_iff_eq] at h
  cases hc : U.vm.findClass (FieldType.array .int).toString with
  | none => simp [hc] at h
  | some comp =>
    simp only [hc, Option.bind_some, Option.bind_eq_some_iff, Option.map_eq_some_iff] at h
    obtain ⟨c, hi, k, hk, hb⟩ := h
    obtain ⟨hlt, hp, -⟩ := Array.findIdx?_eq_some_iff_getElem.mp hi
    have hkk : U.vm.classes[c] = k := (Array.getElem?_eq_some_iff.mp hk).2
    rw [hkk] at hp
    cases hkind : k.kind with
    | array component ty =>
      rw [hkind] at hb hp
      simp at hb hp
      exact ⟨comp, c, k, rfl, hi, hk, by rw [hkind, hp, hb.1], hb.2⟩
    | _ => rw [hkind] at hb; simp at hb
theorem ab_AOA.moved {u U : State} (hvm : u.vm.Alike U.vm) (h : ab_AOA u) : ab_AOA U := by
  obtain ⟨comp, c, k, h1, h2, h3, h4, h5⟩ := ab_AOA_spec h
  obtain ⟨k', hk', he⟩ := hvm.2.2 _ _ h3
  have hi : (U.vm.classes.findIdx? fun (x : Class) => match x.kind with | .array component _ => component == comp | _ => false) = some c := by
    have hb : U.vm.bare = u.vm.bare := by first | exact hvm.bare_eq | exact hvm.bare_eq.symm
    refine (va_idx_bare U.vm comp).symm.trans ?_
    rw [hb]
    exact (va_idx_bare u.vm comp).trans h2
  have hkind : k'.kind = .array comp (.array .int) := by rw [he]; exact h4
  have f1 : U.vm.findClass (FieldType.array .int).toString = some comp := by rw [hvm.findClass]; exact h1
  have f2 : U.vm.findClass ("[" ++ (FieldType.array .int).toString) = some c := by rw [hvm.findClass]; exact h5
  unfold ab_AOA Cond.before Cond.holds
  simp only [Cond.value]
  rw [f1, Option.bind_some]
  refine (congrArg (fun o : Option Nat => (o.bind (fun c => (U.vm.classes[c]?).map fun (k : Class) => match k.kind with | .array _ ty => decide (ty = FieldType.array .int) && decide (U.vm.findClass ("[" ++ (FieldType.array .int).toString) = some c) | _ => false) == some true)) hi).trans ?_
  simp [hk', hkind, f2]
theorem ab_AOA.use {A : Array Value} {U : State} (h : ab_AOA U) : (Cond.arrayOver (.array .int)).before A U = true := h
def ab_Ctx (D : va_G) (cT : Nat → ClassId) (ad : Nat → Nat) (B0 : Nat) (E : ab_E) (s : State) : Prop :=
  va_K D ab_cl (ab_tys cT) s ∧
  (∀ e ∈ ab_mlSN ++ ab_mlIN, va_Nw (.methodLinkNest (ab_R e.1) e.2.1 (ab_Y e.2.2) RX6) s) ∧
  (va_AO RX3 s ∧ va_AO RX4 s ∧ ab_AOA s) ∧
  (∀ e ∈ ab_ksT, vk_R (ab_R e.1) e.2.1 (ab_tx.getD e.2.2 "") (ad (1000 + 2 * e.2.2)) s) ∧
  vk_S 14 ab_ln ab_by (fun i => ad (1000 + 2 * i)) (fun i => ad (1001 + 2 * i)) (fun q => B0 ≤ q) s s.heap ∧
  va_Z "java/lang/String" "COMPACT_STRINGS" "Z" (.int 1) (fun q => B0 ≤ q) s s.heap ∧
  va_Z "jdk/internal/util/Preconditions" "SIOOBE_FORMATTER" "Ljava/util/function/BiFunction;" (ab_tr ad E.2.2) (fun q => B0 ≤ q) s s.heap ∧
  va_X (ad 999) E.1 E.2.1 s s.heap ∧ ad 999 < B0 ∧ B0 ≤ s.heap.size ∧ (∀ i, i < 900 → ad i = B0 + i) ∧ (E.2.2 = .null ∨ E.2.2 = .ref 998)
theorem ab_Ctx.mv {D : va_G} {cT : Nat → ClassId} {ad : Nat → Nat} {B0 : Nat} {E : ab_E} {s U : State} (h : ab_Ctx D cT ad B0 E s) (hA : s.vm.Alike U.vm) (hN : ∀ a i x hh, va_Nw (.methodLinkNest a i x hh) s → va_Nw (.methodLinkNest a i x hh) U) (hR : ∀ own k tx a, vk_R own k tx a s → vk_R own k tx a U) (hH : ∀ q : Nat, q < s.heap.size → ¬ B0 ≤ q → U.heap[q]? = s.heap[q]?) (hz : s.heap.size ≤ U.heap.size) : ab_Ctx D cT ad B0 E U := by
  obtain ⟨a1, a2, ⟨a3, a4, a5⟩, a6, a7, a8, a9, a10, a11, a12, a13, a14⟩ := h
  exact ⟨a1.moved hA, fun e he => hN _ _ _ _ (a2 e he), ⟨a3.moved hA, a4.moved hA, a5.moved hA⟩, fun e he => hR _ _ _ _ (a6 e he), (a7.moved hA).kept hH, (a8.moved hA).kept hH, (a9.moved hA).kept hH, (a10.moved hA).kept (hH _ (by omega) (by omega)), a11, by omega, a13, a14⟩
theorem ab_Ctx.warm {D : va_G} {cT : Nat → ClassId} {ad : Nat → Nat} {B0 : Nat} {E : ab_E} {s U : State} (h : ab_Ctx D cT ad B0 E s) (hW : s.WarmedH U.vm) (hH : ∀ q : Nat, q < s.heap.size → ¬ B0 ≤ q → U.heap[q]? = s.heap[q]?) (hz : s.heap.size ≤ U.heap.size) : ab_Ctx D cT ad B0 E U :=
  h.mv hW.alike (fun _ _ _ _ q => q.warmM hW) (fun _ _ _ _ q => q.warm hW) hH hz
theorem ab_Ctx.same {D : va_G} {cT : Nat → ClassId} {ad : Nat → Nat} {B0 : Nat} {E : ab_E} {s U : State} (h : ab_Ctx D cT ad B0 E s) (hv : U.vm = s.vm) (hH : U.heap = s.heap) : ab_Ctx D cT ad B0 E U :=
  h.mv (by rw [hv]; exact Vm.Alike.refl s.vm) (fun _ _ _ _ q => q.same rfl hv.symm) (fun _ _ _ _ q => q.same hv) (fun q _ _ => by rw [hH]) (by rw [hH]; exact Nat.le_refl _)
def ab_Fr (p : Program) (s : State) (m : MethodId) (args : Array Value) (meth : Method) (c : Code) (k : Nat) : Prop :=
  p.tables.exec = Jvm.exec ∧ c.code = ab_B k ∧ c.maxLocals = ab_mL k ∧ meth.sig.returnType = ab_rt k ∧ meth.locks = false ∧ ((ab_Y k).name = "<init>" → meth.name = "<init>") ∧ s.vm.findClass (ab_R (ab_own k)) = some m.cls ∧ ∀ w ∈ ab_U, w.before args s = true
def ab_Go (p : Program) (l : Launch) (e : Env) (R : Room) (s : State) (m : MethodId) (args : Array Value) (below : List Frame) (meth : Method) (c : Code) (D : va_G) (cT : Nat → ClassId) (ad : Nat → Nat) (B0 k : Nat) (Q : State → Prop) (cells slots : Nat) (S : List ab_C) (μ : ab_M) (pc : Nat) (L : ab_L) (st : List Value) : Prop :=
  ∀ (H : Heap) (locs : List Loc) (ls : Array Slot), S.length ≤ 900 → va_P D ab_cl (ab_wd cT ad S μ) H → va_S (fun q => B0 ≤ q) s.heap H locs → ab_LR ad (ab_mL k) L ls → W p l e R s m args below meth c H locs cells slots Q (F0 m pc ls (st.map (ab_tr ad)))
theorem ab_cl_at {c : Nat} (h : c < 8) : ab_cl[c]? = some (ab_R c, ab_T c, ab_N c) := by
  rcases (show c = 0 ∨ c = 1 ∨ c = 2 ∨ c = 3 ∨ c = 4 ∨ c = 5 ∨ c = 6 ∨ c = 7 by omega) with rfl | rfl | rfl | rfl | rfl | rfl | rfl | rfl <;> rfl
theorem ab_nm {c : Nat} (h : c < 8) : ∀ a, a < ab_N c → ∀ b, b < ab_N c → a ≠ b → (ab_T c a).2.1 ≠ (ab_T c b).2.1 := by
  rcases (show c = 0 ∨ c = 1 ∨ c = 2 ∨ c = 3 ∨ c = 4 ∨ c = 5 ∨ c = 6 ∨ c = 7 by omega) with rfl | rfl | rfl | rfl | rfl | rfl | rfl | rfl
  · exact nmX0
  · exact nmX1
  · exact nmX2
  · exact nmX3
  · exact nmX4
  · exact nmX5
  · exact nmX6
  · exact nmX7
theorem ab_ty_ok {c : Nat} (h : c < 8) : ∀ k, k < ab_N c → parseFieldDescriptor (ab_T c k).2.2.1 = some (ab_ty c k) := by
  rcases (show c = 0 ∨ c = 1 ∨ c = 2 ∨ c = 3 ∨ c = 4 ∨ c = 5 ∨ c = 6 ∨ c = 7 by omega) with rfl | rfl | rfl | rfl | rfl | rfl | rfl | rfl
  · exact tyX0_ok
  · exact tyX1_ok
  · exact tyX2_ok
  · exact tyX3_ok
  · exact tyX4_ok
  · exact tyX5_ok
  · exact tyX6_ok
  · exact tyX7_ok
end
section
/-! ROW BY ROW: a step of the abstract machine is a step of the machine -/
section
variable {p : Program} {l : Launch} {e : Env} {R : Room} {s : State} {m : MethodId} {args : Array Value} {below : List Frame} {meth : Method} {c : Code} {cells slots : Nat} {Q : State → Prop}
variable {D : va_G} {cT : Nat → ClassId} {ad : Nat → Nat} {B0 : Nat} {E : ab_E} {k pc pc' : Nat} {S : List ab_C} {L L' : ab_L} {st st' : List Value} {μ μ' : ab_M}
theorem ab_nx_i (h : ab_nx pc L st μ = some (.inl (pc', L', st', μ'))) : pc' = pc ∧ L' = L ∧ st' = st ∧ μ' = μ := by
  unfold ab_nx at h; cases h; exact ⟨rfl, rfl, rfl, rfl⟩
theorem ab_jp_i {off : Int} (h : ab_jp pc off L st μ = some (.inl (pc', L', st', μ'))) : (pc : Int) + off = (pc' : Int) ∧ L' = L ∧ st' = st ∧ μ' = μ := by
  unfold ab_jp at h
  split at h
  · rename_i h0
    obtain ⟨rfl, rfl, rfl, rfl⟩ := ab_nx_i h
    exact ⟨(Int.toNat_of_nonneg h0).symm, rfl, rfl, rfl⟩
  · cases h
theorem ab_r_bin {f : Int32 → Int32 → Int32} (h : ab_bin pc f L st μ = some (.inl (pc', L', st', μ'))) (row : ∀ (x y : Int32) (rest : List Value) (H : Heap) (locs : List Loc) (ls : Array Slot), W p l e R s m args below meth c H locs cells slots Q (F0 m (pc + 1) ls (.int (f x y) :: rest)) → W p l e R s m args below meth c H locs cells slots Q (F0 m pc ls (.int y :: .int x :: rest)))
    (g : ab_Go p l e R s m args below meth c D cT ad B0 k Q cells slots S μ' pc' L' st') : ab_Go p l e R s m args below meth c D cT ad B0 k Q cells slots S μ pc L st := by
  unfold ab_bin at h
  split at h
  · obtain ⟨rfl, rfl, rfl, rfl⟩ := ab_nx_i h
    exact fun H locs ls h2 h3 h4 h5 => row _ _ _ H locs ls (g H locs ls h2 h3 h4 h5)
  · cases h
theorem ab_r_dv {f : Int32 → Int32 → Int32} (h : ab_dv pc f L st μ = some (.inl (pc', L', st', μ'))) (row : ∀ (x y : Int32) (rest : List Value) (H : Heap) (locs : List Loc) (ls : Array Slot), ¬ y = 0 → W p l e R s m args below meth c H locs cells slots Q (F0 m (pc + 1) ls (.int (f x y) :: rest)) → W p l e R s m args below meth c H locs cells slots Q (F0 m pc ls (.int y :: .int x :: rest)))
    (g : ab_Go p l e R s m args below meth c D cT ad B0 k Q cells slots S μ' pc' L' st') : ab_Go p l e R s m args below meth c D cT ad B0 k Q cells slots S μ pc L st := by
  unfold ab_dv at h
  split at h
  · split at h
    · cases h
    · rename_i h0
      obtain ⟨rfl, rfl, rfl, rfl⟩ := ab_nx_i h
      exact fun H locs ls h2 h3 h4 h5 => row _ _ _ H locs ls h0 (g H locs ls h2 h3 h4 h5)
  · cases h
theorem ab_r_un {f : Int32 → Int32} (h : ab_un pc f L st μ = some (.inl (pc', L', st', μ'))) (row : ∀ (x : Int32) (rest : List Value) (H : Heap) (locs : List Loc) (ls : Array Slot), W p l e R s m args below meth c H locs cells slots Q (F0 m (pc + 1) ls (.int (f x) :: rest)) → W p l e R s m args below meth c H locs cells slots Q (F0 m pc ls (.int x :: rest)))
    (g : ab_Go p l e R s m args below meth c D cT ad B0 k Q cells slots S μ' pc' L' st') : ab_Go p l e R s m args below meth c D cT ad B0 k Q cells slots S μ pc L st := by
  unfold ab_un at h
  split at h
  · obtain ⟨rfl, rfl, rfl, rfl⟩ := ab_nx_i h
    exact fun H locs ls h2 h3 h4 h5 => row _ _ H locs ls (g H locs ls h2 h3 h4 h5)
  · cases h
theorem ab_r_br2 {off : Int} {f : Int32 → Int32 → Bool} (h : ab_br2 pc off f L st μ = some (.inl (pc', L', st', μ'))) (row : ∀ (x y : Int32) (rest : List Value) (H : Heap) (locs : List Loc) (ls : Array Slot) (tgt : Nat), (pc : Int) + off = (tgt : Int) → (f x y = true → W p l e R s m args below meth c H locs cells slots Q (F0 m tgt ls rest)) → (¬ f x y = true → W p l e R s m args below meth c H locs cells slots Q (F0 m (pc + 3) ls rest)) → W p l e R s m args below meth c H locs cells slots Q (F0 m pc ls (.int y :: .int x :: rest)))
    (g : ab_Go p l e R s m args below meth c D cT ad B0 k Q cells slots S μ' pc' L' st') : ab_Go p l e R s m args below meth c D cT ad B0 k Q cells slots S μ pc L st := by
  unfold ab_br2 at h
  split at h
  · split at h
    · rename_i h0
      split at h
      · rename_i hf
        obtain ⟨rfl, rfl, rfl, rfl⟩ := ab_nx_i h
        exact fun H locs ls h2 h3 h4 h5 => row _ _ _ H locs ls _ (Int.toNat_of_nonneg h0).symm (fun _ => g H locs ls h2 h3 h4 h5) (fun q => absurd hf q)
      · rename_i hf
        obtain ⟨rfl, rfl, rfl, rfl⟩ := ab_nx_i h
        exact fun H locs ls h2 h3 h4 h5 => row _ _ _ H locs ls _ (Int.toNat_of_nonneg h0).symm (fun q => absurd q hf) (fun _ => g H locs ls h2 h3 h4 h5)
    · cases h
  · cases h
theorem ab_r_br1 {off : Int} {f : Int32 → Bool} (h : ab_br1 pc off f L st μ = some (.inl (pc', L', st', μ'))) (row : ∀ (x : Int32) (rest : List Value) (H : Heap) (locs : List Loc) (ls : Array Slot) (tgt : Nat), (pc : Int) + off = (tgt : Int) → (f x = true → W p l e R s m args below meth c H locs cells slots Q (F0 m tgt ls rest)) → (¬ f x = true → W p l e R s m args below meth c H locs cells slots Q (F0 m (pc + 3) ls rest)) → W p l e R s m args below meth c H locs cells slots Q (F0 m pc ls (.int x :: rest)))
    (g : ab_Go p l e R s m args below meth c D cT ad B0 k Q cells slots S μ' pc' L' st') : ab_Go p l e R s m args below meth c D cT ad B0 k Q cells slots S μ pc L st := by
  unfold ab_br1 at h
  split at h
  · split at h
    · rename_i h0
      split at h
      · rename_i hf
        obtain ⟨rfl, rfl, rfl, rfl⟩ := ab_nx_i h
        exact fun H locs ls h2 h3 h4 h5 => row _ _ H locs ls _ (Int.toNat_of_nonneg h0).symm (fun _ => g H locs ls h2 h3 h4 h5) (fun q => absurd hf q)
      · rename_i hf
        obtain ⟨rfl, rfl, rfl, rfl⟩ := ab_nx_i h
        exact fun H locs ls h2 h3 h4 h5 => row _ _ H locs ls _ (Int.toNat_of_nonneg h0).symm (fun q => absurd q hf) (fun _ => g H locs ls h2 h3 h4 h5)
    · cases h
  · cases h
theorem ab_LR.int {nL i : Nat} {ls : Array Slot} {x : Int32} (h : ab_LR ad nL L ls) (hi : L[i]? = some (some (.int x))) : ls[i]? = some (.val (.int x)) := (h.2.2.2 i _ hi).1
theorem ab_LR.ref {nL i x : Nat} {ls : Array Slot} (h : ab_LR ad nL L ls) (hi : L[i]? = some (some (.ref x))) : ls[i]? = some (.val (.ref (ad x))) := (h.2.2.2 i _ hi).1
theorem ab_r_ldI {i n : Nat} (h : ab_ldI (pc + n) i L st μ = some (.inl (pc', L', st', μ'))) (row : ∀ (x : Int32) (rest : List Value) (H : Heap) (locs : List Loc) (ls : Array Slot), ls[i]? = some (.val (.int x)) → W p l e R s m args below meth c H locs cells slots Q (F0 m (pc + n) ls (.int x :: rest)) → W p l e R s m args below meth c H locs cells slots Q (F0 m pc ls rest))
    (g : ab_Go p l e R s m args below meth c D cT ad B0 k Q cells slots S μ' pc' L' st') : ab_Go p l e R s m args below meth c D cT ad B0 k Q cells slots S μ pc L st := by
  unfold ab_ldI at h
  split at h
  · rename_i hx
    obtain ⟨rfl, rfl, rfl, rfl⟩ := ab_nx_i h
    exact fun H locs ls h2 h3 h4 h5 => row _ _ H locs ls (h5.int hx) (g H locs ls h2 h3 h4 h5)
  · cases h
theorem ab_r_ldA {i n : Nat} (h : ab_ldA (pc + n) i L st μ = some (.inl (pc', L', st', μ'))) (row : ∀ (x : Nat) (rest : List Value) (H : Heap) (locs : List Loc) (ls : Array Slot), ls[i]? = some (.val (.ref x)) → W p l e R s m args below meth c H locs cells slots Q (F0 m (pc + n) ls (.ref x :: rest)) → W p l e R s m args below meth c H locs cells slots Q (F0 m pc ls rest))
    (g : ab_Go p l e R s m args below meth c D cT ad B0 k Q cells slots S μ' pc' L' st') : ab_Go p l e R s m args below meth c D cT ad B0 k Q cells slots S μ pc L st := by
  unfold ab_ldA at h
  split at h
  · rename_i hx
    obtain ⟨rfl, rfl, rfl, rfl⟩ := ab_nx_i h
    exact fun H locs ls h2 h3 h4 h5 => row _ _ H locs ls (h5.ref hx) (g H locs ls h2 h3 h4 h5)
  · cases h
theorem ab_r_stI {i n : Nat} (h : ab_stI (pc + n) i L st μ = some (.inl (pc', L', st', μ'))) (row : ∀ (x : Int32) (rest : List Value) (H : Heap) (locs : List Loc) (ls : Array Slot) (nL : Nat) (lv : List (Nat × Value)), lv_has ls nL lv → i < nL → (∀ ls' : Array Slot, lv_has ls' nL ((i, Value.int x) :: lv.filter (fun q => !(q.1 == i) && !(q.1 + 1 == i && q.2.category == 2))) → W p l e R s m args below meth c H locs cells slots Q (F0 m (pc + n) ls' rest)) → W p l e R s m args below meth c H locs cells slots Q (F0 m pc ls (.int x :: rest)))
    (g : ab_Go p l e R s m args below meth c D cT ad B0 k Q cells slots S μ' pc' L' st') : ab_Go p l e R s m args below meth c D cT ad B0 k Q cells slots S μ pc L st := by
  unfold ab_stI at h
  split at h
  · split at h
    · rename_i hi
      obtain ⟨rfl, rfl, rfl, rfl⟩ := ab_nx_i h
      exact fun H locs ls h2 h3 h4 h5 => row _ _ H locs ls _ _ h5.has (Nat.lt_of_lt_of_le hi h5.2.2.1) (fun ls' h' => g H locs ls' h2 h3 h4 (h5.set rfl h'))
    · cases h
  · cases h
theorem ab_r_stA {i n : Nat} (h : ab_stA (pc + n) i L st μ = some (.inl (pc', L', st', μ'))) (row : ∀ (x : Nat) (rest : List Value) (H : Heap) (locs : List Loc) (ls : Array Slot) (nL : Nat) (lv : List (Nat × Value)), lv_has ls nL lv → i < nL → (∀ ls' : Array Slot, lv_has ls' nL ((i, Value.ref x) :: lv.filter (fun q => !(q.1 == i) && !(q.1 + 1 == i && q.2.category == 2))) → W p l e R s m args below meth c H locs cells slots Q (F0 m (pc + n) ls' rest)) → W p l e R s m args below meth c H locs cells slots Q (F0 m pc ls (.ref x :: rest)))
    (g : ab_Go p l e R s m args below meth c D cT ad B0 k Q cells slots S μ' pc' L' st') : ab_Go p l e R s m args below meth c D cT ad B0 k Q cells slots S μ pc L st := by
  unfold ab_stA at h
  split at h
  · split at h
    · rename_i hi
      obtain ⟨rfl, rfl, rfl, rfl⟩ := ab_nx_i h
      exact fun H locs ls h2 h3 h4 h5 => row _ _ H locs ls _ _ h5.has (Nat.lt_of_lt_of_le hi h5.2.2.1) (fun ls' h' => g H locs ls' h2 h3 h4 (h5.set rfl h'))
    · cases h
  · cases h
theorem ab_r_inc {i : Nat} {n : Int} (h : ab_inc (pc + 3) i n L st μ = some (.inl (pc', L', st', μ'))) (hF : ab_Fr p s m args meth c k) (hd : decode (ab_B k) pc = .ok (.iinc i n, 3))
    (g : ab_Go p l e R s m args below meth c D cT ad B0 k Q cells slots S μ' pc' L' st') : ab_Go p l e R s m args below meth c D cT ad B0 k Q cells slots S μ pc L st := by
  unfold ab_inc at h
  split at h
  · rename_i x hx
    obtain ⟨rfl, rfl, rfl, rfl⟩ := ab_nx_i h
    intro H locs ls h2 h3 h4 h5
    have hm : (i, Value.int x) ∈ ab_lv ad L := ab_lv_mem.mpr ⟨.int x, hx, rfl⟩
    obtain ⟨q, hq, eq⟩ := List.getElem_of_mem hm
    exact lv_iinc hF.1 hF.2.1 hd h5.has (k := q) (by rw [List.getElem?_eq_getElem hq, eq]) rfl (Nat.lt_of_lt_of_le (List.getElem?_eq_some_iff.mp hx).1 h5.2.2.1) rfl (fun ls' h' => g H locs ls' h2 h3 h4 (h5.set (v := .int (x + Int32.ofInt n)) rfl h'))
  · cases h
theorem ab_r_ldc {j : Nat} (hC : ab_Ctx D cT ad B0 E s) (h : ab_ldc k (pc + 2) j L st μ = some (.inl (pc', L', st', μ'))) (hF : ab_Fr p s m args meth c k) (hd : decode (ab_B k) pc = .ok (.ldc j, 2))
    (g : ab_Go p l e R s m args below meth c D cT ad B0 k Q cells slots S μ' pc' L' st') : ab_Go p l e R s m args below meth c D cT ad B0 k Q cells slots S μ pc L st := by
  obtain ⟨hx, hb, hml, hr, hlk, hin, hown, hts⟩ := hF
  unfold ab_ldc at h
  split at h
  · rename_i v hv
    obtain ⟨rfl, rfl, rfl, rfl⟩ := ab_nx_i h
    exact fun H locs ls h2 h3 h4 h5 => lv_ldc hx hb hown (hts _ (ab_okK hv)) hd (g H locs ls h2 h3 h4 h5)
  · split at h
    · rename_i i hi
      split at h
      · obtain ⟨rfl, rfl, rfl, rfl⟩ := ab_nx_i h
        have hz : vk_R (ab_R (ab_own k)) j (ab_tx.getD i "") (ad (1000 + 2 * i)) s := hC.2.2.2.1 (ab_own k, j, i) (ab_mk_mem hi)
        intro H locs ls h2 h3 h4 h5
        have g2 : W p l e R s m args below meth c H locs cells slots Q (F0 m (pc + 2) ls (.ref (ad (1000 + 2 * i)) :: st.map (ab_tr ad))) := g H locs ls h2 h3 h4 h5
        exact va_ldcS hx hb hown hz hd g2
      · cases h
    · cases h
theorem ab_r_ldcw {j : Nat} (h : ab_ldcw k (pc + 3) j L st μ = some (.inl (pc', L', st', μ'))) (hF : ab_Fr p s m args meth c k) (hd : decode (ab_B k) pc = .ok (.ldc_w j, 3))
    (g : ab_Go p l e R s m args below meth c D cT ad B0 k Q cells slots S μ' pc' L' st') : ab_Go p l e R s m args below meth c D cT ad B0 k Q cells slots S μ pc L st := by
  obtain ⟨hx, hb, hml, hr, hlk, hin, hown, hts⟩ := hF
  unfold ab_ldcw at h
  split at h
  · rename_i v hv
    obtain ⟨rfl, rfl, rfl, rfl⟩ := ab_nx_i h
    exact fun H locs ls h2 h3 h4 h5 => lv_ldcw hx hb hown (hts _ (ab_okK hv)) hd (g H locs ls h2 h3 h4 h5)
  · cases h
theorem ab_r_tsw {d lo hi : Int} {os : Array Int} {n : Nat} (h : ab_tsw pc d lo hi os L st μ = some (.inl (pc', L', st', μ'))) (hF : ab_Fr p s m args meth c k) (hd : decode (ab_B k) pc = .ok (.tableswitch d lo hi os, n))
    (g : ab_Go p l e R s m args below meth c D cT ad B0 k Q cells slots S μ' pc' L' st') : ab_Go p l e R s m args below meth c D cT ad B0 k Q cells slots S μ pc L st := by
  unfold ab_tsw at h
  split at h
  · split at h
    · rename_i hq
      obtain ⟨ht, rfl, rfl, rfl⟩ := ab_jp_i h
      exact fun H locs ls h2 h3 h4 h5 => lv_tableOut hF.1 hF.2.1 hd hq ht (g H locs ls h2 h3 h4 h5)
    · rename_i hq
      split at h
      · rename_i off ho
        obtain ⟨ht, rfl, rfl, rfl⟩ := ab_jp_i h
        exact fun H locs ls h2 h3 h4 h5 => lv_tableIn hF.1 hF.2.1 hd (fun q => hq (Or.inl q)) (fun q => hq (Or.inr q)) ho ht (g H locs ls h2 h3 h4 h5)
      · cases h
  · cases h
theorem ab_r_lsw {d : Int} {ps : Array (Int × Int)} {n : Nat} (h : ab_lsw pc d ps L st μ = some (.inl (pc', L', st', μ'))) (hF : ab_Fr p s m args meth c k) (hd : decode (ab_B k) pc = .ok (.lookupswitch d ps, n))
    (g : ab_Go p l e R s m args below meth c D cT ad B0 k Q cells slots S μ' pc' L' st') : ab_Go p l e R s m args below meth c D cT ad B0 k Q cells slots S μ pc L st := by
  unfold ab_lsw at h
  split at h
  · split at h
    · rename_i hq
      obtain ⟨ht, rfl, rfl, rfl⟩ := ab_jp_i h
      exact fun H locs ls h2 h3 h4 h5 => lv_lookup hF.1 hF.2.1 hd hq rfl ht (g H locs ls h2 h3 h4 h5)
    · cases h
  · cases h
/-- what a reference names -/
theorem ab_cell_S {r : Nat} {x : ab_C} (h : ab_cell E S r = some x) (h8 : x.1 ≠ 4 ∧ x.1 ≠ 8 ∧ x.1 ≠ 9) : r < 900 ∧ S[r]? = some x := by
  unfold ab_cell at h
  split at h
  · refine ⟨by assumption, ?_⟩
    split at h
    · split at h
      · cases h
      · rename_i e _; rw [e]; exact h
    · cases h
  · split at h
    · cases h; simp at h8
    · split at h
      · split at h
        · cases h; simp at h8
        · cases h; simp at h8
      · cases h
theorem ab_cell_8 {r n : Nat} {vs : List Value} (h : ab_cell E S r = some (8, n, vs)) : ∃ i, i < 14 ∧ r = 1000 + 2 * i ∧ n = i := by
  unfold ab_cell at h
  split at h
  · split at h
    · split at h
      · cases h
      · rename_i q; cases h; exact absurd (Or.inr (Or.inl rfl)) q
    · cases h
  · split at h
    · cases h
    · split at h
      · rename_i hr
        split at h
        · cases h; exact ⟨(r - 1000) / 2, by omega, by omega, rfl⟩
        · cases h
      · cases h
theorem ab_cell_4 {r n : Nat} {vs : List Value} (h : ab_cell E S r = some (4, n, vs)) : ∃ i, i < 14 ∧ r = 1001 + 2 * i ∧ n = ab_ln.getD i 0 ∧ (r - 1000) / 2 = i := by
  unfold ab_cell at h
  split at h
  · split at h
    · split at h
      · cases h
      · rename_i q; cases h; exact absurd (Or.inl rfl) q
    · cases h
  · split at h
    · cases h
    · split at h
      · rename_i hr
        split at h
        · cases h
        · cases h; exact ⟨(r - 1000) / 2, by omega, by omega, rfl, rfl⟩
      · cases h
theorem ab_cell_9 {r n : Nat} {vs : List Value} (h : ab_cell E S r = some (9, n, vs)) : r = 999 ∧ n = E.1 := by
  unfold ab_cell at h
  split at h
  · split at h
    · split at h
      · cases h
      · rename_i q; cases h; exact absurd (Or.inr (Or.inr rfl)) q
    · cases h
  · split at h
    · cases h; exact ⟨by assumption, rfl⟩
    · split at h
      · split at h <;> cases h
      · cases h
end
end
section
section
variable {p : Program} {l : Launch} {e : Env} {R : Room} {s : State} {m : MethodId} {args : Array Value} {below : List Frame} {meth : Method} {c : Code} {cells slots : Nat} {Q : State → Prop}
variable {D : va_G} {cT : Nat → ClassId} {ad : Nat → Nat} {B0 : Nat} {E : ab_E} {k pc pc' : Nat} {S : List ab_C} {L L' : ab_L} {st st' : List Value} {μ μ' : ab_M}
theorem ab_r_getf {j : Nat} (hC : ab_Ctx D cT ad B0 E s) (h : ab_getf E S k pc j L st μ = some (.inl (pc', L', st', μ'))) (hF : ab_Fr p s m args meth c k) (hd : decode (ab_B k) pc = .ok (.getfield j, 3))
    (g : ab_Go p l e R s m args below meth c D cT ad B0 k Q cells slots S μ' pc' L' st') : ab_Go p l e R s m args below meth c D cT ad B0 k Q cells slots S μ pc L st := by
  obtain ⟨hx, hb, hml, hr, hlk, hin, hown, hts⟩ := hF
  unfold ab_getf at h
  split at h
  · rename_i r rest
    split at h
    · rename_i v hv
      obtain ⟨rfl, rfl, rfl, rfl⟩ := ab_nx_i h
      intro H locs ls h2 h3 h4 h5
      have g2 : W p l e R s m args below meth c H locs cells slots Q (F0 m (pc + 3) ls (ab_tr ad v :: rest.map (ab_tr ad))) := g H locs ls h2 h3 h4 h5
      unfold ab_fv at hv
      split at hv
      · rename_i ci vs hcell
        obtain ⟨hr9, hS⟩ := ab_cell_S hcell (by simp)
        split at hv
        · rename_i ci' fi hfl
          split at hv
          · rename_i hcc
            subst hcc
            obtain ⟨w1, w2, w3, w4⟩ := ab_okF hfl
            refine va_get (q0 := r) (k := fi) hx hb hts (ab_okW w4) hown hC.1 h3 (by rw [ab_wd_at hS, ab_w1_0]) (ab_cl_at w4) w3 (hts _ w1) (fun x hx => by rw [w2] at hx; exact hx) (v := ab_tr ad v) ?_ hd g2
            rw [List.getElem?_mapIdx]
            split at hv
            · rename_i e1; rw [e1]; cases hv; rfl
            · rename_i e1; rw [e1]; cases hv; rfl
            · cases hv
          · cases hv
        · cases hv
      · rename_i n vs hcell
        obtain ⟨i, hi, rfl, -⟩ := ab_cell_8 hcell
        obtain ⟨b1, b2, b3, b4⟩ := hC.2.2.2.2.1.1 i hi
        split at hv
        · rename_i ho
          have hown9 : s.vm.findClass RJ0 = some m.cls := by rw [ho] at hown; exact hown
          split at hv
          · rename_i ej
            subst ej
            cases hv
            have g3 : W p l e R s m args below meth c H locs cells slots Q (F0 m (pc + 3) ls (.ref (ad (1001 + 2 * i)) :: rest.map (ab_tr ad))) := by
              rw [show 1001 + 2 * i = 1000 + 2 * i + 1 by omega]; exact g2
            exact vk_getf hx hb b3 h4 hown9 (hts _ ab_oS1) (fun _ h => h) hd g3
          · split at hv
            · rename_i ej
              subst ej
              cases hv
              exact vk_getf hx hb b2 h4 hown9 (hts _ ab_oS2) (fun _ h => h) hd g2
            · cases hv
        · cases hv
      · cases hv
    · cases h
  · cases h
theorem ab_map_set {vs : List Value} {r fi : Nat} {x : Int32} {y : Int32} (h : vs[fi]? = some (.int y)) : (vs.mapIdx (ab_f1 ad μ r)).set fi (.int x) = vs.mapIdx (ab_f1 ad (ab_up μ r fi x) r) := by
  apply List.ext_getElem?
  intro i
  rw [List.getElem?_set, List.getElem?_mapIdx, List.getElem?_mapIdx]
  by_cases e : fi = i
  · subst e
    have : fi < vs.length := (List.getElem?_eq_some_iff.mp h).1
    rw [if_pos rfl, List.length_mapIdx, if_pos this, h]
    simp [ab_f1, ab_up, upd]
  · rw [if_neg e]
    cases vs[i]? with
    | none => rfl
    | some v => cases v <;> simp [ab_f1, ab_up, upd, show ¬ i = fi from fun q => e q.symm]
theorem ab_r_putf {j : Nat} (hC : ab_Ctx D cT ad B0 E s) (h : ab_putf S k pc j L st μ = some (.inl (pc', L', st', μ'))) (hF : ab_Fr p s m args meth c k) (hd : decode (ab_B k) pc = .ok (.putfield j, 3))
    (g : ab_Go p l e R s m args below meth c D cT ad B0 k Q cells slots S μ' pc' L' st') : ab_Go p l e R s m args below meth c D cT ad B0 k Q cells slots S μ pc L st := by
  obtain ⟨hx, hb, hml, hr, hlk, hin, hown, hts⟩ := hF
  have had := hC.2.2.2.2.2.2.2.2.2.2.1
  unfold ab_putf at h
  split at h
  · rename_i x r rest
    split at h
    · rename_i hr9
      split at h
      · rename_i ci vs hS
        split at h
        · rename_i ci' fi hfl
          split at h
          · rename_i hq
            obtain ⟨rfl, q1, q2, q3, q4⟩ := hq
            split at h
            · rename_i y hy
              obtain ⟨rfl, rfl, rfl, rfl⟩ := ab_nx_i h
              obtain ⟨w1, w2, w3, w4⟩ := ab_okF hfl
              intro H locs ls h2 h3 h4 h5
              refine va_put (q0 := r) (k := fi) hx hb hts (ab_okW w4) (ab_ty ci) (ab_ty_ok w4) (ab_nm w4) hown hC.1 h3 (ab_D had h2) h4 (by rw [ab_wd_at hS, ab_w1_0]) (ab_cl_at w4) w3 (hts _ w1) (fun x hx => by rw [w2] at hx; exact hx) q2 (ab_ty_ok w4 fi w3) (v := .int x) q3 q4 (by rw [List.length_mapIdx]; exact (List.getElem?_eq_some_iff.mp hy).1) hd (fun H1 locs1 e1 e2 e3 => ?_)
              rw [ab_map_set hy] at e1
              have e4 : (ab_wd cT ad S μ).set r (ab_w1 cT ad (ab_up μ r fi x) r (0, ci, vs)) = ab_wd cT ad S (ab_up μ r fi x) := ab_wd_set hS (fun a ha => by simp [ab_up, ha])
              rw [ab_w1_0] at e4
              rw [e4] at e1
              exact g H1 locs1 ls h2 e1 e3 h5
            · cases h
          · cases h
        · cases h
      · cases h
    · cases h
  · cases h
end
end
section
section
variable {p : Program} {l : Launch} {e : Env} {R : Room} {s : State} {m : MethodId} {args : Array Value} {below : List Frame} {meth : Method} {c : Code} {cells slots : Nat} {Q : State → Prop}
variable {D : va_G} {cT : Nat → ClassId} {ad : Nat → Nat} {B0 : Nat} {E : ab_E} {k pc pc' : Nat} {S : List ab_C} {L L' : ab_L} {st st' : List Value} {μ μ' : ab_M}
theorem ab_r_iald (hC : ab_Ctx D cT ad B0 E s) (h : ab_ald E S [1, 9] pc L st μ = some (.inl (pc', L', st', μ'))) (hF : ab_Fr p s m args meth c k) (hd : decode (ab_B k) pc = .ok (.iaload, 1))
    (g : ab_Go p l e R s m args below meth c D cT ad B0 k Q cells slots S μ' pc' L' st') : ab_Go p l e R s m args below meth c D cT ad B0 k Q cells slots S μ pc L st := by
  obtain ⟨hx, hb, hml, hr, hlk, hin, hown, hts⟩ := hF
  unfold ab_ald at h
  split at h
  · rename_i i r rest
    split at h
    · rename_i v hv
      obtain ⟨rfl, rfl, rfl, rfl⟩ := ab_nx_i h
      intro H locs ls h2 h3 h4 h5
      have g2 : W p l e R s m args below meth c H locs cells slots Q (F0 m (pc + 1) ls (.int v :: rest.map (ab_tr ad))) := g H locs ls h2 h3 h4 h5
      unfold ab_av at hv
      split at hv
      · rename_i t n vs hcell
        split at hv
        · rename_i hq
          obtain ⟨ht, hi⟩ := hq
          simp only [List.mem_cons, List.not_mem_nil, or_false] at ht
          rcases ht with rfl | rfl
          · obtain ⟨hr9, hS⟩ := ab_cell_S hcell (by simp)
            rw [if_neg (by decide), if_neg (by decide)] at hv
            cases hv
            exact va_iald hx hb hC.1 h3 r 0 (by rw [ab_wd_at hS, ab_w1_a (by decide) (by decide)]) rfl hi hd g2
          · obtain ⟨rfl, rfl⟩ := ab_cell_9 hcell
            rw [if_neg (by decide), if_pos rfl] at hv
            cases hv
            exact va_sld hx hb hC.2.2.2.2.2.2.2.1 (Nat.lt_of_lt_of_le hC.2.2.2.2.2.2.2.2.1 hC.2.2.2.2.2.2.2.2.2.1) (Nat.not_le.mpr hC.2.2.2.2.2.2.2.2.1) h4 hi hd g2
        · cases hv
      · cases hv
    · cases h
  · cases h
theorem ab_r_bald (hC : ab_Ctx D cT ad B0 E s) (h : ab_ald E S [2, 4] pc L st μ = some (.inl (pc', L', st', μ'))) (hF : ab_Fr p s m args meth c k) (hd : decode (ab_B k) pc = .ok (.baload, 1))
    (g : ab_Go p l e R s m args below meth c D cT ad B0 k Q cells slots S μ' pc' L' st') : ab_Go p l e R s m args below meth c D cT ad B0 k Q cells slots S μ pc L st := by
  obtain ⟨hx, hb, hml, hr, hlk, hin, hown, hts⟩ := hF
  unfold ab_ald at h
  split at h
  · rename_i i r rest
    split at h
    · rename_i v hv
      obtain ⟨rfl, rfl, rfl, rfl⟩ := ab_nx_i h
      intro H locs ls h2 h3 h4 h5
      have g2 : W p l e R s m args below meth c H locs cells slots Q (F0 m (pc + 1) ls (.int v :: rest.map (ab_tr ad))) := g H locs ls h2 h3 h4 h5
      unfold ab_av at hv
      split at hv
      · rename_i t n vs hcell
        split at hv
        · rename_i hq
          obtain ⟨ht, hi⟩ := hq
          simp only [List.mem_cons, List.not_mem_nil, or_false] at ht
          rcases ht with rfl | rfl
          · obtain ⟨hr9, hS⟩ := ab_cell_S hcell (by simp)
            rw [if_neg (by decide), if_neg (by decide)] at hv
            cases hv
            exact va_zald hx hb hC.1 h3 r 1 (by rw [ab_wd_at hS, ab_w1_a (by decide) (by decide)]) rfl hi hd g2
          · obtain ⟨q, hq, rfl, rfl, e1⟩ := ab_cell_4 hcell
            rw [if_pos rfl, e1] at hv
            cases hv
            exact va_tb hx hb (hC.2.2.2.2.1.1 q hq).2.2.2 h4 hi rfl hd g2
        · cases hv
      · cases hv
    · cases h
  · cases h
theorem ab_r_cald (hC : ab_Ctx D cT ad B0 E s) (h : ab_ald E S [3] pc L st μ = some (.inl (pc', L', st', μ'))) (hF : ab_Fr p s m args meth c k) (hd : decode (ab_B k) pc = .ok (.caload, 1))
    (g : ab_Go p l e R s m args below meth c D cT ad B0 k Q cells slots S μ' pc' L' st') : ab_Go p l e R s m args below meth c D cT ad B0 k Q cells slots S μ pc L st := by
  obtain ⟨hx, hb, hml, hr, hlk, hin, hown, hts⟩ := hF
  unfold ab_ald at h
  split at h
  · rename_i i r rest
    split at h
    · rename_i v hv
      obtain ⟨rfl, rfl, rfl, rfl⟩ := ab_nx_i h
      intro H locs ls h2 h3 h4 h5
      have g2 : W p l e R s m args below meth c H locs cells slots Q (F0 m (pc + 1) ls (.int v :: rest.map (ab_tr ad))) := g H locs ls h2 h3 h4 h5
      unfold ab_av at hv
      split at hv
      · rename_i t n vs hcell
        split at hv
        · rename_i hq
          obtain ⟨ht, hi⟩ := hq
          simp only [List.mem_cons, List.not_mem_nil, or_false] at ht
          subst ht
          obtain ⟨hr9, hS⟩ := ab_cell_S hcell (by simp)
          rw [if_neg (by decide), if_neg (by decide)] at hv
          cases hv
          exact va_cald hx hb hC.1 h3 r 2 (by rw [ab_wd_at hS, ab_w1_a (by decide) (by decide)]) rfl hi hd g2
        · cases hv
      · cases hv
    · cases h
  · cases h
theorem ab_r_ast {t : Nat} {f : Int32 → Int32} (ht0 : t ≠ 0) (ht3 : t ≤ 3) (hC : ab_Ctx D cT ad B0 E s) (h : ab_ast S t f pc L st μ = some (.inl (pc', L', st', μ')))
    (row : ∀ (x i : Int32) (r n : Nat) (rest : List Value) (H : Heap) (locs : List Loc) (ls : Array Slot), va_P D ab_cl (ab_wd cT ad S μ) H → va_D (fun q => B0 ≤ q) (ab_wd cT ad S μ) → va_S (fun q => B0 ≤ q) s.heap H locs → (ab_wd cT ad S μ)[r]? = some (ad r, .inl (cT t, n, .inl (μ r))) → vp_in i n →
      (∀ (H1 : Heap) (locs1 : List Loc), va_P D ab_cl ((ab_wd cT ad S μ).set r (ad r, .inl (cT t, n, .inl (upd (μ r) i.toNatClampNeg (f x))))) H1 → va_S (fun q => B0 ≤ q) s.heap H1 locs1 → W p l e R s m args below meth c H1 locs1 cells slots Q (F0 m (pc + 1) ls rest)) → W p l e R s m args below meth c H locs cells slots Q (F0 m pc ls (.int x :: .int i :: .ref (ad r) :: rest)))
    (g : ab_Go p l e R s m args below meth c D cT ad B0 k Q cells slots S μ' pc' L' st') : ab_Go p l e R s m args below meth c D cT ad B0 k Q cells slots S μ pc L st := by
  have had := hC.2.2.2.2.2.2.2.2.2.2.1
  unfold ab_ast at h
  split at h
  · rename_i x i r rest
    split at h
    · split at h
      · rename_i t' n vs hS
        split at h
        · rename_i hq
          obtain ⟨rfl, hi⟩ := hq
          obtain ⟨rfl, rfl, rfl, rfl⟩ := ab_nx_i h
          intro H locs ls h2 h3 h4 h5
          refine row x i r n _ H locs ls h3 (ab_D had h2) h4 (by rw [ab_wd_at hS, ab_w1_a ht0 ht3]) hi (fun H1 locs1 e1 e3 => ?_)
          have e4 : (ab_wd cT ad S μ).set r (ab_w1 cT ad (ab_up μ r i.toNatClampNeg (f x)) r (t', n, vs)) = ab_wd cT ad S (ab_up μ r i.toNatClampNeg (f x)) := ab_wd_set hS (fun a ha => by simp [ab_up, ha])
          rw [ab_w1_a ht0 ht3, show ab_up μ r i.toNatClampNeg (f x) r = upd (μ r) i.toNatClampNeg (f x) by simp [ab_up]] at e4
          rw [e4] at e1
          exact g H1 locs1 ls h2 e1 e3 h5
        · cases h
      · cases h
    · cases h
  · cases h
theorem ab_r_aald (hC : ab_Ctx D cT ad B0 E s) (h : ab_aald S pc L st μ = some (.inl (pc', L', st', μ'))) (hF : ab_Fr p s m args meth c k) (hd : decode (ab_B k) pc = .ok (.aaload, 1))
    (g : ab_Go p l e R s m args below meth c D cT ad B0 k Q cells slots S μ' pc' L' st') : ab_Go p l e R s m args below meth c D cT ad B0 k Q cells slots S μ pc L st := by
  obtain ⟨hx, hb, hml, hr, hlk, hin, hown, hts⟩ := hF
  unfold ab_aald at h
  split at h
  · rename_i i r rest
    split at h
    · split at h
      · rename_i t n vs hS
        split at h
        · rename_i hq
          obtain ⟨ht, hi⟩ := hq
          split at h
          · rename_i q hv
            obtain ⟨rfl, rfl, rfl, rfl⟩ := ab_nx_i h
            intro H locs ls h2 h3 h4 h5
            have g2 : W p l e R s m args below meth c H locs cells slots Q (F0 m (pc + 1) ls (va_rf (ab_q1 ad vs i.toNatClampNeg) :: rest.map (ab_tr ad))) := by
              unfold ab_q1; rw [hv]; exact g H locs ls h2 h3 h4 h5
            rcases ht with rfl | rfl | rfl
            · have hlt : i.toNatClampNeg < n := Nat.not_le.mp fun q => hi (Or.inr q)
              have ha : (ab_wd cT ad S μ')[r]? = some (ad r, .inl (cT 5, n, .inr (.inr (.inr (.inr (ab_q1 ad vs)))))) := by rw [ab_wd_at hS, ab_w1_q (by decide)]
              have ht : (ab_tys cT)[3]? = some (cT 5, .array .int) := rfl
              exact W.aald (v := va_rf (ab_q1 ad vs i.toNatClampNeg)) (ty := .array .int) hx hb (h3 r _ ha) ((hC.1.2 3 _ ht).1 n (fun j => va_rf (ab_q1 ad vs j))) rfl (fun q => by cases q) (by show ¬ (i < 0 ∨ (arrV _ _ _).slots.size ≤ _); rw [arrV_size]; exact hi) (by show (arrV _ _ _).slots[_]? = _; rw [arrV_read _ _ hlt]) rfl rfl hd g2
            · exact va_aldq hx hb hC.1 h3 r 4 (by rw [ab_wd_at hS, ab_w1_q (by decide)]) rfl hi hd g2
            · exact va_aldq hx hb hC.1 h3 r 5 (by rw [ab_wd_at hS, ab_w1_q (by decide)]) rfl hi hd g2
          · cases h
        · cases h
      · cases h
    · cases h
  · cases h
theorem ab_r_alen (hC : ab_Ctx D cT ad B0 E s) (h : ab_alen E S pc L st μ = some (.inl (pc', L', st', μ'))) (hF : ab_Fr p s m args meth c k) (hd : decode (ab_B k) pc = .ok (.arraylength, 1))
    (g : ab_Go p l e R s m args below meth c D cT ad B0 k Q cells slots S μ' pc' L' st') : ab_Go p l e R s m args below meth c D cT ad B0 k Q cells slots S μ pc L st := by
  obtain ⟨hx, hb, hml, hr, hlk, hin, hown, hts⟩ := hF
  unfold ab_alen at h
  split at h
  · rename_i r rest
    split at h
    · rename_i t n vs hcell
      split at h
      · rename_i ht
        obtain ⟨rfl, rfl, rfl, rfl⟩ := ab_nx_i h
        intro H locs ls h2 h3 h4 h5
        have g2 : W p l e R s m args below meth c H locs cells slots Q (F0 m (pc + 1) ls (.int (Int32.ofNat n) :: rest.map (ab_tr ad))) := g H locs ls h2 h3 h4 h5
        rcases ht with rfl | rfl | rfl
        · obtain ⟨hr9, hS⟩ := ab_cell_S hcell (by simp)
          exact va_alen hx hb hC.1 h3 r 0 (by rw [ab_wd_at hS, ab_w1_a (by decide) (by decide)]) (ty := .int) rfl rfl hd g2
        · obtain ⟨q, hq, rfl, rfl, e1⟩ := ab_cell_4 hcell
          exact va_tlen hx hb (hC.2.2.2.2.1.1 q hq).2.2.2 h4 rfl hd g2
        · obtain ⟨rfl, rfl⟩ := ab_cell_9 hcell
          exact va_slen hx hb hC.2.2.2.2.2.2.2.1 (Nat.lt_of_lt_of_le hC.2.2.2.2.2.2.2.2.1 hC.2.2.2.2.2.2.2.2.2.1) (Nat.not_le.mpr hC.2.2.2.2.2.2.2.2.1) h4 hd g2
      · cases h
    · cases h
  · cases h
theorem ab_r_gets {j : Nat} (hC : ab_Ctx D cT ad B0 E s) (h : ab_gets E k pc j L st μ = some (.inl (pc', L', st', μ'))) (hF : ab_Fr p s m args meth c k) (hd : decode (ab_B k) pc = .ok (.getstatic j, 3))
    (g : ab_Go p l e R s m args below meth c D cT ad B0 k Q cells slots S μ' pc' L' st') : ab_Go p l e R s m args below meth c D cT ad B0 k Q cells slots S μ pc L st := by
  obtain ⟨hx, hb, hml, hr, hlk, hin, hown, hts⟩ := hF
  unfold ab_gets at h
  split at h
  · rename_i ho
    have hown9 : s.vm.findClass RJ0 = some m.cls := by rw [ho] at hown; exact hown
    split at h
    · rename_i ej
      subst ej
      obtain ⟨rfl, rfl, rfl, rfl⟩ := ab_nx_i h
      exact fun H locs ls h2 h3 h4 h5 => va_gets hx hb hC.2.2.2.2.2.1 h4 hown9 (hts _ ab_oS3) (fun _ h => h) hd (g H locs ls h2 h3 h4 h5)
    · split at h
      · rename_i ej
        subst ej
        obtain ⟨rfl, rfl, rfl, rfl⟩ := ab_nx_i h
        exact fun H locs ls h2 h3 h4 h5 => va_gets hx hb hC.2.2.2.2.2.2.1 h4 hown9 (hts _ ab_oS4) (fun _ h => h) hd (g H locs ls h2 h3 h4 h5)
      · cases h
  · cases h
theorem ab_cat (v : Value) : (ab_tr ad v).category = v.category := by cases v <;> rfl
theorem ab_sum (xs : List Value) : ((xs.map (ab_tr ad)).map fun v => v.category) = xs.map fun v => v.category := by
  rw [List.map_map]; exact List.map_congr_left (fun v _ => ab_cat v)
theorem ab_r_acp {j : Nat} (hC : ab_Ctx D cT ad B0 E s) (hR : 1 ≤ R.frames ∧ 100 ≤ R.locals) (hj : (ab_own k, j) ∈ ab_mlC) (h : ab_acp S pc L st μ = some (.inl (pc', L', st', μ'))) (hF : ab_Fr p s m args meth c k) (hd : decode (ab_B k) pc = .ok (.invokestatic j, 3))
    (g : ab_Go p l e R s m args below meth c D cT ad B0 k Q cells slots S μ' pc' L' st') : ab_Go p l e R s m args below meth c D cT ad B0 k Q cells slots S μ pc L st := by
  obtain ⟨hx, hb, hml, hr, hlk, hin, hown, hts⟩ := hF
  have had := hC.2.2.2.2.2.2.2.2.2.2.1
  unfold ab_acp at h
  split at h
  · rename_i n dp d sp r rest
    split at h
    · split at h
      · rename_i n0 _ n1 _ hS0 hS1
        split at h
        · rename_i hq
          obtain ⟨q1, q2, q3, q4, q5, q6⟩ := hq
          obtain ⟨rfl, rfl, rfl, rfl⟩ := ab_nx_i h
          intro H locs ls h2 h3 h4 h5
          refine va_copyi hx hb (by rw [hml, h5.1]) hown (hts _ (ab_okC hj)) (hts _ ab_oC1) (hts _ ab_oC2) (hts _ ab_oC3) hC.1 h3 (ab_D had h2) h4 r d 0 0 (by rw [ab_wd_at hS0, ab_w1_a (by decide) (by decide)]) (by rw [ab_wd_at hS1, ab_w1_a (by decide) (by decide)]) (ty := .int) rfl rfl rfl q1 q2 q3 q4 q5 (fun _ _ => rfl) hR.1 ?_ hd (fun H1 locs1 e1 e2 e3 => ?_)
          · rw [ab_sum]
            have : nativeFrameWords "java/lang/System" "arraycopy" 5 ≤ 40 := by decide +kernel
            omega
          · have e4 : (ab_wd cT ad S μ).set d (ab_w1 cT ad (ab_upA μ d (va_cpy (μ r) (μ d) sp.toNatClampNeg dp.toNatClampNeg n.toNatClampNeg)) d (1, n1, _)) = ab_wd cT ad S (ab_upA μ d (va_cpy (μ r) (μ d) sp.toNatClampNeg dp.toNatClampNeg n.toNatClampNeg)) := ab_wd_set hS1 (fun a ha => by simp [ab_upA, ha])
            rw [ab_w1_a (by decide) (by decide), show ab_upA μ d (va_cpy (μ r) (μ d) sp.toNatClampNeg dp.toNatClampNeg n.toNatClampNeg) d = va_cpy (μ r) (μ d) sp.toNatClampNeg dp.toNatClampNeg n.toNatClampNeg by simp [ab_upA]] at e4
            rw [e4] at e1
            exact g H1 locs1 ls h2 e1 e3 h5
        · cases h
      · cases h
    · cases h
  · cases h
end
end
section
section
variable {p : Program} {l : Launch} {e : Env} {R : Room} {s : State} {m : MethodId} {args : Array Value} {below : List Frame} {meth : Method} {c : Code} {cells slots : Nat} {Q : State → Prop}
variable {D : va_G} {cT : Nat → ClassId} {ad : Nat → Nat} {B0 : Nat} {E : ab_E} {k pc pc' : Nat} {S : List ab_C} {L L' : ab_L} {st st' : List Value} {μ μ' : ab_M}
theorem ab_fetch_d {i : Instr} {n : Nat} (h : ab_fetch k pc = some (i, n)) : decode (ab_B k) pc = .ok (i, n) := by
  unfold ab_fetch at h
  split at h
  · rename_i r e; rw [e]; cases h; rfl
  · cases h
theorem ab_r_spe {j : Nat} (hR : 1 ≤ R.frames ∧ 100 ≤ R.locals) (h : ab_spe k pc j L st μ = some (.inl (pc', L', st', μ'))) (hF : ab_Fr p s m args meth c k) (hd : decode (ab_B k) pc = .ok (.invokespecial j, 3))
    (g : ab_Go p l e R s m args below meth c D cT ad B0 k Q cells slots S μ' pc' L' st') : ab_Go p l e R s m args below meth c D cT ad B0 k Q cells slots S μ pc L st := by
  obtain ⟨hx, hb, hml, hr, hlk, hin, hown, hts⟩ := hF
  unfold ab_spe at h
  split at h
  · split at h
    · split at h
      · unfold ab_cal at h
        split at h <;> cases h
      · cases h
    · cases h
  · split at h
    · rename_i r rest
      split at h
      · rename_i hq
        obtain ⟨rfl, rfl, rfl, rfl⟩ := ab_nx_i h
        intro H locs ls h2 h3 h4 h5
        have hs : ((st'.map (ab_tr ad)).map fun v => v.category).sum ≤ 8 := by rw [ab_sum]; exact hq.2
        exact W.objInit hx hb hown (hts _ (ab_okO hq.1)) (hts _ ab_oO1) (hts _ ab_oO2) rfl (by rw [hml]; exact h5.1) rfl hd hR.1 (by have := lv_room (m := m) (pc := pc) (ls := ls) (rest := (Value.ref r :: st').map (ab_tr ad)) hs; exact Nat.le_trans (Nat.add_le_add_right this 12) (by omega)) (g H locs ls h2 h3 h4 h5)
      · cases h
    · cases h
theorem ab_r_core (hC : ab_Ctx D cT ad B0 E s) (hR : 1 ≤ R.frames ∧ 100 ≤ R.locals) (h : ab_core E S k pc L st μ = some (.inl (pc', L', st', μ'))) (hF : ab_Fr p s m args meth c k)
    (g : ab_Go p l e R s m args below meth c D cT ad B0 k Q cells slots S μ' pc' L' st') : ab_Go p l e R s m args below meth c D cT ad B0 k Q cells slots S μ pc L st := by
  have hx := hF.1
  have hb := hF.2.1
  unfold ab_core at h
  split at h
  · rename_i i n hf
    have hd := ab_fetch_d hf
    split at h
    · rename_i hl
      unfold ab_ex at h
      split at h
      · obtain rfl : n = 1 := by simpa [ab_len] using hl
        obtain ⟨rfl, rfl, rfl, rfl⟩ := ab_nx_i h
        exact fun H locs ls h2 h3 h4 h5 => lv_iconst hx hb hd rfl (g H locs ls h2 h3 h4 h5)
      · obtain rfl : n = 2 := by simpa [ab_len] using hl
        obtain ⟨rfl, rfl, rfl, rfl⟩ := ab_nx_i h
        exact fun H locs ls h2 h3 h4 h5 => lv_bipush hx hb hd rfl (g H locs ls h2 h3 h4 h5)
      · obtain rfl : n = 3 := by simpa [ab_len] using hl
        obtain ⟨rfl, rfl, rfl, rfl⟩ := ab_nx_i h
        exact fun H locs ls h2 h3 h4 h5 => lv_sipush hx hb hd rfl (g H locs ls h2 h3 h4 h5)
      · obtain rfl : n = 2 := by simpa [ab_len] using hl
        exact ab_r_ldc hC h hF hd g
      · obtain rfl : n = 3 := by simpa [ab_len] using hl
        exact ab_r_ldcw h hF hd g
      · obtain rfl : n = 2 := by simpa [ab_len] using hl
        exact ab_r_ldI h (fun x rest H locs ls hq k => lv_iload hx hb hd hq k) g
      · obtain rfl : n = 1 := by simpa [ab_len] using hl
        exact ab_r_ldI h (fun x rest H locs ls hq k => lv_iload_n hx hb hd rfl hq k) g
      · obtain rfl : n = 2 := by simpa [ab_len] using hl
        exact ab_r_ldA h (fun x rest H locs ls hq k => lv_aload hx hb hd hq k) g
      · obtain rfl : n = 1 := by simpa [ab_len] using hl
        exact ab_r_ldA h (fun x rest H locs ls hq k => lv_aload_n hx hb hd rfl hq k) g
      · obtain rfl : n = 2 := by simpa [ab_len] using hl
        exact ab_r_stI h (fun x rest H locs ls nL lv h1 h2 k => lv_istore hx hb hd h1 h2 rfl k) g
      · obtain rfl : n = 1 := by simpa [ab_len] using hl
        exact ab_r_stI h (fun x rest H locs ls nL lv h1 h2 k => lv_istore_n hx hb hd rfl h1 h2 rfl k) g
      · obtain rfl : n = 2 := by simpa [ab_len] using hl
        exact ab_r_stA h (fun x rest H locs ls nL lv h1 h2 k => lv_astore hx hb hd h1 h2 rfl k) g
      · obtain rfl : n = 1 := by simpa [ab_len] using hl
        exact ab_r_stA h (fun x rest H locs ls nL lv h1 h2 k => lv_astore_n hx hb hd rfl h1 h2 rfl k) g
      · obtain rfl : n = 3 := by simpa [ab_len] using hl
        exact ab_r_inc h hF hd g
      · obtain rfl : n = 1 := by simpa [ab_len] using hl
        exact ab_r_bin h (fun x y rest H locs ls k => lv_iadd hx hb hd k) g
      · obtain rfl : n = 1 := by simpa [ab_len] using hl
        exact ab_r_bin h (fun x y rest H locs ls k => lv_isub hx hb hd k) g
      · obtain rfl : n = 1 := by simpa [ab_len] using hl
        exact ab_r_bin h (fun x y rest H locs ls k => lv_imul hx hb hd k) g
      · obtain rfl : n = 1 := by simpa [ab_len] using hl
        exact ab_r_bin h (fun x y rest H locs ls k => lv_iand hx hb hd k) g
      · obtain rfl : n = 1 := by simpa [ab_len] using hl
        exact ab_r_bin h (fun x y rest H locs ls k => lv_ior hx hb hd k) g
      · obtain rfl : n = 1 := by simpa [ab_len] using hl
        exact ab_r_bin h (fun x y rest H locs ls k => lv_ixor hx hb hd k) g
      · obtain rfl : n = 1 := by simpa [ab_len] using hl
        exact ab_r_dv h (fun x y rest H locs ls h0 k => lv_idiv hx hb hd h0 k) g
      · obtain rfl : n = 1 := by simpa [ab_len] using hl
        exact ab_r_dv h (fun x y rest H locs ls h0 k => lv_irem hx hb hd h0 k) g
      · obtain rfl : n = 1 := by simpa [ab_len] using hl
        exact ab_r_un h (fun x rest H locs ls k => lv_ineg hx hb hd k) g
      · obtain rfl : n = 1 := by simpa [ab_len] using hl
        exact ab_r_bin h (fun x y rest H locs ls k => lv_ishl hx hb hd k) g
      · obtain rfl : n = 1 := by simpa [ab_len] using hl
        exact ab_r_bin h (fun x y rest H locs ls k => lv_ishr hx hb hd k) g
      · obtain rfl : n = 1 := by simpa [ab_len] using hl
        exact ab_r_bin h (fun x y rest H locs ls k => lv_iushr hx hb hd rfl k) g
      · obtain rfl : n = 1 := by simpa [ab_len] using hl
        exact ab_r_un h (fun x rest H locs ls k => lv_i2b hx hb hd rfl k) g
      · obtain rfl : n = 1 := by simpa [ab_len] using hl
        exact ab_r_un h (fun x rest H locs ls k => lv_i2s hx hb hd rfl k) g
      · obtain rfl : n = 1 := by simpa [ab_len] using hl
        exact ab_r_un h (fun x rest H locs ls k => lv_i2c hx hb hd rfl k) g
      · obtain rfl : n = 1 := by simpa [ab_len] using hl
        split at h
        · obtain ⟨rfl, rfl, rfl, rfl⟩ := ab_nx_i h
          exact fun H locs ls h2 h3 h4 h5 => lv_dup hx hb hd rfl (g H locs ls h2 h3 h4 h5)
        · obtain ⟨rfl, rfl, rfl, rfl⟩ := ab_nx_i h
          exact fun H locs ls h2 h3 h4 h5 => lv_dup hx hb hd rfl (g H locs ls h2 h3 h4 h5)
        · cases h
      · obtain rfl : n = 1 := by simpa [ab_len] using hl
        split at h
        · obtain ⟨rfl, rfl, rfl, rfl⟩ := ab_nx_i h
          exact fun H locs ls h2 h3 h4 h5 => lv_dup2_11 hx hb hd rfl rfl (g H locs ls h2 h3 h4 h5)
        · cases h
      · obtain rfl : n = 1 := by simpa [ab_len] using hl
        split at h
        · obtain ⟨rfl, rfl, rfl, rfl⟩ := ab_nx_i h
          exact fun H locs ls h2 h3 h4 h5 => lv_pop hx hb hd rfl (g H locs ls h2 h3 h4 h5)
        · cases h
      · obtain rfl : n = 3 := by simpa [ab_len] using hl
        exact ab_r_br2 h (fun x y rest H locs ls tgt ht k1 k2 => lv_icmp_eq hx hb hd ht (fun q => k1 (decide_eq_true q)) (fun q => k2 (fun z => q (of_decide_eq_true z)))) g
      · obtain rfl : n = 3 := by simpa [ab_len] using hl
        exact ab_r_br2 h (fun x y rest H locs ls tgt ht k1 k2 => lv_icmp_ne hx hb hd ht (fun q => k1 (decide_eq_true q)) (fun q => k2 (fun z => (of_decide_eq_true z) q))) g
      · obtain rfl : n = 3 := by simpa [ab_len] using hl
        exact ab_r_br2 h (fun x y rest H locs ls tgt ht k1 k2 => lv_icmp_lt hx hb hd ht (fun q => k1 (decide_eq_true q)) (fun q => k2 (fun z => q (of_decide_eq_true z)))) g
      · obtain rfl : n = 3 := by simpa [ab_len] using hl
        exact ab_r_br2 h (fun x y rest H locs ls tgt ht k1 k2 => lv_icmp_ge hx hb hd ht (fun q => k1 (decide_eq_true q)) (fun q => k2 (fun z => q (of_decide_eq_true z)))) g
      · obtain rfl : n = 3 := by simpa [ab_len] using hl
        exact ab_r_br2 h (fun x y rest H locs ls tgt ht k1 k2 => lv_icmp_gt hx hb hd ht (fun q => k1 (decide_eq_true q)) (fun q => k2 (fun z => q (of_decide_eq_true z)))) g
      · obtain rfl : n = 3 := by simpa [ab_len] using hl
        exact ab_r_br2 h (fun x y rest H locs ls tgt ht k1 k2 => lv_icmp_le hx hb hd ht (fun q => k1 (decide_eq_true q)) (fun q => k2 (fun z => q (of_decide_eq_true z)))) g
      · obtain rfl : n = 3 := by simpa [ab_len] using hl
        exact ab_r_br1 h (fun x rest H locs ls tgt ht k1 k2 => lv_if_eq hx hb hd ht (fun q => k1 (decide_eq_true q)) (fun q => k2 (fun z => q (of_decide_eq_true z)))) g
      · obtain rfl : n = 3 := by simpa [ab_len] using hl
        exact ab_r_br1 h (fun x rest H locs ls tgt ht k1 k2 => lv_if_ne hx hb hd ht (fun q => k1 (decide_eq_true q)) (fun q => k2 (fun z => (of_decide_eq_true z) q))) g
      · obtain rfl : n = 3 := by simpa [ab_len] using hl
        exact ab_r_br1 h (fun x rest H locs ls tgt ht k1 k2 => lv_if_lt hx hb hd ht (fun q => k1 (decide_eq_true q)) (fun q => k2 (fun z => q (of_decide_eq_true z)))) g
      · obtain rfl : n = 3 := by simpa [ab_len] using hl
        exact ab_r_br1 h (fun x rest H locs ls tgt ht k1 k2 => lv_if_ge hx hb hd ht (fun q => k1 (decide_eq_true q)) (fun q => k2 (fun z => q (of_decide_eq_true z)))) g
      · obtain rfl : n = 3 := by simpa [ab_len] using hl
        exact ab_r_br1 h (fun x rest H locs ls tgt ht k1 k2 => lv_if_gt hx hb hd ht (fun q => k1 (decide_eq_true q)) (fun q => k2 (fun z => q (of_decide_eq_true z)))) g
      · obtain rfl : n = 3 := by simpa [ab_len] using hl
        exact ab_r_br1 h (fun x rest H locs ls tgt ht k1 k2 => lv_if_le hx hb hd ht (fun q => k1 (decide_eq_true q)) (fun q => k2 (fun z => q (of_decide_eq_true z)))) g
      · obtain rfl : n = 3 := by simpa [ab_len] using hl
        obtain ⟨ht, rfl, rfl, rfl⟩ := ab_jp_i h
        exact fun H locs ls h2 h3 h4 h5 => lv_goto hx hb hd ht (g H locs ls h2 h3 h4 h5)
      · exact ab_r_tsw h hF hd g
      · exact ab_r_lsw h hF hd g
      · obtain rfl : n = 3 := by simpa [ab_len] using hl
        exact ab_r_getf hC h hF hd g
      · obtain rfl : n = 3 := by simpa [ab_len] using hl
        exact ab_r_putf hC h hF hd g
      · obtain rfl : n = 1 := by simpa [ab_len] using hl
        exact ab_r_iald hC h hF hd g
      · obtain rfl : n = 1 := by simpa [ab_len] using hl
        exact ab_r_bald hC h hF hd g
      · obtain rfl : n = 1 := by simpa [ab_len] using hl
        exact ab_r_cald hC h hF hd g
      · obtain rfl : n = 1 := by simpa [ab_len] using hl
        exact ab_r_ast (by decide) (by decide) hC h (fun x i r n rest H locs ls a1 a2 a3 a4 a5 kk => va_iast hx hb hC.1 a1 a2 a3 r 0 a4 rfl a5 hd (fun H1 locs1 e1 e2 e3 => kk H1 locs1 e1 e3)) g
      · obtain rfl : n = 1 := by simpa [ab_len] using hl
        exact ab_r_ast (by decide) (by decide) hC h (fun x i r n rest H locs ls a1 a2 a3 a4 a5 kk => va_zast hx hb hC.1 a1 a2 a3 r 1 a4 rfl a5 hd (fun H1 locs1 e1 e2 e3 => kk H1 locs1 e1 e3)) g
      · obtain rfl : n = 1 := by simpa [ab_len] using hl
        exact ab_r_ast (by decide) (by decide) hC h (fun x i r n rest H locs ls a1 a2 a3 a4 a5 kk => va_cast hx hb hC.1 a1 a2 a3 r 2 a4 rfl a5 hd (fun H1 locs1 e1 e2 e3 => kk H1 locs1 e1 e3)) g
      · obtain rfl : n = 1 := by simpa [ab_len] using hl
        exact ab_r_aald hC h hF hd g
      · obtain rfl : n = 1 := by simpa [ab_len] using hl
        exact ab_r_alen hC h hF hd g
      · obtain rfl : n = 3 := by simpa [ab_len] using hl
        exact ab_r_gets hC h hF hd g
      · unfold ab_vir at h
        split at h
        · split at h
          · split at h
            · unfold ab_cal at h
              split at h <;> cases h
            · cases h
          · cases h
        · cases h
      · obtain rfl : n = 3 := by simpa [ab_len] using hl
        unfold ab_sta at h
        split at h
        · split at h
          · unfold ab_cal at h
            split at h <;> cases h
          · cases h
        · split at h
          · exact ab_r_acp hC hR (by assumption) h hF hd g
          · cases h
      · obtain rfl : n = 3 := by simpa [ab_len] using hl
        exact ab_r_spe hR h hF hd g
      · unfold ab_retI at h
        split at h
        · split at h <;> cases h
        · cases h
      · unfold ab_retA at h
        split at h <;> cases h
      · unfold ab_retV at h
        split at h <;> cases h
      · cases h
    · cases h
  · cases h
end
end
section
theorem vr_outer (c : ClassId) (N h0 : Nat) : ∀ i : Nat, Jvm.Free.Multi.outerC c N h0 i = arrV c N (fun j => va_rf (if j < i then some (h0 + 1 + j) else none))
  | 0 => by
    show ({ cls := c, slots := Array.replicate N .null, vm := .none } : Cell) = _
    rw [arrV_new]
    refine congrArg (arrV c N) (funext fun j => ?_)
    simp [va_rf]
  | i + 1 => by
    show (Jvm.Free.Multi.outerC c N h0 i).setSlot i (.ref (h0 + 1 + i)) = _
    rw [vr_outer c N h0 i, arrV_store]
    refine congrArg (arrV c N) (funext fun j => ?_)
    by_cases e : j = i
    · subst e
      simp [updV, va_rf]
    · by_cases h : j < i
      · simp [updV, e, h, Nat.lt_succ_of_lt h]
      · simp [updV, e, h, show ¬ j < i + 1 by omega]

def ab_sz (x : ab_C) : Nat := if x.1 = 0 then x.2.2.length else x.2.1
def ab_tot (S : List ab_C) : Nat := (S.map ab_sz).sum
theorem ab_tot_app (S T : List ab_C) : ab_tot (S ++ T) = ab_tot S + ab_tot T := by unfold ab_tot; rw [List.map_append, List.sum_append]
theorem ab_sum_set : ∀ (xs : List Nat) (r a : Nat), xs[r]? = some a → (xs.set r a).sum = xs.sum
  | [], r, a, h => by simp at h
  | x :: xs, 0, a, h => by cases h; rfl
  | x :: xs, r + 1, a, h => by
    have := ab_sum_set xs r a (by simpa using h)
    simp [this]
theorem ab_tot_set {S : List ab_C} {r : Nat} {x y : ab_C} (h : S[r]? = some x) (e : ab_sz y = ab_sz x) : ab_tot (S.set r y) = ab_tot S := by
  unfold ab_tot
  rw [List.map_set, e]
  exact ab_sum_set _ r _ (by rw [List.getElem?_map, h]; rfl)
section
variable {p : Program} {l : Launch} {e : Env} {R : Room} {s : State} {m : MethodId} {args : Array Value} {below : List Frame} {meth : Method} {c : Code} {cells slots : Nat} {Q : State → Prop}
variable {D : va_G} {cT : Nat → ClassId} {ad : Nat → Nat} {B0 : Nat} {E : ab_E} {k pc pc' : Nat} {S S' : List ab_C} {L L' : ab_L} {st st' : List Value} {μ μ' : ab_M}
theorem ab_W_sz {H : Heap} {locs : List Loc} {g : JFrame} (kk : H.size ≤ s.heap.size + cells → W p l e R s m args below meth c H locs cells slots Q g) : W p l e R s m args below meth c H locs cells slots Q g := fun T hT X => kk (by have := X.same.2.2.1; rw [← hT]; exact this) T hT X
theorem ab_size (hC : ab_Ctx D cT ad B0 E s) {H : Heap} {locs : List Loc} (h2 : S.length ≤ 900) (h3 : va_P D ab_cl (ab_wd cT ad S μ) H) (h4 : va_S (fun q => B0 ≤ q) s.heap H locs) (hcs : s.heap.size + cells = B0 + S.length) (hz : H.size ≤ s.heap.size + cells) : H.size = B0 + S.length := by
  have had := hC.2.2.2.2.2.2.2.2.2.2.1
  have hB := hC.2.2.2.2.2.2.2.2.2.1
  have h0 := h4.1
  by_cases e : S.length = 0
  · omega
  · have hlt : S.length - 1 < S.length := by omega
    have h := h3 (S.length - 1) _ (ab_wd_at (List.getElem?_eq_getElem hlt))
    have h := h.lt
    have e2 : (ab_w1 cT ad μ (S.length - 1) S[S.length - 1]).1 = B0 + (S.length - 1) := had _ (by omega)
    rw [e2] at h
    omega
theorem ab_f1_dv {r j : Nat} (ty : FieldType) (h : μ r j = 0) : ab_f1 ad μ r j (defaultValue ty) = defaultValue ty := by
  cases ty <;> simp [defaultValue, ab_f1, ab_tr, h]
theorem ab_push1 (hC : ab_Ctx D cT ad B0 E s) {H H1 : Heap} {locs : List Loc} {x : ab_C} (h3 : va_P D ab_cl (ab_wd cT ad S μ) H) (h4 : va_S (fun q => B0 ≤ q) s.heap H locs) (hsz : H.size = B0 + S.length) (hlt : S.length < 900) (o1 : ∀ q, q < H.size → H1[q]? = H[q]?) (z1 : H1.size = H.size + 1)
    (hx : va_at D ab_cl (ab_w1 cT ad (ab_upA μ S.length (fun _ => 0)) S.length x) H1) : va_P D ab_cl (ab_wd cT ad (S ++ [x]) (ab_upA μ S.length (fun _ => 0))) H1 ∧ va_S (fun q => B0 ≤ q) s.heap H1 locs := by
  refine ⟨?_, Nat.le_trans h4.1 (by omega), fun x h1 h2 => (o1 x (Nat.lt_of_lt_of_le h1 h4.1)).trans (h4.2.1 x h1 h2), h4.2.2⟩
  rw [ab_wd_push (μ := μ) (fun a ha => by simp [ab_upA, Nat.ne_of_lt ha])]
  refine (h3.kept (fun k x hx => o1 x.1 ((h3 k x hx).lt))).app (fun k q hq => ?_)
  have hz : k < 1 := (List.getElem?_eq_some_iff.mp hq).1
  obtain rfl : k = 0 := by omega
  cases hq
  exact hx
theorem ab_r_new {j ci : Nat} (hC : ab_Ctx D cT ad B0 E s) (hj : ab_kl (ab_own k) j = some ci) (hlt : S.length < 900) (hF : ab_Fr p s m args meth c k) (hd : decode (ab_B k) pc = .ok (.new j, 3)) (hcs : s.heap.size + cells = B0 + S.length) (hr1 : cells + 1 ≤ R.cells) (hr2 : slots + ab_N ci ≤ R.slots)
    (g : ab_Go p l e R s m args below meth c D cT ad B0 k Q (cells + 1) (slots + ab_N ci) (S ++ [(0, ci, ab_zs ci)]) (ab_upA μ S.length (fun _ => 0)) (pc + 3) L (.ref S.length :: st)) : ab_Go p l e R s m args below meth c D cT ad B0 k Q cells slots S μ pc L st := by
  obtain ⟨hx, hb, hml, hr, hlk, hin, hown, hts⟩ := hF
  obtain ⟨w1, w2, w3, w4⟩ := ab_okklT (ab_mk_mem hj)
  have had := hC.2.2.2.2.2.2.2.2.2.2.1
  intro H locs ls h2 h3 h4 h5
  refine ab_W_sz fun hz => ?_
  have hsz := ab_size hC h2 h3 h4 hcs hz
  have hKn := hC.1.1 ci _ (ab_cl_at w4)
  refine W.newcK hx hb hown (hts _ w1) (hts _ w2) (hts _ w3) rfl hd hr1 hr2 hKn.2.1 rfl fun H1 kC hkC e1 z1 o1 => ?_
  have hb1 := (u_born (ab_ty ci) hts (ab_okW w4) hKn hkC e1 (ab_ty_ok w4))
  obtain ⟨p1, p2⟩ := ab_push1 (x := (0, ci, ab_zs ci)) hC h3 h4 hsz hlt o1 z1 (by
    rw [ab_w1_0]
    refine ⟨_, ab_cl_at w4, ?_⟩
    show t_OB (ad S.length) _ _ _ _ _
    rw [had _ hlt, ← hsz]
    refine hb1.to (fun q hq => ?_)
    show _ = List.getD _ q Value.null
    rw [List.getD_eq_getElem?_getD, List.getElem?_mapIdx]
    unfold ab_zs
    rw [List.getElem?_map, List.getElem?_range hq]
    simp only [Option.map_some, Option.getD_some]
    exact (ab_f1_dv _ (by simp [ab_upA])).symm)
  have g2 := g H1 locs ls (by rw [List.length_append]; exact hlt) p1 p2 h5
  rw [List.map_cons, show ab_tr ad (.ref S.length) = .ref H.size by show Value.ref (ad S.length) = _; rw [had _ hlt, hsz]] at g2
  exact g2
theorem ab_r_newa {t : ArrayType} {n : Int32} (hC : ab_Ctx D cT ad B0 E s) (ht : ab_tag t ≠ 0) (hlt : S.length < 900) (hn : ¬ n < 0) (hn2 : n.toNatClampNeg ≤ 10000) (hF : ab_Fr p s m args meth c k) (hd : decode (ab_B k) pc = .ok (.newarray t, 2)) (hcs : s.heap.size + cells = B0 + S.length) (hr1 : cells + 1 ≤ R.cells) (hr2 : slots + n.toNatClampNeg ≤ R.slots)
    (g : ab_Go p l e R s m args below meth c D cT ad B0 k Q (cells + 1) (slots + n.toNatClampNeg) (S ++ [(ab_tag t, n.toNatClampNeg, [])]) (ab_upA μ S.length (fun _ => 0)) (pc + 2) L (.ref S.length :: st)) : ab_Go p l e R s m args below meth c D cT ad B0 k Q cells slots S μ pc L (.int n :: st) := by
  obtain ⟨hx, hb, hml, hr, hlk, hin, hown, hts⟩ := hF
  have had := hC.2.2.2.2.2.2.2.2.2.2.1
  intro H locs ls h2 h3 h4 h5
  refine ab_W_sz fun hz => ?_
  have hsz := ab_size hC h2 h3 h4 hcs hz
  have hfin : ∀ (H1 : Heap) (cA : ClassId), H1[H.size]? = some (arrV cA n.toNatClampNeg (fun _ => .int 0)) → H1.size = H.size + 1 → (∀ q, q < H.size → H1[q]? = H[q]?) → cA = cT (ab_tag t) → ab_tag t ≤ 3 → W p l e R s m args below meth c H1 locs (cells + 1) (slots + n.toNatClampNeg) Q (F0 m (pc + 2) ls (.ref H.size :: st.map (ab_tr ad))) := by
    intro H1 cA e1 z1 o1 ec ht3
    obtain ⟨p1, p2⟩ := ab_push1 (x := (ab_tag t, n.toNatClampNeg, [])) hC h3 h4 hsz hlt o1 z1 (by
      rw [ab_w1_a ht ht3]
      show H1[ad S.length]? = _
      rw [had _ hlt, ← hsz, e1, ec, vp_cell_i]
      simp [ab_upA])
    have g2 := g H1 locs ls (by rw [List.length_append]; exact hlt) p1 p2 h5
    rw [List.map_cons, show ab_tr ad (.ref S.length) = .ref H.size by show Value.ref (ad S.length) = _; rw [had _ hlt, hsz]] at g2
    exact g2
  cases t with
  | int =>
    refine va_newaK (atype := .int) hx hb (hts _ ab_oA_int) rfl hd rfl hn rfl (by show _ * componentBytes .int ≤ _; simp [componentBytes]; omega) hr1 hr2 rfl fun H1 cA e1 z1 o1 hAr hNm => ?_
    exact hfin H1 cA e1 z1 o1 (Option.some.inj (hNm.symm.trans (hC.1.2 0 _ rfl).2)) (by decide)
  | boolean =>
    refine va_newaK (atype := .boolean) hx hb (hts _ ab_oA_boolean) rfl hd rfl hn rfl (by show _ * componentBytes .boolean ≤ _; simp [componentBytes]; omega) hr1 hr2 rfl fun H1 cA e1 z1 o1 hAr hNm => ?_
    exact hfin H1 cA e1 z1 o1 (Option.some.inj (hNm.symm.trans (hC.1.2 1 _ rfl).2)) (by decide)
  | char =>
    refine va_newaK (atype := .char) hx hb (hts _ ab_oA_char) rfl hd rfl hn rfl (by show _ * componentBytes .char ≤ _; simp [componentBytes]; omega) hr1 hr2 rfl fun H1 cA e1 z1 o1 hAr hNm => ?_
    exact hfin H1 cA e1 z1 o1 (Option.some.inj (hNm.symm.trans (hC.1.2 2 _ rfl).2)) (by decide)
  | _ => exact absurd rfl ht
theorem ab_r_newq {j ci : Nat} {n : Int32} (hC : ab_Ctx D cT ad B0 E s) (hj : ab_kl (ab_own k) j = some ci) (hci : ci = 3 ∨ ci = 4) (hlt : S.length < 900) (hn : ¬ n < 0) (hn2 : n.toNatClampNeg ≤ 10000) (hF : ab_Fr p s m args meth c k) (hd : decode (ab_B k) pc = .ok (.anewarray j, 3)) (hcs : s.heap.size + cells = B0 + S.length) (hr1 : cells + 1 ≤ R.cells) (hr2 : slots + n.toNatClampNeg ≤ R.slots)
    (g : ab_Go p l e R s m args below meth c D cT ad B0 k Q (cells + 1) (slots + n.toNatClampNeg) (S ++ [(ci + 3, n.toNatClampNeg, List.replicate n.toNatClampNeg .null)]) (ab_upA μ S.length (fun _ => 0)) (pc + 3) L (.ref S.length :: st)) : ab_Go p l e R s m args below meth c D cT ad B0 k Q cells slots S μ pc L (.int n :: st) := by
  obtain ⟨hx, hb, hml, hr, hlk, hin, hown, hts⟩ := hF
  obtain ⟨w1, w2, w3, w4⟩ := ab_okklT (ab_mk_mem hj)
  have had := hC.2.2.2.2.2.2.2.2.2.2.1
  intro H locs ls h2 h3 h4 h5
  refine ab_W_sz fun hz => ?_
  have hsz := ab_size hC h2 h3 h4 hcs hz
  have hover : va_AO (ab_R ci) s := by
    rcases hci with rfl | rfl
    · exact hC.2.2.1.1
    · exact hC.2.2.1.2.1
  refine W.anew hx hb hown (hts _ w1) (va_AO.use hover) rfl hd rfl hn (by omega) hr1 hr2 fun cA kA comp f1 f2 f3 f4 => ?_
  generalize hH1 : H.push ({ cls := cA, slots := Array.replicate n.toNatClampNeg .null, vm := .none } : Cell) = H1
  have z1 : H1.size = H.size + 1 := by rw [← hH1, Array.size_push]
  have e1 : H1[H.size]? = some (arrV cA n.toNatClampNeg (fun _ => .null)) := by rw [← hH1, Array.getElem?_push_size, ← arrV_new]
  have o1 : ∀ q : Nat, q < H.size → H1[q]? = H[q]? := fun q hq => by rw [← hH1, Array.getElem?_push, if_neg (Nat.ne_of_lt hq)]
  have ec : cA = cT (ci + 3) := by
    rcases hci with rfl | rfl
    · obtain ⟨_, _, _, _, _, h⟩ := (hC.1.2 4 _ rfl).2
      exact Option.some.inj (f1.symm.trans h)
    · obtain ⟨_, _, _, _, _, h⟩ := (hC.1.2 5 _ rfl).2
      exact Option.some.inj (f1.symm.trans h)
  obtain ⟨p1, p2⟩ := ab_push1 (x := (ci + 3, n.toNatClampNeg, List.replicate n.toNatClampNeg .null)) hC h3 h4 hsz hlt o1 z1 (by
    rw [ab_w1_q (by rcases hci with rfl | rfl <;> decide)]
    show H1[ad S.length]? = _
    rw [had _ hlt, ← hsz, e1, ec, vp_cell_q]
    congr 2
    funext q
    unfold ab_q1
    rw [List.getElem?_replicate]
    split
    · rename_i e9; split at e9 <;> cases e9
    · rfl)
  have g2 := g H1 locs ls (by rw [List.length_append]; exact hlt) p1 p2 h5
  rw [List.map_cons, show ab_tr ad (.ref S.length) = .ref H.size by show Value.ref (ad S.length) = _; rw [had _ hlt, hsz]] at g2
  exact g2
theorem ab_r_multi {j : Nat} {n kk : Int32} (hC : ab_Ctx D cT ad B0 E s) (hj : (ab_own k, j) = ab_kq) (hlt : S.length + n.toNatClampNeg < 900) (hn : ¬ n < 0) (hk : ¬ kk < 0) (hn2 : n.toNatClampNeg ≤ 1000) (hk2 : kk.toNatClampNeg ≤ 1000) (hF : ab_Fr p s m args meth c k) (hd : decode (ab_B k) pc = .ok (.multianewarray j 2, 4)) (hcs : s.heap.size + cells = B0 + S.length) (hr1 : cells + (1 + n.toNatClampNeg) ≤ R.cells) (hr2 : slots + (n.toNatClampNeg + n.toNatClampNeg * kk.toNatClampNeg) ≤ R.slots)
    (g : ab_Go p l e R s m args below meth c D cT ad B0 k Q (cells + 1 + n.toNatClampNeg) (slots + n.toNatClampNeg + n.toNatClampNeg * kk.toNatClampNeg) (S ++ [(5, n.toNatClampNeg, (List.range n.toNatClampNeg).map fun q => .ref (S.length + 1 + q))] ++ List.replicate n.toNatClampNeg (1, kk.toNatClampNeg, [])) (fun a => if S.length ≤ a then (fun _ => 0) else μ a) (pc + 4) L (.ref S.length :: st)) : ab_Go p l e R s m args below meth c D cT ad B0 k Q cells slots S μ pc L (.int kk :: .int n :: st) := by
  obtain ⟨hx, hb, hml, hr, hlk, hin, hown, hts⟩ := hF
  have had := hC.2.2.2.2.2.2.2.2.2.2.1
  intro H locs ls h2 h3 h4 h5
  refine ab_W_sz fun hz => ?_
  have hsz := ab_size hC h2 h3 h4 hcs hz
  intro T hT Xs
  have e1 : ab_own k = ab_kq.1 := by rw [← hj]
  have e2 : j = ab_kq.2 := by rw [← hj]
  have hcl : (Cond.classLink (ab_R (ab_own k)) j ("[" ++ (FieldType.array .int).toString)).before args s = true := by rw [e1, e2]; exact hts _ ab_oQ
  obtain ⟨vm₁, cA, comp, -, fA, fC, hO, -, X', step⟩ := Xs.multianewarray2F (ty := .int) hx hown hcl (ab_AOA.use hC.2.2.1.2.2) (hts _ ab_oA_int) (g := F0 m pc ls (.int kk :: .int n :: st.map (ab_tr ad))) rfl (by rw [hb]; exact hd) rfl hn hk (by omega) (by show _ * componentBytes .int ≤ _; simp [componentBytes]; omega) (by omega) rfl rfl hr1 hr2
  have ecA : cA = cT 5 := Option.some.inj (fA.symm.trans (hC.1.2 3 _ rfl).2)
  have ecy : comp = cT 1 := Option.some.inj (fC.symm.trans (hC.1.2 0 _ rfl).2)
  subst ecA
  subst ecy
  generalize hFF : Jvm.Free.Multi.fill (T.setVm vm₁) (cT 5) (cT 1) n.toNatClampNeg kk.toNatClampNeg (defaultValue .int) n.toNatClampNeg = F at X' step
  have hTh : (T.setVm vm₁).heap = H := hT
  obtain ⟨f1, f2, -, -⟩ := Jvm.Free.Multi.fill_facts (T.setVm vm₁) (cT 5) (cT 1) n.toNatClampNeg kk.toNatClampNeg (defaultValue .int) n.toNatClampNeg
  rw [hFF, hTh] at f1 f2
  have hold : ∀ x : Nat, x < H.size → F.heap[x]? = H[x]? := fun x hx => by
    have := Jvm.Free.Multi.fill_old (T.setVm vm₁) (cT 5) (cT 1) n.toNatClampNeg kk.toNatClampNeg (defaultValue .int) (a := x) (by rw [hTh]; exact hx) n.toNatClampNeg
    rw [hFF, hTh] at this
    exact this
  have hrow : ∀ j : Nat, j < n.toNatClampNeg → F.heap[H.size + 1 + j]? = some (arrV (cT 1) kk.toNatClampNeg (fun _ => .int 0)) := fun j hj => by
    have := Jvm.Free.Multi.fill_inner (T.setVm vm₁) (cT 5) (cT 1) n.toNatClampNeg kk.toNatClampNeg (defaultValue .int) n.toNatClampNeg j hj
    rw [hFF, hTh] at this
    rw [this, ← arrV_new]
    rfl
  rw [vr_outer] at f2
  have hP : va_P D ab_cl (ab_wd cT ad (S ++ [(5, n.toNatClampNeg, (List.range n.toNatClampNeg).map fun q => .ref (S.length + 1 + q))] ++ List.replicate n.toNatClampNeg (1, kk.toNatClampNeg, [])) (fun a => if S.length ≤ a then (fun _ => 0) else μ a)) F.heap := by
    rw [List.append_assoc, ab_wd_push (μ := μ) (fun a ha => by simp [Nat.not_le.mpr ha])]
    refine (h3.kept (fun k x hx => hold x.1 ((h3 k x hx).lt))).app (fun q x hq => ?_)
    rw [List.getElem?_mapIdx] at hq
    cases q with
    | zero =>
      cases hq
      show va_at D ab_cl (ab_w1 _ _ _ _ _) _
      rw [ab_w1_q (by decide)]
      show F.heap[ad (S.length + 0)]? = _
      rw [had _ (by omega), Nat.add_zero, ← hsz, f2, vp_cell_q]
      congr 2
      funext q
      unfold ab_q1
      rw [List.getElem?_map]
      by_cases hq : q < n.toNatClampNeg
      · rw [List.getElem?_range hq, if_pos hq]
        simp only [Option.map_some]
        rw [had _ (by omega), hsz]
        congr 2
        omega
      · rw [if_neg hq, List.getElem?_eq_none (by rw [List.length_range]; omega)]
        rfl
    | succ q =>
      rw [List.cons_append, List.nil_append, List.getElem?_cons_succ, List.getElem?_replicate] at hq
      split at hq
      · rename_i hq9
        cases hq
        show va_at D ab_cl (ab_w1 _ _ _ _ _) _
        rw [ab_w1_a (by decide) (by decide)]
        show F.heap[ad (S.length + (q + 1))]? = _
        rw [had _ (by omega), show B0 + (S.length + (q + 1)) = H.size + 1 + q by omega, hrow q hq9, vp_cell_i]
        simp
      · cases hq
  have hS : va_S (fun q => B0 ≤ q) s.heap F.heap locs := ⟨by rw [f1]; have := h4.1; omega, fun x h1 h2 => (hold x (Nat.lt_of_lt_of_le h1 h4.1)).trans (h4.2.1 x h1 h2), h4.2.2⟩
  obtain ⟨t, a1, b1⟩ := g F.heap locs ls (by simp; omega) hP hS h5 F rfl X'
  refine ⟨t, step t ?_, b1⟩
  have e9 : T.heap.size = H.size := by rw [hT]
  rw [e9]
  rw [List.map_cons, show ab_tr ad (.ref S.length) = .ref H.size by show Value.ref (ad S.length) = _; rw [had _ (by omega), hsz]] at a1
  exact a1
theorem ab_map_setR {vs : List Value} {r fi q : Nat} (h : fi < vs.length) : (vs.mapIdx (ab_f1 ad μ r)).set fi (.ref (ad q)) = (vs.set fi (.ref q)).mapIdx (ab_f1 ad μ r) := by
  apply List.ext_getElem?
  intro i
  rw [List.getElem?_set, List.getElem?_mapIdx, List.getElem?_mapIdx, List.getElem?_set]
  by_cases e : fi = i
  · subst e
    simp [h, ab_f1, ab_tr]
  · rw [if_neg e, if_neg e]
theorem ab_r_putR {j ci fi q r : Nat} {vs : List Value} (hC : ab_Ctx D cT ad B0 E s) (hS : S[r]? = some (0, ci, vs)) (hfl : ab_fl (ab_own k) j = some (ci, fi)) (q2 : (ab_T ci fi).2.2.2 = true) (q3 : (ab_Y k).name = "<init>") (q4 : ab_own k = ci) (q5 : (ab_ty ci fi).isReference = true) (q6 : fi < vs.length) (hF : ab_Fr p s m args meth c k) (hd : decode (ab_B k) pc = .ok (.putfield j, 3))
    (g : ab_Go p l e R s m args below meth c D cT ad B0 k Q cells slots (S.set r (0, ci, vs.set fi (.ref q))) μ (pc + 3) L st) : ab_Go p l e R s m args below meth c D cT ad B0 k Q cells slots S μ pc L (.ref q :: .ref r :: st) := by
  obtain ⟨hx, hb, hml, hr, hlk, hin, hown, hts⟩ := hF
  have had := hC.2.2.2.2.2.2.2.2.2.2.1
  obtain ⟨w1, w2, w3, w4⟩ := ab_okF hfl
  intro H locs ls h2 h3 h4 h5
  refine va_putF (q0 := r) (k := fi) hx hb hts (ab_okW w4) (ab_ty ci) (ab_ty_ok w4) (ab_nm w4) hown hC.1 h3 (ab_D had h2) h4 (by rw [ab_wd_at hS, ab_w1_0]) (ab_cl_at w4) w3 (hts _ w1) (fun x hx => by rw [w2] at hx; exact hx) q2 (hin q3) (by rw [w2, q4]) (ab_ty_ok w4 fi w3) (v := .ref (ad q)) (by cases h9 : ab_ty ci fi <;> rw [h9] at q5 <;> first | rfl | cases q5) (by cases h9 : ab_ty ci fi <;> rw [h9] at q5 <;> first | rfl | cases q5) (by rw [List.length_mapIdx]; exact q6) hd (fun H1 locs1 e1 e2 e3 => ?_)
  rw [ab_map_setR q6] at e1
  have e4 : (ab_wd cT ad S μ).set r (ab_w1 cT ad μ r (0, ci, vs.set fi (.ref q))) = ab_wd cT ad (S.set r (0, ci, vs.set fi (.ref q))) μ := ab_wd_setS (List.getElem?_eq_some_iff.mp hS).1
  rw [ab_w1_0] at e4
  rw [e4] at e1
  exact g H1 locs1 ls (by rw [List.length_set]; exact h2) e1 e3 h5
theorem ab_r_aast {t n ci q r : Nat} {i : Int32} {vs ws : List Value} (hC : ab_Ctx D cT ad B0 E s) (hS : S[r]? = some (t, n, vs)) (hSq : S[q]? = some (0, ci, ws)) (hci : ci = 3 ∨ ci = 4) (ht : t = ci + 3) (hi : ab_in i n) (hvn : vs.length = n) (hF : ab_Fr p s m args meth c k) (hd : decode (ab_B k) pc = .ok (.aastore, 1))
    (g : ab_Go p l e R s m args below meth c D cT ad B0 k Q cells slots (S.set r (t, n, vs.set i.toNatClampNeg (.ref q))) μ (pc + 1) L st) : ab_Go p l e R s m args below meth c D cT ad B0 k Q cells slots S μ pc L (.ref q :: .int i :: .ref r :: st) := by
  obtain ⟨hx, hb, hml, hr, hlk, hin, hown, hts⟩ := hF
  have had := hC.2.2.2.2.2.2.2.2.2.2.1
  have ht4 : 4 ≤ t := by omega
  have hlt : i.toNatClampNeg < n := Nat.not_le.mp fun q => hi (Or.inr q)
  intro H locs ls h2 h3 h4 h5
  have row : ∀ (H1 : Heap) (locs1 : List Loc), va_P D ab_cl ((ab_wd cT ad S μ).set r (ad r, .inl (cT t, n, .inr (.inr (.inr (.inr (va_up (ab_q1 ad vs) i.toNatClampNeg (some (ad q))))))))) H1 → va_S (fun q => B0 ≤ q) s.heap H1 locs1 → W p l e R s m args below meth c H1 locs1 cells slots Q (F0 m (pc + 1) ls (st.map (ab_tr ad))) := by
    intro H1 locs1 e1 e3
    have e4 : (ab_wd cT ad S μ).set r (ab_w1 cT ad μ r (t, n, vs.set i.toNatClampNeg (.ref q))) = ab_wd cT ad (S.set r (t, n, vs.set i.toNatClampNeg (.ref q))) μ := ab_wd_setS (List.getElem?_eq_some_iff.mp hS).1
    rw [ab_w1_q ht4] at e4
    have e5 : ab_q1 ad (vs.set i.toNatClampNeg (.ref q)) = va_up (ab_q1 ad vs) i.toNatClampNeg (some (ad q)) := by
      funext z
      unfold ab_q1 va_up
      rw [List.getElem?_set]
      by_cases hz : i.toNatClampNeg = z
      · subst hz; simp [hvn, hlt]
      · rw [if_neg hz, if_neg (fun q => hz q.symm)]
    rw [e5] at e4
    rw [e4] at e1
    exact g H1 locs1 ls (by rw [List.length_set]; exact h2) e1 e3 h5
  have ha : (ab_wd cT ad S μ)[r]? = some (ad r, .inl (cT t, n, .inr (.inr (.inr (.inr (ab_q1 ad vs)))))) := by rw [ab_wd_at hS, ab_w1_q ht4]
  have hv : (ab_wd cT ad S μ)[q]? = some (ad q, .inr (ci, ws.mapIdx (ab_f1 ad μ q))) := by rw [ab_wd_at hSq, ab_w1_0]
  subst ht
  rcases hci with rfl | rfl
  · exact va_astq (r := (ab_R 3, ab_T 3, ab_N 3)) hx hb hC.1 h3 (ab_D had h2) h4 r 4 q 3 ha rfl hv (ab_cl_at (by decide)) hi hd (fun H1 locs1 e1 e2 e3 => row H1 locs1 e1 e3)
  · exact va_astq (r := (ab_R 4, ab_T 4, ab_N 4)) hx hb hC.1 h3 (ab_D had h2) h4 r 5 q 4 ha rfl hv (ab_cl_at (by decide)) hi hd (fun H1 locs1 e1 e2 e3 => row H1 locs1 e1 e3)
/-- shapes only grow -/
theorem ab_alloc_grows {i : Instr} (h : ab_alloc S k pc i L st μ = some (pc', L', st', (S', μ'))) : S.length ≤ S'.length ∧ ab_tot S ≤ ab_tot S' ∧ (S.length ≤ 900 → S'.length ≤ 900) := by
  unfold ab_alloc at h
  split at h
  · split at h
    · split at h
      · cases h; rw [ab_tot_app, List.length_append]; exact ⟨Nat.le_add_right _ _, Nat.le_add_right _ _, fun _ => by simp; omega⟩
      · cases h
    · cases h
  · split at h
    · split at h
      · cases h; rw [ab_tot_app, List.length_append]; exact ⟨Nat.le_add_right _ _, Nat.le_add_right _ _, fun _ => by simp; omega⟩
      · cases h
    · cases h
  · split at h
    · split at h
      · cases h; rw [ab_tot_app, List.length_append]; exact ⟨Nat.le_add_right _ _, Nat.le_add_right _ _, fun _ => by simp; omega⟩
      · cases h
    · cases h
  · split at h
    · split at h
      · cases h; rw [List.append_assoc, ab_tot_app, List.length_append]; exact ⟨Nat.le_add_right _ _, Nat.le_add_right _ _, fun _ => by simp; omega⟩
      · cases h
    · cases h
  · split at h
    · split at h
      · split at h
        · rename_i hS
          split at h
          · split at h
            · cases h; rw [List.length_set, ab_tot_set hS (by simp [ab_sz])]; exact ⟨Nat.le_refl _, Nat.le_refl _, fun q => q⟩
            · cases h
          · cases h
        · cases h
      · cases h
    · cases h
  · split at h
    · split at h
      · split at h
        · rename_i hS hS2
          split at h
          · rename_i hq
            cases h; rw [List.length_set, ab_tot_set hS (by obtain ⟨h1, rfl, -⟩ := hq; simp [ab_sz])]; exact ⟨Nat.le_refl _, Nat.le_refl _, fun q => q⟩
          · cases h
        · cases h
      · cases h
    · cases h
  · cases h
theorem ab_r_alloc {i : Instr} {n : Nat} (hC : ab_Ctx D cT ad B0 E s) (h : ab_alloc S k pc i L st μ = some (pc', L', st', (S', μ'))) (hl : ab_len i n = true) (hd : decode (ab_B k) pc = .ok (i, n)) (hF : ab_Fr p s m args meth c k) (hcs : s.heap.size + cells = B0 + S.length) (hr1 : cells + (S'.length - S.length) ≤ R.cells) (hr2 : slots + (ab_tot S' - ab_tot S) ≤ R.slots)
    (g : ab_Go p l e R s m args below meth c D cT ad B0 k Q (cells + (S'.length - S.length)) (slots + (ab_tot S' - ab_tot S)) S' μ' pc' L' st') : ab_Go p l e R s m args below meth c D cT ad B0 k Q cells slots S μ pc L st := by
  unfold ab_alloc at h
  split at h
  · obtain rfl : n = 3 := by simpa [ab_len] using hl
    split at h
    · rename_i ci hci
      split at h
      · rename_i hlt
        cases h
        have e1 : (S ++ [(0, ci, ab_zs ci)]).length - S.length = 1 := by rw [List.length_append]; simp
        have e2 : ab_tot (S ++ [(0, ci, ab_zs ci)]) - ab_tot S = ab_N ci := by rw [ab_tot_app]; simp [ab_tot, ab_sz, ab_zs]
        rw [e1] at hr1 g
        rw [e2] at hr2 g
        exact ab_r_new hC hci hlt hF hd hcs hr1 hr2 g
      · cases h
    · cases h
  · rename_i t
    obtain rfl : n = 2 := by simpa [ab_len] using hl
    split at h
    · split at h
      · rename_i x _ hq
        obtain ⟨q1, q2, q3, q4⟩ := hq
        cases h
        have e1 : (S ++ [(ab_tag t, x.toNatClampNeg, [])]).length - S.length = 1 := by rw [List.length_append]; simp
        have e2 : ab_tot (S ++ [(ab_tag t, x.toNatClampNeg, [])]) - ab_tot S = x.toNatClampNeg := by rw [ab_tot_app]; simp [ab_tot, ab_sz, q4]
        rw [e1] at hr1 g
        rw [e2] at hr2 g
        exact ab_r_newa hC q4 q1 q2 q3 hF hd hcs hr1 hr2 g
      · cases h
    · cases h
  · obtain rfl : n = 3 := by simpa [ab_len] using hl
    split at h
    · rename_i x _ ci hci
      split at h
      · rename_i hq
        obtain ⟨q1, q2, q3, q4⟩ := hq
        cases h
        have e1 : (S ++ [(ci + 3, x.toNatClampNeg, List.replicate x.toNatClampNeg Value.null)]).length - S.length = 1 := by rw [List.length_append]; simp
        have e2 : ab_tot (S ++ [(ci + 3, x.toNatClampNeg, List.replicate x.toNatClampNeg Value.null)]) - ab_tot S = x.toNatClampNeg := by rw [ab_tot_app]; simp [ab_tot, ab_sz]
        rw [e1] at hr1 g
        rw [e2] at hr2 g
        exact ab_r_newq hC hci q4 q1 q2 q3 hF hd hcs hr1 hr2 g
      · cases h
    · cases h
  · obtain rfl : n = 4 := by simpa [ab_len] using hl
    split at h
    · rename_i j dm kk x r
      split at h
      · rename_i hq
        obtain ⟨q1, rfl, q2, q3, q4, q5, q6⟩ := hq
        cases h
        have e1 : (S ++ [(5, x.toNatClampNeg, (List.range x.toNatClampNeg).map fun q => Value.ref (S.length + 1 + q))] ++ List.replicate x.toNatClampNeg (1, kk.toNatClampNeg, [])).length - S.length = 1 + x.toNatClampNeg := by simp; omega
        have e2 : ab_tot (S ++ [(5, x.toNatClampNeg, (List.range x.toNatClampNeg).map fun q => Value.ref (S.length + 1 + q))] ++ List.replicate x.toNatClampNeg (1, kk.toNatClampNeg, [])) - ab_tot S = x.toNatClampNeg + x.toNatClampNeg * kk.toNatClampNeg := by
          rw [ab_tot_app, ab_tot_app]; simp [ab_tot, ab_sz]; omega
        rw [e1] at hr1 g
        rw [e2] at hr2 g
        exact ab_r_multi hC q1 q2 q3 q4 q5 q6 hF hd hcs hr1 hr2 (by rw [Nat.add_assoc cells, Nat.add_assoc slots]; exact g)
      · cases h
    · cases h
  · obtain rfl : n = 3 := by simpa [ab_len] using hl
    split at h
    · split at h
      · split at h
        · rename_i hS
          split at h
          · rename_i hfl
            split at h
            · rename_i hq
              obtain ⟨rfl, q1, q2, q3, q4, q5, q6⟩ := hq
              cases h
              rw [List.length_set, Nat.sub_self, ab_tot_set hS (by simp [ab_sz]), Nat.sub_self] at g
              exact ab_r_putR hC hS hfl q2 q3 q4 q5 q6 hF hd g
            · cases h
          · cases h
        · cases h
      · cases h
    · cases h
  · obtain rfl : n = 1 := by simpa [ab_len] using hl
    split at h
    · split at h
      · split at h
        · rename_i hS hSq
          split at h
          · rename_i hq
            obtain ⟨q1, rfl, q2, q3⟩ := hq
            cases h
            rw [List.length_set, Nat.sub_self, ab_tot_set hS (by simp [ab_sz]), Nat.sub_self] at g
            exact ab_r_aast hC hS hSq q1 rfl q2 q3 hF hd g
          · cases h
        · cases h
      · cases h
    · cases h
  · cases h
end
end
section
/-! THE MACHINE IS SOUND: what the abstract machine answers, the machine answers -/
def ab_ws (k : Nat) : List Cond := .code (ab_Y k) (ab_B k) (ab_mL k) (ab_rt k) :: ab_U
/-- what a call d deep may need -/
def ab_rm (d mc ms : Nat) : Room := { frames := d + 1, cells := mc, slots := ms, locals := 40 * d + 100 }
def ab_Pc (D : va_G) (cT : Nat → ClassId) (ad : Nat → Nat) (B0 : Nat) (E : ab_E) (as : List Value) (S : List ab_C) (μ : ab_M) : Array Value → State → Prop :=
  va_Pc (as.map (ab_tr ad)) (fun U => ab_Ctx D cT ad B0 E U ∧ U.heap.size = B0 + S.length ∧ S.length ≤ 900 ∧ va_P D ab_cl (ab_wd cT ad S μ) U.heap)
def ab_Qc (D : va_G) (cT : Nat → ClassId) (ad : Nat → Nat) (B0 : Nat) (v : Option Value) (S' : List ab_C) (μ' : ab_M) : Array Value → State → Outcome → State → Prop :=
  fun _ st oc t => oc = .returned (v.map (ab_tr ad)) ∧ S'.length ≤ 900 ∧ va_P D ab_cl (ab_wd cT ad S' μ') t.heap ∧ va_F (fun q => B0 ≤ q) st t
/-- what stands at a return -/
def ab_isRet (k pc : Nat) (v : Option Value) : Prop := match v with
  | none => decode (ab_B k) pc = .ok (.return_, 1) ∧ ab_rt k = none
  | some (.int x) => decode (ab_B k) pc = .ok (.ireturn, 1) ∧ ∃ ty, ab_rt k = some ty ∧ narrow ty (.int x) = .int x ∧ ab_isObj ty = false
  | some (.ref _) => decode (ab_B k) pc = .ok (.areturn, 1) ∧ ∃ n, ab_rt k = some (.object n)
  | _ => False
theorem ab_GoodU {Ts : List Cond} (h : ∀ w ∈ ab_U, w ∈ Ts) {k : Nat} (hk : k < ab_nM) : GoodIn Ts (ab_ws k) := by
  intro w hw
  have hU : w ∈ ab_U := by
    rcases List.mem_cons.mp hw with rfl | hw
    · exact (ab_okM hk).1
    · exact hw
  exact ⟨h w hU, good_of_word (List.mem_filter.mp hU).2⟩
section
variable {l : Launch} {D : va_G} {cT : Nat → ClassId} {ad : Nat → Nat} {B0 : Nat} {E : ab_E}
theorem ab_blind {as : List Value} {S : List ab_C} {μ : ab_M} : FrameBlind (ab_Pc D cT ad B0 E as S μ) := by
  intro a U g mk h
  obtain ⟨h1, h2, h3⟩ := h
  exact ⟨h1, h2.same rfl rfl, h3⟩
/-- frames that fuel n reaches -/
def ab_Snd (l : Launch) (D : va_G) (cT : Nat → ClassId) (ad : Nat → Nat) (B0 : Nat) (E : ab_E) (n : Nat) : Prop :=
  ∀ (d k pc : Nat) (L : ab_L) (st : List Value) (S S' : List ab_C) (μ μ' : ab_M) (v : Option Value), ab_runB E n d k pc L st (S, μ) = some (v, (S', μ')) →
    S.length ≤ S'.length ∧ ab_tot S ≤ ab_tot S' ∧ (S.length ≤ 900 → S'.length ≤ 900) ∧
    ∀ (p : Program) (e : Env) (R : Room) (s : State) (m : MethodId) (args : Array Value) (below : List Frame) (meth : Method) (c : Code) (cells slots : Nat) (Q : State → Prop) (Ts : List Cond),
      ab_Ctx D cT ad B0 E s → ab_Fr p s m args meth c k → (∀ w ∈ Ts, w.before args s = true) → (∀ w ∈ ab_U, w ∈ Ts) → d + 1 ≤ R.frames → 40 * d + 100 ≤ R.locals → s.heap.size + cells = B0 + S.length → cells + (S'.length - S.length) ≤ R.cells → slots + (ab_tot S' - ab_tot S) ≤ R.slots →
      (∀ (H : Heap) (locs : List Loc) (ls : Array Slot) (pc' : Nat), S'.length ≤ 900 → va_P D ab_cl (ab_wd cT ad S' μ') H → va_S (fun q => B0 ≤ q) s.heap H locs → ab_isRet k pc' v → W p l e R s m args below meth c H locs (cells + (S'.length - S.length)) (slots + (ab_tot S' - ab_tot S)) Q (F0 m pc' ls (v.toList.map (ab_tr ad)))) →
      ab_Go p l e R s m args below meth c D cT ad B0 k Q cells slots S μ pc L st
theorem ab_MetOfW {y : MethodName} {ws ws' : List Cond} {rm : Room} {Pc : Array Value → State → Prop} {Qc : Array Value → State → Outcome → State → Prop} {mc ms : Nat} {free : Addr → Prop} {cc : ByteArray} {maxL : Nat} {ret : Option FieldType}
    (hy : plainFor y = true) (hw : ws = Cond.code y cc maxL ret :: ws')
    (body : ∀ p e s m args below meth c s₁, BodyLoose p l y (headSpec ws rm) cc maxL ret e s m args below meth c s₁ → c.maxLocals = maxL → Pc args s →
      W p l e (headSpec ws rm).room s m args below meth c s.heap [] 0 0 (MQ below Qc args s mc ms free) (entryFrame m args maxL)) : Met l y ws rm Pc Qc mc ms free := by
  refine MetFree.of_bodySF (code := cc) (maxLocals := maxL) (ret := ret) hy ?_ ?_
  · intro args s m h hn
    obtain ⟨meth, c, h1, h2, h3, h4, h5, h6, -, -⟩ := Cond.code_spec hn (atoms_spec (ws := ws) h _ (by rw [hw]; exact List.mem_cons_self))
    exact ⟨meth, c, h1, h2, h3, h4, h5, h6⟩
  · intro p e s m args below meth c s₁ B hml hP _
    have hh0 : s₁.heap = s.heap := by rw [B.state]; rfl
    obtain ⟨t, a1, o, b1, b2, b3⟩ := body p e s m args below meth c s₁ B hml hP s₁ hh0 (Stand.of_body B)
    exact ⟨t, o, a1, b1, b2, ⟨b3.1, b3.2⟩⟩
theorem ab_lg : ∀ {as : List Value}, (∀ v ∈ as, v.category = 1) → lg_sl as = as.map .val
  | [], _ => rfl
  | v :: as, h => by
    have h1 := h v List.mem_cons_self
    have h2 := ab_lg (as := as) (fun w hw => h w (List.mem_cons_of_mem _ hw))
    show (if v.category = 2 then _ else _) ++ lg_sl as = _
    rw [h1, h2]
    rfl
theorem ab_lva : ∀ (as : List Value) (n : Nat), (∀ v ∈ as, v.category = 1) → ∀ (i : Nat) (v : Value), as[i]? = some v → (n + i, v) ∈ lv_args n as
  | [], _, _, i, v, h => by simp at h
  | w :: as, n, hc, 0, v, h => by
    cases h
    unfold lv_args
    exact List.mem_cons_self
  | w :: as, n, hc, i + 1, v, h => by
    have h1 : w.category = 1 := hc w List.mem_cons_self
    have h2 := ab_lva as (n + 1) (fun w hw => hc w (List.mem_cons_of_mem _ hw)) i v (by simpa using h)
    unfold lv_args
    simp only [h1]
    refine List.mem_cons_of_mem _ ?_
    have e : n + (i + 1) = n + 1 + i := by omega
    rw [e]
    exact h2
/-- the contract of a method, out of its body's run -/
theorem ab_met {n d k : Nat} {as : List Value} {S S' : List ab_C} {μ μ' : ab_M} {v : Option Value} (hk : k < ab_nM) (hS : ab_Snd l D cT ad B0 E n) (has : ∀ w ∈ as, w.category = 1) (hal : as.length ≤ ab_mL k) (h : ab_runB E n d k 0 (ab_ent k as) [] (S, μ) = some (v, (S', μ'))) :
    Met l (ab_Y k) (ab_ws k) (ab_rm d (S'.length - S.length) (ab_tot S' - ab_tot S)) (ab_Pc D cT ad B0 E as S μ) (ab_Qc D cT ad B0 v S' μ') (S'.length - S.length) (ab_tot S' - ab_tot S) (fun q => B0 ≤ q) := by
  obtain ⟨w1, w2, w3, w4, w5, w6⟩ := ab_okM hk
  obtain ⟨g1, g2, g3, g4⟩ := hS d k 0 (ab_ent k as) [] S S' μ μ' v h
  refine ab_MetOfW (cc := ab_B k) (maxL := ab_mL k) (ret := ab_rt k) w3 rfl ?_
  intro p e s m args below meth c s₁ B hml hv
  obtain ⟨rfl, hC, hsz, h900, hP⟩ := hv
  have hts := atoms_spec (ws := ab_ws k) B.pre
  have hc1 : ∀ w ∈ as.map (ab_tr ad), w.category = 1 := by
    intro w hw
    obtain ⟨u, hu, rfl⟩ := List.mem_map.mp hw
    rw [ab_cat]; exact has u hu
  have hlen : (lg_sl (as.map (ab_tr ad))).length ≤ ab_mL k := by rw [ab_lg hc1]; simpa using hal
  have hl := lv_entry (as.map (ab_tr ad)) (n := ab_mL k) hlen
  rw [lg_entry_eq]
  refine g4 p e _ s m _ below meth c 0 0 _ (ab_ws k) hC ⟨B.exec, B.bytes, hml, B.returns, B.notSynchronized, fun q => (name_of_methodNamed B.named B.method).1.trans q, by rw [← w5]; exact findClass_of_methodNamed B.named, fun w hw => hts w (List.mem_cons_of_mem _ hw)⟩ hts (fun w hw => List.mem_cons_of_mem _ hw) (Nat.le_refl _) (Nat.le_refl _) hsz (by rw [Nat.zero_add]; exact Nat.le_refl _) (by rw [Nat.zero_add]; exact Nat.le_refl _) ?_ s.heap [] _ h900 hP va_S.rf ⟨hl.1, hl.2.1, ?_, ?_⟩
  · intro H locs ls pc' q1 q2 q3 q4
    rw [Nat.zero_add, Nat.zero_add]
    have hq : ∀ t : State, t.heap = H → s.WarmedH t.vm → ab_Qc D cT ad B0 v S' μ' (as.map (ab_tr ad)).toArray s (.returned (v.map (ab_tr ad))) t := fun t ht _ => ⟨rfl, q1, by rw [ht]; exact q2, q3.F ht⟩
    unfold ab_isRet at q4
    split at q4
    · exact W.vret B.exec B.bytes (B.returns.trans q4.2) hq q3.2.2 q4.1 B.notSynchronized
    · obtain ⟨q5, ty, q6, q7, -⟩ := q4
      exact W.zret B.exec B.bytes (B.returns.trans q6) q7 hq q3.2.2 q5 B.notSynchronized
    · obtain ⟨q5, nm, q6⟩ := q4
      exact W.aret B.exec B.bytes (B.returns.trans q6) (Or.inl ⟨nm, rfl⟩) (Or.inr ⟨_, rfl⟩) hq q3.2.2 q5 B.notSynchronized
    · cases q4
  · unfold ab_ent; simp; omega
  · intro i w hw
    unfold ab_ent at hw
    by_cases hi : i < as.length
    · rw [List.getElem?_append_left (by simpa using hi), List.getElem?_map] at hw
      have e1 : as[i]? = some w := by
        cases e2 : as[i]? with
        | none => rw [e2] at hw; cases hw
        | some u => rw [e2] at hw; cases hw; rfl
      refine ⟨?_, by rw [ab_cat]; exact has w (List.mem_of_getElem? e1)⟩
      have := ab_lva (as.map (ab_tr ad)) 0 hc1 i (ab_tr ad w) (by rw [List.getElem?_map, e1]; rfl)
      rw [Nat.zero_add] at this
      exact hl.2.2 _ this
    · rw [List.getElem?_append_right (by simpa using Nat.le_of_not_lt hi), List.getElem?_replicate] at hw
      split at hw <;> cases hw
end
end
section
section
variable {E : ab_E} {k k' pc pc' : Nat} {S : List ab_C} {L L' : ab_L} {st st' as : List Value} {μ : ab_M} {v : Option Value}
theorem ab_cal_i {rest : List Value} (h : ab_cal k' pc L as rest = some (.inr (.inr (k, st', pc', L', st)))) : k = k' ∧ st' = as ∧ pc' = pc + 3 ∧ L' = L ∧ st = rest ∧ (rest.map fun v => v.category).sum ≤ 8 ∧ (∀ w ∈ as, w.category = 1) ∧ as.length ≤ ab_mL k' := by
  unfold ab_cal at h
  split at h
  · rename_i hq
    cases h
    exact ⟨rfl, rfl, rfl, rfl, rfl, hq.1, fun w hw => by simpa using List.all_eq_true.mp hq.2.1 w hw, hq.2.2⟩
  · cases h
/-- what a call is -/
def ab_isCall (E : ab_E) (S : List ab_C) (k pc : Nat) (st : List Value) (k' : Nat) (as st' : List Value) : Prop :=
  (∃ (j r : Nat) (As : List Value), decode (ab_B k) pc = .ok (.invokevirtual j, 3) ∧ (ab_own k, j, k') ∈ ab_mlV ∧ as = .ref r :: As ∧ st = As.reverse ++ .ref r :: st' ∧ As.length = ab_np k' ∧ ab_isRecv E S k' r = true) ∨
  (∃ j : Nat, decode (ab_B k) pc = .ok (.invokestatic j, 3) ∧ (ab_own k, j, k') ∈ ab_mlS ++ ab_mlSN ∧ st = as.reverse ++ st' ∧ as.length = ab_np k') ∨
  (∃ (j r : Nat) (As : List Value), decode (ab_B k) pc = .ok (.invokespecial j, 3) ∧ (ab_own k, j, k') ∈ ab_mlI ++ ab_mlIN ∧ as = .ref r :: As ∧ st = As.reverse ++ .ref r :: st' ∧ As.length = ab_np k')
set_option maxHeartbeats 4000000 in
theorem ab_call_i (h : ab_core E S k pc L st μ = some (.inr (.inr (k', as, pc', L', st')))) : pc' = pc + 3 ∧ L' = L ∧ (st'.map fun v => v.category).sum ≤ 8 ∧ (∀ w ∈ as, w.category = 1) ∧ as.length ≤ ab_mL k' ∧ ab_isCall E S k pc st k' as st' := by
  unfold ab_core at h
  split at h
  · rename_i i n hf
    have hd := ab_fetch_d hf
    split at h
    · rename_i hl
      unfold ab_ex at h
      split at h
      case h_59 =>
        obtain rfl : n = 3 := by simpa [ab_len] using hl
        unfold ab_vir at h
        split at h
        · rename_i k2 hk2
          split at h
          · rename_i r rest hdr
            split at h
            · rename_i hq
              obtain ⟨rfl, rfl, rfl, rfl, rfl, q1, q2, q3⟩ := ab_cal_i h
              refine ⟨rfl, rfl, q1, q2, q3, Or.inl ⟨_, r, (st.take (ab_np k')).reverse, hd, ab_mk_mem hk2, rfl, ?_, by rw [List.length_reverse]; exact hq.1, hq.2⟩⟩
              rw [List.reverse_reverse, ← hdr, List.take_append_drop]
            · cases h
          · cases h
        · cases h
      case h_60 =>
        obtain rfl : n = 3 := by simpa [ab_len] using hl
        unfold ab_sta at h
        split at h
        · rename_i k2 hk2
          split at h
          · rename_i hq
            obtain ⟨rfl, rfl, rfl, rfl, rfl, q1, q2, q3⟩ := ab_cal_i h
            refine ⟨rfl, rfl, q1, q2, q3, Or.inr (Or.inl ⟨_, hd, ab_mk_mem hk2, ?_, by rw [List.length_reverse]; exact hq⟩)⟩
            rw [List.reverse_reverse, List.take_append_drop]
          · cases h
        · split at h
          · unfold ab_acp at h
            split at h
            · split at h
              · split at h
                · split at h
                  · unfold ab_nx at h; cases h
                  · cases h
                · cases h
              · cases h
            · cases h
          · cases h
      case h_61 =>
        obtain rfl : n = 3 := by simpa [ab_len] using hl
        unfold ab_spe at h
        split at h
        · rename_i k2 hk2
          split at h
          · rename_i r rest hdr
            split at h
            · rename_i hq
              obtain ⟨rfl, rfl, rfl, rfl, rfl, q1, q2, q3⟩ := ab_cal_i h
              refine ⟨rfl, rfl, q1, q2, q3, Or.inr (Or.inr ⟨_, r, (st.take (ab_np k')).reverse, hd, ab_mk_mem hk2, rfl, ?_, by rw [List.length_reverse]; exact hq⟩)⟩
              rw [List.reverse_reverse, ← hdr, List.take_append_drop]
            · cases h
          · cases h
        · split at h
          · split at h
            · unfold ab_nx at h; cases h
            · cases h
          · cases h
      all_goals (try simp only [ab_nx, ab_jp, ab_bin, ab_dv, ab_un, ab_br1, ab_br2, ab_ldI, ab_ldA, ab_stI, ab_stA, ab_inc, ab_ldc, ab_ldcw, ab_tsw, ab_lsw, ab_getf, ab_putf, ab_ald, ab_ast, ab_aald, ab_alen, ab_gets, ab_retI, ab_retA, ab_retV] at h)
      iterate 10 (all_goals (try (first | (cases h; done) | split at h)))
    · cases h
  · cases h
set_option maxHeartbeats 4000000 in
theorem ab_ret_i {μ' : ab_M} (h : ab_core E S k pc L st μ = some (.inr (.inl (v, μ')))) : st = v.toList ∧ μ' = μ ∧ ab_isRet k pc v := by
  unfold ab_core at h
  split at h
  · rename_i i n hf
    have hd := ab_fetch_d hf
    split at h
    · rename_i hl
      unfold ab_ex at h
      split at h
      case h_62 =>
        obtain rfl : n = 1 := by simpa [ab_len] using hl
        unfold ab_retI at h
        split at h
        · rename_i x ty hty
          split at h
          · rename_i hq
            cases h
            exact ⟨rfl, rfl, hd, ty, hty, hq.2, hq.1⟩
          · cases h
        · cases h
      case h_63 =>
        obtain rfl : n = 1 := by simpa [ab_len] using hl
        unfold ab_retA at h
        split at h
        · rename_i x nm hty
          cases h
          exact ⟨rfl, rfl, hd, nm, hty⟩
        · cases h
      case h_64 =>
        obtain rfl : n = 1 := by simpa [ab_len] using hl
        unfold ab_retV at h
        split at h
        · rename_i hty
          cases h
          exact ⟨rfl, rfl, hd, hty⟩
        · cases h
      all_goals (try simp only [ab_nx, ab_jp, ab_bin, ab_dv, ab_un, ab_br1, ab_br2, ab_ldI, ab_ldA, ab_stI, ab_stA, ab_inc, ab_ldc, ab_ldcw, ab_tsw, ab_lsw, ab_getf, ab_putf, ab_ald, ab_ast, ab_aald, ab_alen, ab_gets, ab_retI, ab_retA, ab_retV, ab_vir, ab_sta, ab_spe, ab_acp, ab_cal] at h)
      iterate 12 (all_goals (try (first | (cases h; done) | split at h)))
    · cases h
  · cases h
end
end
section
section
variable {p : Program} {l : Launch} {e : Env} {R : Room} {s : State} {m : MethodId} {args : Array Value} {below : List Frame} {meth : Method} {c : Code} {cells slots : Nat} {Q : State → Prop}
variable {D : va_G} {cT : Nat → ClassId} {ad : Nat → Nat} {B0 : Nat} {E : ab_E} {k k' pc pc' d mc ms : Nat} {S S1 : List ab_C} {L L' : ab_L} {st st' as : List Value} {μ μ1 : ab_M} {v : Option Value} {Ts : List Cond}
theorem ab_r_call (hC : ab_Ctx D cT ad B0 E s) (hF : ab_Fr p s m args meth c k) (hts : ∀ w ∈ Ts, w.before args s = true) (hU : ∀ w ∈ ab_U, w ∈ Ts) (hk' : k' < ab_nM) (hcat : (st'.map fun v => v.category).sum ≤ 8) (hcall : ab_isCall E S k pc st k' as st')
    (hM : Met l (ab_Y k') (ab_ws k') (ab_rm d mc ms) (ab_Pc D cT ad B0 E as S μ) (ab_Qc D cT ad B0 v S1 μ1) mc ms (fun q => B0 ≤ q)) (hR1 : d + 1 + 1 ≤ R.frames) (hR2 : 40 * (d + 1) + 100 ≤ R.locals) (hcs : s.heap.size + cells = B0 + S.length) (hr1 : cells + mc ≤ R.cells) (hr2 : slots + ms ≤ R.slots)
    (g : ab_Go p l e R s m args below meth c D cT ad B0 k Q (cells + mc) (slots + ms) S1 μ1 (pc + 3) L (v.toList ++ st')) : ab_Go p l e R s m args below meth c D cT ad B0 k Q cells slots S μ pc L st := by
  obtain ⟨hx, hb, hml, hr, hlk, hin, hown, htu⟩ := hF
  obtain ⟨w1, w2, w3, w4, w5, w6⟩ := ab_okM hk'
  have had := hC.2.2.2.2.2.2.2.2.2.2.1
  intro H locs ls h2 h3 h4 h5
  refine ab_W_sz fun hz => ?_
  have hsz := ab_size hC h2 h3 h4 hcs hz
  have hPre : ∀ U : State, U.heap = H → s.WarmedH U.vm → ab_Pc D cT ad B0 E as S μ (as.map (ab_tr ad)).toArray U := fun U hU hW =>
    ⟨rfl, hC.warm hW (fun q q1 q2 => by rw [hU]; exact h4.2.1 q q1 q2) (by rw [hU]; exact h4.1), by rw [hU]; exact hsz, h2, by rw [hU]; exact h3⟩
  have hroom : (ab_rm d mc ms).frames + 1 ≤ R.frames ∧ 8 + (ab_mL k' + 11) + (ab_rm d mc ms).locals ≤ R.locals := ⟨hR1, by show 8 + (ab_mL k' + 11) + (40 * d + 100) ≤ _; omega⟩
  have hsum : ((st'.map (ab_tr ad)).map fun v => v.category).sum ≤ 8 := by rw [ab_sum]; exact hcat
  have hgood := ab_GoodU hU hk'
  -- the run
  have run : va_Run p l e R s m args below meth c H locs cells slots mc ms (F0 m pc ls (st.map (ab_tr ad))) (st'.map (ab_tr ad)) (ab_Qc D cT ad B0 v S1 μ1 (as.map (ab_tr ad)).toArray) (fun q => B0 ≤ q) := by
    rcases hcall with ⟨j, r, As, hd, hj, rfl, rfl, hn, hrv⟩ | ⟨j, hd, hj, rfl, hn⟩ | ⟨j, r, As, hd, hj, rfl, rfl, hn⟩
    · obtain ⟨x1, x2, x3, -⟩ := ab_okmlV hj
      have hrec : ∃ cellB : Cell, H[ad r]? = some cellB ∧ cellB.vm.isStatics = false ∧ s.vm.findClass (ab_Y k').cls = some cellB.cls := by
        unfold ab_isRecv at hrv
        split at hrv
        · rename_i ci vs hcell
          obtain ⟨hr9, hS⟩ := ab_cell_S hcell (by simp)
          have ho : ci = ab_own k' := of_decide_eq_true hrv
          have hlt : ci < 8 := by
            have := h3 r _ (ab_wd_at hS)
            rw [ab_w1_0] at this
            obtain ⟨q, hq, -⟩ := this
            have := (List.getElem?_eq_some_iff.mp hq).1
            exact this
          have := va_recv hC.1 h3 (ab_cl_at hlt) (by rw [ab_wd_at hS, ab_w1_0] : (ab_wd cT ad S μ)[r]? = some (ad r, .inr (ci, vs.mapIdx (ab_f1 ad μ r))))
          rw [w5, ← ho]
          exact this
        · rename_i hcell
          obtain ⟨i, hi, rfl, -⟩ := ab_cell_8 hcell
          have ho : ab_own k' = 9 := of_decide_eq_true hrv
          have := vk_recv hC.2.2.2.2.1 hi h4
          rw [w5, ho]
          exact this
        · cases hrv
      have cw : CallW R s args (ab_R (ab_own k)) (ab_Y k').cls j (ab_Y k') (ab_B k') (ab_mL k') (ab_rt k') (ab_ws k') (ab_rm d mc ms) mc ms (ab_np k') :=
        ⟨callB_of (ab_np k') hts hgood rfl rfl rfl (htu _ w2) (htu _ x1) w4 hroom, htu _ x2, htu _ x3⟩
      exact va_runV (As := As.map (ab_tr ad)) (rest := st'.map (ab_tr ad)) (b := ad r) ⟨hx, hb, hml, hown, hts⟩ hM cw ⟨ab_blind, hrec, hPre⟩ rfl (by rw [List.length_map]; exact hn) h5.1 (by simp [ab_tr]) (lv_room hsum) hd ⟨hr1, hr2⟩
    · rcases List.mem_append.mp hj with hj | hj
      · obtain ⟨x1, x2, -⟩ := ab_okmlS hj
        exact va_runS (As := as.map (ab_tr ad)) (rest := st'.map (ab_tr ad)) ⟨hx, hb, hml, hown, hts⟩ hM ⟨callB_of (ab_np k') hts hgood rfl rfl rfl (htu _ w2) (htu _ x1) w4 hroom, htu _ x2⟩ ⟨ab_blind, hPre⟩ rfl (by rw [List.length_map]; exact hn) h5.1 (by simp) (lv_room hsum) hd ⟨hr1, hr2⟩
      · obtain ⟨x2, -⟩ := ab_okmlSN hj
        have hn9 : va_Nw (.methodLinkNest (ab_R (ab_own k)) j (ab_Y k') RX6) s := hC.2.1 (ab_own k, j, k') (List.mem_append_left _ hj)
        exact va_runSN (host := RX6) (As := as.map (ab_tr ad)) (rest := st'.map (ab_tr ad)) ⟨hx, hb, hml, hown, hts⟩ hM ⟨va_cnB (ab_np k') hts hgood rfl rfl rfl hn9 (htu _ w2) w4 hroom, htu _ x2, trivial⟩ ⟨ab_blind, hPre⟩ rfl (by rw [List.length_map]; exact hn) h5.1 (by simp) (lv_room hsum) hd ⟨hr1, hr2⟩
    · rcases List.mem_append.mp hj with hj | hj
      · obtain ⟨x1, x2, -, x4, x5⟩ := ab_okmlI hj
        have hM' := hM
        exact va_runI (As := As.map (ab_tr ad)) (rest := st'.map (ab_tr ad)) (b := ad r) (bytes := ab_B k') (maxL := ab_mL k') ⟨hx, hb, hml, hown, hts⟩ hM ⟨callB_of (ab_np k') hts hgood (by unfold ab_ws; rw [x5]) rfl rfl (htu _ w2) (htu _ x1) w4 hroom, x4, htu _ x2⟩ ⟨ab_blind, hPre⟩ rfl (by rw [List.length_map]; exact hn) h5.1 (by simp [ab_tr]) (lv_room hsum) hd ⟨hr1, hr2⟩
      · obtain ⟨x2, -, x4, x5⟩ := ab_okmlIN hj
        have hn9 : va_Nw (.methodLinkNest (ab_R (ab_own k)) j (ab_Y k') RX6) s := hC.2.1 (ab_own k, j, k') (List.mem_append_right _ hj)
        exact va_runIN (host := RX6) (As := As.map (ab_tr ad)) (rest := st'.map (ab_tr ad)) (b := ad r) (bytes := ab_B k') (maxL := ab_mL k') ⟨hx, hb, hml, hown, hts⟩ hM ⟨va_cnB (ab_np k') hts hgood (by unfold ab_ws; rw [x5]) rfl rfl hn9 (htu _ w2) w4 hroom, x4, htu _ x2⟩ ⟨ab_blind, hPre⟩ rfl (by rw [List.length_map]; exact hn) h5.1 (by simp [ab_tr]) (lv_room hsum) hd ⟨hr1, hr2⟩
  intro T hT X
  obtain ⟨v', st₀, t, T', L2, e0, X', hL, e1, e2, ⟨hv, hS9, hP1, hz1, hk1⟩, stp⟩ := run T hT X
  cases hv
  rw [e0] at hz1 hk1
  obtain ⟨t2, a1, b1⟩ := g T'.heap (locs ++ L2) ls hS9 (by rw [e1]; exact hP1) ⟨Nat.le_trans h4.1 (by rw [e1]; exact hz1), fun q q1 q2 => by rw [e1, hk1 q (Nat.lt_of_lt_of_le q1 h4.1) q2]; exact h4.2.1 q q1 q2, fun q hq => by
      rcases List.mem_append.mp hq with h | h
      · exact h4.2.2 q h
      · exact hL q h⟩ h5 T' rfl X'
  refine ⟨t2, stp t2 ?_, b1⟩
  have ee : (v.toList ++ st').map (ab_tr ad) = (v.map (ab_tr ad)).toList ++ st'.map (ab_tr ad) := by
    rw [List.map_append]; cases v <;> rfl
  rw [ee] at a1
  exact a1
end
theorem ab_sound (l : Launch) (D : va_G) (cT : Nat → ClassId) (ad : Nat → Nat) (B0 : Nat) (E : ab_E) : ∀ n, ab_Snd l D cT ad B0 E n := by
  intro n
  induction n with
  | zero => intro d k pc L st S S' μ μ' v h; cases h
  | succ n ih =>
    intro d k pc L st S S' μ μ' v h
    unfold ab_runB at h
    split at h
    · rename_i pc1 L1 st1 h1 hst
      obtain ⟨S1, μ1⟩ := h1
      obtain ⟨i1, i2, i3, i4⟩ := ih d k pc1 L1 st1 S1 S' μ1 μ' v h
      unfold ab_step at hst
      split at hst
      · rename_i hcore
        cases hst
        exact ⟨i1, i2, i3, fun p e R s m args below meth c cells slots Q Ts hC hF hts hU hR1 hR2 hcs hr1 hr2 hq =>
          ab_r_core hC ⟨by omega, by omega⟩ hcore hF (i4 p e R s m args below meth c cells slots Q Ts hC hF hts hU hR1 hR2 hcs hr1 hr2 hq)⟩
      · cases hst
      · cases hst
      · split at hst
        · rename_i i nn hf
          split at hst
          · rename_i hl
            obtain ⟨⟨q1, q2, q3, q4, q5⟩, hal, hst⟩ := Option.map_eq_some_iff.mp hst
            cases hst
            have hal : ab_alloc S k pc i L st μ = some (pc1, L1, st1, (S1, μ1)) := hal
            obtain ⟨g1, g2, g3⟩ := ab_alloc_grows hal
            refine ⟨Nat.le_trans g1 i1, Nat.le_trans g2 i2, fun q => i3 (g3 q), fun p e R s m args below meth c cells slots Q Ts hC hF hts hU hR1 hR2 hcs hr1 hr2 hq => ?_⟩
            have c1 : cells + (S1.length - S.length) + (S'.length - S1.length) = cells + (S'.length - S.length) := by omega
            have c2 : slots + (ab_tot S1 - ab_tot S) + (ab_tot S' - ab_tot S1) = slots + (ab_tot S' - ab_tot S) := by omega
            exact ab_r_alloc hC hal hl (ab_fetch_d hf) hF hcs (by omega) (by omega) (i4 p e R s m args below meth c _ _ Q Ts hC hF hts hU hR1 hR2 (by omega) (by rw [c1]; exact hr1) (by rw [c2]; exact hr2) (by rw [c1, c2]; exact hq))
          · cases hst
        · cases hst
    · rename_i r hst
      cases h
      unfold ab_step at hst
      split at hst
      · cases hst
      · rename_i hcore
        cases hst
        obtain ⟨rfl, rfl, hret⟩ := ab_ret_i hcore
        refine ⟨Nat.le_refl _, Nat.le_refl _, fun q => q, fun p e R s m args below meth c cells slots Q Ts hC hF hts hU hR1 hR2 hcs hr1 hr2 hq => ?_⟩
        intro H locs ls h2 h3 h4 h5
        have := hq H locs ls pc h2 h3 h4 hret
        rw [Nat.sub_self, Nat.sub_self] at this
        exact this
      · cases hst
      · split at hst
        · split at hst
          · obtain ⟨_, _, hst⟩ := Option.map_eq_some_iff.mp hst
            cases hst
          · cases hst
        · cases hst
    · rename_i k' as pc1 L1 st1 hst
      cases d with
      | zero => cases h
      | succ d =>
        simp only at h
        split at h
        · rename_i v1 h1 hrun
          obtain ⟨S1, μ1⟩ := h1
          obtain ⟨i1, i2, i3, i4⟩ := ih (d + 1) k pc1 L1 _ S1 S' μ1 μ' v h
          obtain ⟨j1, j2, j3, -⟩ := ih d k' 0 _ [] S S1 μ μ1 v1 hrun
          have hcore : ab_core E S k pc L st μ = some (.inr (.inr (k', as, pc1, L1, st1))) := by
            unfold ab_step at hst
            split at hst
            · cases hst
            · cases hst
            · rename_i e1; cases hst; exact e1
            · split at hst
              · split at hst
                · obtain ⟨_, _, hst⟩ := Option.map_eq_some_iff.mp hst
                  cases hst
                · cases hst
              · cases hst
          obtain ⟨rfl, rfl, q1, q2, q3, q4⟩ := ab_call_i hcore
          have hk' : k' < ab_nM := by
            rcases q4 with ⟨j, r, As, -, hj, -⟩ | ⟨j, -, hj, -⟩ | ⟨j, r, As, -, hj, -⟩
            · exact (ab_okmlV hj).2.2.2
            · rcases List.mem_append.mp hj with hj | hj
              · exact (ab_okmlS hj).2.2
              · exact (ab_okmlSN hj).2
            · rcases List.mem_append.mp hj with hj | hj
              · exact (ab_okmlI hj).2.2.1
              · exact (ab_okmlIN hj).2.1
          refine ⟨Nat.le_trans j1 i1, Nat.le_trans j2 i2, fun q => i3 (j3 q), fun p e R s m args below meth c cells slots Q Ts hC hF hts hU hR1 hR2 hcs hr1 hr2 hq => ?_⟩
          have c1 : cells + (S1.length - S.length) + (S'.length - S1.length) = cells + (S'.length - S.length) := by omega
          have c2 : slots + (ab_tot S1 - ab_tot S) + (ab_tot S' - ab_tot S1) = slots + (ab_tot S' - ab_tot S) := by omega
          exact ab_r_call hC hF hts hU hk' q1 q4 (ab_met hk' ih q2 q3 hrun) hR1 hR2 hcs (by omega) (by omega) (i4 p e R s m args below meth c _ _ Q Ts hC hF hts hU hR1 hR2 (by omega) (by rw [c1]; exact hr1) (by rw [c2]; exact hr2) (by rw [c1, c2]; exact hq))
        · cases h
    · cases h
end
section
/-! THE MACHINE WITHOUT FUEL -/
theorem ab_run_mono (E : ab_E) (S : List ab_C) : ∀ (n m d k pc : Nat) (L : ab_L) (st : List Value) (μ : ab_M) (r : Option Value × ab_M), n ≤ m → ab_run E S n d k pc L st μ = some r → ab_run E S m d k pc L st μ = some r := by
  intro n
  induction n with
  | zero => intro m d k pc L st μ r _ h; cases h
  | succ n ih =>
    intro m d k pc L st μ r hm h
    cases m with
    | zero => omega
    | succ m =>
      unfold ab_run at h ⊢
      split at h
      · exact ih m _ _ _ _ _ _ _ (by omega) h
      · exact h
      · cases d with
        | zero => cases h
        | succ d =>
          simp only at h ⊢
          split at h
          · rename_i e2
            rw [ih m _ _ _ _ _ _ _ (by omega) e2]
            exact ih m _ _ _ _ _ _ _ (by omega) h
          · cases h
      · cases h
noncomputable def ab_Ev (E : ab_E) (S : List ab_C) (d k pc : Nat) (L : ab_L) (st : List Value) (μ : ab_M) : Option (Option Value × ab_M) :=
  @dite _ (∃ r, ∃ n, ab_run E S n d k pc L st μ = some r) (Classical.propDecidable _) (fun h => some h.choose) (fun _ => none)
section
variable {E : ab_E} {S : List ab_C} {d k pc pc' : Nat} {L L' : ab_L} {st st' : List Value} {μ μ' : ab_M} {r : Option Value × ab_M}
theorem ab_Ev_iff : ab_Ev E S d k pc L st μ = some r ↔ ∃ n, ab_run E S n d k pc L st μ = some r := by
  unfold ab_Ev
  constructor
  · intro h
    split at h
    · rename_i hq
      obtain ⟨n, hn⟩ := hq.choose_spec
      cases h
      exact ⟨n, hn⟩
    · cases h
  · rintro ⟨n, hn⟩
    have hq : ∃ r, ∃ n, ab_run E S n d k pc L st μ = some r := ⟨r, n, hn⟩
    rw [dif_pos hq]
    obtain ⟨m, hm⟩ := hq.choose_spec
    rcases Nat.le_total n m with h | h
    · have := ab_run_mono E S n m d k pc L st μ r h hn
      rw [hm] at this
      exact this
    · have := ab_run_mono E S m n d k pc L st μ _ h hm
      rw [hn] at this
      exact this.symm
theorem ab_opt {α : Type} {a b : Option α} (h : ∀ x, a = some x ↔ b = some x) : a = b := by
  cases a with
  | none => cases b with
    | none => rfl
    | some y => exact absurd ((h y).mpr rfl) (by simp)
  | some x => exact ((h x).mp rfl).symm
theorem ab_Ev_next (h : ab_core E S k pc L st μ = some (.inl (pc', L', st', μ'))) : ab_Ev E S d k pc L st μ = ab_Ev E S d k pc' L' st' μ' := by
  apply ab_opt
  intro x
  rw [ab_Ev_iff, ab_Ev_iff]
  constructor
  · rintro ⟨n, hn⟩
    cases n with
    | zero => cases hn
    | succ n => unfold ab_run at hn; rw [h] at hn; exact ⟨n, hn⟩
  · rintro ⟨n, hn⟩
    refine ⟨n + 1, ?_⟩
    unfold ab_run; rw [h]; exact hn
theorem ab_Ev_ret (h : ab_core E S k pc L st μ = some (.inr (.inl r))) : ab_Ev E S d k pc L st μ = some r := by
  rw [ab_Ev_iff]
  refine ⟨1, ?_⟩
  unfold ab_run; rw [h]
theorem ab_Ev_stuck (h : ab_core E S k pc L st μ = none) : ab_Ev E S d k pc L st μ = none := by
  apply ab_opt
  intro x
  rw [ab_Ev_iff]
  constructor
  · rintro ⟨n, hn⟩
    cases n with
    | zero => cases hn
    | succ n => unfold ab_run at hn; rw [h] at hn; cases hn
  · intro h; cases h
theorem ab_Ev_call {k' : Nat} {as : List Value} (h : ab_core E S k pc L st μ = some (.inr (.inr (k', as, pc', L', st')))) : ab_Ev E S (d + 1) k pc L st μ = (ab_Ev E S d k' 0 (ab_ent k' as) [] μ).bind fun r => ab_Ev E S (d + 1) k pc' L' (r.1.toList ++ st') r.2 := by
  apply ab_opt
  intro x
  rw [Option.bind_eq_some_iff]
  constructor
  · intro hx
    obtain ⟨n, hn⟩ := ab_Ev_iff.mp hx
    cases n with
    | zero => cases hn
    | succ n =>
      unfold ab_run at hn
      rw [h] at hn
      simp only at hn
      split at hn
      · rename_i v1 μ1 e
        exact ⟨(v1, μ1), ab_Ev_iff.mpr ⟨n, e⟩, ab_Ev_iff.mpr ⟨n, hn⟩⟩
      · cases hn
  · rintro ⟨⟨v1, μ1⟩, h1, h2⟩
    obtain ⟨n1, h1⟩ := ab_Ev_iff.mp h1
    obtain ⟨n2, h2⟩ := ab_Ev_iff.mp h2
    refine ab_Ev_iff.mpr ⟨max n1 n2 + 1, ?_⟩
    unfold ab_run
    rw [h]
    simp only
    rw [ab_run_mono E S n1 (max n1 n2) _ _ _ _ _ _ _ (by omega) h1]
    exact ab_run_mono E S n2 (max n1 n2) _ _ _ _ _ _ _ (by omega) h2
/-- what comes back is what the method's type says -/
theorem ab_run_ty (E : ab_E) (S : List ab_C) : ∀ (n d k pc : Nat) (L : ab_L) (st : List Value) (μ : ab_M) (r : Option Value × ab_M), ab_run E S n d k pc L st μ = some r → ∃ pc', ab_isRet k pc' r.1 := by
  intro n
  induction n with
  | zero => intro d k pc L st μ r h; cases h
  | succ n ih =>
    intro d k pc L st μ r h
    unfold ab_run at h
    split at h
    · exact ih _ _ _ _ _ _ _ h
    · rename_i r2 e
      cases h
      obtain ⟨v, μ2⟩ := r
      exact ⟨pc, (ab_ret_i e).2.2⟩
    · cases d with
      | zero => cases h
      | succ d =>
        simp only at h
        split at h
        · exact ih _ _ _ _ _ _ _ h
        · cases h
    · cases h
/-- behind a call that answers an int | nothing | a reference -/
def ab_cI (o : Option (Option Value × ab_M)) (f : Int32 → ab_M → Option (Option Value × ab_M)) : Option (Option Value × ab_M) := match o with
  | some (some (.int x), μ) => f x μ
  | _ => none
def ab_cV (o : Option (Option Value × ab_M)) (f : ab_M → Option (Option Value × ab_M)) : Option (Option Value × ab_M) := match o with
  | some (none, μ) => f μ
  | _ => none
def ab_cA (o : Option (Option Value × ab_M)) (f : Nat → ab_M → Option (Option Value × ab_M)) : Option (Option Value × ab_M) := match o with
  | some (some (.ref x), μ) => f x μ
  | _ => none
theorem ab_tyI {r : Option Value × ab_M} {ty : FieldType} (h : ab_Ev E S d k pc L st μ = some r) (ht : ab_rt k = some ty) (hn : ab_isObj ty = false) : ∃ x, r.1 = some (.int x) := by
  obtain ⟨n, h⟩ := ab_Ev_iff.mp h
  obtain ⟨pc', hr⟩ := ab_run_ty E S _ _ _ _ _ _ _ _ h
  unfold ab_isRet at hr
  split at hr
  · rw [ht] at hr; cases hr.2
  · rename_i x e; exact ⟨x, e⟩
  · obtain ⟨-, n, h⟩ := hr; rw [ht] at h; cases h; cases hn
  · cases hr
theorem ab_tyV {r : Option Value × ab_M} (h : ab_Ev E S d k pc L st μ = some r) (ht : ab_rt k = none) : r.1 = none := by
  obtain ⟨n, h⟩ := ab_Ev_iff.mp h
  obtain ⟨pc', hr⟩ := ab_run_ty E S _ _ _ _ _ _ _ _ h
  unfold ab_isRet at hr
  split at hr
  · assumption
  · obtain ⟨-, ty, h, -⟩ := hr; rw [ht] at h; cases h
  · obtain ⟨-, n, h⟩ := hr; rw [ht] at h; cases h
  · cases hr
theorem ab_tyA {r : Option Value × ab_M} {nm : String} (h : ab_Ev E S d k pc L st μ = some r) (ht : ab_rt k = some (.object nm)) : ∃ q, r.1 = some (.ref q) := by
  obtain ⟨n, h⟩ := ab_Ev_iff.mp h
  obtain ⟨pc', hr⟩ := ab_run_ty E S _ _ _ _ _ _ _ _ h
  unfold ab_isRet at hr
  split at hr
  · rw [ht] at hr; cases hr.2
  · obtain ⟨-, ty, h, -, h2⟩ := hr; rw [ht] at h; cases h; cases h2
  · rename_i x e; exact ⟨x, e⟩
  · cases hr
end
end
section
/-! AN EQUATION AN INSTRUCTION -/
section
variable {E : ab_E} {S : List ab_C} {d k pc pc' : Nat} {L L' : ab_L} {st st' : List Value} {μ μ' : ab_M}
theorem ab_core_of {i : Instr} {n : Nat} (hf : ab_fetch k pc = some (i, n)) (hl : ab_len i n = true) : ab_core E S k pc L st μ = ab_ex E S k pc i L st μ := by
  unfold ab_core; rw [hf]; simp only; rw [if_pos hl]
theorem e_iconst {n : Int} {v : Int32} (hf : ab_fetch k pc = some (.iconst n, 1)) (hv : Int32.ofInt n = v) : ab_Ev E S d k pc L st μ = ab_Ev E S d k (pc + 1) L (.int v :: st) μ := by
  subst hv; exact ab_Ev_next (ab_core_of hf rfl)
theorem e_bipush {n : Int} {v : Int32} (hf : ab_fetch k pc = some (.bipush n, 2)) (hv : (Int8.ofInt n).toInt32 = v) : ab_Ev E S d k pc L st μ = ab_Ev E S d k (pc + 2) L (.int v :: st) μ := by
  subst hv; exact ab_Ev_next (ab_core_of hf rfl)
theorem e_sipush {n : Int} {v : Int32} (hf : ab_fetch k pc = some (.sipush n, 3)) (hv : (Int16.ofInt n).toInt32 = v) : ab_Ev E S d k pc L st μ = ab_Ev E S d k (pc + 3) L (.int v :: st) μ := by
  subst hv; exact ab_Ev_next (ab_core_of hf rfl)
theorem e_ldc {j : Nat} {v : Int32} (hf : ab_fetch k pc = some (.ldc j, 2)) (hv : ab_kc (ab_own k) j = some v) : ab_Ev E S d k pc L st μ = ab_Ev E S d k (pc + 2) L (.int v :: st) μ := by
  refine ab_Ev_next ((ab_core_of hf rfl).trans ?_)
  show ab_ldc k (pc + 2) j L st μ = _
  unfold ab_ldc; rw [hv]; rfl
theorem e_ldc_w {j : Nat} {v : Int32} (hf : ab_fetch k pc = some (.ldc_w j, 3)) (hv : ab_kc (ab_own k) j = some v) : ab_Ev E S d k pc L st μ = ab_Ev E S d k (pc + 3) L (.int v :: st) μ := by
  refine ab_Ev_next ((ab_core_of hf rfl).trans ?_)
  show ab_ldcw k (pc + 3) j L st μ = _
  unfold ab_ldcw; rw [hv]; rfl
theorem e_ldcS {j i : Nat} (hf : ab_fetch k pc = some (.ldc j, 2)) (hv : ab_kc (ab_own k) j = none ∧ ab_ks (ab_own k) j = some i ∧ i < 14) : ab_Ev E S d k pc L st μ = ab_Ev E S d k (pc + 2) L (.ref (1000 + 2 * i) :: st) μ := by
  refine ab_Ev_next ((ab_core_of hf rfl).trans ?_)
  show ab_ldc k (pc + 2) j L st μ = _
  unfold ab_ldc; rw [hv.1, hv.2.1]; simp only; rw [if_pos hv.2.2]; rfl

theorem e_iload {i : Nat} {x : Int32} (hf : ab_fetch k pc = some (.iload i, 2)) (hl : L[i]? = some (some (.int x))) : ab_Ev E S d k pc L st μ = ab_Ev E S d k (pc + 2) L (.int x :: st) μ := by
  refine ab_Ev_next ((ab_core_of hf rfl).trans ?_)
  show ab_ldI (pc + 2) i L st μ = _
  unfold ab_ldI; rw [hl]; rfl
theorem e_iload_n {i : Fin 4} {x : Int32} (hf : ab_fetch k pc = some (.iload_n i, 1)) (hl : L[i.val]? = some (some (.int x))) : ab_Ev E S d k pc L st μ = ab_Ev E S d k (pc + 1) L (.int x :: st) μ := by
  refine ab_Ev_next ((ab_core_of hf rfl).trans ?_)
  show ab_ldI (pc + 1) i.val L st μ = _
  unfold ab_ldI; rw [hl]; rfl
theorem e_aload {i : Nat} {x : Nat} (hf : ab_fetch k pc = some (.aload i, 2)) (hl : L[i]? = some (some (.ref x))) : ab_Ev E S d k pc L st μ = ab_Ev E S d k (pc + 2) L (.ref x :: st) μ := by
  refine ab_Ev_next ((ab_core_of hf rfl).trans ?_)
  show ab_ldA (pc + 2) i L st μ = _
  unfold ab_ldA; rw [hl]; rfl
theorem e_aload_n {i : Fin 4} {x : Nat} (hf : ab_fetch k pc = some (.aload_n i, 1)) (hl : L[i.val]? = some (some (.ref x))) : ab_Ev E S d k pc L st μ = ab_Ev E S d k (pc + 1) L (.ref x :: st) μ := by
  refine ab_Ev_next ((ab_core_of hf rfl).trans ?_)
  show ab_ldA (pc + 1) i.val L st μ = _
  unfold ab_ldA; rw [hl]; rfl
theorem e_istore {i : Nat} {x : Int32} (hf : ab_fetch k pc = some (.istore i, 2)) (hi : i < L.length) (hL : L.set i (some (.int x)) = L') : ab_Ev E S d k pc L (.int x :: st) μ = ab_Ev E S d k (pc + 2) L' st μ := by
  subst hL
  refine ab_Ev_next ((ab_core_of hf rfl).trans ?_)
  show ab_stI (pc + 2) i L (.int x :: st) μ = _
  unfold ab_stI; simp only; rw [if_pos hi]; rfl
theorem e_istore_n {i : Fin 4} {x : Int32} (hf : ab_fetch k pc = some (.istore_n i, 1)) (hi : i.val < L.length) (hL : L.set i.val (some (.int x)) = L') : ab_Ev E S d k pc L (.int x :: st) μ = ab_Ev E S d k (pc + 1) L' st μ := by
  subst hL
  refine ab_Ev_next ((ab_core_of hf rfl).trans ?_)
  show ab_stI (pc + 1) i.val L (.int x :: st) μ = _
  unfold ab_stI; simp only; rw [if_pos hi]; rfl
theorem e_astore {i : Nat} {x : Nat} (hf : ab_fetch k pc = some (.astore i, 2)) (hi : i < L.length) (hL : L.set i (some (.ref x)) = L') : ab_Ev E S d k pc L (.ref x :: st) μ = ab_Ev E S d k (pc + 2) L' st μ := by
  subst hL
  refine ab_Ev_next ((ab_core_of hf rfl).trans ?_)
  show ab_stA (pc + 2) i L (.ref x :: st) μ = _
  unfold ab_stA; simp only; rw [if_pos hi]; rfl
theorem e_astore_n {i : Fin 4} {x : Nat} (hf : ab_fetch k pc = some (.astore_n i, 1)) (hi : i.val < L.length) (hL : L.set i.val (some (.ref x)) = L') : ab_Ev E S d k pc L (.ref x :: st) μ = ab_Ev E S d k (pc + 1) L' st μ := by
  subst hL
  refine ab_Ev_next ((ab_core_of hf rfl).trans ?_)
  show ab_stA (pc + 1) i.val L (.ref x :: st) μ = _
  unfold ab_stA; simp only; rw [if_pos hi]; rfl
theorem e_iinc {i : Nat} {n : Int} {x y : Int32} (hf : ab_fetch k pc = some (.iinc i n, 3)) (hl : L[i]? = some (some (.int x))) (hy : x + Int32.ofInt n = y) (hL : L.set i (some (.int y)) = L') : ab_Ev E S d k pc L st μ = ab_Ev E S d k (pc + 3) L' st μ := by
  subst hy; subst hL
  refine ab_Ev_next ((ab_core_of hf rfl).trans ?_)
  show ab_inc (pc + 3) i n L st μ = _
  unfold ab_inc; rw [hl]; rfl
theorem e_iadd {x y : Int32} (hf : ab_fetch k pc = some (.iadd, 1)) : ab_Ev E S d k pc L (.int y :: .int x :: st) μ = ab_Ev E S d k (pc + 1) L (.int (x + y) :: st) μ := ab_Ev_next (ab_core_of hf rfl)
theorem e_isub {x y : Int32} (hf : ab_fetch k pc = some (.isub, 1)) : ab_Ev E S d k pc L (.int y :: .int x :: st) μ = ab_Ev E S d k (pc + 1) L (.int (x - y) :: st) μ := ab_Ev_next (ab_core_of hf rfl)
theorem e_imul {x y : Int32} (hf : ab_fetch k pc = some (.imul, 1)) : ab_Ev E S d k pc L (.int y :: .int x :: st) μ = ab_Ev E S d k (pc + 1) L (.int (x * y) :: st) μ := ab_Ev_next (ab_core_of hf rfl)
theorem e_iand {x y : Int32} (hf : ab_fetch k pc = some (.iand, 1)) : ab_Ev E S d k pc L (.int y :: .int x :: st) μ = ab_Ev E S d k (pc + 1) L (.int (x &&& y) :: st) μ := ab_Ev_next (ab_core_of hf rfl)
theorem e_ior {x y : Int32} (hf : ab_fetch k pc = some (.ior, 1)) : ab_Ev E S d k pc L (.int y :: .int x :: st) μ = ab_Ev E S d k (pc + 1) L (.int (x ||| y) :: st) μ := ab_Ev_next (ab_core_of hf rfl)
theorem e_ixor {x y : Int32} (hf : ab_fetch k pc = some (.ixor, 1)) : ab_Ev E S d k pc L (.int y :: .int x :: st) μ = ab_Ev E S d k (pc + 1) L (.int (x ^^^ y) :: st) μ := ab_Ev_next (ab_core_of hf rfl)
theorem e_ishl {x y : Int32} (hf : ab_fetch k pc = some (.ishl, 1)) : ab_Ev E S d k pc L (.int y :: .int x :: st) μ = ab_Ev E S d k (pc + 1) L (.int (x <<< (y &&& 31)) :: st) μ := ab_Ev_next (ab_core_of hf rfl)
theorem e_ishr {x y : Int32} (hf : ab_fetch k pc = some (.ishr, 1)) : ab_Ev E S d k pc L (.int y :: .int x :: st) μ = ab_Ev E S d k (pc + 1) L (.int (x >>> (y &&& 31)) :: st) μ := ab_Ev_next (ab_core_of hf rfl)
theorem e_iushr {x y : Int32} (hf : ab_fetch k pc = some (.iushr, 1)) : ab_Ev E S d k pc L (.int y :: .int x :: st) μ = ab_Ev E S d k (pc + 1) L (.int ((x.toUInt32 >>> (y.toUInt32 &&& Int32.toUInt32 31)).toInt32) :: st) μ := ab_Ev_next (ab_core_of hf rfl)
theorem e_idiv {x y : Int32} (hf : ab_fetch k pc = some (.idiv, 1)) (hy : ¬ y = 0) : ab_Ev E S d k pc L (.int y :: .int x :: st) μ = ab_Ev E S d k (pc + 1) L (.int (x / y) :: st) μ := by
  refine ab_Ev_next ((ab_core_of hf rfl).trans ?_)
  show ab_dv pc (fun x y => x / y) L (.int y :: .int x :: st) μ = _
  unfold ab_dv; simp only; rw [if_neg hy]; rfl
theorem e_idivG {x y : Int32} (hf : ab_fetch k pc = some (.idiv, 1)) : ab_Ev E S d k pc L (.int y :: .int x :: st) μ = if ¬ y = 0 then ab_Ev E S d k (pc + 1) L (.int (x / y) :: st) μ else none := by
  by_cases hy : y = 0
  · rw [if_neg (fun q => q hy)]
    refine ab_Ev_stuck ((ab_core_of hf rfl).trans ?_)
    show ab_dv pc (fun x y => x / y) L (.int y :: .int x :: st) μ = _
    unfold ab_dv; simp only; rw [if_pos hy]
  · rw [if_pos hy]; exact e_idiv hf hy
theorem e_irem {x y : Int32} (hf : ab_fetch k pc = some (.irem, 1)) (hy : ¬ y = 0) : ab_Ev E S d k pc L (.int y :: .int x :: st) μ = ab_Ev E S d k (pc + 1) L (.int (x - x / y * y) :: st) μ := by
  refine ab_Ev_next ((ab_core_of hf rfl).trans ?_)
  show ab_dv pc (fun x y => x - x / y * y) L (.int y :: .int x :: st) μ = _
  unfold ab_dv; simp only; rw [if_neg hy]; rfl
theorem e_iremG {x y : Int32} (hf : ab_fetch k pc = some (.irem, 1)) : ab_Ev E S d k pc L (.int y :: .int x :: st) μ = if ¬ y = 0 then ab_Ev E S d k (pc + 1) L (.int (x - x / y * y) :: st) μ else none := by
  by_cases hy : y = 0
  · rw [if_neg (fun q => q hy)]
    refine ab_Ev_stuck ((ab_core_of hf rfl).trans ?_)
    show ab_dv pc (fun x y => x - x / y * y) L (.int y :: .int x :: st) μ = _
    unfold ab_dv; simp only; rw [if_pos hy]
  · rw [if_pos hy]; exact e_irem hf hy
theorem e_ineg {x : Int32} (hf : ab_fetch k pc = some (.ineg, 1)) : ab_Ev E S d k pc L (.int x :: st) μ = ab_Ev E S d k (pc + 1) L (.int (-x) :: st) μ := ab_Ev_next (ab_core_of hf rfl)
theorem e_i2b {x : Int32} (hf : ab_fetch k pc = some (.i2b, 1)) : ab_Ev E S d k pc L (.int x :: st) μ = ab_Ev E S d k (pc + 1) L (.int (x.toInt8.toInt32) :: st) μ := ab_Ev_next (ab_core_of hf rfl)
theorem e_i2s {x : Int32} (hf : ab_fetch k pc = some (.i2s, 1)) : ab_Ev E S d k pc L (.int x :: st) μ = ab_Ev E S d k (pc + 1) L (.int (x.toInt16.toInt32) :: st) μ := ab_Ev_next (ab_core_of hf rfl)
theorem e_i2c {x : Int32} (hf : ab_fetch k pc = some (.i2c, 1)) : ab_Ev E S d k pc L (.int x :: st) μ = ab_Ev E S d k (pc + 1) L (.int ((x.toUInt32 % 65536).toInt32) :: st) μ := ab_Ev_next (ab_core_of hf rfl)
theorem e_dupI {x : Int32} (hf : ab_fetch k pc = some (.dup, 1)) : ab_Ev E S d k pc L (.int x :: st) μ = ab_Ev E S d k (pc + 1) L (.int x :: .int x :: st) μ := ab_Ev_next (ab_core_of hf rfl)
theorem e_dupA {x : Nat} (hf : ab_fetch k pc = some (.dup, 1)) : ab_Ev E S d k pc L (.ref x :: st) μ = ab_Ev E S d k (pc + 1) L (.ref x :: .ref x :: st) μ := ab_Ev_next (ab_core_of hf rfl)
theorem e_dup2 {x : Nat} {y : Int32} (hf : ab_fetch k pc = some (.dup2, 1)) : ab_Ev E S d k pc L (.int y :: .ref x :: st) μ = ab_Ev E S d k (pc + 1) L (.int y :: .ref x :: .int y :: .ref x :: st) μ := ab_Ev_next (ab_core_of hf rfl)
theorem e_pop {x : Int32} (hf : ab_fetch k pc = some (.pop, 1)) : ab_Ev E S d k pc L (.int x :: st) μ = ab_Ev E S d k (pc + 1) L st μ := ab_Ev_next (ab_core_of hf rfl)
theorem e_icmp_eq {x y : Int32} {off : Int} {tgt : Nat} (hf : ab_fetch k pc = some (.if_icmp .eq off, 3)) (ht : (pc : Int) + off = (tgt : Int)) : ab_Ev E S d k pc L (.int y :: .int x :: st) μ = if x = y then ab_Ev E S d k tgt L st μ else ab_Ev E S d k (pc + 3) L st μ := by
  have hc : ab_core E S k pc L (.int y :: .int x :: st) μ = if x = y then ab_nx tgt L st μ else ab_nx (pc + 3) L st μ := by
    refine (ab_core_of hf rfl).trans ?_
    show ab_br2 pc off (fun x y => decide (x = y)) L (.int y :: .int x :: st) μ = _
    unfold ab_br2; simp only; rw [ht, if_pos (Int.natCast_nonneg tgt), Int.toNat_natCast]; simp only [decide_eq_true_eq]
  by_cases h : x = y
  · rw [if_pos h] at hc ⊢; exact ab_Ev_next hc
  · rw [if_neg h] at hc ⊢; exact ab_Ev_next hc
theorem e_icmp_ne {x y : Int32} {off : Int} {tgt : Nat} (hf : ab_fetch k pc = some (.if_icmp .ne off, 3)) (ht : (pc : Int) + off = (tgt : Int)) : ab_Ev E S d k pc L (.int y :: .int x :: st) μ = if ¬ x = y then ab_Ev E S d k tgt L st μ else ab_Ev E S d k (pc + 3) L st μ := by
  have hc : ab_core E S k pc L (.int y :: .int x :: st) μ = if ¬ x = y then ab_nx tgt L st μ else ab_nx (pc + 3) L st μ := by
    refine (ab_core_of hf rfl).trans ?_
    show ab_br2 pc off (fun x y => decide (¬ x = y)) L (.int y :: .int x :: st) μ = _
    unfold ab_br2; simp only; rw [ht, if_pos (Int.natCast_nonneg tgt), Int.toNat_natCast]; simp only [decide_eq_true_eq]
  by_cases h : ¬ x = y
  · rw [if_pos h] at hc ⊢; exact ab_Ev_next hc
  · rw [if_neg h] at hc ⊢; exact ab_Ev_next hc
theorem e_icmp_lt {x y : Int32} {off : Int} {tgt : Nat} (hf : ab_fetch k pc = some (.if_icmp .lt off, 3)) (ht : (pc : Int) + off = (tgt : Int)) : ab_Ev E S d k pc L (.int y :: .int x :: st) μ = if x < y then ab_Ev E S d k tgt L st μ else ab_Ev E S d k (pc + 3) L st μ := by
  have hc : ab_core E S k pc L (.int y :: .int x :: st) μ = if x < y then ab_nx tgt L st μ else ab_nx (pc + 3) L st μ := by
    refine (ab_core_of hf rfl).trans ?_
    show ab_br2 pc off (fun x y => decide (x < y)) L (.int y :: .int x :: st) μ = _
    unfold ab_br2; simp only; rw [ht, if_pos (Int.natCast_nonneg tgt), Int.toNat_natCast]; simp only [decide_eq_true_eq]
  by_cases h : x < y
  · rw [if_pos h] at hc ⊢; exact ab_Ev_next hc
  · rw [if_neg h] at hc ⊢; exact ab_Ev_next hc
theorem e_icmp_ge {x y : Int32} {off : Int} {tgt : Nat} (hf : ab_fetch k pc = some (.if_icmp .ge off, 3)) (ht : (pc : Int) + off = (tgt : Int)) : ab_Ev E S d k pc L (.int y :: .int x :: st) μ = if y ≤ x then ab_Ev E S d k tgt L st μ else ab_Ev E S d k (pc + 3) L st μ := by
  have hc : ab_core E S k pc L (.int y :: .int x :: st) μ = if y ≤ x then ab_nx tgt L st μ else ab_nx (pc + 3) L st μ := by
    refine (ab_core_of hf rfl).trans ?_
    show ab_br2 pc off (fun x y => decide (y ≤ x)) L (.int y :: .int x :: st) μ = _
    unfold ab_br2; simp only; rw [ht, if_pos (Int.natCast_nonneg tgt), Int.toNat_natCast]; simp only [decide_eq_true_eq]
  by_cases h : y ≤ x
  · rw [if_pos h] at hc ⊢; exact ab_Ev_next hc
  · rw [if_neg h] at hc ⊢; exact ab_Ev_next hc
theorem e_icmp_gt {x y : Int32} {off : Int} {tgt : Nat} (hf : ab_fetch k pc = some (.if_icmp .gt off, 3)) (ht : (pc : Int) + off = (tgt : Int)) : ab_Ev E S d k pc L (.int y :: .int x :: st) μ = if y < x then ab_Ev E S d k tgt L st μ else ab_Ev E S d k (pc + 3) L st μ := by
  have hc : ab_core E S k pc L (.int y :: .int x :: st) μ = if y < x then ab_nx tgt L st μ else ab_nx (pc + 3) L st μ := by
    refine (ab_core_of hf rfl).trans ?_
    show ab_br2 pc off (fun x y => decide (y < x)) L (.int y :: .int x :: st) μ = _
    unfold ab_br2; simp only; rw [ht, if_pos (Int.natCast_nonneg tgt), Int.toNat_natCast]; simp only [decide_eq_true_eq]
  by_cases h : y < x
  · rw [if_pos h] at hc ⊢; exact ab_Ev_next hc
  · rw [if_neg h] at hc ⊢; exact ab_Ev_next hc
theorem e_icmp_le {x y : Int32} {off : Int} {tgt : Nat} (hf : ab_fetch k pc = some (.if_icmp .le off, 3)) (ht : (pc : Int) + off = (tgt : Int)) : ab_Ev E S d k pc L (.int y :: .int x :: st) μ = if x ≤ y then ab_Ev E S d k tgt L st μ else ab_Ev E S d k (pc + 3) L st μ := by
  have hc : ab_core E S k pc L (.int y :: .int x :: st) μ = if x ≤ y then ab_nx tgt L st μ else ab_nx (pc + 3) L st μ := by
    refine (ab_core_of hf rfl).trans ?_
    show ab_br2 pc off (fun x y => decide (x ≤ y)) L (.int y :: .int x :: st) μ = _
    unfold ab_br2; simp only; rw [ht, if_pos (Int.natCast_nonneg tgt), Int.toNat_natCast]; simp only [decide_eq_true_eq]
  by_cases h : x ≤ y
  · rw [if_pos h] at hc ⊢; exact ab_Ev_next hc
  · rw [if_neg h] at hc ⊢; exact ab_Ev_next hc
theorem e_if_eq {x : Int32} {off : Int} {tgt : Nat} (hf : ab_fetch k pc = some (.ifCond .eq off, 3)) (ht : (pc : Int) + off = (tgt : Int)) : ab_Ev E S d k pc L (.int x :: st) μ = if x = 0 then ab_Ev E S d k tgt L st μ else ab_Ev E S d k (pc + 3) L st μ := by
  have hc : ab_core E S k pc L (.int x :: st) μ = if x = 0 then ab_nx tgt L st μ else ab_nx (pc + 3) L st μ := by
    refine (ab_core_of hf rfl).trans ?_
    show ab_br1 pc off (fun x => decide (x = 0)) L (.int x :: st) μ = _
    unfold ab_br1; simp only; rw [ht, if_pos (Int.natCast_nonneg tgt), Int.toNat_natCast]; simp only [decide_eq_true_eq]
  by_cases h : x = 0
  · rw [if_pos h] at hc ⊢; exact ab_Ev_next hc
  · rw [if_neg h] at hc ⊢; exact ab_Ev_next hc
theorem e_if_ne {x : Int32} {off : Int} {tgt : Nat} (hf : ab_fetch k pc = some (.ifCond .ne off, 3)) (ht : (pc : Int) + off = (tgt : Int)) : ab_Ev E S d k pc L (.int x :: st) μ = if ¬ x = 0 then ab_Ev E S d k tgt L st μ else ab_Ev E S d k (pc + 3) L st μ := by
  have hc : ab_core E S k pc L (.int x :: st) μ = if ¬ x = 0 then ab_nx tgt L st μ else ab_nx (pc + 3) L st μ := by
    refine (ab_core_of hf rfl).trans ?_
    show ab_br1 pc off (fun x => decide (¬ x = 0)) L (.int x :: st) μ = _
    unfold ab_br1; simp only; rw [ht, if_pos (Int.natCast_nonneg tgt), Int.toNat_natCast]; simp only [decide_eq_true_eq]
  by_cases h : ¬ x = 0
  · rw [if_pos h] at hc ⊢; exact ab_Ev_next hc
  · rw [if_neg h] at hc ⊢; exact ab_Ev_next hc
theorem e_if_lt {x : Int32} {off : Int} {tgt : Nat} (hf : ab_fetch k pc = some (.ifCond .lt off, 3)) (ht : (pc : Int) + off = (tgt : Int)) : ab_Ev E S d k pc L (.int x :: st) μ = if x < 0 then ab_Ev E S d k tgt L st μ else ab_Ev E S d k (pc + 3) L st μ := by
  have hc : ab_core E S k pc L (.int x :: st) μ = if x < 0 then ab_nx tgt L st μ else ab_nx (pc + 3) L st μ := by
    refine (ab_core_of hf rfl).trans ?_
    show ab_br1 pc off (fun x => decide (x < 0)) L (.int x :: st) μ = _
    unfold ab_br1; simp only; rw [ht, if_pos (Int.natCast_nonneg tgt), Int.toNat_natCast]; simp only [decide_eq_true_eq]
  by_cases h : x < 0
  · rw [if_pos h] at hc ⊢; exact ab_Ev_next hc
  · rw [if_neg h] at hc ⊢; exact ab_Ev_next hc
theorem e_if_ge {x : Int32} {off : Int} {tgt : Nat} (hf : ab_fetch k pc = some (.ifCond .ge off, 3)) (ht : (pc : Int) + off = (tgt : Int)) : ab_Ev E S d k pc L (.int x :: st) μ = if 0 ≤ x then ab_Ev E S d k tgt L st μ else ab_Ev E S d k (pc + 3) L st μ := by
  have hc : ab_core E S k pc L (.int x :: st) μ = if 0 ≤ x then ab_nx tgt L st μ else ab_nx (pc + 3) L st μ := by
    refine (ab_core_of hf rfl).trans ?_
    show ab_br1 pc off (fun x => decide (0 ≤ x)) L (.int x :: st) μ = _
    unfold ab_br1; simp only; rw [ht, if_pos (Int.natCast_nonneg tgt), Int.toNat_natCast]; simp only [decide_eq_true_eq]
  by_cases h : 0 ≤ x
  · rw [if_pos h] at hc ⊢; exact ab_Ev_next hc
  · rw [if_neg h] at hc ⊢; exact ab_Ev_next hc
theorem e_if_gt {x : Int32} {off : Int} {tgt : Nat} (hf : ab_fetch k pc = some (.ifCond .gt off, 3)) (ht : (pc : Int) + off = (tgt : Int)) : ab_Ev E S d k pc L (.int x :: st) μ = if 0 < x then ab_Ev E S d k tgt L st μ else ab_Ev E S d k (pc + 3) L st μ := by
  have hc : ab_core E S k pc L (.int x :: st) μ = if 0 < x then ab_nx tgt L st μ else ab_nx (pc + 3) L st μ := by
    refine (ab_core_of hf rfl).trans ?_
    show ab_br1 pc off (fun x => decide (0 < x)) L (.int x :: st) μ = _
    unfold ab_br1; simp only; rw [ht, if_pos (Int.natCast_nonneg tgt), Int.toNat_natCast]; simp only [decide_eq_true_eq]
  by_cases h : 0 < x
  · rw [if_pos h] at hc ⊢; exact ab_Ev_next hc
  · rw [if_neg h] at hc ⊢; exact ab_Ev_next hc
theorem e_if_le {x : Int32} {off : Int} {tgt : Nat} (hf : ab_fetch k pc = some (.ifCond .le off, 3)) (ht : (pc : Int) + off = (tgt : Int)) : ab_Ev E S d k pc L (.int x :: st) μ = if x ≤ 0 then ab_Ev E S d k tgt L st μ else ab_Ev E S d k (pc + 3) L st μ := by
  have hc : ab_core E S k pc L (.int x :: st) μ = if x ≤ 0 then ab_nx tgt L st μ else ab_nx (pc + 3) L st μ := by
    refine (ab_core_of hf rfl).trans ?_
    show ab_br1 pc off (fun x => decide (x ≤ 0)) L (.int x :: st) μ = _
    unfold ab_br1; simp only; rw [ht, if_pos (Int.natCast_nonneg tgt), Int.toNat_natCast]; simp only [decide_eq_true_eq]
  by_cases h : x ≤ 0
  · rw [if_pos h] at hc ⊢; exact ab_Ev_next hc
  · rw [if_neg h] at hc ⊢; exact ab_Ev_next hc
theorem e_goto {off : Int} {tgt : Nat} (hf : ab_fetch k pc = some (.goto off, 3)) (ht : (pc : Int) + off = (tgt : Int)) : ab_Ev E S d k pc L st μ = ab_Ev E S d k tgt L st μ := by
  refine ab_Ev_next ((ab_core_of hf rfl).trans ?_)
  show ab_jp pc off L st μ = _
  unfold ab_jp; rw [ht, if_pos (Int.natCast_nonneg tgt), Int.toNat_natCast]; rfl
/-- a switch, its cases one by one: what a number's case is -/
def ab_sw (x : Int32) (d' : Nat) : List (Int32 × Nat) → Nat
  | [] => d'
  | (a, t) :: r => if x = a then t else ab_sw x d' r
theorem e_tsw {dd lo hi : Int} {os : Array Int} {n : Nat} {x : Int32} {tg : Nat} (hf : ab_fetch k pc = some (.tableswitch dd lo hi os, n)) (h : ab_tsw pc dd lo hi os L (.int x :: st) μ = ab_nx tg L st μ) : ab_Ev E S d k pc L (.int x :: st) μ = ab_Ev E S d k tg L st μ := ab_Ev_next ((ab_core_of hf rfl).trans h)
theorem e_lsw {dd : Int} {ps : Array (Int × Int)} {n : Nat} {x : Int32} {tg : Nat} (hf : ab_fetch k pc = some (.lookupswitch dd ps, n)) (h : ab_lsw pc dd ps L (.int x :: st) μ = ab_nx tg L st μ) : ab_Ev E S d k pc L (.int x :: st) μ = ab_Ev E S d k tg L st μ := ab_Ev_next ((ab_core_of hf rfl).trans h)
theorem ab_tsw_in {dd lo hi : Int} {os : Array Int} {x a : Int32} {off : Int} {tg : Nat} (hx : x = a) (h1 : ¬ (a.toInt < lo ∨ hi < a.toInt)) (ho : os[(a.toInt - lo).toNat]? = some off) (ht : (pc : Int) + off = (tg : Int)) : ab_tsw pc dd lo hi os L (.int x :: st) μ = ab_nx tg L st μ := by
  subst hx; unfold ab_tsw; simp only; rw [if_neg h1, ho]; simp only; unfold ab_jp; rw [ht, if_pos (Int.natCast_nonneg tg), Int.toNat_natCast]
theorem ab_tsw_out {dd lo hi : Int} {os : Array Int} {x : Int32} {tg : Nat} (h1 : x.toInt < lo ∨ hi < x.toInt) (ht : (pc : Int) + dd = (tg : Int)) : ab_tsw pc dd lo hi os L (.int x :: st) μ = ab_nx tg L st μ := by
  unfold ab_tsw; simp only; rw [if_pos h1]; unfold ab_jp; rw [ht, if_pos (Int.natCast_nonneg tg), Int.toNat_natCast]
theorem ab_lsw_of {dd : Int} {ps : Array (Int × Int)} {x : Int32} {tg : Nat} (hp : (ps.toList.zip (ps.toList.drop 1)).all (fun (a, next) => a.1 < next.1) = true) (ht : (pc : Int) + Op.lookupswitch.offset ps.toList dd x.toInt = (tg : Int)) : ab_lsw pc dd ps L (.int x :: st) μ = ab_nx tg L st μ := by
  unfold ab_lsw; simp only; rw [if_pos hp]; unfold ab_jp; rw [ht, if_pos (Int.natCast_nonneg tg), Int.toNat_natCast]
theorem ab_cellS {x : ab_C} {r : Nat} (hr : r < 900) (h : S[r]? = some x) (hx : ¬ (x.1 = 4 ∨ x.1 = 8 ∨ x.1 = 9)) : ab_cell E S r = some x := by
  unfold ab_cell; rw [if_pos hr, h]; simp only; rw [if_neg hx]
theorem e_getI {j r ci fi : Nat} {vs : List Value} {z : Int32} (hf : ab_fetch k pc = some (.getfield j, 3)) (hl : ab_fl (ab_own k) j = some (ci, fi)) (hr : r < 900) (hS : S[r]? = some (0, ci, vs)) (hv : vs[fi]? = some (.int z)) : ab_Ev E S d k pc L (.ref r :: st) μ = ab_Ev E S d k (pc + 3) L (.int (μ r fi) :: st) μ := by
  refine ab_Ev_next ((ab_core_of hf rfl).trans ?_)
  show ab_getf E S k pc j L (.ref r :: st) μ = _
  unfold ab_getf ab_fv; simp only; rw [ab_cellS hr hS (by simp)]; simp only; rw [hl]; simp only; rw [if_pos (by first | rfl | trivial), hv]; rfl
theorem e_getA {j r ci fi q : Nat} {vs : List Value} (hf : ab_fetch k pc = some (.getfield j, 3)) (hl : ab_fl (ab_own k) j = some (ci, fi)) (hr : r < 900) (hS : S[r]? = some (0, ci, vs)) (hv : vs[fi]? = some (.ref q)) : ab_Ev E S d k pc L (.ref r :: st) μ = ab_Ev E S d k (pc + 3) L (.ref q :: st) μ := by
  refine ab_Ev_next ((ab_core_of hf rfl).trans ?_)
  show ab_getf E S k pc j L (.ref r :: st) μ = _
  unfold ab_getf ab_fv; simp only; rw [ab_cellS hr hS (by simp)]; simp only; rw [hl]; simp only; rw [if_pos (by first | rfl | trivial), hv]; rfl
theorem e_putI {j r ci fi : Nat} {x : Int32} {vs : List Value} {z : Int32} (hf : ab_fetch k pc = some (.putfield j, 3)) (hl : ab_fl (ab_own k) j = some (ci, fi)) (hq : fi < ab_N ci ∧ (ab_T ci fi).2.2.2 = false ∧ ab_ty ci fi = .int) (hr : r < 900) (hS : S[r]? = some (0, ci, vs)) (hv : vs[fi]? = some (.int z)) : ab_Ev E S d k pc L (.int x :: .ref r :: st) μ = ab_Ev E S d k (pc + 3) L st (ab_up μ r fi x) := by
  refine ab_Ev_next ((ab_core_of hf rfl).trans ?_)
  show ab_putf S k pc j L (.int x :: .ref r :: st) μ = _
  unfold ab_putf; simp only; rw [if_pos hr, hS]; simp only; rw [hl]; simp only; rw [if_pos ⟨by first | rfl | trivial, hq.1, hq.2.1, by rw [hq.2.2]; rfl, by rw [hq.2.2]; rfl⟩, hv]; rfl
theorem e_putZ {j r ci fi : Nat} {x : Int32} {vs : List Value} {z : Int32} (hf : ab_fetch k pc = some (.putfield j, 3)) (hl : ab_fl (ab_own k) j = some (ci, fi)) (hq : fi < ab_N ci ∧ (ab_T ci fi).2.2.2 = false ∧ narrow (ab_ty ci fi) (.int x) = .int x ∧ fits (ab_ty ci fi) (.int x) = true) (hr : r < 900) (hS : S[r]? = some (0, ci, vs)) (hv : vs[fi]? = some (.int z)) : ab_Ev E S d k pc L (.int x :: .ref r :: st) μ = ab_Ev E S d k (pc + 3) L st (ab_up μ r fi x) := by
  refine ab_Ev_next ((ab_core_of hf rfl).trans ?_)
  show ab_putf S k pc j L (.int x :: .ref r :: st) μ = _
  unfold ab_putf; simp only; rw [if_pos hr, hS]; simp only; rw [hl]; simp only; rw [if_pos ⟨by first | rfl | trivial, hq.1, hq.2.1, hq.2.2.1, hq.2.2.2⟩, hv]; rfl
theorem e_ald {i : Instr} {tg : List Nat} {t r n : Nat} {x : Int32} {vs : List Value} (he : ab_ex E S k pc i L (.int x :: .ref r :: st) μ = ab_ald E S tg pc L (.int x :: .ref r :: st) μ) (hf : ab_fetch k pc = some (i, 1)) (hlen : ab_len i 1 = true) (hr : r < 900) (hS : S[r]? = some (t, n, vs)) (ht : t ∈ tg ∧ t ≠ 4 ∧ t ≠ 8 ∧ t ≠ 9) : ab_Ev E S d k pc L (.int x :: .ref r :: st) μ = if ab_in x n then ab_Ev E S d k (pc + 1) L (.int (μ r x.toNatClampNeg) :: st) μ else none := by
  have hc : ab_core E S k pc L (.int x :: .ref r :: st) μ = if ab_in x n then ab_nx (pc + 1) L (.int (μ r x.toNatClampNeg) :: st) μ else none := by
    refine ((ab_core_of hf hlen).trans he).trans ?_
    unfold ab_ald ab_av; simp only; rw [ab_cellS hr hS (by simp [ht.2.1, ht.2.2.1, ht.2.2.2])]; simp only
    by_cases h : ab_in x n
    · rw [if_pos ⟨ht.1, h⟩, if_neg ht.2.1, if_neg ht.2.2.2, if_pos h]
    · rw [if_neg (fun q => h q.2), if_neg h]
  by_cases h : ab_in x n
  · rw [if_pos h] at hc ⊢; exact ab_Ev_next hc
  · rw [if_neg h] at hc ⊢; exact ab_Ev_stuck hc
theorem e_iaload {r n : Nat} {x : Int32} {vs : List Value} (hf : ab_fetch k pc = some (.iaload, 1)) (hr : r < 900) (hS : S[r]? = some (1, n, vs)) : ab_Ev E S d k pc L (.int x :: .ref r :: st) μ = if ab_in x n then ab_Ev E S d k (pc + 1) L (.int (μ r x.toNatClampNeg) :: st) μ else none := e_ald rfl hf rfl hr hS (by decide)
theorem e_zaload {r n : Nat} {x : Int32} {vs : List Value} (hf : ab_fetch k pc = some (.baload, 1)) (hr : r < 900) (hS : S[r]? = some (2, n, vs)) : ab_Ev E S d k pc L (.int x :: .ref r :: st) μ = if ab_in x n then ab_Ev E S d k (pc + 1) L (.int (μ r x.toNatClampNeg) :: st) μ else none := e_ald rfl hf rfl hr hS (by decide)
theorem e_caload {r n : Nat} {x : Int32} {vs : List Value} (hf : ab_fetch k pc = some (.caload, 1)) (hr : r < 900) (hS : S[r]? = some (3, n, vs)) : ab_Ev E S d k pc L (.int x :: .ref r :: st) μ = if ab_in x n then ab_Ev E S d k (pc + 1) L (.int (μ r x.toNatClampNeg) :: st) μ else none := e_ald rfl hf rfl hr hS (by decide)
theorem e_saload {x : Int32} (hf : ab_fetch k pc = some (.iaload, 1)) : ab_Ev E S d k pc L (.int x :: .ref 999 :: st) μ = if ab_in x E.1 then ab_Ev E S d k (pc + 1) L (.int (E.2.1 x.toNatClampNeg) :: st) μ else none := by
  have hc : ab_core E S k pc L (.int x :: .ref 999 :: st) μ = if ab_in x E.1 then ab_nx (pc + 1) L (.int (E.2.1 x.toNatClampNeg) :: st) μ else none := by
    refine (ab_core_of hf rfl).trans ?_
    show ab_ald E S [1, 9] pc L (.int x :: .ref 999 :: st) μ = _
    unfold ab_ald ab_av ab_cell; simp only
    rw [if_neg (by decide), if_pos (by first | rfl | trivial)]
    simp only
    by_cases h : ab_in x E.1
    · rw [if_pos ⟨by decide, h⟩, if_neg (by decide), if_pos (by first | rfl | trivial), if_pos h]
    · rw [if_neg (fun q => h q.2), if_neg h]
  by_cases h : ab_in x E.1
  · rw [if_pos h] at hc ⊢; exact ab_Ev_next hc
  · rw [if_neg h] at hc ⊢; exact ab_Ev_stuck hc
theorem ab_cell_b {i : Nat} (hi : i < 14) : ab_cell E S (1001 + 2 * i) = some (4, ab_ln.getD i 0, []) := by
  unfold ab_cell
  rw [if_neg (by omega), if_neg (by omega), if_pos (by omega), if_neg (by omega), show (1001 + 2 * i - 1000) / 2 = i by omega]
theorem ab_cell_t {i : Nat} (hi : i < 14) : ab_cell E S (1000 + 2 * i) = some (8, i, []) := by
  unfold ab_cell
  rw [if_neg (by omega), if_neg (by omega), if_pos (by omega), if_pos (by omega), show (1000 + 2 * i - 1000) / 2 = i by omega]
theorem e_baload {i : Nat} {x : Int32} (hf : ab_fetch k pc = some (.baload, 1)) (hi : i < 14) : ab_Ev E S d k pc L (.int x :: .ref (1001 + 2 * i) :: st) μ = if ab_in x (ab_ln.getD i 0) then ab_Ev E S d k (pc + 1) L (.int ((ab_by.getD i []).getD x.toNatClampNeg 0) :: st) μ else none := by
  have hc : ab_core E S k pc L (.int x :: .ref (1001 + 2 * i) :: st) μ = if ab_in x (ab_ln.getD i 0) then ab_nx (pc + 1) L (.int ((ab_by.getD i []).getD x.toNatClampNeg 0) :: st) μ else none := by
    refine (ab_core_of hf rfl).trans ?_
    show ab_ald E S [2, 4] pc L (.int x :: .ref (1001 + 2 * i) :: st) μ = _
    unfold ab_ald ab_av; simp only
    rw [ab_cell_b hi, show (1001 + 2 * i - 1000) / 2 = i by omega]
    simp only
    by_cases h : ab_in x (ab_ln.getD i 0)
    · rw [if_pos ⟨by decide, h⟩, if_pos (by first | rfl | trivial), if_pos h]
    · rw [if_neg (fun q => h q.2), if_neg h]
  by_cases h : ab_in x (ab_ln.getD i 0)
  · rw [if_pos h] at hc ⊢; exact ab_Ev_next hc
  · rw [if_neg h] at hc ⊢; exact ab_Ev_stuck hc
theorem e_getSv {i : Nat} (hf : ab_fetch k pc = some (.getfield ab_fsV, 3)) (ho : ab_own k = 9) (hi : i < 14) : ab_Ev E S d k pc L (.ref (1000 + 2 * i) :: st) μ = ab_Ev E S d k (pc + 3) L (.ref (1001 + 2 * i) :: st) μ := by
  refine ab_Ev_next ((ab_core_of hf rfl).trans ?_)
  show ab_getf E S k pc ab_fsV L (.ref (1000 + 2 * i) :: st) μ = _
  unfold ab_getf ab_fv; simp only; rw [ab_cell_t hi]; simp only; rw [if_pos ho, if_pos (by first | rfl | trivial), show 1001 + 2 * i = 1000 + 2 * i + 1 by omega]; rfl
theorem e_getSc {i : Nat} (hf : ab_fetch k pc = some (.getfield ab_fsC, 3)) (ho : ab_own k = 9) (hi : i < 14) : ab_Ev E S d k pc L (.ref (1000 + 2 * i) :: st) μ = ab_Ev E S d k (pc + 3) L (.int 0 :: st) μ := by
  refine ab_Ev_next ((ab_core_of hf rfl).trans ?_)
  show ab_getf E S k pc ab_fsC L (.ref (1000 + 2 * i) :: st) μ = _
  unfold ab_getf ab_fv; simp only; rw [ab_cell_t hi]; simp only; rw [if_pos ho, if_neg (by decide), if_pos (by first | rfl | trivial)]; rfl
theorem e_alenB {i : Nat} (hf : ab_fetch k pc = some (.arraylength, 1)) (hi : i < 14) : ab_Ev E S d k pc L (.ref (1001 + 2 * i) :: st) μ = ab_Ev E S d k (pc + 1) L (.int (Int32.ofNat (ab_ln.getD i 0)) :: st) μ := by
  refine ab_Ev_next ((ab_core_of hf rfl).trans ?_)
  show ab_alen E S pc L (.ref (1001 + 2 * i) :: st) μ = _
  unfold ab_alen; simp only; rw [ab_cell_b hi]; simp only; rw [if_pos (by decide)]; rfl
theorem e_alenS (hf : ab_fetch k pc = some (.arraylength, 1)) : ab_Ev E S d k pc L (.ref 999 :: st) μ = ab_Ev E S d k (pc + 1) L (.int (Int32.ofNat E.1) :: st) μ := by
  refine ab_Ev_next ((ab_core_of hf rfl).trans ?_)
  show ab_alen E S pc L (.ref 999 :: st) μ = _
  unfold ab_alen ab_cell; simp only; rw [if_neg (by decide), if_pos (by first | rfl | trivial)]; simp only; rw [if_pos (by decide)]; rfl
theorem e_alen {r n : Nat} {vs : List Value} (hf : ab_fetch k pc = some (.arraylength, 1)) (hr : r < 900) (hS : S[r]? = some (1, n, vs)) : ab_Ev E S d k pc L (.ref r :: st) μ = ab_Ev E S d k (pc + 1) L (.int (Int32.ofNat n) :: st) μ := by
  refine ab_Ev_next ((ab_core_of hf rfl).trans ?_)
  show ab_alen E S pc L (.ref r :: st) μ = _
  unfold ab_alen; simp only; rw [ab_cellS hr hS (by simp)]; simp only; rw [if_pos (by decide)]; rfl
theorem e_getsZ (hf : ab_fetch k pc = some (.getstatic ab_sfZ, 3)) (ho : ab_own k = 9) : ab_Ev E S d k pc L st μ = ab_Ev E S d k (pc + 3) L (.int 1 :: st) μ := by
  refine ab_Ev_next ((ab_core_of hf rfl).trans ?_)
  show ab_gets E k pc ab_sfZ L st μ = _
  unfold ab_gets; rw [if_pos ho, if_pos (by first | rfl | trivial)]; rfl
theorem e_getsF (hf : ab_fetch k pc = some (.getstatic ab_sfF, 3)) (ho : ab_own k = 9) : ab_Ev E S d k pc L st μ = ab_Ev E S d k (pc + 3) L (E.2.2 :: st) μ := by
  refine ab_Ev_next ((ab_core_of hf rfl).trans ?_)
  show ab_gets E k pc ab_sfF L st μ = _
  unfold ab_gets; rw [if_pos ho, if_neg (by decide), if_pos (by first | rfl | trivial)]; rfl
theorem e_ast {i : Instr} {t r n : Nat} {x y : Int32} {f : Int32 → Int32} {vs : List Value} (he : ab_ex E S k pc i L (.int y :: .int x :: .ref r :: st) μ = ab_ast S t f pc L (.int y :: .int x :: .ref r :: st) μ) (hf : ab_fetch k pc = some (i, 1)) (hlen : ab_len i 1 = true) (hr : r < 900) (hS : S[r]? = some (t, n, vs)) : ab_Ev E S d k pc L (.int y :: .int x :: .ref r :: st) μ = if ab_in x n then ab_Ev E S d k (pc + 1) L st (ab_up μ r x.toNatClampNeg (f y)) else none := by
  have hc : ab_core E S k pc L (.int y :: .int x :: .ref r :: st) μ = if ab_in x n then ab_nx (pc + 1) L st (ab_up μ r x.toNatClampNeg (f y)) else none := by
    refine ((ab_core_of hf hlen).trans he).trans ?_
    unfold ab_ast; simp only; rw [if_pos hr, hS]; simp only
    by_cases h : ab_in x n
    · rw [if_pos ⟨by first | rfl | trivial, h⟩, if_pos h]
    · rw [if_neg (fun q => h q.2), if_neg h]
  by_cases h : ab_in x n
  · rw [if_pos h] at hc ⊢; exact ab_Ev_next hc
  · rw [if_neg h] at hc ⊢; exact ab_Ev_stuck hc
theorem e_iastore {r n : Nat} {x y : Int32} {vs : List Value} (hf : ab_fetch k pc = some (.iastore, 1)) (hr : r < 900) (hS : S[r]? = some (1, n, vs)) : ab_Ev E S d k pc L (.int y :: .int x :: .ref r :: st) μ = if ab_in x n then ab_Ev E S d k (pc + 1) L st (ab_up μ r x.toNatClampNeg y) else none := e_ast (f := fun x => x) rfl hf rfl hr hS
theorem e_zastore {r n : Nat} {x y : Int32} {vs : List Value} (hf : ab_fetch k pc = some (.bastore, 1)) (hr : r < 900) (hS : S[r]? = some (2, n, vs)) : ab_Ev E S d k pc L (.int y :: .int x :: .ref r :: st) μ = if ab_in x n then ab_Ev E S d k (pc + 1) L st (ab_up μ r x.toNatClampNeg (vp_nar .boolean y)) else none := e_ast (f := vp_nar .boolean) rfl hf rfl hr hS
theorem e_aaload {t r n b w : Nat} {x : Int32} {vs : List Value} (hf : ab_fetch k pc = some (.aaload, 1)) (hr : r < 900) (hS : S[r]? = some (t, n, vs)) (ht : t = 5 ∨ t = 6 ∨ t = 7) (hv : ∀ j, j < n → vs[j]? = some (.ref (b + w * j))) : ab_Ev E S d k pc L (.int x :: .ref r :: st) μ = if ab_in x n then ab_Ev E S d k (pc + 1) L (.ref (b + w * x.toNatClampNeg) :: st) μ else none := by
  have hc : ab_core E S k pc L (.int x :: .ref r :: st) μ = if ab_in x n then ab_nx (pc + 1) L (.ref (b + w * x.toNatClampNeg) :: st) μ else none := by
    refine (ab_core_of hf rfl).trans ?_
    show ab_aald S pc L (.int x :: .ref r :: st) μ = _
    unfold ab_aald; simp only; rw [if_pos hr, hS]; simp only
    by_cases h : ab_in x n
    · rw [if_pos ⟨ht, h⟩, if_pos h, hv _ (Nat.not_le.mp fun q => h (Or.inr q))]
    · rw [if_neg (fun q => h q.2), if_neg h]
  by_cases h : ab_in x n
  · rw [if_pos h] at hc ⊢; exact ab_Ev_next hc
  · rw [if_neg h] at hc ⊢; exact ab_Ev_stuck hc
theorem e_acp {j r dd n0 n1 : Nat} {sp dp n : Int32} {v0 v1 : List Value} (hf : ab_fetch k pc = some (.invokestatic j, 3)) (hj : ab_mk (ab_mlS ++ ab_mlSN) (ab_own k) j = none ∧ (ab_own k, j) ∈ ab_mlC) (hr : r < 900 ∧ dd < 900) (hS0 : S[r]? = some (1, n0, v0)) (hS1 : S[dd]? = some (1, n1, v1)) (hc : (st.map fun v => v.category).sum ≤ 8) :
    ab_Ev E S d k pc L (.int n :: .int dp :: .ref dd :: .int sp :: .ref r :: st) μ = if ¬ sp < 0 ∧ ¬ dp < 0 ∧ ¬ n < 0 ∧ sp.toNatClampNeg + n.toNatClampNeg ≤ n0 ∧ dp.toNatClampNeg + n.toNatClampNeg ≤ n1 then ab_Ev E S d k (pc + 3) L st (ab_upA μ dd (va_cpy (μ r) (μ dd) sp.toNatClampNeg dp.toNatClampNeg n.toNatClampNeg)) else none := by
  have hcc : ab_core E S k pc L (.int n :: .int dp :: .ref dd :: .int sp :: .ref r :: st) μ = if ¬ sp < 0 ∧ ¬ dp < 0 ∧ ¬ n < 0 ∧ sp.toNatClampNeg + n.toNatClampNeg ≤ n0 ∧ dp.toNatClampNeg + n.toNatClampNeg ≤ n1 then ab_nx (pc + 3) L st (ab_upA μ dd (va_cpy (μ r) (μ dd) sp.toNatClampNeg dp.toNatClampNeg n.toNatClampNeg)) else none := by
    refine (ab_core_of hf rfl).trans ?_
    show ab_sta S k pc j L _ μ = _
    unfold ab_sta; rw [hj.1]; simp only; rw [if_pos hj.2]; unfold ab_acp; simp only; rw [if_pos hr, hS0, hS1]; simp only
    by_cases h : ¬ sp < 0 ∧ ¬ dp < 0 ∧ ¬ n < 0 ∧ sp.toNatClampNeg + n.toNatClampNeg ≤ n0 ∧ dp.toNatClampNeg + n.toNatClampNeg ≤ n1
    · rw [if_pos h, if_pos ⟨h.1, h.2.1, h.2.2.1, h.2.2.2.1, h.2.2.2.2, hc⟩]
    · rw [if_neg h, if_neg (fun q => h ⟨q.1, q.2.1, q.2.2.1, q.2.2.2.1, q.2.2.2.2.1⟩)]
  by_cases h : ¬ sp < 0 ∧ ¬ dp < 0 ∧ ¬ n < 0 ∧ sp.toNatClampNeg + n.toNatClampNeg ≤ n0 ∧ dp.toNatClampNeg + n.toNatClampNeg ≤ n1
  · rw [if_pos h] at hcc ⊢; exact ab_Ev_next hcc
  · rw [if_neg h] at hcc ⊢; exact ab_Ev_stuck hcc
/-- calls -/
theorem ab_c_vir {j r k' : Nat} {as rest : List Value} (hf : ab_fetch k pc = some (.invokevirtual j, 3)) (hk : ab_mk ab_mlV (ab_own k) j = some k') (hn : as.length = ab_np k') (hr : ab_isRecv E S k' r = true) (hg : (rest.map fun v => v.category).sum ≤ 8 ∧ ((Value.ref r :: as).all fun v => v.category == 1) = true ∧ (Value.ref r :: as).length ≤ ab_mL k') : ab_core E S k pc L (as.reverse ++ .ref r :: rest) μ = some (.inr (.inr (k', .ref r :: as, pc + 3, L, rest))) := by
  refine (ab_core_of hf rfl).trans ?_
  show ab_vir E S k pc j L (as.reverse ++ .ref r :: rest) = _
  unfold ab_vir; rw [hk]; simp only
  have hlen : as.reverse.length = ab_np k' := by rw [List.length_reverse]; exact hn
  rw [← hlen, List.drop_left, List.take_left]
  simp only
  rw [if_pos ⟨by first | rfl | trivial, hr⟩, List.reverse_reverse]
  unfold ab_cal; rw [if_pos hg]
theorem ab_c_sta {j k' : Nat} {as rest : List Value} (hf : ab_fetch k pc = some (.invokestatic j, 3)) (hk : ab_mk (ab_mlS ++ ab_mlSN) (ab_own k) j = some k') (hn : as.length = ab_np k') (hg : (rest.map fun v => v.category).sum ≤ 8 ∧ (as.all fun v => v.category == 1) = true ∧ as.length ≤ ab_mL k') : ab_core E S k pc L (as.reverse ++ rest) μ = some (.inr (.inr (k', as, pc + 3, L, rest))) := by
  refine (ab_core_of hf rfl).trans ?_
  show ab_sta S k pc j L (as.reverse ++ rest) μ = _
  unfold ab_sta; rw [hk]; simp only
  have hlen : as.reverse.length = ab_np k' := by rw [List.length_reverse]; exact hn
  rw [← hlen, List.drop_left, List.take_left, if_pos (by first | rfl | trivial), List.reverse_reverse]
  unfold ab_cal; rw [if_pos hg]
theorem ab_bI {o : Option (Option Value × ab_M)} {f : Option Value × ab_M → Option (Option Value × ab_M)} (h : ∀ r, o = some r → ∃ x, r.1 = some (.int x)) : o.bind f = ab_cI o (fun x μ => f (some (.int x), μ)) := by
  cases o with
  | none => rfl
  | some r =>
    obtain ⟨v, μ⟩ := r
    obtain ⟨x, hx⟩ := h _ rfl
    cases hx
    rfl
theorem ab_bV {o : Option (Option Value × ab_M)} {f : Option Value × ab_M → Option (Option Value × ab_M)} (h : ∀ r, o = some r → r.1 = none) : o.bind f = ab_cV o (fun μ => f (none, μ)) := by
  cases o with
  | none => rfl
  | some r =>
    obtain ⟨v, μ⟩ := r
    have hx := h _ rfl
    cases hx
    rfl
theorem ab_bA {o : Option (Option Value × ab_M)} {f : Option Value × ab_M → Option (Option Value × ab_M)} (h : ∀ r, o = some r → ∃ x, r.1 = some (.ref x)) : o.bind f = ab_cA o (fun x μ => f (some (.ref x), μ)) := by
  cases o with
  | none => rfl
  | some r =>
    obtain ⟨v, μ⟩ := r
    obtain ⟨x, hx⟩ := h _ rfl
    cases hx
    rfl
/-- which type a method returns: 0 an int, 1 nothing, 2 a String -/
def ab_rk (k : Nat) : Nat := match ab_rt k with
  | none => 1
  | some (.object _) => 2
  | _ => 0
theorem ab_rk0 (h : ab_rk k = 0) : ∃ ty, ab_rt k = some ty ∧ ab_isObj ty = false := by
  unfold ab_rk at h
  split at h
  · cases h
  · cases h
  · rename_i h1 h2
    cases e : ab_rt k with
    | none => exact absurd e h1
    | some ty =>
      refine ⟨ty, rfl, ?_⟩
      cases ty <;> first | rfl | exact absurd e (h2 _)
theorem ab_rk1 (h : ab_rk k = 1) : ab_rt k = none := by
  unfold ab_rk at h
  split at h
  · assumption
  · cases h
  · cases h
theorem ab_rk2 (h : ab_rk k = 2) : ∃ nm, ab_rt k = some (.object nm) := by
  unfold ab_rk at h
  split at h
  · cases h
  · rename_i nm e; exact ⟨nm, e⟩
  · cases h

theorem e_virI {j r k' : Nat} {as rest : List Value} {L'' : ab_L} (hf : ab_fetch k pc = some (.invokevirtual j, 3)) (hk : ab_mk ab_mlV (ab_own k) j = some k') (hn : as.length = ab_np k') (hr : ab_isRecv E S k' r = true) (hg : (rest.map fun v => v.category).sum ≤ 8 ∧ ((Value.ref r :: as).all fun v => v.category == 1) = true ∧ (Value.ref r :: as).length ≤ ab_mL k') (hst : st = as.reverse ++ .ref r :: rest) (hrk : ab_rk k' = 0) (he : ab_ent k' (.ref r :: as) = L'') : ab_Ev E S (d + 1) k pc L st μ = ab_cI (ab_Ev E S d k' 0 L'' [] μ) (fun x μ' => ab_Ev E S (d + 1) k (pc + 3) L (.int x :: rest) μ') := by
  subst hst; subst he
  exact (ab_Ev_call (ab_c_vir hf hk hn hr hg)).trans (ab_bI (fun r hr9 => by obtain ⟨ty, h1, h2⟩ := ab_rk0 hrk; exact ab_tyI hr9 h1 h2))
theorem e_virV {j r k' : Nat} {as rest : List Value} {L'' : ab_L} (hf : ab_fetch k pc = some (.invokevirtual j, 3)) (hk : ab_mk ab_mlV (ab_own k) j = some k') (hn : as.length = ab_np k') (hr : ab_isRecv E S k' r = true) (hg : (rest.map fun v => v.category).sum ≤ 8 ∧ ((Value.ref r :: as).all fun v => v.category == 1) = true ∧ (Value.ref r :: as).length ≤ ab_mL k') (hst : st = as.reverse ++ .ref r :: rest) (hrk : ab_rk k' = 1) (he : ab_ent k' (.ref r :: as) = L'') : ab_Ev E S (d + 1) k pc L st μ = ab_cV (ab_Ev E S d k' 0 L'' [] μ) (fun μ' => ab_Ev E S (d + 1) k (pc + 3) L rest μ') := by
  subst hst; subst he
  exact (ab_Ev_call (ab_c_vir hf hk hn hr hg)).trans (ab_bV (fun r hr9 => ab_tyV hr9 (ab_rk1 hrk)))
theorem e_virA {j r k' : Nat} {as rest : List Value} {L'' : ab_L} (hf : ab_fetch k pc = some (.invokevirtual j, 3)) (hk : ab_mk ab_mlV (ab_own k) j = some k') (hn : as.length = ab_np k') (hr : ab_isRecv E S k' r = true) (hg : (rest.map fun v => v.category).sum ≤ 8 ∧ ((Value.ref r :: as).all fun v => v.category == 1) = true ∧ (Value.ref r :: as).length ≤ ab_mL k') (hst : st = as.reverse ++ .ref r :: rest) (hrk : ab_rk k' = 2) (he : ab_ent k' (.ref r :: as) = L'') : ab_Ev E S (d + 1) k pc L st μ = ab_cA (ab_Ev E S d k' 0 L'' [] μ) (fun x μ' => ab_Ev E S (d + 1) k (pc + 3) L (.ref x :: rest) μ') := by
  subst hst; subst he
  exact (ab_Ev_call (ab_c_vir hf hk hn hr hg)).trans (ab_bA (fun r hr9 => by obtain ⟨nm, h1⟩ := ab_rk2 hrk; exact ab_tyA hr9 h1))
theorem e_staI {j k' : Nat} {as rest : List Value} {L'' : ab_L} (hf : ab_fetch k pc = some (.invokestatic j, 3)) (hk : ab_mk (ab_mlS ++ ab_mlSN) (ab_own k) j = some k') (hn : as.length = ab_np k') (hg : (rest.map fun v => v.category).sum ≤ 8 ∧ (as.all fun v => v.category == 1) = true ∧ as.length ≤ ab_mL k') (hst : st = as.reverse ++ rest) (hrk : ab_rk k' = 0) (he : ab_ent k' as = L'') : ab_Ev E S (d + 1) k pc L st μ = ab_cI (ab_Ev E S d k' 0 L'' [] μ) (fun x μ' => ab_Ev E S (d + 1) k (pc + 3) L (.int x :: rest) μ') := by
  subst hst; subst he
  exact (ab_Ev_call (ab_c_sta hf hk hn hg)).trans (ab_bI (fun r hr9 => by obtain ⟨ty, h1, h2⟩ := ab_rk0 hrk; exact ab_tyI hr9 h1 h2))
theorem e_staV {j k' : Nat} {as rest : List Value} {L'' : ab_L} (hf : ab_fetch k pc = some (.invokestatic j, 3)) (hk : ab_mk (ab_mlS ++ ab_mlSN) (ab_own k) j = some k') (hn : as.length = ab_np k') (hg : (rest.map fun v => v.category).sum ≤ 8 ∧ (as.all fun v => v.category == 1) = true ∧ as.length ≤ ab_mL k') (hst : st = as.reverse ++ rest) (hrk : ab_rk k' = 1) (he : ab_ent k' as = L'') : ab_Ev E S (d + 1) k pc L st μ = ab_cV (ab_Ev E S d k' 0 L'' [] μ) (fun μ' => ab_Ev E S (d + 1) k (pc + 3) L rest μ') := by
  subst hst; subst he
  exact (ab_Ev_call (ab_c_sta hf hk hn hg)).trans (ab_bV (fun r hr9 => ab_tyV hr9 (ab_rk1 hrk)))
theorem e_staA {j k' : Nat} {as rest : List Value} {L'' : ab_L} (hf : ab_fetch k pc = some (.invokestatic j, 3)) (hk : ab_mk (ab_mlS ++ ab_mlSN) (ab_own k) j = some k') (hn : as.length = ab_np k') (hg : (rest.map fun v => v.category).sum ≤ 8 ∧ (as.all fun v => v.category == 1) = true ∧ as.length ≤ ab_mL k') (hst : st = as.reverse ++ rest) (hrk : ab_rk k' = 2) (he : ab_ent k' as = L'') : ab_Ev E S (d + 1) k pc L st μ = ab_cA (ab_Ev E S d k' 0 L'' [] μ) (fun x μ' => ab_Ev E S (d + 1) k (pc + 3) L (.ref x :: rest) μ') := by
  subst hst; subst he
  exact (ab_Ev_call (ab_c_sta hf hk hn hg)).trans (ab_bA (fun r hr9 => by obtain ⟨nm, h1⟩ := ab_rk2 hrk; exact ab_tyA hr9 h1))
/-- returns -/
theorem e_iret {x : Int32} (hf : ab_fetch k pc = some (.ireturn, 1)) (ht : ab_rt k = some .int) : ab_Ev E S d k pc L [.int x] μ = some (some (.int x), μ) := by
  refine ab_Ev_ret ((ab_core_of hf rfl).trans ?_)
  show ab_retI k [.int x] μ = _
  unfold ab_retI; rw [ht]; simp only; rw [if_pos ⟨rfl, rfl⟩]
theorem e_zret {x : Int32} {ty : FieldType} (hf : ab_fetch k pc = some (.ireturn, 1)) (ht : ab_rt k = some ty) (ho : ab_isObj ty = false) : ab_Ev E S d k pc L [.int x] μ = if narrow ty (.int x) = .int x then some (some (.int x), μ) else none := by
  by_cases h : narrow ty (.int x) = .int x
  · rw [if_pos h]
    refine ab_Ev_ret ((ab_core_of hf rfl).trans ?_)
    show ab_retI k [.int x] μ = _
    unfold ab_retI; rw [ht]; simp only; rw [if_pos ⟨ho, h⟩]
  · rw [if_neg h]
    refine ab_Ev_stuck ((ab_core_of hf rfl).trans ?_)
    show ab_retI k [.int x] μ = _
    unfold ab_retI; rw [ht]; simp only; rw [if_neg (fun q => h q.2)]
theorem e_zretC {x : Int32} {ty : FieldType} (hf : ab_fetch k pc = some (.ireturn, 1)) (ht : ab_rt k = some ty) (ho : ab_isObj ty = false) (h : narrow ty (.int x) = .int x) : ab_Ev E S d k pc L [.int x] μ = some (some (.int x), μ) := by
  rw [e_zret hf ht ho, if_pos h]
theorem e_aret {x : Nat} {nm : String} (hf : ab_fetch k pc = some (.areturn, 1)) (ht : ab_rt k = some (.object nm)) : ab_Ev E S d k pc L [.ref x] μ = some (some (.ref x), μ) := by
  refine ab_Ev_ret ((ab_core_of hf rfl).trans ?_)
  show ab_retA k [.ref x] μ = _
  unfold ab_retA; rw [ht]
theorem e_ret (hf : ab_fetch k pc = some (.return_, 1)) (ht : ab_rt k = none) : ab_Ev E S d k pc L [] μ = some (none, μ) := by
  refine ab_Ev_ret ((ab_core_of hf rfl).trans ?_)
  show ab_retV k [] μ = _
  unfold ab_retV; rw [ht]
end
/-- both arms of a choice, each under what was chosen -/
theorem ab_ite {α : Type} {c : Prop} {a b a' b' : α} [h : Decidable c] (ha : c → a = a') (hb : ¬ c → b = b') : (if c then a else b) = (if c then a' else b') := by
  by_cases hc : c
  · rw [if_pos hc, if_pos hc]; exact ha hc
  · rw [if_neg hc, if_neg hc]; exact hb hc
theorem ab_cI_g {o : Option (Option Value × ab_M)} {f g : Int32 → ab_M → Option (Option Value × ab_M)} (h : ∀ x μ, f x μ = g x μ) : ab_cI o f = ab_cI o g := by
  rw [show f = g from funext fun x => funext fun μ => h x μ]
theorem ab_cV_g {o : Option (Option Value × ab_M)} {f g : ab_M → Option (Option Value × ab_M)} (h : ∀ μ, f μ = g μ) : ab_cV o f = ab_cV o g := by
  rw [show f = g from funext fun μ => h μ]
theorem ab_cA_g {o : Option (Option Value × ab_M)} {f g : Nat → ab_M → Option (Option Value × ab_M)} (h : ∀ x μ, f x μ = g x μ) : ab_cA o f = ab_cA o g := by
  rw [show f = g from funext fun x => funext fun μ => h x μ]
theorem ab_cI_s {x : Int32} {μ : ab_M} {f : Int32 → ab_M → Option (Option Value × ab_M)} : ab_cI (some (some (.int x), μ)) f = f x μ := rfl
theorem ab_cV_s {μ : ab_M} {f : ab_M → Option (Option Value × ab_M)} : ab_cV (some (none, μ)) f = f μ := rfl
theorem ab_cA_s {x : Nat} {μ : ab_M} {f : Nat → ab_M → Option (Option Value × ab_M)} : ab_cA (some (some (.ref x), μ)) f = f x μ := rfl
end
